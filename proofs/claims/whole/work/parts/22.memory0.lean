def gx_m0 (k : Nat) : Nat → Int32 := match k with
  | 44 => fun j => match j with | 1 => (-1 : Int32) | 2 => (-1 : Int32) | _ => 0
  | 46 => fun j => match j with | 1 => (-1 : Int32) | 2 => (-1 : Int32) | _ => 0
  | 48 => fun j => match j with | 1 => (-1 : Int32) | 2 => (-1 : Int32) | _ => 0
  | 50 => fun j => match j with | 1 => (-1 : Int32) | 2 => (-1 : Int32) | _ => 0
  | 52 => fun j => match j with | 1 => (-1 : Int32) | 2 => (-1 : Int32) | _ => 0
  | 54 => fun j => match j with | 1 => (-1 : Int32) | 2 => (-1 : Int32) | _ => 0
  | 63 => upd (upd (fun _ => 0) (0 : Int32).toNatClampNeg (0 : Int32)) (1 : Int32).toNatClampNeg (0 : Int32)
  | 92 => upd (upd (upd (upd (upd (upd (fun _ => 0) (0 : Int32).toNatClampNeg (-1 : Int32)) (1 : Int32).toNatClampNeg (-1 : Int32)) (2 : Int32).toNatClampNeg (-1 : Int32)) (3 : Int32).toNatClampNeg (-1 : Int32)) (4 : Int32).toNatClampNeg (-1 : Int32)) (5 : Int32).toNatClampNeg (-1 : Int32)
  | _ => fun _ => 0
/-- the memory of two new objects -/
def gx_M0 : gx_Mem := (gx_m0, fun _ _ => 0)
theorem gx_D_own {κ : gx_K} {A : Nat → Prop} {M : gx_Mem} (h : va_D A (gx_ws κ M)) : va_D (gx_A κ) (gx_ws κ M) := by
  refine ⟨h.1, fun k q hk => ?_⟩
  cases hd : gx_lay[k]? with
  | none => simp [gx_ws, List.getElem?_map, List.getElem?_zipIdx, hd] at hk
  | some d =>
    rw [gx_at hd] at hk
    cases hk
    exact ⟨k, (List.getElem?_eq_some_iff.mp hd).1, rfl⟩
theorem gx_D_sub {κ : gx_K} {A : Nat → Prop} {M : gx_Mem} (h : va_D A (gx_ws κ M)) : ∀ q : Nat, gx_A κ q → A q := by
  rintro q ⟨k, hk, rfl⟩
  exact h.2 k _ (gx_at (List.getElem?_eq_getElem hk))
theorem nx_toG {κ κ2 : gx_K} {Γ : gx_Γ} {ws : va_W} {nc ns pc : Nat} {lv : List (Nat × Value)} {st : List Value} {M : gx_Mem} (hl : κ2.1 = κ.1) (hDD : κ2.2.1 = κ.2.1) (is : List Nat) (hnd : va_nd is = true) (hm : is.map (fun i => ws[i]?) = (gx_ws κ2 M).map some) (hc : nc ≤ 600000) (hs : ns ≤ 7302250) {p : Program} {e : Env} {R : Room} {s : State} {m : MethodId} {args : Array Value} {below : List Frame} {meth : Method} {c : Code} {A : Nat → Prop} {nL : Nat} {Q : State → Prop} (hΓ : Γ = (p, e, R, s, m, args, below, meth, c, A, nL, 600000, 7302250, Q)) (kk : va_D A (gx_ws κ2 M) → gx_G κ2 Γ pc lv st M) : gx_N κ Γ ws nc ns pc lv st := by
  subst hΓ
  intro H locs ls hP hD hS hl0
  have hf : is.filterMap (fun i => ws[i]?) = gx_ws κ2 M := by
    have e1 : ∀ (l : List Nat) (r : va_W), l.map (fun i => ws[i]?) = r.map some → l.filterMap (fun i => ws[i]?) = r := by
      intro l
      induction l with
      | nil => intro r h; cases r with
        | nil => rfl
        | cons _ _ => cases h
      | cons a l ih => intro r h; cases r with
        | nil => cases h
        | cons x r =>
          simp only [List.map_cons, List.cons.injEq] at h
          rw [List.filterMap_cons, h.1]
          simp only [ih r h.2]
    exact e1 _ _ hm
  have hP2 := hP.sub is hf
  have hD2 := hD.sub is hnd hm
  rw [← hDD] at hP2
  have k := kk hD2 H locs ls hP2 hS hl0
  rw [hl] at k
  exact W.widen hc hs k

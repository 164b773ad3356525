/-! THE LAW: its lines; a line is its first text (empty: none) and its other one -/
def zz_ln (b : Nat → Int32) (p : Nat) : Nat × Option (List (Int32 × Int32) × List (Int32 × Int32)) :=
  match zz_sp b gx_dep 0 0 p with
  | (q, none) => (q, none)
  | (q, some c) => if b q = 63 then (match zz_sp b gx_dep 0 0 (q + 1) with
    | (q2, none) => (q2, none)
    | (q2, some c2) => (q2, some (c, c2))) else (q, some ([], c))
def zz_lns (b : Nat → Int32) (sz : Nat) : Nat → Nat → List (List (Int32 × Int32) × List (Int32 × Int32)) → Nat × Option (List (List (Int32 × Int32) × List (Int32 × Int32)))
  | 0, p, _ => (p, none)
  | k + 1, p, ls => match zz_ln b p with
    | (q, none) => (q, none)
    | (q, some l) => if sz ≤ q then (q, some (ls ++ [l])) else if b q = 59 then zz_lns b sz k (q + 1) (ls ++ [l]) else (q, none)
/-- a line as the class keeps it -/
def zz_fl (l : List (Int32 × Int32) × List (Int32 × Int32)) : List (Int32 × Int32) := (if l.1 = [] then [] else l.1 ++ [(63, 0)]) ++ l.2 ++ [(59, 0)]
def zz_fls : List (List (Int32 × Int32) × List (Int32 × Int32)) → List (Int32 × Int32)
  | [] => []
  | l :: ls => zz_fl l ++ zz_fls ls
theorem zz_fls_app (l2 : List (List (Int32 × Int32) × List (Int32 × Int32))) : ∀ l, zz_fls (l ++ l2) = zz_fls l ++ zz_fls l2
  | [] => rfl
  | l :: ls => by
    show zz_fl l ++ zz_fls (ls ++ l2) = zz_fl l ++ zz_fls ls ++ zz_fls l2
    rw [zz_fls_app l2 ls, List.append_assoc]
def zz_lwf (l : List (Int32 × Int32) × List (Int32 × Int32)) : Prop := (l.1 = [] ∨ zz_wf l.1) ∧ zz_wf l.2
def zz_lgood (sz p : Nat) (r : Nat × Option (List (Int32 × Int32) × List (Int32 × Int32))) : Prop := match r.2 with
  | none => p ≤ r.1 ∧ r.1 ≤ sz
  | some l => p < r.1 ∧ r.1 ≤ sz ∧ (zz_fl l).length + p ≤ r.1 + 1 ∧ l.1.length + l.2.length + p ≤ r.1 ∧ zz_lwf l
theorem zz_ln_gp {b : Nat → Int32} {sz : Nat} (hb : ∀ p, sz ≤ p → b p = -1) {p : Nat} (hp : p ≤ sz) : zz_lgood sz p (zz_ln b p) := by
  have g := zz_sp_gp hb gx_dep 0 0 p hp
  unfold zz_ln
  rcases hr : zz_sp b gx_dep 0 0 p with ⟨q, r⟩
  rw [hr] at g
  cases r with
  | none => exact g
  | some c =>
    obtain ⟨g1, g2, g3, g4⟩ := g
    dsimp only at g1 g2 g3
    dsimp only
    by_cases c1 : b q = 63
    · rw [if_pos c1]
      have hq : q < sz := by
        rcases Nat.lt_or_ge q sz with w | w
        · exact w
        · rw [hb q w] at c1; exact absurd c1 (by decide)
      have gg := zz_sp_gp hb gx_dep 0 0 (q + 1) hq
      rcases hr2 : zz_sp b gx_dep 0 0 (q + 1) with ⟨q2, r2⟩
      rw [hr2] at gg
      cases r2 with
      | none =>
        obtain ⟨gg1, gg2⟩ := gg
        dsimp only at gg1
        exact ⟨show p ≤ q2 by omega, gg2⟩
      | some c2 =>
        obtain ⟨gg1, gg2, gg3, gg4⟩ := gg
        dsimp only at gg1 gg2 gg3
        refine ⟨show p < q2 by omega, gg2, ?_, show c.length + c2.length + p ≤ q2 by omega, .inr g4, gg4⟩
        unfold zz_fl
        dsimp only
        rw [if_neg (zz_wf_ne g4)]
        simp only [List.length_append]
        show c.length + 1 + c2.length + 1 + p ≤ q2 + 1
        omega
    · rw [if_neg c1]
      refine ⟨g1, g2, ?_, show 0 + c.length + p ≤ q by omega, .inl rfl, g4⟩
      unfold zz_fl
      dsimp only
      rw [if_pos rfl]
      simp only [List.length_append]
      show 0 + c.length + 1 + p ≤ q + 1
      omega
theorem zz_line7 {A : gx_Mem} {sz : Nat} (hA : A.1 5 3 = nI sz) (hs : sz ≤ 120) {M : gx_Mem} {p : Nat} {acc : List (Int32 × Int32)} (ht : zz_t7 A M p) (hh : zz_has7 M acc) (hacc : acc.length ≤ p) (hp : p ≤ sz) :
    match zz_ln (zz_b7 A sz) p with
    | (q, none) => ∃ (y : Bool) (M2 : gx_Mem), f_X6_readLine M = some (zz_i y, M2) ∧ zz_t7 A M2 q ∧ (y = false ∨ zz_dg (zz_b7 A sz q) = true)
    | (q, some l) => ∃ M2, f_X6_readLine M = some (1, M2) ∧ zz_t7 A M2 q ∧ zz_has7 M2 (acc ++ zz_fl l) := by
  have hb := zz_b7_out A sz
  have rd := fun (M : gx_Mem) (p : Nat) (acc : List (Int32 × Int32)) => (zz_read7 hA hs gx_dep 0 (by decide)).1 0 (by decide) (by decide) M p acc
  have g := zz_sp_gp hb gx_dep 0 0 p hp
  have r := rd M p acc ht hh hacc hp
  unfold f_X6_readLine f_X6_readLine_b48 zz_ln
  rw [show f_X6_readLevel gx_dep (0 : Int32) (0 : Int32) M = f_X6_readLevel gx_dep (nI 0) (nI 0) M from rfl]
  rcases hr : zz_sp (zz_b7 A sz) gx_dep 0 0 p with ⟨q, r'⟩
  rw [hr] at g r
  cases r' with
  | none =>
    obtain ⟨y, M2, r1, r2, ⟨cc, r3, r4⟩, r5⟩ := r
    dsimp only at r2 r5
    rw [r1, zz_bIs]
    cases y with
    | false =>
      rw [if_pos (show zz_i false = 0 from rfl)]
      exact ⟨false, M2, rfl, r2, .inl rfl⟩
    | true =>
      have hd : zz_dg (zz_b7 A sz q) = true := by
        rcases r5 with r5 | r5
        · cases r5
        · exact r5
      rw [if_neg (show ¬ zz_i true = 0 by decide), zz_next7 hA hs r2 g.2, zz_bPs, if_neg (zz_dg9 hd).2.2.1]
      obtain ⟨M3, m1, m2, -, -⟩ := zz_emit7 r2 r3 r4 59 0
      rw [m1, zz_bPs]
      exact ⟨true, M3, rfl, m2, .inr hd⟩
  | some c =>
    obtain ⟨M2, r1, r2, r3⟩ := r
    obtain ⟨g1, g2, g3, g4⟩ := g
    dsimp only at r2 g1 g2 g3
    have hl1 : (acc ++ c).length ≤ q := by rw [List.length_append]; omega
    rw [r1, zz_bIs, if_neg (show ¬ (1 : Int32) = 0 by decide), zz_next7 hA hs r2 g2, zz_bPs]
    dsimp only
    by_cases c1 : zz_b7 A sz q = 63
    · rw [if_pos c1, if_pos c1, r2.2, show nI q + 1 = nI (q + 1) from zz_add q 1, zz_let]
      have hq : q < sz := by
        rcases Nat.lt_or_ge q sz with w | w
        · exact w
        · rw [hb q w] at c1; exact absurd c1 (by decide)
      obtain ⟨cc, r4, r5⟩ := (r3.go (nI (q + 1))).c
      obtain ⟨M3, m1, m2, -, m4⟩ := zz_emit7 (r2.go (q + 1)) r4 r5 63 0
      have m5 := m4 _ (r3.go _) (by omega)
      rw [m1, zz_bPs]
      have gg := zz_sp_gp hb gx_dep 0 0 (q + 1) hq
      have rr := rd M3 (q + 1) (acc ++ c ++ [(63, 0)]) m2 m5 (by rw [List.length_append]; show _ + 1 ≤ q + 1; omega) hq
      rw [show f_X6_readLevel gx_dep (0 : Int32) (0 : Int32) M3 = f_X6_readLevel gx_dep (nI 0) (nI 0) M3 from rfl]
      rcases hr2 : zz_sp (zz_b7 A sz) gx_dep 0 0 (q + 1) with ⟨q2, r2'⟩
      rw [hr2] at gg rr
      cases r2' with
      | none =>
        obtain ⟨y, M4, n1, n2, ⟨c4, n3, n4⟩, n5⟩ := rr
        dsimp only at n2 n5
        rw [n1, zz_bIs]
        cases y with
        | false =>
          rw [if_pos (show zz_i false = 0 from rfl)]
          exact ⟨false, M4, rfl, n2, .inl rfl⟩
        | true =>
          have hd : zz_dg (zz_b7 A sz q2) = true := by
            rcases n5 with n5 | n5
            · cases n5
            · exact n5
          rw [if_neg (show ¬ zz_i true = 0 by decide)]
          obtain ⟨M5, k1, k2, -, -⟩ := zz_emit7 n2 n3 n4 59 0
          rw [k1, zz_bPs]
          exact ⟨true, M5, rfl, k2, .inr hd⟩
      | some c2 =>
        obtain ⟨M4, n1, n2, n3⟩ := rr
        obtain ⟨gg1, gg2, gg3, gg4⟩ := gg
        dsimp only at n2 gg1 gg2 gg3
        rw [n1, zz_bIs, if_neg (show ¬ (1 : Int32) = 0 by decide)]
        obtain ⟨c4, n4, n5⟩ := n3.c
        obtain ⟨M5, k1, k2, -, k4⟩ := zz_emit7 n2 n4 n5 59 0
        have k5 := k4 _ n3 (by
          simp only [List.length_append] at hl1 ⊢
          show acc.length + c.length + 1 + c2.length < 128
          omega)
        rw [k1, zz_bPs]
        refine ⟨M5, rfl, k2, ?_⟩
        unfold zz_fl
        dsimp only
        rw [if_neg (zz_wf_ne g4)]
        simp only [List.append_assoc] at k5 ⊢
        exact k5
    · rw [if_neg c1, if_neg c1]
      obtain ⟨c4, n4, n5⟩ := r3.c
      obtain ⟨M5, k1, k2, -, k4⟩ := zz_emit7 r2 n4 n5 59 0
      have k5 := k4 _ r3 (by omega)
      rw [k1, zz_bPs]
      refine ⟨M5, rfl, k2, ?_⟩
      unfold zz_fl
      dsimp only
      rw [if_pos rfl, List.nil_append]
      rw [List.append_assoc] at k5
      exact k5
theorem zz_lines7 {A : gx_Mem} {sz : Nat} (hA : A.1 5 3 = nI sz) (hs : sz ≤ 120) : ∀ k (M : gx_Mem) (p : Nat) (ls : List (List (Int32 × Int32) × List (Int32 × Int32))) (n : Nat), k ≤ 121 → k < n → zz_t7 A M p → zz_has7 M (zz_fls ls) → (zz_fls ls).length ≤ p → p ≤ sz →
    match zz_lns (zz_b7 A sz) sz k p ls with
    | (q, none) => ∃ M2, f_X6_read_l12 n (nI (121 - k)) M = some (0, M2) ∧ zz_t7 A M2 q
    | (q, some l) => ∃ M2, f_X6_read_l12 n (nI (121 - k)) M = some (1, M2) ∧ zz_t7 A M2 q ∧ zz_has7 M2 (zz_fls l) := by
  intro k
  induction k with
  | zero =>
    intro M p ls n _ hn ht _ _ _
    obtain ⟨n, rfl⟩ : ∃ m, n = m + 1 := ⟨n - 1, by omega⟩
    refine ⟨M, ?_, ht⟩
    show f_X6_read_k12 (fun v1 M => f_X6_read_l12 n v1 M) (nI 121) M = _
    unfold f_X6_read_k12
    rw [if_pos (show (120 : Int32) < nI 121 by decide)]
  | succ k ih =>
    intro M p ls n hk hn ht hh hacc hp
    obtain ⟨n, rfl⟩ : ∃ m, n = m + 1 := ⟨n - 1, by omega⟩
    have hb := zz_b7_out A sz
    have hl := zz_line7 hA hs ht hh hacc hp
    have gl := zz_ln_gp hb hp
    have e : f_X6_read_l12 (n + 1) (nI (121 - (k + 1))) M = f_X6_read_k12 (fun v1 M => f_X6_read_l12 n v1 M) (nI (121 - (k + 1))) M := rfl
    rw [e]
    unfold f_X6_read_k12 zz_lns
    rw [if_neg (show ¬ (120 : Int32) < nI (121 - (k + 1)) by rw [show (120 : Int32) = nI 120 from rfl, zz_lt (by decide) (by omega)]; omega)]
    rcases hr : zz_ln (zz_b7 A sz) p with ⟨q, r'⟩
    rw [hr] at hl gl
    cases r' with
    | none =>
      obtain ⟨y, M2, r1, r2, r5⟩ := hl
      obtain ⟨g1, g2⟩ := gl
      dsimp only at g1 g2
      rw [r1, zz_bIs]
      cases y with
      | false =>
        rw [if_pos (show zz_i false = 0 from rfl)]
        exact ⟨M2, rfl, r2⟩
      | true =>
        have hd : zz_dg (zz_b7 A sz q) = true := by
          rcases r5 with r5 | r5
          · cases r5
          · exact r5
        have hq : q < sz := by
          rcases Nat.lt_or_ge q sz with w | w
          · exact w
          · rw [hb q w] at hd; exact absurd hd (by decide)
        rw [if_neg (show ¬ zz_i true = 0 by decide), r2.2, r2.1.2 5 3 rfl, hA, if_pos (nI_lt hq (by omega)), zz_next7 hA hs r2 g2, zz_bPs, if_neg (zz_dg9 hd).2.2.2.1]
        exact ⟨M2, rfl, r2⟩
    | some l =>
      obtain ⟨M2, r1, r2, r3⟩ := hl
      obtain ⟨g1, g2, g3, -, -⟩ := gl
      dsimp only at g1 g2 g3
      have r4 : zz_has7 M2 (zz_fls (ls ++ [l])) := by
        rw [zz_fls_app]
        show zz_has7 M2 (zz_fls ls ++ (zz_fl l ++ []))
        rw [List.append_nil]; exact r3
      rw [r1, zz_bIs, if_neg (show ¬ (1 : Int32) = 0 by decide), r2.2, r2.1.2 5 3 rfl, hA]
      dsimp only
      by_cases c1 : sz ≤ q
      · rw [if_pos c1, if_neg (nI_nlt c1 (by omega))]
        exact ⟨M2, rfl, r2, r4⟩
      · rw [if_neg c1, if_pos (nI_lt (by omega) (by omega)), zz_next7 hA hs r2 g2, zz_bPs]
        by_cases c2 : zz_b7 A sz q = 59
        · rw [if_pos c2, if_pos c2, show nI q + 1 = nI (q + 1) from zz_add q 1, zz_let, show nI (121 - (k + 1)) + 1 = nI (121 - k) from by rw [show (1 : Int32) = nI 1 from rfl, zz_add]; congr 1; omega, zz_let]
          refine ih (gx_sI M2 5 4 (nI (q + 1))) (q + 1) (ls ++ [l]) n (by omega) (by omega) (r2.go (q + 1)) (r4.go _) ?_ (by omega)
          rw [zz_fls_app, List.length_append]
          show (zz_fls ls).length + (zz_fl l ++ []).length ≤ q + 1
          rw [List.append_nil]
          omega
        · rw [if_neg c2, if_neg c2]
          exact ⟨M2, rfl, r2⟩

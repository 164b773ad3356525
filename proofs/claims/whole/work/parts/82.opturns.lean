/-! BY TURNS on the model's side -/
def zz_SI (k i : Nat) : Bool := k == 74 || k == 75 || k == 80 || k == 81 || (k == 57 && i == 28)
theorem zz_SH_SI : ∀ k i, zz_SH k i = true → zz_SI k i = true := fun k i h => by
  simp [zz_SH] at h
  rcases h with ((rfl | rfl) | rfl) | rfl <;> rfl
theorem zz_SI_SG : ∀ k i, zz_SI k i = true → zz_SG k i = true := fun k i h => by
  simp [zz_SI] at h
  rcases h with (((rfl | rfl) | rfl) | rfl) | ⟨rfl, rfl⟩ <;> rfl
/-- the model is set to turns -/
def zz_tm (M A : gx_Mem) (one foe m n : Nat) : Prop := zz_h8 A (zz_H M) ∧ A.1 57 40 = nI one ∧ A.1 57 41 = nI foe ∧ A.1 57 42 = nI m ∧ A.1 57 43 = nI n ∧ A.1 63 1 = nI (zz_h0 M) ∧ (∀ i, A.1 59 i = M.1 59 i)
theorem zz_tm.fr {M A B : gx_Mem} {one foe m n : Nat} (h : zz_tm M A one foe m n) (f : zz_fr zz_SI A B) : zz_tm M B one foe m n := by
  obtain ⟨a, b, c, d, e, g, i⟩ := h
  exact ⟨a.frG (f.mono zz_SI_SG), (f.2 57 40 rfl).trans b, (f.2 57 41 rfl).trans c, (f.2 57 42 rfl).trans d, (f.2 57 43 rfl).trans e, (f.2 63 1 rfl).trans g, fun j => (f.2 59 j rfl).trans (i j)⟩
/-- what one may still come to from the k'th hour on -/
def zz_tl (T : Nat → Nat) (n k : Nat) : Nat := zz_su (fun j => T (k + j)) (n - k)
theorem zz_tlS (T : Nat → Nat) {n k : Nat} (h : k < n) : zz_tl T n k = T k + zz_tl T n (k + 1) := by
  unfold zz_tl
  have e := zz_su_add (fun j => T (k + j)) 1 (n - (k + 1))
  rw [show 1 + (n - (k + 1)) = n - k by omega] at e
  rw [e, zz_su_cong (f := fun i => T (k + (1 + i))) (g := fun j => T (k + 1 + j)) _ (fun i _ => by rw [Nat.add_assoc])]
  show 0 + T (k + 0) + _ = _
  rw [Nat.zero_add, Nat.add_zero]
theorem zz_tlN (T : Nat → Nat) (n : Nat) : zz_tl T n n = 0 := by
  unfold zz_tl
  rw [Nat.sub_self]; rfl
theorem zz_tl0 (T : Nat → Nat) (n : Nat) : zz_tl T n 0 = zz_su T n := by
  unfold zz_tl
  rw [Nat.sub_zero]
  exact zz_su_cong _ (fun i _ => by rw [Nat.zero_add])
/-- the best from the k'th hour on is what it is said to be, at depth d -/
def zz_bo (M : gx_Mem) (one foe m n : Nat) (T : Nat → Nat) (d k : Nat) : Prop := ∀ (A : gx_Mem) (w : Nat), zz_tm M A one foe m n → zz_fr zz_sc M A → w ≤ 9999 → ∃ B, f_X8_bestOf d (nI k) (nI w) A = some (nI (min 9999 (w + zz_tl T n k)), B) ∧ zz_fr zz_SI A B
theorem zz_byOut {M : gx_Mem} {lv : Nat → Nat → Nat → Nat → Nat → Nat → Nat} (h : zz_IH M) (hlv : ∀ a w i f m n, lv a w i f m n ≤ a) (hL : zz_LM lv M) {one foe m n k d : Nat} {T : Nat → Nat} (ho : one < (zz_H M).n) (hfo : foe < (zz_H M).n) (hm : m < 4) (hk : k < 6) (ih : zz_bo M one foe m n T d (k + 1)) {A : gx_Mem} (hA : zz_tm M A one foe m n) (fA : zz_fr zz_sc M A) {w : Nat} (hw : w ≤ 9999) (c : Bool) :
    ∃ B, f_X8_byOut (d + 1) (nI k) (nI w) (zz_i c) A = some (nI (min 9999 (w + (if c = true then zz_tg lv (zz_H M) (zz_O M) one foe m k else zz_ts lv (zz_H M) (zz_O M) one foe m k) + zz_tl T n (k + 1))), B) ∧ zz_fr zz_SI A B := by
  have ok := (zz_Hok h).1
  have h6 := ok.1
  obtain ⟨g1, g2, g3, g4, g5, g6, g7⟩ := hA
  have hak : zz_ak one foe k < 6 := by unfold zz_ak; split <;> omega
  -- the sets
  generalize hX : (if c = true then zz_O M k &&& (gx_shl 1 (nI (zz_ak one foe k)) ^^^ (-1 : Int32)) ||| gx_shl 1 (nI (zz_ak one foe k)) else zz_O M k &&& (gx_shl 1 (nI (zz_ak one foe k)) ^^^ (-1 : Int32))) = X
  have hdr : zz_dr lv (zz_H M) X one m = if c = true then zz_tg lv (zz_H M) (zz_O M) one foe m k else zz_ts lv (zz_H M) (zz_O M) one foe m k := by
    rw [← hX]
    cases c with
    | false => rw [if_neg (by decide), if_neg (by decide)]; rfl
    | true =>
      rw [if_pos rfl, if_pos rfl]
      refine zz_dr_cong (fun p hp => ?_) one m
      have hp6 : p < 6 := by omega
      rw [zz_b_or _ _ hp6, zz_b_and _ _ hp6, zz_b_or _ _ hp6, zz_b_not _ hak p hp6, zz_b_1 _ hak p hp6]
      cases zz_b (zz_O M k) p <;> cases decide (p = zz_ak one foe k) <;> rfl
  rw [← hdr]
  have hle := zz_dr_le hlv ok X hm one
  -- the flow
  have fB : zz_fr zz_SI A (gx_sI A 57 28 X) := zz_fr.rf.sI rfl
  obtain ⟨C, e1, f1, w1⟩ := zz_flow (M := gx_sI A 57 28 X) (o := X) ok (g1.frG (fB.mono zz_SI_SG)) rfl hlv (hL.tr ((zz_lwM.sc fA).tr (zz_lwM.sc (fB.mono (fun k i q => zz_SG_sc k i (zz_SI_SG k i q)))))) hm
  have fC := fB.tr (f1.mono (fun k i q => zz_SH_SI k i (zz_SF_SH k i q)))
  have tC : zz_tm M C one foe m n := zz_tm.fr ⟨g1, g2, g3, g4, g5, g6, g7⟩ fC
  obtain ⟨B, e2, f2⟩ := ih C (min 9999 (w + zz_dr lv (zz_H M) X one m)) tC (fA.tr (fC.mono (fun k i q => zz_SG_sc k i (zz_SI_SG k i q)))) (by omega)
  refine ⟨B, ?_, fC.tr f2⟩
  have c28 : C.1 57 28 = X := f1.2 57 28 (zz_SF0 (by decide) (by decide) (by decide) (by decide))
  have b62 : f_X8_byOut_b62 (f_X8_bestOf d) (f_X8_byOut d) (nI k) (nI w) X A = some (nI (min 9999 (w + zz_dr lv (zz_H M) X one m + zz_tl T n (k + 1))), B) := by
    have fin : ∀ x, x = w + zz_dr lv (zz_H M) X one m → f_X8_byOut_b105 (f_X8_bestOf d) (f_X8_byOut d) (nI k) (nI x) C = some (nI (min 9999 (w + zz_dr lv (zz_H M) X one m + zz_tl T n (k + 1))), B) := by
      intro x hx
      subst hx
      unfold f_X8_byOut_b105 f_X8_byOut_b127
      simp only [show nI k + 1 = nI (k + 1) from zz_add k 1, show (9999 : Int32) = nI 9999 from rfl, zz_le (show w + zz_dr lv (zz_H M) X one m < 2147483648 by omega) (show 9999 < 2147483648 by decide)]
      have e3 : gx_bI (f_X8_bestOf d (nI (k + 1)) (nI (min 9999 (w + zz_dr lv (zz_H M) X one m))) C) (fun y12 M13 => some (y12, M13)) = some (nI (min 9999 (w + zz_dr lv (zz_H M) X one m + zz_tl T n (k + 1))), B) := by
        rw [e2, zz_bIs]
        refine congrArg some (Prod.ext ?_ rfl)
        show nI _ = nI _
        congr 1
        omega
      by_cases cc : w + zz_dr lv (zz_H M) X one m ≤ 9999
      · rw [if_pos cc]
        rw [show min 9999 (w + zz_dr lv (zz_H M) X one m) = w + zz_dr lv (zz_H M) X one m by omega] at e3
        exact e3
      · rw [if_neg cc]
        rw [show min 9999 (w + zz_dr lv (zz_H M) X one m) = 9999 by omega] at e3
        exact e3
    unfold f_X8_byOut_b62
    rw [zz_let, show (gx_sI A 57 28 X).1 57 42 = nI m from g4, e1, zz_bPs, c28, tC.2.1, zz_has8, zz_bPs, tC.2.2.2.1]
    cases hb : zz_b X one with
    | false =>
      rw [if_pos (show zz_i false = 0 from rfl)]
      have h0 : zz_dr lv (zz_H M) X one m = 0 := by unfold zz_dr; rw [if_neg (by rw [hb]; rintro ⟨-, q⟩; cases q)]
      exact fin w (by rw [h0]; rfl)
    | true =>
      rw [if_neg (show ¬ zz_i true = 0 by decide), zz_wetsBy ok tC.1 hlv ho hm w1 hb, zz_bPs, zz_add]
      exact fin _ rfl
  have b17 : f_X8_byOut_b17 (f_X8_bestOf d) (f_X8_byOut d) (nI k) (nI w) (zz_i c) (nI (zz_ak one foe k)) A = some (nI (min 9999 (w + zz_dr lv (zz_H M) X one m + zz_tl T n (k + 1))), B) := by
    unfold f_X8_byOut_b17
    rw [show A.1 63 (1 : Int32).toNatClampNeg = nI (zz_h0 M) from g6, zz_add, show (12 : Int32) = nI 12 from rfl, zz_rem (by have := (zz_h0ok h).2.1; omega) (by decide) (by decide), zz_o8 (M := M) (A := A) h (fA.2 57 1 rfl) g7, zz_bPs, zz_let]
    rw [← hX] at b62
    cases c with
    | false =>
      rw [if_neg (by decide)] at b62
      rw [if_pos (show zz_i false = 0 from rfl), ← hX, if_neg (by decide)]
      exact b62
    | true =>
      rw [if_pos rfl] at b62
      rw [if_neg (show ¬ zz_i true = 0 by decide), ← hX, if_pos rfl]
      exact b62
  show f_X8_byOut_o (f_X8_bestOf d) (f_X8_byOut d) (nI k) (nI w) (zz_i c) A = _
  unfold f_X8_byOut_o
  rw [show (2 : Int32) = nI 2 from rfl, zz_rem (by omega) (by decide) (by decide), g2, g3]
  by_cases c2 : k % 2 = 0
  · rw [if_pos (show nI (k % 2) = 0 by rw [c2]; rfl)]
    rw [show zz_ak one foe k = one from if_pos c2] at b17
    exact b17
  · rw [if_neg (show ¬ nI (k % 2) = 0 from nI_ne0 (by omega) (by omega))]
    rw [show zz_ak one foe k = foe from if_neg c2] at b17
    exact b17
theorem zz_bestOf {M : gx_Mem} {lv : Nat → Nat → Nat → Nat → Nat → Nat → Nat} (h : zz_IH M) (hlv : ∀ a w i f m n, lv a w i f m n ≤ a) (hL : zz_LM lv M) {one foe m n : Nat} (ho : one < (zz_H M).n) (hfo : foe < (zz_H M).n) (hm : m < 4) (hn : n ≤ 6) : ∀ r k d, k + r = n → 2 * r + 1 ≤ d → zz_bo M one foe m n (zz_tk lv (zz_H M) (zz_O M) one foe m) d k := by
  intro r
  induction r with
  | zero =>
    intro k d hk hd A w hA fA hw
    obtain ⟨d, rfl⟩ : ∃ e, d = e + 1 := ⟨d - 1, by omega⟩
    have : k = n := by omega
    subst this
    refine ⟨A, ?_, zz_fr.rf⟩
    show f_X8_bestOf_o (f_X8_bestOf d) (f_X8_byOut d) (nI k) (nI w) A = _
    unfold f_X8_bestOf_o
    rw [hA.2.2.2.2.1, if_pos rfl, zz_tlN, show min 9999 (w + 0) = w by omega]
  | succ r ihr =>
    intro k d hk hd A w hA fA hw
    obtain ⟨d, rfl⟩ : ∃ e, d = e + 2 := ⟨d - 2, by omega⟩
    have ih := ihr (k + 1) d (by omega) (by omega)
    have ok := (zz_Hok h).1
    obtain ⟨B, e1, f1⟩ := zz_byOut h hlv hL ho hfo hm (show k < 6 by omega) ih hA fA hw false
    obtain ⟨C, e2, f2⟩ := zz_byOut h hlv hL ho hfo hm (show k < 6 by omega) ih (hA.fr f1) (fA.tr (f1.mono (fun k i q => zz_SG_sc k i (zz_SI_SG k i q)))) hw true
    rw [show zz_i false = (0 : Int32) from rfl, if_neg (by decide)] at e1
    rw [show zz_i true = (1 : Int32) from rfl, if_pos rfl] at e2
    refine ⟨C, ?_, f1.tr f2⟩
    show f_X8_bestOf_o (f_X8_bestOf (d + 1)) (f_X8_byOut (d + 1)) (nI k) (nI w) A = _
    unfold f_X8_bestOf_o
    rw [hA.2.2.2.2.1, if_neg (show ¬ nI k = nI n by rw [zz_eq (by omega) (by omega)]; omega), e1, zz_bIs, e2, zz_bIs, zz_tlS _ (show k < n by omega), show (2 : Int32) = nI 2 from rfl, zz_rem (by omega) (by decide) (by decide)]
    have tk : zz_tk lv (zz_H M) (zz_O M) one foe m k = if k % 2 = 0 then max (zz_tg lv (zz_H M) (zz_O M) one foe m k) (zz_ts lv (zz_H M) (zz_O M) one foe m k) else min (zz_tg lv (zz_H M) (zz_O M) one foe m k) (zz_ts lv (zz_H M) (zz_O M) one foe m k) := rfl
    generalize zz_tl (zz_tk lv (zz_H M) (zz_O M) one foe m) n (k + 1) = t at *
    rw [tk]
    generalize zz_tg lv (zz_H M) (zz_O M) one foe m k = x at *
    generalize zz_ts lv (zz_H M) (zz_O M) one foe m k = y at *
    simp only [zz_le (show min 9999 (w + x + t) < 2147483648 by omega) (show min 9999 (w + y + t) < 2147483648 by omega), zz_le (show min 9999 (w + y + t) < 2147483648 by omega) (show min 9999 (w + x + t) < 2147483648 by omega)]
    by_cases c2 : k % 2 = 0
    · rw [if_pos (show nI (k % 2) = 0 by rw [c2]; rfl), if_pos c2]
      by_cases c3 : min 9999 (w + x + t) ≤ min 9999 (w + y + t)
      · rw [if_pos c3, show min 9999 (w + (max x y + t)) = min 9999 (w + y + t) by omega]
      · rw [if_neg c3, show min 9999 (w + (max x y + t)) = min 9999 (w + x + t) by omega]
    · rw [if_neg (show ¬ nI (k % 2) = 0 from nI_ne0 (by omega) (by omega)), if_neg c2]
      by_cases c3 : min 9999 (w + y + t) ≤ min 9999 (w + x + t)
      · rw [if_pos c3, show min 9999 (w + (min x y + t)) = min 9999 (w + y + t) by omega]
      · rw [if_neg c3, show min 9999 (w + (min x y + t)) = min 9999 (w + x + t) by omega]

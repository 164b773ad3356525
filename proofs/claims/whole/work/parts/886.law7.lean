/-! THE LAW: the class's reader -/
def zz_lvI (x : Int32) : Int32 := if zz_lvO x < 5 then nI (zz_lvO x) else -1
theorem zz_levelOf (x : Int32) (M : gx_Mem) : f_X6_levelOf x M = some (zz_lvI x) := by
  by_cases h1 : x = 37
  · subst h1; rfl
  by_cases h2 : x = 38
  · subst h2; rfl
  by_cases h3 : x = 42
  · subst h3; rfl
  by_cases h4 : x = 43
  · subst h4; rfl
  by_cases h5 : x = 45
  · subst h5; rfl
  by_cases h6 : x = 47
  · subst h6; rfl
  by_cases h7 : x = 60
  · subst h7; rfl
  by_cases h8 : x = 61
  · subst h8; rfl
  by_cases h9 : x = 62
  · subst h9; rfl
  by_cases h10 : x = 124
  · subst h10; rfl
  unfold f_X6_levelOf zz_lvI zz_lvO
  simp only [if_neg h1, if_neg h2, if_neg h3, if_neg h4, if_neg h5, if_neg h6, if_neg h7, if_neg h8, if_neg h9, if_neg h10]
  rfl
theorem zz_lvI_iff {x : Int32} {L : Nat} (hL : L < 5) : (zz_lvI x = nI L) = (zz_lvO x = L) := by
  unfold zz_lvI
  by_cases c : zz_lvO x < 5
  · rw [if_pos c, zz_eq (by omega) (by omega)]
  · rw [if_neg c]
    refine propext ⟨fun h => ?_, fun h => by omega⟩
    have := congrArg Int32.toInt h
    rw [nI_toInt (by omega)] at this
    have e : (-1 : Int32).toInt = -1 := rfl
    omega
def zz_naI (x : Int32) : Int32 := match zz_na x with
  | some k => nI k
  | none => -1
theorem zz_nameOf7 (x : Int32) (M : gx_Mem) : f_X6_nameOf x M = some (zz_naI x) := by
  by_cases h1 : x = 97
  · subst h1; rfl
  by_cases h2 : x = 102
  · subst h2; rfl
  by_cases h3 : x = 105
  · subst h3; rfl
  by_cases h4 : x = 109
  · subst h4; rfl
  by_cases h5 : x = 110
  · subst h5; rfl
  by_cases h6 : x = 119
  · subst h6; rfl
  unfold f_X6_nameOf zz_naI zz_na
  simp only [if_neg h1, if_neg h2, if_neg h3, if_neg h4, if_neg h5, if_neg h6]
theorem zz_dgT {x : Int32} (h : zz_dg x = true) : ∃ j : Nat, 48 ≤ j ∧ j ≤ 57 ∧ x = nI j := by
  have h := of_decide_eq_true h
  have h0 : ¬ x < 0 := by
    have := h.1
    rw [zz_ltI, show (48 : Int32).toInt = 48 from rfl] at this
    rw [zz_ltI, zz_t0]
    omega
  obtain ⟨j, hj, rfl⟩ := nI_of h0
  have a := h.1
  have b := h.2
  rw [show (48 : Int32) = nI 48 from rfl, zz_lt hj (by decide)] at a
  rw [show (57 : Int32) = nI 57 from rfl, zz_lt (by decide) hj] at b
  exact ⟨j, by omega, by omega, rfl⟩
theorem zz_dgF : ∀ j, j < 58 → 48 ≤ j → zz_lvO (nI j) = 9 ∧ ¬ nI j = 41 ∧ ¬ nI j = 63 ∧ ¬ nI j = 59 ∧ zz_na (nI j) = none ∧ ¬ nI j = 40 ∧ ¬ nI j = 33 ∧ ¬ nI j = 45 := by decide
theorem zz_dg9 {x : Int32} (h : zz_dg x = true) : zz_lvO x = 9 ∧ ¬ x = 41 ∧ ¬ x = 63 ∧ ¬ x = 59 ∧ zz_na x = none ∧ ¬ x = 40 ∧ ¬ x = 33 ∧ ¬ x = 45 := by
  obtain ⟨j, h1, h2, rfl⟩ := zz_dgT h
  exact zz_dgF j (by omega) h1
def zz_S7 (k i : Nat) : Bool := k == 7 || k == 8 || (k == 5 && (i == 4 || i == 5))
def zz_t7 (A M : gx_Mem) (p : Nat) : Prop := zz_fr zz_S7 A M ∧ M.1 5 4 = nI p
def zz_b7 (A : gx_Mem) (sz p : Nat) : Int32 := if p < sz then A.1 6 p else -1
theorem zz_b7_out (A : gx_Mem) (sz : Nat) : ∀ p, sz ≤ p → zz_b7 A sz p = -1 := fun p h => if_neg (by omega)
def zz_has7 (M : gx_Mem) (acc : List (Int32 × Int32)) : Prop := acc.length ≤ 128 ∧ M.1 5 5 = nI acc.length ∧ ∀ i, i < acc.length → M.1 7 i = (acc.getD i (0, 0)).1 ∧ M.1 8 i = (acc.getD i (0, 0)).2
theorem zz_next7 {A M : gx_Mem} {sz p : Nat} (hA : A.1 5 3 = nI sz) (hs : sz ≤ 120) (h : zz_t7 A M p) (hp : p ≤ sz) : f_X6_next M = some (zz_b7 A sz p) := by
  unfold f_X6_next zz_b7
  rw [h.2, h.1.2 5 3 rfl, hA, if_neg (nI_pos (show p < 2147483648 by omega))]
  simp only [zz_le (show sz < 2147483648 by omega) (show p < 2147483648 by omega)]
  by_cases c : p < sz
  · rw [if_neg (show ¬ sz ≤ p by omega), if_pos c, if_neg (show ¬ (120 : Int32) ≤ nI p by rw [show (120 : Int32) = nI 120 from rfl, zz_le (by decide) (by omega)]; omega), zz_gi (show p < 120 by omega) (by decide), zz_cl (show p < 2147483648 by omega), h.1.2 6 p rfl]
  · rw [if_pos (show sz ≤ p by omega), if_neg c]
theorem zz_t7.go {A M : gx_Mem} {p : Nat} (h : zz_t7 A M p) (q : Nat) : zz_t7 A (gx_sI M 5 4 (nI q)) q := ⟨h.1.sI rfl, rfl⟩
theorem zz_has7.go {M : gx_Mem} {acc : List (Int32 × Int32)} (h : zz_has7 M acc) (q : Int32) : zz_has7 (gx_sI M 5 4 q) acc := h
theorem zz_gD1 (l l2 : List (Int32 × Int32)) {i : Nat} (h : i < l.length) : (l ++ l2).getD i (0, 0) = l.getD i (0, 0) := by
  rw [List.getD_eq_getElem?_getD, List.getD_eq_getElem?_getD, List.getElem?_append_left h]
theorem zz_gD2 (l : List (Int32 × Int32)) (s : Int32 × Int32) : (l ++ [s]).getD l.length (0, 0) = s := by
  rw [List.getD_eq_getElem?_getD, List.getElem?_append_right (Nat.le_refl _), Nat.sub_self]
  rfl
theorem zz_emit7 {A M : gx_Mem} {p c : Nat} (h : zz_t7 A M p) (hc : c ≤ 128) (h5 : M.1 5 5 = nI c) (s v : Int32) : ∃ M2, f_X6_emit s v M = some M2 ∧ zz_t7 A M2 p ∧ (∃ c2, c2 ≤ 128 ∧ M2.1 5 5 = nI c2) ∧ (∀ acc, zz_has7 M acc → acc.length < 128 → zz_has7 M2 (acc ++ [(s, v)])) := by
  unfold f_X6_emit
  rw [h5]
  by_cases hlt : c < 128
  · rw [if_neg (show ¬ (128 : Int32) ≤ nI c by rw [show (128 : Int32) = nI 128 from rfl, zz_le (by decide) (by omega)]; omega), zz_gi hlt (by decide), zz_let, zz_cl (show c < 2147483648 by omega), show (gx_sI M 7 c s).1 5 5 = nI c from h5, zz_gi hlt (by decide), zz_let, zz_cl (show c < 2147483648 by omega), show (gx_sI (gx_sI M 7 c s) 8 c v).1 5 5 = nI c from h5, show nI c + 1 = nI (c + 1) from zz_add c 1, zz_let]
    refine ⟨_, rfl, ⟨((h.1.sI rfl).sI rfl).sI rfl, h.2⟩, ⟨c + 1, by omega, rfl⟩, fun acc ha hl => ?_⟩
    obtain ⟨a1, a2, a3⟩ := ha
    have hce : c = acc.length := by
      rw [h5, zz_eq (by omega) (by omega)] at a2
      exact a2
    subst hce
    refine ⟨by rw [List.length_append]; exact hl, by rw [List.length_append]; rfl, fun i hi => ?_⟩
    rw [List.length_append] at hi
    have hi : i < acc.length + 1 := hi
    have e7 : (gx_sI (gx_sI (gx_sI M 7 acc.length s) 8 acc.length v) 5 5 (nI (acc.length + 1))).1 7 i = if i = acc.length then s else M.1 7 i := by
      rw [zz_sI1, if_neg (by omega), zz_sI1, if_neg (by omega), zz_sI1]
      by_cases c : i = acc.length
      · rw [if_pos ⟨rfl, c⟩, if_pos c]
      · rw [if_neg (fun q => c q.2), if_neg c]
    have e8 : (gx_sI (gx_sI (gx_sI M 7 acc.length s) 8 acc.length v) 5 5 (nI (acc.length + 1))).1 8 i = if i = acc.length then v else M.1 8 i := by
      rw [zz_sI1, if_neg (by omega), zz_sI1]
      by_cases c : i = acc.length
      · rw [if_pos ⟨rfl, c⟩, if_pos c]
      · rw [if_neg (fun q => c q.2), if_neg c, zz_sI1, if_neg (by omega)]
    rw [e7, e8]
    by_cases c : i = acc.length
    · rw [if_pos c, if_pos c, c, zz_gD2]
      exact ⟨rfl, rfl⟩
    · rw [if_neg c, if_neg c, zz_gD1 _ _ (show i < acc.length by omega)]
      exact a3 i (by omega)
  · rw [if_pos (show (128 : Int32) ≤ nI c by rw [show (128 : Int32) = nI 128 from rfl, zz_le (by decide) (by omega)]; omega)]
    refine ⟨M, rfl, h, ⟨c, hc, h5⟩, fun acc ha hl => ?_⟩
    have a2 := ha.2.1
    rw [h5, zz_eq (by omega) (by omega)] at a2
    omega
theorem zz_has7.c {M : gx_Mem} {acc : List (Int32 × Int32)} (h : zz_has7 M acc) : ∃ c, c ≤ 128 ∧ M.1 5 5 = nI c := ⟨_, h.1, h.2.1⟩
/-- what the class's reader does where r is read -/
def zz_R7 (A : gx_Mem) (sz : Nat) (acc : List (Int32 × Int32)) (r : Nat × Option (List (Int32 × Int32))) (x : Option (Int32 × gx_Mem)) : Prop := match r.2 with
  | none => ∃ (y : Bool) (M2 : gx_Mem), x = some (zz_i y, M2) ∧ zz_t7 A M2 r.1 ∧ (∃ c, c ≤ 128 ∧ M2.1 5 5 = nI c) ∧ (y = false ∨ zz_dg (zz_b7 A sz r.1) = true)
  | some c => ∃ M2, x = some (1, M2) ∧ zz_t7 A M2 r.1 ∧ zz_has7 M2 (acc ++ c)
theorem zz_num7 {A M : gx_Mem} {sz p0 : Nat} (hA : A.1 5 3 = nI sz) (hs : sz ≤ 120) (h : zz_t7 A M p0) : ∀ k p v n, k ≤ 4 → k < n → p ≤ sz → f_X6_readNumber_l4 n (nI v) (nI (4 - k)) (gx_sI M 5 4 (nI p)) = f_X6_readNumber_b56 (nI (zz_nu (zz_b7 A sz) k p v).2) (gx_sI M 5 4 (nI (zz_nu (zz_b7 A sz) k p v).1)) := by
  intro k
  induction k with
  | zero =>
    intro p v n _ hn _
    obtain ⟨n, rfl⟩ : ∃ m, n = m + 1 := ⟨n - 1, by omega⟩
    show f_X6_readNumber_k4 (fun v1 v2 M => f_X6_readNumber_l4 n v1 v2 M) (nI v) (nI 4) (gx_sI M 5 4 (nI p)) = _
    unfold f_X6_readNumber_k4
    rw [if_pos (show (4 : Int32) ≤ nI 4 by decide)]
    rfl
  | succ k ih =>
    intro p v n hk hn hp
    obtain ⟨n, rfl⟩ : ∃ m, n = m + 1 := ⟨n - 1, by omega⟩
    show f_X6_readNumber_k4 (fun v1 v2 M => f_X6_readNumber_l4 n v1 v2 M) (nI v) (nI (4 - (k + 1))) (gx_sI M 5 4 (nI p)) = _
    have hnx := zz_next7 hA hs (h.go p) hp
    unfold f_X6_readNumber_k4
    rw [if_neg (show ¬ (4 : Int32) ≤ nI (4 - (k + 1)) by rw [show (4 : Int32) = nI 4 from rfl, zz_le (by decide) (by omega)]; omega), hnx, zz_bPs]
    conv => rhs; unfold zz_nu
    by_cases c : zz_dg (zz_b7 A sz p) = true
    · have hp2 : p < sz := by
        rcases Nat.lt_or_ge p sz with q | q
        · exact q
        · rw [zz_b7_out A sz p q] at c; exact absurd c (by decide)
      obtain ⟨j, j1, j2, j3⟩ := zz_dgT c
      rw [if_pos c, j3]
      have c' := of_decide_eq_true c
      rw [j3] at c'
      rw [if_neg c'.1, zz_bPs, if_neg c'.2, zz_bPs, show (10 : Int32) = nI 10 from rfl, zz_mul, zz_add, show (48 : Int32) = nI 48 from rfl, zz_sub (by omega), zz_let, show (gx_sI M 5 4 (nI p)).1 5 4 = nI p from rfl, show nI p + 1 = nI (p + 1) from zz_add p 1, zz_let, zz_sIsI, show nI (4 - (k + 1)) + 1 = nI (4 - k) from by rw [show (1 : Int32) = nI 1 from rfl, zz_add]; congr 1; omega, zz_let, zz_cl (show j < 2147483648 by omega), show v * 10 + j - 48 = 10 * v + (j - 48) by omega]
      exact ih (p + 1) _ n (by omega) (by omega) (by omega)
    · rw [if_neg c]
      have c' : zz_b7 A sz p < 48 ∨ (57 : Int32) < zz_b7 A sz p := by
        unfold zz_dg at c
        rw [decide_eq_true_eq] at c
        rcases Classical.em (zz_b7 A sz p < 48) with q | q
        · exact .inl q
        · rcases Classical.em ((57 : Int32) < zz_b7 A sz p) with q2 | q2
          · exact .inr q2
          · exact absurd ⟨q, q2⟩ c
      by_cases c1 : zz_b7 A sz p < 48
      · rw [if_pos c1]
      · rw [if_neg c1, zz_bPs, if_pos (c'.resolve_left c1)]

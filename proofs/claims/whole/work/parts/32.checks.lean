def zz_i (b : Bool) : Int32 := if b = true then 1 else 0
theorem zz_iZ (b : Bool) : gx_isZ (zz_i b) = true := by cases b <;> rfl
theorem zz_giZ {α : Type} (b : Bool) (x : Option α) : gx_gd (gx_isZ (zz_i b)) x = x := if_pos (zz_iZ b)
theorem zz_i1 : ¬ zz_i true = 0 := by decide
theorem zz_ifi {α : Type} (b : Bool) {_ : Decidable (zz_i b = 0)} (x y : α) : (if zz_i b = 0 then x else y) = if b = true then y else x := by
  cases b
  · exact (if_pos rfl).trans (if_neg (by decide)).symm
  · exact (if_neg zz_i1).trans (if_pos rfl).symm
theorem zz_it {P : Prop} {_ : Decidable P} (h : P) : (some 1 : Option Int32) = some (zz_i (decide P)) := by rw [decide_eq_true h]; rfl
theorem zz_if {P : Prop} {_ : Decidable P} (h : ¬ P) : (some 0 : Option Int32) = some (zz_i (decide P)) := by rw [decide_eq_false h]; rfl
theorem zz_ltI (a b : Int32) : (a < b) = (a.toInt < b.toInt) := propext Int32.lt_iff_toInt_lt
theorem zz_leI (a b : Int32) : (a ≤ b) = (a.toInt ≤ b.toInt) := propext Int32.le_iff_toInt_le
theorem zz_eqI (a b : Int32) : (a = b) = (a.toInt = b.toInt) := propext Int32.toInt_inj.symm
/-- a number is one of 0 .. n - 1 -/
def zz_rg (x : Int32) (n : Nat) : Bool := decide (0 ≤ x.toInt ∧ x.toInt < (n : Int))
theorem zz_rgT {x : Int32} {n : Nat} (h : zz_rg x n = true) : ∃ j : Nat, j < n ∧ x = nI j := by
  have h := of_decide_eq_true h
  refine ⟨x.toInt.toNat, by omega, ?_⟩
  have h3 : x.toInt < 2147483648 := by have := Int32.toInt_lt x; simpa using this
  apply Int32.toInt_inj.mp
  rw [nI_toInt (by omega)]
  omega
theorem zz_rgN {j n : Nat} (h : j < 2147483648) : zz_rg (nI j) n = decide (j < n) := by
  unfold zz_rg
  rw [nI_toInt h]
  congr 1
  apply propext
  omega
theorem zz_t0 : (0 : Int32).toInt = 0 := rfl
theorem zz_t1 : (1 : Int32).toInt = 1 := rfl
theorem zz_isFlat7 (v : Int32) (M : gx_Mem) : f_X7_isFlat v M = some (zz_i (zz_rg v 24)) := by
  unfold f_X7_isFlat zz_rg
  simp only [zz_ltI, zz_leI, zz_t0, show (24 : Int32).toInt = 24 from rfl]
  repeat' split
  all_goals first | exact zz_it (by omega) | exact zz_if (by omega)
theorem zz_isMark7 (v : Int32) (M : gx_Mem) : f_X7_isMark v M = some (zz_i (zz_rg v 4)) := by
  unfold f_X7_isMark zz_rg
  simp only [zz_ltI, zz_leI, zz_t0, show (4 : Int32).toInt = 4 from rfl]
  repeat' split
  all_goals first | exact zz_it (by omega) | exact zz_if (by omega)
theorem zz_isHour7 (v : Int32) (M : gx_Mem) : f_X7_isHour v M = some (zz_i (zz_rg v 12)) := by
  unfold f_X7_isHour zz_rg
  simp only [zz_ltI, zz_leI, zz_t0, show (12 : Int32).toInt = 12 from rfl]
  repeat' split
  all_goals first | exact zz_it (by omega) | exact zz_if (by omega)
theorem zz_isSpan7 (v : Int32) (M : gx_Mem) : f_X7_isSpan v M = some (zz_i (zz_rg v 49)) := by
  unfold f_X7_isSpan zz_rg
  simp only [zz_ltI, zz_leI, zz_t0, show (48 : Int32).toInt = 48 from rfl]
  repeat' split
  all_goals first | exact zz_it (by omega) | exact zz_if (by omega)
theorem zz_isShelf7 (v : Int32) (M : gx_Mem) : f_X7_isShelf v M = some (zz_i (zz_rg v 6)) := by
  unfold f_X7_isShelf zz_rg
  simp only [zz_ltI, zz_leI, zz_t0, show (6 : Int32).toInt = 6 from rfl]
  repeat' split
  all_goals first | exact zz_it (by omega) | exact zz_if (by omega)
theorem zz_isKind7 (v : Int32) (M : gx_Mem) : f_X7_isKind v M = some (zz_i (zz_rg v 8)) := by
  unfold f_X7_isKind zz_rg
  simp only [zz_ltI, zz_leI, zz_t0, show (8 : Int32).toInt = 8 from rfl]
  repeat' split
  all_goals first | exact zz_it (by omega) | exact zz_if (by omega)
theorem zz_isChoice7 (v : Int32) (M : gx_Mem) : f_X7_isChoice v M = some (zz_i (zz_rg v 2)) := by
  unfold f_X7_isChoice zz_rg
  simp only [zz_eqI, zz_t0, zz_t1]
  repeat' split
  all_goals first | exact zz_it (by omega) | exact zz_if (by omega)
theorem zz_isOne7 {M : gx_Mem} {n : Nat} (hn : M.1 9 7 = nI n) (h6 : n ≤ 6) (v : Int32) : f_X7_isOne v M = some (zz_i (zz_rg v n)) := by
  unfold f_X7_isOne zz_rg
  rw [hn]
  simp only [zz_ltI, zz_leI, zz_t0, nI_toInt (show n < 2 ^ 31 by omega)]
  repeat' split
  all_goals first | exact zz_it (by omega) | exact zz_if (by omega)
theorem zz_isBody7 {M : gx_Mem} {n : Nat} (hn : M.1 40 2 = nI n) (h6 : n ≤ 50) (v : Int32) : f_X7_isBody v M = some (zz_i (zz_rg v n)) := by
  unfold f_X7_isBody zz_rg
  rw [hn]
  simp only [zz_ltI, zz_leI, zz_t0, nI_toInt (show n < 2 ^ 31 by omega)]
  repeat' split
  all_goals first | exact zz_it (by omega) | exact zz_if (by omega)
theorem zz_in8 (v : Int32) (n : Nat) (M : gx_Mem) (hn : n < 2147483648) : f_X8_in v (0 : Int32) (nI n) M = some (zz_i (zz_rg v (n + 1))) := by
  unfold f_X8_in zz_rg
  simp only [zz_ltI, zz_t0, nI_toInt hn]
  repeat' split
  all_goals first | exact zz_it (by omega) | exact zz_if (by omega)
theorem zz_inM8 (v : Int32) (n : Nat) (M : gx_Mem) (hn : n < 2147483648) : f_X8_in v (0 : Int32) (nI n - 1) M = some (zz_i (zz_rg v n)) := by
  cases n with
  | zero =>
    unfold f_X8_in zz_rg
    simp only [zz_ltI, zz_t0, show (nI 0 - 1).toInt = -1 from rfl]
    repeat' split
    all_goals first | exact zz_it (by omega) | exact zz_if (by omega)
  | succ n =>
    rw [show nI (n + 1) - 1 = nI n from nI_pred n]
    exact zz_in8 v n M (by omega)
theorem zz_isFlat8 (v : Int32) (M : gx_Mem) : f_X8_isFlat v M = some (zz_i (zz_rg v 24)) := by
  unfold f_X8_isFlat
  rw [show (23 : Int32) = nI 23 from rfl, zz_in8 v 23 M (by decide), zz_bPs, zz_giZ]
theorem zz_isMark8 (v : Int32) (M : gx_Mem) : f_X8_isMark v M = some (zz_i (zz_rg v 4)) := by
  unfold f_X8_isMark
  rw [show (3 : Int32) = nI 3 from rfl, zz_in8 v 3 M (by decide), zz_bPs, zz_giZ]
theorem zz_isHour8 (v : Int32) (M : gx_Mem) : f_X8_isHour v M = some (zz_i (zz_rg v 12)) := by
  unfold f_X8_isHour
  rw [show (11 : Int32) = nI 11 from rfl, zz_in8 v 11 M (by decide), zz_bPs, zz_giZ]
theorem zz_isShelf8 (v : Int32) (M : gx_Mem) : f_X8_isShelf v M = some (zz_i (zz_rg v 6)) := by
  unfold f_X8_isShelf
  rw [show (5 : Int32) = nI 5 from rfl, zz_in8 v 5 M (by decide), zz_bPs, zz_giZ]
theorem zz_areHours8 (v : Int32) (M : gx_Mem) : f_X8_areHours v M = some (zz_i (zz_rg v 49)) := by
  unfold f_X8_areHours
  rw [show (48 : Int32) = nI 48 from rfl, zz_in8 v 48 M (by decide), zz_bPs, zz_giZ]
theorem zz_isOne8 {M : gx_Mem} {n : Nat} (hn : M.1 57 1 = nI n) (h6 : n ≤ 6) (v : Int32) : f_X8_isOne v M = some (zz_i (zz_rg v n)) := by
  unfold f_X8_isOne
  rw [hn, zz_inM8 v n M (by omega), zz_bPs, zz_giZ]
theorem zz_isBody8 {M : gx_Mem} {n : Nat} (hn : M.1 57 52 = nI n) (h6 : n ≤ 50) (v : Int32) : f_X8_isBody v M = some (zz_i (zz_rg v n)) := by
  unfold f_X8_isBody
  rw [hn, zz_inM8 v n M (by omega), zz_bPs, zz_giZ]
/-- one of n people and a mark: 10 times the one and the mark -/
def zz_pm (x : Int32) (n : Nat) : Bool := zz_rg x (10 * n) && decide (x.toInt.toNat % 10 < 4)
theorem zz_pmN {j n : Nat} (h : j < 2147483648) : zz_pm (nI j) n = decide (j / 10 < n ∧ j % 10 < 4) := by
  unfold zz_pm
  rw [zz_rgN h, nI_toInt h]
  rw [show ((j : Int).toNat) = j from rfl]
  rw [Bool.eq_iff_iff]
  simp only [Bool.and_eq_true, decide_eq_true_eq]
  omega
theorem zz_pmNeg {x : Int32} {n : Nat} (h : x < 0) : zz_pm x n = false := by
  unfold zz_pm zz_rg
  rw [zz_ltI, zz_t0] at h
  rw [decide_eq_false (by omega)]; rfl
theorem zz_pmT {x : Int32} {n : Nat} (h : zz_pm x n = true) : ∃ p m : Nat, p < n ∧ m < 4 ∧ x = nI (10 * p + m) := by
  rcases zz_case x with hx | ⟨j, hj, rfl⟩
  · rw [zz_pmNeg hx] at h; cases h
  · rw [zz_pmN hj] at h
    have h := of_decide_eq_true h
    exact ⟨j / 10, j % 10, h.1, h.2, by congr 1; omega⟩
theorem zz_isPm7 {M : gx_Mem} {n : Nat} (hn : M.1 9 7 = nI n) (h6 : n ≤ 6) (v : Int32) : f_X7_isPm v M = some (zz_i (zz_pm v n)) := by
  unfold f_X7_isPm
  rcases zz_case v with hx | ⟨j, hj, rfl⟩
  · rw [if_pos hx, zz_pmNeg hx]; rfl
  · rw [if_neg (nI_pos hj), zz_isOne7 hn h6, zz_isMark7, show (10 : Int32) = nI 10 from rfl, zz_div hj (by decide) (by decide), zz_rem hj (by decide) (by decide), zz_rgN (by omega), zz_rgN (by omega), zz_pmN hj]
    simp only [zz_bPs, zz_ifi]
    by_cases h1 : j / 10 < n <;> by_cases h2 : j % 10 < 4 <;> simp [h1, h2, zz_i]
theorem zz_areMark8 {M : gx_Mem} {n : Nat} (hn : M.1 57 1 = nI n) (h6 : n ≤ 6) (v : Int32) : f_X8_areMark v M = some (zz_i (zz_pm v n)) := by
  unfold f_X8_areMark
  rcases zz_case v with hx | ⟨j, hj, rfl⟩
  · rw [if_pos hx, zz_pmNeg hx]; rfl
  · rw [if_neg (nI_pos hj), zz_isOne8 hn h6, zz_isMark8, show (10 : Int32) = nI 10 from rfl, zz_div hj (by decide) (by decide), zz_rem hj (by decide) (by decide), zz_rgN (by omega), zz_rgN (by omega), zz_pmN hj]
    simp only [zz_bPs, zz_ifi]
    by_cases h1 : j / 10 < n <;> by_cases h2 : j % 10 < 4 <;> simp [h1, h2, zz_i]
theorem zz_mayCome7 (a b : Int32) (M : gx_Mem) : f_X7_mayCome a b M = some (zz_i (zz_rg a 24 && zz_rg b 4096)) := by
  unfold f_X7_mayCome
  rw [zz_isFlat7]
  simp only [zz_bPs, zz_ifi]
  cases zz_rg a 24 with
  | false => rfl
  | true =>
    rw [Bool.true_and]
    unfold zz_rg
    simp only [if_true]
    rw [zz_gd (by decide), show gx_tab 0 (1 : Int32).toNatClampNeg = 4095 from rfl]
    simp only [zz_ltI, zz_t0, show (4095 : Int32).toInt = 4095 from rfl]
    repeat' split
    all_goals first | exact zz_it (by omega) | exact zz_if (by omega)

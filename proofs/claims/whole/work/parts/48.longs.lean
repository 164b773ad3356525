/-! long numbers -/
def zL (n : Nat) : Int64 := Int64.ofNat n
theorem zL_t {n : Nat} (h : n < 9223372036854775808) : (zL n).toInt = n := by
  unfold zL
  exact Int64.toInt_ofNat_of_lt h
theorem zL_add (a b : Nat) : zL a + zL b = zL (a + b) := by
  unfold zL; rw [Int64.ofNat_add]
theorem zL_mul (a b : Nat) : zL a * zL b = zL (a * b) := by
  unfold zL; rw [Int64.ofNat_mul]
theorem zL_ofI {n : Nat} (h : n < 2147483648) : (nI n).toInt64 = zL n := by
  apply Int64.toInt_inj.1
  rw [Int32.toInt_toInt64, zL_t (by omega), nI_toInt h]
theorem zL_toI {n : Nat} (h : n < 2147483648) : (zL n).toInt32 = nI n := by
  rw [← zL_ofI h]
  simp
theorem zL_lt {a b : Nat} (ha : a < 9223372036854775808) (hb : b < 9223372036854775808) : (zL a < zL b) = (a < b) := by
  rw [Int64.lt_iff_toInt_lt, zL_t ha, zL_t hb]
  exact propext Int.ofNat_lt
theorem zL_eq {a b : Nat} (ha : a < 9223372036854775808) (hb : b < 9223372036854775808) : (zL a = zL b) = (a = b) := by
  refine propext ⟨fun h => ?_, fun h => by rw [h]⟩
  have := congrArg Int64.toInt h
  rw [zL_t ha, zL_t hb] at this
  exact Int.ofNat.inj this
theorem zL_cmp {a b : Nat} (ha : a < 9223372036854775808) (hb : b < 9223372036854775808) : lg_cmp (zL a) (zL b) = if b < a then 1 else if a = b then 0 else -1 := by
  unfold lg_cmp
  simp only [gt_iff_lt, zL_lt hb ha, zL_eq ha hb]
theorem zL_cmp0 {a b : Nat} (ha : a < 9223372036854775808) (hb : b < 9223372036854775808) : (lg_cmp (zL a) (zL b) = 0) = (a = b) := by
  rw [zL_cmp ha hb]
  by_cases h : b < a
  · rw [if_pos h]; exact propext ⟨fun e => absurd e (by decide), fun e => by omega⟩
  · rw [if_neg h]
    by_cases h2 : a = b
    · rw [if_pos h2]; exact propext ⟨fun _ => h2, fun _ => rfl⟩
    · rw [if_neg h2]; exact propext ⟨fun e => absurd e (by decide), fun e => absurd e h2⟩
theorem zL_cmpn {a b : Nat} (ha : a < 9223372036854775808) (hb : b < 9223372036854775808) : (lg_cmp (zL a) (zL b) < 0) = (a < b) := by
  rw [zL_cmp ha hb]
  by_cases h : b < a
  · rw [if_pos h]; exact propext ⟨fun e => absurd e (by decide), fun e => by omega⟩
  · rw [if_neg h]
    by_cases h2 : a = b
    · rw [if_pos h2]; exact propext ⟨fun e => absurd e (by decide), fun e => by omega⟩
    · rw [if_neg h2]; exact propext ⟨fun e => by omega, fun e => by decide⟩
theorem zL_cmpg {a b : Nat} (ha : a < 9223372036854775808) (hb : b < 9223372036854775808) : (0 ≤ lg_cmp (zL a) (zL b)) = (b ≤ a) := by
  rw [zL_cmp ha hb]
  by_cases h : b < a
  · rw [if_pos h]; exact propext ⟨fun e => by omega, fun e => by decide⟩
  · rw [if_neg h]
    by_cases h2 : a = b
    · rw [if_pos h2]; exact propext ⟨fun e => by omega, fun e => by decide⟩
    · rw [if_neg h2]; exact propext ⟨fun e => absurd e (by decide), fun e => by omega⟩
theorem zL_div {a d : Nat} (ha : a < 9223372036854775808) (h0 : 0 < d) (hd : d < 9223372036854775808) : zL a / zL d = zL (a / d) := by
  apply Int64.toInt_inj.1
  have hq : a / d ≤ a := Nat.div_le_self a d
  rw [Int64.toInt_div_of_ne_right, zL_t ha, zL_t hd, zL_t (show a / d < 9223372036854775808 by omega)]
  · exact (Int.ofNat_tdiv a d).symm
  · intro h
    have := congrArg Int64.toInt h
    rw [zL_t hd] at this
    simp at this <;> omega
/-- the first place where p fails -/
theorem zz_first (p : Nat → Bool) : ∀ m, p m = false → ∃ J, J ≤ m ∧ p J = false ∧ ∀ i, i < J → p i = true
  | 0, h => ⟨0, Nat.le_refl _, h, fun i hi => absurd hi (Nat.not_lt_zero _)⟩
  | m + 1, h => by
    by_cases e : p m = true
    · by_cases q : ∃ j, j ≤ m ∧ p j = false
      · obtain ⟨j, hj, hp⟩ := q
        have hjm : j < m := by
          rcases Nat.lt_or_ge j m with h1 | h1
          · exact h1
          · have : j = m := by omega
            subst this; rw [e] at hp; cases hp
        clear e
        induction j using Nat.strongRecOn with
        | _ j ih =>
          by_cases q : ∃ i, i < j ∧ p i = false
          · obtain ⟨i, hi, hpi⟩ := q
            exact ih i hi (by omega) hpi (by omega)
          · refine ⟨j, by omega, hp, fun i hi => ?_⟩
            cases hpi : p i with
            | true => rfl
            | false => exact absurd ⟨i, hi, hpi⟩ q
      · refine ⟨m + 1, Nat.le_refl _, h, fun i hi => ?_⟩
        cases hpi : p i with
        | true => rfl
        | false => exact absurd ⟨i, by omega, hpi⟩ q
    · obtain ⟨J, h1, h2, h3⟩ := zz_first p m (by simpa using e)
      exact ⟨J, by omega, h2, h3⟩
theorem zz_IC.growN {M : gx_Mem} (q : zz_IC M) {n m : Nat} (hn : M.1 9 7 = nI n) (hm : n ≤ m) (h6 : m ≤ 6) : zz_IC (gx_sI M 9 7 (nI m)) := by
  obtain ⟨d, u, h1, h2, h3, h4, h5, h7, h8⟩ := q
  refine ⟨d, u, h1, h2, h3, h4, h5, h7, fun i hi => (h8 i hi).mono (fun p hp hl => ?_)⟩
  rw [zz_sI1, if_pos ⟨rfl, rfl⟩]
  rw [hn] at hl
  rw [zz_lt (by omega) (by omega)] at hl ⊢
  omega

/-! sums over the sets with one in them; fractions in lowest terms -/
theorem zL_sub {a b : Nat} (h : b ≤ a) : zL a - zL b = zL (a - b) := by
  obtain ⟨d, rfl⟩ : ∃ d, a = b + d := ⟨a - b, by omega⟩
  rw [← zL_add, show b + d - b = d by omega]
  apply Int64.toBitVec_inj.1
  rw [Int64.toBitVec_sub, Int64.toBitVec_add, BitVec.add_comm, BitVec.add_sub_cancel]
theorem zL_rem {a d : Nat} (ha : a < 9223372036854775808) (h0 : 0 < d) (hd : d < 9223372036854775808) : gx_remJ (zL a) (zL d) = zL (a % d) := by
  unfold gx_remJ
  have h := Nat.div_add_mod a d
  have h2 : a / d * d ≤ a := Nat.div_mul_le_self a d
  rw [zL_div ha h0 hd, zL_mul, zL_sub h2]
  congr 1
  rw [Nat.mul_comm] at h2 ⊢
  omega
def zz_os (T : Nat → Nat) (one : Nat) : Nat → Nat
  | 0 => 0
  | n + 1 => zz_os T one n + (if zz_b (nI n) one = true then T n else 0)
theorem zz_os_le {T : Nat → Nat} {one c : Nat} (h : ∀ i, T i ≤ c) : ∀ n, zz_os T one n ≤ c * n
  | 0 => Nat.le_refl _
  | n + 1 => by
    have h1 := zz_os_le h (one := one) n
    have h2 := h n
    unfold zz_os
    rw [Nat.mul_succ]
    split <;> omega
theorem zz_oc : ∀ n, n ≤ 6 → ∀ one, one < n → zz_os (fun _ => 1) one (2 ^ n) = 2 ^ (n - 1) := by decide +kernel
theorem zz_ocM (one : Nat) : ∀ n, zz_os (fun _ => 1) one n ≤ n
  | 0 => Nat.le_refl _
  | n + 1 => by
    have := zz_ocM one n
    unfold zz_os
    split <;> omega
/-- what comes to one of mark m with the set i out: how much, or whether -/
def zz_T (lv : Nat → Nat → Nat → Nat → Nat → Nat → Nat) (H : zz_hs) (one m : Nat) (much : Bool) (i : Nat) : Nat := if much = true then zz_R lv H (nI i) m (H.fl one / 8) (7 - H.fl one % 8) else min 1 (zz_R lv H (nI i) m (H.fl one / 8) (7 - H.fl one % 8))
theorem zz_T_le {lv : Nat → Nat → Nat → Nat → Nat → Nat → Nat} (hlv : ∀ a w i f m n, lv a w i f m n ≤ a) {H : zz_hs} (ok : zz_hok H) {one m : Nat} (hm : m < 4) (much : Bool) (i : Nat) : zz_T lv H one m much i ≤ 432 := by
  have := zz_R_le hlv ok (nI i) hm (H.fl one / 8) (7 - H.fl one % 8)
  unfold zz_T
  split <;> omega
theorem zz_overSets {M : gx_Mem} {lv : Nat → Nat → Nat → Nat → Nat → Nat → Nat} (h : zz_IH M) (hlv : ∀ a w i f m n, lv a w i f m n ≤ a) (hL : zz_LC lv M) {one m : Nat} (hp : one < (zz_H M).n) (hm : m < 4) (much : Bool) {N : Nat} (hN : N = 2 ^ (zz_H M).n) :
    ∃ M2, f_X4_overSets (nI one) (nI m) (zz_i much) M = some (nI (zz_os (zz_T lv (zz_H M) one m much) one N), M2) ∧ zz_fr zz_S34 M M2 := by
  have ok := (zz_Hok h).1
  have hv := (zz_Hok h).2
  have h6 := ok.1
  have hfl := ok.2.1 one hp
  obtain ⟨p1, p2⟩ := zz_shl2 _ h6
  obtain ⟨t, ⟨M2, rfl, hf⟩, e⟩ := zz_for (fun (ag17 : Int32 × Int32 × gx_Mem → Option (Int32 × gx_Mem)) (s : Int32 × Int32 × gx_Mem) => f_X4_overSets_k17 (nI one) (nI m) (zz_i much) (nI ((zz_H M).fl one)) (fun v5 v6 M => ag17 (v5, v6, M)) s.1 s.2.1 s.2.2) (fun s => some (s.1, s.2.2)) (fun i s => ∃ M', s = (nI (zz_os (zz_T lv (zz_H M) one m much) one i), nI i, M') ∧ zz_fr zz_S34 M M') N gx_fuel (by unfold gx_fuel; omega) (0, 0, M) ⟨M, rfl, zz_fr.rf⟩ (fun i s hi hs => by
      obtain ⟨M', rfl, hf⟩ := hs
      have key0 : ∀ ag, f_X4_overSets_k17 (nI one) (nI m) (zz_i much) (nI ((zz_H M).fl one)) ag (nI (zz_os (zz_T lv (zz_H M) one m much) one i)) (nI i) M' = if zz_b (nI i) one = true then gx_bI (f_X2_reaches 9 (nI ((zz_H M).fl one / 8)) (nI ((zz_H M).fl one % 8)) (nI m) (nI i) M') (fun y3 M4 => (if zz_i much = 0 then f_X4_overSets_b79 ag (nI one) (nI m) (zz_i much) (nI ((zz_H M).fl one)) (nI i) (nI (zz_os (zz_T lv (zz_H M) one m much) one i)) (gx_min (1 : Int32) y3) M4 else f_X4_overSets_b79 ag (nI one) (nI m) (zz_i much) (nI ((zz_H M).fl one)) (nI i) (nI (zz_os (zz_T lv (zz_H M) one m much) one i)) y3 M4)) else ag (nI (zz_os (zz_T lv (zz_H M) one m much) one i)) (nI (i + 1)) M' := by
        intro ag
        unfold f_X4_overSets_k17
        rw [(hf.2 9 7 rfl).trans hv.1, p1, if_neg (show ¬ nI (2 ^ (zz_H M).n) ≤ nI i by rw [zz_le (by omega) (by omega)]; omega), zz_b01, show (8 : Int32) = nI 8 from rfl, zz_div (by omega) (by decide) (by decide), zz_rem (by omega) (by decide) (by decide)]
        simp only [zz_ifi]
        cases zz_b (nI i) one with
        | true => rfl
        | false =>
          rw [if_neg (by decide), if_neg (by decide)]
          unfold f_X4_overSets_b82
          rw [zz_let, show nI i + 1 = nI (i + 1) from zz_add i 1]
      cases hb : zz_b (nI i) one with
      | false =>
        refine ⟨(nI (zz_os (zz_T lv (zz_H M) one m much) one (i + 1)), nI (i + 1), M'), ⟨M', rfl, hf⟩, fun ag => ?_⟩
        dsimp only
        rw [key0, hb, if_neg (by decide)]
        conv => rhs; unfold zz_os
        rw [hb, if_neg (by decide)]
        rfl
      | true =>
        obtain ⟨D, d1, d2⟩ := zz_reach (k := 9) (J := 7 - (zz_H M).fl one % 8) (v2 := nI ((zz_H M).fl one % 8)) (by decide) ok (hv.fr (by decide) hf) hlv (hL.tr (zz_lwC.fr hf)) (nI i) (m := m) (s := (zz_H M).fl one / 8) hm (by omega) (by omega) (by rw [nI_toInt (by omega)]; omega)
        have hR := zz_R_le hlv ok (nI i) hm ((zz_H M).fl one / 8) (7 - (zz_H M).fl one % 8)
        refine ⟨(nI (zz_os (zz_T lv (zz_H M) one m much) one (i + 1)), nI (i + 1), D), ⟨D, rfl, hf.tr d2⟩, fun ag => ?_⟩
        dsimp only
        rw [key0, hb, if_pos rfl, d1, zz_bIs]
        conv => rhs; unfold zz_os
        rw [hb, if_pos rfl]
        unfold zz_T f_X4_overSets_b79 f_X4_overSets_b82
        cases much with
        | false =>
          rw [if_pos (show zz_i false = 0 from rfl), if_neg (by decide), show (1 : Int32) = nI 1 from rfl, zz_min (by decide) (by omega), zz_add, zz_let, zz_let, zz_add]
        | true =>
          rw [if_neg (show ¬ zz_i true = 0 by decide), if_pos rfl, zz_add, zz_let, zz_let, show nI i + 1 = nI (i + 1) from zz_add i 1]) (fun s hs ag => by
      obtain ⟨M', rfl, hf⟩ := hs
      dsimp only
      unfold f_X4_overSets_k17
      rw [(hf.2 9 7 rfl).trans hv.1, p1, if_pos (show nI (2 ^ (zz_H M).n) ≤ nI N by rw [zz_le (by omega) (by omega)]; omega)])
  refine ⟨M2, ?_, hf⟩
  unfold f_X4_overSets
  rw [zz_gi (show one < 6 by omega) (by decide), zz_cl (show one < 2147483648 by omega), show M.1 10 one = nI ((zz_H M).fl one) from hv.2.1 one hp, zz_let]
  exact e
/-! the class's fraction -/
theorem zz_g2 {a k : Nat} (h : a % 2 = 1) : Nat.gcd a (2 ^ k) = 1 := by
  have h2 : Nat.Coprime a 2 := by
    show Nat.gcd a 2 = 1
    rw [Nat.gcd_comm, Nat.gcd_rec, h]
    rfl
  exact h2.pow_right k
theorem zz_frac (M : gx_Mem) (part : Bool) : ∀ k a c n, c + k ≤ 5 → k < n → a < 1000000 → f_X7_fraction_l8 (zz_i part) n (nI a) (nI (2 ^ k)) (nI c) M = some (if part = true then zL (2 ^ k / Nat.gcd a (2 ^ k)) else zL (a / Nat.gcd a (2 ^ k))) := by
  intro k
  induction k with
  | zero =>
    intro a c n hc hn ha
    obtain ⟨n, rfl⟩ : ∃ m, n = m + 1 := ⟨n - 1, by omega⟩
    show f_X7_fraction_k8 (zz_i part) (fun v3 v4 v5 => f_X7_fraction_l8 (zz_i part) n v3 v4 v5 M) (nI a) (nI 1) (nI c) M = _
    unfold f_X7_fraction_k8 f_X7_fraction_b43
    rw [if_neg (show ¬ (6 : Int32) ≤ nI c by rw [show (6 : Int32) = nI 6 from rfl, zz_le (by decide) (by omega)]; omega), if_pos (show nI 1 ≤ (1 : Int32) by decide), Nat.pow_zero, Nat.gcd_one_right, Nat.div_one, Nat.div_one]
    cases part with
    | false => rw [if_pos (show zz_i false = 0 from rfl), if_neg (by decide), zL_ofI (by omega)]
    | true => rw [if_neg (show ¬ zz_i true = 0 by decide), if_pos rfl, zL_ofI (by decide)]
  | succ k ih =>
    intro a c n hc hn ha
    obtain ⟨n, rfl⟩ : ∃ m, n = m + 1 := ⟨n - 1, by omega⟩
    have hk32 : 2 ^ (k + 1) ≤ 32 := by
      have : 2 ^ (k + 1) ≤ 2 ^ 5 := Nat.pow_le_pow_right (by decide) (by omega)
      exact this
    have hk0 : 0 < 2 ^ k := Nat.two_pow_pos k
    have hk2 : 2 ^ (k + 1) = 2 * 2 ^ k := by rw [Nat.pow_succ, Nat.mul_comm]
    show f_X7_fraction_k8 (zz_i part) (fun v3 v4 v5 => f_X7_fraction_l8 (zz_i part) n v3 v4 v5 M) (nI a) (nI (2 ^ (k + 1))) (nI c) M = _
    unfold f_X7_fraction_k8 f_X7_fraction_b43
    rw [if_neg (show ¬ (6 : Int32) ≤ nI c by rw [show (6 : Int32) = nI 6 from rfl, zz_le (by decide) (by omega)]; omega), if_neg (show ¬ nI (2 ^ (k + 1)) ≤ (1 : Int32) by rw [show (1 : Int32) = nI 1 from rfl, zz_le (by omega) (by decide)]; omega), show (2 : Int32) = nI 2 from rfl, zz_rem (by omega) (by decide) (by decide), zz_div (by omega) (by decide) (by decide), zz_div (by omega) (by decide) (by decide)]
    by_cases h2 : a % 2 = 0
    · have := ih (a / 2) (c + 1) n (by omega) (by omega) (by omega)
      have ea : a = 2 * (a / 2) := by omega
      have eg : Nat.gcd a (2 ^ (k + 1)) = 2 * Nat.gcd (a / 2) (2 ^ k) := by
        rw [hk2]
        conv => lhs; rw [ea]
        rw [Nat.gcd_mul_left]
      rw [if_pos (show nI (a % 2) = 0 by rw [h2]; rfl), zz_let, zz_let, zz_let, show nI c + 1 = nI (c + 1) from zz_add c 1, show 2 ^ (k + 1) / 2 = 2 ^ k by omega]
      refine this.trans ?_
      rw [eg, hk2, Nat.mul_div_mul_left _ _ (by decide)]
      conv => rhs; rw [ea]
      rw [Nat.mul_div_mul_left _ _ (by decide), ← ea]
    · rw [if_neg (show ¬ nI (a % 2) = 0 from nI_ne0 (by omega) (by omega)), zz_g2 (by omega), Nat.div_one, Nat.div_one]
      cases part with
      | false => rw [if_pos (show zz_i false = 0 from rfl), if_neg (by decide), zL_ofI (by omega)]
      | true => rw [if_neg (show ¬ zz_i true = 0 by decide), if_pos rfl, zL_ofI (by omega)]
/-! the model's -/
theorem zz_lowL (M : gx_Mem) (part : Bool) {a b : Nat} (ha : a < 1000000) (hb : b < 1000000) : ∀ y x n, y < n → x < 1000000 → y < 1000000 → 0 < Nat.gcd x y → f_X8_lowest_l16 (zL a) (zL b) (zz_i part) n (zL x) (zL y) M = some (if part = true then zL (b / Nat.gcd x y) else zL (a / Nat.gcd x y)) := by
  intro y
  induction y using Nat.strongRecOn with
  | _ y ih =>
    intro x n hn hx hy hg
    obtain ⟨n, rfl⟩ : ∃ m, n = m + 1 := ⟨n - 1, by omega⟩
    show f_X8_lowest_k16 (zL a) (zL b) (zz_i part) (fun w5 w7 => f_X8_lowest_l16 (zL a) (zL b) (zz_i part) n w5 w7 M) (zL x) (zL y) M = _
    unfold f_X8_lowest_k16
    have z0 : (0 : Int64) = zL 0 := rfl
    by_cases c : y = 0
    · subst c
      rw [Nat.gcd_zero_right] at hg ⊢
      rw [if_pos (show lg_cmp (zL 0) 0 = 0 by rw [zz_cmp0]; rfl), zz_gdD (show ¬ zL x = 0 by rw [z0, zL_eq (by omega) (by decide)]; omega), zz_gdD (show ¬ zL x = 0 by rw [z0, zL_eq (by omega) (by decide)]; omega), zL_div (by omega) hg (by omega), zL_div (by omega) hg (by omega)]
      cases part with
      | false => rw [if_pos (show zz_i false = 0 from rfl), if_neg (by decide)]
      | true => rw [if_neg (show ¬ zz_i true = 0 by decide), if_pos rfl]
    · have hr : x % y < y := Nat.mod_lt _ (by omega)
      have eg : Nat.gcd x y = Nat.gcd y (x % y) := by rw [Nat.gcd_comm x y, Nat.gcd_rec y x, Nat.gcd_comm]
      rw [if_neg (show ¬ lg_cmp (zL y) 0 = 0 by rw [zz_cmp0, z0, zL_eq (by omega) (by decide)]; exact c), zz_gdD (show ¬ zL y = 0 by rw [z0, zL_eq (by omega) (by decide)]; exact c), zL_rem (by omega) (by omega) (by omega), zz_let]
      refine (ih (x % y) hr y n (by omega) (by omega) (by omega) (by rw [← eg]; exact hg)).trans ?_
      rw [eg]
theorem zz_lowest (M : gx_Mem) (part : Bool) {a k : Nat} (ha : a < 100000) (hk : k ≤ 5) : f_X8_lowest (zL a) (zL (2 ^ k)) (zz_i part) M = some (if part = true then zL (2 ^ k / Nat.gcd a (2 ^ k)) else zL (a / Nat.gcd a (2 ^ k))) := by
  have hk32 : 2 ^ k ≤ 32 := by
    have : 2 ^ k ≤ 2 ^ 5 := Nat.pow_le_pow_right (by decide) hk
    exact this
  have hk0 : 0 < 2 ^ k := Nat.two_pow_pos k
  have z0 : (0 : Int64) = zL 0 := rfl
  unfold f_X8_lowest
  by_cases c : a = 0
  · subst c
    rw [if_pos (show lg_cmp (zL 0) 0 = 0 by rw [zz_cmp0]; rfl), Nat.gcd_zero_left, Nat.div_self hk0, Nat.zero_div]
    cases part <;> rfl
  · rw [if_neg (show ¬ lg_cmp (zL a) 0 = 0 by rw [zz_cmp0, z0, zL_eq (by omega) (by decide)]; exact c)]
    exact zz_lowL M part (by omega) (by omega) (2 ^ k) a gx_fuel (by unfold gx_fuel; omega) (by omega) (by omega) (Nat.gcd_pos_of_pos_right _ hk0)

/-! RENT: the numbers -/
def zz_pr (g : Nat → Nat) : Nat → Nat
  | 0 => 1
  | n + 1 => zz_pr g n * g n
def zz_po (g : Nat → Nat) (one : Nat) : Nat → Nat
  | 0 => 1
  | n + 1 => if n = one then zz_po g one n else zz_po g one n * g n
theorem zz_po_pr (g : Nat → Nat) (one : Nat) : ∀ n, n ≤ one → zz_po g one n = zz_pr g n
  | 0, _ => rfl
  | n + 1, h => by
    unfold zz_po zz_pr
    rw [if_neg (by omega), zz_po_pr g one n (by omega)]
theorem zz_pr_po (g : Nat → Nat) (one : Nat) : ∀ n, one < n → zz_pr g n = zz_po g one n * g one
  | 0, h => absurd h (Nat.not_lt_zero one)
  | n + 1, h => by
    unfold zz_po zz_pr
    by_cases c : n = one
    · rw [if_pos c, c, zz_po_pr g one one (Nat.le_refl _)]
    · rw [if_neg c, zz_pr_po g one n (by omega), Nat.mul_assoc, Nat.mul_assoc, Nat.mul_comm (g one) (g n)]
theorem zz_po_pos {g : Nat → Nat} {one : Nat} : ∀ n, (∀ i, i < n → 0 < g i) → 0 < zz_po g one n
  | 0, _ => Nat.one_pos
  | n + 1, h => by
    unfold zz_po
    have := zz_po_pos (g := g) (one := one) n (fun i hi => h i (by omega))
    split
    · exact this
    · exact Nat.mul_pos this (h n (by omega))
theorem zz_pr_cong {g f : Nat → Nat} : ∀ n, (∀ i, i < n → g i = f i) → zz_pr g n = zz_pr f n
  | 0, _ => rfl
  | n + 1, h => by unfold zz_pr; rw [zz_pr_cong n (fun i hi => h i (by omega)), h n (by omega)]
/-- how many of the first n have more than p -/
def zz_rk (f : Nat → Nat) (n p : Nat) : Nat := zz_ct (fun q => decide (f p < f q)) n
theorem zz_su_plus (f g : Nat → Nat) : ∀ n, zz_su (fun i => f i + g i) n = zz_su f n + zz_su g n
  | 0 => rfl
  | n + 1 => by rw [zz_suS, zz_suS, zz_suS, zz_su_plus f g n]; omega
theorem zz_su_ct (P : Nat → Bool) : ∀ n, zz_su (fun i => if P i = true then 1 else 0) n = zz_ct P n
  | 0 => rfl
  | n + 1 => by rw [zz_suS, zz_su_ct P n]; rfl
theorem zz_ct_two {P Q : Nat → Bool} (h : ∀ i, ¬ (P i = true ∧ Q i = true)) : ∀ n, zz_ct P n + zz_ct Q n ≤ n
  | 0 => Nat.le_refl _
  | n + 1 => by
    have h1 := zz_ct_two h n
    have h2 := h n
    rw [zz_ctS, zz_ctS]
    by_cases a : P n = true
    · rw [if_pos a, if_neg (fun b => h2 ⟨a, b⟩)]; omega
    · rw [if_neg a]
      split <;> omega
theorem zz_rk_sum (f : Nat → Nat) : ∀ n, 2 * zz_su (zz_rk f n) n + n ≤ n * n
  | 0 => Nat.le_refl _
  | n + 1 => by
    have ih := zz_rk_sum f n
    have e1 : zz_su (zz_rk f (n + 1)) n = zz_su (zz_rk f n) n + zz_ct (fun p => decide (f p < f n)) n := by
      have : zz_su (zz_rk f (n + 1)) n = zz_su (fun p => zz_rk f n p + if decide (f p < f n) = true then 1 else 0) n := zz_su_cong n (fun i _ => rfl)
      rw [this, zz_su_plus, zz_su_ct (fun p => decide (f p < f n))]
    have e2 : zz_rk f (n + 1) n = zz_ct (fun q => decide (f n < f q)) n := by
      unfold zz_rk
      rw [zz_ctS, if_neg (by simp)]
      rfl
    have e3 := zz_ct_two (P := fun p => decide (f p < f n)) (Q := fun q => decide (f n < f q)) (fun i q => by
      have a := of_decide_eq_true q.1
      have b := of_decide_eq_true q.2
      omega) n
    have e4 : (n + 1) * (n + 1) = n * n + n + n + 1 := by
      rw [Nat.mul_add, Nat.add_mul]; omega
    rw [zz_suS, e1, e2, e4]
    omega
theorem zz_tan : ∀ r, r < 6 → (1 + 432 * r) * 2 ^ r ≤ 385 * 3 ^ r := by decide
theorem zz_pr_tan (r : Nat → Nat) : ∀ n, (∀ i, i < n → r i < 6) → zz_pr (fun i => 1 + 432 * r i) n * 2 ^ zz_su r n ≤ 385 ^ n * 3 ^ zz_su r n
  | 0, _ => Nat.le_refl _
  | n + 1, h => by
    have ih := zz_pr_tan r n (fun i hi => h i (by omega))
    have t := zz_tan (r n) (h n (by omega))
    have m := Nat.mul_le_mul ih t
    rw [zz_suS, Nat.pow_add 2 (zz_su r n) (r n), Nat.pow_add 3 (zz_su r n) (r n), show (385 : Nat) ^ (n + 1) = 385 ^ n * 385 from Nat.pow_succ 385 n]
    show zz_pr (fun i => 1 + 432 * r i) n * (1 + 432 * r n) * (2 ^ zz_su r n * 2 ^ r n) ≤ _
    calc zz_pr (fun i => 1 + 432 * r i) n * (1 + 432 * r n) * (2 ^ zz_su r n * 2 ^ r n) = zz_pr (fun i => 1 + 432 * r i) n * 2 ^ zz_su r n * ((1 + 432 * r n) * 2 ^ r n) := by ac_rfl
      _ ≤ _ := m
      _ = 385 ^ n * 385 * (3 ^ zz_su r n * 3 ^ r n) := by ac_rfl
theorem zz_pr_mono {g f : Nat → Nat} : ∀ n, (∀ i, i < n → g i ≤ f i) → zz_pr g n ≤ zz_pr f n
  | 0, _ => Nat.le_refl _
  | n + 1, h => Nat.mul_le_mul (zz_pr_mono n (fun i hi => h i (by omega))) (h n (by omega))
/-- the product of all weights is small -/
theorem zz_pr_bound {f g : Nat → Nat} {n : Nat} (h6 : n ≤ 6) (hg : ∀ p, p < n → g p ≤ 1 + 432 * zz_rk f n p) : zz_pr g n ≤ 1430000000000000000 := by
  have h1 := zz_pr_mono n hg
  have hr : ∀ p, p < n → zz_rk f n p < 6 := fun p hp => by
    have e : zz_rk f n p ≤ n := zz_ct_le _ n
    have s := zz_ct_two (P := fun q => decide (f p < f q)) (Q := fun q => decide (q = p)) (fun i q => by
      have a := of_decide_eq_true q.1
      have b := of_decide_eq_true q.2
      subst b; omega) n
    have one : 1 ≤ zz_ct (fun q => decide (q = p)) n := by
      clear e s hg h1
      induction n with
      | zero => omega
      | succ n ih =>
        rw [zz_ctS]
        by_cases c : n = p
        · rw [if_pos (decide_eq_true c)]; omega
        · have := ih (by omega) (by omega)
          omega
    unfold zz_rk
    omega
  have h2 := zz_pr_tan (zz_rk f n) n hr
  have h3 := zz_rk_sum f n
  have h15 : zz_su (zz_rk f n) n ≤ 15 := by
    have : n * n ≤ 6 * n := Nat.mul_le_mul_right n h6
    rcases (show n = 0 ∨ n = 1 ∨ n = 2 ∨ n = 3 ∨ n = 4 ∨ n = 5 ∨ n = 6 by omega) with rfl | rfl | rfl | rfl | rfl | rfl | rfl <;> omega
  generalize zz_su (zz_rk f n) n = a at *
  generalize zz_pr (fun i => 1 + 432 * zz_rk f n i) n = X at *
  generalize zz_pr g n = Y at *
  have h4 : X * 2 ^ 15 ≤ 385 ^ n * 3 ^ 15 := by
    obtain ⟨b, hb⟩ : ∃ b, 15 = a + b := ⟨15 - a, by omega⟩
    rw [hb, Nat.pow_add, Nat.pow_add, ← Nat.mul_assoc, ← Nat.mul_assoc]
    exact Nat.mul_le_mul h2 (Nat.pow_le_pow_left (by decide) b)
  have h5 : 385 ^ n ≤ 385 ^ 6 := Nat.pow_le_pow_right (by decide) h6
  have h6 : 385 ^ n * 3 ^ 15 ≤ 385 ^ 6 * 3 ^ 15 := Nat.mul_le_mul_right _ h5
  have e1 : (2 : Nat) ^ 15 = 32768 := rfl
  have e2 : (385 : Nat) ^ 6 * 3 ^ 15 = 46728646072120511296875 := by decide +kernel
  rw [e2] at h6
  rw [e1] at h4
  omega
/-- what comes to one is at most nine times those above him -/
theorem zz_R_rk {lv : Nat → Nat → Nat → Nat → Nat → Nat → Nat} (hlv : ∀ a w i f m n, lv a w i f m n ≤ a) {H : zz_hs} (ok : zz_hok H) (o : Int32) {m : Nat} (hm : m < 4) (s : Nat) : ∀ J, J ≤ 8 → zz_R lv H o m s J ≤ 9 * zz_ct (fun p => decide (H.fl p / 8 = s ∧ 7 - H.fl p % 8 < J)) H.n
  | 0, _ => Nat.zero_le _
  | J + 1, hJ => by
    have ih := zz_R_rk hlv ok o hm s J (by omega)
    have hl := hlv (zz_R lv H o m s J + zz_ad (zz_P H o (8 * s + (7 - J))) (fun p => H.th (4 * p + m)) H.n) (H.aw (8 * s + (7 - J))) H.ir (7 - J) m (zz_ct (zz_P H o (8 * s + (7 - J))) H.n)
    have had : ∀ n, n ≤ H.n → zz_ad (zz_P H o (8 * s + (7 - J))) (fun p => H.th (4 * p + m)) n + 9 * zz_ct (fun p => decide (H.fl p / 8 = s ∧ 7 - H.fl p % 8 < J)) n ≤ 9 * zz_ct (fun p => decide (H.fl p / 8 = s ∧ 7 - H.fl p % 8 < J + 1)) n := by
      intro n
      induction n with
      | zero => intro _; exact Nat.le_refl _
      | succ n ihn =>
        intro hn
        have i1 := ihn (by omega)
        have t := ok.2.2.1 (4 * n + m) (by have := ok.1; omega)
        have hf := ok.2.1 n (by omega)
        rw [zz_adS, zz_ctS, zz_ctS]
        by_cases c : H.fl n = 8 * s + (7 - J)
        · rw [if_neg (show ¬ decide (H.fl n / 8 = s ∧ 7 - H.fl n % 8 < J) = true by simp; omega), if_pos (show decide (H.fl n / 8 = s ∧ 7 - H.fl n % 8 < J + 1) = true by simp; omega)]
          split <;> omega
        · rw [if_neg (show ¬ zz_P H o (8 * s + (7 - J)) n = true by unfold zz_P; rw [decide_eq_false c, Bool.false_and]; decide)]
          by_cases d : H.fl n / 8 = s ∧ 7 - H.fl n % 8 < J
          · rw [if_pos (decide_eq_true d), if_pos (show decide (H.fl n / 8 = s ∧ 7 - H.fl n % 8 < J + 1) = true by simp; omega)]
            omega
          · rw [if_neg (show ¬ decide (H.fl n / 8 = s ∧ 7 - H.fl n % 8 < J) = true from fun q => d (of_decide_eq_true q))]
            omega
    have := had H.n (Nat.le_refl _)
    show lv _ _ _ _ _ _ ≤ _
    omega
theorem zz_ct_mono {P Q : Nat → Bool} : ∀ n, (∀ i, i < n → P i = true → Q i = true) → zz_ct P n ≤ zz_ct Q n
  | 0, _ => Nat.le_refl _
  | n + 1, h => by
    have h1 := zz_ct_mono n (fun i hi => h i (by omega))
    have h2 := h n (by omega)
    rw [zz_ctS, zz_ctS]
    by_cases a : P n = true
    · rw [if_pos a, if_pos (h2 a)]; omega
    · rw [if_neg a]; omega
/-- all that comes to flat f in the first h hours, o t out in the t'th -/
def zz_ci (lv : Nat → Nat → Nat → Nat → Nat → Nat → Nat) (H : zz_hs) (o : Nat → Int32) (f h : Nat) : Nat := zz_su (fun t => zz_su (fun m => zz_R lv H (o t) m (f / 8) (7 - f % 8)) 4) h
def zz_cw (lv : Nat → Nat → Nat → Nat → Nat → Nat → Nat) (H : zz_hs) (o : Nat → Int32) (p : Nat) : Nat := 1 + zz_ci lv H o (H.fl p) 12
theorem zz_cw_bound {lv : Nat → Nat → Nat → Nat → Nat → Nat → Nat} (hlv : ∀ a w i f m n, lv a w i f m n ≤ a) {H : zz_hs} (ok : zz_hok H) (o : Nat → Int32) {p : Nat} (hp : p < H.n) : zz_cw lv H o p ≤ 1 + 432 * zz_rk H.fl H.n p := by
  have hf := ok.2.1 p hp
  have h1 : ∀ t m, m < 4 → zz_R lv H (o t) m (H.fl p / 8) (7 - H.fl p % 8) ≤ 9 * zz_rk H.fl H.n p := fun t m hm => by
    have a := zz_R_rk hlv ok (o t) hm (H.fl p / 8) (7 - H.fl p % 8) (by omega)
    have b : zz_ct (fun q => decide (H.fl q / 8 = H.fl p / 8 ∧ 7 - H.fl q % 8 < 7 - H.fl p % 8)) H.n ≤ zz_rk H.fl H.n p := zz_ct_mono H.n (fun i hi q => by
      have := of_decide_eq_true q
      exact decide_eq_true (by omega))
    omega
  have h2 : zz_ci lv H o (H.fl p) 12 ≤ 36 * zz_rk H.fl H.n p * 12 := zz_su_le 12 (fun t _ => by
    have : zz_su (fun m => zz_R lv H (o t) m (H.fl p / 8) (7 - H.fl p % 8)) 4 ≤ 9 * zz_rk H.fl H.n p * 4 := zz_su_le 4 (fun m hm => h1 t m hm)
    omega)
  unfold zz_cw
  omega
theorem zz_ci_le {lv : Nat → Nat → Nat → Nat → Nat → Nat → Nat} (hlv : ∀ a w i f m n, lv a w i f m n ≤ a) {H : zz_hs} (ok : zz_hok H) (o : Nat → Int32) (f h : Nat) : zz_ci lv H o f h ≤ 1728 * h := zz_su_le h (fun t _ => zz_su_le (c := 432) 4 (fun m hm => by
  have := zz_R_le hlv ok (o t) hm (f / 8) (7 - f % 8)
  omega))

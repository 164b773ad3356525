def zz_c4 (q : Nat) : Bool := q == 36 || q == 37 || q == 38 || q == 39
def zz_m4 (q : Nat) : Bool := q == 64 || q == 65 || q == 66 || q == 67
/-- the class's list of changes takes one more -/
theorem zz_add_lt {M : gx_Mem} {d : Nat} (hd : M.1 35 4 = nI d) (h4 : d < 40) (a b c e : Int32) : ∃ M2, f_X1_add_b43 a b c e M = some M2 ∧ M2.2 = M.2 ∧ (∀ k i, zz_c4 k = false → k ≠ 35 → M2.1 k i = M.1 k i) ∧ M2.1 35 4 = nI (d + 1) ∧ M2.1 35 5 = 0 ∧
    (∀ i, M2.1 36 i = if i = d then a else M.1 36 i) ∧ (∀ i, M2.1 37 i = if i = d then b else M.1 37 i) ∧ (∀ i, M2.1 38 i = if i = d then c else M.1 38 i) ∧ (∀ i, M2.1 39 i = if i = d then e else M.1 39 i) := by
  unfold f_X1_add_b43
  simp only [hd, zz_gi h4 (by decide), zz_let, zz_cl (show d < 2147483648 by omega), show ∀ i v, (gx_sI M 36 i v).1 35 4 = M.1 35 4 from fun _ _ => rfl, show ∀ i v i2 v2, (gx_sI (gx_sI M 36 i v) 37 i2 v2).1 35 4 = M.1 35 4 from fun _ _ _ _ => rfl, show ∀ i v i2 v2 i3 v3, (gx_sI (gx_sI (gx_sI M 36 i v) 37 i2 v2) 38 i3 v3).1 35 4 = M.1 35 4 from fun _ _ _ _ _ _ => rfl, show ∀ i v i2 v2 i3 v3 i4 v4, (gx_sI (gx_sI (gx_sI (gx_sI M 36 i v) 37 i2 v2) 38 i3 v3) 39 i4 v4).1 35 4 = M.1 35 4 from fun _ _ _ _ _ _ _ _ => rfl]
  refine ⟨_, rfl, rfl, fun k i hk h35 => ?_, ?_, ?_, fun i => ?_, fun i => ?_, fun i => ?_, fun i => ?_⟩
  · simp [zz_c4] at hk
    simp only [zz_sI1]
    rw [if_neg (by omega), if_neg (by omega), if_neg (by omega), if_neg (by omega), if_neg (by omega), if_neg (by omega)]
  · rw [zz_sI1, if_neg (by decide), zz_sI1, if_pos ⟨rfl, rfl⟩]; exact nI_1 d
  · rw [zz_sI1, if_pos ⟨rfl, rfl⟩]
  · simp [zz_sI1]
  · simp [zz_sI1]
  · simp [zz_sI1]
  · simp [zz_sI1]
theorem zz_forget (M : gx_Mem) (b : Nat) : f_X1_forgetOldest b M = some (gx_cI M b 1 b 0 39) := by
  unfold f_X1_forgetOldest
  rw [zz_gd (by decide)]
  rfl
theorem zz_add_spec {M : gx_Mem} {d : Nat} (hd : M.1 35 4 = nI d) (h4 : d ≤ 40) (a b c e : Int32) : ∃ (M2 : gx_Mem) (f : Nat), f ≤ 39 ∧ (f = d ∨ d = 40 ∧ f = 39) ∧ f_X1_add a b c e M = some M2 ∧ M2.2 = M.2 ∧ (∀ k i, zz_c4 k = false → k ≠ 35 → M2.1 k i = M.1 k i) ∧ M2.1 35 4 = nI (f + 1) ∧ M2.1 35 5 = 0 ∧
    (∀ i, i < 40 → M2.1 36 i = if i = f then a else if d = 40 then M.1 36 (i + 1) else M.1 36 i) ∧ (∀ i, i < 40 → M2.1 37 i = if i = f then b else if d = 40 then M.1 37 (i + 1) else M.1 37 i) ∧ (∀ i, i < 40 → M2.1 38 i = if i = f then c else if d = 40 then M.1 38 (i + 1) else M.1 38 i) ∧ (∀ i, i < 40 → M2.1 39 i = if i = f then e else if d = 40 then M.1 39 (i + 1) else M.1 39 i) := by
  unfold f_X1_add
  rw [hd, show (40 : Int32) = nI 40 from rfl]
  simp only [zz_lt (show d < 2147483648 by omega) (show 40 < 2147483648 by decide)]
  by_cases h : d < 40
  · rw [if_pos h]
    obtain ⟨M2, k1, k2, k3, k4, k5, k6, k7, k8, k9⟩ := zz_add_lt hd h a b c e
    refine ⟨M2, d, by omega, .inl rfl, k1, k2, k3, k4, k5, fun i _ => ?_, fun i _ => ?_, fun i _ => ?_, fun i _ => ?_⟩
    · rw [k6, if_neg (show ¬ d = 40 by omega)]
    · rw [k7, if_neg (show ¬ d = 40 by omega)]
    · rw [k8, if_neg (show ¬ d = 40 by omega)]
    · rw [k9, if_neg (show ¬ d = 40 by omega)]
  · obtain rfl : d = 40 := by omega
    rw [if_neg h]
    simp only [zz_forget, zz_bPs, zz_let]
    generalize hY : gx_sI (gx_cI (gx_cI (gx_cI (gx_cI M 36 1 36 0 39) 37 1 37 0 39) 38 1 38 0 39) 39 1 39 0 39) 35 4 39 = Y
    have y4 : Y.1 35 4 = nI 39 := by rw [← hY, zz_sI1, if_pos ⟨rfl, rfl⟩]; rfl
    have y2 : Y.2 = M.2 := by rw [← hY]; rfl
    have y1 : ∀ k i, k ≠ 35 → Y.1 k i = if zz_c4 k = true ∧ i < 39 then M.1 k (i + 1) else M.1 k i := by
      intro k i hk
      rw [← hY, zz_sI1, if_neg (by omega)]
      simp only [zz_cI1]
      by_cases e1 : k = 36
      · subst e1; simp [zz_c4]; split <;> simp [Nat.add_comm]
      · by_cases e2 : k = 37
        · subst e2; simp [zz_c4]; split <;> simp [Nat.add_comm]
        · by_cases e3 : k = 38
          · subst e3; simp [zz_c4]; split <;> simp [Nat.add_comm]
          · by_cases e4 : k = 39
            · subst e4; simp [zz_c4]; split <;> simp [Nat.add_comm]
            · simp [zz_c4, e1, e2, e3, e4]
    obtain ⟨M2, k1, k2, k3, k4, k5, k6, k7, k8, k9⟩ := zz_add_lt y4 (by decide) a b c e
    refine ⟨M2, 39, by decide, .inr (by simp), k1, k2.trans y2, fun k i hk h35 => ?_, k4, k5, fun i hi => ?_, fun i hi => ?_, fun i hi => ?_, fun i hi => ?_⟩
    · rw [k3 k i hk h35, y1 k i h35, hk]; rfl
    · rw [k6]
      by_cases e : i = 39
      · rw [if_pos e, if_pos e]
      · rw [if_neg e, if_neg e, if_pos trivial, y1 _ _ (by decide), if_pos ⟨rfl, by omega⟩]
    · rw [k7]
      by_cases e : i = 39
      · rw [if_pos e, if_pos e]
      · rw [if_neg e, if_neg e, if_pos trivial, y1 _ _ (by decide), if_pos ⟨rfl, by omega⟩]
    · rw [k8]
      by_cases e : i = 39
      · rw [if_pos e, if_pos e]
      · rw [if_neg e, if_neg e, if_pos trivial, y1 _ _ (by decide), if_pos ⟨rfl, by omega⟩]
    · rw [k9]
      by_cases e : i = 39
      · rw [if_pos e, if_pos e]
      · rw [if_neg e, if_neg e, if_pos trivial, y1 _ _ (by decide), if_pos ⟨rfl, by omega⟩]
/-- the model's list of changes takes one more -/
theorem zz_chg_lt {M : gx_Mem} {d : Nat} (hd : M.1 57 8 = nI d) (h4 : d < 40) (w num v y : Int32) (cM iM : Nat) (hl : ∀ M, f_X8_lays w num v M = some (gx_sI M cM iM v)) : ∃ M2, f_X8_changes_b121 w num v y M = some (y, gx_sI M2 cM iM v) ∧ M2.2 = M.2 ∧ (∀ k i, zz_m4 k = false → ¬ (k = 57 ∧ i = 8) → M2.1 k i = M.1 k i) ∧ M2.1 57 8 = nI (d + 1) ∧
    (∀ i, M2.1 64 i = if i = d then w else M.1 64 i) ∧ (∀ i, M2.1 65 i = if i = d then num else M.1 65 i) ∧ (∀ i, M2.1 66 i = if i = d then y else M.1 66 i) ∧ (∀ i, M2.1 67 i = if i = d then v else M.1 67 i) := by
  unfold f_X8_changes_b121
  simp only [hd, zz_gi h4 (by decide), zz_let, zz_cl (show d < 2147483648 by omega), show ∀ i v, (gx_sI M 64 i v).1 57 8 = M.1 57 8 from fun _ _ => rfl, show ∀ i v i2 v2, (gx_sI (gx_sI M 64 i v) 65 i2 v2).1 57 8 = M.1 57 8 from fun _ _ _ _ => rfl, show ∀ i v i2 v2 i3 v3, (gx_sI (gx_sI (gx_sI M 64 i v) 65 i2 v2) 66 i3 v3).1 57 8 = M.1 57 8 from fun _ _ _ _ _ _ => rfl, show ∀ i v i2 v2 i3 v3 i4 v4, (gx_sI (gx_sI (gx_sI (gx_sI M 64 i v) 65 i2 v2) 66 i3 v3) 67 i4 v4).1 57 8 = M.1 57 8 from fun _ _ _ _ _ _ _ _ => rfl, hl, zz_bPs]
  refine ⟨_, rfl, rfl, fun k i hk h35 => ?_, ?_, fun i => ?_, fun i => ?_, fun i => ?_, fun i => ?_⟩
  · simp [zz_m4] at hk
    simp only [zz_sI1]
    rw [if_neg (by omega), if_neg (by omega), if_neg (by omega), if_neg (by omega), if_neg (by omega)]
  · rw [zz_sI1, if_pos ⟨rfl, rfl⟩]; exact nI_1 d
  · simp [zz_sI1]
  · simp [zz_sI1]
  · simp [zz_sI1]
  · simp [zz_sI1]
theorem zz_chg_loop {M : gx_Mem} (w num v y : Int32) : ∃ M2, f_X8_changes_l34 w num v y gx_fuel (1 : Int32) M = f_X8_changes_b121 w num v y (gx_sI M2 57 8 (M2.1 57 8 - 1)) ∧ M2.2 = M.2 ∧ ∀ k i, M2.1 k i = if zz_m4 k = true ∧ i < 39 then M.1 k (i + 1) else M.1 k i := by
  obtain ⟨s2, ⟨h1, h2, h3⟩, h4⟩ := zz_loopE (γ := Unit) (b := fun _ (ag : Int32 × gx_Mem → Option (Int32 × gx_Mem)) (t : Int32 × gx_Mem) => f_X8_changes_k34 w num v y (fun v5 M => ag (v5, M)) t.1 t.2) (E := fun _ t => f_X8_changes_b121 w num v y (gx_sI t.2 57 8 (t.2.1 57 8 - 1))) (I := fun k t => t.1 = nI (k + 1) ∧ t.2.2 = M.2 ∧ ∀ q i, t.2.1 q i = if zz_m4 q = true ∧ i < k then M.1 q (i + 1) else M.1 q i) (N := 39) (by
    rintro k ⟨u, m⟩ hk ⟨h1, h2, h3⟩
    have h1 : u = nI (k + 1) := h1
    have g3 : ∀ q i, m.1 q i = if zz_m4 q = true ∧ i < k then M.1 q (i + 1) else M.1 q i := h3
    subst h1
    refine ⟨(nI (k + 1 + 1), gx_sI (gx_sI (gx_sI (gx_sI m 64 k (m.1 64 (k + 1))) 65 k (m.1 65 (k + 1))) 66 k (m.1 66 (k + 1))) 67 k (m.1 67 (k + 1))), ⟨rfl, h2, fun q i => ?_⟩, fun _ ag => ?_⟩
    · show (gx_sI (gx_sI (gx_sI (gx_sI m 64 k (m.1 64 (k + 1))) 65 k (m.1 65 (k + 1))) 66 k (m.1 66 (k + 1))) 67 k (m.1 67 (k + 1))).1 q i = _
      simp only [zz_sI1, g3]
      by_cases ei : i = k
      · subst ei
        by_cases e1 : q = 64
        · subst e1; simp [zz_m4]; intro h9; omega
        · by_cases e2 : q = 65
          · subst e2; simp [zz_m4]; intro h9; omega
          · by_cases e3 : q = 66
            · subst e3; simp [zz_m4]; intro h9; omega
            · by_cases e4 : q = 67
              · subst e4; simp [zz_m4]; intro h9; omega
              · simp [zz_m4, e1, e2, e3, e4]
      · simp only [ei, and_false, if_false]
        by_cases e : zz_m4 q = true ∧ i < k
        · rw [if_pos e, if_pos ⟨e.1, by omega⟩]
        · rw [if_neg e, if_neg (fun e2 => e ⟨e2.1, by omega⟩)]
    · show f_X8_changes_k34 w num v y _ (nI (k + 1)) m = _
      unfold f_X8_changes_k34
      rw [if_neg (show ¬ (40 : Int32) ≤ nI (k + 1) from nI_ge (a := k + 1) (b := 40) (by omega) (by decide)), show nI (k + 1) - 1 = nI k from nI_pred k]
      simp only [zz_gi (show k + 1 < 40 by omega) (by decide), zz_gi (show k < 40 by omega) (by decide), zz_let, zz_cl (show k < 2147483648 by omega), zz_cl (show k + 1 < 2147483648 by omega), show nI (k + 1) + 1 = nI (k + 1 + 1) from nI_1 _]
      rfl) (by
    rintro ⟨u, m⟩ ⟨h1, h2, h3⟩ _ ag
    have h1 : u = nI 40 := h1
    subst h1
    rfl) 39 0 (1, M) rfl ⟨rfl, rfl, fun q i => by rw [if_neg (by omega)]⟩
  exact ⟨s2.2, h4 () gx_fuel (by decide), h2, h3⟩

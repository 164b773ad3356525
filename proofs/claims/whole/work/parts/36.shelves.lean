theorem zz_m1 : ¬ (0 : Int32) ≤ -1 := by decide
theorem zz_m1b : (-1 : Int32) < 0 := by decide
theorem zz_ne1 {j : Nat} (h : j < 2147483648) : ¬ nI j = -1 := fun e => by
  have := congrArg Int32.toInt e
  rw [nI_toInt h] at this
  have h2 : (-1 : Int32).toInt = -1 := rfl
  omega
theorem zz_2m {k : Nat} (h : k < 5) : ((-2 : Int32) - nI k < 0) ∧ ¬ ((-2 : Int32) - nI k = -1) ∧ (-2 : Int32) - ((-2 : Int32) - nI k) = nI k ∧ ((-2 : Int32) - nI k = -2 ↔ k = 0) ∧ ((-2 : Int32) - nI k = -3 ↔ k = 1) := by
  match k, h with
  | 0, _ => decide
  | 1, _ => decide
  | 2, _ => decide
  | 3, _ => decide
  | 4, _ => decide
theorem zz_2mi {k j : Nat} (h : k < 5) (hj : j < 5) : ((-2 : Int32) - nI k = (-2 : Int32) - nI j) ↔ k = j := by
  match k, h, j, hj with
  | 0, _, 0, _ => decide
  | 0, _, 1, _ => decide
  | 0, _, 2, _ => decide
  | 0, _, 3, _ => decide
  | 0, _, 4, _ => decide
  | 1, _, 0, _ => decide
  | 1, _, 1, _ => decide
  | 1, _, 2, _ => decide
  | 1, _, 3, _ => decide
  | 1, _, 4, _ => decide
  | 2, _, 0, _ => decide
  | 2, _, 1, _ => decide
  | 2, _, 2, _ => decide
  | 2, _, 3, _ => decide
  | 2, _, 4, _ => decide
  | 3, _, 0, _ => decide
  | 3, _, 1, _ => decide
  | 3, _, 2, _ => decide
  | 3, _, 3, _ => decide
  | 3, _, 4, _ => decide
  | 4, _, 0, _ => decide
  | 4, _, 1, _ => decide
  | 4, _, 2, _ => decide
  | 4, _, 3, _ => decide
  | 4, _, 4, _ => decide
theorem zz_p0 {j : Nat} (h : j < 2147483648) : (0 : Int32) ≤ nI j := nI_pos' h
/-- is a shelf empty? -/
theorem zz_emp {M : gx_Mem} {r : Nat} {t z h w : Int32} (q : zz_sh M (M.1 r 1) (M.1 r 2) z h w) : f_X5_isEmpty r M = some (zz_i (decide (h = -1))) := by
  unfold f_X5_isEmpty
  rcases q with ⟨h1, h2, h3⟩ | ⟨j, h1, h2, h3, h4, h5⟩ | ⟨k, n, h1, h2, h3, h4, h5, h6, h7⟩
  · rw [h1, h2, h3]; rfl
  · rw [if_pos (by rw [h2]; exact zz_p0 (by omega)), h5, h2, decide_eq_false (zz_ne1 (by omega))]; rfl
  · rw [if_neg (by rw [h3]; exact zz_m1), if_pos (by rw [h4]; exact zz_p0 (by omega)), h6, h4, decide_eq_false (zz_2m h1).2.1]; rfl
/-- a place on a shelf: both sides refuse alike -/
theorem zz_place {M : gx_Mem} (h : zz_Inv M) (a b : Int32) : ∃ r : Int32, f_X7_placeRefusal a b M = some r ∧ (∀ M1 : gx_Mem, M1.1 = M.1 → f_X8_whyNoPlace a b M1 = some r) ∧ (r = 0 ∨ r < 0) ∧ (r = 0 → ∃ s i k n : Nat, s < 6 ∧ a = nI s ∧ b = nI i ∧ i < n ∧ n ≤ 60 ∧ k < 5 ∧ M.1 (44 + 2 * s) 2 = nI k ∧ M.1 92 s = -2 - nI k) := by
  have hg : ∀ M1 : gx_Mem, f_X8_whyNoPlace a b M1 = if zz_rg a 6 = true then gx_gd (gx_in a 6) ((if (M1.1 92 a.toNatClampNeg) = (-1 : Int32) then some (-11 : Int32) else gx_gd (gx_in a 6) ((if (M1.1 92 a.toNatClampNeg) < 0 then gx_gd (gx_in a 6) (gx_bP (f_X8_in b (0 : Int32) ((M1.1 93 a.toNatClampNeg) - (1 : Int32)) M1) (fun y4 => (if y4 = 0 then some (-13 : Int32) else some (0 : Int32)))) else some (-12 : Int32))))) else some (-1) := by
    intro M1
    unfold f_X8_whyNoPlace
    rw [zz_isShelf8]
    simp only [zz_bPs, zz_ifi]
  unfold f_X7_placeRefusal
  rw [zz_isShelf7]
  simp only [zz_bPs, zz_ifi]
  cases ha : zz_rg a 6 with
  | false => exact ⟨-1, rfl, fun M1 _ => by rw [hg, ha]; rfl, .inr (by decide), fun e => absurd e (by decide)⟩
  | true =>
    obtain ⟨s, hs, rfl⟩ := zz_rgT ha
    obtain ⟨q, -, -⟩ := h.IS s hs
    simp only [if_true, zz_gi hs (by decide), zz_let, zz_cl (show s < 2147483648 by omega)]
    rw [zz_emp (t := 0) q]
    simp only [zz_bPs, zz_ifi]
    rcases q with ⟨h1, h2, h3⟩ | ⟨j, h1, h2, h3, h4, h5⟩ | ⟨k, n, h1, h2, h3, h4, h5, h6, h7⟩
    · rw [h3]
      refine ⟨-11, rfl, fun M1 e => ?_, .inr (by decide), fun e => absurd e (by decide)⟩
      rw [hg, ha, if_pos rfl, zz_gi hs (by decide), zz_cl (by omega), e, h3, if_pos rfl]
    · rw [h5, h2, decide_eq_false (zz_ne1 (by omega)), if_neg (by decide), h4, if_neg zz_m1]
      refine ⟨-12, rfl, fun M1 e => ?_, .inr (by decide), fun e => absurd e (by decide)⟩
      rw [hg, ha, if_pos rfl, zz_gi hs (by decide), zz_gi hs (by decide), zz_cl (by omega), e, h5, h2, if_neg (zz_ne1 (by omega)), if_neg (nI_pos (by omega))]
    · rw [h6, h4, decide_eq_false (zz_2m h1).2.1, if_neg (by decide), if_pos (zz_p0 (by omega)), h5]
      have hg2 : ∀ M1 : gx_Mem, M1.1 = M.1 → f_X8_whyNoPlace (nI s) b M1 = if zz_rg b n = true then some 0 else some (-13) := by
        intro M1 e
        rw [hg, ha, if_pos rfl, zz_gi hs (by decide), zz_gi hs (by decide), zz_gi hs (by decide), zz_cl (by omega), e, h6, h4, if_neg (zz_2m h1).2.1, if_pos (zz_2m h1).1, h7, h5, zz_inM8 b n M1 (by omega)]
        simp only [zz_bPs, zz_ifi]
      rcases zz_case b with hb | ⟨i, hi, rfl⟩
      · rw [if_pos hb]
        refine ⟨-13, rfl, fun M1 e => ?_, .inr (by decide), fun e => absurd e (by decide)⟩
        rw [hg2 M1 e, if_neg]
        unfold zz_rg; rw [zz_ltI, zz_t0] at hb; rw [decide_eq_false (by omega)]; decide
      · rw [if_neg (nI_pos hi)]
        simp only [zz_le (show n < 2147483648 by omega) hi]
        by_cases hl : n ≤ i
        · rw [if_pos hl]
          refine ⟨-13, rfl, fun M1 e => ?_, .inr (by decide), fun e => absurd e (by decide)⟩
          rw [hg2 M1 e, zz_rgN hi, if_neg (by simpa using hl)]
        · rw [if_neg hl]
          refine ⟨0, rfl, fun M1 e => ?_, .inl rfl, fun _ => ⟨s, i, k, n, hs, rfl, rfl, by omega, h2, h1, h4, by rw [h6, h4]⟩⟩
          rw [hg2 M1 e, zz_rgN hi, if_pos (by simpa using hl)]
theorem zz_cl60 {s i : Nat} (hs : s < 6) (hi : i < 60) : ((60 : Int32) * nI s) + nI i = nI (60 * s + i) := by
  rw [show (60 : Int32) = nI 60 from rfl, zz_mul, zz_add]
theorem op_element (a b : Int32) : zz_okp (f_X7_element a b) (f_X8_element a b) := by
  intro M h
  obtain ⟨r, h1, h2, h3, h4⟩ := zz_place h a b
  unfold f_X7_element f_X8_element
  rw [h1, h2 M rfl]
  simp only [zz_bPs]
  rcases h3 with rfl | h3
  · obtain ⟨s, i, k, n, hs, rfl, rfl, hi, hn, -⟩ := h4 rfl
    have hi6 : i < 60 := by omega
    rw [if_pos rfl, if_pos (by decide), zz_cl60 hs hi6, zz_gi hs (by decide), zz_let, zz_gi hi6 (by decide), zz_gi (show 60 * s + i < 360 by omega) (by decide), zz_cl (show s < 2147483648 by omega), zz_cl (show i < 2147483648 by omega), zz_cl (show 60 * s + i < 2147483648 by omega)]
    exact ⟨_, rfl, by rw [(h.IS s hs).2.1 i hi6, show 44 + 2 * s + 1 = 45 + 2 * s by omega]⟩
  · rw [if_neg (by rintro rfl; exact absurd h3 (by decide)), if_neg (by rw [zz_ltI] at h3; rw [zz_leI]; omega)]
    exact ⟨_, rfl, rfl⟩
theorem zz_fit {M : gx_Mem} {r k : Nat} (h : M.1 r 2 = nI k) (hk : k < 5) (w : Int64) : ∃ v : Int64, f_X5_fitted r w M = some v ∧ (k = 0 → ∃ x : Int8, v = x.toInt64) ∧ (∀ (x : Int32) (M1 : gx_Mem), (if nI k = 0 then f_X8_put_b95 x w.toInt32.toInt8.toInt32.toInt64 M1 else (if nI k = (1 : Int32) then f_X8_put_b95 x w.toInt32.toInt16.toInt32.toInt64 M1 else (if nI k = (2 : Int32) then f_X8_put_b95 x w.toInt32.toInt64 M1 else (if nI k = (3 : Int32) then f_X8_put_b95 x w M1 else (if (lg_cmp w (0 : Int64)) = 0 then f_X8_put_b95 x (0 : Int64) M1 else f_X8_put_b95 x (1 : Int64) M1))))) = f_X8_put_b95 x v M1) := by
  unfold f_X5_fitted
  rw [h]
  match k, hk with
  | 0, _ => exact ⟨_, rfl, fun _ => ⟨w.toInt32.toInt8, by simp⟩, fun _ _ => rfl⟩
  | 1, _ => exact ⟨_, rfl, fun q => absurd q (by decide), fun _ _ => rfl⟩
  | 2, _ => exact ⟨_, rfl, fun q => absurd q (by decide), fun _ _ => rfl⟩
  | 3, _ => exact ⟨_, rfl, fun q => absurd q (by decide), fun _ _ => rfl⟩
  | 4, _ =>
    by_cases hc : lg_cmp w (0 : Int64) = 0
    · exact ⟨0, by rw [if_pos hc]; rfl, fun q => absurd q (by decide), fun _ _ => by rw [if_pos hc]; rfl⟩
    · exact ⟨1, by rw [if_neg hc]; rfl, fun q => absurd q (by decide), fun _ _ => by rw [if_neg hc]; rfl⟩
/-- long writes leave all but the shelves' rows -/
theorem zz_Inv.L {M M2 : gx_Mem} (h : zz_Inv M) (h1 : M2.1 = M.1) (h2 : zz_IS M2) : zz_Inv M2 := by
  obtain ⟨q1, q2, q3, q4, q5, q6, q7⟩ := h
  obtain ⟨m1, m2⟩ := M2
  obtain rfl : m1 = M.1 := h1
  refine ⟨q1, q2, q3, q4, q5, h2, q7.at (fun _ _ _ => rfl)⟩
theorem op_put (a b : Int32) (w : Int64) : zz_ok (f_X7_put a b w) (f_X8_put a b w) := by
  intro M h
  obtain ⟨r, h1, h2, h3, h4⟩ := zz_place h a b
  unfold f_X7_put
  rw [h1]
  simp only [zz_bPs]
  rcases h3 with rfl | h3
  · obtain ⟨s, i, k, n, hs, rfl, rfl, hi, hn, hk, hk2, hk3⟩ := h4 rfl
    have hi6 : i < 60 := by omega
    obtain ⟨v, hv, hv0, hg⟩ := zz_fit hk2 hk w
    simp only [if_true, zz_gi hs (by decide), zz_gi hi6 (by decide), zz_let, zz_cl (show s < 2147483648 by omega), zz_cl (show i < 2147483648 by omega), hv, zz_bPs]
    refine ⟨_, _, rfl, ?_⟩
    unfold f_X8_put
    rw [h2 (gx_sL M (44 + 2 * s + 1) i v) rfl]
    simp only [zz_bPs]
    rw [if_pos (by decide)]
    simp only [zz_gi hs (by decide), zz_let, zz_cl (show s < 2147483648 by omega), zz_sL1, hk3, (zz_2m hk).2.2.1, zz_cl60 hs hi6]
    rw [hg]
    unfold f_X8_put_b95
    rw [zz_gi (show 60 * s + i < 360 by omega) (by decide), zz_cl (by omega), zz_let]
    refine ⟨_, rfl, h.L rfl (fun t ht => ?_)⟩
    have q := h.IS t ht
    by_cases e : t = s
    · subst e
      obtain ⟨q1, q2, q3⟩ := q
      refine ⟨q1, fun j hj => ?_, fun h0 j hj => ?_⟩
      · by_cases ej : j = i
        · subst ej
          rw [zz_sL2, if_pos ⟨rfl, rfl⟩, zz_sL2, if_neg (by omega), zz_sL2, if_pos ⟨by omega, rfl⟩]
        · rw [zz_sL2, if_neg (by omega), zz_sL2, if_neg (by omega), zz_sL2, if_neg (by omega), zz_sL2, if_neg (by omega)]
          exact q2 j hj
      · rw [zz_sL2, if_neg (by omega), zz_sL2]
        have h0 : M.1 (44 + 2 * t) 2 = 0 := h0
        by_cases ej : j = i
        · rw [if_pos ⟨by omega, ej⟩]
          refine hv0 ?_
          rw [hk2, ← zz_nI0, zz_eq (by omega) (by decide)] at h0
          exact h0
        · rw [if_neg (by omega)]
          exact q3 h0 j hj
    · refine zz_IS1.same (M := M) q (fun _ => rfl) rfl rfl (fun j hj => ?_) (fun j hj => ?_) rfl
      · rw [zz_sL2, if_neg (by omega), zz_sL2, if_neg (by omega)]
      · rw [zz_sL2, if_neg (by omega), zz_sL2, if_neg (by omega)]
  · rw [if_neg (by rintro rfl; exact absurd h3 (by decide))]
    refine ⟨_, M, rfl, M, ?_, h⟩
    unfold f_X8_put
    rw [h2 M rfl]
    simp only [zz_bPs]
    rw [if_neg (by rw [zz_ltI] at h3; rw [zz_leI]; omega)]

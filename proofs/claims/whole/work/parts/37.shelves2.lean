theorem zz_subT {x y : Int32} (h1 : -2147483648 ≤ x.toInt - y.toInt) (h2 : x.toInt - y.toInt < 2147483648) : (x - y).toInt = x.toInt - y.toInt := by
  rw [Int32.toInt_sub]
  exact Int.bmod_eq_of_le (by omega) (by omega)
theorem zz_cL2 (M : gx_Mem) (k sp j dp n : Nat) (q i : Nat) : (gx_cL M k sp j dp n).2 q i = if q = j ∧ dp ≤ i ∧ i < dp + n then M.2 k (sp + (i - dp)) else M.2 q i := by
  simp only [gx_cL]
  by_cases h : q = j
  · subst h
    simp only [if_pos, va_cpy, true_and]
  · simp [h]
theorem op_keep (a b : Int32) : zz_ok (f_X7_keep a b) (f_X8_keep a b) := by
  intro M h
  obtain ⟨⟨⟨n, h6, hn⟩, hn8⟩, -⟩ := h.IB
  rw [hn] at hn8
  unfold f_X7_keep
  rw [zz_isShelf7, zz_isBody7 hn h6]
  simp only [zz_bPs, zz_ifi]
  have hg : ∀ M1 : gx_Mem, M1.1 57 52 = nI n → f_X8_keep a b M1 = if zz_rg a 6 = true then (if b = -1 then f_X8_keep_b22 a b M1 else if zz_rg b n = true then f_X8_keep_b22 a b M1 else some (-1, M1)) else some (-1, M1) := by
    intro M1 e
    unfold f_X8_keep
    rw [zz_isShelf8, zz_isBody8 e h6]
    simp only [zz_bPs, zz_ifi]
  cases ha : zz_rg a 6 with
  | false => exact ⟨-1, M, rfl, M, by rw [hg M hn8, ha]; rfl, h⟩
  | true =>
    obtain ⟨s, hs, rfl⟩ := zz_rgT ha
    rw [if_pos rfl]
    have key : (b = -1 ∨ zz_rg b n = true) → ∃ r M1, f_X7_keep_b22 (nI s) b M = some (r, M1) ∧ M1.1 57 52 = nI n ∧ ∃ M2, f_X8_keep_b22 (nI s) b M1 = some (r, M2) ∧ zz_Inv M2 := by
      intro hb
      unfold f_X7_keep_b22 f_X8_keep_b22 f_X5_holdBody
      simp only [zz_gi hs (by decide), zz_let, zz_cl (show s < 2147483648 by omega), zz_bPs]
      have hpn : ∀ P : Nat → Nat → Bool, (∀ i, P 44 i = false) → (∀ i, P 46 i = false) → (∀ i, P 48 i = false) → (∀ i, P 50 i = false) → (∀ i, P 52 i = false) → (∀ i, P 54 i = false) → ∀ i, P (44 + 2 * s) i = false := by
        intro P p0 p1 p2 p3 p4 p5 i
        match s, hs with
        | 0, _ => exact p0 i
        | 1, _ => exact p1 i
        | 2, _ => exact p2 i
        | 3, _ => exact p3 i
        | 4, _ => exact p4 i
        | 5, _ => exact p5 i
      have eH := hpn zz_pH (fun _ => rfl) (fun _ => rfl) (fun _ => rfl) (fun _ => rfl) (fun _ => rfl) (fun _ => rfl)
      have eI := hpn zz_pI (fun _ => rfl) (fun _ => rfl) (fun _ => rfl) (fun _ => rfl) (fun _ => rfl) (fun _ => rfl)
      have eT := hpn zz_pT (fun _ => rfl) (fun _ => rfl) (fun _ => rfl) (fun _ => rfl) (fun _ => rfl) (fun _ => rfl)
      have eC := hpn zz_pC (fun _ => rfl) (fun _ => rfl) (fun _ => rfl) (fun _ => rfl) (fun _ => rfl) (fun _ => rfl)
      have eB := hpn zz_pB (fun _ => rfl) (fun _ => rfl) (fun _ => rfl) (fun _ => rfl) (fun _ => rfl) (fun _ => rfl)
      have eL := hpn zz_pL (fun _ => rfl) (fun _ => rfl) (fun _ => rfl) (fun _ => rfl) (fun _ => rfl) (fun _ => rfl)
      refine ⟨_, _, rfl, ?_, _, rfl, (((h.IH.w (eH 1)).w (eH 2)).w (eH 3)).w rfl, (((h.II.w (eI 1)).w (eI 2)).w (eI 3)).w rfl, (((h.IT.w (eT 1)).w (eT 2)).w (eT 3)).w rfl, (((h.IC.w (eC 1)).w (eC 2)).w (eC 3)).w rfl, (((h.IB.w (eB 1)).w (eB 2)).w (eB 3)).w rfl, ?_, (((h.IL.w (eL 1)).w (eL 2)).w (eL 3)).w rfl⟩
      · simp only [zz_sI1]
        rw [if_neg (by omega), if_neg (by omega), if_neg (by omega)]; exact hn8
      · intro t ht
        have q := h.IS t ht
        by_cases e : t = s
        · subst e
          refine ⟨?_, q.2.1, fun h0 => ?_⟩
          · have g1 : (gx_sI (gx_sI (gx_sI (gx_sI M (44 + 2 * t) 1 b) (44 + 2 * t) 2 (-1)) (44 + 2 * t) 3 0) 92 t b).1 (44 + 2 * t) 1 = b := by rw [zz_sI1, if_neg (by omega), zz_sI1, if_neg (by omega), zz_sI1, if_neg (by omega), zz_sI1, if_pos ⟨rfl, rfl⟩]
            have g2 : (gx_sI (gx_sI (gx_sI (gx_sI M (44 + 2 * t) 1 b) (44 + 2 * t) 2 (-1)) (44 + 2 * t) 3 0) 92 t b).1 (44 + 2 * t) 2 = -1 := by rw [zz_sI1, if_neg (by omega), zz_sI1, if_neg (by omega), zz_sI1, if_pos ⟨rfl, rfl⟩]
            have g3 : (gx_sI (gx_sI (gx_sI (gx_sI M (44 + 2 * t) 1 b) (44 + 2 * t) 2 (-1)) (44 + 2 * t) 3 0) 92 t b).1 92 t = b := by rw [zz_sI1, if_pos ⟨rfl, rfl⟩]
            have g4 : (gx_sI (gx_sI (gx_sI (gx_sI M (44 + 2 * t) 1 b) (44 + 2 * t) 2 (-1)) (44 + 2 * t) 3 0) 92 t b).1 40 2 = nI n := by simp only [zz_sI1]; rw [if_neg (by omega), if_neg (by omega), if_neg (by omega), if_neg (by omega)]; exact hn
            unfold zz_sh
            rw [g1, g2, g3, g4]
            rcases hb with hb | hb
            · exact .inl ⟨hb, rfl, hb⟩
            · obtain ⟨j, hj, rfl⟩ := zz_rgT hb
              exact .inr (.inl ⟨j, by omega, rfl, nI_lt hj (by omega), rfl, rfl⟩)
          · exfalso
            rw [zz_sI1, if_neg (by omega), zz_sI1, if_neg (by omega), zz_sI1, if_pos ⟨rfl, rfl⟩] at h0
            exact absurd h0 (by decide)
        · refine zz_IS1.same (M := M) q (fun i => ?_) ?_ ?_ (fun _ _ => rfl) (fun _ _ => rfl) ?_
          · simp only [zz_sI1]; rw [if_neg (by omega), if_neg (by omega), if_neg (by omega), if_neg (by omega)]
          · simp only [zz_sI1]; rw [if_neg (by omega), if_neg (by omega), if_neg (by omega), if_neg (by omega)]
          · simp only [zz_sI1]; rw [if_neg (by omega), if_neg (by omega), if_neg (by omega), if_neg (by omega)]
          · simp only [zz_sI1]; rw [if_neg (by omega), if_neg (by omega), if_neg (by omega), if_neg (by omega)]
    by_cases hb1 : b = -1
    · rw [if_pos hb1]
      obtain ⟨r, M1, k1, k2, M2, k3, k4⟩ := key (.inl hb1)
      exact ⟨r, M1, k1, M2, by rw [hg M1 k2, ha, if_pos rfl, if_pos hb1]; exact k3, k4⟩
    · rw [if_neg hb1]
      cases hb : zz_rg b n with
      | false => exact ⟨-1, M, rfl, M, by rw [hg M hn8, ha, if_pos rfl, if_neg hb1, hb]; rfl, h⟩
      | true =>
        rw [if_pos rfl]
        obtain ⟨r, M1, k1, k2, M2, k3, k4⟩ := key (.inr hb)
        exact ⟨r, M1, k1, M2, by rw [hg M1 k2, ha, if_pos rfl, if_neg hb1, hb, if_pos rfl]; exact k3, k4⟩
/-- both tables of kinds say the same -/
theorem zz_under {c k : Nat} (hc : c < 8) (hk : k < 8) (M : gx_Mem) : ∃ b : Bool, f_X0_isUnder (nI c) (nI k) M = some (zz_i b) ∧ f_X8_isUnder (nI c) (nI k) M = some (zz_i b) := by
  match c, hc, k, hk with
  | 0, _, 0, _ => exact ⟨true, rfl, rfl⟩
  | 0, _, 1, _ => exact ⟨false, rfl, rfl⟩
  | 0, _, 2, _ => exact ⟨false, rfl, rfl⟩
  | 0, _, 3, _ => exact ⟨false, rfl, rfl⟩
  | 0, _, 4, _ => exact ⟨false, rfl, rfl⟩
  | 0, _, 5, _ => exact ⟨false, rfl, rfl⟩
  | 0, _, 6, _ => exact ⟨false, rfl, rfl⟩
  | 0, _, 7, _ => exact ⟨false, rfl, rfl⟩
  | 1, _, 0, _ => exact ⟨true, rfl, rfl⟩
  | 1, _, 1, _ => exact ⟨true, rfl, rfl⟩
  | 1, _, 2, _ => exact ⟨false, rfl, rfl⟩
  | 1, _, 3, _ => exact ⟨false, rfl, rfl⟩
  | 1, _, 4, _ => exact ⟨false, rfl, rfl⟩
  | 1, _, 5, _ => exact ⟨false, rfl, rfl⟩
  | 1, _, 6, _ => exact ⟨false, rfl, rfl⟩
  | 1, _, 7, _ => exact ⟨false, rfl, rfl⟩
  | 2, _, 0, _ => exact ⟨true, rfl, rfl⟩
  | 2, _, 1, _ => exact ⟨false, rfl, rfl⟩
  | 2, _, 2, _ => exact ⟨true, rfl, rfl⟩
  | 2, _, 3, _ => exact ⟨false, rfl, rfl⟩
  | 2, _, 4, _ => exact ⟨false, rfl, rfl⟩
  | 2, _, 5, _ => exact ⟨false, rfl, rfl⟩
  | 2, _, 6, _ => exact ⟨false, rfl, rfl⟩
  | 2, _, 7, _ => exact ⟨false, rfl, rfl⟩
  | 3, _, 0, _ => exact ⟨true, rfl, rfl⟩
  | 3, _, 1, _ => exact ⟨false, rfl, rfl⟩
  | 3, _, 2, _ => exact ⟨true, rfl, rfl⟩
  | 3, _, 3, _ => exact ⟨true, rfl, rfl⟩
  | 3, _, 4, _ => exact ⟨false, rfl, rfl⟩
  | 3, _, 5, _ => exact ⟨false, rfl, rfl⟩
  | 3, _, 6, _ => exact ⟨false, rfl, rfl⟩
  | 3, _, 7, _ => exact ⟨false, rfl, rfl⟩
  | 4, _, 0, _ => exact ⟨true, rfl, rfl⟩
  | 4, _, 1, _ => exact ⟨true, rfl, rfl⟩
  | 4, _, 2, _ => exact ⟨false, rfl, rfl⟩
  | 4, _, 3, _ => exact ⟨false, rfl, rfl⟩
  | 4, _, 4, _ => exact ⟨true, rfl, rfl⟩
  | 4, _, 5, _ => exact ⟨false, rfl, rfl⟩
  | 4, _, 6, _ => exact ⟨false, rfl, rfl⟩
  | 4, _, 7, _ => exact ⟨false, rfl, rfl⟩
  | 5, _, 0, _ => exact ⟨true, rfl, rfl⟩
  | 5, _, 1, _ => exact ⟨false, rfl, rfl⟩
  | 5, _, 2, _ => exact ⟨true, rfl, rfl⟩
  | 5, _, 3, _ => exact ⟨true, rfl, rfl⟩
  | 5, _, 4, _ => exact ⟨false, rfl, rfl⟩
  | 5, _, 5, _ => exact ⟨true, rfl, rfl⟩
  | 5, _, 6, _ => exact ⟨false, rfl, rfl⟩
  | 5, _, 7, _ => exact ⟨false, rfl, rfl⟩
  | 6, _, 0, _ => exact ⟨true, rfl, rfl⟩
  | 6, _, 1, _ => exact ⟨false, rfl, rfl⟩
  | 6, _, 2, _ => exact ⟨false, rfl, rfl⟩
  | 6, _, 3, _ => exact ⟨false, rfl, rfl⟩
  | 6, _, 4, _ => exact ⟨false, rfl, rfl⟩
  | 6, _, 5, _ => exact ⟨false, rfl, rfl⟩
  | 6, _, 6, _ => exact ⟨true, rfl, rfl⟩
  | 6, _, 7, _ => exact ⟨false, rfl, rfl⟩
  | 7, _, 0, _ => exact ⟨true, rfl, rfl⟩
  | 7, _, 1, _ => exact ⟨false, rfl, rfl⟩
  | 7, _, 2, _ => exact ⟨false, rfl, rfl⟩
  | 7, _, 3, _ => exact ⟨false, rfl, rfl⟩
  | 7, _, 4, _ => exact ⟨false, rfl, rfl⟩
  | 7, _, 5, _ => exact ⟨false, rfl, rfl⟩
  | 7, _, 6, _ => exact ⟨true, rfl, rfl⟩
  | 7, _, 7, _ => exact ⟨true, rfl, rfl⟩
theorem op_taken (a b : Int32) : zz_okp (f_X7_taken a b) (f_X8_taken a b) := by
  intro M h
  obtain ⟨⟨⟨n, h6, hn⟩, hn8⟩, q2, -⟩ := h.IB
  unfold f_X7_taken f_X8_taken
  rw [zz_isShelf7, zz_isShelf8, zz_isKind7, show (7 : Int32) = nI 7 from rfl, zz_in8 b 7 M (by decide)]
  simp only [zz_bPs, zz_ifi]
  cases ha : zz_rg a 6 with
  | false => exact ⟨-1, rfl, rfl⟩
  | true =>
    cases hb : zz_rg b 8 with
    | false => exact ⟨-1, rfl, rfl⟩
    | true =>
      obtain ⟨s, hs, rfl⟩ := zz_rgT ha
      obtain ⟨k, hk, rfl⟩ := zz_rgT hb
      obtain ⟨q, -, -⟩ := h.IS s hs
      simp only [if_true, zz_gi hs (by decide), zz_let, zz_cl (show s < 2147483648 by omega)]
      rw [zz_emp (t := 0) q]
      simp only [zz_bPs, zz_ifi]
      rcases q with ⟨h1, h2, h3⟩ | ⟨j, h1, h2, h3, h4, h5⟩ | ⟨t, m, h1, h2, h3, h4, h5, h7, h8⟩
      · rw [h3, if_pos (by decide), if_pos rfl]; exact ⟨-11, rfl, rfl⟩
      · rw [hn, zz_lt (by omega) (by omega)] at h3
        rw [h5, h2, decide_eq_false (zz_ne1 (by omega)), if_neg (by decide), if_neg (zz_ne1 (by omega)), if_neg (nI_pos (by omega)), zz_isBody7 hn h6, zz_rgN (by omega), decide_eq_true h3]
        obtain ⟨⟨c, hc, e⟩, -⟩ := q2 j h1
        simp only [zz_bPs, zz_ifi, if_true, zz_gi h1 (by decide), zz_cl (show j < 2147483648 by omega), (q2 j h1).2]
        rw [e]
        obtain ⟨u, u1, u2⟩ := zz_under (show c < 8 by omega) hk M
        rw [u1, u2]
        simp only [zz_bPs, zz_ifi]
        cases u <;> exact ⟨_, rfl, rfl⟩
      · rw [h7, h4, decide_eq_false (zz_2m h1).2.1, if_neg (by decide), if_neg (zz_2m h1).2.1, if_pos (zz_2m h1).1, h3, zz_isBody7 hn h6]
        have e : zz_rg (-1) n = false := by
          unfold zz_rg
          rw [show (-1 : Int32).toInt = -1 from rfl]
          exact decide_eq_false (by omega)
        rw [e]
        exact ⟨-12, rfl, rfl⟩

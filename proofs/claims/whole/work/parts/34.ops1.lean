theorem op_led (a : Int32) : zz_okp (f_X7_led a) (f_X8_led a) := by
  intro M h
  unfold f_X7_led f_X8_led
  rw [show (4 : Int32) = nI 4 from rfl, zz_in8 a 4 M (by decide)]
  simp only [zz_bPs, zz_ifi]
  rcases zz_case a with ha | ⟨j, hj, rfl⟩
  · have e : zz_rg a 5 = false := by
      unfold zz_rg; rw [zz_ltI, zz_t0] at ha; exact decide_eq_false (by omega)
    rw [if_pos ha, e]
    exact ⟨-1, rfl, rfl⟩
  · rw [zz_rgN hj, if_neg (nI_pos hj), show (5 : Int32) = nI 5 from rfl]
    simp only [zz_le (show 5 < 2147483648 by decide) hj]
    by_cases hl : j < 5
    · rw [if_neg (by omega), zz_gi hl (by decide), if_pos (by simpa using hl), zz_gi hl (by decide), zz_cl hj]
      exact ⟨_, rfl, by rw [h.IH.2.2.2.2.2.2.1 j hl]⟩
    · rw [if_pos (by omega), if_neg (by simpa using hl)]
      exact ⟨-1, rfl, rfl⟩
theorem op_trace (a : Int32) : zz_okp (f_X7_trace a) (f_X8_trace a) := by
  intro M h
  unfold f_X7_trace f_X8_trace
  obtain ⟨⟨e, h1, h2⟩, h3⟩ := h.IB.2.2.1
  rw [h3, h2]
  rcases zz_case a with ha | ⟨j, hj, rfl⟩
  · rw [if_pos ha, if_pos ha]; exact ⟨-1, rfl, rfl⟩
  · simp only [if_neg (nI_pos hj), zz_le (show e < 2147483648 by omega) hj, show (24 : Int32) = nI 24 from rfl, zz_le (show 24 < 2147483648 by decide) hj]
    by_cases h4 : e ≤ j
    · simp only [if_pos h4]; exact ⟨-1, rfl, rfl⟩
    · by_cases h5 : 24 ≤ j
      · simp only [if_neg h4, if_pos h5]; exact ⟨-1, rfl, rfl⟩
      · simp only [if_neg h4, if_neg h5, zz_gi (show j < 24 by omega) (by decide), zz_cl hj]
        exact ⟨_, rfl, by rw [h.IB.2.2.2 j (by omega) (by rw [h2]; exact nI_lt (by omega) (by omega))]⟩
theorem op_moves (a b : Int32) : zz_ok (f_X7_moves a b) (f_X8_moves a b) := by
  intro M h
  obtain ⟨n, h6, hn, hn8⟩ := h.ppl
  unfold f_X7_moves
  rw [zz_isOne7 hn h6, zz_isFlat7]
  simp only [zz_bPs, zz_ifi]
  cases ha : zz_rg a n with
  | false =>
    refine ⟨-1, M, rfl, M, ?_, h⟩
    unfold f_X8_moves
    rw [zz_isOne8 hn8 h6, ha]; rfl
  | true =>
    cases hb : zz_rg b 24 with
    | false =>
      refine ⟨-1, M, rfl, M, ?_, h⟩
      unfold f_X8_moves
      rw [zz_isOne8 hn8 h6, ha, zz_isFlat8, hb]; rfl
    | true =>
      obtain ⟨p, hp, rfl⟩ := zz_rgT ha
      obtain ⟨f, hf, rfl⟩ := zz_rgT hb
      have hp6 : p < 6 := by omega
      simp only [if_true, zz_gi hp6 (by decide), zz_cl (show p < 2147483648 by omega), zz_let]
      refine ⟨_, _, rfl, ?_⟩
      unfold f_X8_moves
      rw [zz_isOne8 (hn := ?a) (h6 := h6), zz_isFlat8, ha, hb]
      case a => exact hn8
      simp only [zz_bPs, zz_ifi, if_true, zz_gi hp6 (by decide), zz_cl (show p < 2147483648 by omega), zz_let]
      refine ⟨_, congrArg some (Prod.ext (h.IH.2.1 p hp6).2 rfl), ?_⟩
      obtain ⟨q1, q2, q3, q4, q5, q6, q7, q8, q9⟩ := h.IH
      refine ⟨⟨q1, fun j hj => ?_, q3, q4, q5, q6, fun j hj => ?_, q8, q9⟩, (((h.II.w rfl).w rfl).w rfl).w rfl, (((h.IT.w rfl).w rfl).w rfl).w rfl, (((h.IC.w rfl).w rfl).w rfl).w rfl, (((h.IB.w rfl).w rfl).w rfl).w rfl, (((h.IS.w rfl).w rfl).w rfl).w rfl, (((h.IL.w rfl).w rfl).w rfl).w rfl⟩
      · simp only [zz_sI1]
        by_cases e : j = p
        · simp [e]; exact ⟨f, by omega, rfl⟩
        · simp [e]; exact q2 j hj
      · have := q7 j hj
        have h1 := q7 1 (by decide)
        simp only [zz_sI1, show (1 : Int32).toNatClampNeg = 1 from rfl]
        by_cases e : j = 1
        · subst e; simp [h1]
        · simp [e, this]

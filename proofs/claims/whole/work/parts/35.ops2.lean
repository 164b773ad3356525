theorem op_person (a b : Int32) : zz_ok (f_X7_person a b) (f_X8_person a b) := by
  intro M h
  obtain ⟨n, h6, hn, hn8⟩ := h.ppl
  unfold f_X7_person
  rw [zz_mayCome7]
  simp only [zz_bPs, zz_ifi]
  have hg : ∀ M1 : gx_Mem, f_X8_person a b M1 = if zz_rg a 24 = true then (if zz_rg b 4096 = true then (if M1.1 57 1 = (6 : Int32) then some (-3, M1) else gx_bI (f_X8_addOne a b M1) (fun y M => some (y, M))) else some (-1, M1)) else some (-1, M1) := by
    intro M1
    unfold f_X8_person
    rw [zz_isFlat8, show (4095 : Int32) = nI 4095 from rfl, zz_in8 b 4095 M1 (by decide)]
    simp only [zz_bPs, zz_ifi]
  cases ha : zz_rg a 24 with
  | false => exact ⟨-1, M, rfl, M, by rw [hg, ha]; rfl, h⟩
  | true =>
    cases hb : zz_rg b 4096 with
    | false => exact ⟨-1, M, rfl, M, by rw [hg, ha, hb]; rfl, h⟩
    | true =>
      obtain ⟨f, hf, rfl⟩ := zz_rgT ha
      obtain ⟨o, ho, rfl⟩ := zz_rgT hb
      rw [Bool.true_and, if_pos rfl, hn, show (6 : Int32) = nI 6 from rfl]
      simp only [zz_le (show 6 < 2147483648 by decide) (show n < 2147483648 by omega)]
      by_cases h66 : 6 ≤ n
      · rw [if_pos h66]
        refine ⟨-3, M, rfl, M, ?_, h⟩
        rw [hg, ha, hb, hn8, if_pos rfl, if_pos rfl, if_pos (by rw [show n = 6 by omega]; rfl)]
      · have hlt : n < 6 := by omega
        rw [if_neg h66]
        unfold f_X2_welcome
        rw [hn, if_pos (show nI n < (6 : Int32) from nI_lt hlt (by decide))]
        simp only [zz_gi hlt (by decide), zz_let, zz_cl (show n < 2147483648 by omega), show ∀ k i v, (gx_sI M (9 + 1) k v).1 9 i = M.1 9 i from fun _ _ _ => rfl, show ∀ k i v k2 v2, (gx_sI (gx_sI M (9 + 1) k v) (9 + 2) k2 v2).1 9 i = M.1 9 i from fun _ _ _ _ _ => rfl, hn, zz_bIs]
        refine ⟨_, _, rfl, ?_⟩
        rw [hg, ha, hb, if_pos rfl, if_pos rfl]
        generalize hM1 : gx_sI (gx_sI (gx_sI M (9 + 1) n (nI f)) (9 + 2) n (nI o)) 9 7 (nI n + 1) = M1
        have e8 : M1.1 57 1 = nI n := by rw [← hM1]; exact hn8
        rw [e8, if_neg (by rw [show (6 : Int32) = nI 6 from rfl, zz_eq (by omega) (by decide)]; omega)]
        unfold f_X8_addOne
        simp only [e8, zz_gi hlt (by decide), zz_let, zz_cl (show n < 2147483648 by omega), show ∀ k i v, (gx_sI M1 58 k v).1 57 i = M1.1 57 i from fun _ _ _ => rfl, show ∀ k i v k2 v2, (gx_sI (gx_sI M1 58 k v) 59 k2 v2).1 57 i = M1.1 57 i from fun _ _ _ _ _ => rfl, zz_bIs]
        refine ⟨_, congrArg some (Prod.ext ?_ rfl), ?_⟩
        · show (gx_sI _ 57 1 (nI n + 1)).1 57 1 - 1 = M1.1 9 7 - 1
          rw [zz_sI1, if_pos ⟨rfl, rfl⟩, ← hM1, zz_sI1, if_pos ⟨rfl, rfl⟩]
        · subst hM1
          rw [show nI n + 1 = nI (n + 1) from nI_1 n]
          obtain ⟨q1, q2, q3, q4, q5, q6, q7, q8, q9⟩ := h.IH
          have hIC : zz_IC (gx_sI (gx_sI (gx_sI M (9 + 1) n (nI f)) (9 + 2) n (nI o)) 9 7 (nI (n + 1))) := ((h.IC.w rfl).w rfl).grow hn hlt
          refine ⟨⟨?_, fun j hj => ?_, fun j hj => ?_, q4, q5, q6, q7, q8, q9⟩, (((((h.II.w rfl).w rfl).w rfl).w rfl).w rfl).w rfl, (((((h.IT.w rfl).w rfl).w rfl).w rfl).w rfl).w rfl, ((hIC.w rfl).w rfl).w rfl, (((((h.IB.w rfl).w rfl).w rfl).w rfl).w rfl).w rfl, (((((h.IS.w rfl).w rfl).w rfl).w rfl).w rfl).w rfl, (((((h.IL.w rfl).w rfl).w rfl).w rfl).w rfl).w rfl⟩
          · simp [zz_sI1]; exact ⟨n + 1, by omega, rfl⟩
          · have := q2 j hj
            simp only [zz_sI1]
            by_cases e : j = n
            · simp [e]; exact ⟨f, by omega, rfl⟩
            · simp [e, this]
          · have := q3 j hj
            simp only [zz_sI1]
            by_cases e : j = n
            · simp [e]; exact ⟨o, by omega, rfl⟩
            · simp [e, this]
theorem op_body (a : Int32) : zz_ok (f_X7_body a) (f_X8_body a) := by
  intro M h
  obtain ⟨⟨⟨n, h6, hn⟩, hn8⟩, q2, q3, q4⟩ := h.IB
  rw [hn] at hn8
  unfold f_X7_body
  rw [zz_isKind7]
  simp only [zz_bPs, zz_ifi]
  have hg : ∀ M1 : gx_Mem, f_X8_body a M1 = if zz_rg a 8 = true then (if M1.1 57 52 = (50 : Int32) then some (-3, M1) else gx_gd (gx_in (M1.1 57 52) 50) (gx_let (gx_sI M1 90 (M1.1 57 52).toNatClampNeg a) (fun M3 => gx_let (gx_sI M3 57 52 ((M3.1 57 52) + (1 : Int32))) (fun M4 => some (((M4.1 57 52) - (1 : Int32)), M4))))) else some (-1, M1) := by
    intro M1
    unfold f_X8_body
    rw [show (7 : Int32) = nI 7 from rfl, zz_in8 a 7 M1 (by decide)]
    simp only [zz_bPs, zz_ifi]
  cases ha : zz_rg a 8 with
  | false => exact ⟨-1, M, rfl, M, by rw [hg, ha]; rfl, h⟩
  | true =>
    obtain ⟨f, hf, rfl⟩ := zz_rgT ha
    rw [if_pos rfl, hn, show (50 : Int32) = nI 50 from rfl]
    simp only [zz_le (show 50 < 2147483648 by decide) (show n < 2147483648 by omega)]
    by_cases h66 : 50 ≤ n
    · rw [if_pos h66]
      refine ⟨-3, M, rfl, M, ?_, h⟩
      rw [hg, ha, hn8, if_pos rfl, if_pos (by rw [show n = 50 by omega]; rfl)]
    · have hlt : n < 50 := by omega
      rw [if_neg h66]
      unfold f_X0_add
      simp only [hn, zz_gi hlt (by decide), zz_let, zz_cl (show n < 2147483648 by omega), show ∀ k i v, (gx_sI M 41 k v).1 40 i = M.1 40 i from fun _ _ _ => rfl, zz_bIs]
      refine ⟨_, _, rfl, ?_⟩
      rw [hg, ha, if_pos rfl]
      generalize hM1 : gx_sI (gx_sI M 41 n (nI f)) 40 2 (nI n + 1) = M1
      have e8 : M1.1 57 52 = nI n := by rw [← hM1]; exact hn8
      rw [e8, if_neg (by rw [show (50 : Int32) = nI 50 from rfl, zz_eq (by omega) (by decide)]; omega)]
      simp only [zz_gi hlt (by decide), zz_let, zz_cl (show n < 2147483648 by omega), show ∀ k i v, (gx_sI M1 90 k v).1 57 i = M1.1 57 i from fun _ _ _ => rfl, e8]
      refine ⟨_, congrArg some (Prod.ext ?_ rfl), ?_⟩
      · show (gx_sI _ 57 52 (nI n + 1)).1 57 52 - 1 = M1.1 40 2 - 1
        rw [zz_sI1, if_pos ⟨rfl, rfl⟩, ← hM1, zz_sI1, if_pos ⟨rfl, rfl⟩]
      · subst hM1
        rw [show nI n + 1 = nI (n + 1) from nI_1 n]
        have hIS : zz_IS (gx_sI (gx_sI M 41 n (nI f)) 40 2 (nI (n + 1))) := (h.IS.w rfl).grow hn hlt
        refine ⟨(((h.IH.w rfl).w rfl).w rfl).w rfl, (((h.II.w rfl).w rfl).w rfl).w rfl, (((h.IT.w rfl).w rfl).w rfl).w rfl, (((h.IC.w rfl).w rfl).w rfl).w rfl, ⟨?_, fun j hj => ?_, q3, q4⟩, (hIS.w rfl).w rfl, (((h.IL.w rfl).w rfl).w rfl).w rfl⟩
        · simp [zz_sI1]; exact ⟨n + 1, by omega, rfl⟩
        · have := q2 j hj
          simp only [zz_sI1]
          by_cases e : j = n
          · simp [e]; exact ⟨f, by omega, rfl⟩
          · simp [e, this]
theorem zz_i8 (x : Int32) : x.toInt8.toInt32.toInt8.toInt32 = x.toInt8.toInt32 := by simp
theorem op_feed (a : Int32) : zz_ok (f_X7_feed a) (f_X8_feed a) := by
  intro M h
  obtain ⟨⟨⟨n, h6, hn⟩, hn8⟩, q2⟩ := h.IT
  rw [hn] at hn8
  have hg : ∀ M1 : gx_Mem, f_X8_feed a M1 = if zz_rg a 256 = true then (if M1.1 57 15 = (120 : Int32) then some (-3, M1) else gx_gd (gx_in (M1.1 57 15) 120) (gx_let (gx_sI M1 68 (M1.1 57 15).toNatClampNeg (a.toInt8.toInt32.toInt8.toInt32)) (fun M3 => gx_let (gx_sI M3 57 15 ((M3.1 57 15) + (1 : Int32))) (fun M4 => some ((M4.1 57 15), M4))))) else some (-1, M1) := by
    intro M1
    unfold f_X8_feed
    rw [show (255 : Int32) = nI 255 from rfl, zz_in8 a 255 M1 (by decide)]
    simp only [zz_bPs, zz_ifi]
  have hf7 : f_X7_feed a M = if zz_rg a 256 = true then gx_bI (f_X6_take a M) (fun y2 M3 => (if y2 = 0 then some ((-3 : Int32), M3) else some ((M3.1 5 3), M3))) else some (-1, M) := by
    unfold f_X7_feed
    rcases zz_case a with ha | ⟨j, hj, rfl⟩
    · rw [if_pos ha, if_neg]
      unfold zz_rg; rw [zz_ltI, zz_t0] at ha; rw [decide_eq_false (by omega)]; decide
    · rw [if_neg (nI_pos hj), zz_rgN hj, show (255 : Int32) = nI 255 from rfl]
      simp only [zz_le hj (show 255 < 2147483648 by decide)]
      by_cases hl : j ≤ 255
      · rw [if_pos hl, if_pos (by simpa using (show j < 256 by omega))]
      · rw [if_neg hl, if_neg (by simpa using (show 256 ≤ j by omega))]
  rw [hf7]
  cases ha : zz_rg a 256 with
  | false => exact ⟨-1, M, rfl, M, by rw [hg, ha]; rfl, h⟩
  | true =>
    obtain ⟨f, hf, rfl⟩ := zz_rgT ha
    rw [if_pos rfl]
    unfold f_X6_take
    rw [hn, show (120 : Int32) = nI 120 from rfl]
    simp only [zz_lt (show n < 2147483648 by omega) (show 120 < 2147483648 by decide)]
    by_cases h66 : n < 120
    · rw [if_pos h66]
      simp only [zz_gi h66 (by decide), zz_let, zz_cl (show n < 2147483648 by omega), show ∀ k i v, (gx_sI M 6 k v).1 5 i = M.1 5 i from fun _ _ _ => rfl, zz_bIs, hn]
      rw [if_neg (by decide)]
      refine ⟨_, _, rfl, ?_⟩
      rw [hg, ha, if_pos rfl]
      generalize hM1 : gx_sI (gx_sI M 6 n (nI f)) 5 3 (nI n + 1) = M1
      have e8 : M1.1 57 15 = nI n := by rw [← hM1]; exact hn8
      rw [e8, if_neg (by rw [show (120 : Int32) = nI 120 from rfl, zz_eq (by omega) (by decide)]; omega)]
      simp only [zz_gi h66 (by decide), zz_let, zz_cl (show n < 2147483648 by omega), show ∀ k i v, (gx_sI M1 68 k v).1 57 i = M1.1 57 i from fun _ _ _ => rfl, e8, zz_i8]
      refine ⟨_, congrArg some (Prod.ext ?_ rfl), ?_⟩
      · rw [← hM1]; simp [zz_sI1]
      · subst hM1
        rw [show nI n + 1 = nI (n + 1) from nI_1 n]
        refine ⟨(((h.IH.w rfl).w rfl).w rfl).w rfl, (((h.II.w rfl).w rfl).w rfl).w rfl, ⟨?_, fun j hj => ?_⟩, (((h.IC.w rfl).w rfl).w rfl).w rfl, (((h.IB.w rfl).w rfl).w rfl).w rfl, (((h.IS.w rfl).w rfl).w rfl).w rfl, (((h.IL.w rfl).w rfl).w rfl).w rfl⟩
        · simp [zz_sI1]; exact ⟨n + 1, by omega, rfl⟩
        · have := q2 j hj
          simp only [zz_sI1]
          by_cases e : j = n
          · simp [e]; exact ⟨f, by omega, rfl⟩
          · simp [e, this]
    · rw [if_neg h66, zz_bIs, if_pos rfl]
      refine ⟨-3, M, rfl, M, ?_, h⟩
      rw [hg, ha, hn8, if_pos rfl, if_pos (by rw [show n = 120 by omega]; rfl)]

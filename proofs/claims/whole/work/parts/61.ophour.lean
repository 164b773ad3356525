theorem op_hour : zz_ok f_X7_hour f_X8_hour := by
  intro M h
  obtain ⟨lv, hlv, hC, hM⟩ := h.law
  obtain ⟨C, e1, f1, w1, l1⟩ := zz_passHour h.IH hlv hC
  unfold f_X7_hour
  rw [e1]
  simp only [zz_bPs]
  refine ⟨_, gx_sI (gx_sI C 9 9 (nI ((zz_h0 M + 1) % 12))) 15 0 (M.1 15 0 + 1), rfl, ?_⟩
  generalize hA : gx_sI (gx_sI C 9 9 (nI ((zz_h0 M + 1) % 12))) 15 0 (M.1 15 0 + 1) = A
  have a57 : ∀ k i, 57 ≤ k → A.1 k i = M.1 k i := fun k i hk => by
    rw [← hA, zz_sI1, if_neg (by omega), zz_sI1, if_neg (by omega), f1.2 k i (by simp [zz_Sh]; omega)]
  have hk := zz_Hok h.IH
  have h6 := hk.1.1
  have LA : zz_LM lv (zz_now A) := hM.tr ⟨a57 57 27 (by decide), fun i _ => ⟨a57 69 i (by decide), a57 70 i (by decide)⟩, a57 71 0 (by decide), fun i _ => ⟨a57 72 i (by decide), a57 73 i (by decide)⟩⟩
  obtain ⟨B, e2, f2, g2⟩ := zz_goHours (N := 1) (mask := 63) hk.1 hlv LA (fun j hj => (zz_Wok h.IH hj).2.1) (by decide) (zz_nowG h.IH a57 lv (zz_O M)) (fun t _ ht => by
    unfold zz_O zz_o
    refine zz_ou_cong _ (fun i hi => ?_)
    rw [zz_b63 i (by omega), Bool.true_and, show (zz_now A).1 59 i = A.1 59 i from rfl, a57 59 i (by decide), (h.IH.2.2.1 i (by omega)).2])
  rw [Nat.zero_add] at g2
  have fB : ∀ k i, 57 ≤ k → zz_sc k i = false → B.1 k i = M.1 k i := fun k i hk hs => by
    rw [((zz_now_fr A).tr (f2.mono zz_SG_sc)).2 k i hs]; exact a57 k i hk
  generalize hD : gx_sI (gx_sI (zz_ov B 61 0 24 (B.1 78)) 63 1 (B.1 57 29)) 85 0 (B.1 85 0 + 1) = D
  have d79 : ∀ q, q < 4 → D.1 79 q = nI (zz_ca lv (zz_H M) (zz_O M) q 1) := fun q hq => by rw [← hD]; exact g2.2.2.1 q hq
  have c := zz_h0ok h.IH
  have a99 : A.1 9 9 = nI ((zz_h0 M + 1) % 12) := by rw [← hA]; rfl
  have d63 : D.1 63 1 = nI ((zz_h0 M + 1) % 12) := by rw [← hD]; exact g2.2.2.2
  have d853 : D.1 85 3 = M.1 15 3 := by
    rw [← hD]
    exact (fB 85 3 (by decide) rfl).trans (h.IH.2.2.2.2.2.2.1 3 (by decide))
  refine ⟨gx_sI D 85 3 (zz_l3 lv (zz_H M) (zz_O M) (M.1 15 3) 4), ?_, ?_⟩
  · unfold f_X8_hour
    rw [zz_layNow A (by rw [a57 57 1 (by decide), h.IH.1.2]; exact h.IH.1.1)]
    simp only [zz_bPs]
    rw [show (1 : Int32) = nI 1 from rfl, e2]
    rw [zz_bPs, zz_hour13, hD, zz_hour59 d79, d853, d63, a99]
  · have hF2 : (gx_sI D 85 3 (zz_l3 lv (zz_H M) (zz_O M) (M.1 15 3) 4)).2 = M.2 := by
      rw [← hD]
      show B.2 = M.2
      rw [((zz_now_fr A).tr (f2.mono zz_SG_sc)).1, ← hA]
      exact f1.1
    have hF : ∀ k i, zz_hc k i = false → (gx_sI D 85 3 (zz_l3 lv (zz_H M) (zz_O M) (M.1 15 3) 4)).1 k i = M.1 k i := by
      intro k i hk
      simp only [zz_hc, Bool.or_eq_false_iff, Bool.and_eq_false_iff, beq_eq_false_iff_ne, ne_eq] at hk
      obtain ⟨hs, ⟨⟨⟨⟨k1, k2⟩, k3⟩, k4⟩, k5⟩, k6⟩ := hk
      have n3 : k ≠ 3 := by rintro rfl; cases hs
      have n4 : k ≠ 4 := by rintro rfl; cases hs
      rw [zz_sI1, if_neg (by omega), ← hD, zz_sI1, if_neg (by omega), zz_sI1, if_neg (by omega), zz_ov1, if_neg (by omega), ((zz_now_fr A).tr (f2.mono zz_SG_sc)).2 k i hs, ← hA, zz_sI1, if_neg (by omega), zz_sI1, if_neg (by omega), f1.2 k i (by simp [zz_Sh, n3, n4, k1]; omega)]
    have hI := h.II.ext (fun k i hk => hF k i (zz_hcI k i hk)) hF2
    refine ⟨?_, hI, h.IT.ext (fun k i hk => hF k i (zz_hcT k i hk)) hF2, h.IC.ext (fun k i hk => hF k i (zz_hcC k i hk)) hF2, h.IB.ext (fun k i hk => hF k i (zz_hcB k i hk)) hF2, h.IS.at (fun k i hk => hF k i (zz_hcS k i hk)) hF2, h.IL.same ⟨hF 0 4 rfl, fun i _ => hF 1 i rfl, fun i _ => hF 2 i rfl⟩ ⟨hF 57 27 rfl, fun i hi => ⟨hF 69 i (by simp [zz_hc, zz_sc]; omega), hF 70 i (by simp [zz_hc, zz_sc]; omega)⟩, hF 71 0 rfl, fun i hi => ⟨hF 72 i (by simp [zz_hc, zz_sc]; omega), hF 73 i (by simp [zz_hc, zz_sc]; omega)⟩⟩⟩
    have bA : ∀ k i, zz_sc k i = false → B.1 k i = A.1 k i := ((zz_now_fr A).tr (f2.mono zz_SG_sc)).2
    obtain ⟨q1, q2, q3, q4, q5, q6, q7, q8, q9⟩ := h.IH
    have fr2 : ∀ k i, k ≠ 61 → k ≠ 63 → k ≠ 85 → zz_sc k i = false → (gx_sI D 85 3 (zz_l3 lv (zz_H M) (zz_O M) (M.1 15 3) 4)).1 k i = A.1 k i := fun k i k1 k2 k3 hs => by
      rw [zz_sI1, if_neg (by omega), ← hD, zz_sI1, if_neg (by omega), zz_sI1, if_neg (by omega), zz_ov1, if_neg (by omega), bA k i hs]
    refine ⟨?_, fun p hp => ?_, fun p hp => ?_, fun p hp => ?_, fun j hj => ?_, fun p hp => ?_, fun i hi => ?_, ?_, ?_⟩
    · rw [hF 9 7 rfl, hF 57 1 rfl]; exact q1
    · rw [hF 10 p rfl, hF 58 p rfl]; exact q2 p hp
    · rw [hF 11 p rfl, hF 59 p rfl]; exact q3 p hp
    · rw [hF 12 p rfl, hF 60 p rfl]; exact q4 p hp
    · have e13 : A.1 13 j = nI (zz_wt lv (zz_H M) (zz_O M) (zz_W M) j 1) := by rw [← hA]; exact w1 j hj
      have e61 : D.1 61 j = nI (zz_wt lv (zz_H M) (zz_O M) (zz_W M) j 1) := by
        rw [← hD, zz_sI1, if_neg (by omega), zz_sI1, if_neg (by omega), zz_ov1, if_pos (by omega)]
        exact g2.2.1 j hj
      rw [fr2 13 j (by decide) (by decide) (by decide) rfl, e13, zz_sI1, if_neg (by omega), e61]
      exact ⟨⟨_, zz_wt_le (zz_Wok h.IH hj).2.1 1, rfl⟩, rfl⟩
    · rw [hF 14 p rfl, hF 62 p rfl]; exact q6 p hp
    · rw [fr2 15 i (by decide) (by decide) (by decide) rfl]
      by_cases i3 : i = 3
      · subst i3
        rw [zz_sI1, if_pos ⟨rfl, rfl⟩, ← hA]
        exact l1.symm
      · rw [zz_sI1, if_neg (by omega)]
        by_cases i0 : i = 0
        · subst i0
          have : B.1 85 0 = M.1 15 0 := (fB 85 0 (by decide) rfl).trans (q7 0 (by decide))
          rw [← hD, ← hA, zz_sI1, if_pos ⟨rfl, rfl⟩, this, zz_sI1, if_pos ⟨rfl, rfl⟩]
        · rw [← hD, ← hA, zz_sI1, if_neg (by omega), zz_sI1, if_neg (by omega), zz_ov1, if_neg (by omega), fB 85 i (by decide) rfl, zz_sI1, if_neg (by omega), zz_sI1, if_neg (by omega), f1.2 15 i (by simp [zz_Sh]; omega)]
          exact q7 i hi
    · rw [hF 9 8 rfl, hF 63 0 rfl]; exact q8
    · rw [fr2 9 9 (by decide) (by decide) (by decide) rfl, a99, zz_sI1, if_neg (by omega), d63]
      exact ⟨⟨_, by omega, rfl⟩, rfl⟩

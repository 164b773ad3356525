theorem zz_mask_ext {P : Nat → Nat → Bool} {A B : gx_Mem} (h : ∀ k i, P k i = true → A.1 k i = B.1 k i) (h2 : A.2 = B.2) : zz_mask P A = zz_mask P B := by
  unfold zz_mask
  rw [h2]
  congr 1
  funext k i
  by_cases e : P k i = true
  · rw [if_pos e, if_pos e, h k i e]
  · rw [if_neg e, if_neg e]
theorem zz_sIP {P : Nat → Nat → Bool} {M : gx_Mem} {k i : Nat} {v : Int32} (hP : P k i = false) {q j : Nat} (hq : P q j = true) : (gx_sI M k i v).1 q j = M.1 q j := by
  rw [zz_sI1, if_neg]
  rintro ⟨rfl, rfl⟩
  rw [hP] at hq; cases hq
theorem zz_IH.ext {A B : gx_Mem} (q : zz_IH A) (h : ∀ k i, zz_pH k i = true → B.1 k i = A.1 k i) (h2 : B.2 = A.2) : zz_IH B := by rw [← zz_IH.m, zz_mask_ext h h2, zz_IH.m]; exact q
theorem zz_II.ext {A B : gx_Mem} (q : zz_II A) (h : ∀ k i, zz_pI k i = true → B.1 k i = A.1 k i) (h2 : B.2 = A.2) : zz_II B := by rw [← zz_II.m, zz_mask_ext h h2, zz_II.m]; exact q
theorem zz_IT.ext {A B : gx_Mem} (q : zz_IT A) (h : ∀ k i, zz_pT k i = true → B.1 k i = A.1 k i) (h2 : B.2 = A.2) : zz_IT B := by rw [← zz_IT.m, zz_mask_ext h h2, zz_IT.m]; exact q
theorem zz_IC.ext {A B : gx_Mem} (q : zz_IC A) (h : ∀ k i, zz_pC k i = true → B.1 k i = A.1 k i) (h2 : B.2 = A.2) : zz_IC B := by rw [← zz_IC.m, zz_mask_ext h h2, zz_IC.m]; exact q
theorem zz_IB.ext {A B : gx_Mem} (q : zz_IB A) (h : ∀ k i, zz_pB k i = true → B.1 k i = A.1 k i) (h2 : B.2 = A.2) : zz_IB B := by rw [← zz_IB.m, zz_mask_ext h h2, zz_IB.m]; exact q
theorem zz_chg_spec {M : gx_Mem} {d : Nat} (hd : M.1 57 8 = nI d) (h4 : d ≤ 40) (w num v : Int32) {cM iM : Nat} (hl : ∀ M, f_X8_lays w num v M = some (gx_sI M cM iM v)) (hv : f_X8_valueAt w num M = some (M.1 cM iM)) (hne : ¬ M.1 cM iM = v) : ∃ (X : gx_Mem) (f : Nat), f ≤ 39 ∧ (f = d ∨ d = 40 ∧ f = 39) ∧ f_X8_changes w num v M = some (M.1 cM iM, gx_sI X cM iM v) ∧ X.2 = M.2 ∧ (∀ k i, zz_m4 k = false → ¬ (k = 57 ∧ i = 8) → ¬ (k = 57 ∧ i = 9) → X.1 k i = M.1 k i) ∧ X.1 57 8 = nI (f + 1) ∧ X.1 57 9 = 0 ∧
    (∀ i, i < 40 → X.1 64 i = if i = f then w else if d = 40 then M.1 64 (i + 1) else M.1 64 i) ∧ (∀ i, i < 40 → X.1 65 i = if i = f then num else if d = 40 then M.1 65 (i + 1) else M.1 65 i) ∧ (∀ i, i < 40 → X.1 66 i = if i = f then M.1 cM iM else if d = 40 then M.1 66 (i + 1) else M.1 66 i) ∧ (∀ i, i < 40 → X.1 67 i = if i = f then v else if d = 40 then M.1 67 (i + 1) else M.1 67 i) := by
  unfold f_X8_changes
  rw [hv]
  simp only [zz_bPs, zz_let]
  rw [if_neg hne, show (gx_sI M 57 9 0).1 57 8 = nI d from hd, show (40 : Int32) = nI 40 from rfl]
  simp only [zz_eq (show d < 2147483648 by omega) (show 40 < 2147483648 by decide)]
  by_cases h : d = 40
  · rw [if_pos h]
    obtain ⟨Y, y1, y2, y3⟩ := zz_chg_loop (M := gx_sI M 57 9 0) w num v (M.1 cM iM)
    rw [y1]
    have y57 : (gx_sI Y 57 8 (Y.1 57 8 - 1)).1 57 8 = nI 39 := by
      rw [zz_sI1, if_pos ⟨rfl, rfl⟩, y3, if_neg (by simp [zz_m4]), show (gx_sI M 57 9 0).1 57 8 = nI d from hd, h]; rfl
    obtain ⟨X, k1, k2, k3, k4, k6, k7, k8, k9⟩ := zz_chg_lt y57 (by decide) w num v (M.1 cM iM) cM iM hl
    have ya : ∀ q i, zz_m4 q = true → i < 39 → (gx_sI Y 57 8 (Y.1 57 8 - 1)).1 q i = M.1 q (i + 1) := by
      intro q i hq hi
      have hq57 : q ≠ 57 := by rintro rfl; simp [zz_m4] at hq
      rw [zz_sI1, if_neg (by omega), y3, if_pos ⟨hq, hi⟩, zz_sI1, if_neg (by omega)]
    refine ⟨X, 39, by decide, .inr ⟨h, rfl⟩, k1, k2.trans (y2.trans rfl), fun k i hk h8 h9 => ?_, k4, ?_, fun i hi => ?_, fun i hi => ?_, fun i hi => ?_, fun i hi => ?_⟩
    · rw [k3 k i hk h8, zz_sI1, if_neg h8, y3, if_neg (by rw [hk]; simp), zz_sI1, if_neg h9]
    · rw [k3 57 9 rfl (by decide), zz_sI1, if_neg (by decide), y3, if_neg (by simp [zz_m4]), zz_sI1, if_pos ⟨rfl, rfl⟩]
    · rw [k6]
      by_cases e : i = 39
      · rw [if_pos e, if_pos e]
      · rw [if_neg e, if_neg e, if_pos h, ya _ _ rfl (by omega)]
    · rw [k7]
      by_cases e : i = 39
      · rw [if_pos e, if_pos e]
      · rw [if_neg e, if_neg e, if_pos h, ya _ _ rfl (by omega)]
    · rw [k8]
      by_cases e : i = 39
      · rw [if_pos e, if_pos e]
      · rw [if_neg e, if_neg e, if_pos h, ya _ _ rfl (by omega)]
    · rw [k9]
      by_cases e : i = 39
      · rw [if_pos e, if_pos e]
      · rw [if_neg e, if_neg e, if_pos h, ya _ _ rfl (by omega)]
  · rw [if_neg h]
    obtain ⟨X, k1, k2, k3, k4, k6, k7, k8, k9⟩ := zz_chg_lt (M := gx_sI M 57 9 0) hd (show d < 40 by omega) w num v (M.1 cM iM) cM iM hl
    refine ⟨X, d, by omega, .inl rfl, k1, k2, fun k i hk h8 h9 => ?_, k4, ?_, fun i hi => ?_, fun i hi => ?_, fun i hi => ?_, fun i hi => ?_⟩
    · rw [k3 k i hk h8, zz_sI1, if_neg h9]
    · rw [k3 57 9 rfl (by decide), zz_sI1, if_pos ⟨rfl, rfl⟩]
    · rw [k6, if_neg h]; rfl
    · rw [k7, if_neg h]; rfl
    · rw [k8, if_neg h]; rfl
    · rw [k9, if_neg h]; rfl
theorem zz_mayHave8 (v : Int32) {w : Nat} (hw : w < 7) (M : gx_Mem) : f_X8_mayHave (nI w) v M = some (zz_i (zz_rg v (zz_gr w + 1))) := by
  unfold f_X8_mayHave f_X8_mayHave_b72
  rw [zz_isFlat8, zz_isHour8, show (4095 : Int32) = nI 4095 from rfl, zz_in8 v 4095 M (by decide), show (9999 : Int32) = nI 9999 from rfl, zz_in8 v 9999 M (by decide), show (9 : Int32) = nI 9 from rfl, zz_in8 v 9 M (by decide)]
  simp only [zz_bPs, zz_giZ]
  match w, hw with
  | 0, _ => rfl
  | 1, _ => rfl
  | 2, _ => rfl
  | 3, _ => rfl
  | 4, _ => rfl
  | 5, _ => rfl
  | 6, _ => rfl
theorem zz_tab0 {w : Nat} (hw : w < 7) : gx_tab 0 w = nI (zz_gr w) := by
  match w, hw with
  | 0, _ => rfl
  | 1, _ => rfl
  | 2, _ => rfl
  | 3, _ => rfl
  | 4, _ => rfl
  | 5, _ => rfl
  | 6, _ => rfl
theorem zz_gr_le (w : Nat) : zz_gr w ≤ 9999 := by
  unfold zz_gr
  split <;> decide
/-- a place that no list of changes holds -/
def zz_cond (k i : Nat) : Prop := zz_c4 k = false ∧ k ≠ 35 ∧ zz_m4 k = false ∧ ¬ (k = 57 ∧ i = 8) ∧ ¬ (k = 57 ∧ i = 9)
theorem zz_cH {k i : Nat} (h : zz_pH k i = true) : zz_cond k i := by
  unfold zz_pH at h
  split at h <;> simp_all [zz_cond, zz_c4, zz_m4]
theorem zz_cIi {k i : Nat} (h : zz_pI k i = true) : zz_cond k i := by
  unfold zz_pI at h
  split at h <;> simp_all [zz_cond, zz_c4, zz_m4]
  omega
theorem zz_cT {k i : Nat} (h : zz_pT k i = true) : zz_cond k i := by
  unfold zz_pT at h
  split at h <;> simp_all [zz_cond, zz_c4, zz_m4]
theorem zz_cB {k i : Nat} (h : zz_pB k i = true) : zz_cond k i := by
  unfold zz_pB at h
  split at h <;> simp_all [zz_cond, zz_c4, zz_m4]
  omega
theorem zz_cS {k i : Nat} (h : zz_pS k i = true) : zz_cond k i := by
  unfold zz_pS at h
  split at h <;> simp_all [zz_cond, zz_c4, zz_m4]
theorem zz_cL {k i : Nat} (h : zz_pL k i = true) : zz_cond k i := by
  unfold zz_pL at h
  split at h <;> simp_all [zz_cond, zz_c4, zz_m4]
/-- all but the changes: a memory that differs from a told one by the lists of changes, and is told on the model's side -/
theorem zz_told_Inv {M X : gx_Mem} {num : Int32} {w cC iC cM iM : Nat} {v : Int32} (h : zz_Inv M) (pl : zz_pl num w cC iC cM iM) (hv : zz_bd v (zz_gr w)) (hX : ∀ k i, zz_cond k i → X.1 k i = (gx_sI M cC iC v).1 k i) (hX2 : X.2 = M.2) (hC : zz_IC (gx_sI X cM iM v)) : zz_Inv (gx_sI X cM iM v) := by
  obtain ⟨p1, p2, p3, p4, p5, p6, ⟨c1, c2, c3, c4, c5, c6⟩, ⟨m1, m2, m3, m4, m5, m6⟩, p9, p10, p11, p12, p13, p14⟩ := pl
  refine ⟨?_, ((h.II.w c1).ext (fun k i hk => hX k i (zz_cIi hk)) hX2).w m1, ((h.IT.w c2).ext (fun k i hk => hX k i (zz_cT hk)) hX2).w m2, hC, ((h.IB.w c4).ext (fun k i hk => hX k i (zz_cB hk)) hX2).w m4, ((h.IS.w c5).at (fun k i hk => hX k i (zz_cS hk)) hX2).w m5, ((h.IL.w c6).at (fun k i hk => hX k i (zz_cL hk))).w m6⟩
  rw [← zz_IH.m, zz_mask_cong (zz_mask_ext (A := X) (B := gx_sI M cC iC v) (fun k i hk => hX k i (zz_cH hk)) hX2), zz_IH.m]
  exact p6 M v hv h.IH
theorem op_mend (a b v : Int32) : zz_ok (f_X7_mend a b v) (f_X8_mend a b v) := by
  intro M h
  obtain ⟨n, h6, hn, hn8⟩ := h.ppl
  unfold f_X7_mend
  cases hb : zz_rg b 7 with
  | false =>
    rw [zz_isNum7F hb]
    refine ⟨-1, M, rfl, M, ?_, h⟩
    unfold f_X8_mend
    rw [zz_isPlace8F hb]; rfl
  | true =>
    obtain ⟨w, hw, rfl⟩ := zz_rgT hb
    rw [zz_isNum7 hn h6 a hw]
    have hg : ∀ M1 : gx_Mem, M1.1 57 1 = nI n → f_X8_mend a (nI w) v M1 = if zz_nb n a w = true then (if zz_rg v (zz_gr w + 1) = true then gx_bI (f_X8_changes (nI w) a v M1) (fun y6 M7 => some (y6, M7)) else some (-1, M1)) else some (-1, M1) := by
      intro M1 e
      unfold f_X8_mend
      rw [zz_isPlace8 e h6 a hw, zz_mayHave8 v hw]
      simp only [zz_bPs, zz_ifi]
    simp only [zz_bPs, zz_ifi]
    cases hv : zz_nb n a w with
    | false => exact ⟨-1, M, rfl, M, by rw [hg M hn8, hv]; rfl, h⟩
    | true =>
      rw [if_pos rfl]
      rcases zz_case v with hneg | ⟨x, hx, rfl⟩
      · rw [if_pos hneg]
        exact ⟨-1, M, rfl, M, by rw [hg M hn8, hv, if_pos rfl, zz_rgNeg hneg]; rfl, h⟩
      · have hgr := zz_gr_le w
        rw [if_neg (nI_pos hx), zz_gi hw (by decide), zz_cl (show w < 2147483648 by omega), zz_tab0 hw]
        simp only [zz_le hx (show zz_gr w < 2147483648 by omega)]
        by_cases hle : x ≤ zz_gr w
        · rw [if_pos hle]
          have hrg : zz_rg (nI x) (zz_gr w + 1) = true := by rw [zz_rgN hx]; exact decide_eq_true (by omega)
          have hvp := zz_nb_vp hn h6 hw hv
          obtain ⟨cC, iC, cM, iM, p1, p2, p3, p4, p5, p6, ⟨c1, c2, c3, c4, c5, c6⟩, ⟨m1, m2, m3, m4, m5, m6⟩, p9, p10, p11, p12, p13, p14⟩ := zz_pl_of hvp
          rw [p2]
          simp only [zz_bPs]
          obtain ⟨e5, b5⟩ := p5 M h.IH
          by_cases hy : M.1 cC iC = nI x
          · rw [if_pos hy]
            refine ⟨_, M, rfl, M, ?_, h⟩
            rw [hg M hn8, hv, if_pos rfl, if_pos hrg]
            unfold f_X8_changes
            rw [p4, e5]
            simp only [zz_bPs]
            rw [if_pos hy]; rfl
          · rw [if_neg hy, p1]
            simp only [zz_bPs]
            obtain ⟨d, u, hdu, d1, d2, u1, u2, ar, ok⟩ := h.IC
            obtain ⟨M8, f, f39, hf, k1, k2, k3, k4, k5, k6, k7, k8, k9⟩ := zz_add_spec (M := gx_sI M cC iC (nI x)) (d := d) ((zz_sIP c3 (show zz_pC 35 4 = true from rfl)).trans d1) (by omega) a (nI w) (M.1 cC iC) (nI x)
            rw [k1]
            simp only [zz_bPs]
            refine ⟨_, _, rfl, ?_⟩
            have hc15 : zz_m4 cC = false := by
              have : cC < 15 := p11
              simp [zz_m4]; omega
            -- what M8 shows of M
            have f1 : ∀ k i, zz_c4 k = false → k ≠ 35 → ¬ (k = cC ∧ i = iC) → M8.1 k i = M.1 k i := fun k i q1 q2 q3 => by rw [k3 k i q1 q2, zz_sI1, if_neg q3]
            have n8 : M8.1 57 1 = nI n := by rw [f1 57 1 rfl (by decide) (by omega)]; exact hn8
            have dM : M8.1 57 8 = nI d := by rw [f1 57 8 rfl (by decide) (by omega)]; exact d2
            have eM : M8.1 cM iM = M.1 cC iC := by rw [f1 cM iM (by simp [zz_c4]; omega) (by omega) (by omega)]; exact e5
            obtain ⟨X, f2, f239, hf2, j1, j2, j3, j4, j5, j6, j7, j8, j9⟩ := zz_chg_spec dM (by omega) (nI w) a (nI x) (fun M => p3 M (nI x)) (p4 M8) (by rw [eM]; exact hy)
            have ff : f2 = f := by omega
            subst ff
            refine ⟨gx_sI X cM iM (nI x), ?_, ?_⟩
            · rw [hg M8 n8, hv, if_pos rfl, if_pos hrg, j1, eM]; rfl
            · refine zz_told_Inv h ⟨p1, p2, p3, p4, p5, p6, ⟨c1, c2, c3, c4, c5, c6⟩, ⟨m1, m2, m3, m4, m5, m6⟩, p9, p10, p11, p12, p13, p14⟩ ⟨x, hle, rfl⟩ (fun k i hk => ?_) (j2.trans k2) ?_
              · rw [j3 k i hk.2.2.1 hk.2.2.2.1 hk.2.2.2.2, k3 k i hk.1 hk.2.1]
              · have rd : ∀ q i, zz_pC q i = true → (gx_sI X cM iM (nI x)).1 q i = X.1 q i := fun q i hq => zz_sIP m3 hq
                have g1 : ∀ k i, zz_m4 k = true → M8.1 k i = M.1 k i := fun k i hk => by
                  simp [zz_m4] at hk
                  exact f1 k i (by simp [zz_c4]; omega) (by omega) (by omega)
                have g2 : ∀ k i, zz_c4 k = true → X.1 k i = M8.1 k i := fun k i hk => by
                  simp [zz_c4] at hk
                  exact j3 k i (by simp [zz_m4]; omega) (by omega) (by omega)
                have g3 : ∀ k i, zz_c4 k = true → (gx_sI M cC iC (nI x)).1 k i = M.1 k i := fun k i hk => by
                  simp [zz_c4] at hk
                  rw [zz_sI1, if_neg (by omega)]
                have e97 : (gx_sI X cM iM (nI x)).1 9 7 = M.1 9 7 := by
                  rw [rd 9 7 rfl, j3 9 7 rfl (by decide) (by decide), k3 9 7 rfl (by decide), zz_sI1, if_neg]
                  rintro ⟨e1, e2⟩
                  exact p10 e1.symm e2.symm
                refine ⟨f2 + 1, 0, by omega, ?_, ?_, ?_, ?_, fun i hi => ?_, fun i hi => ?_⟩
                · rw [rd 35 4 rfl, j3 35 4 rfl (by decide) (by decide)]; exact k4
                · rw [rd 57 8 rfl]; exact j4
                · rw [rd 35 5 rfl, j3 35 5 rfl (by decide) (by decide)]; exact k5
                · rw [rd 57 9 rfl]; exact j5
                · rw [rd 65 i rfl, rd 36 i rfl, rd 64 i rfl, rd 37 i rfl, rd 66 i rfl, rd 38 i rfl, rd 67 i rfl, rd 39 i rfl, g2 36 i rfl, g2 37 i rfl, g2 38 i rfl, g2 39 i rfl, j6 i hi, j7 i hi, j8 i hi, j9 i hi, k6 i hi, k7 i hi, k8 i hi, k9 i hi, g1 64 _ rfl, g1 64 _ rfl, g1 65 _ rfl, g1 65 _ rfl, g1 66 _ rfl, g1 66 _ rfl, g1 67 _ rfl, g1 67 _ rfl, g3 36 _ rfl, g3 36 _ rfl, g3 37 _ rfl, g3 37 _ rfl, g3 38 _ rfl, g3 38 _ rfl, g3 39 _ rfl, g3 39 _ rfl, eM]
                  by_cases e : i = f2
                  · simp only [if_pos e, and_self]
                  · simp only [if_neg e]
                    by_cases ed : d = 40
                    · simp only [if_pos ed]; exact ar (i + 1) (by omega)
                    · simp only [if_neg ed]; exact ar i hi
                · have hi40 : i < 40 := by omega
                  rw [rd 36 i rfl, rd 37 i rfl, rd 38 i rfl, rd 39 i rfl, g2 36 i rfl, g2 37 i rfl, g2 38 i rfl, g2 39 i rfl, k6 i hi40, k7 i hi40, k8 i hi40, k9 i hi40, g3 36 _ rfl, g3 36 _ rfl, g3 37 _ rfl, g3 37 _ rfl, g3 38 _ rfl, g3 38 _ rfl, g3 39 _ rfl, g3 39 _ rfl]
                  by_cases e : i = f2
                  · simp only [if_pos e]
                    exact (zz_okc.of hvp b5 ⟨x, hle, rfl⟩).mono (fun p _ q => by rw [e97]; exact q)
                  · simp only [if_neg e]
                    by_cases ed : d = 40
                    · simp only [if_pos ed]; exact (ok (i + 1) (by omega)).mono (fun p _ q => by rw [e97]; exact q)
                    · simp only [if_neg ed]; exact (ok i (by omega)).mono (fun p _ q => by rw [e97]; exact q)
        · rw [if_neg hle]
          exact ⟨-1, M, rfl, M, by rw [hg M hn8, hv, if_pos rfl, if_neg (by rw [zz_rgN hx]; simp; omega)], h⟩

theorem zz_ur {M Y : gx_Mem} {num : Int32} {w cC iC cM iM d u : Nat} {v : Int32} (h : zz_Inv M) (pl : zz_pl num w cC iC cM iM) (hv : zz_bd v (zz_gr w)) (hdu : d + u ≤ 40)
    (ar : ∀ i, i < 40 → M.1 65 i = M.1 36 i ∧ M.1 64 i = M.1 37 i ∧ M.1 66 i = M.1 38 i ∧ M.1 67 i = M.1 39 i)
    (ok : ∀ i, i < d + u → zz_okc M (M.1 36 i) (M.1 37 i) (M.1 38 i) (M.1 39 i)) (hY2 : Y.2 = M.2)
    (hY : ∀ k i, ¬ (k = 35 ∧ i = 4) → ¬ (k = 35 ∧ i = 5) → ¬ (k = 57 ∧ i = 8) → ¬ (k = 57 ∧ i = 9) → Y.1 k i = (gx_sI M cC iC v).1 k i)
    (y1 : Y.1 35 4 = nI d) (y2 : Y.1 57 8 = nI d) (y3 : Y.1 35 5 = nI u) (y4 : Y.1 57 9 = nI u) : zz_Inv (gx_sI Y cM iM v) := by
  obtain ⟨p1, p2, p3, p4, p5, p6, ⟨c1, c2, c3, c4, c5, c6⟩, ⟨m1, m2, m3, m4, m5, m6⟩, p9, p10, p11, p12, p13, p14⟩ := id pl
  refine zz_told_Inv h pl hv (fun k i hk => hY k i (fun e => hk.2.1 e.1) (fun e => hk.2.1 e.1) hk.2.2.2.1 hk.2.2.2.2) hY2 ?_
  have rd : ∀ q i, zz_pC q i = true → (gx_sI Y cM iM v).1 q i = Y.1 q i := fun q i hq => zz_sIP m3 hq
  have g : ∀ q i, zz_pC q i = true → q ≠ 35 → q ≠ 57 → (gx_sI Y cM iM v).1 q i = M.1 q i := fun q i hq h1 h2 => by
    rw [rd q i hq, hY q i (by omega) (by omega) (by omega) (by omega), zz_sIP c3 hq]
  have e97 : (gx_sI Y cM iM v).1 9 7 = M.1 9 7 := by
    rw [rd 9 7 rfl, hY 9 7 (by decide) (by decide) (by decide) (by decide), zz_sI1, if_neg]
    rintro ⟨e1, e2⟩
    exact p10 e1.symm e2.symm
  refine ⟨d, u, hdu, ?_, ?_, ?_, ?_, fun i hi => ?_, fun i hi => ?_⟩
  · rw [rd 35 4 rfl]; exact y1
  · rw [rd 57 8 rfl]; exact y2
  · rw [rd 35 5 rfl]; exact y3
  · rw [rd 57 9 rfl]; exact y4
  · rw [g 65 i rfl (by decide) (by decide), g 36 i rfl (by decide) (by decide), g 64 i rfl (by decide) (by decide), g 37 i rfl (by decide) (by decide), g 66 i rfl (by decide) (by decide), g 38 i rfl (by decide) (by decide), g 67 i rfl (by decide) (by decide), g 39 i rfl (by decide) (by decide)]
    exact ar i hi
  · rw [g 36 i rfl (by decide) (by decide), g 37 i rfl (by decide) (by decide), g 38 i rfl (by decide) (by decide), g 39 i rfl (by decide) (by decide)]
    exact (ok i hi).mono (fun p _ q => by rw [e97]; exact q)
theorem zz_stepBack {M : gx_Mem} {d u : Nat} (d1 : M.1 35 4 = nI d) (u1 : M.1 35 5 = nI u) (h : 0 < d) : f_X1_stepBack M = some (nI (d - 1), gx_sI (gx_sI M 35 4 (nI (d - 1))) 35 5 (nI (u + 1))) := by
  unfold f_X1_stepBack
  simp only [zz_let]
  rw [d1, show (1 : Int32) = nI 1 from rfl, zz_sub h, show (gx_sI M 35 4 (nI (d - 1))).1 35 5 = nI u from u1, zz_add]
  rfl
theorem zz_stepOn {M : gx_Mem} {d u : Nat} (d1 : M.1 35 4 = nI d) (u1 : M.1 35 5 = nI u) (h : 0 < u) : f_X1_stepOn M = some (nI d, gx_sI (gx_sI M 35 4 (nI (d + 1))) 35 5 (nI (u - 1))) := by
  unfold f_X1_stepOn
  simp only [zz_let]
  rw [d1, show (1 : Int32) = nI 1 from rfl, zz_add, show (gx_sI M 35 4 (nI (d + 1))).1 35 5 = nI u from u1, zz_sub h, show (gx_sI (gx_sI M 35 4 (nI (d + 1))) 35 5 (nI (u - 1))).1 35 4 = nI (d + 1) from rfl, zz_sub (by omega)]
  rfl
theorem op_undo : zz_ok f_X7_undo f_X8_undo := by
  intro M h
  obtain ⟨d, u, hdu, d1, d2, u1, u2, ar, ok⟩ := h.IC
  unfold f_X7_undo
  by_cases h0 : d = 0
  · subst h0
    rw [if_pos (show M.1 35 4 = 0 from d1)]
    exact ⟨-5, M, rfl, M, by unfold f_X8_undo; rw [if_pos (show M.1 57 8 = 0 from d2)], h⟩
  · rw [d1, show (0 : Int32) = nI 0 from rfl]
    simp only [zz_eq (show d < 2147483648 by omega) (show 0 < 2147483648 by decide)]
    rw [if_neg h0, zz_stepBack d1 u1 (by omega)]
    simp only [zz_bIs]
    rw [zz_gi (show d - 1 < 40 by omega) (by decide), zz_gi (show d - 1 < 40 by omega) (by decide), zz_gi (show d - 1 < 40 by omega) (by decide), zz_cl (show d - 1 < 2147483648 by omega)]
    obtain ⟨w, hw, hwh, hvp, ha, hb⟩ := (ok (d - 1) (by omega)).vp
    obtain ⟨cC, iC, cM, iM, pl⟩ := zz_pl_of hvp
    obtain ⟨p1, p2, p3, p4, p5, p6, ⟨c1, c2, c3, c4, c5, c6⟩, ⟨m1, m2, m3, m4, m5, m6⟩, p9, p10, p11, p12, p13, p14⟩ := id pl
    rw [show (gx_sI (gx_sI M 35 4 (nI (d - 1))) 35 5 (nI (u + 1))).1 36 (d - 1) = M.1 36 (d - 1) from rfl, show (gx_sI (gx_sI M 35 4 (nI (d - 1))) 35 5 (nI (u + 1))).1 37 (d - 1) = nI w from hwh, show (gx_sI (gx_sI M 35 4 (nI (d - 1))) 35 5 (nI (u + 1))).1 38 (d - 1) = M.1 38 (d - 1) from rfl, p1]
    simp only [zz_bPs]
    generalize hN : gx_sI (gx_sI (gx_sI M 35 4 (nI (d - 1))) 35 5 (nI (u + 1))) cC iC (M.1 38 (d - 1)) = N
    have n2 : N.2 = M.2 := by rw [← hN]; rfl
    have nn : ∀ k i, ¬ (k = 35 ∧ i = 4) → ¬ (k = 35 ∧ i = 5) → N.1 k i = (gx_sI M cC iC (M.1 38 (d - 1))).1 k i := fun k i e1 e2 => by
      rw [← hN]; simp only [zz_sI1, if_neg e1, if_neg e2]
    have nC : ∀ k i, zz_pC k i = true → ¬ (k = 35 ∧ i = 4) → ¬ (k = 35 ∧ i = 5) → N.1 k i = M.1 k i := fun k i hk e1 e2 => by
      rw [nn k i e1 e2, zz_sIP c3 hk]
    have n4 : N.1 35 4 = nI (d - 1) := by rw [← hN, zz_sI1, if_neg (by omega)]; rfl
    have n5 : N.1 35 5 = nI (u + 1) := by rw [← hN, zz_sI1, if_neg (by omega)]; rfl
    have n8 : N.1 57 8 = nI d := by rw [nC 57 8 rfl (by decide) (by decide)]; exact d2
    have n9 : N.1 57 9 = nI u := by rw [nC 57 9 rfl (by decide) (by decide)]; exact u2
    refine ⟨_, N, rfl, ?_⟩
    rw [n4]
    have q8 : (gx_sI (gx_sI N 57 8 (nI (d - 1))) 57 9 (nI (u + 1))).1 57 8 = nI (d - 1) := rfl
    have q66 : N.1 66 (d - 1) = M.1 38 (d - 1) := by rw [nC 66 (d - 1) rfl (by omega) (by omega)]; exact (ar (d - 1) (by omega)).2.2.1
    have q65 : N.1 65 (d - 1) = M.1 36 (d - 1) := by rw [nC 65 (d - 1) rfl (by omega) (by omega)]; exact (ar (d - 1) (by omega)).1
    have q64 : N.1 64 (d - 1) = nI w := by rw [nC 64 (d - 1) rfl (by omega) (by omega), (ar (d - 1) (by omega)).2.1]; exact hwh
    refine ⟨gx_sI (gx_sI (gx_sI N 57 8 (nI (d - 1))) 57 9 (nI (u + 1))) cM iM (M.1 38 (d - 1)), ?_, ?_⟩
    · unfold f_X8_undo
      rw [n8, show (0 : Int32) = nI 0 from rfl]
      simp only [zz_eq (show d < 2147483648 by omega) (show 0 < 2147483648 by decide), zz_let]
      rw [if_neg h0, show (1 : Int32) = nI 1 from rfl, zz_sub (show 1 ≤ d by omega), show (gx_sI N 57 8 (nI (d - 1))).1 57 9 = nI u from n9, zz_add, q8, zz_gi (show d - 1 < 40 by omega) (by decide), zz_gi (show d - 1 < 40 by omega) (by decide), zz_gi (show d - 1 < 40 by omega) (by decide), zz_cl (show d - 1 < 2147483648 by omega)]
      rw [show (gx_sI (gx_sI N 57 8 (nI (d - 1))) 57 9 (nI (u + 1))).1 64 (d - 1) = nI w from q64, show (gx_sI (gx_sI N 57 8 (nI (d - 1))) 57 9 (nI (u + 1))).1 65 (d - 1) = M.1 36 (d - 1) from q65, show (gx_sI (gx_sI N 57 8 (nI (d - 1))) 57 9 (nI (u + 1))).1 66 (d - 1) = M.1 38 (d - 1) from q66, p3]
      simp only [zz_bPs]
      rw [zz_sI1, if_neg (by omega), q8]
    · refine zz_ur (d := d - 1) (u := u + 1) h pl ha (by omega) ar (fun i hi => ok i (by omega)) n2 (fun k i e1 e2 e3 e4 => ?_) n4 rfl n5 rfl
      rw [zz_sI1, if_neg e4, zz_sI1, if_neg e3, nn k i e1 e2]
theorem zz_sIcm (M : gx_Mem) {k i q j : Nat} (a b : Int32) (h : k ≠ q) : gx_sI (gx_sI M k i a) q j b = gx_sI (gx_sI M q j b) k i a := by
  have h1 : (gx_sI (gx_sI M k i a) q j b).1 = (gx_sI (gx_sI M q j b) k i a).1 := by
    funext x y
    simp only [zz_sI1]
    by_cases e1 : x = k ∧ y = i
    · rw [if_pos e1, if_pos e1, if_neg (by omega)]
    · rw [if_neg e1, if_neg e1]
  exact Prod.ext h1 rfl
theorem op_redo : zz_ok f_X7_redo f_X8_redo := by
  intro M h
  obtain ⟨d, u, hdu, d1, d2, u1, u2, ar, ok⟩ := h.IC
  unfold f_X7_redo
  by_cases h0 : u = 0
  · subst h0
    rw [if_pos (show M.1 35 5 = 0 from u1)]
    exact ⟨-5, M, rfl, M, by unfold f_X8_redo; rw [if_pos (show M.1 57 9 = 0 from u2)], h⟩
  · rw [u1, show (0 : Int32) = nI 0 from rfl]
    simp only [zz_eq (show u < 2147483648 by omega) (show 0 < 2147483648 by decide)]
    rw [if_neg h0, zz_stepOn d1 u1 (by omega)]
    simp only [zz_bIs]
    rw [zz_gi (show d < 40 by omega) (by decide), zz_gi (show d < 40 by omega) (by decide), zz_gi (show d < 40 by omega) (by decide), zz_cl (show d < 2147483648 by omega)]
    obtain ⟨w, hw, hwh, hvp, ha, hb⟩ := (ok d (by omega)).vp
    obtain ⟨cC, iC, cM, iM, pl⟩ := zz_pl_of hvp
    obtain ⟨p1, p2, p3, p4, p5, p6, ⟨c1, c2, c3, c4, c5, c6⟩, ⟨m1, m2, m3, m4, m5, m6⟩, p9, p10, p11, p12, p13, p14⟩ := id pl
    rw [show (gx_sI (gx_sI M 35 4 (nI (d + 1))) 35 5 (nI (u - 1))).1 36 d = M.1 36 d from rfl, show (gx_sI (gx_sI M 35 4 (nI (d + 1))) 35 5 (nI (u - 1))).1 37 d = nI w from hwh, show (gx_sI (gx_sI M 35 4 (nI (d + 1))) 35 5 (nI (u - 1))).1 39 d = M.1 39 d from rfl, p1]
    simp only [zz_bPs]
    generalize hN : gx_sI (gx_sI (gx_sI M 35 4 (nI (d + 1))) 35 5 (nI (u - 1))) cC iC (M.1 39 d) = N
    have n2 : N.2 = M.2 := by rw [← hN]; rfl
    have nn : ∀ k i, ¬ (k = 35 ∧ i = 4) → ¬ (k = 35 ∧ i = 5) → N.1 k i = (gx_sI M cC iC (M.1 39 d)).1 k i := fun k i e1 e2 => by
      rw [← hN]; simp only [zz_sI1, if_neg e1, if_neg e2]
    have nC : ∀ k i, zz_pC k i = true → ¬ (k = 35 ∧ i = 4) → ¬ (k = 35 ∧ i = 5) → N.1 k i = M.1 k i := fun k i hk e1 e2 => by
      rw [nn k i e1 e2, zz_sIP c3 hk]
    have n4 : N.1 35 4 = nI (d + 1) := by rw [← hN, zz_sI1, if_neg (by omega)]; rfl
    have n5 : N.1 35 5 = nI (u - 1) := by rw [← hN, zz_sI1, if_neg (by omega)]; rfl
    have n8 : N.1 57 8 = nI d := by rw [nC 57 8 rfl (by decide) (by decide)]; exact d2
    have n9 : N.1 57 9 = nI u := by rw [nC 57 9 rfl (by decide) (by decide)]; exact u2
    refine ⟨_, N, rfl, ?_⟩
    rw [n5]
    have q67 : N.1 67 d = M.1 39 d := by rw [nC 67 d rfl (by omega) (by omega)]; exact (ar d (by omega)).2.2.2
    have q65 : N.1 65 d = M.1 36 d := by rw [nC 65 d rfl (by omega) (by omega)]; exact (ar d (by omega)).1
    have q64 : N.1 64 d = nI w := by rw [nC 64 d rfl (by omega) (by omega), (ar d (by omega)).2.1]; exact hwh
    refine ⟨gx_sI (gx_sI (gx_sI N 57 8 (nI (d + 1))) 57 9 (nI (u - 1))) cM iM (M.1 39 d), ?_, ?_⟩
    · unfold f_X8_redo
      rw [n8, n9, show (0 : Int32) = nI 0 from rfl]
      simp only [zz_eq (show u < 2147483648 by omega) (show 0 < 2147483648 by decide), zz_let]
      rw [if_neg h0, zz_gi (show d < 40 by omega) (by decide), zz_gi (show d < 40 by omega) (by decide), zz_gi (show d < 40 by omega) (by decide), zz_cl (show d < 2147483648 by omega), q64, q65, q67, p3]
      simp only [zz_bPs]
      have e8 : (gx_sI N cM iM (M.1 39 d)).1 57 8 = nI d := by rw [zz_sI1, if_neg (by omega)]; exact n8
      have e9 : (gx_sI N cM iM (M.1 39 d)).1 57 9 = nI u := by rw [zz_sI1, if_neg (by omega)]; exact n9
      rw [e8, show (1 : Int32) = nI 1 from rfl, zz_add, show (gx_sI (gx_sI N cM iM (M.1 39 d)) 57 8 (nI (d + 1))).1 57 9 = nI u from e9, zz_sub (show 1 ≤ u by omega)]
      rw [zz_sIcm N (k := cM) (q := 57) _ _ (by omega), zz_sIcm _ (k := cM) (q := 57) _ _ (by omega), zz_sI1, if_neg (by omega)]
      rfl
    · refine zz_ur (d := d + 1) (u := u - 1) h pl hb (by omega) ar (fun i hi => ok i (by omega)) n2 (fun k i e1 e2 e3 e4 => ?_) n4 rfl n5 rfl
      rw [zz_sI1, if_neg e4, zz_sI1, if_neg e3, nn k i e1 e2]

theorem zz_bk106 (M : gx_Mem) : f_X8_back_l106 gx_fuel 0 M = some (M.1 89 0, zz_ov M 85 0 5 (M.1 89)) := by
  obtain ⟨s, hs, e⟩ := zz_for (fun (ag : Int32 × gx_Mem → Option (Int32 × gx_Mem)) (s : Int32 × gx_Mem) => f_X8_back_k106 (fun v1 M => ag (v1, M)) s.1 s.2) (fun s => some (s.2.1 85 0, s.2)) (fun i s => s = (nI i, zz_ov M 85 0 i (M.1 89))) 5 gx_fuel (by decide) (0, M) (by rw [zz_ov0]; rfl) (fun i s hi hs => by
    subst hs
    refine ⟨_, rfl, fun ag => ?_⟩
    dsimp only
    unfold f_X8_back_k106
    rw [show (5 : Int32) = nI 5 from rfl]
    simp only [zz_le (show 5 < 2147483648 by decide) (show i < 2147483648 by omega), zz_let, zz_cl (show i < 2147483648 by omega)]
    have e := zz_ovS M 85 0 i (M.1 89) (M.1 89 i) (by rw [Nat.zero_add])
    rw [Nat.zero_add] at e
    rw [if_neg (by omega), zz_gi hi (by decide), zz_gi hi (by decide), show (zz_ov M 85 0 i (M.1 89)).1 89 i = M.1 89 i from rfl, e]
    exact congrArg ag (Prod.ext (zz_add _ 1) rfl)) (fun s hs ag => by subst hs; rfl)
  subst hs
  exact e
theorem zz_bk80 (M : gx_Mem) : f_X8_back_l80 gx_fuel 0 M = f_X8_back_l106 gx_fuel 0 (zz_ov M 62 0 24 (M.1 88)) := by
  obtain ⟨s, hs, e⟩ := zz_for (fun (ag : Int32 × gx_Mem → Option (Int32 × gx_Mem)) (s : Int32 × gx_Mem) => f_X8_back_k80 (fun v1 M => ag (v1, M)) s.1 s.2) (fun s => f_X8_back_l106 gx_fuel 0 s.2) (fun i s => s = (nI i, zz_ov M 62 0 i (M.1 88))) 24 gx_fuel (by decide) (0, M) (by rw [zz_ov0]; rfl) (fun i s hi hs => by
    subst hs
    refine ⟨_, rfl, fun ag => ?_⟩
    dsimp only
    unfold f_X8_back_k80
    rw [show (24 : Int32) = nI 24 from rfl]
    simp only [zz_le (show 24 < 2147483648 by decide) (show i < 2147483648 by omega), zz_let, zz_cl (show i < 2147483648 by omega)]
    have e := zz_ovS M 62 0 i (M.1 88) (M.1 88 i) (by rw [Nat.zero_add])
    rw [Nat.zero_add] at e
    rw [if_neg (by omega), zz_gi hi (by decide), zz_gi hi (by decide), show (zz_ov M 62 0 i (M.1 88)).1 88 i = M.1 88 i from rfl, e]
    exact congrArg ag (Prod.ext (zz_add _ 1) rfl)) (fun s hs ag => by subst hs; rfl)
  subst hs
  exact e
theorem zz_bk50 (M : gx_Mem) {n : Nat} (hn : M.1 57 46 = nI n) (h6 : n ≤ 6) : f_X8_back_l50 gx_fuel 0 M = f_X8_back_l80 gx_fuel 0 (zz_ov M 61 0 (4 * n) (M.1 87)) := by
  obtain ⟨s, hs, e⟩ := zz_for (fun (ag : Int32 × gx_Mem → Option (Int32 × gx_Mem)) (s : Int32 × gx_Mem) => f_X8_back_k50 (fun v1 M => ag (v1, M)) s.1 s.2) (fun s => f_X8_back_l80 gx_fuel 0 s.2) (fun i s => s = (nI i, zz_ov M 61 0 i (M.1 87))) (4 * n) gx_fuel (by unfold gx_fuel; omega) (0, M) (by rw [zz_ov0]; rfl) (fun i s hi hs => by
    subst hs
    refine ⟨_, rfl, fun ag => ?_⟩
    dsimp only
    unfold f_X8_back_k50
    rw [show (zz_ov M 61 0 i (M.1 87)).1 57 46 = nI n from hn, show (4 : Int32) = nI 4 from rfl, zz_mul]
    simp only [zz_le (show 4 * n < 2147483648 by omega) (show i < 2147483648 by omega), zz_let, zz_cl (show i < 2147483648 by omega)]
    have e := zz_ovS M 61 0 i (M.1 87) (M.1 87 i) (by rw [Nat.zero_add])
    rw [Nat.zero_add] at e
    rw [if_neg (by omega), zz_gi (show i < 24 by omega) (by decide), zz_gi (show i < 24 by omega) (by decide), show (zz_ov M 61 0 i (M.1 87)).1 87 i = M.1 87 i from rfl, e]
    exact congrArg ag (Prod.ext (zz_add _ 1) rfl)) (fun s hs ag => by
    subst hs
    dsimp only
    unfold f_X8_back_k50
    rw [show (zz_ov M 61 0 (4 * n) (M.1 87)).1 57 46 = nI n from hn, show (4 : Int32) = nI 4 from rfl, zz_mul, if_pos (nI_le (Nat.le_refl _) (by omega))])
  subst hs
  exact e
theorem zz_bk22 (M : gx_Mem) {n : Nat} (hn : M.1 57 46 = nI n) (h6 : n ≤ 6) : f_X8_back_l22 gx_fuel 0 M = f_X8_back_l50 gx_fuel 0 (zz_ov M 58 0 n (M.1 86)) := by
  obtain ⟨s, hs, e⟩ := zz_for (fun (ag : Int32 × gx_Mem → Option (Int32 × gx_Mem)) (s : Int32 × gx_Mem) => f_X8_back_k22 (fun v1 M => ag (v1, M)) s.1 s.2) (fun s => f_X8_back_l50 gx_fuel 0 s.2) (fun i s => s = (nI i, zz_ov M 58 0 i (M.1 86))) n gx_fuel (by unfold gx_fuel; omega) (0, M) (by rw [zz_ov0]; rfl) (fun i s hi hs => by
    subst hs
    refine ⟨_, rfl, fun ag => ?_⟩
    dsimp only
    unfold f_X8_back_k22
    rw [show (zz_ov M 58 0 i (M.1 86)).1 57 46 = nI n from hn]
    simp only [zz_le (show n < 2147483648 by omega) (show i < 2147483648 by omega), zz_let, zz_cl (show i < 2147483648 by omega)]
    have e := zz_ovS M 58 0 i (M.1 86) (M.1 86 i) (by rw [Nat.zero_add])
    rw [Nat.zero_add] at e
    rw [if_neg (by omega), zz_gi (show i < 6 by omega) (by decide), zz_gi (show i < 6 by omega) (by decide), show (zz_ov M 58 0 i (M.1 86)).1 86 i = M.1 86 i from rfl, e]
    exact congrArg ag (Prod.ext (zz_add _ 1) rfl)) (fun s hs ag => by
    subst hs
    dsimp only
    unfold f_X8_back_k22
    rw [show (zz_ov M 58 0 n (M.1 86)).1 57 46 = nI n from hn, if_pos (nI_le (Nat.le_refl _) (by omega))])
  subst hs
  exact e
theorem zz_layBack (M : gx_Mem) {n : Nat} (hn : M.1 16 7 = nI n) (h6 : n ≤ 6) : f_X2_layBack 9 16 M = some (gx_sI (zz_ov (zz_ov (zz_ov (zz_ov M 10 0 n (M.1 17)) 13 0 (4 * n) (M.1 20)) 14 0 24 (M.1 21)) 15 0 5 (M.1 22)) 9 9 (M.1 16 9)) := by
  unfold f_X2_layBack
  have e0 : gx_min (M.1 16 7) 6 = nI n := by
    unfold gx_min
    rw [hn, show (6 : Int32) = nI 6 from rfl]
    simp only [zz_lt (show 6 < 2147483648 by decide) (show n < 2147483648 by omega)]
    rw [if_neg (by omega)]
  have e1 : gx_cpk 0 0 (nI n) 6 6 = true := zz_okI h6 (by decide)
  have e2 : gx_cpk 0 0 (nI (4 * n)) 24 24 = true := zz_okI (by omega) (by decide)
  have e3 : gx_cpk 0 0 24 24 24 = true := by decide
  have e4 : gx_cpk 0 0 5 5 5 = true := by decide
  rw [e0]
  simp only [show (4 : Int32) = nI 4 from rfl, zz_mul, e1, e2, e3, e4, gx_gd, if_true, zz_let, show (0 : Int32).toNatClampNeg = 0 from rfl, zz_cl (show n < 2147483648 by omega), zz_cl (show 4 * n < 2147483648 by omega), show (24 : Int32).toNatClampNeg = 24 from rfl, show (5 : Int32).toNatClampNeg = 5 from rfl, zz_cIov, show n * 4 = 4 * n from Nat.mul_comm _ _]
  rfl
theorem op_back : zz_ok f_X7_back f_X8_back := by
  intro M h
  obtain ⟨⟨i1, i2⟩, ⟨⟨n, h6, hn⟩, i3⟩, i4, i5, i6, i7, i8⟩ := h.II
  rw [hn] at i3
  unfold f_X7_back
  by_cases h0 : M.1 56 8 = 0
  · rw [if_pos h0]
    refine ⟨-5, M, rfl, M, ?_, h⟩
    unfold f_X8_back
    rw [if_pos (i1.trans h0)]
  · rw [if_neg h0, zz_layBack M hn h6]
    simp only [zz_bPs]
    refine ⟨_, gx_sI (zz_ov (zz_ov (zz_ov (zz_ov M 10 0 n (M.1 17)) 13 0 (4 * n) (M.1 20)) 14 0 24 (M.1 21)) 15 0 5 (M.1 22)) 9 9 (M.1 16 9), rfl, ?_⟩
    generalize hA : gx_sI (zz_ov (zz_ov (zz_ov (zz_ov M 10 0 n (M.1 17)) 13 0 (4 * n) (M.1 20)) 14 0 24 (M.1 21)) 15 0 5 (M.1 22)) 9 9 (M.1 16 9) = A
    have e57 : ∀ i, A.1 57 i = M.1 57 i := fun i => by rw [← hA]; rfl
    have e86 : ∀ i, A.1 86 i = M.1 86 i := fun i => by rw [← hA]; rfl
    have e87 : ∀ i, A.1 87 i = M.1 87 i := fun i => by rw [← hA]; rfl
    have e88 : ∀ i, A.1 88 i = M.1 88 i := fun i => by rw [← hA]; rfl
    have e89 : ∀ i, A.1 89 i = M.1 89 i := fun i => by rw [← hA]; rfl
    refine ⟨zz_ov (zz_ov (zz_ov (zz_ov (gx_sI A 63 1 (M.1 57 47)) 58 0 n (M.1 86)) 61 0 (4 * n) (M.1 87)) 62 0 24 (M.1 88)) 85 0 5 (M.1 89), ?_, ?_⟩
    · unfold f_X8_back
      simp only [zz_let]
      rw [e57, e57, if_neg (by rw [i1]; exact h0), show (1 : Int32).toNatClampNeg = 1 from rfl, zz_bk22 (gx_sI A 63 1 (M.1 57 47)) (n := n) ((e57 46).trans i3) h6, zz_bk50 (zz_ov (gx_sI A 63 1 (M.1 57 47)) 58 0 n ((gx_sI A 63 1 (M.1 57 47)).1 86)) (n := n) ((e57 46).trans i3) h6, zz_bk80, zz_bk106]
      have f1 : (gx_sI A 63 1 (M.1 57 47)).1 86 = M.1 86 := by funext i; exact e86 i
      have f2 : (zz_ov (gx_sI A 63 1 (M.1 57 47)) 58 0 n (M.1 86)).1 87 = M.1 87 := by funext i; exact e87 i
      have f3 : (zz_ov (zz_ov (gx_sI A 63 1 (M.1 57 47)) 58 0 n (M.1 86)) 61 0 (4 * n) (M.1 87)).1 88 = M.1 88 := by funext i; exact e88 i
      have f4 : (zz_ov (zz_ov (zz_ov (gx_sI A 63 1 (M.1 57 47)) 58 0 n (M.1 86)) 61 0 (4 * n) (M.1 87)) 62 0 24 (M.1 88)).1 89 = M.1 89 := by funext i; exact e89 i
      rw [f1, f2, f3, f4, i7 0 (by decide)]
      subst hA; rfl
    · subst hA
      refine ⟨?_, (((((((((h.II.v fun _ => rfl).v fun _ => rfl).v fun _ => rfl).v fun _ => rfl).w rfl).w rfl).v fun _ => rfl).v fun _ => rfl).v fun _ => rfl).v fun _ => rfl, (((((((((h.IT.v fun _ => rfl).v fun _ => rfl).v fun _ => rfl).v fun _ => rfl).w rfl).w rfl).v fun _ => rfl).v fun _ => rfl).v fun _ => rfl).v fun _ => rfl, (((((((((h.IC.v fun _ => rfl).v fun _ => rfl).v fun _ => rfl).v fun _ => rfl).w rfl).w rfl).v fun _ => rfl).v fun _ => rfl).v fun _ => rfl).v fun _ => rfl, (((((((((h.IB.v fun _ => rfl).v fun _ => rfl).v fun _ => rfl).v fun _ => rfl).w rfl).w rfl).v fun _ => rfl).v fun _ => rfl).v fun _ => rfl).v fun _ => rfl, (((((((((h.IS.v fun _ => rfl).v fun _ => rfl).v fun _ => rfl).v fun _ => rfl).w rfl).w rfl).v fun _ => rfl).v fun _ => rfl).v fun _ => rfl).v fun _ => rfl, (((((((((h.IL.v fun _ => rfl).v fun _ => rfl).v fun _ => rfl).v fun _ => rfl).w rfl).w rfl).v fun _ => rfl).v fun _ => rfl).v fun _ => rfl).v fun _ => rfl⟩
      obtain ⟨q1, q2, q3, q4, q5, q6, q7, q8, q9⟩ := h.IH
      refine ⟨q1, fun p hp => ?_, q3, q4, fun i hi => ?_, fun i hi => ?_, fun i hi => ?_, q8, ?_⟩
      · have := q2 p hp
        have j4 := i4 p hp
        simp only [zz_sI1, zz_ov1]
        by_cases e : p < n
        · have j5 := j4.2 (by rw [hn]; exact nI_lt e (by omega))
          simp [e, j5]; exact j4.1
        · simp [e, this]
      · have := q5 i hi
        simp only [zz_sI1, zz_ov1]
        by_cases e : i < 4 * n
        · simp [e, i5 i hi]
        · simp [e, this]
      · simp only [zz_sI1, zz_ov1]
        simp [hi, i6 i hi]
      · simp only [zz_sI1, zz_ov1]
        simp [hi, i7 i hi]
      · exact i8

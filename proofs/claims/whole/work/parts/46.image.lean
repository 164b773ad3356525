theorem zz_ovcm (M : gx_Mem) {k q : Nat} (a n i : Nat) (f : Nat → Int32) (v : Int32) (h : q ≠ k) : gx_sI (zz_ov M k a n f) q i v = zz_ov (gx_sI M q i v) k a n f := by
  refine Prod.ext ?_ rfl
  funext x j
  rw [zz_sI1, zz_ov1, zz_ov1, zz_sI1]
  by_cases e : x = q ∧ j = i
  · rw [if_pos e, if_neg (by omega), if_pos e]
  · rw [if_neg e, if_neg e]
theorem zz_im91 (M : gx_Mem) : f_X8_image_l91 gx_fuel 0 M = some (M.1 85 0, zz_ov M 89 0 5 (M.1 85)) := by
  obtain ⟨s, hs, e⟩ := zz_for (fun (ag91 : Int32 × gx_Mem → Option (Int32 × gx_Mem)) (s : Int32 × gx_Mem) => f_X8_image_k91 (fun v1 M => ag91 (v1, M)) s.1 s.2) (fun s => some (s.2.1 85 0, s.2)) (fun i s => s = (nI i, zz_ov M 89 0 i (M.1 85))) 5 gx_fuel (by decide) (0, M) (by rw [zz_ov0]; rfl) (fun i s hi hs => by
    subst hs
    refine ⟨_, rfl, fun ag => ?_⟩
    dsimp only
    unfold f_X8_image_k91
    rw [show (5 : Int32) = nI 5 from rfl]
    simp only [zz_le (show 5 < 2147483648 by decide) (show i < 2147483648 by omega), zz_let, zz_cl (show i < 2147483648 by omega)]
    have e := zz_ovS M 89 0 i (M.1 85) (M.1 85 i) (by rw [Nat.zero_add])
    rw [Nat.zero_add] at e
    rw [if_neg (by omega), zz_gi hi (by decide), zz_gi hi (by decide), show (zz_ov M 89 0 i (M.1 85)).1 85 i = M.1 85 i from rfl, e]
    exact congrArg ag (Prod.ext (zz_add _ 1) rfl)) (fun s hs ag => by subst hs; rfl)
  subst hs
  exact e
theorem zz_im53 (M : gx_Mem) : f_X8_image_l53 gx_fuel 0 M = f_X8_image_l91 gx_fuel 0 (zz_ov (zz_ov M 87 0 24 (M.1 61)) 88 0 24 (M.1 62)) := by
  obtain ⟨s, hs, e⟩ := zz_for (fun (ag : Int32 × gx_Mem → Option (Int32 × gx_Mem)) (s : Int32 × gx_Mem) => f_X8_image_k53 (fun v1 M => ag (v1, M)) s.1 s.2) (fun s => f_X8_image_l91 gx_fuel 0 s.2) (fun i s => s = (nI i, zz_ov (zz_ov M 87 0 i (M.1 61)) 88 0 i (M.1 62))) 24 gx_fuel (by decide) (0, M) (by rw [zz_ov0, zz_ov0]; rfl) (fun i s hi hs => by
    subst hs
    refine ⟨_, rfl, fun ag => ?_⟩
    dsimp only
    unfold f_X8_image_k53
    rw [show (24 : Int32) = nI 24 from rfl]
    simp only [zz_le (show 24 < 2147483648 by decide) (show i < 2147483648 by omega), zz_let, zz_cl (show i < 2147483648 by omega)]
    have e := zz_ovS M 87 0 i (M.1 61) (M.1 61 i) (by rw [Nat.zero_add])
    have e2 := zz_ovS (zz_ov M 87 0 (i + 1) (M.1 61)) 88 0 i (M.1 62) (M.1 62 i) (by rw [Nat.zero_add])
    rw [Nat.zero_add] at e e2
    rw [if_neg (by omega), zz_gi hi (by decide), zz_gi hi (by decide), zz_gi hi (by decide), zz_gi hi (by decide), show (zz_ov (zz_ov M 87 0 i (M.1 61)) 88 0 i (M.1 62)).1 61 i = M.1 61 i from rfl, zz_ovcm _ _ _ _ _ _ (by decide), e, show (zz_ov (zz_ov M 87 0 (i + 1) (M.1 61)) 88 0 i (M.1 62)).1 62 i = M.1 62 i from rfl, e2]
    exact congrArg ag (Prod.ext (zz_add _ 1) rfl)) (fun s hs ag => by subst hs; rfl)
  subst hs
  exact e
theorem zz_im25 (M : gx_Mem) {n : Nat} (hn : M.1 57 1 = nI n) (h6 : n ≤ 6) : f_X8_image_l25 gx_fuel 0 M = f_X8_image_l53 gx_fuel 0 (zz_ov M 86 0 n (M.1 58)) := by
  obtain ⟨s, hs, e⟩ := zz_for (fun (ag : Int32 × gx_Mem → Option (Int32 × gx_Mem)) (s : Int32 × gx_Mem) => f_X8_image_k25 (fun v1 M => ag (v1, M)) s.1 s.2) (fun s => f_X8_image_l53 gx_fuel 0 s.2) (fun i s => s = (nI i, zz_ov M 86 0 i (M.1 58))) n gx_fuel (by unfold gx_fuel; omega) (0, M) (by rw [zz_ov0]; rfl) (fun i s hi hs => by
    subst hs
    refine ⟨_, rfl, fun ag => ?_⟩
    dsimp only
    unfold f_X8_image_k25
    rw [show (zz_ov M 86 0 i (M.1 58)).1 57 1 = nI n from hn]
    simp only [zz_le (show n < 2147483648 by omega) (show i < 2147483648 by omega), zz_let, zz_cl (show i < 2147483648 by omega)]
    have e := zz_ovS M 86 0 i (M.1 58) (M.1 58 i) (by rw [Nat.zero_add])
    rw [Nat.zero_add] at e
    rw [if_neg (by omega), zz_gi (show i < 6 by omega) (by decide), zz_gi (show i < 6 by omega) (by decide), show (zz_ov M 86 0 i (M.1 58)).1 58 i = M.1 58 i from rfl, e]
    exact congrArg ag (Prod.ext (zz_add _ 1) rfl)) (fun s hs ag => by
    subst hs
    dsimp only
    unfold f_X8_image_k25
    rw [show (zz_ov M 86 0 n (M.1 58)).1 57 1 = nI n from hn, if_pos (nI_le (Nat.le_refl n) (by omega))])
  subst hs
  exact e
theorem zz_lk.IH {M : gx_Mem} (q : zz_IH M) : zz_IH (zz_lk 16 9 M) := ((((((((q.v fun _ => rfl).v fun _ => rfl).v fun _ => rfl).v fun _ => rfl).v fun _ => rfl).v fun _ => rfl).w rfl).w rfl).w rfl
theorem zz_lk.IT {M : gx_Mem} (q : zz_IT M) : zz_IT (zz_lk 16 9 M) := ((((((((q.v fun _ => rfl).v fun _ => rfl).v fun _ => rfl).v fun _ => rfl).v fun _ => rfl).v fun _ => rfl).w rfl).w rfl).w rfl
theorem zz_lk.IC {M : gx_Mem} (q : zz_IC M) : zz_IC (zz_lk 16 9 M) := ((((((((q.v fun _ => rfl).v fun _ => rfl).v fun _ => rfl).v fun _ => rfl).v fun _ => rfl).v fun _ => rfl).w rfl).w rfl).w rfl
theorem zz_lk.IB {M : gx_Mem} (q : zz_IB M) : zz_IB (zz_lk 16 9 M) := ((((((((q.v fun _ => rfl).v fun _ => rfl).v fun _ => rfl).v fun _ => rfl).v fun _ => rfl).v fun _ => rfl).w rfl).w rfl).w rfl
theorem zz_lk.IS {M : gx_Mem} (q : zz_IS M) : zz_IS (zz_lk 16 9 M) := ((((((((q.v fun _ => rfl).v fun _ => rfl).v fun _ => rfl).v fun _ => rfl).v fun _ => rfl).v fun _ => rfl).w rfl).w rfl).w rfl
theorem zz_lk.IL {M : gx_Mem} (q : zz_IL M) : zz_IL (zz_lk 16 9 M) := ((((((((q.v fun _ => rfl).v fun _ => rfl).v fun _ => rfl).v fun _ => rfl).v fun _ => rfl).v fun _ => rfl).w rfl).w rfl).w rfl
theorem op_image : zz_ok f_X7_image f_X8_image := by
  intro M h
  obtain ⟨n, h6, hn, hn8⟩ := h.ppl
  unfold f_X7_image
  rw [zz_liken16]
  simp only [zz_bPs, zz_let]
  refine ⟨_, gx_sI (zz_lk 16 9 M) 56 8 1, rfl, ?_⟩
  generalize hA : gx_sI (zz_lk 16 9 M) 56 8 1 = A
  have e57 : ∀ i, A.1 57 i = M.1 57 i := fun i => by rw [← hA]; rfl
  have e63 : ∀ i, A.1 63 i = M.1 63 i := fun i => by rw [← hA]; rfl
  have e58 : ∀ i, A.1 58 i = M.1 58 i := fun i => by rw [← hA]; rfl
  have e61 : ∀ i, A.1 61 i = M.1 61 i := fun i => by rw [← hA]; rfl
  have e62 : ∀ i, A.1 62 i = M.1 62 i := fun i => by rw [← hA]; rfl
  have e85 : ∀ i, A.1 85 i = M.1 85 i := fun i => by rw [← hA]; rfl
  generalize hB : gx_sI (gx_sI (gx_sI A 57 45 1) 57 46 (nI n)) 57 47 (M.1 63 1) = B
  have b57 : B.1 57 1 = nI n := by rw [← hB]; show A.1 57 1 = _; rw [e57]; exact hn8
  refine ⟨zz_ov (zz_ov (zz_ov (zz_ov B 86 0 n (M.1 58)) 87 0 24 (M.1 61)) 88 0 24 (M.1 62)) 89 0 5 (M.1 85), ?_, ?_⟩
  · unfold f_X8_image
    simp only [zz_let]
    rw [show (gx_sI A 57 45 1).1 57 1 = nI n from (e57 1).trans hn8, show (gx_sI (gx_sI A 57 45 1) 57 46 (nI n)).1 63 (1 : Int32).toNatClampNeg = M.1 63 1 from e63 1, hB, zz_im25 B b57 h6, zz_im53, zz_im91]
    have f1 : B.1 58 = M.1 58 := by rw [← hB]; funext i; exact e58 i
    have f2 : (zz_ov B 86 0 n (B.1 58)).1 61 = M.1 61 := by rw [← hB]; funext i; exact e61 i
    have f3 : (zz_ov B 86 0 n (B.1 58)).1 62 = M.1 62 := by rw [← hB]; funext i; exact e62 i
    have f4 : (zz_ov (zz_ov (zz_ov B 86 0 n (B.1 58)) 87 0 24 (M.1 61)) 88 0 24 (M.1 62)).1 85 = M.1 85 := by rw [← hB]; funext i; exact e85 i
    rw [f2, f3, f4, f1, h.IH.2.2.2.2.2.2.1 0 (by decide)]
    subst hA; rfl
  · subst hB; subst hA
    obtain ⟨q1, q2, q3, q4, q5, q6, q7, q8, q9⟩ := h.IH
    refine ⟨((((((((zz_lk.IH h.IH).w rfl).w rfl).w rfl).w rfl).v fun _ => rfl).v fun _ => rfl).v fun _ => rfl).v fun _ => rfl, ?_, ((((((((zz_lk.IT h.IT).w rfl).w rfl).w rfl).w rfl).v fun _ => rfl).v fun _ => rfl).v fun _ => rfl).v fun _ => rfl, ((((((((zz_lk.IC h.IC).w rfl).w rfl).w rfl).w rfl).v fun _ => rfl).v fun _ => rfl).v fun _ => rfl).v fun _ => rfl, ((((((((zz_lk.IB h.IB).w rfl).w rfl).w rfl).w rfl).v fun _ => rfl).v fun _ => rfl).v fun _ => rfl).v fun _ => rfl, ((((((((zz_lk.IS h.IS).w rfl).w rfl).w rfl).w rfl).v fun _ => rfl).v fun _ => rfl).v fun _ => rfl).v fun _ => rfl, ((((((((zz_lk.IL h.IL).w rfl).w rfl).w rfl).w rfl).v fun _ => rfl).v fun _ => rfl).v fun _ => rfl).v fun _ => rfl⟩
    refine ⟨⟨rfl, .inr rfl⟩, ⟨?_, ?_⟩, fun p hp => ⟨?_, fun hlt => ?_⟩, fun i hi => ⟨?_, ?_⟩, fun i hi => ⟨?_, ?_⟩, fun i hi => ?_, ?_, ?_⟩
    · show zz_bd (M.1 9 7) 6
      exact q1.1
    · show nI n = M.1 9 7
      exact hn.symm
    · simp [zz_lk, zz_sI1, zz_ov1, hp]; exact (q2 p hp).1
    · rw [show (zz_ov (zz_ov (zz_ov (zz_ov (gx_sI (gx_sI (gx_sI (gx_sI (zz_lk 16 9 M) 56 8 1) 57 45 1) 57 46 (nI n)) 57 47 (M.1 63 1)) 86 0 n (M.1 58)) 87 0 24 (M.1 61)) 88 0 24 (M.1 62)) 89 0 5 (M.1 85)).1 16 7 = nI n from hn, zz_lt (by omega) (by omega)] at hlt
      simp [zz_lk, zz_sI1, zz_ov1, hp, hlt]; exact (q2 p hp).2
    · simp [zz_lk, zz_sI1, zz_ov1, hi]; exact (q5 i hi).1
    · simp [zz_lk, zz_sI1, zz_ov1, hi]; exact (q5 i hi).2
    · simp [zz_lk, zz_sI1, zz_ov1, hi]; exact (q6 i hi).1
    · simp [zz_lk, zz_sI1, zz_ov1, hi]; exact (q6 i hi).2
    · simp [zz_lk, zz_sI1, zz_ov1, hi]; exact q7 i hi
    · show zz_bd (M.1 9 9) 11
      exact q9.1
    · show M.1 63 1 = M.1 9 9
      exact q9.2

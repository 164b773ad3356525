theorem zz_hour59 {M : gx_Mem} {lv : Nat → Nat → Nat → Nat → Nat → Nat → Nat} {H : zz_hs} {O : Nat → Int32} (g : ∀ q, q < 4 → M.1 79 q = nI (zz_ca lv H O q 1)) : f_X8_hour_l59 gx_fuel 0 M = some (M.1 63 1, gx_sI M 85 3 (zz_l3 lv H O (M.1 85 3) 4)) := by
  obtain ⟨s, hs, e⟩ := zz_for (fun (ag : Int32 × gx_Mem → Option (Int32 × gx_Mem)) (s : Int32 × gx_Mem) => f_X8_hour_k59 (fun v1 M => ag (v1, M)) s.1 s.2) (fun s => some (s.2.1 63 1, s.2)) (fun i s => s = (nI i, gx_sI M 85 3 (zz_l3 lv H O (M.1 85 3) i))) 4 gx_fuel (by decide) (0, M) (by
      show _ = (nI 0, gx_sI M 85 3 (M.1 85 3))
      rw [zz_sIself rfl]; rfl) (fun i s hi hs => by
    subst hs
    refine ⟨_, rfl, fun ag => ?_⟩
    dsimp only
    unfold f_X8_hour_k59
    rw [show (4 : Int32) = nI 4 from rfl]
    simp only [zz_le (show 4 < 2147483648 by decide) (show i < 2147483648 by omega), zz_let, zz_cl (show i < 2147483648 by omega)]
    rw [if_neg (by omega), zz_gi hi (by decide), show (gx_sI M 85 3 (zz_l3 lv H O (M.1 85 3) i)).1 79 i = nI (zz_ca lv H O i 1) from g i hi, show (3 : Int32).toNatClampNeg = 3 from rfl, show (gx_sI M 85 3 (zz_l3 lv H O (M.1 85 3) i)).1 85 3 = zz_l3 lv H O (M.1 85 3) i from rfl, zz_sIsI]
    exact congrArg ag (Prod.ext (zz_add _ 1) rfl)) (fun s hs ag => by subst hs; rfl)
  subst hs
  exact e
theorem zz_hour13 (M : gx_Mem) : f_X8_hour_l13 gx_fuel 0 M = f_X8_hour_l59 gx_fuel 0 (gx_sI (gx_sI (zz_ov M 61 0 24 (M.1 78)) 63 1 (M.1 57 29)) 85 0 (M.1 85 0 + 1)) := by
  generalize hF : f_X8_hour_l59 gx_fuel 0 = F
  obtain ⟨s, hs, e⟩ := zz_for (fun (ag : Int32 × gx_Mem → Option (Int32 × gx_Mem)) (s : Int32 × gx_Mem) => f_X8_hour_k13 (fun v1 M => ag (v1, M)) s.1 s.2) (fun s => F (gx_sI (gx_sI s.2 63 1 (M.1 57 29)) 85 0 (M.1 85 0 + 1))) (fun i s => s = (nI i, zz_ov M 61 0 i (M.1 78))) 24 gx_fuel (by decide) (0, M) (by rw [zz_ov0]; rfl) (fun i s hi hs => by
    subst hs
    refine ⟨_, rfl, fun ag => ?_⟩
    dsimp only
    unfold f_X8_hour_k13
    rw [show (24 : Int32) = nI 24 from rfl]
    rw [if_neg (show ¬ nI 24 ≤ nI i by rw [zz_le (by decide) (by omega)]; omega)]
    simp only [zz_let, zz_cl (show i < 2147483648 by omega)]
    have e := zz_ovS M 61 0 i (M.1 78) (M.1 78 i) (by rw [Nat.zero_add])
    rw [Nat.zero_add] at e
    rw [zz_gi hi (by decide), zz_gi hi (by decide), show (zz_ov M 61 0 i (M.1 78)).1 78 i = M.1 78 i from rfl, e]
    exact congrArg ag (Prod.ext (zz_add _ 1) rfl)) (fun s hs ag => by
    subst hs
    dsimp only
    unfold f_X8_hour_k13
    rw [if_pos (show (24 : Int32) ≤ nI 24 by decide)]
    rw [zz_let, zz_let, hF]
    rfl)
  subst hs
  exact e
/-- now, where the model's side stands as in M -/
theorem zz_nowG {M M1 : gx_Mem} (h : zz_IH M) (e : ∀ k i, 57 ≤ k → M1.1 k i = M.1 k i) (lv : Nat → Nat → Nat → Nat → Nat → Nat → Nat) (O : Nat → Int32) : zz_G lv (zz_H M) O (zz_W M) (zz_h0 M) 0 (zz_now M1) := by
  have e2 : ∀ k i, 57 ≤ k → (zz_now M1).1 k i = (zz_now M).1 k i := by
    intro k i hk
    unfold zz_now
    rw [zz_sI1, zz_sI1, zz_ov1, zz_ov1, zz_ov1, zz_ov1, zz_ov1, zz_ov1, zz_ov1, zz_ov1, e k i hk, e 57 1 (by decide), e 63 1 (by decide), show M1.1 58 = M.1 58 from funext fun i => e 58 i (by decide), show M1.1 61 = M.1 61 from funext fun i => e 61 i (by decide), show M1.1 62 = M.1 62 from funext fun i => e 62 i (by decide)]
  obtain ⟨⟨c1, c2, c3, c4, c5⟩, g2, g3, g4⟩ := zz_now_G h lv O
  exact ⟨⟨(e2 _ _ (by decide)).trans c1, fun p hp => (e2 _ _ (by decide)).trans (c2 p hp), fun p hp => (e2 _ _ (by decide)).trans (c3 p hp), fun p hp => (e2 _ _ (by decide)).trans (c4 p hp), (e2 _ _ (by decide)).trans c5⟩, fun j hj => (e2 _ _ (by decide)).trans (g2 j hj), fun j hj => (e2 _ _ (by decide)).trans (g3 j hj), (e2 _ _ (by decide)).trans g4⟩
/-- the places that an hour may change -/
def zz_hc (k i : Nat) : Bool := zz_sc k i || (k == 13 || k == 61 || (k == 9 && i == 9) || (k == 63 && i == 1) || (k == 15 && (i == 0 || i == 3)) || (k == 85 && (i == 0 || i == 3)))
theorem zz_hcI : ∀ k i, zz_pI k i = true → zz_hc k i = false := by
  intro k i h
  unfold zz_pI at h
  split at h <;> simp_all [zz_hc, zz_sc]
  omega
theorem zz_hcT : ∀ k i, zz_pT k i = true → zz_hc k i = false := by
  intro k i h
  unfold zz_pT at h
  split at h <;> simp_all [zz_hc, zz_sc]
theorem zz_hcC : ∀ k i, zz_pC k i = true → zz_hc k i = false := by
  intro k i h
  unfold zz_pC at h
  split at h <;> simp_all [zz_hc, zz_sc]
  omega
theorem zz_hcB : ∀ k i, zz_pB k i = true → zz_hc k i = false := by
  intro k i h
  unfold zz_pB at h
  split at h <;> simp_all [zz_hc, zz_sc]
  omega
theorem zz_hcS : ∀ k i, zz_pS k i = true → zz_hc k i = false := by
  intro k i h
  unfold zz_pS at h
  split at h <;> simp_all [zz_hc, zz_sc]

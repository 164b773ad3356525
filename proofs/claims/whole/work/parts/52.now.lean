/-! what both sides see of a house now; who is out at an hour -/
theorem zz_bdn {x : Int32} {n : Nat} (h : zz_bd x n) (hn : n < 2147483648) : x = nI x.toNatClampNeg ∧ x.toNatClampNeg ≤ n := by
  obtain ⟨j, hj, rfl⟩ := h
  rw [zz_cl (by omega)]
  exact ⟨rfl, hj⟩
def zz_H (M : gx_Mem) : zz_hs := ((M.1 9 7).toNatClampNeg, fun p => (M.1 10 p).toNatClampNeg, fun i => (M.1 12 i).toNatClampNeg, fun i => (M.1 14 i).toNatClampNeg, (M.1 9 8).toNatClampNeg)
theorem zz_Hok {M : gx_Mem} (h : zz_IH M) : zz_hok (zz_H M) ∧ zz_h7 9 M (zz_H M) := by
  obtain ⟨q1, q2, q3, q4, q5, q6, q7, q8, q9⟩ := h
  have n6 : (M.1 9 7).toNatClampNeg ≤ 6 := (zz_bdn q1.1 (by decide)).2
  refine ⟨⟨n6, fun p hp => ?_, fun i hi => (zz_bdn (q4 i hi).1 (by decide)).2, fun i hi => (zz_bdn (q6 i hi).1 (by decide)).2, (zz_bdn q8.1 (by decide)).2⟩, (zz_bdn q1.1 (by decide)).1, fun p hp => ?_, fun i hi => (zz_bdn (q4 i hi).1 (by decide)).1, fun i hi => (zz_bdn (q6 i hi).1 (by decide)).1, (zz_bdn q8.1 (by decide)).1⟩
  · have h6 : p < 6 := Nat.lt_of_lt_of_le hp n6
    have := (zz_bdn (q2 p h6).1 (by decide)).2
    exact Nat.lt_of_le_of_lt this (by decide)
  · have h6 : p < 6 := Nat.lt_of_lt_of_le hp n6
    exact (zz_bdn (q2 p h6).1 (by decide)).1
theorem zz_H_fr {S : Nat → Nat → Bool} {M M1 : gx_Mem} (f : zz_fr S M M1) (h : ∀ k i, 9 ≤ k → k ≤ 14 → S k i = false) : zz_H M1 = zz_H M := by
  have e : ∀ k i, 9 ≤ k → k ≤ 14 → M1.1 k i = M.1 k i := fun k i h1 h2 => f.2 k i (h k i h1 h2)
  unfold zz_H
  rw [e 9 7 (by decide) (by decide), e 9 8 (by decide) (by decide), show M1.1 10 = M.1 10 from funext fun i => e 10 i (by decide) (by decide), show M1.1 12 = M.1 12 from funext fun i => e 12 i (by decide) (by decide), show M1.1 14 = M.1 14 from funext fun i => e 14 i (by decide) (by decide)]
/-- the model's now, exactly -/
def zz_now (M : gx_Mem) : gx_Mem := gx_sI (zz_ov (zz_ov (zz_ov (zz_ov M 76 0 (M.1 57 1).toNatClampNeg (M.1 58)) 77 0 24 (M.1 62)) 78 0 24 (M.1 61)) 79 0 4 (fun _ => 0)) 57 29 (M.1 63 1)
theorem zz_now68 (M : gx_Mem) : f_X8_layNow_l68 gx_fuel 0 M = some (gx_sI (zz_ov M 79 0 4 (fun _ => 0)) 57 29 (M.1 63 1)) := by
  obtain ⟨s, hs, e⟩ := zz_for (fun (ag : Int32 × gx_Mem → Option gx_Mem) (s : Int32 × gx_Mem) => f_X8_layNow_k68 (fun v1 M => ag (v1, M)) s.1 s.2) (fun s => some (gx_sI s.2 57 29 (s.2.1 63 1))) (fun i s => s = (nI i, zz_ov M 79 0 i (fun _ => 0))) 4 gx_fuel (by decide) (0, M) (by rw [zz_ov0]; rfl) (fun i s hi hs => by
    subst hs
    refine ⟨_, rfl, fun ag => ?_⟩
    dsimp only
    unfold f_X8_layNow_k68
    rw [show (4 : Int32) = nI 4 from rfl]
    simp only [zz_le (show 4 < 2147483648 by decide) (show i < 2147483648 by omega), zz_let, zz_cl (show i < 2147483648 by omega)]
    have e := zz_ovS M 79 0 i (fun _ => 0) 0 rfl
    rw [Nat.zero_add] at e
    rw [if_neg (by omega), zz_gi hi (by decide), e]
    exact congrArg ag (Prod.ext (zz_add _ 1) rfl)) (fun s hs ag => by subst hs; rfl)
  subst hs
  exact e
theorem zz_now30 (M : gx_Mem) : f_X8_layNow_l30 gx_fuel 0 M = f_X8_layNow_l68 gx_fuel 0 (zz_ov (zz_ov M 77 0 24 (M.1 62)) 78 0 24 (M.1 61)) := by
  obtain ⟨s, hs, e⟩ := zz_for (fun (ag : Int32 × gx_Mem → Option gx_Mem) (s : Int32 × gx_Mem) => f_X8_layNow_k30 (fun v1 M => ag (v1, M)) s.1 s.2) (fun s => f_X8_layNow_l68 gx_fuel 0 s.2) (fun i s => s = (nI i, zz_ov (zz_ov M 77 0 i (M.1 62)) 78 0 i (M.1 61))) 24 gx_fuel (by decide) (0, M) (by rw [zz_ov0, zz_ov0]; rfl) (fun i s hi hs => by
    subst hs
    refine ⟨_, rfl, fun ag => ?_⟩
    dsimp only
    unfold f_X8_layNow_k30
    rw [show (24 : Int32) = nI 24 from rfl]
    simp only [zz_le (show 24 < 2147483648 by decide) (show i < 2147483648 by omega), zz_let, zz_cl (show i < 2147483648 by omega)]
    have e := zz_ovS M 77 0 i (M.1 62) (M.1 62 i) (by rw [Nat.zero_add])
    have e2 := zz_ovS (zz_ov M 77 0 (i + 1) (M.1 62)) 78 0 i (M.1 61) (M.1 61 i) (by rw [Nat.zero_add])
    rw [Nat.zero_add] at e e2
    rw [if_neg (by omega), zz_gi hi (by decide), zz_gi hi (by decide), zz_gi hi (by decide), zz_gi hi (by decide), show (zz_ov (zz_ov M 77 0 i (M.1 62)) 78 0 i (M.1 61)).1 62 i = M.1 62 i from rfl, zz_ovcm _ _ _ _ _ _ (by decide), e, show (zz_ov (zz_ov M 77 0 (i + 1) (M.1 62)) 78 0 i (M.1 61)).1 61 i = M.1 61 i from rfl, e2]
    exact congrArg ag (Prod.ext (zz_add _ 1) rfl)) (fun s hs ag => by subst hs; rfl)
  subst hs
  exact e
theorem zz_layNow (M : gx_Mem) (h : zz_bd (M.1 57 1) 6) : f_X8_layNow M = some (zz_now M) := by
  obtain ⟨n, h6, hn⟩ := h
  obtain ⟨s, hs, e⟩ := zz_for (fun (ag : Int32 × gx_Mem → Option gx_Mem) (s : Int32 × gx_Mem) => f_X8_layNow_k2 (fun v1 M => ag (v1, M)) s.1 s.2) (fun s => f_X8_layNow_l30 gx_fuel 0 s.2) (fun i s => s = (nI i, zz_ov M 76 0 i (M.1 58))) n gx_fuel (by unfold gx_fuel; omega) (0, M) (by rw [zz_ov0]; rfl) (fun i s hi hs => by
    subst hs
    refine ⟨_, rfl, fun ag => ?_⟩
    dsimp only
    unfold f_X8_layNow_k2
    rw [show (zz_ov M 76 0 i (M.1 58)).1 57 1 = nI n from hn]
    simp only [zz_le (show n < 2147483648 by omega) (show i < 2147483648 by omega), zz_let, zz_cl (show i < 2147483648 by omega)]
    have e := zz_ovS M 76 0 i (M.1 58) (M.1 58 i) (by rw [Nat.zero_add])
    rw [Nat.zero_add] at e
    rw [if_neg (by omega), zz_gi (show i < 6 by omega) (by decide), zz_gi (show i < 6 by omega) (by decide), show (zz_ov M 76 0 i (M.1 58)).1 58 i = M.1 58 i from rfl, e]
    exact congrArg ag (Prod.ext (zz_add _ 1) rfl)) (fun s hs ag => by
    subst hs
    dsimp only
    unfold f_X8_layNow_k2
    rw [show (zz_ov M 76 0 n (M.1 58)).1 57 1 = nI n from hn, if_pos (nI_le (Nat.le_refl n) (by omega))])
  subst hs
  refine e.trans ?_
  rw [zz_now30, zz_now68]
  unfold zz_now
  rw [hn, zz_cl (show n < 2147483648 by omega)]
  rfl
theorem zz_now_fr (M : gx_Mem) : zz_fr zz_sc M (zz_now M) := by
  refine ⟨rfl, fun k i hk => ?_⟩
  unfold zz_now
  rw [zz_sI1, if_neg (by rintro ⟨rfl, rfl⟩; cases hk), zz_ov1, if_neg (by rintro ⟨rfl, -⟩; cases hk), zz_ov1, if_neg (by rintro ⟨rfl, -⟩; cases hk), zz_ov1, if_neg (by rintro ⟨rfl, -⟩; cases hk), zz_ov1, if_neg (by rintro ⟨rfl, -⟩; cases hk)]
theorem zz_now_h8 {M : gx_Mem} (h : zz_IH M) : zz_h8 (zz_now M) (zz_H M) := by
  obtain ⟨ok, c1, c2, c3, c4, c5⟩ := zz_Hok h
  obtain ⟨q1, q2, q3, q4, q5, q6, q7, q8, q9⟩ := h
  have n6 := ok.1
  refine ⟨q1.2.trans c1, fun p hp => ?_, fun i hi => (q4 i hi).2.trans (c3 i hi), fun i hi => ?_, q8.2.trans c5⟩
  · have hn : (M.1 57 1).toNatClampNeg = (zz_H M).n := by rw [q1.2]; rfl
    have : (zz_now M).1 76 p = M.1 58 p := by
      unfold zz_now
      rw [hn]
      simp [zz_sI1, zz_ov1, hp]
    rw [this, (q2 p (by omega)).2]
    exact c2 p hp
  · have : (zz_now M).1 77 i = M.1 62 i := by
      unfold zz_now
      simp [zz_sI1, zz_ov1, hi]
    rw [this, (q6 i hi).2]
    exact c4 i hi
/-- the set of those of Q among the first n -/
def zz_ou (Q : Nat → Bool) : Nat → Int32
  | 0 => 0
  | n + 1 => if Q n = true then zz_ou Q n ||| gx_shl 1 (nI n) else zz_ou Q n
theorem zz_ou_cong {P Q : Nat → Bool} : ∀ n, (∀ i, i < n → P i = Q i) → zz_ou P n = zz_ou Q n
  | 0, _ => rfl
  | n + 1, h => by
    unfold zz_ou
    rw [zz_ou_cong n (fun i hi => h i (by omega)), h n (by omega)]
theorem zz_shl0 : ∀ i, i < 6 → gx_shl 0 (nI i) = 0 := by decide
theorem zz_outAt7 {k : Nat} {M : gx_Mem} {n : Nat} (hn : M.1 k 7 = nI n) (h6 : n ≤ 6) (h : Nat) : f_X2_outAt k (nI h) M = some (zz_ou (fun i => zz_b (M.1 (k + 2) i) h) n) := by
  obtain ⟨s, hs, e⟩ := zz_for (fun (ag4 : Int32 × Int32 → Option Int32) (s : Int32 × Int32) => f_X2_outAt_k4 k (nI h) (fun v2 v3 => ag4 (v2, v3)) s.1 s.2 M) (fun s => some s.1) (fun i s => s = (zz_ou (fun i => zz_b (M.1 (k + 2) i) h) i, nI i)) n gx_fuel (by unfold gx_fuel; omega) (0, 0) rfl (fun i s hi hs => by
    subst hs
    refine ⟨_, rfl, fun ag => ?_⟩
    dsimp only
    unfold f_X2_outAt_k4
    rw [hn, zz_cl (show i < 2147483648 by omega), zz_b01]
    simp only [zz_le (show n < 2147483648 by omega) (show i < 2147483648 by omega), zz_let]
    rw [if_neg (by omega), zz_gi (show i < 6 by omega) (by decide)]
    refine congrArg ag (Prod.ext ?_ (zz_add _ 1))
    show zz_ou (fun i => zz_b (M.1 (k + 2) i) h) i ||| gx_shl (zz_i (zz_b (M.1 (k + 2) i) h)) (nI i) = (if zz_b (M.1 (k + 2) i) h = true then zz_ou (fun i => zz_b (M.1 (k + 2) i) h) i ||| gx_shl 1 (nI i) else zz_ou (fun i => zz_b (M.1 (k + 2) i) h) i)
    cases e : zz_b (M.1 (k + 2) i) h with
    | false =>
      rw [if_neg (by decide)]
      show _ ||| gx_shl 0 (nI i) = _
      rw [zz_shl0 i (by omega), Int32.or_zero]
    | true =>
      rw [if_pos rfl]
      rfl) (fun s hs ag => by
    subst hs
    dsimp only
    unfold f_X2_outAt_k4
    rw [hn, if_pos (nI_le (Nat.le_refl n) (by omega))])
  subst hs
  exact e
theorem zz_outAt8 {M : gx_Mem} {n : Nat} (hn : M.1 57 1 = nI n) (h6 : n ≤ 6) (h : Nat) (mask : Int32) : f_X8_outAt (nI h) mask M = some (zz_ou (fun i => zz_b mask i && zz_b (M.1 59 i) h) n) := by
  obtain ⟨s, hs, e⟩ := zz_for (fun (ag5 : Int32 × Int32 → Option Int32) (s : Int32 × Int32) => f_X8_outAt_k5 (nI h) mask (fun v3 v4 => ag5 (v3, v4)) s.1 s.2 M) (fun s => some s.1) (fun i s => s = (zz_ou (fun i => zz_b mask i && zz_b (M.1 59 i) h) i, nI i)) n gx_fuel (by unfold gx_fuel; omega) (0, 0) rfl (fun i s hi hs => by
    subst hs
    refine ⟨_, rfl, fun ag => ?_⟩
    dsimp only
    unfold f_X8_outAt_k5 f_X8_outAt_b44
    rw [hn, zz_cl (show i < 2147483648 by omega), zz_has8, zz_has8]
    simp only [zz_le (show n < 2147483648 by omega) (show i < 2147483648 by omega), zz_let, zz_bPs, zz_ifi]
    rw [if_neg (by omega), zz_gi (show i < 6 by omega) (by decide)]
    conv => rhs; unfold zz_ou
    cases e1 : zz_b mask i with
    | false => exact congrArg ag (Prod.ext rfl (zz_add _ 1))
    | true =>
      cases e2 : zz_b (M.1 59 i) h with
      | false => exact congrArg ag (Prod.ext rfl (zz_add _ 1))
      | true => exact congrArg ag (Prod.ext rfl (zz_add _ 1))) (fun s hs ag => by
    subst hs
    dsimp only
    unfold f_X8_outAt_k5
    rw [hn, if_pos (nI_le (Nat.le_refl n) (by omega))])
  subst hs
  exact e
theorem zz_b63 : ∀ i, i < 6 → zz_b 63 i = true := by decide

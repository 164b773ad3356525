theorem zz_first8 {A : gx_Mem} {H : zz_hs} {lv : Nat → Nat → Nat → Nat → Nat → Nat → Nat} {O : Nat → Int32} {w : Nat → Nat} {h0 p J : Nat} (ok : zz_hok H) (hlv : ∀ a w i f m n, lv a w i f m n ≤ a) (hL : zz_LM lv A) (hw : ∀ j, j < 24 → w j ≤ 9999) (g : zz_G lv H O w h0 0 A)
    (hO : ∀ t, O t = zz_ou (fun p => zz_b 63 p && zz_b (A.1 59 p) ((h0 + t) % 12)) H.n) (h61 : ∀ j, j < 24 → A.1 61 j = nI (w j)) (hp : p < H.n) (hJ : J ≤ 48) (j2 : (decide (J < 48) && !zz_gt lv H O w p J) = false) (j3 : ∀ i, i < J → (decide (i < 48) && !zz_gt lv H O w p i) = true) :
    ∃ M2, f_X8_first_l16 (nI p) gx_fuel 1 A = some (if J < 48 then nI (J + 1) else -2, M2) ∧ zz_fr zz_SG A M2 := by
  have h6 := ok.1
  have ng : ∀ i, i < J → ∀ m, m < 4 → zz_gn lv H O w p i m = false := fun i hi m hm => by
    have := j3 i hi
    cases e : zz_gn lv H O w p i m with
    | false => rfl
    | true => simp [zz_gt_iff.2 ⟨m, hm, e⟩] at this
  have one : ∀ i, i < 48 → i ≤ J → ∀ C, zz_fr zz_SG A C → zz_G lv H O w h0 i C → ∃ D, zz_fr zz_SG A D ∧ zz_G lv H O w h0 (i + 1) D ∧ ∀ ag16, f_X8_first_k16 (nI p) ag16 (nI (i + 1)) C = if zz_gt lv H O w p i = true then some (nI (i + 1), D) else ag16 (nI (i + 2)) D := by
    intro i hi hiJ C hC gC
    obtain ⟨D, d1, d2, d3⟩ := zz_goHours (N := 1) (mask := 63) ok hlv (hL.tr (zz_lwM.sc (hC.mono zz_SG_sc))) hw (by omega) gC (fun t _ _ => by
      rw [hO t]
      exact zz_ou_cong _ (fun q hq => by rw [hC.2 59 q rfl]))
    refine ⟨D, hC.tr d2, d3, fun ag16 => ?_⟩
    unfold f_X8_first_k16
    rw [if_neg (show ¬ (48 : Int32) < nI (i + 1) by rw [show (48 : Int32) = nI 48 from rfl, zz_lt (by decide) (by omega)]; omega), show (1 : Int32) = nI 1 from rfl, d1]
    simp only [zz_bPs]
    rw [zz_wetter8 (a := fun j => zz_wt lv H O w j (i + 1)) (b := w) d3.2.1 (fun j hj => (((hC.tr d2).2 61 j rfl).trans (h61 j hj))) (show p < 6 by omega)]
    simp only [zz_bPs, zz_let, zz_add]
    have v : ∀ m, m < 4 → zz_wt lv H O w (4 * p + m) (i + 1) = min 9999 (w (4 * p + m) + zz_dr lv H (O i) p m) := fun m hm => by
      show min 9999 (zz_wt lv H O w (4 * p + m) i + zz_dr lv H (O i) ((4 * p + m) / 4) ((4 * p + m) % 4)) = _
      rw [zz_wt_same hm (hw _ (by omega)) i (fun t ht => ng t (by omega) m hm), show (4 * p + m) / 4 = p by omega, show (4 * p + m) % 4 = m by omega]
    rw [zz_su4, zz_su4, v 0 (by decide), v 1 (by decide), v 2 (by decide), v 3 (by decide)]
    have b0 := hw (4 * p + 0) (by omega)
    have b1 := hw (4 * p + 1) (by omega)
    have b2 := hw (4 * p + 2) (by omega)
    have b3 := hw (4 * p + 3) (by omega)
    have e : ∀ x y : Nat, x ≤ 100000 → y ≤ 100000 → (nI x - nI y ≤ 0) = (x ≤ y) := fun x y hx hy => by
      rw [zz_leI, zz_t0, Int32.toInt_sub, nI_toInt (by omega), nI_toInt (by omega), Int.bmod_eq_of_le (by omega) (by omega)]
      exact propext ⟨fun h => by omega, fun h => by omega⟩
    by_cases c : zz_gt lv H O w p i = true
    · rw [if_pos c]
      obtain ⟨m, hm, hg⟩ := zz_gt_iff.1 c
      have hg2 := of_decide_eq_true hg
      rw [if_neg]
      rw [e _ _ (by omega) (by omega)]
      match m, hm with
      | 0, _ => omega
      | 1, _ => omega
      | 2, _ => omega
      | 3, _ => omega
    · rw [if_neg c, if_pos]
      rw [e _ _ (by omega) (by omega)]
      have z : ∀ m, m < 4 → ¬ (m < 4 ∧ w (4 * p + m) < 9999 ∧ 0 < zz_dr lv H (O i) p m) := fun m hm hh => c (zz_gt_iff.2 ⟨m, hm, decide_eq_true hh⟩)
      have z0 := z 0 (by decide)
      have z1 := z 1 (by decide)
      have z2 := z 2 (by decide)
      have z3 := z 3 (by decide)
      omega
  obtain ⟨t, ⟨C, rfl, fC, gC⟩, e⟩ := zz_for (fun (ag16 : Int32 × gx_Mem → Option (Int32 × gx_Mem)) (s : Int32 × gx_Mem) => f_X8_first_k16 (nI p) (fun v2 M => ag16 (v2, M)) s.1 s.2) (fun s => f_X8_first_k16 (nI p) (fun _ _ => none) s.1 s.2) (fun i s => ∃ C, s = (nI (i + 1), C) ∧ zz_fr zz_SG A C ∧ zz_G lv H O w h0 i C) J gx_fuel (by unfold gx_fuel; omega) (1, A) ⟨A, rfl, zz_fr.rf, g⟩ (fun i s hi hs => by
      obtain ⟨C, rfl, fC, gC⟩ := hs
      have hg := j3 i hi
      obtain ⟨D, d1, d2, d3⟩ := one i (by omega) (by omega) C fC gC
      refine ⟨(nI (i + 2), D), ⟨D, rfl, d1, d2⟩, fun ag => ?_⟩
      dsimp only
      rw [d3, if_neg (by intro e; simp [e] at hg)]) (fun s hs ag => by
      obtain ⟨C, rfl, fC, gC⟩ := hs
      dsimp only
      by_cases c : J < 48
      · obtain ⟨D, d1, d2, d3⟩ := one J c (Nat.le_refl _) C fC gC
        have : zz_gt lv H O w p J = true := by simp [c] at j2; exact j2
        rw [d3, d3, if_pos this, if_pos this]
      · have : J = 48 := by omega
        subst this
        unfold f_X8_first_k16
        rw [if_pos (show (48 : Int32) < nI (48 + 1) by decide), if_pos (show (48 : Int32) < nI (48 + 1) by decide)])
  by_cases c : J < 48
  · obtain ⟨D, d1, d2, d3⟩ := one J c (Nat.le_refl _) C fC gC
    have hg : zz_gt lv H O w p J = true := by simp [c] at j2; exact j2
    refine ⟨D, e.trans ?_, d1⟩
    dsimp only
    rw [d3, if_pos hg, if_pos c]
  · have : J = 48 := by omega
    subst this
    refine ⟨C, e.trans ?_, fC⟩
    dsimp only
    unfold f_X8_first_k16
    rw [if_pos (show (48 : Int32) < nI (48 + 1) by decide), if_neg c]

/-- what the flow at mark m may change -/
def zz_SF (m k i : Nat) : Bool := k == 74 || k == 75 || ((k == 80 || k == 81) && decide (24 * m ≤ i ∧ i < 24 * m + 24))
theorem zz_SF0 {m k i : Nat} (h1 : k ≠ 74) (h2 : k ≠ 75) (h3 : k ≠ 80) (h4 : k ≠ 81) : zz_SF m k i = false := by
  simp [zz_SF, h1, h2, h3, h4]
theorem zz_SFi {m k i : Nat} (h1 : k ≠ 74) (h2 : k ≠ 75) (h : ¬ (24 * m ≤ i ∧ i < 24 * m + 24)) : zz_SF m k i = false := by
  unfold zz_SF
  rw [decide_eq_false h]
  simp [h1, h2]
theorem zz_h8.fr {m : Nat} {M M2 : gx_Mem} {H : zz_hs} (h : zz_h8 M H) (f : zz_fr (zz_SF m) M M2) : zz_h8 M2 H := by
  obtain ⟨c1, c2, c3, c4, c5⟩ := h
  refine ⟨?_, fun p hp => ?_, fun p hp => ?_, fun p hp => ?_, ?_⟩
  · rw [f.2 57 1 (zz_SF0 (by decide) (by decide) (by decide) (by decide))]; exact c1
  · rw [f.2 76 p (zz_SF0 (by decide) (by decide) (by decide) (by decide))]; exact c2 p hp
  · rw [f.2 60 p (zz_SF0 (by decide) (by decide) (by decide) (by decide))]; exact c3 p hp
  · rw [f.2 77 p (zz_SF0 (by decide) (by decide) (by decide) (by decide))]; exact c4 p hp
  · rw [f.2 63 0 (zz_SF0 (by decide) (by decide) (by decide) (by decide))]; exact c5
theorem zz_lwM.fr {m : Nat} {M M2 : gx_Mem} (f : zz_fr (zz_SF m) M M2) : zz_lwM M M2 := by
  have e : ∀ q i, q ≠ 74 → q ≠ 75 → q ≠ 80 → q ≠ 81 → M2.1 q i = M.1 q i := fun q i h1 h2 h3 h4 => f.2 q i (zz_SF0 h1 h2 h3 h4)
  exact ⟨e _ _ (by decide) (by decide) (by decide) (by decide), fun i _ => ⟨e _ _ (by decide) (by decide) (by decide) (by decide), e _ _ (by decide) (by decide) (by decide) (by decide)⟩, e _ _ (by decide) (by decide) (by decide) (by decide), fun i _ => ⟨e _ _ (by decide) (by decide) (by decide) (by decide), e _ _ (by decide) (by decide) (by decide) (by decide)⟩⟩
theorem zz_flow52 {M : gx_Mem} {H : zz_hs} {o : Int32} (ok : zz_hok H) (hv : zz_h8 M H) (ho : M.1 57 28 = o) (ag3 : Int32 → gx_Mem → Option gx_Mem) {m f a0 : Nat} (hm : m < 4) (hf : f < 24) (ha : a0 ≤ 600) :
    f_X8_flow_l52 ag3 (nI m) (nI f) gx_fuel (nI a0) 0 0 M = gx_bI (f_X8_runOf (nI (a0 + zz_ad (zz_P H o f) (fun p => H.th (4 * p + m)) H.n)) (nI f) (nI m) (nI (zz_ct (zz_P H o f) H.n)) M) (fun y3 M4 => ag3 (nI f + (-1 : Int32)) (gx_sI M4 81 (24 * m + f) y3)) := by
  obtain ⟨o1, o2, o3, o4, o5⟩ := ok
  obtain ⟨c1, c2, c3, c4, c5⟩ := hv
  obtain ⟨s, hs, e⟩ := zz_for (fun (ag52 : Int32 × Int32 × Int32 × gx_Mem → Option gx_Mem) (s : Int32 × Int32 × Int32 × gx_Mem) => f_X8_flow_k52 ag3 (nI m) (nI f) (fun v3 v4 v5 M => ag52 (v3, v4, v5, M)) s.1 s.2.1 s.2.2.1 s.2.2.2)
    (fun s => gx_bI (f_X8_runOf s.1 (nI f) (nI m) s.2.1 M) (fun y3 M4 => ag3 (nI f + (-1 : Int32)) (gx_sI M4 81 (24 * m + f) y3)))
    (fun i s => s = (nI (a0 + zz_ad (zz_P H o f) (fun p => H.th (4 * p + m)) i), nI (zz_ct (zz_P H o f) i), nI i, M)) H.n gx_fuel (by unfold gx_fuel; omega) (nI a0, 0, 0, M) rfl (fun i s hi hs => by
      subst hs
      refine ⟨_, rfl, fun ag => ?_⟩
      dsimp only
      unfold f_X8_flow_k52 f_X8_flow_b104
      rw [c1, ho, zz_has8, zz_cl (show i < 2147483648 by omega), c2 i hi, show (4 : Int32) = nI 4 from rfl, zz_mul, zz_add, zz_cl (show 4 * i + m < 2147483648 by omega), c3 (4 * i + m) (by omega)]
      have hf2 := o2 i hi
      simp only [zz_le (show H.n < 2147483648 by omega) (show i < 2147483648 by omega), zz_let, zz_eq (show H.fl i < 2147483648 by omega) (show f < 2147483648 by omega), zz_bPs, zz_ifi, zz_gi (show 4 * i + m < 24 by omega) (show 24 < 2147483648 by decide), show (1 : Int32) = nI 1 from rfl, zz_add]
      rw [if_neg (by omega), zz_gi (show i < 6 by omega) (by decide)]
      rw [zz_adS, zz_ctS]
      cases e2 : zz_b o i with
      | false =>
        rw [show zz_P H o f i = false by unfold zz_P; rw [e2, Bool.and_false]]
        rfl
      | true =>
        rw [if_pos rfl]
        by_cases e1 : H.fl i = f
        · rw [if_pos e1, show zz_P H o f i = true by unfold zz_P; rw [e2, decide_eq_true e1]; rfl, if_pos rfl, if_pos rfl, Nat.add_assoc]
        · rw [if_neg e1, show zz_P H o f i = false by unfold zz_P; rw [decide_eq_false e1]; rfl]
          rfl) (fun s hs ag => by
      subst hs
      dsimp only
      unfold f_X8_flow_k52
      rw [c1, if_pos (nI_le (Nat.le_refl _) (by omega)), show (24 : Int32) = nI 24 from rfl, zz_mul, zz_add]
      simp only [zz_gi (show 24 * m + f < 96 by omega) (show 96 < 2147483648 by decide), zz_let, zz_cl (show 24 * m + f < 2147483648 by omega)])
  subst hs
  exact e
def zz_23 (t : Nat) : Int32 := Int32.ofInt (23 - (t : Int))
theorem zz_23n : ∀ t, t < 24 → zz_23 t = nI (23 - t) := by decide
theorem zz_23s : ∀ t, t < 24 → nI (23 - t) + (-1 : Int32) = zz_23 (t + 1) := by decide
/-- the flow of mark m stands in M -/
def zz_fw (lv : Nat → Nat → Nat → Nat → Nat → Nat → Nat) (H : zz_hs) (o : Int32) (m : Nat) (M : gx_Mem) (f0 : Nat) : Prop := ∀ f, f0 ≤ f → f < 24 → M.1 81 (24 * m + f) = nI (zz_R lv H o m (f / 8) (8 - f % 8)) ∧ M.1 80 (24 * m + f) = nI (zz_R lv H o m (f / 8) (7 - f % 8))
theorem zz_flow {M : gx_Mem} {H : zz_hs} {o : Int32} {lv : Nat → Nat → Nat → Nat → Nat → Nat → Nat} (ok : zz_hok H) (hv : zz_h8 M H) (ho : M.1 57 28 = o) (hlv : ∀ a w i f m n, lv a w i f m n ≤ a) (hL : zz_LM lv M) {m : Nat} (hm : m < 4) :
    ∃ M2, f_X8_flow (nI m) M = some M2 ∧ zz_fr (zz_SF m) M M2 ∧ zz_fw lv H o m M2 0 := by
  obtain ⟨t, ⟨M2, rfl, hf, hw⟩, e⟩ := zz_for (fun (ag3 : Int32 × gx_Mem → Option gx_Mem) (s : Int32 × gx_Mem) => f_X8_flow_k3 (nI m) (fun v2 M => ag3 (v2, M)) s.1 s.2) (fun s => some s.2) (fun t s => ∃ M', s = (zz_23 t, M') ∧ zz_fr (zz_SF m) M M' ∧ zz_fw lv H o m M' (24 - t)) 24 gx_fuel (by decide) (23, M) ⟨M, rfl, zz_fr.rf, fun f h1 h2 => by omega⟩ (fun t s ht hs => by
      obtain ⟨M', rfl, hf, hw⟩ := hs
      generalize hx : 23 - t = x at *
      have hx24 : x < 24 := by omega
      have hn6 := ok.1
      -- what comes from above
      have hk3 : ∀ ag, f_X8_flow_k3 (nI m) ag (zz_23 t) M' = f_X8_flow_b33 ag (nI m) (nI x) (nI (zz_R lv H o m (x / 8) (7 - x % 8))) M' := by
        intro ag
        unfold f_X8_flow_k3
        rw [zz_23n t ht, hx, if_neg (nI_pos (show x < 2147483648 by omega)), show (8 : Int32) = nI 8 from rfl, zz_rem (by omega) (by decide) (by decide), show (7 : Int32) = nI 7 from rfl, show (24 : Int32) = nI 24 from rfl, show (1 : Int32) = nI 1 from rfl, zz_mul, zz_add, zz_add]
        simp only [zz_eq (show x % 8 < 2147483648 by omega) (show 7 < 2147483648 by decide)]
        by_cases h7 : x % 8 = 7
        · rw [if_pos h7, h7]; rfl
        · have := (hw (x + 1) (by omega) (by omega)).1
          rw [if_neg h7, zz_gi (show 24 * m + x + 1 < 96 by omega) (by decide), zz_cl (show 24 * m + x + 1 < 2147483648 by omega), Nat.add_assoc, this, show (x + 1) / 8 = x / 8 by omega, show 8 - (x + 1) % 8 = 7 - x % 8 by omega]
      generalize hA : gx_sI M' 80 (24 * m + x) (nI (zz_R lv H o m (x / 8) (7 - x % 8))) = A
      have hfA : zz_fr (zz_SF m) M A := by
        rw [← hA]
        exact hf.sI (by simp [zz_SF]; omega)
      have hR := zz_R_le hlv ok o hm (x / 8) (7 - x % 8)
      have hb := zz_ad_le (P := zz_P H o x) (t := fun p => H.th (4 * p + m)) H.n (fun i hi => ok.2.2.1 _ (by omega))
      have hvA := hv.fr hfA
      obtain ⟨B, l1, l2⟩ := hL A (zz_lwM.fr hfA) (zz_R lv H o m (x / 8) (7 - x % 8) + zz_ad (zz_P H o x) (fun p => H.th (4 * p + m)) H.n) (H.aw x) H.ir x m (zz_ct (zz_P H o x) H.n) (by omega) (ok.2.2.2.1 _ hx24) ok.2.2.2.2 hx24 hm (by have := zz_ct_le (zz_P H o x) H.n; omega) (hvA.2.2.2.1 x hx24) hvA.2.2.2.2
      have hval : lv (zz_R lv H o m (x / 8) (7 - x % 8) + zz_ad (zz_P H o x) (fun p => H.th (4 * p + m)) H.n) (H.aw x) H.ir (x % 8) m (zz_ct (zz_P H o x) H.n) = zz_R lv H o m (x / 8) (8 - x % 8) := by
        rw [show 8 - x % 8 = 7 - x % 8 + 1 by omega]
        conv => rhs; unfold zz_R
        rw [show 7 - (7 - x % 8) = x % 8 by omega, show 8 * (x / 8) + x % 8 = x by omega]
      rw [hval] at l1
      have hfB : zz_fr (zz_SF m) M B := hfA.tr (l2.mono (fun k i hk => by simp [zz_S745] at hk; simp [zz_SF]; omega))
      refine ⟨(zz_23 (t + 1), gx_sI B 81 (24 * m + x) (nI (zz_R lv H o m (x / 8) (8 - x % 8)))), ⟨_, rfl, hfB.sI (by simp [zz_SF]; omega), ?_⟩, fun ag => ?_⟩
      · have b80 : ∀ i, B.1 80 i = A.1 80 i := fun i => l2.2 80 i rfl
        have b81 : ∀ i, B.1 81 i = A.1 81 i := fun i => l2.2 81 i rfl
        intro f h1 h2
        rw [zz_sI1, zz_sI1, if_neg (show ¬ (80 = 81 ∧ 24 * m + f = 24 * m + x) by omega), b80, b81, ← hA, zz_sI1, zz_sI1, if_neg (show ¬ (81 = 80 ∧ 24 * m + f = 24 * m + x) by omega)]
        by_cases ef : f = x
        · subst ef
          rw [if_pos ⟨rfl, rfl⟩, if_pos ⟨rfl, rfl⟩]
          exact ⟨rfl, rfl⟩
        · rw [if_neg (by omega), if_neg (by omega)]
          exact hw f (by omega) h2
      · dsimp only
        rw [hk3]
        unfold f_X8_flow_b33
        rw [show (24 : Int32) = nI 24 from rfl, zz_mul, zz_add, zz_gi (show 24 * m + x < 96 by omega) (by decide), zz_let, zz_cl (show 24 * m + x < 2147483648 by omega), hA, zz_flow52 ok hvA ((hfA.2 57 28 (zz_SF0 (by decide) (by decide) (by decide) (by decide))).trans ho) _ hm hx24 (by omega), l1, zz_bIs, ← hx, zz_23s t ht, hx]) (fun s hs ag => by
      obtain ⟨M', rfl, hf, hw⟩ := hs
      rfl)
  exact ⟨M2, e, hf, fun f _ h => hw f (by omega) h⟩

/-! THE FLOW: what runs down a stack, on both sides -/
/-- is i in the set x? -/
def zz_b (x : Int32) (i : Nat) : Bool := decide (gx_shr x (nI i) &&& 1 = (1 : Int32))
theorem zz_and1 (y : Int32) : y &&& 1 = 0 ∨ y &&& 1 = 1 := by
  cases h : y.toBitVec.getLsbD 0 with
  | false =>
    left
    apply Int32.toBitVec_inj.1
    apply BitVec.eq_of_getLsbD_eq
    intro i hi
    match i with
    | 0 =>
      rw [Int32.toBitVec_and, BitVec.getLsbD_and, h]; rfl
    | i + 1 => simp [Int32.toBitVec_and]
  | true =>
    right
    apply Int32.toBitVec_inj.1
    apply BitVec.eq_of_getLsbD_eq
    intro i hi
    match i with
    | 0 => simp [Int32.toBitVec_and, h]
    | i + 1 => simp [Int32.toBitVec_and]
theorem zz_b01 (x : Int32) (i : Nat) : gx_shr x (nI i) &&& 1 = zz_i (zz_b x i) := by
  unfold zz_b
  rcases zz_and1 (gx_shr x (nI i)) with h | h
  · rw [h]; rfl
  · rw [h]; rfl
theorem zz_has8 (x : Int32) (i : Nat) (M : gx_Mem) : f_X8_has x (nI i) M = some (zz_i (zz_b x i)) := by
  unfold f_X8_has
  rw [zz_b01]
  cases zz_b x i <;> rfl
/-- those of P among the first n, and what they think in all -/
def zz_ct (P : Nat → Bool) : Nat → Nat
  | 0 => 0
  | n + 1 => zz_ct P n + (if P n = true then 1 else 0)
def zz_ad (P : Nat → Bool) (t : Nat → Nat) : Nat → Nat
  | 0 => 0
  | n + 1 => zz_ad P t n + (if P n = true then t n else 0)
theorem zz_ctS (P : Nat → Bool) (n : Nat) : zz_ct P (n + 1) = zz_ct P n + (if P n = true then 1 else 0) := rfl
theorem zz_adS (P : Nat → Bool) (t : Nat → Nat) (n : Nat) : zz_ad P t (n + 1) = zz_ad P t n + (if P n = true then t n else 0) := rfl
theorem zz_ct_le (P : Nat → Bool) : ∀ n, zz_ct P n ≤ n
  | 0 => Nat.le_refl _
  | n + 1 => by
    have := zz_ct_le P n
    unfold zz_ct
    split <;> omega
theorem zz_ad_le {P : Nat → Bool} {t : Nat → Nat} : ∀ n, (∀ i, i < n → t i ≤ 9) → zz_ad P t n ≤ 9 * n
  | 0, _ => Nat.le_refl _
  | n + 1, h => by
    have := zz_ad_le (P := P) n (fun i hi => h i (by omega))
    have := h n (by omega)
    unfold zz_ad
    split <;> omega
/-- a house as the flow sees it -/
def zz_hs : Type := Nat × (Nat → Nat) × (Nat → Nat) × (Nat → Nat) × Nat
def zz_hs.n (H : zz_hs) : Nat := H.1
def zz_hs.fl (H : zz_hs) : Nat → Nat := H.2.1
def zz_hs.th (H : zz_hs) : Nat → Nat := H.2.2.1
def zz_hs.aw (H : zz_hs) : Nat → Nat := H.2.2.2.1
def zz_hs.ir (H : zz_hs) : Nat := H.2.2.2.2
def zz_P (H : zz_hs) (o : Int32) (f p : Nat) : Bool := decide (H.fl p = f) && zz_b o p
/-- what runs on from the j topmost flats of stack s at mark m with o out -/
def zz_R (lv : Nat → Nat → Nat → Nat → Nat → Nat → Nat) (H : zz_hs) (o : Int32) (m s : Nat) : Nat → Nat
  | 0 => 0
  | j + 1 => lv (zz_R lv H o m s j + zz_ad (zz_P H o (8 * s + (7 - j))) (fun p => H.th (4 * p + m)) H.n) (H.aw (8 * s + (7 - j))) H.ir (7 - j) m (zz_ct (zz_P H o (8 * s + (7 - j))) H.n)
def zz_hok (H : zz_hs) : Prop := H.n ≤ 6 ∧ (∀ p, p < H.n → H.fl p < 24) ∧ (∀ i, i < 24 → H.th i ≤ 9) ∧ (∀ i, i < 24 → H.aw i ≤ 9) ∧ H.ir ≤ 9
/-- the class's house at k is H -/
def zz_h7 (k : Nat) (M : gx_Mem) (H : zz_hs) : Prop := M.1 k 7 = nI H.n ∧ (∀ p, p < H.n → M.1 (k + 1) p = nI (H.fl p)) ∧ (∀ i, i < 24 → M.1 (k + 3) i = nI (H.th i)) ∧ (∀ i, i < 24 → M.1 (k + 5) i = nI (H.aw i)) ∧ M.1 k 8 = nI H.ir
/-- the model's house is H -/
def zz_h8 (M : gx_Mem) (H : zz_hs) : Prop := M.1 57 1 = nI H.n ∧ (∀ p, p < H.n → M.1 76 p = nI (H.fl p)) ∧ (∀ i, i < 24 → M.1 60 i = nI (H.th i)) ∧ (∀ i, i < 24 → M.1 77 i = nI (H.aw i)) ∧ M.1 63 0 = nI H.ir
/-- the class's law is lv -/
def zz_LC (lv : Nat → Nat → Nat → Nat → Nat → Nat → Nat) (M : gx_Mem) : Prop := ∀ M1 : gx_Mem, zz_lwC M M1 → ∀ a w i f m n : Nat, a ≤ 1000 → w ≤ 9 → i ≤ 9 → f < 8 → m < 4 → n ≤ 6 → ∃ M2, f_X3_lets (nI a) (nI w) (nI i) (nI f) (nI m) (nI n) M1 = some (nI (lv a w i f m n), M2) ∧ zz_fr zz_S34 M1 M2
def zz_LM (lv : Nat → Nat → Nat → Nat → Nat → Nat → Nat) (M : gx_Mem) : Prop := ∀ M1 : gx_Mem, zz_lwM M M1 → ∀ a w i f m n : Nat, a ≤ 1000 → w ≤ 9 → i ≤ 9 → f < 24 → m < 4 → n ≤ 6 → M1.1 77 f = nI w → M1.1 63 0 = nI i → ∃ M2, f_X8_runOf (nI a) (nI f) (nI m) (nI n) M1 = some (nI (lv a w i (f % 8) m n), M2) ∧ zz_fr zz_S745 M1 M2
theorem zz_R_le {lv : Nat → Nat → Nat → Nat → Nat → Nat → Nat} (hlv : ∀ a w i f m n, lv a w i f m n ≤ a) {H : zz_hs} (h : zz_hok H) (o : Int32) {m : Nat} (hm : m < 4) (s : Nat) : ∀ j, zz_R lv H o m s j ≤ 54 * j
  | 0 => Nat.le_refl _
  | j + 1 => by
    have h1 := zz_R_le hlv h o hm s j
    have h2 := zz_ad_le (P := zz_P H o (8 * s + (7 - j))) (t := fun p => H.th (4 * p + m)) H.n (fun i hi => h.2.2.1 _ (by have := h.1; omega))
    have h3 := h.1
    have h4 := hlv (zz_R lv H o m s j + zz_ad (zz_P H o (8 * s + (7 - j))) (fun p => H.th (4 * p + m)) H.n) (H.aw (8 * s + (7 - j))) H.ir (7 - j) m (zz_ct (zz_P H o (8 * s + (7 - j))) H.n)
    unfold zz_R
    omega
theorem zz_reach33 {k : Nat} {M : gx_Mem} {H : zz_hs} (ok : zz_hok H) (hv : zz_h7 k M H) (ag7 : Int32 → Int32 → gx_Mem → Option (Int32 × gx_Mem)) (v1 v2 v4 v6 : Int32) {m fx a0 : Nat} (hm : m < 4) (hfx : fx < 24) (ha : a0 ≤ 600) :
    f_X2_reaches_l33 k ag7 v1 v2 (nI m) v4 v6 (nI fx) gx_fuel (nI a0) 0 0 M = (if a0 + zz_ad (zz_P H v4 fx) (fun p => H.th (4 * p + m)) H.n = 0 then f_X2_reaches_b123 k ag7 v1 v2 (nI m) v4 v6 0 M else gx_bI (f_X3_lets (nI (a0 + zz_ad (zz_P H v4 fx) (fun p => H.th (4 * p + m)) H.n)) (nI (H.aw fx)) (nI H.ir) v6 (nI m) (nI (zz_ct (zz_P H v4 fx) H.n)) M) (fun y3 M4 => f_X2_reaches_b123 k ag7 v1 v2 (nI m) v4 v6 y3 M4)) := by
  obtain ⟨o1, o2, o3, o4, o5⟩ := ok
  obtain ⟨c1, c2, c3, c4, c5⟩ := hv
  obtain ⟨s, hs, e⟩ := zz_for (fun (ag33 : Int32 × Int32 × Int32 × gx_Mem → Option (Int32 × gx_Mem)) (s : Int32 × Int32 × Int32 × gx_Mem) => f_X2_reaches_k33 k ag7 v1 v2 (nI m) v4 v6 (nI fx) (fun v5 v8 v9 M => ag33 (v5, v8, v9, M)) s.1 s.2.1 s.2.2.1 s.2.2.2)
    (fun s => if s.1 = 0 then f_X2_reaches_b123 k ag7 v1 v2 (nI m) v4 v6 0 M else gx_bI (f_X3_lets s.1 (nI (H.aw fx)) (nI H.ir) v6 (nI m) s.2.1 M) (fun y3 M4 => f_X2_reaches_b123 k ag7 v1 v2 (nI m) v4 v6 y3 M4))
    (fun i s => s = (nI (a0 + zz_ad (zz_P H v4 fx) (fun p => H.th (4 * p + m)) i), nI (zz_ct (zz_P H v4 fx) i), nI i, M)) H.n gx_fuel (by unfold gx_fuel; omega) (nI a0, 0, 0, M) rfl (fun i s hi hs => by
      subst hs
      refine ⟨_, rfl, fun ag => ?_⟩
      dsimp only
      unfold f_X2_reaches_k33 f_X2_reaches_b83
      rw [c1, zz_cl (show i < 2147483648 by omega), c2 i hi, zz_b01, show (4 : Int32) = nI 4 from rfl, zz_mul, zz_add, show i * 4 + m = 4 * i + m by omega, zz_cl (show 4 * i + m < 2147483648 by omega), c3 (4 * i + m) (by omega)]
      have hf := o2 i hi
      simp only [zz_le (show H.n < 2147483648 by omega) (show i < 2147483648 by omega), zz_let, zz_eq (show H.fl i < 2147483648 by omega) (show fx < 2147483648 by omega), zz_ifi, zz_gi (show 4 * i + m < 24 by omega) (show 24 < 2147483648 by decide), show (1 : Int32) = nI 1 from rfl, zz_add]
      rw [if_neg (by omega), zz_gi (show i < 6 by omega) (by decide)]
      rw [zz_adS, zz_ctS]
      by_cases e1 : H.fl i = fx
      · rw [if_pos e1]
        cases e2 : zz_b v4 i with
        | false =>
          rw [show zz_P H v4 fx i = false by unfold zz_P; rw [e2, Bool.and_false]]
          rfl
        | true =>
          rw [show zz_P H v4 fx i = true by unfold zz_P; rw [e2, decide_eq_true e1]; rfl]
          rw [if_pos rfl, if_pos rfl, if_pos rfl, Nat.add_assoc]
      · rw [if_neg e1, show zz_P H v4 fx i = false by unfold zz_P; rw [decide_eq_false e1]; rfl]
        rfl) (fun s hs ag => by
      subst hs
      dsimp only
      unfold f_X2_reaches_k33
      rw [c1, if_pos (nI_le (Nat.le_refl _) (by omega)), zz_gi hfx (by decide), zz_cl (show fx < 2147483648 by omega), c4 fx hfx, c5])
  subst hs
  have hb := zz_ad_le (P := zz_P H v4 fx) (t := fun p => H.th (4 * p + m)) H.n (fun i hi => o3 _ (by omega))
  refine e.trans ?_
  dsimp only
  rw [show (0 : Int32) = nI 0 from rfl]
  simp only [zz_eq (show a0 + zz_ad (zz_P H v4 fx) (fun p => H.th (4 * p + m)) H.n < 2147483648 by omega) (show 0 < 2147483648 by decide)]
/-- the number of the flat in its stack after j flats -/
def zz_7 (j : Nat) : Int32 := Int32.ofInt (7 - (j : Int))
theorem zz_7t : ∀ j, j < 9 → (zz_7 j).toInt = 7 - (j : Int) := by decide
theorem zz_7n : ∀ j, j < 8 → zz_7 j = nI (7 - j) := by decide
theorem zz_7s : ∀ j, j < 8 → zz_7 j + (-1 : Int32) = zz_7 (j + 1) := by decide
theorem zz_lwC.fr {M M2 : gx_Mem} (h : zz_fr zz_S34 M M2) : zz_lwC M M2 := ⟨h.2 0 4 rfl, fun i _ => h.2 1 i rfl, fun i _ => h.2 2 i rfl⟩
theorem zz_h7.fr {k : Nat} {M M2 : gx_Mem} {H : zz_hs} (hk : 5 ≤ k) (h : zz_h7 k M H) (f : zz_fr zz_S34 M M2) : zz_h7 k M2 H := by
  have e : ∀ q i, 5 ≤ q → M2.1 q i = M.1 q i := fun q i hq => f.2 q i (by simp [zz_S34]; omega)
  obtain ⟨c1, c2, c3, c4, c5⟩ := h
  exact ⟨by rw [e _ _ (by omega)]; exact c1, fun p hp => by rw [e _ _ (by omega)]; exact c2 p hp, fun p hp => by rw [e _ _ (by omega)]; exact c3 p hp, fun p hp => by rw [e _ _ (by omega)]; exact c4 p hp, by rw [e _ _ (by omega)]; exact c5⟩
theorem zz_reach {k : Nat} {M : gx_Mem} {H : zz_hs} {lv : Nat → Nat → Nat → Nat → Nat → Nat → Nat} (hk : 5 ≤ k) (ok : zz_hok H) (hv : zz_h7 k M H) (hlv : ∀ a w i f m n, lv a w i f m n ≤ a) (hL : zz_LC lv M) (o : Int32) {m s J : Nat} (hm : m < 4) (hs : s < 3) (hJ : J ≤ 8) {v2 : Int32} (h2 : v2.toInt = 7 - (J : Int)) :
    ∃ M2, f_X2_reaches k (nI s) v2 (nI m) o M = some (nI (zz_R lv H o m s J), M2) ∧ zz_fr zz_S34 M M2 := by
  obtain ⟨t, ⟨M2, rfl, hf⟩, e⟩ := zz_for (fun (ag7 : Int32 × Int32 × gx_Mem → Option (Int32 × gx_Mem)) (s2 : Int32 × Int32 × gx_Mem) => f_X2_reaches_k7 k (nI s) v2 (nI m) o (fun v5 v6 M => ag7 (v5, v6, M)) s2.1 s2.2.1 s2.2.2) (fun s2 => some (s2.1, s2.2.2)) (fun j s2 => ∃ M', s2 = (nI (zz_R lv H o m s j), zz_7 j, M') ∧ zz_fr zz_S34 M M') J gx_fuel (by unfold gx_fuel; omega) (0, 7, M) ⟨M, rfl, zz_fr.rf⟩ (fun j s2 hj hs2 => by
      obtain ⟨M', rfl, hf⟩ := hs2
      have hv' := hv.fr hk hf
      have hR := zz_R_le hlv ok o hm s j
      have hb := zz_ad_le (P := zz_P H o (8 * s + (7 - j))) (t := fun p => H.th (4 * p + m)) H.n (fun i hi => ok.2.2.1 _ (by have := ok.1; omega))
      have hn6 := ok.1
      obtain ⟨M3, l1, l2⟩ := hL M' (zz_lwC.fr hf) (zz_R lv H o m s j + zz_ad (zz_P H o (8 * s + (7 - j))) (fun p => H.th (4 * p + m)) H.n) (H.aw (8 * s + (7 - j))) H.ir (7 - j) m (zz_ct (zz_P H o (8 * s + (7 - j))) H.n) (by omega) (ok.2.2.2.1 _ (by omega)) ok.2.2.2.2 (by omega) hm (by have := zz_ct_le (zz_P H o (8 * s + (7 - j))) H.n; omega)
      have key : ∀ ag, f_X2_reaches_k7 k (nI s) v2 (nI m) o ag (nI (zz_R lv H o m s j)) (zz_7 j) M' = if zz_R lv H o m s j + zz_ad (zz_P H o (8 * s + (7 - j))) (fun p => H.th (4 * p + m)) H.n = 0 then ag 0 (zz_7 (j + 1)) M' else ag (nI (zz_R lv H o m s (j + 1))) (zz_7 (j + 1)) M3 := by
        intro ag
        unfold f_X2_reaches_k7
        rw [if_neg (by rw [zz_leI, h2, zz_7t j (by omega)]; omega), if_neg (by rw [zz_ltI, zz_7t j (by omega), zz_t0]; omega), zz_7n j (by omega), zz_let, show (8 : Int32) = nI 8 from rfl, zz_mul, zz_add, show s * 8 + (7 - j) = 8 * s + (7 - j) by omega, zz_reach33 ok hv' ag (nI s) v2 o (nI (7 - j)) hm (by omega) (by omega)]
        unfold f_X2_reaches_b123
        simp only [zz_let]
        rw [← zz_7n j (by omega), zz_7s j (by omega), zz_7n j (by omega), l1]
        rfl
      by_cases h0 : zz_R lv H o m s j + zz_ad (zz_P H o (8 * s + (7 - j))) (fun p => H.th (4 * p + m)) H.n = 0
      · refine ⟨_, ⟨M', rfl, hf⟩, fun ag => ?_⟩
        dsimp only
        rw [key, if_pos h0]
        have : zz_R lv H o m s (j + 1) = 0 := by
          unfold zz_R
          have := hlv (zz_R lv H o m s j + zz_ad (zz_P H o (8 * s + (7 - j))) (fun p => H.th (4 * p + m)) H.n) (H.aw (8 * s + (7 - j))) H.ir (7 - j) m (zz_ct (zz_P H o (8 * s + (7 - j))) H.n)
          omega
        rw [this]
        rfl
      · refine ⟨_, ⟨M3, rfl, hf.tr l2⟩, fun ag => ?_⟩
        dsimp only
        rw [key, if_neg h0]) (fun s2 hs2 ag => by
      obtain ⟨M', rfl, hf⟩ := hs2
      dsimp only
      unfold f_X2_reaches_k7
      rw [if_pos (by rw [zz_leI, h2, zz_7t J (by omega)]; omega)])
  exact ⟨M2, e, hf⟩

/-! a house with awnings of a stack put out; the class's other house -/
theorem zz_lk23_fr (M : gx_Mem) : zz_fr zz_sc M (zz_lk 23 9 M) := by
  refine ⟨rfl, fun k i hk => ?_⟩
  unfold zz_lk
  rw [zz_sI1, if_neg (by rintro ⟨rfl, -⟩; cases hk), zz_sI1, if_neg (by rintro ⟨rfl, -⟩; cases hk), zz_sI1, if_neg (by rintro ⟨rfl, -⟩; cases hk), zz_ov1, if_neg (by rintro ⟨rfl, -⟩; cases hk), zz_ov1, if_neg (by rintro ⟨rfl, -⟩; cases hk), zz_ov1, if_neg (by rintro ⟨rfl, -⟩; cases hk), zz_ov1, if_neg (by rintro ⟨rfl, -⟩; cases hk), zz_ov1, if_neg (by rintro ⟨rfl, -⟩; cases hk), zz_ov1, if_neg (by rintro ⟨rfl, -⟩; cases hk)]
theorem zz_lk23_hw {M : gx_Mem} (h : zz_IH M) : zz_hw 23 (zz_lk 23 9 M) (zz_H M) (zz_W M) (zz_Q M) := by
  obtain ⟨ok, c1, c2, c3, c4, c5⟩ := zz_Hok h
  have h6 := ok.1
  have e1 : (zz_lk 23 9 M).1 23 7 = M.1 9 7 := by unfold zz_lk; simp [zz_sI1, zz_ov1]
  have e2 : ∀ p, p < 6 → (zz_lk 23 9 M).1 (23 + 1) p = M.1 10 p := fun p hp => by unfold zz_lk; simp [zz_sI1, zz_ov1, hp]
  have e3 : ∀ p, p < 24 → (zz_lk 23 9 M).1 (23 + 3) p = M.1 12 p := fun p hp => by unfold zz_lk; simp [zz_sI1, zz_ov1, hp]
  have e4 : ∀ p, p < 24 → (zz_lk 23 9 M).1 (23 + 5) p = M.1 14 p := fun p hp => by unfold zz_lk; simp [zz_sI1, zz_ov1, hp]
  have e5 : (zz_lk 23 9 M).1 23 8 = M.1 9 8 := by unfold zz_lk; simp [zz_sI1, zz_ov1]
  have e6 : ∀ p, p < 24 → (zz_lk 23 9 M).1 (23 + 4) p = M.1 13 p := fun p hp => by unfold zz_lk; simp [zz_sI1, zz_ov1, hp]
  have e7 : ∀ p, p < 6 → (zz_lk 23 9 M).1 (23 + 2) p = M.1 11 p := fun p hp => by unfold zz_lk; simp [zz_sI1, zz_ov1, hp]
  refine ⟨⟨e1.trans c1, fun p hp => (e2 p (by omega)).trans (c2 p hp), fun i hi => (e3 i hi).trans (c3 i hi), fun i hi => (e4 i hi).trans (c4 i hi), e5.trans c5⟩, fun j hj => ?_, fun i hi t ht => ?_⟩
  · rw [e6 j hj]
    exact ⟨(zz_Wok h hj).1, (zz_Wok h hj).2.1⟩
  · rw [e7 i (by omega)]; rfl
def zz_ha (H : zz_hs) (s x : Nat) : zz_hs := (H.n, H.fl, H.th, fun j => if j / 8 = s ∧ zz_b (nI x) (j % 8) = true then 9 else H.aw j, H.ir)
theorem zz_ha_aw (H : zz_hs) (s x j : Nat) : (zz_ha H s x).aw j = if j / 8 = s ∧ zz_b (nI x) (j % 8) = true then 9 else H.aw j := rfl
theorem zz_ha_ok {H : zz_hs} (ok : zz_hok H) (s x : Nat) : zz_hok (zz_ha H s x) := by
  obtain ⟨a, b, c, d, e⟩ := ok
  refine ⟨a, b, c, fun i hi => ?_, e⟩
  rw [zz_ha_aw]
  split
  · exact Nat.le_refl _
  · exact d i hi
theorem zz_b8_0 : ∀ i, i < 8 → zz_b (nI 0) i = false := by decide
theorem zz_ha_0 (H : zz_hs) (s : Nat) {j : Nat} : (zz_ha H s 0).aw j = H.aw j := by
  rw [zz_ha_aw, if_neg]
  rintro ⟨-, h⟩
  rw [zz_b8_0 _ (Nat.mod_lt _ (by decide))] at h
  cases h
theorem zz_ha_out (H : zz_hs) {s j : Nat} (x y : Nat) (h : j / 8 ≠ s) : (zz_ha H s x).aw j = (zz_ha H s y).aw j := by
  rw [zz_ha_aw, zz_ha_aw, if_neg (fun q => h q.1), if_neg (fun q => h q.1)]
theorem zz_hw.ha0 {k : Nat} {M : gx_Mem} {H : zz_hs} {w : Nat → Nat} {Q : Nat → Nat → Bool} (s : Nat) (h : zz_hw k M H w Q) : zz_hw k M (zz_ha H s 0) w Q := by
  obtain ⟨⟨c1, c2, c3, c4, c5⟩, h2, h3⟩ := h
  exact ⟨⟨c1, c2, c3, fun i hi => by rw [zz_ha_0]; exact c4 i hi, c5⟩, h2, h3⟩
theorem zz_ha_n (H : zz_hs) (s x : Nat) : (zz_ha H s x).n = H.n := rfl
theorem zz_ha_fl (H : zz_hs) (s x : Nat) : (zz_ha H s x).fl = H.fl := rfl
theorem zz_ha_th (H : zz_hs) (s x : Nat) : (zz_ha H s x).th = H.th := rfl
theorem zz_ha_ir (H : zz_hs) (s x : Nat) : (zz_ha H s x).ir = H.ir := rfl
theorem zz_hw.ofa {M M2 : gx_Mem} {H : zz_hs} {w : Nat → Nat} {Q : Nat → Nat → Bool} {s x y : Nat} (v : zz_hw 23 M (zz_ha H s x) w Q) (f2 : zz_fr (fun k _ => k == 28) M M2) (g : ∀ j, j < 24 → M2.1 28 j = nI ((zz_ha H s y).aw j)) : zz_hw 23 M2 (zz_ha H s y) w Q := by
  unfold zz_hw zz_h7 at v ⊢
  rw [zz_ha_n, zz_ha_fl, zz_ha_th, zz_ha_ir] at v ⊢
  obtain ⟨⟨c1, c2, c3, c4, c5⟩, h2, h3⟩ := v
  exact ⟨⟨(f2.2 23 7 rfl).trans c1, fun p hp => (f2.2 (23 + 1) p rfl).trans (c2 p hp), fun p hp => (f2.2 (23 + 3) p rfl).trans (c3 p hp), g, (f2.2 23 8 rfl).trans c5⟩, fun j hj => by rw [f2.2 (23 + 4) j rfl]; exact h2 j hj, fun i hi t ht => by rw [f2.2 (23 + 2) i rfl]; exact h3 i hi t ht⟩
theorem zz_spreadK {M : gx_Mem} {H : zz_hs} {s f : Nat} (hs : s < 3) (hf : f < 8) (y : Nat) (h14 : M.1 14 (8 * s + f) = nI (H.aw (8 * s + f))) (ag : Int32 → gx_Mem → Option gx_Mem) : f_X4_spread_k2 (nI s) (nI y) ag (nI f) M = ag (nI (f + 1)) (gx_sI M 28 (8 * s + f) (nI ((zz_ha H s y).aw (8 * s + f)))) := by
  have hx : 8 * s + f < 24 := by omega
  unfold f_X4_spread_k2 f_X4_spread_b48
  rw [if_neg (show ¬ (8 : Int32) ≤ nI f by rw [show (8 : Int32) = nI 8 from rfl, zz_le (by decide) (by omega)]; omega), zz_let, show (8 : Int32) = nI 8 from rfl, zz_mul, zz_add, show s * 8 + f = 8 * s + f by omega, zz_b01, zz_gi hx (by decide), zz_cl (show 8 * s + f < 2147483648 by omega), h14]
  simp only [zz_ifi, zz_gi hx (show 24 < 2147483648 by decide), zz_let, show nI f + 1 = nI (f + 1) from zz_add f 1]
  rw [zz_ha_aw, show (8 * s + f) / 8 = s by omega, show (8 * s + f) % 8 = f by omega]
  cases hb : zz_b (nI y) f with
  | false => rw [if_neg (by decide), if_neg (by rintro ⟨-, q⟩; cases q)]
  | true => rw [if_pos rfl, if_pos ⟨rfl, rfl⟩]; rfl
theorem zz_spread {M : gx_Mem} {H : zz_hs} {w : Nat → Nat} {Q : Nat → Nat → Bool} {s x : Nat} (hs : s < 3) (v : zz_hw 23 M (zz_ha H s x) w Q) (h14 : ∀ j, j < 24 → M.1 14 j = nI (H.aw j)) (y : Nat) :
    ∃ M2, f_X4_spread (nI s) (nI y) M = some M2 ∧ zz_fr (fun k _ => k == 28) M M2 ∧ zz_hw 23 M2 (zz_ha H s y) w Q := by
  have c4 := v.1.2.2.2.1
  obtain ⟨t, ⟨M2, rfl, f2, g2⟩, e⟩ := zz_for (fun (ag2 : Int32 × gx_Mem → Option gx_Mem) (t : Int32 × gx_Mem) => f_X4_spread_k2 (nI s) (nI y) (fun v3 M => ag2 (v3, M)) t.1 t.2) (fun t => some t.2) (fun f t => ∃ M', t = (nI f, M') ∧ zz_fr (fun k _ => k == 28) M M' ∧ ∀ j, j < 24 → M'.1 28 j = nI (if j / 8 = s ∧ j % 8 < f then (zz_ha H s y).aw j else (zz_ha H s x).aw j)) 8 gx_fuel (by decide) (0, M) ⟨M, rfl, zz_fr.rf, fun j hj => by rw [if_neg (by omega)]; exact c4 j hj⟩ (fun f t hf ht => by
      obtain ⟨M', rfl, fM, gM⟩ := ht
      have hx : 8 * s + f < 24 := by omega
      refine ⟨(nI (f + 1), gx_sI M' 28 (8 * s + f) (nI ((zz_ha H s y).aw (8 * s + f)))), ⟨_, rfl, fM.sI rfl, fun j hj => ?_⟩, fun ag => ?_⟩
      · rw [zz_sI1]
        by_cases c : j = 8 * s + f
        · rw [if_pos ⟨rfl, c⟩, if_pos (by omega), c]
        · rw [if_neg (by omega), gM j hj]
          by_cases c2 : j / 8 = s ∧ j % 8 < f
          · rw [if_pos c2, if_pos (by omega)]
          · rw [if_neg c2, if_neg (by omega)]
      · exact zz_spreadK hs hf y (by rw [fM.2 14 _ rfl]; exact h14 _ hx) _) (fun t ht ag => by
      obtain ⟨M', rfl, fM, gM⟩ := ht
      rfl)
  refine ⟨M2, e, f2, v.ofa f2 (fun j hj => ?_)⟩
  rw [g2 j hj]
  by_cases c : j / 8 = s
  · rw [if_pos ⟨c, by omega⟩]
  · rw [if_neg (fun q => c q.1), zz_ha_out H x y c]
/-! how many bits -/
def zz_pop (v : Nat) : Nat := v % 2 + v / 2 % 2 + v / 4 % 2 + v / 8 % 2 + v / 16 % 2 + v / 32 % 2 + v / 64 % 2 + v / 128 % 2
theorem zz_pop_le (v : Nat) : zz_pop v ≤ 8 := by unfold zz_pop; omega
def zz_Mz : gx_Mem := (fun _ _ => 0, fun _ _ => 0)
theorem zz_bc7z : ∀ v, v < 256 → f_J6_bitCount_0f7a4 (nI v) zz_Mz = some (nI (zz_pop v)) := by decide +kernel
theorem zz_bc7 {v : Nat} (hv : v < 256) (M : gx_Mem) : f_J6_bitCount_0f7a4 (nI v) M = some (nI (zz_pop v)) := zz_bc7z v hv
theorem zz_pop0 : ∀ v, v < 256 → zz_pop v = 0 → v = 0 := by decide +kernel
theorem zz_popS : ∀ v, v < 256 → ¬ v = 0 → nI v &&& (nI v - 1) = nI (v &&& (v - 1)) ∧ zz_pop (v &&& (v - 1)) + 1 = zz_pop v ∧ (v &&& (v - 1)) < 256 := by decide +kernel
theorem zz_bitsL (M : gx_Mem) : ∀ c v, v < 256 → zz_pop v = c → ∀ n, c < n → ∀ a, a + c < 1000 → f_X8_bitsOf_l4 n (nI a) (nI v) M = some (nI (a + c)) := by
  intro c
  induction c with
  | zero =>
    intro v hv hc n hn a ha
    obtain ⟨n, rfl⟩ : ∃ m, n = m + 1 := ⟨n - 1, by omega⟩
    have := zz_pop0 v hv hc
    subst this
    show f_X8_bitsOf_k4 (fun v1 v2 => f_X8_bitsOf_l4 n v1 v2 M) (nI a) (nI 0) M = _
    unfold f_X8_bitsOf_k4
    rw [if_pos (show nI 0 = 0 from rfl)]
    rfl
  | succ c ih =>
    intro v hv hc n hn a ha
    obtain ⟨n, rfl⟩ : ∃ m, n = m + 1 := ⟨n - 1, by omega⟩
    have h0 : ¬ v = 0 := by
      rintro rfl
      have : zz_pop 0 = 0 := rfl
      omega
    obtain ⟨p1, p2, p3⟩ := zz_popS v hv h0
    have := ih (v &&& (v - 1)) p3 (by omega) n (by omega) (a + 1) (by omega)
    show f_X8_bitsOf_k4 (fun v1 v2 => f_X8_bitsOf_l4 n v1 v2 M) (nI a) (nI v) M = _
    unfold f_X8_bitsOf_k4
    rw [if_neg (show ¬ nI v = 0 by rw [show (0 : Int32) = nI 0 from rfl, zz_eq (by omega) (by decide)]; exact h0), zz_let, zz_let, p1, show nI a + 1 = nI (a + 1) from zz_add a 1]
    refine this.trans ?_
    congr 2
    omega
theorem zz_bits8 {v : Nat} (hv : v < 256) (M : gx_Mem) : f_X8_bitsOf (nI v) M = some (nI (zz_pop v)) := by
  unfold f_X8_bitsOf
  have h := zz_pop_le v
  have := zz_bitsL M (zz_pop v) v hv rfl gx_fuel (by unfold gx_fuel; omega) 0 (by omega)
  rw [Nat.zero_add] at this
  exact this

def zz_W (M : gx_Mem) (j : Nat) : Nat := (M.1 13 j).toNatClampNeg
def zz_h0 (M : gx_Mem) : Nat := (M.1 9 9).toNatClampNeg
def zz_O (M : gx_Mem) (t : Nat) : Int32 := zz_o M ((zz_h0 M + t) % 12)
theorem zz_Wok {M : gx_Mem} (h : zz_IH M) {j : Nat} (hj : j < 24) : M.1 13 j = nI (zz_W M j) ∧ zz_W M j ≤ 9999 ∧ M.1 61 j = nI (zz_W M j) := by
  have q := h.2.2.2.2.1 j hj
  have e := zz_bdn q.1 (by decide)
  exact ⟨e.1, e.2, q.2.trans e.1⟩
theorem zz_h0ok {M : gx_Mem} (h : zz_IH M) : M.1 9 9 = nI (zz_h0 M) ∧ zz_h0 M < 12 ∧ M.1 63 1 = nI (zz_h0 M) := by
  have q := h.2.2.2.2.2.2.2.2
  have e := zz_bdn q.1 (by decide)
  exact ⟨e.1, Nat.lt_succ_of_le e.2, q.2.trans e.1⟩
theorem zz_now_G {M : gx_Mem} (h : zz_IH M) (lv : Nat → Nat → Nat → Nat → Nat → Nat → Nat) (O : Nat → Int32) : zz_G lv (zz_H M) O (zz_W M) (zz_h0 M) 0 (zz_now M) := by
  have c := (zz_h0ok h)
  refine ⟨zz_now_h8 h, fun j hj => ?_, fun q hq => ?_, ?_⟩
  · have : (zz_now M).1 78 j = M.1 61 j := by
      unfold zz_now
      simp [zz_sI1, zz_ov1, hj]
    rw [this]; exact (zz_Wok h hj).2.2
  · unfold zz_now
    simp [zz_sI1, zz_ov1, hq]
    rfl
  · rw [show (zz_h0 M + 0) % 12 = zz_h0 M by have := c.2.1; omega]
    exact c.2.2
theorem zz_outIn {M : gx_Mem} (h : zz_IH M) {t : Nat} (ht : t < 1000) : f_X4_outIn (nI t) M = some (zz_O M t) := by
  unfold f_X4_outIn
  rw [(zz_h0ok h).1, zz_add, show (12 : Int32) = nI 12 from rfl, zz_rem (by have := (zz_h0ok h).2.1; omega) (by decide) (by decide), zz_o7 h]
  rfl
theorem zz_O_fr {S : Nat → Nat → Bool} {M M1 : gx_Mem} (f : zz_fr S M M1) (h : ∀ k i, 9 ≤ k → k ≤ 14 → S k i = false) (t : Nat) : zz_O M1 t = zz_O M t := by
  unfold zz_O zz_h0
  rw [zz_o_fr f h, f.2 9 9 (h 9 9 (by decide) (by decide))]
theorem zz_W_fr {S : Nat → Nat → Bool} {M M1 : gx_Mem} (f : zz_fr S M M1) (h : ∀ k i, 9 ≤ k → k ≤ 14 → S k i = false) (j : Nat) : zz_W M1 j = zz_W M j := by
  unfold zz_W
  rw [f.2 13 j (h 13 j (by decide) (by decide))]
/-- what drips in the first i hours -/
def zz_ds (lv : Nat → Nat → Nat → Nat → Nat → Nat → Nat) (H : zz_hs) (O : Nat → Int32) (p m : Nat) : Nat → Nat
  | 0 => 0
  | i + 1 => zz_ds lv H O p m i + zz_dr lv H (O i) p m
theorem zz_ds_le {lv : Nat → Nat → Nat → Nat → Nat → Nat → Nat} (hlv : ∀ a w i f m n, lv a w i f m n ≤ a) {H : zz_hs} (h : zz_hok H) (O : Nat → Int32) {m : Nat} (hm : m < 4) (p : Nat) : ∀ i, zz_ds lv H O p m i ≤ 432 * i
  | 0 => Nat.le_refl _
  | i + 1 => by
    have h1 := zz_ds_le hlv h O hm p i
    have h2 := zz_dr_le hlv h (O i) hm p
    unfold zz_ds
    omega
theorem zz_wt_ds {lv : Nat → Nat → Nat → Nat → Nat → Nat → Nat} {H : zz_hs} {O : Nat → Int32} {w : Nat → Nat} {p m : Nat} (hm : m < 4) (h : w (4 * p + m) ≤ 9999) : ∀ i, zz_wt lv H O w (4 * p + m) i = min 9999 (w (4 * p + m) + zz_ds lv H O p m i)
  | 0 => by unfold zz_wt zz_ds; omega
  | i + 1 => by
    have := zz_wt_ds (lv := lv) (H := H) (O := O) hm h i
    unfold zz_wt zz_ds
    rw [show (4 * p + m) / 4 = p by omega, show (4 * p + m) % 4 = m by omega, this]
    omega
theorem zz_min {a b : Nat} (ha : a < 2147483648) (hb : b < 2147483648) : gx_min (nI a) (nI b) = nI (min a b) := by
  unfold gx_min
  simp only [zz_lt hb ha]
  by_cases h : b < a
  · rw [if_pos h, show min a b = b by omega]
  · rw [if_neg h, show min a b = a by omega]
theorem zz_room {M : gx_Mem} (h : zz_IH M) {p m : Nat} (hp : p < 6) (hm : m < 4) : f_X2_room 9 (nI p) (nI m) M = some (nI (9999 - zz_W M (4 * p + m))) := by
  unfold f_X2_room
  have e := zz_Wok h (show 4 * p + m < 24 by omega)
  rw [show (4 : Int32) = nI 4 from rfl, zz_mul, zz_add, show p * 4 + m = 4 * p + m by omega, zz_gi (show 4 * p + m < 24 by omega) (by decide), zz_cl (show 4 * p + m < 2147483648 by omega), e.1, show (9999 : Int32) = nI 9999 from rfl, zz_sub e.2.1]
theorem zz_IH.fr {M M2 : gx_Mem} (h : zz_IH M) (f : zz_fr zz_sc M M2) : zz_IH M2 := by
  rw [← zz_core_IH, ← zz_core_fr f, zz_core_IH] at h
  exact h
theorem zz_wetBehind {M : gx_Mem} {lv : Nat → Nat → Nat → Nat → Nat → Nat → Nat} (h : zz_IH M) (hlv : ∀ a w i f m n, lv a w i f m n ≤ a) (hL : zz_LC lv M) {N p m : Nat} (hN : N ≤ 48) (hp : p < (zz_H M).n) (hm : m < 4) :
    ∃ M2, f_X4_wetBehind (nI N) (nI p) (nI m) M = some (nI (zz_wt lv (zz_H M) (zz_O M) (zz_W M) (4 * p + m) N), M2) ∧ zz_fr zz_S34 M M2 := by
  have hk := zz_Hok h
  have h6 := hk.1.1
  obtain ⟨t, ⟨M2, rfl, hf⟩, e⟩ := zz_for (fun (ag6 : Int32 × Int32 × gx_Mem → Option (Int32 × gx_Mem)) (s : Int32 × Int32 × gx_Mem) => f_X4_wetBehind_k6 (nI N) (nI p) (nI m) (fun v4 v5 M => ag6 (v4, v5, M)) s.1 s.2.1 s.2.2) (fun s => some (nI (zz_wt lv (zz_H M) (zz_O M) (zz_W M) (4 * p + m) N), s.2.2)) (fun i s => ∃ M', s = (nI (zz_ds lv (zz_H M) (zz_O M) p m i), nI i, M') ∧ zz_fr zz_S34 M M') N gx_fuel (by unfold gx_fuel; omega) (0, 0, M) ⟨M, rfl, zz_fr.rf⟩ (fun i s hi hs => by
      obtain ⟨M', rfl, hf⟩ := hs
      have h' := h.fr (hf.mono zz_S34_sc)
      obtain ⟨M3, e1, f1⟩ := zz_drips (k := 9) (by decide) (zz_Hok h').1 (zz_Hok h').2 hlv (hL.tr (zz_lwC.fr hf)) (zz_O M i) (p := p) (m := m) (by rw [zz_H_fr hf zz_S34_9]; exact hp) hm
      rw [zz_H_fr hf zz_S34_9] at e1
      refine ⟨(nI (zz_ds lv (zz_H M) (zz_O M) p m (i + 1)), nI (i + 1), M3), ⟨M3, rfl, hf.tr f1⟩, fun ag => ?_⟩
      dsimp only
      unfold f_X4_wetBehind_k6
      simp only [zz_le (show N < 2147483648 by omega) (show i < 2147483648 by omega)]
      rw [if_neg (by omega), zz_outIn h' (by omega), zz_O_fr hf zz_S34_9]
      simp only [zz_bPs]
      rw [e1]
      simp only [zz_bIs, zz_let, zz_add, show nI i + 1 = nI (i + 1) from zz_add i 1]
      rfl) (fun s hs ag => by
      obtain ⟨M', rfl, hf⟩ := hs
      have h' := h.fr (hf.mono zz_S34_sc)
      have w := zz_Wok h (show 4 * p + m < 24 by omega)
      have w' := zz_Wok h' (show 4 * p + m < 24 by omega)
      have hd := zz_ds_le hlv hk.1 (zz_O M) hm p N
      dsimp only
      unfold f_X4_wetBehind_k6
      rw [if_pos (nI_le (Nat.le_refl N) (by omega)), zz_room h' (by omega) hm, show (4 : Int32) = nI 4 from rfl, zz_mul, zz_add, show p * 4 + m = 4 * p + m by omega, zz_gi (show 4 * p + m < 24 by omega) (by decide), zz_cl (show 4 * p + m < 2147483648 by omega), w'.1, zz_W_fr hf zz_S34_9]
      simp only [zz_bPs]
      rw [zz_min (by omega) (by omega), zz_add, zz_wt_ds hm w.2.1]
      refine congrArg some (Prod.ext ?_ rfl)
      show nI _ = nI _
      congr 1
      omega)
  exact ⟨M2, e, hf⟩
theorem zz_isSpan {v : Int32} (M : gx_Mem) : f_X7_isSpan v M = some (zz_i (zz_rg v 49)) ∧ f_X8_areHours v M = some (zz_i (zz_rg v 49)) := ⟨zz_isSpan7 v M, zz_areHours8 v M⟩
theorem zz_goNow {M : gx_Mem} {lv : Nat → Nat → Nat → Nat → Nat → Nat → Nat} (h : zz_IH M) (hlv : ∀ a w i f m n, lv a w i f m n ≤ a) (hL : zz_LM lv M) {N : Nat} (hN : N ≤ 48) :
    ∃ M2, f_X8_goHours (nI N) 63 (zz_now M) = some M2 ∧ zz_fr zz_sc M M2 ∧ zz_G lv (zz_H M) (zz_O M) (zz_W M) (zz_h0 M) N M2 := by
  have hk := zz_Hok h
  have h6 := hk.1.1
  obtain ⟨M2, e, f, g⟩ := zz_goHours (N := N) (mask := 63) hk.1 hlv (hL.tr (zz_lwM.sc (zz_now_fr M))) (fun j hj => (zz_Wok h hj).2.1) (by omega) (zz_now_G h lv (zz_O M)) (fun t _ ht => by
    unfold zz_O zz_o
    refine zz_ou_cong _ (fun i hi => ?_)
    rw [zz_b63 i (by omega), Bool.true_and, show (zz_now M).1 59 i = M.1 59 i from rfl, (h.2.2.1 i (by omega)).2])
  rw [Nat.zero_add] at g
  exact ⟨M2, e, (zz_now_fr M).tr (f.mono zz_SG_sc), g⟩

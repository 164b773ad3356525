/-- the first of P among the first n -/
def zz_f1 (P : Nat → Bool) : Nat → Option Nat
  | 0 => none
  | n + 1 => match zz_f1 P n with
    | some j => some j
    | none => if P n = true then some n else none
theorem zz_f1N (P : Nat → Bool) : ∀ n, (∀ i, i < n → ¬ P i = true) → zz_f1 P n = none
  | 0, _ => rfl
  | n + 1, h => by
    unfold zz_f1
    rw [zz_f1N P n (fun i hi => h i (by omega))]
    dsimp only
    rw [if_neg (h n (by omega))]
theorem zz_f1S (P : Nat → Bool) {J : Nat} (hJ : P J = true) (h : ∀ i, i < J → ¬ P i = true) : ∀ n, J < n → zz_f1 P n = some J
  | 0, hn => absurd hn (Nat.not_lt_zero J)
  | n + 1, hn => by
    unfold zz_f1
    by_cases c : J < n
    · rw [zz_f1S P hJ h n c]
    · have : J = n := by omega
      subst this
      rw [zz_f1N P J h]
      dsimp only
      rw [if_pos hJ]
/-- a loop that leaves at the first -/
theorem zz_fstL (b : (Int32 × gx_Mem → Option (Int32 × gx_Mem)) → Int32 × gx_Mem → Option (Int32 × gx_Mem)) (P : Nat → Bool) (N n : Nat) (hn : N < n) (Inv : gx_Mem → Prop) (M : gx_Mem) (hM : Inv M) (one : ∀ m C, m < N → Inv C → ∃ D, Inv D ∧ ∀ ag, b ag (nI m, C) = if P m = true then some (nI m, D) else ag (nI (m + 1), D)) (ex : ∀ C ag, Inv C → b ag (nI N, C) = some (-2, C)) :
    ∃ D, gx_loop b n (0, M) = some (zz_dbI (zz_f1 P N), D) ∧ Inv D := by
  obtain ⟨J, hJ, j2, j3⟩ := zz_first (fun m => decide (m < N) && !P m) N (by simp)
  have pJ : ∀ i, i < J → ¬ P i = true := fun i hi q => by
    have := j3 i hi
    rw [Bool.and_eq_true, q] at this
    cases this.2
  obtain ⟨s, ⟨C, rfl, hC⟩, e⟩ := zz_for b (fun s => b (fun _ => none) s) (fun i s => ∃ C, s = (nI i, C) ∧ Inv C) J n (by omega) (0, M) ⟨M, rfl, hM⟩ (fun i s hi hs => by
      obtain ⟨C, rfl, hC⟩ := hs
      obtain ⟨D, d1, d2⟩ := one i C (by omega) hC
      exact ⟨_, ⟨D, rfl, d1⟩, fun ag => by rw [d2, if_neg (pJ i hi)]⟩) (fun s hs ag => by
      obtain ⟨C, rfl, hC⟩ := hs
      by_cases c : J < N
      · obtain ⟨D, d1, d2⟩ := one J C c hC
        have : P J = true := by
          cases q : P J with
          | true => rfl
          | false => rw [decide_eq_true c, q] at j2; cases j2
        rw [d2, d2, if_pos this, if_pos this]
      · have : J = N := by omega
        subst this
        rw [ex C _ hC, ex C _ hC])
  by_cases c : J < N
  · obtain ⟨D, d1, d2⟩ := one J C c hC
    have hP : P J = true := by
      cases q : P J with
      | true => rfl
      | false => rw [decide_eq_true c, q] at j2; cases j2
    refine ⟨D, ?_, d1⟩
    rw [e, d2, if_pos hP, zz_f1S P hP pJ N c]
    rfl
  · have : J = N := by omega
    subst this
    refine ⟨C, ?_, hC⟩
    rw [e, ex C _ hC, zz_f1N P J pJ]
    rfl
/-! a house with other flats -/
def zz_hf (H : zz_hs) (g : Nat → Nat) : zz_hs := (H.n, g, H.th, H.aw, H.ir)
theorem zz_hf_n (H : zz_hs) (g : Nat → Nat) : (zz_hf H g).n = H.n := rfl
theorem zz_hf_fl (H : zz_hs) (g : Nat → Nat) : (zz_hf H g).fl = g := rfl
theorem zz_hf_th (H : zz_hs) (g : Nat → Nat) : (zz_hf H g).th = H.th := rfl
theorem zz_hf_aw (H : zz_hs) (g : Nat → Nat) : (zz_hf H g).aw = H.aw := rfl
theorem zz_hf_ir (H : zz_hs) (g : Nat → Nat) : (zz_hf H g).ir = H.ir := rfl
theorem zz_hf_ok {H : zz_hs} (ok : zz_hok H) {g : Nat → Nat} (hg : ∀ p, p < H.n → g p < 24) : zz_hok (zz_hf H g) := by
  obtain ⟨a, b, d, e, f⟩ := ok
  exact ⟨a, hg, d, e, f⟩
theorem zz_hw.hf {M M2 : gx_Mem} {H : zz_hs} {w : Nat → Nat} {Q : Nat → Nat → Bool} {g : Nat → Nat} (v : zz_hw 23 M H w Q) (f2 : zz_fr (fun k _ => k == 24) M M2) (hg : ∀ p, p < H.n → M2.1 24 p = nI (g p)) : zz_hw 23 M2 (zz_hf H g) w Q := by
  unfold zz_hw zz_h7 at v ⊢
  rw [zz_hf_n, zz_hf_fl, zz_hf_th, zz_hf_ir, zz_hf_aw]
  obtain ⟨⟨c1, c2, c3, c4, c5⟩, h2, h3⟩ := v
  exact ⟨⟨(f2.2 23 7 rfl).trans c1, hg, fun p hp => (f2.2 (23 + 3) p rfl).trans (c3 p hp), fun p hp => (f2.2 (23 + 5) p rfl).trans (c4 p hp), (f2.2 23 8 rfl).trans c5⟩, fun j hj => by rw [f2.2 (23 + 4) j rfl]; exact h2 j hj, fun i hi t ht => by rw [f2.2 (23 + 2) i rfl]; exact h3 i hi t ht⟩
theorem zz_h8.hf {M M2 : gx_Mem} {H : zz_hs} {g : Nat → Nat} (v : zz_h8 M H) (f2 : zz_fr (fun k _ => k == 76) M M2) (hg : ∀ p, p < H.n → M2.1 76 p = nI (g p)) : zz_h8 M2 (zz_hf H g) := by
  unfold zz_h8 at v ⊢
  rw [zz_hf_n, zz_hf_fl, zz_hf_th, zz_hf_ir, zz_hf_aw]
  obtain ⟨c1, c2, c3, c4, c5⟩ := v
  exact ⟨(f2.2 57 1 rfl).trans c1, hg, fun p hp => (f2.2 60 p rfl).trans (c3 p hp), fun p hp => (f2.2 77 p rfl).trans (c4 p hp), (f2.2 63 0 rfl).trans c5⟩
def zz_gx (g : Nat → Nat) (a b p : Nat) : Nat := if p = b then g a else if p = a then g b else g p
/-- one and p do better with their flats exchanged -/
def zz_sw (lv : Nat → Nat → Nat → Nat → Nat → Nat → Nat) (H : zz_hs) (w : Nat → Nat) (Q : Nat → Nat → Bool) (one p : Nat) : Bool := decide (p ≠ one ∧ zz_su (zz_wr lv (zz_hf H (zz_gx H.fl one p)) w Q 63 one) 4 ≤ zz_su (zz_wr lv H w Q 63 one) 4 ∧ zz_su (zz_wr lv (zz_hf H (zz_gx H.fl one p)) w Q 63 p) 4 ≤ zz_su (zz_wr lv H w Q 63 p) 4 ∧ zz_su (zz_wr lv (zz_hf H (zz_gx H.fl one p)) w Q 63 one) 4 + zz_su (zz_wr lv (zz_hf H (zz_gx H.fl one p)) w Q 63 p) 4 < zz_su (zz_wr lv H w Q 63 one) 4 + zz_su (zz_wr lv H w Q 63 p) 4)
theorem zz_gx_lt {H : zz_hs} (ok : zz_hok H) {a b : Nat} (ha : a < H.n) (hb : b < H.n) : ∀ p, p < H.n → zz_gx H.fl a b p < 24 := by
  intro p hp
  unfold zz_gx
  split
  · exact ok.2.1 a ha
  · split
    · exact ok.2.1 b hb
    · exact ok.2.1 p hp
theorem zz_partner15 {M : gx_Mem} {lv : Nat → Nat → Nat → Nat → Nat → Nat → Nat} (h : zz_IH M) (hlv : ∀ a w i f m n, lv a w i f m n ≤ a) (hL : zz_LC lv M) {one : Nat} (hp : one < (zz_H M).n) {p : Nat} (hpn : p < (zz_H M).n) :
    ∃ D, zz_fr zz_sc M D ∧ ∀ ag, f_X4_partner_k15 (nI one) (nI (zz_su (zz_wr lv (zz_H M) (zz_W M) (zz_Q M) 63 one) 4)) ag (nI p) M = if zz_sw lv (zz_H M) (zz_W M) (zz_Q M) one p = true then some (nI p, D) else ag (nI (p + 1)) D := by
  obtain ⟨ok, c1, c2, c3, c4, c5⟩ := zz_Hok h
  have h6 := ok.1
  by_cases ci : p = one
  · refine ⟨M, zz_fr.rf, fun ag => ?_⟩
    unfold f_X4_partner_k15 f_X4_partner_b148
    rw [c1, if_neg (show ¬ nI (zz_H M).n ≤ nI p by rw [zz_le (by omega) (by omega)]; omega), if_pos (by rw [ci]), zz_let, show nI p + 1 = nI (p + 1) from zz_add p 1, if_neg (show ¬ zz_sw lv (zz_H M) (zz_W M) (zz_Q M) one p = true from fun q => (of_decide_eq_true q).1 ci)]
  · obtain ⟨A, a1, a2⟩ := zz_wetter74 (k := 9) (by decide) ok (zz_hw9 h) hlv hL 63 hpn
    have hA := h.fr (a2.mono zz_S34_sc)
    have lA := zz_lk23_hw hA
    rw [zz_H_fr a2 zz_S34_9, zz_W_frF a2 zz_S34_9, zz_Q_fr a2 zz_S34_9] at lA
    have fL := zz_lk23_fr A
    generalize hLd : zz_lk 23 9 A = L at *
    have l10 : ∀ q, q < (zz_H M).n → L.1 10 q = nI ((zz_H M).fl q) := fun q hq => by
      rw [fL.2 10 q rfl, a2.2 10 q rfl]; exact c2 q hq
    generalize hB : gx_sI (gx_sI L 24 one (nI ((zz_H M).fl p))) 24 p (nI ((zz_H M).fl one)) = B
    have fB : zz_fr (fun k _ => k == 24) L B := by rw [← hB]; exact (zz_fr.rf.sI rfl).sI rfl
    have hwB : zz_hw 23 B (zz_hf (zz_H M) (zz_gx (zz_H M).fl one p)) (zz_W M) (zz_Q M) := lA.hf fB (fun q hq => by
      rw [← hB, zz_sI1, zz_sI1]
      unfold zz_gx
      by_cases e1 : q = p
      · rw [if_pos ⟨rfl, e1⟩, if_pos e1]
      · rw [if_neg (fun x => e1 x.2), if_neg e1]
        by_cases e2 : q = one
        · rw [if_pos ⟨rfl, e2⟩, if_pos e2]
        · rw [if_neg (fun x => e2 x.2), if_neg e2]
          exact lA.1.2.1 q hq)
    have okx := zz_hf_ok ok (zz_gx_lt ok hp hpn)
    have fMB : zz_fr zz_sc M B := (a2.mono zz_S34_sc).tr (fL.tr (fB.mono (fun k j hk => by simp at hk; subst hk; rfl)))
    obtain ⟨C, e1, f1⟩ := zz_wetter74 (k := 23) (by decide) okx hwB hlv (hL.tr (zz_lwC.sc fMB)) 63 (p := one) hp
    have fMC := fMB.tr (f1.mono zz_S34_sc)
    obtain ⟨D, e2, f2⟩ := zz_wetter74 (k := 23) (by decide) okx (hwB.fr (by decide) f1) hlv (hL.tr (zz_lwC.sc fMC)) 63 (p := p) hpn
    refine ⟨D, fMC.tr (f2.mono zz_S34_sc), fun ag => ?_⟩
    have w1 := zz_su_wr (lv := lv) (H := zz_H M) (w := zz_W M) (Q := zz_Q M) (mask := 63) (p := one)
    have w2 := zz_su_wr (lv := lv) (H := zz_H M) (w := zz_W M) (Q := zz_Q M) (mask := 63) (p := p)
    have w3 := zz_su_wr (lv := lv) (H := zz_hf (zz_H M) (zz_gx (zz_H M).fl one p)) (w := zz_W M) (Q := zz_Q M) (mask := 63) (p := one)
    have w4 := zz_su_wr (lv := lv) (H := zz_hf (zz_H M) (zz_gx (zz_H M).fl one p)) (w := zz_W M) (Q := zz_Q M) (mask := 63) (p := p)
    unfold f_X4_partner_k15 f_X4_partner_b148 zz_sw
    rw [c1, if_neg (show ¬ nI (zz_H M).n ≤ nI p by rw [zz_le (by omega) (by omega)]; omega), if_neg (show ¬ nI p = nI one by rw [zz_eq (by omega) (by omega)]; exact ci), a1, zz_bIs, zz_liken23, zz_bPs, hLd, zz_gi (show p < 6 by omega) (by decide), zz_gi (show one < 6 by omega) (by decide), zz_let, zz_cl (show p < 2147483648 by omega), zz_cl (show one < 2147483648 by omega), l10 p hpn, zz_gi (show one < 6 by omega) (by decide), zz_gi (show p < 6 by omega) (by decide), zz_let, show (gx_sI L 24 one (nI ((zz_H M).fl p))).1 10 one = nI ((zz_H M).fl one) from l10 one hp, hB, e1, zz_bIs, e2, zz_bIs]
    generalize zz_su (zz_wr lv (zz_H M) (zz_W M) (zz_Q M) 63 one) 4 = x1 at *
    generalize zz_su (zz_wr lv (zz_H M) (zz_W M) (zz_Q M) 63 p) 4 = x2 at *
    generalize zz_su (zz_wr lv (zz_hf (zz_H M) (zz_gx (zz_H M).fl one p)) (zz_W M) (zz_Q M) 63 one) 4 = x3 at *
    generalize zz_su (zz_wr lv (zz_hf (zz_H M) (zz_gx (zz_H M).fl one p)) (zz_W M) (zz_Q M) 63 p) 4 = x4 at *
    simp only [zz_let, show nI p + 1 = nI (p + 1) from zz_add p 1, zz_lt (show x1 < 2147483648 by omega) (show x3 < 2147483648 by omega), zz_lt (show x2 < 2147483648 by omega) (show x4 < 2147483648 by omega), zz_lt (show x3 < 2147483648 by omega) (show x1 < 2147483648 by omega), zz_le (show x2 < 2147483648 by omega) (show x4 < 2147483648 by omega), decide_eq_true_eq]
    by_cases k1 : x1 < x3
    · rw [if_pos k1, if_neg (by omega)]
    · rw [if_neg k1]
      by_cases k2 : x2 < x4
      · rw [if_pos k2, if_neg (by omega)]
      · rw [if_neg k2]
        by_cases k3 : x3 < x1
        · rw [if_pos k3, if_pos (by omega)]
        · rw [if_neg k3]
          by_cases k4 : x2 ≤ x4
          · rw [if_pos k4, if_neg (by omega)]
          · rw [if_neg k4, if_pos (by omega)]
theorem zz_partner {M : gx_Mem} {lv : Nat → Nat → Nat → Nat → Nat → Nat → Nat} (h : zz_IH M) (hlv : ∀ a w i f m n, lv a w i f m n ≤ a) (hL : zz_LC lv M) {one : Nat} (hp : one < (zz_H M).n) :
    ∃ M2, f_X4_partner (nI one) M = some (zz_dbI (zz_f1 (zz_sw lv (zz_H M) (zz_W M) (zz_Q M) one) (zz_H M).n), M2) ∧ zz_fr zz_sc M M2 := by
  obtain ⟨ok, c1, c2, c3, c4, c5⟩ := zz_Hok h
  have h6 := ok.1
  obtain ⟨A, a1, a2⟩ := zz_wetter74 (k := 9) (by decide) ok (zz_hw9 h) hlv hL 63 hp
  have fA := a2.mono zz_S34_sc
  unfold f_X4_partner
  rw [a1, zz_bIs]
  exact zz_fstL (fun (ag15 : Int32 × gx_Mem → Option (Int32 × gx_Mem)) (s : Int32 × gx_Mem) => f_X4_partner_k15 (nI one) (nI (zz_su (zz_wr lv (zz_H M) (zz_W M) (zz_Q M) 63 one) 4)) (fun v3 M => ag15 (v3, M)) s.1 s.2) (zz_sw lv (zz_H M) (zz_W M) (zz_Q M) one) (zz_H M).n gx_fuel (by unfold gx_fuel; omega) (fun C => zz_fr zz_sc M C) A fA (fun p C hpn hC => by
      obtain ⟨D, d1, d2⟩ := zz_partner15 (h.fr hC) hlv (hL.tr (zz_lwC.sc hC)) (one := one) (p := p) (by rw [zz_H_fr hC zz_sc_9]; exact hp) (by rw [zz_H_fr hC zz_sc_9]; exact hpn)
      rw [zz_H_fr hC zz_sc_9, zz_W_frF hC zz_sc_9, zz_Q_fr hC zz_sc_9] at d2
      exact ⟨D, hC.tr d1, fun ag => d2 _⟩) (fun C ag hC => by
      dsimp only
      unfold f_X4_partner_k15
      rw [(hC.2 9 7 rfl).trans c1, if_pos (nI_le (Nat.le_refl _) (by omega))])

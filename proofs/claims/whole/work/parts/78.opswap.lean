theorem zz_swap12 {M : gx_Mem} {lv : Nat → Nat → Nat → Nat → Nat → Nat → Nat} (h : zz_IH M) (hlv : ∀ a w i f m n, lv a w i f m n ≤ a) (hL : zz_LM lv M) {one : Nat} (hp : one < (zz_H M).n) {p : Nat} (hpn : p < (zz_H M).n) :
    ∃ D, zz_fr zz_sc M D ∧ ∀ ag, f_X8_swap_k12 (nI one) ag (nI p) M = if zz_sw lv (zz_H M) (zz_W M) (zz_Q M) one p = true then some (nI p, D) else ag (nI (p + 1)) D := by
  obtain ⟨ok, c1, c2, c3, c4, c5⟩ := zz_Hok h
  have h6 := ok.1
  have hn8 : M.1 57 1 = nI (zz_H M).n := h.1.2.trans c1
  by_cases ci : p = one
  · refine ⟨M, zz_fr.rf, fun ag => ?_⟩
    unfold f_X8_swap_k12 f_X8_swap_b128
    rw [hn8, if_neg (show ¬ nI (zz_H M).n ≤ nI p by rw [zz_le (by omega) (by omega)]; omega), if_pos (by rw [ci]), zz_let, show nI p + 1 = nI (p + 1) from zz_add p 1, if_neg (show ¬ zz_sw lv (zz_H M) (zz_W M) (zz_Q M) one p = true from fun q => (of_decide_eq_true q).1 ci)]
  · obtain ⟨A, a1, a2, a3⟩ := zz_go12n h hlv hL 63
    have hA := h.fr a2
    have fL := zz_now_fr A
    have gL := zz_now_G hA lv (zz_O M)
    rw [zz_H_fr a2 zz_sc_9, zz_W_frF a2 zz_sc_9] at gL
    have h0A : zz_h0 A = zz_h0 M := by unfold zz_h0; rw [a2.2 9 9 rfl]
    rw [h0A] at gL
    have e58 : ∀ q, q < (zz_H M).n → (zz_now A).1 58 q = nI ((zz_H M).fl q) := fun q hq => by
      rw [show (zz_now A).1 58 q = A.1 58 q from rfl, a2.2 58 q rfl, (h.2.1 q (by omega)).2]; exact c2 q hq
    have e59 : ∀ i, i < (zz_H M).n → ∀ t, t < 12 → zz_b ((zz_now A).1 59 i) t = zz_Q M i t := fun i hi t ht => by
      rw [show (zz_now A).1 59 i = A.1 59 i from rfl, a2.2 59 i rfl, (h.2.2.1 i (by omega)).2]; rfl
    have e61 : ∀ j, j < 24 → (zz_now A).1 61 j = nI (zz_W M j) := fun j hj => by
      rw [show (zz_now A).1 61 j = A.1 61 j from rfl, a2.2 61 j rfl]; exact (zz_Wok h hj).2.2
    have lay : f_X8_layNow A = some (zz_now A) := zz_layNow A (by rw [hA.1.2]; exact hA.1.1)
    generalize zz_now A = L at *
    generalize hB : gx_sI (gx_sI L 76 one (nI ((zz_H M).fl p))) 76 p (nI ((zz_H M).fl one)) = B
    have fB : zz_fr (fun k _ => k == 76) L B := by rw [← hB]; exact (zz_fr.rf.sI rfl).sI rfl
    obtain ⟨g1, g2, g3, g4⟩ := gL
    have hvB : zz_h8 B (zz_hf (zz_H M) (zz_gx (zz_H M).fl one p)) := g1.hf fB (fun q hq => by
      rw [← hB, zz_sI1, zz_sI1]
      unfold zz_gx
      by_cases e1 : q = p
      · rw [if_pos ⟨rfl, e1⟩, if_pos e1]
      · rw [if_neg (fun x => e1 x.2), if_neg e1]
        by_cases e2 : q = one
        · rw [if_pos ⟨rfl, e2⟩, if_pos e2]
        · rw [if_neg (fun x => e2 x.2), if_neg e2]
          exact g1.2.1 q hq)
    have okx := zz_hf_ok ok (zz_gx_lt ok hp hpn)
    have fMB : zz_fr zz_sc M B := a2.tr (fL.tr (fB.mono (fun k j hk => by simp at hk; subst hk; rfl)))
    have gB : zz_G lv (zz_hf (zz_H M) (zz_gx (zz_H M).fl one p)) (zz_O M) (zz_W M) (zz_h0 M) 0 B := ⟨hvB, fun j hj => (fB.2 78 j rfl).trans (g2 j hj), fun q hq => (fB.2 79 q rfl).trans (g3 q hq), (fB.2 57 29 rfl).trans g4⟩
    obtain ⟨D, d1, d2, -, d3⟩ := zz_go12 (A := B) (Q := zz_Q M) 63 okx hlv (hL.tr (zz_lwM.sc fMB)) (fun j hj => (zz_Wok h hj).2.1) (zz_h0ok h).2.1 gB (fun q hq t ht => (congrArg (fun x => zz_b x t) (fB.2 59 q rfl)).trans (e59 q hq t ht)) (fun j hj => (fB.2 61 j rfl).trans (e61 j hj))
    refine ⟨D, fMB.tr (d2.mono zz_SG_sc), fun ag => ?_⟩
    have w1 := zz_su_wr (lv := lv) (H := zz_H M) (w := zz_W M) (Q := zz_Q M) (mask := 63) (p := one)
    have w2 := zz_su_wr (lv := lv) (H := zz_H M) (w := zz_W M) (Q := zz_Q M) (mask := 63) (p := p)
    have w3 := zz_su_wr (lv := lv) (H := zz_hf (zz_H M) (zz_gx (zz_H M).fl one p)) (w := zz_W M) (Q := zz_Q M) (mask := 63) (p := one)
    have w4 := zz_su_wr (lv := lv) (H := zz_hf (zz_H M) (zz_gx (zz_H M).fl one p)) (w := zz_W M) (Q := zz_Q M) (mask := 63) (p := p)
    have d3o := d3 one hp
    have d3p := d3 p hpn
    have a3o := a3 one hp
    have a3p := a3 p hpn
    unfold f_X8_swap_k12 f_X8_swap_b128 zz_sw
    rw [hn8, if_neg (show ¬ nI (zz_H M).n ≤ nI p by rw [zz_le (by omega) (by omega)]; omega), if_neg (show ¬ nI p = nI one by rw [zz_eq (by omega) (by omega)]; exact ci), zz_layNow M (by rw [h.1.2]; exact h.1.1), zz_bPs, a1, zz_bPs, a3o, zz_bPs, a3p, zz_bPs, lay, zz_bPs, zz_gi (show p < 6 by omega) (by decide), zz_gi (show one < 6 by omega) (by decide), zz_let, zz_cl (show p < 2147483648 by omega), zz_cl (show one < 2147483648 by omega), e58 p hpn, zz_gi (show one < 6 by omega) (by decide), zz_gi (show p < 6 by omega) (by decide), zz_let, show (gx_sI L 76 one (nI ((zz_H M).fl p))).1 58 one = nI ((zz_H M).fl one) from e58 one hp, hB, d1, zz_bPs, d3o, d3p]
    generalize zz_su (zz_wr lv (zz_H M) (zz_W M) (zz_Q M) 63 one) 4 = x1 at *
    generalize zz_su (zz_wr lv (zz_H M) (zz_W M) (zz_Q M) 63 p) 4 = x2 at *
    generalize zz_su (zz_wr lv (zz_hf (zz_H M) (zz_gx (zz_H M).fl one p)) (zz_W M) (zz_Q M) 63 one) 4 = x3 at *
    generalize zz_su (zz_wr lv (zz_hf (zz_H M) (zz_gx (zz_H M).fl one p)) (zz_W M) (zz_Q M) 63 p) 4 = x4 at *
    simp only [zz_bPs, zz_let, zz_add, show nI p + 1 = nI (p + 1) from zz_add p 1, zz_lt (show x1 < 2147483648 by omega) (show x3 < 2147483648 by omega), zz_lt (show x2 < 2147483648 by omega) (show x4 < 2147483648 by omega), zz_le (show x1 + x2 < 2147483648 by omega) (show x3 + x4 < 2147483648 by omega), decide_eq_true_eq]
    by_cases k1 : x1 < x3
    · rw [if_pos k1, if_neg (by omega)]
    · rw [if_neg k1]
      by_cases k2 : x2 < x4
      · rw [if_pos k2, if_neg (by omega)]
      · rw [if_neg k2]
        by_cases k4 : x1 + x2 ≤ x3 + x4
        · rw [if_pos k4, if_neg (by omega)]
        · rw [if_neg k4, if_pos (by omega)]
theorem op_swap (a : Int32) : zz_ok (f_X7_swap a) (f_X8_swap a) := by
  intro M h
  obtain ⟨n, h6, hn, hn8⟩ := h.ppl
  obtain ⟨lv, hlv, hC, hM⟩ := h.law
  unfold f_X7_swap
  rw [zz_isOne7 hn h6]
  simp only [zz_bPs, zz_ifi]
  have hg : ∀ M1 : gx_Mem, M1.1 57 1 = nI n → f_X8_swap a M1 = if zz_rg a n = true then f_X8_swap_l12 a gx_fuel 0 M1 else some (-1, M1) := by
    intro M1 e
    unfold f_X8_swap
    rw [zz_isOne8 e h6]
    simp only [zz_bPs, zz_ifi]
  cases h1 : zz_rg a n with
  | false => exact ⟨-1, M, rfl, M, by rw [hg M hn8, h1]; rfl, h⟩
  | true =>
    obtain ⟨one, hp, rfl⟩ := zz_rgT h1
    have hHn := zz_Hn h6 hn
    obtain ⟨M1, e1, f1⟩ := zz_partner h.IH hlv hC (one := one) (by rw [hHn]; exact hp)
    rw [if_pos rfl, e1, zz_bIs]
    refine ⟨_, M1, rfl, ?_⟩
    have i1 : zz_Inv M1 := h.fr f1
    have hH := zz_H_fr f1 zz_sc_9
    have hW := zz_W_frF f1 zz_sc_9
    have hQ := zz_Q_fr f1 zz_sc_9
    obtain ⟨M2, e2, f2⟩ := zz_fstL (fun (ag15 : Int32 × gx_Mem → Option (Int32 × gx_Mem)) (s : Int32 × gx_Mem) => f_X8_swap_k12 (nI one) (fun v3 M => ag15 (v3, M)) s.1 s.2) (zz_sw lv (zz_H M) (zz_W M) (zz_Q M) one) (zz_H M).n gx_fuel (by unfold gx_fuel; omega) (fun C => zz_fr zz_sc M1 C) M1 zz_fr.rf (fun p C hpn hC => by
      obtain ⟨D, d1, d2⟩ := zz_swap12 (i1.IH.fr hC) hlv (hM.tr ((zz_lwM.sc f1).tr (zz_lwM.sc hC))) (one := one) (p := p) (by rw [zz_H_fr hC zz_sc_9, hH, hHn]; exact hp) (by rw [zz_H_fr hC zz_sc_9, hH]; exact hpn)
      rw [zz_H_fr hC zz_sc_9, zz_W_frF hC zz_sc_9, zz_Q_fr hC zz_sc_9, hH, hW, hQ] at d2
      exact ⟨D, hC.tr d1, fun ag => d2 _⟩) (fun C ag hC => by
      dsimp only
      unfold f_X8_swap_k12
      rw [(hC.2 57 1 rfl).trans ((f1.2 57 1 rfl).trans hn8), hHn, if_pos (nI_le (Nat.le_refl _) (by omega))])
    refine ⟨M2, ?_, i1.fr f2⟩
    rw [hg M1 ((f1.2 57 1 rfl).trans hn8), h1, if_pos rfl]
    exact e2

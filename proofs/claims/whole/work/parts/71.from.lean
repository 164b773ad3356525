/-- is p among those that FROM (or REACH) tells? -/
def zz_fp (lv : Nat → Nat → Nat → Nat → Nat → Nat → Nat) (H : zz_hs) (w : Nat → Nat) (Q : Nat → Nat → Bool) (one : Nat) (c : Bool) (p : Nat) : Bool := decide (p ≠ one ∧ 0 < zz_su (zz_wr lv H w Q (gx_shl 1 (nI one) ||| gx_shl 1 (nI p)) (if c = true then p else one)) 4)
theorem zz_su_wr {lv : Nat → Nat → Nat → Nat → Nat → Nat → Nat} {H : zz_hs} {w : Nat → Nat} {Q : Nat → Nat → Bool} {mask : Int32} {p : Nat} : zz_su (zz_wr lv H w Q mask p) 4 ≤ 39996 := zz_su_le (c := 9999) 4 (fun _ _ => zz_wr_le)
theorem zz_pairs {M : gx_Mem} {lv : Nat → Nat → Nat → Nat → Nat → Nat → Nat} (h : zz_IH M) (hlv : ∀ a w i f m n, lv a w i f m n ≤ a) (hL : zz_LC lv M) {one : Nat} (c : Bool) (hp : one < (zz_H M).n) :
    ∃ M2, f_X4_pairs (nI one) (zz_i c) M = some (zz_ou (zz_fp lv (zz_H M) (zz_W M) (zz_Q M) one c) (zz_H M).n, M2) ∧ zz_fr zz_S34 M M2 := by
  have ok := (zz_Hok h).1
  have h6 := ok.1
  have hn : M.1 9 7 = nI (zz_H M).n := (zz_Hok h).2.1
  obtain ⟨t, ⟨M2, rfl, hf⟩, e⟩ := zz_for (fun (ag5 : Int32 × Int32 × gx_Mem → Option (Int32 × gx_Mem)) (s : Int32 × Int32 × gx_Mem) => f_X4_pairs_k5 (nI one) (zz_i c) (fun v3 v4 M => ag5 (v3, v4, M)) s.1 s.2.1 s.2.2) (fun s => some (s.1, s.2.2)) (fun i s => ∃ M', s = (zz_ou (zz_fp lv (zz_H M) (zz_W M) (zz_Q M) one c) i, nI i, M') ∧ zz_fr zz_S34 M M') (zz_H M).n gx_fuel (by unfold gx_fuel; omega) (0, 0, M) ⟨M, rfl, zz_fr.rf⟩ (fun i s hi hs => by
      obtain ⟨M', rfl, hf⟩ := hs
      have h' := h.fr (hf.mono zz_S34_sc)
      have hn' : M'.1 9 7 = nI (zz_H M).n := (hf.2 9 7 rfl).trans hn
      by_cases ci : i = one
      · refine ⟨(zz_ou (zz_fp lv (zz_H M) (zz_W M) (zz_Q M) one c) (i + 1), nI (i + 1), M'), ⟨M', rfl, hf⟩, fun ag => ?_⟩
        dsimp only
        unfold f_X4_pairs_k5 f_X4_pairs_b60
        rw [hn', if_neg (show ¬ nI (zz_H M).n ≤ nI i by rw [zz_le (by omega) (by omega)]; omega), if_pos (by rw [ci]), zz_let, show nI i + 1 = nI (i + 1) from zz_add i 1]
        conv => rhs; unfold zz_ou
        rw [if_neg (show ¬ zz_fp lv (zz_H M) (zz_W M) (zz_Q M) one c i = true by unfold zz_fp; rw [decide_eq_false (fun q => q.1 ci)]; decide)]
      · obtain ⟨M3, e1, f1⟩ := zz_wetter74 (k := 9) (by decide) ok (by have := zz_hw9 h'; rw [zz_H_fr hf zz_S34_9, zz_W_frF hf zz_S34_9, zz_Q_fr hf zz_S34_9] at this; exact this) hlv (hL.tr (zz_lwC.fr hf)) (gx_shl 1 (nI one) ||| gx_shl 1 (nI i)) (p := if c = true then i else one) (by split <;> assumption)
        have hb := zz_su_wr (lv := lv) (H := zz_H M) (w := zz_W M) (Q := zz_Q M) (mask := gx_shl 1 (nI one) ||| gx_shl 1 (nI i)) (p := if c = true then i else one)
        refine ⟨(zz_ou (zz_fp lv (zz_H M) (zz_W M) (zz_Q M) one c) (i + 1), nI (i + 1), M3), ⟨M3, rfl, hf.tr f1⟩, fun ag => ?_⟩
        dsimp only
        unfold f_X4_pairs_k5
        rw [hn', if_neg (show ¬ nI (zz_H M).n ≤ nI i by rw [zz_le (by omega) (by omega)]; omega), if_neg (by rw [zz_eq (by omega) (by omega)]; exact ci)]
        have key : ∀ x, f_X4_pairs_b37 (fun v3 v4 M => ag (v3, v4, M)) (nI one) x (zz_ou (zz_fp lv (zz_H M) (zz_W M) (zz_Q M) one c) i) (nI i) (nI (if c = true then i else one)) M' = ag (zz_ou (zz_fp lv (zz_H M) (zz_W M) (zz_Q M) one c) (i + 1), nI (i + 1), M3) := by
          intro x
          unfold f_X4_pairs_b37 f_X4_pairs_b60
          rw [e1, show (0 : Int32) = nI 0 from rfl]
          simp only [zz_bIs, zz_let, show nI i + 1 = nI (i + 1) from zz_add i 1]
          conv => rhs; unfold zz_ou
          by_cases c2 : 0 < zz_su (zz_wr lv (zz_H M) (zz_W M) (zz_Q M) (gx_shl 1 (nI one) ||| gx_shl 1 (nI i)) (if c = true then i else one)) 4
          · rw [if_neg (by rw [zz_le (by omega) (by decide)]; omega), if_pos (show zz_fp lv (zz_H M) (zz_W M) (zz_Q M) one c i = true from decide_eq_true ⟨ci, c2⟩)]
          · rw [if_pos (by rw [zz_le (by omega) (by decide)]; omega), if_neg (show ¬ zz_fp lv (zz_H M) (zz_W M) (zz_Q M) one c i = true by unfold zz_fp; rw [decide_eq_false (fun q => c2 q.2)]; decide)]
        cases c with
        | false => rw [if_pos (show zz_i false = 0 from rfl)]; exact key _
        | true => rw [if_neg (show ¬ zz_i true = 0 by decide)]; exact key _) (fun s hs ag => by
      obtain ⟨M', rfl, hf⟩ := hs
      dsimp only
      unfold f_X4_pairs_k5
      rw [(hf.2 9 7 rfl).trans hn, if_pos (nI_le (Nat.le_refl _) (by omega))])
  exact ⟨M2, e, hf⟩
theorem zz_from24 {M : gx_Mem} {lv : Nat → Nat → Nat → Nat → Nat → Nat → Nat} (h : zz_IH M) (hlv : ∀ a w i f m n, lv a w i f m n ≤ a) (hL : zz_LM lv M) {one : Nat} (c : Bool) (hp : one < (zz_H M).n) :
    ∃ M2, f_X8_from_l24 (nI one) (zz_i c) gx_fuel 0 0 M = some (zz_ou (zz_fp lv (zz_H M) (zz_W M) (zz_Q M) one c) (zz_H M).n, M2) ∧ zz_fr zz_sc M M2 := by
  have ok := (zz_Hok h).1
  have h6 := ok.1
  have hn : M.1 57 1 = nI (zz_H M).n := h.1.2.trans (zz_Hok h).2.1
  obtain ⟨t, ⟨M2, rfl, hf⟩, e⟩ := zz_for (fun (ag5 : Int32 × Int32 × gx_Mem → Option (Int32 × gx_Mem)) (s : Int32 × Int32 × gx_Mem) => f_X8_from_k24 (nI one) (zz_i c) (fun v3 v4 M => ag5 (v3, v4, M)) s.1 s.2.1 s.2.2) (fun s => some (s.1, s.2.2)) (fun i s => ∃ M', s = (zz_ou (zz_fp lv (zz_H M) (zz_W M) (zz_Q M) one c) i, nI i, M') ∧ zz_fr zz_sc M M') (zz_H M).n gx_fuel (by unfold gx_fuel; omega) (0, 0, M) ⟨M, rfl, zz_fr.rf⟩ (fun i s hi hs => by
      obtain ⟨M', rfl, hf⟩ := hs
      have h' := h.fr hf
      have hn' : M'.1 57 1 = nI (zz_H M).n := (hf.2 57 1 rfl).trans hn
      by_cases ci : i = one
      · refine ⟨(zz_ou (zz_fp lv (zz_H M) (zz_W M) (zz_Q M) one c) (i + 1), nI (i + 1), M'), ⟨M', rfl, hf⟩, fun ag => ?_⟩
        dsimp only
        unfold f_X8_from_k24 f_X8_from_b84
        rw [hn', if_neg (show ¬ nI (zz_H M).n ≤ nI i by rw [zz_le (by omega) (by omega)]; omega), if_pos (by rw [ci]), zz_let, show nI i + 1 = nI (i + 1) from zz_add i 1]
        conv => rhs; unfold zz_ou
        rw [if_neg (show ¬ zz_fp lv (zz_H M) (zz_W M) (zz_Q M) one c i = true by unfold zz_fp; rw [decide_eq_false (fun q => q.1 ci)]; decide)]
      · obtain ⟨M3, e1, f1, w1⟩ := zz_go12n h' hlv (hL.tr (zz_lwM.sc hf)) (gx_shl 1 (nI one) ||| gx_shl 1 (nI i))
        rw [zz_H_fr hf zz_sc_9, zz_W_frF hf zz_sc_9, zz_Q_fr hf zz_sc_9] at w1
        have hb := zz_su_wr (lv := lv) (H := zz_H M) (w := zz_W M) (Q := zz_Q M) (mask := gx_shl 1 (nI one) ||| gx_shl 1 (nI i)) (p := if c = true then i else one)
        have w2 := w1 (if c = true then i else one) (by split <;> assumption)
        refine ⟨(zz_ou (zz_fp lv (zz_H M) (zz_W M) (zz_Q M) one c) (i + 1), nI (i + 1), M3), ⟨M3, rfl, hf.tr f1⟩, fun ag => ?_⟩
        dsimp only
        unfold f_X8_from_k24
        rw [hn', if_neg (show ¬ nI (zz_H M).n ≤ nI i by rw [zz_le (by omega) (by omega)]; omega), if_neg (by rw [zz_eq (by omega) (by omega)]; exact ci), zz_layNow M' (by rw [h'.1.2]; exact h'.1.1)]
        simp only [zz_bPs]
        rw [e1, zz_bPs]
        have key : ∀ x, f_X8_from_b71 (fun v3 v4 M => ag (v3, v4, M)) (nI one) x (zz_ou (zz_fp lv (zz_H M) (zz_W M) (zz_Q M) one c) i) (nI i) (nI (if c = true then i else one)) M3 = ag (zz_ou (zz_fp lv (zz_H M) (zz_W M) (zz_Q M) one c) (i + 1), nI (i + 1), M3) := by
          intro x
          unfold f_X8_from_b71 f_X8_from_b84
          rw [w2, show (0 : Int32) = nI 0 from rfl]
          simp only [zz_bPs, zz_let, show nI i + 1 = nI (i + 1) from zz_add i 1]
          conv => rhs; unfold zz_ou
          by_cases c2 : 0 < zz_su (zz_wr lv (zz_H M) (zz_W M) (zz_Q M) (gx_shl 1 (nI one) ||| gx_shl 1 (nI i)) (if c = true then i else one)) 4
          · rw [if_neg (by rw [zz_le (by omega) (by decide)]; omega), if_pos (show zz_fp lv (zz_H M) (zz_W M) (zz_Q M) one c i = true from decide_eq_true ⟨ci, c2⟩)]
          · rw [if_pos (by rw [zz_le (by omega) (by decide)]; omega), if_neg (show ¬ zz_fp lv (zz_H M) (zz_W M) (zz_Q M) one c i = true by unfold zz_fp; rw [decide_eq_false (fun q => c2 q.2)]; decide)]
        cases c with
        | false => rw [if_pos (show zz_i false = 0 from rfl)]; exact key _
        | true => rw [if_neg (show ¬ zz_i true = 0 by decide)]; exact key _) (fun s hs ag => by
      obtain ⟨M', rfl, hf⟩ := hs
      dsimp only
      unfold f_X8_from_k24
      rw [(hf.2 57 1 rfl).trans hn, if_pos (nI_le (Nat.le_refl _) (by omega))])
  exact ⟨M2, e, hf⟩
/-- a choice is a truth -/
theorem zz_ch {x : Int32} (h : zz_rg x 2 = true) : ∃ c : Bool, x = zz_i c := by
  obtain ⟨j, hj, rfl⟩ := zz_rgT h
  match j, hj with
  | 0, _ => exact ⟨false, rfl⟩
  | 1, _ => exact ⟨true, rfl⟩
theorem zz_Hn {M : gx_Mem} {n : Nat} (h6 : n ≤ 6) (hn : M.1 9 7 = nI n) : (zz_H M).n = n := by
  show (M.1 9 7).toNatClampNeg = n
  rw [hn, zz_cl (by omega)]
theorem op_from (a b : Int32) : zz_ok (f_X7_from a b) (f_X8_from a b) := by
  intro M h
  obtain ⟨n, h6, hn, hn8⟩ := h.ppl
  obtain ⟨lv, hlv, hC, hM⟩ := h.law
  unfold f_X7_from
  rw [zz_isOne7 hn h6, zz_isChoice7]
  simp only [zz_bPs, zz_ifi]
  have hg : ∀ M1 : gx_Mem, M1.1 57 1 = nI n → f_X8_from a b M1 = if zz_rg a n = true then (if zz_rg b 2 = true then f_X8_from_l24 a b gx_fuel 0 0 M1 else some (-1, M1)) else some (-1, M1) := by
    intro M1 e
    unfold f_X8_from
    rw [zz_isOne8 e h6, show (1 : Int32) = nI 1 from rfl, zz_in8 b 1 M1 (by decide)]
    simp only [zz_bPs, zz_ifi]
  cases h1 : zz_rg a n with
  | false => exact ⟨-1, M, rfl, M, by rw [hg M hn8, h1]; rfl, h⟩
  | true =>
    cases h2 : zz_rg b 2 with
    | false => exact ⟨-1, M, rfl, M, by rw [hg M hn8, h1, h2]; rfl, h⟩
    | true =>
      obtain ⟨p, hp, rfl⟩ := zz_rgT h1
      obtain ⟨c, rfl⟩ := zz_ch h2
      have hHn := zz_Hn h6 hn
      obtain ⟨M1, e1, f1⟩ := zz_pairs h.IH hlv hC (one := p) c (by rw [hHn]; exact hp)
      have hsel : (if zz_i c = (1 : Int32) then f_X7_from_b30 (nI p) 1 M else f_X7_from_b30 (nI p) 0 M) = some (zz_ou (zz_fp lv (zz_H M) (zz_W M) (zz_Q M) p c) (zz_H M).n, M1) := by
        cases c with
        | false =>
          rw [if_neg (by decide)]
          unfold f_X7_from_b30
          rw [show (0 : Int32) = zz_i false from rfl, e1, zz_bIs]
        | true =>
          rw [if_pos (show zz_i true = 1 from rfl)]
          unfold f_X7_from_b30
          rw [show (1 : Int32) = zz_i true from rfl, e1, zz_bIs]
      rw [if_pos rfl, if_pos rfl, hsel]
      refine ⟨_, M1, rfl, ?_⟩
      have i1 : zz_Inv M1 := h.fr (f1.mono zz_S34_sc)
      have hH := zz_H_fr f1 zz_S34_9
      obtain ⟨M2, e2, f2⟩ := zz_from24 i1.IH hlv (hM.tr (zz_lwM.sc (f1.mono zz_S34_sc))) (one := p) c (by rw [hH, hHn]; exact hp)
      refine ⟨M2, ?_, i1.fr f2⟩
      rw [hg M1 ((f1.2 57 1 rfl).trans hn8), h1, h2, if_pos rfl, if_pos rfl, e2, hH, zz_W_frF f1 zz_S34_9, zz_Q_fr f1 zz_S34_9]

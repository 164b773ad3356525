theorem op_wet (a b : Int32) : zz_ok (f_X7_wet a b) (f_X8_wet a b) := by
  intro M h
  obtain ⟨n, h6, hn, hn8⟩ := h.ppl
  obtain ⟨lv, hlv, hC, hM⟩ := h.law
  unfold f_X7_wet
  rw [zz_isSpan7, zz_isPm7 hn h6]
  simp only [zz_bPs, zz_ifi]
  have hg : ∀ M1 : gx_Mem, M1.1 57 1 = nI n → f_X8_wet a b M1 = if zz_rg a 49 = true then (if zz_pm b n = true then gx_bP (f_X8_layNow M1) (fun M6 => gx_bP (f_X8_goHours a (63 : Int32) M6) (fun M8 => gx_gd (gx_in (((4 : Int32) * (b / (10 : Int32))) + (gx_rem b (10 : Int32))) 24) (some ((M8.1 78 (((4 : Int32) * (b / (10 : Int32))) + (gx_rem b (10 : Int32))).toNatClampNeg), M8)))) else some (-1, M1)) else some (-1, M1) := by
    intro M1 e
    unfold f_X8_wet
    rw [zz_areHours8, zz_areMark8 e h6]
    simp only [zz_bPs, zz_ifi]
  cases h1 : zz_rg a 49 with
  | false => exact ⟨-1, M, rfl, M, by rw [hg M hn8, h1]; rfl, h⟩
  | true =>
    cases h3 : zz_pm b n with
    | false => exact ⟨-1, M, rfl, M, by rw [hg M hn8, h1, h3]; rfl, h⟩
    | true =>
      obtain ⟨p, m, hp, hm, rfl⟩ := zz_pmT h3
      obtain ⟨N, hN, rfl⟩ := zz_rgT h1
      have hHn : (zz_H M).n = n := by
        show (M.1 9 7).toNatClampNeg = n
        rw [hn, zz_cl (by omega)]
      rw [if_pos rfl, if_pos rfl, (zz_c24 (show p < 6 by omega) hm).1, (zz_c24 (show p < 6 by omega) hm).2]
      obtain ⟨M1, e1, f1⟩ := zz_wetBehind h.IH hlv hC (N := N) (p := p) (m := m) (by omega) (by rw [hHn]; exact hp) hm
      rw [e1]
      simp only [zz_bIs]
      refine ⟨_, M1, rfl, ?_⟩
      have i1 : zz_Inv M1 := h.fr (f1.mono zz_S34_sc)
      obtain ⟨M2, e2, f2, g2⟩ := zz_goNow i1.IH hlv (hM.tr (zz_lwM.sc (f1.mono zz_S34_sc))) (N := N) (by omega)
      refine ⟨M2, ?_, i1.fr f2⟩
      rw [hg M1 ((f1.2 57 1 rfl).trans hn8), h1, h3, if_pos rfl, if_pos rfl, zz_layNow M1 (by rw [i1.IH.1.2]; exact i1.IH.1.1)]
      simp only [zz_bPs]
      rw [e2]
      simp only [zz_bPs]
      rw [(zz_c24 (show p < 6 by omega) hm).1, (zz_c24 (show p < 6 by omega) hm).2, show (4 : Int32) = nI 4 from rfl, zz_mul, zz_add, zz_gi (show 4 * p + m < 24 by omega) (by decide), zz_cl (show 4 * p + m < 2147483648 by omega), g2.2.1 _ (show 4 * p + m < 24 by omega), zz_H_fr f1 zz_S34_9, show zz_O M1 = zz_O M from funext fun t => zz_O_fr f1 zz_S34_9 t, show zz_W M1 = zz_W M from funext fun t => zz_W_fr f1 zz_S34_9 t]
theorem zz_caughtBehind {M : gx_Mem} {lv : Nat → Nat → Nat → Nat → Nat → Nat → Nat} (h : zz_IH M) (hlv : ∀ a w i f m n, lv a w i f m n ≤ a) (hL : zz_LC lv M) {N m : Nat} (hN : N ≤ 48) (hm : m < 4) :
    ∃ M2, f_X4_caughtBehind (nI N) (nI m) M = some (nI (zz_ca lv (zz_H M) (zz_O M) m N), M2) ∧ zz_fr zz_S34 M M2 := by
  obtain ⟨t, ⟨M2, rfl, hf⟩, e⟩ := zz_for (fun (ag5 : Int32 × Int32 × gx_Mem → Option (Int32 × gx_Mem)) (s : Int32 × Int32 × gx_Mem) => f_X4_caughtBehind_k5 (nI N) (nI m) (fun v3 v4 M => ag5 (v3, v4, M)) s.1 s.2.1 s.2.2) (fun s => some (s.1, s.2.2)) (fun i s => ∃ M', s = (nI (zz_ca lv (zz_H M) (zz_O M) m i), nI i, M') ∧ zz_fr zz_S34 M M') N gx_fuel (by unfold gx_fuel; omega) (0, 0, M) ⟨M, rfl, zz_fr.rf⟩ (fun i s hi hs => by
      obtain ⟨M', rfl, hf⟩ := hs
      have h' := h.fr (hf.mono zz_S34_sc)
      obtain ⟨M3, e1, f1⟩ := zz_caughtBy (k := 9) (by decide) (zz_Hok h').1 (zz_Hok h').2 hlv (hL.tr (zz_lwC.fr hf)) (zz_O M i) hm
      rw [zz_H_fr hf zz_S34_9] at e1
      refine ⟨(nI (zz_ca lv (zz_H M) (zz_O M) m (i + 1)), nI (i + 1), M3), ⟨M3, rfl, hf.tr f1⟩, fun ag => ?_⟩
      dsimp only
      unfold f_X4_caughtBehind_k5
      simp only [zz_le (show N < 2147483648 by omega) (show i < 2147483648 by omega)]
      rw [if_neg (by omega), zz_outIn h' (by omega), zz_O_fr hf zz_S34_9]
      simp only [zz_bPs]
      rw [e1]
      simp only [zz_bIs, zz_let, zz_add, show nI i + 1 = nI (i + 1) from zz_add i 1]
      rfl) (fun s hs ag => by
      obtain ⟨M', rfl, hf⟩ := hs
      dsimp only
      unfold f_X4_caughtBehind_k5
      rw [if_pos (nI_le (Nat.le_refl N) (by omega))])
  exact ⟨M2, e, hf⟩
theorem op_caught (a b : Int32) : zz_ok (f_X7_caught a b) (f_X8_caught a b) := by
  intro M h
  obtain ⟨lv, hlv, hC, hM⟩ := h.law
  unfold f_X7_caught
  rw [zz_isSpan7, zz_isMark7]
  simp only [zz_bPs, zz_ifi]
  have hg : ∀ M1 : gx_Mem, f_X8_caught a b M1 = if zz_rg a 49 = true then (if zz_rg b 4 = true then gx_bP (f_X8_layNow M1) (fun M6 => gx_bP (f_X8_goHours a (63 : Int32) M6) (fun M8 => gx_gd (gx_in b 4) (some ((M8.1 79 b.toNatClampNeg), M8)))) else some (-1, M1)) else some (-1, M1) := by
    intro M1
    unfold f_X8_caught
    rw [zz_areHours8, zz_isMark8]
    simp only [zz_bPs, zz_ifi]
  cases h1 : zz_rg a 49 with
  | false => exact ⟨-1, M, rfl, M, by rw [hg, h1]; rfl, h⟩
  | true =>
    cases h3 : zz_rg b 4 with
    | false => exact ⟨-1, M, rfl, M, by rw [hg, h1, h3]; rfl, h⟩
    | true =>
      obtain ⟨m, hm, rfl⟩ := zz_rgT h3
      obtain ⟨N, hN, rfl⟩ := zz_rgT h1
      rw [if_pos rfl, if_pos rfl]
      obtain ⟨M1, e1, f1⟩ := zz_caughtBehind h.IH hlv hC (N := N) (m := m) (by omega) hm
      rw [e1]
      simp only [zz_bIs]
      refine ⟨_, M1, rfl, ?_⟩
      have i1 : zz_Inv M1 := h.fr (f1.mono zz_S34_sc)
      obtain ⟨M2, e2, f2, g2⟩ := zz_goNow i1.IH hlv (hM.tr (zz_lwM.sc (f1.mono zz_S34_sc))) (N := N) (by omega)
      refine ⟨M2, ?_, i1.fr f2⟩
      rw [hg M1, h1, h3, if_pos rfl, if_pos rfl, zz_layNow M1 (by rw [i1.IH.1.2]; exact i1.IH.1.1)]
      simp only [zz_bPs]
      rw [e2]
      simp only [zz_bPs]
      rw [zz_gi hm (by decide), zz_cl (show m < 2147483648 by omega), g2.2.2.1 _ hm, zz_H_fr f1 zz_S34_9, show zz_O M1 = zz_O M from funext fun t => zz_O_fr f1 zz_S34_9 t]

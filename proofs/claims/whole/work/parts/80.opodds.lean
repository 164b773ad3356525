theorem zz_oddsOf {M : gx_Mem} {lv : Nat → Nat → Nat → Nat → Nat → Nat → Nat} (h : zz_IH M) (hlv : ∀ a w i f m n, lv a w i f m n ≤ a) (hL : zz_LM lv M) {one m : Nat} (hp : one < (zz_H M).n) (hm : m < 4) (much part : Bool) {N : Nat} (hN : N = 2 ^ (zz_H M).n) :
    ∃ M2, f_X8_oddsOf (nI (10 * one + m)) (zz_i much) (zz_i part) M = gx_bP (f_X8_lowest (zL (zz_os (zz_T lv (zz_H M) one m much) one N)) (zL (zz_os (fun _ => 1) one N)) (zz_i part) M2) (fun y5 => some (y5, M2)) ∧ zz_fr zz_sc M M2 := by
  obtain ⟨ok, c1, c2, c3, c4, c5⟩ := zz_Hok h
  have h6 := ok.1
  have hfl := ok.2.1 one hp
  obtain ⟨p1, p2⟩ := zz_shl2 _ h6
  have fn := zz_now_fr M
  have hv := zz_now_h8 h
  have hLn := hL.tr (zz_lwM.sc fn)
  have e58 : (zz_now M).1 58 one = nI ((zz_H M).fl one) := by
    rw [show (zz_now M).1 58 one = M.1 58 one from rfl, (h.2.1 one (by omega)).2]; exact c2 one hp
  have c24 := zz_c24 (show one < 6 by omega) hm
  unfold f_X8_oddsOf
  rw [zz_layNow M (by rw [h.1.2]; exact h.1.1), zz_bPs, zz_let, c24.1]
  generalize zz_now M = A at *
  obtain ⟨t, ⟨M2, rfl, hf⟩, e⟩ := zz_for (fun (ag19 : Int64 × Int64 × Int32 × gx_Mem → Option (Int64 × gx_Mem)) (s : Int64 × Int64 × Int32 × gx_Mem) => f_X8_oddsOf_k19 (nI (10 * one + m)) (zz_i much) (zz_i part) (nI one) (fun w5 w7 v9 M => ag19 (w5, w7, v9, M)) s.1 s.2.1 s.2.2.1 s.2.2.2) (fun s => gx_bP (f_X8_lowest s.1 s.2.1 (zz_i part) s.2.2.2) (fun y5 => some (y5, s.2.2.2))) (fun i s => ∃ M', s = (zL (zz_os (zz_T lv (zz_H M) one m much) one i), zL (zz_os (fun _ => 1) one i), nI i, M') ∧ zz_fr zz_SG A M') N gx_fuel (by unfold gx_fuel; omega) (0, 0, 0, A) ⟨A, rfl, zz_fr.rf⟩ (fun i s hi hs => by
      obtain ⟨M', rfl, hf⟩ := hs
      have hn' : M'.1 57 1 = nI (zz_H M).n := (hf.2 57 1 rfl).trans hv.1
      cases hb : zz_b (nI i) one with
      | false =>
        refine ⟨(zL (zz_os (zz_T lv (zz_H M) one m much) one (i + 1)), zL (zz_os (fun _ => 1) one (i + 1)), nI (i + 1), M'), ⟨M', rfl, hf⟩, fun ag => ?_⟩
        dsimp only
        unfold f_X8_oddsOf_k19 f_X8_oddsOf_b110
        rw [hn', p1, if_neg (show ¬ nI (2 ^ (zz_H M).n) ≤ nI i by rw [zz_le (by omega) (by omega)]; omega), zz_has8, zz_bPs, hb, if_pos (show zz_i false = 0 from rfl), zz_let, show nI i + 1 = nI (i + 1) from zz_add i 1]
        conv => rhs; unfold zz_os
        rw [hb, if_neg (by decide), if_neg (by decide)]
        rfl
      | true =>
        have fB : zz_fr zz_SG A (gx_sI M' 57 28 (nI i)) := hf.sI rfl
        obtain ⟨D, d1, d2, d3⟩ := zz_flow (M := gx_sI M' 57 28 (nI i)) (o := nI i) ok (hv.frG fB) rfl hlv (hLn.tr (zz_lwM.sc (fB.mono zz_SG_sc))) hm
        have fD := fB.tr (d2.mono zz_SF_SG)
        have hR := zz_R_le hlv ok (nI i) hm ((zz_H M).fl one / 8) (7 - (zz_H M).fl one % 8)
        have d80 := (d3 ((zz_H M).fl one) (Nat.zero_le _) hfl).2
        refine ⟨(zL (zz_os (zz_T lv (zz_H M) one m much) one (i + 1)), zL (zz_os (fun _ => 1) one (i + 1)), nI (i + 1), D), ⟨D, rfl, fD⟩, fun ag => ?_⟩
        dsimp only
        unfold f_X8_oddsOf_k19 f_X8_oddsOf_b101 f_X8_oddsOf_b110
        rw [hn', p1, if_neg (show ¬ nI (2 ^ (zz_H M).n) ≤ nI i by rw [zz_le (by omega) (by omega)]; omega), zz_has8, zz_bPs, hb, if_neg (show ¬ zz_i true = 0 by decide), zz_let, c24.2, d1, zz_bPs, zz_gi (show one < 6 by omega) (by decide), zz_cl (show one < 2147483648 by omega), fD.2 58 one rfl, e58, show (24 : Int32) = nI 24 from rfl, zz_mul, zz_add, zz_gi (show 24 * m + (zz_H M).fl one < 96 by omega) (by decide), zz_let, zz_cl (show 24 * m + (zz_H M).fl one < 2147483648 by omega), d80]
        conv => rhs; unfold zz_os
        rw [hb, if_pos rfl, if_pos rfl]
        simp only [zz_let, show nI i + 1 = nI (i + 1) from zz_add i 1, show (1 : Int64) = zL 1 from rfl, zL_add, show (0 : Int64) = zL 0 from rfl]
        cases much with
        | false =>
          have hT : zz_T lv (zz_H M) one m false i = min 1 (zz_R lv (zz_H M) (nI i) m ((zz_H M).fl one / 8) (7 - (zz_H M).fl one % 8)) := by unfold zz_T; rw [if_neg (by decide)]
          rw [if_pos (show zz_i false = 0 from rfl), hT]
          by_cases c : zz_R lv (zz_H M) (nI i) m ((zz_H M).fl one / 8) (7 - (zz_H M).fl one % 8) = 0
          · rw [if_pos (show nI (zz_R lv (zz_H M) (nI i) m ((zz_H M).fl one / 8) (7 - (zz_H M).fl one % 8)) ≤ 0 by rw [c]; decide), c]
            rfl
          · rw [if_neg (show ¬ nI (zz_R lv (zz_H M) (nI i) m ((zz_H M).fl one / 8) (7 - (zz_H M).fl one % 8)) ≤ 0 from nI_nle (by omega) (by omega)), show min 1 (zz_R lv (zz_H M) (nI i) m ((zz_H M).fl one / 8) (7 - (zz_H M).fl one % 8)) = 1 by omega]
        | true =>
          have hT : zz_T lv (zz_H M) one m true i = zz_R lv (zz_H M) (nI i) m ((zz_H M).fl one / 8) (7 - (zz_H M).fl one % 8) := by unfold zz_T; rw [if_pos rfl]
          rw [if_neg (show ¬ zz_i true = 0 by decide), hT, zL_ofI (by omega), zL_add]) (fun s hs ag => by
      obtain ⟨M', rfl, hf⟩ := hs
      dsimp only
      unfold f_X8_oddsOf_k19
      rw [(hf.2 57 1 rfl).trans hv.1, p1, if_pos (show nI (2 ^ (zz_H M).n) ≤ nI N by rw [zz_le (by omega) (by omega)]; omega)])
  exact ⟨M2, e, fn.tr (hf.mono zz_SG_sc)⟩
theorem zz_oddsL {M : gx_Mem} {n : Nat} (h : zz_Inv M) (h6 : n ≤ 6) (hn : M.1 9 7 = nI n) (hn8 : M.1 57 1 = nI n) {one m : Nat} (hp : one < n) (hm : m < 4) (much part : Bool) : ∃ (r : Int64) (M1 : gx_Mem), gx_bI (f_X4_overSets (nI one) (nI m) (zz_i much) M) (fun y8 M9 => gx_bP (f_X7_fraction y8 (gx_shl (1 : Int32) ((M9.1 9 7) - (1 : Int32))) (zz_i part) M9) (fun y11 => some (y11, M9))) = some (r, M1) ∧ zz_fr zz_S34 M M1 ∧ ∃ M2, f_X8_oddsOf (nI (10 * one + m)) (zz_i much) (zz_i part) M1 = some (r, M2) ∧ zz_Inv M2 := by
  obtain ⟨lv, hlv, hC, hM⟩ := h.law
  have hHn := zz_Hn h6 hn
  obtain ⟨N, hN⟩ : ∃ N, N = 2 ^ (zz_H M).n := ⟨_, rfl⟩
  obtain ⟨M1, e1, f1⟩ := zz_overSets h.IH hlv hC (one := one) (m := m) (by rw [hHn]; exact hp) hm much hN
  have i1 : zz_Inv M1 := h.fr (f1.mono zz_S34_sc)
  have hH := zz_H_fr f1 zz_S34_9
  obtain ⟨M2, e2, f2⟩ := zz_oddsOf i1.IH hlv (hM.tr (zz_lwM.sc (f1.mono zz_S34_sc))) (one := one) (m := m) (by rw [hH, hHn]; exact hp) hm much part (N := N) (by rw [hH]; exact hN)
  rw [hH] at e2
  have hoc : zz_os (fun _ => 1) one N = 2 ^ (n - 1) := by rw [hN, hHn]; exact zz_oc n h6 one hp
  have hos := zz_os_le (one := one) (c := 432) (zz_T_le hlv (zz_Hok h.IH).1 (one := one) hm much) N
  have h64 := (zz_shl2 n h6).2
  rw [hHn] at hN
  generalize zz_os (zz_T lv (zz_H M) one m much) one N = a at *
  have hsh : gx_shl (1 : Int32) ((M1.1 9 7) - (1 : Int32)) = nI (2 ^ (n - 1)) := by
    rw [(f1.2 9 7 rfl).trans hn, show (1 : Int32) = nI 1 from rfl, zz_sub (show 1 ≤ n by omega)]
    exact (zz_shl2 (n - 1) (by omega)).1
  refine ⟨if part = true then zL (2 ^ (n - 1) / Nat.gcd a (2 ^ (n - 1))) else zL (a / Nat.gcd a (2 ^ (n - 1))), M1, ?_, f1, M2, ?_, i1.fr f2⟩
  · rw [e1, zz_bIs, hsh]
    unfold f_X7_fraction
    have := zz_frac M1 part (n - 1) a 0 gx_fuel (by omega) (by unfold gx_fuel; omega) (by omega)
    rw [show nI 0 = (0 : Int32) from rfl] at this
    rw [this, zz_bPs]
  · rw [e2, hoc, zz_lowest M2 part (by omega) (by omega), zz_bPs]
theorem op_odds (a b c : Int32) : zz_ok (f_X7_odds a b c) (f_X8_odds a b c) := by
  intro M h
  obtain ⟨n, h6, hn, hn8⟩ := h.ppl
  unfold f_X7_odds
  rw [zz_isPm7 hn h6, zz_isHour7, zz_isChoice7]
  simp only [zz_bPs, zz_ifi]
  have hg : ∀ M1 : gx_Mem, M1.1 57 1 = nI n → f_X8_odds a b c M1 = if zz_pm a n = true then (if zz_rg b 12 = true then (if zz_rg c 2 = true then gx_bI (f_X8_oddsOf a (0 : Int32) c M1) (fun y8 M9 => some (y8, M9)) else some (-9223372036854775808, M1)) else some (-9223372036854775808, M1)) else some (-9223372036854775808, M1) := by
    intro M1 e
    unfold f_X8_odds
    rw [zz_areMark8 e h6, zz_isHour8, show (1 : Int32) = nI 1 from rfl, zz_in8 c 1 M1 (by decide)]
    simp only [zz_bPs, zz_ifi]
  cases h1 : zz_pm a n with
  | false => exact ⟨_, M, rfl, M, by rw [hg M hn8, h1]; rfl, h⟩
  | true =>
    cases h2 : zz_rg b 12 with
    | false => exact ⟨_, M, rfl, M, by rw [hg M hn8, h1, h2]; rfl, h⟩
    | true =>
      cases h3 : zz_rg c 2 with
      | false => exact ⟨_, M, rfl, M, by rw [hg M hn8, h1, h2, h3]; rfl, h⟩
      | true =>
        obtain ⟨one, m, hp, hm, rfl⟩ := zz_pmT h1
        obtain ⟨part, rfl⟩ := zz_ch h3
        obtain ⟨r, M1, e1, f1, M2, e2, i2⟩ := zz_oddsL h h6 hn hn8 hp hm false part
        have c24 := zz_c24 (show one < 6 by omega) hm
        rw [if_pos rfl, if_pos rfl, if_pos rfl, c24.1, c24.2]
        refine ⟨r, M1, e1, M2, ?_, i2⟩
        rw [hg M1 ((f1.2 57 1 rfl).trans hn8), h1, h2, h3, if_pos rfl, if_pos rfl, if_pos rfl, show (0 : Int32) = zz_i false from rfl, e2, zz_bIs]
theorem op_mean (a b c : Int32) : zz_ok (f_X7_mean a b c) (f_X8_mean a b c) := by
  intro M h
  obtain ⟨n, h6, hn, hn8⟩ := h.ppl
  unfold f_X7_mean
  rw [zz_isPm7 hn h6, zz_isHour7, zz_isChoice7]
  simp only [zz_bPs, zz_ifi]
  have hg : ∀ M1 : gx_Mem, M1.1 57 1 = nI n → f_X8_mean a b c M1 = if zz_pm a n = true then (if zz_rg b 12 = true then (if zz_rg c 2 = true then gx_bI (f_X8_oddsOf a (1 : Int32) c M1) (fun y8 M9 => some (y8, M9)) else some (-9223372036854775808, M1)) else some (-9223372036854775808, M1)) else some (-9223372036854775808, M1) := by
    intro M1 e
    unfold f_X8_mean
    rw [zz_areMark8 e h6, zz_isHour8]
    conv => lhs; rw [show f_X8_in c (0 : Int32) (1 : Int32) M1 = some (zz_i (zz_rg c 2)) from zz_in8 c 1 M1 (by decide)]
    simp only [zz_bPs, zz_ifi]
  cases h1 : zz_pm a n with
  | false => exact ⟨_, M, rfl, M, by rw [hg M hn8, h1]; rfl, h⟩
  | true =>
    cases h2 : zz_rg b 12 with
    | false => exact ⟨_, M, rfl, M, by rw [hg M hn8, h1, h2]; rfl, h⟩
    | true =>
      cases h3 : zz_rg c 2 with
      | false => exact ⟨_, M, rfl, M, by rw [hg M hn8, h1, h2, h3]; rfl, h⟩
      | true =>
        obtain ⟨one, m, hp, hm, rfl⟩ := zz_pmT h1
        obtain ⟨part, rfl⟩ := zz_ch h3
        obtain ⟨r, M1, e1, f1, M2, e2, i2⟩ := zz_oddsL h h6 hn hn8 hp hm true part
        have c24 := zz_c24 (show one < 6 by omega) hm
        rw [if_pos rfl, if_pos rfl, if_pos rfl, c24.1, c24.2]
        refine ⟨r, M1, e1, M2, ?_, i2⟩
        rw [hg M1 ((f1.2 57 1 rfl).trans hn8), h1, h2, h3, if_pos rfl, if_pos rfl, if_pos rfl, show (1 : Int32) = zz_i true from rfl, e2, zz_bIs]

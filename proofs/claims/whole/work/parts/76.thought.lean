/-! a house where a thought is another -/
def zz_ht (H : zz_hs) (c v : Nat) : zz_hs := (H.n, H.fl, fun j => if j = c then v else H.th j, H.aw, H.ir)
theorem zz_ht_n (H : zz_hs) (c v : Nat) : (zz_ht H c v).n = H.n := rfl
theorem zz_ht_fl (H : zz_hs) (c v : Nat) : (zz_ht H c v).fl = H.fl := rfl
theorem zz_ht_th (H : zz_hs) (c v j : Nat) : (zz_ht H c v).th j = if j = c then v else H.th j := rfl
theorem zz_ht_aw (H : zz_hs) (c v : Nat) : (zz_ht H c v).aw = H.aw := rfl
theorem zz_ht_ir (H : zz_hs) (c v : Nat) : (zz_ht H c v).ir = H.ir := rfl
theorem zz_ht_ok {H : zz_hs} (ok : zz_hok H) (c : Nat) {v : Nat} (hv : v ≤ 9) : zz_hok (zz_ht H c v) := by
  obtain ⟨a, b, d, e, f⟩ := ok
  refine ⟨a, b, fun i hi => ?_, e, f⟩
  rw [zz_ht_th]
  split
  · exact hv
  · exact d i hi
def zz_S26 (c k i : Nat) : Bool := k == 3 || k == 4 || (k == 26 && i == c)
def zz_S60 (c k i : Nat) : Bool := zz_SH k i || (k == 60 && i == c)
theorem zz_S34_26 (c : Nat) : ∀ k i, zz_S34 k i = true → zz_S26 c k i = true := fun k i h => by
  simp [zz_S34] at h
  rcases h with rfl | rfl <;> rfl
theorem zz_S26_sc (c : Nat) : ∀ k i, zz_S26 c k i = true → zz_sc k i = true := fun k i h => by
  simp [zz_S26] at h
  rcases h with (rfl | rfl) | ⟨rfl, -⟩ <;> rfl
theorem zz_ht7 {L M : gx_Mem} {H : zz_hs} {c : Nat} (h : zz_h7 23 L H) (f : zz_fr (zz_S26 c) L M) (v : Nat) : zz_h7 23 (gx_sI M 26 c (nI v)) (zz_ht H c v) := by
  unfold zz_h7 at h ⊢
  rw [zz_ht_n, zz_ht_fl, zz_ht_aw, zz_ht_ir]
  obtain ⟨c1, c2, c3, c4, c5⟩ := h
  refine ⟨(f.2 23 7 rfl).trans c1, fun p hp => (f.2 (23 + 1) p rfl).trans (c2 p hp), fun i hi => ?_, fun i hi => (f.2 (23 + 5) i rfl).trans (c4 i hi), (f.2 23 8 rfl).trans c5⟩
  rw [zz_sI1, zz_ht_th]
  by_cases e : i = c
  · rw [if_pos ⟨rfl, e⟩, if_pos e]
  · rw [if_neg (fun q => e q.2), if_neg e, f.2 (23 + 3) i (by simp [zz_S26, e])]
    exact c3 i hi
theorem zz_ht8 {L M : gx_Mem} {H : zz_hs} {c : Nat} (h : zz_h8 L H) (f : zz_fr (zz_S60 c) L M) (v : Nat) : zz_h8 (gx_sI M 60 c (nI v)) (zz_ht H c v) := by
  unfold zz_h8 at h ⊢
  rw [zz_ht_n, zz_ht_fl, zz_ht_aw, zz_ht_ir]
  obtain ⟨c1, c2, c3, c4, c5⟩ := h
  refine ⟨(f.2 57 1 rfl).trans c1, fun p hp => (f.2 76 p rfl).trans (c2 p hp), fun i hi => ?_, fun i hi => (f.2 77 i rfl).trans (c4 i hi), (f.2 63 0 rfl).trans c5⟩
  rw [zz_sI1, zz_ht_th]
  by_cases e : i = c
  · rw [if_pos ⟨rfl, e⟩, if_pos e]
  · rw [if_neg (fun q => e q.2), if_neg e, f.2 60 i (by simp [zz_S60, zz_SH, e])]
    exact c3 i hi
/-- with v thought the basin fills -/
def zz_Ft (lv : Nat → Nat → Nat → Nat → Nat → Nat → Nat) (H : zz_hs) (bas : Nat → Int32) (o : Int32) (c v : Nat) : Bool := zz_fa (zz_fi lv (zz_ht H c v) bas o) 4
theorem zz_tab2 : gx_tab 0 (2 : Int32).toNatClampNeg = 9 := by decide
theorem zz_amounts {M : gx_Mem} {b c t : Nat} {lv : Nat → Nat → Nat → Nat → Nat → Nat → Nat} {bas : Nat → Int32} (h : zz_IH M) (hlv : ∀ a w i f m n, lv a w i f m n ≤ a) (hL : zz_LC lv M) (hb : ∀ m, m < 4 → M.2 b m = (bas m).toInt64) (hc : c < 24) (v4 : Int32) {N : Nat} (hN : N = 10) :
    ∃ M2, f_X4_amounts b (nI t) (nI c) v4 M = some (if v4 = 0 then nI (zz_st (zz_Ft lv (zz_H M) bas (zz_o M t) c) 0 N).1 else (zz_st (zz_Ft lv (zz_H M) bas (zz_o M t) c) 0 N).2.1, M2) ∧ zz_fr zz_sc M M2 := by
  have ok := (zz_Hok h).1
  have fl := zz_lk23_fr M
  have hL2 := hL.tr (zz_lwC.sc fl)
  have hv := (zz_lk23_hw h).1
  generalize hLd : zz_lk 23 9 M = L at *
  generalize hF : zz_Ft lv (zz_H M) bas (zz_o M t) c = F
  have hFi : ∀ v, zz_fa (zz_fi lv (zz_ht (zz_H M) c v) bas (zz_o M t)) 4 = F v := fun i => by rw [← hF]; rfl
  obtain ⟨s, ⟨M2, rfl, hf⟩, e⟩ := zz_for (fun (ag31 : Int32 × Int32 × Int32 × gx_Mem → Option (Int32 × gx_Mem)) (s : Int32 × Int32 × Int32 × gx_Mem) => f_X4_amounts_k31 b (nI c) v4 (zz_o M t) (fun v5 v6 v8 M => ag31 (v5, v6, v8, M)) s.1 s.2.1 s.2.2.1 s.2.2.2) (fun s => some (if v4 = 0 then nI (zz_st F 0 N).1 else (zz_st F 0 N).2.1, s.2.2.2)) (fun i s => ∃ M', s = (nI (zz_st F 0 i).1, (zz_st F 0 i).2.1, nI i, M') ∧ zz_fr (zz_S26 c) L M') N gx_fuel (by unfold gx_fuel; omega) (0, -2, 0, L) ⟨L, rfl, zz_fr.rf⟩ (fun i s hi hs => by
      obtain ⟨M', rfl, hf⟩ := hs
      have hcn := zz_st_le F 0 i
      have fA : zz_fr (zz_S26 c) L (gx_sI M' 26 c (nI i)) := hf.sI (by simp [zz_S26])
      obtain ⟨D, d1, d2⟩ := zz_fills (k := 23) (b := b) (bas := bas) (by decide) (zz_ht_ok ok c (show i ≤ 9 by omega)) (zz_ht7 hv hf i) hlv (hL2.tr (zz_lwC.sc (fA.mono (zz_S26_sc c)))) (fun m hm => by rw [fA.1, fl.1]; exact hb m hm) (zz_o M t)
      refine ⟨(nI (zz_st F 0 (i + 1)).1, (zz_st F 0 (i + 1)).2.1, nI (i + 1), D), ⟨D, rfl, fA.tr (d2.mono (zz_S34_26 c))⟩, fun ag => ?_⟩
      dsimp only
      unfold f_X4_amounts_k31 f_X4_amounts_b77 f_X4_amounts_b82
      rw [zz_gd (show gx_in (2 : Int32) 7 = true by decide), zz_tab2, if_neg (show ¬ (9 : Int32) < nI i by rw [show (9 : Int32) = nI 9 from rfl, zz_lt (by decide) (by omega)]; omega), zz_gi hc (by decide), zz_let, zz_cl (show c < 2147483648 by omega), d1, hFi]
      simp only [zz_bIs, zz_let, zz_ifi, show nI i + 1 = nI (i + 1) from zz_add i 1, show nI (zz_st F 0 i).1 + 1 = nI ((zz_st F 0 i).1 + 1) from zz_add _ 1]
      conv => rhs; unfold zz_st
      by_cases c2 : F i = true
      · rw [if_pos c2, if_pos c2]
        by_cases c0 : (zz_st F 0 i).1 = 0
        · rw [if_pos (show nI (zz_st F 0 i).1 = 0 by rw [c0]; rfl), if_pos c0]
        · rw [if_neg (show ¬ nI (zz_st F 0 i).1 = 0 from nI_ne0 (by omega) (by omega)), if_neg c0]
      · rw [if_neg c2, if_neg c2]) (fun s hs ag => by
      obtain ⟨M', rfl, hf⟩ := hs
      dsimp only
      unfold f_X4_amounts_k31
      rw [zz_gd (show gx_in (2 : Int32) 7 = true by decide), zz_tab2, if_pos (show (9 : Int32) < nI N by rw [show (9 : Int32) = nI 9 from rfl, zz_lt (by decide) (by omega)]; omega)]
      by_cases c0 : v4 = 0
      · rw [if_pos c0, if_pos c0]
      · rw [if_neg c0, if_neg c0])
  refine ⟨M2, ?_, fl.tr (hf.mono (zz_S26_sc c))⟩
  unfold f_X4_amounts
  rw [zz_o7 h, zz_bPs, zz_liken23, zz_bPs, hLd]
  exact e
theorem zz_thought95 {A : gx_Mem} {H : zz_hs} {s c : Nat} {o : Int32} {lv : Nat → Nat → Nat → Nat → Nat → Nat → Nat} {bas : Nat → Int32} (ok : zz_hok H) (hv : zz_h8 A H) (ho : A.1 57 28 = o) (hlv : ∀ a w i f m n, lv a w i f m n ≤ a) (hL : zz_LM lv A) (hs : s < 6) (hb : ∀ m, m < 4 → (A.2 94 (60 * s + m)).toInt32 = bas m) (hc : c < 24) (v4 : Int32) {N : Nat} (hN : N = 10) :
    ∃ M2, f_X8_thought_l95 (nI s) v4 (nI c) (A.1 60 c) gx_fuel 0 (-2) 0 A = some (if v4 = 0 then nI (zz_st (zz_Ft lv H bas o c) 0 N).1 else (zz_st (zz_Ft lv H bas o c) 0 N).2.1, M2) ∧ zz_fr zz_SH A M2 := by
  generalize hF : zz_Ft lv H bas o c = F
  have hFi : ∀ v, zz_fa (zz_fi lv (zz_ht H c v) bas o) 4 = F v := fun i => by rw [← hF]; rfl
  have lw : ∀ {M' : gx_Mem}, zz_fr (zz_S60 c) A M' → zz_lwM A M' := fun {M'} f => ⟨f.2 57 27 rfl, fun i _ => ⟨f.2 69 i rfl, f.2 70 i rfl⟩, f.2 71 0 rfl, fun i _ => ⟨f.2 72 i rfl, f.2 73 i rfl⟩⟩
  obtain ⟨t, ⟨M2, rfl, hf⟩, e⟩ := zz_for (fun (ag31 : Int32 × Int32 × Int32 × gx_Mem → Option (Int32 × gx_Mem)) (s2 : Int32 × Int32 × Int32 × gx_Mem) => f_X8_thought_k95 (nI s) v4 (nI c) (A.1 60 c) (fun v7 v8 v9 M => ag31 (v7, v8, v9, M)) s2.1 s2.2.1 s2.2.2.1 s2.2.2.2) (fun s2 => some (if v4 = 0 then nI (zz_st F 0 N).1 else (zz_st F 0 N).2.1, gx_sI s2.2.2.2 60 c (A.1 60 c))) (fun i s2 => ∃ M', s2 = (nI (zz_st F 0 i).1, (zz_st F 0 i).2.1, nI i, M') ∧ zz_fr (zz_S60 c) A M') N gx_fuel (by unfold gx_fuel; omega) (0, -2, 0, A) ⟨A, rfl, zz_fr.rf⟩ (fun i s2 hi hs2 => by
      obtain ⟨M', rfl, hf⟩ := hs2
      have hcn := zz_st_le F 0 i
      have fA : zz_fr (zz_S60 c) A (gx_sI M' 60 c (nI i)) := hf.sI (by simp [zz_S60])
      obtain ⟨D, d1, d2⟩ := zz_isJust (M := gx_sI M' 60 c (nI i)) (o := o) (bas := bas) (zz_ht_ok ok c (show i ≤ 9 by omega)) (zz_ht8 hv hf i) ((fA.2 57 28 rfl).trans ho) hlv (hL.tr (lw fA)) hs (fun m hm => by rw [fA.1]; exact hb m hm)
      refine ⟨(nI (zz_st F 0 (i + 1)).1, (zz_st F 0 (i + 1)).2.1, nI (i + 1), D), ⟨D, rfl, fA.tr (d2.mono (fun k i hk => by unfold zz_S60; rw [hk]; rfl))⟩, fun ag => ?_⟩
      dsimp only
      unfold f_X8_thought_k95 f_X8_thought_b131 f_X8_thought_b134
      rw [if_neg (show ¬ (9 : Int32) < nI i by rw [show (9 : Int32) = nI 9 from rfl, zz_lt (by decide) (by omega)]; omega), zz_gi hc (by decide), zz_let, zz_cl (show c < 2147483648 by omega), d1, hFi]
      simp only [zz_bIs, zz_let, zz_ifi, show nI i + 1 = nI (i + 1) from zz_add i 1, show nI (zz_st F 0 i).1 + 1 = nI ((zz_st F 0 i).1 + 1) from zz_add _ 1]
      conv => rhs; unfold zz_st
      by_cases c2 : F i = true
      · rw [if_pos c2, if_pos c2]
        by_cases c0 : (zz_st F 0 i).1 = 0
        · rw [if_pos (show nI (zz_st F 0 i).1 = 0 by rw [c0]; rfl), if_pos c0]
        · rw [if_neg (show ¬ nI (zz_st F 0 i).1 = 0 from nI_ne0 (by omega) (by omega)), if_neg c0]
      · rw [if_neg c2, if_neg c2]) (fun s2 hs2 ag => by
      obtain ⟨M', rfl, hf⟩ := hs2
      dsimp only
      unfold f_X8_thought_k95
      rw [if_pos (show (9 : Int32) < nI N by rw [show (9 : Int32) = nI 9 from rfl, zz_lt (by decide) (by omega)]; omega), zz_gi hc (by decide), zz_let, zz_cl (show c < 2147483648 by omega)]
      by_cases c0 : v4 = 0
      · rw [if_pos c0, if_pos c0]
      · rw [if_neg c0, if_neg c0])
  refine ⟨_, e, ⟨hf.1, fun k i hk => ?_⟩⟩
  rw [zz_sI1]
  by_cases c2 : k = 60 ∧ i = c
  · rw [if_pos c2, c2.1, c2.2]
  · rw [if_neg c2, hf.2 k i (by unfold zz_S60; rw [hk]; simp; omega)]
theorem op_thought (a b c d : Int32) : zz_ok (f_X7_thought a b c d) (f_X8_thought a b c d) := by
  intro M h
  obtain ⟨n, h6, hn, hn8⟩ := h.ppl
  obtain ⟨lv, hlv, hC, hM⟩ := h.law
  unfold f_X7_thought
  rw [zz_isShelf7, zz_isHour7, zz_isPm7 hn h6, zz_isChoice7]
  simp only [zz_bPs, zz_ifi]
  have hg : ∀ M1 : gx_Mem, M1.1 57 1 = nI n → f_X8_thought a b c d M1 = if zz_rg a 6 = true then (if zz_rg b 12 = true then (if zz_pm c n = true then (if zz_rg d 2 = true then gx_bP (f_X8_rowFault a M1) (fun y10 => (if 0 ≤ y10 then gx_bP (f_X8_layNow M1) (fun M12 => gx_bP (f_X8_outAt b (63 : Int32) M12) (fun y14 => gx_let (gx_sI M12 57 28 y14) (fun M15 => gx_let (((4 : Int32) * (c / (10 : Int32))) + (gx_rem c (10 : Int32))) (fun x16 => gx_gd (gx_in x16 24) (gx_let (M15.1 60 x16.toNatClampNeg) (fun x17 => f_X8_thought_l95 a d x16 x17 gx_fuel (0 : Int32) (-2 : Int32) (0 : Int32) M15)))))) else gx_bP (f_X8_rowFault a M1) (fun y19 => some (y19, M1)))) else some (-1, M1)) else some (-1, M1)) else some (-1, M1)) else some (-1, M1) := by
    intro M1 e
    unfold f_X8_thought
    rw [zz_isShelf8, zz_isHour8, zz_areMark8 e h6, show (1 : Int32) = nI 1 from rfl, zz_in8 d 1 M1 (by decide)]
    simp only [zz_bPs, zz_ifi]
  cases h1 : zz_rg a 6 with
  | false => exact ⟨-1, M, rfl, M, by rw [hg M hn8, h1]; rfl, h⟩
  | true =>
    cases h2 : zz_rg b 12 with
    | false => exact ⟨-1, M, rfl, M, by rw [hg M hn8, h1, h2]; rfl, h⟩
    | true =>
      cases h3 : zz_pm c n with
      | false => exact ⟨-1, M, rfl, M, by rw [hg M hn8, h1, h2, h3]; rfl, h⟩
      | true =>
        cases h4 : zz_rg d 2 with
        | false => exact ⟨-1, M, rfl, M, by rw [hg M hn8, h1, h2, h3, h4]; rfl, h⟩
        | true =>
          obtain ⟨s, hs, rfl⟩ := zz_rgT h1
          obtain ⟨t, ht, rfl⟩ := zz_rgT h2
          obtain ⟨p, m, hp, hm, rfl⟩ := zz_pmT h3
          obtain ⟨l, rfl⟩ := zz_ch h4
          obtain ⟨r, r1, r2, r3⟩ := zz_basin h.IS hs
          rw [if_pos rfl, if_pos rfl, if_pos rfl, if_pos rfl, zz_gi hs (by decide), zz_let, zz_cl (show s < 2147483648 by omega), r1, zz_bPs]
          rcases r3 with ⟨rfl, t0⟩ | ⟨n0, neg⟩
          · obtain ⟨bas, b1, b2⟩ := zz_bas h.IS hs t0
            obtain ⟨N, hN⟩ : ∃ N, N = 10 := ⟨_, rfl⟩
            have hc24 : 4 * p + m < 24 := by omega
            have hcell : (4 : Int32) * (nI (10 * p + m) / (10 : Int32)) + gx_rem (nI (10 * p + m)) (10 : Int32) = nI (4 * p + m) := by
              rw [(zz_c24 (show p < 6 by omega) hm).1, (zz_c24 (show p < 6 by omega) hm).2, show (4 : Int32) = nI 4 from rfl, zz_mul, zz_add]
            obtain ⟨M1, e1, f1⟩ := zz_amounts (b := 44 + 2 * s + 1) (t := t) h.IH hlv hC (by rw [show 44 + 2 * s + 1 = 45 + 2 * s by omega]; exact b1) hc24 (zz_i l) hN
            have e0 : (if zz_i l = (1 : Int32) then f_X7_thought_b87 (44 + 2 * s + 1) (nI t) (nI (4 * p + m)) 1 M else f_X7_thought_b87 (44 + 2 * s + 1) (nI t) (nI (4 * p + m)) 0 M) = gx_bI (f_X4_amounts (44 + 2 * s + 1) (nI t) (nI (4 * p + m)) (zz_i l) M) (fun y14 M15 => some (y14, M15)) := by
              cases l with
              | false => rw [if_neg (show ¬ zz_i false = 1 by decide)]; rfl
              | true => rw [if_pos (show zz_i true = 1 from rfl)]; rfl
            rw [if_pos rfl, zz_gi hs (by decide), zz_let, hcell, e0, e1, zz_bIs]
            refine ⟨_, M1, rfl, ?_⟩
            have i1 : zz_Inv M1 := h.fr f1
            have hH := zz_H_fr f1 zz_sc_9
            have fn := zz_now_fr M1
            have fn2 : zz_fr zz_sc M1 (gx_sI (zz_now M1) 57 28 (zz_o M t)) := fn.sI rfl
            obtain ⟨g1, g2, g3, g4, g5⟩ := zz_now_h8 i1.IH
            obtain ⟨M2, e2, f2⟩ := zz_thought95 (A := gx_sI (zz_now M1) 57 28 (zz_o M t)) (o := zz_o M t) (s := s) (bas := bas) (zz_Hok i1.IH).1 ⟨g1, g2, g3, g4, g5⟩ rfl hlv (hM.tr ((zz_lwM.sc f1).tr (zz_lwM.sc fn2))) hs (fun m hm => by rw [fn2.1, f1.1]; exact b2 m hm) hc24 (zz_i l) hN
            refine ⟨M2, ?_, i1.fr (fn2.tr (f2.mono zz_SH_sc))⟩
            rw [hg M1 ((f1.2 57 1 rfl).trans hn8), h1, h2, h3, h4, if_pos rfl, if_pos rfl, if_pos rfl, if_pos rfl, r2 M1 (f1.2 92 s rfl) (f1.2 93 s rfl), zz_bPs, if_pos (show (0 : Int32) ≤ 0 by decide), zz_layNow M1 (by rw [i1.IH.1.2]; exact i1.IH.1.1), zz_bPs, zz_o8 (M := M1) (A := zz_now M1) i1.IH rfl (fun i => rfl), zz_o_fr f1 zz_sc_9, zz_bPs, zz_let, zz_let, hcell, zz_gi hc24 (by decide), zz_let, zz_cl (show 4 * p + m < 2147483648 by omega), e2, hH]
          · rw [if_neg n0]
            refine ⟨r, M, rfl, M, ?_, h⟩
            rw [hg M hn8, h1, h2, h3, h4, if_pos rfl, if_pos rfl, if_pos rfl, if_pos rfl, r2 M rfl rfl, zz_bPs, if_neg (show ¬ (0 : Int32) ≤ r by rw [zz_leI, zz_t0]; rw [zz_ltI, zz_t0] at neg; omega), zz_bPs]

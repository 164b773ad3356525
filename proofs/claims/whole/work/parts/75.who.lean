/-- how many of F are among the first n, the least, who is in all (a0 before) -/
def zz_st (F : Nat → Bool) (a0 : Int32) : Nat → Nat × Int32 × Int32
  | 0 => (0, -2, a0)
  | n + 1 => if F n = true then ((zz_st F a0 n).1 + 1, (if (zz_st F a0 n).1 = 0 then nI n else (zz_st F a0 n).2.1), (zz_st F a0 n).2.2 &&& nI n) else zz_st F a0 n
theorem zz_st_le (F : Nat → Bool) (a0 : Int32) : ∀ n, (zz_st F a0 n).1 ≤ n
  | 0 => Nat.le_refl _
  | n + 1 => by
    have := zz_st_le F a0 n
    unfold zz_st
    by_cases c : F n = true
    · rw [if_pos c]; show _ + 1 ≤ n + 1; omega
    · rw [if_neg c]; omega
theorem zz_and63 : ∀ n, n < 64 → 63 &&& nI n = nI n ∧ -1 &&& nI n = nI n := by decide
theorem zz_st_same (F : Nat → Bool) : ∀ n, n ≤ 64 → (zz_st F 63 n).1 = (zz_st F (-1) n).1 ∧ (zz_st F 63 n).2.1 = (zz_st F (-1) n).2.1 ∧ (((zz_st F 63 n).1 = 0 ∧ (zz_st F 63 n).2.2 = 63 ∧ (zz_st F (-1) n).2.2 = -1) ∨ (zz_st F 63 n).2.2 = (zz_st F (-1) n).2.2)
  | 0, _ => ⟨rfl, rfl, .inl ⟨rfl, rfl, rfl⟩⟩
  | n + 1, h => by
    obtain ⟨h1, h2, h3⟩ := zz_st_same F n (by omega)
    have a := zz_and63 n (by omega)
    unfold zz_st
    by_cases c : F n = true
    · rw [if_pos c, if_pos c]
      dsimp only
      rw [h1, h2]
      refine ⟨rfl, rfl, .inr ?_⟩
      rcases h3 with ⟨-, h4, h5⟩ | h4
      · rw [h4, h5, a.1, a.2]
      · rw [h4]
    · rw [if_neg c, if_neg c]
      exact ⟨h1, h2, h3⟩
theorem zz_shl2 : ∀ n, n ≤ 6 → gx_shl 1 (nI n) = nI (2 ^ n) ∧ 2 ^ n ≤ 64 := by decide
/-- the set i fills the basin -/
def zz_F (lv : Nat → Nat → Nat → Nat → Nat → Nat → Nat) (H : zz_hs) (bas : Nat → Int32) (i : Nat) : Bool := zz_fa (zz_fi lv H bas (nI i)) 4
theorem zz_sets {M : gx_Mem} {b : Nat} {lv : Nat → Nat → Nat → Nat → Nat → Nat → Nat} {bas : Nat → Int32} (h : zz_IH M) (hlv : ∀ a w i f m n, lv a w i f m n ≤ a) (hL : zz_LC lv M) (hb : ∀ m, m < 4 → M.2 b m = (bas m).toInt64) (v2 : Int32) {N : Nat} (hN : N = 2 ^ (zz_H M).n) :
    ∃ M2, f_X4_sets b v2 M = some (if v2 = 2 then (if (zz_st (zz_F lv (zz_H M) bas) 63 N).1 = 0 then 0 else (zz_st (zz_F lv (zz_H M) bas) 63 N).2.2) else (if v2 = 1 then (zz_st (zz_F lv (zz_H M) bas) 63 N).2.1 else nI (zz_st (zz_F lv (zz_H M) bas) 63 N).1), M2) ∧ zz_fr zz_S34 M M2 := by
  have ok := (zz_Hok h).1
  have hv := (zz_Hok h).2
  have h6 := ok.1
  obtain ⟨p1, p2⟩ := zz_shl2 _ h6
  generalize hF : zz_F lv (zz_H M) bas = F
  have hFi : ∀ i, zz_fa (zz_fi lv (zz_H M) bas (nI i)) 4 = F i := fun i => by rw [← hF]; rfl
  obtain ⟨t, ⟨M2, rfl, hf⟩, e⟩ := zz_for (fun (ag13 : Int32 × Int32 × Int32 × Int32 × gx_Mem → Option (Int32 × gx_Mem)) (s : Int32 × Int32 × Int32 × Int32 × gx_Mem) => f_X4_sets_k13 b v2 (fun v3 v4 v5 v6 M => ag13 (v3, v4, v5, v6, M)) s.1 s.2.1 s.2.2.1 s.2.2.2.1 s.2.2.2.2) (fun s => some (if v2 = 2 then (if (zz_st F 63 N).1 = 0 then 0 else (zz_st F 63 N).2.2) else (if v2 = 1 then (zz_st F 63 N).2.1 else nI (zz_st F 63 N).1), s.2.2.2.2)) (fun i s => ∃ M', s = (nI (zz_st F 63 i).1, (zz_st F 63 i).2.1, (zz_st F 63 i).2.2, nI i, M') ∧ zz_fr zz_S34 M M') N gx_fuel (by unfold gx_fuel; omega) (0, -2, 63, 0, M) ⟨M, rfl, zz_fr.rf⟩ (fun i s hi hs => by
      obtain ⟨M', rfl, hf⟩ := hs
      have hc := zz_st_le F 63 i
      obtain ⟨D, d1, d2⟩ := zz_fills (k := 9) (b := b) (by decide) ok (hv.fr (by decide) hf) hlv (hL.tr (zz_lwC.fr hf)) (fun m hm => by rw [hf.1]; exact hb m hm) (nI i)
      refine ⟨(nI (zz_st F 63 (i + 1)).1, (zz_st F 63 (i + 1)).2.1, (zz_st F 63 (i + 1)).2.2, nI (i + 1), D), ⟨D, rfl, hf.tr d2⟩, fun ag => ?_⟩
      dsimp only
      unfold f_X4_sets_k13 f_X4_sets_b63 f_X4_sets_b51 f_X4_sets_b63
      rw [(hf.2 9 7 rfl).trans hv.1, p1, if_neg (show ¬ nI (2 ^ (zz_H M).n) ≤ nI i by rw [zz_le (by omega) (by omega)]; omega), d1, hFi]
      simp only [zz_bIs, zz_let, zz_ifi, show nI i + 1 = nI (i + 1) from zz_add i 1, show nI (zz_st F 63 i).1 + 1 = nI ((zz_st F 63 i).1 + 1) from zz_add _ 1]
      conv => rhs; unfold zz_st
      by_cases c : F i = true
      · rw [if_pos c, if_pos c]
        by_cases c0 : (zz_st F 63 i).1 = 0
        · rw [if_pos (show nI (zz_st F 63 i).1 = 0 by rw [c0]; rfl), if_pos c0]
        · rw [if_neg (show ¬ nI (zz_st F 63 i).1 = 0 by rw [show (0 : Int32) = nI 0 from rfl, zz_eq (by omega) (by decide)]; exact c0), if_neg c0]
      · rw [if_neg c, if_neg c]) (fun s hs ag => by
      obtain ⟨M', rfl, hf⟩ := hs
      have hc := zz_st_le F 63 N
      dsimp only
      unfold f_X4_sets_k13
      rw [(hf.2 9 7 rfl).trans hv.1, p1, if_pos (show nI (2 ^ (zz_H M).n) ≤ nI N by rw [zz_le (by omega) (by omega)]; omega)]
      by_cases a2 : v2 = 2
      · rw [if_pos a2, if_pos a2]
        by_cases c0 : (zz_st F 63 N).1 = 0
        · rw [if_pos (show nI (zz_st F 63 N).1 = 0 by rw [c0]; rfl), if_pos c0]
        · rw [if_neg (show ¬ nI (zz_st F 63 N).1 = 0 by rw [show (0 : Int32) = nI 0 from rfl, zz_eq (by omega) (by decide)]; exact c0), if_neg c0]
      · rw [if_neg a2, if_neg a2]
        by_cases a1 : v2 = 1
        · rw [if_pos a1, if_pos a1]
        · rw [if_neg a1, if_neg a1])
  exact ⟨M2, e, hf⟩
theorem zz_who56 {M : gx_Mem} {s : Nat} {H : zz_hs} {lv : Nat → Nat → Nat → Nat → Nat → Nat → Nat} {bas : Nat → Int32} (ok : zz_hok H) (hv : zz_h8 M H) (hlv : ∀ a w i f m n, lv a w i f m n ≤ a) (hL : zz_LM lv M) (hs : s < 6) (hb : ∀ m, m < 4 → (M.2 94 (60 * s + m)).toInt32 = bas m) (v3 : Int32) {N : Nat} (hN : N = 2 ^ H.n) :
    ∃ M2, f_X8_who_l56 (nI s) v3 gx_fuel 0 (-2) (-1) 0 M = some (if v3 = 0 then nI (zz_st (zz_F lv H bas) (-1) N).1 else (if v3 = 1 then (zz_st (zz_F lv H bas) (-1) N).2.1 else (if (zz_st (zz_F lv H bas) (-1) N).1 = 0 then 0 else (zz_st (zz_F lv H bas) (-1) N).2.2)), M2) ∧ zz_fr zz_SG M M2 := by
  have h6 := ok.1
  obtain ⟨p1, p2⟩ := zz_shl2 _ h6
  generalize hF : zz_F lv H bas = F
  have hFi : ∀ i, zz_fa (zz_fi lv H bas (nI i)) 4 = F i := fun i => by rw [← hF]; rfl
  obtain ⟨t, ⟨M2, rfl, hf⟩, e⟩ := zz_for (fun (ag13 : Int32 × Int32 × Int32 × Int32 × gx_Mem → Option (Int32 × gx_Mem)) (t : Int32 × Int32 × Int32 × Int32 × gx_Mem) => f_X8_who_k56 (nI s) v3 (fun v3 v4 v5 v6 M => ag13 (v3, v4, v5, v6, M)) t.1 t.2.1 t.2.2.1 t.2.2.2.1 t.2.2.2.2) (fun t => some (if v3 = 0 then nI (zz_st F (-1) N).1 else (if v3 = 1 then (zz_st F (-1) N).2.1 else (if (zz_st F (-1) N).1 = 0 then 0 else (zz_st F (-1) N).2.2)), t.2.2.2.2)) (fun i t => ∃ M', t = (nI (zz_st F (-1) i).1, (zz_st F (-1) i).2.1, (zz_st F (-1) i).2.2, nI i, M') ∧ zz_fr zz_SG M M') N gx_fuel (by unfold gx_fuel; omega) (0, -2, -1, 0, M) ⟨M, rfl, zz_fr.rf⟩ (fun i t hi ht => by
      obtain ⟨M', rfl, hf⟩ := ht
      have hc := zz_st_le F (-1) i
      have f1 : zz_fr zz_SG M (gx_sI M' 57 28 (nI i)) := hf.sI rfl
      obtain ⟨D, d1, d2⟩ := zz_isJust (M := gx_sI M' 57 28 (nI i)) (o := nI i) (bas := bas) ok (hv.frG f1) rfl hlv (hL.tr (zz_lwM.sc (f1.mono zz_SG_sc))) hs (fun m hm => by rw [f1.1]; exact hb m hm)
      refine ⟨(nI (zz_st F (-1) (i + 1)).1, (zz_st F (-1) (i + 1)).2.1, (zz_st F (-1) (i + 1)).2.2, nI (i + 1), D), ⟨D, rfl, f1.tr (d2.mono zz_SH_SG)⟩, fun ag => ?_⟩
      dsimp only
      unfold f_X8_who_k56 f_X8_who_b103 f_X8_who_b93 f_X8_who_b103
      rw [(hf.2 57 1 rfl).trans hv.1, p1, if_neg (show ¬ nI (2 ^ H.n) ≤ nI i by rw [zz_le (by omega) (by omega)]; omega), zz_let, d1, hFi]
      simp only [zz_bIs, zz_let, zz_ifi, show nI i + 1 = nI (i + 1) from zz_add i 1, show nI (zz_st F (-1) i).1 + 1 = nI ((zz_st F (-1) i).1 + 1) from zz_add _ 1]
      conv => rhs; unfold zz_st
      by_cases c : F i = true
      · rw [if_pos c, if_pos c]
        by_cases c0 : (zz_st F (-1) i).1 = 0
        · rw [if_pos (show nI (zz_st F (-1) i).1 = 0 by rw [c0]; rfl), if_pos c0]
        · rw [if_neg (show ¬ nI (zz_st F (-1) i).1 = 0 by rw [show (0 : Int32) = nI 0 from rfl, zz_eq (by omega) (by decide)]; exact c0), if_neg c0]
      · rw [if_neg c, if_neg c]) (fun t ht ag => by
      obtain ⟨M', rfl, hf⟩ := ht
      have hc := zz_st_le F (-1) N
      dsimp only
      unfold f_X8_who_k56
      rw [(hf.2 57 1 rfl).trans hv.1, p1, if_pos (show nI (2 ^ H.n) ≤ nI N by rw [zz_le (by omega) (by omega)]; omega)]
      by_cases a0 : v3 = 0
      · rw [if_pos a0, if_pos a0]
      · rw [if_neg a0, if_neg a0]
        by_cases a1 : v3 = 1
        · rw [if_pos a1, if_pos a1]
        · rw [if_neg a1, if_neg a1]
          by_cases c0 : (zz_st F (-1) N).1 = 0
          · rw [if_pos (show nI (zz_st F (-1) N).1 = 0 by rw [c0]; rfl), if_pos c0]
          · rw [if_neg (show ¬ nI (zz_st F (-1) N).1 = 0 by rw [show (0 : Int32) = nI 0 from rfl, zz_eq (by omega) (by decide)]; exact c0), if_neg c0])
  exact ⟨M2, e, hf⟩
theorem zz_whoE {w : Nat} (hw : w < 3) {X Y : Nat × Int32 × Int32} (s1 : X.1 = Y.1) (s2 : X.2.1 = Y.2.1) (s3 : (X.1 = 0 ∧ X.2.2 = 63 ∧ Y.2.2 = -1) ∨ X.2.2 = Y.2.2) : (if nI w = 2 then (if X.1 = 0 then 0 else X.2.2) else (if nI w = 1 then X.2.1 else nI X.1)) = (if nI w = 0 then nI Y.1 else (if nI w = 1 then Y.2.1 else (if Y.1 = 0 then 0 else Y.2.2))) := by
  rw [← s1, ← s2]
  rcases (show w = 0 ∨ w = 1 ∨ w = 2 by omega) with rfl | rfl | rfl
  · rw [if_neg (show ¬ nI 0 = 2 by decide), if_neg (show ¬ nI 0 = 1 by decide), if_pos (show nI 0 = 0 from rfl)]
  · rw [if_neg (show ¬ nI 1 = 2 by decide), if_pos (show nI 1 = 1 from rfl), if_neg (show ¬ nI 1 = 0 by decide), if_pos (show nI 1 = 1 from rfl)]
  · rw [if_pos (show nI 2 = 2 from rfl), if_neg (show ¬ nI 2 = 0 by decide), if_neg (show ¬ nI 2 = 1 by decide)]
    by_cases c0 : X.1 = 0
    · rw [if_pos c0, if_pos c0]
    · rw [if_neg c0, if_neg c0]
      rcases s3 with ⟨q, -⟩ | q
      · exact absurd q c0
      · rw [q]
theorem op_who (a b c : Int32) : zz_ok (f_X7_who a b c) (f_X8_who a b c) := by
  intro M h
  obtain ⟨lv, hlv, hC, hM⟩ := h.law
  unfold f_X7_who
  rw [zz_isShelf7, zz_isHour7]
  simp only [zz_bPs, zz_ifi]
  have hg : ∀ M1 : gx_Mem, f_X8_who a b c M1 = if zz_rg a 6 = true then (if zz_rg b 12 = true then (if zz_rg c 3 = true then gx_bP (f_X8_rowFault a M1) (fun y8 => (if 0 ≤ y8 then gx_bP (f_X8_layNow M1) (fun M10 => f_X8_who_l56 a c gx_fuel (0 : Int32) (-2 : Int32) (-1 : Int32) (0 : Int32) M10) else gx_bP (f_X8_rowFault a M1) (fun y12 => some (y12, M1)))) else some (-1, M1)) else some (-1, M1)) else some (-1, M1) := by
    intro M1
    unfold f_X8_who
    rw [zz_isShelf8, zz_isHour8, show (2 : Int32) = nI 2 from rfl, zz_in8 c 2 M1 (by decide)]
    simp only [zz_bPs, zz_ifi]
  cases h1 : zz_rg a 6 with
  | false => exact ⟨-1, M, rfl, M, by rw [hg M, h1]; rfl, h⟩
  | true =>
    cases h2 : zz_rg b 12 with
    | false => exact ⟨-1, M, rfl, M, by rw [hg M, h1, h2]; rfl, h⟩
    | true =>
      rw [if_pos rfl, if_pos rfl]
      cases h3 : zz_rg c 3 with
      | false =>
        refine ⟨-1, M, ?_, M, by rw [hg M, h1, h2, h3]; rfl, h⟩
        rcases zz_case c with hc | ⟨j, hj, rfl⟩
        · rw [if_pos hc]
        · rw [if_neg (nI_pos hj)]
          rw [zz_rgN hj] at h3
          have := of_decide_eq_false h3
          rw [if_neg (show ¬ nI j ≤ 2 by rw [show (2 : Int32) = nI 2 from rfl, zz_le hj (by decide)]; omega)]
      | true =>
        obtain ⟨s, hs, rfl⟩ := zz_rgT h1
        obtain ⟨w, hw, rfl⟩ := zz_rgT h3
        obtain ⟨r, r1, r2, r3⟩ := zz_basin h.IS hs
        rw [if_neg (nI_pos (show w < 2147483648 by omega)), if_pos (show nI w ≤ 2 by rw [show (2 : Int32) = nI 2 from rfl, zz_le (by omega) (by decide)]; omega), zz_gi hs (by decide), zz_let, zz_cl (show s < 2147483648 by omega), r1, zz_bPs]
        rcases r3 with ⟨rfl, t0⟩ | ⟨n0, neg⟩
        · obtain ⟨bas, b1, b2⟩ := zz_bas h.IS hs t0
          obtain ⟨N, hN⟩ : ∃ N, N = 2 ^ (zz_H M).n := ⟨_, rfl⟩
          obtain ⟨M1, e1, f1⟩ := zz_sets (b := 44 + 2 * s + 1) h.IH hlv hC (by rw [show 44 + 2 * s + 1 = 45 + 2 * s by omega]; exact b1) (nI w) hN
          rw [if_pos rfl, zz_gi hs (by decide), zz_let, e1, zz_bIs]
          refine ⟨_, M1, rfl, ?_⟩
          have i1 : zz_Inv M1 := h.fr (f1.mono zz_S34_sc)
          have hH := zz_H_fr f1 zz_S34_9
          have fn := zz_now_fr M1
          obtain ⟨M2, e2, f2⟩ := zz_who56 (M := zz_now M1) (s := s) (bas := bas) (zz_Hok i1.IH).1 (zz_now_h8 i1.IH) hlv (hM.tr ((zz_lwM.sc (f1.mono zz_S34_sc)).tr (zz_lwM.sc fn))) hs (fun m hm => by rw [fn.1, f1.1]; exact b2 m hm) (nI w) (N := N) (by rw [hH]; exact hN)
          refine ⟨M2, ?_, i1.fr (fn.tr (f2.mono zz_SG_sc))⟩
          rw [hg M1, h1, h2, h3, if_pos rfl, if_pos rfl, if_pos rfl, r2 M1 (f1.2 92 s rfl) (f1.2 93 s rfl), zz_bPs, if_pos (show (0 : Int32) ≤ 0 by decide), zz_layNow M1 (by rw [i1.IH.1.2]; exact i1.IH.1.1), zz_bPs, e2, hH]
          have h64 := (zz_shl2 _ (zz_Hok h.IH).1.1).2
          obtain ⟨s1, s2, s3⟩ := zz_st_same (zz_F lv (zz_H M) bas) N (by omega)
          exact congrArg some (Prod.ext (zz_whoE hw s1 s2 s3).symm rfl)
        · rw [if_neg n0]
          refine ⟨r, M, rfl, M, ?_, h⟩
          rw [hg M, h1, h2, h3, if_pos rfl, if_pos rfl, if_pos rfl, r2 M rfl rfl, zz_bPs, if_neg (show ¬ (0 : Int32) ≤ r by rw [zz_leI, zz_t0]; rw [zz_ltI, zz_t0] at neg; omega), zz_bPs]

theorem zz_shift_loop2 {o j m : Nat} (ho : o < 6) (hj : j + m ≤ 60) (M : gx_Mem) : ∃ M2, f_X8_shift_l150 (nI o) (nI j) (nI m) gx_fuel (0 : Int32) M = some (nI m, M2) ∧ M2.1 = M.1 ∧ ∀ q x, M2.2 q x = if q = 94 ∧ 60 * o + j ≤ x ∧ x < 60 * o + j + m then M.2 95 (x - (60 * o + j)) else M.2 q x := by
  obtain ⟨s2, ⟨h1, h2, h3⟩, h4⟩ := zz_loopE (γ := Unit) (b := fun _ (ag : Int32 × gx_Mem → Option (Int32 × gx_Mem)) (t : Int32 × gx_Mem) => f_X8_shift_k150 (nI o) (nI j) (nI m) (fun v6 M => ag (v6, M)) t.1 t.2) (E := fun _ t => some (nI m, t.2)) (I := fun k t => t.1 = nI k ∧ t.2.1 = M.1 ∧ ∀ q x, t.2.2 q x = if q = 94 ∧ 60 * o + j ≤ x ∧ x < 60 * o + j + k then M.2 95 (x - (60 * o + j)) else M.2 q x) (N := m) (by
    rintro k ⟨v, w⟩ hk ⟨h1, h2, h3⟩
    have h1 : v = nI k := h1
    subst h1
    refine ⟨(nI (k + 1), gx_sL w 94 (60 * o + j + k) (w.2 95 k)), ⟨rfl, h2, fun q x => ?_⟩, fun _ ag => ?_⟩
    · show (gx_sL w 94 (60 * o + j + k) (w.2 95 k)).2 q x = _
      rw [zz_sL2, h3, h3]
      by_cases e : q = 94 ∧ x = 60 * o + j + k
      · obtain ⟨rfl, rfl⟩ := e
        rw [if_pos ⟨rfl, rfl⟩, if_neg (by omega), if_pos (by omega), show 60 * o + j + k - (60 * o + j) = k by omega]
      · rw [if_neg e]
        by_cases e2 : q = 94 ∧ 60 * o + j ≤ x ∧ x < 60 * o + j + k
        · rw [if_pos e2, if_pos (by omega)]
        · rw [if_neg e2, if_neg (by omega)]
    · show f_X8_shift_k150 (nI o) (nI j) (nI m) _ (nI k) w = _
      unfold f_X8_shift_k150
      rw [if_neg (nI_ge hk (by omega)), show (60 : Int32) = nI 60 from rfl, zz_mul, zz_add, zz_add, zz_gi (show k < 60 by omega) (by decide), zz_gi (show 60 * o + j + k < 360 by omega) (by decide), zz_let, zz_let, zz_cl (show k < 2147483648 by omega), zz_cl (show 60 * o + j + k < 2147483648 by omega), show nI k + 1 = nI (k + 1) from nI_1 _]) (by
    rintro ⟨v, w⟩ ⟨h1, h2, h3⟩ _ ag
    have h1 : v = nI m := h1
    subst h1
    show f_X8_shift_k150 (nI o) (nI j) (nI m) _ (nI m) w = _
    unfold f_X8_shift_k150
    rw [if_pos (nI_le (Nat.le_refl _) (by omega))]) m 0 (0, M) (by omega) ⟨rfl, rfl, fun q x => by rw [if_neg (by omega)]⟩
  exact ⟨s2.2, h4 () gx_fuel (Nat.lt_of_le_of_lt (show m ≤ 60 by omega) (by decide)), h2, h3⟩
theorem zz_shift_loop {s i o j m : Nat} (hs : s < 6) (hi : i + m ≤ 60) (ho : o < 6) (hj : j + m ≤ 60) (M : gx_Mem) : ∃ M2, f_X8_shift_l113 (nI s) (nI i) (nI o) (nI j) (nI m) gx_fuel (0 : Int32) M = some (nI m, M2) ∧ M2.1 = M.1 ∧ ∀ q x, q ≠ 95 → M2.2 q x = if q = 94 ∧ 60 * o + j ≤ x ∧ x < 60 * o + j + m then M.2 94 (60 * s + (i + (x - (60 * o + j)))) else M.2 q x := by
  obtain ⟨s2, ⟨h1, h2, h3⟩, h4⟩ := zz_loopE (γ := Unit) (b := fun _ (ag : Int32 × gx_Mem → Option (Int32 × gx_Mem)) (t : Int32 × gx_Mem) => f_X8_shift_k113 (nI s) (nI i) (nI o) (nI j) (nI m) (fun v6 M => ag (v6, M)) t.1 t.2) (E := fun _ t => f_X8_shift_l150 (nI o) (nI j) (nI m) gx_fuel (0 : Int32) t.2) (I := fun k t => t.1 = nI k ∧ t.2.1 = M.1 ∧ ∀ q x, t.2.2 q x = if q = 95 ∧ x < k then M.2 94 (60 * s + (i + x)) else M.2 q x) (N := m) (by
    rintro k ⟨v, w⟩ hk ⟨h1, h2, h3⟩
    have h1 : v = nI k := h1
    subst h1
    refine ⟨(nI (k + 1), gx_sL w 95 k (w.2 94 (60 * s + i + k))), ⟨rfl, h2, fun q x => ?_⟩, fun _ ag => ?_⟩
    · show (gx_sL w 95 k (w.2 94 (60 * s + i + k))).2 q x = _
      rw [zz_sL2, h3, h3]
      by_cases e : q = 95 ∧ x = k
      · obtain ⟨rfl, rfl⟩ := e
        rw [if_pos ⟨rfl, rfl⟩, if_neg (by omega), if_pos (by omega), show 60 * s + (i + x) = 60 * s + i + x by omega]
      · rw [if_neg e]
        by_cases e2 : q = 95 ∧ x < k
        · rw [if_pos e2, if_pos (by omega)]
        · rw [if_neg e2, if_neg (by omega)]
    · show f_X8_shift_k113 (nI s) (nI i) (nI o) (nI j) (nI m) _ (nI k) w = _
      unfold f_X8_shift_k113
      rw [if_neg (nI_ge hk (by omega)), show (60 : Int32) = nI 60 from rfl, zz_mul, zz_add, zz_add, zz_gi (show 60 * s + i + k < 360 by omega) (by decide), zz_gi (show k < 60 by omega) (by decide), zz_let, zz_let, zz_cl (show k < 2147483648 by omega), zz_cl (show 60 * s + i + k < 2147483648 by omega), show nI k + 1 = nI (k + 1) from nI_1 _]) (by
    rintro ⟨v, w⟩ ⟨h1, h2, h3⟩ _ ag
    have h1 : v = nI m := h1
    subst h1
    show f_X8_shift_k113 (nI s) (nI i) (nI o) (nI j) (nI m) _ (nI m) w = _
    unfold f_X8_shift_k113
    rw [if_pos (nI_le (Nat.le_refl _) (by omega))]) m 0 (0, M) (by omega) ⟨rfl, rfl, fun q x => by rw [if_neg (by omega)]⟩
  obtain ⟨M2, k1, k2, k3⟩ := zz_shift_loop2 ho hj s2.2
  refine ⟨M2, (h4 () gx_fuel (Nat.lt_of_le_of_lt (show m ≤ 60 by omega) (by decide))).trans k1, k2.trans h2, fun q x hq => ?_⟩
  rw [k3]
  by_cases e : q = 94 ∧ 60 * o + j ≤ x ∧ x < 60 * o + j + m
  · rw [if_pos e, if_pos e, h3, if_pos (by omega)]
  · rw [if_neg e, if_neg e, h3, if_neg (by omega)]
theorem op_shift (a i b j n : Int32) : zz_ok (f_X7_shift a i b j n) (f_X8_shift a i b j n) := by
  intro M h
  unfold f_X7_shift
  rw [zz_isShelf7, zz_isShelf7]
  simp only [zz_bPs, zz_ifi]
  have hg : ∀ M1 : gx_Mem, zz_rg a 6 = true → zz_rg b 6 = true → f_X8_shift a i b j n M1 = gx_gd (gx_in a 6) ((if (M1.1 92 a.toNatClampNeg) = (-1 : Int32) then some ((-11 : Int32), M1) else gx_gd (gx_in b 6) ((if (M1.1 92 b.toNatClampNeg) = (-1 : Int32) then some ((-11 : Int32), M1) else gx_gd (gx_in a 6) ((if 0 ≤ (M1.1 92 a.toNatClampNeg) then some ((-12 : Int32), M1) else gx_gd (gx_in a 6) (gx_gd (gx_in b 6) ((if (M1.1 92 a.toNatClampNeg) = (M1.1 92 b.toNatClampNeg) then (if n < 0 then some ((-13 : Int32), M1) else (if i < 0 then some ((-13 : Int32), M1) else (if j < 0 then some ((-13 : Int32), M1) else gx_gd (gx_in a 6) ((if ((M1.1 93 a.toNatClampNeg) - n) < i then some ((-13 : Int32), M1) else gx_gd (gx_in b 6) ((if j ≤ ((M1.1 93 b.toNatClampNeg) - n) then f_X8_shift_l113 a i b j n gx_fuel (0 : Int32) M1 else some ((-13 : Int32), M1)))))))) else some ((-12 : Int32), M1)))))))))) := by
    intro M1 ha hb
    unfold f_X8_shift
    rw [zz_isShelf8, zz_isShelf8, ha, hb]
    rfl
  cases ha : zz_rg a 6 with
  | false =>
    refine ⟨-1, M, rfl, M, ?_, h⟩
    unfold f_X8_shift
    rw [zz_isShelf8, ha]; rfl
  | true =>
    cases hb : zz_rg b 6 with
    | false =>
      refine ⟨-1, M, rfl, M, ?_, h⟩
      unfold f_X8_shift
      rw [zz_isShelf8, zz_isShelf8, ha, hb]; rfl
    | true =>
      have hg := fun M1 => hg M1 ha hb
      obtain ⟨s, hs, rfl⟩ := zz_rgT ha
      obtain ⟨o, ho, rfl⟩ := zz_rgT hb
      simp only [zz_gi hs (by decide), zz_gi ho (by decide), zz_let, zz_cl (show s < 2147483648 by omega), zz_cl (show o < 2147483648 by omega), if_true] at hg ⊢
      obtain ⟨q, qa, qb⟩ := h.IS s hs
      obtain ⟨p, pa, pb⟩ := h.IS o ho
      rw [zz_emp (t := 0) q, zz_emp (t := 0) p]
      simp only [zz_bPs, zz_ifi]
      rcases q with ⟨h1, h2, h3⟩ | ⟨d, h1, h2, h3, h4, h5⟩ | ⟨k, z, h1, h2, h3, h4, h5, h6, h7⟩
      · rw [h3, if_pos (by decide)]
        exact ⟨-11, M, rfl, M, by rw [hg, h3, if_pos rfl], h⟩
      · rw [h5, h2, decide_eq_false (zz_ne1 (by omega)), if_neg (by decide)]
        rcases p with ⟨g1, g2, g3⟩ | ⟨e, g1, g2, g3, g4, g5⟩ | ⟨l, y, g1, g2, g3, g4, g5, g6, g7⟩
        · rw [g3, if_pos (by decide)]
          exact ⟨-11, M, rfl, M, by rw [hg, h5, h2, if_neg (zz_ne1 (by omega)), g3, if_pos rfl], h⟩
        · rw [g5, g2, decide_eq_false (zz_ne1 (by omega)), if_neg (by decide), h4, if_pos zz_m1b]
          exact ⟨-12, M, rfl, M, by rw [hg, h5, h2, if_neg (zz_ne1 (by omega)), g5, g2, if_neg (zz_ne1 (by omega)), if_pos (zz_p0 (by omega))], h⟩
        · rw [g6, g4, decide_eq_false (zz_2m g1).2.1, if_neg (by decide), h4, if_pos zz_m1b]
          exact ⟨-12, M, rfl, M, by rw [hg, h5, h2, if_neg (zz_ne1 (by omega)), g6, g4, if_neg (zz_2m g1).2.1, if_pos (zz_p0 (by omega))], h⟩
      · have hnp : ¬ (0 : Int32) ≤ -2 - nI k := by
          have := (zz_2m h1).1
          rw [zz_ltI] at this
          rw [zz_leI]; omega
        rw [h6, h4, decide_eq_false (zz_2m h1).2.1, if_neg (by decide)]
        rcases p with ⟨g1, g2, g3⟩ | ⟨e, g1, g2, g3, g4, g5⟩ | ⟨l, y, g1, g2, g3, g4, g5, g6, g7⟩
        · rw [g3, if_pos (by decide)]
          exact ⟨-11, M, rfl, M, by rw [hg, h6, h4, if_neg (zz_2m h1).2.1, g3, if_pos rfl], h⟩
        · rw [g5, g2, decide_eq_false (zz_ne1 (by omega)), if_neg (by decide), g4, if_neg (nI_pos (show k < 2147483648 by omega)), if_neg (zz_ne1 (by omega))]
          refine ⟨-12, M, rfl, M, ?_, h⟩
          rw [hg, h6, h4, if_neg (zz_2m h1).2.1, g5, g2, if_neg (zz_ne1 (by omega)), if_neg hnp, if_neg]
          intro e2
          have := (zz_2m h1).1
          rw [e2] at this
          exact nI_pos (by omega) this
        · rw [g6, g4, decide_eq_false (zz_2m g1).2.1, if_neg (by decide), if_neg (nI_pos (show k < 2147483648 by omega))]
          have hg2 : ∀ M1 : gx_Mem, M1.1 = M.1 → f_X8_shift (nI s) i (nI o) j n M1 = if k = l then (if n < 0 then some ((-13 : Int32), M1) else (if i < 0 then some ((-13 : Int32), M1) else (if j < 0 then some ((-13 : Int32), M1) else ((if (nI z - n) < i then some ((-13 : Int32), M1) else ((if j ≤ (nI y - n) then f_X8_shift_l113 (nI s) i (nI o) j n gx_fuel (0 : Int32) M1 else some ((-13 : Int32), M1)))))))) else some ((-12 : Int32), M1) := by
            intro M1 e
            rw [hg, e, h6, h4, if_neg (zz_2m h1).2.1, g6, g4, if_neg (zz_2m g1).2.1, if_neg hnp, h7, h5, g7, g5]
            by_cases ek : k = l
            · rw [if_pos ek, if_pos ((zz_2mi h1 g1).mpr ek)]
            · rw [if_neg ek, if_neg (fun e => ek ((zz_2mi h1 g1).mp e))]
          by_cases ek : k = l
          · subst ek
            rw [if_pos rfl]
            rcases zz_case n with hn | ⟨m, hm, rfl⟩
            · rw [if_pos hn]
              exact ⟨-13, M, rfl, M, by rw [hg2 M rfl, if_pos rfl, if_pos hn], h⟩
            · rw [if_neg (nI_pos hm)]
              unfold f_X5_spans
              rw [h5, g5]
              rcases zz_case i with hi | ⟨i, hi, rfl⟩
              · rw [if_pos hi]
                exact ⟨-13, M, rfl, M, by rw [hg2 M rfl, if_pos rfl, if_neg (nI_pos hm), if_pos hi], h⟩
              · rw [if_neg (nI_pos hi)]
                by_cases c1 : nI z - nI m < nI i
                · rw [if_pos c1]
                  refine ⟨-13, M, rfl, M, ?_, h⟩
                  rw [hg2 M rfl, if_pos rfl, if_neg (nI_pos hm), if_neg (nI_pos hi), if_pos c1]
                  split <;> rfl
                · rw [if_neg c1]
                  simp only [zz_bPs]
                  rw [if_neg (by decide)]
                  rcases zz_case j with hj | ⟨j, hj, rfl⟩
                  · rw [if_pos hj]
                    exact ⟨-13, M, rfl, M, by rw [hg2 M rfl, if_pos rfl, if_neg (nI_pos hm), if_neg (nI_pos hi), if_pos hj], h⟩
                  · rw [if_neg (nI_pos hj)]
                    by_cases c2 : nI y - nI m < nI j
                    · rw [if_pos c2]
                      refine ⟨-13, M, rfl, M, ?_, h⟩
                      rw [hg2 M rfl, if_pos rfl, if_neg (nI_pos hm), if_neg (nI_pos hi), if_neg (nI_pos hj), if_neg c1, if_neg (by rw [zz_ltI] at c2; rw [zz_leI]; omega)]
                    · rw [if_neg c2]
                      have tz : (nI z - nI m).toInt = (z : Int) - m := by rw [zz_subT] <;> rw [nI_toInt (show z < 2 ^ 31 by omega), nI_toInt hm] <;> omega
                      have ty : (nI y - nI m).toInt = (y : Int) - m := by rw [zz_subT] <;> rw [nI_toInt (show y < 2 ^ 31 by omega), nI_toInt hm] <;> omega
                      have c3 : i + m ≤ z := by rw [zz_ltI, tz, nI_toInt hi] at c1; omega
                      have c4 : j + m ≤ y := by rw [zz_ltI, ty, nI_toInt hj] at c2; omega
                      rw [zz_bPs, if_neg (by decide), zz_gd (by
                        unfold gx_cpk
                        refine decide_eq_true ⟨nI_pos hi, nI_pos hj, nI_pos hm, ?_, ?_⟩ <;> simp only [zz_cl hi, zz_cl hj, zz_cl hm] <;> omega), zz_cl hi, zz_cl hj, zz_cl hm]
                      refine ⟨_, _, rfl, ?_⟩
                      rw [hg2 (gx_cL M (44 + 2 * s + 1) i (44 + 2 * o + 1) j m) rfl, if_pos rfl, if_neg (nI_pos hm), if_neg (nI_pos hi), if_neg (nI_pos hj), if_neg c1, if_pos (by rw [zz_ltI] at c2; rw [zz_leI]; omega)]
                      obtain ⟨M3, k1, k2, k3⟩ := zz_shift_loop (i := i) (j := j) (m := m) hs (by omega) ho (by omega) (gx_cL M (44 + 2 * s + 1) i (44 + 2 * o + 1) j m)
                      refine ⟨M3, k1, h.L k2 (fun t ht => ?_)⟩
                      have r2 : ∀ q x, q ≠ 95 → M3.2 q x = if q = 94 ∧ 60 * o + j ≤ x ∧ x < 60 * o + j + m then M.2 94 (60 * s + (i + (x - (60 * o + j)))) else if q = 45 + 2 * o ∧ j ≤ x ∧ x < j + m then M.2 (45 + 2 * s) (i + (x - j)) else M.2 q x := by
                        intro q x hq
                        rw [k3 q x hq, zz_cL2, zz_cL2, if_neg (show ¬ (94 = 44 + 2 * o + 1 ∧ j ≤ 60 * s + (i + (x - (60 * o + j))) ∧ 60 * s + (i + (x - (60 * o + j))) < j + m) by omega), show 44 + 2 * o + 1 = 45 + 2 * o by omega, show 44 + 2 * s + 1 = 45 + 2 * s by omega]
                      have w := h.IS t ht
                      have e1 : ∀ u v, M3.1 u v = M.1 u v := fun u v => by rw [k2]; rfl
                      by_cases e : t = o
                      · subst e
                        obtain ⟨w1, w2, w3⟩ := w
                        refine ⟨?_, fun x hx => ?_, fun h0 x hx => ?_⟩
                        · unfold zz_sh at w1 ⊢
                          simp only [e1]; exact w1
                        · rw [r2 _ _ (by omega), r2 _ _ (by omega)]
                          by_cases ex : j ≤ x ∧ x < j + m
                          · rw [if_pos (by omega), if_neg (by omega), if_pos (by omega), qa _ (by omega), show 60 * t + x - (60 * t + j) = x - j by omega]
                          · rw [if_neg (by omega), if_neg (by omega), if_neg (by omega), if_neg (by omega)]
                            exact w2 x hx
                        · rw [r2 _ _ (by omega), if_neg (by omega)]
                          rw [e1] at h0
                          by_cases ex : j ≤ x ∧ x < j + m
                          · rw [if_pos (by omega)]
                            exact qb (by rw [h4, ← g4]; exact h0) _ (by omega)
                          · rw [if_neg (by omega)]
                            exact w3 h0 x hx
                      · refine zz_IS1.same (M := M) w (fun _ => e1 _ _) (e1 _ _) (e1 _ _) (fun x hx => ?_) (fun x hx => ?_) (e1 _ _)
                        · rw [r2 _ _ (by omega), if_neg (by omega), if_neg (by omega)]
                        · rw [r2 _ _ (by omega), if_neg (by omega), if_neg (by omega)]
          · rw [if_neg (by rw [zz_eq (by omega) (by omega)]; exact ek)]
            exact ⟨-12, M, rfl, M, by rw [hg2 M rfl, if_neg ek], h⟩

/-! CHANGE -/
theorem zz_gA1 (f : List Nat) (v : Nat) {i : Nat} (h : i < f.length) : (f ++ [v]).getD i 0 = f.getD i 0 := by
  rw [List.getD_eq_getElem?_getD, List.getElem?_append_left h, ← List.getD_eq_getElem?_getD]
theorem zz_gA2 (f : List Nat) (v : Nat) : (f ++ [v]).getD f.length 0 = v := by
  rw [List.getD_eq_getElem?_getD, List.getElem?_concat_length]
  rfl
theorem zz_gA3 (f : List Nat) (v w : Nat) : (f ++ [v]).contains w = (f.contains w || decide (w = v)) := by
  rw [Bool.eq_iff_iff]
  simp
theorem zz_goD {M0 : gx_Mem} {lv : Nat → Nat → Nat → Nat → Nat → Nat → Nat} (h : zz_IH M0) (hlv : ∀ a w i f m n, lv a w i f m n ≤ a) (hL : zz_LM lv M0) {p m : Nat} (hp : p < (zz_H M0).n) (hm : m < 4) (c : Bool) :
    ∀ (k d : Nat) (f : List Nat) (u : Int32) (M : gx_Mem) (b : Option (Nat × List Nat)), k < d → f.length + k = (zz_H M0).n → (∀ i, i < f.length → f.getD i 0 < (zz_H M0).n) → zz_fr zz_sc M0 M → (∀ i, i < f.length → M.1 82 i = nI (f.getD i 0)) → (∀ v, v < 6 → zz_b u v = f.contains v) → zz_st8 (zz_H M0).n M b →
    ∃ D, f_X8_goDealing d (nI f.length) u (nI p) (nI m) (zz_i c) M = some D ∧ zz_fr zz_sc M0 D ∧ (∀ i, i < f.length → D.1 82 i = M.1 82 i) ∧ zz_st8 (zz_H M0).n D ((zz_enm (zz_H M0).n k f).foldl (zz_bs c (zz_dl lv (zz_H M0) (zz_W M0) (zz_Q M0) p m)) b) := by
  obtain ⟨ok, c1, c2, c3, c4, c5⟩ := zz_Hok h
  have h6 := ok.1
  intro k
  induction k with
  | zero =>
    intro d f u M b hd hl hf fM h82 hu hb
    obtain ⟨d, rfl⟩ : ∃ j, d = j + 1 := ⟨d - 1, by omega⟩
    have hl : f.length = (zz_H M0).n := by omega
    have es : f_X8_goDealing (d + 1) (nI f.length) u (nI p) (nI m) (zz_i c) M = f_X8_goDealing_o (f_X8_goDealing d) (nI f.length) u (nI p) (nI m) (zz_i c) M := rfl
    rw [es, hl]
    rw [hl] at hf h82
    obtain ⟨D, d1, d2, d3, d4⟩ := zz_goEnd h hlv hL hp hm c (f_X8_goDealing d) u ⟨hl, hf⟩ fM h82 hb
    exact ⟨D, d1, d2, fun i _ => d3 i, d4⟩
  | succ k ih =>
    intro d f u M b hd hl hf fM h82 hu hb
    obtain ⟨d, rfl⟩ : ∃ j, d = j + 1 := ⟨d - 1, by omega⟩
    have es : f_X8_goDealing (d + 1) (nI f.length) u (nI p) (nI m) (zz_i c) M = f_X8_goDealing_o (f_X8_goDealing d) (nI f.length) u (nI p) (nI m) (zz_i c) M := rfl
    have hn8 : ∀ D, zz_fr zz_sc M0 D → D.1 57 1 = nI (zz_H M0).n := fun D fD => (fD.2 57 1 rfl).trans (h.1.2.trans c1)
    rw [es]
    unfold f_X8_goDealing_o zz_enm
    rw [hn8 M fM, if_neg (show ¬ nI f.length = nI (zz_H M0).n by rw [zz_eq (by omega) (by omega)]; omega)]
    generalize hs : zz_dl lv (zz_H M0) (zz_W M0) (zz_Q M0) p m = s at *
    generalize hq : f_X8_goDealing d = q at *
    generalize hn : (zz_H M0).n = n at *
    obtain ⟨t, ⟨D, rfl, fD, D82, bD⟩, e⟩ := zz_for (fun (ag90 : Int32 × gx_Mem → Option gx_Mem) (s : Int32 × gx_Mem) => f_X8_goDealing_k90 q (nI f.length) u (nI p) (nI m) (zz_i c) (fun v6 M => ag90 (v6, M)) s.1 s.2) (fun s => some s.2) (fun v t => ∃ D, t = (nI v, D) ∧ zz_fr zz_sc M0 D ∧ (∀ i, i < f.length → D.1 82 i = M.1 82 i) ∧ zz_st8 n D ((zz_cat (fun v => if f.contains v = true then [] else zz_enm n k (f ++ [v])) v).foldl (zz_bs c s) b)) n gx_fuel (by unfold gx_fuel; omega) (0, M) ⟨M, rfl, fM, fun _ _ => rfl, hb⟩ (fun v t hv ht => by
      obtain ⟨D, rfl, fD, D82, bD⟩ := ht
      have eh : f_X8_has u (nI v) D = some (zz_i (f.contains v)) := by rw [zz_has8, hu v (by omega)]
      have ec : ∀ b2, (zz_cat (fun v => if f.contains v = true then [] else zz_enm n k (f ++ [v])) (v + 1)).foldl (zz_bs c s) b2 = (if f.contains v = true then [] else zz_enm n k (f ++ [v])).foldl (zz_bs c s) ((zz_cat (fun v => if f.contains v = true then [] else zz_enm n k (f ++ [v])) v).foldl (zz_bs c s) b2) := fun b2 => by
        rw [show zz_cat (fun v => if f.contains v = true then [] else zz_enm n k (f ++ [v])) (v + 1) = zz_cat (fun v => if f.contains v = true then [] else zz_enm n k (f ++ [v])) v ++ (if f.contains v = true then [] else zz_enm n k (f ++ [v])) from rfl, List.foldl_append]
      cases hcv : f.contains v with
      | true =>
        refine ⟨(nI (v + 1), D), ⟨D, rfl, fD, D82, ?_⟩, fun ag => ?_⟩
        · rw [ec, hcv, if_pos rfl]; exact bD
        · dsimp only
          unfold f_X8_goDealing_k90 f_X8_goDealing_b137
          rw [hn8 D fD, if_neg (show ¬ nI n ≤ nI v by rw [zz_le (by omega) (by omega)]; omega), eh, zz_bPs, hcv, if_neg (show ¬ zz_i true = 0 by decide), zz_let, show nI v + 1 = nI (v + 1) from zz_add v 1]
      | false =>
        have hlen : (f ++ [v]).length = f.length + 1 := by simp
        obtain ⟨E, e1, e2, e3, e4⟩ := ih d (f ++ [v]) (u ||| gx_shl 1 (nI v)) (gx_sI D 82 f.length (nI v)) ((zz_cat (fun v => if f.contains v = true then [] else zz_enm n k (f ++ [v])) v).foldl (zz_bs c s) b) (by omega) (by rw [hlen]; omega) (fun i hi => by
            rw [hlen] at hi
            by_cases e : i = f.length
            · rw [e, zz_gA2]; exact hv
            · rw [zz_gA1 f v (by omega)]; exact hf i (by omega)) (fD.sI rfl) (fun i hi => by
            rw [hlen] at hi
            by_cases e : i = f.length
            · rw [e, zz_gA2, zz_sI1, if_pos ⟨rfl, rfl⟩]
            · rw [zz_gA1 f v (by omega), zz_sI1, if_neg (by omega), D82 i (by omega)]; exact h82 i (by omega)) (fun w hw => by
            rw [zz_b_or _ _ hw, hu w hw, zz_bts v (by omega) w hw, zz_gA3]) (bD.cg (by rw [zz_sI1, if_neg (by omega)]) (fun i => by rw [zz_sI1, if_neg (by omega)]))
        refine ⟨(nI (v + 1), E), ⟨E, rfl, e2, fun i hi => ?_, ?_⟩, fun ag => ?_⟩
        · rw [e3 i (by rw [hlen]; omega), zz_sI1, if_neg (by omega)]; exact D82 i hi
        · rw [ec, hcv, if_neg Bool.false_ne_true]; exact e4
        · dsimp only
          unfold f_X8_goDealing_k90 f_X8_goDealing_b137
          rw [hn8 D fD, if_neg (show ¬ nI n ≤ nI v by rw [zz_le (by omega) (by omega)]; omega), eh, zz_bPs, hcv, if_pos (show zz_i false = 0 from rfl), zz_gi (show f.length < 6 by omega) (by decide), zz_cl (show f.length < 2147483648 by omega), zz_let, show nI f.length + 1 = nI (f.length + 1) from zz_add f.length 1, ← hlen, ← hq, e1, zz_bPs, zz_let, show nI v + 1 = nI (v + 1) from zz_add v 1]) (fun t ht ag => by
      obtain ⟨D, rfl, fD, D82, bD⟩ := ht
      dsimp only
      unfold f_X8_goDealing_k90
      rw [hn8 D fD, if_pos (nI_le (Nat.le_refl _) (by omega))])
    exact ⟨D, e, fD, D82, bD⟩
theorem zz_inC8 (v : Int32) {n : Nat} (h0 : 0 < n) (h6 : n ≤ 6) (M : gx_Mem) : f_X8_in v (-1 : Int32) (nI n - 1) M = some (zz_i (decide (v = -1) || zz_rg v n)) := by
  obtain ⟨n, rfl⟩ : ∃ j, n = j + 1 := ⟨n - 1, by omega⟩
  rw [show nI (n + 1) - 1 = nI n from nI_pred n]
  by_cases hv : v = -1
  · subst hv
    unfold f_X8_in
    rw [if_neg (by decide)]
    have : n < 6 := by omega
    match n, this with
    | 0, _ => rfl
    | 1, _ => rfl
    | 2, _ => rfl
    | 3, _ => rfl
    | 4, _ => rfl
    | 5, _ => rfl
  · rw [decide_eq_false hv, Bool.false_or, ← zz_in8 v n M (by omega)]
    unfold f_X8_in
    have e : (v < -1) = (v < 0) := by
      rw [zz_ltI, zz_ltI, zz_t0, show (-1 : Int32).toInt = -1 from rfl]
      have : ¬ v.toInt = -1 := fun q => hv (Int32.toInt_inj.mp q)
      exact propext ⟨fun h => by omega, fun h => by omega⟩
    simp only [e]
theorem zz_change7 {M : gx_Mem} {lv : Nat → Nat → Nat → Nat → Nat → Nat → Nat} (h : zz_IH M) (hlv : ∀ a w i f m n, lv a w i f m n ≤ a) (hL : zz_LC lv M) {p m : Nat} (hp : p < (zz_H M).n) (hm : m < 4) (c : Bool) (v : Int32) :
    ∃ D x, zz_fr zz_sc M D ∧ (zz_enm (zz_H M).n (zz_H M).n []).foldl (zz_bs c (zz_dl lv (zz_H M) (zz_W M) (zz_Q M) p m)) none = some x ∧ (v = -1 → f_X7_change_b30 (nI (10 * p + m)) (zz_i c) v M = some (nI x.1, D)) ∧ (∀ j, j < (zz_H M).n → v = nI j → f_X7_change_b30 (nI (10 * p + m)) (zz_i c) v M = some (nI ((zz_H M).fl (x.2.getD j 0)), D)) := by
  have h6 := (zz_Hok h).1.1
  obtain ⟨D, x, d1, d2, d3, d4⟩ := zz_deal7 h hlv hL hp hm c
  have e30 : f_X7_change_b30 (nI (10 * p + m)) (zz_i c) v M = f_X7_change_b52 v (nI p) (nI m) (zz_i c) M := by
    unfold f_X7_change_b30
    rw [show (10 : Int32) = nI 10 from rfl, zz_div (by omega) (by decide) (by decide), zz_rem (by omega) (by decide) (by decide), show (10 * p + m) / 10 = p by omega, show (10 * p + m) % 10 = m by omega]
    cases c with
    | false => rw [if_neg (by decide)]; rfl
    | true => rw [if_pos (show zz_i true = 1 from rfl)]; rfl
  refine ⟨D, x, d2, d3, fun hv => ?_, fun j hj hv => ?_⟩
  · subst hv
    rw [e30]
    unfold f_X7_change_b52
    rw [d1, zz_bIs, if_neg (by decide)]
  · subst hv
    rw [e30]
    unfold f_X7_change_b52 f_X4_dealtFlat
    rw [d1, zz_bIs, if_pos (show (0 : Int32) ≤ nI j from nI_le (a := 0) (b := j) (Nat.zero_le _) (by omega)), zz_gi (show j < 6 by omega) (by decide), zz_cl (show j < 2147483648 by omega), d4 j hj, zz_bPs]
theorem zz_b0 : ∀ v, v < 6 → zz_b 0 v = false := by decide
theorem zz_change8 {M : gx_Mem} {lv : Nat → Nat → Nat → Nat → Nat → Nat → Nat} (h : zz_IH M) (hlv : ∀ a w i f m n, lv a w i f m n ≤ a) (hL : zz_LM lv M) {p m : Nat} (hp : p < (zz_H M).n) (hm : m < 4) (c : Bool) (v : Int32) {x : Nat × List Nat} (hx : (zz_enm (zz_H M).n (zz_H M).n []).foldl (zz_bs c (zz_dl lv (zz_H M) (zz_W M) (zz_Q M) p m)) none = some x) :
    ∃ D, zz_fr zz_sc M D ∧ (v = -1 → f_X8_change_b59 v 0 0 (nI p) (nI m) (zz_i c) (gx_sI M 57 38 (-1)) = some (nI x.1, D)) ∧ (∀ j, j < (zz_H M).n → v = nI j → f_X8_change_b59 v 0 0 (nI p) (nI m) (zz_i c) (gx_sI M 57 38 (-1)) = some (nI ((zz_H M).fl (x.2.getD j 0)), D)) := by
  obtain ⟨ok, c1, c2, c3, c4, c5⟩ := zz_Hok h
  have h6 := ok.1
  obtain ⟨D, d1, d2, -, d4⟩ := zz_goD h hlv hL hp hm c (zz_H M).n gx_dep [] 0 (gx_sI M 57 38 (-1)) none (by unfold gx_dep; omega) (Nat.zero_add _) (fun i hi => absurd hi (Nat.not_lt_zero _)) (zz_fr.rf.sI rfl) (fun i hi => absurd hi (Nat.not_lt_zero _)) (fun v hv => by rw [zz_b0 v hv]; rfl) (by show (gx_sI M 57 38 (-1)).1 57 38 = -1; rw [zz_sI1, if_pos ⟨rfl, rfl⟩])
  rw [hx] at d4
  obtain ⟨b1, b2, b3⟩ := d4
  have d1 : f_X8_goDealing gx_dep 0 0 (nI p) (nI m) (zz_i c) (gx_sI M 57 38 (-1)) = some D := d1
  refine ⟨D, d2, fun hv => ?_, fun j hj hv => ?_⟩
  · subst hv
    unfold f_X8_change_b59
    rw [d1, zz_bPs, if_neg (by decide), b1]
  · subst hv
    unfold f_X8_change_b59
    obtain ⟨b4, b5⟩ := b3 j hj
    rw [d1, zz_bPs, if_pos (show (0 : Int32) ≤ nI j from nI_le (a := 0) (b := j) (Nat.zero_le _) (by omega)), zz_gi (show j < 6 by omega) (by decide), zz_cl (show j < 2147483648 by omega), b4, zz_gi (show x.2.getD j 0 < 6 by omega) (by decide), zz_cl (show x.2.getD j 0 < 2147483648 by omega), d2.2 58 _ rfl, (h.2.1 _ (by omega)).2, c2 _ b5]
theorem op_change (a b v : Int32) : zz_ok (f_X7_change a b v) (f_X8_change a b v) := by
  intro M h
  obtain ⟨n, h6, hn, hn8⟩ := h.ppl
  obtain ⟨lv, hlv, hC, hM⟩ := h.law
  unfold f_X7_change
  rw [zz_isPm7 hn h6, zz_isChoice7, zz_isOne7 hn h6]
  simp only [zz_bPs, zz_ifi]
  cases h1 : zz_pm a n with
  | false =>
    refine ⟨-1, M, rfl, M, ?_, h⟩
    unfold f_X8_change
    rw [zz_areMark8 hn8 h6, h1]; rfl
  | true =>
    obtain ⟨p, m, hp, hm, rfl⟩ := zz_pmT h1
    have h0 : 0 < n := by omega
    have hg : ∀ M1 : gx_Mem, M1.1 57 1 = nI n → f_X8_change (nI (10 * p + m)) b v M1 = if zz_rg b 2 = true then (if (decide (v = -1) || zz_rg v n) = true then (if b = (1 : Int32) then f_X8_change_b59 v 0 0 (nI p) (nI m) 1 (gx_sI M1 57 38 (-1)) else f_X8_change_b59 v 0 0 (nI p) (nI m) 0 (gx_sI M1 57 38 (-1))) else some (-1, M1)) else some (-1, M1) := by
      intro M1 e
      have e01 : f_X8_in b 0 1 M1 = some (zz_i (zz_rg b 2)) := zz_in8 b 1 M1 (by decide)
      unfold f_X8_change
      rw [zz_areMark8 e h6, h1, zz_bPs, if_neg (show ¬ zz_i true = 0 by decide), e01, e, zz_inC8 v h0 h6, show (10 : Int32) = nI 10 from rfl, zz_div (by omega) (by decide) (by decide), zz_rem (by omega) (by decide) (by decide), show (10 * p + m) / 10 = p by omega, show (10 * p + m) % 10 = m by omega]
      simp only [zz_bPs, zz_ifi, zz_let]
    rw [if_pos rfl]
    cases h2 : zz_rg b 2 with
    | false => exact ⟨-1, M, rfl, M, by rw [hg M hn8, h2]; rfl, h⟩
    | true =>
      obtain ⟨c, rfl⟩ := zz_ch h2
      have hHn := zz_Hn h6 hn
      rw [if_pos rfl]
      have hsel : ∀ M1, (if zz_i c = (1 : Int32) then f_X8_change_b59 v 0 0 (nI p) (nI m) 1 (gx_sI M1 57 38 (-1)) else f_X8_change_b59 v 0 0 (nI p) (nI m) 0 (gx_sI M1 57 38 (-1))) = f_X8_change_b59 v 0 0 (nI p) (nI m) (zz_i c) (gx_sI M1 57 38 (-1)) := by
        intro M1
        cases c with
        | false => rw [if_neg (by decide)]; rfl
        | true => rw [if_pos (show zz_i true = 1 from rfl)]; rfl
      obtain ⟨M1, x, f1, fx, a1, a2⟩ := zz_change7 h.IH hlv hC (p := p) (m := m) (by rw [hHn]; exact hp) hm c v
      have i1 : zz_Inv M1 := h.fr f1
      have hH := zz_H_fr f1 zz_sc_9
      have hW := zz_W_frF f1 zz_sc_9
      have hQ := zz_Q_fr f1 zz_sc_9
      obtain ⟨M2, f2, b1, b2⟩ := zz_change8 i1.IH hlv (hM.tr (zz_lwM.sc f1)) (p := p) (m := m) (by rw [hH, hHn]; exact hp) hm c v (x := x) (by rw [hH, hW, hQ]; exact fx)
      rw [hH] at b2
      have hn1 : M1.1 57 1 = nI n := (f1.2 57 1 rfl).trans hn8
      by_cases hv : v = -1
      · rw [if_pos hv]
        refine ⟨_, M1, a1 hv, M2, ?_, i1.fr f2⟩
        rw [hg M1 hn1, h2, if_pos rfl, hsel, decide_eq_true hv, Bool.true_or, if_pos rfl]
        exact b1 hv
      · rw [if_neg hv]
        cases h3 : zz_rg v n with
        | false => exact ⟨-1, M, rfl, M, by rw [hg M hn8, h2, if_pos rfl, decide_eq_false hv, h3]; rfl, h⟩
        | true =>
          obtain ⟨j, hj, rfl⟩ := zz_rgT h3
          rw [if_pos rfl]
          refine ⟨_, M1, a2 j (by rw [hHn]; exact hj) rfl, M2, ?_, i1.fr f2⟩
          rw [hg M1 hn1, h2, if_pos rfl, hsel, h3, Bool.or_true, if_pos rfl]
          exact b2 j (by rw [hHn]; exact hj) rfl

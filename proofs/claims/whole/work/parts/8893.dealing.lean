/-! CHANGE: both go through the same dealings -/
theorem zz_okl_all {n : Nat} {l : List (List Nat)} (h : zz_okl n l = true) : ∃ f t, l = f :: t ∧ zz_chn n (f :: t) = true ∧ (∀ g, g ∈ f :: t → zz_gdl n g) ∧ t.length + 1 ≤ 720 ∧ ∀ i, i < 6 → zz_pw f i = i := by
  unfold zz_okl at h
  rw [Bool.and_eq_true, Bool.and_eq_true, Bool.and_eq_true] at h
  obtain ⟨⟨⟨h1, h2⟩, h3⟩, h4⟩ := h
  cases l with
  | nil => cases h3
  | cons f t =>
    refine ⟨f, t, rfl, h4, fun g hg => ?_, ?_, fun i hi => ?_⟩
    · have q := List.all_eq_true.mp h1 g hg
      rw [Bool.and_eq_true] at q
      have ql := Nat.eq_of_beq_eq_true q.1
      refine ⟨ql, fun i hi => ?_⟩
      have hi2 : i < g.length := by omega
      have e : g.getD i 0 = g[i] := by rw [List.getD_eq_getElem?_getD, List.getElem?_eq_getElem hi2]; rfl
      rw [e]
      have := List.all_eq_true.mp q.2 g[i] (List.getElem_mem hi2)
      exact Nat.le_of_ble_eq_true this
    · exact Nat.le_of_ble_eq_true h2
    · exact (Nat.eq_of_beq_eq_true (List.all_eq_true.mp h3 i (List.mem_range.mpr hi))).symm
theorem zz_enm_ok {n : Nat} (h0 : 0 < n) (h6 : n ≤ 6) : zz_okl n (zz_enm n n []) = true := by
  have := zz_chn_all (n - 1) (by omega)
  rw [show n - 1 + 1 = n by omega] at this
  exact this
theorem zz_deal7 {M : gx_Mem} {lv : Nat → Nat → Nat → Nat → Nat → Nat → Nat} (h : zz_IH M) (hlv : ∀ a w i f m n, lv a w i f m n ≤ a) (hL : zz_LC lv M) {p m : Nat} (hp : p < (zz_H M).n) (hm : m < 4) (c : Bool) :
    ∃ D x, f_X4_deal (nI p) (nI m) (zz_i c) M = some (nI x.1, D) ∧ zz_fr zz_sc M D ∧ (zz_enm (zz_H M).n (zz_H M).n []).foldl (zz_bs c (zz_dl lv (zz_H M) (zz_W M) (zz_Q M) p m)) none = some x ∧ ∀ i, i < (zz_H M).n → D.1 32 i = nI ((zz_H M).fl (x.2.getD i 0)) := by
  obtain ⟨ok, c1, c2, c3, c4, c5⟩ := zz_Hok h
  have h6 := ok.1
  obtain ⟨f, t, e, h1, h2, h3, h4⟩ := zz_okl_all (zz_enm_ok (show 0 < (zz_H M).n by omega) h6)
  rw [e]
  have lA := zz_lk23_hw h
  have fL := zz_lk23_fr M
  unfold f_X4_deal
  rw [zz_liken23, zz_bPs]
  generalize zz_lk 23 9 M = L at *
  have l9 : L.1 9 7 = nI (zz_H M).n := (fL.2 9 7 rfl).trans c1
  have l10 : ∀ p, p < (zz_H M).n → L.1 10 p = nI ((zz_H M).fl p) := fun p hp => (fL.2 10 p rfl).trans (c2 p hp)
  have e17 : f_X4_deal_l17 (nI p) (nI m) (zz_i c) 0 gx_fuel 0 L = f_X4_deal_l42 (nI p) (nI m) (zz_i c) gx_fuel 0 0 (zz_ov L 31 0 6 (fun i => nI i)) := by
    obtain ⟨s, rfl, e⟩ := zz_for (fun (ag17 : Int32 × gx_Mem → Option (Int32 × gx_Mem)) (s : Int32 × gx_Mem) => f_X4_deal_k17 (nI p) (nI m) (zz_i c) 0 (fun v5 M => ag17 (v5, M)) s.1 s.2) (fun s => f_X4_deal_l42 (nI p) (nI m) (zz_i c) gx_fuel 0 0 s.2) (fun v s => s = (nI v, zz_ov L 31 0 v (fun i => nI i))) 6 gx_fuel (by decide) (0, L) (by rw [zz_ov0]; rfl) (fun v s hv hs => by
      subst hs
      refine ⟨_, rfl, fun ag => ?_⟩
      dsimp only
      unfold f_X4_deal_k17
      rw [if_neg (show ¬ (6 : Int32) ≤ nI v by rw [show (6 : Int32) = nI 6 from rfl, zz_le (by decide) (by omega)]; omega), zz_gi hv (by decide), zz_let, zz_cl (show v < 2147483648 by omega), show nI v + 1 = nI (v + 1) from zz_add v 1]
      have := zz_ovS L 31 0 v (fun i => nI i) _ (by rw [Nat.zero_add])
      rw [Nat.zero_add] at this
      rw [this, zz_let]) (fun s hs ag => by
      subst hs
      dsimp only
      unfold f_X4_deal_k17
      rw [if_pos (show (6 : Int32) ≤ nI 6 by decide)])
    exact e
  rw [e17]
  have fA : zz_fr zz_SK L (zz_ov L 31 0 6 (fun i => nI i)) := by
    refine ⟨rfl, fun k i hk => ?_⟩
    rw [zz_ov1, if_neg]
    rintro ⟨rfl, -⟩; cases hk
  have a31 : zz_w31 (zz_ov L 31 0 6 (fun i => nI i)) (zz_pw f) := fun i hi => by
    rw [zz_ov1, if_pos ⟨rfl, by omega, by omega⟩, h4 i hi]
    exact ⟨rfl, hi⟩
  generalize zz_ov L 31 0 6 (fun i => nI i) = A at *
  obtain ⟨D, x, d1, d2, d3, d4⟩ := zz_deal42 ok lA hlv (hL.tr (zz_lwC.sc fL)) l9 l10 hp hm c t f 0 gx_fuel A 0 none h1 h2 (by omega) (by unfold gx_fuel; omega) fA a31 rfl
  exact ⟨D, x, d1, fL.tr (d2.mono zz_SK_sc), d3, d4⟩
/-! the model's side -/
def zz_st8 (n : Nat) (M : gx_Mem) (b : Option (Nat × List Nat)) : Prop := match b with
  | none => M.1 57 38 = -1
  | some x => M.1 57 38 = nI x.1 ∧ x.1 ≤ 9999 ∧ ∀ i, i < n → M.1 83 i = nI (x.2.getD i 0) ∧ x.2.getD i 0 < n
theorem zz_st8.cg {n : Nat} {M M2 : gx_Mem} {b : Option (Nat × List Nat)} (h : zz_st8 n M b) (h38 : M2.1 57 38 = M.1 57 38) (h83 : ∀ i, M2.1 83 i = M.1 83 i) : zz_st8 n M2 b := by
  cases b with
  | none => exact h38.trans h
  | some x => exact ⟨h38.trans h.1, h.2.1, fun i hi => ⟨(h83 i).trans (h.2.2 i hi).1, (h.2.2 i hi).2⟩⟩
theorem zz_go60 {q : Int32 → Int32 → Int32 → Int32 → Int32 → gx_Mem → Option gx_Mem} {M : gx_Mem} {n : Nat} (h6 : n ≤ 6) : f_X8_goDealing_l60 q (nI n) gx_fuel 0 M = some (zz_ov M 83 0 n (fun i => M.1 82 i)) := by
  obtain ⟨s, rfl, e⟩ := zz_for (fun (ag60 : Int32 × gx_Mem → Option gx_Mem) (s : Int32 × gx_Mem) => f_X8_goDealing_k60 q (nI n) (fun v7 M => ag60 (v7, M)) s.1 s.2) (fun s => some s.2) (fun v s => s = (nI v, zz_ov M 83 0 v (fun i => M.1 82 i))) n gx_fuel (by unfold gx_fuel; omega) (0, M) (by rw [zz_ov0]; rfl) (fun v s hv hs => by
    subst hs
    refine ⟨_, rfl, fun ag => ?_⟩
    dsimp only
    unfold f_X8_goDealing_k60
    have b82 : (zz_ov M 83 0 v (fun i => M.1 82 i)).1 82 v = M.1 82 v := by rw [zz_ov1, if_neg (by omega)]
    rw [if_neg (show ¬ nI n ≤ nI v by rw [zz_le (by omega) (by omega)]; omega), zz_gi (show v < 6 by omega) (by decide), zz_gi (show v < 6 by omega) (by decide), zz_cl (show v < 2147483648 by omega), b82, zz_let, show nI v + 1 = nI (v + 1) from zz_add v 1]
    have := zz_ovS M 83 0 v (fun i => M.1 82 i) _ (by rw [Nat.zero_add])
    rw [Nat.zero_add] at this
    rw [this, zz_let]) (fun s hs ag => by
    subst hs
    dsimp only
    unfold f_X8_goDealing_k60
    rw [if_pos (nI_le (Nat.le_refl _) (by omega))])
  exact e
theorem zz_go51 {q : Int32 → Int32 → Int32 → Int32 → Int32 → gx_Mem → Option gx_Mem} {M : gx_Mem} {n : Nat} (h6 : n ≤ 6) (v1 v6 : Int32) (h1 : v1 = nI n) : ∃ D, f_X8_goDealing_b51 q v1 v6 M = some D ∧ zz_fr (fun k i => k == 83 || (k == 57 && i == 38)) M D ∧ D.1 57 38 = v6 ∧ ∀ i, i < n → D.1 83 i = M.1 82 i := by
  subst h1
  refine ⟨zz_ov (gx_sI M 57 38 v6) 83 0 n (fun i => (gx_sI M 57 38 v6).1 82 i), ?_, ⟨rfl, fun k i hk => ?_⟩, ?_, fun i hi => ?_⟩
  · unfold f_X8_goDealing_b51
    rw [zz_let]
    exact zz_go60 h6
  · rw [zz_ov1, if_neg (by rintro ⟨rfl, -⟩; simp at hk), zz_sI1, if_neg (by rintro ⟨rfl, rfl⟩; simp at hk)]
  · rw [zz_ov1, if_neg (by omega), zz_sI1, if_pos ⟨rfl, rfl⟩]
  · rw [zz_ov1, if_pos ⟨rfl, by omega, by omega⟩, zz_sI1, if_neg (by omega)]
theorem zz_SD82 : ∀ i, zz_SD 82 i = false ∧ zz_SD 83 i = false ∧ zz_SD 57 38 = false := fun _ => ⟨rfl, rfl, rfl⟩
theorem zz_bts : ∀ v, v < 6 → ∀ w, w < 6 → zz_b (gx_shl 1 (nI v)) w = decide (w = v) := by decide
/-- a dealing valued -/
theorem zz_goEnd {M0 M : gx_Mem} {lv : Nat → Nat → Nat → Nat → Nat → Nat → Nat} (h : zz_IH M0) (hlv : ∀ a w i f m n, lv a w i f m n ≤ a) (hL : zz_LM lv M0) {p m : Nat} (hp : p < (zz_H M0).n) (hm : m < 4) (c : Bool) (q : Int32 → Int32 → Int32 → Int32 → Int32 → gx_Mem → Option gx_Mem) (u : Int32) {f : List Nat} {b : Option (Nat × List Nat)} (hf : zz_gdl (zz_H M0).n f) (fM : zz_fr zz_sc M0 M) (h82 : ∀ i, i < (zz_H M0).n → M.1 82 i = nI (f.getD i 0)) (hb : zz_st8 (zz_H M0).n M b) :
    ∃ D, f_X8_goDealing_o q (nI (zz_H M0).n) u (nI p) (nI m) (zz_i c) M = some D ∧ zz_fr zz_sc M0 D ∧ (∀ i, D.1 82 i = M.1 82 i) ∧ zz_st8 (zz_H M0).n D (zz_bs c (zz_dl lv (zz_H M0) (zz_W M0) (zz_Q M0) p m) b f) := by
  obtain ⟨ok, c1, c2, c3, c4, c5⟩ := zz_Hok h
  have h6 := ok.1
  have hn8 : M.1 57 1 = nI (zz_H M0).n := (fM.2 57 1 rfl).trans (h.1.2.trans c1)
  have eH := zz_H_fr fM zz_sc_9
  have eW := zz_W_frF fM zz_sc_9
  have eQ := zz_Q_fr fM zz_sc_9
  obtain ⟨E, e1, e2⟩ := zz_wetOf (h.fr fM) hlv (hL.tr (zz_lwM.sc fM)) (p := p) (m := m) (f := f) (by rw [eH]; exact hp) hm (by rw [eH]; exact fun i hi => ⟨h82 i hi, hf.2 i hi⟩)
  rw [eH, eW, eQ] at e1
  have fE : zz_fr zz_sc M0 E := fM.tr (e2.mono zz_SD_sc)
  have hle := zz_dl_le lv (zz_H M0) (zz_W M0) (zz_Q M0) p m f
  generalize zz_dl lv (zz_H M0) (zz_W M0) (zz_Q M0) p m = s at *
  unfold f_X8_goDealing_o
  rw [hn8, if_pos rfl, e1, zz_bIs]
  have E82 : ∀ i, E.1 82 i = M.1 82 i := fun i => e2.2 82 i rfl
  have E38 : E.1 57 38 = M.1 57 38 := e2.2 57 38 rfl
  have hbE : zz_st8 (zz_H M0).n E b := hb.cg E38 (fun i => e2.2 83 i rfl)
  obtain ⟨D, d1, d2, d3, d4⟩ := zz_go51 (q := q) (M := E) h6 (nI (zz_H M0).n) (nI (s f)) rfl
  have fD : zz_fr zz_sc M0 D := fE.tr (d2.mono (fun k i hk => by
    simp only [Bool.or_eq_true, Bool.and_eq_true, beq_iff_eq] at hk
    rcases hk with rfl | ⟨rfl, rfl⟩ <;> rfl))
  have D82 : ∀ i, D.1 82 i = M.1 82 i := fun i => (d2.2 82 i rfl).trans (E82 i)
  have hsD : zz_st8 (zz_H M0).n D (some (s f, f)) := ⟨d3, hle, fun i hi => ⟨(d4 i hi).trans ((E82 i).trans (h82 i hi)), hf.2 i hi⟩⟩
  cases b with
  | none =>
    refine ⟨D, ?_, fD, D82, hsD⟩
    rw [show E.1 57 38 = -1 from hbE, if_pos (by decide)]
    exact d1
  | some x =>
    obtain ⟨b1, b2, b3⟩ := id hbE
    rw [b1, if_neg (nI_pos (by omega))]
    unfold zz_bs zz_btr
    cases c with
    | false =>
      rw [if_pos (show zz_i false = 0 from rfl)]
      simp only [zz_lt (show s f < 2147483648 by omega) (show x.1 < 2147483648 by omega)]
      by_cases q2 : s f < x.1
      · refine ⟨D, ?_, fD, D82, ?_⟩
        · rw [if_pos q2]; exact d1
        · rw [if_pos (by rw [if_neg Bool.false_ne_true, decide_eq_true_eq]; exact q2)]; exact hsD
      · refine ⟨E, ?_, fE, E82, ?_⟩
        · rw [if_neg q2]
        · rw [if_neg (by rw [if_neg Bool.false_ne_true, decide_eq_true_eq]; exact q2)]; exact hbE
    | true =>
      rw [if_neg (show ¬ zz_i true = 0 by decide)]
      simp only [zz_lt (show x.1 < 2147483648 by omega) (show s f < 2147483648 by omega)]
      by_cases q2 : x.1 < s f
      · refine ⟨D, ?_, fD, D82, ?_⟩
        · rw [if_pos q2]; exact d1
        · rw [if_pos (by rw [if_pos trivial, decide_eq_true_eq]; exact q2)]; exact hsD
      · refine ⟨E, ?_, fE, E82, ?_⟩
        · rw [if_neg q2]
        · rw [if_neg (by rw [if_pos trivial, decide_eq_true_eq]; exact q2)]; exact hbE

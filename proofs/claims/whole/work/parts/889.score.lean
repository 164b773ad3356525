/-! CHANGE: the model's worth of a dealing -/
theorem zz_goMark1 {M : gx_Mem} {H : zz_hs} {lv : Nat → Nat → Nat → Nat → Nat → Nat → Nat} {o : Int32} {m : Nat} {a : Nat → Nat} (ok : zz_hok H) (hv : zz_h8 M H) (ho : M.1 57 28 = o) (hlv : ∀ a w i f m n, lv a w i f m n ≤ a) (hL : zz_LM lv M) (hm : m < 4) (ha : ∀ p, p < H.n → a p ≤ 9999)
    (g : ∀ p, p < H.n → M.1 78 (4 * p + m) = nI (a p)) :
    ∃ M2, f_X8_goMark (nI m) M = some M2 ∧ zz_fr zz_SG M M2 ∧ ∀ p, p < H.n → M2.1 78 (4 * p + m) = nI (min 9999 (a p + zz_dr lv H o p m)) := by
  have h6 := ok.1
  obtain ⟨A, e1, f1, w1⟩ := zz_flow ok hv ho hlv hL hm
  have a78 : ∀ q, A.1 78 q = M.1 78 q := fun q => f1.2 78 q (zz_SF0 (by decide) (by decide) (by decide) (by decide))
  have a57 : ∀ q, A.1 57 q = M.1 57 q := fun q => f1.2 57 q (zz_SF0 (by decide) (by decide) (by decide) (by decide))
  generalize hB : gx_sI A 79 m (A.1 79 m + nI (zz_pt lv H o m 3)) = B
  have fB : zz_fr zz_SG M B := by rw [← hB]; exact (f1.mono zz_SF_SG).sI rfl
  have wB : zz_fw lv H o m B 0 := by rw [← hB]; exact w1
  have hvB := hv.frG fB
  have oB : B.1 57 28 = o := by rw [← hB]; exact (a57 28).trans ho
  obtain ⟨t, ⟨C, rfl, fC, gC⟩, e⟩ := zz_for (fun (ag21 : Int32 × gx_Mem → Option gx_Mem) (s : Int32 × gx_Mem) => f_X8_goMark_k21 (nI m) (fun v2 M => ag21 (v2, M)) s.1 s.2) (fun s => some s.2) (fun v s => ∃ C, s = (nI v, C) ∧ zz_fr (fun k i => k == 78) B C ∧ ∀ p, p < H.n → C.1 78 (4 * p + m) = nI (if p < v then min 9999 (a p + zz_dr lv H o p m) else a p)) H.n gx_fuel (by unfold gx_fuel; omega) (0, B) ⟨B, rfl, zz_fr.rf, fun p hp => by rw [← hB, if_neg (Nat.not_lt_zero p)]; exact (a78 _).trans (g p hp)⟩ (fun v s hvn hs => by
      obtain ⟨C, rfl, fC, gC⟩ := hs
      have hvC : zz_h8 C H := hvB.frG (fC.mono (fun k i hk => by simp at hk; subst hk; rfl))
      have oC : C.1 57 28 = o := (fC.2 57 28 rfl).trans oB
      have wC : zz_fw lv H o m C 0 := fun f h1 h2 => by rw [fC.2 81 _ rfl, fC.2 80 _ rfl]; exact wB f h1 h2
      have hj24 : 4 * v + m < 24 := by omega
      have old := gC v hvn
      rw [if_neg (by omega)] at old
      have hle := ha v hvn
      have hd := zz_dr_le hlv ok o hm v
      refine ⟨(nI (v + 1), gx_sI C 78 (4 * v + m) (nI (min 9999 (a v + zz_dr lv H o v m)))), ⟨_, rfl, fC.sI rfl, ?_⟩, fun ag => ?_⟩
      · intro p hp
        rw [zz_sI1]
        by_cases ej : p = v
        · subst ej
          rw [if_pos ⟨rfl, rfl⟩, if_pos (by omega)]
        · rw [if_neg (by omega), gC p hp]
          by_cases c : p < v
          · rw [if_pos c, if_pos (by omega)]
          · rw [if_neg c, if_neg (by omega)]
      · dsimp only
        unfold f_X8_goMark_k21 f_X8_goMark_b84 f_X8_goMark_b85
        rw [hvC.1, oC, zz_has8, show (4 : Int32) = nI 4 from rfl, zz_mul, zz_add, zz_cl (show 4 * v + m < 2147483648 by omega), old]
        simp only [zz_le (show H.n < 2147483648 by omega) (show v < 2147483648 by omega), zz_bPs, zz_ifi, zz_gi hj24 (show 24 < 2147483648 by decide), zz_let, show nI v + 1 = nI (v + 1) from zz_add v 1]
        rw [if_neg (by omega)]
        cases hb : zz_b o v with
        | false =>
          have hd0 : zz_dr lv H o v m = 0 := by unfold zz_dr; rw [if_neg (by rw [hb]; rintro ⟨-, h⟩; cases h)]
          rw [if_neg (by decide), hd0, show min 9999 (a v + 0) = a v by omega, zz_sIself old]
        | true =>
          rw [if_pos rfl, zz_wetsBy ok hvC hlv hvn hm wC hb]
          simp only [zz_bPs, zz_add, show (9999 : Int32) = nI 9999 from rfl, zz_le (show a v + zz_dr lv H o v m < 2147483648 by omega) (show 9999 < 2147483648 by decide)]
          by_cases c : a v + zz_dr lv H o v m ≤ 9999
          · rw [if_pos c, show min 9999 (a v + zz_dr lv H o v m) = a v + zz_dr lv H o v m by omega]
          · rw [if_neg c, show min 9999 (a v + zz_dr lv H o v m) = 9999 by omega]) (fun s hs ag => by
      obtain ⟨C, rfl, fC, gC⟩ := hs
      dsimp only
      unfold f_X8_goMark_k21
      rw [(fC.2 57 1 rfl).trans hvB.1, if_pos (nI_le (Nat.le_refl _) (by omega))])
  refine ⟨C, ?_, fB.tr (fC.mono (fun k i hk => by simp at hk; subst hk; rfl)), fun p hp => ?_⟩
  · unfold f_X8_goMark
    rw [e1]
    simp only [zz_bPs]
    rw [zz_gi hm (by decide), zz_toPorter hm w1]
    simp only [zz_bPs]
    rw [zz_gi hm (by decide), zz_cl (show m < 2147483648 by omega), zz_let]
    show f_X8_goMark_l21 (nI m) gx_fuel 0 (gx_sI A 79 m (A.1 79 m + nI (zz_pt lv H o m 3))) = some C
    rw [hB]
    exact e
  · rw [gC p hp, if_pos hp]
/-- what the model may change in valuing a dealing -/
def zz_SD (k i : Nat) : Bool := k == 76 || k == 77 || zz_SG k i
theorem zz_SD_sc : ∀ k i, zz_SD k i = true → zz_sc k i = true := by
  intro k i h
  unfold zz_SD at h
  simp only [Bool.or_eq_true, beq_iff_eq] at h
  rcases h with (rfl | rfl) | h
  · rfl
  · rfl
  · exact zz_SG_sc k i h
theorem zz_SG_SD : ∀ k i, zz_SG k i = true → zz_SD k i = true := fun k i h => by unfold zz_SD; rw [h, Bool.or_true]
theorem zz_now_SD (M : gx_Mem) : zz_fr zz_SD M (zz_now M) := by
  refine ⟨rfl, fun k i h => ?_⟩
  have h2 : ¬ k = 76 ∧ ¬ k = 77 ∧ ¬ k = 78 ∧ ¬ k = 79 ∧ ¬ (k = 57 ∧ i = 29) := by
    refine ⟨?_, ?_, ?_, ?_, ?_⟩
    · rintro rfl; cases h
    · rintro rfl; cases h
    · rintro rfl; cases h
    · rintro rfl; cases h
    · rintro ⟨rfl, rfl⟩; cases h
  unfold zz_now
  rw [zz_sI1, if_neg (by omega), zz_ov1, if_neg (by omega), zz_ov1, if_neg (by omega), zz_ov1, if_neg (by omega), zz_ov1, if_neg (by omega)]
theorem zz_ds0 (lv : Nat → Nat → Nat → Nat → Nat → Nat → Nat) (H : zz_hs) (O : Nat → Int32) (p m : Nat) : zz_ds lv H O p m 0 = 0 := rfl
theorem zz_dsS (lv : Nat → Nat → Nat → Nat → Nat → Nat → Nat) (H : zz_hs) (O : Nat → Int32) (p m i : Nat) : zz_ds lv H O p m (i + 1) = zz_ds lv H O p m i + zz_dr lv H (O i) p m := rfl
theorem zz_min9w {a b : Nat} (h : a ≤ 9999) : min 9999 (a + b) - a = min (9999 - a) b := by omega
theorem zz_min99 (a b c : Nat) : min 9999 (min 9999 (a + b) + c) = min 9999 (a + (b + c)) := by omega
/-- the worth of a dealing -/
def zz_dl (lv : Nat → Nat → Nat → Nat → Nat → Nat → Nat) (H : zz_hs) (w : Nat → Nat) (Q : Nat → Nat → Bool) (p m : Nat) (f : List Nat) : Nat := zz_wr lv (zz_hf H (fun i => H.fl (f.getD i 0))) w Q 63 p m
theorem zz_wetOf {M : gx_Mem} {lv : Nat → Nat → Nat → Nat → Nat → Nat → Nat} (h : zz_IH M) (hlv : ∀ a w i f m n, lv a w i f m n ≤ a) (hL : zz_LM lv M) {p m : Nat} (hp : p < (zz_H M).n) (hm : m < 4) {f : List Nat} (h82 : ∀ i, i < (zz_H M).n → M.1 82 i = nI (f.getD i 0) ∧ f.getD i 0 < (zz_H M).n) :
    ∃ D, f_X8_wetOfDealing (nI p) (nI m) M = some (nI (zz_dl lv (zz_H M) (zz_W M) (zz_Q M) p m f), D) ∧ zz_fr zz_SD M D := by
  obtain ⟨ok, c1, c2, c3, c4, c5⟩ := zz_Hok h
  have h6 := ok.1
  have hn8 : M.1 57 1 = nI (zz_H M).n := h.1.2.trans c1
  have fL := zz_now_SD M
  have gL := zz_now_h8 h
  have w0 := fun j (hj : j < 24) => zz_Wok h hj
  have a78 : ∀ j, j < 24 → (zz_now M).1 78 j = nI (zz_W M j) := fun j hj => (zz_now_G h lv (zz_O M)).2.1 j hj
  unfold f_X8_wetOfDealing
  rw [zz_layNow M (by rw [h.1.2]; exact h.1.1), zz_bPs]
  generalize zz_now M = L at *
  obtain ⟨t, rfl, e⟩ := zz_for (fun (ag6 : Int32 × gx_Mem → Option (Int32 × gx_Mem)) (s : Int32 × gx_Mem) => f_X8_wetOfDealing_k6 (nI p) (nI m) (fun v3 M => ag6 (v3, M)) s.1 s.2) (fun s => f_X8_wetOfDealing_l39 (nI p) (nI m) gx_fuel 0 s.2) (fun v s => s = (nI v, zz_ov L 76 0 v (fun i => nI ((zz_H M).fl (f.getD i 0))))) (zz_H M).n gx_fuel (by unfold gx_fuel; omega) (0, L) (by rw [zz_ov0]; rfl) (fun v s hv hs => by
    subst hs
    refine ⟨_, rfl, fun ag => ?_⟩
    dsimp only
    unfold f_X8_wetOfDealing_k6
    have b82 : (zz_ov L 76 0 v (fun i => nI ((zz_H M).fl (f.getD i 0)))).1 82 v = nI (f.getD v 0) := by
      rw [zz_ov1, if_neg (by omega), fL.2 82 v rfl]; exact (h82 v hv).1
    have b58 : (zz_ov L 76 0 v (fun i => nI ((zz_H M).fl (f.getD i 0)))).1 58 (f.getD v 0) = nI ((zz_H M).fl (f.getD v 0)) := by
      rw [zz_ov1, if_neg (by omega), fL.2 58 _ rfl, (h.2.1 _ (by have := (h82 v hv).2; omega)).2]; exact c2 _ (h82 v hv).2
    have b1 : (zz_ov L 76 0 v (fun i => nI ((zz_H M).fl (f.getD i 0)))).1 57 1 = nI (zz_H M).n := by
      rw [zz_ov1, if_neg (by omega), fL.2 57 1 rfl]; exact hn8
    have hf := (h82 v hv).2
    rw [b1, if_neg (show ¬ nI (zz_H M).n ≤ nI v by rw [zz_le (by omega) (by omega)]; omega), zz_gi (show v < 6 by omega) (by decide), zz_cl (show v < 2147483648 by omega), b82, zz_gi (show f.getD v 0 < 6 by omega) (by decide), zz_gi (show v < 6 by omega) (by decide), zz_cl (show f.getD v 0 < 2147483648 by omega), b58, zz_let, show nI v + 1 = nI (v + 1) from zz_add v 1]
    have := zz_ovS L 76 0 v (fun i => nI ((zz_H M).fl (f.getD i 0))) _ (by rw [Nat.zero_add])
    rw [Nat.zero_add] at this
    rw [this, zz_let]) (fun s hs ag => by
    subst hs
    dsimp only
    unfold f_X8_wetOfDealing_k6
    have b1 : (zz_ov L 76 0 (zz_H M).n (fun i => nI ((zz_H M).fl (f.getD i 0)))).1 57 1 = nI (zz_H M).n := by
      rw [zz_ov1, if_neg (by omega), fL.2 57 1 rfl]; exact hn8
    rw [b1, if_pos (nI_le (Nat.le_refl _) (by omega))])
  show ∃ D, f_X8_wetOfDealing_l6 (nI p) (nI m) gx_fuel 0 L = _ ∧ _
  rw [show f_X8_wetOfDealing_l6 (nI p) (nI m) gx_fuel 0 L = _ from e]
  dsimp only
  generalize hA : zz_ov L 76 0 (zz_H M).n (fun i => nI ((zz_H M).fl (f.getD i 0))) = A
  have fA : zz_fr (fun k _ => k == 76) L A := by
    rw [← hA]
    refine ⟨rfl, fun k i hk => ?_⟩
    rw [zz_ov1, if_neg]
    rintro ⟨rfl, -⟩; cases hk
  have hvA : zz_h8 A (zz_hf (zz_H M) (fun i => (zz_H M).fl (f.getD i 0))) := gL.hf fA (fun q hq => by rw [← hA, zz_ov1, if_pos ⟨rfl, by omega, by omega⟩])
  have okx := zz_hf_ok ok (g := fun i => (zz_H M).fl (f.getD i 0)) (fun q hq => ok.2.1 _ (h82 q hq).2)
  have fMA : zz_fr zz_SD M A := fL.tr (fA.mono (fun k j hk => by simp at hk; subst hk; rfl))
  have nX : (zz_hf (zz_H M) (fun i => (zz_H M).fl (f.getD i 0))).n = (zz_H M).n := zz_hf_n _ _
  have hgoal : zz_dl lv (zz_H M) (zz_W M) (zz_Q M) p m f = zz_wr lv (zz_hf (zz_H M) (fun i => (zz_H M).fl (f.getD i 0))) (zz_W M) (zz_Q M) 63 p m := by unfold zz_dl; exact Eq.refl _
  rw [hgoal]
  generalize zz_hf (zz_H M) (fun i => (zz_H M).fl (f.getD i 0)) = X at *
  obtain ⟨e0, e1, e2⟩ := zz_h0ok h
  generalize hO : (fun t => zz_ou (fun q => zz_b 63 q && zz_b (M.1 59 q) ((zz_h0 M + t) % 12)) X.n) = O
  obtain ⟨t, ⟨D, rfl, fD, gD⟩, e'⟩ := zz_for (fun (ag39 : Int32 × gx_Mem → Option (Int32 × gx_Mem)) (s : Int32 × gx_Mem) => f_X8_wetOfDealing_k39 (nI p) (nI m) (fun v3 M => ag39 (v3, M)) s.1 s.2) (fun s => some (s.2.1 78 (4 * p + m) - s.2.1 61 (4 * p + m), s.2)) (fun t s => ∃ D, s = (nI t, D) ∧ zz_fr zz_SG A D ∧ ∀ q, q < X.n → D.1 78 (4 * q + m) = nI (min 9999 (zz_W M (4 * q + m) + zz_ds lv X O q m t))) 12 gx_fuel (by decide) (0, A) ⟨A, rfl, zz_fr.rf, fun q hq => by
    have hb := (w0 (4 * q + m) (by omega)).2.1
    rw [fA.2 78 _ rfl, a78 _ (by omega)]
    rw [zz_ds0, Nat.add_zero, Nat.min_eq_right hb]⟩ (fun t s ht hs => by
    obtain ⟨D, rfl, fD, gD⟩ := hs
    have fMD : zz_fr zz_SD M D := fMA.tr (fD.mono zz_SG_SD)
    have fD2 : zz_fr zz_SG A (gx_sI D 57 28 (O t)) := fD.sI rfl
    obtain ⟨E, k1, k2, k3⟩ := zz_goMark1 (M := gx_sI D 57 28 (O t)) (o := O t) (m := m) (a := fun q => min 9999 (zz_W M (4 * q + m) + zz_ds lv X O q m t)) okx (hvA.frG fD2) rfl hlv (hL.tr (zz_lwM.sc ((fMA.mono zz_SD_sc).tr (fD2.mono zz_SG_sc)))) hm (fun q _ => Nat.min_le_left _ _) (fun q hq => gD q hq)
    refine ⟨(nI (t + 1), E), ⟨E, rfl, fD2.tr k2, fun q hq => ?_⟩, fun ag => ?_⟩
    · rw [k3 q hq, zz_dsS, zz_min99]
    · dsimp only
      unfold f_X8_wetOfDealing_k39
      have d63 : D.1 63 1 = nI (zz_h0 M) := (fMD.2 63 1 rfl).trans e2
      have d59 : ∀ q, D.1 59 q = M.1 59 q := fun q => fMD.2 59 q rfl
      have dn : D.1 57 1 = nI X.n := (fMD.2 57 1 rfl).trans (by rw [nX]; exact hn8)
      have hOt : O t = zz_ou (fun q => zz_b 63 q && zz_b (D.1 59 q) ((zz_h0 M + t) % 12)) X.n := by
        rw [← hO]; simp only [d59]
      rw [if_neg (show ¬ (12 : Int32) ≤ nI t by rw [show (12 : Int32) = nI 12 from rfl, zz_le (by decide) (by omega)]; omega), show (1 : Int32).toNatClampNeg = 1 from by decide, d63, zz_add, show (12 : Int32) = nI 12 from rfl, zz_rem (by omega) (by decide) (by decide), zz_outAt8 dn (by omega), zz_bPs, ← hOt, zz_let, k1, zz_bPs, zz_let, show nI t + 1 = nI (t + 1) from zz_add t 1]) (fun s hs ag => by
    obtain ⟨D, rfl, fD, gD⟩ := hs
    dsimp only
    unfold f_X8_wetOfDealing_k39
    rw [if_pos (show (12 : Int32) ≤ nI 12 by decide), show (4 : Int32) = nI 4 from rfl, zz_mul, zz_add, zz_gi (show 4 * p + m < 24 by omega) (by decide), zz_gi (show 4 * p + m < 24 by omega) (by decide), zz_cl (show 4 * p + m < 2147483648 by omega)])
  refine ⟨D, ?_, fMA.tr (fD.mono zz_SG_SD)⟩
  refine Eq.trans e' ?_
  dsimp only
  have hb := (w0 (4 * p + m) (by omega)).2.1
  rw [gD p (by omega), fD.2 61 _ rfl, fMA.2 61 _ rfl, (w0 (4 * p + m) (by omega)).2.2, zz_sub (by omega)]
  unfold zz_wr
  have hs2 : zz_ds lv X O p m 12 = zz_su (fun t => zz_dr lv X (zz_ou (fun i => zz_Q M i t) X.n &&& 63) p m) 12 := by
    rw [zz_ds_su, ← zz_rot (fun t => zz_dr lv X (zz_ou (fun i => zz_Q M i t) X.n &&& 63) p m) e1]
    refine zz_su_cong _ (fun t _ => zz_dr_cong (fun q hq => ?_) p m)
    have hq6 : q < 6 := by omega
    have e59 : zz_b (M.1 59 q) ((zz_h0 M + t) % 12) = zz_Q M q ((zz_h0 M + t) % 12) := by
      rw [(h.2.2.1 q hq6).2]; rfl
    rw [← hO]
    dsimp only
    rw [zz_b_and _ _ hq6, zz_b_ou _ _ (by omega) q hq6, zz_b_ou _ _ (by omega) q hq6, decide_eq_true hq, Bool.true_and, Bool.true_and, e59, Bool.and_comm]
  rw [hs2, zz_min9w hb]

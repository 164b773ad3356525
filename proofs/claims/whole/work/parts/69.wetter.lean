theorem zz_wet27 {k : Nat} {M : gx_Mem} {H : zz_hs} {w : Nat → Nat} {Q : Nat → Nat → Bool} {lv : Nat → Nat → Nat → Nat → Nat → Nat → Nat} (hk : 5 ≤ k) (ok : zz_hok H) (hv : zz_hw k M H w Q) (hlv : ∀ a w i f m n, lv a w i f m n ≤ a) (hL : zz_LC lv M) (mask v3 v5 : Int32) {p m : Nat} (hp : p < H.n) (hm : m < 4) :
    ∃ M2, zz_fr zz_S34 M M2 ∧ ∀ ag6, f_X4_wetter_l27 k ag6 (nI p) v3 mask v5 (nI m) (nI (9999 - w (4 * p + m))) gx_fuel 0 0 M = ag6 (v5 + nI (zz_wr lv H w Q mask p m)) (nI (m + 1)) M2 := by
  generalize hR : 9999 - w (4 * p + m) = R
  generalize hF : (fun t => zz_dr lv H (zz_ou (fun i => Q i t) H.n &&& mask) p m) = F
  have hFt : ∀ t, zz_dr lv H (zz_ou (fun i => Q i t) H.n &&& mask) p m = F t := fun t => by rw [← hF]
  have hle : ∀ n, zz_su F n ≤ 432 * n := fun n => zz_su_le n (fun i _ => by rw [← hFt]; exact zz_dr_le hlv ok _ hm p)
  obtain ⟨J, hJ, j2, j3⟩ := zz_first (fun t => decide (t < 12) && decide (zz_su F t < R)) 12 rfl
  have hle12 := hle 12
  have hmin : min R (zz_su F J) = zz_wr lv H w Q mask p m := by
    unfold zz_wr
    rw [hR, hF]
    have mono := zz_su_mono F hJ
    by_cases c : J < 12
    · have : ¬ zz_su F J < R := by
        intro c2
        rw [decide_eq_true c, decide_eq_true c2] at j2; cases j2
      omega
    · rw [show J = 12 by omega]
  obtain ⟨s, ⟨M2, rfl, hf⟩, e⟩ := zz_forC (fun (ag6 : Int32 → Int32 → gx_Mem → Option (Int32 × gx_Mem)) (ag27 : Int32 × Int32 × gx_Mem → Option (Int32 × gx_Mem)) (s : Int32 × Int32 × gx_Mem) => f_X4_wetter_k27 k ag6 (nI p) v3 mask v5 (nI m) (nI R) (fun v8 v9 M => ag27 (v8, v9, M)) s.1 s.2.1 s.2.2) (fun ag6 s => ag6 (v5 + nI (zz_wr lv H w Q mask p m)) (nI (m + 1)) s.2.2) (fun i s => ∃ M', s = (nI (zz_su F i), nI i, M') ∧ zz_fr zz_S34 M M') J gx_fuel (by unfold gx_fuel; omega) (0, 0, M) ⟨M, rfl, zz_fr.rf⟩ (fun i s hi hs => by
      obtain ⟨M', rfl, hf⟩ := hs
      have q := j3 i hi
      rw [Bool.and_eq_true] at q
      have q1 := of_decide_eq_true q.1
      have q2 := of_decide_eq_true q.2
      have hlei := hle i
      have hv' := hv.fr hk hf
      obtain ⟨M3, e1, f1⟩ := zz_drips hk ok hv'.1 hlv (hL.tr (zz_lwC.fr hf)) (zz_ou (fun i2 => Q i2 i) H.n &&& mask) hp hm
      refine ⟨(nI (zz_su F (i + 1)), nI (i + 1), M3), ⟨M3, rfl, hf.tr f1⟩, fun ag6 ag => ?_⟩
      dsimp only
      unfold f_X4_wetter_k27
      rw [if_neg (show ¬ (12 : Int32) ≤ nI i by rw [show (12 : Int32) = nI 12 from rfl, zz_le (by decide) (by omega)]; omega), if_neg (show ¬ nI R ≤ nI (zz_su F i) by rw [zz_le (by omega) (by omega)]; omega), zz_hw_out ok hv' q1]
      simp only [zz_bPs]
      rw [e1, hFt]
      simp only [zz_bIs, zz_let, zz_add, show nI i + 1 = nI (i + 1) from zz_add i 1]
      rfl) (fun s hs ag6 ag => by
      obtain ⟨M', rfl, hf⟩ := hs
      have hleJ := hle J
      dsimp only
      have fin : f_X4_wetter_b68 k ag6 (nI p) v3 mask v5 (nI m) (nI R) (nI (zz_su F J)) M' = ag6 (v5 + nI (zz_wr lv H w Q mask p m)) (nI (m + 1)) M' := by
        unfold f_X4_wetter_b68
        rw [zz_min (by omega) (by omega), hmin, zz_let, zz_let, show nI m + 1 = nI (m + 1) from zz_add m 1]
      unfold f_X4_wetter_k27
      by_cases c : J < 12
      · have : ¬ zz_su F J < R := by
          intro c2
          rw [decide_eq_true c, decide_eq_true c2] at j2; cases j2
        rw [if_neg (show ¬ (12 : Int32) ≤ nI J by rw [show (12 : Int32) = nI 12 from rfl, zz_le (by decide) (by omega)]; omega), if_pos (show nI R ≤ nI (zz_su F J) by rw [zz_le (by omega) (by omega)]; omega), fin]
      · rw [if_pos (show (12 : Int32) ≤ nI J by rw [show (12 : Int32) = nI 12 from rfl, zz_le (by decide) (by omega)]; omega), fin])
  exact ⟨M2, hf, e⟩
/-- the class's wetter over c marks from m0 on -/
theorem zz_wetter7 {k : Nat} {M : gx_Mem} {H : zz_hs} {w : Nat → Nat} {Q : Nat → Nat → Bool} {lv : Nat → Nat → Nat → Nat → Nat → Nat → Nat} (hk : 5 ≤ k) (ok : zz_hok H) (hv : zz_hw k M H w Q) (hlv : ∀ a w i f m n, lv a w i f m n ≤ a) (hL : zz_LC lv M) (mask : Int32) {p m0 c l : Nat} (hp : p < H.n) (hc : m0 + c ≤ 4) (hl : l + 1 = m0 + c) :
    ∃ M2, f_X4_wetter k (nI p) (nI m0) (nI l) mask M = some (nI (zz_su (fun i => zz_wr lv H w Q mask p (m0 + i)) c), M2) ∧ zz_fr zz_S34 M M2 := by
  have h6 := ok.1
  obtain ⟨s, ⟨M2, rfl, hf⟩, e⟩ := zz_for (fun (ag6 : Int32 × Int32 × gx_Mem → Option (Int32 × gx_Mem)) (s : Int32 × Int32 × gx_Mem) => f_X4_wetter_k6 k (nI p) (nI l) mask (fun v5 v6 M => ag6 (v5, v6, M)) s.1 s.2.1 s.2.2) (fun s => some (s.1, s.2.2)) (fun i s => ∃ M', s = (nI (zz_su (fun i => zz_wr lv H w Q mask p (m0 + i)) i), nI (m0 + i), M') ∧ zz_fr zz_S34 M M') c gx_fuel (by unfold gx_fuel; omega) (0, nI m0, M) ⟨M, rfl, zz_fr.rf⟩ (fun i s hi hs => by
      obtain ⟨M', rfl, hf⟩ := hs
      have hv' := hv.fr hk hf
      obtain ⟨M3, f1, e1⟩ := zz_wet27 hk ok hv' hlv (hL.tr (zz_lwC.fr hf)) mask (nI l) (nI (zz_su (fun i => zz_wr lv H w Q mask p (m0 + i)) i)) hp (show m0 + i < 4 by omega)
      refine ⟨(nI (zz_su (fun i => zz_wr lv H w Q mask p (m0 + i)) (i + 1)), nI (m0 + (i + 1)), M3), ⟨M3, rfl, hf.tr f1⟩, fun ag => ?_⟩
      dsimp only
      unfold f_X4_wetter_k6
      rw [if_neg (show ¬ nI l < nI (m0 + i) by rw [zz_lt (by omega) (by omega)]; omega), zz_hw_room hv' (by omega) (by omega)]
      simp only [zz_bPs]
      rw [e1, zz_add]
      rfl) (fun s hs ag => by
      obtain ⟨M', rfl, hf⟩ := hs
      dsimp only
      unfold f_X4_wetter_k6
      rw [if_pos (show nI l < nI (m0 + c) by rw [zz_lt (by omega) (by omega)]; omega)])
  exact ⟨M2, e, hf⟩
theorem zz_wetter74 {k : Nat} {M : gx_Mem} {H : zz_hs} {w : Nat → Nat} {Q : Nat → Nat → Bool} {lv : Nat → Nat → Nat → Nat → Nat → Nat → Nat} (hk : 5 ≤ k) (ok : zz_hok H) (hv : zz_hw k M H w Q) (hlv : ∀ a w i f m n, lv a w i f m n ≤ a) (hL : zz_LC lv M) (mask : Int32) {p : Nat} (hp : p < H.n) :
    ∃ M2, f_X4_wetter k (nI p) 0 3 mask M = some (nI (zz_su (zz_wr lv H w Q mask p) 4), M2) ∧ zz_fr zz_S34 M M2 := by
  obtain ⟨M2, e, f⟩ := zz_wetter7 hk ok hv hlv hL mask (p := p) (m0 := 0) (c := 4) (l := 3) hp (by decide) rfl
  refine ⟨M2, e.trans ?_, f⟩
  rw [zz_su_cong (f := fun i => zz_wr lv H w Q mask p (0 + i)) (g := zz_wr lv H w Q mask p) 4 (fun i _ => by rw [Nat.zero_add])]
/-- the model's twelve hours from A on -/
theorem zz_go12 {A : gx_Mem} {H : zz_hs} {w : Nat → Nat} {Q : Nat → Nat → Bool} {h0 : Nat} {lv : Nat → Nat → Nat → Nat → Nat → Nat → Nat} {O0 : Nat → Int32} (mask : Int32) (ok : zz_hok H) (hlv : ∀ a w i f m n, lv a w i f m n ≤ a) (hL : zz_LM lv A) (hw : ∀ j, j < 24 → w j ≤ 9999) (hh : h0 < 12) (g : zz_G lv H O0 w h0 0 A)
    (h59 : ∀ i, i < H.n → ∀ h, h < 12 → zz_b (A.1 59 i) h = Q i h) (h61 : ∀ j, j < 24 → A.1 61 j = nI (w j)) :
    ∃ C, f_X8_goHours 12 mask A = some C ∧ zz_fr zz_SG A C ∧ (∀ p m, p < H.n → m < 4 → C.1 78 (4 * p + m) = nI (w (4 * p + m) + zz_wr lv H w Q mask p m)) ∧ ∀ p, p < H.n → f_X8_wetter (nI p) C = some (nI (zz_su (zz_wr lv H w Q mask p) 4)) := by
  have h6 := ok.1
  generalize hO : (fun t => zz_ou (fun p => zz_b mask p && zz_b (A.1 59 p) ((h0 + t) % 12)) H.n) = O
  have hOt : ∀ t, O t = zz_ou (fun p => zz_b mask p && zz_b (A.1 59 p) ((h0 + t) % 12)) H.n := fun t => by rw [← hO]
  have g2 : zz_G lv H O w h0 0 A := g
  obtain ⟨C, e, f, gC⟩ := zz_goHours (N := 12) (mask := mask) ok hlv hL hw (by decide) g2 (fun t _ _ => hOt t)
  have key : ∀ p m, p < H.n → m < 4 → zz_wt lv H O w (4 * p + m) (0 + 12) = w (4 * p + m) + zz_wr lv H w Q mask p m := by
    intro p m hp hm
    have hb := hw (4 * p + m) (by omega)
    rw [zz_wt_ds hm hb, zz_ds_su]
    unfold zz_wr
    have e2 := zz_rot (fun t => zz_dr lv H (zz_ou (fun i => Q i t) H.n &&& mask) p m) hh
    have e3 : zz_su (fun t => zz_dr lv H (O t) p m) (0 + 12) = zz_su (fun t => zz_dr lv H (zz_ou (fun i => Q i t) H.n &&& mask) p m) 12 := by
      rw [← e2]
      refine zz_su_cong _ (fun t _ => zz_dr_cong (fun q hq => ?_) p m)
      have hq6 : q < 6 := by omega
      rw [hOt, zz_b_and _ _ hq6, zz_b_ou _ _ h6 q hq6, zz_b_ou _ _ h6 q hq6, decide_eq_true hq, Bool.true_and, Bool.true_and, h59 q hq _ (by omega), Bool.and_comm]
    rw [e3]
    omega
  refine ⟨C, e, f, fun p m hp hm => ?_, fun p hp => ?_⟩
  · rw [gC.2.1 _ (by omega), key p m hp hm]
  · rw [zz_wetter8 gC.2.1 (b := w) (fun j hj => (f.2 61 j rfl).trans (h61 j hj)) (by omega)]
    rw [zz_su4, zz_su4, key p 0 hp (by decide), key p 1 hp (by decide), key p 2 hp (by decide), key p 3 hp (by decide), zz_su4]
    have w0 := hw (4 * p + 0) (by omega)
    have w1 := hw (4 * p + 1) (by omega)
    have w2 := hw (4 * p + 2) (by omega)
    have w3 := hw (4 * p + 3) (by omega)
    rw [zz_sub (by omega)]
    congr 2
    omega
def zz_Q (M : gx_Mem) (i h : Nat) : Bool := zz_b (M.1 11 i) h
theorem zz_Q_fr {S : Nat → Nat → Bool} {M M1 : gx_Mem} (f : zz_fr S M M1) (h : ∀ k i, 9 ≤ k → k ≤ 14 → S k i = false) : zz_Q M1 = zz_Q M := by
  funext i t
  unfold zz_Q
  rw [f.2 11 i (h 11 i (by decide) (by decide))]
theorem zz_hw9 {M : gx_Mem} (h : zz_IH M) : zz_hw 9 M (zz_H M) (zz_W M) (zz_Q M) := ⟨(zz_Hok h).2, fun j hj => ⟨(zz_Wok h hj).1, (zz_Wok h hj).2.1⟩, fun _ _ _ _ => rfl⟩
theorem zz_sc_9 : ∀ k i, 9 ≤ k → k ≤ 14 → zz_sc k i = false := fun k i h1 h2 => by
  rcases (show k = 9 ∨ k = 10 ∨ k = 11 ∨ k = 12 ∨ k = 13 ∨ k = 14 by omega) with rfl | rfl | rfl | rfl | rfl | rfl <;> rfl
theorem zz_W_frF {S : Nat → Nat → Bool} {M M1 : gx_Mem} (f : zz_fr S M M1) (h : ∀ k i, 9 ≤ k → k ≤ 14 → S k i = false) : zz_W M1 = zz_W M := funext fun j => zz_W_fr f h j
theorem zz_O_frF {S : Nat → Nat → Bool} {M M1 : gx_Mem} (f : zz_fr S M M1) (h : ∀ k i, 9 ≤ k → k ≤ 14 → S k i = false) : zz_O M1 = zz_O M := funext fun j => zz_O_fr f h j
/-- the model's twelve hours from now on -/
theorem zz_go12n {M : gx_Mem} {lv : Nat → Nat → Nat → Nat → Nat → Nat → Nat} (h : zz_IH M) (hlv : ∀ a w i f m n, lv a w i f m n ≤ a) (hL : zz_LM lv M) (mask : Int32) :
    ∃ C, f_X8_goHours 12 mask (zz_now M) = some C ∧ zz_fr zz_sc M C ∧ ∀ p, p < (zz_H M).n → f_X8_wetter (nI p) C = some (nI (zz_su (zz_wr lv (zz_H M) (zz_W M) (zz_Q M) mask p) 4)) := by
  have h6 := (zz_Hok h).1.1
  obtain ⟨C, e, f, -, w⟩ := zz_go12 (A := zz_now M) (Q := zz_Q M) (w := zz_W M) (h0 := zz_h0 M) mask (zz_Hok h).1 hlv (hL.tr (zz_lwM.sc (zz_now_fr M))) (fun j hj => (zz_Wok h hj).2.1) (zz_h0ok h).2.1 (zz_now_G h lv (zz_O M)) (fun i hi t ht => by
    rw [show (zz_now M).1 59 i = M.1 59 i from rfl, (h.2.2.1 i (by omega)).2]; rfl) (fun j hj => by
    rw [show (zz_now M).1 61 j = M.1 61 j from rfl]; exact (zz_Wok h hj).2.2)
  exact ⟨C, e, (zz_now_fr M).tr (f.mono zz_SG_sc), w⟩

/-! DRAWN: the draws, and an hour of them on the class's side -/
def zz_zz (s : Int32) : Nat → Int32
  | 0 => s
  | k + 1 => zz_zz s k * 1103515245 + 12345
def zz_zb (z : Int32) : Bool := decide (gx_rem (gx_ushr z 8) 2 = 1)
theorem zz_ushr8 (z : Int32) : gx_ushr z 8 = nI (z.toBitVec.toNat / 256) := by
  have h := z.toBitVec.isLt
  apply Int32.toBitVec_inj.1
  apply BitVec.eq_of_toNat_eq
  rw [pk_tn (by omega)]
  exact pk_ushr z 8 8 rfl
theorem zz_zb01 (z : Int32) : gx_rem (gx_ushr z 8) 2 = zz_i (zz_zb z) := by
  have h := z.toBitVec.isLt
  have e : gx_rem (gx_ushr z 8) 2 = nI (z.toBitVec.toNat / 256 % 2) := by
    rw [zz_ushr8, show (2 : Int32) = nI 2 from rfl, zz_rem (by omega) (by decide) (by decide)]
  unfold zz_zb
  rw [e]
  rcases (show z.toBitVec.toNat / 256 % 2 = 0 ∨ z.toBitVec.toNat / 256 % 2 = 1 by omega) with q | q
  · rw [q]; rfl
  · rw [q]; rfl
/-- who is out by the draws from the c'th on -/
def zz_zS (s : Int32) (n c : Nat) : Int32 := zz_ou (fun p => zz_zb (zz_zz s (c + p + 1))) n
theorem zz_draw57 (ag12 : Int32 → Int32 → Int32 → Int32 → gx_Mem → Option (Int32 × gx_Mem)) (ag45 : Int32 → Int32 → Int32 → gx_Mem → Option (Int32 × gx_Mem)) (v2 v3 v4 v6 v7 v8 v9 : Int32) {M : gx_Mem} {n : Nat} (hn : M.1 9 7 = nI n) (h6 : n ≤ 6) (s : Int32) (c : Nat) :
    f_X4_draw_l57 ag12 ag45 v2 v3 v4 v6 v7 v8 v9 gx_fuel (zz_zz s c) 0 0 M = if v4 = 0 then gx_bP (f_X4_soak (zz_zS s n c) M) (fun M8 => f_X4_draw_b126 ag12 ag45 v2 v3 v4 (zz_zz s (c + n)) v6 v7 v8 v9 M8) else gx_bI (f_X4_caughtOfAll (zz_zS s n c) M) (fun y10 M11 => gx_let (v7 + y10) (fun x12 => f_X4_draw_b126 ag12 ag45 v2 v3 v4 (zz_zz s (c + n)) v6 x12 v8 v9 M11)) := by
  obtain ⟨t, rfl, e⟩ := zz_for (fun (ag57 : Int32 × Int32 × Int32 × gx_Mem → Option (Int32 × gx_Mem)) (t : Int32 × Int32 × Int32 × gx_Mem) => f_X4_draw_k57 ag12 ag45 v2 v3 v4 v6 v7 v8 v9 (fun v5 v10 v11 M => ag57 (v5, v10, v11, M)) t.1 t.2.1 t.2.2.1 t.2.2.2) (fun t => if v4 = 0 then gx_bP (f_X4_soak (zz_zS s n c) M) (fun M8 => f_X4_draw_b126 ag12 ag45 v2 v3 v4 (zz_zz s (c + n)) v6 v7 v8 v9 M8) else gx_bI (f_X4_caughtOfAll (zz_zS s n c) M) (fun y10 M11 => gx_let (v7 + y10) (fun x12 => f_X4_draw_b126 ag12 ag45 v2 v3 v4 (zz_zz s (c + n)) v6 x12 v8 v9 M11))) (fun i t => t = (zz_zz s (c + i), zz_ou (fun p => zz_zb (zz_zz s (c + p + 1))) i, nI i, M)) n gx_fuel (by unfold gx_fuel; omega) (zz_zz s c, 0, 0, M) rfl (fun i t hi ht => by
      subst ht
      refine ⟨_, rfl, fun ag => ?_⟩
      dsimp only
      unfold f_X4_draw_k57
      rw [hn, if_neg (show ¬ nI n ≤ nI i by rw [zz_le (by omega) (by omega)]; omega), zz_let, show zz_zz s (c + i) * (1103515245 : Int32) + 12345 = zz_zz s (c + i + 1) from rfl, zz_zb01, zz_let, zz_let, show nI i + 1 = nI (i + 1) from zz_add i 1]
      refine congrArg ag (Prod.ext rfl (Prod.ext ?_ rfl))
      show zz_ou (fun p => zz_zb (zz_zz s (c + p + 1))) i ||| gx_shl (zz_i (zz_zb (zz_zz s (c + i + 1)))) (nI i) = zz_ou (fun p => zz_zb (zz_zz s (c + p + 1))) (i + 1)
      conv => rhs; unfold zz_ou
      cases zz_zb (zz_zz s (c + i + 1)) with
      | false =>
        rw [if_neg (by decide)]
        show _ ||| gx_shl 0 (nI i) = _
        rw [zz_shl0 i (by omega), Int32.or_zero]
      | true => rw [if_pos rfl]; rfl) (fun t ht ag => by
      subst ht
      dsimp only
      unfold f_X4_draw_k57
      rw [hn, if_pos (nI_le (Nat.le_refl n) (by omega))]
      rfl)
  exact e
def zz_S33 (k _i : Nat) : Bool := k == 3 || k == 4 || k == 33
theorem zz_S34_33 : ∀ k i, zz_S34 k i = true → zz_S33 k i = true := fun k i h => by
  simp [zz_S34] at h
  rcases h with rfl | rfl <;> rfl
theorem zz_S33_sc : ∀ k i, zz_S33 k i = true → zz_sc k i = true := fun k i h => by
  simp [zz_S33] at h
  rcases h with (rfl | rfl) | rfl <;> rfl
theorem zz_h7.fr33 {M M2 : gx_Mem} {H : zz_hs} (h : zz_h7 9 M H) (f : zz_fr zz_S33 M M2) : zz_h7 9 M2 H := by
  obtain ⟨c1, c2, c3, c4, c5⟩ := h
  exact ⟨(f.2 9 7 rfl).trans c1, fun p hp => (f.2 (9 + 1) p rfl).trans (c2 p hp), fun p hp => (f.2 (9 + 3) p rfl).trans (c3 p hp), fun p hp => (f.2 (9 + 5) p rfl).trans (c4 p hp), (f.2 9 8 rfl).trans c5⟩
/-- one is soaked -/
theorem zz_soak15 {M : gx_Mem} {H : zz_hs} {lv : Nat → Nat → Nat → Nat → Nat → Nat → Nat} {g : Nat → Nat} (ok : zz_hok H) (hv : zz_h7 9 M H) (hlv : ∀ a w i f m n, lv a w i f m n ≤ a) (hL : zz_LC lv M) (o : Int32) {p : Nat} (hp : p < H.n) (hg : ∀ j, j < 24 → M.1 33 j = nI (g j)) :
    ∃ M2, (∀ ag2, f_X4_soak_l15 ag2 o (nI p) gx_fuel 0 M = ag2 (nI (p + 1)) M2) ∧ zz_fr zz_S33 M M2 ∧ ∀ j, j < 24 → M2.1 33 j = nI (if j / 4 = p then g j + zz_dr lv H o (j / 4) (j % 4) else g j) := by
  have h6 := ok.1
  obtain ⟨t, ⟨C, rfl, fC, gC⟩, e⟩ := zz_forC (fun (ag2 : Int32 → gx_Mem → Option gx_Mem) (ag15 : Int32 × gx_Mem → Option gx_Mem) (t : Int32 × gx_Mem) => f_X4_soak_k15 ag2 o (nI p) (fun v3 M => ag15 (v3, M)) t.1 t.2) (fun ag2 t => ag2 (nI (p + 1)) t.2) (fun m t => ∃ C, t = (nI m, C) ∧ zz_fr zz_S33 M C ∧ ∀ j, j < 24 → C.1 33 j = nI (if j / 4 = p ∧ j % 4 < m then g j + zz_dr lv H o (j / 4) (j % 4) else g j)) 4 gx_fuel (by decide) (0, M) ⟨M, rfl, zz_fr.rf, fun j hj => by rw [if_neg (by omega)]; exact hg j hj⟩ (fun m t hm ht => by
      obtain ⟨C, rfl, fC, gC⟩ := ht
      obtain ⟨D, d1, d2⟩ := zz_drips (k := 9) (by decide) ok (hv.fr33 fC) hlv (hL.tr (zz_lwC.sc (fC.mono zz_S33_sc))) o hp hm
      have old := gC (4 * p + m) (by omega)
      rw [if_neg (by omega)] at old
      refine ⟨(nI (m + 1), gx_sI D 33 (4 * p + m) (nI (g (4 * p + m) + zz_dr lv H o p m))), ⟨_, rfl, (fC.tr (d2.mono zz_S34_33)).sI rfl, fun j hj => ?_⟩, fun ag2 ag => ?_⟩
      · rw [zz_sI1]
        by_cases c : j = 4 * p + m
        · subst c
          rw [if_pos ⟨rfl, rfl⟩, if_pos (by omega), show (4 * p + m) / 4 = p by omega, show (4 * p + m) % 4 = m by omega]
        · rw [if_neg (by omega), d2.2 33 j rfl, gC j hj]
          by_cases c2 : j / 4 = p ∧ j % 4 < m
          · rw [if_pos c2, if_pos (by omega)]
          · rw [if_neg c2, if_neg (by omega)]
      · dsimp only
        unfold f_X4_soak_k15
        rw [if_neg (show ¬ (4 : Int32) ≤ nI m by rw [show (4 : Int32) = nI 4 from rfl, zz_le (by decide) (by omega)]; omega), show (4 : Int32) = nI 4 from rfl, zz_mul, zz_add, show p * 4 + m = 4 * p + m by omega, zz_gi (show 4 * p + m < 24 by omega) (by decide), d1, zz_bIs, zz_gi (show 4 * p + m < 24 by omega) (by decide), zz_cl (show 4 * p + m < 2147483648 by omega), old, zz_add, zz_let, zz_let, show nI m + 1 = nI (m + 1) from zz_add m 1]) (fun t ht ag2 ag => by
      obtain ⟨C, rfl, fC, gC⟩ := ht
      dsimp only
      unfold f_X4_soak_k15
      rw [if_pos (show (4 : Int32) ≤ nI 4 by decide), zz_let, show nI p + 1 = nI (p + 1) from zz_add p 1])
  refine ⟨C, e, fC, fun j hj => ?_⟩
  rw [gC j hj]
  by_cases c : j / 4 = p
  · rw [if_pos ⟨c, by omega⟩, if_pos c]
  · rw [if_neg (fun q => c q.1), if_neg c]
theorem zz_soak {M : gx_Mem} {H : zz_hs} {lv : Nat → Nat → Nat → Nat → Nat → Nat → Nat} {g : Nat → Nat} (ok : zz_hok H) (hv : zz_h7 9 M H) (hlv : ∀ a w i f m n, lv a w i f m n ≤ a) (hL : zz_LC lv M) (o : Int32) (hg : ∀ j, j < 24 → M.1 33 j = nI (g j)) :
    ∃ M2, f_X4_soak o M = some M2 ∧ zz_fr zz_S33 M M2 ∧ ∀ j, j < 24 → M2.1 33 j = nI (g j + zz_dr lv H o (j / 4) (j % 4)) := by
  have h6 := ok.1
  obtain ⟨t, ⟨C, rfl, fC, gC⟩, e⟩ := zz_for (fun (ag2 : Int32 × gx_Mem → Option gx_Mem) (t : Int32 × gx_Mem) => f_X4_soak_k2 o (fun v2 M => ag2 (v2, M)) t.1 t.2) (fun t => some t.2) (fun p t => ∃ C, t = (nI p, C) ∧ zz_fr zz_S33 M C ∧ ∀ j, j < 24 → C.1 33 j = nI (if j / 4 < p then g j + zz_dr lv H o (j / 4) (j % 4) else g j)) H.n gx_fuel (by unfold gx_fuel; omega) (0, M) ⟨M, rfl, zz_fr.rf, fun j hj => by rw [if_neg (by omega)]; exact hg j hj⟩ (fun p t hp ht => by
      obtain ⟨C, rfl, fC, gC⟩ := ht
      obtain ⟨D, d1, d2, d3⟩ := zz_soak15 ok (hv.fr33 fC) hlv (hL.tr (zz_lwC.sc (fC.mono zz_S33_sc))) o hp gC
      refine ⟨(nI (p + 1), D), ⟨D, rfl, fC.tr d2, fun j hj => ?_⟩, fun ag => ?_⟩
      · rw [d3 j hj]
        by_cases c : j / 4 = p
        · rw [if_pos c, if_neg (by omega), if_pos (by omega)]
        · rw [if_neg c]
          by_cases c2 : j / 4 < p
          · rw [if_pos c2, if_pos (by omega)]
          · rw [if_neg c2, if_neg (by omega)]
      · dsimp only
        unfold f_X4_soak_k2
        rw [(fC.2 9 7 rfl).trans hv.1, if_neg (show ¬ nI H.n ≤ nI p by rw [zz_le (by omega) (by omega)]; omega), d1]) (fun t ht ag => by
      obtain ⟨C, rfl, fC, gC⟩ := ht
      dsimp only
      unfold f_X4_soak_k2
      rw [(fC.2 9 7 rfl).trans hv.1, if_pos (nI_le (Nat.le_refl _) (by omega))])
  refine ⟨C, e, fC, fun j hj => ?_⟩
  rw [gC j hj]
  by_cases c : j / 4 < H.n
  · rw [if_pos c]
  · rw [if_neg c]
    have : zz_dr lv H o (j / 4) (j % 4) = 0 := by unfold zz_dr; rw [if_neg (fun q => c q.1)]
    rw [this]; rfl
theorem zz_caughtOfAll {M : gx_Mem} {H : zz_hs} {lv : Nat → Nat → Nat → Nat → Nat → Nat → Nat} (ok : zz_hok H) (hv : zz_h7 9 M H) (hlv : ∀ a w i f m n, lv a w i f m n ≤ a) (hL : zz_LC lv M) (o : Int32) :
    ∃ M2, f_X4_caughtOfAll o M = some (nI (zz_su (fun m => zz_pt lv H o m 3) 4), M2) ∧ zz_fr zz_S34 M M2 := by
  obtain ⟨t, ⟨M2, rfl, hf⟩, e⟩ := zz_for (fun (ag4 : Int32 × Int32 × gx_Mem → Option (Int32 × gx_Mem)) (s : Int32 × Int32 × gx_Mem) => f_X4_caughtOfAll_k4 o (fun v2 v3 M => ag4 (v2, v3, M)) s.1 s.2.1 s.2.2) (fun s => some (s.1, s.2.2)) (fun i s => ∃ M', s = (nI (zz_su (fun m => zz_pt lv H o m 3) i), nI i, M') ∧ zz_fr zz_S34 M M') 4 gx_fuel (by decide) (0, 0, M) ⟨M, rfl, zz_fr.rf⟩ (fun i s hi hs => by
      obtain ⟨M', rfl, hf⟩ := hs
      obtain ⟨D, d1, d2⟩ := zz_caughtBy (k := 9) (by decide) ok (hv.fr (by decide) hf) hlv (hL.tr (zz_lwC.fr hf)) o hi
      refine ⟨(nI (zz_su (fun m => zz_pt lv H o m 3) (i + 1)), nI (i + 1), D), ⟨D, rfl, hf.tr d2⟩, fun ag => ?_⟩
      dsimp only
      unfold f_X4_caughtOfAll_k4
      rw [if_neg (show ¬ (4 : Int32) ≤ nI i by rw [show (4 : Int32) = nI 4 from rfl, zz_le (by decide) (by omega)]; omega), d1]
      simp only [zz_bIs, zz_let, zz_add, show nI i + 1 = nI (i + 1) from zz_add i 1]
      rfl) (fun s hs ag => by
      obtain ⟨M', rfl, hf⟩ := hs
      rfl)
  exact ⟨M2, e, hf⟩
/-- what all have gained -/
theorem zz_gained17 {M : gx_Mem} {w g : Nat → Nat} (hw : ∀ j, j < 24 → M.1 13 j = nI (w j) ∧ w j ≤ 9999) (hg : ∀ j, j < 24 → M.1 33 j = nI (g j)) (hb : ∀ j, j < 24 → g j < 1000000) {p : Nat} (hp : p < 6) (a : Nat) (ag4 : Int32 → Int32 → Option Int32) :
    f_X4_gainedInAll_l17 ag4 (nI p) gx_fuel (nI a) 0 M = ag4 (nI (a + zz_su (fun m => min (9999 - w (4 * p + m)) (g (4 * p + m))) 4)) (nI (p + 1)) := by
  obtain ⟨t, rfl, e⟩ := zz_for (fun (ag17 : Int32 × Int32 → Option Int32) (s : Int32 × Int32) => f_X4_gainedInAll_k17 ag4 (nI p) (fun v1 v3 => ag17 (v1, v3)) s.1 s.2 M) (fun s => ag4 s.1 (nI (p + 1))) (fun i s => s = (nI (a + zz_su (fun m => min (9999 - w (4 * p + m)) (g (4 * p + m))) i), nI i)) 4 gx_fuel (by decide) (nI a, 0) rfl (fun i s hi hs => by
      subst hs
      refine ⟨_, rfl, fun ag => ?_⟩
      dsimp only
      have h1 := hw (4 * p + i) (by omega)
      have h2 := hb (4 * p + i) (by omega)
      unfold f_X4_gainedInAll_k17 f_X2_room
      rw [if_neg (show ¬ (4 : Int32) ≤ nI i by rw [show (4 : Int32) = nI 4 from rfl, zz_le (by decide) (by omega)]; omega), show (4 : Int32) = nI 4 from rfl, zz_mul, zz_add, show p * 4 + i = 4 * p + i by omega, zz_gi (show 4 * p + i < 24 by omega) (by decide), zz_cl (show 4 * p + i < 2147483648 by omega), show M.1 (9 + 4) (4 * p + i) = nI (w (4 * p + i)) from h1.1, show (9999 : Int32) = nI 9999 from rfl, zz_sub h1.2, zz_bPs, zz_gi (show 4 * p + i < 24 by omega) (by decide), hg _ (by omega), zz_min (by omega) (by omega), zz_add, zz_let, zz_let, show nI i + 1 = nI (i + 1) from zz_add i 1, Nat.add_assoc]
      rfl) (fun s hs ag => by
      subst hs
      dsimp only
      unfold f_X4_gainedInAll_k17
      rw [if_pos (show (4 : Int32) ≤ nI 4 by decide), zz_let, show nI p + 1 = nI (p + 1) from zz_add p 1])
  exact e
theorem zz_gained {M : gx_Mem} {w g : Nat → Nat} {n : Nat} (hn : M.1 9 7 = nI n) (h6 : n ≤ 6) (hw : ∀ j, j < 24 → M.1 13 j = nI (w j) ∧ w j ≤ 9999) (hg : ∀ j, j < 24 → M.1 33 j = nI (g j)) (hb : ∀ j, j < 24 → g j < 1000000) :
    f_X4_gainedInAll M = some (nI (zz_su (fun p => zz_su (fun m => min (9999 - w (4 * p + m)) (g (4 * p + m))) 4) n)) := by
  obtain ⟨t, rfl, e⟩ := zz_for (fun (ag4 : Int32 × Int32 → Option Int32) (s : Int32 × Int32) => f_X4_gainedInAll_k4 (fun v1 v2 => ag4 (v1, v2)) s.1 s.2 M) (fun s => some s.1) (fun i s => s = (nI (zz_su (fun p => zz_su (fun m => min (9999 - w (4 * p + m)) (g (4 * p + m))) 4) i), nI i)) n gx_fuel (by unfold gx_fuel; omega) (0, 0) rfl (fun i s hi hs => by
      subst hs
      refine ⟨_, rfl, fun ag => ?_⟩
      dsimp only
      unfold f_X4_gainedInAll_k4
      rw [hn, if_neg (show ¬ nI n ≤ nI i by rw [zz_le (by omega) (by omega)]; omega), zz_gained17 hw hg hb (by omega)]
      rfl) (fun s hs ag => by
      subst hs
      dsimp only
      unfold f_X4_gainedInAll_k4
      rw [hn, if_pos (nI_le (Nat.le_refl n) (by omega))])
  exact e

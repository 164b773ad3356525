/-! DRAWN on the model's side -/
def zz_Gd (lv : Nat → Nat → Nat → Nat → Nat → Nat → Nat) (H : zz_hs) (O : Nat → Int32) (w : Nat → Nat) (i : Nat) (M : gx_Mem) : Prop :=
  zz_h8 M H ∧ (∀ j, j < 24 → M.1 78 j = nI (zz_wt lv H O w j i)) ∧ (∀ q, q < 4 → M.1 79 q = nI (zz_ca lv H O q i))
theorem zz_drawn137 {M : gx_Mem} {H : zz_hs} {lv : Nat → Nat → Nat → Nat → Nat → Nat → Nat} {O : Nat → Int32} {w : Nat → Nat} {i : Nat} (v2 v3 v4 v5 v6 : Int32) (x : Nat) (ok : zz_hok H) (ho : M.1 57 28 = O i) (hlv : ∀ a w i f m n, lv a w i f m n ≤ a) (hL : zz_LM lv M) (hw : ∀ j, j < 24 → w j ≤ 9999) (hi : i ≤ 100) (g : zz_Gd lv H O w i M) :
    ∃ M2, (∀ (c : (Int32 → Int32 → Int32 → gx_Mem → Option (Int32 × gx_Mem)) × (Int32 → Int32 → gx_Mem → Option (Int32 × gx_Mem))), f_X8_drawn_l137 c.1 c.2 v2 v3 v4 v5 v6 (nI x) gx_fuel 0 M = c.2 v4 (nI (x + 1)) M2) ∧ zz_fr zz_SG M M2 ∧ zz_Gd lv H O w (i + 1) M2 := by
  obtain ⟨g1, g2, g3⟩ := g
  obtain ⟨t, ⟨C, rfl, fC, gC, c79, c28⟩, e⟩ := zz_forC (fun (c : (Int32 → Int32 → Int32 → gx_Mem → Option (Int32 × gx_Mem)) × (Int32 → Int32 → gx_Mem → Option (Int32 × gx_Mem))) (ag : Int32 × gx_Mem → Option (Int32 × gx_Mem)) (s : Int32 × gx_Mem) => f_X8_drawn_k137 c.1 c.2 v2 v3 v4 v5 v6 (nI x) (fun v8 M => ag (v8, M)) s.1 s.2) (fun c s => c.2 v4 (nI (x + 1)) s.2) (fun m s => ∃ C, s = (nI m, C) ∧ zz_fr zz_SG M C ∧ zz_gs lv H O w i m 0 C ∧ (∀ q, q < 4 → C.1 79 q = nI (if q < m then zz_ca lv H O q (i + 1) else zz_ca lv H O q i)) ∧ C.1 57 28 = O i) 4 gx_fuel (by decide) (0, M) ⟨M, rfl, zz_fr.rf, fun j hj => by rw [if_neg (by omega)]; exact g2 j hj, fun q hq => by rw [if_neg (by omega)]; exact g3 q hq, ho⟩ (fun m s hm hs => by
      obtain ⟨C, rfl, fC, gC, c79, c28⟩ := hs
      obtain ⟨D, d1, d2, d3, d4, d5, d6, d7⟩ := zz_goMark ok (g1.frG fC) c28 hlv (hL.tr (zz_lwM.sc (fC.mono zz_SG_sc))) hm hw hi gC (by rw [c79 m hm, if_neg (by omega)])
      refine ⟨(nI (m + 1), D), ⟨D, rfl, fC.tr d2, d3, fun q hq => ?_, d6⟩, fun c ag => ?_⟩
      · by_cases c : q = m
        · subst c; rw [d4, if_pos (by omega)]
        · rw [d5 q c, c79 q hq]
          by_cases c2 : q < m
          · rw [if_pos c2, if_pos (by omega)]
          · rw [if_neg c2, if_neg (by omega)]
      · dsimp only
        unfold f_X8_drawn_k137
        rw [if_neg (show ¬ (4 : Int32) ≤ nI m by rw [show (4 : Int32) = nI 4 from rfl, zz_le (by decide) (by omega)]; omega), d1]
        simp only [zz_bPs, zz_let, show nI m + 1 = nI (m + 1) from zz_add m 1]) (fun s hs c ag => by
      obtain ⟨C, rfl, fC, gC, c79, c28⟩ := hs
      dsimp only
      unfold f_X8_drawn_k137
      rw [if_pos (show (4 : Int32) ≤ nI 4 by decide), zz_let, show nI x + 1 = nI (x + 1) from zz_add x 1])
  exact ⟨C, e, fC, g1.frG fC, fun j hj => by rw [gC j hj, if_pos (by omega)], fun q hq => by rw [c79 q hq, if_pos hq]⟩
theorem zz_drawn83 (ag50 : Int32 → Int32 → Int32 → gx_Mem → Option (Int32 × gx_Mem)) (ag66 : Int32 → Int32 → gx_Mem → Option (Int32 × gx_Mem)) (v2 v3 v5 v6 v7 : Int32) {M : gx_Mem} {n : Nat} (hn : M.1 57 1 = nI n) (h6 : n ≤ 6) (s : Int32) (c : Nat) :
    f_X8_drawn_l83 ag50 ag66 v2 v3 v5 v6 v7 gx_fuel (zz_zz s c) 0 (gx_sI M 57 28 0) = f_X8_drawn_l137 ag50 ag66 v2 v3 (zz_zz s (c + n)) v5 v6 v7 gx_fuel 0 (gx_sI M 57 28 (zz_zS s n c)) := by
  obtain ⟨t, rfl, e⟩ := zz_for (fun (ag83 : Int32 × Int32 × gx_Mem → Option (Int32 × gx_Mem)) (t : Int32 × Int32 × gx_Mem) => f_X8_drawn_k83 ag50 ag66 v2 v3 v5 v6 v7 (fun v4 v8 M => ag83 (v4, v8, M)) t.1 t.2.1 t.2.2) (fun t => f_X8_drawn_l137 ag50 ag66 v2 v3 t.1 v5 v6 v7 gx_fuel 0 t.2.2) (fun i t => t = (zz_zz s (c + i), nI i, gx_sI M 57 28 (zz_ou (fun p => zz_zb (zz_zz s (c + p + 1))) i))) n gx_fuel (by unfold gx_fuel; omega) (zz_zz s c, 0, gx_sI M 57 28 0) rfl (fun i t hi ht => by
      subst ht
      refine ⟨_, rfl, fun ag => ?_⟩
      dsimp only
      unfold f_X8_drawn_k83 f_X8_drawn_b128
      rw [show (gx_sI M 57 28 (zz_ou (fun p => zz_zb (zz_zz s (c + p + 1))) i)).1 57 1 = nI n from hn, if_neg (show ¬ nI n ≤ nI i by rw [zz_le (by omega) (by omega)]; omega), zz_let, show zz_zz s (c + i) * (1103515245 : Int32) + 12345 = zz_zz s (c + i + 1) from rfl, zz_zb01, show nI i + 1 = nI (i + 1) from zz_add i 1]
      conv => rhs; unfold zz_ou
      cases zz_zb (zz_zz s (c + i + 1)) with
      | false =>
        rw [if_neg (show ¬ zz_i false = 1 by decide), if_neg (show ¬ false = true by decide)]
        rfl
      | true =>
        rw [if_pos (show zz_i true = 1 from rfl), if_pos rfl, zz_let, zz_sIsI]
        rfl) (fun t ht ag => by
      subst ht
      dsimp only
      unfold f_X8_drawn_k83
      rw [show (gx_sI M 57 28 (zz_ou (fun p => zz_zb (zz_zz s (c + p + 1))) n)).1 57 1 = nI n from hn, if_pos (nI_le (Nat.le_refl n) (by omega))])
  exact e
theorem zz_drawn66 {A : gx_Mem} {H : zz_hs} {lv : Nat → Nat → Nat → Nat → Nat → Nat → Nat} {w : Nat → Nat} (ok : zz_hok H) (hlv : ∀ a w i f m n, lv a w i f m n ≤ a) (hL : zz_LM lv A) (hw : ∀ j, j < 24 → w j ≤ 9999) (s : Int32) (c : Nat) {v2 : Int32} (v3 v5 v6 : Int32) {hours : Nat} (hh : hours ≤ 24) (hr : gx_rem v2 100 = nI hours) (g : zz_Gd lv H (zz_zO s H.n c) w 0 A) :
    ∃ D, zz_fr zz_SG A D ∧ zz_Gd lv H (zz_zO s H.n c) w hours D ∧ ∀ ag50, f_X8_drawn_l66 ag50 v2 v3 v5 v6 gx_fuel (zz_zz s c) 0 A = f_X8_drawn_l164 ag50 v2 v3 (zz_zz s (c + hours * H.n)) v6 gx_fuel v5 0 D := by
  have h6 := ok.1
  obtain ⟨t, ⟨D, rfl, fD, gD⟩, e⟩ := zz_forC (fun (ag50 : Int32 → Int32 → Int32 → gx_Mem → Option (Int32 × gx_Mem)) (ag66 : Int32 × Int32 × gx_Mem → Option (Int32 × gx_Mem)) (t : Int32 × Int32 × gx_Mem) => f_X8_drawn_k66 ag50 v2 v3 v5 v6 (fun v4 v7 M => ag66 (v4, v7, M)) t.1 t.2.1 t.2.2) (fun ag50 t => f_X8_drawn_l164 ag50 v2 v3 t.1 v6 gx_fuel v5 0 t.2.2) (fun x t => ∃ D, t = (zz_zz s (c + x * H.n), nI x, D) ∧ zz_fr zz_SG A D ∧ zz_Gd lv H (zz_zO s H.n c) w x D) hours gx_fuel (by unfold gx_fuel; omega) (zz_zz s c, 0, A) ⟨A, by rw [Nat.zero_mul, Nat.add_zero]; rfl, zz_fr.rf, g⟩ (fun x t hx ht => by
      obtain ⟨D, rfl, fD, gD⟩ := ht
      have fB : zz_fr zz_SG A (gx_sI D 57 28 (zz_zS s H.n (c + x * H.n))) := fD.sI rfl
      obtain ⟨⟨d1, d2, d3, d4, d5⟩, gD2, gD3⟩ := gD
      obtain ⟨E, e1, e2, e3⟩ := zz_drawn137 (M := gx_sI D 57 28 (zz_zS s H.n (c + x * H.n))) (O := zz_zO s H.n c) (i := x) (w := w) v2 v3 (zz_zz s (c + x * H.n + H.n)) v5 v6 x ok rfl hlv (hL.tr (zz_lwM.sc (fB.mono zz_SG_sc))) hw (by omega) ⟨⟨d1, d2, d3, d4, d5⟩, gD2, gD3⟩
      refine ⟨(zz_zz s (c + (x + 1) * H.n), nI (x + 1), E), ⟨E, rfl, fB.tr e2, e3⟩, fun ag50 ag => ?_⟩
      dsimp only
      unfold f_X8_drawn_k66
      rw [hr, if_neg (show ¬ nI hours ≤ nI x by rw [zz_le (by omega) (by omega)]; omega), zz_let, zz_drawn83 _ _ _ _ _ _ _ d1 h6]
      refine (e1 (ag50, fun v4 v7 M => ag (v4, v7, M))).trans ?_
      rw [show c + x * H.n + H.n = c + (x + 1) * H.n by rw [Nat.succ_mul, Nat.add_assoc]]) (fun t ht ag50 ag => by
      obtain ⟨D, rfl, fD, gD⟩ := ht
      dsimp only
      unfold f_X8_drawn_k66
      rw [hr, if_pos (nI_le (Nat.le_refl hours) (by omega))])
  exact ⟨D, fD, gD, e⟩
theorem zz_su_ca {lv : Nat → Nat → Nat → Nat → Nat → Nat → Nat} {H : zz_hs} {O : Nat → Int32} : ∀ h, zz_su (fun q => zz_ca lv H O q h) 4 = zz_su (fun t => zz_su (fun m => zz_pt lv H (O t) m 3) 4) h
  | 0 => rfl
  | h + 1 => by
    have := zz_su_ca (lv := lv) (H := H) (O := O) h
    conv => rhs; rw [zz_suS]
    rw [← this, zz_su4, zz_su4, zz_su4]
    show zz_ca lv H O 0 h + _ + (zz_ca lv H O 1 h + _) + (zz_ca lv H O 2 h + _) + (zz_ca lv H O 3 h + _) = _
    omega
theorem zz_loopF {σ ρ : Type} (b : (σ → Option ρ) → σ → Option ρ) (s : σ) : gx_loop b gx_fuel s = b (gx_loop b 999) s := rfl
/-- the sums at a night's end -/
theorem zz_drawn197 {D : gx_Mem} {f : Nat → Nat} (v2 v4 v6 : Int32) (porter : Bool) (a : Nat) (h79 : ∀ q, q < 4 → D.1 79 q = nI (f q)) (ag50 : Int32 → Int32 → Int32 → gx_Mem → Option (Int32 × gx_Mem)) : f_X8_drawn_b194 ag50 v2 (zz_i porter) v4 (nI a) v6 D = ag50 v4 (nI (a + if porter = true then zz_su f 4 else 0)) (v6 + 1) D := by
  unfold f_X8_drawn_b194
  cases porter with
  | false =>
    unfold f_X8_drawn_l197
    rw [zz_loopF]
    dsimp only
    unfold f_X8_drawn_k197 f_X8_drawn_b226
    rw [if_neg (show ¬ (4 : Int32) ≤ 0 by decide), if_neg (show ¬ zz_i false = 1 by decide), zz_let, if_neg (show ¬ false = true by decide), Nat.add_zero]
  | true =>
    rw [if_pos rfl]
    obtain ⟨t, rfl, e⟩ := zz_for (fun (ag197 : Int32 × Int32 × gx_Mem → Option (Int32 × gx_Mem)) (t : Int32 × Int32 × gx_Mem) => f_X8_drawn_k197 ag50 v2 (zz_i true) v4 v6 (fun v5 v7 M => ag197 (v5, v7, M)) t.1 t.2.1 t.2.2) (fun t => ag50 v4 t.1 (v6 + 1) t.2.2) (fun i t => t = (nI (a + zz_su f i), nI i, D)) 4 gx_fuel (by decide) (nI a, 0, D) rfl (fun i t hi ht => by
      subst ht
      refine ⟨_, rfl, fun ag => ?_⟩
      dsimp only
      unfold f_X8_drawn_k197
      rw [if_neg (show ¬ (4 : Int32) ≤ nI i by rw [show (4 : Int32) = nI 4 from rfl, zz_le (by decide) (by omega)]; omega), if_pos (show zz_i true = 1 from rfl), zz_gi hi (by decide), zz_cl (show i < 2147483648 by omega), h79 i hi, zz_add, zz_let, zz_let, show nI i + 1 = nI (i + 1) from zz_add i 1, Nat.add_assoc]
      rfl) (fun t ht ag => by
      subst ht
      dsimp only
      unfold f_X8_drawn_k197 f_X8_drawn_b226
      rw [if_pos (show (4 : Int32) ≤ nI 4 by decide), zz_let])
    exact e
theorem zz_drawn164 {D : gx_Mem} {H : zz_hs} {lv : Nat → Nat → Nat → Nat → Nat → Nat → Nat} {w : Nat → Nat} (ok : zz_hok H) (hw : ∀ j, j < 24 → w j ≤ 9999) (s : Int32) (c : Nat) (v2 v4 v6 : Int32) (porter : Bool) (a : Nat) {hours : Nat} (g : zz_Gd lv H (zz_zO s H.n c) w hours D) (h61 : ∀ j, j < 24 → D.1 61 j = nI (w j)) (ag50 : Int32 → Int32 → Int32 → gx_Mem → Option (Int32 × gx_Mem)) :
    f_X8_drawn_l164 ag50 v2 (zz_i porter) v4 v6 gx_fuel (nI a) 0 D = ag50 v4 (nI (a + if porter = true then zz_zP lv H s c porter hours else zz_zW lv H w s c porter hours)) (v6 + 1) D := by
  have h6 := ok.1
  cases porter with
  | true =>
    have e : f_X8_drawn_l164 ag50 v2 (zz_i true) v4 v6 gx_fuel (nI a) 0 D = f_X8_drawn_b194 ag50 v2 (zz_i true) v4 (nI a) v6 D := by
      unfold f_X8_drawn_l164
      rw [zz_loopF]
      dsimp only
      unfold f_X8_drawn_k164
      rw [if_neg (show ¬ zz_i true = 0 by decide)]
      split <;> rfl
    rw [e, zz_drawn197 v2 v4 v6 true a g.2.2, if_pos rfl, if_pos rfl, zz_su_ca]
    rfl
  | false =>
    have key : ∀ p, p < H.n → f_X8_wetter (nI p) D = some (nI (zz_su (fun m => min (9999 - w (4 * p + m)) (zz_zG lv H s c false hours (4 * p + m))) 4)) := by
      intro p hp
      rw [zz_wetter8 g.2.1 h61 (by omega), zz_su4, zz_su4, zz_su4]
      have k : ∀ m, m < 4 → zz_wt lv H (zz_zO s H.n c) w (4 * p + m) hours = min 9999 (w (4 * p + m) + zz_zG lv H s c false hours (4 * p + m)) := fun m hm => by
        rw [zz_wt_ds hm (hw _ (by omega))]
        show _ = min 9999 (_ + zz_ds lv H (zz_zO s H.n c) ((4 * p + m) / 4) ((4 * p + m) % 4) hours)
        rw [show (4 * p + m) / 4 = p by omega, show (4 * p + m) % 4 = m by omega]
      rw [k 0 (by decide), k 1 (by decide), k 2 (by decide), k 3 (by decide)]
      have w0 := hw (4 * p + 0) (by omega)
      have w1 := hw (4 * p + 1) (by omega)
      have w2 := hw (4 * p + 2) (by omega)
      have w3 := hw (4 * p + 3) (by omega)
      rw [zz_sub (by omega)]
      congr 2
      omega
    obtain ⟨t, rfl, e⟩ := zz_for (fun (ag164 : Int32 × Int32 × gx_Mem → Option (Int32 × gx_Mem)) (t : Int32 × Int32 × gx_Mem) => f_X8_drawn_k164 ag50 v2 (zz_i false) v4 v6 (fun v5 v7 M => ag164 (v5, v7, M)) t.1 t.2.1 t.2.2) (fun t => f_X8_drawn_b194 ag50 v2 (zz_i false) v4 t.1 v6 t.2.2) (fun i t => t = (nI (a + zz_su (fun p => zz_su (fun m => min (9999 - w (4 * p + m)) (zz_zG lv H s c false hours (4 * p + m))) 4) i), nI i, D)) H.n gx_fuel (by unfold gx_fuel; omega) (nI a, 0, D) rfl (fun i t hi ht => by
      subst ht
      refine ⟨_, rfl, fun ag => ?_⟩
      dsimp only
      unfold f_X8_drawn_k164
      rw [g.1.1, if_neg (show ¬ nI H.n ≤ nI i by rw [zz_le (by omega) (by omega)]; omega), if_pos (show zz_i false = 0 from rfl), key i hi, zz_bPs, zz_add, zz_let, zz_let, show nI i + 1 = nI (i + 1) from zz_add i 1, Nat.add_assoc]
      rfl) (fun t ht ag => by
      subst ht
      dsimp only
      unfold f_X8_drawn_k164
      rw [g.1.1, if_pos (nI_le (Nat.le_refl _) (by omega))])
    refine e.trans ?_
    dsimp only
    rw [zz_drawn197 v2 v4 v6 false _ g.2.2, if_neg (show ¬ false = true by decide), if_neg (show ¬ false = true by decide), Nat.add_zero]
    rfl

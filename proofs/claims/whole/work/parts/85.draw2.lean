/-- a night's draws: who is out in its hours -/
def zz_zO (s : Int32) (n c h : Nat) : Int32 := zz_zS s n (c + h * n)
/-- what one has gained in a night (nothing is kept where the porter alone is asked for) -/
def zz_zG (lv : Nat → Nat → Nat → Nat → Nat → Nat → Nat) (H : zz_hs) (s : Int32) (c : Nat) (porter : Bool) (h j : Nat) : Nat := if porter = true then 0 else zz_ds lv H (zz_zO s H.n c) (j / 4) (j % 4) h
def zz_zP (lv : Nat → Nat → Nat → Nat → Nat → Nat → Nat) (H : zz_hs) (s : Int32) (c : Nat) (porter : Bool) (h : Nat) : Nat := if porter = true then zz_su (fun t => zz_su (fun m => zz_pt lv H (zz_zO s H.n c t) m 3) 4) h else 0
def zz_zW (lv : Nat → Nat → Nat → Nat → Nat → Nat → Nat) (H : zz_hs) (w : Nat → Nat) (s : Int32) (c : Nat) (porter : Bool) (h : Nat) : Nat := zz_su (fun p => zz_su (fun m => min (9999 - w (4 * p + m)) (zz_zG lv H s c porter h (4 * p + m))) 4) H.n
theorem zz_zP_le {lv : Nat → Nat → Nat → Nat → Nat → Nat → Nat} (hlv : ∀ a w i f m n, lv a w i f m n ≤ a) {H : zz_hs} (ok : zz_hok H) (s : Int32) (c : Nat) (porter : Bool) (h : Nat) : zz_zP lv H s c porter h ≤ 5184 * h := by
  unfold zz_zP
  split
  · refine zz_su_le h (fun t _ => ?_)
    exact zz_su_le (c := 1296) 4 (fun m hm => zz_pt_le hlv ok _ hm 3)
  · omega
theorem zz_zW_le {lv : Nat → Nat → Nat → Nat → Nat → Nat → Nat} {H : zz_hs} {w : Nat → Nat} {s : Int32} {c : Nat} {porter : Bool} {h : Nat} (h6 : H.n ≤ 6) : zz_zW lv H w s c porter h ≤ 239976 := by
  have : zz_zW lv H w s c porter h ≤ 39996 * H.n := zz_su_le H.n (fun p _ => zz_su_le (c := 9999) 4 (fun m _ => by omega))
  omega
theorem zz_draw45 {M : gx_Mem} {lv : Nat → Nat → Nat → Nat → Nat → Nat → Nat} (h : zz_IH M) (hlv : ∀ a w i f m n, lv a w i f m n ≤ a) (hL : zz_LC lv M) (s : Int32) (c : Nat) (porter : Bool) (v2 : Int32) {hours : Nat} (hh : hours ≤ 24) (v6 : Int32) (N a : Nat) (h0 : ∀ j, j < 24 → M.1 33 j = nI 0) :
    ∃ D, zz_fr zz_S33 M D ∧ ∀ ag12, f_X4_draw_l45 ag12 v2 (nI hours) (zz_i porter) v6 (nI N) gx_fuel (zz_zz s c) (nI a) 0 M = ag12 (zz_zz s (c + hours * (zz_H M).n)) (v6 + nI (zz_zW lv (zz_H M) (zz_W M) s c porter hours)) (nI (a + zz_zP lv (zz_H M) s c porter hours)) (nI (N + 1)) D := by
  obtain ⟨ok, c1, c2, c3, c4, c5⟩ := zz_Hok h
  have hv := (zz_Hok h).2
  have h6 := ok.1
  obtain ⟨t, ⟨D, rfl, fD, gD⟩, e⟩ := zz_forC (fun (ag12 : Int32 → Int32 → Int32 → Int32 → gx_Mem → Option (Int32 × gx_Mem)) (ag45 : Int32 × Int32 × Int32 × gx_Mem → Option (Int32 × gx_Mem)) (t : Int32 × Int32 × Int32 × gx_Mem) => f_X4_draw_k45 ag12 v2 (nI hours) (zz_i porter) v6 (nI N) (fun v5 v7 v9 M => ag45 (v5, v7, v9, M)) t.1 t.2.1 t.2.2.1 t.2.2.2) (fun ag12 t => ag12 (zz_zz s (c + hours * (zz_H M).n)) (v6 + nI (zz_zW lv (zz_H M) (zz_W M) s c porter hours)) (nI (a + zz_zP lv (zz_H M) s c porter hours)) (nI (N + 1)) t.2.2.2) (fun x t => ∃ D, t = (zz_zz s (c + x * (zz_H M).n), nI (a + zz_zP lv (zz_H M) s c porter x), nI x, D) ∧ zz_fr zz_S33 M D ∧ ∀ j, j < 24 → D.1 33 j = nI (zz_zG lv (zz_H M) s c porter x j)) hours gx_fuel (by unfold gx_fuel; omega) (zz_zz s c, nI a, 0, M) ⟨M, by
      rw [Nat.zero_mul, Nat.add_zero, show zz_zP lv (zz_H M) s c porter 0 = 0 by unfold zz_zP; split <;> rfl]; rfl, zz_fr.rf, fun j hj => by rw [h0 j hj, show zz_zG lv (zz_H M) s c porter 0 j = 0 by unfold zz_zG; split <;> rfl]⟩ (fun x t hx ht => by
      obtain ⟨D, rfl, fD, gD⟩ := ht
      have hvD := hv.fr33 fD
      have hLD := hL.tr (zz_lwC.sc (fD.mono zz_S33_sc))
      have ec : c + x * (zz_H M).n + (zz_H M).n = c + (x + 1) * (zz_H M).n := by rw [Nat.succ_mul, Nat.add_assoc]
      cases porter with
      | false =>
        obtain ⟨E, e1, e2, e3⟩ := zz_soak ok hvD hlv hLD (zz_zS s (zz_H M).n (c + x * (zz_H M).n)) gD
        refine ⟨(zz_zz s (c + (x + 1) * (zz_H M).n), nI (a + zz_zP lv (zz_H M) s c false (x + 1)), nI (x + 1), E), ⟨E, rfl, fD.tr e2, fun j hj => ?_⟩, fun ag12 ag => ?_⟩
        · rw [e3 j hj]
          rfl
        · dsimp only
          unfold f_X4_draw_k45
          rw [if_neg (show ¬ nI hours ≤ nI x by rw [zz_le (by omega) (by omega)]; omega), zz_draw57 _ _ _ _ _ _ _ _ _ hvD.1 h6, if_pos (show zz_i false = 0 from rfl), e1, zz_bPs]
          unfold f_X4_draw_b126
          rw [zz_let, show nI x + 1 = nI (x + 1) from zz_add x 1, ec]
          rfl
      | true =>
        obtain ⟨E, e1, e2⟩ := zz_caughtOfAll ok hvD hlv hLD (zz_zS s (zz_H M).n (c + x * (zz_H M).n))
        refine ⟨(zz_zz s (c + (x + 1) * (zz_H M).n), nI (a + zz_zP lv (zz_H M) s c true (x + 1)), nI (x + 1), E), ⟨E, rfl, fD.tr (e2.mono zz_S34_33), fun j hj => ?_⟩, fun ag12 ag => ?_⟩
        · rw [e2.2 33 j rfl, gD j hj]
          rfl
        · dsimp only
          unfold f_X4_draw_k45
          rw [if_neg (show ¬ nI hours ≤ nI x by rw [zz_le (by omega) (by omega)]; omega), zz_draw57 _ _ _ _ _ _ _ _ _ hvD.1 h6, if_neg (show ¬ zz_i true = 0 by decide), e1, zz_bIs, zz_let, zz_add]
          unfold f_X4_draw_b126
          rw [zz_let, show nI x + 1 = nI (x + 1) from zz_add x 1, ec, Nat.add_assoc]
          rfl) (fun t ht ag12 ag => by
      obtain ⟨D, rfl, fD, gD⟩ := ht
      have hvD := hv.fr33 fD
      have hb : ∀ j, j < 24 → zz_zG lv (zz_H M) s c porter hours j < 1000000 := fun j hj => by
        unfold zz_zG
        split
        · decide
        · have := zz_ds_le hlv ok (zz_zO s (zz_H M).n c) (show j % 4 < 4 by omega) (j / 4) hours
          omega
      dsimp only
      unfold f_X4_draw_k45
      rw [if_pos (nI_le (Nat.le_refl hours) (by omega)), zz_gained hvD.1 h6 (w := zz_W M) (fun j hj => ⟨(fD.2 13 j rfl).trans (zz_Wok h hj).1, (zz_Wok h hj).2.1⟩) gD hb, zz_bPs, zz_let, zz_let, show nI N + 1 = nI (N + 1) from zz_add N 1]
      rfl)
  exact ⟨D, fD, e⟩
theorem zz_draw21 (ag12 : Int32 → Int32 → Int32 → Int32 → gx_Mem → Option (Int32 × gx_Mem)) (v2 v3 v4 v5 v6 v7 v8 : Int32) (M : gx_Mem) : f_X4_draw_l21 ag12 v2 v3 v4 v5 v6 v7 v8 gx_fuel 0 M = f_X4_draw_l45 ag12 v2 v3 v4 v6 v8 gx_fuel v5 v7 0 (zz_ov M 33 0 24 (fun _ => 0)) := by
  generalize hF : f_X4_draw_l45 ag12 v2 v3 v4 v6 v8 gx_fuel v5 v7 0 = F
  obtain ⟨s, hs, e⟩ := zz_for (fun (ag : Int32 × gx_Mem → Option (Int32 × gx_Mem)) (s : Int32 × gx_Mem) => f_X4_draw_k21 ag12 v2 v3 v4 v5 v6 v7 v8 (fun v9 M => ag (v9, M)) s.1 s.2) (fun s => F s.2) (fun i s => s = (nI i, zz_ov M 33 0 i (fun _ => 0))) 24 gx_fuel (by decide) (0, M) (by rw [zz_ov0]; rfl) (fun i s hi hs => by
    subst hs
    refine ⟨_, rfl, fun ag => ?_⟩
    dsimp only
    unfold f_X4_draw_k21
    rw [if_neg (show ¬ (24 : Int32) ≤ nI i by rw [show (24 : Int32) = nI 24 from rfl, zz_le (by decide) (by omega)]; omega), zz_let, zz_cl (show i < 2147483648 by omega)]
    have e := zz_ovS M 33 0 i (fun _ => 0) 0 rfl
    rw [Nat.zero_add] at e
    rw [zz_gi hi (by decide), e]
    exact congrArg ag (Prod.ext (zz_add _ 1) rfl)) (fun s hs ag => by
    subst hs
    dsimp only
    unfold f_X4_draw_k21
    rw [if_pos (show (24 : Int32) ≤ nI 24 by decide), hF])
  subst hs
  exact e
theorem zz_draw {M : gx_Mem} {lv : Nat → Nat → Nat → Nat → Nat → Nat → Nat} (h : zz_IH M) (hlv : ∀ a w i f m n, lv a w i f m n ≤ a) (hL : zz_LC lv M) (s : Int32) (porter : Bool) {nights hours : Nat} (hn : nights ≤ 30) (hh : hours ≤ 24) :
    ∃ D, zz_fr zz_S33 M D ∧ f_X4_draw s (nI nights) (nI hours) (zz_i porter) M = some (if porter = true then nI (zz_su (fun N => zz_zP lv (zz_H M) s (N * (hours * (zz_H M).n)) porter hours) nights) else nI (zz_su (fun N => zz_zW lv (zz_H M) (zz_W M) s (N * (hours * (zz_H M).n)) porter hours) nights), D) := by
  obtain ⟨t, ⟨D, rfl, fD⟩, e⟩ := zz_for (fun (ag12 : Int32 × Int32 × Int32 × Int32 × gx_Mem → Option (Int32 × gx_Mem)) (t : Int32 × Int32 × Int32 × Int32 × gx_Mem) => f_X4_draw_k12 (nI nights) (nI hours) (zz_i porter) (fun v5 v6 v7 v8 M => ag12 (v5, v6, v7, v8, M)) t.1 t.2.1 t.2.2.1 t.2.2.2.1 t.2.2.2.2) (fun t => some (if porter = true then nI (zz_su (fun N => zz_zP lv (zz_H M) s (N * (hours * (zz_H M).n)) porter hours) nights) else nI (zz_su (fun N => zz_zW lv (zz_H M) (zz_W M) s (N * (hours * (zz_H M).n)) porter hours) nights), t.2.2.2.2)) (fun x t => ∃ D, t = (zz_zz s (x * (hours * (zz_H M).n)), nI (zz_su (fun N => zz_zW lv (zz_H M) (zz_W M) s (N * (hours * (zz_H M).n)) porter hours) x), nI (zz_su (fun N => zz_zP lv (zz_H M) s (N * (hours * (zz_H M).n)) porter hours) x), nI x, D) ∧ zz_fr zz_S33 M D) nights gx_fuel (by unfold gx_fuel; omega) (s, 0, 0, 0, M) ⟨M, by rw [Nat.zero_mul]; rfl, zz_fr.rf⟩ (fun x t hx ht => by
      obtain ⟨D, rfl, fD⟩ := ht
      have fE : zz_fr zz_S33 D (zz_ov D 33 0 24 (fun _ => 0)) := ⟨rfl, fun k i hk => by rw [zz_ov1, if_neg (by rintro ⟨rfl, -⟩; cases hk)]⟩
      have fME := fD.tr fE
      have hE := h.fr (fME.mono zz_S33_sc)
      obtain ⟨F, f1, e1⟩ := zz_draw45 hE hlv (hL.tr (zz_lwC.sc (fME.mono zz_S33_sc))) s (x * (hours * (zz_H M).n)) porter (nI nights) hh (nI (zz_su (fun N => zz_zW lv (zz_H M) (zz_W M) s (N * (hours * (zz_H M).n)) porter hours) x)) x (zz_su (fun N => zz_zP lv (zz_H M) s (N * (hours * (zz_H M).n)) porter hours) x) (fun j hj => by
        rw [zz_ov1, if_pos (by omega)]; rfl)
      have s9 : ∀ k i, 9 ≤ k → k ≤ 14 → zz_S33 k i = false := fun k i h1 h2 => by simp [zz_S33]; omega
      rw [zz_H_fr fME s9, zz_W_frF fME s9, zz_add] at e1
      refine ⟨_, ⟨F, rfl, fME.tr f1⟩, fun ag => ?_⟩
      dsimp only
      unfold f_X4_draw_k12
      rw [if_neg (show ¬ nI nights ≤ nI x by rw [zz_le (by omega) (by omega)]; omega), zz_draw21, e1, show x * (hours * (zz_H M).n) + hours * (zz_H M).n = (x + 1) * (hours * (zz_H M).n) by rw [Nat.succ_mul]]
      rfl) (fun t ht ag => by
      obtain ⟨D, rfl, fD⟩ := ht
      dsimp only
      unfold f_X4_draw_k12
      rw [if_pos (nI_le (Nat.le_refl nights) (by omega))]
      cases porter with
      | false => rw [if_pos (show zz_i false = 0 from rfl), if_neg (by decide)]
      | true => rw [if_neg (show ¬ zz_i true = 0 by decide), if_pos rfl])
  exact ⟨D, fD, e⟩

/-! RENT on the class's side -/
theorem zz_cia23 {M : gx_Mem} {H : zz_hs} {lv : Nat → Nat → Nat → Nat → Nat → Nat → Nat} (ok : zz_hok H) (hv : zz_h7 9 M H) (hlv : ∀ a w i f m n, lv a w i f m n ≤ a) (hL : zz_LC lv M) (o : Int32) {f : Nat} (hf : f < 24) (t a : Nat) :
    ∃ M2, (∀ ag4, f_X4_comesInAll_l23 ag4 (nI f) (nI t) o gx_fuel (nI a) 0 M = ag4 (nI (a + zz_su (fun m => zz_R lv H o m (f / 8) (7 - f % 8)) 4)) (nI (t + 1)) M2) ∧ zz_fr zz_S34 M M2 := by
  obtain ⟨s, ⟨D, rfl, fD⟩, e⟩ := zz_forC (fun (ag4 : Int32 → Int32 → gx_Mem → Option (Int32 × gx_Mem)) (ag23 : Int32 × Int32 × gx_Mem → Option (Int32 × gx_Mem)) (s : Int32 × Int32 × gx_Mem) => f_X4_comesInAll_k23 ag4 (nI f) (nI t) o (fun v2 v5 M => ag23 (v2, v5, M)) s.1 s.2.1 s.2.2) (fun ag4 s => ag4 s.1 (nI (t + 1)) s.2.2) (fun i s => ∃ D, s = (nI (a + zz_su (fun m => zz_R lv H o m (f / 8) (7 - f % 8)) i), nI i, D) ∧ zz_fr zz_S34 M D) 4 gx_fuel (by decide) (nI a, 0, M) ⟨M, rfl, zz_fr.rf⟩ (fun i s hi hs => by
      obtain ⟨D, rfl, fD⟩ := hs
      obtain ⟨E, e1, e2⟩ := zz_reach (k := 9) (J := 7 - f % 8) (v2 := nI (f % 8)) (by decide) ok (hv.fr (by decide) fD) hlv (hL.tr (zz_lwC.fr fD)) o (m := i) (s := f / 8) hi (by omega) (by omega) (by rw [nI_toInt (by omega)]; omega)
      refine ⟨(nI (a + zz_su (fun m => zz_R lv H o m (f / 8) (7 - f % 8)) (i + 1)), nI (i + 1), E), ⟨E, rfl, fD.tr e2⟩, fun ag4 ag => ?_⟩
      dsimp only
      unfold f_X4_comesInAll_k23
      rw [if_neg (show ¬ (4 : Int32) ≤ nI i by rw [show (4 : Int32) = nI 4 from rfl, zz_le (by decide) (by omega)]; omega), show (8 : Int32) = nI 8 from rfl, zz_div (by omega) (by decide) (by decide), zz_rem (by omega) (by decide) (by decide), e1, zz_bIs, zz_add, zz_let, zz_let, show nI i + 1 = nI (i + 1) from zz_add i 1, Nat.add_assoc]
      rfl) (fun s hs ag4 ag => by
      obtain ⟨D, rfl, fD⟩ := hs
      dsimp only
      unfold f_X4_comesInAll_k23
      rw [if_pos (show (4 : Int32) ≤ nI 4 by decide), zz_let, show nI t + 1 = nI (t + 1) from zz_add t 1])
  exact ⟨D, e, fD⟩
theorem zz_cia {M : gx_Mem} {lv : Nat → Nat → Nat → Nat → Nat → Nat → Nat} (h : zz_IH M) (hlv : ∀ a w i f m n, lv a w i f m n ≤ a) (hL : zz_LC lv M) {f : Nat} (hf : f < 24) :
    ∃ M2, f_X4_comesInAll (nI f) M = some (nI (zz_ci lv (zz_H M) (zz_o M) f 12), M2) ∧ zz_fr zz_S34 M M2 := by
  have ok := (zz_Hok h).1
  have hv := (zz_Hok h).2
  obtain ⟨s, ⟨D, rfl, fD⟩, e⟩ := zz_for (fun (ag4 : Int32 × Int32 × gx_Mem → Option (Int32 × gx_Mem)) (s : Int32 × Int32 × gx_Mem) => f_X4_comesInAll_k4 (nI f) (fun v2 v3 M => ag4 (v2, v3, M)) s.1 s.2.1 s.2.2) (fun s => some (s.1, s.2.2)) (fun i s => ∃ D, s = (nI (zz_ci lv (zz_H M) (zz_o M) f i), nI i, D) ∧ zz_fr zz_S34 M D) 12 gx_fuel (by decide) (0, 0, M) ⟨M, rfl, zz_fr.rf⟩ (fun i s hi hs => by
      obtain ⟨D, rfl, fD⟩ := hs
      have hD := h.fr (fD.mono zz_S34_sc)
      obtain ⟨E, e1, e2⟩ := zz_cia23 ok (hv.fr (by decide) fD) hlv (hL.tr (zz_lwC.fr fD)) (zz_o M i) hf i (zz_ci lv (zz_H M) (zz_o M) f i)
      refine ⟨(nI (zz_ci lv (zz_H M) (zz_o M) f (i + 1)), nI (i + 1), E), ⟨E, rfl, fD.tr e2⟩, fun ag => ?_⟩
      dsimp only
      unfold f_X4_comesInAll_k4
      rw [if_neg (show ¬ (12 : Int32) ≤ nI i by rw [show (12 : Int32) = nI 12 from rfl, zz_le (by decide) (by omega)]; omega), zz_o7 hD, zz_o_fr fD zz_S34_9, zz_bPs, e1]
      rfl) (fun s hs ag => by
      obtain ⟨D, rfl, fD⟩ := hs
      dsimp only
      unfold f_X4_comesInAll_k4
      rw [if_pos (show (12 : Int32) ≤ nI 12 by decide)])
  exact ⟨D, e, fD⟩
/-- a frame that leaves the long numbers out -/
def zz_f1c (M M2 : gx_Mem) : Prop := (∀ k i, zz_S34 k i = false → M2.1 k i = M.1 k i) ∧ (∀ k i, k ≠ 34 → M2.2 k i = M.2 k i)
theorem zz_f1c.core {M M2 : gx_Mem} (h : zz_f1c M M2) : zz_core M2 = zz_core M := by
  unfold zz_core
  refine Prod.ext ?_ ?_
  · funext k i
    show (if zz_sc k i = true then 0 else M2.1 k i) = (if zz_sc k i = true then 0 else M.1 k i)
    cases e : zz_sc k i with
    | true => rfl
    | false =>
      rw [if_neg (by decide), if_neg (by decide)]
      refine h.1 k i ?_
      cases e2 : zz_S34 k i with
      | false => rfl
      | true => rw [zz_S34_sc k i e2] at e; cases e
  · funext k i
    show (if zz_sc2 k = true then 0 else M2.2 k i) = (if zz_sc2 k = true then 0 else M.2 k i)
    cases e : zz_sc2 k with
    | true => rfl
    | false =>
      rw [if_neg (by decide), if_neg (by decide)]
      exact h.2 k i (by rintro rfl; cases e)
theorem zz_f1c.fr {M M2 : gx_Mem} (h : zz_f1c M M2) : zz_fr zz_S34 M ((M2.1, M.2) : gx_Mem) := ⟨rfl, h.1⟩
theorem zz_f1c.tr {M M2 M3 : gx_Mem} (h : zz_f1c M M2) (f : zz_fr zz_S34 M2 M3) : zz_f1c M M3 := ⟨fun k i hk => (f.2 k i hk).trans (h.1 k i hk), fun k i hk => by rw [f.1]; exact h.2 k i hk⟩
theorem zz_f1c.sL {M M2 : gx_Mem} (h : zz_f1c M M2) (i : Nat) (v : Int64) : zz_f1c M (gx_sL M2 34 i v) := ⟨h.1, fun k j hk => by rw [zz_sL2, if_neg (fun q => hk q.1)]; exact h.2 k j hk⟩
/-- the weights' sum -/
theorem zz_share63 {M : gx_Mem} {n one : Nat} {g : Nat → Nat} (v2 : Int32) (h6 : n ≤ 6) (hn : M.1 9 7 = nI n) (ho : one < n) (hw : ∀ p, p < n → M.2 34 p = zL (g p)) (hg : ∀ p, p < n → 0 < g p) (hb : zz_pr g n ≤ 1430000000000000000) :
    f_X4_share_l63 (nI one) v2 (zL (zz_pr g n)) gx_fuel 0 0 M = some ((v2.toInt64 * zL (zz_po g one n) / zL (zz_su (fun p => zz_po g p n) n)).toInt32, M) := by
  have hpo : ∀ p, p < n → zz_pr g n = zz_po g p n * g p := fun p hp => zz_pr_po g p n hp
  have hpos : ∀ p, 0 < zz_po g p n := fun p => zz_po_pos n hg
  have hgle : ∀ p, p < n → g p ≤ zz_pr g n := fun p hp => by rw [hpo p hp]; exact Nat.le_mul_of_pos_left _ (hpos p)
  have hple : ∀ p, p < n → zz_po g p n ≤ zz_pr g n := fun p hp => by rw [hpo p hp]; exact Nat.le_mul_of_pos_right _ (hg p hp)
  have hdiv : ∀ p, p < n → zL (zz_pr g n) / zL (g p) = zL (zz_po g p n) := fun p hp => by
    have := hgle p hp
    rw [zL_div (by omega) (hg p hp) (by omega), hpo p hp, Nat.mul_div_cancel _ (hg p hp)]
  have hall : zz_su (fun p => zz_po g p n) n ≤ 1430000000000000000 * n := zz_su_le n (fun p hp => by have := hple p hp; omega)
  have hall0 : 0 < zz_su (fun p => zz_po g p n) n := by
    have m := zz_su_mono (fun p => zz_po g p n) (show 1 ≤ n by omega)
    have e : zz_su (fun p => zz_po g p n) 1 = 0 + zz_po g 0 n := rfl
    have := hpos 0
    omega
  have z0 : (0 : Int64) = zL 0 := rfl
  have hne : ∀ p, p < n → ¬ zL (g p) = 0 := fun p hp => by
    have a := hg p hp
    have b := hgle p hp
    rw [z0, zL_eq (by omega) (by decide)]
    omega
  obtain ⟨s, rfl, e⟩ := zz_for (fun (ag63 : Int64 × Int32 × gx_Mem → Option (Int32 × gx_Mem)) (s : Int64 × Int32 × gx_Mem) => f_X4_share_k63 (nI one) v2 (zL (zz_pr g n)) (fun w5 v7 M => ag63 (w5, v7, M)) s.1 s.2.1 s.2.2) (fun s => some ((v2.toInt64 * zL (zz_po g one n) / zL (zz_su (fun p => zz_po g p n) n)).toInt32, s.2.2)) (fun i s => s = (zL (zz_su (fun p => zz_po g p n) i), nI i, M)) n gx_fuel (by unfold gx_fuel; omega) (0, 0, M) rfl (fun i s hi hs => by
      subst hs
      refine ⟨_, rfl, fun ag => ?_⟩
      dsimp only
      unfold f_X4_share_k63 f_X4_share_b102
      rw [hn, if_neg (show ¬ nI n ≤ nI i by rw [zz_le (by omega) (by omega)]; omega), zz_gi (show i < 6 by omega) (by decide), zz_cl (show i < 2147483648 by omega), hw i hi, if_neg (show ¬ lg_cmp (zL (g i)) 0 = 0 by rw [zz_cmp0]; exact hne i hi), zz_gi (show i < 6 by omega) (by decide), zz_gdD (hne i hi), hdiv i hi, zL_add, zz_let, zz_let, show nI i + 1 = nI (i + 1) from zz_add i 1]
      rfl) (fun s hs ag => by
      subst hs
      have hz : ¬ zL (zz_su (fun p => zz_po g p n) n) = 0 := by
        rw [z0, zL_eq (by omega) (by decide)]; omega
      dsimp only
      unfold f_X4_share_k63
      rw [hn, if_pos (nI_le (Nat.le_refl n) (by omega)), if_neg (show ¬ lg_cmp (zL (zz_su (fun p => zz_po g p n) n)) 0 = 0 by rw [zz_cmp0]; exact hz), zz_gi (show one < 6 by omega) (by decide), zz_cl (show one < 2147483648 by omega), hw one ho, if_neg (show ¬ lg_cmp (zL (g one)) 0 = 0 by rw [zz_cmp0]; exact hne one ho), zz_gi (show one < 6 by omega) (by decide), zz_gdD (hne one ho), zz_gdD hz, hdiv one ho])
  exact e
theorem zz_share {M : gx_Mem} {lv : Nat → Nat → Nat → Nat → Nat → Nat → Nat} (h : zz_IH M) (hlv : ∀ a w i f m n, lv a w i f m n ≤ a) (hL : zz_LC lv M) {one : Nat} (v2 : Int32) (ho : one < (zz_H M).n) :
    ∃ M2, f_X4_share (nI one) v2 M = some ((v2.toInt64 * zL (zz_po (zz_cw lv (zz_H M) (zz_o M)) one (zz_H M).n) / zL (zz_su (fun p => zz_po (zz_cw lv (zz_H M) (zz_o M)) p (zz_H M).n) (zz_H M).n)).toInt32, M2) ∧ zz_f1c M M2 := by
  obtain ⟨ok, c1, c2, c3, c4, c5⟩ := zz_Hok h
  have h6 := ok.1
  generalize hg : zz_cw lv (zz_H M) (zz_o M) = g
  have hgp : ∀ p, zz_cw lv (zz_H M) (zz_o M) p = g p := fun p => by rw [← hg]
  have hpos : ∀ p, p < (zz_H M).n → 0 < g p := fun p _ => by rw [← hgp]; unfold zz_cw; omega
  have hbound : zz_pr g (zz_H M).n ≤ 1430000000000000000 := zz_pr_bound (f := (zz_H M).fl) h6 (fun p hp => by rw [← hgp]; exact zz_cw_bound hlv ok _ hp)
  obtain ⟨s, ⟨D, rfl, fD, wD⟩, e⟩ := zz_for (fun (ag5 : Int64 × Int32 × gx_Mem → Option (Int32 × gx_Mem)) (s : Int64 × Int32 × gx_Mem) => f_X4_share_k5 (nI one) v2 (fun w3 v5 M => ag5 (w3, v5, M)) s.1 s.2.1 s.2.2) (fun s => f_X4_share_l63 (nI one) v2 (zL (zz_pr g (zz_H M).n)) gx_fuel 0 0 s.2.2) (fun i s => ∃ D, s = (zL (zz_pr g i), nI i, D) ∧ zz_f1c M D ∧ ∀ p, p < i → D.2 34 p = zL (g p)) (zz_H M).n gx_fuel (by unfold gx_fuel; omega) (1, 0, M) ⟨M, rfl, ⟨fun _ _ _ => rfl, fun _ _ _ => rfl⟩, fun p hp => absurd hp (Nat.not_lt_zero p)⟩ (fun i s hi hs => by
      obtain ⟨D, rfl, fD, wD⟩ := hs
      have f0 := fD.fr
      have hD : zz_IH D := (h.fr (f0.mono zz_S34_sc) : zz_IH ((D.1, M.2) : gx_Mem))
      have hH : zz_H D = zz_H M := (zz_H_fr f0 zz_S34_9 : zz_H ((D.1, M.2) : gx_Mem) = zz_H M)
      have ho2 : zz_o D = zz_o M := funext fun x => (zz_o_fr f0 zz_S34_9 x : zz_o ((D.1, M.2) : gx_Mem) x = zz_o M x)
      have hLD : zz_LC lv D := hL.tr (zz_lwC.fr f0 : zz_lwC M ((D.1, M.2) : gx_Mem))
      have hfl := ok.2.1 i hi
      obtain ⟨E, e1, e2⟩ := zz_cia hD hlv hLD hfl
      rw [hH, ho2] at e1
      have fE := fD.tr e2
      have hci := zz_ci_le hlv ok (zz_o M) ((zz_H M).fl i) 12
      have hgi : 1 + zz_ci lv (zz_H M) (zz_o M) ((zz_H M).fl i) 12 = g i := hgp i
      refine ⟨(zL (zz_pr g (i + 1)), nI (i + 1), gx_sL E 34 i (zL (g i))), ⟨_, rfl, fE.sL i _, fun p hp => ?_⟩, fun ag => ?_⟩
      · rw [zz_sL2]
        by_cases c : p = i
        · rw [if_pos ⟨rfl, c⟩, c]
        · rw [if_neg (fun q => c q.2), e2.1]
          exact wD p (by omega)
      · dsimp only
        unfold f_X4_share_k5
        rw [fD.1 9 7 rfl, c1, if_neg (show ¬ nI (zz_H M).n ≤ nI i by rw [zz_le (by omega) (by omega)]; omega), zz_gi (show i < 6 by omega) (by decide), zz_cl (show i < 2147483648 by omega), fD.1 10 i rfl, show M.1 10 i = nI ((zz_H M).fl i) from c2 i hi, e1, zz_bIs, zz_gi (show i < 6 by omega) (by decide), zz_let, show (1 : Int32) = nI 1 from rfl, zz_add, hgi, zL_ofI (by omega), zz_gi (show i < 6 by omega) (by decide), zz_let, zz_let, show (gx_sL E 34 i (zL (g i))).2 34 i = zL (g i) by rw [zz_sL2, if_pos ⟨rfl, rfl⟩], zL_mul, zz_add]
        rfl) (fun s hs ag => by
      obtain ⟨D, rfl, fD, wD⟩ := hs
      dsimp only
      unfold f_X4_share_k5
      rw [fD.1 9 7 rfl, c1, if_pos (nI_le (Nat.le_refl _) (by omega))])
  refine ⟨D, ?_, fD⟩
  refine e.trans ?_
  exact zz_share63 v2 h6 ((fD.1 9 7 rfl).trans c1) ho wD hpos hbound

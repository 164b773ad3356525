/-! RENT on the model's side -/
def zz_SJ (k i : Nat) : Bool := k == 74 || k == 75 || k == 80 || k == 81 || k == 84 || (k == 57 && i == 28)
theorem zz_SH_SJ : ∀ k i, zz_SH k i = true → zz_SJ k i = true := fun k i h => by
  simp [zz_SH] at h
  rcases h with ((rfl | rfl) | rfl) | rfl <;> rfl
theorem zz_SJ_sc : ∀ k i, zz_SJ k i = true → zz_sc k i = true := fun k i h => by
  simp [zz_SJ] at h
  rcases h with ((((rfl | rfl) | rfl) | rfl) | rfl) | ⟨rfl, rfl⟩ <;> rfl
theorem zz_h8.frJ {M M2 : gx_Mem} {H : zz_hs} (h : zz_h8 M H) (f : zz_fr zz_SJ M M2) : zz_h8 M2 H := by
  obtain ⟨c1, c2, c3, c4, c5⟩ := h
  exact ⟨(f.2 57 1 rfl).trans c1, fun p hp => (f.2 76 p rfl).trans (c2 p hp), fun p hp => (f.2 60 p rfl).trans (c3 p hp), fun p hp => (f.2 77 p rfl).trans (c4 p hp), (f.2 63 0 rfl).trans c5⟩
theorem zz_lay60 {C : gx_Mem} {H : zz_hs} {lv : Nat → Nat → Nat → Nat → Nat → Nat → Nat} {o : Int32} {m t : Nat} {g : Nat → Nat} (ok : zz_hok H) (hm : m < 4) (hn : C.1 57 1 = nI H.n) (h58 : ∀ p, p < H.n → C.1 58 p = nI (H.fl p)) (w : zz_fw lv H o m C 0) (hg : ∀ p, p < H.n → C.1 84 p = nI (g p)) :
    ∃ D, (∀ (c : (Int32 → gx_Mem → Option gx_Mem) × (Int32 → gx_Mem → Option gx_Mem)), f_X8_layComes_l60 c.1 c.2 (nI t) (nI m) gx_fuel 0 C = c.2 (nI (m + 1)) D) ∧ zz_fr (fun k _ => k == 84) C D ∧ ∀ p, p < H.n → D.1 84 p = nI (g p + zz_R lv H o m (H.fl p / 8) (7 - H.fl p % 8)) := by
  have h6 := ok.1
  obtain ⟨s, ⟨D, rfl, fD, gD⟩, e⟩ := zz_forC (fun (c : (Int32 → gx_Mem → Option gx_Mem) × (Int32 → gx_Mem → Option gx_Mem)) (ag60 : Int32 × gx_Mem → Option gx_Mem) (s : Int32 × gx_Mem) => f_X8_layComes_k60 c.1 c.2 (nI t) (nI m) (fun v3 M => ag60 (v3, M)) s.1 s.2) (fun c s => c.2 (nI (m + 1)) s.2) (fun i s => ∃ D, s = (nI i, D) ∧ zz_fr (fun k _ => k == 84) C D ∧ ∀ p, p < H.n → D.1 84 p = nI (if p < i then g p + zz_R lv H o m (H.fl p / 8) (7 - H.fl p % 8) else g p)) H.n gx_fuel (by unfold gx_fuel; omega) (0, C) ⟨C, rfl, zz_fr.rf, fun p hp => by rw [if_neg (by omega)]; exact hg p hp⟩ (fun i s hi hs => by
      obtain ⟨D, rfl, fD, gD⟩ := hs
      have hf := ok.2.1 i hi
      have old := gD i hi
      rw [if_neg (by omega)] at old
      refine ⟨(nI (i + 1), gx_sI D 84 i (nI (g i + zz_R lv H o m (H.fl i / 8) (7 - H.fl i % 8)))), ⟨_, rfl, fD.sI rfl, fun p hp => ?_⟩, fun c ag => ?_⟩
      · rw [zz_sI1]
        by_cases e : p = i
        · subst e
          rw [if_pos ⟨rfl, rfl⟩, if_pos (by omega)]
        · rw [if_neg (fun q => e q.2), gD p hp]
          by_cases e2 : p < i
          · rw [if_pos e2, if_pos (by omega)]
          · rw [if_neg e2, if_neg (by omega)]
      · dsimp only
        unfold f_X8_layComes_k60
        rw [fD.2 57 1 rfl, hn, if_neg (show ¬ nI H.n ≤ nI i by rw [zz_le (by omega) (by omega)]; omega), zz_gi (show i < 6 by omega) (by decide), zz_gi (show i < 6 by omega) (by decide), zz_cl (show i < 2147483648 by omega), fD.2 58 i rfl, h58 i hi, show (24 : Int32) = nI 24 from rfl, zz_mul, zz_add, zz_gi (show 24 * m + H.fl i < 96 by omega) (by decide), zz_gi (show i < 6 by omega) (by decide), zz_cl (show 24 * m + H.fl i < 2147483648 by omega), fD.2 80 _ rfl, (w (H.fl i) (Nat.zero_le _) hf).2, old, zz_add, zz_let, zz_let, show nI i + 1 = nI (i + 1) from zz_add i 1]) (fun s hs c ag => by
      obtain ⟨D, rfl, fD, gD⟩ := hs
      dsimp only
      unfold f_X8_layComes_k60
      rw [fD.2 57 1 rfl, hn, if_pos (nI_le (Nat.le_refl _) (by omega)), zz_let, show nI m + 1 = nI (m + 1) from zz_add m 1])
  exact ⟨D, e, fD, fun p hp => by rw [gD p hp, if_pos hp]⟩
theorem zz_lay48 {M : gx_Mem} {H : zz_hs} {lv : Nat → Nat → Nat → Nat → Nat → Nat → Nat} {o : Int32} {t : Nat} {g : Nat → Nat} (ok : zz_hok H) (hv : zz_h8 M H) (ho : M.1 57 28 = o) (hlv : ∀ a w i f m n, lv a w i f m n ≤ a) (hL : zz_LM lv M) (h58 : ∀ p, p < H.n → M.1 58 p = nI (H.fl p)) (hg : ∀ p, p < H.n → M.1 84 p = nI (g p)) :
    ∃ D, (∀ ag29, f_X8_layComes_l48 ag29 (nI t) gx_fuel 0 M = ag29 (nI (t + 1)) D) ∧ zz_fr zz_SJ M D ∧ ∀ p, p < H.n → D.1 84 p = nI (g p + zz_su (fun m => zz_R lv H o m (H.fl p / 8) (7 - H.fl p % 8)) 4) := by
  obtain ⟨s, ⟨D, rfl, fD, oD, gD⟩, e⟩ := zz_forC (fun (ag29 : Int32 → gx_Mem → Option gx_Mem) (ag48 : Int32 × gx_Mem → Option gx_Mem) (s : Int32 × gx_Mem) => f_X8_layComes_k48 ag29 (nI t) (fun v2 M => ag48 (v2, M)) s.1 s.2) (fun ag29 s => ag29 (nI (t + 1)) s.2) (fun i s => ∃ D, s = (nI i, D) ∧ zz_fr zz_SJ M D ∧ D.1 57 28 = o ∧ ∀ p, p < H.n → D.1 84 p = nI (g p + zz_su (fun m => zz_R lv H o m (H.fl p / 8) (7 - H.fl p % 8)) i)) 4 gx_fuel (by decide) (0, M) ⟨M, rfl, zz_fr.rf, ho, fun p hp => hg p hp⟩ (fun m s hm hs => by
      obtain ⟨D, rfl, fD, oD, gD⟩ := hs
      obtain ⟨E, e1, e2, e3⟩ := zz_flow (M := D) (o := o) ok (hv.frJ fD) oD hlv (hL.tr (zz_lwM.sc (fD.mono zz_SJ_sc))) hm
      have e2J := e2.mono (fun k i q => zz_SH_SJ k i (zz_SF_SH k i q))
      have fE := fD.tr e2J
      have e84 : ∀ p, E.1 84 p = D.1 84 p := fun p => e2.2 84 p (zz_SF0 (by decide) (by decide) (by decide) (by decide))
      obtain ⟨F, f1, f2, f3⟩ := zz_lay60 (t := t) ok hm ((fE.2 57 1 rfl).trans hv.1) (fun p hp => (fE.2 58 p rfl).trans (h58 p hp)) e3 (fun p hp => (e84 p).trans (gD p hp))
      refine ⟨(nI (m + 1), F), ⟨F, rfl, fE.tr (f2.mono (fun k i q => by simp at q; subst q; rfl)), ?_, fun p hp => ?_⟩, fun ag29 ag => ?_⟩
      · have a : E.1 57 28 = o := (e2.2 57 28 (zz_SF0 (by decide) (by decide) (by decide) (by decide))).trans oD
        exact (f2.2 57 28 rfl).trans a
      · rw [f3 p hp, Nat.add_assoc]
        rfl
      · dsimp only
        unfold f_X8_layComes_k48
        rw [if_neg (show ¬ (4 : Int32) ≤ nI m by rw [show (4 : Int32) = nI 4 from rfl, zz_le (by decide) (by omega)]; omega), e1, zz_bPs]
        exact f1 (ag29, fun v2 M => ag (v2, M))) (fun s hs ag29 ag => by
      obtain ⟨D, rfl, fD, oD, gD⟩ := hs
      dsimp only
      unfold f_X8_layComes_k48
      rw [if_pos (show (4 : Int32) ≤ nI 4 by decide), zz_let, show nI t + 1 = nI (t + 1) from zz_add t 1])
  exact ⟨D, e, fD, gD⟩
theorem zz_lay6 (M : gx_Mem) {n : Nat} (hn : M.1 57 1 = nI n) (h6 : n ≤ 6) : f_X8_layComes_l6 gx_fuel 0 M = f_X8_layComes_l29 gx_fuel 0 (zz_ov M 84 0 n (fun _ => 1)) := by
  generalize hF : f_X8_layComes_l29 gx_fuel 0 = F
  obtain ⟨s, hs, e⟩ := zz_for (fun (ag : Int32 × gx_Mem → Option gx_Mem) (s : Int32 × gx_Mem) => f_X8_layComes_k6 (fun v1 M => ag (v1, M)) s.1 s.2) (fun s => F s.2) (fun i s => s = (nI i, zz_ov M 84 0 i (fun _ => 1))) n gx_fuel (by unfold gx_fuel; omega) (0, M) (by rw [zz_ov0]; rfl) (fun i s hi hs => by
    subst hs
    refine ⟨_, rfl, fun ag => ?_⟩
    dsimp only
    unfold f_X8_layComes_k6
    have e := zz_ovS M 84 0 i (fun _ => 1) 1 rfl
    rw [Nat.zero_add] at e
    rw [show (zz_ov M 84 0 i (fun _ => 1)).1 57 1 = nI n from hn, if_neg (show ¬ nI n ≤ nI i by rw [zz_le (by omega) (by omega)]; omega), zz_gi (show i < 6 by omega) (by decide), zz_let, zz_cl (show i < 2147483648 by omega), e]
    exact congrArg ag (Prod.ext (zz_add _ 1) rfl)) (fun s hs ag => by
    subst hs
    dsimp only
    unfold f_X8_layComes_k6
    rw [show (zz_ov M 84 0 n (fun _ => 1)).1 57 1 = nI n from hn, if_pos (nI_le (Nat.le_refl n) (by omega)), hF])
  subst hs
  exact e
theorem zz_layComes {M : gx_Mem} {lv : Nat → Nat → Nat → Nat → Nat → Nat → Nat} (h : zz_IH M) (hlv : ∀ a w i f m n, lv a w i f m n ≤ a) (hL : zz_LM lv M) :
    ∃ D, f_X8_layComes M = some D ∧ zz_fr zz_sc M D ∧ ∀ p, p < (zz_H M).n → D.1 84 p = nI (zz_cw lv (zz_H M) (zz_o M) p) := by
  obtain ⟨ok, c1, c2, c3, c4, c5⟩ := zz_Hok h
  have h6 := ok.1
  have fN := zz_now_fr M
  have hvN := zz_now_h8 h
  have n58 : ∀ p, p < (zz_H M).n → (zz_now M).1 58 p = nI ((zz_H M).fl p) := fun p hp => by
    rw [show (zz_now M).1 58 p = M.1 58 p from rfl, (h.2.1 p (by omega)).2]; exact c2 p hp
  have lay : f_X8_layNow M = some (zz_now M) := zz_layNow _ (by rw [h.1.2]; exact h.1.1)
  unfold f_X8_layComes
  rw [lay, zz_bPs, zz_lay6 _ hvN.1 h6]
  have fA : zz_fr zz_SJ (zz_now M) (zz_ov (zz_now M) 84 0 (zz_H M).n (fun _ => 1)) := ⟨rfl, fun k i hk => by rw [zz_ov1, if_neg (by rintro ⟨rfl, -⟩; cases hk)]⟩
  have a84 : ∀ p, p < (zz_H M).n → (zz_ov (zz_now M) 84 0 (zz_H M).n (fun _ => 1)).1 84 p = nI 1 := fun p hp => by rw [zz_ov1, if_pos (by omega)]; rfl
  generalize zz_ov (zz_now M) 84 0 (zz_H M).n (fun _ => 1) = A at *
  generalize zz_now M = N at *
  have fMA := fN.tr (fA.mono zz_SJ_sc)
  obtain ⟨s, ⟨D, rfl, fD, gD⟩, e⟩ := zz_for (fun (ag29 : Int32 × gx_Mem → Option gx_Mem) (s : Int32 × gx_Mem) => f_X8_layComes_k29 (fun v1 M => ag29 (v1, M)) s.1 s.2) (fun s => some s.2) (fun t s => ∃ D, s = (nI t, D) ∧ zz_fr zz_SJ A D ∧ ∀ p, p < (zz_H M).n → D.1 84 p = nI (1 + zz_ci lv (zz_H M) (zz_o M) ((zz_H M).fl p) t)) 12 gx_fuel (by decide) (0, A) ⟨A, rfl, zz_fr.rf, fun p hp => a84 p hp⟩ (fun t s ht hs => by
      obtain ⟨D, rfl, fD, gD⟩ := hs
      have fB : zz_fr zz_SJ A (gx_sI D 57 28 (zz_o M t)) := fD.sI rfl
      have fMB := fMA.tr (fB.mono zz_SJ_sc)
      obtain ⟨E, e1, e2, e3⟩ := zz_lay48 (M := gx_sI D 57 28 (zz_o M t)) (o := zz_o M t) (t := t) ok ((hvN.frJ fA).frJ fB) rfl hlv (hL.tr (zz_lwM.sc fMB)) (fun p hp => (fB.2 58 p rfl).trans ((fA.2 58 p rfl).trans (n58 p hp))) (fun p hp => gD p hp)
      have fMD := fMA.tr (fD.mono zz_SJ_sc)
      refine ⟨(nI (t + 1), E), ⟨E, rfl, fB.tr e2, fun p hp => ?_⟩, fun ag => ?_⟩
      · rw [e3 p hp, Nat.add_assoc]
        rfl
      · dsimp only
        unfold f_X8_layComes_k29
        rw [if_neg (show ¬ (12 : Int32) ≤ nI t by rw [show (12 : Int32) = nI 12 from rfl, zz_le (by decide) (by omega)]; omega), zz_o8 (M := M) (A := D) h (fMD.2 57 1 rfl) (fun i => fMD.2 59 i rfl), zz_bPs, zz_let, e1]) (fun s hs ag => by
      obtain ⟨D, rfl, fD, gD⟩ := hs
      rfl)
  exact ⟨D, e, fMA.tr (fD.mono zz_SJ_sc), gD⟩
theorem zz_others {D : gx_Mem} {n : Nat} {g : Nat → Nat} (h6 : n ≤ 6) (hn : D.1 57 1 = nI n) (hw : ∀ p, p < n → D.1 84 p = nI (g p)) (hb : ∀ p, p < n → g p < 2147483648) {one : Nat} (ho : one < 6) : f_X8_others (nI one) D = some (zL (zz_po g one n)) := by
  obtain ⟨s, rfl, e⟩ := zz_for (fun (ag5 : Int64 × Int32 → Option Int64) (s : Int64 × Int32) => f_X8_others_k5 (nI one) (fun w2 v4 => ag5 (w2, v4)) s.1 s.2 D) (fun s => some s.1) (fun i s => s = (zL (zz_po g one i), nI i)) n gx_fuel (by unfold gx_fuel; omega) (1, 0) rfl (fun i s hi hs => by
      subst hs
      refine ⟨_, rfl, fun ag => ?_⟩
      dsimp only
      unfold f_X8_others_k5 f_X8_others_b31
      rw [hn, if_neg (show ¬ nI n ≤ nI i by rw [zz_le (by omega) (by omega)]; omega)]
      simp only [zz_eq (show i < 2147483648 by omega) (show one < 2147483648 by omega)]
      conv => rhs; unfold zz_po
      by_cases c : i = one
      · rw [if_pos c, if_pos c, zz_let, show nI i + 1 = nI (i + 1) from zz_add i 1]
      · rw [if_neg c, if_neg c, zz_gi (show i < 6 by omega) (by decide), zz_cl (show i < 2147483648 by omega), hw i hi, zL_ofI (hb i hi), zL_mul, zz_let, zz_let, show nI i + 1 = nI (i + 1) from zz_add i 1]) (fun s hs ag => by
      subst hs
      dsimp only
      unfold f_X8_others_k5
      rw [hn, if_pos (nI_le (Nat.le_refl n) (by omega))])
  exact e
theorem zz_rent30 {D : gx_Mem} {n one : Nat} {g : Nat → Nat} (v2 : Int32) (h6 : n ≤ 6) (ho : one < n) (hn : D.1 57 1 = nI n) (hw : ∀ p, p < n → D.1 84 p = nI (g p)) (hb : ∀ p, p < n → g p < 2147483648) (hg : ∀ p, p < n → 0 < g p) (hbd : zz_pr g n ≤ 1430000000000000000) : f_X8_rent_l30 (nI one) v2 gx_fuel 0 0 D = some ((v2.toInt64 * zL (zz_po g one n) / zL (zz_su (fun p => zz_po g p n) n)).toInt32, D) := by
  have hpos : ∀ p, 0 < zz_po g p n := fun p => zz_po_pos n hg
  have hple : ∀ p, p < n → zz_po g p n ≤ zz_pr g n := fun p hp => by rw [zz_pr_po g p n hp]; exact Nat.le_mul_of_pos_right _ (hg p hp)
  have hall : zz_su (fun p => zz_po g p n) n ≤ 1430000000000000000 * n := zz_su_le n (fun p hp => by have := hple p hp; omega)
  have hall0 : 0 < zz_su (fun p => zz_po g p n) n := by
    have m := zz_su_mono (fun p => zz_po g p n) (show 1 ≤ n by omega)
    have e : zz_su (fun p => zz_po g p n) 1 = 0 + zz_po g 0 n := rfl
    have := hpos 0
    omega
  obtain ⟨s, rfl, e⟩ := zz_for (fun (ag30 : Int64 × Int32 × gx_Mem → Option (Int32 × gx_Mem)) (s : Int64 × Int32 × gx_Mem) => f_X8_rent_k30 (nI one) v2 (fun w3 v5 M => ag30 (w3, v5, M)) s.1 s.2.1 s.2.2) (fun s => some ((v2.toInt64 * zL (zz_po g one n) / zL (zz_su (fun p => zz_po g p n) n)).toInt32, s.2.2)) (fun i s => s = (zL (zz_su (fun p => zz_po g p n) i), nI i, D)) n gx_fuel (by unfold gx_fuel; omega) (0, 0, D) rfl (fun i s hi hs => by
      subst hs
      refine ⟨_, rfl, fun ag => ?_⟩
      dsimp only
      unfold f_X8_rent_k30
      rw [hn, if_neg (show ¬ nI n ≤ nI i by rw [zz_le (by omega) (by omega)]; omega), zz_others h6 hn hw hb (show i < 6 by omega), zz_bPs, zL_add, zz_let, zz_let, show nI i + 1 = nI (i + 1) from zz_add i 1]
      rfl) (fun s hs ag => by
      subst hs
      dsimp only
      unfold f_X8_rent_k30
      rw [hn, if_pos (nI_le (Nat.le_refl n) (by omega)), zz_others h6 hn hw hb (show one < 6 by omega), zz_bPs, zz_gdD (show ¬ zL (zz_su (fun p => zz_po g p n) n) = 0 by rw [show (0 : Int64) = zL 0 from rfl, zL_eq (by omega) (by decide)]; omega)])
  exact e
theorem op_rent (a b : Int32) : zz_ok (f_X7_rent a b) (f_X8_rent a b) := by
  intro M h
  obtain ⟨n, h6, hn, hn8⟩ := h.ppl
  obtain ⟨lv, hlv, hC, hM⟩ := h.law
  unfold f_X7_rent
  rw [zz_isOne7 hn h6]
  simp only [zz_bPs, zz_ifi]
  have hg : ∀ M1 : gx_Mem, M1.1 57 1 = nI n → f_X8_rent a b M1 = if zz_rg a n = true then (if b < 0 then some (-1, M1) else (if (999 : Int32) < b then some (-1, M1) else gx_bP (f_X8_layComes M1) (fun M6 => f_X8_rent_l30 a b gx_fuel 0 0 M6))) else some (-1, M1) := by
    intro M1 e
    unfold f_X8_rent
    rw [zz_isOne8 e h6, show f_X8_in b (0 : Int32) (999 : Int32) M1 = (if b < 0 then some 0 else (if (999 : Int32) < b then some 0 else some 1)) from rfl]
    simp only [zz_bPs, zz_ifi]
    by_cases k1 : b < 0
    · simp only [if_pos k1, zz_bPs, if_true]
    · by_cases k2 : (999 : Int32) < b
      · simp only [if_neg k1, if_pos k2, zz_bPs, if_true]
      · simp only [if_neg k1, if_neg k2, zz_bPs, show ¬ ((1 : Int32) = 0) by decide, if_false]
  cases h1 : zz_rg a n with
  | false => exact ⟨-1, M, rfl, M, by rw [hg M hn8, h1]; rfl, h⟩
  | true =>
    rw [if_pos rfl]
    by_cases k1 : b < 0
    · rw [if_pos k1]
      exact ⟨-1, M, rfl, M, by rw [hg M hn8, h1, if_pos rfl, if_pos k1], h⟩
    · by_cases k2 : (999 : Int32) < b
      · rw [if_neg k1, if_pos k2]
        exact ⟨-1, M, rfl, M, by rw [hg M hn8, h1, if_pos rfl, if_neg k1, if_pos k2], h⟩
      · obtain ⟨one, hp, rfl⟩ := zz_rgT h1
        have hHn := zz_Hn h6 hn
        have ok := (zz_Hok h.IH).1
        obtain ⟨M1, e1, f1⟩ := zz_share h.IH hlv hC (one := one) b (by rw [hHn]; exact hp)
        rw [if_neg k1, if_neg k2, e1, zz_bIs]
        refine ⟨_, M1, rfl, ?_⟩
        have i1 : zz_Inv M1 := zz_Inv_core f1.core h
        have f0 := f1.fr
        have hH : zz_H M1 = zz_H M := (zz_H_fr f0 zz_S34_9 : zz_H ((M1.1, M.2) : gx_Mem) = zz_H M)
        have ho2 : zz_o M1 = zz_o M := funext fun x => (zz_o_fr f0 zz_S34_9 x : zz_o ((M1.1, M.2) : gx_Mem) x = zz_o M x)
        have hLM1 : zz_LM lv M1 := hM.tr (zz_lwM.sc (f0.mono zz_S34_sc) : zz_lwM M ((M1.1, M.2) : gx_Mem))
        obtain ⟨M2, e2, f2, w2⟩ := zz_layComes i1.IH hlv hLM1
        rw [hH, ho2] at w2
        refine ⟨M2, ?_, i1.fr f2⟩
        have hn81 : M1.1 57 1 = nI n := (f1.1 57 1 rfl).trans hn8
        rw [hg M1 hn81, h1, if_pos rfl, if_neg k1, if_neg k2, e2, zz_bPs]
        rw [hHn] at w2 ⊢
        exact zz_rent30 b h6 hp ((f2.2 57 1 rfl).trans hn81) w2 (fun p hp => by
          have := zz_ci_le hlv ok (zz_o M) ((zz_H M).fl p) 12
          unfold zz_cw; omega) (fun p _ => by unfold zz_cw; omega) (zz_pr_bound (f := (zz_H M).fl) h6 (fun p hp => by
          have := zz_cw_bound hlv ok (zz_o M) (p := p) (by rw [hHn]; exact hp)
          rw [hHn] at this; exact this))

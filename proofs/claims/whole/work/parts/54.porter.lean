/-- what the porter gets of the first s stacks -/
def zz_pt (lv : Nat → Nat → Nat → Nat → Nat → Nat → Nat) (H : zz_hs) (o : Int32) (m : Nat) : Nat → Nat
  | 0 => 0
  | s + 1 => zz_pt lv H o m s + zz_R lv H o m s 8
theorem zz_pt_le {lv : Nat → Nat → Nat → Nat → Nat → Nat → Nat} (hlv : ∀ a w i f m n, lv a w i f m n ≤ a) {H : zz_hs} (h : zz_hok H) (o : Int32) {m : Nat} (hm : m < 4) : ∀ s, zz_pt lv H o m s ≤ 432 * s
  | 0 => Nat.le_refl _
  | s + 1 => by
    have h1 := zz_pt_le hlv h o hm s
    have h2 := zz_R_le hlv h o hm s 8
    unfold zz_pt
    omega
theorem zz_caughtBy {k : Nat} {M : gx_Mem} {H : zz_hs} {lv : Nat → Nat → Nat → Nat → Nat → Nat → Nat} (hk : 5 ≤ k) (ok : zz_hok H) (hv : zz_h7 k M H) (hlv : ∀ a w i f m n, lv a w i f m n ≤ a) (hL : zz_LC lv M) (o : Int32) {m : Nat} (hm : m < 4) :
    ∃ M2, f_X2_caughtBy k (nI m) o M = some (nI (zz_pt lv H o m 3), M2) ∧ zz_fr zz_S34 M M2 := by
  obtain ⟨t, ⟨M2, rfl, hf⟩, e⟩ := zz_for (fun (ag5 : Int32 × Int32 × gx_Mem → Option (Int32 × gx_Mem)) (s : Int32 × Int32 × gx_Mem) => f_X2_caughtBy_k5 k (nI m) o (fun v3 v4 M => ag5 (v3, v4, M)) s.1 s.2.1 s.2.2) (fun s => some (s.1, s.2.2)) (fun i s => ∃ M', s = (nI (zz_pt lv H o m i), nI i, M') ∧ zz_fr zz_S34 M M') 3 gx_fuel (by decide) (0, 0, M) ⟨M, rfl, zz_fr.rf⟩ (fun i s hi hs => by
      obtain ⟨M', rfl, hf⟩ := hs
      obtain ⟨M3, e1, f1⟩ := zz_reach (J := 8) (v2 := -1) hk ok (hv.fr hk hf) hlv (hL.tr (zz_lwC.fr hf)) o (m := m) (s := i) hm hi (by decide) (by decide)
      refine ⟨_, ⟨M3, rfl, hf.tr f1⟩, fun ag => ?_⟩
      dsimp only
      unfold f_X2_caughtBy_k5
      rw [show (3 : Int32) = nI 3 from rfl]
      simp only [zz_le (show 3 < 2147483648 by decide) (show i < 2147483648 by omega)]
      rw [if_neg (by omega), e1]
      simp only [zz_bIs, zz_let, zz_add]
      rw [show (1 : Int32) = nI 1 from rfl, zz_add]
      rfl) (fun s hs ag => by
      obtain ⟨M', rfl, hf⟩ := hs
      rfl)
  exact ⟨M2, e, hf⟩
theorem zz_toPorter {M : gx_Mem} {H : zz_hs} {o : Int32} {lv : Nat → Nat → Nat → Nat → Nat → Nat → Nat} {m : Nat} (hm : m < 4) (w : zz_fw lv H o m M 0) : f_X8_toPorter (nI m) M = some (nI (zz_pt lv H o m 3)) := by
  obtain ⟨t, rfl, e⟩ := zz_for (fun (ag4 : Int32 × Int32 → Option Int32) (s : Int32 × Int32) => f_X8_toPorter_k4 (nI m) (fun v2 v3 => ag4 (v2, v3)) s.1 s.2 M) (fun s => some s.1) (fun i s => s = (nI (zz_pt lv H o m i), nI i)) 3 gx_fuel (by decide) (0, 0) rfl (fun i s hi hs => by
      subst hs
      refine ⟨_, rfl, fun ag => ?_⟩
      dsimp only
      unfold f_X8_toPorter_k4
      rw [show (3 : Int32) = nI 3 from rfl, show (24 : Int32) = nI 24 from rfl, show (8 : Int32) = nI 8 from rfl, zz_mul, zz_mul, zz_add]
      simp only [zz_le (show 3 < 2147483648 by decide) (show i < 2147483648 by omega)]
      rw [if_neg (by omega), zz_gi (show 24 * m + 8 * i < 96 by omega) (by decide), zz_cl (show 24 * m + 8 * i < 2147483648 by omega), (w (8 * i) (Nat.zero_le _) (by omega)).1, show 8 * i / 8 = i by omega, show 8 - 8 * i % 8 = 8 by omega]
      simp only [zz_let, zz_add]
      rw [show (1 : Int32) = nI 1 from rfl, zz_add]
      rfl) (fun s hs ag => by subst hs; rfl)
  exact e
theorem op_porter (a b : Int32) : zz_ok (f_X7_porter a b) (f_X8_porter a b) := by
  intro M h
  obtain ⟨lv, hlv, hC, hM⟩ := h.law
  unfold f_X7_porter
  rw [zz_isHour7, zz_isMark7]
  simp only [zz_bPs, zz_ifi]
  have hg : ∀ M1 : gx_Mem, f_X8_porter a b M1 = if zz_rg a 12 = true then (if zz_rg b 4 = true then gx_bP (f_X8_layNow M1) (fun M6 => gx_bP (f_X8_outAt a (63 : Int32) M6) (fun y8 => gx_bP (f_X8_flow b (gx_sI M6 57 28 y8)) (fun M11 => gx_bP (f_X8_toPorter b M11) (fun y13 => some (y13, M11))))) else some (-1, M1)) else some (-1, M1) := by
    intro M1
    unfold f_X8_porter
    rw [zz_isHour8, zz_isMark8]
    simp only [zz_bPs, zz_ifi]
    rfl
  cases h1 : zz_rg a 12 with
  | false => exact ⟨-1, M, rfl, M, by rw [hg, h1]; rfl, h⟩
  | true =>
    cases h3 : zz_rg b 4 with
    | false => exact ⟨-1, M, rfl, M, by rw [hg, h1, h3]; rfl, h⟩
    | true =>
      obtain ⟨m, hm, rfl⟩ := zz_rgT h3
      obtain ⟨t, ht, rfl⟩ := zz_rgT h1
      rw [if_pos rfl, if_pos rfl, zz_o7 h.IH]
      simp only [zz_bPs]
      obtain ⟨M1, e1, f1⟩ := zz_caughtBy (k := 9) (by decide) (zz_Hok h.IH).1 (zz_Hok h.IH).2 hlv hC (zz_o M t) hm
      rw [e1]
      simp only [zz_bIs]
      refine ⟨_, M1, rfl, ?_⟩
      have i1 : zz_Inv M1 := h.fr (f1.mono zz_S34_sc)
      obtain ⟨M2, e2, f2, w2⟩ := zz_flow8 i1.IH hlv (hM.tr (zz_lwM.sc (f1.mono zz_S34_sc))) (zz_o M t) hm
      refine ⟨M2, ?_, i1.fr f2⟩
      rw [hg, h1, h3, if_pos rfl, if_pos rfl, zz_layNow M1 (by rw [i1.IH.1.2]; exact i1.IH.1.1)]
      simp only [zz_bPs]
      rw [zz_o8 (M := M1) (A := zz_now M1) i1.IH rfl (fun i => rfl), zz_o_fr f1 zz_S34_9]
      simp only [zz_bPs]
      rw [e2]
      simp only [zz_bPs]
      rw [zz_toPorter hm w2, zz_H_fr f1 zz_S34_9]
      rfl

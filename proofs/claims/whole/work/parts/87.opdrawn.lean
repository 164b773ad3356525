theorem zz_drawn50 {M : gx_Mem} {lv : Nat → Nat → Nat → Nat → Nat → Nat → Nat} (h : zz_IH M) (hlv : ∀ a w i f m n, lv a w i f m n ≤ a) (hL : zz_LM lv M) (s : Int32) (porter : Bool) {nights hours : Nat} (hn : nights ≤ 30) (hh : hours ≤ 24) {v2 : Int32} (hq : v2 / 100 = nI nights) (hr : gx_rem v2 100 = nI hours) :
    ∃ D, zz_fr zz_sc M D ∧ f_X8_drawn_l50 v2 (zz_i porter) gx_fuel s 0 0 M = some (nI (zz_su (fun N => if porter = true then zz_zP lv (zz_H M) s (N * (hours * (zz_H M).n)) porter hours else zz_zW lv (zz_H M) (zz_W M) s (N * (hours * (zz_H M).n)) porter hours) nights), D) := by
  have ok := (zz_Hok h).1
  generalize hT : (fun N => if porter = true then zz_zP lv (zz_H M) s (N * (hours * (zz_H M).n)) porter hours else zz_zW lv (zz_H M) (zz_W M) s (N * (hours * (zz_H M).n)) porter hours) = T
  have hTi : ∀ N, (if porter = true then zz_zP lv (zz_H M) s (N * (hours * (zz_H M).n)) porter hours else zz_zW lv (zz_H M) (zz_W M) s (N * (hours * (zz_H M).n)) porter hours) = T N := fun N => by rw [← hT]
  obtain ⟨t, ⟨D, rfl, fD⟩, e⟩ := zz_for (fun (ag50 : Int32 × Int32 × Int32 × gx_Mem → Option (Int32 × gx_Mem)) (t : Int32 × Int32 × Int32 × gx_Mem) => f_X8_drawn_k50 v2 (zz_i porter) (fun v4 v5 v6 M => ag50 (v4, v5, v6, M)) t.1 t.2.1 t.2.2.1 t.2.2.2) (fun t => some (t.2.1, t.2.2.2)) (fun x t => ∃ D, t = (zz_zz s (x * (hours * (zz_H M).n)), nI (zz_su T x), nI x, D) ∧ zz_fr zz_sc M D) nights gx_fuel (by unfold gx_fuel; omega) (s, 0, 0, M) ⟨M, by rw [Nat.zero_mul]; rfl, zz_fr.rf⟩ (fun x t hx ht => by
      obtain ⟨D, rfl, fD⟩ := ht
      have hD := h.fr fD
      have fN := zz_now_fr D
      have gN := zz_now_G hD lv (zz_zO s (zz_H M).n (x * (hours * (zz_H M).n)))
      rw [zz_H_fr fD zz_sc_9, zz_W_frF fD zz_sc_9] at gN
      have lay : f_X8_layNow D = some (zz_now D) := zz_layNow _ (by rw [hD.1.2]; exact hD.1.1)
      have fMN := fD.tr fN
      generalize zz_now D = N at *
      obtain ⟨E, e1, e2, e3⟩ := zz_drawn66 (A := N) (H := zz_H M) (w := zz_W M) (v2 := v2) ok hlv (hL.tr (zz_lwM.sc fMN)) (fun j hj => (zz_Wok h hj).2.1) s (x * (hours * (zz_H M).n)) (zz_i porter) (nI (zz_su T x)) (nI x) hh hr ⟨gN.1, gN.2.1, gN.2.2.1⟩
      have fE := fMN.tr (e1.mono zz_SG_sc)
      refine ⟨(zz_zz s ((x + 1) * (hours * (zz_H M).n)), nI (zz_su T (x + 1)), nI (x + 1), E), ⟨E, rfl, fE⟩, fun ag => ?_⟩
      dsimp only
      unfold f_X8_drawn_k50
      rw [hq, if_neg (show ¬ nI nights ≤ nI x by rw [zz_le (by omega) (by omega)]; omega), lay, zz_bPs, e3, zz_drawn164 ok (fun j hj => (zz_Wok h hj).2.1) s (x * (hours * (zz_H M).n)) v2 _ (nI x) porter (zz_su T x) e2 (fun j hj => (fE.2 61 j rfl).trans (zz_Wok h hj).2.2), hTi, show x * (hours * (zz_H M).n) + hours * (zz_H M).n = (x + 1) * (hours * (zz_H M).n) by rw [Nat.succ_mul], show nI x + 1 = nI (x + 1) from zz_add x 1]
      rfl) (fun t ht ag => by
      obtain ⟨D, rfl, fD⟩ := ht
      dsimp only
      unfold f_X8_drawn_k50
      rw [hq, if_pos (nI_le (Nat.le_refl nights) (by omega))])
  exact ⟨D, fD, e⟩
theorem zz_in1n (v : Int32) (n : Nat) (M : gx_Mem) : f_X8_in v (1 : Int32) (nI n) M = if v < 1 then some 0 else (if nI n < v then some 0 else some 1) := rfl
theorem op_drawn (a b c : Int32) : zz_ok (f_X7_drawn a b c) (f_X8_drawn a b c) := by
  intro M h
  obtain ⟨lv, hlv, hC, hM⟩ := h.law
  unfold f_X7_drawn
  simp only [zz_let]
  rcases zz_case b with hb | ⟨x, hx, rfl⟩
  · rw [if_pos hb]
    exact ⟨-1, M, rfl, M, by unfold f_X8_drawn; rw [if_pos hb], h⟩
  · have hq : nI x / (100 : Int32) = nI (x / 100) := by rw [show (100 : Int32) = nI 100 from rfl, zz_div hx (by decide) (by decide)]
    have hr : gx_rem (nI x) (100 : Int32) = nI (x % 100) := by rw [show (100 : Int32) = nI 100 from rfl, zz_rem hx (by decide) (by decide)]
    rw [if_neg (nI_pos hx), hq, hr, zz_isChoice7]
    simp only [zz_bPs, zz_ifi]
    have hg : ∀ M1 : gx_Mem, f_X8_drawn a (nI x) c M1 = if nI (x / 100) < 1 then some (-1, M1) else (if (30 : Int32) < nI (x / 100) then some (-1, M1) else (if nI (x % 100) < 1 then some (-1, M1) else (if (24 : Int32) < nI (x % 100) then some (-1, M1) else (if zz_rg c 2 = true then f_X8_drawn_l50 (nI x) c gx_fuel a 0 0 M1 else some (-1, M1))))) := by
      intro M1
      unfold f_X8_drawn
      rw [if_neg (nI_pos hx), hq, hr, show f_X8_in (nI (x / 100)) (1 : Int32) (30 : Int32) M1 = _ from zz_in1n _ 30 M1, show f_X8_in (nI (x % 100)) (1 : Int32) (24 : Int32) M1 = _ from zz_in1n _ 24 M1, show f_X8_in c (0 : Int32) (1 : Int32) M1 = some (zz_i (zz_rg c 2)) from zz_in8 c 1 M1 (by decide)]
      simp only [zz_bPs, zz_ifi]
      by_cases k1 : nI (x / 100) < 1
      · simp only [if_pos k1, zz_bPs, if_true]
      · by_cases k2 : nI 30 < nI (x / 100)
        · have k2' : (30 : Int32) < nI (x / 100) := k2
          simp only [if_neg k1, if_pos k2, if_pos k2', zz_bPs, if_true]
        · have k2' : ¬ (30 : Int32) < nI (x / 100) := k2
          simp only [if_neg k1, if_neg k2, if_neg k2', zz_bPs, show ¬ ((1 : Int32) = 0) by decide, if_false]
          by_cases k3 : nI (x % 100) < 1
          · simp only [if_pos k3, zz_bPs, if_true]
          · by_cases k4 : nI 24 < nI (x % 100)
            · have k4' : (24 : Int32) < nI (x % 100) := k4
              simp only [if_neg k3, if_pos k4, if_pos k4', zz_bPs, if_true]
            · have k4' : ¬ (24 : Int32) < nI (x % 100) := k4
              simp only [if_neg k3, if_neg k4, if_neg k4', zz_bPs, show ¬ ((1 : Int32) = 0) by decide, if_false]
    by_cases k1 : nI (x / 100) < 1
    · rw [if_pos k1]
      exact ⟨-1, M, rfl, M, by rw [hg, if_pos k1], h⟩
    · by_cases k2 : (30 : Int32) < nI (x / 100)
      · rw [if_neg k1, if_pos k2]
        exact ⟨-1, M, rfl, M, by rw [hg, if_neg k1, if_pos k2], h⟩
      · by_cases k3 : nI (x % 100) < 1
        · rw [if_neg k1, if_neg k2, if_pos k3]
          exact ⟨-1, M, rfl, M, by rw [hg, if_neg k1, if_neg k2, if_pos k3], h⟩
        · by_cases k4 : (24 : Int32) < nI (x % 100)
          · rw [if_neg k1, if_neg k2, if_neg k3, if_pos k4]
            exact ⟨-1, M, rfl, M, by rw [hg, if_neg k1, if_neg k2, if_neg k3, if_pos k4], h⟩
          · rw [if_neg k1, if_neg k2, if_neg k3, if_neg k4]
            cases h3 : zz_rg c 2 with
            | false => exact ⟨-1, M, rfl, M, by rw [hg, if_neg k1, if_neg k2, if_neg k3, if_neg k4, h3]; rfl, h⟩
            | true =>
              have n30 : x / 100 ≤ 30 := by
                rw [show (30 : Int32) = nI 30 from rfl, zz_lt (by decide) (by omega)] at k2; omega
              have h24 : x % 100 ≤ 24 := by
                rw [show (24 : Int32) = nI 24 from rfl, zz_lt (by decide) (by omega)] at k4; omega
              obtain ⟨porter, rfl⟩ := zz_ch h3
              generalize x / 100 = nights at *
              generalize x % 100 = hours at *
              obtain ⟨M1, f1, e1⟩ := zz_draw h.IH hlv hC a porter n30 h24
              have e0 : (if zz_i porter = (1 : Int32) then f_X7_drawn_b70 a (nI nights) (nI hours) 1 M else f_X7_drawn_b70 a (nI nights) (nI hours) 0 M) = gx_bI (f_X4_draw a (nI nights) (nI hours) (zz_i porter) M) (fun y6 M7 => some (y6, M7)) := by
                cases porter with
                | false => rw [if_neg (show ¬ zz_i false = 1 by decide)]; rfl
                | true => rw [if_pos (show zz_i true = 1 from rfl)]; rfl
              rw [if_pos rfl, e0, e1, zz_bIs]
              refine ⟨_, M1, rfl, ?_⟩
              have f1c := f1.mono zz_S33_sc
              have i1 : zz_Inv M1 := h.fr f1c
              obtain ⟨M2, f2, e2⟩ := zz_drawn50 i1.IH hlv (hM.tr (zz_lwM.sc f1c)) a porter n30 h24 hq hr
              refine ⟨M2, ?_, i1.fr f2⟩
              rw [hg, if_neg k1, if_neg k2, if_neg k3, if_neg k4, h3, if_pos rfl, e2, zz_H_fr f1c zz_sc_9, zz_W_frF f1c zz_sc_9]
              cases porter <;> rfl

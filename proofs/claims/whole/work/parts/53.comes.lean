/-- who is out at an hour -/
def zz_o (M : gx_Mem) (h : Nat) : Int32 := zz_ou (fun i => zz_b (M.1 11 i) h) (zz_H M).n
theorem zz_o7 {M : gx_Mem} (h : zz_IH M) (x : Nat) : f_X2_outAt 9 (nI x) M = some (zz_o M x) := zz_outAt7 (zz_Hok h).2.1 (zz_Hok h).1.1 x
theorem zz_o8 {M A : gx_Mem} (h : zz_IH M) (e1 : A.1 57 1 = M.1 57 1) (e2 : ∀ i, A.1 59 i = M.1 59 i) (x : Nat) : f_X8_outAt (nI x) 63 A = some (zz_o M x) := by
  have hk := zz_Hok h
  rw [zz_outAt8 (n := (zz_H M).n) (e1.trans (h.1.2.trans hk.2.1)) hk.1.1 x 63]
  refine congrArg some (zz_ou_cong _ (fun i hi => ?_))
  have h6 := hk.1.1
  rw [zz_b63 i (by omega), Bool.true_and, e2, (h.2.2.1 i (by omega)).2]
theorem zz_o_fr {S : Nat → Nat → Bool} {M M1 : gx_Mem} (f : zz_fr S M M1) (h : ∀ k i, 9 ≤ k → k ≤ 14 → S k i = false) (x : Nat) : zz_o M1 x = zz_o M x := by
  unfold zz_o
  rw [zz_H_fr f h, show M1.1 11 = M.1 11 from funext fun i => f.2 11 i (h 11 i (by decide) (by decide))]
theorem zz_S34_9 : ∀ k i, 9 ≤ k → k ≤ 14 → zz_S34 k i = false := fun k i h1 h2 => by simp [zz_S34]; omega
theorem zz_S34_sc : ∀ k i, zz_S34 k i = true → zz_sc k i = true := fun k i h => by
  simp [zz_S34] at h
  rcases h with rfl | rfl <;> rfl
theorem zz_SF_sc {m : Nat} : ∀ k i, zz_SF m k i = true → zz_sc k i = true := fun k i h => by
  simp [zz_SF] at h
  rcases h with (rfl | rfl) | ⟨rfl | rfl, -⟩ <;> rfl
theorem zz_Inv.fr {M M2 : gx_Mem} (h : zz_Inv M) (f : zz_fr zz_sc M M2) : zz_Inv M2 := zz_Inv_core (zz_core_fr f) h
theorem zz_LM.tr {lv : Nat → Nat → Nat → Nat → Nat → Nat → Nat} {M M2 : gx_Mem} (h : zz_LM lv M) (q : zz_lwM M M2) : zz_LM lv M2 := fun M1 q2 => h M1 (q.tr q2)
theorem zz_LC.tr {lv : Nat → Nat → Nat → Nat → Nat → Nat → Nat} {M M2 : gx_Mem} (h : zz_LC lv M) (q : zz_lwC M M2) : zz_LC lv M2 := fun M1 q2 => h M1 (q.tr q2)
theorem zz_lwM.sc {M M2 : gx_Mem} (f : zz_fr zz_sc M M2) : zz_lwM M M2 := ⟨f.2 57 27 rfl, fun i hi => ⟨f.2 69 i (decide_eq_false (by omega)), f.2 70 i (decide_eq_false (by omega))⟩, f.2 71 0 rfl, fun i hi => ⟨f.2 72 i (decide_eq_false (by omega)), f.2 73 i (decide_eq_false (by omega))⟩⟩
theorem zz_lwC.sc {M M2 : gx_Mem} (f : zz_fr zz_sc M M2) : zz_lwC M M2 := ⟨f.2 0 4 rfl, fun i _ => f.2 1 i rfl, fun i _ => f.2 2 i rfl⟩
/-- the model's flow now -/
theorem zz_flow8 {M : gx_Mem} {lv : Nat → Nat → Nat → Nat → Nat → Nat → Nat} (h : zz_IH M) (hlv : ∀ a w i f m n, lv a w i f m n ≤ a) (hL : zz_LM lv M) (o : Int32) {m : Nat} (hm : m < 4) :
    ∃ M2, f_X8_flow (nI m) (gx_sI (zz_now M) 57 28 o) = some M2 ∧ zz_fr zz_sc M M2 ∧ zz_fw lv (zz_H M) o m M2 0 := by
  obtain ⟨c1, c2, c3, c4, c5⟩ := zz_now_h8 h
  have f1 : zz_fr zz_sc M (gx_sI (zz_now M) 57 28 o) := (zz_now_fr M).sI rfl
  obtain ⟨M2, e, f, w⟩ := zz_flow (M := gx_sI (zz_now M) 57 28 o) (o := o) (zz_Hok h).1 ⟨c1, c2, c3, c4, c5⟩ rfl hlv (hL.tr (zz_lwM.sc f1)) hm
  exact ⟨M2, e, f1.tr (f.mono zz_SF_sc), w⟩
theorem zz_Inv.law {M : gx_Mem} (h : zz_Inv M) : ∃ lv : Nat → Nat → Nat → Nat → Nat → Nat → Nat, (∀ a w i f m n, lv a w i f m n ≤ a) ∧ zz_LC lv M ∧ zz_LM lv M := h.IL
theorem op_comes (a b c : Int32) : zz_ok (f_X7_comes a b c) (f_X8_comes a b c) := by
  intro M h
  obtain ⟨lv, hlv, hC, hM⟩ := h.law
  unfold f_X7_comes
  simp only [zz_let]
  rcases zz_case a with ha | ⟨x, hx, rfl⟩
  · rw [if_pos ha]
    exact ⟨-1, M, rfl, M, by unfold f_X8_comes; rw [if_pos ha], h⟩
  · rw [if_neg (nI_pos hx), zz_isHour7, zz_isFlat7, zz_isMark7, zz_isChoice7, show (100 : Int32) = nI 100 from rfl, zz_div hx (by decide) (by decide), zz_rem hx (by decide) (by decide)]
    simp only [zz_bPs, zz_ifi]
    have hg : ∀ M1 : gx_Mem, f_X8_comes (nI x) b c M1 = if zz_rg (nI (x / 100)) 12 = true then (if zz_rg (nI (x % 100)) 24 = true then (if zz_rg b 4 = true then (if zz_rg c 2 = true then gx_bP (f_X8_layNow M1) (fun M10 => gx_bP (f_X8_outAt (nI (x / 100)) (63 : Int32) M10) (fun y12 => gx_bP (f_X8_flow b (gx_sI M10 57 28 y12)) (fun M15 => (if c = 0 then gx_gd (gx_in ((nI 24 * b) + nI (x % 100)) 96) (some ((M15.1 80 ((nI 24 * b) + nI (x % 100)).toNatClampNeg), M15)) else gx_gd (gx_in ((nI 24 * b) + nI (x % 100)) 96) (some ((M15.1 81 ((nI 24 * b) + nI (x % 100)).toNatClampNeg), M15)))))) else some (-1, M1)) else some (-1, M1)) else some (-1, M1)) else some (-1, M1) := by
      intro M1
      unfold f_X8_comes
      rw [if_neg (nI_pos hx), show (100 : Int32) = nI 100 from rfl, zz_div hx (by decide) (by decide), zz_rem hx (by decide) (by decide), zz_isHour8, zz_isFlat8, zz_isMark8, show (1 : Int32) = nI 1 from rfl, zz_in8 c 1 M1 (by decide)]
      simp only [zz_bPs, zz_ifi]
      rfl
    cases h1 : zz_rg (nI (x / 100)) 12 with
    | false => exact ⟨-1, M, rfl, M, by rw [hg, h1]; rfl, h⟩
    | true =>
      cases h2 : zz_rg (nI (x % 100)) 24 with
      | false => exact ⟨-1, M, rfl, M, by rw [hg, h1, h2]; rfl, h⟩
      | true =>
        cases h3 : zz_rg b 4 with
        | false => exact ⟨-1, M, rfl, M, by rw [hg, h1, h2, h3]; rfl, h⟩
        | true =>
          cases h4 : zz_rg c 2 with
          | false => exact ⟨-1, M, rfl, M, by rw [hg, h1, h2, h3, h4]; rfl, h⟩
          | true =>
            obtain ⟨m, hm, rfl⟩ := zz_rgT h3
            obtain ⟨v, hv, rfl⟩ := zz_rgT h4
            have hf : x % 100 < 24 := by
              rw [zz_rgN (show x % 100 < 2147483648 by omega)] at h2
              exact of_decide_eq_true h2
            generalize x % 100 = f at *
            generalize x / 100 = t at *
            rw [if_pos rfl, if_pos rfl, if_pos rfl, if_pos rfl, zz_o7 h.IH]
            simp only [zz_bPs]
            rw [show (8 : Int32) = nI 8 from rfl, zz_div (show f < 2147483648 by omega) (by decide) (by decide), zz_rem (show f < 2147483648 by omega) (by decide) (by decide)]
            obtain ⟨M1, e1, f1⟩ := zz_reach (k := 9) (J := 7 - f % 8 + v) (v2 := nI (f % 8) - nI v) (by decide) (zz_Hok h.IH).1 (zz_Hok h.IH).2 hlv hC (zz_o M t) (m := m) (s := f / 8) hm (by omega) (by omega) (by
              rw [Int32.toInt_sub, nI_toInt (by omega), nI_toInt (by omega), Int.bmod_eq_of_le (by omega) (by omega)]
              omega)
            rw [e1]
            simp only [zz_bIs]
            refine ⟨_, M1, rfl, ?_⟩
            have i1 : zz_Inv M1 := h.fr (f1.mono zz_S34_sc)
            obtain ⟨M2, e2, f2, w2⟩ := zz_flow8 i1.IH hlv (hM.tr (zz_lwM.sc (f1.mono zz_S34_sc))) (zz_o M t) hm
            refine ⟨M2, ?_, i1.fr f2⟩
            rw [hg, h1, h2, h3, h4, if_pos rfl, if_pos rfl, if_pos rfl, if_pos rfl, zz_layNow M1 (by rw [i1.IH.1.2]; exact i1.IH.1.1)]
            simp only [zz_bPs]
            rw [zz_o8 (M := M1) (A := zz_now M1) i1.IH rfl (fun i => rfl), zz_o_fr f1 zz_S34_9]
            simp only [zz_bPs]
            rw [e2]
            simp only [zz_bPs, zz_mul, zz_add, zz_gi (show 24 * m + f < 96 by omega) (show 96 < 2147483648 by decide), zz_cl (show 24 * m + f < 2147483648 by omega)]
            rw [(w2 f (Nat.zero_le _) hf).1, (w2 f (Nat.zero_le _) hf).2, zz_H_fr f1 zz_S34_9]
            match v, hv with
            | 0, _ => rfl
            | 1, _ => rw [show 8 - f % 8 = 7 - f % 8 + 1 by omega]; rfl

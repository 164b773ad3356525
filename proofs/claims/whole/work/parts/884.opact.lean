theorem zz_act0 {M : gx_Mem} (h : zz_Inv M) : zz_Inv (gx_sI (gx_sI M 40 3 0) 57 54 0) := by
  obtain ⟨b1, b2, b3, b4⟩ := h.IB
  refine ⟨(h.IH.w rfl).w rfl, (h.II.w rfl).w rfl, (h.IT.w rfl).w rfl, (h.IC.w rfl).w rfl, ⟨b1, b2, ⟨⟨0, by decide, rfl⟩, rfl⟩, fun i hi h2 => ?_⟩, (h.IS.w rfl).w rfl, (h.IL.w rfl).w rfl⟩
  have h2' : nI i < 0 := h2
  exact absurd h2' (nI_pos (by omega))
theorem zz_pB2 {M M2 : gx_Mem} (h : zz_Inv M) (f1 : ∀ k i, k ≠ 42 → k ≠ 91 → ¬ (k = 40 ∧ i = 3) → ¬ (k = 57 ∧ i = 54) → M2.1 k i = M.1 k i) (f2 : M2.2 = M.2) {c : Nat} (hc : c ≤ 1000) (e1 : M2.1 40 3 = nI c) (e2 : M2.1 57 54 = nI c) (e3 : ∀ i, i < 24 → i < c → M2.1 91 i = M2.1 42 i) : zz_Inv M2 := by
  have nH : ∀ k i, zz_pH k i = true → M2.1 k i = M.1 k i := fun k i q => f1 k i (by rintro rfl; cases q) (by rintro rfl; cases q) (by rintro ⟨rfl, rfl⟩; cases q) (by rintro ⟨rfl, rfl⟩; cases q)
  have nI' : ∀ k i, zz_pI k i = true → M2.1 k i = M.1 k i := fun k i q => f1 k i (by rintro rfl; cases q) (by rintro rfl; cases q) (by rintro ⟨rfl, rfl⟩; cases q) (by rintro ⟨rfl, rfl⟩; cases q)
  have nT : ∀ k i, zz_pT k i = true → M2.1 k i = M.1 k i := fun k i q => f1 k i (by rintro rfl; cases q) (by rintro rfl; cases q) (by rintro ⟨rfl, rfl⟩; cases q) (by rintro ⟨rfl, rfl⟩; cases q)
  have nC : ∀ k i, zz_pC k i = true → M2.1 k i = M.1 k i := fun k i q => f1 k i (by rintro rfl; cases q) (by rintro rfl; cases q) (by rintro ⟨rfl, rfl⟩; cases q) (by rintro ⟨rfl, rfl⟩; cases q)
  have nS : ∀ k i, zz_pS k i = true → M2.1 k i = M.1 k i := fun k i q => f1 k i (by rintro rfl; cases q) (by rintro rfl; cases q) (by rintro ⟨rfl, rfl⟩; cases q) (by rintro ⟨rfl, rfl⟩; cases q)
  have nL : ∀ k i, zz_pL k i = true → M2.1 k i = M.1 k i := fun k i q => f1 k i (by rintro rfl; cases q) (by rintro rfl; cases q) (by rintro ⟨rfl, rfl⟩; cases q) (by rintro ⟨rfl, rfl⟩; cases q)
  obtain ⟨b1, b2, b3, b4⟩ := h.IB
  refine ⟨h.IH.ext nH f2, h.II.ext nI' f2, h.IT.ext nT f2, h.IC.ext nC f2, ⟨?_, fun i hi => ?_, ?_, fun i hi hlt => ?_⟩, h.IS.at nS f2, h.IL.at nL⟩
  · rw [f1 40 2 (by decide) (by decide) (by decide) (by decide), f1 57 52 (by decide) (by decide) (by decide) (by decide)]; exact b1
  · rw [f1 41 i (by decide) (by decide) (by omega) (by omega), f1 90 i (by decide) (by decide) (by omega) (by omega)]; exact b2 i hi
  · rw [e1, e2]; exact ⟨⟨c, hc, rfl⟩, rfl⟩
  · rw [e1, zz_lt (by omega) (by omega)] at hlt
    exact e3 i hi hlt
theorem op_act (a b x : Int32) : zz_ok (f_X7_act a b x) (f_X8_act a b x) := by
  intro M h
  obtain ⟨⟨⟨nb, h50, hn⟩, hn8⟩, b2, b3, b4⟩ := h.IB
  rw [hn] at hn8
  have hg : ∀ M1 : gx_Mem, M1.1 57 52 = nI nb → f_X8_act a b x M1 = if zz_rg a nb = true then (if zz_rg b 4 = true then gx_bI ((fun M => if b = 0 then f_X8_falling a x M else (if b = 1 then f_X8_running a x M else (if b = 2 then f_X8_thinking a x M else f_X8_telling a x M))) (gx_sI M1 57 54 0)) (fun y M2 => some (y, M2)) else some (0, gx_sI M1 57 54 0)) else some (0, gx_sI M1 57 54 0) := by
    intro M1 e
    unfold f_X8_act
    rw [zz_let, zz_isBody8 (M := gx_sI M1 57 54 0) (n := nb) e h50, show f_X8_in b (0 : Int32) (3 : Int32) (gx_sI M1 57 54 0) = some (zz_i (zz_rg b 4)) from zz_in8 b 3 _ (by decide)]
    simp only [zz_bPs, zz_ifi]
    by_cases c0 : b = 0
    · simp only [if_pos c0]
    · by_cases c1 : b = 1
      · simp only [if_neg c0, if_pos c1]
      · by_cases c2 : b = 2
        · simp only [if_neg c0, if_neg c1, if_pos c2]
        · simp only [if_neg c0, if_neg c1, if_neg c2]
  have bad : f_X7_act_b17 M = some (0, gx_sI M 40 3 0) := rfl
  unfold f_X7_act
  rw [zz_isBody7 hn h50]
  simp only [zz_bPs, zz_ifi]
  cases h1 : zz_rg a nb with
  | false =>
    rw [if_neg (by decide), bad]
    exact ⟨0, _, rfl, _, by rw [hg (gx_sI M 40 3 0) hn8, h1]; rfl, zz_act0 h⟩
  | true =>
    rw [if_pos rfl]
    cases h2 : zz_rg b 4 with
    | false =>
      have e : (if b < 0 then f_X7_act_b17 M else (if b ≤ (3 : Int32) then gx_bI (f_X0_acted b a x M) (fun y4 M5 => some (y4, M5)) else f_X7_act_b17 M)) = f_X7_act_b17 M := by
        rcases zz_case b with hb | ⟨j, hj, rfl⟩
        · rw [if_pos hb]
        · rw [if_neg (nI_pos hj)]
          rw [zz_rgN hj] at h2
          have := of_decide_eq_false h2
          rw [if_neg (show ¬ nI j ≤ 3 by rw [show (3 : Int32) = nI 3 from rfl, zz_le hj (by decide)]; omega)]
      rw [e, bad]
      exact ⟨0, _, rfl, _, by rw [hg (gx_sI M 40 3 0) hn8, h1, h2]; rfl, zz_act0 h⟩
    | true =>
      obtain ⟨n, hn2, rfl⟩ := zz_rgT h1
      obtain ⟨act, ha, rfl⟩ := zz_rgT h2
      obtain ⟨⟨K, hK, k1⟩, k2⟩ := b2 n (by omega)
      rw [k1] at k2
      obtain ⟨r, l, hl, l7, l8⟩ := zz_act (n := n) (K := K) (act := act) (by omega) (by omega) ha x
      have e7 : f_X0_acted (nI act) (nI n) x M = some (r, zz_wl 42 40 3 l 0 (gx_sI M 40 3 0)) := by
        unfold f_X0_acted
        rw [zz_let, zz_gi (show n < 50 by omega) (by decide), zz_cl (show n < 2147483648 by omega), show (gx_sI M 40 3 0).1 41 n = nI K from k1, show (0 : Int32) = nI 0 from rfl, l7 (gx_sI M 40 3 (nI 0)) 0 k1 rfl (by omega), zz_bIs]
      rw [if_neg (nI_pos (show act < 2147483648 by omega)), if_pos (show nI act ≤ 3 by rw [show (3 : Int32) = nI 3 from rfl, zz_le (by omega) (by decide)]; omega), e7, zz_bIs]
      refine ⟨r, _, rfl, zz_wl 91 57 54 l 0 (gx_sI (zz_wl 42 40 3 l 0 (gx_sI M 40 3 0)) 57 54 0), ?_, ?_⟩
      · have m52 : (zz_wl 42 40 3 l 0 (gx_sI M 40 3 0)).1 57 52 = nI nb := (zz_wl_o (by decide) (by decide) l 0 _).trans hn8
        have m90 : (gx_sI (zz_wl 42 40 3 l 0 (gx_sI M 40 3 0)) 57 54 0).1 90 n = nI K := (zz_wl_o (q := 42) (kc := 40) (ki := 3) (k := 90) (i := n) (by decide) (by omega) l 0 (gx_sI M 40 3 0)).trans k2
        rw [hg _ m52, h1, h2, if_pos rfl, if_pos rfl, l8 _ 0 m90 rfl (by omega), zz_bIs]
      · refine zz_pB2 h (c := l.length) (fun k i n1 n2 n3 n4 => ?_) ?_ (by omega) ?_ ?_ (fun i hi hlt => ?_)
        · rw [zz_wl_o n2 n4, zz_sI1, if_neg n4, zz_wl_o n1 n3, zz_sI1, if_neg n3]
        · rw [zz_wl_2, zz_sI2, zz_wl_2, zz_sI2]
        · rw [zz_wl_o (by decide) (by decide), zz_sI1, if_neg (by decide), zz_wl_c l 0 (gx_sI M 40 3 0) rfl, Nat.zero_add]
        · rw [zz_wl_c l 0 (gx_sI (zz_wl 42 40 3 l 0 (gx_sI M 40 3 0)) 57 54 0) rfl, Nat.zero_add]
        · rw [zz_wl_o (k := 42) (by decide) (by omega) l 0 (gx_sI (zz_wl 42 40 3 l 0 (gx_sI M 40 3 0)) 57 54 0), zz_sI1, if_neg (by omega)]
          exact zz_wl_eq (by decide) (by decide) hi l 0 _ _ (Nat.zero_le _) (by omega)

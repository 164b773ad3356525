theorem zz_sIc {M M2 : gx_Mem} (h : M.1 = M2.1) (k i : Nat) (v : Int32) : (gx_sI M k i v).1 = (gx_sI M2 k i v).1 := by simp only [gx_sI, h]
theorem zz_rgNeg {x : Int32} {n : Nat} (h : x < 0) : zz_rg x n = false := by
  unfold zz_rg; rw [zz_ltI, zz_t0] at h; exact decide_eq_false (by omega)
/-- a shelf's places are nobody else's -/
theorem zz_shP {s : Nat} (hs : s < 6) (P : Nat → Nat → Bool) (p0 : ∀ i, P 44 i = false) (p1 : ∀ i, P 46 i = false) (p2 : ∀ i, P 48 i = false) (p3 : ∀ i, P 50 i = false) (p4 : ∀ i, P 52 i = false) (p5 : ∀ i, P 54 i = false) : ∀ i, P (44 + 2 * s) i = false := by
  intro i
  match s, hs with
  | 0, _ => exact p0 i
  | 1, _ => exact p1 i
  | 2, _ => exact p2 i
  | 3, _ => exact p3 i
  | 4, _ => exact p4 i
  | 5, _ => exact p5 i
theorem zz_holdRow_loop (r : Nat) (M : gx_Mem) : ∃ M2, f_X5_holdRow_l17 r gx_fuel (0 : Int32) M = some M2 ∧ M2.1 = M.1 ∧ ∀ q j, M2.2 q j = if q = r + 1 ∧ j < 60 then 0 else M.2 q j := by
  obtain ⟨s2, ⟨h1, h2, h3⟩, h4⟩ := zz_loopE (γ := Unit) (b := fun _ (ag17 : Int32 × gx_Mem → Option gx_Mem) (s : Int32 × gx_Mem) => f_X5_holdRow_k17 r (fun v3 M => ag17 (v3, M)) s.1 s.2) (E := fun _ s => some s.2) (I := fun i s => s.1 = nI i ∧ s.2.1 = M.1 ∧ ∀ q j, s.2.2 q j = if q = r + 1 ∧ j < i then 0 else M.2 q j) (N := 60) (by
    rintro i ⟨v, m⟩ hi ⟨h1, h2, h3⟩
    have h1 : v = nI i := h1
    subst h1
    refine ⟨(nI (i + 1), gx_sL m (r + 1) i 0), ⟨rfl, h2, fun q j => ?_⟩, fun _ ag => ?_⟩
    · show (gx_sL m (r + 1) i 0).2 q j = _
      rw [zz_sL2, h3]
      by_cases e : q = r + 1 ∧ j = i
      · rw [if_pos e, if_pos (by omega)]
      · rw [if_neg e]
        by_cases e2 : q = r + 1 ∧ j < i
        · rw [if_pos e2, if_pos (by omega)]
        · rw [if_neg e2, if_neg (by omega)]
    · show f_X5_holdRow_k17 r _ (nI i) m = _
      unfold f_X5_holdRow_k17
      rw [if_neg (show ¬ (60 : Int32) ≤ nI i from nI_ge hi (by decide)), zz_gi hi (by decide), zz_let, zz_let, zz_cl (by omega), show nI i + 1 = nI (i + 1) from nI_1 i]) (by
    rintro ⟨v, m⟩ ⟨h1, h2, h3⟩ _ ag
    have h1 : v = nI 60 := h1
    subst h1
    rfl) 60 0 (0, M) rfl ⟨rfl, rfl, fun q j => by rw [if_neg (by omega)]⟩
  exact ⟨s2.2, h4 () gx_fuel (by decide), h2, h3⟩
theorem zz_row_loop {s : Nat} (hs : s < 6) (M : gx_Mem) : ∃ M2, f_X8_row_l54 (nI s) gx_fuel ((60 : Int32) * nI s) M = some (1, M2) ∧ M2.1 = M.1 ∧ ∀ q j, M2.2 q j = if q = 94 ∧ 60 * s ≤ j ∧ j < 60 * s + 60 then 0 else M.2 q j := by
  obtain ⟨s2, ⟨h1, h2, h3⟩, h4⟩ := zz_loopE (γ := Unit) (b := fun _ (ag17 : Int32 × gx_Mem → Option (Int32 × gx_Mem)) (t : Int32 × gx_Mem) => f_X8_row_k54 (nI s) (fun v3 M => ag17 (v3, M)) t.1 t.2) (E := fun _ t => some (1, t.2)) (I := fun i t => t.1 = nI (60 * s + i) ∧ t.2.1 = M.1 ∧ ∀ q j, t.2.2 q j = if q = 94 ∧ 60 * s ≤ j ∧ j < 60 * s + i then 0 else M.2 q j) (N := 60) (by
    rintro i ⟨v, m⟩ hi ⟨h1, h2, h3⟩
    have h1 : v = nI (60 * s + i) := h1
    subst h1
    refine ⟨(nI (60 * s + (i + 1)), gx_sL m 94 (60 * s + i) 0), ⟨rfl, h2, fun q j => ?_⟩, fun _ ag => ?_⟩
    · show (gx_sL m 94 (60 * s + i) 0).2 q j = _
      rw [zz_sL2, h3]
      by_cases e : q = 94 ∧ j = 60 * s + i
      · rw [if_pos e, if_pos (by omega)]
      · rw [if_neg e]
        by_cases e2 : q = 94 ∧ 60 * s ≤ j ∧ j < 60 * s + i
        · rw [if_pos e2, if_pos (by omega)]
        · rw [if_neg e2, if_neg (by omega)]
    · show f_X8_row_k54 (nI s) _ (nI (60 * s + i)) m = _
      unfold f_X8_row_k54
      rw [show (60 : Int32) = nI 60 from rfl, zz_mul, zz_add, if_neg (nI_ge (show 60 * s + i < 60 * s + 60 by omega) (by omega)), zz_gi (show 60 * s + i < 360 by omega) (by decide), zz_let, zz_let, zz_cl (by omega), show nI (60 * s + i) + 1 = nI (60 * s + i + 1) from nI_1 _]
      rfl) (by
    rintro ⟨v, m⟩ ⟨h1, h2, h3⟩ _ ag
    have h1 : v = nI (60 * s + 60) := h1
    subst h1
    show f_X8_row_k54 (nI s) _ (nI (60 * s + 60)) m = _
    unfold f_X8_row_k54
    rw [show (60 : Int32) = nI 60 from rfl, zz_mul, zz_add, if_pos (nI_le (Nat.le_refl _) (by omega))]) 60 0 (nI (60 * s), M) rfl ⟨rfl, rfl, fun q j => by rw [if_neg (by omega)]⟩
  refine ⟨s2.2, ?_, h2, h3⟩
  rw [show (60 : Int32) = nI 60 from rfl, zz_mul]
  exact h4 () gx_fuel (by decide)
theorem op_row (a b c : Int32) : zz_ok (f_X7_row a b c) (f_X8_row a b c) := by
  intro M h
  have hg : ∀ M1 : gx_Mem, f_X8_row a b c M1 = if zz_rg a 6 = true then (if zz_rg b 5 = true then (if c ≤ (60 : Int32) then (if 0 ≤ c then gx_gd (gx_in a 6) (gx_let (gx_sI M1 92 a.toNatClampNeg ((-2 : Int32) - b)) (fun M5 => gx_gd (gx_in a 6) (gx_let (gx_sI M5 93 a.toNatClampNeg c) (fun M6 => gx_let ((60 : Int32) * a) (fun x7 => f_X8_row_l54 a gx_fuel x7 M6))))) else some ((-14 : Int32), M1)) else some ((-1 : Int32), M1)) else some (-1, M1)) else some (-1, M1) := by
    intro M1
    unfold f_X8_row
    rw [zz_isShelf8, show (4 : Int32) = nI 4 from rfl, zz_in8 b 4 M1 (by decide)]
    simp only [zz_bPs, zz_ifi]
  unfold f_X7_row
  rw [zz_isShelf7]
  simp only [zz_bPs, zz_ifi]
  cases ha : zz_rg a 6 with
  | false => exact ⟨-1, M, rfl, M, by rw [hg, ha]; rfl, h⟩
  | true =>
    obtain ⟨s, hs, rfl⟩ := zz_rgT ha
    rw [if_pos rfl]
    rcases zz_case b with hb | ⟨t, ht, rfl⟩
    · rw [if_pos hb]
      exact ⟨-1, M, rfl, M, by rw [hg, ha, if_pos rfl, zz_rgNeg hb]; rfl, h⟩
    · rw [if_neg (nI_pos ht), show (5 : Int32) = nI 5 from rfl]
      simp only [zz_le (show 5 < 2147483648 by decide) ht]
      by_cases h5 : 5 ≤ t
      · rw [if_pos h5]
        exact ⟨-1, M, rfl, M, by rw [hg, ha, if_pos rfl, zz_rgN ht, if_neg (by simpa using h5)], h⟩
      · rw [if_neg h5]
        have ht5 : zz_rg (nI t) 5 = true := by rw [zz_rgN ht]; exact decide_eq_true (by omega)
        by_cases h6 : c ≤ (60 : Int32)
        · rw [if_pos h6]
          by_cases h0 : 0 ≤ c
          · rw [if_pos h0]
            obtain ⟨n, hn, rfl⟩ : ∃ n : Nat, n ≤ 60 ∧ c = nI n := nI_of2 (show (60 : Int32).toInt = (60 : Nat) from rfl) (by rw [zz_leI] at h0; rw [zz_ltI]; omega) h6
            simp only [zz_gi hs (by decide), zz_let, zz_cl (show s < 2147483648 by omega)]
            unfold f_X5_holdRow
            simp only [zz_let]
            obtain ⟨M2, k1, k2, k3⟩ := zz_holdRow_loop (44 + 2 * s) (gx_sI (gx_sI (gx_sI M (44 + 2 * s) 1 (-1)) (44 + 2 * s) 2 (nI t)) (44 + 2 * s) 3 (nI n))
            rw [k1]
            simp only [zz_bPs]
            refine ⟨_, _, rfl, ?_⟩
            rw [hg, ha, if_pos rfl, if_pos ht5, if_pos h6, if_pos h0]
            simp only [zz_gi hs (by decide), zz_let, zz_cl (show s < 2147483648 by omega)]
            obtain ⟨M3, j1, j2, j3⟩ := zz_row_loop hs (gx_sI (gx_sI M2 92 s ((-2 : Int32) - nI t)) 93 s (nI n))
            refine ⟨M3, j1, ?_⟩
            generalize hX : gx_sI (gx_sI (gx_sI (gx_sI (gx_sI M (44 + 2 * s) 1 (-1)) (44 + 2 * s) 2 (nI t)) (44 + 2 * s) 3 (nI n)) 92 s ((-2 : Int32) - nI t)) 93 s (nI n) = X
            have e1 : M3.1 = X.1 := by
              rw [j2, ← hX]
              exact zz_sIc (zz_sIc k2 _ _ _) _ _ _
            have eH := zz_shP hs zz_pH (fun _ => rfl) (fun _ => rfl) (fun _ => rfl) (fun _ => rfl) (fun _ => rfl) (fun _ => rfl)
            have eI := zz_shP hs zz_pI (fun _ => rfl) (fun _ => rfl) (fun _ => rfl) (fun _ => rfl) (fun _ => rfl) (fun _ => rfl)
            have eT := zz_shP hs zz_pT (fun _ => rfl) (fun _ => rfl) (fun _ => rfl) (fun _ => rfl) (fun _ => rfl) (fun _ => rfl)
            have eC := zz_shP hs zz_pC (fun _ => rfl) (fun _ => rfl) (fun _ => rfl) (fun _ => rfl) (fun _ => rfl) (fun _ => rfl)
            have eB := zz_shP hs zz_pB (fun _ => rfl) (fun _ => rfl) (fun _ => rfl) (fun _ => rfl) (fun _ => rfl) (fun _ => rfl)
            have eL := zz_shP hs zz_pL (fun _ => rfl) (fun _ => rfl) (fun _ => rfl) (fun _ => rfl) (fun _ => rfl) (fun _ => rfl)
            have x1 : ∀ i, X.1 (44 + 2 * s) i = if i = 3 then nI n else if i = 2 then nI t else if i = 1 then -1 else M.1 (44 + 2 * s) i := by
              intro i
              rw [← hX, zz_sI1, if_neg (by omega), zz_sI1, if_neg (by omega), zz_sI1]
              by_cases e3 : i = 3
              · subst e3; rw [if_pos ⟨rfl, rfl⟩, if_pos rfl]
              · rw [if_neg (by omega), if_neg e3, zz_sI1]
                by_cases e2 : i = 2
                · subst e2; rw [if_pos ⟨rfl, rfl⟩, if_pos rfl]
                · rw [if_neg (by omega), if_neg e2, zz_sI1]
                  by_cases e1 : i = 1
                  · subst e1; rw [if_pos ⟨rfl, rfl⟩, if_pos rfl]
                  · rw [if_neg (by omega), if_neg e1]
            have x2 : X.1 92 s = -2 - nI t := by rw [← hX, zz_sI1, if_neg (by omega), zz_sI1, if_pos ⟨rfl, rfl⟩]
            have x3 : X.1 93 s = nI n := by rw [← hX, zz_sI1, if_pos ⟨rfl, rfl⟩]
            have x4 : ∀ q i, (q ≠ 44 + 2 * s) → ¬ (q = 92 ∧ i = s) → ¬ (q = 93 ∧ i = s) → X.1 q i = M.1 q i := by
              intro q i u1 u2 u3
              rw [← hX, zz_sI1, if_neg u3, zz_sI1, if_neg u2, zz_sI1, if_neg (by omega), zz_sI1, if_neg (by omega), zz_sI1, if_neg (by omega)]
            have hIX : zz_IH X ∧ zz_II X ∧ zz_IT X ∧ zz_IC X ∧ zz_IB X ∧ zz_IL X := by
              subst hX
              exact ⟨((((h.IH.w (eH 1)).w (eH 2)).w (eH 3)).w rfl).w rfl, ((((h.II.w (eI 1)).w (eI 2)).w (eI 3)).w rfl).w rfl, ((((h.IT.w (eT 1)).w (eT 2)).w (eT 3)).w rfl).w rfl, ((((h.IC.w (eC 1)).w (eC 2)).w (eC 3)).w rfl).w rfl, ((((h.IB.w (eB 1)).w (eB 2)).w (eB 3)).w rfl).w rfl, ((((h.IL.w (eL 1)).w (eL 2)).w (eL 3)).w rfl).w rfl⟩
            have m2 : ∀ q j, M3.2 q j = if q = 94 ∧ 60 * s ≤ j ∧ j < 60 * s + 60 then 0 else if q = 45 + 2 * s ∧ j < 60 then 0 else M.2 q j := by
              intro q j
              rw [j3]
              by_cases e : q = 94 ∧ 60 * s ≤ j ∧ j < 60 * s + 60
              · rw [if_pos e, if_pos e]
              · rw [if_neg e, if_neg e]
                show M2.2 q j = _
                rw [k3]
                show (if q = 44 + 2 * s + 1 ∧ j < 60 then 0 else M.2 q j) = _
                rw [show 44 + 2 * s + 1 = 45 + 2 * s by omega]
            obtain ⟨y1, y2, y3, y4, y5, y6⟩ := hIX
            have hf : ∀ (Z : gx_Mem → Prop), (∀ A B : gx_Mem, A.1 = B.1 → Z A → Z B) → Z X → Z M3 := fun Z hz hq => hz X M3 e1.symm hq
            refine ⟨?_, ?_, ?_, ?_, ?_, ?_, y6.at (fun _ _ _ => by rw [e1])⟩
            · obtain ⟨w1, w2⟩ := M3; obtain rfl : w1 = X.1 := e1; exact y1
            · obtain ⟨w1, w2⟩ := M3; obtain rfl : w1 = X.1 := e1; exact y2
            · obtain ⟨w1, w2⟩ := M3; obtain rfl : w1 = X.1 := e1; exact y3
            · obtain ⟨w1, w2⟩ := M3; obtain rfl : w1 = X.1 := e1; exact y4
            · obtain ⟨w1, w2⟩ := M3; obtain rfl : w1 = X.1 := e1; exact y5
            · intro u hu
              have q := h.IS u hu
              by_cases e : u = s
              · subst e
                refine ⟨?_, fun i hi => ?_, fun _ i hi => ⟨0, ?_⟩⟩
                · unfold zz_sh
                  rw [e1, x1, x1, x1, x2, x3]
                  exact .inr (.inr ⟨t, n, by omega, hn, rfl, rfl, rfl, rfl, rfl⟩)
                · rw [m2, m2, if_pos (by omega), if_neg (by omega), if_pos (by omega)]
                · rw [m2, if_neg (by omega), if_pos (by omega)]; rfl
              · refine zz_IS1.same (M := M) q (fun i => ?_) ?_ ?_ (fun i hi => ?_) (fun i hi => ?_) ?_
                · rw [e1]; exact x4 _ _ (by omega) (by omega) (by omega)
                · rw [e1]; exact x4 _ _ (by omega) (by omega) (by omega)
                · rw [e1]; exact x4 _ _ (by omega) (by omega) (by omega)
                · rw [m2, if_neg (by omega), if_neg (by omega)]
                · rw [m2, if_neg (by omega), if_neg (by omega)]
                · rw [e1]; exact x4 _ _ (by omega) (by omega) (by omega)
          · rw [if_neg h0]
            exact ⟨-14, M, rfl, M, by rw [hg, ha, if_pos rfl, if_pos ht5, if_pos h6, if_neg h0], h⟩
        · rw [if_neg h6]
          exact ⟨-1, M, rfl, M, by rw [hg, ha, if_pos rfl, if_pos ht5, if_neg h6], h⟩

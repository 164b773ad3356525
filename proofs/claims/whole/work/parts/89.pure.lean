/-! THE LAW'S LOOP -/
theorem zz_clA {f g : gx_Mem → Option (Int32 × gx_Mem)} (o : zz_ok f g) {M : gx_Mem} (h : zz_Inv M) (K : gx_Mem → Option Int32) : ∃ M2, zz_Inv M2 ∧ gx_bI (f M) (fun y M3 => gx_bI (g M3) (fun y5 M6 => (if y = y5 then K M6 else some (0 : Int32)))) = K M2 := by
  obtain ⟨r, M1, e1, M2, e2, i2⟩ := o M h
  refine ⟨M2, i2, ?_⟩
  rw [e1, zz_bIs, e2, zz_bIs, if_pos rfl]
theorem zz_clB {f g : gx_Mem → Option (Int64 × gx_Mem)} (o : zz_ok f g) {M : gx_Mem} (h : zz_Inv M) (K : gx_Mem → Option Int32) : ∃ M2, zz_Inv M2 ∧ gx_bI (f M) (fun y M3 => gx_bI (g M3) (fun y5 M6 => (if (lg_cmp y y5) = 0 then K M6 else some (0 : Int32)))) = K M2 := by
  obtain ⟨r, M1, e1, M2, e2, i2⟩ := o M h
  refine ⟨M2, i2, ?_⟩
  rw [e1, zz_bIs, e2, zz_bIs, if_pos ((zz_cmp0 r r).mpr rfl)]
theorem zz_clC {f g : gx_Mem → Option Int32} (o : zz_okp f g) {M : gx_Mem} (h : zz_Inv M) (K : gx_Mem → Option Int32) : ∃ M2, zz_Inv M2 ∧ gx_bP (f M) (fun y => gx_bP (g M) (fun y5 => (if y = y5 then K M else some (0 : Int32)))) = K M2 := by
  obtain ⟨r, e1, e2⟩ := o M h
  refine ⟨M, h, ?_⟩
  rw [e1, zz_bPs, e2, zz_bPs, if_pos rfl]
theorem zz_clD {f g : gx_Mem → Option Int64} (o : zz_okp f g) {M : gx_Mem} (h : zz_Inv M) (K : gx_Mem → Option Int32) : ∃ M2, zz_Inv M2 ∧ gx_bP (f M) (fun y => gx_bP (g M) (fun y5 => (if (lg_cmp y y5) = 0 then K M else some (0 : Int32)))) = K M2 := by
  obtain ⟨r, e1, e2⟩ := o M h
  refine ⟨M, h, ?_⟩
  rw [e1, zz_bPs, e2, zz_bPs, if_pos ((zz_cmp0 r r).mpr rfl)]
/-- one round of the law's loop -/
theorem zz_round {L : Nat} (hL : L ≤ 3072) (xs : Nat → Int32) (ag : Int32 → gx_Mem → Option Int32) {i : Nat} (hi : 6 * i + 6 ≤ L) {M : gx_Mem} (h : zz_Inv M) : ∃ M2, zz_Inv M2 ∧ f_L_law_k18 L xs ag (nI (6 * i)) M = f_L_law_b1605 L xs ag (nI (6 * i)) M2 := by
  have g0 : ∀ {α : Type} (X : Option α), gx_gd (gx_in (nI (6 * i)) L) X = X := fun X => by rw [zz_gi (show 6 * i < L by omega) (by omega)]
  have g1 : ∀ {α : Type} (X : Option α), gx_gd (gx_in (nI (6 * i) + (1 : Int32)) L) X = X := fun X => by rw [show nI (6 * i) + (1 : Int32) = nI (6 * i + 1) from zz_add (6 * i) 1, zz_gi (show 6 * i + 1 < L by omega) (by omega)]
  have g2 : ∀ {α : Type} (X : Option α), gx_gd (gx_in (nI (6 * i) + (2 : Int32)) L) X = X := fun X => by rw [show nI (6 * i) + (2 : Int32) = nI (6 * i + 2) from zz_add (6 * i) 2, zz_gi (show 6 * i + 2 < L by omega) (by omega)]
  have g3 : ∀ {α : Type} (X : Option α), gx_gd (gx_in (nI (6 * i) + (3 : Int32)) L) X = X := fun X => by rw [show nI (6 * i) + (3 : Int32) = nI (6 * i + 3) from zz_add (6 * i) 3, zz_gi (show 6 * i + 3 < L by omega) (by omega)]
  have g4 : ∀ {α : Type} (X : Option α), gx_gd (gx_in (nI (6 * i) + (4 : Int32)) L) X = X := fun X => by rw [show nI (6 * i) + (4 : Int32) = nI (6 * i + 4) from zz_add (6 * i) 4, zz_gi (show 6 * i + 4 < L by omega) (by omega)]
  have g5 : ∀ {α : Type} (X : Option α), gx_gd (gx_in (nI (6 * i) + (5 : Int32)) L) X = X := fun X => by rw [show nI (6 * i) + (5 : Int32) = nI (6 * i + 5) from zz_add (6 * i) 5, zz_gi (show 6 * i + 5 < L by omega) (by omega)]
  have gx : ¬ nI L - (6 : Int32) < nI (6 * i) := by
    rw [show (6 : Int32) = nI 6 from rfl, zz_sub (show 6 ≤ L by omega), zz_lt (by omega) (by omega)]
    omega
  unfold f_L_law_k18
  rw [if_neg gx]
  simp only [g0, g1, g2, g3, g4, g5]
  generalize xs (nI (6 * i) + 1).toNatClampNeg = x1
  generalize xs (nI (6 * i) + 2).toNatClampNeg = x2
  generalize xs (nI (6 * i) + 3).toNatClampNeg = x3
  generalize xs (nI (6 * i) + 4).toNatClampNeg = x4
  generalize xs (nI (6 * i) + 5).toNatClampNeg = x5
  generalize xs (nI (6 * i)).toNatClampNeg &&& 63 = z
  by_cases c0 : z = 0
  · rw [if_pos c0]
    exact zz_clA (op_person x1 x2) h (fun M => f_L_law_b1605 L xs ag (nI (6 * i)) M)
  rw [if_neg c0]
  by_cases c1 : z = 1
  · rw [if_pos c1]
    exact zz_clA (op_people x1 x2 x3) h (fun M => f_L_law_b1605 L xs ag (nI (6 * i)) M)
  rw [if_neg c1]
  by_cases c2 : z = 2
  · rw [if_pos c2]
    exact zz_clA (op_mend x1 x2 x3) h (fun M => f_L_law_b1605 L xs ag (nI (6 * i)) M)
  rw [if_neg c2]
  by_cases c3 : z = 3
  · rw [if_pos c3]
    exact zz_clC (op_of x1 x2) h (fun M => f_L_law_b1605 L xs ag (nI (6 * i)) M)
  rw [if_neg c3]
  by_cases c4 : z = 4
  · rw [if_pos c4]
    exact zz_clA (op_feed x1) h (fun M => f_L_law_b1605 L xs ag (nI (6 * i)) M)
  rw [if_neg c4]
  by_cases c5 : z = 5
  · rw [if_pos c5]
    exact zz_clA op_law h (fun M => f_L_law_b1605 L xs ag (nI (6 * i)) M)
  rw [if_neg c5]
  by_cases c6 : z = 6
  · rw [if_pos c6]
    exact zz_clA (op_comes x1 x2 x3) h (fun M => f_L_law_b1605 L xs ag (nI (6 * i)) M)
  rw [if_neg c6]
  by_cases c7 : z = 7
  · rw [if_pos c7]
    exact zz_clA (op_porter x1 x2) h (fun M => f_L_law_b1605 L xs ag (nI (6 * i)) M)
  rw [if_neg c7]
  by_cases c8 : z = 8
  · rw [if_pos c8]
    exact zz_clA (op_wet x1 x2) h (fun M => f_L_law_b1605 L xs ag (nI (6 * i)) M)
  rw [if_neg c8]
  by_cases c9 : z = 9
  · rw [if_pos c9]
    exact zz_clA (op_most x1 x2 x3) h (fun M => f_L_law_b1605 L xs ag (nI (6 * i)) M)
  rw [if_neg c9]
  by_cases c10 : z = 10
  · rw [if_pos c10]
    exact zz_clA (op_caught x1 x2) h (fun M => f_L_law_b1605 L xs ag (nI (6 * i)) M)
  rw [if_neg c10]
  by_cases c11 : z = 11
  · rw [if_pos c11]
    exact zz_clA (op_first x1) h (fun M => f_L_law_b1605 L xs ag (nI (6 * i)) M)
  rw [if_neg c11]
  by_cases c12 : z = 12
  · rw [if_pos c12]
    exact zz_clA (op_from x1 x2) h (fun M => f_L_law_b1605 L xs ag (nI (6 * i)) M)
  rw [if_neg c12]
  by_cases c13 : z = 13
  · rw [if_pos c13]
    exact zz_clA (op_dry x1 x2) h (fun M => f_L_law_b1605 L xs ag (nI (6 * i)) M)
  rw [if_neg c13]
  by_cases c14 : z = 14
  · rw [if_pos c14]
    exact zz_clA (op_change x1 x2 x3) h (fun M => f_L_law_b1605 L xs ag (nI (6 * i)) M)
  rw [if_neg c14]
  by_cases c15 : z = 15
  · rw [if_pos c15]
    exact zz_clA (op_who x1 x2 x3) h (fun M => f_L_law_b1605 L xs ag (nI (6 * i)) M)
  rw [if_neg c15]
  by_cases c16 : z = 16
  · rw [if_pos c16]
    exact zz_clA (op_thought x1 x2 x3 x4) h (fun M => f_L_law_b1605 L xs ag (nI (6 * i)) M)
  rw [if_neg c16]
  by_cases c17 : z = 17
  · rw [if_pos c17]
    exact zz_clA (op_rent x1 x2) h (fun M => f_L_law_b1605 L xs ag (nI (6 * i)) M)
  rw [if_neg c17]
  by_cases c18 : z = 18
  · rw [if_pos c18]
    exact zz_clA (op_swap x1) h (fun M => f_L_law_b1605 L xs ag (nI (6 * i)) M)
  rw [if_neg c18]
  by_cases c19 : z = 19
  · rw [if_pos c19]
    exact zz_clB (op_odds x1 x2 x3) h (fun M => f_L_law_b1605 L xs ag (nI (6 * i)) M)
  rw [if_neg c19]
  by_cases c20 : z = 20
  · rw [if_pos c20]
    exact zz_clB (op_mean x1 x2 x3) h (fun M => f_L_law_b1605 L xs ag (nI (6 * i)) M)
  rw [if_neg c20]
  by_cases c21 : z = 21
  · rw [if_pos c21]
    exact zz_clA (op_byTurns x1 x2 x3) h (fun M => f_L_law_b1605 L xs ag (nI (6 * i)) M)
  rw [if_neg c21]
  by_cases c22 : z = 22
  · rw [if_pos c22]
    exact zz_clA (op_drawn x1 x2 x3) h (fun M => f_L_law_b1605 L xs ag (nI (6 * i)) M)
  rw [if_neg c22]
  by_cases c23 : z = 23
  · rw [if_pos c23]
    exact zz_clA op_hour h (fun M => f_L_law_b1605 L xs ag (nI (6 * i)) M)
  rw [if_neg c23]
  by_cases c24 : z = 24
  · rw [if_pos c24]
    exact zz_clA (op_moves x1 x2) h (fun M => f_L_law_b1605 L xs ag (nI (6 * i)) M)
  rw [if_neg c24]
  by_cases c25 : z = 25
  · rw [if_pos c25]
    exact zz_clA (op_awning x1) h (fun M => f_L_law_b1605 L xs ag (nI (6 * i)) M)
  rw [if_neg c25]
  by_cases c26 : z = 26
  · rw [if_pos c26]
    exact zz_clA (op_wipe x1) h (fun M => f_L_law_b1605 L xs ag (nI (6 * i)) M)
  rw [if_neg c26]
  by_cases c27 : z = 27
  · rw [if_pos c27]
    exact zz_clC (op_led x1) h (fun M => f_L_law_b1605 L xs ag (nI (6 * i)) M)
  rw [if_neg c27]
  by_cases c28 : z = 28
  · rw [if_pos c28]
    exact zz_clA op_image h (fun M => f_L_law_b1605 L xs ag (nI (6 * i)) M)
  rw [if_neg c28]
  by_cases c29 : z = 29
  · rw [if_pos c29]
    exact zz_clA op_back h (fun M => f_L_law_b1605 L xs ag (nI (6 * i)) M)
  rw [if_neg c29]
  by_cases c30 : z = 30
  · rw [if_pos c30]
    exact zz_clA op_undo h (fun M => f_L_law_b1605 L xs ag (nI (6 * i)) M)
  rw [if_neg c30]
  by_cases c31 : z = 31
  · rw [if_pos c31]
    exact zz_clA op_redo h (fun M => f_L_law_b1605 L xs ag (nI (6 * i)) M)
  rw [if_neg c31]
  by_cases c32 : z = 32
  · rw [if_pos c32]
    exact zz_clA (op_body x1) h (fun M => f_L_law_b1605 L xs ag (nI (6 * i)) M)
  rw [if_neg c32]
  by_cases c33 : z = 33
  · rw [if_pos c33]
    exact zz_clA (op_act x1 x2 x3) h (fun M => f_L_law_b1605 L xs ag (nI (6 * i)) M)
  rw [if_neg c33]
  by_cases c34 : z = 34
  · rw [if_pos c34]
    exact zz_clC (op_trace x1) h (fun M => f_L_law_b1605 L xs ag (nI (6 * i)) M)
  rw [if_neg c34]
  by_cases c35 : z = 35
  · rw [if_pos c35]
    exact zz_clA (op_keep x1 x2) h (fun M => f_L_law_b1605 L xs ag (nI (6 * i)) M)
  rw [if_neg c35]
  by_cases c36 : z = 36
  · rw [if_pos c36]
    exact zz_clA (op_row x1 x2 x3) h (fun M => f_L_law_b1605 L xs ag (nI (6 * i)) M)
  rw [if_neg c36]
  by_cases c37 : z = 37
  · rw [if_pos c37]
    exact zz_clA (op_put x1 x2 _) h (fun M => f_L_law_b1605 L xs ag (nI (6 * i)) M)
  rw [if_neg c37]
  by_cases c38 : z = 38
  · rw [if_pos c38]
    exact zz_clD (op_element x1 x2) h (fun M => f_L_law_b1605 L xs ag (nI (6 * i)) M)
  rw [if_neg c38]
  by_cases c39 : z = 39
  · rw [if_pos c39]
    exact zz_clA (op_shift x1 x2 x3 x4 x5) h (fun M => f_L_law_b1605 L xs ag (nI (6 * i)) M)
  rw [if_neg c39]
  by_cases c40 : z = 40
  · rw [if_pos c40]
    exact zz_clC (op_taken x1 x2) h (fun M => f_L_law_b1605 L xs ag (nI (6 * i)) M)
  rw [if_neg c40]
  by_cases c41 : z = 41
  · rw [if_pos c41]
    exact zz_clC (op_count x1) h (fun M => f_L_law_b1605 L xs ag (nI (6 * i)) M)
  rw [if_neg c41]
  exact ⟨M, h, rfl⟩
theorem zz_rounds {L : Nat} (hL : L ≤ 3072) (xs : Nat → Int32) : ∀ k n i (M : gx_Mem), k < n → L ≤ 6 * i + 6 * k + 5 → 6 * i ≤ 4000 → zz_Inv M → f_L_law_l18 L xs n (nI (6 * i)) M = some 1 := by
  have ex : ∀ n i M, L ≤ 6 * i + 5 → 6 * i ≤ 4000 → f_L_law_l18 L xs (n + 1) (nI (6 * i)) M = some 1 := by
    intro n i M h1 h2
    have es : f_L_law_l18 L xs (n + 1) (nI (6 * i)) M = f_L_law_k18 L xs (fun v3 M => f_L_law_l18 L xs n v3 M) (nI (6 * i)) M := rfl
    rw [es]
    unfold f_L_law_k18
    rw [if_pos]
    rw [zz_ltI, nI_toInt (by omega), Int32.toInt_sub, nI_toInt (by omega), show (6 : Int32).toInt = 6 from rfl, Int.bmod_eq_of_le (by omega) (by omega)]
    omega
  intro k
  induction k with
  | zero =>
    intro n i M hn h1 h2 _
    obtain ⟨n, rfl⟩ : ∃ j, n = j + 1 := ⟨n - 1, by omega⟩
    exact ex n i M (by omega) h2
  | succ k ih =>
    intro n i M hn h1 h2 h
    obtain ⟨n, rfl⟩ : ∃ j, n = j + 1 := ⟨n - 1, by omega⟩
    by_cases c : L ≤ 6 * i + 5
    · exact ex n i M c h2
    · have es : f_L_law_l18 L xs (n + 1) (nI (6 * i)) M = f_L_law_k18 L xs (fun v3 M => f_L_law_l18 L xs n v3 M) (nI (6 * i)) M := rfl
      obtain ⟨M2, i2, e2⟩ := zz_round hL xs (fun v3 M => f_L_law_l18 L xs n v3 M) (show 6 * i + 6 ≤ L by omega) h
      rw [es, e2]
      unfold f_L_law_b1605
      rw [zz_let, show nI (6 * i) + 6 = nI (6 * (i + 1)) from zz_add (6 * i) 6]
      exact ih n (i + 1) M2 (by omega) (by omega) (by omega) i2
theorem law_pure {L : Nat} (hL : L ≤ 3072) (xs : Nat → Int32) : f_L_law_l18 L xs gx_fuel 0 gx_M0 = some 1 := zz_rounds hL xs 513 gx_fuel 0 gx_M0 (by decide) (by omega) (by decide) zz_Inv0

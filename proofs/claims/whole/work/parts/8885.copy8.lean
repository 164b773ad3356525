/-! THE LAW: the model keeps what it read -/
def zz_S10 (k _i : Nat) : Bool := k == 69 || k == 70 || k == 71 || k == 72 || k == 73
def zz_ml (D : gx_Mem) (ls : List (List (Int32 × Int32) × List (Int32 × Int32))) : Prop := D.1 71 0 = nI ls.length ∧ (∀ i, i < ls.length → D.1 72 i = nI ((zz_ac (ls.take i)).length + (ls.getD i ([], [])).1.length) ∧ D.1 73 i = nI (zz_ac (ls.take (i + 1))).length) ∧ ∀ j, j < (zz_ac ls).length → D.1 69 j = zz_tr ((zz_ac ls).getD j (0, 0)) ∧ D.1 70 j = ((zz_ac ls).getD j (0, 0)).2
theorem zz_tr8 {s : Int32 × Int32} (h : zz_vc s) : (zz_tr s).toInt8.toInt32 = zz_tr s := by
  rcases h with h | ⟨h, -⟩ | h | h | h
  · have : zz_tr s = 1 := by unfold zz_tr; rw [if_pos h]
    rw [this]; decide
  · have : zz_tr s = 2 := by unfold zz_tr; rw [if_neg (by rw [h]; decide), if_pos h]
    rw [this]; decide
  · have : zz_tr s = 4 := by unfold zz_tr; rw [if_neg (by rw [h]; decide), if_neg (by rw [h]; decide), if_neg (by rw [h]; decide), if_pos h]
    rw [this]; decide
  · have : zz_tr s = 3 := by unfold zz_tr; rw [if_neg (by rw [h]; decide), if_neg (by rw [h]; decide), if_pos h]
    rw [this]; decide
  · obtain ⟨a, b⟩ := zz_op8 h
    have e : s.1 = zz_tr s := b s.2
    rw [← e]; exact a
theorem zz_vc_at {l : List (Int32 × Int32)} (h : ∀ s, s ∈ l → zz_vc s) {j : Nat} (hj : j < l.length) : zz_vc (l.getD j (0, 0)) := by
  rw [List.getD_eq_getElem?_getD, List.getElem?_eq_getElem hj]
  exact h _ (List.getElem_mem hj)
theorem zz_ac_take_le (ls : List (List (Int32 × Int32) × List (Int32 × Int32))) (i : Nat) : (zz_ac (ls.take i)).length ≤ (zz_ac ls).length := by
  have e : zz_ac ls = zz_ac (ls.take i) ++ zz_ac (ls.drop i) := by rw [← zz_ac_app, List.take_append_drop]
  rw [e, List.length_append]; omega
theorem zz_ac_take_succ (ls : List (List (Int32 × Int32) × List (Int32 × Int32))) {i : Nat} (hi : i < ls.length) : zz_ac (ls.take (i + 1)) = zz_ac (ls.take i) ++ ((ls.getD i ([], [])).1 ++ (ls.getD i ([], [])).2) := by
  have e : ls.take (i + 1) = ls.take i ++ [ls.getD i ([], [])] := by
    rw [List.getD_eq_getElem?_getD, List.getElem?_eq_getElem hi]
    show _ = ls.take i ++ [ls[i]]
    rw [List.take_append_getElem]
  rw [e, zz_ac_snoc]
theorem zz_copy177 {M : gx_Mem} {ls : List (List (Int32 × Int32) × List (Int32 × Int32))} (hl : ls.length ≤ 61) (ha : (zz_ac ls).length ≤ 121) (h71 : M.1 71 0 = nI ls.length) (ht : zz_tb M ls) :
    ∃ D, f_X8_readText_l177 0 gx_fuel 0 M = some (-1, D) ∧ zz_fr (fun k _ => k == 72 || k == 73) M D ∧ ∀ i, i < ls.length → D.1 72 i = nI ((zz_ac (ls.take i)).length + (ls.getD i ([], [])).1.length) ∧ D.1 73 i = nI (zz_ac (ls.take (i + 1))).length := by
  have b : ∀ i, i < ls.length → (zz_ac (ls.take i)).length + (ls.getD i ([], [])).1.length < 256 ∧ (zz_ac (ls.take (i + 1))).length < 256 := fun i hi => by
    have a1 := zz_ac_take_le ls (i + 1)
    have a2 := zz_ac_take_succ ls hi
    rw [a2, List.length_append, List.length_append] at a1
    rw [a2, List.length_append, List.length_append]
    omega
  obtain ⟨s, ⟨D, rfl, fD, gD, kD⟩, e⟩ := zz_for (fun (ag177 : Int32 × gx_Mem → Option (Int32 × gx_Mem)) (s : Int32 × gx_Mem) => f_X8_readText_k177 0 (fun v2 M => ag177 (v2, M)) s.1 s.2) (fun s => some ((-1 : Int32), s.2)) (fun i s => ∃ D, s = (nI i, D) ∧ zz_fr (fun k _ => k == 72 || k == 73) M D ∧ (∀ j, j < i → D.1 72 j = nI ((zz_ac (ls.take j)).length + (ls.getD j ([], [])).1.length) ∧ D.1 73 j = nI (zz_ac (ls.take (j + 1))).length) ∧ ∀ j, j < ls.length → D.1 72 (61 + j) = M.1 72 (61 + j) ∧ D.1 73 (61 + j) = M.1 73 (61 + j)) ls.length gx_fuel (by unfold gx_fuel; omega) (0, M) ⟨M, rfl, zz_fr.rf, fun j hj => absurd hj (Nat.not_lt_zero j), fun j _ => ⟨rfl, rfl⟩⟩ (fun i s hi hs => by
      obtain ⟨D, rfl, fD, gD, kD⟩ := hs
      obtain ⟨t1, t2⟩ := ht i hi
      obtain ⟨b1, b2⟩ := b i hi
      obtain ⟨k1, k2⟩ := kD i hi
      refine ⟨(nI (i + 1), gx_sI (gx_sI D 72 i (nI ((zz_ac (ls.take i)).length + (ls.getD i ([], [])).1.length))) 73 i (nI (zz_ac (ls.take (i + 1))).length)), ⟨_, rfl, (fD.sI rfl).sI rfl, fun j hj => ?_, fun j hj => ?_⟩, fun ag => ?_⟩
      · rw [zz_sI1, if_neg (by omega), zz_sI1, zz_sI1]
        by_cases c : j = i
        · rw [if_pos ⟨rfl, c⟩, if_pos ⟨rfl, c⟩, c]
          exact ⟨rfl, rfl⟩
        · rw [if_neg (fun q => c q.2), if_neg (fun q => c q.2), zz_sI1, if_neg (by omega)]
          exact gD j (by omega)
      · rw [zz_sI1, if_neg (by omega), zz_sI1, if_neg (by omega), zz_sI1, if_neg (by omega), zz_sI1, if_neg (by omega)]
        exact kD j hj
      · dsimp only
        unfold f_X8_readText_k177
        rw [zz_gd (show gx_in (0 : Int32) 2 = true by decide), show D.1 71 (0 : Int32).toNatClampNeg = nI ls.length from (fD.2 71 0 rfl).trans h71, if_neg (show ¬ nI ls.length ≤ nI i by rw [zz_le (by omega) (by omega)]; omega), show (61 : Int32) * 0 = nI 0 from rfl, show (61 : Int32) = nI 61 from rfl, zz_add, zz_add, Nat.zero_add, zz_gi (show 61 + i < 122 by omega) (by decide), zz_gi (show i < 122 by omega) (by decide), zz_cl (show 61 + i < 2147483648 by omega), zz_cl (show i < 2147483648 by omega), k1, t1, zz_16 _ b1, zz_let, zz_gi (show 61 + i < 122 by omega) (by decide), zz_gi (show i < 122 by omega) (by decide), zz_sI1, if_neg (by omega), k2, t2, zz_16 _ b2, zz_let, show nI i + 1 = nI (i + 1) from zz_add i 1, zz_let]) (fun s hs ag => by
      obtain ⟨D, rfl, fD, gD, kD⟩ := hs
      dsimp only
      unfold f_X8_readText_k177
      rw [zz_gd (show gx_in (0 : Int32) 2 = true by decide), show D.1 71 (0 : Int32).toNatClampNeg = nI ls.length from (fD.2 71 0 rfl).trans h71, if_pos (nI_le (Nat.le_refl _) (by omega))])
  exact ⟨D, e, fD, gD⟩
theorem zz_copy105 {M : gx_Mem} {ls : List (List (Int32 × Int32) × List (Int32 × Int32))} (hl : ls.length ≤ 61) (ha : (zz_ac ls).length ≤ 121) (hv : ∀ s, s ∈ zz_ac ls → zz_vc s) (h : zz_hs8 M (zz_ac ls)) (h71 : M.1 71 1 = nI ls.length) (ht : zz_tb M ls) :
    ∃ D, f_X8_readText_l105 0 gx_fuel 0 M = some (-1, D) ∧ zz_fr zz_S10 M D ∧ zz_ml D ls := by
  obtain ⟨h1, h2⟩ := h
  obtain ⟨s, ⟨D, rfl, fD, gD, kD⟩, e⟩ := zz_for (fun (ag105 : Int32 × gx_Mem → Option (Int32 × gx_Mem)) (s : Int32 × gx_Mem) => f_X8_readText_k105 0 (fun v2 M => ag105 (v2, M)) s.1 s.2) (fun s => f_X8_readText_l177 0 gx_fuel 0 (gx_sI s.2 71 0 (nI ls.length))) (fun i s => ∃ D, s = (nI i, D) ∧ zz_fr (fun k _ => k == 69 || k == 70) M D ∧ (∀ j, j < i → D.1 69 j = zz_tr ((zz_ac ls).getD j (0, 0)) ∧ D.1 70 j = ((zz_ac ls).getD j (0, 0)).2) ∧ ∀ j, j < (zz_ac ls).length → D.1 69 (130 + j) = M.1 69 (130 + j) ∧ D.1 70 (130 + j) = M.1 70 (130 + j)) (zz_ac ls).length gx_fuel (by unfold gx_fuel; omega) (0, M) ⟨M, rfl, zz_fr.rf, fun j hj => absurd hj (Nat.not_lt_zero j), fun j _ => ⟨rfl, rfl⟩⟩ (fun i s hi hs => by
      obtain ⟨D, rfl, fD, gD, kD⟩ := hs
      obtain ⟨k1, k2⟩ := kD i hi
      obtain ⟨a1, a2⟩ := h2 i hi
      have v8 := zz_tr8 (zz_vc_at hv hi)
      refine ⟨(nI (i + 1), gx_sI (gx_sI D 69 i (zz_tr ((zz_ac ls).getD i (0, 0)))) 70 i ((zz_ac ls).getD i (0, 0)).2), ⟨_, rfl, (fD.sI rfl).sI rfl, fun j hj => ?_, fun j hj => ?_⟩, fun ag => ?_⟩
      · rw [zz_sI1, if_neg (by omega), zz_sI1, zz_sI1]
        by_cases c : j = i
        · rw [if_pos ⟨rfl, c⟩, if_pos ⟨rfl, c⟩, c]
          exact ⟨rfl, rfl⟩
        · rw [if_neg (fun q => c q.2), if_neg (fun q => c q.2), zz_sI1, if_neg (by omega)]
          exact gD j (by omega)
      · rw [zz_sI1, if_neg (by omega), zz_sI1, if_neg (by omega), zz_sI1, if_neg (by omega), zz_sI1, if_neg (by omega)]
        exact kD j hj
      · dsimp only
        unfold f_X8_readText_k105
        rw [fD.2 57 19 rfl, h1, if_neg (show ¬ nI (zz_ac ls).length ≤ nI i by rw [zz_le (by omega) (by omega)]; omega), show (130 : Int32) * 0 = nI 0 from rfl, show (130 : Int32) = nI 130 from rfl, zz_add, zz_add, Nat.zero_add, zz_gi (show 130 + i < 260 by omega) (by decide), zz_gi (show i < 260 by omega) (by decide), zz_cl (show 130 + i < 2147483648 by omega), zz_cl (show i < 2147483648 by omega), k1, a1, v8, zz_let, zz_gi (show 130 + i < 260 by omega) (by decide), zz_gi (show i < 260 by omega) (by decide), zz_sI1, if_neg (by omega), k2, a2, zz_let, show nI i + 1 = nI (i + 1) from zz_add i 1, zz_let]) (fun s hs ag => by
      obtain ⟨D, rfl, fD, gD, kD⟩ := hs
      dsimp only
      unfold f_X8_readText_k105
      rw [fD.2 57 19 rfl, h1, if_pos (nI_le (Nat.le_refl _) (by omega)), zz_gd (show gx_in (0 : Int32) 2 = true by decide), show D.1 71 (1 : Int32).toNatClampNeg = nI ls.length from (fD.2 71 1 rfl).trans h71, zz_let]
      rfl)
  have tE : zz_tb (gx_sI D 71 0 (nI ls.length)) ls := fun i hi => by
    rw [zz_sI1, if_neg (by omega), zz_sI1, if_neg (by omega), fD.2 72 _ rfl, fD.2 73 _ rfl]
    exact ht i hi
  obtain ⟨F, f1, f2, f3⟩ := zz_copy177 (M := gx_sI D 71 0 (nI ls.length)) hl ha rfl tE
  refine ⟨F, e.trans f1, ?_, ?_, f3, fun j hj => ?_⟩
  · refine ((fD.mono (S2 := zz_S10) (fun k i q => ?_)).sI rfl).tr (f2.mono (fun k i q => ?_))
    · simp at q; rcases q with rfl | rfl <;> rfl
    · simp at q; rcases q with rfl | rfl <;> rfl
  · rw [f2.2 71 0 rfl]; rfl
  · rw [f2.2 69 j rfl, f2.2 70 j rfl, zz_sI1, if_neg (by omega), zz_sI1, if_neg (by omega)]
    exact gD j hj
theorem zz_lns_wf {b : Nat → Int32} {sz : Nat} (hb : ∀ p, sz ≤ p → b p = -1) : ∀ k p ls q l, p ≤ sz → (∀ x, x ∈ ls → zz_lwf x) → zz_lns b sz k p ls = (q, some l) → ∀ x, x ∈ l → zz_lwf x
  | 0, p, ls, q, l, hp, h, e => by cases e
  | k + 1, p, ls, q, l, hp, h, e => by
    have g := zz_ln_gp hb hp
    unfold zz_lns at e
    rcases hr : zz_ln b p with ⟨q1, r'⟩
    rw [hr] at g e
    cases r' with
    | none => cases e
    | some l1 =>
      obtain ⟨g1, g2, -, -, g5⟩ := g
      dsimp only at g1 g2 e
      have h2 : ∀ x, x ∈ ls ++ [l1] → zz_lwf x := fun x hx => by
        rw [List.mem_append, List.mem_singleton] at hx
        rcases hx with hx | rfl
        · exact h x hx
        · exact g5
      by_cases c1 : sz ≤ q1
      · rw [if_pos c1] at e
        cases e
        exact h2
      · rw [if_neg c1] at e
        by_cases c2 : b q1 = 59
        · rw [if_pos c2] at e
          exact zz_lns_wf hb k (q1 + 1) (ls ++ [l1]) q l (by omega) h2 e
        · rw [if_neg c2] at e
          cases e
theorem zz_ac_vc : ∀ (ls : List (List (Int32 × Int32) × List (Int32 × Int32))), (∀ x, x ∈ ls → zz_lwf x) → ∀ s, s ∈ zz_ac ls → zz_vc s
  | [], _, s, hs => by cases hs
  | l :: ls, h, s, hs => by
    have hs : s ∈ l.1 ++ l.2 ++ zz_ac ls := hs
    rw [List.mem_append, List.mem_append] at hs
    obtain ⟨h1, h2⟩ := h l (List.mem_cons_self)
    rcases hs with (hs | hs) | hs
    · rcases h1 with h1 | h1
      · rw [h1] at hs; cases hs
      · exact h1.1 s hs
    · exact h2.1 s hs
    · exact zz_ac_vc ls (fun x hx => h x (List.mem_cons_of_mem _ hx)) s hs
/-- the model reads a text -/
theorem zz_readText8 {A : gx_Mem} {sz : Nat} (hA : A.1 57 15 = nI sz) (hs : sz ≤ 120) :
    match zz_lns (zz_b8 A sz) sz 121 0 [] with
    | (q, none) => q ≤ sz ∧ ∃ M2, f_X8_readText 0 A = some (nI q, gx_sI M2 57 15 0) ∧ zz_fr zz_S9 A M2
    | (_, some ls) => ∃ M2 D, f_X8_readText 0 A = some (-1, D) ∧ zz_fr zz_S9 A M2 ∧ zz_fr zz_S10 (gx_sI M2 57 15 0) D ∧ zz_ml D ls ∧ ls.length ≤ 61 ∧ (zz_ac ls).length ≤ 120 := by
  generalize hM : gx_sI (gx_sI (gx_sI (gx_sI (gx_sI A 57 16 0) 57 17 (-1)) 57 18 0) 57 19 0) 71 1 0 = M
  have e0 : f_X8_readText 0 A = gx_bP (f_X8_line M) (fun M7 => f_X8_readText_l31 0 gx_fuel M7) := by
    rw [← hM]; rfl
  have m0 : zz_m8 A M 0 [] := by
    rw [← hM]
    exact ⟨((((zz_fr.rf.sI rfl).sI rfl).sI rfl).sI rfl).sI rfl, rfl, rfl, rfl, ⟨rfl, fun i hi => absurd hi (Nat.not_lt_zero i)⟩, rfl, fun i hi => absurd hi (Nat.not_lt_zero i)⟩
  have L := zz_lines8 hA hs 121 M 0 [] gx_fuel (by decide) (by decide) m0 (Nat.le_refl _) (Nat.le_refl _) (Nat.zero_le _)
  have wf := zz_lns_wf (zz_b8_out A sz) 121 0 []
  rcases hr : zz_lns (zz_b8 A sz) sz 121 0 [] with ⟨q, r'⟩
  rw [hr] at L
  cases r' with
  | none =>
    obtain ⟨M2, l1, l2, l3, l4, l5⟩ := L
    refine ⟨l4, ?_⟩
    rw [e0, l1]
    unfold f_X8_readText_b64 f_X8_readText_b86
    rcases l5 with l5 | ⟨l5, l6⟩
    · rw [if_pos (show 0 ≤ M2.1 57 17 by rw [l5]; exact nI_pos' (by omega)), zz_let, if_neg (show ¬ (gx_sI M2 57 15 0).1 57 17 < 0 by show ¬ M2.1 57 17 < 0; rw [l5]; exact nI_pos (by omega))]
      refine ⟨M2, ?_, l2⟩
      show some (M2.1 57 17, _) = _
      rw [l5]
    · have w : f_X8_wrong M2 = some (gx_sI M2 57 17 (nI q)) := by
        unfold f_X8_wrong
        rw [if_neg (show ¬ 0 ≤ M2.1 57 17 by rw [l5]; decide), l3, zz_let]
      rw [if_neg (show ¬ 0 ≤ M2.1 57 17 by rw [l5]; decide), l2.2 57 15 rfl, hA, l3, if_neg (show ¬ nI sz ≤ nI q by rw [zz_le (by omega) (by omega)]; omega), w, zz_bPs, zz_let, if_neg (show ¬ (gx_sI (gx_sI M2 57 17 (nI q)) 57 15 0).1 57 17 < 0 from nI_pos (by omega))]
      exact ⟨gx_sI M2 57 17 (nI q), rfl, l2.sI rfl⟩
  | some ls =>
    obtain ⟨M2, l1, ⟨m1, m2, m3, m4, m5, m6, m7⟩, l3, l4, l5, l6⟩ := L
    have hv := zz_ac_vc ls (wf q ls (Nat.zero_le _) (fun x hx => by cases hx) hr)
    obtain ⟨D, d1, d2, d3⟩ := zz_copy105 (M := gx_sI M2 57 15 0) l6 (show (zz_ac ls).length ≤ 121 by omega) hv (m5.go 15 (by decide) _) m6 (fun i hi => m7 i hi)
    refine ⟨M2, D, ?_, m1, d2, d3, l6, by omega⟩
    rw [e0, l1]
    unfold f_X8_readText_b64 f_X8_readText_b86
    rw [if_neg (show ¬ 0 ≤ M2.1 57 17 by rw [m3]; decide), m1.2 57 15 rfl, hA, m2, if_pos (nI_le l3 (by omega)), zz_let, if_pos (show (gx_sI M2 57 15 0).1 57 17 < 0 by show M2.1 57 17 < 0; rw [m3]; decide)]
    exact d1

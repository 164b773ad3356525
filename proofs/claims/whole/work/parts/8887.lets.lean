theorem zz_leapC {nm : Nat → Int32} {post : List (Int32 × Int32)} : ∀ (l pre : List (Int32 × Int32)) (M : gx_Mem), zz_cc M (pre ++ (l ++ post)) nm → (∀ s, s ∈ l → ¬ s.1 = 59) → ∀ F, f_X3_worth_l6 (F + l.length) (nI 0) 1 (nI pre.length) M = f_X3_worth_l6 F (nI 0) 1 (nI (pre.length + l.length)) M
  | [], pre, M, hc, hv, F => rfl
  | s :: l, pre, M, hc, hv, F => by
    show f_X3_worth_l6 (F + l.length + 1) (nI 0) 1 (nI pre.length) M = _
    obtain ⟨h1, h2, h3, h4⟩ := id hc
    have hk : pre.length < (pre ++ (s :: l ++ post)).length := by rw [List.length_append]; show _ < _ + ((l ++ post).length + 1); omega
    have e1 := (h3 pre.length hk).1
    rw [show pre ++ (s :: l ++ post) = pre ++ s :: (l ++ post) from rfl, zz_gD3] at e1
    have step : f_X3_worth_l6 (F + l.length + 1) (nI 0) 1 (nI pre.length) M = f_X3_worth_l6 (F + l.length) (nI 0) 1 (nI (pre.length + 1)) M := by
      rw [zz_l6s]
      unfold f_X3_worth_k6 f_X3_worth_b45 f_X3_worth_b292
      rw [h1, if_neg (show ¬ nI (pre ++ (s :: l ++ post)).length ≤ nI pre.length by rw [zz_le (by omega) (by omega)]; omega), if_neg (show ¬ (128 : Int32) ≤ nI pre.length by rw [show (128 : Int32) = nI 128 from rfl, zz_le (by decide) (by omega)]; omega), zz_gi (show pre.length < 128 by omega) (by decide), zz_cl (show pre.length < 2147483648 by omega), e1, zz_let, if_neg (show ¬ (1 : Int32) = 0 by decide), if_neg (hv s (List.mem_cons_self)), zz_let, show nI pre.length + 1 = nI (pre.length + 1) from zz_add _ 1]
    rw [step]
    have eq : pre ++ (s :: l ++ post) = (pre ++ [s]) ++ (l ++ post) := by simp
    rw [eq] at hc
    have := zz_leapC l (pre ++ [s]) M hc (fun x hx => hv x (List.mem_cons_of_mem _ hx)) F
    rw [List.length_append] at this
    refine this.trans ?_
    show _ = f_X3_worth_l6 F (nI 0) 1 (nI (pre.length + (l.length + 1))) M
    rw [show pre.length + [s].length + l.length = pre.length + (l.length + 1) by show pre.length + 1 + l.length = _; omega]
theorem zz_sgnC {M : gx_Mem} {pre post : List (Int32 × Int32)} {s : Int32} {nm : Nat → Int32} {v : Int32} (hc : zz_cc M (pre ++ (s, 0) :: post) nm) (hp : zz_pil 3 M [v]) : (s = 59 → ∀ ag, f_X3_worth_k6 ag (nI 1) 0 (nI pre.length) M = some (v, M)) ∧ (s = 63 → ∀ ag, f_X3_worth_k6 ag (nI 1) 0 (nI pre.length) M = if v = 0 then ag (nI 0) 1 (nI (pre.length + 1)) M else ag (nI 0) 0 (nI (pre.length + 1)) M) ∧ (s = 59 → ∀ ag, f_X3_worth_k6 ag (nI 0) 1 (nI pre.length) M = ag (nI 0) 0 (nI (pre.length + 1)) M) := by
  obtain ⟨h1, h2, h3, h4⟩ := hc
  have hk : pre.length < (pre ++ (s, 0) :: post).length := by rw [List.length_append]; show _ < _ + (post.length + 1); omega
  have e1 := (h3 pre.length hk).1
  rw [zz_gD3] at e1
  have p0 : M.1 3 0 = v := hp.1
  have e1 : M.1 1 pre.length = s := e1
  refine ⟨fun hs ag => ?_, fun hs ag => ?_, fun hs ag => ?_⟩
  · subst hs
    unfold f_X3_worth_k6
    rw [h1, if_neg (show ¬ nI (pre ++ ((59 : Int32), (0 : Int32)) :: post).length ≤ nI pre.length by rw [zz_le (by omega) (by omega)]; omega), if_neg (show ¬ (128 : Int32) ≤ nI pre.length by rw [show (128 : Int32) = nI 128 from rfl, zz_le (by decide) (by omega)]; omega), zz_gi (show pre.length < 128 by omega) (by decide), zz_cl (show pre.length < 2147483648 by omega), e1, zz_let, if_pos rfl, if_neg (show ¬ (59 : Int32) = 35 by decide), if_neg (show ¬ (59 : Int32) = 36 by decide)]
    unfold f_X3_isSingle f_X3_worth_b152
    rw [if_pos rfl, zz_bPs, if_neg (show ¬ (1 : Int32) = 0 by decide), if_pos (show (1 : Int32) ≤ nI 1 by decide), if_pos rfl, show nI 1 - (1 : Int32) = nI 0 from nI_pred 0, zz_gi (show 0 < 128 by decide) (by decide), zz_cl (show 0 < 2147483648 by decide), p0]
  · subst hs
    unfold f_X3_worth_k6
    rw [h1, if_neg (show ¬ nI (pre ++ ((63 : Int32), (0 : Int32)) :: post).length ≤ nI pre.length by rw [zz_le (by omega) (by omega)]; omega), if_neg (show ¬ (128 : Int32) ≤ nI pre.length by rw [show (128 : Int32) = nI 128 from rfl, zz_le (by decide) (by omega)]; omega), zz_gi (show pre.length < 128 by omega) (by decide), zz_cl (show pre.length < 2147483648 by omega), e1, zz_let, if_pos rfl, if_neg (show ¬ (63 : Int32) = 35 by decide), if_neg (show ¬ (63 : Int32) = 36 by decide)]
    unfold f_X3_isSingle f_X3_worth_b152 f_X3_worth_b197 f_X3_worth_b292
    rw [if_neg (show ¬ (63 : Int32) = 59 by decide), if_pos rfl, zz_bPs, if_neg (show ¬ (1 : Int32) = 0 by decide), if_pos (show (1 : Int32) ≤ nI 1 by decide), if_neg (show ¬ (63 : Int32) = 59 by decide), if_pos rfl, show nI 1 + (-1 : Int32) = nI 0 from pk_m1 0, zz_let, zz_gi (show 0 < 128 by decide) (by decide), zz_cl (show 0 < 2147483648 by decide), p0, show nI pre.length + 1 = nI (pre.length + 1) from zz_add _ 1, zz_let, zz_let]
  · subst hs
    unfold f_X3_worth_k6 f_X3_worth_b45 f_X3_worth_b292
    rw [h1, if_neg (show ¬ nI (pre ++ ((59 : Int32), (0 : Int32)) :: post).length ≤ nI pre.length by rw [zz_le (by omega) (by omega)]; omega), if_neg (show ¬ (128 : Int32) ≤ nI pre.length by rw [show (128 : Int32) = nI 128 from rfl, zz_le (by decide) (by omega)]; omega), zz_gi (show pre.length < 128 by omega) (by decide), zz_cl (show pre.length < 2147483648 by omega), e1, zz_let, if_neg (show ¬ (1 : Int32) = 0 by decide), if_pos rfl, zz_let, show nI pre.length + 1 = nI (pre.length + 1) from zz_add _ 1]
theorem zz_vc59 {s : Int32 × Int32} (h : zz_vc s) : ¬ s.1 = 59 := by
  rcases h with h | ⟨h, -⟩ | h | h | h
  · rw [h]; decide
  · rw [h]; decide
  · rw [h]; decide
  · rw [h]; decide
  · exact (zz_lvN h).2.2.2.2.1
theorem zz_linesC {nm : Nat → Int32} : ∀ (ls : List (List (Int32 × Int32) × List (Int32 × Int32))) (pre : List (Int32 × Int32)) (M : gx_Mem), zz_cc M (pre ++ zz_fls ls) nm → (∀ x, x ∈ ls → zz_lwf x) → ∀ F, (zz_fls ls).length < F → ∃ M2, f_X3_worth_l6 F (nI 0) 0 (nI pre.length) M = some (zz_lval nm ls, M2) ∧ zz_fr zz_S3 M M2
  | [], pre, M, hc, hw, F, hF => by
    obtain ⟨F, rfl⟩ : ∃ G, F = G + 1 := ⟨F - 1, by omega⟩
    refine ⟨M, ?_, zz_fr.rf⟩
    rw [zz_l6s]
    unfold f_X3_worth_k6
    have e : (pre ++ zz_fls []).length = pre.length := by
      show (pre ++ []).length = _
      rw [List.append_nil]
    have h2 := hc.2.1
    rw [hc.1, e, if_pos (nI_le (Nat.le_refl _) (by omega))]
    rfl
  | (t, c) :: ls, pre, M, hc, hw, F, hF => by
    obtain ⟨w1, w2⟩ := hw (t, c) (List.mem_cons_self)
    have hwl : ∀ x, x ∈ ls → zz_lwf x := fun x hx => hw x (List.mem_cons_of_mem _ hx)
    have hlen := hc.2.1
    by_cases ht : t = []
    · subst ht
      have ef : zz_fls (([], c) :: ls) = c ++ ((59, 0) :: zz_fls ls) := by
        show zz_fl ([], c) ++ zz_fls ls = _
        unfold zz_fl
        dsimp only
        rw [if_pos rfl, List.nil_append, List.append_assoc]
        rfl
      rw [ef] at hc hF hlen
      simp only [List.length_append, List.length_cons] at hlen hF
      obtain ⟨A, a1, a2, a3⟩ := zz_runC c pre M [] [zz_val nm c] hc trivial w2.1 (zz_val_run w2 []) (by show 0 + c.length ≤ 128; omega)
      have hcA := hc.fr a2
      rw [← List.append_assoc] at hcA
      have s1 := (zz_sgnC hcA a3).1 rfl
      rw [List.length_append] at s1
      obtain ⟨G, rfl⟩ : ∃ G, F = G + 1 + c.length := ⟨F - c.length - 1, by omega⟩
      refine ⟨A, ?_, a2⟩
      refine (a1 (G + 1)).trans ?_
      show f_X3_worth_l6 (G + 1) (nI 1) 0 (nI (pre.length + c.length)) A = _
      rw [zz_l6s, s1]
      show _ = some (if [] = [] then zz_val nm c else _, A)
      rw [if_pos rfl]
    · have wt := w1.resolve_left ht
      have ef : zz_fls ((t, c) :: ls) = t ++ ((63, 0) :: (c ++ ((59, 0) :: zz_fls ls))) := by
        show zz_fl (t, c) ++ zz_fls ls = _
        unfold zz_fl
        dsimp only
        rw [if_neg ht]
        simp only [List.append_assoc]
        rfl
      rw [ef] at hc hF hlen
      simp only [List.length_append, List.length_cons] at hlen hF
      obtain ⟨A, a1, a2, a3⟩ := zz_runC t pre M [] [zz_val nm t] hc trivial wt.1 (zz_val_run wt []) (by show 0 + t.length ≤ 128; omega)
      have hcA := hc.fr a2
      rw [← List.append_assoc] at hcA
      have s1 := (zz_sgnC hcA a3).2.1 rfl
      rw [List.length_append] at s1
      have eq2 : pre ++ t ++ (63, 0) :: (c ++ (59, 0) :: zz_fls ls) = (pre ++ t ++ [(63, 0)]) ++ (c ++ ((59, 0) :: zz_fls ls)) := by simp
      have hcA2 := hcA
      rw [eq2] at hcA2
      have l2 : (pre ++ t ++ [((63 : Int32), (0 : Int32))]).length = pre.length + t.length + 1 := by simp only [List.length_append, List.length_cons, List.length_nil]
      obtain ⟨G, rfl⟩ : ∃ G, F = G + 1 + c.length + 1 + t.length := ⟨F - t.length - c.length - 2, by omega⟩
      have e1 : f_X3_worth_l6 (G + 1 + c.length + 1 + t.length) (nI 0) 0 (nI pre.length) M = if zz_val nm t = 0 then f_X3_worth_l6 (G + 1 + c.length) (nI 0) 1 (nI (pre.length + t.length + 1)) A else f_X3_worth_l6 (G + 1 + c.length) (nI 0) 0 (nI (pre.length + t.length + 1)) A := by
        refine (a1 (G + 1 + c.length + 1)).trans ?_
        show f_X3_worth_l6 (G + 1 + c.length + 1) (nI 1) 0 (nI (pre.length + t.length)) A = _
        rw [zz_l6s, s1]
      have hv : zz_lval nm ((t, c) :: ls) = if zz_val nm t = 0 then zz_lval nm ls else zz_val nm c := by
        show (if t = [] then _ else _) = _
        rw [if_neg ht]
      rw [e1, hv]
      by_cases v0 : zz_val nm t = 0
      · rw [if_pos v0, if_pos v0]
        have lp := zz_leapC c (pre ++ t ++ [(63, 0)]) A hcA2 (fun s hs => zz_vc59 (w2.1 s hs)) (G + 1)
        rw [l2] at lp
        have eq3 : pre ++ t ++ [(63, 0)] ++ (c ++ (59, 0) :: zz_fls ls) = (pre ++ t ++ [(63, 0)] ++ c) ++ ((59, 0) :: zz_fls ls) := by simp
        have hcA3 := hcA2
        rw [eq3] at hcA3
        have l3 : (pre ++ t ++ [((63 : Int32), (0 : Int32))] ++ c).length = pre.length + t.length + 1 + c.length := by rw [List.length_append, l2]
        have s3 := (zz_sgnC hcA3 a3).2.2 rfl
        rw [l3] at s3
        have eq4 : (pre ++ t ++ [(63, 0)] ++ c) ++ ((59, 0) :: zz_fls ls) = (pre ++ t ++ [(63, 0)] ++ c ++ [(59, 0)]) ++ zz_fls ls := by simp
        rw [eq4] at hcA3
        have l4 : (pre ++ t ++ [((63 : Int32), (0 : Int32))] ++ c ++ [((59 : Int32), (0 : Int32))]).length = pre.length + t.length + 1 + c.length + 1 := by rw [List.length_append, l3]; rfl
        obtain ⟨B, b1, b2⟩ := zz_linesC ls (pre ++ t ++ [(63, 0)] ++ c ++ [(59, 0)]) A hcA3 hwl G (by omega)
        rw [l4] at b1
        refine ⟨B, ?_, a2.tr b2⟩
        rw [lp, zz_l6s, s3]
        exact b1
      · rw [if_neg v0, if_neg v0]
        obtain ⟨B, b1, b2, b3⟩ := zz_runC c (pre ++ t ++ [(63, 0)]) A [] [zz_val nm c] hcA2 trivial w2.1 (zz_val_run w2 []) (by show 0 + c.length ≤ 128; omega)
        have hcB := hcA2.fr b2
        rw [← List.append_assoc] at hcB
        have s3 := (zz_sgnC hcB b3).1 rfl
        rw [List.length_append, l2] at s3
        have b1 := b1 (G + 1)
        rw [l2] at b1
        refine ⟨B, ?_, a2.tr b2⟩
        refine b1.trans ?_
        show f_X3_worth_l6 (G + 1) (nI 1) 0 (nI (pre.length + t.length + 1 + c.length)) B = _
        rw [zz_l6s, s3]
/-! held within 0 .. a -/
def zz_clp (a : Nat) (x : Int32) : Nat := if x < 0 then 0 else min a x.toNatClampNeg
theorem zz_clp_le (a : Nat) (x : Int32) : zz_clp a x ≤ a := by
  unfold zz_clp
  split <;> omega
theorem zz_clp7 {a : Nat} (ha : a ≤ 1000) (x : Int32) : gx_max 0 (gx_min (nI a) x) = nI (zz_clp a x) := by
  unfold zz_clp
  by_cases h : x < 0
  · rw [if_pos h]
    have e : gx_min (nI a) x = x := by
      unfold gx_min
      rw [if_pos (by rw [zz_ltI, zz_t0] at h; rw [zz_ltI, nI_toInt (by omega)]; omega)]
    rw [e]
    unfold gx_max
    rw [if_neg (by rw [zz_ltI, zz_t0] at h ⊢; omega)]
    rfl
  · obtain ⟨j, hj, rfl⟩ := nI_of h
    rw [if_neg h, zz_min (by omega) hj, show (0 : Int32) = nI 0 from rfl, zz_max (by decide) (by omega), zz_cl hj, Nat.zero_max]
theorem zz_clp8 {a : Nat} (ha : a ≤ 1000) (x : Int32) (M : gx_Mem) : f_X8_runOf_b89 (nI a) x M = some (nI (zz_clp a x), M) := by
  unfold f_X8_runOf_b89 zz_clp
  by_cases h : x < 0
  · rw [if_pos h, if_neg (by rw [zz_ltI, zz_t0] at h; rw [zz_leI, zz_t0]; omega)]
    rfl
  · obtain ⟨j, hj, rfl⟩ := nI_of h
    rw [if_neg h, if_pos (nI_pos' hj), zz_cl hj]
    simp only [zz_le hj (show a < 2147483648 by omega)]
    by_cases c : j ≤ a
    · rw [if_pos c, show min a j = j by omega]
    · rw [if_neg c, show min a j = a by omega]
def zz_nmf (a w i f m n : Nat) (j : Nat) : Int32 := match j with
  | 0 => nI a
  | 1 => nI w
  | 2 => nI i
  | 3 => nI f
  | 4 => nI m
  | _ => nI n
def zz_lvT (ls : List (List (Int32 × Int32) × List (Int32 × Int32))) (a w i f m n : Nat) : Nat := zz_clp a (zz_lval (zz_nmf a w i f m n) ls)
/-- the class lets run on what the text says -/
theorem zz_lets7 {M : gx_Mem} {ls : List (List (Int32 × Int32) × List (Int32 × Int32))} (h1 : M.1 0 4 = nI (zz_fls ls).length) (h2 : (zz_fls ls).length ≤ 128) (h0 : 0 < (zz_fls ls).length) (h3 : ∀ i, i < (zz_fls ls).length → M.1 1 i = ((zz_fls ls).getD i (0, 0)).1 ∧ M.1 2 i = ((zz_fls ls).getD i (0, 0)).2) (hw : ∀ x, x ∈ ls → zz_lwf x) {a w i f m n : Nat} (ha : a ≤ 1000) :
    ∃ M2, f_X3_lets (nI a) (nI w) (nI i) (nI f) (nI m) (nI n) M = some (nI (zz_lvT ls a w i f m n), M2) ∧ zz_fr zz_S34 M M2 := by
  generalize hB : gx_sI (gx_sI (gx_sI (gx_sI (gx_sI (gx_sI M 4 0 (nI a)) 4 1 (nI w)) 4 2 (nI i)) 4 3 (nI f)) 4 4 (nI m)) 4 5 (nI n) = B
  have fB : zz_fr zz_S34 M B := by rw [← hB]; exact (((((zz_fr.rf.sI rfl).sI rfl).sI rfl).sI rfl).sI rfl).sI rfl
  have b4 : ∀ j, j < 6 → B.1 4 j = zz_nmf a w i f m n j := by
    intro j hj
    rw [← hB]
    match j, hj with
    | 0, _ => rfl
    | 1, _ => rfl
    | 2, _ => rfl
    | 3, _ => rfl
    | 4, _ => rfl
    | 5, _ => rfl
  have hc : zz_cc B ([] ++ zz_fls ls) (zz_nmf a w i f m n) := ⟨(fB.2 0 4 rfl).trans h1, h2, fun i hi => by rw [fB.2 1 i rfl, fB.2 2 i rfl]; exact h3 i hi, b4⟩
  obtain ⟨C, c1, c2⟩ := zz_linesC ls [] B hc hw gx_fuel (by unfold gx_fuel; omega)
  refine ⟨C, ?_, fB.tr (c2.mono (fun k i q => by simp [zz_S3] at q; subst q; rfl))⟩
  unfold f_X3_lets
  rw [h1, if_neg (show ¬ nI (zz_fls ls).length = 0 from nI_ne0 h0 (by omega))]
  simp only [zz_let]
  rw [show (0 : Int32).toNatClampNeg = 0 from rfl, show (1 : Int32).toNatClampNeg = 1 from rfl, show (2 : Int32).toNatClampNeg = 2 from rfl, show (3 : Int32).toNatClampNeg = 3 from rfl, show (4 : Int32).toNatClampNeg = 4 from rfl, show (5 : Int32).toNatClampNeg = 5 from rfl, hB]
  unfold f_X3_worth f_X3_lets_b70
  rw [show f_X3_worth_l6 gx_fuel (0 : Int32) 0 0 B = f_X3_worth_l6 gx_fuel (nI 0) 0 (nI ([] : List (Int32 × Int32)).length) B from rfl, c1, zz_bIs, zz_clp7 ha]
  rfl

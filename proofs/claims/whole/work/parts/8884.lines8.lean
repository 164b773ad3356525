/-! THE LAW: its lines on the model's side -/
def zz_ac : List (List (Int32 × Int32) × List (Int32 × Int32)) → List (Int32 × Int32)
  | [] => []
  | l :: ls => l.1 ++ l.2 ++ zz_ac ls
theorem zz_ac_app (l2 : List (List (Int32 × Int32) × List (Int32 × Int32))) : ∀ l, zz_ac (l ++ l2) = zz_ac l ++ zz_ac l2
  | [] => rfl
  | l :: ls => by
    show l.1 ++ l.2 ++ zz_ac (ls ++ l2) = l.1 ++ l.2 ++ zz_ac ls ++ zz_ac l2
    rw [zz_ac_app l2 ls, List.append_assoc (l.1 ++ l.2)]
theorem zz_ac_snoc (ls : List (List (Int32 × Int32) × List (Int32 × Int32))) (l : List (Int32 × Int32) × List (Int32 × Int32)) : zz_ac (ls ++ [l]) = zz_ac ls ++ (l.1 ++ l.2) := by
  rw [zz_ac_app]
  show zz_ac ls ++ (l.1 ++ l.2 ++ []) = _
  rw [List.append_nil]
def zz_S9 (k i : Nat) : Bool := zz_S8 k i || (k == 71 && i == 1) || (k == 72 && decide (61 ≤ i)) || (k == 73 && decide (61 ≤ i))
theorem zz_S8_S9 : ∀ k i, zz_S8 k i = true → zz_S9 k i = true := fun k i h => by unfold zz_S9; rw [h]; rfl
def zz_tb (M : gx_Mem) (ls : List (List (Int32 × Int32) × List (Int32 × Int32))) : Prop := ∀ i, i < ls.length → M.1 72 (61 + i) = nI ((zz_ac (ls.take i)).length + (ls.getD i ([], [])).1.length) ∧ M.1 73 (61 + i) = nI (zz_ac (ls.take (i + 1))).length
def zz_m8 (A M : gx_Mem) (p : Nat) (ls : List (List (Int32 × Int32) × List (Int32 × Int32))) : Prop := zz_fr zz_S9 A M ∧ M.1 57 16 = nI p ∧ M.1 57 17 = -1 ∧ M.1 57 18 = nI 0 ∧ zz_hs8 M (zz_ac ls) ∧ M.1 71 1 = nI ls.length ∧ zz_tb M ls
theorem zz_16 : ∀ c, c < 256 → (nI c).toInt16.toInt32 = nI c := by decide +kernel
theorem zz_16b {c : Nat} (h : c < 256) : ((nI c).toInt16.toInt32).toInt16.toInt32 = nI c := by rw [zz_16 c h, zz_16 c h]
theorem zz_hs8.o {M : gx_Mem} {acc : List (Int32 × Int32)} (h : zz_hs8 M acc) {k i : Nat} (hk : k ≠ 57) (hk2 : k ≠ 69) (hk3 : k ≠ 70) (v : Int32) : zz_hs8 (gx_sI M k i v) acc := by
  refine ⟨?_, fun j hj => ?_⟩
  · rw [zz_sI1, if_neg (by omega)]; exact h.1
  · rw [zz_sI1, if_neg (by omega), zz_sI1, if_neg (by omega)]; exact h.2 j hj
theorem zz_tb_snoc {M M2 : gx_Mem} {ls : List (List (Int32 × Int32) × List (Int32 × Int32))} (l : List (Int32 × Int32) × List (Int32 × Int32)) (h : zz_tb M ls) (e1 : ∀ i, i < ls.length → M2.1 72 (61 + i) = M.1 72 (61 + i) ∧ M2.1 73 (61 + i) = M.1 73 (61 + i)) (e2 : M2.1 72 (61 + ls.length) = nI ((zz_ac ls).length + l.1.length)) (e3 : M2.1 73 (61 + ls.length) = nI (zz_ac (ls ++ [l])).length) : zz_tb M2 (ls ++ [l]) := by
  intro i hi
  rw [List.length_append] at hi
  have hi : i < ls.length + 1 := hi
  by_cases c : i = ls.length
  · subst c
    rw [e2, e3]
    have t1 : (ls ++ [l]).take ls.length = ls := by simp
    have t2 : (ls ++ [l]).take (ls.length + 1) = ls ++ [l] := by
      rw [List.take_of_length_le]
      rw [List.length_append]
      exact Nat.le_refl _
    have t3 : (ls ++ [l]).getD ls.length ([], []) = l := by
      rw [List.getD_eq_getElem?_getD, List.getElem?_append_right (Nat.le_refl _), Nat.sub_self]
      rfl
    rw [t1, t2, t3]
    exact ⟨rfl, rfl⟩
  · have hi2 : i < ls.length := by omega
    obtain ⟨a, b⟩ := h i hi2
    rw [(e1 i hi2).1, (e1 i hi2).2, a, b]
    have t1 : (ls ++ [l]).take i = ls.take i := List.take_append_of_le_length (by omega)
    have t2 : (ls ++ [l]).take (i + 1) = ls.take (i + 1) := List.take_append_of_le_length (by omega)
    have t3 : (ls ++ [l]).getD i ([], []) = ls.getD i ([], []) := by
      rw [List.getD_eq_getElem?_getD, List.getD_eq_getElem?_getD, List.getElem?_append_left hi2]
    rw [t1, t2, t3]
    exact ⟨rfl, rfl⟩
theorem zz_b8_cong {A M : gx_Mem} (sz : Nat) (h : ∀ i, M.1 68 i = A.1 68 i) : zz_b8 M sz = zz_b8 A sz := by
  funext p
  unfold zz_b8
  rw [h p]
/-- either(), at a place, with a base of its own -/
theorem zz_ei8 {M : gx_Mem} {sz p : Nat} {acc : List (Int32 × Int32)} (hs : sz ≤ 120) (h15 : M.1 57 15 = nI sz) (h16 : M.1 57 16 = nI p) (h17 : M.1 57 17 = -1) (h18 : M.1 57 18 = nI 0) (hh : zz_hs8 M acc) (hacc : acc.length ≤ p) (hp : p ≤ sz) :
    match zz_sp (zz_b8 M sz) gx_dep 0 0 p with
    | (q, none) => ∃ M2, f_X8_either gx_dep M = some M2 ∧ zz_fr zz_S8 M M2 ∧ M2.1 57 16 = nI q ∧ M2.1 57 17 = nI q
    | (q, some c) => ∃ M2, f_X8_either gx_dep M = some M2 ∧ zz_fr zz_S8 M M2 ∧ M2.1 57 16 = nI q ∧ M2.1 57 17 = -1 ∧ M2.1 57 18 = nI 0 ∧ zz_hs8 M2 (acc ++ c) := by
  have r := zz_read8 h15 hs gx_dep gx_dep 0 0 (Nat.le_refl _) (by decide) (by decide) (by decide) M p acc ⟨zz_fr.rf, h16, h17, h18⟩ hh hacc hp
  rcases hr : zz_sp (zz_b8 M sz) gx_dep 0 0 p with ⟨q, r'⟩
  rw [hr] at r
  cases r' with
  | none =>
    obtain ⟨M2, r1, x1, x2, x3, -⟩ := r
    exact ⟨M2, r1, x1, x2, x3⟩
  | some c =>
    obtain ⟨M2, r1, ⟨x1, x2, x3, x4⟩, x5⟩ := r
    exact ⟨M2, r1, x1, x2, x3, x4, x5⟩
theorem zz_S9_ne : ∀ i, i < 62 → zz_S9 72 (61 + i) = true ∧ zz_S9 73 (61 + i) = true ∧ zz_S9 71 1 = true ∧ zz_S8 72 (61 + i) = false ∧ zz_S8 73 (61 + i) = false ∧ zz_S8 71 1 = false := by decide
theorem zz_line8 {A M : gx_Mem} {sz p : Nat} {ls : List (List (Int32 × Int32) × List (Int32 × Int32))} (hA : A.1 57 15 = nI sz) (hs : sz ≤ 120) (hm : zz_m8 A M p ls) (hacc : (zz_ac ls).length ≤ p) (hl : ls.length ≤ 60) (hp : p ≤ sz) :
    match zz_ln (zz_b8 A sz) p with
    | (q, none) => ∃ M2, f_X8_line M = some M2 ∧ zz_fr zz_S9 A M2 ∧ M2.1 57 16 = nI q ∧ M2.1 57 17 = nI q
    | (q, some l) => ∃ M2, f_X8_line M = some M2 ∧ zz_m8 A M2 q (ls ++ [l]) := by
  obtain ⟨h1, h2, h3, h4, h5, h6, h7⟩ := hm
  have nn := zz_S9_ne ls.length (by omega)
  have hb : ∀ p, sz ≤ p → zz_b8 A sz p = -1 := zz_b8_out A sz
  have g := zz_sp_gp hb gx_dep 0 0 p hp
  unfold f_X8_line zz_ln
  have laid : ∀ {N : gx_Mem} {c : Nat}, N.1 57 19 = nI c → c < 256 → ((N.1 57 19).toInt16.toInt32).toInt16.toInt32 = nI c := fun {N c} e hc => by rw [e, zz_16b hc]
  rw [show M.1 71 (1 : Int32).toNatClampNeg = nI ls.length from h6, show (61 : Int32) = nI 61 from rfl, zz_add, zz_let, zz_gi (show 61 + ls.length < 122 by omega) (by decide), zz_cl (show 61 + ls.length < 2147483648 by omega), laid h5.1 (by omega), zz_let]
  generalize hB : gx_sI M 72 (61 + ls.length) (nI (zz_ac ls).length) = B
  have fB : zz_fr zz_S9 A B := by rw [← hB]; exact h1.sI nn.1
  have hhB : zz_hs8 B (zz_ac ls) := by rw [← hB]; exact h5.o (by decide) (by decide) (by decide) _
  have b57 : ∀ i, B.1 57 i = M.1 57 i := fun i => by rw [← hB]; rfl
  have bB : zz_b8 B sz = zz_b8 A sz := zz_b8_cong sz (fun i => fB.2 68 i rfl)
  have r := zz_ei8 (M := B) (sz := sz) (p := p) hs ((fB.2 57 15 rfl).trans hA) ((b57 16).trans h2) ((b57 17).trans h3) ((b57 18).trans h4) hhB hacc hp
  rw [bB] at r
  have fin : ∀ N : gx_Mem, f_X8_line_b66 (nI (61 + ls.length)) N = some (gx_sI (gx_sI N 73 (61 + ls.length) (((N.1 57 19).toInt16.toInt32).toInt16.toInt32)) 71 1 (N.1 71 1 + 1)) := by
    intro N
    unfold f_X8_line_b66
    rw [zz_gi (show 61 + ls.length < 122 by omega) (by decide), zz_let, zz_cl (show 61 + ls.length < 2147483648 by omega), zz_let]
    rfl
  rcases hr : zz_sp (zz_b8 A sz) gx_dep 0 0 p with ⟨q, r'⟩
  rw [hr] at r g
  cases r' with
  | none =>
    obtain ⟨C, r1, r2, r3, r4⟩ := r
    obtain ⟨gg1, gg2⟩ := g
    dsimp only at gg1 gg2
    rw [r1, zz_bPs, if_pos (show 0 ≤ C.1 57 17 by rw [r4]; exact nI_pos' (by omega)), fin]
    exact ⟨_, rfl, ((fB.tr (r2.mono zz_S8_S9)).sI nn.2.1).sI rfl, r3, r4⟩
  | some c =>
    obtain ⟨C, r1, r2, r3, r4, r5, r6⟩ := r
    obtain ⟨g1, g2, g3, g4⟩ := g
    dsimp only at g1 g2 g3
    have fC := fB.tr (r2.mono zz_S8_S9)
    have c71 : C.1 71 1 = nI ls.length := (r2.2 71 1 rfl).trans (by rw [← hB]; exact h6)
    have c72 : C.1 72 (61 + ls.length) = nI (zz_ac ls).length := (r2.2 72 _ nn.2.2.2.1).trans (by rw [← hB, zz_sI1, if_pos ⟨rfl, rfl⟩])
    have cold : ∀ i, i < ls.length → C.1 72 (61 + i) = M.1 72 (61 + i) ∧ C.1 73 (61 + i) = M.1 73 (61 + i) := fun i hi => by
      have ni := zz_S9_ne i (by omega)
      rw [r2.2 72 _ ni.2.2.2.1, r2.2 73 _ ni.2.2.2.2.1, ← hB, zz_sI1, if_neg (by omega), zz_sI1, if_neg (by omega)]
      exact ⟨rfl, rfl⟩
    have hlen : (zz_ac ls ++ c).length ≤ q := by rw [List.length_append]; omega
    rw [r1, zz_bPs, if_neg (show ¬ 0 ≤ C.1 57 17 by rw [r4]; decide)]
    have lk : f_X8_look C = some (zz_b8 A sz q) := by
      have := zz_look8 (A := B) (M := C) (sz := sz) ((fB.2 57 15 rfl).trans hA) hs r2 r3 g2
      rw [bB] at this
      exact this
    rw [lk, zz_bPs]
    dsimp only
    by_cases c1 : zz_b8 A sz q = 63
    · rw [if_pos c1, if_pos c1, r3, show nI q + 1 = nI (q + 1) from zz_add q 1, zz_let, zz_gi (show 61 + ls.length < 122 by omega) (by decide), laid (N := gx_sI C 57 16 (nI (q + 1))) r6.1 (by omega), zz_let]
      have hq : q < sz := by
        rcases Nat.lt_or_ge q sz with w | w
        · exact w
        · rw [hb q w] at c1; exact absurd c1 (by decide)
      generalize hD : gx_sI (gx_sI C 57 16 (nI (q + 1))) 72 (61 + ls.length) (nI (zz_ac ls ++ c).length) = D
      have fD : zz_fr zz_S9 A D := by rw [← hD]; exact (fC.sI rfl).sI nn.1
      have hhD : zz_hs8 D (zz_ac ls ++ c) := by rw [← hD]; exact (r6.go 16 (by decide) _).o (by decide) (by decide) (by decide) _
      have d57 : ∀ i, i ≠ 16 → D.1 57 i = C.1 57 i := fun i hi => by rw [← hD, zz_sI1, if_neg (by omega), zz_sI1, if_neg (by omega)]
      have bD : zz_b8 D sz = zz_b8 A sz := zz_b8_cong sz (fun i => fD.2 68 i rfl)
      have gg := zz_sp_gp hb gx_dep 0 0 (q + 1) hq
      have rr := zz_ei8 (M := D) (sz := sz) (p := q + 1) hs ((fD.2 57 15 rfl).trans hA) (by rw [← hD]; rfl) ((d57 17 (by decide)).trans r4) ((d57 18 (by decide)).trans r5) hhD (by omega) hq
      rw [bD] at rr
      rcases hr2 : zz_sp (zz_b8 A sz) gx_dep 0 0 (q + 1) with ⟨q2, r2'⟩
      rw [hr2] at rr gg
      cases r2' with
      | none =>
        obtain ⟨E, e1, e2, e3, e4⟩ := rr
        rw [e1, zz_bPs, fin]
        exact ⟨_, rfl, ((fD.tr (e2.mono zz_S8_S9)).sI nn.2.1).sI rfl, e3, e4⟩
      | some c2 =>
        obtain ⟨E, e1, e2, e3, e4, e5, e6⟩ := rr
        obtain ⟨gg1, gg2, gg3, gg4⟩ := gg
        dsimp only at gg1 gg2 gg3
        have fE := fD.tr (e2.mono zz_S8_S9)
        have hl2 : (zz_ac ls ++ c ++ c2).length < 256 := by rw [List.length_append]; omega
        rw [e1, zz_bPs, fin, laid e6.1 hl2]
        have e71 : E.1 71 1 = nI ls.length := (e2.2 71 1 rfl).trans (by rw [← hD]; exact c71)
        have e72 : E.1 72 (61 + ls.length) = nI (zz_ac ls ++ c).length := (e2.2 72 _ nn.2.2.2.1).trans (by rw [← hD, zz_sI1, if_pos ⟨rfl, rfl⟩])
        have ea : zz_ac (ls ++ [(c, c2)]) = zz_ac ls ++ c ++ c2 := by rw [zz_ac_snoc, List.append_assoc]
        refine ⟨_, rfl, (fE.sI nn.2.1).sI rfl, e3, e4, e5, ?_, ?_, ?_⟩
        · rw [ea]
          exact (e6.o (by decide) (by decide) (by decide) _).o (by decide) (by decide) (by decide) _
        · rw [zz_sI1, if_pos ⟨rfl, rfl⟩, e71, List.length_append]
          exact zz_add _ 1
        · refine zz_tb_snoc (c, c2) h7 (fun i hi => ?_) ?_ ?_
          · have ni := zz_S9_ne i (by omega)
            rw [zz_sI1, if_neg (by omega), zz_sI1, if_neg (by omega), zz_sI1, if_neg (by omega), zz_sI1, if_neg (by omega), e2.2 72 _ ni.2.2.2.1, e2.2 73 _ ni.2.2.2.2.1, ← hD, zz_sI1, if_neg (by omega), zz_sI1, if_neg (by omega), zz_sI1, if_neg (by omega), zz_sI1, if_neg (by omega)]
            exact cold i hi
          · rw [zz_sI1, if_neg (by omega), zz_sI1, if_neg (by omega), e72, List.length_append]
          · rw [zz_sI1, if_neg (by omega), zz_sI1, if_pos ⟨rfl, rfl⟩, ea]
    · rw [if_neg c1, if_neg c1, fin, laid r6.1 (by omega)]
      have ea : zz_ac (ls ++ [([], c)]) = zz_ac ls ++ c := by rw [zz_ac_snoc]; rfl
      refine ⟨_, rfl, (fC.sI nn.2.1).sI rfl, r3, r4, r5, ?_, ?_, ?_⟩
      · rw [ea]
        exact (r6.o (by decide) (by decide) (by decide) _).o (by decide) (by decide) (by decide) _
      · rw [zz_sI1, if_pos ⟨rfl, rfl⟩, c71, List.length_append]
        exact zz_add _ 1
      · refine zz_tb_snoc ([], c) h7 (fun i hi => ?_) ?_ ?_
        · rw [zz_sI1, if_neg (by omega), zz_sI1, if_neg (by omega), zz_sI1, if_neg (by omega), zz_sI1, if_neg (by omega)]
          exact cold i hi
        · rw [zz_sI1, if_neg (by omega), zz_sI1, if_neg (by omega), c72]
          rfl
        · rw [zz_sI1, if_neg (by omega), zz_sI1, if_pos ⟨rfl, rfl⟩, ea]
theorem zz_lines8 {A : gx_Mem} {sz : Nat} (hA : A.1 57 15 = nI sz) (hs : sz ≤ 120) : ∀ k (M : gx_Mem) (p : Nat) (ls : List (List (Int32 × Int32) × List (Int32 × Int32))) (n : Nat), 121 ≤ p + k → k < n → zz_m8 A M p ls → (zz_ac ls).length ≤ p → 2 * ls.length ≤ p → p ≤ sz →
    match zz_lns (zz_b8 A sz) sz k p ls with
    | (q, none) => ∃ M2, gx_bP (f_X8_line M) (fun M7 => f_X8_readText_l31 0 n M7) = f_X8_readText_b64 0 M2 ∧ zz_fr zz_S9 A M2 ∧ M2.1 57 16 = nI q ∧ q ≤ sz ∧ (M2.1 57 17 = nI q ∨ (M2.1 57 17 = -1 ∧ q < sz))
    | (q, some l) => ∃ M2, gx_bP (f_X8_line M) (fun M7 => f_X8_readText_l31 0 n M7) = f_X8_readText_b64 0 M2 ∧ zz_m8 A M2 q l ∧ sz ≤ q ∧ q ≤ sz ∧ (zz_ac l).length ≤ q ∧ l.length ≤ 61 := by
  intro k
  induction k with
  | zero => intro M p ls n h1 _ _ _ _ h2; omega
  | succ k ih =>
    intro M p ls n hk hn hm hacc hl hp
    obtain ⟨n, rfl⟩ : ∃ m, n = m + 1 := ⟨n - 1, by omega⟩
    have hb := zz_b8_out A sz
    have hL := zz_line8 hA hs hm hacc (by omega) hp
    have gl := zz_ln_gp hb hp
    unfold zz_lns
    have e : ∀ N : gx_Mem, f_X8_readText_l31 0 (n + 1) N = f_X8_readText_k31 0 (fun M => f_X8_readText_l31 0 n M) N := fun N => rfl
    rcases hr : zz_ln (zz_b8 A sz) p with ⟨q, r'⟩
    rw [hr] at hL gl
    cases r' with
    | none =>
      obtain ⟨M2, r1, r2, r3, r4⟩ := hL
      obtain ⟨g1, g2⟩ := gl
      dsimp only at g1 g2
      refine ⟨M2, ?_, r2, r3, g2, .inl r4⟩
      rw [r1, zz_bPs, e]
      unfold f_X8_readText_k31
      rw [if_pos (show 0 ≤ M2.1 57 17 by rw [r4]; exact nI_pos' (by omega))]
    | some l =>
      obtain ⟨M2, r1, r2⟩ := hL
      obtain ⟨g1, g2, -, g4, -⟩ := gl
      dsimp only at g1 g2 g4
      obtain ⟨m1, m2, m3, m4, m5, m6, m7⟩ := id r2
      have hlen : (zz_ac (ls ++ [l])).length ≤ q := by
        rw [zz_ac_snoc, List.length_append, List.length_append]; omega
      have hll : (ls ++ [l]).length = ls.length + 1 := by rw [List.length_append]; rfl
      have lk : f_X8_look M2 = some (zz_b8 A sz q) := by
        unfold f_X8_look zz_b8
        rw [m2, m1.2 57 15 rfl, hA]
        simp only [zz_le (show sz < 2147483648 by omega) (show q < 2147483648 by omega)]
        by_cases c : q < sz
        · rw [if_neg (show ¬ sz ≤ q by omega), if_pos c, zz_gi (show q < 120 by omega) (by decide), zz_cl (show q < 2147483648 by omega), m1.2 68 q rfl]
        · rw [if_pos (show sz ≤ q by omega), if_neg c]
      have ek : gx_bP (f_X8_line M) (fun M7 => f_X8_readText_l31 0 (n + 1) M7) = if zz_b8 A sz q = 59 then gx_bP (f_X8_line (gx_sI M2 57 16 (nI (q + 1)))) (fun M12 => f_X8_readText_l31 0 n M12) else f_X8_readText_b64 0 M2 := by
        rw [r1, zz_bPs, e]
        unfold f_X8_readText_k31
        rw [if_neg (show ¬ 0 ≤ M2.1 57 17 by rw [m3]; decide), lk, zz_bPs, m2, show nI q + 1 = nI (q + 1) from zz_add q 1, zz_let]
      rw [ek]
      dsimp only
      by_cases c1 : sz ≤ q
      · rw [if_pos c1, if_neg (show ¬ zz_b8 A sz q = 59 by rw [hb q c1]; decide)]
        exact ⟨M2, rfl, r2, c1, g2, hlen, by omega⟩
      · rw [if_neg c1]
        by_cases c2 : zz_b8 A sz q = 59
        · rw [if_pos c2, if_pos c2]
          refine ih (gx_sI M2 57 16 (nI (q + 1))) (q + 1) (ls ++ [l]) n (by omega) (by omega) ⟨m1.sI rfl, rfl, m3, m4, m5.go 16 (by decide) _, m6, m7⟩ (by omega) (by omega) (by omega)
        · rw [if_neg c2, if_neg c2]
          exact ⟨M2, rfl, m1, m2, g2, .inr ⟨m3, by omega⟩⟩

/-! THE LAW: the model's reader -/
def zz_tr (s : Int32 × Int32) : Int32 := if s.1 = 35 then 1 else if s.1 = 36 then 2 else if s.1 = 33 then 3 else if s.1 = 126 then 4 else s.1
def zz_S8 (k i : Nat) : Bool := (k == 57 && (i == 16 || i == 17 || i == 18 || i == 19)) || (k == 69 && decide (130 ≤ i)) || (k == 70 && decide (130 ≤ i))
def zz_t8 (A M : gx_Mem) (p o : Nat) : Prop := zz_fr zz_S8 A M ∧ M.1 57 16 = nI p ∧ M.1 57 17 = -1 ∧ M.1 57 18 = nI o
def zz_x8 (A M : gx_Mem) (f c : Nat) : Prop := zz_fr zz_S8 A M ∧ M.1 57 16 = nI f ∧ M.1 57 17 = nI f ∧ ∃ c2, c2 ≤ c ∧ M.1 57 19 = nI c2
def zz_b8 (A : gx_Mem) (sz p : Nat) : Int32 := if p < sz then A.1 68 p else -1
theorem zz_b8_out (A : gx_Mem) (sz : Nat) : ∀ p, sz ≤ p → zz_b8 A sz p = -1 := fun p h => if_neg (by omega)
def zz_hs8 (M : gx_Mem) (acc : List (Int32 × Int32)) : Prop := M.1 57 19 = nI acc.length ∧ ∀ i, i < acc.length → M.1 69 (130 + i) = zz_tr (acc.getD i (0, 0)) ∧ M.1 70 (130 + i) = (acc.getD i (0, 0)).2
theorem zz_look8 {A M : gx_Mem} {sz p : Nat} (hA : A.1 57 15 = nI sz) (hs : sz ≤ 120) (h : zz_fr zz_S8 A M) (h2 : M.1 57 16 = nI p) (hp : p ≤ sz) : f_X8_look M = some (zz_b8 A sz p) := by
  unfold f_X8_look zz_b8
  rw [h2, h.2 57 15 rfl, hA]
  simp only [zz_le (show sz < 2147483648 by omega) (show p < 2147483648 by omega)]
  by_cases c : p < sz
  · rw [if_neg (show ¬ sz ≤ p by omega), if_pos c, zz_gi (show p < 120 by omega) (by decide), zz_cl (show p < 2147483648 by omega), h.2 68 p rfl]
  · rw [if_pos (show sz ≤ p by omega), if_neg c]
theorem zz_S8_57 : ∀ (_ i : Nat), zz_S8 57 16 = true ∧ zz_S8 57 17 = true ∧ zz_S8 57 18 = true ∧ zz_S8 57 19 = true ∧ zz_S8 69 (130 + i) = true ∧ zz_S8 70 (130 + i) = true := fun _ i => ⟨rfl, rfl, rfl, rfl, by simp [zz_S8], by simp [zz_S8]⟩
theorem zz_add8 {M : gx_Mem} {c : Nat} (hc : c < 130) (h : M.1 57 19 = nI c) {w : Int32} (hw : w.toInt8.toInt32 = w) (v : Int32) : f_X8_addStep w v M = some (gx_sI (gx_sI (gx_sI M 69 (130 + c) w) 70 (130 + c) v) 57 19 (nI (c + 1))) := by
  unfold f_X8_addStep
  rw [h, show (130 : Int32) = nI 130 from rfl, zz_add, zz_gi (show 130 + c < 260 by omega) (by decide), zz_let, zz_cl (show 130 + c < 2147483648 by omega), hw, hw, show (gx_sI M 69 (130 + c) w).1 57 19 = nI c from h, zz_add, zz_gi (show 130 + c < 260 by omega) (by decide), zz_let, zz_cl (show 130 + c < 2147483648 by omega), show (gx_sI (gx_sI M 69 (130 + c) w) 70 (130 + c) v).1 57 19 = nI c from h, show nI c + 1 = nI (c + 1) from zz_add c 1, zz_let]
theorem zz_add8t {A M : gx_Mem} {p o : Nat} (ht : zz_t8 A M p o) {c : Nat} (w v : Int32) : zz_t8 A (gx_sI (gx_sI (gx_sI M 69 (130 + c) w) 70 (130 + c) v) 57 19 (nI (c + 1))) p o := by
  obtain ⟨h1, h2, h3, h4⟩ := ht
  have q := zz_S8_57 0 c
  exact ⟨((h1.sI q.2.2.2.2.1).sI q.2.2.2.2.2).sI rfl, h2, h3, h4⟩
theorem zz_add8h {M : gx_Mem} {acc : List (Int32 × Int32)} (h : zz_hs8 M acc) {s v w : Int32} (hw : w = zz_tr (s, v)) : zz_hs8 (gx_sI (gx_sI (gx_sI M 69 (130 + acc.length) w) 70 (130 + acc.length) v) 57 19 (nI (acc.length + 1))) (acc ++ [(s, v)]) := by
  refine ⟨by rw [List.length_append]; rfl, fun i hi => ?_⟩
  rw [List.length_append] at hi
  have hi : i < acc.length + 1 := hi
  have e69 : (gx_sI (gx_sI (gx_sI M 69 (130 + acc.length) w) 70 (130 + acc.length) v) 57 19 (nI (acc.length + 1))).1 69 (130 + i) = if i = acc.length then w else M.1 69 (130 + i) := by
    rw [zz_sI1, if_neg (by omega), zz_sI1, if_neg (by omega), zz_sI1]
    by_cases c : i = acc.length
    · rw [if_pos ⟨rfl, by omega⟩, if_pos c]
    · rw [if_neg (by omega), if_neg c]
  have e70 : (gx_sI (gx_sI (gx_sI M 69 (130 + acc.length) w) 70 (130 + acc.length) v) 57 19 (nI (acc.length + 1))).1 70 (130 + i) = if i = acc.length then v else M.1 70 (130 + i) := by
    rw [zz_sI1, if_neg (by omega), zz_sI1]
    by_cases c : i = acc.length
    · rw [if_pos ⟨rfl, by omega⟩, if_pos c]
    · rw [if_neg (by omega), if_neg c, zz_sI1, if_neg (by omega)]
  rw [e69, e70]
  by_cases c : i = acc.length
  · rw [if_pos c, if_pos c, c, zz_gD2]
    exact ⟨hw, rfl⟩
  · rw [if_neg c, if_neg c, zz_gD1 _ _ (show i < acc.length by omega)]
    exact h.2 i (by omega)
theorem zz_add8x {A M : gx_Mem} {f c : Nat} (h : zz_x8 A M f c) (hc : c < 130) {w : Int32} (hw : w.toInt8.toInt32 = w) (v : Int32) : ∃ M2, f_X8_addStep w v M = some M2 ∧ zz_x8 A M2 f (c + 1) := by
  obtain ⟨h1, h2, h3, c2, h4, h5⟩ := h
  have q := zz_S8_57 0 c2
  exact ⟨_, zz_add8 (by omega) h5 hw v, ((h1.sI q.2.2.2.2.1).sI q.2.2.2.2.2).sI rfl, h2, h3, c2 + 1, by omega, rfl⟩
theorem zz_t8.go {A M : gx_Mem} {p o : Nat} (h : zz_t8 A M p o) (q : Nat) : zz_t8 A (gx_sI M 57 16 (nI q)) q o := ⟨h.1.sI rfl, rfl, h.2.2.1, h.2.2.2⟩
theorem zz_hs8.go {M : gx_Mem} {acc : List (Int32 × Int32)} (h : zz_hs8 M acc) (i : Nat) (hi : i ≠ 19) (q : Int32) : zz_hs8 (gx_sI M 57 i q) acc := by
  refine ⟨?_, fun j hj => ?_⟩
  · rw [zz_sI1, if_neg (by omega)]; exact h.1
  · rw [zz_sI1, if_neg (by omega), zz_sI1, if_neg (by omega)]; exact h.2 j hj
theorem zz_lvC {s : Int32} (h : zz_lvO s < 5) : s = 37 ∨ s = 38 ∨ s = 42 ∨ s = 43 ∨ s = 45 ∨ s = 47 ∨ s = 60 ∨ s = 61 ∨ s = 62 ∨ s = 124 := by
  by_cases h1 : s = 37
  · exact .inl h1
  by_cases h2 : s = 38
  · exact .inr (.inl h2)
  by_cases h3 : s = 42
  · exact .inr (.inr (.inl h3))
  by_cases h4 : s = 43
  · exact .inr (.inr (.inr (.inl h4)))
  by_cases h5 : s = 45
  · exact .inr (.inr (.inr (.inr (.inl h5))))
  by_cases h6 : s = 47
  · exact .inr (.inr (.inr (.inr (.inr (.inl h6)))))
  by_cases h7 : s = 60
  · exact .inr (.inr (.inr (.inr (.inr (.inr (.inl h7))))))
  by_cases h8 : s = 61
  · exact .inr (.inr (.inr (.inr (.inr (.inr (.inr (.inl h8)))))))
  by_cases h9 : s = 62
  · exact .inr (.inr (.inr (.inr (.inr (.inr (.inr (.inr (.inl h9))))))))
  by_cases h10 : s = 124
  · exact .inr (.inr (.inr (.inr (.inr (.inr (.inr (.inr (.inr h10))))))))
  exfalso
  unfold zz_lvO at h
  simp only [if_neg h1, if_neg h2, if_neg h3, if_neg h4, if_neg h5, if_neg h6, if_neg h7, if_neg h8, if_neg h9, if_neg h10] at h
  omega
theorem zz_op8 {s : Int32} (h : zz_lvO s < 5) : s.toInt8.toInt32 = s ∧ ∀ v, s = zz_tr (s, v) := by
  rcases zz_lvC h with rfl | rfl | rfl | rfl | rfl | rfl | rfl | rfl | rfl | rfl <;> exact ⟨by decide, fun _ => rfl⟩
def zz_R8 (A : gx_Mem) (acc : List (Int32 × Int32)) (p o : Nat) (r : Nat × Option (List (Int32 × Int32))) (x : Option gx_Mem) : Prop := match r.2 with
  | none => ∃ M2, x = some M2 ∧ zz_x8 A M2 r.1 (acc.length + (r.1 - p) + 1)
  | some c => ∃ M2, x = some M2 ∧ zz_t8 A M2 r.1 o ∧ zz_hs8 M2 (acc ++ c)
theorem zz_x8neg {A M : gx_Mem} {f c : Nat} (h : zz_x8 A M f c) (hf : f < 2147483648) : 0 ≤ M.1 57 17 := by
  rw [h.2.2.1]; exact nI_pos' hf
theorem zz_t8neg {A M : gx_Mem} {p o : Nat} (h : zz_t8 A M p o) : ¬ 0 ≤ M.1 57 17 := by
  rw [h.2.2.1]; decide
/-- a level of two hands' signs: any loop that goes so -/
theorem zz_loop8 {A : gx_Mem} {sz : Nat} (hs : sz ≤ 120) {L o : Nat} (hL : L < 5) {f : Nat → Nat × Option (List (Int32 × Int32))} (hf : ∀ p, p ≤ sz → zz_good sz p (f p)) (F : gx_Mem → Option gx_Mem)
    (ih : ∀ (M : gx_Mem) (p : Nat) (acc : List (Int32 × Int32)), zz_t8 A M p o → zz_hs8 M acc → acc.length ≤ p → p ≤ sz → zz_R8 A acc p o (f p) (F M))
    (kb : (gx_Mem → Option gx_Mem) → gx_Mem → Option gx_Mem) (k1 : ∀ ag M, 0 ≤ M.1 57 17 → kb ag M = some M)
    (k2 : ∀ ag M q, zz_t8 A M q o → q ≤ sz → zz_lvO (zz_b8 A sz q) = L → kb ag M = gx_bP (F (gx_sI M 57 16 (nI (q + 1)))) (fun M7 => gx_bP (f_X8_addStep (zz_b8 A sz q) 0 M7) (fun M9 => ag M9)))
    (k3 : ∀ ag M q, zz_t8 A M q o → q ≤ sz → ¬ zz_lvO (zz_b8 A sz q) = L → kb ag M = some M) {acc : List (Int32 × Int32)} {p0 : Nat} (hacc : acc.length ≤ p0) :
    ∀ k (M : gx_Mem) (q : Nat) (c : List (Int32 × Int32)) (n : Nat), 120 ≤ q + k → k < n → zz_t8 A M q o → zz_hs8 M (acc ++ c) → zz_good sz p0 (q, some c) → zz_R8 A acc p0 o (zz_lp (zz_b8 A sz) f L k q c) (gx_loop kb n M) := by
  intro k
  induction k with
  | zero =>
    intro M q c n hk hn ht hh hg
    obtain ⟨n, rfl⟩ : ∃ m, n = m + 1 := ⟨n - 1, by omega⟩
    obtain ⟨g1, g2, g3, g4⟩ := hg
    dsimp only at g1 g2 g3
    show zz_R8 A acc p0 o (q, some c) (kb (gx_loop kb n) M)
    rw [k3 _ M q ht g2 (by
      rw [zz_b8_out A sz q (by omega)]
      have : zz_lvO (-1) = 9 := by decide
      omega)]
    exact ⟨M, rfl, ht, hh⟩
  | succ k ihk =>
    intro M q c n hk hn ht hh hg
    obtain ⟨n, rfl⟩ : ∃ m, n = m + 1 := ⟨n - 1, by omega⟩
    obtain ⟨g1, g2, g3, g4⟩ := hg
    dsimp only at g1 g2 g3
    show zz_R8 A acc p0 o (zz_lp (zz_b8 A sz) f L (k + 1) q c) (kb (gx_loop kb n) M)
    unfold zz_lp
    by_cases e : zz_lvO (zz_b8 A sz q) = L
    · rw [if_pos e, k2 _ M q ht g2 e]
      have hq : q < sz := by
        rcases Nat.lt_or_ge q sz with w | w
        · exact w
        · rw [zz_b8_out A sz q w] at e
          have : zz_lvO (-1) = 9 := by decide
          omega
      have hlen : (acc ++ c).length ≤ q + 1 := by rw [List.length_append]; omega
      have r := ih (gx_sI M 57 16 (nI (q + 1))) (q + 1) (acc ++ c) (ht.go (q + 1)) (hh.go 16 (by decide) _) hlen hq
      have gg := hf (q + 1) hq
      have o8 := zz_op8 (s := zz_b8 A sz q) (by rw [e]; exact hL)
      rcases hr : f (q + 1) with ⟨q', r'⟩
      rw [hr] at r gg
      cases r' with
      | none =>
        obtain ⟨M2, r1, r2⟩ := r
        obtain ⟨gg1, gg2⟩ := gg
        dsimp only at r2 gg1 gg2
        rw [List.length_append] at r2
        obtain ⟨M3, m1, m2⟩ := zz_add8x r2 (by omega) o8.1 0
        obtain ⟨n', hn'⟩ : ∃ n', n = n' + 1 := ⟨n - 1, by omega⟩
        subst hn'
        rw [r1, zz_bPs, m1, zz_bPs]
        show zz_R8 A acc p0 o (q', none) (kb (gx_loop kb n') M3)
        rw [k1 _ M3 (zz_x8neg m2 (by omega))]
        obtain ⟨x1, x2, x3, c2, x4, x5⟩ := m2
        exact ⟨M3, rfl, x1, x2, x3, c2, show c2 ≤ acc.length + (q' - p0) + 1 by omega, x5⟩
      | some c2 =>
        obtain ⟨M2, r1, r2, r3⟩ := r
        obtain ⟨gg1, gg2, gg3, gg4⟩ := gg
        dsimp only at r2 gg1 gg2 gg3
        have hl : (acc ++ c ++ c2).length < 130 := by rw [List.length_append, List.length_append]; omega
        rw [r1, zz_bPs, zz_add8 hl r3.1 o8.1 0, zz_bPs]
        have m5 := zz_add8h r3 (o8.2 0)
        rw [show acc ++ c ++ c2 ++ [(zz_b8 A sz q, (0 : Int32))] = acc ++ (c ++ c2 ++ [(zz_b8 A sz q, 0)]) by simp only [List.append_assoc]] at m5
        refine ihk _ q' _ n (by omega) (by omega) (zz_add8t r2 _ _) m5 ⟨show p0 < q' by omega, gg2, ?_, zz_wfB g4 gg4 (by rw [e]; exact hL)⟩
        rw [List.length_append, List.length_append]
        show c.length + c2.length + 1 + p0 ≤ q'
        omega
    · rw [if_neg e, k3 _ M q ht g2 e]
      exact ⟨M, rfl, ht, hh⟩
/-! a number -/
theorem zz_in8d (y : Int32) (M : gx_Mem) : f_X8_in y (48 : Int32) (57 : Int32) M = some (zz_i (zz_dg y)) := by
  unfold f_X8_in zz_dg
  by_cases h1 : y < 48
  · rw [if_pos h1, decide_eq_false (fun q => q.1 h1)]; rfl
  · rw [if_neg h1]
    by_cases h2 : (57 : Int32) < y
    · rw [if_pos h2, decide_eq_false (fun q => q.2 h2)]; rfl
    · rw [if_neg h2, decide_eq_true ⟨h1, h2⟩]; rfl
theorem zz_num8 {A M : gx_Mem} {sz p0 o : Nat} (hA : A.1 57 15 = nI sz) (hs : sz ≤ 120) (h : zz_t8 A M p0 o) : ∀ k p v n, k ≤ 4 → k < n → p ≤ sz → f_X8_figure_l4 n (nI v) (nI (4 - k)) (gx_sI M 57 16 (nI p)) = f_X8_figure_b52 (nI (zz_nu (zz_b8 A sz) k p v).2) (nI (4 - k + ((zz_nu (zz_b8 A sz) k p v).1 - p))) (gx_sI M 57 16 (nI (zz_nu (zz_b8 A sz) k p v).1)) ∧ (zz_nu (zz_b8 A sz) k p v).1 ≤ p + k := by
  intro k
  induction k with
  | zero =>
    intro p v n _ hn _
    obtain ⟨n, rfl⟩ : ∃ m, n = m + 1 := ⟨n - 1, by omega⟩
    refine ⟨?_, Nat.le_refl _⟩
    show f_X8_figure_k4 (fun v1 v2 M => f_X8_figure_l4 n v1 v2 M) (nI v) (nI 4) (gx_sI M 57 16 (nI p)) = f_X8_figure_b52 (nI v) (nI (4 - 0 + (p - p))) (gx_sI M 57 16 (nI p))
    unfold f_X8_figure_k4
    rw [if_pos (show (4 : Int32) ≤ nI 4 by decide), Nat.sub_self]
  | succ k ih =>
    intro p v n hk hn hp
    obtain ⟨n, rfl⟩ : ∃ m, n = m + 1 := ⟨n - 1, by omega⟩
    have hl := zz_look8 hA hs (h.go p).1 (h.go p).2.1 hp
    have key : f_X8_figure_l4 (n + 1) (nI v) (nI (4 - (k + 1))) (gx_sI M 57 16 (nI p)) = if zz_dg (zz_b8 A sz p) = true then f_X8_figure_l4 n (nI v * 10 + zz_b8 A sz p - 48) (nI (4 - k)) (gx_sI M 57 16 (nI (p + 1))) else f_X8_figure_b52 (nI v) (nI (4 - (k + 1))) (gx_sI M 57 16 (nI p)) := by
      show f_X8_figure_k4 (fun v1 v2 M => f_X8_figure_l4 n v1 v2 M) (nI v) (nI (4 - (k + 1))) (gx_sI M 57 16 (nI p)) = _
      unfold f_X8_figure_k4
      rw [if_neg (show ¬ (4 : Int32) ≤ nI (4 - (k + 1)) by rw [show (4 : Int32) = nI 4 from rfl, zz_le (by decide) (by omega)]; omega), hl, zz_bPs, zz_in8d, zz_bPs]
      cases zz_dg (zz_b8 A sz p) with
      | false => rw [if_pos (show zz_i false = 0 from rfl), if_neg (by decide)]
      | true =>
        rw [if_neg (show ¬ zz_i true = 0 by decide), if_pos rfl, zz_bPs, zz_let, zz_let, zz_let, show (gx_sI M 57 16 (nI p)).1 57 16 = nI p from rfl, show nI p + 1 = nI (p + 1) from zz_add p 1, zz_sIsI, show nI (4 - (k + 1)) + 1 = nI (4 - k) from by rw [show (1 : Int32) = nI 1 from rfl, zz_add]; congr 1; omega, Int32.mul_comm]
    rw [key]
    unfold zz_nu
    by_cases c : zz_dg (zz_b8 A sz p) = true
    · have hp2 : p < sz := by
        rcases Nat.lt_or_ge p sz with q | q
        · exact q
        · rw [zz_b8_out A sz p q] at c; exact absurd c (by decide)
      obtain ⟨j, j1, j2, j3⟩ := zz_dgT c
      rw [if_pos c, if_pos c, j3, zz_cl (show j < 2147483648 by omega), show (10 : Int32) = nI 10 from rfl, zz_mul, zz_add, show (48 : Int32) = nI 48 from rfl, zz_sub (by omega), show v * 10 + j - 48 = 10 * v + (j - 48) by omega]
      obtain ⟨e1, e2⟩ := ih (p + 1) (10 * v + (j - 48)) n (by omega) (by omega) (by omega)
      have e3 := (zz_nu_gp (zz_b8_out A sz) k (p + 1) (10 * v + (j - 48)) (by omega)).1
      refine ⟨e1.trans ?_, by omega⟩
      rw [show 4 - k + ((zz_nu (zz_b8 A sz) k (p + 1) (10 * v + (j - 48))).1 - (p + 1)) = 4 - (k + 1) + ((zz_nu (zz_b8 A sz) k (p + 1) (10 * v + (j - 48))).1 - p) by omega]
    · rw [if_neg c, if_neg c]
      dsimp only
      rw [Nat.sub_self, Nat.add_zero]
      exact ⟨rfl, by omega⟩

/-! a piece of the invariant stays where a write touches none of its places -/
def zz_mask (P : Nat → Nat → Bool) (M : gx_Mem) : gx_Mem := (fun k i => if P k i = true then M.1 k i else 0, M.2)
theorem zz_mask_sI {P : Nat → Nat → Bool} {M : gx_Mem} {k i : Nat} {v : Int32} (h : P k i = false) : zz_mask P (gx_sI M k i v) = zz_mask P M := by
  unfold zz_mask
  rw [zz_sI2]
  congr 1
  funext q j
  rw [zz_sI1]
  by_cases e : q = k ∧ j = i
  · obtain ⟨rfl, rfl⟩ := e
    rw [h]; rfl
  · rw [if_neg e]
def zz_pH (k i : Nat) : Bool := match k with
  | 9 => true | 10 => true | 11 => true | 12 => true | 13 => true | 14 => true
  | 57 => i == 1
  | 58 => true | 59 => true | 60 => true | 61 => true | 62 => true | 63 => true | 85 => true | 15 => true
  | _ => false
def zz_pI (k i : Nat) : Bool := match k with
  | 16 => true | 17 => true | 20 => true | 21 => true | 22 => true | 56 => true | 86 => true | 87 => true | 88 => true | 89 => true
  | 57 => i == 45 || i == 46 || i == 47
  | _ => false
def zz_pT (k i : Nat) : Bool := match k with
  | 5 => i == 3
  | 6 => true | 68 => true
  | 57 => i == 15
  | _ => false
def zz_pC (k i : Nat) : Bool := match k with
  | 35 => true | 36 => true | 37 => true | 38 => true | 39 => true | 64 => true | 65 => true | 66 => true | 67 => true
  | 57 => i == 8 || i == 9
  | 9 => i == 7
  | _ => false
def zz_pB (k i : Nat) : Bool := match k with
  | 40 => true | 41 => true | 42 => true | 90 => true | 91 => true
  | 57 => i == 52 || i == 54
  | _ => false
def zz_pS (k i : Nat) : Bool := match k with
  | 44 => true | 46 => true | 48 => true | 50 => true | 52 => true | 54 => true | 92 => true | 93 => true
  | 40 => i == 2
  | _ => false
def zz_pL (k i : Nat) : Bool := match k with
  | 0 => true | 1 => true | 2 => true | 69 => true | 70 => true | 71 => true | 72 => true | 73 => true
  | 57 => i == 27
  | _ => false
theorem zz_IH.m (M : gx_Mem) : zz_IH (zz_mask zz_pH M) = zz_IH M := rfl
theorem zz_II.m (M : gx_Mem) : zz_II (zz_mask zz_pI M) = zz_II M := rfl
theorem zz_IT.m (M : gx_Mem) : zz_IT (zz_mask zz_pT M) = zz_IT M := rfl
theorem zz_IC.m (M : gx_Mem) : zz_IC (zz_mask zz_pC M) = zz_IC M := rfl
theorem zz_IB.m (M : gx_Mem) : zz_IB (zz_mask zz_pB M) = zz_IB M := rfl
theorem zz_IH.w {M : gx_Mem} (q : zz_IH M) {k i : Nat} {v : Int32} (h : zz_pH k i = false) : zz_IH (gx_sI M k i v) := by rw [← zz_IH.m, zz_mask_sI h, zz_IH.m]; exact q
theorem zz_II.w {M : gx_Mem} (q : zz_II M) {k i : Nat} {v : Int32} (h : zz_pI k i = false) : zz_II (gx_sI M k i v) := by rw [← zz_II.m, zz_mask_sI h, zz_II.m]; exact q
theorem zz_IT.w {M : gx_Mem} (q : zz_IT M) {k i : Nat} {v : Int32} (h : zz_pT k i = false) : zz_IT (gx_sI M k i v) := by rw [← zz_IT.m, zz_mask_sI h, zz_IT.m]; exact q
theorem zz_IC.w {M : gx_Mem} (q : zz_IC M) {k i : Nat} {v : Int32} (h : zz_pC k i = false) : zz_IC (gx_sI M k i v) := by rw [← zz_IC.m, zz_mask_sI h, zz_IC.m]; exact q
theorem zz_IB.w {M : gx_Mem} (q : zz_IB M) {k i : Nat} {v : Int32} (h : zz_pB k i = false) : zz_IB (gx_sI M k i v) := by rw [← zz_IB.m, zz_mask_sI h, zz_IB.m]; exact q
theorem zz_IS.at {M M2 : gx_Mem} (q : zz_IS M) (h1 : ∀ k i, zz_pS k i = true → M2.1 k i = M.1 k i) (h2 : M2.2 = M.2) : zz_IS M2 := by
  intro s hs
  have e : ∀ i, zz_pS (44 + 2 * s) i = true := by
    intro i
    match s, hs with
    | 0, _ => rfl
    | 1, _ => rfl
    | 2, _ => rfl
    | 3, _ => rfl
    | 4, _ => rfl
    | 5, _ => rfl
  obtain ⟨a, b, c⟩ := q s hs
  unfold zz_sh at a ⊢
  rw [h2, h1 _ 1 (e 1), h1 _ 2 (e 2), h1 _ 3 (e 3), h1 92 s rfl, h1 93 s rfl, h1 40 2 rfl]
  exact ⟨a, b, c⟩
theorem zz_IS.w {M : gx_Mem} (q : zz_IS M) {k i : Nat} {v : Int32} (h : zz_pS k i = false) : zz_IS (gx_sI M k i v) := q.at (fun k2 i2 h2 => by
  rw [zz_sI1, if_neg]
  rintro ⟨rfl, rfl⟩
  rw [h] at h2; cases h2) rfl
theorem zz_IL.at {M M2 : gx_Mem} (q : zz_IL M) (h : ∀ k i, zz_pL k i = true → M2.1 k i = M.1 k i) : zz_IL M2 := q.same ⟨h 0 4 rfl, fun i _ => h 1 i rfl, fun i _ => h 2 i rfl⟩ ⟨h 57 27 rfl, fun i _ => ⟨h 69 i rfl, h 70 i rfl⟩, h 71 0 rfl, fun i _ => ⟨h 72 i rfl, h 73 i rfl⟩⟩
theorem zz_IL.w {M : gx_Mem} (q : zz_IL M) {k i : Nat} {v : Int32} (h : zz_pL k i = false) : zz_IL (gx_sI M k i v) := q.at (fun k2 i2 h2 => by
  rw [zz_sI1, if_neg]
  rintro ⟨rfl, rfl⟩
  rw [h] at h2; cases h2)
theorem zz_Inv.IH {M : gx_Mem} (h : zz_Inv M) : zz_IH M := h.1
theorem zz_Inv.II {M : gx_Mem} (h : zz_Inv M) : zz_II M := h.2.1
theorem zz_Inv.IT {M : gx_Mem} (h : zz_Inv M) : zz_IT M := h.2.2.1
theorem zz_Inv.IC {M : gx_Mem} (h : zz_Inv M) : zz_IC M := h.2.2.2.1
theorem zz_Inv.IB {M : gx_Mem} (h : zz_Inv M) : zz_IB M := h.2.2.2.2.1
theorem zz_Inv.IS {M : gx_Mem} (h : zz_Inv M) : zz_IS M := h.2.2.2.2.2.1
theorem zz_Inv.IL {M : gx_Mem} (h : zz_Inv M) : zz_IL M := h.2.2.2.2.2.2
theorem zz_bd.mono {x : Int32} {m n : Nat} (h : zz_bd x m) (hm : m ≤ n) : zz_bd x n := by obtain ⟨j, h1, h2⟩ := h; exact ⟨j, by omega, h2⟩
/-- the number of people, as a natural number -/
theorem zz_Inv.ppl {M : gx_Mem} (h : zz_Inv M) : ∃ n : Nat, n ≤ 6 ∧ M.1 9 7 = nI n ∧ M.1 57 1 = nI n := by
  obtain ⟨⟨j, h1, h2⟩, h3⟩ := h.IH.1
  exact ⟨j, h1, h2, h3.trans h2⟩
theorem zz_mask_cong {P : Nat → Nat → Bool} {M M2 : gx_Mem} (h : zz_mask P M = zz_mask P M2) (k i : Nat) (v : Int32) : zz_mask P (gx_sI M k i v) = zz_mask P (gx_sI M2 k i v) := by
  have h1 : ∀ q j, P q j = true → M.1 q j = M2.1 q j := fun q j hq => by
    have : (zz_mask P M).1 q j = (zz_mask P M2).1 q j := by rw [h]
    simpa [zz_mask, hq] using this
  have h2 : M.2 = M2.2 := by
    have : (zz_mask P M).2 = (zz_mask P M2).2 := by rw [h]
    exact this
  unfold zz_mask
  rw [zz_sI2, zz_sI2, h2]
  congr 1
  funext q j
  rw [zz_sI1, zz_sI1]
  by_cases e : P q j = true
  · rw [if_pos e, if_pos e, h1 q j e]
  · rw [if_neg e, if_neg e]
theorem zz_okc.mono {M M2 : gx_Mem} {num what a b : Int32} (q : zz_okc M num what a b) (h : ∀ p : Nat, p < 6 → nI p < M.1 9 7 → nI p < M2.1 9 7) : zz_okc M2 num what a b := by
  obtain ⟨w, hw, hq⟩ := q
  refine ⟨w, hw, ?_⟩
  rcases hq with ⟨h1, ⟨p, e, l, s⟩, h3⟩ | ⟨h1, ⟨p, e, l, s⟩, h3⟩ | ⟨h1, ⟨p, m, e, l, s⟩, h3⟩ | ⟨h1, ⟨p, m, e, l, s⟩, h3⟩ | h | h | h
  · exact .inl ⟨h1, ⟨p, e, h p s l, s⟩, h3⟩
  · exact .inr (.inl ⟨h1, ⟨p, e, h p s l, s⟩, h3⟩)
  · exact .inr (.inr (.inl ⟨h1, ⟨p, m, e, h p s.1 l, s⟩, h3⟩))
  · exact .inr (.inr (.inr (.inl ⟨h1, ⟨p, m, e, h p s.1 l, s⟩, h3⟩)))
  · exact .inr (.inr (.inr (.inr (.inl h))))
  · exact .inr (.inr (.inr (.inr (.inr (.inl h)))))
  · exact .inr (.inr (.inr (.inr (.inr (.inr h)))))
theorem zz_IC.grow {M : gx_Mem} (q : zz_IC M) {n : Nat} (hn : M.1 9 7 = nI n) (h6 : n < 6) : zz_IC (gx_sI M 9 7 (nI (n + 1))) := by
  obtain ⟨d, u, h1, h2, h3, h4, h5, h7, h8⟩ := q
  refine ⟨d, u, h1, h2, h3, h4, h5, h7, fun i hi => (h8 i hi).mono (fun p hp hl => ?_)⟩
  rw [zz_sI1, if_pos ⟨rfl, rfl⟩]
  rw [hn] at hl
  rw [zz_lt (by omega) (by omega)] at hl ⊢
  omega
theorem zz_IS.grow {M : gx_Mem} (q : zz_IS M) {n : Nat} (hn : M.1 40 2 = nI n) (h6 : n < 50) : zz_IS (gx_sI M 40 2 (nI (n + 1))) := by
  intro s hs
  obtain ⟨a, b, c⟩ := q s hs
  have e : ∀ i, (gx_sI M 40 2 (nI (n + 1))).1 (44 + 2 * s) i = M.1 (44 + 2 * s) i := fun i => by rw [zz_sI1, if_neg]; omega
  refine ⟨?_, b, fun h0 => c (by rw [e] at h0; exact h0)⟩
  rw [e, e, e]
  rcases a with a | ⟨j, h1, h2, h3, h4⟩ | a
  · exact .inl a
  · refine .inr (.inl ⟨j, h1, h2, ?_, h4⟩)
    rw [zz_sI1, if_pos ⟨rfl, rfl⟩]
    rw [hn] at h3
    rw [zz_lt (by omega) (by omega)] at h3 ⊢
    omega
  · exact .inr (.inr a)
/-- one shelf's part of the invariant -/
def zz_IS1 (M : gx_Mem) (s : Nat) : Prop := zz_sh M (M.1 (44 + 2 * s) 1) (M.1 (44 + 2 * s) 2) (M.1 (44 + 2 * s) 3) (M.1 92 s) (M.1 93 s) ∧
  (∀ i, i < 60 → M.2 94 (60 * s + i) = M.2 (45 + 2 * s) i) ∧
  (M.1 (44 + 2 * s) 2 = 0 → ∀ i, i < 60 → ∃ v : Int8, M.2 (45 + 2 * s) i = v.toInt64)
theorem zz_IS1.same {M M2 : gx_Mem} {s : Nat} (q : zz_IS1 M s) (h1 : ∀ i, M2.1 (44 + 2 * s) i = M.1 (44 + 2 * s) i) (h2 : M2.1 92 s = M.1 92 s) (h3 : M2.1 93 s = M.1 93 s) (h4 : ∀ i, i < 60 → M2.2 (45 + 2 * s) i = M.2 (45 + 2 * s) i) (h5 : ∀ i, i < 60 → M2.2 94 (60 * s + i) = M.2 94 (60 * s + i)) (h6 : M2.1 40 2 = M.1 40 2) : zz_IS1 M2 s := by
  obtain ⟨a, b, c⟩ := q
  refine ⟨?_, fun i hi => by rw [h4 i hi, h5 i hi]; exact b i hi, fun h0 i hi => by rw [h4 i hi]; rw [h1] at h0; exact c h0 i hi⟩
  unfold zz_sh at a ⊢
  rw [h1, h1, h1, h2, h3, h6]; exact a

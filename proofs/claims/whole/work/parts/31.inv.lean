/-- places whose contents no later answer shows -/
def zz_sc (k i : Nat) : Bool := match k with
  | 3 => true | 4 => true
  | 5 => i == 4 || i == 5
  | 7 => true | 8 => true
  | 23 => true | 24 => true | 25 => true | 26 => true | 27 => true | 28 => true | 29 => true
  | 31 => true | 32 => true | 33 => true | 34 => true
  | 57 => i == 16 || i == 17 || i == 18 || i == 19 || i == 28 || i == 29 || i == 38 || i == 40 || i == 41 || i == 42 || i == 43
  | 69 => decide (130 ≤ i) | 70 => decide (130 ≤ i) | 71 => decide (1 ≤ i) | 72 => decide (61 ≤ i) | 73 => decide (61 ≤ i)
  | 74 => true | 75 => true | 76 => true | 77 => true | 78 => true | 79 => true | 80 => true | 81 => true | 82 => true | 83 => true | 84 => true
  | _ => false
def zz_sc2 (k : Nat) : Bool := match k with
  | 34 => true | 95 => true
  | _ => false
/-- the memory without its scratch places -/
def zz_core (M : gx_Mem) : gx_Mem := (fun k i => if zz_sc k i = true then 0 else M.1 k i, fun k i => if zz_sc2 k = true then 0 else M.2 k i)
theorem zz_core_fr {M M2 : gx_Mem} (h : zz_fr zz_sc M M2) : zz_core M2 = zz_core M := by
  unfold zz_core
  rw [h.1]
  congr 1
  funext k i
  cases e : zz_sc k i with
  | true => rfl
  | false => simp [h.2 k i e]
theorem zz_core_sL {M : gx_Mem} {k i : Nat} {v : Int64} (h : zz_sc2 k = true) : zz_core (gx_sL M k i v) = zz_core M := by
  unfold zz_core
  congr 1
  funext q j
  rw [zz_sL2]
  by_cases hq : q = k
  · subst hq; rw [h]; rfl
  · simp [hq]
def zz_bd (x : Int32) (n : Nat) : Prop := ∃ j : Nat, j ≤ n ∧ x = nI j
/-- a change's place and values are as mend() lets them be -/
def zz_okc (M : gx_Mem) (num what a b : Int32) : Prop := ∃ w : Nat, what = nI w ∧
  ((w = 0 ∧ (∃ p : Nat, num = nI p ∧ nI p < M.1 9 7 ∧ p < 6) ∧ zz_bd a 23 ∧ zz_bd b 23) ∨
   (w = 1 ∧ (∃ p : Nat, num = nI p ∧ nI p < M.1 9 7 ∧ p < 6) ∧ zz_bd a 4095 ∧ zz_bd b 4095) ∨
   (w = 2 ∧ (∃ p m : Nat, num = nI (10 * p + m) ∧ nI p < M.1 9 7 ∧ p < 6 ∧ m < 4) ∧ zz_bd a 9 ∧ zz_bd b 9) ∨
   (w = 3 ∧ (∃ p m : Nat, num = nI (10 * p + m) ∧ nI p < M.1 9 7 ∧ p < 6 ∧ m < 4) ∧ zz_bd a 9999 ∧ zz_bd b 9999) ∨
   (w = 4 ∧ (∃ f : Nat, num = nI f ∧ f < 24) ∧ zz_bd a 9 ∧ zz_bd b 9) ∨
   (w = 5 ∧ num = nI 0 ∧ zz_bd a 9 ∧ zz_bd b 9) ∨
   (w = 6 ∧ num = nI 0 ∧ zz_bd a 11 ∧ zz_bd b 11))
/-- the houses agree -/
def zz_IH (M : gx_Mem) : Prop :=
  (zz_bd (M.1 9 7) 6 ∧ M.1 57 1 = M.1 9 7) ∧
  (∀ p, p < 6 → zz_bd (M.1 10 p) 23 ∧ M.1 58 p = M.1 10 p) ∧
  (∀ p, p < 6 → zz_bd (M.1 11 p) 4095 ∧ M.1 59 p = M.1 11 p) ∧
  (∀ i, i < 24 → zz_bd (M.1 12 i) 9 ∧ M.1 60 i = M.1 12 i) ∧
  (∀ i, i < 24 → zz_bd (M.1 13 i) 9999 ∧ M.1 61 i = M.1 13 i) ∧
  (∀ i, i < 24 → zz_bd (M.1 14 i) 9 ∧ M.1 62 i = M.1 14 i) ∧
  (∀ i, i < 5 → M.1 85 i = M.1 15 i) ∧
  (zz_bd (M.1 9 8) 9 ∧ M.1 63 0 = M.1 9 8) ∧
  (zz_bd (M.1 9 9) 11 ∧ M.1 63 1 = M.1 9 9)
/-- the images agree -/
def zz_II (M : gx_Mem) : Prop :=
  (M.1 57 45 = M.1 56 8 ∧ (M.1 56 8 = 0 ∨ M.1 56 8 = 1)) ∧
  (zz_bd (M.1 16 7) 6 ∧ M.1 57 46 = M.1 16 7) ∧
  (∀ p, p < 6 → zz_bd (M.1 17 p) 23 ∧ (nI p < M.1 16 7 → M.1 86 p = M.1 17 p)) ∧
  (∀ i, i < 24 → zz_bd (M.1 20 i) 9999 ∧ M.1 87 i = M.1 20 i) ∧
  (∀ i, i < 24 → zz_bd (M.1 21 i) 9 ∧ M.1 88 i = M.1 21 i) ∧
  (∀ i, i < 5 → M.1 89 i = M.1 22 i) ∧
  (zz_bd (M.1 16 9) 11 ∧ M.1 57 47 = M.1 16 9)
/-- the tapes agree -/
def zz_IT (M : gx_Mem) : Prop :=
  (zz_bd (M.1 5 3) 120 ∧ M.1 57 15 = M.1 5 3) ∧ (∀ i, i < 120 → zz_bd (M.1 6 i) 255 ∧ M.1 68 i = (M.1 6 i).toInt8.toInt32)
/-- the changes agree -/
def zz_IC (M : gx_Mem) : Prop := ∃ d u : Nat, d + u ≤ 40 ∧ M.1 35 4 = nI d ∧ M.1 57 8 = nI d ∧ M.1 35 5 = nI u ∧ M.1 57 9 = nI u ∧
  (∀ i, i < 40 → M.1 65 i = M.1 36 i ∧ M.1 64 i = M.1 37 i ∧ M.1 66 i = M.1 38 i ∧ M.1 67 i = M.1 39 i) ∧
  (∀ i, i < d + u → zz_okc M (M.1 36 i) (M.1 37 i) (M.1 38 i) (M.1 39 i))
/-- the bodies agree -/
def zz_IB (M : gx_Mem) : Prop :=
  (zz_bd (M.1 40 2) 50 ∧ M.1 57 52 = M.1 40 2) ∧ (∀ i, i < 50 → zz_bd (M.1 41 i) 7 ∧ M.1 90 i = M.1 41 i) ∧
  (zz_bd (M.1 40 3) 1000 ∧ M.1 57 54 = M.1 40 3) ∧ (∀ i, i < 24 → nI i < M.1 40 3 → M.1 91 i = M.1 42 i)
/-- a shelf agrees with its three numbers -/
def zz_sh (M : gx_Mem) (b t z h w : Int32) : Prop :=
  (b = -1 ∧ t = -1 ∧ h = -1) ∨ (∃ j : Nat, j < 50 ∧ b = nI j ∧ nI j < M.1 40 2 ∧ t = -1 ∧ h = b) ∨ (∃ k n : Nat, k < 5 ∧ n ≤ 60 ∧ b = -1 ∧ t = nI k ∧ z = nI n ∧ h = -2 - t ∧ w = z)
/-- the shelves agree -/
def zz_IS (M : gx_Mem) : Prop := ∀ s, s < 6 → zz_sh M (M.1 (44 + 2 * s) 1) (M.1 (44 + 2 * s) 2) (M.1 (44 + 2 * s) 3) (M.1 92 s) (M.1 93 s) ∧
  (∀ i, i < 60 → M.2 94 (60 * s + i) = M.2 (45 + 2 * s) i) ∧
  (M.1 (44 + 2 * s) 2 = 0 → ∀ i, i < 60 → ∃ v : Int8, M.2 (45 + 2 * s) i = v.toInt64)
/-- the class's law is the same -/
def zz_lwC (M M2 : gx_Mem) : Prop := M2.1 0 4 = M.1 0 4 ∧ (∀ i, i < 128 → M2.1 1 i = M.1 1 i) ∧ (∀ i, i < 128 → M2.1 2 i = M.1 2 i)
/-- the model's law is the same -/
def zz_lwM (M M2 : gx_Mem) : Prop := M2.1 57 27 = M.1 57 27 ∧ (∀ i, i < 130 → M2.1 69 i = M.1 69 i ∧ M2.1 70 i = M.1 70 i) ∧ M2.1 71 0 = M.1 71 0 ∧ (∀ i, i < 61 → M2.1 72 i = M.1 72 i ∧ M2.1 73 i = M.1 73 i)
def zz_S34 (k _i : Nat) : Bool := k == 3 || k == 4
def zz_S745 (k _i : Nat) : Bool := k == 74 || k == 75
/-- the laws agree: both let lv of what there is run on -/
def zz_IL (M : gx_Mem) : Prop := ∃ lv : Nat → Nat → Nat → Nat → Nat → Nat → Nat, (∀ a w i f m n, lv a w i f m n ≤ a) ∧
  (∀ M1 : gx_Mem, zz_lwC M M1 → ∀ a w i f m n : Nat, a ≤ 1000 → w ≤ 9 → i ≤ 9 → f < 8 → m < 4 → n ≤ 6 → ∃ M2, f_X3_lets (nI a) (nI w) (nI i) (nI f) (nI m) (nI n) M1 = some (nI (lv a w i f m n), M2) ∧ zz_fr zz_S34 M1 M2) ∧
  (∀ M1 : gx_Mem, zz_lwM M M1 → ∀ a w i f m n : Nat, a ≤ 1000 → w ≤ 9 → i ≤ 9 → f < 24 → m < 4 → n ≤ 6 → M1.1 77 f = nI w → M1.1 63 0 = nI i → ∃ M2, f_X8_runOf (nI a) (nI f) (nI m) (nI n) M1 = some (nI (lv a w i (f % 8) m n), M2) ∧ zz_fr zz_S745 M1 M2)
theorem zz_lwC.tr {M M2 M3 : gx_Mem} (h : zz_lwC M M2) (h2 : zz_lwC M2 M3) : zz_lwC M M3 := ⟨h2.1.trans h.1, fun i hi => (h2.2.1 i hi).trans (h.2.1 i hi), fun i hi => (h2.2.2 i hi).trans (h.2.2 i hi)⟩
theorem zz_lwM.tr {M M2 M3 : gx_Mem} (h : zz_lwM M M2) (h2 : zz_lwM M2 M3) : zz_lwM M M3 := ⟨h2.1.trans h.1, fun i hi => ⟨(h2.2.1 i hi).1.trans (h.2.1 i hi).1, (h2.2.1 i hi).2.trans (h.2.1 i hi).2⟩, h2.2.2.1.trans h.2.2.1, fun i hi => ⟨(h2.2.2.2 i hi).1.trans (h.2.2.2 i hi).1, (h2.2.2.2 i hi).2.trans (h.2.2.2 i hi).2⟩⟩
theorem zz_IL.same {M M2 : gx_Mem} (h : zz_IL M) (h1 : zz_lwC M M2) (h2 : zz_lwM M M2) : zz_IL M2 := by
  obtain ⟨lv, ha, hb, hc⟩ := h
  exact ⟨lv, ha, fun M1 q => hb M1 (h1.tr q), fun M1 q => hc M1 (h2.tr q)⟩
/-- THE INVARIANT of both systems -/
def zz_Inv (M : gx_Mem) : Prop := zz_IH M ∧ zz_II M ∧ zz_IT M ∧ zz_IC M ∧ zz_IB M ∧ zz_IS M ∧ zz_IL M
theorem zz_core_at {M M2 : gx_Mem} (h : zz_core M2 = zz_core M) {k i : Nat} (hk : zz_sc k i = false) : M2.1 k i = M.1 k i := by
  have h1 : (zz_core M2).1 k i = (zz_core M).1 k i := by rw [h]
  simpa [zz_core, hk] using h1
theorem zz_core_IH (M : gx_Mem) : zz_IH (zz_core M) = zz_IH M := rfl
theorem zz_core_II (M : gx_Mem) : zz_II (zz_core M) = zz_II M := rfl
theorem zz_core_IT (M : gx_Mem) : zz_IT (zz_core M) = zz_IT M := rfl
theorem zz_core_IC (M : gx_Mem) : zz_IC (zz_core M) = zz_IC M := rfl
theorem zz_core_IB (M : gx_Mem) : zz_IB (zz_core M) = zz_IB M := rfl
theorem zz_sh_sc {s : Nat} (h : s < 6) (i : Nat) : zz_sc (44 + 2 * s) i = false := by
  match s, h with
  | 0, _ => rfl
  | 1, _ => rfl
  | 2, _ => rfl
  | 3, _ => rfl
  | 4, _ => rfl
  | 5, _ => rfl
theorem zz_sh_sc2 {s : Nat} (h : s < 6) : zz_sc2 (45 + 2 * s) = false := by
  match s, h with
  | 0, _ => rfl
  | 1, _ => rfl
  | 2, _ => rfl
  | 3, _ => rfl
  | 4, _ => rfl
  | 5, _ => rfl
theorem zz_IS_core {M M2 : gx_Mem} (h : zz_core M2 = zz_core M) (q : zz_IS M) : zz_IS M2 := by
  intro s hs
  have e1 : ∀ i, M2.1 (44 + 2 * s) i = M.1 (44 + 2 * s) i := fun i => zz_core_at h (zz_sh_sc hs i)
  have e2 : ∀ k i, zz_sc2 k = false → M2.2 k i = M.2 k i := fun k i hk => by
    have h1 : (zz_core M2).2 k i = (zz_core M).2 k i := by rw [h]
    simpa [zz_core, hk] using h1
  have e3 : M2.1 92 s = M.1 92 s := zz_core_at h rfl
  have e4 : M2.1 93 s = M.1 93 s := zz_core_at h rfl
  have e5 : M2.1 40 2 = M.1 40 2 := zz_core_at h rfl
  obtain ⟨h1, h2, h3⟩ := q s hs
  refine ⟨?_, fun i hi => ?_, fun h0 i hi => ?_⟩
  · unfold zz_sh at h1 ⊢
    rw [e1, e1, e1, e3, e4, e5]; exact h1
  · rw [e2 94 _ rfl, e2 _ _ (zz_sh_sc2 hs)]; exact h2 i hi
  · rw [e2 _ _ (zz_sh_sc2 hs)]; rw [e1] at h0; exact h3 h0 i hi
/-- what is scratch may change -/
theorem zz_Inv_core {M M2 : gx_Mem} (h : zz_core M2 = zz_core M) (q : zz_Inv M) : zz_Inv M2 := by
  obtain ⟨q1, q2, q3, q4, q5, q6, q7⟩ := q
  rw [← zz_core_IH, ← h, zz_core_IH] at q1
  rw [← zz_core_II, ← h, zz_core_II] at q2
  rw [← zz_core_IT, ← h, zz_core_IT] at q3
  rw [← zz_core_IC, ← h, zz_core_IC] at q4
  rw [← zz_core_IB, ← h, zz_core_IB] at q5
  refine ⟨q1, q2, q3, q4, q5, zz_IS_core h q6, q7.same ⟨zz_core_at h rfl, fun i _ => zz_core_at h rfl, fun i _ => zz_core_at h rfl⟩ ⟨zz_core_at h rfl, fun i hi => ⟨zz_core_at h (decide_eq_false (by omega)), zz_core_at h (decide_eq_false (by omega))⟩, zz_core_at h rfl, fun i hi => ⟨zz_core_at h (decide_eq_false (by omega)), zz_core_at h (decide_eq_false (by omega))⟩⟩⟩
/-- an op answers alike on both sides and keeps the invariant -/
def zz_ok {β : Type} (f g : gx_Mem → Option (β × gx_Mem)) : Prop := ∀ M : gx_Mem, zz_Inv M → ∃ (r : β) (M1 : gx_Mem), f M = some (r, M1) ∧ ∃ M2 : gx_Mem, g M1 = some (r, M2) ∧ zz_Inv M2
/-- a reading op answers alike -/
def zz_okp {β : Type} (f g : gx_Mem → Option β) : Prop := ∀ M : gx_Mem, zz_Inv M → ∃ r : β, f M = some r ∧ g M = some r

/-- a loop over 0..N comes to its exit -/
theorem zz_for {σ ρ : Type} (b : (σ → Option ρ) → σ → Option ρ) (E : σ → Option ρ) (I : Nat → σ → Prop) (N n : Nat) (hn : N < n) (s0 : σ) (h0 : I 0 s0)
    (step : ∀ i s, i < N → I i s → ∃ s2, I (i + 1) s2 ∧ ∀ ag, b ag s = ag s2) (ex : ∀ s, I N s → ∀ ag, b ag s = E s) : ∃ s, I N s ∧ gx_loop b n s0 = E s := by
  obtain ⟨s, h1, h2⟩ := zz_loopE (fun (_ : Unit) => b) (fun _ => E) I N (fun i s hi hs => by
    obtain ⟨s2, h3, h4⟩ := step i s hi hs
    exact ⟨s2, h3, fun _ => h4⟩) (fun s hs _ => ex s hs) N 0 s0 (by omega) h0
  exact ⟨s, h1, h2 () n hn⟩
/-- the cells a .. a+n-1 of k replaced -/
def zz_ov (M : gx_Mem) (k a n : Nat) (f : Nat → Int32) : gx_Mem := (fun q j => if q = k ∧ a ≤ j ∧ j < a + n then f j else M.1 q j, M.2)
theorem zz_ov1 (M : gx_Mem) (k a n : Nat) (f : Nat → Int32) (q j : Nat) : (zz_ov M k a n f).1 q j = if q = k ∧ a ≤ j ∧ j < a + n then f j else M.1 q j := rfl
theorem zz_ov0 (M : gx_Mem) (k a : Nat) (f : Nat → Int32) : zz_ov M k a 0 f = M := by
  refine Prod.ext ?_ rfl
  funext q j
  show (if _ then _ else _) = _
  rw [if_neg (by omega)]
theorem zz_ovS (M : gx_Mem) (k a n : Nat) (f : Nat → Int32) (v : Int32) (hv : v = f (a + n)) : gx_sI (zz_ov M k a n f) k (a + n) v = zz_ov M k a (n + 1) f := by
  subst hv
  refine Prod.ext ?_ rfl
  funext q j
  rw [zz_sI1, zz_ov1, zz_ov1]
  by_cases e : q = k ∧ j = a + n
  · obtain ⟨rfl, rfl⟩ := e
    rw [if_pos ⟨rfl, rfl⟩, if_pos ⟨rfl, by omega, by omega⟩]
  · rw [if_neg e]
    by_cases e2 : q = k ∧ a ≤ j ∧ j < a + n
    · rw [if_pos e2, if_pos (by omega)]
    · rw [if_neg e2, if_neg (by omega)]
theorem zz_cIov (M : gx_Mem) (k j n : Nat) : gx_cI M k 0 j 0 n = zz_ov M j 0 n (M.1 k) := by
  refine Prod.ext ?_ rfl
  funext q i
  rw [zz_cI1, zz_ov1]
  by_cases e : q = j ∧ 0 ≤ i ∧ i < 0 + n
  · rw [if_pos e, if_pos e]; simp
  · rw [if_neg e, if_neg e]
theorem zz_IH.v {M : gx_Mem} (q : zz_IH M) {k a n : Nat} {f : Nat → Int32} (h : ∀ i, zz_pH k i = false) : zz_IH (zz_ov M k a n f) := q.ext (fun k2 i hk => by rw [zz_ov1, if_neg (by rintro ⟨rfl, -⟩; rw [h] at hk; cases hk)]) rfl
theorem zz_II.v {M : gx_Mem} (q : zz_II M) {k a n : Nat} {f : Nat → Int32} (h : ∀ i, zz_pI k i = false) : zz_II (zz_ov M k a n f) := q.ext (fun k2 i hk => by rw [zz_ov1, if_neg (by rintro ⟨rfl, -⟩; rw [h] at hk; cases hk)]) rfl
theorem zz_IT.v {M : gx_Mem} (q : zz_IT M) {k a n : Nat} {f : Nat → Int32} (h : ∀ i, zz_pT k i = false) : zz_IT (zz_ov M k a n f) := q.ext (fun k2 i hk => by rw [zz_ov1, if_neg (by rintro ⟨rfl, -⟩; rw [h] at hk; cases hk)]) rfl
theorem zz_IC.v {M : gx_Mem} (q : zz_IC M) {k a n : Nat} {f : Nat → Int32} (h : ∀ i, zz_pC k i = false) : zz_IC (zz_ov M k a n f) := q.ext (fun k2 i hk => by rw [zz_ov1, if_neg (by rintro ⟨rfl, -⟩; rw [h] at hk; cases hk)]) rfl
theorem zz_IB.v {M : gx_Mem} (q : zz_IB M) {k a n : Nat} {f : Nat → Int32} (h : ∀ i, zz_pB k i = false) : zz_IB (zz_ov M k a n f) := q.ext (fun k2 i hk => by rw [zz_ov1, if_neg (by rintro ⟨rfl, -⟩; rw [h] at hk; cases hk)]) rfl
theorem zz_IS.v {M : gx_Mem} (q : zz_IS M) {k a n : Nat} {f : Nat → Int32} (h : ∀ i, zz_pS k i = false) : zz_IS (zz_ov M k a n f) := q.at (fun k2 i hk => by rw [zz_ov1, if_neg (by rintro ⟨rfl, -⟩; rw [h] at hk; cases hk)]) rfl
theorem zz_IL.v {M : gx_Mem} (q : zz_IL M) {k a n : Nat} {f : Nat → Int32} (h : ∀ i, zz_pL k i = false) : zz_IL (zz_ov M k a n f) := q.at (fun k2 i hk => by rw [zz_ov1, if_neg (by rintro ⟨rfl, -⟩; rw [h] at hk; cases hk)])
/-- the awnings out -/
def zz_awn (f : Nat → Int32) : Nat → Nat
  | 0 => 0
  | n + 1 => zz_awn f n + if f n ≤ 0 then 0 else 1
theorem zz_awn_le (f : Nat → Int32) : ∀ n, zz_awn f n ≤ n
  | 0 => Nat.le_refl _
  | n + 1 => by
    have := zz_awn_le f n
    unfold zz_awn
    split <;> omega
theorem zz_awn_cong {f g : Nat → Int32} : ∀ n, (∀ i, i < n → f i = g i) → zz_awn f n = zz_awn g n
  | 0, _ => rfl
  | n + 1, h => by
    unfold zz_awn
    rw [zz_awn_cong n (fun i hi => h i (by omega)), h n (by omega)]
theorem zz_awn7 (M : gx_Mem) : f_X2_awningsOut 9 M = some (nI (zz_awn (M.1 14) 24)) := by
  obtain ⟨s, hs, e⟩ := zz_for (fun (ag4 : Int32 × Int32 → Option Int32) (s : Int32 × Int32) => f_X2_awningsOut_k4 9 (fun v1 v2 => ag4 (v1, v2)) s.1 s.2 M) (fun s => some s.1) (fun i s => s = (nI (zz_awn (M.1 14) i), nI i)) 24 gx_fuel (by decide) (0, 0) rfl (fun i s hi hs => by
    subst hs
    refine ⟨_, rfl, fun ag => ?_⟩
    dsimp only
    unfold f_X2_awningsOut_k4 f_X2_awningsOut_b25
    rw [show (24 : Int32) = nI 24 from rfl]
    simp only [zz_le (show 24 < 2147483648 by decide) (show i < 2147483648 by omega), zz_let, zz_cl (show i < 2147483648 by omega)]
    rw [if_neg (by omega), zz_gi hi (by decide)]
    show (if M.1 14 i ≤ 0 then _ else _) = ag (nI (zz_awn (M.1 14) i + if M.1 14 i ≤ 0 then 0 else 1), _)
    by_cases h : M.1 14 i ≤ 0
    · rw [if_pos h, if_pos h]
      exact congrArg ag (Prod.ext (zz_add _ 0) (zz_add _ 1))
    · rw [if_neg h, if_neg h]
      exact congrArg ag (Prod.ext (zz_add _ 1) (zz_add _ 1))) (fun s hs ag => by subst hs; rfl)
  subst hs
  exact e
theorem zz_awn8 (M : gx_Mem) : f_X8_awnings M = some (nI (zz_awn (M.1 62) 24)) := by
  obtain ⟨s, hs, e⟩ := zz_for (fun (ag4 : Int32 × Int32 → Option Int32) (s : Int32 × Int32) => f_X8_awnings_k4 (fun v1 v2 => ag4 (v1, v2)) s.1 s.2 M) (fun s => some s.1) (fun i s => s = (nI (zz_awn (M.1 62) i), nI i)) 24 gx_fuel (by decide) (0, 0) rfl (fun i s hi hs => by
    subst hs
    refine ⟨_, rfl, fun ag => ?_⟩
    dsimp only
    unfold f_X8_awnings_k4 f_X8_awnings_b22
    rw [show (24 : Int32) = nI 24 from rfl]
    simp only [zz_le (show 24 < 2147483648 by decide) (show i < 2147483648 by omega), zz_let, zz_cl (show i < 2147483648 by omega)]
    rw [if_neg (by omega), zz_gi hi (by decide)]
    show (if M.1 62 i ≤ 0 then _ else _) = ag (nI (zz_awn (M.1 62) i + if M.1 62 i ≤ 0 then 0 else 1), _)
    by_cases h : M.1 62 i ≤ 0
    · rw [if_pos h, if_pos h]
      exact congrArg ag (Prod.ext rfl (zz_add _ 1))
    · rw [if_neg h, if_neg h]
      exact congrArg ag (Prod.ext (zz_add _ 1) (zz_add _ 1))) (fun s hs ag => by subst hs; rfl)
  subst hs
  exact e
theorem op_count (a : Int32) : zz_okp (f_X7_count a) (f_X8_count a) := by
  intro M h
  obtain ⟨d, u, hdu, d1, d2, -⟩ := h.IC
  unfold f_X7_count f_X8_count
  rw [zz_awn7, zz_awn8, h.IH.1.2, h.IT.1.2, d1, d2, h.IB.1.2, h.IB.2.2.1.2, zz_awn_cong (f := M.1 62) (g := M.1 14) 24 (fun i hi => (h.IH.2.2.2.2.2.1 i hi).2)]
  by_cases e0 : a = 0
  · simp only [if_pos e0]; exact ⟨_, rfl, rfl⟩
  · by_cases e1 : a = 1
    · simp only [if_neg e0, if_pos e1, zz_bPs]; exact ⟨_, rfl, rfl⟩
    · simp only [if_neg e0, if_neg e1]
      by_cases e2 : a = 2
      · simp only [if_pos e2]; exact ⟨_, rfl, rfl⟩
      · by_cases e3 : a = 3
        · simp only [if_neg e2, if_pos e3]; exact ⟨_, rfl, rfl⟩
        · simp only [if_neg e2, if_neg e3]
          by_cases e4 : a = 4
          · simp only [if_pos e4]; exact ⟨_, rfl, rfl⟩
          · by_cases e5 : a = 5
            · simp only [if_neg e4, if_pos e5]; exact ⟨_, rfl, rfl⟩
            · simp only [if_neg e4, if_neg e5]; exact ⟨_, rfl, rfl⟩
theorem op_awning (a : Int32) : zz_ok (f_X7_awning a) (f_X8_awning a) := by
  intro M h
  unfold f_X7_awning
  rw [zz_isFlat7]
  simp only [zz_bPs, zz_ifi]
  have hg : ∀ M1 : gx_Mem, f_X8_awning a M1 = if zz_rg a 24 = true then gx_gd (gx_in a 24) ((if (9 : Int32) ≤ (M1.1 62 a.toNatClampNeg) then f_X8_awning_b30 a M1 else gx_gd (gx_in a 24) (gx_gd (gx_in a 24) (gx_let (gx_sI M1 62 a.toNatClampNeg ((M1.1 62 a.toNatClampNeg) + (1 : Int32))) (fun M3 => f_X8_awning_b30 a M3))))) else some (-1, M1) := by
    intro M1
    unfold f_X8_awning
    rw [zz_isFlat8]
    simp only [zz_bPs, zz_ifi]
  cases ha : zz_rg a 24 with
  | false => exact ⟨-1, M, rfl, M, by rw [hg, ha]; rfl, h⟩
  | true =>
    obtain ⟨f, hf, rfl⟩ := zz_rgT ha
    obtain ⟨⟨j, hj, e1⟩, e2⟩ := h.IH.2.2.2.2.2.1 f hf
    rw [if_pos rfl, zz_gi hf (by decide), zz_cl (show f < 2147483648 by omega), zz_gi hf (by decide), e1]
    simp only [zz_let, zz_gi hf (by decide)]
    have hmin : gx_min 9 (nI j + 1) = nI (min 9 (j + 1)) := by
      unfold gx_min
      rw [show nI j + 1 = nI (j + 1) from zz_add _ 1, show (9 : Int32) = nI 9 from rfl]
      simp only [zz_lt (show j + 1 < 2147483648 by omega) (show 9 < 2147483648 by decide)]
      by_cases e : j + 1 < 9
      · rw [if_pos e]; congr 1; omega
      · rw [if_neg e]; congr 1; omega
    rw [hmin]
    refine ⟨_, gx_sI (gx_sI M 14 f (nI (min 9 (j + 1)))) 15 2 ((gx_sI M 14 f (nI (min 9 (j + 1)))).1 15 2 + 1), rfl, ?_⟩
    generalize hA : gx_sI (gx_sI M 14 f (nI (min 9 (j + 1)))) 15 2 ((gx_sI M 14 f (nI (min 9 (j + 1)))).1 15 2 + 1) = A
    have eA : A.1 62 f = nI j := by rw [← hA]; exact e2.trans e1
    have eA2 : A.1 85 2 = M.1 15 2 := by rw [← hA]; exact h.IH.2.2.2.2.2.2.1 2 (by decide)
    have eA3 : A.1 14 f = nI (min 9 (j + 1)) := by rw [← hA, zz_sI1, if_neg (by omega), zz_sI1, if_pos ⟨rfl, rfl⟩]
    have key : ∀ B : gx_Mem, B = gx_sI A 62 f (nI (min 9 (j + 1))) → f_X8_awning_b30 (nI f) B = some (A.1 14 f, gx_sI B 85 2 (M.1 15 2 + 1)) := by
      intro B hB
      unfold f_X8_awning_b30
      simp only [zz_let, zz_gi hf (show 24 < 2147483648 by decide), zz_cl (show f < 2147483648 by omega)]
      have : B.1 85 2 = M.1 15 2 := by rw [hB]; exact eA2
      show some ((gx_sI B 85 2 (B.1 85 2 + 1)).1 62 f, gx_sI B 85 2 (B.1 85 2 + 1)) = _
      rw [this, zz_sI1, if_neg (by omega), eA3, hB, zz_sI1, if_pos ⟨rfl, rfl⟩]
    refine ⟨gx_sI (gx_sI A 62 f (nI (min 9 (j + 1)))) 85 2 (M.1 15 2 + 1), ?_, ?_⟩
    · rw [hg, ha, if_pos rfl, zz_gi hf (by decide), zz_cl (show f < 2147483648 by omega), eA, show (9 : Int32) = nI 9 from rfl]
      simp only [zz_le (show 9 < 2147483648 by decide) (show j < 2147483648 by omega), zz_gi hf (by decide), zz_let]
      by_cases e : 9 ≤ j
      · have ee : A = gx_sI A 62 f (nI (min 9 (j + 1))) := by
          refine Prod.ext ?_ rfl
          funext q i
          rw [zz_sI1]
          by_cases e3 : q = 62 ∧ i = f
          · obtain ⟨rfl, rfl⟩ := e3
            rw [if_pos ⟨rfl, rfl⟩, eA]; congr 1; omega
          · rw [if_neg e3]
        rw [if_pos e, key A ee, ← ee]
        subst hA; rfl
      · rw [if_neg e, show nI j + 1 = nI (j + 1) from zz_add _ 1, show nI (j + 1) = nI (min 9 (j + 1)) from by congr 1; omega, key _ rfl]
        subst hA; rfl
    · subst hA
      refine ⟨?_, ((((h.II.w rfl).w rfl).w rfl).w rfl), ((((h.IT.w rfl).w rfl).w rfl).w rfl), ((((h.IC.w rfl).w rfl).w rfl).w rfl), ((((h.IB.w rfl).w rfl).w rfl).w rfl), ((((h.IS.w rfl).w rfl).w rfl).w rfl), ((((h.IL.w rfl).w rfl).w rfl).w rfl)⟩
      obtain ⟨q1, q2, q3, q4, q5, q6, q7, q8, q9⟩ := h.IH
      refine ⟨q1, q2, q3, q4, q5, fun i hi => ?_, fun i hi => ?_, q8, q9⟩
      · have := q6 i hi
        simp only [zz_sI1]
        by_cases e : i = f
        · subst e
          simp
          exact ⟨min 9 (i + 1 - i + j), by omega, by congr 1; omega⟩
        · simp [e, this]
      · have := q7 i hi
        simp only [zz_sI1]
        by_cases e : i = 2
        · subst e
          simp
        · simp [e, this]

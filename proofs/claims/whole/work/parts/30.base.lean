/-! PLAIN FACTS about the plain functions: numbers, guards, frames, loops -/
theorem zz_gd {α : Type} {b : Bool} {x : Option α} (h : b = true) : gx_gd b x = x := if_pos h
theorem zz_gi {α : Type} {j n : Nat} {x : Option α} (h : j < n) (hn : n < 2147483648) : gx_gd (gx_in (nI j) n) x = x := if_pos (decide_eq_true (nI_in h hn))
theorem zz_gdD {α : Type} {p : Prop} {_ : Decidable p} {x : Option α} (h : p) : gx_gd (decide p) x = x := if_pos (decide_eq_true h)
theorem zz_cl {n : Nat} (h : n < 2147483648) : (nI n).toNatClampNeg = n := nI_clamp h
theorem zz_lit (n : Nat) : (OfNat.ofNat n : Int32) = nI n := rfl
theorem zz_le {a b : Nat} (ha : a < 2147483648) (hb : b < 2147483648) : (nI a ≤ nI b) = (a ≤ b) := propext (nI_leI ha hb)
theorem zz_lt {a b : Nat} (ha : a < 2147483648) (hb : b < 2147483648) : (nI a < nI b) = (a < b) := propext (nI_ltI ha hb)
theorem zz_eq {a b : Nat} (ha : a < 2147483648) (hb : b < 2147483648) : (nI a = nI b) = (a = b) := propext (nI_eq ha hb)
theorem zz_add (a b : Nat) : nI a + nI b = nI (a + b) := nI_add a b
theorem zz_mul (a b : Nat) : nI a * nI b = nI (a * b) := pk_mul a b
theorem zz_sub {a b : Nat} (h : b ≤ a) : nI a - nI b = nI (a - b) := pk_sub h
theorem zz_div {a d : Nat} (ha : a < 2147483648) (h0 : 0 < d) (hd : d < 2147483648) : nI a / nI d = nI (a / d) := pk_div ha h0 hd
theorem zz_rem {a d : Nat} (ha : a < 2147483648) (h0 : 0 < d) (hd : d < 2147483648) : gx_rem (nI a) (nI d) = nI (a % d) := pk_rem ha h0 hd
theorem zz_bP {α β : Type} {x : Option β} {f : β → Option α} {b : β} (h : x = some b) : gx_bP x f = f b := by rw [h]; rfl
theorem zz_bI {α β : Type} {x : Option (β × gx_Mem)} {f : β → gx_Mem → Option α} {b : β} {M : gx_Mem} (h : x = some (b, M)) : gx_bI x f = f b M := by rw [h]; rfl
theorem zz_bPs {α β : Type} (f : β → Option α) (b : β) : gx_bP (some b) f = f b := rfl
theorem zz_bIs {α β : Type} (f : β → gx_Mem → Option α) (b : β) (M : gx_Mem) : gx_bI (some (b, M)) f = f b M := rfl
theorem zz_let {α β : Type} (x : α) (f : α → β) : gx_let x f = f x := rfl
theorem zz_nI0 : nI 0 = 0 := rfl
theorem zz_neg_lt {a : Nat} (h : a < 2147483648) : (nI a < 0) = False := eq_false (by rw [← zz_nI0]; exact nI_nlt (Nat.zero_le _) h)
/-- every number is a small natural number, or below 0, or any other -/
theorem zz_case (x : Int32) : x < 0 ∨ ∃ j : Nat, j < 2147483648 ∧ x = nI j := by
  by_cases h : x < 0
  · exact Or.inl h
  · obtain ⟨j, h1, h2⟩ := nI_of h; exact Or.inr ⟨j, h1, h2⟩
/-- reading what was written -/
theorem zz_sI1 (M : gx_Mem) (k i : Nat) (v : Int32) (q j : Nat) : (gx_sI M k i v).1 q j = if q = k ∧ j = i then v else M.1 q j := by
  simp only [gx_sI]
  by_cases h : q = k
  · subst h
    simp only [if_pos, upd]
    by_cases hj : j = i <;> simp [hj]
  · simp [h]
theorem zz_sI2 (M : gx_Mem) (k i : Nat) (v : Int32) : (gx_sI M k i v).2 = M.2 := rfl
theorem zz_sL1 (M : gx_Mem) (k i : Nat) (v : Int64) : (gx_sL M k i v).1 = M.1 := rfl
theorem zz_sL2 (M : gx_Mem) (k i : Nat) (v : Int64) (q j : Nat) : (gx_sL M k i v).2 q j = if q = k ∧ j = i then v else M.2 q j := by
  simp only [gx_sL]
  by_cases h : q = k
  · subst h
    simp only [if_pos, vp_updL]
    by_cases hj : j = i <;> simp [hj]
  · simp [h]
theorem zz_cI1 (M : gx_Mem) (k sp j dp n : Nat) (q i : Nat) : (gx_cI M k sp j dp n).1 q i = if q = j ∧ dp ≤ i ∧ i < dp + n then M.1 k (sp + (i - dp)) else M.1 q i := by
  simp only [gx_cI]
  by_cases h : q = j
  · subst h
    simp only [if_pos, va_cpy, true_and]
  · simp [h]
theorem zz_cI2 (M : gx_Mem) (k sp j dp n : Nat) : (gx_cI M k sp j dp n).2 = M.2 := rfl
/-- a frame: but for the places of S all is as it was -/
def zz_fr (S : Nat → Nat → Bool) (M M2 : gx_Mem) : Prop := M2.2 = M.2 ∧ ∀ k i, S k i = false → M2.1 k i = M.1 k i
theorem zz_fr.rf {S : Nat → Nat → Bool} {M : gx_Mem} : zz_fr S M M := ⟨rfl, fun _ _ _ => rfl⟩
theorem zz_fr.tr {S : Nat → Nat → Bool} {M M2 M3 : gx_Mem} (h : zz_fr S M M2) (h2 : zz_fr S M2 M3) : zz_fr S M M3 := ⟨h2.1.trans h.1, fun k i hk => (h2.2 k i hk).trans (h.2 k i hk)⟩
theorem zz_fr.mono {S S2 : Nat → Nat → Bool} {M M2 : gx_Mem} (h : zz_fr S M M2) (hS : ∀ k i, S k i = true → S2 k i = true) : zz_fr S2 M M2 := ⟨h.1, fun k i hk => h.2 k i (by
  cases e : S k i with
  | false => rfl
  | true => rw [hS k i e] at hk; cases hk)⟩
theorem zz_fr.sI {S : Nat → Nat → Bool} {M M2 : gx_Mem} (h : zz_fr S M M2) {k i : Nat} {v : Int32} (hk : S k i = true) : zz_fr S M (gx_sI M2 k i v) := ⟨h.1, fun q j hq => by
  rw [zz_sI1, if_neg, h.2 q j hq]
  rintro ⟨rfl, rfl⟩
  rw [hk] at hq; cases hq⟩
/-- a loop comes to its exit -/
theorem zz_loopE {γ σ ρ : Type} (b : γ → (σ → Option ρ) → σ → Option ρ) (E : γ → σ → Option ρ) (I : Nat → σ → Prop) (N : Nat) (step : ∀ i s, i < N → I i s → ∃ s2, I (i + 1) s2 ∧ ∀ c ag, b c ag s = ag s2) (ex : ∀ s, I N s → ∀ c ag, b c ag s = E c s) : ∀ (d i : Nat) (s : σ), i + d = N → I i s → ∃ s2, I N s2 ∧ ∀ c n, d < n → gx_loop (b c) n s = E c s2 := by
  intro d
  induction d with
  | zero =>
    intro i s hi hs
    have hi : i = N := by omega
    subst hi
    refine ⟨s, hs, fun c n hn => ?_⟩
    obtain ⟨n, rfl⟩ : ∃ m, n = m + 1 := ⟨n - 1, by omega⟩
    exact ex s hs c _
  | succ d ih =>
    intro i s hi hs
    obtain ⟨s2, h2, hb⟩ := step i s (by omega) hs
    obtain ⟨s3, h3, he⟩ := ih (i + 1) s2 (by omega) h2
    refine ⟨s3, h3, fun c n hn => ?_⟩
    obtain ⟨n, rfl⟩ : ∃ m, n = m + 1 := ⟨n - 1, by omega⟩
    show b c (gx_loop (b c) n) s = _
    rw [hb]
    exact he c n (by omega)
/-- a loop that may leave early: what holds of each way out holds of it -/
theorem zz_loopR {σ ρ : Type} (b : (σ → Option ρ) → σ → Option ρ) (R : Option ρ → Prop) (I : Nat → σ → Prop) (N : Nat) (hI : ∀ i s, I i s → i ≤ N) (step : ∀ i s, I i s → (∃ s2, I (i + 1) s2 ∧ ∀ ag, b ag s = ag s2) ∨ (∀ ag, R (b ag s))) : ∀ (n i : Nat) (s : σ), I i s → N < i + n → R (gx_loop b n s) := by
  intro n
  induction n with
  | zero => intro i s hs hn; have := hI i s hs; omega
  | succ n ih =>
    intro i s hs hn
    show R (b (gx_loop b n) s)
    rcases step i s hs with ⟨s2, h2, hb⟩ | h
    · rw [hb]; exact ih (i + 1) s2 h2 (by omega)
    · exact h _

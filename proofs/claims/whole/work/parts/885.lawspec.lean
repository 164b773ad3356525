/-! THE LAW as a text: what it is read to be; signs are pairs, as the class keeps them -/
def zz_cd : Type := List (Int32 × Int32)
def zz_lvO (s : Int32) : Nat := if s = 37 then 4 else if s = 38 then 1 else if s = 42 then 4 else if s = 43 then 3 else if s = 45 then 3 else if s = 47 then 4 else if s = 60 then 2 else if s = 61 then 2 else if s = 62 then 2 else if s = 124 then 0 else 9
def zz_dg (x : Int32) : Bool := decide (¬ x < 48 ∧ ¬ (57 : Int32) < x)
def zz_na (x : Int32) : Option Nat := if x = 97 then some 0 else if x = 102 then some 3 else if x = 105 then some 2 else if x = 109 then some 4 else if x = 110 then some 5 else if x = 119 then some 1 else none
def zz_op (s a b : Int32) : Int32 := if s = 37 then (if b = 0 then 0 else gx_rem a b) else if s = 38 then (if a = 0 then 0 else if b = 0 then 0 else 1) else if s = 42 then a * b else if s = 43 then a + b else if s = 45 then a - b else if s = 47 then (if b = 0 then 0 else a / b) else if s = 60 then (if b ≤ a then 0 else 1) else if s = 61 then (if a = b then 1 else 0) else if s = 62 then (if a ≤ b then 0 else 1) else (if a = 0 then (if b = 0 then 0 else 1) else 1)
def zz_stp (nm : Nat → Int32) (s : Int32 × Int32) (st : List Int32) : Option (List Int32) :=
  if s.1 = 35 then some (s.2 :: st) else if s.1 = 36 then some (nm s.2.toNatClampNeg :: st) else
  match st with
  | [] => none
  | a :: r => if s.1 = 126 then some (-a :: r) else if s.1 = 33 then some ((if a = 0 then 1 else 0) :: r) else
    match r with
    | [] => none
    | a2 :: r2 => some (zz_op s.1 a2 a :: r2)
def zz_run (nm : Nat → Int32) : List (Int32 × Int32) → List Int32 → Option (List Int32)
  | [], st => some st
  | s :: l, st => match zz_stp nm s st with
    | none => none
    | some st2 => zz_run nm l st2
theorem zz_run_app (nm : Nat → Int32) (l2 : List (Int32 × Int32)) : ∀ (l : List (Int32 × Int32)) (st st2 : List Int32), zz_run nm l st = some st2 → zz_run nm (l ++ l2) st = zz_run nm l2 st2
  | [], st, st2, h => by
    cases h; rfl
  | s :: l, st, st2, h => by
    show (match zz_stp nm s st with | none => none | some st3 => zz_run nm (l ++ l2) st3) = _
    have h' : (match zz_stp nm s st with | none => none | some st3 => zz_run nm l st3) = some st2 := h
    cases e : zz_stp nm s st with
    | none => rw [e] at h'; cases h'
    | some st3 =>
      rw [e] at h'
      exact zz_run_app nm l2 l st3 st2 h'
def zz_vc (s : Int32 × Int32) : Prop := s.1 = 35 ∨ (s.1 = 36 ∧ ∃ j : Nat, j < 6 ∧ s.2 = nI j) ∨ s.1 = 126 ∨ s.1 = 33 ∨ zz_lvO s.1 < 5
def zz_wf (c : List (Int32 × Int32)) : Prop := (∀ s, s ∈ c → zz_vc s) ∧ ∀ nm : Nat → Int32, ∃ v, ∀ st, zz_run nm c st = some (v :: st)
theorem zz_wf_ne {c : List (Int32 × Int32)} (h : zz_wf c) : c ≠ [] := by
  rintro rfl
  obtain ⟨v, hv⟩ := h.2 (fun _ => 0)
  have := hv []
  cases this
theorem zz_wf1 {s : Int32 × Int32} (h : s.1 = 35 ∨ (s.1 = 36 ∧ ∃ j : Nat, j < 6 ∧ s.2 = nI j)) : zz_wf [s] := by
  refine ⟨fun t ht => ?_, fun nm => ?_⟩
  · rw [List.mem_singleton] at ht
    subst ht
    rcases h with h | h
    · exact .inl h
    · exact .inr (.inl h)
  · rcases h with h | ⟨h, -⟩
    · refine ⟨s.2, fun st => ?_⟩
      show (match zz_stp nm s st with | none => none | some st2 => some st2) = _
      unfold zz_stp
      rw [if_pos h]
    · refine ⟨nm s.2.toNatClampNeg, fun st => ?_⟩
      show (match zz_stp nm s st with | none => none | some st2 => some st2) = _
      unfold zz_stp
      rw [if_neg (show ¬ s.1 = 35 by rw [h]; decide), if_pos h]
theorem zz_wfU {c : List (Int32 × Int32)} {s : Int32} (hc : zz_wf c) (h : s = 126 ∨ s = 33) : zz_wf (c ++ [(s, 0)]) := by
  refine ⟨fun t ht => ?_, fun nm => ?_⟩
  · rw [List.mem_append, List.mem_singleton] at ht
    rcases ht with ht | rfl
    · exact hc.1 t ht
    · rcases h with h | h
      · exact .inr (.inr (.inl h))
      · exact .inr (.inr (.inr (.inl h)))
  · obtain ⟨v, hv⟩ := hc.2 nm
    rcases h with rfl | rfl
    · exact ⟨-v, fun st => by rw [zz_run_app nm _ _ _ _ (hv st)]; rfl⟩
    · exact ⟨if v = 0 then 1 else 0, fun st => by rw [zz_run_app nm _ _ _ _ (hv st)]; rfl⟩
theorem zz_lvN {s : Int32} (h : zz_lvO s < 5) : s ≠ 35 ∧ s ≠ 36 ∧ s ≠ 126 ∧ s ≠ 33 ∧ s ≠ 59 ∧ s ≠ 63 ∧ s ≠ -1 ∧ s ≠ 41 := by
  refine ⟨?_, ?_, ?_, ?_, ?_, ?_, ?_, ?_⟩ <;> rintro rfl <;> exact absurd h (by decide)
theorem zz_wfB {c c2 : List (Int32 × Int32)} {s : Int32} (hc : zz_wf c) (hc2 : zz_wf c2) (h : zz_lvO s < 5) : zz_wf (c ++ c2 ++ [(s, 0)]) := by
  obtain ⟨n1, n2, n3, n4, -⟩ := zz_lvN h
  refine ⟨fun t ht => ?_, fun nm => ?_⟩
  · rw [List.mem_append, List.mem_append, List.mem_singleton] at ht
    rcases ht with (ht | ht) | rfl
    · exact hc.1 t ht
    · exact hc2.1 t ht
    · exact .inr (.inr (.inr (.inr h)))
  · obtain ⟨v, hv⟩ := hc.2 nm
    obtain ⟨v2, hv2⟩ := hc2.2 nm
    refine ⟨zz_op s v v2, fun st => ?_⟩
    rw [List.append_assoc, zz_run_app nm _ _ _ _ (hv st), zz_run_app nm _ _ _ _ (hv2 (v :: st))]
    show (match zz_stp nm (s, 0) (v2 :: v :: st) with | none => none | some st2 => some st2) = _
    unfold zz_stp
    rw [if_neg n1, if_neg n2]
    dsimp only
    rw [if_neg n3, if_neg n4]
/-! reading: a place, and the signs read, or none where the place is the fault's -/
def zz_nu (b : Nat → Int32) : Nat → Nat → Nat → Nat × Nat
  | 0, p, v => (p, v)
  | k + 1, p, v => if zz_dg (b p) = true then zz_nu b k (p + 1) (10 * v + ((b p).toNatClampNeg - 48)) else (p, v)
def zz_lp (b : Nat → Int32) (f : Nat → Nat × Option (List (Int32 × Int32))) (L : Nat) : Nat → Nat → List (Int32 × Int32) → Nat × Option (List (Int32 × Int32))
  | 0, p, c => (p, some c)
  | k + 1, p, c => if zz_lvO (b p) = L then (match f (p + 1) with
    | (q, none) => (q, none)
    | (q, some c2) => zz_lp b f L k q (c ++ c2 ++ [(b p, 0)])) else (p, some c)
def zz_s1 (b : Nat → Int32) (f g : Nat → Nat × Option (List (Int32 × Int32))) (o p : Nat) : Nat × Option (List (Int32 × Int32)) :=
  if zz_dg (b p) = true then (if zz_dg (b (zz_nu b 4 p 0).1) = true then ((zz_nu b 4 p 0).1, none) else ((zz_nu b 4 p 0).1, some [(35, nI (zz_nu b 4 p 0).2)])) else
  match zz_na (b p) with
  | some k => (p + 1, some [(36, nI k)])
  | none => if b p = 40 then (if o < 6 then (match f (p + 1) with
      | (q, none) => (q, none)
      | (q, some c) => if b q = 41 then (q + 1, some c) else (q, none)) else (p, none))
    else if b p = 33 ∨ b p = 45 then (if o < 6 then (match g (p + 1) with
      | (q, none) => (q, none)
      | (q, some c) => (q, some (c ++ [(if b p = 45 then 126 else 33, 0)]))) else (p, none))
    else (p, none)
/-- level 0 .. 4, 5; 6 for what stands between the signs -/
def zz_sp (b : Nat → Int32) : Nat → Nat → Nat → Nat → Nat × Option (List (Int32 × Int32))
  | 0, _, _, p => (p, none)
  | d + 1, L, o, p => if L < 5 then (match zz_sp b d (L + 1) o p with
      | (q, none) => (q, none)
      | (q, some c) => zz_lp b (zz_sp b d (L + 1) o) L (if L = 2 then 1 else 120) q c)
    else if L = 5 then zz_sp b d 6 o p
    else zz_s1 b (zz_sp b d 0 (o + 1)) (zz_sp b d 6 (o + 1)) o p
def zz_good (sz p : Nat) (r : Nat × Option (List (Int32 × Int32))) : Prop := match r.2 with
  | none => p ≤ r.1 ∧ r.1 ≤ sz
  | some c => p < r.1 ∧ r.1 ≤ sz ∧ c.length + p ≤ r.1 ∧ zz_wf c
theorem zz_nu_gp {b : Nat → Int32} {sz : Nat} (hb : ∀ p, sz ≤ p → b p = -1) : ∀ k p v, p ≤ sz → p ≤ (zz_nu b k p v).1 ∧ (zz_nu b k p v).1 ≤ sz
  | 0, p, v, h => ⟨Nat.le_refl _, h⟩
  | k + 1, p, v, h => by
    unfold zz_nu
    by_cases c : zz_dg (b p) = true
    · rw [if_pos c]
      have hp : p < sz := by
        rcases Nat.lt_or_ge p sz with q | q
        · exact q
        · rw [hb p q] at c; exact absurd c (by decide)
      have := zz_nu_gp hb k (p + 1) (10 * v + ((b p).toNatClampNeg - 48)) (by omega)
      omega
    · rw [if_neg c]; exact ⟨Nat.le_refl _, h⟩
theorem zz_nu_lt {b : Nat → Int32} {sz : Nat} (hb : ∀ p, sz ≤ p → b p = -1) {p : Nat} (h : p ≤ sz) (c : zz_dg (b p) = true) : p < (zz_nu b 4 p 0).1 := by
  have hp : p < sz := by
    rcases Nat.lt_or_ge p sz with q | q
    · exact q
    · rw [hb p q] at c; exact absurd c (by decide)
  have : zz_nu b 4 p 0 = zz_nu b 3 (p + 1) (10 * 0 + ((b p).toNatClampNeg - 48)) := if_pos c
  rw [this]
  have := (zz_nu_gp hb 3 (p + 1) (10 * 0 + ((b p).toNatClampNeg - 48)) (by omega)).1
  omega
theorem zz_lp_gp {b : Nat → Int32} {sz : Nat} (hb : ∀ p, sz ≤ p → b p = -1) {f : Nat → Nat × Option (List (Int32 × Int32))} (hf : ∀ p, p ≤ sz → zz_good sz p (f p)) {L : Nat} (hL : L < 5) {p0 : Nat} : ∀ k p c, zz_good sz p0 (p, some c) → zz_good sz p0 (zz_lp b f L k p c)
  | 0, p, c, h => h
  | k + 1, p, c, h => by
    obtain ⟨h1, h2, h3, h4⟩ := h
    unfold zz_lp
    by_cases e : zz_lvO (b p) = L
    · rw [if_pos e]
      have hp : p < sz := by
        rcases Nat.lt_or_ge p sz with q | q
        · exact q
        · rw [hb p q] at e
          have : zz_lvO (-1) = 9 := by decide
          omega
      have g := hf (p + 1) (by omega)
      rcases hr : f (p + 1) with ⟨q, r⟩
      rw [hr] at g
      cases r with
      | none =>
        obtain ⟨g1, g2⟩ := g
        dsimp only at g1 g2 h1
        exact ⟨show p0 ≤ q by omega, g2⟩
      | some c2 =>
        obtain ⟨g1, g2, g3, g4⟩ := g
        dsimp only at g1 g2 g3 g4 h1 h2 h3
        dsimp only
        refine zz_lp_gp hb hf hL k q _ ⟨show p0 < q by omega, g2, ?_, zz_wfB h4 g4 (by rw [e]; exact hL)⟩
        rw [List.length_append, List.length_append]
        show c.length + c2.length + 1 + p0 ≤ q
        omega
    · rw [if_neg e]
      exact ⟨h1, h2, h3, h4⟩
theorem zz_na_lt {x : Int32} {k : Nat} (h : zz_na x = some k) : k < 6 := by
  unfold zz_na at h
  repeat' split at h
  all_goals first | (cases h; decide) | cases h
theorem zz_s1_gp {b : Nat → Int32} {sz : Nat} (hb : ∀ p, sz ≤ p → b p = -1) {f g : Nat → Nat × Option (List (Int32 × Int32))} (hf : ∀ p, p ≤ sz → zz_good sz p (f p)) (hg : ∀ p, p ≤ sz → zz_good sz p (g p)) {o p : Nat} (hp : p ≤ sz) : zz_good sz p (zz_s1 b f g o p) := by
  have lt : ∀ {q : Nat}, b q ≠ -1 → q < sz := fun {q} h => by
    rcases Nat.lt_or_ge q sz with c | c
    · exact c
    · exact absurd (hb q c) h
  unfold zz_s1
  by_cases c : zz_dg (b p) = true
  · rw [if_pos c]
    have n1 := zz_nu_lt hb hp c
    have n2 := (zz_nu_gp hb 4 p 0 hp).2
    by_cases c2 : zz_dg (b (zz_nu b 4 p 0).1) = true
    · rw [if_pos c2]
      exact ⟨Nat.le_of_lt n1, n2⟩
    · rw [if_neg c2]
      exact ⟨n1, n2, show 1 + p ≤ _ by omega, zz_wf1 (.inl rfl)⟩
  · rw [if_neg c]
    cases hn : zz_na (b p) with
    | some k =>
      have hp2 : p < sz := lt (by
        intro q
        rw [q] at hn
        cases hn)
      exact ⟨Nat.lt_succ_self p, hp2, show 1 + p ≤ p + 1 by omega, zz_wf1 (.inr ⟨rfl, k, zz_na_lt hn, rfl⟩)⟩
    | none =>
      dsimp only
      by_cases c1 : b p = 40
      · rw [if_pos c1]
        have hp2 : p < sz := lt (by rw [c1]; decide)
        by_cases co : o < 6
        · rw [if_pos co]
          have gg := hf (p + 1) (by omega)
          rcases hr : f (p + 1) with ⟨q, r⟩
          rw [hr] at gg
          cases r with
          | none =>
            obtain ⟨g1, g2⟩ := gg
            dsimp only at g1 g2
            exact ⟨show p ≤ q by omega, g2⟩
          | some c =>
            obtain ⟨g1, g2, g3, g4⟩ := gg
            dsimp only at g1 g2 g3 g4
            dsimp only
            by_cases c5 : b q = 41
            · rw [if_pos c5]
              have hq : q < sz := lt (by rw [c5]; decide)
              exact ⟨show p < q + 1 by omega, hq, show c.length + p ≤ q + 1 by omega, g4⟩
            · rw [if_neg c5]
              exact ⟨show p ≤ q by omega, g2⟩
        · rw [if_neg co]
          exact ⟨Nat.le_refl p, hp⟩
      · rw [if_neg c1]
        by_cases c2 : b p = 33 ∨ b p = 45
        · rw [if_pos c2]
          have hp2 : p < sz := lt (by rcases c2 with q | q <;> rw [q] <;> decide)
          by_cases co : o < 6
          · rw [if_pos co]
            have gg := hg (p + 1) (by omega)
            rcases hr : g (p + 1) with ⟨q, r⟩
            rw [hr] at gg
            cases r with
            | none =>
              obtain ⟨g1, g2⟩ := gg
              dsimp only at g1 g2
              exact ⟨show p ≤ q by omega, g2⟩
            | some c =>
              obtain ⟨g1, g2, g3, g4⟩ := gg
              dsimp only at g1 g2 g3 g4
              refine ⟨show p < q by omega, g2, ?_, zz_wfU g4 (by split <;> simp)⟩
              dsimp only
              rw [List.length_append]
              show c.length + 1 + p ≤ q
              omega
          · rw [if_neg co]
            exact ⟨Nat.le_refl p, hp⟩
        · rw [if_neg c2]
          exact ⟨Nat.le_refl p, hp⟩
theorem zz_sp_gp {b : Nat → Int32} {sz : Nat} (hb : ∀ p, sz ≤ p → b p = -1) : ∀ d L o p, p ≤ sz → zz_good sz p (zz_sp b d L o p)
  | 0, L, o, p, hp => ⟨Nat.le_refl p, hp⟩
  | d + 1, L, o, p, hp => by
    unfold zz_sp
    by_cases c : L < 5
    · rw [if_pos c]
      have g := zz_sp_gp hb d (L + 1) o p hp
      rcases hr : zz_sp b d (L + 1) o p with ⟨q, r⟩
      rw [hr] at g
      cases r with
      | none => exact g
      | some c2 => exact zz_lp_gp hb (fun p hp => zz_sp_gp hb d (L + 1) o p hp) c _ q c2 g
    · rw [if_neg c]
      by_cases c2 : L = 5
      · rw [if_pos c2]
        exact zz_sp_gp hb d 6 o p hp
      · rw [if_neg c2]
        exact zz_s1_gp hb (fun p hp => zz_sp_gp hb d 0 (o + 1) p hp) (fun p hp => zz_sp_gp hb d 6 (o + 1) p hp) hp

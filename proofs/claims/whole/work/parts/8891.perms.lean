/-! CHANGE: the dealings, one after another -/
def zz_pvt (w : Nat → Nat) : Nat → Option Nat
  | 0 => none
  | k + 1 => if w k ≤ w (k + 1) then some k else zz_pvt w k
def zz_scs (w : Nat → Nat) (i : Nat) : Nat → Nat
  | 0 => 0
  | k + 1 => if k + 1 ≤ i ∨ w i ≤ w (k + 1) then k + 1 else zz_scs w i k
def zz_rvs : Nat → (Nat → Nat) → Nat → Nat → (Nat → Nat)
  | 0, w, _, _ => w
  | k + 1, w, a, b => if b ≤ a then w else zz_rvs k (zz_gx w a b) (a + 1) (b - 1)
def zz_nxt (n : Nat) (w : Nat → Nat) : Option (Nat → Nat) := match zz_pvt w (n - 1) with
  | none => none
  | some i => some (zz_rvs 6 (zz_gx w i (zz_scs w i (n - 1))) (i + 1) (n - 1))
def zz_S31 (k _i : Nat) : Bool := k == 31
def zz_w31 (M : gx_Mem) (w : Nat → Nat) : Prop := ∀ i, i < 6 → M.1 31 i = nI (w i) ∧ w i < 6
theorem zz_dec : ∀ k, k < 7 → nI k + -1 = nI k - 1 ∧ nI (k + 1) - 1 = nI k := by decide
theorem zz_exch {M : gx_Mem} {w : Nat → Nat} {a b : Nat} (h : zz_w31 M w) (ha : a < 6) (hb : b < 6) : ∃ D, f_X4_exchange (nI a) (nI b) M = some D ∧ zz_fr zz_S31 M D ∧ zz_w31 D (zz_gx w a b) := by
  refine ⟨gx_sI (gx_sI M 31 a (M.1 31 b)) 31 b (M.1 31 a), ?_, (zz_fr.rf.sI rfl).sI rfl, fun i hi => ?_⟩
  · unfold f_X4_exchange
    rw [zz_gi ha (by decide), zz_let, zz_gi hb (by decide), zz_gi ha (by decide), zz_let, zz_gi hb (by decide), zz_let, zz_cl (show a < 2147483648 by omega), zz_cl (show b < 2147483648 by omega)]
  · unfold zz_gx
    rw [zz_sI1, zz_sI1]
    by_cases e1 : i = b
    · rw [if_pos ⟨rfl, e1⟩, if_pos e1]; exact h a ha
    · rw [if_neg (fun x => e1 x.2), if_neg e1]
      by_cases e2 : i = a
      · rw [if_pos ⟨rfl, e2⟩, if_pos e2]; exact h b hb
      · rw [if_neg (fun x => e2 x.2), if_neg e2]; exact h i hi
theorem zz_next89 : ∀ k n (w : Nat → Nat) a b (M : gx_Mem), k < n → b ≤ a + 2 * k → b < 6 → a < 8 → zz_w31 M w → ∃ D, f_X4_nextDealing_l89 n (nI a) (nI b) M = some (1, D) ∧ zz_fr zz_S31 M D ∧ zz_w31 D (zz_rvs k w a b) := by
  intro k
  induction k with
  | zero =>
    intro n w a b M hn hb h6 ha h
    obtain ⟨n, rfl⟩ : ∃ j, n = j + 1 := ⟨n - 1, by omega⟩
    refine ⟨M, ?_, zz_fr.rf, h⟩
    show f_X4_nextDealing_k89 _ (nI a) (nI b) M = _
    unfold f_X4_nextDealing_k89
    rw [if_pos (nI_le (by omega) (by omega))]
  | succ k ih =>
    intro n w a b M hn hb h6 ha h
    obtain ⟨n, rfl⟩ : ∃ j, n = j + 1 := ⟨n - 1, by omega⟩
    unfold zz_rvs
    have es : f_X4_nextDealing_l89 (n + 1) (nI a) (nI b) M = f_X4_nextDealing_k89 (fun v4 v5 M => f_X4_nextDealing_l89 n v4 v5 M) (nI a) (nI b) M := rfl
    rw [es]
    unfold f_X4_nextDealing_k89
    by_cases c : b ≤ a
    · refine ⟨M, ?_, zz_fr.rf, ?_⟩
      · rw [if_pos (nI_le c (by omega))]
      · rw [if_pos c]; exact h
    · obtain ⟨D, d1, d2, d3⟩ := zz_exch h (show a < 6 by omega) h6
      obtain ⟨E, e1, e2, e3⟩ := ih n (zz_gx w a b) (a + 1) (b - 1) D (by omega) (by omega) (by omega) (by omega) d3
      obtain ⟨b', rfl⟩ : ∃ j, b = j + 1 := ⟨b - 1, by omega⟩
      refine ⟨E, ?_, d2.tr e2, ?_⟩
      · rw [if_neg (show ¬ nI (b' + 1) ≤ nI a by rw [zz_le (by omega) (by omega)]; omega), d1, zz_bPs]
        simp only [zz_let]
        rw [show nI a + 1 = nI (a + 1) from zz_add a 1, (zz_dec (b' + 1) (by omega)).1, (zz_dec b' (by omega)).2]
        exact e1
      · rw [if_neg c]; exact e3
theorem zz_next49 {M : gx_Mem} {w : Nat → Nat} (h : zz_w31 M w) (v1 : Int32) {i : Nat} (hi : i < 6) : ∀ k n, k < n → k < 6 → f_X4_nextDealing_l49 v1 (nI i) n (nI k) M = f_X4_nextDealing_b75 v1 (nI i) (nI (zz_scs w i k)) M := by
  intro k
  induction k with
  | zero =>
    intro n hn _
    obtain ⟨n, rfl⟩ : ∃ j, n = j + 1 := ⟨n - 1, by omega⟩
    have es : f_X4_nextDealing_l49 v1 (nI i) (n + 1) (nI 0) M = f_X4_nextDealing_k49 v1 (nI i) (fun v3 M => f_X4_nextDealing_l49 v1 (nI i) n v3 M) (nI 0) M := rfl
    rw [es]
    unfold f_X4_nextDealing_k49
    rw [if_pos (nI_le (Nat.zero_le _) (by omega))]
    rfl
  | succ k ih =>
    intro n hn hk
    obtain ⟨n, rfl⟩ : ∃ j, n = j + 1 := ⟨n - 1, by omega⟩
    have es : f_X4_nextDealing_l49 v1 (nI i) (n + 1) (nI (k + 1)) M = f_X4_nextDealing_k49 v1 (nI i) (fun v3 M => f_X4_nextDealing_l49 v1 (nI i) n v3 M) (nI (k + 1)) M := rfl
    rw [es]
    unfold f_X4_nextDealing_k49 zz_scs
    obtain ⟨w1, w2⟩ := h i hi
    obtain ⟨w3, w4⟩ := h (k + 1) hk
    rw [zz_gi hk (by decide), zz_gi hi (by decide), zz_cl (show i < 2147483648 by omega), zz_cl (show k + 1 < 2147483648 by omega), w1, w3]
    by_cases c : k + 1 ≤ i
    · rw [if_pos (nI_le c (by omega)), if_pos (.inl c)]
    · rw [if_neg (show ¬ nI (k + 1) ≤ nI i by rw [zz_le (by omega) (by omega)]; exact c)]
      by_cases c2 : w i ≤ w (k + 1)
      · rw [if_pos (nI_le c2 (by omega)), if_pos (.inr c2)]
      · rw [if_neg (show ¬ nI (w i) ≤ nI (w (k + 1)) by rw [zz_le (by omega) (by omega)]; exact c2), if_neg (by omega), zz_let, (zz_dec (k + 1) (by omega)).1, (zz_dec k (by omega)).2]
        exact ih n (by omega) (by omega)
theorem zz_next14 {M : gx_Mem} {w : Nat → Nat} (h : zz_w31 M w) (v1 : Int32) : ∀ k n, k < n → k < 6 → f_X4_nextDealing_l14 v1 n (nI k - 1) M = match zz_pvt w k with
    | none => some (0, M)
    | some i => f_X4_nextDealing_l49 v1 (nI i) gx_fuel v1 M := by
  intro k
  induction k with
  | zero =>
    intro n hn _
    obtain ⟨n, rfl⟩ : ∃ j, n = j + 1 := ⟨n - 1, by omega⟩
    have es : f_X4_nextDealing_l14 v1 (n + 1) (nI 0 - 1) M = f_X4_nextDealing_k14 v1 (fun v2 M => f_X4_nextDealing_l14 v1 n v2 M) (nI 0 - 1) M := rfl
    rw [es]
    unfold f_X4_nextDealing_k14 f_X4_nextDealing_b41
    rw [if_pos (by decide), if_neg (by decide)]
    rfl
  | succ k ih =>
    intro n hn hk
    obtain ⟨n, rfl⟩ : ∃ j, n = j + 1 := ⟨n - 1, by omega⟩
    have es : f_X4_nextDealing_l14 v1 (n + 1) (nI (k + 1) - 1) M = f_X4_nextDealing_k14 v1 (fun v2 M => f_X4_nextDealing_l14 v1 n v2 M) (nI (k + 1) - 1) M := rfl
    rw [es, (zz_dec k (by omega)).2]
    unfold f_X4_nextDealing_k14 f_X4_nextDealing_b41 zz_pvt
    obtain ⟨w1, w2⟩ := h k (by omega)
    obtain ⟨w3, w4⟩ := h (k + 1) hk
    rw [if_neg (nI_pos (show k < 2147483648 by omega)), show nI k + 1 = nI (k + 1) from zz_add k 1, zz_gi (show k < 6 by omega) (by decide), zz_gi hk (by decide), zz_cl (show k < 2147483648 by omega), zz_cl (show k + 1 < 2147483648 by omega), w1, w3]
    by_cases c : w k ≤ w (k + 1)
    · rw [if_pos (nI_le c (by omega)), if_pos c, if_pos (show (0 : Int32) ≤ nI k from nI_le (a := 0) (b := k) (Nat.zero_le _) (by omega))]
    · rw [if_neg (show ¬ nI (w k) ≤ nI (w (k + 1)) by rw [zz_le (by omega) (by omega)]; exact c), if_neg c, zz_let, (zz_dec k (by omega)).1]
      exact ih n (by omega) (by omega)
theorem zz_pvt_lt {w : Nat → Nat} {i : Nat} : ∀ k, zz_pvt w k = some i → i < k
  | 0, h => by cases h
  | k + 1, h => by
    unfold zz_pvt at h
    split at h
    · cases h; omega
    · have := zz_pvt_lt k h; omega
theorem zz_scs_le (w : Nat → Nat) (i : Nat) : ∀ k, zz_scs w i k ≤ k
  | 0 => Nat.le_refl _
  | k + 1 => by
    unfold zz_scs
    split
    · exact Nat.le_refl _
    · have := zz_scs_le w i k; omega
theorem zz_next7d {M : gx_Mem} {w : Nat → Nat} {n : Nat} (h : zz_w31 M w) (hn : M.1 9 7 = nI n) (h0 : 0 < n) (h6 : n ≤ 6) : match zz_nxt n w with
    | none => f_X4_nextDealing M = some (0, M)
    | some w2 => ∃ D, f_X4_nextDealing M = some (1, D) ∧ zz_fr zz_S31 M D ∧ zz_w31 D w2 := by
  have e : f_X4_nextDealing M = match zz_pvt w (n - 1) with
    | none => some (0, M)
    | some i => f_X4_nextDealing_l49 (nI (n - 1)) (nI i) gx_fuel (nI (n - 1)) M := by
    unfold f_X4_nextDealing
    obtain ⟨n, rfl⟩ : ∃ j, n = j + 1 := ⟨n - 1, by omega⟩
    rw [hn, (zz_dec n (by omega)).2, zz_let, zz_let, zz_next14 h (nI n) n gx_fuel (by unfold gx_fuel; omega) (by omega)]
    rfl
  rw [e]
  unfold zz_nxt
  rcases hp : zz_pvt w (n - 1) with _ | i
  · rfl
  · dsimp only
    have hi := zz_pvt_lt _ hp
    have hs := zz_scs_le w i (n - 1)
    rw [zz_next49 h (nI (n - 1)) (show i < 6 by omega) (n - 1) gx_fuel (by unfold gx_fuel; omega) (by omega)]
    obtain ⟨D, d1, d2, d3⟩ := zz_exch h (show i < 6 by omega) (show zz_scs w i (n - 1) < 6 by omega)
    obtain ⟨E, e1, e2, e3⟩ := zz_next89 6 gx_fuel (zz_gx w i (zz_scs w i (n - 1))) (i + 1) (n - 1) D (by decide) (by omega) (by omega) (by omega) d3
    refine ⟨E, ?_, d2.tr e2, e3⟩
    unfold f_X4_nextDealing_b75
    rw [d1, zz_bPs, zz_let, show nI i + 1 = nI (i + 1) from zz_add i 1]
    exact e1
def zz_cat (f : Nat → List (List Nat)) : Nat → List (List Nat)
  | 0 => []
  | m + 1 => zz_cat f m ++ f m
/-- the dealings that begin with f, k places left -/
def zz_enm (n : Nat) : Nat → List Nat → List (List Nat)
  | 0, f => [f]
  | k + 1, f => zz_cat (fun v => if f.contains v = true then [] else zz_enm n k (f ++ [v])) n
def zz_pw (f : List Nat) (j : Nat) : Nat := f.getD j j
def zz_chk (n : Nat) (f g : List Nat) : Bool := match zz_nxt n (zz_pw f) with
  | none => false
  | some w => (List.range 6).all (fun i => Nat.beq (w i) (zz_pw g i))
def zz_chn (n : Nat) : List (List Nat) → Bool
  | [] => false
  | [a] => (zz_nxt n (zz_pw a)).isNone
  | a :: b :: t => zz_chk n a b && zz_chn n (b :: t)
def zz_okl (n : Nat) (l : List (List Nat)) : Bool := l.all (fun f => Nat.beq f.length n && f.all (fun x => Nat.blt x n)) && Nat.ble l.length 720 && (match l with
  | [] => false
  | f :: _ => (List.range 6).all (fun i => Nat.beq i (zz_pw f i))) && zz_chn n l
set_option maxRecDepth 100000 in
theorem zz_chn_all : ∀ n, n < 6 → zz_okl (n + 1) (zz_enm (n + 1) (n + 1) []) = true := by decide +kernel

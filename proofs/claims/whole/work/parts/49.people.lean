theorem zz_sIsI (M : gx_Mem) (k i : Nat) (a b : Int32) : gx_sI (gx_sI M k i a) k i b = gx_sI M k i b := by
  refine Prod.ext ?_ rfl
  funext x y
  simp only [zz_sI1]
  by_cases e : x = k ∧ y = i
  · rw [if_pos e, if_pos e]
  · rw [if_neg e, if_neg e, if_neg e]
theorem zz_w3 (M : gx_Mem) {c i k l n j : Nat} {x : Int32} (x2 : Int32) {F G : Nat → Int32} (h1 : c ≠ k) (h2 : c ≠ l) (h3 : k ≠ l) : gx_sI (gx_sI (gx_sI (zz_ov (zz_ov (gx_sI M c i x) k n j F) l n j G) k (n + j) (F (n + j))) l (n + j) (G (n + j))) c i x2 = zz_ov (zz_ov (gx_sI M c i x2) k n (j + 1) F) l n (j + 1) G := by
  rw [zz_ovcm _ _ _ _ _ _ h3, zz_ovS _ _ _ _ _ _ rfl, zz_ovS _ _ _ _ _ _ rfl, zz_ovcm _ _ _ _ _ _ h2, zz_ovcm _ _ _ _ _ _ h1, zz_sIsI]
/-- the house with j more people -/
def zz_W7 (M : gx_Mem) (n j : Nat) (F G : Nat → Int32) : gx_Mem := zz_ov (zz_ov (gx_sI M 9 7 (nI (n + j))) 10 n j F) 11 n j G
def zz_W8 (M : gx_Mem) (n j : Nat) (F G : Nat → Int32) : gx_Mem := zz_ov (zz_ov (gx_sI M 57 1 (nI (n + j))) 58 n j F) 59 n j G
def zz_go (x y z n : Nat) (F G : Nat → Int32) (j : Nat) : Bool := decide (j < x ∧ y + 2 * j + 2 ≤ z ∧ n + j < 6) && (zz_rg (F (n + j)) 24 && zz_rg (G (n + j)) 4096)
theorem zz_welcome (M : gx_Mem) {n j : Nat} (F G : Nat → Int32) (h : n + j < 6) : f_X2_welcome 9 (F (n + j)) (G (n + j)) (zz_W7 M n j F G) = some (nI (n + j), zz_W7 M n (j + 1) F G) := by
  unfold f_X2_welcome
  have e : (zz_W7 M n j F G).1 9 7 = nI (n + j) := rfl
  rw [e, if_pos (show nI (n + j) < (6 : Int32) from nI_lt h (by decide))]
  simp only [zz_gi h (show 6 < 2147483648 by decide), zz_let, zz_cl (show n + j < 2147483648 by omega), show ∀ k i v, (gx_sI (zz_W7 M n j F G) (9 + 1) k v).1 9 i = (zz_W7 M n j F G).1 9 i from fun _ _ _ => rfl, show ∀ k i v k2 v2, (gx_sI (gx_sI (zz_W7 M n j F G) (9 + 1) k v) (9 + 2) k2 v2).1 9 i = (zz_W7 M n j F G).1 9 i from fun _ _ _ _ _ => rfl, e]
  rw [show nI (n + j) + 1 = nI (n + (j + 1)) from zz_add _ 1]
  have e2 := zz_w3 M (c := 9) (i := 7) (k := 10) (l := 11) (n := n) (j := j) (x := nI (n + j)) (nI (n + (j + 1))) (F := F) (G := G) (by decide) (by decide) (by decide)
  refine congrArg some (Prod.ext ?_ e2)
  show (gx_sI _ 9 7 (nI (n + (j + 1)))).1 9 7 - 1 = _
  rw [zz_sI1, if_pos ⟨rfl, rfl⟩, show (1 : Int32) = nI 1 from rfl, zz_sub (by omega)]
  rfl
theorem zz_addOne (M : gx_Mem) {n j : Nat} (F G : Nat → Int32) (h : n + j < 6) : f_X8_addOne (F (n + j)) (G (n + j)) (zz_W8 M n j F G) = some (nI (n + j), zz_W8 M n (j + 1) F G) := by
  unfold f_X8_addOne
  have e : (zz_W8 M n j F G).1 57 1 = nI (n + j) := rfl
  rw [e]
  simp only [zz_gi h (show 6 < 2147483648 by decide), zz_let, zz_cl (show n + j < 2147483648 by omega), show ∀ k i v, (gx_sI (zz_W8 M n j F G) 58 k v).1 57 i = (zz_W8 M n j F G).1 57 i from fun _ _ _ => rfl, show ∀ k i v k2 v2, (gx_sI (gx_sI (zz_W8 M n j F G) 58 k v) 59 k2 v2).1 57 i = (zz_W8 M n j F G).1 57 i from fun _ _ _ _ _ => rfl, e]
  rw [show nI (n + j) + 1 = nI (n + (j + 1)) from zz_add _ 1]
  have e2 := zz_w3 M (c := 57) (i := 1) (k := 58) (l := 59) (n := n) (j := j) (x := nI (n + j)) (nI (n + (j + 1))) (F := F) (G := G) (by decide) (by decide) (by decide)
  refine congrArg some (Prod.ext ?_ e2)
  show (gx_sI _ 57 1 (nI (n + (j + 1)))).1 57 1 - 1 = _
  rw [zz_sI1, if_pos ⟨rfl, rfl⟩, show (1 : Int32) = nI 1 from rfl, zz_sub (by omega)]
  rfl
theorem zz_pk7 {M : gx_Mem} {r x y z n j : Nat} {F G : Nat → Int32} (ag : Int32 → Int32 → gx_Mem → Option (Int32 × gx_Mem)) (hr : 12 ≤ r) (hz : M.1 r 3 = nI z) (hz6 : z ≤ 60) (hx : x ≤ 6) (hj : j ≤ 6) (hn : n ≤ 6) (hy : y + 2 * j < 2147483648)
    (hF : ∀ j, F (n + j) = (M.2 (r + 1) (y + 2 * j)).toInt32) (hG : ∀ j, G (n + j) = (M.2 (r + 1) (y + 2 * j + 1)).toInt32) :
    f_X7_people_k76 (nI x) r ag (nI j) (nI (y + 2 * j)) (zz_W7 M n j F G) = if zz_go x y z n F G j = true then ag (nI (j + 1)) (nI (y + 2 * (j + 1))) (zz_W7 M n (j + 1) F G) else some (nI j, zz_W7 M n j F G) := by
  unfold f_X7_people_k76 zz_go
  have e1 : (zz_W7 M n j F G).1 r 3 = nI z := by
    unfold zz_W7
    rw [zz_ov1, if_neg (by omega), zz_ov1, if_neg (by omega), zz_sI1, if_neg (by omega)]; exact hz
  have e2 : (zz_W7 M n j F G).1 9 7 = nI (n + j) := rfl
  have e3 : (zz_W7 M n j F G).2 = M.2 := rfl
  have e4 : (nI z - (2 : Int32) < nI (y + 2 * j)) = (z < y + 2 * j + 2) := by
    rw [zz_ltI, show (2 : Int32) = nI 2 from rfl]
    rw [Int32.toInt_sub, nI_toInt (by omega), nI_toInt (by omega), nI_toInt hy, Int.bmod_eq_of_le (by omega) (by omega)]
    exact propext ⟨fun h => by omega, fun h => by omega⟩
  rw [e1, e2, e3, show (6 : Int32) = nI 6 from rfl]
  simp only [zz_le (show x < 2147483648 by omega) (show j < 2147483648 by omega), e4, zz_le (show 6 < 2147483648 by decide) (show n + j < 2147483648 by omega)]
  by_cases c1 : x ≤ j
  · rw [if_pos c1, decide_eq_false (by omega)]; rfl
  · rw [if_neg c1]
    by_cases c2 : z < y + 2 * j + 2
    · rw [if_pos c2, decide_eq_false (by omega)]; rfl
    · rw [if_neg c2]
      by_cases c3 : 6 ≤ n + j
      · rw [if_pos c3, decide_eq_false (by omega)]; rfl
      · rw [if_neg c3, decide_eq_true (by omega), zz_gi (show y + 2 * j < 60 by omega) (by decide), zz_let, show (1 : Int32) = nI 1 from rfl, zz_add, zz_gi (show y + 2 * j + 1 < 60 by omega) (by decide), zz_let, zz_cl (show y + 2 * j < 2147483648 by omega), zz_cl (show y + 2 * j + 1 < 2147483648 by omega), zz_mayCome7, ← hF j, ← hG j, Bool.true_and]
        simp only [zz_bPs, zz_ifi]
        cases c4 : (zz_rg (F (n + j)) 24 && zz_rg (G (n + j)) 4096) with
        | false => rfl
        | true =>
          rw [if_pos rfl, if_pos rfl, zz_welcome M F G (by omega)]
          simp only [zz_bIs, zz_let, zz_add, show (2 : Int32) = nI 2 from rfl]
          rfl
theorem zz_pk8 {M : gx_Mem} {s x y z n j : Nat} {F G : Nat → Int32} (ag : Int32 → gx_Mem → Option (Int32 × gx_Mem)) (hs : s < 6) (hz : M.1 93 s = nI z) (hz6 : z ≤ 60) (hx : x ≤ 6) (hj : j ≤ x) (hn : n + j ≤ 6) (hy : y + 2 * j < 2147483648)
    (hF : ∀ j, y + 2 * j < 60 → F (n + j) = (M.2 94 (60 * s + (y + 2 * j))).toInt32) (hG : ∀ j, y + 2 * j + 1 < 60 → G (n + j) = (M.2 94 (60 * s + (y + 2 * j + 1))).toInt32) :
    f_X8_people_k58 (nI s) (nI y) (nI x) ag (nI j) (zz_W8 M n j F G) = if zz_go x y z n F G j = true then ag (nI (j + 1)) (zz_W8 M n (j + 1) F G) else some (nI j, zz_W8 M n j F G) := by
  unfold f_X8_people_k58 zz_go
  have e1 : (zz_W8 M n j F G).1 93 s = nI z := hz
  have e2 : (zz_W8 M n j F G).1 57 1 = nI (n + j) := rfl
  have e3 : (zz_W8 M n j F G).2 = M.2 := rfl
  rw [zz_cl (show s < 2147483648 by omega), e1, e2, e3, show (6 : Int32) = nI 6 from rfl, show (2 : Int32) = nI 2 from rfl, zz_mul, zL_ofI (show y < 2147483648 by omega), zL_ofI (show 2 * j < 2147483648 by omega), zL_add, zL_ofI (show z < 2147483648 by omega), show (60 : Int32) = nI 60 from rfl, zz_mul, show (1 : Int64) = zL 1 from rfl, show (0 : Int64) = zL 0 from rfl]
  simp only [zz_le (show x < 2147483648 by omega) (show j < 2147483648 by omega), zz_eq (show n + j < 2147483648 by omega) (show 6 < 2147483648 by decide), zz_let, zL_cmpn (show y + 2 * j < 9223372036854775808 by omega) (show 0 < 9223372036854775808 by decide), zL_add, zL_cmpg (show y + 2 * j + 1 < 9223372036854775808 by omega) (show z < 9223372036854775808 by omega)]
  by_cases c1 : x ≤ j
  · have : x = j := by omega
    subst this
    rw [if_pos c1, decide_eq_false (by omega)]; rfl
  · rw [if_neg c1, if_neg (by omega), zz_gi hs (by decide)]
    by_cases c2 : z < y + 2 * j + 2
    · rw [if_pos (by omega), decide_eq_false (by omega)]; rfl
    · rw [if_neg (by omega)]
      by_cases c3 : 6 ≤ n + j
      · rw [if_pos (by omega), decide_eq_false (by omega)]; rfl
      · rw [if_neg (by omega), decide_eq_true (by omega), zL_toI (show y + 2 * j < 2147483648 by omega), zz_add, show (1 : Int32) = nI 1 from rfl, zz_add, zz_gi (show 60 * s + (y + 2 * j) < 360 by omega) (by decide), zz_gi (show 60 * s + (y + 2 * j) < 360 by omega) (by decide), zz_cl (show 60 * s + (y + 2 * j) < 2147483648 by omega), zz_cl (show 60 * s + (y + 2 * j) + 1 < 2147483648 by omega), zz_isFlat8, show 60 * s + (y + 2 * j) + 1 = 60 * s + (y + 2 * j + 1) from rfl, ← hF j (by omega), ← hG j (by omega), Bool.true_and]
        simp only [zz_bPs, zz_ifi, zz_gi (show 60 * s + (y + 2 * j + 1) < 360 by omega) (show 360 < 2147483648 by decide)]
        rw [show (4095 : Int32) = nI 4095 from rfl, zz_in8 _ 4095 _ (by decide)]
        simp only [zz_bPs, zz_ifi]
        cases c4 : zz_rg (F (n + j)) 24 with
        | false => rfl
        | true =>
          rw [if_pos rfl]
          cases c5 : zz_rg (G (n + j)) 4096 with
          | false => rfl
          | true =>
            rw [if_pos rfl, zz_addOne M F G (by omega)]
            simp only [zz_bIs, zz_let, zz_add]
            rfl
theorem zz_loop1 {σ ρ : Type} (b : (σ → Option ρ) → σ → Option ρ) (n : Nat) (s : σ) : gx_loop b (n + 1) s = b (gx_loop b n) s := rfl
theorem zz_ge0 {j : Nat} (h : j < 2147483648) : (0 : Int32) ≤ nI j := by rw [zz_leI, zz_t0, nI_toInt h]; omega
theorem zz_k1 : ∀ k : Nat, k < 5 → k ≠ 1 → ¬ (-2 - nI k = (-3 : Int32)) ∧ ¬ (-2 - nI k = (-1 : Int32)) := by decide
theorem zz_sIself {M : gx_Mem} {k i : Nat} {v : Int32} (h : M.1 k i = v) : gx_sI M k i v = M := by
  refine Prod.ext ?_ rfl
  funext q j
  rw [zz_sI1]
  by_cases e : q = k ∧ j = i
  · obtain ⟨rfl, rfl⟩ := e; rw [if_pos ⟨rfl, rfl⟩]; exact h.symm
  · rw [if_neg e]
theorem zz_goT {x y z n j : Nat} {F G : Nat → Int32} (h : zz_go x y z n F G j = true) : (j < x ∧ y + 2 * j + 2 ≤ z ∧ n + j < 6) ∧ zz_rg (F (n + j)) 24 = true ∧ zz_rg (G (n + j)) 4096 = true := by
  unfold zz_go at h
  rw [Bool.and_eq_true, Bool.and_eq_true] at h
  exact ⟨of_decide_eq_true h.1, h.2⟩
theorem zz_neg0 {b : Int32} (hb : b < 0) : lg_cmp (b.toInt64 + ((2 : Int32) * 0).toInt64) 0 < 0 := by
  have e0 : b.toInt64 + ((2 : Int32) * 0).toInt64 = b.toInt64 := by
    rw [show (2 : Int32) * 0 = nI 0 from by simp [zz_nI0], zL_ofI (by decide)]
    show b.toInt64 + 0 = b.toInt64
    simp
  rw [e0]
  have lt : b.toInt64 < 0 := by
    rw [Int64.lt_iff_toInt_lt, Int32.toInt_toInt64]
    rw [zz_ltI] at hb
    exact hb
  unfold lg_cmp
  rw [Int64.lt_iff_toInt_lt] at lt
  rw [if_neg (show ¬ b.toInt64 > 0 from fun e => by rw [gt_iff_lt, Int64.lt_iff_toInt_lt] at e; omega), if_neg (show ¬ b.toInt64 = 0 from fun e => by rw [e] at lt; omega)]
  decide
theorem zz_neg58 {M : gx_Mem} {s x : Nat} {b : Int32} (hb : b < 0) (hx : x ≤ 6) (x1 : 1 ≤ x) : f_X8_people_l58 (nI s) b (nI x) gx_fuel 0 M = some (0, M) := by
  unfold f_X8_people_l58
  rw [show gx_fuel = 999 + 1 from rfl, zz_loop1]
  unfold f_X8_people_k58
  dsimp only
  rw [if_neg (show ¬ nI x ≤ 0 from fun e => by rw [show (0 : Int32) = nI 0 from rfl, zz_le (by omega) (by decide)] at e; omega), zz_let, if_pos (zz_neg0 hb)]
theorem zz_pplInv {M : gx_Mem} (h : zz_Inv M) {n J : Nat} {F G : Nat → Int32} (hn : M.1 9 7 = nI n) (nJ : n + J ≤ 6) (j3 : ∀ i, i < J → zz_rg (F (n + i)) 24 = true ∧ zz_rg (G (n + i)) 4096 = true) : zz_Inv (zz_W8 (zz_W7 M n J F G) n J F G) := by
  have hIC := h.IC.growN hn (m := n + J) (by omega) nJ
  refine ⟨?_, (((((h.II.w rfl).v fun _ => rfl).v fun _ => rfl).w rfl).v fun _ => rfl).v fun _ => rfl, (((((h.IT.w rfl).v fun _ => rfl).v fun _ => rfl).w rfl).v fun _ => rfl).v fun _ => rfl, ((((hIC.v fun _ => rfl).v fun _ => rfl).w rfl).v fun _ => rfl).v fun _ => rfl, (((((h.IB.w rfl).v fun _ => rfl).v fun _ => rfl).w rfl).v fun _ => rfl).v fun _ => rfl, (((((h.IS.w rfl).v fun _ => rfl).v fun _ => rfl).w rfl).v fun _ => rfl).v fun _ => rfl, (((((h.IL.w rfl).v fun _ => rfl).v fun _ => rfl).w rfl).v fun _ => rfl).v fun _ => rfl⟩
  obtain ⟨q1, q2, q3, q4, q5, q6, q7, q8, q9⟩ := h.IH
  refine ⟨⟨⟨n + J, nJ, rfl⟩, rfl⟩, fun p hp => ?_, fun p hp => ?_, q4, q5, q6, q7, q8, q9⟩
  · have := q2 p hp
    simp only [zz_W7, zz_W8, zz_sI1, zz_ov1]
    by_cases e : n ≤ p ∧ p < n + J
    · simp [e]
      obtain ⟨v, hv, ev⟩ := zz_rgT (j3 (p - n) (by omega)).1
      rw [show n + (p - n) = p by omega] at ev
      exact ⟨v, by omega, ev⟩
    · simp [e, this]
  · have := q3 p hp
    simp only [zz_W7, zz_W8, zz_sI1, zz_ov1]
    by_cases e : n ≤ p ∧ p < n + J
    · simp [e]
      obtain ⟨v, hv, ev⟩ := zz_rgT (j3 (p - n) (by omega)).2
      rw [show n + (p - n) = p by omega] at ev
      exact ⟨v, by omega, ev⟩
    · simp [e, this]
theorem zz_ppl7 {M : gx_Mem} {r x y z n J : Nat} {F G : Nat → Int32} (hr : 12 ≤ r) (hz : M.1 r 3 = nI z) (hz6 : z ≤ 60) (hx : x ≤ 6) (j1 : J ≤ x) (h6 : n ≤ 6) (hn : M.1 9 7 = nI n) (yb : ∀ i, i ≤ J → y + 2 * i < 2147483648 ∧ n + i ≤ 6)
    (f1 : ∀ j, F (n + j) = (M.2 (r + 1) (y + 2 * j)).toInt32) (g1 : ∀ j, G (n + j) = (M.2 (r + 1) (y + 2 * j + 1)).toInt32) (j2 : zz_go x y z n F G J = false) (j3 : ∀ i, i < J → zz_go x y z n F G i = true) :
    f_X7_people_l76 (nI x) r gx_fuel 0 (nI y) M = some (nI J, zz_W7 M n J F G) := by
  obtain ⟨st, hst, e⟩ := zz_for (fun (ag76 : Int32 × Int32 × gx_Mem → Option (Int32 × gx_Mem)) (t : Int32 × Int32 × gx_Mem) => f_X7_people_k76 (nI x) r (fun v5 v6 M => ag76 (v5, v6, M)) t.1 t.2.1 t.2.2) (fun t => some (t.1, t.2.2)) (fun i t => t = (nI i, nI (y + 2 * i), zz_W7 M n i F G)) J gx_fuel (by unfold gx_fuel; omega) (0, nI y, M) (by
    have : zz_W7 M n 0 F G = M := by unfold zz_W7; rw [zz_ov0, zz_ov0]; exact zz_sIself hn
    rw [this]; rfl) (fun i t hi ht => by
    subst ht
    refine ⟨_, rfl, fun ag => ?_⟩
    dsimp only
    rw [zz_pk7 (z := z) _ hr hz hz6 hx (by omega) h6 (yb i (by omega)).1 f1 g1, if_pos (j3 i hi)]) (fun t ht ag => by
    subst ht
    dsimp only
    rw [zz_pk7 (z := z) _ hr hz hz6 hx (by omega) h6 (yb J (by omega)).1 f1 g1, if_neg (by rw [j2]; decide)])
  subst hst
  exact e
theorem zz_ppl8 {M : gx_Mem} {s x y z n J : Nat} {F G : Nat → Int32} (hs : s < 6) (hz : M.1 93 s = nI z) (hz6 : z ≤ 60) (hx : x ≤ 6) (j1 : J ≤ x) (hn : M.1 57 1 = nI n) (yb : ∀ i, i ≤ J → y + 2 * i < 2147483648 ∧ n + i ≤ 6)
    (f1 : ∀ j, y + 2 * j < 60 → F (n + j) = (M.2 94 (60 * s + (y + 2 * j))).toInt32) (g1 : ∀ j, y + 2 * j + 1 < 60 → G (n + j) = (M.2 94 (60 * s + (y + 2 * j + 1))).toInt32) (j2 : zz_go x y z n F G J = false) (j3 : ∀ i, i < J → zz_go x y z n F G i = true) :
    f_X8_people_l58 (nI s) (nI y) (nI x) gx_fuel 0 M = some (nI J, zz_W8 M n J F G) := by
  obtain ⟨st, hst, e2⟩ := zz_for (fun (ag58 : Int32 × gx_Mem → Option (Int32 × gx_Mem)) (t : Int32 × gx_Mem) => f_X8_people_k58 (nI s) (nI y) (nI x) (fun v4 M => ag58 (v4, M)) t.1 t.2) (fun t => some t) (fun i t => t = (nI i, zz_W8 M n i F G)) J gx_fuel (by unfold gx_fuel; omega) (0, M) (by
    have : zz_W8 M n 0 F G = M := by unfold zz_W8; rw [zz_ov0, zz_ov0]; exact zz_sIself hn
    rw [this]; rfl) (fun i t hi ht => by
    subst ht
    refine ⟨_, rfl, fun ag => ?_⟩
    dsimp only
    rw [zz_pk8 (z := z) _ hs hz hz6 hx (by omega) (yb i (by omega)).2 (yb i (by omega)).1 f1 g1, if_pos (j3 i hi)]) (fun t ht ag => by
    subst ht
    dsimp only
    rw [zz_pk8 (z := z) _ hs hz hz6 hx (by omega) (yb J (by omega)).2 (yb J (by omega)).1 f1 g1, if_neg (by rw [j2]; decide)])
  subst hst
  exact e2
theorem op_people (a b c : Int32) : zz_ok (f_X7_people a b c) (f_X8_people a b c) := by
  intro M h
  obtain ⟨n, h6, hn, hn8⟩ := h.ppl
  unfold f_X7_people
  rw [zz_isShelf7]
  simp only [zz_bPs, zz_ifi]
  cases ha : zz_rg a 6 with
  | false => exact ⟨-1, M, rfl, M, by unfold f_X8_people; rw [zz_isShelf8, ha]; rfl, h⟩
  | true =>
    obtain ⟨s, hs, rfl⟩ := zz_rgT ha
    rw [if_pos rfl]
    have hg : ∀ M1 : gx_Mem, f_X8_people (nI s) b c M1 = if c < 1 then some (-1, M1) else if 6 < c then some (-1, M1) else if M1.1 92 s = (-1 : Int32) then f_X8_people_b43 (nI s) b c M1 else if M1.1 92 s = (-3 : Int32) then f_X8_people_b43 (nI s) b c M1 else some (-12, M1) := by
      intro M1
      unfold f_X8_people f_X8_in
      rw [zz_isShelf8, ha]
      simp only [zz_bPs, zz_ifi, if_true, zz_gi hs (show 6 < 2147483648 by decide), zz_cl (show s < 2147483648 by omega)]
      by_cases c1 : c < 1
      · rw [if_pos c1, if_pos c1]; rfl
      · rw [if_neg c1, if_neg c1]
        by_cases c2 : 6 < c
        · rw [if_pos c2, if_pos c2]; rfl
        · rw [if_neg c2, if_neg c2]; rfl
    by_cases c1 : c < 1
    · rw [if_pos c1]; exact ⟨-1, M, rfl, M, by rw [hg, if_pos c1], h⟩
    · rw [if_neg c1]
      by_cases c2 : 6 < c
      · rw [if_neg (show ¬ c ≤ 6 by rw [zz_ltI] at c2; rw [zz_leI]; omega)]
        exact ⟨-1, M, rfl, M, by rw [hg, if_neg c1, if_pos c2], h⟩
      · rw [if_pos (show c ≤ 6 by rw [zz_ltI] at c2; rw [zz_leI]; omega), zz_gi hs (by decide), zz_let, zz_cl (show s < 2147483648 by omega)]
        have hb43 : ∀ M1 : gx_Mem, f_X8_people_b43 (nI s) b c M1 = if M1.1 92 s = (-1 : Int32) then some (0, M1) else f_X8_people_l58 (nI s) b c gx_fuel 0 M1 := by
          intro M1
          unfold f_X8_people_b43
          rw [zz_gi hs (by decide), zz_cl (show s < 2147483648 by omega)]
        obtain ⟨h1, h2, h3⟩ := h.IS s hs
        rcases h1 with ⟨s1, s2, s3⟩ | ⟨j, hj, s1, s2, s3, s4⟩ | ⟨k, z, hk, hz, s1, s2, s3, s4, s5⟩
        · rw [s1, if_neg (by decide), s2, if_pos (by decide)]
          refine ⟨0, M, ?_, M, by rw [hg, if_neg c1, if_neg c2, s3, if_pos rfl, hb43, s3, if_pos rfl], h⟩
          unfold f_X7_people_b56
          rw [s2, if_pos (by decide)]
        · rw [s1, if_pos (zz_ge0 (show j < 2147483648 by omega))]
          refine ⟨-12, M, rfl, M, ?_, h⟩
          rw [hg, if_neg c1, if_neg c2, s4, s1, if_neg, if_neg]
          · intro e
            have := congrArg Int32.toInt e
            rw [nI_toInt (show j < 2147483648 by omega), show (-3 : Int32).toInt = -3 from rfl] at this
            omega
          · intro e
            have := congrArg Int32.toInt e
            rw [nI_toInt (show j < 2147483648 by omega), show (-1 : Int32).toInt = -1 from rfl] at this
            omega
        · rw [s1, if_neg (by decide), s2, if_neg (nI_pos (show k < 2147483648 by omega))]
          have e92 : M.1 92 s = -2 - nI k := by rw [s4, s2]
          by_cases k1 : k = 1
          · subst k1
            rw [if_pos (show nI 1 = (1 : Int32) from rfl)]
            unfold f_X7_people_b56
            rw [s2, if_neg (by decide)]
            have hg2 : ∀ M1 : gx_Mem, M1.1 92 s = M.1 92 s → f_X8_people (nI s) b c M1 = f_X8_people_l58 (nI s) b c gx_fuel 0 M1 := by
              intro M1 e
              rw [hg, if_neg c1, if_neg c2, e, e92, if_neg (by decide), if_pos (by decide), hb43, e, e92, if_neg (by decide)]
            obtain ⟨x, hx, rfl⟩ : ∃ x : Nat, x ≤ 6 ∧ c = nI x := by
              rcases zz_case c with hc | ⟨x, hx, rfl⟩
              · exact absurd hc (by rw [zz_ltI] at c1 ⊢; rw [zz_t0]; rw [show (1 : Int32).toInt = 1 from rfl] at c1; omega)
              · refine ⟨x, ?_, rfl⟩
                rw [show (6 : Int32) = nI 6 from rfl, zz_lt (by decide) hx] at c2
                omega
            have x1 : 1 ≤ x := by
              rw [show (1 : Int32) = nI 1 from rfl, zz_lt (by omega) (by decide)] at c1
              omega
            rcases zz_case b with hb | ⟨y, hy, rfl⟩
            · rw [if_neg (show ¬ 0 ≤ b by rw [zz_ltI] at hb; rw [zz_leI]; omega)]
              refine ⟨0, M, rfl, M, ?_, h⟩
              rw [hg2 M rfl]
              exact zz_neg58 hb (by omega) x1
            · rw [if_pos (zz_ge0 hy)]
              generalize hF : (fun i => (M.2 (44 + 2 * s + 1) (y + 2 * (i - n))).toInt32 : Nat → Int32) = F
              generalize hG : (fun i => (M.2 (44 + 2 * s + 1) (y + 2 * (i - n) + 1)).toInt32 : Nat → Int32) = G
              have f1 : ∀ j, F (n + j) = (M.2 (44 + 2 * s + 1) (y + 2 * j)).toInt32 := fun j => by rw [← hF]; show (M.2 _ (y + 2 * (n + j - n))).toInt32 = _; rw [Nat.add_sub_cancel_left]
              have g1 : ∀ j, G (n + j) = (M.2 (44 + 2 * s + 1) (y + 2 * j + 1)).toInt32 := fun j => by rw [← hG]; show (M.2 _ (y + 2 * (n + j - n) + 1)).toInt32 = _; rw [Nat.add_sub_cancel_left]
              obtain ⟨J, j1, j2, j3⟩ := zz_first (zz_go x y z n F G) x (by unfold zz_go; rw [decide_eq_false (by omega)]; rfl)
              have yb : ∀ i, i ≤ J → y + 2 * i < 2147483648 ∧ n + i ≤ 6 := by
                intro i hi
                rcases Nat.eq_zero_or_pos i with rfl | hp
                · omega
                · have := (zz_goT (j3 (i - 1) (by omega))).1
                  omega
              refine ⟨_, zz_W7 M n J F G, zz_ppl7 (by omega) s3 hz hx j1 h6 hn yb f1 g1 j2 j3, ?_⟩
              generalize hA : zz_W7 M n J F G = A
              have a92 : A.1 92 s = M.1 92 s := by rw [← hA]; rfl
              have a93 : A.1 93 s = nI z := by rw [← hA]; exact s5.trans s3
              have a2 : A.2 = M.2 := by rw [← hA]; rfl
              have a57 : A.1 57 1 = nI n := by rw [← hA]; exact hn8
              rw [hg2 A a92]
              refine ⟨zz_W8 A n J F G, zz_ppl8 hs a93 hz hx j1 a57 yb (fun j hj => by rw [a2, h2 _ hj, f1, show 44 + 2 * s + 1 = 45 + 2 * s by omega]) (fun j hj => by rw [a2, h2 _ hj, g1, show 44 + 2 * s + 1 = 45 + 2 * s by omega]) j2 j3, ?_⟩
              subst hA
              exact zz_pplInv h hn (yb J (Nat.le_refl _)).2 (fun i hi => (zz_goT (j3 i hi)).2)
          · rw [if_neg (by rw [show (1 : Int32) = nI 1 from rfl, zz_eq (by omega) (by decide)]; exact k1)]
            refine ⟨-12, M, rfl, M, ?_, h⟩
            rw [hg, if_neg c1, if_neg c2, e92, if_neg (zz_k1 k hk k1).2, if_neg (zz_k1 k hk k1).1]

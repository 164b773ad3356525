def zz_F8 (D : Nat) : Nat → gx_Mem → Option gx_Mem
  | 0 => f_X8_either D
  | 1 => f_X8_both D
  | 2 => f_X8_compared D
  | 3 => f_X8_sum D
  | 4 => f_X8_product D
  | _ => f_X8_operand D
/-- a level whose loop goes as zz_loop8 wants -/
theorem zz_lvl8 {A : gx_Mem} {sz : Nat} (hs : sz ≤ 120) {L o : Nat} (hL : L < 5) {f : Nat → Nat × Option (List (Int32 × Int32))} (hf : ∀ p, p ≤ sz → zz_good sz p (f p)) (F : gx_Mem → Option gx_Mem)
    (ih : ∀ (M : gx_Mem) (p : Nat) (acc : List (Int32 × Int32)), zz_t8 A M p o → zz_hs8 M acc → acc.length ≤ p → p ≤ sz → zz_R8 A acc p o (f p) (F M))
    (kb : (gx_Mem → Option gx_Mem) → gx_Mem → Option gx_Mem) (k1 : ∀ ag M, 0 ≤ M.1 57 17 → kb ag M = some M)
    (k2 : ∀ ag M q, zz_t8 A M q o → q ≤ sz → zz_lvO (zz_b8 A sz q) = L → kb ag M = gx_bP (F (gx_sI M 57 16 (nI (q + 1)))) (fun M7 => gx_bP (f_X8_addStep (zz_b8 A sz q) 0 M7) (fun M9 => ag M9)))
    (k3 : ∀ ag M q, zz_t8 A M q o → q ≤ sz → ¬ zz_lvO (zz_b8 A sz q) = L → kb ag M = some M) (M : gx_Mem) (p : Nat) (acc : List (Int32 × Int32)) (ht : zz_t8 A M p o) (hh : zz_hs8 M acc) (hacc : acc.length ≤ p) (hp : p ≤ sz) :
    zz_R8 A acc p o (match f p with
      | (q, none) => (q, none)
      | (q, some c) => zz_lp (zz_b8 A sz) f L 120 q c) (gx_bP (F M) (fun M2 => gx_loop kb gx_fuel M2)) := by
  have r := ih M p acc ht hh hacc hp
  have gg := hf p hp
  rcases hr : f p with ⟨q, r'⟩
  rw [hr] at r gg
  cases r' with
  | none =>
    obtain ⟨M2, r1, r2⟩ := r
    obtain ⟨gg1, gg2⟩ := gg
    dsimp only at r2 gg1 gg2
    rw [r1, zz_bPs]
    show zz_R8 A acc p o (q, none) (kb (gx_loop kb 999) M2)
    rw [k1 _ M2 (zz_x8neg r2 (by omega))]
    exact ⟨M2, rfl, r2⟩
  | some c =>
    obtain ⟨M2, r1, r2, r3⟩ := r
    rw [r1, zz_bPs]
    exact zz_loop8 hs hL hf F ih kb k1 k2 k3 hacc 120 M2 q c gx_fuel (by omega) (by decide) r2 r3 gg
theorem zz_lv0 {x : Int32} : zz_lvO x = 0 ↔ x = 124 := ⟨fun h => by rcases zz_lvC (s := x) (by omega) with rfl | rfl | rfl | rfl | rfl | rfl | rfl | rfl | rfl | rfl <;> first | rfl | exact absurd h (by decide), fun h => by rw [h]; rfl⟩
theorem zz_lv1 {x : Int32} : zz_lvO x = 1 ↔ x = 38 := ⟨fun h => by rcases zz_lvC (s := x) (by omega) with rfl | rfl | rfl | rfl | rfl | rfl | rfl | rfl | rfl | rfl <;> first | rfl | exact absurd h (by decide), fun h => by rw [h]; rfl⟩
theorem zz_lv2 {x : Int32} : zz_lvO x = 2 ↔ (x = 60 ∨ x = 61 ∨ x = 62) := ⟨fun h => by rcases zz_lvC (s := x) (by omega) with rfl | rfl | rfl | rfl | rfl | rfl | rfl | rfl | rfl | rfl <;> first | exact absurd h (by decide) | decide, fun h => by rcases h with rfl | rfl | rfl <;> rfl⟩
theorem zz_lv3 {x : Int32} : zz_lvO x = 3 ↔ (x = 43 ∨ x = 45) := ⟨fun h => by rcases zz_lvC (s := x) (by omega) with rfl | rfl | rfl | rfl | rfl | rfl | rfl | rfl | rfl | rfl <;> first | exact absurd h (by decide) | decide, fun h => by rcases h with rfl | rfl <;> rfl⟩
theorem zz_lv4 {x : Int32} : zz_lvO x = 4 ↔ (x = 42 ∨ x = 47 ∨ x = 37) := ⟨fun h => by rcases zz_lvC (s := x) (by omega) with rfl | rfl | rfl | rfl | rfl | rfl | rfl | rfl | rfl | rfl <;> first | exact absurd h (by decide) | decide, fun h => by rcases h with rfl | rfl | rfl <;> rfl⟩
theorem zz_either8 {A : gx_Mem} {sz : Nat} (hA : A.1 57 15 = nI sz) (hs : sz ≤ 120) {o D : Nat} {f : Nat → Nat × Option (List (Int32 × Int32))} (hf : ∀ p, p ≤ sz → zz_good sz p (f p))
    (ih : ∀ (M : gx_Mem) (p : Nat) (acc : List (Int32 × Int32)), zz_t8 A M p o → zz_hs8 M acc → acc.length ≤ p → p ≤ sz → zz_R8 A acc p o (f p) (f_X8_both D M)) (M : gx_Mem) (p : Nat) (acc : List (Int32 × Int32)) (ht : zz_t8 A M p o) (hh : zz_hs8 M acc) (hacc : acc.length ≤ p) (hp : p ≤ sz) :
    zz_R8 A acc p o (match f p with
      | (q, none) => (q, none)
      | (q, some c) => zz_lp (zz_b8 A sz) f 0 120 q c) (f_X8_either (D + 1) M) := by
  refine zz_lvl8 hs (by decide) hf (f_X8_both D) ih (fun ag s => f_X8_either_k4 (f_X8_both D) (f_X8_compared D) (f_X8_either D) (f_X8_operand D) (f_X8_product D) (f_X8_sum D) (fun M => ag (M)) s) (fun ag M h => ?_) (fun ag M q h hq e => ?_) (fun ag M q h hq e => ?_) M p acc ht hh hacc hp
  · unfold f_X8_either_k4
    rw [if_pos h]
  · have e' := zz_lv0.1 e
    unfold f_X8_either_k4
    rw [if_neg (zz_t8neg h), zz_look8 hA hs h.1 h.2.1 hq, zz_bPs, if_pos e', h.2.1, show nI q + 1 = nI (q + 1) from zz_add q 1, zz_let, e']
  · unfold f_X8_either_k4
    rw [if_neg (zz_t8neg h), zz_look8 hA hs h.1 h.2.1 hq, zz_bPs, if_neg (fun q => e (zz_lv0.2 q))]
theorem zz_both8 {A : gx_Mem} {sz : Nat} (hA : A.1 57 15 = nI sz) (hs : sz ≤ 120) {o D : Nat} {f : Nat → Nat × Option (List (Int32 × Int32))} (hf : ∀ p, p ≤ sz → zz_good sz p (f p))
    (ih : ∀ (M : gx_Mem) (p : Nat) (acc : List (Int32 × Int32)), zz_t8 A M p o → zz_hs8 M acc → acc.length ≤ p → p ≤ sz → zz_R8 A acc p o (f p) (f_X8_compared D M)) (M : gx_Mem) (p : Nat) (acc : List (Int32 × Int32)) (ht : zz_t8 A M p o) (hh : zz_hs8 M acc) (hacc : acc.length ≤ p) (hp : p ≤ sz) :
    zz_R8 A acc p o (match f p with
      | (q, none) => (q, none)
      | (q, some c) => zz_lp (zz_b8 A sz) f 1 120 q c) (f_X8_both (D + 1) M) := by
  refine zz_lvl8 hs (by decide) hf (f_X8_compared D) ih (fun ag s => f_X8_both_k4 (f_X8_both D) (f_X8_compared D) (f_X8_either D) (f_X8_operand D) (f_X8_product D) (f_X8_sum D) (fun M => ag (M)) s) (fun ag M h => ?_) (fun ag M q h hq e => ?_) (fun ag M q h hq e => ?_) M p acc ht hh hacc hp
  · unfold f_X8_both_k4
    rw [if_pos h]
  · have e' := zz_lv1.1 e
    unfold f_X8_both_k4
    rw [if_neg (zz_t8neg h), zz_look8 hA hs h.1 h.2.1 hq, zz_bPs, if_pos e', h.2.1, show nI q + 1 = nI (q + 1) from zz_add q 1, zz_let, e']
  · unfold f_X8_both_k4
    rw [if_neg (zz_t8neg h), zz_look8 hA hs h.1 h.2.1 hq, zz_bPs, if_neg (fun q => e (zz_lv1.2 q))]
theorem zz_sum8 {A : gx_Mem} {sz : Nat} (hA : A.1 57 15 = nI sz) (hs : sz ≤ 120) {o D : Nat} {f : Nat → Nat × Option (List (Int32 × Int32))} (hf : ∀ p, p ≤ sz → zz_good sz p (f p))
    (ih : ∀ (M : gx_Mem) (p : Nat) (acc : List (Int32 × Int32)), zz_t8 A M p o → zz_hs8 M acc → acc.length ≤ p → p ≤ sz → zz_R8 A acc p o (f p) (f_X8_product D M)) (M : gx_Mem) (p : Nat) (acc : List (Int32 × Int32)) (ht : zz_t8 A M p o) (hh : zz_hs8 M acc) (hacc : acc.length ≤ p) (hp : p ≤ sz) :
    zz_R8 A acc p o (match f p with
      | (q, none) => (q, none)
      | (q, some c) => zz_lp (zz_b8 A sz) f 3 120 q c) (f_X8_sum (D + 1) M) := by
  refine zz_lvl8 hs (by decide) hf (f_X8_product D) ih (fun ag s => f_X8_sum_k4 (f_X8_both D) (f_X8_compared D) (f_X8_either D) (f_X8_operand D) (f_X8_product D) (f_X8_sum D) (fun M => ag (M)) s) (fun ag M h => ?_) (fun ag M q h hq e => ?_) (fun ag M q h hq e => ?_) M p acc ht hh hacc hp
  · unfold f_X8_sum_k4
    rw [if_pos h]
  · have lk := zz_look8 hA hs h.1 h.2.1 hq
    have b29 : f_X8_sum_b29 (f_X8_both D) (f_X8_compared D) (f_X8_either D) (f_X8_operand D) (f_X8_product D) (f_X8_sum D) (fun M => ag M) M = gx_bP (f_X8_product D (gx_sI M 57 16 (nI (q + 1)))) (fun M7 => gx_bP (f_X8_addStep (zz_b8 A sz q) 0 M7) (fun M9 => ag M9)) := by
      unfold f_X8_sum_b29
      rw [lk, zz_bPs, h.2.1, show nI q + 1 = nI (q + 1) from zz_add q 1, zz_let]
    unfold f_X8_sum_k4
    rw [if_neg (zz_t8neg h), lk, zz_bPs, zz_bPs, b29]
    rcases zz_lv3.1 e with k | k
    · rw [if_pos k]
    · rw [if_neg (show ¬ zz_b8 A sz q = 43 by rw [k]; decide), if_pos k]
  · unfold f_X8_sum_k4
    rw [if_neg (zz_t8neg h), zz_look8 hA hs h.1 h.2.1 hq, zz_bPs, zz_bPs, if_neg (fun q => e (zz_lv3.2 (.inl q))), if_neg (fun q => e (zz_lv3.2 (.inr q)))]
theorem zz_product8 {A : gx_Mem} {sz : Nat} (hA : A.1 57 15 = nI sz) (hs : sz ≤ 120) {o D : Nat} {f : Nat → Nat × Option (List (Int32 × Int32))} (hf : ∀ p, p ≤ sz → zz_good sz p (f p))
    (ih : ∀ (M : gx_Mem) (p : Nat) (acc : List (Int32 × Int32)), zz_t8 A M p o → zz_hs8 M acc → acc.length ≤ p → p ≤ sz → zz_R8 A acc p o (f p) (f_X8_operand D M)) (M : gx_Mem) (p : Nat) (acc : List (Int32 × Int32)) (ht : zz_t8 A M p o) (hh : zz_hs8 M acc) (hacc : acc.length ≤ p) (hp : p ≤ sz) :
    zz_R8 A acc p o (match f p with
      | (q, none) => (q, none)
      | (q, some c) => zz_lp (zz_b8 A sz) f 4 120 q c) (f_X8_product (D + 1) M) := by
  refine zz_lvl8 hs (by decide) hf (f_X8_operand D) ih (fun ag s => f_X8_product_k4 (f_X8_both D) (f_X8_compared D) (f_X8_either D) (f_X8_operand D) (f_X8_product D) (f_X8_sum D) (fun M => ag (M)) s) (fun ag M h => ?_) (fun ag M q h hq e => ?_) (fun ag M q h hq e => ?_) M p acc ht hh hacc hp
  · unfold f_X8_product_k4
    rw [if_pos h]
  · have lk := zz_look8 hA hs h.1 h.2.1 hq
    have b38 : f_X8_product_b38 (f_X8_both D) (f_X8_compared D) (f_X8_either D) (f_X8_operand D) (f_X8_product D) (f_X8_sum D) (fun M => ag M) M = gx_bP (f_X8_operand D (gx_sI M 57 16 (nI (q + 1)))) (fun M7 => gx_bP (f_X8_addStep (zz_b8 A sz q) 0 M7) (fun M9 => ag M9)) := by
      unfold f_X8_product_b38
      rw [lk, zz_bPs, h.2.1, show nI q + 1 = nI (q + 1) from zz_add q 1, zz_let]
    unfold f_X8_product_k4
    rw [if_neg (zz_t8neg h), lk, zz_bPs, zz_bPs, zz_bPs, b38]
    rcases zz_lv4.1 e with k | k | k
    · rw [if_pos k]
    · rw [if_neg (show ¬ zz_b8 A sz q = 42 by rw [k]; decide), if_pos k]
    · rw [if_neg (show ¬ zz_b8 A sz q = 42 by rw [k]; decide), if_neg (show ¬ zz_b8 A sz q = 47 by rw [k]; decide), if_pos k]
  · unfold f_X8_product_k4
    rw [if_neg (zz_t8neg h), zz_look8 hA hs h.1 h.2.1 hq, zz_bPs, zz_bPs, zz_bPs, if_neg (fun q => e (zz_lv4.2 (.inl q))), if_neg (fun q => e (zz_lv4.2 (.inr (.inl q)))), if_neg (fun q => e (zz_lv4.2 (.inr (.inr q))))]
theorem zz_compared8 {A : gx_Mem} {sz : Nat} (hA : A.1 57 15 = nI sz) (hs : sz ≤ 120) {o D : Nat} {f : Nat → Nat × Option (List (Int32 × Int32))} (hf : ∀ p, p ≤ sz → zz_good sz p (f p))
    (ih : ∀ (M : gx_Mem) (p : Nat) (acc : List (Int32 × Int32)), zz_t8 A M p o → zz_hs8 M acc → acc.length ≤ p → p ≤ sz → zz_R8 A acc p o (f p) (f_X8_sum D M)) (M : gx_Mem) (p : Nat) (acc : List (Int32 × Int32)) (ht : zz_t8 A M p o) (hh : zz_hs8 M acc) (hacc : acc.length ≤ p) (hp : p ≤ sz) :
    zz_R8 A acc p o (match f p with
      | (q, none) => (q, none)
      | (q, some c) => zz_lp (zz_b8 A sz) f 2 1 q c) (f_X8_compared (D + 1) M) := by
  have r := ih M p acc ht hh hacc hp
  have gg := hf p hp
  show zz_R8 A acc p o _ (f_X8_compared_o (f_X8_both D) (f_X8_compared D) (f_X8_either D) (f_X8_operand D) (f_X8_product D) (f_X8_sum D) M)
  unfold f_X8_compared_o f_X8_compared_b35
  rcases hr : f p with ⟨q, r'⟩
  rw [hr] at r gg
  cases r' with
  | none =>
    obtain ⟨M2, r1, r2⟩ := r
    obtain ⟨gg1, gg2⟩ := gg
    dsimp only at r2 gg1 gg2
    rw [r1, zz_bPs, zz_look8 hA hs r2.1 r2.2.1 gg2, zz_bPs, if_pos (zz_x8neg r2 (by omega))]
    exact ⟨M2, rfl, r2⟩
  | some c =>
    obtain ⟨M2, r1, r2, r3⟩ := r
    obtain ⟨g1, g2, g3, g4⟩ := gg
    dsimp only at r2 g1 g2 g3
    rw [r1, zz_bPs, zz_look8 hA hs r2.1 r2.2.1 g2, zz_bPs, if_neg (zz_t8neg r2), r2.2.1, show nI q + 1 = nI (q + 1) from zz_add q 1]
    dsimp only
    unfold zz_lp
    by_cases e : zz_lvO (zz_b8 A sz q) = 2
    · rw [if_pos e]
      have hq : q < sz := by
        rcases Nat.lt_or_ge q sz with w | w
        · exact w
        · rw [zz_b8_out A sz q w] at e; exact absurd e (by decide)
      have hlen : (acc ++ c).length ≤ q + 1 := by rw [List.length_append]; omega
      have r5 := ih (gx_sI M2 57 16 (nI (q + 1))) (q + 1) (acc ++ c) (r2.go (q + 1)) (r3.go 16 (by decide) _) hlen hq
      have gg := hf (q + 1) hq
      have o8 := zz_op8 (s := zz_b8 A sz q) (by rw [e]; decide)
      have e3 : ∀ X : Option gx_Mem, (if zz_b8 A sz q = 60 then X else (if zz_b8 A sz q = 61 then X else (if zz_b8 A sz q = 62 then X else some M2))) = X := fun X => by
        rcases zz_lv2.1 e with k | k | k
        · rw [if_pos k]
        · rw [if_neg (show ¬ zz_b8 A sz q = 60 by rw [k]; decide), if_pos k]
        · rw [if_neg (show ¬ zz_b8 A sz q = 60 by rw [k]; decide), if_neg (show ¬ zz_b8 A sz q = 61 by rw [k]; decide), if_pos k]
      rw [e3, zz_let]
      rcases hr5 : f (q + 1) with ⟨q', r'⟩
      rw [hr5] at r5 gg
      cases r' with
      | none =>
        obtain ⟨M3, m1, m2⟩ := r5
        obtain ⟨gg1, gg2⟩ := gg
        dsimp only at m2 gg1 gg2
        rw [List.length_append] at m2
        obtain ⟨M4, n1, x1, x2, x3, c2, x4, x5⟩ := zz_add8x m2 (by omega) o8.1 0
        rw [m1, zz_bPs, n1, zz_bPs]
        exact ⟨M4, rfl, x1, x2, x3, c2, show c2 ≤ acc.length + (q' - p) + 1 by omega, x5⟩
      | some c2 =>
        obtain ⟨M3, m1, m2, m3⟩ := r5
        obtain ⟨gg1, gg2, gg3, gg4⟩ := gg
        dsimp only at m2 gg1 gg2 gg3
        have hl : (acc ++ c ++ c2).length < 130 := by rw [List.length_append, List.length_append]; omega
        rw [m1, zz_bPs, zz_add8 hl m3.1 o8.1 0, zz_bPs]
        have m5 := zz_add8h m3 (o8.2 0)
        rw [show acc ++ c ++ c2 ++ [(zz_b8 A sz q, (0 : Int32))] = acc ++ (c ++ c2 ++ [(zz_b8 A sz q, 0)]) by simp only [List.append_assoc]] at m5
        exact ⟨_, rfl, zz_add8t m2 _ _, m5⟩
    · rw [if_neg e, if_neg (fun k => e (zz_lv2.2 (.inl k))), if_neg (fun k => e (zz_lv2.2 (.inr (.inl k)))), if_neg (fun k => e (zz_lv2.2 (.inr (.inr k))))]
      exact ⟨M2, rfl, r2, r3⟩
theorem zz_read8 {A : gx_Mem} {sz : Nat} (hA : A.1 57 15 = nI sz) (hs : sz ≤ 120) : ∀ d D o L, d ≤ D → o ≤ 6 → L ≤ 6 → (6 - L) + 1 + 7 * (6 - o) ≤ d → ∀ (M : gx_Mem) (p : Nat) (acc : List (Int32 × Int32)), zz_t8 A M p o → zz_hs8 M acc → acc.length ≤ p → p ≤ sz → zz_R8 A acc p o (zz_sp (zz_b8 A sz) d L o p) (zz_F8 D L M) := by
  intro d
  induction d with
  | zero => intro D o L _ ho hL h; omega
  | succ d ih =>
    intro D o L hD ho hL hd M p acc ht hh hacc hp
    obtain ⟨D, rfl⟩ : ∃ e, D = e + 1 := ⟨D - 1, by omega⟩
    have gp : ∀ L o p, p ≤ sz → zz_good sz p (zz_sp (zz_b8 A sz) d L o p) := fun L o p hp => zz_sp_gp (zz_b8_out A sz) d L o p hp
    unfold zz_sp
    match L, hL with
    | 0, _ => exact zz_either8 hA hs (gp 1 o) (ih D o 1 (by omega) ho (by decide) (by omega)) M p acc ht hh hacc hp
    | 1, _ => exact zz_both8 hA hs (gp 2 o) (ih D o 2 (by omega) ho (by decide) (by omega)) M p acc ht hh hacc hp
    | 2, _ => exact zz_compared8 hA hs (gp 3 o) (ih D o 3 (by omega) ho (by decide) (by omega)) M p acc ht hh hacc hp
    | 3, _ => exact zz_sum8 hA hs (gp 4 o) (ih D o 4 (by omega) ho (by decide) (by omega)) M p acc ht hh hacc hp
    | 4, _ => exact zz_product8 hA hs (gp 5 o) (ih D o 5 (by omega) ho (by decide) (by omega)) M p acc ht hh hacc hp
    | 5, _ => exact ih (D + 1) o 6 (by omega) ho (by decide) (by omega) M p acc ht hh hacc hp
    | 6, _ => exact zz_one8 hA hs ho (gp 0 (o + 1)) (gp 6 (o + 1)) (fun co => ih D (o + 1) 0 (by omega) (by omega) (by decide) (by omega)) (fun co => ih D (o + 1) 6 (by omega) (by omega) (by decide) (by omega)) M p acc ht hh hacc hp

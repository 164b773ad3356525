theorem zz_wrong8 {A M : gx_Mem} {p o : Nat} {acc : List (Int32 × Int32)} (ht : zz_t8 A M p o) (hh : zz_hs8 M acc) : f_X8_wrong M = some (gx_sI M 57 17 (nI p)) ∧ zz_x8 A (gx_sI M 57 17 (nI p)) p acc.length := by
  refine ⟨?_, ht.1.sI rfl, ht.2.1, rfl, acc.length, Nat.le_refl _, hh.1⟩
  unfold f_X8_wrong
  rw [if_neg (zz_t8neg ht), ht.2.1, zz_let]
theorem zz_fig8 {A M : gx_Mem} {sz p o : Nat} {acc : List (Int32 × Int32)} (hA : A.1 57 15 = nI sz) (hs : sz ≤ 120) (ht : zz_t8 A M p o) (hh : zz_hs8 M acc) (hacc : acc.length ≤ p) (hp : p ≤ sz) :
    zz_R8 A acc p o (if zz_dg (zz_b8 A sz p) = true then (if zz_dg (zz_b8 A sz (zz_nu (zz_b8 A sz) 4 p 0).1) = true then ((zz_nu (zz_b8 A sz) 4 p 0).1, none) else ((zz_nu (zz_b8 A sz) 4 p 0).1, some [(35, nI (zz_nu (zz_b8 A sz) 4 p 0).2)])) else (p, none)) (f_X8_figure M) := by
  have hnum := zz_num8 (M := M) hA hs ht 4 p 0 gx_fuel (Nat.le_refl _) (by unfold gx_fuel; omega) hp
  rw [zz_sIself ht.2.1, Nat.sub_self, Nat.zero_add] at hnum
  have e : f_X8_figure M = f_X8_figure_b52 (nI (zz_nu (zz_b8 A sz) 4 p 0).2) (nI ((zz_nu (zz_b8 A sz) 4 p 0).1 - p)) (gx_sI M 57 16 (nI (zz_nu (zz_b8 A sz) 4 p 0).1)) := hnum.1
  have b70 : ∀ (N : gx_Mem) (q v : Nat), q ≤ sz → p ≤ q → zz_t8 A N q o → zz_hs8 N acc → ∃ M2, f_X8_figure_b70 (nI v) N = some M2 ∧ zz_x8 A M2 q (acc.length + (q - p) + 1) := by
    intro N q v hq hpq hN hNh
    obtain ⟨w1, w2⟩ := zz_wrong8 hN hNh
    obtain ⟨M3, m1, x1, x2, x3, c2, x4, x5⟩ := zz_add8x w2 (by omega) (show (1 : Int32).toInt8.toInt32 = 1 by decide) (nI v)
    refine ⟨M3, ?_, x1, x2, x3, c2, by omega, x5⟩
    unfold f_X8_figure_b70 f_X8_figure_b74
    rw [w1, zz_bPs, m1, zz_bPs]
  by_cases c : zz_dg (zz_b8 A sz p) = true
  · rw [if_pos c, e]
    have n1 := zz_nu_lt (zz_b8_out A sz) hp c
    have n2 := (zz_nu_gp (zz_b8_out A sz) 4 p 0 hp).2
    have n4 := hnum.2
    rcases hv : zz_nu (zz_b8 A sz) 4 p 0 with ⟨q, v⟩
    rw [hv] at n1 n2 n4
    dsimp only at n1 n2 n4 ⊢
    have tq := ht.go q
    have hq := hh.go 16 (by decide) (nI q)
    unfold f_X8_figure_b52
    rw [if_neg (show ¬ nI (q - p) = 0 from nI_ne0 (by omega) (by omega)), zz_look8 hA hs tq.1 tq.2.1 n2, zz_bPs, zz_in8d, zz_bPs]
    by_cases c2 : zz_dg (zz_b8 A sz q) = true
    · rw [if_pos c2, c2, if_neg (show ¬ zz_i true = 0 by decide)]
      exact b70 _ q v n2 (Nat.le_of_lt n1) tq hq
    · have c2' : zz_dg (zz_b8 A sz q) = false := by
        cases h : zz_dg (zz_b8 A sz q) with
        | false => rfl
        | true => exact absurd h c2
      rw [if_neg c2, c2', if_pos (show zz_i false = 0 from rfl)]
      unfold f_X8_figure_b74
      rw [zz_add8 (show acc.length < 130 by omega) hq.1 (show (1 : Int32).toInt8.toInt32 = 1 by decide) (nI v), zz_bPs]
      exact ⟨_, rfl, zz_add8t tq _ _, zz_add8h hq rfl⟩
  · rw [if_neg c, e]
    have hv : zz_nu (zz_b8 A sz) 4 p 0 = (p, 0) := if_neg c
    rw [hv]
    dsimp only
    unfold f_X8_figure_b52
    rw [Nat.sub_self, if_pos (show nI 0 = 0 from rfl), zz_sIself ht.2.1]
    exact b70 M p 0 hp (Nat.le_refl p) ht hh
theorem zz_nameOf8 (x : Int32) (M : gx_Mem) : f_X8_nameOf x M = some (zz_naI x) := zz_nameOf7 x M
theorem zz_opens8 {A M : gx_Mem} {p o : Nat} {acc : List (Int32 × Int32)} (ht : zz_t8 A M p o) (hh : zz_hs8 M acc) (ho : o ≤ 6) : if o < 6 then (f_X8_opens M = some (1, gx_sI (gx_sI M 57 18 (nI (o + 1))) 57 16 (nI (p + 1))) ∧ zz_t8 A (gx_sI (gx_sI M 57 18 (nI (o + 1))) 57 16 (nI (p + 1))) (p + 1) (o + 1) ∧ zz_hs8 (gx_sI (gx_sI M 57 18 (nI (o + 1))) 57 16 (nI (p + 1))) acc) else ∃ M2, f_X8_opens M = some (0, M2) ∧ zz_x8 A M2 p acc.length := by
  by_cases co : o < 6
  · rw [if_pos co]
    refine ⟨?_, ⟨(ht.1.sI rfl).sI rfl, rfl, ht.2.2.1, rfl⟩, (hh.go 18 (by decide) _).go 16 (by decide) _⟩
    unfold f_X8_opens
    rw [ht.2.2.2, if_neg (show ¬ nI o = 6 by rw [show (6 : Int32) = nI 6 from rfl, zz_eq (by omega) (by decide)]; omega), show nI o + 1 = nI (o + 1) from zz_add o 1, zz_let, show (gx_sI M 57 18 (nI (o + 1))).1 57 16 = nI p from ht.2.1, show nI p + 1 = nI (p + 1) from zz_add p 1, zz_let]
  · rw [if_neg co]
    obtain ⟨w1, w2⟩ := zz_wrong8 ht hh
    refine ⟨_, ?_, w2⟩
    unfold f_X8_opens
    rw [ht.2.2.2, if_pos (show nI o = 6 by rw [show (6 : Int32) = nI 6 from rfl, zz_eq (by omega) (by decide)]; omega), w1, zz_bPs]
theorem zz_one8 {A : gx_Mem} {sz : Nat} (hA : A.1 57 15 = nI sz) (hs : sz ≤ 120) {o D : Nat} (ho : o ≤ 6) {f g : Nat → Nat × Option (List (Int32 × Int32))} (hf : ∀ p, p ≤ sz → zz_good sz p (f p)) (hg : ∀ p, p ≤ sz → zz_good sz p (g p))
    (ihf : o < 6 → ∀ (M : gx_Mem) (p : Nat) (acc : List (Int32 × Int32)), zz_t8 A M p (o + 1) → zz_hs8 M acc → acc.length ≤ p → p ≤ sz → zz_R8 A acc p (o + 1) (f p) (f_X8_either D M))
    (ihg : o < 6 → ∀ (M : gx_Mem) (p : Nat) (acc : List (Int32 × Int32)), zz_t8 A M p (o + 1) → zz_hs8 M acc → acc.length ≤ p → p ≤ sz → zz_R8 A acc p (o + 1) (g p) (f_X8_operand D M)) (M : gx_Mem) (p : Nat) (acc : List (Int32 × Int32)) (ht : zz_t8 A M p o) (hh : zz_hs8 M acc) (hacc : acc.length ≤ p) (hp : p ≤ sz) :
    zz_R8 A acc p o (zz_s1 (zz_b8 A sz) f g o p) (f_X8_operand (D + 1) M) := by
  show zz_R8 A acc p o (zz_s1 (zz_b8 A sz) f g o p) (f_X8_operand_o (f_X8_both D) (f_X8_compared D) (f_X8_either D) (f_X8_operand D) (f_X8_product D) (f_X8_sum D) M)
  have fig := zz_fig8 hA hs ht hh hacc hp
  have hop := zz_opens8 ht hh ho
  unfold f_X8_operand_o zz_s1
  rw [zz_look8 hA hs ht.1 ht.2.1 hp, zz_bPs, zz_nameOf8, zz_bPs]
  unfold zz_naI
  by_cases c : zz_dg (zz_b8 A sz p) = true
  · rw [if_pos c] at fig ⊢
    obtain ⟨-, -, -, -, d1, d2, d3, d4⟩ := zz_dg9 c
    rw [d1]
    dsimp only
    rw [if_pos (show (-1 : Int32) < 0 by decide), if_neg d3, if_neg d4, if_neg d2]
    generalize (if zz_dg (zz_b8 A sz (zz_nu (zz_b8 A sz) 4 p 0).1) = true then ((zz_nu (zz_b8 A sz) 4 p 0).1, none) else ((zz_nu (zz_b8 A sz) 4 p 0).1, some [(35, nI (zz_nu (zz_b8 A sz) 4 p 0).2)]) : Nat × Option (List (Int32 × Int32))) = R at *
    rcases R with ⟨q, r'⟩
    cases r' with
    | none =>
      obtain ⟨M2, r1, r2⟩ := fig
      rw [r1, zz_bPs]
      exact ⟨M2, rfl, r2⟩
    | some c2 =>
      obtain ⟨M2, r1, r2⟩ := fig
      rw [r1, zz_bPs]
      exact ⟨M2, rfl, r2⟩
  · rw [if_neg c] at fig ⊢
    cases hn : zz_na (zz_b8 A sz p) with
    | some k =>
      have k6 := zz_na_lt hn
      dsimp only
      rw [if_neg (nI_pos (show k < 2147483648 by omega)), zz_bPs, zz_add8 (show acc.length < 130 by
        have : p ≤ 120 := by omega
        omega) hh.1 (show (2 : Int32).toInt8.toInt32 = 2 by decide) (nI k), zz_bPs, show (gx_sI (gx_sI (gx_sI M 69 (130 + acc.length) 2) 70 (130 + acc.length) (nI k)) 57 19 (nI (acc.length + 1))).1 57 16 = nI p from ht.2.1, show nI p + 1 = nI (p + 1) from zz_add p 1, zz_let]
      exact ⟨_, rfl, (zz_add8t ht _ _).go (p + 1), (zz_add8h hh rfl).go 16 (by decide) _⟩
    | none =>
      dsimp only
      rw [if_pos (show (-1 : Int32) < 0 by decide)]
      by_cases c1 : zz_b8 A sz p = 40
      · rw [if_pos c1, if_neg (show ¬ zz_b8 A sz p = 33 by rw [c1]; decide), if_neg (show ¬ zz_b8 A sz p = 45 by rw [c1]; decide), if_pos c1]
        have hp2 : p < sz := by
          rcases Nat.lt_or_ge p sz with w | w
          · exact w
          · rw [zz_b8_out A sz p w] at c1; exact absurd c1 (by decide)
        by_cases co : o < 6
        · rw [if_pos co] at hop ⊢
          obtain ⟨o1, o2, o3⟩ := hop
          rw [o1, zz_bIs, if_neg (show ¬ (1 : Int32) = 0 by decide)]
          have r := ihf co _ (p + 1) acc o2 o3 (by omega) hp2
          have gg := hf (p + 1) hp2
          rcases hr : f (p + 1) with ⟨q', r'⟩
          rw [hr] at r gg
          cases r' with
          | none =>
            obtain ⟨M2, r1, r2⟩ := r
            obtain ⟨gg1, gg2⟩ := gg
            dsimp only at r2 gg1 gg2
            rw [r1, zz_bPs, if_neg (show ¬ M2.1 57 17 < 0 by rw [r2.2.2.1]; exact nI_pos (by omega))]
            obtain ⟨x1, x2, x3, c2, x4, x5⟩ := r2
            exact ⟨M2, rfl, x1, x2, x3, c2, show c2 ≤ acc.length + (q' - p) + 1 by omega, x5⟩
          | some c2 =>
            obtain ⟨M2, r1, r2, r3⟩ := r
            obtain ⟨gg1, gg2, gg3, gg4⟩ := gg
            dsimp only at r2 gg1 gg2 gg3
            rw [r1, zz_bPs, if_pos (show M2.1 57 17 < 0 by rw [r2.2.2.1]; decide), zz_look8 hA hs r2.1 r2.2.1 gg2, zz_bPs]
            dsimp only
            by_cases c5 : zz_b8 A sz q' = 41
            · rw [if_pos c5, if_pos c5, r2.2.1, show nI q' + 1 = nI (q' + 1) from zz_add q' 1, zz_let, show (gx_sI M2 57 16 (nI (q' + 1))).1 57 18 = nI (o + 1) from r2.2.2.2, nI_pred, zz_let]
              exact ⟨_, rfl, ⟨(r2.1.sI rfl).sI rfl, rfl, r2.2.2.1, rfl⟩, (r3.go 16 (by decide) _).go 18 (by decide) _⟩
            · rw [if_neg c5, if_neg c5]
              obtain ⟨w1, w2⟩ := zz_wrong8 r2 r3
              rw [w1, zz_bPs]
              obtain ⟨x1, x2, x3, cc, x4, x5⟩ := w2
              rw [List.length_append] at x4
              exact ⟨_, rfl, x1, x2, x3, cc, show cc ≤ acc.length + (q' - p) + 1 by omega, x5⟩
        · rw [if_neg co] at hop ⊢
          obtain ⟨M2, o1, x1, x2, x3, cc, x4, x5⟩ := hop
          rw [o1, zz_bIs, if_pos rfl]
          exact ⟨M2, rfl, x1, x2, x3, cc, show cc ≤ acc.length + (p - p) + 1 by omega, x5⟩
      · rw [if_neg c1]
        by_cases c2 : zz_b8 A sz p = 33 ∨ zz_b8 A sz p = 45
        · rw [if_pos c2]
          have hp2 : p < sz := by
            rcases Nat.lt_or_ge p sz with w | w
            · exact w
            · rw [zz_b8_out A sz p w] at c2; exact absurd c2 (by decide)
          generalize hX : (if zz_b8 A sz p = 40 then _ else _ : Option gx_Mem) = X
          have e46 : (if zz_b8 A sz p = 33 then f_X8_operand_b46 (f_X8_both D) (f_X8_compared D) (f_X8_either D) (f_X8_operand D) (f_X8_product D) (f_X8_sum D) (zz_b8 A sz p) M else (if zz_b8 A sz p = 45 then f_X8_operand_b46 (f_X8_both D) (f_X8_compared D) (f_X8_either D) (f_X8_operand D) (f_X8_product D) (f_X8_sum D) (zz_b8 A sz p) M else X)) = f_X8_operand_b46 (f_X8_both D) (f_X8_compared D) (f_X8_either D) (f_X8_operand D) (f_X8_product D) (f_X8_sum D) (zz_b8 A sz p) M := by
            rcases c2 with k | k
            · rw [if_pos k]
            · rw [if_neg (show ¬ zz_b8 A sz p = 33 by rw [k]; decide), if_pos k]
          rw [e46]
          clear e46 hX
          unfold f_X8_operand_b46 f_X8_operand_b80
          by_cases co : o < 6
          · rw [if_pos co] at hop ⊢
            obtain ⟨o1, o2, o3⟩ := hop
            rw [o1, zz_bIs, if_neg (show ¬ (1 : Int32) = 0 by decide)]
            have r := ihg co _ (p + 1) acc o2 o3 (by omega) hp2
            have gg := hg (p + 1) hp2
            rcases hr : g (p + 1) with ⟨q', r'⟩
            rw [hr] at r gg
            cases r' with
            | none =>
              obtain ⟨M2, r1, x1, x2, x3, cc, x4, x5⟩ := r
              obtain ⟨gg1, gg2⟩ := gg
              dsimp only at x2 x3 x4 gg1 gg2
              rw [r1, zz_bPs, zz_let]
              have y : zz_x8 A (gx_sI M2 57 18 (M2.1 57 18 - 1)) q' (acc.length + (q' - (p + 1)) + 1) := ⟨x1.sI rfl, x2, x3, cc, x4, x5⟩
              by_cases k : zz_b8 A sz p = 33
              · rw [if_pos k]
                obtain ⟨M3, m1, y1, y2, y3, c3, y4, y5⟩ := zz_add8x y (by omega) (show (3 : Int32).toInt8.toInt32 = 3 by decide) 0
                rw [m1, zz_bPs]
                exact ⟨M3, rfl, y1, y2, y3, c3, show c3 ≤ acc.length + (q' - p) + 1 by omega, y5⟩
              · rw [if_neg k]
                obtain ⟨M3, m1, y1, y2, y3, c3, y4, y5⟩ := zz_add8x y (by omega) (show (4 : Int32).toInt8.toInt32 = 4 by decide) 0
                rw [m1, zz_bPs]
                exact ⟨M3, rfl, y1, y2, y3, c3, show c3 ≤ acc.length + (q' - p) + 1 by omega, y5⟩
            | some c3 =>
              obtain ⟨M2, r1, r2, r3⟩ := r
              obtain ⟨gg1, gg2, gg3, gg4⟩ := gg
              dsimp only at r2 gg1 gg2 gg3
              have hl : (acc ++ c3).length < 130 := by rw [List.length_append]; omega
              rw [r1, zz_bPs, r2.2.2.2, nI_pred, zz_let]
              have t3 : zz_t8 A (gx_sI M2 57 18 (nI o)) q' o := ⟨r2.1.sI rfl, r2.2.1, r2.2.2.1, rfl⟩
              have h3 := r3.go 18 (by decide) (nI o)
              by_cases k : zz_b8 A sz p = 33
              · have k45 : ¬ zz_b8 A sz p = 45 := by rw [k]; decide
                have m5 := zz_add8h h3 (s := 33) (v := 0) (w := 3) rfl
                rw [if_pos k, zz_add8 hl h3.1 (show (3 : Int32).toInt8.toInt32 = 3 by decide) 0, zz_bPs]
                refine ⟨_, rfl, zz_add8t t3 _ _, ?_⟩
                rw [List.append_assoc] at m5
                rw [if_neg k45]
                exact m5
              · have k45 := c2.resolve_left k
                have m5 := zz_add8h h3 (s := 126) (v := 0) (w := 4) rfl
                rw [if_neg k, zz_add8 hl h3.1 (show (4 : Int32).toInt8.toInt32 = 4 by decide) 0, zz_bPs]
                refine ⟨_, rfl, zz_add8t t3 _ _, ?_⟩
                rw [List.append_assoc] at m5
                rw [if_pos k45]
                exact m5
          · rw [if_neg co] at hop ⊢
            obtain ⟨M2, o1, x1, x2, x3, cc, x4, x5⟩ := hop
            rw [o1, zz_bIs, if_pos rfl]
            exact ⟨M2, rfl, x1, x2, x3, cc, show cc ≤ acc.length + (p - p) + 1 by omega, x5⟩
        · rw [if_neg c2, if_neg (fun k => c2 (.inl k)), if_neg (fun k => c2 (.inr k)), if_neg c1]
          obtain ⟨M2, r1, r2⟩ := fig
          rw [r1, zz_bPs]
          exact ⟨M2, rfl, r2⟩

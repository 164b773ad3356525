/-- stuck at a digit: the loop ends at once -/
theorem zz_stuck39 {A M : gx_Mem} {sz p : Nat} (hA : A.1 5 3 = nI sz) (hs : sz ≤ 120) (h : zz_t7 A M p) (hp : p ≤ sz) (hd : zz_dg (zz_b7 A sz p) = true) {L : Nat} (hL : L < 5) (q1 : Int32 → Int32 → gx_Mem → Option (Int32 × gx_Mem)) (q2 : Int32 → gx_Mem → Option (Int32 × gx_Mem)) (o v3 v4 : Int32) (n : Nat) : f_X6_readLevel_l39 q1 q2 (nI L) o v3 (n + 1) v4 M = some (1, M) := by
  show f_X6_readLevel_k39 q1 q2 (nI L) o v3 (fun v4 M => f_X6_readLevel_l39 q1 q2 (nI L) o v3 n v4 M) v4 M = _
  unfold f_X6_readLevel_k39
  have h9 := (zz_dg9 hd).1
  rw [zz_next7 hA hs h hp, zz_bPs, zz_levelOf, zz_bPs, if_neg (show ¬ zz_lvI (zz_b7 A sz p) = nI L by rw [zz_lvI_iff hL, h9]; omega)]
  split <;> rfl
theorem zz_loop39 {A : gx_Mem} {sz : Nat} (hA : A.1 5 3 = nI sz) (hs : sz ≤ 120) {L o d : Nat} (hL : L < 5) {f : Nat → Nat × Option (List (Int32 × Int32))} (hf : ∀ p, p ≤ sz → zz_good sz p (f p)) (q2 : Int32 → gx_Mem → Option (Int32 × gx_Mem))
    (ih : ∀ (M : gx_Mem) (p : Nat) (acc : List (Int32 × Int32)), zz_t7 A M p → zz_has7 M acc → acc.length ≤ p → p ≤ sz → zz_R7 A sz acc (f p) (f_X6_readLevel d (nI (L + 1)) (nI o) M)) {most : Nat} (hm : most ≤ 120) {acc : List (Int32 × Int32)} {p0 : Nat} (hacc : acc.length ≤ p0) :
    ∀ k (M : gx_Mem) (q : Nat) (c : List (Int32 × Int32)) (n : Nat), k ≤ most → k < n → zz_t7 A M q → zz_has7 M (acc ++ c) → zz_good sz p0 (q, some c) → zz_R7 A sz acc (zz_lp (zz_b7 A sz) f L k q c) (f_X6_readLevel_l39 (f_X6_readLevel d) q2 (nI L) (nI o) (nI most) n (nI (most - k)) M) := by
  intro k
  induction k with
  | zero =>
    intro M q c n _ hn ht hh hg
    obtain ⟨n, rfl⟩ : ∃ m, n = m + 1 := ⟨n - 1, by omega⟩
    show zz_R7 A sz acc (q, some c) (f_X6_readLevel_k39 (f_X6_readLevel d) q2 (nI L) (nI o) (nI most) (fun v4 M => f_X6_readLevel_l39 (f_X6_readLevel d) q2 (nI L) (nI o) (nI most) n v4 M) (nI most) M)
    unfold f_X6_readLevel_k39
    rw [if_pos (nI_le (Nat.le_refl most) (by omega))]
    exact ⟨M, rfl, ht, hh⟩
  | succ k ihk =>
    intro M q c n hk hn ht hh hg
    obtain ⟨n, rfl⟩ : ∃ m, n = m + 1 := ⟨n - 1, by omega⟩
    obtain ⟨g1, g2, g3, g4⟩ := hg
    dsimp only at g1 g2 g3
    show zz_R7 A sz acc (zz_lp (zz_b7 A sz) f L (k + 1) q c) (f_X6_readLevel_k39 (f_X6_readLevel d) q2 (nI L) (nI o) (nI most) (fun v4 M => f_X6_readLevel_l39 (f_X6_readLevel d) q2 (nI L) (nI o) (nI most) n v4 M) (nI (most - (k + 1))) M)
    unfold f_X6_readLevel_k39 zz_lp
    rw [if_neg (show ¬ nI most ≤ nI (most - (k + 1)) by rw [zz_le (by omega) (by omega)]; omega), zz_next7 hA hs ht g2, zz_bPs, zz_levelOf, zz_bPs]
    simp only [zz_lvI_iff hL]
    by_cases e : zz_lvO (zz_b7 A sz q) = L
    · rw [if_pos e, if_pos e, zz_bPs, ht.2, show nI q + 1 = nI (q + 1) from zz_add q 1, zz_let]
      have hq : q < sz := by
        rcases Nat.lt_or_ge q sz with w | w
        · exact w
        · rw [zz_b7_out A sz q w] at e
          have : zz_lvO (-1) = 9 := by decide
          omega
      have hlen : (acc ++ c).length ≤ q + 1 := by rw [List.length_append]; omega
      have r := ih (gx_sI M 5 4 (nI (q + 1))) (q + 1) (acc ++ c) (ht.go (q + 1)) (hh.go _) hlen hq
      have gg := hf (q + 1) hq
      rcases hr : f (q + 1) with ⟨q', r'⟩
      rw [hr] at r gg
      rw [show nI L + 1 = nI (L + 1) from zz_add L 1]
      cases r' with
      | none =>
        obtain ⟨y, M2, r1, r2, ⟨cc, r3, r4⟩, r5⟩ := r
        dsimp only at r2 r5
        rw [r1, zz_bIs]
        cases y with
        | false =>
          rw [if_pos (show zz_i false = 0 from rfl)]
          exact ⟨false, M2, rfl, r2, ⟨cc, r3, r4⟩, .inl rfl⟩
        | true =>
          have hd : zz_dg (zz_b7 A sz q') = true := by
            rcases r5 with r5 | r5
            · cases r5
            · exact r5
          rw [if_neg (show ¬ zz_i true = 0 by decide)]
          obtain ⟨M3, m1, m2, m3, -⟩ := zz_emit7 r2 r3 r4 (zz_b7 A sz q) 0
          rw [m1, zz_bPs, zz_let]
          obtain ⟨n', hn'⟩ : ∃ n', n = n' + 1 := ⟨n - 1, by omega⟩
          subst hn'
          refine ⟨true, M3, ?_, m2, m3, .inr hd⟩
          exact zz_stuck39 hA hs m2 gg.2 hd hL _ _ _ _ _ _
      | some c2 =>
        obtain ⟨M2, r1, r2, r3⟩ := r
        obtain ⟨gg1, gg2, gg3, gg4⟩ := gg
        dsimp only at r2 gg1 gg2 gg3
        rw [r1, zz_bIs, if_neg (show ¬ (1 : Int32) = 0 by decide)]
        obtain ⟨cc, r4, r5⟩ := r3.c
        obtain ⟨M3, m1, m2, -, m4⟩ := zz_emit7 r2 r4 r5 (zz_b7 A sz q) 0
        have hl : (acc ++ c ++ c2).length < 128 := by rw [List.length_append, List.length_append]; omega
        have m5 := m4 _ r3 hl
        rw [show acc ++ c ++ c2 ++ [(zz_b7 A sz q, (0 : Int32))] = acc ++ (c ++ c2 ++ [(zz_b7 A sz q, 0)]) by simp only [List.append_assoc]] at m5
        rw [m1, zz_bPs, show nI (most - (k + 1)) + 1 = nI (most - k) from by rw [show (1 : Int32) = nI 1 from rfl, zz_add]; congr 1; omega, zz_let]
        refine ihk M3 q' _ n (by omega) (by omega) m2 m5 ⟨show p0 < q' by omega, gg2, ?_, zz_wfB g4 gg4 (by rw [e]; exact hL)⟩
        rw [List.length_append, List.length_append]
        show c.length + c2.length + 1 + p0 ≤ q'
        omega
    · rw [if_neg e, if_neg e]
      exact ⟨M, rfl, ht, hh⟩
theorem zz_one7 {A : gx_Mem} {sz : Nat} (hA : A.1 5 3 = nI sz) (hs : sz ≤ 120) {o d : Nat} (ho : o ≤ 6) {f g : Nat → Nat × Option (List (Int32 × Int32))} (hf : ∀ p, p ≤ sz → zz_good sz p (f p)) (hg : ∀ p, p ≤ sz → zz_good sz p (g p))
    (ihf : o < 6 → ∀ (M : gx_Mem) (p : Nat) (acc : List (Int32 × Int32)), zz_t7 A M p → zz_has7 M acc → acc.length ≤ p → p ≤ sz → zz_R7 A sz acc (f p) (f_X6_readLevel d (nI 0) (nI (o + 1)) M))
    (ihg : o < 6 → ∀ (M : gx_Mem) (p : Nat) (acc : List (Int32 × Int32)), zz_t7 A M p → zz_has7 M acc → acc.length ≤ p → p ≤ sz → zz_R7 A sz acc (g p) (f_X6_readOne d (nI (o + 1)) M)) (M : gx_Mem) (p : Nat) (acc : List (Int32 × Int32)) (ht : zz_t7 A M p) (hh : zz_has7 M acc) (hacc : acc.length ≤ p) (hp : p ≤ sz) :
    zz_R7 A sz acc (zz_s1 (zz_b7 A sz) f g o p) (f_X6_readOne_o (f_X6_readLevel d) (f_X6_readOne d) (nI o) M) := by
  have fromF : ∀ {q : Nat} {c : List (Int32 × Int32)}, acc.length ≤ p → c.length + p ≤ q → q ≤ sz → (acc ++ c).length < 128 := fun {q c} h1 h2 h3 => by rw [List.length_append]; omega
  unfold f_X6_readOne_o zz_s1
  rw [zz_next7 hA hs ht hp, zz_bPs]
  by_cases c : zz_dg (zz_b7 A sz p) = true
  · have c' := of_decide_eq_true c
    rw [if_neg c'.1, if_neg c'.2, if_pos c]
    have hnum := zz_num7 (M := M) hA hs ht 4 p 0 gx_fuel (Nat.le_refl _) (by unfold gx_fuel; omega) hp
    rw [zz_sIself ht.2] at hnum
    have e : f_X6_readNumber M = f_X6_readNumber_b56 (nI (zz_nu (zz_b7 A sz) 4 p 0).2) (gx_sI M 5 4 (nI (zz_nu (zz_b7 A sz) 4 p 0).1)) := hnum
    have n1 := zz_nu_lt (zz_b7_out A sz) hp c
    have n2 := (zz_nu_gp (zz_b7_out A sz) 4 p 0 hp).2
    rcases hv : zz_nu (zz_b7 A sz) 4 p 0 with ⟨q, v⟩
    rw [hv] at e n1 n2
    dsimp only at e n1 n2 ⊢
    obtain ⟨cc, r4, r5⟩ := (hh.go (nI q)).c
    obtain ⟨M3, m1, m2, m3, m4⟩ := zz_emit7 (ht.go q) r4 r5 35 (nI v)
    have m5 := m4 acc (hh.go _) (by omega)
    unfold f_X6_readNumber_b56 at e
    rw [e, m1, zz_bPs, zz_bPs]
    by_cases c2 : zz_dg (zz_b7 A sz q) = true
    · rw [if_pos c2]
      exact ⟨true, M3, rfl, m2, m3, .inr c2⟩
    · rw [if_neg c2]
      exact ⟨M3, rfl, m2, m5⟩
  · rw [if_neg c]
    have e23 : (if zz_b7 A sz p < 48 then f_X6_readOne_b23 (f_X6_readLevel d) (f_X6_readOne d) (nI o) (zz_b7 A sz p) M else (if (57 : Int32) < zz_b7 A sz p then f_X6_readOne_b23 (f_X6_readLevel d) (f_X6_readOne d) (nI o) (zz_b7 A sz p) M else gx_bP (f_X6_readNumber M) (fun M4 => some ((1 : Int32), M4)))) = f_X6_readOne_b23 (f_X6_readLevel d) (f_X6_readOne d) (nI o) (zz_b7 A sz p) M := by
      by_cases k1 : zz_b7 A sz p < 48
      · rw [if_pos k1]
      · rw [if_neg k1]
        by_cases k2 : (57 : Int32) < zz_b7 A sz p
        · rw [if_pos k2]
        · exact absurd (decide_eq_true ⟨k1, k2⟩) c
    rw [e23]
    unfold f_X6_readOne_b23
    rw [zz_nameOf7, zz_bPs]
    unfold zz_naI
    cases hn : zz_na (zz_b7 A sz p) with
    | some k =>
      have k6 := zz_na_lt hn
      dsimp only
      rw [if_neg (nI_pos (show k < 2147483648 by omega)), ht.2, show nI p + 1 = nI (p + 1) from zz_add p 1, zz_let]
      obtain ⟨cc, r4, r5⟩ := (hh.go (nI (p + 1))).c
      obtain ⟨M3, m1, m2, m3, m4⟩ := zz_emit7 (ht.go (p + 1)) r4 r5 36 (nI k)
      rw [m1, zz_bPs]
      exact ⟨M3, rfl, m2, m4 acc (hh.go _) (by omega)⟩
    | none =>
      dsimp only
      rw [if_pos (show (-1 : Int32) < 0 by decide)]
      by_cases c1 : zz_b7 A sz p = 40
      · rw [if_pos c1, if_pos c1]
        unfold f_X6_readOne_b69
        have hp2 : p < sz := by
          rcases Nat.lt_or_ge p sz with w | w
          · exact w
          · rw [zz_b7_out A sz p w] at c1; exact absurd c1 (by decide)
        by_cases co : o < 6
        · rw [if_pos co, if_pos (show nI o < (6 : Int32) by rw [show (6 : Int32) = nI 6 from rfl, zz_lt (by omega) (by decide)]; exact co), ht.2, show nI p + 1 = nI (p + 1) from zz_add p 1, zz_let, if_pos c1, show nI o + 1 = nI (o + 1) from zz_add o 1]
          have r := ihf co (gx_sI M 5 4 (nI (p + 1))) (p + 1) acc (ht.go (p + 1)) (hh.go _) (by omega) hp2
          have gg := hf (p + 1) hp2
          rcases hr : f (p + 1) with ⟨q', r'⟩
          rw [hr] at r gg
          rw [show (0 : Int32) = nI 0 from rfl]
          cases r' with
          | none =>
            obtain ⟨y, M2, r1, r2, ⟨cc, r3, r4⟩, r5⟩ := r
            dsimp only at r2 r5
            rw [r1, zz_bIs]
            cases y with
            | false =>
              rw [if_pos (show zz_i false = nI 0 from rfl)]
              exact ⟨false, M2, rfl, r2, ⟨cc, r3, r4⟩, .inl rfl⟩
            | true =>
              have hd : zz_dg (zz_b7 A sz q') = true := by
                rcases r5 with r5 | r5
                · cases r5
                · exact r5
              rw [if_neg (show ¬ zz_i true = nI 0 by decide)]
              unfold f_X6_readClose
              rw [zz_next7 hA hs r2 gg.2, zz_bPs, if_neg (zz_dg9 hd).2.1, zz_bIs, if_pos (show (0 : Int32) = nI 0 from rfl)]
              exact ⟨false, M2, rfl, r2, ⟨cc, r3, r4⟩, .inl rfl⟩
          | some c2 =>
            obtain ⟨M2, r1, r2, r3⟩ := r
            obtain ⟨gg1, gg2, gg3, gg4⟩ := gg
            dsimp only at r2 gg1 gg2 gg3
            rw [r1, zz_bIs, if_neg (show ¬ (1 : Int32) = nI 0 by decide)]
            unfold f_X6_readClose
            rw [zz_next7 hA hs r2 gg2, zz_bPs]
            dsimp only
            by_cases c5 : zz_b7 A sz q' = 41
            · rw [if_pos c5, if_pos c5, r2.2, show nI q' + 1 = nI (q' + 1) from zz_add q' 1, zz_let, zz_bIs, if_neg (show ¬ (1 : Int32) = nI 0 by decide)]
              exact ⟨_, rfl, r2.go (q' + 1), r3.go _⟩
            · rw [if_neg c5, if_neg c5, zz_bIs, if_pos (show (0 : Int32) = nI 0 from rfl)]
              exact ⟨false, M2, rfl, r2, r3.c, .inl rfl⟩
        · rw [if_neg co, if_neg (show ¬ nI o < (6 : Int32) by rw [show (6 : Int32) = nI 6 from rfl, zz_lt (by omega) (by decide)]; exact co)]
          exact ⟨false, M, rfl, ht, hh.c, .inl rfl⟩
      · rw [if_neg c1, if_neg c1]
        by_cases c2 : zz_b7 A sz p = 33 ∨ zz_b7 A sz p = 45
        · rw [if_pos c2]
          have hp2 : p < sz := by
            rcases Nat.lt_or_ge p sz with w | w
            · exact w
            · rw [zz_b7_out A sz p w] at c2; exact absurd c2 (by decide)
          have e69 : (if zz_b7 A sz p = 33 then f_X6_readOne_b69 (f_X6_readLevel d) (f_X6_readOne d) (nI o) (zz_b7 A sz p) M else (if zz_b7 A sz p = 45 then f_X6_readOne_b69 (f_X6_readLevel d) (f_X6_readOne d) (nI o) (zz_b7 A sz p) M else some ((0 : Int32), M))) = f_X6_readOne_b69 (f_X6_readLevel d) (f_X6_readOne d) (nI o) (zz_b7 A sz p) M := by
            rcases c2 with k | k
            · rw [if_pos k]
            · rw [if_neg (show ¬ zz_b7 A sz p = 33 by rw [k]; decide), if_pos k]
          rw [e69]
          unfold f_X6_readOne_b69 f_X6_readOne_b142
          by_cases co : o < 6
          · rw [if_pos co, if_pos (show nI o < (6 : Int32) by rw [show (6 : Int32) = nI 6 from rfl, zz_lt (by omega) (by decide)]; exact co), ht.2, show nI p + 1 = nI (p + 1) from zz_add p 1, zz_let, if_neg c1, show nI o + 1 = nI (o + 1) from zz_add o 1]
            have r := ihg co (gx_sI M 5 4 (nI (p + 1))) (p + 1) acc (ht.go (p + 1)) (hh.go _) (by omega) hp2
            have gg := hg (p + 1) hp2
            rcases hr : g (p + 1) with ⟨q', r'⟩
            rw [hr] at r gg
            cases r' with
            | none =>
              obtain ⟨y, M2, r1, r2, ⟨cc, r3, r4⟩, r5⟩ := r
              dsimp only at r2 r5
              rw [r1, zz_bIs]
              cases y with
              | false =>
                rw [if_pos (show zz_i false = 0 from rfl)]
                exact ⟨false, M2, rfl, r2, ⟨cc, r3, r4⟩, .inl rfl⟩
              | true =>
                have hd : zz_dg (zz_b7 A sz q') = true := by
                  rcases r5 with r5 | r5
                  · cases r5
                  · exact r5
                rw [if_neg (show ¬ zz_i true = 0 by decide)]
                by_cases k : zz_b7 A sz p = 45
                · simp only [if_pos k]
                  obtain ⟨M3, m1, m2, m3, -⟩ := zz_emit7 r2 r3 r4 126 0
                  rw [m1, zz_bPs]
                  exact ⟨true, M3, rfl, m2, m3, .inr hd⟩
                · simp only [if_neg k]
                  obtain ⟨M3, m1, m2, m3, -⟩ := zz_emit7 r2 r3 r4 (zz_b7 A sz p) 0
                  rw [m1, zz_bPs]
                  exact ⟨true, M3, rfl, m2, m3, .inr hd⟩
            | some c3 =>
              obtain ⟨M2, r1, r2, r3⟩ := r
              obtain ⟨gg1, gg2, gg3, gg4⟩ := gg
              dsimp only at r2 gg1 gg2 gg3
              rw [r1, zz_bIs, if_neg (show ¬ (1 : Int32) = 0 by decide)]
              have hl : (acc ++ c3).length < 128 := fromF hacc (show c3.length + p ≤ q' by omega) gg2
              obtain ⟨cc, r4, r5⟩ := r3.c
              by_cases k : zz_b7 A sz p = 45
              · simp only [if_pos k]
                obtain ⟨M3, m1, m2, -, m4⟩ := zz_emit7 r2 r4 r5 126 0
                rw [m1, zz_bPs]
                refine ⟨M3, rfl, m2, ?_⟩
                have m5 := m4 _ r3 hl
                rw [List.append_assoc] at m5
                exact m5
              · have k33 := c2.resolve_right k
                simp only [if_neg k]
                obtain ⟨M3, m1, m2, -, m4⟩ := zz_emit7 r2 r4 r5 (zz_b7 A sz p) 0
                rw [m1, zz_bPs]
                refine ⟨M3, rfl, m2, ?_⟩
                have m5 := m4 _ r3 hl
                rw [List.append_assoc, k33] at m5
                exact m5
          · rw [if_neg co, if_neg (show ¬ nI o < (6 : Int32) by rw [show (6 : Int32) = nI 6 from rfl, zz_lt (by omega) (by decide)]; exact co)]
            exact ⟨false, M, rfl, ht, hh.c, .inl rfl⟩
        · rw [if_neg c2, if_neg (fun k => c2 (.inl k)), if_neg (fun k => c2 (.inr k))]
          exact ⟨false, M, rfl, ht, hh.c, .inl rfl⟩
theorem zz_read7 {A : gx_Mem} {sz : Nat} (hA : A.1 5 3 = nI sz) (hs : sz ≤ 120) : ∀ d o, o ≤ 6 → (∀ L, L ≤ 5 → (6 - L) + 1 + 7 * (6 - o) ≤ d → ∀ (M : gx_Mem) (p : Nat) (acc : List (Int32 × Int32)), zz_t7 A M p → zz_has7 M acc → acc.length ≤ p → p ≤ sz → zz_R7 A sz acc (zz_sp (zz_b7 A sz) d L o p) (f_X6_readLevel d (nI L) (nI o) M)) ∧
    (1 + 7 * (6 - o) ≤ d → ∀ (M : gx_Mem) (p : Nat) (acc : List (Int32 × Int32)), zz_t7 A M p → zz_has7 M acc → acc.length ≤ p → p ≤ sz → zz_R7 A sz acc (zz_sp (zz_b7 A sz) d 6 o p) (f_X6_readOne d (nI o) M)) := by
  intro d
  induction d with
  | zero => intro o ho; exact ⟨fun L hL h => by omega, fun h => by omega⟩
  | succ d ih =>
    intro o ho
    refine ⟨fun L hL hd M p acc ht hh hacc hp => ?_, fun hd M p acc ht hh hacc hp => ?_⟩
    · show zz_R7 A sz acc _ (f_X6_readLevel_o (f_X6_readLevel d) (f_X6_readOne d) (nI L) (nI o) M)
      unfold f_X6_readLevel_o zz_sp
      by_cases c : L < 5
      · rw [if_pos c, if_pos (show nI L < (5 : Int32) by rw [show (5 : Int32) = nI 5 from rfl, zz_lt (by omega) (by decide)]; exact c), show nI L + 1 = nI (L + 1) from zz_add L 1]
        have ihL := (ih o ho).1 (L + 1) (by omega) (by omega)
        have r := ihL M p acc ht hh hacc hp
        have gp : ∀ p, p ≤ sz → zz_good sz p (zz_sp (zz_b7 A sz) d (L + 1) o p) := fun p hp => zz_sp_gp (zz_b7_out A sz) d (L + 1) o p hp
        have gg := gp p hp
        rcases hr : zz_sp (zz_b7 A sz) d (L + 1) o p with ⟨q', r'⟩
        rw [hr] at r gg
        cases r' with
        | none =>
          obtain ⟨y, M2, r1, r2, r3, r5⟩ := r
          dsimp only at r2 r5
          rw [r1, zz_bIs]
          cases y with
          | false =>
            rw [if_pos (show zz_i false = 0 from rfl)]
            exact ⟨false, M2, rfl, r2, r3, .inl rfl⟩
          | true =>
            have hdg : zz_dg (zz_b7 A sz q') = true := by
              rcases r5 with r5 | r5
              · cases r5
              · exact r5
            rw [if_neg (show ¬ zz_i true = 0 by decide)]
            refine ⟨true, M2, ?_, r2, r3, .inr hdg⟩
            have st := fun v => zz_stuck39 hA hs r2 gg.2 hdg c (f_X6_readLevel d) (f_X6_readOne d) (nI o) v 0 999
            unfold f_X6_readLevel_b35
            split
            · exact st 1
            · exact st 120
        | some c2 =>
          obtain ⟨M2, r1, r2, r3⟩ := r
          dsimp only at r2
          rw [r1, zz_bIs, if_neg (show ¬ (1 : Int32) = 0 by decide)]
          unfold f_X6_readLevel_b35
          by_cases c2' : L = 2
          · rw [if_pos (show nI L = 2 by rw [c2']; rfl), if_pos c2']
            have lp := zz_loop39 hA hs c gp (f_X6_readOne d) ihL (most := 1) (by decide) hacc 1 M2 q' c2 gx_fuel (Nat.le_refl _) (by decide) r2 r3 gg
            exact lp
          · rw [if_neg (show ¬ nI L = 2 by rw [show (2 : Int32) = nI 2 from rfl, zz_eq (by omega) (by decide)]; exact c2'), if_neg c2']
            have lp := zz_loop39 hA hs c gp (f_X6_readOne d) ihL (most := 120) (by decide) hacc 120 M2 q' c2 gx_fuel (Nat.le_refl _) (by decide) r2 r3 gg
            exact lp
      · have hL5 : L = 5 := by omega
        rw [if_neg c, if_pos hL5, if_neg (show ¬ nI L < (5 : Int32) by rw [show (5 : Int32) = nI 5 from rfl, zz_lt (by omega) (by decide)]; exact c)]
        have r := (ih o ho).2 (by omega) M p acc ht hh hacc hp
        rcases hr : zz_sp (zz_b7 A sz) d 6 o p with ⟨q', r'⟩
        rw [hr] at r
        cases r' with
        | none =>
          obtain ⟨y, M2, r1, r2⟩ := r
          rw [r1, zz_bIs, zz_giZ]
          exact ⟨y, M2, rfl, r2⟩
        | some c2 =>
          obtain ⟨M2, r1, r2⟩ := r
          rw [r1, zz_bIs, show (1 : Int32) = zz_i true from rfl, zz_giZ]
          exact ⟨M2, rfl, r2⟩
    · show zz_R7 A sz acc _ (f_X6_readOne_o (f_X6_readLevel d) (f_X6_readOne d) (nI o) M)
      unfold zz_sp
      rw [if_neg (show ¬ 6 < 5 by decide), if_neg (show ¬ 6 = 5 by decide)]
      exact zz_one7 hA hs ho (fun p hp => zz_sp_gp (zz_b7_out A sz) d 0 (o + 1) p hp) (fun p hp => zz_sp_gp (zz_b7_out A sz) d 6 (o + 1) p hp) (fun co => (ih (o + 1) (by omega)).1 0 (by decide) (by omega)) (fun co => (ih (o + 1) (by omega)).2 (by omega)) M p acc ht hh hacc hp

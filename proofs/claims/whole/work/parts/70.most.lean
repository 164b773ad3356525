theorem zz_all7 {M : gx_Mem} {lv : Nat → Nat → Nat → Nat → Nat → Nat → Nat} (h : zz_IH M) (hlv : ∀ a w i f m n, lv a w i f m n ≤ a) (hL : zz_LC lv M) {N p : Nat} (hN : N ≤ 48) (hp : p < (zz_H M).n) :
    ∃ M2, f_X4_allBehind (nI N) (nI p) M = some (nI (zz_su (fun m => zz_wt lv (zz_H M) (zz_O M) (zz_W M) (4 * p + m) N) 4), M2) ∧ zz_fr zz_S34 M M2 := by
  obtain ⟨t, ⟨M2, rfl, hf⟩, e⟩ := zz_for (fun (ag5 : Int32 × Int32 × gx_Mem → Option (Int32 × gx_Mem)) (s : Int32 × Int32 × gx_Mem) => f_X4_allBehind_k5 (nI N) (nI p) (fun v3 v4 M => ag5 (v3, v4, M)) s.1 s.2.1 s.2.2) (fun s => some (s.1, s.2.2)) (fun i s => ∃ M', s = (nI (zz_su (fun m => zz_wt lv (zz_H M) (zz_O M) (zz_W M) (4 * p + m) N) i), nI i, M') ∧ zz_fr zz_S34 M M') 4 gx_fuel (by decide) (0, 0, M) ⟨M, rfl, zz_fr.rf⟩ (fun i s hi hs => by
      obtain ⟨M', rfl, hf⟩ := hs
      have h' := h.fr (hf.mono zz_S34_sc)
      obtain ⟨M3, e1, f1⟩ := zz_wetBehind h' hlv (hL.tr (zz_lwC.fr hf)) hN (p := p) (m := i) (by rw [zz_H_fr hf zz_S34_9]; exact hp) hi
      rw [zz_H_fr hf zz_S34_9, zz_O_frF hf zz_S34_9, zz_W_frF hf zz_S34_9] at e1
      refine ⟨(nI (zz_su (fun m => zz_wt lv (zz_H M) (zz_O M) (zz_W M) (4 * p + m) N) (i + 1)), nI (i + 1), M3), ⟨M3, rfl, hf.tr f1⟩, fun ag => ?_⟩
      dsimp only
      unfold f_X4_allBehind_k5
      rw [if_neg (show ¬ (4 : Int32) ≤ nI i by rw [show (4 : Int32) = nI 4 from rfl, zz_le (by decide) (by omega)]; omega), e1]
      simp only [zz_bIs, zz_let, zz_add, show nI i + 1 = nI (i + 1) from zz_add i 1]
      rfl) (fun s hs ag => by
      obtain ⟨M', rfl, hf⟩ := hs
      rfl)
  exact ⟨M2, e, hf⟩
/-- the mark of the most of f among the first n, and how much -/
def zz_bm (f : Nat → Nat) : Nat → Int32 × Nat
  | 0 => (-2, 0)
  | n + 1 => if (zz_bm f n).2 < f n then (nI n, f n) else zz_bm f n
theorem zz_bm_le {f : Nat → Nat} {c : Nat} : ∀ n, (∀ i, i < n → f i ≤ c) → (zz_bm f n).2 ≤ c
  | 0, _ => Nat.zero_le _
  | n + 1, h => by
    have h1 := zz_bm_le n (fun i hi => h i (by omega))
    have h2 := h n (by omega)
    unfold zz_bm
    split <;> assumption
theorem zz_most7 {M : gx_Mem} {lv : Nat → Nat → Nat → Nat → Nat → Nat → Nat} (h : zz_IH M) (hlv : ∀ a w i f m n, lv a w i f m n ≤ a) (hL : zz_LC lv M) {N p : Nat} (hN : N ≤ 48) (hp : p < (zz_H M).n) :
    ∃ M2, f_X4_mostBehind (nI N) (nI p) M = some ((zz_bm (fun m => zz_wt lv (zz_H M) (zz_O M) (zz_W M) (4 * p + m) N) 4).1, M2) ∧ zz_fr zz_S34 M M2 := by
  have h6 := (zz_Hok h).1.1
  generalize hfn : (fun m => zz_wt lv (zz_H M) (zz_O M) (zz_W M) (4 * p + m) N) = f
  have hft : ∀ m, zz_wt lv (zz_H M) (zz_O M) (zz_W M) (4 * p + m) N = f m := fun m => by rw [← hfn]
  have hb : ∀ m, m < 4 → f m ≤ 9999 := fun m hm => by rw [← hft]; exact zz_wt_le (zz_Wok h (by omega)).2.1 N
  obtain ⟨t, ⟨M2, rfl, hf⟩, e⟩ := zz_for (fun (ag9 : Int32 × Int32 × Int32 × gx_Mem → Option (Int32 × gx_Mem)) (s : Int32 × Int32 × Int32 × gx_Mem) => f_X4_mostBehind_k9 (nI N) (nI p) (fun v3 v4 v5 M => ag9 (v3, v4, v5, M)) s.1 s.2.1 s.2.2.1 s.2.2.2) (fun s => some (s.1, s.2.2.2)) (fun i s => ∃ M', s = ((zz_bm f i).1, nI (zz_bm f i).2, nI i, M') ∧ zz_fr zz_S34 M M') 4 gx_fuel (by decide) (-2, 0, 0, M) ⟨M, rfl, zz_fr.rf⟩ (fun i s hi hs => by
      obtain ⟨M', rfl, hf⟩ := hs
      have h' := h.fr (hf.mono zz_S34_sc)
      obtain ⟨M3, e1, f1⟩ := zz_wetBehind h' hlv (hL.tr (zz_lwC.fr hf)) hN (p := p) (m := i) (by rw [zz_H_fr hf zz_S34_9]; exact hp) hi
      rw [zz_H_fr hf zz_S34_9, zz_O_frF hf zz_S34_9, zz_W_frF hf zz_S34_9, hft] at e1
      have b1 := hb i hi
      have b2 := zz_bm_le (f := f) (c := 9999) i (fun j hj => hb j (by omega))
      refine ⟨((zz_bm f (i + 1)).1, nI (zz_bm f (i + 1)).2, nI (i + 1), M3), ⟨M3, rfl, hf.tr f1⟩, fun ag => ?_⟩
      dsimp only
      unfold f_X4_mostBehind_k9 f_X4_mostBehind_b39
      rw [if_neg (show ¬ (4 : Int32) ≤ nI i by rw [show (4 : Int32) = nI 4 from rfl, zz_le (by decide) (by omega)]; omega), e1]
      simp only [zz_bIs, zz_let, show nI i + 1 = nI (i + 1) from zz_add i 1, zz_le (show f i < 2147483648 by omega) (show (zz_bm f i).2 < 2147483648 by omega)]
      conv => rhs; unfold zz_bm
      by_cases c : f i ≤ (zz_bm f i).2
      · rw [if_pos c, if_neg (by omega)]
      · rw [if_neg c, if_pos (by omega)]) (fun s hs ag => by
      obtain ⟨M', rfl, hf⟩ := hs
      rfl)
  exact ⟨M2, e, hf⟩
theorem zz_most57 {M : gx_Mem} {a : Nat → Nat} {p : Nat} (hp : p < 6) (h : ∀ j, j < 24 → M.1 78 j = nI (a j)) (hb : ∀ j, j < 24 → a j ≤ 9999) : f_X8_most_l57 (nI p) gx_fuel (-2) 0 0 M = some ((zz_bm (fun m => a (4 * p + m)) 4).1, M) := by
  obtain ⟨t, rfl, e⟩ := zz_for (fun (ag57 : Int32 × Int32 × Int32 × gx_Mem → Option (Int32 × gx_Mem)) (s : Int32 × Int32 × Int32 × gx_Mem) => f_X8_most_k57 (nI p) (fun v4 v5 v6 M => ag57 (v4, v5, v6, M)) s.1 s.2.1 s.2.2.1 s.2.2.2) (fun s => some (s.1, s.2.2.2)) (fun i s => s = ((zz_bm (fun m => a (4 * p + m)) i).1, nI (zz_bm (fun m => a (4 * p + m)) i).2, nI i, M)) 4 gx_fuel (by decide) (-2, 0, 0, M) rfl (fun i s hi hs => by
      subst hs
      have b1 := hb (4 * p + i) (by omega)
      have b2 := zz_bm_le (f := fun m => a (4 * p + m)) (c := 9999) i (fun j hj => hb _ (by omega))
      refine ⟨_, rfl, fun ag => ?_⟩
      dsimp only
      unfold f_X8_most_k57 f_X8_most_b99
      rw [if_neg (show ¬ (4 : Int32) ≤ nI i by rw [show (4 : Int32) = nI 4 from rfl, zz_le (by decide) (by omega)]; omega), show (4 : Int32) = nI 4 from rfl, zz_mul, zz_add, zz_gi (show 4 * p + i < 24 by omega) (by decide), zz_gi (show 4 * p + i < 24 by omega) (by decide), zz_cl (show 4 * p + i < 2147483648 by omega), h _ (show 4 * p + i < 24 by omega)]
      simp only [zz_let, show nI i + 1 = nI (i + 1) from zz_add i 1, zz_lt (show (zz_bm (fun m => a (4 * p + m)) i).2 < 2147483648 by omega) (show a (4 * p + i) < 2147483648 by omega)]
      conv => rhs; unfold zz_bm
      by_cases c : (zz_bm (fun m => a (4 * p + m)) i).2 < a (4 * p + i)
      · rw [if_pos c, if_pos c]
      · rw [if_neg c, if_neg c]) (fun s hs ag => by
      subst hs
      rfl)
  exact e
theorem op_most (a b c : Int32) : zz_ok (f_X7_most a b c) (f_X8_most a b c) := by
  intro M h
  obtain ⟨n, h6, hn, hn8⟩ := h.ppl
  obtain ⟨lv, hlv, hC, hM⟩ := h.law
  unfold f_X7_most
  rw [zz_isSpan7, zz_isOne7 hn h6, zz_isChoice7]
  simp only [zz_bPs, zz_ifi]
  have hg : ∀ M1 : gx_Mem, M1.1 57 1 = nI n → f_X8_most a b c M1 = if zz_rg a 49 = true then (if zz_rg b n = true then (if zz_rg c 2 = true then gx_bP (f_X8_layNow M1) (fun M8 => gx_bP (f_X8_goHours a (63 : Int32) M8) (fun M10 => (if c = 0 then gx_bP (f_X8_allWet b M10) (fun y12 => some (y12, M10)) else f_X8_most_l57 b gx_fuel (-2 : Int32) (0 : Int32) (0 : Int32) M10))) else some (-1, M1)) else some (-1, M1)) else some (-1, M1) := by
    intro M1 e
    unfold f_X8_most
    rw [zz_areHours8, zz_isOne8 e h6, show (1 : Int32) = nI 1 from rfl, zz_in8 c 1 M1 (by decide)]
    simp only [zz_bPs, zz_ifi]
  cases h1 : zz_rg a 49 with
  | false => exact ⟨-1, M, rfl, M, by rw [hg M hn8, h1]; rfl, h⟩
  | true =>
    cases h2 : zz_rg b n with
    | false => exact ⟨-1, M, rfl, M, by rw [hg M hn8, h1, h2]; rfl, h⟩
    | true =>
      cases h3 : zz_rg c 2 with
      | false => exact ⟨-1, M, rfl, M, by rw [hg M hn8, h1, h2, h3]; rfl, h⟩
      | true =>
        obtain ⟨N, hN, rfl⟩ := zz_rgT h1
        obtain ⟨p, hp, rfl⟩ := zz_rgT h2
        have hHn : (zz_H M).n = n := by
          show (M.1 9 7).toNatClampNeg = n
          rw [hn, zz_cl (by omega)]
        rw [if_pos rfl, if_pos rfl, if_pos rfl]
        by_cases c0 : c = 0
        · subst c0
          obtain ⟨M1, e1, f1⟩ := zz_all7 h.IH hlv hC (N := N) (p := p) (by omega) (by rw [hHn]; exact hp)
          rw [if_pos rfl, e1]
          simp only [zz_bIs]
          refine ⟨_, M1, rfl, ?_⟩
          have i1 : zz_Inv M1 := h.fr (f1.mono zz_S34_sc)
          obtain ⟨M2, e2, f2, g2⟩ := zz_goNow i1.IH hlv (hM.tr (zz_lwM.sc (f1.mono zz_S34_sc))) (N := N) (by omega)
          refine ⟨M2, ?_, i1.fr f2⟩
          rw [hg M1 ((f1.2 57 1 rfl).trans hn8), h1, h2, h3, if_pos rfl, if_pos rfl, if_pos rfl, zz_layNow M1 (by rw [i1.IH.1.2]; exact i1.IH.1.1)]
          simp only [zz_bPs]
          rw [e2, zz_bPs, if_pos trivial, zz_allWet8 g2.2.1 (by omega), zz_bPs, zz_H_fr f1 zz_S34_9, zz_O_frF f1 zz_S34_9, zz_W_frF f1 zz_S34_9]
        · obtain ⟨M1, e1, f1⟩ := zz_most7 h.IH hlv hC (N := N) (p := p) (by omega) (by rw [hHn]; exact hp)
          rw [if_neg c0, e1]
          simp only [zz_bIs]
          refine ⟨_, M1, rfl, ?_⟩
          have i1 : zz_Inv M1 := h.fr (f1.mono zz_S34_sc)
          obtain ⟨M2, e2, f2, g2⟩ := zz_goNow i1.IH hlv (hM.tr (zz_lwM.sc (f1.mono zz_S34_sc))) (N := N) (by omega)
          refine ⟨M2, ?_, i1.fr f2⟩
          rw [hg M1 ((f1.2 57 1 rfl).trans hn8), h1, h2, h3, if_pos rfl, if_pos rfl, if_pos rfl, zz_layNow M1 (by rw [i1.IH.1.2]; exact i1.IH.1.1)]
          simp only [zz_bPs]
          rw [e2, zz_bPs, if_neg c0, zz_most57 (by omega) g2.2.1 (fun j hj => zz_wt_le (zz_Wok i1.IH hj).2.1 N), zz_H_fr f1 zz_S34_9, zz_O_frF f1 zz_S34_9, zz_W_frF f1 zz_S34_9]

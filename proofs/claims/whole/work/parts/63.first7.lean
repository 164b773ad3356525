/-- in the i'th hour something drips on p at mark m that p can still take -/
def zz_gn (lv : Nat → Nat → Nat → Nat → Nat → Nat → Nat) (H : zz_hs) (O : Nat → Int32) (w : Nat → Nat) (p i m : Nat) : Bool := decide (m < 4 ∧ w (4 * p + m) < 9999 ∧ 0 < zz_dr lv H (O i) p m)
theorem zz_first10 {M : gx_Mem} {lv : Nat → Nat → Nat → Nat → Nat → Nat → Nat} (h : zz_IH M) (hlv : ∀ a w i f m n, lv a w i f m n ≤ a) (hL : zz_LC lv M) {p i : Nat} (hp : p < (zz_H M).n) (hi : i < 48) :
    ∃ M2, zz_fr zz_S34 M M2 ∧ (∀ ag2, f_X4_firstWetter_l10 ag2 (nI p) (nI (i + 1)) gx_fuel 0 M = if (∃ m, m < 4 ∧ zz_gn lv (zz_H M) (zz_O M) (zz_W M) p i m = true) then some (nI (i + 1), M2) else ag2 (nI (i + 2)) M2) := by
  have h6 := (zz_Hok h).1.1
  obtain ⟨J, hJ, j2, j3⟩ := zz_first (fun m => decide (m < 4) && !zz_gn lv (zz_H M) (zz_O M) (zz_W M) p i m) 4 rfl
  -- one mark
  have one : ∀ m, m < 4 → ∀ C, zz_fr zz_S34 M C → ∃ D, zz_fr zz_S34 M D ∧ ∀ ag2 ag10, f_X4_firstWetter_k10 ag2 (nI p) (nI (i + 1)) ag10 (nI m) C = if zz_gn lv (zz_H M) (zz_O M) (zz_W M) p i m = true then some (nI (i + 1), D) else ag10 (nI (m + 1)) D := by
    intro m hm C hC
    have h' := h.fr (hC.mono zz_S34_sc)
    obtain ⟨D, d1, d2⟩ := zz_drips (k := 9) (by decide) (zz_Hok h').1 (zz_Hok h').2 hlv (hL.tr (zz_lwC.fr hC)) (zz_O M i) (p := p) (m := m) (by rw [zz_H_fr hC zz_S34_9]; exact hp) hm
    rw [zz_H_fr hC zz_S34_9] at d1
    have w := (zz_Wok h (show 4 * p + m < 24 by omega)).2.1
    have hd := zz_dr_le hlv (zz_Hok h).1 (zz_O M i) hm p
    have key : ∀ ag2 ag10, f_X4_firstWetter_k10 ag2 (nI p) (nI (i + 1)) ag10 (nI m) C = if 9999 - zz_W M (4 * p + m) ≤ 0 then ag10 (nI (m + 1)) C else if zz_dr lv (zz_H M) (zz_O M i) p m ≤ 0 then ag10 (nI (m + 1)) D else some (nI (i + 1), D) := by
      intro ag2 ag10
      unfold f_X4_firstWetter_k10 f_X4_firstWetter_b48
      rw [show (4 : Int32) = nI 4 from rfl, if_neg (show ¬ nI 4 ≤ nI m by rw [zz_le (by decide) (by omega)]; omega), zz_room h' (by omega) hm, zz_W_fr hC zz_S34_9, show (1 : Int32) = nI 1 from rfl, zz_sub (show 1 ≤ i + 1 by omega), show i + 1 - 1 = i by omega, zz_outIn h' (by omega), zz_O_fr hC zz_S34_9, zz_add, show (0 : Int32) = nI 0 from rfl]
      simp only [zz_bPs]
      rw [d1]
      simp only [zz_bIs, zz_let, zz_le (show 9999 - zz_W M (4 * p + m) < 2147483648 by omega) (show 0 < 2147483648 by decide), zz_le (show zz_dr lv (zz_H M) (zz_O M i) p m < 2147483648 by omega) (show 0 < 2147483648 by decide)]
    by_cases c : 9999 - zz_W M (4 * p + m) ≤ 0
    · refine ⟨C, hC, fun ag2 ag10 => ?_⟩
      rw [key, if_pos c, if_neg (by unfold zz_gn; rw [decide_eq_false (by omega)]; decide)]
    · refine ⟨D, hC.tr d2, fun ag2 ag10 => ?_⟩
      rw [key, if_neg c]
      by_cases c2 : zz_dr lv (zz_H M) (zz_O M i) p m ≤ 0
      · rw [if_pos c2, if_neg (by unfold zz_gn; rw [decide_eq_false (by omega)]; decide)]
      · rw [if_neg c2, if_pos (by unfold zz_gn; rw [decide_eq_true (by omega)])]
  obtain ⟨t, ⟨C, rfl, fC⟩, e⟩ := zz_forC (fun (ag2 : Int32 → gx_Mem → Option (Int32 × gx_Mem)) (ag10 : Int32 × gx_Mem → Option (Int32 × gx_Mem)) (s : Int32 × gx_Mem) => f_X4_firstWetter_k10 ag2 (nI p) (nI (i + 1)) (fun v3 M => ag10 (v3, M)) s.1 s.2) (fun ag2 s => f_X4_firstWetter_k10 ag2 (nI p) (nI (i + 1)) (fun _ _ => none) s.1 s.2) (fun m s => ∃ C, s = (nI m, C) ∧ zz_fr zz_S34 M C) J gx_fuel (by unfold gx_fuel; omega) (0, M) ⟨M, rfl, zz_fr.rf⟩ (fun m s hm hs => by
      obtain ⟨C, rfl, fC⟩ := hs
      have hg := j3 m hm
      obtain ⟨D, d1, d2⟩ := one m (by omega) C fC
      refine ⟨(nI (m + 1), D), ⟨D, rfl, d1⟩, fun ag2 ag => ?_⟩
      dsimp only
      rw [d2, if_neg (by intro e; simp [e] at hg)]) (fun s hs ag2 ag => by
      obtain ⟨C, rfl, fC⟩ := hs
      dsimp only
      by_cases c : J < 4
      · obtain ⟨D, d1, d2⟩ := one J c C fC
        have : zz_gn lv (zz_H M) (zz_O M) (zz_W M) p i J = true := by simp [c] at j2; exact j2
        rw [d2, d2, if_pos this, if_pos this]
      · have : J = 4 := by omega
        subst this
        rfl)
  by_cases c : J < 4
  · obtain ⟨D, d1, d2⟩ := one J c C fC
    have hg : zz_gn lv (zz_H M) (zz_O M) (zz_W M) p i J = true := by simp [c] at j2; exact j2
    refine ⟨D, d1, fun ag2 => ?_⟩
    refine (e ag2).trans ?_
    dsimp only
    rw [d2, if_pos hg, if_pos ⟨J, c, hg⟩]
  · have : J = 4 := by omega
    subst this
    refine ⟨C, fC, fun ag2 => ?_⟩
    refine (e ag2).trans ?_
    rw [if_neg (by
      rintro ⟨m, hm, hg⟩
      have := j3 m hm
      simp [hg] at this)]
    show gx_let (nI (i + 1) + 1) (fun x1 => ag2 x1 C) = _
    rw [show nI (i + 1) + 1 = nI (i + 2) from zz_add _ 1, zz_let]

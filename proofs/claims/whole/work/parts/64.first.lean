def zz_gt (lv : Nat → Nat → Nat → Nat → Nat → Nat → Nat) (H : zz_hs) (O : Nat → Int32) (w : Nat → Nat) (p i : Nat) : Bool := zz_gn lv H O w p i 0 || zz_gn lv H O w p i 1 || zz_gn lv H O w p i 2 || zz_gn lv H O w p i 3
theorem zz_gt_iff {lv : Nat → Nat → Nat → Nat → Nat → Nat → Nat} {H : zz_hs} {O : Nat → Int32} {w : Nat → Nat} {p i : Nat} : zz_gt lv H O w p i = true ↔ ∃ m, m < 4 ∧ zz_gn lv H O w p i m = true := by
  unfold zz_gt
  rw [Bool.or_eq_true, Bool.or_eq_true, Bool.or_eq_true]
  refine ⟨fun h => ?_, fun h => ?_⟩
  · rcases h with ((h | h) | h) | h
    · exact ⟨0, by decide, h⟩
    · exact ⟨1, by decide, h⟩
    · exact ⟨2, by decide, h⟩
    · exact ⟨3, by decide, h⟩
  · obtain ⟨m, hm, h⟩ := h
    match m, hm with
    | 0, _ => exact .inl (.inl (.inl h))
    | 1, _ => exact .inl (.inl (.inr h))
    | 2, _ => exact .inl (.inr h)
    | 3, _ => exact .inr h
theorem zz_first7 {M : gx_Mem} {lv : Nat → Nat → Nat → Nat → Nat → Nat → Nat} (h : zz_IH M) (hlv : ∀ a w i f m n, lv a w i f m n ≤ a) (hL : zz_LC lv M) {p J : Nat} (hp : p < (zz_H M).n) (hJ : J ≤ 48) (j2 : (decide (J < 48) && !zz_gt lv (zz_H M) (zz_O M) (zz_W M) p J) = false) (j3 : ∀ i, i < J → (decide (i < 48) && !zz_gt lv (zz_H M) (zz_O M) (zz_W M) p i) = true) :
    ∃ M2, f_X4_firstWetter (nI p) M = some (if J < 48 then nI (J + 1) else -2, M2) ∧ zz_fr zz_S34 M M2 := by
  have one : ∀ i, i < 48 → ∀ C, zz_fr zz_S34 M C → ∃ D, zz_fr zz_S34 M D ∧ ∀ ag2, f_X4_firstWetter_k2 (nI p) ag2 (nI (i + 1)) C = if zz_gt lv (zz_H M) (zz_O M) (zz_W M) p i = true then some (nI (i + 1), D) else ag2 (nI (i + 2)) D := by
    intro i hi C hC
    have h' := h.fr (hC.mono zz_S34_sc)
    obtain ⟨D, d1, d2⟩ := zz_first10 h' hlv (hL.tr (zz_lwC.fr hC)) (p := p) (i := i) (by rw [zz_H_fr hC zz_S34_9]; exact hp) hi
    refine ⟨D, hC.tr d1, fun ag2 => ?_⟩
    unfold f_X4_firstWetter_k2
    rw [if_neg (show ¬ (48 : Int32) < nI (i + 1) by rw [show (48 : Int32) = nI 48 from rfl, zz_lt (by decide) (by omega)]; omega), d2, zz_H_fr hC zz_S34_9, show zz_O C = zz_O M from funext fun t => zz_O_fr hC zz_S34_9 t, show zz_W C = zz_W M from funext fun t => zz_W_fr hC zz_S34_9 t]
    by_cases c : ∃ m, m < 4 ∧ zz_gn lv (zz_H M) (zz_O M) (zz_W M) p i m = true
    · rw [if_pos c, if_pos (zz_gt_iff.2 c)]
    · rw [if_neg c, if_neg (fun e => c (zz_gt_iff.1 e))]
  obtain ⟨t, ⟨C, rfl, fC⟩, e⟩ := zz_for (fun (ag2 : Int32 × gx_Mem → Option (Int32 × gx_Mem)) (s : Int32 × gx_Mem) => f_X4_firstWetter_k2 (nI p) (fun v2 M => ag2 (v2, M)) s.1 s.2) (fun s => f_X4_firstWetter_k2 (nI p) (fun _ _ => none) s.1 s.2) (fun i s => ∃ C, s = (nI (i + 1), C) ∧ zz_fr zz_S34 M C) J gx_fuel (by unfold gx_fuel; omega) (1, M) ⟨M, rfl, zz_fr.rf⟩ (fun i s hi hs => by
      obtain ⟨C, rfl, fC⟩ := hs
      have hg := j3 i hi
      obtain ⟨D, d1, d2⟩ := one i (by omega) C fC
      refine ⟨(nI (i + 2), D), ⟨D, rfl, d1⟩, fun ag => ?_⟩
      dsimp only
      rw [d2, if_neg (by intro e; simp [e] at hg)]) (fun s hs ag => by
      obtain ⟨C, rfl, fC⟩ := hs
      dsimp only
      by_cases c : J < 48
      · obtain ⟨D, d1, d2⟩ := one J c C fC
        have : zz_gt lv (zz_H M) (zz_O M) (zz_W M) p J = true := by simp [c] at j2; exact j2
        rw [d2, d2, if_pos this, if_pos this]
      · have : J = 48 := by omega
        subst this
        unfold f_X4_firstWetter_k2
        rw [if_pos (show (48 : Int32) < nI (48 + 1) by decide), if_pos (show (48 : Int32) < nI (48 + 1) by decide)])
  by_cases c : J < 48
  · obtain ⟨D, d1, d2⟩ := one J c C fC
    have hg : zz_gt lv (zz_H M) (zz_O M) (zz_W M) p J = true := by simp [c] at j2; exact j2
    refine ⟨D, e.trans ?_, d1⟩
    dsimp only
    rw [d2, if_pos hg, if_pos c]
  · have : J = 48 := by omega
    subst this
    refine ⟨C, e.trans ?_, fC⟩
    dsimp only
    unfold f_X4_firstWetter_k2
    rw [if_pos (show (48 : Int32) < nI (48 + 1) by decide), if_neg c]

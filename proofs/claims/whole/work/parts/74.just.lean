/-! what fills a basin -/
def zz_fa (P : Nat → Bool) : Nat → Bool
  | 0 => true
  | n + 1 => zz_fa P n && P n
theorem zz_fa_iff (P : Nat → Bool) : ∀ n, zz_fa P n = true ↔ ∀ i, i < n → P i = true
  | 0 => ⟨fun _ i hi => absurd hi (Nat.not_lt_zero i), fun _ => rfl⟩
  | n + 1 => by
    unfold zz_fa
    rw [Bool.and_eq_true, zz_fa_iff P n]
    refine ⟨fun h i hi => ?_, fun h => ⟨fun i hi => h i (by omega), h n (by omega)⟩⟩
    by_cases c : i = n
    · subst c; exact h.2
    · exact h.1 i (by omega)
/-- a loop that leaves with 0 at the first that fails -/
theorem zz_allL (b : (Int32 × gx_Mem → Option (Int32 × gx_Mem)) → Int32 × gx_Mem → Option (Int32 × gx_Mem)) (P : Nat → Bool) (N n : Nat) (hn : N < n) (Inv : gx_Mem → Prop) (M : gx_Mem) (hM : Inv M) (one : ∀ m C, m < N → Inv C → ∃ D, Inv D ∧ ∀ ag, b ag (nI m, C) = if P m = true then ag (nI (m + 1), D) else some (0, D)) (ex : ∀ C ag, Inv C → b ag (nI N, C) = some (1, C)) :
    ∃ D, gx_loop b n (0, M) = some (zz_i (zz_fa P N), D) ∧ Inv D := by
  obtain ⟨J, hJ, j2, j3⟩ := zz_first (fun m => decide (m < N) && P m) N (by simp)
  have pJ : ∀ i, i < J → P i = true := fun i hi => by
    have := j3 i hi
    rw [Bool.and_eq_true] at this
    exact this.2
  obtain ⟨s, ⟨C, rfl, hC⟩, e⟩ := zz_for b (fun s => b (fun _ => none) s) (fun i s => ∃ C, s = (nI i, C) ∧ Inv C) J n (by omega) (0, M) ⟨M, rfl, hM⟩ (fun i s hi hs => by
      obtain ⟨C, rfl, hC⟩ := hs
      obtain ⟨D, d1, d2⟩ := one i C (by omega) hC
      exact ⟨_, ⟨D, rfl, d1⟩, fun ag => by rw [d2, if_pos (pJ i hi)]⟩) (fun s hs ag => by
      obtain ⟨C, rfl, hC⟩ := hs
      by_cases c : J < N
      · obtain ⟨D, d1, d2⟩ := one J C c hC
        have : ¬ P J = true := by
          intro q
          rw [decide_eq_true c, q] at j2; cases j2
        rw [d2, d2, if_neg this, if_neg this]
      · have : J = N := by omega
        subst this
        rw [ex C _ hC, ex C _ hC])
  by_cases c : J < N
  · obtain ⟨D, d1, d2⟩ := one J C c hC
    have hP : ¬ P J = true := by
      intro q
      rw [decide_eq_true c, q] at j2; cases j2
    refine ⟨D, ?_, d1⟩
    rw [e, d2, if_neg hP]
    have : ¬ zz_fa P N = true := fun q => hP ((zz_fa_iff P N).1 q J c)
    cases h : zz_fa P N with
    | false => rfl
    | true => exact absurd h this
  · have : J = N := by omega
    subst this
    refine ⟨C, ?_, hC⟩
    rw [e, ex C _ hC, (zz_fa_iff P J).2 pJ]
    rfl
theorem zz_cmp0 (a b : Int64) : (lg_cmp a b = 0) = (a = b) := by
  unfold lg_cmp
  by_cases h : a > b
  · rw [if_pos h]
    exact propext ⟨fun q => absurd q (by decide), fun q => by subst q; exact absurd h (Int64.lt_irrefl)⟩
  · rw [if_neg h]
    by_cases h2 : a = b
    · rw [if_pos h2]; exact propext ⟨fun _ => h2, fun _ => rfl⟩
    · rw [if_neg h2]; exact propext ⟨fun q => absurd q (by decide), fun q => absurd q h2⟩
theorem zz_i64 (a b : Int32) : (a.toInt64 = b.toInt64) = (a = b) := by
  refine propext ⟨fun h => ?_, fun h => by rw [h]⟩
  have := congrArg Int64.toInt h
  rw [Int32.toInt_toInt64, Int32.toInt_toInt64] at this
  exact Int32.toInt_inj.1 this
/-- what comes to the porter of mark m is as the basin says -/
def zz_fi (lv : Nat → Nat → Nat → Nat → Nat → Nat → Nat) (H : zz_hs) (bas : Nat → Int32) (o : Int32) (m : Nat) : Bool := decide (nI (zz_pt lv H o m 3) = bas m)
theorem zz_fills {k b : Nat} {M : gx_Mem} {H : zz_hs} {lv : Nat → Nat → Nat → Nat → Nat → Nat → Nat} {bas : Nat → Int32} (hk : 5 ≤ k) (ok : zz_hok H) (hv : zz_h7 k M H) (hlv : ∀ a w i f m n, lv a w i f m n ≤ a) (hL : zz_LC lv M) (hb : ∀ m, m < 4 → M.2 b m = (bas m).toInt64) (o : Int32) :
    ∃ M2, f_X4_fills k b o M = some (zz_i (zz_fa (zz_fi lv H bas o) 4), M2) ∧ zz_fr zz_S34 M M2 := by
  exact zz_allL (fun (ag2 : Int32 × gx_Mem → Option (Int32 × gx_Mem)) (s : Int32 × gx_Mem) => f_X4_fills_k2 k b o (fun v3 M => ag2 (v3, M)) s.1 s.2) (zz_fi lv H bas o) 4 gx_fuel (by decide) (fun C => zz_fr zz_S34 M C) M zz_fr.rf (fun m C hm hC => by
    obtain ⟨D, d1, d2⟩ := zz_caughtBy hk ok (hv.fr hk hC) hlv (hL.tr (zz_lwC.fr hC)) o hm
    have d3 := hC.tr d2
    refine ⟨D, d3, fun ag => ?_⟩
    dsimp only
    unfold f_X4_fills_k2
    rw [if_neg (show ¬ (4 : Int32) ≤ nI m by rw [show (4 : Int32) = nI 4 from rfl, zz_le (by decide) (by omega)]; omega), d1]
    simp only [zz_bIs, zz_gi (show m < 60 by omega) (show 60 < 2147483648 by decide), zz_cl (show m < 2147483648 by omega), zz_let, show nI m + 1 = nI (m + 1) from zz_add m 1]
    rw [d3.1, hb m hm]
    simp only [zz_cmp0, zz_i64]
    unfold zz_fi
    by_cases c : nI (zz_pt lv H o m 3) = bas m
    · rw [if_pos c, if_pos (decide_eq_true c)]
    · rw [if_neg c, if_neg (fun q => c (of_decide_eq_true q))]) (fun C ag _ => rfl)
def zz_SH (k _i : Nat) : Bool := k == 74 || k == 75 || k == 80 || k == 81
theorem zz_SF_SH {m : Nat} : ∀ k i, zz_SF m k i = true → zz_SH k i = true := fun k i h => by
  simp [zz_SF] at h
  rcases h with (rfl | rfl) | ⟨rfl | rfl, -⟩ <;> rfl
theorem zz_SH_SG : ∀ k i, zz_SH k i = true → zz_SG k i = true := fun k i h => by
  simp [zz_SH] at h
  rcases h with ((rfl | rfl) | rfl) | rfl <;> rfl
theorem zz_SH_sc : ∀ k i, zz_SH k i = true → zz_sc k i = true := fun k i h => zz_SG_sc k i (zz_SH_SG k i h)
theorem zz_at8 {M : gx_Mem} {s m : Nat} (hs : s < 6) (hm : m < 60) : f_X8_at (nI s) (nI m) M = some (M.2 94 (60 * s + m)).toInt32 := by
  unfold f_X8_at
  rw [zz_cl60 hs hm, zz_gi (show 60 * s + m < 360 by omega) (by decide), zz_cl (show 60 * s + m < 2147483648 by omega)]
theorem zz_isJust {M : gx_Mem} {H : zz_hs} {o : Int32} {s : Nat} {lv : Nat → Nat → Nat → Nat → Nat → Nat → Nat} {bas : Nat → Int32} (ok : zz_hok H) (hv : zz_h8 M H) (ho : M.1 57 28 = o) (hlv : ∀ a w i f m n, lv a w i f m n ≤ a) (hL : zz_LM lv M) (hs : s < 6) (hb : ∀ m, m < 4 → (M.2 94 (60 * s + m)).toInt32 = bas m) :
    ∃ M2, f_X8_isJust (nI s) M = some (zz_i (zz_fa (zz_fi lv H bas o) 4), M2) ∧ zz_fr zz_SH M M2 := by
  exact zz_allL (fun (ag2 : Int32 × gx_Mem → Option (Int32 × gx_Mem)) (t : Int32 × gx_Mem) => f_X8_isJust_k2 (nI s) (fun v2 M => ag2 (v2, M)) t.1 t.2) (zz_fi lv H bas o) 4 gx_fuel (by decide) (fun C => zz_fr zz_SH M C) M zz_fr.rf (fun m C hm hC => by
    obtain ⟨D, d1, d2, d4⟩ := zz_flow (M := C) (o := o) ok (hv.frG (hC.mono zz_SH_SG)) ((hC.2 57 28 rfl).trans ho) hlv (hL.tr (zz_lwM.sc (hC.mono zz_SH_sc))) hm
    have d3 := hC.tr (d2.mono zz_SF_SH)
    refine ⟨D, d3, fun ag => ?_⟩
    dsimp only
    unfold f_X8_isJust_k2
    rw [if_neg (show ¬ (4 : Int32) ≤ nI m by rw [show (4 : Int32) = nI 4 from rfl, zz_le (by decide) (by omega)]; omega), d1, zz_bPs, zz_toPorter hm d4, zz_bPs, zz_at8 hs (by omega), zz_bPs, d3.1, hb m hm, zz_let, show nI m + 1 = nI (m + 1) from zz_add m 1]
    unfold zz_fi
    by_cases c : nI (zz_pt lv H o m 3) = bas m
    · rw [if_pos c, if_pos (decide_eq_true c)]
    · rw [if_neg c, if_neg (fun q => c (of_decide_eq_true q))]) (fun C ag _ => rfl)
/-- why a shelf holds no basin, on both sides; and the basin -/
theorem zz_basin {M : gx_Mem} {s : Nat} (q : zz_IS M) (hs : s < 6) : ∃ r : Int32, f_X7_basinRefusal (44 + 2 * s) M = some r ∧ (∀ M1 : gx_Mem, M1.1 92 s = M.1 92 s → M1.1 93 s = M.1 93 s → f_X8_rowFault (nI s) M1 = some r) ∧ ((r = 0 ∧ M.1 (44 + 2 * s) 2 = 0) ∨ (¬ r = 0 ∧ r < 0)) := by
  obtain ⟨a, b, c⟩ := q s hs
  have e := zz_emp (t := 0) a
  unfold f_X7_basinRefusal
  rw [e]
  simp only [zz_bPs, zz_ifi, decide_eq_true_eq]
  have g : ∀ M1 : gx_Mem, M1.1 92 s = M.1 92 s → M1.1 93 s = M.1 93 s → f_X8_rowFault (nI s) M1 = if M.1 92 s = -1 then some (-11 : Int32) else (if M.1 92 s = -2 then (if M.1 93 s = 4 then some (0 : Int32) else some (-1)) else some (-12)) := by
    intro M1 h1 h2
    unfold f_X8_rowFault
    simp only [zz_gi hs (show 6 < 2147483648 by decide), zz_cl (show s < 2147483648 by omega), h1, h2]
  rcases a with ⟨a1, a2, a3⟩ | ⟨j, j1, j2, j3, j4, j5⟩ | ⟨k, n, k1, n1, a1, a2, a3, a4, a5⟩
  · exact ⟨-11, by rw [if_pos a3], fun M1 h1 h2 => by rw [g M1 h1 h2, if_pos a3], .inr ⟨by decide, by decide⟩⟩
  · have n1 : ¬ M.1 92 s = -1 := by rw [j5, j2]; exact zz_ne1 (by omega)
    have n2 : ¬ M.1 92 s = -2 := by
      rw [j5, j2]
      intro q
      have := congrArg Int32.toInt q
      rw [nI_toInt (by omega)] at this
      have e2 : (-2 : Int32).toInt = -2 := rfl
      omega
    exact ⟨-12, by rw [if_neg n1, j4, if_neg (by decide)], fun M1 h1 h2 => by rw [g M1 h1 h2, if_neg n1, if_neg n2], .inr ⟨by decide, by decide⟩⟩
  · obtain ⟨z1, z2, z3, z4, z5⟩ := zz_2m k1
    have n1 : ¬ M.1 92 s = -1 := by rw [a4, a2]; exact z2
    rw [if_neg n1]
    by_cases c0 : k = 0
    · have t0 : M.1 (44 + 2 * s) 2 = 0 := by rw [a2, c0]; rfl
      have h92 : M.1 92 s = -2 := by rw [a4, a2]; exact z4.2 c0
      rw [if_pos t0]
      by_cases c4 : M.1 (44 + 2 * s) 3 = 4
      · exact ⟨0, by rw [if_pos c4], fun M1 h1 h2 => by rw [g M1 h1 h2, if_neg n1, if_pos h92, a5, if_pos c4], .inl ⟨rfl, t0⟩⟩
      · exact ⟨-1, by rw [if_neg c4], fun M1 h1 h2 => by rw [g M1 h1 h2, if_neg n1, if_pos h92, a5, if_neg c4], .inr ⟨by decide, by decide⟩⟩
    · have t0 : ¬ M.1 (44 + 2 * s) 2 = 0 := by
        rw [a2, show (0 : Int32) = nI 0 from rfl, zz_eq (by omega) (by decide)]; exact c0
      have h92 : ¬ M.1 92 s = -2 := by rw [a4, a2]; exact fun q => c0 (z4.1 q)
      exact ⟨-12, by rw [if_neg t0], fun M1 h1 h2 => by rw [g M1 h1 h2, if_neg n1, if_neg h92], .inr ⟨by decide, by decide⟩⟩
/-- a basin's bytes -/
theorem zz_bas {M : gx_Mem} {s : Nat} (q : zz_IS M) (hs : s < 6) (h0 : M.1 (44 + 2 * s) 2 = 0) : ∃ bas : Nat → Int32, (∀ m, m < 4 → M.2 (45 + 2 * s) m = (bas m).toInt64) ∧ (∀ m, m < 4 → (M.2 94 (60 * s + m)).toInt32 = bas m) := by
  obtain ⟨a, b, c⟩ := q s hs
  refine ⟨fun m => (M.2 (45 + 2 * s) m).toInt32, fun m hm => ?_, fun m hm => by rw [b m (by omega)]⟩
  obtain ⟨v, hv⟩ := c h0 m (by omega)
  show _ = (M.2 (45 + 2 * s) m).toInt32.toInt64
  rw [hv]
  simp

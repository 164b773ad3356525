theorem zz_in16 (v : Int32) (M : gx_Mem) : f_X8_in v (1 : Int32) (6 : Int32) M = if v < 1 then some 0 else (if 6 < v then some 0 else some 1) := rfl
theorem zz_n16 {v : Int32} (h1 : ¬ v < 1) (h2 : ¬ (6 : Int32) < v) : ∃ n : Nat, 1 ≤ n ∧ n ≤ 6 ∧ v = nI n := by
  have h0 : ¬ v < 0 := by
    rw [zz_ltI, show (1 : Int32).toInt = 1 from rfl] at h1
    rw [zz_ltI, zz_t0]
    omega
  obtain ⟨j, hj, rfl⟩ := nI_of h0
  rw [show (1 : Int32) = nI 1 from rfl, zz_lt hj (by decide)] at h1
  rw [show (6 : Int32) = nI 6 from rfl, zz_lt (by decide) hj] at h2
  exact ⟨j, by omega, by omega, rfl⟩
/-- the model finds the mark thought most -/
theorem zz_turns82 {A : gx_Mem} {H : zz_hs} {foe : Nat} (ok : zz_hok H) (h60 : ∀ i, i < 24 → A.1 60 i = nI (H.th i)) (h41 : A.1 57 41 = nI foe) (hf : foe < 6) (v2 v3 : Int32) : f_X8_byTurns_l82 v2 v3 gx_fuel 1 (gx_sI A 57 42 0) = f_X8_byTurns_k82 v2 v3 (fun _ _ => none) 4 (gx_sI A 57 42 (nI (zz_fv (fun m => H.th (4 * foe + m)) 4))) := by
  have hth := ok.2.2.1
  obtain ⟨s, hs, e⟩ := zz_for (fun (ag82 : Int32 × gx_Mem → Option (Int32 × gx_Mem)) (s : Int32 × gx_Mem) => f_X8_byTurns_k82 v2 v3 (fun v4 M => ag82 (v4, M)) s.1 s.2) (fun s => f_X8_byTurns_k82 v2 v3 (fun _ _ => none) s.1 s.2) (fun i s => s = (nI (i + 1), gx_sI A 57 42 (nI (zz_fv (fun m => H.th (4 * foe + m)) (i + 1))))) 3 gx_fuel (by decide) (1, gx_sI A 57 42 0) (by rw [zz_fv1]; rfl) (fun i s hi hs => by
    subst hs
    refine ⟨_, rfl, fun ag => ?_⟩
    have b := zz_fv_lt4 (fun m => H.th (4 * foe + m)) (i + 1) (by omega)
    generalize hg : zz_fv (fun m => H.th (4 * foe + m)) (i + 1) = g at *
    dsimp only
    unfold f_X8_byTurns_k82 f_X8_byTurns_b127
    have t1 := hth (4 * foe + (i + 1)) (by omega)
    have t2 := hth (4 * foe + g) (by omega)
    rw [if_neg (show ¬ (4 : Int32) ≤ nI (i + 1) by rw [show (4 : Int32) = nI 4 from rfl, zz_le (by decide) (by omega)]; omega), show (gx_sI A 57 42 (nI g)).1 57 41 = nI foe from h41, show (gx_sI A 57 42 (nI g)).1 57 42 = nI g from rfl, show (4 : Int32) = nI 4 from rfl, zz_mul, zz_add, zz_add, zz_gi (show 4 * foe + (i + 1) < 24 by omega) (by decide), zz_gi (show 4 * foe + g < 24 by omega) (by decide), zz_cl (show 4 * foe + (i + 1) < 2147483648 by omega), zz_cl (show 4 * foe + g < 2147483648 by omega), show (gx_sI A 57 42 (nI g)).1 60 (4 * foe + (i + 1)) = nI (H.th (4 * foe + (i + 1))) from h60 _ (by omega), show (gx_sI A 57 42 (nI g)).1 60 (4 * foe + g) = nI (H.th (4 * foe + g)) from h60 _ (by omega)]
    simp only [zz_let, show nI (i + 1) + 1 = nI (i + 1 + 1) from zz_add _ 1, zz_le (show H.th (4 * foe + (i + 1)) < 2147483648 by omega) (show H.th (4 * foe + g) < 2147483648 by omega)]
    conv => rhs; unfold zz_fv
    rw [hg]
    by_cases c : H.th (4 * foe + (i + 1)) ≤ H.th (4 * foe + g)
    · rw [if_pos c, if_neg (by omega)]
    · rw [if_neg c, if_pos (by omega), zz_sIsI]) (fun s hs ag => by subst hs; rfl)
  subst hs
  exact e
theorem zz_turnsE {M : gx_Mem} {lv : Nat → Nat → Nat → Nat → Nat → Nat → Nat} (h : zz_IH M) (hlv : ∀ a w i f m n, lv a w i f m n ≤ a) (hL : zz_LM lv M) {one foe n : Nat} (c : Bool) (ho : one < (zz_H M).n) (hfo : foe < (zz_H M).n) (h1 : 1 ≤ n) (hn : n ≤ 6) {m : Nat} (hm : m < 4) {A : gx_Mem} (fA : zz_fr zz_sc M A) (a40 : A.1 57 40 = nI one) (a41 : A.1 57 41 = nI foe) (a42 : A.1 57 42 = nI m) :
    ∃ D, zz_fr zz_sc M D ∧ f_X8_byTurns_k82 (nI n) (zz_i c) (fun _ _ => none) 4 A = some (if c = true then (if min (9999 - zz_W M (4 * one + m)) (zz_su (zz_tk lv (zz_H M) (zz_O M) one foe m) n) ≤ min (9999 - zz_W M (4 * one + m)) (zz_su (zz_tk lv (zz_H M) (zz_O M) one foe m) n - zz_tg lv (zz_H M) (zz_O M) one foe m 0) then 0 else 1) else nI (min (9999 - zz_W M (4 * one + m)) (zz_su (zz_tk lv (zz_H M) (zz_O M) one foe m) n)), D) := by
  have ok := (zz_Hok h).1
  have h6 := ok.1
  have hw := zz_Wok h (show 4 * one + m < 24 by omega)
  have fB : zz_fr zz_sc M (gx_sI A 57 43 (nI n)) := fA.sI rfl
  have hB := h.fr fB
  have fN := zz_now_fr (gx_sI A 57 43 (nI n))
  have fMN := fB.tr fN
  have gN := zz_now_G hB lv (zz_O M)
  rw [zz_H_fr fB zz_sc_9] at gN
  have h0B : zz_h0 (gx_sI A 57 43 (nI n)) = zz_h0 M := by unfold zz_h0; rw [fB.2 9 9 rfl]
  rw [h0B] at gN
  have lay : f_X8_layNow (gx_sI A 57 43 (nI n)) = some (zz_now (gx_sI A 57 43 (nI n))) := zz_layNow _ (by rw [hB.1.2]; exact hB.1.1)
  have n57 : ∀ i, i ≠ 29 → (zz_now (gx_sI A 57 43 (nI n))).1 57 i = (gx_sI A 57 43 (nI n)).1 57 i := fun i hi => by
    unfold zz_now
    rw [zz_sI1, if_neg (fun q => hi q.2)]
    rfl
  have hN : zz_tm M (zz_now (gx_sI A 57 43 (nI n))) one foe m n := ⟨gN.1, (n57 40 (by decide)).trans a40, (n57 41 (by decide)).trans a41, (n57 42 (by decide)).trans a42, n57 43 (by decide), (fMN.2 63 1 rfl).trans (zz_h0ok h).2.2, fun i => fMN.2 59 i rfl⟩
  have e61 : (zz_now (gx_sI A 57 43 (nI n))).1 61 (4 * one + m) = nI (zz_W M (4 * one + m)) := (fMN.2 61 _ rfl).trans hw.2.2
  generalize zz_now (gx_sI A 57 43 (nI n)) = N at *
  obtain ⟨dd, hdd⟩ : ∃ dd : Nat, dd + 1 = gx_dep := ⟨99, rfl⟩
  have ih := zz_bestOf h hlv hL ho hfo hm hn (n - 1) 1 dd (by omega) (by unfold gx_dep at hdd; omega)
  obtain ⟨B, e1, f1⟩ := zz_byOut h hlv hL ho hfo hm (show 0 < 6 by decide) ih hN fMN hw.2.1 false
  obtain ⟨C, e2, f2⟩ := zz_byOut h hlv hL ho hfo hm (show 0 < 6 by decide) ih (hN.fr f1) (fMN.tr (f1.mono (fun k i q => zz_SG_sc k i (zz_SI_SG k i q)))) hw.2.1 true
  rw [show zz_i false = (0 : Int32) from rfl, if_neg (by decide), hdd, show nI 0 = (0 : Int32) from rfl] at e1
  rw [show zz_i true = (1 : Int32) from rfl, if_pos rfl, hdd, show nI 0 = (0 : Int32) from rfl] at e2
  refine ⟨C, fMN.tr ((f1.tr f2).mono (fun k i q => zz_SG_sc k i (zz_SI_SG k i q))), ?_⟩
  have s0 := zz_tlS (zz_tk lv (zz_H M) (zz_O M) one foe m) (show 0 < n by omega)
  rw [zz_tl0] at s0
  have hs0 := zz_ts0 (lv := lv) (H := zz_H M) (O := zz_O M) (one := one) (foe := foe) (m := m) (show one < 6 by omega)
  have ht0 : zz_tk lv (zz_H M) (zz_O M) one foe m 0 = zz_tg lv (zz_H M) (zz_O M) one foe m 0 := by
    unfold zz_tk
    rw [if_pos rfl, hs0]; omega
  have hg0 := (zz_tk_le hlv ok (zz_O M) one foe hm 0).1
  rw [ht0] at s0
  rw [hs0] at e1
  unfold f_X8_byTurns_k82 f_X8_byTurns_b214
  rw [if_pos (show (4 : Int32) ≤ 4 by decide), zz_let, lay, zz_bPs, hN.2.1, hN.2.2.2.1, show (4 : Int32) = nI 4 from rfl, zz_mul, zz_add, zz_gi (show 4 * one + m < 24 by omega) (by decide), zz_let, zz_cl (show 4 * one + m < 2147483648 by omega), e61, e1, zz_bIs, e2, zz_bIs, s0]
  generalize zz_tg lv (zz_H M) (zz_O M) one foe m 0 = x at *
  generalize zz_tl (zz_tk lv (zz_H M) (zz_O M) one foe m) n (0 + 1) = t at *
  generalize zz_W M (4 * one + m) = w at *
  have hw2 := hw.2.1
  simp only [zz_le (show min 9999 (w + x + t) < 2147483648 by omega) (show min 9999 (w + 0 + t) < 2147483648 by omega)]
  cases c with
  | true =>
    rw [if_pos (show zz_i true = 1 from rfl), if_pos rfl]
    by_cases c3 : min 9999 (w + x + t) ≤ min 9999 (w + 0 + t)
    · rw [if_pos c3, if_pos (by omega)]
    · rw [if_neg c3, if_neg (by omega)]
  | false =>
    rw [if_neg (show ¬ zz_i false = 1 by decide), if_neg (show ¬ false = true by decide)]
    by_cases c3 : min 9999 (w + x + t) ≤ min 9999 (w + 0 + t)
    · rw [if_pos c3, zz_sub (by omega)]
      refine congrArg some (Prod.ext ?_ rfl)
      show nI _ = nI _
      congr 1
      omega
    · rw [if_neg c3, zz_sub (by omega)]
      refine congrArg some (Prod.ext ?_ rfl)
      show nI _ = nI _
      congr 1
      omega
theorem op_byTurns (a b c : Int32) : zz_ok (f_X7_byTurns a b c) (f_X8_byTurns a b c) := by
  intro M h
  obtain ⟨n, h6, hn, hn8⟩ := h.ppl
  obtain ⟨lv, hlv, hC, hM⟩ := h.law
  unfold f_X7_byTurns
  simp only [zz_let]
  rcases zz_case a with ha | ⟨x, hx, rfl⟩
  · rw [if_pos ha]
    exact ⟨-1, M, rfl, M, by unfold f_X8_byTurns; rw [if_pos ha], h⟩
  · rw [if_neg (nI_pos hx), show (10 : Int32) = nI 10 from rfl, zz_div hx (by decide) (by decide), zz_rem hx (by decide) (by decide), zz_isOne7 hn h6, zz_isOne7 hn h6, zz_isChoice7]
    simp only [zz_bPs, zz_ifi]
    have hg : ∀ M1 : gx_Mem, M1.1 57 1 = nI n → f_X8_byTurns (nI x) b c M1 = if zz_rg (nI (x / 10)) n = true then (if zz_rg (nI (x % 10)) n = true then (if nI (x / 10) = nI (x % 10) then some (-1, M1) else (if b < 1 then some (-1, M1) else (if (6 : Int32) < b then some (-1, M1) else (if zz_rg c 2 = true then f_X8_byTurns_l82 b c gx_fuel 1 (gx_sI (gx_sI (gx_sI M1 57 40 (nI (x / 10))) 57 41 (nI (x % 10))) 57 42 0) else some (-1, M1))))) else some (-1, M1)) else some (-1, M1) := by
      intro M1 e
      unfold f_X8_byTurns
      rw [if_neg (nI_pos hx), show (10 : Int32) = nI 10 from rfl, zz_div hx (by decide) (by decide), zz_rem hx (by decide) (by decide), zz_isOne8 e h6, zz_isOne8 e h6, zz_in16, show f_X8_in c (0 : Int32) (1 : Int32) M1 = some (zz_i (zz_rg c 2)) from zz_in8 c 1 M1 (by decide)]
      simp only [zz_bPs, zz_ifi, zz_let]
      by_cases k1 : b < 1
      · simp only [if_pos k1, zz_bPs, if_true]
      · by_cases k2 : (6 : Int32) < b
        · simp only [if_neg k1, if_pos k2, zz_bPs, if_true]
        · simp only [if_neg k1, if_neg k2, zz_bPs, show ¬ ((1 : Int32) = 0) by decide, if_false]
    cases h1 : zz_rg (nI (x / 10)) n with
    | false => exact ⟨-1, M, rfl, M, by rw [hg M hn8, h1]; rfl, h⟩
    | true =>
      cases h2 : zz_rg (nI (x % 10)) n with
      | false => exact ⟨-1, M, rfl, M, by rw [hg M hn8, h1, h2]; rfl, h⟩
      | true =>
        have hp : x / 10 < n := by rw [zz_rgN (by omega)] at h1; exact of_decide_eq_true h1
        have hq : x % 10 < n := by rw [zz_rgN (by omega)] at h2; exact of_decide_eq_true h2
        rw [if_pos rfl, if_pos rfl]
        by_cases k0 : nI (x / 10) = nI (x % 10)
        · rw [if_pos k0]
          exact ⟨-1, M, rfl, M, by rw [hg M hn8, h1, h2, if_pos rfl, if_pos rfl, if_pos k0], h⟩
        · by_cases k1 : b < 1
          · rw [if_neg k0, if_pos k1]
            exact ⟨-1, M, rfl, M, by rw [hg M hn8, h1, h2, if_pos rfl, if_pos rfl, if_neg k0, if_pos k1], h⟩
          · by_cases k2 : (6 : Int32) < b
            · rw [if_neg k0, if_neg k1, if_pos k2]
              exact ⟨-1, M, rfl, M, by rw [hg M hn8, h1, h2, if_pos rfl, if_pos rfl, if_neg k0, if_neg k1, if_pos k2], h⟩
            · rw [if_neg k0, if_neg k1, if_neg k2]
              cases h3 : zz_rg c 2 with
              | false => exact ⟨-1, M, rfl, M, by rw [hg M hn8, h1, h2, h3, if_pos rfl, if_pos rfl, if_neg k0, if_neg k1, if_neg k2]; rfl, h⟩
              | true =>
                obtain ⟨N, n1, n6, rfl⟩ := zz_n16 k1 k2
                obtain ⟨c, rfl⟩ := zz_ch h3
                have hne : x / 10 ≠ x % 10 := fun q => k0 (by rw [q])
                generalize x / 10 = one at *
                generalize x % 10 = foe at *
                have hHn := zz_Hn h6 hn
                obtain ⟨m, hmd⟩ : ∃ m, zz_fv (fun m => (zz_H M).th (4 * foe + m)) 4 = m := ⟨_, rfl⟩
                have hm : m < 4 := by rw [← hmd]; exact zz_fv_lt4 _ 4 (Nat.le_refl _)
                obtain ⟨M1, f1, e1⟩ := zz_turns h.IH hlv hC (one := one) (foe := foe) (n := N) c (by rw [hHn]; exact hp) (by rw [hHn]; exact hq) hne n1 n6 hmd
                have e0 : (if zz_i c = (1 : Int32) then f_X7_byTurns_b80 (nI one) (nI foe) (nI N) 1 M else f_X7_byTurns_b80 (nI one) (nI foe) (nI N) 0 M) = gx_bI (f_X4_turns (nI one) (nI foe) (nI N) (zz_i c) M) (fun y10 M11 => some (y10, M11)) := by
                  cases c with
                  | false => rw [if_neg (show ¬ zz_i false = 1 by decide)]; rfl
                  | true => rw [if_pos (show zz_i true = 1 from rfl)]; rfl
                rw [if_pos rfl, e0, e1, zz_bIs]
                refine ⟨_, M1, rfl, ?_⟩
                have i1 : zz_Inv M1 := h.fr (f1.mono zz_S34_sc)
                have hH := zz_H_fr f1 zz_S34_9
                have fA : zz_fr zz_sc M1 (gx_sI (gx_sI (gx_sI M1 57 40 (nI one)) 57 41 (nI foe)) 57 42 (nI m)) := ((zz_fr.rf.sI rfl).sI rfl).sI rfl
                obtain ⟨M2, f2, e2⟩ := zz_turnsE i1.IH hlv (hM.tr (zz_lwM.sc (f1.mono zz_S34_sc))) (one := one) (foe := foe) (n := N) c (by rw [hH, hHn]; exact hp) (by rw [hH, hHn]; exact hq) n1 n6 hm fA rfl rfl rfl
                refine ⟨M2, ?_, i1.fr f2⟩
                rw [hg M1 ((f1.2 57 1 rfl).trans hn8), h1, h2, h3, if_pos rfl, if_pos rfl, if_neg k0, if_neg k1, if_neg k2, if_pos rfl, zz_turns82 (A := gx_sI (gx_sI M1 57 40 (nI one)) 57 41 (nI foe)) (H := zz_H M1) (zz_Hok i1.IH).1 (fun i hi => by
                  show M1.1 60 i = _
                  rw [(i1.IH.2.2.2.1 i hi).2]; exact (zz_Hok i1.IH).2.2.2.1 i hi) rfl (by omega), hH, hmd, e2, hH, zz_W_frF f1 zz_S34_9, zz_O_frF f1 zz_S34_9]

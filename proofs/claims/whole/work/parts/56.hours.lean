/-- the same with something that the loop is handed: where it ends doesn't hang on it -/
theorem zz_forC {γ σ ρ : Type} (b : γ → (σ → Option ρ) → σ → Option ρ) (E : γ → σ → Option ρ) (I : Nat → σ → Prop) (N n : Nat) (hn : N < n) (s0 : σ) (h0 : I 0 s0)
    (step : ∀ i s, i < N → I i s → ∃ s2, I (i + 1) s2 ∧ ∀ c ag, b c ag s = ag s2) (ex : ∀ s, I N s → ∀ c ag, b c ag s = E c s) : ∃ s, I N s ∧ ∀ c, gx_loop (b c) n s0 = E c s := by
  obtain ⟨s, h1, h2⟩ := zz_loopE b E I N step ex N 0 s0 (by omega) h0
  exact ⟨s, h1, fun c => h2 c n hn⟩
/-- the model after i hours -/
def zz_G (lv : Nat → Nat → Nat → Nat → Nat → Nat → Nat) (H : zz_hs) (O : Nat → Int32) (w : Nat → Nat) (h0 i : Nat) (M : gx_Mem) : Prop :=
  zz_h8 M H ∧ (∀ j, j < 24 → M.1 78 j = nI (zz_wt lv H O w j i)) ∧ (∀ q, q < 4 → M.1 79 q = nI (zz_ca lv H O q i)) ∧ M.1 57 29 = nI ((h0 + i) % 12)
theorem zz_goMarks {M : gx_Mem} {H : zz_hs} {lv : Nat → Nat → Nat → Nat → Nat → Nat → Nat} {O : Nat → Int32} {w : Nat → Nat} {h0 i : Nat} (v1 v2 : Int32) (x : Nat) (ok : zz_hok H) (ho : M.1 57 28 = O i) (hlv : ∀ a w i f m n, lv a w i f m n ≤ a) (hL : zz_LM lv M) (hw : ∀ j, j < 24 → w j ≤ 9999) (hi : i ≤ 100) (g : zz_G lv H O w h0 i M) :
    ∃ M2, (∀ ag2, f_X8_goHours_l23 ag2 v1 v2 (nI x) gx_fuel 0 M = ag2 (nI (x + 1)) M2) ∧ zz_fr zz_SG M M2 ∧ zz_G lv H O w h0 (i + 1) M2 := by
  obtain ⟨g1, g2, g3, g4⟩ := g
  obtain ⟨t, ⟨C, rfl, fC, gC, c79, c28, c29⟩, e⟩ := zz_forC (fun (ag2 : Int32 → gx_Mem → Option gx_Mem) (ag23 : Int32 × gx_Mem → Option gx_Mem) (s : Int32 × gx_Mem) => f_X8_goHours_k23 ag2 v1 v2 (nI x) (fun v4 M => ag23 (v4, M)) s.1 s.2) (fun ag2 s => ag2 (nI (x + 1)) (gx_sI s.2 57 29 (nI ((h0 + (i + 1)) % 12)))) (fun m s => ∃ C, s = (nI m, C) ∧ zz_fr zz_SG M C ∧ zz_gs lv H O w i m 0 C ∧ (∀ q, q < 4 → C.1 79 q = nI (if q < m then zz_ca lv H O q (i + 1) else zz_ca lv H O q i)) ∧ C.1 57 28 = O i ∧ C.1 57 29 = nI ((h0 + i) % 12)) 4 gx_fuel (by decide) (0, M) ⟨M, rfl, zz_fr.rf, fun j hj => by rw [if_neg (by omega)]; exact g2 j hj, fun q hq => by rw [if_neg (by omega)]; exact g3 q hq, ho, g4⟩ (fun m s hm hs => by
      obtain ⟨C, rfl, fC, gC, c79, c28, c29⟩ := hs
      obtain ⟨D, d1, d2, d3, d4, d5, d6, d7⟩ := zz_goMark ok (g1.frG fC) c28 hlv (hL.tr (zz_lwM.sc (fC.mono zz_SG_sc))) hm hw hi gC (by rw [c79 m hm, if_neg (by omega)])
      refine ⟨(nI (m + 1), D), ⟨D, rfl, fC.tr d2, d3, fun q hq => ?_, d6, d7.trans c29⟩, fun ag2 ag => ?_⟩
      · by_cases c : q = m
        · subst c; rw [d4, if_pos (by omega)]
        · rw [d5 q c, c79 q hq]
          by_cases c2 : q < m
          · rw [if_pos c2, if_pos (by omega)]
          · rw [if_neg c2, if_neg (by omega)]
      · dsimp only
        unfold f_X8_goHours_k23
        rw [show (4 : Int32) = nI 4 from rfl]
        simp only [zz_le (show 4 < 2147483648 by decide) (show m < 2147483648 by omega)]
        rw [if_neg (by omega), d1]
        simp only [zz_bPs, zz_let, show nI m + 1 = nI (m + 1) from zz_add m 1]) (fun s hs ag2 ag => by
      obtain ⟨C, rfl, fC, gC, c79, c28, c29⟩ := hs
      dsimp only
      unfold f_X8_goHours_k23
      rw [if_pos (show (4 : Int32) ≤ nI 4 by decide), c29]
      simp only [zz_let, show nI x + 1 = nI (x + 1) from zz_add x 1, show ∀ y : Nat, nI y + 1 = nI (y + 1) from fun y => zz_add y 1]
      rw [show (12 : Int32) = nI 12 from rfl, zz_rem (by omega) (by decide) (by decide), show ((h0 + i) % 12 + 1) % 12 = (h0 + (i + 1)) % 12 by omega])
  refine ⟨_, e, fC.sI rfl, ?_⟩
  have gD := (g1.frG fC)
  refine ⟨⟨gD.1, gD.2.1, gD.2.2.1, gD.2.2.2.1, gD.2.2.2.2⟩, fun j hj => ?_, fun q hq => ?_, rfl⟩
  · rw [zz_sI1, if_neg (by omega), gC j hj, if_pos (by omega)]
  · rw [zz_sI1, if_neg (by omega), c79 q hq, if_pos hq]
theorem zz_goHours {M : gx_Mem} {H : zz_hs} {lv : Nat → Nat → Nat → Nat → Nat → Nat → Nat} {O : Nat → Int32} {w : Nat → Nat} {h0 i N : Nat} {mask : Int32} (ok : zz_hok H) (hlv : ∀ a w i f m n, lv a w i f m n ≤ a) (hL : zz_LM lv M) (hw : ∀ j, j < 24 → w j ≤ 9999) (hi : i + N ≤ 100) (g : zz_G lv H O w h0 i M)
    (hO : ∀ t, i ≤ t → t < i + N → O t = zz_ou (fun p => zz_b mask p && zz_b (M.1 59 p) ((h0 + t) % 12)) H.n) :
    ∃ M2, f_X8_goHours (nI N) mask M = some M2 ∧ zz_fr zz_SG M M2 ∧ zz_G lv H O w h0 (i + N) M2 := by
  obtain ⟨t, ⟨C, rfl, fC, gC⟩, e⟩ := zz_for (fun (ag2 : Int32 × gx_Mem → Option gx_Mem) (s : Int32 × gx_Mem) => f_X8_goHours_k2 (nI N) mask (fun v3 M => ag2 (v3, M)) s.1 s.2) (fun s => some s.2) (fun x s => ∃ C, s = (nI x, C) ∧ zz_fr zz_SG M C ∧ zz_G lv H O w h0 (i + x) C) N gx_fuel (by unfold gx_fuel; omega) (0, M) ⟨M, rfl, zz_fr.rf, g⟩ (fun x s hx hs => by
      obtain ⟨C, rfl, fC, gC⟩ := hs
      have fB : zz_fr zz_SG M (gx_sI C 57 28 (O (i + x))) := fC.sI rfl
      have h6 := ok.1
      have out : f_X8_outAt (nI ((h0 + (i + x)) % 12)) mask C = some (O (i + x)) := by
        rw [zz_outAt8 gC.1.1 h6, hO (i + x) (by omega) (by omega)]
        refine congrArg some (zz_ou_cong _ (fun p hp => ?_))
        rw [fC.2 59 p rfl]
      obtain ⟨g1, g2, g3, g4⟩ := gC
      have gB : zz_G lv H O w h0 (i + x) (gx_sI C 57 28 (O (i + x))) := ⟨⟨g1.1, g1.2.1, g1.2.2.1, g1.2.2.2.1, g1.2.2.2.2⟩, g2, g3, g4⟩
      have hLB : zz_LM lv (gx_sI C 57 28 (O (i + x))) := hL.tr (zz_lwM.sc (fB.mono zz_SG_sc))
      obtain ⟨D, d1, d2, d3⟩ := zz_goMarks (O := O) (i := i + x) (h0 := h0) (nI N) mask x ok rfl hlv hLB hw (by omega) gB
      refine ⟨(nI (x + 1), D), ⟨D, rfl, fB.tr d2, d3⟩, fun ag => ?_⟩
      dsimp only
      unfold f_X8_goHours_k2
      simp only [zz_le (show N < 2147483648 by omega) (show x < 2147483648 by omega)]
      rw [if_neg (by omega), g4, out]
      simp only [zz_bPs, zz_let]
      rw [d1]) (fun s hs ag => by
      obtain ⟨C, rfl, fC, gC⟩ := hs
      dsimp only
      unfold f_X8_goHours_k2
      rw [if_pos (nI_le (Nat.le_refl N) (by omega))])
  exact ⟨C, e, fC, gC⟩

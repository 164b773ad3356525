/-- the best set of floors among the first n -/
def zz_dbN : Option Nat → Nat
  | none => 9
  | some b => zz_pop b
def zz_dbI : Option Nat → Int32
  | none => -2
  | some b => nI b
def zz_db (D : Nat → Bool) : Nat → Option Nat
  | 0 => none
  | n + 1 => if zz_pop n < zz_dbN (zz_db D n) ∧ D n = true then some n else zz_db D n
theorem zz_db_lt (D : Nat → Bool) : ∀ n b, zz_db D n = some b → b < n
  | 0, b, h => by cases h
  | n + 1, b, h => by
    unfold zz_db at h
    by_cases c : zz_pop n < zz_dbN (zz_db D n) ∧ D n = true
    · rw [if_pos c] at h
      cases h; omega
    · rw [if_neg c] at h
      have := zz_db_lt D n b h
      omega
theorem zz_dbN_le (x : Option Nat) : zz_dbN x ≤ 9 := by
  cases x with
  | none => exact Nat.le_refl _
  | some b => have := zz_pop_le b; show zz_pop b ≤ 9; omega
def zz_D (lv : Nat → Nat → Nat → Nat → Nat → Nat → Nat) (H : zz_hs) (w : Nat → Nat) (Q : Nat → Nat → Bool) (one i : Nat) : Bool := decide (zz_su (zz_wr lv (zz_ha H (H.fl one / 8) i) w Q 63 one) 4 = 0)
theorem zz_driest {N : Nat} (hN6 : N = 256) {M : gx_Mem} {lv : Nat → Nat → Nat → Nat → Nat → Nat → Nat} (h : zz_IH M) (hlv : ∀ a w i f m n, lv a w i f m n ≤ a) (hL : zz_LC lv M) {one : Nat} (hp : one < (zz_H M).n) :
    ∃ M2, f_X4_driest (nI one) M = some (zz_dbI (zz_db (zz_D lv (zz_H M) (zz_W M) (zz_Q M) one) N), M2) ∧ zz_fr zz_sc M M2 := by
  obtain ⟨ok, c1, c2, c3, c4, c5⟩ := zz_Hok h
  have h6 := ok.1
  have hfl := ok.2.1 one hp
  generalize hs : (zz_H M).fl one / 8 = s
  have hs3 : s < 3 := by omega
  generalize hD : zz_D lv (zz_H M) (zz_W M) (zz_Q M) one = D
  have hDi : ∀ i, D i = decide (zz_su (zz_wr lv (zz_ha (zz_H M) s i) (zz_W M) (zz_Q M) 63 one) 4 = 0) := fun i => by rw [← hD, ← hs]; rfl
  obtain ⟨t, ⟨M2, x2, rfl, hf, hv⟩, e⟩ := zz_for (fun (ag34 : Int32 × Int32 × Int32 × gx_Mem → Option (Int32 × gx_Mem)) (s2 : Int32 × Int32 × Int32 × gx_Mem) => f_X4_driest_k34 (nI one) (nI s) (fun v3 v4 v5 M => ag34 (v3, v4, v5, M)) s2.1 s2.2.1 s2.2.2.1 s2.2.2.2) (fun s2 => some (s2.1, s2.2.2.2)) (fun i s2 => ∃ M' x, s2 = (zz_dbI (zz_db D i), nI (zz_dbN (zz_db D i)), nI i, M') ∧ zz_fr zz_sc M M' ∧ zz_hw 23 M' (zz_ha (zz_H M) s x) (zz_W M) (zz_Q M)) N gx_fuel (by rw [hN6]; decide) (-2, 9, 0, zz_lk 23 9 M) ⟨_, 0, rfl, zz_lk23_fr M, (zz_lk23_hw h).ha0 s⟩ (fun i s2 hi hs2 => by
      obtain ⟨M', x, rfl, hf, hv⟩ := hs2
      have hN := zz_dbN_le (zz_db D i)
      have hpi := zz_pop_le i
      have step : ∀ ag, f_X4_driest_k34 (nI one) (nI s) ag (zz_dbI (zz_db D i)) (nI (zz_dbN (zz_db D i))) (nI i) M' = if zz_dbN (zz_db D i) ≤ zz_pop i then ag (zz_dbI (zz_db D i)) (nI (zz_dbN (zz_db D i))) (nI (i + 1)) M' else gx_bP (f_X4_spread (nI s) (nI i) M') (fun M7 => gx_bI (f_X4_wetter 23 (nI one) (0 : Int32) (3 : Int32) (63 : Int32) M7) (fun y9 M10 => (if y9 = 0 then ag (nI i) (nI (zz_pop i)) (nI (i + 1)) M10 else ag (zz_dbI (zz_db D i)) (nI (zz_dbN (zz_db D i))) (nI (i + 1)) M10))) := by
        intro ag
        unfold f_X4_driest_k34 f_X4_driest_b85
        rw [if_neg (show ¬ (256 : Int32) ≤ nI i by rw [show (256 : Int32) = nI 256 from rfl, zz_le (by decide) (by omega)]; omega), zz_bc7 (by omega)]
        simp only [zz_bPs, zz_let, show nI i + 1 = nI (i + 1) from zz_add i 1, zz_le (show zz_dbN (zz_db D i) < 2147483648 by omega) (show zz_pop i < 2147483648 by omega)]
      by_cases c : zz_dbN (zz_db D i) ≤ zz_pop i
      · refine ⟨(zz_dbI (zz_db D (i + 1)), nI (zz_dbN (zz_db D (i + 1))), nI (i + 1), M'), ⟨M', x, rfl, hf, hv⟩, fun ag => ?_⟩
        dsimp only
        rw [step, if_pos c]
        conv => rhs; unfold zz_db
        rw [if_neg (by omega)]
      · obtain ⟨A, a1, a2, a3⟩ := zz_spread hs3 hv (fun j hj => (hf.2 14 j rfl).trans (c4 j hj)) i
        have fA : zz_fr zz_sc M A := hf.tr (a2.mono (fun k j hk => by simp at hk; subst hk; rfl))
        obtain ⟨B, b1, b2⟩ := zz_wetter74 (k := 23) (by decide) (zz_ha_ok ok s i) a3 hlv (hL.tr (zz_lwC.sc fA)) 63 (p := one) hp
        have hle := zz_su_wr (lv := lv) (H := zz_ha (zz_H M) s i) (w := zz_W M) (Q := zz_Q M) (mask := 63) (p := one)
        refine ⟨(zz_dbI (zz_db D (i + 1)), nI (zz_dbN (zz_db D (i + 1))), nI (i + 1), B), ⟨B, i, rfl, fA.tr (b2.mono zz_S34_sc), a3.fr (by decide) b2⟩, fun ag => ?_⟩
        dsimp only
        rw [step, if_neg c, a1, zz_bPs, b1, zz_bIs, show (0 : Int32) = nI 0 from rfl]
        conv => rhs; unfold zz_db
        by_cases c2 : zz_su (zz_wr lv (zz_ha (zz_H M) s i) (zz_W M) (zz_Q M) 63 one) 4 = 0
        · rw [if_pos (by rw [c2]), if_pos ⟨by omega, by rw [hDi]; exact decide_eq_true c2⟩]
          rfl
        · rw [if_neg (by rw [zz_eq (by omega) (by decide)]; exact c2), if_neg (fun q => c2 (by have := q.2; rw [hDi] at this; exact of_decide_eq_true this))]) (fun s2 hs2 ag => by
      obtain ⟨M', x, rfl, hf, hv⟩ := hs2
      dsimp only
      unfold f_X4_driest_k34
      rw [if_pos (show (256 : Int32) ≤ nI N by rw [hN6]; decide)])
  refine ⟨M2, ?_, hf⟩
  unfold f_X4_driest
  rw [zz_gi (show one < 6 by omega) (by decide), zz_cl (show one < 2147483648 by omega), show M.1 10 one = nI ((zz_H M).fl one) from c2 one hp, show (8 : Int32) = nI 8 from rfl, zz_div (by omega) (by decide) (by decide), hs, zz_let, zz_liken23, zz_bPs]
  exact e
/-- the model's awnings are put out -/
theorem zz_dry59 {A : gx_Mem} {H : zz_hs} {s one : Nat} (v1 v2 v3 : Int32) (i : Nat) (h1 : v1 = nI one) (ho : one < 6) (hs : s < 3) (h58 : A.1 58 one = nI (H.fl one)) (hfl : H.fl one < 24) (hsd : H.fl one / 8 = s) (h77 : ∀ j, j < 24 → A.1 77 j = nI (H.aw j)) :
    ∃ C, zz_fr (fun k _ => k == 77) A C ∧ (∀ j, j < 24 → C.1 77 j = nI ((zz_ha H s i).aw j)) ∧ ∀ ag25, f_X8_dry_l59 ag25 v1 v2 v3 (nI i) gx_fuel 0 A = gx_bP (f_X8_goHours (12 : Int32) (63 : Int32) C) (fun M15 => gx_bP (f_X8_wetter v1 M15) (fun y17 => (if y17 = 0 then f_X8_dry_b123 ag25 v1 v2 (nI i) (nI i) M15 else f_X8_dry_b123 ag25 v1 v2 v3 (nI i) M15))) := by
  subst h1
  obtain ⟨t, ⟨C, rfl, fC, gC⟩, e⟩ := zz_forC (fun (ag25 : Int32 → Int32 → gx_Mem → Option (Int32 × gx_Mem)) (ag59 : Int32 × gx_Mem → Option (Int32 × gx_Mem)) (t : Int32 × gx_Mem) => f_X8_dry_k59 ag25 (nI one) v2 v3 (nI i) (fun v5 M => ag59 (v5, M)) t.1 t.2) (fun ag25 t => gx_bP (f_X8_goHours (12 : Int32) (63 : Int32) t.2) (fun M15 => gx_bP (f_X8_wetter (nI one) M15) (fun y17 => (if y17 = 0 then f_X8_dry_b123 ag25 (nI one) v2 (nI i) (nI i) M15 else f_X8_dry_b123 ag25 (nI one) v2 v3 (nI i) M15)))) (fun f t => ∃ C, t = (nI f, C) ∧ zz_fr (fun k _ => k == 77) A C ∧ ∀ j, j < 24 → C.1 77 j = nI (if j / 8 = s ∧ j % 8 < f then (zz_ha H s i).aw j else H.aw j)) 8 gx_fuel (by decide) (0, A) ⟨A, rfl, zz_fr.rf, fun j hj => by rw [if_neg (by omega)]; exact h77 j hj⟩ (fun f t hf ht => by
      obtain ⟨M', rfl, fM, gM⟩ := ht
      have hx : 8 * s + f < 24 := by omega
      have old := gM _ hx
      rw [if_neg (by omega)] at old
      refine ⟨(nI (f + 1), gx_sI M' 77 (8 * s + f) (nI ((zz_ha H s i).aw (8 * s + f)))), ⟨_, rfl, fM.sI rfl, fun j hj => ?_⟩, fun ag25 ag => ?_⟩
      · rw [zz_sI1]
        by_cases c : j = 8 * s + f
        · rw [if_pos ⟨rfl, c⟩, if_pos (by omega), c]
        · rw [if_neg (by omega), gM j hj]
          by_cases c2 : j / 8 = s ∧ j % 8 < f
          · rw [if_pos c2, if_pos (by omega)]
          · rw [if_neg c2, if_neg (by omega)]
      · dsimp only
        unfold f_X8_dry_k59 f_X8_dry_b98
        rw [if_neg (show ¬ (8 : Int32) ≤ nI f by rw [show (8 : Int32) = nI 8 from rfl, zz_le (by decide) (by omega)]; omega), zz_has8]
        simp only [zz_bPs, zz_ifi, zz_let, show nI f + 1 = nI (f + 1) from zz_add f 1]
        cases hb : zz_b (nI i) f with
        | false =>
          have e0 : (zz_ha H s i).aw (8 * s + f) = H.aw (8 * s + f) := by
            rw [zz_ha_aw, if_neg]
            rintro ⟨-, q⟩
            rw [show (8 * s + f) % 8 = f by omega, hb] at q; cases q
          rw [if_neg (by decide), e0, zz_sIself old]
        | true =>
          have e0 : (zz_ha H s i).aw (8 * s + f) = 9 := by
            rw [zz_ha_aw, if_pos ⟨by omega, by rw [show (8 * s + f) % 8 = f by omega]; exact hb⟩]
          rw [if_pos rfl, zz_gi ho (by decide), zz_cl (show one < 2147483648 by omega), fM.2 58 one rfl, h58, show (8 : Int32) = nI 8 from rfl, zz_div (by omega) (by decide) (by decide), hsd, zz_mul, zz_add, zz_gi hx (by decide), zz_cl (show 8 * s + f < 2147483648 by omega), e0]
          rfl) (fun t ht ag25 ag => by
      obtain ⟨M', rfl, fM, gM⟩ := ht
      rfl)
  refine ⟨C, fC, fun j hj => ?_, e⟩
  rw [gC j hj]
  by_cases c : j / 8 = s
  · rw [if_pos ⟨c, by omega⟩]
  · rw [if_neg (fun q => c q.1), ← zz_ha_0 H s, zz_ha_out H 0 i c]
theorem zz_dry52 {M : gx_Mem} {lv : Nat → Nat → Nat → Nat → Nat → Nat → Nat} (h : zz_IH M) (hlv : ∀ a w i f m n, lv a w i f m n ≤ a) (hL : zz_LM lv M) {one : Nat} (hp : one < (zz_H M).n) (v2 v3 : Int32) (i : Nat) :
    ∃ C, zz_fr zz_sc M C ∧ ∀ ag25, f_X8_dry_b52 ag25 (nI one) v2 v3 (nI i) M = if zz_D lv (zz_H M) (zz_W M) (zz_Q M) one i = true then ag25 (nI i) (nI (i + 1)) C else ag25 v3 (nI (i + 1)) C := by
  obtain ⟨ok, c1, c2, c3, c4, c5⟩ := zz_Hok h
  have h6 := ok.1
  have hfl := ok.2.1 one hp
  obtain ⟨A, a1, a2, a3⟩ := zz_dry59 (A := zz_now M) (H := zz_H M) (s := (zz_H M).fl one / 8) (nI one) v2 v3 i rfl (by omega) (by omega) (by
    rw [show (zz_now M).1 58 one = M.1 58 one from rfl, (h.2.1 one (by omega)).2]; exact c2 one hp) hfl rfl (zz_now_h8 h).2.2.2.1
  obtain ⟨⟨d1, d2, d3, d4, d5⟩, g2, g3, g4⟩ := zz_now_G h lv (zz_O M)
  have fA : zz_fr zz_sc M A := (zz_now_fr M).tr (a1.mono (fun k j hk => by simp at hk; subst hk; rfl))
  have gA : zz_G lv (zz_ha (zz_H M) ((zz_H M).fl one / 8) i) (zz_O M) (zz_W M) (zz_h0 M) 0 A := ⟨⟨(a1.2 57 1 rfl).trans d1, fun p hp => (a1.2 76 p rfl).trans (d2 p hp), fun p hp => (a1.2 60 p rfl).trans (d3 p hp), a2, (a1.2 63 0 rfl).trans d5⟩, fun j hj => (a1.2 78 j rfl).trans (g2 j hj), fun q hq => (a1.2 79 q rfl).trans (g3 q hq), (a1.2 57 29 rfl).trans g4⟩
  obtain ⟨C, e, f, -, w⟩ := zz_go12 (A := A) (Q := zz_Q M) 63 (zz_ha_ok ok _ i) hlv (hL.tr (zz_lwM.sc fA)) (fun j hj => (zz_Wok h hj).2.1) (zz_h0ok h).2.1 gA (fun q hq t ht => by
    have hq6 : q < 6 := Nat.lt_of_lt_of_le hq h6
    rw [fA.2 59 q rfl, (h.2.2.1 q hq6).2]; rfl) (fun j hj => by
    rw [fA.2 61 j rfl]; exact (zz_Wok h hj).2.2)
  have hle := zz_su_wr (lv := lv) (H := zz_ha (zz_H M) ((zz_H M).fl one / 8) i) (w := zz_W M) (Q := zz_Q M) (mask := 63) (p := one)
  refine ⟨C, fA.tr (f.mono zz_SG_sc), fun ag25 => ?_⟩
  unfold f_X8_dry_b52
  rw [zz_layNow M (by rw [h.1.2]; exact h.1.1), zz_bPs, a3, e, zz_bPs, w one hp, zz_bPs]
  unfold f_X8_dry_b123 zz_D
  simp only [zz_let, show nI i + 1 = nI (i + 1) from zz_add i 1, show (0 : Int32) = nI 0 from rfl, zz_eq (show zz_su (zz_wr lv (zz_ha (zz_H M) ((zz_H M).fl one / 8) i) (zz_W M) (zz_Q M) 63 one) 4 < 2147483648 by omega) (show 0 < 2147483648 by decide), decide_eq_true_eq]
theorem zz_dry25 {N : Nat} (hN6 : N = 256) {M : gx_Mem} {lv : Nat → Nat → Nat → Nat → Nat → Nat → Nat} (h : zz_IH M) (hlv : ∀ a w i f m n, lv a w i f m n ≤ a) (hL : zz_LM lv M) {one : Nat} (hp : one < (zz_H M).n) (v2 : Int32) :
    ∃ C, zz_fr zz_sc M C ∧ f_X8_dry_l25 (nI one) v2 gx_fuel (-2) 0 M = if zz_dbI (zz_db (zz_D lv (zz_H M) (zz_W M) (zz_Q M) one) N) < 0 then some (zz_dbI (zz_db (zz_D lv (zz_H M) (zz_W M) (zz_Q M) one) N), C) else (if v2 = 1 then some (zz_dbI (zz_db (zz_D lv (zz_H M) (zz_W M) (zz_Q M) one) N), C) else some (nI (zz_dbN (zz_db (zz_D lv (zz_H M) (zz_W M) (zz_Q M) one) N)), C)) := by
  generalize hD : zz_D lv (zz_H M) (zz_W M) (zz_Q M) one = D
  obtain ⟨t, ⟨C, rfl, fC⟩, e⟩ := zz_for (fun (ag25 : Int32 × Int32 × gx_Mem → Option (Int32 × gx_Mem)) (s2 : Int32 × Int32 × gx_Mem) => f_X8_dry_k25 (nI one) v2 (fun v3 v4 M => ag25 (v3, v4, M)) s2.1 s2.2.1 s2.2.2) (fun s2 => if s2.1 < 0 then some (s2.1, s2.2.2) else (if v2 = 1 then some (s2.1, s2.2.2) else some (nI (zz_dbN (zz_db D N)), s2.2.2))) (fun i s2 => ∃ C, s2 = (zz_dbI (zz_db D i), nI i, C) ∧ zz_fr zz_sc M C) N gx_fuel (by rw [hN6]; decide) (-2, 0, M) ⟨M, rfl, zz_fr.rf⟩ (fun i s2 hi hs2 => by
      obtain ⟨C, rfl, fC⟩ := hs2
      have h' := h.fr fC
      obtain ⟨E, e1, e2⟩ := zz_dry52 h' hlv (hL.tr (zz_lwM.sc fC)) (one := one) (by rw [zz_H_fr fC zz_sc_9]; exact hp) v2 (zz_dbI (zz_db D i)) i
      rw [zz_H_fr fC zz_sc_9, zz_W_frF fC zz_sc_9, zz_Q_fr fC zz_sc_9, hD] at e2
      have hpi := zz_pop_le i
      have hN := zz_dbN_le (zz_db D i)
      have step : ∀ ag, f_X8_dry_k25 (nI one) v2 ag (zz_dbI (zz_db D i)) (nI i) C = if zz_dbN (zz_db D i) ≤ zz_pop i then ag (zz_dbI (zz_db D i)) (nI (i + 1)) C else f_X8_dry_b52 ag (nI one) v2 (zz_dbI (zz_db D i)) (nI i) C := by
        intro ag
        unfold f_X8_dry_k25
        rw [if_neg (show ¬ (256 : Int32) ≤ nI i by rw [show (256 : Int32) = nI 256 from rfl, zz_le (by decide) (by omega)]; omega)]
        cases hdb : zz_db D i with
        | none =>
          rw [if_pos (show zz_dbI none < 0 by decide), if_neg (show ¬ zz_dbN none ≤ zz_pop i by show ¬ 9 ≤ zz_pop i; omega)]
        | some b =>
          have hb := zz_db_lt D i b hdb
          rw [if_neg (show ¬ zz_dbI (some b) < 0 from nI_pos (by omega)), zz_bits8 (show i < 256 by omega)]
          show gx_bP (some _) (fun y8 => gx_bP (f_X8_bitsOf (nI b) C) _) = _
          rw [zz_bits8 (show b < 256 by omega)]
          unfold f_X8_dry_b123
          simp only [zz_bPs, zz_let, show nI i + 1 = nI (i + 1) from zz_add i 1, zz_lt (show zz_pop i < 2147483648 by omega) (show zz_pop b < 2147483648 by have := zz_pop_le b; omega)]
          show _ = if zz_pop b ≤ zz_pop i then _ else _
          by_cases c : zz_pop b ≤ zz_pop i
          · rw [if_pos c, if_neg (by omega)]
          · rw [if_neg c, if_pos (by omega)]
      by_cases c : zz_dbN (zz_db D i) ≤ zz_pop i
      · refine ⟨(zz_dbI (zz_db D (i + 1)), nI (i + 1), C), ⟨C, rfl, fC⟩, fun ag => ?_⟩
        dsimp only
        rw [step, if_pos c]
        conv => rhs; unfold zz_db
        rw [if_neg (by omega)]
      · refine ⟨(zz_dbI (zz_db D (i + 1)), nI (i + 1), E), ⟨E, rfl, fC.tr e1⟩, fun ag => ?_⟩
        dsimp only
        rw [step, if_neg c, e2]
        conv => rhs; unfold zz_db
        by_cases c2 : D i = true
        · rw [if_pos c2, if_pos ⟨by omega, c2⟩]; rfl
        · rw [if_neg c2, if_neg (fun q => c2 q.2)]) (fun s2 hs2 ag => by
      obtain ⟨C, rfl, fC⟩ := hs2
      dsimp only
      unfold f_X8_dry_k25
      rw [if_pos (show (256 : Int32) ≤ nI N by rw [hN6]; decide)]
      cases hdb : zz_db D N with
      | none => rw [if_pos (show zz_dbI none < 0 by decide), if_pos (show zz_dbI none < 0 by decide)]
      | some b =>
        have hb := zz_db_lt D N b hdb
        rw [if_neg (show ¬ zz_dbI (some b) < 0 from nI_pos (by omega)), if_neg (show ¬ zz_dbI (some b) < 0 from nI_pos (by omega))]
        by_cases c : v2 = 1
        · rw [if_pos c, if_pos c]
        · rw [if_neg c, if_neg c]
          show gx_bP (f_X8_bitsOf (nI b) C) _ = _
          rw [zz_bits8 (show b < 256 by omega)]
          rfl)
  exact ⟨C, fC, e⟩
theorem op_dry (a b : Int32) : zz_ok (f_X7_dry a b) (f_X8_dry a b) := by
  intro M h
  obtain ⟨n, h6, hn, hn8⟩ := h.ppl
  obtain ⟨lv, hlv, hC, hM⟩ := h.law
  unfold f_X7_dry
  rw [zz_isOne7 hn h6, zz_isChoice7]
  simp only [zz_bPs, zz_ifi]
  have hg : ∀ M1 : gx_Mem, M1.1 57 1 = nI n → f_X8_dry a b M1 = if zz_rg a n = true then (if zz_rg b 2 = true then f_X8_dry_l25 a b gx_fuel (-2) 0 M1 else some (-1, M1)) else some (-1, M1) := by
    intro M1 e
    unfold f_X8_dry
    rw [zz_isOne8 e h6, show (1 : Int32) = nI 1 from rfl, zz_in8 b 1 M1 (by decide)]
    simp only [zz_bPs, zz_ifi]
  cases h1 : zz_rg a n with
  | false => exact ⟨-1, M, rfl, M, by rw [hg M hn8, h1]; rfl, h⟩
  | true =>
    cases h2 : zz_rg b 2 with
    | false => exact ⟨-1, M, rfl, M, by rw [hg M hn8, h1, h2]; rfl, h⟩
    | true =>
      obtain ⟨p, hp, rfl⟩ := zz_rgT h1
      have hHn := zz_Hn h6 hn
      obtain ⟨N, hN6⟩ : ∃ N : Nat, N = 256 := ⟨_, rfl⟩
      obtain ⟨M1, e1, f1⟩ := zz_driest hN6 h.IH hlv hC (one := p) (by rw [hHn]; exact hp)
      rw [if_pos rfl, if_pos rfl, e1, zz_bIs]
      have i1 : zz_Inv M1 := h.fr f1
      have hH := zz_H_fr f1 zz_sc_9
      obtain ⟨M2, f2, e2⟩ := zz_dry25 hN6 i1.IH hlv (hM.tr (zz_lwM.sc f1)) (one := p) (by rw [hH, hHn]; exact hp) b
      rw [hH, zz_W_frF f1 zz_sc_9, zz_Q_fr f1 zz_sc_9] at e2
      generalize hX : zz_db (zz_D lv (zz_H M) (zz_W M) (zz_Q M) p) N = X at *
      have e3 : f_X8_dry (nI p) b M1 = _ := (hg M1 ((f1.2 57 1 rfl).trans hn8)).trans ((if_pos h1).trans ((if_pos h2).trans e2))
      by_cases c : zz_dbI X < 0
      · rw [if_pos c] at e3 ⊢
        exact ⟨_, M1, rfl, M2, e3, i1.fr f2⟩
      · rw [if_neg c] at e3 ⊢
        by_cases c2 : b = 1
        · rw [if_pos c2] at e3 ⊢
          exact ⟨_, M1, rfl, M2, e3, i1.fr f2⟩
        · rw [if_neg c2] at e3 ⊢
          refine ⟨nI (zz_dbN X), M1, ?_, M2, e3, i1.fr f2⟩
          cases X with
          | none => exact absurd (show zz_dbI none < 0 by decide) c
          | some b2 =>
            have hb := zz_db_lt _ N b2 hX
            show gx_bP (f_J6_bitCount_0f7a4 (nI b2) M1) _ = _
            rw [zz_bc7 (show b2 < 256 by omega)]
            rfl

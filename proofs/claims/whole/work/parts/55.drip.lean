/-- what drips on person p at mark m with o out -/
def zz_dr (lv : Nat → Nat → Nat → Nat → Nat → Nat → Nat) (H : zz_hs) (o : Int32) (p m : Nat) : Nat := if p < H.n ∧ zz_b o p = true then zz_R lv H o m (H.fl p / 8) (7 - H.fl p % 8) - H.aw (H.fl p) else 0
theorem zz_dr_le {lv : Nat → Nat → Nat → Nat → Nat → Nat → Nat} (hlv : ∀ a w i f m n, lv a w i f m n ≤ a) {H : zz_hs} (h : zz_hok H) (o : Int32) {m : Nat} (hm : m < 4) (p : Nat) : zz_dr lv H o p m ≤ 432 := by
  unfold zz_dr
  have := zz_R_le hlv h o hm (H.fl p / 8) (7 - H.fl p % 8)
  split <;> omega
theorem zz_max0 {a b : Nat} (ha : a < 1000000) (hb : b < 1000000) : gx_max 0 (nI a - nI b) = nI (a - b) := by
  unfold gx_max
  have e : (nI a - nI b).toInt = (a : Int) - b := by
    rw [Int32.toInt_sub, nI_toInt (by omega), nI_toInt (by omega), Int.bmod_eq_of_le (by omega) (by omega)]
  by_cases h : b < a
  · rw [if_pos (by rw [zz_ltI, zz_t0, e]; omega), zz_sub (by omega)]
  · rw [if_neg (by rw [zz_ltI, zz_t0, e]; omega), show a - b = 0 by omega]; rfl
theorem zz_drips {k : Nat} {M : gx_Mem} {H : zz_hs} {lv : Nat → Nat → Nat → Nat → Nat → Nat → Nat} (hk : 5 ≤ k) (ok : zz_hok H) (hv : zz_h7 k M H) (hlv : ∀ a w i f m n, lv a w i f m n ≤ a) (hL : zz_LC lv M) (o : Int32) {p m : Nat} (hp : p < H.n) (hm : m < 4) :
    ∃ M2, f_X2_drips k (nI p) (nI m) o M = some (nI (zz_dr lv H o p m), M2) ∧ zz_fr zz_S34 M M2 := by
  unfold f_X2_drips zz_dr
  rw [zz_b01]
  simp only [zz_ifi]
  cases hb : zz_b o p with
  | false => exact ⟨M, by rw [if_neg (by decide), if_neg (by rintro ⟨-, h⟩; cases h)]; rfl, zz_fr.rf⟩
  | true =>
    have h6 := ok.1
    have hf := ok.2.1 p hp
    obtain ⟨c1, c2, c3, c4, c5⟩ := id hv
    rw [if_pos rfl, if_pos ⟨hp, rfl⟩, zz_gi (show p < 6 by omega) (by decide), zz_gi (show p < 6 by omega) (by decide), zz_cl (show p < 2147483648 by omega), c2 p hp, show (8 : Int32) = nI 8 from rfl, zz_div (by omega) (by decide) (by decide), zz_rem (by omega) (by decide) (by decide)]
    obtain ⟨M2, e1, f1⟩ := zz_reach (J := 7 - H.fl p % 8) (v2 := nI (H.fl p % 8)) hk ok hv hlv hL o (m := m) (s := H.fl p / 8) hm (by omega) (by omega) (by rw [nI_toInt (by omega)]; omega)
    refine ⟨M2, ?_, f1⟩
    obtain ⟨d1, d2, d3, d4, d5⟩ := hv.fr hk f1
    rw [e1]
    simp only [zz_bIs]
    have hR := zz_R_le hlv ok o hm (H.fl p / 8) (7 - H.fl p % 8)
    have ha := ok.2.2.2.1 (H.fl p) hf
    rw [zz_gi (show p < 6 by omega) (by decide), d2 p hp, zz_gi hf (by decide), zz_cl (show H.fl p < 2147483648 by omega), d4 _ hf, zz_max0 (by omega) (by omega)]
theorem zz_wetsBy {M : gx_Mem} {H : zz_hs} {o : Int32} {lv : Nat → Nat → Nat → Nat → Nat → Nat → Nat} (ok : zz_hok H) (hv : zz_h8 M H) (hlv : ∀ a w i f m n, lv a w i f m n ≤ a) {p m : Nat} (hp : p < H.n) (hm : m < 4) (w : zz_fw lv H o m M 0) (hb : zz_b o p = true) : f_X8_wetsBy (nI p) (nI m) M = some (nI (zz_dr lv H o p m)) := by
  have h6 := ok.1
  have hf := ok.2.1 p hp
  obtain ⟨c1, c2, c3, c4, c5⟩ := hv
  unfold f_X8_wetsBy zz_dr
  rw [if_pos ⟨hp, hb⟩, zz_gi (show p < 6 by omega) (by decide), zz_cl (show p < 2147483648 by omega), c2 p hp, show (24 : Int32) = nI 24 from rfl, zz_mul, zz_add, zz_gi (show 24 * m + H.fl p < 96 by omega) (by decide), zz_gi (show p < 6 by omega) (by decide), zz_gi hf (by decide), zz_cl (show 24 * m + H.fl p < 2147483648 by omega), zz_cl (show H.fl p < 2147483648 by omega), (w (H.fl p) (Nat.zero_le _) hf).2, c4 _ hf, zz_let]
  have hR := zz_R_le hlv ok o hm (H.fl p / 8) (7 - H.fl p % 8)
  have ha := ok.2.2.2.1 (H.fl p) hf
  generalize zz_R lv H o m (H.fl p / 8) (7 - H.fl p % 8) = a at *
  generalize H.aw (H.fl p) = b at *
  have e : (nI a - nI b).toInt = (a : Int) - b := by
    rw [Int32.toInt_sub, nI_toInt (by omega), nI_toInt (by omega), Int.bmod_eq_of_le (by omega) (by omega)]
  by_cases h : b ≤ a
  · rw [if_pos (by rw [zz_leI, zz_t0, e]; omega), zz_sub h]
  · rw [if_neg (by rw [zz_leI, zz_t0, e]; omega), show a - b = 0 by omega]; rfl
/-- the wet of mark j after i hours, and what the porter has caught at mark m; O: who is out in the i'th -/
def zz_wt (lv : Nat → Nat → Nat → Nat → Nat → Nat → Nat) (H : zz_hs) (O : Nat → Int32) (w : Nat → Nat) (j : Nat) : Nat → Nat
  | 0 => w j
  | i + 1 => min 9999 (zz_wt lv H O w j i + zz_dr lv H (O i) (j / 4) (j % 4))
def zz_ca (lv : Nat → Nat → Nat → Nat → Nat → Nat → Nat) (H : zz_hs) (O : Nat → Int32) (m : Nat) : Nat → Nat
  | 0 => 0
  | i + 1 => zz_ca lv H O m i + zz_pt lv H (O i) m 3
theorem zz_wt_le {lv : Nat → Nat → Nat → Nat → Nat → Nat → Nat} {H : zz_hs} {O : Nat → Int32} {w : Nat → Nat} {j : Nat} (h : w j ≤ 9999) : ∀ i, zz_wt lv H O w j i ≤ 9999
  | 0 => h
  | i + 1 => by unfold zz_wt; omega
theorem zz_ca_le {lv : Nat → Nat → Nat → Nat → Nat → Nat → Nat} (hlv : ∀ a w i f m n, lv a w i f m n ≤ a) {H : zz_hs} (h : zz_hok H) (O : Nat → Int32) {m : Nat} (hm : m < 4) : ∀ i, zz_ca lv H O m i ≤ 1296 * i
  | 0 => Nat.le_refl _
  | i + 1 => by
    have h1 := zz_ca_le hlv h O hm i
    have h2 := zz_pt_le hlv h (O i) hm 3
    unfold zz_ca
    omega
/-- what the hours may change on the model's side -/
def zz_SG (k i : Nat) : Bool := k == 74 || k == 75 || k == 78 || k == 79 || k == 80 || k == 81 || (k == 57 && (i == 28 || i == 29))
theorem zz_SF_SG {m : Nat} : ∀ k i, zz_SF m k i = true → zz_SG k i = true := fun k i h => by
  simp [zz_SF] at h
  rcases h with (rfl | rfl) | ⟨rfl | rfl, -⟩ <;> rfl
theorem zz_SG_sc : ∀ k i, zz_SG k i = true → zz_sc k i = true := fun k i h => by
  simp [zz_SG] at h
  rcases h with ((((((rfl | rfl) | rfl) | rfl) | rfl) | rfl) | ⟨rfl, rfl | rfl⟩) <;> rfl
theorem zz_h8.frG {M M2 : gx_Mem} {H : zz_hs} (h : zz_h8 M H) (f : zz_fr zz_SG M M2) : zz_h8 M2 H := by
  obtain ⟨c1, c2, c3, c4, c5⟩ := h
  refine ⟨?_, fun p hp => ?_, fun p hp => ?_, fun p hp => ?_, ?_⟩
  · rw [f.2 57 1 rfl]; exact c1
  · rw [f.2 76 p rfl]; exact c2 p hp
  · rw [f.2 60 p rfl]; exact c3 p hp
  · rw [f.2 77 p rfl]; exact c4 p hp
  · rw [f.2 63 0 rfl]; exact c5
/-- the model after marks below m (and, at mark m, people below v) of the i'th hour -/
def zz_gs (lv : Nat → Nat → Nat → Nat → Nat → Nat → Nat) (H : zz_hs) (O : Nat → Int32) (w : Nat → Nat) (i m v : Nat) (M : gx_Mem) : Prop :=
  (∀ j, j < 24 → M.1 78 j = nI (if j % 4 < m ∨ (j % 4 = m ∧ j / 4 < v) then zz_wt lv H O w j (i + 1) else zz_wt lv H O w j i))
theorem zz_goMark {M : gx_Mem} {H : zz_hs} {lv : Nat → Nat → Nat → Nat → Nat → Nat → Nat} {O : Nat → Int32} {w : Nat → Nat} {i m : Nat} (ok : zz_hok H) (hv : zz_h8 M H) (ho : M.1 57 28 = O i) (hlv : ∀ a w i f m n, lv a w i f m n ≤ a) (hL : zz_LM lv M) (hm : m < 4) (hw : ∀ j, j < 24 → w j ≤ 9999) (hi : i ≤ 100)
    (g : zz_gs lv H O w i m 0 M) (g2 : M.1 79 m = nI (zz_ca lv H O m i)) :
    ∃ M2, f_X8_goMark (nI m) M = some M2 ∧ zz_fr zz_SG M M2 ∧ zz_gs lv H O w i (m + 1) 0 M2 ∧ M2.1 79 m = nI (zz_ca lv H O m (i + 1)) ∧ (∀ q, q ≠ m → M2.1 79 q = M.1 79 q) ∧ M2.1 57 28 = O i ∧ M2.1 57 29 = M.1 57 29 := by
  have h6 := ok.1
  obtain ⟨A, e1, f1, w1⟩ := zz_flow ok hv ho hlv hL hm
  have a79 : ∀ q, A.1 79 q = M.1 79 q := fun q => f1.2 79 q (zz_SF0 (by decide) (by decide) (by decide) (by decide))
  have a78 : ∀ q, A.1 78 q = M.1 78 q := fun q => f1.2 78 q (zz_SF0 (by decide) (by decide) (by decide) (by decide))
  have a57 : ∀ q, A.1 57 q = M.1 57 q := fun q => f1.2 57 q (zz_SF0 (by decide) (by decide) (by decide) (by decide))
  generalize hB : gx_sI A 79 m (nI (zz_ca lv H O m (i + 1))) = B
  have fB : zz_fr zz_SG M B := by rw [← hB]; exact (f1.mono zz_SF_SG).sI rfl
  have wB : zz_fw lv H (O i) m B 0 := by rw [← hB]; exact w1
  have hvB := hv.frG fB
  have oB : B.1 57 28 = O i := by rw [← hB]; exact (a57 28).trans ho
  obtain ⟨t, ⟨C, rfl, fC, gC, c79⟩, e⟩ := zz_for (fun (ag21 : Int32 × gx_Mem → Option gx_Mem) (s : Int32 × gx_Mem) => f_X8_goMark_k21 (nI m) (fun v2 M => ag21 (v2, M)) s.1 s.2) (fun s => some s.2) (fun v s => ∃ C, s = (nI v, C) ∧ zz_fr (fun k i => k == 78) B C ∧ zz_gs lv H O w i m v C ∧ (∀ q, C.1 79 q = B.1 79 q)) H.n gx_fuel (by unfold gx_fuel; omega) (0, B) ⟨B, rfl, zz_fr.rf, fun j hj => by rw [← hB]; exact (a78 j).trans (g j hj), fun _ => rfl⟩ (fun v s hvn hs => by
      obtain ⟨C, rfl, fC, gC, c79⟩ := hs
      have hvC : zz_h8 C H := hvB.frG (fC.mono (fun k i hk => by simp at hk; subst hk; rfl))
      have oC : C.1 57 28 = O i := (fC.2 57 28 rfl).trans oB
      have wC : zz_fw lv H (O i) m C 0 := fun f h1 h2 => by rw [fC.2 81 _ rfl, fC.2 80 _ rfl]; exact wB f h1 h2
      have hj24 : 4 * v + m < 24 := by omega
      have old := gC (4 * v + m) hj24
      rw [if_neg (by omega)] at old
      have hwt : zz_wt lv H O w (4 * v + m) (i + 1) = min 9999 (zz_wt lv H O w (4 * v + m) i + zz_dr lv H (O i) v m) := by
        conv => lhs; unfold zz_wt
        rw [show (4 * v + m) / 4 = v by omega, show (4 * v + m) % 4 = m by omega]
      have hle := zz_wt_le (lv := lv) (H := H) (O := O) (hw _ hj24) i
      have hd := zz_dr_le hlv ok (O i) hm v
      refine ⟨(nI (v + 1), gx_sI C 78 (4 * v + m) (nI (zz_wt lv H O w (4 * v + m) (i + 1)))), ⟨_, rfl, fC.sI rfl, ?_, fun q => by rw [zz_sI1, if_neg (by omega)]; exact c79 q⟩, fun ag => ?_⟩
      · intro j hj
        rw [zz_sI1]
        by_cases ej : j = 4 * v + m
        · subst ej
          rw [if_pos ⟨rfl, rfl⟩, if_pos (by omega)]
        · rw [if_neg (by omega), gC j hj]
          by_cases c : j % 4 < m ∨ (j % 4 = m ∧ j / 4 < v)
          · rw [if_pos c, if_pos (by omega)]
          · rw [if_neg c, if_neg (by omega)]
      · dsimp only
        unfold f_X8_goMark_k21 f_X8_goMark_b84 f_X8_goMark_b85
        rw [hvC.1, oC, zz_has8, show (4 : Int32) = nI 4 from rfl, zz_mul, zz_add, zz_cl (show 4 * v + m < 2147483648 by omega), old]
        simp only [zz_le (show H.n < 2147483648 by omega) (show v < 2147483648 by omega), zz_bPs, zz_ifi, zz_gi hj24 (show 24 < 2147483648 by decide), zz_let, show nI v + 1 = nI (v + 1) from zz_add v 1]
        rw [if_neg (by omega)]
        cases hb : zz_b (O i) v with
        | false =>
          have hd0 : zz_dr lv H (O i) v m = 0 := by unfold zz_dr; rw [if_neg (by rw [hb]; rintro ⟨-, h⟩; cases h)]
          have e0 : zz_wt lv H O w (4 * v + m) (i + 1) = zz_wt lv H O w (4 * v + m) i := by rw [hwt, hd0]; omega
          rw [if_neg (by decide), e0, zz_sIself old]
        | true =>
          rw [if_pos rfl, zz_wetsBy ok hvC hlv hvn hm wC hb]
          simp only [zz_bPs, zz_add, show (9999 : Int32) = nI 9999 from rfl, zz_le (show zz_wt lv H O w (4 * v + m) i + zz_dr lv H (O i) v m < 2147483648 by omega) (show 9999 < 2147483648 by decide)]
          rw [hwt]
          by_cases c : zz_wt lv H O w (4 * v + m) i + zz_dr lv H (O i) v m ≤ 9999
          · rw [if_pos c, show min 9999 (zz_wt lv H O w (4 * v + m) i + zz_dr lv H (O i) v m) = zz_wt lv H O w (4 * v + m) i + zz_dr lv H (O i) v m by omega]
          · rw [if_neg c, show min 9999 (zz_wt lv H O w (4 * v + m) i + zz_dr lv H (O i) v m) = 9999 by omega]) (fun s hs ag => by
      obtain ⟨C, rfl, fC, gC, c79⟩ := hs
      dsimp only
      unfold f_X8_goMark_k21
      rw [(fC.2 57 1 rfl).trans hvB.1, if_pos (nI_le (Nat.le_refl _) (by omega))])
  refine ⟨C, ?_, fB.tr (fC.mono (fun k i hk => by simp at hk; subst hk; rfl)), fun j hj => ?_, ?_, fun q hq => ?_, (fC.2 57 28 rfl).trans oB, ?_⟩
  · unfold f_X8_goMark
    have hpt := zz_pt_le hlv ok (O i) hm 3
    have hca := zz_ca_le hlv ok O hm i
    rw [e1]
    simp only [zz_bPs]
    rw [zz_gi hm (by decide), zz_toPorter hm w1]
    simp only [zz_bPs]
    rw [zz_gi hm (by decide), zz_cl (show m < 2147483648 by omega), a79, g2, zz_add, zz_let]
    show f_X8_goMark_l21 (nI m) gx_fuel 0 (gx_sI A 79 m (nI (zz_ca lv H O m (i + 1)))) = some C
    rw [hB]
    exact e
  · rw [gC j hj]
    by_cases c : j % 4 < m
    · rw [if_pos (by omega), if_pos (by omega)]
    · by_cases c2 : j % 4 = m
      · by_cases c3 : j / 4 < H.n
        · rw [if_pos (by omega), if_pos (by omega)]
        · rw [if_neg (by omega), if_pos (by omega)]
          have hle := zz_wt_le (lv := lv) (H := H) (O := O) (hw _ hj) i
          congr 1
          conv => rhs; unfold zz_wt
          have hd0 : zz_dr lv H (O i) (j / 4) (j % 4) = 0 := by unfold zz_dr; rw [if_neg (fun h => c3 h.1)]
          rw [hd0]; omega
      · rw [if_neg (by omega), if_neg (by omega)]
  · rw [c79, ← hB, zz_sI1, if_pos ⟨rfl, rfl⟩]
  · rw [c79, ← hB, zz_sI1, if_neg (by omega)]; exact a79 q
  · rw [fC.2 57 29 rfl, ← hB]; exact a57 29

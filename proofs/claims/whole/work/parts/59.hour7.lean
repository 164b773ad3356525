/-- what an hour's passing changes in the class's house -/
def zz_Sh (k i : Nat) : Bool := k == 3 || k == 4 || k == 13 || (k == 15 && i == 3)
theorem zz_S34_Sh : ∀ k i, zz_S34 k i = true → zz_Sh k i = true := fun k i h => by
  simp [zz_S34] at h
  rcases h with rfl | rfl <;> rfl
theorem zz_h7.frh {M M2 : gx_Mem} {H : zz_hs} (h : zz_h7 9 M H) (f : zz_fr zz_Sh M M2) : zz_h7 9 M2 H := by
  obtain ⟨c1, c2, c3, c4, c5⟩ := h
  refine ⟨?_, fun p hp => ?_, fun p hp => ?_, fun p hp => ?_, ?_⟩
  · rw [f.2 9 7 rfl]; exact c1
  · rw [f.2 (9 + 1) p rfl]; exact c2 p hp
  · rw [f.2 (9 + 3) p rfl]; exact c3 p hp
  · rw [f.2 (9 + 5) p rfl]; exact c4 p hp
  · rw [f.2 9 8 rfl]; exact c5
theorem zz_lwC.frh {M M2 : gx_Mem} (f : zz_fr zz_Sh M M2) : zz_lwC M M2 := ⟨f.2 0 4 rfl, fun i _ => f.2 1 i rfl, fun i _ => f.2 2 i rfl⟩
/-- the wets of the class after marks below m and, at m, people below v -/
def zz_gh (lv : Nat → Nat → Nat → Nat → Nat → Nat → Nat) (H : zz_hs) (O : Nat → Int32) (w : Nat → Nat) (m v : Nat) (M : gx_Mem) : Prop :=
  ∀ j, j < 24 → M.1 13 j = nI (if j % 4 < m ∨ (j % 4 = m ∧ j / 4 < v) then zz_wt lv H O w j 1 else zz_wt lv H O w j 0)
/-- the ledger's fourth line after m marks -/
def zz_l3 (lv : Nat → Nat → Nat → Nat → Nat → Nat → Nat) (H : zz_hs) (O : Nat → Int32) (x : Int32) : Nat → Int32
  | 0 => x
  | m + 1 => zz_l3 lv H O x m + nI (zz_ca lv H O m 1)
theorem zz_pass18 {M : gx_Mem} {H : zz_hs} {lv : Nat → Nat → Nat → Nat → Nat → Nat → Nat} {O : Nat → Int32} {w : Nat → Nat} {m : Nat} (ok : zz_hok H) (hv : zz_h7 9 M H) (hlv : ∀ a w i f m n, lv a w i f m n ≤ a) (hL : zz_LC lv M) (hw : ∀ j, j < 24 → w j ≤ 9999) (hm : m < 4) (g : zz_gh lv H O w m 0 M) :
    ∃ M2, (∀ ag11, f_X2_passHour_l18 9 ag11 (O 0) (nI m) gx_fuel 0 M = ag11 (nI (m + 1)) M2) ∧ zz_fr zz_Sh M M2 ∧ zz_gh lv H O w (m + 1) 0 M2 ∧ M2.1 15 3 = M.1 15 3 + nI (zz_ca lv H O m 1) := by
  have h6 := ok.1
  have ca1 : zz_ca lv H O m 1 = zz_pt lv H (O 0) m 3 := by
    show 0 + zz_pt lv H (O 0) m 3 = _
    rw [Nat.zero_add]
  obtain ⟨t, ⟨C, rfl, fC, gC, c15⟩, e⟩ := zz_forC (fun (ag11 : Int32 → gx_Mem → Option gx_Mem) (ag18 : Int32 × gx_Mem → Option gx_Mem) (s : Int32 × gx_Mem) => f_X2_passHour_k18 9 ag11 (O 0) (nI m) (fun v3 M => ag18 (v3, M)) s.1 s.2) (fun ag11 s => gx_bI (f_X2_caughtBy 9 (nI m) (O 0) s.2) (fun y6 M7 => ag11 (nI (m + 1)) (gx_sI M7 15 3 (s.2.1 15 3 + y6)))) (fun v s => ∃ C, s = (nI v, C) ∧ zz_fr zz_Sh M C ∧ zz_gh lv H O w m v C ∧ C.1 15 3 = M.1 15 3) H.n gx_fuel (by unfold gx_fuel; omega) (0, M) ⟨M, rfl, zz_fr.rf, g, rfl⟩ (fun v s hvn hs => by
      obtain ⟨C, rfl, fC, gC, c15⟩ := hs
      have hj24 : 4 * v + m < 24 := by omega
      have old := gC (4 * v + m) hj24
      rw [if_neg (by omega)] at old
      have hwt : zz_wt lv H O w (4 * v + m) 1 = min 9999 (zz_wt lv H O w (4 * v + m) 0 + zz_dr lv H (O 0) v m) := by
        conv => lhs; unfold zz_wt
        rw [show (4 * v + m) / 4 = v by omega, show (4 * v + m) % 4 = m by omega]
      have hle := zz_wt_le (lv := lv) (H := H) (O := O) (hw _ hj24) 0
      have hd := zz_dr_le hlv ok (O 0) hm v
      obtain ⟨D, d1, d2⟩ := zz_drips (k := 9) (by decide) ok (hv.frh fC) hlv (hL.tr (zz_lwC.frh fC)) (O 0) hvn hm
      have d2' := d2.mono zz_S34_Sh
      refine ⟨(nI (v + 1), gx_sI D 13 (4 * v + m) (nI (zz_wt lv H O w (4 * v + m) 1))), ⟨_, rfl, (fC.tr d2').sI rfl, ?_, by rw [zz_sI1, if_neg (by omega), d2.2 15 3 rfl]; exact c15⟩, fun ag11 ag => ?_⟩
      · intro j hj
        rw [zz_sI1]
        by_cases ej : j = 4 * v + m
        · subst ej
          rw [if_pos ⟨rfl, rfl⟩, if_pos (by omega)]
        · rw [if_neg (by omega), d2.2 13 j rfl, gC j hj]
          by_cases c : j % 4 < m ∨ (j % 4 = m ∧ j / 4 < v)
          · rw [if_pos c, if_pos (by omega)]
          · rw [if_neg c, if_neg (by omega)]
      · dsimp only
        unfold f_X2_passHour_k18 f_X2_room
        rw [(fC.2 9 7 rfl).trans hv.1, show (4 : Int32) = nI 4 from rfl, zz_mul, zz_add, show v * 4 + m = 4 * v + m by omega, zz_cl (show 4 * v + m < 2147483648 by omega), show C.1 (9 + 4) (4 * v + m) = nI (zz_wt lv H O w (4 * v + m) 0) from old]
        simp only [zz_le (show H.n < 2147483648 by omega) (show v < 2147483648 by omega), zz_gi hj24 (show 24 < 2147483648 by decide), zz_bPs]
        rw [if_neg (by omega), d1, show (9999 : Int32) = nI 9999 from rfl, zz_sub hle]
        simp only [zz_bIs, zz_let]
        rw [zz_min (by omega) (by omega), zz_add, hwt, show nI v + 1 = nI (v + 1) from zz_add v 1, show zz_wt lv H O w (4 * v + m) 0 + min (9999 - zz_wt lv H O w (4 * v + m) 0) (zz_dr lv H (O 0) v m) = min 9999 (zz_wt lv H O w (4 * v + m) 0 + zz_dr lv H (O 0) v m) by omega]) (fun s hs ag11 ag => by
      obtain ⟨C, rfl, fC, gC, c15⟩ := hs
      dsimp only
      unfold f_X2_passHour_k18
      rw [(fC.2 9 7 rfl).trans hv.1, if_pos (nI_le (Nat.le_refl _) (by omega)), show nI m + 1 = nI (m + 1) from zz_add m 1]
      rfl)
  obtain ⟨D, d1, d2⟩ := zz_caughtBy (k := 9) (by decide) ok (hv.frh fC) hlv (hL.tr (zz_lwC.frh fC)) (O 0) hm
  refine ⟨gx_sI D 15 3 (M.1 15 3 + nI (zz_ca lv H O m 1)), fun ag11 => ?_, (fC.tr (d2.mono zz_S34_Sh)).sI rfl, fun j hj => ?_, rfl⟩
  · refine (e ag11).trans ?_
    dsimp only
    rw [d1, zz_bIs, c15, ca1]
  · rw [zz_sI1, if_neg (by omega), d2.2 13 j rfl, gC j hj]
    by_cases c : j % 4 < m
    · rw [if_pos (by omega), if_pos (by omega)]
    · by_cases c2 : j % 4 = m
      · by_cases c3 : j / 4 < H.n
        · rw [if_pos (by omega), if_pos (by omega)]
        · rw [if_neg (by omega), if_pos (by omega)]
          have hle := zz_wt_le (lv := lv) (H := H) (O := O) (hw _ hj) 0
          congr 1
          have e1 : zz_wt lv H O w j 1 = min 9999 (zz_wt lv H O w j 0 + zz_dr lv H (O 0) (j / 4) (j % 4)) := rfl
          have hd0 : zz_dr lv H (O 0) (j / 4) (j % 4) = 0 := by unfold zz_dr; rw [if_neg (fun h => c3 h.1)]
          rw [e1, hd0]; omega
      · rw [if_neg (by omega), if_neg (by omega)]
theorem zz_passHour {M : gx_Mem} {lv : Nat → Nat → Nat → Nat → Nat → Nat → Nat} (h : zz_IH M) (hlv : ∀ a w i f m n, lv a w i f m n ≤ a) (hL : zz_LC lv M) :
    ∃ C, f_X2_passHour 9 M = some (gx_sI (gx_sI C 9 9 (nI ((zz_h0 M + 1) % 12))) 15 0 (M.1 15 0 + 1)) ∧ zz_fr zz_Sh M C ∧ (∀ j, j < 24 → C.1 13 j = nI (zz_wt lv (zz_H M) (zz_O M) (zz_W M) j 1)) ∧ C.1 15 3 = zz_l3 lv (zz_H M) (zz_O M) (M.1 15 3) 4 := by
  have hk := zz_Hok h
  have c := zz_h0ok h
  have hO : zz_o M (zz_h0 M) = zz_O M 0 := by
    unfold zz_O
    rw [show (zz_h0 M + 0) % 12 = zz_h0 M by have := c.2.1; omega]
  obtain ⟨t, ⟨C, rfl, fC, gC, c15⟩, e⟩ := zz_for (fun (ag11 : Int32 × gx_Mem → Option gx_Mem) (s : Int32 × gx_Mem) => f_X2_passHour_k11 9 (zz_O M 0) (fun v2 M => ag11 (v2, M)) s.1 s.2) (fun s => some (gx_sI (gx_sI s.2 9 9 (nI ((zz_h0 M + 1) % 12))) 15 0 (M.1 15 0 + 1))) (fun m s => ∃ C, s = (nI m, C) ∧ zz_fr zz_Sh M C ∧ zz_gh lv (zz_H M) (zz_O M) (zz_W M) m 0 C ∧ C.1 15 3 = zz_l3 lv (zz_H M) (zz_O M) (M.1 15 3) m) 4 gx_fuel (by decide) (0, M) ⟨M, rfl, zz_fr.rf, fun j hj => by rw [if_neg (by omega)]; exact (zz_Wok h hj).1, rfl⟩ (fun m s hm hs => by
      obtain ⟨C, rfl, fC, gC, c15⟩ := hs
      obtain ⟨D, d1, d2, d3, d4⟩ := zz_pass18 hk.1 (hk.2.frh fC) hlv (hL.tr (zz_lwC.frh fC)) (fun j hj => (zz_Wok h hj).2.1) hm gC
      refine ⟨(nI (m + 1), D), ⟨D, rfl, fC.tr d2, d3, by rw [d4, c15]; rfl⟩, fun ag => ?_⟩
      dsimp only
      unfold f_X2_passHour_k11
      rw [show (4 : Int32) = nI 4 from rfl]
      simp only [zz_le (show 4 < 2147483648 by decide) (show m < 2147483648 by omega)]
      rw [if_neg (by omega), d1]) (fun s hs ag => by
      obtain ⟨C, rfl, fC, gC, c15⟩ := hs
      dsimp only
      unfold f_X2_passHour_k11
      rw [if_pos (show (4 : Int32) ≤ nI 4 by decide), (fC.2 9 9 rfl).trans c.1, show nI (zz_h0 M) + 1 = nI (zz_h0 M + 1) from zz_add _ 1, show (12 : Int32) = nI 12 from rfl, zz_rem (by have := c.2.1; omega) (by decide) (by decide)]
      simp only [zz_let]
      rw [show (gx_sI C 9 9 (nI ((zz_h0 M + 1) % 12))).1 (9 + 6) (0 : Int32).toNatClampNeg = M.1 15 0 from fC.2 15 0 rfl]
      rfl)
  refine ⟨C, ?_, fC, fun j hj => by rw [gC j hj, if_pos (by omega)], c15⟩
  unfold f_X2_passHour
  rw [c.1, zz_o7 h, hO]
  exact e

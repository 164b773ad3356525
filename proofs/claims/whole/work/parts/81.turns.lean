/-! BY TURNS -/
theorem zz_max {a b : Nat} (ha : a < 2147483648) (hb : b < 2147483648) : gx_max (nI a) (nI b) = nI (max a b) := by
  unfold gx_max
  simp only [zz_lt ha hb]
  by_cases h : a < b
  · rw [if_pos h, show max a b = b by omega]
  · rw [if_neg h, show max a b = a by omega]
theorem zz_b_not : ∀ a, a < 6 → ∀ p, p < 6 → zz_b (gx_shl 1 (nI a) ^^^ (-1 : Int32)) p = !decide (p = a) := by decide
/-- the mark thought most (the first of like ones) among the first n -/
def zz_fv (t : Nat → Nat) : Nat → Nat
  | 0 => 0
  | n + 1 => if t (zz_fv t n) < t n then n else zz_fv t n
theorem zz_fv_lt (t : Nat → Nat) : ∀ n, zz_fv t n ≤ n
  | 0 => Nat.le_refl _
  | n + 1 => by
    have := zz_fv_lt t n
    unfold zz_fv
    split <;> omega
theorem zz_fv_lt4 (t : Nat → Nat) : ∀ n, n ≤ 4 → zz_fv t n < 4
  | 0, _ => (show 0 < 4 by decide)
  | n + 1, h => by
    have := zz_fv_lt4 t n (by omega)
    unfold zz_fv
    split <;> omega
theorem zz_fv1 (t : Nat → Nat) : zz_fv t 1 = 0 := by
  show (if t 0 < t 0 then 0 else 0) = 0
  split <;> rfl
theorem zz_fav7 {M : gx_Mem} {H : zz_hs} (ok : zz_hok H) (hv : zz_h7 9 M H) {f : Nat} (hf : f < 6) : f_X4_favourite (nI f) M = some (nI (zz_fv (fun m => H.th (4 * f + m)) 4)) := by
  have hth := ok.2.2.1
  obtain ⟨s, hs, e⟩ := zz_for (fun (ag4 : Int32 × Int32 → Option Int32) (s : Int32 × Int32) => f_X4_favourite_k4 (nI f) (fun v2 v3 => ag4 (v2, v3)) s.1 s.2 M) (fun s => some s.1) (fun i s => s = (nI (zz_fv (fun m => H.th (4 * f + m)) (i + 1)), nI (i + 1))) 3 gx_fuel (by decide) (0, 1) (by rw [zz_fv1]; rfl) (fun i s hi hs => by
    subst hs
    refine ⟨_, rfl, fun ag => ?_⟩
    have b := zz_fv_lt4 (fun m => H.th (4 * f + m)) (i + 1) (by omega)
    generalize hg : zz_fv (fun m => H.th (4 * f + m)) (i + 1) = g at *
    dsimp only
    unfold f_X4_favourite_k4 f_X4_favourite_b40
    have t1 := hth (4 * f + (i + 1)) (by omega)
    have t2 := hth (4 * f + g) (by omega)
    rw [if_neg (show ¬ (4 : Int32) ≤ nI (i + 1) by rw [show (4 : Int32) = nI 4 from rfl, zz_le (by decide) (by omega)]; omega), show (4 : Int32) = nI 4 from rfl, zz_mul, zz_add, zz_add, show f * 4 + (i + 1) = 4 * f + (i + 1) by omega, show f * 4 + g = 4 * f + g by omega, zz_gi (show 4 * f + (i + 1) < 24 by omega) (by decide), zz_gi (show 4 * f + g < 24 by omega) (by decide), zz_cl (show 4 * f + (i + 1) < 2147483648 by omega), zz_cl (show 4 * f + g < 2147483648 by omega), show M.1 12 (4 * f + (i + 1)) = nI (H.th (4 * f + (i + 1))) from hv.2.2.1 _ (by omega), show M.1 12 (4 * f + g) = nI (H.th (4 * f + g)) from hv.2.2.1 _ (by omega)]
    simp only [zz_let, show nI (i + 1) + 1 = nI (i + 1 + 1) from zz_add _ 1, zz_le (show H.th (4 * f + (i + 1)) < 2147483648 by omega) (show H.th (4 * f + g) < 2147483648 by omega)]
    conv => rhs; unfold zz_fv
    rw [hg]
    by_cases c : H.th (4 * f + (i + 1)) ≤ H.th (4 * f + g)
    · rw [if_pos c, if_neg (by omega)]
    · rw [if_neg c, if_pos (by omega)]) (fun s hs ag => by subst hs; rfl)
  subst hs
  exact e
/-- who is asked in the k'th hour -/
def zz_ak (one foe k : Nat) : Nat := if k % 2 = 0 then one else foe
def zz_tg (lv : Nat → Nat → Nat → Nat → Nat → Nat → Nat) (H : zz_hs) (O : Nat → Int32) (one foe m k : Nat) : Nat := zz_dr lv H (O k ||| gx_shl 1 (nI (zz_ak one foe k))) one m
def zz_ts (lv : Nat → Nat → Nat → Nat → Nat → Nat → Nat) (H : zz_hs) (O : Nat → Int32) (one foe m k : Nat) : Nat := zz_dr lv H (O k &&& (gx_shl 1 (nI (zz_ak one foe k)) ^^^ (-1 : Int32))) one m
def zz_tk (lv : Nat → Nat → Nat → Nat → Nat → Nat → Nat) (H : zz_hs) (O : Nat → Int32) (one foe m k : Nat) : Nat := if k % 2 = 0 then max (zz_tg lv H O one foe m k) (zz_ts lv H O one foe m k) else min (zz_tg lv H O one foe m k) (zz_ts lv H O one foe m k)
theorem zz_tk_le {lv : Nat → Nat → Nat → Nat → Nat → Nat → Nat} (hlv : ∀ a w i f m n, lv a w i f m n ≤ a) {H : zz_hs} (ok : zz_hok H) (O : Nat → Int32) (one foe : Nat) {m : Nat} (hm : m < 4) (k : Nat) : zz_tg lv H O one foe m k ≤ 432 ∧ zz_ts lv H O one foe m k ≤ 432 ∧ zz_tk lv H O one foe m k ≤ 432 := by
  have h1 := zz_dr_le hlv ok (O k ||| gx_shl 1 (nI (zz_ak one foe k))) hm one
  have h2 := zz_dr_le hlv ok (O k &&& (gx_shl 1 (nI (zz_ak one foe k)) ^^^ (-1 : Int32))) hm one
  refine ⟨h1, h2, ?_⟩
  unfold zz_tk zz_tg zz_ts
  split <;> omega
theorem zz_ts0 {lv : Nat → Nat → Nat → Nat → Nat → Nat → Nat} {H : zz_hs} {O : Nat → Int32} {one foe m : Nat} (h : one < 6) : zz_ts lv H O one foe m 0 = 0 := by
  unfold zz_ts zz_dr
  rw [if_neg]
  rintro ⟨-, q⟩
  rw [zz_b_and _ _ h, show zz_ak one foe 0 = one from rfl, zz_b_not one h one h, decide_eq_true rfl, Bool.not_true, Bool.and_false] at q
  cases q
/-- an hour by turns, on the class's side -/
theorem zz_turn28 {M : gx_Mem} {lv : Nat → Nat → Nat → Nat → Nat → Nat → Nat} (h : zz_IH M) (hlv : ∀ a w i f m n, lv a w i f m n ≤ a) (hL : zz_LC lv M) {one foe m n k : Nat} (v4 v6 v8 : Int32) (a : Nat) (ho : one < (zz_H M).n) (hfo : foe < (zz_H M).n) (hne : one ≠ foe) (hm : m < 4) (hk : k < n) (hn : n ≤ 6) :
    ∃ D, zz_fr zz_S34 M D ∧ ∀ ag, f_X4_turns_k28 (nI one) (nI foe) (nI n) v4 (nI m) v6 ag (nI a) v8 (nI k) M = ag (nI (a + zz_tk lv (zz_H M) (zz_O M) one foe m k)) (if k = 0 then nI (zz_tg lv (zz_H M) (zz_O M) one foe m k) else v8) (nI (k + 1)) D := by
  have ok := (zz_Hok h).1
  have hv := (zz_Hok h).2
  have h6 := ok.1
  obtain ⟨b1, b2, b3⟩ := zz_tk_le hlv ok (zz_O M) one foe hm k
  obtain ⟨A, a1, a2⟩ := zz_drips (k := 9) (by decide) ok hv hlv hL (zz_O M k ||| gx_shl 1 (nI (zz_ak one foe k))) ho hm
  obtain ⟨B, c1, c2⟩ := zz_drips (k := 9) (by decide) ok (hv.fr (by decide) a2) hlv (hL.tr (zz_lwC.fr a2)) (zz_O M k &&& (gx_shl 1 (nI (zz_ak one foe k)) ^^^ (-1 : Int32))) ho hm
  refine ⟨B, a2.tr c2, fun ag => ?_⟩
  have hb46 : f_X4_turns_b46 ag (nI one) (nI foe) (nI n) v4 (nI m) v6 (nI a) v8 (nI k) (nI (zz_ak one foe k)) M = ag (nI (a + zz_tk lv (zz_H M) (zz_O M) one foe m k)) (if k = 0 then nI (zz_tg lv (zz_H M) (zz_O M) one foe m k) else v8) (nI (k + 1)) B := by
    unfold f_X4_turns_b46 f_X4_turns_b108 f_X4_turns_b135
    rw [zz_outIn h (by omega), zz_bPs, a1, zz_bIs, c1, zz_bIs]
    show (if nI k = 0 then _ else _) = _
    have fin : (if nI (zz_ak one foe k) = nI one then gx_let (nI a + gx_max (nI (zz_tg lv (zz_H M) (zz_O M) one foe m k)) (nI (zz_ts lv (zz_H M) (zz_O M) one foe m k))) (fun x13 => gx_let (nI k + 1) (fun x14 => ag x13 (if k = 0 then nI (zz_tg lv (zz_H M) (zz_O M) one foe m k) else v8) x14 B)) else gx_let (nI a + gx_min (nI (zz_tg lv (zz_H M) (zz_O M) one foe m k)) (nI (zz_ts lv (zz_H M) (zz_O M) one foe m k))) (fun x13 => gx_let (nI k + 1) (fun x14 => ag x13 (if k = 0 then nI (zz_tg lv (zz_H M) (zz_O M) one foe m k) else v8) x14 B))) = ag (nI (a + zz_tk lv (zz_H M) (zz_O M) one foe m k)) (if k = 0 then nI (zz_tg lv (zz_H M) (zz_O M) one foe m k) else v8) (nI (k + 1)) B := by
      simp only [zz_let, show nI k + 1 = nI (k + 1) from zz_add k 1]
      rw [zz_max (by omega) (by omega), zz_min (by omega) (by omega), zz_add, zz_add]
      unfold zz_tk
      by_cases c : k % 2 = 0
      · rw [show zz_ak one foe k = one from if_pos c, if_pos rfl, if_pos c]
      · rw [show zz_ak one foe k = foe from if_neg c, if_neg (show ¬ nI foe = nI one by rw [zz_eq (by omega) (by omega)]; omega), if_neg c]
    by_cases k0 : k = 0
    · rw [if_pos (show nI k = 0 by rw [k0]; rfl), if_pos k0]
      rw [if_pos k0] at fin
      exact fin
    · rw [if_neg (show ¬ nI k = 0 from nI_ne0 (by omega) (by omega)), if_neg k0]
      rw [if_neg k0] at fin
      exact fin
  unfold f_X4_turns_k28
  rw [if_neg (show ¬ nI n ≤ nI k by rw [zz_le (by omega) (by omega)]; omega), show (2 : Int32) = nI 2 from rfl, zz_rem (by omega) (by decide) (by decide)]
  by_cases c : k % 2 = 0
  · rw [if_pos (show nI (k % 2) = 0 by rw [c]; rfl)]
    rw [show zz_ak one foe k = one from if_pos c] at hb46
    exact hb46
  · rw [if_neg (show ¬ nI (k % 2) = 0 from nI_ne0 (by omega) (by omega))]
    rw [show zz_ak one foe k = foe from if_neg c] at hb46
    exact hb46
theorem zz_turns {M : gx_Mem} {lv : Nat → Nat → Nat → Nat → Nat → Nat → Nat} (h : zz_IH M) (hlv : ∀ a w i f m n, lv a w i f m n ≤ a) (hL : zz_LC lv M) {one foe n : Nat} (c : Bool) (ho : one < (zz_H M).n) (hfo : foe < (zz_H M).n) (hne : one ≠ foe) (h1 : 1 ≤ n) (hn : n ≤ 6) {m : Nat} (hmd : zz_fv (fun m => (zz_H M).th (4 * foe + m)) 4 = m) :
    ∃ D, zz_fr zz_S34 M D ∧ f_X4_turns (nI one) (nI foe) (nI n) (zz_i c) M = some (if c = true then (if min (9999 - zz_W M (4 * one + m)) (zz_su (zz_tk lv (zz_H M) (zz_O M) one foe m) n) ≤ min (9999 - zz_W M (4 * one + m)) (zz_su (zz_tk lv (zz_H M) (zz_O M) one foe m) n - zz_tg lv (zz_H M) (zz_O M) one foe m 0) then 0 else 1) else nI (min (9999 - zz_W M (4 * one + m)) (zz_su (zz_tk lv (zz_H M) (zz_O M) one foe m) n)), D) := by
  have ok := (zz_Hok h).1
  have hv := (zz_Hok h).2
  have h6 := ok.1
  have hm : m < 4 := by rw [← hmd]; exact zz_fv_lt4 _ 4 (Nat.le_refl _)
  have hw := (zz_Wok h (show 4 * one + m < 24 by omega)).2.1
  generalize hTk : zz_tk lv (zz_H M) (zz_O M) one foe m = T
  have hTi : ∀ k, zz_tk lv (zz_H M) (zz_O M) one foe m k = T k := fun k => by rw [← hTk]
  have hTle : ∀ k, T k ≤ 432 := fun k => by rw [← hTi]; exact (zz_tk_le hlv ok (zz_O M) one foe hm k).2.2
  have hS : ∀ k, zz_su T k ≤ 432 * k := fun k => zz_su_le k (fun i _ => hTle i)
  have hg0 := (zz_tk_le hlv ok (zz_O M) one foe hm 0).1
  have hge : zz_tg lv (zz_H M) (zz_O M) one foe m 0 ≤ T 0 := by
    rw [← hTi]; unfold zz_tk; rw [if_pos rfl]; omega
  have hge2 : T 0 ≤ zz_su T n := by
    have := zz_su_mono T h1
    have e : zz_su T 1 = 0 + T 0 := rfl
    omega
  obtain ⟨s, ⟨D, rfl, fD⟩, e⟩ := zz_for (fun (ag28 : Int32 × Int32 × Int32 × gx_Mem → Option (Int32 × gx_Mem)) (s : Int32 × Int32 × Int32 × gx_Mem) => f_X4_turns_k28 (nI one) (nI foe) (nI n) (zz_i c) (nI m) (nI (9999 - zz_W M (4 * one + m))) (fun v7 v8 v9 M => ag28 (v7, v8, v9, M)) s.1 s.2.1 s.2.2.1 s.2.2.2) (fun s => some (if c = true then (if min (9999 - zz_W M (4 * one + m)) (zz_su T n) ≤ min (9999 - zz_W M (4 * one + m)) (zz_su T n - zz_tg lv (zz_H M) (zz_O M) one foe m 0) then 0 else 1) else nI (min (9999 - zz_W M (4 * one + m)) (zz_su T n)), s.2.2.2)) (fun k s => ∃ D, s = (nI (zz_su T k), (if k = 0 then 0 else nI (zz_tg lv (zz_H M) (zz_O M) one foe m 0)), nI k, D) ∧ zz_fr zz_S34 M D) n gx_fuel (by unfold gx_fuel; omega) (0, 0, 0, M) ⟨M, rfl, zz_fr.rf⟩ (fun k s hk hs => by
      obtain ⟨C, rfl, fC⟩ := hs
      obtain ⟨D, d1, d2⟩ := zz_turn28 (h.fr (fC.mono zz_S34_sc)) hlv (hL.tr (zz_lwC.fr fC)) (one := one) (foe := foe) (m := m) (n := n) (k := k) (zz_i c) (nI (9999 - zz_W M (4 * one + m))) (if k = 0 then 0 else nI (zz_tg lv (zz_H M) (zz_O M) one foe m 0)) (zz_su T k) (by rw [zz_H_fr fC zz_S34_9]; exact ho) (by rw [zz_H_fr fC zz_S34_9]; exact hfo) hne hm hk hn
      rw [zz_H_fr fC zz_S34_9, zz_O_frF fC zz_S34_9, hTi] at d2
      refine ⟨_, ⟨D, rfl, fC.tr d1⟩, fun ag => ?_⟩
      dsimp only
      rw [d2]
      refine congrArg ag (Prod.ext rfl (Prod.ext ?_ rfl))
      dsimp only
      rw [if_neg (show ¬ k + 1 = 0 by omega)]
      by_cases k0 : k = 0
      · rw [if_pos k0, k0]
      · rw [if_neg k0, if_neg k0]) (fun s hs ag => by
      obtain ⟨C, rfl, fC⟩ := hs
      have hSn := hS n
      dsimp only
      unfold f_X4_turns_k28
      rw [if_pos (nI_le (Nat.le_refl n) (by omega)), if_neg (show ¬ n = 0 by omega), zz_min (by omega) (by omega), zz_sub (by omega), zz_min (by omega) (by omega)]
      simp only [zz_le (show min (9999 - zz_W M (4 * one + m)) (zz_su T n) < 2147483648 by omega) (show min (9999 - zz_W M (4 * one + m)) (zz_su T n - zz_tg lv (zz_H M) (zz_O M) one foe m 0) < 2147483648 by omega)]
      cases c with
      | false => rw [if_pos (show zz_i false = 0 from rfl), if_neg (by decide)]
      | true =>
        rw [if_neg (show ¬ zz_i true = 0 by decide), if_pos rfl]
        split <;> rfl)
  refine ⟨D, fD, ?_⟩
  unfold f_X4_turns
  rw [zz_fav7 ok hv (by omega), hmd, zz_bPs, zz_room h (by omega) hm, zz_bPs]
  exact e

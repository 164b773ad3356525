/-! sets as bits; the hours as a sum; how much WETTER in twelve hours, on both sides -/
theorem zz_and1b (y : Int32) : decide (y &&& 1 = (1 : Int32)) = y.toBitVec.getLsbD 0 := by
  have h : (y &&& 1).toBitVec.getLsbD 0 = y.toBitVec.getLsbD 0 := by
    rw [Int32.toBitVec_and, BitVec.getLsbD_and]
    exact Bool.and_true _
  rcases zz_and1 y with e | e
  · rw [e] at h ⊢
    rw [← h]; rfl
  · rw [e] at h ⊢
    rw [← h]; rfl
theorem zz_bG (x : Int32) {i : Nat} (hi : i < 6) : zz_b x i = x.toBitVec.getLsbD i := by
  have hk : ((nI i &&& 31).toBitVec.smod 32).toNat = i := by
    match i, hi with
    | 0, _ => rfl
    | 1, _ => rfl
    | 2, _ => rfl
    | 3, _ => rfl
    | 4, _ => rfl
    | 5, _ => rfl
  unfold zz_b
  rw [zz_and1b]
  unfold gx_shr
  rw [Int32.toBitVec_shiftRight]
  show (x.toBitVec.sshiftRight ((nI i &&& 31).toBitVec.smod 32).toNat).getLsbD 0 = _
  rw [hk, BitVec.getLsbD_sshiftRight]
  have h32 : i < 32 := by omega
  simp [h32]
theorem zz_b_or (x y : Int32) {i : Nat} (hi : i < 6) : zz_b (x ||| y) i = (zz_b x i || zz_b y i) := by
  rw [zz_bG _ hi, zz_bG _ hi, zz_bG _ hi, Int32.toBitVec_or, BitVec.getLsbD_or]
theorem zz_b_and (x y : Int32) {i : Nat} (hi : i < 6) : zz_b (x &&& y) i = (zz_b x i && zz_b y i) := by
  rw [zz_bG _ hi, zz_bG _ hi, zz_bG _ hi, Int32.toBitVec_and, BitVec.getLsbD_and]
theorem zz_b_1 : ∀ n, n < 6 → ∀ p, p < 6 → zz_b (gx_shl 1 (nI n)) p = decide (p = n) := by decide
theorem zz_b_0 : ∀ p, p < 6 → zz_b 0 p = false := by decide
theorem zz_b_ou (Q : Nat → Bool) : ∀ n, n ≤ 6 → ∀ p, p < 6 → zz_b (zz_ou Q n) p = (decide (p < n) && Q p)
  | 0, _, p, hp => by
    rw [decide_eq_false (Nat.not_lt_zero p), Bool.false_and]
    exact zz_b_0 p hp
  | n + 1, hn, p, hp => by
    have ih := zz_b_ou Q n (by omega) p hp
    unfold zz_ou
    by_cases c : p = n
    · subst c
      rw [decide_eq_false (by omega), Bool.false_and] at ih
      rw [decide_eq_true (by omega), Bool.true_and]
      cases e : Q p with
      | false => rw [if_neg (by decide)]; exact ih
      | true => rw [if_pos rfl, zz_b_or _ _ hp, ih, zz_b_1 p hp p hp, decide_eq_true rfl]; rfl
    · have h2 : decide (p < n + 1) = decide (p < n) := by congr 1; exact propext (by omega)
      rw [h2, ← ih]
      cases e : Q n with
      | false => rw [if_neg (by decide)]
      | true => rw [if_pos rfl, zz_b_or _ _ hp, zz_b_1 n (by omega) p hp, decide_eq_false c, Bool.or_false]
/-- the flow hangs on who is out alone -/
theorem zz_ad_cong {P P2 : Nat → Bool} {t : Nat → Nat} : ∀ n, (∀ i, i < n → P i = P2 i) → zz_ad P t n = zz_ad P2 t n
  | 0, _ => rfl
  | n + 1, h => by unfold zz_ad; rw [zz_ad_cong n (fun i hi => h i (by omega)), h n (by omega)]
theorem zz_ct_cong {P P2 : Nat → Bool} : ∀ n, (∀ i, i < n → P i = P2 i) → zz_ct P n = zz_ct P2 n
  | 0, _ => rfl
  | n + 1, h => by unfold zz_ct; rw [zz_ct_cong n (fun i hi => h i (by omega)), h n (by omega)]
theorem zz_R_cong {lv : Nat → Nat → Nat → Nat → Nat → Nat → Nat} {H : zz_hs} {o o2 : Int32} (h : ∀ p, p < H.n → zz_b o p = zz_b o2 p) (m s : Nat) : ∀ j, zz_R lv H o m s j = zz_R lv H o2 m s j
  | 0 => rfl
  | j + 1 => by
    have hP : ∀ f p, p < H.n → zz_P H o f p = zz_P H o2 f p := fun f p hp => by unfold zz_P; rw [h p hp]
    unfold zz_R
    rw [zz_R_cong h m s j, zz_ad_cong _ (hP (8 * s + (7 - j))), zz_ct_cong _ (hP (8 * s + (7 - j)))]
theorem zz_dr_cong {lv : Nat → Nat → Nat → Nat → Nat → Nat → Nat} {H : zz_hs} {o o2 : Int32} (h : ∀ p, p < H.n → zz_b o p = zz_b o2 p) (p m : Nat) : zz_dr lv H o p m = zz_dr lv H o2 p m := by
  unfold zz_dr
  rw [zz_R_cong h]
  by_cases c : p < H.n
  · rw [h p c]
  · rw [if_neg (fun q => c q.1), if_neg (fun q => c q.1)]
theorem zz_pt_cong {lv : Nat → Nat → Nat → Nat → Nat → Nat → Nat} {H : zz_hs} {o o2 : Int32} (h : ∀ p, p < H.n → zz_b o p = zz_b o2 p) (m : Nat) : ∀ s, zz_pt lv H o m s = zz_pt lv H o2 m s
  | 0 => rfl
  | s + 1 => by unfold zz_pt; rw [zz_pt_cong h m s, zz_R_cong h]
/-! sums -/
theorem zz_suS (f : Nat → Nat) (n : Nat) : zz_su f (n + 1) = zz_su f n + f n := rfl
theorem zz_su_cong {f g : Nat → Nat} : ∀ n, (∀ i, i < n → f i = g i) → zz_su f n = zz_su g n
  | 0, _ => rfl
  | n + 1, h => by rw [zz_suS, zz_suS, zz_su_cong n (fun i hi => h i (by omega)), h n (by omega)]
theorem zz_su_add (f : Nat → Nat) (a : Nat) : ∀ b, zz_su f (a + b) = zz_su f a + zz_su (fun i => f (a + i)) b
  | 0 => rfl
  | b + 1 => by
    have := zz_su_add f a b
    show zz_su f (a + b) + f (a + b) = _
    rw [zz_suS]
    omega
theorem zz_su_mono (f : Nat → Nat) {a b : Nat} (h : a ≤ b) : zz_su f a ≤ zz_su f b := by
  obtain ⟨d, rfl⟩ : ∃ d, b = a + d := ⟨b - a, by omega⟩
  rw [zz_su_add]; omega
theorem zz_su_le {f : Nat → Nat} {c : Nat} : ∀ n, (∀ i, i < n → f i ≤ c) → zz_su f n ≤ c * n
  | 0, _ => Nat.le_refl _
  | n + 1, h => by
    have h1 := zz_su_le n (fun i hi => h i (by omega))
    have h2 := h n (by omega)
    rw [zz_suS, Nat.mul_succ]; omega
theorem zz_rot (F : Nat → Nat) {h0 : Nat} (h : h0 < 12) : zz_su (fun t => F ((h0 + t) % 12)) 12 = zz_su F 12 := by
  have e1 := zz_su_add (fun t => F ((h0 + t) % 12)) (12 - h0) h0
  have e2 := zz_su_add F h0 (12 - h0)
  rw [show 12 - h0 + h0 = 12 by omega] at e1
  rw [show h0 + (12 - h0) = 12 by omega] at e2
  rw [e1, e2, zz_su_cong (f := fun t => F ((h0 + t) % 12)) (g := fun i => F (h0 + i)) (12 - h0) (fun i hi => by rw [Nat.mod_eq_of_lt (show h0 + i < 12 by omega)]), zz_su_cong (f := fun i => F ((h0 + (12 - h0 + i)) % 12)) (g := F) h0 (fun i hi => by rw [show (h0 + (12 - h0 + i)) % 12 = i by omega])]
  omega
theorem zz_ds_su {lv : Nat → Nat → Nat → Nat → Nat → Nat → Nat} {H : zz_hs} {O : Nat → Int32} {p m : Nat} : ∀ n, zz_ds lv H O p m n = zz_su (fun t => zz_dr lv H (O t) p m) n
  | 0 => rfl
  | n + 1 => by unfold zz_ds; rw [zz_suS, zz_ds_su n]
/-- how much WETTER at mark m person p gets in twelve hours, if those of mask alone are there; Q p h: p is out at h -/
def zz_wr (lv : Nat → Nat → Nat → Nat → Nat → Nat → Nat) (H : zz_hs) (w : Nat → Nat) (Q : Nat → Nat → Bool) (mask : Int32) (p m : Nat) : Nat := min (9999 - w (4 * p + m)) (zz_su (fun t => zz_dr lv H (zz_ou (fun i => Q i t) H.n &&& mask) p m) 12)
theorem zz_wr_le {lv : Nat → Nat → Nat → Nat → Nat → Nat → Nat} {H : zz_hs} {w : Nat → Nat} {Q : Nat → Nat → Bool} {mask : Int32} {p m : Nat} : zz_wr lv H w Q mask p m ≤ 9999 := by
  unfold zz_wr; omega
/-- the class's house at k with its wets and outs -/
def zz_hw (k : Nat) (M : gx_Mem) (H : zz_hs) (w : Nat → Nat) (Q : Nat → Nat → Bool) : Prop := zz_h7 k M H ∧ (∀ j, j < 24 → M.1 (k + 4) j = nI (w j) ∧ w j ≤ 9999) ∧ (∀ i, i < H.n → ∀ h, h < 12 → zz_b (M.1 (k + 2) i) h = Q i h)
theorem zz_hw.fr {k : Nat} {M M2 : gx_Mem} {H : zz_hs} {w : Nat → Nat} {Q : Nat → Nat → Bool} (hk : 5 ≤ k) (h : zz_hw k M H w Q) (f : zz_fr zz_S34 M M2) : zz_hw k M2 H w Q := by
  have e : ∀ q i, 5 ≤ q → M2.1 q i = M.1 q i := fun q i hq => f.2 q i (by simp [zz_S34]; omega)
  obtain ⟨h1, h2, h3⟩ := h
  exact ⟨h1.fr hk f, fun j hj => by rw [e _ _ (by omega)]; exact h2 j hj, fun i hi t ht => by rw [e _ _ (by omega)]; exact h3 i hi t ht⟩
theorem zz_hw_out {k : Nat} {M : gx_Mem} {H : zz_hs} {w : Nat → Nat} {Q : Nat → Nat → Bool} (ok : zz_hok H) (h : zz_hw k M H w Q) {t : Nat} (ht : t < 12) : f_X2_outAt k (nI t) M = some (zz_ou (fun i => Q i t) H.n) := by
  rw [zz_outAt7 h.1.1 ok.1 t]
  exact congrArg some (zz_ou_cong _ (fun i hi => h.2.2 i hi t ht))
theorem zz_hw_room {k : Nat} {M : gx_Mem} {H : zz_hs} {w : Nat → Nat} {Q : Nat → Nat → Bool} (h : zz_hw k M H w Q) {p m : Nat} (hp : p < 6) (hm : m < 4) : f_X2_room k (nI p) (nI m) M = some (nI (9999 - w (4 * p + m))) := by
  unfold f_X2_room
  have e := h.2.1 (4 * p + m) (by omega)
  rw [show (4 : Int32) = nI 4 from rfl, zz_mul, zz_add, show p * 4 + m = 4 * p + m by omega, zz_gi (show 4 * p + m < 24 by omega) (by decide), zz_cl (show 4 * p + m < 2147483648 by omega), e.1, show (9999 : Int32) = nI 9999 from rfl, zz_sub e.2]

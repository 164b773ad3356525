/-! CHANGE: the class deals -/
def zz_btr (c : Bool) (x y : Nat) : Bool := if c = true then decide (x < y) else decide (y < x)
/-- the best so far and the next dealing -/
def zz_bs (c : Bool) (s : List Nat → Nat) (b : Option (Nat × List Nat)) (f : List Nat) : Option (Nat × List Nat) := match b with
  | none => some (s f, f)
  | some x => if zz_btr c x.1 (s f) = true then some (s f, f) else some x
def zz_SK (k _i : Nat) : Bool := k == 3 || k == 4 || k == 24 || k == 31 || k == 32
theorem zz_SK_sc : ∀ k i, zz_SK k i = true → zz_sc k i = true := by
  intro k i h
  unfold zz_SK at h
  simp only [Bool.or_eq_true, beq_iff_eq] at h
  rcases h with (((rfl | rfl) | rfl) | rfl) | rfl <;> rfl
theorem zz_S31_SK : ∀ k i, zz_S31 k i = true → zz_SK k i = true := by
  intro k i h
  unfold zz_S31 at h
  simp only [beq_iff_eq] at h
  subst h; rfl
theorem zz_S34_SK : ∀ k i, zz_S34 k i = true → zz_SK k i = true := by
  intro k i h
  unfold zz_S34 at h
  simp only [Bool.or_eq_true, beq_iff_eq] at h
  rcases h with rfl | rfl <;> rfl
theorem zz_hw.hfK {M M2 : gx_Mem} {H : zz_hs} {w : Nat → Nat} {Q : Nat → Nat → Bool} {g : Nat → Nat} (v : zz_hw 23 M H w Q) (f2 : zz_fr zz_SK M M2) (hg : ∀ p, p < H.n → M2.1 24 p = nI (g p)) : zz_hw 23 M2 (zz_hf H g) w Q := by
  unfold zz_hw zz_h7 at v ⊢
  rw [zz_hf_n, zz_hf_fl, zz_hf_th, zz_hf_ir, zz_hf_aw]
  obtain ⟨⟨c1, c2, c3, c4, c5⟩, h2, h3⟩ := v
  exact ⟨⟨(f2.2 23 7 rfl).trans c1, hg, fun p hp => (f2.2 (23 + 3) p rfl).trans (c3 p hp), fun p hp => (f2.2 (23 + 5) p rfl).trans (c4 p hp), (f2.2 23 8 rfl).trans c5⟩, fun j hj => by rw [f2.2 (23 + 4) j rfl]; exact h2 j hj, fun i hi t ht => by rw [f2.2 (23 + 2) i rfl]; exact h3 i hi t ht⟩
def zz_gdl (n : Nat) (f : List Nat) : Prop := f.length = n ∧ ∀ i, i < n → f.getD i 0 < n
theorem zz_pw0 {n i : Nat} {f : List Nat} (h : zz_gdl n f) (hi : i < n) : zz_pw f i = f.getD i 0 := by
  unfold zz_pw
  rw [List.getD_eq_getElem?_getD, List.getD_eq_getElem?_getD, List.getElem?_eq_getElem (by rw [h.1]; exact hi)]
  rfl
/-- one dealing, laid and valued -/
theorem zz_deal53 {L C : gx_Mem} {H : zz_hs} {w : Nat → Nat} {Q : Nat → Nat → Bool} {lv : Nat → Nat → Nat → Nat → Nat → Nat → Nat} (ok : zz_hok H) (hv : zz_hw 23 L H w Q) (hlv : ∀ a w i f m n, lv a w i f m n ≤ a) (hL : zz_LC lv L) (h9 : C.1 9 7 = nI H.n) (h10 : ∀ p, p < H.n → C.1 10 p = nI (H.fl p)) {p m : Nat} (hp : p < H.n) (hm : m < 4) {f : List Nat} (hf : zz_gdl H.n f) (fC : zz_fr zz_SK L C) (h31 : zz_w31 C (zz_pw f)) (v3 : Int32) :
    ∃ E, zz_fr zz_SK L E ∧ zz_w31 E (zz_pw f) ∧ (∀ i, i < H.n → E.1 24 i = nI (H.fl (f.getD i 0))) ∧ (∀ i, E.1 32 i = C.1 32 i) ∧ ∀ x : (Int32 → Int32 → gx_Mem → Option (Int32 × gx_Mem)) × Int32 × Int32,
      f_X4_deal_l53 x.1 (nI p) (nI m) v3 x.2.1 x.2.2 gx_fuel 0 C = (if x.2.2 = 0 then f_X4_deal_b136 x.1 (nI p) (nI m) v3 x.2.2 (nI (zz_dl lv H w Q p m f)) E else (if v3 = 0 then (if x.2.1 ≤ nI (zz_dl lv H w Q p m f) then f_X4_deal_b158 x.1 (nI p) (nI m) v3 x.2.1 x.2.2 E else f_X4_deal_b136 x.1 (nI p) (nI m) v3 x.2.2 (nI (zz_dl lv H w Q p m f)) E) else (if nI (zz_dl lv H w Q p m f) ≤ x.2.1 then f_X4_deal_b158 x.1 (nI p) (nI m) v3 x.2.1 x.2.2 E else f_X4_deal_b136 x.1 (nI p) (nI m) v3 x.2.2 (nI (zz_dl lv H w Q p m f)) E))) := by
  have h6 := ok.1
  generalize hA : zz_ov C 24 0 H.n (fun i => nI (H.fl (f.getD i 0))) = A
  have fA : zz_fr zz_SK C A := by
    rw [← hA]
    refine ⟨rfl, fun k i hk => ?_⟩
    rw [zz_ov1, if_neg]
    rintro ⟨rfl, -⟩; cases hk
  have a24 : ∀ i, i < H.n → A.1 24 i = nI (H.fl (f.getD i 0)) := fun i hi => by rw [← hA, zz_ov1, if_pos ⟨rfl, by omega, by omega⟩]
  have aO : ∀ k i, ¬ k = 24 → A.1 k i = C.1 k i := fun k i hk => by rw [← hA, zz_ov1, if_neg (fun x => hk x.1)]
  have fLA := fC.tr fA
  have hw := hv.hfK (g := fun i => H.fl (f.getD i 0)) fLA a24
  have okx := zz_hf_ok ok (g := fun i => H.fl (f.getD i 0)) (fun q hq => ok.2.1 _ (hf.2 q hq))
  obtain ⟨E, e1, e2⟩ := zz_wetter7 (k := 23) (by decide) okx hw hlv (hL.tr (zz_lwC.sc (fLA.mono zz_SK_sc))) 63 (p := p) (m0 := m) (c := 1) (l := m) (by rw [zz_hf_n]; exact hp) (by omega) rfl
  have hs : zz_su (fun i => zz_wr lv (zz_hf H (fun i => H.fl (f.getD i 0))) w Q 63 p (m + i)) 1 = zz_dl lv H w Q p m f := by
    unfold zz_dl
    rw [zz_suS, show zz_su (fun i => zz_wr lv (zz_hf H (fun i => H.fl (f.getD i 0))) w Q 63 p (m + i)) 0 = 0 from rfl, Nat.zero_add, Nat.add_zero]
  rw [hs] at e1
  have n24 : ∀ i, zz_S34 24 i = false := fun _ => rfl
  refine ⟨E, fLA.tr (e2.mono zz_S34_SK), fun i hi => ?_, fun i hi => ?_, fun i => ?_, fun x => ?_⟩
  · rw [e2.2 31 i rfl, aO 31 i (by decide)]; exact h31 i hi
  · rw [e2.2 24 i rfl]; exact a24 i hi
  · rw [e2.2 32 i rfl, aO 32 i (by decide)]
  · obtain ⟨t, rfl, e⟩ := zz_for (fun (ag53 : Int32 × gx_Mem → Option (Int32 × gx_Mem)) (s : Int32 × gx_Mem) => f_X4_deal_k53 x.1 (nI p) (nI m) v3 x.2.1 x.2.2 (fun v6 M => ag53 (v6, M)) s.1 s.2) (fun s => f_X4_deal_k53 x.1 (nI p) (nI m) v3 x.2.1 x.2.2 (fun _ _ => none) s.1 s.2) (fun v s => s = (nI v, zz_ov C 24 0 v (fun i => nI (H.fl (f.getD i 0))))) H.n gx_fuel (by unfold gx_fuel; omega) (0, C) (by rw [zz_ov0]; rfl) (fun v s hv hs => by
      subst hs
      refine ⟨_, rfl, fun ag => ?_⟩
      dsimp only
      unfold f_X4_deal_k53
      have b31 : (zz_ov C 24 0 v (fun i => nI (H.fl (f.getD i 0)))).1 31 v = nI (f.getD v 0) := by
        rw [zz_ov1, if_neg (by omega), (h31 v (by omega)).1, zz_pw0 hf hv]
      have hfv := hf.2 v hv
      have b10 : (zz_ov C 24 0 v (fun i => nI (H.fl (f.getD i 0)))).1 10 (f.getD v 0) = nI (H.fl (f.getD v 0)) := by
        rw [zz_ov1, if_neg (by omega)]; exact h10 _ hfv
      have b1 : (zz_ov C 24 0 v (fun i => nI (H.fl (f.getD i 0)))).1 9 7 = nI H.n := by
        rw [zz_ov1, if_neg (by omega)]; exact h9
      rw [b1, if_neg (show ¬ nI H.n ≤ nI v by rw [zz_le (by omega) (by omega)]; omega), zz_gi (show v < 6 by omega) (by decide), zz_cl (show v < 2147483648 by omega), b31, zz_gi (show f.getD v 0 < 6 by omega) (by decide), zz_gi (show v < 6 by omega) (by decide), zz_cl (show f.getD v 0 < 2147483648 by omega), b10, zz_let, show nI v + 1 = nI (v + 1) from zz_add v 1]
      have := zz_ovS C 24 0 v (fun i => nI (H.fl (f.getD i 0))) _ (by rw [Nat.zero_add])
      rw [Nat.zero_add] at this
      rw [this, zz_let]) (fun s hs ag => by
      subst hs
      dsimp only
      unfold f_X4_deal_k53
      have b1 : (zz_ov C 24 0 H.n (fun i => nI (H.fl (f.getD i 0)))).1 9 7 = nI H.n := by
        rw [zz_ov1, if_neg (by omega)]; exact h9
      rw [b1, if_pos (nI_le (Nat.le_refl _) (by omega)), if_pos (nI_le (Nat.le_refl _) (by omega))])
    refine Eq.trans e ?_
    dsimp only
    rw [hA]
    unfold f_X4_deal_k53
    rw [aO 9 7 (by decide), h9, if_pos (nI_le (Nat.le_refl _) (by omega)), e1, zz_bIs]
/-- the next dealing, or the end -/
theorem zz_deal158 {n : Nat} (h0 : 0 < n) (h6 : n ≤ 6) {F : gx_Mem} {f : List Nat} (h9 : F.1 9 7 = nI n) (h31 : zz_w31 F (zz_pw f)) (ag : Int32 → Int32 → gx_Mem → Option (Int32 × gx_Mem)) (v1 v2 v3 v4 : Int32) (k : Nat) : ∀ t, zz_chn n (f :: t) = true → match t with
    | [] => f_X4_deal_b158 ag v1 v2 v3 v4 (nI k) F = some (v4, F)
    | g :: t2 => zz_chn n (g :: t2) = true ∧ ∃ E, f_X4_deal_b158 ag v1 v2 v3 v4 (nI k) F = ag v4 (nI (k + 1)) E ∧ zz_fr zz_S31 F E ∧ zz_w31 E (zz_pw g)
  | [], h => by
    have q := zz_next7d h31 h9 h0 h6
    unfold zz_chn at h
    rcases e : zz_nxt n (zz_pw f) with _ | w
    · rw [e] at q
      unfold f_X4_deal_b158
      show gx_bI (f_X4_nextDealing F) _ = _
      rw [q, zz_bIs, if_pos rfl]
    · rw [e] at h; cases h
  | g :: t2, h => by
    have q := zz_next7d h31 h9 h0 h6
    unfold zz_chn at h
    rw [Bool.and_eq_true] at h
    obtain ⟨h1, h2⟩ := h
    refine ⟨h2, ?_⟩
    unfold zz_chk at h1
    rcases e : zz_nxt n (zz_pw f) with _ | w
    · rw [e] at h1; cases h1
    · rw [e] at h1 q
      obtain ⟨E, e1, e2, e3⟩ := q
      refine ⟨E, ?_, e2, fun i hi => ?_⟩
      · unfold f_X4_deal_b158
        rw [e1, zz_bIs, if_neg (by decide), zz_let, show nI k + 1 = nI (k + 1) from zz_add k 1]
      · have := List.all_eq_true.mp h1 i (List.mem_range.mpr hi)
        rw [← Nat.eq_of_beq_eq_true this]
        exact e3 i hi
def zz_stt (H : zz_hs) (C : gx_Mem) (v4 : Int32) (k : Nat) (b : Option (Nat × List Nat)) : Prop := match b with
  | none => k = 0
  | some x => ¬ k = 0 ∧ v4 = nI x.1 ∧ x.1 ≤ 9999 ∧ ∀ i, i < H.n → C.1 32 i = nI (H.fl (x.2.getD i 0))
theorem zz_dl_le (lv : Nat → Nat → Nat → Nat → Nat → Nat → Nat) (H : zz_hs) (w : Nat → Nat) (Q : Nat → Nat → Bool) (p m : Nat) (f : List Nat) : zz_dl lv H w Q p m f ≤ 9999 := by
  unfold zz_dl
  exact zz_wr_le
theorem zz_deal42s {L : gx_Mem} {H : zz_hs} {w : Nat → Nat} {Q : Nat → Nat → Bool} {lv : Nat → Nat → Nat → Nat → Nat → Nat → Nat} (ok : zz_hok H) (hv : zz_hw 23 L H w Q) (hlv : ∀ a w i f m n, lv a w i f m n ≤ a) (hL : zz_LC lv L) (h9 : L.1 9 7 = nI H.n) (h10 : ∀ p, p < H.n → L.1 10 p = nI (H.fl p)) {p m : Nat} (hp : p < H.n) (hm : m < 4) (c : Bool)
    {f : List Nat} {k n2 : Nat} {C : gx_Mem} {v4 : Int32} {b : Option (Nat × List Nat)} (hf : zz_gdl H.n f) (hk : k < 720) (fC : zz_fr zz_SK L C) (h31 : zz_w31 C (zz_pw f)) (hb : zz_stt H C v4 k b) :
    ∃ F x, f_X4_deal_l42 (nI p) (nI m) (zz_i c) (n2 + 1) v4 (nI k) C = f_X4_deal_b158 (fun v4 v5 M => f_X4_deal_l42 (nI p) (nI m) (zz_i c) n2 v4 v5 M) (nI p) (nI m) (zz_i c) (nI x.1) (nI k) F ∧ zz_fr zz_SK L F ∧ zz_w31 F (zz_pw f) ∧ x.1 ≤ 9999 ∧ (∀ i, i < H.n → F.1 32 i = nI (H.fl (x.2.getD i 0))) ∧ zz_bs c (zz_dl lv H w Q p m) b f = some x := by
  have h6 := ok.1
  have c9 : C.1 9 7 = nI H.n := (fC.2 9 7 rfl).trans h9
  have c10 : ∀ p, p < H.n → C.1 10 p = nI (H.fl p) := fun p hp => (fC.2 10 p rfl).trans (h10 p hp)
  obtain ⟨E, e1, e2, e3, e4, e5⟩ := zz_deal53 ok hv hlv hL c9 c10 hp hm hf fC h31 (zz_i c)
  have hle := zz_dl_le lv H w Q p m f
  have es : f_X4_deal_l42 (nI p) (nI m) (zz_i c) (n2 + 1) v4 (nI k) C = f_X4_deal_k42 (nI p) (nI m) (zz_i c) (fun v4 v5 M => f_X4_deal_l42 (nI p) (nI m) (zz_i c) n2 v4 v5 M) v4 (nI k) C := rfl
  rw [es]
  unfold f_X4_deal_k42
  rw [if_neg (show ¬ (720 : Int32) ≤ nI k by rw [show (720 : Int32) = nI 720 from rfl, zz_le (by decide) (by omega)]; omega)]
  have e5' := e5 (fun v4 v5 M => f_X4_deal_l42 (nI p) (nI m) (zz_i c) n2 v4 v5 M, v4, nI k)
  rw [show f_X4_deal_l53 (fun v4 v5 M => f_X4_deal_l42 (nI p) (nI m) (zz_i c) n2 v4 v5 M) (nI p) (nI m) (zz_i c) v4 (nI k) gx_fuel 0 C = _ from e5']
  dsimp only
  generalize zz_dl lv H w Q p m = s at *
  -- what is taken
  have take : ∃ F, f_X4_deal_b136 (fun v4 v5 M => f_X4_deal_l42 (nI p) (nI m) (zz_i c) n2 v4 v5 M) (nI p) (nI m) (zz_i c) (nI k) (nI (s f)) E = f_X4_deal_b158 (fun v4 v5 M => f_X4_deal_l42 (nI p) (nI m) (zz_i c) n2 v4 v5 M) (nI p) (nI m) (zz_i c) (nI (s f)) (nI k) F ∧ zz_fr zz_SK L F ∧ zz_w31 F (zz_pw f) ∧ s f ≤ 9999 ∧ (∀ i, i < H.n → F.1 32 i = nI (H.fl (f.getD i 0))) := by
    refine ⟨gx_cI E 24 0 32 0 6, ?_, ⟨e1.1, fun q i hq => ?_⟩, fun i hi => ?_, hle, fun i hi => ?_⟩
    · unfold f_X4_deal_b136
      rw [show gx_cpk (0 : Int32) (0 : Int32) (6 : Int32) 6 6 = true by decide]
      rfl
    · rw [zz_cI1, if_neg (by rintro ⟨rfl, -⟩; cases hq)]; exact e1.2 q i hq
    · rw [zz_cI1, if_neg (by omega)]; exact e2 i hi
    · rw [zz_cI1, if_pos ⟨rfl, by omega, by omega⟩, Nat.sub_zero, Nat.zero_add]; exact e3 i hi
  obtain ⟨F, t1, t2, t3, t4, t5⟩ := take
  cases b with
  | none =>
    have hk0 : k = 0 := hb
    refine ⟨F, (s f, f), ?_, t2, t3, t4, t5, rfl⟩
    rw [if_pos (by rw [hk0]; rfl)]
    exact t1
  | some x =>
    obtain ⟨k0, rfl, b2, b3⟩ := hb
    have hk0 : ¬ nI k = 0 := by rw [show (0 : Int32) = nI 0 from rfl, zz_eq (by omega) (by omega)]; exact k0
    rw [if_neg hk0]
    have b3' : ∀ i, i < H.n → E.1 32 i = nI (H.fl (x.2.getD i 0)) := fun i hi => (e4 i).trans (b3 i hi)
    unfold zz_bs zz_btr
    cases c with
    | false =>
      rw [if_pos (show zz_i false = 0 from rfl)]
      simp only [zz_le (show x.1 < 2147483648 by omega) (show s f < 2147483648 by omega)]
      by_cases q : x.1 ≤ s f
      · refine ⟨E, x, ?_, e1, e2, b2, b3', ?_⟩
        · rw [if_pos q]
        · rw [if_neg (by rw [if_neg Bool.false_ne_true, decide_eq_true_eq]; omega)]
      · refine ⟨F, (s f, f), ?_, t2, t3, t4, t5, ?_⟩
        · rw [if_neg q]; exact t1
        · rw [if_pos (by rw [if_neg Bool.false_ne_true, decide_eq_true_eq]; omega)]
    | true =>
      rw [if_neg (show ¬ zz_i true = 0 by decide)]
      simp only [zz_le (show s f < 2147483648 by omega) (show x.1 < 2147483648 by omega)]
      by_cases q : s f ≤ x.1
      · refine ⟨E, x, ?_, e1, e2, b2, b3', ?_⟩
        · rw [if_pos q]
        · rw [if_neg (by rw [if_pos trivial, decide_eq_true_eq]; omega)]
      · refine ⟨F, (s f, f), ?_, t2, t3, t4, t5, ?_⟩
        · rw [if_neg q]; exact t1
        · rw [if_pos (by rw [if_pos trivial, decide_eq_true_eq]; omega)]
theorem zz_deal42 {L : gx_Mem} {H : zz_hs} {w : Nat → Nat} {Q : Nat → Nat → Bool} {lv : Nat → Nat → Nat → Nat → Nat → Nat → Nat} (ok : zz_hok H) (hv : zz_hw 23 L H w Q) (hlv : ∀ a w i f m n, lv a w i f m n ≤ a) (hL : zz_LC lv L) (h9 : L.1 9 7 = nI H.n) (h10 : ∀ p, p < H.n → L.1 10 p = nI (H.fl p)) {p m : Nat} (hp : p < H.n) (hm : m < 4) (c : Bool) :
    ∀ (t : List (List Nat)) (f : List Nat) (k n2 : Nat) (C : gx_Mem) (v4 : Int32) (b : Option (Nat × List Nat)), zz_chn H.n (f :: t) = true → (∀ g, g ∈ f :: t → zz_gdl H.n g) → k + (t.length + 1) ≤ 720 → t.length + 1 < n2 → zz_fr zz_SK L C → zz_w31 C (zz_pw f) → zz_stt H C v4 k b →
    ∃ D x, f_X4_deal_l42 (nI p) (nI m) (zz_i c) n2 v4 (nI k) C = some (nI x.1, D) ∧ zz_fr zz_SK L D ∧ (f :: t).foldl (zz_bs c (zz_dl lv H w Q p m)) b = some x ∧ ∀ i, i < H.n → D.1 32 i = nI (H.fl (x.2.getD i 0)) := by
  have h6 := ok.1
  intro t
  induction t with
  | nil =>
    intro f k n2 C v4 b hc hg hk hn fC h31 hb
    obtain ⟨n2, rfl⟩ : ∃ j, n2 = j + 1 := ⟨n2 - 1, by omega⟩
    obtain ⟨F, x, a1, a2, a3, a4, a5, a6⟩ := zz_deal42s (n2 := n2) ok hv hlv hL h9 h10 hp hm c (hg f (by simp)) (by omega) fC h31 hb
    have q := zz_deal158 (show 0 < H.n by omega) h6 ((a2.2 9 7 rfl).trans h9) a3 (fun v4 v5 M => f_X4_deal_l42 (nI p) (nI m) (zz_i c) n2 v4 v5 M) (nI p) (nI m) (zz_i c) (nI x.1) k [] hc
    exact ⟨F, x, a1.trans q, a2, a6, a5⟩
  | cons g t ih =>
    intro f k n2 C v4 b hc hg hk hn fC h31 hb
    obtain ⟨n2, rfl⟩ : ∃ j, n2 = j + 1 := ⟨n2 - 1, by omega⟩
    rw [List.length_cons] at hk hn
    obtain ⟨F, x, a1, a2, a3, a4, a5, a6⟩ := zz_deal42s (n2 := n2) ok hv hlv hL h9 h10 hp hm c (hg f (by simp)) (by omega) fC h31 hb
    obtain ⟨hc2, E, b1, b2, b3⟩ := zz_deal158 (show 0 < H.n by omega) h6 ((a2.2 9 7 rfl).trans h9) a3 (fun v4 v5 M => f_X4_deal_l42 (nI p) (nI m) (zz_i c) n2 v4 v5 M) (nI p) (nI m) (zz_i c) (nI x.1) k (g :: t) hc
    obtain ⟨D, y, d1, d2, d3, d4⟩ := ih g (k + 1) n2 E (nI x.1) (some x) hc2 (fun y hy => hg y (List.mem_cons_of_mem _ hy)) (by omega) (by omega) (a2.tr (b2.mono zz_S31_SK)) b3 ⟨by omega, rfl, a4, fun i hi => (b2.2 32 i rfl).trans (a5 i hi)⟩
    refine ⟨D, y, a1.trans (b1.trans d1), d2, ?_, d4⟩
    rw [List.foldl_cons, a6]
    exact d3

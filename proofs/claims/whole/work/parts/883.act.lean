/-! ACTS: what ran is a list; both sides by kinds -/
def zz_wl (q kc ki : Nat) : List Int32 → Nat → gx_Mem → gx_Mem
  | [], _, M => M
  | v :: l, c, M => zz_wl q kc ki l (c + 1) (gx_sI (if c < 24 then gx_sI M q c v else M) kc ki (nI (c + 1)))
theorem zz_wl_app (q kc ki : Nat) (l2 : List Int32) : ∀ (l : List Int32) (c : Nat) (M : gx_Mem), zz_wl q kc ki (l ++ l2) c M = zz_wl q kc ki l2 (c + l.length) (zz_wl q kc ki l c M)
  | [], c, M => rfl
  | v :: l, c, M => by
    show zz_wl q kc ki (l ++ l2) (c + 1) _ = _
    rw [zz_wl_app q kc ki l2 l (c + 1) _]
    show _ = zz_wl q kc ki l2 (c + (l.length + 1)) _
    rw [show c + (l.length + 1) = c + 1 + l.length by omega]
    rfl
theorem zz_wl_c {q kc ki : Nat} : ∀ (l : List Int32) (c : Nat) (M : gx_Mem), M.1 kc ki = nI c → (zz_wl q kc ki l c M).1 kc ki = nI (c + l.length)
  | [], c, M, h => h
  | v :: l, c, M, h => by
    have := zz_wl_c (q := q) (kc := kc) (ki := ki) l (c + 1) (gx_sI (if c < 24 then gx_sI M q c v else M) kc ki (nI (c + 1))) (by rw [zz_sI1, if_pos ⟨rfl, rfl⟩])
    show (zz_wl q kc ki l (c + 1) _).1 kc ki = nI (c + (l.length + 1))
    rw [this, show c + 1 + l.length = c + (l.length + 1) by omega]
theorem zz_wl_o {q kc ki k i : Nat} (h1 : k ≠ q) (h2 : ¬ (k = kc ∧ i = ki)) : ∀ (l : List Int32) (c : Nat) (M : gx_Mem), (zz_wl q kc ki l c M).1 k i = M.1 k i
  | [], c, M => rfl
  | v :: l, c, M => by
    show (zz_wl q kc ki l (c + 1) _).1 k i = _
    rw [zz_wl_o h1 h2 l (c + 1) _, zz_sI1, if_neg h2]
    split
    · rw [zz_sI1, if_neg (fun e => h1 e.1)]
    · rfl
theorem zz_wl_2 {q kc ki : Nat} : ∀ (l : List Int32) (c : Nat) (M : gx_Mem), (zz_wl q kc ki l c M).2 = M.2
  | [], c, M => rfl
  | v :: l, c, M => by
    show (zz_wl q kc ki l (c + 1) _).2 = _
    rw [zz_wl_2 l (c + 1) _, zz_sI2]
    split <;> rfl
theorem zz_wl_lt {q kc ki i : Nat} (hq : q ≠ kc) : ∀ (l : List Int32) (c : Nat) (M : gx_Mem), i < c → (zz_wl q kc ki l c M).1 q i = M.1 q i
  | [], c, M, _ => rfl
  | v :: l, c, M, h => by
    show (zz_wl q kc ki l (c + 1) _).1 q i = _
    rw [zz_wl_lt hq l (c + 1) _ (by omega), zz_sI1, if_neg (fun e => hq e.1)]
    split
    · rw [zz_sI1, if_neg (fun e => by omega)]
    · rfl
theorem zz_wl_eq {q kc ki q2 kc2 ki2 i : Nat} (hq : q ≠ kc) (hq2 : q2 ≠ kc2) (hi : i < 24) : ∀ (l : List Int32) (c : Nat) (M M2 : gx_Mem), c ≤ i → i < c + l.length → (zz_wl q kc ki l c M).1 q i = (zz_wl q2 kc2 ki2 l c M2).1 q2 i
  | [], c, M, M2, h1, h2 => by
    have : i < c + 0 := h2
    omega
  | v :: l, c, M, M2, h1, h2 => by
    have h2' : i < c + (l.length + 1) := h2
    show (zz_wl q kc ki l (c + 1) _).1 q i = (zz_wl q2 kc2 ki2 l (c + 1) _).1 q2 i
    by_cases e : i = c
    · have k : ∀ (q kc ki : Nat) (M : gx_Mem), q ≠ kc → (gx_sI (if c < 24 then gx_sI M q c v else M) kc ki (nI (c + 1))).1 q i = v := by
        intro q kc ki M hqk
        rw [if_pos (show c < 24 by omega), zz_sI1, if_neg (fun e2 : q = kc ∧ i = ki => hqk e2.1), zz_sI1, if_pos ⟨rfl, e⟩]
      rw [zz_wl_lt hq l (c + 1) _ (by omega), zz_wl_lt hq2 l (c + 1) _ (by omega), k q kc ki M hq, k q2 kc2 ki2 M2 hq2]
    · exact zz_wl_eq hq hq2 hi l (c + 1) _ _ (by omega) (by omega)
/-- F answers r and runs the bodies l, for a body n of kind K -/
def zz_A (q kc ki qk n K : Nat) (F : gx_Mem → Option (Int32 × gx_Mem)) (r : Int32) (l : List Int32) : Prop := ∀ (M : gx_Mem) (c : Nat), M.1 qk n = nI K → M.1 kc ki = nI c → c + l.length < 1000 → F M = some (r, zz_wl q kc ki l c M)
def zz_A7 (n K : Nat) := zz_A 42 40 3 41 n K
def zz_A8 (n K : Nat) := zz_A 91 57 54 90 n K
theorem zz_A.pure {q kc ki qk n K : Nat} (r : Int32) : zz_A q kc ki qk n K (fun M => some (r, M)) r [] := fun _ _ _ _ _ => rfl
theorem zz_A.bind {q kc ki qk n K : Nat} {F : gx_Mem → Option (Int32 × gx_Mem)} {G : Int32 → gx_Mem → Option (Int32 × gx_Mem)} {r r2 : Int32} {l l2 : List Int32} (h1 : qk ≠ q) (h2 : ¬ (qk = kc ∧ n = ki)) (hF : zz_A q kc ki qk n K F r l) (hG : zz_A q kc ki qk n K (G r) r2 l2) : zz_A q kc ki qk n K (fun M => gx_bI (F M) G) r2 (l ++ l2) := by
  intro M c a b d
  rw [List.length_append] at d
  show gx_bI (F M) G = _
  rw [hF M c a b (by omega), zz_bIs, hG _ (c + l.length) ((zz_wl_o h1 h2 l c M).trans a) (zz_wl_c l c M b) (by omega), zz_wl_app]
theorem zz_A.map {q kc ki qk n K : Nat} {F : gx_Mem → Option (Int32 × gx_Mem)} (g : Int32 → Int32) {r : Int32} {l : List Int32} (hF : zz_A q kc ki qk n K F r l) : zz_A q kc ki qk n K (fun M => gx_bI (F M) (fun y M2 => some (g y, M2))) (g r) l := by
  intro M c a b d
  show gx_bI (F M) _ = _
  rw [hF M c a b d]
  rfl
theorem zz_A.ran {n K : Nat} {F : gx_Mem → Option (Int32 × gx_Mem)} {v r : Int32} {l : List Int32} (hF : zz_A8 n K F r l) : zz_A8 n K (fun M => gx_bP (f_X8_ran v M) F) r (v :: l) := by
  intro M c a b d
  have d' : c + (l.length + 1) < 1000 := d
  have e : f_X8_ran v M = some (gx_sI (if c < 24 then gx_sI M 91 c v else M) 57 54 (nI (c + 1))) := by
    unfold f_X8_ran f_X8_ran_b19
    rw [b]
    by_cases h : c < 24
    · rw [if_neg (show ¬ (24 : Int32) ≤ nI c by rw [show (24 : Int32) = nI 24 from rfl, zz_le (by decide) (by omega)]; omega), zz_gi h (by decide), zz_cl (show c < 2147483648 by omega), if_pos h]
      simp only [zz_let]
      rw [show (gx_sI M 91 c v).1 57 54 = nI c from b, show nI c + 1 = nI (c + 1) from zz_add c 1]
    · rw [if_pos (show (24 : Int32) ≤ nI c by rw [show (24 : Int32) = nI 24 from rfl, zz_le (by decide) (by omega)]; omega), if_neg h, zz_let, show nI c + 1 = nI (c + 1) from zz_add c 1]
  show gx_bP (f_X8_ran v M) F = _
  rw [e, zz_bPs, hF _ (c + 1) (by
    rw [zz_sI1, if_neg (by omega)]
    split
    · rw [zz_sI1, if_neg (by omega)]; exact a
    · exact a) (by rw [zz_sI1, if_pos ⟨rfl, rfl⟩]) (by omega)]
  rfl
/-- the class: the nearest body that an act has from a kind on -/
theorem zz_doesR {n K act fr at0 d dep : Nat} {num up x r : Int32} {l : List Int32} (ho : ∀ M, f_X0_owner (nI act) (nI fr) M = some (nI at0)) (hat : at0 < 8) (hact : act < 4) (hnum : gx_tab 2 (act * 8 + at0) = num) (hup : gx_tab 1 at0 = up) (hd : dep ≤ 40) (hp : zz_A7 n K (f_X0_plays d num up (nI n) x (nI (dep + 1))) r l) : zz_A7 n K (f_X0_does (d + 1) (nI act) (nI fr) (nI n) x (nI dep)) r (num :: l) := by
  intro M c a b e
  have e' : c + (l.length + 1) < 1000 := e
  show f_X0_does_o (f_X0_does d) (f_X0_plays d) (nI act) (nI fr) (nI n) x (nI dep) M = _
  have key : ∀ A : gx_Mem, A.1 40 3 = nI c → A.1 41 n = nI K → f_X0_does_b54 (f_X0_does d) (f_X0_plays d) (nI n) x (nI dep) (nI at0) num A = some (r, zz_wl 42 40 3 l (c + 1) (gx_sI A 40 3 (nI (c + 1)))) := by
    intro A a1 a2
    unfold f_X0_does_b54
    rw [a1, show nI c + 1 = nI (c + 1) from zz_add c 1, zz_let, zz_gi hat (by decide), zz_cl (show at0 < 2147483648 by omega), hup, show nI dep + 1 = nI (dep + 1) from zz_add dep 1, hp (gx_sI A 40 3 (nI (c + 1))) (c + 1) a2 rfl (by omega)]
    rfl
  unfold f_X0_does_o
  rw [ho, zz_bPs, if_neg (nI_pos (show at0 < 2147483648 by omega)), if_pos (show nI dep ≤ (40 : Int32) by rw [show (40 : Int32) = nI 40 from rfl, zz_le (by omega) (by decide)]; exact hd), show (8 : Int32) = nI 8 from rfl, zz_mul, zz_add, zz_gi (show act * 8 + at0 < 32 by omega) (by decide), zz_cl (show act * 8 + at0 < 2147483648 by omega), hnum, zz_let, b]
  by_cases h : c < 24
  · rw [if_neg (show ¬ (24 : Int32) ≤ nI c by rw [show (24 : Int32) = nI 24 from rfl, zz_le (by decide) (by omega)]; omega), zz_gi h (by decide), zz_cl (show c < 2147483648 by omega), zz_let, key (gx_sI M 42 c num) b a]
    show _ = some (r, zz_wl 42 40 3 l (c + 1) (gx_sI (if c < 24 then gx_sI M 42 c num else M) 40 3 (nI (c + 1))))
    rw [if_pos h]
  · rw [if_pos (show (24 : Int32) ≤ nI c by rw [show (24 : Int32) = nI 24 from rfl, zz_le (by decide) (by omega)]; omega), key M b a]
    show _ = some (r, zz_wl 42 40 3 l (c + 1) (gx_sI (if c < 24 then gx_sI M 42 c num else M) 40 3 (nI (c + 1))))
    rw [if_neg h]
theorem zz_playsR {n K d : Nat} (hn : n < 50) {num up x dep r : Int32} {l : List Int32} (G : Int32 → gx_Mem → Option (Int32 × gx_Mem)) (e : ∀ M, f_X0_plays (d + 1) num up (nI n) x dep M = gx_gd (gx_in (nI n) 50) (gx_let (M.1 41 (nI n).toNatClampNeg) (fun x1 => G x1 M))) (h : zz_A7 n K (G (nI K)) r l) : zz_A7 n K (f_X0_plays (d + 1) num up (nI n) x dep) r l := by
  intro M c a b q
  rw [e, zz_gi hn (by decide), zz_cl (show n < 2147483648 by omega), a, zz_let]
  exact h M c a b q
theorem zz_c0_0_0 {n : Nat} (hn : n < 50) (d dep : Nat) (x : Int32) (hd : dep + 1 ≤ 41) : zz_A7 n 0 (f_X0_does (d + 2) (nI 0) (nI 0) (nI n) x (nI dep)) (x + nI n) [1] := by
  refine zz_doesR (at0 := 0) (num := 1) (up := (-1)) (fun _ => rfl) (by decide) (by decide) rfl rfl (by omega) ?_
  refine zz_playsR (d := d) hn (fun _ M => some ((x + nI n), M)) (fun _ => rfl) ?_
  exact zz_A.pure _
theorem zz_c1_0_0 {n : Nat} (hn : n < 50) (d dep : Nat) (x : Int32) (hd : dep + 2 ≤ 41) : zz_A7 n 0 (f_X0_does (d + 4) (nI 1) (nI 0) (nI n) x (nI dep)) ((x + nI n) * 2) [10, 1] := by
  refine zz_doesR (at0 := 0) (num := 10) (up := (-1)) (fun _ => rfl) (by decide) (by decide) rfl rfl (by omega) ?_
  refine zz_playsR (d := d + 2) hn (fun x1 M => gx_bI (f_X0_does (d + 2) (nI 0) x1 (nI n) x (nI (dep + 1)) M) (fun y M2 => some ((y * 2), M2))) (fun _ => rfl) ?_
  exact zz_A.map (fun y => (y * 2)) (zz_c0_0_0 hn (d + 0) (dep + 1) x (by omega))
theorem zz_c2_0_0 {n : Nat} (hn : n < 50) (d dep : Nat) (x : Int32) (hd : dep + 1 ≤ 41) : zz_A7 n 0 (f_X0_does (d + 2) (nI 2) (nI 0) (nI n) x (nI dep)) (x ^^^ nI n) [11] := by
  refine zz_doesR (at0 := 0) (num := 11) (up := (-1)) (fun _ => rfl) (by decide) (by decide) rfl rfl (by omega) ?_
  refine zz_playsR (d := d) hn (fun _ M => some ((x ^^^ nI n), M)) (fun _ => rfl) ?_
  exact zz_A.pure _
theorem zz_c3_0_0 {n : Nat} (hn : n < 50) (d dep : Nat) (x : Int32) (hd : dep + 3 ≤ 41) : zz_A7 n 0 (f_X0_does (d + 6) (nI 3) (nI 0) (nI n) x (nI dep)) (((x + nI n) * 2) - (1 ^^^ nI n)) [2, 10, 1, 11] := by
  refine zz_doesR (at0 := 0) (num := 2) (up := (-1)) (fun _ => rfl) (by decide) (by decide) rfl rfl (by omega) ?_
  refine zz_playsR (d := d + 4) hn (fun x1 M => gx_bI (f_X0_does (d + 4) (nI 1) x1 (nI n) x (nI (dep + 1)) M) (fun y M2 => gx_bI (f_X0_does (d + 4) (nI 2) x1 (nI n) 1 (nI (dep + 1)) M2) (fun y2 M3 => some ((y - y2), M3)))) (fun _ => rfl) ?_
  exact zz_A.bind (by decide) (by omega) (zz_c1_0_0 hn (d + 0) (dep + 1) x (by omega)) (zz_A.map (fun y2 => (((x + nI n) * 2) - y2)) (zz_c2_0_0 hn (d + 2) (dep + 1) 1 (by omega)))
theorem zz_c0_0_1 {n : Nat} (hn : n < 50) (d dep : Nat) (x : Int32) (hd : dep + 1 ≤ 41) : zz_A7 n 1 (f_X0_does (d + 2) (nI 0) (nI 0) (nI n) x (nI dep)) (x + nI n) [1] := by
  refine zz_doesR (at0 := 0) (num := 1) (up := (-1)) (fun _ => rfl) (by decide) (by decide) rfl rfl (by omega) ?_
  refine zz_playsR (d := d) hn (fun _ M => some ((x + nI n), M)) (fun _ => rfl) ?_
  exact zz_A.pure _
theorem zz_c0_1_1 {n : Nat} (hn : n < 50) (d dep : Nat) (x : Int32) (hd : dep + 2 ≤ 41) : zz_A7 n 1 (f_X0_does (d + 4) (nI 0) (nI 1) (nI n) x (nI dep)) ((x + nI n) + 3) [20, 1] := by
  refine zz_doesR (at0 := 1) (num := 20) (up := nI 0) (fun _ => rfl) (by decide) (by decide) rfl rfl (by omega) ?_
  refine zz_playsR (d := d + 2) hn (fun x1 M => gx_bI (f_X0_does (d + 2) (nI 0) (nI 0) (nI n) x (nI (dep + 1)) M) (fun y M2 => some ((y + 3), M2))) (fun _ => rfl) ?_
  exact zz_A.map (fun y => (y + 3)) (zz_c0_0_1 hn (d + 0) (dep + 1) x (by omega))
theorem zz_c1_1_1 {n : Nat} (hn : n < 50) (d dep : Nat) (x : Int32) (hd : dep + 3 ≤ 41) : zz_A7 n 1 (f_X0_does (d + 6) (nI 1) (nI 1) (nI n) x (nI dep)) (((x + nI n) + 3) * 2) [10, 20, 1] := by
  refine zz_doesR (at0 := 0) (num := 10) (up := (-1)) (fun _ => rfl) (by decide) (by decide) rfl rfl (by omega) ?_
  refine zz_playsR (d := d + 4) hn (fun x1 M => gx_bI (f_X0_does (d + 4) (nI 0) x1 (nI n) x (nI (dep + 1)) M) (fun y M2 => some ((y * 2), M2))) (fun _ => rfl) ?_
  exact zz_A.map (fun y => (y * 2)) (zz_c0_1_1 hn (d + 0) (dep + 1) x (by omega))
theorem zz_c2_1_1 {n : Nat} (hn : n < 50) (d dep : Nat) (x : Int32) (hd : dep + 1 ≤ 41) : zz_A7 n 1 (f_X0_does (d + 2) (nI 2) (nI 1) (nI n) x (nI dep)) (x ^^^ nI n) [11] := by
  refine zz_doesR (at0 := 0) (num := 11) (up := (-1)) (fun _ => rfl) (by decide) (by decide) rfl rfl (by omega) ?_
  refine zz_playsR (d := d) hn (fun _ M => some ((x ^^^ nI n), M)) (fun _ => rfl) ?_
  exact zz_A.pure _
theorem zz_c3_1_1 {n : Nat} (hn : n < 50) (d dep : Nat) (x : Int32) (hd : dep + 4 ≤ 41) : zz_A7 n 1 (f_X0_does (d + 8) (nI 3) (nI 1) (nI n) x (nI dep)) ((((x + nI n) + 3) * 2) - (1 ^^^ nI n)) [2, 10, 20, 1, 11] := by
  refine zz_doesR (at0 := 0) (num := 2) (up := (-1)) (fun _ => rfl) (by decide) (by decide) rfl rfl (by omega) ?_
  refine zz_playsR (d := d + 6) hn (fun x1 M => gx_bI (f_X0_does (d + 6) (nI 1) x1 (nI n) x (nI (dep + 1)) M) (fun y M2 => gx_bI (f_X0_does (d + 6) (nI 2) x1 (nI n) 1 (nI (dep + 1)) M2) (fun y2 M3 => some ((y - y2), M3)))) (fun _ => rfl) ?_
  exact zz_A.bind (by decide) (by omega) (zz_c1_1_1 hn (d + 0) (dep + 1) x (by omega)) (zz_A.map (fun y2 => ((((x + nI n) + 3) * 2) - y2)) (zz_c2_1_1 hn (d + 4) (dep + 1) 1 (by omega)))
theorem zz_c0_2_2 {n : Nat} (hn : n < 50) (d dep : Nat) (x : Int32) (hd : dep + 1 ≤ 41) : zz_A7 n 2 (f_X0_does (d + 2) (nI 0) (nI 2) (nI n) x (nI dep)) (x + nI n) [1] := by
  refine zz_doesR (at0 := 0) (num := 1) (up := (-1)) (fun _ => rfl) (by decide) (by decide) rfl rfl (by omega) ?_
  refine zz_playsR (d := d) hn (fun _ M => some ((x + nI n), M)) (fun _ => rfl) ?_
  exact zz_A.pure _
theorem zz_c1_0_2 {n : Nat} (hn : n < 50) (d dep : Nat) (x : Int32) (hd : dep + 2 ≤ 41) : zz_A7 n 2 (f_X0_does (d + 4) (nI 1) (nI 0) (nI n) x (nI dep)) ((x + nI n) * 2) [10, 1] := by
  refine zz_doesR (at0 := 0) (num := 10) (up := (-1)) (fun _ => rfl) (by decide) (by decide) rfl rfl (by omega) ?_
  refine zz_playsR (d := d + 2) hn (fun x1 M => gx_bI (f_X0_does (d + 2) (nI 0) x1 (nI n) x (nI (dep + 1)) M) (fun y M2 => some ((y * 2), M2))) (fun _ => rfl) ?_
  exact zz_A.map (fun y => (y * 2)) (zz_c0_2_2 hn (d + 0) (dep + 1) x (by omega))
theorem zz_c1_2_2 {n : Nat} (hn : n < 50) (d dep : Nat) (x : Int32) (hd : dep + 3 ≤ 41) : zz_A7 n 2 (f_X0_does (d + 6) (nI 1) (nI 2) (nI n) x (nI dep)) (-((x + nI n) * 2)) [30, 10, 1] := by
  refine zz_doesR (at0 := 2) (num := 30) (up := nI 0) (fun _ => rfl) (by decide) (by decide) rfl rfl (by omega) ?_
  refine zz_playsR (d := d + 4) hn (fun x1 M => gx_bI (f_X0_does (d + 4) (nI 1) (nI 0) (nI n) x (nI (dep + 1)) M) (fun y M2 => some ((-y), M2))) (fun _ => rfl) ?_
  exact zz_A.map (fun y => (-y)) (zz_c1_0_2 hn (d + 0) (dep + 1) x (by omega))
theorem zz_c2_2_2 {n : Nat} (hn : n < 50) (d dep : Nat) (x : Int32) (hd : dep + 1 ≤ 41) : zz_A7 n 2 (f_X0_does (d + 2) (nI 2) (nI 2) (nI n) x (nI dep)) (x ^^^ nI n) [11] := by
  refine zz_doesR (at0 := 0) (num := 11) (up := (-1)) (fun _ => rfl) (by decide) (by decide) rfl rfl (by omega) ?_
  refine zz_playsR (d := d) hn (fun _ M => some ((x ^^^ nI n), M)) (fun _ => rfl) ?_
  exact zz_A.pure _
theorem zz_c3_2_2 {n : Nat} (hn : n < 50) (d dep : Nat) (x : Int32) (hd : dep + 4 ≤ 41) : zz_A7 n 2 (f_X0_does (d + 8) (nI 3) (nI 2) (nI n) x (nI dep)) ((-((x + nI n) * 2)) - (1 ^^^ nI n)) [2, 30, 10, 1, 11] := by
  refine zz_doesR (at0 := 0) (num := 2) (up := (-1)) (fun _ => rfl) (by decide) (by decide) rfl rfl (by omega) ?_
  refine zz_playsR (d := d + 6) hn (fun x1 M => gx_bI (f_X0_does (d + 6) (nI 1) x1 (nI n) x (nI (dep + 1)) M) (fun y M2 => gx_bI (f_X0_does (d + 6) (nI 2) x1 (nI n) 1 (nI (dep + 1)) M2) (fun y2 M3 => some ((y - y2), M3)))) (fun _ => rfl) ?_
  exact zz_A.bind (by decide) (by omega) (zz_c1_2_2 hn (d + 0) (dep + 1) x (by omega)) (zz_A.map (fun y2 => ((-((x + nI n) * 2)) - y2)) (zz_c2_2_2 hn (d + 4) (dep + 1) 1 (by omega)))
theorem zz_c0_3_3 {n : Nat} (hn : n < 50) (d dep : Nat) (x : Int32) (hd : dep + 1 ≤ 41) : zz_A7 n 3 (f_X0_does (d + 2) (nI 0) (nI 3) (nI n) x (nI dep)) (x + nI n) [1] := by
  refine zz_doesR (at0 := 0) (num := 1) (up := (-1)) (fun _ => rfl) (by decide) (by decide) rfl rfl (by omega) ?_
  refine zz_playsR (d := d) hn (fun _ M => some ((x + nI n), M)) (fun _ => rfl) ?_
  exact zz_A.pure _
theorem zz_c1_0_3 {n : Nat} (hn : n < 50) (d dep : Nat) (x : Int32) (hd : dep + 2 ≤ 41) : zz_A7 n 3 (f_X0_does (d + 4) (nI 1) (nI 0) (nI n) x (nI dep)) ((x + nI n) * 2) [10, 1] := by
  refine zz_doesR (at0 := 0) (num := 10) (up := (-1)) (fun _ => rfl) (by decide) (by decide) rfl rfl (by omega) ?_
  refine zz_playsR (d := d + 2) hn (fun x1 M => gx_bI (f_X0_does (d + 2) (nI 0) x1 (nI n) x (nI (dep + 1)) M) (fun y M2 => some ((y * 2), M2))) (fun _ => rfl) ?_
  exact zz_A.map (fun y => (y * 2)) (zz_c0_3_3 hn (d + 0) (dep + 1) x (by omega))
theorem zz_c1_2_3 {n : Nat} (hn : n < 50) (d dep : Nat) (x : Int32) (hd : dep + 3 ≤ 41) : zz_A7 n 3 (f_X0_does (d + 6) (nI 1) (nI 2) (nI n) x (nI dep)) (-((x + nI n) * 2)) [30, 10, 1] := by
  refine zz_doesR (at0 := 2) (num := 30) (up := nI 0) (fun _ => rfl) (by decide) (by decide) rfl rfl (by omega) ?_
  refine zz_playsR (d := d + 4) hn (fun x1 M => gx_bI (f_X0_does (d + 4) (nI 1) (nI 0) (nI n) x (nI (dep + 1)) M) (fun y M2 => some ((-y), M2))) (fun _ => rfl) ?_
  exact zz_A.map (fun y => (-y)) (zz_c1_0_3 hn (d + 0) (dep + 1) x (by omega))
theorem zz_c1_3_3 {n : Nat} (hn : n < 50) (d dep : Nat) (x : Int32) (hd : dep + 4 ≤ 41) : zz_A7 n 3 (f_X0_does (d + 8) (nI 1) (nI 3) (nI n) x (nI dep)) (-(((x + 1) + nI n) * 2)) [41, 30, 10, 1] := by
  refine zz_doesR (at0 := 3) (num := 41) (up := nI 2) (fun _ => rfl) (by decide) (by decide) rfl rfl (by omega) ?_
  refine zz_playsR (d := d + 6) hn (fun x1 M => gx_bI (f_X0_does (d + 6) (nI 1) (nI 2) (nI n) (x + 1) (nI (dep + 1)) M) (fun y M2 => some (y, M2))) (fun _ => rfl) ?_
  exact zz_A.map (fun y => y) (zz_c1_2_3 hn (d + 0) (dep + 1) (x + 1) (by omega))
theorem zz_c2_2_3 {n : Nat} (hn : n < 50) (d dep : Nat) (x : Int32) (hd : dep + 1 ≤ 41) : zz_A7 n 3 (f_X0_does (d + 2) (nI 2) (nI 2) (nI n) x (nI dep)) (x ^^^ nI n) [11] := by
  refine zz_doesR (at0 := 0) (num := 11) (up := (-1)) (fun _ => rfl) (by decide) (by decide) rfl rfl (by omega) ?_
  refine zz_playsR (d := d) hn (fun _ M => some ((x ^^^ nI n), M)) (fun _ => rfl) ?_
  exact zz_A.pure _
theorem zz_c2_3_3 {n : Nat} (hn : n < 50) (d dep : Nat) (x : Int32) (hd : dep + 2 ≤ 41) : zz_A7 n 3 (f_X0_does (d + 4) (nI 2) (nI 3) (nI n) x (nI dep)) ((x ^^^ nI n) * 3) [40, 11] := by
  refine zz_doesR (at0 := 3) (num := 40) (up := nI 2) (fun _ => rfl) (by decide) (by decide) rfl rfl (by omega) ?_
  refine zz_playsR (d := d + 2) hn (fun x1 M => gx_bI (f_X0_does (d + 2) (nI 2) (nI 2) (nI n) x (nI (dep + 1)) M) (fun y M2 => some ((y * 3), M2))) (fun _ => rfl) ?_
  exact zz_A.map (fun y => (y * 3)) (zz_c2_2_3 hn (d + 0) (dep + 1) x (by omega))
theorem zz_c3_3_3 {n : Nat} (hn : n < 50) (d dep : Nat) (x : Int32) (hd : dep + 5 ≤ 41) : zz_A7 n 3 (f_X0_does (d + 10) (nI 3) (nI 3) (nI n) x (nI dep)) ((-(((x + 1) + nI n) * 2)) - ((1 ^^^ nI n) * 3)) [2, 41, 30, 10, 1, 40, 11] := by
  refine zz_doesR (at0 := 0) (num := 2) (up := (-1)) (fun _ => rfl) (by decide) (by decide) rfl rfl (by omega) ?_
  refine zz_playsR (d := d + 8) hn (fun x1 M => gx_bI (f_X0_does (d + 8) (nI 1) x1 (nI n) x (nI (dep + 1)) M) (fun y M2 => gx_bI (f_X0_does (d + 8) (nI 2) x1 (nI n) 1 (nI (dep + 1)) M2) (fun y2 M3 => some ((y - y2), M3)))) (fun _ => rfl) ?_
  exact zz_A.bind (by decide) (by omega) (zz_c1_3_3 hn (d + 0) (dep + 1) x (by omega)) (zz_A.map (fun y2 => ((-(((x + 1) + nI n) * 2)) - y2)) (zz_c2_3_3 hn (d + 4) (dep + 1) 1 (by omega)))
theorem zz_c0_0_4 {n : Nat} (hn : n < 50) (d dep : Nat) (x : Int32) (hd : dep + 1 ≤ 41) : zz_A7 n 4 (f_X0_does (d + 2) (nI 0) (nI 0) (nI n) x (nI dep)) (x + nI n) [1] := by
  refine zz_doesR (at0 := 0) (num := 1) (up := (-1)) (fun _ => rfl) (by decide) (by decide) rfl rfl (by omega) ?_
  refine zz_playsR (d := d) hn (fun _ M => some ((x + nI n), M)) (fun _ => rfl) ?_
  exact zz_A.pure _
theorem zz_c0_4_4 {n : Nat} (hn : n < 50) (d dep : Nat) (x : Int32) (hd : dep + 2 ≤ 41) : zz_A7 n 4 (f_X0_does (d + 4) (nI 0) (nI 4) (nI n) x (nI dep)) ((x + nI n) + 3) [20, 1] := by
  refine zz_doesR (at0 := 1) (num := 20) (up := nI 0) (fun _ => rfl) (by decide) (by decide) rfl rfl (by omega) ?_
  refine zz_playsR (d := d + 2) hn (fun x1 M => gx_bI (f_X0_does (d + 2) (nI 0) (nI 0) (nI n) x (nI (dep + 1)) M) (fun y M2 => some ((y + 3), M2))) (fun _ => rfl) ?_
  exact zz_A.map (fun y => (y + 3)) (zz_c0_0_4 hn (d + 0) (dep + 1) x (by omega))
theorem zz_c1_4_4 {n : Nat} (hn : n < 50) (d dep : Nat) (x : Int32) (hd : dep + 3 ≤ 41) : zz_A7 n 4 (f_X0_does (d + 6) (nI 1) (nI 4) (nI n) x (nI dep)) (((x + nI n) + 3) * 2) [10, 20, 1] := by
  refine zz_doesR (at0 := 0) (num := 10) (up := (-1)) (fun _ => rfl) (by decide) (by decide) rfl rfl (by omega) ?_
  refine zz_playsR (d := d + 4) hn (fun x1 M => gx_bI (f_X0_does (d + 4) (nI 0) x1 (nI n) x (nI (dep + 1)) M) (fun y M2 => some ((y * 2), M2))) (fun _ => rfl) ?_
  exact zz_A.map (fun y => (y * 2)) (zz_c0_4_4 hn (d + 0) (dep + 1) x (by omega))
theorem zz_c2_4_4 {n : Nat} (hn : n < 50) (d dep : Nat) (x : Int32) (hd : dep + 1 ≤ 41) : zz_A7 n 4 (f_X0_does (d + 2) (nI 2) (nI 4) (nI n) x (nI dep)) (x ^^^ nI n) [11] := by
  refine zz_doesR (at0 := 0) (num := 11) (up := (-1)) (fun _ => rfl) (by decide) (by decide) rfl rfl (by omega) ?_
  refine zz_playsR (d := d) hn (fun _ M => some ((x ^^^ nI n), M)) (fun _ => rfl) ?_
  exact zz_A.pure _
theorem zz_c3_1_4 {n : Nat} (hn : n < 50) (d dep : Nat) (x : Int32) (hd : dep + 4 ≤ 41) : zz_A7 n 4 (f_X0_does (d + 8) (nI 3) (nI 1) (nI n) x (nI dep)) ((((x + nI n) + 3) * 2) - (1 ^^^ nI n)) [2, 10, 20, 1, 11] := by
  refine zz_doesR (at0 := 0) (num := 2) (up := (-1)) (fun _ => rfl) (by decide) (by decide) rfl rfl (by omega) ?_
  refine zz_playsR (d := d + 6) hn (fun x1 M => gx_bI (f_X0_does (d + 6) (nI 1) x1 (nI n) x (nI (dep + 1)) M) (fun y M2 => gx_bI (f_X0_does (d + 6) (nI 2) x1 (nI n) 1 (nI (dep + 1)) M2) (fun y2 M3 => some ((y - y2), M3)))) (fun _ => rfl) ?_
  exact zz_A.bind (by decide) (by omega) (zz_c1_4_4 hn (d + 0) (dep + 1) x (by omega)) (zz_A.map (fun y2 => ((((x + nI n) + 3) * 2) - y2)) (zz_c2_4_4 hn (d + 4) (dep + 1) 1 (by omega)))
theorem zz_c3_4_4 {n : Nat} (hn : n < 50) (d dep : Nat) (x : Int32) (hd : dep + 5 ≤ 41) : zz_A7 n 4 (f_X0_does (d + 10) (nI 3) (nI 4) (nI n) x (nI dep)) (((((x + nI n) + 3) * 2) - (1 ^^^ nI n)) ^^^ 5) [50, 2, 10, 20, 1, 11] := by
  refine zz_doesR (at0 := 4) (num := 50) (up := nI 1) (fun _ => rfl) (by decide) (by decide) rfl rfl (by omega) ?_
  refine zz_playsR (d := d + 8) hn (fun x1 M => gx_bI (f_X0_does (d + 8) (nI 3) (nI 1) (nI n) x (nI (dep + 1)) M) (fun y M2 => some ((y ^^^ 5), M2))) (fun _ => rfl) ?_
  exact zz_A.map (fun y => (y ^^^ 5)) (zz_c3_1_4 hn (d + 0) (dep + 1) x (by omega))
theorem zz_c0_5_5 {n : Nat} (hn : n < 50) (d dep : Nat) (x : Int32) (hd : dep + 1 ≤ 41) : zz_A7 n 5 (f_X0_does (d + 2) (nI 0) (nI 5) (nI n) x (nI dep)) (x + nI n) [1] := by
  refine zz_doesR (at0 := 0) (num := 1) (up := (-1)) (fun _ => rfl) (by decide) (by decide) rfl rfl (by omega) ?_
  refine zz_playsR (d := d) hn (fun _ M => some ((x + nI n), M)) (fun _ => rfl) ?_
  exact zz_A.pure _
theorem zz_c1_0_5 {n : Nat} (hn : n < 50) (d dep : Nat) (x : Int32) (hd : dep + 2 ≤ 41) : zz_A7 n 5 (f_X0_does (d + 4) (nI 1) (nI 0) (nI n) x (nI dep)) ((x + nI n) * 2) [10, 1] := by
  refine zz_doesR (at0 := 0) (num := 10) (up := (-1)) (fun _ => rfl) (by decide) (by decide) rfl rfl (by omega) ?_
  refine zz_playsR (d := d + 2) hn (fun x1 M => gx_bI (f_X0_does (d + 2) (nI 0) x1 (nI n) x (nI (dep + 1)) M) (fun y M2 => some ((y * 2), M2))) (fun _ => rfl) ?_
  exact zz_A.map (fun y => (y * 2)) (zz_c0_5_5 hn (d + 0) (dep + 1) x (by omega))
theorem zz_c1_2_5 {n : Nat} (hn : n < 50) (d dep : Nat) (x : Int32) (hd : dep + 3 ≤ 41) : zz_A7 n 5 (f_X0_does (d + 6) (nI 1) (nI 2) (nI n) x (nI dep)) (-((x + nI n) * 2)) [30, 10, 1] := by
  refine zz_doesR (at0 := 2) (num := 30) (up := nI 0) (fun _ => rfl) (by decide) (by decide) rfl rfl (by omega) ?_
  refine zz_playsR (d := d + 4) hn (fun x1 M => gx_bI (f_X0_does (d + 4) (nI 1) (nI 0) (nI n) x (nI (dep + 1)) M) (fun y M2 => some ((-y), M2))) (fun _ => rfl) ?_
  exact zz_A.map (fun y => (-y)) (zz_c1_0_5 hn (d + 0) (dep + 1) x (by omega))
theorem zz_c1_5_5 {n : Nat} (hn : n < 50) (d dep : Nat) (x : Int32) (hd : dep + 4 ≤ 41) : zz_A7 n 5 (f_X0_does (d + 8) (nI 1) (nI 5) (nI n) x (nI dep)) (-(((x + 1) + nI n) * 2)) [41, 30, 10, 1] := by
  refine zz_doesR (at0 := 3) (num := 41) (up := nI 2) (fun _ => rfl) (by decide) (by decide) rfl rfl (by omega) ?_
  refine zz_playsR (d := d + 6) hn (fun x1 M => gx_bI (f_X0_does (d + 6) (nI 1) (nI 2) (nI n) (x + 1) (nI (dep + 1)) M) (fun y M2 => some (y, M2))) (fun _ => rfl) ?_
  exact zz_A.map (fun y => y) (zz_c1_2_5 hn (d + 0) (dep + 1) (x + 1) (by omega))
theorem zz_c2_2_5 {n : Nat} (hn : n < 50) (d dep : Nat) (x : Int32) (hd : dep + 1 ≤ 41) : zz_A7 n 5 (f_X0_does (d + 2) (nI 2) (nI 2) (nI n) x (nI dep)) (x ^^^ nI n) [11] := by
  refine zz_doesR (at0 := 0) (num := 11) (up := (-1)) (fun _ => rfl) (by decide) (by decide) rfl rfl (by omega) ?_
  refine zz_playsR (d := d) hn (fun _ M => some ((x ^^^ nI n), M)) (fun _ => rfl) ?_
  exact zz_A.pure _
theorem zz_c2_3_5 {n : Nat} (hn : n < 50) (d dep : Nat) (x : Int32) (hd : dep + 2 ≤ 41) : zz_A7 n 5 (f_X0_does (d + 4) (nI 2) (nI 3) (nI n) x (nI dep)) ((x ^^^ nI n) * 3) [40, 11] := by
  refine zz_doesR (at0 := 3) (num := 40) (up := nI 2) (fun _ => rfl) (by decide) (by decide) rfl rfl (by omega) ?_
  refine zz_playsR (d := d + 2) hn (fun x1 M => gx_bI (f_X0_does (d + 2) (nI 2) (nI 2) (nI n) x (nI (dep + 1)) M) (fun y M2 => some ((y * 3), M2))) (fun _ => rfl) ?_
  exact zz_A.map (fun y => (y * 3)) (zz_c2_2_5 hn (d + 0) (dep + 1) x (by omega))
theorem zz_c2_5_5 {n : Nat} (hn : n < 50) (d dep : Nat) (x : Int32) (hd : dep + 3 ≤ 41) : zz_A7 n 5 (f_X0_does (d + 6) (nI 2) (nI 5) (nI n) x (nI dep)) (((x ^^^ nI n) * 3) - (2 + nI n)) [60, 40, 11, 1] := by
  refine zz_doesR (at0 := 5) (num := 60) (up := nI 3) (fun _ => rfl) (by decide) (by decide) rfl rfl (by omega) ?_
  refine zz_playsR (d := d + 4) hn (fun x1 M => gx_bI (f_X0_does (d + 4) (nI 2) (nI 3) (nI n) x (nI (dep + 1)) M) (fun y M2 => gx_bI (f_X0_does (d + 4) (nI 0) x1 (nI n) 2 (nI (dep + 1)) M2) (fun y2 M3 => some ((y - y2), M3)))) (fun _ => rfl) ?_
  exact zz_A.bind (by decide) (by omega) (zz_c2_3_5 hn (d + 0) (dep + 1) x (by omega)) (zz_A.map (fun y2 => (((x ^^^ nI n) * 3) - y2)) (zz_c0_5_5 hn (d + 2) (dep + 1) 2 (by omega)))
theorem zz_c3_3_5 {n : Nat} (hn : n < 50) (d dep : Nat) (x : Int32) (hd : dep + 5 ≤ 41) : zz_A7 n 5 (f_X0_does (d + 10) (nI 3) (nI 3) (nI n) x (nI dep)) ((-(((x + 1) + nI n) * 2)) - (((1 ^^^ nI n) * 3) - (2 + nI n))) [2, 41, 30, 10, 1, 60, 40, 11, 1] := by
  refine zz_doesR (at0 := 0) (num := 2) (up := (-1)) (fun _ => rfl) (by decide) (by decide) rfl rfl (by omega) ?_
  refine zz_playsR (d := d + 8) hn (fun x1 M => gx_bI (f_X0_does (d + 8) (nI 1) x1 (nI n) x (nI (dep + 1)) M) (fun y M2 => gx_bI (f_X0_does (d + 8) (nI 2) x1 (nI n) 1 (nI (dep + 1)) M2) (fun y2 M3 => some ((y - y2), M3)))) (fun _ => rfl) ?_
  exact zz_A.bind (by decide) (by omega) (zz_c1_5_5 hn (d + 0) (dep + 1) x (by omega)) (zz_A.map (fun y2 => ((-(((x + 1) + nI n) * 2)) - y2)) (zz_c2_5_5 hn (d + 2) (dep + 1) 1 (by omega)))
theorem zz_c3_5_5 {n : Nat} (hn : n < 50) (d dep : Nat) (x : Int32) (hd : dep + 6 ≤ 41) : zz_A7 n 5 (f_X0_does (d + 12) (nI 3) (nI 5) (nI n) x (nI dep)) (((-(((x + 1) + nI n) * 2)) - (((1 ^^^ nI n) * 3) - (2 + nI n))) + 1) [61, 2, 41, 30, 10, 1, 60, 40, 11, 1] := by
  refine zz_doesR (at0 := 5) (num := 61) (up := nI 3) (fun _ => rfl) (by decide) (by decide) rfl rfl (by omega) ?_
  refine zz_playsR (d := d + 10) hn (fun x1 M => gx_bI (f_X0_does (d + 10) (nI 3) (nI 3) (nI n) x (nI (dep + 1)) M) (fun y M2 => some ((y + 1), M2))) (fun _ => rfl) ?_
  exact zz_A.map (fun y => (y + 1)) (zz_c3_3_5 hn (d + 0) (dep + 1) x (by omega))
theorem zz_c0_0_6 {n : Nat} (hn : n < 50) (d dep : Nat) (x : Int32) (hd : dep + 1 ≤ 41) : zz_A7 n 6 (f_X0_does (d + 2) (nI 0) (nI 0) (nI n) x (nI dep)) (x + nI n) [1] := by
  refine zz_doesR (at0 := 0) (num := 1) (up := (-1)) (fun _ => rfl) (by decide) (by decide) rfl rfl (by omega) ?_
  refine zz_playsR (d := d) hn (fun _ M => some ((x + nI n), M)) (fun _ => rfl) ?_
  exact zz_A.pure _
theorem zz_c0_6_6 {n : Nat} (hn : n < 50) (d dep : Nat) (x : Int32) (hd : dep + 2 ≤ 41) : zz_A7 n 6 (f_X0_does (d + 4) (nI 0) (nI 6) (nI n) x (nI dep)) ((x + nI n) * 2) [70, 1] := by
  refine zz_doesR (at0 := 6) (num := 70) (up := nI 0) (fun _ => rfl) (by decide) (by decide) rfl rfl (by omega) ?_
  refine zz_playsR (d := d + 2) hn (fun x1 M => gx_bI (f_X0_does (d + 2) (nI 0) (nI 0) (nI n) x (nI (dep + 1)) M) (fun y M2 => some ((y * 2), M2))) (fun _ => rfl) ?_
  exact zz_A.map (fun y => (y * 2)) (zz_c0_0_6 hn (d + 0) (dep + 1) x (by omega))
theorem zz_c1_6_6 {n : Nat} (hn : n < 50) (d dep : Nat) (x : Int32) (hd : dep + 3 ≤ 41) : zz_A7 n 6 (f_X0_does (d + 6) (nI 1) (nI 6) (nI n) x (nI dep)) (((x + nI n) * 2) * 2) [10, 70, 1] := by
  refine zz_doesR (at0 := 0) (num := 10) (up := (-1)) (fun _ => rfl) (by decide) (by decide) rfl rfl (by omega) ?_
  refine zz_playsR (d := d + 4) hn (fun x1 M => gx_bI (f_X0_does (d + 4) (nI 0) x1 (nI n) x (nI (dep + 1)) M) (fun y M2 => some ((y * 2), M2))) (fun _ => rfl) ?_
  exact zz_A.map (fun y => (y * 2)) (zz_c0_6_6 hn (d + 0) (dep + 1) x (by omega))
theorem zz_c2_6_6 {n : Nat} (hn : n < 50) (d dep : Nat) (x : Int32) (hd : dep + 1 ≤ 41) : zz_A7 n 6 (f_X0_does (d + 2) (nI 2) (nI 6) (nI n) x (nI dep)) (x ^^^ nI n) [11] := by
  refine zz_doesR (at0 := 0) (num := 11) (up := (-1)) (fun _ => rfl) (by decide) (by decide) rfl rfl (by omega) ?_
  refine zz_playsR (d := d) hn (fun _ M => some ((x ^^^ nI n), M)) (fun _ => rfl) ?_
  exact zz_A.pure _
theorem zz_c3_6_6 {n : Nat} (hn : n < 50) (d dep : Nat) (x : Int32) (hd : dep + 4 ≤ 41) : zz_A7 n 6 (f_X0_does (d + 8) (nI 3) (nI 6) (nI n) x (nI dep)) ((((x + nI n) * 2) * 2) - (1 ^^^ nI n)) [2, 10, 70, 1, 11] := by
  refine zz_doesR (at0 := 0) (num := 2) (up := (-1)) (fun _ => rfl) (by decide) (by decide) rfl rfl (by omega) ?_
  refine zz_playsR (d := d + 6) hn (fun x1 M => gx_bI (f_X0_does (d + 6) (nI 1) x1 (nI n) x (nI (dep + 1)) M) (fun y M2 => gx_bI (f_X0_does (d + 6) (nI 2) x1 (nI n) 1 (nI (dep + 1)) M2) (fun y2 M3 => some ((y - y2), M3)))) (fun _ => rfl) ?_
  exact zz_A.bind (by decide) (by omega) (zz_c1_6_6 hn (d + 0) (dep + 1) x (by omega)) (zz_A.map (fun y2 => ((((x + nI n) * 2) * 2) - y2)) (zz_c2_6_6 hn (d + 4) (dep + 1) 1 (by omega)))
theorem zz_c0_0_7 {n : Nat} (hn : n < 50) (d dep : Nat) (x : Int32) (hd : dep + 1 ≤ 41) : zz_A7 n 7 (f_X0_does (d + 2) (nI 0) (nI 0) (nI n) x (nI dep)) (x + nI n) [1] := by
  refine zz_doesR (at0 := 0) (num := 1) (up := (-1)) (fun _ => rfl) (by decide) (by decide) rfl rfl (by omega) ?_
  refine zz_playsR (d := d) hn (fun _ M => some ((x + nI n), M)) (fun _ => rfl) ?_
  exact zz_A.pure _
theorem zz_c0_6_7 {n : Nat} (hn : n < 50) (d dep : Nat) (x : Int32) (hd : dep + 2 ≤ 41) : zz_A7 n 7 (f_X0_does (d + 4) (nI 0) (nI 6) (nI n) x (nI dep)) ((x + nI n) * 2) [70, 1] := by
  refine zz_doesR (at0 := 6) (num := 70) (up := nI 0) (fun _ => rfl) (by decide) (by decide) rfl rfl (by omega) ?_
  refine zz_playsR (d := d + 2) hn (fun x1 M => gx_bI (f_X0_does (d + 2) (nI 0) (nI 0) (nI n) x (nI (dep + 1)) M) (fun y M2 => some ((y * 2), M2))) (fun _ => rfl) ?_
  exact zz_A.map (fun y => (y * 2)) (zz_c0_0_7 hn (d + 0) (dep + 1) x (by omega))
theorem zz_c0_7_7 {n : Nat} (hn : n < 50) (d dep : Nat) (x : Int32) (hd : dep + 3 ≤ 41) : zz_A7 n 7 (f_X0_does (d + 6) (nI 0) (nI 7) (nI n) x (nI dep)) (((x + nI n) * 2) - 1) [81, 70, 1] := by
  refine zz_doesR (at0 := 7) (num := 81) (up := nI 6) (fun _ => rfl) (by decide) (by decide) rfl rfl (by omega) ?_
  refine zz_playsR (d := d + 4) hn (fun x1 M => gx_bI (f_X0_does (d + 4) (nI 0) (nI 6) (nI n) x (nI (dep + 1)) M) (fun y M2 => some ((y - 1), M2))) (fun _ => rfl) ?_
  exact zz_A.map (fun y => (y - 1)) (zz_c0_6_7 hn (d + 0) (dep + 1) x (by omega))
theorem zz_c1_6_7 {n : Nat} (hn : n < 50) (d dep : Nat) (x : Int32) (hd : dep + 4 ≤ 41) : zz_A7 n 7 (f_X0_does (d + 8) (nI 1) (nI 6) (nI n) x (nI dep)) ((((x + nI n) * 2) - 1) * 2) [10, 81, 70, 1] := by
  refine zz_doesR (at0 := 0) (num := 10) (up := (-1)) (fun _ => rfl) (by decide) (by decide) rfl rfl (by omega) ?_
  refine zz_playsR (d := d + 6) hn (fun x1 M => gx_bI (f_X0_does (d + 6) (nI 0) x1 (nI n) x (nI (dep + 1)) M) (fun y M2 => some ((y * 2), M2))) (fun _ => rfl) ?_
  exact zz_A.map (fun y => (y * 2)) (zz_c0_7_7 hn (d + 0) (dep + 1) x (by omega))
theorem zz_c2_7_7 {n : Nat} (hn : n < 50) (d dep : Nat) (x : Int32) (hd : dep + 1 ≤ 41) : zz_A7 n 7 (f_X0_does (d + 2) (nI 2) (nI 7) (nI n) x (nI dep)) (x ^^^ nI n) [11] := by
  refine zz_doesR (at0 := 0) (num := 11) (up := (-1)) (fun _ => rfl) (by decide) (by decide) rfl rfl (by omega) ?_
  refine zz_playsR (d := d) hn (fun _ M => some ((x ^^^ nI n), M)) (fun _ => rfl) ?_
  exact zz_A.pure _
theorem zz_c1_7_7 {n : Nat} (hn : n < 50) (d dep : Nat) (x : Int32) (hd : dep + 5 ≤ 41) : zz_A7 n 7 (f_X0_does (d + 10) (nI 1) (nI 7) (nI n) x (nI dep)) (((((x + nI n) * 2) - 1) * 2) + (2 ^^^ nI n)) [80, 10, 81, 70, 1, 11] := by
  refine zz_doesR (at0 := 7) (num := 80) (up := nI 6) (fun _ => rfl) (by decide) (by decide) rfl rfl (by omega) ?_
  refine zz_playsR (d := d + 8) hn (fun x1 M => gx_bI (f_X0_does (d + 8) (nI 1) (nI 6) (nI n) x (nI (dep + 1)) M) (fun y M2 => gx_bI (f_X0_does (d + 8) (nI 2) x1 (nI n) 2 (nI (dep + 1)) M2) (fun y2 M3 => some ((y + y2), M3)))) (fun _ => rfl) ?_
  exact zz_A.bind (by decide) (by omega) (zz_c1_6_7 hn (d + 0) (dep + 1) x (by omega)) (zz_A.map (fun y2 => (((((x + nI n) * 2) - 1) * 2) + y2)) (zz_c2_7_7 hn (d + 6) (dep + 1) 2 (by omega)))
theorem zz_c3_7_7 {n : Nat} (hn : n < 50) (d dep : Nat) (x : Int32) (hd : dep + 6 ≤ 41) : zz_A7 n 7 (f_X0_does (d + 12) (nI 3) (nI 7) (nI n) x (nI dep)) ((((((x + nI n) * 2) - 1) * 2) + (2 ^^^ nI n)) - (1 ^^^ nI n)) [2, 80, 10, 81, 70, 1, 11, 11] := by
  refine zz_doesR (at0 := 0) (num := 2) (up := (-1)) (fun _ => rfl) (by decide) (by decide) rfl rfl (by omega) ?_
  refine zz_playsR (d := d + 10) hn (fun x1 M => gx_bI (f_X0_does (d + 10) (nI 1) x1 (nI n) x (nI (dep + 1)) M) (fun y M2 => gx_bI (f_X0_does (d + 10) (nI 2) x1 (nI n) 1 (nI (dep + 1)) M2) (fun y2 M3 => some ((y - y2), M3)))) (fun _ => rfl) ?_
  exact zz_A.bind (by decide) (by omega) (zz_c1_7_7 hn (d + 0) (dep + 1) x (by omega)) (zz_A.map (fun y2 => ((((((x + nI n) * 2) - 1) * 2) + (2 ^^^ nI n)) - y2)) (zz_c2_7_7 hn (d + 8) (dep + 1) 1 (by omega)))
theorem zz_m_plainFalls_0 {n : Nat} (hn : n < 50) (x : Int32) : zz_A8 n 0 (f_X8_plainFalls (nI n) x) (x + nI n) [1] := by
  exact zz_A.ran (zz_A.pure _)
theorem zz_m_falling_0 {n : Nat} (hn : n < 50) (x : Int32) : zz_A8 n 0 (f_X8_falling (nI n) x) (x + nI n) [1] := by
  intro M c a b q
  have e : f_X8_falling (nI n) x M = gx_bI (f_X8_plainFalls (nI n) x M) (fun y M2 => some (y, M2)) := by
    unfold f_X8_falling
    simp only [zz_gi hn (show 50 < 2147483648 by decide), zz_cl (show n < 2147483648 by omega), a]
    rfl
  have h : zz_A8 n 0 (fun M => gx_bI (f_X8_plainFalls (nI n) x M) (fun y M2 => some (y, M2))) (x + nI n) [1] := zz_A.map (fun y => y) (zz_m_plainFalls_0 hn x)
  rw [e]
  exact h M c a b q
theorem zz_m_plainRuns_0 {n : Nat} (hn : n < 50) (x : Int32) : zz_A8 n 0 (f_X8_plainRuns (nI n) x) ((x + nI n) * 2) [10, 1] := by
  exact zz_A.ran (zz_A.map (fun y => (y * 2)) (zz_m_falling_0 hn x))
theorem zz_m_running_0 {n : Nat} (hn : n < 50) (x : Int32) : zz_A8 n 0 (f_X8_running (nI n) x) ((x + nI n) * 2) [10, 1] := by
  intro M c a b q
  have e : f_X8_running (nI n) x M = gx_bI (f_X8_plainRuns (nI n) x M) (fun y M2 => some (y, M2)) := by
    unfold f_X8_running
    simp only [zz_gi hn (show 50 < 2147483648 by decide), zz_cl (show n < 2147483648 by omega), a]
    rfl
  have h : zz_A8 n 0 (fun M => gx_bI (f_X8_plainRuns (nI n) x M) (fun y M2 => some (y, M2))) ((x + nI n) * 2) [10, 1] := zz_A.map (fun y => y) (zz_m_plainRuns_0 hn x)
  rw [e]
  exact h M c a b q
theorem zz_m_plainThinks_0 {n : Nat} (hn : n < 50) (x : Int32) : zz_A8 n 0 (f_X8_plainThinks (nI n) x) (x ^^^ nI n) [11] := by
  exact zz_A.ran (zz_A.pure _)
theorem zz_m_thinking_0 {n : Nat} (hn : n < 50) (x : Int32) : zz_A8 n 0 (f_X8_thinking (nI n) x) (x ^^^ nI n) [11] := by
  intro M c a b q
  have e : f_X8_thinking (nI n) x M = gx_bI (f_X8_plainThinks (nI n) x M) (fun y M2 => some (y, M2)) := by
    unfold f_X8_thinking
    simp only [zz_gi hn (show 50 < 2147483648 by decide), zz_cl (show n < 2147483648 by omega), a]
    rfl
  have h : zz_A8 n 0 (fun M => gx_bI (f_X8_plainThinks (nI n) x M) (fun y M2 => some (y, M2))) (x ^^^ nI n) [11] := zz_A.map (fun y => y) (zz_m_plainThinks_0 hn x)
  rw [e]
  exact h M c a b q
theorem zz_m_plainTells_0 {n : Nat} (hn : n < 50) (x : Int32) : zz_A8 n 0 (f_X8_plainTells (nI n) x) (((x + nI n) * 2) - (1 ^^^ nI n)) [2, 10, 1, 11] := by
  exact zz_A.ran (zz_A.bind (by decide) (by omega) (zz_m_running_0 hn x) (zz_A.map (fun y => ((x + nI n) * 2) - y) (zz_m_thinking_0 hn 1)))
theorem zz_m_telling_0 {n : Nat} (hn : n < 50) (x : Int32) : zz_A8 n 0 (f_X8_telling (nI n) x) (((x + nI n) * 2) - (1 ^^^ nI n)) [2, 10, 1, 11] := by
  intro M c a b q
  have e : f_X8_telling (nI n) x M = gx_bI (f_X8_plainTells (nI n) x M) (fun y M2 => some (y, M2)) := by
    unfold f_X8_telling
    simp only [zz_gi hn (show 50 < 2147483648 by decide), zz_cl (show n < 2147483648 by omega), a]
    rfl
  have h : zz_A8 n 0 (fun M => gx_bI (f_X8_plainTells (nI n) x M) (fun y M2 => some (y, M2))) (((x + nI n) * 2) - (1 ^^^ nI n)) [2, 10, 1, 11] := zz_A.map (fun y => y) (zz_m_plainTells_0 hn x)
  rw [e]
  exact h M c a b q
theorem zz_m_plainFalls_1 {n : Nat} (hn : n < 50) (x : Int32) : zz_A8 n 1 (f_X8_plainFalls (nI n) x) (x + nI n) [1] := by
  exact zz_A.ran (zz_A.pure _)
theorem zz_m_falling_1 {n : Nat} (hn : n < 50) (x : Int32) : zz_A8 n 1 (f_X8_falling (nI n) x) ((x + nI n) + 3) [20, 1] := by
  intro M c a b q
  have e : f_X8_falling (nI n) x M = gx_bP (f_X8_ran 20 M) (fun M1 => gx_bI (f_X8_plainFalls (nI n) x M1) (fun y M2 => some ((y + 3), M2))) := by
    unfold f_X8_falling
    simp only [zz_gi hn (show 50 < 2147483648 by decide), zz_cl (show n < 2147483648 by omega), a]
    rfl
  have h : zz_A8 n 1 (fun M => gx_bP (f_X8_ran 20 M) (fun M1 => gx_bI (f_X8_plainFalls (nI n) x M1) (fun y M2 => some ((y + 3), M2)))) ((x + nI n) + 3) [20, 1] := zz_A.ran (zz_A.map (fun y => (y + 3)) (zz_m_plainFalls_1 hn x))
  rw [e]
  exact h M c a b q
theorem zz_m_plainRuns_1 {n : Nat} (hn : n < 50) (x : Int32) : zz_A8 n 1 (f_X8_plainRuns (nI n) x) (((x + nI n) + 3) * 2) [10, 20, 1] := by
  exact zz_A.ran (zz_A.map (fun y => (y * 2)) (zz_m_falling_1 hn x))
theorem zz_m_running_1 {n : Nat} (hn : n < 50) (x : Int32) : zz_A8 n 1 (f_X8_running (nI n) x) (((x + nI n) + 3) * 2) [10, 20, 1] := by
  intro M c a b q
  have e : f_X8_running (nI n) x M = gx_bI (f_X8_plainRuns (nI n) x M) (fun y M2 => some (y, M2)) := by
    unfold f_X8_running
    simp only [zz_gi hn (show 50 < 2147483648 by decide), zz_cl (show n < 2147483648 by omega), a]
    rfl
  have h : zz_A8 n 1 (fun M => gx_bI (f_X8_plainRuns (nI n) x M) (fun y M2 => some (y, M2))) (((x + nI n) + 3) * 2) [10, 20, 1] := zz_A.map (fun y => y) (zz_m_plainRuns_1 hn x)
  rw [e]
  exact h M c a b q
theorem zz_m_plainThinks_1 {n : Nat} (hn : n < 50) (x : Int32) : zz_A8 n 1 (f_X8_plainThinks (nI n) x) (x ^^^ nI n) [11] := by
  exact zz_A.ran (zz_A.pure _)
theorem zz_m_thinking_1 {n : Nat} (hn : n < 50) (x : Int32) : zz_A8 n 1 (f_X8_thinking (nI n) x) (x ^^^ nI n) [11] := by
  intro M c a b q
  have e : f_X8_thinking (nI n) x M = gx_bI (f_X8_plainThinks (nI n) x M) (fun y M2 => some (y, M2)) := by
    unfold f_X8_thinking
    simp only [zz_gi hn (show 50 < 2147483648 by decide), zz_cl (show n < 2147483648 by omega), a]
    rfl
  have h : zz_A8 n 1 (fun M => gx_bI (f_X8_plainThinks (nI n) x M) (fun y M2 => some (y, M2))) (x ^^^ nI n) [11] := zz_A.map (fun y => y) (zz_m_plainThinks_1 hn x)
  rw [e]
  exact h M c a b q
theorem zz_m_plainTells_1 {n : Nat} (hn : n < 50) (x : Int32) : zz_A8 n 1 (f_X8_plainTells (nI n) x) ((((x + nI n) + 3) * 2) - (1 ^^^ nI n)) [2, 10, 20, 1, 11] := by
  exact zz_A.ran (zz_A.bind (by decide) (by omega) (zz_m_running_1 hn x) (zz_A.map (fun y => (((x + nI n) + 3) * 2) - y) (zz_m_thinking_1 hn 1)))
theorem zz_m_telling_1 {n : Nat} (hn : n < 50) (x : Int32) : zz_A8 n 1 (f_X8_telling (nI n) x) ((((x + nI n) + 3) * 2) - (1 ^^^ nI n)) [2, 10, 20, 1, 11] := by
  intro M c a b q
  have e : f_X8_telling (nI n) x M = gx_bI (f_X8_plainTells (nI n) x M) (fun y M2 => some (y, M2)) := by
    unfold f_X8_telling
    simp only [zz_gi hn (show 50 < 2147483648 by decide), zz_cl (show n < 2147483648 by omega), a]
    rfl
  have h : zz_A8 n 1 (fun M => gx_bI (f_X8_plainTells (nI n) x M) (fun y M2 => some (y, M2))) ((((x + nI n) + 3) * 2) - (1 ^^^ nI n)) [2, 10, 20, 1, 11] := zz_A.map (fun y => y) (zz_m_plainTells_1 hn x)
  rw [e]
  exact h M c a b q
theorem zz_m_plainFalls_2 {n : Nat} (hn : n < 50) (x : Int32) : zz_A8 n 2 (f_X8_plainFalls (nI n) x) (x + nI n) [1] := by
  exact zz_A.ran (zz_A.pure _)
theorem zz_m_falling_2 {n : Nat} (hn : n < 50) (x : Int32) : zz_A8 n 2 (f_X8_falling (nI n) x) (x + nI n) [1] := by
  intro M c a b q
  have e : f_X8_falling (nI n) x M = gx_bI (f_X8_plainFalls (nI n) x M) (fun y M2 => some (y, M2)) := by
    unfold f_X8_falling
    simp only [zz_gi hn (show 50 < 2147483648 by decide), zz_cl (show n < 2147483648 by omega), a]
    rfl
  have h : zz_A8 n 2 (fun M => gx_bI (f_X8_plainFalls (nI n) x M) (fun y M2 => some (y, M2))) (x + nI n) [1] := zz_A.map (fun y => y) (zz_m_plainFalls_2 hn x)
  rw [e]
  exact h M c a b q
theorem zz_m_plainRuns_2 {n : Nat} (hn : n < 50) (x : Int32) : zz_A8 n 2 (f_X8_plainRuns (nI n) x) ((x + nI n) * 2) [10, 1] := by
  exact zz_A.ran (zz_A.map (fun y => (y * 2)) (zz_m_falling_2 hn x))
theorem zz_m_basinRuns_2 {n : Nat} (hn : n < 50) (x : Int32) : zz_A8 n 2 (f_X8_basinRuns (nI n) x) (-((x + nI n) * 2)) [30, 10, 1] := by
  exact zz_A.ran (zz_A.map (fun y => (-y)) (zz_m_plainRuns_2 hn x))
theorem zz_m_running_2 {n : Nat} (hn : n < 50) (x : Int32) : zz_A8 n 2 (f_X8_running (nI n) x) (-((x + nI n) * 2)) [30, 10, 1] := by
  intro M c a b q
  have e : f_X8_running (nI n) x M = gx_bI (f_X8_basinRuns (nI n) x M) (fun y M2 => some (y, M2)) := by
    unfold f_X8_running
    simp only [zz_gi hn (show 50 < 2147483648 by decide), zz_cl (show n < 2147483648 by omega), a]
    rfl
  have h : zz_A8 n 2 (fun M => gx_bI (f_X8_basinRuns (nI n) x M) (fun y M2 => some (y, M2))) (-((x + nI n) * 2)) [30, 10, 1] := zz_A.map (fun y => y) (zz_m_basinRuns_2 hn x)
  rw [e]
  exact h M c a b q
theorem zz_m_plainThinks_2 {n : Nat} (hn : n < 50) (x : Int32) : zz_A8 n 2 (f_X8_plainThinks (nI n) x) (x ^^^ nI n) [11] := by
  exact zz_A.ran (zz_A.pure _)
theorem zz_m_thinking_2 {n : Nat} (hn : n < 50) (x : Int32) : zz_A8 n 2 (f_X8_thinking (nI n) x) (x ^^^ nI n) [11] := by
  intro M c a b q
  have e : f_X8_thinking (nI n) x M = gx_bI (f_X8_plainThinks (nI n) x M) (fun y M2 => some (y, M2)) := by
    unfold f_X8_thinking
    simp only [zz_gi hn (show 50 < 2147483648 by decide), zz_cl (show n < 2147483648 by omega), a]
    rfl
  have h : zz_A8 n 2 (fun M => gx_bI (f_X8_plainThinks (nI n) x M) (fun y M2 => some (y, M2))) (x ^^^ nI n) [11] := zz_A.map (fun y => y) (zz_m_plainThinks_2 hn x)
  rw [e]
  exact h M c a b q
theorem zz_m_plainTells_2 {n : Nat} (hn : n < 50) (x : Int32) : zz_A8 n 2 (f_X8_plainTells (nI n) x) ((-((x + nI n) * 2)) - (1 ^^^ nI n)) [2, 30, 10, 1, 11] := by
  exact zz_A.ran (zz_A.bind (by decide) (by omega) (zz_m_running_2 hn x) (zz_A.map (fun y => (-((x + nI n) * 2)) - y) (zz_m_thinking_2 hn 1)))
theorem zz_m_telling_2 {n : Nat} (hn : n < 50) (x : Int32) : zz_A8 n 2 (f_X8_telling (nI n) x) ((-((x + nI n) * 2)) - (1 ^^^ nI n)) [2, 30, 10, 1, 11] := by
  intro M c a b q
  have e : f_X8_telling (nI n) x M = gx_bI (f_X8_plainTells (nI n) x M) (fun y M2 => some (y, M2)) := by
    unfold f_X8_telling
    simp only [zz_gi hn (show 50 < 2147483648 by decide), zz_cl (show n < 2147483648 by omega), a]
    rfl
  have h : zz_A8 n 2 (fun M => gx_bI (f_X8_plainTells (nI n) x M) (fun y M2 => some (y, M2))) ((-((x + nI n) * 2)) - (1 ^^^ nI n)) [2, 30, 10, 1, 11] := zz_A.map (fun y => y) (zz_m_plainTells_2 hn x)
  rw [e]
  exact h M c a b q
theorem zz_m_plainFalls_3 {n : Nat} (hn : n < 50) (x : Int32) : zz_A8 n 3 (f_X8_plainFalls (nI n) x) (x + nI n) [1] := by
  exact zz_A.ran (zz_A.pure _)
theorem zz_m_falling_3 {n : Nat} (hn : n < 50) (x : Int32) : zz_A8 n 3 (f_X8_falling (nI n) x) (x + nI n) [1] := by
  intro M c a b q
  have e : f_X8_falling (nI n) x M = gx_bI (f_X8_plainFalls (nI n) x M) (fun y M2 => some (y, M2)) := by
    unfold f_X8_falling
    simp only [zz_gi hn (show 50 < 2147483648 by decide), zz_cl (show n < 2147483648 by omega), a]
    rfl
  have h : zz_A8 n 3 (fun M => gx_bI (f_X8_plainFalls (nI n) x M) (fun y M2 => some (y, M2))) (x + nI n) [1] := zz_A.map (fun y => y) (zz_m_plainFalls_3 hn x)
  rw [e]
  exact h M c a b q
theorem zz_m_plainRuns_3 {n : Nat} (hn : n < 50) (x : Int32) : zz_A8 n 3 (f_X8_plainRuns (nI n) x) ((x + nI n) * 2) [10, 1] := by
  exact zz_A.ran (zz_A.map (fun y => (y * 2)) (zz_m_falling_3 hn x))
theorem zz_m_basinRuns_3 {n : Nat} (hn : n < 50) (x : Int32) : zz_A8 n 3 (f_X8_basinRuns (nI n) x) (-((x + nI n) * 2)) [30, 10, 1] := by
  exact zz_A.ran (zz_A.map (fun y => (-y)) (zz_m_plainRuns_3 hn x))
theorem zz_m_running_3 {n : Nat} (hn : n < 50) (x : Int32) : zz_A8 n 3 (f_X8_running (nI n) x) (-(((x + 1) + nI n) * 2)) [41, 30, 10, 1] := by
  intro M c a b q
  have e : f_X8_running (nI n) x M = gx_bP (f_X8_ran 41 M) (fun M1 => gx_bI (f_X8_basinRuns (nI n) (x + 1) M1) (fun y M2 => some (y, M2))) := by
    unfold f_X8_running
    simp only [zz_gi hn (show 50 < 2147483648 by decide), zz_cl (show n < 2147483648 by omega), a]
    rfl
  have h : zz_A8 n 3 (fun M => gx_bP (f_X8_ran 41 M) (fun M1 => gx_bI (f_X8_basinRuns (nI n) (x + 1) M1) (fun y M2 => some (y, M2)))) (-(((x + 1) + nI n) * 2)) [41, 30, 10, 1] := zz_A.ran (zz_A.map (fun y => y) (zz_m_basinRuns_3 hn (x + 1)))
  rw [e]
  exact h M c a b q
theorem zz_m_plainThinks_3 {n : Nat} (hn : n < 50) (x : Int32) : zz_A8 n 3 (f_X8_plainThinks (nI n) x) (x ^^^ nI n) [11] := by
  exact zz_A.ran (zz_A.pure _)
theorem zz_m_porterThinks_3 {n : Nat} (hn : n < 50) (x : Int32) : zz_A8 n 3 (f_X8_porterThinks (nI n) x) ((x ^^^ nI n) * 3) [40, 11] := by
  exact zz_A.ran (zz_A.map (fun y => (y * 3)) (zz_m_plainThinks_3 hn x))
theorem zz_m_thinking_3 {n : Nat} (hn : n < 50) (x : Int32) : zz_A8 n 3 (f_X8_thinking (nI n) x) ((x ^^^ nI n) * 3) [40, 11] := by
  intro M c a b q
  have e : f_X8_thinking (nI n) x M = gx_bI (f_X8_porterThinks (nI n) x M) (fun y M2 => some (y, M2)) := by
    unfold f_X8_thinking
    simp only [zz_gi hn (show 50 < 2147483648 by decide), zz_cl (show n < 2147483648 by omega), a]
    rfl
  have h : zz_A8 n 3 (fun M => gx_bI (f_X8_porterThinks (nI n) x M) (fun y M2 => some (y, M2))) ((x ^^^ nI n) * 3) [40, 11] := zz_A.map (fun y => y) (zz_m_porterThinks_3 hn x)
  rw [e]
  exact h M c a b q
theorem zz_m_plainTells_3 {n : Nat} (hn : n < 50) (x : Int32) : zz_A8 n 3 (f_X8_plainTells (nI n) x) ((-(((x + 1) + nI n) * 2)) - ((1 ^^^ nI n) * 3)) [2, 41, 30, 10, 1, 40, 11] := by
  exact zz_A.ran (zz_A.bind (by decide) (by omega) (zz_m_running_3 hn x) (zz_A.map (fun y => (-(((x + 1) + nI n) * 2)) - y) (zz_m_thinking_3 hn 1)))
theorem zz_m_telling_3 {n : Nat} (hn : n < 50) (x : Int32) : zz_A8 n 3 (f_X8_telling (nI n) x) ((-(((x + 1) + nI n) * 2)) - ((1 ^^^ nI n) * 3)) [2, 41, 30, 10, 1, 40, 11] := by
  intro M c a b q
  have e : f_X8_telling (nI n) x M = gx_bI (f_X8_plainTells (nI n) x M) (fun y M2 => some (y, M2)) := by
    unfold f_X8_telling
    simp only [zz_gi hn (show 50 < 2147483648 by decide), zz_cl (show n < 2147483648 by omega), a]
    rfl
  have h : zz_A8 n 3 (fun M => gx_bI (f_X8_plainTells (nI n) x M) (fun y M2 => some (y, M2))) ((-(((x + 1) + nI n) * 2)) - ((1 ^^^ nI n) * 3)) [2, 41, 30, 10, 1, 40, 11] := zz_A.map (fun y => y) (zz_m_plainTells_3 hn x)
  rw [e]
  exact h M c a b q
theorem zz_m_plainFalls_4 {n : Nat} (hn : n < 50) (x : Int32) : zz_A8 n 4 (f_X8_plainFalls (nI n) x) (x + nI n) [1] := by
  exact zz_A.ran (zz_A.pure _)
theorem zz_m_falling_4 {n : Nat} (hn : n < 50) (x : Int32) : zz_A8 n 4 (f_X8_falling (nI n) x) ((x + nI n) + 3) [20, 1] := by
  intro M c a b q
  have e : f_X8_falling (nI n) x M = gx_bP (f_X8_ran 20 M) (fun M1 => gx_bI (f_X8_plainFalls (nI n) x M1) (fun y M2 => some ((y + 3), M2))) := by
    unfold f_X8_falling
    simp only [zz_gi hn (show 50 < 2147483648 by decide), zz_cl (show n < 2147483648 by omega), a]
    rfl
  have h : zz_A8 n 4 (fun M => gx_bP (f_X8_ran 20 M) (fun M1 => gx_bI (f_X8_plainFalls (nI n) x M1) (fun y M2 => some ((y + 3), M2)))) ((x + nI n) + 3) [20, 1] := zz_A.ran (zz_A.map (fun y => (y + 3)) (zz_m_plainFalls_4 hn x))
  rw [e]
  exact h M c a b q
theorem zz_m_plainRuns_4 {n : Nat} (hn : n < 50) (x : Int32) : zz_A8 n 4 (f_X8_plainRuns (nI n) x) (((x + nI n) + 3) * 2) [10, 20, 1] := by
  exact zz_A.ran (zz_A.map (fun y => (y * 2)) (zz_m_falling_4 hn x))
theorem zz_m_running_4 {n : Nat} (hn : n < 50) (x : Int32) : zz_A8 n 4 (f_X8_running (nI n) x) (((x + nI n) + 3) * 2) [10, 20, 1] := by
  intro M c a b q
  have e : f_X8_running (nI n) x M = gx_bI (f_X8_plainRuns (nI n) x M) (fun y M2 => some (y, M2)) := by
    unfold f_X8_running
    simp only [zz_gi hn (show 50 < 2147483648 by decide), zz_cl (show n < 2147483648 by omega), a]
    rfl
  have h : zz_A8 n 4 (fun M => gx_bI (f_X8_plainRuns (nI n) x M) (fun y M2 => some (y, M2))) (((x + nI n) + 3) * 2) [10, 20, 1] := zz_A.map (fun y => y) (zz_m_plainRuns_4 hn x)
  rw [e]
  exact h M c a b q
theorem zz_m_plainThinks_4 {n : Nat} (hn : n < 50) (x : Int32) : zz_A8 n 4 (f_X8_plainThinks (nI n) x) (x ^^^ nI n) [11] := by
  exact zz_A.ran (zz_A.pure _)
theorem zz_m_thinking_4 {n : Nat} (hn : n < 50) (x : Int32) : zz_A8 n 4 (f_X8_thinking (nI n) x) (x ^^^ nI n) [11] := by
  intro M c a b q
  have e : f_X8_thinking (nI n) x M = gx_bI (f_X8_plainThinks (nI n) x M) (fun y M2 => some (y, M2)) := by
    unfold f_X8_thinking
    simp only [zz_gi hn (show 50 < 2147483648 by decide), zz_cl (show n < 2147483648 by omega), a]
    rfl
  have h : zz_A8 n 4 (fun M => gx_bI (f_X8_plainThinks (nI n) x M) (fun y M2 => some (y, M2))) (x ^^^ nI n) [11] := zz_A.map (fun y => y) (zz_m_plainThinks_4 hn x)
  rw [e]
  exact h M c a b q
theorem zz_m_plainTells_4 {n : Nat} (hn : n < 50) (x : Int32) : zz_A8 n 4 (f_X8_plainTells (nI n) x) ((((x + nI n) + 3) * 2) - (1 ^^^ nI n)) [2, 10, 20, 1, 11] := by
  exact zz_A.ran (zz_A.bind (by decide) (by omega) (zz_m_running_4 hn x) (zz_A.map (fun y => (((x + nI n) + 3) * 2) - y) (zz_m_thinking_4 hn 1)))
theorem zz_m_telling_4 {n : Nat} (hn : n < 50) (x : Int32) : zz_A8 n 4 (f_X8_telling (nI n) x) (((((x + nI n) + 3) * 2) - (1 ^^^ nI n)) ^^^ 5) [50, 2, 10, 20, 1, 11] := by
  intro M c a b q
  have e : f_X8_telling (nI n) x M = gx_bP (f_X8_ran 50 M) (fun M1 => gx_bI (f_X8_plainTells (nI n) x M1) (fun y M2 => some ((y ^^^ 5), M2))) := by
    unfold f_X8_telling
    simp only [zz_gi hn (show 50 < 2147483648 by decide), zz_cl (show n < 2147483648 by omega), a]
    rfl
  have h : zz_A8 n 4 (fun M => gx_bP (f_X8_ran 50 M) (fun M1 => gx_bI (f_X8_plainTells (nI n) x M1) (fun y M2 => some ((y ^^^ 5), M2)))) (((((x + nI n) + 3) * 2) - (1 ^^^ nI n)) ^^^ 5) [50, 2, 10, 20, 1, 11] := zz_A.ran (zz_A.map (fun y => (y ^^^ 5)) (zz_m_plainTells_4 hn x))
  rw [e]
  exact h M c a b q
theorem zz_m_plainFalls_5 {n : Nat} (hn : n < 50) (x : Int32) : zz_A8 n 5 (f_X8_plainFalls (nI n) x) (x + nI n) [1] := by
  exact zz_A.ran (zz_A.pure _)
theorem zz_m_falling_5 {n : Nat} (hn : n < 50) (x : Int32) : zz_A8 n 5 (f_X8_falling (nI n) x) (x + nI n) [1] := by
  intro M c a b q
  have e : f_X8_falling (nI n) x M = gx_bI (f_X8_plainFalls (nI n) x M) (fun y M2 => some (y, M2)) := by
    unfold f_X8_falling
    simp only [zz_gi hn (show 50 < 2147483648 by decide), zz_cl (show n < 2147483648 by omega), a]
    rfl
  have h : zz_A8 n 5 (fun M => gx_bI (f_X8_plainFalls (nI n) x M) (fun y M2 => some (y, M2))) (x + nI n) [1] := zz_A.map (fun y => y) (zz_m_plainFalls_5 hn x)
  rw [e]
  exact h M c a b q
theorem zz_m_plainRuns_5 {n : Nat} (hn : n < 50) (x : Int32) : zz_A8 n 5 (f_X8_plainRuns (nI n) x) ((x + nI n) * 2) [10, 1] := by
  exact zz_A.ran (zz_A.map (fun y => (y * 2)) (zz_m_falling_5 hn x))
theorem zz_m_basinRuns_5 {n : Nat} (hn : n < 50) (x : Int32) : zz_A8 n 5 (f_X8_basinRuns (nI n) x) (-((x + nI n) * 2)) [30, 10, 1] := by
  exact zz_A.ran (zz_A.map (fun y => (-y)) (zz_m_plainRuns_5 hn x))
theorem zz_m_running_5 {n : Nat} (hn : n < 50) (x : Int32) : zz_A8 n 5 (f_X8_running (nI n) x) (-(((x + 1) + nI n) * 2)) [41, 30, 10, 1] := by
  intro M c a b q
  have e : f_X8_running (nI n) x M = gx_bP (f_X8_ran 41 M) (fun M1 => gx_bI (f_X8_basinRuns (nI n) (x + 1) M1) (fun y M2 => some (y, M2))) := by
    unfold f_X8_running
    simp only [zz_gi hn (show 50 < 2147483648 by decide), zz_cl (show n < 2147483648 by omega), a]
    rfl
  have h : zz_A8 n 5 (fun M => gx_bP (f_X8_ran 41 M) (fun M1 => gx_bI (f_X8_basinRuns (nI n) (x + 1) M1) (fun y M2 => some (y, M2)))) (-(((x + 1) + nI n) * 2)) [41, 30, 10, 1] := zz_A.ran (zz_A.map (fun y => y) (zz_m_basinRuns_5 hn (x + 1)))
  rw [e]
  exact h M c a b q
theorem zz_m_plainThinks_5 {n : Nat} (hn : n < 50) (x : Int32) : zz_A8 n 5 (f_X8_plainThinks (nI n) x) (x ^^^ nI n) [11] := by
  exact zz_A.ran (zz_A.pure _)
theorem zz_m_porterThinks_5 {n : Nat} (hn : n < 50) (x : Int32) : zz_A8 n 5 (f_X8_porterThinks (nI n) x) ((x ^^^ nI n) * 3) [40, 11] := by
  exact zz_A.ran (zz_A.map (fun y => (y * 3)) (zz_m_plainThinks_5 hn x))
theorem zz_m_thinking_5 {n : Nat} (hn : n < 50) (x : Int32) : zz_A8 n 5 (f_X8_thinking (nI n) x) (((x ^^^ nI n) * 3) - (2 + nI n)) [60, 40, 11, 1] := by
  intro M c a b q
  have e : f_X8_thinking (nI n) x M = gx_bP (f_X8_ran 60 M) (fun M1 => gx_bI (f_X8_porterThinks (nI n) x M1) (fun y M2 => gx_bI (f_X8_falling (nI n) 2 M2) (fun y2 M3 => some ((y - y2), M3)))) := by
    unfold f_X8_thinking
    simp only [zz_gi hn (show 50 < 2147483648 by decide), zz_cl (show n < 2147483648 by omega), a]
    rfl
  have h : zz_A8 n 5 (fun M => gx_bP (f_X8_ran 60 M) (fun M1 => gx_bI (f_X8_porterThinks (nI n) x M1) (fun y M2 => gx_bI (f_X8_falling (nI n) 2 M2) (fun y2 M3 => some ((y - y2), M3))))) (((x ^^^ nI n) * 3) - (2 + nI n)) [60, 40, 11, 1] := zz_A.ran (zz_A.bind (by decide) (by omega) (zz_m_porterThinks_5 hn x) (zz_A.map (fun y2 => (((x ^^^ nI n) * 3) - y2)) (zz_m_falling_5 hn 2)))
  rw [e]
  exact h M c a b q
theorem zz_m_plainTells_5 {n : Nat} (hn : n < 50) (x : Int32) : zz_A8 n 5 (f_X8_plainTells (nI n) x) ((-(((x + 1) + nI n) * 2)) - (((1 ^^^ nI n) * 3) - (2 + nI n))) [2, 41, 30, 10, 1, 60, 40, 11, 1] := by
  exact zz_A.ran (zz_A.bind (by decide) (by omega) (zz_m_running_5 hn x) (zz_A.map (fun y => (-(((x + 1) + nI n) * 2)) - y) (zz_m_thinking_5 hn 1)))
theorem zz_m_telling_5 {n : Nat} (hn : n < 50) (x : Int32) : zz_A8 n 5 (f_X8_telling (nI n) x) (((-(((x + 1) + nI n) * 2)) - (((1 ^^^ nI n) * 3) - (2 + nI n))) + 1) [61, 2, 41, 30, 10, 1, 60, 40, 11, 1] := by
  intro M c a b q
  have e : f_X8_telling (nI n) x M = gx_bP (f_X8_ran 61 M) (fun M1 => gx_bI (f_X8_plainTells (nI n) x M1) (fun y M2 => some ((y + 1), M2))) := by
    unfold f_X8_telling
    simp only [zz_gi hn (show 50 < 2147483648 by decide), zz_cl (show n < 2147483648 by omega), a]
    rfl
  have h : zz_A8 n 5 (fun M => gx_bP (f_X8_ran 61 M) (fun M1 => gx_bI (f_X8_plainTells (nI n) x M1) (fun y M2 => some ((y + 1), M2)))) (((-(((x + 1) + nI n) * 2)) - (((1 ^^^ nI n) * 3) - (2 + nI n))) + 1) [61, 2, 41, 30, 10, 1, 60, 40, 11, 1] := zz_A.ran (zz_A.map (fun y => (y + 1)) (zz_m_plainTells_5 hn x))
  rw [e]
  exact h M c a b q
theorem zz_m_plainFalls_6 {n : Nat} (hn : n < 50) (x : Int32) : zz_A8 n 6 (f_X8_plainFalls (nI n) x) (x + nI n) [1] := by
  exact zz_A.ran (zz_A.pure _)
theorem zz_m_lampFalls_6 {n : Nat} (hn : n < 50) (x : Int32) : zz_A8 n 6 (f_X8_lampFalls (nI n) x) ((x + nI n) * 2) [70, 1] := by
  exact zz_A.ran (zz_A.map (fun y => (y * 2)) (zz_m_plainFalls_6 hn x))
theorem zz_m_falling_6 {n : Nat} (hn : n < 50) (x : Int32) : zz_A8 n 6 (f_X8_falling (nI n) x) ((x + nI n) * 2) [70, 1] := by
  intro M c a b q
  have e : f_X8_falling (nI n) x M = gx_bI (f_X8_lampFalls (nI n) x M) (fun y M2 => some (y, M2)) := by
    unfold f_X8_falling
    simp only [zz_gi hn (show 50 < 2147483648 by decide), zz_cl (show n < 2147483648 by omega), a]
    rfl
  have h : zz_A8 n 6 (fun M => gx_bI (f_X8_lampFalls (nI n) x M) (fun y M2 => some (y, M2))) ((x + nI n) * 2) [70, 1] := zz_A.map (fun y => y) (zz_m_lampFalls_6 hn x)
  rw [e]
  exact h M c a b q
theorem zz_m_plainRuns_6 {n : Nat} (hn : n < 50) (x : Int32) : zz_A8 n 6 (f_X8_plainRuns (nI n) x) (((x + nI n) * 2) * 2) [10, 70, 1] := by
  exact zz_A.ran (zz_A.map (fun y => (y * 2)) (zz_m_falling_6 hn x))
theorem zz_m_running_6 {n : Nat} (hn : n < 50) (x : Int32) : zz_A8 n 6 (f_X8_running (nI n) x) (((x + nI n) * 2) * 2) [10, 70, 1] := by
  intro M c a b q
  have e : f_X8_running (nI n) x M = gx_bI (f_X8_plainRuns (nI n) x M) (fun y M2 => some (y, M2)) := by
    unfold f_X8_running
    simp only [zz_gi hn (show 50 < 2147483648 by decide), zz_cl (show n < 2147483648 by omega), a]
    rfl
  have h : zz_A8 n 6 (fun M => gx_bI (f_X8_plainRuns (nI n) x M) (fun y M2 => some (y, M2))) (((x + nI n) * 2) * 2) [10, 70, 1] := zz_A.map (fun y => y) (zz_m_plainRuns_6 hn x)
  rw [e]
  exact h M c a b q
theorem zz_m_plainThinks_6 {n : Nat} (hn : n < 50) (x : Int32) : zz_A8 n 6 (f_X8_plainThinks (nI n) x) (x ^^^ nI n) [11] := by
  exact zz_A.ran (zz_A.pure _)
theorem zz_m_thinking_6 {n : Nat} (hn : n < 50) (x : Int32) : zz_A8 n 6 (f_X8_thinking (nI n) x) (x ^^^ nI n) [11] := by
  intro M c a b q
  have e : f_X8_thinking (nI n) x M = gx_bI (f_X8_plainThinks (nI n) x M) (fun y M2 => some (y, M2)) := by
    unfold f_X8_thinking
    simp only [zz_gi hn (show 50 < 2147483648 by decide), zz_cl (show n < 2147483648 by omega), a]
    rfl
  have h : zz_A8 n 6 (fun M => gx_bI (f_X8_plainThinks (nI n) x M) (fun y M2 => some (y, M2))) (x ^^^ nI n) [11] := zz_A.map (fun y => y) (zz_m_plainThinks_6 hn x)
  rw [e]
  exact h M c a b q
theorem zz_m_plainTells_6 {n : Nat} (hn : n < 50) (x : Int32) : zz_A8 n 6 (f_X8_plainTells (nI n) x) ((((x + nI n) * 2) * 2) - (1 ^^^ nI n)) [2, 10, 70, 1, 11] := by
  exact zz_A.ran (zz_A.bind (by decide) (by omega) (zz_m_running_6 hn x) (zz_A.map (fun y => (((x + nI n) * 2) * 2) - y) (zz_m_thinking_6 hn 1)))
theorem zz_m_telling_6 {n : Nat} (hn : n < 50) (x : Int32) : zz_A8 n 6 (f_X8_telling (nI n) x) ((((x + nI n) * 2) * 2) - (1 ^^^ nI n)) [2, 10, 70, 1, 11] := by
  intro M c a b q
  have e : f_X8_telling (nI n) x M = gx_bI (f_X8_plainTells (nI n) x M) (fun y M2 => some (y, M2)) := by
    unfold f_X8_telling
    simp only [zz_gi hn (show 50 < 2147483648 by decide), zz_cl (show n < 2147483648 by omega), a]
    rfl
  have h : zz_A8 n 6 (fun M => gx_bI (f_X8_plainTells (nI n) x M) (fun y M2 => some (y, M2))) ((((x + nI n) * 2) * 2) - (1 ^^^ nI n)) [2, 10, 70, 1, 11] := zz_A.map (fun y => y) (zz_m_plainTells_6 hn x)
  rw [e]
  exact h M c a b q
theorem zz_m_plainFalls_7 {n : Nat} (hn : n < 50) (x : Int32) : zz_A8 n 7 (f_X8_plainFalls (nI n) x) (x + nI n) [1] := by
  exact zz_A.ran (zz_A.pure _)
theorem zz_m_lampFalls_7 {n : Nat} (hn : n < 50) (x : Int32) : zz_A8 n 7 (f_X8_lampFalls (nI n) x) ((x + nI n) * 2) [70, 1] := by
  exact zz_A.ran (zz_A.map (fun y => (y * 2)) (zz_m_plainFalls_7 hn x))
theorem zz_m_falling_7 {n : Nat} (hn : n < 50) (x : Int32) : zz_A8 n 7 (f_X8_falling (nI n) x) (((x + nI n) * 2) - 1) [81, 70, 1] := by
  intro M c a b q
  have e : f_X8_falling (nI n) x M = gx_bP (f_X8_ran 81 M) (fun M1 => gx_bI (f_X8_lampFalls (nI n) x M1) (fun y M2 => some ((y - 1), M2))) := by
    unfold f_X8_falling
    simp only [zz_gi hn (show 50 < 2147483648 by decide), zz_cl (show n < 2147483648 by omega), a]
    rfl
  have h : zz_A8 n 7 (fun M => gx_bP (f_X8_ran 81 M) (fun M1 => gx_bI (f_X8_lampFalls (nI n) x M1) (fun y M2 => some ((y - 1), M2)))) (((x + nI n) * 2) - 1) [81, 70, 1] := zz_A.ran (zz_A.map (fun y => (y - 1)) (zz_m_lampFalls_7 hn x))
  rw [e]
  exact h M c a b q
theorem zz_m_plainRuns_7 {n : Nat} (hn : n < 50) (x : Int32) : zz_A8 n 7 (f_X8_plainRuns (nI n) x) ((((x + nI n) * 2) - 1) * 2) [10, 81, 70, 1] := by
  exact zz_A.ran (zz_A.map (fun y => (y * 2)) (zz_m_falling_7 hn x))
theorem zz_m_plainThinks_7 {n : Nat} (hn : n < 50) (x : Int32) : zz_A8 n 7 (f_X8_plainThinks (nI n) x) (x ^^^ nI n) [11] := by
  exact zz_A.ran (zz_A.pure _)
theorem zz_m_thinking_7 {n : Nat} (hn : n < 50) (x : Int32) : zz_A8 n 7 (f_X8_thinking (nI n) x) (x ^^^ nI n) [11] := by
  intro M c a b q
  have e : f_X8_thinking (nI n) x M = gx_bI (f_X8_plainThinks (nI n) x M) (fun y M2 => some (y, M2)) := by
    unfold f_X8_thinking
    simp only [zz_gi hn (show 50 < 2147483648 by decide), zz_cl (show n < 2147483648 by omega), a]
    rfl
  have h : zz_A8 n 7 (fun M => gx_bI (f_X8_plainThinks (nI n) x M) (fun y M2 => some (y, M2))) (x ^^^ nI n) [11] := zz_A.map (fun y => y) (zz_m_plainThinks_7 hn x)
  rw [e]
  exact h M c a b q
theorem zz_m_running_7 {n : Nat} (hn : n < 50) (x : Int32) : zz_A8 n 7 (f_X8_running (nI n) x) (((((x + nI n) * 2) - 1) * 2) + (2 ^^^ nI n)) [80, 10, 81, 70, 1, 11] := by
  intro M c a b q
  have e : f_X8_running (nI n) x M = gx_bP (f_X8_ran 80 M) (fun M1 => gx_bI (f_X8_plainRuns (nI n) x M1) (fun y M2 => gx_bI (f_X8_thinking (nI n) 2 M2) (fun y2 M3 => some ((y + y2), M3)))) := by
    unfold f_X8_running
    simp only [zz_gi hn (show 50 < 2147483648 by decide), zz_cl (show n < 2147483648 by omega), a]
    rfl
  have h : zz_A8 n 7 (fun M => gx_bP (f_X8_ran 80 M) (fun M1 => gx_bI (f_X8_plainRuns (nI n) x M1) (fun y M2 => gx_bI (f_X8_thinking (nI n) 2 M2) (fun y2 M3 => some ((y + y2), M3))))) (((((x + nI n) * 2) - 1) * 2) + (2 ^^^ nI n)) [80, 10, 81, 70, 1, 11] := zz_A.ran (zz_A.bind (by decide) (by omega) (zz_m_plainRuns_7 hn x) (zz_A.map (fun y2 => (((((x + nI n) * 2) - 1) * 2) + y2)) (zz_m_thinking_7 hn 2)))
  rw [e]
  exact h M c a b q
theorem zz_m_plainTells_7 {n : Nat} (hn : n < 50) (x : Int32) : zz_A8 n 7 (f_X8_plainTells (nI n) x) ((((((x + nI n) * 2) - 1) * 2) + (2 ^^^ nI n)) - (1 ^^^ nI n)) [2, 80, 10, 81, 70, 1, 11, 11] := by
  exact zz_A.ran (zz_A.bind (by decide) (by omega) (zz_m_running_7 hn x) (zz_A.map (fun y => (((((x + nI n) * 2) - 1) * 2) + (2 ^^^ nI n)) - y) (zz_m_thinking_7 hn 1)))
theorem zz_m_telling_7 {n : Nat} (hn : n < 50) (x : Int32) : zz_A8 n 7 (f_X8_telling (nI n) x) ((((((x + nI n) * 2) - 1) * 2) + (2 ^^^ nI n)) - (1 ^^^ nI n)) [2, 80, 10, 81, 70, 1, 11, 11] := by
  intro M c a b q
  have e : f_X8_telling (nI n) x M = gx_bI (f_X8_plainTells (nI n) x M) (fun y M2 => some (y, M2)) := by
    unfold f_X8_telling
    simp only [zz_gi hn (show 50 < 2147483648 by decide), zz_cl (show n < 2147483648 by omega), a]
    rfl
  have h : zz_A8 n 7 (fun M => gx_bI (f_X8_plainTells (nI n) x M) (fun y M2 => some (y, M2))) ((((((x + nI n) * 2) - 1) * 2) + (2 ^^^ nI n)) - (1 ^^^ nI n)) [2, 80, 10, 81, 70, 1, 11, 11] := zz_A.map (fun y => y) (zz_m_plainTells_7 hn x)
  rw [e]
  exact h M c a b q
theorem zz_act {n K act : Nat} (hn : n < 50) (hK : K < 8) (ha : act < 4) (x : Int32) : ∃ (r : Int32) (l : List Int32), l.length ≤ 24 ∧ zz_A7 n K (f_X0_does gx_dep (nI act) (nI K) (nI n) x (nI 0)) r l ∧ zz_A8 n K (fun M => if nI act = 0 then f_X8_falling (nI n) x M else (if nI act = 1 then f_X8_running (nI n) x M else (if nI act = 2 then f_X8_thinking (nI n) x M else f_X8_telling (nI n) x M))) r l := by
  match K, hK, act, ha with
  | 0, _, 0, _ => exact ⟨_, _, by decide, zz_c0_0_0 hn 98 0 x (by decide), zz_m_falling_0 hn x⟩
  | 0, _, 1, _ => exact ⟨_, _, by decide, zz_c1_0_0 hn 96 0 x (by decide), zz_m_running_0 hn x⟩
  | 0, _, 2, _ => exact ⟨_, _, by decide, zz_c2_0_0 hn 98 0 x (by decide), zz_m_thinking_0 hn x⟩
  | 0, _, 3, _ => exact ⟨_, _, by decide, zz_c3_0_0 hn 94 0 x (by decide), zz_m_telling_0 hn x⟩
  | 1, _, 0, _ => exact ⟨_, _, by decide, zz_c0_1_1 hn 96 0 x (by decide), zz_m_falling_1 hn x⟩
  | 1, _, 1, _ => exact ⟨_, _, by decide, zz_c1_1_1 hn 94 0 x (by decide), zz_m_running_1 hn x⟩
  | 1, _, 2, _ => exact ⟨_, _, by decide, zz_c2_1_1 hn 98 0 x (by decide), zz_m_thinking_1 hn x⟩
  | 1, _, 3, _ => exact ⟨_, _, by decide, zz_c3_1_1 hn 92 0 x (by decide), zz_m_telling_1 hn x⟩
  | 2, _, 0, _ => exact ⟨_, _, by decide, zz_c0_2_2 hn 98 0 x (by decide), zz_m_falling_2 hn x⟩
  | 2, _, 1, _ => exact ⟨_, _, by decide, zz_c1_2_2 hn 94 0 x (by decide), zz_m_running_2 hn x⟩
  | 2, _, 2, _ => exact ⟨_, _, by decide, zz_c2_2_2 hn 98 0 x (by decide), zz_m_thinking_2 hn x⟩
  | 2, _, 3, _ => exact ⟨_, _, by decide, zz_c3_2_2 hn 92 0 x (by decide), zz_m_telling_2 hn x⟩
  | 3, _, 0, _ => exact ⟨_, _, by decide, zz_c0_3_3 hn 98 0 x (by decide), zz_m_falling_3 hn x⟩
  | 3, _, 1, _ => exact ⟨_, _, by decide, zz_c1_3_3 hn 92 0 x (by decide), zz_m_running_3 hn x⟩
  | 3, _, 2, _ => exact ⟨_, _, by decide, zz_c2_3_3 hn 96 0 x (by decide), zz_m_thinking_3 hn x⟩
  | 3, _, 3, _ => exact ⟨_, _, by decide, zz_c3_3_3 hn 90 0 x (by decide), zz_m_telling_3 hn x⟩
  | 4, _, 0, _ => exact ⟨_, _, by decide, zz_c0_4_4 hn 96 0 x (by decide), zz_m_falling_4 hn x⟩
  | 4, _, 1, _ => exact ⟨_, _, by decide, zz_c1_4_4 hn 94 0 x (by decide), zz_m_running_4 hn x⟩
  | 4, _, 2, _ => exact ⟨_, _, by decide, zz_c2_4_4 hn 98 0 x (by decide), zz_m_thinking_4 hn x⟩
  | 4, _, 3, _ => exact ⟨_, _, by decide, zz_c3_4_4 hn 90 0 x (by decide), zz_m_telling_4 hn x⟩
  | 5, _, 0, _ => exact ⟨_, _, by decide, zz_c0_5_5 hn 98 0 x (by decide), zz_m_falling_5 hn x⟩
  | 5, _, 1, _ => exact ⟨_, _, by decide, zz_c1_5_5 hn 92 0 x (by decide), zz_m_running_5 hn x⟩
  | 5, _, 2, _ => exact ⟨_, _, by decide, zz_c2_5_5 hn 94 0 x (by decide), zz_m_thinking_5 hn x⟩
  | 5, _, 3, _ => exact ⟨_, _, by decide, zz_c3_5_5 hn 88 0 x (by decide), zz_m_telling_5 hn x⟩
  | 6, _, 0, _ => exact ⟨_, _, by decide, zz_c0_6_6 hn 96 0 x (by decide), zz_m_falling_6 hn x⟩
  | 6, _, 1, _ => exact ⟨_, _, by decide, zz_c1_6_6 hn 94 0 x (by decide), zz_m_running_6 hn x⟩
  | 6, _, 2, _ => exact ⟨_, _, by decide, zz_c2_6_6 hn 98 0 x (by decide), zz_m_thinking_6 hn x⟩
  | 6, _, 3, _ => exact ⟨_, _, by decide, zz_c3_6_6 hn 92 0 x (by decide), zz_m_telling_6 hn x⟩
  | 7, _, 0, _ => exact ⟨_, _, by decide, zz_c0_7_7 hn 94 0 x (by decide), zz_m_falling_7 hn x⟩
  | 7, _, 1, _ => exact ⟨_, _, by decide, zz_c1_7_7 hn 90 0 x (by decide), zz_m_running_7 hn x⟩
  | 7, _, 2, _ => exact ⟨_, _, by decide, zz_c2_7_7 hn 98 0 x (by decide), zz_m_thinking_7 hn x⟩
  | 7, _, 3, _ => exact ⟨_, _, by decide, zz_c3_7_7 hn 88 0 x (by decide), zz_m_telling_7 hn x⟩

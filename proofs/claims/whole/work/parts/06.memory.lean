theorem gx_sI_at (M : gx_Mem) (k i : Nat) (v : Int32) : (gx_sI M k i v).1 k = upd (M.1 k) i v := if_pos rfl
theorem gx_sL_at (M : gx_Mem) (k i : Nat) (v : Int64) : (gx_sL M k i v).2 k = vp_updL (M.2 k) i v := if_pos rfl
theorem gx_cI_at (M : gx_Mem) (k sp j dp n : Nat) : (gx_cI M k sp j dp n).1 j = va_cpy (M.1 k) (M.1 j) sp dp n := if_pos rfl
theorem gx_cL_at (M : gx_Mem) (k sp j dp n : Nat) : (gx_cL M k sp j dp n).2 j = va_cpy (M.2 k) (M.2 j) sp dp n := if_pos rfl
theorem gx_cell_eq {κ : gx_K} {M M2 : gx_Mem} {j : Nat} (h1 : M2.1 j = M.1 j) (h2 : M2.2 j = M.2 j) (d : gx_De) : gx_cell κ M2 j d = gx_cell κ M j d := by
  cases d with
  | inl q => simp only [gx_cell, h1]
  | inr q =>
    obtain ⟨t, n, rl⟩ := q
    simp only [gx_cell]
    unfold gx_arr
    split <;> simp only [h1, h2]
theorem gx_cell_sI {κ : gx_K} {M : gx_Mem} {k i : Nat} {v : Int32} (j : Nat) (d : gx_De) (hj : j ≠ k) : gx_cell κ (gx_sI M k i v) j d = gx_cell κ M j d := gx_cell_eq (M := M) (M2 := gx_sI M k i v) (if_neg hj) rfl d
theorem gx_cell_sL {κ : gx_K} {M : gx_Mem} {k i : Nat} {v : Int64} (j : Nat) (d : gx_De) (hj : j ≠ k) : gx_cell κ (gx_sL M k i v) j d = gx_cell κ M j d := gx_cell_eq (M := M) (M2 := gx_sL M k i v) rfl (if_neg hj) d
theorem gx_cell_cI {κ : gx_K} {M : gx_Mem} {a sp k dp n : Nat} (j : Nat) (d : gx_De) (hj : j ≠ k) : gx_cell κ (gx_cI M a sp k dp n) j d = gx_cell κ M j d := gx_cell_eq (M := M) (M2 := gx_cI M a sp k dp n) (if_neg hj) rfl d
theorem gx_cell_cL {κ : gx_K} {M : gx_Mem} {a sp k dp n : Nat} (j : Nat) (d : gx_De) (hj : j ≠ k) : gx_cell κ (gx_cL M a sp k dp n) j d = gx_cell κ M j d := gx_cell_eq (M := M) (M2 := gx_cL M a sp k dp n) rfl (if_neg hj) d
section GXM
variable {κ : gx_K} {Γ : gx_Γ} {own : String} {cc : ByteArray} {nL0 d : Nat} {pc pc2 : Nat} {lv lv2 : List (Nat × Value)} {st rest : List Value} {M M2 : gx_Mem} {α : Type} {R0 : α}
theorem gx_getI (Cx : gx_Cx κ Γ own cc nL0 d) {C ref : String} {T : u_T} {N ci k j idx : Nat} {fl : List (Option Nat)} (hc : vwCl[ci]? = some (C, T, N)) (hin : ∀ w ∈ u_ws C T N, w ∈ gx_T) (hj : j < N) (hfl : fl[j]? = some none) (hlink : Cond.fieldLink own idx ref (T j).2.1 (T j).2.2.1 ∈ gx_T) (hsame : (T j).1 = ref) (hk : gx_lay[k]? = some (.inl (ci, fl))) (hd : gx_D cc pc (.getfield idx) 3 pc2) (kk : gx_G κ Γ pc2 lv (.int (M.1 k j) :: st) M) : gx_G κ Γ pc lv (.ref (gx_a κ k) :: st) M := by
  obtain ⟨p, e, R, s, m, args, below, meth, c, A, nL, kc, kss, Q⟩ := Γ
  obtain ⟨hx, hb, hml, hown, hts, hK, hDa, hSt, hsub, ⟨hfr, hlo, hkc, hks⟩, hnL, hDg⟩ := Cx
  obtain ⟨hd, rfl⟩ := hd
  intro H locs ls hP hS hl
  exact va_get hx hb hts hin hown hK hP k (gx_at hk) hc j hj (hts _ hlink) (fun x9 h9 => by rw [← hsame]; exact h9) (gx_obj_at hfl) hd (kk H locs ls hP hS hl)
theorem gx_getR (Cx : gx_Cx κ Γ own cc nL0 d) {C ref : String} {T : u_T} {N ci k j i idx : Nat} {fl : List (Option Nat)} (hc : vwCl[ci]? = some (C, T, N)) (hin : ∀ w ∈ u_ws C T N, w ∈ gx_T) (hj : j < N) (hfl : fl[j]? = some (some i)) (hlink : Cond.fieldLink own idx ref (T j).2.1 (T j).2.2.1 ∈ gx_T) (hsame : (T j).1 = ref) (hk : gx_lay[k]? = some (.inl (ci, fl))) (hd : gx_D cc pc (.getfield idx) 3 pc2) (kk : gx_G κ Γ pc2 lv (.ref (gx_a κ i) :: st) M) : gx_G κ Γ pc lv (.ref (gx_a κ k) :: st) M := by
  obtain ⟨p, e, R, s, m, args, below, meth, c, A, nL, kc, kss, Q⟩ := Γ
  obtain ⟨hx, hb, hml, hown, hts, hK, hDa, hSt, hsub, ⟨hfr, hlo, hkc, hks⟩, hnL, hDg⟩ := Cx
  obtain ⟨hd, rfl⟩ := hd
  intro H locs ls hP hS hl
  exact va_get hx hb hts hin hown hK hP k (gx_at hk) hc j hj (hts _ hlink) (fun x9 h9 => by rw [← hsame]; exact h9) (gx_obj_ref hfl) hd (kk H locs ls hP hS hl)
theorem gx_putI (Cx : gx_Cx κ Γ own cc nL0 d) {C ref : String} {T : u_T} {N ci k j idx : Nat} {fl : List (Option Nat)} (ty0 : Nat → FieldType) (hty : ∀ k, k < N → parseFieldDescriptor (T k).2.2.1 = some (ty0 k)) (hnm : ∀ a, a < N → ∀ b, b < N → a ≠ b → (T a).2.1 ≠ (T b).2.1) (hc : vwCl[ci]? = some (C, T, N)) (hin : ∀ w ∈ u_ws C T N, w ∈ gx_T) (hj : j < N) (hfl : fl[j]? = some none) (hlink : Cond.fieldLink own idx ref (T j).2.1 (T j).2.2.1 ∈ gx_T) (hsame : (T j).1 = ref) (hfin : (T j).2.2.2 = false) {x : Int32} (hn : narrow (ty0 j) (.int x) = .int x) (hfit : fits (ty0 j) (.int x) = true) (hk : gx_lay[k]? = some (.inl (ci, fl))) (hd : gx_D cc pc (.putfield idx) 3 pc2) {f : gx_Mem → Option α} (h : gx_let (gx_sI M k j x) f = some R0) (kk : ∀ M2 : gx_Mem, f M2 = some R0 → gx_G κ Γ pc2 lv st M2) : gx_G κ Γ pc lv (.int x :: .ref (gx_a κ k) :: st) M := by
  obtain ⟨p, e, R, s, m, args, below, meth, c, A, nL, kc, kss, Q⟩ := Γ
  obtain ⟨hx, hb, hml, hown, hts, hK, hDa, hSt, hsub, ⟨hfr, hlo, hkc, hks⟩, hnL, hDg⟩ := Cx
  obtain ⟨hd, rfl⟩ := hd
  intro H locs ls hP hS hl
  refine va_put (v := .int x) hx hb hts hin ty0 hty hnm hown hK hP (hDa M) hS k (gx_at hk) hc j hj (hts _ hlink) (fun x9 h9 => by rw [← hsame]; exact h9) hfin (hty j hj) hn hfit (by rw [gx_obj_len]; exact (List.getElem?_eq_some_iff.mp hfl).1) hd (fun H1 locs1 hP1 hD1 hS1 => ?_)
  have e := gx_set (M := M) (M2 := gx_sI M k j x) (κ := κ) hk (e := .inr (ci, (gx_obj κ (M.1 k) fl).set j (.int x))) (by rw [gx_obj_set hfl]; simp only [gx_cell, gx_sI_at]) gx_cell_sI
  rw [e] at hP1
  exact kk _ h H1 locs1 ls hP1 hS1 hl
theorem gx_iald (Cx : gx_Cx κ Γ own cc nL0 d) {k n : Nat} {rl : List Nat} {i : Int32} {b : Option α} (hk : gx_lay[k]? = some (.inr (0, n, rl))) (hd : gx_D cc pc .iaload 1 pc2) (h : gx_gd (gx_in i n) b = some R0) (kk : b = some R0 → gx_G κ Γ pc2 lv (.int (M.1 k i.toNatClampNeg) :: st) M) : gx_G κ Γ pc lv (.int i :: .ref (gx_a κ k) :: st) M := by
  obtain ⟨p, e, R, s, m, args, below, meth, c, A, nL, kc, kss, Q⟩ := Γ
  obtain ⟨hx, hb, hml, hown, hts, hK, hDa, hSt, hsub, ⟨hfr, hlo, hkc, hks⟩, hnL, hDg⟩ := Cx
  obtain ⟨hd, rfl⟩ := hd
  obtain ⟨hi, h⟩ := gx_gd_of h
  intro H locs ls hP hS hl
  exact va_iald hx hb hK hP k 0 (gx_at hk) rfl (gx_in_of hi) hd (kk h H locs ls hP hS hl)
theorem gx_ialdC (Cx : gx_Cx κ Γ own cc nL0 d) {k n : Nat} {rl : List Nat} {i : Int32} {b : Option α} (hk : gx_lay[k]? = some (.inr (0, n, rl))) (hd : gx_D cc pc .iaload 1 pc2) (hi : gx_in i n = true) (kk : gx_G κ Γ pc2 lv (.int (M.1 k i.toNatClampNeg) :: st) M) : gx_G κ Γ pc lv (.int i :: .ref (gx_a κ k) :: st) M := by
  obtain ⟨p, e, R, s, m, args, below, meth, c, A, nL, kc, kss, Q⟩ := Γ
  obtain ⟨hx, hb, hml, hown, hts, hK, hDa, hSt, hsub, ⟨hfr, hlo, hkc, hks⟩, hnL, hDg⟩ := Cx
  obtain ⟨hd, rfl⟩ := hd
  intro H locs ls hP hS hl
  exact va_iald hx hb hK hP k 0 (gx_at hk) rfl (gx_in_of hi) hd (kk H locs ls hP hS hl)
theorem gx_bald (Cx : gx_Cx κ Γ own cc nL0 d) {k n : Nat} {rl : List Nat} {i : Int32} {b : Option α} (hk : gx_lay[k]? = some (.inr (2, n, rl))) (hd : gx_D cc pc .baload 1 pc2) (h : gx_gd (gx_in i n) b = some R0) (kk : b = some R0 → gx_G κ Γ pc2 lv (.int (M.1 k i.toNatClampNeg) :: st) M) : gx_G κ Γ pc lv (.int i :: .ref (gx_a κ k) :: st) M := by
  obtain ⟨p, e, R, s, m, args, below, meth, c, A, nL, kc, kss, Q⟩ := Γ
  obtain ⟨hx, hb, hml, hown, hts, hK, hDa, hSt, hsub, ⟨hfr, hlo, hkc, hks⟩, hnL, hDg⟩ := Cx
  obtain ⟨hd, rfl⟩ := hd
  obtain ⟨hi, h⟩ := gx_gd_of h
  intro H locs ls hP hS hl
  exact va_bald hx hb hK hP k 2 (gx_at hk) rfl (gx_in_of hi) hd (kk h H locs ls hP hS hl)
theorem gx_baldC (Cx : gx_Cx κ Γ own cc nL0 d) {k n : Nat} {rl : List Nat} {i : Int32} {b : Option α} (hk : gx_lay[k]? = some (.inr (2, n, rl))) (hd : gx_D cc pc .baload 1 pc2) (hi : gx_in i n = true) (kk : gx_G κ Γ pc2 lv (.int (M.1 k i.toNatClampNeg) :: st) M) : gx_G κ Γ pc lv (.int i :: .ref (gx_a κ k) :: st) M := by
  obtain ⟨p, e, R, s, m, args, below, meth, c, A, nL, kc, kss, Q⟩ := Γ
  obtain ⟨hx, hb, hml, hown, hts, hK, hDa, hSt, hsub, ⟨hfr, hlo, hkc, hks⟩, hnL, hDg⟩ := Cx
  obtain ⟨hd, rfl⟩ := hd
  intro H locs ls hP hS hl
  exact va_bald hx hb hK hP k 2 (gx_at hk) rfl (gx_in_of hi) hd (kk H locs ls hP hS hl)
theorem gx_sald (Cx : gx_Cx κ Γ own cc nL0 d) {k n : Nat} {rl : List Nat} {i : Int32} {b : Option α} (hk : gx_lay[k]? = some (.inr (3, n, rl))) (hd : gx_D cc pc .saload 1 pc2) (h : gx_gd (gx_in i n) b = some R0) (kk : b = some R0 → gx_G κ Γ pc2 lv (.int (M.1 k i.toNatClampNeg) :: st) M) : gx_G κ Γ pc lv (.int i :: .ref (gx_a κ k) :: st) M := by
  obtain ⟨p, e, R, s, m, args, below, meth, c, A, nL, kc, kss, Q⟩ := Γ
  obtain ⟨hx, hb, hml, hown, hts, hK, hDa, hSt, hsub, ⟨hfr, hlo, hkc, hks⟩, hnL, hDg⟩ := Cx
  obtain ⟨hd, rfl⟩ := hd
  obtain ⟨hi, h⟩ := gx_gd_of h
  intro H locs ls hP hS hl
  exact va_sald hx hb hK hP k 3 (gx_at hk) rfl (gx_in_of hi) hd (kk h H locs ls hP hS hl)
theorem gx_saldC (Cx : gx_Cx κ Γ own cc nL0 d) {k n : Nat} {rl : List Nat} {i : Int32} {b : Option α} (hk : gx_lay[k]? = some (.inr (3, n, rl))) (hd : gx_D cc pc .saload 1 pc2) (hi : gx_in i n = true) (kk : gx_G κ Γ pc2 lv (.int (M.1 k i.toNatClampNeg) :: st) M) : gx_G κ Γ pc lv (.int i :: .ref (gx_a κ k) :: st) M := by
  obtain ⟨p, e, R, s, m, args, below, meth, c, A, nL, kc, kss, Q⟩ := Γ
  obtain ⟨hx, hb, hml, hown, hts, hK, hDa, hSt, hsub, ⟨hfr, hlo, hkc, hks⟩, hnL, hDg⟩ := Cx
  obtain ⟨hd, rfl⟩ := hd
  intro H locs ls hP hS hl
  exact va_sald hx hb hK hP k 3 (gx_at hk) rfl (gx_in_of hi) hd (kk H locs ls hP hS hl)
theorem gx_lald (Cx : gx_Cx κ Γ own cc nL0 d) {k n : Nat} {rl : List Nat} {i : Int32} {b : Option α} (hk : gx_lay[k]? = some (.inr (1, n, rl))) (hd : gx_D cc pc .laload 1 pc2) (h : gx_gd (gx_in i n) b = some R0) (kk : b = some R0 → gx_G κ Γ pc2 lv (.long (M.2 k i.toNatClampNeg) :: st) M) : gx_G κ Γ pc lv (.int i :: .ref (gx_a κ k) :: st) M := by
  obtain ⟨p, e, R, s, m, args, below, meth, c, A, nL, kc, kss, Q⟩ := Γ
  obtain ⟨hx, hb, hml, hown, hts, hK, hDa, hSt, hsub, ⟨hfr, hlo, hkc, hks⟩, hnL, hDg⟩ := Cx
  obtain ⟨hd, rfl⟩ := hd
  obtain ⟨hi, h⟩ := gx_gd_of h
  intro H locs ls hP hS hl
  exact va_lald hx hb hK hP k 1 (gx_at hk) rfl (gx_in_of hi) hd (kk h H locs ls hP hS hl)
theorem gx_laldC (Cx : gx_Cx κ Γ own cc nL0 d) {k n : Nat} {rl : List Nat} {i : Int32} {b : Option α} (hk : gx_lay[k]? = some (.inr (1, n, rl))) (hd : gx_D cc pc .laload 1 pc2) (hi : gx_in i n = true) (kk : gx_G κ Γ pc2 lv (.long (M.2 k i.toNatClampNeg) :: st) M) : gx_G κ Γ pc lv (.int i :: .ref (gx_a κ k) :: st) M := by
  obtain ⟨p, e, R, s, m, args, below, meth, c, A, nL, kc, kss, Q⟩ := Γ
  obtain ⟨hx, hb, hml, hown, hts, hK, hDa, hSt, hsub, ⟨hfr, hlo, hkc, hks⟩, hnL, hDg⟩ := Cx
  obtain ⟨hd, rfl⟩ := hd
  intro H locs ls hP hS hl
  exact va_lald hx hb hK hP k 1 (gx_at hk) rfl (gx_in_of hi) hd (kk H locs ls hP hS hl)
theorem gx_iast (Cx : gx_Cx κ Γ own cc nL0 d) {k n : Nat} {rl : List Nat} {i x : Int32} {f : gx_Mem → Option α} (hk : gx_lay[k]? = some (.inr (0, n, rl))) (hd : gx_D cc pc .iastore 1 pc2) (h : gx_gd (gx_in i n) (gx_let (gx_sI M k i.toNatClampNeg (x)) f) = some R0) (kk : ∀ M2 : gx_Mem, f M2 = some R0 → gx_G κ Γ pc2 lv st M2) : gx_G κ Γ pc lv (.int x :: .int i :: .ref (gx_a κ k) :: st) M := by
  obtain ⟨p, e, R, s, m, args, below, meth, c, A, nL, kc, kss, Q⟩ := Γ
  obtain ⟨hx, hb, hml, hown, hts, hK, hDa, hSt, hsub, ⟨hfr, hlo, hkc, hks⟩, hnL, hDg⟩ := Cx
  obtain ⟨hd, rfl⟩ := hd
  obtain ⟨hi, h⟩ := gx_gd_of h
  intro H locs ls hP hS hl
  refine va_iast hx hb hK hP (hDa M) hS k 0 (gx_at hk) rfl (gx_in_of hi) hd (fun H1 locs1 hP1 hD1 hS1 => ?_)
  have e := gx_set (M := M) (M2 := gx_sI M k i.toNatClampNeg (x)) (κ := κ) hk (e := .inl (κ.2.2.1 0, n, .inl (upd (M.1 k) i.toNatClampNeg (x)))) (by show _ = Sum.inl (κ.2.2.1 0, n, Sum.inl ((gx_sI M k i.toNatClampNeg (x)).1 k)); rw [gx_sI_at]) gx_cell_sI
  have hP1 : va_P κ.2.1 vwCl ((gx_ws κ M).set k (gx_a κ k, .inl (κ.2.2.1 0, n, .inl (upd (M.1 k) i.toNatClampNeg (x))))) H1 := hP1
  rw [e] at hP1
  exact kk _ h H1 locs1 ls hP1 hS1 hl
theorem gx_iastC (Cx : gx_Cx κ Γ own cc nL0 d) {k n : Nat} {rl : List Nat} {i x : Int32} {f : gx_Mem → Option α} (hk : gx_lay[k]? = some (.inr (0, n, rl))) (hd : gx_D cc pc .iastore 1 pc2) (hi : gx_in i n = true) (h : gx_let (gx_sI M k i.toNatClampNeg (x)) f = some R0) (kk : ∀ M2 : gx_Mem, f M2 = some R0 → gx_G κ Γ pc2 lv st M2) : gx_G κ Γ pc lv (.int x :: .int i :: .ref (gx_a κ k) :: st) M := by
  obtain ⟨p, e, R, s, m, args, below, meth, c, A, nL, kc, kss, Q⟩ := Γ
  obtain ⟨hx, hb, hml, hown, hts, hK, hDa, hSt, hsub, ⟨hfr, hlo, hkc, hks⟩, hnL, hDg⟩ := Cx
  obtain ⟨hd, rfl⟩ := hd
  intro H locs ls hP hS hl
  refine va_iast hx hb hK hP (hDa M) hS k 0 (gx_at hk) rfl (gx_in_of hi) hd (fun H1 locs1 hP1 hD1 hS1 => ?_)
  have e := gx_set (M := M) (M2 := gx_sI M k i.toNatClampNeg (x)) (κ := κ) hk (e := .inl (κ.2.2.1 0, n, .inl (upd (M.1 k) i.toNatClampNeg (x)))) (by show _ = Sum.inl (κ.2.2.1 0, n, Sum.inl ((gx_sI M k i.toNatClampNeg (x)).1 k)); rw [gx_sI_at]) gx_cell_sI
  have hP1 : va_P κ.2.1 vwCl ((gx_ws κ M).set k (gx_a κ k, .inl (κ.2.2.1 0, n, .inl (upd (M.1 k) i.toNatClampNeg (x))))) H1 := hP1
  rw [e] at hP1
  exact kk _ h H1 locs1 ls hP1 hS1 hl
theorem gx_bast (Cx : gx_Cx κ Γ own cc nL0 d) {k n : Nat} {rl : List Nat} {i x : Int32} {f : gx_Mem → Option α} (hk : gx_lay[k]? = some (.inr (2, n, rl))) (hd : gx_D cc pc .bastore 1 pc2) (h : gx_gd (gx_in i n) (gx_let (gx_sI M k i.toNatClampNeg (x.toInt8.toInt32)) f) = some R0) (kk : ∀ M2 : gx_Mem, f M2 = some R0 → gx_G κ Γ pc2 lv st M2) : gx_G κ Γ pc lv (.int x :: .int i :: .ref (gx_a κ k) :: st) M := by
  obtain ⟨p, e, R, s, m, args, below, meth, c, A, nL, kc, kss, Q⟩ := Γ
  obtain ⟨hx, hb, hml, hown, hts, hK, hDa, hSt, hsub, ⟨hfr, hlo, hkc, hks⟩, hnL, hDg⟩ := Cx
  obtain ⟨hd, rfl⟩ := hd
  obtain ⟨hi, h⟩ := gx_gd_of h
  intro H locs ls hP hS hl
  refine va_bast hx hb hK hP (hDa M) hS k 2 (gx_at hk) rfl (gx_in_of hi) hd (fun H1 locs1 hP1 hD1 hS1 => ?_)
  have e := gx_set (M := M) (M2 := gx_sI M k i.toNatClampNeg (x.toInt8.toInt32)) (κ := κ) hk (e := .inl (κ.2.2.1 2, n, .inl (upd (M.1 k) i.toNatClampNeg (x.toInt8.toInt32)))) (by show _ = Sum.inl (κ.2.2.1 2, n, Sum.inl ((gx_sI M k i.toNatClampNeg (x.toInt8.toInt32)).1 k)); rw [gx_sI_at]) gx_cell_sI
  have hP1 : va_P κ.2.1 vwCl ((gx_ws κ M).set k (gx_a κ k, .inl (κ.2.2.1 2, n, .inl (upd (M.1 k) i.toNatClampNeg (x.toInt8.toInt32))))) H1 := hP1
  rw [e] at hP1
  exact kk _ h H1 locs1 ls hP1 hS1 hl
theorem gx_bastC (Cx : gx_Cx κ Γ own cc nL0 d) {k n : Nat} {rl : List Nat} {i x : Int32} {f : gx_Mem → Option α} (hk : gx_lay[k]? = some (.inr (2, n, rl))) (hd : gx_D cc pc .bastore 1 pc2) (hi : gx_in i n = true) (h : gx_let (gx_sI M k i.toNatClampNeg (x.toInt8.toInt32)) f = some R0) (kk : ∀ M2 : gx_Mem, f M2 = some R0 → gx_G κ Γ pc2 lv st M2) : gx_G κ Γ pc lv (.int x :: .int i :: .ref (gx_a κ k) :: st) M := by
  obtain ⟨p, e, R, s, m, args, below, meth, c, A, nL, kc, kss, Q⟩ := Γ
  obtain ⟨hx, hb, hml, hown, hts, hK, hDa, hSt, hsub, ⟨hfr, hlo, hkc, hks⟩, hnL, hDg⟩ := Cx
  obtain ⟨hd, rfl⟩ := hd
  intro H locs ls hP hS hl
  refine va_bast hx hb hK hP (hDa M) hS k 2 (gx_at hk) rfl (gx_in_of hi) hd (fun H1 locs1 hP1 hD1 hS1 => ?_)
  have e := gx_set (M := M) (M2 := gx_sI M k i.toNatClampNeg (x.toInt8.toInt32)) (κ := κ) hk (e := .inl (κ.2.2.1 2, n, .inl (upd (M.1 k) i.toNatClampNeg (x.toInt8.toInt32)))) (by show _ = Sum.inl (κ.2.2.1 2, n, Sum.inl ((gx_sI M k i.toNatClampNeg (x.toInt8.toInt32)).1 k)); rw [gx_sI_at]) gx_cell_sI
  have hP1 : va_P κ.2.1 vwCl ((gx_ws κ M).set k (gx_a κ k, .inl (κ.2.2.1 2, n, .inl (upd (M.1 k) i.toNatClampNeg (x.toInt8.toInt32))))) H1 := hP1
  rw [e] at hP1
  exact kk _ h H1 locs1 ls hP1 hS1 hl
theorem gx_sast (Cx : gx_Cx κ Γ own cc nL0 d) {k n : Nat} {rl : List Nat} {i x : Int32} {f : gx_Mem → Option α} (hk : gx_lay[k]? = some (.inr (3, n, rl))) (hd : gx_D cc pc .sastore 1 pc2) (h : gx_gd (gx_in i n) (gx_let (gx_sI M k i.toNatClampNeg (x.toInt16.toInt32)) f) = some R0) (kk : ∀ M2 : gx_Mem, f M2 = some R0 → gx_G κ Γ pc2 lv st M2) : gx_G κ Γ pc lv (.int x :: .int i :: .ref (gx_a κ k) :: st) M := by
  obtain ⟨p, e, R, s, m, args, below, meth, c, A, nL, kc, kss, Q⟩ := Γ
  obtain ⟨hx, hb, hml, hown, hts, hK, hDa, hSt, hsub, ⟨hfr, hlo, hkc, hks⟩, hnL, hDg⟩ := Cx
  obtain ⟨hd, rfl⟩ := hd
  obtain ⟨hi, h⟩ := gx_gd_of h
  intro H locs ls hP hS hl
  refine va_sast hx hb hK hP (hDa M) hS k 3 (gx_at hk) rfl (gx_in_of hi) hd (fun H1 locs1 hP1 hD1 hS1 => ?_)
  have e := gx_set (M := M) (M2 := gx_sI M k i.toNatClampNeg (x.toInt16.toInt32)) (κ := κ) hk (e := .inl (κ.2.2.1 3, n, .inl (upd (M.1 k) i.toNatClampNeg (x.toInt16.toInt32)))) (by show _ = Sum.inl (κ.2.2.1 3, n, Sum.inl ((gx_sI M k i.toNatClampNeg (x.toInt16.toInt32)).1 k)); rw [gx_sI_at]) gx_cell_sI
  have hP1 : va_P κ.2.1 vwCl ((gx_ws κ M).set k (gx_a κ k, .inl (κ.2.2.1 3, n, .inl (upd (M.1 k) i.toNatClampNeg (x.toInt16.toInt32))))) H1 := hP1
  rw [e] at hP1
  exact kk _ h H1 locs1 ls hP1 hS1 hl
theorem gx_sastC (Cx : gx_Cx κ Γ own cc nL0 d) {k n : Nat} {rl : List Nat} {i x : Int32} {f : gx_Mem → Option α} (hk : gx_lay[k]? = some (.inr (3, n, rl))) (hd : gx_D cc pc .sastore 1 pc2) (hi : gx_in i n = true) (h : gx_let (gx_sI M k i.toNatClampNeg (x.toInt16.toInt32)) f = some R0) (kk : ∀ M2 : gx_Mem, f M2 = some R0 → gx_G κ Γ pc2 lv st M2) : gx_G κ Γ pc lv (.int x :: .int i :: .ref (gx_a κ k) :: st) M := by
  obtain ⟨p, e, R, s, m, args, below, meth, c, A, nL, kc, kss, Q⟩ := Γ
  obtain ⟨hx, hb, hml, hown, hts, hK, hDa, hSt, hsub, ⟨hfr, hlo, hkc, hks⟩, hnL, hDg⟩ := Cx
  obtain ⟨hd, rfl⟩ := hd
  intro H locs ls hP hS hl
  refine va_sast hx hb hK hP (hDa M) hS k 3 (gx_at hk) rfl (gx_in_of hi) hd (fun H1 locs1 hP1 hD1 hS1 => ?_)
  have e := gx_set (M := M) (M2 := gx_sI M k i.toNatClampNeg (x.toInt16.toInt32)) (κ := κ) hk (e := .inl (κ.2.2.1 3, n, .inl (upd (M.1 k) i.toNatClampNeg (x.toInt16.toInt32)))) (by show _ = Sum.inl (κ.2.2.1 3, n, Sum.inl ((gx_sI M k i.toNatClampNeg (x.toInt16.toInt32)).1 k)); rw [gx_sI_at]) gx_cell_sI
  have hP1 : va_P κ.2.1 vwCl ((gx_ws κ M).set k (gx_a κ k, .inl (κ.2.2.1 3, n, .inl (upd (M.1 k) i.toNatClampNeg (x.toInt16.toInt32))))) H1 := hP1
  rw [e] at hP1
  exact kk _ h H1 locs1 ls hP1 hS1 hl
theorem gx_last (Cx : gx_Cx κ Γ own cc nL0 d) {k n : Nat} {rl : List Nat} {i : Int32} {x : Int64} {f : gx_Mem → Option α} (hk : gx_lay[k]? = some (.inr (1, n, rl))) (hd : gx_D cc pc .lastore 1 pc2) (h : gx_gd (gx_in i n) (gx_let (gx_sL M k i.toNatClampNeg x) f) = some R0) (kk : ∀ M2 : gx_Mem, f M2 = some R0 → gx_G κ Γ pc2 lv st M2) : gx_G κ Γ pc lv (.long x :: .int i :: .ref (gx_a κ k) :: st) M := by
  obtain ⟨p, e, R, s, m, args, below, meth, c, A, nL, kc, kss, Q⟩ := Γ
  obtain ⟨hx, hb, hml, hown, hts, hK, hDa, hSt, hsub, ⟨hfr, hlo, hkc, hks⟩, hnL, hDg⟩ := Cx
  obtain ⟨hd, rfl⟩ := hd
  obtain ⟨hi, h⟩ := gx_gd_of h
  intro H locs ls hP hS hl
  refine va_last hx hb hK hP (hDa M) hS k 1 (gx_at hk) rfl (gx_in_of hi) hd (fun H1 locs1 hP1 hD1 hS1 => ?_)
  have e := gx_set (M := M) (M2 := gx_sL M k i.toNatClampNeg x) (κ := κ) hk (e := .inl (κ.2.2.1 1, n, .inr (.inl (vp_updL (M.2 k) i.toNatClampNeg x)))) (by show _ = Sum.inl (κ.2.2.1 1, n, Sum.inr (Sum.inl ((gx_sL M k i.toNatClampNeg x).2 k))); rw [gx_sL_at]) gx_cell_sL
  rw [e] at hP1
  exact kk _ h H1 locs1 ls hP1 hS1 hl
theorem gx_lastC (Cx : gx_Cx κ Γ own cc nL0 d) {k n : Nat} {rl : List Nat} {i : Int32} {x : Int64} {f : gx_Mem → Option α} (hk : gx_lay[k]? = some (.inr (1, n, rl))) (hd : gx_D cc pc .lastore 1 pc2) (hi : gx_in i n = true) (h : gx_let (gx_sL M k i.toNatClampNeg x) f = some R0) (kk : ∀ M2 : gx_Mem, f M2 = some R0 → gx_G κ Γ pc2 lv st M2) : gx_G κ Γ pc lv (.long x :: .int i :: .ref (gx_a κ k) :: st) M := by
  obtain ⟨p, e, R, s, m, args, below, meth, c, A, nL, kc, kss, Q⟩ := Γ
  obtain ⟨hx, hb, hml, hown, hts, hK, hDa, hSt, hsub, ⟨hfr, hlo, hkc, hks⟩, hnL, hDg⟩ := Cx
  obtain ⟨hd, rfl⟩ := hd
  intro H locs ls hP hS hl
  refine va_last hx hb hK hP (hDa M) hS k 1 (gx_at hk) rfl (gx_in_of hi) hd (fun H1 locs1 hP1 hD1 hS1 => ?_)
  have e := gx_set (M := M) (M2 := gx_sL M k i.toNatClampNeg x) (κ := κ) hk (e := .inl (κ.2.2.1 1, n, .inr (.inl (vp_updL (M.2 k) i.toNatClampNeg x)))) (by show _ = Sum.inl (κ.2.2.1 1, n, Sum.inr (Sum.inl ((gx_sL M k i.toNatClampNeg x).2 k))); rw [gx_sL_at]) gx_cell_sL
  rw [e] at hP1
  exact kk _ h H1 locs1 ls hP1 hS1 hl
/-- a shelf: an object of class 5 with its row behind it -/
def gx_Sh (r : Nat) : Prop := gx_lay[r]? = some (.inl (5, [some (r + 1), none, none, none])) ∧ gx_lay[r + 1]? = some (.inr (1, 60, []))
theorem gx_Sh_of {i : Nat} (h : i < 6) : gx_Sh (44 + 2 * i) := by
  match i, h with
  | 0, _ => exact ⟨rfl, rfl⟩
  | 1, _ => exact ⟨rfl, rfl⟩
  | 2, _ => exact ⟨rfl, rfl⟩
  | 3, _ => exact ⟨rfl, rfl⟩
  | 4, _ => exact ⟨rfl, rfl⟩
  | 5, _ => exact ⟨rfl, rfl⟩
theorem gx_Sh_at {i : Nat} (h : i < 6) : ([44, 46, 48, 50, 52, 54] : List Nat)[i]? = some (44 + 2 * i) := by
  match i, h with
  | 0, _ => rfl
  | 1, _ => rfl
  | 2, _ => rfl
  | 3, _ => rfl
  | 4, _ => rfl
  | 5, _ => rfl
theorem gx_aaldS (Cx : gx_Cx κ Γ own cc nL0 d) {i : Int32} {f : Nat → Option α} (hd : gx_D cc pc .aaload 1 pc2) (h : gx_gd (gx_in i 6) (gx_let (44 + 2 * i.toNatClampNeg) f) = some R0) (kk : ∀ r : Nat, gx_Sh r → f r = some R0 → gx_G κ Γ pc2 lv (.ref (gx_a κ r) :: st) M) : gx_G κ Γ pc lv (.int i :: .ref (gx_a κ 43) :: st) M := by
  obtain ⟨p, e, R, s, m, args, below, meth, c, A, nL, kc, kss, Q⟩ := Γ
  obtain ⟨hx, hb, hml, hown, hts, hK, hDa, hSt, hsub, ⟨hfr, hlo, hkc, hks⟩, hnL, hDg⟩ := Cx
  obtain ⟨hd, rfl⟩ := hd
  obtain ⟨hi, h⟩ := gx_gd_of h
  have hlt : i.toNatClampNeg < 6 := Nat.not_le.mp fun q => gx_in_of hi (Or.inr q)
  intro H locs ls hP hS hl
  refine va_aldq (C := RX5) hx hb hK hP 43 4 (gx_at gx_y43) rfl (gx_in_of hi) hd ?_
  rw [gx_Sh_at hlt]
  exact kk _ (gx_Sh_of hlt) h H locs ls hP hS hl
theorem gx_gets0 (Cx : gx_Cx κ Γ own cc nL0 d) {idx : Nat} {ref : String} (hlink : Cond.fieldLink own idx ref "GREATEST" "[I" ∈ gx_T) (href : "ThoughtsDrip$House" = ref) (hd : gx_D cc pc (.getstatic idx) 3 pc2) (kk : gx_G κ Γ pc2 lv (.ref (gx_z κ 0) :: st) M) : gx_G κ Γ pc lv st M := by
  obtain ⟨p, e, R, s, m, args, below, meth, c, A, nL, kc, kss, Q⟩ := Γ
  obtain ⟨hx, hb, hml, hown, hts, hK, hDa, hSt, hsub, ⟨hfr, hlo, hkc, hks⟩, hnL, hDg⟩ := Cx
  obtain ⟨hd, rfl⟩ := hd
  intro H locs ls hP hS hl
  exact va_gets hx hb (hSt.1).1 hS hown (hts _ hlink) (fun x9 h9 => by rw [← href]; exact h9) hd (kk H locs ls hP hS hl)
theorem gx_tab0ld (Cx : gx_Cx κ Γ own cc nL0 d) {i : Int32} {b : Option α} (hd : gx_D cc pc .iaload 1 pc2) (h : gx_gd (gx_in i 7) b = some R0) (kk : b = some R0 → gx_G κ Γ pc2 lv (.int (gx_tab 0 i.toNatClampNeg) :: st) M) : gx_G κ Γ pc lv (.int i :: .ref (gx_z κ 0) :: st) M := by
  obtain ⟨p, e, R, s, m, args, below, meth, c, A, nL, kc, kss, Q⟩ := Γ
  obtain ⟨hx, hb, hml, hown, hts, hK, hDa, hSt, hsub, ⟨hfr, hlo, hkc, hks⟩, hnL, hDg⟩ := Cx
  obtain ⟨hd, rfl⟩ := hd
  obtain ⟨hi, h⟩ := gx_gd_of h
  intro H locs ls hP hS hl
  exact va_ti hx hb (hSt.1).2 hS (gx_in_of hi) rfl hd (kk h H locs ls hP hS hl)
theorem gx_gets1 (Cx : gx_Cx κ Γ own cc nL0 d) {idx : Nat} {ref : String} (hlink : Cond.fieldLink own idx ref "ABOVE" "[I" ∈ gx_T) (href : "ThoughtsDrip$Acts" = ref) (hd : gx_D cc pc (.getstatic idx) 3 pc2) (kk : gx_G κ Γ pc2 lv (.ref (gx_z κ 1) :: st) M) : gx_G κ Γ pc lv st M := by
  obtain ⟨p, e, R, s, m, args, below, meth, c, A, nL, kc, kss, Q⟩ := Γ
  obtain ⟨hx, hb, hml, hown, hts, hK, hDa, hSt, hsub, ⟨hfr, hlo, hkc, hks⟩, hnL, hDg⟩ := Cx
  obtain ⟨hd, rfl⟩ := hd
  intro H locs ls hP hS hl
  exact va_gets hx hb (hSt.2.1).1 hS hown (hts _ hlink) (fun x9 h9 => by rw [← href]; exact h9) hd (kk H locs ls hP hS hl)
theorem gx_tab1ld (Cx : gx_Cx κ Γ own cc nL0 d) {i : Int32} {b : Option α} (hd : gx_D cc pc .iaload 1 pc2) (h : gx_gd (gx_in i 8) b = some R0) (kk : b = some R0 → gx_G κ Γ pc2 lv (.int (gx_tab 1 i.toNatClampNeg) :: st) M) : gx_G κ Γ pc lv (.int i :: .ref (gx_z κ 1) :: st) M := by
  obtain ⟨p, e, R, s, m, args, below, meth, c, A, nL, kc, kss, Q⟩ := Γ
  obtain ⟨hx, hb, hml, hown, hts, hK, hDa, hSt, hsub, ⟨hfr, hlo, hkc, hks⟩, hnL, hDg⟩ := Cx
  obtain ⟨hd, rfl⟩ := hd
  obtain ⟨hi, h⟩ := gx_gd_of h
  intro H locs ls hP hS hl
  exact va_ti hx hb (hSt.2.1).2 hS (gx_in_of hi) rfl hd (kk h H locs ls hP hS hl)
theorem gx_gets2 (Cx : gx_Cx κ Γ own cc nL0 d) {idx : Nat} {ref : String} (hlink : Cond.fieldLink own idx ref "OWN" "[I" ∈ gx_T) (href : "ThoughtsDrip$Acts" = ref) (hd : gx_D cc pc (.getstatic idx) 3 pc2) (kk : gx_G κ Γ pc2 lv (.ref (gx_z κ 2) :: st) M) : gx_G κ Γ pc lv st M := by
  obtain ⟨p, e, R, s, m, args, below, meth, c, A, nL, kc, kss, Q⟩ := Γ
  obtain ⟨hx, hb, hml, hown, hts, hK, hDa, hSt, hsub, ⟨hfr, hlo, hkc, hks⟩, hnL, hDg⟩ := Cx
  obtain ⟨hd, rfl⟩ := hd
  intro H locs ls hP hS hl
  exact va_gets hx hb (hSt.2.2).1 hS hown (hts _ hlink) (fun x9 h9 => by rw [← href]; exact h9) hd (kk H locs ls hP hS hl)
theorem gx_tab2ld (Cx : gx_Cx κ Γ own cc nL0 d) {i : Int32} {b : Option α} (hd : gx_D cc pc .iaload 1 pc2) (h : gx_gd (gx_in i 32) b = some R0) (kk : b = some R0 → gx_G κ Γ pc2 lv (.int (gx_tab 2 i.toNatClampNeg) :: st) M) : gx_G κ Γ pc lv (.int i :: .ref (gx_z κ 2) :: st) M := by
  obtain ⟨p, e, R, s, m, args, below, meth, c, A, nL, kc, kss, Q⟩ := Γ
  obtain ⟨hx, hb, hml, hown, hts, hK, hDa, hSt, hsub, ⟨hfr, hlo, hkc, hks⟩, hnL, hDg⟩ := Cx
  obtain ⟨hd, rfl⟩ := hd
  obtain ⟨hi, h⟩ := gx_gd_of h
  intro H locs ls hP hS hl
  exact va_ti hx hb (hSt.2.2).2 hS (gx_in_of hi) rfl hd (kk h H locs ls hP hS hl)
def gx_cpk (sp dp n : Int32) (n0 n1 : Nat) : Bool := decide (¬ sp < 0 ∧ ¬ dp < 0 ∧ ¬ n < 0 ∧ sp.toNatClampNeg + n.toNatClampNeg ≤ n0 ∧ dp.toNatClampNeg + n.toNatClampNeg ≤ n1)

theorem gx_copyI (Cx : gx_Cx κ Γ own cc nL0 d) {k j n0 n1 idx : Nat} {r0 r1 : List Nat} {sp dp n : Int32} {f : gx_Mem → Option α} (hlink : Cond.methodLink own idx arraycopyName ∈ gx_T) (hk : gx_lay[k]? = some (.inr (0, n0, r0))) (hj : gx_lay[j]? = some (.inr (0, n1, r1))) (hd1 : 1 ≤ d) (hr : (st.map fun v => v.category).sum ≤ 8) (hd : gx_D cc pc (.invokestatic idx) 3 pc2) (h : gx_gd (gx_cpk sp dp n n0 n1) (gx_let (gx_cI M k sp.toNatClampNeg j dp.toNatClampNeg n.toNatClampNeg) f) = some R0) (kk : ∀ M2 : gx_Mem, f M2 = some R0 → gx_G κ Γ pc2 lv st M2) : gx_G κ Γ pc lv (.int n :: .int dp :: .ref (gx_a κ j) :: .int sp :: .ref (gx_a κ k) :: st) M := by
  obtain ⟨p, e, R, s, m, args, below, meth, c, A, nL, kc, kss, Q⟩ := Γ
  obtain ⟨hx, hb, hml, hown, hts, hK, hDa, hSt, hsub, ⟨hfr, hlo, hkc, hks⟩, hnL, hDg⟩ := Cx
  obtain ⟨hd, rfl⟩ := hd
  obtain ⟨hi, h⟩ := gx_gd_of h
  obtain ⟨h1, h2, h3, h4, h5⟩ := of_decide_eq_true hi
  intro H locs ls hP hS hl
  refine va_copyi hx hb (hml.trans hl.1.symm) hown (hts _ hlink) (hts _ wv_arraycopyName) (hts _ wt_arraycopyName) (hts _ wnJ10) hK hP (hDa M) hS k j 0 0 (gx_at hk) (gx_at hj) rfl rfl rfl h1 h2 h3 h4 h5 (fun _ _ => rfl) (Nat.le_trans hd1 hfr) (Nat.le_trans (Nat.add_le_add hr (show nativeFrameWords "java/lang/System" "arraycopy" 5 + 11 ≤ 40 by decide +kernel)) (by omega)) hd (fun H1 locs1 hP1 hD1 hS1 => ?_)
  have e := gx_set (M := M) (M2 := gx_cI M k sp.toNatClampNeg j dp.toNatClampNeg n.toNatClampNeg) (κ := κ) hj (e := .inl (κ.2.2.1 0, n1, .inl (va_cpy (M.1 k) (M.1 j) sp.toNatClampNeg dp.toNatClampNeg n.toNatClampNeg))) (by show _ = Sum.inl (κ.2.2.1 0, n1, Sum.inl ((gx_cI M k sp.toNatClampNeg j dp.toNatClampNeg n.toNatClampNeg).1 j)); rw [gx_cI_at]) gx_cell_cI
  have hP1 : va_P κ.2.1 vwCl ((gx_ws κ M).set j (gx_a κ j, .inl (κ.2.2.1 0, n1, .inl (va_cpy (M.1 k) (M.1 j) sp.toNatClampNeg dp.toNatClampNeg n.toNatClampNeg)))) H1 := hP1
  rw [e] at hP1
  exact kk _ h H1 locs1 ls hP1 hS1 hl

theorem gx_copyJ (Cx : gx_Cx κ Γ own cc nL0 d) {k j n0 n1 idx : Nat} {r0 r1 : List Nat} {sp dp n : Int32} {f : gx_Mem → Option α} (hlink : Cond.methodLink own idx arraycopyName ∈ gx_T) (hk : gx_lay[k]? = some (.inr (1, n0, r0))) (hj : gx_lay[j]? = some (.inr (1, n1, r1))) (hd1 : 1 ≤ d) (hr : (st.map fun v => v.category).sum ≤ 8) (hd : gx_D cc pc (.invokestatic idx) 3 pc2) (h : gx_gd (gx_cpk sp dp n n0 n1) (gx_let (gx_cL M k sp.toNatClampNeg j dp.toNatClampNeg n.toNatClampNeg) f) = some R0) (kk : ∀ M2 : gx_Mem, f M2 = some R0 → gx_G κ Γ pc2 lv st M2) : gx_G κ Γ pc lv (.int n :: .int dp :: .ref (gx_a κ j) :: .int sp :: .ref (gx_a κ k) :: st) M := by
  obtain ⟨p, e, R, s, m, args, below, meth, c, A, nL, kc, kss, Q⟩ := Γ
  obtain ⟨hx, hb, hml, hown, hts, hK, hDa, hSt, hsub, ⟨hfr, hlo, hkc, hks⟩, hnL, hDg⟩ := Cx
  obtain ⟨hd, rfl⟩ := hd
  obtain ⟨hi, h⟩ := gx_gd_of h
  obtain ⟨h1, h2, h3, h4, h5⟩ := of_decide_eq_true hi
  intro H locs ls hP hS hl
  refine va_copyl hx hb (hml.trans hl.1.symm) hown (hts _ hlink) (hts _ wv_arraycopyName) (hts _ wt_arraycopyName) (hts _ wnJ10) hK hP (hDa M) hS k j 1 1 (gx_at hk) (gx_at hj) rfl rfl rfl h1 h2 h3 h4 h5 (fun _ _ => rfl) (Nat.le_trans hd1 hfr) (Nat.le_trans (Nat.add_le_add hr (show nativeFrameWords "java/lang/System" "arraycopy" 5 + 11 ≤ 40 by decide +kernel)) (by omega)) hd (fun H1 locs1 hP1 hD1 hS1 => ?_)
  have e := gx_set (M := M) (M2 := gx_cL M k sp.toNatClampNeg j dp.toNatClampNeg n.toNatClampNeg) (κ := κ) hj (e := .inl (κ.2.2.1 1, n1, .inr (.inl (va_cpy (M.2 k) (M.2 j) sp.toNatClampNeg dp.toNatClampNeg n.toNatClampNeg)))) (by show _ = Sum.inl (κ.2.2.1 1, n1, Sum.inr (Sum.inl ((gx_cL M k sp.toNatClampNeg j dp.toNatClampNeg n.toNatClampNeg).2 j))); rw [gx_cL_at]) gx_cell_cL
  have hP1 : va_P κ.2.1 vwCl ((gx_ws κ M).set j (gx_a κ j, .inl (κ.2.2.1 1, n1, .inr (.inl (va_cpy (M.2 k) (M.2 j) sp.toNatClampNeg dp.toNatClampNeg n.toNatClampNeg))))) H1 := hP1
  rw [e] at hP1
  exact kk _ h H1 locs1 ls hP1 hS1 hl
def gx_max (x y : Int32) : Int32 := if x < y then y else x
theorem gx_mmax (Cx : gx_Cx κ Γ own cc nL0 d) {idx : Nat} {x y : Int32} (hlink : Cond.methodLink own idx Lib.Math.max.name ∈ gx_T) (hd1 : 1 ≤ d) (hr : (st.map fun v => v.category).sum ≤ 8) (hd : gx_D cc pc (.invokestatic idx) 3 pc2) (k : gx_G κ Γ pc2 lv (.int (gx_max x y) :: st) M) : gx_G κ Γ pc lv (.int y :: .int x :: st) M := by
  obtain ⟨p, e, R, s, m, args, below, meth, c, A, nL, kc, kss, Q⟩ := Γ
  obtain ⟨hx, hb, hml, hown, hts, hK, hDa, hSt, hsub, ⟨hfr, hlo, hkc, hks⟩, hnL, hDg⟩ := Cx
  obtain ⟨hd, rfl⟩ := hd
  intro H locs ls hP hS hl
  exact va_mmax hx hb (hml.trans hl.1.symm) hown (hts _ hlink) (hts _ wt_Lib_Math_max_name) (hts _ wnJ9) (hts _ wc_Lib_Math_max_name) (Nat.le_trans hd1 hfr) (by omega) hkc hks hd (k H locs ls hP hS hl)
def gx_min (x y : Int32) : Int32 := if y < x then y else x
theorem gx_mmin (Cx : gx_Cx κ Γ own cc nL0 d) {idx : Nat} {x y : Int32} (hlink : Cond.methodLink own idx Lib.Math.min.name ∈ gx_T) (hd1 : 1 ≤ d) (hr : (st.map fun v => v.category).sum ≤ 8) (hd : gx_D cc pc (.invokestatic idx) 3 pc2) (k : gx_G κ Γ pc2 lv (.int (gx_min x y) :: st) M) : gx_G κ Γ pc lv (.int y :: .int x :: st) M := by
  obtain ⟨p, e, R, s, m, args, below, meth, c, A, nL, kc, kss, Q⟩ := Γ
  obtain ⟨hx, hb, hml, hown, hts, hK, hDa, hSt, hsub, ⟨hfr, hlo, hkc, hks⟩, hnL, hDg⟩ := Cx
  obtain ⟨hd, rfl⟩ := hd
  intro H locs ls hP hS hl
  exact va_mmin hx hb (hml.trans hl.1.symm) hown (hts _ hlink) (hts _ wt_Lib_Math_min_name) (hts _ wnJ9) (hts _ wc_Lib_Math_min_name) (Nat.le_trans hd1 hfr) (by omega) hkc hks hd (k H locs ls hP hS hl)
abbrev gx_rm (d : Nat) : Room := { frames := d, cells := 0, slots := 0, locals := 64 * d }
def gx_CI (κ : gx_K) (y : MethodName) (b : ByteArray) (nl : Nat) (ret : Option FieldType) (d : Nat) (av : List Value) (M : gx_Mem) (r : Int32) (M2 : gx_Mem) : Prop := Met κ.1 y (.code y b nl ret :: gx_T) (gx_rm d) (va_Pc av (fun U => gx_W κ M U)) (va_Qi (fun x (_ : Unit) => x = r) (fun _ t => gx_W κ M2 t) (gx_A κ)) 0 0 (gx_A κ)
def gx_CJ (κ : gx_K) (y : MethodName) (b : ByteArray) (nl : Nat) (ret : Option FieldType) (d : Nat) (av : List Value) (M : gx_Mem) (r : Int64) (M2 : gx_Mem) : Prop := Met κ.1 y (.code y b nl ret :: gx_T) (gx_rm d) (va_Pc av (fun U => gx_W κ M U)) (va_Ql (fun x (_ : Unit) => x = r) (fun _ t => gx_W κ M2 t) (gx_A κ)) 0 0 (gx_A κ)
def gx_CV (κ : gx_K) (y : MethodName) (b : ByteArray) (nl : Nat) (ret : Option FieldType) (d : Nat) (av : List Value) (M : gx_Mem) (M2 : gx_Mem) : Prop := Met κ.1 y (.code y b nl ret :: gx_T) (gx_rm d) (va_Pc av (fun U => gx_W κ M U)) (va_Qv (fun (_ : Unit) => True) (fun _ t => gx_W κ M2 t) (gx_A κ)) 0 0 (gx_A κ)
def gx_MX (y : MethodName) (b : ByteArray) (nl : Nat) (ret : Option FieldType) (n : Nat) : Prop := Cond.code y b nl ret ∈ gx_T ∧ Cond.initialized y.cls ∈ gx_T ∧ (y.cls ≠ "java/lang/invoke/MethodHandle" ∧ y.cls ≠ "java/lang/invoke/VarHandle" ∧ (parseMethodDescriptor y.desc).map (fun d => d.parameters.length) = some n) ∧ nl ≤ 30
def gx_MV (y : MethodName) (b : ByteArray) (nl : Nat) (ret : Option FieldType) (n : Nat) : Prop := gx_MX y b nl ret n ∧ Cond.instanceMethod y ∈ gx_T ∧ Cond.selects y.cls y y ∈ gx_T
def gx_MS (y : MethodName) (b : ByteArray) (nl : Nat) (ret : Option FieldType) (n : Nat) : Prop := gx_MX y b nl ret n ∧ Cond.static y ∈ gx_T
theorem gx_goodV {idx : Nat} {y : MethodName} {b : ByteArray} {nl n : Nat} {ret : Option FieldType} (hl : Cond.methodLink own idx y ∈ gx_T) (hy : gx_MV y b nl ret n) : GoodIn gx_T (wsV own idx y.cls y (.code y b nl ret :: gx_T)) := by
  intro w hw
  have hm : w ∈ gx_T := by
    simp only [wsV, List.mem_append, List.mem_cons, List.not_mem_nil, or_false] at hw
    rcases hw with (rfl | rfl | rfl | rfl) | rfl | hw
    · exact hl
    · exact hy.2.1
    · exact hy.2.2
    · exact hy.1.2.1
    · exact hy.1.1
    · exact hw
  exact ⟨hm, good_of_word (List.mem_filter.mp hm).2⟩
theorem gx_goodS {idx : Nat} {y : MethodName} {b : ByteArray} {nl n : Nat} {ret : Option FieldType} (hl : Cond.methodLink own idx y ∈ gx_T) (hy : gx_MS y b nl ret n) : GoodIn gx_T (va_wsS own idx y (.code y b nl ret :: gx_T)) := by
  intro w hw
  have hm : w ∈ gx_T := by
    simp only [va_wsS, List.mem_append, List.mem_cons, List.not_mem_nil, or_false] at hw
    rcases hw with (rfl | rfl | rfl) | rfl | hw
    · exact hl
    · exact hy.2
    · exact hy.1.2.1
    · exact hy.1.1
    · exact hw
  exact ⟨hm, good_of_word (List.mem_filter.mp hm).2⟩
theorem gx_W_blind {U : State} {g : JFrame} {mk : MethodId} {a : Array Value} (h : gx_W κ M U) : gx_W κ M (U.calling g mk a) := ⟨h.1, va_K.moved (u := U) (U := U.calling g mk a) (Vm.Alike.refl U.vm) h.2.1, h.2.2.1, gx_St.moved (u := U) (U := U.calling g mk a) (Vm.Alike.refl U.vm) h.2.2.2⟩
theorem gx_W_at {s U : State} {A : Nat → Prop} {H : Heap} {locs : List Loc} (hP : va_P κ.2.1 vwCl (gx_ws κ M) H) (hK : va_K κ.2.1 vwCl (gx_tys κ) s) (hD : va_D (gx_A κ) (gx_ws κ M)) (hSt : gx_St κ A s s.heap) (hsub : ∀ q : Nat, gx_A κ q → A q) (hS : va_S A s.heap H locs) (hU : U.heap = H) (hW : s.WarmedH U.vm) : gx_W κ M U := by
  refine ⟨by rw [hU]; exact hP, va_K.moved hW.alike hK, hD, ?_⟩
  rw [hU]
  exact ((hSt.kept hS.2.1).moved hW.alike).narrow hsub
theorem gx_callVI (Cx : gx_Cx κ Γ own cc nL0 d) {y : MethodName} {b : ByteArray} {nl n d2 idx k ci : Nat} {ret : Option FieldType} {As : List Value} {fl : List (Option Nat)} {Tq : u_T} {Nq : Nat} {r : Int32} (hy : gx_MV y b nl ret n) (hl : Cond.methodLink own idx y ∈ gx_T) (hc : vwCl[ci]? = some (y.cls, Tq, Nq)) (hk : gx_lay[k]? = some (.inl (ci, fl))) (hdd : d2 + 1 ≤ d) (hn : As.length = n) (hd : gx_D cc pc (.invokevirtual idx) 3 pc2) (hC : gx_CI κ y b nl ret d2 (.ref (gx_a κ k) :: As) M r M2) (hst : st = As.reverse ++ .ref (gx_a κ k) :: rest) (hr : (rest.map fun v => v.category).sum ≤ 8) (kk : gx_G κ Γ pc2 lv (.int r :: rest) M2) : gx_G κ Γ pc lv st M := by
  obtain ⟨p, e, R, s, m, args, below, meth, c, A, nL, kc, kss, Q⟩ := Γ
  obtain ⟨hx, hb, hml, hown, hts, hK, hDa, hSt, hsub, ⟨hfr, hlo, hkc, hks⟩, hnL, hDg⟩ := Cx
  obtain ⟨hd, rfl⟩ := hd
  intro H locs ls hP hS hl0
  subst hst
  have hrd : (gx_rm d2).frames + 1 ≤ R.frames ∧ 8 + (nl + 11) + (gx_rm d2).locals ≤ R.locals := by
    have := hy.1.2.2.2
    show d2 + 1 ≤ R.frames ∧ 8 + (nl + 11) + 64 * d2 ≤ R.locals
    omega
  refine va_calli (va_runV (As := As) (rest := rest) ⟨hx, hb, hml, hown, hts⟩ hC (cwV n hts (gx_goodV hl hy) rfl rfl rfl ⟨rfl, hy.1.2.2.1⟩ hrd) ⟨fun a U g mk q => ⟨q.1, gx_W_blind q.2⟩, va_recv hK hP hc (gx_at hk), fun U hU hW => ⟨rfl, gx_W_at hP hK (hDg M) hSt hsub hS hU hW⟩⟩ rfl hn hl0.1 rfl (lv_room hr) hd ⟨hkc, hks⟩) hS (fun q _ h => hsub q h) hsub (fun r2 u t H1 locs1 ht hvm hw hB hz1 hk1 hS1 => ?_)
  have hP1 := hB.1
  rw [ht] at hP1
  subst hw
  exact kk H1 locs1 ls hP1 hS1 hl0
theorem gx_callVJ (Cx : gx_Cx κ Γ own cc nL0 d) {y : MethodName} {b : ByteArray} {nl n d2 idx k ci : Nat} {ret : Option FieldType} {As : List Value} {fl : List (Option Nat)} {Tq : u_T} {Nq : Nat} {r : Int64} (hy : gx_MV y b nl ret n) (hl : Cond.methodLink own idx y ∈ gx_T) (hc : vwCl[ci]? = some (y.cls, Tq, Nq)) (hk : gx_lay[k]? = some (.inl (ci, fl))) (hdd : d2 + 1 ≤ d) (hn : As.length = n) (hd : gx_D cc pc (.invokevirtual idx) 3 pc2) (hC : gx_CJ κ y b nl ret d2 (.ref (gx_a κ k) :: As) M r M2) (hst : st = As.reverse ++ .ref (gx_a κ k) :: rest) (hr : (rest.map fun v => v.category).sum ≤ 8) (kk : gx_G κ Γ pc2 lv (.long r :: rest) M2) : gx_G κ Γ pc lv st M := by
  obtain ⟨p, e, R, s, m, args, below, meth, c, A, nL, kc, kss, Q⟩ := Γ
  obtain ⟨hx, hb, hml, hown, hts, hK, hDa, hSt, hsub, ⟨hfr, hlo, hkc, hks⟩, hnL, hDg⟩ := Cx
  obtain ⟨hd, rfl⟩ := hd
  intro H locs ls hP hS hl0
  subst hst
  have hrd : (gx_rm d2).frames + 1 ≤ R.frames ∧ 8 + (nl + 11) + (gx_rm d2).locals ≤ R.locals := by
    have := hy.1.2.2.2
    show d2 + 1 ≤ R.frames ∧ 8 + (nl + 11) + 64 * d2 ≤ R.locals
    omega
  refine va_calll (va_runV (As := As) (rest := rest) ⟨hx, hb, hml, hown, hts⟩ hC (cwV n hts (gx_goodV hl hy) rfl rfl rfl ⟨rfl, hy.1.2.2.1⟩ hrd) ⟨fun a U g mk q => ⟨q.1, gx_W_blind q.2⟩, va_recv hK hP hc (gx_at hk), fun U hU hW => ⟨rfl, gx_W_at hP hK (hDg M) hSt hsub hS hU hW⟩⟩ rfl hn hl0.1 rfl (lv_room hr) hd ⟨hkc, hks⟩) hS (fun q _ h => hsub q h) hsub (fun r2 u t H1 locs1 ht hvm hw hB hz1 hk1 hS1 => ?_)
  have hP1 := hB.1
  rw [ht] at hP1
  subst hw
  exact kk H1 locs1 ls hP1 hS1 hl0
theorem gx_callVV (Cx : gx_Cx κ Γ own cc nL0 d) {y : MethodName} {b : ByteArray} {nl n d2 idx k ci : Nat} {ret : Option FieldType} {As : List Value} {fl : List (Option Nat)} {Tq : u_T} {Nq : Nat} (hy : gx_MV y b nl ret n) (hl : Cond.methodLink own idx y ∈ gx_T) (hc : vwCl[ci]? = some (y.cls, Tq, Nq)) (hk : gx_lay[k]? = some (.inl (ci, fl))) (hdd : d2 + 1 ≤ d) (hn : As.length = n) (hd : gx_D cc pc (.invokevirtual idx) 3 pc2) (hC : gx_CV κ y b nl ret d2 (.ref (gx_a κ k) :: As) M M2) (hst : st = As.reverse ++ .ref (gx_a κ k) :: rest) (hr : (rest.map fun v => v.category).sum ≤ 8) (kk : gx_G κ Γ pc2 lv (rest) M2) : gx_G κ Γ pc lv st M := by
  obtain ⟨p, e, R, s, m, args, below, meth, c, A, nL, kc, kss, Q⟩ := Γ
  obtain ⟨hx, hb, hml, hown, hts, hK, hDa, hSt, hsub, ⟨hfr, hlo, hkc, hks⟩, hnL, hDg⟩ := Cx
  obtain ⟨hd, rfl⟩ := hd
  intro H locs ls hP hS hl0
  subst hst
  have hrd : (gx_rm d2).frames + 1 ≤ R.frames ∧ 8 + (nl + 11) + (gx_rm d2).locals ≤ R.locals := by
    have := hy.1.2.2.2
    show d2 + 1 ≤ R.frames ∧ 8 + (nl + 11) + 64 * d2 ≤ R.locals
    omega
  refine va_callv (va_runV (As := As) (rest := rest) ⟨hx, hb, hml, hown, hts⟩ hC (cwV n hts (gx_goodV hl hy) rfl rfl rfl ⟨rfl, hy.1.2.2.1⟩ hrd) ⟨fun a U g mk q => ⟨q.1, gx_W_blind q.2⟩, va_recv hK hP hc (gx_at hk), fun U hU hW => ⟨rfl, gx_W_at hP hK (hDg M) hSt hsub hS hU hW⟩⟩ rfl hn hl0.1 rfl (lv_room hr) hd ⟨hkc, hks⟩) hS (fun q _ h => hsub q h) hsub (fun u t H1 locs1 ht hvm hw hB hz1 hk1 hS1 => ?_)
  have hP1 := hB.1
  rw [ht] at hP1
  exact kk H1 locs1 ls hP1 hS1 hl0
theorem gx_callSI (Cx : gx_Cx κ Γ own cc nL0 d) {y : MethodName} {b : ByteArray} {nl n d2 idx : Nat} {ret : Option FieldType} {As : List Value} {r : Int32} (hy : gx_MS y b nl ret n) (hl : Cond.methodLink own idx y ∈ gx_T) (hdd : d2 + 1 ≤ d) (hn : As.length = n) (hd : gx_D cc pc (.invokestatic idx) 3 pc2) (hC : gx_CI κ y b nl ret d2 (As) M r M2) (hst : st = As.reverse ++ rest) (hr : (rest.map fun v => v.category).sum ≤ 8) (kk : gx_G κ Γ pc2 lv (.int r :: rest) M2) : gx_G κ Γ pc lv st M := by
  obtain ⟨p, e, R, s, m, args, below, meth, c, A, nL, kc, kss, Q⟩ := Γ
  obtain ⟨hx, hb, hml, hown, hts, hK, hDa, hSt, hsub, ⟨hfr, hlo, hkc, hks⟩, hnL, hDg⟩ := Cx
  obtain ⟨hd, rfl⟩ := hd
  intro H locs ls hP hS hl0
  subst hst
  have hrd : (gx_rm d2).frames + 1 ≤ R.frames ∧ 8 + (nl + 11) + (gx_rm d2).locals ≤ R.locals := by
    have := hy.1.2.2.2
    show d2 + 1 ≤ R.frames ∧ 8 + (nl + 11) + 64 * d2 ≤ R.locals
    omega
  refine va_calli (va_runS (As := As) (rest := rest) ⟨hx, hb, hml, hown, hts⟩ hC (va_cwS n hts (gx_goodS hl hy) rfl rfl rfl hy.1.2.2.1 hrd) ⟨fun a U g mk q => ⟨q.1, gx_W_blind q.2⟩, fun U hU hW => ⟨rfl, gx_W_at hP hK (hDg M) hSt hsub hS hU hW⟩⟩ rfl hn hl0.1 rfl (lv_room hr) hd ⟨hkc, hks⟩) hS (fun q _ h => hsub q h) hsub (fun r2 u t H1 locs1 ht hvm hw hB hz1 hk1 hS1 => ?_)
  have hP1 := hB.1
  rw [ht] at hP1
  subst hw
  exact kk H1 locs1 ls hP1 hS1 hl0
theorem gx_callSJ (Cx : gx_Cx κ Γ own cc nL0 d) {y : MethodName} {b : ByteArray} {nl n d2 idx : Nat} {ret : Option FieldType} {As : List Value} {r : Int64} (hy : gx_MS y b nl ret n) (hl : Cond.methodLink own idx y ∈ gx_T) (hdd : d2 + 1 ≤ d) (hn : As.length = n) (hd : gx_D cc pc (.invokestatic idx) 3 pc2) (hC : gx_CJ κ y b nl ret d2 (As) M r M2) (hst : st = As.reverse ++ rest) (hr : (rest.map fun v => v.category).sum ≤ 8) (kk : gx_G κ Γ pc2 lv (.long r :: rest) M2) : gx_G κ Γ pc lv st M := by
  obtain ⟨p, e, R, s, m, args, below, meth, c, A, nL, kc, kss, Q⟩ := Γ
  obtain ⟨hx, hb, hml, hown, hts, hK, hDa, hSt, hsub, ⟨hfr, hlo, hkc, hks⟩, hnL, hDg⟩ := Cx
  obtain ⟨hd, rfl⟩ := hd
  intro H locs ls hP hS hl0
  subst hst
  have hrd : (gx_rm d2).frames + 1 ≤ R.frames ∧ 8 + (nl + 11) + (gx_rm d2).locals ≤ R.locals := by
    have := hy.1.2.2.2
    show d2 + 1 ≤ R.frames ∧ 8 + (nl + 11) + 64 * d2 ≤ R.locals
    omega
  refine va_calll (va_runS (As := As) (rest := rest) ⟨hx, hb, hml, hown, hts⟩ hC (va_cwS n hts (gx_goodS hl hy) rfl rfl rfl hy.1.2.2.1 hrd) ⟨fun a U g mk q => ⟨q.1, gx_W_blind q.2⟩, fun U hU hW => ⟨rfl, gx_W_at hP hK (hDg M) hSt hsub hS hU hW⟩⟩ rfl hn hl0.1 rfl (lv_room hr) hd ⟨hkc, hks⟩) hS (fun q _ h => hsub q h) hsub (fun r2 u t H1 locs1 ht hvm hw hB hz1 hk1 hS1 => ?_)
  have hP1 := hB.1
  rw [ht] at hP1
  subst hw
  exact kk H1 locs1 ls hP1 hS1 hl0
theorem gx_callSV (Cx : gx_Cx κ Γ own cc nL0 d) {y : MethodName} {b : ByteArray} {nl n d2 idx : Nat} {ret : Option FieldType} {As : List Value} (hy : gx_MS y b nl ret n) (hl : Cond.methodLink own idx y ∈ gx_T) (hdd : d2 + 1 ≤ d) (hn : As.length = n) (hd : gx_D cc pc (.invokestatic idx) 3 pc2) (hC : gx_CV κ y b nl ret d2 (As) M M2) (hst : st = As.reverse ++ rest) (hr : (rest.map fun v => v.category).sum ≤ 8) (kk : gx_G κ Γ pc2 lv (rest) M2) : gx_G κ Γ pc lv st M := by
  obtain ⟨p, e, R, s, m, args, below, meth, c, A, nL, kc, kss, Q⟩ := Γ
  obtain ⟨hx, hb, hml, hown, hts, hK, hDa, hSt, hsub, ⟨hfr, hlo, hkc, hks⟩, hnL, hDg⟩ := Cx
  obtain ⟨hd, rfl⟩ := hd
  intro H locs ls hP hS hl0
  subst hst
  have hrd : (gx_rm d2).frames + 1 ≤ R.frames ∧ 8 + (nl + 11) + (gx_rm d2).locals ≤ R.locals := by
    have := hy.1.2.2.2
    show d2 + 1 ≤ R.frames ∧ 8 + (nl + 11) + 64 * d2 ≤ R.locals
    omega
  refine va_callv (va_runS (As := As) (rest := rest) ⟨hx, hb, hml, hown, hts⟩ hC (va_cwS n hts (gx_goodS hl hy) rfl rfl rfl hy.1.2.2.1 hrd) ⟨fun a U g mk q => ⟨q.1, gx_W_blind q.2⟩, fun U hU hW => ⟨rfl, gx_W_at hP hK (hDg M) hSt hsub hS hU hW⟩⟩ rfl hn hl0.1 rfl (lv_room hr) hd ⟨hkc, hks⟩) hS (fun q _ h => hsub q h) hsub (fun u t H1 locs1 ht hvm hw hB hz1 hk1 hS1 => ?_)
  have hP1 := hB.1
  rw [ht] at hP1
  exact kk H1 locs1 ls hP1 hS1 hl0
theorem gx_ret {T β : Type} {a : T} {x y : β} {P : β → Prop} (h : some x = some y) (k : P y) : P x := by cases h; exact k
theorem gx_enterI {y : MethodName} {b : ByteArray} {nl n : Nat} {tyr : FieldType} {av : List Value} {r : Int32} (hy : gx_MX y b nl (some tyr) n) (hp : plainName y.cls = true) (hav : (lg_sl av).length ≤ nl) (body : ∀ Γ : gx_Γ, gx_Cx κ Γ y.cls b nl d → (∀ (pc pc2 : Nat) (lv : List (Nat × Value)), gx_D b pc .ireturn 1 pc2 → (narrow tyr (.int r) = .int r) → gx_G κ Γ pc lv [.int r] M2) → gx_G κ Γ 0 (lv_args 0 av) [] M) : gx_CI κ y b nl (some tyr) d av M r M2 := by
  refine Met.ofW (cc := b) (maxL := nl) (ret := (some tyr)) hp rfl ?_
  intro p e s m args below meth c s₁ B hml hv
  obtain ⟨rfl, hP, hK, hD, hSt⟩ := hv
  have hx := B.exec
  have hb := B.bytes
  have hr := B.returns
  have hts0 := atoms_spec (ws := .code y b nl (some tyr) :: gx_T) B.pre
  have hts : ∀ w ∈ gx_T, w.before av.toArray s = true := fun w hw => hts0 w (List.mem_cons_of_mem _ hw)
  have hown : s.vm.findClass y.cls = some m.cls := findClass_of_methodNamed B.named
  have hlocks := B.notSynchronized
  have hl := lv_entry av (n := nl) hav
  rw [lg_entry_eq]
  generalize (lg_sl av ++ List.replicate (nl - (lg_sl av).length) Slot.unset).toArray = ls at hl ⊢
  refine body (p, e, gx_rm d, s, m, av.toArray, below, meth, c, gx_A κ, nl, 0, 0, _) ⟨hx, hb, hml, hown, hts, hK, fun M3 => gx_D_any M3 hD, hSt, fun _ h => h, ⟨Nat.le_refl _, Nat.le_refl _, Nat.le_refl _, Nat.le_refl _⟩, rfl, fun M3 => gx_D_any M3 hD⟩ ?_ s.heap [] ls hP va_S.rf hl
  intro pc pc2 lv hd hn H locs ls2 hP2 hS2 hl2
  exact W.zret hx hb hr hn (fun t ht hW => ⟨⟨r, (), rfl, rfl, gx_W_at hP2 hK (gx_D_any _ hD) hSt (fun _ h => h) hS2 ht hW⟩, hS2.F ht⟩) hS2.2.2 hd.1
theorem gx_enterJ {y : MethodName} {b : ByteArray} {nl n : Nat} {av : List Value} {r : Int64} (hy : gx_MX y b nl (some .long) n) (hp : plainName y.cls = true) (hav : (lg_sl av).length ≤ nl) (body : ∀ Γ : gx_Γ, gx_Cx κ Γ y.cls b nl d → (∀ (pc pc2 : Nat) (lv : List (Nat × Value)), gx_D b pc .lreturn 1 pc2 → gx_G κ Γ pc lv [.long r] M2) → gx_G κ Γ 0 (lv_args 0 av) [] M) : gx_CJ κ y b nl (some .long) d av M r M2 := by
  refine Met.ofW (cc := b) (maxL := nl) (ret := (some .long)) hp rfl ?_
  intro p e s m args below meth c s₁ B hml hv
  obtain ⟨rfl, hP, hK, hD, hSt⟩ := hv
  have hx := B.exec
  have hb := B.bytes
  have hr := B.returns
  have hts0 := atoms_spec (ws := .code y b nl (some .long) :: gx_T) B.pre
  have hts : ∀ w ∈ gx_T, w.before av.toArray s = true := fun w hw => hts0 w (List.mem_cons_of_mem _ hw)
  have hown : s.vm.findClass y.cls = some m.cls := findClass_of_methodNamed B.named
  have hlocks := B.notSynchronized
  have hl := lv_entry av (n := nl) hav
  rw [lg_entry_eq]
  generalize (lg_sl av ++ List.replicate (nl - (lg_sl av).length) Slot.unset).toArray = ls at hl ⊢
  refine body (p, e, gx_rm d, s, m, av.toArray, below, meth, c, gx_A κ, nl, 0, 0, _) ⟨hx, hb, hml, hown, hts, hK, fun M3 => gx_D_any M3 hD, hSt, fun _ h => h, ⟨Nat.le_refl _, Nat.le_refl _, Nat.le_refl _, Nat.le_refl _⟩, rfl, fun M3 => gx_D_any M3 hD⟩ ?_ s.heap [] ls hP va_S.rf hl
  intro pc pc2 lv hd H locs ls2 hP2 hS2 hl2
  exact W.lret hx hb hr (fun t ht hW => ⟨⟨r, (), rfl, rfl, gx_W_at hP2 hK (gx_D_any _ hD) hSt (fun _ h => h) hS2 ht hW⟩, hS2.F ht⟩) hS2.2.2 hd.1
theorem gx_enterV {y : MethodName} {b : ByteArray} {nl n : Nat} {av : List Value} (hy : gx_MX y b nl none n) (hp : plainName y.cls = true) (hav : (lg_sl av).length ≤ nl) (body : ∀ Γ : gx_Γ, gx_Cx κ Γ y.cls b nl d → (∀ (pc pc2 : Nat) (lv : List (Nat × Value)), gx_D b pc .return_ 1 pc2 → gx_G κ Γ pc lv [] M2) → gx_G κ Γ 0 (lv_args 0 av) [] M) : gx_CV κ y b nl none d av M M2 := by
  refine Met.ofW (cc := b) (maxL := nl) (ret := none) hp rfl ?_
  intro p e s m args below meth c s₁ B hml hv
  obtain ⟨rfl, hP, hK, hD, hSt⟩ := hv
  have hx := B.exec
  have hb := B.bytes
  have hr := B.returns
  have hts0 := atoms_spec (ws := .code y b nl none :: gx_T) B.pre
  have hts : ∀ w ∈ gx_T, w.before av.toArray s = true := fun w hw => hts0 w (List.mem_cons_of_mem _ hw)
  have hown : s.vm.findClass y.cls = some m.cls := findClass_of_methodNamed B.named
  have hlocks := B.notSynchronized
  have hl := lv_entry av (n := nl) hav
  rw [lg_entry_eq]
  generalize (lg_sl av ++ List.replicate (nl - (lg_sl av).length) Slot.unset).toArray = ls at hl ⊢
  refine body (p, e, gx_rm d, s, m, av.toArray, below, meth, c, gx_A κ, nl, 0, 0, _) ⟨hx, hb, hml, hown, hts, hK, fun M3 => gx_D_any M3 hD, hSt, fun _ h => h, ⟨Nat.le_refl _, Nat.le_refl _, Nat.le_refl _, Nat.le_refl _⟩, rfl, fun M3 => gx_D_any M3 hD⟩ ?_ s.heap [] ls hP va_S.rf hl
  intro pc pc2 lv hd H locs ls2 hP2 hS2 hl2
  exact W.vret hx hb hr (fun t ht hW => ⟨⟨(), rfl, trivial, gx_W_at hP2 hK (gx_D_any _ hD) hSt (fun _ h => h) hS2 ht hW⟩, hS2.F ht⟩) hS2.2.2 hd.1
theorem gx_rI {b : ByteArray} {tyr : FieldType} {v r : Int32} (h : some (v, M) = some (r, M2)) (hn : narrow tyr (.int v) = .int v) (hd : gx_D b pc .ireturn 1 pc2) (hR : ∀ (pc pc2 : Nat) (lv : List (Nat × Value)), gx_D b pc .ireturn 1 pc2 → narrow tyr (.int r) = .int r → gx_G κ Γ pc lv [.int r] M2) : gx_G κ Γ pc lv [.int v] M := by cases h; exact hR _ _ _ hd hn
theorem gx_rIp {b : ByteArray} {tyr : FieldType} {v r : Int32} (h : some v = some r) (hn : narrow tyr (.int v) = .int v) (hd : gx_D b pc .ireturn 1 pc2) (hR : ∀ (pc pc2 : Nat) (lv : List (Nat × Value)), gx_D b pc .ireturn 1 pc2 → narrow tyr (.int r) = .int r → gx_G κ Γ pc lv [.int r] M) : gx_G κ Γ pc lv [.int v] M := by cases h; exact hR _ _ _ hd hn
theorem gx_rZ {b : ByteArray} {v r : Int32} (h : gx_gd (gx_isZ v) (some (v, M)) = some (r, M2)) (hd : gx_D b pc .ireturn 1 pc2) (hR : ∀ (pc pc2 : Nat) (lv : List (Nat × Value)), gx_D b pc .ireturn 1 pc2 → narrow .boolean (.int r) = .int r → gx_G κ Γ pc lv [.int r] M2) : gx_G κ Γ pc lv [.int v] M := by
  obtain ⟨h1, h⟩ := gx_gd_of h
  exact gx_rI h (gx_isZ_n h1) hd hR
theorem gx_rZp {b : ByteArray} {v r : Int32} (h : gx_gd (gx_isZ v) (some v) = some r) (hd : gx_D b pc .ireturn 1 pc2) (hR : ∀ (pc pc2 : Nat) (lv : List (Nat × Value)), gx_D b pc .ireturn 1 pc2 → narrow .boolean (.int r) = .int r → gx_G κ Γ pc lv [.int r] M) : gx_G κ Γ pc lv [.int v] M := by
  obtain ⟨h1, h⟩ := gx_gd_of h
  exact gx_rIp h (gx_isZ_n h1) hd hR
theorem gx_rJ {b : ByteArray} {v r : Int64} (h : some (v, M) = some (r, M2)) (hd : gx_D b pc .lreturn 1 pc2) (hR : ∀ (pc pc2 : Nat) (lv : List (Nat × Value)), gx_D b pc .lreturn 1 pc2 → gx_G κ Γ pc lv [.long r] M2) : gx_G κ Γ pc lv [.long v] M := by cases h; exact hR _ _ _ hd
theorem gx_rJp {b : ByteArray} {v r : Int64} (h : some v = some r) (hd : gx_D b pc .lreturn 1 pc2) (hR : ∀ (pc pc2 : Nat) (lv : List (Nat × Value)), gx_D b pc .lreturn 1 pc2 → gx_G κ Γ pc lv [.long r] M) : gx_G κ Γ pc lv [.long v] M := by cases h; exact hR _ _ _ hd
theorem gx_rV {b : ByteArray} (h : some M = some M2) (hd : gx_D b pc .return_ 1 pc2) (hR : ∀ (pc pc2 : Nat) (lv : List (Nat × Value)), gx_D b pc .return_ 1 pc2 → gx_G κ Γ pc lv [] M2) : gx_G κ Γ pc lv [] M := by cases h; exact hR _ _ _ hd
/-- a house: an object of class 2 with its six rows behind it -/
def gx_Ho (h : Nat) : Prop := gx_lay[h]? = some (.inl (2, [some 0, some (h + 1), some (h + 2), some (h + 3), some (h + 4), some (h + 5), some (h + 6), none, none, none])) ∧ gx_lay[h + 1]? = some (.inr (0, 6, [])) ∧ gx_lay[h + 2]? = some (.inr (0, 6, [])) ∧ gx_lay[h + 3]? = some (.inr (0, 24, [])) ∧ gx_lay[h + 4]? = some (.inr (0, 24, [])) ∧ gx_lay[h + 5]? = some (.inr (0, 24, [])) ∧ gx_lay[h + 6]? = some (.inr (0, 5, []))
theorem gx_Ho9 : gx_Ho 9 := ⟨rfl, rfl, rfl, rfl, rfl, rfl, rfl⟩
theorem gx_Ho16 : gx_Ho 16 := ⟨rfl, rfl, rfl, rfl, rfl, rfl, rfl⟩
theorem gx_Ho23 : gx_Ho 23 := ⟨rfl, rfl, rfl, rfl, rfl, rfl, rfl⟩
end GXM

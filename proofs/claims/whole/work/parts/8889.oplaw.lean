/-! A LAW, told: both read the same text -/
abbrev zz_oth (x : Int32) : Prop := zz_dg x = false ∧ zz_na x = none ∧ zz_lvO x = 9 ∧ ¬ x = 40 ∧ ¬ x = 41 ∧ ¬ x = 33 ∧ ¬ x = 45 ∧ ¬ x = 59 ∧ ¬ x = 63
def zz_al (b c : Nat → Int32) : Prop := ∀ p, b p = c p ∨ (zz_oth (b p) ∧ zz_oth (c p))
theorem zz_nu_al {b c : Nat → Int32} (h : zz_al b c) : ∀ k p v, zz_nu b k p v = zz_nu c k p v := by
  intro k
  induction k with
  | zero => intro p v; rfl
  | succ k ih =>
    intro p v
    unfold zz_nu
    rcases h p with e | ⟨e, e2⟩
    · rw [e, ih]
    · rw [e.1, e2.1, if_neg Bool.false_ne_true, if_neg Bool.false_ne_true]
theorem zz_lp_al {b c : Nat → Int32} (h : zz_al b c) (f : Nat → Nat × Option (List (Int32 × Int32))) {L : Nat} (hL : L < 5) : ∀ k p l, zz_lp b f L k p l = zz_lp c f L k p l
  | 0, _, _ => rfl
  | k + 1, p, l => by
    unfold zz_lp
    rcases h p with e | ⟨e, e2⟩
    · rw [e]
      split
      · rcases f (p + 1) with ⟨q, _ | c2⟩
        · rfl
        · exact zz_lp_al h f hL k q _
      · rfl
    · rw [e.2.2.1, e2.2.2.1, if_neg (by omega), if_neg (by omega)]
theorem zz_al40 {b c : Nat → Int32} (h : zz_al b c) (p : Nat) : zz_dg (b p) = zz_dg (c p) ∧ zz_na (b p) = zz_na (c p) ∧ (b p = 40 ↔ c p = 40) ∧ (b p = 41 ↔ c p = 41) ∧ (b p = 33 ↔ c p = 33) ∧ (b p = 45 ↔ c p = 45) ∧ (b p = 59 ↔ c p = 59) ∧ (b p = 63 ↔ c p = 63) := by
  rcases h p with e | ⟨⟨a1, a2, a3, a4, a5, a6, a7, a8, a9⟩, b1, b2, b3, b4, b5, b6, b7, b8, b9⟩
  · rw [e]; exact ⟨rfl, rfl, Iff.rfl, Iff.rfl, Iff.rfl, Iff.rfl, Iff.rfl, Iff.rfl⟩
  · exact ⟨a1.trans b1.symm, a2.trans b2.symm, ⟨fun h => absurd h a4, fun h => absurd h b4⟩, ⟨fun h => absurd h a5, fun h => absurd h b5⟩, ⟨fun h => absurd h a6, fun h => absurd h b6⟩, ⟨fun h => absurd h a7, fun h => absurd h b7⟩, ⟨fun h => absurd h a8, fun h => absurd h b8⟩, ⟨fun h => absurd h a9, fun h => absurd h b9⟩⟩
theorem zz_s1_al {b c : Nat → Int32} (h : zz_al b c) (f g : Nat → Nat × Option (List (Int32 × Int32))) (o p : Nat) : zz_s1 b f g o p = zz_s1 c f g o p := by
  unfold zz_s1
  obtain ⟨a1, a2, a3, a4, a5, a6, a7, a8⟩ := zz_al40 h p
  simp only [zz_nu_al h, a1, a2, (zz_al40 h (zz_nu c 4 p 0).1).1, propext a3, propext a5, propext a6]
  have e41 : ∀ q, (b q = 41) = (c q = 41) := fun q => propext (zz_al40 h q).2.2.2.1
  simp only [e41]
theorem zz_sp_al {b c : Nat → Int32} (h : zz_al b c) : ∀ d L o p, zz_sp b d L o p = zz_sp c d L o p
  | 0, _, _, _ => rfl
  | d + 1, L, o, p => by
    have hf : ∀ L o, zz_sp b d L o = zz_sp c d L o := fun L o => funext (zz_sp_al h d L o)
    unfold zz_sp
    simp only [hf, zz_s1_al h]
    by_cases hL : L < 5
    · rw [if_pos hL, if_pos hL]
      rcases zz_sp c d (L + 1) o p with ⟨q, _ | l⟩
      · rfl
      · exact zz_lp_al h _ hL _ _ _
    · rw [if_neg hL, if_neg hL]
theorem zz_ln_al {b c : Nat → Int32} (h : zz_al b c) (p : Nat) : zz_ln b p = zz_ln c p := by
  unfold zz_ln
  have e63 : ∀ q, (b q = 63) = (c q = 63) := fun q => propext (zz_al40 h q).2.2.2.2.2.2.2
  simp only [zz_sp_al h, e63]
theorem zz_lns_al {b c : Nat → Int32} (h : zz_al b c) (sz : Nat) : ∀ k p ls, zz_lns b sz k p ls = zz_lns c sz k p ls
  | 0, _, _ => rfl
  | k + 1, p, ls => by
    unfold zz_lns
    have e59 : ∀ q, (b q = 59) = (c q = 59) := fun q => propext (zz_al40 h q).2.2.2.2.2.2.1
    simp only [zz_ln_al h, e59, zz_lns_al h sz k]
set_option maxRecDepth 20000 in
theorem zz_al_byte : ∀ j, j < 256 → nI j = (nI j).toInt8.toInt32 ∨ (zz_oth (nI j) ∧ zz_oth (nI j).toInt8.toInt32) := by decide +kernel
theorem zz_al78 {M : gx_Mem} {sz : Nat} (h : zz_IT M) (hs : sz ≤ 120) : zz_al (zz_b8 M sz) (zz_b7 M sz) := by
  intro p
  unfold zz_b8 zz_b7
  by_cases hp : p < sz
  · rw [if_pos hp, if_pos hp]
    obtain ⟨⟨j, hj, ej⟩, e8⟩ := h.2 p (by omega)
    rw [e8, ej]
    rcases zz_al_byte j (by omega) with e | e
    · exact .inl e.symm
    · exact .inr ⟨e.2, e.1⟩
  · rw [if_neg hp, if_neg hp]; exact .inl rfl
/-- all that the telling of a law writes -/
def zz_SL (k i : Nat) : Bool := match k with
  | 0 => i == 4
  | 1 => true | 2 => true | 7 => true | 8 => true | 69 => true | 70 => true | 71 => true | 72 => true | 73 => true
  | 5 => i == 3 || i == 4 || i == 5
  | 57 => i == 15 || i == 16 || i == 17 || i == 18 || i == 19 || i == 27
  | _ => false
theorem zz_S7_SL : ∀ k i, zz_S7 k i = true → zz_SL k i = true := by
  intro k i h
  unfold zz_S7 at h
  simp only [Bool.or_eq_true, Bool.and_eq_true, beq_iff_eq] at h
  rcases h with (rfl | rfl) | ⟨rfl, rfl | rfl⟩ <;> rfl
theorem zz_S10_SL : ∀ k i, zz_S10 k i = true → zz_SL k i = true := by
  intro k i h
  unfold zz_S10 at h
  simp only [Bool.or_eq_true, beq_iff_eq] at h
  rcases h with (((rfl | rfl) | rfl) | rfl) | rfl <;> rfl
theorem zz_S9_SL : ∀ k i, zz_S9 k i = true → zz_SL k i = true := by
  intro k i h
  unfold zz_S9 zz_S8 at h
  simp only [Bool.or_eq_true, Bool.and_eq_true, beq_iff_eq] at h
  rcases h with (((((⟨rfl, ((rfl | rfl) | rfl) | rfl⟩) | ⟨rfl, _⟩) | ⟨rfl, _⟩) | ⟨rfl, _⟩) | ⟨rfl, _⟩) | ⟨rfl, _⟩ <;> rfl
theorem zz_lH {k i : Nat} (h : zz_pH k i = true) : zz_SL k i = false := by
  unfold zz_pH at h
  split at h <;> simp_all [zz_SL]
theorem zz_lI {k i : Nat} (h : zz_pI k i = true) : zz_SL k i = false := by
  unfold zz_pI at h
  split at h <;> simp_all [zz_SL]
  omega
theorem zz_lC {k i : Nat} (h : zz_pC k i = true) : zz_SL k i = false := by
  unfold zz_pC at h
  split at h <;> simp_all [zz_SL]
  omega
theorem zz_lB {k i : Nat} (h : zz_pB k i = true) : zz_SL k i = false := by
  unfold zz_pB at h
  split at h <;> simp_all [zz_SL]
  omega
theorem zz_lS {k i : Nat} (h : zz_pS k i = true) : zz_SL k i = false := by
  unfold zz_pS at h
  split at h <;> simp_all [zz_SL]
theorem zz_law_Inv {M B : gx_Mem} (h : zz_Inv M) (f : zz_fr zz_SL M B) (h3 : B.1 5 3 = 0) (h15 : B.1 57 15 = 0) (hL : zz_IL B) : zz_Inv B := by
  refine ⟨h.IH.ext (fun k i e => f.2 k i (zz_lH e)) f.1, h.II.ext (fun k i e => f.2 k i (zz_lI e)) f.1, ⟨⟨?_, ?_⟩, fun i hi => ?_⟩, h.IC.ext (fun k i e => f.2 k i (zz_lC e)) f.1, h.IB.ext (fun k i e => f.2 k i (zz_lB e)) f.1, h.IS.at (fun k i e => f.2 k i (zz_lS e)) f.1, hL⟩
  · rw [h3]; exact ⟨0, by omega, rfl⟩
  · rw [h3, h15]
  · rw [f.2 6 i rfl, f.2 68 i rfl]; exact h.IT.2 i hi
theorem zz_fls_pos {ls : List (List (Int32 × Int32) × List (Int32 × Int32))} (h : ls ≠ []) : 0 < (zz_fls ls).length := by
  cases ls with
  | nil => exact absurd rfl h
  | cons l ls =>
    show 0 < (zz_fl l ++ zz_fls ls).length
    unfold zz_fl
    simp only [List.length_append, List.length_cons, List.length_nil]
    omega
theorem zz_lns_ne {b : Nat → Int32} {sz : Nat} : ∀ k p ls q l, zz_lns b sz k p ls = (q, some l) → l ≠ []
  | 0, p, ls, q, l, e => by cases e
  | k + 1, p, ls, q, l, e => by
    unfold zz_lns at e
    rcases hr : zz_ln b p with ⟨q2, _ | x⟩
    · rw [hr] at e; cases e
    · rw [hr] at e
      simp only at e
      split at e
      · cases e; simp
      · split at e
        · exact zz_lns_ne k _ _ _ _ e
        · cases e
/-- both laws are what the text says -/
theorem zz_IL_new {B : gx_Mem} {ls : List (List (Int32 × Int32) × List (Int32 × Int32))} (hne : ls ≠ []) (hw : ∀ x, x ∈ ls → zz_lwf x) (h128 : (zz_fls ls).length ≤ 128) (h4 : B.1 0 4 = nI (zz_fls ls).length) (h12 : ∀ i, i < (zz_fls ls).length → B.1 1 i = ((zz_fls ls).getD i (0, 0)).1 ∧ B.1 2 i = ((zz_fls ls).getD i (0, 0)).2)
    (h27 : B.1 57 27 = 1) (hm : zz_ml B ls) (hl : ls.length ≤ 61) (hac : (zz_ac ls).length ≤ 120) : zz_IL B := by
  refine ⟨zz_lvT ls, fun a w i f m n => zz_clp_le _ _, fun M1 q a w i f m n ha _ _ _ _ _ => ?_, fun M1 q a w i f m n ha _ _ hf _ _ h77 h63 => ?_⟩
  · exact zz_lets7 (q.1.trans h4) h128 (zz_fls_pos hne) (fun i hi => ⟨(q.2.1 i (by omega)).trans (h12 i hi).1, (q.2.2 i (by omega)).trans (h12 i hi).2⟩) hw ha
  · refine zz_runOf8 (q.1.trans h27) ⟨q.2.2.1.trans hm.1, fun i hi => ?_, fun j hj => ?_⟩ hl hac hw ha hf h77 h63
    · exact ⟨(q.2.2.2 i (by omega)).1.trans (hm.2.1 i hi).1, (q.2.2.2 i (by omega)).2.trans (hm.2.1 i hi).2⟩
    · exact ⟨(q.2.1 j (by omega)).1.trans (hm.2.2 j hj).1, (q.2.1 j (by omega)).2.trans (hm.2.2 j hj).2⟩
theorem zz_adopt7 (M : gx_Mem) : f_X3_adopt M = some (gx_sI (gx_cI (gx_cI M 7 0 1 0 128) 8 0 2 0 128) 0 4 (M.1 5 5)) := by
  unfold f_X3_adopt
  rw [show gx_cpk (0 : Int32) (0 : Int32) (128 : Int32) 128 128 = true by decide]
  rfl
theorem zz_law7 {M : gx_Mem} {sz : Nat} (e3 : M.1 5 3 = nI sz) (hs : sz ≤ 120) : match zz_lns (zz_b7 M sz) sz 121 0 [] with
    | (q, none) => ∃ M2, f_X7_law M = some ((-100 : Int32) - nI q, gx_sI M2 5 3 0) ∧ zz_t7 M M2 q
    | (q, some l) => ∃ M2, f_X7_law M = gx_bP (f_X3_adopt M2) (fun M5 => some (1, gx_sI M5 5 3 0)) ∧ zz_t7 M M2 q ∧ zz_has7 M2 (zz_fls l) := by
  generalize hM : gx_sI (gx_sI M 5 4 0) 5 5 0 = M0
  have t0 : zz_t7 M M0 0 := by rw [← hM]; exact ⟨(zz_fr.rf.sI rfl).sI rfl, rfl⟩
  have t1 : zz_has7 M0 (zz_fls []) := by rw [← hM]; exact ⟨Nat.zero_le _, rfl, fun i hi => absurd hi (Nat.not_lt_zero _)⟩
  have R := zz_lines7 (A := M) e3 hs 121 M0 0 [] gx_fuel (Nat.le_refl _) (by decide) t0 t1 (Nat.zero_le _) (Nat.zero_le _)
  rw [Nat.sub_self, show nI 0 = (0 : Int32) from rfl] at R
  have er : f_X6_read M = f_X6_read_l12 gx_fuel 0 M0 := by unfold f_X6_read; simp only [zz_let]; rw [hM]
  rw [← er] at R
  unfold f_X7_law
  generalize f_X6_read M = X at R ⊢
  generalize zz_lns (zz_b7 M sz) sz 121 0 [] = y at R ⊢
  match y, R with
  | (q, none), ⟨M2, r1, r2⟩ =>
    refine ⟨M2, ?_, r2⟩
    rw [r1]
    rw [zz_bIs, if_pos rfl]
    unfold f_X7_law_b23 f_X7_law_b41
    rw [if_pos rfl, zz_let, r2.2]
  | (q, some l), ⟨M2, r1, r2, r3⟩ =>
    refine ⟨M2, ?_, r2, r3⟩
    rw [r1]
    rw [zz_bIs, if_neg (by decide)]
    unfold f_X7_law_b23 f_X7_law_b41
    simp only [if_neg (show ¬ (1 : Int32) = 0 by decide), zz_let]
theorem zz_l9k {k i : Nat} (hk : k = 69 ∨ k = 70) (hi : i < 130) : zz_S9 k i = false := by
  unfold zz_S9 zz_S8
  rcases hk with rfl | rfl
  · simp; omega
  · simp; omega
theorem zz_l7k {k i : Nat} (hk : k = 72 ∨ k = 73) (hi : i < 61) : zz_S9 k i = false := by
  unfold zz_S9 zz_S8
  rcases hk with rfl | rfl
  · simp; omega
  · simp; omega
theorem zz_law8 (M : gx_Mem) {y : Int32} {D : gx_Mem} (h : f_X8_readText 0 M = some (y, D)) : f_X8_law M = if y < 0 then some ((1 : Int32), gx_sI D 57 27 1) else some ((-100 : Int32) - y, D) := by
  unfold f_X8_law
  rw [h]
  simp only [zz_bIs, zz_let]
theorem zz_law_no {M M2 : gx_Mem} {sz q : Nat} (h : zz_Inv M) (e3 : M.1 5 3 = nI sz) (hs : sz ≤ 120) (r2 : zz_t7 M M2 q) (hr : zz_lns (zz_b7 M sz) sz 121 0 [] = (q, none)) : ∃ M3, f_X8_law (gx_sI M2 5 3 0) = some ((-100 : Int32) - nI q, M3) ∧ zz_Inv M3 := by
  have fA : zz_fr zz_SL M (gx_sI M2 5 3 0) := (r2.1.mono zz_S7_SL).sI rfl
  have a15 : (gx_sI M2 5 3 0).1 57 15 = nI sz := (r2.1.2 57 15 rfl).trans (h.IT.1.2.trans e3)
  have a68 : ∀ i, (gx_sI M2 5 3 0).1 68 i = M.1 68 i := fun i => fA.2 68 i rfl
  have a53 : (gx_sI M2 5 3 0).1 5 3 = 0 := rfl
  have aeq : ∀ k i, zz_S7 k i = false → ¬ (k = 5 ∧ i = 3) → (gx_sI M2 5 3 0).1 k i = M.1 k i := fun k i h1 h2 => by rw [zz_sI1, if_neg h2, r2.1.2 k i h1]
  generalize gx_sI M2 5 3 0 = A at fA a15 a68 a53 aeq ⊢
  have R8 := zz_readText8 a15 hs
  rw [zz_b8_cong (M := A) (A := M) sz a68, zz_lns_al (zz_al78 h.IT hs), hr] at R8
  obtain ⟨hq, M3, k1, k2⟩ := R8
  have fB : zz_fr zz_SL M (gx_sI M3 57 15 0) := (fA.tr (k2.mono zz_S9_SL)).sI rfl
  refine ⟨gx_sI M3 57 15 0, ?_, zz_law_Inv h fB ?_ rfl ?_⟩
  · rw [zz_law8 A k1, if_neg (nI_pos (by omega))]
  · rw [zz_sI1, if_neg (by omega), k2.2 5 3 rfl, a53]
  · have d7 : ∀ k i, zz_S7 k i = false → ¬ (k = 5 ∧ i = 3) → zz_S9 k i = false → ¬ (k = 57 ∧ i = 15) → (gx_sI M3 57 15 0).1 k i = M.1 k i := by
      intro k i a1 a2 a3 a4
      rw [zz_sI1, if_neg a4, k2.2 k i a3, aeq k i a1 a2]
    refine h.IL.same ⟨d7 0 4 rfl (by omega) rfl (by omega), fun i _ => d7 1 i rfl (by omega) rfl (by omega), fun i _ => d7 2 i rfl (by omega) rfl (by omega)⟩ ⟨d7 57 27 rfl (by omega) rfl (by omega), fun i hi => ⟨d7 69 i rfl (by omega) (zz_l9k (.inl rfl) hi) (by omega), d7 70 i rfl (by omega) (zz_l9k (.inr rfl) hi) (by omega)⟩, d7 71 0 rfl (by omega) rfl (by omega), fun i hi => ⟨d7 72 i rfl (by omega) (zz_l7k (.inl rfl) hi) (by omega), d7 73 i rfl (by omega) (zz_l7k (.inr rfl) hi) (by omega)⟩⟩
theorem zz_law_yes {M M2 : gx_Mem} {sz q : Nat} {ls : List (List (Int32 × Int32) × List (Int32 × Int32))} (h : zz_Inv M) (e3 : M.1 5 3 = nI sz) (hs : sz ≤ 120) (r2 : zz_t7 M M2 q) (r3 : zz_has7 M2 (zz_fls ls)) (hr : zz_lns (zz_b7 M sz) sz 121 0 [] = (q, some ls)) : ∃ A, f_X3_adopt M2 = some A ∧ ∃ M3, f_X8_law (gx_sI A 5 3 0) = some (1, M3) ∧ zz_Inv M3 := by
  have hne := zz_lns_ne _ _ _ _ _ hr
  have hw := zz_lns_wf (zz_b7_out M sz) _ _ _ _ _ (Nat.zero_le _) (fun x hx => by cases hx) hr
  refine ⟨_, zz_adopt7 M2, ?_⟩
  generalize hA : gx_sI (gx_cI (gx_cI M2 7 0 1 0 128) 8 0 2 0 128) 0 4 (M2.1 5 5) = A
  have a12 : ∀ i, i < 128 → A.1 1 i = M2.1 7 i ∧ A.1 2 i = M2.1 8 i := by
    intro i hi
    rw [← hA]
    constructor
    · rw [zz_sI1, if_neg (by omega), zz_cI1, if_neg (by omega), zz_cI1, if_pos ⟨rfl, by omega, by omega⟩, Nat.sub_zero, Nat.zero_add]
    · rw [zz_sI1, if_neg (by omega), zz_cI1, if_pos ⟨rfl, by omega, by omega⟩, zz_cI1, if_neg (by omega), Nat.sub_zero, Nat.zero_add]
  have a04 : A.1 0 4 = M2.1 5 5 := by rw [← hA, zz_sI1, if_pos ⟨rfl, rfl⟩]
  have fA : zz_fr zz_SL M A := by
    refine (r2.1.mono zz_S7_SL).tr ?_
    rw [← hA]
    refine ⟨rfl, fun k i hk => ?_⟩
    have n04 : ¬ (k = 0 ∧ i = 4) := by rintro ⟨rfl, rfl⟩; cases hk
    have n1 : ¬ k = 1 := by rintro rfl; cases hk
    have n2 : ¬ k = 2 := by rintro rfl; cases hk
    rw [zz_sI1, if_neg n04, zz_cI1, if_neg (by omega), zz_cI1, if_neg (by omega)]
  have fA2 : zz_fr zz_SL M (gx_sI A 5 3 0) := fA.sI rfl
  have a15 : (gx_sI A 5 3 0).1 57 15 = nI sz := by
    rw [zz_sI1, if_neg (by omega), ← hA, zz_sI1, if_neg (by omega), zz_cI1, if_neg (by omega), zz_cI1, if_neg (by omega)]
    exact (r2.1.2 57 15 rfl).trans (h.IT.1.2.trans e3)
  have a68 : ∀ i, (gx_sI A 5 3 0).1 68 i = M.1 68 i := fun i => fA2.2 68 i rfl
  have a53 : (gx_sI A 5 3 0).1 5 3 = 0 := rfl
  have aeq : ∀ k i, ¬ (k = 5 ∧ i = 3) → (gx_sI A 5 3 0).1 k i = A.1 k i := fun k i h2 => by rw [zz_sI1, if_neg h2]
  generalize gx_sI A 5 3 0 = B at fA2 a15 a68 a53 aeq ⊢
  have R8 := zz_readText8 a15 hs
  rw [zz_b8_cong (M := B) (A := M) sz a68, zz_lns_al (zz_al78 h.IT hs), hr] at R8
  obtain ⟨M3, D, k1, k2, k3, k4, k5, k6⟩ := R8
  have fD : zz_fr zz_SL M (gx_sI D 57 27 1) := (((fA2.tr (k2.mono zz_S9_SL)).sI rfl).tr (k3.mono zz_S10_SL)).sI rfl
  refine ⟨gx_sI D 57 27 1, ?_, zz_law_Inv h fD ?_ ?_ ?_⟩
  · rw [zz_law8 B k1, if_pos (by decide)]
  · rw [zz_sI1, if_neg (by omega), k3.2 5 3 rfl, zz_sI1, if_neg (by omega), k2.2 5 3 rfl, a53]
  · rw [zz_sI1, if_neg (by omega), k3.2 57 15 rfl, zz_sI1, if_pos ⟨rfl, rfl⟩]
  · have dA : ∀ k i, zz_S10 k i = false → zz_S9 k i = false → ¬ k = 57 → ¬ k = 5 → (gx_sI D 57 27 1).1 k i = A.1 k i := by
      intro k i b1 b2 b3 b4
      rw [zz_sI1, if_neg (by omega), k3.2 k i b1, zz_sI1, if_neg (by omega), k2.2 k i b2, aeq k i (by omega)]
    refine zz_IL_new (ls := ls) hne hw r3.1 ((dA 0 4 rfl rfl (by omega) (by omega)).trans (a04.trans r3.2.1)) (fun i hi => ?_) (by rw [zz_sI1, if_pos ⟨rfl, rfl⟩]) ⟨?_, fun i hi => ?_, fun j hj => ?_⟩ k5 k6
    · have hi2 := r3.1
      rw [dA 1 i rfl rfl (by omega) (by omega), dA 2 i rfl rfl (by omega) (by omega), (a12 i (by omega)).1, (a12 i (by omega)).2]
      exact r3.2.2 i hi
    · rw [zz_sI1, if_neg (by omega)]; exact k4.1
    · rw [zz_sI1, if_neg (by omega), zz_sI1, if_neg (by omega)]; exact k4.2.1 i hi
    · rw [zz_sI1, if_neg (by omega), zz_sI1, if_neg (by omega)]; exact k4.2.2 j hj
theorem op_law : zz_ok f_X7_law f_X8_law := by
  intro M h
  obtain ⟨sz, hs, e3⟩ := h.IT.1.1
  have R := zz_law7 e3 hs
  have no := fun M2 q r2 hr => zz_law_no (M2 := M2) (q := q) h e3 hs r2 hr
  have yes := fun M2 q ls r2 r3 hr => zz_law_yes (M2 := M2) (q := q) (ls := ls) h e3 hs r2 r3 hr
  generalize zz_lns (zz_b7 M sz) sz 121 0 [] = y at R no yes
  match y, R, no, yes with
  | (q, none), ⟨M2, r1, r2⟩, no, _ =>
    obtain ⟨M3, a, b⟩ := no M2 q r2 rfl
    exact ⟨_, _, r1, M3, a, b⟩
  | (q, some ls), ⟨M2, r1, r2, r3⟩, _, yes =>
    obtain ⟨A, e, M3, a, b⟩ := yes M2 q ls r2 r3 rfl
    refine ⟨_, _, ?_, M3, a, b⟩
    rw [r1, e, zz_bPs]

/-- a number of mend(): what it is, by the people there are -/
def zz_vp (M : gx_Mem) (num : Int32) (w : Nat) : Prop :=
  ((w = 0 ∨ w = 1) ∧ ∃ p : Nat, num = nI p ∧ nI p < M.1 9 7 ∧ p < 6) ∨ ((w = 2 ∨ w = 3) ∧ ∃ p m : Nat, num = nI (10 * p + m) ∧ nI p < M.1 9 7 ∧ p < 6 ∧ m < 4) ∨ (w = 4 ∧ ∃ f : Nat, num = nI f ∧ f < 24) ∨ ((w = 5 ∨ w = 6) ∧ num = nI 0)
def zz_gr (w : Nat) : Nat := match w with
  | 0 => 23 | 1 => 4095 | 2 => 9 | 3 => 9999 | 4 => 9 | 5 => 9 | _ => 11
theorem zz_okc.vp {M : gx_Mem} {num what a b : Int32} (h : zz_okc M num what a b) : ∃ w : Nat, w < 7 ∧ what = nI w ∧ zz_vp M num w ∧ zz_bd a (zz_gr w) ∧ zz_bd b (zz_gr w) := by
  obtain ⟨w, hw, h⟩ := h
  rcases h with ⟨rfl, h1, h2⟩ | ⟨rfl, h1, h2⟩ | ⟨rfl, h1, h2⟩ | ⟨rfl, h1, h2⟩ | ⟨rfl, h1, h2⟩ | ⟨rfl, h1, h2⟩ | ⟨rfl, h1, h2⟩
  · exact ⟨0, by decide, hw, .inl ⟨.inl rfl, h1⟩, h2⟩
  · exact ⟨1, by decide, hw, .inl ⟨.inr rfl, h1⟩, h2⟩
  · exact ⟨2, by decide, hw, .inr (.inl ⟨.inl rfl, h1⟩), h2⟩
  · exact ⟨3, by decide, hw, .inr (.inl ⟨.inr rfl, h1⟩), h2⟩
  · exact ⟨4, by decide, hw, .inr (.inr (.inl ⟨rfl, h1⟩)), h2⟩
  · exact ⟨5, by decide, hw, .inr (.inr (.inr ⟨.inl rfl, h1⟩)), h2⟩
  · exact ⟨6, by decide, hw, .inr (.inr (.inr ⟨.inr rfl, h1⟩)), h2⟩
theorem zz_okc.of {M : gx_Mem} {num a b : Int32} {w : Nat} (h : zz_vp M num w) (ha : zz_bd a (zz_gr w)) (hb : zz_bd b (zz_gr w)) : zz_okc M num (nI w) a b := by
  refine ⟨w, rfl, ?_⟩
  rcases h with ⟨rfl | rfl, h⟩ | ⟨rfl | rfl, h⟩ | ⟨rfl, h⟩ | ⟨rfl | rfl, h⟩
  · exact .inl ⟨rfl, h, ha, hb⟩
  · exact .inr (.inl ⟨rfl, h, ha, hb⟩)
  · exact .inr (.inr (.inl ⟨rfl, h, ha, hb⟩))
  · exact .inr (.inr (.inr (.inl ⟨rfl, h, ha, hb⟩)))
  · exact .inr (.inr (.inr (.inr (.inl ⟨rfl, h, ha, hb⟩))))
  · exact .inr (.inr (.inr (.inr (.inr (.inl ⟨rfl, h, ha, hb⟩)))))
  · exact .inr (.inr (.inr (.inr (.inr (.inr ⟨rfl, h, ha, hb⟩)))))
/-- where such a number stands on both sides, what reading and writing it is -/
def zz_pl (num : Int32) (w cC iC cM iM : Nat) : Prop :=
  (∀ M v, f_X2_told 9 num (nI w) v M = some (gx_sI M cC iC v)) ∧ (∀ M, f_X2_tells 9 num (nI w) M = some (M.1 cC iC)) ∧
  (∀ M v, f_X8_lays (nI w) num v M = some (gx_sI M cM iM v)) ∧ (∀ M, f_X8_valueAt (nI w) num M = some (M.1 cM iM)) ∧
  (∀ M, zz_IH M → M.1 cM iM = M.1 cC iC ∧ zz_bd (M.1 cC iC) (zz_gr w)) ∧
  (∀ M v, zz_bd v (zz_gr w) → zz_IH M → zz_IH (gx_sI (gx_sI M cC iC v) cM iM v)) ∧
  (zz_pI cC iC = false ∧ zz_pT cC iC = false ∧ zz_pC cC iC = false ∧ zz_pB cC iC = false ∧ zz_pS cC iC = false ∧ zz_pL cC iC = false) ∧
  (zz_pI cM iM = false ∧ zz_pT cM iM = false ∧ zz_pC cM iM = false ∧ zz_pB cM iM = false ∧ zz_pS cM iM = false ∧ zz_pL cM iM = false) ∧
  (∀ M, (gx_sI M cC iC (0 : Int32)).1 9 7 = M.1 9 7) ∧ (cC = 9 → iC ≠ 7) ∧ cC < 15 ∧ 9 ≤ cC ∧ 58 ≤ cM ∧ cM ≤ 63
theorem zz_c24 {p m : Nat} (hp : p < 6) (hm : m < 4) : nI (10 * p + m) / (10 : Int32) = nI p ∧ gx_rem (nI (10 * p + m)) (10 : Int32) = nI m := by
  rw [show (10 : Int32) = nI 10 from rfl, zz_div (by omega) (by decide) (by decide), zz_rem (by omega) (by decide) (by decide)]
  exact ⟨by congr 1; omega, by congr 1; omega⟩
theorem zz_pl_of {M0 : gx_Mem} {num : Int32} {w : Nat} (h : zz_vp M0 num w) : ∃ cC iC cM iM : Nat, zz_pl num w cC iC cM iM := by
  rcases h with ⟨rfl | rfl, p, rfl, -, hp⟩ | ⟨rfl | rfl, p, m, rfl, -, hp, hm⟩ | ⟨rfl, f, rfl, hf⟩ | ⟨rfl | rfl, rfl⟩
  · refine ⟨10, p, 58, p, fun M v => by unfold f_X2_told; simp only [show nI 0 = (0 : Int32) from rfl, if_true, zz_gi hp (by decide), zz_let, zz_cl (show p < 2147483648 by omega)] <;> rfl, fun M => by unfold f_X2_tells; simp only [show nI 0 = (0 : Int32) from rfl, if_true, zz_gi hp (by decide), zz_let, zz_cl (show p < 2147483648 by omega)] <;> rfl, fun M v => by unfold f_X8_lays; simp only [show nI 0 = (0 : Int32) from rfl, if_true, zz_gi hp (by decide), zz_let, zz_cl (show p < 2147483648 by omega)] <;> rfl, fun M => by unfold f_X8_valueAt; simp only [show nI 0 = (0 : Int32) from rfl, if_true, zz_gi hp (by decide), zz_let, zz_cl (show p < 2147483648 by omega)] <;> rfl, fun M h => ⟨(h.2.1 _ hp).2, (h.2.1 _ hp).1⟩, fun M v hv h => ?_, ⟨rfl, rfl, rfl, rfl, rfl, rfl⟩, ⟨rfl, rfl, rfl, rfl, rfl, rfl⟩, fun _ => rfl, fun e => absurd e (by decide), by decide, by decide, by decide, by decide⟩
    obtain ⟨q1, q2, q3, q4, q5, q6, q7, q8, q9⟩ := h
    refine ⟨q1, fun j hj => ?_, q3, q4, q5, q6, q7, q8, q9⟩
    have := q2 j hj
    simp only [zz_sI1]
    by_cases e : j = p
    · subst e; simp; exact hv
    · simp [e, this]
  · refine ⟨11, p, 59, p, fun M v => by unfold f_X2_told; simp only [show nI 1 = (1 : Int32) from rfl, if_true, zz_gi hp (by decide), zz_let, zz_cl (show p < 2147483648 by omega)] <;> rfl, fun M => by unfold f_X2_tells; simp only [show nI 1 = (1 : Int32) from rfl, if_true, zz_gi hp (by decide), zz_let, zz_cl (show p < 2147483648 by omega)] <;> rfl, fun M v => by unfold f_X8_lays; simp only [show nI 1 = (1 : Int32) from rfl, if_true, zz_gi hp (by decide), zz_let, zz_cl (show p < 2147483648 by omega)] <;> rfl, fun M => by unfold f_X8_valueAt; simp only [show nI 1 = (1 : Int32) from rfl, if_true, zz_gi hp (by decide), zz_let, zz_cl (show p < 2147483648 by omega)] <;> rfl, fun M h => ⟨(h.2.2.1 _ hp).2, (h.2.2.1 _ hp).1⟩, fun M v hv h => ?_, ⟨rfl, rfl, rfl, rfl, rfl, rfl⟩, ⟨rfl, rfl, rfl, rfl, rfl, rfl⟩, fun _ => rfl, fun e => absurd e (by decide), by decide, by decide, by decide, by decide⟩
    obtain ⟨q1, q2, q3, q4, q5, q6, q7, q8, q9⟩ := h
    refine ⟨q1, q2, fun j hj => ?_, q4, q5, q6, q7, q8, q9⟩
    have := q3 j hj
    simp only [zz_sI1]
    by_cases e : j = p
    · subst e; simp; exact hv
    · simp [e, this]
  · refine ⟨12, (4 * p + m), 60, (4 * p + m), fun M v => by unfold f_X2_told f_X2_cell; rw [(zz_c24 hp hm).1, (zz_c24 hp hm).2, show (4 : Int32) = nI 4 from rfl, zz_mul, zz_add]; simp only [show nI 2 = (2 : Int32) from rfl, if_true, zz_bPs, show p * 4 + m = 4 * p + m by omega, zz_gi (show 4 * p + m < 24 by omega) (by decide), zz_let, zz_cl (show 4 * p + m < 2147483648 by omega)] <;> rfl, fun M => by unfold f_X2_tells f_X2_cell; rw [(zz_c24 hp hm).1, (zz_c24 hp hm).2, show (4 : Int32) = nI 4 from rfl, zz_mul, zz_add]; simp only [show nI 2 = (2 : Int32) from rfl, if_true, zz_bPs, show p * 4 + m = 4 * p + m by omega, zz_gi (show 4 * p + m < 24 by omega) (by decide), zz_let, zz_cl (show 4 * p + m < 2147483648 by omega)] <;> rfl, fun M v => by unfold f_X8_lays; rw [(zz_c24 hp hm).1, (zz_c24 hp hm).2, show (4 : Int32) = nI 4 from rfl, zz_mul, zz_add]; simp only [show nI 2 = (2 : Int32) from rfl, if_true, zz_gi (show 4 * p + m < 24 by omega) (by decide), zz_let, zz_cl (show 4 * p + m < 2147483648 by omega)] <;> rfl, fun M => by unfold f_X8_valueAt; rw [(zz_c24 hp hm).1, (zz_c24 hp hm).2, show (4 : Int32) = nI 4 from rfl, zz_mul, zz_add]; simp only [show nI 2 = (2 : Int32) from rfl, if_true, zz_gi (show 4 * p + m < 24 by omega) (by decide), zz_let, zz_cl (show 4 * p + m < 2147483648 by omega)] <;> rfl, fun M h => ⟨(h.2.2.2.1 _ (show 4 * p + m < 24 by omega)).2, (h.2.2.2.1 _ (show 4 * p + m < 24 by omega)).1⟩, fun M v hv h => ?_, ⟨rfl, rfl, rfl, rfl, rfl, rfl⟩, ⟨rfl, rfl, rfl, rfl, rfl, rfl⟩, fun _ => rfl, fun e => absurd e (by decide), by decide, by decide, by decide, by decide⟩
    obtain ⟨q1, q2, q3, q4, q5, q6, q7, q8, q9⟩ := h
    refine ⟨q1, q2, q3, fun j hj => ?_, q5, q6, q7, q8, q9⟩
    have := q4 j hj
    simp only [zz_sI1]
    by_cases e : j = (4 * p + m)
    · subst e; simp; exact hv
    · simp [e, this]
  · refine ⟨13, (4 * p + m), 61, (4 * p + m), fun M v => by unfold f_X2_told f_X2_cell; rw [(zz_c24 hp hm).1, (zz_c24 hp hm).2, show (4 : Int32) = nI 4 from rfl, zz_mul, zz_add]; simp only [show nI 3 = (3 : Int32) from rfl, if_true, zz_bPs, show p * 4 + m = 4 * p + m by omega, zz_gi (show 4 * p + m < 24 by omega) (by decide), zz_let, zz_cl (show 4 * p + m < 2147483648 by omega)] <;> rfl, fun M => by unfold f_X2_tells f_X2_cell; rw [(zz_c24 hp hm).1, (zz_c24 hp hm).2, show (4 : Int32) = nI 4 from rfl, zz_mul, zz_add]; simp only [show nI 3 = (3 : Int32) from rfl, if_true, zz_bPs, show p * 4 + m = 4 * p + m by omega, zz_gi (show 4 * p + m < 24 by omega) (by decide), zz_let, zz_cl (show 4 * p + m < 2147483648 by omega)] <;> rfl, fun M v => by unfold f_X8_lays; rw [(zz_c24 hp hm).1, (zz_c24 hp hm).2, show (4 : Int32) = nI 4 from rfl, zz_mul, zz_add]; simp only [show nI 3 = (3 : Int32) from rfl, if_true, zz_gi (show 4 * p + m < 24 by omega) (by decide), zz_let, zz_cl (show 4 * p + m < 2147483648 by omega)] <;> rfl, fun M => by unfold f_X8_valueAt; rw [(zz_c24 hp hm).1, (zz_c24 hp hm).2, show (4 : Int32) = nI 4 from rfl, zz_mul, zz_add]; simp only [show nI 3 = (3 : Int32) from rfl, if_true, zz_gi (show 4 * p + m < 24 by omega) (by decide), zz_let, zz_cl (show 4 * p + m < 2147483648 by omega)] <;> rfl, fun M h => ⟨(h.2.2.2.2.1 _ (show 4 * p + m < 24 by omega)).2, (h.2.2.2.2.1 _ (show 4 * p + m < 24 by omega)).1⟩, fun M v hv h => ?_, ⟨rfl, rfl, rfl, rfl, rfl, rfl⟩, ⟨rfl, rfl, rfl, rfl, rfl, rfl⟩, fun _ => rfl, fun e => absurd e (by decide), by decide, by decide, by decide, by decide⟩
    obtain ⟨q1, q2, q3, q4, q5, q6, q7, q8, q9⟩ := h
    refine ⟨q1, q2, q3, q4, fun j hj => ?_, q6, q7, q8, q9⟩
    have := q5 j hj
    simp only [zz_sI1]
    by_cases e : j = (4 * p + m)
    · subst e; simp; exact hv
    · simp [e, this]
  · refine ⟨14, f, 62, f, fun M v => by unfold f_X2_told; simp only [show nI 4 = (4 : Int32) from rfl, if_true, zz_gi hf (by decide), zz_let, zz_cl (show f < 2147483648 by omega)] <;> rfl, fun M => by unfold f_X2_tells; simp only [show nI 4 = (4 : Int32) from rfl, if_true, zz_gi hf (by decide), zz_let, zz_cl (show f < 2147483648 by omega)] <;> rfl, fun M v => by unfold f_X8_lays; simp only [show nI 4 = (4 : Int32) from rfl, if_true, zz_gi hf (by decide), zz_let, zz_cl (show f < 2147483648 by omega)] <;> rfl, fun M => by unfold f_X8_valueAt; simp only [show nI 4 = (4 : Int32) from rfl, if_true, zz_gi hf (by decide), zz_let, zz_cl (show f < 2147483648 by omega)] <;> rfl, fun M h => ⟨(h.2.2.2.2.2.1 _ hf).2, (h.2.2.2.2.2.1 _ hf).1⟩, fun M v hv h => ?_, ⟨rfl, rfl, rfl, rfl, rfl, rfl⟩, ⟨rfl, rfl, rfl, rfl, rfl, rfl⟩, fun _ => rfl, fun e => absurd e (by decide), by decide, by decide, by decide, by decide⟩
    obtain ⟨q1, q2, q3, q4, q5, q6, q7, q8, q9⟩ := h
    refine ⟨q1, q2, q3, q4, q5, fun j hj => ?_, q7, q8, q9⟩
    have := q6 j hj
    simp only [zz_sI1]
    by_cases e : j = f
    · subst e; simp; exact hv
    · simp [e, this]
  · refine ⟨9, 8, 63, 0, fun M v => rfl, fun M => rfl, fun M v => rfl, fun M => rfl, fun M h => ⟨h.2.2.2.2.2.2.2.1.2, h.2.2.2.2.2.2.2.1.1⟩, fun M v hv h => ?_, ⟨rfl, rfl, rfl, rfl, rfl, rfl⟩, ⟨rfl, rfl, rfl, rfl, rfl, rfl⟩, fun _ => rfl, by decide, by decide, by decide, by decide, by decide⟩
    obtain ⟨q1, q2, q3, q4, q5, q6, q7, q8, q9⟩ := h
    exact ⟨q1, q2, q3, q4, q5, q6, q7, ⟨hv, rfl⟩, q9⟩
  · refine ⟨9, 9, 63, 1, fun M v => rfl, fun M => rfl, fun M v => rfl, fun M => rfl, fun M h => ⟨h.2.2.2.2.2.2.2.2.2, h.2.2.2.2.2.2.2.2.1⟩, fun M v hv h => ?_, ⟨rfl, rfl, rfl, rfl, rfl, rfl⟩, ⟨rfl, rfl, rfl, rfl, rfl, rfl⟩, fun _ => rfl, by decide, by decide, by decide, by decide, by decide⟩
    obtain ⟨q1, q2, q3, q4, q5, q6, q7, q8, q9⟩ := h
    exact ⟨q1, q2, q3, q4, q5, q6, q7, q8, ⟨hv, rfl⟩⟩
/-- is there such a number? -/
def zz_nb (n : Nat) (a : Int32) (w : Nat) : Bool := match w with
  | 0 => zz_rg a n | 1 => zz_rg a n | 2 => zz_pm a n | 3 => zz_pm a n | 4 => zz_rg a 24 | 5 => decide (a = 0) | 6 => decide (a = 0) | _ => false
theorem zz_some_i (b : Bool) : (if b = true then (some 1 : Option Int32) else some 0) = some (zz_i b) := by cases b <;> rfl
theorem zz_isNum7 {M : gx_Mem} {n : Nat} (hn : M.1 9 7 = nI n) (h6 : n ≤ 6) (a : Int32) {w : Nat} (hw : w < 7) : f_X7_isNumber a (nI w) M = some (zz_i (zz_nb n a w)) := by
  unfold f_X7_isNumber f_X7_isNumber_b44 f_X7_isNumber_b50 f_X7_isNumber_b61
  rw [zz_isOne7 hn h6, zz_isPm7 hn h6, zz_isFlat7]
  simp only [zz_bPs, zz_giZ]
  match w, hw with
  | 0, _ => rfl
  | 1, _ => rfl
  | 2, _ => rfl
  | 3, _ => rfl
  | 4, _ => rfl
  | 5, _ => show (if a = 0 then some 1 else some 0) = some (zz_i (decide (a = 0))); by_cases e : a = 0 <;> simp [e, zz_i]
  | 6, _ => show (if a = 0 then some 1 else some 0) = some (zz_i (decide (a = 0))); by_cases e : a = 0 <;> simp [e, zz_i]
theorem zz_isPlace8 {M : gx_Mem} {n : Nat} (hn : M.1 57 1 = nI n) (h6 : n ≤ 6) (a : Int32) {w : Nat} (hw : w < 7) : f_X8_isPlace a (nI w) M = some (zz_i (zz_nb n a w)) := by
  unfold f_X8_isPlace
  rw [zz_isOne8 hn h6, zz_areMark8 hn h6, zz_isFlat8]
  simp only [zz_bPs, zz_giZ]
  match w, hw with
  | 0, _ => rfl
  | 1, _ => rfl
  | 2, _ => rfl
  | 3, _ => rfl
  | 4, _ => rfl
  | 5, _ => show (if a = 0 then some 1 else some 0) = some (zz_i (decide (a = 0))); by_cases e : a = 0 <;> simp [e, zz_i]
  | 6, _ => show (if a = 0 then some 1 else some 0) = some (zz_i (decide (a = 0))); by_cases e : a = 0 <;> simp [e, zz_i]
theorem zz_nb_vp {M : gx_Mem} {n : Nat} (hn : M.1 9 7 = nI n) (h6 : n ≤ 6) {a : Int32} {w : Nat} (hw : w < 7) (h : zz_nb n a w = true) : zz_vp M a w := by
  match w, hw with
  | 0, _ => obtain ⟨p, hp, rfl⟩ := zz_rgT (show zz_rg a n = true from h); exact .inl ⟨.inl rfl, p, rfl, by rw [hn]; exact nI_lt hp (by omega), by omega⟩
  | 1, _ => obtain ⟨p, hp, rfl⟩ := zz_rgT (show zz_rg a n = true from h); exact .inl ⟨.inr rfl, p, rfl, by rw [hn]; exact nI_lt hp (by omega), by omega⟩
  | 2, _ => obtain ⟨p, m, hp, hm, rfl⟩ := zz_pmT (show zz_pm a n = true from h); exact .inr (.inl ⟨.inl rfl, p, m, rfl, by rw [hn]; exact nI_lt hp (by omega), by omega, hm⟩)
  | 3, _ => obtain ⟨p, m, hp, hm, rfl⟩ := zz_pmT (show zz_pm a n = true from h); exact .inr (.inl ⟨.inr rfl, p, m, rfl, by rw [hn]; exact nI_lt hp (by omega), by omega, hm⟩)
  | 4, _ => obtain ⟨f, hf, rfl⟩ := zz_rgT (show zz_rg a 24 = true from h); exact .inr (.inr (.inl ⟨rfl, f, rfl, hf⟩))
  | 5, _ => exact .inr (.inr (.inr ⟨.inl rfl, of_decide_eq_true (show decide (a = 0) = true from h)⟩))
  | 6, _ => exact .inr (.inr (.inr ⟨.inr rfl, of_decide_eq_true (show decide (a = 0) = true from h)⟩))
theorem zz_notw {b : Int32} (h : zz_rg b 7 = false) (w : Nat) (hw : w < 7) : ¬ b = nI w := by
  rintro rfl
  rw [zz_rgN (by omega)] at h
  simp at h; omega
theorem zz_isNum7F {b : Int32} (h : zz_rg b 7 = false) (a : Int32) (M : gx_Mem) : f_X7_isNumber a b M = some 0 := by
  unfold f_X7_isNumber
  rw [if_neg (show ¬ b = (0 : Int32) from zz_notw h 0 (by decide)), if_neg (show ¬ b = (1 : Int32) from zz_notw h 1 (by decide)), if_neg (show ¬ b = (2 : Int32) from zz_notw h 2 (by decide)), if_neg (show ¬ b = (3 : Int32) from zz_notw h 3 (by decide)), if_neg (show ¬ b = (4 : Int32) from zz_notw h 4 (by decide)), if_neg (show ¬ b = (5 : Int32) from zz_notw h 5 (by decide)), if_neg (show ¬ b = (6 : Int32) from zz_notw h 6 (by decide))]
theorem zz_inF {b lo hi : Int32} (M : gx_Mem) (h : zz_rg b 7 = false) (h1 : 0 ≤ lo.toInt) (h2 : hi.toInt < 7) : f_X8_in b lo hi M = some 0 := by
  have h3 := of_decide_eq_false h
  unfold f_X8_in
  by_cases e : b < lo
  · rw [if_pos e]
  · rw [if_neg e, if_pos]
    rw [zz_ltI] at e ⊢
    omega
theorem zz_isPlace8F {b : Int32} (h : zz_rg b 7 = false) (a : Int32) (M : gx_Mem) : f_X8_isPlace a b M = some 0 := by
  unfold f_X8_isPlace
  rw [zz_inF M h (by decide) (by decide), zz_inF M h (by decide) (by decide), zz_inF M h (by decide) (by decide)]
  simp only [zz_bPs, if_true]
  rw [if_neg (show ¬ b = (4 : Int32) from zz_notw h 4 (by decide))]
theorem op_of (a b : Int32) : zz_okp (f_X7_of a b) (f_X8_of a b) := by
  intro M h
  obtain ⟨n, h6, hn, hn8⟩ := h.ppl
  unfold f_X7_of f_X8_of
  cases hb : zz_rg b 7 with
  | false =>
    rw [zz_isNum7F hb, zz_isPlace8F hb]
    exact ⟨-1, rfl, rfl⟩
  | true =>
    obtain ⟨w, hw, rfl⟩ := zz_rgT hb
    rw [zz_isNum7 hn h6 a hw, zz_isPlace8 hn8 h6 a hw]
    simp only [zz_bPs, zz_ifi]
    cases hv : zz_nb n a w with
    | false => exact ⟨-1, rfl, rfl⟩
    | true =>
      obtain ⟨cC, iC, cM, iM, p1, p2, p3, p4, p5, -⟩ := zz_pl_of (zz_nb_vp hn h6 hw hv)
      rw [if_pos rfl, if_pos rfl, p2, p4]
      simp only [zz_bPs]
      exact ⟨_, rfl, by rw [(p5 M h.IH).1]⟩

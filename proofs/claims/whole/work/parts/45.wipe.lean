def zz_sum (f : Nat → Int32) : Nat → Int32
  | 0 => 0
  | n + 1 => zz_sum f n + f n
theorem zz_sum_cong {f g : Nat → Int32} : ∀ n, (∀ i, i < n → f i = g i) → zz_sum f n = zz_sum g n
  | 0, _ => rfl
  | n + 1, h => by
    unfold zz_sum
    rw [zz_sum_cong n (fun i hi => h i (by omega)), h n (by omega)]
theorem zz_dried7 (M : gx_Mem) {p : Nat} (hp : p < 6) : f_X2_dried 9 (nI p) M = some (zz_sum (fun i => M.1 13 (4 * p + i)) 4, gx_sI (zz_ov M 13 (4 * p) 4 (fun _ => 0)) 15 4 (M.1 15 4 + zz_sum (fun i => M.1 13 (4 * p + i)) 4)) := by
  obtain ⟨s, hs, e⟩ := zz_for (fun (ag4 : Int32 × Int32 × gx_Mem → Option (Int32 × gx_Mem)) (s : Int32 × Int32 × gx_Mem) => f_X2_dried_k4 9 (nI p) (fun v2 v3 M => ag4 (v2, v3, M)) s.1 s.2.1 s.2.2) (fun s => some (s.1, gx_sI s.2.2 15 4 (s.2.2.1 15 4 + s.1))) (fun i s => s = (zz_sum (fun i => M.1 13 (4 * p + i)) i, nI i, zz_ov M 13 (4 * p) i (fun _ => 0))) 4 gx_fuel (by decide) (0, 0, M) (by rw [zz_ov0]; rfl) (fun i s hi hs => by
    subst hs
    refine ⟨_, rfl, fun ag => ?_⟩
    dsimp only
    unfold f_X2_dried_k4
    rw [show (4 : Int32) = nI 4 from rfl, zz_mul, zz_add, show p * 4 + i = 4 * p + i by omega]
    simp only [zz_le (show 4 < 2147483648 by decide) (show i < 2147483648 by omega), zz_let, zz_cl (show 4 * p + i < 2147483648 by omega)]
    rw [if_neg (by omega), zz_gi (show 4 * p + i < 24 by omega) (by decide), zz_gi (show 4 * p + i < 24 by omega) (by decide), zz_ovS _ _ _ _ _ _ rfl, zz_ov1, if_neg (by omega)]
    exact congrArg ag (Prod.ext rfl (Prod.ext (zz_add _ 1) rfl))) (fun s hs ag => by subst hs; rfl)
  subst hs
  exact e
theorem zz_wipe8 (M : gx_Mem) {p : Nat} (hp : p < 6) : f_X8_wipe_l14 (nI p) gx_fuel 0 0 M = some (zz_sum (fun i => M.1 61 (4 * p + i)) 4, gx_sI (zz_ov M 61 (4 * p) 4 (fun _ => 0)) 85 4 (M.1 85 4 + zz_sum (fun i => M.1 61 (4 * p + i)) 4)) := by
  obtain ⟨s, hs, e⟩ := zz_for (fun (ag4 : Int32 × Int32 × gx_Mem → Option (Int32 × gx_Mem)) (s : Int32 × Int32 × gx_Mem) => f_X8_wipe_k14 (nI p) (fun v2 v3 M => ag4 (v2, v3, M)) s.1 s.2.1 s.2.2) (fun s => some (s.1, gx_sI s.2.2 85 4 (s.2.2.1 85 4 + s.1))) (fun i s => s = (zz_sum (fun i => M.1 61 (4 * p + i)) i, nI i, zz_ov M 61 (4 * p) i (fun _ => 0))) 4 gx_fuel (by decide) (0, 0, M) (by rw [zz_ov0]; rfl) (fun i s hi hs => by
    subst hs
    refine ⟨_, rfl, fun ag => ?_⟩
    dsimp only
    unfold f_X8_wipe_k14
    rw [show (4 : Int32) = nI 4 from rfl, zz_mul, zz_add]
    simp only [zz_le (show 4 < 2147483648 by decide) (show i < 2147483648 by omega), zz_let, zz_cl (show 4 * p + i < 2147483648 by omega)]
    rw [if_neg (by omega), zz_gi (show 4 * p + i < 24 by omega) (by decide), zz_gi (show 4 * p + i < 24 by omega) (by decide), zz_ovS _ _ _ _ _ _ rfl, zz_ov1, if_neg (by omega)]
    exact congrArg ag (Prod.ext rfl (Prod.ext (zz_add _ 1) rfl))) (fun s hs ag => by subst hs; rfl)
  subst hs
  exact e
theorem op_wipe (a : Int32) : zz_ok (f_X7_wipe a) (f_X8_wipe a) := by
  intro M h
  obtain ⟨n, h6, hn, hn8⟩ := h.ppl
  unfold f_X7_wipe
  rw [zz_isOne7 hn h6]
  simp only [zz_bPs, zz_ifi]
  have hg : ∀ M1 : gx_Mem, M1.1 57 1 = nI n → f_X8_wipe a M1 = if zz_rg a n = true then f_X8_wipe_l14 a gx_fuel 0 0 M1 else some (-1, M1) := by
    intro M1 e
    unfold f_X8_wipe
    rw [zz_isOne8 e h6]
    simp only [zz_bPs, zz_ifi]
  cases ha : zz_rg a n with
  | false => exact ⟨-1, M, rfl, M, by rw [hg M hn8, ha]; rfl, h⟩
  | true =>
    obtain ⟨p, hp, rfl⟩ := zz_rgT ha
    rw [if_pos rfl, zz_dried7 M (show p < 6 by omega)]
    simp only [zz_bIs]
    refine ⟨_, _, rfl, ?_⟩
    generalize hA : gx_sI (zz_ov M 13 (4 * p) 4 (fun _ => 0)) 15 4 (M.1 15 4 + zz_sum (fun i => M.1 13 (4 * p + i)) 4) = A
    have eA : ∀ i, A.1 61 i = M.1 61 i := fun i => by rw [← hA]; rfl
    have eA2 : A.1 85 4 = M.1 15 4 := by rw [← hA]; exact h.IH.2.2.2.2.2.2.1 4 (by decide)
    have eS : zz_sum (fun i => A.1 61 (4 * p + i)) 4 = zz_sum (fun i => M.1 13 (4 * p + i)) 4 := zz_sum_cong 4 (fun i hi => by rw [eA]; exact (h.IH.2.2.2.2.1 (4 * p + i) (by omega)).2)
    refine ⟨gx_sI (zz_ov A 61 (4 * p) 4 (fun _ => 0)) 85 4 (M.1 15 4 + zz_sum (fun i => M.1 13 (4 * p + i)) 4), ?_, ?_⟩
    · rw [hg A (by rw [← hA]; exact hn8), ha, if_pos rfl, zz_wipe8 A (show p < 6 by omega), eS, eA2]
    · subst hA
      refine ⟨?_, (((h.II.v (fun _ => rfl)).w rfl).v (fun _ => rfl)).w rfl, (((h.IT.v (fun _ => rfl)).w rfl).v (fun _ => rfl)).w rfl, (((h.IC.v (fun _ => rfl)).w rfl).v (fun _ => rfl)).w rfl, (((h.IB.v (fun _ => rfl)).w rfl).v (fun _ => rfl)).w rfl, (((h.IS.v (fun _ => rfl)).w rfl).v (fun _ => rfl)).w rfl, (((h.IL.v (fun _ => rfl)).w rfl).v (fun _ => rfl)).w rfl⟩
      obtain ⟨q1, q2, q3, q4, q5, q6, q7, q8, q9⟩ := h.IH
      refine ⟨q1, q2, q3, q4, fun i hi => ?_, q6, fun i hi => ?_, q8, q9⟩
      · have := q5 i hi
        simp only [zz_sI1, zz_ov1]
        by_cases e : 4 * p ≤ i ∧ i < 4 * p + 4
        · simp [e]; exact ⟨0, by decide, rfl⟩
        · simp [e, this]
      · have := q7 i hi
        simp only [zz_sI1, zz_ov1]
        by_cases e : i = 4
        · subst e; simp
        · simp [e, this]
theorem zz_okI {k n : Nat} (h : n ≤ k) (hk : k < 2147483648) : gx_cpk (0 : Int32) (0 : Int32) (nI n) k k = true := by
  unfold gx_cpk
  refine decide_eq_true ⟨by decide, by decide, nI_pos (by omega), ?_, ?_⟩ <;> rw [zz_cl (show n < 2147483648 by omega)] <;> simpa using h
/-- liken: exact -/
def zz_lk (k j : Nat) (M : gx_Mem) : gx_Mem :=
  gx_sI (gx_sI (gx_sI (zz_ov (zz_ov (zz_ov (zz_ov (zz_ov (zz_ov M (k + 1) 0 6 (M.1 (j + 1))) (k + 2) 0 6 (M.1 (j + 2))) (k + 3) 0 24 (M.1 (j + 3))) (k + 4) 0 24 (M.1 (j + 4))) (k + 5) 0 24 (M.1 (j + 5))) (k + 6) 0 5 (M.1 (j + 6))) k 7 (M.1 j 7)) k 8 (M.1 j 8)) k 9 (M.1 j 9)
theorem zz_liken16 (M : gx_Mem) : f_X2_liken 16 9 M = some (zz_lk 16 9 M) := by
  unfold f_X2_liken
  have e1 : gx_cpk 0 0 6 6 6 = true := by decide
  have e2 : gx_cpk 0 0 24 24 24 = true := by decide
  have e3 : gx_cpk 0 0 5 5 5 = true := by decide
  simp only [e1, e2, e3, gx_gd, if_true, zz_let, show (0 : Int32).toNatClampNeg = 0 from rfl, show (6 : Int32).toNatClampNeg = 6 from rfl, show (24 : Int32).toNatClampNeg = 24 from rfl, show (5 : Int32).toNatClampNeg = 5 from rfl]
  simp only [zz_cIov]
  rfl
theorem zz_liken23 (M : gx_Mem) : f_X2_liken 23 9 M = some (zz_lk 23 9 M) := by
  unfold f_X2_liken
  have e1 : gx_cpk 0 0 6 6 6 = true := by decide
  have e2 : gx_cpk 0 0 24 24 24 = true := by decide
  have e3 : gx_cpk 0 0 5 5 5 = true := by decide
  simp only [e1, e2, e3, gx_gd, if_true, zz_let, show (0 : Int32).toNatClampNeg = 0 from rfl, show (6 : Int32).toNatClampNeg = 6 from rfl, show (24 : Int32).toNatClampNeg = 24 from rfl, show (5 : Int32).toNatClampNeg = 5 from rfl]
  simp only [zz_cIov]
  rfl

/-! THE LAW: what it gives, on the model's side -/
theorem zz_twoOf {s : Int32} (h : zz_lvO s < 5) (a b : Int32) (M : gx_Mem) : f_X8_twoOf s a b M = some (zz_op s a b) := by
  have hm1 : ∀ x : Int32, x / (-1) = -x := fun x => by
    apply Int32.toInt_inj.1
    rw [Int32.toInt_div, show (-1 : Int32).toInt = -1 from rfl, Int32.toInt_neg x, Int.tdiv_neg, Int.tdiv_one]
  rcases zz_lvC h with rfl | rfl | rfl | rfl | rfl | rfl | rfl | rfl | rfl | rfl
  · show (if b = 0 then some (0 : Int32) else (if b = -1 then some (0 : Int32) else gx_gd (decide (¬ b = 0)) (some (gx_rem a b)))) = some (if b = 0 then 0 else gx_rem a b)
    by_cases c : b = 0
    · rw [if_pos c, if_pos c]
    · rw [if_neg c, if_neg c]
      by_cases c2 : b = -1
      · rw [if_pos c2, c2]
        unfold gx_rem
        rw [hm1, show -a * (-1 : Int32) = a by rw [Int32.mul_neg, Int32.mul_one, Int32.neg_neg], Int32.sub_self]
      · rw [if_neg c2, zz_gdD c]
  · show (if a = 0 then some (0 : Int32) else (if b = 0 then some 0 else some 1)) = some (if a = 0 then 0 else if b = 0 then 0 else 1)
    split
    · rfl
    · split <;> rfl
  · rfl
  · rfl
  · rfl
  · show (if b = 0 then some (0 : Int32) else (if b = -1 then some (-a) else gx_gd (decide (¬ b = 0)) (some (a / b)))) = some (if b = 0 then 0 else a / b)
    by_cases c : b = 0
    · rw [if_pos c, if_pos c]
    · rw [if_neg c, if_neg c]
      by_cases c2 : b = -1
      · rw [if_pos c2, c2, hm1]
      · rw [if_neg c2, zz_gdD c]
  · show (if b ≤ a then some (0 : Int32) else some 1) = some (if b ≤ a then 0 else 1)
    split <;> rfl
  · show (if a = b then some (1 : Int32) else some 0) = some (if a = b then 1 else 0)
    split <;> rfl
  · show (if a ≤ b then some (0 : Int32) else some 1) = some (if a ≤ b then 0 else 1)
    split <;> rfl
  · show f_X8_twoOf_b218 a b M = some (if a = 0 then (if b = 0 then 0 else 1) else 1)
    unfold f_X8_twoOf_b218
    split
    · split <;> rfl
    · rfl
def zz_S75 (k _i : Nat) : Bool := k == 75
/-- the model's code and names -/
def zz_cm (M : gx_Mem) (acc : List (Int32 × Int32)) (nm : Nat → Int32) : Prop := acc.length ≤ 121 ∧ (∀ i, i < acc.length → M.1 69 i = zz_tr (acc.getD i (0, 0)) ∧ M.1 70 i = (acc.getD i (0, 0)).2) ∧ ∀ j, j < 6 → M.1 74 j = nm j
theorem zz_cm.fr {M M2 : gx_Mem} {acc : List (Int32 × Int32)} {nm : Nat → Int32} (h : zz_cm M acc nm) (f : zz_fr zz_S75 M M2) : zz_cm M2 acc nm := by
  obtain ⟨a, b, c⟩ := h
  exact ⟨a, fun i hi => by rw [f.2 69 i rfl, f.2 70 i rfl]; exact b i hi, fun j hj => (f.2 74 j rfl).trans (c j hj)⟩
theorem zz_l12s (v1 v3 : Int32) (n : Nat) (v4 v5 : Int32) (M : gx_Mem) : f_X8_worked_l12 v1 v3 (n + 1) v4 v5 M = f_X8_worked_k12 v1 v3 (fun v4 v5 M => f_X8_worked_l12 v1 v3 n v4 v5 M) v4 v5 M := rfl
theorem zz_stepM {M : gx_Mem} {pre post : List (Int32 × Int32)} {s : Int32 × Int32} {nm : Nat → Int32} {st st2 : List Int32} {e : Nat} (hc : zz_cm M (pre ++ s :: post) nm) (hp : zz_pil 75 M st) (hv : zz_vc s) (hs : zz_stp nm s st = some st2) (hl : st.length < 130) (he : pre.length < e) (he2 : e ≤ 121) :
    ∃ M2, (∀ ag, f_X8_worked_k12 0 (nI e) ag (nI st.length) (nI pre.length) M = ag (nI st2.length) (nI (pre.length + 1)) M2) ∧ zz_fr zz_S75 M M2 ∧ zz_pil 75 M2 st2 := by
  obtain ⟨h2, h3, h4⟩ := hc
  have hk : pre.length < (pre ++ s :: post).length := by rw [List.length_append]; show _ < _ + (post.length + 1); omega
  obtain ⟨e1, e2⟩ := h3 pre.length hk
  rw [zz_gD3] at e1 e2
  have p1k : nI pre.length + 1 = nI (pre.length + 1) := zz_add _ 1
  have hk12 : ∀ ag, f_X8_worked_k12 0 (nI e) ag (nI st.length) (nI pre.length) M = (fun x2 => (if x2 = (1 : Int32) then f_X8_worked_b45 ag 0 (nI e) (nI st.length) (nI pre.length) x2 M else (if x2 = (2 : Int32) then f_X8_worked_b45 ag 0 (nI e) (nI st.length) (nI pre.length) x2 M else (if x2 = (3 : Int32) then gx_gd (gx_in (nI st.length - (1 : Int32)) 130) ((if (M.1 75 (nI st.length - (1 : Int32)).toNatClampNeg) = 0 then f_X8_worked_b117 ag 0 (nI e) (nI st.length) (nI pre.length) (nI st.length - (1 : Int32)) (1 : Int32) M else f_X8_worked_b117 ag 0 (nI e) (nI st.length) (nI pre.length) (nI st.length - (1 : Int32)) (0 : Int32) M)) else (if x2 = (4 : Int32) then gx_gd (gx_in (nI st.length - (1 : Int32)) 130) (gx_gd (gx_in (nI st.length - (1 : Int32)) 130) (gx_let (gx_sI M 75 (nI st.length - (1 : Int32)).toNatClampNeg (-(M.1 75 (nI st.length - (1 : Int32)).toNatClampNeg))) (fun M7 => f_X8_worked_b182 ag 0 (nI e) (nI st.length) (nI pre.length) M7))) else gx_let (nI st.length + (-1 : Int32)) (fun x3 => gx_gd (gx_in (x3 - (1 : Int32)) 130) (gx_gd (gx_in x3 130) (gx_bP (f_X8_twoOf x2 (M.1 75 (x3 - (1 : Int32)).toNatClampNeg) (M.1 75 x3.toNatClampNeg) M) (fun y5 => gx_gd (gx_in (x3 - (1 : Int32)) 130) (gx_let (gx_sI M 75 (x3 - (1 : Int32)).toNatClampNeg y5) (fun M6 => f_X8_worked_b182 ag 0 (nI e) x3 (nI pre.length) M6)))))))))) ) (zz_tr s) := by
    intro ag
    unfold f_X8_worked_k12
    rw [show (130 : Int32) * 0 = nI 0 from rfl, zz_add, Nat.zero_add, if_neg (show ¬ nI e ≤ nI pre.length by rw [zz_le (by omega) (by omega)]; omega), zz_gi (show pre.length < 260 by omega) (by decide), zz_cl (show pre.length < 2147483648 by omega), e1, zz_let]
  have b79 : ∀ ag v, f_X8_worked_b79 ag 0 (nI e) (nI st.length) (nI pre.length) (nI st.length) v M = ag (nI (st.length + 1)) (nI (pre.length + 1)) (gx_sI M 75 st.length v) := by
    intro ag v
    unfold f_X8_worked_b79 f_X8_worked_b182
    rw [zz_gi hl (by decide), zz_let, zz_cl (show st.length < 2147483648 by omega), show nI st.length + 1 = nI (st.length + 1) from zz_add _ 1, zz_let, p1k, zz_let]
  rcases hv with hv | ⟨hv, j, hj, hv2⟩ | hv | hv | hv
  · have : st2 = s.2 :: st := by unfold zz_stp at hs; rw [if_pos hv] at hs; cases hs; rfl
    subst this
    have tr : zz_tr s = 1 := by unfold zz_tr; rw [if_pos hv]
    refine ⟨gx_sI M 75 st.length s.2, fun ag => ?_, zz_fr.rf.sI rfl, zz_pil_push s.2 hp⟩
    rw [hk12, tr]
    dsimp only
    unfold f_X8_worked_b45
    rw [if_pos rfl, if_pos rfl, zz_gi (show pre.length < 260 by omega) (by decide), zz_cl (show pre.length < 2147483648 by omega), e2, b79]
    rfl
  · have n35 : ¬ s.1 = 35 := by rw [hv]; decide
    have : st2 = nm j :: st := by
      unfold zz_stp at hs
      rw [if_neg n35, if_pos hv, hv2, zz_cl (show j < 2147483648 by omega)] at hs
      cases hs; rfl
    subst this
    have tr : zz_tr s = 2 := by unfold zz_tr; rw [if_neg n35, if_pos hv]
    refine ⟨gx_sI M 75 st.length (nm j), fun ag => ?_, zz_fr.rf.sI rfl, zz_pil_push (nm j) hp⟩
    rw [hk12, tr]
    dsimp only
    unfold f_X8_worked_b45
    rw [if_neg (show ¬ (2 : Int32) = 1 by decide), if_pos rfl, if_neg (show ¬ (2 : Int32) = 1 by decide), zz_gi (show pre.length < 260 by omega) (by decide), zz_cl (show pre.length < 2147483648 by omega), e2, hv2, zz_gi hj (by decide), zz_cl (show j < 2147483648 by omega), h4 j hj, b79]
    rfl
  · have n35 : ¬ s.1 = 35 := by rw [hv]; decide
    have n36 : ¬ s.1 = 36 := by rw [hv]; decide
    have n33 : ¬ s.1 = 33 := by rw [hv]; decide
    have tr : zz_tr s = 4 := by unfold zz_tr; rw [if_neg n35, if_neg n36, if_neg n33, if_pos hv]
    cases st with
    | nil => unfold zz_stp at hs; rw [if_neg n35, if_neg n36] at hs; cases hs
    | cons a r =>
      have : st2 = -a :: r := by
        unfold zz_stp at hs
        rw [if_neg n35, if_neg n36] at hs
        dsimp only at hs
        rw [if_pos hv] at hs
        cases hs; rfl
      subst this
      have hl : r.length + 1 < 130 := hl
      obtain ⟨p1, p2⟩ := hp
      refine ⟨gx_sI M 75 r.length (-a), fun ag => ?_, zz_fr.rf.sI rfl, zz_pil_push (-a) p2⟩
      rw [hk12, tr]
      dsimp only
      unfold f_X8_worked_b182
      rw [if_neg (show ¬ (4 : Int32) = 1 by decide), if_neg (show ¬ (4 : Int32) = 2 by decide), if_neg (show ¬ (4 : Int32) = 3 by decide), if_pos rfl, show nI (a :: r).length - 1 = nI r.length from nI_pred r.length, zz_gi (show r.length < 130 by omega) (by decide), zz_gi (show r.length < 130 by omega) (by decide), zz_cl (show r.length < 2147483648 by omega), p1, zz_let, p1k, zz_let]
      rfl
  · have n35 : ¬ s.1 = 35 := by rw [hv]; decide
    have n36 : ¬ s.1 = 36 := by rw [hv]; decide
    have n126 : ¬ s.1 = 126 := by rw [hv]; decide
    have tr : zz_tr s = 3 := by unfold zz_tr; rw [if_neg n35, if_neg n36, if_pos hv]
    cases st with
    | nil => unfold zz_stp at hs; rw [if_neg n35, if_neg n36] at hs; cases hs
    | cons a r =>
      have : st2 = (if a = 0 then 1 else 0) :: r := by
        unfold zz_stp at hs
        rw [if_neg n35, if_neg n36] at hs
        dsimp only at hs
        rw [if_neg n126, if_pos hv] at hs
        cases hs; rfl
      subst this
      have hl : r.length + 1 < 130 := hl
      obtain ⟨p1, p2⟩ := hp
      refine ⟨gx_sI M 75 r.length (if a = 0 then 1 else 0), fun ag => ?_, zz_fr.rf.sI rfl, zz_pil_push (if a = 0 then 1 else 0) p2⟩
      have b117 : ∀ v, f_X8_worked_b117 ag 0 (nI e) (nI (a :: r).length) (nI pre.length) (nI r.length) v M = ag (nI (r.length + 1)) (nI (pre.length + 1)) (gx_sI M 75 r.length v) := by
        intro v
        unfold f_X8_worked_b117 f_X8_worked_b182
        rw [zz_gi (show r.length < 130 by omega) (by decide), zz_let, zz_cl (show r.length < 2147483648 by omega), p1k, zz_let]
        rfl
      rw [hk12, tr]
      dsimp only
      rw [if_neg (show ¬ (3 : Int32) = 1 by decide), if_neg (show ¬ (3 : Int32) = 2 by decide), if_pos rfl, show nI (a :: r).length - 1 = nI r.length from nI_pred r.length, zz_gi (show r.length < 130 by omega) (by decide), zz_cl (show r.length < 2147483648 by omega), p1, b117, b117]
      by_cases c : a = 0
      · rw [if_pos c, if_pos c]; rfl
      · rw [if_neg c, if_neg c]; rfl
  · obtain ⟨n35, n36, n126, n33, n59, n63, -⟩ := zz_lvN hv
    have tr : zz_tr s = s.1 := ((zz_op8 hv).2 s.2).symm
    cases st with
    | nil => unfold zz_stp at hs; rw [if_neg n35, if_neg n36] at hs; cases hs
    | cons a r =>
      cases r with
      | nil =>
        unfold zz_stp at hs
        rw [if_neg n35, if_neg n36] at hs
        dsimp only at hs
        rw [if_neg n126, if_neg n33] at hs
        cases hs
      | cons a2 r2 =>
        have : st2 = zz_op s.1 a2 a :: r2 := by
          unfold zz_stp at hs
          rw [if_neg n35, if_neg n36] at hs
          dsimp only at hs
          rw [if_neg n126, if_neg n33] at hs
          cases hs; rfl
        subst this
        have hl : r2.length + 1 + 1 < 130 := hl
        obtain ⟨p1, p2, p3⟩ := hp
        have p1 : M.1 75 (r2.length + 1) = a := p1
        have m1 : ¬ s.1 = 1 ∧ ¬ s.1 = 2 ∧ ¬ s.1 = 3 ∧ ¬ s.1 = 4 := by
          rcases zz_lvC hv with q | q | q | q | q | q | q | q | q | q <;> rw [q] <;> decide
        refine ⟨gx_sI M 75 r2.length (zz_op s.1 a2 a), fun ag => ?_, zz_fr.rf.sI rfl, zz_pil_push (zz_op s.1 a2 a) p3⟩
        rw [hk12, tr]
        dsimp only
        unfold f_X8_worked_b182
        rw [if_neg m1.1, if_neg m1.2.1, if_neg m1.2.2.1, if_neg m1.2.2.2]
        show gx_let (nI (r2.length + 1 + 1) + (-1 : Int32)) _ = _
        rw [pk_m1 (r2.length + 1), zz_let, nI_pred, zz_gi (show r2.length < 130 by omega) (by decide), zz_gi (show r2.length + 1 < 130 by omega) (by decide), zz_cl (show r2.length < 2147483648 by omega), zz_cl (show r2.length + 1 < 2147483648 by omega), p1, p2, zz_twoOf hv, zz_bPs, zz_gi (show r2.length < 130 by omega) (by decide), zz_let, p1k, zz_let]
        rfl
theorem zz_runM {nm : Nat → Int32} {post : List (Int32 × Int32)} {e : Nat} (he2 : e ≤ 121) : ∀ (l pre : List (Int32 × Int32)) (M : gx_Mem) (st st2 : List Int32), zz_cm M (pre ++ (l ++ post)) nm → zz_pil 75 M st → (∀ s, s ∈ l → zz_vc s) → zz_run nm l st = some st2 → st.length + l.length ≤ 130 → pre.length + l.length ≤ e → ∃ M2, (∀ F, f_X8_worked_l12 0 (nI e) (F + l.length) (nI st.length) (nI pre.length) M = f_X8_worked_l12 0 (nI e) F (nI st2.length) (nI (pre.length + l.length)) M2) ∧ zz_fr zz_S75 M M2 ∧ zz_pil 75 M2 st2
  | [], pre, M, st, st2, hc, hp, hv, hr, hl, he => by
    cases hr
    exact ⟨M, fun F => rfl, zz_fr.rf, hp⟩
  | s :: l, pre, M, st, st2, hc, hp, hv, hr, hl, he => by
    have hl' : st.length + (l.length + 1) ≤ 130 := hl
    have he' : pre.length + (l.length + 1) ≤ e := he
    have hr' : (match zz_stp nm s st with | none => none | some st3 => zz_run nm l st3) = some st2 := hr
    cases e0 : zz_stp nm s st with
    | none => rw [e0] at hr'; cases hr'
    | some st3 =>
      rw [e0] at hr'
      have hle := zz_stp_len e0
      obtain ⟨A, a1, a2, a3⟩ := zz_stepM (post := l ++ post) hc hp (hv s (List.mem_cons_self)) e0 (by omega) (show pre.length < e by omega) he2
      have hcA := hc.fr a2
      have eq : pre ++ (s :: l ++ post) = (pre ++ [s]) ++ (l ++ post) := by simp
      rw [eq] at hcA
      obtain ⟨B, b1, b2, b3⟩ := zz_runM he2 l (pre ++ [s]) A st3 st2 hcA a3 (fun x hx => hv x (List.mem_cons_of_mem _ hx)) hr' (by omega) (by rw [List.length_append]; show pre.length + 1 + l.length ≤ e; omega)
      refine ⟨B, fun F => ?_, a2.tr b2, b3⟩
      show f_X8_worked_l12 0 (nI e) (F + l.length + 1) (nI st.length) (nI pre.length) M = _
      rw [zz_l12s, a1]
      have := b1 F
      rw [List.length_append] at this
      refine this.trans ?_
      show _ = f_X8_worked_l12 0 (nI e) F (nI st2.length) (nI (pre.length + (l.length + 1))) B
      rw [show pre.length + [s].length + l.length = pre.length + (l.length + 1) by show pre.length + 1 + l.length = _; omega]
theorem zz_workedM {nm : Nat → Int32} {pre c post : List (Int32 × Int32)} {M : gx_Mem} (hc : zz_cm M (pre ++ (c ++ post)) nm) (w : zz_wf c) : ∃ M2, f_X8_worked 0 (nI pre.length) (nI (pre.length + c.length)) M = some (zz_val nm c, M2) ∧ zz_fr zz_S75 M M2 := by
  have hlen := hc.1
  simp only [List.length_append] at hlen
  obtain ⟨A, a1, a2, a3⟩ := zz_runM (e := pre.length + c.length) (by omega) c pre M [] [zz_val nm c] hc trivial w.1 (zz_val_run w []) (by show 0 + c.length ≤ 130; omega) (Nat.le_refl _)
  refine ⟨A, ?_, a2⟩
  unfold f_X8_worked
  rw [show (130 : Int32) * 0 = nI 0 from rfl, zz_add, Nat.zero_add, zz_let]
  obtain ⟨G, hG⟩ : ∃ G, gx_fuel = G + 1 + c.length := ⟨gx_fuel - 1 - c.length, by unfold gx_fuel; omega⟩
  rw [hG]
  refine (a1 (G + 1)).trans ?_
  rw [zz_l12s]
  unfold f_X8_worked_k12
  rw [show (130 : Int32) * 0 = nI 0 from rfl, zz_add, Nat.zero_add, if_pos (nI_le (Nat.le_refl _) (by omega)), show A.1 75 (0 : Int32).toNatClampNeg = zz_val nm c from a3.1]
theorem zz_l7s (v1 : Int32) (n : Nat) (v2 v3 : Int32) (M : gx_Mem) : f_X8_gives_l7 v1 (n + 1) v2 v3 M = f_X8_gives_k7 v1 (fun v2 v3 M => f_X8_gives_l7 v1 n v2 v3 M) v2 v3 M := rfl
theorem zz_givesL {nm : Nat → Int32} {ls : List (List (Int32 × Int32) × List (Int32 × Int32))} (hl : ls.length ≤ 61) (ha : (zz_ac ls).length ≤ 120) : ∀ (l2 l1 : List (List (Int32 × Int32) × List (Int32 × Int32))) (M : gx_Mem), ls = l1 ++ l2 → zz_cm M (zz_ac ls) nm → M.1 71 0 = nI ls.length → (∀ i, i < ls.length → M.1 72 i = nI ((zz_ac (ls.take i)).length + (ls.getD i ([], [])).1.length) ∧ M.1 73 i = nI (zz_ac (ls.take (i + 1))).length) → (∀ x, x ∈ l2 → zz_lwf x) → ∀ F, l2.length < F → ∃ M2, f_X8_gives_l7 0 F (nI (zz_ac l1).length) (nI l1.length) M = some (zz_lval nm l2, M2) ∧ zz_fr zz_S75 M M2
  | [], l1, M, he, hc, h71, ht, hw, F, hF => by
    obtain ⟨F, rfl⟩ : ∃ G, F = G + 1 := ⟨F - 1, by omega⟩
    refine ⟨M, ?_, zz_fr.rf⟩
    rw [zz_l7s]
    unfold f_X8_gives_k7
    rw [zz_gd (show gx_in (0 : Int32) 2 = true by decide), show M.1 71 (0 : Int32).toNatClampNeg = nI ls.length from h71, show (61 : Int32) * 0 = nI 0 from rfl, zz_add, Nat.zero_add, he, List.append_nil]
    rw [he, List.append_nil] at hl
    rw [if_pos (nI_le (Nat.le_refl _) (by omega))]
    rfl
  | (t, c) :: l2, l1, M, he, hc, h71, ht, hw, F, hF => by
    obtain ⟨F, rfl⟩ : ∃ G, F = G + 1 := ⟨F - 1, by omega⟩
    have hF : l2.length + 1 < F + 1 := hF
    obtain ⟨w1, w2⟩ := hw (t, c) (List.mem_cons_self)
    have hi : l1.length < ls.length := by rw [he, List.length_append]; show _ < _ + (l2.length + 1); omega
    obtain ⟨t1, t2⟩ := ht l1.length hi
    have k1 : ls.take l1.length = l1 := by rw [he]; simp
    have k2 : ls.take (l1.length + 1) = l1 ++ [(t, c)] := by
      rw [he, show l1 ++ (t, c) :: l2 = (l1 ++ [(t, c)]) ++ l2 by simp]
      rw [List.take_append_of_le_length (by rw [List.length_append]; exact Nat.le_refl _), List.take_of_length_le (by rw [List.length_append]; exact Nat.le_refl _)]
    have k3 : ls.getD l1.length ([], []) = (t, c) := by
      rw [he, List.getD_eq_getElem?_getD, List.getElem?_append_right (Nat.le_refl _), Nat.sub_self]
      rfl
    rw [k1, k3] at t1
    rw [k2, zz_ac_snoc] at t2
    have eac : zz_ac ls = zz_ac l1 ++ (t ++ (c ++ zz_ac l2)) := by
      rw [he, zz_ac_app]
      show zz_ac l1 ++ (t ++ c ++ zz_ac l2) = _
      rw [List.append_assoc t c]
    have hcl := hc.1
    rw [eac] at hcl
    simp only [List.length_append] at hcl t2
    dsimp only at t1 t2
    have hlv : zz_lval nm ((t, c) :: l2) = if t = [] then zz_val nm c else if zz_val nm t = 0 then zz_lval nm l2 else zz_val nm c := rfl
    have b47 : ∀ N : gx_Mem, zz_fr zz_S75 M N → ∃ M2, f_X8_gives_b47 0 (nI l1.length) N = some (zz_val nm c, M2) ∧ zz_fr zz_S75 M M2 := by
      intro N fN
      have hcN := hc.fr fN
      rw [eac, ← List.append_assoc] at hcN
      obtain ⟨A, a1, a2⟩ := zz_workedM (pre := zz_ac l1 ++ t) hcN w2
      refine ⟨A, ?_, fN.tr a2⟩
      unfold f_X8_gives_b47
      rw [zz_gi (show l1.length < 122 by omega) (by decide), zz_gi (show l1.length < 122 by omega) (by decide), zz_cl (show l1.length < 2147483648 by omega), fN.2 72 _ rfl, fN.2 73 _ rfl, t1, t2]
      rw [List.length_append] at a1
      rw [show (zz_ac l1).length + (t.length + c.length) = (zz_ac l1).length + t.length + c.length by omega, a1, zz_bIs]
    rw [zz_l7s]
    unfold f_X8_gives_k7
    rw [zz_gd (show gx_in (0 : Int32) 2 = true by decide), show M.1 71 (0 : Int32).toNatClampNeg = nI ls.length from h71, show (61 : Int32) * 0 = nI 0 from rfl, zz_add, Nat.zero_add, if_neg (show ¬ nI ls.length ≤ nI l1.length by rw [zz_le (by omega) (by omega)]; omega), zz_gi (show l1.length < 122 by omega) (by decide), zz_cl (show l1.length < 2147483648 by omega), t1, hlv]
    by_cases ht0 : t = []
    · rw [if_pos ht0, ht0]
      show ∃ M2, (if nI ((zz_ac l1).length + 0) = nI (zz_ac l1).length then _ else _) = _ ∧ _
      rw [Nat.add_zero, if_pos rfl]
      exact b47 M zz_fr.rf
    · have wt := w1.resolve_left ht0
      have tl : 0 < t.length := List.length_pos_iff.2 ht0
      rw [if_neg ht0, if_neg (show ¬ nI ((zz_ac l1).length + t.length) = nI (zz_ac l1).length by rw [zz_eq (by omega) (by omega)]; omega), zz_gi (show l1.length < 122 by omega) (by decide)]
      have hc2 := hc
      rw [eac] at hc2
      obtain ⟨A, a1, a2⟩ := zz_workedM hc2 wt
      rw [a1, zz_bIs]
      by_cases v0 : zz_val nm t = 0
      · rw [if_pos v0, if_pos v0, zz_gi (show l1.length < 122 by omega) (by decide), a2.2 73 _ rfl, t2, zz_let, show nI l1.length + 1 = nI (l1.length + 1) from zz_add _ 1, zz_let]
        obtain ⟨B, b1, b2⟩ := zz_givesL hl ha l2 (l1 ++ [(t, c)]) A (by rw [he]; simp) (hc.fr a2) ((a2.2 71 0 rfl).trans h71) (fun i hi => by rw [a2.2 72 i rfl, a2.2 73 i rfl]; exact ht i hi) (fun x hx => hw x (List.mem_cons_of_mem _ hx)) F (by omega)
        refine ⟨B, ?_, a2.tr b2⟩
        rw [zz_ac_snoc] at b1
        simp only [List.length_append] at b1
        exact b1
      · rw [if_neg v0, if_neg v0]
        exact b47 A a2
/-- the model lets run on what the text says -/
theorem zz_runOf8 {M : gx_Mem} {ls : List (List (Int32 × Int32) × List (Int32 × Int32))} (h27 : M.1 57 27 = 1) (h : zz_ml M ls) (hl : ls.length ≤ 61) (hac : (zz_ac ls).length ≤ 120) (hw : ∀ x, x ∈ ls → zz_lwf x) {a w i f m n : Nat} (ha : a ≤ 1000) (hf : f < 24) (h77 : M.1 77 f = nI w) (h63 : M.1 63 0 = nI i) :
    ∃ M2, f_X8_runOf (nI a) (nI f) (nI m) (nI n) M = some (nI (zz_lvT ls a w i (f % 8) m n), M2) ∧ zz_fr zz_S745 M M2 := by
  generalize hB : gx_sI (gx_sI (gx_sI (gx_sI (gx_sI (gx_sI M 74 0 (nI a)) 74 1 (nI w)) 74 2 (nI i)) 74 3 (nI (f % 8))) 74 4 (nI m)) 74 5 (nI n) = B
  have fB : zz_fr zz_S745 M B := by rw [← hB]; exact (((((zz_fr.rf.sI rfl).sI rfl).sI rfl).sI rfl).sI rfl).sI rfl
  have b4 : ∀ j, j < 6 → B.1 74 j = zz_nmf a w i (f % 8) m n j := by
    intro j hj
    rw [← hB]
    match j, hj with
    | 0, _ => rfl
    | 1, _ => rfl
    | 2, _ => rfl
    | 3, _ => rfl
    | 4, _ => rfl
    | 5, _ => rfl
  obtain ⟨m1, m2, m3⟩ := h
  have hc : zz_cm B (zz_ac ls) (zz_nmf a w i (f % 8) m n) := ⟨by omega, fun i hi => by rw [fB.2 69 i rfl, fB.2 70 i rfl]; exact m3 i hi, b4⟩
  obtain ⟨C, c1, c2⟩ := zz_givesL hl hac ls [] B rfl hc ((fB.2 71 0 rfl).trans m1) (fun i hi => by rw [fB.2 72 i rfl, fB.2 73 i rfl]; exact m2 i hi) hw gx_fuel (by unfold gx_fuel; omega)
  refine ⟨C, ?_, fB.tr (c2.mono (fun k i q => by simp [zz_S75] at q; subst q; rfl))⟩
  unfold f_X8_runOf
  rw [zz_gi hf (by decide), zz_let, h27, if_neg (show ¬ (1 : Int32) = 0 by decide), zz_let, zz_gi hf (by decide), zz_cl (show f < 2147483648 by omega), show (gx_sI M 74 (0 : Int32).toNatClampNeg (nI a)).1 77 f = nI w from h77, zz_let, show (gx_sI (gx_sI M 74 (0 : Int32).toNatClampNeg (nI a)) 74 (1 : Int32).toNatClampNeg (nI w)).1 63 (0 : Int32).toNatClampNeg = nI i from h63, zz_let, show (8 : Int32) = nI 8 from rfl, zz_rem (by omega) (by decide) (by decide), zz_let, zz_let, zz_let]
  rw [show (0 : Int32).toNatClampNeg = 0 from rfl, show (1 : Int32).toNatClampNeg = 1 from rfl, show (2 : Int32).toNatClampNeg = 2 from rfl, show (3 : Int32).toNatClampNeg = 3 from rfl, show (4 : Int32).toNatClampNeg = 4 from rfl, show (5 : Int32).toNatClampNeg = 5 from rfl, hB]
  unfold f_X8_gives
  rw [show (61 : Int32) * 0 = nI 0 from rfl, zz_let]
  have c1' : f_X8_gives_l7 0 gx_fuel 0 (nI 0) B = some (zz_lval (zz_nmf a w i (f % 8) m n) ls, C) := c1
  rw [c1', zz_bIs, zz_clp8 ha]
  rfl

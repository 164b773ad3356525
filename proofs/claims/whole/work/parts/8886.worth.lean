/-! THE LAW: what it gives, on the class's side -/
def zz_pil (c : Nat) (M : gx_Mem) : List Int32 → Prop
  | [] => True
  | a :: r => M.1 c r.length = a ∧ zz_pil c M r
theorem zz_pil_w {c : Nat} {M : gx_Mem} {i : Nat} {v : Int32} : ∀ (st : List Int32), st.length ≤ i → zz_pil c M st → zz_pil c (gx_sI M c i v) st
  | [], _, _ => trivial
  | a :: r, h, p => by
    have h : r.length + 1 ≤ i := h
    exact ⟨by rw [zz_sI1, if_neg (by omega)]; exact p.1, zz_pil_w r (by omega) p.2⟩
theorem zz_pil_push {c : Nat} {M : gx_Mem} {st : List Int32} (v : Int32) (p : zz_pil c M st) : zz_pil c (gx_sI M c st.length v) (v :: st) := ⟨by rw [zz_sI1, if_pos ⟨rfl, rfl⟩], zz_pil_w st (Nat.le_refl _) p⟩
def zz_val (nm : Nat → Int32) (c : List (Int32 × Int32)) : Int32 := match zz_run nm c [] with
  | some (v :: _) => v
  | _ => 0
theorem zz_val_run {nm : Nat → Int32} {c : List (Int32 × Int32)} (h : zz_wf c) (st : List Int32) : zz_run nm c st = some (zz_val nm c :: st) := by
  obtain ⟨v, hv⟩ := h.2 nm
  have : zz_val nm c = v := by unfold zz_val; rw [hv []]
  rw [this]; exact hv st
def zz_lval (nm : Nat → Int32) : List (List (Int32 × Int32) × List (Int32 × Int32)) → Int32
  | [] => 0
  | l :: ls => if l.1 = [] then zz_val nm l.2 else if zz_val nm l.1 = 0 then zz_lval nm ls else zz_val nm l.2
theorem zz_joined {s : Int32} (h : zz_lvO s < 5) (a b : Int32) (M : gx_Mem) : f_X3_joined s a b M = some (zz_op s a b) := by
  rcases zz_lvC h with rfl | rfl | rfl | rfl | rfl | rfl | rfl | rfl | rfl | rfl
  · show (if b = 0 then some (0 : Int32) else gx_gd (decide (¬ b = 0)) (some (gx_rem a b))) = some (if b = 0 then 0 else gx_rem a b)
    by_cases c : b = 0
    · rw [if_pos c, if_pos c]
    · rw [if_neg c, if_neg c, zz_gdD c]
  · show (if a = 0 then some (0 : Int32) else (if b = 0 then some 0 else some 1)) = some (if a = 0 then 0 else if b = 0 then 0 else 1)
    split
    · rfl
    · split <;> rfl
  · rfl
  · rfl
  · rfl
  · show (if b = 0 then some (0 : Int32) else gx_gd (decide (¬ b = 0)) (some (a / b))) = some (if b = 0 then 0 else a / b)
    by_cases c : b = 0
    · rw [if_pos c, if_pos c]
    · rw [if_neg c, if_neg c, zz_gdD c]
  · show (if b ≤ a then some (0 : Int32) else some 1) = some (if b ≤ a then 0 else 1)
    split <;> rfl
  · show (if a = b then some (1 : Int32) else some 0) = some (if a = b then 1 else 0)
    split <;> rfl
  · show (if a ≤ b then some (0 : Int32) else some 1) = some (if a ≤ b then 0 else 1)
    split <;> rfl
  · show (if a = 0 then (if b = 0 then some (0 : Int32) else some 1) else some 1) = some (if a = 0 then (if b = 0 then 0 else 1) else 1)
    split
    · split <;> rfl
    · rfl
def zz_S3 (k _i : Nat) : Bool := k == 3
/-- the class's code and names -/
def zz_cc (M : gx_Mem) (code : List (Int32 × Int32)) (nm : Nat → Int32) : Prop := M.1 0 4 = nI code.length ∧ code.length ≤ 128 ∧ (∀ i, i < code.length → M.1 1 i = (code.getD i (0, 0)).1 ∧ M.1 2 i = (code.getD i (0, 0)).2) ∧ ∀ j, j < 6 → M.1 4 j = nm j
theorem zz_cc.fr {M M2 : gx_Mem} {code : List (Int32 × Int32)} {nm : Nat → Int32} (h : zz_cc M code nm) (f : zz_fr zz_S3 M M2) : zz_cc M2 code nm := by
  obtain ⟨a, b, c, d⟩ := h
  exact ⟨(f.2 0 4 rfl).trans a, b, fun i hi => by rw [f.2 1 i rfl, f.2 2 i rfl]; exact c i hi, fun j hj => (f.2 4 j rfl).trans (d j hj)⟩
theorem zz_gD3 (pre post : List (Int32 × Int32)) (s : Int32 × Int32) : (pre ++ s :: post).getD pre.length (0, 0) = s := by
  rw [List.getD_eq_getElem?_getD, List.getElem?_append_right (Nat.le_refl _), Nat.sub_self]
  rfl
theorem zz_single {s : Int32} (h : zz_lvO s < 5) (M : gx_Mem) : f_X3_isSingle s M = some 0 := by
  obtain ⟨-, -, n3, n4, n5, n6, -⟩ := zz_lvN h
  unfold f_X3_isSingle
  rw [if_neg n5, if_neg n6, if_neg n3, if_neg n4]
theorem zz_stepC {M : gx_Mem} {pre post : List (Int32 × Int32)} {s : Int32 × Int32} {nm : Nat → Int32} {st st2 : List Int32} (hc : zz_cc M (pre ++ s :: post) nm) (hp : zz_pil 3 M st) (hv : zz_vc s) (hs : zz_stp nm s st = some st2) (hl : st.length < 128) :
    ∃ M2, (∀ ag, f_X3_worth_k6 ag (nI st.length) 0 (nI pre.length) M = ag (nI st2.length) 0 (nI (pre.length + 1)) M2) ∧ zz_fr zz_S3 M M2 ∧ zz_pil 3 M2 st2 := by
  obtain ⟨h1, h2, h3, h4⟩ := hc
  have hk : pre.length < (pre ++ s :: post).length := by rw [List.length_append]; show _ < _ + (post.length + 1); omega
  obtain ⟨e1, e2⟩ := h3 pre.length hk
  rw [zz_gD3] at e1 e2
  have hk6 : ∀ ag, f_X3_worth_k6 ag (nI st.length) 0 (nI pre.length) M = (if s.1 = (35 : Int32) then f_X3_worth_b63 ag (nI st.length) 0 (nI pre.length) s.1 M else (if s.1 = (36 : Int32) then f_X3_worth_b63 ag (nI st.length) 0 (nI pre.length) s.1 M else gx_bP (f_X3_isSingle s.1 M) (fun y3 => (if y3 = 0 then f_X3_worth_b152 ag (nI st.length) 0 (nI pre.length) s.1 (nI st.length) (2 : Int32) M else f_X3_worth_b152 ag (nI st.length) 0 (nI pre.length) s.1 (nI st.length) (1 : Int32) M)))) := by
    intro ag
    unfold f_X3_worth_k6
    rw [h1, if_neg (show ¬ nI (pre ++ s :: post).length ≤ nI pre.length by rw [zz_le (by omega) (by omega)]; omega), if_neg (show ¬ (128 : Int32) ≤ nI pre.length by rw [show (128 : Int32) = nI 128 from rfl, zz_le (by decide) (by omega)]; omega), zz_gi (show pre.length < 128 by omega) (by decide), zz_cl (show pre.length < 2147483648 by omega), e1, zz_let, if_pos rfl]
  have b131 : ∀ ag v, f_X3_worth_b131 ag (nI st.length) 0 (nI pre.length) (nI st.length) v M = ag (nI (st.length + 1)) 0 (nI (pre.length + 1)) (gx_sI M 3 st.length v) := by
    intro ag v
    unfold f_X3_worth_b131 f_X3_worth_b292
    rw [zz_gi hl (by decide), zz_let, zz_cl (show st.length < 2147483648 by omega), show nI st.length + 1 = nI (st.length + 1) from zz_add _ 1, zz_let, show nI pre.length + 1 = nI (pre.length + 1) from zz_add _ 1, zz_let]
  rcases hv with hv | ⟨hv, j, hj, hv2⟩ | hv | hv | hv
  · have : st2 = s.2 :: st := by unfold zz_stp at hs; rw [if_pos hv] at hs; cases hs; rfl
    subst this
    refine ⟨gx_sI M 3 st.length s.2, fun ag => ?_, zz_fr.rf.sI rfl, zz_pil_push s.2 hp⟩
    rw [hk6, if_pos hv]
    unfold f_X3_worth_b63 f_X3_worth_b99
    rw [if_neg (show ¬ (128 : Int32) ≤ nI st.length by rw [show (128 : Int32) = nI 128 from rfl, zz_le (by decide) (by omega)]; omega), if_neg (show ¬ s.1 = 36 by rw [hv]; decide), if_pos hv, zz_gi (show pre.length < 128 by omega) (by decide), zz_cl (show pre.length < 2147483648 by omega), e2, b131]
    rfl
  · have n35 : ¬ s.1 = 35 := by rw [hv]; decide
    have : st2 = nm j :: st := by
      unfold zz_stp at hs
      rw [if_neg n35, if_pos hv, hv2, zz_cl (show j < 2147483648 by omega)] at hs
      cases hs; rfl
    subst this
    refine ⟨gx_sI M 3 st.length (nm j), fun ag => ?_, zz_fr.rf.sI rfl, zz_pil_push (nm j) hp⟩
    rw [hk6, if_neg n35, if_pos hv]
    unfold f_X3_worth_b63 f_X3_worth_b99
    rw [if_neg (show ¬ (128 : Int32) ≤ nI st.length by rw [show (128 : Int32) = nI 128 from rfl, zz_le (by decide) (by omega)]; omega), if_pos hv, zz_gi (show pre.length < 128 by omega) (by decide), zz_cl (show pre.length < 2147483648 by omega), e2, hv2, if_neg (nI_pos (show j < 2147483648 by omega)), zz_gi (show pre.length < 128 by omega) (by decide), if_pos (show nI j < (6 : Int32) by rw [show (6 : Int32) = nI 6 from rfl, zz_lt (by omega) (by decide)]; exact hj), if_neg n35, zz_gi (show pre.length < 128 by omega) (by decide), zz_gi hj (by decide), zz_cl (show j < 2147483648 by omega), h4 j hj, b131]
    rfl
  · have n35 : ¬ s.1 = 35 := by rw [hv]; decide
    have n36 : ¬ s.1 = 36 := by rw [hv]; decide
    cases st with
    | nil => unfold zz_stp at hs; rw [if_neg n35, if_neg n36] at hs; cases hs
    | cons a r =>
      have : st2 = -a :: r := by
        unfold zz_stp at hs
        rw [if_neg n35, if_neg n36] at hs
        dsimp only at hs
        rw [if_pos hv] at hs
        cases hs; rfl
      subst this
      have hl : r.length + 1 < 128 := hl
      obtain ⟨p1, p2⟩ := hp
      refine ⟨gx_sI M 3 r.length (-a), fun ag => ?_, zz_fr.rf.sI rfl, zz_pil_push (-a) p2⟩
      rw [hk6, if_neg n35, if_neg n36]
      unfold f_X3_isSingle f_X3_worth_b152 f_X3_worth_b292
      rw [hv, if_neg (show ¬ (126 : Int32) = 59 by decide), if_neg (show ¬ (126 : Int32) = 63 by decide), if_pos rfl, zz_bPs, if_neg (show ¬ (1 : Int32) = 0 by decide)]
      show (if (1 : Int32) ≤ nI (r.length + 1) then _ else _) = _
      rw [if_pos (show (1 : Int32) ≤ nI (r.length + 1) by rw [show (1 : Int32) = nI 1 from rfl, zz_le (by decide) (by omega)]; omega), if_neg (show ¬ (126 : Int32) = 59 by decide), if_neg (show ¬ (126 : Int32) = 63 by decide), if_pos rfl, show nI (a :: r).length - 1 = nI r.length from nI_pred r.length, zz_gi (show r.length < 128 by omega) (by decide), zz_gi (show r.length < 128 by omega) (by decide), zz_cl (show r.length < 2147483648 by omega), p1, zz_let, show nI pre.length + 1 = nI (pre.length + 1) from zz_add _ 1, zz_let]
      rfl
  · have n35 : ¬ s.1 = 35 := by rw [hv]; decide
    have n36 : ¬ s.1 = 36 := by rw [hv]; decide
    have n126 : ¬ s.1 = 126 := by rw [hv]; decide
    cases st with
    | nil => unfold zz_stp at hs; rw [if_neg n35, if_neg n36] at hs; cases hs
    | cons a r =>
      have : st2 = (if a = 0 then 1 else 0) :: r := by
        unfold zz_stp at hs
        rw [if_neg n35, if_neg n36] at hs
        dsimp only at hs
        rw [if_neg n126, if_pos hv] at hs
        cases hs; rfl
      subst this
      have hl : r.length + 1 < 128 := hl
      obtain ⟨p1, p2⟩ := hp
      refine ⟨gx_sI M 3 r.length (if a = 0 then 1 else 0), fun ag => ?_, zz_fr.rf.sI rfl, zz_pil_push (if a = 0 then 1 else 0) p2⟩
      have b258 : ∀ v, f_X3_worth_b258 ag (nI (a :: r).length) 0 (nI pre.length) (nI r.length) v M = ag (nI (r.length + 1)) 0 (nI (pre.length + 1)) (gx_sI M 3 r.length v) := by
        intro v
        unfold f_X3_worth_b258 f_X3_worth_b292
        rw [zz_gi (show r.length < 128 by omega) (by decide), zz_let, zz_cl (show r.length < 2147483648 by omega), show nI pre.length + 1 = nI (pre.length + 1) from zz_add _ 1, zz_let]
        rfl
      rw [hk6, if_neg n35, if_neg n36]
      unfold f_X3_isSingle f_X3_worth_b152
      rw [hv, if_neg (show ¬ (33 : Int32) = 59 by decide), if_neg (show ¬ (33 : Int32) = 63 by decide), if_neg (show ¬ (33 : Int32) = 126 by decide), if_pos rfl, zz_bPs, if_neg (show ¬ (1 : Int32) = 0 by decide)]
      show (if (1 : Int32) ≤ nI (r.length + 1) then _ else _) = _
      rw [if_pos (show (1 : Int32) ≤ nI (r.length + 1) by rw [show (1 : Int32) = nI 1 from rfl, zz_le (by decide) (by omega)]; omega), if_neg (show ¬ (33 : Int32) = 59 by decide), if_neg (show ¬ (33 : Int32) = 63 by decide), if_neg (show ¬ (33 : Int32) = 126 by decide), if_pos rfl, show nI (a :: r).length - 1 = nI r.length from nI_pred r.length, zz_gi (show r.length < 128 by omega) (by decide), zz_cl (show r.length < 2147483648 by omega), p1, b258, b258]
      by_cases c : a = 0
      · rw [if_pos c, if_pos c]; rfl
      · rw [if_neg c, if_neg c]; rfl
  · obtain ⟨n35, n36, n126, n33, n59, n63, -⟩ := zz_lvN hv
    cases st with
    | nil => unfold zz_stp at hs; rw [if_neg n35, if_neg n36] at hs; cases hs
    | cons a r =>
      cases r with
      | nil =>
        unfold zz_stp at hs
        rw [if_neg n35, if_neg n36] at hs
        dsimp only at hs
        rw [if_neg n126, if_neg n33] at hs
        cases hs
      | cons a2 r2 =>
        have : st2 = zz_op s.1 a2 a :: r2 := by
          unfold zz_stp at hs
          rw [if_neg n35, if_neg n36] at hs
          dsimp only at hs
          rw [if_neg n126, if_neg n33] at hs
          cases hs; rfl
        subst this
        have hl : r2.length + 1 + 1 < 128 := hl
        obtain ⟨p1, p2, p3⟩ := hp
        have p1 : M.1 3 (r2.length + 1) = a := p1
        refine ⟨gx_sI M 3 r2.length (zz_op s.1 a2 a), fun ag => ?_, zz_fr.rf.sI rfl, zz_pil_push (zz_op s.1 a2 a) p3⟩
        rw [hk6, if_neg n35, if_neg n36, zz_single hv, zz_bPs, if_pos rfl]
        unfold f_X3_worth_b152 f_X3_worth_b292
        show (if (2 : Int32) ≤ nI (r2.length + 1 + 1) then _ else _) = _
        rw [if_pos (show (2 : Int32) ≤ nI (r2.length + 1 + 1) by rw [show (2 : Int32) = nI 2 from rfl, zz_le (by decide) (by omega)]; omega), if_neg n59, if_neg n63, if_neg n126, if_neg n33, show nI (a :: a2 :: r2).length + -1 = nI (r2.length + 1) from pk_m1 (r2.length + 1), zz_let, nI_pred, zz_gi (show r2.length < 128 by omega) (by decide), zz_gi (show r2.length + 1 < 128 by omega) (by decide), zz_cl (show r2.length < 2147483648 by omega), zz_cl (show r2.length + 1 < 2147483648 by omega), p1, p2, zz_joined hv, zz_bPs, zz_gi (show r2.length < 128 by omega) (by decide), zz_let, show nI pre.length + 1 = nI (pre.length + 1) from zz_add _ 1, zz_let]
        rfl
theorem zz_l6s (n : Nat) (v1 v2 v3 : Int32) (M : gx_Mem) : f_X3_worth_l6 (n + 1) v1 v2 v3 M = f_X3_worth_k6 (fun v1 v2 v3 M => f_X3_worth_l6 n v1 v2 v3 M) v1 v2 v3 M := rfl
theorem zz_stp_len {nm : Nat → Int32} {s : Int32 × Int32} {st st2 : List Int32} (h : zz_stp nm s st = some st2) : st2.length ≤ st.length + 1 := by
  unfold zz_stp at h
  by_cases h1 : s.1 = 35
  · rw [if_pos h1] at h; cases h; exact Nat.le_refl _
  · rw [if_neg h1] at h
    by_cases h2 : s.1 = 36
    · rw [if_pos h2] at h; cases h; exact Nat.le_refl _
    · rw [if_neg h2] at h
      cases st with
      | nil => cases h
      | cons a r =>
        dsimp only at h
        by_cases h3 : s.1 = 126
        · rw [if_pos h3] at h; cases h; show r.length + 1 ≤ r.length + 1 + 1; omega
        · rw [if_neg h3] at h
          by_cases h4 : s.1 = 33
          · rw [if_pos h4] at h; cases h; show r.length + 1 ≤ r.length + 1 + 1; omega
          · rw [if_neg h4] at h
            cases r with
            | nil => cases h
            | cons a2 r2 => cases h; show r2.length + 1 ≤ r2.length + 1 + 1 + 1; omega
theorem zz_runC {nm : Nat → Int32} {post : List (Int32 × Int32)} : ∀ (l pre : List (Int32 × Int32)) (M : gx_Mem) (st st2 : List Int32), zz_cc M (pre ++ (l ++ post)) nm → zz_pil 3 M st → (∀ s, s ∈ l → zz_vc s) → zz_run nm l st = some st2 → st.length + l.length ≤ 128 → ∃ M2, (∀ F, f_X3_worth_l6 (F + l.length) (nI st.length) 0 (nI pre.length) M = f_X3_worth_l6 F (nI st2.length) 0 (nI (pre.length + l.length)) M2) ∧ zz_fr zz_S3 M M2 ∧ zz_pil 3 M2 st2
  | [], pre, M, st, st2, hc, hp, hv, hr, hl => by
    cases hr
    exact ⟨M, fun F => rfl, zz_fr.rf, hp⟩
  | s :: l, pre, M, st, st2, hc, hp, hv, hr, hl => by
    have hl' : st.length + (l.length + 1) ≤ 128 := hl
    have hr' : (match zz_stp nm s st with | none => none | some st3 => zz_run nm l st3) = some st2 := hr
    cases e : zz_stp nm s st with
    | none => rw [e] at hr'; cases hr'
    | some st3 =>
      rw [e] at hr'
      have hle := zz_stp_len e
      obtain ⟨A, a1, a2, a3⟩ := zz_stepC (post := l ++ post) hc hp (hv s (List.mem_cons_self)) e (by omega)
      have hcA := hc.fr a2
      have eq : pre ++ (s :: l ++ post) = (pre ++ [s]) ++ (l ++ post) := by simp
      rw [eq] at hcA
      obtain ⟨B, b1, b2, b3⟩ := zz_runC l (pre ++ [s]) A st3 st2 hcA a3 (fun x hx => hv x (List.mem_cons_of_mem _ hx)) hr' (by omega)
      refine ⟨B, fun F => ?_, a2.tr b2, b3⟩
      show f_X3_worth_l6 (F + l.length + 1) (nI st.length) 0 (nI pre.length) M = _
      rw [zz_l6s, a1]
      have := b1 F
      rw [List.length_append] at this
      refine this.trans ?_
      show _ = f_X3_worth_l6 F (nI st2.length) 0 (nI (pre.length + (l.length + 1))) B
      rw [show pre.length + [s].length + l.length = pre.length + (l.length + 1) by show pre.length + 1 + l.length = _; omega]

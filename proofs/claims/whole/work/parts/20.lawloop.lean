/-- the script: a row of L numbers that nobody writes -/
def gx_X (Γ : gx_Γ) (b L : Nat) (xs : Nat → Int32) : Prop := match Γ with
  | (p, e, R, s, m, args, below, meth, c, A, nL, kc, kss, Q) => va_X b L xs s s.heap ∧ b < s.heap.size ∧ ¬ A b
section GXL
variable {κ : gx_K} {Γ : gx_Γ} {own : String} {cc : ByteArray} {nL0 d : Nat} {pc pc2 : Nat} {lv lv2 : List (Nat × Value)} {st rest : List Value} {M M2 : gx_Mem} {α : Type} {R0 : α} {b L : Nat} {xs : Nat → Int32}
theorem gx_slen (Cx : gx_Cx κ Γ own cc nL0 d) (hX : gx_X Γ b L xs) (hd : gx_D cc pc .arraylength 1 pc2) (kk : gx_G κ Γ pc2 lv (.int (nI L) :: st) M) : gx_G κ Γ pc lv (.ref b :: st) M := by
  obtain ⟨p, e, R, s, m, args, below, meth, c, A, nL, kc, kss, Q⟩ := Γ
  obtain ⟨hx, hb, hml, hown, hts, hK, hDa, hSt, hsub, ⟨hfr, hlo, hkc, hks⟩, hnL, hDg⟩ := Cx
  obtain ⟨hd, rfl⟩ := hd
  obtain ⟨h1, h2, h3⟩ := hX
  intro H locs ls hP hS hl
  exact va_slen hx hb h1 h2 h3 hS hd (kk H locs ls hP hS hl)
theorem gx_sld (Cx : gx_Cx κ Γ own cc nL0 d) (hX : gx_X Γ b L xs) {i : Int32} {a : Option α} (hd : gx_D cc pc .iaload 1 pc2) (h : gx_gd (gx_in i L) a = some R0) (kk : a = some R0 → gx_G κ Γ pc2 lv (.int (xs i.toNatClampNeg) :: st) M) : gx_G κ Γ pc lv (.int i :: .ref b :: st) M := by
  obtain ⟨p, e, R, s, m, args, below, meth, c, A, nL, kc, kss, Q⟩ := Γ
  obtain ⟨hx, hb, hml, hown, hts, hK, hDa, hSt, hsub, ⟨hfr, hlo, hkc, hks⟩, hnL, hDg⟩ := Cx
  obtain ⟨hd, rfl⟩ := hd
  obtain ⟨h1, h2, h3⟩ := hX
  obtain ⟨hi, h⟩ := gx_gd_of h
  intro H locs ls hP hS hl
  exact va_sld hx hb h1 h2 h3 hS (gx_in_of hi) hd (kk h H locs ls hP hS hl)
theorem gx_rL {v r : Int32} (h : some v = some r) (hd : gx_D cc pc .ireturn 1 pc2) (hR : ∀ (pc pc2 : Nat) (lv : List (Nat × Value)) (M : gx_Mem), gx_D cc pc .ireturn 1 pc2 → gx_G κ Γ pc lv [.int r] M) : gx_G κ Γ pc lv [.int v] M := by cases h; exact hR _ _ _ _ hd
end GXL
def f_L_law_b1605 (L : Nat) (xs : Nat → Int32) (ag18 : Int32 → gx_Mem → Option Int32) (v3 : Int32) (M : gx_Mem) : Option Int32 := gx_let (v3 + (6 : Int32)) (fun x241 => ag18 x241 M)
def f_L_law_k18 (L : Nat) (xs : Nat → Int32)   (ag18 : Int32 → gx_Mem → Option Int32) (v3 : Int32) (M : gx_Mem) : Option Int32 := (if ((nI L) - (6 : Int32)) < v3 then some (1 : Int32) else gx_gd (gx_in v3 L) (if ((xs v3.toNatClampNeg) &&& (63 : Int32)) = (0 : Int32) then gx_gd (gx_in (v3 + (1 : Int32)) L) (gx_gd (gx_in (v3 + (2 : Int32)) L) (gx_bI (f_X7_person (xs (v3 + (1 : Int32)).toNatClampNeg) (xs (v3 + (2 : Int32)).toNatClampNeg) M) (fun y2 M3 => gx_gd (gx_in (v3 + (1 : Int32)) L) (gx_gd (gx_in (v3 + (2 : Int32)) L) (gx_bI (f_X8_person (xs (v3 + (1 : Int32)).toNatClampNeg) (xs (v3 + (2 : Int32)).toNatClampNeg) M3) (fun y5 M6 => (if y2 = y5 then f_L_law_b1605 L xs ag18 v3 M6 else some (0 : Int32)))))))) else (if ((xs v3.toNatClampNeg) &&& (63 : Int32)) = (1 : Int32) then gx_gd (gx_in (v3 + (1 : Int32)) L) (gx_gd (gx_in (v3 + (2 : Int32)) L) (gx_gd (gx_in (v3 + (3 : Int32)) L) (gx_bI (f_X7_people (xs (v3 + (1 : Int32)).toNatClampNeg) (xs (v3 + (2 : Int32)).toNatClampNeg) (xs (v3 + (3 : Int32)).toNatClampNeg) M) (fun y8 M9 => gx_gd (gx_in (v3 + (1 : Int32)) L) (gx_gd (gx_in (v3 + (2 : Int32)) L) (gx_gd (gx_in (v3 + (3 : Int32)) L) (gx_bI (f_X8_people (xs (v3 + (1 : Int32)).toNatClampNeg) (xs (v3 + (2 : Int32)).toNatClampNeg) (xs (v3 + (3 : Int32)).toNatClampNeg) M9) (fun y11 M12 => (if y8 = y11 then f_L_law_b1605 L xs ag18 v3 M12 else some (0 : Int32)))))))))) else (if ((xs v3.toNatClampNeg) &&& (63 : Int32)) = (2 : Int32) then gx_gd (gx_in (v3 + (1 : Int32)) L) (gx_gd (gx_in (v3 + (2 : Int32)) L) (gx_gd (gx_in (v3 + (3 : Int32)) L) (gx_bI (f_X7_mend (xs (v3 + (1 : Int32)).toNatClampNeg) (xs (v3 + (2 : Int32)).toNatClampNeg) (xs (v3 + (3 : Int32)).toNatClampNeg) M) (fun y14 M15 => gx_gd (gx_in (v3 + (1 : Int32)) L) (gx_gd (gx_in (v3 + (2 : Int32)) L) (gx_gd (gx_in (v3 + (3 : Int32)) L) (gx_bI (f_X8_mend (xs (v3 + (1 : Int32)).toNatClampNeg) (xs (v3 + (2 : Int32)).toNatClampNeg) (xs (v3 + (3 : Int32)).toNatClampNeg) M15) (fun y17 M18 => (if y14 = y17 then f_L_law_b1605 L xs ag18 v3 M18 else some (0 : Int32)))))))))) else (if ((xs v3.toNatClampNeg) &&& (63 : Int32)) = (3 : Int32) then gx_gd (gx_in (v3 + (1 : Int32)) L) (gx_gd (gx_in (v3 + (2 : Int32)) L) (gx_bP (f_X7_of (xs (v3 + (1 : Int32)).toNatClampNeg) (xs (v3 + (2 : Int32)).toNatClampNeg) M) (fun y20 => gx_gd (gx_in (v3 + (1 : Int32)) L) (gx_gd (gx_in (v3 + (2 : Int32)) L) (gx_bP (f_X8_of (xs (v3 + (1 : Int32)).toNatClampNeg) (xs (v3 + (2 : Int32)).toNatClampNeg) M) (fun y22 => (if y20 = y22 then f_L_law_b1605 L xs ag18 v3 M else some (0 : Int32)))))))) else (if ((xs v3.toNatClampNeg) &&& (63 : Int32)) = (4 : Int32) then gx_gd (gx_in (v3 + (1 : Int32)) L) (gx_bI (f_X7_feed (xs (v3 + (1 : Int32)).toNatClampNeg) M) (fun y24 M25 => gx_gd (gx_in (v3 + (1 : Int32)) L) (gx_bI (f_X8_feed (xs (v3 + (1 : Int32)).toNatClampNeg) M25) (fun y27 M28 => (if y24 = y27 then f_L_law_b1605 L xs ag18 v3 M28 else some (0 : Int32)))))) else (if ((xs v3.toNatClampNeg) &&& (63 : Int32)) = (5 : Int32) then gx_bI (f_X7_law M) (fun y30 M31 => gx_bI (f_X8_law M31) (fun y33 M34 => (if y30 = y33 then f_L_law_b1605 L xs ag18 v3 M34 else some (0 : Int32)))) else (if ((xs v3.toNatClampNeg) &&& (63 : Int32)) = (6 : Int32) then gx_gd (gx_in (v3 + (1 : Int32)) L) (gx_gd (gx_in (v3 + (2 : Int32)) L) (gx_gd (gx_in (v3 + (3 : Int32)) L) (gx_bI (f_X7_comes (xs (v3 + (1 : Int32)).toNatClampNeg) (xs (v3 + (2 : Int32)).toNatClampNeg) (xs (v3 + (3 : Int32)).toNatClampNeg) M) (fun y36 M37 => gx_gd (gx_in (v3 + (1 : Int32)) L) (gx_gd (gx_in (v3 + (2 : Int32)) L) (gx_gd (gx_in (v3 + (3 : Int32)) L) (gx_bI (f_X8_comes (xs (v3 + (1 : Int32)).toNatClampNeg) (xs (v3 + (2 : Int32)).toNatClampNeg) (xs (v3 + (3 : Int32)).toNatClampNeg) M37) (fun y39 M40 => (if y36 = y39 then f_L_law_b1605 L xs ag18 v3 M40 else some (0 : Int32)))))))))) else (if ((xs v3.toNatClampNeg) &&& (63 : Int32)) = (7 : Int32) then gx_gd (gx_in (v3 + (1 : Int32)) L) (gx_gd (gx_in (v3 + (2 : Int32)) L) (gx_bI (f_X7_porter (xs (v3 + (1 : Int32)).toNatClampNeg) (xs (v3 + (2 : Int32)).toNatClampNeg) M) (fun y42 M43 => gx_gd (gx_in (v3 + (1 : Int32)) L) (gx_gd (gx_in (v3 + (2 : Int32)) L) (gx_bI (f_X8_porter (xs (v3 + (1 : Int32)).toNatClampNeg) (xs (v3 + (2 : Int32)).toNatClampNeg) M43) (fun y45 M46 => (if y42 = y45 then f_L_law_b1605 L xs ag18 v3 M46 else some (0 : Int32)))))))) else (if ((xs v3.toNatClampNeg) &&& (63 : Int32)) = (8 : Int32) then gx_gd (gx_in (v3 + (1 : Int32)) L) (gx_gd (gx_in (v3 + (2 : Int32)) L) (gx_bI (f_X7_wet (xs (v3 + (1 : Int32)).toNatClampNeg) (xs (v3 + (2 : Int32)).toNatClampNeg) M) (fun y48 M49 => gx_gd (gx_in (v3 + (1 : Int32)) L) (gx_gd (gx_in (v3 + (2 : Int32)) L) (gx_bI (f_X8_wet (xs (v3 + (1 : Int32)).toNatClampNeg) (xs (v3 + (2 : Int32)).toNatClampNeg) M49) (fun y51 M52 => (if y48 = y51 then f_L_law_b1605 L xs ag18 v3 M52 else some (0 : Int32)))))))) else (if ((xs v3.toNatClampNeg) &&& (63 : Int32)) = (9 : Int32) then gx_gd (gx_in (v3 + (1 : Int32)) L) (gx_gd (gx_in (v3 + (2 : Int32)) L) (gx_gd (gx_in (v3 + (3 : Int32)) L) (gx_bI (f_X7_most (xs (v3 + (1 : Int32)).toNatClampNeg) (xs (v3 + (2 : Int32)).toNatClampNeg) (xs (v3 + (3 : Int32)).toNatClampNeg) M) (fun y54 M55 => gx_gd (gx_in (v3 + (1 : Int32)) L) (gx_gd (gx_in (v3 + (2 : Int32)) L) (gx_gd (gx_in (v3 + (3 : Int32)) L) (gx_bI (f_X8_most (xs (v3 + (1 : Int32)).toNatClampNeg) (xs (v3 + (2 : Int32)).toNatClampNeg) (xs (v3 + (3 : Int32)).toNatClampNeg) M55) (fun y57 M58 => (if y54 = y57 then f_L_law_b1605 L xs ag18 v3 M58 else some (0 : Int32)))))))))) else (if ((xs v3.toNatClampNeg) &&& (63 : Int32)) = (10 : Int32) then gx_gd (gx_in (v3 + (1 : Int32)) L) (gx_gd (gx_in (v3 + (2 : Int32)) L) (gx_bI (f_X7_caught (xs (v3 + (1 : Int32)).toNatClampNeg) (xs (v3 + (2 : Int32)).toNatClampNeg) M) (fun y60 M61 => gx_gd (gx_in (v3 + (1 : Int32)) L) (gx_gd (gx_in (v3 + (2 : Int32)) L) (gx_bI (f_X8_caught (xs (v3 + (1 : Int32)).toNatClampNeg) (xs (v3 + (2 : Int32)).toNatClampNeg) M61) (fun y63 M64 => (if y60 = y63 then f_L_law_b1605 L xs ag18 v3 M64 else some (0 : Int32)))))))) else (if ((xs v3.toNatClampNeg) &&& (63 : Int32)) = (11 : Int32) then gx_gd (gx_in (v3 + (1 : Int32)) L) (gx_bI (f_X7_first (xs (v3 + (1 : Int32)).toNatClampNeg) M) (fun y66 M67 => gx_gd (gx_in (v3 + (1 : Int32)) L) (gx_bI (f_X8_first (xs (v3 + (1 : Int32)).toNatClampNeg) M67) (fun y69 M70 => (if y66 = y69 then f_L_law_b1605 L xs ag18 v3 M70 else some (0 : Int32)))))) else (if ((xs v3.toNatClampNeg) &&& (63 : Int32)) = (12 : Int32) then gx_gd (gx_in (v3 + (1 : Int32)) L) (gx_gd (gx_in (v3 + (2 : Int32)) L) (gx_bI (f_X7_from (xs (v3 + (1 : Int32)).toNatClampNeg) (xs (v3 + (2 : Int32)).toNatClampNeg) M) (fun y72 M73 => gx_gd (gx_in (v3 + (1 : Int32)) L) (gx_gd (gx_in (v3 + (2 : Int32)) L) (gx_bI (f_X8_from (xs (v3 + (1 : Int32)).toNatClampNeg) (xs (v3 + (2 : Int32)).toNatClampNeg) M73) (fun y75 M76 => (if y72 = y75 then f_L_law_b1605 L xs ag18 v3 M76 else some (0 : Int32)))))))) else (if ((xs v3.toNatClampNeg) &&& (63 : Int32)) = (13 : Int32) then gx_gd (gx_in (v3 + (1 : Int32)) L) (gx_gd (gx_in (v3 + (2 : Int32)) L) (gx_bI (f_X7_dry (xs (v3 + (1 : Int32)).toNatClampNeg) (xs (v3 + (2 : Int32)).toNatClampNeg) M) (fun y78 M79 => gx_gd (gx_in (v3 + (1 : Int32)) L) (gx_gd (gx_in (v3 + (2 : Int32)) L) (gx_bI (f_X8_dry (xs (v3 + (1 : Int32)).toNatClampNeg) (xs (v3 + (2 : Int32)).toNatClampNeg) M79) (fun y81 M82 => (if y78 = y81 then f_L_law_b1605 L xs ag18 v3 M82 else some (0 : Int32)))))))) else (if ((xs v3.toNatClampNeg) &&& (63 : Int32)) = (14 : Int32) then gx_gd (gx_in (v3 + (1 : Int32)) L) (gx_gd (gx_in (v3 + (2 : Int32)) L) (gx_gd (gx_in (v3 + (3 : Int32)) L) (gx_bI (f_X7_change (xs (v3 + (1 : Int32)).toNatClampNeg) (xs (v3 + (2 : Int32)).toNatClampNeg) (xs (v3 + (3 : Int32)).toNatClampNeg) M) (fun y84 M85 => gx_gd (gx_in (v3 + (1 : Int32)) L) (gx_gd (gx_in (v3 + (2 : Int32)) L) (gx_gd (gx_in (v3 + (3 : Int32)) L) (gx_bI (f_X8_change (xs (v3 + (1 : Int32)).toNatClampNeg) (xs (v3 + (2 : Int32)).toNatClampNeg) (xs (v3 + (3 : Int32)).toNatClampNeg) M85) (fun y87 M88 => (if y84 = y87 then f_L_law_b1605 L xs ag18 v3 M88 else some (0 : Int32)))))))))) else (if ((xs v3.toNatClampNeg) &&& (63 : Int32)) = (15 : Int32) then gx_gd (gx_in (v3 + (1 : Int32)) L) (gx_gd (gx_in (v3 + (2 : Int32)) L) (gx_gd (gx_in (v3 + (3 : Int32)) L) (gx_bI (f_X7_who (xs (v3 + (1 : Int32)).toNatClampNeg) (xs (v3 + (2 : Int32)).toNatClampNeg) (xs (v3 + (3 : Int32)).toNatClampNeg) M) (fun y90 M91 => gx_gd (gx_in (v3 + (1 : Int32)) L) (gx_gd (gx_in (v3 + (2 : Int32)) L) (gx_gd (gx_in (v3 + (3 : Int32)) L) (gx_bI (f_X8_who (xs (v3 + (1 : Int32)).toNatClampNeg) (xs (v3 + (2 : Int32)).toNatClampNeg) (xs (v3 + (3 : Int32)).toNatClampNeg) M91) (fun y93 M94 => (if y90 = y93 then f_L_law_b1605 L xs ag18 v3 M94 else some (0 : Int32)))))))))) else (if ((xs v3.toNatClampNeg) &&& (63 : Int32)) = (16 : Int32) then gx_gd (gx_in (v3 + (1 : Int32)) L) (gx_gd (gx_in (v3 + (2 : Int32)) L) (gx_gd (gx_in (v3 + (3 : Int32)) L) (gx_gd (gx_in (v3 + (4 : Int32)) L) (gx_bI (f_X7_thought (xs (v3 + (1 : Int32)).toNatClampNeg) (xs (v3 + (2 : Int32)).toNatClampNeg) (xs (v3 + (3 : Int32)).toNatClampNeg) (xs (v3 + (4 : Int32)).toNatClampNeg) M) (fun y96 M97 => gx_gd (gx_in (v3 + (1 : Int32)) L) (gx_gd (gx_in (v3 + (2 : Int32)) L) (gx_gd (gx_in (v3 + (3 : Int32)) L) (gx_gd (gx_in (v3 + (4 : Int32)) L) (gx_bI (f_X8_thought (xs (v3 + (1 : Int32)).toNatClampNeg) (xs (v3 + (2 : Int32)).toNatClampNeg) (xs (v3 + (3 : Int32)).toNatClampNeg) (xs (v3 + (4 : Int32)).toNatClampNeg) M97) (fun y99 M100 => (if y96 = y99 then f_L_law_b1605 L xs ag18 v3 M100 else some (0 : Int32)))))))))))) else (if ((xs v3.toNatClampNeg) &&& (63 : Int32)) = (17 : Int32) then gx_gd (gx_in (v3 + (1 : Int32)) L) (gx_gd (gx_in (v3 + (2 : Int32)) L) (gx_bI (f_X7_rent (xs (v3 + (1 : Int32)).toNatClampNeg) (xs (v3 + (2 : Int32)).toNatClampNeg) M) (fun y102 M103 => gx_gd (gx_in (v3 + (1 : Int32)) L) (gx_gd (gx_in (v3 + (2 : Int32)) L) (gx_bI (f_X8_rent (xs (v3 + (1 : Int32)).toNatClampNeg) (xs (v3 + (2 : Int32)).toNatClampNeg) M103) (fun y105 M106 => (if y102 = y105 then f_L_law_b1605 L xs ag18 v3 M106 else some (0 : Int32)))))))) else (if ((xs v3.toNatClampNeg) &&& (63 : Int32)) = (18 : Int32) then gx_gd (gx_in (v3 + (1 : Int32)) L) (gx_bI (f_X7_swap (xs (v3 + (1 : Int32)).toNatClampNeg) M) (fun y108 M109 => gx_gd (gx_in (v3 + (1 : Int32)) L) (gx_bI (f_X8_swap (xs (v3 + (1 : Int32)).toNatClampNeg) M109) (fun y111 M112 => (if y108 = y111 then f_L_law_b1605 L xs ag18 v3 M112 else some (0 : Int32)))))) else (if ((xs v3.toNatClampNeg) &&& (63 : Int32)) = (19 : Int32) then gx_gd (gx_in (v3 + (1 : Int32)) L) (gx_gd (gx_in (v3 + (2 : Int32)) L) (gx_gd (gx_in (v3 + (3 : Int32)) L) (gx_bI (f_X7_odds (xs (v3 + (1 : Int32)).toNatClampNeg) (xs (v3 + (2 : Int32)).toNatClampNeg) (xs (v3 + (3 : Int32)).toNatClampNeg) M) (fun y114 M115 => gx_gd (gx_in (v3 + (1 : Int32)) L) (gx_gd (gx_in (v3 + (2 : Int32)) L) (gx_gd (gx_in (v3 + (3 : Int32)) L) (gx_bI (f_X8_odds (xs (v3 + (1 : Int32)).toNatClampNeg) (xs (v3 + (2 : Int32)).toNatClampNeg) (xs (v3 + (3 : Int32)).toNatClampNeg) M115) (fun y117 M118 => (if (lg_cmp y114 y117) = 0 then f_L_law_b1605 L xs ag18 v3 M118 else some (0 : Int32)))))))))) else (if ((xs v3.toNatClampNeg) &&& (63 : Int32)) = (20 : Int32) then gx_gd (gx_in (v3 + (1 : Int32)) L) (gx_gd (gx_in (v3 + (2 : Int32)) L) (gx_gd (gx_in (v3 + (3 : Int32)) L) (gx_bI (f_X7_mean (xs (v3 + (1 : Int32)).toNatClampNeg) (xs (v3 + (2 : Int32)).toNatClampNeg) (xs (v3 + (3 : Int32)).toNatClampNeg) M) (fun y120 M121 => gx_gd (gx_in (v3 + (1 : Int32)) L) (gx_gd (gx_in (v3 + (2 : Int32)) L) (gx_gd (gx_in (v3 + (3 : Int32)) L) (gx_bI (f_X8_mean (xs (v3 + (1 : Int32)).toNatClampNeg) (xs (v3 + (2 : Int32)).toNatClampNeg) (xs (v3 + (3 : Int32)).toNatClampNeg) M121) (fun y123 M124 => (if (lg_cmp y120 y123) = 0 then f_L_law_b1605 L xs ag18 v3 M124 else some (0 : Int32)))))))))) else (if ((xs v3.toNatClampNeg) &&& (63 : Int32)) = (21 : Int32) then gx_gd (gx_in (v3 + (1 : Int32)) L) (gx_gd (gx_in (v3 + (2 : Int32)) L) (gx_gd (gx_in (v3 + (3 : Int32)) L) (gx_bI (f_X7_byTurns (xs (v3 + (1 : Int32)).toNatClampNeg) (xs (v3 + (2 : Int32)).toNatClampNeg) (xs (v3 + (3 : Int32)).toNatClampNeg) M) (fun y126 M127 => gx_gd (gx_in (v3 + (1 : Int32)) L) (gx_gd (gx_in (v3 + (2 : Int32)) L) (gx_gd (gx_in (v3 + (3 : Int32)) L) (gx_bI (f_X8_byTurns (xs (v3 + (1 : Int32)).toNatClampNeg) (xs (v3 + (2 : Int32)).toNatClampNeg) (xs (v3 + (3 : Int32)).toNatClampNeg) M127) (fun y129 M130 => (if y126 = y129 then f_L_law_b1605 L xs ag18 v3 M130 else some (0 : Int32)))))))))) else (if ((xs v3.toNatClampNeg) &&& (63 : Int32)) = (22 : Int32) then gx_gd (gx_in (v3 + (1 : Int32)) L) (gx_gd (gx_in (v3 + (2 : Int32)) L) (gx_gd (gx_in (v3 + (3 : Int32)) L) (gx_bI (f_X7_drawn (xs (v3 + (1 : Int32)).toNatClampNeg) (xs (v3 + (2 : Int32)).toNatClampNeg) (xs (v3 + (3 : Int32)).toNatClampNeg) M) (fun y132 M133 => gx_gd (gx_in (v3 + (1 : Int32)) L) (gx_gd (gx_in (v3 + (2 : Int32)) L) (gx_gd (gx_in (v3 + (3 : Int32)) L) (gx_bI (f_X8_drawn (xs (v3 + (1 : Int32)).toNatClampNeg) (xs (v3 + (2 : Int32)).toNatClampNeg) (xs (v3 + (3 : Int32)).toNatClampNeg) M133) (fun y135 M136 => (if y132 = y135 then f_L_law_b1605 L xs ag18 v3 M136 else some (0 : Int32)))))))))) else (if ((xs v3.toNatClampNeg) &&& (63 : Int32)) = (23 : Int32) then gx_bI (f_X7_hour M) (fun y138 M139 => gx_bI (f_X8_hour M139) (fun y141 M142 => (if y138 = y141 then f_L_law_b1605 L xs ag18 v3 M142 else some (0 : Int32)))) else (if ((xs v3.toNatClampNeg) &&& (63 : Int32)) = (24 : Int32) then gx_gd (gx_in (v3 + (1 : Int32)) L) (gx_gd (gx_in (v3 + (2 : Int32)) L) (gx_bI (f_X7_moves (xs (v3 + (1 : Int32)).toNatClampNeg) (xs (v3 + (2 : Int32)).toNatClampNeg) M) (fun y144 M145 => gx_gd (gx_in (v3 + (1 : Int32)) L) (gx_gd (gx_in (v3 + (2 : Int32)) L) (gx_bI (f_X8_moves (xs (v3 + (1 : Int32)).toNatClampNeg) (xs (v3 + (2 : Int32)).toNatClampNeg) M145) (fun y147 M148 => (if y144 = y147 then f_L_law_b1605 L xs ag18 v3 M148 else some (0 : Int32)))))))) else (if ((xs v3.toNatClampNeg) &&& (63 : Int32)) = (25 : Int32) then gx_gd (gx_in (v3 + (1 : Int32)) L) (gx_bI (f_X7_awning (xs (v3 + (1 : Int32)).toNatClampNeg) M) (fun y150 M151 => gx_gd (gx_in (v3 + (1 : Int32)) L) (gx_bI (f_X8_awning (xs (v3 + (1 : Int32)).toNatClampNeg) M151) (fun y153 M154 => (if y150 = y153 then f_L_law_b1605 L xs ag18 v3 M154 else some (0 : Int32)))))) else (if ((xs v3.toNatClampNeg) &&& (63 : Int32)) = (26 : Int32) then gx_gd (gx_in (v3 + (1 : Int32)) L) (gx_bI (f_X7_wipe (xs (v3 + (1 : Int32)).toNatClampNeg) M) (fun y156 M157 => gx_gd (gx_in (v3 + (1 : Int32)) L) (gx_bI (f_X8_wipe (xs (v3 + (1 : Int32)).toNatClampNeg) M157) (fun y159 M160 => (if y156 = y159 then f_L_law_b1605 L xs ag18 v3 M160 else some (0 : Int32)))))) else (if ((xs v3.toNatClampNeg) &&& (63 : Int32)) = (27 : Int32) then gx_gd (gx_in (v3 + (1 : Int32)) L) (gx_bP (f_X7_led (xs (v3 + (1 : Int32)).toNatClampNeg) M) (fun y162 => gx_gd (gx_in (v3 + (1 : Int32)) L) (gx_bP (f_X8_led (xs (v3 + (1 : Int32)).toNatClampNeg) M) (fun y164 => (if y162 = y164 then f_L_law_b1605 L xs ag18 v3 M else some (0 : Int32)))))) else (if ((xs v3.toNatClampNeg) &&& (63 : Int32)) = (28 : Int32) then gx_bI (f_X7_image M) (fun y166 M167 => gx_bI (f_X8_image M167) (fun y169 M170 => (if y166 = y169 then f_L_law_b1605 L xs ag18 v3 M170 else some (0 : Int32)))) else (if ((xs v3.toNatClampNeg) &&& (63 : Int32)) = (29 : Int32) then gx_bI (f_X7_back M) (fun y172 M173 => gx_bI (f_X8_back M173) (fun y175 M176 => (if y172 = y175 then f_L_law_b1605 L xs ag18 v3 M176 else some (0 : Int32)))) else (if ((xs v3.toNatClampNeg) &&& (63 : Int32)) = (30 : Int32) then gx_bI (f_X7_undo M) (fun y178 M179 => gx_bI (f_X8_undo M179) (fun y181 M182 => (if y178 = y181 then f_L_law_b1605 L xs ag18 v3 M182 else some (0 : Int32)))) else (if ((xs v3.toNatClampNeg) &&& (63 : Int32)) = (31 : Int32) then gx_bI (f_X7_redo M) (fun y184 M185 => gx_bI (f_X8_redo M185) (fun y187 M188 => (if y184 = y187 then f_L_law_b1605 L xs ag18 v3 M188 else some (0 : Int32)))) else (if ((xs v3.toNatClampNeg) &&& (63 : Int32)) = (32 : Int32) then gx_gd (gx_in (v3 + (1 : Int32)) L) (gx_bI (f_X7_body (xs (v3 + (1 : Int32)).toNatClampNeg) M) (fun y190 M191 => gx_gd (gx_in (v3 + (1 : Int32)) L) (gx_bI (f_X8_body (xs (v3 + (1 : Int32)).toNatClampNeg) M191) (fun y193 M194 => (if y190 = y193 then f_L_law_b1605 L xs ag18 v3 M194 else some (0 : Int32)))))) else (if ((xs v3.toNatClampNeg) &&& (63 : Int32)) = (33 : Int32) then gx_gd (gx_in (v3 + (1 : Int32)) L) (gx_gd (gx_in (v3 + (2 : Int32)) L) (gx_gd (gx_in (v3 + (3 : Int32)) L) (gx_bI (f_X7_act (xs (v3 + (1 : Int32)).toNatClampNeg) (xs (v3 + (2 : Int32)).toNatClampNeg) (xs (v3 + (3 : Int32)).toNatClampNeg) M) (fun y196 M197 => gx_gd (gx_in (v3 + (1 : Int32)) L) (gx_gd (gx_in (v3 + (2 : Int32)) L) (gx_gd (gx_in (v3 + (3 : Int32)) L) (gx_bI (f_X8_act (xs (v3 + (1 : Int32)).toNatClampNeg) (xs (v3 + (2 : Int32)).toNatClampNeg) (xs (v3 + (3 : Int32)).toNatClampNeg) M197) (fun y199 M200 => (if y196 = y199 then f_L_law_b1605 L xs ag18 v3 M200 else some (0 : Int32)))))))))) else (if ((xs v3.toNatClampNeg) &&& (63 : Int32)) = (34 : Int32) then gx_gd (gx_in (v3 + (1 : Int32)) L) (gx_bP (f_X7_trace (xs (v3 + (1 : Int32)).toNatClampNeg) M) (fun y202 => gx_gd (gx_in (v3 + (1 : Int32)) L) (gx_bP (f_X8_trace (xs (v3 + (1 : Int32)).toNatClampNeg) M) (fun y204 => (if y202 = y204 then f_L_law_b1605 L xs ag18 v3 M else some (0 : Int32)))))) else (if ((xs v3.toNatClampNeg) &&& (63 : Int32)) = (35 : Int32) then gx_gd (gx_in (v3 + (1 : Int32)) L) (gx_gd (gx_in (v3 + (2 : Int32)) L) (gx_bI (f_X7_keep (xs (v3 + (1 : Int32)).toNatClampNeg) (xs (v3 + (2 : Int32)).toNatClampNeg) M) (fun y206 M207 => gx_gd (gx_in (v3 + (1 : Int32)) L) (gx_gd (gx_in (v3 + (2 : Int32)) L) (gx_bI (f_X8_keep (xs (v3 + (1 : Int32)).toNatClampNeg) (xs (v3 + (2 : Int32)).toNatClampNeg) M207) (fun y209 M210 => (if y206 = y209 then f_L_law_b1605 L xs ag18 v3 M210 else some (0 : Int32)))))))) else (if ((xs v3.toNatClampNeg) &&& (63 : Int32)) = (36 : Int32) then gx_gd (gx_in (v3 + (1 : Int32)) L) (gx_gd (gx_in (v3 + (2 : Int32)) L) (gx_gd (gx_in (v3 + (3 : Int32)) L) (gx_bI (f_X7_row (xs (v3 + (1 : Int32)).toNatClampNeg) (xs (v3 + (2 : Int32)).toNatClampNeg) (xs (v3 + (3 : Int32)).toNatClampNeg) M) (fun y212 M213 => gx_gd (gx_in (v3 + (1 : Int32)) L) (gx_gd (gx_in (v3 + (2 : Int32)) L) (gx_gd (gx_in (v3 + (3 : Int32)) L) (gx_bI (f_X8_row (xs (v3 + (1 : Int32)).toNatClampNeg) (xs (v3 + (2 : Int32)).toNatClampNeg) (xs (v3 + (3 : Int32)).toNatClampNeg) M213) (fun y215 M216 => (if y212 = y215 then f_L_law_b1605 L xs ag18 v3 M216 else some (0 : Int32)))))))))) else (if ((xs v3.toNatClampNeg) &&& (63 : Int32)) = (37 : Int32) then gx_gd (gx_in (v3 + (1 : Int32)) L) (gx_gd (gx_in (v3 + (2 : Int32)) L) (gx_gd (gx_in (v3 + (3 : Int32)) L) (gx_gd (gx_in (v3 + (4 : Int32)) L) (gx_bI (f_X7_put (xs (v3 + (1 : Int32)).toNatClampNeg) (xs (v3 + (2 : Int32)).toNatClampNeg) ((((xs (v3 + (3 : Int32)).toNatClampNeg).toInt64) <<< ((32 : Int32).toInt64 &&& 63)) ||| (((xs (v3 + (4 : Int32)).toNatClampNeg).toInt64) &&& (4294967295 : Int64))) M) (fun y218 M219 => gx_gd (gx_in (v3 + (1 : Int32)) L) (gx_gd (gx_in (v3 + (2 : Int32)) L) (gx_gd (gx_in (v3 + (3 : Int32)) L) (gx_gd (gx_in (v3 + (4 : Int32)) L) (gx_bI (f_X8_put (xs (v3 + (1 : Int32)).toNatClampNeg) (xs (v3 + (2 : Int32)).toNatClampNeg) ((((xs (v3 + (3 : Int32)).toNatClampNeg).toInt64) <<< ((32 : Int32).toInt64 &&& 63)) ||| (((xs (v3 + (4 : Int32)).toNatClampNeg).toInt64) &&& (4294967295 : Int64))) M219) (fun y221 M222 => (if y218 = y221 then f_L_law_b1605 L xs ag18 v3 M222 else some (0 : Int32)))))))))))) else (if ((xs v3.toNatClampNeg) &&& (63 : Int32)) = (38 : Int32) then gx_gd (gx_in (v3 + (1 : Int32)) L) (gx_gd (gx_in (v3 + (2 : Int32)) L) (gx_bP (f_X7_element (xs (v3 + (1 : Int32)).toNatClampNeg) (xs (v3 + (2 : Int32)).toNatClampNeg) M) (fun y224 => gx_gd (gx_in (v3 + (1 : Int32)) L) (gx_gd (gx_in (v3 + (2 : Int32)) L) (gx_bP (f_X8_element (xs (v3 + (1 : Int32)).toNatClampNeg) (xs (v3 + (2 : Int32)).toNatClampNeg) M) (fun y226 => (if (lg_cmp y224 y226) = 0 then f_L_law_b1605 L xs ag18 v3 M else some (0 : Int32)))))))) else (if ((xs v3.toNatClampNeg) &&& (63 : Int32)) = (39 : Int32) then gx_gd (gx_in (v3 + (1 : Int32)) L) (gx_gd (gx_in (v3 + (2 : Int32)) L) (gx_gd (gx_in (v3 + (3 : Int32)) L) (gx_gd (gx_in (v3 + (4 : Int32)) L) (gx_gd (gx_in (v3 + (5 : Int32)) L) (gx_bI (f_X7_shift (xs (v3 + (1 : Int32)).toNatClampNeg) (xs (v3 + (2 : Int32)).toNatClampNeg) (xs (v3 + (3 : Int32)).toNatClampNeg) (xs (v3 + (4 : Int32)).toNatClampNeg) (xs (v3 + (5 : Int32)).toNatClampNeg) M) (fun y228 M229 => gx_gd (gx_in (v3 + (1 : Int32)) L) (gx_gd (gx_in (v3 + (2 : Int32)) L) (gx_gd (gx_in (v3 + (3 : Int32)) L) (gx_gd (gx_in (v3 + (4 : Int32)) L) (gx_gd (gx_in (v3 + (5 : Int32)) L) (gx_bI (f_X8_shift (xs (v3 + (1 : Int32)).toNatClampNeg) (xs (v3 + (2 : Int32)).toNatClampNeg) (xs (v3 + (3 : Int32)).toNatClampNeg) (xs (v3 + (4 : Int32)).toNatClampNeg) (xs (v3 + (5 : Int32)).toNatClampNeg) M229) (fun y231 M232 => (if y228 = y231 then f_L_law_b1605 L xs ag18 v3 M232 else some (0 : Int32)))))))))))))) else (if ((xs v3.toNatClampNeg) &&& (63 : Int32)) = (40 : Int32) then gx_gd (gx_in (v3 + (1 : Int32)) L) (gx_gd (gx_in (v3 + (2 : Int32)) L) (gx_bP (f_X7_taken (xs (v3 + (1 : Int32)).toNatClampNeg) (xs (v3 + (2 : Int32)).toNatClampNeg) M) (fun y234 => gx_gd (gx_in (v3 + (1 : Int32)) L) (gx_gd (gx_in (v3 + (2 : Int32)) L) (gx_bP (f_X8_taken (xs (v3 + (1 : Int32)).toNatClampNeg) (xs (v3 + (2 : Int32)).toNatClampNeg) M) (fun y236 => (if y234 = y236 then f_L_law_b1605 L xs ag18 v3 M else some (0 : Int32)))))))) else (if ((xs v3.toNatClampNeg) &&& (63 : Int32)) = (41 : Int32) then gx_gd (gx_in (v3 + (1 : Int32)) L) (gx_bP (f_X7_count (xs (v3 + (1 : Int32)).toNatClampNeg) M) (fun y238 => gx_gd (gx_in (v3 + (1 : Int32)) L) (gx_bP (f_X8_count (xs (v3 + (1 : Int32)).toNatClampNeg) M) (fun y240 => (if y238 = y240 then f_L_law_b1605 L xs ag18 v3 M else some (0 : Int32)))))) else (f_L_law_b1605 L xs ag18 v3 M))))))))))))))))))))))))))))))))))))))))))))
def f_L_law_l18 (L : Nat) (xs : Nat → Int32)   (n : Nat) (v3 : Int32) (M : gx_Mem) : Option Int32 := gx_loop (fun (ag18 : Int32 × gx_Mem → Option Int32) (s : Int32 × gx_Mem) => f_L_law_k18 L xs (fun v3 M => ag18 (v3, M)) s.1 s.2) n (v3, M)
set_option maxHeartbeats 4000000 in
set_option maxRecDepth 100000 in
theorem c_L_loop (κ : gx_K) {Γ : gx_Γ} {b L : Nat} {xs : Nat → Int32} (Cx : gx_Cx κ Γ RL code 4 1300) (hX : gx_X Γ b L xs) (hR : ∀ (pc pc2 : Nat) (lv : List (Nat × Value)) (M : gx_Mem), gx_D code pc .ireturn 1 pc2 → gx_G κ Γ pc lv [.int 1] M) (n : Nat) (v3 : Int32) (M : gx_Mem) (h0 : f_L_law_l18 L xs n v3 M = some 1) : gx_G κ Γ 18 [(0, .ref b), (1, .ref (gx_a κ 56)), (2, .ref (gx_a κ 57)), (3, .int v3)] [] M := by
  have K18 : ∀  (ag18 : Int32 → gx_Mem → Option Int32) (hag18 : ∀ (v3 : Int32) (M : gx_Mem), ag18 v3 M = some (1 : Int32) → gx_G κ Γ 18 [(0, .ref b), (1, .ref (gx_a κ 56)), (2, .ref (gx_a κ 57)), (3, .int v3)] [] M) (v3 : Int32) (M : gx_Mem), f_L_law_k18 L xs ag18 v3 M = some (1 : Int32) → gx_G κ Γ 18 [(0, .ref b), (1, .ref (gx_a κ 56)), (2, .ref (gx_a κ 57)), (3, .int v3)] [] M := by
    intro ag18 hag18
    have B1605 : ∀ (v3 : Int32) (M : gx_Mem), f_L_law_b1605 L xs ag18 v3 M = some (1 : Int32) → gx_G κ Γ 1605 [(0, .ref b), (1, .ref (gx_a κ 56)), (2, .ref (gx_a κ 57)), (3, .int v3)] [] M := by
      intro v3 M h
      refine gx_iinc (v := (6 : Int32)) (i := 3) (j := 3) Cx eL_law_1605 (by decide) h 3 rfl (fun w => [(3, .int w), (0, .ref b), (1, .ref (gx_a κ 56)), (2, .ref (gx_a κ 57))]) (fun _ => rfl) (by decide) (fun x241 h => ?_)
      refine gx_goto (tgt := 18) Cx eL_law_1608 (by decide) ?_
      refine gx_sub [1, 2, 3, 0] rfl ?_
      exact hag18 _ _ h
    intro v3 M h
    refine gx_iload_n Cx eL_law_18 3 rfl ?_
    refine gx_aload_n Cx eL_law_19 0 rfl ?_
    refine gx_slen Cx hX eL_law_20 ?_
    refine gx_bipush (v := (6 : Int32)) Cx eL_law_21 (by decide) ?_
    refine gx_isub Cx eL_law_23 ?_
    refine gx_icmp_gt (tgt := 1611) Cx eL_law_24 (by decide) h (fun h => ?_) (fun h => ?_)
    · refine gx_iconst (v := (1 : Int32)) Cx eL_law_1611 (by decide) ?_
      exact gx_rL h eL_law_1612 hR
    · refine gx_aload_n Cx eL_law_27 0 rfl ?_
      refine gx_iload_n Cx eL_law_28 3 rfl ?_
      refine gx_sld Cx hX eL_law_29 h (fun h => ?_)
      refine gx_bipush (v := (63 : Int32)) Cx eL_law_30 (by decide) ?_
      refine gx_iand Cx eL_law_32 ?_
      refine gx_case (0 : Int32) h (fun h => ?_) (fun n0 h => ?_)
      · refine gx_tsIn (tgt := 216) Cx eL_law_33 (by decide) (by decide) rfl (by decide) ?_
        refine gx_aload_n Cx eL_law_216 1 rfl ?_
        refine gx_aload_n Cx eL_law_217 0 rfl ?_
        refine gx_iload_n Cx eL_law_218 3 rfl ?_
        refine gx_iconst (v := (1 : Int32)) Cx eL_law_219 (by decide) ?_
        refine gx_iadd Cx eL_law_220 ?_
        refine gx_sld Cx hX eL_law_221 h (fun h => ?_)
        refine gx_aload_n Cx eL_law_222 0 rfl ?_
        refine gx_iload_n Cx eL_law_223 3 rfl ?_
        refine gx_iconst (v := (2 : Int32)) Cx eL_law_224 (by decide) ?_
        refine gx_iadd Cx eL_law_225 ?_
        refine gx_sld Cx hX eL_law_226 h (fun h => ?_)
        obtain ⟨y2, M3, h1, h⟩ := gx_bI_of h
        refine gx_callVI (ci := 7) Cx my_X7_person wlL_13 rfl gx_y56 (by decide) rfl eL_law_227 (c_X7_person κ h1) rfl (Nat.le_of_ble_eq_true rfl) ?_
        refine gx_aload_n Cx eL_law_230 2 rfl ?_
        refine gx_aload_n Cx eL_law_231 0 rfl ?_
        refine gx_iload_n Cx eL_law_232 3 rfl ?_
        refine gx_iconst (v := (1 : Int32)) Cx eL_law_233 (by decide) ?_
        refine gx_iadd Cx eL_law_234 ?_
        refine gx_sld Cx hX eL_law_235 h (fun h => ?_)
        refine gx_aload_n Cx eL_law_236 0 rfl ?_
        refine gx_iload_n Cx eL_law_237 3 rfl ?_
        refine gx_iconst (v := (2 : Int32)) Cx eL_law_238 (by decide) ?_
        refine gx_iadd Cx eL_law_239 ?_
        refine gx_sld Cx hX eL_law_240 h (fun h => ?_)
        obtain ⟨y5, M6, h4, h⟩ := gx_bI_of h
        refine gx_callVI (ci := 8) Cx my_X8_person wlL_17 rfl gx_y57 (by decide) rfl eL_law_241 (c_X8_person κ h4) rfl (Nat.le_of_ble_eq_true rfl) ?_
        refine gx_icmp_eq (tgt := 1605) Cx eL_law_244 (by decide) h (fun h => ?_) (fun h => ?_)
        · exact B1605 _ _ h
        · refine gx_iconst (v := (0 : Int32)) Cx eL_law_247 (by decide) ?_
          exact gx_rL h eL_law_248 hR
      refine gx_case (1 : Int32) h (fun h => ?_) (fun n1 h => ?_)
      · refine gx_tsIn (tgt := 249) Cx eL_law_33 (by decide) (by decide) rfl (by decide) ?_
        refine gx_aload_n Cx eL_law_249 1 rfl ?_
        refine gx_aload_n Cx eL_law_250 0 rfl ?_
        refine gx_iload_n Cx eL_law_251 3 rfl ?_
        refine gx_iconst (v := (1 : Int32)) Cx eL_law_252 (by decide) ?_
        refine gx_iadd Cx eL_law_253 ?_
        refine gx_sld Cx hX eL_law_254 h (fun h => ?_)
        refine gx_aload_n Cx eL_law_255 0 rfl ?_
        refine gx_iload_n Cx eL_law_256 3 rfl ?_
        refine gx_iconst (v := (2 : Int32)) Cx eL_law_257 (by decide) ?_
        refine gx_iadd Cx eL_law_258 ?_
        refine gx_sld Cx hX eL_law_259 h (fun h => ?_)
        refine gx_aload_n Cx eL_law_260 0 rfl ?_
        refine gx_iload_n Cx eL_law_261 3 rfl ?_
        refine gx_iconst (v := (3 : Int32)) Cx eL_law_262 (by decide) ?_
        refine gx_iadd Cx eL_law_263 ?_
        refine gx_sld Cx hX eL_law_264 h (fun h => ?_)
        obtain ⟨y8, M9, h7, h⟩ := gx_bI_of h
        refine gx_callVI (ci := 7) Cx my_X7_people wlL_18 rfl gx_y56 (by decide) rfl eL_law_265 (c_X7_people κ h7) rfl (Nat.le_of_ble_eq_true rfl) ?_
        refine gx_aload_n Cx eL_law_268 2 rfl ?_
        refine gx_aload_n Cx eL_law_269 0 rfl ?_
        refine gx_iload_n Cx eL_law_270 3 rfl ?_
        refine gx_iconst (v := (1 : Int32)) Cx eL_law_271 (by decide) ?_
        refine gx_iadd Cx eL_law_272 ?_
        refine gx_sld Cx hX eL_law_273 h (fun h => ?_)
        refine gx_aload_n Cx eL_law_274 0 rfl ?_
        refine gx_iload_n Cx eL_law_275 3 rfl ?_
        refine gx_iconst (v := (2 : Int32)) Cx eL_law_276 (by decide) ?_
        refine gx_iadd Cx eL_law_277 ?_
        refine gx_sld Cx hX eL_law_278 h (fun h => ?_)
        refine gx_aload_n Cx eL_law_279 0 rfl ?_
        refine gx_iload_n Cx eL_law_280 3 rfl ?_
        refine gx_iconst (v := (3 : Int32)) Cx eL_law_281 (by decide) ?_
        refine gx_iadd Cx eL_law_282 ?_
        refine gx_sld Cx hX eL_law_283 h (fun h => ?_)
        obtain ⟨y11, M12, h10, h⟩ := gx_bI_of h
        refine gx_callVI (ci := 8) Cx my_X8_people wlL_22 rfl gx_y57 (by decide) rfl eL_law_284 (c_X8_people κ h10) rfl (Nat.le_of_ble_eq_true rfl) ?_
        refine gx_icmp_eq (tgt := 1605) Cx eL_law_287 (by decide) h (fun h => ?_) (fun h => ?_)
        · exact B1605 _ _ h
        · refine gx_iconst (v := (0 : Int32)) Cx eL_law_290 (by decide) ?_
          exact gx_rL h eL_law_291 hR
      refine gx_case (2 : Int32) h (fun h => ?_) (fun n2 h => ?_)
      · refine gx_tsIn (tgt := 292) Cx eL_law_33 (by decide) (by decide) rfl (by decide) ?_
        refine gx_aload_n Cx eL_law_292 1 rfl ?_
        refine gx_aload_n Cx eL_law_293 0 rfl ?_
        refine gx_iload_n Cx eL_law_294 3 rfl ?_
        refine gx_iconst (v := (1 : Int32)) Cx eL_law_295 (by decide) ?_
        refine gx_iadd Cx eL_law_296 ?_
        refine gx_sld Cx hX eL_law_297 h (fun h => ?_)
        refine gx_aload_n Cx eL_law_298 0 rfl ?_
        refine gx_iload_n Cx eL_law_299 3 rfl ?_
        refine gx_iconst (v := (2 : Int32)) Cx eL_law_300 (by decide) ?_
        refine gx_iadd Cx eL_law_301 ?_
        refine gx_sld Cx hX eL_law_302 h (fun h => ?_)
        refine gx_aload_n Cx eL_law_303 0 rfl ?_
        refine gx_iload_n Cx eL_law_304 3 rfl ?_
        refine gx_iconst (v := (3 : Int32)) Cx eL_law_305 (by decide) ?_
        refine gx_iadd Cx eL_law_306 ?_
        refine gx_sld Cx hX eL_law_307 h (fun h => ?_)
        obtain ⟨y14, M15, h13, h⟩ := gx_bI_of h
        refine gx_callVI (ci := 7) Cx my_X7_mend wlL_23 rfl gx_y56 (by decide) rfl eL_law_308 (c_X7_mend κ h13) rfl (Nat.le_of_ble_eq_true rfl) ?_
        refine gx_aload_n Cx eL_law_311 2 rfl ?_
        refine gx_aload_n Cx eL_law_312 0 rfl ?_
        refine gx_iload_n Cx eL_law_313 3 rfl ?_
        refine gx_iconst (v := (1 : Int32)) Cx eL_law_314 (by decide) ?_
        refine gx_iadd Cx eL_law_315 ?_
        refine gx_sld Cx hX eL_law_316 h (fun h => ?_)
        refine gx_aload_n Cx eL_law_317 0 rfl ?_
        refine gx_iload_n Cx eL_law_318 3 rfl ?_
        refine gx_iconst (v := (2 : Int32)) Cx eL_law_319 (by decide) ?_
        refine gx_iadd Cx eL_law_320 ?_
        refine gx_sld Cx hX eL_law_321 h (fun h => ?_)
        refine gx_aload_n Cx eL_law_322 0 rfl ?_
        refine gx_iload_n Cx eL_law_323 3 rfl ?_
        refine gx_iconst (v := (3 : Int32)) Cx eL_law_324 (by decide) ?_
        refine gx_iadd Cx eL_law_325 ?_
        refine gx_sld Cx hX eL_law_326 h (fun h => ?_)
        obtain ⟨y17, M18, h16, h⟩ := gx_bI_of h
        refine gx_callVI (ci := 8) Cx my_X8_mend wlL_26 rfl gx_y57 (by decide) rfl eL_law_327 (c_X8_mend κ h16) rfl (Nat.le_of_ble_eq_true rfl) ?_
        refine gx_icmp_eq (tgt := 1605) Cx eL_law_330 (by decide) h (fun h => ?_) (fun h => ?_)
        · exact B1605 _ _ h
        · refine gx_iconst (v := (0 : Int32)) Cx eL_law_333 (by decide) ?_
          exact gx_rL h eL_law_334 hR
      refine gx_case (3 : Int32) h (fun h => ?_) (fun n3 h => ?_)
      · refine gx_tsIn (tgt := 335) Cx eL_law_33 (by decide) (by decide) rfl (by decide) ?_
        refine gx_aload_n Cx eL_law_335 1 rfl ?_
        refine gx_aload_n Cx eL_law_336 0 rfl ?_
        refine gx_iload_n Cx eL_law_337 3 rfl ?_
        refine gx_iconst (v := (1 : Int32)) Cx eL_law_338 (by decide) ?_
        refine gx_iadd Cx eL_law_339 ?_
        refine gx_sld Cx hX eL_law_340 h (fun h => ?_)
        refine gx_aload_n Cx eL_law_341 0 rfl ?_
        refine gx_iload_n Cx eL_law_342 3 rfl ?_
        refine gx_iconst (v := (2 : Int32)) Cx eL_law_343 (by decide) ?_
        refine gx_iadd Cx eL_law_344 ?_
        refine gx_sld Cx hX eL_law_345 h (fun h => ?_)
        obtain ⟨y20, h19, h⟩ := gx_bP_of h
        refine gx_callVI (ci := 7) Cx my_X7_of wlL_27 rfl gx_y56 (by decide) rfl eL_law_346 (c_X7_of κ h19) rfl (Nat.le_of_ble_eq_true rfl) ?_
        refine gx_aload_n Cx eL_law_349 2 rfl ?_
        refine gx_aload_n Cx eL_law_350 0 rfl ?_
        refine gx_iload_n Cx eL_law_351 3 rfl ?_
        refine gx_iconst (v := (1 : Int32)) Cx eL_law_352 (by decide) ?_
        refine gx_iadd Cx eL_law_353 ?_
        refine gx_sld Cx hX eL_law_354 h (fun h => ?_)
        refine gx_aload_n Cx eL_law_355 0 rfl ?_
        refine gx_iload_n Cx eL_law_356 3 rfl ?_
        refine gx_iconst (v := (2 : Int32)) Cx eL_law_357 (by decide) ?_
        refine gx_iadd Cx eL_law_358 ?_
        refine gx_sld Cx hX eL_law_359 h (fun h => ?_)
        obtain ⟨y22, h21, h⟩ := gx_bP_of h
        refine gx_callVI (ci := 8) Cx my_X8_of wlL_30 rfl gx_y57 (by decide) rfl eL_law_360 (c_X8_of κ h21) rfl (Nat.le_of_ble_eq_true rfl) ?_
        refine gx_icmp_eq (tgt := 1605) Cx eL_law_363 (by decide) h (fun h => ?_) (fun h => ?_)
        · exact B1605 _ _ h
        · refine gx_iconst (v := (0 : Int32)) Cx eL_law_366 (by decide) ?_
          exact gx_rL h eL_law_367 hR
      refine gx_case (4 : Int32) h (fun h => ?_) (fun n4 h => ?_)
      · refine gx_tsIn (tgt := 368) Cx eL_law_33 (by decide) (by decide) rfl (by decide) ?_
        refine gx_aload_n Cx eL_law_368 1 rfl ?_
        refine gx_aload_n Cx eL_law_369 0 rfl ?_
        refine gx_iload_n Cx eL_law_370 3 rfl ?_
        refine gx_iconst (v := (1 : Int32)) Cx eL_law_371 (by decide) ?_
        refine gx_iadd Cx eL_law_372 ?_
        refine gx_sld Cx hX eL_law_373 h (fun h => ?_)
        obtain ⟨y24, M25, h23, h⟩ := gx_bI_of h
        refine gx_callVI (ci := 7) Cx my_X7_feed wlL_31 rfl gx_y56 (by decide) rfl eL_law_374 (c_X7_feed κ h23) rfl (Nat.le_of_ble_eq_true rfl) ?_
        refine gx_aload_n Cx eL_law_377 2 rfl ?_
        refine gx_aload_n Cx eL_law_378 0 rfl ?_
        refine gx_iload_n Cx eL_law_379 3 rfl ?_
        refine gx_iconst (v := (1 : Int32)) Cx eL_law_380 (by decide) ?_
        refine gx_iadd Cx eL_law_381 ?_
        refine gx_sld Cx hX eL_law_382 h (fun h => ?_)
        obtain ⟨y27, M28, h26, h⟩ := gx_bI_of h
        refine gx_callVI (ci := 8) Cx my_X8_feed wlL_35 rfl gx_y57 (by decide) rfl eL_law_383 (c_X8_feed κ h26) rfl (Nat.le_of_ble_eq_true rfl) ?_
        refine gx_icmp_eq (tgt := 1605) Cx eL_law_386 (by decide) h (fun h => ?_) (fun h => ?_)
        · exact B1605 _ _ h
        · refine gx_iconst (v := (0 : Int32)) Cx eL_law_389 (by decide) ?_
          exact gx_rL h eL_law_390 hR
      refine gx_case (5 : Int32) h (fun h => ?_) (fun n5 h => ?_)
      · refine gx_tsIn (tgt := 391) Cx eL_law_33 (by decide) (by decide) rfl (by decide) ?_
        refine gx_aload_n Cx eL_law_391 1 rfl ?_
        obtain ⟨y30, M31, h29, h⟩ := gx_bI_of h
        refine gx_callVI (ci := 7) Cx my_X7_law wlL_36 rfl gx_y56 (by decide) rfl eL_law_392 (c_X7_law κ h29) rfl (Nat.le_of_ble_eq_true rfl) ?_
        refine gx_aload_n Cx eL_law_395 2 rfl ?_
        obtain ⟨y33, M34, h32, h⟩ := gx_bI_of h
        refine gx_callVI (ci := 8) Cx my_X8_law wlL_40 rfl gx_y57 (by decide) rfl eL_law_396 (c_X8_law κ h32) rfl (Nat.le_of_ble_eq_true rfl) ?_
        refine gx_icmp_eq (tgt := 1605) Cx eL_law_399 (by decide) h (fun h => ?_) (fun h => ?_)
        · exact B1605 _ _ h
        · refine gx_iconst (v := (0 : Int32)) Cx eL_law_402 (by decide) ?_
          exact gx_rL h eL_law_403 hR
      refine gx_case (6 : Int32) h (fun h => ?_) (fun n6 h => ?_)
      · refine gx_tsIn (tgt := 404) Cx eL_law_33 (by decide) (by decide) rfl (by decide) ?_
        refine gx_aload_n Cx eL_law_404 1 rfl ?_
        refine gx_aload_n Cx eL_law_405 0 rfl ?_
        refine gx_iload_n Cx eL_law_406 3 rfl ?_
        refine gx_iconst (v := (1 : Int32)) Cx eL_law_407 (by decide) ?_
        refine gx_iadd Cx eL_law_408 ?_
        refine gx_sld Cx hX eL_law_409 h (fun h => ?_)
        refine gx_aload_n Cx eL_law_410 0 rfl ?_
        refine gx_iload_n Cx eL_law_411 3 rfl ?_
        refine gx_iconst (v := (2 : Int32)) Cx eL_law_412 (by decide) ?_
        refine gx_iadd Cx eL_law_413 ?_
        refine gx_sld Cx hX eL_law_414 h (fun h => ?_)
        refine gx_aload_n Cx eL_law_415 0 rfl ?_
        refine gx_iload_n Cx eL_law_416 3 rfl ?_
        refine gx_iconst (v := (3 : Int32)) Cx eL_law_417 (by decide) ?_
        refine gx_iadd Cx eL_law_418 ?_
        refine gx_sld Cx hX eL_law_419 h (fun h => ?_)
        obtain ⟨y36, M37, h35, h⟩ := gx_bI_of h
        refine gx_callVI (ci := 7) Cx my_X7_comes wlL_41 rfl gx_y56 (by decide) rfl eL_law_420 (c_X7_comes κ h35) rfl (Nat.le_of_ble_eq_true rfl) ?_
        refine gx_aload_n Cx eL_law_423 2 rfl ?_
        refine gx_aload_n Cx eL_law_424 0 rfl ?_
        refine gx_iload_n Cx eL_law_425 3 rfl ?_
        refine gx_iconst (v := (1 : Int32)) Cx eL_law_426 (by decide) ?_
        refine gx_iadd Cx eL_law_427 ?_
        refine gx_sld Cx hX eL_law_428 h (fun h => ?_)
        refine gx_aload_n Cx eL_law_429 0 rfl ?_
        refine gx_iload_n Cx eL_law_430 3 rfl ?_
        refine gx_iconst (v := (2 : Int32)) Cx eL_law_431 (by decide) ?_
        refine gx_iadd Cx eL_law_432 ?_
        refine gx_sld Cx hX eL_law_433 h (fun h => ?_)
        refine gx_aload_n Cx eL_law_434 0 rfl ?_
        refine gx_iload_n Cx eL_law_435 3 rfl ?_
        refine gx_iconst (v := (3 : Int32)) Cx eL_law_436 (by decide) ?_
        refine gx_iadd Cx eL_law_437 ?_
        refine gx_sld Cx hX eL_law_438 h (fun h => ?_)
        obtain ⟨y39, M40, h38, h⟩ := gx_bI_of h
        refine gx_callVI (ci := 8) Cx my_X8_comes wlL_44 rfl gx_y57 (by decide) rfl eL_law_439 (c_X8_comes κ h38) rfl (Nat.le_of_ble_eq_true rfl) ?_
        refine gx_icmp_eq (tgt := 1605) Cx eL_law_442 (by decide) h (fun h => ?_) (fun h => ?_)
        · exact B1605 _ _ h
        · refine gx_iconst (v := (0 : Int32)) Cx eL_law_445 (by decide) ?_
          exact gx_rL h eL_law_446 hR
      refine gx_case (7 : Int32) h (fun h => ?_) (fun n7 h => ?_)
      · refine gx_tsIn (tgt := 447) Cx eL_law_33 (by decide) (by decide) rfl (by decide) ?_
        refine gx_aload_n Cx eL_law_447 1 rfl ?_
        refine gx_aload_n Cx eL_law_448 0 rfl ?_
        refine gx_iload_n Cx eL_law_449 3 rfl ?_
        refine gx_iconst (v := (1 : Int32)) Cx eL_law_450 (by decide) ?_
        refine gx_iadd Cx eL_law_451 ?_
        refine gx_sld Cx hX eL_law_452 h (fun h => ?_)
        refine gx_aload_n Cx eL_law_453 0 rfl ?_
        refine gx_iload_n Cx eL_law_454 3 rfl ?_
        refine gx_iconst (v := (2 : Int32)) Cx eL_law_455 (by decide) ?_
        refine gx_iadd Cx eL_law_456 ?_
        refine gx_sld Cx hX eL_law_457 h (fun h => ?_)
        obtain ⟨y42, M43, h41, h⟩ := gx_bI_of h
        refine gx_callVI (ci := 7) Cx my_X7_porter wlL_45 rfl gx_y56 (by decide) rfl eL_law_458 (c_X7_porter κ h41) rfl (Nat.le_of_ble_eq_true rfl) ?_
        refine gx_aload_n Cx eL_law_461 2 rfl ?_
        refine gx_aload_n Cx eL_law_462 0 rfl ?_
        refine gx_iload_n Cx eL_law_463 3 rfl ?_
        refine gx_iconst (v := (1 : Int32)) Cx eL_law_464 (by decide) ?_
        refine gx_iadd Cx eL_law_465 ?_
        refine gx_sld Cx hX eL_law_466 h (fun h => ?_)
        refine gx_aload_n Cx eL_law_467 0 rfl ?_
        refine gx_iload_n Cx eL_law_468 3 rfl ?_
        refine gx_iconst (v := (2 : Int32)) Cx eL_law_469 (by decide) ?_
        refine gx_iadd Cx eL_law_470 ?_
        refine gx_sld Cx hX eL_law_471 h (fun h => ?_)
        obtain ⟨y45, M46, h44, h⟩ := gx_bI_of h
        refine gx_callVI (ci := 8) Cx my_X8_porter wlL_48 rfl gx_y57 (by decide) rfl eL_law_472 (c_X8_porter κ h44) rfl (Nat.le_of_ble_eq_true rfl) ?_
        refine gx_icmp_eq (tgt := 1605) Cx eL_law_475 (by decide) h (fun h => ?_) (fun h => ?_)
        · exact B1605 _ _ h
        · refine gx_iconst (v := (0 : Int32)) Cx eL_law_478 (by decide) ?_
          exact gx_rL h eL_law_479 hR
      refine gx_case (8 : Int32) h (fun h => ?_) (fun n8 h => ?_)
      · refine gx_tsIn (tgt := 480) Cx eL_law_33 (by decide) (by decide) rfl (by decide) ?_
        refine gx_aload_n Cx eL_law_480 1 rfl ?_
        refine gx_aload_n Cx eL_law_481 0 rfl ?_
        refine gx_iload_n Cx eL_law_482 3 rfl ?_
        refine gx_iconst (v := (1 : Int32)) Cx eL_law_483 (by decide) ?_
        refine gx_iadd Cx eL_law_484 ?_
        refine gx_sld Cx hX eL_law_485 h (fun h => ?_)
        refine gx_aload_n Cx eL_law_486 0 rfl ?_
        refine gx_iload_n Cx eL_law_487 3 rfl ?_
        refine gx_iconst (v := (2 : Int32)) Cx eL_law_488 (by decide) ?_
        refine gx_iadd Cx eL_law_489 ?_
        refine gx_sld Cx hX eL_law_490 h (fun h => ?_)
        obtain ⟨y48, M49, h47, h⟩ := gx_bI_of h
        refine gx_callVI (ci := 7) Cx my_X7_wet wlL_49 rfl gx_y56 (by decide) rfl eL_law_491 (c_X7_wet κ h47) rfl (Nat.le_of_ble_eq_true rfl) ?_
        refine gx_aload_n Cx eL_law_494 2 rfl ?_
        refine gx_aload_n Cx eL_law_495 0 rfl ?_
        refine gx_iload_n Cx eL_law_496 3 rfl ?_
        refine gx_iconst (v := (1 : Int32)) Cx eL_law_497 (by decide) ?_
        refine gx_iadd Cx eL_law_498 ?_
        refine gx_sld Cx hX eL_law_499 h (fun h => ?_)
        refine gx_aload_n Cx eL_law_500 0 rfl ?_
        refine gx_iload_n Cx eL_law_501 3 rfl ?_
        refine gx_iconst (v := (2 : Int32)) Cx eL_law_502 (by decide) ?_
        refine gx_iadd Cx eL_law_503 ?_
        refine gx_sld Cx hX eL_law_504 h (fun h => ?_)
        obtain ⟨y51, M52, h50, h⟩ := gx_bI_of h
        refine gx_callVI (ci := 8) Cx my_X8_wet wlL_52 rfl gx_y57 (by decide) rfl eL_law_505 (c_X8_wet κ h50) rfl (Nat.le_of_ble_eq_true rfl) ?_
        refine gx_icmp_eq (tgt := 1605) Cx eL_law_508 (by decide) h (fun h => ?_) (fun h => ?_)
        · exact B1605 _ _ h
        · refine gx_iconst (v := (0 : Int32)) Cx eL_law_511 (by decide) ?_
          exact gx_rL h eL_law_512 hR
      refine gx_case (9 : Int32) h (fun h => ?_) (fun n9 h => ?_)
      · refine gx_tsIn (tgt := 513) Cx eL_law_33 (by decide) (by decide) rfl (by decide) ?_
        refine gx_aload_n Cx eL_law_513 1 rfl ?_
        refine gx_aload_n Cx eL_law_514 0 rfl ?_
        refine gx_iload_n Cx eL_law_515 3 rfl ?_
        refine gx_iconst (v := (1 : Int32)) Cx eL_law_516 (by decide) ?_
        refine gx_iadd Cx eL_law_517 ?_
        refine gx_sld Cx hX eL_law_518 h (fun h => ?_)
        refine gx_aload_n Cx eL_law_519 0 rfl ?_
        refine gx_iload_n Cx eL_law_520 3 rfl ?_
        refine gx_iconst (v := (2 : Int32)) Cx eL_law_521 (by decide) ?_
        refine gx_iadd Cx eL_law_522 ?_
        refine gx_sld Cx hX eL_law_523 h (fun h => ?_)
        refine gx_aload_n Cx eL_law_524 0 rfl ?_
        refine gx_iload_n Cx eL_law_525 3 rfl ?_
        refine gx_iconst (v := (3 : Int32)) Cx eL_law_526 (by decide) ?_
        refine gx_iadd Cx eL_law_527 ?_
        refine gx_sld Cx hX eL_law_528 h (fun h => ?_)
        obtain ⟨y54, M55, h53, h⟩ := gx_bI_of h
        refine gx_callVI (ci := 7) Cx my_X7_most wlL_53 rfl gx_y56 (by decide) rfl eL_law_529 (c_X7_most κ h53) rfl (Nat.le_of_ble_eq_true rfl) ?_
        refine gx_aload_n Cx eL_law_532 2 rfl ?_
        refine gx_aload_n Cx eL_law_533 0 rfl ?_
        refine gx_iload_n Cx eL_law_534 3 rfl ?_
        refine gx_iconst (v := (1 : Int32)) Cx eL_law_535 (by decide) ?_
        refine gx_iadd Cx eL_law_536 ?_
        refine gx_sld Cx hX eL_law_537 h (fun h => ?_)
        refine gx_aload_n Cx eL_law_538 0 rfl ?_
        refine gx_iload_n Cx eL_law_539 3 rfl ?_
        refine gx_iconst (v := (2 : Int32)) Cx eL_law_540 (by decide) ?_
        refine gx_iadd Cx eL_law_541 ?_
        refine gx_sld Cx hX eL_law_542 h (fun h => ?_)
        refine gx_aload_n Cx eL_law_543 0 rfl ?_
        refine gx_iload_n Cx eL_law_544 3 rfl ?_
        refine gx_iconst (v := (3 : Int32)) Cx eL_law_545 (by decide) ?_
        refine gx_iadd Cx eL_law_546 ?_
        refine gx_sld Cx hX eL_law_547 h (fun h => ?_)
        obtain ⟨y57, M58, h56, h⟩ := gx_bI_of h
        refine gx_callVI (ci := 8) Cx my_X8_most wlL_56 rfl gx_y57 (by decide) rfl eL_law_548 (c_X8_most κ h56) rfl (Nat.le_of_ble_eq_true rfl) ?_
        refine gx_icmp_eq (tgt := 1605) Cx eL_law_551 (by decide) h (fun h => ?_) (fun h => ?_)
        · exact B1605 _ _ h
        · refine gx_iconst (v := (0 : Int32)) Cx eL_law_554 (by decide) ?_
          exact gx_rL h eL_law_555 hR
      refine gx_case (10 : Int32) h (fun h => ?_) (fun n10 h => ?_)
      · refine gx_tsIn (tgt := 556) Cx eL_law_33 (by decide) (by decide) rfl (by decide) ?_
        refine gx_aload_n Cx eL_law_556 1 rfl ?_
        refine gx_aload_n Cx eL_law_557 0 rfl ?_
        refine gx_iload_n Cx eL_law_558 3 rfl ?_
        refine gx_iconst (v := (1 : Int32)) Cx eL_law_559 (by decide) ?_
        refine gx_iadd Cx eL_law_560 ?_
        refine gx_sld Cx hX eL_law_561 h (fun h => ?_)
        refine gx_aload_n Cx eL_law_562 0 rfl ?_
        refine gx_iload_n Cx eL_law_563 3 rfl ?_
        refine gx_iconst (v := (2 : Int32)) Cx eL_law_564 (by decide) ?_
        refine gx_iadd Cx eL_law_565 ?_
        refine gx_sld Cx hX eL_law_566 h (fun h => ?_)
        obtain ⟨y60, M61, h59, h⟩ := gx_bI_of h
        refine gx_callVI (ci := 7) Cx my_X7_caught wlL_57 rfl gx_y56 (by decide) rfl eL_law_567 (c_X7_caught κ h59) rfl (Nat.le_of_ble_eq_true rfl) ?_
        refine gx_aload_n Cx eL_law_570 2 rfl ?_
        refine gx_aload_n Cx eL_law_571 0 rfl ?_
        refine gx_iload_n Cx eL_law_572 3 rfl ?_
        refine gx_iconst (v := (1 : Int32)) Cx eL_law_573 (by decide) ?_
        refine gx_iadd Cx eL_law_574 ?_
        refine gx_sld Cx hX eL_law_575 h (fun h => ?_)
        refine gx_aload_n Cx eL_law_576 0 rfl ?_
        refine gx_iload_n Cx eL_law_577 3 rfl ?_
        refine gx_iconst (v := (2 : Int32)) Cx eL_law_578 (by decide) ?_
        refine gx_iadd Cx eL_law_579 ?_
        refine gx_sld Cx hX eL_law_580 h (fun h => ?_)
        obtain ⟨y63, M64, h62, h⟩ := gx_bI_of h
        refine gx_callVI (ci := 8) Cx my_X8_caught wlL_60 rfl gx_y57 (by decide) rfl eL_law_581 (c_X8_caught κ h62) rfl (Nat.le_of_ble_eq_true rfl) ?_
        refine gx_icmp_eq (tgt := 1605) Cx eL_law_584 (by decide) h (fun h => ?_) (fun h => ?_)
        · exact B1605 _ _ h
        · refine gx_iconst (v := (0 : Int32)) Cx eL_law_587 (by decide) ?_
          exact gx_rL h eL_law_588 hR
      refine gx_case (11 : Int32) h (fun h => ?_) (fun n11 h => ?_)
      · refine gx_tsIn (tgt := 589) Cx eL_law_33 (by decide) (by decide) rfl (by decide) ?_
        refine gx_aload_n Cx eL_law_589 1 rfl ?_
        refine gx_aload_n Cx eL_law_590 0 rfl ?_
        refine gx_iload_n Cx eL_law_591 3 rfl ?_
        refine gx_iconst (v := (1 : Int32)) Cx eL_law_592 (by decide) ?_
        refine gx_iadd Cx eL_law_593 ?_
        refine gx_sld Cx hX eL_law_594 h (fun h => ?_)
        obtain ⟨y66, M67, h65, h⟩ := gx_bI_of h
        refine gx_callVI (ci := 7) Cx my_X7_first wlL_61 rfl gx_y56 (by decide) rfl eL_law_595 (c_X7_first κ h65) rfl (Nat.le_of_ble_eq_true rfl) ?_
        refine gx_aload_n Cx eL_law_598 2 rfl ?_
        refine gx_aload_n Cx eL_law_599 0 rfl ?_
        refine gx_iload_n Cx eL_law_600 3 rfl ?_
        refine gx_iconst (v := (1 : Int32)) Cx eL_law_601 (by decide) ?_
        refine gx_iadd Cx eL_law_602 ?_
        refine gx_sld Cx hX eL_law_603 h (fun h => ?_)
        obtain ⟨y69, M70, h68, h⟩ := gx_bI_of h
        refine gx_callVI (ci := 8) Cx my_X8_first wlL_64 rfl gx_y57 (by decide) rfl eL_law_604 (c_X8_first κ h68) rfl (Nat.le_of_ble_eq_true rfl) ?_
        refine gx_icmp_eq (tgt := 1605) Cx eL_law_607 (by decide) h (fun h => ?_) (fun h => ?_)
        · exact B1605 _ _ h
        · refine gx_iconst (v := (0 : Int32)) Cx eL_law_610 (by decide) ?_
          exact gx_rL h eL_law_611 hR
      refine gx_case (12 : Int32) h (fun h => ?_) (fun n12 h => ?_)
      · refine gx_tsIn (tgt := 612) Cx eL_law_33 (by decide) (by decide) rfl (by decide) ?_
        refine gx_aload_n Cx eL_law_612 1 rfl ?_
        refine gx_aload_n Cx eL_law_613 0 rfl ?_
        refine gx_iload_n Cx eL_law_614 3 rfl ?_
        refine gx_iconst (v := (1 : Int32)) Cx eL_law_615 (by decide) ?_
        refine gx_iadd Cx eL_law_616 ?_
        refine gx_sld Cx hX eL_law_617 h (fun h => ?_)
        refine gx_aload_n Cx eL_law_618 0 rfl ?_
        refine gx_iload_n Cx eL_law_619 3 rfl ?_
        refine gx_iconst (v := (2 : Int32)) Cx eL_law_620 (by decide) ?_
        refine gx_iadd Cx eL_law_621 ?_
        refine gx_sld Cx hX eL_law_622 h (fun h => ?_)
        obtain ⟨y72, M73, h71, h⟩ := gx_bI_of h
        refine gx_callVI (ci := 7) Cx my_X7_from wlL_65 rfl gx_y56 (by decide) rfl eL_law_623 (c_X7_from κ h71) rfl (Nat.le_of_ble_eq_true rfl) ?_
        refine gx_aload_n Cx eL_law_626 2 rfl ?_
        refine gx_aload_n Cx eL_law_627 0 rfl ?_
        refine gx_iload_n Cx eL_law_628 3 rfl ?_
        refine gx_iconst (v := (1 : Int32)) Cx eL_law_629 (by decide) ?_
        refine gx_iadd Cx eL_law_630 ?_
        refine gx_sld Cx hX eL_law_631 h (fun h => ?_)
        refine gx_aload_n Cx eL_law_632 0 rfl ?_
        refine gx_iload_n Cx eL_law_633 3 rfl ?_
        refine gx_iconst (v := (2 : Int32)) Cx eL_law_634 (by decide) ?_
        refine gx_iadd Cx eL_law_635 ?_
        refine gx_sld Cx hX eL_law_636 h (fun h => ?_)
        obtain ⟨y75, M76, h74, h⟩ := gx_bI_of h
        refine gx_callVI (ci := 8) Cx my_X8_from wlL_68 rfl gx_y57 (by decide) rfl eL_law_637 (c_X8_from κ h74) rfl (Nat.le_of_ble_eq_true rfl) ?_
        refine gx_icmp_eq (tgt := 1605) Cx eL_law_640 (by decide) h (fun h => ?_) (fun h => ?_)
        · exact B1605 _ _ h
        · refine gx_iconst (v := (0 : Int32)) Cx eL_law_643 (by decide) ?_
          exact gx_rL h eL_law_644 hR
      refine gx_case (13 : Int32) h (fun h => ?_) (fun n13 h => ?_)
      · refine gx_tsIn (tgt := 645) Cx eL_law_33 (by decide) (by decide) rfl (by decide) ?_
        refine gx_aload_n Cx eL_law_645 1 rfl ?_
        refine gx_aload_n Cx eL_law_646 0 rfl ?_
        refine gx_iload_n Cx eL_law_647 3 rfl ?_
        refine gx_iconst (v := (1 : Int32)) Cx eL_law_648 (by decide) ?_
        refine gx_iadd Cx eL_law_649 ?_
        refine gx_sld Cx hX eL_law_650 h (fun h => ?_)
        refine gx_aload_n Cx eL_law_651 0 rfl ?_
        refine gx_iload_n Cx eL_law_652 3 rfl ?_
        refine gx_iconst (v := (2 : Int32)) Cx eL_law_653 (by decide) ?_
        refine gx_iadd Cx eL_law_654 ?_
        refine gx_sld Cx hX eL_law_655 h (fun h => ?_)
        obtain ⟨y78, M79, h77, h⟩ := gx_bI_of h
        refine gx_callVI (ci := 7) Cx my_X7_dry wlL_69 rfl gx_y56 (by decide) rfl eL_law_656 (c_X7_dry κ h77) rfl (Nat.le_of_ble_eq_true rfl) ?_
        refine gx_aload_n Cx eL_law_659 2 rfl ?_
        refine gx_aload_n Cx eL_law_660 0 rfl ?_
        refine gx_iload_n Cx eL_law_661 3 rfl ?_
        refine gx_iconst (v := (1 : Int32)) Cx eL_law_662 (by decide) ?_
        refine gx_iadd Cx eL_law_663 ?_
        refine gx_sld Cx hX eL_law_664 h (fun h => ?_)
        refine gx_aload_n Cx eL_law_665 0 rfl ?_
        refine gx_iload_n Cx eL_law_666 3 rfl ?_
        refine gx_iconst (v := (2 : Int32)) Cx eL_law_667 (by decide) ?_
        refine gx_iadd Cx eL_law_668 ?_
        refine gx_sld Cx hX eL_law_669 h (fun h => ?_)
        obtain ⟨y81, M82, h80, h⟩ := gx_bI_of h
        refine gx_callVI (ci := 8) Cx my_X8_dry wlL_72 rfl gx_y57 (by decide) rfl eL_law_670 (c_X8_dry κ h80) rfl (Nat.le_of_ble_eq_true rfl) ?_
        refine gx_icmp_eq (tgt := 1605) Cx eL_law_673 (by decide) h (fun h => ?_) (fun h => ?_)
        · exact B1605 _ _ h
        · refine gx_iconst (v := (0 : Int32)) Cx eL_law_676 (by decide) ?_
          exact gx_rL h eL_law_677 hR
      refine gx_case (14 : Int32) h (fun h => ?_) (fun n14 h => ?_)
      · refine gx_tsIn (tgt := 678) Cx eL_law_33 (by decide) (by decide) rfl (by decide) ?_
        refine gx_aload_n Cx eL_law_678 1 rfl ?_
        refine gx_aload_n Cx eL_law_679 0 rfl ?_
        refine gx_iload_n Cx eL_law_680 3 rfl ?_
        refine gx_iconst (v := (1 : Int32)) Cx eL_law_681 (by decide) ?_
        refine gx_iadd Cx eL_law_682 ?_
        refine gx_sld Cx hX eL_law_683 h (fun h => ?_)
        refine gx_aload_n Cx eL_law_684 0 rfl ?_
        refine gx_iload_n Cx eL_law_685 3 rfl ?_
        refine gx_iconst (v := (2 : Int32)) Cx eL_law_686 (by decide) ?_
        refine gx_iadd Cx eL_law_687 ?_
        refine gx_sld Cx hX eL_law_688 h (fun h => ?_)
        refine gx_aload_n Cx eL_law_689 0 rfl ?_
        refine gx_iload_n Cx eL_law_690 3 rfl ?_
        refine gx_iconst (v := (3 : Int32)) Cx eL_law_691 (by decide) ?_
        refine gx_iadd Cx eL_law_692 ?_
        refine gx_sld Cx hX eL_law_693 h (fun h => ?_)
        obtain ⟨y84, M85, h83, h⟩ := gx_bI_of h
        refine gx_callVI (ci := 7) Cx my_X7_change wlL_73 rfl gx_y56 (by decide) rfl eL_law_694 (c_X7_change κ h83) rfl (Nat.le_of_ble_eq_true rfl) ?_
        refine gx_aload_n Cx eL_law_697 2 rfl ?_
        refine gx_aload_n Cx eL_law_698 0 rfl ?_
        refine gx_iload_n Cx eL_law_699 3 rfl ?_
        refine gx_iconst (v := (1 : Int32)) Cx eL_law_700 (by decide) ?_
        refine gx_iadd Cx eL_law_701 ?_
        refine gx_sld Cx hX eL_law_702 h (fun h => ?_)
        refine gx_aload_n Cx eL_law_703 0 rfl ?_
        refine gx_iload_n Cx eL_law_704 3 rfl ?_
        refine gx_iconst (v := (2 : Int32)) Cx eL_law_705 (by decide) ?_
        refine gx_iadd Cx eL_law_706 ?_
        refine gx_sld Cx hX eL_law_707 h (fun h => ?_)
        refine gx_aload_n Cx eL_law_708 0 rfl ?_
        refine gx_iload_n Cx eL_law_709 3 rfl ?_
        refine gx_iconst (v := (3 : Int32)) Cx eL_law_710 (by decide) ?_
        refine gx_iadd Cx eL_law_711 ?_
        refine gx_sld Cx hX eL_law_712 h (fun h => ?_)
        obtain ⟨y87, M88, h86, h⟩ := gx_bI_of h
        refine gx_callVI (ci := 8) Cx my_X8_change wlL_76 rfl gx_y57 (by decide) rfl eL_law_713 (c_X8_change κ h86) rfl (Nat.le_of_ble_eq_true rfl) ?_
        refine gx_icmp_eq (tgt := 1605) Cx eL_law_716 (by decide) h (fun h => ?_) (fun h => ?_)
        · exact B1605 _ _ h
        · refine gx_iconst (v := (0 : Int32)) Cx eL_law_719 (by decide) ?_
          exact gx_rL h eL_law_720 hR
      refine gx_case (15 : Int32) h (fun h => ?_) (fun n15 h => ?_)
      · refine gx_tsIn (tgt := 721) Cx eL_law_33 (by decide) (by decide) rfl (by decide) ?_
        refine gx_aload_n Cx eL_law_721 1 rfl ?_
        refine gx_aload_n Cx eL_law_722 0 rfl ?_
        refine gx_iload_n Cx eL_law_723 3 rfl ?_
        refine gx_iconst (v := (1 : Int32)) Cx eL_law_724 (by decide) ?_
        refine gx_iadd Cx eL_law_725 ?_
        refine gx_sld Cx hX eL_law_726 h (fun h => ?_)
        refine gx_aload_n Cx eL_law_727 0 rfl ?_
        refine gx_iload_n Cx eL_law_728 3 rfl ?_
        refine gx_iconst (v := (2 : Int32)) Cx eL_law_729 (by decide) ?_
        refine gx_iadd Cx eL_law_730 ?_
        refine gx_sld Cx hX eL_law_731 h (fun h => ?_)
        refine gx_aload_n Cx eL_law_732 0 rfl ?_
        refine gx_iload_n Cx eL_law_733 3 rfl ?_
        refine gx_iconst (v := (3 : Int32)) Cx eL_law_734 (by decide) ?_
        refine gx_iadd Cx eL_law_735 ?_
        refine gx_sld Cx hX eL_law_736 h (fun h => ?_)
        obtain ⟨y90, M91, h89, h⟩ := gx_bI_of h
        refine gx_callVI (ci := 7) Cx my_X7_who wlL_77 rfl gx_y56 (by decide) rfl eL_law_737 (c_X7_who κ h89) rfl (Nat.le_of_ble_eq_true rfl) ?_
        refine gx_aload_n Cx eL_law_740 2 rfl ?_
        refine gx_aload_n Cx eL_law_741 0 rfl ?_
        refine gx_iload_n Cx eL_law_742 3 rfl ?_
        refine gx_iconst (v := (1 : Int32)) Cx eL_law_743 (by decide) ?_
        refine gx_iadd Cx eL_law_744 ?_
        refine gx_sld Cx hX eL_law_745 h (fun h => ?_)
        refine gx_aload_n Cx eL_law_746 0 rfl ?_
        refine gx_iload_n Cx eL_law_747 3 rfl ?_
        refine gx_iconst (v := (2 : Int32)) Cx eL_law_748 (by decide) ?_
        refine gx_iadd Cx eL_law_749 ?_
        refine gx_sld Cx hX eL_law_750 h (fun h => ?_)
        refine gx_aload_n Cx eL_law_751 0 rfl ?_
        refine gx_iload_n Cx eL_law_752 3 rfl ?_
        refine gx_iconst (v := (3 : Int32)) Cx eL_law_753 (by decide) ?_
        refine gx_iadd Cx eL_law_754 ?_
        refine gx_sld Cx hX eL_law_755 h (fun h => ?_)
        obtain ⟨y93, M94, h92, h⟩ := gx_bI_of h
        refine gx_callVI (ci := 8) Cx my_X8_who wlL_80 rfl gx_y57 (by decide) rfl eL_law_756 (c_X8_who κ h92) rfl (Nat.le_of_ble_eq_true rfl) ?_
        refine gx_icmp_eq (tgt := 1605) Cx eL_law_759 (by decide) h (fun h => ?_) (fun h => ?_)
        · exact B1605 _ _ h
        · refine gx_iconst (v := (0 : Int32)) Cx eL_law_762 (by decide) ?_
          exact gx_rL h eL_law_763 hR
      refine gx_case (16 : Int32) h (fun h => ?_) (fun n16 h => ?_)
      · refine gx_tsIn (tgt := 764) Cx eL_law_33 (by decide) (by decide) rfl (by decide) ?_
        refine gx_aload_n Cx eL_law_764 1 rfl ?_
        refine gx_aload_n Cx eL_law_765 0 rfl ?_
        refine gx_iload_n Cx eL_law_766 3 rfl ?_
        refine gx_iconst (v := (1 : Int32)) Cx eL_law_767 (by decide) ?_
        refine gx_iadd Cx eL_law_768 ?_
        refine gx_sld Cx hX eL_law_769 h (fun h => ?_)
        refine gx_aload_n Cx eL_law_770 0 rfl ?_
        refine gx_iload_n Cx eL_law_771 3 rfl ?_
        refine gx_iconst (v := (2 : Int32)) Cx eL_law_772 (by decide) ?_
        refine gx_iadd Cx eL_law_773 ?_
        refine gx_sld Cx hX eL_law_774 h (fun h => ?_)
        refine gx_aload_n Cx eL_law_775 0 rfl ?_
        refine gx_iload_n Cx eL_law_776 3 rfl ?_
        refine gx_iconst (v := (3 : Int32)) Cx eL_law_777 (by decide) ?_
        refine gx_iadd Cx eL_law_778 ?_
        refine gx_sld Cx hX eL_law_779 h (fun h => ?_)
        refine gx_aload_n Cx eL_law_780 0 rfl ?_
        refine gx_iload_n Cx eL_law_781 3 rfl ?_
        refine gx_iconst (v := (4 : Int32)) Cx eL_law_782 (by decide) ?_
        refine gx_iadd Cx eL_law_783 ?_
        refine gx_sld Cx hX eL_law_784 h (fun h => ?_)
        obtain ⟨y96, M97, h95, h⟩ := gx_bI_of h
        refine gx_callVI (ci := 7) Cx my_X7_thought wlL_81 rfl gx_y56 (by decide) rfl eL_law_785 (c_X7_thought κ h95) rfl (Nat.le_of_ble_eq_true rfl) ?_
        refine gx_aload_n Cx eL_law_788 2 rfl ?_
        refine gx_aload_n Cx eL_law_789 0 rfl ?_
        refine gx_iload_n Cx eL_law_790 3 rfl ?_
        refine gx_iconst (v := (1 : Int32)) Cx eL_law_791 (by decide) ?_
        refine gx_iadd Cx eL_law_792 ?_
        refine gx_sld Cx hX eL_law_793 h (fun h => ?_)
        refine gx_aload_n Cx eL_law_794 0 rfl ?_
        refine gx_iload_n Cx eL_law_795 3 rfl ?_
        refine gx_iconst (v := (2 : Int32)) Cx eL_law_796 (by decide) ?_
        refine gx_iadd Cx eL_law_797 ?_
        refine gx_sld Cx hX eL_law_798 h (fun h => ?_)
        refine gx_aload_n Cx eL_law_799 0 rfl ?_
        refine gx_iload_n Cx eL_law_800 3 rfl ?_
        refine gx_iconst (v := (3 : Int32)) Cx eL_law_801 (by decide) ?_
        refine gx_iadd Cx eL_law_802 ?_
        refine gx_sld Cx hX eL_law_803 h (fun h => ?_)
        refine gx_aload_n Cx eL_law_804 0 rfl ?_
        refine gx_iload_n Cx eL_law_805 3 rfl ?_
        refine gx_iconst (v := (4 : Int32)) Cx eL_law_806 (by decide) ?_
        refine gx_iadd Cx eL_law_807 ?_
        refine gx_sld Cx hX eL_law_808 h (fun h => ?_)
        obtain ⟨y99, M100, h98, h⟩ := gx_bI_of h
        refine gx_callVI (ci := 8) Cx my_X8_thought wlL_85 rfl gx_y57 (by decide) rfl eL_law_809 (c_X8_thought κ h98) rfl (Nat.le_of_ble_eq_true rfl) ?_
        refine gx_icmp_eq (tgt := 1605) Cx eL_law_812 (by decide) h (fun h => ?_) (fun h => ?_)
        · exact B1605 _ _ h
        · refine gx_iconst (v := (0 : Int32)) Cx eL_law_815 (by decide) ?_
          exact gx_rL h eL_law_816 hR
      refine gx_case (17 : Int32) h (fun h => ?_) (fun n17 h => ?_)
      · refine gx_tsIn (tgt := 817) Cx eL_law_33 (by decide) (by decide) rfl (by decide) ?_
        refine gx_aload_n Cx eL_law_817 1 rfl ?_
        refine gx_aload_n Cx eL_law_818 0 rfl ?_
        refine gx_iload_n Cx eL_law_819 3 rfl ?_
        refine gx_iconst (v := (1 : Int32)) Cx eL_law_820 (by decide) ?_
        refine gx_iadd Cx eL_law_821 ?_
        refine gx_sld Cx hX eL_law_822 h (fun h => ?_)
        refine gx_aload_n Cx eL_law_823 0 rfl ?_
        refine gx_iload_n Cx eL_law_824 3 rfl ?_
        refine gx_iconst (v := (2 : Int32)) Cx eL_law_825 (by decide) ?_
        refine gx_iadd Cx eL_law_826 ?_
        refine gx_sld Cx hX eL_law_827 h (fun h => ?_)
        obtain ⟨y102, M103, h101, h⟩ := gx_bI_of h
        refine gx_callVI (ci := 7) Cx my_X7_rent wlL_86 rfl gx_y56 (by decide) rfl eL_law_828 (c_X7_rent κ h101) rfl (Nat.le_of_ble_eq_true rfl) ?_
        refine gx_aload_n Cx eL_law_831 2 rfl ?_
        refine gx_aload_n Cx eL_law_832 0 rfl ?_
        refine gx_iload_n Cx eL_law_833 3 rfl ?_
        refine gx_iconst (v := (1 : Int32)) Cx eL_law_834 (by decide) ?_
        refine gx_iadd Cx eL_law_835 ?_
        refine gx_sld Cx hX eL_law_836 h (fun h => ?_)
        refine gx_aload_n Cx eL_law_837 0 rfl ?_
        refine gx_iload_n Cx eL_law_838 3 rfl ?_
        refine gx_iconst (v := (2 : Int32)) Cx eL_law_839 (by decide) ?_
        refine gx_iadd Cx eL_law_840 ?_
        refine gx_sld Cx hX eL_law_841 h (fun h => ?_)
        obtain ⟨y105, M106, h104, h⟩ := gx_bI_of h
        refine gx_callVI (ci := 8) Cx my_X8_rent wlL_89 rfl gx_y57 (by decide) rfl eL_law_842 (c_X8_rent κ h104) rfl (Nat.le_of_ble_eq_true rfl) ?_
        refine gx_icmp_eq (tgt := 1605) Cx eL_law_845 (by decide) h (fun h => ?_) (fun h => ?_)
        · exact B1605 _ _ h
        · refine gx_iconst (v := (0 : Int32)) Cx eL_law_848 (by decide) ?_
          exact gx_rL h eL_law_849 hR
      refine gx_case (18 : Int32) h (fun h => ?_) (fun n18 h => ?_)
      · refine gx_tsIn (tgt := 850) Cx eL_law_33 (by decide) (by decide) rfl (by decide) ?_
        refine gx_aload_n Cx eL_law_850 1 rfl ?_
        refine gx_aload_n Cx eL_law_851 0 rfl ?_
        refine gx_iload_n Cx eL_law_852 3 rfl ?_
        refine gx_iconst (v := (1 : Int32)) Cx eL_law_853 (by decide) ?_
        refine gx_iadd Cx eL_law_854 ?_
        refine gx_sld Cx hX eL_law_855 h (fun h => ?_)
        obtain ⟨y108, M109, h107, h⟩ := gx_bI_of h
        refine gx_callVI (ci := 7) Cx my_X7_swap wlL_90 rfl gx_y56 (by decide) rfl eL_law_856 (c_X7_swap κ h107) rfl (Nat.le_of_ble_eq_true rfl) ?_
        refine gx_aload_n Cx eL_law_859 2 rfl ?_
        refine gx_aload_n Cx eL_law_860 0 rfl ?_
        refine gx_iload_n Cx eL_law_861 3 rfl ?_
        refine gx_iconst (v := (1 : Int32)) Cx eL_law_862 (by decide) ?_
        refine gx_iadd Cx eL_law_863 ?_
        refine gx_sld Cx hX eL_law_864 h (fun h => ?_)
        obtain ⟨y111, M112, h110, h⟩ := gx_bI_of h
        refine gx_callVI (ci := 8) Cx my_X8_swap wlL_93 rfl gx_y57 (by decide) rfl eL_law_865 (c_X8_swap κ h110) rfl (Nat.le_of_ble_eq_true rfl) ?_
        refine gx_icmp_eq (tgt := 1605) Cx eL_law_868 (by decide) h (fun h => ?_) (fun h => ?_)
        · exact B1605 _ _ h
        · refine gx_iconst (v := (0 : Int32)) Cx eL_law_871 (by decide) ?_
          exact gx_rL h eL_law_872 hR
      refine gx_case (19 : Int32) h (fun h => ?_) (fun n19 h => ?_)
      · refine gx_tsIn (tgt := 873) Cx eL_law_33 (by decide) (by decide) rfl (by decide) ?_
        refine gx_aload_n Cx eL_law_873 1 rfl ?_
        refine gx_aload_n Cx eL_law_874 0 rfl ?_
        refine gx_iload_n Cx eL_law_875 3 rfl ?_
        refine gx_iconst (v := (1 : Int32)) Cx eL_law_876 (by decide) ?_
        refine gx_iadd Cx eL_law_877 ?_
        refine gx_sld Cx hX eL_law_878 h (fun h => ?_)
        refine gx_aload_n Cx eL_law_879 0 rfl ?_
        refine gx_iload_n Cx eL_law_880 3 rfl ?_
        refine gx_iconst (v := (2 : Int32)) Cx eL_law_881 (by decide) ?_
        refine gx_iadd Cx eL_law_882 ?_
        refine gx_sld Cx hX eL_law_883 h (fun h => ?_)
        refine gx_aload_n Cx eL_law_884 0 rfl ?_
        refine gx_iload_n Cx eL_law_885 3 rfl ?_
        refine gx_iconst (v := (3 : Int32)) Cx eL_law_886 (by decide) ?_
        refine gx_iadd Cx eL_law_887 ?_
        refine gx_sld Cx hX eL_law_888 h (fun h => ?_)
        obtain ⟨y114, M115, h113, h⟩ := gx_bI_of h
        refine gx_callVJ (ci := 7) Cx my_X7_odds wlL_94 rfl gx_y56 (by decide) rfl eL_law_889 (c_X7_odds κ h113) rfl (Nat.le_of_ble_eq_true rfl) ?_
        refine gx_aload_n Cx eL_law_892 2 rfl ?_
        refine gx_aload_n Cx eL_law_893 0 rfl ?_
        refine gx_iload_n Cx eL_law_894 3 rfl ?_
        refine gx_iconst (v := (1 : Int32)) Cx eL_law_895 (by decide) ?_
        refine gx_iadd Cx eL_law_896 ?_
        refine gx_sld Cx hX eL_law_897 h (fun h => ?_)
        refine gx_aload_n Cx eL_law_898 0 rfl ?_
        refine gx_iload_n Cx eL_law_899 3 rfl ?_
        refine gx_iconst (v := (2 : Int32)) Cx eL_law_900 (by decide) ?_
        refine gx_iadd Cx eL_law_901 ?_
        refine gx_sld Cx hX eL_law_902 h (fun h => ?_)
        refine gx_aload_n Cx eL_law_903 0 rfl ?_
        refine gx_iload_n Cx eL_law_904 3 rfl ?_
        refine gx_iconst (v := (3 : Int32)) Cx eL_law_905 (by decide) ?_
        refine gx_iadd Cx eL_law_906 ?_
        refine gx_sld Cx hX eL_law_907 h (fun h => ?_)
        obtain ⟨y117, M118, h116, h⟩ := gx_bI_of h
        refine gx_callVJ (ci := 8) Cx my_X8_odds wlL_98 rfl gx_y57 (by decide) rfl eL_law_908 (c_X8_odds κ h116) rfl (Nat.le_of_ble_eq_true rfl) ?_
        refine gx_lcmp Cx eL_law_911 ?_
        refine gx_if_eq (tgt := 1605) Cx eL_law_912 (by decide) h (fun h => ?_) (fun h => ?_)
        · exact B1605 _ _ h
        · refine gx_iconst (v := (0 : Int32)) Cx eL_law_915 (by decide) ?_
          exact gx_rL h eL_law_916 hR
      refine gx_case (20 : Int32) h (fun h => ?_) (fun n20 h => ?_)
      · refine gx_tsIn (tgt := 917) Cx eL_law_33 (by decide) (by decide) rfl (by decide) ?_
        refine gx_aload_n Cx eL_law_917 1 rfl ?_
        refine gx_aload_n Cx eL_law_918 0 rfl ?_
        refine gx_iload_n Cx eL_law_919 3 rfl ?_
        refine gx_iconst (v := (1 : Int32)) Cx eL_law_920 (by decide) ?_
        refine gx_iadd Cx eL_law_921 ?_
        refine gx_sld Cx hX eL_law_922 h (fun h => ?_)
        refine gx_aload_n Cx eL_law_923 0 rfl ?_
        refine gx_iload_n Cx eL_law_924 3 rfl ?_
        refine gx_iconst (v := (2 : Int32)) Cx eL_law_925 (by decide) ?_
        refine gx_iadd Cx eL_law_926 ?_
        refine gx_sld Cx hX eL_law_927 h (fun h => ?_)
        refine gx_aload_n Cx eL_law_928 0 rfl ?_
        refine gx_iload_n Cx eL_law_929 3 rfl ?_
        refine gx_iconst (v := (3 : Int32)) Cx eL_law_930 (by decide) ?_
        refine gx_iadd Cx eL_law_931 ?_
        refine gx_sld Cx hX eL_law_932 h (fun h => ?_)
        obtain ⟨y120, M121, h119, h⟩ := gx_bI_of h
        refine gx_callVJ (ci := 7) Cx my_X7_mean wlL_99 rfl gx_y56 (by decide) rfl eL_law_933 (c_X7_mean κ h119) rfl (Nat.le_of_ble_eq_true rfl) ?_
        refine gx_aload_n Cx eL_law_936 2 rfl ?_
        refine gx_aload_n Cx eL_law_937 0 rfl ?_
        refine gx_iload_n Cx eL_law_938 3 rfl ?_
        refine gx_iconst (v := (1 : Int32)) Cx eL_law_939 (by decide) ?_
        refine gx_iadd Cx eL_law_940 ?_
        refine gx_sld Cx hX eL_law_941 h (fun h => ?_)
        refine gx_aload_n Cx eL_law_942 0 rfl ?_
        refine gx_iload_n Cx eL_law_943 3 rfl ?_
        refine gx_iconst (v := (2 : Int32)) Cx eL_law_944 (by decide) ?_
        refine gx_iadd Cx eL_law_945 ?_
        refine gx_sld Cx hX eL_law_946 h (fun h => ?_)
        refine gx_aload_n Cx eL_law_947 0 rfl ?_
        refine gx_iload_n Cx eL_law_948 3 rfl ?_
        refine gx_iconst (v := (3 : Int32)) Cx eL_law_949 (by decide) ?_
        refine gx_iadd Cx eL_law_950 ?_
        refine gx_sld Cx hX eL_law_951 h (fun h => ?_)
        obtain ⟨y123, M124, h122, h⟩ := gx_bI_of h
        refine gx_callVJ (ci := 8) Cx my_X8_mean wlL_102 rfl gx_y57 (by decide) rfl eL_law_952 (c_X8_mean κ h122) rfl (Nat.le_of_ble_eq_true rfl) ?_
        refine gx_lcmp Cx eL_law_955 ?_
        refine gx_if_eq (tgt := 1605) Cx eL_law_956 (by decide) h (fun h => ?_) (fun h => ?_)
        · exact B1605 _ _ h
        · refine gx_iconst (v := (0 : Int32)) Cx eL_law_959 (by decide) ?_
          exact gx_rL h eL_law_960 hR
      refine gx_case (21 : Int32) h (fun h => ?_) (fun n21 h => ?_)
      · refine gx_tsIn (tgt := 961) Cx eL_law_33 (by decide) (by decide) rfl (by decide) ?_
        refine gx_aload_n Cx eL_law_961 1 rfl ?_
        refine gx_aload_n Cx eL_law_962 0 rfl ?_
        refine gx_iload_n Cx eL_law_963 3 rfl ?_
        refine gx_iconst (v := (1 : Int32)) Cx eL_law_964 (by decide) ?_
        refine gx_iadd Cx eL_law_965 ?_
        refine gx_sld Cx hX eL_law_966 h (fun h => ?_)
        refine gx_aload_n Cx eL_law_967 0 rfl ?_
        refine gx_iload_n Cx eL_law_968 3 rfl ?_
        refine gx_iconst (v := (2 : Int32)) Cx eL_law_969 (by decide) ?_
        refine gx_iadd Cx eL_law_970 ?_
        refine gx_sld Cx hX eL_law_971 h (fun h => ?_)
        refine gx_aload_n Cx eL_law_972 0 rfl ?_
        refine gx_iload_n Cx eL_law_973 3 rfl ?_
        refine gx_iconst (v := (3 : Int32)) Cx eL_law_974 (by decide) ?_
        refine gx_iadd Cx eL_law_975 ?_
        refine gx_sld Cx hX eL_law_976 h (fun h => ?_)
        obtain ⟨y126, M127, h125, h⟩ := gx_bI_of h
        refine gx_callVI (ci := 7) Cx my_X7_byTurns wlL_103 rfl gx_y56 (by decide) rfl eL_law_977 (c_X7_byTurns κ h125) rfl (Nat.le_of_ble_eq_true rfl) ?_
        refine gx_aload_n Cx eL_law_980 2 rfl ?_
        refine gx_aload_n Cx eL_law_981 0 rfl ?_
        refine gx_iload_n Cx eL_law_982 3 rfl ?_
        refine gx_iconst (v := (1 : Int32)) Cx eL_law_983 (by decide) ?_
        refine gx_iadd Cx eL_law_984 ?_
        refine gx_sld Cx hX eL_law_985 h (fun h => ?_)
        refine gx_aload_n Cx eL_law_986 0 rfl ?_
        refine gx_iload_n Cx eL_law_987 3 rfl ?_
        refine gx_iconst (v := (2 : Int32)) Cx eL_law_988 (by decide) ?_
        refine gx_iadd Cx eL_law_989 ?_
        refine gx_sld Cx hX eL_law_990 h (fun h => ?_)
        refine gx_aload_n Cx eL_law_991 0 rfl ?_
        refine gx_iload_n Cx eL_law_992 3 rfl ?_
        refine gx_iconst (v := (3 : Int32)) Cx eL_law_993 (by decide) ?_
        refine gx_iadd Cx eL_law_994 ?_
        refine gx_sld Cx hX eL_law_995 h (fun h => ?_)
        obtain ⟨y129, M130, h128, h⟩ := gx_bI_of h
        refine gx_callVI (ci := 8) Cx my_X8_byTurns wlL_106 rfl gx_y57 (by decide) rfl eL_law_996 (c_X8_byTurns κ h128) rfl (Nat.le_of_ble_eq_true rfl) ?_
        refine gx_icmp_eq (tgt := 1605) Cx eL_law_999 (by decide) h (fun h => ?_) (fun h => ?_)
        · exact B1605 _ _ h
        · refine gx_iconst (v := (0 : Int32)) Cx eL_law_1002 (by decide) ?_
          exact gx_rL h eL_law_1003 hR
      refine gx_case (22 : Int32) h (fun h => ?_) (fun n22 h => ?_)
      · refine gx_tsIn (tgt := 1004) Cx eL_law_33 (by decide) (by decide) rfl (by decide) ?_
        refine gx_aload_n Cx eL_law_1004 1 rfl ?_
        refine gx_aload_n Cx eL_law_1005 0 rfl ?_
        refine gx_iload_n Cx eL_law_1006 3 rfl ?_
        refine gx_iconst (v := (1 : Int32)) Cx eL_law_1007 (by decide) ?_
        refine gx_iadd Cx eL_law_1008 ?_
        refine gx_sld Cx hX eL_law_1009 h (fun h => ?_)
        refine gx_aload_n Cx eL_law_1010 0 rfl ?_
        refine gx_iload_n Cx eL_law_1011 3 rfl ?_
        refine gx_iconst (v := (2 : Int32)) Cx eL_law_1012 (by decide) ?_
        refine gx_iadd Cx eL_law_1013 ?_
        refine gx_sld Cx hX eL_law_1014 h (fun h => ?_)
        refine gx_aload_n Cx eL_law_1015 0 rfl ?_
        refine gx_iload_n Cx eL_law_1016 3 rfl ?_
        refine gx_iconst (v := (3 : Int32)) Cx eL_law_1017 (by decide) ?_
        refine gx_iadd Cx eL_law_1018 ?_
        refine gx_sld Cx hX eL_law_1019 h (fun h => ?_)
        obtain ⟨y132, M133, h131, h⟩ := gx_bI_of h
        refine gx_callVI (ci := 7) Cx my_X7_drawn wlL_107 rfl gx_y56 (by decide) rfl eL_law_1020 (c_X7_drawn κ h131) rfl (Nat.le_of_ble_eq_true rfl) ?_
        refine gx_aload_n Cx eL_law_1023 2 rfl ?_
        refine gx_aload_n Cx eL_law_1024 0 rfl ?_
        refine gx_iload_n Cx eL_law_1025 3 rfl ?_
        refine gx_iconst (v := (1 : Int32)) Cx eL_law_1026 (by decide) ?_
        refine gx_iadd Cx eL_law_1027 ?_
        refine gx_sld Cx hX eL_law_1028 h (fun h => ?_)
        refine gx_aload_n Cx eL_law_1029 0 rfl ?_
        refine gx_iload_n Cx eL_law_1030 3 rfl ?_
        refine gx_iconst (v := (2 : Int32)) Cx eL_law_1031 (by decide) ?_
        refine gx_iadd Cx eL_law_1032 ?_
        refine gx_sld Cx hX eL_law_1033 h (fun h => ?_)
        refine gx_aload_n Cx eL_law_1034 0 rfl ?_
        refine gx_iload_n Cx eL_law_1035 3 rfl ?_
        refine gx_iconst (v := (3 : Int32)) Cx eL_law_1036 (by decide) ?_
        refine gx_iadd Cx eL_law_1037 ?_
        refine gx_sld Cx hX eL_law_1038 h (fun h => ?_)
        obtain ⟨y135, M136, h134, h⟩ := gx_bI_of h
        refine gx_callVI (ci := 8) Cx my_X8_drawn wlL_110 rfl gx_y57 (by decide) rfl eL_law_1039 (c_X8_drawn κ h134) rfl (Nat.le_of_ble_eq_true rfl) ?_
        refine gx_icmp_eq (tgt := 1605) Cx eL_law_1042 (by decide) h (fun h => ?_) (fun h => ?_)
        · exact B1605 _ _ h
        · refine gx_iconst (v := (0 : Int32)) Cx eL_law_1045 (by decide) ?_
          exact gx_rL h eL_law_1046 hR
      refine gx_case (23 : Int32) h (fun h => ?_) (fun n23 h => ?_)
      · refine gx_tsIn (tgt := 1047) Cx eL_law_33 (by decide) (by decide) rfl (by decide) ?_
        refine gx_aload_n Cx eL_law_1047 1 rfl ?_
        obtain ⟨y138, M139, h137, h⟩ := gx_bI_of h
        refine gx_callVI (ci := 7) Cx my_X7_hour wlL_111 rfl gx_y56 (by decide) rfl eL_law_1048 (c_X7_hour κ h137) rfl (Nat.le_of_ble_eq_true rfl) ?_
        refine gx_aload_n Cx eL_law_1051 2 rfl ?_
        obtain ⟨y141, M142, h140, h⟩ := gx_bI_of h
        refine gx_callVI (ci := 8) Cx my_X8_hour wlL_114 rfl gx_y57 (by decide) rfl eL_law_1052 (c_X8_hour κ h140) rfl (Nat.le_of_ble_eq_true rfl) ?_
        refine gx_icmp_eq (tgt := 1605) Cx eL_law_1055 (by decide) h (fun h => ?_) (fun h => ?_)
        · exact B1605 _ _ h
        · refine gx_iconst (v := (0 : Int32)) Cx eL_law_1058 (by decide) ?_
          exact gx_rL h eL_law_1059 hR
      refine gx_case (24 : Int32) h (fun h => ?_) (fun n24 h => ?_)
      · refine gx_tsIn (tgt := 1060) Cx eL_law_33 (by decide) (by decide) rfl (by decide) ?_
        refine gx_aload_n Cx eL_law_1060 1 rfl ?_
        refine gx_aload_n Cx eL_law_1061 0 rfl ?_
        refine gx_iload_n Cx eL_law_1062 3 rfl ?_
        refine gx_iconst (v := (1 : Int32)) Cx eL_law_1063 (by decide) ?_
        refine gx_iadd Cx eL_law_1064 ?_
        refine gx_sld Cx hX eL_law_1065 h (fun h => ?_)
        refine gx_aload_n Cx eL_law_1066 0 rfl ?_
        refine gx_iload_n Cx eL_law_1067 3 rfl ?_
        refine gx_iconst (v := (2 : Int32)) Cx eL_law_1068 (by decide) ?_
        refine gx_iadd Cx eL_law_1069 ?_
        refine gx_sld Cx hX eL_law_1070 h (fun h => ?_)
        obtain ⟨y144, M145, h143, h⟩ := gx_bI_of h
        refine gx_callVI (ci := 7) Cx my_X7_moves wlL_115 rfl gx_y56 (by decide) rfl eL_law_1071 (c_X7_moves κ h143) rfl (Nat.le_of_ble_eq_true rfl) ?_
        refine gx_aload_n Cx eL_law_1074 2 rfl ?_
        refine gx_aload_n Cx eL_law_1075 0 rfl ?_
        refine gx_iload_n Cx eL_law_1076 3 rfl ?_
        refine gx_iconst (v := (1 : Int32)) Cx eL_law_1077 (by decide) ?_
        refine gx_iadd Cx eL_law_1078 ?_
        refine gx_sld Cx hX eL_law_1079 h (fun h => ?_)
        refine gx_aload_n Cx eL_law_1080 0 rfl ?_
        refine gx_iload_n Cx eL_law_1081 3 rfl ?_
        refine gx_iconst (v := (2 : Int32)) Cx eL_law_1082 (by decide) ?_
        refine gx_iadd Cx eL_law_1083 ?_
        refine gx_sld Cx hX eL_law_1084 h (fun h => ?_)
        obtain ⟨y147, M148, h146, h⟩ := gx_bI_of h
        refine gx_callVI (ci := 8) Cx my_X8_moves wlL_118 rfl gx_y57 (by decide) rfl eL_law_1085 (c_X8_moves κ h146) rfl (Nat.le_of_ble_eq_true rfl) ?_
        refine gx_icmp_eq (tgt := 1605) Cx eL_law_1088 (by decide) h (fun h => ?_) (fun h => ?_)
        · exact B1605 _ _ h
        · refine gx_iconst (v := (0 : Int32)) Cx eL_law_1091 (by decide) ?_
          exact gx_rL h eL_law_1092 hR
      refine gx_case (25 : Int32) h (fun h => ?_) (fun n25 h => ?_)
      · refine gx_tsIn (tgt := 1093) Cx eL_law_33 (by decide) (by decide) rfl (by decide) ?_
        refine gx_aload_n Cx eL_law_1093 1 rfl ?_
        refine gx_aload_n Cx eL_law_1094 0 rfl ?_
        refine gx_iload_n Cx eL_law_1095 3 rfl ?_
        refine gx_iconst (v := (1 : Int32)) Cx eL_law_1096 (by decide) ?_
        refine gx_iadd Cx eL_law_1097 ?_
        refine gx_sld Cx hX eL_law_1098 h (fun h => ?_)
        obtain ⟨y150, M151, h149, h⟩ := gx_bI_of h
        refine gx_callVI (ci := 7) Cx my_X7_awning wlL_119 rfl gx_y56 (by decide) rfl eL_law_1099 (c_X7_awning κ h149) rfl (Nat.le_of_ble_eq_true rfl) ?_
        refine gx_aload_n Cx eL_law_1102 2 rfl ?_
        refine gx_aload_n Cx eL_law_1103 0 rfl ?_
        refine gx_iload_n Cx eL_law_1104 3 rfl ?_
        refine gx_iconst (v := (1 : Int32)) Cx eL_law_1105 (by decide) ?_
        refine gx_iadd Cx eL_law_1106 ?_
        refine gx_sld Cx hX eL_law_1107 h (fun h => ?_)
        obtain ⟨y153, M154, h152, h⟩ := gx_bI_of h
        refine gx_callVI (ci := 8) Cx my_X8_awning wlL_122 rfl gx_y57 (by decide) rfl eL_law_1108 (c_X8_awning κ h152) rfl (Nat.le_of_ble_eq_true rfl) ?_
        refine gx_icmp_eq (tgt := 1605) Cx eL_law_1111 (by decide) h (fun h => ?_) (fun h => ?_)
        · exact B1605 _ _ h
        · refine gx_iconst (v := (0 : Int32)) Cx eL_law_1114 (by decide) ?_
          exact gx_rL h eL_law_1115 hR
      refine gx_case (26 : Int32) h (fun h => ?_) (fun n26 h => ?_)
      · refine gx_tsIn (tgt := 1116) Cx eL_law_33 (by decide) (by decide) rfl (by decide) ?_
        refine gx_aload_n Cx eL_law_1116 1 rfl ?_
        refine gx_aload_n Cx eL_law_1117 0 rfl ?_
        refine gx_iload_n Cx eL_law_1118 3 rfl ?_
        refine gx_iconst (v := (1 : Int32)) Cx eL_law_1119 (by decide) ?_
        refine gx_iadd Cx eL_law_1120 ?_
        refine gx_sld Cx hX eL_law_1121 h (fun h => ?_)
        obtain ⟨y156, M157, h155, h⟩ := gx_bI_of h
        refine gx_callVI (ci := 7) Cx my_X7_wipe wlL_123 rfl gx_y56 (by decide) rfl eL_law_1122 (c_X7_wipe κ h155) rfl (Nat.le_of_ble_eq_true rfl) ?_
        refine gx_aload_n Cx eL_law_1125 2 rfl ?_
        refine gx_aload_n Cx eL_law_1126 0 rfl ?_
        refine gx_iload_n Cx eL_law_1127 3 rfl ?_
        refine gx_iconst (v := (1 : Int32)) Cx eL_law_1128 (by decide) ?_
        refine gx_iadd Cx eL_law_1129 ?_
        refine gx_sld Cx hX eL_law_1130 h (fun h => ?_)
        obtain ⟨y159, M160, h158, h⟩ := gx_bI_of h
        refine gx_callVI (ci := 8) Cx my_X8_wipe wlL_126 rfl gx_y57 (by decide) rfl eL_law_1131 (c_X8_wipe κ h158) rfl (Nat.le_of_ble_eq_true rfl) ?_
        refine gx_icmp_eq (tgt := 1605) Cx eL_law_1134 (by decide) h (fun h => ?_) (fun h => ?_)
        · exact B1605 _ _ h
        · refine gx_iconst (v := (0 : Int32)) Cx eL_law_1137 (by decide) ?_
          exact gx_rL h eL_law_1138 hR
      refine gx_case (27 : Int32) h (fun h => ?_) (fun n27 h => ?_)
      · refine gx_tsIn (tgt := 1139) Cx eL_law_33 (by decide) (by decide) rfl (by decide) ?_
        refine gx_aload_n Cx eL_law_1139 1 rfl ?_
        refine gx_aload_n Cx eL_law_1140 0 rfl ?_
        refine gx_iload_n Cx eL_law_1141 3 rfl ?_
        refine gx_iconst (v := (1 : Int32)) Cx eL_law_1142 (by decide) ?_
        refine gx_iadd Cx eL_law_1143 ?_
        refine gx_sld Cx hX eL_law_1144 h (fun h => ?_)
        obtain ⟨y162, h161, h⟩ := gx_bP_of h
        refine gx_callVI (ci := 7) Cx my_X7_led wlL_127 rfl gx_y56 (by decide) rfl eL_law_1145 (c_X7_led κ h161) rfl (Nat.le_of_ble_eq_true rfl) ?_
        refine gx_aload_n Cx eL_law_1148 2 rfl ?_
        refine gx_aload_n Cx eL_law_1149 0 rfl ?_
        refine gx_iload_n Cx eL_law_1150 3 rfl ?_
        refine gx_iconst (v := (1 : Int32)) Cx eL_law_1151 (by decide) ?_
        refine gx_iadd Cx eL_law_1152 ?_
        refine gx_sld Cx hX eL_law_1153 h (fun h => ?_)
        obtain ⟨y164, h163, h⟩ := gx_bP_of h
        refine gx_callVI (ci := 8) Cx my_X8_led wlL_130 rfl gx_y57 (by decide) rfl eL_law_1154 (c_X8_led κ h163) rfl (Nat.le_of_ble_eq_true rfl) ?_
        refine gx_icmp_eq (tgt := 1605) Cx eL_law_1157 (by decide) h (fun h => ?_) (fun h => ?_)
        · exact B1605 _ _ h
        · refine gx_iconst (v := (0 : Int32)) Cx eL_law_1160 (by decide) ?_
          exact gx_rL h eL_law_1161 hR
      refine gx_case (28 : Int32) h (fun h => ?_) (fun n28 h => ?_)
      · refine gx_tsIn (tgt := 1162) Cx eL_law_33 (by decide) (by decide) rfl (by decide) ?_
        refine gx_aload_n Cx eL_law_1162 1 rfl ?_
        obtain ⟨y166, M167, h165, h⟩ := gx_bI_of h
        refine gx_callVI (ci := 7) Cx my_X7_image wlL_131 rfl gx_y56 (by decide) rfl eL_law_1163 (c_X7_image κ h165) rfl (Nat.le_of_ble_eq_true rfl) ?_
        refine gx_aload_n Cx eL_law_1166 2 rfl ?_
        obtain ⟨y169, M170, h168, h⟩ := gx_bI_of h
        refine gx_callVI (ci := 8) Cx my_X8_image wlL_134 rfl gx_y57 (by decide) rfl eL_law_1167 (c_X8_image κ h168) rfl (Nat.le_of_ble_eq_true rfl) ?_
        refine gx_icmp_eq (tgt := 1605) Cx eL_law_1170 (by decide) h (fun h => ?_) (fun h => ?_)
        · exact B1605 _ _ h
        · refine gx_iconst (v := (0 : Int32)) Cx eL_law_1173 (by decide) ?_
          exact gx_rL h eL_law_1174 hR
      refine gx_case (29 : Int32) h (fun h => ?_) (fun n29 h => ?_)
      · refine gx_tsIn (tgt := 1175) Cx eL_law_33 (by decide) (by decide) rfl (by decide) ?_
        refine gx_aload_n Cx eL_law_1175 1 rfl ?_
        obtain ⟨y172, M173, h171, h⟩ := gx_bI_of h
        refine gx_callVI (ci := 7) Cx my_X7_back wlL_135 rfl gx_y56 (by decide) rfl eL_law_1176 (c_X7_back κ h171) rfl (Nat.le_of_ble_eq_true rfl) ?_
        refine gx_aload_n Cx eL_law_1179 2 rfl ?_
        obtain ⟨y175, M176, h174, h⟩ := gx_bI_of h
        refine gx_callVI (ci := 8) Cx my_X8_back wlL_138 rfl gx_y57 (by decide) rfl eL_law_1180 (c_X8_back κ h174) rfl (Nat.le_of_ble_eq_true rfl) ?_
        refine gx_icmp_eq (tgt := 1605) Cx eL_law_1183 (by decide) h (fun h => ?_) (fun h => ?_)
        · exact B1605 _ _ h
        · refine gx_iconst (v := (0 : Int32)) Cx eL_law_1186 (by decide) ?_
          exact gx_rL h eL_law_1187 hR
      refine gx_case (30 : Int32) h (fun h => ?_) (fun n30 h => ?_)
      · refine gx_tsIn (tgt := 1188) Cx eL_law_33 (by decide) (by decide) rfl (by decide) ?_
        refine gx_aload_n Cx eL_law_1188 1 rfl ?_
        obtain ⟨y178, M179, h177, h⟩ := gx_bI_of h
        refine gx_callVI (ci := 7) Cx my_X7_undo wlL_139 rfl gx_y56 (by decide) rfl eL_law_1189 (c_X7_undo κ h177) rfl (Nat.le_of_ble_eq_true rfl) ?_
        refine gx_aload_n Cx eL_law_1192 2 rfl ?_
        obtain ⟨y181, M182, h180, h⟩ := gx_bI_of h
        refine gx_callVI (ci := 8) Cx my_X8_undo wlL_142 rfl gx_y57 (by decide) rfl eL_law_1193 (c_X8_undo κ h180) rfl (Nat.le_of_ble_eq_true rfl) ?_
        refine gx_icmp_eq (tgt := 1605) Cx eL_law_1196 (by decide) h (fun h => ?_) (fun h => ?_)
        · exact B1605 _ _ h
        · refine gx_iconst (v := (0 : Int32)) Cx eL_law_1199 (by decide) ?_
          exact gx_rL h eL_law_1200 hR
      refine gx_case (31 : Int32) h (fun h => ?_) (fun n31 h => ?_)
      · refine gx_tsIn (tgt := 1201) Cx eL_law_33 (by decide) (by decide) rfl (by decide) ?_
        refine gx_aload_n Cx eL_law_1201 1 rfl ?_
        obtain ⟨y184, M185, h183, h⟩ := gx_bI_of h
        refine gx_callVI (ci := 7) Cx my_X7_redo wlL_143 rfl gx_y56 (by decide) rfl eL_law_1202 (c_X7_redo κ h183) rfl (Nat.le_of_ble_eq_true rfl) ?_
        refine gx_aload_n Cx eL_law_1205 2 rfl ?_
        obtain ⟨y187, M188, h186, h⟩ := gx_bI_of h
        refine gx_callVI (ci := 8) Cx my_X8_redo wlL_146 rfl gx_y57 (by decide) rfl eL_law_1206 (c_X8_redo κ h186) rfl (Nat.le_of_ble_eq_true rfl) ?_
        refine gx_icmp_eq (tgt := 1605) Cx eL_law_1209 (by decide) h (fun h => ?_) (fun h => ?_)
        · exact B1605 _ _ h
        · refine gx_iconst (v := (0 : Int32)) Cx eL_law_1212 (by decide) ?_
          exact gx_rL h eL_law_1213 hR
      refine gx_case (32 : Int32) h (fun h => ?_) (fun n32 h => ?_)
      · refine gx_tsIn (tgt := 1214) Cx eL_law_33 (by decide) (by decide) rfl (by decide) ?_
        refine gx_aload_n Cx eL_law_1214 1 rfl ?_
        refine gx_aload_n Cx eL_law_1215 0 rfl ?_
        refine gx_iload_n Cx eL_law_1216 3 rfl ?_
        refine gx_iconst (v := (1 : Int32)) Cx eL_law_1217 (by decide) ?_
        refine gx_iadd Cx eL_law_1218 ?_
        refine gx_sld Cx hX eL_law_1219 h (fun h => ?_)
        obtain ⟨y190, M191, h189, h⟩ := gx_bI_of h
        refine gx_callVI (ci := 7) Cx my_X7_body wlL_147 rfl gx_y56 (by decide) rfl eL_law_1220 (c_X7_body κ h189) rfl (Nat.le_of_ble_eq_true rfl) ?_
        refine gx_aload_n Cx eL_law_1223 2 rfl ?_
        refine gx_aload_n Cx eL_law_1224 0 rfl ?_
        refine gx_iload_n Cx eL_law_1225 3 rfl ?_
        refine gx_iconst (v := (1 : Int32)) Cx eL_law_1226 (by decide) ?_
        refine gx_iadd Cx eL_law_1227 ?_
        refine gx_sld Cx hX eL_law_1228 h (fun h => ?_)
        obtain ⟨y193, M194, h192, h⟩ := gx_bI_of h
        refine gx_callVI (ci := 8) Cx my_X8_body wlL_150 rfl gx_y57 (by decide) rfl eL_law_1229 (c_X8_body κ h192) rfl (Nat.le_of_ble_eq_true rfl) ?_
        refine gx_icmp_eq (tgt := 1605) Cx eL_law_1232 (by decide) h (fun h => ?_) (fun h => ?_)
        · exact B1605 _ _ h
        · refine gx_iconst (v := (0 : Int32)) Cx eL_law_1235 (by decide) ?_
          exact gx_rL h eL_law_1236 hR
      refine gx_case (33 : Int32) h (fun h => ?_) (fun n33 h => ?_)
      · refine gx_tsIn (tgt := 1237) Cx eL_law_33 (by decide) (by decide) rfl (by decide) ?_
        refine gx_aload_n Cx eL_law_1237 1 rfl ?_
        refine gx_aload_n Cx eL_law_1238 0 rfl ?_
        refine gx_iload_n Cx eL_law_1239 3 rfl ?_
        refine gx_iconst (v := (1 : Int32)) Cx eL_law_1240 (by decide) ?_
        refine gx_iadd Cx eL_law_1241 ?_
        refine gx_sld Cx hX eL_law_1242 h (fun h => ?_)
        refine gx_aload_n Cx eL_law_1243 0 rfl ?_
        refine gx_iload_n Cx eL_law_1244 3 rfl ?_
        refine gx_iconst (v := (2 : Int32)) Cx eL_law_1245 (by decide) ?_
        refine gx_iadd Cx eL_law_1246 ?_
        refine gx_sld Cx hX eL_law_1247 h (fun h => ?_)
        refine gx_aload_n Cx eL_law_1248 0 rfl ?_
        refine gx_iload_n Cx eL_law_1249 3 rfl ?_
        refine gx_iconst (v := (3 : Int32)) Cx eL_law_1250 (by decide) ?_
        refine gx_iadd Cx eL_law_1251 ?_
        refine gx_sld Cx hX eL_law_1252 h (fun h => ?_)
        obtain ⟨y196, M197, h195, h⟩ := gx_bI_of h
        refine gx_callVI (ci := 7) Cx my_X7_act wlL_151 rfl gx_y56 (by decide) rfl eL_law_1253 (c_X7_act κ h195) rfl (Nat.le_of_ble_eq_true rfl) ?_
        refine gx_aload_n Cx eL_law_1256 2 rfl ?_
        refine gx_aload_n Cx eL_law_1257 0 rfl ?_
        refine gx_iload_n Cx eL_law_1258 3 rfl ?_
        refine gx_iconst (v := (1 : Int32)) Cx eL_law_1259 (by decide) ?_
        refine gx_iadd Cx eL_law_1260 ?_
        refine gx_sld Cx hX eL_law_1261 h (fun h => ?_)
        refine gx_aload_n Cx eL_law_1262 0 rfl ?_
        refine gx_iload_n Cx eL_law_1263 3 rfl ?_
        refine gx_iconst (v := (2 : Int32)) Cx eL_law_1264 (by decide) ?_
        refine gx_iadd Cx eL_law_1265 ?_
        refine gx_sld Cx hX eL_law_1266 h (fun h => ?_)
        refine gx_aload_n Cx eL_law_1267 0 rfl ?_
        refine gx_iload_n Cx eL_law_1268 3 rfl ?_
        refine gx_iconst (v := (3 : Int32)) Cx eL_law_1269 (by decide) ?_
        refine gx_iadd Cx eL_law_1270 ?_
        refine gx_sld Cx hX eL_law_1271 h (fun h => ?_)
        obtain ⟨y199, M200, h198, h⟩ := gx_bI_of h
        refine gx_callVI (ci := 8) Cx my_X8_act wlL_154 rfl gx_y57 (by decide) rfl eL_law_1272 (c_X8_act κ h198) rfl (Nat.le_of_ble_eq_true rfl) ?_
        refine gx_icmp_eq (tgt := 1605) Cx eL_law_1275 (by decide) h (fun h => ?_) (fun h => ?_)
        · exact B1605 _ _ h
        · refine gx_iconst (v := (0 : Int32)) Cx eL_law_1278 (by decide) ?_
          exact gx_rL h eL_law_1279 hR
      refine gx_case (34 : Int32) h (fun h => ?_) (fun n34 h => ?_)
      · refine gx_tsIn (tgt := 1280) Cx eL_law_33 (by decide) (by decide) rfl (by decide) ?_
        refine gx_aload_n Cx eL_law_1280 1 rfl ?_
        refine gx_aload_n Cx eL_law_1281 0 rfl ?_
        refine gx_iload_n Cx eL_law_1282 3 rfl ?_
        refine gx_iconst (v := (1 : Int32)) Cx eL_law_1283 (by decide) ?_
        refine gx_iadd Cx eL_law_1284 ?_
        refine gx_sld Cx hX eL_law_1285 h (fun h => ?_)
        obtain ⟨y202, h201, h⟩ := gx_bP_of h
        refine gx_callVI (ci := 7) Cx my_X7_trace wlL_155 rfl gx_y56 (by decide) rfl eL_law_1286 (c_X7_trace κ h201) rfl (Nat.le_of_ble_eq_true rfl) ?_
        refine gx_aload_n Cx eL_law_1289 2 rfl ?_
        refine gx_aload_n Cx eL_law_1290 0 rfl ?_
        refine gx_iload_n Cx eL_law_1291 3 rfl ?_
        refine gx_iconst (v := (1 : Int32)) Cx eL_law_1292 (by decide) ?_
        refine gx_iadd Cx eL_law_1293 ?_
        refine gx_sld Cx hX eL_law_1294 h (fun h => ?_)
        obtain ⟨y204, h203, h⟩ := gx_bP_of h
        refine gx_callVI (ci := 8) Cx my_X8_trace wlL_158 rfl gx_y57 (by decide) rfl eL_law_1295 (c_X8_trace κ h203) rfl (Nat.le_of_ble_eq_true rfl) ?_
        refine gx_icmp_eq (tgt := 1605) Cx eL_law_1298 (by decide) h (fun h => ?_) (fun h => ?_)
        · exact B1605 _ _ h
        · refine gx_iconst (v := (0 : Int32)) Cx eL_law_1301 (by decide) ?_
          exact gx_rL h eL_law_1302 hR
      refine gx_case (35 : Int32) h (fun h => ?_) (fun n35 h => ?_)
      · refine gx_tsIn (tgt := 1303) Cx eL_law_33 (by decide) (by decide) rfl (by decide) ?_
        refine gx_aload_n Cx eL_law_1303 1 rfl ?_
        refine gx_aload_n Cx eL_law_1304 0 rfl ?_
        refine gx_iload_n Cx eL_law_1305 3 rfl ?_
        refine gx_iconst (v := (1 : Int32)) Cx eL_law_1306 (by decide) ?_
        refine gx_iadd Cx eL_law_1307 ?_
        refine gx_sld Cx hX eL_law_1308 h (fun h => ?_)
        refine gx_aload_n Cx eL_law_1309 0 rfl ?_
        refine gx_iload_n Cx eL_law_1310 3 rfl ?_
        refine gx_iconst (v := (2 : Int32)) Cx eL_law_1311 (by decide) ?_
        refine gx_iadd Cx eL_law_1312 ?_
        refine gx_sld Cx hX eL_law_1313 h (fun h => ?_)
        obtain ⟨y206, M207, h205, h⟩ := gx_bI_of h
        refine gx_callVI (ci := 7) Cx my_X7_keep wlL_159 rfl gx_y56 (by decide) rfl eL_law_1314 (c_X7_keep κ h205) rfl (Nat.le_of_ble_eq_true rfl) ?_
        refine gx_aload_n Cx eL_law_1317 2 rfl ?_
        refine gx_aload_n Cx eL_law_1318 0 rfl ?_
        refine gx_iload_n Cx eL_law_1319 3 rfl ?_
        refine gx_iconst (v := (1 : Int32)) Cx eL_law_1320 (by decide) ?_
        refine gx_iadd Cx eL_law_1321 ?_
        refine gx_sld Cx hX eL_law_1322 h (fun h => ?_)
        refine gx_aload_n Cx eL_law_1323 0 rfl ?_
        refine gx_iload_n Cx eL_law_1324 3 rfl ?_
        refine gx_iconst (v := (2 : Int32)) Cx eL_law_1325 (by decide) ?_
        refine gx_iadd Cx eL_law_1326 ?_
        refine gx_sld Cx hX eL_law_1327 h (fun h => ?_)
        obtain ⟨y209, M210, h208, h⟩ := gx_bI_of h
        refine gx_callVI (ci := 8) Cx my_X8_keep wlL_162 rfl gx_y57 (by decide) rfl eL_law_1328 (c_X8_keep κ h208) rfl (Nat.le_of_ble_eq_true rfl) ?_
        refine gx_icmp_eq (tgt := 1605) Cx eL_law_1331 (by decide) h (fun h => ?_) (fun h => ?_)
        · exact B1605 _ _ h
        · refine gx_iconst (v := (0 : Int32)) Cx eL_law_1334 (by decide) ?_
          exact gx_rL h eL_law_1335 hR
      refine gx_case (36 : Int32) h (fun h => ?_) (fun n36 h => ?_)
      · refine gx_tsIn (tgt := 1336) Cx eL_law_33 (by decide) (by decide) rfl (by decide) ?_
        refine gx_aload_n Cx eL_law_1336 1 rfl ?_
        refine gx_aload_n Cx eL_law_1337 0 rfl ?_
        refine gx_iload_n Cx eL_law_1338 3 rfl ?_
        refine gx_iconst (v := (1 : Int32)) Cx eL_law_1339 (by decide) ?_
        refine gx_iadd Cx eL_law_1340 ?_
        refine gx_sld Cx hX eL_law_1341 h (fun h => ?_)
        refine gx_aload_n Cx eL_law_1342 0 rfl ?_
        refine gx_iload_n Cx eL_law_1343 3 rfl ?_
        refine gx_iconst (v := (2 : Int32)) Cx eL_law_1344 (by decide) ?_
        refine gx_iadd Cx eL_law_1345 ?_
        refine gx_sld Cx hX eL_law_1346 h (fun h => ?_)
        refine gx_aload_n Cx eL_law_1347 0 rfl ?_
        refine gx_iload_n Cx eL_law_1348 3 rfl ?_
        refine gx_iconst (v := (3 : Int32)) Cx eL_law_1349 (by decide) ?_
        refine gx_iadd Cx eL_law_1350 ?_
        refine gx_sld Cx hX eL_law_1351 h (fun h => ?_)
        obtain ⟨y212, M213, h211, h⟩ := gx_bI_of h
        refine gx_callVI (ci := 7) Cx my_X7_row wlL_163 rfl gx_y56 (by decide) rfl eL_law_1352 (c_X7_row κ h211) rfl (Nat.le_of_ble_eq_true rfl) ?_
        refine gx_aload_n Cx eL_law_1355 2 rfl ?_
        refine gx_aload_n Cx eL_law_1356 0 rfl ?_
        refine gx_iload_n Cx eL_law_1357 3 rfl ?_
        refine gx_iconst (v := (1 : Int32)) Cx eL_law_1358 (by decide) ?_
        refine gx_iadd Cx eL_law_1359 ?_
        refine gx_sld Cx hX eL_law_1360 h (fun h => ?_)
        refine gx_aload_n Cx eL_law_1361 0 rfl ?_
        refine gx_iload_n Cx eL_law_1362 3 rfl ?_
        refine gx_iconst (v := (2 : Int32)) Cx eL_law_1363 (by decide) ?_
        refine gx_iadd Cx eL_law_1364 ?_
        refine gx_sld Cx hX eL_law_1365 h (fun h => ?_)
        refine gx_aload_n Cx eL_law_1366 0 rfl ?_
        refine gx_iload_n Cx eL_law_1367 3 rfl ?_
        refine gx_iconst (v := (3 : Int32)) Cx eL_law_1368 (by decide) ?_
        refine gx_iadd Cx eL_law_1369 ?_
        refine gx_sld Cx hX eL_law_1370 h (fun h => ?_)
        obtain ⟨y215, M216, h214, h⟩ := gx_bI_of h
        refine gx_callVI (ci := 8) Cx my_X8_row wlL_166 rfl gx_y57 (by decide) rfl eL_law_1371 (c_X8_row κ h214) rfl (Nat.le_of_ble_eq_true rfl) ?_
        refine gx_icmp_eq (tgt := 1605) Cx eL_law_1374 (by decide) h (fun h => ?_) (fun h => ?_)
        · exact B1605 _ _ h
        · refine gx_iconst (v := (0 : Int32)) Cx eL_law_1377 (by decide) ?_
          exact gx_rL h eL_law_1378 hR
      refine gx_case (37 : Int32) h (fun h => ?_) (fun n37 h => ?_)
      · refine gx_tsIn (tgt := 1379) Cx eL_law_33 (by decide) (by decide) rfl (by decide) ?_
        refine gx_aload_n Cx eL_law_1379 1 rfl ?_
        refine gx_aload_n Cx eL_law_1380 0 rfl ?_
        refine gx_iload_n Cx eL_law_1381 3 rfl ?_
        refine gx_iconst (v := (1 : Int32)) Cx eL_law_1382 (by decide) ?_
        refine gx_iadd Cx eL_law_1383 ?_
        refine gx_sld Cx hX eL_law_1384 h (fun h => ?_)
        refine gx_aload_n Cx eL_law_1385 0 rfl ?_
        refine gx_iload_n Cx eL_law_1386 3 rfl ?_
        refine gx_iconst (v := (2 : Int32)) Cx eL_law_1387 (by decide) ?_
        refine gx_iadd Cx eL_law_1388 ?_
        refine gx_sld Cx hX eL_law_1389 h (fun h => ?_)
        refine gx_aload_n Cx eL_law_1390 0 rfl ?_
        refine gx_iload_n Cx eL_law_1391 3 rfl ?_
        refine gx_iconst (v := (3 : Int32)) Cx eL_law_1392 (by decide) ?_
        refine gx_iadd Cx eL_law_1393 ?_
        refine gx_sld Cx hX eL_law_1394 h (fun h => ?_)
        refine gx_i2l Cx eL_law_1395 ?_
        refine gx_bipush (v := (32 : Int32)) Cx eL_law_1396 (by decide) ?_
        refine gx_lshl Cx eL_law_1398 ?_
        refine gx_aload_n Cx eL_law_1399 0 rfl ?_
        refine gx_iload_n Cx eL_law_1400 3 rfl ?_
        refine gx_iconst (v := (4 : Int32)) Cx eL_law_1401 (by decide) ?_
        refine gx_iadd Cx eL_law_1402 ?_
        refine gx_sld Cx hX eL_law_1403 h (fun h => ?_)
        refine gx_i2l Cx eL_law_1404 ?_
        refine gx_ldc2_w Cx eL_law_1405 wkL_167 ?_
        refine gx_land Cx eL_law_1408 ?_
        refine gx_lor Cx eL_law_1409 ?_
        obtain ⟨y218, M219, h217, h⟩ := gx_bI_of h
        refine gx_callVI (ci := 7) Cx my_X7_put wlL_169 rfl gx_y56 (by decide) rfl eL_law_1410 (c_X7_put κ h217) rfl (Nat.le_of_ble_eq_true rfl) ?_
        refine gx_aload_n Cx eL_law_1413 2 rfl ?_
        refine gx_aload_n Cx eL_law_1414 0 rfl ?_
        refine gx_iload_n Cx eL_law_1415 3 rfl ?_
        refine gx_iconst (v := (1 : Int32)) Cx eL_law_1416 (by decide) ?_
        refine gx_iadd Cx eL_law_1417 ?_
        refine gx_sld Cx hX eL_law_1418 h (fun h => ?_)
        refine gx_aload_n Cx eL_law_1419 0 rfl ?_
        refine gx_iload_n Cx eL_law_1420 3 rfl ?_
        refine gx_iconst (v := (2 : Int32)) Cx eL_law_1421 (by decide) ?_
        refine gx_iadd Cx eL_law_1422 ?_
        refine gx_sld Cx hX eL_law_1423 h (fun h => ?_)
        refine gx_aload_n Cx eL_law_1424 0 rfl ?_
        refine gx_iload_n Cx eL_law_1425 3 rfl ?_
        refine gx_iconst (v := (3 : Int32)) Cx eL_law_1426 (by decide) ?_
        refine gx_iadd Cx eL_law_1427 ?_
        refine gx_sld Cx hX eL_law_1428 h (fun h => ?_)
        refine gx_i2l Cx eL_law_1429 ?_
        refine gx_bipush (v := (32 : Int32)) Cx eL_law_1430 (by decide) ?_
        refine gx_lshl Cx eL_law_1432 ?_
        refine gx_aload_n Cx eL_law_1433 0 rfl ?_
        refine gx_iload_n Cx eL_law_1434 3 rfl ?_
        refine gx_iconst (v := (4 : Int32)) Cx eL_law_1435 (by decide) ?_
        refine gx_iadd Cx eL_law_1436 ?_
        refine gx_sld Cx hX eL_law_1437 h (fun h => ?_)
        refine gx_i2l Cx eL_law_1438 ?_
        refine gx_ldc2_w Cx eL_law_1439 wkL_167 ?_
        refine gx_land Cx eL_law_1442 ?_
        refine gx_lor Cx eL_law_1443 ?_
        obtain ⟨y221, M222, h220, h⟩ := gx_bI_of h
        refine gx_callVI (ci := 8) Cx my_X8_put wlL_173 rfl gx_y57 (by decide) rfl eL_law_1444 (c_X8_put κ h220) rfl (Nat.le_of_ble_eq_true rfl) ?_
        refine gx_icmp_eq (tgt := 1605) Cx eL_law_1447 (by decide) h (fun h => ?_) (fun h => ?_)
        · exact B1605 _ _ h
        · refine gx_iconst (v := (0 : Int32)) Cx eL_law_1450 (by decide) ?_
          exact gx_rL h eL_law_1451 hR
      refine gx_case (38 : Int32) h (fun h => ?_) (fun n38 h => ?_)
      · refine gx_tsIn (tgt := 1452) Cx eL_law_33 (by decide) (by decide) rfl (by decide) ?_
        refine gx_aload_n Cx eL_law_1452 1 rfl ?_
        refine gx_aload_n Cx eL_law_1453 0 rfl ?_
        refine gx_iload_n Cx eL_law_1454 3 rfl ?_
        refine gx_iconst (v := (1 : Int32)) Cx eL_law_1455 (by decide) ?_
        refine gx_iadd Cx eL_law_1456 ?_
        refine gx_sld Cx hX eL_law_1457 h (fun h => ?_)
        refine gx_aload_n Cx eL_law_1458 0 rfl ?_
        refine gx_iload_n Cx eL_law_1459 3 rfl ?_
        refine gx_iconst (v := (2 : Int32)) Cx eL_law_1460 (by decide) ?_
        refine gx_iadd Cx eL_law_1461 ?_
        refine gx_sld Cx hX eL_law_1462 h (fun h => ?_)
        obtain ⟨y224, h223, h⟩ := gx_bP_of h
        refine gx_callVJ (ci := 7) Cx my_X7_element wlL_174 rfl gx_y56 (by decide) rfl eL_law_1463 (c_X7_element κ h223) rfl (Nat.le_of_ble_eq_true rfl) ?_
        refine gx_aload_n Cx eL_law_1466 2 rfl ?_
        refine gx_aload_n Cx eL_law_1467 0 rfl ?_
        refine gx_iload_n Cx eL_law_1468 3 rfl ?_
        refine gx_iconst (v := (1 : Int32)) Cx eL_law_1469 (by decide) ?_
        refine gx_iadd Cx eL_law_1470 ?_
        refine gx_sld Cx hX eL_law_1471 h (fun h => ?_)
        refine gx_aload_n Cx eL_law_1472 0 rfl ?_
        refine gx_iload_n Cx eL_law_1473 3 rfl ?_
        refine gx_iconst (v := (2 : Int32)) Cx eL_law_1474 (by decide) ?_
        refine gx_iadd Cx eL_law_1475 ?_
        refine gx_sld Cx hX eL_law_1476 h (fun h => ?_)
        obtain ⟨y226, h225, h⟩ := gx_bP_of h
        refine gx_callVJ (ci := 8) Cx my_X8_element wlL_178 rfl gx_y57 (by decide) rfl eL_law_1477 (c_X8_element κ h225) rfl (Nat.le_of_ble_eq_true rfl) ?_
        refine gx_lcmp Cx eL_law_1480 ?_
        refine gx_if_eq (tgt := 1605) Cx eL_law_1481 (by decide) h (fun h => ?_) (fun h => ?_)
        · exact B1605 _ _ h
        · refine gx_iconst (v := (0 : Int32)) Cx eL_law_1484 (by decide) ?_
          exact gx_rL h eL_law_1485 hR
      refine gx_case (39 : Int32) h (fun h => ?_) (fun n39 h => ?_)
      · refine gx_tsIn (tgt := 1486) Cx eL_law_33 (by decide) (by decide) rfl (by decide) ?_
        refine gx_aload_n Cx eL_law_1486 1 rfl ?_
        refine gx_aload_n Cx eL_law_1487 0 rfl ?_
        refine gx_iload_n Cx eL_law_1488 3 rfl ?_
        refine gx_iconst (v := (1 : Int32)) Cx eL_law_1489 (by decide) ?_
        refine gx_iadd Cx eL_law_1490 ?_
        refine gx_sld Cx hX eL_law_1491 h (fun h => ?_)
        refine gx_aload_n Cx eL_law_1492 0 rfl ?_
        refine gx_iload_n Cx eL_law_1493 3 rfl ?_
        refine gx_iconst (v := (2 : Int32)) Cx eL_law_1494 (by decide) ?_
        refine gx_iadd Cx eL_law_1495 ?_
        refine gx_sld Cx hX eL_law_1496 h (fun h => ?_)
        refine gx_aload_n Cx eL_law_1497 0 rfl ?_
        refine gx_iload_n Cx eL_law_1498 3 rfl ?_
        refine gx_iconst (v := (3 : Int32)) Cx eL_law_1499 (by decide) ?_
        refine gx_iadd Cx eL_law_1500 ?_
        refine gx_sld Cx hX eL_law_1501 h (fun h => ?_)
        refine gx_aload_n Cx eL_law_1502 0 rfl ?_
        refine gx_iload_n Cx eL_law_1503 3 rfl ?_
        refine gx_iconst (v := (4 : Int32)) Cx eL_law_1504 (by decide) ?_
        refine gx_iadd Cx eL_law_1505 ?_
        refine gx_sld Cx hX eL_law_1506 h (fun h => ?_)
        refine gx_aload_n Cx eL_law_1507 0 rfl ?_
        refine gx_iload_n Cx eL_law_1508 3 rfl ?_
        refine gx_iconst (v := (5 : Int32)) Cx eL_law_1509 (by decide) ?_
        refine gx_iadd Cx eL_law_1510 ?_
        refine gx_sld Cx hX eL_law_1511 h (fun h => ?_)
        obtain ⟨y228, M229, h227, h⟩ := gx_bI_of h
        refine gx_callVI (ci := 7) Cx my_X7_shift wlL_179 rfl gx_y56 (by decide) rfl eL_law_1512 (c_X7_shift κ h227) rfl (Nat.le_of_ble_eq_true rfl) ?_
        refine gx_aload_n Cx eL_law_1515 2 rfl ?_
        refine gx_aload_n Cx eL_law_1516 0 rfl ?_
        refine gx_iload_n Cx eL_law_1517 3 rfl ?_
        refine gx_iconst (v := (1 : Int32)) Cx eL_law_1518 (by decide) ?_
        refine gx_iadd Cx eL_law_1519 ?_
        refine gx_sld Cx hX eL_law_1520 h (fun h => ?_)
        refine gx_aload_n Cx eL_law_1521 0 rfl ?_
        refine gx_iload_n Cx eL_law_1522 3 rfl ?_
        refine gx_iconst (v := (2 : Int32)) Cx eL_law_1523 (by decide) ?_
        refine gx_iadd Cx eL_law_1524 ?_
        refine gx_sld Cx hX eL_law_1525 h (fun h => ?_)
        refine gx_aload_n Cx eL_law_1526 0 rfl ?_
        refine gx_iload_n Cx eL_law_1527 3 rfl ?_
        refine gx_iconst (v := (3 : Int32)) Cx eL_law_1528 (by decide) ?_
        refine gx_iadd Cx eL_law_1529 ?_
        refine gx_sld Cx hX eL_law_1530 h (fun h => ?_)
        refine gx_aload_n Cx eL_law_1531 0 rfl ?_
        refine gx_iload_n Cx eL_law_1532 3 rfl ?_
        refine gx_iconst (v := (4 : Int32)) Cx eL_law_1533 (by decide) ?_
        refine gx_iadd Cx eL_law_1534 ?_
        refine gx_sld Cx hX eL_law_1535 h (fun h => ?_)
        refine gx_aload_n Cx eL_law_1536 0 rfl ?_
        refine gx_iload_n Cx eL_law_1537 3 rfl ?_
        refine gx_iconst (v := (5 : Int32)) Cx eL_law_1538 (by decide) ?_
        refine gx_iadd Cx eL_law_1539 ?_
        refine gx_sld Cx hX eL_law_1540 h (fun h => ?_)
        obtain ⟨y231, M232, h230, h⟩ := gx_bI_of h
        refine gx_callVI (ci := 8) Cx my_X8_shift wlL_183 rfl gx_y57 (by decide) rfl eL_law_1541 (c_X8_shift κ h230) rfl (Nat.le_of_ble_eq_true rfl) ?_
        refine gx_icmp_eq (tgt := 1605) Cx eL_law_1544 (by decide) h (fun h => ?_) (fun h => ?_)
        · exact B1605 _ _ h
        · refine gx_iconst (v := (0 : Int32)) Cx eL_law_1547 (by decide) ?_
          exact gx_rL h eL_law_1548 hR
      refine gx_case (40 : Int32) h (fun h => ?_) (fun n40 h => ?_)
      · refine gx_tsIn (tgt := 1549) Cx eL_law_33 (by decide) (by decide) rfl (by decide) ?_
        refine gx_aload_n Cx eL_law_1549 1 rfl ?_
        refine gx_aload_n Cx eL_law_1550 0 rfl ?_
        refine gx_iload_n Cx eL_law_1551 3 rfl ?_
        refine gx_iconst (v := (1 : Int32)) Cx eL_law_1552 (by decide) ?_
        refine gx_iadd Cx eL_law_1553 ?_
        refine gx_sld Cx hX eL_law_1554 h (fun h => ?_)
        refine gx_aload_n Cx eL_law_1555 0 rfl ?_
        refine gx_iload_n Cx eL_law_1556 3 rfl ?_
        refine gx_iconst (v := (2 : Int32)) Cx eL_law_1557 (by decide) ?_
        refine gx_iadd Cx eL_law_1558 ?_
        refine gx_sld Cx hX eL_law_1559 h (fun h => ?_)
        obtain ⟨y234, h233, h⟩ := gx_bP_of h
        refine gx_callVI (ci := 7) Cx my_X7_taken wlL_184 rfl gx_y56 (by decide) rfl eL_law_1560 (c_X7_taken κ h233) rfl (Nat.le_of_ble_eq_true rfl) ?_
        refine gx_aload_n Cx eL_law_1563 2 rfl ?_
        refine gx_aload_n Cx eL_law_1564 0 rfl ?_
        refine gx_iload_n Cx eL_law_1565 3 rfl ?_
        refine gx_iconst (v := (1 : Int32)) Cx eL_law_1566 (by decide) ?_
        refine gx_iadd Cx eL_law_1567 ?_
        refine gx_sld Cx hX eL_law_1568 h (fun h => ?_)
        refine gx_aload_n Cx eL_law_1569 0 rfl ?_
        refine gx_iload_n Cx eL_law_1570 3 rfl ?_
        refine gx_iconst (v := (2 : Int32)) Cx eL_law_1571 (by decide) ?_
        refine gx_iadd Cx eL_law_1572 ?_
        refine gx_sld Cx hX eL_law_1573 h (fun h => ?_)
        obtain ⟨y236, h235, h⟩ := gx_bP_of h
        refine gx_callVI (ci := 8) Cx my_X8_taken wlL_187 rfl gx_y57 (by decide) rfl eL_law_1574 (c_X8_taken κ h235) rfl (Nat.le_of_ble_eq_true rfl) ?_
        refine gx_icmp_eq (tgt := 1605) Cx eL_law_1577 (by decide) h (fun h => ?_) (fun h => ?_)
        · exact B1605 _ _ h
        · refine gx_iconst (v := (0 : Int32)) Cx eL_law_1580 (by decide) ?_
          exact gx_rL h eL_law_1581 hR
      refine gx_case (41 : Int32) h (fun h => ?_) (fun n41 h => ?_)
      · refine gx_tsIn (tgt := 1582) Cx eL_law_33 (by decide) (by decide) rfl (by decide) ?_
        refine gx_aload_n Cx eL_law_1582 1 rfl ?_
        refine gx_aload_n Cx eL_law_1583 0 rfl ?_
        refine gx_iload_n Cx eL_law_1584 3 rfl ?_
        refine gx_iconst (v := (1 : Int32)) Cx eL_law_1585 (by decide) ?_
        refine gx_iadd Cx eL_law_1586 ?_
        refine gx_sld Cx hX eL_law_1587 h (fun h => ?_)
        obtain ⟨y238, h237, h⟩ := gx_bP_of h
        refine gx_callVI (ci := 7) Cx my_X7_count wlL_188 rfl gx_y56 (by decide) rfl eL_law_1588 (c_X7_count κ h237) rfl (Nat.le_of_ble_eq_true rfl) ?_
        refine gx_aload_n Cx eL_law_1591 2 rfl ?_
        refine gx_aload_n Cx eL_law_1592 0 rfl ?_
        refine gx_iload_n Cx eL_law_1593 3 rfl ?_
        refine gx_iconst (v := (1 : Int32)) Cx eL_law_1594 (by decide) ?_
        refine gx_iadd Cx eL_law_1595 ?_
        refine gx_sld Cx hX eL_law_1596 h (fun h => ?_)
        obtain ⟨y240, h239, h⟩ := gx_bP_of h
        refine gx_callVI (ci := 8) Cx my_X8_count wlL_191 rfl gx_y57 (by decide) rfl eL_law_1597 (c_X8_count κ h239) rfl (Nat.le_of_ble_eq_true rfl) ?_
        refine gx_icmp_eq (tgt := 1605) Cx eL_law_1600 (by decide) h (fun h => ?_) (fun h => ?_)
        · exact B1605 _ _ h
        · refine gx_iconst (v := (0 : Int32)) Cx eL_law_1603 (by decide) ?_
          exact gx_rL h eL_law_1604 hR
      refine gx_tsOut (tgt := 1605) Cx eL_law_33 (by have zn0 := gx_neT (k := 0) n0 (by decide); have zn1 := gx_neT (k := 1) n1 (by decide); have zn2 := gx_neT (k := 2) n2 (by decide); have zn3 := gx_neT (k := 3) n3 (by decide); have zn4 := gx_neT (k := 4) n4 (by decide); have zn5 := gx_neT (k := 5) n5 (by decide); have zn6 := gx_neT (k := 6) n6 (by decide); have zn7 := gx_neT (k := 7) n7 (by decide); have zn8 := gx_neT (k := 8) n8 (by decide); have zn9 := gx_neT (k := 9) n9 (by decide); have zn10 := gx_neT (k := 10) n10 (by decide); have zn11 := gx_neT (k := 11) n11 (by decide); have zn12 := gx_neT (k := 12) n12 (by decide); have zn13 := gx_neT (k := 13) n13 (by decide); have zn14 := gx_neT (k := 14) n14 (by decide); have zn15 := gx_neT (k := 15) n15 (by decide); have zn16 := gx_neT (k := 16) n16 (by decide); have zn17 := gx_neT (k := 17) n17 (by decide); have zn18 := gx_neT (k := 18) n18 (by decide); have zn19 := gx_neT (k := 19) n19 (by decide); have zn20 := gx_neT (k := 20) n20 (by decide); have zn21 := gx_neT (k := 21) n21 (by decide); have zn22 := gx_neT (k := 22) n22 (by decide); have zn23 := gx_neT (k := 23) n23 (by decide); have zn24 := gx_neT (k := 24) n24 (by decide); have zn25 := gx_neT (k := 25) n25 (by decide); have zn26 := gx_neT (k := 26) n26 (by decide); have zn27 := gx_neT (k := 27) n27 (by decide); have zn28 := gx_neT (k := 28) n28 (by decide); have zn29 := gx_neT (k := 29) n29 (by decide); have zn30 := gx_neT (k := 30) n30 (by decide); have zn31 := gx_neT (k := 31) n31 (by decide); have zn32 := gx_neT (k := 32) n32 (by decide); have zn33 := gx_neT (k := 33) n33 (by decide); have zn34 := gx_neT (k := 34) n34 (by decide); have zn35 := gx_neT (k := 35) n35 (by decide); have zn36 := gx_neT (k := 36) n36 (by decide); have zn37 := gx_neT (k := 37) n37 (by decide); have zn38 := gx_neT (k := 38) n38 (by decide); have zn39 := gx_neT (k := 39) n39 (by decide); have zn40 := gx_neT (k := 40) n40 (by decide); have zn41 := gx_neT (k := 41) n41 (by decide); omega) (by decide) ?_
      exact B1605 _ _ h
  have L18 : ∀  (n : Nat) (v3 : Int32) (M : gx_Mem), f_L_law_l18 L xs n v3 M = some (1 : Int32) → gx_G κ Γ 18 [(0, .ref b), (1, .ref (gx_a κ 56)), (2, .ref (gx_a κ 57)), (3, .int v3)] [] M := by
    intro n
    induction n with
    | zero => intro v3 M h; exact gx_loop_0 h
    | succ n ih => intro v3 M h; exact K18 (fun v3 M => f_L_law_l18 L xs n v3 M) ih v3 M h
  exact L18 n v3 M h0

def f_X1_forgetOldest (b : Nat) (M : gx_Mem) : Option gx_Mem := gx_gd (gx_cpk (1 : Int32) (0 : Int32) (39 : Int32) 40 40) (gx_let (gx_cI M b (1 : Int32).toNatClampNeg b (0 : Int32).toNatClampNeg (39 : Int32).toNatClampNeg) (fun M1 => some M1))
def f_X1_add_b43   (v1 : Int32) (v2 : Int32) (v3 : Int32) (v4 : Int32) (M : gx_Mem) : Option gx_Mem := gx_gd (gx_in (M.1 35 4) 40) (gx_let (gx_sI M 36 (M.1 35 4).toNatClampNeg v1) (fun M10 => gx_gd (gx_in (M10.1 35 4) 40) (gx_let (gx_sI M10 37 (M10.1 35 4).toNatClampNeg v2) (fun M11 => gx_gd (gx_in (M11.1 35 4) 40) (gx_let (gx_sI M11 38 (M11.1 35 4).toNatClampNeg v3) (fun M12 => gx_gd (gx_in (M12.1 35 4) 40) (gx_let (gx_sI M12 39 (M12.1 35 4).toNatClampNeg v4) (fun M13 => gx_let (gx_sI M13 35 4 ((M13.1 35 4) + (1 : Int32))) (fun M14 => gx_let (gx_sI M14 35 5 (0 : Int32)) (fun M15 => some M15))))))))))
def f_X1_add (v1 : Int32) (v2 : Int32) (v3 : Int32) (v4 : Int32) (M : gx_Mem) : Option gx_Mem := (if (M.1 35 4) < (40 : Int32) then f_X1_add_b43 v1 v2 v3 v4 M else gx_bP (f_X1_forgetOldest 36 M) (fun M2 => gx_bP (f_X1_forgetOldest 37 M2) (fun M4 => gx_bP (f_X1_forgetOldest 38 M4) (fun M6 => gx_bP (f_X1_forgetOldest 39 M6) (fun M8 => gx_let (gx_sI M8 35 4 (39 : Int32)) (fun M9 => f_X1_add_b43 v1 v2 v3 v4 M9))))))
def f_X1_stepOn (M : gx_Mem) : Option (Int32 × gx_Mem) := gx_let (gx_sI M 35 4 ((M.1 35 4) + (1 : Int32))) (fun M1 => gx_let (gx_sI M1 35 5 ((M1.1 35 5) - (1 : Int32))) (fun M2 => some (((M2.1 35 4) - (1 : Int32)), M2)))
def f_X1_stepBack (M : gx_Mem) : Option (Int32 × gx_Mem) := gx_let (gx_sI M 35 4 ((M.1 35 4) - (1 : Int32))) (fun M1 => gx_let (gx_sI M1 35 5 ((M1.1 35 5) + (1 : Int32))) (fun M2 => some ((M2.1 35 4), M2)))
set_option maxHeartbeats 4000000 in
set_option maxRecDepth 100000 in
theorem c_X1_forgetOldest (κ : gx_K) {b : Nat} (hb : gx_lay[b]? = some (.inr (0, 40, []))) {M : gx_Mem} {M9 : gx_Mem} (hf : f_X1_forgetOldest b M = some M9) : gx_CV κ yX1_forgetOldest cX1_forgetOldest 1 none 1 [.ref (gx_a κ b)] M M9 := by
  refine gx_enterV (d := 1) my_X1_forgetOldest.1 (by decide) (Nat.le_of_ble_eq_true rfl) (fun Γ Cx hR => ?_)
  change gx_G κ Γ 0 [(0, .ref (gx_a κ b))] [] M
  have h := hf
  refine gx_aload_n Cx eX1_forgetOldest_0 0 rfl ?_
  refine gx_iconst (v := (1 : Int32)) Cx eX1_forgetOldest_1 (by decide) ?_
  refine gx_aload_n Cx eX1_forgetOldest_2 0 rfl ?_
  refine gx_iconst (v := (0 : Int32)) Cx eX1_forgetOldest_3 (by decide) ?_
  refine gx_bipush (v := (39 : Int32)) Cx eX1_forgetOldest_4 (by decide) ?_
  refine gx_copyI Cx wlX1_35 hb hb (Nat.le_of_ble_eq_true rfl) (Nat.le_of_ble_eq_true rfl) eX1_forgetOldest_6 h (fun M1 h => ?_)
  exact gx_rV h eX1_forgetOldest_9 hR
set_option maxHeartbeats 4000000 in
set_option maxRecDepth 100000 in
theorem c_X1_add (κ : gx_K) {v1 : Int32} {v2 : Int32} {v3 : Int32} {v4 : Int32} {M : gx_Mem} {M9 : gx_Mem} (hf : f_X1_add v1 v2 v3 v4 M = some M9) : gx_CV κ yX1_add cX1_add 5 none 2 [.ref (gx_a κ 35), .int v1, .int v2, .int v3, .int v4] M M9 := by
  refine gx_enterV (d := 2) my_X1_add.1 (by decide) (Nat.le_of_ble_eq_true rfl) (fun Γ Cx hR => ?_)
  change gx_G κ Γ 0 [(0, .ref (gx_a κ 35)), (1, .int v1), (2, .int v2), (3, .int v3), (4, .int v4)] [] M
  have B43 : ∀  (M : gx_Mem), f_X1_add_b43 v1 v2 v3 v4 M = some M9 → gx_G κ Γ 43 [(0, .ref (gx_a κ 35)), (1, .int v1), (2, .int v2), (3, .int v3), (4, .int v4)] [] M := by
    intro M h
    refine gx_aload_n Cx eX1_add_43 0 rfl ?_
    refine gfX1_9 Cx eX1_add_44 ?_
    refine gx_aload_n Cx eX1_add_47 0 rfl ?_
    refine gfX1_24 Cx eX1_add_48 ?_
    refine gx_iload_n Cx eX1_add_51 1 rfl ?_
    refine gx_iast Cx gx_y36 eX1_add_52 h (fun M10 h => ?_)
    refine gx_aload_n Cx eX1_add_53 0 rfl ?_
    refine gfX1_15 Cx eX1_add_54 ?_
    refine gx_aload_n Cx eX1_add_57 0 rfl ?_
    refine gfX1_24 Cx eX1_add_58 ?_
    refine gx_iload_n Cx eX1_add_61 2 rfl ?_
    refine gx_iast Cx gx_y37 eX1_add_62 h (fun M11 h => ?_)
    refine gx_aload_n Cx eX1_add_63 0 rfl ?_
    refine gfX1_18 Cx eX1_add_64 ?_
    refine gx_aload_n Cx eX1_add_67 0 rfl ?_
    refine gfX1_24 Cx eX1_add_68 ?_
    refine gx_iload_n Cx eX1_add_71 3 rfl ?_
    refine gx_iast Cx gx_y38 eX1_add_72 h (fun M12 h => ?_)
    refine gx_aload_n Cx eX1_add_73 0 rfl ?_
    refine gfX1_21 Cx eX1_add_74 ?_
    refine gx_aload_n Cx eX1_add_77 0 rfl ?_
    refine gfX1_24 Cx eX1_add_78 ?_
    refine gx_iload Cx eX1_add_81 4 rfl ?_
    refine gx_iast Cx gx_y39 eX1_add_83 h (fun M13 h => ?_)
    refine gx_aload_n Cx eX1_add_84 0 rfl ?_
    refine gx_dup Cx eX1_add_85 rfl ?_
    refine gfX1_24 Cx eX1_add_86 ?_
    refine gx_iconst (v := (1 : Int32)) Cx eX1_add_89 (by decide) ?_
    refine gx_iadd Cx eX1_add_90 ?_
    refine pfX1_24 Cx eX1_add_91 h (fun M14 h => ?_)
    refine gx_aload_n Cx eX1_add_94 0 rfl ?_
    refine gx_iconst (v := (0 : Int32)) Cx eX1_add_95 (by decide) ?_
    refine pfX1_28 Cx eX1_add_96 h (fun M15 h => ?_)
    exact gx_rV h eX1_add_99 hR
  have h := hf
  refine gx_aload_n Cx eX1_add_0 0 rfl ?_
  refine gfX1_24 Cx eX1_add_1 ?_
  refine gx_bipush (v := (40 : Int32)) Cx eX1_add_4 (by decide) ?_
  refine gx_icmp_lt (tgt := 43) Cx eX1_add_6 (by decide) h (fun h => ?_) (fun h => ?_)
  · exact B43 _ h
  · refine gx_aload_n Cx eX1_add_9 0 rfl ?_
    refine gfX1_9 Cx eX1_add_10 ?_
    obtain ⟨M2, h1, h⟩ := gx_bP_of h
    refine gx_callSV Cx my_X1_forgetOldest wlX1_31 (by decide) rfl eX1_add_13 (c_X1_forgetOldest κ gx_y36 h1) rfl (Nat.le_of_ble_eq_true rfl) ?_
    refine gx_aload_n Cx eX1_add_16 0 rfl ?_
    refine gfX1_15 Cx eX1_add_17 ?_
    obtain ⟨M4, h3, h⟩ := gx_bP_of h
    refine gx_callSV Cx my_X1_forgetOldest wlX1_31 (by decide) rfl eX1_add_20 (c_X1_forgetOldest κ gx_y37 h3) rfl (Nat.le_of_ble_eq_true rfl) ?_
    refine gx_aload_n Cx eX1_add_23 0 rfl ?_
    refine gfX1_18 Cx eX1_add_24 ?_
    obtain ⟨M6, h5, h⟩ := gx_bP_of h
    refine gx_callSV Cx my_X1_forgetOldest wlX1_31 (by decide) rfl eX1_add_27 (c_X1_forgetOldest κ gx_y38 h5) rfl (Nat.le_of_ble_eq_true rfl) ?_
    refine gx_aload_n Cx eX1_add_30 0 rfl ?_
    refine gfX1_21 Cx eX1_add_31 ?_
    obtain ⟨M8, h7, h⟩ := gx_bP_of h
    refine gx_callSV Cx my_X1_forgetOldest wlX1_31 (by decide) rfl eX1_add_34 (c_X1_forgetOldest κ gx_y39 h7) rfl (Nat.le_of_ble_eq_true rfl) ?_
    refine gx_aload_n Cx eX1_add_37 0 rfl ?_
    refine gx_bipush (v := (39 : Int32)) Cx eX1_add_38 (by decide) ?_
    refine pfX1_24 Cx eX1_add_40 h (fun M9 h => ?_)
    exact B43 _ h
set_option maxHeartbeats 4000000 in
set_option maxRecDepth 100000 in
theorem c_X1_stepOn (κ : gx_K)  {M : gx_Mem} {r9 : Int32} {M9 : gx_Mem} (hf : f_X1_stepOn M = some (r9, M9)) : gx_CI κ yX1_stepOn cX1_stepOn 1 (some .int) 0 [.ref (gx_a κ 35)] M r9 M9 := by
  refine gx_enterI (d := 0) my_X1_stepOn.1 (by decide) (Nat.le_of_ble_eq_true rfl) (fun Γ Cx hR => ?_)
  change gx_G κ Γ 0 [(0, .ref (gx_a κ 35))] [] M
  have h := hf
  refine gx_aload_n Cx eX1_stepOn_0 0 rfl ?_
  refine gx_dup Cx eX1_stepOn_1 rfl ?_
  refine gfX1_24 Cx eX1_stepOn_2 ?_
  refine gx_iconst (v := (1 : Int32)) Cx eX1_stepOn_5 (by decide) ?_
  refine gx_iadd Cx eX1_stepOn_6 ?_
  refine pfX1_24 Cx eX1_stepOn_7 h (fun M1 h => ?_)
  refine gx_aload_n Cx eX1_stepOn_10 0 rfl ?_
  refine gx_dup Cx eX1_stepOn_11 rfl ?_
  refine gfX1_28 Cx eX1_stepOn_12 ?_
  refine gx_iconst (v := (1 : Int32)) Cx eX1_stepOn_15 (by decide) ?_
  refine gx_isub Cx eX1_stepOn_16 ?_
  refine pfX1_28 Cx eX1_stepOn_17 h (fun M2 h => ?_)
  refine gx_aload_n Cx eX1_stepOn_20 0 rfl ?_
  refine gfX1_24 Cx eX1_stepOn_21 ?_
  refine gx_iconst (v := (1 : Int32)) Cx eX1_stepOn_24 (by decide) ?_
  refine gx_isub Cx eX1_stepOn_25 ?_
  exact gx_rI h rfl eX1_stepOn_26 hR
set_option maxHeartbeats 4000000 in
set_option maxRecDepth 100000 in
theorem c_X1_stepBack (κ : gx_K)  {M : gx_Mem} {r9 : Int32} {M9 : gx_Mem} (hf : f_X1_stepBack M = some (r9, M9)) : gx_CI κ yX1_stepBack cX1_stepBack 1 (some .int) 0 [.ref (gx_a κ 35)] M r9 M9 := by
  refine gx_enterI (d := 0) my_X1_stepBack.1 (by decide) (Nat.le_of_ble_eq_true rfl) (fun Γ Cx hR => ?_)
  change gx_G κ Γ 0 [(0, .ref (gx_a κ 35))] [] M
  have h := hf
  refine gx_aload_n Cx eX1_stepBack_0 0 rfl ?_
  refine gx_dup Cx eX1_stepBack_1 rfl ?_
  refine gfX1_24 Cx eX1_stepBack_2 ?_
  refine gx_iconst (v := (1 : Int32)) Cx eX1_stepBack_5 (by decide) ?_
  refine gx_isub Cx eX1_stepBack_6 ?_
  refine pfX1_24 Cx eX1_stepBack_7 h (fun M1 h => ?_)
  refine gx_aload_n Cx eX1_stepBack_10 0 rfl ?_
  refine gx_dup Cx eX1_stepBack_11 rfl ?_
  refine gfX1_28 Cx eX1_stepBack_12 ?_
  refine gx_iconst (v := (1 : Int32)) Cx eX1_stepBack_15 (by decide) ?_
  refine gx_iadd Cx eX1_stepBack_16 ?_
  refine pfX1_28 Cx eX1_stepBack_17 h (fun M2 h => ?_)
  refine gx_aload_n Cx eX1_stepBack_20 0 rfl ?_
  refine gfX1_24 Cx eX1_stepBack_21 ?_
  exact gx_rI h rfl eX1_stepBack_24 hR

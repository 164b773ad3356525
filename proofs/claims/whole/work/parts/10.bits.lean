def f_J6_bitCount_0f7a4 (v0 : Int32) (M : gx_Mem) : Option Int32 := gx_let (v0 - ((gx_ushr v0 (1 : Int32)) &&& (1431655765 : Int32))) (fun x1 => gx_let ((x1 &&& (858993459 : Int32)) + ((gx_ushr x1 (2 : Int32)) &&& (858993459 : Int32))) (fun x2 => gx_let ((x2 + (gx_ushr x2 (4 : Int32))) &&& (252645135 : Int32)) (fun x3 => gx_let (x3 + (gx_ushr x3 (8 : Int32))) (fun x4 => gx_let (x4 + (gx_ushr x4 (16 : Int32))) (fun x5 => some (x5 &&& (63 : Int32)))))))
set_option maxHeartbeats 4000000 in
set_option maxRecDepth 100000 in
theorem c_J6_bitCount_0f7a4 (κ : gx_K) {v0 : Int32} {M : gx_Mem} {r9 : Int32} (hf : f_J6_bitCount_0f7a4 v0 M = some r9) : gx_CI κ yJ6_bitCount_0f7a4 cJ6_bitCount_0f7a4 1 (some .int) 0 [.int v0] M r9 M := by
  refine gx_enterI (d := 0) my_J6_bitCount_0f7a4.1 (by decide) (Nat.le_of_ble_eq_true rfl) (fun Γ Cx hR => ?_)
  change gx_G κ Γ 0 [(0, .int v0)] [] M
  have h := hf
  refine gx_iload_n Cx eJ6_bitCount_0f7a4_0 0 rfl ?_
  refine gx_iload_n Cx eJ6_bitCount_0f7a4_1 0 rfl ?_
  refine gx_iconst (v := (1 : Int32)) Cx eJ6_bitCount_0f7a4_2 (by decide) ?_
  refine gx_iushr Cx eJ6_bitCount_0f7a4_3 ?_
  refine gx_ldc_w Cx eJ6_bitCount_0f7a4_4 wkJ6_265 ?_
  refine gx_iand Cx eJ6_bitCount_0f7a4_7 ?_
  refine gx_isub Cx eJ6_bitCount_0f7a4_8 ?_
  refine gx_nmI h (fun x1 h => ?_)
  refine gx_istore_n Cx eJ6_bitCount_0f7a4_9 [(0, .int x1)] rfl (by decide) ?_
  refine gx_iload_n Cx eJ6_bitCount_0f7a4_10 0 rfl ?_
  refine gx_ldc_w Cx eJ6_bitCount_0f7a4_11 wkJ6_266 ?_
  refine gx_iand Cx eJ6_bitCount_0f7a4_14 ?_
  refine gx_iload_n Cx eJ6_bitCount_0f7a4_15 0 rfl ?_
  refine gx_iconst (v := (2 : Int32)) Cx eJ6_bitCount_0f7a4_16 (by decide) ?_
  refine gx_iushr Cx eJ6_bitCount_0f7a4_17 ?_
  refine gx_ldc_w Cx eJ6_bitCount_0f7a4_18 wkJ6_266 ?_
  refine gx_iand Cx eJ6_bitCount_0f7a4_21 ?_
  refine gx_iadd Cx eJ6_bitCount_0f7a4_22 ?_
  refine gx_nmI h (fun x2 h => ?_)
  refine gx_istore_n Cx eJ6_bitCount_0f7a4_23 [(0, .int x2)] rfl (by decide) ?_
  refine gx_iload_n Cx eJ6_bitCount_0f7a4_24 0 rfl ?_
  refine gx_iload_n Cx eJ6_bitCount_0f7a4_25 0 rfl ?_
  refine gx_iconst (v := (4 : Int32)) Cx eJ6_bitCount_0f7a4_26 (by decide) ?_
  refine gx_iushr Cx eJ6_bitCount_0f7a4_27 ?_
  refine gx_iadd Cx eJ6_bitCount_0f7a4_28 ?_
  refine gx_ldc_w Cx eJ6_bitCount_0f7a4_29 wkJ6_267 ?_
  refine gx_iand Cx eJ6_bitCount_0f7a4_32 ?_
  refine gx_nmI h (fun x3 h => ?_)
  refine gx_istore_n Cx eJ6_bitCount_0f7a4_33 [(0, .int x3)] rfl (by decide) ?_
  refine gx_iload_n Cx eJ6_bitCount_0f7a4_34 0 rfl ?_
  refine gx_iload_n Cx eJ6_bitCount_0f7a4_35 0 rfl ?_
  refine gx_bipush (v := (8 : Int32)) Cx eJ6_bitCount_0f7a4_36 (by decide) ?_
  refine gx_iushr Cx eJ6_bitCount_0f7a4_38 ?_
  refine gx_iadd Cx eJ6_bitCount_0f7a4_39 ?_
  refine gx_nmI h (fun x4 h => ?_)
  refine gx_istore_n Cx eJ6_bitCount_0f7a4_40 [(0, .int x4)] rfl (by decide) ?_
  refine gx_iload_n Cx eJ6_bitCount_0f7a4_41 0 rfl ?_
  refine gx_iload_n Cx eJ6_bitCount_0f7a4_42 0 rfl ?_
  refine gx_bipush (v := (16 : Int32)) Cx eJ6_bitCount_0f7a4_43 (by decide) ?_
  refine gx_iushr Cx eJ6_bitCount_0f7a4_45 ?_
  refine gx_iadd Cx eJ6_bitCount_0f7a4_46 ?_
  refine gx_nmI h (fun x5 h => ?_)
  refine gx_istore_n Cx eJ6_bitCount_0f7a4_47 [(0, .int x5)] rfl (by decide) ?_
  refine gx_iload_n Cx eJ6_bitCount_0f7a4_48 0 rfl ?_
  refine gx_bipush (v := (63 : Int32)) Cx eJ6_bitCount_0f7a4_49 (by decide) ?_
  refine gx_iand Cx eJ6_bitCount_0f7a4_51 ?_
  exact gx_rIp h rfl eJ6_bitCount_0f7a4_52 hR

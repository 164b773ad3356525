def f_X5_isEmpty (r : Nat) (M : gx_Mem) : Option Int32 := (if 0 ≤ (M.1 r 1) then some (0 : Int32) else (if 0 ≤ (M.1 r 2) then some (0 : Int32) else some (1 : Int32)))
def f_X5_holdBody (r : Nat) (v1 : Int32) (M : gx_Mem) : Option gx_Mem := gx_let (gx_sI M r 1 v1) (fun M1 => gx_let (gx_sI M1 r 2 (-1 : Int32)) (fun M2 => gx_let (gx_sI M2 r 3 (0 : Int32)) (fun M3 => some M3)))
def f_X5_fitted (r : Nat) (w1 : Int64) (M : gx_Mem) : Option Int64 := if (M.1 r 2) = (0 : Int32) then some w1.toInt32.toInt8.toInt32.toInt64 else (if (M.1 r 2) = (1 : Int32) then some w1.toInt32.toInt16.toInt32.toInt64 else (if (M.1 r 2) = (2 : Int32) then some w1.toInt32.toInt64 else (if (M.1 r 2) = (3 : Int32) then some w1 else (if (M.1 r 2) = (4 : Int32) then (if (lg_cmp w1 (0 : Int64)) = 0 then some (0 : Int64) else some (1 : Int64)) else (some w1)))))
def f_X5_holdRow_k17 (r : Nat)   (ag17 : Int32 → gx_Mem → Option gx_Mem) (v3 : Int32) (M : gx_Mem) : Option gx_Mem := (if (60 : Int32) ≤ v3 then some M else gx_gd (gx_in v3 60) (gx_let (gx_sL M (r + 1) v3.toNatClampNeg (0 : Int64)) (fun M4 => gx_let (v3 + (1 : Int32)) (fun x5 => ag17 x5 M4))))
def f_X5_holdRow_l17 (r : Nat)   (n : Nat) (v3 : Int32) (M : gx_Mem) : Option gx_Mem := gx_loop (fun (ag17 : Int32 × gx_Mem → Option gx_Mem) (s : Int32 × gx_Mem) => f_X5_holdRow_k17 r (fun v3 M => ag17 (v3, M)) s.1 s.2) n (v3, M)
def f_X5_holdRow (r : Nat) (v1 : Int32) (v2 : Int32) (M : gx_Mem) : Option gx_Mem := gx_let (gx_sI M r 1 (-1 : Int32)) (fun M1 => gx_let (gx_sI M1 r 2 v1) (fun M2 => gx_let (gx_sI M2 r 3 v2) (fun M3 => f_X5_holdRow_l17 r gx_fuel (0 : Int32) M3)))
def f_X5_spans (r : Nat) (v1 : Int32) (v2 : Int32) (M : gx_Mem) : Option Int32 := (if v1 < 0 then some (0 : Int32) else (if ((M.1 r 3) - v2) < v1 then some (0 : Int32) else some (1 : Int32)))
set_option maxHeartbeats 4000000 in
set_option maxRecDepth 100000 in
theorem c_X5_isEmpty (κ : gx_K) {r : Nat} (hr : gx_Sh r) {M : gx_Mem} {r9 : Int32} (hf : f_X5_isEmpty r M = some r9) : gx_CI κ yX5_isEmpty cX5_isEmpty 1 (some .boolean) 0 [.ref (gx_a κ r)] M r9 M := by
  refine gx_enterI (d := 0) my_X5_isEmpty.1 (by decide) (Nat.le_of_ble_eq_true rfl) (fun Γ Cx hR => ?_)
  change gx_G κ Γ 0 [(0, .ref (gx_a κ r))] [] M
  have h := hf
  refine gx_aload_n Cx eX5_isEmpty_0 0 rfl ?_
  refine gfX5_15 Cx hr.1 eX5_isEmpty_1 ?_
  refine gx_if_ge (tgt := 18) Cx eX5_isEmpty_4 (by decide) h (fun h => ?_) (fun h => ?_)
  · refine gx_iconst (v := (0 : Int32)) Cx eX5_isEmpty_18 (by decide) ?_
    exact gx_rIp h (by decide) eX5_isEmpty_19 hR
  · refine gx_aload_n Cx eX5_isEmpty_7 0 rfl ?_
    refine gfX5_19 Cx hr.1 eX5_isEmpty_8 ?_
    refine gx_if_ge (tgt := 18) Cx eX5_isEmpty_11 (by decide) h (fun h => ?_) (fun h => ?_)
    · refine gx_iconst (v := (0 : Int32)) Cx eX5_isEmpty_18 (by decide) ?_
      exact gx_rIp h (by decide) eX5_isEmpty_19 hR
    · refine gx_iconst (v := (1 : Int32)) Cx eX5_isEmpty_14 (by decide) ?_
      refine gx_goto (tgt := 19) Cx eX5_isEmpty_15 (by decide) ?_
      exact gx_rIp h (by decide) eX5_isEmpty_19 hR
set_option maxHeartbeats 4000000 in
set_option maxRecDepth 100000 in
theorem c_X5_holdBody (κ : gx_K) {r : Nat} (hr : gx_Sh r) {v1 : Int32} {M : gx_Mem} {M9 : gx_Mem} (hf : f_X5_holdBody r v1 M = some M9) : gx_CV κ yX5_holdBody cX5_holdBody 2 none 0 [.ref (gx_a κ r), .int v1] M M9 := by
  refine gx_enterV (d := 0) my_X5_holdBody.1 (by decide) (Nat.le_of_ble_eq_true rfl) (fun Γ Cx hR => ?_)
  change gx_G κ Γ 0 [(0, .ref (gx_a κ r)), (1, .int v1)] [] M
  have h := hf
  refine gx_aload_n Cx eX5_holdBody_0 0 rfl ?_
  refine gx_iload_n Cx eX5_holdBody_1 1 rfl ?_
  refine pfX5_15 Cx hr.1 eX5_holdBody_2 h (fun M1 h => ?_)
  refine gx_aload_n Cx eX5_holdBody_5 0 rfl ?_
  refine gx_iconst (v := (-1 : Int32)) Cx eX5_holdBody_6 (by decide) ?_
  refine pfX5_19 Cx hr.1 eX5_holdBody_7 h (fun M2 h => ?_)
  refine gx_aload_n Cx eX5_holdBody_10 0 rfl ?_
  refine gx_iconst (v := (0 : Int32)) Cx eX5_holdBody_11 (by decide) ?_
  refine pfX5_22 Cx hr.1 eX5_holdBody_12 h (fun M3 h => ?_)
  exact gx_rV h eX5_holdBody_15 hR
set_option maxHeartbeats 4000000 in
set_option maxRecDepth 100000 in
theorem c_X5_fitted (κ : gx_K) {r : Nat} (hr : gx_Sh r) {w1 : Int64} {M : gx_Mem} {r9 : Int64} (hf : f_X5_fitted r w1 M = some r9) : gx_CJ κ yX5_fitted cX5_fitted 3 (some .long) 0 [.ref (gx_a κ r), .long w1] M r9 M := by
  refine gx_enterJ (d := 0) my_X5_fitted.1 (by decide) (Nat.le_of_ble_eq_true rfl) (fun Γ Cx hR => ?_)
  change gx_G κ Γ 0 [(0, .ref (gx_a κ r)), (1, .long w1)] [] M
  have h := hf
  refine gx_aload_n Cx eX5_fitted_0 0 rfl ?_
  refine gfX5_19 Cx hr.1 eX5_fitted_1 ?_
  refine gx_case (0 : Int32) h (fun h => ?_) (fun n0 h => ?_)
  · refine gx_tsIn (tgt := 40) Cx eX5_fitted_4 (by decide) (by decide) rfl (by decide) ?_
    refine gx_lload_n Cx eX5_fitted_40 1 rfl ?_
    refine gx_l2i Cx eX5_fitted_41 ?_
    refine gx_i2b Cx eX5_fitted_42 ?_
    refine gx_i2l Cx eX5_fitted_43 ?_
    exact gx_rJp h eX5_fitted_44 hR
  refine gx_case (1 : Int32) h (fun h => ?_) (fun n1 h => ?_)
  · refine gx_tsIn (tgt := 45) Cx eX5_fitted_4 (by decide) (by decide) rfl (by decide) ?_
    refine gx_lload_n Cx eX5_fitted_45 1 rfl ?_
    refine gx_l2i Cx eX5_fitted_46 ?_
    refine gx_i2s Cx eX5_fitted_47 ?_
    refine gx_i2l Cx eX5_fitted_48 ?_
    exact gx_rJp h eX5_fitted_49 hR
  refine gx_case (2 : Int32) h (fun h => ?_) (fun n2 h => ?_)
  · refine gx_tsIn (tgt := 50) Cx eX5_fitted_4 (by decide) (by decide) rfl (by decide) ?_
    refine gx_lload_n Cx eX5_fitted_50 1 rfl ?_
    refine gx_l2i Cx eX5_fitted_51 ?_
    refine gx_i2l Cx eX5_fitted_52 ?_
    exact gx_rJp h eX5_fitted_53 hR
  refine gx_case (3 : Int32) h (fun h => ?_) (fun n3 h => ?_)
  · refine gx_tsIn (tgt := 66) Cx eX5_fitted_4 (by decide) (by decide) rfl (by decide) ?_
    refine gx_lload_n Cx eX5_fitted_66 1 rfl ?_
    exact gx_rJp h eX5_fitted_67 hR
  refine gx_case (4 : Int32) h (fun h => ?_) (fun n4 h => ?_)
  · refine gx_tsIn (tgt := 54) Cx eX5_fitted_4 (by decide) (by decide) rfl (by decide) ?_
    refine gx_lload_n Cx eX5_fitted_54 1 rfl ?_
    refine gx_lconst (v := (0 : Int64)) Cx eX5_fitted_55 (by decide) ?_
    refine gx_lcmp Cx eX5_fitted_56 ?_
    refine gx_if_eq (tgt := 64) Cx eX5_fitted_57 (by decide) h (fun h => ?_) (fun h => ?_)
    · refine gx_lconst (v := (0 : Int64)) Cx eX5_fitted_64 (by decide) ?_
      exact gx_rJp h eX5_fitted_65 hR
    · refine gx_lconst (v := (1 : Int64)) Cx eX5_fitted_60 (by decide) ?_
      refine gx_goto (tgt := 65) Cx eX5_fitted_61 (by decide) ?_
      exact gx_rJp h eX5_fitted_65 hR
  refine gx_tsOut (tgt := 66) Cx eX5_fitted_4 (by have zn0 := gx_neT (k := 0) n0 (by decide); have zn1 := gx_neT (k := 1) n1 (by decide); have zn2 := gx_neT (k := 2) n2 (by decide); have zn3 := gx_neT (k := 3) n3 (by decide); have zn4 := gx_neT (k := 4) n4 (by decide); omega) (by decide) ?_
  refine gx_lload_n Cx eX5_fitted_66 1 rfl ?_
  exact gx_rJp h eX5_fitted_67 hR
set_option maxHeartbeats 4000000 in
set_option maxRecDepth 100000 in
theorem c_X5_holdRow (κ : gx_K) {r : Nat} (hr : gx_Sh r) {v1 : Int32} {v2 : Int32} {M : gx_Mem} {M9 : gx_Mem} (hf : f_X5_holdRow r v1 v2 M = some M9) : gx_CV κ yX5_holdRow cX5_holdRow 4 none 0 [.ref (gx_a κ r), .int v1, .int v2] M M9 := by
  refine gx_enterV (d := 0) my_X5_holdRow.1 (by decide) (Nat.le_of_ble_eq_true rfl) (fun Γ Cx hR => ?_)
  change gx_G κ Γ 0 [(0, .ref (gx_a κ r)), (1, .int v1), (2, .int v2)] [] M
  have K17 : ∀  (ag17 : Int32 → gx_Mem → Option gx_Mem) (hag17 : ∀ (v3 : Int32) (M : gx_Mem), ag17 v3 M = some M9 → gx_G κ Γ 17 [(0, .ref (gx_a κ r)), (3, .int v3)] [] M) (v3 : Int32) (M : gx_Mem), f_X5_holdRow_k17 r ag17 v3 M = some M9 → gx_G κ Γ 17 [(0, .ref (gx_a κ r)), (3, .int v3)] [] M := by
    intro ag17 hag17
    intro v3 M h
    refine gx_iload_n Cx eX5_holdRow_17 1 rfl ?_
    refine gx_bipush (v := (60 : Int32)) Cx eX5_holdRow_18 (by decide) ?_
    refine gx_icmp_ge (tgt := 36) Cx eX5_holdRow_20 (by decide) h (fun h => ?_) (fun h => ?_)
    · exact gx_rV h eX5_holdRow_36 hR
    · refine gx_aload_n Cx eX5_holdRow_23 0 rfl ?_
      refine gfX5_9 Cx hr.1 eX5_holdRow_24 ?_
      refine gx_iload_n Cx eX5_holdRow_27 1 rfl ?_
      refine gx_lconst (v := (0 : Int64)) Cx eX5_holdRow_28 (by decide) ?_
      refine gx_last Cx hr.2 eX5_holdRow_29 h (fun M4 h => ?_)
      refine gx_iinc (v := (1 : Int32)) (i := 3) (j := 1) Cx eX5_holdRow_30 (by decide) h 1 rfl (fun w => [(3, .int w), (0, .ref (gx_a κ r))]) (fun _ => rfl) (by decide) (fun x5 h => ?_)
      refine gx_goto (tgt := 17) Cx eX5_holdRow_33 (by decide) ?_
      refine gx_sub [1, 0] rfl ?_
      exact hag17 _ _ h
  have L17 : ∀  (n : Nat) (v3 : Int32) (M : gx_Mem), f_X5_holdRow_l17 r n v3 M = some M9 → gx_G κ Γ 17 [(0, .ref (gx_a κ r)), (3, .int v3)] [] M := by
    intro n
    induction n with
    | zero => intro v3 M h; exact gx_loop_0 h
    | succ n ih => intro v3 M h; exact K17 (fun v3 M => f_X5_holdRow_l17 r n v3 M) ih v3 M h
  have h := hf
  refine gx_aload_n Cx eX5_holdRow_0 0 rfl ?_
  refine gx_iconst (v := (-1 : Int32)) Cx eX5_holdRow_1 (by decide) ?_
  refine pfX5_15 Cx hr.1 eX5_holdRow_2 h (fun M1 h => ?_)
  refine gx_aload_n Cx eX5_holdRow_5 0 rfl ?_
  refine gx_iload_n Cx eX5_holdRow_6 1 rfl ?_
  refine pfX5_19 Cx hr.1 eX5_holdRow_7 h (fun M2 h => ?_)
  refine gx_aload_n Cx eX5_holdRow_10 0 rfl ?_
  refine gx_iload_n Cx eX5_holdRow_11 2 rfl ?_
  refine pfX5_22 Cx hr.1 eX5_holdRow_12 h (fun M3 h => ?_)
  refine gx_iconst (v := (0 : Int32)) Cx eX5_holdRow_15 (by decide) ?_
  refine gx_istore_n Cx eX5_holdRow_16 [(3, .int (0 : Int32)), (0, .ref (gx_a κ r)), (1, .int v1), (2, .int v2)] rfl (by decide) ?_
  refine gx_sub [1, 0] rfl ?_
  exact L17 _ _ _ h
set_option maxHeartbeats 4000000 in
set_option maxRecDepth 100000 in
theorem c_X5_spans (κ : gx_K) {r : Nat} (hr : gx_Sh r) {v1 : Int32} {v2 : Int32} {M : gx_Mem} {r9 : Int32} (hf : f_X5_spans r v1 v2 M = some r9) : gx_CI κ yX5_spans cX5_spans 3 (some .boolean) 0 [.ref (gx_a κ r), .int v1, .int v2] M r9 M := by
  refine gx_enterI (d := 0) my_X5_spans.1 (by decide) (Nat.le_of_ble_eq_true rfl) (fun Γ Cx hR => ?_)
  change gx_G κ Γ 0 [(0, .ref (gx_a κ r)), (1, .int v1), (2, .int v2)] [] M
  have h := hf
  refine gx_iload_n Cx eX5_spans_0 1 rfl ?_
  refine gx_if_lt (tgt := 18) Cx eX5_spans_1 (by decide) h (fun h => ?_) (fun h => ?_)
  · refine gx_iconst (v := (0 : Int32)) Cx eX5_spans_18 (by decide) ?_
    exact gx_rIp h (by decide) eX5_spans_19 hR
  · refine gx_iload_n Cx eX5_spans_4 1 rfl ?_
    refine gx_aload_n Cx eX5_spans_5 0 rfl ?_
    refine gfX5_22 Cx hr.1 eX5_spans_6 ?_
    refine gx_iload_n Cx eX5_spans_9 2 rfl ?_
    refine gx_isub Cx eX5_spans_10 ?_
    refine gx_icmp_gt (tgt := 18) Cx eX5_spans_11 (by decide) h (fun h => ?_) (fun h => ?_)
    · refine gx_iconst (v := (0 : Int32)) Cx eX5_spans_18 (by decide) ?_
      exact gx_rIp h (by decide) eX5_spans_19 hR
    · refine gx_iconst (v := (1 : Int32)) Cx eX5_spans_14 (by decide) ?_
      refine gx_goto (tgt := 19) Cx eX5_spans_15 (by decide) ?_
      exact gx_rIp h (by decide) eX5_spans_19 hR

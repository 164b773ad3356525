def f_X6_take (v1 : Int32) (M : gx_Mem) : Option (Int32 × gx_Mem) := (if (M.1 5 3) < (120 : Int32) then gx_gd (gx_in (M.1 5 3) 120) (gx_let (gx_sI M 6 (M.1 5 3).toNatClampNeg v1) (fun M1 => gx_let (gx_sI M1 5 3 ((M1.1 5 3) + (1 : Int32))) (fun M2 => some ((1 : Int32), M2)))) else some ((0 : Int32), M))
def f_X6_next (M : gx_Mem) : Option Int32 := (if (M.1 5 4) < 0 then some (-1 : Int32) else (if (M.1 5 3) ≤ (M.1 5 4) then some (-1 : Int32) else (if (120 : Int32) ≤ (M.1 5 4) then some (-1 : Int32) else gx_gd (gx_in (M.1 5 4) 120) (some (M.1 6 (M.1 5 4).toNatClampNeg)))))
def f_X6_emit (v1 : Int32) (v2 : Int32) (M : gx_Mem) : Option gx_Mem := (if (128 : Int32) ≤ (M.1 5 5) then some M else gx_gd (gx_in (M.1 5 5) 128) (gx_let (gx_sI M 7 (M.1 5 5).toNatClampNeg v1) (fun M1 => gx_gd (gx_in (M1.1 5 5) 128) (gx_let (gx_sI M1 8 (M1.1 5 5).toNatClampNeg v2) (fun M2 => gx_let (gx_sI M2 5 5 ((M2.1 5 5) + (1 : Int32))) (fun M3 => some M3))))))
def f_X6_levelOf (v0 : Int32) (M : gx_Mem) : Option Int32 := if v0 = (37 : Int32) then some (4 : Int32) else (if v0 = (38 : Int32) then some (1 : Int32) else (if v0 = (42 : Int32) then some (4 : Int32) else (if v0 = (43 : Int32) then some (3 : Int32) else (if v0 = (45 : Int32) then some (3 : Int32) else (if v0 = (47 : Int32) then some (4 : Int32) else (if v0 = (60 : Int32) then some (2 : Int32) else (if v0 = (61 : Int32) then some (2 : Int32) else (if v0 = (62 : Int32) then some (2 : Int32) else (if v0 = (124 : Int32) then some (0 : Int32) else (some (-1 : Int32)))))))))))
def f_X6_nameOf (v0 : Int32) (M : gx_Mem) : Option Int32 := if v0 = (97 : Int32) then some (0 : Int32) else (if v0 = (102 : Int32) then some (3 : Int32) else (if v0 = (105 : Int32) then some (2 : Int32) else (if v0 = (109 : Int32) then some (4 : Int32) else (if v0 = (110 : Int32) then some (5 : Int32) else (if v0 = (119 : Int32) then some (1 : Int32) else (some (-1 : Int32)))))))
def f_X6_readClose (M : gx_Mem) : Option (Int32 × gx_Mem) := gx_bP (f_X6_next M) (fun y2 => (if y2 = (41 : Int32) then gx_let (gx_sI M 5 4 ((M.1 5 4) + (1 : Int32))) (fun M3 => some ((1 : Int32), M3)) else some ((0 : Int32), M)))
def f_X6_readNumber_b56   (v1 : Int32) (M : gx_Mem) : Option gx_Mem := gx_bP (f_X6_emit (35 : Int32) v1 M) (fun M11 => some M11)
def f_X6_readNumber_k4    (ag4 : Int32 → Int32 → gx_Mem → Option gx_Mem) (v1 : Int32) (v2 : Int32) (M : gx_Mem) : Option gx_Mem := (if (4 : Int32) ≤ v2 then f_X6_readNumber_b56 v1 M else gx_bP (f_X6_next M) (fun y2 => (if y2 < (48 : Int32) then f_X6_readNumber_b56 v1 M else gx_bP (f_X6_next M) (fun y4 => (if (57 : Int32) < y4 then f_X6_readNumber_b56 v1 M else gx_bP (f_X6_next M) (fun y6 => gx_let (((v1 * (10 : Int32)) + y6) - (48 : Int32)) (fun x7 => gx_let (gx_sI M 5 4 ((M.1 5 4) + (1 : Int32))) (fun M8 => gx_let (v2 + (1 : Int32)) (fun x9 => ag4 x7 x9 M8)))))))))
def f_X6_readNumber_l4    (n : Nat) (v1 : Int32) (v2 : Int32) (M : gx_Mem) : Option gx_Mem := gx_loop (fun (ag4 : Int32 × Int32 × gx_Mem → Option gx_Mem) (s : Int32 × Int32 × gx_Mem) => f_X6_readNumber_k4 (fun v1 v2 M => ag4 (v1, v2, M)) s.1 s.2.1 s.2.2) n (v1, v2, M)
def f_X6_readNumber (M : gx_Mem) : Option gx_Mem := f_X6_readNumber_l4 gx_fuel (0 : Int32) (0 : Int32) M
def f_X6_readLevel_k39 (q_readLevel : Int32 → Int32 → gx_Mem → Option (Int32 × gx_Mem)) (q_readOne : Int32 → gx_Mem → Option (Int32 × gx_Mem))  (v1 : Int32) (v2 : Int32) (v3 : Int32) (ag39 : Int32 → gx_Mem → Option (Int32 × gx_Mem)) (v4 : Int32) (M : gx_Mem) : Option (Int32 × gx_Mem) := (if v3 ≤ v4 then some ((1 : Int32), M) else gx_bP (f_X6_next M) (fun y8 => gx_bP (f_X6_levelOf y8 M) (fun y10 => (if y10 = v1 then gx_bP (f_X6_next M) (fun y12 => gx_let (gx_sI M 5 4 ((M.1 5 4) + (1 : Int32))) (fun M13 => gx_bI (q_readLevel (v1 + (1 : Int32)) v2 M13) (fun y15 M16 => (if y15 = 0 then some ((0 : Int32), M16) else gx_bP (f_X6_emit y12 (0 : Int32) M16) (fun M18 => gx_let (v4 + (1 : Int32)) (fun x19 => ag39 x19 M18)))))) else some ((1 : Int32), M)))))
def f_X6_readLevel_l39 (q_readLevel : Int32 → Int32 → gx_Mem → Option (Int32 × gx_Mem)) (q_readOne : Int32 → gx_Mem → Option (Int32 × gx_Mem))  (v1 : Int32) (v2 : Int32) (v3 : Int32) (n : Nat) (v4 : Int32) (M : gx_Mem) : Option (Int32 × gx_Mem) := gx_loop (fun (ag39 : Int32 × gx_Mem → Option (Int32 × gx_Mem)) (s : Int32 × gx_Mem) => f_X6_readLevel_k39 q_readLevel q_readOne v1 v2 v3 (fun v4 M => ag39 (v4, M)) s.1 s.2) n (v4, M)
def f_X6_readLevel_b35 (q_readLevel : Int32 → Int32 → gx_Mem → Option (Int32 × gx_Mem)) (q_readOne : Int32 → gx_Mem → Option (Int32 × gx_Mem))  (v1 : Int32) (v2 : Int32) (s0 : Int32) (M : gx_Mem) : Option (Int32 × gx_Mem) := f_X6_readLevel_l39 q_readLevel q_readOne v1 v2 s0 gx_fuel (0 : Int32) M
def f_X6_readLevel_o (q_readLevel : Int32 → Int32 → gx_Mem → Option (Int32 × gx_Mem)) (q_readOne : Int32 → gx_Mem → Option (Int32 × gx_Mem)) (v1 : Int32) (v2 : Int32) (M : gx_Mem) : Option (Int32 × gx_Mem) := (if v1 < (5 : Int32) then gx_bI (q_readLevel (v1 + (1 : Int32)) v2 M) (fun y2 M3 => (if y2 = 0 then some ((0 : Int32), M3) else (if v1 = (2 : Int32) then f_X6_readLevel_b35 q_readLevel q_readOne v1 v2 (1 : Int32) M3 else f_X6_readLevel_b35 q_readLevel q_readOne v1 v2 (120 : Int32) M3))) else gx_bI (q_readOne v2 M) (fun y5 M6 => gx_gd (gx_isZ y5) (some (y5, M6))))
def f_X6_readOne_b142 (q_readLevel : Int32 → Int32 → gx_Mem → Option (Int32 × gx_Mem)) (q_readOne : Int32 → gx_Mem → Option (Int32 × gx_Mem))  (s1 : Int32) (M : gx_Mem) : Option (Int32 × gx_Mem) := gx_bP (f_X6_emit s1 (0 : Int32) M) (fun M21 => some ((1 : Int32), M21))
def f_X6_readOne_b69 (q_readLevel : Int32 → Int32 → gx_Mem → Option (Int32 × gx_Mem)) (q_readOne : Int32 → gx_Mem → Option (Int32 × gx_Mem))  (v1 : Int32) (v2 : Int32) (M : gx_Mem) : Option (Int32 × gx_Mem) := (if v1 < (6 : Int32) then gx_let (gx_sI M 5 4 ((M.1 5 4) + (1 : Int32))) (fun M10 => (if v2 = (40 : Int32) then gx_bI (q_readLevel (0 : Int32) (v1 + (1 : Int32)) M10) (fun y15 M16 => (if y15 = 0 then some ((0 : Int32), M16) else gx_bI (f_X6_readClose M16) (fun y18 M19 => (if y18 = 0 then some ((0 : Int32), M19) else some ((1 : Int32), M19))))) else gx_bI (q_readOne (v1 + (1 : Int32)) M10) (fun y12 M13 => (if y12 = 0 then some ((0 : Int32), M13) else (if v2 = (45 : Int32) then f_X6_readOne_b142 q_readLevel q_readOne (126 : Int32) M13 else f_X6_readOne_b142 q_readLevel q_readOne v2 M13))))) else some ((0 : Int32), M))
def f_X6_readOne_b23 (q_readLevel : Int32 → Int32 → gx_Mem → Option (Int32 × gx_Mem)) (q_readOne : Int32 → gx_Mem → Option (Int32 × gx_Mem))  (v1 : Int32) (v2 : Int32) (M : gx_Mem) : Option (Int32 × gx_Mem) := gx_bP (f_X6_nameOf v2 M) (fun y6 => (if y6 < 0 then (if v2 = (40 : Int32) then f_X6_readOne_b69 q_readLevel q_readOne v1 v2 M else (if v2 = (33 : Int32) then f_X6_readOne_b69 q_readLevel q_readOne v1 v2 M else (if v2 = (45 : Int32) then f_X6_readOne_b69 q_readLevel q_readOne v1 v2 M else some ((0 : Int32), M)))) else gx_let (gx_sI M 5 4 ((M.1 5 4) + (1 : Int32))) (fun M7 => gx_bP (f_X6_emit (36 : Int32) y6 M7) (fun M9 => some ((1 : Int32), M9)))))
def f_X6_readOne_o (q_readLevel : Int32 → Int32 → gx_Mem → Option (Int32 × gx_Mem)) (q_readOne : Int32 → gx_Mem → Option (Int32 × gx_Mem)) (v1 : Int32) (M : gx_Mem) : Option (Int32 × gx_Mem) := gx_bP (f_X6_next M) (fun y2 => (if y2 < (48 : Int32) then f_X6_readOne_b23 q_readLevel q_readOne v1 y2 M else (if (57 : Int32) < y2 then f_X6_readOne_b23 q_readLevel q_readOne v1 y2 M else gx_bP (f_X6_readNumber M) (fun M4 => some ((1 : Int32), M4)))))
def f_readLevel_readOne_g : Nat → (Int32 → Int32 → gx_Mem → Option (Int32 × gx_Mem)) × (Int32 → gx_Mem → Option (Int32 × gx_Mem))
  | 0 => ((fun _ _ _ => none), (fun _ _ => none))
  | d + 1 => (fun q : (Int32 → Int32 → gx_Mem → Option (Int32 × gx_Mem)) × (Int32 → gx_Mem → Option (Int32 × gx_Mem)) => (f_X6_readLevel_o q.1 q.2, f_X6_readOne_o q.1 q.2)) (f_readLevel_readOne_g d)
def f_X6_readLevel (d : Nat) : Int32 → Int32 → gx_Mem → Option (Int32 × gx_Mem) := (f_readLevel_readOne_g d).1
def f_X6_readOne (d : Nat) : Int32 → gx_Mem → Option (Int32 × gx_Mem) := (f_readLevel_readOne_g d).2
def f_X6_readLine_b48    (M : gx_Mem) : Option (Int32 × gx_Mem) := gx_bP (f_X6_emit (59 : Int32) (0 : Int32) M) (fun M13 => some ((1 : Int32), M13))
def f_X6_readLine (M : gx_Mem) : Option (Int32 × gx_Mem) := gx_bI (f_X6_readLevel gx_dep (0 : Int32) (0 : Int32) M) (fun y2 M3 => (if y2 = 0 then some ((0 : Int32), M3) else gx_bP (f_X6_next M3) (fun y5 => (if y5 = (63 : Int32) then gx_let (gx_sI M3 5 4 ((M3.1 5 4) + (1 : Int32))) (fun M6 => gx_bP (f_X6_emit (63 : Int32) (0 : Int32) M6) (fun M8 => gx_bI (f_X6_readLevel gx_dep (0 : Int32) (0 : Int32) M8) (fun y10 M11 => (if y10 = 0 then some ((0 : Int32), M11) else f_X6_readLine_b48 M11)))) else f_X6_readLine_b48 M3))))
def f_X6_read_k12    (ag12 : Int32 → gx_Mem → Option (Int32 × gx_Mem)) (v1 : Int32) (M : gx_Mem) : Option (Int32 × gx_Mem) := (if (120 : Int32) < v1 then some ((0 : Int32), M) else gx_bI (f_X6_readLine M) (fun y4 M5 => (if y4 = 0 then some ((0 : Int32), M5) else (if (M5.1 5 4) < (M5.1 5 3) then gx_bP (f_X6_next M5) (fun y7 => (if y7 = (59 : Int32) then gx_let (gx_sI M5 5 4 ((M5.1 5 4) + (1 : Int32))) (fun M8 => gx_let (v1 + (1 : Int32)) (fun x9 => ag12 x9 M8)) else some ((0 : Int32), M5))) else some ((1 : Int32), M5)))))
def f_X6_read_l12    (n : Nat) (v1 : Int32) (M : gx_Mem) : Option (Int32 × gx_Mem) := gx_loop (fun (ag12 : Int32 × gx_Mem → Option (Int32 × gx_Mem)) (s : Int32 × gx_Mem) => f_X6_read_k12 (fun v1 M => ag12 (v1, M)) s.1 s.2) n (v1, M)
def f_X6_read (M : gx_Mem) : Option (Int32 × gx_Mem) := gx_let (gx_sI M 5 4 (0 : Int32)) (fun M1 => gx_let (gx_sI M1 5 5 (0 : Int32)) (fun M2 => f_X6_read_l12 gx_fuel (0 : Int32) M2))
set_option maxHeartbeats 4000000 in
set_option maxRecDepth 100000 in
theorem c_X6_take (κ : gx_K) {v1 : Int32} {M : gx_Mem} {r9 : Int32} {M9 : gx_Mem} (hf : f_X6_take v1 M = some (r9, M9)) : gx_CI κ yX6_take cX6_take 2 (some .boolean) 0 [.ref (gx_a κ 5), .int v1] M r9 M9 := by
  refine gx_enterI (d := 0) my_X6_take.1 (by decide) (Nat.le_of_ble_eq_true rfl) (fun Γ Cx hR => ?_)
  change gx_G κ Γ 0 [(0, .ref (gx_a κ 5)), (1, .int v1)] [] M
  have h := hf
  refine gx_aload_n Cx eX6_take_0 0 rfl ?_
  refine gfX6_21 Cx eX6_take_1 ?_
  refine gx_bipush (v := (120 : Int32)) Cx eX6_take_4 (by decide) ?_
  refine gx_icmp_lt (tgt := 11) Cx eX6_take_6 (by decide) h (fun h => ?_) (fun h => ?_)
  · refine gx_aload_n Cx eX6_take_11 0 rfl ?_
    refine gfX6_9 Cx eX6_take_12 ?_
    refine gx_aload_n Cx eX6_take_15 0 rfl ?_
    refine gfX6_21 Cx eX6_take_16 ?_
    refine gx_iload_n Cx eX6_take_19 1 rfl ?_
    refine gx_iast Cx gx_y6 eX6_take_20 h (fun M1 h => ?_)
    refine gx_aload_n Cx eX6_take_21 0 rfl ?_
    refine gx_dup Cx eX6_take_22 rfl ?_
    refine gfX6_21 Cx eX6_take_23 ?_
    refine gx_iconst (v := (1 : Int32)) Cx eX6_take_26 (by decide) ?_
    refine gx_iadd Cx eX6_take_27 ?_
    refine pfX6_21 Cx eX6_take_28 h (fun M2 h => ?_)
    refine gx_iconst (v := (1 : Int32)) Cx eX6_take_31 (by decide) ?_
    exact gx_rI h (by decide) eX6_take_32 hR
  · refine gx_iconst (v := (0 : Int32)) Cx eX6_take_9 (by decide) ?_
    exact gx_rI h (by decide) eX6_take_10 hR
set_option maxHeartbeats 4000000 in
set_option maxRecDepth 100000 in
theorem c_X6_next (κ : gx_K)  {M : gx_Mem} {r9 : Int32} (hf : f_X6_next M = some r9) : gx_CI κ yX6_next cX6_next 1 (some .int) 0 [.ref (gx_a κ 5)] M r9 M := by
  refine gx_enterI (d := 0) my_X6_next.1 (by decide) (Nat.le_of_ble_eq_true rfl) (fun Γ Cx hR => ?_)
  change gx_G κ Γ 0 [(0, .ref (gx_a κ 5))] [] M
  have h := hf
  refine gx_aload_n Cx eX6_next_0 0 rfl ?_
  refine gfX6_25 Cx eX6_next_1 ?_
  refine gx_if_lt (tgt := 39) Cx eX6_next_4 (by decide) h (fun h => ?_) (fun h => ?_)
  · refine gx_iconst (v := (-1 : Int32)) Cx eX6_next_39 (by decide) ?_
    exact gx_rIp h rfl eX6_next_40 hR
  · refine gx_aload_n Cx eX6_next_7 0 rfl ?_
    refine gfX6_25 Cx eX6_next_8 ?_
    refine gx_aload_n Cx eX6_next_11 0 rfl ?_
    refine gfX6_21 Cx eX6_next_12 ?_
    refine gx_icmp_ge (tgt := 39) Cx eX6_next_15 (by decide) h (fun h => ?_) (fun h => ?_)
    · refine gx_iconst (v := (-1 : Int32)) Cx eX6_next_39 (by decide) ?_
      exact gx_rIp h rfl eX6_next_40 hR
    · refine gx_aload_n Cx eX6_next_18 0 rfl ?_
      refine gfX6_25 Cx eX6_next_19 ?_
      refine gx_bipush (v := (120 : Int32)) Cx eX6_next_22 (by decide) ?_
      refine gx_icmp_ge (tgt := 39) Cx eX6_next_24 (by decide) h (fun h => ?_) (fun h => ?_)
      · refine gx_iconst (v := (-1 : Int32)) Cx eX6_next_39 (by decide) ?_
        exact gx_rIp h rfl eX6_next_40 hR
      · refine gx_aload_n Cx eX6_next_27 0 rfl ?_
        refine gfX6_9 Cx eX6_next_28 ?_
        refine gx_aload_n Cx eX6_next_31 0 rfl ?_
        refine gfX6_25 Cx eX6_next_32 ?_
        refine gx_iald Cx gx_y6 eX6_next_35 h (fun h => ?_)
        refine gx_goto (tgt := 40) Cx eX6_next_36 (by decide) ?_
        exact gx_rIp h rfl eX6_next_40 hR
set_option maxHeartbeats 4000000 in
set_option maxRecDepth 100000 in
theorem c_X6_emit (κ : gx_K) {v1 : Int32} {v2 : Int32} {M : gx_Mem} {M9 : gx_Mem} (hf : f_X6_emit v1 v2 M = some M9) : gx_CV κ yX6_emit cX6_emit 3 none 0 [.ref (gx_a κ 5), .int v1, .int v2] M M9 := by
  refine gx_enterV (d := 0) my_X6_emit.1 (by decide) (Nat.le_of_ble_eq_true rfl) (fun Γ Cx hR => ?_)
  change gx_G κ Γ 0 [(0, .ref (gx_a κ 5)), (1, .int v1), (2, .int v2)] [] M
  have h := hf
  refine gx_aload_n Cx eX6_emit_0 0 rfl ?_
  refine gfX6_28 Cx eX6_emit_1 ?_
  refine gx_sipush (v := (128 : Int32)) Cx eX6_emit_4 (by decide) ?_
  refine gx_icmp_ge (tgt := 40) Cx eX6_emit_7 (by decide) h (fun h => ?_) (fun h => ?_)
  · exact gx_rV h eX6_emit_40 hR
  · refine gx_aload_n Cx eX6_emit_10 0 rfl ?_
    refine gfX6_15 Cx eX6_emit_11 ?_
    refine gx_aload_n Cx eX6_emit_14 0 rfl ?_
    refine gfX6_28 Cx eX6_emit_15 ?_
    refine gx_iload_n Cx eX6_emit_18 1 rfl ?_
    refine gx_iast Cx gx_y7 eX6_emit_19 h (fun M1 h => ?_)
    refine gx_aload_n Cx eX6_emit_20 0 rfl ?_
    refine gfX6_18 Cx eX6_emit_21 ?_
    refine gx_aload_n Cx eX6_emit_24 0 rfl ?_
    refine gfX6_28 Cx eX6_emit_25 ?_
    refine gx_iload_n Cx eX6_emit_28 2 rfl ?_
    refine gx_iast Cx gx_y8 eX6_emit_29 h (fun M2 h => ?_)
    refine gx_aload_n Cx eX6_emit_30 0 rfl ?_
    refine gx_dup Cx eX6_emit_31 rfl ?_
    refine gfX6_28 Cx eX6_emit_32 ?_
    refine gx_iconst (v := (1 : Int32)) Cx eX6_emit_35 (by decide) ?_
    refine gx_iadd Cx eX6_emit_36 ?_
    refine pfX6_28 Cx eX6_emit_37 h (fun M3 h => ?_)
    exact gx_rV h eX6_emit_40 hR
set_option maxHeartbeats 4000000 in
set_option maxRecDepth 100000 in
theorem c_X6_levelOf (κ : gx_K) {v0 : Int32} {M : gx_Mem} {r9 : Int32} (hf : f_X6_levelOf v0 M = some r9) : gx_CI κ yX6_levelOf cX6_levelOf 1 (some .int) 0 [.int v0] M r9 M := by
  refine gx_enterI (d := 0) my_X6_levelOf.1 (by decide) (Nat.le_of_ble_eq_true rfl) (fun Γ Cx hR => ?_)
  change gx_G κ Γ 0 [(0, .int v0)] [] M
  have h := hf
  refine gx_iload_n Cx eX6_levelOf_0 0 rfl ?_
  refine gx_case (37 : Int32) h (fun h => ?_) (fun n37 h => ?_)
  · refine gx_lsw (tgt := 100) (off := 99) Cx eX6_levelOf_1 (by decide) (by decide) (by decide) ?_
    refine gx_iconst (v := (4 : Int32)) Cx eX6_levelOf_100 (by decide) ?_
    exact gx_rIp h rfl eX6_levelOf_101 hR
  refine gx_case (38 : Int32) h (fun h => ?_) (fun n38 h => ?_)
  · refine gx_lsw (tgt := 94) (off := 93) Cx eX6_levelOf_1 (by decide) (by decide) (by decide) ?_
    refine gx_iconst (v := (1 : Int32)) Cx eX6_levelOf_94 (by decide) ?_
    exact gx_rIp h rfl eX6_levelOf_95 hR
  refine gx_case (42 : Int32) h (fun h => ?_) (fun n42 h => ?_)
  · refine gx_lsw (tgt := 100) (off := 99) Cx eX6_levelOf_1 (by decide) (by decide) (by decide) ?_
    refine gx_iconst (v := (4 : Int32)) Cx eX6_levelOf_100 (by decide) ?_
    exact gx_rIp h rfl eX6_levelOf_101 hR
  refine gx_case (43 : Int32) h (fun h => ?_) (fun n43 h => ?_)
  · refine gx_lsw (tgt := 98) (off := 97) Cx eX6_levelOf_1 (by decide) (by decide) (by decide) ?_
    refine gx_iconst (v := (3 : Int32)) Cx eX6_levelOf_98 (by decide) ?_
    exact gx_rIp h rfl eX6_levelOf_99 hR
  refine gx_case (45 : Int32) h (fun h => ?_) (fun n45 h => ?_)
  · refine gx_lsw (tgt := 98) (off := 97) Cx eX6_levelOf_1 (by decide) (by decide) (by decide) ?_
    refine gx_iconst (v := (3 : Int32)) Cx eX6_levelOf_98 (by decide) ?_
    exact gx_rIp h rfl eX6_levelOf_99 hR
  refine gx_case (47 : Int32) h (fun h => ?_) (fun n47 h => ?_)
  · refine gx_lsw (tgt := 100) (off := 99) Cx eX6_levelOf_1 (by decide) (by decide) (by decide) ?_
    refine gx_iconst (v := (4 : Int32)) Cx eX6_levelOf_100 (by decide) ?_
    exact gx_rIp h rfl eX6_levelOf_101 hR
  refine gx_case (60 : Int32) h (fun h => ?_) (fun n60 h => ?_)
  · refine gx_lsw (tgt := 96) (off := 95) Cx eX6_levelOf_1 (by decide) (by decide) (by decide) ?_
    refine gx_iconst (v := (2 : Int32)) Cx eX6_levelOf_96 (by decide) ?_
    exact gx_rIp h rfl eX6_levelOf_97 hR
  refine gx_case (61 : Int32) h (fun h => ?_) (fun n61 h => ?_)
  · refine gx_lsw (tgt := 96) (off := 95) Cx eX6_levelOf_1 (by decide) (by decide) (by decide) ?_
    refine gx_iconst (v := (2 : Int32)) Cx eX6_levelOf_96 (by decide) ?_
    exact gx_rIp h rfl eX6_levelOf_97 hR
  refine gx_case (62 : Int32) h (fun h => ?_) (fun n62 h => ?_)
  · refine gx_lsw (tgt := 96) (off := 95) Cx eX6_levelOf_1 (by decide) (by decide) (by decide) ?_
    refine gx_iconst (v := (2 : Int32)) Cx eX6_levelOf_96 (by decide) ?_
    exact gx_rIp h rfl eX6_levelOf_97 hR
  refine gx_case (124 : Int32) h (fun h => ?_) (fun n124 h => ?_)
  · refine gx_lsw (tgt := 92) (off := 91) Cx eX6_levelOf_1 (by decide) (by decide) (by decide) ?_
    refine gx_iconst (v := (0 : Int32)) Cx eX6_levelOf_92 (by decide) ?_
    exact gx_rIp h rfl eX6_levelOf_93 hR
  refine gx_lsw (tgt := 102) (off := 101) Cx eX6_levelOf_1 (by decide) (gx_lsw_none (List.forall_mem_cons.mpr ⟨gx_neT (k := 37) n37 (by decide), List.forall_mem_cons.mpr ⟨gx_neT (k := 38) n38 (by decide), List.forall_mem_cons.mpr ⟨gx_neT (k := 42) n42 (by decide), List.forall_mem_cons.mpr ⟨gx_neT (k := 43) n43 (by decide), List.forall_mem_cons.mpr ⟨gx_neT (k := 45) n45 (by decide), List.forall_mem_cons.mpr ⟨gx_neT (k := 47) n47 (by decide), List.forall_mem_cons.mpr ⟨gx_neT (k := 60) n60 (by decide), List.forall_mem_cons.mpr ⟨gx_neT (k := 61) n61 (by decide), List.forall_mem_cons.mpr ⟨gx_neT (k := 62) n62 (by decide), List.forall_mem_cons.mpr ⟨gx_neT (k := 124) n124 (by decide), fun _ h => absurd h List.not_mem_nil⟩⟩⟩⟩⟩⟩⟩⟩⟩⟩)) (by decide) ?_
  refine gx_iconst (v := (-1 : Int32)) Cx eX6_levelOf_102 (by decide) ?_
  exact gx_rIp h rfl eX6_levelOf_103 hR
set_option maxHeartbeats 4000000 in
set_option maxRecDepth 100000 in
theorem c_X6_nameOf (κ : gx_K) {v0 : Int32} {M : gx_Mem} {r9 : Int32} (hf : f_X6_nameOf v0 M = some r9) : gx_CI κ yX6_nameOf cX6_nameOf 1 (some .int) 0 [.int v0] M r9 M := by
  refine gx_enterI (d := 0) my_X6_nameOf.1 (by decide) (Nat.le_of_ble_eq_true rfl) (fun Γ Cx hR => ?_)
  change gx_G κ Γ 0 [(0, .int v0)] [] M
  have h := hf
  refine gx_iload_n Cx eX6_nameOf_0 0 rfl ?_
  refine gx_case (97 : Int32) h (fun h => ?_) (fun n97 h => ?_)
  · refine gx_lsw (tgt := 60) (off := 59) Cx eX6_nameOf_1 (by decide) (by decide) (by decide) ?_
    refine gx_iconst (v := (0 : Int32)) Cx eX6_nameOf_60 (by decide) ?_
    exact gx_rIp h rfl eX6_nameOf_61 hR
  refine gx_case (102 : Int32) h (fun h => ?_) (fun n102 h => ?_)
  · refine gx_lsw (tgt := 66) (off := 65) Cx eX6_nameOf_1 (by decide) (by decide) (by decide) ?_
    refine gx_iconst (v := (3 : Int32)) Cx eX6_nameOf_66 (by decide) ?_
    exact gx_rIp h rfl eX6_nameOf_67 hR
  refine gx_case (105 : Int32) h (fun h => ?_) (fun n105 h => ?_)
  · refine gx_lsw (tgt := 64) (off := 63) Cx eX6_nameOf_1 (by decide) (by decide) (by decide) ?_
    refine gx_iconst (v := (2 : Int32)) Cx eX6_nameOf_64 (by decide) ?_
    exact gx_rIp h rfl eX6_nameOf_65 hR
  refine gx_case (109 : Int32) h (fun h => ?_) (fun n109 h => ?_)
  · refine gx_lsw (tgt := 68) (off := 67) Cx eX6_nameOf_1 (by decide) (by decide) (by decide) ?_
    refine gx_iconst (v := (4 : Int32)) Cx eX6_nameOf_68 (by decide) ?_
    exact gx_rIp h rfl eX6_nameOf_69 hR
  refine gx_case (110 : Int32) h (fun h => ?_) (fun n110 h => ?_)
  · refine gx_lsw (tgt := 70) (off := 69) Cx eX6_nameOf_1 (by decide) (by decide) (by decide) ?_
    refine gx_iconst (v := (5 : Int32)) Cx eX6_nameOf_70 (by decide) ?_
    exact gx_rIp h rfl eX6_nameOf_71 hR
  refine gx_case (119 : Int32) h (fun h => ?_) (fun n119 h => ?_)
  · refine gx_lsw (tgt := 62) (off := 61) Cx eX6_nameOf_1 (by decide) (by decide) (by decide) ?_
    refine gx_iconst (v := (1 : Int32)) Cx eX6_nameOf_62 (by decide) ?_
    exact gx_rIp h rfl eX6_nameOf_63 hR
  refine gx_lsw (tgt := 72) (off := 71) Cx eX6_nameOf_1 (by decide) (gx_lsw_none (List.forall_mem_cons.mpr ⟨gx_neT (k := 97) n97 (by decide), List.forall_mem_cons.mpr ⟨gx_neT (k := 102) n102 (by decide), List.forall_mem_cons.mpr ⟨gx_neT (k := 105) n105 (by decide), List.forall_mem_cons.mpr ⟨gx_neT (k := 109) n109 (by decide), List.forall_mem_cons.mpr ⟨gx_neT (k := 110) n110 (by decide), List.forall_mem_cons.mpr ⟨gx_neT (k := 119) n119 (by decide), fun _ h => absurd h List.not_mem_nil⟩⟩⟩⟩⟩⟩)) (by decide) ?_
  refine gx_iconst (v := (-1 : Int32)) Cx eX6_nameOf_72 (by decide) ?_
  exact gx_rIp h rfl eX6_nameOf_73 hR
set_option maxHeartbeats 4000000 in
set_option maxRecDepth 100000 in
theorem c_X6_readClose (κ : gx_K)  {M : gx_Mem} {r9 : Int32} {M9 : gx_Mem} (hf : f_X6_readClose M = some (r9, M9)) : gx_CI κ yX6_readClose cX6_readClose 1 (some .boolean) 1 [.ref (gx_a κ 5)] M r9 M9 := by
  refine gx_enterI (d := 1) my_X6_readClose.1 (by decide) (Nat.le_of_ble_eq_true rfl) (fun Γ Cx hR => ?_)
  change gx_G κ Γ 0 [(0, .ref (gx_a κ 5))] [] M
  have h := hf
  refine gx_aload_n Cx eX6_readClose_0 0 rfl ?_
  obtain ⟨y2, h1, h⟩ := gx_bP_of h
  refine gx_callVI (ci := 6) Cx my_X6_next wlX6_35 rfl gx_y5 (by decide) rfl eX6_readClose_1 (c_X6_next κ h1) rfl (Nat.le_of_ble_eq_true rfl) ?_
  refine gx_bipush (v := (41 : Int32)) Cx eX6_readClose_4 (by decide) ?_
  refine gx_icmp_eq (tgt := 11) Cx eX6_readClose_6 (by decide) h (fun h => ?_) (fun h => ?_)
  · refine gx_aload_n Cx eX6_readClose_11 0 rfl ?_
    refine gx_dup Cx eX6_readClose_12 rfl ?_
    refine gfX6_25 Cx eX6_readClose_13 ?_
    refine gx_iconst (v := (1 : Int32)) Cx eX6_readClose_16 (by decide) ?_
    refine gx_iadd Cx eX6_readClose_17 ?_
    refine pfX6_25 Cx eX6_readClose_18 h (fun M3 h => ?_)
    refine gx_iconst (v := (1 : Int32)) Cx eX6_readClose_21 (by decide) ?_
    exact gx_rI h (by decide) eX6_readClose_22 hR
  · refine gx_iconst (v := (0 : Int32)) Cx eX6_readClose_9 (by decide) ?_
    exact gx_rI h (by decide) eX6_readClose_10 hR
set_option maxHeartbeats 4000000 in
set_option maxRecDepth 100000 in
theorem c_X6_readNumber (κ : gx_K)  {M : gx_Mem} {M9 : gx_Mem} (hf : f_X6_readNumber M = some M9) : gx_CV κ yX6_readNumber cX6_readNumber 3 none 1 [.ref (gx_a κ 5)] M M9 := by
  refine gx_enterV (d := 1) my_X6_readNumber.1 (by decide) (Nat.le_of_ble_eq_true rfl) (fun Γ Cx hR => ?_)
  change gx_G κ Γ 0 [(0, .ref (gx_a κ 5))] [] M
  have B56 : ∀ (v1 : Int32) (M : gx_Mem), f_X6_readNumber_b56 v1 M = some M9 → gx_G κ Γ 56 [(0, .ref (gx_a κ 5)), (1, .int v1)] [] M := by
    intro v1 M h
    refine gx_aload_n Cx eX6_readNumber_56 0 rfl ?_
    refine gx_bipush (v := (35 : Int32)) Cx eX6_readNumber_57 (by decide) ?_
    refine gx_iload_n Cx eX6_readNumber_59 1 rfl ?_
    obtain ⟨M11, h10, h⟩ := gx_bP_of h
    refine gx_callVV (ci := 6) Cx my_X6_emit wlX6_45 rfl gx_y5 (by decide) rfl eX6_readNumber_60 (c_X6_emit κ h10) rfl (Nat.le_of_ble_eq_true rfl) ?_
    exact gx_rV h eX6_readNumber_63 hR
  have K4 : ∀  (ag4 : Int32 → Int32 → gx_Mem → Option gx_Mem) (hag4 : ∀ (v1 : Int32) (v2 : Int32) (M : gx_Mem), ag4 v1 v2 M = some M9 → gx_G κ Γ 4 [(0, .ref (gx_a κ 5)), (1, .int v1), (2, .int v2)] [] M) (v1 : Int32) (v2 : Int32) (M : gx_Mem), f_X6_readNumber_k4 ag4 v1 v2 M = some M9 → gx_G κ Γ 4 [(0, .ref (gx_a κ 5)), (1, .int v1), (2, .int v2)] [] M := by
    intro ag4 hag4
    intro v1 v2 M h
    refine gx_iload_n Cx eX6_readNumber_4 2 rfl ?_
    refine gx_iconst (v := (4 : Int32)) Cx eX6_readNumber_5 (by decide) ?_
    refine gx_icmp_ge (tgt := 56) Cx eX6_readNumber_6 (by decide) h (fun h => ?_) (fun h => ?_)
    · refine gx_sub [0, 1] rfl ?_
      exact B56 _ _ h
    · refine gx_aload_n Cx eX6_readNumber_9 0 rfl ?_
      obtain ⟨y2, h1, h⟩ := gx_bP_of h
      refine gx_callVI (ci := 6) Cx my_X6_next wlX6_35 rfl gx_y5 (by decide) rfl eX6_readNumber_10 (c_X6_next κ h1) rfl (Nat.le_of_ble_eq_true rfl) ?_
      refine gx_bipush (v := (48 : Int32)) Cx eX6_readNumber_13 (by decide) ?_
      refine gx_icmp_lt (tgt := 56) Cx eX6_readNumber_15 (by decide) h (fun h => ?_) (fun h => ?_)
      · refine gx_sub [0, 1] rfl ?_
        exact B56 _ _ h
      · refine gx_aload_n Cx eX6_readNumber_18 0 rfl ?_
        obtain ⟨y4, h3, h⟩ := gx_bP_of h
        refine gx_callVI (ci := 6) Cx my_X6_next wlX6_35 rfl gx_y5 (by decide) rfl eX6_readNumber_19 (c_X6_next κ h3) rfl (Nat.le_of_ble_eq_true rfl) ?_
        refine gx_bipush (v := (57 : Int32)) Cx eX6_readNumber_22 (by decide) ?_
        refine gx_icmp_gt (tgt := 56) Cx eX6_readNumber_24 (by decide) h (fun h => ?_) (fun h => ?_)
        · refine gx_sub [0, 1] rfl ?_
          exact B56 _ _ h
        · refine gx_iload_n Cx eX6_readNumber_27 1 rfl ?_
          refine gx_bipush (v := (10 : Int32)) Cx eX6_readNumber_28 (by decide) ?_
          refine gx_imul Cx eX6_readNumber_30 ?_
          refine gx_aload_n Cx eX6_readNumber_31 0 rfl ?_
          obtain ⟨y6, h5, h⟩ := gx_bP_of h
          refine gx_callVI (ci := 6) Cx my_X6_next wlX6_35 rfl gx_y5 (by decide) rfl eX6_readNumber_32 (c_X6_next κ h5) rfl (Nat.le_of_ble_eq_true rfl) ?_
          refine gx_iadd Cx eX6_readNumber_35 ?_
          refine gx_bipush (v := (48 : Int32)) Cx eX6_readNumber_36 (by decide) ?_
          refine gx_isub Cx eX6_readNumber_38 ?_
          refine gx_nmI h (fun x7 h => ?_)
          refine gx_istore_n Cx eX6_readNumber_39 [(1, .int x7), (0, .ref (gx_a κ 5)), (2, .int v2)] rfl (by decide) ?_
          refine gx_aload_n Cx eX6_readNumber_40 1 rfl ?_
          refine gx_dup Cx eX6_readNumber_41 rfl ?_
          refine gfX6_25 Cx eX6_readNumber_42 ?_
          refine gx_iconst (v := (1 : Int32)) Cx eX6_readNumber_45 (by decide) ?_
          refine gx_iadd Cx eX6_readNumber_46 ?_
          refine pfX6_25 Cx eX6_readNumber_47 h (fun M8 h => ?_)
          refine gx_iinc (v := (1 : Int32)) (i := 2) (j := 2) Cx eX6_readNumber_50 (by decide) h 2 rfl (fun w => [(2, .int w), (1, .int x7), (0, .ref (gx_a κ 5))]) (fun _ => rfl) (by decide) (fun x9 h => ?_)
          refine gx_goto (tgt := 4) Cx eX6_readNumber_53 (by decide) ?_
          refine gx_sub [2, 1, 0] rfl ?_
          exact hag4 _ _ _ h
  have L4 : ∀  (n : Nat) (v1 : Int32) (v2 : Int32) (M : gx_Mem), f_X6_readNumber_l4 n v1 v2 M = some M9 → gx_G κ Γ 4 [(0, .ref (gx_a κ 5)), (1, .int v1), (2, .int v2)] [] M := by
    intro n
    induction n with
    | zero => intro v1 v2 M h; exact gx_loop_0 h
    | succ n ih => intro v1 v2 M h; exact K4 (fun v1 v2 M => f_X6_readNumber_l4 n v1 v2 M) ih v1 v2 M h
  have h := hf
  refine gx_iconst (v := (0 : Int32)) Cx eX6_readNumber_0 (by decide) ?_
  refine gx_istore_n Cx eX6_readNumber_1 [(1, .int (0 : Int32)), (0, .ref (gx_a κ 5))] rfl (by decide) ?_
  refine gx_iconst (v := (0 : Int32)) Cx eX6_readNumber_2 (by decide) ?_
  refine gx_istore_n Cx eX6_readNumber_3 [(2, .int (0 : Int32)), (1, .int (0 : Int32)), (0, .ref (gx_a κ 5))] rfl (by decide) ?_
  refine gx_sub [2, 1, 0] rfl ?_
  exact L4 _ _ _ _ h
set_option maxHeartbeats 4000000 in
set_option maxRecDepth 100000 in
theorem c_X6_readLevel_o (κ : gx_K) (dd : Nat) (q_readLevel : Int32 → Int32 → gx_Mem → Option (Int32 × gx_Mem)) (q_readOne : Int32 → gx_Mem → Option (Int32 × gx_Mem)) (hq_readLevel : ∀ {v1 : Int32} {v2 : Int32} {M : gx_Mem} {r9 : Int32} {M9 : gx_Mem}, q_readLevel v1 v2 M = some (r9, M9) → gx_CI κ yX6_readLevel cX6_readLevel 6 (some .boolean) (2 + dd) [.ref (gx_a κ 5), .int v1, .int v2] M r9 M9) (hq_readOne : ∀ {v1 : Int32} {M : gx_Mem} {r9 : Int32} {M9 : gx_Mem}, q_readOne v1 M = some (r9, M9) → gx_CI κ yX6_readOne cX6_readOne 4 (some .boolean) (2 + dd) [.ref (gx_a κ 5), .int v1] M r9 M9) {v1 : Int32} {v2 : Int32} {M : gx_Mem} {r9 : Int32} {M9 : gx_Mem} (hf : f_X6_readLevel_o q_readLevel q_readOne v1 v2 M = some (r9, M9)) : gx_CI κ yX6_readLevel cX6_readLevel 6 (some .boolean) (2 + dd + 1) [.ref (gx_a κ 5), .int v1, .int v2] M r9 M9 := by
  refine gx_enterI (d := 2 + dd + 1) my_X6_readLevel.1 (by decide) (Nat.le_of_ble_eq_true rfl) (fun Γ Cx hR => ?_)
  change gx_G κ Γ 0 [(0, .ref (gx_a κ 5)), (1, .int v1), (2, .int v2)] [] M
  have K39 : ∀ (v3 : Int32) (ag39 : Int32 → gx_Mem → Option (Int32 × gx_Mem)) (hag39 : ∀ (v4 : Int32) (M : gx_Mem), ag39 v4 M = some (r9, M9) → gx_G κ Γ 39 [(0, .ref (gx_a κ 5)), (1, .int v1), (2, .int v2), (3, .int v3), (4, .int v4)] [] M) (v4 : Int32) (M : gx_Mem), f_X6_readLevel_k39 q_readLevel q_readOne v1 v2 v3 ag39 v4 M = some (r9, M9) → gx_G κ Γ 39 [(0, .ref (gx_a κ 5)), (1, .int v1), (2, .int v2), (3, .int v3), (4, .int v4)] [] M := by
    intro v3 ag39 hag39
    intro v4 M h
    refine gx_iload Cx eX6_readLevel_39 4 rfl ?_
    refine gx_iload_n Cx eX6_readLevel_41 3 rfl ?_
    refine gx_icmp_ge (tgt := 98) Cx eX6_readLevel_42 (by decide) h (fun h => ?_) (fun h => ?_)
    · refine gx_iconst (v := (1 : Int32)) Cx eX6_readLevel_98 (by decide) ?_
      exact gx_rI h (by decide) eX6_readLevel_99 hR
    · refine gx_aload_n Cx eX6_readLevel_45 0 rfl ?_
      obtain ⟨y8, h7, h⟩ := gx_bP_of h
      refine gx_callVI (ci := 6) Cx my_X6_next wlX6_35 rfl gx_y5 (by omega) rfl eX6_readLevel_46 (c_X6_next κ h7) rfl (Nat.le_of_ble_eq_true rfl) ?_
      obtain ⟨y10, h9, h⟩ := gx_bP_of h
      refine gx_callSI Cx my_X6_levelOf wlX6_53 (by omega) rfl eX6_readLevel_49 (c_X6_levelOf κ h9) rfl (Nat.le_of_ble_eq_true rfl) ?_
      refine gx_iload_n Cx eX6_readLevel_52 1 rfl ?_
      refine gx_icmp_ne (tgt := 98) Cx eX6_readLevel_53 (by decide) h (fun h => ?_) (fun h => ?_)
      · refine gx_iconst (v := (1 : Int32)) Cx eX6_readLevel_98 (by decide) ?_
        exact gx_rI h (by decide) eX6_readLevel_99 hR
      · refine gx_aload_n Cx eX6_readLevel_56 0 rfl ?_
        obtain ⟨y12, h11, h⟩ := gx_bP_of h
        refine gx_callVI (ci := 6) Cx my_X6_next wlX6_35 rfl gx_y5 (by omega) rfl eX6_readLevel_57 (c_X6_next κ h11) rfl (Nat.le_of_ble_eq_true rfl) ?_
        refine gx_istore Cx eX6_readLevel_60 [(5, .int y12), (0, .ref (gx_a κ 5)), (1, .int v1), (2, .int v2), (3, .int v3), (4, .int v4)] rfl (by decide) ?_
        refine gx_aload_n Cx eX6_readLevel_62 1 rfl ?_
        refine gx_dup Cx eX6_readLevel_63 rfl ?_
        refine gfX6_25 Cx eX6_readLevel_64 ?_
        refine gx_iconst (v := (1 : Int32)) Cx eX6_readLevel_67 (by decide) ?_
        refine gx_iadd Cx eX6_readLevel_68 ?_
        refine pfX6_25 Cx eX6_readLevel_69 h (fun M13 h => ?_)
        refine gx_aload_n Cx eX6_readLevel_72 1 rfl ?_
        refine gx_iload_n Cx eX6_readLevel_73 2 rfl ?_
        refine gx_iconst (v := (1 : Int32)) Cx eX6_readLevel_74 (by decide) ?_
        refine gx_iadd Cx eX6_readLevel_75 ?_
        refine gx_iload_n Cx eX6_readLevel_76 3 rfl ?_
        obtain ⟨y15, M16, h14, h⟩ := gx_bI_of h
        refine gx_callVI (ci := 6) Cx my_X6_readLevel wlX6_39 rfl gx_y5 (Nat.le_refl _) rfl eX6_readLevel_77 (hq_readLevel h14) rfl (Nat.le_of_ble_eq_true rfl) ?_
        refine gx_if_ne (tgt := 85) Cx eX6_readLevel_80 (by decide) h (fun h => ?_) (fun h => ?_)
        · refine gx_aload_n Cx eX6_readLevel_85 1 rfl ?_
          refine gx_iload Cx eX6_readLevel_86 0 rfl ?_
          refine gx_iconst (v := (0 : Int32)) Cx eX6_readLevel_88 (by decide) ?_
          obtain ⟨M18, h17, h⟩ := gx_bP_of h
          refine gx_callVV (ci := 6) Cx my_X6_emit wlX6_45 rfl gx_y5 (by omega) rfl eX6_readLevel_89 (c_X6_emit κ h17) rfl (Nat.le_of_ble_eq_true rfl) ?_
          refine gx_iinc (v := (1 : Int32)) (i := 4) (j := 5) Cx eX6_readLevel_92 (by decide) h 5 rfl (fun w => [(4, .int w), (5, .int y12), (0, .ref (gx_a κ 5)), (1, .int v1), (2, .int v2), (3, .int v3)]) (fun _ => rfl) (by decide) (fun x19 h => ?_)
          refine gx_goto (tgt := 39) Cx eX6_readLevel_95 (by decide) ?_
          refine gx_sub [2, 3, 4, 5, 0] rfl ?_
          exact hag39 _ _ h
        · refine gx_iconst (v := (0 : Int32)) Cx eX6_readLevel_83 (by decide) ?_
          exact gx_rI h (by decide) eX6_readLevel_84 hR
  have L39 : ∀ (v3 : Int32) (n : Nat) (v4 : Int32) (M : gx_Mem), f_X6_readLevel_l39 q_readLevel q_readOne v1 v2 v3 n v4 M = some (r9, M9) → gx_G κ Γ 39 [(0, .ref (gx_a κ 5)), (1, .int v1), (2, .int v2), (3, .int v3), (4, .int v4)] [] M := by
    intro v3 n
    induction n with
    | zero => intro v4 M h; exact gx_loop_0 h
    | succ n ih => intro v4 M h; exact K39 v3 (fun v4 M => f_X6_readLevel_l39 q_readLevel q_readOne v1 v2 v3 n v4 M) ih v4 M h
  have B35 : ∀ (s0 : Int32) (M : gx_Mem), f_X6_readLevel_b35 q_readLevel q_readOne v1 v2 s0 M = some (r9, M9) → gx_G κ Γ 35 [(0, .ref (gx_a κ 5)), (1, .int v1), (2, .int v2)] [.int s0] M := by
    intro s0 M h
    refine gx_istore_n Cx eX6_readLevel_35 [(3, .int s0), (0, .ref (gx_a κ 5)), (1, .int v1), (2, .int v2)] rfl (by decide) ?_
    refine gx_iconst (v := (0 : Int32)) Cx eX6_readLevel_36 (by decide) ?_
    refine gx_istore Cx eX6_readLevel_37 [(4, .int (0 : Int32)), (3, .int s0), (0, .ref (gx_a κ 5)), (1, .int v1), (2, .int v2)] rfl (by decide) ?_
    refine gx_sub [2, 3, 4, 1, 0] rfl ?_
    exact L39 _ _ _ _ h
  have h := hf
  refine gx_iload_n Cx eX6_readLevel_0 1 rfl ?_
  refine gx_iconst (v := (5 : Int32)) Cx eX6_readLevel_1 (by decide) ?_
  refine gx_icmp_lt (tgt := 11) Cx eX6_readLevel_2 (by decide) h (fun h => ?_) (fun h => ?_)
  · refine gx_aload_n Cx eX6_readLevel_11 0 rfl ?_
    refine gx_iload_n Cx eX6_readLevel_12 1 rfl ?_
    refine gx_iconst (v := (1 : Int32)) Cx eX6_readLevel_13 (by decide) ?_
    refine gx_iadd Cx eX6_readLevel_14 ?_
    refine gx_iload_n Cx eX6_readLevel_15 2 rfl ?_
    obtain ⟨y2, M3, h1, h⟩ := gx_bI_of h
    refine gx_callVI (ci := 6) Cx my_X6_readLevel wlX6_39 rfl gx_y5 (Nat.le_refl _) rfl eX6_readLevel_16 (hq_readLevel h1) rfl (Nat.le_of_ble_eq_true rfl) ?_
    refine gx_if_ne (tgt := 24) Cx eX6_readLevel_19 (by decide) h (fun h => ?_) (fun h => ?_)
    · refine gx_iload_n Cx eX6_readLevel_24 1 rfl ?_
      refine gx_iconst (v := (2 : Int32)) Cx eX6_readLevel_25 (by decide) ?_
      refine gx_icmp_ne (tgt := 33) Cx eX6_readLevel_26 (by decide) h (fun h => ?_) (fun h => ?_)
      · refine gx_bipush (v := (120 : Int32)) Cx eX6_readLevel_33 (by decide) ?_
        exact B35 _ _ h
      · refine gx_iconst (v := (1 : Int32)) Cx eX6_readLevel_29 (by decide) ?_
        refine gx_goto (tgt := 35) Cx eX6_readLevel_30 (by decide) ?_
        exact B35 _ _ h
    · refine gx_iconst (v := (0 : Int32)) Cx eX6_readLevel_22 (by decide) ?_
      exact gx_rI h (by decide) eX6_readLevel_23 hR
  · refine gx_aload_n Cx eX6_readLevel_5 0 rfl ?_
    refine gx_iload_n Cx eX6_readLevel_6 2 rfl ?_
    obtain ⟨y5, M6, h4, h⟩ := gx_bI_of h
    refine gx_callVI (ci := 6) Cx my_X6_readOne wlX6_49 rfl gx_y5 (Nat.le_refl _) rfl eX6_readLevel_7 (hq_readOne h4) rfl (Nat.le_of_ble_eq_true rfl) ?_
    exact gx_rZ h eX6_readLevel_10 hR
set_option maxHeartbeats 4000000 in
set_option maxRecDepth 100000 in
theorem c_X6_readOne_o (κ : gx_K) (dd : Nat) (q_readLevel : Int32 → Int32 → gx_Mem → Option (Int32 × gx_Mem)) (q_readOne : Int32 → gx_Mem → Option (Int32 × gx_Mem)) (hq_readLevel : ∀ {v1 : Int32} {v2 : Int32} {M : gx_Mem} {r9 : Int32} {M9 : gx_Mem}, q_readLevel v1 v2 M = some (r9, M9) → gx_CI κ yX6_readLevel cX6_readLevel 6 (some .boolean) (2 + dd) [.ref (gx_a κ 5), .int v1, .int v2] M r9 M9) (hq_readOne : ∀ {v1 : Int32} {M : gx_Mem} {r9 : Int32} {M9 : gx_Mem}, q_readOne v1 M = some (r9, M9) → gx_CI κ yX6_readOne cX6_readOne 4 (some .boolean) (2 + dd) [.ref (gx_a κ 5), .int v1] M r9 M9) {v1 : Int32} {M : gx_Mem} {r9 : Int32} {M9 : gx_Mem} (hf : f_X6_readOne_o q_readLevel q_readOne v1 M = some (r9, M9)) : gx_CI κ yX6_readOne cX6_readOne 4 (some .boolean) (2 + dd + 1) [.ref (gx_a κ 5), .int v1] M r9 M9 := by
  refine gx_enterI (d := 2 + dd + 1) my_X6_readOne.1 (by decide) (Nat.le_of_ble_eq_true rfl) (fun Γ Cx hR => ?_)
  change gx_G κ Γ 0 [(0, .ref (gx_a κ 5)), (1, .int v1)] [] M
  have B142 : ∀ (s1 : Int32) (M : gx_Mem), f_X6_readOne_b142 q_readLevel q_readOne s1 M = some (r9, M9) → gx_G κ Γ 142 [] [.int s1, .ref (gx_a κ 5)] M := by
    intro s1 M h
    refine gx_iconst (v := (0 : Int32)) Cx eX6_readOne_142 (by decide) ?_
    obtain ⟨M21, h20, h⟩ := gx_bP_of h
    refine gx_callVV (ci := 6) Cx my_X6_emit wlX6_45 rfl gx_y5 (by omega) rfl eX6_readOne_143 (c_X6_emit κ h20) rfl (Nat.le_of_ble_eq_true rfl) ?_
    refine gx_iconst (v := (1 : Int32)) Cx eX6_readOne_146 (by decide) ?_
    exact gx_rI h (by decide) eX6_readOne_147 hR
  have B69 : ∀ (v2 : Int32) (M : gx_Mem), f_X6_readOne_b69 q_readLevel q_readOne v1 v2 M = some (r9, M9) → gx_G κ Γ 69 [(0, .ref (gx_a κ 5)), (1, .int v1), (2, .int v2)] [] M := by
    intro v2 M h
    refine gx_iload_n Cx eX6_readOne_69 1 rfl ?_
    refine gx_bipush (v := (6 : Int32)) Cx eX6_readOne_70 (by decide) ?_
    refine gx_icmp_lt (tgt := 77) Cx eX6_readOne_72 (by decide) h (fun h => ?_) (fun h => ?_)
    · refine gx_aload_n Cx eX6_readOne_77 0 rfl ?_
      refine gx_dup Cx eX6_readOne_78 rfl ?_
      refine gfX6_25 Cx eX6_readOne_79 ?_
      refine gx_iconst (v := (1 : Int32)) Cx eX6_readOne_82 (by decide) ?_
      refine gx_iadd Cx eX6_readOne_83 ?_
      refine pfX6_25 Cx eX6_readOne_84 h (fun M10 h => ?_)
      refine gx_iload_n Cx eX6_readOne_87 2 rfl ?_
      refine gx_bipush (v := (40 : Int32)) Cx eX6_readOne_88 (by decide) ?_
      refine gx_icmp_ne (tgt := 117) Cx eX6_readOne_90 (by decide) h (fun h => ?_) (fun h => ?_)
      · refine gx_aload_n Cx eX6_readOne_117 0 rfl ?_
        refine gx_iload_n Cx eX6_readOne_118 1 rfl ?_
        refine gx_iconst (v := (1 : Int32)) Cx eX6_readOne_119 (by decide) ?_
        refine gx_iadd Cx eX6_readOne_120 ?_
        obtain ⟨y12, M13, h11, h⟩ := gx_bI_of h
        refine gx_callVI (ci := 6) Cx my_X6_readOne wlX6_49 rfl gx_y5 (Nat.le_refl _) rfl eX6_readOne_121 (hq_readOne h11) rfl (Nat.le_of_ble_eq_true rfl) ?_
        refine gx_if_ne (tgt := 129) Cx eX6_readOne_124 (by decide) h (fun h => ?_) (fun h => ?_)
        · refine gx_aload_n Cx eX6_readOne_129 0 rfl ?_
          refine gx_iload_n Cx eX6_readOne_130 2 rfl ?_
          refine gx_bipush (v := (45 : Int32)) Cx eX6_readOne_131 (by decide) ?_
          refine gx_icmp_ne (tgt := 141) Cx eX6_readOne_133 (by decide) h (fun h => ?_) (fun h => ?_)
          · refine gx_iload_n Cx eX6_readOne_141 2 rfl ?_
            refine gx_sub [] rfl ?_
            exact B142 _ _ h
          · refine gx_bipush (v := (126 : Int32)) Cx eX6_readOne_136 (by decide) ?_
            refine gx_goto (tgt := 142) Cx eX6_readOne_138 (by decide) ?_
            refine gx_sub [] rfl ?_
            exact B142 _ _ h
        · refine gx_iconst (v := (0 : Int32)) Cx eX6_readOne_127 (by decide) ?_
          exact gx_rI h (by decide) eX6_readOne_128 hR
      · refine gx_aload_n Cx eX6_readOne_93 0 rfl ?_
        refine gx_iconst (v := (0 : Int32)) Cx eX6_readOne_94 (by decide) ?_
        refine gx_iload_n Cx eX6_readOne_95 1 rfl ?_
        refine gx_iconst (v := (1 : Int32)) Cx eX6_readOne_96 (by decide) ?_
        refine gx_iadd Cx eX6_readOne_97 ?_
        obtain ⟨y15, M16, h14, h⟩ := gx_bI_of h
        refine gx_callVI (ci := 6) Cx my_X6_readLevel wlX6_39 rfl gx_y5 (Nat.le_refl _) rfl eX6_readOne_98 (hq_readLevel h14) rfl (Nat.le_of_ble_eq_true rfl) ?_
        refine gx_if_eq (tgt := 115) Cx eX6_readOne_101 (by decide) h (fun h => ?_) (fun h => ?_)
        · refine gx_iconst (v := (0 : Int32)) Cx eX6_readOne_115 (by decide) ?_
          exact gx_rI h (by decide) eX6_readOne_116 hR
        · refine gx_aload_n Cx eX6_readOne_104 0 rfl ?_
          obtain ⟨y18, M19, h17, h⟩ := gx_bI_of h
          refine gx_callVI (ci := 6) Cx my_X6_readClose wlX6_63 rfl gx_y5 (by omega) rfl eX6_readOne_105 (c_X6_readClose κ h17) rfl (Nat.le_of_ble_eq_true rfl) ?_
          refine gx_if_eq (tgt := 115) Cx eX6_readOne_108 (by decide) h (fun h => ?_) (fun h => ?_)
          · refine gx_iconst (v := (0 : Int32)) Cx eX6_readOne_115 (by decide) ?_
            exact gx_rI h (by decide) eX6_readOne_116 hR
          · refine gx_iconst (v := (1 : Int32)) Cx eX6_readOne_111 (by decide) ?_
            refine gx_goto (tgt := 116) Cx eX6_readOne_112 (by decide) ?_
            exact gx_rI h (by decide) eX6_readOne_116 hR
    · refine gx_iconst (v := (0 : Int32)) Cx eX6_readOne_75 (by decide) ?_
      exact gx_rI h (by decide) eX6_readOne_76 hR
  have B23 : ∀ (v2 : Int32) (M : gx_Mem), f_X6_readOne_b23 q_readLevel q_readOne v1 v2 M = some (r9, M9) → gx_G κ Γ 23 [(0, .ref (gx_a κ 5)), (1, .int v1), (2, .int v2)] [] M := by
    intro v2 M h
    refine gx_iload_n Cx eX6_readOne_23 2 rfl ?_
    obtain ⟨y6, h5, h⟩ := gx_bP_of h
    refine gx_callSI Cx my_X6_nameOf wlX6_60 (by omega) rfl eX6_readOne_24 (c_X6_nameOf κ h5) rfl (Nat.le_of_ble_eq_true rfl) ?_
    refine gx_istore_n Cx eX6_readOne_27 [(3, .int y6), (0, .ref (gx_a κ 5)), (1, .int v1), (2, .int v2)] rfl (by decide) ?_
    refine gx_iload_n Cx eX6_readOne_28 0 rfl ?_
    refine gx_if_lt (tgt := 51) Cx eX6_readOne_29 (by decide) h (fun h => ?_) (fun h => ?_)
    · refine gx_iload_n Cx eX6_readOne_51 3 rfl ?_
      refine gx_bipush (v := (40 : Int32)) Cx eX6_readOne_52 (by decide) ?_
      refine gx_icmp_eq (tgt := 69) Cx eX6_readOne_54 (by decide) h (fun h => ?_) (fun h => ?_)
      · refine gx_sub [1, 2, 3] rfl ?_
        exact B69 _ _ h
      · refine gx_iload_n Cx eX6_readOne_57 3 rfl ?_
        refine gx_bipush (v := (33 : Int32)) Cx eX6_readOne_58 (by decide) ?_
        refine gx_icmp_eq (tgt := 69) Cx eX6_readOne_60 (by decide) h (fun h => ?_) (fun h => ?_)
        · refine gx_sub [1, 2, 3] rfl ?_
          exact B69 _ _ h
        · refine gx_iload_n Cx eX6_readOne_63 3 rfl ?_
          refine gx_bipush (v := (45 : Int32)) Cx eX6_readOne_64 (by decide) ?_
          refine gx_icmp_ne (tgt := 75) Cx eX6_readOne_66 (by decide) h (fun h => ?_) (fun h => ?_)
          · refine gx_iconst (v := (0 : Int32)) Cx eX6_readOne_75 (by decide) ?_
            exact gx_rI h (by decide) eX6_readOne_76 hR
          · refine gx_sub [1, 2, 3] rfl ?_
            exact B69 _ _ h
    · refine gx_aload_n Cx eX6_readOne_32 1 rfl ?_
      refine gx_dup Cx eX6_readOne_33 rfl ?_
      refine gfX6_25 Cx eX6_readOne_34 ?_
      refine gx_iconst (v := (1 : Int32)) Cx eX6_readOne_37 (by decide) ?_
      refine gx_iadd Cx eX6_readOne_38 ?_
      refine pfX6_25 Cx eX6_readOne_39 h (fun M7 h => ?_)
      refine gx_aload_n Cx eX6_readOne_42 1 rfl ?_
      refine gx_bipush (v := (36 : Int32)) Cx eX6_readOne_43 (by decide) ?_
      refine gx_iload_n Cx eX6_readOne_45 0 rfl ?_
      obtain ⟨M9, h8, h⟩ := gx_bP_of h
      refine gx_callVV (ci := 6) Cx my_X6_emit wlX6_45 rfl gx_y5 (by omega) rfl eX6_readOne_46 (c_X6_emit κ h8) rfl (Nat.le_of_ble_eq_true rfl) ?_
      refine gx_iconst (v := (1 : Int32)) Cx eX6_readOne_49 (by decide) ?_
      exact gx_rI h (by decide) eX6_readOne_50 hR
  have h := hf
  refine gx_aload_n Cx eX6_readOne_0 0 rfl ?_
  obtain ⟨y2, h1, h⟩ := gx_bP_of h
  refine gx_callVI (ci := 6) Cx my_X6_next wlX6_35 rfl gx_y5 (by omega) rfl eX6_readOne_1 (c_X6_next κ h1) rfl (Nat.le_of_ble_eq_true rfl) ?_
  refine gx_istore_n Cx eX6_readOne_4 [(2, .int y2), (0, .ref (gx_a κ 5)), (1, .int v1)] rfl (by decide) ?_
  refine gx_iload_n Cx eX6_readOne_5 0 rfl ?_
  refine gx_bipush (v := (48 : Int32)) Cx eX6_readOne_6 (by decide) ?_
  refine gx_icmp_lt (tgt := 23) Cx eX6_readOne_8 (by decide) h (fun h => ?_) (fun h => ?_)
  · refine gx_sub [1, 2, 0] rfl ?_
    exact B23 _ _ h
  · refine gx_iload_n Cx eX6_readOne_11 0 rfl ?_
    refine gx_bipush (v := (57 : Int32)) Cx eX6_readOne_12 (by decide) ?_
    refine gx_icmp_gt (tgt := 23) Cx eX6_readOne_14 (by decide) h (fun h => ?_) (fun h => ?_)
    · refine gx_sub [1, 2, 0] rfl ?_
      exact B23 _ _ h
    · refine gx_aload_n Cx eX6_readOne_17 1 rfl ?_
      obtain ⟨M4, h3, h⟩ := gx_bP_of h
      refine gx_callVV (ci := 6) Cx my_X6_readNumber wlX6_57 rfl gx_y5 (by omega) rfl eX6_readOne_18 (c_X6_readNumber κ h3) rfl (Nat.le_of_ble_eq_true rfl) ?_
      refine gx_iconst (v := (1 : Int32)) Cx eX6_readOne_21 (by decide) ?_
      exact gx_rI h (by decide) eX6_readOne_22 hR
theorem g_readLevel_readOne (κ : gx_K) : ∀ d : Nat, (∀ {v1 : Int32} {v2 : Int32} {M : gx_Mem} {r9 : Int32} {M9 : gx_Mem}, f_X6_readLevel d v1 v2 M = some (r9, M9) → gx_CI κ yX6_readLevel cX6_readLevel 6 (some .boolean) (2 + d) [.ref (gx_a κ 5), .int v1, .int v2] M r9 M9) ∧ (∀ {v1 : Int32} {M : gx_Mem} {r9 : Int32} {M9 : gx_Mem}, f_X6_readOne d v1 M = some (r9, M9) → gx_CI κ yX6_readOne cX6_readOne 4 (some .boolean) (2 + d) [.ref (gx_a κ 5), .int v1] M r9 M9) := by
  intro d
  induction d with
  | zero => exact ⟨(by intros; rename_i q; cases q), (by intros; rename_i q; cases q)⟩
  | succ d ih =>
    exact ⟨(by intro v1 v2 M r9 M9 hf; exact c_X6_readLevel_o κ d (f_X6_readLevel d) (f_X6_readOne d) (fun h => ih.1 h) (fun h => ih.2 h)  hf), (by intro v1 M r9 M9 hf; exact c_X6_readOne_o κ d (f_X6_readLevel d) (f_X6_readOne d) (fun h => ih.1 h) (fun h => ih.2 h)  hf)⟩
theorem c_X6_readLevel (κ : gx_K) {v1 : Int32} {v2 : Int32} {M : gx_Mem} {r9 : Int32} {M9 : gx_Mem} (hf : f_X6_readLevel gx_dep v1 v2 M = some (r9, M9)) : gx_CI κ yX6_readLevel cX6_readLevel 6 (some .boolean) 102 [.ref (gx_a κ 5), .int v1, .int v2] M r9 M9 := (g_readLevel_readOne κ gx_dep).1  hf
theorem c_X6_readOne (κ : gx_K) {v1 : Int32} {M : gx_Mem} {r9 : Int32} {M9 : gx_Mem} (hf : f_X6_readOne gx_dep v1 M = some (r9, M9)) : gx_CI κ yX6_readOne cX6_readOne 4 (some .boolean) 102 [.ref (gx_a κ 5), .int v1] M r9 M9 := (g_readLevel_readOne κ gx_dep).2  hf
set_option maxHeartbeats 4000000 in
set_option maxRecDepth 100000 in
theorem c_X6_readLine (κ : gx_K)  {M : gx_Mem} {r9 : Int32} {M9 : gx_Mem} (hf : f_X6_readLine M = some (r9, M9)) : gx_CI κ yX6_readLine cX6_readLine 1 (some .boolean) 103 [.ref (gx_a κ 5)] M r9 M9 := by
  refine gx_enterI (d := 103) my_X6_readLine.1 (by decide) (Nat.le_of_ble_eq_true rfl) (fun Γ Cx hR => ?_)
  change gx_G κ Γ 0 [(0, .ref (gx_a κ 5))] [] M
  have B48 : ∀  (M : gx_Mem), f_X6_readLine_b48 M = some (r9, M9) → gx_G κ Γ 48 [(0, .ref (gx_a κ 5))] [] M := by
    intro M h
    refine gx_aload_n Cx eX6_readLine_48 0 rfl ?_
    refine gx_bipush (v := (59 : Int32)) Cx eX6_readLine_49 (by decide) ?_
    refine gx_iconst (v := (0 : Int32)) Cx eX6_readLine_51 (by decide) ?_
    obtain ⟨M13, h12, h⟩ := gx_bP_of h
    refine gx_callVV (ci := 6) Cx my_X6_emit wlX6_45 rfl gx_y5 (by decide) rfl eX6_readLine_52 (c_X6_emit κ h12) rfl (Nat.le_of_ble_eq_true rfl) ?_
    refine gx_iconst (v := (1 : Int32)) Cx eX6_readLine_55 (by decide) ?_
    exact gx_rI h (by decide) eX6_readLine_56 hR
  have h := hf
  refine gx_aload_n Cx eX6_readLine_0 0 rfl ?_
  refine gx_iconst (v := (0 : Int32)) Cx eX6_readLine_1 (by decide) ?_
  refine gx_iconst (v := (0 : Int32)) Cx eX6_readLine_2 (by decide) ?_
  obtain ⟨y2, M3, h1, h⟩ := gx_bI_of h
  refine gx_callVI (ci := 6) Cx my_X6_readLevel wlX6_39 rfl gx_y5 (by decide) rfl eX6_readLine_3 (c_X6_readLevel κ h1) rfl (Nat.le_of_ble_eq_true rfl) ?_
  refine gx_if_ne (tgt := 11) Cx eX6_readLine_6 (by decide) h (fun h => ?_) (fun h => ?_)
  · refine gx_aload_n Cx eX6_readLine_11 0 rfl ?_
    obtain ⟨y5, h4, h⟩ := gx_bP_of h
    refine gx_callVI (ci := 6) Cx my_X6_next wlX6_35 rfl gx_y5 (by decide) rfl eX6_readLine_12 (c_X6_next κ h4) rfl (Nat.le_of_ble_eq_true rfl) ?_
    refine gx_bipush (v := (63 : Int32)) Cx eX6_readLine_15 (by decide) ?_
    refine gx_icmp_ne (tgt := 48) Cx eX6_readLine_17 (by decide) h (fun h => ?_) (fun h => ?_)
    · exact B48 _ h
    · refine gx_aload_n Cx eX6_readLine_20 0 rfl ?_
      refine gx_dup Cx eX6_readLine_21 rfl ?_
      refine gfX6_25 Cx eX6_readLine_22 ?_
      refine gx_iconst (v := (1 : Int32)) Cx eX6_readLine_25 (by decide) ?_
      refine gx_iadd Cx eX6_readLine_26 ?_
      refine pfX6_25 Cx eX6_readLine_27 h (fun M6 h => ?_)
      refine gx_aload_n Cx eX6_readLine_30 0 rfl ?_
      refine gx_bipush (v := (63 : Int32)) Cx eX6_readLine_31 (by decide) ?_
      refine gx_iconst (v := (0 : Int32)) Cx eX6_readLine_33 (by decide) ?_
      obtain ⟨M8, h7, h⟩ := gx_bP_of h
      refine gx_callVV (ci := 6) Cx my_X6_emit wlX6_45 rfl gx_y5 (by decide) rfl eX6_readLine_34 (c_X6_emit κ h7) rfl (Nat.le_of_ble_eq_true rfl) ?_
      refine gx_aload_n Cx eX6_readLine_37 0 rfl ?_
      refine gx_iconst (v := (0 : Int32)) Cx eX6_readLine_38 (by decide) ?_
      refine gx_iconst (v := (0 : Int32)) Cx eX6_readLine_39 (by decide) ?_
      obtain ⟨y10, M11, h9, h⟩ := gx_bI_of h
      refine gx_callVI (ci := 6) Cx my_X6_readLevel wlX6_39 rfl gx_y5 (by decide) rfl eX6_readLine_40 (c_X6_readLevel κ h9) rfl (Nat.le_of_ble_eq_true rfl) ?_
      refine gx_if_ne (tgt := 48) Cx eX6_readLine_43 (by decide) h (fun h => ?_) (fun h => ?_)
      · exact B48 _ h
      · refine gx_iconst (v := (0 : Int32)) Cx eX6_readLine_46 (by decide) ?_
        exact gx_rI h (by decide) eX6_readLine_47 hR
  · refine gx_iconst (v := (0 : Int32)) Cx eX6_readLine_9 (by decide) ?_
    exact gx_rI h (by decide) eX6_readLine_10 hR
set_option maxHeartbeats 4000000 in
set_option maxRecDepth 100000 in
theorem c_X6_read (κ : gx_K)  {M : gx_Mem} {r9 : Int32} {M9 : gx_Mem} (hf : f_X6_read M = some (r9, M9)) : gx_CI κ yX6_read cX6_read 2 (some .boolean) 104 [.ref (gx_a κ 5)] M r9 M9 := by
  refine gx_enterI (d := 104) my_X6_read.1 (by decide) (Nat.le_of_ble_eq_true rfl) (fun Γ Cx hR => ?_)
  change gx_G κ Γ 0 [(0, .ref (gx_a κ 5))] [] M
  have K12 : ∀  (ag12 : Int32 → gx_Mem → Option (Int32 × gx_Mem)) (hag12 : ∀ (v1 : Int32) (M : gx_Mem), ag12 v1 M = some (r9, M9) → gx_G κ Γ 12 [(0, .ref (gx_a κ 5)), (1, .int v1)] [] M) (v1 : Int32) (M : gx_Mem), f_X6_read_k12 ag12 v1 M = some (r9, M9) → gx_G κ Γ 12 [(0, .ref (gx_a κ 5)), (1, .int v1)] [] M := by
    intro ag12 hag12
    intro v1 M h
    refine gx_iload_n Cx eX6_read_12 1 rfl ?_
    refine gx_bipush (v := (120 : Int32)) Cx eX6_read_13 (by decide) ?_
    refine gx_icmp_gt (tgt := 67) Cx eX6_read_15 (by decide) h (fun h => ?_) (fun h => ?_)
    · refine gx_iconst (v := (0 : Int32)) Cx eX6_read_67 (by decide) ?_
      exact gx_rI h (by decide) eX6_read_68 hR
    · refine gx_aload_n Cx eX6_read_18 0 rfl ?_
      obtain ⟨y4, M5, h3, h⟩ := gx_bI_of h
      refine gx_callVI (ci := 6) Cx my_X6_readLine wlX6_31 rfl gx_y5 (by decide) rfl eX6_read_19 (c_X6_readLine κ h3) rfl (Nat.le_of_ble_eq_true rfl) ?_
      refine gx_if_ne (tgt := 27) Cx eX6_read_22 (by decide) h (fun h => ?_) (fun h => ?_)
      · refine gx_aload_n Cx eX6_read_27 0 rfl ?_
        refine gfX6_25 Cx eX6_read_28 ?_
        refine gx_aload_n Cx eX6_read_31 0 rfl ?_
        refine gfX6_21 Cx eX6_read_32 ?_
        refine gx_icmp_lt (tgt := 40) Cx eX6_read_35 (by decide) h (fun h => ?_) (fun h => ?_)
        · refine gx_aload_n Cx eX6_read_40 0 rfl ?_
          obtain ⟨y7, h6, h⟩ := gx_bP_of h
          refine gx_callVI (ci := 6) Cx my_X6_next wlX6_35 rfl gx_y5 (by decide) rfl eX6_read_41 (c_X6_next κ h6) rfl (Nat.le_of_ble_eq_true rfl) ?_
          refine gx_bipush (v := (59 : Int32)) Cx eX6_read_44 (by decide) ?_
          refine gx_icmp_eq (tgt := 51) Cx eX6_read_46 (by decide) h (fun h => ?_) (fun h => ?_)
          · refine gx_aload_n Cx eX6_read_51 0 rfl ?_
            refine gx_dup Cx eX6_read_52 rfl ?_
            refine gfX6_25 Cx eX6_read_53 ?_
            refine gx_iconst (v := (1 : Int32)) Cx eX6_read_56 (by decide) ?_
            refine gx_iadd Cx eX6_read_57 ?_
            refine pfX6_25 Cx eX6_read_58 h (fun M8 h => ?_)
            refine gx_iinc (v := (1 : Int32)) (i := 1) (j := 1) Cx eX6_read_61 (by decide) h 1 rfl (fun w => [(1, .int w), (0, .ref (gx_a κ 5))]) (fun _ => rfl) (by decide) (fun x9 h => ?_)
            refine gx_goto (tgt := 12) Cx eX6_read_64 (by decide) ?_
            refine gx_sub [1, 0] rfl ?_
            exact hag12 _ _ h
          · refine gx_iconst (v := (0 : Int32)) Cx eX6_read_49 (by decide) ?_
            exact gx_rI h (by decide) eX6_read_50 hR
        · refine gx_iconst (v := (1 : Int32)) Cx eX6_read_38 (by decide) ?_
          exact gx_rI h (by decide) eX6_read_39 hR
      · refine gx_iconst (v := (0 : Int32)) Cx eX6_read_25 (by decide) ?_
        exact gx_rI h (by decide) eX6_read_26 hR
  have L12 : ∀  (n : Nat) (v1 : Int32) (M : gx_Mem), f_X6_read_l12 n v1 M = some (r9, M9) → gx_G κ Γ 12 [(0, .ref (gx_a κ 5)), (1, .int v1)] [] M := by
    intro n
    induction n with
    | zero => intro v1 M h; exact gx_loop_0 h
    | succ n ih => intro v1 M h; exact K12 (fun v1 M => f_X6_read_l12 n v1 M) ih v1 M h
  have h := hf
  refine gx_aload_n Cx eX6_read_0 0 rfl ?_
  refine gx_iconst (v := (0 : Int32)) Cx eX6_read_1 (by decide) ?_
  refine pfX6_25 Cx eX6_read_2 h (fun M1 h => ?_)
  refine gx_aload_n Cx eX6_read_5 0 rfl ?_
  refine gx_iconst (v := (0 : Int32)) Cx eX6_read_6 (by decide) ?_
  refine pfX6_28 Cx eX6_read_7 h (fun M2 h => ?_)
  refine gx_iconst (v := (0 : Int32)) Cx eX6_read_10 (by decide) ?_
  refine gx_istore_n Cx eX6_read_11 [(1, .int (0 : Int32)), (0, .ref (gx_a κ 5))] rfl (by decide) ?_
  refine gx_sub [1, 0] rfl ?_
  exact L12 _ _ _ h

def f_X7_isBody (v1 : Int32) (M : gx_Mem) : Option Int32 := (if v1 < 0 then some (0 : Int32) else (if (M.1 40 2) ≤ v1 then some (0 : Int32) else some (1 : Int32)))
def f_X7_act_b17    (M : gx_Mem) : Option (Int32 × gx_Mem) := gx_let (gx_sI M 40 3 (0 : Int32)) (fun M6 => some ((0 : Int32), M6))
def f_X7_act (v1 : Int32) (v2 : Int32) (v3 : Int32) (M : gx_Mem) : Option (Int32 × gx_Mem) := gx_bP (f_X7_isBody v1 M) (fun y2 => (if y2 = 0 then f_X7_act_b17 M else (if v2 < 0 then f_X7_act_b17 M else (if v2 ≤ (3 : Int32) then gx_bI (f_X0_acted v2 v1 v3 M) (fun y4 M5 => some (y4, M5)) else f_X7_act_b17 M))))
def f_X7_isFlat (v0 : Int32) (M : gx_Mem) : Option Int32 := (if v0 < 0 then some (0 : Int32) else (if (24 : Int32) ≤ v0 then some (0 : Int32) else some (1 : Int32)))
def f_X7_awning (v1 : Int32) (M : gx_Mem) : Option (Int32 × gx_Mem) := gx_bP (f_X7_isFlat v1 M) (fun y2 => (if y2 = 0 then some ((-1 : Int32), M) else gx_gd (gx_in v1 24) (gx_gd (gx_in v1 24) (gx_let (gx_sI M 14 v1.toNatClampNeg (gx_min (9 : Int32) ((M.1 14 v1.toNatClampNeg) + (1 : Int32)))) (fun M3 => gx_let (gx_sI M3 15 (2 : Int32).toNatClampNeg ((M3.1 15 (2 : Int32).toNatClampNeg) + (1 : Int32))) (fun M4 => gx_gd (gx_in v1 24) (some ((M4.1 14 v1.toNatClampNeg), M4))))))))
def f_X7_back (M : gx_Mem) : Option (Int32 × gx_Mem) := (if (M.1 56 8) = 0 then some ((-5 : Int32), M) else gx_bP (f_X2_layBack 9 16 M) (fun M2 => some ((M2.1 15 (0 : Int32).toNatClampNeg), M2)))
def f_X7_basinRefusal (r : Nat) (M : gx_Mem) : Option Int32 := gx_bP (f_X5_isEmpty r M) (fun y2 => (if y2 = 0 then (if (M.1 r 2) = 0 then (if (M.1 r 3) = (4 : Int32) then some (0 : Int32) else some (-1 : Int32)) else some (-12 : Int32)) else some (-11 : Int32)))
def f_X7_isKind (v0 : Int32) (M : gx_Mem) : Option Int32 := (if v0 < 0 then some (0 : Int32) else (if (8 : Int32) ≤ v0 then some (0 : Int32) else some (1 : Int32)))
def f_X7_body (v1 : Int32) (M : gx_Mem) : Option (Int32 × gx_Mem) := gx_bP (f_X7_isKind v1 M) (fun y2 => (if y2 = 0 then some ((-1 : Int32), M) else (if (50 : Int32) ≤ (M.1 40 2) then some ((-3 : Int32), M) else gx_bI (f_X0_add v1 M) (fun y4 M5 => some (y4, M5)))))
def f_X7_isChoice (v0 : Int32) (M : gx_Mem) : Option Int32 := (if v0 = 0 then some (1 : Int32) else (if v0 = (1 : Int32) then some (1 : Int32) else some (0 : Int32)))
def f_X7_isOne (v1 : Int32) (M : gx_Mem) : Option Int32 := (if v1 < 0 then some (0 : Int32) else (if (M.1 9 7) ≤ v1 then some (0 : Int32) else some (1 : Int32)))
def f_X7_byTurns_b80   (s1 : Int32) (s2 : Int32) (s3 : Int32) (s4 : Int32) (M : gx_Mem) : Option (Int32 × gx_Mem) := gx_bI (f_X4_turns s1 s2 s3 s4 M) (fun y10 M11 => some (y10, M11))
def f_X7_byTurns (v1 : Int32) (v2 : Int32) (v3 : Int32) (M : gx_Mem) : Option (Int32 × gx_Mem) := gx_let (v1 / (10 : Int32)) (fun x1 => gx_let (gx_rem v1 (10 : Int32)) (fun x2 => (if v1 < 0 then some ((-1 : Int32), M) else gx_bP (f_X7_isOne x1 M) (fun y4 => (if y4 = 0 then some ((-1 : Int32), M) else gx_bP (f_X7_isOne x2 M) (fun y6 => (if y6 = 0 then some ((-1 : Int32), M) else (if x1 = x2 then some ((-1 : Int32), M) else (if v2 < (1 : Int32) then some ((-1 : Int32), M) else (if (6 : Int32) < v2 then some ((-1 : Int32), M) else gx_bP (f_X7_isChoice v3 M) (fun y8 => (if y8 = 0 then some ((-1 : Int32), M) else (if v3 = (1 : Int32) then f_X7_byTurns_b80 x1 x2 v2 (1 : Int32) M else f_X7_byTurns_b80 x1 x2 v2 (0 : Int32) M)))))))))))))
def f_X7_isMark (v0 : Int32) (M : gx_Mem) : Option Int32 := (if v0 < 0 then some (0 : Int32) else (if (4 : Int32) ≤ v0 then some (0 : Int32) else some (1 : Int32)))
def f_X7_isSpan (v0 : Int32) (M : gx_Mem) : Option Int32 := (if v0 < 0 then some (0 : Int32) else (if (48 : Int32) < v0 then some (0 : Int32) else some (1 : Int32)))
def f_X7_caught (v1 : Int32) (v2 : Int32) (M : gx_Mem) : Option (Int32 × gx_Mem) := gx_bP (f_X7_isSpan v1 M) (fun y2 => (if y2 = 0 then some ((-1 : Int32), M) else gx_bP (f_X7_isMark v2 M) (fun y4 => (if y4 = 0 then some ((-1 : Int32), M) else gx_bI (f_X4_caughtBehind v1 v2 M) (fun y6 M7 => some (y6, M7))))))
def f_X7_isPm (v1 : Int32) (M : gx_Mem) : Option Int32 := (if v1 < 0 then some (0 : Int32) else gx_bP (f_X7_isOne (v1 / (10 : Int32)) M) (fun y2 => (if y2 = 0 then some (0 : Int32) else gx_bP (f_X7_isMark (gx_rem v1 (10 : Int32)) M) (fun y4 => (if y4 = 0 then some (0 : Int32) else some (1 : Int32))))))
def f_X7_change_b52   (v3 : Int32) (s1 : Int32) (s2 : Int32) (s3 : Int32) (M : gx_Mem) : Option (Int32 × gx_Mem) := gx_bI (f_X4_deal s1 s2 s3 M) (fun y8 M9 => (if 0 ≤ v3 then gx_bP (f_X4_dealtFlat v3 M9) (fun y11 => some (y11, M9)) else some (y8, M9)))
def f_X7_change_b30   (v1 : Int32) (v2 : Int32) (v3 : Int32) (M : gx_Mem) : Option (Int32 × gx_Mem) := (if v2 = (1 : Int32) then f_X7_change_b52 v3 (v1 / (10 : Int32)) (gx_rem v1 (10 : Int32)) (1 : Int32) M else f_X7_change_b52 v3 (v1 / (10 : Int32)) (gx_rem v1 (10 : Int32)) (0 : Int32) M)
def f_X7_change (v1 : Int32) (v2 : Int32) (v3 : Int32) (M : gx_Mem) : Option (Int32 × gx_Mem) := gx_bP (f_X7_isPm v1 M) (fun y2 => (if y2 = 0 then some ((-1 : Int32), M) else gx_bP (f_X7_isChoice v2 M) (fun y4 => (if y4 = 0 then some ((-1 : Int32), M) else (if v3 = (-1 : Int32) then f_X7_change_b30 v1 v2 v3 M else gx_bP (f_X7_isOne v3 M) (fun y6 => (if y6 = 0 then some ((-1 : Int32), M) else f_X7_change_b30 v1 v2 v3 M)))))))
def f_X7_isHour (v0 : Int32) (M : gx_Mem) : Option Int32 := (if v0 < 0 then some (0 : Int32) else (if (12 : Int32) ≤ v0 then some (0 : Int32) else some (1 : Int32)))
def f_X7_comes (v1 : Int32) (v2 : Int32) (v3 : Int32) (M : gx_Mem) : Option (Int32 × gx_Mem) := gx_let (v1 / (100 : Int32)) (fun x1 => gx_let (gx_rem v1 (100 : Int32)) (fun x2 => (if v1 < 0 then some ((-1 : Int32), M) else gx_bP (f_X7_isHour x1 M) (fun y4 => (if y4 = 0 then some ((-1 : Int32), M) else gx_bP (f_X7_isFlat x2 M) (fun y6 => (if y6 = 0 then some ((-1 : Int32), M) else gx_bP (f_X7_isMark v2 M) (fun y8 => (if y8 = 0 then some ((-1 : Int32), M) else gx_bP (f_X7_isChoice v3 M) (fun y10 => (if y10 = 0 then some ((-1 : Int32), M) else gx_bP (f_X2_outAt 9 x1 M) (fun y12 => gx_bI (f_X2_reaches 9 (x2 / (8 : Int32)) ((gx_rem x2 (8 : Int32)) - v3) v2 y12 M) (fun y14 M15 => some (y14, M15))))))))))))))
def f_X7_count (v1 : Int32) (M : gx_Mem) : Option Int32 := if v1 = (0 : Int32) then some (M.1 9 7) else (if v1 = (1 : Int32) then gx_bP (f_X2_awningsOut 9 M) (fun y2 => some y2) else (if v1 = (2 : Int32) then some (M.1 5 3) else (if v1 = (3 : Int32) then some (M.1 35 4) else (if v1 = (4 : Int32) then some (M.1 40 2) else (if v1 = (5 : Int32) then some (M.1 40 3) else (some (-1 : Int32)))))))
def f_X7_drawn_b70   (s1 : Int32) (s2 : Int32) (s3 : Int32) (s4 : Int32) (M : gx_Mem) : Option (Int32 × gx_Mem) := gx_bI (f_X4_draw s1 s2 s3 s4 M) (fun y6 M7 => some (y6, M7))
def f_X7_drawn (v1 : Int32) (v2 : Int32) (v3 : Int32) (M : gx_Mem) : Option (Int32 × gx_Mem) := gx_let (v2 / (100 : Int32)) (fun x1 => gx_let (gx_rem v2 (100 : Int32)) (fun x2 => (if v2 < 0 then some ((-1 : Int32), M) else (if x1 < (1 : Int32) then some ((-1 : Int32), M) else (if (30 : Int32) < x1 then some ((-1 : Int32), M) else (if x2 < (1 : Int32) then some ((-1 : Int32), M) else (if (24 : Int32) < x2 then some ((-1 : Int32), M) else gx_bP (f_X7_isChoice v3 M) (fun y4 => (if y4 = 0 then some ((-1 : Int32), M) else (if v3 = (1 : Int32) then f_X7_drawn_b70 v1 x1 x2 (1 : Int32) M else f_X7_drawn_b70 v1 x1 x2 (0 : Int32) M))))))))))
def f_X7_dry (v1 : Int32) (v2 : Int32) (M : gx_Mem) : Option (Int32 × gx_Mem) := gx_bP (f_X7_isOne v1 M) (fun y2 => (if y2 = 0 then some ((-1 : Int32), M) else gx_bP (f_X7_isChoice v2 M) (fun y4 => (if y4 = 0 then some ((-1 : Int32), M) else gx_bI (f_X4_driest v1 M) (fun y6 M7 => (if y6 < 0 then some (y6, M7) else (if v2 = (1 : Int32) then some (y6, M7) else gx_bP (f_J6_bitCount_0f7a4 y6 M7) (fun y9 => some (y9, M7)))))))))
def f_X7_isShelf (v0 : Int32) (M : gx_Mem) : Option Int32 := (if v0 < 0 then some (0 : Int32) else (if (6 : Int32) ≤ v0 then some (0 : Int32) else some (1 : Int32)))
def f_X7_placeRefusal (v1 : Int32) (v2 : Int32) (M : gx_Mem) : Option Int32 := gx_bP (f_X7_isShelf v1 M) (fun y2 => (if y2 = 0 then some (-1 : Int32) else gx_gd (gx_in v1 6) (gx_let (44 + 2 * v1.toNatClampNeg) (fun r3 => gx_bP (f_X5_isEmpty r3 M) (fun y5 => (if y5 = 0 then (if 0 ≤ (M.1 r3 2) then (if v2 < 0 then some (-13 : Int32) else (if (M.1 r3 3) ≤ v2 then some (-13 : Int32) else some (0 : Int32))) else some (-12 : Int32)) else some (-11 : Int32)))))))
def f_X7_element (v1 : Int32) (v2 : Int32) (M : gx_Mem) : Option Int64 := gx_bP (f_X7_placeRefusal v1 v2 M) (fun y2 => (if y2 = 0 then gx_gd (gx_in v1 6) (gx_let (44 + 2 * v1.toNatClampNeg) (fun r3 => gx_gd (gx_in v2 60) (some (M.2 (r3 + 1) v2.toNatClampNeg)))) else some (-9223372036854775808 : Int64)))
def f_X7_feed (v1 : Int32) (M : gx_Mem) : Option (Int32 × gx_Mem) := (if v1 < 0 then some ((-1 : Int32), M) else (if v1 ≤ (255 : Int32) then gx_bI (f_X6_take v1 M) (fun y2 M3 => (if y2 = 0 then some ((-3 : Int32), M3) else some ((M3.1 5 3), M3))) else some ((-1 : Int32), M)))
def f_X7_first (v1 : Int32) (M : gx_Mem) : Option (Int32 × gx_Mem) := gx_bP (f_X7_isOne v1 M) (fun y2 => (if y2 = 0 then some ((-1 : Int32), M) else gx_bI (f_X4_firstWetter v1 M) (fun y4 M5 => some (y4, M5))))
def f_X7_fraction_b43   (v2 : Int32) (v3 : Int32) (v4 : Int32) (M : gx_Mem) : Option Int64 := (if v2 = 0 then some v3.toInt64 else some v4.toInt64)
def f_X7_fraction_k8   (v2 : Int32) (ag8 : Int32 → Int32 → Int32 → Option Int64) (v3 : Int32) (v4 : Int32) (v5 : Int32) (M : gx_Mem) : Option Int64 := (if (6 : Int32) ≤ v5 then f_X7_fraction_b43 v2 v3 v4 M else (if v4 ≤ (1 : Int32) then f_X7_fraction_b43 v2 v3 v4 M else (if (gx_rem v3 (2 : Int32)) = 0 then gx_let (v3 / (2 : Int32)) (fun x1 => gx_let (v4 / (2 : Int32)) (fun x2 => gx_let (v5 + (1 : Int32)) (fun x3 => ag8 x1 x2 x3))) else f_X7_fraction_b43 v2 v3 v4 M)))
def f_X7_fraction_l8   (v2 : Int32) (n : Nat) (v3 : Int32) (v4 : Int32) (v5 : Int32) (M : gx_Mem) : Option Int64 := gx_loop (fun (ag8 : Int32 × Int32 × Int32 → Option Int64) (s : Int32 × Int32 × Int32) => f_X7_fraction_k8 v2 (fun v3 v4 v5 => ag8 (v3, v4, v5)) s.1 s.2.1 s.2.2 M) n (v3, v4, v5)
def f_X7_fraction (v0 : Int32) (v1 : Int32) (v2 : Int32) (M : gx_Mem) : Option Int64 := f_X7_fraction_l8 v2 gx_fuel v0 v1 (0 : Int32) M
def f_X7_from_b30   (s1 : Int32) (s2 : Int32) (M : gx_Mem) : Option (Int32 × gx_Mem) := gx_bI (f_X4_pairs s1 s2 M) (fun y6 M7 => some (y6, M7))
def f_X7_from (v1 : Int32) (v2 : Int32) (M : gx_Mem) : Option (Int32 × gx_Mem) := gx_bP (f_X7_isOne v1 M) (fun y2 => (if y2 = 0 then some ((-1 : Int32), M) else gx_bP (f_X7_isChoice v2 M) (fun y4 => (if y4 = 0 then some ((-1 : Int32), M) else (if v2 = (1 : Int32) then f_X7_from_b30 v1 (1 : Int32) M else f_X7_from_b30 v1 (0 : Int32) M)))))
def f_X7_hour (M : gx_Mem) : Option (Int32 × gx_Mem) := gx_bP (f_X2_passHour 9 M) (fun M2 => some ((M2.1 9 9), M2))
def f_X7_image (M : gx_Mem) : Option (Int32 × gx_Mem) := gx_bP (f_X2_liken 16 9 M) (fun M2 => gx_let (gx_sI M2 56 8 (1 : Int32)) (fun M3 => some ((M3.1 15 (0 : Int32).toNatClampNeg), M3)))
def f_X7_isNumber_b44   (v1 : Int32) (M : gx_Mem) : Option Int32 := gx_bP (f_X7_isOne v1 M) (fun y6 => gx_gd (gx_isZ y6) (some y6))
def f_X7_isNumber_b50   (v1 : Int32) (M : gx_Mem) : Option Int32 := gx_bP (f_X7_isPm v1 M) (fun y4 => gx_gd (gx_isZ y4) (some y4))
def f_X7_isNumber_b61   (v1 : Int32) (M : gx_Mem) : Option Int32 := (if v1 = 0 then some (1 : Int32) else some (0 : Int32))
def f_X7_isNumber (v1 : Int32) (v2 : Int32) (M : gx_Mem) : Option Int32 := if v2 = (0 : Int32) then f_X7_isNumber_b44 v1 M else (if v2 = (1 : Int32) then f_X7_isNumber_b44 v1 M else (if v2 = (2 : Int32) then f_X7_isNumber_b50 v1 M else (if v2 = (3 : Int32) then f_X7_isNumber_b50 v1 M else (if v2 = (4 : Int32) then gx_bP (f_X7_isFlat v1 M) (fun y2 => gx_gd (gx_isZ y2) (some y2)) else (if v2 = (5 : Int32) then f_X7_isNumber_b61 v1 M else (if v2 = (6 : Int32) then f_X7_isNumber_b61 v1 M else (some (0 : Int32))))))))
def f_X7_keep_b22   (v1 : Int32) (v2 : Int32) (M : gx_Mem) : Option (Int32 × gx_Mem) := gx_gd (gx_in v1 6) (gx_let (44 + 2 * v1.toNatClampNeg) (fun r5 => gx_bP (f_X5_holdBody r5 v2 M) (fun M7 => some ((1 : Int32), M7))))
def f_X7_keep (v1 : Int32) (v2 : Int32) (M : gx_Mem) : Option (Int32 × gx_Mem) := gx_bP (f_X7_isShelf v1 M) (fun y2 => (if y2 = 0 then some ((-1 : Int32), M) else (if v2 = (-1 : Int32) then f_X7_keep_b22 v1 v2 M else gx_bP (f_X7_isBody v2 M) (fun y4 => (if y4 = 0 then some ((-1 : Int32), M) else f_X7_keep_b22 v1 v2 M)))))
def f_X7_law_b41   (s0 : Int32) (M : gx_Mem) : Option (Int32 × gx_Mem) := gx_let (gx_sI M 5 3 (0 : Int32)) (fun M6 => some (s0, M6))
def f_X7_law_b23   (v1 : Int32) (M : gx_Mem) : Option (Int32 × gx_Mem) := (if v1 = 0 then f_X7_law_b41 ((-100 : Int32) - (M.1 5 4)) M else f_X7_law_b41 (1 : Int32) M)
def f_X7_law (M : gx_Mem) : Option (Int32 × gx_Mem) := gx_bI (f_X6_read M) (fun y2 M3 => (if y2 = 0 then f_X7_law_b23 y2 M3 else gx_bP (f_X3_adopt M3) (fun M5 => f_X7_law_b23 y2 M5)))
def f_X7_led (v1 : Int32) (M : gx_Mem) : Option Int32 := (if v1 < 0 then some (-1 : Int32) else (if (5 : Int32) ≤ v1 then some (-1 : Int32) else gx_gd (gx_in v1 5) (some (M.1 15 v1.toNatClampNeg))))
def f_X7_mayCome (v0 : Int32) (v1 : Int32) (M : gx_Mem) : Option Int32 := gx_bP (f_X7_isFlat v0 M) (fun y2 => (if y2 = 0 then some (0 : Int32) else (if v1 < 0 then some (0 : Int32) else gx_gd (gx_in (1 : Int32) 7) ((if (gx_tab 0 (1 : Int32).toNatClampNeg) < v1 then some (0 : Int32) else some (1 : Int32))))))
def f_X7_mean (v1 : Int32) (v2 : Int32) (v3 : Int32) (M : gx_Mem) : Option (Int64 × gx_Mem) := gx_bP (f_X7_isPm v1 M) (fun y2 => (if y2 = 0 then some ((-9223372036854775808 : Int64), M) else gx_bP (f_X7_isHour v2 M) (fun y4 => (if y4 = 0 then some ((-9223372036854775808 : Int64), M) else gx_bP (f_X7_isChoice v3 M) (fun y6 => (if y6 = 0 then some ((-9223372036854775808 : Int64), M) else gx_bI (f_X4_overSets (v1 / (10 : Int32)) (gx_rem v1 (10 : Int32)) (1 : Int32) M) (fun y8 M9 => gx_bP (f_X7_fraction y8 (gx_shl (1 : Int32) ((M9.1 9 7) - (1 : Int32))) v3 M9) (fun y11 => some (y11, M9)))))))))
def f_X7_mend (v1 : Int32) (v2 : Int32) (v3 : Int32) (M : gx_Mem) : Option (Int32 × gx_Mem) := gx_bP (f_X7_isNumber v1 v2 M) (fun y2 => (if y2 = 0 then some ((-1 : Int32), M) else (if v3 < 0 then some ((-1 : Int32), M) else gx_gd (gx_in v2 7) ((if v3 ≤ (gx_tab 0 v2.toNatClampNeg) then gx_bP (f_X2_tells 9 v1 v2 M) (fun y4 => (if y4 = v3 then some (y4, M) else gx_bP (f_X2_told 9 v1 v2 v3 M) (fun M6 => gx_bP (f_X1_add v1 v2 y4 v3 M6) (fun M8 => some (y4, M8))))) else some ((-1 : Int32), M))))))
def f_X7_most (v1 : Int32) (v2 : Int32) (v3 : Int32) (M : gx_Mem) : Option (Int32 × gx_Mem) := gx_bP (f_X7_isSpan v1 M) (fun y2 => (if y2 = 0 then some ((-1 : Int32), M) else gx_bP (f_X7_isOne v2 M) (fun y4 => (if y4 = 0 then some ((-1 : Int32), M) else gx_bP (f_X7_isChoice v3 M) (fun y6 => (if y6 = 0 then some ((-1 : Int32), M) else (if v3 = 0 then gx_bI (f_X4_allBehind v1 v2 M) (fun y11 M12 => some (y11, M12)) else gx_bI (f_X4_mostBehind v1 v2 M) (fun y8 M9 => some (y8, M9)))))))))
def f_X7_moves (v1 : Int32) (v2 : Int32) (M : gx_Mem) : Option (Int32 × gx_Mem) := gx_bP (f_X7_isOne v1 M) (fun y2 => (if y2 = 0 then some ((-1 : Int32), M) else gx_bP (f_X7_isFlat v2 M) (fun y4 => (if y4 = 0 then some ((-1 : Int32), M) else gx_gd (gx_in v1 6) (gx_let (M.1 10 v1.toNatClampNeg) (fun x5 => gx_gd (gx_in v1 6) (gx_let (gx_sI M 10 v1.toNatClampNeg v2) (fun M6 => gx_let (gx_sI M6 15 (1 : Int32).toNatClampNeg ((M6.1 15 (1 : Int32).toNatClampNeg) + (1 : Int32))) (fun M7 => some (x5, M7))))))))))
def f_X7_odds (v1 : Int32) (v2 : Int32) (v3 : Int32) (M : gx_Mem) : Option (Int64 × gx_Mem) := gx_bP (f_X7_isPm v1 M) (fun y2 => (if y2 = 0 then some ((-9223372036854775808 : Int64), M) else gx_bP (f_X7_isHour v2 M) (fun y4 => (if y4 = 0 then some ((-9223372036854775808 : Int64), M) else gx_bP (f_X7_isChoice v3 M) (fun y6 => (if y6 = 0 then some ((-9223372036854775808 : Int64), M) else gx_bI (f_X4_overSets (v1 / (10 : Int32)) (gx_rem v1 (10 : Int32)) (0 : Int32) M) (fun y8 M9 => gx_bP (f_X7_fraction y8 (gx_shl (1 : Int32) ((M9.1 9 7) - (1 : Int32))) v3 M9) (fun y11 => some (y11, M9)))))))))
def f_X7_of (v1 : Int32) (v2 : Int32) (M : gx_Mem) : Option Int32 := gx_bP (f_X7_isNumber v1 v2 M) (fun y2 => (if y2 = 0 then some (-1 : Int32) else gx_bP (f_X2_tells 9 v1 v2 M) (fun y4 => some y4)))
def f_X7_people_k76   (v3 : Int32) (r4 : Nat) (ag76 : Int32 → Int32 → gx_Mem → Option (Int32 × gx_Mem)) (v5 : Int32) (v6 : Int32) (M : gx_Mem) : Option (Int32 × gx_Mem) := (if v3 ≤ v5 then some (v5, M) else (if ((M.1 r4 3) - (2 : Int32)) < v6 then some (v5, M) else (if (6 : Int32) ≤ (M.1 9 7) then some (v5, M) else gx_gd (gx_in v6 60) (gx_let ((M.2 (r4 + 1) v6.toNatClampNeg).toInt32) (fun x4 => gx_gd (gx_in (v6 + (1 : Int32)) 60) (gx_let ((M.2 (r4 + 1) (v6 + (1 : Int32)).toNatClampNeg).toInt32) (fun x5 => gx_bP (f_X7_mayCome x4 x5 M) (fun y7 => (if y7 = 0 then some (v5, M) else gx_bI (f_X2_welcome 9 x4 x5 M) (fun y9 M10 => gx_let (v5 + (1 : Int32)) (fun x11 => gx_let (v6 + (2 : Int32)) (fun x12 => ag76 x11 x12 M10))))))))))))
def f_X7_people_l76   (v3 : Int32) (r4 : Nat) (n : Nat) (v5 : Int32) (v6 : Int32) (M : gx_Mem) : Option (Int32 × gx_Mem) := gx_loop (fun (ag76 : Int32 × Int32 × gx_Mem → Option (Int32 × gx_Mem)) (s : Int32 × Int32 × gx_Mem) => f_X7_people_k76 v3 r4 (fun v5 v6 M => ag76 (v5, v6, M)) s.1 s.2.1 s.2.2) n (v5, v6, M)
def f_X7_people_b56   (v2 : Int32) (v3 : Int32) (r4 : Nat) (M : gx_Mem) : Option (Int32 × gx_Mem) := (if (M.1 r4 2) < 0 then some ((0 : Int32), M) else (if 0 ≤ v2 then f_X7_people_l76 v3 r4 gx_fuel (0 : Int32) v2 M else some ((0 : Int32), M)))
def f_X7_people (v1 : Int32) (v2 : Int32) (v3 : Int32) (M : gx_Mem) : Option (Int32 × gx_Mem) := gx_bP (f_X7_isShelf v1 M) (fun y2 => (if y2 = 0 then some ((-1 : Int32), M) else (if v3 < (1 : Int32) then some ((-1 : Int32), M) else (if v3 ≤ (6 : Int32) then gx_gd (gx_in v1 6) (gx_let (44 + 2 * v1.toNatClampNeg) (fun r3 => (if 0 ≤ (M.1 r3 1) then some ((-12 : Int32), M) else (if (M.1 r3 2) < 0 then f_X7_people_b56 v2 v3 r3 M else (if (M.1 r3 2) = (1 : Int32) then f_X7_people_b56 v2 v3 r3 M else some ((-12 : Int32), M)))))) else some ((-1 : Int32), M)))))
def f_X7_person (v1 : Int32) (v2 : Int32) (M : gx_Mem) : Option (Int32 × gx_Mem) := gx_bP (f_X7_mayCome v1 v2 M) (fun y2 => (if y2 = 0 then some ((-1 : Int32), M) else (if (6 : Int32) ≤ (M.1 9 7) then some ((-3 : Int32), M) else gx_bI (f_X2_welcome 9 v1 v2 M) (fun y4 M5 => some (y4, M5)))))
def f_X7_porter (v1 : Int32) (v2 : Int32) (M : gx_Mem) : Option (Int32 × gx_Mem) := gx_bP (f_X7_isHour v1 M) (fun y2 => (if y2 = 0 then some ((-1 : Int32), M) else gx_bP (f_X7_isMark v2 M) (fun y4 => (if y4 = 0 then some ((-1 : Int32), M) else gx_bP (f_X2_outAt 9 v1 M) (fun y6 => gx_bI (f_X2_caughtBy 9 v2 y6 M) (fun y8 M9 => some (y8, M9)))))))
def f_X7_put (v1 : Int32) (v2 : Int32) (w3 : Int64) (M : gx_Mem) : Option (Int32 × gx_Mem) := gx_bP (f_X7_placeRefusal v1 v2 M) (fun y2 => (if y2 = 0 then gx_gd (gx_in v1 6) (gx_let (44 + 2 * v1.toNatClampNeg) (fun r3 => gx_gd (gx_in v1 6) (gx_let (44 + 2 * v1.toNatClampNeg) (fun r4 => gx_bP (f_X5_fitted r4 w3 M) (fun y6 => gx_gd (gx_in v2 60) (gx_let (gx_sL M (r3 + 1) v2.toNatClampNeg y6) (fun M7 => some ((1 : Int32), M7)))))))) else some (y2, M)))
def f_X7_redo (M : gx_Mem) : Option (Int32 × gx_Mem) := (if (M.1 35 5) = 0 then some ((-5 : Int32), M) else gx_bI (f_X1_stepOn M) (fun y2 M3 => gx_gd (gx_in y2 40) (gx_gd (gx_in y2 40) (gx_gd (gx_in y2 40) (gx_bP (f_X2_told 9 (M3.1 36 y2.toNatClampNeg) (M3.1 37 y2.toNatClampNeg) (M3.1 39 y2.toNatClampNeg) M3) (fun M5 => some ((M5.1 35 5), M5)))))))
def f_X7_rent (v1 : Int32) (v2 : Int32) (M : gx_Mem) : Option (Int32 × gx_Mem) := gx_bP (f_X7_isOne v1 M) (fun y2 => (if y2 = 0 then some ((-1 : Int32), M) else (if v2 < 0 then some ((-1 : Int32), M) else (if (999 : Int32) < v2 then some ((-1 : Int32), M) else gx_bI (f_X4_share v1 v2 M) (fun y4 M5 => some (y4, M5))))))
def f_X7_row (v1 : Int32) (v2 : Int32) (v3 : Int32) (M : gx_Mem) : Option (Int32 × gx_Mem) := gx_bP (f_X7_isShelf v1 M) (fun y2 => (if y2 = 0 then some ((-1 : Int32), M) else (if v2 < 0 then some ((-1 : Int32), M) else (if (5 : Int32) ≤ v2 then some ((-1 : Int32), M) else (if v3 ≤ (60 : Int32) then (if 0 ≤ v3 then gx_gd (gx_in v1 6) (gx_let (44 + 2 * v1.toNatClampNeg) (fun r3 => gx_bP (f_X5_holdRow r3 v2 v3 M) (fun M5 => some ((1 : Int32), M5)))) else some ((-14 : Int32), M)) else some ((-1 : Int32), M))))))
def f_X7_shift (v1 : Int32) (v2 : Int32) (v3 : Int32) (v4 : Int32) (v5 : Int32) (M : gx_Mem) : Option (Int32 × gx_Mem) := gx_bP (f_X7_isShelf v1 M) (fun y2 => (if y2 = 0 then some ((-1 : Int32), M) else gx_bP (f_X7_isShelf v3 M) (fun y4 => (if y4 = 0 then some ((-1 : Int32), M) else gx_gd (gx_in v1 6) (gx_let (44 + 2 * v1.toNatClampNeg) (fun r5 => gx_gd (gx_in v3 6) (gx_let (44 + 2 * v3.toNatClampNeg) (fun r6 => gx_bP (f_X5_isEmpty r5 M) (fun y8 => (if y8 = 0 then gx_bP (f_X5_isEmpty r6 M) (fun y10 => (if y10 = 0 then (if (M.1 r5 2) < 0 then some ((-12 : Int32), M) else (if (M.1 r5 2) = (M.1 r6 2) then (if v5 < 0 then some ((-13 : Int32), M) else gx_bP (f_X5_spans r5 v2 v5 M) (fun y12 => (if y12 = 0 then some ((-13 : Int32), M) else gx_bP (f_X5_spans r6 v4 v5 M) (fun y14 => (if y14 = 0 then some ((-13 : Int32), M) else gx_gd (gx_cpk v2 v4 v5 60 60) (gx_let (gx_cL M (r5 + 1) v2.toNatClampNeg (r6 + 1) v4.toNatClampNeg v5.toNatClampNeg) (fun M15 => some (v5, M15)))))))) else some ((-12 : Int32), M))) else some ((-11 : Int32), M))) else some ((-11 : Int32), M)))))))))))
def f_X7_swap (v1 : Int32) (M : gx_Mem) : Option (Int32 × gx_Mem) := gx_bP (f_X7_isOne v1 M) (fun y2 => (if y2 = 0 then some ((-1 : Int32), M) else gx_bI (f_X4_partner v1 M) (fun y4 M5 => some (y4, M5))))
def f_X7_taken (v1 : Int32) (v2 : Int32) (M : gx_Mem) : Option Int32 := gx_bP (f_X7_isShelf v1 M) (fun y2 => (if y2 = 0 then some (-1 : Int32) else gx_bP (f_X7_isKind v2 M) (fun y4 => (if y4 = 0 then some (-1 : Int32) else gx_gd (gx_in v1 6) (gx_let (44 + 2 * v1.toNatClampNeg) (fun r5 => gx_bP (f_X5_isEmpty r5 M) (fun y7 => (if y7 = 0 then gx_bP (f_X7_isBody (M.1 r5 1) M) (fun y9 => (if y9 = 0 then some (-12 : Int32) else gx_gd (gx_in (M.1 r5 1) 50) (gx_let (M.1 41 (M.1 r5 1).toNatClampNeg) (fun x10 => gx_bP (f_X0_isUnder x10 v2 M) (fun y12 => (if y12 = 0 then some (-12 : Int32) else some x10)))))) else some (-11 : Int32)))))))))
def f_X7_thought_b87   (s1 : Nat) (s2 : Int32) (s3 : Int32) (s4 : Int32) (M : gx_Mem) : Option (Int32 × gx_Mem) := gx_bI (f_X4_amounts s1 s2 s3 s4 M) (fun y14 M15 => some (y14, M15))
def f_X7_thought (v1 : Int32) (v2 : Int32) (v3 : Int32) (v4 : Int32) (M : gx_Mem) : Option (Int32 × gx_Mem) := gx_bP (f_X7_isShelf v1 M) (fun y2 => (if y2 = 0 then some ((-1 : Int32), M) else gx_bP (f_X7_isHour v2 M) (fun y4 => (if y4 = 0 then some ((-1 : Int32), M) else gx_bP (f_X7_isPm v3 M) (fun y6 => (if y6 = 0 then some ((-1 : Int32), M) else gx_bP (f_X7_isChoice v4 M) (fun y8 => (if y8 = 0 then some ((-1 : Int32), M) else gx_gd (gx_in v1 6) (gx_let (44 + 2 * v1.toNatClampNeg) (fun r9 => gx_bP (f_X7_basinRefusal r9 M) (fun y11 => (if y11 = 0 then gx_gd (gx_in v1 6) (gx_let (44 + 2 * v1.toNatClampNeg) (fun r12 => (if v4 = (1 : Int32) then f_X7_thought_b87 (r12 + 1) v2 (((4 : Int32) * (v3 / (10 : Int32))) + (gx_rem v3 (10 : Int32))) (1 : Int32) M else f_X7_thought_b87 (r12 + 1) v2 (((4 : Int32) * (v3 / (10 : Int32))) + (gx_rem v3 (10 : Int32))) (0 : Int32) M))) else some (y11, M)))))))))))))
def f_X7_trace (v1 : Int32) (M : gx_Mem) : Option Int32 := (if v1 < 0 then some (-1 : Int32) else (if (M.1 40 3) ≤ v1 then some (-1 : Int32) else (if (24 : Int32) ≤ v1 then some (-1 : Int32) else gx_gd (gx_in v1 24) (some (M.1 42 v1.toNatClampNeg)))))
def f_X7_undo (M : gx_Mem) : Option (Int32 × gx_Mem) := (if (M.1 35 4) = 0 then some ((-5 : Int32), M) else gx_bI (f_X1_stepBack M) (fun y2 M3 => gx_gd (gx_in y2 40) (gx_gd (gx_in y2 40) (gx_gd (gx_in y2 40) (gx_bP (f_X2_told 9 (M3.1 36 y2.toNatClampNeg) (M3.1 37 y2.toNatClampNeg) (M3.1 38 y2.toNatClampNeg) M3) (fun M5 => some ((M5.1 35 4), M5)))))))
def f_X7_wet (v1 : Int32) (v2 : Int32) (M : gx_Mem) : Option (Int32 × gx_Mem) := gx_bP (f_X7_isSpan v1 M) (fun y2 => (if y2 = 0 then some ((-1 : Int32), M) else gx_bP (f_X7_isPm v2 M) (fun y4 => (if y4 = 0 then some ((-1 : Int32), M) else gx_bI (f_X4_wetBehind v1 (v2 / (10 : Int32)) (gx_rem v2 (10 : Int32)) M) (fun y6 M7 => some (y6, M7))))))
def f_X7_who (v1 : Int32) (v2 : Int32) (v3 : Int32) (M : gx_Mem) : Option (Int32 × gx_Mem) := gx_bP (f_X7_isShelf v1 M) (fun y2 => (if y2 = 0 then some ((-1 : Int32), M) else gx_bP (f_X7_isHour v2 M) (fun y4 => (if y4 = 0 then some ((-1 : Int32), M) else (if v3 < 0 then some ((-1 : Int32), M) else (if v3 ≤ (2 : Int32) then gx_gd (gx_in v1 6) (gx_let (44 + 2 * v1.toNatClampNeg) (fun r5 => gx_bP (f_X7_basinRefusal r5 M) (fun y7 => (if y7 = 0 then gx_gd (gx_in v1 6) (gx_let (44 + 2 * v1.toNatClampNeg) (fun r8 => gx_bI (f_X4_sets (r8 + 1) v3 M) (fun y10 M11 => some (y10, M11)))) else some (y7, M))))) else some ((-1 : Int32), M)))))))
def f_X7_wipe (v1 : Int32) (M : gx_Mem) : Option (Int32 × gx_Mem) := gx_bP (f_X7_isOne v1 M) (fun y2 => (if y2 = 0 then some ((-1 : Int32), M) else gx_bI (f_X2_dried 9 v1 M) (fun y4 M5 => some (y4, M5))))
set_option maxHeartbeats 4000000 in
set_option maxRecDepth 100000 in
theorem c_X7_isBody (κ : gx_K) {v1 : Int32} {M : gx_Mem} {r9 : Int32} (hf : f_X7_isBody v1 M = some r9) : gx_CI κ yX7_isBody cX7_isBody 2 (some .boolean) 0 [.ref (gx_a κ 56), .int v1] M r9 M := by
  refine gx_enterI (d := 0) my_X7_isBody.1 (by decide) (Nat.le_of_ble_eq_true rfl) (fun Γ Cx hR => ?_)
  change gx_G κ Γ 0 [(0, .ref (gx_a κ 56)), (1, .int v1)] [] M
  have h := hf
  refine gx_iload_n Cx eX7_isBody_0 1 rfl ?_
  refine gx_if_lt (tgt := 19) Cx eX7_isBody_1 (by decide) h (fun h => ?_) (fun h => ?_)
  · refine gx_iconst (v := (0 : Int32)) Cx eX7_isBody_19 (by decide) ?_
    exact gx_rIp h (by decide) eX7_isBody_20 hR
  · refine gx_iload_n Cx eX7_isBody_4 1 rfl ?_
    refine gx_aload_n Cx eX7_isBody_5 0 rfl ?_
    refine gfX7_54 Cx eX7_isBody_6 ?_
    refine gfX7_292 Cx eX7_isBody_9 ?_
    refine gx_icmp_ge (tgt := 19) Cx eX7_isBody_12 (by decide) h (fun h => ?_) (fun h => ?_)
    · refine gx_iconst (v := (0 : Int32)) Cx eX7_isBody_19 (by decide) ?_
      exact gx_rIp h (by decide) eX7_isBody_20 hR
    · refine gx_iconst (v := (1 : Int32)) Cx eX7_isBody_15 (by decide) ?_
      refine gx_goto (tgt := 20) Cx eX7_isBody_16 (by decide) ?_
      exact gx_rIp h (by decide) eX7_isBody_20 hR
set_option maxHeartbeats 4000000 in
set_option maxRecDepth 100000 in
theorem c_X7_act (κ : gx_K) {v1 : Int32} {v2 : Int32} {v3 : Int32} {M : gx_Mem} {r9 : Int32} {M9 : gx_Mem} (hf : f_X7_act v1 v2 v3 M = some (r9, M9)) : gx_CI κ yX7_act cX7_act 4 (some .int) 103 [.ref (gx_a κ 56), .int v1, .int v2, .int v3] M r9 M9 := by
  refine gx_enterI (d := 103) my_X7_act.1 (by decide) (Nat.le_of_ble_eq_true rfl) (fun Γ Cx hR => ?_)
  change gx_G κ Γ 0 [(0, .ref (gx_a κ 56)), (1, .int v1), (2, .int v2), (3, .int v3)] [] M
  have B17 : ∀  (M : gx_Mem), f_X7_act_b17 M = some (r9, M9) → gx_G κ Γ 17 [(0, .ref (gx_a κ 56))] [] M := by
    intro M h
    refine gx_aload_n Cx eX7_act_17 0 rfl ?_
    refine gfX7_54 Cx eX7_act_18 ?_
    refine gx_iconst (v := (0 : Int32)) Cx eX7_act_21 (by decide) ?_
    refine pfX7_300 Cx eX7_act_22 h (fun M6 h => ?_)
    refine gx_iconst (v := (0 : Int32)) Cx eX7_act_25 (by decide) ?_
    exact gx_rI h rfl eX7_act_26 hR
  have h := hf
  refine gx_aload_n Cx eX7_act_0 0 rfl ?_
  refine gx_iload_n Cx eX7_act_1 1 rfl ?_
  obtain ⟨y2, h1, h⟩ := gx_bP_of h
  refine gx_callVI (ci := 7) Cx my_X7_isBody wlX7_297 rfl gx_y56 (by decide) rfl eX7_act_2 (c_X7_isBody κ h1) rfl (Nat.le_of_ble_eq_true rfl) ?_
  refine gx_if_eq (tgt := 17) Cx eX7_act_5 (by decide) h (fun h => ?_) (fun h => ?_)
  · refine gx_sub [0] rfl ?_
    exact B17 _ h
  · refine gx_iload_n Cx eX7_act_8 2 rfl ?_
    refine gx_if_lt (tgt := 17) Cx eX7_act_9 (by decide) h (fun h => ?_) (fun h => ?_)
    · refine gx_sub [0] rfl ?_
      exact B17 _ h
    · refine gx_iload_n Cx eX7_act_12 2 rfl ?_
      refine gx_iconst (v := (3 : Int32)) Cx eX7_act_13 (by decide) ?_
      refine gx_icmp_le (tgt := 27) Cx eX7_act_14 (by decide) h (fun h => ?_) (fun h => ?_)
      · refine gx_aload_n Cx eX7_act_27 0 rfl ?_
        refine gfX7_54 Cx eX7_act_28 ?_
        refine gx_iload_n Cx eX7_act_31 2 rfl ?_
        refine gx_iload_n Cx eX7_act_32 1 rfl ?_
        refine gx_iload_n Cx eX7_act_33 3 rfl ?_
        obtain ⟨y4, M5, h3, h⟩ := gx_bI_of h
        refine gx_callVI (ci := 0) Cx my_X0_acted wlX7_303 rfl gx_y40 (by decide) rfl eX7_act_34 (c_X0_acted κ h3) rfl (Nat.le_of_ble_eq_true rfl) ?_
        exact gx_rI h rfl eX7_act_37 hR
      · refine gx_sub [0] rfl ?_
        exact B17 _ h
set_option maxHeartbeats 4000000 in
set_option maxRecDepth 100000 in
theorem c_X7_isFlat (κ : gx_K) {v0 : Int32} {M : gx_Mem} {r9 : Int32} (hf : f_X7_isFlat v0 M = some r9) : gx_CI κ yX7_isFlat cX7_isFlat 1 (some .boolean) 0 [.int v0] M r9 M := by
  refine gx_enterI (d := 0) my_X7_isFlat.1 (by decide) (Nat.le_of_ble_eq_true rfl) (fun Γ Cx hR => ?_)
  change gx_G κ Γ 0 [(0, .int v0)] [] M
  have h := hf
  refine gx_iload_n Cx eX7_isFlat_0 0 rfl ?_
  refine gx_if_lt (tgt := 14) Cx eX7_isFlat_1 (by decide) h (fun h => ?_) (fun h => ?_)
  · refine gx_iconst (v := (0 : Int32)) Cx eX7_isFlat_14 (by decide) ?_
    exact gx_rIp h (by decide) eX7_isFlat_15 hR
  · refine gx_iload_n Cx eX7_isFlat_4 0 rfl ?_
    refine gx_bipush (v := (24 : Int32)) Cx eX7_isFlat_5 (by decide) ?_
    refine gx_icmp_ge (tgt := 14) Cx eX7_isFlat_7 (by decide) h (fun h => ?_) (fun h => ?_)
    · refine gx_iconst (v := (0 : Int32)) Cx eX7_isFlat_14 (by decide) ?_
      exact gx_rIp h (by decide) eX7_isFlat_15 hR
    · refine gx_iconst (v := (1 : Int32)) Cx eX7_isFlat_10 (by decide) ?_
      refine gx_goto (tgt := 15) Cx eX7_isFlat_11 (by decide) ?_
      exact gx_rIp h (by decide) eX7_isFlat_15 hR
set_option maxHeartbeats 4000000 in
set_option maxRecDepth 100000 in
theorem c_X7_awning (κ : gx_K) {v1 : Int32} {M : gx_Mem} {r9 : Int32} {M9 : gx_Mem} (hf : f_X7_awning v1 M = some (r9, M9)) : gx_CI κ yX7_awning cX7_awning 2 (some .int) 1 [.ref (gx_a κ 56), .int v1] M r9 M9 := by
  refine gx_enterI (d := 1) my_X7_awning.1 (by decide) (Nat.le_of_ble_eq_true rfl) (fun Γ Cx hR => ?_)
  change gx_G κ Γ 0 [(0, .ref (gx_a κ 56)), (1, .int v1)] [] M
  have h := hf
  refine gx_iload_n Cx eX7_awning_0 1 rfl ?_
  obtain ⟨y2, h1, h⟩ := gx_bP_of h
  refine gx_callSI Cx my_X7_isFlat wlX7_134 (by decide) rfl eX7_awning_1 (c_X7_isFlat κ h1) rfl (Nat.le_of_ble_eq_true rfl) ?_
  refine gx_if_ne (tgt := 9) Cx eX7_awning_4 (by decide) h (fun h => ?_) (fun h => ?_)
  · refine gx_aload_n Cx eX7_awning_9 0 rfl ?_
    refine gfX7_28 Cx eX7_awning_10 ?_
    refine gfX7_246 Cx gx_y9 eX7_awning_13 ?_
    refine gx_iload_n Cx eX7_awning_16 1 rfl ?_
    refine gx_bipush (v := (9 : Int32)) Cx eX7_awning_17 (by decide) ?_
    refine gx_aload_n Cx eX7_awning_19 0 rfl ?_
    refine gfX7_28 Cx eX7_awning_20 ?_
    refine gfX7_246 Cx gx_y9 eX7_awning_23 ?_
    refine gx_iload_n Cx eX7_awning_26 1 rfl ?_
    refine gx_iald Cx gx_y14 eX7_awning_27 h (fun h => ?_)
    refine gx_iconst (v := (1 : Int32)) Cx eX7_awning_28 (by decide) ?_
    refine gx_iadd Cx eX7_awning_29 ?_
    refine gx_mmin Cx wlX7_249 (Nat.le_of_ble_eq_true rfl) (Nat.le_of_ble_eq_true rfl) eX7_awning_30 ?_
    refine gx_iast Cx gx_y14 eX7_awning_33 h (fun M3 h => ?_)
    refine gx_aload_n Cx eX7_awning_34 0 rfl ?_
    refine gfX7_28 Cx eX7_awning_35 ?_
    refine gfX7_243 Cx gx_y9 eX7_awning_38 ?_
    refine gx_iconst (v := (2 : Int32)) Cx eX7_awning_41 (by decide) ?_
    refine gx_dup2 Cx eX7_awning_42 rfl rfl ?_
    refine gx_ialdC (α := Unit) (b := none) Cx gx_y15 eX7_awning_43 (by decide) ?_
    refine gx_iconst (v := (1 : Int32)) Cx eX7_awning_44 (by decide) ?_
    refine gx_iadd Cx eX7_awning_45 ?_
    refine gx_iastC Cx gx_y15 eX7_awning_46 (by decide) h (fun M4 h => ?_)
    refine gx_aload_n Cx eX7_awning_47 0 rfl ?_
    refine gfX7_28 Cx eX7_awning_48 ?_
    refine gfX7_246 Cx gx_y9 eX7_awning_51 ?_
    refine gx_iload_n Cx eX7_awning_54 1 rfl ?_
    refine gx_iald Cx gx_y14 eX7_awning_55 h (fun h => ?_)
    exact gx_rI h rfl eX7_awning_56 hR
  · refine gx_iconst (v := (-1 : Int32)) Cx eX7_awning_7 (by decide) ?_
    exact gx_rI h rfl eX7_awning_8 hR
set_option maxHeartbeats 4000000 in
set_option maxRecDepth 100000 in
theorem c_X7_back (κ : gx_K)  {M : gx_Mem} {r9 : Int32} {M9 : gx_Mem} (hf : f_X7_back M = some (r9, M9)) : gx_CI κ yX7_back cX7_back 1 (some .int) 2 [.ref (gx_a κ 56)] M r9 M9 := by
  refine gx_enterI (d := 2) my_X7_back.1 (by decide) (Nat.le_of_ble_eq_true rfl) (fun Γ Cx hR => ?_)
  change gx_G κ Γ 0 [(0, .ref (gx_a κ 56))] [] M
  have h := hf
  refine gx_aload_n Cx eX7_back_0 0 rfl ?_
  refine gfX7_65 Cx eX7_back_1 ?_
  refine gx_if_ne (tgt := 10) Cx eX7_back_4 (by decide) h (fun h => ?_) (fun h => ?_)
  · refine gx_aload_n Cx eX7_back_10 0 rfl ?_
    refine gfX7_28 Cx eX7_back_11 ?_
    refine gx_aload_n Cx eX7_back_14 0 rfl ?_
    refine gfX7_32 Cx eX7_back_15 ?_
    obtain ⟨M2, h1, h⟩ := gx_bP_of h
    refine gx_callVV (ci := 2) Cx my_X2_layBack wlX7_261 rfl gx_y9 (by decide) rfl eX7_back_18 (c_X2_layBack κ gx_Ho9 gx_Ho16 h1) rfl (Nat.le_of_ble_eq_true rfl) ?_
    refine gx_aload_n Cx eX7_back_21 0 rfl ?_
    refine gfX7_28 Cx eX7_back_22 ?_
    refine gfX7_243 Cx gx_y9 eX7_back_25 ?_
    refine gx_iconst (v := (0 : Int32)) Cx eX7_back_28 (by decide) ?_
    refine gx_ialdC (α := Unit) (b := none) Cx gx_y15 eX7_back_29 (by decide) ?_
    exact gx_rI h rfl eX7_back_30 hR
  · refine gx_bipush (v := (-5 : Int32)) Cx eX7_back_7 (by decide) ?_
    exact gx_rI h rfl eX7_back_9 hR
set_option maxHeartbeats 4000000 in
set_option maxRecDepth 100000 in
theorem c_X7_basinRefusal (κ : gx_K) {r : Nat} (hr : gx_Sh r) {M : gx_Mem} {r9 : Int32} (hf : f_X7_basinRefusal r M = some r9) : gx_CI κ yX7_basinRefusal cX7_basinRefusal 1 (some .int) 1 [.ref (gx_a κ r)] M r9 M := by
  refine gx_enterI (d := 1) my_X7_basinRefusal.1 (by decide) (Nat.le_of_ble_eq_true rfl) (fun Γ Cx hR => ?_)
  change gx_G κ Γ 0 [(0, .ref (gx_a κ r))] [] M
  have h := hf
  refine gx_aload_n Cx eX7_basinRefusal_0 0 rfl ?_
  obtain ⟨y2, h1, h⟩ := gx_bP_of h
  refine gx_callVI (ci := 5) Cx my_X5_isEmpty wlX7_324 rfl hr.1 (by decide) rfl eX7_basinRefusal_1 (c_X5_isEmpty κ hr h1) rfl (Nat.le_of_ble_eq_true rfl) ?_
  refine gx_if_eq (tgt := 10) Cx eX7_basinRefusal_4 (by decide) h (fun h => ?_) (fun h => ?_)
  · refine gx_aload_n Cx eX7_basinRefusal_10 0 rfl ?_
    refine gfX7_88 Cx hr.1 eX7_basinRefusal_11 ?_
    refine gx_if_eq (tgt := 20) Cx eX7_basinRefusal_14 (by decide) h (fun h => ?_) (fun h => ?_)
    · refine gx_aload_n Cx eX7_basinRefusal_20 0 rfl ?_
      refine gfX7_91 Cx hr.1 eX7_basinRefusal_21 ?_
      refine gx_iconst (v := (4 : Int32)) Cx eX7_basinRefusal_24 (by decide) ?_
      refine gx_icmp_ne (tgt := 32) Cx eX7_basinRefusal_25 (by decide) h (fun h => ?_) (fun h => ?_)
      · refine gx_iconst (v := (-1 : Int32)) Cx eX7_basinRefusal_32 (by decide) ?_
        exact gx_rIp h rfl eX7_basinRefusal_33 hR
      · refine gx_iconst (v := (0 : Int32)) Cx eX7_basinRefusal_28 (by decide) ?_
        refine gx_goto (tgt := 33) Cx eX7_basinRefusal_29 (by decide) ?_
        exact gx_rIp h rfl eX7_basinRefusal_33 hR
    · refine gx_bipush (v := (-12 : Int32)) Cx eX7_basinRefusal_17 (by decide) ?_
      exact gx_rIp h rfl eX7_basinRefusal_19 hR
  · refine gx_bipush (v := (-11 : Int32)) Cx eX7_basinRefusal_7 (by decide) ?_
    exact gx_rIp h rfl eX7_basinRefusal_9 hR
set_option maxHeartbeats 4000000 in
set_option maxRecDepth 100000 in
theorem c_X7_isKind (κ : gx_K) {v0 : Int32} {M : gx_Mem} {r9 : Int32} (hf : f_X7_isKind v0 M = some r9) : gx_CI κ yX7_isKind cX7_isKind 1 (some .boolean) 0 [.int v0] M r9 M := by
  refine gx_enterI (d := 0) my_X7_isKind.1 (by decide) (Nat.le_of_ble_eq_true rfl) (fun Γ Cx hR => ?_)
  change gx_G κ Γ 0 [(0, .int v0)] [] M
  have h := hf
  refine gx_iload_n Cx eX7_isKind_0 0 rfl ?_
  refine gx_if_lt (tgt := 14) Cx eX7_isKind_1 (by decide) h (fun h => ?_) (fun h => ?_)
  · refine gx_iconst (v := (0 : Int32)) Cx eX7_isKind_14 (by decide) ?_
    exact gx_rIp h (by decide) eX7_isKind_15 hR
  · refine gx_iload_n Cx eX7_isKind_4 0 rfl ?_
    refine gx_bipush (v := (8 : Int32)) Cx eX7_isKind_5 (by decide) ?_
    refine gx_icmp_ge (tgt := 14) Cx eX7_isKind_7 (by decide) h (fun h => ?_) (fun h => ?_)
    · refine gx_iconst (v := (0 : Int32)) Cx eX7_isKind_14 (by decide) ?_
      exact gx_rIp h (by decide) eX7_isKind_15 hR
    · refine gx_iconst (v := (1 : Int32)) Cx eX7_isKind_10 (by decide) ?_
      refine gx_goto (tgt := 15) Cx eX7_isKind_11 (by decide) ?_
      exact gx_rIp h (by decide) eX7_isKind_15 hR
set_option maxHeartbeats 4000000 in
set_option maxRecDepth 100000 in
theorem c_X7_body (κ : gx_K) {v1 : Int32} {M : gx_Mem} {r9 : Int32} {M9 : gx_Mem} (hf : f_X7_body v1 M = some (r9, M9)) : gx_CI κ yX7_body cX7_body 2 (some .int) 1 [.ref (gx_a κ 56), .int v1] M r9 M9 := by
  refine gx_enterI (d := 1) my_X7_body.1 (by decide) (Nat.le_of_ble_eq_true rfl) (fun Γ Cx hR => ?_)
  change gx_G κ Γ 0 [(0, .ref (gx_a κ 56)), (1, .int v1)] [] M
  have h := hf
  refine gx_iload_n Cx eX7_body_0 1 rfl ?_
  obtain ⟨y2, h1, h⟩ := gx_bP_of h
  refine gx_callSI Cx my_X7_isKind wlX7_289 (by decide) rfl eX7_body_1 (c_X7_isKind κ h1) rfl (Nat.le_of_ble_eq_true rfl) ?_
  refine gx_if_ne (tgt := 9) Cx eX7_body_4 (by decide) h (fun h => ?_) (fun h => ?_)
  · refine gx_aload_n Cx eX7_body_9 0 rfl ?_
    refine gfX7_54 Cx eX7_body_10 ?_
    refine gfX7_292 Cx eX7_body_13 ?_
    refine gx_bipush (v := (50 : Int32)) Cx eX7_body_16 (by decide) ?_
    refine gx_icmp_ge (tgt := 32) Cx eX7_body_18 (by decide) h (fun h => ?_) (fun h => ?_)
    · refine gx_bipush (v := (-3 : Int32)) Cx eX7_body_32 (by decide) ?_
      exact gx_rI h rfl eX7_body_34 hR
    · refine gx_aload_n Cx eX7_body_21 0 rfl ?_
      refine gfX7_54 Cx eX7_body_22 ?_
      refine gx_iload_n Cx eX7_body_25 1 rfl ?_
      obtain ⟨y4, M5, h3, h⟩ := gx_bI_of h
      refine gx_callVI (ci := 0) Cx my_X0_add wlX7_295 rfl gx_y40 (by decide) rfl eX7_body_26 (c_X0_add κ h3) rfl (Nat.le_of_ble_eq_true rfl) ?_
      refine gx_goto (tgt := 34) Cx eX7_body_29 (by decide) ?_
      exact gx_rI h rfl eX7_body_34 hR
  · refine gx_iconst (v := (-1 : Int32)) Cx eX7_body_7 (by decide) ?_
    exact gx_rI h rfl eX7_body_8 hR
set_option maxHeartbeats 4000000 in
set_option maxRecDepth 100000 in
theorem c_X7_isChoice (κ : gx_K) {v0 : Int32} {M : gx_Mem} {r9 : Int32} (hf : f_X7_isChoice v0 M = some r9) : gx_CI κ yX7_isChoice cX7_isChoice 1 (some .boolean) 0 [.int v0] M r9 M := by
  refine gx_enterI (d := 0) my_X7_isChoice.1 (by decide) (Nat.le_of_ble_eq_true rfl) (fun Γ Cx hR => ?_)
  change gx_G κ Γ 0 [(0, .int v0)] [] M
  have h := hf
  refine gx_iload_n Cx eX7_isChoice_0 0 rfl ?_
  refine gx_if_eq (tgt := 9) Cx eX7_isChoice_1 (by decide) h (fun h => ?_) (fun h => ?_)
  · refine gx_iconst (v := (1 : Int32)) Cx eX7_isChoice_9 (by decide) ?_
    refine gx_goto (tgt := 14) Cx eX7_isChoice_10 (by decide) ?_
    exact gx_rIp h (by decide) eX7_isChoice_14 hR
  · refine gx_iload_n Cx eX7_isChoice_4 0 rfl ?_
    refine gx_iconst (v := (1 : Int32)) Cx eX7_isChoice_5 (by decide) ?_
    refine gx_icmp_ne (tgt := 13) Cx eX7_isChoice_6 (by decide) h (fun h => ?_) (fun h => ?_)
    · refine gx_iconst (v := (0 : Int32)) Cx eX7_isChoice_13 (by decide) ?_
      exact gx_rIp h (by decide) eX7_isChoice_14 hR
    · refine gx_iconst (v := (1 : Int32)) Cx eX7_isChoice_9 (by decide) ?_
      refine gx_goto (tgt := 14) Cx eX7_isChoice_10 (by decide) ?_
      exact gx_rIp h (by decide) eX7_isChoice_14 hR
set_option maxHeartbeats 4000000 in
set_option maxRecDepth 100000 in
theorem c_X7_isOne (κ : gx_K) {v1 : Int32} {M : gx_Mem} {r9 : Int32} (hf : f_X7_isOne v1 M = some r9) : gx_CI κ yX7_isOne cX7_isOne 2 (some .boolean) 0 [.ref (gx_a κ 56), .int v1] M r9 M := by
  refine gx_enterI (d := 0) my_X7_isOne.1 (by decide) (Nat.le_of_ble_eq_true rfl) (fun Γ Cx hR => ?_)
  change gx_G κ Γ 0 [(0, .ref (gx_a κ 56)), (1, .int v1)] [] M
  have h := hf
  refine gx_iload_n Cx eX7_isOne_0 1 rfl ?_
  refine gx_if_lt (tgt := 19) Cx eX7_isOne_1 (by decide) h (fun h => ?_) (fun h => ?_)
  · refine gx_iconst (v := (0 : Int32)) Cx eX7_isOne_19 (by decide) ?_
    exact gx_rIp h (by decide) eX7_isOne_20 hR
  · refine gx_iload_n Cx eX7_isOne_4 1 rfl ?_
    refine gx_aload_n Cx eX7_isOne_5 0 rfl ?_
    refine gfX7_28 Cx eX7_isOne_6 ?_
    refine gfX7_73 Cx gx_y9 eX7_isOne_9 ?_
    refine gx_icmp_ge (tgt := 19) Cx eX7_isOne_12 (by decide) h (fun h => ?_) (fun h => ?_)
    · refine gx_iconst (v := (0 : Int32)) Cx eX7_isOne_19 (by decide) ?_
      exact gx_rIp h (by decide) eX7_isOne_20 hR
    · refine gx_iconst (v := (1 : Int32)) Cx eX7_isOne_15 (by decide) ?_
      refine gx_goto (tgt := 20) Cx eX7_isOne_16 (by decide) ?_
      exact gx_rIp h (by decide) eX7_isOne_20 hR
set_option maxHeartbeats 4000000 in
set_option maxRecDepth 100000 in
theorem c_X7_byTurns (κ : gx_K) {v1 : Int32} {v2 : Int32} {v3 : Int32} {M : gx_Mem} {r9 : Int32} {M9 : gx_Mem} (hf : f_X7_byTurns v1 v2 v3 M = some (r9, M9)) : gx_CI κ yX7_byTurns cX7_byTurns 6 (some .int) 6 [.ref (gx_a κ 56), .int v1, .int v2, .int v3] M r9 M9 := by
  refine gx_enterI (d := 6) my_X7_byTurns.1 (by decide) (Nat.le_of_ble_eq_true rfl) (fun Γ Cx hR => ?_)
  change gx_G κ Γ 0 [(0, .ref (gx_a κ 56)), (1, .int v1), (2, .int v2), (3, .int v3)] [] M
  have B80 : ∀ (s1 : Int32) (s2 : Int32) (s3 : Int32) (s4 : Int32) (M : gx_Mem), f_X7_byTurns_b80 s1 s2 s3 s4 M = some (r9, M9) → gx_G κ Γ 80 [] [.int s4, .int s3, .int s2, .int s1, .ref (gx_a κ 30)] M := by
    intro s1 s2 s3 s4 M h
    obtain ⟨y10, M11, h9, h⟩ := gx_bI_of h
    refine gx_callVI (ci := 4) Cx my_X4_turns wlX7_227 rfl gx_y30 (by decide) rfl eX7_byTurns_80 (c_X4_turns κ h9) rfl (Nat.le_of_ble_eq_true rfl) ?_
    exact gx_rI h rfl eX7_byTurns_83 hR
  have h := hf
  refine gx_iload_n Cx eX7_byTurns_0 1 rfl ?_
  refine gx_bipush (v := (10 : Int32)) Cx eX7_byTurns_1 (by decide) ?_
  refine gx_idivC Cx eX7_byTurns_3 (by decide) ?_
  refine gx_nmI h (fun x1 h => ?_)
  refine gx_istore Cx eX7_byTurns_4 [(4, .int x1), (0, .ref (gx_a κ 56)), (1, .int v1), (2, .int v2), (3, .int v3)] rfl (by decide) ?_
  refine gx_iload_n Cx eX7_byTurns_6 2 rfl ?_
  refine gx_bipush (v := (10 : Int32)) Cx eX7_byTurns_7 (by decide) ?_
  refine gx_iremC Cx eX7_byTurns_9 (by decide) ?_
  refine gx_nmI h (fun x2 h => ?_)
  refine gx_istore Cx eX7_byTurns_10 [(5, .int x2), (4, .int x1), (0, .ref (gx_a κ 56)), (1, .int v1), (2, .int v2), (3, .int v3)] rfl (by decide) ?_
  refine gx_iload_n Cx eX7_byTurns_12 3 rfl ?_
  refine gx_if_lt (tgt := 59) Cx eX7_byTurns_13 (by decide) h (fun h => ?_) (fun h => ?_)
  · refine gx_iconst (v := (-1 : Int32)) Cx eX7_byTurns_59 (by decide) ?_
    exact gx_rI h rfl eX7_byTurns_60 hR
  · refine gx_aload_n Cx eX7_byTurns_16 2 rfl ?_
    refine gx_iload Cx eX7_byTurns_17 1 rfl ?_
    obtain ⟨y4, h3, h⟩ := gx_bP_of h
    refine gx_callVI (ci := 7) Cx my_X7_isOne wlX7_164 rfl gx_y56 (by decide) rfl eX7_byTurns_19 (c_X7_isOne κ h3) rfl (Nat.le_of_ble_eq_true rfl) ?_
    refine gx_if_eq (tgt := 59) Cx eX7_byTurns_22 (by decide) h (fun h => ?_) (fun h => ?_)
    · refine gx_iconst (v := (-1 : Int32)) Cx eX7_byTurns_59 (by decide) ?_
      exact gx_rI h rfl eX7_byTurns_60 hR
    · refine gx_aload_n Cx eX7_byTurns_25 2 rfl ?_
      refine gx_iload Cx eX7_byTurns_26 0 rfl ?_
      obtain ⟨y6, h5, h⟩ := gx_bP_of h
      refine gx_callVI (ci := 7) Cx my_X7_isOne wlX7_164 rfl gx_y56 (by decide) rfl eX7_byTurns_28 (c_X7_isOne κ h5) rfl (Nat.le_of_ble_eq_true rfl) ?_
      refine gx_if_eq (tgt := 59) Cx eX7_byTurns_31 (by decide) h (fun h => ?_) (fun h => ?_)
      · refine gx_iconst (v := (-1 : Int32)) Cx eX7_byTurns_59 (by decide) ?_
        exact gx_rI h rfl eX7_byTurns_60 hR
      · refine gx_iload Cx eX7_byTurns_34 1 rfl ?_
        refine gx_iload Cx eX7_byTurns_36 0 rfl ?_
        refine gx_icmp_eq (tgt := 59) Cx eX7_byTurns_38 (by decide) h (fun h => ?_) (fun h => ?_)
        · refine gx_iconst (v := (-1 : Int32)) Cx eX7_byTurns_59 (by decide) ?_
          exact gx_rI h rfl eX7_byTurns_60 hR
        · refine gx_iload_n Cx eX7_byTurns_41 4 rfl ?_
          refine gx_iconst (v := (1 : Int32)) Cx eX7_byTurns_42 (by decide) ?_
          refine gx_icmp_lt (tgt := 59) Cx eX7_byTurns_43 (by decide) h (fun h => ?_) (fun h => ?_)
          · refine gx_iconst (v := (-1 : Int32)) Cx eX7_byTurns_59 (by decide) ?_
            exact gx_rI h rfl eX7_byTurns_60 hR
          · refine gx_iload_n Cx eX7_byTurns_46 4 rfl ?_
            refine gx_bipush (v := (6 : Int32)) Cx eX7_byTurns_47 (by decide) ?_
            refine gx_icmp_gt (tgt := 59) Cx eX7_byTurns_49 (by decide) h (fun h => ?_) (fun h => ?_)
            · refine gx_iconst (v := (-1 : Int32)) Cx eX7_byTurns_59 (by decide) ?_
              exact gx_rI h rfl eX7_byTurns_60 hR
            · refine gx_iload_n Cx eX7_byTurns_52 5 rfl ?_
              obtain ⟨y8, h7, h⟩ := gx_bP_of h
              refine gx_callSI Cx my_X7_isChoice wlX7_140 (by decide) rfl eX7_byTurns_53 (c_X7_isChoice κ h7) rfl (Nat.le_of_ble_eq_true rfl) ?_
              refine gx_if_ne (tgt := 61) Cx eX7_byTurns_56 (by decide) h (fun h => ?_) (fun h => ?_)
              · refine gx_aload_n Cx eX7_byTurns_61 2 rfl ?_
                refine gfX7_40 Cx eX7_byTurns_62 ?_
                refine gx_iload Cx eX7_byTurns_65 1 rfl ?_
                refine gx_iload Cx eX7_byTurns_67 0 rfl ?_
                refine gx_iload_n Cx eX7_byTurns_69 4 rfl ?_
                refine gx_iload_n Cx eX7_byTurns_70 5 rfl ?_
                refine gx_iconst (v := (1 : Int32)) Cx eX7_byTurns_71 (by decide) ?_
                refine gx_icmp_ne (tgt := 79) Cx eX7_byTurns_72 (by decide) h (fun h => ?_) (fun h => ?_)
                · refine gx_iconst (v := (0 : Int32)) Cx eX7_byTurns_79 (by decide) ?_
                  refine gx_sub [] rfl ?_
                  exact B80 _ _ _ _ _ h
                · refine gx_iconst (v := (1 : Int32)) Cx eX7_byTurns_75 (by decide) ?_
                  refine gx_goto (tgt := 80) Cx eX7_byTurns_76 (by decide) ?_
                  refine gx_sub [] rfl ?_
                  exact B80 _ _ _ _ _ h
              · refine gx_iconst (v := (-1 : Int32)) Cx eX7_byTurns_59 (by decide) ?_
                exact gx_rI h rfl eX7_byTurns_60 hR
set_option maxHeartbeats 4000000 in
set_option maxRecDepth 100000 in
theorem c_X7_isMark (κ : gx_K) {v0 : Int32} {M : gx_Mem} {r9 : Int32} (hf : f_X7_isMark v0 M = some r9) : gx_CI κ yX7_isMark cX7_isMark 1 (some .boolean) 0 [.int v0] M r9 M := by
  refine gx_enterI (d := 0) my_X7_isMark.1 (by decide) (Nat.le_of_ble_eq_true rfl) (fun Γ Cx hR => ?_)
  change gx_G κ Γ 0 [(0, .int v0)] [] M
  have h := hf
  refine gx_iload_n Cx eX7_isMark_0 0 rfl ?_
  refine gx_if_lt (tgt := 13) Cx eX7_isMark_1 (by decide) h (fun h => ?_) (fun h => ?_)
  · refine gx_iconst (v := (0 : Int32)) Cx eX7_isMark_13 (by decide) ?_
    exact gx_rIp h (by decide) eX7_isMark_14 hR
  · refine gx_iload_n Cx eX7_isMark_4 0 rfl ?_
    refine gx_iconst (v := (4 : Int32)) Cx eX7_isMark_5 (by decide) ?_
    refine gx_icmp_ge (tgt := 13) Cx eX7_isMark_6 (by decide) h (fun h => ?_) (fun h => ?_)
    · refine gx_iconst (v := (0 : Int32)) Cx eX7_isMark_13 (by decide) ?_
      exact gx_rIp h (by decide) eX7_isMark_14 hR
    · refine gx_iconst (v := (1 : Int32)) Cx eX7_isMark_9 (by decide) ?_
      refine gx_goto (tgt := 14) Cx eX7_isMark_10 (by decide) ?_
      exact gx_rIp h (by decide) eX7_isMark_14 hR
set_option maxHeartbeats 4000000 in
set_option maxRecDepth 100000 in
theorem c_X7_isSpan (κ : gx_K) {v0 : Int32} {M : gx_Mem} {r9 : Int32} (hf : f_X7_isSpan v0 M = some r9) : gx_CI κ yX7_isSpan cX7_isSpan 1 (some .boolean) 0 [.int v0] M r9 M := by
  refine gx_enterI (d := 0) my_X7_isSpan.1 (by decide) (Nat.le_of_ble_eq_true rfl) (fun Γ Cx hR => ?_)
  change gx_G κ Γ 0 [(0, .int v0)] [] M
  have h := hf
  refine gx_iload_n Cx eX7_isSpan_0 0 rfl ?_
  refine gx_if_lt (tgt := 14) Cx eX7_isSpan_1 (by decide) h (fun h => ?_) (fun h => ?_)
  · refine gx_iconst (v := (0 : Int32)) Cx eX7_isSpan_14 (by decide) ?_
    exact gx_rIp h (by decide) eX7_isSpan_15 hR
  · refine gx_iload_n Cx eX7_isSpan_4 0 rfl ?_
    refine gx_bipush (v := (48 : Int32)) Cx eX7_isSpan_5 (by decide) ?_
    refine gx_icmp_gt (tgt := 14) Cx eX7_isSpan_7 (by decide) h (fun h => ?_) (fun h => ?_)
    · refine gx_iconst (v := (0 : Int32)) Cx eX7_isSpan_14 (by decide) ?_
      exact gx_rIp h (by decide) eX7_isSpan_15 hR
    · refine gx_iconst (v := (1 : Int32)) Cx eX7_isSpan_10 (by decide) ?_
      refine gx_goto (tgt := 15) Cx eX7_isSpan_11 (by decide) ?_
      exact gx_rIp h (by decide) eX7_isSpan_15 hR
set_option maxHeartbeats 4000000 in
set_option maxRecDepth 100000 in
theorem c_X7_caught (κ : gx_K) {v1 : Int32} {v2 : Int32} {M : gx_Mem} {r9 : Int32} {M9 : gx_Mem} (hf : f_X7_caught v1 v2 M = some (r9, M9)) : gx_CI κ yX7_caught cX7_caught 3 (some .int) 6 [.ref (gx_a κ 56), .int v1, .int v2] M r9 M9 := by
  refine gx_enterI (d := 6) my_X7_caught.1 (by decide) (Nat.le_of_ble_eq_true rfl) (fun Γ Cx hR => ?_)
  change gx_G κ Γ 0 [(0, .ref (gx_a κ 56)), (1, .int v1), (2, .int v2)] [] M
  have h := hf
  refine gx_iload_n Cx eX7_caught_0 1 rfl ?_
  obtain ⟨y2, h1, h⟩ := gx_bP_of h
  refine gx_callSI Cx my_X7_isSpan wlX7_154 (by decide) rfl eX7_caught_1 (c_X7_isSpan κ h1) rfl (Nat.le_of_ble_eq_true rfl) ?_
  refine gx_if_eq (tgt := 26) Cx eX7_caught_4 (by decide) h (fun h => ?_) (fun h => ?_)
  · refine gx_iconst (v := (-1 : Int32)) Cx eX7_caught_26 (by decide) ?_
    exact gx_rI h rfl eX7_caught_27 hR
  · refine gx_iload_n Cx eX7_caught_7 2 rfl ?_
    obtain ⟨y4, h3, h⟩ := gx_bP_of h
    refine gx_callSI Cx my_X7_isMark wlX7_137 (by decide) rfl eX7_caught_8 (c_X7_isMark κ h3) rfl (Nat.le_of_ble_eq_true rfl) ?_
    refine gx_if_eq (tgt := 26) Cx eX7_caught_11 (by decide) h (fun h => ?_) (fun h => ?_)
    · refine gx_iconst (v := (-1 : Int32)) Cx eX7_caught_26 (by decide) ?_
      exact gx_rI h rfl eX7_caught_27 hR
    · refine gx_aload_n Cx eX7_caught_14 0 rfl ?_
      refine gfX7_40 Cx eX7_caught_15 ?_
      refine gx_iload_n Cx eX7_caught_18 1 rfl ?_
      refine gx_iload_n Cx eX7_caught_19 2 rfl ?_
      obtain ⟨y6, M7, h5, h⟩ := gx_bI_of h
      refine gx_callVI (ci := 4) Cx my_X4_caughtBehind wlX7_173 rfl gx_y30 (by decide) rfl eX7_caught_20 (c_X4_caughtBehind κ h5) rfl (Nat.le_of_ble_eq_true rfl) ?_
      refine gx_goto (tgt := 27) Cx eX7_caught_23 (by decide) ?_
      exact gx_rI h rfl eX7_caught_27 hR
set_option maxHeartbeats 4000000 in
set_option maxRecDepth 100000 in
theorem c_X7_isPm (κ : gx_K) {v1 : Int32} {M : gx_Mem} {r9 : Int32} (hf : f_X7_isPm v1 M = some r9) : gx_CI κ yX7_isPm cX7_isPm 2 (some .boolean) 1 [.ref (gx_a κ 56), .int v1] M r9 M := by
  refine gx_enterI (d := 1) my_X7_isPm.1 (by decide) (Nat.le_of_ble_eq_true rfl) (fun Γ Cx hR => ?_)
  change gx_G κ Γ 0 [(0, .ref (gx_a κ 56)), (1, .int v1)] [] M
  have h := hf
  refine gx_iload_n Cx eX7_isPm_0 1 rfl ?_
  refine gx_if_lt (tgt := 29) Cx eX7_isPm_1 (by decide) h (fun h => ?_) (fun h => ?_)
  · refine gx_iconst (v := (0 : Int32)) Cx eX7_isPm_29 (by decide) ?_
    exact gx_rIp h (by decide) eX7_isPm_30 hR
  · refine gx_aload_n Cx eX7_isPm_4 0 rfl ?_
    refine gx_iload_n Cx eX7_isPm_5 1 rfl ?_
    refine gx_bipush (v := (10 : Int32)) Cx eX7_isPm_6 (by decide) ?_
    refine gx_idivC Cx eX7_isPm_8 (by decide) ?_
    obtain ⟨y2, h1, h⟩ := gx_bP_of h
    refine gx_callVI (ci := 7) Cx my_X7_isOne wlX7_164 rfl gx_y56 (by decide) rfl eX7_isPm_9 (c_X7_isOne κ h1) rfl (Nat.le_of_ble_eq_true rfl) ?_
    refine gx_if_eq (tgt := 29) Cx eX7_isPm_12 (by decide) h (fun h => ?_) (fun h => ?_)
    · refine gx_iconst (v := (0 : Int32)) Cx eX7_isPm_29 (by decide) ?_
      exact gx_rIp h (by decide) eX7_isPm_30 hR
    · refine gx_iload_n Cx eX7_isPm_15 1 rfl ?_
      refine gx_bipush (v := (10 : Int32)) Cx eX7_isPm_16 (by decide) ?_
      refine gx_iremC Cx eX7_isPm_18 (by decide) ?_
      obtain ⟨y4, h3, h⟩ := gx_bP_of h
      refine gx_callSI Cx my_X7_isMark wlX7_137 (by decide) rfl eX7_isPm_19 (c_X7_isMark κ h3) rfl (Nat.le_of_ble_eq_true rfl) ?_
      refine gx_if_eq (tgt := 29) Cx eX7_isPm_22 (by decide) h (fun h => ?_) (fun h => ?_)
      · refine gx_iconst (v := (0 : Int32)) Cx eX7_isPm_29 (by decide) ?_
        exact gx_rIp h (by decide) eX7_isPm_30 hR
      · refine gx_iconst (v := (1 : Int32)) Cx eX7_isPm_25 (by decide) ?_
        refine gx_goto (tgt := 30) Cx eX7_isPm_26 (by decide) ?_
        exact gx_rIp h (by decide) eX7_isPm_30 hR
set_option maxHeartbeats 4000000 in
set_option maxRecDepth 100000 in
theorem c_X7_change (κ : gx_K) {v1 : Int32} {v2 : Int32} {v3 : Int32} {M : gx_Mem} {r9 : Int32} {M9 : gx_Mem} (hf : f_X7_change v1 v2 v3 M = some (r9, M9)) : gx_CI κ yX7_change cX7_change 5 (some .int) 7 [.ref (gx_a κ 56), .int v1, .int v2, .int v3] M r9 M9 := by
  refine gx_enterI (d := 7) my_X7_change.1 (by decide) (Nat.le_of_ble_eq_true rfl) (fun Γ Cx hR => ?_)
  change gx_G κ Γ 0 [(0, .ref (gx_a κ 56)), (1, .int v1), (2, .int v2), (3, .int v3)] [] M
  have B52 : ∀ (s1 : Int32) (s2 : Int32) (s3 : Int32) (M : gx_Mem), f_X7_change_b52 v3 s1 s2 s3 M = some (r9, M9) → gx_G κ Γ 52 [(0, .ref (gx_a κ 56)), (3, .int v3)] [.int s3, .int s2, .int s1, .ref (gx_a κ 30)] M := by
    intro s1 s2 s3 M h
    obtain ⟨y8, M9, h7, h⟩ := gx_bI_of h
    refine gx_callVI (ci := 4) Cx my_X4_deal wlX7_191 rfl gx_y30 (by decide) rfl eX7_change_52 (c_X4_deal κ h7) rfl (Nat.le_of_ble_eq_true rfl) ?_
    refine gx_istore Cx eX7_change_55 [(4, .int y8), (0, .ref (gx_a κ 56)), (3, .int v3)] rfl (by decide) ?_
    refine gx_iload_n Cx eX7_change_57 2 rfl ?_
    refine gx_if_ge (tgt := 66) Cx eX7_change_58 (by decide) h (fun h => ?_) (fun h => ?_)
    · refine gx_aload_n Cx eX7_change_66 1 rfl ?_
      refine gfX7_40 Cx eX7_change_67 ?_
      refine gx_iload_n Cx eX7_change_70 2 rfl ?_
      obtain ⟨y11, h10, h⟩ := gx_bP_of h
      refine gx_callVI (ci := 4) Cx my_X4_dealtFlat wlX7_195 rfl gx_y30 (by decide) rfl eX7_change_71 (c_X4_dealtFlat κ h10) rfl (Nat.le_of_ble_eq_true rfl) ?_
      exact gx_rI h rfl eX7_change_74 hR
    · refine gx_iload Cx eX7_change_61 0 rfl ?_
      refine gx_goto (tgt := 74) Cx eX7_change_63 (by decide) ?_
      exact gx_rI h rfl eX7_change_74 hR
  have B30 : ∀  (M : gx_Mem), f_X7_change_b30 v1 v2 v3 M = some (r9, M9) → gx_G κ Γ 30 [(0, .ref (gx_a κ 56)), (1, .int v1), (2, .int v2), (3, .int v3)] [] M := by
    intro M h
    refine gx_aload_n Cx eX7_change_30 0 rfl ?_
    refine gfX7_40 Cx eX7_change_31 ?_
    refine gx_iload_n Cx eX7_change_34 1 rfl ?_
    refine gx_bipush (v := (10 : Int32)) Cx eX7_change_35 (by decide) ?_
    refine gx_idivC Cx eX7_change_37 (by decide) ?_
    refine gx_iload_n Cx eX7_change_38 1 rfl ?_
    refine gx_bipush (v := (10 : Int32)) Cx eX7_change_39 (by decide) ?_
    refine gx_iremC Cx eX7_change_41 (by decide) ?_
    refine gx_iload_n Cx eX7_change_42 2 rfl ?_
    refine gx_iconst (v := (1 : Int32)) Cx eX7_change_43 (by decide) ?_
    refine gx_icmp_ne (tgt := 51) Cx eX7_change_44 (by decide) h (fun h => ?_) (fun h => ?_)
    · refine gx_iconst (v := (0 : Int32)) Cx eX7_change_51 (by decide) ?_
      refine gx_sub [0, 3] rfl ?_
      exact B52 _ _ _ _ h
    · refine gx_iconst (v := (1 : Int32)) Cx eX7_change_47 (by decide) ?_
      refine gx_goto (tgt := 52) Cx eX7_change_48 (by decide) ?_
      refine gx_sub [0, 3] rfl ?_
      exact B52 _ _ _ _ h
  have h := hf
  refine gx_aload_n Cx eX7_change_0 0 rfl ?_
  refine gx_iload_n Cx eX7_change_1 1 rfl ?_
  obtain ⟨y2, h1, h⟩ := gx_bP_of h
  refine gx_callVI (ci := 7) Cx my_X7_isPm wlX7_157 rfl gx_y56 (by decide) rfl eX7_change_2 (c_X7_isPm κ h1) rfl (Nat.le_of_ble_eq_true rfl) ?_
  refine gx_if_eq (tgt := 28) Cx eX7_change_5 (by decide) h (fun h => ?_) (fun h => ?_)
  · refine gx_iconst (v := (-1 : Int32)) Cx eX7_change_28 (by decide) ?_
    exact gx_rI h rfl eX7_change_29 hR
  · refine gx_iload_n Cx eX7_change_8 2 rfl ?_
    obtain ⟨y4, h3, h⟩ := gx_bP_of h
    refine gx_callSI Cx my_X7_isChoice wlX7_140 (by decide) rfl eX7_change_9 (c_X7_isChoice κ h3) rfl (Nat.le_of_ble_eq_true rfl) ?_
    refine gx_if_eq (tgt := 28) Cx eX7_change_12 (by decide) h (fun h => ?_) (fun h => ?_)
    · refine gx_iconst (v := (-1 : Int32)) Cx eX7_change_28 (by decide) ?_
      exact gx_rI h rfl eX7_change_29 hR
    · refine gx_iload_n Cx eX7_change_15 3 rfl ?_
      refine gx_iconst (v := (-1 : Int32)) Cx eX7_change_16 (by decide) ?_
      refine gx_icmp_eq (tgt := 30) Cx eX7_change_17 (by decide) h (fun h => ?_) (fun h => ?_)
      · exact B30 _ h
      · refine gx_aload_n Cx eX7_change_20 0 rfl ?_
        refine gx_iload_n Cx eX7_change_21 3 rfl ?_
        obtain ⟨y6, h5, h⟩ := gx_bP_of h
        refine gx_callVI (ci := 7) Cx my_X7_isOne wlX7_164 rfl gx_y56 (by decide) rfl eX7_change_22 (c_X7_isOne κ h5) rfl (Nat.le_of_ble_eq_true rfl) ?_
        refine gx_if_ne (tgt := 30) Cx eX7_change_25 (by decide) h (fun h => ?_) (fun h => ?_)
        · exact B30 _ h
        · refine gx_iconst (v := (-1 : Int32)) Cx eX7_change_28 (by decide) ?_
          exact gx_rI h rfl eX7_change_29 hR
set_option maxHeartbeats 4000000 in
set_option maxRecDepth 100000 in
theorem c_X7_isHour (κ : gx_K) {v0 : Int32} {M : gx_Mem} {r9 : Int32} (hf : f_X7_isHour v0 M = some r9) : gx_CI κ yX7_isHour cX7_isHour 1 (some .boolean) 0 [.int v0] M r9 M := by
  refine gx_enterI (d := 0) my_X7_isHour.1 (by decide) (Nat.le_of_ble_eq_true rfl) (fun Γ Cx hR => ?_)
  change gx_G κ Γ 0 [(0, .int v0)] [] M
  have h := hf
  refine gx_iload_n Cx eX7_isHour_0 0 rfl ?_
  refine gx_if_lt (tgt := 14) Cx eX7_isHour_1 (by decide) h (fun h => ?_) (fun h => ?_)
  · refine gx_iconst (v := (0 : Int32)) Cx eX7_isHour_14 (by decide) ?_
    exact gx_rIp h (by decide) eX7_isHour_15 hR
  · refine gx_iload_n Cx eX7_isHour_4 0 rfl ?_
    refine gx_bipush (v := (12 : Int32)) Cx eX7_isHour_5 (by decide) ?_
    refine gx_icmp_ge (tgt := 14) Cx eX7_isHour_7 (by decide) h (fun h => ?_) (fun h => ?_)
    · refine gx_iconst (v := (0 : Int32)) Cx eX7_isHour_14 (by decide) ?_
      exact gx_rIp h (by decide) eX7_isHour_15 hR
    · refine gx_iconst (v := (1 : Int32)) Cx eX7_isHour_10 (by decide) ?_
      refine gx_goto (tgt := 15) Cx eX7_isHour_11 (by decide) ?_
      exact gx_rIp h (by decide) eX7_isHour_15 hR
set_option maxHeartbeats 4000000 in
set_option maxRecDepth 100000 in
theorem c_X7_comes (κ : gx_K) {v1 : Int32} {v2 : Int32} {v3 : Int32} {M : gx_Mem} {r9 : Int32} {M9 : gx_Mem} (hf : f_X7_comes v1 v2 v3 M = some (r9, M9)) : gx_CI κ yX7_comes cX7_comes 6 (some .int) 4 [.ref (gx_a κ 56), .int v1, .int v2, .int v3] M r9 M9 := by
  refine gx_enterI (d := 4) my_X7_comes.1 (by decide) (Nat.le_of_ble_eq_true rfl) (fun Γ Cx hR => ?_)
  change gx_G κ Γ 0 [(0, .ref (gx_a κ 56)), (1, .int v1), (2, .int v2), (3, .int v3)] [] M
  have h := hf
  refine gx_iload_n Cx eX7_comes_0 1 rfl ?_
  refine gx_bipush (v := (100 : Int32)) Cx eX7_comes_1 (by decide) ?_
  refine gx_idivC Cx eX7_comes_3 (by decide) ?_
  refine gx_nmI h (fun x1 h => ?_)
  refine gx_istore Cx eX7_comes_4 [(4, .int x1), (0, .ref (gx_a κ 56)), (1, .int v1), (2, .int v2), (3, .int v3)] rfl (by decide) ?_
  refine gx_iload_n Cx eX7_comes_6 2 rfl ?_
  refine gx_bipush (v := (100 : Int32)) Cx eX7_comes_7 (by decide) ?_
  refine gx_iremC Cx eX7_comes_9 (by decide) ?_
  refine gx_nmI h (fun x2 h => ?_)
  refine gx_istore Cx eX7_comes_10 [(5, .int x2), (4, .int x1), (0, .ref (gx_a κ 56)), (1, .int v1), (2, .int v2), (3, .int v3)] rfl (by decide) ?_
  refine gx_iload_n Cx eX7_comes_12 3 rfl ?_
  refine gx_if_lt (tgt := 46) Cx eX7_comes_13 (by decide) h (fun h => ?_) (fun h => ?_)
  · refine gx_iconst (v := (-1 : Int32)) Cx eX7_comes_46 (by decide) ?_
    exact gx_rI h rfl eX7_comes_47 hR
  · refine gx_iload Cx eX7_comes_16 1 rfl ?_
    obtain ⟨y4, h3, h⟩ := gx_bP_of h
    refine gx_callSI Cx my_X7_isHour wlX7_131 (by decide) rfl eX7_comes_18 (c_X7_isHour κ h3) rfl (Nat.le_of_ble_eq_true rfl) ?_
    refine gx_if_eq (tgt := 46) Cx eX7_comes_21 (by decide) h (fun h => ?_) (fun h => ?_)
    · refine gx_iconst (v := (-1 : Int32)) Cx eX7_comes_46 (by decide) ?_
      exact gx_rI h rfl eX7_comes_47 hR
    · refine gx_iload Cx eX7_comes_24 0 rfl ?_
      obtain ⟨y6, h5, h⟩ := gx_bP_of h
      refine gx_callSI Cx my_X7_isFlat wlX7_134 (by decide) rfl eX7_comes_26 (c_X7_isFlat κ h5) rfl (Nat.le_of_ble_eq_true rfl) ?_
      refine gx_if_eq (tgt := 46) Cx eX7_comes_29 (by decide) h (fun h => ?_) (fun h => ?_)
      · refine gx_iconst (v := (-1 : Int32)) Cx eX7_comes_46 (by decide) ?_
        exact gx_rI h rfl eX7_comes_47 hR
      · refine gx_iload_n Cx eX7_comes_32 4 rfl ?_
        obtain ⟨y8, h7, h⟩ := gx_bP_of h
        refine gx_callSI Cx my_X7_isMark wlX7_137 (by decide) rfl eX7_comes_33 (c_X7_isMark κ h7) rfl (Nat.le_of_ble_eq_true rfl) ?_
        refine gx_if_eq (tgt := 46) Cx eX7_comes_36 (by decide) h (fun h => ?_) (fun h => ?_)
        · refine gx_iconst (v := (-1 : Int32)) Cx eX7_comes_46 (by decide) ?_
          exact gx_rI h rfl eX7_comes_47 hR
        · refine gx_iload_n Cx eX7_comes_39 5 rfl ?_
          obtain ⟨y10, h9, h⟩ := gx_bP_of h
          refine gx_callSI Cx my_X7_isChoice wlX7_140 (by decide) rfl eX7_comes_40 (c_X7_isChoice κ h9) rfl (Nat.le_of_ble_eq_true rfl) ?_
          refine gx_if_ne (tgt := 48) Cx eX7_comes_43 (by decide) h (fun h => ?_) (fun h => ?_)
          · refine gx_aload_n Cx eX7_comes_48 2 rfl ?_
            refine gfX7_28 Cx eX7_comes_49 ?_
            refine gx_iload Cx eX7_comes_52 0 rfl ?_
            refine gx_bipush (v := (8 : Int32)) Cx eX7_comes_54 (by decide) ?_
            refine gx_idivC Cx eX7_comes_56 (by decide) ?_
            refine gx_iload Cx eX7_comes_57 0 rfl ?_
            refine gx_bipush (v := (8 : Int32)) Cx eX7_comes_59 (by decide) ?_
            refine gx_iremC Cx eX7_comes_61 (by decide) ?_
            refine gx_iload_n Cx eX7_comes_62 5 rfl ?_
            refine gx_isub Cx eX7_comes_63 ?_
            refine gx_iload_n Cx eX7_comes_64 4 rfl ?_
            refine gx_aload_n Cx eX7_comes_65 2 rfl ?_
            refine gfX7_28 Cx eX7_comes_66 ?_
            refine gx_iload Cx eX7_comes_69 1 rfl ?_
            obtain ⟨y12, h11, h⟩ := gx_bP_of h
            refine gx_callVI (ci := 2) Cx my_X2_outAt wlX7_143 rfl gx_y9 (by decide) rfl eX7_comes_71 (c_X2_outAt κ gx_Ho9 h11) rfl (Nat.le_of_ble_eq_true rfl) ?_
            obtain ⟨y14, M15, h13, h⟩ := gx_bI_of h
            refine gx_callVI (ci := 2) Cx my_X2_reaches wlX7_147 rfl gx_y9 (by decide) rfl eX7_comes_74 (c_X2_reaches κ gx_Ho9 h13) rfl (Nat.le_of_ble_eq_true rfl) ?_
            exact gx_rI h rfl eX7_comes_77 hR
          · refine gx_iconst (v := (-1 : Int32)) Cx eX7_comes_46 (by decide) ?_
            exact gx_rI h rfl eX7_comes_47 hR
set_option maxHeartbeats 4000000 in
set_option maxRecDepth 100000 in
theorem c_X7_count (κ : gx_K) {v1 : Int32} {M : gx_Mem} {r9 : Int32} (hf : f_X7_count v1 M = some r9) : gx_CI κ yX7_count cX7_count 2 (some .int) 1 [.ref (gx_a κ 56), .int v1] M r9 M := by
  refine gx_enterI (d := 1) my_X7_count.1 (by decide) (Nat.le_of_ble_eq_true rfl) (fun Γ Cx hR => ?_)
  change gx_G κ Γ 0 [(0, .ref (gx_a κ 56)), (1, .int v1)] [] M
  have h := hf
  refine gx_iload_n Cx eX7_count_0 1 rfl ?_
  refine gx_case (0 : Int32) h (fun h => ?_) (fun n0 h => ?_)
  · refine gx_tsIn (tgt := 40) Cx eX7_count_1 (by decide) (by decide) rfl (by decide) ?_
    refine gx_aload_n Cx eX7_count_40 0 rfl ?_
    refine gfX7_28 Cx eX7_count_41 ?_
    refine gfX7_73 Cx gx_y9 eX7_count_44 ?_
    exact gx_rIp h rfl eX7_count_47 hR
  refine gx_case (1 : Int32) h (fun h => ?_) (fun n1 h => ?_)
  · refine gx_tsIn (tgt := 48) Cx eX7_count_1 (by decide) (by decide) rfl (by decide) ?_
    refine gx_aload_n Cx eX7_count_48 0 rfl ?_
    refine gfX7_28 Cx eX7_count_49 ?_
    obtain ⟨y2, h1, h⟩ := gx_bP_of h
    refine gx_callVI (ci := 2) Cx my_X2_awningsOut wlX7_342 rfl gx_y9 (by decide) rfl eX7_count_52 (c_X2_awningsOut κ gx_Ho9 h1) rfl (Nat.le_of_ble_eq_true rfl) ?_
    exact gx_rIp h rfl eX7_count_55 hR
  refine gx_case (2 : Int32) h (fun h => ?_) (fun n2 h => ?_)
  · refine gx_tsIn (tgt := 56) Cx eX7_count_1 (by decide) (by decide) rfl (by decide) ?_
    refine gx_aload_n Cx eX7_count_56 0 rfl ?_
    refine gfX7_19 Cx eX7_count_57 ?_
    refine gfX7_119 Cx eX7_count_60 ?_
    exact gx_rIp h rfl eX7_count_63 hR
  refine gx_case (3 : Int32) h (fun h => ?_) (fun n3 h => ?_)
  · refine gx_tsIn (tgt := 64) Cx eX7_count_1 (by decide) (by decide) rfl (by decide) ?_
    refine gx_aload_n Cx eX7_count_64 0 rfl ?_
    refine gfX7_47 Cx eX7_count_65 ?_
    refine gfX7_264 Cx eX7_count_68 ?_
    exact gx_rIp h rfl eX7_count_71 hR
  refine gx_case (4 : Int32) h (fun h => ?_) (fun n4 h => ?_)
  · refine gx_tsIn (tgt := 72) Cx eX7_count_1 (by decide) (by decide) rfl (by decide) ?_
    refine gx_aload_n Cx eX7_count_72 0 rfl ?_
    refine gfX7_54 Cx eX7_count_73 ?_
    refine gfX7_292 Cx eX7_count_76 ?_
    exact gx_rIp h rfl eX7_count_79 hR
  refine gx_case (5 : Int32) h (fun h => ?_) (fun n5 h => ?_)
  · refine gx_tsIn (tgt := 80) Cx eX7_count_1 (by decide) (by decide) rfl (by decide) ?_
    refine gx_aload_n Cx eX7_count_80 0 rfl ?_
    refine gfX7_54 Cx eX7_count_81 ?_
    refine gfX7_300 Cx eX7_count_84 ?_
    exact gx_rIp h rfl eX7_count_87 hR
  refine gx_tsOut (tgt := 88) Cx eX7_count_1 (by have zn0 := gx_neT (k := 0) n0 (by decide); have zn1 := gx_neT (k := 1) n1 (by decide); have zn2 := gx_neT (k := 2) n2 (by decide); have zn3 := gx_neT (k := 3) n3 (by decide); have zn4 := gx_neT (k := 4) n4 (by decide); have zn5 := gx_neT (k := 5) n5 (by decide); omega) (by decide) ?_
  refine gx_iconst (v := (-1 : Int32)) Cx eX7_count_88 (by decide) ?_
  exact gx_rIp h rfl eX7_count_89 hR
set_option maxHeartbeats 4000000 in
set_option maxRecDepth 100000 in
theorem c_X7_drawn (κ : gx_K) {v1 : Int32} {v2 : Int32} {v3 : Int32} {M : gx_Mem} {r9 : Int32} {M9 : gx_Mem} (hf : f_X7_drawn v1 v2 v3 M = some (r9, M9)) : gx_CI κ yX7_drawn cX7_drawn 6 (some .int) 7 [.ref (gx_a κ 56), .int v1, .int v2, .int v3] M r9 M9 := by
  refine gx_enterI (d := 7) my_X7_drawn.1 (by decide) (Nat.le_of_ble_eq_true rfl) (fun Γ Cx hR => ?_)
  change gx_G κ Γ 0 [(0, .ref (gx_a κ 56)), (1, .int v1), (2, .int v2), (3, .int v3)] [] M
  have B70 : ∀ (s1 : Int32) (s2 : Int32) (s3 : Int32) (s4 : Int32) (M : gx_Mem), f_X7_drawn_b70 s1 s2 s3 s4 M = some (r9, M9) → gx_G κ Γ 70 [] [.int s4, .int s3, .int s2, .int s1, .ref (gx_a κ 30)] M := by
    intro s1 s2 s3 s4 M h
    obtain ⟨y6, M7, h5, h⟩ := gx_bI_of h
    refine gx_callVI (ci := 4) Cx my_X4_draw wlX7_231 rfl gx_y30 (by decide) rfl eX7_drawn_70 (c_X4_draw κ h5) rfl (Nat.le_of_ble_eq_true rfl) ?_
    exact gx_rI h rfl eX7_drawn_73 hR
  have h := hf
  refine gx_iload_n Cx eX7_drawn_0 2 rfl ?_
  refine gx_bipush (v := (100 : Int32)) Cx eX7_drawn_1 (by decide) ?_
  refine gx_idivC Cx eX7_drawn_3 (by decide) ?_
  refine gx_nmI h (fun x1 h => ?_)
  refine gx_istore Cx eX7_drawn_4 [(4, .int x1), (0, .ref (gx_a κ 56)), (1, .int v1), (2, .int v2), (3, .int v3)] rfl (by decide) ?_
  refine gx_iload_n Cx eX7_drawn_6 3 rfl ?_
  refine gx_bipush (v := (100 : Int32)) Cx eX7_drawn_7 (by decide) ?_
  refine gx_iremC Cx eX7_drawn_9 (by decide) ?_
  refine gx_nmI h (fun x2 h => ?_)
  refine gx_istore Cx eX7_drawn_10 [(5, .int x2), (4, .int x1), (0, .ref (gx_a κ 56)), (1, .int v1), (2, .int v2), (3, .int v3)] rfl (by decide) ?_
  refine gx_iload_n Cx eX7_drawn_12 4 rfl ?_
  refine gx_if_lt (tgt := 49) Cx eX7_drawn_13 (by decide) h (fun h => ?_) (fun h => ?_)
  · refine gx_iconst (v := (-1 : Int32)) Cx eX7_drawn_49 (by decide) ?_
    exact gx_rI h rfl eX7_drawn_50 hR
  · refine gx_iload Cx eX7_drawn_16 1 rfl ?_
    refine gx_iconst (v := (1 : Int32)) Cx eX7_drawn_18 (by decide) ?_
    refine gx_icmp_lt (tgt := 49) Cx eX7_drawn_19 (by decide) h (fun h => ?_) (fun h => ?_)
    · refine gx_iconst (v := (-1 : Int32)) Cx eX7_drawn_49 (by decide) ?_
      exact gx_rI h rfl eX7_drawn_50 hR
    · refine gx_iload Cx eX7_drawn_22 1 rfl ?_
      refine gx_bipush (v := (30 : Int32)) Cx eX7_drawn_24 (by decide) ?_
      refine gx_icmp_gt (tgt := 49) Cx eX7_drawn_26 (by decide) h (fun h => ?_) (fun h => ?_)
      · refine gx_iconst (v := (-1 : Int32)) Cx eX7_drawn_49 (by decide) ?_
        exact gx_rI h rfl eX7_drawn_50 hR
      · refine gx_iload Cx eX7_drawn_29 0 rfl ?_
        refine gx_iconst (v := (1 : Int32)) Cx eX7_drawn_31 (by decide) ?_
        refine gx_icmp_lt (tgt := 49) Cx eX7_drawn_32 (by decide) h (fun h => ?_) (fun h => ?_)
        · refine gx_iconst (v := (-1 : Int32)) Cx eX7_drawn_49 (by decide) ?_
          exact gx_rI h rfl eX7_drawn_50 hR
        · refine gx_iload Cx eX7_drawn_35 0 rfl ?_
          refine gx_bipush (v := (24 : Int32)) Cx eX7_drawn_37 (by decide) ?_
          refine gx_icmp_gt (tgt := 49) Cx eX7_drawn_39 (by decide) h (fun h => ?_) (fun h => ?_)
          · refine gx_iconst (v := (-1 : Int32)) Cx eX7_drawn_49 (by decide) ?_
            exact gx_rI h rfl eX7_drawn_50 hR
          · refine gx_iload_n Cx eX7_drawn_42 5 rfl ?_
            obtain ⟨y4, h3, h⟩ := gx_bP_of h
            refine gx_callSI Cx my_X7_isChoice wlX7_140 (by decide) rfl eX7_drawn_43 (c_X7_isChoice κ h3) rfl (Nat.le_of_ble_eq_true rfl) ?_
            refine gx_if_ne (tgt := 51) Cx eX7_drawn_46 (by decide) h (fun h => ?_) (fun h => ?_)
            · refine gx_aload_n Cx eX7_drawn_51 2 rfl ?_
              refine gfX7_40 Cx eX7_drawn_52 ?_
              refine gx_iload_n Cx eX7_drawn_55 3 rfl ?_
              refine gx_iload Cx eX7_drawn_56 1 rfl ?_
              refine gx_iload Cx eX7_drawn_58 0 rfl ?_
              refine gx_iload_n Cx eX7_drawn_60 5 rfl ?_
              refine gx_iconst (v := (1 : Int32)) Cx eX7_drawn_61 (by decide) ?_
              refine gx_icmp_ne (tgt := 69) Cx eX7_drawn_62 (by decide) h (fun h => ?_) (fun h => ?_)
              · refine gx_iconst (v := (0 : Int32)) Cx eX7_drawn_69 (by decide) ?_
                refine gx_sub [] rfl ?_
                exact B70 _ _ _ _ _ h
              · refine gx_iconst (v := (1 : Int32)) Cx eX7_drawn_65 (by decide) ?_
                refine gx_goto (tgt := 70) Cx eX7_drawn_66 (by decide) ?_
                refine gx_sub [] rfl ?_
                exact B70 _ _ _ _ _ h
            · refine gx_iconst (v := (-1 : Int32)) Cx eX7_drawn_49 (by decide) ?_
              exact gx_rI h rfl eX7_drawn_50 hR
set_option maxHeartbeats 4000000 in
set_option maxRecDepth 100000 in
theorem c_X7_dry (κ : gx_K) {v1 : Int32} {v2 : Int32} {M : gx_Mem} {r9 : Int32} {M9 : gx_Mem} (hf : f_X7_dry v1 v2 M = some (r9, M9)) : gx_CI κ yX7_dry cX7_dry 4 (some .int) 7 [.ref (gx_a κ 56), .int v1, .int v2] M r9 M9 := by
  refine gx_enterI (d := 7) my_X7_dry.1 (by decide) (Nat.le_of_ble_eq_true rfl) (fun Γ Cx hR => ?_)
  change gx_G κ Γ 0 [(0, .ref (gx_a κ 56)), (1, .int v1), (2, .int v2)] [] M
  have h := hf
  refine gx_aload_n Cx eX7_dry_0 0 rfl ?_
  refine gx_iload_n Cx eX7_dry_1 1 rfl ?_
  obtain ⟨y2, h1, h⟩ := gx_bP_of h
  refine gx_callVI (ci := 7) Cx my_X7_isOne wlX7_164 rfl gx_y56 (by decide) rfl eX7_dry_2 (c_X7_isOne κ h1) rfl (Nat.le_of_ble_eq_true rfl) ?_
  refine gx_if_eq (tgt := 15) Cx eX7_dry_5 (by decide) h (fun h => ?_) (fun h => ?_)
  · refine gx_iconst (v := (-1 : Int32)) Cx eX7_dry_15 (by decide) ?_
    exact gx_rI h rfl eX7_dry_16 hR
  · refine gx_iload_n Cx eX7_dry_8 2 rfl ?_
    obtain ⟨y4, h3, h⟩ := gx_bP_of h
    refine gx_callSI Cx my_X7_isChoice wlX7_140 (by decide) rfl eX7_dry_9 (c_X7_isChoice κ h3) rfl (Nat.le_of_ble_eq_true rfl) ?_
    refine gx_if_ne (tgt := 17) Cx eX7_dry_12 (by decide) h (fun h => ?_) (fun h => ?_)
    · refine gx_aload_n Cx eX7_dry_17 0 rfl ?_
      refine gfX7_40 Cx eX7_dry_18 ?_
      refine gx_iload_n Cx eX7_dry_21 1 rfl ?_
      obtain ⟨y6, M7, h5, h⟩ := gx_bI_of h
      refine gx_callVI (ci := 4) Cx my_X4_driest wlX7_183 rfl gx_y30 (by decide) rfl eX7_dry_22 (c_X4_driest κ h5) rfl (Nat.le_of_ble_eq_true rfl) ?_
      refine gx_istore_n Cx eX7_dry_25 [(3, .int y6), (0, .ref (gx_a κ 56)), (1, .int v1), (2, .int v2)] rfl (by decide) ?_
      refine gx_iload_n Cx eX7_dry_26 0 rfl ?_
      refine gx_if_lt (tgt := 35) Cx eX7_dry_27 (by decide) h (fun h => ?_) (fun h => ?_)
      · refine gx_iload_n Cx eX7_dry_35 0 rfl ?_
        refine gx_goto (tgt := 43) Cx eX7_dry_36 (by decide) ?_
        exact gx_rI h rfl eX7_dry_43 hR
      · refine gx_iload_n Cx eX7_dry_30 3 rfl ?_
        refine gx_iconst (v := (1 : Int32)) Cx eX7_dry_31 (by decide) ?_
        refine gx_icmp_ne (tgt := 39) Cx eX7_dry_32 (by decide) h (fun h => ?_) (fun h => ?_)
        · refine gx_iload_n Cx eX7_dry_39 0 rfl ?_
          obtain ⟨y9, h8, h⟩ := gx_bP_of h
          refine gx_callSI Cx my_J6_bitCount_0f7a4 wlX7_186 (by decide) rfl eX7_dry_40 (c_J6_bitCount_0f7a4 κ h8) rfl (Nat.le_of_ble_eq_true rfl) ?_
          exact gx_rI h rfl eX7_dry_43 hR
        · refine gx_iload_n Cx eX7_dry_35 0 rfl ?_
          refine gx_goto (tgt := 43) Cx eX7_dry_36 (by decide) ?_
          exact gx_rI h rfl eX7_dry_43 hR
    · refine gx_iconst (v := (-1 : Int32)) Cx eX7_dry_15 (by decide) ?_
      exact gx_rI h rfl eX7_dry_16 hR
set_option maxHeartbeats 4000000 in
set_option maxRecDepth 100000 in
theorem c_X7_isShelf (κ : gx_K) {v0 : Int32} {M : gx_Mem} {r9 : Int32} (hf : f_X7_isShelf v0 M = some r9) : gx_CI κ yX7_isShelf cX7_isShelf 1 (some .boolean) 0 [.int v0] M r9 M := by
  refine gx_enterI (d := 0) my_X7_isShelf.1 (by decide) (Nat.le_of_ble_eq_true rfl) (fun Γ Cx hR => ?_)
  change gx_G κ Γ 0 [(0, .int v0)] [] M
  have h := hf
  refine gx_iload_n Cx eX7_isShelf_0 0 rfl ?_
  refine gx_if_lt (tgt := 14) Cx eX7_isShelf_1 (by decide) h (fun h => ?_) (fun h => ?_)
  · refine gx_iconst (v := (0 : Int32)) Cx eX7_isShelf_14 (by decide) ?_
    exact gx_rIp h (by decide) eX7_isShelf_15 hR
  · refine gx_iload_n Cx eX7_isShelf_4 0 rfl ?_
    refine gx_bipush (v := (6 : Int32)) Cx eX7_isShelf_5 (by decide) ?_
    refine gx_icmp_ge (tgt := 14) Cx eX7_isShelf_7 (by decide) h (fun h => ?_) (fun h => ?_)
    · refine gx_iconst (v := (0 : Int32)) Cx eX7_isShelf_14 (by decide) ?_
      exact gx_rIp h (by decide) eX7_isShelf_15 hR
    · refine gx_iconst (v := (1 : Int32)) Cx eX7_isShelf_10 (by decide) ?_
      refine gx_goto (tgt := 15) Cx eX7_isShelf_11 (by decide) ?_
      exact gx_rIp h (by decide) eX7_isShelf_15 hR
set_option maxHeartbeats 4000000 in
set_option maxRecDepth 100000 in
theorem c_X7_placeRefusal (κ : gx_K) {v1 : Int32} {v2 : Int32} {M : gx_Mem} {r9 : Int32} (hf : f_X7_placeRefusal v1 v2 M = some r9) : gx_CI κ yX7_placeRefusal cX7_placeRefusal 4 (some .int) 1 [.ref (gx_a κ 56), .int v1, .int v2] M r9 M := by
  refine gx_enterI (d := 1) my_X7_placeRefusal.1 (by decide) (Nat.le_of_ble_eq_true rfl) (fun Γ Cx hR => ?_)
  change gx_G κ Γ 0 [(0, .ref (gx_a κ 56)), (1, .int v1), (2, .int v2)] [] M
  have h := hf
  refine gx_iload_n Cx eX7_placeRefusal_0 1 rfl ?_
  obtain ⟨y2, h1, h⟩ := gx_bP_of h
  refine gx_callSI Cx my_X7_isShelf wlX7_81 (by decide) rfl eX7_placeRefusal_1 (c_X7_isShelf κ h1) rfl (Nat.le_of_ble_eq_true rfl) ?_
  refine gx_if_ne (tgt := 9) Cx eX7_placeRefusal_4 (by decide) h (fun h => ?_) (fun h => ?_)
  · refine gx_aload_n Cx eX7_placeRefusal_9 0 rfl ?_
    refine gfX7_60 Cx eX7_placeRefusal_10 ?_
    refine gx_iload_n Cx eX7_placeRefusal_13 1 rfl ?_
    refine gx_aaldS Cx eX7_placeRefusal_14 h (fun r3 hr3 h => ?_)
    refine gx_astore_n Cx eX7_placeRefusal_15 [(3, .ref (gx_a κ r3)), (0, .ref (gx_a κ 56)), (1, .int v1), (2, .int v2)] rfl (by decide) ?_
    refine gx_aload_n Cx eX7_placeRefusal_16 0 rfl ?_
    obtain ⟨y5, h4, h⟩ := gx_bP_of h
    refine gx_callVI (ci := 5) Cx my_X5_isEmpty wlX7_324 rfl hr3.1 (by decide) rfl eX7_placeRefusal_17 (c_X5_isEmpty κ hr3 h4) rfl (Nat.le_of_ble_eq_true rfl) ?_
    refine gx_if_eq (tgt := 26) Cx eX7_placeRefusal_20 (by decide) h (fun h => ?_) (fun h => ?_)
    · refine gx_aload_n Cx eX7_placeRefusal_26 0 rfl ?_
      refine gfX7_88 Cx hr3.1 eX7_placeRefusal_27 ?_
      refine gx_if_ge (tgt := 36) Cx eX7_placeRefusal_30 (by decide) h (fun h => ?_) (fun h => ?_)
      · refine gx_iload_n Cx eX7_placeRefusal_36 3 rfl ?_
        refine gx_if_lt (tgt := 52) Cx eX7_placeRefusal_37 (by decide) h (fun h => ?_) (fun h => ?_)
        · refine gx_bipush (v := (-13 : Int32)) Cx eX7_placeRefusal_52 (by decide) ?_
          exact gx_rIp h rfl eX7_placeRefusal_54 hR
        · refine gx_iload_n Cx eX7_placeRefusal_40 3 rfl ?_
          refine gx_aload_n Cx eX7_placeRefusal_41 0 rfl ?_
          refine gfX7_91 Cx hr3.1 eX7_placeRefusal_42 ?_
          refine gx_icmp_ge (tgt := 52) Cx eX7_placeRefusal_45 (by decide) h (fun h => ?_) (fun h => ?_)
          · refine gx_bipush (v := (-13 : Int32)) Cx eX7_placeRefusal_52 (by decide) ?_
            exact gx_rIp h rfl eX7_placeRefusal_54 hR
          · refine gx_iconst (v := (0 : Int32)) Cx eX7_placeRefusal_48 (by decide) ?_
            refine gx_goto (tgt := 54) Cx eX7_placeRefusal_49 (by decide) ?_
            exact gx_rIp h rfl eX7_placeRefusal_54 hR
      · refine gx_bipush (v := (-12 : Int32)) Cx eX7_placeRefusal_33 (by decide) ?_
        exact gx_rIp h rfl eX7_placeRefusal_35 hR
    · refine gx_bipush (v := (-11 : Int32)) Cx eX7_placeRefusal_23 (by decide) ?_
      exact gx_rIp h rfl eX7_placeRefusal_25 hR
  · refine gx_iconst (v := (-1 : Int32)) Cx eX7_placeRefusal_7 (by decide) ?_
    exact gx_rIp h rfl eX7_placeRefusal_8 hR
set_option maxHeartbeats 4000000 in
set_option maxRecDepth 100000 in
theorem c_X7_element (κ : gx_K) {v1 : Int32} {v2 : Int32} {M : gx_Mem} {r9 : Int64} (hf : f_X7_element v1 v2 M = some r9) : gx_CJ κ yX7_element cX7_element 3 (some .long) 2 [.ref (gx_a κ 56), .int v1, .int v2] M r9 M := by
  refine gx_enterJ (d := 2) my_X7_element.1 (by decide) (Nat.le_of_ble_eq_true rfl) (fun Γ Cx hR => ?_)
  change gx_G κ Γ 0 [(0, .ref (gx_a κ 56)), (1, .int v1), (2, .int v2)] [] M
  have h := hf
  refine gx_aload_n Cx eX7_element_0 0 rfl ?_
  refine gx_iload_n Cx eX7_element_1 1 rfl ?_
  refine gx_iload_n Cx eX7_element_2 2 rfl ?_
  obtain ⟨y2, h1, h⟩ := gx_bP_of h
  refine gx_callVI (ci := 7) Cx my_X7_placeRefusal wlX7_317 rfl gx_y56 (by decide) rfl eX7_element_3 (c_X7_placeRefusal κ h1) rfl (Nat.le_of_ble_eq_true rfl) ?_
  refine gx_if_eq (tgt := 15) Cx eX7_element_6 (by decide) h (fun h => ?_) (fun h => ?_)
  · refine gx_aload_n Cx eX7_element_15 0 rfl ?_
    refine gfX7_60 Cx eX7_element_16 ?_
    refine gx_iload_n Cx eX7_element_19 1 rfl ?_
    refine gx_aaldS Cx eX7_element_20 h (fun r3 hr3 h => ?_)
    refine gfX7_94 Cx hr3.1 eX7_element_21 ?_
    refine gx_iload_n Cx eX7_element_24 2 rfl ?_
    refine gx_lald Cx hr3.2 eX7_element_25 h (fun h => ?_)
    exact gx_rJp h eX7_element_26 hR
  · refine gx_ldc2_w Cx eX7_element_9 wkX7_218 ?_
    refine gx_goto (tgt := 26) Cx eX7_element_12 (by decide) ?_
    exact gx_rJp h eX7_element_26 hR
set_option maxHeartbeats 4000000 in
set_option maxRecDepth 100000 in
theorem c_X7_feed (κ : gx_K) {v1 : Int32} {M : gx_Mem} {r9 : Int32} {M9 : gx_Mem} (hf : f_X7_feed v1 M = some (r9, M9)) : gx_CI κ yX7_feed cX7_feed 2 (some .int) 1 [.ref (gx_a κ 56), .int v1] M r9 M9 := by
  refine gx_enterI (d := 1) my_X7_feed.1 (by decide) (Nat.le_of_ble_eq_true rfl) (fun Γ Cx hR => ?_)
  change gx_G κ Γ 0 [(0, .ref (gx_a κ 56)), (1, .int v1)] [] M
  have h := hf
  refine gx_iload_n Cx eX7_feed_0 1 rfl ?_
  refine gx_if_lt (tgt := 11) Cx eX7_feed_1 (by decide) h (fun h => ?_) (fun h => ?_)
  · refine gx_iconst (v := (-1 : Int32)) Cx eX7_feed_11 (by decide) ?_
    exact gx_rI h rfl eX7_feed_12 hR
  · refine gx_iload_n Cx eX7_feed_4 1 rfl ?_
    refine gx_sipush (v := (255 : Int32)) Cx eX7_feed_5 (by decide) ?_
    refine gx_icmp_le (tgt := 13) Cx eX7_feed_8 (by decide) h (fun h => ?_) (fun h => ?_)
    · refine gx_aload_n Cx eX7_feed_13 0 rfl ?_
      refine gfX7_19 Cx eX7_feed_14 ?_
      refine gx_iload_n Cx eX7_feed_17 1 rfl ?_
      obtain ⟨y2, M3, h1, h⟩ := gx_bI_of h
      refine gx_callVI (ci := 6) Cx my_X6_take wlX7_116 rfl gx_y5 (by decide) rfl eX7_feed_18 (c_X6_take κ h1) rfl (Nat.le_of_ble_eq_true rfl) ?_
      refine gx_if_eq (tgt := 34) Cx eX7_feed_21 (by decide) h (fun h => ?_) (fun h => ?_)
      · refine gx_bipush (v := (-3 : Int32)) Cx eX7_feed_34 (by decide) ?_
        exact gx_rI h rfl eX7_feed_36 hR
      · refine gx_aload_n Cx eX7_feed_24 0 rfl ?_
        refine gfX7_19 Cx eX7_feed_25 ?_
        refine gfX7_119 Cx eX7_feed_28 ?_
        refine gx_goto (tgt := 36) Cx eX7_feed_31 (by decide) ?_
        exact gx_rI h rfl eX7_feed_36 hR
    · refine gx_iconst (v := (-1 : Int32)) Cx eX7_feed_11 (by decide) ?_
      exact gx_rI h rfl eX7_feed_12 hR
set_option maxHeartbeats 4000000 in
set_option maxRecDepth 100000 in
theorem c_X7_first (κ : gx_K) {v1 : Int32} {M : gx_Mem} {r9 : Int32} {M9 : gx_Mem} (hf : f_X7_first v1 M = some (r9, M9)) : gx_CI κ yX7_first cX7_first 2 (some .int) 6 [.ref (gx_a κ 56), .int v1] M r9 M9 := by
  refine gx_enterI (d := 6) my_X7_first.1 (by decide) (Nat.le_of_ble_eq_true rfl) (fun Γ Cx hR => ?_)
  change gx_G κ Γ 0 [(0, .ref (gx_a κ 56)), (1, .int v1)] [] M
  have h := hf
  refine gx_aload_n Cx eX7_first_0 0 rfl ?_
  refine gx_iload_n Cx eX7_first_1 1 rfl ?_
  obtain ⟨y2, h1, h⟩ := gx_bP_of h
  refine gx_callVI (ci := 7) Cx my_X7_isOne wlX7_164 rfl gx_y56 (by decide) rfl eX7_first_2 (c_X7_isOne κ h1) rfl (Nat.le_of_ble_eq_true rfl) ?_
  refine gx_if_eq (tgt := 19) Cx eX7_first_5 (by decide) h (fun h => ?_) (fun h => ?_)
  · refine gx_iconst (v := (-1 : Int32)) Cx eX7_first_19 (by decide) ?_
    exact gx_rI h rfl eX7_first_20 hR
  · refine gx_aload_n Cx eX7_first_8 0 rfl ?_
    refine gfX7_40 Cx eX7_first_9 ?_
    refine gx_iload_n Cx eX7_first_12 1 rfl ?_
    obtain ⟨y4, M5, h3, h⟩ := gx_bI_of h
    refine gx_callVI (ci := 4) Cx my_X4_firstWetter wlX7_176 rfl gx_y30 (by decide) rfl eX7_first_13 (c_X4_firstWetter κ h3) rfl (Nat.le_of_ble_eq_true rfl) ?_
    refine gx_goto (tgt := 20) Cx eX7_first_16 (by decide) ?_
    exact gx_rI h rfl eX7_first_20 hR
set_option maxHeartbeats 4000000 in
set_option maxRecDepth 100000 in
theorem c_X7_fraction (κ : gx_K) {v0 : Int32} {v1 : Int32} {v2 : Int32} {M : gx_Mem} {r9 : Int64} (hf : f_X7_fraction v0 v1 v2 M = some r9) : gx_CJ κ yX7_fraction cX7_fraction 6 (some .long) 0 [.int v0, .int v1, .int v2] M r9 M := by
  refine gx_enterJ (d := 0) my_X7_fraction.1 (by decide) (Nat.le_of_ble_eq_true rfl) (fun Γ Cx hR => ?_)
  change gx_G κ Γ 0 [(0, .int v0), (1, .int v1), (2, .int v2)] [] M
  have B43 : ∀ (v3 : Int32) (v4 : Int32), f_X7_fraction_b43 v2 v3 v4 M = some r9 → gx_G κ Γ 43 [(2, .int v2), (3, .int v3), (4, .int v4)] [] M := by
    intro v3 v4 h
    refine gx_iload_n Cx eX7_fraction_43 0 rfl ?_
    refine gx_if_ne (tgt := 52) Cx eX7_fraction_44 (by decide) h (fun h => ?_) (fun h => ?_)
    · refine gx_iload Cx eX7_fraction_52 2 rfl ?_
      refine gx_i2l Cx eX7_fraction_54 ?_
      exact gx_rJp h eX7_fraction_55 hR
    · refine gx_iload_n Cx eX7_fraction_47 1 rfl ?_
      refine gx_i2l Cx eX7_fraction_48 ?_
      refine gx_goto (tgt := 55) Cx eX7_fraction_49 (by decide) ?_
      exact gx_rJp h eX7_fraction_55 hR
  have K8 : ∀  (ag8 : Int32 → Int32 → Int32 → Option Int64) (hag8 : ∀ (v3 : Int32) (v4 : Int32) (v5 : Int32), ag8 v3 v4 v5 = some r9 → gx_G κ Γ 8 [(2, .int v2), (3, .int v3), (4, .int v4), (5, .int v5)] [] M) (v3 : Int32) (v4 : Int32) (v5 : Int32), f_X7_fraction_k8 v2 ag8 v3 v4 v5 M = some r9 → gx_G κ Γ 8 [(2, .int v2), (3, .int v3), (4, .int v4), (5, .int v5)] [] M := by
    intro ag8 hag8
    intro v3 v4 v5 h
    refine gx_iload Cx eX7_fraction_8 3 rfl ?_
    refine gx_bipush (v := (6 : Int32)) Cx eX7_fraction_10 (by decide) ?_
    refine gx_icmp_ge (tgt := 43) Cx eX7_fraction_12 (by decide) h (fun h => ?_) (fun h => ?_)
    · refine gx_sub [0, 1, 2] rfl ?_
      exact B43 _ _ h
    · refine gx_iload Cx eX7_fraction_15 2 rfl ?_
      refine gx_iconst (v := (1 : Int32)) Cx eX7_fraction_17 (by decide) ?_
      refine gx_icmp_le (tgt := 43) Cx eX7_fraction_18 (by decide) h (fun h => ?_) (fun h => ?_)
      · refine gx_sub [0, 1, 2] rfl ?_
        exact B43 _ _ h
      · refine gx_iload_n Cx eX7_fraction_21 1 rfl ?_
        refine gx_iconst (v := (2 : Int32)) Cx eX7_fraction_22 (by decide) ?_
        refine gx_iremC Cx eX7_fraction_23 (by decide) ?_
        refine gx_if_ne (tgt := 43) Cx eX7_fraction_24 (by decide) h (fun h => ?_) (fun h => ?_)
        · refine gx_sub [0, 1, 2] rfl ?_
          exact B43 _ _ h
        · refine gx_iload_n Cx eX7_fraction_27 1 rfl ?_
          refine gx_iconst (v := (2 : Int32)) Cx eX7_fraction_28 (by decide) ?_
          refine gx_idivC Cx eX7_fraction_29 (by decide) ?_
          refine gx_nmI h (fun x1 h => ?_)
          refine gx_istore_n Cx eX7_fraction_30 [(3, .int x1), (2, .int v2), (4, .int v4), (5, .int v5)] rfl (by decide) ?_
          refine gx_iload Cx eX7_fraction_31 2 rfl ?_
          refine gx_iconst (v := (2 : Int32)) Cx eX7_fraction_33 (by decide) ?_
          refine gx_idivC Cx eX7_fraction_34 (by decide) ?_
          refine gx_nmI h (fun x2 h => ?_)
          refine gx_istore Cx eX7_fraction_35 [(4, .int x2), (3, .int x1), (2, .int v2), (5, .int v5)] rfl (by decide) ?_
          refine gx_iinc (v := (1 : Int32)) (i := 5) (j := 3) Cx eX7_fraction_37 (by decide) h 3 rfl (fun w => [(5, .int w), (4, .int x2), (3, .int x1), (2, .int v2)]) (fun _ => rfl) (by decide) (fun x3 h => ?_)
          refine gx_goto (tgt := 8) Cx eX7_fraction_40 (by decide) ?_
          refine gx_sub [3, 2, 1, 0] rfl ?_
          exact hag8 _ _ _ h
  have L8 : ∀  (n : Nat) (v3 : Int32) (v4 : Int32) (v5 : Int32), f_X7_fraction_l8 v2 n v3 v4 v5 M = some r9 → gx_G κ Γ 8 [(2, .int v2), (3, .int v3), (4, .int v4), (5, .int v5)] [] M := by
    intro n
    induction n with
    | zero => intro v3 v4 v5 h; exact gx_loop_0 h
    | succ n ih => intro v3 v4 v5 h; exact K8 (fun v3 v4 v5 => f_X7_fraction_l8 v2 n v3 v4 v5 M) ih v3 v4 v5 h
  have h := hf
  refine gx_iload_n Cx eX7_fraction_0 0 rfl ?_
  refine gx_istore_n Cx eX7_fraction_1 [(3, .int v0), (0, .int v0), (1, .int v1), (2, .int v2)] rfl (by decide) ?_
  refine gx_iload_n Cx eX7_fraction_2 2 rfl ?_
  refine gx_istore Cx eX7_fraction_3 [(4, .int v1), (3, .int v0), (0, .int v0), (1, .int v1), (2, .int v2)] rfl (by decide) ?_
  refine gx_iconst (v := (0 : Int32)) Cx eX7_fraction_5 (by decide) ?_
  refine gx_istore Cx eX7_fraction_6 [(5, .int (0 : Int32)), (4, .int v1), (3, .int v0), (0, .int v0), (1, .int v1), (2, .int v2)] rfl (by decide) ?_
  refine gx_sub [5, 2, 1, 0] rfl ?_
  exact L8 _ _ _ _ h
set_option maxHeartbeats 4000000 in
set_option maxRecDepth 100000 in
theorem c_X7_from (κ : gx_K) {v1 : Int32} {v2 : Int32} {M : gx_Mem} {r9 : Int32} {M9 : gx_Mem} (hf : f_X7_from v1 v2 M = some (r9, M9)) : gx_CI κ yX7_from cX7_from 3 (some .int) 7 [.ref (gx_a κ 56), .int v1, .int v2] M r9 M9 := by
  refine gx_enterI (d := 7) my_X7_from.1 (by decide) (Nat.le_of_ble_eq_true rfl) (fun Γ Cx hR => ?_)
  change gx_G κ Γ 0 [(0, .ref (gx_a κ 56)), (1, .int v1), (2, .int v2)] [] M
  have B30 : ∀ (s1 : Int32) (s2 : Int32) (M : gx_Mem), f_X7_from_b30 s1 s2 M = some (r9, M9) → gx_G κ Γ 30 [] [.int s2, .int s1, .ref (gx_a κ 30)] M := by
    intro s1 s2 M h
    obtain ⟨y6, M7, h5, h⟩ := gx_bI_of h
    refine gx_callVI (ci := 4) Cx my_X4_pairs wlX7_179 rfl gx_y30 (by decide) rfl eX7_from_30 (c_X4_pairs κ h5) rfl (Nat.le_of_ble_eq_true rfl) ?_
    refine gx_goto (tgt := 37) Cx eX7_from_33 (by decide) ?_
    exact gx_rI h rfl eX7_from_37 hR
  have h := hf
  refine gx_aload_n Cx eX7_from_0 0 rfl ?_
  refine gx_iload_n Cx eX7_from_1 1 rfl ?_
  obtain ⟨y2, h1, h⟩ := gx_bP_of h
  refine gx_callVI (ci := 7) Cx my_X7_isOne wlX7_164 rfl gx_y56 (by decide) rfl eX7_from_2 (c_X7_isOne κ h1) rfl (Nat.le_of_ble_eq_true rfl) ?_
  refine gx_if_eq (tgt := 36) Cx eX7_from_5 (by decide) h (fun h => ?_) (fun h => ?_)
  · refine gx_iconst (v := (-1 : Int32)) Cx eX7_from_36 (by decide) ?_
    exact gx_rI h rfl eX7_from_37 hR
  · refine gx_iload_n Cx eX7_from_8 2 rfl ?_
    obtain ⟨y4, h3, h⟩ := gx_bP_of h
    refine gx_callSI Cx my_X7_isChoice wlX7_140 (by decide) rfl eX7_from_9 (c_X7_isChoice κ h3) rfl (Nat.le_of_ble_eq_true rfl) ?_
    refine gx_if_eq (tgt := 36) Cx eX7_from_12 (by decide) h (fun h => ?_) (fun h => ?_)
    · refine gx_iconst (v := (-1 : Int32)) Cx eX7_from_36 (by decide) ?_
      exact gx_rI h rfl eX7_from_37 hR
    · refine gx_aload_n Cx eX7_from_15 0 rfl ?_
      refine gfX7_40 Cx eX7_from_16 ?_
      refine gx_iload_n Cx eX7_from_19 1 rfl ?_
      refine gx_iload_n Cx eX7_from_20 2 rfl ?_
      refine gx_iconst (v := (1 : Int32)) Cx eX7_from_21 (by decide) ?_
      refine gx_icmp_ne (tgt := 29) Cx eX7_from_22 (by decide) h (fun h => ?_) (fun h => ?_)
      · refine gx_iconst (v := (0 : Int32)) Cx eX7_from_29 (by decide) ?_
        refine gx_sub [] rfl ?_
        exact B30 _ _ _ h
      · refine gx_iconst (v := (1 : Int32)) Cx eX7_from_25 (by decide) ?_
        refine gx_goto (tgt := 30) Cx eX7_from_26 (by decide) ?_
        refine gx_sub [] rfl ?_
        exact B30 _ _ _ h
set_option maxHeartbeats 4000000 in
set_option maxRecDepth 100000 in
theorem c_X7_hour (κ : gx_K)  {M : gx_Mem} {r9 : Int32} {M9 : gx_Mem} (hf : f_X7_hour M = some (r9, M9)) : gx_CI κ yX7_hour cX7_hour 1 (some .int) 6 [.ref (gx_a κ 56)] M r9 M9 := by
  refine gx_enterI (d := 6) my_X7_hour.1 (by decide) (Nat.le_of_ble_eq_true rfl) (fun Γ Cx hR => ?_)
  change gx_G κ Γ 0 [(0, .ref (gx_a κ 56))] [] M
  have h := hf
  refine gx_aload_n Cx eX7_hour_0 0 rfl ?_
  refine gfX7_28 Cx eX7_hour_1 ?_
  obtain ⟨M2, h1, h⟩ := gx_bP_of h
  refine gx_callVV (ci := 2) Cx my_X2_passHour wlX7_234 rfl gx_y9 (by decide) rfl eX7_hour_4 (c_X2_passHour κ gx_Ho9 h1) rfl (Nat.le_of_ble_eq_true rfl) ?_
  refine gx_aload_n Cx eX7_hour_7 0 rfl ?_
  refine gfX7_28 Cx eX7_hour_8 ?_
  refine gfX7_237 Cx gx_y9 eX7_hour_11 ?_
  exact gx_rI h rfl eX7_hour_14 hR
set_option maxHeartbeats 4000000 in
set_option maxRecDepth 100000 in
theorem c_X7_image (κ : gx_K)  {M : gx_Mem} {r9 : Int32} {M9 : gx_Mem} (hf : f_X7_image M = some (r9, M9)) : gx_CI κ yX7_image cX7_image 1 (some .int) 2 [.ref (gx_a κ 56)] M r9 M9 := by
  refine gx_enterI (d := 2) my_X7_image.1 (by decide) (Nat.le_of_ble_eq_true rfl) (fun Γ Cx hR => ?_)
  change gx_G κ Γ 0 [(0, .ref (gx_a κ 56))] [] M
  have h := hf
  refine gx_aload_n Cx eX7_image_0 0 rfl ?_
  refine gfX7_32 Cx eX7_image_1 ?_
  refine gx_aload_n Cx eX7_image_4 0 rfl ?_
  refine gfX7_28 Cx eX7_image_5 ?_
  obtain ⟨M2, h1, h⟩ := gx_bP_of h
  refine gx_callVV (ci := 2) Cx my_X2_liken wlX7_257 rfl gx_y16 (by decide) rfl eX7_image_8 (c_X2_liken κ gx_Ho16 gx_Ho9 h1) rfl (Nat.le_of_ble_eq_true rfl) ?_
  refine gx_aload_n Cx eX7_image_11 0 rfl ?_
  refine gx_iconst (v := (1 : Int32)) Cx eX7_image_12 (by decide) ?_
  refine pfX7_65 Cx eX7_image_13 rfl rfl h (fun M3 h => ?_)
  refine gx_aload_n Cx eX7_image_16 0 rfl ?_
  refine gfX7_28 Cx eX7_image_17 ?_
  refine gfX7_243 Cx gx_y9 eX7_image_20 ?_
  refine gx_iconst (v := (0 : Int32)) Cx eX7_image_23 (by decide) ?_
  refine gx_ialdC (α := Unit) (b := none) Cx gx_y15 eX7_image_24 (by decide) ?_
  exact gx_rI h rfl eX7_image_25 hR
set_option maxHeartbeats 4000000 in
set_option maxRecDepth 100000 in
theorem c_X7_isNumber (κ : gx_K) {v1 : Int32} {v2 : Int32} {M : gx_Mem} {r9 : Int32} (hf : f_X7_isNumber v1 v2 M = some r9) : gx_CI κ yX7_isNumber cX7_isNumber 3 (some .boolean) 2 [.ref (gx_a κ 56), .int v1, .int v2] M r9 M := by
  refine gx_enterI (d := 2) my_X7_isNumber.1 (by decide) (Nat.le_of_ble_eq_true rfl) (fun Γ Cx hR => ?_)
  change gx_G κ Γ 0 [(0, .ref (gx_a κ 56)), (1, .int v1), (2, .int v2)] [] M
  have B44 : f_X7_isNumber_b44 v1 M = some r9 → gx_G κ Γ 44 [(0, .ref (gx_a κ 56)), (1, .int v1)] [] M := by
    intro h
    refine gx_aload_n Cx eX7_isNumber_44 0 rfl ?_
    refine gx_iload_n Cx eX7_isNumber_45 1 rfl ?_
    obtain ⟨y6, h5, h⟩ := gx_bP_of h
    refine gx_callVI (ci := 7) Cx my_X7_isOne wlX7_164 rfl gx_y56 (by decide) rfl eX7_isNumber_46 (c_X7_isOne κ h5) rfl (Nat.le_of_ble_eq_true rfl) ?_
    exact gx_rZp h eX7_isNumber_49 hR
  have B50 : f_X7_isNumber_b50 v1 M = some r9 → gx_G κ Γ 50 [(0, .ref (gx_a κ 56)), (1, .int v1)] [] M := by
    intro h
    refine gx_aload_n Cx eX7_isNumber_50 0 rfl ?_
    refine gx_iload_n Cx eX7_isNumber_51 1 rfl ?_
    obtain ⟨y4, h3, h⟩ := gx_bP_of h
    refine gx_callVI (ci := 7) Cx my_X7_isPm wlX7_157 rfl gx_y56 (by decide) rfl eX7_isNumber_52 (c_X7_isPm κ h3) rfl (Nat.le_of_ble_eq_true rfl) ?_
    exact gx_rZp h eX7_isNumber_55 hR
  have B61 : f_X7_isNumber_b61 v1 M = some r9 → gx_G κ Γ 61 [(1, .int v1)] [] M := by
    intro h
    refine gx_iload_n Cx eX7_isNumber_61 0 rfl ?_
    refine gx_if_ne (tgt := 69) Cx eX7_isNumber_62 (by decide) h (fun h => ?_) (fun h => ?_)
    · refine gx_iconst (v := (0 : Int32)) Cx eX7_isNumber_69 (by decide) ?_
      exact gx_rIp h (by decide) eX7_isNumber_70 hR
    · refine gx_iconst (v := (1 : Int32)) Cx eX7_isNumber_65 (by decide) ?_
      refine gx_goto (tgt := 70) Cx eX7_isNumber_66 (by decide) ?_
      exact gx_rIp h (by decide) eX7_isNumber_70 hR
  have h := hf
  refine gx_iload_n Cx eX7_isNumber_0 2 rfl ?_
  refine gx_case (0 : Int32) h (fun h => ?_) (fun n0 h => ?_)
  · refine gx_tsIn (tgt := 44) Cx eX7_isNumber_1 (by decide) (by decide) rfl (by decide) ?_
    refine gx_sub [0, 1] rfl ?_
    exact B44 h
  refine gx_case (1 : Int32) h (fun h => ?_) (fun n1 h => ?_)
  · refine gx_tsIn (tgt := 44) Cx eX7_isNumber_1 (by decide) (by decide) rfl (by decide) ?_
    refine gx_sub [0, 1] rfl ?_
    exact B44 h
  refine gx_case (2 : Int32) h (fun h => ?_) (fun n2 h => ?_)
  · refine gx_tsIn (tgt := 50) Cx eX7_isNumber_1 (by decide) (by decide) rfl (by decide) ?_
    refine gx_sub [0, 1] rfl ?_
    exact B50 h
  refine gx_case (3 : Int32) h (fun h => ?_) (fun n3 h => ?_)
  · refine gx_tsIn (tgt := 50) Cx eX7_isNumber_1 (by decide) (by decide) rfl (by decide) ?_
    refine gx_sub [0, 1] rfl ?_
    exact B50 h
  refine gx_case (4 : Int32) h (fun h => ?_) (fun n4 h => ?_)
  · refine gx_tsIn (tgt := 56) Cx eX7_isNumber_1 (by decide) (by decide) rfl (by decide) ?_
    refine gx_iload_n Cx eX7_isNumber_56 1 rfl ?_
    obtain ⟨y2, h1, h⟩ := gx_bP_of h
    refine gx_callSI Cx my_X7_isFlat wlX7_134 (by decide) rfl eX7_isNumber_57 (c_X7_isFlat κ h1) rfl (Nat.le_of_ble_eq_true rfl) ?_
    exact gx_rZp h eX7_isNumber_60 hR
  refine gx_case (5 : Int32) h (fun h => ?_) (fun n5 h => ?_)
  · refine gx_tsIn (tgt := 61) Cx eX7_isNumber_1 (by decide) (by decide) rfl (by decide) ?_
    refine gx_sub [1] rfl ?_
    exact B61 h
  refine gx_case (6 : Int32) h (fun h => ?_) (fun n6 h => ?_)
  · refine gx_tsIn (tgt := 61) Cx eX7_isNumber_1 (by decide) (by decide) rfl (by decide) ?_
    refine gx_sub [1] rfl ?_
    exact B61 h
  refine gx_tsOut (tgt := 71) Cx eX7_isNumber_1 (by have zn0 := gx_neT (k := 0) n0 (by decide); have zn1 := gx_neT (k := 1) n1 (by decide); have zn2 := gx_neT (k := 2) n2 (by decide); have zn3 := gx_neT (k := 3) n3 (by decide); have zn4 := gx_neT (k := 4) n4 (by decide); have zn5 := gx_neT (k := 5) n5 (by decide); have zn6 := gx_neT (k := 6) n6 (by decide); omega) (by decide) ?_
  refine gx_iconst (v := (0 : Int32)) Cx eX7_isNumber_71 (by decide) ?_
  exact gx_rIp h (by decide) eX7_isNumber_72 hR
set_option maxHeartbeats 4000000 in
set_option maxRecDepth 100000 in
theorem c_X7_keep (κ : gx_K) {v1 : Int32} {v2 : Int32} {M : gx_Mem} {r9 : Int32} {M9 : gx_Mem} (hf : f_X7_keep v1 v2 M = some (r9, M9)) : gx_CI κ yX7_keep cX7_keep 3 (some .int) 1 [.ref (gx_a κ 56), .int v1, .int v2] M r9 M9 := by
  refine gx_enterI (d := 1) my_X7_keep.1 (by decide) (Nat.le_of_ble_eq_true rfl) (fun Γ Cx hR => ?_)
  change gx_G κ Γ 0 [(0, .ref (gx_a κ 56)), (1, .int v1), (2, .int v2)] [] M
  have B22 : ∀  (M : gx_Mem), f_X7_keep_b22 v1 v2 M = some (r9, M9) → gx_G κ Γ 22 [(0, .ref (gx_a κ 56)), (1, .int v1), (2, .int v2)] [] M := by
    intro M h
    refine gx_aload_n Cx eX7_keep_22 0 rfl ?_
    refine gfX7_60 Cx eX7_keep_23 ?_
    refine gx_iload_n Cx eX7_keep_26 1 rfl ?_
    refine gx_aaldS Cx eX7_keep_27 h (fun r5 hr5 h => ?_)
    refine gx_iload_n Cx eX7_keep_28 2 rfl ?_
    obtain ⟨M7, h6, h⟩ := gx_bP_of h
    refine gx_callVV (ci := 5) Cx my_X5_holdBody wlX7_309 rfl hr5.1 (by decide) rfl eX7_keep_29 (c_X5_holdBody κ hr5 h6) rfl (Nat.le_of_ble_eq_true rfl) ?_
    refine gx_iconst (v := (1 : Int32)) Cx eX7_keep_32 (by decide) ?_
    exact gx_rI h rfl eX7_keep_33 hR
  have h := hf
  refine gx_iload_n Cx eX7_keep_0 1 rfl ?_
  obtain ⟨y2, h1, h⟩ := gx_bP_of h
  refine gx_callSI Cx my_X7_isShelf wlX7_81 (by decide) rfl eX7_keep_1 (c_X7_isShelf κ h1) rfl (Nat.le_of_ble_eq_true rfl) ?_
  refine gx_if_eq (tgt := 20) Cx eX7_keep_4 (by decide) h (fun h => ?_) (fun h => ?_)
  · refine gx_iconst (v := (-1 : Int32)) Cx eX7_keep_20 (by decide) ?_
    exact gx_rI h rfl eX7_keep_21 hR
  · refine gx_iload_n Cx eX7_keep_7 2 rfl ?_
    refine gx_iconst (v := (-1 : Int32)) Cx eX7_keep_8 (by decide) ?_
    refine gx_icmp_eq (tgt := 22) Cx eX7_keep_9 (by decide) h (fun h => ?_) (fun h => ?_)
    · exact B22 _ h
    · refine gx_aload_n Cx eX7_keep_12 0 rfl ?_
      refine gx_iload_n Cx eX7_keep_13 2 rfl ?_
      obtain ⟨y4, h3, h⟩ := gx_bP_of h
      refine gx_callVI (ci := 7) Cx my_X7_isBody wlX7_297 rfl gx_y56 (by decide) rfl eX7_keep_14 (c_X7_isBody κ h3) rfl (Nat.le_of_ble_eq_true rfl) ?_
      refine gx_if_ne (tgt := 22) Cx eX7_keep_17 (by decide) h (fun h => ?_) (fun h => ?_)
      · exact B22 _ h
      · refine gx_iconst (v := (-1 : Int32)) Cx eX7_keep_20 (by decide) ?_
        exact gx_rI h rfl eX7_keep_21 hR
set_option maxHeartbeats 4000000 in
set_option maxRecDepth 100000 in
theorem c_X7_law (κ : gx_K)  {M : gx_Mem} {r9 : Int32} {M9 : gx_Mem} (hf : f_X7_law M = some (r9, M9)) : gx_CI κ yX7_law cX7_law 3 (some .int) 105 [.ref (gx_a κ 56)] M r9 M9 := by
  refine gx_enterI (d := 105) my_X7_law.1 (by decide) (Nat.le_of_ble_eq_true rfl) (fun Γ Cx hR => ?_)
  change gx_G κ Γ 0 [(0, .ref (gx_a κ 56))] [] M
  have B41 : ∀ (s0 : Int32) (M : gx_Mem), f_X7_law_b41 s0 M = some (r9, M9) → gx_G κ Γ 41 [(0, .ref (gx_a κ 56))] [.int s0] M := by
    intro s0 M h
    refine gx_istore_n Cx eX7_law_41 [(2, .int s0), (0, .ref (gx_a κ 56))] rfl (by decide) ?_
    refine gx_aload_n Cx eX7_law_42 1 rfl ?_
    refine gfX7_19 Cx eX7_law_43 ?_
    refine gx_iconst (v := (0 : Int32)) Cx eX7_law_46 (by decide) ?_
    refine pfX7_119 Cx eX7_law_47 h (fun M6 h => ?_)
    refine gx_iload_n Cx eX7_law_50 0 rfl ?_
    exact gx_rI h rfl eX7_law_51 hR
  have B23 : ∀ (v1 : Int32) (M : gx_Mem), f_X7_law_b23 v1 M = some (r9, M9) → gx_G κ Γ 23 [(0, .ref (gx_a κ 56)), (1, .int v1)] [] M := by
    intro v1 M h
    refine gx_iload_n Cx eX7_law_23 1 rfl ?_
    refine gx_if_eq (tgt := 31) Cx eX7_law_24 (by decide) h (fun h => ?_) (fun h => ?_)
    · refine gx_bipush (v := (-100 : Int32)) Cx eX7_law_31 (by decide) ?_
      refine gx_aload_n Cx eX7_law_33 0 rfl ?_
      refine gfX7_19 Cx eX7_law_34 ?_
      refine gfX7_128 Cx eX7_law_37 ?_
      refine gx_isub Cx eX7_law_40 ?_
      refine gx_sub [0] rfl ?_
      exact B41 _ _ h
    · refine gx_iconst (v := (1 : Int32)) Cx eX7_law_27 (by decide) ?_
      refine gx_goto (tgt := 41) Cx eX7_law_28 (by decide) ?_
      refine gx_sub [0] rfl ?_
      exact B41 _ _ h
  have h := hf
  refine gx_aload_n Cx eX7_law_0 0 rfl ?_
  refine gfX7_19 Cx eX7_law_1 ?_
  obtain ⟨y2, M3, h1, h⟩ := gx_bI_of h
  refine gx_callVI (ci := 6) Cx my_X6_read wlX7_120 rfl gx_y5 (by decide) rfl eX7_law_4 (c_X6_read κ h1) rfl (Nat.le_of_ble_eq_true rfl) ?_
  refine gx_istore_n Cx eX7_law_7 [(1, .int y2), (0, .ref (gx_a κ 56))] rfl (by decide) ?_
  refine gx_iload_n Cx eX7_law_8 0 rfl ?_
  refine gx_if_eq (tgt := 23) Cx eX7_law_9 (by decide) h (fun h => ?_) (fun h => ?_)
  · refine gx_sub [1, 0] rfl ?_
    exact B23 _ _ h
  · refine gx_aload_n Cx eX7_law_12 1 rfl ?_
    refine gfX7_10 Cx eX7_law_13 ?_
    refine gx_aload_n Cx eX7_law_16 1 rfl ?_
    refine gfX7_19 Cx eX7_law_17 ?_
    obtain ⟨M5, h4, h⟩ := gx_bP_of h
    refine gx_callVV (ci := 3) Cx my_X3_adopt wlX7_124 rfl gx_y0 (by decide) rfl eX7_law_20 (c_X3_adopt κ h4) rfl (Nat.le_of_ble_eq_true rfl) ?_
    refine gx_sub [1, 0] rfl ?_
    exact B23 _ _ h
set_option maxHeartbeats 4000000 in
set_option maxRecDepth 100000 in
theorem c_X7_led (κ : gx_K) {v1 : Int32} {M : gx_Mem} {r9 : Int32} (hf : f_X7_led v1 M = some r9) : gx_CI κ yX7_led cX7_led 2 (some .int) 0 [.ref (gx_a κ 56), .int v1] M r9 M := by
  refine gx_enterI (d := 0) my_X7_led.1 (by decide) (Nat.le_of_ble_eq_true rfl) (fun Γ Cx hR => ?_)
  change gx_G κ Γ 0 [(0, .ref (gx_a κ 56)), (1, .int v1)] [] M
  have h := hf
  refine gx_iload_n Cx eX7_led_0 1 rfl ?_
  refine gx_if_lt (tgt := 21) Cx eX7_led_1 (by decide) h (fun h => ?_) (fun h => ?_)
  · refine gx_iconst (v := (-1 : Int32)) Cx eX7_led_21 (by decide) ?_
    exact gx_rIp h rfl eX7_led_22 hR
  · refine gx_iload_n Cx eX7_led_4 1 rfl ?_
    refine gx_iconst (v := (5 : Int32)) Cx eX7_led_5 (by decide) ?_
    refine gx_icmp_ge (tgt := 21) Cx eX7_led_6 (by decide) h (fun h => ?_) (fun h => ?_)
    · refine gx_iconst (v := (-1 : Int32)) Cx eX7_led_21 (by decide) ?_
      exact gx_rIp h rfl eX7_led_22 hR
    · refine gx_aload_n Cx eX7_led_9 0 rfl ?_
      refine gfX7_28 Cx eX7_led_10 ?_
      refine gfX7_243 Cx gx_y9 eX7_led_13 ?_
      refine gx_iload_n Cx eX7_led_16 1 rfl ?_
      refine gx_iald Cx gx_y15 eX7_led_17 h (fun h => ?_)
      refine gx_goto (tgt := 22) Cx eX7_led_18 (by decide) ?_
      exact gx_rIp h rfl eX7_led_22 hR
set_option maxHeartbeats 4000000 in
set_option maxRecDepth 100000 in
theorem c_X7_mayCome (κ : gx_K) {v0 : Int32} {v1 : Int32} {M : gx_Mem} {r9 : Int32} (hf : f_X7_mayCome v0 v1 M = some r9) : gx_CI κ yX7_mayCome cX7_mayCome 2 (some .boolean) 1 [.int v0, .int v1] M r9 M := by
  refine gx_enterI (d := 1) my_X7_mayCome.1 (by decide) (Nat.le_of_ble_eq_true rfl) (fun Γ Cx hR => ?_)
  change gx_G κ Γ 0 [(0, .int v0), (1, .int v1)] [] M
  have h := hf
  refine gx_iload_n Cx eX7_mayCome_0 0 rfl ?_
  obtain ⟨y2, h1, h⟩ := gx_bP_of h
  refine gx_callSI Cx my_X7_isFlat wlX7_134 (by decide) rfl eX7_mayCome_1 (c_X7_isFlat κ h1) rfl (Nat.le_of_ble_eq_true rfl) ?_
  refine gx_if_eq (tgt := 24) Cx eX7_mayCome_4 (by decide) h (fun h => ?_) (fun h => ?_)
  · refine gx_iconst (v := (0 : Int32)) Cx eX7_mayCome_24 (by decide) ?_
    exact gx_rIp h (by decide) eX7_mayCome_25 hR
  · refine gx_iload_n Cx eX7_mayCome_7 1 rfl ?_
    refine gx_if_lt (tgt := 24) Cx eX7_mayCome_8 (by decide) h (fun h => ?_) (fun h => ?_)
    · refine gx_iconst (v := (0 : Int32)) Cx eX7_mayCome_24 (by decide) ?_
      exact gx_rIp h (by decide) eX7_mayCome_25 hR
    · refine gx_iload_n Cx eX7_mayCome_11 1 rfl ?_
      refine gsX7_101 Cx eX7_mayCome_12 ?_
      refine gx_iconst (v := (1 : Int32)) Cx eX7_mayCome_15 (by decide) ?_
      refine gx_tab0ld Cx eX7_mayCome_16 h (fun h => ?_)
      refine gx_icmp_gt (tgt := 24) Cx eX7_mayCome_17 (by decide) h (fun h => ?_) (fun h => ?_)
      · refine gx_iconst (v := (0 : Int32)) Cx eX7_mayCome_24 (by decide) ?_
        exact gx_rIp h (by decide) eX7_mayCome_25 hR
      · refine gx_iconst (v := (1 : Int32)) Cx eX7_mayCome_20 (by decide) ?_
        refine gx_goto (tgt := 25) Cx eX7_mayCome_21 (by decide) ?_
        exact gx_rIp h (by decide) eX7_mayCome_25 hR
set_option maxHeartbeats 4000000 in
set_option maxRecDepth 100000 in
theorem c_X7_mean (κ : gx_K) {v1 : Int32} {v2 : Int32} {v3 : Int32} {M : gx_Mem} {r9 : Int64} {M9 : gx_Mem} (hf : f_X7_mean v1 v2 v3 M = some (r9, M9)) : gx_CJ κ yX7_mean cX7_mean 4 (some .long) 5 [.ref (gx_a κ 56), .int v1, .int v2, .int v3] M r9 M9 := by
  refine gx_enterJ (d := 5) my_X7_mean.1 (by decide) (Nat.le_of_ble_eq_true rfl) (fun Γ Cx hR => ?_)
  change gx_G κ Γ 0 [(0, .ref (gx_a κ 56)), (1, .int v1), (2, .int v2), (3, .int v3)] [] M
  have h := hf
  refine gx_aload_n Cx eX7_mean_0 0 rfl ?_
  refine gx_iload_n Cx eX7_mean_1 1 rfl ?_
  obtain ⟨y2, h1, h⟩ := gx_bP_of h
  refine gx_callVI (ci := 7) Cx my_X7_isPm wlX7_157 rfl gx_y56 (by decide) rfl eX7_mean_2 (c_X7_isPm κ h1) rfl (Nat.le_of_ble_eq_true rfl) ?_
  refine gx_if_eq (tgt := 22) Cx eX7_mean_5 (by decide) h (fun h => ?_) (fun h => ?_)
  · refine gx_ldc2_w Cx eX7_mean_22 wkX7_218 ?_
    exact gx_rJ h eX7_mean_25 hR
  · refine gx_iload_n Cx eX7_mean_8 2 rfl ?_
    obtain ⟨y4, h3, h⟩ := gx_bP_of h
    refine gx_callSI Cx my_X7_isHour wlX7_131 (by decide) rfl eX7_mean_9 (c_X7_isHour κ h3) rfl (Nat.le_of_ble_eq_true rfl) ?_
    refine gx_if_eq (tgt := 22) Cx eX7_mean_12 (by decide) h (fun h => ?_) (fun h => ?_)
    · refine gx_ldc2_w Cx eX7_mean_22 wkX7_218 ?_
      exact gx_rJ h eX7_mean_25 hR
    · refine gx_iload_n Cx eX7_mean_15 3 rfl ?_
      obtain ⟨y6, h5, h⟩ := gx_bP_of h
      refine gx_callSI Cx my_X7_isChoice wlX7_140 (by decide) rfl eX7_mean_16 (c_X7_isChoice κ h5) rfl (Nat.le_of_ble_eq_true rfl) ?_
      refine gx_if_ne (tgt := 26) Cx eX7_mean_19 (by decide) h (fun h => ?_) (fun h => ?_)
      · refine gx_aload_n Cx eX7_mean_26 0 rfl ?_
        refine gfX7_40 Cx eX7_mean_27 ?_
        refine gx_iload_n Cx eX7_mean_30 1 rfl ?_
        refine gx_bipush (v := (10 : Int32)) Cx eX7_mean_31 (by decide) ?_
        refine gx_idivC Cx eX7_mean_33 (by decide) ?_
        refine gx_iload_n Cx eX7_mean_34 1 rfl ?_
        refine gx_bipush (v := (10 : Int32)) Cx eX7_mean_35 (by decide) ?_
        refine gx_iremC Cx eX7_mean_37 (by decide) ?_
        refine gx_iconst (v := (1 : Int32)) Cx eX7_mean_38 (by decide) ?_
        obtain ⟨y8, M9, h7, h⟩ := gx_bI_of h
        refine gx_callVI (ci := 4) Cx my_X4_overSets wlX7_220 rfl gx_y30 (by decide) rfl eX7_mean_39 (c_X4_overSets κ h7) rfl (Nat.le_of_ble_eq_true rfl) ?_
        refine gx_iconst (v := (1 : Int32)) Cx eX7_mean_42 (by decide) ?_
        refine gx_aload_n Cx eX7_mean_43 0 rfl ?_
        refine gfX7_28 Cx eX7_mean_44 ?_
        refine gfX7_73 Cx gx_y9 eX7_mean_47 ?_
        refine gx_iconst (v := (1 : Int32)) Cx eX7_mean_50 (by decide) ?_
        refine gx_isub Cx eX7_mean_51 ?_
        refine gx_ishl Cx eX7_mean_52 ?_
        refine gx_iload_n Cx eX7_mean_53 3 rfl ?_
        obtain ⟨y11, h10, h⟩ := gx_bP_of h
        refine gx_callSJ Cx my_X7_fraction wlX7_223 (by decide) rfl eX7_mean_54 (c_X7_fraction κ h10) rfl (Nat.le_of_ble_eq_true rfl) ?_
        exact gx_rJ h eX7_mean_57 hR
      · refine gx_ldc2_w Cx eX7_mean_22 wkX7_218 ?_
        exact gx_rJ h eX7_mean_25 hR
set_option maxHeartbeats 4000000 in
set_option maxRecDepth 100000 in
theorem c_X7_mend (κ : gx_K) {v1 : Int32} {v2 : Int32} {v3 : Int32} {M : gx_Mem} {r9 : Int32} {M9 : gx_Mem} (hf : f_X7_mend v1 v2 v3 M = some (r9, M9)) : gx_CI κ yX7_mend cX7_mend 5 (some .int) 3 [.ref (gx_a κ 56), .int v1, .int v2, .int v3] M r9 M9 := by
  refine gx_enterI (d := 3) my_X7_mend.1 (by decide) (Nat.le_of_ble_eq_true rfl) (fun Γ Cx hR => ?_)
  change gx_G κ Γ 0 [(0, .ref (gx_a κ 56)), (1, .int v1), (2, .int v2), (3, .int v3)] [] M
  have h := hf
  refine gx_aload_n Cx eX7_mend_0 0 rfl ?_
  refine gx_iload_n Cx eX7_mend_1 1 rfl ?_
  refine gx_iload_n Cx eX7_mend_2 2 rfl ?_
  obtain ⟨y2, h1, h⟩ := gx_bP_of h
  refine gx_callVI (ci := 7) Cx my_X7_isNumber wlX7_98 rfl gx_y56 (by decide) rfl eX7_mend_3 (c_X7_isNumber κ h1) rfl (Nat.le_of_ble_eq_true rfl) ?_
  refine gx_if_eq (tgt := 22) Cx eX7_mend_6 (by decide) h (fun h => ?_) (fun h => ?_)
  · refine gx_iconst (v := (-1 : Int32)) Cx eX7_mend_22 (by decide) ?_
    exact gx_rI h rfl eX7_mend_23 hR
  · refine gx_iload_n Cx eX7_mend_9 3 rfl ?_
    refine gx_if_lt (tgt := 22) Cx eX7_mend_10 (by decide) h (fun h => ?_) (fun h => ?_)
    · refine gx_iconst (v := (-1 : Int32)) Cx eX7_mend_22 (by decide) ?_
      exact gx_rI h rfl eX7_mend_23 hR
    · refine gx_iload_n Cx eX7_mend_13 3 rfl ?_
      refine gsX7_101 Cx eX7_mend_14 ?_
      refine gx_iload_n Cx eX7_mend_17 2 rfl ?_
      refine gx_tab0ld Cx eX7_mend_18 h (fun h => ?_)
      refine gx_icmp_le (tgt := 24) Cx eX7_mend_19 (by decide) h (fun h => ?_) (fun h => ?_)
      · refine gx_aload_n Cx eX7_mend_24 0 rfl ?_
        refine gfX7_28 Cx eX7_mend_25 ?_
        refine gx_iload_n Cx eX7_mend_28 1 rfl ?_
        refine gx_iload_n Cx eX7_mend_29 2 rfl ?_
        obtain ⟨y4, h3, h⟩ := gx_bP_of h
        refine gx_callVI (ci := 2) Cx my_X2_tells wlX7_105 rfl gx_y9 (by decide) rfl eX7_mend_30 (c_X2_tells κ gx_Ho9 h3) rfl (Nat.le_of_ble_eq_true rfl) ?_
        refine gx_istore Cx eX7_mend_33 [(4, .int y4), (0, .ref (gx_a κ 56)), (1, .int v1), (2, .int v2), (3, .int v3)] rfl (by decide) ?_
        refine gx_iload Cx eX7_mend_35 0 rfl ?_
        refine gx_iload_n Cx eX7_mend_37 4 rfl ?_
        refine gx_icmp_eq (tgt := 63) Cx eX7_mend_38 (by decide) h (fun h => ?_) (fun h => ?_)
        · refine gx_iload Cx eX7_mend_63 0 rfl ?_
          exact gx_rI h rfl eX7_mend_65 hR
        · refine gx_aload_n Cx eX7_mend_41 1 rfl ?_
          refine gfX7_28 Cx eX7_mend_42 ?_
          refine gx_iload_n Cx eX7_mend_45 2 rfl ?_
          refine gx_iload_n Cx eX7_mend_46 3 rfl ?_
          refine gx_iload_n Cx eX7_mend_47 4 rfl ?_
          obtain ⟨M6, h5, h⟩ := gx_bP_of h
          refine gx_callVV (ci := 2) Cx my_X2_told wlX7_108 rfl gx_y9 (by decide) rfl eX7_mend_48 (c_X2_told κ gx_Ho9 h5) rfl (Nat.le_of_ble_eq_true rfl) ?_
          refine gx_aload_n Cx eX7_mend_51 1 rfl ?_
          refine gfX7_47 Cx eX7_mend_52 ?_
          refine gx_iload_n Cx eX7_mend_55 2 rfl ?_
          refine gx_iload_n Cx eX7_mend_56 3 rfl ?_
          refine gx_iload Cx eX7_mend_57 0 rfl ?_
          refine gx_iload_n Cx eX7_mend_59 4 rfl ?_
          obtain ⟨M8, h7, h⟩ := gx_bP_of h
          refine gx_callVV (ci := 1) Cx my_X1_add wlX7_112 rfl gx_y35 (by decide) rfl eX7_mend_60 (c_X1_add κ h7) rfl (Nat.le_of_ble_eq_true rfl) ?_
          refine gx_iload Cx eX7_mend_63 0 rfl ?_
          exact gx_rI h rfl eX7_mend_65 hR
      · refine gx_iconst (v := (-1 : Int32)) Cx eX7_mend_22 (by decide) ?_
        exact gx_rI h rfl eX7_mend_23 hR
set_option maxHeartbeats 4000000 in
set_option maxRecDepth 100000 in
theorem c_X7_most (κ : gx_K) {v1 : Int32} {v2 : Int32} {v3 : Int32} {M : gx_Mem} {r9 : Int32} {M9 : gx_Mem} (hf : f_X7_most v1 v2 v3 M = some (r9, M9)) : gx_CI κ yX7_most cX7_most 4 (some .int) 7 [.ref (gx_a κ 56), .int v1, .int v2, .int v3] M r9 M9 := by
  refine gx_enterI (d := 7) my_X7_most.1 (by decide) (Nat.le_of_ble_eq_true rfl) (fun Γ Cx hR => ?_)
  change gx_G κ Γ 0 [(0, .ref (gx_a κ 56)), (1, .int v1), (2, .int v2), (3, .int v3)] [] M
  have h := hf
  refine gx_iload_n Cx eX7_most_0 1 rfl ?_
  obtain ⟨y2, h1, h⟩ := gx_bP_of h
  refine gx_callSI Cx my_X7_isSpan wlX7_154 (by decide) rfl eX7_most_1 (c_X7_isSpan κ h1) rfl (Nat.le_of_ble_eq_true rfl) ?_
  refine gx_if_eq (tgt := 22) Cx eX7_most_4 (by decide) h (fun h => ?_) (fun h => ?_)
  · refine gx_iconst (v := (-1 : Int32)) Cx eX7_most_22 (by decide) ?_
    exact gx_rI h rfl eX7_most_23 hR
  · refine gx_aload_n Cx eX7_most_7 0 rfl ?_
    refine gx_iload_n Cx eX7_most_8 2 rfl ?_
    obtain ⟨y4, h3, h⟩ := gx_bP_of h
    refine gx_callVI (ci := 7) Cx my_X7_isOne wlX7_164 rfl gx_y56 (by decide) rfl eX7_most_9 (c_X7_isOne κ h3) rfl (Nat.le_of_ble_eq_true rfl) ?_
    refine gx_if_eq (tgt := 22) Cx eX7_most_12 (by decide) h (fun h => ?_) (fun h => ?_)
    · refine gx_iconst (v := (-1 : Int32)) Cx eX7_most_22 (by decide) ?_
      exact gx_rI h rfl eX7_most_23 hR
    · refine gx_iload_n Cx eX7_most_15 3 rfl ?_
      obtain ⟨y6, h5, h⟩ := gx_bP_of h
      refine gx_callSI Cx my_X7_isChoice wlX7_140 (by decide) rfl eX7_most_16 (c_X7_isChoice κ h5) rfl (Nat.le_of_ble_eq_true rfl) ?_
      refine gx_if_ne (tgt := 24) Cx eX7_most_19 (by decide) h (fun h => ?_) (fun h => ?_)
      · refine gx_iload_n Cx eX7_most_24 3 rfl ?_
        refine gx_if_ne (tgt := 40) Cx eX7_most_25 (by decide) h (fun h => ?_) (fun h => ?_)
        · refine gx_aload_n Cx eX7_most_40 0 rfl ?_
          refine gfX7_40 Cx eX7_most_41 ?_
          refine gx_iload_n Cx eX7_most_44 1 rfl ?_
          refine gx_iload_n Cx eX7_most_45 2 rfl ?_
          obtain ⟨y8, M9, h7, h⟩ := gx_bI_of h
          refine gx_callVI (ci := 4) Cx my_X4_mostBehind wlX7_170 rfl gx_y30 (by decide) rfl eX7_most_46 (c_X4_mostBehind κ h7) rfl (Nat.le_of_ble_eq_true rfl) ?_
          exact gx_rI h rfl eX7_most_49 hR
        · refine gx_aload_n Cx eX7_most_28 0 rfl ?_
          refine gfX7_40 Cx eX7_most_29 ?_
          refine gx_iload_n Cx eX7_most_32 1 rfl ?_
          refine gx_iload_n Cx eX7_most_33 2 rfl ?_
          obtain ⟨y11, M12, h10, h⟩ := gx_bI_of h
          refine gx_callVI (ci := 4) Cx my_X4_allBehind wlX7_167 rfl gx_y30 (by decide) rfl eX7_most_34 (c_X4_allBehind κ h10) rfl (Nat.le_of_ble_eq_true rfl) ?_
          refine gx_goto (tgt := 49) Cx eX7_most_37 (by decide) ?_
          exact gx_rI h rfl eX7_most_49 hR
      · refine gx_iconst (v := (-1 : Int32)) Cx eX7_most_22 (by decide) ?_
        exact gx_rI h rfl eX7_most_23 hR
set_option maxHeartbeats 4000000 in
set_option maxRecDepth 100000 in
theorem c_X7_moves (κ : gx_K) {v1 : Int32} {v2 : Int32} {M : gx_Mem} {r9 : Int32} {M9 : gx_Mem} (hf : f_X7_moves v1 v2 M = some (r9, M9)) : gx_CI κ yX7_moves cX7_moves 4 (some .int) 1 [.ref (gx_a κ 56), .int v1, .int v2] M r9 M9 := by
  refine gx_enterI (d := 1) my_X7_moves.1 (by decide) (Nat.le_of_ble_eq_true rfl) (fun Γ Cx hR => ?_)
  change gx_G κ Γ 0 [(0, .ref (gx_a κ 56)), (1, .int v1), (2, .int v2)] [] M
  have h := hf
  refine gx_aload_n Cx eX7_moves_0 0 rfl ?_
  refine gx_iload_n Cx eX7_moves_1 1 rfl ?_
  obtain ⟨y2, h1, h⟩ := gx_bP_of h
  refine gx_callVI (ci := 7) Cx my_X7_isOne wlX7_164 rfl gx_y56 (by decide) rfl eX7_moves_2 (c_X7_isOne κ h1) rfl (Nat.le_of_ble_eq_true rfl) ?_
  refine gx_if_eq (tgt := 15) Cx eX7_moves_5 (by decide) h (fun h => ?_) (fun h => ?_)
  · refine gx_iconst (v := (-1 : Int32)) Cx eX7_moves_15 (by decide) ?_
    exact gx_rI h rfl eX7_moves_16 hR
  · refine gx_iload_n Cx eX7_moves_8 2 rfl ?_
    obtain ⟨y4, h3, h⟩ := gx_bP_of h
    refine gx_callSI Cx my_X7_isFlat wlX7_134 (by decide) rfl eX7_moves_9 (c_X7_isFlat κ h3) rfl (Nat.le_of_ble_eq_true rfl) ?_
    refine gx_if_ne (tgt := 17) Cx eX7_moves_12 (by decide) h (fun h => ?_) (fun h => ?_)
    · refine gx_aload_n Cx eX7_moves_17 0 rfl ?_
      refine gfX7_28 Cx eX7_moves_18 ?_
      refine gfX7_240 Cx gx_y9 eX7_moves_21 ?_
      refine gx_iload_n Cx eX7_moves_24 1 rfl ?_
      refine gx_iald Cx gx_y10 eX7_moves_25 h (fun h => ?_)
      refine gx_nmI h (fun x5 h => ?_)
      refine gx_istore_n Cx eX7_moves_26 [(3, .int x5), (0, .ref (gx_a κ 56)), (1, .int v1), (2, .int v2)] rfl (by decide) ?_
      refine gx_aload_n Cx eX7_moves_27 1 rfl ?_
      refine gfX7_28 Cx eX7_moves_28 ?_
      refine gfX7_240 Cx gx_y9 eX7_moves_31 ?_
      refine gx_iload_n Cx eX7_moves_34 2 rfl ?_
      refine gx_iload_n Cx eX7_moves_35 3 rfl ?_
      refine gx_iast Cx gx_y10 eX7_moves_36 h (fun M6 h => ?_)
      refine gx_aload_n Cx eX7_moves_37 1 rfl ?_
      refine gfX7_28 Cx eX7_moves_38 ?_
      refine gfX7_243 Cx gx_y9 eX7_moves_41 ?_
      refine gx_iconst (v := (1 : Int32)) Cx eX7_moves_44 (by decide) ?_
      refine gx_dup2 Cx eX7_moves_45 rfl rfl ?_
      refine gx_ialdC (α := Unit) (b := none) Cx gx_y15 eX7_moves_46 (by decide) ?_
      refine gx_iconst (v := (1 : Int32)) Cx eX7_moves_47 (by decide) ?_
      refine gx_iadd Cx eX7_moves_48 ?_
      refine gx_iastC Cx gx_y15 eX7_moves_49 (by decide) h (fun M7 h => ?_)
      refine gx_iload_n Cx eX7_moves_50 0 rfl ?_
      exact gx_rI h rfl eX7_moves_51 hR
    · refine gx_iconst (v := (-1 : Int32)) Cx eX7_moves_15 (by decide) ?_
      exact gx_rI h rfl eX7_moves_16 hR
set_option maxHeartbeats 4000000 in
set_option maxRecDepth 100000 in
theorem c_X7_odds (κ : gx_K) {v1 : Int32} {v2 : Int32} {v3 : Int32} {M : gx_Mem} {r9 : Int64} {M9 : gx_Mem} (hf : f_X7_odds v1 v2 v3 M = some (r9, M9)) : gx_CJ κ yX7_odds cX7_odds 4 (some .long) 5 [.ref (gx_a κ 56), .int v1, .int v2, .int v3] M r9 M9 := by
  refine gx_enterJ (d := 5) my_X7_odds.1 (by decide) (Nat.le_of_ble_eq_true rfl) (fun Γ Cx hR => ?_)
  change gx_G κ Γ 0 [(0, .ref (gx_a κ 56)), (1, .int v1), (2, .int v2), (3, .int v3)] [] M
  have h := hf
  refine gx_aload_n Cx eX7_odds_0 0 rfl ?_
  refine gx_iload_n Cx eX7_odds_1 1 rfl ?_
  obtain ⟨y2, h1, h⟩ := gx_bP_of h
  refine gx_callVI (ci := 7) Cx my_X7_isPm wlX7_157 rfl gx_y56 (by decide) rfl eX7_odds_2 (c_X7_isPm κ h1) rfl (Nat.le_of_ble_eq_true rfl) ?_
  refine gx_if_eq (tgt := 22) Cx eX7_odds_5 (by decide) h (fun h => ?_) (fun h => ?_)
  · refine gx_ldc2_w Cx eX7_odds_22 wkX7_218 ?_
    exact gx_rJ h eX7_odds_25 hR
  · refine gx_iload_n Cx eX7_odds_8 2 rfl ?_
    obtain ⟨y4, h3, h⟩ := gx_bP_of h
    refine gx_callSI Cx my_X7_isHour wlX7_131 (by decide) rfl eX7_odds_9 (c_X7_isHour κ h3) rfl (Nat.le_of_ble_eq_true rfl) ?_
    refine gx_if_eq (tgt := 22) Cx eX7_odds_12 (by decide) h (fun h => ?_) (fun h => ?_)
    · refine gx_ldc2_w Cx eX7_odds_22 wkX7_218 ?_
      exact gx_rJ h eX7_odds_25 hR
    · refine gx_iload_n Cx eX7_odds_15 3 rfl ?_
      obtain ⟨y6, h5, h⟩ := gx_bP_of h
      refine gx_callSI Cx my_X7_isChoice wlX7_140 (by decide) rfl eX7_odds_16 (c_X7_isChoice κ h5) rfl (Nat.le_of_ble_eq_true rfl) ?_
      refine gx_if_ne (tgt := 26) Cx eX7_odds_19 (by decide) h (fun h => ?_) (fun h => ?_)
      · refine gx_aload_n Cx eX7_odds_26 0 rfl ?_
        refine gfX7_40 Cx eX7_odds_27 ?_
        refine gx_iload_n Cx eX7_odds_30 1 rfl ?_
        refine gx_bipush (v := (10 : Int32)) Cx eX7_odds_31 (by decide) ?_
        refine gx_idivC Cx eX7_odds_33 (by decide) ?_
        refine gx_iload_n Cx eX7_odds_34 1 rfl ?_
        refine gx_bipush (v := (10 : Int32)) Cx eX7_odds_35 (by decide) ?_
        refine gx_iremC Cx eX7_odds_37 (by decide) ?_
        refine gx_iconst (v := (0 : Int32)) Cx eX7_odds_38 (by decide) ?_
        obtain ⟨y8, M9, h7, h⟩ := gx_bI_of h
        refine gx_callVI (ci := 4) Cx my_X4_overSets wlX7_220 rfl gx_y30 (by decide) rfl eX7_odds_39 (c_X4_overSets κ h7) rfl (Nat.le_of_ble_eq_true rfl) ?_
        refine gx_iconst (v := (1 : Int32)) Cx eX7_odds_42 (by decide) ?_
        refine gx_aload_n Cx eX7_odds_43 0 rfl ?_
        refine gfX7_28 Cx eX7_odds_44 ?_
        refine gfX7_73 Cx gx_y9 eX7_odds_47 ?_
        refine gx_iconst (v := (1 : Int32)) Cx eX7_odds_50 (by decide) ?_
        refine gx_isub Cx eX7_odds_51 ?_
        refine gx_ishl Cx eX7_odds_52 ?_
        refine gx_iload_n Cx eX7_odds_53 3 rfl ?_
        obtain ⟨y11, h10, h⟩ := gx_bP_of h
        refine gx_callSJ Cx my_X7_fraction wlX7_223 (by decide) rfl eX7_odds_54 (c_X7_fraction κ h10) rfl (Nat.le_of_ble_eq_true rfl) ?_
        exact gx_rJ h eX7_odds_57 hR
      · refine gx_ldc2_w Cx eX7_odds_22 wkX7_218 ?_
        exact gx_rJ h eX7_odds_25 hR
set_option maxHeartbeats 4000000 in
set_option maxRecDepth 100000 in
theorem c_X7_of (κ : gx_K) {v1 : Int32} {v2 : Int32} {M : gx_Mem} {r9 : Int32} (hf : f_X7_of v1 v2 M = some r9) : gx_CI κ yX7_of cX7_of 3 (some .int) 3 [.ref (gx_a κ 56), .int v1, .int v2] M r9 M := by
  refine gx_enterI (d := 3) my_X7_of.1 (by decide) (Nat.le_of_ble_eq_true rfl) (fun Γ Cx hR => ?_)
  change gx_G κ Γ 0 [(0, .ref (gx_a κ 56)), (1, .int v1), (2, .int v2)] [] M
  have h := hf
  refine gx_aload_n Cx eX7_of_0 0 rfl ?_
  refine gx_iload_n Cx eX7_of_1 1 rfl ?_
  refine gx_iload_n Cx eX7_of_2 2 rfl ?_
  obtain ⟨y2, h1, h⟩ := gx_bP_of h
  refine gx_callVI (ci := 7) Cx my_X7_isNumber wlX7_98 rfl gx_y56 (by decide) rfl eX7_of_3 (c_X7_isNumber κ h1) rfl (Nat.le_of_ble_eq_true rfl) ?_
  refine gx_if_eq (tgt := 21) Cx eX7_of_6 (by decide) h (fun h => ?_) (fun h => ?_)
  · refine gx_iconst (v := (-1 : Int32)) Cx eX7_of_21 (by decide) ?_
    exact gx_rIp h rfl eX7_of_22 hR
  · refine gx_aload_n Cx eX7_of_9 0 rfl ?_
    refine gfX7_28 Cx eX7_of_10 ?_
    refine gx_iload_n Cx eX7_of_13 1 rfl ?_
    refine gx_iload_n Cx eX7_of_14 2 rfl ?_
    obtain ⟨y4, h3, h⟩ := gx_bP_of h
    refine gx_callVI (ci := 2) Cx my_X2_tells wlX7_105 rfl gx_y9 (by decide) rfl eX7_of_15 (c_X2_tells κ gx_Ho9 h3) rfl (Nat.le_of_ble_eq_true rfl) ?_
    refine gx_goto (tgt := 22) Cx eX7_of_18 (by decide) ?_
    exact gx_rIp h rfl eX7_of_22 hR
set_option maxHeartbeats 4000000 in
set_option maxRecDepth 100000 in
theorem c_X7_people (κ : gx_K) {v1 : Int32} {v2 : Int32} {v3 : Int32} {M : gx_Mem} {r9 : Int32} {M9 : gx_Mem} (hf : f_X7_people v1 v2 v3 M = some (r9, M9)) : gx_CI κ yX7_people cX7_people 9 (some .int) 2 [.ref (gx_a κ 56), .int v1, .int v2, .int v3] M r9 M9 := by
  refine gx_enterI (d := 2) my_X7_people.1 (by decide) (Nat.le_of_ble_eq_true rfl) (fun Γ Cx hR => ?_)
  change gx_G κ Γ 0 [(0, .ref (gx_a κ 56)), (1, .int v1), (2, .int v2), (3, .int v3)] [] M
  have K76 : ∀ (r4 : Nat) (hr4 : gx_Sh r4) (ag76 : Int32 → Int32 → gx_Mem → Option (Int32 × gx_Mem)) (hag76 : ∀ (v5 : Int32) (v6 : Int32) (M : gx_Mem), ag76 v5 v6 M = some (r9, M9) → gx_G κ Γ 76 [(0, .ref (gx_a κ 56)), (3, .int v3), (4, .ref (gx_a κ r4)), (5, .int v5), (6, .int v6)] [] M) (v5 : Int32) (v6 : Int32) (M : gx_Mem), f_X7_people_k76 v3 r4 ag76 v5 v6 M = some (r9, M9) → gx_G κ Γ 76 [(0, .ref (gx_a κ 56)), (3, .int v3), (4, .ref (gx_a κ r4)), (5, .int v5), (6, .int v6)] [] M := by
    intro r4 hr4 ag76 hag76
    intro v5 v6 M h
    refine gx_iload Cx eX7_people_76 3 rfl ?_
    refine gx_iload_n Cx eX7_people_78 1 rfl ?_
    refine gx_icmp_ge (tgt := 164) Cx eX7_people_79 (by decide) h (fun h => ?_) (fun h => ?_)
    · refine gx_iload Cx eX7_people_164 3 rfl ?_
      exact gx_rI h rfl eX7_people_166 hR
    · refine gx_iload Cx eX7_people_82 4 rfl ?_
      refine gx_aload Cx eX7_people_84 2 rfl ?_
      refine gfX7_91 Cx hr4.1 eX7_people_86 ?_
      refine gx_iconst (v := (2 : Int32)) Cx eX7_people_89 (by decide) ?_
      refine gx_isub Cx eX7_people_90 ?_
      refine gx_icmp_gt (tgt := 164) Cx eX7_people_91 (by decide) h (fun h => ?_) (fun h => ?_)
      · refine gx_iload Cx eX7_people_164 3 rfl ?_
        exact gx_rI h rfl eX7_people_166 hR
      · refine gx_aload_n Cx eX7_people_94 0 rfl ?_
        refine gfX7_28 Cx eX7_people_95 ?_
        refine gfX7_73 Cx gx_y9 eX7_people_98 ?_
        refine gx_bipush (v := (6 : Int32)) Cx eX7_people_101 (by decide) ?_
        refine gx_icmp_ge (tgt := 164) Cx eX7_people_103 (by decide) h (fun h => ?_) (fun h => ?_)
        · refine gx_iload Cx eX7_people_164 3 rfl ?_
          exact gx_rI h rfl eX7_people_166 hR
        · refine gx_aload Cx eX7_people_106 2 rfl ?_
          refine gfX7_94 Cx hr4.1 eX7_people_108 ?_
          refine gx_iload Cx eX7_people_111 4 rfl ?_
          refine gx_lald Cx hr4.2 eX7_people_113 h (fun h => ?_)
          refine gx_l2i Cx eX7_people_114 ?_
          refine gx_nmI h (fun x4 h => ?_)
          refine gx_istore Cx eX7_people_115 [(7, .int x4), (0, .ref (gx_a κ 56)), (3, .int v3), (4, .ref (gx_a κ r4)), (5, .int v5), (6, .int v6)] rfl (by decide) ?_
          refine gx_aload Cx eX7_people_117 3 rfl ?_
          refine gfX7_94 Cx hr4.1 eX7_people_119 ?_
          refine gx_iload Cx eX7_people_122 5 rfl ?_
          refine gx_iconst (v := (1 : Int32)) Cx eX7_people_124 (by decide) ?_
          refine gx_iadd Cx eX7_people_125 ?_
          refine gx_lald Cx hr4.2 eX7_people_126 h (fun h => ?_)
          refine gx_l2i Cx eX7_people_127 ?_
          refine gx_nmI h (fun x5 h => ?_)
          refine gx_istore Cx eX7_people_128 [(8, .int x5), (7, .int x4), (0, .ref (gx_a κ 56)), (3, .int v3), (4, .ref (gx_a κ r4)), (5, .int v5), (6, .int v6)] rfl (by decide) ?_
          refine gx_iload Cx eX7_people_130 1 rfl ?_
          refine gx_iload Cx eX7_people_132 0 rfl ?_
          obtain ⟨y7, h6, h⟩ := gx_bP_of h
          refine gx_callSI Cx my_X7_mayCome wlX7_69 (by decide) rfl eX7_people_134 (c_X7_mayCome κ h6) rfl (Nat.le_of_ble_eq_true rfl) ?_
          refine gx_if_ne (tgt := 143) Cx eX7_people_137 (by decide) h (fun h => ?_) (fun h => ?_)
          · refine gx_aload_n Cx eX7_people_143 2 rfl ?_
            refine gfX7_28 Cx eX7_people_144 ?_
            refine gx_iload Cx eX7_people_147 1 rfl ?_
            refine gx_iload Cx eX7_people_149 0 rfl ?_
            obtain ⟨y9, M10, h8, h⟩ := gx_bI_of h
            refine gx_callVI (ci := 2) Cx my_X2_welcome wlX7_77 rfl gx_y9 (by decide) rfl eX7_people_151 (c_X2_welcome κ gx_Ho9 h8) rfl (Nat.le_of_ble_eq_true rfl) ?_
            refine gx_pop Cx eX7_people_154 rfl ?_
            refine gx_iinc (v := (1 : Int32)) (i := 5) (j := 5) Cx eX7_people_155 (by decide) h 5 rfl (fun w => [(5, .int w), (8, .int x5), (7, .int x4), (0, .ref (gx_a κ 56)), (3, .int v3), (4, .ref (gx_a κ r4)), (6, .int v6)]) (fun _ => rfl) (by decide) (fun x11 h => ?_)
            refine gx_iinc (v := (2 : Int32)) (i := 6) (j := 6) Cx eX7_people_158 (by decide) h 6 rfl (fun w => [(6, .int w), (5, .int x11), (8, .int x5), (7, .int x4), (0, .ref (gx_a κ 56)), (3, .int v3), (4, .ref (gx_a κ r4))]) (fun _ => rfl) (by decide) (fun x12 h => ?_)
            refine gx_goto (tgt := 76) Cx eX7_people_161 (by decide) ?_
            refine gx_sub [4, 5, 6, 1, 0] rfl ?_
            exact hag76 _ _ _ h
          · refine gx_iload Cx eX7_people_140 5 rfl ?_
            exact gx_rI h rfl eX7_people_142 hR
  have L76 : ∀ (r4 : Nat) (hr4 : gx_Sh r4) (n : Nat) (v5 : Int32) (v6 : Int32) (M : gx_Mem), f_X7_people_l76 v3 r4 n v5 v6 M = some (r9, M9) → gx_G κ Γ 76 [(0, .ref (gx_a κ 56)), (3, .int v3), (4, .ref (gx_a κ r4)), (5, .int v5), (6, .int v6)] [] M := by
    intro r4 hr4 n
    induction n with
    | zero => intro v5 v6 M h; exact gx_loop_0 h
    | succ n ih => intro v5 v6 M h; exact K76 r4 hr4 (fun v5 v6 M => f_X7_people_l76 v3 r4 n v5 v6 M) ih v5 v6 M h
  have B56 : ∀ (r4 : Nat) (hr4 : gx_Sh r4) (M : gx_Mem), f_X7_people_b56 v2 v3 r4 M = some (r9, M9) → gx_G κ Γ 56 [(0, .ref (gx_a κ 56)), (2, .int v2), (3, .int v3), (4, .ref (gx_a κ r4))] [] M := by
    intro r4 hr4 M h
    refine gx_aload Cx eX7_people_56 3 rfl ?_
    refine gfX7_88 Cx hr4.1 eX7_people_58 ?_
    refine gx_if_lt (tgt := 68) Cx eX7_people_61 (by decide) h (fun h => ?_) (fun h => ?_)
    · refine gx_iconst (v := (0 : Int32)) Cx eX7_people_68 (by decide) ?_
      exact gx_rI h rfl eX7_people_69 hR
    · refine gx_iload_n Cx eX7_people_64 1 rfl ?_
      refine gx_if_ge (tgt := 70) Cx eX7_people_65 (by decide) h (fun h => ?_) (fun h => ?_)
      · refine gx_iconst (v := (0 : Int32)) Cx eX7_people_70 (by decide) ?_
        refine gx_istore Cx eX7_people_71 [(5, .int (0 : Int32)), (0, .ref (gx_a κ 56)), (2, .int v2), (3, .int v3), (4, .ref (gx_a κ r4))] rfl (by decide) ?_
        refine gx_iload_n Cx eX7_people_73 2 rfl ?_
        refine gx_istore Cx eX7_people_74 [(6, .int v2), (5, .int (0 : Int32)), (0, .ref (gx_a κ 56)), (2, .int v2), (3, .int v3), (4, .ref (gx_a κ r4))] rfl (by decide) ?_
        refine gx_sub [2, 4, 5, 1, 0] rfl ?_
        exact L76 _ hr4 _ _ _ _ h
      · refine gx_iconst (v := (0 : Int32)) Cx eX7_people_68 (by decide) ?_
        exact gx_rI h rfl eX7_people_69 hR
  have h := hf
  refine gx_iload_n Cx eX7_people_0 1 rfl ?_
  obtain ⟨y2, h1, h⟩ := gx_bP_of h
  refine gx_callSI Cx my_X7_isShelf wlX7_81 (by decide) rfl eX7_people_1 (c_X7_isShelf κ h1) rfl (Nat.le_of_ble_eq_true rfl) ?_
  refine gx_if_eq (tgt := 18) Cx eX7_people_4 (by decide) h (fun h => ?_) (fun h => ?_)
  · refine gx_iconst (v := (-1 : Int32)) Cx eX7_people_18 (by decide) ?_
    exact gx_rI h rfl eX7_people_19 hR
  · refine gx_iload_n Cx eX7_people_7 3 rfl ?_
    refine gx_iconst (v := (1 : Int32)) Cx eX7_people_8 (by decide) ?_
    refine gx_icmp_lt (tgt := 18) Cx eX7_people_9 (by decide) h (fun h => ?_) (fun h => ?_)
    · refine gx_iconst (v := (-1 : Int32)) Cx eX7_people_18 (by decide) ?_
      exact gx_rI h rfl eX7_people_19 hR
    · refine gx_iload_n Cx eX7_people_12 3 rfl ?_
      refine gx_bipush (v := (6 : Int32)) Cx eX7_people_13 (by decide) ?_
      refine gx_icmp_le (tgt := 20) Cx eX7_people_15 (by decide) h (fun h => ?_) (fun h => ?_)
      · refine gx_aload_n Cx eX7_people_20 0 rfl ?_
        refine gfX7_60 Cx eX7_people_21 ?_
        refine gx_iload_n Cx eX7_people_24 1 rfl ?_
        refine gx_aaldS Cx eX7_people_25 h (fun r3 hr3 h => ?_)
        refine gx_astore Cx eX7_people_26 [(4, .ref (gx_a κ r3)), (0, .ref (gx_a κ 56)), (1, .int v1), (2, .int v2), (3, .int v3)] rfl (by decide) ?_
        refine gx_aload Cx eX7_people_28 0 rfl ?_
        refine gfX7_85 Cx hr3.1 eX7_people_30 ?_
        refine gx_if_ge (tgt := 53) Cx eX7_people_33 (by decide) h (fun h => ?_) (fun h => ?_)
        · refine gx_bipush (v := (-12 : Int32)) Cx eX7_people_53 (by decide) ?_
          exact gx_rI h rfl eX7_people_55 hR
        · refine gx_aload Cx eX7_people_36 0 rfl ?_
          refine gfX7_88 Cx hr3.1 eX7_people_38 ?_
          refine gx_if_lt (tgt := 56) Cx eX7_people_41 (by decide) h (fun h => ?_) (fun h => ?_)
          · refine gx_sub [1, 3, 4, 0] rfl ?_
            exact B56 _ hr3 _ h
          · refine gx_aload Cx eX7_people_44 0 rfl ?_
            refine gfX7_88 Cx hr3.1 eX7_people_46 ?_
            refine gx_iconst (v := (1 : Int32)) Cx eX7_people_49 (by decide) ?_
            refine gx_icmp_eq (tgt := 56) Cx eX7_people_50 (by decide) h (fun h => ?_) (fun h => ?_)
            · refine gx_sub [1, 3, 4, 0] rfl ?_
              exact B56 _ hr3 _ h
            · refine gx_bipush (v := (-12 : Int32)) Cx eX7_people_53 (by decide) ?_
              exact gx_rI h rfl eX7_people_55 hR
      · refine gx_iconst (v := (-1 : Int32)) Cx eX7_people_18 (by decide) ?_
        exact gx_rI h rfl eX7_people_19 hR
set_option maxHeartbeats 4000000 in
set_option maxRecDepth 100000 in
theorem c_X7_person (κ : gx_K) {v1 : Int32} {v2 : Int32} {M : gx_Mem} {r9 : Int32} {M9 : gx_Mem} (hf : f_X7_person v1 v2 M = some (r9, M9)) : gx_CI κ yX7_person cX7_person 3 (some .int) 2 [.ref (gx_a κ 56), .int v1, .int v2] M r9 M9 := by
  refine gx_enterI (d := 2) my_X7_person.1 (by decide) (Nat.le_of_ble_eq_true rfl) (fun Γ Cx hR => ?_)
  change gx_G κ Γ 0 [(0, .ref (gx_a κ 56)), (1, .int v1), (2, .int v2)] [] M
  have h := hf
  refine gx_iload_n Cx eX7_person_0 1 rfl ?_
  refine gx_iload_n Cx eX7_person_1 2 rfl ?_
  obtain ⟨y2, h1, h⟩ := gx_bP_of h
  refine gx_callSI Cx my_X7_mayCome wlX7_69 (by decide) rfl eX7_person_2 (c_X7_mayCome κ h1) rfl (Nat.le_of_ble_eq_true rfl) ?_
  refine gx_if_ne (tgt := 10) Cx eX7_person_5 (by decide) h (fun h => ?_) (fun h => ?_)
  · refine gx_aload_n Cx eX7_person_10 0 rfl ?_
    refine gfX7_28 Cx eX7_person_11 ?_
    refine gfX7_73 Cx gx_y9 eX7_person_14 ?_
    refine gx_bipush (v := (6 : Int32)) Cx eX7_person_17 (by decide) ?_
    refine gx_icmp_ge (tgt := 34) Cx eX7_person_19 (by decide) h (fun h => ?_) (fun h => ?_)
    · refine gx_bipush (v := (-3 : Int32)) Cx eX7_person_34 (by decide) ?_
      exact gx_rI h rfl eX7_person_36 hR
    · refine gx_aload_n Cx eX7_person_22 0 rfl ?_
      refine gfX7_28 Cx eX7_person_23 ?_
      refine gx_iload_n Cx eX7_person_26 1 rfl ?_
      refine gx_iload_n Cx eX7_person_27 2 rfl ?_
      obtain ⟨y4, M5, h3, h⟩ := gx_bI_of h
      refine gx_callVI (ci := 2) Cx my_X2_welcome wlX7_77 rfl gx_y9 (by decide) rfl eX7_person_28 (c_X2_welcome κ gx_Ho9 h3) rfl (Nat.le_of_ble_eq_true rfl) ?_
      refine gx_goto (tgt := 36) Cx eX7_person_31 (by decide) ?_
      exact gx_rI h rfl eX7_person_36 hR
  · refine gx_iconst (v := (-1 : Int32)) Cx eX7_person_8 (by decide) ?_
    exact gx_rI h rfl eX7_person_9 hR
set_option maxHeartbeats 4000000 in
set_option maxRecDepth 100000 in
theorem c_X7_porter (κ : gx_K) {v1 : Int32} {v2 : Int32} {M : gx_Mem} {r9 : Int32} {M9 : gx_Mem} (hf : f_X7_porter v1 v2 M = some (r9, M9)) : gx_CI κ yX7_porter cX7_porter 3 (some .int) 5 [.ref (gx_a κ 56), .int v1, .int v2] M r9 M9 := by
  refine gx_enterI (d := 5) my_X7_porter.1 (by decide) (Nat.le_of_ble_eq_true rfl) (fun Γ Cx hR => ?_)
  change gx_G κ Γ 0 [(0, .ref (gx_a κ 56)), (1, .int v1), (2, .int v2)] [] M
  have h := hf
  refine gx_iload_n Cx eX7_porter_0 1 rfl ?_
  obtain ⟨y2, h1, h⟩ := gx_bP_of h
  refine gx_callSI Cx my_X7_isHour wlX7_131 (by decide) rfl eX7_porter_1 (c_X7_isHour κ h1) rfl (Nat.le_of_ble_eq_true rfl) ?_
  refine gx_if_eq (tgt := 33) Cx eX7_porter_4 (by decide) h (fun h => ?_) (fun h => ?_)
  · refine gx_iconst (v := (-1 : Int32)) Cx eX7_porter_33 (by decide) ?_
    exact gx_rI h rfl eX7_porter_34 hR
  · refine gx_iload_n Cx eX7_porter_7 2 rfl ?_
    obtain ⟨y4, h3, h⟩ := gx_bP_of h
    refine gx_callSI Cx my_X7_isMark wlX7_137 (by decide) rfl eX7_porter_8 (c_X7_isMark κ h3) rfl (Nat.le_of_ble_eq_true rfl) ?_
    refine gx_if_eq (tgt := 33) Cx eX7_porter_11 (by decide) h (fun h => ?_) (fun h => ?_)
    · refine gx_iconst (v := (-1 : Int32)) Cx eX7_porter_33 (by decide) ?_
      exact gx_rI h rfl eX7_porter_34 hR
    · refine gx_aload_n Cx eX7_porter_14 0 rfl ?_
      refine gfX7_28 Cx eX7_porter_15 ?_
      refine gx_iload_n Cx eX7_porter_18 2 rfl ?_
      refine gx_aload_n Cx eX7_porter_19 0 rfl ?_
      refine gfX7_28 Cx eX7_porter_20 ?_
      refine gx_iload_n Cx eX7_porter_23 1 rfl ?_
      obtain ⟨y6, h5, h⟩ := gx_bP_of h
      refine gx_callVI (ci := 2) Cx my_X2_outAt wlX7_143 rfl gx_y9 (by decide) rfl eX7_porter_24 (c_X2_outAt κ gx_Ho9 h5) rfl (Nat.le_of_ble_eq_true rfl) ?_
      obtain ⟨y8, M9, h7, h⟩ := gx_bI_of h
      refine gx_callVI (ci := 2) Cx my_X2_caughtBy wlX7_151 rfl gx_y9 (by decide) rfl eX7_porter_27 (c_X2_caughtBy κ gx_Ho9 h7) rfl (Nat.le_of_ble_eq_true rfl) ?_
      refine gx_goto (tgt := 34) Cx eX7_porter_30 (by decide) ?_
      exact gx_rI h rfl eX7_porter_34 hR
set_option maxHeartbeats 4000000 in
set_option maxRecDepth 100000 in
theorem c_X7_put (κ : gx_K) {v1 : Int32} {v2 : Int32} {w3 : Int64} {M : gx_Mem} {r9 : Int32} {M9 : gx_Mem} (hf : f_X7_put v1 v2 w3 M = some (r9, M9)) : gx_CI κ yX7_put cX7_put 6 (some .int) 2 [.ref (gx_a κ 56), .int v1, .int v2, .long w3] M r9 M9 := by
  refine gx_enterI (d := 2) my_X7_put.1 (by decide) (Nat.le_of_ble_eq_true rfl) (fun Γ Cx hR => ?_)
  change gx_G κ Γ 0 [(0, .ref (gx_a κ 56)), (1, .int v1), (2, .int v2), (3, .long w3)] [] M
  have h := hf
  refine gx_aload_n Cx eX7_put_0 0 rfl ?_
  refine gx_iload_n Cx eX7_put_1 1 rfl ?_
  refine gx_iload_n Cx eX7_put_2 2 rfl ?_
  obtain ⟨y2, h1, h⟩ := gx_bP_of h
  refine gx_callVI (ci := 7) Cx my_X7_placeRefusal wlX7_317 rfl gx_y56 (by decide) rfl eX7_put_3 (c_X7_placeRefusal κ h1) rfl (Nat.le_of_ble_eq_true rfl) ?_
  refine gx_istore Cx eX7_put_6 [(5, .int y2), (0, .ref (gx_a κ 56)), (1, .int v1), (2, .int v2), (3, .long w3)] rfl (by decide) ?_
  refine gx_iload Cx eX7_put_8 0 rfl ?_
  refine gx_if_eq (tgt := 16) Cx eX7_put_10 (by decide) h (fun h => ?_) (fun h => ?_)
  · refine gx_aload_n Cx eX7_put_16 1 rfl ?_
    refine gfX7_60 Cx eX7_put_17 ?_
    refine gx_iload_n Cx eX7_put_20 2 rfl ?_
    refine gx_aaldS Cx eX7_put_21 h (fun r3 hr3 h => ?_)
    refine gfX7_94 Cx hr3.1 eX7_put_22 ?_
    refine gx_iload_n Cx eX7_put_25 3 rfl ?_
    refine gx_aload_n Cx eX7_put_26 1 rfl ?_
    refine gfX7_60 Cx eX7_put_27 ?_
    refine gx_iload_n Cx eX7_put_30 2 rfl ?_
    refine gx_aaldS Cx eX7_put_31 h (fun r4 hr4 h => ?_)
    refine gx_lload_n Cx eX7_put_32 4 rfl ?_
    obtain ⟨y6, h5, h⟩ := gx_bP_of h
    refine gx_callVJ (ci := 5) Cx my_X5_fitted wlX7_320 rfl hr4.1 (by decide) rfl eX7_put_33 (c_X5_fitted κ hr4 h5) rfl (Nat.le_of_ble_eq_true rfl) ?_
    refine gx_last Cx hr3.2 eX7_put_36 h (fun M7 h => ?_)
    refine gx_iconst (v := (1 : Int32)) Cx eX7_put_37 (by decide) ?_
    exact gx_rI h rfl eX7_put_38 hR
  · refine gx_iload Cx eX7_put_13 0 rfl ?_
    exact gx_rI h rfl eX7_put_15 hR
set_option maxHeartbeats 4000000 in
set_option maxRecDepth 100000 in
theorem c_X7_redo (κ : gx_K)  {M : gx_Mem} {r9 : Int32} {M9 : gx_Mem} (hf : f_X7_redo M = some (r9, M9)) : gx_CI κ yX7_redo cX7_redo 2 (some .int) 2 [.ref (gx_a κ 56)] M r9 M9 := by
  refine gx_enterI (d := 2) my_X7_redo.1 (by decide) (Nat.le_of_ble_eq_true rfl) (fun Γ Cx hR => ?_)
  change gx_G κ Γ 0 [(0, .ref (gx_a κ 56))] [] M
  have h := hf
  refine gx_aload_n Cx eX7_redo_0 0 rfl ?_
  refine gfX7_47 Cx eX7_redo_1 ?_
  refine gfX7_280 Cx eX7_redo_4 ?_
  refine gx_if_ne (tgt := 13) Cx eX7_redo_7 (by decide) h (fun h => ?_) (fun h => ?_)
  · refine gx_aload_n Cx eX7_redo_13 0 rfl ?_
    refine gfX7_47 Cx eX7_redo_14 ?_
    obtain ⟨y2, M3, h1, h⟩ := gx_bI_of h
    refine gx_callVI (ci := 1) Cx my_X1_stepOn wlX7_283 rfl gx_y35 (by decide) rfl eX7_redo_17 (c_X1_stepOn κ h1) rfl (Nat.le_of_ble_eq_true rfl) ?_
    refine gx_istore_n Cx eX7_redo_20 [(1, .int y2), (0, .ref (gx_a κ 56))] rfl (by decide) ?_
    refine gx_aload_n Cx eX7_redo_21 1 rfl ?_
    refine gfX7_28 Cx eX7_redo_22 ?_
    refine gx_aload_n Cx eX7_redo_25 1 rfl ?_
    refine gfX7_47 Cx eX7_redo_26 ?_
    refine gfX7_271 Cx eX7_redo_29 ?_
    refine gx_iload_n Cx eX7_redo_32 0 rfl ?_
    refine gx_iald Cx gx_y36 eX7_redo_33 h (fun h => ?_)
    refine gx_aload_n Cx eX7_redo_34 1 rfl ?_
    refine gfX7_47 Cx eX7_redo_35 ?_
    refine gfX7_274 Cx eX7_redo_38 ?_
    refine gx_iload_n Cx eX7_redo_41 0 rfl ?_
    refine gx_iald Cx gx_y37 eX7_redo_42 h (fun h => ?_)
    refine gx_aload_n Cx eX7_redo_43 1 rfl ?_
    refine gfX7_47 Cx eX7_redo_44 ?_
    refine gfX7_286 Cx eX7_redo_47 ?_
    refine gx_iload_n Cx eX7_redo_50 0 rfl ?_
    refine gx_iald Cx gx_y39 eX7_redo_51 h (fun h => ?_)
    obtain ⟨M5, h4, h⟩ := gx_bP_of h
    refine gx_callVV (ci := 2) Cx my_X2_told wlX7_108 rfl gx_y9 (by decide) rfl eX7_redo_52 (c_X2_told κ gx_Ho9 h4) rfl (Nat.le_of_ble_eq_true rfl) ?_
    refine gx_aload_n Cx eX7_redo_55 1 rfl ?_
    refine gfX7_47 Cx eX7_redo_56 ?_
    refine gfX7_280 Cx eX7_redo_59 ?_
    exact gx_rI h rfl eX7_redo_62 hR
  · refine gx_bipush (v := (-5 : Int32)) Cx eX7_redo_10 (by decide) ?_
    exact gx_rI h rfl eX7_redo_12 hR
set_option maxHeartbeats 4000000 in
set_option maxRecDepth 100000 in
theorem c_X7_rent (κ : gx_K) {v1 : Int32} {v2 : Int32} {M : gx_Mem} {r9 : Int32} {M9 : gx_Mem} (hf : f_X7_rent v1 v2 M = some (r9, M9)) : gx_CI κ yX7_rent cX7_rent 3 (some .int) 6 [.ref (gx_a κ 56), .int v1, .int v2] M r9 M9 := by
  refine gx_enterI (d := 6) my_X7_rent.1 (by decide) (Nat.le_of_ble_eq_true rfl) (fun Γ Cx hR => ?_)
  change gx_G κ Γ 0 [(0, .ref (gx_a κ 56)), (1, .int v1), (2, .int v2)] [] M
  have h := hf
  refine gx_aload_n Cx eX7_rent_0 0 rfl ?_
  refine gx_iload_n Cx eX7_rent_1 1 rfl ?_
  obtain ⟨y2, h1, h⟩ := gx_bP_of h
  refine gx_callVI (ci := 7) Cx my_X7_isOne wlX7_164 rfl gx_y56 (by decide) rfl eX7_rent_2 (c_X7_isOne κ h1) rfl (Nat.le_of_ble_eq_true rfl) ?_
  refine gx_if_eq (tgt := 31) Cx eX7_rent_5 (by decide) h (fun h => ?_) (fun h => ?_)
  · refine gx_iconst (v := (-1 : Int32)) Cx eX7_rent_31 (by decide) ?_
    exact gx_rI h rfl eX7_rent_32 hR
  · refine gx_iload_n Cx eX7_rent_8 2 rfl ?_
    refine gx_if_lt (tgt := 31) Cx eX7_rent_9 (by decide) h (fun h => ?_) (fun h => ?_)
    · refine gx_iconst (v := (-1 : Int32)) Cx eX7_rent_31 (by decide) ?_
      exact gx_rI h rfl eX7_rent_32 hR
    · refine gx_iload_n Cx eX7_rent_12 2 rfl ?_
      refine gx_sipush (v := (999 : Int32)) Cx eX7_rent_13 (by decide) ?_
      refine gx_icmp_gt (tgt := 31) Cx eX7_rent_16 (by decide) h (fun h => ?_) (fun h => ?_)
      · refine gx_iconst (v := (-1 : Int32)) Cx eX7_rent_31 (by decide) ?_
        exact gx_rI h rfl eX7_rent_32 hR
      · refine gx_aload_n Cx eX7_rent_19 0 rfl ?_
        refine gfX7_40 Cx eX7_rent_20 ?_
        refine gx_iload_n Cx eX7_rent_23 1 rfl ?_
        refine gx_iload_n Cx eX7_rent_24 2 rfl ?_
        obtain ⟨y4, M5, h3, h⟩ := gx_bI_of h
        refine gx_callVI (ci := 4) Cx my_X4_share wlX7_210 rfl gx_y30 (by decide) rfl eX7_rent_25 (c_X4_share κ h3) rfl (Nat.le_of_ble_eq_true rfl) ?_
        refine gx_goto (tgt := 32) Cx eX7_rent_28 (by decide) ?_
        exact gx_rI h rfl eX7_rent_32 hR
set_option maxHeartbeats 4000000 in
set_option maxRecDepth 100000 in
theorem c_X7_row (κ : gx_K) {v1 : Int32} {v2 : Int32} {v3 : Int32} {M : gx_Mem} {r9 : Int32} {M9 : gx_Mem} (hf : f_X7_row v1 v2 v3 M = some (r9, M9)) : gx_CI κ yX7_row cX7_row 4 (some .int) 1 [.ref (gx_a κ 56), .int v1, .int v2, .int v3] M r9 M9 := by
  refine gx_enterI (d := 1) my_X7_row.1 (by decide) (Nat.le_of_ble_eq_true rfl) (fun Γ Cx hR => ?_)
  change gx_G κ Γ 0 [(0, .ref (gx_a κ 56)), (1, .int v1), (2, .int v2), (3, .int v3)] [] M
  have h := hf
  refine gx_iload_n Cx eX7_row_0 1 rfl ?_
  obtain ⟨y2, h1, h⟩ := gx_bP_of h
  refine gx_callSI Cx my_X7_isShelf wlX7_81 (by decide) rfl eX7_row_1 (c_X7_isShelf κ h1) rfl (Nat.le_of_ble_eq_true rfl) ?_
  refine gx_if_eq (tgt := 22) Cx eX7_row_4 (by decide) h (fun h => ?_) (fun h => ?_)
  · refine gx_iconst (v := (-1 : Int32)) Cx eX7_row_22 (by decide) ?_
    exact gx_rI h rfl eX7_row_23 hR
  · refine gx_iload_n Cx eX7_row_7 2 rfl ?_
    refine gx_if_lt (tgt := 22) Cx eX7_row_8 (by decide) h (fun h => ?_) (fun h => ?_)
    · refine gx_iconst (v := (-1 : Int32)) Cx eX7_row_22 (by decide) ?_
      exact gx_rI h rfl eX7_row_23 hR
    · refine gx_iload_n Cx eX7_row_11 2 rfl ?_
      refine gx_iconst (v := (5 : Int32)) Cx eX7_row_12 (by decide) ?_
      refine gx_icmp_ge (tgt := 22) Cx eX7_row_13 (by decide) h (fun h => ?_) (fun h => ?_)
      · refine gx_iconst (v := (-1 : Int32)) Cx eX7_row_22 (by decide) ?_
        exact gx_rI h rfl eX7_row_23 hR
      · refine gx_iload_n Cx eX7_row_16 3 rfl ?_
        refine gx_bipush (v := (60 : Int32)) Cx eX7_row_17 (by decide) ?_
        refine gx_icmp_le (tgt := 24) Cx eX7_row_19 (by decide) h (fun h => ?_) (fun h => ?_)
        · refine gx_iload_n Cx eX7_row_24 3 rfl ?_
          refine gx_if_ge (tgt := 31) Cx eX7_row_25 (by decide) h (fun h => ?_) (fun h => ?_)
          · refine gx_aload_n Cx eX7_row_31 0 rfl ?_
            refine gfX7_60 Cx eX7_row_32 ?_
            refine gx_iload_n Cx eX7_row_35 1 rfl ?_
            refine gx_aaldS Cx eX7_row_36 h (fun r3 hr3 h => ?_)
            refine gx_iload_n Cx eX7_row_37 2 rfl ?_
            refine gx_iload_n Cx eX7_row_38 3 rfl ?_
            obtain ⟨M5, h4, h⟩ := gx_bP_of h
            refine gx_callVV (ci := 5) Cx my_X5_holdRow wlX7_313 rfl hr3.1 (by decide) rfl eX7_row_39 (c_X5_holdRow κ hr3 h4) rfl (Nat.le_of_ble_eq_true rfl) ?_
            refine gx_iconst (v := (1 : Int32)) Cx eX7_row_42 (by decide) ?_
            exact gx_rI h rfl eX7_row_43 hR
          · refine gx_bipush (v := (-14 : Int32)) Cx eX7_row_28 (by decide) ?_
            exact gx_rI h rfl eX7_row_30 hR
        · refine gx_iconst (v := (-1 : Int32)) Cx eX7_row_22 (by decide) ?_
          exact gx_rI h rfl eX7_row_23 hR
set_option maxHeartbeats 4000000 in
set_option maxRecDepth 100000 in
theorem c_X7_shift (κ : gx_K) {v1 : Int32} {v2 : Int32} {v3 : Int32} {v4 : Int32} {v5 : Int32} {M : gx_Mem} {r9 : Int32} {M9 : gx_Mem} (hf : f_X7_shift v1 v2 v3 v4 v5 M = some (r9, M9)) : gx_CI κ yX7_shift cX7_shift 8 (some .int) 1 [.ref (gx_a κ 56), .int v1, .int v2, .int v3, .int v4, .int v5] M r9 M9 := by
  refine gx_enterI (d := 1) my_X7_shift.1 (by decide) (Nat.le_of_ble_eq_true rfl) (fun Γ Cx hR => ?_)
  change gx_G κ Γ 0 [(0, .ref (gx_a κ 56)), (1, .int v1), (2, .int v2), (3, .int v3), (4, .int v4), (5, .int v5)] [] M
  have h := hf
  refine gx_iload_n Cx eX7_shift_0 1 rfl ?_
  obtain ⟨y2, h1, h⟩ := gx_bP_of h
  refine gx_callSI Cx my_X7_isShelf wlX7_81 (by decide) rfl eX7_shift_1 (c_X7_isShelf κ h1) rfl (Nat.le_of_ble_eq_true rfl) ?_
  refine gx_if_eq (tgt := 14) Cx eX7_shift_4 (by decide) h (fun h => ?_) (fun h => ?_)
  · refine gx_iconst (v := (-1 : Int32)) Cx eX7_shift_14 (by decide) ?_
    exact gx_rI h rfl eX7_shift_15 hR
  · refine gx_iload_n Cx eX7_shift_7 3 rfl ?_
    obtain ⟨y4, h3, h⟩ := gx_bP_of h
    refine gx_callSI Cx my_X7_isShelf wlX7_81 (by decide) rfl eX7_shift_8 (c_X7_isShelf κ h3) rfl (Nat.le_of_ble_eq_true rfl) ?_
    refine gx_if_ne (tgt := 16) Cx eX7_shift_11 (by decide) h (fun h => ?_) (fun h => ?_)
    · refine gx_aload_n Cx eX7_shift_16 0 rfl ?_
      refine gfX7_60 Cx eX7_shift_17 ?_
      refine gx_iload_n Cx eX7_shift_20 1 rfl ?_
      refine gx_aaldS Cx eX7_shift_21 h (fun r5 hr5 h => ?_)
      refine gx_astore Cx eX7_shift_22 [(6, .ref (gx_a κ r5)), (0, .ref (gx_a κ 56)), (1, .int v1), (2, .int v2), (3, .int v3), (4, .int v4), (5, .int v5)] rfl (by decide) ?_
      refine gx_aload_n Cx eX7_shift_24 1 rfl ?_
      refine gfX7_60 Cx eX7_shift_25 ?_
      refine gx_iload_n Cx eX7_shift_28 4 rfl ?_
      refine gx_aaldS Cx eX7_shift_29 h (fun r6 hr6 h => ?_)
      refine gx_astore Cx eX7_shift_30 [(7, .ref (gx_a κ r6)), (6, .ref (gx_a κ r5)), (0, .ref (gx_a κ 56)), (1, .int v1), (2, .int v2), (3, .int v3), (4, .int v4), (5, .int v5)] rfl (by decide) ?_
      refine gx_aload Cx eX7_shift_32 1 rfl ?_
      obtain ⟨y8, h7, h⟩ := gx_bP_of h
      refine gx_callVI (ci := 5) Cx my_X5_isEmpty wlX7_324 rfl hr5.1 (by decide) rfl eX7_shift_34 (c_X5_isEmpty κ hr5 h7) rfl (Nat.le_of_ble_eq_true rfl) ?_
      refine gx_if_ne (tgt := 48) Cx eX7_shift_37 (by decide) h (fun h => ?_) (fun h => ?_)
      · refine gx_bipush (v := (-11 : Int32)) Cx eX7_shift_48 (by decide) ?_
        exact gx_rI h rfl eX7_shift_50 hR
      · refine gx_aload Cx eX7_shift_40 0 rfl ?_
        obtain ⟨y10, h9, h⟩ := gx_bP_of h
        refine gx_callVI (ci := 5) Cx my_X5_isEmpty wlX7_324 rfl hr6.1 (by decide) rfl eX7_shift_42 (c_X5_isEmpty κ hr6 h9) rfl (Nat.le_of_ble_eq_true rfl) ?_
        refine gx_if_eq (tgt := 51) Cx eX7_shift_45 (by decide) h (fun h => ?_) (fun h => ?_)
        · refine gx_aload Cx eX7_shift_51 1 rfl ?_
          refine gfX7_88 Cx hr5.1 eX7_shift_53 ?_
          refine gx_if_lt (tgt := 72) Cx eX7_shift_56 (by decide) h (fun h => ?_) (fun h => ?_)
          · refine gx_bipush (v := (-12 : Int32)) Cx eX7_shift_72 (by decide) ?_
            exact gx_rI h rfl eX7_shift_74 hR
          · refine gx_aload Cx eX7_shift_59 1 rfl ?_
            refine gfX7_88 Cx hr5.1 eX7_shift_61 ?_
            refine gx_aload Cx eX7_shift_64 0 rfl ?_
            refine gfX7_88 Cx hr6.1 eX7_shift_66 ?_
            refine gx_icmp_eq (tgt := 75) Cx eX7_shift_69 (by decide) h (fun h => ?_) (fun h => ?_)
            · refine gx_iload Cx eX7_shift_75 7 rfl ?_
              refine gx_if_lt (tgt := 103) Cx eX7_shift_77 (by decide) h (fun h => ?_) (fun h => ?_)
              · refine gx_bipush (v := (-13 : Int32)) Cx eX7_shift_103 (by decide) ?_
                exact gx_rI h rfl eX7_shift_105 hR
              · refine gx_aload Cx eX7_shift_80 1 rfl ?_
                refine gx_iload_n Cx eX7_shift_82 4 rfl ?_
                refine gx_iload Cx eX7_shift_83 7 rfl ?_
                obtain ⟨y12, h11, h⟩ := gx_bP_of h
                refine gx_callVI (ci := 5) Cx my_X5_spans wlX7_327 rfl hr5.1 (by decide) rfl eX7_shift_85 (c_X5_spans κ hr5 h11) rfl (Nat.le_of_ble_eq_true rfl) ?_
                refine gx_if_eq (tgt := 103) Cx eX7_shift_88 (by decide) h (fun h => ?_) (fun h => ?_)
                · refine gx_bipush (v := (-13 : Int32)) Cx eX7_shift_103 (by decide) ?_
                  exact gx_rI h rfl eX7_shift_105 hR
                · refine gx_aload Cx eX7_shift_91 0 rfl ?_
                  refine gx_iload Cx eX7_shift_93 6 rfl ?_
                  refine gx_iload Cx eX7_shift_95 7 rfl ?_
                  obtain ⟨y14, h13, h⟩ := gx_bP_of h
                  refine gx_callVI (ci := 5) Cx my_X5_spans wlX7_327 rfl hr6.1 (by decide) rfl eX7_shift_97 (c_X5_spans κ hr6 h13) rfl (Nat.le_of_ble_eq_true rfl) ?_
                  refine gx_if_ne (tgt := 106) Cx eX7_shift_100 (by decide) h (fun h => ?_) (fun h => ?_)
                  · refine gx_aload Cx eX7_shift_106 1 rfl ?_
                    refine gfX7_94 Cx hr5.1 eX7_shift_108 ?_
                    refine gx_iload_n Cx eX7_shift_111 4 rfl ?_
                    refine gx_aload Cx eX7_shift_112 0 rfl ?_
                    refine gfX7_94 Cx hr6.1 eX7_shift_114 ?_
                    refine gx_iload Cx eX7_shift_117 6 rfl ?_
                    refine gx_iload Cx eX7_shift_119 7 rfl ?_
                    refine gx_copyJ Cx wlX7_330 hr5.2 hr6.2 (Nat.le_of_ble_eq_true rfl) (Nat.le_of_ble_eq_true rfl) eX7_shift_121 h (fun M15 h => ?_)
                    refine gx_iload Cx eX7_shift_124 7 rfl ?_
                    exact gx_rI h rfl eX7_shift_126 hR
                  · refine gx_bipush (v := (-13 : Int32)) Cx eX7_shift_103 (by decide) ?_
                    exact gx_rI h rfl eX7_shift_105 hR
            · refine gx_bipush (v := (-12 : Int32)) Cx eX7_shift_72 (by decide) ?_
              exact gx_rI h rfl eX7_shift_74 hR
        · refine gx_bipush (v := (-11 : Int32)) Cx eX7_shift_48 (by decide) ?_
          exact gx_rI h rfl eX7_shift_50 hR
    · refine gx_iconst (v := (-1 : Int32)) Cx eX7_shift_14 (by decide) ?_
      exact gx_rI h rfl eX7_shift_15 hR
set_option maxHeartbeats 4000000 in
set_option maxRecDepth 100000 in
theorem c_X7_swap (κ : gx_K) {v1 : Int32} {M : gx_Mem} {r9 : Int32} {M9 : gx_Mem} (hf : f_X7_swap v1 M = some (r9, M9)) : gx_CI κ yX7_swap cX7_swap 2 (some .int) 7 [.ref (gx_a κ 56), .int v1] M r9 M9 := by
  refine gx_enterI (d := 7) my_X7_swap.1 (by decide) (Nat.le_of_ble_eq_true rfl) (fun Γ Cx hR => ?_)
  change gx_G κ Γ 0 [(0, .ref (gx_a κ 56)), (1, .int v1)] [] M
  have h := hf
  refine gx_aload_n Cx eX7_swap_0 0 rfl ?_
  refine gx_iload_n Cx eX7_swap_1 1 rfl ?_
  obtain ⟨y2, h1, h⟩ := gx_bP_of h
  refine gx_callVI (ci := 7) Cx my_X7_isOne wlX7_164 rfl gx_y56 (by decide) rfl eX7_swap_2 (c_X7_isOne κ h1) rfl (Nat.le_of_ble_eq_true rfl) ?_
  refine gx_if_eq (tgt := 19) Cx eX7_swap_5 (by decide) h (fun h => ?_) (fun h => ?_)
  · refine gx_iconst (v := (-1 : Int32)) Cx eX7_swap_19 (by decide) ?_
    exact gx_rI h rfl eX7_swap_20 hR
  · refine gx_aload_n Cx eX7_swap_8 0 rfl ?_
    refine gfX7_40 Cx eX7_swap_9 ?_
    refine gx_iload_n Cx eX7_swap_12 1 rfl ?_
    obtain ⟨y4, M5, h3, h⟩ := gx_bI_of h
    refine gx_callVI (ci := 4) Cx my_X4_partner wlX7_213 rfl gx_y30 (by decide) rfl eX7_swap_13 (c_X4_partner κ h3) rfl (Nat.le_of_ble_eq_true rfl) ?_
    refine gx_goto (tgt := 20) Cx eX7_swap_16 (by decide) ?_
    exact gx_rI h rfl eX7_swap_20 hR
set_option maxHeartbeats 4000000 in
set_option maxRecDepth 100000 in
theorem c_X7_taken (κ : gx_K) {v1 : Int32} {v2 : Int32} {M : gx_Mem} {r9 : Int32} (hf : f_X7_taken v1 v2 M = some r9) : gx_CI κ yX7_taken cX7_taken 5 (some .int) 1 [.ref (gx_a κ 56), .int v1, .int v2] M r9 M := by
  refine gx_enterI (d := 1) my_X7_taken.1 (by decide) (Nat.le_of_ble_eq_true rfl) (fun Γ Cx hR => ?_)
  change gx_G κ Γ 0 [(0, .ref (gx_a κ 56)), (1, .int v1), (2, .int v2)] [] M
  have h := hf
  refine gx_iload_n Cx eX7_taken_0 1 rfl ?_
  obtain ⟨y2, h1, h⟩ := gx_bP_of h
  refine gx_callSI Cx my_X7_isShelf wlX7_81 (by decide) rfl eX7_taken_1 (c_X7_isShelf κ h1) rfl (Nat.le_of_ble_eq_true rfl) ?_
  refine gx_if_eq (tgt := 14) Cx eX7_taken_4 (by decide) h (fun h => ?_) (fun h => ?_)
  · refine gx_iconst (v := (-1 : Int32)) Cx eX7_taken_14 (by decide) ?_
    exact gx_rIp h rfl eX7_taken_15 hR
  · refine gx_iload_n Cx eX7_taken_7 2 rfl ?_
    obtain ⟨y4, h3, h⟩ := gx_bP_of h
    refine gx_callSI Cx my_X7_isKind wlX7_289 (by decide) rfl eX7_taken_8 (c_X7_isKind κ h3) rfl (Nat.le_of_ble_eq_true rfl) ?_
    refine gx_if_ne (tgt := 16) Cx eX7_taken_11 (by decide) h (fun h => ?_) (fun h => ?_)
    · refine gx_aload_n Cx eX7_taken_16 0 rfl ?_
      refine gfX7_60 Cx eX7_taken_17 ?_
      refine gx_iload_n Cx eX7_taken_20 1 rfl ?_
      refine gx_aaldS Cx eX7_taken_21 h (fun r5 hr5 h => ?_)
      refine gx_astore_n Cx eX7_taken_22 [(3, .ref (gx_a κ r5)), (0, .ref (gx_a κ 56)), (1, .int v1), (2, .int v2)] rfl (by decide) ?_
      refine gx_aload_n Cx eX7_taken_23 0 rfl ?_
      obtain ⟨y7, h6, h⟩ := gx_bP_of h
      refine gx_callVI (ci := 5) Cx my_X5_isEmpty wlX7_324 rfl hr5.1 (by decide) rfl eX7_taken_24 (c_X5_isEmpty κ hr5 h6) rfl (Nat.le_of_ble_eq_true rfl) ?_
      refine gx_if_eq (tgt := 33) Cx eX7_taken_27 (by decide) h (fun h => ?_) (fun h => ?_)
      · refine gx_aload_n Cx eX7_taken_33 1 rfl ?_
        refine gx_aload_n Cx eX7_taken_34 0 rfl ?_
        refine gfX7_85 Cx hr5.1 eX7_taken_35 ?_
        obtain ⟨y9, h8, h⟩ := gx_bP_of h
        refine gx_callVI (ci := 7) Cx my_X7_isBody wlX7_297 rfl gx_y56 (by decide) rfl eX7_taken_38 (c_X7_isBody κ h8) rfl (Nat.le_of_ble_eq_true rfl) ?_
        refine gx_if_ne (tgt := 47) Cx eX7_taken_41 (by decide) h (fun h => ?_) (fun h => ?_)
        · refine gx_aload_n Cx eX7_taken_47 1 rfl ?_
          refine gfX7_54 Cx eX7_taken_48 ?_
          refine gfX7_336 Cx eX7_taken_51 ?_
          refine gx_aload_n Cx eX7_taken_54 0 rfl ?_
          refine gfX7_85 Cx hr5.1 eX7_taken_55 ?_
          refine gx_iald Cx gx_y41 eX7_taken_58 h (fun h => ?_)
          refine gx_nmI h (fun x10 h => ?_)
          refine gx_istore Cx eX7_taken_59 [(4, .int x10), (3, .ref (gx_a κ r5)), (0, .ref (gx_a κ 56)), (1, .int v1), (2, .int v2)] rfl (by decide) ?_
          refine gx_iload Cx eX7_taken_61 0 rfl ?_
          refine gx_iload_n Cx eX7_taken_63 4 rfl ?_
          obtain ⟨y12, h11, h⟩ := gx_bP_of h
          refine gx_callSI Cx my_X0_isUnder wlX7_339 (by decide) rfl eX7_taken_64 (c_X0_isUnder κ h11) rfl (Nat.le_of_ble_eq_true rfl) ?_
          refine gx_if_eq (tgt := 75) Cx eX7_taken_67 (by decide) h (fun h => ?_) (fun h => ?_)
          · refine gx_bipush (v := (-12 : Int32)) Cx eX7_taken_75 (by decide) ?_
            exact gx_rIp h rfl eX7_taken_77 hR
          · refine gx_iload Cx eX7_taken_70 0 rfl ?_
            refine gx_goto (tgt := 77) Cx eX7_taken_72 (by decide) ?_
            exact gx_rIp h rfl eX7_taken_77 hR
        · refine gx_bipush (v := (-12 : Int32)) Cx eX7_taken_44 (by decide) ?_
          exact gx_rIp h rfl eX7_taken_46 hR
      · refine gx_bipush (v := (-11 : Int32)) Cx eX7_taken_30 (by decide) ?_
        exact gx_rIp h rfl eX7_taken_32 hR
    · refine gx_iconst (v := (-1 : Int32)) Cx eX7_taken_14 (by decide) ?_
      exact gx_rIp h rfl eX7_taken_15 hR
set_option maxHeartbeats 4000000 in
set_option maxRecDepth 100000 in
theorem c_X7_thought (κ : gx_K) {v1 : Int32} {v2 : Int32} {v3 : Int32} {v4 : Int32} {M : gx_Mem} {r9 : Int32} {M9 : gx_Mem} (hf : f_X7_thought v1 v2 v3 v4 M = some (r9, M9)) : gx_CI κ yX7_thought cX7_thought 6 (some .int) 7 [.ref (gx_a κ 56), .int v1, .int v2, .int v3, .int v4] M r9 M9 := by
  refine gx_enterI (d := 7) my_X7_thought.1 (by decide) (Nat.le_of_ble_eq_true rfl) (fun Γ Cx hR => ?_)
  change gx_G κ Γ 0 [(0, .ref (gx_a κ 56)), (1, .int v1), (2, .int v2), (3, .int v3), (4, .int v4)] [] M
  have B87 : ∀ (s1 : Nat) (hs1 : gx_lay[s1]? = some (.inr (1, 60, []))) (s2 : Int32) (s3 : Int32) (s4 : Int32) (M : gx_Mem), f_X7_thought_b87 s1 s2 s3 s4 M = some (r9, M9) → gx_G κ Γ 87 [] [.int s4, .int s3, .int s2, .ref (gx_a κ s1), .ref (gx_a κ 30)] M := by
    intro s1 hs1 s2 s3 s4 M h
    obtain ⟨y14, M15, h13, h⟩ := gx_bI_of h
    refine gx_callVI (ci := 4) Cx my_X4_amounts wlX7_206 rfl gx_y30 (by decide) rfl eX7_thought_87 (c_X4_amounts κ hs1 h13) rfl (Nat.le_of_ble_eq_true rfl) ?_
    exact gx_rI h rfl eX7_thought_90 hR
  have h := hf
  refine gx_iload_n Cx eX7_thought_0 1 rfl ?_
  obtain ⟨y2, h1, h⟩ := gx_bP_of h
  refine gx_callSI Cx my_X7_isShelf wlX7_81 (by decide) rfl eX7_thought_1 (c_X7_isShelf κ h1) rfl (Nat.le_of_ble_eq_true rfl) ?_
  refine gx_if_eq (tgt := 30) Cx eX7_thought_4 (by decide) h (fun h => ?_) (fun h => ?_)
  · refine gx_iconst (v := (-1 : Int32)) Cx eX7_thought_30 (by decide) ?_
    exact gx_rI h rfl eX7_thought_31 hR
  · refine gx_iload_n Cx eX7_thought_7 2 rfl ?_
    obtain ⟨y4, h3, h⟩ := gx_bP_of h
    refine gx_callSI Cx my_X7_isHour wlX7_131 (by decide) rfl eX7_thought_8 (c_X7_isHour κ h3) rfl (Nat.le_of_ble_eq_true rfl) ?_
    refine gx_if_eq (tgt := 30) Cx eX7_thought_11 (by decide) h (fun h => ?_) (fun h => ?_)
    · refine gx_iconst (v := (-1 : Int32)) Cx eX7_thought_30 (by decide) ?_
      exact gx_rI h rfl eX7_thought_31 hR
    · refine gx_aload_n Cx eX7_thought_14 0 rfl ?_
      refine gx_iload_n Cx eX7_thought_15 3 rfl ?_
      obtain ⟨y6, h5, h⟩ := gx_bP_of h
      refine gx_callVI (ci := 7) Cx my_X7_isPm wlX7_157 rfl gx_y56 (by decide) rfl eX7_thought_16 (c_X7_isPm κ h5) rfl (Nat.le_of_ble_eq_true rfl) ?_
      refine gx_if_eq (tgt := 30) Cx eX7_thought_19 (by decide) h (fun h => ?_) (fun h => ?_)
      · refine gx_iconst (v := (-1 : Int32)) Cx eX7_thought_30 (by decide) ?_
        exact gx_rI h rfl eX7_thought_31 hR
      · refine gx_iload Cx eX7_thought_22 4 rfl ?_
        obtain ⟨y8, h7, h⟩ := gx_bP_of h
        refine gx_callSI Cx my_X7_isChoice wlX7_140 (by decide) rfl eX7_thought_24 (c_X7_isChoice κ h7) rfl (Nat.le_of_ble_eq_true rfl) ?_
        refine gx_if_ne (tgt := 32) Cx eX7_thought_27 (by decide) h (fun h => ?_) (fun h => ?_)
        · refine gx_aload_n Cx eX7_thought_32 0 rfl ?_
          refine gfX7_60 Cx eX7_thought_33 ?_
          refine gx_iload_n Cx eX7_thought_36 1 rfl ?_
          refine gx_aaldS Cx eX7_thought_37 h (fun r9 hr9 h => ?_)
          obtain ⟨y11, h10, h⟩ := gx_bP_of h
          refine gx_callSI Cx my_X7_basinRefusal wlX7_198 (by decide) rfl eX7_thought_38 (c_X7_basinRefusal κ hr9 h10) rfl (Nat.le_of_ble_eq_true rfl) ?_
          refine gx_istore Cx eX7_thought_41 [(5, .int y11), (0, .ref (gx_a κ 56)), (1, .int v1), (2, .int v2), (3, .int v3), (4, .int v4)] rfl (by decide) ?_
          refine gx_iload Cx eX7_thought_43 0 rfl ?_
          refine gx_if_eq (tgt := 51) Cx eX7_thought_45 (by decide) h (fun h => ?_) (fun h => ?_)
          · refine gx_aload_n Cx eX7_thought_51 1 rfl ?_
            refine gfX7_40 Cx eX7_thought_52 ?_
            refine gx_aload_n Cx eX7_thought_55 1 rfl ?_
            refine gfX7_60 Cx eX7_thought_56 ?_
            refine gx_iload_n Cx eX7_thought_59 2 rfl ?_
            refine gx_aaldS Cx eX7_thought_60 h (fun r12 hr12 h => ?_)
            refine gfX7_94 Cx hr12.1 eX7_thought_61 ?_
            refine gx_iload_n Cx eX7_thought_64 3 rfl ?_
            refine gx_iconst (v := (4 : Int32)) Cx eX7_thought_65 (by decide) ?_
            refine gx_iload_n Cx eX7_thought_66 4 rfl ?_
            refine gx_bipush (v := (10 : Int32)) Cx eX7_thought_67 (by decide) ?_
            refine gx_idivC Cx eX7_thought_69 (by decide) ?_
            refine gx_imul Cx eX7_thought_70 ?_
            refine gx_iload_n Cx eX7_thought_71 4 rfl ?_
            refine gx_bipush (v := (10 : Int32)) Cx eX7_thought_72 (by decide) ?_
            refine gx_iremC Cx eX7_thought_74 (by decide) ?_
            refine gx_iadd Cx eX7_thought_75 ?_
            refine gx_iload Cx eX7_thought_76 5 rfl ?_
            refine gx_iconst (v := (1 : Int32)) Cx eX7_thought_78 (by decide) ?_
            refine gx_icmp_ne (tgt := 86) Cx eX7_thought_79 (by decide) h (fun h => ?_) (fun h => ?_)
            · refine gx_iconst (v := (0 : Int32)) Cx eX7_thought_86 (by decide) ?_
              refine gx_sub [] rfl ?_
              exact B87 _ hr12.2 _ _ _ _ h
            · refine gx_iconst (v := (1 : Int32)) Cx eX7_thought_82 (by decide) ?_
              refine gx_goto (tgt := 87) Cx eX7_thought_83 (by decide) ?_
              refine gx_sub [] rfl ?_
              exact B87 _ hr12.2 _ _ _ _ h
          · refine gx_iload Cx eX7_thought_48 0 rfl ?_
            exact gx_rI h rfl eX7_thought_50 hR
        · refine gx_iconst (v := (-1 : Int32)) Cx eX7_thought_30 (by decide) ?_
          exact gx_rI h rfl eX7_thought_31 hR
set_option maxHeartbeats 4000000 in
set_option maxRecDepth 100000 in
theorem c_X7_trace (κ : gx_K) {v1 : Int32} {M : gx_Mem} {r9 : Int32} (hf : f_X7_trace v1 M = some r9) : gx_CI κ yX7_trace cX7_trace 2 (some .int) 0 [.ref (gx_a κ 56), .int v1] M r9 M := by
  refine gx_enterI (d := 0) my_X7_trace.1 (by decide) (Nat.le_of_ble_eq_true rfl) (fun Γ Cx hR => ?_)
  change gx_G κ Γ 0 [(0, .ref (gx_a κ 56)), (1, .int v1)] [] M
  have h := hf
  refine gx_iload_n Cx eX7_trace_0 1 rfl ?_
  refine gx_if_lt (tgt := 33) Cx eX7_trace_1 (by decide) h (fun h => ?_) (fun h => ?_)
  · refine gx_iconst (v := (-1 : Int32)) Cx eX7_trace_33 (by decide) ?_
    exact gx_rIp h rfl eX7_trace_34 hR
  · refine gx_iload_n Cx eX7_trace_4 1 rfl ?_
    refine gx_aload_n Cx eX7_trace_5 0 rfl ?_
    refine gfX7_54 Cx eX7_trace_6 ?_
    refine gfX7_300 Cx eX7_trace_9 ?_
    refine gx_icmp_ge (tgt := 33) Cx eX7_trace_12 (by decide) h (fun h => ?_) (fun h => ?_)
    · refine gx_iconst (v := (-1 : Int32)) Cx eX7_trace_33 (by decide) ?_
      exact gx_rIp h rfl eX7_trace_34 hR
    · refine gx_iload_n Cx eX7_trace_15 1 rfl ?_
      refine gx_bipush (v := (24 : Int32)) Cx eX7_trace_16 (by decide) ?_
      refine gx_icmp_ge (tgt := 33) Cx eX7_trace_18 (by decide) h (fun h => ?_) (fun h => ?_)
      · refine gx_iconst (v := (-1 : Int32)) Cx eX7_trace_33 (by decide) ?_
        exact gx_rIp h rfl eX7_trace_34 hR
      · refine gx_aload_n Cx eX7_trace_21 0 rfl ?_
        refine gfX7_54 Cx eX7_trace_22 ?_
        refine gfX7_306 Cx eX7_trace_25 ?_
        refine gx_iload_n Cx eX7_trace_28 1 rfl ?_
        refine gx_iald Cx gx_y42 eX7_trace_29 h (fun h => ?_)
        refine gx_goto (tgt := 34) Cx eX7_trace_30 (by decide) ?_
        exact gx_rIp h rfl eX7_trace_34 hR
set_option maxHeartbeats 4000000 in
set_option maxRecDepth 100000 in
theorem c_X7_undo (κ : gx_K)  {M : gx_Mem} {r9 : Int32} {M9 : gx_Mem} (hf : f_X7_undo M = some (r9, M9)) : gx_CI κ yX7_undo cX7_undo 2 (some .int) 2 [.ref (gx_a κ 56)] M r9 M9 := by
  refine gx_enterI (d := 2) my_X7_undo.1 (by decide) (Nat.le_of_ble_eq_true rfl) (fun Γ Cx hR => ?_)
  change gx_G κ Γ 0 [(0, .ref (gx_a κ 56))] [] M
  have h := hf
  refine gx_aload_n Cx eX7_undo_0 0 rfl ?_
  refine gfX7_47 Cx eX7_undo_1 ?_
  refine gfX7_264 Cx eX7_undo_4 ?_
  refine gx_if_ne (tgt := 13) Cx eX7_undo_7 (by decide) h (fun h => ?_) (fun h => ?_)
  · refine gx_aload_n Cx eX7_undo_13 0 rfl ?_
    refine gfX7_47 Cx eX7_undo_14 ?_
    obtain ⟨y2, M3, h1, h⟩ := gx_bI_of h
    refine gx_callVI (ci := 1) Cx my_X1_stepBack wlX7_267 rfl gx_y35 (by decide) rfl eX7_undo_17 (c_X1_stepBack κ h1) rfl (Nat.le_of_ble_eq_true rfl) ?_
    refine gx_istore_n Cx eX7_undo_20 [(1, .int y2), (0, .ref (gx_a κ 56))] rfl (by decide) ?_
    refine gx_aload_n Cx eX7_undo_21 1 rfl ?_
    refine gfX7_28 Cx eX7_undo_22 ?_
    refine gx_aload_n Cx eX7_undo_25 1 rfl ?_
    refine gfX7_47 Cx eX7_undo_26 ?_
    refine gfX7_271 Cx eX7_undo_29 ?_
    refine gx_iload_n Cx eX7_undo_32 0 rfl ?_
    refine gx_iald Cx gx_y36 eX7_undo_33 h (fun h => ?_)
    refine gx_aload_n Cx eX7_undo_34 1 rfl ?_
    refine gfX7_47 Cx eX7_undo_35 ?_
    refine gfX7_274 Cx eX7_undo_38 ?_
    refine gx_iload_n Cx eX7_undo_41 0 rfl ?_
    refine gx_iald Cx gx_y37 eX7_undo_42 h (fun h => ?_)
    refine gx_aload_n Cx eX7_undo_43 1 rfl ?_
    refine gfX7_47 Cx eX7_undo_44 ?_
    refine gfX7_277 Cx eX7_undo_47 ?_
    refine gx_iload_n Cx eX7_undo_50 0 rfl ?_
    refine gx_iald Cx gx_y38 eX7_undo_51 h (fun h => ?_)
    obtain ⟨M5, h4, h⟩ := gx_bP_of h
    refine gx_callVV (ci := 2) Cx my_X2_told wlX7_108 rfl gx_y9 (by decide) rfl eX7_undo_52 (c_X2_told κ gx_Ho9 h4) rfl (Nat.le_of_ble_eq_true rfl) ?_
    refine gx_aload_n Cx eX7_undo_55 1 rfl ?_
    refine gfX7_47 Cx eX7_undo_56 ?_
    refine gfX7_264 Cx eX7_undo_59 ?_
    exact gx_rI h rfl eX7_undo_62 hR
  · refine gx_bipush (v := (-5 : Int32)) Cx eX7_undo_10 (by decide) ?_
    exact gx_rI h rfl eX7_undo_12 hR
set_option maxHeartbeats 4000000 in
set_option maxRecDepth 100000 in
theorem c_X7_wet (κ : gx_K) {v1 : Int32} {v2 : Int32} {M : gx_Mem} {r9 : Int32} {M9 : gx_Mem} (hf : f_X7_wet v1 v2 M = some (r9, M9)) : gx_CI κ yX7_wet cX7_wet 3 (some .int) 6 [.ref (gx_a κ 56), .int v1, .int v2] M r9 M9 := by
  refine gx_enterI (d := 6) my_X7_wet.1 (by decide) (Nat.le_of_ble_eq_true rfl) (fun Γ Cx hR => ?_)
  change gx_G κ Γ 0 [(0, .ref (gx_a κ 56)), (1, .int v1), (2, .int v2)] [] M
  have h := hf
  refine gx_iload_n Cx eX7_wet_0 1 rfl ?_
  obtain ⟨y2, h1, h⟩ := gx_bP_of h
  refine gx_callSI Cx my_X7_isSpan wlX7_154 (by decide) rfl eX7_wet_1 (c_X7_isSpan κ h1) rfl (Nat.le_of_ble_eq_true rfl) ?_
  refine gx_if_eq (tgt := 34) Cx eX7_wet_4 (by decide) h (fun h => ?_) (fun h => ?_)
  · refine gx_iconst (v := (-1 : Int32)) Cx eX7_wet_34 (by decide) ?_
    exact gx_rI h rfl eX7_wet_35 hR
  · refine gx_aload_n Cx eX7_wet_7 0 rfl ?_
    refine gx_iload_n Cx eX7_wet_8 2 rfl ?_
    obtain ⟨y4, h3, h⟩ := gx_bP_of h
    refine gx_callVI (ci := 7) Cx my_X7_isPm wlX7_157 rfl gx_y56 (by decide) rfl eX7_wet_9 (c_X7_isPm κ h3) rfl (Nat.le_of_ble_eq_true rfl) ?_
    refine gx_if_eq (tgt := 34) Cx eX7_wet_12 (by decide) h (fun h => ?_) (fun h => ?_)
    · refine gx_iconst (v := (-1 : Int32)) Cx eX7_wet_34 (by decide) ?_
      exact gx_rI h rfl eX7_wet_35 hR
    · refine gx_aload_n Cx eX7_wet_15 0 rfl ?_
      refine gfX7_40 Cx eX7_wet_16 ?_
      refine gx_iload_n Cx eX7_wet_19 1 rfl ?_
      refine gx_iload_n Cx eX7_wet_20 2 rfl ?_
      refine gx_bipush (v := (10 : Int32)) Cx eX7_wet_21 (by decide) ?_
      refine gx_idivC Cx eX7_wet_23 (by decide) ?_
      refine gx_iload_n Cx eX7_wet_24 2 rfl ?_
      refine gx_bipush (v := (10 : Int32)) Cx eX7_wet_25 (by decide) ?_
      refine gx_iremC Cx eX7_wet_27 (by decide) ?_
      obtain ⟨y6, M7, h5, h⟩ := gx_bI_of h
      refine gx_callVI (ci := 4) Cx my_X4_wetBehind wlX7_160 rfl gx_y30 (by decide) rfl eX7_wet_28 (c_X4_wetBehind κ h5) rfl (Nat.le_of_ble_eq_true rfl) ?_
      refine gx_goto (tgt := 35) Cx eX7_wet_31 (by decide) ?_
      exact gx_rI h rfl eX7_wet_35 hR
set_option maxHeartbeats 4000000 in
set_option maxRecDepth 100000 in
theorem c_X7_who (κ : gx_K) {v1 : Int32} {v2 : Int32} {v3 : Int32} {M : gx_Mem} {r9 : Int32} {M9 : gx_Mem} (hf : f_X7_who v1 v2 v3 M = some (r9, M9)) : gx_CI κ yX7_who cX7_who 5 (some .int) 7 [.ref (gx_a κ 56), .int v1, .int v2, .int v3] M r9 M9 := by
  refine gx_enterI (d := 7) my_X7_who.1 (by decide) (Nat.le_of_ble_eq_true rfl) (fun Γ Cx hR => ?_)
  change gx_G κ Γ 0 [(0, .ref (gx_a κ 56)), (1, .int v1), (2, .int v2), (3, .int v3)] [] M
  have h := hf
  refine gx_iload_n Cx eX7_who_0 1 rfl ?_
  obtain ⟨y2, h1, h⟩ := gx_bP_of h
  refine gx_callSI Cx my_X7_isShelf wlX7_81 (by decide) rfl eX7_who_1 (c_X7_isShelf κ h1) rfl (Nat.le_of_ble_eq_true rfl) ?_
  refine gx_if_eq (tgt := 23) Cx eX7_who_4 (by decide) h (fun h => ?_) (fun h => ?_)
  · refine gx_iconst (v := (-1 : Int32)) Cx eX7_who_23 (by decide) ?_
    exact gx_rI h rfl eX7_who_24 hR
  · refine gx_iload_n Cx eX7_who_7 2 rfl ?_
    obtain ⟨y4, h3, h⟩ := gx_bP_of h
    refine gx_callSI Cx my_X7_isHour wlX7_131 (by decide) rfl eX7_who_8 (c_X7_isHour κ h3) rfl (Nat.le_of_ble_eq_true rfl) ?_
    refine gx_if_eq (tgt := 23) Cx eX7_who_11 (by decide) h (fun h => ?_) (fun h => ?_)
    · refine gx_iconst (v := (-1 : Int32)) Cx eX7_who_23 (by decide) ?_
      exact gx_rI h rfl eX7_who_24 hR
    · refine gx_iload_n Cx eX7_who_14 3 rfl ?_
      refine gx_if_lt (tgt := 23) Cx eX7_who_15 (by decide) h (fun h => ?_) (fun h => ?_)
      · refine gx_iconst (v := (-1 : Int32)) Cx eX7_who_23 (by decide) ?_
        exact gx_rI h rfl eX7_who_24 hR
      · refine gx_iload_n Cx eX7_who_18 3 rfl ?_
        refine gx_iconst (v := (2 : Int32)) Cx eX7_who_19 (by decide) ?_
        refine gx_icmp_le (tgt := 25) Cx eX7_who_20 (by decide) h (fun h => ?_) (fun h => ?_)
        · refine gx_aload_n Cx eX7_who_25 0 rfl ?_
          refine gfX7_60 Cx eX7_who_26 ?_
          refine gx_iload_n Cx eX7_who_29 1 rfl ?_
          refine gx_aaldS Cx eX7_who_30 h (fun r5 hr5 h => ?_)
          obtain ⟨y7, h6, h⟩ := gx_bP_of h
          refine gx_callSI Cx my_X7_basinRefusal wlX7_198 (by decide) rfl eX7_who_31 (c_X7_basinRefusal κ hr5 h6) rfl (Nat.le_of_ble_eq_true rfl) ?_
          refine gx_istore Cx eX7_who_34 [(4, .int y7), (0, .ref (gx_a κ 56)), (1, .int v1), (2, .int v2), (3, .int v3)] rfl (by decide) ?_
          refine gx_iload Cx eX7_who_36 0 rfl ?_
          refine gx_if_eq (tgt := 46) Cx eX7_who_38 (by decide) h (fun h => ?_) (fun h => ?_)
          · refine gx_aload_n Cx eX7_who_46 1 rfl ?_
            refine gfX7_40 Cx eX7_who_47 ?_
            refine gx_aload_n Cx eX7_who_50 1 rfl ?_
            refine gfX7_60 Cx eX7_who_51 ?_
            refine gx_iload_n Cx eX7_who_54 2 rfl ?_
            refine gx_aaldS Cx eX7_who_55 h (fun r8 hr8 h => ?_)
            refine gfX7_94 Cx hr8.1 eX7_who_56 ?_
            refine gx_iload_n Cx eX7_who_59 4 rfl ?_
            obtain ⟨y10, M11, h9, h⟩ := gx_bI_of h
            refine gx_callVI (ci := 4) Cx my_X4_sets wlX7_202 rfl gx_y30 (by decide) rfl eX7_who_60 (c_X4_sets κ hr8.2 h9) rfl (Nat.le_of_ble_eq_true rfl) ?_
            exact gx_rI h rfl eX7_who_63 hR
          · refine gx_iload Cx eX7_who_41 0 rfl ?_
            refine gx_goto (tgt := 63) Cx eX7_who_43 (by decide) ?_
            exact gx_rI h rfl eX7_who_63 hR
        · refine gx_iconst (v := (-1 : Int32)) Cx eX7_who_23 (by decide) ?_
          exact gx_rI h rfl eX7_who_24 hR
set_option maxHeartbeats 4000000 in
set_option maxRecDepth 100000 in
theorem c_X7_wipe (κ : gx_K) {v1 : Int32} {M : gx_Mem} {r9 : Int32} {M9 : gx_Mem} (hf : f_X7_wipe v1 M = some (r9, M9)) : gx_CI κ yX7_wipe cX7_wipe 2 (some .int) 1 [.ref (gx_a κ 56), .int v1] M r9 M9 := by
  refine gx_enterI (d := 1) my_X7_wipe.1 (by decide) (Nat.le_of_ble_eq_true rfl) (fun Γ Cx hR => ?_)
  change gx_G κ Γ 0 [(0, .ref (gx_a κ 56)), (1, .int v1)] [] M
  have h := hf
  refine gx_aload_n Cx eX7_wipe_0 0 rfl ?_
  refine gx_iload_n Cx eX7_wipe_1 1 rfl ?_
  obtain ⟨y2, h1, h⟩ := gx_bP_of h
  refine gx_callVI (ci := 7) Cx my_X7_isOne wlX7_164 rfl gx_y56 (by decide) rfl eX7_wipe_2 (c_X7_isOne κ h1) rfl (Nat.le_of_ble_eq_true rfl) ?_
  refine gx_if_eq (tgt := 19) Cx eX7_wipe_5 (by decide) h (fun h => ?_) (fun h => ?_)
  · refine gx_iconst (v := (-1 : Int32)) Cx eX7_wipe_19 (by decide) ?_
    exact gx_rI h rfl eX7_wipe_20 hR
  · refine gx_aload_n Cx eX7_wipe_8 0 rfl ?_
    refine gfX7_28 Cx eX7_wipe_9 ?_
    refine gx_iload_n Cx eX7_wipe_12 1 rfl ?_
    obtain ⟨y4, M5, h3, h⟩ := gx_bI_of h
    refine gx_callVI (ci := 2) Cx my_X2_dried wlX7_254 rfl gx_y9 (by decide) rfl eX7_wipe_13 (c_X2_dried κ gx_Ho9 h3) rfl (Nat.le_of_ble_eq_true rfl) ?_
    refine gx_goto (tgt := 20) Cx eX7_wipe_16 (by decide) ?_
    exact gx_rI h rfl eX7_wipe_20 hR

def f_X2_layBack (k : Nat) (j : Nat) (M : gx_Mem) : Option gx_Mem := gx_let (gx_min (M.1 j 7) (6 : Int32)) (fun x1 => gx_gd (gx_cpk (0 : Int32) (0 : Int32) x1 6 6) (gx_let (gx_cI M (j + 1) (0 : Int32).toNatClampNeg (k + 1) (0 : Int32).toNatClampNeg x1.toNatClampNeg) (fun M2 => gx_gd (gx_cpk (0 : Int32) (0 : Int32) (x1 * (4 : Int32)) 24 24) (gx_let (gx_cI M2 (j + 4) (0 : Int32).toNatClampNeg (k + 4) (0 : Int32).toNatClampNeg (x1 * (4 : Int32)).toNatClampNeg) (fun M3 => gx_gd (gx_cpk (0 : Int32) (0 : Int32) (24 : Int32) 24 24) (gx_let (gx_cI M3 (j + 5) (0 : Int32).toNatClampNeg (k + 5) (0 : Int32).toNatClampNeg (24 : Int32).toNatClampNeg) (fun M4 => gx_gd (gx_cpk (0 : Int32) (0 : Int32) (5 : Int32) 5 5) (gx_let (gx_cI M4 (j + 6) (0 : Int32).toNatClampNeg (k + 6) (0 : Int32).toNatClampNeg (5 : Int32).toNatClampNeg) (fun M5 => gx_let (gx_sI M5 k 9 (M5.1 j 9)) (fun M6 => some M6))))))))))
def f_X2_reaches_b123 (k : Nat) (ag7 : Int32 → Int32 → gx_Mem → Option (Int32 × gx_Mem)) (v1 : Int32) (v2 : Int32) (v3 : Int32) (v4 : Int32) (v6 : Int32) (s0 : Int32) (M : gx_Mem) : Option (Int32 × gx_Mem) := gx_let (v6 + (-1 : Int32)) (fun x8 => ag7 s0 x8 M)
def f_X2_reaches_b83 (k : Nat) (ag7 : Int32 → Int32 → gx_Mem → Option (Int32 × gx_Mem)) (ag33 : Int32 → Int32 → Int32 → gx_Mem → Option (Int32 × gx_Mem)) (v1 : Int32) (v2 : Int32) (v3 : Int32) (v4 : Int32) (v5 : Int32) (v6 : Int32) (v7 : Int32) (v8 : Int32) (v9 : Int32) (M : gx_Mem) : Option (Int32 × gx_Mem) := gx_let (v9 + (1 : Int32)) (fun x7 => ag33 v5 v8 x7 M)
def f_X2_reaches_k33 (k : Nat) (ag7 : Int32 → Int32 → gx_Mem → Option (Int32 × gx_Mem)) (v1 : Int32) (v2 : Int32) (v3 : Int32) (v4 : Int32) (v6 : Int32) (v7 : Int32) (ag33 : Int32 → Int32 → Int32 → gx_Mem → Option (Int32 × gx_Mem)) (v5 : Int32) (v8 : Int32) (v9 : Int32) (M : gx_Mem) : Option (Int32 × gx_Mem) := (if (M.1 k 7) ≤ v9 then (if v5 = 0 then f_X2_reaches_b123 k ag7 v1 v2 v3 v4 v6 (0 : Int32) M else gx_gd (gx_in v7 24) (gx_bI (f_X3_lets v5 (M.1 (k + 5) v7.toNatClampNeg) (M.1 k 8) v6 v3 v8 M) (fun y3 M4 => f_X2_reaches_b123 k ag7 v1 v2 v3 v4 v6 y3 M4))) else gx_gd (gx_in v9 6) ((if (M.1 (k + 1) v9.toNatClampNeg) = v7 then (if ((gx_shr v4 v9) &&& (1 : Int32)) = 0 then f_X2_reaches_b83 k ag7 ag33 v1 v2 v3 v4 v5 v6 v7 v8 v9 M else gx_gd (gx_in ((v9 * (4 : Int32)) + v3) 24) (gx_let (v5 + (M.1 (k + 3) ((v9 * (4 : Int32)) + v3).toNatClampNeg)) (fun x5 => gx_let (v8 + (1 : Int32)) (fun x6 => f_X2_reaches_b83 k ag7 ag33 v1 v2 v3 v4 x5 v6 v7 x6 v9 M)))) else f_X2_reaches_b83 k ag7 ag33 v1 v2 v3 v4 v5 v6 v7 v8 v9 M)))
def f_X2_reaches_l33 (k : Nat) (ag7 : Int32 → Int32 → gx_Mem → Option (Int32 × gx_Mem)) (v1 : Int32) (v2 : Int32) (v3 : Int32) (v4 : Int32) (v6 : Int32) (v7 : Int32) (n : Nat) (v5 : Int32) (v8 : Int32) (v9 : Int32) (M : gx_Mem) : Option (Int32 × gx_Mem) := gx_loop (fun (ag33 : Int32 × Int32 × Int32 × gx_Mem → Option (Int32 × gx_Mem)) (s : Int32 × Int32 × Int32 × gx_Mem) => f_X2_reaches_k33 k ag7 v1 v2 v3 v4 v6 v7 (fun v5 v8 v9 M => ag33 (v5, v8, v9, M)) s.1 s.2.1 s.2.2.1 s.2.2.2) n (v5, v8, v9, M)
def f_X2_reaches_k7 (k : Nat)  (v1 : Int32) (v2 : Int32) (v3 : Int32) (v4 : Int32) (ag7 : Int32 → Int32 → gx_Mem → Option (Int32 × gx_Mem)) (v5 : Int32) (v6 : Int32) (M : gx_Mem) : Option (Int32 × gx_Mem) := (if v6 ≤ v2 then some (v5, M) else (if v6 < 0 then some (v5, M) else gx_let ((v1 * (8 : Int32)) + v6) (fun x1 => f_X2_reaches_l33 k ag7 v1 v2 v3 v4 v6 x1 gx_fuel v5 (0 : Int32) (0 : Int32) M)))
def f_X2_reaches_l7 (k : Nat)  (v1 : Int32) (v2 : Int32) (v3 : Int32) (v4 : Int32) (n : Nat) (v5 : Int32) (v6 : Int32) (M : gx_Mem) : Option (Int32 × gx_Mem) := gx_loop (fun (ag7 : Int32 × Int32 × gx_Mem → Option (Int32 × gx_Mem)) (s : Int32 × Int32 × gx_Mem) => f_X2_reaches_k7 k v1 v2 v3 v4 (fun v5 v6 M => ag7 (v5, v6, M)) s.1 s.2.1 s.2.2) n (v5, v6, M)
def f_X2_reaches (k : Nat) (v1 : Int32) (v2 : Int32) (v3 : Int32) (v4 : Int32) (M : gx_Mem) : Option (Int32 × gx_Mem) := f_X2_reaches_l7 k v1 v2 v3 v4 gx_fuel (0 : Int32) (7 : Int32) M
def f_X2_drips (k : Nat) (v1 : Int32) (v2 : Int32) (v3 : Int32) (M : gx_Mem) : Option (Int32 × gx_Mem) := (if ((gx_shr v3 v1) &&& (1 : Int32)) = 0 then some ((0 : Int32), M) else gx_gd (gx_in v1 6) (gx_gd (gx_in v1 6) (gx_bI (f_X2_reaches k ((M.1 (k + 1) v1.toNatClampNeg) / (8 : Int32)) (gx_rem (M.1 (k + 1) v1.toNatClampNeg) (8 : Int32)) v2 v3 M) (fun y2 M3 => gx_gd (gx_in v1 6) (gx_gd (gx_in (M3.1 (k + 1) v1.toNatClampNeg) 24) (some ((gx_max (0 : Int32) (y2 - (M3.1 (k + 5) (M3.1 (k + 1) v1.toNatClampNeg).toNatClampNeg))), M3)))))))
def f_X2_room (k : Nat) (v1 : Int32) (v2 : Int32) (M : gx_Mem) : Option Int32 := gx_gd (gx_in ((v1 * (4 : Int32)) + v2) 24) (some ((9999 : Int32) - (M.1 (k + 4) ((v1 * (4 : Int32)) + v2).toNatClampNeg)))
def f_X2_outAt_k4 (k : Nat)  (v1 : Int32) (ag4 : Int32 → Int32 → Option Int32) (v2 : Int32) (v3 : Int32) (M : gx_Mem) : Option Int32 := (if (M.1 k 7) ≤ v3 then some v2 else gx_gd (gx_in v3 6) (gx_let (v2 ||| (gx_shl ((gx_shr (M.1 (k + 2) v3.toNatClampNeg) v1) &&& (1 : Int32)) v3)) (fun x1 => gx_let (v3 + (1 : Int32)) (fun x2 => ag4 x1 x2))))
def f_X2_outAt_l4 (k : Nat)  (v1 : Int32) (n : Nat) (v2 : Int32) (v3 : Int32) (M : gx_Mem) : Option Int32 := gx_loop (fun (ag4 : Int32 × Int32 → Option Int32) (s : Int32 × Int32) => f_X2_outAt_k4 k v1 (fun v2 v3 => ag4 (v2, v3)) s.1 s.2 M) n (v2, v3)
def f_X2_outAt (k : Nat) (v1 : Int32) (M : gx_Mem) : Option Int32 := f_X2_outAt_l4 k v1 gx_fuel (0 : Int32) (0 : Int32) M
def f_X2_caughtBy_k5 (k : Nat)  (v1 : Int32) (v2 : Int32) (ag5 : Int32 → Int32 → gx_Mem → Option (Int32 × gx_Mem)) (v3 : Int32) (v4 : Int32) (M : gx_Mem) : Option (Int32 × gx_Mem) := (if (3 : Int32) ≤ v4 then some (v3, M) else gx_bI (f_X2_reaches k v4 (-1 : Int32) v1 v2 M) (fun y2 M3 => gx_let (v3 + y2) (fun x4 => gx_let (v4 + (1 : Int32)) (fun x5 => ag5 x4 x5 M3))))
def f_X2_caughtBy_l5 (k : Nat)  (v1 : Int32) (v2 : Int32) (n : Nat) (v3 : Int32) (v4 : Int32) (M : gx_Mem) : Option (Int32 × gx_Mem) := gx_loop (fun (ag5 : Int32 × Int32 × gx_Mem → Option (Int32 × gx_Mem)) (s : Int32 × Int32 × gx_Mem) => f_X2_caughtBy_k5 k v1 v2 (fun v3 v4 M => ag5 (v3, v4, M)) s.1 s.2.1 s.2.2) n (v3, v4, M)
def f_X2_caughtBy (k : Nat) (v1 : Int32) (v2 : Int32) (M : gx_Mem) : Option (Int32 × gx_Mem) := f_X2_caughtBy_l5 k v1 v2 gx_fuel (0 : Int32) (0 : Int32) M
def f_X2_liken (k : Nat) (j : Nat) (M : gx_Mem) : Option gx_Mem := gx_gd (gx_cpk (0 : Int32) (0 : Int32) (6 : Int32) 6 6) (gx_let (gx_cI M (j + 1) (0 : Int32).toNatClampNeg (k + 1) (0 : Int32).toNatClampNeg (6 : Int32).toNatClampNeg) (fun M1 => gx_gd (gx_cpk (0 : Int32) (0 : Int32) (6 : Int32) 6 6) (gx_let (gx_cI M1 (j + 2) (0 : Int32).toNatClampNeg (k + 2) (0 : Int32).toNatClampNeg (6 : Int32).toNatClampNeg) (fun M2 => gx_gd (gx_cpk (0 : Int32) (0 : Int32) (24 : Int32) 24 24) (gx_let (gx_cI M2 (j + 3) (0 : Int32).toNatClampNeg (k + 3) (0 : Int32).toNatClampNeg (24 : Int32).toNatClampNeg) (fun M3 => gx_gd (gx_cpk (0 : Int32) (0 : Int32) (24 : Int32) 24 24) (gx_let (gx_cI M3 (j + 4) (0 : Int32).toNatClampNeg (k + 4) (0 : Int32).toNatClampNeg (24 : Int32).toNatClampNeg) (fun M4 => gx_gd (gx_cpk (0 : Int32) (0 : Int32) (24 : Int32) 24 24) (gx_let (gx_cI M4 (j + 5) (0 : Int32).toNatClampNeg (k + 5) (0 : Int32).toNatClampNeg (24 : Int32).toNatClampNeg) (fun M5 => gx_gd (gx_cpk (0 : Int32) (0 : Int32) (5 : Int32) 5 5) (gx_let (gx_cI M5 (j + 6) (0 : Int32).toNatClampNeg (k + 6) (0 : Int32).toNatClampNeg (5 : Int32).toNatClampNeg) (fun M6 => gx_let (gx_sI M6 k 7 (M6.1 j 7)) (fun M7 => gx_let (gx_sI M7 k 8 (M7.1 j 8)) (fun M8 => gx_let (gx_sI M8 k 9 (M8.1 j 9)) (fun M9 => some M9)))))))))))))))
def f_X2_awningsOut_b25 (k : Nat) (ag4 : Int32 → Int32 → Option Int32) (v2 : Int32) (s0 : Int32) (s1 : Int32) (M : gx_Mem) : Option Int32 := gx_let (s0 + s1) (fun x1 => gx_let (v2 + (1 : Int32)) (fun x2 => ag4 x1 x2))
def f_X2_awningsOut_k4 (k : Nat)   (ag4 : Int32 → Int32 → Option Int32) (v1 : Int32) (v2 : Int32) (M : gx_Mem) : Option Int32 := (if (24 : Int32) ≤ v2 then some v1 else gx_gd (gx_in v2 24) ((if (M.1 (k + 5) v2.toNatClampNeg) ≤ 0 then f_X2_awningsOut_b25 k ag4 v2 v1 (0 : Int32) M else f_X2_awningsOut_b25 k ag4 v2 v1 (1 : Int32) M)))
def f_X2_awningsOut_l4 (k : Nat)   (n : Nat) (v1 : Int32) (v2 : Int32) (M : gx_Mem) : Option Int32 := gx_loop (fun (ag4 : Int32 × Int32 → Option Int32) (s : Int32 × Int32) => f_X2_awningsOut_k4 k (fun v1 v2 => ag4 (v1, v2)) s.1 s.2 M) n (v1, v2)
def f_X2_awningsOut (k : Nat) (M : gx_Mem) : Option Int32 := f_X2_awningsOut_l4 k gx_fuel (0 : Int32) (0 : Int32) M
def f_X2_passHour_k18 (k : Nat) (ag11 : Int32 → gx_Mem → Option gx_Mem) (v1 : Int32) (v2 : Int32) (ag18 : Int32 → gx_Mem → Option gx_Mem) (v3 : Int32) (M : gx_Mem) : Option gx_Mem := (if (M.1 k 7) ≤ v3 then gx_bI (f_X2_caughtBy k v2 v1 M) (fun y6 M7 => gx_let (gx_sI M7 (k + 6) (3 : Int32).toNatClampNeg ((M.1 (k + 6) (3 : Int32).toNatClampNeg) + y6)) (fun M8 => gx_let (v2 + (1 : Int32)) (fun x9 => ag11 x9 M8))) else gx_gd (gx_in ((v3 * (4 : Int32)) + v2) 24) (gx_bP (f_X2_room k v3 v2 M) (fun y11 => gx_bI (f_X2_drips k v3 v2 v1 M) (fun y13 M14 => gx_gd (gx_in ((v3 * (4 : Int32)) + v2) 24) (gx_let (gx_sI M14 (k + 4) ((v3 * (4 : Int32)) + v2).toNatClampNeg ((M.1 (k + 4) ((v3 * (4 : Int32)) + v2).toNatClampNeg) + (gx_min y11 y13))) (fun M15 => gx_let (v3 + (1 : Int32)) (fun x16 => ag18 x16 M15)))))))
def f_X2_passHour_l18 (k : Nat) (ag11 : Int32 → gx_Mem → Option gx_Mem) (v1 : Int32) (v2 : Int32) (n : Nat) (v3 : Int32) (M : gx_Mem) : Option gx_Mem := gx_loop (fun (ag18 : Int32 × gx_Mem → Option gx_Mem) (s : Int32 × gx_Mem) => f_X2_passHour_k18 k ag11 v1 v2 (fun v3 M => ag18 (v3, M)) s.1 s.2) n (v3, M)
def f_X2_passHour_k11 (k : Nat)  (v1 : Int32) (ag11 : Int32 → gx_Mem → Option gx_Mem) (v2 : Int32) (M : gx_Mem) : Option gx_Mem := (if (4 : Int32) ≤ v2 then gx_let (gx_sI M k 9 (gx_rem ((M.1 k 9) + (1 : Int32)) (12 : Int32))) (fun M3 => gx_let (gx_sI M3 (k + 6) (0 : Int32).toNatClampNeg ((M3.1 (k + 6) (0 : Int32).toNatClampNeg) + (1 : Int32))) (fun M4 => some M4)) else f_X2_passHour_l18 k ag11 v1 v2 gx_fuel (0 : Int32) M)
def f_X2_passHour_l11 (k : Nat)  (v1 : Int32) (n : Nat) (v2 : Int32) (M : gx_Mem) : Option gx_Mem := gx_loop (fun (ag11 : Int32 × gx_Mem → Option gx_Mem) (s : Int32 × gx_Mem) => f_X2_passHour_k11 k v1 (fun v2 M => ag11 (v2, M)) s.1 s.2) n (v2, M)
def f_X2_passHour (k : Nat) (M : gx_Mem) : Option gx_Mem := gx_bP (f_X2_outAt k (M.1 k 9) M) (fun y2 => f_X2_passHour_l11 k y2 gx_fuel (0 : Int32) M)
def f_X2_cell (v0 : Int32) (M : gx_Mem) : Option Int32 := some (((v0 / (10 : Int32)) * (4 : Int32)) + (gx_rem v0 (10 : Int32)))
def f_X2_tells (k : Nat) (v1 : Int32) (v2 : Int32) (M : gx_Mem) : Option Int32 := if v2 = (0 : Int32) then gx_gd (gx_in v1 6) (some (M.1 (k + 1) v1.toNatClampNeg)) else (if v2 = (1 : Int32) then gx_gd (gx_in v1 6) (some (M.1 (k + 2) v1.toNatClampNeg)) else (if v2 = (2 : Int32) then gx_bP (f_X2_cell v1 M) (fun y2 => gx_gd (gx_in y2 24) (some (M.1 (k + 3) y2.toNatClampNeg))) else (if v2 = (3 : Int32) then gx_bP (f_X2_cell v1 M) (fun y4 => gx_gd (gx_in y4 24) (some (M.1 (k + 4) y4.toNatClampNeg))) else (if v2 = (4 : Int32) then gx_gd (gx_in v1 24) (some (M.1 (k + 5) v1.toNatClampNeg)) else (if v2 = (5 : Int32) then some (M.1 k 8) else (some (M.1 k 9)))))))
def f_X2_told (k : Nat) (v1 : Int32) (v2 : Int32) (v3 : Int32) (M : gx_Mem) : Option gx_Mem := if v2 = (0 : Int32) then gx_gd (gx_in v1 6) (gx_let (gx_sI M (k + 1) v1.toNatClampNeg v3) (fun M1 => some M1)) else (if v2 = (1 : Int32) then gx_gd (gx_in v1 6) (gx_let (gx_sI M (k + 2) v1.toNatClampNeg v3) (fun M2 => some M2)) else (if v2 = (2 : Int32) then gx_bP (f_X2_cell v1 M) (fun y4 => gx_gd (gx_in y4 24) (gx_let (gx_sI M (k + 3) y4.toNatClampNeg v3) (fun M5 => some M5))) else (if v2 = (3 : Int32) then gx_bP (f_X2_cell v1 M) (fun y7 => gx_gd (gx_in y7 24) (gx_let (gx_sI M (k + 4) y7.toNatClampNeg v3) (fun M8 => some M8))) else (if v2 = (4 : Int32) then gx_gd (gx_in v1 24) (gx_let (gx_sI M (k + 5) v1.toNatClampNeg v3) (fun M9 => some M9)) else (if v2 = (5 : Int32) then gx_let (gx_sI M k 8 v3) (fun M10 => some M10) else (gx_let (gx_sI M k 9 v3) (fun M11 => some M11)))))))
def f_X2_welcome (k : Nat) (v1 : Int32) (v2 : Int32) (M : gx_Mem) : Option (Int32 × gx_Mem) := (if (M.1 k 7) < (6 : Int32) then gx_gd (gx_in (M.1 k 7) 6) (gx_let (gx_sI M (k + 1) (M.1 k 7).toNatClampNeg v1) (fun M1 => gx_gd (gx_in (M1.1 k 7) 6) (gx_let (gx_sI M1 (k + 2) (M1.1 k 7).toNatClampNeg v2) (fun M2 => gx_let (gx_sI M2 k 7 ((M2.1 k 7) + (1 : Int32))) (fun M3 => some (((M3.1 k 7) - (1 : Int32)), M3)))))) else some ((-1 : Int32), M))
def f_X2_dried_k4 (k : Nat)  (v1 : Int32) (ag4 : Int32 → Int32 → gx_Mem → Option (Int32 × gx_Mem)) (v2 : Int32) (v3 : Int32) (M : gx_Mem) : Option (Int32 × gx_Mem) := (if (4 : Int32) ≤ v3 then gx_let (gx_sI M (k + 6) (4 : Int32).toNatClampNeg ((M.1 (k + 6) (4 : Int32).toNatClampNeg) + v2)) (fun M1 => some (v2, M1)) else gx_gd (gx_in ((v1 * (4 : Int32)) + v3) 24) (gx_let (v2 + (M.1 (k + 4) ((v1 * (4 : Int32)) + v3).toNatClampNeg)) (fun x2 => gx_gd (gx_in ((v1 * (4 : Int32)) + v3) 24) (gx_let (gx_sI M (k + 4) ((v1 * (4 : Int32)) + v3).toNatClampNeg (0 : Int32)) (fun M3 => gx_let (v3 + (1 : Int32)) (fun x4 => ag4 x2 x4 M3))))))
def f_X2_dried_l4 (k : Nat)  (v1 : Int32) (n : Nat) (v2 : Int32) (v3 : Int32) (M : gx_Mem) : Option (Int32 × gx_Mem) := gx_loop (fun (ag4 : Int32 × Int32 × gx_Mem → Option (Int32 × gx_Mem)) (s : Int32 × Int32 × gx_Mem) => f_X2_dried_k4 k v1 (fun v2 v3 M => ag4 (v2, v3, M)) s.1 s.2.1 s.2.2) n (v2, v3, M)
def f_X2_dried (k : Nat) (v1 : Int32) (M : gx_Mem) : Option (Int32 × gx_Mem) := f_X2_dried_l4 k v1 gx_fuel (0 : Int32) (0 : Int32) M
set_option maxHeartbeats 4000000 in
set_option maxRecDepth 100000 in
theorem c_X2_layBack (κ : gx_K) {k : Nat} (hk : gx_Ho k) {j : Nat} (hj : gx_Ho j) {M : gx_Mem} {M9 : gx_Mem} (hf : f_X2_layBack k j M = some M9) : gx_CV κ yX2_layBack cX2_layBack 3 none 1 [.ref (gx_a κ k), .ref (gx_a κ j)] M M9 := by
  refine gx_enterV (d := 1) my_X2_layBack.1 (by decide) (Nat.le_of_ble_eq_true rfl) (fun Γ Cx hR => ?_)
  change gx_G κ Γ 0 [(0, .ref (gx_a κ k)), (1, .ref (gx_a κ j))] [] M
  have h := hf
  refine gx_aload_n Cx eX2_layBack_0 1 rfl ?_
  refine gfX2_34 Cx hj.1 eX2_layBack_1 ?_
  refine gx_bipush (v := (6 : Int32)) Cx eX2_layBack_4 (by decide) ?_
  refine gx_mmin Cx wlX2_50 (Nat.le_of_ble_eq_true rfl) (Nat.le_of_ble_eq_true rfl) eX2_layBack_6 ?_
  refine gx_nmI h (fun x1 h => ?_)
  refine gx_istore_n Cx eX2_layBack_9 [(2, .int x1), (0, .ref (gx_a κ k)), (1, .ref (gx_a κ j))] rfl (by decide) ?_
  refine gx_aload_n Cx eX2_layBack_10 2 rfl ?_
  refine gfX2_9 Cx hj.1 eX2_layBack_11 ?_
  refine gx_iconst (v := (0 : Int32)) Cx eX2_layBack_14 (by decide) ?_
  refine gx_aload_n Cx eX2_layBack_15 1 rfl ?_
  refine gfX2_9 Cx hk.1 eX2_layBack_16 ?_
  refine gx_iconst (v := (0 : Int32)) Cx eX2_layBack_19 (by decide) ?_
  refine gx_iload_n Cx eX2_layBack_20 0 rfl ?_
  refine gx_copyI Cx wlX2_44 hj.2.1 hk.2.1 (Nat.le_of_ble_eq_true rfl) (Nat.le_of_ble_eq_true rfl) eX2_layBack_21 h (fun M2 h => ?_)
  refine gx_aload_n Cx eX2_layBack_24 2 rfl ?_
  refine gfX2_21 Cx hj.1 eX2_layBack_25 ?_
  refine gx_iconst (v := (0 : Int32)) Cx eX2_layBack_28 (by decide) ?_
  refine gx_aload_n Cx eX2_layBack_29 1 rfl ?_
  refine gfX2_21 Cx hk.1 eX2_layBack_30 ?_
  refine gx_iconst (v := (0 : Int32)) Cx eX2_layBack_33 (by decide) ?_
  refine gx_iload_n Cx eX2_layBack_34 0 rfl ?_
  refine gx_iconst (v := (4 : Int32)) Cx eX2_layBack_35 (by decide) ?_
  refine gx_imul Cx eX2_layBack_36 ?_
  refine gx_copyI Cx wlX2_44 hj.2.2.2.2.1 hk.2.2.2.2.1 (Nat.le_of_ble_eq_true rfl) (Nat.le_of_ble_eq_true rfl) eX2_layBack_37 h (fun M3 h => ?_)
  refine gx_aload_n Cx eX2_layBack_40 2 rfl ?_
  refine gfX2_24 Cx hj.1 eX2_layBack_41 ?_
  refine gx_iconst (v := (0 : Int32)) Cx eX2_layBack_44 (by decide) ?_
  refine gx_aload_n Cx eX2_layBack_45 1 rfl ?_
  refine gfX2_24 Cx hk.1 eX2_layBack_46 ?_
  refine gx_iconst (v := (0 : Int32)) Cx eX2_layBack_49 (by decide) ?_
  refine gx_bipush (v := (24 : Int32)) Cx eX2_layBack_50 (by decide) ?_
  refine gx_copyI Cx wlX2_44 hj.2.2.2.2.2.1 hk.2.2.2.2.2.1 (Nat.le_of_ble_eq_true rfl) (Nat.le_of_ble_eq_true rfl) eX2_layBack_52 h (fun M4 h => ?_)
  refine gx_aload_n Cx eX2_layBack_55 2 rfl ?_
  refine gfX2_27 Cx hj.1 eX2_layBack_56 ?_
  refine gx_iconst (v := (0 : Int32)) Cx eX2_layBack_59 (by decide) ?_
  refine gx_aload_n Cx eX2_layBack_60 1 rfl ?_
  refine gfX2_27 Cx hk.1 eX2_layBack_61 ?_
  refine gx_iconst (v := (0 : Int32)) Cx eX2_layBack_64 (by decide) ?_
  refine gx_iconst (v := (5 : Int32)) Cx eX2_layBack_65 (by decide) ?_
  refine gx_copyI Cx wlX2_44 hj.2.2.2.2.2.2 hk.2.2.2.2.2.2 (Nat.le_of_ble_eq_true rfl) (Nat.le_of_ble_eq_true rfl) eX2_layBack_66 h (fun M5 h => ?_)
  refine gx_aload_n Cx eX2_layBack_69 1 rfl ?_
  refine gx_aload_n Cx eX2_layBack_70 2 rfl ?_
  refine gfX2_41 Cx hj.1 eX2_layBack_71 ?_
  refine pfX2_41 Cx hk.1 eX2_layBack_74 h (fun M6 h => ?_)
  exact gx_rV h eX2_layBack_77 hR
set_option maxHeartbeats 4000000 in
set_option maxRecDepth 100000 in
theorem c_X2_reaches (κ : gx_K) {k : Nat} (hk : gx_Ho k) {v1 : Int32} {v2 : Int32} {v3 : Int32} {v4 : Int32} {M : gx_Mem} {r9 : Int32} {M9 : gx_Mem} (hf : f_X2_reaches k v1 v2 v3 v4 M = some (r9, M9)) : gx_CI κ yX2_reaches cX2_reaches 10 (some .int) 3 [.ref (gx_a κ k), .int v1, .int v2, .int v3, .int v4] M r9 M9 := by
  refine gx_enterI (d := 3) my_X2_reaches.1 (by decide) (Nat.le_of_ble_eq_true rfl) (fun Γ Cx hR => ?_)
  change gx_G κ Γ 0 [(0, .ref (gx_a κ k)), (1, .int v1), (2, .int v2), (3, .int v3), (4, .int v4)] [] M
  have K7 : ∀  (ag7 : Int32 → Int32 → gx_Mem → Option (Int32 × gx_Mem)) (hag7 : ∀ (v5 : Int32) (v6 : Int32) (M : gx_Mem), ag7 v5 v6 M = some (r9, M9) → gx_G κ Γ 7 [(0, .ref (gx_a κ k)), (1, .int v1), (2, .int v2), (3, .int v3), (4, .int v4), (5, .int v5), (6, .int v6)] [] M) (v5 : Int32) (v6 : Int32) (M : gx_Mem), f_X2_reaches_k7 k v1 v2 v3 v4 ag7 v5 v6 M = some (r9, M9) → gx_G κ Γ 7 [(0, .ref (gx_a κ k)), (1, .int v1), (2, .int v2), (3, .int v3), (4, .int v4), (5, .int v5), (6, .int v6)] [] M := by
    intro ag7 hag7
    have B123 : ∀ (v6 : Int32) (s0 : Int32) (M : gx_Mem), f_X2_reaches_b123 k ag7 v1 v2 v3 v4 v6 s0 M = some (r9, M9) → gx_G κ Γ 123 [(0, .ref (gx_a κ k)), (1, .int v1), (2, .int v2), (3, .int v3), (4, .int v4), (6, .int v6)] [.int s0] M := by
      intro v6 s0 M h
      refine gx_istore Cx eX2_reaches_123 [(5, .int s0), (0, .ref (gx_a κ k)), (1, .int v1), (2, .int v2), (3, .int v3), (4, .int v4), (6, .int v6)] rfl (by decide) ?_
      refine gx_iinc (v := (-1 : Int32)) (i := 6) (j := 6) Cx eX2_reaches_125 (by decide) h 6 rfl (fun w => [(6, .int w), (5, .int s0), (0, .ref (gx_a κ k)), (1, .int v1), (2, .int v2), (3, .int v3), (4, .int v4)]) (fun _ => rfl) (by decide) (fun x8 h => ?_)
      refine gx_goto (tgt := 7) Cx eX2_reaches_128 (by decide) ?_
      refine gx_sub [2, 3, 4, 5, 6, 1, 0] rfl ?_
      exact hag7 _ _ _ h
    have K33 : ∀ (v6 : Int32) (v7 : Int32) (ag33 : Int32 → Int32 → Int32 → gx_Mem → Option (Int32 × gx_Mem)) (hag33 : ∀ (v5 : Int32) (v8 : Int32) (v9 : Int32) (M : gx_Mem), ag33 v5 v8 v9 M = some (r9, M9) → gx_G κ Γ 33 [(0, .ref (gx_a κ k)), (1, .int v1), (2, .int v2), (3, .int v3), (4, .int v4), (5, .int v5), (6, .int v6), (7, .int v7), (8, .int v8), (9, .int v9)] [] M) (v5 : Int32) (v8 : Int32) (v9 : Int32) (M : gx_Mem), f_X2_reaches_k33 k ag7 v1 v2 v3 v4 v6 v7 ag33 v5 v8 v9 M = some (r9, M9) → gx_G κ Γ 33 [(0, .ref (gx_a κ k)), (1, .int v1), (2, .int v2), (3, .int v3), (4, .int v4), (5, .int v5), (6, .int v6), (7, .int v7), (8, .int v8), (9, .int v9)] [] M := by
      intro v6 v7 ag33 hag33
      have B83 : ∀ (v5 : Int32) (v8 : Int32) (v9 : Int32) (M : gx_Mem), f_X2_reaches_b83 k ag7 ag33 v1 v2 v3 v4 v5 v6 v7 v8 v9 M = some (r9, M9) → gx_G κ Γ 83 [(0, .ref (gx_a κ k)), (1, .int v1), (2, .int v2), (3, .int v3), (4, .int v4), (5, .int v5), (6, .int v6), (7, .int v7), (8, .int v8), (9, .int v9)] [] M := by
        intro v5 v8 v9 M h
        refine gx_iinc (v := (1 : Int32)) (i := 9) (j := 9) Cx eX2_reaches_83 (by decide) h 9 rfl (fun w => [(9, .int w), (0, .ref (gx_a κ k)), (1, .int v1), (2, .int v2), (3, .int v3), (4, .int v4), (5, .int v5), (6, .int v6), (7, .int v7), (8, .int v8)]) (fun _ => rfl) (by decide) (fun x7 h => ?_)
        refine gx_goto (tgt := 33) Cx eX2_reaches_86 (by decide) ?_
        refine gx_sub [1, 2, 3, 4, 5, 6, 7, 8, 9, 0] rfl ?_
        exact hag33 _ _ _ _ h
      intro v5 v8 v9 M h
      refine gx_iload Cx eX2_reaches_33 9 rfl ?_
      refine gx_aload_n Cx eX2_reaches_35 0 rfl ?_
      refine gfX2_34 Cx hk.1 eX2_reaches_36 ?_
      refine gx_icmp_ge (tgt := 89) Cx eX2_reaches_39 (by decide) h (fun h => ?_) (fun h => ?_)
      · refine gx_iload Cx eX2_reaches_89 5 rfl ?_
        refine gx_if_ne (tgt := 98) Cx eX2_reaches_91 (by decide) h (fun h => ?_) (fun h => ?_)
        · refine gx_aload_n Cx eX2_reaches_98 0 rfl ?_
          refine gfX2_30 Cx hk.1 eX2_reaches_99 ?_
          refine gx_iload Cx eX2_reaches_102 5 rfl ?_
          refine gx_aload_n Cx eX2_reaches_104 0 rfl ?_
          refine gfX2_24 Cx hk.1 eX2_reaches_105 ?_
          refine gx_iload Cx eX2_reaches_108 7 rfl ?_
          refine gx_iald Cx hk.2.2.2.2.2.1 eX2_reaches_110 h (fun h => ?_)
          refine gx_aload_n Cx eX2_reaches_111 0 rfl ?_
          refine gfX2_38 Cx hk.1 eX2_reaches_112 ?_
          refine gx_iload Cx eX2_reaches_115 6 rfl ?_
          refine gx_iload_n Cx eX2_reaches_117 3 rfl ?_
          refine gx_iload Cx eX2_reaches_118 8 rfl ?_
          obtain ⟨y3, M4, h2, h⟩ := gx_bI_of h
          refine gx_callVI (ci := 3) Cx my_X3_lets wlX2_60 rfl gx_y0 (by decide) rfl eX2_reaches_120 (c_X3_lets κ h2) rfl (Nat.le_of_ble_eq_true rfl) ?_
          refine gx_sub [0, 1, 2, 3, 4, 6] rfl ?_
          exact B123 _ _ _ h
        · refine gx_iconst (v := (0 : Int32)) Cx eX2_reaches_94 (by decide) ?_
          refine gx_goto (tgt := 123) Cx eX2_reaches_95 (by decide) ?_
          refine gx_sub [0, 1, 2, 3, 4, 6] rfl ?_
          exact B123 _ _ _ h
      · refine gx_aload_n Cx eX2_reaches_42 0 rfl ?_
        refine gfX2_9 Cx hk.1 eX2_reaches_43 ?_
        refine gx_iload Cx eX2_reaches_46 9 rfl ?_
        refine gx_iald Cx hk.2.1 eX2_reaches_48 h (fun h => ?_)
        refine gx_iload Cx eX2_reaches_49 7 rfl ?_
        refine gx_icmp_ne (tgt := 83) Cx eX2_reaches_51 (by decide) h (fun h => ?_) (fun h => ?_)
        · exact B83 _ _ _ _ h
        · refine gx_iload Cx eX2_reaches_54 4 rfl ?_
          refine gx_iload Cx eX2_reaches_56 9 rfl ?_
          refine gx_ishr Cx eX2_reaches_58 ?_
          refine gx_iconst (v := (1 : Int32)) Cx eX2_reaches_59 (by decide) ?_
          refine gx_iand Cx eX2_reaches_60 ?_
          refine gx_if_eq (tgt := 83) Cx eX2_reaches_61 (by decide) h (fun h => ?_) (fun h => ?_)
          · exact B83 _ _ _ _ h
          · refine gx_iload Cx eX2_reaches_64 5 rfl ?_
            refine gx_aload_n Cx eX2_reaches_66 0 rfl ?_
            refine gfX2_18 Cx hk.1 eX2_reaches_67 ?_
            refine gx_iload Cx eX2_reaches_70 9 rfl ?_
            refine gx_iconst (v := (4 : Int32)) Cx eX2_reaches_72 (by decide) ?_
            refine gx_imul Cx eX2_reaches_73 ?_
            refine gx_iload_n Cx eX2_reaches_74 3 rfl ?_
            refine gx_iadd Cx eX2_reaches_75 ?_
            refine gx_iald Cx hk.2.2.2.1 eX2_reaches_76 h (fun h => ?_)
            refine gx_iadd Cx eX2_reaches_77 ?_
            refine gx_nmI h (fun x5 h => ?_)
            refine gx_istore Cx eX2_reaches_78 [(5, .int x5), (0, .ref (gx_a κ k)), (1, .int v1), (2, .int v2), (3, .int v3), (4, .int v4), (6, .int v6), (7, .int v7), (8, .int v8), (9, .int v9)] rfl (by decide) ?_
            refine gx_iinc (v := (1 : Int32)) (i := 8) (j := 8) Cx eX2_reaches_80 (by decide) h 8 rfl (fun w => [(8, .int w), (5, .int x5), (0, .ref (gx_a κ k)), (1, .int v1), (2, .int v2), (3, .int v3), (4, .int v4), (6, .int v6), (7, .int v7), (9, .int v9)]) (fun _ => rfl) (by decide) (fun x6 h => ?_)
            refine gx_sub [2, 3, 4, 5, 6, 1, 7, 8, 0, 9] rfl ?_
            exact B83 _ _ _ _ h
    have L33 : ∀ (v6 : Int32) (v7 : Int32) (n : Nat) (v5 : Int32) (v8 : Int32) (v9 : Int32) (M : gx_Mem), f_X2_reaches_l33 k ag7 v1 v2 v3 v4 v6 v7 n v5 v8 v9 M = some (r9, M9) → gx_G κ Γ 33 [(0, .ref (gx_a κ k)), (1, .int v1), (2, .int v2), (3, .int v3), (4, .int v4), (5, .int v5), (6, .int v6), (7, .int v7), (8, .int v8), (9, .int v9)] [] M := by
      intro v6 v7 n
      induction n with
      | zero => intro v5 v8 v9 M h; exact gx_loop_0 h
      | succ n ih => intro v5 v8 v9 M h; exact K33 v6 v7 (fun v5 v8 v9 M => f_X2_reaches_l33 k ag7 v1 v2 v3 v4 v6 v7 n v5 v8 v9 M) ih v5 v8 v9 M h
    intro v5 v6 M h
    refine gx_iload Cx eX2_reaches_7 6 rfl ?_
    refine gx_iload_n Cx eX2_reaches_9 2 rfl ?_
    refine gx_icmp_le (tgt := 131) Cx eX2_reaches_10 (by decide) h (fun h => ?_) (fun h => ?_)
    · refine gx_iload Cx eX2_reaches_131 5 rfl ?_
      exact gx_rI h rfl eX2_reaches_133 hR
    · refine gx_iload Cx eX2_reaches_13 6 rfl ?_
      refine gx_if_lt (tgt := 131) Cx eX2_reaches_15 (by decide) h (fun h => ?_) (fun h => ?_)
      · refine gx_iload Cx eX2_reaches_131 5 rfl ?_
        exact gx_rI h rfl eX2_reaches_133 hR
      · refine gx_iload_n Cx eX2_reaches_18 1 rfl ?_
        refine gx_bipush (v := (8 : Int32)) Cx eX2_reaches_19 (by decide) ?_
        refine gx_imul Cx eX2_reaches_21 ?_
        refine gx_iload Cx eX2_reaches_22 6 rfl ?_
        refine gx_iadd Cx eX2_reaches_24 ?_
        refine gx_nmI h (fun x1 h => ?_)
        refine gx_istore Cx eX2_reaches_25 [(7, .int x1), (0, .ref (gx_a κ k)), (1, .int v1), (2, .int v2), (3, .int v3), (4, .int v4), (5, .int v5), (6, .int v6)] rfl (by decide) ?_
        refine gx_iconst (v := (0 : Int32)) Cx eX2_reaches_27 (by decide) ?_
        refine gx_istore Cx eX2_reaches_28 [(8, .int (0 : Int32)), (7, .int x1), (0, .ref (gx_a κ k)), (1, .int v1), (2, .int v2), (3, .int v3), (4, .int v4), (5, .int v5), (6, .int v6)] rfl (by decide) ?_
        refine gx_iconst (v := (0 : Int32)) Cx eX2_reaches_30 (by decide) ?_
        refine gx_istore Cx eX2_reaches_31 [(9, .int (0 : Int32)), (8, .int (0 : Int32)), (7, .int x1), (0, .ref (gx_a κ k)), (1, .int v1), (2, .int v2), (3, .int v3), (4, .int v4), (5, .int v5), (6, .int v6)] rfl (by decide) ?_
        refine gx_sub [3, 4, 5, 6, 7, 8, 9, 2, 1, 0] rfl ?_
        exact L33 _ _ _ _ _ _ _ h
  have L7 : ∀  (n : Nat) (v5 : Int32) (v6 : Int32) (M : gx_Mem), f_X2_reaches_l7 k v1 v2 v3 v4 n v5 v6 M = some (r9, M9) → gx_G κ Γ 7 [(0, .ref (gx_a κ k)), (1, .int v1), (2, .int v2), (3, .int v3), (4, .int v4), (5, .int v5), (6, .int v6)] [] M := by
    intro n
    induction n with
    | zero => intro v5 v6 M h; exact gx_loop_0 h
    | succ n ih => intro v5 v6 M h; exact K7 (fun v5 v6 M => f_X2_reaches_l7 k v1 v2 v3 v4 n v5 v6 M) ih v5 v6 M h
  have h := hf
  refine gx_iconst (v := (0 : Int32)) Cx eX2_reaches_0 (by decide) ?_
  refine gx_istore Cx eX2_reaches_1 [(5, .int (0 : Int32)), (0, .ref (gx_a κ k)), (1, .int v1), (2, .int v2), (3, .int v3), (4, .int v4)] rfl (by decide) ?_
  refine gx_bipush (v := (7 : Int32)) Cx eX2_reaches_3 (by decide) ?_
  refine gx_istore Cx eX2_reaches_5 [(6, .int (7 : Int32)), (5, .int (0 : Int32)), (0, .ref (gx_a κ k)), (1, .int v1), (2, .int v2), (3, .int v3), (4, .int v4)] rfl (by decide) ?_
  refine gx_sub [2, 3, 4, 5, 6, 1, 0] rfl ?_
  exact L7 _ _ _ _ h
set_option maxHeartbeats 4000000 in
set_option maxRecDepth 100000 in
theorem c_X2_drips (κ : gx_K) {k : Nat} (hk : gx_Ho k) {v1 : Int32} {v2 : Int32} {v3 : Int32} {M : gx_Mem} {r9 : Int32} {M9 : gx_Mem} (hf : f_X2_drips k v1 v2 v3 M = some (r9, M9)) : gx_CI κ yX2_drips cX2_drips 5 (some .int) 4 [.ref (gx_a κ k), .int v1, .int v2, .int v3] M r9 M9 := by
  refine gx_enterI (d := 4) my_X2_drips.1 (by decide) (Nat.le_of_ble_eq_true rfl) (fun Γ Cx hR => ?_)
  change gx_G κ Γ 0 [(0, .ref (gx_a κ k)), (1, .int v1), (2, .int v2), (3, .int v3)] [] M
  have h := hf
  refine gx_iload_n Cx eX2_drips_0 3 rfl ?_
  refine gx_iload_n Cx eX2_drips_1 1 rfl ?_
  refine gx_ishr Cx eX2_drips_2 ?_
  refine gx_iconst (v := (1 : Int32)) Cx eX2_drips_3 (by decide) ?_
  refine gx_iand Cx eX2_drips_4 ?_
  refine gx_if_ne (tgt := 10) Cx eX2_drips_5 (by decide) h (fun h => ?_) (fun h => ?_)
  · refine gx_aload_n Cx eX2_drips_10 0 rfl ?_
    refine gx_aload_n Cx eX2_drips_11 0 rfl ?_
    refine gfX2_9 Cx hk.1 eX2_drips_12 ?_
    refine gx_iload_n Cx eX2_drips_15 1 rfl ?_
    refine gx_iald Cx hk.2.1 eX2_drips_16 h (fun h => ?_)
    refine gx_bipush (v := (8 : Int32)) Cx eX2_drips_17 (by decide) ?_
    refine gx_idivC Cx eX2_drips_19 (by decide) ?_
    refine gx_aload_n Cx eX2_drips_20 0 rfl ?_
    refine gfX2_9 Cx hk.1 eX2_drips_21 ?_
    refine gx_iload_n Cx eX2_drips_24 1 rfl ?_
    refine gx_iald Cx hk.2.1 eX2_drips_25 h (fun h => ?_)
    refine gx_bipush (v := (8 : Int32)) Cx eX2_drips_26 (by decide) ?_
    refine gx_iremC Cx eX2_drips_28 (by decide) ?_
    refine gx_iload_n Cx eX2_drips_29 2 rfl ?_
    refine gx_iload_n Cx eX2_drips_30 3 rfl ?_
    obtain ⟨y2, M3, h1, h⟩ := gx_bI_of h
    refine gx_callVI (ci := 2) Cx my_X2_reaches wlX2_66 rfl hk.1 (by decide) rfl eX2_drips_31 (c_X2_reaches κ hk h1) rfl (Nat.le_of_ble_eq_true rfl) ?_
    refine gx_istore Cx eX2_drips_34 [(4, .int y2), (0, .ref (gx_a κ k)), (1, .int v1), (2, .int v2), (3, .int v3)] rfl (by decide) ?_
    refine gx_iconst (v := (0 : Int32)) Cx eX2_drips_36 (by decide) ?_
    refine gx_iload Cx eX2_drips_37 0 rfl ?_
    refine gx_aload_n Cx eX2_drips_39 1 rfl ?_
    refine gfX2_24 Cx hk.1 eX2_drips_40 ?_
    refine gx_aload_n Cx eX2_drips_43 1 rfl ?_
    refine gfX2_9 Cx hk.1 eX2_drips_44 ?_
    refine gx_iload_n Cx eX2_drips_47 2 rfl ?_
    refine gx_iald Cx hk.2.1 eX2_drips_48 h (fun h => ?_)
    refine gx_iald Cx hk.2.2.2.2.2.1 eX2_drips_49 h (fun h => ?_)
    refine gx_isub Cx eX2_drips_50 ?_
    refine gx_mmax Cx wlX2_70 (Nat.le_of_ble_eq_true rfl) (Nat.le_of_ble_eq_true rfl) eX2_drips_51 ?_
    exact gx_rI h rfl eX2_drips_54 hR
  · refine gx_iconst (v := (0 : Int32)) Cx eX2_drips_8 (by decide) ?_
    exact gx_rI h rfl eX2_drips_9 hR
set_option maxHeartbeats 4000000 in
set_option maxRecDepth 100000 in
theorem c_X2_room (κ : gx_K) {k : Nat} (hk : gx_Ho k) {v1 : Int32} {v2 : Int32} {M : gx_Mem} {r9 : Int32} (hf : f_X2_room k v1 v2 M = some r9) : gx_CI κ yX2_room cX2_room 3 (some .int) 0 [.ref (gx_a κ k), .int v1, .int v2] M r9 M := by
  refine gx_enterI (d := 0) my_X2_room.1 (by decide) (Nat.le_of_ble_eq_true rfl) (fun Γ Cx hR => ?_)
  change gx_G κ Γ 0 [(0, .ref (gx_a κ k)), (1, .int v1), (2, .int v2)] [] M
  have h := hf
  refine gx_sipush (v := (9999 : Int32)) Cx eX2_room_0 (by decide) ?_
  refine gx_aload_n Cx eX2_room_3 0 rfl ?_
  refine gfX2_21 Cx hk.1 eX2_room_4 ?_
  refine gx_iload_n Cx eX2_room_7 1 rfl ?_
  refine gx_iconst (v := (4 : Int32)) Cx eX2_room_8 (by decide) ?_
  refine gx_imul Cx eX2_room_9 ?_
  refine gx_iload_n Cx eX2_room_10 2 rfl ?_
  refine gx_iadd Cx eX2_room_11 ?_
  refine gx_iald Cx hk.2.2.2.2.1 eX2_room_12 h (fun h => ?_)
  refine gx_isub Cx eX2_room_13 ?_
  exact gx_rIp h rfl eX2_room_14 hR
set_option maxHeartbeats 4000000 in
set_option maxRecDepth 100000 in
theorem c_X2_outAt (κ : gx_K) {k : Nat} (hk : gx_Ho k) {v1 : Int32} {M : gx_Mem} {r9 : Int32} (hf : f_X2_outAt k v1 M = some r9) : gx_CI κ yX2_outAt cX2_outAt 4 (some .int) 0 [.ref (gx_a κ k), .int v1] M r9 M := by
  refine gx_enterI (d := 0) my_X2_outAt.1 (by decide) (Nat.le_of_ble_eq_true rfl) (fun Γ Cx hR => ?_)
  change gx_G κ Γ 0 [(0, .ref (gx_a κ k)), (1, .int v1)] [] M
  have K4 : ∀  (ag4 : Int32 → Int32 → Option Int32) (hag4 : ∀ (v2 : Int32) (v3 : Int32), ag4 v2 v3 = some r9 → gx_G κ Γ 4 [(0, .ref (gx_a κ k)), (1, .int v1), (2, .int v2), (3, .int v3)] [] M) (v2 : Int32) (v3 : Int32), f_X2_outAt_k4 k v1 ag4 v2 v3 M = some r9 → gx_G κ Γ 4 [(0, .ref (gx_a κ k)), (1, .int v1), (2, .int v2), (3, .int v3)] [] M := by
    intro ag4 hag4
    intro v2 v3 h
    refine gx_iload_n Cx eX2_outAt_4 3 rfl ?_
    refine gx_aload_n Cx eX2_outAt_5 0 rfl ?_
    refine gfX2_34 Cx hk.1 eX2_outAt_6 ?_
    refine gx_icmp_ge (tgt := 33) Cx eX2_outAt_9 (by decide) h (fun h => ?_) (fun h => ?_)
    · refine gx_iload_n Cx eX2_outAt_33 2 rfl ?_
      exact gx_rIp h rfl eX2_outAt_34 hR
    · refine gx_iload_n Cx eX2_outAt_12 2 rfl ?_
      refine gx_aload_n Cx eX2_outAt_13 0 rfl ?_
      refine gfX2_15 Cx hk.1 eX2_outAt_14 ?_
      refine gx_iload_n Cx eX2_outAt_17 3 rfl ?_
      refine gx_iald Cx hk.2.2.1 eX2_outAt_18 h (fun h => ?_)
      refine gx_iload_n Cx eX2_outAt_19 1 rfl ?_
      refine gx_ishr Cx eX2_outAt_20 ?_
      refine gx_iconst (v := (1 : Int32)) Cx eX2_outAt_21 (by decide) ?_
      refine gx_iand Cx eX2_outAt_22 ?_
      refine gx_iload_n Cx eX2_outAt_23 3 rfl ?_
      refine gx_ishl Cx eX2_outAt_24 ?_
      refine gx_ior Cx eX2_outAt_25 ?_
      refine gx_nmI h (fun x1 h => ?_)
      refine gx_istore_n Cx eX2_outAt_26 [(2, .int x1), (0, .ref (gx_a κ k)), (1, .int v1), (3, .int v3)] rfl (by decide) ?_
      refine gx_iinc (v := (1 : Int32)) (i := 3) (j := 3) Cx eX2_outAt_27 (by decide) h 3 rfl (fun w => [(3, .int w), (2, .int x1), (0, .ref (gx_a κ k)), (1, .int v1)]) (fun _ => rfl) (by decide) (fun x2 h => ?_)
      refine gx_goto (tgt := 4) Cx eX2_outAt_30 (by decide) ?_
      refine gx_sub [2, 3, 1, 0] rfl ?_
      exact hag4 _ _ h
  have L4 : ∀  (n : Nat) (v2 : Int32) (v3 : Int32), f_X2_outAt_l4 k v1 n v2 v3 M = some r9 → gx_G κ Γ 4 [(0, .ref (gx_a κ k)), (1, .int v1), (2, .int v2), (3, .int v3)] [] M := by
    intro n
    induction n with
    | zero => intro v2 v3 h; exact gx_loop_0 h
    | succ n ih => intro v2 v3 h; exact K4 (fun v2 v3 => f_X2_outAt_l4 k v1 n v2 v3 M) ih v2 v3 h
  have h := hf
  refine gx_iconst (v := (0 : Int32)) Cx eX2_outAt_0 (by decide) ?_
  refine gx_istore_n Cx eX2_outAt_1 [(2, .int (0 : Int32)), (0, .ref (gx_a κ k)), (1, .int v1)] rfl (by decide) ?_
  refine gx_iconst (v := (0 : Int32)) Cx eX2_outAt_2 (by decide) ?_
  refine gx_istore_n Cx eX2_outAt_3 [(3, .int (0 : Int32)), (2, .int (0 : Int32)), (0, .ref (gx_a κ k)), (1, .int v1)] rfl (by decide) ?_
  refine gx_sub [2, 3, 1, 0] rfl ?_
  exact L4 _ _ _ h
set_option maxHeartbeats 4000000 in
set_option maxRecDepth 100000 in
theorem c_X2_caughtBy (κ : gx_K) {k : Nat} (hk : gx_Ho k) {v1 : Int32} {v2 : Int32} {M : gx_Mem} {r9 : Int32} {M9 : gx_Mem} (hf : f_X2_caughtBy k v1 v2 M = some (r9, M9)) : gx_CI κ yX2_caughtBy cX2_caughtBy 5 (some .int) 4 [.ref (gx_a κ k), .int v1, .int v2] M r9 M9 := by
  refine gx_enterI (d := 4) my_X2_caughtBy.1 (by decide) (Nat.le_of_ble_eq_true rfl) (fun Γ Cx hR => ?_)
  change gx_G κ Γ 0 [(0, .ref (gx_a κ k)), (1, .int v1), (2, .int v2)] [] M
  have K5 : ∀  (ag5 : Int32 → Int32 → gx_Mem → Option (Int32 × gx_Mem)) (hag5 : ∀ (v3 : Int32) (v4 : Int32) (M : gx_Mem), ag5 v3 v4 M = some (r9, M9) → gx_G κ Γ 5 [(0, .ref (gx_a κ k)), (1, .int v1), (2, .int v2), (3, .int v3), (4, .int v4)] [] M) (v3 : Int32) (v4 : Int32) (M : gx_Mem), f_X2_caughtBy_k5 k v1 v2 ag5 v3 v4 M = some (r9, M9) → gx_G κ Γ 5 [(0, .ref (gx_a κ k)), (1, .int v1), (2, .int v2), (3, .int v3), (4, .int v4)] [] M := by
    intro ag5 hag5
    intro v3 v4 M h
    refine gx_iload Cx eX2_caughtBy_5 4 rfl ?_
    refine gx_iconst (v := (3 : Int32)) Cx eX2_caughtBy_7 (by decide) ?_
    refine gx_icmp_ge (tgt := 29) Cx eX2_caughtBy_8 (by decide) h (fun h => ?_) (fun h => ?_)
    · refine gx_iload_n Cx eX2_caughtBy_29 3 rfl ?_
      exact gx_rI h rfl eX2_caughtBy_30 hR
    · refine gx_iload_n Cx eX2_caughtBy_11 3 rfl ?_
      refine gx_aload_n Cx eX2_caughtBy_12 0 rfl ?_
      refine gx_iload Cx eX2_caughtBy_13 4 rfl ?_
      refine gx_iconst (v := (-1 : Int32)) Cx eX2_caughtBy_15 (by decide) ?_
      refine gx_iload_n Cx eX2_caughtBy_16 1 rfl ?_
      refine gx_iload_n Cx eX2_caughtBy_17 2 rfl ?_
      obtain ⟨y2, M3, h1, h⟩ := gx_bI_of h
      refine gx_callVI (ci := 2) Cx my_X2_reaches wlX2_66 rfl hk.1 (by decide) rfl eX2_caughtBy_18 (c_X2_reaches κ hk h1) rfl (Nat.le_of_ble_eq_true rfl) ?_
      refine gx_iadd Cx eX2_caughtBy_21 ?_
      refine gx_nmI h (fun x4 h => ?_)
      refine gx_istore_n Cx eX2_caughtBy_22 [(3, .int x4), (0, .ref (gx_a κ k)), (1, .int v1), (2, .int v2), (4, .int v4)] rfl (by decide) ?_
      refine gx_iinc (v := (1 : Int32)) (i := 4) (j := 4) Cx eX2_caughtBy_23 (by decide) h 4 rfl (fun w => [(4, .int w), (3, .int x4), (0, .ref (gx_a κ k)), (1, .int v1), (2, .int v2)]) (fun _ => rfl) (by decide) (fun x5 h => ?_)
      refine gx_goto (tgt := 5) Cx eX2_caughtBy_26 (by decide) ?_
      refine gx_sub [2, 3, 4, 1, 0] rfl ?_
      exact hag5 _ _ _ h
  have L5 : ∀  (n : Nat) (v3 : Int32) (v4 : Int32) (M : gx_Mem), f_X2_caughtBy_l5 k v1 v2 n v3 v4 M = some (r9, M9) → gx_G κ Γ 5 [(0, .ref (gx_a κ k)), (1, .int v1), (2, .int v2), (3, .int v3), (4, .int v4)] [] M := by
    intro n
    induction n with
    | zero => intro v3 v4 M h; exact gx_loop_0 h
    | succ n ih => intro v3 v4 M h; exact K5 (fun v3 v4 M => f_X2_caughtBy_l5 k v1 v2 n v3 v4 M) ih v3 v4 M h
  have h := hf
  refine gx_iconst (v := (0 : Int32)) Cx eX2_caughtBy_0 (by decide) ?_
  refine gx_istore_n Cx eX2_caughtBy_1 [(3, .int (0 : Int32)), (0, .ref (gx_a κ k)), (1, .int v1), (2, .int v2)] rfl (by decide) ?_
  refine gx_iconst (v := (0 : Int32)) Cx eX2_caughtBy_2 (by decide) ?_
  refine gx_istore Cx eX2_caughtBy_3 [(4, .int (0 : Int32)), (3, .int (0 : Int32)), (0, .ref (gx_a κ k)), (1, .int v1), (2, .int v2)] rfl (by decide) ?_
  refine gx_sub [2, 3, 4, 1, 0] rfl ?_
  exact L5 _ _ _ _ h
set_option maxHeartbeats 4000000 in
set_option maxRecDepth 100000 in
theorem c_X2_liken (κ : gx_K) {k : Nat} (hk : gx_Ho k) {j : Nat} (hj : gx_Ho j) {M : gx_Mem} {M9 : gx_Mem} (hf : f_X2_liken k j M = some M9) : gx_CV κ yX2_liken cX2_liken 2 none 1 [.ref (gx_a κ k), .ref (gx_a κ j)] M M9 := by
  refine gx_enterV (d := 1) my_X2_liken.1 (by decide) (Nat.le_of_ble_eq_true rfl) (fun Γ Cx hR => ?_)
  change gx_G κ Γ 0 [(0, .ref (gx_a κ k)), (1, .ref (gx_a κ j))] [] M
  have h := hf
  refine gx_aload_n Cx eX2_liken_0 1 rfl ?_
  refine gfX2_9 Cx hj.1 eX2_liken_1 ?_
  refine gx_iconst (v := (0 : Int32)) Cx eX2_liken_4 (by decide) ?_
  refine gx_aload_n Cx eX2_liken_5 0 rfl ?_
  refine gfX2_9 Cx hk.1 eX2_liken_6 ?_
  refine gx_iconst (v := (0 : Int32)) Cx eX2_liken_9 (by decide) ?_
  refine gx_bipush (v := (6 : Int32)) Cx eX2_liken_10 (by decide) ?_
  refine gx_copyI Cx wlX2_44 hj.2.1 hk.2.1 (Nat.le_of_ble_eq_true rfl) (Nat.le_of_ble_eq_true rfl) eX2_liken_12 h (fun M1 h => ?_)
  refine gx_aload_n Cx eX2_liken_15 1 rfl ?_
  refine gfX2_15 Cx hj.1 eX2_liken_16 ?_
  refine gx_iconst (v := (0 : Int32)) Cx eX2_liken_19 (by decide) ?_
  refine gx_aload_n Cx eX2_liken_20 0 rfl ?_
  refine gfX2_15 Cx hk.1 eX2_liken_21 ?_
  refine gx_iconst (v := (0 : Int32)) Cx eX2_liken_24 (by decide) ?_
  refine gx_bipush (v := (6 : Int32)) Cx eX2_liken_25 (by decide) ?_
  refine gx_copyI Cx wlX2_44 hj.2.2.1 hk.2.2.1 (Nat.le_of_ble_eq_true rfl) (Nat.le_of_ble_eq_true rfl) eX2_liken_27 h (fun M2 h => ?_)
  refine gx_aload_n Cx eX2_liken_30 1 rfl ?_
  refine gfX2_18 Cx hj.1 eX2_liken_31 ?_
  refine gx_iconst (v := (0 : Int32)) Cx eX2_liken_34 (by decide) ?_
  refine gx_aload_n Cx eX2_liken_35 0 rfl ?_
  refine gfX2_18 Cx hk.1 eX2_liken_36 ?_
  refine gx_iconst (v := (0 : Int32)) Cx eX2_liken_39 (by decide) ?_
  refine gx_bipush (v := (24 : Int32)) Cx eX2_liken_40 (by decide) ?_
  refine gx_copyI Cx wlX2_44 hj.2.2.2.1 hk.2.2.2.1 (Nat.le_of_ble_eq_true rfl) (Nat.le_of_ble_eq_true rfl) eX2_liken_42 h (fun M3 h => ?_)
  refine gx_aload_n Cx eX2_liken_45 1 rfl ?_
  refine gfX2_21 Cx hj.1 eX2_liken_46 ?_
  refine gx_iconst (v := (0 : Int32)) Cx eX2_liken_49 (by decide) ?_
  refine gx_aload_n Cx eX2_liken_50 0 rfl ?_
  refine gfX2_21 Cx hk.1 eX2_liken_51 ?_
  refine gx_iconst (v := (0 : Int32)) Cx eX2_liken_54 (by decide) ?_
  refine gx_bipush (v := (24 : Int32)) Cx eX2_liken_55 (by decide) ?_
  refine gx_copyI Cx wlX2_44 hj.2.2.2.2.1 hk.2.2.2.2.1 (Nat.le_of_ble_eq_true rfl) (Nat.le_of_ble_eq_true rfl) eX2_liken_57 h (fun M4 h => ?_)
  refine gx_aload_n Cx eX2_liken_60 1 rfl ?_
  refine gfX2_24 Cx hj.1 eX2_liken_61 ?_
  refine gx_iconst (v := (0 : Int32)) Cx eX2_liken_64 (by decide) ?_
  refine gx_aload_n Cx eX2_liken_65 0 rfl ?_
  refine gfX2_24 Cx hk.1 eX2_liken_66 ?_
  refine gx_iconst (v := (0 : Int32)) Cx eX2_liken_69 (by decide) ?_
  refine gx_bipush (v := (24 : Int32)) Cx eX2_liken_70 (by decide) ?_
  refine gx_copyI Cx wlX2_44 hj.2.2.2.2.2.1 hk.2.2.2.2.2.1 (Nat.le_of_ble_eq_true rfl) (Nat.le_of_ble_eq_true rfl) eX2_liken_72 h (fun M5 h => ?_)
  refine gx_aload_n Cx eX2_liken_75 1 rfl ?_
  refine gfX2_27 Cx hj.1 eX2_liken_76 ?_
  refine gx_iconst (v := (0 : Int32)) Cx eX2_liken_79 (by decide) ?_
  refine gx_aload_n Cx eX2_liken_80 0 rfl ?_
  refine gfX2_27 Cx hk.1 eX2_liken_81 ?_
  refine gx_iconst (v := (0 : Int32)) Cx eX2_liken_84 (by decide) ?_
  refine gx_iconst (v := (5 : Int32)) Cx eX2_liken_85 (by decide) ?_
  refine gx_copyI Cx wlX2_44 hj.2.2.2.2.2.2 hk.2.2.2.2.2.2 (Nat.le_of_ble_eq_true rfl) (Nat.le_of_ble_eq_true rfl) eX2_liken_86 h (fun M6 h => ?_)
  refine gx_aload_n Cx eX2_liken_89 0 rfl ?_
  refine gx_aload_n Cx eX2_liken_90 1 rfl ?_
  refine gfX2_34 Cx hj.1 eX2_liken_91 ?_
  refine pfX2_34 Cx hk.1 eX2_liken_94 h (fun M7 h => ?_)
  refine gx_aload_n Cx eX2_liken_97 0 rfl ?_
  refine gx_aload_n Cx eX2_liken_98 1 rfl ?_
  refine gfX2_38 Cx hj.1 eX2_liken_99 ?_
  refine pfX2_38 Cx hk.1 eX2_liken_102 h (fun M8 h => ?_)
  refine gx_aload_n Cx eX2_liken_105 0 rfl ?_
  refine gx_aload_n Cx eX2_liken_106 1 rfl ?_
  refine gfX2_41 Cx hj.1 eX2_liken_107 ?_
  refine pfX2_41 Cx hk.1 eX2_liken_110 h (fun M9 h => ?_)
  exact gx_rV h eX2_liken_113 hR
set_option maxHeartbeats 4000000 in
set_option maxRecDepth 100000 in
theorem c_X2_awningsOut (κ : gx_K) {k : Nat} (hk : gx_Ho k) {M : gx_Mem} {r9 : Int32} (hf : f_X2_awningsOut k M = some r9) : gx_CI κ yX2_awningsOut cX2_awningsOut 3 (some .int) 0 [.ref (gx_a κ k)] M r9 M := by
  refine gx_enterI (d := 0) my_X2_awningsOut.1 (by decide) (Nat.le_of_ble_eq_true rfl) (fun Γ Cx hR => ?_)
  change gx_G κ Γ 0 [(0, .ref (gx_a κ k))] [] M
  have K4 : ∀  (ag4 : Int32 → Int32 → Option Int32) (hag4 : ∀ (v1 : Int32) (v2 : Int32), ag4 v1 v2 = some r9 → gx_G κ Γ 4 [(0, .ref (gx_a κ k)), (1, .int v1), (2, .int v2)] [] M) (v1 : Int32) (v2 : Int32), f_X2_awningsOut_k4 k ag4 v1 v2 M = some r9 → gx_G κ Γ 4 [(0, .ref (gx_a κ k)), (1, .int v1), (2, .int v2)] [] M := by
    intro ag4 hag4
    have B25 : ∀ (v2 : Int32) (s0 : Int32) (s1 : Int32), f_X2_awningsOut_b25 k ag4 v2 s0 s1 M = some r9 → gx_G κ Γ 25 [(0, .ref (gx_a κ k)), (2, .int v2)] [.int s1, .int s0] M := by
      intro v2 s0 s1 h
      refine gx_iadd Cx eX2_awningsOut_25 ?_
      refine gx_nmI h (fun x1 h => ?_)
      refine gx_istore_n Cx eX2_awningsOut_26 [(1, .int x1), (0, .ref (gx_a κ k)), (2, .int v2)] rfl (by decide) ?_
      refine gx_iinc (v := (1 : Int32)) (i := 2) (j := 2) Cx eX2_awningsOut_27 (by decide) h 2 rfl (fun w => [(2, .int w), (1, .int x1), (0, .ref (gx_a κ k))]) (fun _ => rfl) (by decide) (fun x2 h => ?_)
      refine gx_goto (tgt := 4) Cx eX2_awningsOut_30 (by decide) ?_
      refine gx_sub [2, 1, 0] rfl ?_
      exact hag4 _ _ h
    intro v1 v2 h
    refine gx_iload_n Cx eX2_awningsOut_4 2 rfl ?_
    refine gx_bipush (v := (24 : Int32)) Cx eX2_awningsOut_5 (by decide) ?_
    refine gx_icmp_ge (tgt := 33) Cx eX2_awningsOut_7 (by decide) h (fun h => ?_) (fun h => ?_)
    · refine gx_iload_n Cx eX2_awningsOut_33 1 rfl ?_
      exact gx_rIp h rfl eX2_awningsOut_34 hR
    · refine gx_iload_n Cx eX2_awningsOut_10 1 rfl ?_
      refine gx_aload_n Cx eX2_awningsOut_11 0 rfl ?_
      refine gfX2_24 Cx hk.1 eX2_awningsOut_12 ?_
      refine gx_iload_n Cx eX2_awningsOut_15 2 rfl ?_
      refine gx_iald Cx hk.2.2.2.2.2.1 eX2_awningsOut_16 h (fun h => ?_)
      refine gx_if_le (tgt := 24) Cx eX2_awningsOut_17 (by decide) h (fun h => ?_) (fun h => ?_)
      · refine gx_iconst (v := (0 : Int32)) Cx eX2_awningsOut_24 (by decide) ?_
        refine gx_sub [0, 2] rfl ?_
        exact B25 _ _ _ h
      · refine gx_iconst (v := (1 : Int32)) Cx eX2_awningsOut_20 (by decide) ?_
        refine gx_goto (tgt := 25) Cx eX2_awningsOut_21 (by decide) ?_
        refine gx_sub [0, 2] rfl ?_
        exact B25 _ _ _ h
  have L4 : ∀  (n : Nat) (v1 : Int32) (v2 : Int32), f_X2_awningsOut_l4 k n v1 v2 M = some r9 → gx_G κ Γ 4 [(0, .ref (gx_a κ k)), (1, .int v1), (2, .int v2)] [] M := by
    intro n
    induction n with
    | zero => intro v1 v2 h; exact gx_loop_0 h
    | succ n ih => intro v1 v2 h; exact K4 (fun v1 v2 => f_X2_awningsOut_l4 k n v1 v2 M) ih v1 v2 h
  have h := hf
  refine gx_iconst (v := (0 : Int32)) Cx eX2_awningsOut_0 (by decide) ?_
  refine gx_istore_n Cx eX2_awningsOut_1 [(1, .int (0 : Int32)), (0, .ref (gx_a κ k))] rfl (by decide) ?_
  refine gx_iconst (v := (0 : Int32)) Cx eX2_awningsOut_2 (by decide) ?_
  refine gx_istore_n Cx eX2_awningsOut_3 [(2, .int (0 : Int32)), (1, .int (0 : Int32)), (0, .ref (gx_a κ k))] rfl (by decide) ?_
  refine gx_sub [2, 1, 0] rfl ?_
  exact L4 _ _ _ h
set_option maxHeartbeats 4000000 in
set_option maxRecDepth 100000 in
theorem c_X2_passHour (κ : gx_K) {k : Nat} (hk : gx_Ho k) {M : gx_Mem} {M9 : gx_Mem} (hf : f_X2_passHour k M = some M9) : gx_CV κ yX2_passHour cX2_passHour 4 none 5 [.ref (gx_a κ k)] M M9 := by
  refine gx_enterV (d := 5) my_X2_passHour.1 (by decide) (Nat.le_of_ble_eq_true rfl) (fun Γ Cx hR => ?_)
  change gx_G κ Γ 0 [(0, .ref (gx_a κ k))] [] M
  have K11 : ∀ (v1 : Int32) (ag11 : Int32 → gx_Mem → Option gx_Mem) (hag11 : ∀ (v2 : Int32) (M : gx_Mem), ag11 v2 M = some M9 → gx_G κ Γ 11 [(0, .ref (gx_a κ k)), (1, .int v1), (2, .int v2)] [] M) (v2 : Int32) (M : gx_Mem), f_X2_passHour_k11 k v1 ag11 v2 M = some M9 → gx_G κ Γ 11 [(0, .ref (gx_a κ k)), (1, .int v1), (2, .int v2)] [] M := by
    intro v1 ag11 hag11
    have K18 : ∀ (v2 : Int32) (ag18 : Int32 → gx_Mem → Option gx_Mem) (hag18 : ∀ (v3 : Int32) (M : gx_Mem), ag18 v3 M = some M9 → gx_G κ Γ 18 [(0, .ref (gx_a κ k)), (1, .int v1), (2, .int v2), (3, .int v3)] [] M) (v3 : Int32) (M : gx_Mem), f_X2_passHour_k18 k ag11 v1 v2 ag18 v3 M = some M9 → gx_G κ Γ 18 [(0, .ref (gx_a κ k)), (1, .int v1), (2, .int v2), (3, .int v3)] [] M := by
      intro v2 ag18 hag18
      intro v3 M h
      refine gx_iload_n Cx eX2_passHour_18 3 rfl ?_
      refine gx_aload_n Cx eX2_passHour_19 0 rfl ?_
      refine gfX2_34 Cx hk.1 eX2_passHour_20 ?_
      refine gx_icmp_ge (tgt := 61) Cx eX2_passHour_23 (by decide) h (fun h => ?_) (fun h => ?_)
      · refine gx_aload_n Cx eX2_passHour_61 0 rfl ?_
        refine gfX2_27 Cx hk.1 eX2_passHour_62 ?_
        refine gx_iconst (v := (3 : Int32)) Cx eX2_passHour_65 (by decide) ?_
        refine gx_dup2 Cx eX2_passHour_66 rfl rfl ?_
        refine gx_ialdC (α := Unit) (b := none) Cx hk.2.2.2.2.2.2 eX2_passHour_67 (by decide) ?_
        refine gx_aload_n Cx eX2_passHour_68 0 rfl ?_
        refine gx_iload_n Cx eX2_passHour_69 2 rfl ?_
        refine gx_iload_n Cx eX2_passHour_70 1 rfl ?_
        obtain ⟨y6, M7, h5, h⟩ := gx_bI_of h
        refine gx_callVI (ci := 2) Cx my_X2_caughtBy wlX2_83 rfl hk.1 (by decide) rfl eX2_passHour_71 (c_X2_caughtBy κ hk h5) rfl (Nat.le_of_ble_eq_true rfl) ?_
        refine gx_iadd Cx eX2_passHour_74 ?_
        refine gx_iastC Cx hk.2.2.2.2.2.2 eX2_passHour_75 (by decide) h (fun M8 h => ?_)
        refine gx_iinc (v := (1 : Int32)) (i := 2) (j := 2) Cx eX2_passHour_76 (by decide) h 2 rfl (fun w => [(2, .int w), (0, .ref (gx_a κ k)), (1, .int v1), (3, .int v3)]) (fun _ => rfl) (by decide) (fun x9 h => ?_)
        refine gx_goto (tgt := 11) Cx eX2_passHour_79 (by decide) ?_
        refine gx_sub [1, 2, 0] rfl ?_
        exact hag11 _ _ h
      · refine gx_aload_n Cx eX2_passHour_26 0 rfl ?_
        refine gfX2_21 Cx hk.1 eX2_passHour_27 ?_
        refine gx_iload_n Cx eX2_passHour_30 3 rfl ?_
        refine gx_iconst (v := (4 : Int32)) Cx eX2_passHour_31 (by decide) ?_
        refine gx_imul Cx eX2_passHour_32 ?_
        refine gx_iload_n Cx eX2_passHour_33 2 rfl ?_
        refine gx_iadd Cx eX2_passHour_34 ?_
        refine gx_dup2 Cx eX2_passHour_35 rfl rfl ?_
        refine gx_iald Cx hk.2.2.2.2.1 eX2_passHour_36 h (fun h => ?_)
        refine gx_aload_n Cx eX2_passHour_37 0 rfl ?_
        refine gx_iload_n Cx eX2_passHour_38 3 rfl ?_
        refine gx_iload_n Cx eX2_passHour_39 2 rfl ?_
        obtain ⟨y11, h10, h⟩ := gx_bP_of h
        refine gx_callVI (ci := 2) Cx my_X2_room wlX2_76 rfl hk.1 (by decide) rfl eX2_passHour_40 (c_X2_room κ hk h10) rfl (Nat.le_of_ble_eq_true rfl) ?_
        refine gx_aload_n Cx eX2_passHour_43 0 rfl ?_
        refine gx_iload_n Cx eX2_passHour_44 3 rfl ?_
        refine gx_iload_n Cx eX2_passHour_45 2 rfl ?_
        refine gx_iload_n Cx eX2_passHour_46 1 rfl ?_
        obtain ⟨y13, M14, h12, h⟩ := gx_bI_of h
        refine gx_callVI (ci := 2) Cx my_X2_drips wlX2_79 rfl hk.1 (by decide) rfl eX2_passHour_47 (c_X2_drips κ hk h12) rfl (Nat.le_of_ble_eq_true rfl) ?_
        refine gx_mmin Cx wlX2_50 (Nat.le_of_ble_eq_true rfl) (Nat.le_of_ble_eq_true rfl) eX2_passHour_50 ?_
        refine gx_iadd Cx eX2_passHour_53 ?_
        refine gx_iast Cx hk.2.2.2.2.1 eX2_passHour_54 h (fun M15 h => ?_)
        refine gx_iinc (v := (1 : Int32)) (i := 3) (j := 3) Cx eX2_passHour_55 (by decide) h 3 rfl (fun w => [(3, .int w), (0, .ref (gx_a κ k)), (1, .int v1), (2, .int v2)]) (fun _ => rfl) (by decide) (fun x16 h => ?_)
        refine gx_goto (tgt := 18) Cx eX2_passHour_58 (by decide) ?_
        refine gx_sub [1, 2, 3, 0] rfl ?_
        exact hag18 _ _ h
    have L18 : ∀ (v2 : Int32) (n : Nat) (v3 : Int32) (M : gx_Mem), f_X2_passHour_l18 k ag11 v1 v2 n v3 M = some M9 → gx_G κ Γ 18 [(0, .ref (gx_a κ k)), (1, .int v1), (2, .int v2), (3, .int v3)] [] M := by
      intro v2 n
      induction n with
      | zero => intro v3 M h; exact gx_loop_0 h
      | succ n ih => intro v3 M h; exact K18 v2 (fun v3 M => f_X2_passHour_l18 k ag11 v1 v2 n v3 M) ih v3 M h
    intro v2 M h
    refine gx_iload_n Cx eX2_passHour_11 2 rfl ?_
    refine gx_iconst (v := (4 : Int32)) Cx eX2_passHour_12 (by decide) ?_
    refine gx_icmp_ge (tgt := 82) Cx eX2_passHour_13 (by decide) h (fun h => ?_) (fun h => ?_)
    · refine gx_aload_n Cx eX2_passHour_82 0 rfl ?_
      refine gx_aload_n Cx eX2_passHour_83 0 rfl ?_
      refine gfX2_41 Cx hk.1 eX2_passHour_84 ?_
      refine gx_iconst (v := (1 : Int32)) Cx eX2_passHour_87 (by decide) ?_
      refine gx_iadd Cx eX2_passHour_88 ?_
      refine gx_bipush (v := (12 : Int32)) Cx eX2_passHour_89 (by decide) ?_
      refine gx_iremC Cx eX2_passHour_91 (by decide) ?_
      refine pfX2_41 Cx hk.1 eX2_passHour_92 h (fun M3 h => ?_)
      refine gx_aload_n Cx eX2_passHour_95 0 rfl ?_
      refine gfX2_27 Cx hk.1 eX2_passHour_96 ?_
      refine gx_iconst (v := (0 : Int32)) Cx eX2_passHour_99 (by decide) ?_
      refine gx_dup2 Cx eX2_passHour_100 rfl rfl ?_
      refine gx_ialdC (α := Unit) (b := none) Cx hk.2.2.2.2.2.2 eX2_passHour_101 (by decide) ?_
      refine gx_iconst (v := (1 : Int32)) Cx eX2_passHour_102 (by decide) ?_
      refine gx_iadd Cx eX2_passHour_103 ?_
      refine gx_iastC Cx hk.2.2.2.2.2.2 eX2_passHour_104 (by decide) h (fun M4 h => ?_)
      exact gx_rV h eX2_passHour_105 hR
    · refine gx_iconst (v := (0 : Int32)) Cx eX2_passHour_16 (by decide) ?_
      refine gx_istore_n Cx eX2_passHour_17 [(3, .int (0 : Int32)), (0, .ref (gx_a κ k)), (1, .int v1), (2, .int v2)] rfl (by decide) ?_
      refine gx_sub [1, 2, 3, 0] rfl ?_
      exact L18 _ _ _ _ h
  have L11 : ∀ (v1 : Int32) (n : Nat) (v2 : Int32) (M : gx_Mem), f_X2_passHour_l11 k v1 n v2 M = some M9 → gx_G κ Γ 11 [(0, .ref (gx_a κ k)), (1, .int v1), (2, .int v2)] [] M := by
    intro v1 n
    induction n with
    | zero => intro v2 M h; exact gx_loop_0 h
    | succ n ih => intro v2 M h; exact K11 v1 (fun v2 M => f_X2_passHour_l11 k v1 n v2 M) ih v2 M h
  have h := hf
  refine gx_aload_n Cx eX2_passHour_0 0 rfl ?_
  refine gx_aload_n Cx eX2_passHour_1 0 rfl ?_
  refine gfX2_41 Cx hk.1 eX2_passHour_2 ?_
  obtain ⟨y2, h1, h⟩ := gx_bP_of h
  refine gx_callVI (ci := 2) Cx my_X2_outAt wlX2_73 rfl hk.1 (by decide) rfl eX2_passHour_5 (c_X2_outAt κ hk h1) rfl (Nat.le_of_ble_eq_true rfl) ?_
  refine gx_istore_n Cx eX2_passHour_8 [(1, .int y2), (0, .ref (gx_a κ k))] rfl (by decide) ?_
  refine gx_iconst (v := (0 : Int32)) Cx eX2_passHour_9 (by decide) ?_
  refine gx_istore_n Cx eX2_passHour_10 [(2, .int (0 : Int32)), (1, .int y2), (0, .ref (gx_a κ k))] rfl (by decide) ?_
  refine gx_sub [2, 1, 0] rfl ?_
  exact L11 _ _ _ _ h
set_option maxHeartbeats 4000000 in
set_option maxRecDepth 100000 in
theorem c_X2_cell (κ : gx_K) {v0 : Int32} {M : gx_Mem} {r9 : Int32} (hf : f_X2_cell v0 M = some r9) : gx_CI κ yX2_cell cX2_cell 1 (some .int) 0 [.int v0] M r9 M := by
  refine gx_enterI (d := 0) my_X2_cell.1 (by decide) (Nat.le_of_ble_eq_true rfl) (fun Γ Cx hR => ?_)
  change gx_G κ Γ 0 [(0, .int v0)] [] M
  have h := hf
  refine gx_iload_n Cx eX2_cell_0 0 rfl ?_
  refine gx_bipush (v := (10 : Int32)) Cx eX2_cell_1 (by decide) ?_
  refine gx_idivC Cx eX2_cell_3 (by decide) ?_
  refine gx_iconst (v := (4 : Int32)) Cx eX2_cell_4 (by decide) ?_
  refine gx_imul Cx eX2_cell_5 ?_
  refine gx_iload_n Cx eX2_cell_6 0 rfl ?_
  refine gx_bipush (v := (10 : Int32)) Cx eX2_cell_7 (by decide) ?_
  refine gx_iremC Cx eX2_cell_9 (by decide) ?_
  refine gx_iadd Cx eX2_cell_10 ?_
  exact gx_rIp h rfl eX2_cell_11 hR
set_option maxHeartbeats 4000000 in
set_option maxRecDepth 100000 in
theorem c_X2_tells (κ : gx_K) {k : Nat} (hk : gx_Ho k) {v1 : Int32} {v2 : Int32} {M : gx_Mem} {r9 : Int32} (hf : f_X2_tells k v1 v2 M = some r9) : gx_CI κ yX2_tells cX2_tells 3 (some .int) 1 [.ref (gx_a κ k), .int v1, .int v2] M r9 M := by
  refine gx_enterI (d := 1) my_X2_tells.1 (by decide) (Nat.le_of_ble_eq_true rfl) (fun Γ Cx hR => ?_)
  change gx_G κ Γ 0 [(0, .ref (gx_a κ k)), (1, .int v1), (2, .int v2)] [] M
  have h := hf
  refine gx_iload_n Cx eX2_tells_0 2 rfl ?_
  refine gx_case (0 : Int32) h (fun h => ?_) (fun n0 h => ?_)
  · refine gx_tsIn (tgt := 40) Cx eX2_tells_1 (by decide) (by decide) rfl (by decide) ?_
    refine gx_aload_n Cx eX2_tells_40 0 rfl ?_
    refine gfX2_9 Cx hk.1 eX2_tells_41 ?_
    refine gx_iload_n Cx eX2_tells_44 1 rfl ?_
    refine gx_iald Cx hk.2.1 eX2_tells_45 h (fun h => ?_)
    exact gx_rIp h rfl eX2_tells_46 hR
  refine gx_case (1 : Int32) h (fun h => ?_) (fun n1 h => ?_)
  · refine gx_tsIn (tgt := 47) Cx eX2_tells_1 (by decide) (by decide) rfl (by decide) ?_
    refine gx_aload_n Cx eX2_tells_47 0 rfl ?_
    refine gfX2_15 Cx hk.1 eX2_tells_48 ?_
    refine gx_iload_n Cx eX2_tells_51 1 rfl ?_
    refine gx_iald Cx hk.2.2.1 eX2_tells_52 h (fun h => ?_)
    exact gx_rIp h rfl eX2_tells_53 hR
  refine gx_case (2 : Int32) h (fun h => ?_) (fun n2 h => ?_)
  · refine gx_tsIn (tgt := 54) Cx eX2_tells_1 (by decide) (by decide) rfl (by decide) ?_
    refine gx_aload_n Cx eX2_tells_54 0 rfl ?_
    refine gfX2_18 Cx hk.1 eX2_tells_55 ?_
    refine gx_iload_n Cx eX2_tells_58 1 rfl ?_
    obtain ⟨y2, h1, h⟩ := gx_bP_of h
    refine gx_callSI Cx my_X2_cell wlX2_56 (by decide) rfl eX2_tells_59 (c_X2_cell κ h1) rfl (Nat.le_of_ble_eq_true rfl) ?_
    refine gx_iald Cx hk.2.2.2.1 eX2_tells_62 h (fun h => ?_)
    exact gx_rIp h rfl eX2_tells_63 hR
  refine gx_case (3 : Int32) h (fun h => ?_) (fun n3 h => ?_)
  · refine gx_tsIn (tgt := 64) Cx eX2_tells_1 (by decide) (by decide) rfl (by decide) ?_
    refine gx_aload_n Cx eX2_tells_64 0 rfl ?_
    refine gfX2_21 Cx hk.1 eX2_tells_65 ?_
    refine gx_iload_n Cx eX2_tells_68 1 rfl ?_
    obtain ⟨y4, h3, h⟩ := gx_bP_of h
    refine gx_callSI Cx my_X2_cell wlX2_56 (by decide) rfl eX2_tells_69 (c_X2_cell κ h3) rfl (Nat.le_of_ble_eq_true rfl) ?_
    refine gx_iald Cx hk.2.2.2.2.1 eX2_tells_72 h (fun h => ?_)
    exact gx_rIp h rfl eX2_tells_73 hR
  refine gx_case (4 : Int32) h (fun h => ?_) (fun n4 h => ?_)
  · refine gx_tsIn (tgt := 74) Cx eX2_tells_1 (by decide) (by decide) rfl (by decide) ?_
    refine gx_aload_n Cx eX2_tells_74 0 rfl ?_
    refine gfX2_24 Cx hk.1 eX2_tells_75 ?_
    refine gx_iload_n Cx eX2_tells_78 1 rfl ?_
    refine gx_iald Cx hk.2.2.2.2.2.1 eX2_tells_79 h (fun h => ?_)
    exact gx_rIp h rfl eX2_tells_80 hR
  refine gx_case (5 : Int32) h (fun h => ?_) (fun n5 h => ?_)
  · refine gx_tsIn (tgt := 81) Cx eX2_tells_1 (by decide) (by decide) rfl (by decide) ?_
    refine gx_aload_n Cx eX2_tells_81 0 rfl ?_
    refine gfX2_38 Cx hk.1 eX2_tells_82 ?_
    exact gx_rIp h rfl eX2_tells_85 hR
  refine gx_tsOut (tgt := 86) Cx eX2_tells_1 (by have zn0 := gx_neT (k := 0) n0 (by decide); have zn1 := gx_neT (k := 1) n1 (by decide); have zn2 := gx_neT (k := 2) n2 (by decide); have zn3 := gx_neT (k := 3) n3 (by decide); have zn4 := gx_neT (k := 4) n4 (by decide); have zn5 := gx_neT (k := 5) n5 (by decide); omega) (by decide) ?_
  refine gx_aload_n Cx eX2_tells_86 0 rfl ?_
  refine gfX2_41 Cx hk.1 eX2_tells_87 ?_
  exact gx_rIp h rfl eX2_tells_90 hR
set_option maxHeartbeats 4000000 in
set_option maxRecDepth 100000 in
theorem c_X2_told (κ : gx_K) {k : Nat} (hk : gx_Ho k) {v1 : Int32} {v2 : Int32} {v3 : Int32} {M : gx_Mem} {M9 : gx_Mem} (hf : f_X2_told k v1 v2 v3 M = some M9) : gx_CV κ yX2_told cX2_told 4 none 1 [.ref (gx_a κ k), .int v1, .int v2, .int v3] M M9 := by
  refine gx_enterV (d := 1) my_X2_told.1 (by decide) (Nat.le_of_ble_eq_true rfl) (fun Γ Cx hR => ?_)
  change gx_G κ Γ 0 [(0, .ref (gx_a κ k)), (1, .int v1), (2, .int v2), (3, .int v3)] [] M
  have h := hf
  refine gx_iload_n Cx eX2_told_0 2 rfl ?_
  refine gx_case (0 : Int32) h (fun h => ?_) (fun n0 h => ?_)
  · refine gx_tsIn (tgt := 40) Cx eX2_told_1 (by decide) (by decide) rfl (by decide) ?_
    refine gx_aload_n Cx eX2_told_40 0 rfl ?_
    refine gfX2_9 Cx hk.1 eX2_told_41 ?_
    refine gx_iload_n Cx eX2_told_44 1 rfl ?_
    refine gx_iload_n Cx eX2_told_45 3 rfl ?_
    refine gx_iast Cx hk.2.1 eX2_told_46 h (fun M1 h => ?_)
    refine gx_goto (tgt := 109) Cx eX2_told_47 (by decide) ?_
    exact gx_rV h eX2_told_109 hR
  refine gx_case (1 : Int32) h (fun h => ?_) (fun n1 h => ?_)
  · refine gx_tsIn (tgt := 50) Cx eX2_told_1 (by decide) (by decide) rfl (by decide) ?_
    refine gx_aload_n Cx eX2_told_50 0 rfl ?_
    refine gfX2_15 Cx hk.1 eX2_told_51 ?_
    refine gx_iload_n Cx eX2_told_54 1 rfl ?_
    refine gx_iload_n Cx eX2_told_55 3 rfl ?_
    refine gx_iast Cx hk.2.2.1 eX2_told_56 h (fun M2 h => ?_)
    refine gx_goto (tgt := 109) Cx eX2_told_57 (by decide) ?_
    exact gx_rV h eX2_told_109 hR
  refine gx_case (2 : Int32) h (fun h => ?_) (fun n2 h => ?_)
  · refine gx_tsIn (tgt := 60) Cx eX2_told_1 (by decide) (by decide) rfl (by decide) ?_
    refine gx_aload_n Cx eX2_told_60 0 rfl ?_
    refine gfX2_18 Cx hk.1 eX2_told_61 ?_
    refine gx_iload_n Cx eX2_told_64 1 rfl ?_
    obtain ⟨y4, h3, h⟩ := gx_bP_of h
    refine gx_callSI Cx my_X2_cell wlX2_56 (by decide) rfl eX2_told_65 (c_X2_cell κ h3) rfl (Nat.le_of_ble_eq_true rfl) ?_
    refine gx_iload_n Cx eX2_told_68 3 rfl ?_
    refine gx_iast Cx hk.2.2.2.1 eX2_told_69 h (fun M5 h => ?_)
    refine gx_goto (tgt := 109) Cx eX2_told_70 (by decide) ?_
    exact gx_rV h eX2_told_109 hR
  refine gx_case (3 : Int32) h (fun h => ?_) (fun n3 h => ?_)
  · refine gx_tsIn (tgt := 73) Cx eX2_told_1 (by decide) (by decide) rfl (by decide) ?_
    refine gx_aload_n Cx eX2_told_73 0 rfl ?_
    refine gfX2_21 Cx hk.1 eX2_told_74 ?_
    refine gx_iload_n Cx eX2_told_77 1 rfl ?_
    obtain ⟨y7, h6, h⟩ := gx_bP_of h
    refine gx_callSI Cx my_X2_cell wlX2_56 (by decide) rfl eX2_told_78 (c_X2_cell κ h6) rfl (Nat.le_of_ble_eq_true rfl) ?_
    refine gx_iload_n Cx eX2_told_81 3 rfl ?_
    refine gx_iast Cx hk.2.2.2.2.1 eX2_told_82 h (fun M8 h => ?_)
    refine gx_goto (tgt := 109) Cx eX2_told_83 (by decide) ?_
    exact gx_rV h eX2_told_109 hR
  refine gx_case (4 : Int32) h (fun h => ?_) (fun n4 h => ?_)
  · refine gx_tsIn (tgt := 86) Cx eX2_told_1 (by decide) (by decide) rfl (by decide) ?_
    refine gx_aload_n Cx eX2_told_86 0 rfl ?_
    refine gfX2_24 Cx hk.1 eX2_told_87 ?_
    refine gx_iload_n Cx eX2_told_90 1 rfl ?_
    refine gx_iload_n Cx eX2_told_91 3 rfl ?_
    refine gx_iast Cx hk.2.2.2.2.2.1 eX2_told_92 h (fun M9 h => ?_)
    refine gx_goto (tgt := 109) Cx eX2_told_93 (by decide) ?_
    exact gx_rV h eX2_told_109 hR
  refine gx_case (5 : Int32) h (fun h => ?_) (fun n5 h => ?_)
  · refine gx_tsIn (tgt := 96) Cx eX2_told_1 (by decide) (by decide) rfl (by decide) ?_
    refine gx_aload_n Cx eX2_told_96 0 rfl ?_
    refine gx_iload_n Cx eX2_told_97 3 rfl ?_
    refine pfX2_38 Cx hk.1 eX2_told_98 h (fun M10 h => ?_)
    refine gx_goto (tgt := 109) Cx eX2_told_101 (by decide) ?_
    exact gx_rV h eX2_told_109 hR
  refine gx_tsOut (tgt := 104) Cx eX2_told_1 (by have zn0 := gx_neT (k := 0) n0 (by decide); have zn1 := gx_neT (k := 1) n1 (by decide); have zn2 := gx_neT (k := 2) n2 (by decide); have zn3 := gx_neT (k := 3) n3 (by decide); have zn4 := gx_neT (k := 4) n4 (by decide); have zn5 := gx_neT (k := 5) n5 (by decide); omega) (by decide) ?_
  refine gx_aload_n Cx eX2_told_104 0 rfl ?_
  refine gx_iload_n Cx eX2_told_105 3 rfl ?_
  refine pfX2_41 Cx hk.1 eX2_told_106 h (fun M11 h => ?_)
  exact gx_rV h eX2_told_109 hR
set_option maxHeartbeats 4000000 in
set_option maxRecDepth 100000 in
theorem c_X2_welcome (κ : gx_K) {k : Nat} (hk : gx_Ho k) {v1 : Int32} {v2 : Int32} {M : gx_Mem} {r9 : Int32} {M9 : gx_Mem} (hf : f_X2_welcome k v1 v2 M = some (r9, M9)) : gx_CI κ yX2_welcome cX2_welcome 3 (some .int) 0 [.ref (gx_a κ k), .int v1, .int v2] M r9 M9 := by
  refine gx_enterI (d := 0) my_X2_welcome.1 (by decide) (Nat.le_of_ble_eq_true rfl) (fun Γ Cx hR => ?_)
  change gx_G κ Γ 0 [(0, .ref (gx_a κ k)), (1, .int v1), (2, .int v2)] [] M
  have h := hf
  refine gx_aload_n Cx eX2_welcome_0 0 rfl ?_
  refine gfX2_34 Cx hk.1 eX2_welcome_1 ?_
  refine gx_bipush (v := (6 : Int32)) Cx eX2_welcome_4 (by decide) ?_
  refine gx_icmp_lt (tgt := 11) Cx eX2_welcome_6 (by decide) h (fun h => ?_) (fun h => ?_)
  · refine gx_aload_n Cx eX2_welcome_11 0 rfl ?_
    refine gfX2_9 Cx hk.1 eX2_welcome_12 ?_
    refine gx_aload_n Cx eX2_welcome_15 0 rfl ?_
    refine gfX2_34 Cx hk.1 eX2_welcome_16 ?_
    refine gx_iload_n Cx eX2_welcome_19 1 rfl ?_
    refine gx_iast Cx hk.2.1 eX2_welcome_20 h (fun M1 h => ?_)
    refine gx_aload_n Cx eX2_welcome_21 0 rfl ?_
    refine gfX2_15 Cx hk.1 eX2_welcome_22 ?_
    refine gx_aload_n Cx eX2_welcome_25 0 rfl ?_
    refine gfX2_34 Cx hk.1 eX2_welcome_26 ?_
    refine gx_iload_n Cx eX2_welcome_29 2 rfl ?_
    refine gx_iast Cx hk.2.2.1 eX2_welcome_30 h (fun M2 h => ?_)
    refine gx_aload_n Cx eX2_welcome_31 0 rfl ?_
    refine gx_dup Cx eX2_welcome_32 rfl ?_
    refine gfX2_34 Cx hk.1 eX2_welcome_33 ?_
    refine gx_iconst (v := (1 : Int32)) Cx eX2_welcome_36 (by decide) ?_
    refine gx_iadd Cx eX2_welcome_37 ?_
    refine pfX2_34 Cx hk.1 eX2_welcome_38 h (fun M3 h => ?_)
    refine gx_aload_n Cx eX2_welcome_41 0 rfl ?_
    refine gfX2_34 Cx hk.1 eX2_welcome_42 ?_
    refine gx_iconst (v := (1 : Int32)) Cx eX2_welcome_45 (by decide) ?_
    refine gx_isub Cx eX2_welcome_46 ?_
    exact gx_rI h rfl eX2_welcome_47 hR
  · refine gx_iconst (v := (-1 : Int32)) Cx eX2_welcome_9 (by decide) ?_
    exact gx_rI h rfl eX2_welcome_10 hR
set_option maxHeartbeats 4000000 in
set_option maxRecDepth 100000 in
theorem c_X2_dried (κ : gx_K) {k : Nat} (hk : gx_Ho k) {v1 : Int32} {M : gx_Mem} {r9 : Int32} {M9 : gx_Mem} (hf : f_X2_dried k v1 M = some (r9, M9)) : gx_CI κ yX2_dried cX2_dried 4 (some .int) 0 [.ref (gx_a κ k), .int v1] M r9 M9 := by
  refine gx_enterI (d := 0) my_X2_dried.1 (by decide) (Nat.le_of_ble_eq_true rfl) (fun Γ Cx hR => ?_)
  change gx_G κ Γ 0 [(0, .ref (gx_a κ k)), (1, .int v1)] [] M
  have K4 : ∀  (ag4 : Int32 → Int32 → gx_Mem → Option (Int32 × gx_Mem)) (hag4 : ∀ (v2 : Int32) (v3 : Int32) (M : gx_Mem), ag4 v2 v3 M = some (r9, M9) → gx_G κ Γ 4 [(0, .ref (gx_a κ k)), (1, .int v1), (2, .int v2), (3, .int v3)] [] M) (v2 : Int32) (v3 : Int32) (M : gx_Mem), f_X2_dried_k4 k v1 ag4 v2 v3 M = some (r9, M9) → gx_G κ Γ 4 [(0, .ref (gx_a κ k)), (1, .int v1), (2, .int v2), (3, .int v3)] [] M := by
    intro ag4 hag4
    intro v2 v3 M h
    refine gx_iload_n Cx eX2_dried_4 3 rfl ?_
    refine gx_iconst (v := (4 : Int32)) Cx eX2_dried_5 (by decide) ?_
    refine gx_icmp_ge (tgt := 39) Cx eX2_dried_6 (by decide) h (fun h => ?_) (fun h => ?_)
    · refine gx_aload_n Cx eX2_dried_39 0 rfl ?_
      refine gfX2_27 Cx hk.1 eX2_dried_40 ?_
      refine gx_iconst (v := (4 : Int32)) Cx eX2_dried_43 (by decide) ?_
      refine gx_dup2 Cx eX2_dried_44 rfl rfl ?_
      refine gx_ialdC (α := Unit) (b := none) Cx hk.2.2.2.2.2.2 eX2_dried_45 (by decide) ?_
      refine gx_iload_n Cx eX2_dried_46 2 rfl ?_
      refine gx_iadd Cx eX2_dried_47 ?_
      refine gx_iastC Cx hk.2.2.2.2.2.2 eX2_dried_48 (by decide) h (fun M1 h => ?_)
      refine gx_iload_n Cx eX2_dried_49 2 rfl ?_
      exact gx_rI h rfl eX2_dried_50 hR
    · refine gx_iload_n Cx eX2_dried_9 2 rfl ?_
      refine gx_aload_n Cx eX2_dried_10 0 rfl ?_
      refine gfX2_21 Cx hk.1 eX2_dried_11 ?_
      refine gx_iload_n Cx eX2_dried_14 1 rfl ?_
      refine gx_iconst (v := (4 : Int32)) Cx eX2_dried_15 (by decide) ?_
      refine gx_imul Cx eX2_dried_16 ?_
      refine gx_iload_n Cx eX2_dried_17 3 rfl ?_
      refine gx_iadd Cx eX2_dried_18 ?_
      refine gx_iald Cx hk.2.2.2.2.1 eX2_dried_19 h (fun h => ?_)
      refine gx_iadd Cx eX2_dried_20 ?_
      refine gx_nmI h (fun x2 h => ?_)
      refine gx_istore_n Cx eX2_dried_21 [(2, .int x2), (0, .ref (gx_a κ k)), (1, .int v1), (3, .int v3)] rfl (by decide) ?_
      refine gx_aload_n Cx eX2_dried_22 1 rfl ?_
      refine gfX2_21 Cx hk.1 eX2_dried_23 ?_
      refine gx_iload_n Cx eX2_dried_26 2 rfl ?_
      refine gx_iconst (v := (4 : Int32)) Cx eX2_dried_27 (by decide) ?_
      refine gx_imul Cx eX2_dried_28 ?_
      refine gx_iload_n Cx eX2_dried_29 3 rfl ?_
      refine gx_iadd Cx eX2_dried_30 ?_
      refine gx_iconst (v := (0 : Int32)) Cx eX2_dried_31 (by decide) ?_
      refine gx_iast Cx hk.2.2.2.2.1 eX2_dried_32 h (fun M3 h => ?_)
      refine gx_iinc (v := (1 : Int32)) (i := 3) (j := 3) Cx eX2_dried_33 (by decide) h 3 rfl (fun w => [(3, .int w), (2, .int x2), (0, .ref (gx_a κ k)), (1, .int v1)]) (fun _ => rfl) (by decide) (fun x4 h => ?_)
      refine gx_goto (tgt := 4) Cx eX2_dried_36 (by decide) ?_
      refine gx_sub [2, 3, 1, 0] rfl ?_
      exact hag4 _ _ _ h
  have L4 : ∀  (n : Nat) (v2 : Int32) (v3 : Int32) (M : gx_Mem), f_X2_dried_l4 k v1 n v2 v3 M = some (r9, M9) → gx_G κ Γ 4 [(0, .ref (gx_a κ k)), (1, .int v1), (2, .int v2), (3, .int v3)] [] M := by
    intro n
    induction n with
    | zero => intro v2 v3 M h; exact gx_loop_0 h
    | succ n ih => intro v2 v3 M h; exact K4 (fun v2 v3 M => f_X2_dried_l4 k v1 n v2 v3 M) ih v2 v3 M h
  have h := hf
  refine gx_iconst (v := (0 : Int32)) Cx eX2_dried_0 (by decide) ?_
  refine gx_istore_n Cx eX2_dried_1 [(2, .int (0 : Int32)), (0, .ref (gx_a κ k)), (1, .int v1)] rfl (by decide) ?_
  refine gx_iconst (v := (0 : Int32)) Cx eX2_dried_2 (by decide) ?_
  refine gx_istore_n Cx eX2_dried_3 [(3, .int (0 : Int32)), (2, .int (0 : Int32)), (0, .ref (gx_a κ k)), (1, .int v1)] rfl (by decide) ?_
  refine gx_sub [2, 3, 1, 0] rfl ?_
  exact L4 _ _ _ _ h

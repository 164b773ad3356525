def f_X4_favourite_b40  (ag4 : Int32 → Int32 → Option Int32) (v1 : Int32) (v2 : Int32) (v3 : Int32) (M : gx_Mem) : Option Int32 := gx_let (v3 + (1 : Int32)) (fun x1 => ag4 v2 x1)
def f_X4_favourite_k4   (v1 : Int32) (ag4 : Int32 → Int32 → Option Int32) (v2 : Int32) (v3 : Int32) (M : gx_Mem) : Option Int32 := (if (4 : Int32) ≤ v3 then some v2 else gx_gd (gx_in ((v1 * (4 : Int32)) + v3) 24) (gx_gd (gx_in ((v1 * (4 : Int32)) + v2) 24) ((if (M.1 12 ((v1 * (4 : Int32)) + v3).toNatClampNeg) ≤ (M.1 12 ((v1 * (4 : Int32)) + v2).toNatClampNeg) then f_X4_favourite_b40 ag4 v1 v2 v3 M else f_X4_favourite_b40 ag4 v1 v3 v3 M))))
def f_X4_favourite_l4   (v1 : Int32) (n : Nat) (v2 : Int32) (v3 : Int32) (M : gx_Mem) : Option Int32 := gx_loop (fun (ag4 : Int32 × Int32 → Option Int32) (s : Int32 × Int32) => f_X4_favourite_k4 v1 (fun v2 v3 => ag4 (v2, v3)) s.1 s.2 M) n (v2, v3)
def f_X4_favourite (v1 : Int32) (M : gx_Mem) : Option Int32 := f_X4_favourite_l4 v1 gx_fuel (0 : Int32) (1 : Int32) M
def f_X4_outIn (v1 : Int32) (M : gx_Mem) : Option Int32 := gx_bP (f_X2_outAt 9 (gx_rem ((M.1 9 9) + v1) (12 : Int32)) M) (fun y2 => some y2)
def f_X4_turns_b135  (ag28 : Int32 → Int32 → Int32 → gx_Mem → Option (Int32 × gx_Mem)) (v1 : Int32) (v2 : Int32) (v3 : Int32) (v4 : Int32) (v5 : Int32) (v6 : Int32) (v8 : Int32) (v9 : Int32) (s0 : Int32) (s1 : Int32) (M : gx_Mem) : Option (Int32 × gx_Mem) := gx_let (s0 + s1) (fun x13 => gx_let (v9 + (1 : Int32)) (fun x14 => ag28 x13 v8 x14 M))
def f_X4_turns_b108  (ag28 : Int32 → Int32 → Int32 → gx_Mem → Option (Int32 × gx_Mem)) (v1 : Int32) (v2 : Int32) (v3 : Int32) (v4 : Int32) (v5 : Int32) (v6 : Int32) (v7 : Int32) (v9 : Int32) (v10 : Int32) (v12 : Int32) (v13 : Int32) (s0 : Int32) (M : gx_Mem) : Option (Int32 × gx_Mem) := (if v10 = v1 then f_X4_turns_b135 ag28 v1 v2 v3 v4 v5 v6 s0 v9 v7 (gx_max v12 v13) M else f_X4_turns_b135 ag28 v1 v2 v3 v4 v5 v6 s0 v9 v7 (gx_min v12 v13) M)
def f_X4_turns_b46  (ag28 : Int32 → Int32 → Int32 → gx_Mem → Option (Int32 × gx_Mem)) (v1 : Int32) (v2 : Int32) (v3 : Int32) (v4 : Int32) (v5 : Int32) (v6 : Int32) (v7 : Int32) (v8 : Int32) (v9 : Int32) (s0 : Int32) (M : gx_Mem) : Option (Int32 × gx_Mem) := gx_bP (f_X4_outIn v9 M) (fun y6 => gx_bI (f_X2_drips 9 v1 v5 (y6 ||| (gx_shl (1 : Int32) s0)) M) (fun y8 M9 => gx_bI (f_X2_drips 9 v1 v5 (y6 &&& ((gx_shl (1 : Int32) s0) ^^^ (-1 : Int32))) M9) (fun y11 M12 => (if v9 = 0 then f_X4_turns_b108 ag28 v1 v2 v3 v4 v5 v6 v7 v9 s0 y8 y11 y8 M12 else f_X4_turns_b108 ag28 v1 v2 v3 v4 v5 v6 v7 v9 s0 y8 y11 v8 M12))))
def f_X4_turns_k28   (v1 : Int32) (v2 : Int32) (v3 : Int32) (v4 : Int32) (v5 : Int32) (v6 : Int32) (ag28 : Int32 → Int32 → Int32 → gx_Mem → Option (Int32 × gx_Mem)) (v7 : Int32) (v8 : Int32) (v9 : Int32) (M : gx_Mem) : Option (Int32 × gx_Mem) := (if v3 ≤ v9 then (if v4 = 0 then some ((gx_min v6 v7), M) else (if (gx_min v6 v7) ≤ (gx_min v6 (v7 - v8)) then some ((0 : Int32), M) else some ((1 : Int32), M))) else (if (gx_rem v9 (2 : Int32)) = 0 then f_X4_turns_b46 ag28 v1 v2 v3 v4 v5 v6 v7 v8 v9 v1 M else f_X4_turns_b46 ag28 v1 v2 v3 v4 v5 v6 v7 v8 v9 v2 M))
def f_X4_turns_l28   (v1 : Int32) (v2 : Int32) (v3 : Int32) (v4 : Int32) (v5 : Int32) (v6 : Int32) (n : Nat) (v7 : Int32) (v8 : Int32) (v9 : Int32) (M : gx_Mem) : Option (Int32 × gx_Mem) := gx_loop (fun (ag28 : Int32 × Int32 × Int32 × gx_Mem → Option (Int32 × gx_Mem)) (s : Int32 × Int32 × Int32 × gx_Mem) => f_X4_turns_k28 v1 v2 v3 v4 v5 v6 (fun v7 v8 v9 M => ag28 (v7, v8, v9, M)) s.1 s.2.1 s.2.2.1 s.2.2.2) n (v7, v8, v9, M)
def f_X4_turns (v1 : Int32) (v2 : Int32) (v3 : Int32) (v4 : Int32) (M : gx_Mem) : Option (Int32 × gx_Mem) := gx_bP (f_X4_favourite v2 M) (fun y2 => gx_bP (f_X2_room 9 v1 y2 M) (fun y4 => f_X4_turns_l28 v1 v2 v3 v4 y2 y4 gx_fuel (0 : Int32) (0 : Int32) (0 : Int32) M))
def f_X4_caughtBehind_k5   (v1 : Int32) (v2 : Int32) (ag5 : Int32 → Int32 → gx_Mem → Option (Int32 × gx_Mem)) (v3 : Int32) (v4 : Int32) (M : gx_Mem) : Option (Int32 × gx_Mem) := (if v1 ≤ v4 then some (v3, M) else gx_bP (f_X4_outIn v4 M) (fun y2 => gx_bI (f_X2_caughtBy 9 v2 y2 M) (fun y4 M5 => gx_let (v3 + y4) (fun x6 => gx_let (v4 + (1 : Int32)) (fun x7 => ag5 x6 x7 M5)))))
def f_X4_caughtBehind_l5   (v1 : Int32) (v2 : Int32) (n : Nat) (v3 : Int32) (v4 : Int32) (M : gx_Mem) : Option (Int32 × gx_Mem) := gx_loop (fun (ag5 : Int32 × Int32 × gx_Mem → Option (Int32 × gx_Mem)) (s : Int32 × Int32 × gx_Mem) => f_X4_caughtBehind_k5 v1 v2 (fun v3 v4 M => ag5 (v3, v4, M)) s.1 s.2.1 s.2.2) n (v3, v4, M)
def f_X4_caughtBehind (v1 : Int32) (v2 : Int32) (M : gx_Mem) : Option (Int32 × gx_Mem) := f_X4_caughtBehind_l5 v1 v2 gx_fuel (0 : Int32) (0 : Int32) M
def f_X4_exchange (v1 : Int32) (v2 : Int32) (M : gx_Mem) : Option gx_Mem := gx_gd (gx_in v1 6) (gx_let (M.1 31 v1.toNatClampNeg) (fun x1 => gx_gd (gx_in v2 6) (gx_gd (gx_in v1 6) (gx_let (gx_sI M 31 v1.toNatClampNeg (M.1 31 v2.toNatClampNeg)) (fun M2 => gx_gd (gx_in v2 6) (gx_let (gx_sI M2 31 v2.toNatClampNeg x1) (fun M3 => some M3)))))))
def f_X4_nextDealing_k89    (ag89 : Int32 → Int32 → gx_Mem → Option (Int32 × gx_Mem)) (v4 : Int32) (v5 : Int32) (M : gx_Mem) : Option (Int32 × gx_Mem) := (if v5 ≤ v4 then some ((1 : Int32), M) else gx_bP (f_X4_exchange v4 v5 M) (fun M9 => gx_let (v4 + (1 : Int32)) (fun x10 => gx_let (v5 + (-1 : Int32)) (fun x11 => ag89 x10 x11 M9))))
def f_X4_nextDealing_l89    (n : Nat) (v4 : Int32) (v5 : Int32) (M : gx_Mem) : Option (Int32 × gx_Mem) := gx_loop (fun (ag89 : Int32 × Int32 × gx_Mem → Option (Int32 × gx_Mem)) (s : Int32 × Int32 × gx_Mem) => f_X4_nextDealing_k89 (fun v4 v5 M => ag89 (v4, v5, M)) s.1 s.2.1 s.2.2) n (v4, v5, M)
def f_X4_nextDealing_b75   (v1 : Int32) (v2 : Int32) (v3 : Int32) (M : gx_Mem) : Option (Int32 × gx_Mem) := gx_bP (f_X4_exchange v2 v3 M) (fun M6 => gx_let (v2 + (1 : Int32)) (fun x7 => f_X4_nextDealing_l89 gx_fuel x7 v1 M6))
def f_X4_nextDealing_k49   (v1 : Int32) (v2 : Int32) (ag49 : Int32 → gx_Mem → Option (Int32 × gx_Mem)) (v3 : Int32) (M : gx_Mem) : Option (Int32 × gx_Mem) := (if v3 ≤ v2 then f_X4_nextDealing_b75 v1 v2 v3 M else gx_gd (gx_in v3 6) (gx_gd (gx_in v2 6) ((if (M.1 31 v2.toNatClampNeg) ≤ (M.1 31 v3.toNatClampNeg) then f_X4_nextDealing_b75 v1 v2 v3 M else gx_let (v3 + (-1 : Int32)) (fun x4 => ag49 x4 M)))))
def f_X4_nextDealing_l49   (v1 : Int32) (v2 : Int32) (n : Nat) (v3 : Int32) (M : gx_Mem) : Option (Int32 × gx_Mem) := gx_loop (fun (ag49 : Int32 × gx_Mem → Option (Int32 × gx_Mem)) (s : Int32 × gx_Mem) => f_X4_nextDealing_k49 v1 v2 (fun v3 M => ag49 (v3, M)) s.1 s.2) n (v3, M)
def f_X4_nextDealing_b41   (v1 : Int32) (v2 : Int32) (M : gx_Mem) : Option (Int32 × gx_Mem) := (if 0 ≤ v2 then f_X4_nextDealing_l49 v1 v2 gx_fuel v1 M else some ((0 : Int32), M))
def f_X4_nextDealing_k14   (v1 : Int32) (ag14 : Int32 → gx_Mem → Option (Int32 × gx_Mem)) (v2 : Int32) (M : gx_Mem) : Option (Int32 × gx_Mem) := (if v2 < 0 then f_X4_nextDealing_b41 v1 v2 M else gx_gd (gx_in v2 6) (gx_gd (gx_in (v2 + (1 : Int32)) 6) ((if (M.1 31 v2.toNatClampNeg) ≤ (M.1 31 (v2 + (1 : Int32)).toNatClampNeg) then f_X4_nextDealing_b41 v1 v2 M else gx_let (v2 + (-1 : Int32)) (fun x3 => ag14 x3 M)))))
def f_X4_nextDealing_l14   (v1 : Int32) (n : Nat) (v2 : Int32) (M : gx_Mem) : Option (Int32 × gx_Mem) := gx_loop (fun (ag14 : Int32 × gx_Mem → Option (Int32 × gx_Mem)) (s : Int32 × gx_Mem) => f_X4_nextDealing_k14 v1 (fun v2 M => ag14 (v2, M)) s.1 s.2) n (v2, M)
def f_X4_nextDealing (M : gx_Mem) : Option (Int32 × gx_Mem) := gx_let ((M.1 9 7) - (1 : Int32)) (fun x1 => gx_let (x1 - (1 : Int32)) (fun x2 => f_X4_nextDealing_l14 x1 gx_fuel x2 M))
def f_X4_wetter_b68 (k : Nat) (ag6 : Int32 → Int32 → gx_Mem → Option (Int32 × gx_Mem)) (v1 : Int32) (v3 : Int32) (v4 : Int32) (v5 : Int32) (v6 : Int32) (v7 : Int32) (v8 : Int32) (M : gx_Mem) : Option (Int32 × gx_Mem) := gx_let (v5 + (gx_min v7 v8)) (fun x10 => gx_let (v6 + (1 : Int32)) (fun x11 => ag6 x10 x11 M))
def f_X4_wetter_k27 (k : Nat) (ag6 : Int32 → Int32 → gx_Mem → Option (Int32 × gx_Mem)) (v1 : Int32) (v3 : Int32) (v4 : Int32) (v5 : Int32) (v6 : Int32) (v7 : Int32) (ag27 : Int32 → Int32 → gx_Mem → Option (Int32 × gx_Mem)) (v8 : Int32) (v9 : Int32) (M : gx_Mem) : Option (Int32 × gx_Mem) := (if (12 : Int32) ≤ v9 then f_X4_wetter_b68 k ag6 v1 v3 v4 v5 v6 v7 v8 M else (if v7 ≤ v8 then f_X4_wetter_b68 k ag6 v1 v3 v4 v5 v6 v7 v8 M else gx_bP (f_X2_outAt k v9 M) (fun y4 => gx_bI (f_X2_drips k v1 v6 (y4 &&& v4) M) (fun y6 M7 => gx_let (v8 + y6) (fun x8 => gx_let (v9 + (1 : Int32)) (fun x9 => ag27 x8 x9 M7))))))
def f_X4_wetter_l27 (k : Nat) (ag6 : Int32 → Int32 → gx_Mem → Option (Int32 × gx_Mem)) (v1 : Int32) (v3 : Int32) (v4 : Int32) (v5 : Int32) (v6 : Int32) (v7 : Int32) (n : Nat) (v8 : Int32) (v9 : Int32) (M : gx_Mem) : Option (Int32 × gx_Mem) := gx_loop (fun (ag27 : Int32 × Int32 × gx_Mem → Option (Int32 × gx_Mem)) (s : Int32 × Int32 × gx_Mem) => f_X4_wetter_k27 k ag6 v1 v3 v4 v5 v6 v7 (fun v8 v9 M => ag27 (v8, v9, M)) s.1 s.2.1 s.2.2) n (v8, v9, M)
def f_X4_wetter_k6 (k : Nat)  (v1 : Int32) (v3 : Int32) (v4 : Int32) (ag6 : Int32 → Int32 → gx_Mem → Option (Int32 × gx_Mem)) (v5 : Int32) (v6 : Int32) (M : gx_Mem) : Option (Int32 × gx_Mem) := (if v3 < v6 then some (v5, M) else gx_bP (f_X2_room k v1 v6 M) (fun y2 => f_X4_wetter_l27 k ag6 v1 v3 v4 v5 v6 y2 gx_fuel (0 : Int32) (0 : Int32) M))
def f_X4_wetter_l6 (k : Nat)  (v1 : Int32) (v3 : Int32) (v4 : Int32) (n : Nat) (v5 : Int32) (v6 : Int32) (M : gx_Mem) : Option (Int32 × gx_Mem) := gx_loop (fun (ag6 : Int32 × Int32 × gx_Mem → Option (Int32 × gx_Mem)) (s : Int32 × Int32 × gx_Mem) => f_X4_wetter_k6 k v1 v3 v4 (fun v5 v6 M => ag6 (v5, v6, M)) s.1 s.2.1 s.2.2) n (v5, v6, M)
def f_X4_wetter (k : Nat) (v1 : Int32) (v2 : Int32) (v3 : Int32) (v4 : Int32) (M : gx_Mem) : Option (Int32 × gx_Mem) := f_X4_wetter_l6 k v1 v3 v4 gx_fuel (0 : Int32) v2 M
def f_X4_deal_b158  (ag42 : Int32 → Int32 → gx_Mem → Option (Int32 × gx_Mem)) (v1 : Int32) (v2 : Int32) (v3 : Int32) (v4 : Int32) (v5 : Int32) (M : gx_Mem) : Option (Int32 × gx_Mem) := gx_bI (f_X4_nextDealing M) (fun y11 M12 => (if y11 = 0 then some (v4, M12) else gx_let (v5 + (1 : Int32)) (fun x13 => ag42 v4 x13 M12)))
def f_X4_deal_b136  (ag42 : Int32 → Int32 → gx_Mem → Option (Int32 × gx_Mem)) (v1 : Int32) (v2 : Int32) (v3 : Int32) (v5 : Int32) (v6 : Int32) (M : gx_Mem) : Option (Int32 × gx_Mem) := gx_gd (gx_cpk (0 : Int32) (0 : Int32) (6 : Int32) 6 6) (gx_let (gx_cI M 24 (0 : Int32).toNatClampNeg 32 (0 : Int32).toNatClampNeg (6 : Int32).toNatClampNeg) (fun M14 => f_X4_deal_b158 ag42 v1 v2 v3 v6 v5 M14))
def f_X4_deal_k53  (ag42 : Int32 → Int32 → gx_Mem → Option (Int32 × gx_Mem)) (v1 : Int32) (v2 : Int32) (v3 : Int32) (v4 : Int32) (v5 : Int32) (ag53 : Int32 → gx_Mem → Option (Int32 × gx_Mem)) (v6 : Int32) (M : gx_Mem) : Option (Int32 × gx_Mem) := (if (M.1 9 7) ≤ v6 then gx_bI (f_X4_wetter 23 v1 v2 v2 (63 : Int32) M) (fun y6 M7 => (if v5 = 0 then f_X4_deal_b136 ag42 v1 v2 v3 v5 y6 M7 else (if v3 = 0 then (if v4 ≤ y6 then f_X4_deal_b158 ag42 v1 v2 v3 v4 v5 M7 else f_X4_deal_b136 ag42 v1 v2 v3 v5 y6 M7) else (if y6 ≤ v4 then f_X4_deal_b158 ag42 v1 v2 v3 v4 v5 M7 else f_X4_deal_b136 ag42 v1 v2 v3 v5 y6 M7)))) else gx_gd (gx_in v6 6) (gx_gd (gx_in (M.1 31 v6.toNatClampNeg) 6) (gx_gd (gx_in v6 6) (gx_let (gx_sI M 24 v6.toNatClampNeg (M.1 10 (M.1 31 v6.toNatClampNeg).toNatClampNeg)) (fun M8 => gx_let (v6 + (1 : Int32)) (fun x9 => ag53 x9 M8))))))
def f_X4_deal_l53  (ag42 : Int32 → Int32 → gx_Mem → Option (Int32 × gx_Mem)) (v1 : Int32) (v2 : Int32) (v3 : Int32) (v4 : Int32) (v5 : Int32) (n : Nat) (v6 : Int32) (M : gx_Mem) : Option (Int32 × gx_Mem) := gx_loop (fun (ag53 : Int32 × gx_Mem → Option (Int32 × gx_Mem)) (s : Int32 × gx_Mem) => f_X4_deal_k53 ag42 v1 v2 v3 v4 v5 (fun v6 M => ag53 (v6, M)) s.1 s.2) n (v6, M)
def f_X4_deal_k42   (v1 : Int32) (v2 : Int32) (v3 : Int32) (ag42 : Int32 → Int32 → gx_Mem → Option (Int32 × gx_Mem)) (v4 : Int32) (v5 : Int32) (M : gx_Mem) : Option (Int32 × gx_Mem) := (if (720 : Int32) ≤ v5 then some (v4, M) else f_X4_deal_l53 ag42 v1 v2 v3 v4 v5 gx_fuel (0 : Int32) M)
def f_X4_deal_l42   (v1 : Int32) (v2 : Int32) (v3 : Int32) (n : Nat) (v4 : Int32) (v5 : Int32) (M : gx_Mem) : Option (Int32 × gx_Mem) := gx_loop (fun (ag42 : Int32 × Int32 × gx_Mem → Option (Int32 × gx_Mem)) (s : Int32 × Int32 × gx_Mem) => f_X4_deal_k42 v1 v2 v3 (fun v4 v5 M => ag42 (v4, v5, M)) s.1 s.2.1 s.2.2) n (v4, v5, M)
def f_X4_deal_k17   (v1 : Int32) (v2 : Int32) (v3 : Int32) (v4 : Int32) (ag17 : Int32 → gx_Mem → Option (Int32 × gx_Mem)) (v5 : Int32) (M : gx_Mem) : Option (Int32 × gx_Mem) := (if (6 : Int32) ≤ v5 then f_X4_deal_l42 v1 v2 v3 gx_fuel v4 (0 : Int32) M else gx_gd (gx_in v5 6) (gx_let (gx_sI M 31 v5.toNatClampNeg v5) (fun M3 => gx_let (v5 + (1 : Int32)) (fun x4 => ag17 x4 M3))))
def f_X4_deal_l17   (v1 : Int32) (v2 : Int32) (v3 : Int32) (v4 : Int32) (n : Nat) (v5 : Int32) (M : gx_Mem) : Option (Int32 × gx_Mem) := gx_loop (fun (ag17 : Int32 × gx_Mem → Option (Int32 × gx_Mem)) (s : Int32 × gx_Mem) => f_X4_deal_k17 v1 v2 v3 v4 (fun v5 M => ag17 (v5, M)) s.1 s.2) n (v5, M)
def f_X4_deal (v1 : Int32) (v2 : Int32) (v3 : Int32) (M : gx_Mem) : Option (Int32 × gx_Mem) := gx_bP (f_X2_liken 23 9 M) (fun M2 => f_X4_deal_l17 v1 v2 v3 (0 : Int32) gx_fuel (0 : Int32) M2)
def f_X4_dealtFlat (v1 : Int32) (M : gx_Mem) : Option Int32 := gx_gd (gx_in v1 6) (some (M.1 32 v1.toNatClampNeg))
def f_X4_caughtOfAll_k4   (v1 : Int32) (ag4 : Int32 → Int32 → gx_Mem → Option (Int32 × gx_Mem)) (v2 : Int32) (v3 : Int32) (M : gx_Mem) : Option (Int32 × gx_Mem) := (if (4 : Int32) ≤ v3 then some (v2, M) else gx_bI (f_X2_caughtBy 9 v3 v1 M) (fun y2 M3 => gx_let (v2 + y2) (fun x4 => gx_let (v3 + (1 : Int32)) (fun x5 => ag4 x4 x5 M3))))
def f_X4_caughtOfAll_l4   (v1 : Int32) (n : Nat) (v2 : Int32) (v3 : Int32) (M : gx_Mem) : Option (Int32 × gx_Mem) := gx_loop (fun (ag4 : Int32 × Int32 × gx_Mem → Option (Int32 × gx_Mem)) (s : Int32 × Int32 × gx_Mem) => f_X4_caughtOfAll_k4 v1 (fun v2 v3 M => ag4 (v2, v3, M)) s.1 s.2.1 s.2.2) n (v2, v3, M)
def f_X4_caughtOfAll (v1 : Int32) (M : gx_Mem) : Option (Int32 × gx_Mem) := f_X4_caughtOfAll_l4 v1 gx_fuel (0 : Int32) (0 : Int32) M
def f_X4_gainedInAll_k17  (ag4 : Int32 → Int32 → Option Int32) (v2 : Int32) (ag17 : Int32 → Int32 → Option Int32) (v1 : Int32) (v3 : Int32) (M : gx_Mem) : Option Int32 := (if (4 : Int32) ≤ v3 then gx_let (v2 + (1 : Int32)) (fun x1 => ag4 v1 x1) else gx_bP (f_X2_room 9 v2 v3 M) (fun y3 => gx_gd (gx_in ((v2 * (4 : Int32)) + v3) 24) (gx_let (v1 + (gx_min y3 (M.1 33 ((v2 * (4 : Int32)) + v3).toNatClampNeg))) (fun x4 => gx_let (v3 + (1 : Int32)) (fun x5 => ag17 x4 x5)))))
def f_X4_gainedInAll_l17  (ag4 : Int32 → Int32 → Option Int32) (v2 : Int32) (n : Nat) (v1 : Int32) (v3 : Int32) (M : gx_Mem) : Option Int32 := gx_loop (fun (ag17 : Int32 × Int32 → Option Int32) (s : Int32 × Int32) => f_X4_gainedInAll_k17 ag4 v2 (fun v1 v3 => ag17 (v1, v3)) s.1 s.2 M) n (v1, v3)
def f_X4_gainedInAll_k4    (ag4 : Int32 → Int32 → Option Int32) (v1 : Int32) (v2 : Int32) (M : gx_Mem) : Option Int32 := (if (M.1 9 7) ≤ v2 then some v1 else f_X4_gainedInAll_l17 ag4 v2 gx_fuel v1 (0 : Int32) M)
def f_X4_gainedInAll_l4    (n : Nat) (v1 : Int32) (v2 : Int32) (M : gx_Mem) : Option Int32 := gx_loop (fun (ag4 : Int32 × Int32 → Option Int32) (s : Int32 × Int32) => f_X4_gainedInAll_k4 (fun v1 v2 => ag4 (v1, v2)) s.1 s.2 M) n (v1, v2)
def f_X4_gainedInAll (M : gx_Mem) : Option Int32 := f_X4_gainedInAll_l4 gx_fuel (0 : Int32) (0 : Int32) M
def f_X4_soak_k15  (ag2 : Int32 → gx_Mem → Option gx_Mem) (v1 : Int32) (v2 : Int32) (ag15 : Int32 → gx_Mem → Option gx_Mem) (v3 : Int32) (M : gx_Mem) : Option gx_Mem := (if (4 : Int32) ≤ v3 then gx_let (v2 + (1 : Int32)) (fun x1 => ag2 x1 M) else gx_gd (gx_in ((v2 * (4 : Int32)) + v3) 24) (gx_bI (f_X2_drips 9 v2 v3 v1 M) (fun y3 M4 => gx_gd (gx_in ((v2 * (4 : Int32)) + v3) 24) (gx_let (gx_sI M4 33 ((v2 * (4 : Int32)) + v3).toNatClampNeg ((M.1 33 ((v2 * (4 : Int32)) + v3).toNatClampNeg) + y3)) (fun M5 => gx_let (v3 + (1 : Int32)) (fun x6 => ag15 x6 M5))))))
def f_X4_soak_l15  (ag2 : Int32 → gx_Mem → Option gx_Mem) (v1 : Int32) (v2 : Int32) (n : Nat) (v3 : Int32) (M : gx_Mem) : Option gx_Mem := gx_loop (fun (ag15 : Int32 × gx_Mem → Option gx_Mem) (s : Int32 × gx_Mem) => f_X4_soak_k15 ag2 v1 v2 (fun v3 M => ag15 (v3, M)) s.1 s.2) n (v3, M)
def f_X4_soak_k2   (v1 : Int32) (ag2 : Int32 → gx_Mem → Option gx_Mem) (v2 : Int32) (M : gx_Mem) : Option gx_Mem := (if (M.1 9 7) ≤ v2 then some M else f_X4_soak_l15 ag2 v1 v2 gx_fuel (0 : Int32) M)
def f_X4_soak_l2   (v1 : Int32) (n : Nat) (v2 : Int32) (M : gx_Mem) : Option gx_Mem := gx_loop (fun (ag2 : Int32 × gx_Mem → Option gx_Mem) (s : Int32 × gx_Mem) => f_X4_soak_k2 v1 (fun v2 M => ag2 (v2, M)) s.1 s.2) n (v2, M)
def f_X4_soak (v1 : Int32) (M : gx_Mem) : Option gx_Mem := f_X4_soak_l2 v1 gx_fuel (0 : Int32) M
def f_X4_draw_b126  (ag12 : Int32 → Int32 → Int32 → Int32 → gx_Mem → Option (Int32 × gx_Mem)) (ag45 : Int32 → Int32 → Int32 → gx_Mem → Option (Int32 × gx_Mem)) (v2 : Int32) (v3 : Int32) (v4 : Int32) (v5 : Int32) (v6 : Int32) (v7 : Int32) (v8 : Int32) (v9 : Int32) (M : gx_Mem) : Option (Int32 × gx_Mem) := gx_let (v9 + (1 : Int32)) (fun x16 => ag45 v5 v7 x16 M)
def f_X4_draw_k57  (ag12 : Int32 → Int32 → Int32 → Int32 → gx_Mem → Option (Int32 × gx_Mem)) (ag45 : Int32 → Int32 → Int32 → gx_Mem → Option (Int32 × gx_Mem)) (v2 : Int32) (v3 : Int32) (v4 : Int32) (v6 : Int32) (v7 : Int32) (v8 : Int32) (v9 : Int32) (ag57 : Int32 → Int32 → Int32 → gx_Mem → Option (Int32 × gx_Mem)) (v5 : Int32) (v10 : Int32) (v11 : Int32) (M : gx_Mem) : Option (Int32 × gx_Mem) := (if (M.1 9 7) ≤ v11 then (if v4 = 0 then gx_bP (f_X4_soak v10 M) (fun M8 => f_X4_draw_b126 ag12 ag45 v2 v3 v4 v5 v6 v7 v8 v9 M8) else gx_bI (f_X4_caughtOfAll v10 M) (fun y10 M11 => gx_let (v7 + y10) (fun x12 => f_X4_draw_b126 ag12 ag45 v2 v3 v4 v5 v6 x12 v8 v9 M11))) else gx_let ((v5 * (1103515245 : Int32)) + (12345 : Int32)) (fun x13 => gx_let (v10 ||| (gx_shl (gx_rem (gx_ushr x13 (8 : Int32)) (2 : Int32)) v11)) (fun x14 => gx_let (v11 + (1 : Int32)) (fun x15 => ag57 x13 x14 x15 M))))
def f_X4_draw_l57  (ag12 : Int32 → Int32 → Int32 → Int32 → gx_Mem → Option (Int32 × gx_Mem)) (ag45 : Int32 → Int32 → Int32 → gx_Mem → Option (Int32 × gx_Mem)) (v2 : Int32) (v3 : Int32) (v4 : Int32) (v6 : Int32) (v7 : Int32) (v8 : Int32) (v9 : Int32) (n : Nat) (v5 : Int32) (v10 : Int32) (v11 : Int32) (M : gx_Mem) : Option (Int32 × gx_Mem) := gx_loop (fun (ag57 : Int32 × Int32 × Int32 × gx_Mem → Option (Int32 × gx_Mem)) (s : Int32 × Int32 × Int32 × gx_Mem) => f_X4_draw_k57 ag12 ag45 v2 v3 v4 v6 v7 v8 v9 (fun v5 v10 v11 M => ag57 (v5, v10, v11, M)) s.1 s.2.1 s.2.2.1 s.2.2.2) n (v5, v10, v11, M)
def f_X4_draw_k45  (ag12 : Int32 → Int32 → Int32 → Int32 → gx_Mem → Option (Int32 × gx_Mem)) (v2 : Int32) (v3 : Int32) (v4 : Int32) (v6 : Int32) (v8 : Int32) (ag45 : Int32 → Int32 → Int32 → gx_Mem → Option (Int32 × gx_Mem)) (v5 : Int32) (v7 : Int32) (v9 : Int32) (M : gx_Mem) : Option (Int32 × gx_Mem) := (if v3 ≤ v9 then gx_bP (f_X4_gainedInAll M) (fun y4 => gx_let (v6 + y4) (fun x5 => gx_let (v8 + (1 : Int32)) (fun x6 => ag12 v5 x5 v7 x6 M))) else f_X4_draw_l57 ag12 ag45 v2 v3 v4 v6 v7 v8 v9 gx_fuel v5 (0 : Int32) (0 : Int32) M)
def f_X4_draw_l45  (ag12 : Int32 → Int32 → Int32 → Int32 → gx_Mem → Option (Int32 × gx_Mem)) (v2 : Int32) (v3 : Int32) (v4 : Int32) (v6 : Int32) (v8 : Int32) (n : Nat) (v5 : Int32) (v7 : Int32) (v9 : Int32) (M : gx_Mem) : Option (Int32 × gx_Mem) := gx_loop (fun (ag45 : Int32 × Int32 × Int32 × gx_Mem → Option (Int32 × gx_Mem)) (s : Int32 × Int32 × Int32 × gx_Mem) => f_X4_draw_k45 ag12 v2 v3 v4 v6 v8 (fun v5 v7 v9 M => ag45 (v5, v7, v9, M)) s.1 s.2.1 s.2.2.1 s.2.2.2) n (v5, v7, v9, M)
def f_X4_draw_k21  (ag12 : Int32 → Int32 → Int32 → Int32 → gx_Mem → Option (Int32 × gx_Mem)) (v2 : Int32) (v3 : Int32) (v4 : Int32) (v5 : Int32) (v6 : Int32) (v7 : Int32) (v8 : Int32) (ag21 : Int32 → gx_Mem → Option (Int32 × gx_Mem)) (v9 : Int32) (M : gx_Mem) : Option (Int32 × gx_Mem) := (if (24 : Int32) ≤ v9 then f_X4_draw_l45 ag12 v2 v3 v4 v6 v8 gx_fuel v5 v7 (0 : Int32) M else gx_gd (gx_in v9 24) (gx_let (gx_sI M 33 v9.toNatClampNeg (0 : Int32)) (fun M1 => gx_let (v9 + (1 : Int32)) (fun x2 => ag21 x2 M1))))
def f_X4_draw_l21  (ag12 : Int32 → Int32 → Int32 → Int32 → gx_Mem → Option (Int32 × gx_Mem)) (v2 : Int32) (v3 : Int32) (v4 : Int32) (v5 : Int32) (v6 : Int32) (v7 : Int32) (v8 : Int32) (n : Nat) (v9 : Int32) (M : gx_Mem) : Option (Int32 × gx_Mem) := gx_loop (fun (ag21 : Int32 × gx_Mem → Option (Int32 × gx_Mem)) (s : Int32 × gx_Mem) => f_X4_draw_k21 ag12 v2 v3 v4 v5 v6 v7 v8 (fun v9 M => ag21 (v9, M)) s.1 s.2) n (v9, M)
def f_X4_draw_k12   (v2 : Int32) (v3 : Int32) (v4 : Int32) (ag12 : Int32 → Int32 → Int32 → Int32 → gx_Mem → Option (Int32 × gx_Mem)) (v5 : Int32) (v6 : Int32) (v7 : Int32) (v8 : Int32) (M : gx_Mem) : Option (Int32 × gx_Mem) := (if v2 ≤ v8 then (if v4 = 0 then some (v6, M) else some (v7, M)) else f_X4_draw_l21 ag12 v2 v3 v4 v5 v6 v7 v8 gx_fuel (0 : Int32) M)
def f_X4_draw_l12   (v2 : Int32) (v3 : Int32) (v4 : Int32) (n : Nat) (v5 : Int32) (v6 : Int32) (v7 : Int32) (v8 : Int32) (M : gx_Mem) : Option (Int32 × gx_Mem) := gx_loop (fun (ag12 : Int32 × Int32 × Int32 × Int32 × gx_Mem → Option (Int32 × gx_Mem)) (s : Int32 × Int32 × Int32 × Int32 × gx_Mem) => f_X4_draw_k12 v2 v3 v4 (fun v5 v6 v7 v8 M => ag12 (v5, v6, v7, v8, M)) s.1 s.2.1 s.2.2.1 s.2.2.2.1 s.2.2.2.2) n (v5, v6, v7, v8, M)
def f_X4_draw (v1 : Int32) (v2 : Int32) (v3 : Int32) (v4 : Int32) (M : gx_Mem) : Option (Int32 × gx_Mem) := f_X4_draw_l12 v2 v3 v4 gx_fuel v1 (0 : Int32) (0 : Int32) (0 : Int32) M
def f_X4_spread_b48  (ag2 : Int32 → gx_Mem → Option gx_Mem) (v1 : Int32) (v2 : Int32) (v3 : Int32) (s1 : Int32) (s2 : Int32) (M : gx_Mem) : Option gx_Mem := gx_gd (gx_in s1 24) (gx_let (gx_sI M 28 s1.toNatClampNeg s2) (fun M2 => gx_let (v3 + (1 : Int32)) (fun x3 => ag2 x3 M2)))
def f_X4_spread_k2   (v1 : Int32) (v2 : Int32) (ag2 : Int32 → gx_Mem → Option gx_Mem) (v3 : Int32) (M : gx_Mem) : Option gx_Mem := (if (8 : Int32) ≤ v3 then some M else gx_let ((v1 * (8 : Int32)) + v3) (fun x1 => (if ((gx_shr v2 v3) &&& (1 : Int32)) = 0 then gx_gd (gx_in x1 24) (f_X4_spread_b48 ag2 v1 v2 v3 x1 (M.1 14 x1.toNatClampNeg) M) else f_X4_spread_b48 ag2 v1 v2 v3 x1 (9 : Int32) M)))
def f_X4_spread_l2   (v1 : Int32) (v2 : Int32) (n : Nat) (v3 : Int32) (M : gx_Mem) : Option gx_Mem := gx_loop (fun (ag2 : Int32 × gx_Mem → Option gx_Mem) (s : Int32 × gx_Mem) => f_X4_spread_k2 v1 v2 (fun v3 M => ag2 (v3, M)) s.1 s.2) n (v3, M)
def f_X4_spread (v1 : Int32) (v2 : Int32) (M : gx_Mem) : Option gx_Mem := f_X4_spread_l2 v1 v2 gx_fuel (0 : Int32) M
def f_X4_driest_b85  (ag34 : Int32 → Int32 → Int32 → gx_Mem → Option (Int32 × gx_Mem)) (v1 : Int32) (v2 : Int32) (v3 : Int32) (v4 : Int32) (v5 : Int32) (M : gx_Mem) : Option (Int32 × gx_Mem) := gx_let (v5 + (1 : Int32)) (fun x11 => ag34 v3 v4 x11 M)
def f_X4_driest_k34   (v1 : Int32) (v2 : Int32) (ag34 : Int32 → Int32 → Int32 → gx_Mem → Option (Int32 × gx_Mem)) (v3 : Int32) (v4 : Int32) (v5 : Int32) (M : gx_Mem) : Option (Int32 × gx_Mem) := (if (256 : Int32) ≤ v5 then some (v3, M) else gx_bP (f_J6_bitCount_0f7a4 v5 M) (fun y5 => (if v4 ≤ y5 then f_X4_driest_b85 ag34 v1 v2 v3 v4 v5 M else gx_bP (f_X4_spread v2 v5 M) (fun M7 => gx_bI (f_X4_wetter 23 v1 (0 : Int32) (3 : Int32) (63 : Int32) M7) (fun y9 M10 => (if y9 = 0 then f_X4_driest_b85 ag34 v1 v2 v5 y5 v5 M10 else f_X4_driest_b85 ag34 v1 v2 v3 v4 v5 M10))))))
def f_X4_driest_l34   (v1 : Int32) (v2 : Int32) (n : Nat) (v3 : Int32) (v4 : Int32) (v5 : Int32) (M : gx_Mem) : Option (Int32 × gx_Mem) := gx_loop (fun (ag34 : Int32 × Int32 × Int32 × gx_Mem → Option (Int32 × gx_Mem)) (s : Int32 × Int32 × Int32 × gx_Mem) => f_X4_driest_k34 v1 v2 (fun v3 v4 v5 M => ag34 (v3, v4, v5, M)) s.1 s.2.1 s.2.2.1 s.2.2.2) n (v3, v4, v5, M)
def f_X4_driest (v1 : Int32) (M : gx_Mem) : Option (Int32 × gx_Mem) := gx_gd (gx_in v1 6) (gx_let ((M.1 10 v1.toNatClampNeg) / (8 : Int32)) (fun x1 => gx_bP (f_X2_liken 23 9 M) (fun M3 => f_X4_driest_l34 v1 x1 gx_fuel (-2 : Int32) (9 : Int32) (0 : Int32) M3)))
def f_X4_firstWetter_b48  (ag2 : Int32 → gx_Mem → Option (Int32 × gx_Mem)) (ag10 : Int32 → gx_Mem → Option (Int32 × gx_Mem)) (v1 : Int32) (v2 : Int32) (v3 : Int32) (M : gx_Mem) : Option (Int32 × gx_Mem) := gx_let (v3 + (1 : Int32)) (fun x9 => ag10 x9 M)
def f_X4_firstWetter_k10  (ag2 : Int32 → gx_Mem → Option (Int32 × gx_Mem)) (v1 : Int32) (v2 : Int32) (ag10 : Int32 → gx_Mem → Option (Int32 × gx_Mem)) (v3 : Int32) (M : gx_Mem) : Option (Int32 × gx_Mem) := (if (4 : Int32) ≤ v3 then gx_let (v2 + (1 : Int32)) (fun x1 => ag2 x1 M) else gx_bP (f_X2_room 9 v1 v3 M) (fun y3 => (if y3 ≤ 0 then f_X4_firstWetter_b48 ag2 ag10 v1 v2 v3 M else gx_bP (f_X4_outIn (v2 - (1 : Int32)) M) (fun y5 => gx_bI (f_X2_drips 9 v1 v3 y5 M) (fun y7 M8 => (if y7 ≤ 0 then f_X4_firstWetter_b48 ag2 ag10 v1 v2 v3 M8 else some (v2, M8)))))))
def f_X4_firstWetter_l10  (ag2 : Int32 → gx_Mem → Option (Int32 × gx_Mem)) (v1 : Int32) (v2 : Int32) (n : Nat) (v3 : Int32) (M : gx_Mem) : Option (Int32 × gx_Mem) := gx_loop (fun (ag10 : Int32 × gx_Mem → Option (Int32 × gx_Mem)) (s : Int32 × gx_Mem) => f_X4_firstWetter_k10 ag2 v1 v2 (fun v3 M => ag10 (v3, M)) s.1 s.2) n (v3, M)
def f_X4_firstWetter_k2   (v1 : Int32) (ag2 : Int32 → gx_Mem → Option (Int32 × gx_Mem)) (v2 : Int32) (M : gx_Mem) : Option (Int32 × gx_Mem) := (if (48 : Int32) < v2 then some ((-2 : Int32), M) else f_X4_firstWetter_l10 ag2 v1 v2 gx_fuel (0 : Int32) M)
def f_X4_firstWetter_l2   (v1 : Int32) (n : Nat) (v2 : Int32) (M : gx_Mem) : Option (Int32 × gx_Mem) := gx_loop (fun (ag2 : Int32 × gx_Mem → Option (Int32 × gx_Mem)) (s : Int32 × gx_Mem) => f_X4_firstWetter_k2 v1 (fun v2 M => ag2 (v2, M)) s.1 s.2) n (v2, M)
def f_X4_firstWetter (v1 : Int32) (M : gx_Mem) : Option (Int32 × gx_Mem) := f_X4_firstWetter_l2 v1 gx_fuel (1 : Int32) M
def f_X4_pairs_b60  (ag5 : Int32 → Int32 → gx_Mem → Option (Int32 × gx_Mem)) (v1 : Int32) (v2 : Int32) (v3 : Int32) (v4 : Int32) (M : gx_Mem) : Option (Int32 × gx_Mem) := gx_let (v4 + (1 : Int32)) (fun x5 => ag5 v3 x5 M)
def f_X4_pairs_b37  (ag5 : Int32 → Int32 → gx_Mem → Option (Int32 × gx_Mem)) (v1 : Int32) (v2 : Int32) (v3 : Int32) (v4 : Int32) (s1 : Int32) (M : gx_Mem) : Option (Int32 × gx_Mem) := gx_bI (f_X4_wetter 9 s1 (0 : Int32) (3 : Int32) ((gx_shl (1 : Int32) v1) ||| (gx_shl (1 : Int32) v4)) M) (fun y2 M3 => (if y2 ≤ 0 then f_X4_pairs_b60 ag5 v1 v2 v3 v4 M3 else gx_let (v3 ||| (gx_shl (1 : Int32) v4)) (fun x4 => f_X4_pairs_b60 ag5 v1 v2 x4 v4 M3)))
def f_X4_pairs_k5   (v1 : Int32) (v2 : Int32) (ag5 : Int32 → Int32 → gx_Mem → Option (Int32 × gx_Mem)) (v3 : Int32) (v4 : Int32) (M : gx_Mem) : Option (Int32 × gx_Mem) := (if (M.1 9 7) ≤ v4 then some (v3, M) else (if v4 = v1 then f_X4_pairs_b60 ag5 v1 v2 v3 v4 M else (if v2 = 0 then f_X4_pairs_b37 ag5 v1 v2 v3 v4 v1 M else f_X4_pairs_b37 ag5 v1 v2 v3 v4 v4 M)))
def f_X4_pairs_l5   (v1 : Int32) (v2 : Int32) (n : Nat) (v3 : Int32) (v4 : Int32) (M : gx_Mem) : Option (Int32 × gx_Mem) := gx_loop (fun (ag5 : Int32 × Int32 × gx_Mem → Option (Int32 × gx_Mem)) (s : Int32 × Int32 × gx_Mem) => f_X4_pairs_k5 v1 v2 (fun v3 v4 M => ag5 (v3, v4, M)) s.1 s.2.1 s.2.2) n (v3, v4, M)
def f_X4_pairs (v1 : Int32) (v2 : Int32) (M : gx_Mem) : Option (Int32 × gx_Mem) := f_X4_pairs_l5 v1 v2 gx_fuel (0 : Int32) (0 : Int32) M
def f_X4_overSets_b82  (ag17 : Int32 → Int32 → gx_Mem → Option (Int32 × gx_Mem)) (v1 : Int32) (v2 : Int32) (v3 : Int32) (v4 : Int32) (v5 : Int32) (v6 : Int32) (M : gx_Mem) : Option (Int32 × gx_Mem) := gx_let (v6 + (1 : Int32)) (fun x6 => ag17 v5 x6 M)
def f_X4_overSets_b79  (ag17 : Int32 → Int32 → gx_Mem → Option (Int32 × gx_Mem)) (v1 : Int32) (v2 : Int32) (v3 : Int32) (v4 : Int32) (v6 : Int32) (s0 : Int32) (s1 : Int32) (M : gx_Mem) : Option (Int32 × gx_Mem) := gx_let (s0 + s1) (fun x5 => f_X4_overSets_b82 ag17 v1 v2 v3 v4 x5 v6 M)
def f_X4_overSets_k17   (v1 : Int32) (v2 : Int32) (v3 : Int32) (v4 : Int32) (ag17 : Int32 → Int32 → gx_Mem → Option (Int32 × gx_Mem)) (v5 : Int32) (v6 : Int32) (M : gx_Mem) : Option (Int32 × gx_Mem) := (if (gx_shl (1 : Int32) (M.1 9 7)) ≤ v6 then some (v5, M) else (if ((gx_shr v6 v1) &&& (1 : Int32)) = 0 then f_X4_overSets_b82 ag17 v1 v2 v3 v4 v5 v6 M else gx_bI (f_X2_reaches 9 (v4 / (8 : Int32)) (gx_rem v4 (8 : Int32)) v2 v6 M) (fun y3 M4 => (if v3 = 0 then f_X4_overSets_b79 ag17 v1 v2 v3 v4 v6 v5 (gx_min (1 : Int32) y3) M4 else f_X4_overSets_b79 ag17 v1 v2 v3 v4 v6 v5 y3 M4))))
def f_X4_overSets_l17   (v1 : Int32) (v2 : Int32) (v3 : Int32) (v4 : Int32) (n : Nat) (v5 : Int32) (v6 : Int32) (M : gx_Mem) : Option (Int32 × gx_Mem) := gx_loop (fun (ag17 : Int32 × Int32 × gx_Mem → Option (Int32 × gx_Mem)) (s : Int32 × Int32 × gx_Mem) => f_X4_overSets_k17 v1 v2 v3 v4 (fun v5 v6 M => ag17 (v5, v6, M)) s.1 s.2.1 s.2.2) n (v5, v6, M)
def f_X4_overSets (v1 : Int32) (v2 : Int32) (v3 : Int32) (M : gx_Mem) : Option (Int32 × gx_Mem) := gx_gd (gx_in v1 6) (gx_let (M.1 10 v1.toNatClampNeg) (fun x1 => f_X4_overSets_l17 v1 v2 v3 x1 gx_fuel (0 : Int32) (0 : Int32) M))
def f_X4_wetBehind_k6   (v1 : Int32) (v2 : Int32) (v3 : Int32) (ag6 : Int32 → Int32 → gx_Mem → Option (Int32 × gx_Mem)) (v4 : Int32) (v5 : Int32) (M : gx_Mem) : Option (Int32 × gx_Mem) := (if v1 ≤ v5 then gx_gd (gx_in ((v2 * (4 : Int32)) + v3) 24) (gx_bP (f_X2_room 9 v2 v3 M) (fun y2 => some (((M.1 13 ((v2 * (4 : Int32)) + v3).toNatClampNeg) + (gx_min y2 v4)), M))) else gx_bP (f_X4_outIn v5 M) (fun y4 => gx_bI (f_X2_drips 9 v2 v3 y4 M) (fun y6 M7 => gx_let (v4 + y6) (fun x8 => gx_let (v5 + (1 : Int32)) (fun x9 => ag6 x8 x9 M7)))))
def f_X4_wetBehind_l6   (v1 : Int32) (v2 : Int32) (v3 : Int32) (n : Nat) (v4 : Int32) (v5 : Int32) (M : gx_Mem) : Option (Int32 × gx_Mem) := gx_loop (fun (ag6 : Int32 × Int32 × gx_Mem → Option (Int32 × gx_Mem)) (s : Int32 × Int32 × gx_Mem) => f_X4_wetBehind_k6 v1 v2 v3 (fun v4 v5 M => ag6 (v4, v5, M)) s.1 s.2.1 s.2.2) n (v4, v5, M)
def f_X4_wetBehind (v1 : Int32) (v2 : Int32) (v3 : Int32) (M : gx_Mem) : Option (Int32 × gx_Mem) := f_X4_wetBehind_l6 v1 v2 v3 gx_fuel (0 : Int32) (0 : Int32) M
def f_X4_allBehind_k5   (v1 : Int32) (v2 : Int32) (ag5 : Int32 → Int32 → gx_Mem → Option (Int32 × gx_Mem)) (v3 : Int32) (v4 : Int32) (M : gx_Mem) : Option (Int32 × gx_Mem) := (if (4 : Int32) ≤ v4 then some (v3, M) else gx_bI (f_X4_wetBehind v1 v2 v4 M) (fun y2 M3 => gx_let (v3 + y2) (fun x4 => gx_let (v4 + (1 : Int32)) (fun x5 => ag5 x4 x5 M3))))
def f_X4_allBehind_l5   (v1 : Int32) (v2 : Int32) (n : Nat) (v3 : Int32) (v4 : Int32) (M : gx_Mem) : Option (Int32 × gx_Mem) := gx_loop (fun (ag5 : Int32 × Int32 × gx_Mem → Option (Int32 × gx_Mem)) (s : Int32 × Int32 × gx_Mem) => f_X4_allBehind_k5 v1 v2 (fun v3 v4 M => ag5 (v3, v4, M)) s.1 s.2.1 s.2.2) n (v3, v4, M)
def f_X4_allBehind (v1 : Int32) (v2 : Int32) (M : gx_Mem) : Option (Int32 × gx_Mem) := f_X4_allBehind_l5 v1 v2 gx_fuel (0 : Int32) (0 : Int32) M
def f_X4_mostBehind_b39  (ag9 : Int32 → Int32 → Int32 → gx_Mem → Option (Int32 × gx_Mem)) (v1 : Int32) (v2 : Int32) (v3 : Int32) (v4 : Int32) (v5 : Int32) (M : gx_Mem) : Option (Int32 × gx_Mem) := gx_let (v5 + (1 : Int32)) (fun x4 => ag9 v3 v4 x4 M)
def f_X4_mostBehind_k9   (v1 : Int32) (v2 : Int32) (ag9 : Int32 → Int32 → Int32 → gx_Mem → Option (Int32 × gx_Mem)) (v3 : Int32) (v4 : Int32) (v5 : Int32) (M : gx_Mem) : Option (Int32 × gx_Mem) := (if (4 : Int32) ≤ v5 then some (v3, M) else gx_bI (f_X4_wetBehind v1 v2 v5 M) (fun y2 M3 => (if y2 ≤ v4 then f_X4_mostBehind_b39 ag9 v1 v2 v3 v4 v5 M3 else f_X4_mostBehind_b39 ag9 v1 v2 v5 y2 v5 M3)))
def f_X4_mostBehind_l9   (v1 : Int32) (v2 : Int32) (n : Nat) (v3 : Int32) (v4 : Int32) (v5 : Int32) (M : gx_Mem) : Option (Int32 × gx_Mem) := gx_loop (fun (ag9 : Int32 × Int32 × Int32 × gx_Mem → Option (Int32 × gx_Mem)) (s : Int32 × Int32 × Int32 × gx_Mem) => f_X4_mostBehind_k9 v1 v2 (fun v3 v4 v5 M => ag9 (v3, v4, v5, M)) s.1 s.2.1 s.2.2.1 s.2.2.2) n (v3, v4, v5, M)
def f_X4_mostBehind (v1 : Int32) (v2 : Int32) (M : gx_Mem) : Option (Int32 × gx_Mem) := f_X4_mostBehind_l9 v1 v2 gx_fuel (-2 : Int32) (0 : Int32) (0 : Int32) M
def f_X4_comesInAll_k23  (ag4 : Int32 → Int32 → gx_Mem → Option (Int32 × gx_Mem)) (v1 : Int32) (v3 : Int32) (v4 : Int32) (ag23 : Int32 → Int32 → gx_Mem → Option (Int32 × gx_Mem)) (v2 : Int32) (v5 : Int32) (M : gx_Mem) : Option (Int32 × gx_Mem) := (if (4 : Int32) ≤ v5 then gx_let (v3 + (1 : Int32)) (fun x3 => ag4 v2 x3 M) else gx_bI (f_X2_reaches 9 (v1 / (8 : Int32)) (gx_rem v1 (8 : Int32)) v5 v4 M) (fun y5 M6 => gx_let (v2 + y5) (fun x7 => gx_let (v5 + (1 : Int32)) (fun x8 => ag23 x7 x8 M6))))
def f_X4_comesInAll_l23  (ag4 : Int32 → Int32 → gx_Mem → Option (Int32 × gx_Mem)) (v1 : Int32) (v3 : Int32) (v4 : Int32) (n : Nat) (v2 : Int32) (v5 : Int32) (M : gx_Mem) : Option (Int32 × gx_Mem) := gx_loop (fun (ag23 : Int32 × Int32 × gx_Mem → Option (Int32 × gx_Mem)) (s : Int32 × Int32 × gx_Mem) => f_X4_comesInAll_k23 ag4 v1 v3 v4 (fun v2 v5 M => ag23 (v2, v5, M)) s.1 s.2.1 s.2.2) n (v2, v5, M)
def f_X4_comesInAll_k4   (v1 : Int32) (ag4 : Int32 → Int32 → gx_Mem → Option (Int32 × gx_Mem)) (v2 : Int32) (v3 : Int32) (M : gx_Mem) : Option (Int32 × gx_Mem) := (if (12 : Int32) ≤ v3 then some (v2, M) else gx_bP (f_X2_outAt 9 v3 M) (fun y2 => f_X4_comesInAll_l23 ag4 v1 v3 y2 gx_fuel v2 (0 : Int32) M))
def f_X4_comesInAll_l4   (v1 : Int32) (n : Nat) (v2 : Int32) (v3 : Int32) (M : gx_Mem) : Option (Int32 × gx_Mem) := gx_loop (fun (ag4 : Int32 × Int32 × gx_Mem → Option (Int32 × gx_Mem)) (s : Int32 × Int32 × gx_Mem) => f_X4_comesInAll_k4 v1 (fun v2 v3 M => ag4 (v2, v3, M)) s.1 s.2.1 s.2.2) n (v2, v3, M)
def f_X4_comesInAll (v1 : Int32) (M : gx_Mem) : Option (Int32 × gx_Mem) := f_X4_comesInAll_l4 v1 gx_fuel (0 : Int32) (0 : Int32) M
def f_X4_share_b102  (ag63 : Int64 → Int32 → gx_Mem → Option (Int32 × gx_Mem)) (v1 : Int32) (v2 : Int32) (w3 : Int64) (v7 : Int32) (s0 : Int64) (s1 : Int64) (M : gx_Mem) : Option (Int32 × gx_Mem) := gx_let (s0 + s1) (fun x7 => gx_let (v7 + (1 : Int32)) (fun x8 => ag63 x7 x8 M))
def f_X4_share_k63   (v1 : Int32) (v2 : Int32) (w3 : Int64) (ag63 : Int64 → Int32 → gx_Mem → Option (Int32 × gx_Mem)) (w5 : Int64) (v7 : Int32) (M : gx_Mem) : Option (Int32 × gx_Mem) := (if (M.1 9 7) ≤ v7 then (if (lg_cmp w5 (0 : Int64)) = 0 then some ((0 : Int32), M) else gx_gd (gx_in v1 6) ((if (lg_cmp (M.2 34 v1.toNatClampNeg) (0 : Int64)) = 0 then some ((0 : Int32), M) else gx_gd (gx_in v1 6) (gx_gd (decide (¬ (M.2 34 v1.toNatClampNeg) = 0)) (gx_gd (decide (¬ w5 = 0)) (some ((((v2.toInt64 * (w3 / (M.2 34 v1.toNatClampNeg))) / w5).toInt32), M))))))) else gx_gd (gx_in v7 6) ((if (lg_cmp (M.2 34 v7.toNatClampNeg) (0 : Int64)) = 0 then f_X4_share_b102 ag63 v1 v2 w3 v7 w5 (0 : Int64) M else gx_gd (gx_in v7 6) (gx_gd (decide (¬ (M.2 34 v7.toNatClampNeg) = 0)) (f_X4_share_b102 ag63 v1 v2 w3 v7 w5 (w3 / (M.2 34 v7.toNatClampNeg)) M)))))
def f_X4_share_l63   (v1 : Int32) (v2 : Int32) (w3 : Int64) (n : Nat) (w5 : Int64) (v7 : Int32) (M : gx_Mem) : Option (Int32 × gx_Mem) := gx_loop (fun (ag63 : Int64 × Int32 × gx_Mem → Option (Int32 × gx_Mem)) (s : Int64 × Int32 × gx_Mem) => f_X4_share_k63 v1 v2 w3 (fun w5 v7 M => ag63 (w5, v7, M)) s.1 s.2.1 s.2.2) n (w5, v7, M)
def f_X4_share_k5   (v1 : Int32) (v2 : Int32) (ag5 : Int64 → Int32 → gx_Mem → Option (Int32 × gx_Mem)) (w3 : Int64) (v5 : Int32) (M : gx_Mem) : Option (Int32 × gx_Mem) := (if (M.1 9 7) ≤ v5 then f_X4_share_l63 v1 v2 w3 gx_fuel (0 : Int64) (0 : Int32) M else gx_gd (gx_in v5 6) (gx_bI (f_X4_comesInAll (M.1 10 v5.toNatClampNeg) M) (fun y2 M3 => gx_gd (gx_in v5 6) (gx_let (gx_sL M3 34 v5.toNatClampNeg (((1 : Int32) + y2).toInt64)) (fun M4 => gx_gd (gx_in v5 6) (gx_let (w3 * (M4.2 34 v5.toNatClampNeg)) (fun x5 => gx_let (v5 + (1 : Int32)) (fun x6 => ag5 x5 x6 M4))))))))
def f_X4_share_l5   (v1 : Int32) (v2 : Int32) (n : Nat) (w3 : Int64) (v5 : Int32) (M : gx_Mem) : Option (Int32 × gx_Mem) := gx_loop (fun (ag5 : Int64 × Int32 × gx_Mem → Option (Int32 × gx_Mem)) (s : Int64 × Int32 × gx_Mem) => f_X4_share_k5 v1 v2 (fun w3 v5 M => ag5 (w3, v5, M)) s.1 s.2.1 s.2.2) n (w3, v5, M)
def f_X4_share (v1 : Int32) (v2 : Int32) (M : gx_Mem) : Option (Int32 × gx_Mem) := f_X4_share_l5 v1 v2 gx_fuel (1 : Int64) (0 : Int32) M
def f_X4_partner_b148  (ag15 : Int32 → gx_Mem → Option (Int32 × gx_Mem)) (v1 : Int32) (v2 : Int32) (v3 : Int32) (M : gx_Mem) : Option (Int32 × gx_Mem) := gx_let (v3 + (1 : Int32)) (fun x17 => ag15 x17 M)
def f_X4_partner_k15   (v1 : Int32) (v2 : Int32) (ag15 : Int32 → gx_Mem → Option (Int32 × gx_Mem)) (v3 : Int32) (M : gx_Mem) : Option (Int32 × gx_Mem) := (if (M.1 9 7) ≤ v3 then some ((-2 : Int32), M) else (if v3 = v1 then f_X4_partner_b148 ag15 v1 v2 v3 M else gx_bI (f_X4_wetter 9 v3 (0 : Int32) (3 : Int32) (63 : Int32) M) (fun y5 M6 => gx_bP (f_X2_liken 23 9 M6) (fun M8 => gx_gd (gx_in v3 6) (gx_gd (gx_in v1 6) (gx_let (gx_sI M8 24 v1.toNatClampNeg (M8.1 10 v3.toNatClampNeg)) (fun M9 => gx_gd (gx_in v1 6) (gx_gd (gx_in v3 6) (gx_let (gx_sI M9 24 v3.toNatClampNeg (M9.1 10 v1.toNatClampNeg)) (fun M10 => gx_bI (f_X4_wetter 23 v1 (0 : Int32) (3 : Int32) (63 : Int32) M10) (fun y12 M13 => gx_bI (f_X4_wetter 23 v3 (0 : Int32) (3 : Int32) (63 : Int32) M13) (fun y15 M16 => (if v2 < y12 then f_X4_partner_b148 ag15 v1 v2 v3 M16 else (if y5 < y15 then f_X4_partner_b148 ag15 v1 v2 v3 M16 else (if y12 < v2 then some (v3, M16) else (if y5 ≤ y15 then f_X4_partner_b148 ag15 v1 v2 v3 M16 else some (v3, M16)))))))))))))))))
def f_X4_partner_l15   (v1 : Int32) (v2 : Int32) (n : Nat) (v3 : Int32) (M : gx_Mem) : Option (Int32 × gx_Mem) := gx_loop (fun (ag15 : Int32 × gx_Mem → Option (Int32 × gx_Mem)) (s : Int32 × gx_Mem) => f_X4_partner_k15 v1 v2 (fun v3 M => ag15 (v3, M)) s.1 s.2) n (v3, M)
def f_X4_partner (v1 : Int32) (M : gx_Mem) : Option (Int32 × gx_Mem) := gx_bI (f_X4_wetter 9 v1 (0 : Int32) (3 : Int32) (63 : Int32) M) (fun y2 M3 => f_X4_partner_l15 v1 y2 gx_fuel (0 : Int32) M3)
def f_X4_fills_k2 (k : Nat) (b : Nat)  (v2 : Int32) (ag2 : Int32 → gx_Mem → Option (Int32 × gx_Mem)) (v3 : Int32) (M : gx_Mem) : Option (Int32 × gx_Mem) := (if (4 : Int32) ≤ v3 then some ((1 : Int32), M) else gx_bI (f_X2_caughtBy k v3 v2 M) (fun y2 M3 => gx_gd (gx_in v3 60) ((if (lg_cmp y2.toInt64 (M3.2 b v3.toNatClampNeg)) = 0 then gx_let (v3 + (1 : Int32)) (fun x4 => ag2 x4 M3) else some ((0 : Int32), M3)))))
def f_X4_fills_l2 (k : Nat) (b : Nat)  (v2 : Int32) (n : Nat) (v3 : Int32) (M : gx_Mem) : Option (Int32 × gx_Mem) := gx_loop (fun (ag2 : Int32 × gx_Mem → Option (Int32 × gx_Mem)) (s : Int32 × gx_Mem) => f_X4_fills_k2 k b v2 (fun v3 M => ag2 (v3, M)) s.1 s.2) n (v3, M)
def f_X4_fills (k : Nat) (b : Nat) (v2 : Int32) (M : gx_Mem) : Option (Int32 × gx_Mem) := f_X4_fills_l2 k b v2 gx_fuel (0 : Int32) M
def f_X4_amounts_b82 (b : Nat) (ag31 : Int32 → Int32 → Int32 → gx_Mem → Option (Int32 × gx_Mem)) (v3 : Int32) (v4 : Int32) (v5 : Int32) (v6 : Int32) (v7 : Int32) (v8 : Int32) (M : gx_Mem) : Option (Int32 × gx_Mem) := gx_let (v8 + (1 : Int32)) (fun x10 => ag31 v5 v6 x10 M)
def f_X4_amounts_b77 (b : Nat) (ag31 : Int32 → Int32 → Int32 → gx_Mem → Option (Int32 × gx_Mem)) (v3 : Int32) (v4 : Int32) (v5 : Int32) (v7 : Int32) (v8 : Int32) (s0 : Int32) (M : gx_Mem) : Option (Int32 × gx_Mem) := gx_let (v5 + (1 : Int32)) (fun x9 => f_X4_amounts_b82 b ag31 v3 v4 x9 s0 v7 v8 M)
def f_X4_amounts_k31 (b : Nat)  (v3 : Int32) (v4 : Int32) (v7 : Int32) (ag31 : Int32 → Int32 → Int32 → gx_Mem → Option (Int32 × gx_Mem)) (v5 : Int32) (v6 : Int32) (v8 : Int32) (M : gx_Mem) : Option (Int32 × gx_Mem) := gx_gd (gx_in (2 : Int32) 7) ((if (gx_tab 0 (2 : Int32).toNatClampNeg) < v8 then (if v4 = 0 then some (v5, M) else some (v6, M)) else gx_gd (gx_in v3 24) (gx_let (gx_sI M 26 v3.toNatClampNeg v8) (fun M5 => gx_bI (f_X4_fills 23 b v7 M5) (fun y7 M8 => (if y7 = 0 then f_X4_amounts_b82 b ag31 v3 v4 v5 v6 v7 v8 M8 else (if v5 = 0 then f_X4_amounts_b77 b ag31 v3 v4 v5 v7 v8 v8 M8 else f_X4_amounts_b77 b ag31 v3 v4 v5 v7 v8 v6 M8)))))))
def f_X4_amounts_l31 (b : Nat)  (v3 : Int32) (v4 : Int32) (v7 : Int32) (n : Nat) (v5 : Int32) (v6 : Int32) (v8 : Int32) (M : gx_Mem) : Option (Int32 × gx_Mem) := gx_loop (fun (ag31 : Int32 × Int32 × Int32 × gx_Mem → Option (Int32 × gx_Mem)) (s : Int32 × Int32 × Int32 × gx_Mem) => f_X4_amounts_k31 b v3 v4 v7 (fun v5 v6 v8 M => ag31 (v5, v6, v8, M)) s.1 s.2.1 s.2.2.1 s.2.2.2) n (v5, v6, v8, M)
def f_X4_amounts (b : Nat) (v2 : Int32) (v3 : Int32) (v4 : Int32) (M : gx_Mem) : Option (Int32 × gx_Mem) := gx_bP (f_X2_outAt 9 v2 M) (fun y2 => gx_bP (f_X2_liken 23 9 M) (fun M4 => f_X4_amounts_l31 b v3 v4 y2 gx_fuel (0 : Int32) (-2 : Int32) (0 : Int32) M4))
def f_X4_sets_b63 (b : Nat) (ag13 : Int32 → Int32 → Int32 → Int32 → gx_Mem → Option (Int32 × gx_Mem)) (v2 : Int32) (v3 : Int32) (v4 : Int32) (v5 : Int32) (v6 : Int32) (M : gx_Mem) : Option (Int32 × gx_Mem) := gx_let (v6 + (1 : Int32)) (fun x6 => ag13 v3 v4 v5 x6 M)
def f_X4_sets_b51 (b : Nat) (ag13 : Int32 → Int32 → Int32 → Int32 → gx_Mem → Option (Int32 × gx_Mem)) (v2 : Int32) (v3 : Int32) (v5 : Int32) (v6 : Int32) (s0 : Int32) (M : gx_Mem) : Option (Int32 × gx_Mem) := gx_let (v5 &&& v6) (fun x4 => gx_let (v3 + (1 : Int32)) (fun x5 => f_X4_sets_b63 b ag13 v2 x5 s0 x4 v6 M))
def f_X4_sets_k13 (b : Nat)  (v2 : Int32) (ag13 : Int32 → Int32 → Int32 → Int32 → gx_Mem → Option (Int32 × gx_Mem)) (v3 : Int32) (v4 : Int32) (v5 : Int32) (v6 : Int32) (M : gx_Mem) : Option (Int32 × gx_Mem) := (if (gx_shl (1 : Int32) (M.1 9 7)) ≤ v6 then (if v2 = (2 : Int32) then (if v3 = 0 then some ((0 : Int32), M) else some (v5, M)) else (if v2 = (1 : Int32) then some (v4, M) else some (v3, M))) else gx_bI (f_X4_fills 9 b v6 M) (fun y2 M3 => (if y2 = 0 then f_X4_sets_b63 b ag13 v2 v3 v4 v5 v6 M3 else (if v3 = 0 then f_X4_sets_b51 b ag13 v2 v3 v5 v6 v6 M3 else f_X4_sets_b51 b ag13 v2 v3 v5 v6 v4 M3))))
def f_X4_sets_l13 (b : Nat)  (v2 : Int32) (n : Nat) (v3 : Int32) (v4 : Int32) (v5 : Int32) (v6 : Int32) (M : gx_Mem) : Option (Int32 × gx_Mem) := gx_loop (fun (ag13 : Int32 × Int32 × Int32 × Int32 × gx_Mem → Option (Int32 × gx_Mem)) (s : Int32 × Int32 × Int32 × Int32 × gx_Mem) => f_X4_sets_k13 b v2 (fun v3 v4 v5 v6 M => ag13 (v3, v4, v5, v6, M)) s.1 s.2.1 s.2.2.1 s.2.2.2.1 s.2.2.2.2) n (v3, v4, v5, v6, M)
def f_X4_sets (b : Nat) (v2 : Int32) (M : gx_Mem) : Option (Int32 × gx_Mem) := f_X4_sets_l13 b v2 gx_fuel (0 : Int32) (-2 : Int32) (63 : Int32) (0 : Int32) M
set_option maxHeartbeats 4000000 in
set_option maxRecDepth 100000 in
theorem c_X4_favourite (κ : gx_K) {v1 : Int32} {M : gx_Mem} {r9 : Int32} (hf : f_X4_favourite v1 M = some r9) : gx_CI κ yX4_favourite cX4_favourite 4 (some .int) 0 [.ref (gx_a κ 30), .int v1] M r9 M := by
  refine gx_enterI (d := 0) my_X4_favourite.1 (by decide) (Nat.le_of_ble_eq_true rfl) (fun Γ Cx hR => ?_)
  change gx_G κ Γ 0 [(0, .ref (gx_a κ 30)), (1, .int v1)] [] M
  have K4 : ∀  (ag4 : Int32 → Int32 → Option Int32) (hag4 : ∀ (v2 : Int32) (v3 : Int32), ag4 v2 v3 = some r9 → gx_G κ Γ 4 [(0, .ref (gx_a κ 30)), (1, .int v1), (2, .int v2), (3, .int v3)] [] M) (v2 : Int32) (v3 : Int32), f_X4_favourite_k4 v1 ag4 v2 v3 M = some r9 → gx_G κ Γ 4 [(0, .ref (gx_a κ 30)), (1, .int v1), (2, .int v2), (3, .int v3)] [] M := by
    intro ag4 hag4
    have B40 : ∀ (v2 : Int32) (v3 : Int32), f_X4_favourite_b40 ag4 v1 v2 v3 M = some r9 → gx_G κ Γ 40 [(0, .ref (gx_a κ 30)), (1, .int v1), (2, .int v2), (3, .int v3)] [] M := by
      intro v2 v3 h
      refine gx_iinc (v := (1 : Int32)) (i := 3) (j := 3) Cx eX4_favourite_40 (by decide) h 3 rfl (fun w => [(3, .int w), (0, .ref (gx_a κ 30)), (1, .int v1), (2, .int v2)]) (fun _ => rfl) (by decide) (fun x1 h => ?_)
      refine gx_goto (tgt := 4) Cx eX4_favourite_43 (by decide) ?_
      refine gx_sub [1, 2, 3, 0] rfl ?_
      exact hag4 _ _ h
    intro v2 v3 h
    refine gx_iload_n Cx eX4_favourite_4 3 rfl ?_
    refine gx_iconst (v := (4 : Int32)) Cx eX4_favourite_5 (by decide) ?_
    refine gx_icmp_ge (tgt := 46) Cx eX4_favourite_6 (by decide) h (fun h => ?_) (fun h => ?_)
    · refine gx_iload_n Cx eX4_favourite_46 2 rfl ?_
      exact gx_rIp h rfl eX4_favourite_47 hR
    · refine gx_aload_n Cx eX4_favourite_9 0 rfl ?_
      refine gfX4_25 Cx eX4_favourite_10 ?_
      refine gfX4_113 Cx gx_y9 eX4_favourite_13 ?_
      refine gx_iload_n Cx eX4_favourite_16 1 rfl ?_
      refine gx_iconst (v := (4 : Int32)) Cx eX4_favourite_17 (by decide) ?_
      refine gx_imul Cx eX4_favourite_18 ?_
      refine gx_iload_n Cx eX4_favourite_19 3 rfl ?_
      refine gx_iadd Cx eX4_favourite_20 ?_
      refine gx_iald Cx gx_y12 eX4_favourite_21 h (fun h => ?_)
      refine gx_aload_n Cx eX4_favourite_22 0 rfl ?_
      refine gfX4_25 Cx eX4_favourite_23 ?_
      refine gfX4_113 Cx gx_y9 eX4_favourite_26 ?_
      refine gx_iload_n Cx eX4_favourite_29 1 rfl ?_
      refine gx_iconst (v := (4 : Int32)) Cx eX4_favourite_30 (by decide) ?_
      refine gx_imul Cx eX4_favourite_31 ?_
      refine gx_iload_n Cx eX4_favourite_32 2 rfl ?_
      refine gx_iadd Cx eX4_favourite_33 ?_
      refine gx_iald Cx gx_y12 eX4_favourite_34 h (fun h => ?_)
      refine gx_icmp_le (tgt := 40) Cx eX4_favourite_35 (by decide) h (fun h => ?_) (fun h => ?_)
      · exact B40 _ _ h
      · refine gx_iload_n Cx eX4_favourite_38 3 rfl ?_
        refine gx_istore_n Cx eX4_favourite_39 [(2, .int v3), (0, .ref (gx_a κ 30)), (1, .int v1), (3, .int v3)] rfl (by decide) ?_
        refine gx_sub [1, 2, 0, 3] rfl ?_
        exact B40 _ _ h
  have L4 : ∀  (n : Nat) (v2 : Int32) (v3 : Int32), f_X4_favourite_l4 v1 n v2 v3 M = some r9 → gx_G κ Γ 4 [(0, .ref (gx_a κ 30)), (1, .int v1), (2, .int v2), (3, .int v3)] [] M := by
    intro n
    induction n with
    | zero => intro v2 v3 h; exact gx_loop_0 h
    | succ n ih => intro v2 v3 h; exact K4 (fun v2 v3 => f_X4_favourite_l4 v1 n v2 v3 M) ih v2 v3 h
  have h := hf
  refine gx_iconst (v := (0 : Int32)) Cx eX4_favourite_0 (by decide) ?_
  refine gx_istore_n Cx eX4_favourite_1 [(2, .int (0 : Int32)), (0, .ref (gx_a κ 30)), (1, .int v1)] rfl (by decide) ?_
  refine gx_iconst (v := (1 : Int32)) Cx eX4_favourite_2 (by decide) ?_
  refine gx_istore_n Cx eX4_favourite_3 [(3, .int (1 : Int32)), (2, .int (0 : Int32)), (0, .ref (gx_a κ 30)), (1, .int v1)] rfl (by decide) ?_
  refine gx_sub [2, 3, 1, 0] rfl ?_
  exact L4 _ _ _ h
set_option maxHeartbeats 4000000 in
set_option maxRecDepth 100000 in
theorem c_X4_outIn (κ : gx_K) {v1 : Int32} {M : gx_Mem} {r9 : Int32} (hf : f_X4_outIn v1 M = some r9) : gx_CI κ yX4_outIn cX4_outIn 2 (some .int) 1 [.ref (gx_a κ 30), .int v1] M r9 M := by
  refine gx_enterI (d := 1) my_X4_outIn.1 (by decide) (Nat.le_of_ble_eq_true rfl) (fun Γ Cx hR => ?_)
  change gx_G κ Γ 0 [(0, .ref (gx_a κ 30)), (1, .int v1)] [] M
  have h := hf
  refine gx_aload_n Cx eX4_outIn_0 0 rfl ?_
  refine gfX4_25 Cx eX4_outIn_1 ?_
  refine gx_aload_n Cx eX4_outIn_4 0 rfl ?_
  refine gfX4_25 Cx eX4_outIn_5 ?_
  refine gfX4_32 Cx gx_y9 eX4_outIn_8 ?_
  refine gx_iload_n Cx eX4_outIn_11 1 rfl ?_
  refine gx_iadd Cx eX4_outIn_12 ?_
  refine gx_bipush (v := (12 : Int32)) Cx eX4_outIn_13 (by decide) ?_
  refine gx_iremC Cx eX4_outIn_15 (by decide) ?_
  obtain ⟨y2, h1, h⟩ := gx_bP_of h
  refine gx_callVI (ci := 2) Cx my_X2_outAt wlX4_38 rfl gx_y9 (by decide) rfl eX4_outIn_16 (c_X2_outAt κ gx_Ho9 h1) rfl (Nat.le_of_ble_eq_true rfl) ?_
  exact gx_rIp h rfl eX4_outIn_19 hR
set_option maxHeartbeats 4000000 in
set_option maxRecDepth 100000 in
theorem c_X4_turns (κ : gx_K) {v1 : Int32} {v2 : Int32} {v3 : Int32} {v4 : Int32} {M : gx_Mem} {r9 : Int32} {M9 : gx_Mem} (hf : f_X4_turns v1 v2 v3 v4 M = some (r9, M9)) : gx_CI κ yX4_turns cX4_turns 14 (some .int) 5 [.ref (gx_a κ 30), .int v1, .int v2, .int v3, .int v4] M r9 M9 := by
  refine gx_enterI (d := 5) my_X4_turns.1 (by decide) (Nat.le_of_ble_eq_true rfl) (fun Γ Cx hR => ?_)
  change gx_G κ Γ 0 [(0, .ref (gx_a κ 30)), (1, .int v1), (2, .int v2), (3, .int v3), (4, .int v4)] [] M
  have K28 : ∀ (v5 : Int32) (v6 : Int32) (ag28 : Int32 → Int32 → Int32 → gx_Mem → Option (Int32 × gx_Mem)) (hag28 : ∀ (v7 : Int32) (v8 : Int32) (v9 : Int32) (M : gx_Mem), ag28 v7 v8 v9 M = some (r9, M9) → gx_G κ Γ 28 [(0, .ref (gx_a κ 30)), (1, .int v1), (2, .int v2), (3, .int v3), (4, .int v4), (5, .int v5), (6, .int v6), (7, .int v7), (8, .int v8), (9, .int v9)] [] M) (v7 : Int32) (v8 : Int32) (v9 : Int32) (M : gx_Mem), f_X4_turns_k28 v1 v2 v3 v4 v5 v6 ag28 v7 v8 v9 M = some (r9, M9) → gx_G κ Γ 28 [(0, .ref (gx_a κ 30)), (1, .int v1), (2, .int v2), (3, .int v3), (4, .int v4), (5, .int v5), (6, .int v6), (7, .int v7), (8, .int v8), (9, .int v9)] [] M := by
    intro v5 v6 ag28 hag28
    have B135 : ∀ (v8 : Int32) (v9 : Int32) (s0 : Int32) (s1 : Int32) (M : gx_Mem), f_X4_turns_b135 ag28 v1 v2 v3 v4 v5 v6 v8 v9 s0 s1 M = some (r9, M9) → gx_G κ Γ 135 [(0, .ref (gx_a κ 30)), (1, .int v1), (2, .int v2), (3, .int v3), (4, .int v4), (5, .int v5), (6, .int v6), (8, .int v8), (9, .int v9)] [.int s1, .int s0] M := by
      intro v8 v9 s0 s1 M h
      refine gx_iadd Cx eX4_turns_135 ?_
      refine gx_nmI h (fun x13 h => ?_)
      refine gx_istore Cx eX4_turns_136 [(7, .int x13), (0, .ref (gx_a κ 30)), (1, .int v1), (2, .int v2), (3, .int v3), (4, .int v4), (5, .int v5), (6, .int v6), (8, .int v8), (9, .int v9)] rfl (by decide) ?_
      refine gx_iinc (v := (1 : Int32)) (i := 9) (j := 9) Cx eX4_turns_138 (by decide) h 9 rfl (fun w => [(9, .int w), (7, .int x13), (0, .ref (gx_a κ 30)), (1, .int v1), (2, .int v2), (3, .int v3), (4, .int v4), (5, .int v5), (6, .int v6), (8, .int v8)]) (fun _ => rfl) (by decide) (fun x14 h => ?_)
      refine gx_goto (tgt := 28) Cx eX4_turns_141 (by decide) ?_
      refine gx_sub [2, 3, 4, 5, 6, 7, 8, 1, 9, 0] rfl ?_
      exact hag28 _ _ _ _ h
    have B108 : ∀ (v7 : Int32) (v9 : Int32) (v10 : Int32) (v12 : Int32) (v13 : Int32) (s0 : Int32) (M : gx_Mem), f_X4_turns_b108 ag28 v1 v2 v3 v4 v5 v6 v7 v9 v10 v12 v13 s0 M = some (r9, M9) → gx_G κ Γ 108 [(0, .ref (gx_a κ 30)), (1, .int v1), (2, .int v2), (3, .int v3), (4, .int v4), (5, .int v5), (6, .int v6), (7, .int v7), (9, .int v9), (10, .int v10), (12, .int v12), (13, .int v13)] [.int s0] M := by
      intro v7 v9 v10 v12 v13 s0 M h
      refine gx_istore Cx eX4_turns_108 [(8, .int s0), (0, .ref (gx_a κ 30)), (1, .int v1), (2, .int v2), (3, .int v3), (4, .int v4), (5, .int v5), (6, .int v6), (7, .int v7), (9, .int v9), (10, .int v10), (12, .int v12), (13, .int v13)] rfl (by decide) ?_
      refine gx_iload Cx eX4_turns_110 8 rfl ?_
      refine gx_iload Cx eX4_turns_112 10 rfl ?_
      refine gx_iload_n Cx eX4_turns_114 2 rfl ?_
      refine gx_icmp_ne (tgt := 128) Cx eX4_turns_115 (by decide) h (fun h => ?_) (fun h => ?_)
      · refine gx_iload Cx eX4_turns_128 11 rfl ?_
        refine gx_iload Cx eX4_turns_130 12 rfl ?_
        refine gx_mmin Cx wlX4_56 (Nat.le_of_ble_eq_true rfl) (Nat.le_of_ble_eq_true rfl) eX4_turns_132 ?_
        refine gx_sub [1, 2, 3, 4, 5, 6, 7, 0, 9] rfl ?_
        exact B135 _ _ _ _ _ h
      · refine gx_iload Cx eX4_turns_118 11 rfl ?_
        refine gx_iload Cx eX4_turns_120 12 rfl ?_
        refine gx_mmax Cx wlX4_126 (Nat.le_of_ble_eq_true rfl) (Nat.le_of_ble_eq_true rfl) eX4_turns_122 ?_
        refine gx_goto (tgt := 135) Cx eX4_turns_125 (by decide) ?_
        refine gx_sub [1, 2, 3, 4, 5, 6, 7, 0, 9] rfl ?_
        exact B135 _ _ _ _ _ h
    have B46 : ∀ (v7 : Int32) (v8 : Int32) (v9 : Int32) (s0 : Int32) (M : gx_Mem), f_X4_turns_b46 ag28 v1 v2 v3 v4 v5 v6 v7 v8 v9 s0 M = some (r9, M9) → gx_G κ Γ 46 [(0, .ref (gx_a κ 30)), (1, .int v1), (2, .int v2), (3, .int v3), (4, .int v4), (5, .int v5), (6, .int v6), (7, .int v7), (8, .int v8), (9, .int v9)] [.int s0] M := by
      intro v7 v8 v9 s0 M h
      refine gx_istore Cx eX4_turns_46 [(10, .int s0), (0, .ref (gx_a κ 30)), (1, .int v1), (2, .int v2), (3, .int v3), (4, .int v4), (5, .int v5), (6, .int v6), (7, .int v7), (8, .int v8), (9, .int v9)] rfl (by decide) ?_
      refine gx_aload_n Cx eX4_turns_48 1 rfl ?_
      refine gx_iload Cx eX4_turns_49 10 rfl ?_
      obtain ⟨y6, h5, h⟩ := gx_bP_of h
      refine gx_callVI (ci := 4) Cx my_X4_outIn wlX4_42 rfl gx_y30 (by decide) rfl eX4_turns_51 (c_X4_outIn κ h5) rfl (Nat.le_of_ble_eq_true rfl) ?_
      refine gx_istore Cx eX4_turns_54 [(11, .int y6), (10, .int s0), (0, .ref (gx_a κ 30)), (1, .int v1), (2, .int v2), (3, .int v3), (4, .int v4), (5, .int v5), (6, .int v6), (7, .int v7), (8, .int v8), (9, .int v9)] rfl (by decide) ?_
      refine gx_aload_n Cx eX4_turns_56 2 rfl ?_
      refine gfX4_25 Cx eX4_turns_57 ?_
      refine gx_iload_n Cx eX4_turns_60 3 rfl ?_
      refine gx_iload Cx eX4_turns_61 7 rfl ?_
      refine gx_iload Cx eX4_turns_63 0 rfl ?_
      refine gx_iconst (v := (1 : Int32)) Cx eX4_turns_65 (by decide) ?_
      refine gx_iload Cx eX4_turns_66 1 rfl ?_
      refine gx_ishl Cx eX4_turns_68 ?_
      refine gx_ior Cx eX4_turns_69 ?_
      obtain ⟨y8, M9, h7, h⟩ := gx_bI_of h
      refine gx_callVI (ci := 2) Cx my_X2_drips wlX4_45 rfl gx_y9 (by decide) rfl eX4_turns_70 (c_X2_drips κ gx_Ho9 h7) rfl (Nat.le_of_ble_eq_true rfl) ?_
      refine gx_istore Cx eX4_turns_73 [(12, .int y8), (11, .int y6), (10, .int s0), (0, .ref (gx_a κ 30)), (1, .int v1), (2, .int v2), (3, .int v3), (4, .int v4), (5, .int v5), (6, .int v6), (7, .int v7), (8, .int v8), (9, .int v9)] rfl (by decide) ?_
      refine gx_aload_n Cx eX4_turns_75 3 rfl ?_
      refine gfX4_25 Cx eX4_turns_76 ?_
      refine gx_iload_n Cx eX4_turns_79 4 rfl ?_
      refine gx_iload Cx eX4_turns_80 8 rfl ?_
      refine gx_iload Cx eX4_turns_82 1 rfl ?_
      refine gx_iconst (v := (1 : Int32)) Cx eX4_turns_84 (by decide) ?_
      refine gx_iload Cx eX4_turns_85 2 rfl ?_
      refine gx_ishl Cx eX4_turns_87 ?_
      refine gx_iconst (v := (-1 : Int32)) Cx eX4_turns_88 (by decide) ?_
      refine gx_ixor Cx eX4_turns_89 ?_
      refine gx_iand Cx eX4_turns_90 ?_
      obtain ⟨y11, M12, h10, h⟩ := gx_bI_of h
      refine gx_callVI (ci := 2) Cx my_X2_drips wlX4_45 rfl gx_y9 (by decide) rfl eX4_turns_91 (c_X2_drips κ gx_Ho9 h10) rfl (Nat.le_of_ble_eq_true rfl) ?_
      refine gx_istore Cx eX4_turns_94 [(13, .int y11), (12, .int y8), (11, .int y6), (10, .int s0), (0, .ref (gx_a κ 30)), (1, .int v1), (2, .int v2), (3, .int v3), (4, .int v4), (5, .int v5), (6, .int v6), (7, .int v7), (8, .int v8), (9, .int v9)] rfl (by decide) ?_
      refine gx_iload Cx eX4_turns_96 13 rfl ?_
      refine gx_if_ne (tgt := 106) Cx eX4_turns_98 (by decide) h (fun h => ?_) (fun h => ?_)
      · refine gx_iload Cx eX4_turns_106 12 rfl ?_
        refine gx_sub [4, 5, 6, 7, 8, 9, 10, 11, 13, 3, 1, 0] rfl ?_
        exact B108 _ _ _ _ _ _ _ h
      · refine gx_iload Cx eX4_turns_101 1 rfl ?_
        refine gx_goto (tgt := 108) Cx eX4_turns_103 (by decide) ?_
        refine gx_sub [4, 5, 6, 7, 8, 9, 10, 11, 13, 3, 1, 0] rfl ?_
        exact B108 _ _ _ _ _ _ _ h
    intro v7 v8 v9 M h
    refine gx_iload Cx eX4_turns_28 9 rfl ?_
    refine gx_iload_n Cx eX4_turns_30 3 rfl ?_
    refine gx_icmp_ge (tgt := 144) Cx eX4_turns_31 (by decide) h (fun h => ?_) (fun h => ?_)
    · refine gx_iload Cx eX4_turns_144 4 rfl ?_
      refine gx_if_eq (tgt := 175) Cx eX4_turns_146 (by decide) h (fun h => ?_) (fun h => ?_)
      · refine gx_iload Cx eX4_turns_175 6 rfl ?_
        refine gx_iload Cx eX4_turns_177 7 rfl ?_
        refine gx_mmin Cx wlX4_56 (Nat.le_of_ble_eq_true rfl) (Nat.le_of_ble_eq_true rfl) eX4_turns_179 ?_
        exact gx_rI h rfl eX4_turns_182 hR
      · refine gx_iload Cx eX4_turns_149 6 rfl ?_
        refine gx_iload Cx eX4_turns_151 7 rfl ?_
        refine gx_mmin Cx wlX4_56 (Nat.le_of_ble_eq_true rfl) (Nat.le_of_ble_eq_true rfl) eX4_turns_153 ?_
        refine gx_iload Cx eX4_turns_156 6 rfl ?_
        refine gx_iload Cx eX4_turns_158 7 rfl ?_
        refine gx_iload Cx eX4_turns_160 8 rfl ?_
        refine gx_isub Cx eX4_turns_162 ?_
        refine gx_mmin Cx wlX4_56 (Nat.le_of_ble_eq_true rfl) (Nat.le_of_ble_eq_true rfl) eX4_turns_163 ?_
        refine gx_icmp_le (tgt := 173) Cx eX4_turns_166 (by decide) h (fun h => ?_) (fun h => ?_)
        · refine gx_iconst (v := (0 : Int32)) Cx eX4_turns_173 (by decide) ?_
          exact gx_rI h rfl eX4_turns_174 hR
        · refine gx_iconst (v := (1 : Int32)) Cx eX4_turns_169 (by decide) ?_
          refine gx_goto (tgt := 174) Cx eX4_turns_170 (by decide) ?_
          exact gx_rI h rfl eX4_turns_174 hR
    · refine gx_iload Cx eX4_turns_34 9 rfl ?_
      refine gx_iconst (v := (2 : Int32)) Cx eX4_turns_36 (by decide) ?_
      refine gx_iremC Cx eX4_turns_37 (by decide) ?_
      refine gx_if_ne (tgt := 45) Cx eX4_turns_38 (by decide) h (fun h => ?_) (fun h => ?_)
      · refine gx_iload_n Cx eX4_turns_45 2 rfl ?_
        exact B46 _ _ _ _ _ h
      · refine gx_iload_n Cx eX4_turns_41 1 rfl ?_
        refine gx_goto (tgt := 46) Cx eX4_turns_42 (by decide) ?_
        exact B46 _ _ _ _ _ h
  have L28 : ∀ (v5 : Int32) (v6 : Int32) (n : Nat) (v7 : Int32) (v8 : Int32) (v9 : Int32) (M : gx_Mem), f_X4_turns_l28 v1 v2 v3 v4 v5 v6 n v7 v8 v9 M = some (r9, M9) → gx_G κ Γ 28 [(0, .ref (gx_a κ 30)), (1, .int v1), (2, .int v2), (3, .int v3), (4, .int v4), (5, .int v5), (6, .int v6), (7, .int v7), (8, .int v8), (9, .int v9)] [] M := by
    intro v5 v6 n
    induction n with
    | zero => intro v7 v8 v9 M h; exact gx_loop_0 h
    | succ n ih => intro v7 v8 v9 M h; exact K28 v5 v6 (fun v7 v8 v9 M => f_X4_turns_l28 v1 v2 v3 v4 v5 v6 n v7 v8 v9 M) ih v7 v8 v9 M h
  have h := hf
  refine gx_aload_n Cx eX4_turns_0 0 rfl ?_
  refine gx_iload_n Cx eX4_turns_1 2 rfl ?_
  obtain ⟨y2, h1, h⟩ := gx_bP_of h
  refine gx_callVI (ci := 4) Cx my_X4_favourite wlX4_123 rfl gx_y30 (by decide) rfl eX4_turns_2 (c_X4_favourite κ h1) rfl (Nat.le_of_ble_eq_true rfl) ?_
  refine gx_istore Cx eX4_turns_5 [(5, .int y2), (0, .ref (gx_a κ 30)), (1, .int v1), (2, .int v2), (3, .int v3), (4, .int v4)] rfl (by decide) ?_
  refine gx_aload_n Cx eX4_turns_7 1 rfl ?_
  refine gfX4_25 Cx eX4_turns_8 ?_
  refine gx_iload_n Cx eX4_turns_11 2 rfl ?_
  refine gx_iload Cx eX4_turns_12 0 rfl ?_
  obtain ⟨y4, h3, h⟩ := gx_bP_of h
  refine gx_callVI (ci := 2) Cx my_X2_room wlX4_52 rfl gx_y9 (by decide) rfl eX4_turns_14 (c_X2_room κ gx_Ho9 h3) rfl (Nat.le_of_ble_eq_true rfl) ?_
  refine gx_istore Cx eX4_turns_17 [(6, .int y4), (5, .int y2), (0, .ref (gx_a κ 30)), (1, .int v1), (2, .int v2), (3, .int v3), (4, .int v4)] rfl (by decide) ?_
  refine gx_iconst (v := (0 : Int32)) Cx eX4_turns_19 (by decide) ?_
  refine gx_istore Cx eX4_turns_20 [(7, .int (0 : Int32)), (6, .int y4), (5, .int y2), (0, .ref (gx_a κ 30)), (1, .int v1), (2, .int v2), (3, .int v3), (4, .int v4)] rfl (by decide) ?_
  refine gx_iconst (v := (0 : Int32)) Cx eX4_turns_22 (by decide) ?_
  refine gx_istore Cx eX4_turns_23 [(8, .int (0 : Int32)), (7, .int (0 : Int32)), (6, .int y4), (5, .int y2), (0, .ref (gx_a κ 30)), (1, .int v1), (2, .int v2), (3, .int v3), (4, .int v4)] rfl (by decide) ?_
  refine gx_iconst (v := (0 : Int32)) Cx eX4_turns_25 (by decide) ?_
  refine gx_istore Cx eX4_turns_26 [(9, .int (0 : Int32)), (8, .int (0 : Int32)), (7, .int (0 : Int32)), (6, .int y4), (5, .int y2), (0, .ref (gx_a κ 30)), (1, .int v1), (2, .int v2), (3, .int v3), (4, .int v4)] rfl (by decide) ?_
  refine gx_sub [5, 6, 7, 8, 9, 4, 3, 2, 1, 0] rfl ?_
  exact L28 _ _ _ _ _ _ _ h
set_option maxHeartbeats 4000000 in
set_option maxRecDepth 100000 in
theorem c_X4_caughtBehind (κ : gx_K) {v1 : Int32} {v2 : Int32} {M : gx_Mem} {r9 : Int32} {M9 : gx_Mem} (hf : f_X4_caughtBehind v1 v2 M = some (r9, M9)) : gx_CI κ yX4_caughtBehind cX4_caughtBehind 5 (some .int) 5 [.ref (gx_a κ 30), .int v1, .int v2] M r9 M9 := by
  refine gx_enterI (d := 5) my_X4_caughtBehind.1 (by decide) (Nat.le_of_ble_eq_true rfl) (fun Γ Cx hR => ?_)
  change gx_G κ Γ 0 [(0, .ref (gx_a κ 30)), (1, .int v1), (2, .int v2)] [] M
  have K5 : ∀  (ag5 : Int32 → Int32 → gx_Mem → Option (Int32 × gx_Mem)) (hag5 : ∀ (v3 : Int32) (v4 : Int32) (M : gx_Mem), ag5 v3 v4 M = some (r9, M9) → gx_G κ Γ 5 [(0, .ref (gx_a κ 30)), (1, .int v1), (2, .int v2), (3, .int v3), (4, .int v4)] [] M) (v3 : Int32) (v4 : Int32) (M : gx_Mem), f_X4_caughtBehind_k5 v1 v2 ag5 v3 v4 M = some (r9, M9) → gx_G κ Γ 5 [(0, .ref (gx_a κ 30)), (1, .int v1), (2, .int v2), (3, .int v3), (4, .int v4)] [] M := by
    intro ag5 hag5
    intro v3 v4 M h
    refine gx_iload Cx eX4_caughtBehind_5 4 rfl ?_
    refine gx_iload_n Cx eX4_caughtBehind_7 1 rfl ?_
    refine gx_icmp_ge (tgt := 34) Cx eX4_caughtBehind_8 (by decide) h (fun h => ?_) (fun h => ?_)
    · refine gx_iload_n Cx eX4_caughtBehind_34 3 rfl ?_
      exact gx_rI h rfl eX4_caughtBehind_35 hR
    · refine gx_iload_n Cx eX4_caughtBehind_11 3 rfl ?_
      refine gx_aload_n Cx eX4_caughtBehind_12 0 rfl ?_
      refine gfX4_25 Cx eX4_caughtBehind_13 ?_
      refine gx_iload_n Cx eX4_caughtBehind_16 2 rfl ?_
      refine gx_aload_n Cx eX4_caughtBehind_17 0 rfl ?_
      refine gx_iload Cx eX4_caughtBehind_18 4 rfl ?_
      obtain ⟨y2, h1, h⟩ := gx_bP_of h
      refine gx_callVI (ci := 4) Cx my_X4_outIn wlX4_42 rfl gx_y30 (by decide) rfl eX4_caughtBehind_20 (c_X4_outIn κ h1) rfl (Nat.le_of_ble_eq_true rfl) ?_
      obtain ⟨y4, M5, h3, h⟩ := gx_bI_of h
      refine gx_callVI (ci := 2) Cx my_X2_caughtBy wlX4_64 rfl gx_y9 (by decide) rfl eX4_caughtBehind_23 (c_X2_caughtBy κ gx_Ho9 h3) rfl (Nat.le_of_ble_eq_true rfl) ?_
      refine gx_iadd Cx eX4_caughtBehind_26 ?_
      refine gx_nmI h (fun x6 h => ?_)
      refine gx_istore_n Cx eX4_caughtBehind_27 [(3, .int x6), (0, .ref (gx_a κ 30)), (1, .int v1), (2, .int v2), (4, .int v4)] rfl (by decide) ?_
      refine gx_iinc (v := (1 : Int32)) (i := 4) (j := 4) Cx eX4_caughtBehind_28 (by decide) h 4 rfl (fun w => [(4, .int w), (3, .int x6), (0, .ref (gx_a κ 30)), (1, .int v1), (2, .int v2)]) (fun _ => rfl) (by decide) (fun x7 h => ?_)
      refine gx_goto (tgt := 5) Cx eX4_caughtBehind_31 (by decide) ?_
      refine gx_sub [2, 3, 4, 1, 0] rfl ?_
      exact hag5 _ _ _ h
  have L5 : ∀  (n : Nat) (v3 : Int32) (v4 : Int32) (M : gx_Mem), f_X4_caughtBehind_l5 v1 v2 n v3 v4 M = some (r9, M9) → gx_G κ Γ 5 [(0, .ref (gx_a κ 30)), (1, .int v1), (2, .int v2), (3, .int v3), (4, .int v4)] [] M := by
    intro n
    induction n with
    | zero => intro v3 v4 M h; exact gx_loop_0 h
    | succ n ih => intro v3 v4 M h; exact K5 (fun v3 v4 M => f_X4_caughtBehind_l5 v1 v2 n v3 v4 M) ih v3 v4 M h
  have h := hf
  refine gx_iconst (v := (0 : Int32)) Cx eX4_caughtBehind_0 (by decide) ?_
  refine gx_istore_n Cx eX4_caughtBehind_1 [(3, .int (0 : Int32)), (0, .ref (gx_a κ 30)), (1, .int v1), (2, .int v2)] rfl (by decide) ?_
  refine gx_iconst (v := (0 : Int32)) Cx eX4_caughtBehind_2 (by decide) ?_
  refine gx_istore Cx eX4_caughtBehind_3 [(4, .int (0 : Int32)), (3, .int (0 : Int32)), (0, .ref (gx_a κ 30)), (1, .int v1), (2, .int v2)] rfl (by decide) ?_
  refine gx_sub [2, 3, 4, 1, 0] rfl ?_
  exact L5 _ _ _ _ h
set_option maxHeartbeats 4000000 in
set_option maxRecDepth 100000 in
theorem c_X4_exchange (κ : gx_K) {v1 : Int32} {v2 : Int32} {M : gx_Mem} {M9 : gx_Mem} (hf : f_X4_exchange v1 v2 M = some M9) : gx_CV κ yX4_exchange cX4_exchange 4 none 0 [.ref (gx_a κ 30), .int v1, .int v2] M M9 := by
  refine gx_enterV (d := 0) my_X4_exchange.1 (by decide) (Nat.le_of_ble_eq_true rfl) (fun Γ Cx hR => ?_)
  change gx_G κ Γ 0 [(0, .ref (gx_a κ 30)), (1, .int v1), (2, .int v2)] [] M
  have h := hf
  refine gx_aload_n Cx eX4_exchange_0 0 rfl ?_
  refine gfX4_9 Cx eX4_exchange_1 ?_
  refine gx_iload_n Cx eX4_exchange_4 1 rfl ?_
  refine gx_iald Cx gx_y31 eX4_exchange_5 h (fun h => ?_)
  refine gx_nmI h (fun x1 h => ?_)
  refine gx_istore_n Cx eX4_exchange_6 [(3, .int x1), (0, .ref (gx_a κ 30)), (1, .int v1), (2, .int v2)] rfl (by decide) ?_
  refine gx_aload_n Cx eX4_exchange_7 1 rfl ?_
  refine gfX4_9 Cx eX4_exchange_8 ?_
  refine gx_iload_n Cx eX4_exchange_11 2 rfl ?_
  refine gx_aload_n Cx eX4_exchange_12 1 rfl ?_
  refine gfX4_9 Cx eX4_exchange_13 ?_
  refine gx_iload_n Cx eX4_exchange_16 3 rfl ?_
  refine gx_iald Cx gx_y31 eX4_exchange_17 h (fun h => ?_)
  refine gx_iast Cx gx_y31 eX4_exchange_18 h (fun M2 h => ?_)
  refine gx_aload_n Cx eX4_exchange_19 1 rfl ?_
  refine gfX4_9 Cx eX4_exchange_20 ?_
  refine gx_iload_n Cx eX4_exchange_23 3 rfl ?_
  refine gx_iload_n Cx eX4_exchange_24 0 rfl ?_
  refine gx_iast Cx gx_y31 eX4_exchange_25 h (fun M3 h => ?_)
  exact gx_rV h eX4_exchange_26 hR
set_option maxHeartbeats 4000000 in
set_option maxRecDepth 100000 in
theorem c_X4_nextDealing (κ : gx_K)  {M : gx_Mem} {r9 : Int32} {M9 : gx_Mem} (hf : f_X4_nextDealing M = some (r9, M9)) : gx_CI κ yX4_nextDealing cX4_nextDealing 6 (some .boolean) 1 [.ref (gx_a κ 30)] M r9 M9 := by
  refine gx_enterI (d := 1) my_X4_nextDealing.1 (by decide) (Nat.le_of_ble_eq_true rfl) (fun Γ Cx hR => ?_)
  change gx_G κ Γ 0 [(0, .ref (gx_a κ 30))] [] M
  have K89 : ∀  (ag89 : Int32 → Int32 → gx_Mem → Option (Int32 × gx_Mem)) (hag89 : ∀ (v4 : Int32) (v5 : Int32) (M : gx_Mem), ag89 v4 v5 M = some (r9, M9) → gx_G κ Γ 89 [(0, .ref (gx_a κ 30)), (4, .int v4), (5, .int v5)] [] M) (v4 : Int32) (v5 : Int32) (M : gx_Mem), f_X4_nextDealing_k89 ag89 v4 v5 M = some (r9, M9) → gx_G κ Γ 89 [(0, .ref (gx_a κ 30)), (4, .int v4), (5, .int v5)] [] M := by
    intro ag89 hag89
    intro v4 v5 M h
    refine gx_iload Cx eX4_nextDealing_89 1 rfl ?_
    refine gx_iload Cx eX4_nextDealing_91 2 rfl ?_
    refine gx_icmp_ge (tgt := 113) Cx eX4_nextDealing_93 (by decide) h (fun h => ?_) (fun h => ?_)
    · refine gx_iconst (v := (1 : Int32)) Cx eX4_nextDealing_113 (by decide) ?_
      exact gx_rI h (by decide) eX4_nextDealing_114 hR
    · refine gx_aload_n Cx eX4_nextDealing_96 0 rfl ?_
      refine gx_iload Cx eX4_nextDealing_97 1 rfl ?_
      refine gx_iload Cx eX4_nextDealing_99 2 rfl ?_
      obtain ⟨M9, h8, h⟩ := gx_bP_of h
      refine gx_callVV (ci := 4) Cx my_X4_exchange wlX4_103 rfl gx_y30 (by decide) rfl eX4_nextDealing_101 (c_X4_exchange κ h8) rfl (Nat.le_of_ble_eq_true rfl) ?_
      refine gx_iinc (v := (1 : Int32)) (i := 4) (j := 1) Cx eX4_nextDealing_104 (by decide) h 1 rfl (fun w => [(4, .int w), (0, .ref (gx_a κ 30)), (5, .int v5)]) (fun _ => rfl) (by decide) (fun x10 h => ?_)
      refine gx_iinc (v := (-1 : Int32)) (i := 5) (j := 2) Cx eX4_nextDealing_107 (by decide) h 2 rfl (fun w => [(5, .int w), (4, .int x10), (0, .ref (gx_a κ 30))]) (fun _ => rfl) (by decide) (fun x11 h => ?_)
      refine gx_goto (tgt := 89) Cx eX4_nextDealing_110 (by decide) ?_
      refine gx_sub [2, 1, 0] rfl ?_
      exact hag89 _ _ _ h
  have L89 : ∀  (n : Nat) (v4 : Int32) (v5 : Int32) (M : gx_Mem), f_X4_nextDealing_l89 n v4 v5 M = some (r9, M9) → gx_G κ Γ 89 [(0, .ref (gx_a κ 30)), (4, .int v4), (5, .int v5)] [] M := by
    intro n
    induction n with
    | zero => intro v4 v5 M h; exact gx_loop_0 h
    | succ n ih => intro v4 v5 M h; exact K89 (fun v4 v5 M => f_X4_nextDealing_l89 n v4 v5 M) ih v4 v5 M h
  have B75 : ∀ (v1 : Int32) (v2 : Int32) (v3 : Int32) (M : gx_Mem), f_X4_nextDealing_b75 v1 v2 v3 M = some (r9, M9) → gx_G κ Γ 75 [(0, .ref (gx_a κ 30)), (1, .int v1), (2, .int v2), (3, .int v3)] [] M := by
    intro v1 v2 v3 M h
    refine gx_aload_n Cx eX4_nextDealing_75 0 rfl ?_
    refine gx_iload_n Cx eX4_nextDealing_76 2 rfl ?_
    refine gx_iload_n Cx eX4_nextDealing_77 3 rfl ?_
    obtain ⟨M6, h5, h⟩ := gx_bP_of h
    refine gx_callVV (ci := 4) Cx my_X4_exchange wlX4_103 rfl gx_y30 (by decide) rfl eX4_nextDealing_78 (c_X4_exchange κ h5) rfl (Nat.le_of_ble_eq_true rfl) ?_
    refine gx_iload_n Cx eX4_nextDealing_81 2 rfl ?_
    refine gx_iconst (v := (1 : Int32)) Cx eX4_nextDealing_82 (by decide) ?_
    refine gx_iadd Cx eX4_nextDealing_83 ?_
    refine gx_nmI h (fun x7 h => ?_)
    refine gx_istore Cx eX4_nextDealing_84 [(4, .int x7), (0, .ref (gx_a κ 30)), (1, .int v1), (2, .int v2), (3, .int v3)] rfl (by decide) ?_
    refine gx_iload_n Cx eX4_nextDealing_86 2 rfl ?_
    refine gx_istore Cx eX4_nextDealing_87 [(5, .int v1), (4, .int x7), (0, .ref (gx_a κ 30)), (1, .int v1), (2, .int v2), (3, .int v3)] rfl (by decide) ?_
    refine gx_sub [2, 1, 0] rfl ?_
    exact L89 _ _ _ _ h
  have K49 : ∀ (v1 : Int32) (v2 : Int32) (ag49 : Int32 → gx_Mem → Option (Int32 × gx_Mem)) (hag49 : ∀ (v3 : Int32) (M : gx_Mem), ag49 v3 M = some (r9, M9) → gx_G κ Γ 49 [(0, .ref (gx_a κ 30)), (1, .int v1), (2, .int v2), (3, .int v3)] [] M) (v3 : Int32) (M : gx_Mem), f_X4_nextDealing_k49 v1 v2 ag49 v3 M = some (r9, M9) → gx_G κ Γ 49 [(0, .ref (gx_a κ 30)), (1, .int v1), (2, .int v2), (3, .int v3)] [] M := by
    intro v1 v2 ag49 hag49
    intro v3 M h
    refine gx_iload_n Cx eX4_nextDealing_49 3 rfl ?_
    refine gx_iload_n Cx eX4_nextDealing_50 2 rfl ?_
    refine gx_icmp_le (tgt := 75) Cx eX4_nextDealing_51 (by decide) h (fun h => ?_) (fun h => ?_)
    · exact B75 _ _ _ _ h
    · refine gx_aload_n Cx eX4_nextDealing_54 0 rfl ?_
      refine gfX4_9 Cx eX4_nextDealing_55 ?_
      refine gx_iload_n Cx eX4_nextDealing_58 3 rfl ?_
      refine gx_iald Cx gx_y31 eX4_nextDealing_59 h (fun h => ?_)
      refine gx_aload_n Cx eX4_nextDealing_60 0 rfl ?_
      refine gfX4_9 Cx eX4_nextDealing_61 ?_
      refine gx_iload_n Cx eX4_nextDealing_64 2 rfl ?_
      refine gx_iald Cx gx_y31 eX4_nextDealing_65 h (fun h => ?_)
      refine gx_icmp_ge (tgt := 75) Cx eX4_nextDealing_66 (by decide) h (fun h => ?_) (fun h => ?_)
      · exact B75 _ _ _ _ h
      · refine gx_iinc (v := (-1 : Int32)) (i := 3) (j := 3) Cx eX4_nextDealing_69 (by decide) h 3 rfl (fun w => [(3, .int w), (0, .ref (gx_a κ 30)), (1, .int v1), (2, .int v2)]) (fun _ => rfl) (by decide) (fun x4 h => ?_)
        refine gx_goto (tgt := 49) Cx eX4_nextDealing_72 (by decide) ?_
        refine gx_sub [1, 2, 3, 0] rfl ?_
        exact hag49 _ _ h
  have L49 : ∀ (v1 : Int32) (v2 : Int32) (n : Nat) (v3 : Int32) (M : gx_Mem), f_X4_nextDealing_l49 v1 v2 n v3 M = some (r9, M9) → gx_G κ Γ 49 [(0, .ref (gx_a κ 30)), (1, .int v1), (2, .int v2), (3, .int v3)] [] M := by
    intro v1 v2 n
    induction n with
    | zero => intro v3 M h; exact gx_loop_0 h
    | succ n ih => intro v3 M h; exact K49 v1 v2 (fun v3 M => f_X4_nextDealing_l49 v1 v2 n v3 M) ih v3 M h
  have B41 : ∀ (v1 : Int32) (v2 : Int32) (M : gx_Mem), f_X4_nextDealing_b41 v1 v2 M = some (r9, M9) → gx_G κ Γ 41 [(0, .ref (gx_a κ 30)), (1, .int v1), (2, .int v2)] [] M := by
    intro v1 v2 M h
    refine gx_iload_n Cx eX4_nextDealing_41 2 rfl ?_
    refine gx_if_ge (tgt := 47) Cx eX4_nextDealing_42 (by decide) h (fun h => ?_) (fun h => ?_)
    · refine gx_iload_n Cx eX4_nextDealing_47 1 rfl ?_
      refine gx_istore_n Cx eX4_nextDealing_48 [(3, .int v1), (0, .ref (gx_a κ 30)), (1, .int v1), (2, .int v2)] rfl (by decide) ?_
      refine gx_sub [1, 2, 3, 0] rfl ?_
      exact L49 _ _ _ _ _ h
    · refine gx_iconst (v := (0 : Int32)) Cx eX4_nextDealing_45 (by decide) ?_
      exact gx_rI h (by decide) eX4_nextDealing_46 hR
  have K14 : ∀ (v1 : Int32) (ag14 : Int32 → gx_Mem → Option (Int32 × gx_Mem)) (hag14 : ∀ (v2 : Int32) (M : gx_Mem), ag14 v2 M = some (r9, M9) → gx_G κ Γ 14 [(0, .ref (gx_a κ 30)), (1, .int v1), (2, .int v2)] [] M) (v2 : Int32) (M : gx_Mem), f_X4_nextDealing_k14 v1 ag14 v2 M = some (r9, M9) → gx_G κ Γ 14 [(0, .ref (gx_a κ 30)), (1, .int v1), (2, .int v2)] [] M := by
    intro v1 ag14 hag14
    intro v2 M h
    refine gx_iload_n Cx eX4_nextDealing_14 2 rfl ?_
    refine gx_if_lt (tgt := 41) Cx eX4_nextDealing_15 (by decide) h (fun h => ?_) (fun h => ?_)
    · exact B41 _ _ _ h
    · refine gx_aload_n Cx eX4_nextDealing_18 0 rfl ?_
      refine gfX4_9 Cx eX4_nextDealing_19 ?_
      refine gx_iload_n Cx eX4_nextDealing_22 2 rfl ?_
      refine gx_iald Cx gx_y31 eX4_nextDealing_23 h (fun h => ?_)
      refine gx_aload_n Cx eX4_nextDealing_24 0 rfl ?_
      refine gfX4_9 Cx eX4_nextDealing_25 ?_
      refine gx_iload_n Cx eX4_nextDealing_28 2 rfl ?_
      refine gx_iconst (v := (1 : Int32)) Cx eX4_nextDealing_29 (by decide) ?_
      refine gx_iadd Cx eX4_nextDealing_30 ?_
      refine gx_iald Cx gx_y31 eX4_nextDealing_31 h (fun h => ?_)
      refine gx_icmp_le (tgt := 41) Cx eX4_nextDealing_32 (by decide) h (fun h => ?_) (fun h => ?_)
      · exact B41 _ _ _ h
      · refine gx_iinc (v := (-1 : Int32)) (i := 2) (j := 2) Cx eX4_nextDealing_35 (by decide) h 2 rfl (fun w => [(2, .int w), (0, .ref (gx_a κ 30)), (1, .int v1)]) (fun _ => rfl) (by decide) (fun x3 h => ?_)
        refine gx_goto (tgt := 14) Cx eX4_nextDealing_38 (by decide) ?_
        refine gx_sub [1, 2, 0] rfl ?_
        exact hag14 _ _ h
  have L14 : ∀ (v1 : Int32) (n : Nat) (v2 : Int32) (M : gx_Mem), f_X4_nextDealing_l14 v1 n v2 M = some (r9, M9) → gx_G κ Γ 14 [(0, .ref (gx_a κ 30)), (1, .int v1), (2, .int v2)] [] M := by
    intro v1 n
    induction n with
    | zero => intro v2 M h; exact gx_loop_0 h
    | succ n ih => intro v2 M h; exact K14 v1 (fun v2 M => f_X4_nextDealing_l14 v1 n v2 M) ih v2 M h
  have h := hf
  refine gx_aload_n Cx eX4_nextDealing_0 0 rfl ?_
  refine gfX4_25 Cx eX4_nextDealing_1 ?_
  refine gfX4_67 Cx gx_y9 eX4_nextDealing_4 ?_
  refine gx_iconst (v := (1 : Int32)) Cx eX4_nextDealing_7 (by decide) ?_
  refine gx_isub Cx eX4_nextDealing_8 ?_
  refine gx_nmI h (fun x1 h => ?_)
  refine gx_istore_n Cx eX4_nextDealing_9 [(1, .int x1), (0, .ref (gx_a κ 30))] rfl (by decide) ?_
  refine gx_iload_n Cx eX4_nextDealing_10 0 rfl ?_
  refine gx_iconst (v := (1 : Int32)) Cx eX4_nextDealing_11 (by decide) ?_
  refine gx_isub Cx eX4_nextDealing_12 ?_
  refine gx_nmI h (fun x2 h => ?_)
  refine gx_istore_n Cx eX4_nextDealing_13 [(2, .int x2), (1, .int x1), (0, .ref (gx_a κ 30))] rfl (by decide) ?_
  refine gx_sub [2, 1, 0] rfl ?_
  exact L14 _ _ _ _ h
set_option maxHeartbeats 4000000 in
set_option maxRecDepth 100000 in
theorem c_X4_wetter (κ : gx_K) {k : Nat} (hk : gx_Ho k) {v1 : Int32} {v2 : Int32} {v3 : Int32} {v4 : Int32} {M : gx_Mem} {r9 : Int32} {M9 : gx_Mem} (hf : f_X4_wetter k v1 v2 v3 v4 M = some (r9, M9)) : gx_CI κ yX4_wetter cX4_wetter 10 (some .int) 5 [.ref (gx_a κ k), .int v1, .int v2, .int v3, .int v4] M r9 M9 := by
  refine gx_enterI (d := 5) my_X4_wetter.1 (by decide) (Nat.le_of_ble_eq_true rfl) (fun Γ Cx hR => ?_)
  change gx_G κ Γ 0 [(0, .ref (gx_a κ k)), (1, .int v1), (2, .int v2), (3, .int v3), (4, .int v4)] [] M
  have K6 : ∀  (ag6 : Int32 → Int32 → gx_Mem → Option (Int32 × gx_Mem)) (hag6 : ∀ (v5 : Int32) (v6 : Int32) (M : gx_Mem), ag6 v5 v6 M = some (r9, M9) → gx_G κ Γ 6 [(0, .ref (gx_a κ k)), (1, .int v1), (3, .int v3), (4, .int v4), (5, .int v5), (6, .int v6)] [] M) (v5 : Int32) (v6 : Int32) (M : gx_Mem), f_X4_wetter_k6 k v1 v3 v4 ag6 v5 v6 M = some (r9, M9) → gx_G κ Γ 6 [(0, .ref (gx_a κ k)), (1, .int v1), (3, .int v3), (4, .int v4), (5, .int v5), (6, .int v6)] [] M := by
    intro ag6 hag6
    have B68 : ∀ (v5 : Int32) (v6 : Int32) (v7 : Int32) (v8 : Int32) (M : gx_Mem), f_X4_wetter_b68 k ag6 v1 v3 v4 v5 v6 v7 v8 M = some (r9, M9) → gx_G κ Γ 68 [(0, .ref (gx_a κ k)), (1, .int v1), (3, .int v3), (4, .int v4), (5, .int v5), (6, .int v6), (7, .int v7), (8, .int v8)] [] M := by
      intro v5 v6 v7 v8 M h
      refine gx_iload Cx eX4_wetter_68 4 rfl ?_
      refine gx_iload Cx eX4_wetter_70 6 rfl ?_
      refine gx_iload Cx eX4_wetter_72 7 rfl ?_
      refine gx_mmin Cx wlX4_56 (Nat.le_of_ble_eq_true rfl) (Nat.le_of_ble_eq_true rfl) eX4_wetter_74 ?_
      refine gx_iadd Cx eX4_wetter_77 ?_
      refine gx_nmI h (fun x10 h => ?_)
      refine gx_istore Cx eX4_wetter_78 [(5, .int x10), (0, .ref (gx_a κ k)), (1, .int v1), (3, .int v3), (4, .int v4), (6, .int v6), (7, .int v7), (8, .int v8)] rfl (by decide) ?_
      refine gx_iinc (v := (1 : Int32)) (i := 6) (j := 5) Cx eX4_wetter_80 (by decide) h 5 rfl (fun w => [(6, .int w), (5, .int x10), (0, .ref (gx_a κ k)), (1, .int v1), (3, .int v3), (4, .int v4), (7, .int v7), (8, .int v8)]) (fun _ => rfl) (by decide) (fun x11 h => ?_)
      refine gx_goto (tgt := 6) Cx eX4_wetter_83 (by decide) ?_
      refine gx_sub [2, 3, 4, 5, 1, 0] rfl ?_
      exact hag6 _ _ _ h
    have K27 : ∀ (v5 : Int32) (v6 : Int32) (v7 : Int32) (ag27 : Int32 → Int32 → gx_Mem → Option (Int32 × gx_Mem)) (hag27 : ∀ (v8 : Int32) (v9 : Int32) (M : gx_Mem), ag27 v8 v9 M = some (r9, M9) → gx_G κ Γ 27 [(0, .ref (gx_a κ k)), (1, .int v1), (3, .int v3), (4, .int v4), (5, .int v5), (6, .int v6), (7, .int v7), (8, .int v8), (9, .int v9)] [] M) (v8 : Int32) (v9 : Int32) (M : gx_Mem), f_X4_wetter_k27 k ag6 v1 v3 v4 v5 v6 v7 ag27 v8 v9 M = some (r9, M9) → gx_G κ Γ 27 [(0, .ref (gx_a κ k)), (1, .int v1), (3, .int v3), (4, .int v4), (5, .int v5), (6, .int v6), (7, .int v7), (8, .int v8), (9, .int v9)] [] M := by
      intro v5 v6 v7 ag27 hag27
      intro v8 v9 M h
      refine gx_iload Cx eX4_wetter_27 8 rfl ?_
      refine gx_bipush (v := (12 : Int32)) Cx eX4_wetter_29 (by decide) ?_
      refine gx_icmp_ge (tgt := 68) Cx eX4_wetter_31 (by decide) h (fun h => ?_) (fun h => ?_)
      · refine gx_sub [0, 1, 2, 3, 4, 5, 6, 7] rfl ?_
        exact B68 _ _ _ _ _ h
      · refine gx_iload Cx eX4_wetter_34 7 rfl ?_
        refine gx_iload Cx eX4_wetter_36 6 rfl ?_
        refine gx_icmp_ge (tgt := 68) Cx eX4_wetter_38 (by decide) h (fun h => ?_) (fun h => ?_)
        · refine gx_sub [0, 1, 2, 3, 4, 5, 6, 7] rfl ?_
          exact B68 _ _ _ _ _ h
        · refine gx_iload Cx eX4_wetter_41 7 rfl ?_
          refine gx_aload_n Cx eX4_wetter_43 0 rfl ?_
          refine gx_iload_n Cx eX4_wetter_44 1 rfl ?_
          refine gx_iload Cx eX4_wetter_45 5 rfl ?_
          refine gx_aload_n Cx eX4_wetter_47 0 rfl ?_
          refine gx_iload Cx eX4_wetter_48 8 rfl ?_
          obtain ⟨y4, h3, h⟩ := gx_bP_of h
          refine gx_callVI (ci := 2) Cx my_X2_outAt wlX4_38 rfl hk.1 (by decide) rfl eX4_wetter_50 (c_X2_outAt κ hk h3) rfl (Nat.le_of_ble_eq_true rfl) ?_
          refine gx_iload Cx eX4_wetter_53 3 rfl ?_
          refine gx_iand Cx eX4_wetter_55 ?_
          obtain ⟨y6, M7, h5, h⟩ := gx_bI_of h
          refine gx_callVI (ci := 2) Cx my_X2_drips wlX4_45 rfl hk.1 (by decide) rfl eX4_wetter_56 (c_X2_drips κ hk h5) rfl (Nat.le_of_ble_eq_true rfl) ?_
          refine gx_iadd Cx eX4_wetter_59 ?_
          refine gx_nmI h (fun x8 h => ?_)
          refine gx_istore Cx eX4_wetter_60 [(8, .int x8), (0, .ref (gx_a κ k)), (1, .int v1), (3, .int v3), (4, .int v4), (5, .int v5), (6, .int v6), (7, .int v7), (9, .int v9)] rfl (by decide) ?_
          refine gx_iinc (v := (1 : Int32)) (i := 9) (j := 8) Cx eX4_wetter_62 (by decide) h 8 rfl (fun w => [(9, .int w), (8, .int x8), (0, .ref (gx_a κ k)), (1, .int v1), (3, .int v3), (4, .int v4), (5, .int v5), (6, .int v6), (7, .int v7)]) (fun _ => rfl) (by decide) (fun x9 h => ?_)
          refine gx_goto (tgt := 27) Cx eX4_wetter_65 (by decide) ?_
          refine gx_sub [2, 3, 4, 5, 6, 7, 8, 1, 0] rfl ?_
          exact hag27 _ _ _ h
    have L27 : ∀ (v5 : Int32) (v6 : Int32) (v7 : Int32) (n : Nat) (v8 : Int32) (v9 : Int32) (M : gx_Mem), f_X4_wetter_l27 k ag6 v1 v3 v4 v5 v6 v7 n v8 v9 M = some (r9, M9) → gx_G κ Γ 27 [(0, .ref (gx_a κ k)), (1, .int v1), (3, .int v3), (4, .int v4), (5, .int v5), (6, .int v6), (7, .int v7), (8, .int v8), (9, .int v9)] [] M := by
      intro v5 v6 v7 n
      induction n with
      | zero => intro v8 v9 M h; exact gx_loop_0 h
      | succ n ih => intro v8 v9 M h; exact K27 v5 v6 v7 (fun v8 v9 M => f_X4_wetter_l27 k ag6 v1 v3 v4 v5 v6 v7 n v8 v9 M) ih v8 v9 M h
    intro v5 v6 M h
    refine gx_iload Cx eX4_wetter_6 5 rfl ?_
    refine gx_iload_n Cx eX4_wetter_8 2 rfl ?_
    refine gx_icmp_gt (tgt := 86) Cx eX4_wetter_9 (by decide) h (fun h => ?_) (fun h => ?_)
    · refine gx_iload Cx eX4_wetter_86 4 rfl ?_
      exact gx_rI h rfl eX4_wetter_88 hR
    · refine gx_aload_n Cx eX4_wetter_12 0 rfl ?_
      refine gx_iload_n Cx eX4_wetter_13 1 rfl ?_
      refine gx_iload Cx eX4_wetter_14 5 rfl ?_
      obtain ⟨y2, h1, h⟩ := gx_bP_of h
      refine gx_callVI (ci := 2) Cx my_X2_room wlX4_52 rfl hk.1 (by decide) rfl eX4_wetter_16 (c_X2_room κ hk h1) rfl (Nat.le_of_ble_eq_true rfl) ?_
      refine gx_istore Cx eX4_wetter_19 [(7, .int y2), (0, .ref (gx_a κ k)), (1, .int v1), (3, .int v3), (4, .int v4), (5, .int v5), (6, .int v6)] rfl (by decide) ?_
      refine gx_iconst (v := (0 : Int32)) Cx eX4_wetter_21 (by decide) ?_
      refine gx_istore Cx eX4_wetter_22 [(8, .int (0 : Int32)), (7, .int y2), (0, .ref (gx_a κ k)), (1, .int v1), (3, .int v3), (4, .int v4), (5, .int v5), (6, .int v6)] rfl (by decide) ?_
      refine gx_iconst (v := (0 : Int32)) Cx eX4_wetter_24 (by decide) ?_
      refine gx_istore Cx eX4_wetter_25 [(9, .int (0 : Int32)), (8, .int (0 : Int32)), (7, .int y2), (0, .ref (gx_a κ k)), (1, .int v1), (3, .int v3), (4, .int v4), (5, .int v5), (6, .int v6)] rfl (by decide) ?_
      refine gx_sub [3, 4, 5, 6, 7, 8, 2, 1, 0] rfl ?_
      exact L27 _ _ _ _ _ _ _ h
  have L6 : ∀  (n : Nat) (v5 : Int32) (v6 : Int32) (M : gx_Mem), f_X4_wetter_l6 k v1 v3 v4 n v5 v6 M = some (r9, M9) → gx_G κ Γ 6 [(0, .ref (gx_a κ k)), (1, .int v1), (3, .int v3), (4, .int v4), (5, .int v5), (6, .int v6)] [] M := by
    intro n
    induction n with
    | zero => intro v5 v6 M h; exact gx_loop_0 h
    | succ n ih => intro v5 v6 M h; exact K6 (fun v5 v6 M => f_X4_wetter_l6 k v1 v3 v4 n v5 v6 M) ih v5 v6 M h
  have h := hf
  refine gx_iconst (v := (0 : Int32)) Cx eX4_wetter_0 (by decide) ?_
  refine gx_istore Cx eX4_wetter_1 [(5, .int (0 : Int32)), (0, .ref (gx_a κ k)), (1, .int v1), (2, .int v2), (3, .int v3), (4, .int v4)] rfl (by decide) ?_
  refine gx_iload_n Cx eX4_wetter_3 3 rfl ?_
  refine gx_istore Cx eX4_wetter_4 [(6, .int v2), (5, .int (0 : Int32)), (0, .ref (gx_a κ k)), (1, .int v1), (2, .int v2), (3, .int v3), (4, .int v4)] rfl (by decide) ?_
  refine gx_sub [2, 3, 5, 6, 1, 0] rfl ?_
  exact L6 _ _ _ _ h
set_option maxHeartbeats 4000000 in
set_option maxRecDepth 100000 in
theorem c_X4_deal (κ : gx_K) {v1 : Int32} {v2 : Int32} {v3 : Int32} {M : gx_Mem} {r9 : Int32} {M9 : gx_Mem} (hf : f_X4_deal v1 v2 v3 M = some (r9, M9)) : gx_CI κ yX4_deal cX4_deal 7 (some .int) 6 [.ref (gx_a κ 30), .int v1, .int v2, .int v3] M r9 M9 := by
  refine gx_enterI (d := 6) my_X4_deal.1 (by decide) (Nat.le_of_ble_eq_true rfl) (fun Γ Cx hR => ?_)
  change gx_G κ Γ 0 [(0, .ref (gx_a κ 30)), (1, .int v1), (2, .int v2), (3, .int v3)] [] M
  have K42 : ∀  (ag42 : Int32 → Int32 → gx_Mem → Option (Int32 × gx_Mem)) (hag42 : ∀ (v4 : Int32) (v5 : Int32) (M : gx_Mem), ag42 v4 v5 M = some (r9, M9) → gx_G κ Γ 42 [(0, .ref (gx_a κ 30)), (1, .int v1), (2, .int v2), (3, .int v3), (4, .int v4), (5, .int v5)] [] M) (v4 : Int32) (v5 : Int32) (M : gx_Mem), f_X4_deal_k42 v1 v2 v3 ag42 v4 v5 M = some (r9, M9) → gx_G κ Γ 42 [(0, .ref (gx_a κ 30)), (1, .int v1), (2, .int v2), (3, .int v3), (4, .int v4), (5, .int v5)] [] M := by
    intro ag42 hag42
    have B158 : ∀ (v4 : Int32) (v5 : Int32) (M : gx_Mem), f_X4_deal_b158 ag42 v1 v2 v3 v4 v5 M = some (r9, M9) → gx_G κ Γ 158 [(0, .ref (gx_a κ 30)), (1, .int v1), (2, .int v2), (3, .int v3), (4, .int v4), (5, .int v5)] [] M := by
      intro v4 v5 M h
      refine gx_aload_n Cx eX4_deal_158 0 rfl ?_
      obtain ⟨y11, M12, h10, h⟩ := gx_bI_of h
      refine gx_callVI (ci := 4) Cx my_X4_nextDealing wlX4_99 rfl gx_y30 (by decide) rfl eX4_deal_159 (c_X4_nextDealing κ h10) rfl (Nat.le_of_ble_eq_true rfl) ?_
      refine gx_if_ne (tgt := 168) Cx eX4_deal_162 (by decide) h (fun h => ?_) (fun h => ?_)
      · refine gx_iinc (v := (1 : Int32)) (i := 5) (j := 5) Cx eX4_deal_168 (by decide) h 5 rfl (fun w => [(5, .int w), (0, .ref (gx_a κ 30)), (1, .int v1), (2, .int v2), (3, .int v3), (4, .int v4)]) (fun _ => rfl) (by decide) (fun x13 h => ?_)
        refine gx_goto (tgt := 42) Cx eX4_deal_171 (by decide) ?_
        refine gx_sub [1, 2, 3, 4, 5, 0] rfl ?_
        exact hag42 _ _ _ h
      · refine gx_iload Cx eX4_deal_165 4 rfl ?_
        exact gx_rI h rfl eX4_deal_167 hR
    have B136 : ∀ (v5 : Int32) (v6 : Int32) (M : gx_Mem), f_X4_deal_b136 ag42 v1 v2 v3 v5 v6 M = some (r9, M9) → gx_G κ Γ 136 [(0, .ref (gx_a κ 30)), (1, .int v1), (2, .int v2), (3, .int v3), (5, .int v5), (6, .int v6)] [] M := by
      intro v5 v6 M h
      refine gx_iload Cx eX4_deal_136 5 rfl ?_
      refine gx_istore Cx eX4_deal_138 [(4, .int v6), (0, .ref (gx_a κ 30)), (1, .int v1), (2, .int v2), (3, .int v3), (5, .int v5), (6, .int v6)] rfl (by decide) ?_
      refine gx_aload_n Cx eX4_deal_140 1 rfl ?_
      refine gfX4_29 Cx eX4_deal_141 ?_
      refine gfX4_74 Cx gx_y23 eX4_deal_144 ?_
      refine gx_iconst (v := (0 : Int32)) Cx eX4_deal_147 (by decide) ?_
      refine gx_aload_n Cx eX4_deal_148 1 rfl ?_
      refine gfX4_15 Cx eX4_deal_149 ?_
      refine gx_iconst (v := (0 : Int32)) Cx eX4_deal_152 (by decide) ?_
      refine gx_bipush (v := (6 : Int32)) Cx eX4_deal_153 (by decide) ?_
      refine gx_copyI Cx wlX4_93 gx_y24 gx_y32 (Nat.le_of_ble_eq_true rfl) (Nat.le_of_ble_eq_true rfl) eX4_deal_155 h (fun M14 h => ?_)
      refine gx_sub [1, 2, 3, 4, 0, 5] rfl ?_
      exact B158 _ _ _ h
    have K53 : ∀ (v4 : Int32) (v5 : Int32) (ag53 : Int32 → gx_Mem → Option (Int32 × gx_Mem)) (hag53 : ∀ (v6 : Int32) (M : gx_Mem), ag53 v6 M = some (r9, M9) → gx_G κ Γ 53 [(0, .ref (gx_a κ 30)), (1, .int v1), (2, .int v2), (3, .int v3), (4, .int v4), (5, .int v5), (6, .int v6)] [] M) (v6 : Int32) (M : gx_Mem), f_X4_deal_k53 ag42 v1 v2 v3 v4 v5 ag53 v6 M = some (r9, M9) → gx_G κ Γ 53 [(0, .ref (gx_a κ 30)), (1, .int v1), (2, .int v2), (3, .int v3), (4, .int v4), (5, .int v5), (6, .int v6)] [] M := by
      intro v4 v5 ag53 hag53
      intro v6 M h
      refine gx_iload Cx eX4_deal_53 6 rfl ?_
      refine gx_aload_n Cx eX4_deal_55 0 rfl ?_
      refine gfX4_25 Cx eX4_deal_56 ?_
      refine gfX4_67 Cx gx_y9 eX4_deal_59 ?_
      refine gx_icmp_ge (tgt := 96) Cx eX4_deal_62 (by decide) h (fun h => ?_) (fun h => ?_)
      · refine gx_aload_n Cx eX4_deal_96 0 rfl ?_
        refine gfX4_29 Cx eX4_deal_97 ?_
        refine gx_iload_n Cx eX4_deal_100 1 rfl ?_
        refine gx_iload_n Cx eX4_deal_101 2 rfl ?_
        refine gx_iload_n Cx eX4_deal_102 2 rfl ?_
        refine gx_bipush (v := (63 : Int32)) Cx eX4_deal_103 (by decide) ?_
        obtain ⟨y6, M7, h5, h⟩ := gx_bI_of h
        refine gx_callSI Cx my_X4_wetter wlX4_70 (by decide) rfl eX4_deal_105 (c_X4_wetter κ gx_Ho23 h5) rfl (Nat.le_of_ble_eq_true rfl) ?_
        refine gx_istore Cx eX4_deal_108 [(6, .int y6), (0, .ref (gx_a κ 30)), (1, .int v1), (2, .int v2), (3, .int v3), (4, .int v4), (5, .int v5)] rfl (by decide) ?_
        refine gx_iload Cx eX4_deal_110 6 rfl ?_
        refine gx_if_eq (tgt := 136) Cx eX4_deal_112 (by decide) h (fun h => ?_) (fun h => ?_)
        · refine gx_sub [1, 2, 3, 4, 6, 0] rfl ?_
          exact B136 _ _ _ h
        · refine gx_iload_n Cx eX4_deal_115 4 rfl ?_
          refine gx_if_eq (tgt := 129) Cx eX4_deal_116 (by decide) h (fun h => ?_) (fun h => ?_)
          · refine gx_iload Cx eX4_deal_129 0 rfl ?_
            refine gx_iload Cx eX4_deal_131 5 rfl ?_
            refine gx_icmp_ge (tgt := 158) Cx eX4_deal_133 (by decide) h (fun h => ?_) (fun h => ?_)
            · refine gx_sub [1, 2, 3, 4, 5, 6] rfl ?_
              exact B158 _ _ _ h
            · refine gx_sub [1, 2, 3, 4, 6, 0] rfl ?_
              exact B136 _ _ _ h
          · refine gx_iload Cx eX4_deal_119 0 rfl ?_
            refine gx_iload Cx eX4_deal_121 5 rfl ?_
            refine gx_icmp_le (tgt := 158) Cx eX4_deal_123 (by decide) h (fun h => ?_) (fun h => ?_)
            · refine gx_sub [1, 2, 3, 4, 5, 6] rfl ?_
              exact B158 _ _ _ h
            · refine gx_goto (tgt := 136) Cx eX4_deal_126 (by decide) ?_
              refine gx_sub [1, 2, 3, 4, 6, 0] rfl ?_
              exact B136 _ _ _ h
      · refine gx_aload_n Cx eX4_deal_65 0 rfl ?_
        refine gfX4_29 Cx eX4_deal_66 ?_
        refine gfX4_74 Cx gx_y23 eX4_deal_69 ?_
        refine gx_iload Cx eX4_deal_72 6 rfl ?_
        refine gx_aload_n Cx eX4_deal_74 0 rfl ?_
        refine gfX4_25 Cx eX4_deal_75 ?_
        refine gfX4_74 Cx gx_y9 eX4_deal_78 ?_
        refine gx_aload_n Cx eX4_deal_81 0 rfl ?_
        refine gfX4_9 Cx eX4_deal_82 ?_
        refine gx_iload Cx eX4_deal_85 6 rfl ?_
        refine gx_iald Cx gx_y31 eX4_deal_87 h (fun h => ?_)
        refine gx_iald Cx gx_y10 eX4_deal_88 h (fun h => ?_)
        refine gx_iast Cx gx_y24 eX4_deal_89 h (fun M8 h => ?_)
        refine gx_iinc (v := (1 : Int32)) (i := 6) (j := 6) Cx eX4_deal_90 (by decide) h 6 rfl (fun w => [(6, .int w), (0, .ref (gx_a κ 30)), (1, .int v1), (2, .int v2), (3, .int v3), (4, .int v4), (5, .int v5)]) (fun _ => rfl) (by decide) (fun x9 h => ?_)
        refine gx_goto (tgt := 53) Cx eX4_deal_93 (by decide) ?_
        refine gx_sub [1, 2, 3, 4, 5, 6, 0] rfl ?_
        exact hag53 _ _ h
    have L53 : ∀ (v4 : Int32) (v5 : Int32) (n : Nat) (v6 : Int32) (M : gx_Mem), f_X4_deal_l53 ag42 v1 v2 v3 v4 v5 n v6 M = some (r9, M9) → gx_G κ Γ 53 [(0, .ref (gx_a κ 30)), (1, .int v1), (2, .int v2), (3, .int v3), (4, .int v4), (5, .int v5), (6, .int v6)] [] M := by
      intro v4 v5 n
      induction n with
      | zero => intro v6 M h; exact gx_loop_0 h
      | succ n ih => intro v6 M h; exact K53 v4 v5 (fun v6 M => f_X4_deal_l53 ag42 v1 v2 v3 v4 v5 n v6 M) ih v6 M h
    intro v4 v5 M h
    refine gx_iload Cx eX4_deal_42 5 rfl ?_
    refine gx_sipush (v := (720 : Int32)) Cx eX4_deal_44 (by decide) ?_
    refine gx_icmp_ge (tgt := 174) Cx eX4_deal_47 (by decide) h (fun h => ?_) (fun h => ?_)
    · refine gx_iload Cx eX4_deal_174 4 rfl ?_
      exact gx_rI h rfl eX4_deal_176 hR
    · refine gx_iconst (v := (0 : Int32)) Cx eX4_deal_50 (by decide) ?_
      refine gx_istore Cx eX4_deal_51 [(6, .int (0 : Int32)), (0, .ref (gx_a κ 30)), (1, .int v1), (2, .int v2), (3, .int v3), (4, .int v4), (5, .int v5)] rfl (by decide) ?_
      refine gx_sub [1, 2, 3, 4, 5, 6, 0] rfl ?_
      exact L53 _ _ _ _ _ h
  have L42 : ∀  (n : Nat) (v4 : Int32) (v5 : Int32) (M : gx_Mem), f_X4_deal_l42 v1 v2 v3 n v4 v5 M = some (r9, M9) → gx_G κ Γ 42 [(0, .ref (gx_a κ 30)), (1, .int v1), (2, .int v2), (3, .int v3), (4, .int v4), (5, .int v5)] [] M := by
    intro n
    induction n with
    | zero => intro v4 v5 M h; exact gx_loop_0 h
    | succ n ih => intro v4 v5 M h; exact K42 (fun v4 v5 M => f_X4_deal_l42 v1 v2 v3 n v4 v5 M) ih v4 v5 M h
  have K17 : ∀ (v4 : Int32) (ag17 : Int32 → gx_Mem → Option (Int32 × gx_Mem)) (hag17 : ∀ (v5 : Int32) (M : gx_Mem), ag17 v5 M = some (r9, M9) → gx_G κ Γ 17 [(0, .ref (gx_a κ 30)), (1, .int v1), (2, .int v2), (3, .int v3), (4, .int v4), (5, .int v5)] [] M) (v5 : Int32) (M : gx_Mem), f_X4_deal_k17 v1 v2 v3 v4 ag17 v5 M = some (r9, M9) → gx_G κ Γ 17 [(0, .ref (gx_a κ 30)), (1, .int v1), (2, .int v2), (3, .int v3), (4, .int v4), (5, .int v5)] [] M := by
    intro v4 ag17 hag17
    intro v5 M h
    refine gx_iload Cx eX4_deal_17 5 rfl ?_
    refine gx_bipush (v := (6 : Int32)) Cx eX4_deal_19 (by decide) ?_
    refine gx_icmp_ge (tgt := 39) Cx eX4_deal_21 (by decide) h (fun h => ?_) (fun h => ?_)
    · refine gx_iconst (v := (0 : Int32)) Cx eX4_deal_39 (by decide) ?_
      refine gx_istore Cx eX4_deal_40 [(5, .int (0 : Int32)), (0, .ref (gx_a κ 30)), (1, .int v1), (2, .int v2), (3, .int v3), (4, .int v4)] rfl (by decide) ?_
      refine gx_sub [1, 2, 3, 4, 5, 0] rfl ?_
      exact L42 _ _ _ _ h
    · refine gx_aload_n Cx eX4_deal_24 0 rfl ?_
      refine gfX4_9 Cx eX4_deal_25 ?_
      refine gx_iload Cx eX4_deal_28 5 rfl ?_
      refine gx_iload Cx eX4_deal_30 5 rfl ?_
      refine gx_iast Cx gx_y31 eX4_deal_32 h (fun M3 h => ?_)
      refine gx_iinc (v := (1 : Int32)) (i := 5) (j := 5) Cx eX4_deal_33 (by decide) h 5 rfl (fun w => [(5, .int w), (0, .ref (gx_a κ 30)), (1, .int v1), (2, .int v2), (3, .int v3), (4, .int v4)]) (fun _ => rfl) (by decide) (fun x4 h => ?_)
      refine gx_goto (tgt := 17) Cx eX4_deal_36 (by decide) ?_
      refine gx_sub [1, 2, 3, 4, 5, 0] rfl ?_
      exact hag17 _ _ h
  have L17 : ∀ (v4 : Int32) (n : Nat) (v5 : Int32) (M : gx_Mem), f_X4_deal_l17 v1 v2 v3 v4 n v5 M = some (r9, M9) → gx_G κ Γ 17 [(0, .ref (gx_a κ 30)), (1, .int v1), (2, .int v2), (3, .int v3), (4, .int v4), (5, .int v5)] [] M := by
    intro v4 n
    induction n with
    | zero => intro v5 M h; exact gx_loop_0 h
    | succ n ih => intro v5 M h; exact K17 v4 (fun v5 M => f_X4_deal_l17 v1 v2 v3 v4 n v5 M) ih v5 M h
  have h := hf
  refine gx_iconst (v := (0 : Int32)) Cx eX4_deal_0 (by decide) ?_
  refine gx_istore Cx eX4_deal_1 [(4, .int (0 : Int32)), (0, .ref (gx_a κ 30)), (1, .int v1), (2, .int v2), (3, .int v3)] rfl (by decide) ?_
  refine gx_aload_n Cx eX4_deal_3 1 rfl ?_
  refine gfX4_29 Cx eX4_deal_4 ?_
  refine gx_aload_n Cx eX4_deal_7 1 rfl ?_
  refine gfX4_25 Cx eX4_deal_8 ?_
  obtain ⟨M2, h1, h⟩ := gx_bP_of h
  refine gx_callVV (ci := 2) Cx my_X2_liken wlX4_77 rfl gx_y23 (by decide) rfl eX4_deal_11 (c_X2_liken κ gx_Ho23 gx_Ho9 h1) rfl (Nat.le_of_ble_eq_true rfl) ?_
  refine gx_iconst (v := (0 : Int32)) Cx eX4_deal_14 (by decide) ?_
  refine gx_istore Cx eX4_deal_15 [(5, .int (0 : Int32)), (4, .int (0 : Int32)), (0, .ref (gx_a κ 30)), (1, .int v1), (2, .int v2), (3, .int v3)] rfl (by decide) ?_
  refine gx_sub [2, 3, 4, 5, 1, 0] rfl ?_
  exact L17 _ _ _ _ h
set_option maxHeartbeats 4000000 in
set_option maxRecDepth 100000 in
theorem c_X4_dealtFlat (κ : gx_K) {v1 : Int32} {M : gx_Mem} {r9 : Int32} (hf : f_X4_dealtFlat v1 M = some r9) : gx_CI κ yX4_dealtFlat cX4_dealtFlat 2 (some .int) 0 [.ref (gx_a κ 30), .int v1] M r9 M := by
  refine gx_enterI (d := 0) my_X4_dealtFlat.1 (by decide) (Nat.le_of_ble_eq_true rfl) (fun Γ Cx hR => ?_)
  change gx_G κ Γ 0 [(0, .ref (gx_a κ 30)), (1, .int v1)] [] M
  have h := hf
  refine gx_aload_n Cx eX4_dealtFlat_0 0 rfl ?_
  refine gfX4_15 Cx eX4_dealtFlat_1 ?_
  refine gx_iload_n Cx eX4_dealtFlat_4 1 rfl ?_
  refine gx_iald Cx gx_y32 eX4_dealtFlat_5 h (fun h => ?_)
  exact gx_rIp h rfl eX4_dealtFlat_6 hR
set_option maxHeartbeats 4000000 in
set_option maxRecDepth 100000 in
theorem c_X4_caughtOfAll (κ : gx_K) {v1 : Int32} {M : gx_Mem} {r9 : Int32} {M9 : gx_Mem} (hf : f_X4_caughtOfAll v1 M = some (r9, M9)) : gx_CI κ yX4_caughtOfAll cX4_caughtOfAll 4 (some .int) 5 [.ref (gx_a κ 30), .int v1] M r9 M9 := by
  refine gx_enterI (d := 5) my_X4_caughtOfAll.1 (by decide) (Nat.le_of_ble_eq_true rfl) (fun Γ Cx hR => ?_)
  change gx_G κ Γ 0 [(0, .ref (gx_a κ 30)), (1, .int v1)] [] M
  have K4 : ∀  (ag4 : Int32 → Int32 → gx_Mem → Option (Int32 × gx_Mem)) (hag4 : ∀ (v2 : Int32) (v3 : Int32) (M : gx_Mem), ag4 v2 v3 M = some (r9, M9) → gx_G κ Γ 4 [(0, .ref (gx_a κ 30)), (1, .int v1), (2, .int v2), (3, .int v3)] [] M) (v2 : Int32) (v3 : Int32) (M : gx_Mem), f_X4_caughtOfAll_k4 v1 ag4 v2 v3 M = some (r9, M9) → gx_G κ Γ 4 [(0, .ref (gx_a κ 30)), (1, .int v1), (2, .int v2), (3, .int v3)] [] M := by
    intro ag4 hag4
    intro v2 v3 M h
    refine gx_iload_n Cx eX4_caughtOfAll_4 3 rfl ?_
    refine gx_iconst (v := (4 : Int32)) Cx eX4_caughtOfAll_5 (by decide) ?_
    refine gx_icmp_ge (tgt := 27) Cx eX4_caughtOfAll_6 (by decide) h (fun h => ?_) (fun h => ?_)
    · refine gx_iload_n Cx eX4_caughtOfAll_27 2 rfl ?_
      exact gx_rI h rfl eX4_caughtOfAll_28 hR
    · refine gx_iload_n Cx eX4_caughtOfAll_9 2 rfl ?_
      refine gx_aload_n Cx eX4_caughtOfAll_10 0 rfl ?_
      refine gfX4_25 Cx eX4_caughtOfAll_11 ?_
      refine gx_iload_n Cx eX4_caughtOfAll_14 3 rfl ?_
      refine gx_iload_n Cx eX4_caughtOfAll_15 1 rfl ?_
      obtain ⟨y2, M3, h1, h⟩ := gx_bI_of h
      refine gx_callVI (ci := 2) Cx my_X2_caughtBy wlX4_64 rfl gx_y9 (by decide) rfl eX4_caughtOfAll_16 (c_X2_caughtBy κ gx_Ho9 h1) rfl (Nat.le_of_ble_eq_true rfl) ?_
      refine gx_iadd Cx eX4_caughtOfAll_19 ?_
      refine gx_nmI h (fun x4 h => ?_)
      refine gx_istore_n Cx eX4_caughtOfAll_20 [(2, .int x4), (0, .ref (gx_a κ 30)), (1, .int v1), (3, .int v3)] rfl (by decide) ?_
      refine gx_iinc (v := (1 : Int32)) (i := 3) (j := 3) Cx eX4_caughtOfAll_21 (by decide) h 3 rfl (fun w => [(3, .int w), (2, .int x4), (0, .ref (gx_a κ 30)), (1, .int v1)]) (fun _ => rfl) (by decide) (fun x5 h => ?_)
      refine gx_goto (tgt := 4) Cx eX4_caughtOfAll_24 (by decide) ?_
      refine gx_sub [2, 3, 1, 0] rfl ?_
      exact hag4 _ _ _ h
  have L4 : ∀  (n : Nat) (v2 : Int32) (v3 : Int32) (M : gx_Mem), f_X4_caughtOfAll_l4 v1 n v2 v3 M = some (r9, M9) → gx_G κ Γ 4 [(0, .ref (gx_a κ 30)), (1, .int v1), (2, .int v2), (3, .int v3)] [] M := by
    intro n
    induction n with
    | zero => intro v2 v3 M h; exact gx_loop_0 h
    | succ n ih => intro v2 v3 M h; exact K4 (fun v2 v3 M => f_X4_caughtOfAll_l4 v1 n v2 v3 M) ih v2 v3 M h
  have h := hf
  refine gx_iconst (v := (0 : Int32)) Cx eX4_caughtOfAll_0 (by decide) ?_
  refine gx_istore_n Cx eX4_caughtOfAll_1 [(2, .int (0 : Int32)), (0, .ref (gx_a κ 30)), (1, .int v1)] rfl (by decide) ?_
  refine gx_iconst (v := (0 : Int32)) Cx eX4_caughtOfAll_2 (by decide) ?_
  refine gx_istore_n Cx eX4_caughtOfAll_3 [(3, .int (0 : Int32)), (2, .int (0 : Int32)), (0, .ref (gx_a κ 30)), (1, .int v1)] rfl (by decide) ?_
  refine gx_sub [2, 3, 1, 0] rfl ?_
  exact L4 _ _ _ _ h
set_option maxHeartbeats 4000000 in
set_option maxRecDepth 100000 in
theorem c_X4_gainedInAll (κ : gx_K)  {M : gx_Mem} {r9 : Int32} (hf : f_X4_gainedInAll M = some r9) : gx_CI κ yX4_gainedInAll cX4_gainedInAll 4 (some .int) 1 [.ref (gx_a κ 30)] M r9 M := by
  refine gx_enterI (d := 1) my_X4_gainedInAll.1 (by decide) (Nat.le_of_ble_eq_true rfl) (fun Γ Cx hR => ?_)
  change gx_G κ Γ 0 [(0, .ref (gx_a κ 30))] [] M
  have K4 : ∀  (ag4 : Int32 → Int32 → Option Int32) (hag4 : ∀ (v1 : Int32) (v2 : Int32), ag4 v1 v2 = some r9 → gx_G κ Γ 4 [(0, .ref (gx_a κ 30)), (1, .int v1), (2, .int v2)] [] M) (v1 : Int32) (v2 : Int32), f_X4_gainedInAll_k4 ag4 v1 v2 M = some r9 → gx_G κ Γ 4 [(0, .ref (gx_a κ 30)), (1, .int v1), (2, .int v2)] [] M := by
    intro ag4 hag4
    have K17 : ∀ (v2 : Int32) (ag17 : Int32 → Int32 → Option Int32) (hag17 : ∀ (v1 : Int32) (v3 : Int32), ag17 v1 v3 = some r9 → gx_G κ Γ 17 [(0, .ref (gx_a κ 30)), (1, .int v1), (2, .int v2), (3, .int v3)] [] M) (v1 : Int32) (v3 : Int32), f_X4_gainedInAll_k17 ag4 v2 ag17 v1 v3 M = some r9 → gx_G κ Γ 17 [(0, .ref (gx_a κ 30)), (1, .int v1), (2, .int v2), (3, .int v3)] [] M := by
      intro v2 ag17 hag17
      intro v1 v3 h
      refine gx_iload_n Cx eX4_gainedInAll_17 3 rfl ?_
      refine gx_iconst (v := (4 : Int32)) Cx eX4_gainedInAll_18 (by decide) ?_
      refine gx_icmp_ge (tgt := 53) Cx eX4_gainedInAll_19 (by decide) h (fun h => ?_) (fun h => ?_)
      · refine gx_iinc (v := (1 : Int32)) (i := 2) (j := 2) Cx eX4_gainedInAll_53 (by decide) h 2 rfl (fun w => [(2, .int w), (0, .ref (gx_a κ 30)), (1, .int v1), (3, .int v3)]) (fun _ => rfl) (by decide) (fun x1 h => ?_)
        refine gx_goto (tgt := 4) Cx eX4_gainedInAll_56 (by decide) ?_
        refine gx_sub [1, 2, 0] rfl ?_
        exact hag4 _ _ h
      · refine gx_iload_n Cx eX4_gainedInAll_22 1 rfl ?_
        refine gx_aload_n Cx eX4_gainedInAll_23 0 rfl ?_
        refine gfX4_25 Cx eX4_gainedInAll_24 ?_
        refine gx_iload_n Cx eX4_gainedInAll_27 2 rfl ?_
        refine gx_iload_n Cx eX4_gainedInAll_28 3 rfl ?_
        obtain ⟨y3, h2, h⟩ := gx_bP_of h
        refine gx_callVI (ci := 2) Cx my_X2_room wlX4_52 rfl gx_y9 (by decide) rfl eX4_gainedInAll_29 (c_X2_room κ gx_Ho9 h2) rfl (Nat.le_of_ble_eq_true rfl) ?_
        refine gx_aload_n Cx eX4_gainedInAll_32 0 rfl ?_
        refine gfX4_18 Cx eX4_gainedInAll_33 ?_
        refine gx_iload_n Cx eX4_gainedInAll_36 2 rfl ?_
        refine gx_iconst (v := (4 : Int32)) Cx eX4_gainedInAll_37 (by decide) ?_
        refine gx_imul Cx eX4_gainedInAll_38 ?_
        refine gx_iload_n Cx eX4_gainedInAll_39 3 rfl ?_
        refine gx_iadd Cx eX4_gainedInAll_40 ?_
        refine gx_iald Cx gx_y33 eX4_gainedInAll_41 h (fun h => ?_)
        refine gx_mmin Cx wlX4_56 (Nat.le_of_ble_eq_true rfl) (Nat.le_of_ble_eq_true rfl) eX4_gainedInAll_42 ?_
        refine gx_iadd Cx eX4_gainedInAll_45 ?_
        refine gx_nmI h (fun x4 h => ?_)
        refine gx_istore_n Cx eX4_gainedInAll_46 [(1, .int x4), (0, .ref (gx_a κ 30)), (2, .int v2), (3, .int v3)] rfl (by decide) ?_
        refine gx_iinc (v := (1 : Int32)) (i := 3) (j := 3) Cx eX4_gainedInAll_47 (by decide) h 3 rfl (fun w => [(3, .int w), (1, .int x4), (0, .ref (gx_a κ 30)), (2, .int v2)]) (fun _ => rfl) (by decide) (fun x5 h => ?_)
        refine gx_goto (tgt := 17) Cx eX4_gainedInAll_50 (by decide) ?_
        refine gx_sub [2, 1, 3, 0] rfl ?_
        exact hag17 _ _ h
    have L17 : ∀ (v2 : Int32) (n : Nat) (v1 : Int32) (v3 : Int32), f_X4_gainedInAll_l17 ag4 v2 n v1 v3 M = some r9 → gx_G κ Γ 17 [(0, .ref (gx_a κ 30)), (1, .int v1), (2, .int v2), (3, .int v3)] [] M := by
      intro v2 n
      induction n with
      | zero => intro v1 v3 h; exact gx_loop_0 h
      | succ n ih => intro v1 v3 h; exact K17 v2 (fun v1 v3 => f_X4_gainedInAll_l17 ag4 v2 n v1 v3 M) ih v1 v3 h
    intro v1 v2 h
    refine gx_iload_n Cx eX4_gainedInAll_4 2 rfl ?_
    refine gx_aload_n Cx eX4_gainedInAll_5 0 rfl ?_
    refine gfX4_25 Cx eX4_gainedInAll_6 ?_
    refine gfX4_67 Cx gx_y9 eX4_gainedInAll_9 ?_
    refine gx_icmp_ge (tgt := 59) Cx eX4_gainedInAll_12 (by decide) h (fun h => ?_) (fun h => ?_)
    · refine gx_iload_n Cx eX4_gainedInAll_59 1 rfl ?_
      exact gx_rIp h rfl eX4_gainedInAll_60 hR
    · refine gx_iconst (v := (0 : Int32)) Cx eX4_gainedInAll_15 (by decide) ?_
      refine gx_istore_n Cx eX4_gainedInAll_16 [(3, .int (0 : Int32)), (0, .ref (gx_a κ 30)), (1, .int v1), (2, .int v2)] rfl (by decide) ?_
      refine gx_sub [1, 2, 3, 0] rfl ?_
      exact L17 _ _ _ _ h
  have L4 : ∀  (n : Nat) (v1 : Int32) (v2 : Int32), f_X4_gainedInAll_l4 n v1 v2 M = some r9 → gx_G κ Γ 4 [(0, .ref (gx_a κ 30)), (1, .int v1), (2, .int v2)] [] M := by
    intro n
    induction n with
    | zero => intro v1 v2 h; exact gx_loop_0 h
    | succ n ih => intro v1 v2 h; exact K4 (fun v1 v2 => f_X4_gainedInAll_l4 n v1 v2 M) ih v1 v2 h
  have h := hf
  refine gx_iconst (v := (0 : Int32)) Cx eX4_gainedInAll_0 (by decide) ?_
  refine gx_istore_n Cx eX4_gainedInAll_1 [(1, .int (0 : Int32)), (0, .ref (gx_a κ 30))] rfl (by decide) ?_
  refine gx_iconst (v := (0 : Int32)) Cx eX4_gainedInAll_2 (by decide) ?_
  refine gx_istore_n Cx eX4_gainedInAll_3 [(2, .int (0 : Int32)), (1, .int (0 : Int32)), (0, .ref (gx_a κ 30))] rfl (by decide) ?_
  refine gx_sub [2, 1, 0] rfl ?_
  exact L4 _ _ _ h
set_option maxHeartbeats 4000000 in
set_option maxRecDepth 100000 in
theorem c_X4_soak (κ : gx_K) {v1 : Int32} {M : gx_Mem} {M9 : gx_Mem} (hf : f_X4_soak v1 M = some M9) : gx_CV κ yX4_soak cX4_soak 4 none 5 [.ref (gx_a κ 30), .int v1] M M9 := by
  refine gx_enterV (d := 5) my_X4_soak.1 (by decide) (Nat.le_of_ble_eq_true rfl) (fun Γ Cx hR => ?_)
  change gx_G κ Γ 0 [(0, .ref (gx_a κ 30)), (1, .int v1)] [] M
  have K2 : ∀  (ag2 : Int32 → gx_Mem → Option gx_Mem) (hag2 : ∀ (v2 : Int32) (M : gx_Mem), ag2 v2 M = some M9 → gx_G κ Γ 2 [(0, .ref (gx_a κ 30)), (1, .int v1), (2, .int v2)] [] M) (v2 : Int32) (M : gx_Mem), f_X4_soak_k2 v1 ag2 v2 M = some M9 → gx_G κ Γ 2 [(0, .ref (gx_a κ 30)), (1, .int v1), (2, .int v2)] [] M := by
    intro ag2 hag2
    have K15 : ∀ (v2 : Int32) (ag15 : Int32 → gx_Mem → Option gx_Mem) (hag15 : ∀ (v3 : Int32) (M : gx_Mem), ag15 v3 M = some M9 → gx_G κ Γ 15 [(0, .ref (gx_a κ 30)), (1, .int v1), (2, .int v2), (3, .int v3)] [] M) (v3 : Int32) (M : gx_Mem), f_X4_soak_k15 ag2 v1 v2 ag15 v3 M = some M9 → gx_G κ Γ 15 [(0, .ref (gx_a κ 30)), (1, .int v1), (2, .int v2), (3, .int v3)] [] M := by
      intro v2 ag15 hag15
      intro v3 M h
      refine gx_iload_n Cx eX4_soak_15 3 rfl ?_
      refine gx_iconst (v := (4 : Int32)) Cx eX4_soak_16 (by decide) ?_
      refine gx_icmp_ge (tgt := 49) Cx eX4_soak_17 (by decide) h (fun h => ?_) (fun h => ?_)
      · refine gx_iinc (v := (1 : Int32)) (i := 2) (j := 2) Cx eX4_soak_49 (by decide) h 2 rfl (fun w => [(2, .int w), (0, .ref (gx_a κ 30)), (1, .int v1), (3, .int v3)]) (fun _ => rfl) (by decide) (fun x1 h => ?_)
        refine gx_goto (tgt := 2) Cx eX4_soak_52 (by decide) ?_
        refine gx_sub [1, 2, 0] rfl ?_
        exact hag2 _ _ h
      · refine gx_aload_n Cx eX4_soak_20 0 rfl ?_
        refine gfX4_18 Cx eX4_soak_21 ?_
        refine gx_iload_n Cx eX4_soak_24 2 rfl ?_
        refine gx_iconst (v := (4 : Int32)) Cx eX4_soak_25 (by decide) ?_
        refine gx_imul Cx eX4_soak_26 ?_
        refine gx_iload_n Cx eX4_soak_27 3 rfl ?_
        refine gx_iadd Cx eX4_soak_28 ?_
        refine gx_dup2 Cx eX4_soak_29 rfl rfl ?_
        refine gx_iald Cx gx_y33 eX4_soak_30 h (fun h => ?_)
        refine gx_aload_n Cx eX4_soak_31 0 rfl ?_
        refine gfX4_25 Cx eX4_soak_32 ?_
        refine gx_iload_n Cx eX4_soak_35 2 rfl ?_
        refine gx_iload_n Cx eX4_soak_36 3 rfl ?_
        refine gx_iload_n Cx eX4_soak_37 1 rfl ?_
        obtain ⟨y3, M4, h2, h⟩ := gx_bI_of h
        refine gx_callVI (ci := 2) Cx my_X2_drips wlX4_45 rfl gx_y9 (by decide) rfl eX4_soak_38 (c_X2_drips κ gx_Ho9 h2) rfl (Nat.le_of_ble_eq_true rfl) ?_
        refine gx_iadd Cx eX4_soak_41 ?_
        refine gx_iast Cx gx_y33 eX4_soak_42 h (fun M5 h => ?_)
        refine gx_iinc (v := (1 : Int32)) (i := 3) (j := 3) Cx eX4_soak_43 (by decide) h 3 rfl (fun w => [(3, .int w), (0, .ref (gx_a κ 30)), (1, .int v1), (2, .int v2)]) (fun _ => rfl) (by decide) (fun x6 h => ?_)
        refine gx_goto (tgt := 15) Cx eX4_soak_46 (by decide) ?_
        refine gx_sub [1, 2, 3, 0] rfl ?_
        exact hag15 _ _ h
    have L15 : ∀ (v2 : Int32) (n : Nat) (v3 : Int32) (M : gx_Mem), f_X4_soak_l15 ag2 v1 v2 n v3 M = some M9 → gx_G κ Γ 15 [(0, .ref (gx_a κ 30)), (1, .int v1), (2, .int v2), (3, .int v3)] [] M := by
      intro v2 n
      induction n with
      | zero => intro v3 M h; exact gx_loop_0 h
      | succ n ih => intro v3 M h; exact K15 v2 (fun v3 M => f_X4_soak_l15 ag2 v1 v2 n v3 M) ih v3 M h
    intro v2 M h
    refine gx_iload_n Cx eX4_soak_2 2 rfl ?_
    refine gx_aload_n Cx eX4_soak_3 0 rfl ?_
    refine gfX4_25 Cx eX4_soak_4 ?_
    refine gfX4_67 Cx gx_y9 eX4_soak_7 ?_
    refine gx_icmp_ge (tgt := 55) Cx eX4_soak_10 (by decide) h (fun h => ?_) (fun h => ?_)
    · exact gx_rV h eX4_soak_55 hR
    · refine gx_iconst (v := (0 : Int32)) Cx eX4_soak_13 (by decide) ?_
      refine gx_istore_n Cx eX4_soak_14 [(3, .int (0 : Int32)), (0, .ref (gx_a κ 30)), (1, .int v1), (2, .int v2)] rfl (by decide) ?_
      refine gx_sub [1, 2, 3, 0] rfl ?_
      exact L15 _ _ _ _ h
  have L2 : ∀  (n : Nat) (v2 : Int32) (M : gx_Mem), f_X4_soak_l2 v1 n v2 M = some M9 → gx_G κ Γ 2 [(0, .ref (gx_a κ 30)), (1, .int v1), (2, .int v2)] [] M := by
    intro n
    induction n with
    | zero => intro v2 M h; exact gx_loop_0 h
    | succ n ih => intro v2 M h; exact K2 (fun v2 M => f_X4_soak_l2 v1 n v2 M) ih v2 M h
  have h := hf
  refine gx_iconst (v := (0 : Int32)) Cx eX4_soak_0 (by decide) ?_
  refine gx_istore_n Cx eX4_soak_1 [(2, .int (0 : Int32)), (0, .ref (gx_a κ 30)), (1, .int v1)] rfl (by decide) ?_
  refine gx_sub [1, 2, 0] rfl ?_
  exact L2 _ _ _ h
set_option maxHeartbeats 4000000 in
set_option maxRecDepth 100000 in
theorem c_X4_draw (κ : gx_K) {v1 : Int32} {v2 : Int32} {v3 : Int32} {v4 : Int32} {M : gx_Mem} {r9 : Int32} {M9 : gx_Mem} (hf : f_X4_draw v1 v2 v3 v4 M = some (r9, M9)) : gx_CI κ yX4_draw cX4_draw 12 (some .int) 6 [.ref (gx_a κ 30), .int v1, .int v2, .int v3, .int v4] M r9 M9 := by
  refine gx_enterI (d := 6) my_X4_draw.1 (by decide) (Nat.le_of_ble_eq_true rfl) (fun Γ Cx hR => ?_)
  change gx_G κ Γ 0 [(0, .ref (gx_a κ 30)), (1, .int v1), (2, .int v2), (3, .int v3), (4, .int v4)] [] M
  have K12 : ∀  (ag12 : Int32 → Int32 → Int32 → Int32 → gx_Mem → Option (Int32 × gx_Mem)) (hag12 : ∀ (v5 : Int32) (v6 : Int32) (v7 : Int32) (v8 : Int32) (M : gx_Mem), ag12 v5 v6 v7 v8 M = some (r9, M9) → gx_G κ Γ 12 [(0, .ref (gx_a κ 30)), (2, .int v2), (3, .int v3), (4, .int v4), (5, .int v5), (6, .int v6), (7, .int v7), (8, .int v8)] [] M) (v5 : Int32) (v6 : Int32) (v7 : Int32) (v8 : Int32) (M : gx_Mem), f_X4_draw_k12 v2 v3 v4 ag12 v5 v6 v7 v8 M = some (r9, M9) → gx_G κ Γ 12 [(0, .ref (gx_a κ 30)), (2, .int v2), (3, .int v3), (4, .int v4), (5, .int v5), (6, .int v6), (7, .int v7), (8, .int v8)] [] M := by
    intro ag12 hag12
    have K45 : ∀ (v6 : Int32) (v8 : Int32) (ag45 : Int32 → Int32 → Int32 → gx_Mem → Option (Int32 × gx_Mem)) (hag45 : ∀ (v5 : Int32) (v7 : Int32) (v9 : Int32) (M : gx_Mem), ag45 v5 v7 v9 M = some (r9, M9) → gx_G κ Γ 45 [(0, .ref (gx_a κ 30)), (2, .int v2), (3, .int v3), (4, .int v4), (5, .int v5), (6, .int v6), (7, .int v7), (8, .int v8), (9, .int v9)] [] M) (v5 : Int32) (v7 : Int32) (v9 : Int32) (M : gx_Mem), f_X4_draw_k45 ag12 v2 v3 v4 v6 v8 ag45 v5 v7 v9 M = some (r9, M9) → gx_G κ Γ 45 [(0, .ref (gx_a κ 30)), (2, .int v2), (3, .int v3), (4, .int v4), (5, .int v5), (6, .int v6), (7, .int v7), (8, .int v8), (9, .int v9)] [] M := by
      intro v6 v8 ag45 hag45
      have B126 : ∀ (v5 : Int32) (v7 : Int32) (v9 : Int32) (M : gx_Mem), f_X4_draw_b126 ag12 ag45 v2 v3 v4 v5 v6 v7 v8 v9 M = some (r9, M9) → gx_G κ Γ 126 [(0, .ref (gx_a κ 30)), (2, .int v2), (3, .int v3), (4, .int v4), (5, .int v5), (6, .int v6), (7, .int v7), (8, .int v8), (9, .int v9)] [] M := by
        intro v5 v7 v9 M h
        refine gx_iinc (v := (1 : Int32)) (i := 9) (j := 8) Cx eX4_draw_126 (by decide) h 8 rfl (fun w => [(9, .int w), (0, .ref (gx_a κ 30)), (2, .int v2), (3, .int v3), (4, .int v4), (5, .int v5), (6, .int v6), (7, .int v7), (8, .int v8)]) (fun _ => rfl) (by decide) (fun x16 h => ?_)
        refine gx_goto (tgt := 45) Cx eX4_draw_129 (by decide) ?_
        refine gx_sub [1, 2, 3, 4, 5, 6, 7, 8, 0] rfl ?_
        exact hag45 _ _ _ _ h
      have K57 : ∀ (v7 : Int32) (v9 : Int32) (ag57 : Int32 → Int32 → Int32 → gx_Mem → Option (Int32 × gx_Mem)) (hag57 : ∀ (v5 : Int32) (v10 : Int32) (v11 : Int32) (M : gx_Mem), ag57 v5 v10 v11 M = some (r9, M9) → gx_G κ Γ 57 [(0, .ref (gx_a κ 30)), (2, .int v2), (3, .int v3), (4, .int v4), (5, .int v5), (6, .int v6), (7, .int v7), (8, .int v8), (9, .int v9), (10, .int v10), (11, .int v11)] [] M) (v5 : Int32) (v10 : Int32) (v11 : Int32) (M : gx_Mem), f_X4_draw_k57 ag12 ag45 v2 v3 v4 v6 v7 v8 v9 ag57 v5 v10 v11 M = some (r9, M9) → gx_G κ Γ 57 [(0, .ref (gx_a κ 30)), (2, .int v2), (3, .int v3), (4, .int v4), (5, .int v5), (6, .int v6), (7, .int v7), (8, .int v8), (9, .int v9), (10, .int v10), (11, .int v11)] [] M := by
        intro v7 v9 ag57 hag57
        intro v5 v10 v11 M h
        refine gx_iload Cx eX4_draw_57 10 rfl ?_
        refine gx_aload_n Cx eX4_draw_59 0 rfl ?_
        refine gfX4_25 Cx eX4_draw_60 ?_
        refine gfX4_67 Cx gx_y9 eX4_draw_63 ?_
        refine gx_icmp_ge (tgt := 101) Cx eX4_draw_66 (by decide) h (fun h => ?_) (fun h => ?_)
        · refine gx_iload Cx eX4_draw_101 3 rfl ?_
          refine gx_if_eq (tgt := 120) Cx eX4_draw_103 (by decide) h (fun h => ?_) (fun h => ?_)
          · refine gx_aload_n Cx eX4_draw_120 0 rfl ?_
            refine gx_iload Cx eX4_draw_121 9 rfl ?_
            obtain ⟨M8, h7, h⟩ := gx_bP_of h
            refine gx_callVV (ci := 4) Cx my_X4_soak wlX4_133 rfl gx_y30 (by decide) rfl eX4_draw_123 (c_X4_soak κ h7) rfl (Nat.le_of_ble_eq_true rfl) ?_
            refine gx_sub [0, 1, 2, 3, 4, 5, 6, 7, 8] rfl ?_
            exact B126 _ _ _ _ h
          · refine gx_iload Cx eX4_draw_106 6 rfl ?_
            refine gx_aload_n Cx eX4_draw_108 0 rfl ?_
            refine gx_iload Cx eX4_draw_109 9 rfl ?_
            obtain ⟨y10, M11, h9, h⟩ := gx_bI_of h
            refine gx_callVI (ci := 4) Cx my_X4_caughtOfAll wlX4_130 rfl gx_y30 (by decide) rfl eX4_draw_111 (c_X4_caughtOfAll κ h9) rfl (Nat.le_of_ble_eq_true rfl) ?_
            refine gx_iadd Cx eX4_draw_114 ?_
            refine gx_nmI h (fun x12 h => ?_)
            refine gx_istore Cx eX4_draw_115 [(7, .int x12), (0, .ref (gx_a κ 30)), (2, .int v2), (3, .int v3), (4, .int v4), (5, .int v5), (6, .int v6), (8, .int v8), (9, .int v9), (10, .int v10), (11, .int v11)] rfl (by decide) ?_
            refine gx_goto (tgt := 126) Cx eX4_draw_117 (by decide) ?_
            refine gx_sub [1, 2, 3, 4, 5, 6, 0, 7, 8] rfl ?_
            exact B126 _ _ _ _ h
        · refine gx_iload Cx eX4_draw_69 4 rfl ?_
          refine gx_ldc Cx eX4_draw_71 wkX4_129 ?_
          refine gx_imul Cx eX4_draw_73 ?_
          refine gx_sipush (v := (12345 : Int32)) Cx eX4_draw_74 (by decide) ?_
          refine gx_iadd Cx eX4_draw_77 ?_
          refine gx_nmI h (fun x13 h => ?_)
          refine gx_istore Cx eX4_draw_78 [(5, .int x13), (0, .ref (gx_a κ 30)), (2, .int v2), (3, .int v3), (4, .int v4), (6, .int v6), (7, .int v7), (8, .int v8), (9, .int v9), (10, .int v10), (11, .int v11)] rfl (by decide) ?_
          refine gx_iload Cx eX4_draw_80 9 rfl ?_
          refine gx_iload Cx eX4_draw_82 0 rfl ?_
          refine gx_bipush (v := (8 : Int32)) Cx eX4_draw_84 (by decide) ?_
          refine gx_iushr Cx eX4_draw_86 ?_
          refine gx_iconst (v := (2 : Int32)) Cx eX4_draw_87 (by decide) ?_
          refine gx_iremC Cx eX4_draw_88 (by decide) ?_
          refine gx_iload Cx eX4_draw_89 10 rfl ?_
          refine gx_ishl Cx eX4_draw_91 ?_
          refine gx_ior Cx eX4_draw_92 ?_
          refine gx_nmI h (fun x14 h => ?_)
          refine gx_istore Cx eX4_draw_93 [(10, .int x14), (5, .int x13), (0, .ref (gx_a κ 30)), (2, .int v2), (3, .int v3), (4, .int v4), (6, .int v6), (7, .int v7), (8, .int v8), (9, .int v9), (11, .int v11)] rfl (by decide) ?_
          refine gx_iinc (v := (1 : Int32)) (i := 11) (j := 10) Cx eX4_draw_95 (by decide) h 10 rfl (fun w => [(11, .int w), (10, .int x14), (5, .int x13), (0, .ref (gx_a κ 30)), (2, .int v2), (3, .int v3), (4, .int v4), (6, .int v6), (7, .int v7), (8, .int v8), (9, .int v9)]) (fun _ => rfl) (by decide) (fun x15 h => ?_)
          refine gx_goto (tgt := 57) Cx eX4_draw_98 (by decide) ?_
          refine gx_sub [3, 4, 5, 6, 2, 7, 8, 9, 10, 1, 0] rfl ?_
          exact hag57 _ _ _ _ h
      have L57 : ∀ (v7 : Int32) (v9 : Int32) (n : Nat) (v5 : Int32) (v10 : Int32) (v11 : Int32) (M : gx_Mem), f_X4_draw_l57 ag12 ag45 v2 v3 v4 v6 v7 v8 v9 n v5 v10 v11 M = some (r9, M9) → gx_G κ Γ 57 [(0, .ref (gx_a κ 30)), (2, .int v2), (3, .int v3), (4, .int v4), (5, .int v5), (6, .int v6), (7, .int v7), (8, .int v8), (9, .int v9), (10, .int v10), (11, .int v11)] [] M := by
        intro v7 v9 n
        induction n with
        | zero => intro v5 v10 v11 M h; exact gx_loop_0 h
        | succ n ih => intro v5 v10 v11 M h; exact K57 v7 v9 (fun v5 v10 v11 M => f_X4_draw_l57 ag12 ag45 v2 v3 v4 v6 v7 v8 v9 n v5 v10 v11 M) ih v5 v10 v11 M h
      intro v5 v7 v9 M h
      refine gx_iload Cx eX4_draw_45 8 rfl ?_
      refine gx_iload_n Cx eX4_draw_47 2 rfl ?_
      refine gx_icmp_ge (tgt := 132) Cx eX4_draw_48 (by decide) h (fun h => ?_) (fun h => ?_)
      · refine gx_iload Cx eX4_draw_132 5 rfl ?_
        refine gx_aload_n Cx eX4_draw_134 0 rfl ?_
        obtain ⟨y4, h3, h⟩ := gx_bP_of h
        refine gx_callVI (ci := 4) Cx my_X4_gainedInAll wlX4_137 rfl gx_y30 (by decide) rfl eX4_draw_135 (c_X4_gainedInAll κ h3) rfl (Nat.le_of_ble_eq_true rfl) ?_
        refine gx_iadd Cx eX4_draw_138 ?_
        refine gx_nmI h (fun x5 h => ?_)
        refine gx_istore Cx eX4_draw_139 [(6, .int x5), (0, .ref (gx_a κ 30)), (2, .int v2), (3, .int v3), (4, .int v4), (5, .int v5), (7, .int v7), (8, .int v8), (9, .int v9)] rfl (by decide) ?_
        refine gx_iinc (v := (1 : Int32)) (i := 8) (j := 7) Cx eX4_draw_141 (by decide) h 7 rfl (fun w => [(8, .int w), (6, .int x5), (0, .ref (gx_a κ 30)), (2, .int v2), (3, .int v3), (4, .int v4), (5, .int v5), (7, .int v7), (9, .int v9)]) (fun _ => rfl) (by decide) (fun x6 h => ?_)
        refine gx_goto (tgt := 12) Cx eX4_draw_144 (by decide) ?_
        refine gx_sub [2, 3, 4, 5, 6, 1, 7, 0] rfl ?_
        exact hag12 _ _ _ _ _ h
      · refine gx_iconst (v := (0 : Int32)) Cx eX4_draw_51 (by decide) ?_
        refine gx_istore Cx eX4_draw_52 [(10, .int (0 : Int32)), (0, .ref (gx_a κ 30)), (2, .int v2), (3, .int v3), (4, .int v4), (5, .int v5), (6, .int v6), (7, .int v7), (8, .int v8), (9, .int v9)] rfl (by decide) ?_
        refine gx_iconst (v := (0 : Int32)) Cx eX4_draw_54 (by decide) ?_
        refine gx_istore Cx eX4_draw_55 [(11, .int (0 : Int32)), (10, .int (0 : Int32)), (0, .ref (gx_a κ 30)), (2, .int v2), (3, .int v3), (4, .int v4), (5, .int v5), (6, .int v6), (7, .int v7), (8, .int v8), (9, .int v9)] rfl (by decide) ?_
        refine gx_sub [2, 3, 4, 5, 6, 7, 8, 9, 10, 1, 0] rfl ?_
        exact L57 _ _ _ _ _ _ _ h
    have L45 : ∀ (v6 : Int32) (v8 : Int32) (n : Nat) (v5 : Int32) (v7 : Int32) (v9 : Int32) (M : gx_Mem), f_X4_draw_l45 ag12 v2 v3 v4 v6 v8 n v5 v7 v9 M = some (r9, M9) → gx_G κ Γ 45 [(0, .ref (gx_a κ 30)), (2, .int v2), (3, .int v3), (4, .int v4), (5, .int v5), (6, .int v6), (7, .int v7), (8, .int v8), (9, .int v9)] [] M := by
      intro v6 v8 n
      induction n with
      | zero => intro v5 v7 v9 M h; exact gx_loop_0 h
      | succ n ih => intro v5 v7 v9 M h; exact K45 v6 v8 (fun v5 v7 v9 M => f_X4_draw_l45 ag12 v2 v3 v4 v6 v8 n v5 v7 v9 M) ih v5 v7 v9 M h
    have K21 : ∀ (v5 : Int32) (v6 : Int32) (v7 : Int32) (v8 : Int32) (ag21 : Int32 → gx_Mem → Option (Int32 × gx_Mem)) (hag21 : ∀ (v9 : Int32) (M : gx_Mem), ag21 v9 M = some (r9, M9) → gx_G κ Γ 21 [(0, .ref (gx_a κ 30)), (2, .int v2), (3, .int v3), (4, .int v4), (5, .int v5), (6, .int v6), (7, .int v7), (8, .int v8), (9, .int v9)] [] M) (v9 : Int32) (M : gx_Mem), f_X4_draw_k21 ag12 v2 v3 v4 v5 v6 v7 v8 ag21 v9 M = some (r9, M9) → gx_G κ Γ 21 [(0, .ref (gx_a κ 30)), (2, .int v2), (3, .int v3), (4, .int v4), (5, .int v5), (6, .int v6), (7, .int v7), (8, .int v8), (9, .int v9)] [] M := by
      intro v5 v6 v7 v8 ag21 hag21
      intro v9 M h
      refine gx_iload Cx eX4_draw_21 8 rfl ?_
      refine gx_bipush (v := (24 : Int32)) Cx eX4_draw_23 (by decide) ?_
      refine gx_icmp_ge (tgt := 42) Cx eX4_draw_25 (by decide) h (fun h => ?_) (fun h => ?_)
      · refine gx_iconst (v := (0 : Int32)) Cx eX4_draw_42 (by decide) ?_
        refine gx_istore Cx eX4_draw_43 [(9, .int (0 : Int32)), (0, .ref (gx_a κ 30)), (2, .int v2), (3, .int v3), (4, .int v4), (5, .int v5), (6, .int v6), (7, .int v7), (8, .int v8)] rfl (by decide) ?_
        refine gx_sub [1, 2, 3, 4, 5, 6, 7, 8, 0] rfl ?_
        exact L45 _ _ _ _ _ _ _ h
      · refine gx_aload_n Cx eX4_draw_28 0 rfl ?_
        refine gfX4_18 Cx eX4_draw_29 ?_
        refine gx_iload Cx eX4_draw_32 8 rfl ?_
        refine gx_iconst (v := (0 : Int32)) Cx eX4_draw_34 (by decide) ?_
        refine gx_iast Cx gx_y33 eX4_draw_35 h (fun M1 h => ?_)
        refine gx_iinc (v := (1 : Int32)) (i := 9) (j := 8) Cx eX4_draw_36 (by decide) h 8 rfl (fun w => [(9, .int w), (0, .ref (gx_a κ 30)), (2, .int v2), (3, .int v3), (4, .int v4), (5, .int v5), (6, .int v6), (7, .int v7), (8, .int v8)]) (fun _ => rfl) (by decide) (fun x2 h => ?_)
        refine gx_goto (tgt := 21) Cx eX4_draw_39 (by decide) ?_
        refine gx_sub [1, 2, 3, 4, 5, 6, 7, 8, 0] rfl ?_
        exact hag21 _ _ h
    have L21 : ∀ (v5 : Int32) (v6 : Int32) (v7 : Int32) (v8 : Int32) (n : Nat) (v9 : Int32) (M : gx_Mem), f_X4_draw_l21 ag12 v2 v3 v4 v5 v6 v7 v8 n v9 M = some (r9, M9) → gx_G κ Γ 21 [(0, .ref (gx_a κ 30)), (2, .int v2), (3, .int v3), (4, .int v4), (5, .int v5), (6, .int v6), (7, .int v7), (8, .int v8), (9, .int v9)] [] M := by
      intro v5 v6 v7 v8 n
      induction n with
      | zero => intro v9 M h; exact gx_loop_0 h
      | succ n ih => intro v9 M h; exact K21 v5 v6 v7 v8 (fun v9 M => f_X4_draw_l21 ag12 v2 v3 v4 v5 v6 v7 v8 n v9 M) ih v9 M h
    intro v5 v6 v7 v8 M h
    refine gx_iload Cx eX4_draw_12 7 rfl ?_
    refine gx_iload_n Cx eX4_draw_14 1 rfl ?_
    refine gx_icmp_ge (tgt := 147) Cx eX4_draw_15 (by decide) h (fun h => ?_) (fun h => ?_)
    · refine gx_iload Cx eX4_draw_147 3 rfl ?_
      refine gx_if_eq (tgt := 157) Cx eX4_draw_149 (by decide) h (fun h => ?_) (fun h => ?_)
      · refine gx_iload Cx eX4_draw_157 5 rfl ?_
        exact gx_rI h rfl eX4_draw_159 hR
      · refine gx_iload Cx eX4_draw_152 6 rfl ?_
        refine gx_goto (tgt := 159) Cx eX4_draw_154 (by decide) ?_
        exact gx_rI h rfl eX4_draw_159 hR
    · refine gx_iconst (v := (0 : Int32)) Cx eX4_draw_18 (by decide) ?_
      refine gx_istore Cx eX4_draw_19 [(9, .int (0 : Int32)), (0, .ref (gx_a κ 30)), (2, .int v2), (3, .int v3), (4, .int v4), (5, .int v5), (6, .int v6), (7, .int v7), (8, .int v8)] rfl (by decide) ?_
      refine gx_sub [1, 2, 3, 4, 5, 6, 7, 8, 0] rfl ?_
      exact L21 _ _ _ _ _ _ _ h
  have L12 : ∀  (n : Nat) (v5 : Int32) (v6 : Int32) (v7 : Int32) (v8 : Int32) (M : gx_Mem), f_X4_draw_l12 v2 v3 v4 n v5 v6 v7 v8 M = some (r9, M9) → gx_G κ Γ 12 [(0, .ref (gx_a κ 30)), (2, .int v2), (3, .int v3), (4, .int v4), (5, .int v5), (6, .int v6), (7, .int v7), (8, .int v8)] [] M := by
    intro n
    induction n with
    | zero => intro v5 v6 v7 v8 M h; exact gx_loop_0 h
    | succ n ih => intro v5 v6 v7 v8 M h; exact K12 (fun v5 v6 v7 v8 M => f_X4_draw_l12 v2 v3 v4 n v5 v6 v7 v8 M) ih v5 v6 v7 v8 M h
  have h := hf
  refine gx_iload_n Cx eX4_draw_0 1 rfl ?_
  refine gx_istore Cx eX4_draw_1 [(5, .int v1), (0, .ref (gx_a κ 30)), (1, .int v1), (2, .int v2), (3, .int v3), (4, .int v4)] rfl (by decide) ?_
  refine gx_iconst (v := (0 : Int32)) Cx eX4_draw_3 (by decide) ?_
  refine gx_istore Cx eX4_draw_4 [(6, .int (0 : Int32)), (5, .int v1), (0, .ref (gx_a κ 30)), (1, .int v1), (2, .int v2), (3, .int v3), (4, .int v4)] rfl (by decide) ?_
  refine gx_iconst (v := (0 : Int32)) Cx eX4_draw_6 (by decide) ?_
  refine gx_istore Cx eX4_draw_7 [(7, .int (0 : Int32)), (6, .int (0 : Int32)), (5, .int v1), (0, .ref (gx_a κ 30)), (1, .int v1), (2, .int v2), (3, .int v3), (4, .int v4)] rfl (by decide) ?_
  refine gx_iconst (v := (0 : Int32)) Cx eX4_draw_9 (by decide) ?_
  refine gx_istore Cx eX4_draw_10 [(8, .int (0 : Int32)), (7, .int (0 : Int32)), (6, .int (0 : Int32)), (5, .int v1), (0, .ref (gx_a κ 30)), (1, .int v1), (2, .int v2), (3, .int v3), (4, .int v4)] rfl (by decide) ?_
  refine gx_sub [4, 6, 7, 8, 3, 2, 1, 0] rfl ?_
  exact L12 _ _ _ _ _ _ h
set_option maxHeartbeats 4000000 in
set_option maxRecDepth 100000 in
theorem c_X4_spread (κ : gx_K) {v1 : Int32} {v2 : Int32} {M : gx_Mem} {M9 : gx_Mem} (hf : f_X4_spread v1 v2 M = some M9) : gx_CV κ yX4_spread cX4_spread 5 none 0 [.ref (gx_a κ 30), .int v1, .int v2] M M9 := by
  refine gx_enterV (d := 0) my_X4_spread.1 (by decide) (Nat.le_of_ble_eq_true rfl) (fun Γ Cx hR => ?_)
  change gx_G κ Γ 0 [(0, .ref (gx_a κ 30)), (1, .int v1), (2, .int v2)] [] M
  have K2 : ∀  (ag2 : Int32 → gx_Mem → Option gx_Mem) (hag2 : ∀ (v3 : Int32) (M : gx_Mem), ag2 v3 M = some M9 → gx_G κ Γ 2 [(0, .ref (gx_a κ 30)), (1, .int v1), (2, .int v2), (3, .int v3)] [] M) (v3 : Int32) (M : gx_Mem), f_X4_spread_k2 v1 v2 ag2 v3 M = some M9 → gx_G κ Γ 2 [(0, .ref (gx_a κ 30)), (1, .int v1), (2, .int v2), (3, .int v3)] [] M := by
    intro ag2 hag2
    have B48 : ∀ (v3 : Int32) (s1 : Int32) (s2 : Int32) (M : gx_Mem), f_X4_spread_b48 ag2 v1 v2 v3 s1 s2 M = some M9 → gx_G κ Γ 48 [(0, .ref (gx_a κ 30)), (1, .int v1), (2, .int v2), (3, .int v3)] [.int s2, .int s1, .ref (gx_a κ 28)] M := by
      intro v3 s1 s2 M h
      refine gx_iast Cx gx_y28 eX4_spread_48 h (fun M2 h => ?_)
      refine gx_iinc (v := (1 : Int32)) (i := 3) (j := 3) Cx eX4_spread_49 (by decide) h 3 rfl (fun w => [(3, .int w), (0, .ref (gx_a κ 30)), (1, .int v1), (2, .int v2)]) (fun _ => rfl) (by decide) (fun x3 h => ?_)
      refine gx_goto (tgt := 2) Cx eX4_spread_52 (by decide) ?_
      refine gx_sub [1, 2, 3, 0] rfl ?_
      exact hag2 _ _ h
    intro v3 M h
    refine gx_iload_n Cx eX4_spread_2 3 rfl ?_
    refine gx_bipush (v := (8 : Int32)) Cx eX4_spread_3 (by decide) ?_
    refine gx_icmp_ge (tgt := 55) Cx eX4_spread_5 (by decide) h (fun h => ?_) (fun h => ?_)
    · exact gx_rV h eX4_spread_55 hR
    · refine gx_iload_n Cx eX4_spread_8 1 rfl ?_
      refine gx_bipush (v := (8 : Int32)) Cx eX4_spread_9 (by decide) ?_
      refine gx_imul Cx eX4_spread_11 ?_
      refine gx_iload_n Cx eX4_spread_12 3 rfl ?_
      refine gx_iadd Cx eX4_spread_13 ?_
      refine gx_nmI h (fun x1 h => ?_)
      refine gx_istore Cx eX4_spread_14 [(4, .int x1), (0, .ref (gx_a κ 30)), (1, .int v1), (2, .int v2), (3, .int v3)] rfl (by decide) ?_
      refine gx_aload_n Cx eX4_spread_16 1 rfl ?_
      refine gfX4_29 Cx eX4_spread_17 ?_
      refine gfX4_90 Cx gx_y23 eX4_spread_20 ?_
      refine gx_iload Cx eX4_spread_23 0 rfl ?_
      refine gx_iload_n Cx eX4_spread_25 3 rfl ?_
      refine gx_iload_n Cx eX4_spread_26 4 rfl ?_
      refine gx_ishr Cx eX4_spread_27 ?_
      refine gx_iconst (v := (1 : Int32)) Cx eX4_spread_28 (by decide) ?_
      refine gx_iand Cx eX4_spread_29 ?_
      refine gx_if_eq (tgt := 38) Cx eX4_spread_30 (by decide) h (fun h => ?_) (fun h => ?_)
      · refine gx_aload_n Cx eX4_spread_38 1 rfl ?_
        refine gfX4_25 Cx eX4_spread_39 ?_
        refine gfX4_90 Cx gx_y9 eX4_spread_42 ?_
        refine gx_iload Cx eX4_spread_45 0 rfl ?_
        refine gx_iald Cx gx_y14 eX4_spread_47 h (fun h => ?_)
        refine gx_sub [1, 2, 3, 4] rfl ?_
        exact B48 _ _ _ _ h
      · refine gx_bipush (v := (9 : Int32)) Cx eX4_spread_33 (by decide) ?_
        refine gx_goto (tgt := 48) Cx eX4_spread_35 (by decide) ?_
        refine gx_sub [1, 2, 3, 4] rfl ?_
        exact B48 _ _ _ _ h
  have L2 : ∀  (n : Nat) (v3 : Int32) (M : gx_Mem), f_X4_spread_l2 v1 v2 n v3 M = some M9 → gx_G κ Γ 2 [(0, .ref (gx_a κ 30)), (1, .int v1), (2, .int v2), (3, .int v3)] [] M := by
    intro n
    induction n with
    | zero => intro v3 M h; exact gx_loop_0 h
    | succ n ih => intro v3 M h; exact K2 (fun v3 M => f_X4_spread_l2 v1 v2 n v3 M) ih v3 M h
  have h := hf
  refine gx_iconst (v := (0 : Int32)) Cx eX4_spread_0 (by decide) ?_
  refine gx_istore_n Cx eX4_spread_1 [(3, .int (0 : Int32)), (0, .ref (gx_a κ 30)), (1, .int v1), (2, .int v2)] rfl (by decide) ?_
  refine gx_sub [1, 2, 3, 0] rfl ?_
  exact L2 _ _ _ h
set_option maxHeartbeats 4000000 in
set_option maxRecDepth 100000 in
theorem c_X4_driest (κ : gx_K) {v1 : Int32} {M : gx_Mem} {r9 : Int32} {M9 : gx_Mem} (hf : f_X4_driest v1 M = some (r9, M9)) : gx_CI κ yX4_driest cX4_driest 7 (some .int) 6 [.ref (gx_a κ 30), .int v1] M r9 M9 := by
  refine gx_enterI (d := 6) my_X4_driest.1 (by decide) (Nat.le_of_ble_eq_true rfl) (fun Γ Cx hR => ?_)
  change gx_G κ Γ 0 [(0, .ref (gx_a κ 30)), (1, .int v1)] [] M
  have K34 : ∀ (v2 : Int32) (ag34 : Int32 → Int32 → Int32 → gx_Mem → Option (Int32 × gx_Mem)) (hag34 : ∀ (v3 : Int32) (v4 : Int32) (v5 : Int32) (M : gx_Mem), ag34 v3 v4 v5 M = some (r9, M9) → gx_G κ Γ 34 [(0, .ref (gx_a κ 30)), (1, .int v1), (2, .int v2), (3, .int v3), (4, .int v4), (5, .int v5)] [] M) (v3 : Int32) (v4 : Int32) (v5 : Int32) (M : gx_Mem), f_X4_driest_k34 v1 v2 ag34 v3 v4 v5 M = some (r9, M9) → gx_G κ Γ 34 [(0, .ref (gx_a κ 30)), (1, .int v1), (2, .int v2), (3, .int v3), (4, .int v4), (5, .int v5)] [] M := by
    intro v2 ag34 hag34
    have B85 : ∀ (v3 : Int32) (v4 : Int32) (v5 : Int32) (M : gx_Mem), f_X4_driest_b85 ag34 v1 v2 v3 v4 v5 M = some (r9, M9) → gx_G κ Γ 85 [(0, .ref (gx_a κ 30)), (1, .int v1), (2, .int v2), (3, .int v3), (4, .int v4), (5, .int v5)] [] M := by
      intro v3 v4 v5 M h
      refine gx_iinc (v := (1 : Int32)) (i := 5) (j := 5) Cx eX4_driest_85 (by decide) h 5 rfl (fun w => [(5, .int w), (0, .ref (gx_a κ 30)), (1, .int v1), (2, .int v2), (3, .int v3), (4, .int v4)]) (fun _ => rfl) (by decide) (fun x11 h => ?_)
      refine gx_goto (tgt := 34) Cx eX4_driest_88 (by decide) ?_
      refine gx_sub [1, 2, 3, 4, 5, 0] rfl ?_
      exact hag34 _ _ _ _ h
    intro v3 v4 v5 M h
    refine gx_iload Cx eX4_driest_34 5 rfl ?_
    refine gx_sipush (v := (256 : Int32)) Cx eX4_driest_36 (by decide) ?_
    refine gx_icmp_ge (tgt := 91) Cx eX4_driest_39 (by decide) h (fun h => ?_) (fun h => ?_)
    · refine gx_iload_n Cx eX4_driest_91 3 rfl ?_
      exact gx_rI h rfl eX4_driest_92 hR
    · refine gx_iload Cx eX4_driest_42 5 rfl ?_
      obtain ⟨y5, h4, h⟩ := gx_bP_of h
      refine gx_callSI Cx my_J6_bitCount_0f7a4 wlX4_81 (by decide) rfl eX4_driest_44 (c_J6_bitCount_0f7a4 κ h4) rfl (Nat.le_of_ble_eq_true rfl) ?_
      refine gx_istore Cx eX4_driest_47 [(6, .int y5), (0, .ref (gx_a κ 30)), (1, .int v1), (2, .int v2), (3, .int v3), (4, .int v4), (5, .int v5)] rfl (by decide) ?_
      refine gx_iload Cx eX4_driest_49 0 rfl ?_
      refine gx_iload Cx eX4_driest_51 5 rfl ?_
      refine gx_icmp_ge (tgt := 85) Cx eX4_driest_53 (by decide) h (fun h => ?_) (fun h => ?_)
      · refine gx_sub [1, 2, 3, 4, 5, 6] rfl ?_
        exact B85 _ _ _ _ h
      · refine gx_aload_n Cx eX4_driest_56 1 rfl ?_
        refine gx_iload_n Cx eX4_driest_57 3 rfl ?_
        refine gx_iload Cx eX4_driest_58 6 rfl ?_
        obtain ⟨M7, h6, h⟩ := gx_bP_of h
        refine gx_callVV (ci := 4) Cx my_X4_spread wlX4_86 rfl gx_y30 (by decide) rfl eX4_driest_60 (c_X4_spread κ h6) rfl (Nat.le_of_ble_eq_true rfl) ?_
        refine gx_aload_n Cx eX4_driest_63 1 rfl ?_
        refine gfX4_29 Cx eX4_driest_64 ?_
        refine gx_iload_n Cx eX4_driest_67 2 rfl ?_
        refine gx_iconst (v := (0 : Int32)) Cx eX4_driest_68 (by decide) ?_
        refine gx_iconst (v := (3 : Int32)) Cx eX4_driest_69 (by decide) ?_
        refine gx_bipush (v := (63 : Int32)) Cx eX4_driest_70 (by decide) ?_
        obtain ⟨y9, M10, h8, h⟩ := gx_bI_of h
        refine gx_callSI Cx my_X4_wetter wlX4_70 (by decide) rfl eX4_driest_72 (c_X4_wetter κ gx_Ho23 h8) rfl (Nat.le_of_ble_eq_true rfl) ?_
        refine gx_if_ne (tgt := 85) Cx eX4_driest_75 (by decide) h (fun h => ?_) (fun h => ?_)
        · refine gx_sub [1, 2, 3, 4, 5, 6] rfl ?_
          exact B85 _ _ _ _ h
        · refine gx_iload Cx eX4_driest_78 0 rfl ?_
          refine gx_istore Cx eX4_driest_80 [(4, .int y5), (6, .int y5), (0, .ref (gx_a κ 30)), (1, .int v1), (2, .int v2), (3, .int v3), (5, .int v5)] rfl (by decide) ?_
          refine gx_iload Cx eX4_driest_82 6 rfl ?_
          refine gx_istore_n Cx eX4_driest_84 [(3, .int v5), (4, .int y5), (6, .int y5), (0, .ref (gx_a κ 30)), (1, .int v1), (2, .int v2), (5, .int v5)] rfl (by decide) ?_
          refine gx_sub [3, 4, 5, 0, 1, 6] rfl ?_
          exact B85 _ _ _ _ h
  have L34 : ∀ (v2 : Int32) (n : Nat) (v3 : Int32) (v4 : Int32) (v5 : Int32) (M : gx_Mem), f_X4_driest_l34 v1 v2 n v3 v4 v5 M = some (r9, M9) → gx_G κ Γ 34 [(0, .ref (gx_a κ 30)), (1, .int v1), (2, .int v2), (3, .int v3), (4, .int v4), (5, .int v5)] [] M := by
    intro v2 n
    induction n with
    | zero => intro v3 v4 v5 M h; exact gx_loop_0 h
    | succ n ih => intro v3 v4 v5 M h; exact K34 v2 (fun v3 v4 v5 M => f_X4_driest_l34 v1 v2 n v3 v4 v5 M) ih v3 v4 v5 M h
  have h := hf
  refine gx_aload_n Cx eX4_driest_0 0 rfl ?_
  refine gfX4_25 Cx eX4_driest_1 ?_
  refine gfX4_74 Cx gx_y9 eX4_driest_4 ?_
  refine gx_iload_n Cx eX4_driest_7 1 rfl ?_
  refine gx_iald Cx gx_y10 eX4_driest_8 h (fun h => ?_)
  refine gx_bipush (v := (8 : Int32)) Cx eX4_driest_9 (by decide) ?_
  refine gx_idivC Cx eX4_driest_11 (by decide) ?_
  refine gx_nmI h (fun x1 h => ?_)
  refine gx_istore_n Cx eX4_driest_12 [(2, .int x1), (0, .ref (gx_a κ 30)), (1, .int v1)] rfl (by decide) ?_
  refine gx_bipush (v := (-2 : Int32)) Cx eX4_driest_13 (by decide) ?_
  refine gx_istore_n Cx eX4_driest_15 [(3, .int (-2 : Int32)), (2, .int x1), (0, .ref (gx_a κ 30)), (1, .int v1)] rfl (by decide) ?_
  refine gx_bipush (v := (9 : Int32)) Cx eX4_driest_16 (by decide) ?_
  refine gx_istore Cx eX4_driest_18 [(4, .int (9 : Int32)), (3, .int (-2 : Int32)), (2, .int x1), (0, .ref (gx_a κ 30)), (1, .int v1)] rfl (by decide) ?_
  refine gx_aload_n Cx eX4_driest_20 3 rfl ?_
  refine gfX4_29 Cx eX4_driest_21 ?_
  refine gx_aload_n Cx eX4_driest_24 3 rfl ?_
  refine gfX4_25 Cx eX4_driest_25 ?_
  obtain ⟨M3, h2, h⟩ := gx_bP_of h
  refine gx_callVV (ci := 2) Cx my_X2_liken wlX4_77 rfl gx_y23 (by decide) rfl eX4_driest_28 (c_X2_liken κ gx_Ho23 gx_Ho9 h2) rfl (Nat.le_of_ble_eq_true rfl) ?_
  refine gx_iconst (v := (0 : Int32)) Cx eX4_driest_31 (by decide) ?_
  refine gx_istore Cx eX4_driest_32 [(5, .int (0 : Int32)), (4, .int (9 : Int32)), (3, .int (-2 : Int32)), (2, .int x1), (0, .ref (gx_a κ 30)), (1, .int v1)] rfl (by decide) ?_
  refine gx_sub [4, 5, 3, 2, 1, 0] rfl ?_
  exact L34 _ _ _ _ _ _ h
set_option maxHeartbeats 4000000 in
set_option maxRecDepth 100000 in
theorem c_X4_firstWetter (κ : gx_K) {v1 : Int32} {M : gx_Mem} {r9 : Int32} {M9 : gx_Mem} (hf : f_X4_firstWetter v1 M = some (r9, M9)) : gx_CI κ yX4_firstWetter cX4_firstWetter 4 (some .int) 5 [.ref (gx_a κ 30), .int v1] M r9 M9 := by
  refine gx_enterI (d := 5) my_X4_firstWetter.1 (by decide) (Nat.le_of_ble_eq_true rfl) (fun Γ Cx hR => ?_)
  change gx_G κ Γ 0 [(0, .ref (gx_a κ 30)), (1, .int v1)] [] M
  have K2 : ∀  (ag2 : Int32 → gx_Mem → Option (Int32 × gx_Mem)) (hag2 : ∀ (v2 : Int32) (M : gx_Mem), ag2 v2 M = some (r9, M9) → gx_G κ Γ 2 [(0, .ref (gx_a κ 30)), (1, .int v1), (2, .int v2)] [] M) (v2 : Int32) (M : gx_Mem), f_X4_firstWetter_k2 v1 ag2 v2 M = some (r9, M9) → gx_G κ Γ 2 [(0, .ref (gx_a κ 30)), (1, .int v1), (2, .int v2)] [] M := by
    intro ag2 hag2
    have K10 : ∀ (v2 : Int32) (ag10 : Int32 → gx_Mem → Option (Int32 × gx_Mem)) (hag10 : ∀ (v3 : Int32) (M : gx_Mem), ag10 v3 M = some (r9, M9) → gx_G κ Γ 10 [(0, .ref (gx_a κ 30)), (1, .int v1), (2, .int v2), (3, .int v3)] [] M) (v3 : Int32) (M : gx_Mem), f_X4_firstWetter_k10 ag2 v1 v2 ag10 v3 M = some (r9, M9) → gx_G κ Γ 10 [(0, .ref (gx_a κ 30)), (1, .int v1), (2, .int v2), (3, .int v3)] [] M := by
      intro v2 ag10 hag10
      have B48 : ∀ (v3 : Int32) (M : gx_Mem), f_X4_firstWetter_b48 ag2 ag10 v1 v2 v3 M = some (r9, M9) → gx_G κ Γ 48 [(0, .ref (gx_a κ 30)), (1, .int v1), (2, .int v2), (3, .int v3)] [] M := by
        intro v3 M h
        refine gx_iinc (v := (1 : Int32)) (i := 3) (j := 3) Cx eX4_firstWetter_48 (by decide) h 3 rfl (fun w => [(3, .int w), (0, .ref (gx_a κ 30)), (1, .int v1), (2, .int v2)]) (fun _ => rfl) (by decide) (fun x9 h => ?_)
        refine gx_goto (tgt := 10) Cx eX4_firstWetter_51 (by decide) ?_
        refine gx_sub [1, 2, 3, 0] rfl ?_
        exact hag10 _ _ h
      intro v3 M h
      refine gx_iload_n Cx eX4_firstWetter_10 3 rfl ?_
      refine gx_iconst (v := (4 : Int32)) Cx eX4_firstWetter_11 (by decide) ?_
      refine gx_icmp_ge (tgt := 54) Cx eX4_firstWetter_12 (by decide) h (fun h => ?_) (fun h => ?_)
      · refine gx_iinc (v := (1 : Int32)) (i := 2) (j := 2) Cx eX4_firstWetter_54 (by decide) h 2 rfl (fun w => [(2, .int w), (0, .ref (gx_a κ 30)), (1, .int v1), (3, .int v3)]) (fun _ => rfl) (by decide) (fun x1 h => ?_)
        refine gx_goto (tgt := 2) Cx eX4_firstWetter_57 (by decide) ?_
        refine gx_sub [1, 2, 0] rfl ?_
        exact hag2 _ _ h
      · refine gx_aload_n Cx eX4_firstWetter_15 0 rfl ?_
        refine gfX4_25 Cx eX4_firstWetter_16 ?_
        refine gx_iload_n Cx eX4_firstWetter_19 1 rfl ?_
        refine gx_iload_n Cx eX4_firstWetter_20 3 rfl ?_
        obtain ⟨y3, h2, h⟩ := gx_bP_of h
        refine gx_callVI (ci := 2) Cx my_X2_room wlX4_52 rfl gx_y9 (by decide) rfl eX4_firstWetter_21 (c_X2_room κ gx_Ho9 h2) rfl (Nat.le_of_ble_eq_true rfl) ?_
        refine gx_if_le (tgt := 48) Cx eX4_firstWetter_24 (by decide) h (fun h => ?_) (fun h => ?_)
        · exact B48 _ _ h
        · refine gx_aload_n Cx eX4_firstWetter_27 0 rfl ?_
          refine gfX4_25 Cx eX4_firstWetter_28 ?_
          refine gx_iload_n Cx eX4_firstWetter_31 1 rfl ?_
          refine gx_iload_n Cx eX4_firstWetter_32 3 rfl ?_
          refine gx_aload_n Cx eX4_firstWetter_33 0 rfl ?_
          refine gx_iload_n Cx eX4_firstWetter_34 2 rfl ?_
          refine gx_iconst (v := (1 : Int32)) Cx eX4_firstWetter_35 (by decide) ?_
          refine gx_isub Cx eX4_firstWetter_36 ?_
          obtain ⟨y5, h4, h⟩ := gx_bP_of h
          refine gx_callVI (ci := 4) Cx my_X4_outIn wlX4_42 rfl gx_y30 (by decide) rfl eX4_firstWetter_37 (c_X4_outIn κ h4) rfl (Nat.le_of_ble_eq_true rfl) ?_
          obtain ⟨y7, M8, h6, h⟩ := gx_bI_of h
          refine gx_callVI (ci := 2) Cx my_X2_drips wlX4_45 rfl gx_y9 (by decide) rfl eX4_firstWetter_40 (c_X2_drips κ gx_Ho9 h6) rfl (Nat.le_of_ble_eq_true rfl) ?_
          refine gx_if_le (tgt := 48) Cx eX4_firstWetter_43 (by decide) h (fun h => ?_) (fun h => ?_)
          · exact B48 _ _ h
          · refine gx_iload_n Cx eX4_firstWetter_46 2 rfl ?_
            exact gx_rI h rfl eX4_firstWetter_47 hR
    have L10 : ∀ (v2 : Int32) (n : Nat) (v3 : Int32) (M : gx_Mem), f_X4_firstWetter_l10 ag2 v1 v2 n v3 M = some (r9, M9) → gx_G κ Γ 10 [(0, .ref (gx_a κ 30)), (1, .int v1), (2, .int v2), (3, .int v3)] [] M := by
      intro v2 n
      induction n with
      | zero => intro v3 M h; exact gx_loop_0 h
      | succ n ih => intro v3 M h; exact K10 v2 (fun v3 M => f_X4_firstWetter_l10 ag2 v1 v2 n v3 M) ih v3 M h
    intro v2 M h
    refine gx_iload_n Cx eX4_firstWetter_2 2 rfl ?_
    refine gx_bipush (v := (48 : Int32)) Cx eX4_firstWetter_3 (by decide) ?_
    refine gx_icmp_gt (tgt := 60) Cx eX4_firstWetter_5 (by decide) h (fun h => ?_) (fun h => ?_)
    · refine gx_bipush (v := (-2 : Int32)) Cx eX4_firstWetter_60 (by decide) ?_
      exact gx_rI h rfl eX4_firstWetter_62 hR
    · refine gx_iconst (v := (0 : Int32)) Cx eX4_firstWetter_8 (by decide) ?_
      refine gx_istore_n Cx eX4_firstWetter_9 [(3, .int (0 : Int32)), (0, .ref (gx_a κ 30)), (1, .int v1), (2, .int v2)] rfl (by decide) ?_
      refine gx_sub [1, 2, 3, 0] rfl ?_
      exact L10 _ _ _ _ h
  have L2 : ∀  (n : Nat) (v2 : Int32) (M : gx_Mem), f_X4_firstWetter_l2 v1 n v2 M = some (r9, M9) → gx_G κ Γ 2 [(0, .ref (gx_a κ 30)), (1, .int v1), (2, .int v2)] [] M := by
    intro n
    induction n with
    | zero => intro v2 M h; exact gx_loop_0 h
    | succ n ih => intro v2 M h; exact K2 (fun v2 M => f_X4_firstWetter_l2 v1 n v2 M) ih v2 M h
  have h := hf
  refine gx_iconst (v := (1 : Int32)) Cx eX4_firstWetter_0 (by decide) ?_
  refine gx_istore_n Cx eX4_firstWetter_1 [(2, .int (1 : Int32)), (0, .ref (gx_a κ 30)), (1, .int v1)] rfl (by decide) ?_
  refine gx_sub [1, 2, 0] rfl ?_
  exact L2 _ _ _ h
set_option maxHeartbeats 4000000 in
set_option maxRecDepth 100000 in
theorem c_X4_pairs (κ : gx_K) {v1 : Int32} {v2 : Int32} {M : gx_Mem} {r9 : Int32} {M9 : gx_Mem} (hf : f_X4_pairs v1 v2 M = some (r9, M9)) : gx_CI κ yX4_pairs cX4_pairs 5 (some .int) 6 [.ref (gx_a κ 30), .int v1, .int v2] M r9 M9 := by
  refine gx_enterI (d := 6) my_X4_pairs.1 (by decide) (Nat.le_of_ble_eq_true rfl) (fun Γ Cx hR => ?_)
  change gx_G κ Γ 0 [(0, .ref (gx_a κ 30)), (1, .int v1), (2, .int v2)] [] M
  have K5 : ∀  (ag5 : Int32 → Int32 → gx_Mem → Option (Int32 × gx_Mem)) (hag5 : ∀ (v3 : Int32) (v4 : Int32) (M : gx_Mem), ag5 v3 v4 M = some (r9, M9) → gx_G κ Γ 5 [(0, .ref (gx_a κ 30)), (1, .int v1), (2, .int v2), (3, .int v3), (4, .int v4)] [] M) (v3 : Int32) (v4 : Int32) (M : gx_Mem), f_X4_pairs_k5 v1 v2 ag5 v3 v4 M = some (r9, M9) → gx_G κ Γ 5 [(0, .ref (gx_a κ 30)), (1, .int v1), (2, .int v2), (3, .int v3), (4, .int v4)] [] M := by
    intro ag5 hag5
    have B60 : ∀ (v3 : Int32) (v4 : Int32) (M : gx_Mem), f_X4_pairs_b60 ag5 v1 v2 v3 v4 M = some (r9, M9) → gx_G κ Γ 60 [(0, .ref (gx_a κ 30)), (1, .int v1), (2, .int v2), (3, .int v3), (4, .int v4)] [] M := by
      intro v3 v4 M h
      refine gx_iinc (v := (1 : Int32)) (i := 4) (j := 4) Cx eX4_pairs_60 (by decide) h 4 rfl (fun w => [(4, .int w), (0, .ref (gx_a κ 30)), (1, .int v1), (2, .int v2), (3, .int v3)]) (fun _ => rfl) (by decide) (fun x5 h => ?_)
      refine gx_goto (tgt := 5) Cx eX4_pairs_63 (by decide) ?_
      refine gx_sub [1, 2, 3, 4, 0] rfl ?_
      exact hag5 _ _ _ h
    have B37 : ∀ (v3 : Int32) (v4 : Int32) (s1 : Int32) (M : gx_Mem), f_X4_pairs_b37 ag5 v1 v2 v3 v4 s1 M = some (r9, M9) → gx_G κ Γ 37 [(0, .ref (gx_a κ 30)), (1, .int v1), (2, .int v2), (3, .int v3), (4, .int v4)] [.int s1, .ref (gx_a κ 9)] M := by
      intro v3 v4 s1 M h
      refine gx_iconst (v := (0 : Int32)) Cx eX4_pairs_37 (by decide) ?_
      refine gx_iconst (v := (3 : Int32)) Cx eX4_pairs_38 (by decide) ?_
      refine gx_iconst (v := (1 : Int32)) Cx eX4_pairs_39 (by decide) ?_
      refine gx_iload_n Cx eX4_pairs_40 1 rfl ?_
      refine gx_ishl Cx eX4_pairs_41 ?_
      refine gx_iconst (v := (1 : Int32)) Cx eX4_pairs_42 (by decide) ?_
      refine gx_iload Cx eX4_pairs_43 4 rfl ?_
      refine gx_ishl Cx eX4_pairs_45 ?_
      refine gx_ior Cx eX4_pairs_46 ?_
      obtain ⟨y2, M3, h1, h⟩ := gx_bI_of h
      refine gx_callSI Cx my_X4_wetter wlX4_70 (by decide) rfl eX4_pairs_47 (c_X4_wetter κ gx_Ho9 h1) rfl (Nat.le_of_ble_eq_true rfl) ?_
      refine gx_if_le (tgt := 60) Cx eX4_pairs_50 (by decide) h (fun h => ?_) (fun h => ?_)
      · exact B60 _ _ _ h
      · refine gx_iload_n Cx eX4_pairs_53 3 rfl ?_
        refine gx_iconst (v := (1 : Int32)) Cx eX4_pairs_54 (by decide) ?_
        refine gx_iload Cx eX4_pairs_55 4 rfl ?_
        refine gx_ishl Cx eX4_pairs_57 ?_
        refine gx_ior Cx eX4_pairs_58 ?_
        refine gx_nmI h (fun x4 h => ?_)
        refine gx_istore_n Cx eX4_pairs_59 [(3, .int x4), (0, .ref (gx_a κ 30)), (1, .int v1), (2, .int v2), (4, .int v4)] rfl (by decide) ?_
        refine gx_sub [1, 2, 3, 0, 4] rfl ?_
        exact B60 _ _ _ h
    intro v3 v4 M h
    refine gx_iload Cx eX4_pairs_5 4 rfl ?_
    refine gx_aload_n Cx eX4_pairs_7 0 rfl ?_
    refine gfX4_25 Cx eX4_pairs_8 ?_
    refine gfX4_67 Cx gx_y9 eX4_pairs_11 ?_
    refine gx_icmp_ge (tgt := 66) Cx eX4_pairs_14 (by decide) h (fun h => ?_) (fun h => ?_)
    · refine gx_iload_n Cx eX4_pairs_66 3 rfl ?_
      exact gx_rI h rfl eX4_pairs_67 hR
    · refine gx_iload Cx eX4_pairs_17 4 rfl ?_
      refine gx_iload_n Cx eX4_pairs_19 1 rfl ?_
      refine gx_icmp_eq (tgt := 60) Cx eX4_pairs_20 (by decide) h (fun h => ?_) (fun h => ?_)
      · exact B60 _ _ _ h
      · refine gx_aload_n Cx eX4_pairs_23 0 rfl ?_
        refine gfX4_25 Cx eX4_pairs_24 ?_
        refine gx_iload_n Cx eX4_pairs_27 2 rfl ?_
        refine gx_if_eq (tgt := 36) Cx eX4_pairs_28 (by decide) h (fun h => ?_) (fun h => ?_)
        · refine gx_iload_n Cx eX4_pairs_36 1 rfl ?_
          exact B37 _ _ _ _ h
        · refine gx_iload Cx eX4_pairs_31 4 rfl ?_
          refine gx_goto (tgt := 37) Cx eX4_pairs_33 (by decide) ?_
          exact B37 _ _ _ _ h
  have L5 : ∀  (n : Nat) (v3 : Int32) (v4 : Int32) (M : gx_Mem), f_X4_pairs_l5 v1 v2 n v3 v4 M = some (r9, M9) → gx_G κ Γ 5 [(0, .ref (gx_a κ 30)), (1, .int v1), (2, .int v2), (3, .int v3), (4, .int v4)] [] M := by
    intro n
    induction n with
    | zero => intro v3 v4 M h; exact gx_loop_0 h
    | succ n ih => intro v3 v4 M h; exact K5 (fun v3 v4 M => f_X4_pairs_l5 v1 v2 n v3 v4 M) ih v3 v4 M h
  have h := hf
  refine gx_iconst (v := (0 : Int32)) Cx eX4_pairs_0 (by decide) ?_
  refine gx_istore_n Cx eX4_pairs_1 [(3, .int (0 : Int32)), (0, .ref (gx_a κ 30)), (1, .int v1), (2, .int v2)] rfl (by decide) ?_
  refine gx_iconst (v := (0 : Int32)) Cx eX4_pairs_2 (by decide) ?_
  refine gx_istore Cx eX4_pairs_3 [(4, .int (0 : Int32)), (3, .int (0 : Int32)), (0, .ref (gx_a κ 30)), (1, .int v1), (2, .int v2)] rfl (by decide) ?_
  refine gx_sub [2, 3, 4, 1, 0] rfl ?_
  exact L5 _ _ _ _ h
set_option maxHeartbeats 4000000 in
set_option maxRecDepth 100000 in
theorem c_X4_overSets (κ : gx_K) {v1 : Int32} {v2 : Int32} {v3 : Int32} {M : gx_Mem} {r9 : Int32} {M9 : gx_Mem} (hf : f_X4_overSets v1 v2 v3 M = some (r9, M9)) : gx_CI κ yX4_overSets cX4_overSets 8 (some .int) 4 [.ref (gx_a κ 30), .int v1, .int v2, .int v3] M r9 M9 := by
  refine gx_enterI (d := 4) my_X4_overSets.1 (by decide) (Nat.le_of_ble_eq_true rfl) (fun Γ Cx hR => ?_)
  change gx_G κ Γ 0 [(0, .ref (gx_a κ 30)), (1, .int v1), (2, .int v2), (3, .int v3)] [] M
  have K17 : ∀ (v4 : Int32) (ag17 : Int32 → Int32 → gx_Mem → Option (Int32 × gx_Mem)) (hag17 : ∀ (v5 : Int32) (v6 : Int32) (M : gx_Mem), ag17 v5 v6 M = some (r9, M9) → gx_G κ Γ 17 [(0, .ref (gx_a κ 30)), (1, .int v1), (2, .int v2), (3, .int v3), (4, .int v4), (5, .int v5), (6, .int v6)] [] M) (v5 : Int32) (v6 : Int32) (M : gx_Mem), f_X4_overSets_k17 v1 v2 v3 v4 ag17 v5 v6 M = some (r9, M9) → gx_G κ Γ 17 [(0, .ref (gx_a κ 30)), (1, .int v1), (2, .int v2), (3, .int v3), (4, .int v4), (5, .int v5), (6, .int v6)] [] M := by
    intro v4 ag17 hag17
    have B82 : ∀ (v5 : Int32) (v6 : Int32) (M : gx_Mem), f_X4_overSets_b82 ag17 v1 v2 v3 v4 v5 v6 M = some (r9, M9) → gx_G κ Γ 82 [(0, .ref (gx_a κ 30)), (1, .int v1), (2, .int v2), (3, .int v3), (4, .int v4), (5, .int v5), (6, .int v6)] [] M := by
      intro v5 v6 M h
      refine gx_iinc (v := (1 : Int32)) (i := 6) (j := 6) Cx eX4_overSets_82 (by decide) h 6 rfl (fun w => [(6, .int w), (0, .ref (gx_a κ 30)), (1, .int v1), (2, .int v2), (3, .int v3), (4, .int v4), (5, .int v5)]) (fun _ => rfl) (by decide) (fun x6 h => ?_)
      refine gx_goto (tgt := 17) Cx eX4_overSets_85 (by decide) ?_
      refine gx_sub [1, 2, 3, 4, 5, 6, 0] rfl ?_
      exact hag17 _ _ _ h
    have B79 : ∀ (v6 : Int32) (s0 : Int32) (s1 : Int32) (M : gx_Mem), f_X4_overSets_b79 ag17 v1 v2 v3 v4 v6 s0 s1 M = some (r9, M9) → gx_G κ Γ 79 [(0, .ref (gx_a κ 30)), (1, .int v1), (2, .int v2), (3, .int v3), (4, .int v4), (6, .int v6)] [.int s1, .int s0] M := by
      intro v6 s0 s1 M h
      refine gx_iadd Cx eX4_overSets_79 ?_
      refine gx_nmI h (fun x5 h => ?_)
      refine gx_istore Cx eX4_overSets_80 [(5, .int x5), (0, .ref (gx_a κ 30)), (1, .int v1), (2, .int v2), (3, .int v3), (4, .int v4), (6, .int v6)] rfl (by decide) ?_
      refine gx_sub [1, 2, 3, 4, 5, 0, 6] rfl ?_
      exact B82 _ _ _ h
    intro v5 v6 M h
    refine gx_iload Cx eX4_overSets_17 6 rfl ?_
    refine gx_iconst (v := (1 : Int32)) Cx eX4_overSets_19 (by decide) ?_
    refine gx_aload_n Cx eX4_overSets_20 0 rfl ?_
    refine gfX4_25 Cx eX4_overSets_21 ?_
    refine gfX4_67 Cx gx_y9 eX4_overSets_24 ?_
    refine gx_ishl Cx eX4_overSets_27 ?_
    refine gx_icmp_ge (tgt := 88) Cx eX4_overSets_28 (by decide) h (fun h => ?_) (fun h => ?_)
    · refine gx_iload Cx eX4_overSets_88 5 rfl ?_
      exact gx_rI h rfl eX4_overSets_90 hR
    · refine gx_iload Cx eX4_overSets_31 6 rfl ?_
      refine gx_iload_n Cx eX4_overSets_33 1 rfl ?_
      refine gx_ishr Cx eX4_overSets_34 ?_
      refine gx_iconst (v := (1 : Int32)) Cx eX4_overSets_35 (by decide) ?_
      refine gx_iand Cx eX4_overSets_36 ?_
      refine gx_if_eq (tgt := 82) Cx eX4_overSets_37 (by decide) h (fun h => ?_) (fun h => ?_)
      · exact B82 _ _ _ h
      · refine gx_aload_n Cx eX4_overSets_40 0 rfl ?_
        refine gfX4_25 Cx eX4_overSets_41 ?_
        refine gx_iload Cx eX4_overSets_44 4 rfl ?_
        refine gx_bipush (v := (8 : Int32)) Cx eX4_overSets_46 (by decide) ?_
        refine gx_idivC Cx eX4_overSets_48 (by decide) ?_
        refine gx_iload Cx eX4_overSets_49 4 rfl ?_
        refine gx_bipush (v := (8 : Int32)) Cx eX4_overSets_51 (by decide) ?_
        refine gx_iremC Cx eX4_overSets_53 (by decide) ?_
        refine gx_iload_n Cx eX4_overSets_54 2 rfl ?_
        refine gx_iload Cx eX4_overSets_55 6 rfl ?_
        obtain ⟨y3, M4, h2, h⟩ := gx_bI_of h
        refine gx_callVI (ci := 2) Cx my_X2_reaches wlX4_119 rfl gx_y9 (by decide) rfl eX4_overSets_57 (c_X2_reaches κ gx_Ho9 h2) rfl (Nat.le_of_ble_eq_true rfl) ?_
        refine gx_istore Cx eX4_overSets_60 [(7, .int y3), (0, .ref (gx_a κ 30)), (1, .int v1), (2, .int v2), (3, .int v3), (4, .int v4), (5, .int v5), (6, .int v6)] rfl (by decide) ?_
        refine gx_iload Cx eX4_overSets_62 6 rfl ?_
        refine gx_iload_n Cx eX4_overSets_64 4 rfl ?_
        refine gx_if_eq (tgt := 73) Cx eX4_overSets_65 (by decide) h (fun h => ?_) (fun h => ?_)
        · refine gx_iconst (v := (1 : Int32)) Cx eX4_overSets_73 (by decide) ?_
          refine gx_iload Cx eX4_overSets_74 0 rfl ?_
          refine gx_mmin Cx wlX4_56 (Nat.le_of_ble_eq_true rfl) (Nat.le_of_ble_eq_true rfl) eX4_overSets_76 ?_
          refine gx_sub [1, 2, 3, 4, 5, 7] rfl ?_
          exact B79 _ _ _ _ h
        · refine gx_iload Cx eX4_overSets_68 0 rfl ?_
          refine gx_goto (tgt := 79) Cx eX4_overSets_70 (by decide) ?_
          refine gx_sub [1, 2, 3, 4, 5, 7] rfl ?_
          exact B79 _ _ _ _ h
  have L17 : ∀ (v4 : Int32) (n : Nat) (v5 : Int32) (v6 : Int32) (M : gx_Mem), f_X4_overSets_l17 v1 v2 v3 v4 n v5 v6 M = some (r9, M9) → gx_G κ Γ 17 [(0, .ref (gx_a κ 30)), (1, .int v1), (2, .int v2), (3, .int v3), (4, .int v4), (5, .int v5), (6, .int v6)] [] M := by
    intro v4 n
    induction n with
    | zero => intro v5 v6 M h; exact gx_loop_0 h
    | succ n ih => intro v5 v6 M h; exact K17 v4 (fun v5 v6 M => f_X4_overSets_l17 v1 v2 v3 v4 n v5 v6 M) ih v5 v6 M h
  have h := hf
  refine gx_aload_n Cx eX4_overSets_0 0 rfl ?_
  refine gfX4_25 Cx eX4_overSets_1 ?_
  refine gfX4_74 Cx gx_y9 eX4_overSets_4 ?_
  refine gx_iload_n Cx eX4_overSets_7 1 rfl ?_
  refine gx_iald Cx gx_y10 eX4_overSets_8 h (fun h => ?_)
  refine gx_nmI h (fun x1 h => ?_)
  refine gx_istore Cx eX4_overSets_9 [(4, .int x1), (0, .ref (gx_a κ 30)), (1, .int v1), (2, .int v2), (3, .int v3)] rfl (by decide) ?_
  refine gx_iconst (v := (0 : Int32)) Cx eX4_overSets_11 (by decide) ?_
  refine gx_istore Cx eX4_overSets_12 [(5, .int (0 : Int32)), (4, .int x1), (0, .ref (gx_a κ 30)), (1, .int v1), (2, .int v2), (3, .int v3)] rfl (by decide) ?_
  refine gx_iconst (v := (0 : Int32)) Cx eX4_overSets_14 (by decide) ?_
  refine gx_istore Cx eX4_overSets_15 [(6, .int (0 : Int32)), (5, .int (0 : Int32)), (4, .int x1), (0, .ref (gx_a κ 30)), (1, .int v1), (2, .int v2), (3, .int v3)] rfl (by decide) ?_
  refine gx_sub [3, 4, 5, 6, 2, 1, 0] rfl ?_
  exact L17 _ _ _ _ _ h
set_option maxHeartbeats 4000000 in
set_option maxRecDepth 100000 in
theorem c_X4_wetBehind (κ : gx_K) {v1 : Int32} {v2 : Int32} {v3 : Int32} {M : gx_Mem} {r9 : Int32} {M9 : gx_Mem} (hf : f_X4_wetBehind v1 v2 v3 M = some (r9, M9)) : gx_CI κ yX4_wetBehind cX4_wetBehind 6 (some .int) 5 [.ref (gx_a κ 30), .int v1, .int v2, .int v3] M r9 M9 := by
  refine gx_enterI (d := 5) my_X4_wetBehind.1 (by decide) (Nat.le_of_ble_eq_true rfl) (fun Γ Cx hR => ?_)
  change gx_G κ Γ 0 [(0, .ref (gx_a κ 30)), (1, .int v1), (2, .int v2), (3, .int v3)] [] M
  have K6 : ∀  (ag6 : Int32 → Int32 → gx_Mem → Option (Int32 × gx_Mem)) (hag6 : ∀ (v4 : Int32) (v5 : Int32) (M : gx_Mem), ag6 v4 v5 M = some (r9, M9) → gx_G κ Γ 6 [(0, .ref (gx_a κ 30)), (1, .int v1), (2, .int v2), (3, .int v3), (4, .int v4), (5, .int v5)] [] M) (v4 : Int32) (v5 : Int32) (M : gx_Mem), f_X4_wetBehind_k6 v1 v2 v3 ag6 v4 v5 M = some (r9, M9) → gx_G κ Γ 6 [(0, .ref (gx_a κ 30)), (1, .int v1), (2, .int v2), (3, .int v3), (4, .int v4), (5, .int v5)] [] M := by
    intro ag6 hag6
    intro v4 v5 M h
    refine gx_iload Cx eX4_wetBehind_6 5 rfl ?_
    refine gx_iload_n Cx eX4_wetBehind_8 1 rfl ?_
    refine gx_icmp_ge (tgt := 38) Cx eX4_wetBehind_9 (by decide) h (fun h => ?_) (fun h => ?_)
    · refine gx_aload_n Cx eX4_wetBehind_38 0 rfl ?_
      refine gfX4_25 Cx eX4_wetBehind_39 ?_
      refine gfX4_49 Cx gx_y9 eX4_wetBehind_42 ?_
      refine gx_iload_n Cx eX4_wetBehind_45 2 rfl ?_
      refine gx_iconst (v := (4 : Int32)) Cx eX4_wetBehind_46 (by decide) ?_
      refine gx_imul Cx eX4_wetBehind_47 ?_
      refine gx_iload_n Cx eX4_wetBehind_48 3 rfl ?_
      refine gx_iadd Cx eX4_wetBehind_49 ?_
      refine gx_iald Cx gx_y13 eX4_wetBehind_50 h (fun h => ?_)
      refine gx_aload_n Cx eX4_wetBehind_51 0 rfl ?_
      refine gfX4_25 Cx eX4_wetBehind_52 ?_
      refine gx_iload_n Cx eX4_wetBehind_55 2 rfl ?_
      refine gx_iload_n Cx eX4_wetBehind_56 3 rfl ?_
      obtain ⟨y2, h1, h⟩ := gx_bP_of h
      refine gx_callVI (ci := 2) Cx my_X2_room wlX4_52 rfl gx_y9 (by decide) rfl eX4_wetBehind_57 (c_X2_room κ gx_Ho9 h1) rfl (Nat.le_of_ble_eq_true rfl) ?_
      refine gx_iload Cx eX4_wetBehind_60 4 rfl ?_
      refine gx_mmin Cx wlX4_56 (Nat.le_of_ble_eq_true rfl) (Nat.le_of_ble_eq_true rfl) eX4_wetBehind_62 ?_
      refine gx_iadd Cx eX4_wetBehind_65 ?_
      exact gx_rI h rfl eX4_wetBehind_66 hR
    · refine gx_iload Cx eX4_wetBehind_12 4 rfl ?_
      refine gx_aload_n Cx eX4_wetBehind_14 0 rfl ?_
      refine gfX4_25 Cx eX4_wetBehind_15 ?_
      refine gx_iload_n Cx eX4_wetBehind_18 2 rfl ?_
      refine gx_iload_n Cx eX4_wetBehind_19 3 rfl ?_
      refine gx_aload_n Cx eX4_wetBehind_20 0 rfl ?_
      refine gx_iload Cx eX4_wetBehind_21 5 rfl ?_
      obtain ⟨y4, h3, h⟩ := gx_bP_of h
      refine gx_callVI (ci := 4) Cx my_X4_outIn wlX4_42 rfl gx_y30 (by decide) rfl eX4_wetBehind_23 (c_X4_outIn κ h3) rfl (Nat.le_of_ble_eq_true rfl) ?_
      obtain ⟨y6, M7, h5, h⟩ := gx_bI_of h
      refine gx_callVI (ci := 2) Cx my_X2_drips wlX4_45 rfl gx_y9 (by decide) rfl eX4_wetBehind_26 (c_X2_drips κ gx_Ho9 h5) rfl (Nat.le_of_ble_eq_true rfl) ?_
      refine gx_iadd Cx eX4_wetBehind_29 ?_
      refine gx_nmI h (fun x8 h => ?_)
      refine gx_istore Cx eX4_wetBehind_30 [(4, .int x8), (0, .ref (gx_a κ 30)), (1, .int v1), (2, .int v2), (3, .int v3), (5, .int v5)] rfl (by decide) ?_
      refine gx_iinc (v := (1 : Int32)) (i := 5) (j := 5) Cx eX4_wetBehind_32 (by decide) h 5 rfl (fun w => [(5, .int w), (4, .int x8), (0, .ref (gx_a κ 30)), (1, .int v1), (2, .int v2), (3, .int v3)]) (fun _ => rfl) (by decide) (fun x9 h => ?_)
      refine gx_goto (tgt := 6) Cx eX4_wetBehind_35 (by decide) ?_
      refine gx_sub [2, 3, 4, 5, 1, 0] rfl ?_
      exact hag6 _ _ _ h
  have L6 : ∀  (n : Nat) (v4 : Int32) (v5 : Int32) (M : gx_Mem), f_X4_wetBehind_l6 v1 v2 v3 n v4 v5 M = some (r9, M9) → gx_G κ Γ 6 [(0, .ref (gx_a κ 30)), (1, .int v1), (2, .int v2), (3, .int v3), (4, .int v4), (5, .int v5)] [] M := by
    intro n
    induction n with
    | zero => intro v4 v5 M h; exact gx_loop_0 h
    | succ n ih => intro v4 v5 M h; exact K6 (fun v4 v5 M => f_X4_wetBehind_l6 v1 v2 v3 n v4 v5 M) ih v4 v5 M h
  have h := hf
  refine gx_iconst (v := (0 : Int32)) Cx eX4_wetBehind_0 (by decide) ?_
  refine gx_istore Cx eX4_wetBehind_1 [(4, .int (0 : Int32)), (0, .ref (gx_a κ 30)), (1, .int v1), (2, .int v2), (3, .int v3)] rfl (by decide) ?_
  refine gx_iconst (v := (0 : Int32)) Cx eX4_wetBehind_3 (by decide) ?_
  refine gx_istore Cx eX4_wetBehind_4 [(5, .int (0 : Int32)), (4, .int (0 : Int32)), (0, .ref (gx_a κ 30)), (1, .int v1), (2, .int v2), (3, .int v3)] rfl (by decide) ?_
  refine gx_sub [2, 3, 4, 5, 1, 0] rfl ?_
  exact L6 _ _ _ _ h
set_option maxHeartbeats 4000000 in
set_option maxRecDepth 100000 in
theorem c_X4_allBehind (κ : gx_K) {v1 : Int32} {v2 : Int32} {M : gx_Mem} {r9 : Int32} {M9 : gx_Mem} (hf : f_X4_allBehind v1 v2 M = some (r9, M9)) : gx_CI κ yX4_allBehind cX4_allBehind 5 (some .int) 6 [.ref (gx_a κ 30), .int v1, .int v2] M r9 M9 := by
  refine gx_enterI (d := 6) my_X4_allBehind.1 (by decide) (Nat.le_of_ble_eq_true rfl) (fun Γ Cx hR => ?_)
  change gx_G κ Γ 0 [(0, .ref (gx_a κ 30)), (1, .int v1), (2, .int v2)] [] M
  have K5 : ∀  (ag5 : Int32 → Int32 → gx_Mem → Option (Int32 × gx_Mem)) (hag5 : ∀ (v3 : Int32) (v4 : Int32) (M : gx_Mem), ag5 v3 v4 M = some (r9, M9) → gx_G κ Γ 5 [(0, .ref (gx_a κ 30)), (1, .int v1), (2, .int v2), (3, .int v3), (4, .int v4)] [] M) (v3 : Int32) (v4 : Int32) (M : gx_Mem), f_X4_allBehind_k5 v1 v2 ag5 v3 v4 M = some (r9, M9) → gx_G κ Γ 5 [(0, .ref (gx_a κ 30)), (1, .int v1), (2, .int v2), (3, .int v3), (4, .int v4)] [] M := by
    intro ag5 hag5
    intro v3 v4 M h
    refine gx_iload Cx eX4_allBehind_5 4 rfl ?_
    refine gx_iconst (v := (4 : Int32)) Cx eX4_allBehind_7 (by decide) ?_
    refine gx_icmp_ge (tgt := 28) Cx eX4_allBehind_8 (by decide) h (fun h => ?_) (fun h => ?_)
    · refine gx_iload_n Cx eX4_allBehind_28 3 rfl ?_
      exact gx_rI h rfl eX4_allBehind_29 hR
    · refine gx_iload_n Cx eX4_allBehind_11 3 rfl ?_
      refine gx_aload_n Cx eX4_allBehind_12 0 rfl ?_
      refine gx_iload_n Cx eX4_allBehind_13 1 rfl ?_
      refine gx_iload_n Cx eX4_allBehind_14 2 rfl ?_
      refine gx_iload Cx eX4_allBehind_15 4 rfl ?_
      obtain ⟨y2, M3, h1, h⟩ := gx_bI_of h
      refine gx_callVI (ci := 4) Cx my_X4_wetBehind wlX4_61 rfl gx_y30 (by decide) rfl eX4_allBehind_17 (c_X4_wetBehind κ h1) rfl (Nat.le_of_ble_eq_true rfl) ?_
      refine gx_iadd Cx eX4_allBehind_20 ?_
      refine gx_nmI h (fun x4 h => ?_)
      refine gx_istore_n Cx eX4_allBehind_21 [(3, .int x4), (0, .ref (gx_a κ 30)), (1, .int v1), (2, .int v2), (4, .int v4)] rfl (by decide) ?_
      refine gx_iinc (v := (1 : Int32)) (i := 4) (j := 4) Cx eX4_allBehind_22 (by decide) h 4 rfl (fun w => [(4, .int w), (3, .int x4), (0, .ref (gx_a κ 30)), (1, .int v1), (2, .int v2)]) (fun _ => rfl) (by decide) (fun x5 h => ?_)
      refine gx_goto (tgt := 5) Cx eX4_allBehind_25 (by decide) ?_
      refine gx_sub [2, 3, 4, 1, 0] rfl ?_
      exact hag5 _ _ _ h
  have L5 : ∀  (n : Nat) (v3 : Int32) (v4 : Int32) (M : gx_Mem), f_X4_allBehind_l5 v1 v2 n v3 v4 M = some (r9, M9) → gx_G κ Γ 5 [(0, .ref (gx_a κ 30)), (1, .int v1), (2, .int v2), (3, .int v3), (4, .int v4)] [] M := by
    intro n
    induction n with
    | zero => intro v3 v4 M h; exact gx_loop_0 h
    | succ n ih => intro v3 v4 M h; exact K5 (fun v3 v4 M => f_X4_allBehind_l5 v1 v2 n v3 v4 M) ih v3 v4 M h
  have h := hf
  refine gx_iconst (v := (0 : Int32)) Cx eX4_allBehind_0 (by decide) ?_
  refine gx_istore_n Cx eX4_allBehind_1 [(3, .int (0 : Int32)), (0, .ref (gx_a κ 30)), (1, .int v1), (2, .int v2)] rfl (by decide) ?_
  refine gx_iconst (v := (0 : Int32)) Cx eX4_allBehind_2 (by decide) ?_
  refine gx_istore Cx eX4_allBehind_3 [(4, .int (0 : Int32)), (3, .int (0 : Int32)), (0, .ref (gx_a κ 30)), (1, .int v1), (2, .int v2)] rfl (by decide) ?_
  refine gx_sub [2, 3, 4, 1, 0] rfl ?_
  exact L5 _ _ _ _ h
set_option maxHeartbeats 4000000 in
set_option maxRecDepth 100000 in
theorem c_X4_mostBehind (κ : gx_K) {v1 : Int32} {v2 : Int32} {M : gx_Mem} {r9 : Int32} {M9 : gx_Mem} (hf : f_X4_mostBehind v1 v2 M = some (r9, M9)) : gx_CI κ yX4_mostBehind cX4_mostBehind 7 (some .int) 6 [.ref (gx_a κ 30), .int v1, .int v2] M r9 M9 := by
  refine gx_enterI (d := 6) my_X4_mostBehind.1 (by decide) (Nat.le_of_ble_eq_true rfl) (fun Γ Cx hR => ?_)
  change gx_G κ Γ 0 [(0, .ref (gx_a κ 30)), (1, .int v1), (2, .int v2)] [] M
  have K9 : ∀  (ag9 : Int32 → Int32 → Int32 → gx_Mem → Option (Int32 × gx_Mem)) (hag9 : ∀ (v3 : Int32) (v4 : Int32) (v5 : Int32) (M : gx_Mem), ag9 v3 v4 v5 M = some (r9, M9) → gx_G κ Γ 9 [(0, .ref (gx_a κ 30)), (1, .int v1), (2, .int v2), (3, .int v3), (4, .int v4), (5, .int v5)] [] M) (v3 : Int32) (v4 : Int32) (v5 : Int32) (M : gx_Mem), f_X4_mostBehind_k9 v1 v2 ag9 v3 v4 v5 M = some (r9, M9) → gx_G κ Γ 9 [(0, .ref (gx_a κ 30)), (1, .int v1), (2, .int v2), (3, .int v3), (4, .int v4), (5, .int v5)] [] M := by
    intro ag9 hag9
    have B39 : ∀ (v3 : Int32) (v4 : Int32) (v5 : Int32) (M : gx_Mem), f_X4_mostBehind_b39 ag9 v1 v2 v3 v4 v5 M = some (r9, M9) → gx_G κ Γ 39 [(0, .ref (gx_a κ 30)), (1, .int v1), (2, .int v2), (3, .int v3), (4, .int v4), (5, .int v5)] [] M := by
      intro v3 v4 v5 M h
      refine gx_iinc (v := (1 : Int32)) (i := 5) (j := 5) Cx eX4_mostBehind_39 (by decide) h 5 rfl (fun w => [(5, .int w), (0, .ref (gx_a κ 30)), (1, .int v1), (2, .int v2), (3, .int v3), (4, .int v4)]) (fun _ => rfl) (by decide) (fun x4 h => ?_)
      refine gx_goto (tgt := 9) Cx eX4_mostBehind_42 (by decide) ?_
      refine gx_sub [1, 2, 3, 4, 5, 0] rfl ?_
      exact hag9 _ _ _ _ h
    intro v3 v4 v5 M h
    refine gx_iload Cx eX4_mostBehind_9 5 rfl ?_
    refine gx_iconst (v := (4 : Int32)) Cx eX4_mostBehind_11 (by decide) ?_
    refine gx_icmp_ge (tgt := 45) Cx eX4_mostBehind_12 (by decide) h (fun h => ?_) (fun h => ?_)
    · refine gx_iload_n Cx eX4_mostBehind_45 3 rfl ?_
      exact gx_rI h rfl eX4_mostBehind_46 hR
    · refine gx_aload_n Cx eX4_mostBehind_15 0 rfl ?_
      refine gx_iload_n Cx eX4_mostBehind_16 1 rfl ?_
      refine gx_iload_n Cx eX4_mostBehind_17 2 rfl ?_
      refine gx_iload Cx eX4_mostBehind_18 5 rfl ?_
      obtain ⟨y2, M3, h1, h⟩ := gx_bI_of h
      refine gx_callVI (ci := 4) Cx my_X4_wetBehind wlX4_61 rfl gx_y30 (by decide) rfl eX4_mostBehind_20 (c_X4_wetBehind κ h1) rfl (Nat.le_of_ble_eq_true rfl) ?_
      refine gx_istore Cx eX4_mostBehind_23 [(6, .int y2), (0, .ref (gx_a κ 30)), (1, .int v1), (2, .int v2), (3, .int v3), (4, .int v4), (5, .int v5)] rfl (by decide) ?_
      refine gx_iload Cx eX4_mostBehind_25 0 rfl ?_
      refine gx_iload Cx eX4_mostBehind_27 5 rfl ?_
      refine gx_icmp_le (tgt := 39) Cx eX4_mostBehind_29 (by decide) h (fun h => ?_) (fun h => ?_)
      · refine gx_sub [1, 2, 3, 4, 5, 6] rfl ?_
        exact B39 _ _ _ _ h
      · refine gx_iload Cx eX4_mostBehind_32 0 rfl ?_
        refine gx_istore Cx eX4_mostBehind_34 [(4, .int y2), (6, .int y2), (0, .ref (gx_a κ 30)), (1, .int v1), (2, .int v2), (3, .int v3), (5, .int v5)] rfl (by decide) ?_
        refine gx_iload Cx eX4_mostBehind_36 6 rfl ?_
        refine gx_istore_n Cx eX4_mostBehind_38 [(3, .int v5), (4, .int y2), (6, .int y2), (0, .ref (gx_a κ 30)), (1, .int v1), (2, .int v2), (5, .int v5)] rfl (by decide) ?_
        refine gx_sub [3, 4, 5, 0, 1, 6] rfl ?_
        exact B39 _ _ _ _ h
  have L9 : ∀  (n : Nat) (v3 : Int32) (v4 : Int32) (v5 : Int32) (M : gx_Mem), f_X4_mostBehind_l9 v1 v2 n v3 v4 v5 M = some (r9, M9) → gx_G κ Γ 9 [(0, .ref (gx_a κ 30)), (1, .int v1), (2, .int v2), (3, .int v3), (4, .int v4), (5, .int v5)] [] M := by
    intro n
    induction n with
    | zero => intro v3 v4 v5 M h; exact gx_loop_0 h
    | succ n ih => intro v3 v4 v5 M h; exact K9 (fun v3 v4 v5 M => f_X4_mostBehind_l9 v1 v2 n v3 v4 v5 M) ih v3 v4 v5 M h
  have h := hf
  refine gx_bipush (v := (-2 : Int32)) Cx eX4_mostBehind_0 (by decide) ?_
  refine gx_istore_n Cx eX4_mostBehind_2 [(3, .int (-2 : Int32)), (0, .ref (gx_a κ 30)), (1, .int v1), (2, .int v2)] rfl (by decide) ?_
  refine gx_iconst (v := (0 : Int32)) Cx eX4_mostBehind_3 (by decide) ?_
  refine gx_istore Cx eX4_mostBehind_4 [(4, .int (0 : Int32)), (3, .int (-2 : Int32)), (0, .ref (gx_a κ 30)), (1, .int v1), (2, .int v2)] rfl (by decide) ?_
  refine gx_iconst (v := (0 : Int32)) Cx eX4_mostBehind_6 (by decide) ?_
  refine gx_istore Cx eX4_mostBehind_7 [(5, .int (0 : Int32)), (4, .int (0 : Int32)), (3, .int (-2 : Int32)), (0, .ref (gx_a κ 30)), (1, .int v1), (2, .int v2)] rfl (by decide) ?_
  refine gx_sub [3, 4, 5, 2, 1, 0] rfl ?_
  exact L9 _ _ _ _ _ h
set_option maxHeartbeats 4000000 in
set_option maxRecDepth 100000 in
theorem c_X4_comesInAll (κ : gx_K) {v1 : Int32} {M : gx_Mem} {r9 : Int32} {M9 : gx_Mem} (hf : f_X4_comesInAll v1 M = some (r9, M9)) : gx_CI κ yX4_comesInAll cX4_comesInAll 6 (some .int) 4 [.ref (gx_a κ 30), .int v1] M r9 M9 := by
  refine gx_enterI (d := 4) my_X4_comesInAll.1 (by decide) (Nat.le_of_ble_eq_true rfl) (fun Γ Cx hR => ?_)
  change gx_G κ Γ 0 [(0, .ref (gx_a κ 30)), (1, .int v1)] [] M
  have K4 : ∀  (ag4 : Int32 → Int32 → gx_Mem → Option (Int32 × gx_Mem)) (hag4 : ∀ (v2 : Int32) (v3 : Int32) (M : gx_Mem), ag4 v2 v3 M = some (r9, M9) → gx_G κ Γ 4 [(0, .ref (gx_a κ 30)), (1, .int v1), (2, .int v2), (3, .int v3)] [] M) (v2 : Int32) (v3 : Int32) (M : gx_Mem), f_X4_comesInAll_k4 v1 ag4 v2 v3 M = some (r9, M9) → gx_G κ Γ 4 [(0, .ref (gx_a κ 30)), (1, .int v1), (2, .int v2), (3, .int v3)] [] M := by
    intro ag4 hag4
    have K23 : ∀ (v3 : Int32) (v4 : Int32) (ag23 : Int32 → Int32 → gx_Mem → Option (Int32 × gx_Mem)) (hag23 : ∀ (v2 : Int32) (v5 : Int32) (M : gx_Mem), ag23 v2 v5 M = some (r9, M9) → gx_G κ Γ 23 [(0, .ref (gx_a κ 30)), (1, .int v1), (2, .int v2), (3, .int v3), (4, .int v4), (5, .int v5)] [] M) (v2 : Int32) (v5 : Int32) (M : gx_Mem), f_X4_comesInAll_k23 ag4 v1 v3 v4 ag23 v2 v5 M = some (r9, M9) → gx_G κ Γ 23 [(0, .ref (gx_a κ 30)), (1, .int v1), (2, .int v2), (3, .int v3), (4, .int v4), (5, .int v5)] [] M := by
      intro v3 v4 ag23 hag23
      intro v2 v5 M h
      refine gx_iload Cx eX4_comesInAll_23 5 rfl ?_
      refine gx_iconst (v := (4 : Int32)) Cx eX4_comesInAll_25 (by decide) ?_
      refine gx_icmp_ge (tgt := 57) Cx eX4_comesInAll_26 (by decide) h (fun h => ?_) (fun h => ?_)
      · refine gx_iinc (v := (1 : Int32)) (i := 3) (j := 3) Cx eX4_comesInAll_57 (by decide) h 3 rfl (fun w => [(3, .int w), (0, .ref (gx_a κ 30)), (1, .int v1), (2, .int v2), (4, .int v4), (5, .int v5)]) (fun _ => rfl) (by decide) (fun x3 h => ?_)
        refine gx_goto (tgt := 4) Cx eX4_comesInAll_60 (by decide) ?_
        refine gx_sub [1, 2, 3, 0] rfl ?_
        exact hag4 _ _ _ h
      · refine gx_iload_n Cx eX4_comesInAll_29 2 rfl ?_
        refine gx_aload_n Cx eX4_comesInAll_30 0 rfl ?_
        refine gfX4_25 Cx eX4_comesInAll_31 ?_
        refine gx_iload_n Cx eX4_comesInAll_34 1 rfl ?_
        refine gx_bipush (v := (8 : Int32)) Cx eX4_comesInAll_35 (by decide) ?_
        refine gx_idivC Cx eX4_comesInAll_37 (by decide) ?_
        refine gx_iload_n Cx eX4_comesInAll_38 1 rfl ?_
        refine gx_bipush (v := (8 : Int32)) Cx eX4_comesInAll_39 (by decide) ?_
        refine gx_iremC Cx eX4_comesInAll_41 (by decide) ?_
        refine gx_iload Cx eX4_comesInAll_42 5 rfl ?_
        refine gx_iload Cx eX4_comesInAll_44 4 rfl ?_
        obtain ⟨y5, M6, h4, h⟩ := gx_bI_of h
        refine gx_callVI (ci := 2) Cx my_X2_reaches wlX4_119 rfl gx_y9 (by decide) rfl eX4_comesInAll_46 (c_X2_reaches κ gx_Ho9 h4) rfl (Nat.le_of_ble_eq_true rfl) ?_
        refine gx_iadd Cx eX4_comesInAll_49 ?_
        refine gx_nmI h (fun x7 h => ?_)
        refine gx_istore_n Cx eX4_comesInAll_50 [(2, .int x7), (0, .ref (gx_a κ 30)), (1, .int v1), (3, .int v3), (4, .int v4), (5, .int v5)] rfl (by decide) ?_
        refine gx_iinc (v := (1 : Int32)) (i := 5) (j := 5) Cx eX4_comesInAll_51 (by decide) h 5 rfl (fun w => [(5, .int w), (2, .int x7), (0, .ref (gx_a κ 30)), (1, .int v1), (3, .int v3), (4, .int v4)]) (fun _ => rfl) (by decide) (fun x8 h => ?_)
        refine gx_goto (tgt := 23) Cx eX4_comesInAll_54 (by decide) ?_
        refine gx_sub [2, 3, 1, 4, 5, 0] rfl ?_
        exact hag23 _ _ _ h
    have L23 : ∀ (v3 : Int32) (v4 : Int32) (n : Nat) (v2 : Int32) (v5 : Int32) (M : gx_Mem), f_X4_comesInAll_l23 ag4 v1 v3 v4 n v2 v5 M = some (r9, M9) → gx_G κ Γ 23 [(0, .ref (gx_a κ 30)), (1, .int v1), (2, .int v2), (3, .int v3), (4, .int v4), (5, .int v5)] [] M := by
      intro v3 v4 n
      induction n with
      | zero => intro v2 v5 M h; exact gx_loop_0 h
      | succ n ih => intro v2 v5 M h; exact K23 v3 v4 (fun v2 v5 M => f_X4_comesInAll_l23 ag4 v1 v3 v4 n v2 v5 M) ih v2 v5 M h
    intro v2 v3 M h
    refine gx_iload_n Cx eX4_comesInAll_4 3 rfl ?_
    refine gx_bipush (v := (12 : Int32)) Cx eX4_comesInAll_5 (by decide) ?_
    refine gx_icmp_ge (tgt := 63) Cx eX4_comesInAll_7 (by decide) h (fun h => ?_) (fun h => ?_)
    · refine gx_iload_n Cx eX4_comesInAll_63 2 rfl ?_
      exact gx_rI h rfl eX4_comesInAll_64 hR
    · refine gx_aload_n Cx eX4_comesInAll_10 0 rfl ?_
      refine gfX4_25 Cx eX4_comesInAll_11 ?_
      refine gx_iload_n Cx eX4_comesInAll_14 3 rfl ?_
      obtain ⟨y2, h1, h⟩ := gx_bP_of h
      refine gx_callVI (ci := 2) Cx my_X2_outAt wlX4_38 rfl gx_y9 (by decide) rfl eX4_comesInAll_15 (c_X2_outAt κ gx_Ho9 h1) rfl (Nat.le_of_ble_eq_true rfl) ?_
      refine gx_istore Cx eX4_comesInAll_18 [(4, .int y2), (0, .ref (gx_a κ 30)), (1, .int v1), (2, .int v2), (3, .int v3)] rfl (by decide) ?_
      refine gx_iconst (v := (0 : Int32)) Cx eX4_comesInAll_20 (by decide) ?_
      refine gx_istore Cx eX4_comesInAll_21 [(5, .int (0 : Int32)), (4, .int y2), (0, .ref (gx_a κ 30)), (1, .int v1), (2, .int v2), (3, .int v3)] rfl (by decide) ?_
      refine gx_sub [2, 3, 4, 5, 1, 0] rfl ?_
      exact L23 _ _ _ _ _ _ h
  have L4 : ∀  (n : Nat) (v2 : Int32) (v3 : Int32) (M : gx_Mem), f_X4_comesInAll_l4 v1 n v2 v3 M = some (r9, M9) → gx_G κ Γ 4 [(0, .ref (gx_a κ 30)), (1, .int v1), (2, .int v2), (3, .int v3)] [] M := by
    intro n
    induction n with
    | zero => intro v2 v3 M h; exact gx_loop_0 h
    | succ n ih => intro v2 v3 M h; exact K4 (fun v2 v3 M => f_X4_comesInAll_l4 v1 n v2 v3 M) ih v2 v3 M h
  have h := hf
  refine gx_iconst (v := (0 : Int32)) Cx eX4_comesInAll_0 (by decide) ?_
  refine gx_istore_n Cx eX4_comesInAll_1 [(2, .int (0 : Int32)), (0, .ref (gx_a κ 30)), (1, .int v1)] rfl (by decide) ?_
  refine gx_iconst (v := (0 : Int32)) Cx eX4_comesInAll_2 (by decide) ?_
  refine gx_istore_n Cx eX4_comesInAll_3 [(3, .int (0 : Int32)), (2, .int (0 : Int32)), (0, .ref (gx_a κ 30)), (1, .int v1)] rfl (by decide) ?_
  refine gx_sub [2, 3, 1, 0] rfl ?_
  exact L4 _ _ _ _ h
set_option maxHeartbeats 4000000 in
set_option maxRecDepth 100000 in
theorem c_X4_share (κ : gx_K) {v1 : Int32} {v2 : Int32} {M : gx_Mem} {r9 : Int32} {M9 : gx_Mem} (hf : f_X4_share v1 v2 M = some (r9, M9)) : gx_CI κ yX4_share cX4_share 8 (some .int) 5 [.ref (gx_a κ 30), .int v1, .int v2] M r9 M9 := by
  refine gx_enterI (d := 5) my_X4_share.1 (by decide) (Nat.le_of_ble_eq_true rfl) (fun Γ Cx hR => ?_)
  change gx_G κ Γ 0 [(0, .ref (gx_a κ 30)), (1, .int v1), (2, .int v2)] [] M
  have K63 : ∀ (w3 : Int64) (ag63 : Int64 → Int32 → gx_Mem → Option (Int32 × gx_Mem)) (hag63 : ∀ (w5 : Int64) (v7 : Int32) (M : gx_Mem), ag63 w5 v7 M = some (r9, M9) → gx_G κ Γ 63 [(0, .ref (gx_a κ 30)), (1, .int v1), (2, .int v2), (3, .long w3), (5, .long w5), (7, .int v7)] [] M) (w5 : Int64) (v7 : Int32) (M : gx_Mem), f_X4_share_k63 v1 v2 w3 ag63 w5 v7 M = some (r9, M9) → gx_G κ Γ 63 [(0, .ref (gx_a κ 30)), (1, .int v1), (2, .int v2), (3, .long w3), (5, .long w5), (7, .int v7)] [] M := by
    intro w3 ag63 hag63
    have B102 : ∀ (v7 : Int32) (s0 : Int64) (s1 : Int64) (M : gx_Mem), f_X4_share_b102 ag63 v1 v2 w3 v7 s0 s1 M = some (r9, M9) → gx_G κ Γ 102 [(0, .ref (gx_a κ 30)), (1, .int v1), (2, .int v2), (3, .long w3), (7, .int v7)] [.long s1, .long s0] M := by
      intro v7 s0 s1 M h
      refine gx_ladd Cx eX4_share_102 ?_
      refine gx_nmJ h (fun x7 h => ?_)
      refine gx_lstore Cx eX4_share_103 [(5, .long x7), (0, .ref (gx_a κ 30)), (1, .int v1), (2, .int v2), (3, .long w3), (7, .int v7)] rfl (by decide) ?_
      refine gx_iinc (v := (1 : Int32)) (i := 7) (j := 5) Cx eX4_share_105 (by decide) h 5 rfl (fun w => [(7, .int w), (5, .long x7), (0, .ref (gx_a κ 30)), (1, .int v1), (2, .int v2), (3, .long w3)]) (fun _ => rfl) (by decide) (fun x8 h => ?_)
      refine gx_goto (tgt := 63) Cx eX4_share_108 (by decide) ?_
      refine gx_sub [2, 3, 4, 5, 1, 0] rfl ?_
      exact hag63 _ _ _ h
    intro w5 v7 M h
    refine gx_iload Cx eX4_share_63 5 rfl ?_
    refine gx_aload_n Cx eX4_share_65 0 rfl ?_
    refine gfX4_25 Cx eX4_share_66 ?_
    refine gfX4_67 Cx gx_y9 eX4_share_69 ?_
    refine gx_icmp_ge (tgt := 111) Cx eX4_share_72 (by decide) h (fun h => ?_) (fun h => ?_)
    · refine gx_lload Cx eX4_share_111 4 rfl ?_
      refine gx_lconst (v := (0 : Int64)) Cx eX4_share_113 (by decide) ?_
      refine gx_lcmp Cx eX4_share_114 ?_
      refine gx_if_eq (tgt := 129) Cx eX4_share_115 (by decide) h (fun h => ?_) (fun h => ?_)
      · refine gx_iconst (v := (0 : Int32)) Cx eX4_share_129 (by decide) ?_
        refine gx_goto (tgt := 148) Cx eX4_share_130 (by decide) ?_
        exact gx_rI h rfl eX4_share_148 hR
      · refine gx_aload_n Cx eX4_share_118 0 rfl ?_
        refine gfX4_21 Cx eX4_share_119 ?_
        refine gx_iload_n Cx eX4_share_122 1 rfl ?_
        refine gx_lald Cx gx_y34 eX4_share_123 h (fun h => ?_)
        refine gx_lconst (v := (0 : Int64)) Cx eX4_share_124 (by decide) ?_
        refine gx_lcmp Cx eX4_share_125 ?_
        refine gx_if_ne (tgt := 133) Cx eX4_share_126 (by decide) h (fun h => ?_) (fun h => ?_)
        · refine gx_iload_n Cx eX4_share_133 2 rfl ?_
          refine gx_i2l Cx eX4_share_134 ?_
          refine gx_lload_n Cx eX4_share_135 3 rfl ?_
          refine gx_aload_n Cx eX4_share_136 0 rfl ?_
          refine gfX4_21 Cx eX4_share_137 ?_
          refine gx_iload_n Cx eX4_share_140 1 rfl ?_
          refine gx_lald Cx gx_y34 eX4_share_141 h (fun h => ?_)
          refine gx_ldiv Cx eX4_share_142 h (fun h => ?_)
          refine gx_lmul Cx eX4_share_143 ?_
          refine gx_lload Cx eX4_share_144 4 rfl ?_
          refine gx_ldiv Cx eX4_share_146 h (fun h => ?_)
          refine gx_l2i Cx eX4_share_147 ?_
          exact gx_rI h rfl eX4_share_148 hR
        · refine gx_iconst (v := (0 : Int32)) Cx eX4_share_129 (by decide) ?_
          refine gx_goto (tgt := 148) Cx eX4_share_130 (by decide) ?_
          exact gx_rI h rfl eX4_share_148 hR
    · refine gx_lload Cx eX4_share_75 4 rfl ?_
      refine gx_aload_n Cx eX4_share_77 0 rfl ?_
      refine gfX4_21 Cx eX4_share_78 ?_
      refine gx_iload Cx eX4_share_81 5 rfl ?_
      refine gx_lald Cx gx_y34 eX4_share_83 h (fun h => ?_)
      refine gx_lconst (v := (0 : Int64)) Cx eX4_share_84 (by decide) ?_
      refine gx_lcmp Cx eX4_share_85 ?_
      refine gx_if_ne (tgt := 93) Cx eX4_share_86 (by decide) h (fun h => ?_) (fun h => ?_)
      · refine gx_lload_n Cx eX4_share_93 3 rfl ?_
        refine gx_aload_n Cx eX4_share_94 0 rfl ?_
        refine gfX4_21 Cx eX4_share_95 ?_
        refine gx_iload Cx eX4_share_98 5 rfl ?_
        refine gx_lald Cx gx_y34 eX4_share_100 h (fun h => ?_)
        refine gx_ldiv Cx eX4_share_101 h (fun h => ?_)
        refine gx_sub [0, 1, 2, 3, 5] rfl ?_
        exact B102 _ _ _ _ h
      · refine gx_lconst (v := (0 : Int64)) Cx eX4_share_89 (by decide) ?_
        refine gx_goto (tgt := 102) Cx eX4_share_90 (by decide) ?_
        refine gx_sub [0, 1, 2, 3, 5] rfl ?_
        exact B102 _ _ _ _ h
  have L63 : ∀ (w3 : Int64) (n : Nat) (w5 : Int64) (v7 : Int32) (M : gx_Mem), f_X4_share_l63 v1 v2 w3 n w5 v7 M = some (r9, M9) → gx_G κ Γ 63 [(0, .ref (gx_a κ 30)), (1, .int v1), (2, .int v2), (3, .long w3), (5, .long w5), (7, .int v7)] [] M := by
    intro w3 n
    induction n with
    | zero => intro w5 v7 M h; exact gx_loop_0 h
    | succ n ih => intro w5 v7 M h; exact K63 w3 (fun w5 v7 M => f_X4_share_l63 v1 v2 w3 n w5 v7 M) ih w5 v7 M h
  have K5 : ∀  (ag5 : Int64 → Int32 → gx_Mem → Option (Int32 × gx_Mem)) (hag5 : ∀ (w3 : Int64) (v5 : Int32) (M : gx_Mem), ag5 w3 v5 M = some (r9, M9) → gx_G κ Γ 5 [(0, .ref (gx_a κ 30)), (1, .int v1), (2, .int v2), (3, .long w3), (5, .int v5)] [] M) (w3 : Int64) (v5 : Int32) (M : gx_Mem), f_X4_share_k5 v1 v2 ag5 w3 v5 M = some (r9, M9) → gx_G κ Γ 5 [(0, .ref (gx_a κ 30)), (1, .int v1), (2, .int v2), (3, .long w3), (5, .int v5)] [] M := by
    intro ag5 hag5
    intro w3 v5 M h
    refine gx_iload Cx eX4_share_5 4 rfl ?_
    refine gx_aload_n Cx eX4_share_7 0 rfl ?_
    refine gfX4_25 Cx eX4_share_8 ?_
    refine gfX4_67 Cx gx_y9 eX4_share_11 ?_
    refine gx_icmp_ge (tgt := 57) Cx eX4_share_14 (by decide) h (fun h => ?_) (fun h => ?_)
    · refine gx_lconst (v := (0 : Int64)) Cx eX4_share_57 (by decide) ?_
      refine gx_lstore Cx eX4_share_58 [(5, .long (0 : Int64)), (0, .ref (gx_a κ 30)), (1, .int v1), (2, .int v2), (3, .long w3)] rfl (by decide) ?_
      refine gx_iconst (v := (0 : Int32)) Cx eX4_share_60 (by decide) ?_
      refine gx_istore Cx eX4_share_61 [(7, .int (0 : Int32)), (5, .long (0 : Int64)), (0, .ref (gx_a κ 30)), (1, .int v1), (2, .int v2), (3, .long w3)] rfl (by decide) ?_
      refine gx_sub [2, 3, 4, 5, 1, 0] rfl ?_
      exact L63 _ _ _ _ _ h
    · refine gx_aload_n Cx eX4_share_17 0 rfl ?_
      refine gfX4_21 Cx eX4_share_18 ?_
      refine gx_iload Cx eX4_share_21 4 rfl ?_
      refine gx_iconst (v := (1 : Int32)) Cx eX4_share_23 (by decide) ?_
      refine gx_aload_n Cx eX4_share_24 0 rfl ?_
      refine gx_aload_n Cx eX4_share_25 0 rfl ?_
      refine gfX4_25 Cx eX4_share_26 ?_
      refine gfX4_74 Cx gx_y9 eX4_share_29 ?_
      refine gx_iload Cx eX4_share_32 4 rfl ?_
      refine gx_iald Cx gx_y10 eX4_share_34 h (fun h => ?_)
      obtain ⟨y2, M3, h1, h⟩ := gx_bI_of h
      refine gx_callVI (ci := 4) Cx my_X4_comesInAll wlX4_116 rfl gx_y30 (by decide) rfl eX4_share_35 (c_X4_comesInAll κ h1) rfl (Nat.le_of_ble_eq_true rfl) ?_
      refine gx_iadd Cx eX4_share_38 ?_
      refine gx_i2l Cx eX4_share_39 ?_
      refine gx_last Cx gx_y34 eX4_share_40 h (fun M4 h => ?_)
      refine gx_lload_n Cx eX4_share_41 3 rfl ?_
      refine gx_aload_n Cx eX4_share_42 0 rfl ?_
      refine gfX4_21 Cx eX4_share_43 ?_
      refine gx_iload Cx eX4_share_46 4 rfl ?_
      refine gx_lald Cx gx_y34 eX4_share_48 h (fun h => ?_)
      refine gx_lmul Cx eX4_share_49 ?_
      refine gx_nmJ h (fun x5 h => ?_)
      refine gx_lstore_n Cx eX4_share_50 [(3, .long x5), (0, .ref (gx_a κ 30)), (1, .int v1), (2, .int v2), (5, .int v5)] rfl (by decide) ?_
      refine gx_iinc (v := (1 : Int32)) (i := 5) (j := 4) Cx eX4_share_51 (by decide) h 4 rfl (fun w => [(5, .int w), (3, .long x5), (0, .ref (gx_a κ 30)), (1, .int v1), (2, .int v2)]) (fun _ => rfl) (by decide) (fun x6 h => ?_)
      refine gx_goto (tgt := 5) Cx eX4_share_54 (by decide) ?_
      refine gx_sub [2, 3, 4, 1, 0] rfl ?_
      exact hag5 _ _ _ h
  have L5 : ∀  (n : Nat) (w3 : Int64) (v5 : Int32) (M : gx_Mem), f_X4_share_l5 v1 v2 n w3 v5 M = some (r9, M9) → gx_G κ Γ 5 [(0, .ref (gx_a κ 30)), (1, .int v1), (2, .int v2), (3, .long w3), (5, .int v5)] [] M := by
    intro n
    induction n with
    | zero => intro w3 v5 M h; exact gx_loop_0 h
    | succ n ih => intro w3 v5 M h; exact K5 (fun w3 v5 M => f_X4_share_l5 v1 v2 n w3 v5 M) ih w3 v5 M h
  have h := hf
  refine gx_lconst (v := (1 : Int64)) Cx eX4_share_0 (by decide) ?_
  refine gx_lstore_n Cx eX4_share_1 [(3, .long (1 : Int64)), (0, .ref (gx_a κ 30)), (1, .int v1), (2, .int v2)] rfl (by decide) ?_
  refine gx_iconst (v := (0 : Int32)) Cx eX4_share_2 (by decide) ?_
  refine gx_istore Cx eX4_share_3 [(5, .int (0 : Int32)), (3, .long (1 : Int64)), (0, .ref (gx_a κ 30)), (1, .int v1), (2, .int v2)] rfl (by decide) ?_
  refine gx_sub [2, 3, 4, 1, 0] rfl ?_
  exact L5 _ _ _ _ h
set_option maxHeartbeats 4000000 in
set_option maxRecDepth 100000 in
theorem c_X4_partner (κ : gx_K) {v1 : Int32} {M : gx_Mem} {r9 : Int32} {M9 : gx_Mem} (hf : f_X4_partner v1 M = some (r9, M9)) : gx_CI κ yX4_partner cX4_partner 7 (some .int) 6 [.ref (gx_a κ 30), .int v1] M r9 M9 := by
  refine gx_enterI (d := 6) my_X4_partner.1 (by decide) (Nat.le_of_ble_eq_true rfl) (fun Γ Cx hR => ?_)
  change gx_G κ Γ 0 [(0, .ref (gx_a κ 30)), (1, .int v1)] [] M
  have K15 : ∀ (v2 : Int32) (ag15 : Int32 → gx_Mem → Option (Int32 × gx_Mem)) (hag15 : ∀ (v3 : Int32) (M : gx_Mem), ag15 v3 M = some (r9, M9) → gx_G κ Γ 15 [(0, .ref (gx_a κ 30)), (1, .int v1), (2, .int v2), (3, .int v3)] [] M) (v3 : Int32) (M : gx_Mem), f_X4_partner_k15 v1 v2 ag15 v3 M = some (r9, M9) → gx_G κ Γ 15 [(0, .ref (gx_a κ 30)), (1, .int v1), (2, .int v2), (3, .int v3)] [] M := by
    intro v2 ag15 hag15
    have B148 : ∀ (v3 : Int32) (M : gx_Mem), f_X4_partner_b148 ag15 v1 v2 v3 M = some (r9, M9) → gx_G κ Γ 148 [(0, .ref (gx_a κ 30)), (1, .int v1), (2, .int v2), (3, .int v3)] [] M := by
      intro v3 M h
      refine gx_iinc (v := (1 : Int32)) (i := 3) (j := 3) Cx eX4_partner_148 (by decide) h 3 rfl (fun w => [(3, .int w), (0, .ref (gx_a κ 30)), (1, .int v1), (2, .int v2)]) (fun _ => rfl) (by decide) (fun x17 h => ?_)
      refine gx_goto (tgt := 15) Cx eX4_partner_151 (by decide) ?_
      refine gx_sub [1, 2, 3, 0] rfl ?_
      exact hag15 _ _ h
    intro v3 M h
    refine gx_iload_n Cx eX4_partner_15 3 rfl ?_
    refine gx_aload_n Cx eX4_partner_16 0 rfl ?_
    refine gfX4_25 Cx eX4_partner_17 ?_
    refine gfX4_67 Cx gx_y9 eX4_partner_20 ?_
    refine gx_icmp_ge (tgt := 154) Cx eX4_partner_23 (by decide) h (fun h => ?_) (fun h => ?_)
    · refine gx_bipush (v := (-2 : Int32)) Cx eX4_partner_154 (by decide) ?_
      exact gx_rI h rfl eX4_partner_156 hR
    · refine gx_iload_n Cx eX4_partner_26 3 rfl ?_
      refine gx_iload_n Cx eX4_partner_27 1 rfl ?_
      refine gx_icmp_eq (tgt := 148) Cx eX4_partner_28 (by decide) h (fun h => ?_) (fun h => ?_)
      · exact B148 _ _ h
      · refine gx_aload_n Cx eX4_partner_31 0 rfl ?_
        refine gfX4_25 Cx eX4_partner_32 ?_
        refine gx_iload_n Cx eX4_partner_35 3 rfl ?_
        refine gx_iconst (v := (0 : Int32)) Cx eX4_partner_36 (by decide) ?_
        refine gx_iconst (v := (3 : Int32)) Cx eX4_partner_37 (by decide) ?_
        refine gx_bipush (v := (63 : Int32)) Cx eX4_partner_38 (by decide) ?_
        obtain ⟨y5, M6, h4, h⟩ := gx_bI_of h
        refine gx_callSI Cx my_X4_wetter wlX4_70 (by decide) rfl eX4_partner_40 (c_X4_wetter κ gx_Ho9 h4) rfl (Nat.le_of_ble_eq_true rfl) ?_
        refine gx_istore Cx eX4_partner_43 [(4, .int y5), (0, .ref (gx_a κ 30)), (1, .int v1), (2, .int v2), (3, .int v3)] rfl (by decide) ?_
        refine gx_aload_n Cx eX4_partner_45 1 rfl ?_
        refine gfX4_29 Cx eX4_partner_46 ?_
        refine gx_aload_n Cx eX4_partner_49 1 rfl ?_
        refine gfX4_25 Cx eX4_partner_50 ?_
        obtain ⟨M8, h7, h⟩ := gx_bP_of h
        refine gx_callVV (ci := 2) Cx my_X2_liken wlX4_77 rfl gx_y23 (by decide) rfl eX4_partner_53 (c_X2_liken κ gx_Ho23 gx_Ho9 h7) rfl (Nat.le_of_ble_eq_true rfl) ?_
        refine gx_aload_n Cx eX4_partner_56 1 rfl ?_
        refine gfX4_29 Cx eX4_partner_57 ?_
        refine gfX4_74 Cx gx_y23 eX4_partner_60 ?_
        refine gx_iload_n Cx eX4_partner_63 2 rfl ?_
        refine gx_aload_n Cx eX4_partner_64 1 rfl ?_
        refine gfX4_25 Cx eX4_partner_65 ?_
        refine gfX4_74 Cx gx_y9 eX4_partner_68 ?_
        refine gx_iload_n Cx eX4_partner_71 4 rfl ?_
        refine gx_iald Cx gx_y10 eX4_partner_72 h (fun h => ?_)
        refine gx_iast Cx gx_y24 eX4_partner_73 h (fun M9 h => ?_)
        refine gx_aload_n Cx eX4_partner_74 1 rfl ?_
        refine gfX4_29 Cx eX4_partner_75 ?_
        refine gfX4_74 Cx gx_y23 eX4_partner_78 ?_
        refine gx_iload_n Cx eX4_partner_81 4 rfl ?_
        refine gx_aload_n Cx eX4_partner_82 1 rfl ?_
        refine gfX4_25 Cx eX4_partner_83 ?_
        refine gfX4_74 Cx gx_y9 eX4_partner_86 ?_
        refine gx_iload_n Cx eX4_partner_89 2 rfl ?_
        refine gx_iald Cx gx_y10 eX4_partner_90 h (fun h => ?_)
        refine gx_iast Cx gx_y24 eX4_partner_91 h (fun M10 h => ?_)
        refine gx_aload_n Cx eX4_partner_92 1 rfl ?_
        refine gfX4_29 Cx eX4_partner_93 ?_
        refine gx_iload_n Cx eX4_partner_96 2 rfl ?_
        refine gx_iconst (v := (0 : Int32)) Cx eX4_partner_97 (by decide) ?_
        refine gx_iconst (v := (3 : Int32)) Cx eX4_partner_98 (by decide) ?_
        refine gx_bipush (v := (63 : Int32)) Cx eX4_partner_99 (by decide) ?_
        obtain ⟨y12, M13, h11, h⟩ := gx_bI_of h
        refine gx_callSI Cx my_X4_wetter wlX4_70 (by decide) rfl eX4_partner_101 (c_X4_wetter κ gx_Ho23 h11) rfl (Nat.le_of_ble_eq_true rfl) ?_
        refine gx_istore Cx eX4_partner_104 [(5, .int y12), (4, .int y5), (0, .ref (gx_a κ 30)), (1, .int v1), (2, .int v2), (3, .int v3)] rfl (by decide) ?_
        refine gx_aload_n Cx eX4_partner_106 2 rfl ?_
        refine gfX4_29 Cx eX4_partner_107 ?_
        refine gx_iload_n Cx eX4_partner_110 5 rfl ?_
        refine gx_iconst (v := (0 : Int32)) Cx eX4_partner_111 (by decide) ?_
        refine gx_iconst (v := (3 : Int32)) Cx eX4_partner_112 (by decide) ?_
        refine gx_bipush (v := (63 : Int32)) Cx eX4_partner_113 (by decide) ?_
        obtain ⟨y15, M16, h14, h⟩ := gx_bI_of h
        refine gx_callSI Cx my_X4_wetter wlX4_70 (by decide) rfl eX4_partner_115 (c_X4_wetter κ gx_Ho23 h14) rfl (Nat.le_of_ble_eq_true rfl) ?_
        refine gx_istore Cx eX4_partner_118 [(6, .int y15), (5, .int y12), (4, .int y5), (0, .ref (gx_a κ 30)), (1, .int v1), (2, .int v2), (3, .int v3)] rfl (by decide) ?_
        refine gx_iload Cx eX4_partner_120 1 rfl ?_
        refine gx_iload_n Cx eX4_partner_122 5 rfl ?_
        refine gx_icmp_gt (tgt := 148) Cx eX4_partner_123 (by decide) h (fun h => ?_) (fun h => ?_)
        · refine gx_sub [3, 4, 5, 6] rfl ?_
          exact B148 _ _ h
        · refine gx_iload Cx eX4_partner_126 0 rfl ?_
          refine gx_iload Cx eX4_partner_128 2 rfl ?_
          refine gx_icmp_gt (tgt := 148) Cx eX4_partner_130 (by decide) h (fun h => ?_) (fun h => ?_)
          · refine gx_sub [3, 4, 5, 6] rfl ?_
            exact B148 _ _ h
          · refine gx_iload Cx eX4_partner_133 1 rfl ?_
            refine gx_iload_n Cx eX4_partner_135 5 rfl ?_
            refine gx_icmp_lt (tgt := 146) Cx eX4_partner_136 (by decide) h (fun h => ?_) (fun h => ?_)
            · refine gx_iload_n Cx eX4_partner_146 6 rfl ?_
              exact gx_rI h rfl eX4_partner_147 hR
            · refine gx_iload Cx eX4_partner_139 0 rfl ?_
              refine gx_iload Cx eX4_partner_141 2 rfl ?_
              refine gx_icmp_ge (tgt := 148) Cx eX4_partner_143 (by decide) h (fun h => ?_) (fun h => ?_)
              · refine gx_sub [3, 4, 5, 6] rfl ?_
                exact B148 _ _ h
              · refine gx_iload_n Cx eX4_partner_146 6 rfl ?_
                exact gx_rI h rfl eX4_partner_147 hR
  have L15 : ∀ (v2 : Int32) (n : Nat) (v3 : Int32) (M : gx_Mem), f_X4_partner_l15 v1 v2 n v3 M = some (r9, M9) → gx_G κ Γ 15 [(0, .ref (gx_a κ 30)), (1, .int v1), (2, .int v2), (3, .int v3)] [] M := by
    intro v2 n
    induction n with
    | zero => intro v3 M h; exact gx_loop_0 h
    | succ n ih => intro v3 M h; exact K15 v2 (fun v3 M => f_X4_partner_l15 v1 v2 n v3 M) ih v3 M h
  have h := hf
  refine gx_aload_n Cx eX4_partner_0 0 rfl ?_
  refine gfX4_25 Cx eX4_partner_1 ?_
  refine gx_iload_n Cx eX4_partner_4 1 rfl ?_
  refine gx_iconst (v := (0 : Int32)) Cx eX4_partner_5 (by decide) ?_
  refine gx_iconst (v := (3 : Int32)) Cx eX4_partner_6 (by decide) ?_
  refine gx_bipush (v := (63 : Int32)) Cx eX4_partner_7 (by decide) ?_
  obtain ⟨y2, M3, h1, h⟩ := gx_bI_of h
  refine gx_callSI Cx my_X4_wetter wlX4_70 (by decide) rfl eX4_partner_9 (c_X4_wetter κ gx_Ho9 h1) rfl (Nat.le_of_ble_eq_true rfl) ?_
  refine gx_istore_n Cx eX4_partner_12 [(2, .int y2), (0, .ref (gx_a κ 30)), (1, .int v1)] rfl (by decide) ?_
  refine gx_iconst (v := (0 : Int32)) Cx eX4_partner_13 (by decide) ?_
  refine gx_istore_n Cx eX4_partner_14 [(3, .int (0 : Int32)), (2, .int y2), (0, .ref (gx_a κ 30)), (1, .int v1)] rfl (by decide) ?_
  refine gx_sub [2, 3, 1, 0] rfl ?_
  exact L15 _ _ _ _ h
set_option maxHeartbeats 4000000 in
set_option maxRecDepth 100000 in
theorem c_X4_fills (κ : gx_K) {k : Nat} (hk : gx_Ho k) {b : Nat} (hb : gx_lay[b]? = some (.inr (1, 60, []))) {v2 : Int32} {M : gx_Mem} {r9 : Int32} {M9 : gx_Mem} (hf : f_X4_fills k b v2 M = some (r9, M9)) : gx_CI κ yX4_fills cX4_fills 4 (some .boolean) 5 [.ref (gx_a κ k), .ref (gx_a κ b), .int v2] M r9 M9 := by
  refine gx_enterI (d := 5) my_X4_fills.1 (by decide) (Nat.le_of_ble_eq_true rfl) (fun Γ Cx hR => ?_)
  change gx_G κ Γ 0 [(0, .ref (gx_a κ k)), (1, .ref (gx_a κ b)), (2, .int v2)] [] M
  have K2 : ∀  (ag2 : Int32 → gx_Mem → Option (Int32 × gx_Mem)) (hag2 : ∀ (v3 : Int32) (M : gx_Mem), ag2 v3 M = some (r9, M9) → gx_G κ Γ 2 [(0, .ref (gx_a κ k)), (1, .ref (gx_a κ b)), (2, .int v2), (3, .int v3)] [] M) (v3 : Int32) (M : gx_Mem), f_X4_fills_k2 k b v2 ag2 v3 M = some (r9, M9) → gx_G κ Γ 2 [(0, .ref (gx_a κ k)), (1, .ref (gx_a κ b)), (2, .int v2), (3, .int v3)] [] M := by
    intro ag2 hag2
    intro v3 M h
    refine gx_iload_n Cx eX4_fills_2 3 rfl ?_
    refine gx_iconst (v := (4 : Int32)) Cx eX4_fills_3 (by decide) ?_
    refine gx_icmp_ge (tgt := 29) Cx eX4_fills_4 (by decide) h (fun h => ?_) (fun h => ?_)
    · refine gx_iconst (v := (1 : Int32)) Cx eX4_fills_29 (by decide) ?_
      exact gx_rI h (by decide) eX4_fills_30 hR
    · refine gx_aload_n Cx eX4_fills_7 0 rfl ?_
      refine gx_iload_n Cx eX4_fills_8 3 rfl ?_
      refine gx_iload_n Cx eX4_fills_9 2 rfl ?_
      obtain ⟨y2, M3, h1, h⟩ := gx_bI_of h
      refine gx_callVI (ci := 2) Cx my_X2_caughtBy wlX4_64 rfl hk.1 (by decide) rfl eX4_fills_10 (c_X2_caughtBy κ hk h1) rfl (Nat.le_of_ble_eq_true rfl) ?_
      refine gx_i2l Cx eX4_fills_13 ?_
      refine gx_aload_n Cx eX4_fills_14 1 rfl ?_
      refine gx_iload_n Cx eX4_fills_15 3 rfl ?_
      refine gx_lald Cx hb eX4_fills_16 h (fun h => ?_)
      refine gx_lcmp Cx eX4_fills_17 ?_
      refine gx_if_eq (tgt := 23) Cx eX4_fills_18 (by decide) h (fun h => ?_) (fun h => ?_)
      · refine gx_iinc (v := (1 : Int32)) (i := 3) (j := 3) Cx eX4_fills_23 (by decide) h 3 rfl (fun w => [(3, .int w), (0, .ref (gx_a κ k)), (1, .ref (gx_a κ b)), (2, .int v2)]) (fun _ => rfl) (by decide) (fun x4 h => ?_)
        refine gx_goto (tgt := 2) Cx eX4_fills_26 (by decide) ?_
        refine gx_sub [1, 2, 3, 0] rfl ?_
        exact hag2 _ _ h
      · refine gx_iconst (v := (0 : Int32)) Cx eX4_fills_21 (by decide) ?_
        exact gx_rI h (by decide) eX4_fills_22 hR
  have L2 : ∀  (n : Nat) (v3 : Int32) (M : gx_Mem), f_X4_fills_l2 k b v2 n v3 M = some (r9, M9) → gx_G κ Γ 2 [(0, .ref (gx_a κ k)), (1, .ref (gx_a κ b)), (2, .int v2), (3, .int v3)] [] M := by
    intro n
    induction n with
    | zero => intro v3 M h; exact gx_loop_0 h
    | succ n ih => intro v3 M h; exact K2 (fun v3 M => f_X4_fills_l2 k b v2 n v3 M) ih v3 M h
  have h := hf
  refine gx_iconst (v := (0 : Int32)) Cx eX4_fills_0 (by decide) ?_
  refine gx_istore_n Cx eX4_fills_1 [(3, .int (0 : Int32)), (0, .ref (gx_a κ k)), (1, .ref (gx_a κ b)), (2, .int v2)] rfl (by decide) ?_
  refine gx_sub [1, 2, 3, 0] rfl ?_
  exact L2 _ _ _ h
set_option maxHeartbeats 4000000 in
set_option maxRecDepth 100000 in
theorem c_X4_amounts (κ : gx_K) {b : Nat} (hb : gx_lay[b]? = some (.inr (1, 60, []))) {v2 : Int32} {v3 : Int32} {v4 : Int32} {M : gx_Mem} {r9 : Int32} {M9 : gx_Mem} (hf : f_X4_amounts b v2 v3 v4 M = some (r9, M9)) : gx_CI κ yX4_amounts cX4_amounts 9 (some .int) 6 [.ref (gx_a κ 30), .ref (gx_a κ b), .int v2, .int v3, .int v4] M r9 M9 := by
  refine gx_enterI (d := 6) my_X4_amounts.1 (by decide) (Nat.le_of_ble_eq_true rfl) (fun Γ Cx hR => ?_)
  change gx_G κ Γ 0 [(0, .ref (gx_a κ 30)), (1, .ref (gx_a κ b)), (2, .int v2), (3, .int v3), (4, .int v4)] [] M
  have K31 : ∀ (v7 : Int32) (ag31 : Int32 → Int32 → Int32 → gx_Mem → Option (Int32 × gx_Mem)) (hag31 : ∀ (v5 : Int32) (v6 : Int32) (v8 : Int32) (M : gx_Mem), ag31 v5 v6 v8 M = some (r9, M9) → gx_G κ Γ 31 [(0, .ref (gx_a κ 30)), (1, .ref (gx_a κ b)), (3, .int v3), (4, .int v4), (5, .int v5), (6, .int v6), (7, .int v7), (8, .int v8)] [] M) (v5 : Int32) (v6 : Int32) (v8 : Int32) (M : gx_Mem), f_X4_amounts_k31 b v3 v4 v7 ag31 v5 v6 v8 M = some (r9, M9) → gx_G κ Γ 31 [(0, .ref (gx_a κ 30)), (1, .ref (gx_a κ b)), (3, .int v3), (4, .int v4), (5, .int v5), (6, .int v6), (7, .int v7), (8, .int v8)] [] M := by
    intro v7 ag31 hag31
    have B82 : ∀ (v5 : Int32) (v6 : Int32) (v8 : Int32) (M : gx_Mem), f_X4_amounts_b82 b ag31 v3 v4 v5 v6 v7 v8 M = some (r9, M9) → gx_G κ Γ 82 [(0, .ref (gx_a κ 30)), (1, .ref (gx_a κ b)), (3, .int v3), (4, .int v4), (5, .int v5), (6, .int v6), (7, .int v7), (8, .int v8)] [] M := by
      intro v5 v6 v8 M h
      refine gx_iinc (v := (1 : Int32)) (i := 8) (j := 7) Cx eX4_amounts_82 (by decide) h 7 rfl (fun w => [(8, .int w), (0, .ref (gx_a κ 30)), (1, .ref (gx_a κ b)), (3, .int v3), (4, .int v4), (5, .int v5), (6, .int v6), (7, .int v7)]) (fun _ => rfl) (by decide) (fun x10 h => ?_)
      refine gx_goto (tgt := 31) Cx eX4_amounts_85 (by decide) ?_
      refine gx_sub [1, 2, 3, 4, 5, 6, 7, 0] rfl ?_
      exact hag31 _ _ _ _ h
    have B77 : ∀ (v5 : Int32) (v8 : Int32) (s0 : Int32) (M : gx_Mem), f_X4_amounts_b77 b ag31 v3 v4 v5 v7 v8 s0 M = some (r9, M9) → gx_G κ Γ 77 [(0, .ref (gx_a κ 30)), (1, .ref (gx_a κ b)), (3, .int v3), (4, .int v4), (5, .int v5), (7, .int v7), (8, .int v8)] [.int s0] M := by
      intro v5 v8 s0 M h
      refine gx_istore Cx eX4_amounts_77 [(6, .int s0), (0, .ref (gx_a κ 30)), (1, .ref (gx_a κ b)), (3, .int v3), (4, .int v4), (5, .int v5), (7, .int v7), (8, .int v8)] rfl (by decide) ?_
      refine gx_iinc (v := (1 : Int32)) (i := 5) (j := 5) Cx eX4_amounts_79 (by decide) h 5 rfl (fun w => [(5, .int w), (6, .int s0), (0, .ref (gx_a κ 30)), (1, .ref (gx_a κ b)), (3, .int v3), (4, .int v4), (7, .int v7), (8, .int v8)]) (fun _ => rfl) (by decide) (fun x9 h => ?_)
      refine gx_sub [2, 3, 4, 5, 0, 1, 6, 7] rfl ?_
      exact B82 _ _ _ _ h
    intro v5 v6 v8 M h
    refine gx_iload Cx eX4_amounts_31 7 rfl ?_
    refine gsX4_110 Cx eX4_amounts_33 ?_
    refine gx_iconst (v := (2 : Int32)) Cx eX4_amounts_36 (by decide) ?_
    refine gx_tab0ld Cx eX4_amounts_37 h (fun h => ?_)
    refine gx_icmp_gt (tgt := 88) Cx eX4_amounts_38 (by decide) h (fun h => ?_) (fun h => ?_)
    · refine gx_iload Cx eX4_amounts_88 3 rfl ?_
      refine gx_if_eq (tgt := 98) Cx eX4_amounts_90 (by decide) h (fun h => ?_) (fun h => ?_)
      · refine gx_iload Cx eX4_amounts_98 4 rfl ?_
        exact gx_rI h rfl eX4_amounts_100 hR
      · refine gx_iload Cx eX4_amounts_93 5 rfl ?_
        refine gx_goto (tgt := 100) Cx eX4_amounts_95 (by decide) ?_
        exact gx_rI h rfl eX4_amounts_100 hR
    · refine gx_aload_n Cx eX4_amounts_41 0 rfl ?_
      refine gfX4_29 Cx eX4_amounts_42 ?_
      refine gfX4_113 Cx gx_y23 eX4_amounts_45 ?_
      refine gx_iload_n Cx eX4_amounts_48 2 rfl ?_
      refine gx_iload Cx eX4_amounts_49 7 rfl ?_
      refine gx_iast Cx gx_y26 eX4_amounts_51 h (fun M5 h => ?_)
      refine gx_aload_n Cx eX4_amounts_52 0 rfl ?_
      refine gfX4_29 Cx eX4_amounts_53 ?_
      refine gx_aload_n Cx eX4_amounts_56 1 rfl ?_
      refine gx_iload Cx eX4_amounts_57 6 rfl ?_
      obtain ⟨y7, M8, h6, h⟩ := gx_bI_of h
      refine gx_callSI Cx my_X4_fills wlX4_106 (by decide) rfl eX4_amounts_59 (c_X4_fills κ gx_Ho23 hb h6) rfl (Nat.le_of_ble_eq_true rfl) ?_
      refine gx_if_eq (tgt := 82) Cx eX4_amounts_62 (by decide) h (fun h => ?_) (fun h => ?_)
      · exact B82 _ _ _ _ h
      · refine gx_iload Cx eX4_amounts_65 4 rfl ?_
        refine gx_if_ne (tgt := 75) Cx eX4_amounts_67 (by decide) h (fun h => ?_) (fun h => ?_)
        · refine gx_iload Cx eX4_amounts_75 5 rfl ?_
          refine gx_sub [0, 1, 2, 3, 4, 6, 7] rfl ?_
          exact B77 _ _ _ _ h
        · refine gx_iload Cx eX4_amounts_70 7 rfl ?_
          refine gx_goto (tgt := 77) Cx eX4_amounts_72 (by decide) ?_
          refine gx_sub [0, 1, 2, 3, 4, 6, 7] rfl ?_
          exact B77 _ _ _ _ h
  have L31 : ∀ (v7 : Int32) (n : Nat) (v5 : Int32) (v6 : Int32) (v8 : Int32) (M : gx_Mem), f_X4_amounts_l31 b v3 v4 v7 n v5 v6 v8 M = some (r9, M9) → gx_G κ Γ 31 [(0, .ref (gx_a κ 30)), (1, .ref (gx_a κ b)), (3, .int v3), (4, .int v4), (5, .int v5), (6, .int v6), (7, .int v7), (8, .int v8)] [] M := by
    intro v7 n
    induction n with
    | zero => intro v5 v6 v8 M h; exact gx_loop_0 h
    | succ n ih => intro v5 v6 v8 M h; exact K31 v7 (fun v5 v6 v8 M => f_X4_amounts_l31 b v3 v4 v7 n v5 v6 v8 M) ih v5 v6 v8 M h
  have h := hf
  refine gx_iconst (v := (0 : Int32)) Cx eX4_amounts_0 (by decide) ?_
  refine gx_istore Cx eX4_amounts_1 [(5, .int (0 : Int32)), (0, .ref (gx_a κ 30)), (1, .ref (gx_a κ b)), (2, .int v2), (3, .int v3), (4, .int v4)] rfl (by decide) ?_
  refine gx_bipush (v := (-2 : Int32)) Cx eX4_amounts_3 (by decide) ?_
  refine gx_istore Cx eX4_amounts_5 [(6, .int (-2 : Int32)), (5, .int (0 : Int32)), (0, .ref (gx_a κ 30)), (1, .ref (gx_a κ b)), (2, .int v2), (3, .int v3), (4, .int v4)] rfl (by decide) ?_
  refine gx_aload_n Cx eX4_amounts_7 2 rfl ?_
  refine gfX4_25 Cx eX4_amounts_8 ?_
  refine gx_iload_n Cx eX4_amounts_11 4 rfl ?_
  obtain ⟨y2, h1, h⟩ := gx_bP_of h
  refine gx_callVI (ci := 2) Cx my_X2_outAt wlX4_38 rfl gx_y9 (by decide) rfl eX4_amounts_12 (c_X2_outAt κ gx_Ho9 h1) rfl (Nat.le_of_ble_eq_true rfl) ?_
  refine gx_istore Cx eX4_amounts_15 [(7, .int y2), (6, .int (-2 : Int32)), (5, .int (0 : Int32)), (0, .ref (gx_a κ 30)), (1, .ref (gx_a κ b)), (2, .int v2), (3, .int v3), (4, .int v4)] rfl (by decide) ?_
  refine gx_aload_n Cx eX4_amounts_17 3 rfl ?_
  refine gfX4_29 Cx eX4_amounts_18 ?_
  refine gx_aload_n Cx eX4_amounts_21 3 rfl ?_
  refine gfX4_25 Cx eX4_amounts_22 ?_
  obtain ⟨M4, h3, h⟩ := gx_bP_of h
  refine gx_callVV (ci := 2) Cx my_X2_liken wlX4_77 rfl gx_y23 (by decide) rfl eX4_amounts_25 (c_X2_liken κ gx_Ho23 gx_Ho9 h3) rfl (Nat.le_of_ble_eq_true rfl) ?_
  refine gx_iconst (v := (0 : Int32)) Cx eX4_amounts_28 (by decide) ?_
  refine gx_istore Cx eX4_amounts_29 [(8, .int (0 : Int32)), (7, .int y2), (6, .int (-2 : Int32)), (5, .int (0 : Int32)), (0, .ref (gx_a κ 30)), (1, .ref (gx_a κ b)), (2, .int v2), (3, .int v3), (4, .int v4)] rfl (by decide) ?_
  refine gx_sub [4, 5, 7, 8, 3, 2, 1, 0] rfl ?_
  exact L31 _ _ _ _ _ _ h
set_option maxHeartbeats 4000000 in
set_option maxRecDepth 100000 in
theorem c_X4_sets (κ : gx_K) {b : Nat} (hb : gx_lay[b]? = some (.inr (1, 60, []))) {v2 : Int32} {M : gx_Mem} {r9 : Int32} {M9 : gx_Mem} (hf : f_X4_sets b v2 M = some (r9, M9)) : gx_CI κ yX4_sets cX4_sets 7 (some .int) 6 [.ref (gx_a κ 30), .ref (gx_a κ b), .int v2] M r9 M9 := by
  refine gx_enterI (d := 6) my_X4_sets.1 (by decide) (Nat.le_of_ble_eq_true rfl) (fun Γ Cx hR => ?_)
  change gx_G κ Γ 0 [(0, .ref (gx_a κ 30)), (1, .ref (gx_a κ b)), (2, .int v2)] [] M
  have K13 : ∀  (ag13 : Int32 → Int32 → Int32 → Int32 → gx_Mem → Option (Int32 × gx_Mem)) (hag13 : ∀ (v3 : Int32) (v4 : Int32) (v5 : Int32) (v6 : Int32) (M : gx_Mem), ag13 v3 v4 v5 v6 M = some (r9, M9) → gx_G κ Γ 13 [(0, .ref (gx_a κ 30)), (1, .ref (gx_a κ b)), (2, .int v2), (3, .int v3), (4, .int v4), (5, .int v5), (6, .int v6)] [] M) (v3 : Int32) (v4 : Int32) (v5 : Int32) (v6 : Int32) (M : gx_Mem), f_X4_sets_k13 b v2 ag13 v3 v4 v5 v6 M = some (r9, M9) → gx_G κ Γ 13 [(0, .ref (gx_a κ 30)), (1, .ref (gx_a κ b)), (2, .int v2), (3, .int v3), (4, .int v4), (5, .int v5), (6, .int v6)] [] M := by
    intro ag13 hag13
    have B63 : ∀ (v3 : Int32) (v4 : Int32) (v5 : Int32) (v6 : Int32) (M : gx_Mem), f_X4_sets_b63 b ag13 v2 v3 v4 v5 v6 M = some (r9, M9) → gx_G κ Γ 63 [(0, .ref (gx_a κ 30)), (1, .ref (gx_a κ b)), (2, .int v2), (3, .int v3), (4, .int v4), (5, .int v5), (6, .int v6)] [] M := by
      intro v3 v4 v5 v6 M h
      refine gx_iinc (v := (1 : Int32)) (i := 6) (j := 6) Cx eX4_sets_63 (by decide) h 6 rfl (fun w => [(6, .int w), (0, .ref (gx_a κ 30)), (1, .ref (gx_a κ b)), (2, .int v2), (3, .int v3), (4, .int v4), (5, .int v5)]) (fun _ => rfl) (by decide) (fun x6 h => ?_)
      refine gx_goto (tgt := 13) Cx eX4_sets_66 (by decide) ?_
      refine gx_sub [1, 2, 3, 4, 5, 6, 0] rfl ?_
      exact hag13 _ _ _ _ _ h
    have B51 : ∀ (v3 : Int32) (v5 : Int32) (v6 : Int32) (s0 : Int32) (M : gx_Mem), f_X4_sets_b51 b ag13 v2 v3 v5 v6 s0 M = some (r9, M9) → gx_G κ Γ 51 [(0, .ref (gx_a κ 30)), (1, .ref (gx_a κ b)), (2, .int v2), (3, .int v3), (5, .int v5), (6, .int v6)] [.int s0] M := by
      intro v3 v5 v6 s0 M h
      refine gx_istore Cx eX4_sets_51 [(4, .int s0), (0, .ref (gx_a κ 30)), (1, .ref (gx_a κ b)), (2, .int v2), (3, .int v3), (5, .int v5), (6, .int v6)] rfl (by decide) ?_
      refine gx_iload Cx eX4_sets_53 5 rfl ?_
      refine gx_iload Cx eX4_sets_55 6 rfl ?_
      refine gx_iand Cx eX4_sets_57 ?_
      refine gx_nmI h (fun x4 h => ?_)
      refine gx_istore Cx eX4_sets_58 [(5, .int x4), (4, .int s0), (0, .ref (gx_a κ 30)), (1, .ref (gx_a κ b)), (2, .int v2), (3, .int v3), (6, .int v6)] rfl (by decide) ?_
      refine gx_iinc (v := (1 : Int32)) (i := 3) (j := 5) Cx eX4_sets_60 (by decide) h 5 rfl (fun w => [(3, .int w), (5, .int x4), (4, .int s0), (0, .ref (gx_a κ 30)), (1, .ref (gx_a κ b)), (2, .int v2), (6, .int v6)]) (fun _ => rfl) (by decide) (fun x5 h => ?_)
      refine gx_sub [3, 4, 5, 0, 2, 1, 6] rfl ?_
      exact B63 _ _ _ _ _ h
    intro v3 v4 v5 v6 M h
    refine gx_iload Cx eX4_sets_13 6 rfl ?_
    refine gx_iconst (v := (1 : Int32)) Cx eX4_sets_15 (by decide) ?_
    refine gx_aload_n Cx eX4_sets_16 0 rfl ?_
    refine gfX4_25 Cx eX4_sets_17 ?_
    refine gfX4_67 Cx gx_y9 eX4_sets_20 ?_
    refine gx_ishl Cx eX4_sets_23 ?_
    refine gx_icmp_ge (tgt := 69) Cx eX4_sets_24 (by decide) h (fun h => ?_) (fun h => ?_)
    · refine gx_iload_n Cx eX4_sets_69 2 rfl ?_
      refine gx_iconst (v := (2 : Int32)) Cx eX4_sets_70 (by decide) ?_
      refine gx_icmp_ne (tgt := 85) Cx eX4_sets_71 (by decide) h (fun h => ?_) (fun h => ?_)
      · refine gx_iload_n Cx eX4_sets_85 2 rfl ?_
        refine gx_iconst (v := (1 : Int32)) Cx eX4_sets_86 (by decide) ?_
        refine gx_icmp_ne (tgt := 95) Cx eX4_sets_87 (by decide) h (fun h => ?_) (fun h => ?_)
        · refine gx_iload_n Cx eX4_sets_95 3 rfl ?_
          exact gx_rI h rfl eX4_sets_96 hR
        · refine gx_iload Cx eX4_sets_90 4 rfl ?_
          refine gx_goto (tgt := 96) Cx eX4_sets_92 (by decide) ?_
          exact gx_rI h rfl eX4_sets_96 hR
      · refine gx_iload_n Cx eX4_sets_74 3 rfl ?_
        refine gx_if_ne (tgt := 82) Cx eX4_sets_75 (by decide) h (fun h => ?_) (fun h => ?_)
        · refine gx_iload Cx eX4_sets_82 5 rfl ?_
          exact gx_rI h rfl eX4_sets_84 hR
        · refine gx_iconst (v := (0 : Int32)) Cx eX4_sets_78 (by decide) ?_
          refine gx_goto (tgt := 84) Cx eX4_sets_79 (by decide) ?_
          exact gx_rI h rfl eX4_sets_84 hR
    · refine gx_aload_n Cx eX4_sets_27 0 rfl ?_
      refine gfX4_25 Cx eX4_sets_28 ?_
      refine gx_aload_n Cx eX4_sets_31 1 rfl ?_
      refine gx_iload Cx eX4_sets_32 6 rfl ?_
      obtain ⟨y2, M3, h1, h⟩ := gx_bI_of h
      refine gx_callSI Cx my_X4_fills wlX4_106 (by decide) rfl eX4_sets_34 (c_X4_fills κ gx_Ho9 hb h1) rfl (Nat.le_of_ble_eq_true rfl) ?_
      refine gx_if_eq (tgt := 63) Cx eX4_sets_37 (by decide) h (fun h => ?_) (fun h => ?_)
      · exact B63 _ _ _ _ _ h
      · refine gx_iload_n Cx eX4_sets_40 3 rfl ?_
        refine gx_if_ne (tgt := 49) Cx eX4_sets_41 (by decide) h (fun h => ?_) (fun h => ?_)
        · refine gx_iload Cx eX4_sets_49 4 rfl ?_
          refine gx_sub [0, 1, 2, 3, 5, 6] rfl ?_
          exact B51 _ _ _ _ _ h
        · refine gx_iload Cx eX4_sets_44 6 rfl ?_
          refine gx_goto (tgt := 51) Cx eX4_sets_46 (by decide) ?_
          refine gx_sub [0, 1, 2, 3, 5, 6] rfl ?_
          exact B51 _ _ _ _ _ h
  have L13 : ∀  (n : Nat) (v3 : Int32) (v4 : Int32) (v5 : Int32) (v6 : Int32) (M : gx_Mem), f_X4_sets_l13 b v2 n v3 v4 v5 v6 M = some (r9, M9) → gx_G κ Γ 13 [(0, .ref (gx_a κ 30)), (1, .ref (gx_a κ b)), (2, .int v2), (3, .int v3), (4, .int v4), (5, .int v5), (6, .int v6)] [] M := by
    intro n
    induction n with
    | zero => intro v3 v4 v5 v6 M h; exact gx_loop_0 h
    | succ n ih => intro v3 v4 v5 v6 M h; exact K13 (fun v3 v4 v5 v6 M => f_X4_sets_l13 b v2 n v3 v4 v5 v6 M) ih v3 v4 v5 v6 M h
  have h := hf
  refine gx_iconst (v := (0 : Int32)) Cx eX4_sets_0 (by decide) ?_
  refine gx_istore_n Cx eX4_sets_1 [(3, .int (0 : Int32)), (0, .ref (gx_a κ 30)), (1, .ref (gx_a κ b)), (2, .int v2)] rfl (by decide) ?_
  refine gx_bipush (v := (-2 : Int32)) Cx eX4_sets_2 (by decide) ?_
  refine gx_istore Cx eX4_sets_4 [(4, .int (-2 : Int32)), (3, .int (0 : Int32)), (0, .ref (gx_a κ 30)), (1, .ref (gx_a κ b)), (2, .int v2)] rfl (by decide) ?_
  refine gx_bipush (v := (63 : Int32)) Cx eX4_sets_6 (by decide) ?_
  refine gx_istore Cx eX4_sets_8 [(5, .int (63 : Int32)), (4, .int (-2 : Int32)), (3, .int (0 : Int32)), (0, .ref (gx_a κ 30)), (1, .ref (gx_a κ b)), (2, .int v2)] rfl (by decide) ?_
  refine gx_iconst (v := (0 : Int32)) Cx eX4_sets_10 (by decide) ?_
  refine gx_istore Cx eX4_sets_11 [(6, .int (0 : Int32)), (5, .int (63 : Int32)), (4, .int (-2 : Int32)), (3, .int (0 : Int32)), (0, .ref (gx_a κ 30)), (1, .ref (gx_a κ b)), (2, .int v2)] rfl (by decide) ?_
  refine gx_sub [4, 5, 6, 3, 2, 1, 0] rfl ?_
  exact L13 _ _ _ _ _ _ h

def f_X8_isUnder_b44   (v0 : Int32) (v1 : Int32) (M : gx_Mem) : Option Int32 := (if v1 = (6 : Int32) then (if v0 = (7 : Int32) then some (1 : Int32) else some (0 : Int32)) else some (0 : Int32))
def f_X8_isUnder_b34   (v0 : Int32) (v1 : Int32) (M : gx_Mem) : Option Int32 := (if v1 = (3 : Int32) then (if v0 = (5 : Int32) then some (1 : Int32) else f_X8_isUnder_b44 v0 v1 M) else f_X8_isUnder_b44 v0 v1 M)
def f_X8_isUnder_b19   (v0 : Int32) (v1 : Int32) (M : gx_Mem) : Option Int32 := (if v1 = (2 : Int32) then (if v0 = (3 : Int32) then some (1 : Int32) else (if v0 = (5 : Int32) then some (1 : Int32) else f_X8_isUnder_b34 v0 v1 M)) else f_X8_isUnder_b34 v0 v1 M)
def f_X8_isUnder (v0 : Int32) (v1 : Int32) (M : gx_Mem) : Option Int32 := (if v1 = 0 then some (1 : Int32) else (if v0 = v1 then some (1 : Int32) else (if v1 = (1 : Int32) then (if v0 = (4 : Int32) then some (1 : Int32) else f_X8_isUnder_b19 v0 v1 M) else f_X8_isUnder_b19 v0 v1 M)))
def f_X8_ran_b19    (M : gx_Mem) : Option gx_Mem := gx_let (gx_sI M 57 54 ((M.1 57 54) + (1 : Int32))) (fun M2 => some M2)
def f_X8_ran (v1 : Int32) (M : gx_Mem) : Option gx_Mem := (if (24 : Int32) ≤ (M.1 57 54) then f_X8_ran_b19 M else gx_gd (gx_in (M.1 57 54) 24) (gx_let (gx_sI M 91 (M.1 57 54).toNatClampNeg v1) (fun M1 => f_X8_ran_b19 M1)))
def f_X8_plainFalls (v1 : Int32) (v2 : Int32) (M : gx_Mem) : Option (Int32 × gx_Mem) := gx_bP (f_X8_ran (1 : Int32) M) (fun M2 => some ((v2 + v1), M2))
def f_X8_lampFalls (v1 : Int32) (v2 : Int32) (M : gx_Mem) : Option (Int32 × gx_Mem) := gx_bP (f_X8_ran (70 : Int32) M) (fun M2 => gx_bI (f_X8_plainFalls v1 v2 M2) (fun y4 M5 => some ((y4 * (2 : Int32)), M5)))
def f_X8_falling (v1 : Int32) (v2 : Int32) (M : gx_Mem) : Option (Int32 × gx_Mem) := gx_gd (gx_in v1 50) (gx_bP (f_X8_isUnder (M.1 90 v1.toNatClampNeg) (1 : Int32) M) (fun y2 => (if y2 = 0 then gx_gd (gx_in v1 50) ((if (M.1 90 v1.toNatClampNeg) = (7 : Int32) then gx_bP (f_X8_ran (81 : Int32) M) (fun M10 => gx_bI (f_X8_lampFalls v1 v2 M10) (fun y12 M13 => some ((y12 - (1 : Int32)), M13))) else gx_gd (gx_in v1 50) ((if (M.1 90 v1.toNatClampNeg) = (6 : Int32) then gx_bI (f_X8_lampFalls v1 v2 M) (fun y7 M8 => some (y7, M8)) else gx_bI (f_X8_plainFalls v1 v2 M) (fun y4 M5 => some (y4, M5)))))) else gx_bP (f_X8_ran (20 : Int32) M) (fun M15 => gx_bI (f_X8_plainFalls v1 v2 M15) (fun y17 M18 => some ((y17 + (3 : Int32)), M18))))))
def f_X8_in (v0 : Int32) (v1 : Int32) (v2 : Int32) (M : gx_Mem) : Option Int32 := (if v0 < v1 then some (0 : Int32) else (if v2 < v0 then some (0 : Int32) else some (1 : Int32)))
def f_X8_isBody (v1 : Int32) (M : gx_Mem) : Option Int32 := gx_bP (f_X8_in v1 (0 : Int32) ((M.1 57 52) - (1 : Int32)) M) (fun y2 => gx_gd (gx_isZ y2) (some y2))
def f_X8_plainRuns (v1 : Int32) (v2 : Int32) (M : gx_Mem) : Option (Int32 × gx_Mem) := gx_bP (f_X8_ran (10 : Int32) M) (fun M2 => gx_bI (f_X8_falling v1 v2 M2) (fun y4 M5 => some ((y4 * (2 : Int32)), M5)))
def f_X8_basinRuns (v1 : Int32) (v2 : Int32) (M : gx_Mem) : Option (Int32 × gx_Mem) := gx_bP (f_X8_ran (30 : Int32) M) (fun M2 => gx_bI (f_X8_plainRuns v1 v2 M2) (fun y4 M5 => some ((-y4), M5)))
def f_X8_plainThinks (v1 : Int32) (v2 : Int32) (M : gx_Mem) : Option (Int32 × gx_Mem) := gx_bP (f_X8_ran (11 : Int32) M) (fun M2 => some ((v2 ^^^ v1), M2))
def f_X8_porterThinks (v1 : Int32) (v2 : Int32) (M : gx_Mem) : Option (Int32 × gx_Mem) := gx_bP (f_X8_ran (40 : Int32) M) (fun M2 => gx_bI (f_X8_plainThinks v1 v2 M2) (fun y4 M5 => some ((y4 * (3 : Int32)), M5)))
def f_X8_thinking (v1 : Int32) (v2 : Int32) (M : gx_Mem) : Option (Int32 × gx_Mem) := gx_gd (gx_in v1 50) ((if (M.1 90 v1.toNatClampNeg) = (5 : Int32) then gx_bP (f_X8_ran (60 : Int32) M) (fun M8 => gx_bI (f_X8_porterThinks v1 v2 M8) (fun y10 M11 => gx_bI (f_X8_falling v1 (2 : Int32) M11) (fun y13 M14 => some ((y10 - y13), M14)))) else gx_gd (gx_in v1 50) ((if (M.1 90 v1.toNatClampNeg) = (3 : Int32) then gx_bI (f_X8_porterThinks v1 v2 M) (fun y5 M6 => some (y5, M6)) else gx_bI (f_X8_plainThinks v1 v2 M) (fun y2 M3 => some (y2, M3))))))
def f_X8_running (v1 : Int32) (v2 : Int32) (M : gx_Mem) : Option (Int32 × gx_Mem) := gx_gd (gx_in v1 50) (gx_bP (f_X8_isUnder (M.1 90 v1.toNatClampNeg) (3 : Int32) M) (fun y2 => (if y2 = 0 then gx_gd (gx_in v1 50) ((if (M.1 90 v1.toNatClampNeg) = (7 : Int32) then gx_bP (f_X8_ran (80 : Int32) M) (fun M10 => gx_bI (f_X8_plainRuns v1 v2 M10) (fun y12 M13 => gx_bI (f_X8_thinking v1 (2 : Int32) M13) (fun y15 M16 => some ((y12 + y15), M16)))) else gx_gd (gx_in v1 50) ((if (M.1 90 v1.toNatClampNeg) = (2 : Int32) then gx_bI (f_X8_basinRuns v1 v2 M) (fun y7 M8 => some (y7, M8)) else gx_bI (f_X8_plainRuns v1 v2 M) (fun y4 M5 => some (y4, M5)))))) else gx_bP (f_X8_ran (41 : Int32) M) (fun M18 => gx_bI (f_X8_basinRuns v1 (v2 + (1 : Int32)) M18) (fun y20 M21 => some (y20, M21))))))
def f_X8_plainTells (v1 : Int32) (v2 : Int32) (M : gx_Mem) : Option (Int32 × gx_Mem) := gx_bP (f_X8_ran (2 : Int32) M) (fun M2 => gx_bI (f_X8_running v1 v2 M2) (fun y4 M5 => gx_bI (f_X8_thinking v1 (1 : Int32) M5) (fun y7 M8 => some ((y4 - y7), M8))))
def f_X8_telling (v1 : Int32) (v2 : Int32) (M : gx_Mem) : Option (Int32 × gx_Mem) := gx_gd (gx_in v1 50) ((if (M.1 90 v1.toNatClampNeg) = (4 : Int32) then gx_bP (f_X8_ran (50 : Int32) M) (fun M10 => gx_bI (f_X8_plainTells v1 v2 M10) (fun y12 M13 => some ((y12 ^^^ (5 : Int32)), M13))) else gx_gd (gx_in v1 50) ((if (M.1 90 v1.toNatClampNeg) = (5 : Int32) then gx_bP (f_X8_ran (61 : Int32) M) (fun M5 => gx_bI (f_X8_plainTells v1 v2 M5) (fun y7 M8 => some ((y7 + (1 : Int32)), M8))) else gx_bI (f_X8_plainTells v1 v2 M) (fun y2 M3 => some (y2, M3))))))
def f_X8_act (v1 : Int32) (v2 : Int32) (v3 : Int32) (M : gx_Mem) : Option (Int32 × gx_Mem) := gx_let (gx_sI M 57 54 (0 : Int32)) (fun M1 => gx_bP (f_X8_isBody v1 M1) (fun y3 => (if y3 = 0 then some ((0 : Int32), M1) else gx_bP (f_X8_in v2 (0 : Int32) (3 : Int32) M1) (fun y5 => (if y5 = 0 then some ((0 : Int32), M1) else (if v2 = 0 then gx_bI (f_X8_falling v1 v3 M1) (fun y16 M17 => some (y16, M17)) else (if v2 = (1 : Int32) then gx_bI (f_X8_running v1 v3 M1) (fun y13 M14 => some (y13, M14)) else (if v2 = (2 : Int32) then gx_bI (f_X8_thinking v1 v3 M1) (fun y10 M11 => some (y10, M11)) else gx_bI (f_X8_telling v1 v3 M1) (fun y7 M8 => some (y7, M8))))))))))
def f_X8_addOne (v1 : Int32) (v2 : Int32) (M : gx_Mem) : Option (Int32 × gx_Mem) := gx_gd (gx_in (M.1 57 1) 6) (gx_let (gx_sI M 58 (M.1 57 1).toNatClampNeg v1) (fun M1 => gx_gd (gx_in (M1.1 57 1) 6) (gx_let (gx_sI M1 59 (M1.1 57 1).toNatClampNeg v2) (fun M2 => gx_let (gx_sI M2 57 1 ((M2.1 57 1) + (1 : Int32))) (fun M3 => some (((M3.1 57 1) - (1 : Int32)), M3))))))
def f_X8_addStep (v1 : Int32) (v2 : Int32) (M : gx_Mem) : Option gx_Mem := gx_gd (gx_in ((130 : Int32) + (M.1 57 19)) 260) (gx_let (gx_sI M 69 ((130 : Int32) + (M.1 57 19)).toNatClampNeg (v1.toInt8.toInt32.toInt8.toInt32)) (fun M1 => gx_gd (gx_in ((130 : Int32) + (M1.1 57 19)) 260) (gx_let (gx_sI M1 70 ((130 : Int32) + (M1.1 57 19)).toNatClampNeg v2) (fun M2 => gx_let (gx_sI M2 57 19 ((M2.1 57 19) + (1 : Int32))) (fun M3 => some M3)))))
def f_X8_allWet_k4   (v1 : Int32) (ag4 : Int32 → Int32 → Option Int32) (v2 : Int32) (v3 : Int32) (M : gx_Mem) : Option Int32 := (if (4 : Int32) ≤ v3 then some v2 else gx_gd (gx_in (((4 : Int32) * v1) + v3) 24) (gx_let (v2 + (M.1 78 (((4 : Int32) * v1) + v3).toNatClampNeg)) (fun x1 => gx_let (v3 + (1 : Int32)) (fun x2 => ag4 x1 x2))))
def f_X8_allWet_l4   (v1 : Int32) (n : Nat) (v2 : Int32) (v3 : Int32) (M : gx_Mem) : Option Int32 := gx_loop (fun (ag4 : Int32 × Int32 → Option Int32) (s : Int32 × Int32) => f_X8_allWet_k4 v1 (fun v2 v3 => ag4 (v2, v3)) s.1 s.2 M) n (v2, v3)
def f_X8_allWet (v1 : Int32) (M : gx_Mem) : Option Int32 := f_X8_allWet_l4 v1 gx_fuel (0 : Int32) (0 : Int32) M
def f_X8_areHours (v0 : Int32) (M : gx_Mem) : Option Int32 := gx_bP (f_X8_in v0 (0 : Int32) (48 : Int32) M) (fun y2 => gx_gd (gx_isZ y2) (some y2))
def f_X8_isMark (v0 : Int32) (M : gx_Mem) : Option Int32 := gx_bP (f_X8_in v0 (0 : Int32) (3 : Int32) M) (fun y2 => gx_gd (gx_isZ y2) (some y2))
def f_X8_isOne (v1 : Int32) (M : gx_Mem) : Option Int32 := gx_bP (f_X8_in v1 (0 : Int32) ((M.1 57 1) - (1 : Int32)) M) (fun y2 => gx_gd (gx_isZ y2) (some y2))
def f_X8_areMark (v1 : Int32) (M : gx_Mem) : Option Int32 := (if v1 < 0 then some (0 : Int32) else gx_bP (f_X8_isOne (v1 / (10 : Int32)) M) (fun y2 => (if y2 = 0 then some (0 : Int32) else gx_bP (f_X8_isMark (gx_rem v1 (10 : Int32)) M) (fun y4 => (if y4 = 0 then some (0 : Int32) else some (1 : Int32))))))
def f_X8_at (v1 : Int32) (v2 : Int32) (M : gx_Mem) : Option Int32 := gx_gd (gx_in (((60 : Int32) * v1) + v2) 360) (some ((M.2 94 (((60 : Int32) * v1) + v2).toNatClampNeg).toInt32))
def f_X8_isFlat (v0 : Int32) (M : gx_Mem) : Option Int32 := gx_bP (f_X8_in v0 (0 : Int32) (23 : Int32) M) (fun y2 => gx_gd (gx_isZ y2) (some y2))
def f_X8_awning_b30   (v1 : Int32) (M : gx_Mem) : Option (Int32 × gx_Mem) := gx_let (gx_sI M 85 (2 : Int32).toNatClampNeg ((M.1 85 (2 : Int32).toNatClampNeg) + (1 : Int32))) (fun M4 => gx_gd (gx_in v1 24) (some ((M4.1 62 v1.toNatClampNeg), M4)))
def f_X8_awning (v1 : Int32) (M : gx_Mem) : Option (Int32 × gx_Mem) := gx_bP (f_X8_isFlat v1 M) (fun y2 => (if y2 = 0 then some ((-1 : Int32), M) else gx_gd (gx_in v1 24) ((if (9 : Int32) ≤ (M.1 62 v1.toNatClampNeg) then f_X8_awning_b30 v1 M else gx_gd (gx_in v1 24) (gx_gd (gx_in v1 24) (gx_let (gx_sI M 62 v1.toNatClampNeg ((M.1 62 v1.toNatClampNeg) + (1 : Int32))) (fun M3 => f_X8_awning_b30 v1 M3)))))))
def f_X8_awnings_b22  (ag4 : Int32 → Int32 → Option Int32) (v1 : Int32) (v2 : Int32) (M : gx_Mem) : Option Int32 := gx_let (v2 + (1 : Int32)) (fun x2 => ag4 v1 x2)
def f_X8_awnings_k4    (ag4 : Int32 → Int32 → Option Int32) (v1 : Int32) (v2 : Int32) (M : gx_Mem) : Option Int32 := (if (24 : Int32) ≤ v2 then some v1 else gx_gd (gx_in v2 24) ((if (M.1 62 v2.toNatClampNeg) ≤ 0 then f_X8_awnings_b22 ag4 v1 v2 M else gx_let (v1 + (1 : Int32)) (fun x1 => f_X8_awnings_b22 ag4 x1 v2 M))))
def f_X8_awnings_l4    (n : Nat) (v1 : Int32) (v2 : Int32) (M : gx_Mem) : Option Int32 := gx_loop (fun (ag4 : Int32 × Int32 → Option Int32) (s : Int32 × Int32) => f_X8_awnings_k4 (fun v1 v2 => ag4 (v1, v2)) s.1 s.2 M) n (v1, v2)
def f_X8_awnings (M : gx_Mem) : Option Int32 := f_X8_awnings_l4 gx_fuel (0 : Int32) (0 : Int32) M
def f_X8_back_k106    (ag106 : Int32 → gx_Mem → Option (Int32 × gx_Mem)) (v1 : Int32) (M : gx_Mem) : Option (Int32 × gx_Mem) := (if (5 : Int32) ≤ v1 then some ((M.1 85 (0 : Int32).toNatClampNeg), M) else gx_gd (gx_in v1 5) (gx_gd (gx_in v1 5) (gx_let (gx_sI M 85 v1.toNatClampNeg (M.1 89 v1.toNatClampNeg)) (fun M8 => gx_let (v1 + (1 : Int32)) (fun x9 => ag106 x9 M8)))))
def f_X8_back_l106    (n : Nat) (v1 : Int32) (M : gx_Mem) : Option (Int32 × gx_Mem) := gx_loop (fun (ag106 : Int32 × gx_Mem → Option (Int32 × gx_Mem)) (s : Int32 × gx_Mem) => f_X8_back_k106 (fun v1 M => ag106 (v1, M)) s.1 s.2) n (v1, M)
def f_X8_back_k80    (ag80 : Int32 → gx_Mem → Option (Int32 × gx_Mem)) (v1 : Int32) (M : gx_Mem) : Option (Int32 × gx_Mem) := (if (24 : Int32) ≤ v1 then f_X8_back_l106 gx_fuel (0 : Int32) M else gx_gd (gx_in v1 24) (gx_gd (gx_in v1 24) (gx_let (gx_sI M 62 v1.toNatClampNeg (M.1 88 v1.toNatClampNeg)) (fun M6 => gx_let (v1 + (1 : Int32)) (fun x7 => ag80 x7 M6)))))
def f_X8_back_l80    (n : Nat) (v1 : Int32) (M : gx_Mem) : Option (Int32 × gx_Mem) := gx_loop (fun (ag80 : Int32 × gx_Mem → Option (Int32 × gx_Mem)) (s : Int32 × gx_Mem) => f_X8_back_k80 (fun v1 M => ag80 (v1, M)) s.1 s.2) n (v1, M)
def f_X8_back_k50    (ag50 : Int32 → gx_Mem → Option (Int32 × gx_Mem)) (v1 : Int32) (M : gx_Mem) : Option (Int32 × gx_Mem) := (if ((4 : Int32) * (M.1 57 46)) ≤ v1 then f_X8_back_l80 gx_fuel (0 : Int32) M else gx_gd (gx_in v1 24) (gx_gd (gx_in v1 24) (gx_let (gx_sI M 61 v1.toNatClampNeg (M.1 87 v1.toNatClampNeg)) (fun M4 => gx_let (v1 + (1 : Int32)) (fun x5 => ag50 x5 M4)))))
def f_X8_back_l50    (n : Nat) (v1 : Int32) (M : gx_Mem) : Option (Int32 × gx_Mem) := gx_loop (fun (ag50 : Int32 × gx_Mem → Option (Int32 × gx_Mem)) (s : Int32 × gx_Mem) => f_X8_back_k50 (fun v1 M => ag50 (v1, M)) s.1 s.2) n (v1, M)
def f_X8_back_k22    (ag22 : Int32 → gx_Mem → Option (Int32 × gx_Mem)) (v1 : Int32) (M : gx_Mem) : Option (Int32 × gx_Mem) := (if (M.1 57 46) ≤ v1 then f_X8_back_l50 gx_fuel (0 : Int32) M else gx_gd (gx_in v1 6) (gx_gd (gx_in v1 6) (gx_let (gx_sI M 58 v1.toNatClampNeg (M.1 86 v1.toNatClampNeg)) (fun M2 => gx_let (v1 + (1 : Int32)) (fun x3 => ag22 x3 M2)))))
def f_X8_back_l22    (n : Nat) (v1 : Int32) (M : gx_Mem) : Option (Int32 × gx_Mem) := gx_loop (fun (ag22 : Int32 × gx_Mem → Option (Int32 × gx_Mem)) (s : Int32 × gx_Mem) => f_X8_back_k22 (fun v1 M => ag22 (v1, M)) s.1 s.2) n (v1, M)
def f_X8_back (M : gx_Mem) : Option (Int32 × gx_Mem) := (if (M.1 57 45) = 0 then some ((-5 : Int32), M) else gx_let (gx_sI M 63 (1 : Int32).toNatClampNeg (M.1 57 47)) (fun M1 => f_X8_back_l22 gx_fuel (0 : Int32) M1))
def f_X8_has (v0 : Int32) (v1 : Int32) (M : gx_Mem) : Option Int32 := (if ((gx_shr v0 v1) &&& (1 : Int32)) = (1 : Int32) then some (1 : Int32) else some (0 : Int32))
def f_X8_twoOf_b218   (v1 : Int32) (v2 : Int32) (M : gx_Mem) : Option Int32 := (if v1 = 0 then (if v2 = 0 then some (0 : Int32) else some (1 : Int32)) else some (1 : Int32))
def f_X8_twoOf (v0 : Int32) (v1 : Int32) (v2 : Int32) (M : gx_Mem) : Option Int32 := if v0 = (37 : Int32) then (if v2 = 0 then some (0 : Int32) else (if v2 = (-1 : Int32) then some (0 : Int32) else gx_gd (decide (¬ v2 = 0)) (some (gx_rem v1 v2)))) else (if v0 = (38 : Int32) then (if v1 = 0 then some (0 : Int32) else (if v2 = 0 then some (0 : Int32) else some (1 : Int32))) else (if v0 = (39 : Int32) then f_X8_twoOf_b218 v1 v2 M else (if v0 = (40 : Int32) then f_X8_twoOf_b218 v1 v2 M else (if v0 = (41 : Int32) then f_X8_twoOf_b218 v1 v2 M else (if v0 = (42 : Int32) then some (v1 * v2) else (if v0 = (43 : Int32) then some (v1 + v2) else (if v0 = (44 : Int32) then f_X8_twoOf_b218 v1 v2 M else (if v0 = (45 : Int32) then some (v1 - v2) else (if v0 = (46 : Int32) then f_X8_twoOf_b218 v1 v2 M else (if v0 = (47 : Int32) then (if v2 = 0 then some (0 : Int32) else (if v2 = (-1 : Int32) then some (-v1) else gx_gd (decide (¬ v2 = 0)) (some (v1 / v2)))) else (if v0 = (48 : Int32) then f_X8_twoOf_b218 v1 v2 M else (if v0 = (49 : Int32) then f_X8_twoOf_b218 v1 v2 M else (if v0 = (50 : Int32) then f_X8_twoOf_b218 v1 v2 M else (if v0 = (51 : Int32) then f_X8_twoOf_b218 v1 v2 M else (if v0 = (52 : Int32) then f_X8_twoOf_b218 v1 v2 M else (if v0 = (53 : Int32) then f_X8_twoOf_b218 v1 v2 M else (if v0 = (54 : Int32) then f_X8_twoOf_b218 v1 v2 M else (if v0 = (55 : Int32) then f_X8_twoOf_b218 v1 v2 M else (if v0 = (56 : Int32) then f_X8_twoOf_b218 v1 v2 M else (if v0 = (57 : Int32) then f_X8_twoOf_b218 v1 v2 M else (if v0 = (58 : Int32) then f_X8_twoOf_b218 v1 v2 M else (if v0 = (59 : Int32) then f_X8_twoOf_b218 v1 v2 M else (if v0 = (60 : Int32) then (if v2 ≤ v1 then some (0 : Int32) else some (1 : Int32)) else (if v0 = (61 : Int32) then (if v1 = v2 then some (1 : Int32) else some (0 : Int32)) else (if v0 = (62 : Int32) then (if v1 ≤ v2 then some (0 : Int32) else some (1 : Int32)) else (f_X8_twoOf_b218 v1 v2 M))))))))))))))))))))))))))
def f_X8_worked_b182  (ag12 : Int32 → Int32 → gx_Mem → Option (Int32 × gx_Mem)) (v1 : Int32) (v3 : Int32) (v4 : Int32) (v5 : Int32) (M : gx_Mem) : Option (Int32 × gx_Mem) := gx_let (v5 + (1 : Int32)) (fun x9 => ag12 v4 x9 M)
def f_X8_worked_b79  (ag12 : Int32 → Int32 → gx_Mem → Option (Int32 × gx_Mem)) (v1 : Int32) (v3 : Int32) (v4 : Int32) (v5 : Int32) (s1 : Int32) (s2 : Int32) (M : gx_Mem) : Option (Int32 × gx_Mem) := gx_gd (gx_in s1 130) (gx_let (gx_sI M 75 s1.toNatClampNeg s2) (fun M10 => gx_let (v4 + (1 : Int32)) (fun x11 => f_X8_worked_b182 ag12 v1 v3 x11 v5 M10)))
def f_X8_worked_b45  (ag12 : Int32 → Int32 → gx_Mem → Option (Int32 × gx_Mem)) (v1 : Int32) (v3 : Int32) (v4 : Int32) (v5 : Int32) (v6 : Int32) (M : gx_Mem) : Option (Int32 × gx_Mem) := (if v6 = (1 : Int32) then gx_gd (gx_in v5 260) (f_X8_worked_b79 ag12 v1 v3 v4 v5 v4 (M.1 70 v5.toNatClampNeg) M) else gx_gd (gx_in v5 260) (gx_gd (gx_in (M.1 70 v5.toNatClampNeg) 6) (f_X8_worked_b79 ag12 v1 v3 v4 v5 v4 (M.1 74 (M.1 70 v5.toNatClampNeg).toNatClampNeg) M)))
def f_X8_worked_b117  (ag12 : Int32 → Int32 → gx_Mem → Option (Int32 × gx_Mem)) (v1 : Int32) (v3 : Int32) (v4 : Int32) (v5 : Int32) (s1 : Int32) (s2 : Int32) (M : gx_Mem) : Option (Int32 × gx_Mem) := gx_gd (gx_in s1 130) (gx_let (gx_sI M 75 s1.toNatClampNeg s2) (fun M8 => f_X8_worked_b182 ag12 v1 v3 v4 v5 M8))
def f_X8_worked_k12   (v1 : Int32) (v3 : Int32) (ag12 : Int32 → Int32 → gx_Mem → Option (Int32 × gx_Mem)) (v4 : Int32) (v5 : Int32) (M : gx_Mem) : Option (Int32 × gx_Mem) := (if (((130 : Int32) * v1) + v3) ≤ v5 then some ((M.1 75 (0 : Int32).toNatClampNeg), M) else gx_gd (gx_in v5 260) (gx_let (M.1 69 v5.toNatClampNeg) (fun x2 => (if x2 = (1 : Int32) then f_X8_worked_b45 ag12 v1 v3 v4 v5 x2 M else (if x2 = (2 : Int32) then f_X8_worked_b45 ag12 v1 v3 v4 v5 x2 M else (if x2 = (3 : Int32) then gx_gd (gx_in (v4 - (1 : Int32)) 130) ((if (M.1 75 (v4 - (1 : Int32)).toNatClampNeg) = 0 then f_X8_worked_b117 ag12 v1 v3 v4 v5 (v4 - (1 : Int32)) (1 : Int32) M else f_X8_worked_b117 ag12 v1 v3 v4 v5 (v4 - (1 : Int32)) (0 : Int32) M)) else (if x2 = (4 : Int32) then gx_gd (gx_in (v4 - (1 : Int32)) 130) (gx_gd (gx_in (v4 - (1 : Int32)) 130) (gx_let (gx_sI M 75 (v4 - (1 : Int32)).toNatClampNeg (-(M.1 75 (v4 - (1 : Int32)).toNatClampNeg))) (fun M7 => f_X8_worked_b182 ag12 v1 v3 v4 v5 M7))) else gx_let (v4 + (-1 : Int32)) (fun x3 => gx_gd (gx_in (x3 - (1 : Int32)) 130) (gx_gd (gx_in x3 130) (gx_bP (f_X8_twoOf x2 (M.1 75 (x3 - (1 : Int32)).toNatClampNeg) (M.1 75 x3.toNatClampNeg) M) (fun y5 => gx_gd (gx_in (x3 - (1 : Int32)) 130) (gx_let (gx_sI M 75 (x3 - (1 : Int32)).toNatClampNeg y5) (fun M6 => f_X8_worked_b182 ag12 v1 v3 x3 v5 M6)))))))))))))
def f_X8_worked_l12   (v1 : Int32) (v3 : Int32) (n : Nat) (v4 : Int32) (v5 : Int32) (M : gx_Mem) : Option (Int32 × gx_Mem) := gx_loop (fun (ag12 : Int32 × Int32 × gx_Mem → Option (Int32 × gx_Mem)) (s : Int32 × Int32 × gx_Mem) => f_X8_worked_k12 v1 v3 (fun v4 v5 M => ag12 (v4, v5, M)) s.1 s.2.1 s.2.2) n (v4, v5, M)
def f_X8_worked (v1 : Int32) (v2 : Int32) (v3 : Int32) (M : gx_Mem) : Option (Int32 × gx_Mem) := gx_let (((130 : Int32) * v1) + v2) (fun x1 => f_X8_worked_l12 v1 v3 gx_fuel (0 : Int32) x1 M)
def f_X8_gives_b47   (v1 : Int32) (v3 : Int32) (M : gx_Mem) : Option (Int32 × gx_Mem) := gx_gd (gx_in v3 122) (gx_gd (gx_in v3 122) (gx_bI (f_X8_worked v1 (M.1 72 v3.toNatClampNeg) (M.1 73 v3.toNatClampNeg) M) (fun y8 M9 => some (y8, M9))))
def f_X8_gives_k7   (v1 : Int32) (ag7 : Int32 → Int32 → gx_Mem → Option (Int32 × gx_Mem)) (v2 : Int32) (v3 : Int32) (M : gx_Mem) : Option (Int32 × gx_Mem) := gx_gd (gx_in v1 2) ((if (((61 : Int32) * v1) + (M.1 71 v1.toNatClampNeg)) ≤ v3 then some ((0 : Int32), M) else gx_gd (gx_in v3 122) ((if (M.1 72 v3.toNatClampNeg) = v2 then f_X8_gives_b47 v1 v3 M else gx_gd (gx_in v3 122) (gx_bI (f_X8_worked v1 v2 (M.1 72 v3.toNatClampNeg) M) (fun y3 M4 => (if y3 = 0 then gx_gd (gx_in v3 122) (gx_let (M4.1 73 v3.toNatClampNeg) (fun x5 => gx_let (v3 + (1 : Int32)) (fun x6 => ag7 x5 x6 M4))) else f_X8_gives_b47 v1 v3 M4)))))))
def f_X8_gives_l7   (v1 : Int32) (n : Nat) (v2 : Int32) (v3 : Int32) (M : gx_Mem) : Option (Int32 × gx_Mem) := gx_loop (fun (ag7 : Int32 × Int32 × gx_Mem → Option (Int32 × gx_Mem)) (s : Int32 × Int32 × gx_Mem) => f_X8_gives_k7 v1 (fun v2 v3 M => ag7 (v2, v3, M)) s.1 s.2.1 s.2.2) n (v2, v3, M)
def f_X8_gives (v1 : Int32) (M : gx_Mem) : Option (Int32 × gx_Mem) := gx_let ((61 : Int32) * v1) (fun x1 => f_X8_gives_l7 v1 gx_fuel (0 : Int32) x1 M)
def f_X8_runOf_b89   (v1 : Int32) (v5 : Int32) (M : gx_Mem) : Option (Int32 × gx_Mem) := (if 0 ≤ v5 then (if v5 ≤ v1 then some (v5, M) else some (v1, M)) else some ((0 : Int32), M))
def f_X8_runOf (v1 : Int32) (v2 : Int32) (v3 : Int32) (v4 : Int32) (M : gx_Mem) : Option (Int32 × gx_Mem) := gx_gd (gx_in v2 24) (gx_let ((v1 - (M.1 77 v2.toNatClampNeg)) - ((M.1 63 (0 : Int32).toNatClampNeg) / (3 : Int32))) (fun x1 => (if (M.1 57 27) = 0 then f_X8_runOf_b89 v1 x1 M else gx_let (gx_sI M 74 (0 : Int32).toNatClampNeg v1) (fun M2 => gx_gd (gx_in v2 24) (gx_let (gx_sI M2 74 (1 : Int32).toNatClampNeg (M2.1 77 v2.toNatClampNeg)) (fun M3 => gx_let (gx_sI M3 74 (2 : Int32).toNatClampNeg (M3.1 63 (0 : Int32).toNatClampNeg)) (fun M4 => gx_let (gx_sI M4 74 (3 : Int32).toNatClampNeg (gx_rem v2 (8 : Int32))) (fun M5 => gx_let (gx_sI M5 74 (4 : Int32).toNatClampNeg v3) (fun M6 => gx_let (gx_sI M6 74 (5 : Int32).toNatClampNeg v4) (fun M7 => gx_bI (f_X8_gives (0 : Int32) M7) (fun y9 M10 => f_X8_runOf_b89 v1 y9 M10)))))))))))
def f_X8_flow_b104  (ag3 : Int32 → gx_Mem → Option gx_Mem) (ag52 : Int32 → Int32 → Int32 → gx_Mem → Option gx_Mem) (v1 : Int32) (v2 : Int32) (v3 : Int32) (v4 : Int32) (v5 : Int32) (M : gx_Mem) : Option gx_Mem := gx_let (v5 + (1 : Int32)) (fun x11 => ag52 v3 v4 x11 M)
def f_X8_flow_k52  (ag3 : Int32 → gx_Mem → Option gx_Mem) (v1 : Int32) (v2 : Int32) (ag52 : Int32 → Int32 → Int32 → gx_Mem → Option gx_Mem) (v3 : Int32) (v4 : Int32) (v5 : Int32) (M : gx_Mem) : Option gx_Mem := (if (M.1 57 1) ≤ v5 then gx_bI (f_X8_runOf v3 v2 v1 v4 M) (fun y3 M4 => gx_gd (gx_in (((24 : Int32) * v1) + v2) 96) (gx_let (gx_sI M4 81 (((24 : Int32) * v1) + v2).toNatClampNeg y3) (fun M5 => gx_let (v2 + (-1 : Int32)) (fun x6 => ag3 x6 M5)))) else gx_bP (f_X8_has (M.1 57 28) v5 M) (fun y8 => (if y8 = 0 then f_X8_flow_b104 ag3 ag52 v1 v2 v3 v4 v5 M else gx_gd (gx_in v5 6) ((if (M.1 76 v5.toNatClampNeg) = v2 then gx_gd (gx_in (((4 : Int32) * v5) + v1) 24) (gx_let (v3 + (M.1 60 (((4 : Int32) * v5) + v1).toNatClampNeg)) (fun x9 => gx_let (v4 + (1 : Int32)) (fun x10 => f_X8_flow_b104 ag3 ag52 v1 v2 x9 x10 v5 M))) else f_X8_flow_b104 ag3 ag52 v1 v2 v3 v4 v5 M)))))
def f_X8_flow_l52  (ag3 : Int32 → gx_Mem → Option gx_Mem) (v1 : Int32) (v2 : Int32) (n : Nat) (v3 : Int32) (v4 : Int32) (v5 : Int32) (M : gx_Mem) : Option gx_Mem := gx_loop (fun (ag52 : Int32 × Int32 × Int32 × gx_Mem → Option gx_Mem) (s : Int32 × Int32 × Int32 × gx_Mem) => f_X8_flow_k52 ag3 v1 v2 (fun v3 v4 v5 M => ag52 (v3, v4, v5, M)) s.1 s.2.1 s.2.2.1 s.2.2.2) n (v3, v4, v5, M)
def f_X8_flow_b33  (ag3 : Int32 → gx_Mem → Option gx_Mem) (v1 : Int32) (v2 : Int32) (s0 : Int32) (M : gx_Mem) : Option gx_Mem := gx_gd (gx_in (((24 : Int32) * v1) + v2) 96) (gx_let (gx_sI M 80 (((24 : Int32) * v1) + v2).toNatClampNeg s0) (fun M1 => f_X8_flow_l52 ag3 v1 v2 gx_fuel s0 (0 : Int32) (0 : Int32) M1))
def f_X8_flow_k3   (v1 : Int32) (ag3 : Int32 → gx_Mem → Option gx_Mem) (v2 : Int32) (M : gx_Mem) : Option gx_Mem := (if v2 < 0 then some M else (if (gx_rem v2 (8 : Int32)) = (7 : Int32) then f_X8_flow_b33 ag3 v1 v2 (0 : Int32) M else gx_gd (gx_in ((((24 : Int32) * v1) + v2) + (1 : Int32)) 96) (f_X8_flow_b33 ag3 v1 v2 (M.1 81 ((((24 : Int32) * v1) + v2) + (1 : Int32)).toNatClampNeg) M)))
def f_X8_flow_l3   (v1 : Int32) (n : Nat) (v2 : Int32) (M : gx_Mem) : Option gx_Mem := gx_loop (fun (ag3 : Int32 × gx_Mem → Option gx_Mem) (s : Int32 × gx_Mem) => f_X8_flow_k3 v1 (fun v2 M => ag3 (v2, M)) s.1 s.2) n (v2, M)
def f_X8_flow (v1 : Int32) (M : gx_Mem) : Option gx_Mem := f_X8_flow_l3 v1 gx_fuel (23 : Int32) M
def f_X8_outAt_b44  (ag5 : Int32 → Int32 → Option Int32) (v1 : Int32) (v2 : Int32) (v3 : Int32) (v4 : Int32) (M : gx_Mem) : Option Int32 := gx_let (v4 + (1 : Int32)) (fun x6 => ag5 v3 x6)
def f_X8_outAt_k5   (v1 : Int32) (v2 : Int32) (ag5 : Int32 → Int32 → Option Int32) (v3 : Int32) (v4 : Int32) (M : gx_Mem) : Option Int32 := (if (M.1 57 1) ≤ v4 then some v3 else gx_bP (f_X8_has v2 v4 M) (fun y2 => (if y2 = 0 then f_X8_outAt_b44 ag5 v1 v2 v3 v4 M else gx_gd (gx_in v4 6) (gx_bP (f_X8_has (M.1 59 v4.toNatClampNeg) v1 M) (fun y4 => (if y4 = 0 then f_X8_outAt_b44 ag5 v1 v2 v3 v4 M else gx_let (v3 ||| (gx_shl (1 : Int32) v4)) (fun x5 => f_X8_outAt_b44 ag5 v1 v2 x5 v4 M)))))))
def f_X8_outAt_l5   (v1 : Int32) (v2 : Int32) (n : Nat) (v3 : Int32) (v4 : Int32) (M : gx_Mem) : Option Int32 := gx_loop (fun (ag5 : Int32 × Int32 → Option Int32) (s : Int32 × Int32) => f_X8_outAt_k5 v1 v2 (fun v3 v4 => ag5 (v3, v4)) s.1 s.2 M) n (v3, v4)
def f_X8_outAt (v1 : Int32) (v2 : Int32) (M : gx_Mem) : Option Int32 := f_X8_outAt_l5 v1 v2 gx_fuel (0 : Int32) (0 : Int32) M
def f_X8_wetsBy (v1 : Int32) (v2 : Int32) (M : gx_Mem) : Option Int32 := gx_gd (gx_in v1 6) (gx_gd (gx_in (((24 : Int32) * v2) + (M.1 76 v1.toNatClampNeg)) 96) (gx_gd (gx_in v1 6) (gx_gd (gx_in (M.1 76 v1.toNatClampNeg) 24) (gx_let ((M.1 80 (((24 : Int32) * v2) + (M.1 76 v1.toNatClampNeg)).toNatClampNeg) - (M.1 77 (M.1 76 v1.toNatClampNeg).toNatClampNeg)) (fun x1 => (if 0 ≤ x1 then some x1 else some (0 : Int32)))))))
def f_X8_bestOf_o (q_bestOf : Int32 → Int32 → gx_Mem → Option (Int32 × gx_Mem)) (q_byOut : Int32 → Int32 → Int32 → gx_Mem → Option (Int32 × gx_Mem)) (v1 : Int32) (v2 : Int32) (M : gx_Mem) : Option (Int32 × gx_Mem) := (if v1 = (M.1 57 43) then some (v2, M) else gx_bI (q_byOut v1 v2 (0 : Int32) M) (fun y2 M3 => gx_bI (q_byOut v1 v2 (1 : Int32) M3) (fun y5 M6 => (if (gx_rem v1 (2 : Int32)) = 0 then (if y5 ≤ y2 then some (y2, M6) else some (y5, M6)) else (if y2 ≤ y5 then some (y2, M6) else some (y5, M6))))))
def f_X8_byOut_b127 (q_bestOf : Int32 → Int32 → gx_Mem → Option (Int32 × gx_Mem)) (q_byOut : Int32 → Int32 → Int32 → gx_Mem → Option (Int32 × gx_Mem))  (s1 : Int32) (s2 : Int32) (M : gx_Mem) : Option (Int32 × gx_Mem) := gx_bI (q_bestOf s1 s2 M) (fun y12 M13 => some (y12, M13))
def f_X8_byOut_b105 (q_bestOf : Int32 → Int32 → gx_Mem → Option (Int32 × gx_Mem)) (q_byOut : Int32 → Int32 → Int32 → gx_Mem → Option (Int32 × gx_Mem))  (v1 : Int32) (s0 : Int32) (M : gx_Mem) : Option (Int32 × gx_Mem) := (if s0 ≤ (9999 : Int32) then f_X8_byOut_b127 q_bestOf q_byOut (v1 + (1 : Int32)) s0 M else f_X8_byOut_b127 q_bestOf q_byOut (v1 + (1 : Int32)) (9999 : Int32) M)
def f_X8_byOut_b62 (q_bestOf : Int32 → Int32 → gx_Mem → Option (Int32 × gx_Mem)) (q_byOut : Int32 → Int32 → Int32 → gx_Mem → Option (Int32 × gx_Mem))  (v1 : Int32) (v2 : Int32) (s1 : Int32) (M : gx_Mem) : Option (Int32 × gx_Mem) := gx_let (gx_sI M 57 28 s1) (fun M4 => gx_bP (f_X8_flow (M4.1 57 42) M4) (fun M6 => gx_bP (f_X8_has (M6.1 57 28) (M6.1 57 40) M6) (fun y8 => (if y8 = 0 then f_X8_byOut_b105 q_bestOf q_byOut v1 v2 M6 else gx_bP (f_X8_wetsBy (M6.1 57 40) (M6.1 57 42) M6) (fun y10 => f_X8_byOut_b105 q_bestOf q_byOut v1 (v2 + y10) M6)))))
def f_X8_byOut_b17 (q_bestOf : Int32 → Int32 → gx_Mem → Option (Int32 × gx_Mem)) (q_byOut : Int32 → Int32 → Int32 → gx_Mem → Option (Int32 × gx_Mem))  (v1 : Int32) (v2 : Int32) (v3 : Int32) (s0 : Int32) (M : gx_Mem) : Option (Int32 × gx_Mem) := gx_bP (f_X8_outAt (gx_rem ((M.1 63 (1 : Int32).toNatClampNeg) + v1) (12 : Int32)) (63 : Int32) M) (fun y2 => gx_let (y2 &&& ((gx_shl (1 : Int32) s0) ^^^ (-1 : Int32))) (fun x3 => (if v3 = 0 then f_X8_byOut_b62 q_bestOf q_byOut v1 v2 x3 M else f_X8_byOut_b62 q_bestOf q_byOut v1 v2 (x3 ||| (gx_shl (1 : Int32) s0)) M)))
def f_X8_byOut_o (q_bestOf : Int32 → Int32 → gx_Mem → Option (Int32 × gx_Mem)) (q_byOut : Int32 → Int32 → Int32 → gx_Mem → Option (Int32 × gx_Mem)) (v1 : Int32) (v2 : Int32) (v3 : Int32) (M : gx_Mem) : Option (Int32 × gx_Mem) := (if (gx_rem v1 (2 : Int32)) = 0 then f_X8_byOut_b17 q_bestOf q_byOut v1 v2 v3 (M.1 57 40) M else f_X8_byOut_b17 q_bestOf q_byOut v1 v2 v3 (M.1 57 41) M)
def f_bestOf_byOut_g : Nat → (Int32 → Int32 → gx_Mem → Option (Int32 × gx_Mem)) × (Int32 → Int32 → Int32 → gx_Mem → Option (Int32 × gx_Mem))
  | 0 => ((fun _ _ _ => none), (fun _ _ _ _ => none))
  | d + 1 => (fun q : (Int32 → Int32 → gx_Mem → Option (Int32 × gx_Mem)) × (Int32 → Int32 → Int32 → gx_Mem → Option (Int32 × gx_Mem)) => (f_X8_bestOf_o q.1 q.2, f_X8_byOut_o q.1 q.2)) (f_bestOf_byOut_g d)
def f_X8_bestOf (d : Nat) : Int32 → Int32 → gx_Mem → Option (Int32 × gx_Mem) := (f_bestOf_byOut_g d).1
def f_X8_byOut (d : Nat) : Int32 → Int32 → Int32 → gx_Mem → Option (Int32 × gx_Mem) := (f_bestOf_byOut_g d).2
def f_X8_bitsOf_k4    (ag4 : Int32 → Int32 → Option Int32) (v1 : Int32) (v2 : Int32) (M : gx_Mem) : Option Int32 := (if v2 = 0 then some v1 else gx_let (v1 + (1 : Int32)) (fun x1 => gx_let (v2 &&& (v2 - (1 : Int32))) (fun x2 => ag4 x1 x2)))
def f_X8_bitsOf_l4    (n : Nat) (v1 : Int32) (v2 : Int32) (M : gx_Mem) : Option Int32 := gx_loop (fun (ag4 : Int32 × Int32 → Option Int32) (s : Int32 × Int32) => f_X8_bitsOf_k4 (fun v1 v2 => ag4 (v1, v2)) s.1 s.2 M) n (v1, v2)
def f_X8_bitsOf (v0 : Int32) (M : gx_Mem) : Option Int32 := f_X8_bitsOf_l4 gx_fuel (0 : Int32) v0 M
def f_X8_body (v1 : Int32) (M : gx_Mem) : Option (Int32 × gx_Mem) := gx_bP (f_X8_in v1 (0 : Int32) (7 : Int32) M) (fun y2 => (if y2 = 0 then some ((-1 : Int32), M) else (if (M.1 57 52) = (50 : Int32) then some ((-3 : Int32), M) else gx_gd (gx_in (M.1 57 52) 50) (gx_let (gx_sI M 90 (M.1 57 52).toNatClampNeg v1) (fun M3 => gx_let (gx_sI M3 57 52 ((M3.1 57 52) + (1 : Int32))) (fun M4 => some (((M4.1 57 52) - (1 : Int32)), M4)))))))
def f_X8_look (M : gx_Mem) : Option Int32 := (if (M.1 57 15) ≤ (M.1 57 16) then some (-1 : Int32) else gx_gd (gx_in (M.1 57 16) 120) (some (M.1 68 (M.1 57 16).toNatClampNeg)))
def f_X8_wrong (M : gx_Mem) : Option gx_Mem := (if 0 ≤ (M.1 57 17) then some M else gx_let (gx_sI M 57 17 (M.1 57 16)) (fun M1 => some M1))
def f_X8_figure_b74   (v1 : Int32) (M : gx_Mem) : Option gx_Mem := gx_bP (f_X8_addStep (1 : Int32) v1 M) (fun M15 => some M15)
def f_X8_figure_b70   (v1 : Int32) (M : gx_Mem) : Option gx_Mem := gx_bP (f_X8_wrong M) (fun M17 => f_X8_figure_b74 v1 M17)
def f_X8_figure_b52   (v1 : Int32) (v2 : Int32) (M : gx_Mem) : Option gx_Mem := (if v2 = 0 then f_X8_figure_b70 v1 M else gx_bP (f_X8_look M) (fun y11 => gx_bP (f_X8_in y11 (48 : Int32) (57 : Int32) M) (fun y13 => (if y13 = 0 then f_X8_figure_b74 v1 M else f_X8_figure_b70 v1 M))))
def f_X8_figure_k4    (ag4 : Int32 → Int32 → gx_Mem → Option gx_Mem) (v1 : Int32) (v2 : Int32) (M : gx_Mem) : Option gx_Mem := (if (4 : Int32) ≤ v2 then f_X8_figure_b52 v1 v2 M else gx_bP (f_X8_look M) (fun y2 => gx_bP (f_X8_in y2 (48 : Int32) (57 : Int32) M) (fun y4 => (if y4 = 0 then f_X8_figure_b52 v1 v2 M else gx_bP (f_X8_look M) (fun y6 => gx_let ((((10 : Int32) * v1) + y6) - (48 : Int32)) (fun x7 => gx_let (v2 + (1 : Int32)) (fun x8 => gx_let (gx_sI M 57 16 ((M.1 57 16) + (1 : Int32))) (fun M9 => ag4 x7 x8 M9))))))))
def f_X8_figure_l4    (n : Nat) (v1 : Int32) (v2 : Int32) (M : gx_Mem) : Option gx_Mem := gx_loop (fun (ag4 : Int32 × Int32 × gx_Mem → Option gx_Mem) (s : Int32 × Int32 × gx_Mem) => f_X8_figure_k4 (fun v1 v2 M => ag4 (v1, v2, M)) s.1 s.2.1 s.2.2) n (v1, v2, M)
def f_X8_figure (M : gx_Mem) : Option gx_Mem := f_X8_figure_l4 gx_fuel (0 : Int32) (0 : Int32) M
def f_X8_nameOf (v0 : Int32) (M : gx_Mem) : Option Int32 := if v0 = (97 : Int32) then some (0 : Int32) else (if v0 = (102 : Int32) then some (3 : Int32) else (if v0 = (105 : Int32) then some (2 : Int32) else (if v0 = (109 : Int32) then some (4 : Int32) else (if v0 = (110 : Int32) then some (5 : Int32) else (if v0 = (119 : Int32) then some (1 : Int32) else (some (-1 : Int32)))))))
def f_X8_opens (M : gx_Mem) : Option (Int32 × gx_Mem) := (if (M.1 57 18) = (6 : Int32) then gx_bP (f_X8_wrong M) (fun M4 => some ((0 : Int32), M4)) else gx_let (gx_sI M 57 18 ((M.1 57 18) + (1 : Int32))) (fun M1 => gx_let (gx_sI M1 57 16 ((M1.1 57 16) + (1 : Int32))) (fun M2 => some ((1 : Int32), M2))))
def f_X8_both_k4 (q_both : gx_Mem → Option gx_Mem) (q_compared : gx_Mem → Option gx_Mem) (q_either : gx_Mem → Option gx_Mem) (q_operand : gx_Mem → Option gx_Mem) (q_product : gx_Mem → Option gx_Mem) (q_sum : gx_Mem → Option gx_Mem)   (ag4 : gx_Mem → Option gx_Mem)  (M : gx_Mem) : Option gx_Mem := (if 0 ≤ (M.1 57 17) then some M else gx_bP (f_X8_look M) (fun y4 => (if y4 = (38 : Int32) then gx_let (gx_sI M 57 16 ((M.1 57 16) + (1 : Int32))) (fun M5 => gx_bP (q_compared M5) (fun M7 => gx_bP (f_X8_addStep (38 : Int32) (0 : Int32) M7) (fun M9 => ag4 M9))) else some M)))
def f_X8_both_l4 (q_both : gx_Mem → Option gx_Mem) (q_compared : gx_Mem → Option gx_Mem) (q_either : gx_Mem → Option gx_Mem) (q_operand : gx_Mem → Option gx_Mem) (q_product : gx_Mem → Option gx_Mem) (q_sum : gx_Mem → Option gx_Mem)   (n : Nat)  (M : gx_Mem) : Option gx_Mem := gx_loop (fun (ag4 : gx_Mem → Option gx_Mem) (s : gx_Mem) => f_X8_both_k4 q_both q_compared q_either q_operand q_product q_sum (fun M => ag4 (M)) s) n (M)
def f_X8_both_o (q_both : gx_Mem → Option gx_Mem) (q_compared : gx_Mem → Option gx_Mem) (q_either : gx_Mem → Option gx_Mem) (q_operand : gx_Mem → Option gx_Mem) (q_product : gx_Mem → Option gx_Mem) (q_sum : gx_Mem → Option gx_Mem) (M : gx_Mem) : Option gx_Mem := gx_bP (q_compared M) (fun M2 => f_X8_both_l4 q_both q_compared q_either q_operand q_product q_sum gx_fuel M2)
def f_X8_compared_b35 (q_both : gx_Mem → Option gx_Mem) (q_compared : gx_Mem → Option gx_Mem) (q_either : gx_Mem → Option gx_Mem) (q_operand : gx_Mem → Option gx_Mem) (q_product : gx_Mem → Option gx_Mem) (q_sum : gx_Mem → Option gx_Mem)  (v1 : Int32) (M : gx_Mem) : Option gx_Mem := gx_let (gx_sI M 57 16 ((M.1 57 16) + (1 : Int32))) (fun M5 => gx_bP (q_sum M5) (fun M7 => gx_bP (f_X8_addStep v1 (0 : Int32) M7) (fun M9 => some M9)))
def f_X8_compared_o (q_both : gx_Mem → Option gx_Mem) (q_compared : gx_Mem → Option gx_Mem) (q_either : gx_Mem → Option gx_Mem) (q_operand : gx_Mem → Option gx_Mem) (q_product : gx_Mem → Option gx_Mem) (q_sum : gx_Mem → Option gx_Mem) (M : gx_Mem) : Option gx_Mem := gx_bP (q_sum M) (fun M2 => gx_bP (f_X8_look M2) (fun y4 => (if 0 ≤ (M2.1 57 17) then some M2 else (if y4 = (60 : Int32) then f_X8_compared_b35 q_both q_compared q_either q_operand q_product q_sum y4 M2 else (if y4 = (61 : Int32) then f_X8_compared_b35 q_both q_compared q_either q_operand q_product q_sum y4 M2 else (if y4 = (62 : Int32) then f_X8_compared_b35 q_both q_compared q_either q_operand q_product q_sum y4 M2 else some M2))))))
def f_X8_either_k4 (q_both : gx_Mem → Option gx_Mem) (q_compared : gx_Mem → Option gx_Mem) (q_either : gx_Mem → Option gx_Mem) (q_operand : gx_Mem → Option gx_Mem) (q_product : gx_Mem → Option gx_Mem) (q_sum : gx_Mem → Option gx_Mem)   (ag4 : gx_Mem → Option gx_Mem)  (M : gx_Mem) : Option gx_Mem := (if 0 ≤ (M.1 57 17) then some M else gx_bP (f_X8_look M) (fun y4 => (if y4 = (124 : Int32) then gx_let (gx_sI M 57 16 ((M.1 57 16) + (1 : Int32))) (fun M5 => gx_bP (q_both M5) (fun M7 => gx_bP (f_X8_addStep (124 : Int32) (0 : Int32) M7) (fun M9 => ag4 M9))) else some M)))
def f_X8_either_l4 (q_both : gx_Mem → Option gx_Mem) (q_compared : gx_Mem → Option gx_Mem) (q_either : gx_Mem → Option gx_Mem) (q_operand : gx_Mem → Option gx_Mem) (q_product : gx_Mem → Option gx_Mem) (q_sum : gx_Mem → Option gx_Mem)   (n : Nat)  (M : gx_Mem) : Option gx_Mem := gx_loop (fun (ag4 : gx_Mem → Option gx_Mem) (s : gx_Mem) => f_X8_either_k4 q_both q_compared q_either q_operand q_product q_sum (fun M => ag4 (M)) s) n (M)
def f_X8_either_o (q_both : gx_Mem → Option gx_Mem) (q_compared : gx_Mem → Option gx_Mem) (q_either : gx_Mem → Option gx_Mem) (q_operand : gx_Mem → Option gx_Mem) (q_product : gx_Mem → Option gx_Mem) (q_sum : gx_Mem → Option gx_Mem) (M : gx_Mem) : Option gx_Mem := gx_bP (q_both M) (fun M2 => f_X8_either_l4 q_both q_compared q_either q_operand q_product q_sum gx_fuel M2)
def f_X8_operand_b80 (q_both : gx_Mem → Option gx_Mem) (q_compared : gx_Mem → Option gx_Mem) (q_either : gx_Mem → Option gx_Mem) (q_operand : gx_Mem → Option gx_Mem) (q_product : gx_Mem → Option gx_Mem) (q_sum : gx_Mem → Option gx_Mem)  (s1 : Int32) (M : gx_Mem) : Option gx_Mem := gx_bP (f_X8_addStep s1 (0 : Int32) M) (fun M30 => some M30)
def f_X8_operand_b46 (q_both : gx_Mem → Option gx_Mem) (q_compared : gx_Mem → Option gx_Mem) (q_either : gx_Mem → Option gx_Mem) (q_operand : gx_Mem → Option gx_Mem) (q_product : gx_Mem → Option gx_Mem) (q_sum : gx_Mem → Option gx_Mem)  (v1 : Int32) (M : gx_Mem) : Option gx_Mem := gx_bI (f_X8_opens M) (fun y24 M25 => (if y24 = 0 then some M25 else gx_bP (q_operand M25) (fun M27 => gx_let (gx_sI M27 57 18 ((M27.1 57 18) - (1 : Int32))) (fun M28 => (if v1 = (33 : Int32) then f_X8_operand_b80 q_both q_compared q_either q_operand q_product q_sum (3 : Int32) M28 else f_X8_operand_b80 q_both q_compared q_either q_operand q_product q_sum (4 : Int32) M28)))))
def f_X8_operand_o (q_both : gx_Mem → Option gx_Mem) (q_compared : gx_Mem → Option gx_Mem) (q_either : gx_Mem → Option gx_Mem) (q_operand : gx_Mem → Option gx_Mem) (q_product : gx_Mem → Option gx_Mem) (q_sum : gx_Mem → Option gx_Mem) (M : gx_Mem) : Option gx_Mem := gx_bP (f_X8_look M) (fun y2 => gx_bP (f_X8_nameOf y2 M) (fun y4 => (if y4 < 0 then (if y2 = (33 : Int32) then f_X8_operand_b46 q_both q_compared q_either q_operand q_product q_sum y2 M else (if y2 = (45 : Int32) then f_X8_operand_b46 q_both q_compared q_either q_operand q_product q_sum y2 M else (if y2 = (40 : Int32) then gx_bI (f_X8_opens M) (fun y8 M9 => (if y8 = 0 then some M9 else gx_bP (q_either M9) (fun M11 => (if (M11.1 57 17) < 0 then gx_bP (f_X8_look M11) (fun y13 => (if y13 = (41 : Int32) then gx_let (gx_sI M11 57 16 ((M11.1 57 16) + (1 : Int32))) (fun M14 => gx_let (gx_sI M14 57 18 ((M14.1 57 18) - (1 : Int32))) (fun M15 => some M15)) else gx_bP (f_X8_wrong M11) (fun M17 => some M17))) else some M11)))) else gx_bP (f_X8_figure M) (fun M6 => some M6)))) else gx_bP (f_X8_nameOf y2 M) (fun y19 => gx_bP (f_X8_addStep (2 : Int32) y19 M) (fun M21 => gx_let (gx_sI M21 57 16 ((M21.1 57 16) + (1 : Int32))) (fun M22 => some M22))))))
def f_X8_product_b38 (q_both : gx_Mem → Option gx_Mem) (q_compared : gx_Mem → Option gx_Mem) (q_either : gx_Mem → Option gx_Mem) (q_operand : gx_Mem → Option gx_Mem) (q_product : gx_Mem → Option gx_Mem) (q_sum : gx_Mem → Option gx_Mem) (ag4 : gx_Mem → Option gx_Mem)  (M : gx_Mem) : Option gx_Mem := gx_bP (f_X8_look M) (fun y10 => gx_let (gx_sI M 57 16 ((M.1 57 16) + (1 : Int32))) (fun M11 => gx_bP (q_operand M11) (fun M13 => gx_bP (f_X8_addStep y10 (0 : Int32) M13) (fun M15 => ag4 M15))))
def f_X8_product_k4 (q_both : gx_Mem → Option gx_Mem) (q_compared : gx_Mem → Option gx_Mem) (q_either : gx_Mem → Option gx_Mem) (q_operand : gx_Mem → Option gx_Mem) (q_product : gx_Mem → Option gx_Mem) (q_sum : gx_Mem → Option gx_Mem)   (ag4 : gx_Mem → Option gx_Mem)  (M : gx_Mem) : Option gx_Mem := (if 0 ≤ (M.1 57 17) then some M else gx_bP (f_X8_look M) (fun y4 => (if y4 = (42 : Int32) then f_X8_product_b38 q_both q_compared q_either q_operand q_product q_sum ag4 M else gx_bP (f_X8_look M) (fun y6 => (if y6 = (47 : Int32) then f_X8_product_b38 q_both q_compared q_either q_operand q_product q_sum ag4 M else gx_bP (f_X8_look M) (fun y8 => (if y8 = (37 : Int32) then f_X8_product_b38 q_both q_compared q_either q_operand q_product q_sum ag4 M else some M)))))))
def f_X8_product_l4 (q_both : gx_Mem → Option gx_Mem) (q_compared : gx_Mem → Option gx_Mem) (q_either : gx_Mem → Option gx_Mem) (q_operand : gx_Mem → Option gx_Mem) (q_product : gx_Mem → Option gx_Mem) (q_sum : gx_Mem → Option gx_Mem)   (n : Nat)  (M : gx_Mem) : Option gx_Mem := gx_loop (fun (ag4 : gx_Mem → Option gx_Mem) (s : gx_Mem) => f_X8_product_k4 q_both q_compared q_either q_operand q_product q_sum (fun M => ag4 (M)) s) n (M)
def f_X8_product_o (q_both : gx_Mem → Option gx_Mem) (q_compared : gx_Mem → Option gx_Mem) (q_either : gx_Mem → Option gx_Mem) (q_operand : gx_Mem → Option gx_Mem) (q_product : gx_Mem → Option gx_Mem) (q_sum : gx_Mem → Option gx_Mem) (M : gx_Mem) : Option gx_Mem := gx_bP (q_operand M) (fun M2 => f_X8_product_l4 q_both q_compared q_either q_operand q_product q_sum gx_fuel M2)
def f_X8_sum_b29 (q_both : gx_Mem → Option gx_Mem) (q_compared : gx_Mem → Option gx_Mem) (q_either : gx_Mem → Option gx_Mem) (q_operand : gx_Mem → Option gx_Mem) (q_product : gx_Mem → Option gx_Mem) (q_sum : gx_Mem → Option gx_Mem) (ag4 : gx_Mem → Option gx_Mem)  (M : gx_Mem) : Option gx_Mem := gx_bP (f_X8_look M) (fun y8 => gx_let (gx_sI M 57 16 ((M.1 57 16) + (1 : Int32))) (fun M9 => gx_bP (q_product M9) (fun M11 => gx_bP (f_X8_addStep y8 (0 : Int32) M11) (fun M13 => ag4 M13))))
def f_X8_sum_k4 (q_both : gx_Mem → Option gx_Mem) (q_compared : gx_Mem → Option gx_Mem) (q_either : gx_Mem → Option gx_Mem) (q_operand : gx_Mem → Option gx_Mem) (q_product : gx_Mem → Option gx_Mem) (q_sum : gx_Mem → Option gx_Mem)   (ag4 : gx_Mem → Option gx_Mem)  (M : gx_Mem) : Option gx_Mem := (if 0 ≤ (M.1 57 17) then some M else gx_bP (f_X8_look M) (fun y4 => (if y4 = (43 : Int32) then f_X8_sum_b29 q_both q_compared q_either q_operand q_product q_sum ag4 M else gx_bP (f_X8_look M) (fun y6 => (if y6 = (45 : Int32) then f_X8_sum_b29 q_both q_compared q_either q_operand q_product q_sum ag4 M else some M)))))
def f_X8_sum_l4 (q_both : gx_Mem → Option gx_Mem) (q_compared : gx_Mem → Option gx_Mem) (q_either : gx_Mem → Option gx_Mem) (q_operand : gx_Mem → Option gx_Mem) (q_product : gx_Mem → Option gx_Mem) (q_sum : gx_Mem → Option gx_Mem)   (n : Nat)  (M : gx_Mem) : Option gx_Mem := gx_loop (fun (ag4 : gx_Mem → Option gx_Mem) (s : gx_Mem) => f_X8_sum_k4 q_both q_compared q_either q_operand q_product q_sum (fun M => ag4 (M)) s) n (M)
def f_X8_sum_o (q_both : gx_Mem → Option gx_Mem) (q_compared : gx_Mem → Option gx_Mem) (q_either : gx_Mem → Option gx_Mem) (q_operand : gx_Mem → Option gx_Mem) (q_product : gx_Mem → Option gx_Mem) (q_sum : gx_Mem → Option gx_Mem) (M : gx_Mem) : Option gx_Mem := gx_bP (q_product M) (fun M2 => f_X8_sum_l4 q_both q_compared q_either q_operand q_product q_sum gx_fuel M2)
def f_both_compared_either_operand_product_sum_g : Nat → (gx_Mem → Option gx_Mem) × (gx_Mem → Option gx_Mem) × (gx_Mem → Option gx_Mem) × (gx_Mem → Option gx_Mem) × (gx_Mem → Option gx_Mem) × (gx_Mem → Option gx_Mem)
  | 0 => ((fun _ => none), (fun _ => none), (fun _ => none), (fun _ => none), (fun _ => none), (fun _ => none))
  | d + 1 => (fun q : (gx_Mem → Option gx_Mem) × (gx_Mem → Option gx_Mem) × (gx_Mem → Option gx_Mem) × (gx_Mem → Option gx_Mem) × (gx_Mem → Option gx_Mem) × (gx_Mem → Option gx_Mem) => (f_X8_both_o q.1 q.2.1 q.2.2.1 q.2.2.2.1 q.2.2.2.2.1 q.2.2.2.2.2, f_X8_compared_o q.1 q.2.1 q.2.2.1 q.2.2.2.1 q.2.2.2.2.1 q.2.2.2.2.2, f_X8_either_o q.1 q.2.1 q.2.2.1 q.2.2.2.1 q.2.2.2.2.1 q.2.2.2.2.2, f_X8_operand_o q.1 q.2.1 q.2.2.1 q.2.2.2.1 q.2.2.2.2.1 q.2.2.2.2.2, f_X8_product_o q.1 q.2.1 q.2.2.1 q.2.2.2.1 q.2.2.2.2.1 q.2.2.2.2.2, f_X8_sum_o q.1 q.2.1 q.2.2.1 q.2.2.2.1 q.2.2.2.2.1 q.2.2.2.2.2)) (f_both_compared_either_operand_product_sum_g d)
def f_X8_both (d : Nat) : gx_Mem → Option gx_Mem := (f_both_compared_either_operand_product_sum_g d).1
def f_X8_compared (d : Nat) : gx_Mem → Option gx_Mem := (f_both_compared_either_operand_product_sum_g d).2.1
def f_X8_either (d : Nat) : gx_Mem → Option gx_Mem := (f_both_compared_either_operand_product_sum_g d).2.2.1
def f_X8_operand (d : Nat) : gx_Mem → Option gx_Mem := (f_both_compared_either_operand_product_sum_g d).2.2.2.1
def f_X8_product (d : Nat) : gx_Mem → Option gx_Mem := (f_both_compared_either_operand_product_sum_g d).2.2.2.2.1
def f_X8_sum (d : Nat) : gx_Mem → Option gx_Mem := (f_both_compared_either_operand_product_sum_g d).2.2.2.2.2
def f_X8_layNow_k68    (ag68 : Int32 → gx_Mem → Option gx_Mem) (v1 : Int32) (M : gx_Mem) : Option gx_Mem := (if (4 : Int32) ≤ v1 then gx_let (gx_sI M 57 29 (M.1 63 (1 : Int32).toNatClampNeg)) (fun M6 => some M6) else gx_gd (gx_in v1 4) (gx_let (gx_sI M 79 v1.toNatClampNeg (0 : Int32)) (fun M7 => gx_let (v1 + (1 : Int32)) (fun x8 => ag68 x8 M7))))
def f_X8_layNow_l68    (n : Nat) (v1 : Int32) (M : gx_Mem) : Option gx_Mem := gx_loop (fun (ag68 : Int32 × gx_Mem → Option gx_Mem) (s : Int32 × gx_Mem) => f_X8_layNow_k68 (fun v1 M => ag68 (v1, M)) s.1 s.2) n (v1, M)
def f_X8_layNow_k30    (ag30 : Int32 → gx_Mem → Option gx_Mem) (v1 : Int32) (M : gx_Mem) : Option gx_Mem := (if (24 : Int32) ≤ v1 then f_X8_layNow_l68 gx_fuel (0 : Int32) M else gx_gd (gx_in v1 24) (gx_gd (gx_in v1 24) (gx_let (gx_sI M 77 v1.toNatClampNeg (M.1 62 v1.toNatClampNeg)) (fun M3 => gx_gd (gx_in v1 24) (gx_gd (gx_in v1 24) (gx_let (gx_sI M3 78 v1.toNatClampNeg (M3.1 61 v1.toNatClampNeg)) (fun M4 => gx_let (v1 + (1 : Int32)) (fun x5 => ag30 x5 M4))))))))
def f_X8_layNow_l30    (n : Nat) (v1 : Int32) (M : gx_Mem) : Option gx_Mem := gx_loop (fun (ag30 : Int32 × gx_Mem → Option gx_Mem) (s : Int32 × gx_Mem) => f_X8_layNow_k30 (fun v1 M => ag30 (v1, M)) s.1 s.2) n (v1, M)
def f_X8_layNow_k2    (ag2 : Int32 → gx_Mem → Option gx_Mem) (v1 : Int32) (M : gx_Mem) : Option gx_Mem := (if (M.1 57 1) ≤ v1 then f_X8_layNow_l30 gx_fuel (0 : Int32) M else gx_gd (gx_in v1 6) (gx_gd (gx_in v1 6) (gx_let (gx_sI M 76 v1.toNatClampNeg (M.1 58 v1.toNatClampNeg)) (fun M1 => gx_let (v1 + (1 : Int32)) (fun x2 => ag2 x2 M1)))))
def f_X8_layNow_l2    (n : Nat) (v1 : Int32) (M : gx_Mem) : Option gx_Mem := gx_loop (fun (ag2 : Int32 × gx_Mem → Option gx_Mem) (s : Int32 × gx_Mem) => f_X8_layNow_k2 (fun v1 M => ag2 (v1, M)) s.1 s.2) n (v1, M)
def f_X8_layNow (M : gx_Mem) : Option gx_Mem := f_X8_layNow_l2 gx_fuel (0 : Int32) M
def f_X8_byTurns_b214   (v4 : Int32) (s0 : Int32) (M : gx_Mem) : Option (Int32 × gx_Mem) := some ((s0 - v4), M)
def f_X8_byTurns_b127  (ag82 : Int32 → gx_Mem → Option (Int32 × gx_Mem)) (v2 : Int32) (v3 : Int32) (v4 : Int32) (M : gx_Mem) : Option (Int32 × gx_Mem) := gx_let (v4 + (1 : Int32)) (fun x23 => ag82 x23 M)
def f_X8_byTurns_k82   (v2 : Int32) (v3 : Int32) (ag82 : Int32 → gx_Mem → Option (Int32 × gx_Mem)) (v4 : Int32) (M : gx_Mem) : Option (Int32 × gx_Mem) := (if (4 : Int32) ≤ v4 then gx_let (gx_sI M 57 43 v2) (fun M12 => gx_bP (f_X8_layNow M12) (fun M14 => gx_gd (gx_in (((4 : Int32) * (M14.1 57 40)) + (M14.1 57 42)) 24) (gx_let (M14.1 61 (((4 : Int32) * (M14.1 57 40)) + (M14.1 57 42)).toNatClampNeg) (fun x15 => gx_bI (f_X8_byOut gx_dep (0 : Int32) x15 (0 : Int32) M14) (fun y17 M18 => gx_bI (f_X8_byOut gx_dep (0 : Int32) x15 (1 : Int32) M18) (fun y20 M21 => (if v3 = (1 : Int32) then (if y20 ≤ y17 then some ((0 : Int32), M21) else some ((1 : Int32), M21)) else (if y20 ≤ y17 then f_X8_byTurns_b214 x15 y17 M21 else f_X8_byTurns_b214 x15 y20 M21)))))))) else gx_gd (gx_in (((4 : Int32) * (M.1 57 41)) + v4) 24) (gx_gd (gx_in (((4 : Int32) * (M.1 57 41)) + (M.1 57 42)) 24) ((if (M.1 60 (((4 : Int32) * (M.1 57 41)) + v4).toNatClampNeg) ≤ (M.1 60 (((4 : Int32) * (M.1 57 41)) + (M.1 57 42)).toNatClampNeg) then f_X8_byTurns_b127 ag82 v2 v3 v4 M else gx_let (gx_sI M 57 42 v4) (fun M22 => f_X8_byTurns_b127 ag82 v2 v3 v4 M22)))))
def f_X8_byTurns_l82   (v2 : Int32) (v3 : Int32) (n : Nat) (v4 : Int32) (M : gx_Mem) : Option (Int32 × gx_Mem) := gx_loop (fun (ag82 : Int32 × gx_Mem → Option (Int32 × gx_Mem)) (s : Int32 × gx_Mem) => f_X8_byTurns_k82 v2 v3 (fun v4 M => ag82 (v4, M)) s.1 s.2) n (v4, M)
def f_X8_byTurns (v1 : Int32) (v2 : Int32) (v3 : Int32) (M : gx_Mem) : Option (Int32 × gx_Mem) := (if v1 < 0 then some ((-1 : Int32), M) else gx_bP (f_X8_isOne (v1 / (10 : Int32)) M) (fun y2 => (if y2 = 0 then some ((-1 : Int32), M) else gx_bP (f_X8_isOne (gx_rem v1 (10 : Int32)) M) (fun y4 => (if y4 = 0 then some ((-1 : Int32), M) else (if (v1 / (10 : Int32)) = (gx_rem v1 (10 : Int32)) then some ((-1 : Int32), M) else gx_bP (f_X8_in v2 (1 : Int32) (6 : Int32) M) (fun y6 => (if y6 = 0 then some ((-1 : Int32), M) else gx_bP (f_X8_in v3 (0 : Int32) (1 : Int32) M) (fun y8 => (if y8 = 0 then some ((-1 : Int32), M) else gx_let (gx_sI M 57 40 (v1 / (10 : Int32))) (fun M9 => gx_let (gx_sI M9 57 41 (gx_rem v1 (10 : Int32))) (fun M10 => gx_let (gx_sI M10 57 42 (0 : Int32)) (fun M11 => f_X8_byTurns_l82 v2 v3 gx_fuel (1 : Int32) M11)))))))))))))
def f_X8_toPorter_k4   (v1 : Int32) (ag4 : Int32 → Int32 → Option Int32) (v2 : Int32) (v3 : Int32) (M : gx_Mem) : Option Int32 := (if (3 : Int32) ≤ v3 then some v2 else gx_gd (gx_in (((24 : Int32) * v1) + ((8 : Int32) * v3)) 96) (gx_let (v2 + (M.1 81 (((24 : Int32) * v1) + ((8 : Int32) * v3)).toNatClampNeg)) (fun x1 => gx_let (v3 + (1 : Int32)) (fun x2 => ag4 x1 x2))))
def f_X8_toPorter_l4   (v1 : Int32) (n : Nat) (v2 : Int32) (v3 : Int32) (M : gx_Mem) : Option Int32 := gx_loop (fun (ag4 : Int32 × Int32 → Option Int32) (s : Int32 × Int32) => f_X8_toPorter_k4 v1 (fun v2 v3 => ag4 (v2, v3)) s.1 s.2 M) n (v2, v3)
def f_X8_toPorter (v1 : Int32) (M : gx_Mem) : Option Int32 := f_X8_toPorter_l4 v1 gx_fuel (0 : Int32) (0 : Int32) M
def f_X8_goMark_b85  (ag21 : Int32 → gx_Mem → Option gx_Mem) (v1 : Int32) (v2 : Int32) (M : gx_Mem) : Option gx_Mem := gx_let (v2 + (1 : Int32)) (fun x11 => ag21 x11 M)
def f_X8_goMark_b84  (ag21 : Int32 → gx_Mem → Option gx_Mem) (v1 : Int32) (v2 : Int32) (s1 : Int32) (s2 : Int32) (M : gx_Mem) : Option gx_Mem := gx_gd (gx_in s1 24) (gx_let (gx_sI M 78 s1.toNatClampNeg s2) (fun M12 => f_X8_goMark_b85 ag21 v1 v2 M12))
def f_X8_goMark_k21   (v1 : Int32) (ag21 : Int32 → gx_Mem → Option gx_Mem) (v2 : Int32) (M : gx_Mem) : Option gx_Mem := (if (M.1 57 1) ≤ v2 then some M else gx_bP (f_X8_has (M.1 57 28) v2 M) (fun y7 => (if y7 = 0 then f_X8_goMark_b85 ag21 v1 v2 M else gx_gd (gx_in (((4 : Int32) * v2) + v1) 24) (gx_bP (f_X8_wetsBy v2 v1 M) (fun y9 => gx_let ((M.1 78 (((4 : Int32) * v2) + v1).toNatClampNeg) + y9) (fun x10 => (if x10 ≤ (9999 : Int32) then f_X8_goMark_b84 ag21 v1 v2 (((4 : Int32) * v2) + v1) x10 M else f_X8_goMark_b84 ag21 v1 v2 (((4 : Int32) * v2) + v1) (9999 : Int32) M)))))))
def f_X8_goMark_l21   (v1 : Int32) (n : Nat) (v2 : Int32) (M : gx_Mem) : Option gx_Mem := gx_loop (fun (ag21 : Int32 × gx_Mem → Option gx_Mem) (s : Int32 × gx_Mem) => f_X8_goMark_k21 v1 (fun v2 M => ag21 (v2, M)) s.1 s.2) n (v2, M)
def f_X8_goMark (v1 : Int32) (M : gx_Mem) : Option gx_Mem := gx_bP (f_X8_flow v1 M) (fun M2 => gx_gd (gx_in v1 4) (gx_bP (f_X8_toPorter v1 M2) (fun y4 => gx_gd (gx_in v1 4) (gx_let (gx_sI M2 79 v1.toNatClampNeg ((M2.1 79 v1.toNatClampNeg) + y4)) (fun M5 => f_X8_goMark_l21 v1 gx_fuel (0 : Int32) M5)))))
def f_X8_goHours_k23  (ag2 : Int32 → gx_Mem → Option gx_Mem) (v1 : Int32) (v2 : Int32) (v3 : Int32) (ag23 : Int32 → gx_Mem → Option gx_Mem) (v4 : Int32) (M : gx_Mem) : Option gx_Mem := (if (4 : Int32) ≤ v4 then gx_let (gx_sI M 57 29 (gx_rem ((M.1 57 29) + (1 : Int32)) (12 : Int32))) (fun M4 => gx_let (v3 + (1 : Int32)) (fun x5 => ag2 x5 M4)) else gx_bP (f_X8_goMark v4 M) (fun M7 => gx_let (v4 + (1 : Int32)) (fun x8 => ag23 x8 M7)))
def f_X8_goHours_l23  (ag2 : Int32 → gx_Mem → Option gx_Mem) (v1 : Int32) (v2 : Int32) (v3 : Int32) (n : Nat) (v4 : Int32) (M : gx_Mem) : Option gx_Mem := gx_loop (fun (ag23 : Int32 × gx_Mem → Option gx_Mem) (s : Int32 × gx_Mem) => f_X8_goHours_k23 ag2 v1 v2 v3 (fun v4 M => ag23 (v4, M)) s.1 s.2) n (v4, M)
def f_X8_goHours_k2   (v1 : Int32) (v2 : Int32) (ag2 : Int32 → gx_Mem → Option gx_Mem) (v3 : Int32) (M : gx_Mem) : Option gx_Mem := (if v1 ≤ v3 then some M else gx_bP (f_X8_outAt (M.1 57 29) v2 M) (fun y2 => gx_let (gx_sI M 57 28 y2) (fun M3 => f_X8_goHours_l23 ag2 v1 v2 v3 gx_fuel (0 : Int32) M3)))
def f_X8_goHours_l2   (v1 : Int32) (v2 : Int32) (n : Nat) (v3 : Int32) (M : gx_Mem) : Option gx_Mem := gx_loop (fun (ag2 : Int32 × gx_Mem → Option gx_Mem) (s : Int32 × gx_Mem) => f_X8_goHours_k2 v1 v2 (fun v3 M => ag2 (v3, M)) s.1 s.2) n (v3, M)
def f_X8_goHours (v1 : Int32) (v2 : Int32) (M : gx_Mem) : Option gx_Mem := f_X8_goHours_l2 v1 v2 gx_fuel (0 : Int32) M
def f_X8_caught (v1 : Int32) (v2 : Int32) (M : gx_Mem) : Option (Int32 × gx_Mem) := gx_bP (f_X8_areHours v1 M) (fun y2 => (if y2 = 0 then some ((-1 : Int32), M) else gx_bP (f_X8_isMark v2 M) (fun y4 => (if y4 = 0 then some ((-1 : Int32), M) else gx_bP (f_X8_layNow M) (fun M6 => gx_bP (f_X8_goHours v1 (63 : Int32) M6) (fun M8 => gx_gd (gx_in v2 4) (some ((M8.1 79 v2.toNatClampNeg), M8))))))))
def f_X8_wetOfDealing_k39   (v1 : Int32) (v2 : Int32) (ag39 : Int32 → gx_Mem → Option (Int32 × gx_Mem)) (v3 : Int32) (M : gx_Mem) : Option (Int32 × gx_Mem) := (if (12 : Int32) ≤ v3 then gx_gd (gx_in (((4 : Int32) * v1) + v2) 24) (gx_gd (gx_in (((4 : Int32) * v1) + v2) 24) (some (((M.1 78 (((4 : Int32) * v1) + v2).toNatClampNeg) - (M.1 61 (((4 : Int32) * v1) + v2).toNatClampNeg)), M))) else gx_bP (f_X8_outAt (gx_rem ((M.1 63 (1 : Int32).toNatClampNeg) + v3) (12 : Int32)) (63 : Int32) M) (fun y6 => gx_let (gx_sI M 57 28 y6) (fun M7 => gx_bP (f_X8_goMark v2 M7) (fun M9 => gx_let (v3 + (1 : Int32)) (fun x10 => ag39 x10 M9)))))
def f_X8_wetOfDealing_l39   (v1 : Int32) (v2 : Int32) (n : Nat) (v3 : Int32) (M : gx_Mem) : Option (Int32 × gx_Mem) := gx_loop (fun (ag39 : Int32 × gx_Mem → Option (Int32 × gx_Mem)) (s : Int32 × gx_Mem) => f_X8_wetOfDealing_k39 v1 v2 (fun v3 M => ag39 (v3, M)) s.1 s.2) n (v3, M)
def f_X8_wetOfDealing_k6   (v1 : Int32) (v2 : Int32) (ag6 : Int32 → gx_Mem → Option (Int32 × gx_Mem)) (v3 : Int32) (M : gx_Mem) : Option (Int32 × gx_Mem) := (if (M.1 57 1) ≤ v3 then f_X8_wetOfDealing_l39 v1 v2 gx_fuel (0 : Int32) M else gx_gd (gx_in v3 6) (gx_gd (gx_in (M.1 82 v3.toNatClampNeg) 6) (gx_gd (gx_in v3 6) (gx_let (gx_sI M 76 v3.toNatClampNeg (M.1 58 (M.1 82 v3.toNatClampNeg).toNatClampNeg)) (fun M3 => gx_let (v3 + (1 : Int32)) (fun x4 => ag6 x4 M3))))))
def f_X8_wetOfDealing_l6   (v1 : Int32) (v2 : Int32) (n : Nat) (v3 : Int32) (M : gx_Mem) : Option (Int32 × gx_Mem) := gx_loop (fun (ag6 : Int32 × gx_Mem → Option (Int32 × gx_Mem)) (s : Int32 × gx_Mem) => f_X8_wetOfDealing_k6 v1 v2 (fun v3 M => ag6 (v3, M)) s.1 s.2) n (v3, M)
def f_X8_wetOfDealing (v1 : Int32) (v2 : Int32) (M : gx_Mem) : Option (Int32 × gx_Mem) := gx_bP (f_X8_layNow M) (fun M2 => f_X8_wetOfDealing_l6 v1 v2 gx_fuel (0 : Int32) M2)
def f_X8_goDealing_b137 (q_goDealing : Int32 → Int32 → Int32 → Int32 → Int32 → gx_Mem → Option gx_Mem) (ag90 : Int32 → gx_Mem → Option gx_Mem) (v1 : Int32) (v2 : Int32) (v3 : Int32) (v4 : Int32) (v5 : Int32) (v6 : Int32) (M : gx_Mem) : Option gx_Mem := gx_let (v6 + (1 : Int32)) (fun x12 => ag90 x12 M)
def f_X8_goDealing_k90 (q_goDealing : Int32 → Int32 → Int32 → Int32 → Int32 → gx_Mem → Option gx_Mem)  (v1 : Int32) (v2 : Int32) (v3 : Int32) (v4 : Int32) (v5 : Int32) (ag90 : Int32 → gx_Mem → Option gx_Mem) (v6 : Int32) (M : gx_Mem) : Option gx_Mem := (if (M.1 57 1) ≤ v6 then some M else gx_bP (f_X8_has v2 v6 M) (fun y8 => (if y8 = 0 then gx_gd (gx_in v1 6) (gx_let (gx_sI M 82 v1.toNatClampNeg v6) (fun M9 => gx_bP (q_goDealing (v1 + (1 : Int32)) (v2 ||| (gx_shl (1 : Int32) v6)) v3 v4 v5 M9) (fun M11 => f_X8_goDealing_b137 q_goDealing ag90 v1 v2 v3 v4 v5 v6 M11))) else f_X8_goDealing_b137 q_goDealing ag90 v1 v2 v3 v4 v5 v6 M)))
def f_X8_goDealing_l90 (q_goDealing : Int32 → Int32 → Int32 → Int32 → Int32 → gx_Mem → Option gx_Mem)  (v1 : Int32) (v2 : Int32) (v3 : Int32) (v4 : Int32) (v5 : Int32) (n : Nat) (v6 : Int32) (M : gx_Mem) : Option gx_Mem := gx_loop (fun (ag90 : Int32 × gx_Mem → Option gx_Mem) (s : Int32 × gx_Mem) => f_X8_goDealing_k90 q_goDealing v1 v2 v3 v4 v5 (fun v6 M => ag90 (v6, M)) s.1 s.2) n (v6, M)
def f_X8_goDealing_k60 (q_goDealing : Int32 → Int32 → Int32 → Int32 → Int32 → gx_Mem → Option gx_Mem)  (v1 : Int32) (ag60 : Int32 → gx_Mem → Option gx_Mem) (v7 : Int32) (M : gx_Mem) : Option gx_Mem := (if v1 ≤ v7 then some M else gx_gd (gx_in v7 6) (gx_gd (gx_in v7 6) (gx_let (gx_sI M 83 v7.toNatClampNeg (M.1 82 v7.toNatClampNeg)) (fun M5 => gx_let (v7 + (1 : Int32)) (fun x6 => ag60 x6 M5)))))
def f_X8_goDealing_l60 (q_goDealing : Int32 → Int32 → Int32 → Int32 → Int32 → gx_Mem → Option gx_Mem)  (v1 : Int32) (n : Nat) (v7 : Int32) (M : gx_Mem) : Option gx_Mem := gx_loop (fun (ag60 : Int32 × gx_Mem → Option gx_Mem) (s : Int32 × gx_Mem) => f_X8_goDealing_k60 q_goDealing v1 (fun v7 M => ag60 (v7, M)) s.1 s.2) n (v7, M)
def f_X8_goDealing_b51 (q_goDealing : Int32 → Int32 → Int32 → Int32 → Int32 → gx_Mem → Option gx_Mem)  (v1 : Int32) (v6 : Int32) (M : gx_Mem) : Option gx_Mem := gx_let (gx_sI M 57 38 v6) (fun M4 => f_X8_goDealing_l60 q_goDealing v1 gx_fuel (0 : Int32) M4)
def f_X8_goDealing_o (q_goDealing : Int32 → Int32 → Int32 → Int32 → Int32 → gx_Mem → Option gx_Mem) (v1 : Int32) (v2 : Int32) (v3 : Int32) (v4 : Int32) (v5 : Int32) (M : gx_Mem) : Option gx_Mem := (if v1 = (M.1 57 1) then gx_bI (f_X8_wetOfDealing v3 v4 M) (fun y2 M3 => (if (M3.1 57 38) < 0 then f_X8_goDealing_b51 q_goDealing v1 y2 M3 else (if v5 = 0 then (if y2 < (M3.1 57 38) then f_X8_goDealing_b51 q_goDealing v1 y2 M3 else some M3) else (if (M3.1 57 38) < y2 then f_X8_goDealing_b51 q_goDealing v1 y2 M3 else some M3)))) else f_X8_goDealing_l90 q_goDealing v1 v2 v3 v4 v5 gx_fuel (0 : Int32) M)
def f_goDealing_g : Nat → (Int32 → Int32 → Int32 → Int32 → Int32 → gx_Mem → Option gx_Mem)
  | 0 => ((fun _ _ _ _ _ _ => none))
  | d + 1 => (fun q : (Int32 → Int32 → Int32 → Int32 → Int32 → gx_Mem → Option gx_Mem) => (f_X8_goDealing_o q)) (f_goDealing_g d)
def f_X8_goDealing (d : Nat) : Int32 → Int32 → Int32 → Int32 → Int32 → gx_Mem → Option gx_Mem := (f_goDealing_g d)
def f_X8_change_b59   (v3 : Int32) (s1 : Int32) (s2 : Int32) (s3 : Int32) (s4 : Int32) (s5 : Int32) (M : gx_Mem) : Option (Int32 × gx_Mem) := gx_bP (f_X8_goDealing gx_dep s1 s2 s3 s4 s5 M) (fun M9 => (if 0 ≤ v3 then gx_gd (gx_in v3 6) (gx_gd (gx_in (M9.1 83 v3.toNatClampNeg) 6) (some ((M9.1 58 (M9.1 83 v3.toNatClampNeg).toNatClampNeg), M9))) else some ((M9.1 57 38), M9)))
def f_X8_change (v1 : Int32) (v2 : Int32) (v3 : Int32) (M : gx_Mem) : Option (Int32 × gx_Mem) := gx_bP (f_X8_areMark v1 M) (fun y2 => (if y2 = 0 then some ((-1 : Int32), M) else gx_bP (f_X8_in v2 (0 : Int32) (1 : Int32) M) (fun y4 => (if y4 = 0 then some ((-1 : Int32), M) else gx_bP (f_X8_in v3 (-1 : Int32) ((M.1 57 1) - (1 : Int32)) M) (fun y6 => (if y6 = 0 then some ((-1 : Int32), M) else gx_let (gx_sI M 57 38 (-1 : Int32)) (fun M7 => (if v2 = (1 : Int32) then f_X8_change_b59 v3 (0 : Int32) (0 : Int32) (v1 / (10 : Int32)) (gx_rem v1 (10 : Int32)) (1 : Int32) M7 else f_X8_change_b59 v3 (0 : Int32) (0 : Int32) (v1 / (10 : Int32)) (gx_rem v1 (10 : Int32)) (0 : Int32) M7))))))))
def f_X8_lays (v1 : Int32) (v2 : Int32) (v3 : Int32) (M : gx_Mem) : Option gx_Mem := if v1 = (0 : Int32) then gx_gd (gx_in v2 6) (gx_let (gx_sI M 58 v2.toNatClampNeg v3) (fun M1 => some M1)) else (if v1 = (1 : Int32) then gx_gd (gx_in v2 6) (gx_let (gx_sI M 59 v2.toNatClampNeg v3) (fun M2 => some M2)) else (if v1 = (2 : Int32) then gx_gd (gx_in (((4 : Int32) * (v2 / (10 : Int32))) + (gx_rem v2 (10 : Int32))) 24) (gx_let (gx_sI M 60 (((4 : Int32) * (v2 / (10 : Int32))) + (gx_rem v2 (10 : Int32))).toNatClampNeg v3) (fun M3 => some M3)) else (if v1 = (3 : Int32) then gx_gd (gx_in (((4 : Int32) * (v2 / (10 : Int32))) + (gx_rem v2 (10 : Int32))) 24) (gx_let (gx_sI M 61 (((4 : Int32) * (v2 / (10 : Int32))) + (gx_rem v2 (10 : Int32))).toNatClampNeg v3) (fun M4 => some M4)) else (if v1 = (4 : Int32) then gx_gd (gx_in v2 24) (gx_let (gx_sI M 62 v2.toNatClampNeg v3) (fun M5 => some M5)) else (gx_gd (gx_in (v1 - (5 : Int32)) 2) (gx_let (gx_sI M 63 (v1 - (5 : Int32)).toNatClampNeg v3) (fun M6 => some M6)))))))
def f_X8_valueAt (v1 : Int32) (v2 : Int32) (M : gx_Mem) : Option Int32 := if v1 = (0 : Int32) then gx_gd (gx_in v2 6) (some (M.1 58 v2.toNatClampNeg)) else (if v1 = (1 : Int32) then gx_gd (gx_in v2 6) (some (M.1 59 v2.toNatClampNeg)) else (if v1 = (2 : Int32) then gx_gd (gx_in (((4 : Int32) * (v2 / (10 : Int32))) + (gx_rem v2 (10 : Int32))) 24) (some (M.1 60 (((4 : Int32) * (v2 / (10 : Int32))) + (gx_rem v2 (10 : Int32))).toNatClampNeg)) else (if v1 = (3 : Int32) then gx_gd (gx_in (((4 : Int32) * (v2 / (10 : Int32))) + (gx_rem v2 (10 : Int32))) 24) (some (M.1 61 (((4 : Int32) * (v2 / (10 : Int32))) + (gx_rem v2 (10 : Int32))).toNatClampNeg)) else (if v1 = (4 : Int32) then gx_gd (gx_in v2 24) (some (M.1 62 v2.toNatClampNeg)) else (gx_gd (gx_in (v1 - (5 : Int32)) 2) (some (M.1 63 (v1 - (5 : Int32)).toNatClampNeg)))))))
def f_X8_changes_b121   (v1 : Int32) (v2 : Int32) (v3 : Int32) (v4 : Int32) (M : gx_Mem) : Option (Int32 × gx_Mem) := gx_gd (gx_in (M.1 57 8) 40) (gx_let (gx_sI M 64 (M.1 57 8).toNatClampNeg v1) (fun M10 => gx_gd (gx_in (M10.1 57 8) 40) (gx_let (gx_sI M10 65 (M10.1 57 8).toNatClampNeg v2) (fun M11 => gx_gd (gx_in (M11.1 57 8) 40) (gx_let (gx_sI M11 66 (M11.1 57 8).toNatClampNeg v4) (fun M12 => gx_gd (gx_in (M12.1 57 8) 40) (gx_let (gx_sI M12 67 (M12.1 57 8).toNatClampNeg v3) (fun M13 => gx_let (gx_sI M13 57 8 ((M13.1 57 8) + (1 : Int32))) (fun M14 => gx_bP (f_X8_lays v1 v2 v3 M14) (fun M16 => some (v4, M16)))))))))))
def f_X8_changes_k34   (v1 : Int32) (v2 : Int32) (v3 : Int32) (v4 : Int32) (ag34 : Int32 → gx_Mem → Option (Int32 × gx_Mem)) (v5 : Int32) (M : gx_Mem) : Option (Int32 × gx_Mem) := (if (40 : Int32) ≤ v5 then gx_let (gx_sI M 57 8 ((M.1 57 8) - (1 : Int32))) (fun M4 => f_X8_changes_b121 v1 v2 v3 v4 M4) else gx_gd (gx_in v5 40) (gx_gd (gx_in (v5 - (1 : Int32)) 40) (gx_let (gx_sI M 64 (v5 - (1 : Int32)).toNatClampNeg (M.1 64 v5.toNatClampNeg)) (fun M5 => gx_gd (gx_in v5 40) (gx_gd (gx_in (v5 - (1 : Int32)) 40) (gx_let (gx_sI M5 65 (v5 - (1 : Int32)).toNatClampNeg (M5.1 65 v5.toNatClampNeg)) (fun M6 => gx_gd (gx_in v5 40) (gx_gd (gx_in (v5 - (1 : Int32)) 40) (gx_let (gx_sI M6 66 (v5 - (1 : Int32)).toNatClampNeg (M6.1 66 v5.toNatClampNeg)) (fun M7 => gx_gd (gx_in v5 40) (gx_gd (gx_in (v5 - (1 : Int32)) 40) (gx_let (gx_sI M7 67 (v5 - (1 : Int32)).toNatClampNeg (M7.1 67 v5.toNatClampNeg)) (fun M8 => gx_let (v5 + (1 : Int32)) (fun x9 => ag34 x9 M8))))))))))))))
def f_X8_changes_l34   (v1 : Int32) (v2 : Int32) (v3 : Int32) (v4 : Int32) (n : Nat) (v5 : Int32) (M : gx_Mem) : Option (Int32 × gx_Mem) := gx_loop (fun (ag34 : Int32 × gx_Mem → Option (Int32 × gx_Mem)) (s : Int32 × gx_Mem) => f_X8_changes_k34 v1 v2 v3 v4 (fun v5 M => ag34 (v5, M)) s.1 s.2) n (v5, M)
def f_X8_changes (v1 : Int32) (v2 : Int32) (v3 : Int32) (M : gx_Mem) : Option (Int32 × gx_Mem) := gx_bP (f_X8_valueAt v1 v2 M) (fun y2 => (if y2 = v3 then some (y2, M) else gx_let (gx_sI M 57 9 (0 : Int32)) (fun M3 => (if (M3.1 57 8) = (40 : Int32) then f_X8_changes_l34 v1 v2 v3 y2 gx_fuel (1 : Int32) M3 else f_X8_changes_b121 v1 v2 v3 y2 M3))))
def f_X8_isHour (v0 : Int32) (M : gx_Mem) : Option Int32 := gx_bP (f_X8_in v0 (0 : Int32) (11 : Int32) M) (fun y2 => gx_gd (gx_isZ y2) (some y2))
def f_X8_comes (v1 : Int32) (v2 : Int32) (v3 : Int32) (M : gx_Mem) : Option (Int32 × gx_Mem) := (if v1 < 0 then some ((-1 : Int32), M) else gx_bP (f_X8_isHour (v1 / (100 : Int32)) M) (fun y2 => (if y2 = 0 then some ((-1 : Int32), M) else gx_bP (f_X8_isFlat (gx_rem v1 (100 : Int32)) M) (fun y4 => (if y4 = 0 then some ((-1 : Int32), M) else gx_bP (f_X8_isMark v2 M) (fun y6 => (if y6 = 0 then some ((-1 : Int32), M) else gx_bP (f_X8_in v3 (0 : Int32) (1 : Int32) M) (fun y8 => (if y8 = 0 then some ((-1 : Int32), M) else gx_bP (f_X8_layNow M) (fun M10 => gx_bP (f_X8_outAt (v1 / (100 : Int32)) (63 : Int32) M10) (fun y12 => gx_let (gx_sI M10 57 28 y12) (fun M13 => gx_bP (f_X8_flow v2 M13) (fun M15 => (if v3 = 0 then gx_gd (gx_in (((24 : Int32) * v2) + (gx_rem v1 (100 : Int32))) 96) (some ((M15.1 80 (((24 : Int32) * v2) + (gx_rem v1 (100 : Int32))).toNatClampNeg), M15)) else gx_gd (gx_in (((24 : Int32) * v2) + (gx_rem v1 (100 : Int32))) 96) (some ((M15.1 81 (((24 : Int32) * v2) + (gx_rem v1 (100 : Int32))).toNatClampNeg), M15))))))))))))))))
def f_X8_count (v1 : Int32) (M : gx_Mem) : Option Int32 := if v1 = (0 : Int32) then some (M.1 57 1) else (if v1 = (1 : Int32) then gx_bP (f_X8_awnings M) (fun y2 => some y2) else (if v1 = (2 : Int32) then some (M.1 57 15) else (if v1 = (3 : Int32) then some (M.1 57 8) else (if v1 = (4 : Int32) then some (M.1 57 52) else (if v1 = (5 : Int32) then some (M.1 57 54) else (some (-1 : Int32)))))))
def f_X8_wetter_k4   (v1 : Int32) (ag4 : Int32 → Int32 → Option Int32) (v2 : Int32) (v3 : Int32) (M : gx_Mem) : Option Int32 := (if (4 : Int32) ≤ v3 then gx_bP (f_X8_allWet v1 M) (fun y2 => some (y2 - v2)) else gx_gd (gx_in (((4 : Int32) * v1) + v3) 24) (gx_let (v2 + (M.1 61 (((4 : Int32) * v1) + v3).toNatClampNeg)) (fun x3 => gx_let (v3 + (1 : Int32)) (fun x4 => ag4 x3 x4))))
def f_X8_wetter_l4   (v1 : Int32) (n : Nat) (v2 : Int32) (v3 : Int32) (M : gx_Mem) : Option Int32 := gx_loop (fun (ag4 : Int32 × Int32 → Option Int32) (s : Int32 × Int32) => f_X8_wetter_k4 v1 (fun v2 v3 => ag4 (v2, v3)) s.1 s.2 M) n (v2, v3)
def f_X8_wetter (v1 : Int32) (M : gx_Mem) : Option Int32 := f_X8_wetter_l4 v1 gx_fuel (0 : Int32) (0 : Int32) M
def f_X8_drawn_b226  (ag50 : Int32 → Int32 → Int32 → gx_Mem → Option (Int32 × gx_Mem)) (v2 : Int32) (v3 : Int32) (v4 : Int32) (v5 : Int32) (v6 : Int32) (M : gx_Mem) : Option (Int32 × gx_Mem) := gx_let (v6 + (1 : Int32)) (fun x23 => ag50 v4 v5 x23 M)
def f_X8_drawn_k197  (ag50 : Int32 → Int32 → Int32 → gx_Mem → Option (Int32 × gx_Mem)) (v2 : Int32) (v3 : Int32) (v4 : Int32) (v6 : Int32) (ag197 : Int32 → Int32 → gx_Mem → Option (Int32 × gx_Mem)) (v5 : Int32) (v7 : Int32) (M : gx_Mem) : Option (Int32 × gx_Mem) := (if (4 : Int32) ≤ v7 then f_X8_drawn_b226 ag50 v2 v3 v4 v5 v6 M else (if v3 = (1 : Int32) then gx_gd (gx_in v7 4) (gx_let (v5 + (M.1 79 v7.toNatClampNeg)) (fun x21 => gx_let (v7 + (1 : Int32)) (fun x22 => ag197 x21 x22 M))) else f_X8_drawn_b226 ag50 v2 v3 v4 v5 v6 M))
def f_X8_drawn_l197  (ag50 : Int32 → Int32 → Int32 → gx_Mem → Option (Int32 × gx_Mem)) (v2 : Int32) (v3 : Int32) (v4 : Int32) (v6 : Int32) (n : Nat) (v5 : Int32) (v7 : Int32) (M : gx_Mem) : Option (Int32 × gx_Mem) := gx_loop (fun (ag197 : Int32 × Int32 × gx_Mem → Option (Int32 × gx_Mem)) (s : Int32 × Int32 × gx_Mem) => f_X8_drawn_k197 ag50 v2 v3 v4 v6 (fun v5 v7 M => ag197 (v5, v7, M)) s.1 s.2.1 s.2.2) n (v5, v7, M)
def f_X8_drawn_b194  (ag50 : Int32 → Int32 → Int32 → gx_Mem → Option (Int32 × gx_Mem)) (v2 : Int32) (v3 : Int32) (v4 : Int32) (v5 : Int32) (v6 : Int32) (M : gx_Mem) : Option (Int32 × gx_Mem) := f_X8_drawn_l197 ag50 v2 v3 v4 v6 gx_fuel v5 (0 : Int32) M
def f_X8_drawn_k164  (ag50 : Int32 → Int32 → Int32 → gx_Mem → Option (Int32 × gx_Mem)) (v2 : Int32) (v3 : Int32) (v4 : Int32) (v6 : Int32) (ag164 : Int32 → Int32 → gx_Mem → Option (Int32 × gx_Mem)) (v5 : Int32) (v7 : Int32) (M : gx_Mem) : Option (Int32 × gx_Mem) := (if (M.1 57 1) ≤ v7 then f_X8_drawn_b194 ag50 v2 v3 v4 v5 v6 M else (if v3 = 0 then gx_bP (f_X8_wetter v7 M) (fun y18 => gx_let (v5 + y18) (fun x19 => gx_let (v7 + (1 : Int32)) (fun x20 => ag164 x19 x20 M))) else f_X8_drawn_b194 ag50 v2 v3 v4 v5 v6 M))
def f_X8_drawn_l164  (ag50 : Int32 → Int32 → Int32 → gx_Mem → Option (Int32 × gx_Mem)) (v2 : Int32) (v3 : Int32) (v4 : Int32) (v6 : Int32) (n : Nat) (v5 : Int32) (v7 : Int32) (M : gx_Mem) : Option (Int32 × gx_Mem) := gx_loop (fun (ag164 : Int32 × Int32 × gx_Mem → Option (Int32 × gx_Mem)) (s : Int32 × Int32 × gx_Mem) => f_X8_drawn_k164 ag50 v2 v3 v4 v6 (fun v5 v7 M => ag164 (v5, v7, M)) s.1 s.2.1 s.2.2) n (v5, v7, M)
def f_X8_drawn_k137  (ag50 : Int32 → Int32 → Int32 → gx_Mem → Option (Int32 × gx_Mem)) (ag66 : Int32 → Int32 → gx_Mem → Option (Int32 × gx_Mem)) (v2 : Int32) (v3 : Int32) (v4 : Int32) (v5 : Int32) (v6 : Int32) (v7 : Int32) (ag137 : Int32 → gx_Mem → Option (Int32 × gx_Mem)) (v8 : Int32) (M : gx_Mem) : Option (Int32 × gx_Mem) := (if (4 : Int32) ≤ v8 then gx_let (v7 + (1 : Int32)) (fun x13 => ag66 v4 x13 M) else gx_bP (f_X8_goMark v8 M) (fun M15 => gx_let (v8 + (1 : Int32)) (fun x16 => ag137 x16 M15)))
def f_X8_drawn_l137  (ag50 : Int32 → Int32 → Int32 → gx_Mem → Option (Int32 × gx_Mem)) (ag66 : Int32 → Int32 → gx_Mem → Option (Int32 × gx_Mem)) (v2 : Int32) (v3 : Int32) (v4 : Int32) (v5 : Int32) (v6 : Int32) (v7 : Int32) (n : Nat) (v8 : Int32) (M : gx_Mem) : Option (Int32 × gx_Mem) := gx_loop (fun (ag137 : Int32 × gx_Mem → Option (Int32 × gx_Mem)) (s : Int32 × gx_Mem) => f_X8_drawn_k137 ag50 ag66 v2 v3 v4 v5 v6 v7 (fun v8 M => ag137 (v8, M)) s.1 s.2) n (v8, M)
def f_X8_drawn_b128  (ag50 : Int32 → Int32 → Int32 → gx_Mem → Option (Int32 × gx_Mem)) (ag66 : Int32 → Int32 → gx_Mem → Option (Int32 × gx_Mem)) (ag83 : Int32 → Int32 → gx_Mem → Option (Int32 × gx_Mem)) (v2 : Int32) (v3 : Int32) (v4 : Int32) (v5 : Int32) (v6 : Int32) (v7 : Int32) (v8 : Int32) (M : gx_Mem) : Option (Int32 × gx_Mem) := gx_let (v8 + (1 : Int32)) (fun x12 => ag83 v4 x12 M)
def f_X8_drawn_k83  (ag50 : Int32 → Int32 → Int32 → gx_Mem → Option (Int32 × gx_Mem)) (ag66 : Int32 → Int32 → gx_Mem → Option (Int32 × gx_Mem)) (v2 : Int32) (v3 : Int32) (v5 : Int32) (v6 : Int32) (v7 : Int32) (ag83 : Int32 → Int32 → gx_Mem → Option (Int32 × gx_Mem)) (v4 : Int32) (v8 : Int32) (M : gx_Mem) : Option (Int32 × gx_Mem) := (if (M.1 57 1) ≤ v8 then f_X8_drawn_l137 ag50 ag66 v2 v3 v4 v5 v6 v7 gx_fuel (0 : Int32) M else gx_let ((v4 * (1103515245 : Int32)) + (12345 : Int32)) (fun x10 => (if (gx_rem (gx_ushr x10 (8 : Int32)) (2 : Int32)) = (1 : Int32) then gx_let (gx_sI M 57 28 ((M.1 57 28) ||| (gx_shl (1 : Int32) v8))) (fun M11 => f_X8_drawn_b128 ag50 ag66 ag83 v2 v3 x10 v5 v6 v7 v8 M11) else f_X8_drawn_b128 ag50 ag66 ag83 v2 v3 x10 v5 v6 v7 v8 M)))
def f_X8_drawn_l83  (ag50 : Int32 → Int32 → Int32 → gx_Mem → Option (Int32 × gx_Mem)) (ag66 : Int32 → Int32 → gx_Mem → Option (Int32 × gx_Mem)) (v2 : Int32) (v3 : Int32) (v5 : Int32) (v6 : Int32) (v7 : Int32) (n : Nat) (v4 : Int32) (v8 : Int32) (M : gx_Mem) : Option (Int32 × gx_Mem) := gx_loop (fun (ag83 : Int32 × Int32 × gx_Mem → Option (Int32 × gx_Mem)) (s : Int32 × Int32 × gx_Mem) => f_X8_drawn_k83 ag50 ag66 v2 v3 v5 v6 v7 (fun v4 v8 M => ag83 (v4, v8, M)) s.1 s.2.1 s.2.2) n (v4, v8, M)
def f_X8_drawn_k66  (ag50 : Int32 → Int32 → Int32 → gx_Mem → Option (Int32 × gx_Mem)) (v2 : Int32) (v3 : Int32) (v5 : Int32) (v6 : Int32) (ag66 : Int32 → Int32 → gx_Mem → Option (Int32 × gx_Mem)) (v4 : Int32) (v7 : Int32) (M : gx_Mem) : Option (Int32 × gx_Mem) := (if (gx_rem v2 (100 : Int32)) ≤ v7 then f_X8_drawn_l164 ag50 v2 v3 v4 v6 gx_fuel v5 (0 : Int32) M else gx_let (gx_sI M 57 28 (0 : Int32)) (fun M9 => f_X8_drawn_l83 ag50 ag66 v2 v3 v5 v6 v7 gx_fuel v4 (0 : Int32) M9))
def f_X8_drawn_l66  (ag50 : Int32 → Int32 → Int32 → gx_Mem → Option (Int32 × gx_Mem)) (v2 : Int32) (v3 : Int32) (v5 : Int32) (v6 : Int32) (n : Nat) (v4 : Int32) (v7 : Int32) (M : gx_Mem) : Option (Int32 × gx_Mem) := gx_loop (fun (ag66 : Int32 × Int32 × gx_Mem → Option (Int32 × gx_Mem)) (s : Int32 × Int32 × gx_Mem) => f_X8_drawn_k66 ag50 v2 v3 v5 v6 (fun v4 v7 M => ag66 (v4, v7, M)) s.1 s.2.1 s.2.2) n (v4, v7, M)
def f_X8_drawn_k50   (v2 : Int32) (v3 : Int32) (ag50 : Int32 → Int32 → Int32 → gx_Mem → Option (Int32 × gx_Mem)) (v4 : Int32) (v5 : Int32) (v6 : Int32) (M : gx_Mem) : Option (Int32 × gx_Mem) := (if (v2 / (100 : Int32)) ≤ v6 then some (v5, M) else gx_bP (f_X8_layNow M) (fun M8 => f_X8_drawn_l66 ag50 v2 v3 v5 v6 gx_fuel v4 (0 : Int32) M8))
def f_X8_drawn_l50   (v2 : Int32) (v3 : Int32) (n : Nat) (v4 : Int32) (v5 : Int32) (v6 : Int32) (M : gx_Mem) : Option (Int32 × gx_Mem) := gx_loop (fun (ag50 : Int32 × Int32 × Int32 × gx_Mem → Option (Int32 × gx_Mem)) (s : Int32 × Int32 × Int32 × gx_Mem) => f_X8_drawn_k50 v2 v3 (fun v4 v5 v6 M => ag50 (v4, v5, v6, M)) s.1 s.2.1 s.2.2.1 s.2.2.2) n (v4, v5, v6, M)
def f_X8_drawn (v1 : Int32) (v2 : Int32) (v3 : Int32) (M : gx_Mem) : Option (Int32 × gx_Mem) := (if v2 < 0 then some ((-1 : Int32), M) else gx_bP (f_X8_in (v2 / (100 : Int32)) (1 : Int32) (30 : Int32) M) (fun y2 => (if y2 = 0 then some ((-1 : Int32), M) else gx_bP (f_X8_in (gx_rem v2 (100 : Int32)) (1 : Int32) (24 : Int32) M) (fun y4 => (if y4 = 0 then some ((-1 : Int32), M) else gx_bP (f_X8_in v3 (0 : Int32) (1 : Int32) M) (fun y6 => (if y6 = 0 then some ((-1 : Int32), M) else f_X8_drawn_l50 v2 v3 gx_fuel v1 (0 : Int32) (0 : Int32) M)))))))
def f_X8_dry_b123  (ag25 : Int32 → Int32 → gx_Mem → Option (Int32 × gx_Mem)) (v1 : Int32) (v2 : Int32) (v3 : Int32) (v4 : Int32) (M : gx_Mem) : Option (Int32 × gx_Mem) := gx_let (v4 + (1 : Int32)) (fun x11 => ag25 v3 x11 M)
def f_X8_dry_b98  (ag25 : Int32 → Int32 → gx_Mem → Option (Int32 × gx_Mem)) (ag59 : Int32 → gx_Mem → Option (Int32 × gx_Mem)) (v1 : Int32) (v2 : Int32) (v3 : Int32) (v4 : Int32) (v5 : Int32) (M : gx_Mem) : Option (Int32 × gx_Mem) := gx_let (v5 + (1 : Int32)) (fun x21 => ag59 x21 M)
def f_X8_dry_k59  (ag25 : Int32 → Int32 → gx_Mem → Option (Int32 × gx_Mem)) (v1 : Int32) (v2 : Int32) (v3 : Int32) (v4 : Int32) (ag59 : Int32 → gx_Mem → Option (Int32 × gx_Mem)) (v5 : Int32) (M : gx_Mem) : Option (Int32 × gx_Mem) := (if (8 : Int32) ≤ v5 then gx_bP (f_X8_goHours (12 : Int32) (63 : Int32) M) (fun M15 => gx_bP (f_X8_wetter v1 M15) (fun y17 => (if y17 = 0 then f_X8_dry_b123 ag25 v1 v2 v4 v4 M15 else f_X8_dry_b123 ag25 v1 v2 v3 v4 M15))) else gx_bP (f_X8_has v4 v5 M) (fun y19 => (if y19 = 0 then f_X8_dry_b98 ag25 ag59 v1 v2 v3 v4 v5 M else gx_gd (gx_in v1 6) (gx_gd (gx_in (((8 : Int32) * ((M.1 58 v1.toNatClampNeg) / (8 : Int32))) + v5) 24) (gx_let (gx_sI M 77 (((8 : Int32) * ((M.1 58 v1.toNatClampNeg) / (8 : Int32))) + v5).toNatClampNeg (9 : Int32)) (fun M20 => f_X8_dry_b98 ag25 ag59 v1 v2 v3 v4 v5 M20))))))
def f_X8_dry_l59  (ag25 : Int32 → Int32 → gx_Mem → Option (Int32 × gx_Mem)) (v1 : Int32) (v2 : Int32) (v3 : Int32) (v4 : Int32) (n : Nat) (v5 : Int32) (M : gx_Mem) : Option (Int32 × gx_Mem) := gx_loop (fun (ag59 : Int32 × gx_Mem → Option (Int32 × gx_Mem)) (s : Int32 × gx_Mem) => f_X8_dry_k59 ag25 v1 v2 v3 v4 (fun v5 M => ag59 (v5, M)) s.1 s.2) n (v5, M)
def f_X8_dry_b52  (ag25 : Int32 → Int32 → gx_Mem → Option (Int32 × gx_Mem)) (v1 : Int32) (v2 : Int32) (v3 : Int32) (v4 : Int32) (M : gx_Mem) : Option (Int32 × gx_Mem) := gx_bP (f_X8_layNow M) (fun M13 => f_X8_dry_l59 ag25 v1 v2 v3 v4 gx_fuel (0 : Int32) M13)
def f_X8_dry_k25   (v1 : Int32) (v2 : Int32) (ag25 : Int32 → Int32 → gx_Mem → Option (Int32 × gx_Mem)) (v3 : Int32) (v4 : Int32) (M : gx_Mem) : Option (Int32 × gx_Mem) := (if (256 : Int32) ≤ v4 then (if v3 < 0 then some (v3, M) else (if v2 = (1 : Int32) then some (v3, M) else gx_bP (f_X8_bitsOf v3 M) (fun y6 => some (y6, M)))) else (if v3 < 0 then f_X8_dry_b52 ag25 v1 v2 v3 v4 M else gx_bP (f_X8_bitsOf v4 M) (fun y8 => gx_bP (f_X8_bitsOf v3 M) (fun y10 => (if y8 < y10 then f_X8_dry_b52 ag25 v1 v2 v3 v4 M else f_X8_dry_b123 ag25 v1 v2 v3 v4 M)))))
def f_X8_dry_l25   (v1 : Int32) (v2 : Int32) (n : Nat) (v3 : Int32) (v4 : Int32) (M : gx_Mem) : Option (Int32 × gx_Mem) := gx_loop (fun (ag25 : Int32 × Int32 × gx_Mem → Option (Int32 × gx_Mem)) (s : Int32 × Int32 × gx_Mem) => f_X8_dry_k25 v1 v2 (fun v3 v4 M => ag25 (v3, v4, M)) s.1 s.2.1 s.2.2) n (v3, v4, M)
def f_X8_dry (v1 : Int32) (v2 : Int32) (M : gx_Mem) : Option (Int32 × gx_Mem) := gx_bP (f_X8_isOne v1 M) (fun y2 => (if y2 = 0 then some ((-1 : Int32), M) else gx_bP (f_X8_in v2 (0 : Int32) (1 : Int32) M) (fun y4 => (if y4 = 0 then some ((-1 : Int32), M) else f_X8_dry_l25 v1 v2 gx_fuel (-2 : Int32) (0 : Int32) M))))
def f_X8_isShelf (v0 : Int32) (M : gx_Mem) : Option Int32 := gx_bP (f_X8_in v0 (0 : Int32) (5 : Int32) M) (fun y2 => gx_gd (gx_isZ y2) (some y2))
def f_X8_whyNoPlace (v1 : Int32) (v2 : Int32) (M : gx_Mem) : Option Int32 := gx_bP (f_X8_isShelf v1 M) (fun y2 => (if y2 = 0 then some (-1 : Int32) else gx_gd (gx_in v1 6) ((if (M.1 92 v1.toNatClampNeg) = (-1 : Int32) then some (-11 : Int32) else gx_gd (gx_in v1 6) ((if (M.1 92 v1.toNatClampNeg) < 0 then gx_gd (gx_in v1 6) (gx_bP (f_X8_in v2 (0 : Int32) ((M.1 93 v1.toNatClampNeg) - (1 : Int32)) M) (fun y4 => (if y4 = 0 then some (-13 : Int32) else some (0 : Int32)))) else some (-12 : Int32)))))))
def f_X8_element (v1 : Int32) (v2 : Int32) (M : gx_Mem) : Option Int64 := gx_bP (f_X8_whyNoPlace v1 v2 M) (fun y2 => (if 0 ≤ y2 then gx_gd (gx_in (((60 : Int32) * v1) + v2) 360) (some (M.2 94 (((60 : Int32) * v1) + v2).toNatClampNeg)) else some (-9223372036854775808 : Int64)))
def f_X8_feed (v1 : Int32) (M : gx_Mem) : Option (Int32 × gx_Mem) := gx_bP (f_X8_in v1 (0 : Int32) (255 : Int32) M) (fun y2 => (if y2 = 0 then some ((-1 : Int32), M) else (if (M.1 57 15) = (120 : Int32) then some ((-3 : Int32), M) else gx_gd (gx_in (M.1 57 15) 120) (gx_let (gx_sI M 68 (M.1 57 15).toNatClampNeg (v1.toInt8.toInt32.toInt8.toInt32)) (fun M3 => gx_let (gx_sI M3 57 15 ((M3.1 57 15) + (1 : Int32))) (fun M4 => some ((M4.1 57 15), M4)))))))
def f_X8_first_k16   (v1 : Int32) (ag16 : Int32 → gx_Mem → Option (Int32 × gx_Mem)) (v2 : Int32) (M : gx_Mem) : Option (Int32 × gx_Mem) := (if (48 : Int32) < v2 then some ((-2 : Int32), M) else gx_bP (f_X8_goHours (1 : Int32) (63 : Int32) M) (fun M6 => gx_bP (f_X8_wetter v1 M6) (fun y8 => (if y8 ≤ 0 then gx_let (v2 + (1 : Int32)) (fun x9 => ag16 x9 M6) else some (v2, M6)))))
def f_X8_first_l16   (v1 : Int32) (n : Nat) (v2 : Int32) (M : gx_Mem) : Option (Int32 × gx_Mem) := gx_loop (fun (ag16 : Int32 × gx_Mem → Option (Int32 × gx_Mem)) (s : Int32 × gx_Mem) => f_X8_first_k16 v1 (fun v2 M => ag16 (v2, M)) s.1 s.2) n (v2, M)
def f_X8_first (v1 : Int32) (M : gx_Mem) : Option (Int32 × gx_Mem) := gx_bP (f_X8_isOne v1 M) (fun y2 => (if y2 = 0 then some ((-1 : Int32), M) else gx_bP (f_X8_layNow M) (fun M4 => f_X8_first_l16 v1 gx_fuel (1 : Int32) M4)))
def f_X8_from_b84  (ag24 : Int32 → Int32 → gx_Mem → Option (Int32 × gx_Mem)) (v1 : Int32) (v2 : Int32) (v3 : Int32) (v4 : Int32) (M : gx_Mem) : Option (Int32 × gx_Mem) := gx_let (v4 + (1 : Int32)) (fun x9 => ag24 v3 x9 M)
def f_X8_from_b71  (ag24 : Int32 → Int32 → gx_Mem → Option (Int32 × gx_Mem)) (v1 : Int32) (v2 : Int32) (v3 : Int32) (v4 : Int32) (s1 : Int32) (M : gx_Mem) : Option (Int32 × gx_Mem) := gx_bP (f_X8_wetter s1 M) (fun y11 => (if y11 ≤ 0 then f_X8_from_b84 ag24 v1 v2 v3 v4 M else gx_let (v3 ||| (gx_shl (1 : Int32) v4)) (fun x12 => f_X8_from_b84 ag24 v1 v2 x12 v4 M)))
def f_X8_from_k24   (v1 : Int32) (v2 : Int32) (ag24 : Int32 → Int32 → gx_Mem → Option (Int32 × gx_Mem)) (v3 : Int32) (v4 : Int32) (M : gx_Mem) : Option (Int32 × gx_Mem) := (if (M.1 57 1) ≤ v4 then some (v3, M) else (if v4 = v1 then f_X8_from_b84 ag24 v1 v2 v3 v4 M else gx_bP (f_X8_layNow M) (fun M6 => gx_bP (f_X8_goHours (12 : Int32) ((gx_shl (1 : Int32) v1) ||| (gx_shl (1 : Int32) v4)) M6) (fun M8 => (if v2 = 0 then f_X8_from_b71 ag24 v1 v2 v3 v4 v1 M8 else f_X8_from_b71 ag24 v1 v2 v3 v4 v4 M8)))))
def f_X8_from_l24   (v1 : Int32) (v2 : Int32) (n : Nat) (v3 : Int32) (v4 : Int32) (M : gx_Mem) : Option (Int32 × gx_Mem) := gx_loop (fun (ag24 : Int32 × Int32 × gx_Mem → Option (Int32 × gx_Mem)) (s : Int32 × Int32 × gx_Mem) => f_X8_from_k24 v1 v2 (fun v3 v4 M => ag24 (v3, v4, M)) s.1 s.2.1 s.2.2) n (v3, v4, M)
def f_X8_from (v1 : Int32) (v2 : Int32) (M : gx_Mem) : Option (Int32 × gx_Mem) := gx_bP (f_X8_isOne v1 M) (fun y2 => (if y2 = 0 then some ((-1 : Int32), M) else gx_bP (f_X8_in v2 (0 : Int32) (1 : Int32) M) (fun y4 => (if y4 = 0 then some ((-1 : Int32), M) else f_X8_from_l24 v1 v2 gx_fuel (0 : Int32) (0 : Int32) M))))
def f_X8_hour_k59    (ag59 : Int32 → gx_Mem → Option (Int32 × gx_Mem)) (v1 : Int32) (M : gx_Mem) : Option (Int32 × gx_Mem) := (if (4 : Int32) ≤ v1 then some ((M.1 63 (1 : Int32).toNatClampNeg), M) else gx_gd (gx_in v1 4) (gx_let (gx_sI M 85 (3 : Int32).toNatClampNeg ((M.1 85 (3 : Int32).toNatClampNeg) + (M.1 79 v1.toNatClampNeg))) (fun M9 => gx_let (v1 + (1 : Int32)) (fun x10 => ag59 x10 M9))))
def f_X8_hour_l59    (n : Nat) (v1 : Int32) (M : gx_Mem) : Option (Int32 × gx_Mem) := gx_loop (fun (ag59 : Int32 × gx_Mem → Option (Int32 × gx_Mem)) (s : Int32 × gx_Mem) => f_X8_hour_k59 (fun v1 M => ag59 (v1, M)) s.1 s.2) n (v1, M)
def f_X8_hour_k13    (ag13 : Int32 → gx_Mem → Option (Int32 × gx_Mem)) (v1 : Int32) (M : gx_Mem) : Option (Int32 × gx_Mem) := (if (24 : Int32) ≤ v1 then gx_let (gx_sI M 63 (1 : Int32).toNatClampNeg (M.1 57 29)) (fun M5 => gx_let (gx_sI M5 85 (0 : Int32).toNatClampNeg ((M5.1 85 (0 : Int32).toNatClampNeg) + (1 : Int32))) (fun M6 => f_X8_hour_l59 gx_fuel (0 : Int32) M6)) else gx_gd (gx_in v1 24) (gx_gd (gx_in v1 24) (gx_let (gx_sI M 61 v1.toNatClampNeg (M.1 78 v1.toNatClampNeg)) (fun M7 => gx_let (v1 + (1 : Int32)) (fun x8 => ag13 x8 M7)))))
def f_X8_hour_l13    (n : Nat) (v1 : Int32) (M : gx_Mem) : Option (Int32 × gx_Mem) := gx_loop (fun (ag13 : Int32 × gx_Mem → Option (Int32 × gx_Mem)) (s : Int32 × gx_Mem) => f_X8_hour_k13 (fun v1 M => ag13 (v1, M)) s.1 s.2) n (v1, M)
def f_X8_hour (M : gx_Mem) : Option (Int32 × gx_Mem) := gx_bP (f_X8_layNow M) (fun M2 => gx_bP (f_X8_goHours (1 : Int32) (63 : Int32) M2) (fun M4 => f_X8_hour_l13 gx_fuel (0 : Int32) M4))
def f_X8_image_k91    (ag91 : Int32 → gx_Mem → Option (Int32 × gx_Mem)) (v1 : Int32) (M : gx_Mem) : Option (Int32 × gx_Mem) := (if (5 : Int32) ≤ v1 then some ((M.1 85 (0 : Int32).toNatClampNeg), M) else gx_gd (gx_in v1 5) (gx_gd (gx_in v1 5) (gx_let (gx_sI M 89 v1.toNatClampNeg (M.1 85 v1.toNatClampNeg)) (fun M9 => gx_let (v1 + (1 : Int32)) (fun x10 => ag91 x10 M9)))))
def f_X8_image_l91    (n : Nat) (v1 : Int32) (M : gx_Mem) : Option (Int32 × gx_Mem) := gx_loop (fun (ag91 : Int32 × gx_Mem → Option (Int32 × gx_Mem)) (s : Int32 × gx_Mem) => f_X8_image_k91 (fun v1 M => ag91 (v1, M)) s.1 s.2) n (v1, M)
def f_X8_image_k53    (ag53 : Int32 → gx_Mem → Option (Int32 × gx_Mem)) (v1 : Int32) (M : gx_Mem) : Option (Int32 × gx_Mem) := (if (24 : Int32) ≤ v1 then f_X8_image_l91 gx_fuel (0 : Int32) M else gx_gd (gx_in v1 24) (gx_gd (gx_in v1 24) (gx_let (gx_sI M 87 v1.toNatClampNeg (M.1 61 v1.toNatClampNeg)) (fun M6 => gx_gd (gx_in v1 24) (gx_gd (gx_in v1 24) (gx_let (gx_sI M6 88 v1.toNatClampNeg (M6.1 62 v1.toNatClampNeg)) (fun M7 => gx_let (v1 + (1 : Int32)) (fun x8 => ag53 x8 M7))))))))
def f_X8_image_l53    (n : Nat) (v1 : Int32) (M : gx_Mem) : Option (Int32 × gx_Mem) := gx_loop (fun (ag53 : Int32 × gx_Mem → Option (Int32 × gx_Mem)) (s : Int32 × gx_Mem) => f_X8_image_k53 (fun v1 M => ag53 (v1, M)) s.1 s.2) n (v1, M)
def f_X8_image_k25    (ag25 : Int32 → gx_Mem → Option (Int32 × gx_Mem)) (v1 : Int32) (M : gx_Mem) : Option (Int32 × gx_Mem) := (if (M.1 57 1) ≤ v1 then f_X8_image_l53 gx_fuel (0 : Int32) M else gx_gd (gx_in v1 6) (gx_gd (gx_in v1 6) (gx_let (gx_sI M 86 v1.toNatClampNeg (M.1 58 v1.toNatClampNeg)) (fun M4 => gx_let (v1 + (1 : Int32)) (fun x5 => ag25 x5 M4)))))
def f_X8_image_l25    (n : Nat) (v1 : Int32) (M : gx_Mem) : Option (Int32 × gx_Mem) := gx_loop (fun (ag25 : Int32 × gx_Mem → Option (Int32 × gx_Mem)) (s : Int32 × gx_Mem) => f_X8_image_k25 (fun v1 M => ag25 (v1, M)) s.1 s.2) n (v1, M)
def f_X8_image (M : gx_Mem) : Option (Int32 × gx_Mem) := gx_let (gx_sI M 57 45 (1 : Int32)) (fun M1 => gx_let (gx_sI M1 57 46 (M1.1 57 1)) (fun M2 => gx_let (gx_sI M2 57 47 (M2.1 63 (1 : Int32).toNatClampNeg)) (fun M3 => f_X8_image_l25 gx_fuel (0 : Int32) M3)))
def f_X8_isJust_k2   (v1 : Int32) (ag2 : Int32 → gx_Mem → Option (Int32 × gx_Mem)) (v2 : Int32) (M : gx_Mem) : Option (Int32 × gx_Mem) := (if (4 : Int32) ≤ v2 then some ((1 : Int32), M) else gx_bP (f_X8_flow v2 M) (fun M2 => gx_bP (f_X8_toPorter v2 M2) (fun y4 => gx_bP (f_X8_at v1 v2 M2) (fun y6 => (if y4 = y6 then gx_let (v2 + (1 : Int32)) (fun x7 => ag2 x7 M2) else some ((0 : Int32), M2))))))
def f_X8_isJust_l2   (v1 : Int32) (n : Nat) (v2 : Int32) (M : gx_Mem) : Option (Int32 × gx_Mem) := gx_loop (fun (ag2 : Int32 × gx_Mem → Option (Int32 × gx_Mem)) (s : Int32 × gx_Mem) => f_X8_isJust_k2 v1 (fun v2 M => ag2 (v2, M)) s.1 s.2) n (v2, M)
def f_X8_isJust (v1 : Int32) (M : gx_Mem) : Option (Int32 × gx_Mem) := f_X8_isJust_l2 v1 gx_fuel (0 : Int32) M
def f_X8_isPlace (v1 : Int32) (v2 : Int32) (M : gx_Mem) : Option Int32 := gx_bP (f_X8_in v2 (0 : Int32) (1 : Int32) M) (fun y2 => (if y2 = 0 then gx_bP (f_X8_in v2 (2 : Int32) (3 : Int32) M) (fun y4 => (if y4 = 0 then (if v2 = (4 : Int32) then gx_bP (f_X8_isFlat v1 M) (fun y8 => gx_gd (gx_isZ y8) (some y8)) else gx_bP (f_X8_in v2 (5 : Int32) (6 : Int32) M) (fun y6 => (if y6 = 0 then some (0 : Int32) else (if v1 = 0 then some (1 : Int32) else some (0 : Int32))))) else gx_bP (f_X8_areMark v1 M) (fun y10 => gx_gd (gx_isZ y10) (some y10)))) else gx_bP (f_X8_isOne v1 M) (fun y12 => gx_gd (gx_isZ y12) (some y12))))
def f_X8_keep_b22   (v1 : Int32) (v2 : Int32) (M : gx_Mem) : Option (Int32 × gx_Mem) := gx_gd (gx_in v1 6) (gx_let (gx_sI M 92 v1.toNatClampNeg v2) (fun M5 => some ((1 : Int32), M5)))
def f_X8_keep (v1 : Int32) (v2 : Int32) (M : gx_Mem) : Option (Int32 × gx_Mem) := gx_bP (f_X8_isShelf v1 M) (fun y2 => (if y2 = 0 then some ((-1 : Int32), M) else (if v2 = (-1 : Int32) then f_X8_keep_b22 v1 v2 M else gx_bP (f_X8_isBody v2 M) (fun y4 => (if y4 = 0 then some ((-1 : Int32), M) else f_X8_keep_b22 v1 v2 M)))))
def f_X8_line_b66   (v1 : Int32) (M : gx_Mem) : Option gx_Mem := gx_gd (gx_in v1 122) (gx_let (gx_sI M 73 v1.toNatClampNeg (((M.1 57 19).toInt16.toInt32).toInt16.toInt32)) (fun M11 => gx_let (gx_sI M11 71 (1 : Int32).toNatClampNeg ((M11.1 71 (1 : Int32).toNatClampNeg) + (1 : Int32))) (fun M12 => some M12)))
def f_X8_line (M : gx_Mem) : Option gx_Mem := gx_let ((61 : Int32) + (M.1 71 (1 : Int32).toNatClampNeg)) (fun x1 => gx_gd (gx_in x1 122) (gx_let (gx_sI M 72 x1.toNatClampNeg (((M.1 57 19).toInt16.toInt32).toInt16.toInt32)) (fun M2 => gx_bP (f_X8_either gx_dep M2) (fun M4 => (if 0 ≤ (M4.1 57 17) then f_X8_line_b66 x1 M4 else gx_bP (f_X8_look M4) (fun y6 => (if y6 = (63 : Int32) then gx_let (gx_sI M4 57 16 ((M4.1 57 16) + (1 : Int32))) (fun M7 => gx_gd (gx_in x1 122) (gx_let (gx_sI M7 72 x1.toNatClampNeg (((M7.1 57 19).toInt16.toInt32).toInt16.toInt32)) (fun M8 => gx_bP (f_X8_either gx_dep M8) (fun M10 => f_X8_line_b66 x1 M10)))) else f_X8_line_b66 x1 M4)))))))
def f_X8_readText_k177   (v1 : Int32) (ag177 : Int32 → gx_Mem → Option (Int32 × gx_Mem)) (v2 : Int32) (M : gx_Mem) : Option (Int32 × gx_Mem) := gx_gd (gx_in v1 2) ((if (M.1 71 v1.toNatClampNeg) ≤ v2 then some ((-1 : Int32), M) else gx_gd (gx_in ((61 : Int32) + v2) 122) (gx_gd (gx_in (((61 : Int32) * v1) + v2) 122) (gx_let (gx_sI M 72 (((61 : Int32) * v1) + v2).toNatClampNeg ((M.1 72 ((61 : Int32) + v2).toNatClampNeg).toInt16.toInt32)) (fun M20 => gx_gd (gx_in ((61 : Int32) + v2) 122) (gx_gd (gx_in (((61 : Int32) * v1) + v2) 122) (gx_let (gx_sI M20 73 (((61 : Int32) * v1) + v2).toNatClampNeg ((M20.1 73 ((61 : Int32) + v2).toNatClampNeg).toInt16.toInt32)) (fun M21 => gx_let (v2 + (1 : Int32)) (fun x22 => ag177 x22 M21)))))))))
def f_X8_readText_l177   (v1 : Int32) (n : Nat) (v2 : Int32) (M : gx_Mem) : Option (Int32 × gx_Mem) := gx_loop (fun (ag177 : Int32 × gx_Mem → Option (Int32 × gx_Mem)) (s : Int32 × gx_Mem) => f_X8_readText_k177 v1 (fun v2 M => ag177 (v2, M)) s.1 s.2) n (v2, M)
def f_X8_readText_k105   (v1 : Int32) (ag105 : Int32 → gx_Mem → Option (Int32 × gx_Mem)) (v2 : Int32) (M : gx_Mem) : Option (Int32 × gx_Mem) := (if (M.1 57 19) ≤ v2 then gx_gd (gx_in v1 2) (gx_let (gx_sI M 71 v1.toNatClampNeg (M.1 71 (1 : Int32).toNatClampNeg)) (fun M16 => f_X8_readText_l177 v1 gx_fuel (0 : Int32) M16)) else gx_gd (gx_in ((130 : Int32) + v2) 260) (gx_gd (gx_in (((130 : Int32) * v1) + v2) 260) (gx_let (gx_sI M 69 (((130 : Int32) * v1) + v2).toNatClampNeg ((M.1 69 ((130 : Int32) + v2).toNatClampNeg).toInt8.toInt32)) (fun M17 => gx_gd (gx_in ((130 : Int32) + v2) 260) (gx_gd (gx_in (((130 : Int32) * v1) + v2) 260) (gx_let (gx_sI M17 70 (((130 : Int32) * v1) + v2).toNatClampNeg (M17.1 70 ((130 : Int32) + v2).toNatClampNeg)) (fun M18 => gx_let (v2 + (1 : Int32)) (fun x19 => ag105 x19 M18))))))))
def f_X8_readText_l105   (v1 : Int32) (n : Nat) (v2 : Int32) (M : gx_Mem) : Option (Int32 × gx_Mem) := gx_loop (fun (ag105 : Int32 × gx_Mem → Option (Int32 × gx_Mem)) (s : Int32 × gx_Mem) => f_X8_readText_k105 v1 (fun v2 M => ag105 (v2, M)) s.1 s.2) n (v2, M)
def f_X8_readText_b86   (v1 : Int32) (M : gx_Mem) : Option (Int32 × gx_Mem) := gx_let (gx_sI M 57 15 (0 : Int32)) (fun M15 => (if (M15.1 57 17) < 0 then f_X8_readText_l105 v1 gx_fuel (0 : Int32) M15 else some ((M15.1 57 17), M15)))
def f_X8_readText_b64   (v1 : Int32) (M : gx_Mem) : Option (Int32 × gx_Mem) := (if 0 ≤ (M.1 57 17) then f_X8_readText_b86 v1 M else (if (M.1 57 15) ≤ (M.1 57 16) then f_X8_readText_b86 v1 M else gx_bP (f_X8_wrong M) (fun M14 => f_X8_readText_b86 v1 M14)))
def f_X8_readText_k31   (v1 : Int32) (ag31 : gx_Mem → Option (Int32 × gx_Mem))  (M : gx_Mem) : Option (Int32 × gx_Mem) := (if 0 ≤ (M.1 57 17) then f_X8_readText_b64 v1 M else gx_bP (f_X8_look M) (fun y9 => (if y9 = (59 : Int32) then gx_let (gx_sI M 57 16 ((M.1 57 16) + (1 : Int32))) (fun M10 => gx_bP (f_X8_line M10) (fun M12 => ag31 M12)) else f_X8_readText_b64 v1 M)))
def f_X8_readText_l31   (v1 : Int32) (n : Nat)  (M : gx_Mem) : Option (Int32 × gx_Mem) := gx_loop (fun (ag31 : gx_Mem → Option (Int32 × gx_Mem)) (s : gx_Mem) => f_X8_readText_k31 v1 (fun M => ag31 (M)) s) n (M)
def f_X8_readText (v1 : Int32) (M : gx_Mem) : Option (Int32 × gx_Mem) := gx_let (gx_sI M 57 16 (0 : Int32)) (fun M1 => gx_let (gx_sI M1 57 17 (-1 : Int32)) (fun M2 => gx_let (gx_sI M2 57 18 (0 : Int32)) (fun M3 => gx_let (gx_sI M3 57 19 (0 : Int32)) (fun M4 => gx_let (gx_sI M4 71 (1 : Int32).toNatClampNeg (0 : Int32)) (fun M5 => gx_bP (f_X8_line M5) (fun M7 => f_X8_readText_l31 v1 gx_fuel M7))))))
def f_X8_law (M : gx_Mem) : Option (Int32 × gx_Mem) := gx_bI (f_X8_readText (0 : Int32) M) (fun y2 M3 => (if y2 < 0 then gx_let (gx_sI M3 57 27 (1 : Int32)) (fun M4 => some ((1 : Int32), M4)) else some (((-100 : Int32) - y2), M3)))
def f_X8_layComes_k60  (ag29 : Int32 → gx_Mem → Option gx_Mem) (ag48 : Int32 → gx_Mem → Option gx_Mem) (v1 : Int32) (v2 : Int32) (ag60 : Int32 → gx_Mem → Option gx_Mem) (v3 : Int32) (M : gx_Mem) : Option gx_Mem := (if (M.1 57 1) ≤ v3 then gx_let (v2 + (1 : Int32)) (fun x11 => ag48 x11 M) else gx_gd (gx_in v3 6) (gx_gd (gx_in v3 6) (gx_gd (gx_in (((24 : Int32) * v2) + (M.1 58 v3.toNatClampNeg)) 96) (gx_gd (gx_in v3 6) (gx_let (gx_sI M 84 v3.toNatClampNeg ((M.1 84 v3.toNatClampNeg) + (M.1 80 (((24 : Int32) * v2) + (M.1 58 v3.toNatClampNeg)).toNatClampNeg))) (fun M12 => gx_let (v3 + (1 : Int32)) (fun x13 => ag60 x13 M12)))))))
def f_X8_layComes_l60  (ag29 : Int32 → gx_Mem → Option gx_Mem) (ag48 : Int32 → gx_Mem → Option gx_Mem) (v1 : Int32) (v2 : Int32) (n : Nat) (v3 : Int32) (M : gx_Mem) : Option gx_Mem := gx_loop (fun (ag60 : Int32 × gx_Mem → Option gx_Mem) (s : Int32 × gx_Mem) => f_X8_layComes_k60 ag29 ag48 v1 v2 (fun v3 M => ag60 (v3, M)) s.1 s.2) n (v3, M)
def f_X8_layComes_k48  (ag29 : Int32 → gx_Mem → Option gx_Mem) (v1 : Int32) (ag48 : Int32 → gx_Mem → Option gx_Mem) (v2 : Int32) (M : gx_Mem) : Option gx_Mem := (if (4 : Int32) ≤ v2 then gx_let (v1 + (1 : Int32)) (fun x8 => ag29 x8 M) else gx_bP (f_X8_flow v2 M) (fun M10 => f_X8_layComes_l60 ag29 ag48 v1 v2 gx_fuel (0 : Int32) M10))
def f_X8_layComes_l48  (ag29 : Int32 → gx_Mem → Option gx_Mem) (v1 : Int32) (n : Nat) (v2 : Int32) (M : gx_Mem) : Option gx_Mem := gx_loop (fun (ag48 : Int32 × gx_Mem → Option gx_Mem) (s : Int32 × gx_Mem) => f_X8_layComes_k48 ag29 v1 (fun v2 M => ag48 (v2, M)) s.1 s.2) n (v2, M)
def f_X8_layComes_k29    (ag29 : Int32 → gx_Mem → Option gx_Mem) (v1 : Int32) (M : gx_Mem) : Option gx_Mem := (if (12 : Int32) ≤ v1 then some M else gx_bP (f_X8_outAt v1 (63 : Int32) M) (fun y6 => gx_let (gx_sI M 57 28 y6) (fun M7 => f_X8_layComes_l48 ag29 v1 gx_fuel (0 : Int32) M7)))
def f_X8_layComes_l29    (n : Nat) (v1 : Int32) (M : gx_Mem) : Option gx_Mem := gx_loop (fun (ag29 : Int32 × gx_Mem → Option gx_Mem) (s : Int32 × gx_Mem) => f_X8_layComes_k29 (fun v1 M => ag29 (v1, M)) s.1 s.2) n (v1, M)
def f_X8_layComes_k6    (ag6 : Int32 → gx_Mem → Option gx_Mem) (v1 : Int32) (M : gx_Mem) : Option gx_Mem := (if (M.1 57 1) ≤ v1 then f_X8_layComes_l29 gx_fuel (0 : Int32) M else gx_gd (gx_in v1 6) (gx_let (gx_sI M 84 v1.toNatClampNeg (1 : Int32)) (fun M3 => gx_let (v1 + (1 : Int32)) (fun x4 => ag6 x4 M3))))
def f_X8_layComes_l6    (n : Nat) (v1 : Int32) (M : gx_Mem) : Option gx_Mem := gx_loop (fun (ag6 : Int32 × gx_Mem → Option gx_Mem) (s : Int32 × gx_Mem) => f_X8_layComes_k6 (fun v1 M => ag6 (v1, M)) s.1 s.2) n (v1, M)
def f_X8_layComes (M : gx_Mem) : Option gx_Mem := gx_bP (f_X8_layNow M) (fun M2 => f_X8_layComes_l6 gx_fuel (0 : Int32) M2)
def f_X8_led (v1 : Int32) (M : gx_Mem) : Option Int32 := gx_bP (f_X8_in v1 (0 : Int32) (4 : Int32) M) (fun y2 => (if y2 = 0 then some (-1 : Int32) else gx_gd (gx_in v1 5) (some (M.1 85 v1.toNatClampNeg))))
def f_X8_lowest_k16   (w0 : Int64) (w2 : Int64) (v4 : Int32) (ag16 : Int64 → Int64 → Option Int64) (w5 : Int64) (w7 : Int64) (M : gx_Mem) : Option Int64 := (if (lg_cmp w7 (0 : Int64)) = 0 then (if v4 = 0 then gx_gd (decide (¬ w5 = 0)) (some (w0 / w5)) else gx_gd (decide (¬ w5 = 0)) (some (w2 / w5))) else gx_gd (decide (¬ w7 = 0)) (gx_let (gx_remJ w5 w7) (fun x1 => ag16 w7 x1)))
def f_X8_lowest_l16   (w0 : Int64) (w2 : Int64) (v4 : Int32) (n : Nat) (w5 : Int64) (w7 : Int64) (M : gx_Mem) : Option Int64 := gx_loop (fun (ag16 : Int64 × Int64 → Option Int64) (s : Int64 × Int64) => f_X8_lowest_k16 w0 w2 v4 (fun w5 w7 => ag16 (w5, w7)) s.1 s.2 M) n (w5, w7)
def f_X8_lowest (w0 : Int64) (w2 : Int64) (v4 : Int32) (M : gx_Mem) : Option Int64 := (if (lg_cmp w0 (0 : Int64)) = 0 then some v4.toInt64 else f_X8_lowest_l16 w0 w2 v4 gx_fuel w0 w2 M)
def f_X8_mayHave_b72   (v1 : Int32) (M : gx_Mem) : Option Int32 := gx_bP (f_X8_in v1 (0 : Int32) (9 : Int32) M) (fun y10 => gx_gd (gx_isZ y10) (some y10))
def f_X8_mayHave (v0 : Int32) (v1 : Int32) (M : gx_Mem) : Option Int32 := if v0 = (0 : Int32) then gx_bP (f_X8_isFlat v1 M) (fun y2 => gx_gd (gx_isZ y2) (some y2)) else (if v0 = (1 : Int32) then gx_bP (f_X8_in v1 (0 : Int32) (4095 : Int32) M) (fun y4 => gx_gd (gx_isZ y4) (some y4)) else (if v0 = (2 : Int32) then f_X8_mayHave_b72 v1 M else (if v0 = (3 : Int32) then gx_bP (f_X8_in v1 (0 : Int32) (9999 : Int32) M) (fun y6 => gx_gd (gx_isZ y6) (some y6)) else (if v0 = (4 : Int32) then f_X8_mayHave_b72 v1 M else (if v0 = (5 : Int32) then f_X8_mayHave_b72 v1 M else (if v0 = (6 : Int32) then gx_bP (f_X8_isHour v1 M) (fun y8 => gx_gd (gx_isZ y8) (some y8)) else (f_X8_mayHave_b72 v1 M)))))))
def f_X8_oddsOf_b110  (ag19 : Int64 → Int64 → Int32 → gx_Mem → Option (Int64 × gx_Mem)) (v1 : Int32) (v2 : Int32) (v3 : Int32) (v4 : Int32) (w5 : Int64) (w7 : Int64) (v9 : Int32) (M : gx_Mem) : Option (Int64 × gx_Mem) := gx_let (v9 + (1 : Int32)) (fun x12 => ag19 w5 w7 x12 M)
def f_X8_oddsOf_b101  (ag19 : Int64 → Int64 → Int32 → gx_Mem → Option (Int64 × gx_Mem)) (v1 : Int32) (v2 : Int32) (v3 : Int32) (v4 : Int32) (w7 : Int64) (v9 : Int32) (s0 : Int64) (s1 : Int64) (M : gx_Mem) : Option (Int64 × gx_Mem) := gx_let (s0 + s1) (fun x13 => gx_let (w7 + (1 : Int64)) (fun x14 => f_X8_oddsOf_b110 ag19 v1 v2 v3 v4 x13 x14 v9 M))
def f_X8_oddsOf_k19   (v1 : Int32) (v2 : Int32) (v3 : Int32) (v4 : Int32) (ag19 : Int64 → Int64 → Int32 → gx_Mem → Option (Int64 × gx_Mem)) (w5 : Int64) (w7 : Int64) (v9 : Int32) (M : gx_Mem) : Option (Int64 × gx_Mem) := (if (gx_shl (1 : Int32) (M.1 57 1)) ≤ v9 then gx_bP (f_X8_lowest w5 w7 v3 M) (fun y5 => some (y5, M)) else gx_bP (f_X8_has v9 v4 M) (fun y7 => (if y7 = 0 then f_X8_oddsOf_b110 ag19 v1 v2 v3 v4 w5 w7 v9 M else gx_let (gx_sI M 57 28 v9) (fun M8 => gx_bP (f_X8_flow (gx_rem v1 (10 : Int32)) M8) (fun M10 => gx_gd (gx_in v4 6) (gx_gd (gx_in (((24 : Int32) * (gx_rem v1 (10 : Int32))) + (M10.1 58 v4.toNatClampNeg)) 96) (gx_let (M10.1 80 (((24 : Int32) * (gx_rem v1 (10 : Int32))) + (M10.1 58 v4.toNatClampNeg)).toNatClampNeg) (fun x11 => (if v2 = 0 then (if x11 ≤ 0 then f_X8_oddsOf_b101 ag19 v1 v2 v3 v4 w7 v9 w5 (0 : Int64) M10 else f_X8_oddsOf_b101 ag19 v1 v2 v3 v4 w7 v9 w5 (1 : Int64) M10) else f_X8_oddsOf_b101 ag19 v1 v2 v3 v4 w7 v9 w5 x11.toInt64 M10)))))))))
def f_X8_oddsOf_l19   (v1 : Int32) (v2 : Int32) (v3 : Int32) (v4 : Int32) (n : Nat) (w5 : Int64) (w7 : Int64) (v9 : Int32) (M : gx_Mem) : Option (Int64 × gx_Mem) := gx_loop (fun (ag19 : Int64 × Int64 × Int32 × gx_Mem → Option (Int64 × gx_Mem)) (s : Int64 × Int64 × Int32 × gx_Mem) => f_X8_oddsOf_k19 v1 v2 v3 v4 (fun w5 w7 v9 M => ag19 (w5, w7, v9, M)) s.1 s.2.1 s.2.2.1 s.2.2.2) n (w5, w7, v9, M)
def f_X8_oddsOf (v1 : Int32) (v2 : Int32) (v3 : Int32) (M : gx_Mem) : Option (Int64 × gx_Mem) := gx_bP (f_X8_layNow M) (fun M2 => gx_let (v1 / (10 : Int32)) (fun x3 => f_X8_oddsOf_l19 v1 v2 v3 x3 gx_fuel (0 : Int64) (0 : Int64) (0 : Int32) M2))
def f_X8_mean (v1 : Int32) (v2 : Int32) (v3 : Int32) (M : gx_Mem) : Option (Int64 × gx_Mem) := gx_bP (f_X8_areMark v1 M) (fun y2 => (if y2 = 0 then some ((-9223372036854775808 : Int64), M) else gx_bP (f_X8_isHour v2 M) (fun y4 => (if y4 = 0 then some ((-9223372036854775808 : Int64), M) else gx_bP (f_X8_in v3 (0 : Int32) (1 : Int32) M) (fun y6 => (if y6 = 0 then some ((-9223372036854775808 : Int64), M) else gx_bI (f_X8_oddsOf v1 (1 : Int32) v3 M) (fun y8 M9 => some (y8, M9))))))))
def f_X8_mend (v1 : Int32) (v2 : Int32) (v3 : Int32) (M : gx_Mem) : Option (Int32 × gx_Mem) := gx_bP (f_X8_isPlace v1 v2 M) (fun y2 => (if y2 = 0 then some ((-1 : Int32), M) else gx_bP (f_X8_mayHave v2 v3 M) (fun y4 => (if y4 = 0 then some ((-1 : Int32), M) else gx_bI (f_X8_changes v2 v1 v3 M) (fun y6 M7 => some (y6, M7))))))
def f_X8_most_b99  (ag57 : Int32 → Int32 → Int32 → gx_Mem → Option (Int32 × gx_Mem)) (v2 : Int32) (v4 : Int32) (v5 : Int32) (v6 : Int32) (M : gx_Mem) : Option (Int32 × gx_Mem) := gx_let (v6 + (1 : Int32)) (fun x14 => ag57 v4 v5 x14 M)
def f_X8_most_k57   (v2 : Int32) (ag57 : Int32 → Int32 → Int32 → gx_Mem → Option (Int32 × gx_Mem)) (v4 : Int32) (v5 : Int32) (v6 : Int32) (M : gx_Mem) : Option (Int32 × gx_Mem) := (if (4 : Int32) ≤ v6 then some (v4, M) else gx_gd (gx_in (((4 : Int32) * v2) + v6) 24) ((if v5 < (M.1 78 (((4 : Int32) * v2) + v6).toNatClampNeg) then gx_gd (gx_in (((4 : Int32) * v2) + v6) 24) (gx_let (M.1 78 (((4 : Int32) * v2) + v6).toNatClampNeg) (fun x13 => f_X8_most_b99 ag57 v2 v6 x13 v6 M)) else f_X8_most_b99 ag57 v2 v4 v5 v6 M)))
def f_X8_most_l57   (v2 : Int32) (n : Nat) (v4 : Int32) (v5 : Int32) (v6 : Int32) (M : gx_Mem) : Option (Int32 × gx_Mem) := gx_loop (fun (ag57 : Int32 × Int32 × Int32 × gx_Mem → Option (Int32 × gx_Mem)) (s : Int32 × Int32 × Int32 × gx_Mem) => f_X8_most_k57 v2 (fun v4 v5 v6 M => ag57 (v4, v5, v6, M)) s.1 s.2.1 s.2.2.1 s.2.2.2) n (v4, v5, v6, M)
def f_X8_most (v1 : Int32) (v2 : Int32) (v3 : Int32) (M : gx_Mem) : Option (Int32 × gx_Mem) := gx_bP (f_X8_areHours v1 M) (fun y2 => (if y2 = 0 then some ((-1 : Int32), M) else gx_bP (f_X8_isOne v2 M) (fun y4 => (if y4 = 0 then some ((-1 : Int32), M) else gx_bP (f_X8_in v3 (0 : Int32) (1 : Int32) M) (fun y6 => (if y6 = 0 then some ((-1 : Int32), M) else gx_bP (f_X8_layNow M) (fun M8 => gx_bP (f_X8_goHours v1 (63 : Int32) M8) (fun M10 => (if v3 = 0 then gx_bP (f_X8_allWet v2 M10) (fun y12 => some (y12, M10)) else f_X8_most_l57 v2 gx_fuel (-2 : Int32) (0 : Int32) (0 : Int32) M10)))))))))
def f_X8_moves (v1 : Int32) (v2 : Int32) (M : gx_Mem) : Option (Int32 × gx_Mem) := gx_bP (f_X8_isOne v1 M) (fun y2 => (if y2 = 0 then some ((-1 : Int32), M) else gx_bP (f_X8_isFlat v2 M) (fun y4 => (if y4 = 0 then some ((-1 : Int32), M) else gx_gd (gx_in v1 6) (gx_let (M.1 58 v1.toNatClampNeg) (fun x5 => gx_gd (gx_in v1 6) (gx_let (gx_sI M 58 v1.toNatClampNeg v2) (fun M6 => gx_let (gx_sI M6 85 (1 : Int32).toNatClampNeg ((M6.1 85 (1 : Int32).toNatClampNeg) + (1 : Int32))) (fun M7 => some (x5, M7))))))))))
def f_X8_odds (v1 : Int32) (v2 : Int32) (v3 : Int32) (M : gx_Mem) : Option (Int64 × gx_Mem) := gx_bP (f_X8_areMark v1 M) (fun y2 => (if y2 = 0 then some ((-9223372036854775808 : Int64), M) else gx_bP (f_X8_isHour v2 M) (fun y4 => (if y4 = 0 then some ((-9223372036854775808 : Int64), M) else gx_bP (f_X8_in v3 (0 : Int32) (1 : Int32) M) (fun y6 => (if y6 = 0 then some ((-9223372036854775808 : Int64), M) else gx_bI (f_X8_oddsOf v1 (0 : Int32) v3 M) (fun y8 M9 => some (y8, M9))))))))
def f_X8_of (v1 : Int32) (v2 : Int32) (M : gx_Mem) : Option Int32 := gx_bP (f_X8_isPlace v1 v2 M) (fun y2 => (if y2 = 0 then some (-1 : Int32) else gx_bP (f_X8_valueAt v2 v1 M) (fun y4 => some y4)))
def f_X8_others_b31  (ag5 : Int64 → Int32 → Option Int64) (v1 : Int32) (w2 : Int64) (v4 : Int32) (M : gx_Mem) : Option Int64 := gx_let (v4 + (1 : Int32)) (fun x2 => ag5 w2 x2)
def f_X8_others_k5   (v1 : Int32) (ag5 : Int64 → Int32 → Option Int64) (w2 : Int64) (v4 : Int32) (M : gx_Mem) : Option Int64 := (if (M.1 57 1) ≤ v4 then some w2 else (if v4 = v1 then f_X8_others_b31 ag5 v1 w2 v4 M else gx_gd (gx_in v4 6) (gx_let (w2 * ((M.1 84 v4.toNatClampNeg).toInt64)) (fun x1 => f_X8_others_b31 ag5 v1 x1 v4 M))))
def f_X8_others_l5   (v1 : Int32) (n : Nat) (w2 : Int64) (v4 : Int32) (M : gx_Mem) : Option Int64 := gx_loop (fun (ag5 : Int64 × Int32 → Option Int64) (s : Int64 × Int32) => f_X8_others_k5 v1 (fun w2 v4 => ag5 (w2, v4)) s.1 s.2 M) n (w2, v4)
def f_X8_others (v1 : Int32) (M : gx_Mem) : Option Int64 := f_X8_others_l5 v1 gx_fuel (1 : Int64) (0 : Int32) M
def f_X8_people_k58   (v1 : Int32) (v2 : Int32) (v3 : Int32) (ag58 : Int32 → gx_Mem → Option (Int32 × gx_Mem)) (v4 : Int32) (M : gx_Mem) : Option (Int32 × gx_Mem) := (if v3 ≤ v4 then some (v3, M) else gx_let (v2.toInt64 + (((2 : Int32) * v4).toInt64)) (fun x5 => (if (lg_cmp x5 (0 : Int64)) < 0 then some (v4, M) else gx_gd (gx_in v1 6) ((if 0 ≤ (lg_cmp (x5 + (1 : Int64)) ((M.1 93 v1.toNatClampNeg).toInt64)) then some (v4, M) else (if (M.1 57 1) = (6 : Int32) then some (v4, M) else gx_let (((60 : Int32) * v1) + x5.toInt32) (fun x6 => gx_gd (gx_in x6 360) (gx_bP (f_X8_isFlat ((M.2 94 x6.toNatClampNeg).toInt32) M) (fun y8 => (if y8 = 0 then some (v4, M) else gx_gd (gx_in (x6 + (1 : Int32)) 360) (gx_bP (f_X8_in ((M.2 94 (x6 + (1 : Int32)).toNatClampNeg).toInt32) (0 : Int32) (4095 : Int32) M) (fun y10 => (if y10 = 0 then some (v4, M) else gx_gd (gx_in x6 360) (gx_gd (gx_in (x6 + (1 : Int32)) 360) (gx_bI (f_X8_addOne ((M.2 94 x6.toNatClampNeg).toInt32) ((M.2 94 (x6 + (1 : Int32)).toNatClampNeg).toInt32) M) (fun y12 M13 => gx_let (v4 + (1 : Int32)) (fun x14 => ag58 x14 M13)))))))))))))))))
def f_X8_people_l58   (v1 : Int32) (v2 : Int32) (v3 : Int32) (n : Nat) (v4 : Int32) (M : gx_Mem) : Option (Int32 × gx_Mem) := gx_loop (fun (ag58 : Int32 × gx_Mem → Option (Int32 × gx_Mem)) (s : Int32 × gx_Mem) => f_X8_people_k58 v1 v2 v3 (fun v4 M => ag58 (v4, M)) s.1 s.2) n (v4, M)
def f_X8_people_b43   (v1 : Int32) (v2 : Int32) (v3 : Int32) (M : gx_Mem) : Option (Int32 × gx_Mem) := gx_gd (gx_in v1 6) ((if (M.1 92 v1.toNatClampNeg) = (-1 : Int32) then some ((0 : Int32), M) else f_X8_people_l58 v1 v2 v3 gx_fuel (0 : Int32) M))
def f_X8_people (v1 : Int32) (v2 : Int32) (v3 : Int32) (M : gx_Mem) : Option (Int32 × gx_Mem) := gx_bP (f_X8_isShelf v1 M) (fun y2 => (if y2 = 0 then some ((-1 : Int32), M) else gx_bP (f_X8_in v3 (1 : Int32) (6 : Int32) M) (fun y4 => (if y4 = 0 then some ((-1 : Int32), M) else gx_gd (gx_in v1 6) ((if (M.1 92 v1.toNatClampNeg) = (-1 : Int32) then f_X8_people_b43 v1 v2 v3 M else gx_gd (gx_in v1 6) ((if (M.1 92 v1.toNatClampNeg) = (-3 : Int32) then f_X8_people_b43 v1 v2 v3 M else some ((-12 : Int32), M)))))))))
def f_X8_person (v1 : Int32) (v2 : Int32) (M : gx_Mem) : Option (Int32 × gx_Mem) := gx_bP (f_X8_isFlat v1 M) (fun y2 => (if y2 = 0 then some ((-1 : Int32), M) else gx_bP (f_X8_in v2 (0 : Int32) (4095 : Int32) M) (fun y4 => (if y4 = 0 then some ((-1 : Int32), M) else (if (M.1 57 1) = (6 : Int32) then some ((-3 : Int32), M) else gx_bI (f_X8_addOne v1 v2 M) (fun y6 M7 => some (y6, M7)))))))
def f_X8_porter (v1 : Int32) (v2 : Int32) (M : gx_Mem) : Option (Int32 × gx_Mem) := gx_bP (f_X8_isHour v1 M) (fun y2 => (if y2 = 0 then some ((-1 : Int32), M) else gx_bP (f_X8_isMark v2 M) (fun y4 => (if y4 = 0 then some ((-1 : Int32), M) else gx_bP (f_X8_layNow M) (fun M6 => gx_bP (f_X8_outAt v1 (63 : Int32) M6) (fun y8 => gx_let (gx_sI M6 57 28 y8) (fun M9 => gx_bP (f_X8_flow v2 M9) (fun M11 => gx_bP (f_X8_toPorter v2 M11) (fun y13 => some (y13, M11))))))))))
def f_X8_put_b95   (s1 : Int32) (s2 : Int64) (M : gx_Mem) : Option (Int32 × gx_Mem) := gx_gd (gx_in s1 360) (gx_let (gx_sL M 94 s1.toNatClampNeg s2) (fun M4 => some ((1 : Int32), M4)))
def f_X8_put (v1 : Int32) (v2 : Int32) (w3 : Int64) (M : gx_Mem) : Option (Int32 × gx_Mem) := gx_bP (f_X8_whyNoPlace v1 v2 M) (fun y2 => (if 0 ≤ y2 then gx_gd (gx_in v1 6) (gx_let ((-2 : Int32) - (M.1 92 v1.toNatClampNeg)) (fun x3 => (if x3 = 0 then f_X8_put_b95 (((60 : Int32) * v1) + v2) w3.toInt32.toInt8.toInt32.toInt64 M else (if x3 = (1 : Int32) then f_X8_put_b95 (((60 : Int32) * v1) + v2) w3.toInt32.toInt16.toInt32.toInt64 M else (if x3 = (2 : Int32) then f_X8_put_b95 (((60 : Int32) * v1) + v2) w3.toInt32.toInt64 M else (if x3 = (3 : Int32) then f_X8_put_b95 (((60 : Int32) * v1) + v2) w3 M else (if (lg_cmp w3 (0 : Int64)) = 0 then f_X8_put_b95 (((60 : Int32) * v1) + v2) (0 : Int64) M else f_X8_put_b95 (((60 : Int32) * v1) + v2) (1 : Int64) M))))))) else some (y2, M)))
def f_X8_redo (M : gx_Mem) : Option (Int32 × gx_Mem) := (if (M.1 57 9) = 0 then some ((-5 : Int32), M) else gx_gd (gx_in (M.1 57 8) 40) (gx_gd (gx_in (M.1 57 8) 40) (gx_gd (gx_in (M.1 57 8) 40) (gx_bP (f_X8_lays (M.1 64 (M.1 57 8).toNatClampNeg) (M.1 65 (M.1 57 8).toNatClampNeg) (M.1 67 (M.1 57 8).toNatClampNeg) M) (fun M2 => gx_let (gx_sI M2 57 8 ((M2.1 57 8) + (1 : Int32))) (fun M3 => gx_let (gx_sI M3 57 9 ((M3.1 57 9) - (1 : Int32))) (fun M4 => some ((M4.1 57 9), M4))))))))
def f_X8_rent_k30   (v1 : Int32) (v2 : Int32) (ag30 : Int64 → Int32 → gx_Mem → Option (Int32 × gx_Mem)) (w3 : Int64) (v5 : Int32) (M : gx_Mem) : Option (Int32 × gx_Mem) := (if (M.1 57 1) ≤ v5 then gx_bP (f_X8_others v1 M) (fun y8 => gx_gd (decide (¬ w3 = 0)) (some ((((v2.toInt64 * y8) / w3).toInt32), M))) else gx_bP (f_X8_others v5 M) (fun y10 => gx_let (w3 + y10) (fun x11 => gx_let (v5 + (1 : Int32)) (fun x12 => ag30 x11 x12 M))))
def f_X8_rent_l30   (v1 : Int32) (v2 : Int32) (n : Nat) (w3 : Int64) (v5 : Int32) (M : gx_Mem) : Option (Int32 × gx_Mem) := gx_loop (fun (ag30 : Int64 × Int32 × gx_Mem → Option (Int32 × gx_Mem)) (s : Int64 × Int32 × gx_Mem) => f_X8_rent_k30 v1 v2 (fun w3 v5 M => ag30 (w3, v5, M)) s.1 s.2.1 s.2.2) n (w3, v5, M)
def f_X8_rent (v1 : Int32) (v2 : Int32) (M : gx_Mem) : Option (Int32 × gx_Mem) := gx_bP (f_X8_isOne v1 M) (fun y2 => (if y2 = 0 then some ((-1 : Int32), M) else gx_bP (f_X8_in v2 (0 : Int32) (999 : Int32) M) (fun y4 => (if y4 = 0 then some ((-1 : Int32), M) else gx_bP (f_X8_layComes M) (fun M6 => f_X8_rent_l30 v1 v2 gx_fuel (0 : Int64) (0 : Int32) M6)))))
def f_X8_row_k54   (v1 : Int32) (ag54 : Int32 → gx_Mem → Option (Int32 × gx_Mem)) (v4 : Int32) (M : gx_Mem) : Option (Int32 × gx_Mem) := (if (((60 : Int32) * v1) + (60 : Int32)) ≤ v4 then some ((1 : Int32), M) else gx_gd (gx_in v4 360) (gx_let (gx_sL M 94 v4.toNatClampNeg (0 : Int64)) (fun M8 => gx_let (v4 + (1 : Int32)) (fun x9 => ag54 x9 M8))))
def f_X8_row_l54   (v1 : Int32) (n : Nat) (v4 : Int32) (M : gx_Mem) : Option (Int32 × gx_Mem) := gx_loop (fun (ag54 : Int32 × gx_Mem → Option (Int32 × gx_Mem)) (s : Int32 × gx_Mem) => f_X8_row_k54 v1 (fun v4 M => ag54 (v4, M)) s.1 s.2) n (v4, M)
def f_X8_row (v1 : Int32) (v2 : Int32) (v3 : Int32) (M : gx_Mem) : Option (Int32 × gx_Mem) := gx_bP (f_X8_isShelf v1 M) (fun y2 => (if y2 = 0 then some ((-1 : Int32), M) else gx_bP (f_X8_in v2 (0 : Int32) (4 : Int32) M) (fun y4 => (if y4 = 0 then some ((-1 : Int32), M) else (if v3 ≤ (60 : Int32) then (if 0 ≤ v3 then gx_gd (gx_in v1 6) (gx_let (gx_sI M 92 v1.toNatClampNeg ((-2 : Int32) - v2)) (fun M5 => gx_gd (gx_in v1 6) (gx_let (gx_sI M5 93 v1.toNatClampNeg v3) (fun M6 => gx_let ((60 : Int32) * v1) (fun x7 => f_X8_row_l54 v1 gx_fuel x7 M6))))) else some ((-14 : Int32), M)) else some ((-1 : Int32), M))))))
def f_X8_rowFault (v1 : Int32) (M : gx_Mem) : Option Int32 := gx_gd (gx_in v1 6) ((if (M.1 92 v1.toNatClampNeg) = (-1 : Int32) then some (-11 : Int32) else gx_gd (gx_in v1 6) ((if (M.1 92 v1.toNatClampNeg) = (-2 : Int32) then gx_gd (gx_in v1 6) ((if (M.1 93 v1.toNatClampNeg) = (4 : Int32) then some (0 : Int32) else some (-1 : Int32))) else some (-12 : Int32)))))
def f_X8_shift_k150   (v3 : Int32) (v4 : Int32) (v5 : Int32) (ag150 : Int32 → gx_Mem → Option (Int32 × gx_Mem)) (v6 : Int32) (M : gx_Mem) : Option (Int32 × gx_Mem) := (if v5 ≤ v6 then some (v5, M) else gx_gd (gx_in v6 60) (gx_gd (gx_in ((((60 : Int32) * v3) + v4) + v6) 360) (gx_let (gx_sL M 94 ((((60 : Int32) * v3) + v4) + v6).toNatClampNeg (M.2 95 v6.toNatClampNeg)) (fun M7 => gx_let (v6 + (1 : Int32)) (fun x8 => ag150 x8 M7)))))
def f_X8_shift_l150   (v3 : Int32) (v4 : Int32) (v5 : Int32) (n : Nat) (v6 : Int32) (M : gx_Mem) : Option (Int32 × gx_Mem) := gx_loop (fun (ag150 : Int32 × gx_Mem → Option (Int32 × gx_Mem)) (s : Int32 × gx_Mem) => f_X8_shift_k150 v3 v4 v5 (fun v6 M => ag150 (v6, M)) s.1 s.2) n (v6, M)
def f_X8_shift_k113   (v1 : Int32) (v2 : Int32) (v3 : Int32) (v4 : Int32) (v5 : Int32) (ag113 : Int32 → gx_Mem → Option (Int32 × gx_Mem)) (v6 : Int32) (M : gx_Mem) : Option (Int32 × gx_Mem) := (if v5 ≤ v6 then f_X8_shift_l150 v3 v4 v5 gx_fuel (0 : Int32) M else gx_gd (gx_in ((((60 : Int32) * v1) + v2) + v6) 360) (gx_gd (gx_in v6 60) (gx_let (gx_sL M 95 v6.toNatClampNeg (M.2 94 ((((60 : Int32) * v1) + v2) + v6).toNatClampNeg)) (fun M5 => gx_let (v6 + (1 : Int32)) (fun x6 => ag113 x6 M5)))))
def f_X8_shift_l113   (v1 : Int32) (v2 : Int32) (v3 : Int32) (v4 : Int32) (v5 : Int32) (n : Nat) (v6 : Int32) (M : gx_Mem) : Option (Int32 × gx_Mem) := gx_loop (fun (ag113 : Int32 × gx_Mem → Option (Int32 × gx_Mem)) (s : Int32 × gx_Mem) => f_X8_shift_k113 v1 v2 v3 v4 v5 (fun v6 M => ag113 (v6, M)) s.1 s.2) n (v6, M)
def f_X8_shift (v1 : Int32) (v2 : Int32) (v3 : Int32) (v4 : Int32) (v5 : Int32) (M : gx_Mem) : Option (Int32 × gx_Mem) := gx_bP (f_X8_isShelf v1 M) (fun y2 => (if y2 = 0 then some ((-1 : Int32), M) else gx_bP (f_X8_isShelf v3 M) (fun y4 => (if y4 = 0 then some ((-1 : Int32), M) else gx_gd (gx_in v1 6) ((if (M.1 92 v1.toNatClampNeg) = (-1 : Int32) then some ((-11 : Int32), M) else gx_gd (gx_in v3 6) ((if (M.1 92 v3.toNatClampNeg) = (-1 : Int32) then some ((-11 : Int32), M) else gx_gd (gx_in v1 6) ((if 0 ≤ (M.1 92 v1.toNatClampNeg) then some ((-12 : Int32), M) else gx_gd (gx_in v1 6) (gx_gd (gx_in v3 6) ((if (M.1 92 v1.toNatClampNeg) = (M.1 92 v3.toNatClampNeg) then (if v5 < 0 then some ((-13 : Int32), M) else (if v2 < 0 then some ((-13 : Int32), M) else (if v4 < 0 then some ((-13 : Int32), M) else gx_gd (gx_in v1 6) ((if ((M.1 93 v1.toNatClampNeg) - v5) < v2 then some ((-13 : Int32), M) else gx_gd (gx_in v3 6) ((if v4 ≤ ((M.1 93 v3.toNatClampNeg) - v5) then f_X8_shift_l113 v1 v2 v3 v4 v5 gx_fuel (0 : Int32) M else some ((-13 : Int32), M)))))))) else some ((-12 : Int32), M))))))))))))))
def f_X8_swap_b128  (ag12 : Int32 → gx_Mem → Option (Int32 × gx_Mem)) (v1 : Int32) (v2 : Int32) (M : gx_Mem) : Option (Int32 × gx_Mem) := gx_let (v2 + (1 : Int32)) (fun x25 => ag12 x25 M)
def f_X8_swap_k12   (v1 : Int32) (ag12 : Int32 → gx_Mem → Option (Int32 × gx_Mem)) (v2 : Int32) (M : gx_Mem) : Option (Int32 × gx_Mem) := (if (M.1 57 1) ≤ v2 then some ((-2 : Int32), M) else (if v2 = v1 then f_X8_swap_b128 ag12 v1 v2 M else gx_bP (f_X8_layNow M) (fun M4 => gx_bP (f_X8_goHours (12 : Int32) (63 : Int32) M4) (fun M6 => gx_bP (f_X8_wetter v1 M6) (fun y8 => gx_bP (f_X8_wetter v2 M6) (fun y10 => gx_bP (f_X8_layNow M6) (fun M12 => gx_gd (gx_in v2 6) (gx_gd (gx_in v1 6) (gx_let (gx_sI M12 76 v1.toNatClampNeg (M12.1 58 v2.toNatClampNeg)) (fun M13 => gx_gd (gx_in v1 6) (gx_gd (gx_in v2 6) (gx_let (gx_sI M13 76 v2.toNatClampNeg (M13.1 58 v1.toNatClampNeg)) (fun M14 => gx_bP (f_X8_goHours (12 : Int32) (63 : Int32) M14) (fun M16 => gx_bP (f_X8_wetter v1 M16) (fun y18 => (if y8 < y18 then f_X8_swap_b128 ag12 v1 v2 M16 else gx_bP (f_X8_wetter v2 M16) (fun y20 => (if y10 < y20 then f_X8_swap_b128 ag12 v1 v2 M16 else gx_bP (f_X8_wetter v1 M16) (fun y22 => gx_bP (f_X8_wetter v2 M16) (fun y24 => (if (y8 + y10) ≤ (y22 + y24) then f_X8_swap_b128 ag12 v1 v2 M16 else some (v2, M16))))))))))))))))))))))
def f_X8_swap_l12   (v1 : Int32) (n : Nat) (v2 : Int32) (M : gx_Mem) : Option (Int32 × gx_Mem) := gx_loop (fun (ag12 : Int32 × gx_Mem → Option (Int32 × gx_Mem)) (s : Int32 × gx_Mem) => f_X8_swap_k12 v1 (fun v2 M => ag12 (v2, M)) s.1 s.2) n (v2, M)
def f_X8_swap (v1 : Int32) (M : gx_Mem) : Option (Int32 × gx_Mem) := gx_bP (f_X8_isOne v1 M) (fun y2 => (if y2 = 0 then some ((-1 : Int32), M) else f_X8_swap_l12 v1 gx_fuel (0 : Int32) M))
def f_X8_taken (v1 : Int32) (v2 : Int32) (M : gx_Mem) : Option Int32 := gx_bP (f_X8_isShelf v1 M) (fun y2 => (if y2 = 0 then some (-1 : Int32) else gx_bP (f_X8_in v2 (0 : Int32) (7 : Int32) M) (fun y4 => (if y4 = 0 then some (-1 : Int32) else gx_gd (gx_in v1 6) ((if (M.1 92 v1.toNatClampNeg) = (-1 : Int32) then some (-11 : Int32) else gx_gd (gx_in v1 6) ((if (M.1 92 v1.toNatClampNeg) < 0 then some (-12 : Int32) else gx_gd (gx_in v1 6) (gx_gd (gx_in (M.1 92 v1.toNatClampNeg) 50) (gx_bP (f_X8_isUnder (M.1 90 (M.1 92 v1.toNatClampNeg).toNatClampNeg) v2 M) (fun y6 => (if y6 = 0 then some (-12 : Int32) else gx_gd (gx_in v1 6) (gx_gd (gx_in (M.1 92 v1.toNatClampNeg) 50) (some (M.1 90 (M.1 92 v1.toNatClampNeg).toNatClampNeg)))))))))))))))
def f_X8_thought_b134  (ag95 : Int32 → Int32 → Int32 → gx_Mem → Option (Int32 × gx_Mem)) (v1 : Int32) (v4 : Int32) (v5 : Int32) (v6 : Int32) (v7 : Int32) (v8 : Int32) (v9 : Int32) (M : gx_Mem) : Option (Int32 × gx_Mem) := gx_let (v9 + (1 : Int32)) (fun x25 => ag95 v7 v8 x25 M)
def f_X8_thought_b131  (ag95 : Int32 → Int32 → Int32 → gx_Mem → Option (Int32 × gx_Mem)) (v1 : Int32) (v4 : Int32) (v5 : Int32) (v6 : Int32) (v7 : Int32) (v8 : Int32) (v9 : Int32) (M : gx_Mem) : Option (Int32 × gx_Mem) := gx_let (v7 + (1 : Int32)) (fun x26 => f_X8_thought_b134 ag95 v1 v4 v5 v6 x26 v8 v9 M)
def f_X8_thought_k95   (v1 : Int32) (v4 : Int32) (v5 : Int32) (v6 : Int32) (ag95 : Int32 → Int32 → Int32 → gx_Mem → Option (Int32 × gx_Mem)) (v7 : Int32) (v8 : Int32) (v9 : Int32) (M : gx_Mem) : Option (Int32 × gx_Mem) := (if (9 : Int32) < v9 then gx_gd (gx_in v5 24) (gx_let (gx_sI M 60 v5.toNatClampNeg v6) (fun M20 => (if v4 = 0 then some (v7, M20) else some (v8, M20)))) else gx_gd (gx_in v5 24) (gx_let (gx_sI M 60 v5.toNatClampNeg v9) (fun M21 => gx_bI (f_X8_isJust v1 M21) (fun y23 M24 => (if y23 = 0 then f_X8_thought_b134 ag95 v1 v4 v5 v6 v7 v8 v9 M24 else (if v7 = 0 then f_X8_thought_b131 ag95 v1 v4 v5 v6 v7 v9 v9 M24 else f_X8_thought_b131 ag95 v1 v4 v5 v6 v7 v8 v9 M24))))))
def f_X8_thought_l95   (v1 : Int32) (v4 : Int32) (v5 : Int32) (v6 : Int32) (n : Nat) (v7 : Int32) (v8 : Int32) (v9 : Int32) (M : gx_Mem) : Option (Int32 × gx_Mem) := gx_loop (fun (ag95 : Int32 × Int32 × Int32 × gx_Mem → Option (Int32 × gx_Mem)) (s : Int32 × Int32 × Int32 × gx_Mem) => f_X8_thought_k95 v1 v4 v5 v6 (fun v7 v8 v9 M => ag95 (v7, v8, v9, M)) s.1 s.2.1 s.2.2.1 s.2.2.2) n (v7, v8, v9, M)
def f_X8_thought (v1 : Int32) (v2 : Int32) (v3 : Int32) (v4 : Int32) (M : gx_Mem) : Option (Int32 × gx_Mem) := gx_bP (f_X8_isShelf v1 M) (fun y2 => (if y2 = 0 then some ((-1 : Int32), M) else gx_bP (f_X8_isHour v2 M) (fun y4 => (if y4 = 0 then some ((-1 : Int32), M) else gx_bP (f_X8_areMark v3 M) (fun y6 => (if y6 = 0 then some ((-1 : Int32), M) else gx_bP (f_X8_in v4 (0 : Int32) (1 : Int32) M) (fun y8 => (if y8 = 0 then some ((-1 : Int32), M) else gx_bP (f_X8_rowFault v1 M) (fun y10 => (if 0 ≤ y10 then gx_bP (f_X8_layNow M) (fun M12 => gx_bP (f_X8_outAt v2 (63 : Int32) M12) (fun y14 => gx_let (gx_sI M12 57 28 y14) (fun M15 => gx_let (((4 : Int32) * (v3 / (10 : Int32))) + (gx_rem v3 (10 : Int32))) (fun x16 => gx_gd (gx_in x16 24) (gx_let (M15.1 60 x16.toNatClampNeg) (fun x17 => f_X8_thought_l95 v1 v4 x16 x17 gx_fuel (0 : Int32) (-2 : Int32) (0 : Int32) M15)))))) else gx_bP (f_X8_rowFault v1 M) (fun y19 => some (y19, M))))))))))))
def f_X8_trace (v1 : Int32) (M : gx_Mem) : Option Int32 := (if v1 < 0 then some (-1 : Int32) else (if (M.1 57 54) ≤ v1 then some (-1 : Int32) else (if (24 : Int32) ≤ v1 then some (-1 : Int32) else gx_gd (gx_in v1 24) (some (M.1 91 v1.toNatClampNeg)))))
def f_X8_undo (M : gx_Mem) : Option (Int32 × gx_Mem) := (if (M.1 57 8) = 0 then some ((-5 : Int32), M) else gx_let (gx_sI M 57 8 ((M.1 57 8) - (1 : Int32))) (fun M1 => gx_let (gx_sI M1 57 9 ((M1.1 57 9) + (1 : Int32))) (fun M2 => gx_gd (gx_in (M2.1 57 8) 40) (gx_gd (gx_in (M2.1 57 8) 40) (gx_gd (gx_in (M2.1 57 8) 40) (gx_bP (f_X8_lays (M2.1 64 (M2.1 57 8).toNatClampNeg) (M2.1 65 (M2.1 57 8).toNatClampNeg) (M2.1 66 (M2.1 57 8).toNatClampNeg) M2) (fun M4 => some ((M4.1 57 8), M4))))))))
def f_X8_wet (v1 : Int32) (v2 : Int32) (M : gx_Mem) : Option (Int32 × gx_Mem) := gx_bP (f_X8_areHours v1 M) (fun y2 => (if y2 = 0 then some ((-1 : Int32), M) else gx_bP (f_X8_areMark v2 M) (fun y4 => (if y4 = 0 then some ((-1 : Int32), M) else gx_bP (f_X8_layNow M) (fun M6 => gx_bP (f_X8_goHours v1 (63 : Int32) M6) (fun M8 => gx_gd (gx_in (((4 : Int32) * (v2 / (10 : Int32))) + (gx_rem v2 (10 : Int32))) 24) (some ((M8.1 78 (((4 : Int32) * (v2 / (10 : Int32))) + (gx_rem v2 (10 : Int32))).toNatClampNeg), M8))))))))
def f_X8_who_b103  (ag56 : Int32 → Int32 → Int32 → Int32 → gx_Mem → Option (Int32 × gx_Mem)) (v1 : Int32) (v3 : Int32) (v4 : Int32) (v5 : Int32) (v6 : Int32) (v7 : Int32) (M : gx_Mem) : Option (Int32 × gx_Mem) := gx_let (v7 + (1 : Int32)) (fun x17 => ag56 v4 v5 v6 x17 M)
def f_X8_who_b93  (ag56 : Int32 → Int32 → Int32 → Int32 → gx_Mem → Option (Int32 × gx_Mem)) (v1 : Int32) (v3 : Int32) (v4 : Int32) (v5 : Int32) (v6 : Int32) (v7 : Int32) (M : gx_Mem) : Option (Int32 × gx_Mem) := gx_let (v4 + (1 : Int32)) (fun x18 => gx_let (v6 &&& v7) (fun x19 => f_X8_who_b103 ag56 v1 v3 x18 v5 x19 v7 M))
def f_X8_who_k56   (v1 : Int32) (v3 : Int32) (ag56 : Int32 → Int32 → Int32 → Int32 → gx_Mem → Option (Int32 × gx_Mem)) (v4 : Int32) (v5 : Int32) (v6 : Int32) (v7 : Int32) (M : gx_Mem) : Option (Int32 × gx_Mem) := (if (gx_shl (1 : Int32) (M.1 57 1)) ≤ v7 then (if v3 = 0 then some (v4, M) else (if v3 = (1 : Int32) then some (v5, M) else (if v4 = 0 then some ((0 : Int32), M) else some (v6, M)))) else gx_let (gx_sI M 57 28 v7) (fun M13 => gx_bI (f_X8_isJust v1 M13) (fun y15 M16 => (if y15 = 0 then f_X8_who_b103 ag56 v1 v3 v4 v5 v6 v7 M16 else (if v4 = 0 then f_X8_who_b93 ag56 v1 v3 v4 v7 v6 v7 M16 else f_X8_who_b93 ag56 v1 v3 v4 v5 v6 v7 M16)))))
def f_X8_who_l56   (v1 : Int32) (v3 : Int32) (n : Nat) (v4 : Int32) (v5 : Int32) (v6 : Int32) (v7 : Int32) (M : gx_Mem) : Option (Int32 × gx_Mem) := gx_loop (fun (ag56 : Int32 × Int32 × Int32 × Int32 × gx_Mem → Option (Int32 × gx_Mem)) (s : Int32 × Int32 × Int32 × Int32 × gx_Mem) => f_X8_who_k56 v1 v3 (fun v4 v5 v6 v7 M => ag56 (v4, v5, v6, v7, M)) s.1 s.2.1 s.2.2.1 s.2.2.2.1 s.2.2.2.2) n (v4, v5, v6, v7, M)
def f_X8_who (v1 : Int32) (v2 : Int32) (v3 : Int32) (M : gx_Mem) : Option (Int32 × gx_Mem) := gx_bP (f_X8_isShelf v1 M) (fun y2 => (if y2 = 0 then some ((-1 : Int32), M) else gx_bP (f_X8_isHour v2 M) (fun y4 => (if y4 = 0 then some ((-1 : Int32), M) else gx_bP (f_X8_in v3 (0 : Int32) (2 : Int32) M) (fun y6 => (if y6 = 0 then some ((-1 : Int32), M) else gx_bP (f_X8_rowFault v1 M) (fun y8 => (if 0 ≤ y8 then gx_bP (f_X8_layNow M) (fun M10 => f_X8_who_l56 v1 v3 gx_fuel (0 : Int32) (-2 : Int32) (-1 : Int32) (0 : Int32) M10) else gx_bP (f_X8_rowFault v1 M) (fun y12 => some (y12, M))))))))))
def f_X8_wipe_k14   (v1 : Int32) (ag14 : Int32 → Int32 → gx_Mem → Option (Int32 × gx_Mem)) (v2 : Int32) (v3 : Int32) (M : gx_Mem) : Option (Int32 × gx_Mem) := (if (4 : Int32) ≤ v3 then gx_let (gx_sI M 85 (4 : Int32).toNatClampNeg ((M.1 85 (4 : Int32).toNatClampNeg) + v2)) (fun M3 => some (v2, M3)) else gx_gd (gx_in (((4 : Int32) * v1) + v3) 24) (gx_let (v2 + (M.1 61 (((4 : Int32) * v1) + v3).toNatClampNeg)) (fun x4 => gx_gd (gx_in (((4 : Int32) * v1) + v3) 24) (gx_let (gx_sI M 61 (((4 : Int32) * v1) + v3).toNatClampNeg (0 : Int32)) (fun M5 => gx_let (v3 + (1 : Int32)) (fun x6 => ag14 x4 x6 M5))))))
def f_X8_wipe_l14   (v1 : Int32) (n : Nat) (v2 : Int32) (v3 : Int32) (M : gx_Mem) : Option (Int32 × gx_Mem) := gx_loop (fun (ag14 : Int32 × Int32 × gx_Mem → Option (Int32 × gx_Mem)) (s : Int32 × Int32 × gx_Mem) => f_X8_wipe_k14 v1 (fun v2 v3 M => ag14 (v2, v3, M)) s.1 s.2.1 s.2.2) n (v2, v3, M)
def f_X8_wipe (v1 : Int32) (M : gx_Mem) : Option (Int32 × gx_Mem) := gx_bP (f_X8_isOne v1 M) (fun y2 => (if y2 = 0 then some ((-1 : Int32), M) else f_X8_wipe_l14 v1 gx_fuel (0 : Int32) (0 : Int32) M))
set_option maxHeartbeats 4000000 in
set_option maxRecDepth 100000 in
theorem c_X8_isUnder (κ : gx_K) {v0 : Int32} {v1 : Int32} {M : gx_Mem} {r9 : Int32} (hf : f_X8_isUnder v0 v1 M = some r9) : gx_CI κ yX8_isUnder cX8_isUnder 2 (some .boolean) 0 [.int v0, .int v1] M r9 M := by
  refine gx_enterI (d := 0) my_X8_isUnder.1 (by decide) (Nat.le_of_ble_eq_true rfl) (fun Γ Cx hR => ?_)
  change gx_G κ Γ 0 [(0, .int v0), (1, .int v1)] [] M
  have B44 : f_X8_isUnder_b44 v0 v1 M = some r9 → gx_G κ Γ 44 [(0, .int v0), (1, .int v1)] [] M := by
    intro h
    refine gx_iload_n Cx eX8_isUnder_44 1 rfl ?_
    refine gx_bipush (v := (6 : Int32)) Cx eX8_isUnder_45 (by decide) ?_
    refine gx_icmp_ne (tgt := 60) Cx eX8_isUnder_47 (by decide) h (fun h => ?_) (fun h => ?_)
    · refine gx_iconst (v := (0 : Int32)) Cx eX8_isUnder_60 (by decide) ?_
      exact gx_rIp h (by decide) eX8_isUnder_61 hR
    · refine gx_iload_n Cx eX8_isUnder_50 0 rfl ?_
      refine gx_bipush (v := (7 : Int32)) Cx eX8_isUnder_51 (by decide) ?_
      refine gx_icmp_ne (tgt := 60) Cx eX8_isUnder_53 (by decide) h (fun h => ?_) (fun h => ?_)
      · refine gx_iconst (v := (0 : Int32)) Cx eX8_isUnder_60 (by decide) ?_
        exact gx_rIp h (by decide) eX8_isUnder_61 hR
      · refine gx_iconst (v := (1 : Int32)) Cx eX8_isUnder_56 (by decide) ?_
        refine gx_goto (tgt := 61) Cx eX8_isUnder_57 (by decide) ?_
        exact gx_rIp h (by decide) eX8_isUnder_61 hR
  have B34 : f_X8_isUnder_b34 v0 v1 M = some r9 → gx_G κ Γ 34 [(0, .int v0), (1, .int v1)] [] M := by
    intro h
    refine gx_iload_n Cx eX8_isUnder_34 1 rfl ?_
    refine gx_iconst (v := (3 : Int32)) Cx eX8_isUnder_35 (by decide) ?_
    refine gx_icmp_ne (tgt := 44) Cx eX8_isUnder_36 (by decide) h (fun h => ?_) (fun h => ?_)
    · exact B44 h
    · refine gx_iload_n Cx eX8_isUnder_39 0 rfl ?_
      refine gx_iconst (v := (5 : Int32)) Cx eX8_isUnder_40 (by decide) ?_
      refine gx_icmp_eq (tgt := 56) Cx eX8_isUnder_41 (by decide) h (fun h => ?_) (fun h => ?_)
      · refine gx_iconst (v := (1 : Int32)) Cx eX8_isUnder_56 (by decide) ?_
        refine gx_goto (tgt := 61) Cx eX8_isUnder_57 (by decide) ?_
        exact gx_rIp h (by decide) eX8_isUnder_61 hR
      · exact B44 h
  have B19 : f_X8_isUnder_b19 v0 v1 M = some r9 → gx_G κ Γ 19 [(0, .int v0), (1, .int v1)] [] M := by
    intro h
    refine gx_iload_n Cx eX8_isUnder_19 1 rfl ?_
    refine gx_iconst (v := (2 : Int32)) Cx eX8_isUnder_20 (by decide) ?_
    refine gx_icmp_ne (tgt := 34) Cx eX8_isUnder_21 (by decide) h (fun h => ?_) (fun h => ?_)
    · exact B34 h
    · refine gx_iload_n Cx eX8_isUnder_24 0 rfl ?_
      refine gx_iconst (v := (3 : Int32)) Cx eX8_isUnder_25 (by decide) ?_
      refine gx_icmp_eq (tgt := 56) Cx eX8_isUnder_26 (by decide) h (fun h => ?_) (fun h => ?_)
      · refine gx_iconst (v := (1 : Int32)) Cx eX8_isUnder_56 (by decide) ?_
        refine gx_goto (tgt := 61) Cx eX8_isUnder_57 (by decide) ?_
        exact gx_rIp h (by decide) eX8_isUnder_61 hR
      · refine gx_iload_n Cx eX8_isUnder_29 0 rfl ?_
        refine gx_iconst (v := (5 : Int32)) Cx eX8_isUnder_30 (by decide) ?_
        refine gx_icmp_eq (tgt := 56) Cx eX8_isUnder_31 (by decide) h (fun h => ?_) (fun h => ?_)
        · refine gx_iconst (v := (1 : Int32)) Cx eX8_isUnder_56 (by decide) ?_
          refine gx_goto (tgt := 61) Cx eX8_isUnder_57 (by decide) ?_
          exact gx_rIp h (by decide) eX8_isUnder_61 hR
        · exact B34 h
  have h := hf
  refine gx_iload_n Cx eX8_isUnder_0 1 rfl ?_
  refine gx_if_eq (tgt := 56) Cx eX8_isUnder_1 (by decide) h (fun h => ?_) (fun h => ?_)
  · refine gx_iconst (v := (1 : Int32)) Cx eX8_isUnder_56 (by decide) ?_
    refine gx_goto (tgt := 61) Cx eX8_isUnder_57 (by decide) ?_
    exact gx_rIp h (by decide) eX8_isUnder_61 hR
  · refine gx_iload_n Cx eX8_isUnder_4 0 rfl ?_
    refine gx_iload_n Cx eX8_isUnder_5 1 rfl ?_
    refine gx_icmp_eq (tgt := 56) Cx eX8_isUnder_6 (by decide) h (fun h => ?_) (fun h => ?_)
    · refine gx_iconst (v := (1 : Int32)) Cx eX8_isUnder_56 (by decide) ?_
      refine gx_goto (tgt := 61) Cx eX8_isUnder_57 (by decide) ?_
      exact gx_rIp h (by decide) eX8_isUnder_61 hR
    · refine gx_iload_n Cx eX8_isUnder_9 1 rfl ?_
      refine gx_iconst (v := (1 : Int32)) Cx eX8_isUnder_10 (by decide) ?_
      refine gx_icmp_ne (tgt := 19) Cx eX8_isUnder_11 (by decide) h (fun h => ?_) (fun h => ?_)
      · exact B19 h
      · refine gx_iload_n Cx eX8_isUnder_14 0 rfl ?_
        refine gx_iconst (v := (4 : Int32)) Cx eX8_isUnder_15 (by decide) ?_
        refine gx_icmp_eq (tgt := 56) Cx eX8_isUnder_16 (by decide) h (fun h => ?_) (fun h => ?_)
        · refine gx_iconst (v := (1 : Int32)) Cx eX8_isUnder_56 (by decide) ?_
          refine gx_goto (tgt := 61) Cx eX8_isUnder_57 (by decide) ?_
          exact gx_rIp h (by decide) eX8_isUnder_61 hR
        · exact B19 h
set_option maxHeartbeats 4000000 in
set_option maxRecDepth 100000 in
theorem c_X8_ran (κ : gx_K) {v1 : Int32} {M : gx_Mem} {M9 : gx_Mem} (hf : f_X8_ran v1 M = some M9) : gx_CV κ yX8_ran cX8_ran 2 none 0 [.ref (gx_a κ 57), .int v1] M M9 := by
  refine gx_enterV (d := 0) my_X8_ran.1 (by decide) (Nat.le_of_ble_eq_true rfl) (fun Γ Cx hR => ?_)
  change gx_G κ Γ 0 [(0, .ref (gx_a κ 57)), (1, .int v1)] [] M
  have B19 : ∀  (M : gx_Mem), f_X8_ran_b19 M = some M9 → gx_G κ Γ 19 [(0, .ref (gx_a κ 57))] [] M := by
    intro M h
    refine gx_aload_n Cx eX8_ran_19 0 rfl ?_
    refine gx_dup Cx eX8_ran_20 rfl ?_
    refine gfX8_376 Cx eX8_ran_21 ?_
    refine gx_iconst (v := (1 : Int32)) Cx eX8_ran_24 (by decide) ?_
    refine gx_iadd Cx eX8_ran_25 ?_
    refine pfX8_376 Cx eX8_ran_26 h (fun M2 h => ?_)
    exact gx_rV h eX8_ran_29 hR
  have h := hf
  refine gx_aload_n Cx eX8_ran_0 0 rfl ?_
  refine gfX8_376 Cx eX8_ran_1 ?_
  refine gx_bipush (v := (24 : Int32)) Cx eX8_ran_4 (by decide) ?_
  refine gx_icmp_ge (tgt := 19) Cx eX8_ran_6 (by decide) h (fun h => ?_) (fun h => ?_)
  · refine gx_sub [0] rfl ?_
    exact B19 _ h
  · refine gx_aload_n Cx eX8_ran_9 0 rfl ?_
    refine gfX8_113 Cx eX8_ran_10 ?_
    refine gx_aload_n Cx eX8_ran_13 0 rfl ?_
    refine gfX8_376 Cx eX8_ran_14 ?_
    refine gx_iload_n Cx eX8_ran_17 1 rfl ?_
    refine gx_iast Cx gx_y91 eX8_ran_18 h (fun M1 h => ?_)
    refine gx_sub [0] rfl ?_
    exact B19 _ h
set_option maxHeartbeats 4000000 in
set_option maxRecDepth 100000 in
theorem c_X8_plainFalls (κ : gx_K) {v1 : Int32} {v2 : Int32} {M : gx_Mem} {r9 : Int32} {M9 : gx_Mem} (hf : f_X8_plainFalls v1 v2 M = some (r9, M9)) : gx_CI κ yX8_plainFalls cX8_plainFalls 3 (some .int) 1 [.ref (gx_a κ 57), .int v1, .int v2] M r9 M9 := by
  refine gx_enterI (d := 1) my_X8_plainFalls.1 (by decide) (Nat.le_of_ble_eq_true rfl) (fun Γ Cx hR => ?_)
  change gx_G κ Γ 0 [(0, .ref (gx_a κ 57)), (1, .int v1), (2, .int v2)] [] M
  have h := hf
  refine gx_aload_n Cx eX8_plainFalls_0 0 rfl ?_
  refine gx_iconst (v := (1 : Int32)) Cx eX8_plainFalls_1 (by decide) ?_
  obtain ⟨M2, h1, h⟩ := gx_bP_of h
  refine gx_callVV (ci := 8) Cx my_X8_ran wlX8_379 rfl gx_y57 (by decide) rfl eX8_plainFalls_2 (c_X8_ran κ h1) rfl (Nat.le_of_ble_eq_true rfl) ?_
  refine gx_iload_n Cx eX8_plainFalls_5 2 rfl ?_
  refine gx_iload_n Cx eX8_plainFalls_6 1 rfl ?_
  refine gx_iadd Cx eX8_plainFalls_7 ?_
  exact gx_rI h rfl eX8_plainFalls_8 hR
set_option maxHeartbeats 4000000 in
set_option maxRecDepth 100000 in
theorem c_X8_lampFalls (κ : gx_K) {v1 : Int32} {v2 : Int32} {M : gx_Mem} {r9 : Int32} {M9 : gx_Mem} (hf : f_X8_lampFalls v1 v2 M = some (r9, M9)) : gx_CI κ yX8_lampFalls cX8_lampFalls 3 (some .int) 2 [.ref (gx_a κ 57), .int v1, .int v2] M r9 M9 := by
  refine gx_enterI (d := 2) my_X8_lampFalls.1 (by decide) (Nat.le_of_ble_eq_true rfl) (fun Γ Cx hR => ?_)
  change gx_G κ Γ 0 [(0, .ref (gx_a κ 57)), (1, .int v1), (2, .int v2)] [] M
  have h := hf
  refine gx_aload_n Cx eX8_lampFalls_0 0 rfl ?_
  refine gx_bipush (v := (70 : Int32)) Cx eX8_lampFalls_1 (by decide) ?_
  obtain ⟨M2, h1, h⟩ := gx_bP_of h
  refine gx_callVV (ci := 8) Cx my_X8_ran wlX8_379 rfl gx_y57 (by decide) rfl eX8_lampFalls_3 (c_X8_ran κ h1) rfl (Nat.le_of_ble_eq_true rfl) ?_
  refine gx_aload_n Cx eX8_lampFalls_6 0 rfl ?_
  refine gx_iload_n Cx eX8_lampFalls_7 1 rfl ?_
  refine gx_iload_n Cx eX8_lampFalls_8 2 rfl ?_
  obtain ⟨y4, M5, h3, h⟩ := gx_bI_of h
  refine gx_callVI (ci := 8) Cx my_X8_plainFalls wlX8_382 rfl gx_y57 (by decide) rfl eX8_lampFalls_9 (c_X8_plainFalls κ h3) rfl (Nat.le_of_ble_eq_true rfl) ?_
  refine gx_iconst (v := (2 : Int32)) Cx eX8_lampFalls_12 (by decide) ?_
  refine gx_imul Cx eX8_lampFalls_13 ?_
  exact gx_rI h rfl eX8_lampFalls_14 hR
set_option maxHeartbeats 4000000 in
set_option maxRecDepth 100000 in
theorem c_X8_falling (κ : gx_K) {v1 : Int32} {v2 : Int32} {M : gx_Mem} {r9 : Int32} {M9 : gx_Mem} (hf : f_X8_falling v1 v2 M = some (r9, M9)) : gx_CI κ yX8_falling cX8_falling 3 (some .int) 3 [.ref (gx_a κ 57), .int v1, .int v2] M r9 M9 := by
  refine gx_enterI (d := 3) my_X8_falling.1 (by decide) (Nat.le_of_ble_eq_true rfl) (fun Γ Cx hR => ?_)
  change gx_G κ Γ 0 [(0, .ref (gx_a κ 57)), (1, .int v1), (2, .int v2)] [] M
  have h := hf
  refine gx_aload_n Cx eX8_falling_0 0 rfl ?_
  refine gfX8_110 Cx eX8_falling_1 ?_
  refine gx_iload_n Cx eX8_falling_4 1 rfl ?_
  refine gx_iald Cx gx_y90 eX8_falling_5 h (fun h => ?_)
  refine gx_iconst (v := (1 : Int32)) Cx eX8_falling_6 (by decide) ?_
  obtain ⟨y2, h1, h⟩ := gx_bP_of h
  refine gx_callSI Cx my_X8_isUnder wlX8_385 (by decide) rfl eX8_falling_7 (c_X8_isUnder κ h1) rfl (Nat.le_of_ble_eq_true rfl) ?_
  refine gx_if_eq (tgt := 28) Cx eX8_falling_10 (by decide) h (fun h => ?_) (fun h => ?_)
  · refine gx_aload_n Cx eX8_falling_28 0 rfl ?_
    refine gfX8_110 Cx eX8_falling_29 ?_
    refine gx_iload_n Cx eX8_falling_32 1 rfl ?_
    refine gx_iald Cx gx_y90 eX8_falling_33 h (fun h => ?_)
    refine gx_bipush (v := (7 : Int32)) Cx eX8_falling_34 (by decide) ?_
    refine gx_icmp_ne (tgt := 54) Cx eX8_falling_36 (by decide) h (fun h => ?_) (fun h => ?_)
    · refine gx_aload_n Cx eX8_falling_54 0 rfl ?_
      refine gfX8_110 Cx eX8_falling_55 ?_
      refine gx_iload_n Cx eX8_falling_58 1 rfl ?_
      refine gx_iald Cx gx_y90 eX8_falling_59 h (fun h => ?_)
      refine gx_bipush (v := (6 : Int32)) Cx eX8_falling_60 (by decide) ?_
      refine gx_icmp_ne (tgt := 74) Cx eX8_falling_62 (by decide) h (fun h => ?_) (fun h => ?_)
      · refine gx_aload_n Cx eX8_falling_74 0 rfl ?_
        refine gx_iload_n Cx eX8_falling_75 1 rfl ?_
        refine gx_iload_n Cx eX8_falling_76 2 rfl ?_
        obtain ⟨y4, M5, h3, h⟩ := gx_bI_of h
        refine gx_callVI (ci := 8) Cx my_X8_plainFalls wlX8_382 rfl gx_y57 (by decide) rfl eX8_falling_77 (c_X8_plainFalls κ h3) rfl (Nat.le_of_ble_eq_true rfl) ?_
        exact gx_rI h rfl eX8_falling_80 hR
      · refine gx_aload_n Cx eX8_falling_65 0 rfl ?_
        refine gx_iload_n Cx eX8_falling_66 1 rfl ?_
        refine gx_iload_n Cx eX8_falling_67 2 rfl ?_
        obtain ⟨y7, M8, h6, h⟩ := gx_bI_of h
        refine gx_callVI (ci := 8) Cx my_X8_lampFalls wlX8_388 rfl gx_y57 (by decide) rfl eX8_falling_68 (c_X8_lampFalls κ h6) rfl (Nat.le_of_ble_eq_true rfl) ?_
        refine gx_goto (tgt := 80) Cx eX8_falling_71 (by decide) ?_
        exact gx_rI h rfl eX8_falling_80 hR
    · refine gx_aload_n Cx eX8_falling_39 0 rfl ?_
      refine gx_bipush (v := (81 : Int32)) Cx eX8_falling_40 (by decide) ?_
      obtain ⟨M10, h9, h⟩ := gx_bP_of h
      refine gx_callVV (ci := 8) Cx my_X8_ran wlX8_379 rfl gx_y57 (by decide) rfl eX8_falling_42 (c_X8_ran κ h9) rfl (Nat.le_of_ble_eq_true rfl) ?_
      refine gx_aload_n Cx eX8_falling_45 0 rfl ?_
      refine gx_iload_n Cx eX8_falling_46 1 rfl ?_
      refine gx_iload_n Cx eX8_falling_47 2 rfl ?_
      obtain ⟨y12, M13, h11, h⟩ := gx_bI_of h
      refine gx_callVI (ci := 8) Cx my_X8_lampFalls wlX8_388 rfl gx_y57 (by decide) rfl eX8_falling_48 (c_X8_lampFalls κ h11) rfl (Nat.le_of_ble_eq_true rfl) ?_
      refine gx_iconst (v := (1 : Int32)) Cx eX8_falling_51 (by decide) ?_
      refine gx_isub Cx eX8_falling_52 ?_
      exact gx_rI h rfl eX8_falling_53 hR
  · refine gx_aload_n Cx eX8_falling_13 0 rfl ?_
    refine gx_bipush (v := (20 : Int32)) Cx eX8_falling_14 (by decide) ?_
    obtain ⟨M15, h14, h⟩ := gx_bP_of h
    refine gx_callVV (ci := 8) Cx my_X8_ran wlX8_379 rfl gx_y57 (by decide) rfl eX8_falling_16 (c_X8_ran κ h14) rfl (Nat.le_of_ble_eq_true rfl) ?_
    refine gx_aload_n Cx eX8_falling_19 0 rfl ?_
    refine gx_iload_n Cx eX8_falling_20 1 rfl ?_
    refine gx_iload_n Cx eX8_falling_21 2 rfl ?_
    obtain ⟨y17, M18, h16, h⟩ := gx_bI_of h
    refine gx_callVI (ci := 8) Cx my_X8_plainFalls wlX8_382 rfl gx_y57 (by decide) rfl eX8_falling_22 (c_X8_plainFalls κ h16) rfl (Nat.le_of_ble_eq_true rfl) ?_
    refine gx_iconst (v := (3 : Int32)) Cx eX8_falling_25 (by decide) ?_
    refine gx_iadd Cx eX8_falling_26 ?_
    exact gx_rI h rfl eX8_falling_27 hR
set_option maxHeartbeats 4000000 in
set_option maxRecDepth 100000 in
theorem c_X8_in (κ : gx_K) {v0 : Int32} {v1 : Int32} {v2 : Int32} {M : gx_Mem} {r9 : Int32} (hf : f_X8_in v0 v1 v2 M = some r9) : gx_CI κ yX8_in cX8_in 3 (some .boolean) 0 [.int v0, .int v1, .int v2] M r9 M := by
  refine gx_enterI (d := 0) my_X8_in.1 (by decide) (Nat.le_of_ble_eq_true rfl) (fun Γ Cx hR => ?_)
  change gx_G κ Γ 0 [(0, .int v0), (1, .int v1), (2, .int v2)] [] M
  have h := hf
  refine gx_iload_n Cx eX8_in_0 0 rfl ?_
  refine gx_iload_n Cx eX8_in_1 1 rfl ?_
  refine gx_icmp_lt (tgt := 14) Cx eX8_in_2 (by decide) h (fun h => ?_) (fun h => ?_)
  · refine gx_iconst (v := (0 : Int32)) Cx eX8_in_14 (by decide) ?_
    exact gx_rIp h (by decide) eX8_in_15 hR
  · refine gx_iload_n Cx eX8_in_5 0 rfl ?_
    refine gx_iload_n Cx eX8_in_6 2 rfl ?_
    refine gx_icmp_gt (tgt := 14) Cx eX8_in_7 (by decide) h (fun h => ?_) (fun h => ?_)
    · refine gx_iconst (v := (0 : Int32)) Cx eX8_in_14 (by decide) ?_
      exact gx_rIp h (by decide) eX8_in_15 hR
    · refine gx_iconst (v := (1 : Int32)) Cx eX8_in_10 (by decide) ?_
      refine gx_goto (tgt := 15) Cx eX8_in_11 (by decide) ?_
      exact gx_rIp h (by decide) eX8_in_15 hR
set_option maxHeartbeats 4000000 in
set_option maxRecDepth 100000 in
theorem c_X8_isBody (κ : gx_K) {v1 : Int32} {M : gx_Mem} {r9 : Int32} (hf : f_X8_isBody v1 M = some r9) : gx_CI κ yX8_isBody cX8_isBody 2 (some .boolean) 1 [.ref (gx_a κ 57), .int v1] M r9 M := by
  refine gx_enterI (d := 1) my_X8_isBody.1 (by decide) (Nat.le_of_ble_eq_true rfl) (fun Γ Cx hR => ?_)
  change gx_G κ Γ 0 [(0, .ref (gx_a κ 57)), (1, .int v1)] [] M
  have h := hf
  refine gx_iload_n Cx eX8_isBody_0 1 rfl ?_
  refine gx_iconst (v := (0 : Int32)) Cx eX8_isBody_1 (by decide) ?_
  refine gx_aload_n Cx eX8_isBody_2 0 rfl ?_
  refine gfX8_373 Cx eX8_isBody_3 ?_
  refine gx_iconst (v := (1 : Int32)) Cx eX8_isBody_6 (by decide) ?_
  refine gx_isub Cx eX8_isBody_7 ?_
  obtain ⟨y2, h1, h⟩ := gx_bP_of h
  refine gx_callSI Cx my_X8_in wlX8_136 (by decide) rfl eX8_isBody_8 (c_X8_in κ h1) rfl (Nat.le_of_ble_eq_true rfl) ?_
  exact gx_rZp h eX8_isBody_11 hR
set_option maxHeartbeats 4000000 in
set_option maxRecDepth 100000 in
theorem c_X8_plainRuns (κ : gx_K) {v1 : Int32} {v2 : Int32} {M : gx_Mem} {r9 : Int32} {M9 : gx_Mem} (hf : f_X8_plainRuns v1 v2 M = some (r9, M9)) : gx_CI κ yX8_plainRuns cX8_plainRuns 3 (some .int) 4 [.ref (gx_a κ 57), .int v1, .int v2] M r9 M9 := by
  refine gx_enterI (d := 4) my_X8_plainRuns.1 (by decide) (Nat.le_of_ble_eq_true rfl) (fun Γ Cx hR => ?_)
  change gx_G κ Γ 0 [(0, .ref (gx_a κ 57)), (1, .int v1), (2, .int v2)] [] M
  have h := hf
  refine gx_aload_n Cx eX8_plainRuns_0 0 rfl ?_
  refine gx_bipush (v := (10 : Int32)) Cx eX8_plainRuns_1 (by decide) ?_
  obtain ⟨M2, h1, h⟩ := gx_bP_of h
  refine gx_callVV (ci := 8) Cx my_X8_ran wlX8_379 rfl gx_y57 (by decide) rfl eX8_plainRuns_3 (c_X8_ran κ h1) rfl (Nat.le_of_ble_eq_true rfl) ?_
  refine gx_aload_n Cx eX8_plainRuns_6 0 rfl ?_
  refine gx_iload_n Cx eX8_plainRuns_7 1 rfl ?_
  refine gx_iload_n Cx eX8_plainRuns_8 2 rfl ?_
  obtain ⟨y4, M5, h3, h⟩ := gx_bI_of h
  refine gx_callVI (ci := 8) Cx my_X8_falling wlX8_391 rfl gx_y57 (by decide) rfl eX8_plainRuns_9 (c_X8_falling κ h3) rfl (Nat.le_of_ble_eq_true rfl) ?_
  refine gx_iconst (v := (2 : Int32)) Cx eX8_plainRuns_12 (by decide) ?_
  refine gx_imul Cx eX8_plainRuns_13 ?_
  exact gx_rI h rfl eX8_plainRuns_14 hR
set_option maxHeartbeats 4000000 in
set_option maxRecDepth 100000 in
theorem c_X8_basinRuns (κ : gx_K) {v1 : Int32} {v2 : Int32} {M : gx_Mem} {r9 : Int32} {M9 : gx_Mem} (hf : f_X8_basinRuns v1 v2 M = some (r9, M9)) : gx_CI κ yX8_basinRuns cX8_basinRuns 3 (some .int) 5 [.ref (gx_a κ 57), .int v1, .int v2] M r9 M9 := by
  refine gx_enterI (d := 5) my_X8_basinRuns.1 (by decide) (Nat.le_of_ble_eq_true rfl) (fun Γ Cx hR => ?_)
  change gx_G κ Γ 0 [(0, .ref (gx_a κ 57)), (1, .int v1), (2, .int v2)] [] M
  have h := hf
  refine gx_aload_n Cx eX8_basinRuns_0 0 rfl ?_
  refine gx_bipush (v := (30 : Int32)) Cx eX8_basinRuns_1 (by decide) ?_
  obtain ⟨M2, h1, h⟩ := gx_bP_of h
  refine gx_callVV (ci := 8) Cx my_X8_ran wlX8_379 rfl gx_y57 (by decide) rfl eX8_basinRuns_3 (c_X8_ran κ h1) rfl (Nat.le_of_ble_eq_true rfl) ?_
  refine gx_aload_n Cx eX8_basinRuns_6 0 rfl ?_
  refine gx_iload_n Cx eX8_basinRuns_7 1 rfl ?_
  refine gx_iload_n Cx eX8_basinRuns_8 2 rfl ?_
  obtain ⟨y4, M5, h3, h⟩ := gx_bI_of h
  refine gx_callVI (ci := 8) Cx my_X8_plainRuns wlX8_394 rfl gx_y57 (by decide) rfl eX8_basinRuns_9 (c_X8_plainRuns κ h3) rfl (Nat.le_of_ble_eq_true rfl) ?_
  refine gx_ineg Cx eX8_basinRuns_12 ?_
  exact gx_rI h rfl eX8_basinRuns_13 hR
set_option maxHeartbeats 4000000 in
set_option maxRecDepth 100000 in
theorem c_X8_plainThinks (κ : gx_K) {v1 : Int32} {v2 : Int32} {M : gx_Mem} {r9 : Int32} {M9 : gx_Mem} (hf : f_X8_plainThinks v1 v2 M = some (r9, M9)) : gx_CI κ yX8_plainThinks cX8_plainThinks 3 (some .int) 1 [.ref (gx_a κ 57), .int v1, .int v2] M r9 M9 := by
  refine gx_enterI (d := 1) my_X8_plainThinks.1 (by decide) (Nat.le_of_ble_eq_true rfl) (fun Γ Cx hR => ?_)
  change gx_G κ Γ 0 [(0, .ref (gx_a κ 57)), (1, .int v1), (2, .int v2)] [] M
  have h := hf
  refine gx_aload_n Cx eX8_plainThinks_0 0 rfl ?_
  refine gx_bipush (v := (11 : Int32)) Cx eX8_plainThinks_1 (by decide) ?_
  obtain ⟨M2, h1, h⟩ := gx_bP_of h
  refine gx_callVV (ci := 8) Cx my_X8_ran wlX8_379 rfl gx_y57 (by decide) rfl eX8_plainThinks_3 (c_X8_ran κ h1) rfl (Nat.le_of_ble_eq_true rfl) ?_
  refine gx_iload_n Cx eX8_plainThinks_6 2 rfl ?_
  refine gx_iload_n Cx eX8_plainThinks_7 1 rfl ?_
  refine gx_ixor Cx eX8_plainThinks_8 ?_
  exact gx_rI h rfl eX8_plainThinks_9 hR
set_option maxHeartbeats 4000000 in
set_option maxRecDepth 100000 in
theorem c_X8_porterThinks (κ : gx_K) {v1 : Int32} {v2 : Int32} {M : gx_Mem} {r9 : Int32} {M9 : gx_Mem} (hf : f_X8_porterThinks v1 v2 M = some (r9, M9)) : gx_CI κ yX8_porterThinks cX8_porterThinks 3 (some .int) 2 [.ref (gx_a κ 57), .int v1, .int v2] M r9 M9 := by
  refine gx_enterI (d := 2) my_X8_porterThinks.1 (by decide) (Nat.le_of_ble_eq_true rfl) (fun Γ Cx hR => ?_)
  change gx_G κ Γ 0 [(0, .ref (gx_a κ 57)), (1, .int v1), (2, .int v2)] [] M
  have h := hf
  refine gx_aload_n Cx eX8_porterThinks_0 0 rfl ?_
  refine gx_bipush (v := (40 : Int32)) Cx eX8_porterThinks_1 (by decide) ?_
  obtain ⟨M2, h1, h⟩ := gx_bP_of h
  refine gx_callVV (ci := 8) Cx my_X8_ran wlX8_379 rfl gx_y57 (by decide) rfl eX8_porterThinks_3 (c_X8_ran κ h1) rfl (Nat.le_of_ble_eq_true rfl) ?_
  refine gx_aload_n Cx eX8_porterThinks_6 0 rfl ?_
  refine gx_iload_n Cx eX8_porterThinks_7 1 rfl ?_
  refine gx_iload_n Cx eX8_porterThinks_8 2 rfl ?_
  obtain ⟨y4, M5, h3, h⟩ := gx_bI_of h
  refine gx_callVI (ci := 8) Cx my_X8_plainThinks wlX8_403 rfl gx_y57 (by decide) rfl eX8_porterThinks_9 (c_X8_plainThinks κ h3) rfl (Nat.le_of_ble_eq_true rfl) ?_
  refine gx_iconst (v := (3 : Int32)) Cx eX8_porterThinks_12 (by decide) ?_
  refine gx_imul Cx eX8_porterThinks_13 ?_
  exact gx_rI h rfl eX8_porterThinks_14 hR
set_option maxHeartbeats 4000000 in
set_option maxRecDepth 100000 in
theorem c_X8_thinking (κ : gx_K) {v1 : Int32} {v2 : Int32} {M : gx_Mem} {r9 : Int32} {M9 : gx_Mem} (hf : f_X8_thinking v1 v2 M = some (r9, M9)) : gx_CI κ yX8_thinking cX8_thinking 4 (some .int) 4 [.ref (gx_a κ 57), .int v1, .int v2] M r9 M9 := by
  refine gx_enterI (d := 4) my_X8_thinking.1 (by decide) (Nat.le_of_ble_eq_true rfl) (fun Γ Cx hR => ?_)
  change gx_G κ Γ 0 [(0, .ref (gx_a κ 57)), (1, .int v1), (2, .int v2)] [] M
  have h := hf
  refine gx_aload_n Cx eX8_thinking_0 0 rfl ?_
  refine gfX8_110 Cx eX8_thinking_1 ?_
  refine gx_iload_n Cx eX8_thinking_4 1 rfl ?_
  refine gx_iald Cx gx_y90 eX8_thinking_5 h (fun h => ?_)
  refine gx_iconst (v := (5 : Int32)) Cx eX8_thinking_6 (by decide) ?_
  refine gx_icmp_ne (tgt := 32) Cx eX8_thinking_7 (by decide) h (fun h => ?_) (fun h => ?_)
  · refine gx_aload_n Cx eX8_thinking_32 0 rfl ?_
    refine gfX8_110 Cx eX8_thinking_33 ?_
    refine gx_iload_n Cx eX8_thinking_36 1 rfl ?_
    refine gx_iald Cx gx_y90 eX8_thinking_37 h (fun h => ?_)
    refine gx_iconst (v := (3 : Int32)) Cx eX8_thinking_38 (by decide) ?_
    refine gx_icmp_ne (tgt := 51) Cx eX8_thinking_39 (by decide) h (fun h => ?_) (fun h => ?_)
    · refine gx_aload_n Cx eX8_thinking_51 0 rfl ?_
      refine gx_iload_n Cx eX8_thinking_52 1 rfl ?_
      refine gx_iload_n Cx eX8_thinking_53 2 rfl ?_
      obtain ⟨y2, M3, h1, h⟩ := gx_bI_of h
      refine gx_callVI (ci := 8) Cx my_X8_plainThinks wlX8_403 rfl gx_y57 (by decide) rfl eX8_thinking_54 (c_X8_plainThinks κ h1) rfl (Nat.le_of_ble_eq_true rfl) ?_
      exact gx_rI h rfl eX8_thinking_57 hR
    · refine gx_aload_n Cx eX8_thinking_42 0 rfl ?_
      refine gx_iload_n Cx eX8_thinking_43 1 rfl ?_
      refine gx_iload_n Cx eX8_thinking_44 2 rfl ?_
      obtain ⟨y5, M6, h4, h⟩ := gx_bI_of h
      refine gx_callVI (ci := 8) Cx my_X8_porterThinks wlX8_406 rfl gx_y57 (by decide) rfl eX8_thinking_45 (c_X8_porterThinks κ h4) rfl (Nat.le_of_ble_eq_true rfl) ?_
      refine gx_goto (tgt := 57) Cx eX8_thinking_48 (by decide) ?_
      exact gx_rI h rfl eX8_thinking_57 hR
  · refine gx_aload_n Cx eX8_thinking_10 0 rfl ?_
    refine gx_bipush (v := (60 : Int32)) Cx eX8_thinking_11 (by decide) ?_
    obtain ⟨M8, h7, h⟩ := gx_bP_of h
    refine gx_callVV (ci := 8) Cx my_X8_ran wlX8_379 rfl gx_y57 (by decide) rfl eX8_thinking_13 (c_X8_ran κ h7) rfl (Nat.le_of_ble_eq_true rfl) ?_
    refine gx_aload_n Cx eX8_thinking_16 0 rfl ?_
    refine gx_iload_n Cx eX8_thinking_17 1 rfl ?_
    refine gx_iload_n Cx eX8_thinking_18 2 rfl ?_
    obtain ⟨y10, M11, h9, h⟩ := gx_bI_of h
    refine gx_callVI (ci := 8) Cx my_X8_porterThinks wlX8_406 rfl gx_y57 (by decide) rfl eX8_thinking_19 (c_X8_porterThinks κ h9) rfl (Nat.le_of_ble_eq_true rfl) ?_
    refine gx_istore_n Cx eX8_thinking_22 [(3, .int y10), (0, .ref (gx_a κ 57)), (1, .int v1), (2, .int v2)] rfl (by decide) ?_
    refine gx_iload_n Cx eX8_thinking_23 0 rfl ?_
    refine gx_aload_n Cx eX8_thinking_24 1 rfl ?_
    refine gx_iload_n Cx eX8_thinking_25 2 rfl ?_
    refine gx_iconst (v := (2 : Int32)) Cx eX8_thinking_26 (by decide) ?_
    obtain ⟨y13, M14, h12, h⟩ := gx_bI_of h
    refine gx_callVI (ci := 8) Cx my_X8_falling wlX8_391 rfl gx_y57 (by decide) rfl eX8_thinking_27 (c_X8_falling κ h12) rfl (Nat.le_of_ble_eq_true rfl) ?_
    refine gx_isub Cx eX8_thinking_30 ?_
    exact gx_rI h rfl eX8_thinking_31 hR
set_option maxHeartbeats 4000000 in
set_option maxRecDepth 100000 in
theorem c_X8_running (κ : gx_K) {v1 : Int32} {v2 : Int32} {M : gx_Mem} {r9 : Int32} {M9 : gx_Mem} (hf : f_X8_running v1 v2 M = some (r9, M9)) : gx_CI κ yX8_running cX8_running 4 (some .int) 6 [.ref (gx_a κ 57), .int v1, .int v2] M r9 M9 := by
  refine gx_enterI (d := 6) my_X8_running.1 (by decide) (Nat.le_of_ble_eq_true rfl) (fun Γ Cx hR => ?_)
  change gx_G κ Γ 0 [(0, .ref (gx_a κ 57)), (1, .int v1), (2, .int v2)] [] M
  have h := hf
  refine gx_aload_n Cx eX8_running_0 0 rfl ?_
  refine gfX8_110 Cx eX8_running_1 ?_
  refine gx_iload_n Cx eX8_running_4 1 rfl ?_
  refine gx_iald Cx gx_y90 eX8_running_5 h (fun h => ?_)
  refine gx_iconst (v := (3 : Int32)) Cx eX8_running_6 (by decide) ?_
  obtain ⟨y2, h1, h⟩ := gx_bP_of h
  refine gx_callSI Cx my_X8_isUnder wlX8_385 (by decide) rfl eX8_running_7 (c_X8_isUnder κ h1) rfl (Nat.le_of_ble_eq_true rfl) ?_
  refine gx_if_eq (tgt := 28) Cx eX8_running_10 (by decide) h (fun h => ?_) (fun h => ?_)
  · refine gx_aload_n Cx eX8_running_28 0 rfl ?_
    refine gfX8_110 Cx eX8_running_29 ?_
    refine gx_iload_n Cx eX8_running_32 1 rfl ?_
    refine gx_iald Cx gx_y90 eX8_running_33 h (fun h => ?_)
    refine gx_bipush (v := (7 : Int32)) Cx eX8_running_34 (by decide) ?_
    refine gx_icmp_ne (tgt := 61) Cx eX8_running_36 (by decide) h (fun h => ?_) (fun h => ?_)
    · refine gx_aload_n Cx eX8_running_61 0 rfl ?_
      refine gfX8_110 Cx eX8_running_62 ?_
      refine gx_iload_n Cx eX8_running_65 1 rfl ?_
      refine gx_iald Cx gx_y90 eX8_running_66 h (fun h => ?_)
      refine gx_iconst (v := (2 : Int32)) Cx eX8_running_67 (by decide) ?_
      refine gx_icmp_ne (tgt := 80) Cx eX8_running_68 (by decide) h (fun h => ?_) (fun h => ?_)
      · refine gx_aload_n Cx eX8_running_80 0 rfl ?_
        refine gx_iload_n Cx eX8_running_81 1 rfl ?_
        refine gx_iload_n Cx eX8_running_82 2 rfl ?_
        obtain ⟨y4, M5, h3, h⟩ := gx_bI_of h
        refine gx_callVI (ci := 8) Cx my_X8_plainRuns wlX8_394 rfl gx_y57 (by decide) rfl eX8_running_83 (c_X8_plainRuns κ h3) rfl (Nat.le_of_ble_eq_true rfl) ?_
        exact gx_rI h rfl eX8_running_86 hR
      · refine gx_aload_n Cx eX8_running_71 0 rfl ?_
        refine gx_iload_n Cx eX8_running_72 1 rfl ?_
        refine gx_iload_n Cx eX8_running_73 2 rfl ?_
        obtain ⟨y7, M8, h6, h⟩ := gx_bI_of h
        refine gx_callVI (ci := 8) Cx my_X8_basinRuns wlX8_397 rfl gx_y57 (by decide) rfl eX8_running_74 (c_X8_basinRuns κ h6) rfl (Nat.le_of_ble_eq_true rfl) ?_
        refine gx_goto (tgt := 86) Cx eX8_running_77 (by decide) ?_
        exact gx_rI h rfl eX8_running_86 hR
    · refine gx_aload_n Cx eX8_running_39 0 rfl ?_
      refine gx_bipush (v := (80 : Int32)) Cx eX8_running_40 (by decide) ?_
      obtain ⟨M10, h9, h⟩ := gx_bP_of h
      refine gx_callVV (ci := 8) Cx my_X8_ran wlX8_379 rfl gx_y57 (by decide) rfl eX8_running_42 (c_X8_ran κ h9) rfl (Nat.le_of_ble_eq_true rfl) ?_
      refine gx_aload_n Cx eX8_running_45 0 rfl ?_
      refine gx_iload_n Cx eX8_running_46 1 rfl ?_
      refine gx_iload_n Cx eX8_running_47 2 rfl ?_
      obtain ⟨y12, M13, h11, h⟩ := gx_bI_of h
      refine gx_callVI (ci := 8) Cx my_X8_plainRuns wlX8_394 rfl gx_y57 (by decide) rfl eX8_running_48 (c_X8_plainRuns κ h11) rfl (Nat.le_of_ble_eq_true rfl) ?_
      refine gx_istore_n Cx eX8_running_51 [(3, .int y12), (0, .ref (gx_a κ 57)), (1, .int v1), (2, .int v2)] rfl (by decide) ?_
      refine gx_iload_n Cx eX8_running_52 0 rfl ?_
      refine gx_aload_n Cx eX8_running_53 1 rfl ?_
      refine gx_iload_n Cx eX8_running_54 2 rfl ?_
      refine gx_iconst (v := (2 : Int32)) Cx eX8_running_55 (by decide) ?_
      obtain ⟨y15, M16, h14, h⟩ := gx_bI_of h
      refine gx_callVI (ci := 8) Cx my_X8_thinking wlX8_400 rfl gx_y57 (by decide) rfl eX8_running_56 (c_X8_thinking κ h14) rfl (Nat.le_of_ble_eq_true rfl) ?_
      refine gx_iadd Cx eX8_running_59 ?_
      exact gx_rI h rfl eX8_running_60 hR
  · refine gx_aload_n Cx eX8_running_13 0 rfl ?_
    refine gx_bipush (v := (41 : Int32)) Cx eX8_running_14 (by decide) ?_
    obtain ⟨M18, h17, h⟩ := gx_bP_of h
    refine gx_callVV (ci := 8) Cx my_X8_ran wlX8_379 rfl gx_y57 (by decide) rfl eX8_running_16 (c_X8_ran κ h17) rfl (Nat.le_of_ble_eq_true rfl) ?_
    refine gx_aload_n Cx eX8_running_19 0 rfl ?_
    refine gx_iload_n Cx eX8_running_20 1 rfl ?_
    refine gx_iload_n Cx eX8_running_21 2 rfl ?_
    refine gx_iconst (v := (1 : Int32)) Cx eX8_running_22 (by decide) ?_
    refine gx_iadd Cx eX8_running_23 ?_
    obtain ⟨y20, M21, h19, h⟩ := gx_bI_of h
    refine gx_callVI (ci := 8) Cx my_X8_basinRuns wlX8_397 rfl gx_y57 (by decide) rfl eX8_running_24 (c_X8_basinRuns κ h19) rfl (Nat.le_of_ble_eq_true rfl) ?_
    exact gx_rI h rfl eX8_running_27 hR
set_option maxHeartbeats 4000000 in
set_option maxRecDepth 100000 in
theorem c_X8_plainTells (κ : gx_K) {v1 : Int32} {v2 : Int32} {M : gx_Mem} {r9 : Int32} {M9 : gx_Mem} (hf : f_X8_plainTells v1 v2 M = some (r9, M9)) : gx_CI κ yX8_plainTells cX8_plainTells 4 (some .int) 7 [.ref (gx_a κ 57), .int v1, .int v2] M r9 M9 := by
  refine gx_enterI (d := 7) my_X8_plainTells.1 (by decide) (Nat.le_of_ble_eq_true rfl) (fun Γ Cx hR => ?_)
  change gx_G κ Γ 0 [(0, .ref (gx_a κ 57)), (1, .int v1), (2, .int v2)] [] M
  have h := hf
  refine gx_aload_n Cx eX8_plainTells_0 0 rfl ?_
  refine gx_iconst (v := (2 : Int32)) Cx eX8_plainTells_1 (by decide) ?_
  obtain ⟨M2, h1, h⟩ := gx_bP_of h
  refine gx_callVV (ci := 8) Cx my_X8_ran wlX8_379 rfl gx_y57 (by decide) rfl eX8_plainTells_2 (c_X8_ran κ h1) rfl (Nat.le_of_ble_eq_true rfl) ?_
  refine gx_aload_n Cx eX8_plainTells_5 0 rfl ?_
  refine gx_iload_n Cx eX8_plainTells_6 1 rfl ?_
  refine gx_iload_n Cx eX8_plainTells_7 2 rfl ?_
  obtain ⟨y4, M5, h3, h⟩ := gx_bI_of h
  refine gx_callVI (ci := 8) Cx my_X8_running wlX8_409 rfl gx_y57 (by decide) rfl eX8_plainTells_8 (c_X8_running κ h3) rfl (Nat.le_of_ble_eq_true rfl) ?_
  refine gx_istore_n Cx eX8_plainTells_11 [(3, .int y4), (0, .ref (gx_a κ 57)), (1, .int v1), (2, .int v2)] rfl (by decide) ?_
  refine gx_iload_n Cx eX8_plainTells_12 0 rfl ?_
  refine gx_aload_n Cx eX8_plainTells_13 1 rfl ?_
  refine gx_iload_n Cx eX8_plainTells_14 2 rfl ?_
  refine gx_iconst (v := (1 : Int32)) Cx eX8_plainTells_15 (by decide) ?_
  obtain ⟨y7, M8, h6, h⟩ := gx_bI_of h
  refine gx_callVI (ci := 8) Cx my_X8_thinking wlX8_400 rfl gx_y57 (by decide) rfl eX8_plainTells_16 (c_X8_thinking κ h6) rfl (Nat.le_of_ble_eq_true rfl) ?_
  refine gx_isub Cx eX8_plainTells_19 ?_
  exact gx_rI h rfl eX8_plainTells_20 hR
set_option maxHeartbeats 4000000 in
set_option maxRecDepth 100000 in
theorem c_X8_telling (κ : gx_K) {v1 : Int32} {v2 : Int32} {M : gx_Mem} {r9 : Int32} {M9 : gx_Mem} (hf : f_X8_telling v1 v2 M = some (r9, M9)) : gx_CI κ yX8_telling cX8_telling 3 (some .int) 8 [.ref (gx_a κ 57), .int v1, .int v2] M r9 M9 := by
  refine gx_enterI (d := 8) my_X8_telling.1 (by decide) (Nat.le_of_ble_eq_true rfl) (fun Γ Cx hR => ?_)
  change gx_G κ Γ 0 [(0, .ref (gx_a κ 57)), (1, .int v1), (2, .int v2)] [] M
  have h := hf
  refine gx_aload_n Cx eX8_telling_0 0 rfl ?_
  refine gfX8_110 Cx eX8_telling_1 ?_
  refine gx_iload_n Cx eX8_telling_4 1 rfl ?_
  refine gx_iald Cx gx_y90 eX8_telling_5 h (fun h => ?_)
  refine gx_iconst (v := (4 : Int32)) Cx eX8_telling_6 (by decide) ?_
  refine gx_icmp_ne (tgt := 25) Cx eX8_telling_7 (by decide) h (fun h => ?_) (fun h => ?_)
  · refine gx_aload_n Cx eX8_telling_25 0 rfl ?_
    refine gfX8_110 Cx eX8_telling_26 ?_
    refine gx_iload_n Cx eX8_telling_29 1 rfl ?_
    refine gx_iald Cx gx_y90 eX8_telling_30 h (fun h => ?_)
    refine gx_iconst (v := (5 : Int32)) Cx eX8_telling_31 (by decide) ?_
    refine gx_icmp_ne (tgt := 50) Cx eX8_telling_32 (by decide) h (fun h => ?_) (fun h => ?_)
    · refine gx_aload_n Cx eX8_telling_50 0 rfl ?_
      refine gx_iload_n Cx eX8_telling_51 1 rfl ?_
      refine gx_iload_n Cx eX8_telling_52 2 rfl ?_
      obtain ⟨y2, M3, h1, h⟩ := gx_bI_of h
      refine gx_callVI (ci := 8) Cx my_X8_plainTells wlX8_412 rfl gx_y57 (by decide) rfl eX8_telling_53 (c_X8_plainTells κ h1) rfl (Nat.le_of_ble_eq_true rfl) ?_
      exact gx_rI h rfl eX8_telling_56 hR
    · refine gx_aload_n Cx eX8_telling_35 0 rfl ?_
      refine gx_bipush (v := (61 : Int32)) Cx eX8_telling_36 (by decide) ?_
      obtain ⟨M5, h4, h⟩ := gx_bP_of h
      refine gx_callVV (ci := 8) Cx my_X8_ran wlX8_379 rfl gx_y57 (by decide) rfl eX8_telling_38 (c_X8_ran κ h4) rfl (Nat.le_of_ble_eq_true rfl) ?_
      refine gx_aload_n Cx eX8_telling_41 0 rfl ?_
      refine gx_iload_n Cx eX8_telling_42 1 rfl ?_
      refine gx_iload_n Cx eX8_telling_43 2 rfl ?_
      obtain ⟨y7, M8, h6, h⟩ := gx_bI_of h
      refine gx_callVI (ci := 8) Cx my_X8_plainTells wlX8_412 rfl gx_y57 (by decide) rfl eX8_telling_44 (c_X8_plainTells κ h6) rfl (Nat.le_of_ble_eq_true rfl) ?_
      refine gx_iconst (v := (1 : Int32)) Cx eX8_telling_47 (by decide) ?_
      refine gx_iadd Cx eX8_telling_48 ?_
      exact gx_rI h rfl eX8_telling_49 hR
  · refine gx_aload_n Cx eX8_telling_10 0 rfl ?_
    refine gx_bipush (v := (50 : Int32)) Cx eX8_telling_11 (by decide) ?_
    obtain ⟨M10, h9, h⟩ := gx_bP_of h
    refine gx_callVV (ci := 8) Cx my_X8_ran wlX8_379 rfl gx_y57 (by decide) rfl eX8_telling_13 (c_X8_ran κ h9) rfl (Nat.le_of_ble_eq_true rfl) ?_
    refine gx_aload_n Cx eX8_telling_16 0 rfl ?_
    refine gx_iload_n Cx eX8_telling_17 1 rfl ?_
    refine gx_iload_n Cx eX8_telling_18 2 rfl ?_
    obtain ⟨y12, M13, h11, h⟩ := gx_bI_of h
    refine gx_callVI (ci := 8) Cx my_X8_plainTells wlX8_412 rfl gx_y57 (by decide) rfl eX8_telling_19 (c_X8_plainTells κ h11) rfl (Nat.le_of_ble_eq_true rfl) ?_
    refine gx_iconst (v := (5 : Int32)) Cx eX8_telling_22 (by decide) ?_
    refine gx_ixor Cx eX8_telling_23 ?_
    exact gx_rI h rfl eX8_telling_24 hR
set_option maxHeartbeats 4000000 in
set_option maxRecDepth 100000 in
theorem c_X8_act (κ : gx_K) {v1 : Int32} {v2 : Int32} {v3 : Int32} {M : gx_Mem} {r9 : Int32} {M9 : gx_Mem} (hf : f_X8_act v1 v2 v3 M = some (r9, M9)) : gx_CI κ yX8_act cX8_act 4 (some .int) 9 [.ref (gx_a κ 57), .int v1, .int v2, .int v3] M r9 M9 := by
  refine gx_enterI (d := 9) my_X8_act.1 (by decide) (Nat.le_of_ble_eq_true rfl) (fun Γ Cx hR => ?_)
  change gx_G κ Γ 0 [(0, .ref (gx_a κ 57)), (1, .int v1), (2, .int v2), (3, .int v3)] [] M
  have h := hf
  refine gx_aload_n Cx eX8_act_0 0 rfl ?_
  refine gx_iconst (v := (0 : Int32)) Cx eX8_act_1 (by decide) ?_
  refine pfX8_376 Cx eX8_act_2 h (fun M1 h => ?_)
  refine gx_aload_n Cx eX8_act_5 0 rfl ?_
  refine gx_iload_n Cx eX8_act_6 1 rfl ?_
  obtain ⟨y3, h2, h⟩ := gx_bP_of h
  refine gx_callVI (ci := 8) Cx my_X8_isBody wlX8_415 rfl gx_y57 (by decide) rfl eX8_act_7 (c_X8_isBody κ h2) rfl (Nat.le_of_ble_eq_true rfl) ?_
  refine gx_if_eq (tgt := 22) Cx eX8_act_10 (by decide) h (fun h => ?_) (fun h => ?_)
  · refine gx_iconst (v := (0 : Int32)) Cx eX8_act_22 (by decide) ?_
    exact gx_rI h rfl eX8_act_23 hR
  · refine gx_iload_n Cx eX8_act_13 2 rfl ?_
    refine gx_iconst (v := (0 : Int32)) Cx eX8_act_14 (by decide) ?_
    refine gx_iconst (v := (3 : Int32)) Cx eX8_act_15 (by decide) ?_
    obtain ⟨y5, h4, h⟩ := gx_bP_of h
    refine gx_callSI Cx my_X8_in wlX8_136 (by decide) rfl eX8_act_16 (c_X8_in κ h4) rfl (Nat.le_of_ble_eq_true rfl) ?_
    refine gx_if_ne (tgt := 24) Cx eX8_act_19 (by decide) h (fun h => ?_) (fun h => ?_)
    · refine gx_iload_n Cx eX8_act_24 2 rfl ?_
      refine gx_if_ne (tgt := 37) Cx eX8_act_25 (by decide) h (fun h => ?_) (fun h => ?_)
      · refine gx_iload_n Cx eX8_act_37 2 rfl ?_
        refine gx_iconst (v := (1 : Int32)) Cx eX8_act_38 (by decide) ?_
        refine gx_icmp_ne (tgt := 51) Cx eX8_act_39 (by decide) h (fun h => ?_) (fun h => ?_)
        · refine gx_iload_n Cx eX8_act_51 2 rfl ?_
          refine gx_iconst (v := (2 : Int32)) Cx eX8_act_52 (by decide) ?_
          refine gx_icmp_ne (tgt := 65) Cx eX8_act_53 (by decide) h (fun h => ?_) (fun h => ?_)
          · refine gx_aload_n Cx eX8_act_65 0 rfl ?_
            refine gx_iload_n Cx eX8_act_66 1 rfl ?_
            refine gx_iload_n Cx eX8_act_67 3 rfl ?_
            obtain ⟨y7, M8, h6, h⟩ := gx_bI_of h
            refine gx_callVI (ci := 8) Cx my_X8_telling wlX8_418 rfl gx_y57 (by decide) rfl eX8_act_68 (c_X8_telling κ h6) rfl (Nat.le_of_ble_eq_true rfl) ?_
            exact gx_rI h rfl eX8_act_71 hR
          · refine gx_aload_n Cx eX8_act_56 0 rfl ?_
            refine gx_iload_n Cx eX8_act_57 1 rfl ?_
            refine gx_iload_n Cx eX8_act_58 3 rfl ?_
            obtain ⟨y10, M11, h9, h⟩ := gx_bI_of h
            refine gx_callVI (ci := 8) Cx my_X8_thinking wlX8_400 rfl gx_y57 (by decide) rfl eX8_act_59 (c_X8_thinking κ h9) rfl (Nat.le_of_ble_eq_true rfl) ?_
            refine gx_goto (tgt := 71) Cx eX8_act_62 (by decide) ?_
            exact gx_rI h rfl eX8_act_71 hR
        · refine gx_aload_n Cx eX8_act_42 0 rfl ?_
          refine gx_iload_n Cx eX8_act_43 1 rfl ?_
          refine gx_iload_n Cx eX8_act_44 3 rfl ?_
          obtain ⟨y13, M14, h12, h⟩ := gx_bI_of h
          refine gx_callVI (ci := 8) Cx my_X8_running wlX8_409 rfl gx_y57 (by decide) rfl eX8_act_45 (c_X8_running κ h12) rfl (Nat.le_of_ble_eq_true rfl) ?_
          refine gx_goto (tgt := 71) Cx eX8_act_48 (by decide) ?_
          exact gx_rI h rfl eX8_act_71 hR
      · refine gx_aload_n Cx eX8_act_28 0 rfl ?_
        refine gx_iload_n Cx eX8_act_29 1 rfl ?_
        refine gx_iload_n Cx eX8_act_30 3 rfl ?_
        obtain ⟨y16, M17, h15, h⟩ := gx_bI_of h
        refine gx_callVI (ci := 8) Cx my_X8_falling wlX8_391 rfl gx_y57 (by decide) rfl eX8_act_31 (c_X8_falling κ h15) rfl (Nat.le_of_ble_eq_true rfl) ?_
        refine gx_goto (tgt := 71) Cx eX8_act_34 (by decide) ?_
        exact gx_rI h rfl eX8_act_71 hR
    · refine gx_iconst (v := (0 : Int32)) Cx eX8_act_22 (by decide) ?_
      exact gx_rI h rfl eX8_act_23 hR
set_option maxHeartbeats 4000000 in
set_option maxRecDepth 100000 in
theorem c_X8_addOne (κ : gx_K) {v1 : Int32} {v2 : Int32} {M : gx_Mem} {r9 : Int32} {M9 : gx_Mem} (hf : f_X8_addOne v1 v2 M = some (r9, M9)) : gx_CI κ yX8_addOne cX8_addOne 3 (some .int) 0 [.ref (gx_a κ 57), .int v1, .int v2] M r9 M9 := by
  refine gx_enterI (d := 0) my_X8_addOne.1 (by decide) (Nat.le_of_ble_eq_true rfl) (fun Γ Cx hR => ?_)
  change gx_G κ Γ 0 [(0, .ref (gx_a κ 57)), (1, .int v1), (2, .int v2)] [] M
  have h := hf
  refine gx_aload_n Cx eX8_addOne_0 0 rfl ?_
  refine gfX8_9 Cx eX8_addOne_1 ?_
  refine gx_aload_n Cx eX8_addOne_4 0 rfl ?_
  refine gfX8_133 Cx eX8_addOne_5 ?_
  refine gx_iload_n Cx eX8_addOne_8 1 rfl ?_
  refine gx_iast Cx gx_y58 eX8_addOne_9 h (fun M1 h => ?_)
  refine gx_aload_n Cx eX8_addOne_10 0 rfl ?_
  refine gfX8_15 Cx eX8_addOne_11 ?_
  refine gx_aload_n Cx eX8_addOne_14 0 rfl ?_
  refine gfX8_133 Cx eX8_addOne_15 ?_
  refine gx_iload_n Cx eX8_addOne_18 2 rfl ?_
  refine gx_iast Cx gx_y59 eX8_addOne_19 h (fun M2 h => ?_)
  refine gx_aload_n Cx eX8_addOne_20 0 rfl ?_
  refine gx_dup Cx eX8_addOne_21 rfl ?_
  refine gfX8_133 Cx eX8_addOne_22 ?_
  refine gx_iconst (v := (1 : Int32)) Cx eX8_addOne_25 (by decide) ?_
  refine gx_iadd Cx eX8_addOne_26 ?_
  refine pfX8_133 Cx eX8_addOne_27 h (fun M3 h => ?_)
  refine gx_aload_n Cx eX8_addOne_30 0 rfl ?_
  refine gfX8_133 Cx eX8_addOne_31 ?_
  refine gx_iconst (v := (1 : Int32)) Cx eX8_addOne_34 (by decide) ?_
  refine gx_isub Cx eX8_addOne_35 ?_
  exact gx_rI h rfl eX8_addOne_36 hR
set_option maxHeartbeats 4000000 in
set_option maxRecDepth 100000 in
theorem c_X8_addStep (κ : gx_K) {v1 : Int32} {v2 : Int32} {M : gx_Mem} {M9 : gx_Mem} (hf : f_X8_addStep v1 v2 M = some M9) : gx_CV κ yX8_addStep cX8_addStep 3 none 0 [.ref (gx_a κ 57), .int v1, .int v2] M M9 := by
  refine gx_enterV (d := 0) my_X8_addStep.1 (by decide) (Nat.le_of_ble_eq_true rfl) (fun Γ Cx hR => ?_)
  change gx_G κ Γ 0 [(0, .ref (gx_a κ 57)), (1, .int v1), (2, .int v2)] [] M
  have h := hf
  refine gx_aload_n Cx eX8_addStep_0 0 rfl ?_
  refine gfX8_46 Cx eX8_addStep_1 ?_
  refine gx_sipush (v := (130 : Int32)) Cx eX8_addStep_4 (by decide) ?_
  refine gx_aload_n Cx eX8_addStep_7 0 rfl ?_
  refine gfX8_196 Cx eX8_addStep_8 ?_
  refine gx_iadd Cx eX8_addStep_11 ?_
  refine gx_iload_n Cx eX8_addStep_12 1 rfl ?_
  refine gx_i2b Cx eX8_addStep_13 ?_
  refine gx_bast Cx gx_y69 eX8_addStep_14 h (fun M1 h => ?_)
  refine gx_aload_n Cx eX8_addStep_15 0 rfl ?_
  refine gfX8_49 Cx eX8_addStep_16 ?_
  refine gx_sipush (v := (130 : Int32)) Cx eX8_addStep_19 (by decide) ?_
  refine gx_aload_n Cx eX8_addStep_22 0 rfl ?_
  refine gfX8_196 Cx eX8_addStep_23 ?_
  refine gx_iadd Cx eX8_addStep_26 ?_
  refine gx_iload_n Cx eX8_addStep_27 2 rfl ?_
  refine gx_iast Cx gx_y70 eX8_addStep_28 h (fun M2 h => ?_)
  refine gx_aload_n Cx eX8_addStep_29 0 rfl ?_
  refine gx_dup Cx eX8_addStep_30 rfl ?_
  refine gfX8_196 Cx eX8_addStep_31 ?_
  refine gx_iconst (v := (1 : Int32)) Cx eX8_addStep_34 (by decide) ?_
  refine gx_iadd Cx eX8_addStep_35 ?_
  refine pfX8_196 Cx eX8_addStep_36 h (fun M3 h => ?_)
  exact gx_rV h eX8_addStep_39 hR
set_option maxHeartbeats 4000000 in
set_option maxRecDepth 100000 in
theorem c_X8_allWet (κ : gx_K) {v1 : Int32} {M : gx_Mem} {r9 : Int32} (hf : f_X8_allWet v1 M = some r9) : gx_CI κ yX8_allWet cX8_allWet 4 (some .int) 0 [.ref (gx_a κ 57), .int v1] M r9 M := by
  refine gx_enterI (d := 0) my_X8_allWet.1 (by decide) (Nat.le_of_ble_eq_true rfl) (fun Γ Cx hR => ?_)
  change gx_G κ Γ 0 [(0, .ref (gx_a κ 57)), (1, .int v1)] [] M
  have K4 : ∀  (ag4 : Int32 → Int32 → Option Int32) (hag4 : ∀ (v2 : Int32) (v3 : Int32), ag4 v2 v3 = some r9 → gx_G κ Γ 4 [(0, .ref (gx_a κ 57)), (1, .int v1), (2, .int v2), (3, .int v3)] [] M) (v2 : Int32) (v3 : Int32), f_X8_allWet_k4 v1 ag4 v2 v3 M = some r9 → gx_G κ Γ 4 [(0, .ref (gx_a κ 57)), (1, .int v1), (2, .int v2), (3, .int v3)] [] M := by
    intro ag4 hag4
    intro v2 v3 h
    refine gx_iload_n Cx eX8_allWet_4 3 rfl ?_
    refine gx_iconst (v := (4 : Int32)) Cx eX8_allWet_5 (by decide) ?_
    refine gx_icmp_ge (tgt := 28) Cx eX8_allWet_6 (by decide) h (fun h => ?_) (fun h => ?_)
    · refine gx_iload_n Cx eX8_allWet_28 2 rfl ?_
      exact gx_rIp h rfl eX8_allWet_29 hR
    · refine gx_iload_n Cx eX8_allWet_9 2 rfl ?_
      refine gx_aload_n Cx eX8_allWet_10 0 rfl ?_
      refine gfX8_74 Cx eX8_allWet_11 ?_
      refine gx_iconst (v := (4 : Int32)) Cx eX8_allWet_14 (by decide) ?_
      refine gx_iload_n Cx eX8_allWet_15 1 rfl ?_
      refine gx_imul Cx eX8_allWet_16 ?_
      refine gx_iload_n Cx eX8_allWet_17 3 rfl ?_
      refine gx_iadd Cx eX8_allWet_18 ?_
      refine gx_iald Cx gx_y78 eX8_allWet_19 h (fun h => ?_)
      refine gx_iadd Cx eX8_allWet_20 ?_
      refine gx_nmI h (fun x1 h => ?_)
      refine gx_istore_n Cx eX8_allWet_21 [(2, .int x1), (0, .ref (gx_a κ 57)), (1, .int v1), (3, .int v3)] rfl (by decide) ?_
      refine gx_iinc (v := (1 : Int32)) (i := 3) (j := 3) Cx eX8_allWet_22 (by decide) h 3 rfl (fun w => [(3, .int w), (2, .int x1), (0, .ref (gx_a κ 57)), (1, .int v1)]) (fun _ => rfl) (by decide) (fun x2 h => ?_)
      refine gx_goto (tgt := 4) Cx eX8_allWet_25 (by decide) ?_
      refine gx_sub [2, 3, 1, 0] rfl ?_
      exact hag4 _ _ h
  have L4 : ∀  (n : Nat) (v2 : Int32) (v3 : Int32), f_X8_allWet_l4 v1 n v2 v3 M = some r9 → gx_G κ Γ 4 [(0, .ref (gx_a κ 57)), (1, .int v1), (2, .int v2), (3, .int v3)] [] M := by
    intro n
    induction n with
    | zero => intro v2 v3 h; exact gx_loop_0 h
    | succ n ih => intro v2 v3 h; exact K4 (fun v2 v3 => f_X8_allWet_l4 v1 n v2 v3 M) ih v2 v3 h
  have h := hf
  refine gx_iconst (v := (0 : Int32)) Cx eX8_allWet_0 (by decide) ?_
  refine gx_istore_n Cx eX8_allWet_1 [(2, .int (0 : Int32)), (0, .ref (gx_a κ 57)), (1, .int v1)] rfl (by decide) ?_
  refine gx_iconst (v := (0 : Int32)) Cx eX8_allWet_2 (by decide) ?_
  refine gx_istore_n Cx eX8_allWet_3 [(3, .int (0 : Int32)), (2, .int (0 : Int32)), (0, .ref (gx_a κ 57)), (1, .int v1)] rfl (by decide) ?_
  refine gx_sub [2, 3, 1, 0] rfl ?_
  exact L4 _ _ _ h
set_option maxHeartbeats 4000000 in
set_option maxRecDepth 100000 in
theorem c_X8_areHours (κ : gx_K) {v0 : Int32} {M : gx_Mem} {r9 : Int32} (hf : f_X8_areHours v0 M = some r9) : gx_CI κ yX8_areHours cX8_areHours 1 (some .boolean) 1 [.int v0] M r9 M := by
  refine gx_enterI (d := 1) my_X8_areHours.1 (by decide) (Nat.le_of_ble_eq_true rfl) (fun Γ Cx hR => ?_)
  change gx_G κ Γ 0 [(0, .int v0)] [] M
  have h := hf
  refine gx_iload_n Cx eX8_areHours_0 0 rfl ?_
  refine gx_iconst (v := (0 : Int32)) Cx eX8_areHours_1 (by decide) ?_
  refine gx_bipush (v := (48 : Int32)) Cx eX8_areHours_2 (by decide) ?_
  obtain ⟨y2, h1, h⟩ := gx_bP_of h
  refine gx_callSI Cx my_X8_in wlX8_136 (by decide) rfl eX8_areHours_4 (c_X8_in κ h1) rfl (Nat.le_of_ble_eq_true rfl) ?_
  exact gx_rZp h eX8_areHours_7 hR
set_option maxHeartbeats 4000000 in
set_option maxRecDepth 100000 in
theorem c_X8_isMark (κ : gx_K) {v0 : Int32} {M : gx_Mem} {r9 : Int32} (hf : f_X8_isMark v0 M = some r9) : gx_CI κ yX8_isMark cX8_isMark 1 (some .boolean) 1 [.int v0] M r9 M := by
  refine gx_enterI (d := 1) my_X8_isMark.1 (by decide) (Nat.le_of_ble_eq_true rfl) (fun Γ Cx hR => ?_)
  change gx_G κ Γ 0 [(0, .int v0)] [] M
  have h := hf
  refine gx_iload_n Cx eX8_isMark_0 0 rfl ?_
  refine gx_iconst (v := (0 : Int32)) Cx eX8_isMark_1 (by decide) ?_
  refine gx_iconst (v := (3 : Int32)) Cx eX8_isMark_2 (by decide) ?_
  obtain ⟨y2, h1, h⟩ := gx_bP_of h
  refine gx_callSI Cx my_X8_in wlX8_136 (by decide) rfl eX8_isMark_3 (c_X8_in κ h1) rfl (Nat.le_of_ble_eq_true rfl) ?_
  exact gx_rZp h eX8_isMark_6 hR
set_option maxHeartbeats 4000000 in
set_option maxRecDepth 100000 in
theorem c_X8_isOne (κ : gx_K) {v1 : Int32} {M : gx_Mem} {r9 : Int32} (hf : f_X8_isOne v1 M = some r9) : gx_CI κ yX8_isOne cX8_isOne 2 (some .boolean) 1 [.ref (gx_a κ 57), .int v1] M r9 M := by
  refine gx_enterI (d := 1) my_X8_isOne.1 (by decide) (Nat.le_of_ble_eq_true rfl) (fun Γ Cx hR => ?_)
  change gx_G κ Γ 0 [(0, .ref (gx_a κ 57)), (1, .int v1)] [] M
  have h := hf
  refine gx_iload_n Cx eX8_isOne_0 1 rfl ?_
  refine gx_iconst (v := (0 : Int32)) Cx eX8_isOne_1 (by decide) ?_
  refine gx_aload_n Cx eX8_isOne_2 0 rfl ?_
  refine gfX8_133 Cx eX8_isOne_3 ?_
  refine gx_iconst (v := (1 : Int32)) Cx eX8_isOne_6 (by decide) ?_
  refine gx_isub Cx eX8_isOne_7 ?_
  obtain ⟨y2, h1, h⟩ := gx_bP_of h
  refine gx_callSI Cx my_X8_in wlX8_136 (by decide) rfl eX8_isOne_8 (c_X8_in κ h1) rfl (Nat.le_of_ble_eq_true rfl) ?_
  exact gx_rZp h eX8_isOne_11 hR
set_option maxHeartbeats 4000000 in
set_option maxRecDepth 100000 in
theorem c_X8_areMark (κ : gx_K) {v1 : Int32} {M : gx_Mem} {r9 : Int32} (hf : f_X8_areMark v1 M = some r9) : gx_CI κ yX8_areMark cX8_areMark 2 (some .boolean) 2 [.ref (gx_a κ 57), .int v1] M r9 M := by
  refine gx_enterI (d := 2) my_X8_areMark.1 (by decide) (Nat.le_of_ble_eq_true rfl) (fun Γ Cx hR => ?_)
  change gx_G κ Γ 0 [(0, .ref (gx_a κ 57)), (1, .int v1)] [] M
  have h := hf
  refine gx_iload_n Cx eX8_areMark_0 1 rfl ?_
  refine gx_if_lt (tgt := 29) Cx eX8_areMark_1 (by decide) h (fun h => ?_) (fun h => ?_)
  · refine gx_iconst (v := (0 : Int32)) Cx eX8_areMark_29 (by decide) ?_
    exact gx_rIp h (by decide) eX8_areMark_30 hR
  · refine gx_aload_n Cx eX8_areMark_4 0 rfl ?_
    refine gx_iload_n Cx eX8_areMark_5 1 rfl ?_
    refine gx_bipush (v := (10 : Int32)) Cx eX8_areMark_6 (by decide) ?_
    refine gx_idivC Cx eX8_areMark_8 (by decide) ?_
    obtain ⟨y2, h1, h⟩ := gx_bP_of h
    refine gx_callVI (ci := 8) Cx my_X8_isOne wlX8_140 rfl gx_y57 (by decide) rfl eX8_areMark_9 (c_X8_isOne κ h1) rfl (Nat.le_of_ble_eq_true rfl) ?_
    refine gx_if_eq (tgt := 29) Cx eX8_areMark_12 (by decide) h (fun h => ?_) (fun h => ?_)
    · refine gx_iconst (v := (0 : Int32)) Cx eX8_areMark_29 (by decide) ?_
      exact gx_rIp h (by decide) eX8_areMark_30 hR
    · refine gx_iload_n Cx eX8_areMark_15 1 rfl ?_
      refine gx_bipush (v := (10 : Int32)) Cx eX8_areMark_16 (by decide) ?_
      refine gx_iremC Cx eX8_areMark_18 (by decide) ?_
      obtain ⟨y4, h3, h⟩ := gx_bP_of h
      refine gx_callSI Cx my_X8_isMark wlX8_144 (by decide) rfl eX8_areMark_19 (c_X8_isMark κ h3) rfl (Nat.le_of_ble_eq_true rfl) ?_
      refine gx_if_eq (tgt := 29) Cx eX8_areMark_22 (by decide) h (fun h => ?_) (fun h => ?_)
      · refine gx_iconst (v := (0 : Int32)) Cx eX8_areMark_29 (by decide) ?_
        exact gx_rIp h (by decide) eX8_areMark_30 hR
      · refine gx_iconst (v := (1 : Int32)) Cx eX8_areMark_25 (by decide) ?_
        refine gx_goto (tgt := 30) Cx eX8_areMark_26 (by decide) ?_
        exact gx_rIp h (by decide) eX8_areMark_30 hR
set_option maxHeartbeats 4000000 in
set_option maxRecDepth 100000 in
theorem c_X8_at (κ : gx_K) {v1 : Int32} {v2 : Int32} {M : gx_Mem} {r9 : Int32} (hf : f_X8_at v1 v2 M = some r9) : gx_CI κ yX8_at cX8_at 3 (some .int) 0 [.ref (gx_a κ 57), .int v1, .int v2] M r9 M := by
  refine gx_enterI (d := 0) my_X8_at.1 (by decide) (Nat.le_of_ble_eq_true rfl) (fun Γ Cx hR => ?_)
  change gx_G κ Γ 0 [(0, .ref (gx_a κ 57)), (1, .int v1), (2, .int v2)] [] M
  have h := hf
  refine gx_aload_n Cx eX8_at_0 0 rfl ?_
  refine gfX8_122 Cx eX8_at_1 ?_
  refine gx_bipush (v := (60 : Int32)) Cx eX8_at_4 (by decide) ?_
  refine gx_iload_n Cx eX8_at_6 1 rfl ?_
  refine gx_imul Cx eX8_at_7 ?_
  refine gx_iload_n Cx eX8_at_8 2 rfl ?_
  refine gx_iadd Cx eX8_at_9 ?_
  refine gx_lald Cx gx_y94 eX8_at_10 h (fun h => ?_)
  refine gx_l2i Cx eX8_at_11 ?_
  exact gx_rIp h rfl eX8_at_12 hR
set_option maxHeartbeats 4000000 in
set_option maxRecDepth 100000 in
theorem c_X8_isFlat (κ : gx_K) {v0 : Int32} {M : gx_Mem} {r9 : Int32} (hf : f_X8_isFlat v0 M = some r9) : gx_CI κ yX8_isFlat cX8_isFlat 1 (some .boolean) 1 [.int v0] M r9 M := by
  refine gx_enterI (d := 1) my_X8_isFlat.1 (by decide) (Nat.le_of_ble_eq_true rfl) (fun Γ Cx hR => ?_)
  change gx_G κ Γ 0 [(0, .int v0)] [] M
  have h := hf
  refine gx_iload_n Cx eX8_isFlat_0 0 rfl ?_
  refine gx_iconst (v := (0 : Int32)) Cx eX8_isFlat_1 (by decide) ?_
  refine gx_bipush (v := (23 : Int32)) Cx eX8_isFlat_2 (by decide) ?_
  obtain ⟨y2, h1, h⟩ := gx_bP_of h
  refine gx_callSI Cx my_X8_in wlX8_136 (by decide) rfl eX8_isFlat_4 (c_X8_in κ h1) rfl (Nat.le_of_ble_eq_true rfl) ?_
  exact gx_rZp h eX8_isFlat_7 hR
set_option maxHeartbeats 4000000 in
set_option maxRecDepth 100000 in
theorem c_X8_awning (κ : gx_K) {v1 : Int32} {M : gx_Mem} {r9 : Int32} {M9 : gx_Mem} (hf : f_X8_awning v1 M = some (r9, M9)) : gx_CI κ yX8_awning cX8_awning 2 (some .int) 2 [.ref (gx_a κ 57), .int v1] M r9 M9 := by
  refine gx_enterI (d := 2) my_X8_awning.1 (by decide) (Nat.le_of_ble_eq_true rfl) (fun Γ Cx hR => ?_)
  change gx_G κ Γ 0 [(0, .ref (gx_a κ 57)), (1, .int v1)] [] M
  have B30 : ∀  (M : gx_Mem), f_X8_awning_b30 v1 M = some (r9, M9) → gx_G κ Γ 30 [(0, .ref (gx_a κ 57)), (1, .int v1)] [] M := by
    intro M h
    refine gx_aload_n Cx eX8_awning_30 0 rfl ?_
    refine gfX8_95 Cx eX8_awning_31 ?_
    refine gx_iconst (v := (2 : Int32)) Cx eX8_awning_34 (by decide) ?_
    refine gx_dup2 Cx eX8_awning_35 rfl rfl ?_
    refine gx_ialdC (α := Unit) (b := none) Cx gx_y85 eX8_awning_36 (by decide) ?_
    refine gx_iconst (v := (1 : Int32)) Cx eX8_awning_37 (by decide) ?_
    refine gx_iadd Cx eX8_awning_38 ?_
    refine gx_iastC Cx gx_y85 eX8_awning_39 (by decide) h (fun M4 h => ?_)
    refine gx_aload_n Cx eX8_awning_40 0 rfl ?_
    refine gfX8_24 Cx eX8_awning_41 ?_
    refine gx_iload_n Cx eX8_awning_44 1 rfl ?_
    refine gx_iald Cx gx_y62 eX8_awning_45 h (fun h => ?_)
    exact gx_rI h rfl eX8_awning_46 hR
  have h := hf
  refine gx_iload_n Cx eX8_awning_0 1 rfl ?_
  obtain ⟨y2, h1, h⟩ := gx_bP_of h
  refine gx_callSI Cx my_X8_isFlat wlX8_147 (by decide) rfl eX8_awning_1 (c_X8_isFlat κ h1) rfl (Nat.le_of_ble_eq_true rfl) ?_
  refine gx_if_ne (tgt := 9) Cx eX8_awning_4 (by decide) h (fun h => ?_) (fun h => ?_)
  · refine gx_aload_n Cx eX8_awning_9 0 rfl ?_
    refine gfX8_24 Cx eX8_awning_10 ?_
    refine gx_iload_n Cx eX8_awning_13 1 rfl ?_
    refine gx_iald Cx gx_y62 eX8_awning_14 h (fun h => ?_)
    refine gx_bipush (v := (9 : Int32)) Cx eX8_awning_15 (by decide) ?_
    refine gx_icmp_ge (tgt := 30) Cx eX8_awning_17 (by decide) h (fun h => ?_) (fun h => ?_)
    · exact B30 _ h
    · refine gx_aload_n Cx eX8_awning_20 0 rfl ?_
      refine gfX8_24 Cx eX8_awning_21 ?_
      refine gx_iload_n Cx eX8_awning_24 1 rfl ?_
      refine gx_dup2 Cx eX8_awning_25 rfl rfl ?_
      refine gx_iald Cx gx_y62 eX8_awning_26 h (fun h => ?_)
      refine gx_iconst (v := (1 : Int32)) Cx eX8_awning_27 (by decide) ?_
      refine gx_iadd Cx eX8_awning_28 ?_
      refine gx_iast Cx gx_y62 eX8_awning_29 h (fun M3 h => ?_)
      exact B30 _ h
  · refine gx_iconst (v := (-1 : Int32)) Cx eX8_awning_7 (by decide) ?_
    exact gx_rI h rfl eX8_awning_8 hR
set_option maxHeartbeats 4000000 in
set_option maxRecDepth 100000 in
theorem c_X8_awnings (κ : gx_K)  {M : gx_Mem} {r9 : Int32} (hf : f_X8_awnings M = some r9) : gx_CI κ yX8_awnings cX8_awnings 3 (some .int) 0 [.ref (gx_a κ 57)] M r9 M := by
  refine gx_enterI (d := 0) my_X8_awnings.1 (by decide) (Nat.le_of_ble_eq_true rfl) (fun Γ Cx hR => ?_)
  change gx_G κ Γ 0 [(0, .ref (gx_a κ 57))] [] M
  have K4 : ∀  (ag4 : Int32 → Int32 → Option Int32) (hag4 : ∀ (v1 : Int32) (v2 : Int32), ag4 v1 v2 = some r9 → gx_G κ Γ 4 [(0, .ref (gx_a κ 57)), (1, .int v1), (2, .int v2)] [] M) (v1 : Int32) (v2 : Int32), f_X8_awnings_k4 ag4 v1 v2 M = some r9 → gx_G κ Γ 4 [(0, .ref (gx_a κ 57)), (1, .int v1), (2, .int v2)] [] M := by
    intro ag4 hag4
    have B22 : ∀ (v1 : Int32) (v2 : Int32), f_X8_awnings_b22 ag4 v1 v2 M = some r9 → gx_G κ Γ 22 [(0, .ref (gx_a κ 57)), (1, .int v1), (2, .int v2)] [] M := by
      intro v1 v2 h
      refine gx_iinc (v := (1 : Int32)) (i := 2) (j := 2) Cx eX8_awnings_22 (by decide) h 2 rfl (fun w => [(2, .int w), (0, .ref (gx_a κ 57)), (1, .int v1)]) (fun _ => rfl) (by decide) (fun x2 h => ?_)
      refine gx_goto (tgt := 4) Cx eX8_awnings_25 (by decide) ?_
      refine gx_sub [1, 2, 0] rfl ?_
      exact hag4 _ _ h
    intro v1 v2 h
    refine gx_iload_n Cx eX8_awnings_4 2 rfl ?_
    refine gx_bipush (v := (24 : Int32)) Cx eX8_awnings_5 (by decide) ?_
    refine gx_icmp_ge (tgt := 28) Cx eX8_awnings_7 (by decide) h (fun h => ?_) (fun h => ?_)
    · refine gx_iload_n Cx eX8_awnings_28 1 rfl ?_
      exact gx_rIp h rfl eX8_awnings_29 hR
    · refine gx_aload_n Cx eX8_awnings_10 0 rfl ?_
      refine gfX8_24 Cx eX8_awnings_11 ?_
      refine gx_iload_n Cx eX8_awnings_14 2 rfl ?_
      refine gx_iald Cx gx_y62 eX8_awnings_15 h (fun h => ?_)
      refine gx_if_le (tgt := 22) Cx eX8_awnings_16 (by decide) h (fun h => ?_) (fun h => ?_)
      · exact B22 _ _ h
      · refine gx_iinc (v := (1 : Int32)) (i := 1) (j := 1) Cx eX8_awnings_19 (by decide) h 1 rfl (fun w => [(1, .int w), (0, .ref (gx_a κ 57)), (2, .int v2)]) (fun _ => rfl) (by decide) (fun x1 h => ?_)
        refine gx_sub [1, 0, 2] rfl ?_
        exact B22 _ _ h
  have L4 : ∀  (n : Nat) (v1 : Int32) (v2 : Int32), f_X8_awnings_l4 n v1 v2 M = some r9 → gx_G κ Γ 4 [(0, .ref (gx_a κ 57)), (1, .int v1), (2, .int v2)] [] M := by
    intro n
    induction n with
    | zero => intro v1 v2 h; exact gx_loop_0 h
    | succ n ih => intro v1 v2 h; exact K4 (fun v1 v2 => f_X8_awnings_l4 n v1 v2 M) ih v1 v2 h
  have h := hf
  refine gx_iconst (v := (0 : Int32)) Cx eX8_awnings_0 (by decide) ?_
  refine gx_istore_n Cx eX8_awnings_1 [(1, .int (0 : Int32)), (0, .ref (gx_a κ 57))] rfl (by decide) ?_
  refine gx_iconst (v := (0 : Int32)) Cx eX8_awnings_2 (by decide) ?_
  refine gx_istore_n Cx eX8_awnings_3 [(2, .int (0 : Int32)), (1, .int (0 : Int32)), (0, .ref (gx_a κ 57))] rfl (by decide) ?_
  refine gx_sub [2, 1, 0] rfl ?_
  exact L4 _ _ _ h
set_option maxHeartbeats 4000000 in
set_option maxRecDepth 100000 in
theorem c_X8_back (κ : gx_K)  {M : gx_Mem} {r9 : Int32} {M9 : gx_Mem} (hf : f_X8_back M = some (r9, M9)) : gx_CI κ yX8_back cX8_back 2 (some .int) 0 [.ref (gx_a κ 57)] M r9 M9 := by
  refine gx_enterI (d := 0) my_X8_back.1 (by decide) (Nat.le_of_ble_eq_true rfl) (fun Γ Cx hR => ?_)
  change gx_G κ Γ 0 [(0, .ref (gx_a κ 57))] [] M
  have K106 : ∀  (ag106 : Int32 → gx_Mem → Option (Int32 × gx_Mem)) (hag106 : ∀ (v1 : Int32) (M : gx_Mem), ag106 v1 M = some (r9, M9) → gx_G κ Γ 106 [(0, .ref (gx_a κ 57)), (1, .int v1)] [] M) (v1 : Int32) (M : gx_Mem), f_X8_back_k106 ag106 v1 M = some (r9, M9) → gx_G κ Γ 106 [(0, .ref (gx_a κ 57)), (1, .int v1)] [] M := by
    intro ag106 hag106
    intro v1 M h
    refine gx_iload_n Cx eX8_back_106 1 rfl ?_
    refine gx_iconst (v := (5 : Int32)) Cx eX8_back_107 (by decide) ?_
    refine gx_icmp_ge (tgt := 129) Cx eX8_back_108 (by decide) h (fun h => ?_) (fun h => ?_)
    · refine gx_aload_n Cx eX8_back_129 0 rfl ?_
      refine gfX8_95 Cx eX8_back_130 ?_
      refine gx_iconst (v := (0 : Int32)) Cx eX8_back_133 (by decide) ?_
      refine gx_ialdC (α := Unit) (b := none) Cx gx_y85 eX8_back_134 (by decide) ?_
      exact gx_rI h rfl eX8_back_135 hR
    · refine gx_aload_n Cx eX8_back_111 0 rfl ?_
      refine gfX8_95 Cx eX8_back_112 ?_
      refine gx_iload_n Cx eX8_back_115 1 rfl ?_
      refine gx_aload_n Cx eX8_back_116 0 rfl ?_
      refine gfX8_107 Cx eX8_back_117 ?_
      refine gx_iload_n Cx eX8_back_120 1 rfl ?_
      refine gx_iald Cx gx_y89 eX8_back_121 h (fun h => ?_)
      refine gx_iast Cx gx_y85 eX8_back_122 h (fun M8 h => ?_)
      refine gx_iinc (v := (1 : Int32)) (i := 1) (j := 1) Cx eX8_back_123 (by decide) h 1 rfl (fun w => [(1, .int w), (0, .ref (gx_a κ 57))]) (fun _ => rfl) (by decide) (fun x9 h => ?_)
      refine gx_goto (tgt := 106) Cx eX8_back_126 (by decide) ?_
      refine gx_sub [1, 0] rfl ?_
      exact hag106 _ _ h
  have L106 : ∀  (n : Nat) (v1 : Int32) (M : gx_Mem), f_X8_back_l106 n v1 M = some (r9, M9) → gx_G κ Γ 106 [(0, .ref (gx_a κ 57)), (1, .int v1)] [] M := by
    intro n
    induction n with
    | zero => intro v1 M h; exact gx_loop_0 h
    | succ n ih => intro v1 M h; exact K106 (fun v1 M => f_X8_back_l106 n v1 M) ih v1 M h
  have K80 : ∀  (ag80 : Int32 → gx_Mem → Option (Int32 × gx_Mem)) (hag80 : ∀ (v1 : Int32) (M : gx_Mem), ag80 v1 M = some (r9, M9) → gx_G κ Γ 80 [(0, .ref (gx_a κ 57)), (1, .int v1)] [] M) (v1 : Int32) (M : gx_Mem), f_X8_back_k80 ag80 v1 M = some (r9, M9) → gx_G κ Γ 80 [(0, .ref (gx_a κ 57)), (1, .int v1)] [] M := by
    intro ag80 hag80
    intro v1 M h
    refine gx_iload_n Cx eX8_back_80 1 rfl ?_
    refine gx_bipush (v := (24 : Int32)) Cx eX8_back_81 (by decide) ?_
    refine gx_icmp_ge (tgt := 104) Cx eX8_back_83 (by decide) h (fun h => ?_) (fun h => ?_)
    · refine gx_iconst (v := (0 : Int32)) Cx eX8_back_104 (by decide) ?_
      refine gx_istore_n Cx eX8_back_105 [(1, .int (0 : Int32)), (0, .ref (gx_a κ 57))] rfl (by decide) ?_
      refine gx_sub [1, 0] rfl ?_
      exact L106 _ _ _ h
    · refine gx_aload_n Cx eX8_back_86 0 rfl ?_
      refine gfX8_24 Cx eX8_back_87 ?_
      refine gx_iload_n Cx eX8_back_90 1 rfl ?_
      refine gx_aload_n Cx eX8_back_91 0 rfl ?_
      refine gfX8_104 Cx eX8_back_92 ?_
      refine gx_iload_n Cx eX8_back_95 1 rfl ?_
      refine gx_iald Cx gx_y88 eX8_back_96 h (fun h => ?_)
      refine gx_iast Cx gx_y62 eX8_back_97 h (fun M6 h => ?_)
      refine gx_iinc (v := (1 : Int32)) (i := 1) (j := 1) Cx eX8_back_98 (by decide) h 1 rfl (fun w => [(1, .int w), (0, .ref (gx_a κ 57))]) (fun _ => rfl) (by decide) (fun x7 h => ?_)
      refine gx_goto (tgt := 80) Cx eX8_back_101 (by decide) ?_
      refine gx_sub [1, 0] rfl ?_
      exact hag80 _ _ h
  have L80 : ∀  (n : Nat) (v1 : Int32) (M : gx_Mem), f_X8_back_l80 n v1 M = some (r9, M9) → gx_G κ Γ 80 [(0, .ref (gx_a κ 57)), (1, .int v1)] [] M := by
    intro n
    induction n with
    | zero => intro v1 M h; exact gx_loop_0 h
    | succ n ih => intro v1 M h; exact K80 (fun v1 M => f_X8_back_l80 n v1 M) ih v1 M h
  have K50 : ∀  (ag50 : Int32 → gx_Mem → Option (Int32 × gx_Mem)) (hag50 : ∀ (v1 : Int32) (M : gx_Mem), ag50 v1 M = some (r9, M9) → gx_G κ Γ 50 [(0, .ref (gx_a κ 57)), (1, .int v1)] [] M) (v1 : Int32) (M : gx_Mem), f_X8_back_k50 ag50 v1 M = some (r9, M9) → gx_G κ Γ 50 [(0, .ref (gx_a κ 57)), (1, .int v1)] [] M := by
    intro ag50 hag50
    intro v1 M h
    refine gx_iload_n Cx eX8_back_50 1 rfl ?_
    refine gx_iconst (v := (4 : Int32)) Cx eX8_back_51 (by decide) ?_
    refine gx_aload_n Cx eX8_back_52 0 rfl ?_
    refine gfX8_367 Cx eX8_back_53 ?_
    refine gx_imul Cx eX8_back_56 ?_
    refine gx_icmp_ge (tgt := 78) Cx eX8_back_57 (by decide) h (fun h => ?_) (fun h => ?_)
    · refine gx_iconst (v := (0 : Int32)) Cx eX8_back_78 (by decide) ?_
      refine gx_istore_n Cx eX8_back_79 [(1, .int (0 : Int32)), (0, .ref (gx_a κ 57))] rfl (by decide) ?_
      refine gx_sub [1, 0] rfl ?_
      exact L80 _ _ _ h
    · refine gx_aload_n Cx eX8_back_60 0 rfl ?_
      refine gfX8_21 Cx eX8_back_61 ?_
      refine gx_iload_n Cx eX8_back_64 1 rfl ?_
      refine gx_aload_n Cx eX8_back_65 0 rfl ?_
      refine gfX8_101 Cx eX8_back_66 ?_
      refine gx_iload_n Cx eX8_back_69 1 rfl ?_
      refine gx_iald Cx gx_y87 eX8_back_70 h (fun h => ?_)
      refine gx_iast Cx gx_y61 eX8_back_71 h (fun M4 h => ?_)
      refine gx_iinc (v := (1 : Int32)) (i := 1) (j := 1) Cx eX8_back_72 (by decide) h 1 rfl (fun w => [(1, .int w), (0, .ref (gx_a κ 57))]) (fun _ => rfl) (by decide) (fun x5 h => ?_)
      refine gx_goto (tgt := 50) Cx eX8_back_75 (by decide) ?_
      refine gx_sub [1, 0] rfl ?_
      exact hag50 _ _ h
  have L50 : ∀  (n : Nat) (v1 : Int32) (M : gx_Mem), f_X8_back_l50 n v1 M = some (r9, M9) → gx_G κ Γ 50 [(0, .ref (gx_a κ 57)), (1, .int v1)] [] M := by
    intro n
    induction n with
    | zero => intro v1 M h; exact gx_loop_0 h
    | succ n ih => intro v1 M h; exact K50 (fun v1 M => f_X8_back_l50 n v1 M) ih v1 M h
  have K22 : ∀  (ag22 : Int32 → gx_Mem → Option (Int32 × gx_Mem)) (hag22 : ∀ (v1 : Int32) (M : gx_Mem), ag22 v1 M = some (r9, M9) → gx_G κ Γ 22 [(0, .ref (gx_a κ 57)), (1, .int v1)] [] M) (v1 : Int32) (M : gx_Mem), f_X8_back_k22 ag22 v1 M = some (r9, M9) → gx_G κ Γ 22 [(0, .ref (gx_a κ 57)), (1, .int v1)] [] M := by
    intro ag22 hag22
    intro v1 M h
    refine gx_iload_n Cx eX8_back_22 1 rfl ?_
    refine gx_aload_n Cx eX8_back_23 0 rfl ?_
    refine gfX8_367 Cx eX8_back_24 ?_
    refine gx_icmp_ge (tgt := 48) Cx eX8_back_27 (by decide) h (fun h => ?_) (fun h => ?_)
    · refine gx_iconst (v := (0 : Int32)) Cx eX8_back_48 (by decide) ?_
      refine gx_istore_n Cx eX8_back_49 [(1, .int (0 : Int32)), (0, .ref (gx_a κ 57))] rfl (by decide) ?_
      refine gx_sub [1, 0] rfl ?_
      exact L50 _ _ _ h
    · refine gx_aload_n Cx eX8_back_30 0 rfl ?_
      refine gfX8_9 Cx eX8_back_31 ?_
      refine gx_iload_n Cx eX8_back_34 1 rfl ?_
      refine gx_aload_n Cx eX8_back_35 0 rfl ?_
      refine gfX8_98 Cx eX8_back_36 ?_
      refine gx_iload_n Cx eX8_back_39 1 rfl ?_
      refine gx_iald Cx gx_y86 eX8_back_40 h (fun h => ?_)
      refine gx_iast Cx gx_y58 eX8_back_41 h (fun M2 h => ?_)
      refine gx_iinc (v := (1 : Int32)) (i := 1) (j := 1) Cx eX8_back_42 (by decide) h 1 rfl (fun w => [(1, .int w), (0, .ref (gx_a κ 57))]) (fun _ => rfl) (by decide) (fun x3 h => ?_)
      refine gx_goto (tgt := 22) Cx eX8_back_45 (by decide) ?_
      refine gx_sub [1, 0] rfl ?_
      exact hag22 _ _ h
  have L22 : ∀  (n : Nat) (v1 : Int32) (M : gx_Mem), f_X8_back_l22 n v1 M = some (r9, M9) → gx_G κ Γ 22 [(0, .ref (gx_a κ 57)), (1, .int v1)] [] M := by
    intro n
    induction n with
    | zero => intro v1 M h; exact gx_loop_0 h
    | succ n ih => intro v1 M h; exact K22 (fun v1 M => f_X8_back_l22 n v1 M) ih v1 M h
  have h := hf
  refine gx_aload_n Cx eX8_back_0 0 rfl ?_
  refine gfX8_364 Cx eX8_back_1 ?_
  refine gx_if_ne (tgt := 10) Cx eX8_back_4 (by decide) h (fun h => ?_) (fun h => ?_)
  · refine gx_aload_n Cx eX8_back_10 0 rfl ?_
    refine gfX8_27 Cx eX8_back_11 ?_
    refine gx_iconst (v := (1 : Int32)) Cx eX8_back_14 (by decide) ?_
    refine gx_aload_n Cx eX8_back_15 0 rfl ?_
    refine gfX8_370 Cx eX8_back_16 ?_
    refine gx_iastC Cx gx_y63 eX8_back_19 (by decide) h (fun M1 h => ?_)
    refine gx_iconst (v := (0 : Int32)) Cx eX8_back_20 (by decide) ?_
    refine gx_istore_n Cx eX8_back_21 [(1, .int (0 : Int32)), (0, .ref (gx_a κ 57))] rfl (by decide) ?_
    refine gx_sub [1, 0] rfl ?_
    exact L22 _ _ _ h
  · refine gx_bipush (v := (-5 : Int32)) Cx eX8_back_7 (by decide) ?_
    exact gx_rI h rfl eX8_back_9 hR
set_option maxHeartbeats 4000000 in
set_option maxRecDepth 100000 in
theorem c_X8_has (κ : gx_K) {v0 : Int32} {v1 : Int32} {M : gx_Mem} {r9 : Int32} (hf : f_X8_has v0 v1 M = some r9) : gx_CI κ yX8_has cX8_has 2 (some .boolean) 0 [.int v0, .int v1] M r9 M := by
  refine gx_enterI (d := 0) my_X8_has.1 (by decide) (Nat.le_of_ble_eq_true rfl) (fun Γ Cx hR => ?_)
  change gx_G κ Γ 0 [(0, .int v0), (1, .int v1)] [] M
  have h := hf
  refine gx_iload_n Cx eX8_has_0 0 rfl ?_
  refine gx_iload_n Cx eX8_has_1 1 rfl ?_
  refine gx_ishr Cx eX8_has_2 ?_
  refine gx_iconst (v := (1 : Int32)) Cx eX8_has_3 (by decide) ?_
  refine gx_iand Cx eX8_has_4 ?_
  refine gx_iconst (v := (1 : Int32)) Cx eX8_has_5 (by decide) ?_
  refine gx_icmp_ne (tgt := 13) Cx eX8_has_6 (by decide) h (fun h => ?_) (fun h => ?_)
  · refine gx_iconst (v := (0 : Int32)) Cx eX8_has_13 (by decide) ?_
    exact gx_rIp h (by decide) eX8_has_14 hR
  · refine gx_iconst (v := (1 : Int32)) Cx eX8_has_9 (by decide) ?_
    refine gx_goto (tgt := 14) Cx eX8_has_10 (by decide) ?_
    exact gx_rIp h (by decide) eX8_has_14 hR
set_option maxHeartbeats 4000000 in
set_option maxRecDepth 100000 in
theorem c_X8_twoOf (κ : gx_K) {v0 : Int32} {v1 : Int32} {v2 : Int32} {M : gx_Mem} {r9 : Int32} (hf : f_X8_twoOf v0 v1 v2 M = some r9) : gx_CI κ yX8_twoOf cX8_twoOf 3 (some .int) 0 [.int v0, .int v1, .int v2] M r9 M := by
  refine gx_enterI (d := 0) my_X8_twoOf.1 (by decide) (Nat.le_of_ble_eq_true rfl) (fun Γ Cx hR => ?_)
  change gx_G κ Γ 0 [(0, .int v0), (1, .int v1), (2, .int v2)] [] M
  have B218 : f_X8_twoOf_b218 v1 v2 M = some r9 → gx_G κ Γ 218 [(1, .int v1), (2, .int v2)] [] M := by
    intro h
    refine gx_iload_n Cx eX8_twoOf_218 0 rfl ?_
    refine gx_if_ne (tgt := 226) Cx eX8_twoOf_219 (by decide) h (fun h => ?_) (fun h => ?_)
    · refine gx_iconst (v := (1 : Int32)) Cx eX8_twoOf_226 (by decide) ?_
      refine gx_goto (tgt := 231) Cx eX8_twoOf_227 (by decide) ?_
      exact gx_rIp h rfl eX8_twoOf_231 hR
    · refine gx_iload_n Cx eX8_twoOf_222 1 rfl ?_
      refine gx_if_eq (tgt := 230) Cx eX8_twoOf_223 (by decide) h (fun h => ?_) (fun h => ?_)
      · refine gx_iconst (v := (0 : Int32)) Cx eX8_twoOf_230 (by decide) ?_
        exact gx_rIp h rfl eX8_twoOf_231 hR
      · refine gx_iconst (v := (1 : Int32)) Cx eX8_twoOf_226 (by decide) ?_
        refine gx_goto (tgt := 231) Cx eX8_twoOf_227 (by decide) ?_
        exact gx_rIp h rfl eX8_twoOf_231 hR
  have h := hf
  refine gx_iload_n Cx eX8_twoOf_0 0 rfl ?_
  refine gx_case (37 : Int32) h (fun h => ?_) (fun n37 h => ?_)
  · refine gx_tsIn (tgt := 154) Cx eX8_twoOf_1 (by decide) (by decide) rfl (by decide) ?_
    refine gx_iload_n Cx eX8_twoOf_154 2 rfl ?_
    refine gx_if_eq (tgt := 163) Cx eX8_twoOf_155 (by decide) h (fun h => ?_) (fun h => ?_)
    · refine gx_iconst (v := (0 : Int32)) Cx eX8_twoOf_163 (by decide) ?_
      refine gx_goto (tgt := 170) Cx eX8_twoOf_164 (by decide) ?_
      exact gx_rIp h rfl eX8_twoOf_170 hR
    · refine gx_iload_n Cx eX8_twoOf_158 2 rfl ?_
      refine gx_iconst (v := (-1 : Int32)) Cx eX8_twoOf_159 (by decide) ?_
      refine gx_icmp_ne (tgt := 167) Cx eX8_twoOf_160 (by decide) h (fun h => ?_) (fun h => ?_)
      · refine gx_iload_n Cx eX8_twoOf_167 1 rfl ?_
        refine gx_iload_n Cx eX8_twoOf_168 2 rfl ?_
        refine gx_irem Cx eX8_twoOf_169 h (fun h => ?_)
        exact gx_rIp h rfl eX8_twoOf_170 hR
      · refine gx_iconst (v := (0 : Int32)) Cx eX8_twoOf_163 (by decide) ?_
        refine gx_goto (tgt := 170) Cx eX8_twoOf_164 (by decide) ?_
        exact gx_rIp h rfl eX8_twoOf_170 hR
  refine gx_case (38 : Int32) h (fun h => ?_) (fun n38 h => ?_)
  · refine gx_tsIn (tgt := 204) Cx eX8_twoOf_1 (by decide) (by decide) rfl (by decide) ?_
    refine gx_iload_n Cx eX8_twoOf_204 1 rfl ?_
    refine gx_if_eq (tgt := 216) Cx eX8_twoOf_205 (by decide) h (fun h => ?_) (fun h => ?_)
    · refine gx_iconst (v := (0 : Int32)) Cx eX8_twoOf_216 (by decide) ?_
      exact gx_rIp h rfl eX8_twoOf_217 hR
    · refine gx_iload_n Cx eX8_twoOf_208 2 rfl ?_
      refine gx_if_eq (tgt := 216) Cx eX8_twoOf_209 (by decide) h (fun h => ?_) (fun h => ?_)
      · refine gx_iconst (v := (0 : Int32)) Cx eX8_twoOf_216 (by decide) ?_
        exact gx_rIp h rfl eX8_twoOf_217 hR
      · refine gx_iconst (v := (1 : Int32)) Cx eX8_twoOf_212 (by decide) ?_
        refine gx_goto (tgt := 217) Cx eX8_twoOf_213 (by decide) ?_
        exact gx_rIp h rfl eX8_twoOf_217 hR
  refine gx_case (39 : Int32) h (fun h => ?_) (fun n39 h => ?_)
  · refine gx_tsIn (tgt := 218) Cx eX8_twoOf_1 (by decide) (by decide) rfl (by decide) ?_
    refine gx_sub [1, 2] rfl ?_
    exact B218 h
  refine gx_case (40 : Int32) h (fun h => ?_) (fun n40 h => ?_)
  · refine gx_tsIn (tgt := 218) Cx eX8_twoOf_1 (by decide) (by decide) rfl (by decide) ?_
    refine gx_sub [1, 2] rfl ?_
    exact B218 h
  refine gx_case (41 : Int32) h (fun h => ?_) (fun n41 h => ?_)
  · refine gx_tsIn (tgt := 218) Cx eX8_twoOf_1 (by decide) (by decide) rfl (by decide) ?_
    refine gx_sub [1, 2] rfl ?_
    exact B218 h
  refine gx_case (42 : Int32) h (fun h => ?_) (fun n42 h => ?_)
  · refine gx_tsIn (tgt := 128) Cx eX8_twoOf_1 (by decide) (by decide) rfl (by decide) ?_
    refine gx_iload_n Cx eX8_twoOf_128 1 rfl ?_
    refine gx_iload_n Cx eX8_twoOf_129 2 rfl ?_
    refine gx_imul Cx eX8_twoOf_130 ?_
    exact gx_rIp h rfl eX8_twoOf_131 hR
  refine gx_case (43 : Int32) h (fun h => ?_) (fun n43 h => ?_)
  · refine gx_tsIn (tgt := 120) Cx eX8_twoOf_1 (by decide) (by decide) rfl (by decide) ?_
    refine gx_iload_n Cx eX8_twoOf_120 1 rfl ?_
    refine gx_iload_n Cx eX8_twoOf_121 2 rfl ?_
    refine gx_iadd Cx eX8_twoOf_122 ?_
    exact gx_rIp h rfl eX8_twoOf_123 hR
  refine gx_case (44 : Int32) h (fun h => ?_) (fun n44 h => ?_)
  · refine gx_tsIn (tgt := 218) Cx eX8_twoOf_1 (by decide) (by decide) rfl (by decide) ?_
    refine gx_sub [1, 2] rfl ?_
    exact B218 h
  refine gx_case (45 : Int32) h (fun h => ?_) (fun n45 h => ?_)
  · refine gx_tsIn (tgt := 124) Cx eX8_twoOf_1 (by decide) (by decide) rfl (by decide) ?_
    refine gx_iload_n Cx eX8_twoOf_124 1 rfl ?_
    refine gx_iload_n Cx eX8_twoOf_125 2 rfl ?_
    refine gx_isub Cx eX8_twoOf_126 ?_
    exact gx_rIp h rfl eX8_twoOf_127 hR
  refine gx_case (46 : Int32) h (fun h => ?_) (fun n46 h => ?_)
  · refine gx_tsIn (tgt := 218) Cx eX8_twoOf_1 (by decide) (by decide) rfl (by decide) ?_
    refine gx_sub [1, 2] rfl ?_
    exact B218 h
  refine gx_case (47 : Int32) h (fun h => ?_) (fun n47 h => ?_)
  · refine gx_tsIn (tgt := 132) Cx eX8_twoOf_1 (by decide) (by decide) rfl (by decide) ?_
    refine gx_iload_n Cx eX8_twoOf_132 2 rfl ?_
    refine gx_if_ne (tgt := 140) Cx eX8_twoOf_133 (by decide) h (fun h => ?_) (fun h => ?_)
    · refine gx_iload_n Cx eX8_twoOf_140 2 rfl ?_
      refine gx_iconst (v := (-1 : Int32)) Cx eX8_twoOf_141 (by decide) ?_
      refine gx_icmp_ne (tgt := 150) Cx eX8_twoOf_142 (by decide) h (fun h => ?_) (fun h => ?_)
      · refine gx_iload_n Cx eX8_twoOf_150 1 rfl ?_
        refine gx_iload_n Cx eX8_twoOf_151 2 rfl ?_
        refine gx_idiv Cx eX8_twoOf_152 h (fun h => ?_)
        exact gx_rIp h rfl eX8_twoOf_153 hR
      · refine gx_iload_n Cx eX8_twoOf_145 1 rfl ?_
        refine gx_ineg Cx eX8_twoOf_146 ?_
        refine gx_goto (tgt := 153) Cx eX8_twoOf_147 (by decide) ?_
        exact gx_rIp h rfl eX8_twoOf_153 hR
    · refine gx_iconst (v := (0 : Int32)) Cx eX8_twoOf_136 (by decide) ?_
      refine gx_goto (tgt := 153) Cx eX8_twoOf_137 (by decide) ?_
      exact gx_rIp h rfl eX8_twoOf_153 hR
  refine gx_case (48 : Int32) h (fun h => ?_) (fun n48 h => ?_)
  · refine gx_tsIn (tgt := 218) Cx eX8_twoOf_1 (by decide) (by decide) rfl (by decide) ?_
    refine gx_sub [1, 2] rfl ?_
    exact B218 h
  refine gx_case (49 : Int32) h (fun h => ?_) (fun n49 h => ?_)
  · refine gx_tsIn (tgt := 218) Cx eX8_twoOf_1 (by decide) (by decide) rfl (by decide) ?_
    refine gx_sub [1, 2] rfl ?_
    exact B218 h
  refine gx_case (50 : Int32) h (fun h => ?_) (fun n50 h => ?_)
  · refine gx_tsIn (tgt := 218) Cx eX8_twoOf_1 (by decide) (by decide) rfl (by decide) ?_
    refine gx_sub [1, 2] rfl ?_
    exact B218 h
  refine gx_case (51 : Int32) h (fun h => ?_) (fun n51 h => ?_)
  · refine gx_tsIn (tgt := 218) Cx eX8_twoOf_1 (by decide) (by decide) rfl (by decide) ?_
    refine gx_sub [1, 2] rfl ?_
    exact B218 h
  refine gx_case (52 : Int32) h (fun h => ?_) (fun n52 h => ?_)
  · refine gx_tsIn (tgt := 218) Cx eX8_twoOf_1 (by decide) (by decide) rfl (by decide) ?_
    refine gx_sub [1, 2] rfl ?_
    exact B218 h
  refine gx_case (53 : Int32) h (fun h => ?_) (fun n53 h => ?_)
  · refine gx_tsIn (tgt := 218) Cx eX8_twoOf_1 (by decide) (by decide) rfl (by decide) ?_
    refine gx_sub [1, 2] rfl ?_
    exact B218 h
  refine gx_case (54 : Int32) h (fun h => ?_) (fun n54 h => ?_)
  · refine gx_tsIn (tgt := 218) Cx eX8_twoOf_1 (by decide) (by decide) rfl (by decide) ?_
    refine gx_sub [1, 2] rfl ?_
    exact B218 h
  refine gx_case (55 : Int32) h (fun h => ?_) (fun n55 h => ?_)
  · refine gx_tsIn (tgt := 218) Cx eX8_twoOf_1 (by decide) (by decide) rfl (by decide) ?_
    refine gx_sub [1, 2] rfl ?_
    exact B218 h
  refine gx_case (56 : Int32) h (fun h => ?_) (fun n56 h => ?_)
  · refine gx_tsIn (tgt := 218) Cx eX8_twoOf_1 (by decide) (by decide) rfl (by decide) ?_
    refine gx_sub [1, 2] rfl ?_
    exact B218 h
  refine gx_case (57 : Int32) h (fun h => ?_) (fun n57 h => ?_)
  · refine gx_tsIn (tgt := 218) Cx eX8_twoOf_1 (by decide) (by decide) rfl (by decide) ?_
    refine gx_sub [1, 2] rfl ?_
    exact B218 h
  refine gx_case (58 : Int32) h (fun h => ?_) (fun n58 h => ?_)
  · refine gx_tsIn (tgt := 218) Cx eX8_twoOf_1 (by decide) (by decide) rfl (by decide) ?_
    refine gx_sub [1, 2] rfl ?_
    exact B218 h
  refine gx_case (59 : Int32) h (fun h => ?_) (fun n59 h => ?_)
  · refine gx_tsIn (tgt := 218) Cx eX8_twoOf_1 (by decide) (by decide) rfl (by decide) ?_
    refine gx_sub [1, 2] rfl ?_
    exact B218 h
  refine gx_case (60 : Int32) h (fun h => ?_) (fun n60 h => ?_)
  · refine gx_tsIn (tgt := 171) Cx eX8_twoOf_1 (by decide) (by decide) rfl (by decide) ?_
    refine gx_iload_n Cx eX8_twoOf_171 1 rfl ?_
    refine gx_iload_n Cx eX8_twoOf_172 2 rfl ?_
    refine gx_icmp_ge (tgt := 180) Cx eX8_twoOf_173 (by decide) h (fun h => ?_) (fun h => ?_)
    · refine gx_iconst (v := (0 : Int32)) Cx eX8_twoOf_180 (by decide) ?_
      exact gx_rIp h rfl eX8_twoOf_181 hR
    · refine gx_iconst (v := (1 : Int32)) Cx eX8_twoOf_176 (by decide) ?_
      refine gx_goto (tgt := 181) Cx eX8_twoOf_177 (by decide) ?_
      exact gx_rIp h rfl eX8_twoOf_181 hR
  refine gx_case (61 : Int32) h (fun h => ?_) (fun n61 h => ?_)
  · refine gx_tsIn (tgt := 182) Cx eX8_twoOf_1 (by decide) (by decide) rfl (by decide) ?_
    refine gx_iload_n Cx eX8_twoOf_182 1 rfl ?_
    refine gx_iload_n Cx eX8_twoOf_183 2 rfl ?_
    refine gx_icmp_ne (tgt := 191) Cx eX8_twoOf_184 (by decide) h (fun h => ?_) (fun h => ?_)
    · refine gx_iconst (v := (0 : Int32)) Cx eX8_twoOf_191 (by decide) ?_
      exact gx_rIp h rfl eX8_twoOf_192 hR
    · refine gx_iconst (v := (1 : Int32)) Cx eX8_twoOf_187 (by decide) ?_
      refine gx_goto (tgt := 192) Cx eX8_twoOf_188 (by decide) ?_
      exact gx_rIp h rfl eX8_twoOf_192 hR
  refine gx_case (62 : Int32) h (fun h => ?_) (fun n62 h => ?_)
  · refine gx_tsIn (tgt := 193) Cx eX8_twoOf_1 (by decide) (by decide) rfl (by decide) ?_
    refine gx_iload_n Cx eX8_twoOf_193 1 rfl ?_
    refine gx_iload_n Cx eX8_twoOf_194 2 rfl ?_
    refine gx_icmp_le (tgt := 202) Cx eX8_twoOf_195 (by decide) h (fun h => ?_) (fun h => ?_)
    · refine gx_iconst (v := (0 : Int32)) Cx eX8_twoOf_202 (by decide) ?_
      exact gx_rIp h rfl eX8_twoOf_203 hR
    · refine gx_iconst (v := (1 : Int32)) Cx eX8_twoOf_198 (by decide) ?_
      refine gx_goto (tgt := 203) Cx eX8_twoOf_199 (by decide) ?_
      exact gx_rIp h rfl eX8_twoOf_203 hR
  refine gx_tsOut (tgt := 218) Cx eX8_twoOf_1 (by have zn37 := gx_neT (k := 37) n37 (by decide); have zn38 := gx_neT (k := 38) n38 (by decide); have zn39 := gx_neT (k := 39) n39 (by decide); have zn40 := gx_neT (k := 40) n40 (by decide); have zn41 := gx_neT (k := 41) n41 (by decide); have zn42 := gx_neT (k := 42) n42 (by decide); have zn43 := gx_neT (k := 43) n43 (by decide); have zn44 := gx_neT (k := 44) n44 (by decide); have zn45 := gx_neT (k := 45) n45 (by decide); have zn46 := gx_neT (k := 46) n46 (by decide); have zn47 := gx_neT (k := 47) n47 (by decide); have zn48 := gx_neT (k := 48) n48 (by decide); have zn49 := gx_neT (k := 49) n49 (by decide); have zn50 := gx_neT (k := 50) n50 (by decide); have zn51 := gx_neT (k := 51) n51 (by decide); have zn52 := gx_neT (k := 52) n52 (by decide); have zn53 := gx_neT (k := 53) n53 (by decide); have zn54 := gx_neT (k := 54) n54 (by decide); have zn55 := gx_neT (k := 55) n55 (by decide); have zn56 := gx_neT (k := 56) n56 (by decide); have zn57 := gx_neT (k := 57) n57 (by decide); have zn58 := gx_neT (k := 58) n58 (by decide); have zn59 := gx_neT (k := 59) n59 (by decide); have zn60 := gx_neT (k := 60) n60 (by decide); have zn61 := gx_neT (k := 61) n61 (by decide); have zn62 := gx_neT (k := 62) n62 (by decide); omega) (by decide) ?_
  refine gx_sub [1, 2] rfl ?_
  exact B218 h
set_option maxHeartbeats 4000000 in
set_option maxRecDepth 100000 in
theorem c_X8_worked (κ : gx_K) {v1 : Int32} {v2 : Int32} {v3 : Int32} {M : gx_Mem} {r9 : Int32} {M9 : gx_Mem} (hf : f_X8_worked v1 v2 v3 M = some (r9, M9)) : gx_CI κ yX8_worked cX8_worked 7 (some .int) 1 [.ref (gx_a κ 57), .int v1, .int v2, .int v3] M r9 M9 := by
  refine gx_enterI (d := 1) my_X8_worked.1 (by decide) (Nat.le_of_ble_eq_true rfl) (fun Γ Cx hR => ?_)
  change gx_G κ Γ 0 [(0, .ref (gx_a κ 57)), (1, .int v1), (2, .int v2), (3, .int v3)] [] M
  have K12 : ∀  (ag12 : Int32 → Int32 → gx_Mem → Option (Int32 × gx_Mem)) (hag12 : ∀ (v4 : Int32) (v5 : Int32) (M : gx_Mem), ag12 v4 v5 M = some (r9, M9) → gx_G κ Γ 12 [(0, .ref (gx_a κ 57)), (1, .int v1), (3, .int v3), (4, .int v4), (5, .int v5)] [] M) (v4 : Int32) (v5 : Int32) (M : gx_Mem), f_X8_worked_k12 v1 v3 ag12 v4 v5 M = some (r9, M9) → gx_G κ Γ 12 [(0, .ref (gx_a κ 57)), (1, .int v1), (3, .int v3), (4, .int v4), (5, .int v5)] [] M := by
    intro ag12 hag12
    have B182 : ∀ (v4 : Int32) (v5 : Int32) (M : gx_Mem), f_X8_worked_b182 ag12 v1 v3 v4 v5 M = some (r9, M9) → gx_G κ Γ 182 [(0, .ref (gx_a κ 57)), (1, .int v1), (3, .int v3), (4, .int v4), (5, .int v5)] [] M := by
      intro v4 v5 M h
      refine gx_iinc (v := (1 : Int32)) (i := 5) (j := 4) Cx eX8_worked_182 (by decide) h 4 rfl (fun w => [(5, .int w), (0, .ref (gx_a κ 57)), (1, .int v1), (3, .int v3), (4, .int v4)]) (fun _ => rfl) (by decide) (fun x9 h => ?_)
      refine gx_goto (tgt := 12) Cx eX8_worked_185 (by decide) ?_
      refine gx_sub [1, 2, 3, 4, 0] rfl ?_
      exact hag12 _ _ _ h
    have B79 : ∀ (v4 : Int32) (v5 : Int32) (s1 : Int32) (s2 : Int32) (M : gx_Mem), f_X8_worked_b79 ag12 v1 v3 v4 v5 s1 s2 M = some (r9, M9) → gx_G κ Γ 79 [(0, .ref (gx_a κ 57)), (1, .int v1), (3, .int v3), (4, .int v4), (5, .int v5)] [.int s2, .int s1, .ref (gx_a κ 75)] M := by
      intro v4 v5 s1 s2 M h
      refine gx_iast Cx gx_y75 eX8_worked_79 h (fun M10 h => ?_)
      refine gx_iinc (v := (1 : Int32)) (i := 4) (j := 3) Cx eX8_worked_80 (by decide) h 3 rfl (fun w => [(4, .int w), (0, .ref (gx_a κ 57)), (1, .int v1), (3, .int v3), (5, .int v5)]) (fun _ => rfl) (by decide) (fun x11 h => ?_)
      refine gx_goto (tgt := 182) Cx eX8_worked_83 (by decide) ?_
      refine gx_sub [1, 2, 3, 0, 4] rfl ?_
      exact B182 _ _ _ h
    have B45 : ∀ (v4 : Int32) (v5 : Int32) (v6 : Int32) (M : gx_Mem), f_X8_worked_b45 ag12 v1 v3 v4 v5 v6 M = some (r9, M9) → gx_G κ Γ 45 [(0, .ref (gx_a κ 57)), (1, .int v1), (3, .int v3), (4, .int v4), (5, .int v5), (6, .int v6)] [] M := by
      intro v4 v5 v6 M h
      refine gx_aload_n Cx eX8_worked_45 0 rfl ?_
      refine gfX8_65 Cx eX8_worked_46 ?_
      refine gx_iload Cx eX8_worked_49 3 rfl ?_
      refine gx_iload Cx eX8_worked_51 5 rfl ?_
      refine gx_iconst (v := (1 : Int32)) Cx eX8_worked_53 (by decide) ?_
      refine gx_icmp_ne (tgt := 67) Cx eX8_worked_54 (by decide) h (fun h => ?_) (fun h => ?_)
      · refine gx_aload_n Cx eX8_worked_67 0 rfl ?_
        refine gfX8_62 Cx eX8_worked_68 ?_
        refine gx_aload_n Cx eX8_worked_71 0 rfl ?_
        refine gfX8_49 Cx eX8_worked_72 ?_
        refine gx_iload Cx eX8_worked_75 4 rfl ?_
        refine gx_iald Cx gx_y70 eX8_worked_77 h (fun h => ?_)
        refine gx_iald Cx gx_y74 eX8_worked_78 h (fun h => ?_)
        refine gx_sub [0, 1, 2, 3, 4] rfl ?_
        exact B79 _ _ _ _ _ h
      · refine gx_aload_n Cx eX8_worked_57 0 rfl ?_
        refine gfX8_49 Cx eX8_worked_58 ?_
        refine gx_iload Cx eX8_worked_61 4 rfl ?_
        refine gx_iald Cx gx_y70 eX8_worked_63 h (fun h => ?_)
        refine gx_goto (tgt := 79) Cx eX8_worked_64 (by decide) ?_
        refine gx_sub [0, 1, 2, 3, 4] rfl ?_
        exact B79 _ _ _ _ _ h
    have B117 : ∀ (v4 : Int32) (v5 : Int32) (s1 : Int32) (s2 : Int32) (M : gx_Mem), f_X8_worked_b117 ag12 v1 v3 v4 v5 s1 s2 M = some (r9, M9) → gx_G κ Γ 117 [(0, .ref (gx_a κ 57)), (1, .int v1), (3, .int v3), (4, .int v4), (5, .int v5)] [.int s2, .int s1, .ref (gx_a κ 75)] M := by
      intro v4 v5 s1 s2 M h
      refine gx_iast Cx gx_y75 eX8_worked_117 h (fun M8 h => ?_)
      refine gx_goto (tgt := 182) Cx eX8_worked_118 (by decide) ?_
      exact B182 _ _ _ h
    intro v4 v5 M h
    refine gx_iload Cx eX8_worked_12 4 rfl ?_
    refine gx_sipush (v := (130 : Int32)) Cx eX8_worked_14 (by decide) ?_
    refine gx_iload_n Cx eX8_worked_17 1 rfl ?_
    refine gx_imul Cx eX8_worked_18 ?_
    refine gx_iload_n Cx eX8_worked_19 2 rfl ?_
    refine gx_iadd Cx eX8_worked_20 ?_
    refine gx_icmp_ge (tgt := 188) Cx eX8_worked_21 (by decide) h (fun h => ?_) (fun h => ?_)
    · refine gx_aload_n Cx eX8_worked_188 0 rfl ?_
      refine gfX8_65 Cx eX8_worked_189 ?_
      refine gx_iconst (v := (0 : Int32)) Cx eX8_worked_192 (by decide) ?_
      refine gx_ialdC (α := Unit) (b := none) Cx gx_y75 eX8_worked_193 (by decide) ?_
      exact gx_rI h rfl eX8_worked_194 hR
    · refine gx_aload_n Cx eX8_worked_24 0 rfl ?_
      refine gfX8_46 Cx eX8_worked_25 ?_
      refine gx_iload Cx eX8_worked_28 4 rfl ?_
      refine gx_bald Cx gx_y69 eX8_worked_30 h (fun h => ?_)
      refine gx_nmI h (fun x2 h => ?_)
      refine gx_istore Cx eX8_worked_31 [(6, .int x2), (0, .ref (gx_a κ 57)), (1, .int v1), (3, .int v3), (4, .int v4), (5, .int v5)] rfl (by decide) ?_
      refine gx_iload Cx eX8_worked_33 0 rfl ?_
      refine gx_iconst (v := (1 : Int32)) Cx eX8_worked_35 (by decide) ?_
      refine gx_icmp_eq (tgt := 45) Cx eX8_worked_36 (by decide) h (fun h => ?_) (fun h => ?_)
      · refine gx_sub [1, 2, 3, 4, 5, 0] rfl ?_
        exact B45 _ _ _ _ h
      · refine gx_iload Cx eX8_worked_39 0 rfl ?_
        refine gx_iconst (v := (2 : Int32)) Cx eX8_worked_41 (by decide) ?_
        refine gx_icmp_ne (tgt := 86) Cx eX8_worked_42 (by decide) h (fun h => ?_) (fun h => ?_)
        · refine gx_iload Cx eX8_worked_86 0 rfl ?_
          refine gx_iconst (v := (3 : Int32)) Cx eX8_worked_88 (by decide) ?_
          refine gx_icmp_ne (tgt := 121) Cx eX8_worked_89 (by decide) h (fun h => ?_) (fun h => ?_)
          · refine gx_iload Cx eX8_worked_121 0 rfl ?_
            refine gx_iconst (v := (4 : Int32)) Cx eX8_worked_123 (by decide) ?_
            refine gx_icmp_ne (tgt := 149) Cx eX8_worked_124 (by decide) h (fun h => ?_) (fun h => ?_)
            · refine gx_iinc (v := (-1 : Int32)) (i := 4) (j := 4) Cx eX8_worked_149 (by decide) h 4 rfl (fun w => [(4, .int w), (6, .int x2), (0, .ref (gx_a κ 57)), (1, .int v1), (3, .int v3), (5, .int v5)]) (fun _ => rfl) (by decide) (fun x3 h => ?_)
              refine gx_aload_n Cx eX8_worked_152 2 rfl ?_
              refine gfX8_65 Cx eX8_worked_153 ?_
              refine gx_iload Cx eX8_worked_156 0 rfl ?_
              refine gx_iconst (v := (1 : Int32)) Cx eX8_worked_158 (by decide) ?_
              refine gx_isub Cx eX8_worked_159 ?_
              refine gx_iload Cx eX8_worked_160 1 rfl ?_
              refine gx_aload_n Cx eX8_worked_162 2 rfl ?_
              refine gfX8_65 Cx eX8_worked_163 ?_
              refine gx_iload Cx eX8_worked_166 0 rfl ?_
              refine gx_iconst (v := (1 : Int32)) Cx eX8_worked_168 (by decide) ?_
              refine gx_isub Cx eX8_worked_169 ?_
              refine gx_iald Cx gx_y75 eX8_worked_170 h (fun h => ?_)
              refine gx_aload_n Cx eX8_worked_171 2 rfl ?_
              refine gfX8_65 Cx eX8_worked_172 ?_
              refine gx_iload Cx eX8_worked_175 0 rfl ?_
              refine gx_iald Cx gx_y75 eX8_worked_177 h (fun h => ?_)
              obtain ⟨y5, h4, h⟩ := gx_bP_of h
              refine gx_callSI Cx my_X8_twoOf wlX8_245 (by decide) rfl eX8_worked_178 (c_X8_twoOf κ h4) rfl (Nat.le_of_ble_eq_true rfl) ?_
              refine gx_iast Cx gx_y75 eX8_worked_181 h (fun M6 h => ?_)
              refine gx_sub [2, 3, 4, 0, 5] rfl ?_
              exact B182 _ _ _ h
            · refine gx_aload_n Cx eX8_worked_127 1 rfl ?_
              refine gfX8_65 Cx eX8_worked_128 ?_
              refine gx_iload Cx eX8_worked_131 4 rfl ?_
              refine gx_iconst (v := (1 : Int32)) Cx eX8_worked_133 (by decide) ?_
              refine gx_isub Cx eX8_worked_134 ?_
              refine gx_aload_n Cx eX8_worked_135 1 rfl ?_
              refine gfX8_65 Cx eX8_worked_136 ?_
              refine gx_iload Cx eX8_worked_139 4 rfl ?_
              refine gx_iconst (v := (1 : Int32)) Cx eX8_worked_141 (by decide) ?_
              refine gx_isub Cx eX8_worked_142 ?_
              refine gx_iald Cx gx_y75 eX8_worked_143 h (fun h => ?_)
              refine gx_ineg Cx eX8_worked_144 ?_
              refine gx_iast Cx gx_y75 eX8_worked_145 h (fun M7 h => ?_)
              refine gx_goto (tgt := 182) Cx eX8_worked_146 (by decide) ?_
              refine gx_sub [1, 2, 3, 4, 5] rfl ?_
              exact B182 _ _ _ h
          · refine gx_aload_n Cx eX8_worked_92 1 rfl ?_
            refine gfX8_65 Cx eX8_worked_93 ?_
            refine gx_iload Cx eX8_worked_96 4 rfl ?_
            refine gx_iconst (v := (1 : Int32)) Cx eX8_worked_98 (by decide) ?_
            refine gx_isub Cx eX8_worked_99 ?_
            refine gx_aload_n Cx eX8_worked_100 1 rfl ?_
            refine gfX8_65 Cx eX8_worked_101 ?_
            refine gx_iload Cx eX8_worked_104 4 rfl ?_
            refine gx_iconst (v := (1 : Int32)) Cx eX8_worked_106 (by decide) ?_
            refine gx_isub Cx eX8_worked_107 ?_
            refine gx_iald Cx gx_y75 eX8_worked_108 h (fun h => ?_)
            refine gx_if_ne (tgt := 116) Cx eX8_worked_109 (by decide) h (fun h => ?_) (fun h => ?_)
            · refine gx_iconst (v := (0 : Int32)) Cx eX8_worked_116 (by decide) ?_
              refine gx_sub [1, 2, 3, 4, 5] rfl ?_
              exact B117 _ _ _ _ _ h
            · refine gx_iconst (v := (1 : Int32)) Cx eX8_worked_112 (by decide) ?_
              refine gx_goto (tgt := 117) Cx eX8_worked_113 (by decide) ?_
              refine gx_sub [1, 2, 3, 4, 5] rfl ?_
              exact B117 _ _ _ _ _ h
        · refine gx_sub [1, 2, 3, 4, 5, 0] rfl ?_
          exact B45 _ _ _ _ h
  have L12 : ∀  (n : Nat) (v4 : Int32) (v5 : Int32) (M : gx_Mem), f_X8_worked_l12 v1 v3 n v4 v5 M = some (r9, M9) → gx_G κ Γ 12 [(0, .ref (gx_a κ 57)), (1, .int v1), (3, .int v3), (4, .int v4), (5, .int v5)] [] M := by
    intro n
    induction n with
    | zero => intro v4 v5 M h; exact gx_loop_0 h
    | succ n ih => intro v4 v5 M h; exact K12 (fun v4 v5 M => f_X8_worked_l12 v1 v3 n v4 v5 M) ih v4 v5 M h
  have h := hf
  refine gx_iconst (v := (0 : Int32)) Cx eX8_worked_0 (by decide) ?_
  refine gx_istore Cx eX8_worked_1 [(4, .int (0 : Int32)), (0, .ref (gx_a κ 57)), (1, .int v1), (2, .int v2), (3, .int v3)] rfl (by decide) ?_
  refine gx_sipush (v := (130 : Int32)) Cx eX8_worked_3 (by decide) ?_
  refine gx_iload_n Cx eX8_worked_6 2 rfl ?_
  refine gx_imul Cx eX8_worked_7 ?_
  refine gx_iload_n Cx eX8_worked_8 3 rfl ?_
  refine gx_iadd Cx eX8_worked_9 ?_
  refine gx_nmI h (fun x1 h => ?_)
  refine gx_istore Cx eX8_worked_10 [(5, .int x1), (4, .int (0 : Int32)), (0, .ref (gx_a κ 57)), (1, .int v1), (2, .int v2), (3, .int v3)] rfl (by decide) ?_
  refine gx_sub [2, 3, 5, 1, 0] rfl ?_
  exact L12 _ _ _ _ h
set_option maxHeartbeats 4000000 in
set_option maxRecDepth 100000 in
theorem c_X8_gives (κ : gx_K) {v1 : Int32} {M : gx_Mem} {r9 : Int32} {M9 : gx_Mem} (hf : f_X8_gives v1 M = some (r9, M9)) : gx_CI κ yX8_gives cX8_gives 4 (some .int) 2 [.ref (gx_a κ 57), .int v1] M r9 M9 := by
  refine gx_enterI (d := 2) my_X8_gives.1 (by decide) (Nat.le_of_ble_eq_true rfl) (fun Γ Cx hR => ?_)
  change gx_G κ Γ 0 [(0, .ref (gx_a κ 57)), (1, .int v1)] [] M
  have B47 : ∀ (v3 : Int32) (M : gx_Mem), f_X8_gives_b47 v1 v3 M = some (r9, M9) → gx_G κ Γ 47 [(0, .ref (gx_a κ 57)), (1, .int v1), (3, .int v3)] [] M := by
    intro v3 M h
    refine gx_aload_n Cx eX8_gives_47 0 rfl ?_
    refine gx_iload_n Cx eX8_gives_48 1 rfl ?_
    refine gx_aload_n Cx eX8_gives_49 0 rfl ?_
    refine gfX8_55 Cx eX8_gives_50 ?_
    refine gx_iload_n Cx eX8_gives_53 2 rfl ?_
    refine gx_sald Cx gx_y72 eX8_gives_54 h (fun h => ?_)
    refine gx_aload_n Cx eX8_gives_55 0 rfl ?_
    refine gfX8_59 Cx eX8_gives_56 ?_
    refine gx_iload_n Cx eX8_gives_59 2 rfl ?_
    refine gx_sald Cx gx_y73 eX8_gives_60 h (fun h => ?_)
    obtain ⟨y8, M9, h7, h⟩ := gx_bI_of h
    refine gx_callVI (ci := 8) Cx my_X8_worked wlX8_248 rfl gx_y57 (by decide) rfl eX8_gives_61 (c_X8_worked κ h7) rfl (Nat.le_of_ble_eq_true rfl) ?_
    exact gx_rI h rfl eX8_gives_64 hR
  have K7 : ∀  (ag7 : Int32 → Int32 → gx_Mem → Option (Int32 × gx_Mem)) (hag7 : ∀ (v2 : Int32) (v3 : Int32) (M : gx_Mem), ag7 v2 v3 M = some (r9, M9) → gx_G κ Γ 7 [(0, .ref (gx_a κ 57)), (1, .int v1), (2, .int v2), (3, .int v3)] [] M) (v2 : Int32) (v3 : Int32) (M : gx_Mem), f_X8_gives_k7 v1 ag7 v2 v3 M = some (r9, M9) → gx_G κ Γ 7 [(0, .ref (gx_a κ 57)), (1, .int v1), (2, .int v2), (3, .int v3)] [] M := by
    intro ag7 hag7
    intro v2 v3 M h
    refine gx_iload_n Cx eX8_gives_7 3 rfl ?_
    refine gx_bipush (v := (61 : Int32)) Cx eX8_gives_8 (by decide) ?_
    refine gx_iload_n Cx eX8_gives_10 1 rfl ?_
    refine gx_imul Cx eX8_gives_11 ?_
    refine gx_aload_n Cx eX8_gives_12 0 rfl ?_
    refine gfX8_52 Cx eX8_gives_13 ?_
    refine gx_iload_n Cx eX8_gives_16 1 rfl ?_
    refine gx_iald Cx gx_y71 eX8_gives_17 h (fun h => ?_)
    refine gx_iadd Cx eX8_gives_18 ?_
    refine gx_icmp_ge (tgt := 78) Cx eX8_gives_19 (by decide) h (fun h => ?_) (fun h => ?_)
    · refine gx_iconst (v := (0 : Int32)) Cx eX8_gives_78 (by decide) ?_
      exact gx_rI h rfl eX8_gives_79 hR
    · refine gx_aload_n Cx eX8_gives_22 0 rfl ?_
      refine gfX8_55 Cx eX8_gives_23 ?_
      refine gx_iload_n Cx eX8_gives_26 3 rfl ?_
      refine gx_sald Cx gx_y72 eX8_gives_27 h (fun h => ?_)
      refine gx_iload_n Cx eX8_gives_28 2 rfl ?_
      refine gx_icmp_eq (tgt := 47) Cx eX8_gives_29 (by decide) h (fun h => ?_) (fun h => ?_)
      · refine gx_sub [0, 1, 3] rfl ?_
        exact B47 _ _ h
      · refine gx_aload_n Cx eX8_gives_32 0 rfl ?_
        refine gx_iload_n Cx eX8_gives_33 1 rfl ?_
        refine gx_iload_n Cx eX8_gives_34 2 rfl ?_
        refine gx_aload_n Cx eX8_gives_35 0 rfl ?_
        refine gfX8_55 Cx eX8_gives_36 ?_
        refine gx_iload_n Cx eX8_gives_39 3 rfl ?_
        refine gx_sald Cx gx_y72 eX8_gives_40 h (fun h => ?_)
        obtain ⟨y3, M4, h2, h⟩ := gx_bI_of h
        refine gx_callVI (ci := 8) Cx my_X8_worked wlX8_248 rfl gx_y57 (by decide) rfl eX8_gives_41 (c_X8_worked κ h2) rfl (Nat.le_of_ble_eq_true rfl) ?_
        refine gx_if_eq (tgt := 65) Cx eX8_gives_44 (by decide) h (fun h => ?_) (fun h => ?_)
        · refine gx_aload_n Cx eX8_gives_65 0 rfl ?_
          refine gfX8_59 Cx eX8_gives_66 ?_
          refine gx_iload_n Cx eX8_gives_69 3 rfl ?_
          refine gx_sald Cx gx_y73 eX8_gives_70 h (fun h => ?_)
          refine gx_nmI h (fun x5 h => ?_)
          refine gx_istore_n Cx eX8_gives_71 [(2, .int x5), (0, .ref (gx_a κ 57)), (1, .int v1), (3, .int v3)] rfl (by decide) ?_
          refine gx_iinc (v := (1 : Int32)) (i := 3) (j := 3) Cx eX8_gives_72 (by decide) h 3 rfl (fun w => [(3, .int w), (2, .int x5), (0, .ref (gx_a κ 57)), (1, .int v1)]) (fun _ => rfl) (by decide) (fun x6 h => ?_)
          refine gx_goto (tgt := 7) Cx eX8_gives_75 (by decide) ?_
          refine gx_sub [2, 3, 1, 0] rfl ?_
          exact hag7 _ _ _ h
        · refine gx_sub [0, 1, 3] rfl ?_
          exact B47 _ _ h
  have L7 : ∀  (n : Nat) (v2 : Int32) (v3 : Int32) (M : gx_Mem), f_X8_gives_l7 v1 n v2 v3 M = some (r9, M9) → gx_G κ Γ 7 [(0, .ref (gx_a κ 57)), (1, .int v1), (2, .int v2), (3, .int v3)] [] M := by
    intro n
    induction n with
    | zero => intro v2 v3 M h; exact gx_loop_0 h
    | succ n ih => intro v2 v3 M h; exact K7 (fun v2 v3 M => f_X8_gives_l7 v1 n v2 v3 M) ih v2 v3 M h
  have h := hf
  refine gx_iconst (v := (0 : Int32)) Cx eX8_gives_0 (by decide) ?_
  refine gx_istore_n Cx eX8_gives_1 [(2, .int (0 : Int32)), (0, .ref (gx_a κ 57)), (1, .int v1)] rfl (by decide) ?_
  refine gx_bipush (v := (61 : Int32)) Cx eX8_gives_2 (by decide) ?_
  refine gx_iload_n Cx eX8_gives_4 2 rfl ?_
  refine gx_imul Cx eX8_gives_5 ?_
  refine gx_nmI h (fun x1 h => ?_)
  refine gx_istore_n Cx eX8_gives_6 [(3, .int x1), (2, .int (0 : Int32)), (0, .ref (gx_a κ 57)), (1, .int v1)] rfl (by decide) ?_
  refine gx_sub [2, 3, 1, 0] rfl ?_
  exact L7 _ _ _ _ h
set_option maxHeartbeats 4000000 in
set_option maxRecDepth 100000 in
theorem c_X8_runOf (κ : gx_K) {v1 : Int32} {v2 : Int32} {v3 : Int32} {v4 : Int32} {M : gx_Mem} {r9 : Int32} {M9 : gx_Mem} (hf : f_X8_runOf v1 v2 v3 v4 M = some (r9, M9)) : gx_CI κ yX8_runOf cX8_runOf 6 (some .int) 3 [.ref (gx_a κ 57), .int v1, .int v2, .int v3, .int v4] M r9 M9 := by
  refine gx_enterI (d := 3) my_X8_runOf.1 (by decide) (Nat.le_of_ble_eq_true rfl) (fun Γ Cx hR => ?_)
  change gx_G κ Γ 0 [(0, .ref (gx_a κ 57)), (1, .int v1), (2, .int v2), (3, .int v3), (4, .int v4)] [] M
  have B89 : ∀ (v5 : Int32) (M : gx_Mem), f_X8_runOf_b89 v1 v5 M = some (r9, M9) → gx_G κ Γ 89 [(1, .int v1), (5, .int v5)] [] M := by
    intro v5 M h
    refine gx_iload Cx eX8_runOf_89 1 rfl ?_
    refine gx_if_ge (tgt := 98) Cx eX8_runOf_91 (by decide) h (fun h => ?_) (fun h => ?_)
    · refine gx_iload Cx eX8_runOf_98 1 rfl ?_
      refine gx_iload_n Cx eX8_runOf_100 0 rfl ?_
      refine gx_icmp_le (tgt := 108) Cx eX8_runOf_101 (by decide) h (fun h => ?_) (fun h => ?_)
      · refine gx_iload Cx eX8_runOf_108 1 rfl ?_
        exact gx_rI h rfl eX8_runOf_110 hR
      · refine gx_iload_n Cx eX8_runOf_104 0 rfl ?_
        refine gx_goto (tgt := 110) Cx eX8_runOf_105 (by decide) ?_
        exact gx_rI h rfl eX8_runOf_110 hR
    · refine gx_iconst (v := (0 : Int32)) Cx eX8_runOf_94 (by decide) ?_
      refine gx_goto (tgt := 110) Cx eX8_runOf_95 (by decide) ?_
      exact gx_rI h rfl eX8_runOf_110 hR
  have h := hf
  refine gx_iload_n Cx eX8_runOf_0 1 rfl ?_
  refine gx_aload_n Cx eX8_runOf_1 0 rfl ?_
  refine gfX8_71 Cx eX8_runOf_2 ?_
  refine gx_iload_n Cx eX8_runOf_5 2 rfl ?_
  refine gx_iald Cx gx_y77 eX8_runOf_6 h (fun h => ?_)
  refine gx_isub Cx eX8_runOf_7 ?_
  refine gx_aload_n Cx eX8_runOf_8 0 rfl ?_
  refine gfX8_27 Cx eX8_runOf_9 ?_
  refine gx_iconst (v := (0 : Int32)) Cx eX8_runOf_12 (by decide) ?_
  refine gx_ialdC (α := Unit) (b := none) Cx gx_y63 eX8_runOf_13 (by decide) ?_
  refine gx_iconst (v := (3 : Int32)) Cx eX8_runOf_14 (by decide) ?_
  refine gx_idivC Cx eX8_runOf_15 (by decide) ?_
  refine gx_isub Cx eX8_runOf_16 ?_
  refine gx_nmI h (fun x1 h => ?_)
  refine gx_istore Cx eX8_runOf_17 [(5, .int x1), (0, .ref (gx_a κ 57)), (1, .int v1), (2, .int v2), (3, .int v3), (4, .int v4)] rfl (by decide) ?_
  refine gx_aload_n Cx eX8_runOf_19 1 rfl ?_
  refine gfX8_254 Cx eX8_runOf_20 ?_
  refine gx_if_eq (tgt := 89) Cx eX8_runOf_23 (by decide) h (fun h => ?_) (fun h => ?_)
  · refine gx_sub [2, 0] rfl ?_
    exact B89 _ _ h
  · refine gx_aload_n Cx eX8_runOf_26 1 rfl ?_
    refine gfX8_62 Cx eX8_runOf_27 ?_
    refine gx_iconst (v := (0 : Int32)) Cx eX8_runOf_30 (by decide) ?_
    refine gx_iload_n Cx eX8_runOf_31 2 rfl ?_
    refine gx_iastC Cx gx_y74 eX8_runOf_32 (by decide) h (fun M2 h => ?_)
    refine gx_aload_n Cx eX8_runOf_33 1 rfl ?_
    refine gfX8_62 Cx eX8_runOf_34 ?_
    refine gx_iconst (v := (1 : Int32)) Cx eX8_runOf_37 (by decide) ?_
    refine gx_aload_n Cx eX8_runOf_38 1 rfl ?_
    refine gfX8_71 Cx eX8_runOf_39 ?_
    refine gx_iload_n Cx eX8_runOf_42 3 rfl ?_
    refine gx_iald Cx gx_y77 eX8_runOf_43 h (fun h => ?_)
    refine gx_iastC Cx gx_y74 eX8_runOf_44 (by decide) h (fun M3 h => ?_)
    refine gx_aload_n Cx eX8_runOf_45 1 rfl ?_
    refine gfX8_62 Cx eX8_runOf_46 ?_
    refine gx_iconst (v := (2 : Int32)) Cx eX8_runOf_49 (by decide) ?_
    refine gx_aload_n Cx eX8_runOf_50 1 rfl ?_
    refine gfX8_27 Cx eX8_runOf_51 ?_
    refine gx_iconst (v := (0 : Int32)) Cx eX8_runOf_54 (by decide) ?_
    refine gx_ialdC (α := Unit) (b := none) Cx gx_y63 eX8_runOf_55 (by decide) ?_
    refine gx_iastC Cx gx_y74 eX8_runOf_56 (by decide) h (fun M4 h => ?_)
    refine gx_aload_n Cx eX8_runOf_57 1 rfl ?_
    refine gfX8_62 Cx eX8_runOf_58 ?_
    refine gx_iconst (v := (3 : Int32)) Cx eX8_runOf_61 (by decide) ?_
    refine gx_iload_n Cx eX8_runOf_62 3 rfl ?_
    refine gx_bipush (v := (8 : Int32)) Cx eX8_runOf_63 (by decide) ?_
    refine gx_iremC Cx eX8_runOf_65 (by decide) ?_
    refine gx_iastC Cx gx_y74 eX8_runOf_66 (by decide) h (fun M5 h => ?_)
    refine gx_aload_n Cx eX8_runOf_67 1 rfl ?_
    refine gfX8_62 Cx eX8_runOf_68 ?_
    refine gx_iconst (v := (4 : Int32)) Cx eX8_runOf_71 (by decide) ?_
    refine gx_iload_n Cx eX8_runOf_72 4 rfl ?_
    refine gx_iastC Cx gx_y74 eX8_runOf_73 (by decide) h (fun M6 h => ?_)
    refine gx_aload_n Cx eX8_runOf_74 1 rfl ?_
    refine gfX8_62 Cx eX8_runOf_75 ?_
    refine gx_iconst (v := (5 : Int32)) Cx eX8_runOf_78 (by decide) ?_
    refine gx_iload Cx eX8_runOf_79 5 rfl ?_
    refine gx_iastC Cx gx_y74 eX8_runOf_81 (by decide) h (fun M7 h => ?_)
    refine gx_aload_n Cx eX8_runOf_82 1 rfl ?_
    refine gx_iconst (v := (0 : Int32)) Cx eX8_runOf_83 (by decide) ?_
    obtain ⟨y9, M10, h8, h⟩ := gx_bI_of h
    refine gx_callVI (ci := 8) Cx my_X8_gives wlX8_264 rfl gx_y57 (by decide) rfl eX8_runOf_84 (c_X8_gives κ h8) rfl (Nat.le_of_ble_eq_true rfl) ?_
    refine gx_istore Cx eX8_runOf_87 [(5, .int y9), (0, .ref (gx_a κ 57)), (1, .int v1), (2, .int v2), (3, .int v3), (4, .int v4)] rfl (by decide) ?_
    refine gx_sub [2, 0] rfl ?_
    exact B89 _ _ h
set_option maxHeartbeats 4000000 in
set_option maxRecDepth 100000 in
theorem c_X8_flow (κ : gx_K) {v1 : Int32} {M : gx_Mem} {M9 : gx_Mem} (hf : f_X8_flow v1 M = some M9) : gx_CV κ yX8_flow cX8_flow 6 none 4 [.ref (gx_a κ 57), .int v1] M M9 := by
  refine gx_enterV (d := 4) my_X8_flow.1 (by decide) (Nat.le_of_ble_eq_true rfl) (fun Γ Cx hR => ?_)
  change gx_G κ Γ 0 [(0, .ref (gx_a κ 57)), (1, .int v1)] [] M
  have K3 : ∀  (ag3 : Int32 → gx_Mem → Option gx_Mem) (hag3 : ∀ (v2 : Int32) (M : gx_Mem), ag3 v2 M = some M9 → gx_G κ Γ 3 [(0, .ref (gx_a κ 57)), (1, .int v1), (2, .int v2)] [] M) (v2 : Int32) (M : gx_Mem), f_X8_flow_k3 v1 ag3 v2 M = some M9 → gx_G κ Γ 3 [(0, .ref (gx_a κ 57)), (1, .int v1), (2, .int v2)] [] M := by
    intro ag3 hag3
    have K52 : ∀ (v2 : Int32) (ag52 : Int32 → Int32 → Int32 → gx_Mem → Option gx_Mem) (hag52 : ∀ (v3 : Int32) (v4 : Int32) (v5 : Int32) (M : gx_Mem), ag52 v3 v4 v5 M = some M9 → gx_G κ Γ 52 [(0, .ref (gx_a κ 57)), (1, .int v1), (2, .int v2), (3, .int v3), (4, .int v4), (5, .int v5)] [] M) (v3 : Int32) (v4 : Int32) (v5 : Int32) (M : gx_Mem), f_X8_flow_k52 ag3 v1 v2 ag52 v3 v4 v5 M = some M9 → gx_G κ Γ 52 [(0, .ref (gx_a κ 57)), (1, .int v1), (2, .int v2), (3, .int v3), (4, .int v4), (5, .int v5)] [] M := by
      intro v2 ag52 hag52
      have B104 : ∀ (v3 : Int32) (v4 : Int32) (v5 : Int32) (M : gx_Mem), f_X8_flow_b104 ag3 ag52 v1 v2 v3 v4 v5 M = some M9 → gx_G κ Γ 104 [(0, .ref (gx_a κ 57)), (1, .int v1), (2, .int v2), (3, .int v3), (4, .int v4), (5, .int v5)] [] M := by
        intro v3 v4 v5 M h
        refine gx_iinc (v := (1 : Int32)) (i := 5) (j := 5) Cx eX8_flow_104 (by decide) h 5 rfl (fun w => [(5, .int w), (0, .ref (gx_a κ 57)), (1, .int v1), (2, .int v2), (3, .int v3), (4, .int v4)]) (fun _ => rfl) (by decide) (fun x11 h => ?_)
        refine gx_goto (tgt := 52) Cx eX8_flow_107 (by decide) ?_
        refine gx_sub [1, 2, 3, 4, 5, 0] rfl ?_
        exact hag52 _ _ _ _ h
      intro v3 v4 v5 M h
      refine gx_iload Cx eX8_flow_52 5 rfl ?_
      refine gx_aload_n Cx eX8_flow_54 0 rfl ?_
      refine gfX8_133 Cx eX8_flow_55 ?_
      refine gx_icmp_ge (tgt := 110) Cx eX8_flow_58 (by decide) h (fun h => ?_) (fun h => ?_)
      · refine gx_aload_n Cx eX8_flow_110 0 rfl ?_
        refine gfX8_83 Cx eX8_flow_111 ?_
        refine gx_bipush (v := (24 : Int32)) Cx eX8_flow_114 (by decide) ?_
        refine gx_iload_n Cx eX8_flow_116 1 rfl ?_
        refine gx_imul Cx eX8_flow_117 ?_
        refine gx_iload_n Cx eX8_flow_118 2 rfl ?_
        refine gx_iadd Cx eX8_flow_119 ?_
        refine gx_aload_n Cx eX8_flow_120 0 rfl ?_
        refine gx_iload_n Cx eX8_flow_121 3 rfl ?_
        refine gx_iload_n Cx eX8_flow_122 2 rfl ?_
        refine gx_iload_n Cx eX8_flow_123 1 rfl ?_
        refine gx_iload Cx eX8_flow_124 4 rfl ?_
        obtain ⟨y3, M4, h2, h⟩ := gx_bI_of h
        refine gx_callVI (ci := 8) Cx my_X8_runOf wlX8_270 rfl gx_y57 (by decide) rfl eX8_flow_126 (c_X8_runOf κ h2) rfl (Nat.le_of_ble_eq_true rfl) ?_
        refine gx_iast Cx gx_y81 eX8_flow_129 h (fun M5 h => ?_)
        refine gx_iinc (v := (-1 : Int32)) (i := 2) (j := 2) Cx eX8_flow_130 (by decide) h 2 rfl (fun w => [(2, .int w), (0, .ref (gx_a κ 57)), (1, .int v1), (3, .int v3), (4, .int v4), (5, .int v5)]) (fun _ => rfl) (by decide) (fun x6 h => ?_)
        refine gx_goto (tgt := 3) Cx eX8_flow_133 (by decide) ?_
        refine gx_sub [1, 2, 0] rfl ?_
        exact hag3 _ _ h
      · refine gx_aload_n Cx eX8_flow_61 0 rfl ?_
        refine gfX8_267 Cx eX8_flow_62 ?_
        refine gx_iload Cx eX8_flow_65 5 rfl ?_
        obtain ⟨y8, h7, h⟩ := gx_bP_of h
        refine gx_callSI Cx my_X8_has wlX8_261 (by decide) rfl eX8_flow_67 (c_X8_has κ h7) rfl (Nat.le_of_ble_eq_true rfl) ?_
        refine gx_if_eq (tgt := 104) Cx eX8_flow_70 (by decide) h (fun h => ?_) (fun h => ?_)
        · exact B104 _ _ _ _ h
        · refine gx_aload_n Cx eX8_flow_73 0 rfl ?_
          refine gfX8_68 Cx eX8_flow_74 ?_
          refine gx_iload Cx eX8_flow_77 5 rfl ?_
          refine gx_iald Cx gx_y76 eX8_flow_79 h (fun h => ?_)
          refine gx_iload_n Cx eX8_flow_80 2 rfl ?_
          refine gx_icmp_eq (tgt := 87) Cx eX8_flow_81 (by decide) h (fun h => ?_) (fun h => ?_)
          · refine gx_iload_n Cx eX8_flow_87 3 rfl ?_
            refine gx_aload_n Cx eX8_flow_88 0 rfl ?_
            refine gfX8_18 Cx eX8_flow_89 ?_
            refine gx_iconst (v := (4 : Int32)) Cx eX8_flow_92 (by decide) ?_
            refine gx_iload Cx eX8_flow_93 5 rfl ?_
            refine gx_imul Cx eX8_flow_95 ?_
            refine gx_iload_n Cx eX8_flow_96 1 rfl ?_
            refine gx_iadd Cx eX8_flow_97 ?_
            refine gx_iald Cx gx_y60 eX8_flow_98 h (fun h => ?_)
            refine gx_iadd Cx eX8_flow_99 ?_
            refine gx_nmI h (fun x9 h => ?_)
            refine gx_istore_n Cx eX8_flow_100 [(3, .int x9), (0, .ref (gx_a κ 57)), (1, .int v1), (2, .int v2), (4, .int v4), (5, .int v5)] rfl (by decide) ?_
            refine gx_iinc (v := (1 : Int32)) (i := 4) (j := 4) Cx eX8_flow_101 (by decide) h 4 rfl (fun w => [(4, .int w), (3, .int x9), (0, .ref (gx_a κ 57)), (1, .int v1), (2, .int v2), (5, .int v5)]) (fun _ => rfl) (by decide) (fun x10 h => ?_)
            refine gx_sub [2, 3, 4, 1, 0, 5] rfl ?_
            exact B104 _ _ _ _ h
          · refine gx_goto (tgt := 104) Cx eX8_flow_84 (by decide) ?_
            exact B104 _ _ _ _ h
    have L52 : ∀ (v2 : Int32) (n : Nat) (v3 : Int32) (v4 : Int32) (v5 : Int32) (M : gx_Mem), f_X8_flow_l52 ag3 v1 v2 n v3 v4 v5 M = some M9 → gx_G κ Γ 52 [(0, .ref (gx_a κ 57)), (1, .int v1), (2, .int v2), (3, .int v3), (4, .int v4), (5, .int v5)] [] M := by
      intro v2 n
      induction n with
      | zero => intro v3 v4 v5 M h; exact gx_loop_0 h
      | succ n ih => intro v3 v4 v5 M h; exact K52 v2 (fun v3 v4 v5 M => f_X8_flow_l52 ag3 v1 v2 n v3 v4 v5 M) ih v3 v4 v5 M h
    have B33 : ∀ (v2 : Int32) (s0 : Int32) (M : gx_Mem), f_X8_flow_b33 ag3 v1 v2 s0 M = some M9 → gx_G κ Γ 33 [(0, .ref (gx_a κ 57)), (1, .int v1), (2, .int v2)] [.int s0] M := by
      intro v2 s0 M h
      refine gx_istore_n Cx eX8_flow_33 [(3, .int s0), (0, .ref (gx_a κ 57)), (1, .int v1), (2, .int v2)] rfl (by decide) ?_
      refine gx_aload_n Cx eX8_flow_34 1 rfl ?_
      refine gfX8_80 Cx eX8_flow_35 ?_
      refine gx_bipush (v := (24 : Int32)) Cx eX8_flow_38 (by decide) ?_
      refine gx_iload_n Cx eX8_flow_40 2 rfl ?_
      refine gx_imul Cx eX8_flow_41 ?_
      refine gx_iload_n Cx eX8_flow_42 3 rfl ?_
      refine gx_iadd Cx eX8_flow_43 ?_
      refine gx_iload_n Cx eX8_flow_44 0 rfl ?_
      refine gx_iast Cx gx_y80 eX8_flow_45 h (fun M1 h => ?_)
      refine gx_iconst (v := (0 : Int32)) Cx eX8_flow_46 (by decide) ?_
      refine gx_istore Cx eX8_flow_47 [(4, .int (0 : Int32)), (3, .int s0), (0, .ref (gx_a κ 57)), (1, .int v1), (2, .int v2)] rfl (by decide) ?_
      refine gx_iconst (v := (0 : Int32)) Cx eX8_flow_49 (by decide) ?_
      refine gx_istore Cx eX8_flow_50 [(5, .int (0 : Int32)), (4, .int (0 : Int32)), (3, .int s0), (0, .ref (gx_a κ 57)), (1, .int v1), (2, .int v2)] rfl (by decide) ?_
      refine gx_sub [3, 4, 5, 2, 1, 0] rfl ?_
      exact L52 _ _ _ _ _ _ h
    intro v2 M h
    refine gx_iload_n Cx eX8_flow_3 2 rfl ?_
    refine gx_if_lt (tgt := 136) Cx eX8_flow_4 (by decide) h (fun h => ?_) (fun h => ?_)
    · exact gx_rV h eX8_flow_136 hR
    · refine gx_iload_n Cx eX8_flow_7 2 rfl ?_
      refine gx_bipush (v := (8 : Int32)) Cx eX8_flow_8 (by decide) ?_
      refine gx_iremC Cx eX8_flow_10 (by decide) ?_
      refine gx_bipush (v := (7 : Int32)) Cx eX8_flow_11 (by decide) ?_
      refine gx_icmp_ne (tgt := 20) Cx eX8_flow_13 (by decide) h (fun h => ?_) (fun h => ?_)
      · refine gx_aload_n Cx eX8_flow_20 0 rfl ?_
        refine gfX8_83 Cx eX8_flow_21 ?_
        refine gx_bipush (v := (24 : Int32)) Cx eX8_flow_24 (by decide) ?_
        refine gx_iload_n Cx eX8_flow_26 1 rfl ?_
        refine gx_imul Cx eX8_flow_27 ?_
        refine gx_iload_n Cx eX8_flow_28 2 rfl ?_
        refine gx_iadd Cx eX8_flow_29 ?_
        refine gx_iconst (v := (1 : Int32)) Cx eX8_flow_30 (by decide) ?_
        refine gx_iadd Cx eX8_flow_31 ?_
        refine gx_iald Cx gx_y81 eX8_flow_32 h (fun h => ?_)
        exact B33 _ _ _ h
      · refine gx_iconst (v := (0 : Int32)) Cx eX8_flow_16 (by decide) ?_
        refine gx_goto (tgt := 33) Cx eX8_flow_17 (by decide) ?_
        exact B33 _ _ _ h
  have L3 : ∀  (n : Nat) (v2 : Int32) (M : gx_Mem), f_X8_flow_l3 v1 n v2 M = some M9 → gx_G κ Γ 3 [(0, .ref (gx_a κ 57)), (1, .int v1), (2, .int v2)] [] M := by
    intro n
    induction n with
    | zero => intro v2 M h; exact gx_loop_0 h
    | succ n ih => intro v2 M h; exact K3 (fun v2 M => f_X8_flow_l3 v1 n v2 M) ih v2 M h
  have h := hf
  refine gx_bipush (v := (23 : Int32)) Cx eX8_flow_0 (by decide) ?_
  refine gx_istore_n Cx eX8_flow_2 [(2, .int (23 : Int32)), (0, .ref (gx_a κ 57)), (1, .int v1)] rfl (by decide) ?_
  refine gx_sub [1, 2, 0] rfl ?_
  exact L3 _ _ _ h
set_option maxHeartbeats 4000000 in
set_option maxRecDepth 100000 in
theorem c_X8_outAt (κ : gx_K) {v1 : Int32} {v2 : Int32} {M : gx_Mem} {r9 : Int32} (hf : f_X8_outAt v1 v2 M = some r9) : gx_CI κ yX8_outAt cX8_outAt 5 (some .int) 1 [.ref (gx_a κ 57), .int v1, .int v2] M r9 M := by
  refine gx_enterI (d := 1) my_X8_outAt.1 (by decide) (Nat.le_of_ble_eq_true rfl) (fun Γ Cx hR => ?_)
  change gx_G κ Γ 0 [(0, .ref (gx_a κ 57)), (1, .int v1), (2, .int v2)] [] M
  have K5 : ∀  (ag5 : Int32 → Int32 → Option Int32) (hag5 : ∀ (v3 : Int32) (v4 : Int32), ag5 v3 v4 = some r9 → gx_G κ Γ 5 [(0, .ref (gx_a κ 57)), (1, .int v1), (2, .int v2), (3, .int v3), (4, .int v4)] [] M) (v3 : Int32) (v4 : Int32), f_X8_outAt_k5 v1 v2 ag5 v3 v4 M = some r9 → gx_G κ Γ 5 [(0, .ref (gx_a κ 57)), (1, .int v1), (2, .int v2), (3, .int v3), (4, .int v4)] [] M := by
    intro ag5 hag5
    have B44 : ∀ (v3 : Int32) (v4 : Int32), f_X8_outAt_b44 ag5 v1 v2 v3 v4 M = some r9 → gx_G κ Γ 44 [(0, .ref (gx_a κ 57)), (1, .int v1), (2, .int v2), (3, .int v3), (4, .int v4)] [] M := by
      intro v3 v4 h
      refine gx_iinc (v := (1 : Int32)) (i := 4) (j := 4) Cx eX8_outAt_44 (by decide) h 4 rfl (fun w => [(4, .int w), (0, .ref (gx_a κ 57)), (1, .int v1), (2, .int v2), (3, .int v3)]) (fun _ => rfl) (by decide) (fun x6 h => ?_)
      refine gx_goto (tgt := 5) Cx eX8_outAt_47 (by decide) ?_
      refine gx_sub [1, 2, 3, 4, 0] rfl ?_
      exact hag5 _ _ h
    intro v3 v4 h
    refine gx_iload Cx eX8_outAt_5 4 rfl ?_
    refine gx_aload_n Cx eX8_outAt_7 0 rfl ?_
    refine gfX8_133 Cx eX8_outAt_8 ?_
    refine gx_icmp_ge (tgt := 50) Cx eX8_outAt_11 (by decide) h (fun h => ?_) (fun h => ?_)
    · refine gx_iload_n Cx eX8_outAt_50 3 rfl ?_
      exact gx_rIp h rfl eX8_outAt_51 hR
    · refine gx_iload_n Cx eX8_outAt_14 2 rfl ?_
      refine gx_iload Cx eX8_outAt_15 4 rfl ?_
      obtain ⟨y2, h1, h⟩ := gx_bP_of h
      refine gx_callSI Cx my_X8_has wlX8_261 (by decide) rfl eX8_outAt_17 (c_X8_has κ h1) rfl (Nat.le_of_ble_eq_true rfl) ?_
      refine gx_if_eq (tgt := 44) Cx eX8_outAt_20 (by decide) h (fun h => ?_) (fun h => ?_)
      · exact B44 _ _ h
      · refine gx_aload_n Cx eX8_outAt_23 0 rfl ?_
        refine gfX8_15 Cx eX8_outAt_24 ?_
        refine gx_iload Cx eX8_outAt_27 4 rfl ?_
        refine gx_iald Cx gx_y59 eX8_outAt_29 h (fun h => ?_)
        refine gx_iload_n Cx eX8_outAt_30 1 rfl ?_
        obtain ⟨y4, h3, h⟩ := gx_bP_of h
        refine gx_callSI Cx my_X8_has wlX8_261 (by decide) rfl eX8_outAt_31 (c_X8_has κ h3) rfl (Nat.le_of_ble_eq_true rfl) ?_
        refine gx_if_eq (tgt := 44) Cx eX8_outAt_34 (by decide) h (fun h => ?_) (fun h => ?_)
        · exact B44 _ _ h
        · refine gx_iload_n Cx eX8_outAt_37 3 rfl ?_
          refine gx_iconst (v := (1 : Int32)) Cx eX8_outAt_38 (by decide) ?_
          refine gx_iload Cx eX8_outAt_39 4 rfl ?_
          refine gx_ishl Cx eX8_outAt_41 ?_
          refine gx_ior Cx eX8_outAt_42 ?_
          refine gx_nmI h (fun x5 h => ?_)
          refine gx_istore_n Cx eX8_outAt_43 [(3, .int x5), (0, .ref (gx_a κ 57)), (1, .int v1), (2, .int v2), (4, .int v4)] rfl (by decide) ?_
          refine gx_sub [1, 2, 3, 0, 4] rfl ?_
          exact B44 _ _ h
  have L5 : ∀  (n : Nat) (v3 : Int32) (v4 : Int32), f_X8_outAt_l5 v1 v2 n v3 v4 M = some r9 → gx_G κ Γ 5 [(0, .ref (gx_a κ 57)), (1, .int v1), (2, .int v2), (3, .int v3), (4, .int v4)] [] M := by
    intro n
    induction n with
    | zero => intro v3 v4 h; exact gx_loop_0 h
    | succ n ih => intro v3 v4 h; exact K5 (fun v3 v4 => f_X8_outAt_l5 v1 v2 n v3 v4 M) ih v3 v4 h
  have h := hf
  refine gx_iconst (v := (0 : Int32)) Cx eX8_outAt_0 (by decide) ?_
  refine gx_istore_n Cx eX8_outAt_1 [(3, .int (0 : Int32)), (0, .ref (gx_a κ 57)), (1, .int v1), (2, .int v2)] rfl (by decide) ?_
  refine gx_iconst (v := (0 : Int32)) Cx eX8_outAt_2 (by decide) ?_
  refine gx_istore Cx eX8_outAt_3 [(4, .int (0 : Int32)), (3, .int (0 : Int32)), (0, .ref (gx_a κ 57)), (1, .int v1), (2, .int v2)] rfl (by decide) ?_
  refine gx_sub [2, 3, 4, 1, 0] rfl ?_
  exact L5 _ _ _ h
set_option maxHeartbeats 4000000 in
set_option maxRecDepth 100000 in
theorem c_X8_wetsBy (κ : gx_K) {v1 : Int32} {v2 : Int32} {M : gx_Mem} {r9 : Int32} (hf : f_X8_wetsBy v1 v2 M = some r9) : gx_CI κ yX8_wetsBy cX8_wetsBy 4 (some .int) 0 [.ref (gx_a κ 57), .int v1, .int v2] M r9 M := by
  refine gx_enterI (d := 0) my_X8_wetsBy.1 (by decide) (Nat.le_of_ble_eq_true rfl) (fun Γ Cx hR => ?_)
  change gx_G κ Γ 0 [(0, .ref (gx_a κ 57)), (1, .int v1), (2, .int v2)] [] M
  have h := hf
  refine gx_aload_n Cx eX8_wetsBy_0 0 rfl ?_
  refine gfX8_80 Cx eX8_wetsBy_1 ?_
  refine gx_bipush (v := (24 : Int32)) Cx eX8_wetsBy_4 (by decide) ?_
  refine gx_iload_n Cx eX8_wetsBy_6 2 rfl ?_
  refine gx_imul Cx eX8_wetsBy_7 ?_
  refine gx_aload_n Cx eX8_wetsBy_8 0 rfl ?_
  refine gfX8_68 Cx eX8_wetsBy_9 ?_
  refine gx_iload_n Cx eX8_wetsBy_12 1 rfl ?_
  refine gx_iald Cx gx_y76 eX8_wetsBy_13 h (fun h => ?_)
  refine gx_iadd Cx eX8_wetsBy_14 ?_
  refine gx_iald Cx gx_y80 eX8_wetsBy_15 h (fun h => ?_)
  refine gx_aload_n Cx eX8_wetsBy_16 0 rfl ?_
  refine gfX8_71 Cx eX8_wetsBy_17 ?_
  refine gx_aload_n Cx eX8_wetsBy_20 0 rfl ?_
  refine gfX8_68 Cx eX8_wetsBy_21 ?_
  refine gx_iload_n Cx eX8_wetsBy_24 1 rfl ?_
  refine gx_iald Cx gx_y76 eX8_wetsBy_25 h (fun h => ?_)
  refine gx_iald Cx gx_y77 eX8_wetsBy_26 h (fun h => ?_)
  refine gx_isub Cx eX8_wetsBy_27 ?_
  refine gx_nmI h (fun x1 h => ?_)
  refine gx_istore_n Cx eX8_wetsBy_28 [(3, .int x1), (0, .ref (gx_a κ 57)), (1, .int v1), (2, .int v2)] rfl (by decide) ?_
  refine gx_iload_n Cx eX8_wetsBy_29 0 rfl ?_
  refine gx_if_ge (tgt := 37) Cx eX8_wetsBy_30 (by decide) h (fun h => ?_) (fun h => ?_)
  · refine gx_iload_n Cx eX8_wetsBy_37 0 rfl ?_
    exact gx_rIp h rfl eX8_wetsBy_38 hR
  · refine gx_iconst (v := (0 : Int32)) Cx eX8_wetsBy_33 (by decide) ?_
    refine gx_goto (tgt := 38) Cx eX8_wetsBy_34 (by decide) ?_
    exact gx_rIp h rfl eX8_wetsBy_38 hR
set_option maxHeartbeats 4000000 in
set_option maxRecDepth 100000 in
theorem c_X8_bestOf_o (κ : gx_K) (dd : Nat) (q_bestOf : Int32 → Int32 → gx_Mem → Option (Int32 × gx_Mem)) (q_byOut : Int32 → Int32 → Int32 → gx_Mem → Option (Int32 × gx_Mem)) (hq_bestOf : ∀ {v1 : Int32} {v2 : Int32} {M : gx_Mem} {r9 : Int32} {M9 : gx_Mem}, q_bestOf v1 v2 M = some (r9, M9) → gx_CI κ yX8_bestOf cX8_bestOf 5 (some .int) (5 + dd) [.ref (gx_a κ 57), .int v1, .int v2] M r9 M9) (hq_byOut : ∀ {v1 : Int32} {v2 : Int32} {v3 : Int32} {M : gx_Mem} {r9 : Int32} {M9 : gx_Mem}, q_byOut v1 v2 v3 M = some (r9, M9) → gx_CI κ yX8_byOut cX8_byOut 7 (some .int) (5 + dd) [.ref (gx_a κ 57), .int v1, .int v2, .int v3] M r9 M9) {v1 : Int32} {v2 : Int32} {M : gx_Mem} {r9 : Int32} {M9 : gx_Mem} (hf : f_X8_bestOf_o q_bestOf q_byOut v1 v2 M = some (r9, M9)) : gx_CI κ yX8_bestOf cX8_bestOf 5 (some .int) (5 + dd + 1) [.ref (gx_a κ 57), .int v1, .int v2] M r9 M9 := by
  refine gx_enterI (d := 5 + dd + 1) my_X8_bestOf.1 (by decide) (Nat.le_of_ble_eq_true rfl) (fun Γ Cx hR => ?_)
  change gx_G κ Γ 0 [(0, .ref (gx_a κ 57)), (1, .int v1), (2, .int v2)] [] M
  have h := hf
  refine gx_iload_n Cx eX8_bestOf_0 1 rfl ?_
  refine gx_aload_n Cx eX8_bestOf_1 0 rfl ?_
  refine gfX8_356 Cx eX8_bestOf_2 ?_
  refine gx_icmp_ne (tgt := 10) Cx eX8_bestOf_5 (by decide) h (fun h => ?_) (fun h => ?_)
  · refine gx_aload_n Cx eX8_bestOf_10 0 rfl ?_
    refine gx_iload_n Cx eX8_bestOf_11 1 rfl ?_
    refine gx_iload_n Cx eX8_bestOf_12 2 rfl ?_
    refine gx_iconst (v := (0 : Int32)) Cx eX8_bestOf_13 (by decide) ?_
    obtain ⟨y2, M3, h1, h⟩ := gx_bI_of h
    refine gx_callVI (ci := 8) Cx my_X8_byOut wlX8_359 rfl gx_y57 (Nat.le_refl _) rfl eX8_bestOf_14 (hq_byOut h1) rfl (Nat.le_of_ble_eq_true rfl) ?_
    refine gx_istore_n Cx eX8_bestOf_17 [(3, .int y2), (0, .ref (gx_a κ 57)), (1, .int v1), (2, .int v2)] rfl (by decide) ?_
    refine gx_aload_n Cx eX8_bestOf_18 1 rfl ?_
    refine gx_iload_n Cx eX8_bestOf_19 2 rfl ?_
    refine gx_iload_n Cx eX8_bestOf_20 3 rfl ?_
    refine gx_iconst (v := (1 : Int32)) Cx eX8_bestOf_21 (by decide) ?_
    obtain ⟨y5, M6, h4, h⟩ := gx_bI_of h
    refine gx_callVI (ci := 8) Cx my_X8_byOut wlX8_359 rfl gx_y57 (Nat.le_refl _) rfl eX8_bestOf_22 (hq_byOut h4) rfl (Nat.le_of_ble_eq_true rfl) ?_
    refine gx_istore Cx eX8_bestOf_25 [(4, .int y5), (3, .int y2), (0, .ref (gx_a κ 57)), (1, .int v1), (2, .int v2)] rfl (by decide) ?_
    refine gx_iload_n Cx eX8_bestOf_27 3 rfl ?_
    refine gx_iconst (v := (2 : Int32)) Cx eX8_bestOf_28 (by decide) ?_
    refine gx_iremC Cx eX8_bestOf_29 (by decide) ?_
    refine gx_if_ne (tgt := 48) Cx eX8_bestOf_30 (by decide) h (fun h => ?_) (fun h => ?_)
    · refine gx_iload Cx eX8_bestOf_48 0 rfl ?_
      refine gx_iload_n Cx eX8_bestOf_50 1 rfl ?_
      refine gx_icmp_ge (tgt := 59) Cx eX8_bestOf_51 (by decide) h (fun h => ?_) (fun h => ?_)
      · refine gx_iload_n Cx eX8_bestOf_59 1 rfl ?_
        exact gx_rI h rfl eX8_bestOf_60 hR
      · refine gx_iload Cx eX8_bestOf_54 0 rfl ?_
        refine gx_goto (tgt := 60) Cx eX8_bestOf_56 (by decide) ?_
        exact gx_rI h rfl eX8_bestOf_60 hR
    · refine gx_iload Cx eX8_bestOf_33 0 rfl ?_
      refine gx_iload_n Cx eX8_bestOf_35 1 rfl ?_
      refine gx_icmp_le (tgt := 44) Cx eX8_bestOf_36 (by decide) h (fun h => ?_) (fun h => ?_)
      · refine gx_iload_n Cx eX8_bestOf_44 1 rfl ?_
        refine gx_goto (tgt := 60) Cx eX8_bestOf_45 (by decide) ?_
        exact gx_rI h rfl eX8_bestOf_60 hR
      · refine gx_iload Cx eX8_bestOf_39 0 rfl ?_
        refine gx_goto (tgt := 60) Cx eX8_bestOf_41 (by decide) ?_
        exact gx_rI h rfl eX8_bestOf_60 hR
  · refine gx_iload_n Cx eX8_bestOf_8 2 rfl ?_
    exact gx_rI h rfl eX8_bestOf_9 hR
set_option maxHeartbeats 4000000 in
set_option maxRecDepth 100000 in
theorem c_X8_byOut_o (κ : gx_K) (dd : Nat) (q_bestOf : Int32 → Int32 → gx_Mem → Option (Int32 × gx_Mem)) (q_byOut : Int32 → Int32 → Int32 → gx_Mem → Option (Int32 × gx_Mem)) (hq_bestOf : ∀ {v1 : Int32} {v2 : Int32} {M : gx_Mem} {r9 : Int32} {M9 : gx_Mem}, q_bestOf v1 v2 M = some (r9, M9) → gx_CI κ yX8_bestOf cX8_bestOf 5 (some .int) (5 + dd) [.ref (gx_a κ 57), .int v1, .int v2] M r9 M9) (hq_byOut : ∀ {v1 : Int32} {v2 : Int32} {v3 : Int32} {M : gx_Mem} {r9 : Int32} {M9 : gx_Mem}, q_byOut v1 v2 v3 M = some (r9, M9) → gx_CI κ yX8_byOut cX8_byOut 7 (some .int) (5 + dd) [.ref (gx_a κ 57), .int v1, .int v2, .int v3] M r9 M9) {v1 : Int32} {v2 : Int32} {v3 : Int32} {M : gx_Mem} {r9 : Int32} {M9 : gx_Mem} (hf : f_X8_byOut_o q_bestOf q_byOut v1 v2 v3 M = some (r9, M9)) : gx_CI κ yX8_byOut cX8_byOut 7 (some .int) (5 + dd + 1) [.ref (gx_a κ 57), .int v1, .int v2, .int v3] M r9 M9 := by
  refine gx_enterI (d := 5 + dd + 1) my_X8_byOut.1 (by decide) (Nat.le_of_ble_eq_true rfl) (fun Γ Cx hR => ?_)
  change gx_G κ Γ 0 [(0, .ref (gx_a κ 57)), (1, .int v1), (2, .int v2), (3, .int v3)] [] M
  have B127 : ∀ (s1 : Int32) (s2 : Int32) (M : gx_Mem), f_X8_byOut_b127 q_bestOf q_byOut s1 s2 M = some (r9, M9) → gx_G κ Γ 127 [] [.int s2, .int s1, .ref (gx_a κ 57)] M := by
    intro s1 s2 M h
    obtain ⟨y12, M13, h11, h⟩ := gx_bI_of h
    refine gx_callVI (ci := 8) Cx my_X8_bestOf wlX8_353 rfl gx_y57 (Nat.le_refl _) rfl eX8_byOut_127 (hq_bestOf h11) rfl (Nat.le_of_ble_eq_true rfl) ?_
    exact gx_rI h rfl eX8_byOut_130 hR
  have B105 : ∀ (s0 : Int32) (M : gx_Mem), f_X8_byOut_b105 q_bestOf q_byOut v1 s0 M = some (r9, M9) → gx_G κ Γ 105 [(0, .ref (gx_a κ 57)), (1, .int v1)] [.int s0] M := by
    intro s0 M h
    refine gx_istore Cx eX8_byOut_105 [(6, .int s0), (0, .ref (gx_a κ 57)), (1, .int v1)] rfl (by decide) ?_
    refine gx_aload_n Cx eX8_byOut_107 1 rfl ?_
    refine gx_iload_n Cx eX8_byOut_108 2 rfl ?_
    refine gx_iconst (v := (1 : Int32)) Cx eX8_byOut_109 (by decide) ?_
    refine gx_iadd Cx eX8_byOut_110 ?_
    refine gx_iload Cx eX8_byOut_111 0 rfl ?_
    refine gx_sipush (v := (9999 : Int32)) Cx eX8_byOut_113 (by decide) ?_
    refine gx_icmp_le (tgt := 125) Cx eX8_byOut_116 (by decide) h (fun h => ?_) (fun h => ?_)
    · refine gx_iload Cx eX8_byOut_125 0 rfl ?_
      refine gx_sub [] rfl ?_
      exact B127 _ _ _ h
    · refine gx_sipush (v := (9999 : Int32)) Cx eX8_byOut_119 (by decide) ?_
      refine gx_goto (tgt := 127) Cx eX8_byOut_122 (by decide) ?_
      refine gx_sub [] rfl ?_
      exact B127 _ _ _ h
  have B62 : ∀ (s1 : Int32) (M : gx_Mem), f_X8_byOut_b62 q_bestOf q_byOut v1 v2 s1 M = some (r9, M9) → gx_G κ Γ 62 [(0, .ref (gx_a κ 57)), (1, .int v1), (2, .int v2)] [.int s1, .ref (gx_a κ 57)] M := by
    intro s1 M h
    refine pfX8_267 Cx eX8_byOut_62 h (fun M4 h => ?_)
    refine gx_aload_n Cx eX8_byOut_65 0 rfl ?_
    refine gx_aload_n Cx eX8_byOut_66 0 rfl ?_
    refine gfX8_350 Cx eX8_byOut_67 ?_
    obtain ⟨M6, h5, h⟩ := gx_bP_of h
    refine gx_callVV (ci := 8) Cx my_X8_flow wlX8_274 rfl gx_y57 (by omega) rfl eX8_byOut_70 (c_X8_flow κ h5) rfl (Nat.le_of_ble_eq_true rfl) ?_
    refine gx_aload_n Cx eX8_byOut_73 0 rfl ?_
    refine gfX8_267 Cx eX8_byOut_74 ?_
    refine gx_aload_n Cx eX8_byOut_77 0 rfl ?_
    refine gfX8_344 Cx eX8_byOut_78 ?_
    obtain ⟨y8, h7, h⟩ := gx_bP_of h
    refine gx_callSI Cx my_X8_has wlX8_261 (by omega) rfl eX8_byOut_81 (c_X8_has κ h7) rfl (Nat.le_of_ble_eq_true rfl) ?_
    refine gx_if_eq (tgt := 104) Cx eX8_byOut_84 (by decide) h (fun h => ?_) (fun h => ?_)
    · refine gx_iload_n Cx eX8_byOut_104 2 rfl ?_
      refine gx_sub [0, 1] rfl ?_
      exact B105 _ _ h
    · refine gx_iload_n Cx eX8_byOut_87 2 rfl ?_
      refine gx_aload_n Cx eX8_byOut_88 0 rfl ?_
      refine gx_aload_n Cx eX8_byOut_89 0 rfl ?_
      refine gfX8_344 Cx eX8_byOut_90 ?_
      refine gx_aload_n Cx eX8_byOut_93 0 rfl ?_
      refine gfX8_350 Cx eX8_byOut_94 ?_
      obtain ⟨y10, h9, h⟩ := gx_bP_of h
      refine gx_callVI (ci := 8) Cx my_X8_wetsBy wlX8_281 rfl gx_y57 (by omega) rfl eX8_byOut_97 (c_X8_wetsBy κ h9) rfl (Nat.le_of_ble_eq_true rfl) ?_
      refine gx_iadd Cx eX8_byOut_100 ?_
      refine gx_goto (tgt := 105) Cx eX8_byOut_101 (by decide) ?_
      refine gx_sub [0, 1] rfl ?_
      exact B105 _ _ h
  have B17 : ∀ (s0 : Int32) (M : gx_Mem), f_X8_byOut_b17 q_bestOf q_byOut v1 v2 v3 s0 M = some (r9, M9) → gx_G κ Γ 17 [(0, .ref (gx_a κ 57)), (1, .int v1), (2, .int v2), (3, .int v3)] [.int s0] M := by
    intro s0 M h
    refine gx_istore Cx eX8_byOut_17 [(4, .int s0), (0, .ref (gx_a κ 57)), (1, .int v1), (2, .int v2), (3, .int v3)] rfl (by decide) ?_
    refine gx_aload_n Cx eX8_byOut_19 1 rfl ?_
    refine gx_aload_n Cx eX8_byOut_20 1 rfl ?_
    refine gfX8_27 Cx eX8_byOut_21 ?_
    refine gx_iconst (v := (1 : Int32)) Cx eX8_byOut_24 (by decide) ?_
    refine gx_ialdC (α := Unit) (b := none) Cx gx_y63 eX8_byOut_25 (by decide) ?_
    refine gx_iload_n Cx eX8_byOut_26 2 rfl ?_
    refine gx_iadd Cx eX8_byOut_27 ?_
    refine gx_bipush (v := (12 : Int32)) Cx eX8_byOut_28 (by decide) ?_
    refine gx_iremC Cx eX8_byOut_30 (by decide) ?_
    refine gx_bipush (v := (63 : Int32)) Cx eX8_byOut_31 (by decide) ?_
    obtain ⟨y2, h1, h⟩ := gx_bP_of h
    refine gx_callVI (ci := 8) Cx my_X8_outAt wlX8_284 rfl gx_y57 (by omega) rfl eX8_byOut_33 (c_X8_outAt κ h1) rfl (Nat.le_of_ble_eq_true rfl) ?_
    refine gx_iconst (v := (1 : Int32)) Cx eX8_byOut_36 (by decide) ?_
    refine gx_iload Cx eX8_byOut_37 0 rfl ?_
    refine gx_ishl Cx eX8_byOut_39 ?_
    refine gx_iconst (v := (-1 : Int32)) Cx eX8_byOut_40 (by decide) ?_
    refine gx_ixor Cx eX8_byOut_41 ?_
    refine gx_iand Cx eX8_byOut_42 ?_
    refine gx_nmI h (fun x3 h => ?_)
    refine gx_istore Cx eX8_byOut_43 [(5, .int x3), (4, .int s0), (0, .ref (gx_a κ 57)), (1, .int v1), (2, .int v2), (3, .int v3)] rfl (by decide) ?_
    refine gx_aload_n Cx eX8_byOut_45 2 rfl ?_
    refine gx_iload_n Cx eX8_byOut_46 5 rfl ?_
    refine gx_if_eq (tgt := 60) Cx eX8_byOut_47 (by decide) h (fun h => ?_) (fun h => ?_)
    · refine gx_iload Cx eX8_byOut_60 0 rfl ?_
      refine gx_sub [2, 3, 4] rfl ?_
      exact B62 _ _ h
    · refine gx_iload Cx eX8_byOut_50 0 rfl ?_
      refine gx_iconst (v := (1 : Int32)) Cx eX8_byOut_52 (by decide) ?_
      refine gx_iload Cx eX8_byOut_53 1 rfl ?_
      refine gx_ishl Cx eX8_byOut_55 ?_
      refine gx_ior Cx eX8_byOut_56 ?_
      refine gx_goto (tgt := 62) Cx eX8_byOut_57 (by decide) ?_
      refine gx_sub [2, 3, 4] rfl ?_
      exact B62 _ _ h
  have h := hf
  refine gx_iload_n Cx eX8_byOut_0 1 rfl ?_
  refine gx_iconst (v := (2 : Int32)) Cx eX8_byOut_1 (by decide) ?_
  refine gx_iremC Cx eX8_byOut_2 (by decide) ?_
  refine gx_if_ne (tgt := 13) Cx eX8_byOut_3 (by decide) h (fun h => ?_) (fun h => ?_)
  · refine gx_aload_n Cx eX8_byOut_13 0 rfl ?_
    refine gfX8_347 Cx eX8_byOut_14 ?_
    exact B17 _ _ h
  · refine gx_aload_n Cx eX8_byOut_6 0 rfl ?_
    refine gfX8_344 Cx eX8_byOut_7 ?_
    refine gx_goto (tgt := 17) Cx eX8_byOut_10 (by decide) ?_
    exact B17 _ _ h
theorem g_bestOf_byOut (κ : gx_K) : ∀ d : Nat, (∀ {v1 : Int32} {v2 : Int32} {M : gx_Mem} {r9 : Int32} {M9 : gx_Mem}, f_X8_bestOf d v1 v2 M = some (r9, M9) → gx_CI κ yX8_bestOf cX8_bestOf 5 (some .int) (5 + d) [.ref (gx_a κ 57), .int v1, .int v2] M r9 M9) ∧ (∀ {v1 : Int32} {v2 : Int32} {v3 : Int32} {M : gx_Mem} {r9 : Int32} {M9 : gx_Mem}, f_X8_byOut d v1 v2 v3 M = some (r9, M9) → gx_CI κ yX8_byOut cX8_byOut 7 (some .int) (5 + d) [.ref (gx_a κ 57), .int v1, .int v2, .int v3] M r9 M9) := by
  intro d
  induction d with
  | zero => exact ⟨(by intros; rename_i q; cases q), (by intros; rename_i q; cases q)⟩
  | succ d ih =>
    exact ⟨(by intro v1 v2 M r9 M9 hf; exact c_X8_bestOf_o κ d (f_X8_bestOf d) (f_X8_byOut d) (fun h => ih.1 h) (fun h => ih.2 h)  hf), (by intro v1 v2 v3 M r9 M9 hf; exact c_X8_byOut_o κ d (f_X8_bestOf d) (f_X8_byOut d) (fun h => ih.1 h) (fun h => ih.2 h)  hf)⟩
theorem c_X8_bestOf (κ : gx_K) {v1 : Int32} {v2 : Int32} {M : gx_Mem} {r9 : Int32} {M9 : gx_Mem} (hf : f_X8_bestOf gx_dep v1 v2 M = some (r9, M9)) : gx_CI κ yX8_bestOf cX8_bestOf 5 (some .int) 105 [.ref (gx_a κ 57), .int v1, .int v2] M r9 M9 := (g_bestOf_byOut κ gx_dep).1  hf
theorem c_X8_byOut (κ : gx_K) {v1 : Int32} {v2 : Int32} {v3 : Int32} {M : gx_Mem} {r9 : Int32} {M9 : gx_Mem} (hf : f_X8_byOut gx_dep v1 v2 v3 M = some (r9, M9)) : gx_CI κ yX8_byOut cX8_byOut 7 (some .int) 105 [.ref (gx_a κ 57), .int v1, .int v2, .int v3] M r9 M9 := (g_bestOf_byOut κ gx_dep).2  hf
set_option maxHeartbeats 4000000 in
set_option maxRecDepth 100000 in
theorem c_X8_bitsOf (κ : gx_K) {v0 : Int32} {M : gx_Mem} {r9 : Int32} (hf : f_X8_bitsOf v0 M = some r9) : gx_CI κ yX8_bitsOf cX8_bitsOf 3 (some .int) 0 [.int v0] M r9 M := by
  refine gx_enterI (d := 0) my_X8_bitsOf.1 (by decide) (Nat.le_of_ble_eq_true rfl) (fun Γ Cx hR => ?_)
  change gx_G κ Γ 0 [(0, .int v0)] [] M
  have K4 : ∀  (ag4 : Int32 → Int32 → Option Int32) (hag4 : ∀ (v1 : Int32) (v2 : Int32), ag4 v1 v2 = some r9 → gx_G κ Γ 4 [(1, .int v1), (2, .int v2)] [] M) (v1 : Int32) (v2 : Int32), f_X8_bitsOf_k4 ag4 v1 v2 M = some r9 → gx_G κ Γ 4 [(1, .int v1), (2, .int v2)] [] M := by
    intro ag4 hag4
    intro v1 v2 h
    refine gx_iload_n Cx eX8_bitsOf_4 1 rfl ?_
    refine gx_if_eq (tgt := 20) Cx eX8_bitsOf_5 (by decide) h (fun h => ?_) (fun h => ?_)
    · refine gx_iload_n Cx eX8_bitsOf_20 0 rfl ?_
      exact gx_rIp h rfl eX8_bitsOf_21 hR
    · refine gx_iinc (v := (1 : Int32)) (i := 1) (j := 0) Cx eX8_bitsOf_8 (by decide) h 0 rfl (fun w => [(1, .int w), (2, .int v2)]) (fun _ => rfl) (by decide) (fun x1 h => ?_)
      refine gx_iload_n Cx eX8_bitsOf_11 1 rfl ?_
      refine gx_iload_n Cx eX8_bitsOf_12 1 rfl ?_
      refine gx_iconst (v := (1 : Int32)) Cx eX8_bitsOf_13 (by decide) ?_
      refine gx_isub Cx eX8_bitsOf_14 ?_
      refine gx_iand Cx eX8_bitsOf_15 ?_
      refine gx_nmI h (fun x2 h => ?_)
      refine gx_istore_n Cx eX8_bitsOf_16 [(2, .int x2), (1, .int x1)] rfl (by decide) ?_
      refine gx_goto (tgt := 4) Cx eX8_bitsOf_17 (by decide) ?_
      refine gx_sub [1, 0] rfl ?_
      exact hag4 _ _ h
  have L4 : ∀  (n : Nat) (v1 : Int32) (v2 : Int32), f_X8_bitsOf_l4 n v1 v2 M = some r9 → gx_G κ Γ 4 [(1, .int v1), (2, .int v2)] [] M := by
    intro n
    induction n with
    | zero => intro v1 v2 h; exact gx_loop_0 h
    | succ n ih => intro v1 v2 h; exact K4 (fun v1 v2 => f_X8_bitsOf_l4 n v1 v2 M) ih v1 v2 h
  have h := hf
  refine gx_iconst (v := (0 : Int32)) Cx eX8_bitsOf_0 (by decide) ?_
  refine gx_istore_n Cx eX8_bitsOf_1 [(1, .int (0 : Int32)), (0, .int v0)] rfl (by decide) ?_
  refine gx_iload_n Cx eX8_bitsOf_2 1 rfl ?_
  refine gx_istore_n Cx eX8_bitsOf_3 [(2, .int v0), (1, .int (0 : Int32)), (0, .int v0)] rfl (by decide) ?_
  refine gx_sub [1, 0] rfl ?_
  exact L4 _ _ _ h
set_option maxHeartbeats 4000000 in
set_option maxRecDepth 100000 in
theorem c_X8_body (κ : gx_K) {v1 : Int32} {M : gx_Mem} {r9 : Int32} {M9 : gx_Mem} (hf : f_X8_body v1 M = some (r9, M9)) : gx_CI κ yX8_body cX8_body 2 (some .int) 1 [.ref (gx_a κ 57), .int v1] M r9 M9 := by
  refine gx_enterI (d := 1) my_X8_body.1 (by decide) (Nat.le_of_ble_eq_true rfl) (fun Γ Cx hR => ?_)
  change gx_G κ Γ 0 [(0, .ref (gx_a κ 57)), (1, .int v1)] [] M
  have h := hf
  refine gx_iload_n Cx eX8_body_0 1 rfl ?_
  refine gx_iconst (v := (0 : Int32)) Cx eX8_body_1 (by decide) ?_
  refine gx_bipush (v := (7 : Int32)) Cx eX8_body_2 (by decide) ?_
  obtain ⟨y2, h1, h⟩ := gx_bP_of h
  refine gx_callSI Cx my_X8_in wlX8_136 (by decide) rfl eX8_body_4 (c_X8_in κ h1) rfl (Nat.le_of_ble_eq_true rfl) ?_
  refine gx_if_ne (tgt := 12) Cx eX8_body_7 (by decide) h (fun h => ?_) (fun h => ?_)
  · refine gx_aload_n Cx eX8_body_12 0 rfl ?_
    refine gfX8_373 Cx eX8_body_13 ?_
    refine gx_bipush (v := (50 : Int32)) Cx eX8_body_16 (by decide) ?_
    refine gx_icmp_ne (tgt := 24) Cx eX8_body_18 (by decide) h (fun h => ?_) (fun h => ?_)
    · refine gx_aload_n Cx eX8_body_24 0 rfl ?_
      refine gfX8_110 Cx eX8_body_25 ?_
      refine gx_aload_n Cx eX8_body_28 0 rfl ?_
      refine gfX8_373 Cx eX8_body_29 ?_
      refine gx_iload_n Cx eX8_body_32 1 rfl ?_
      refine gx_iast Cx gx_y90 eX8_body_33 h (fun M3 h => ?_)
      refine gx_aload_n Cx eX8_body_34 0 rfl ?_
      refine gx_dup Cx eX8_body_35 rfl ?_
      refine gfX8_373 Cx eX8_body_36 ?_
      refine gx_iconst (v := (1 : Int32)) Cx eX8_body_39 (by decide) ?_
      refine gx_iadd Cx eX8_body_40 ?_
      refine pfX8_373 Cx eX8_body_41 h (fun M4 h => ?_)
      refine gx_aload_n Cx eX8_body_44 0 rfl ?_
      refine gfX8_373 Cx eX8_body_45 ?_
      refine gx_iconst (v := (1 : Int32)) Cx eX8_body_48 (by decide) ?_
      refine gx_isub Cx eX8_body_49 ?_
      exact gx_rI h rfl eX8_body_50 hR
    · refine gx_bipush (v := (-3 : Int32)) Cx eX8_body_21 (by decide) ?_
      exact gx_rI h rfl eX8_body_23 hR
  · refine gx_iconst (v := (-1 : Int32)) Cx eX8_body_10 (by decide) ?_
    exact gx_rI h rfl eX8_body_11 hR
set_option maxHeartbeats 4000000 in
set_option maxRecDepth 100000 in
theorem c_X8_look (κ : gx_K)  {M : gx_Mem} {r9 : Int32} (hf : f_X8_look M = some r9) : gx_CI κ yX8_look cX8_look 1 (some .int) 0 [.ref (gx_a κ 57)] M r9 M := by
  refine gx_enterI (d := 0) my_X8_look.1 (by decide) (Nat.le_of_ble_eq_true rfl) (fun Γ Cx hR => ?_)
  change gx_G κ Γ 0 [(0, .ref (gx_a κ 57))] [] M
  have h := hf
  refine gx_aload_n Cx eX8_look_0 0 rfl ?_
  refine gfX8_190 Cx eX8_look_1 ?_
  refine gx_aload_n Cx eX8_look_4 0 rfl ?_
  refine gfX8_187 Cx eX8_look_5 ?_
  refine gx_icmp_ge (tgt := 23) Cx eX8_look_8 (by decide) h (fun h => ?_) (fun h => ?_)
  · refine gx_iconst (v := (-1 : Int32)) Cx eX8_look_23 (by decide) ?_
    exact gx_rIp h rfl eX8_look_24 hR
  · refine gx_aload_n Cx eX8_look_11 0 rfl ?_
    refine gfX8_42 Cx eX8_look_12 ?_
    refine gx_aload_n Cx eX8_look_15 0 rfl ?_
    refine gfX8_190 Cx eX8_look_16 ?_
    refine gx_bald Cx gx_y68 eX8_look_19 h (fun h => ?_)
    refine gx_goto (tgt := 24) Cx eX8_look_20 (by decide) ?_
    exact gx_rIp h rfl eX8_look_24 hR
set_option maxHeartbeats 4000000 in
set_option maxRecDepth 100000 in
theorem c_X8_wrong (κ : gx_K)  {M : gx_Mem} {M9 : gx_Mem} (hf : f_X8_wrong M = some M9) : gx_CV κ yX8_wrong cX8_wrong 1 none 0 [.ref (gx_a κ 57)] M M9 := by
  refine gx_enterV (d := 0) my_X8_wrong.1 (by decide) (Nat.le_of_ble_eq_true rfl) (fun Γ Cx hR => ?_)
  change gx_G κ Γ 0 [(0, .ref (gx_a κ 57))] [] M
  have h := hf
  refine gx_aload_n Cx eX8_wrong_0 0 rfl ?_
  refine gfX8_193 Cx eX8_wrong_1 ?_
  refine gx_if_ge (tgt := 15) Cx eX8_wrong_4 (by decide) h (fun h => ?_) (fun h => ?_)
  · exact gx_rV h eX8_wrong_15 hR
  · refine gx_aload_n Cx eX8_wrong_7 0 rfl ?_
    refine gx_aload_n Cx eX8_wrong_8 0 rfl ?_
    refine gfX8_190 Cx eX8_wrong_9 ?_
    refine pfX8_193 Cx eX8_wrong_12 h (fun M1 h => ?_)
    exact gx_rV h eX8_wrong_15 hR
set_option maxHeartbeats 4000000 in
set_option maxRecDepth 100000 in
theorem c_X8_figure (κ : gx_K)  {M : gx_Mem} {M9 : gx_Mem} (hf : f_X8_figure M = some M9) : gx_CV κ yX8_figure cX8_figure 3 none 1 [.ref (gx_a κ 57)] M M9 := by
  refine gx_enterV (d := 1) my_X8_figure.1 (by decide) (Nat.le_of_ble_eq_true rfl) (fun Γ Cx hR => ?_)
  change gx_G κ Γ 0 [(0, .ref (gx_a κ 57))] [] M
  have B74 : ∀ (v1 : Int32) (M : gx_Mem), f_X8_figure_b74 v1 M = some M9 → gx_G κ Γ 74 [(0, .ref (gx_a κ 57)), (1, .int v1)] [] M := by
    intro v1 M h
    refine gx_aload_n Cx eX8_figure_74 0 rfl ?_
    refine gx_iconst (v := (1 : Int32)) Cx eX8_figure_75 (by decide) ?_
    refine gx_iload_n Cx eX8_figure_76 1 rfl ?_
    obtain ⟨M15, h14, h⟩ := gx_bP_of h
    refine gx_callVV (ci := 8) Cx my_X8_addStep wlX8_209 rfl gx_y57 (by decide) rfl eX8_figure_77 (c_X8_addStep κ h14) rfl (Nat.le_of_ble_eq_true rfl) ?_
    exact gx_rV h eX8_figure_80 hR
  have B70 : ∀ (v1 : Int32) (M : gx_Mem), f_X8_figure_b70 v1 M = some M9 → gx_G κ Γ 70 [(0, .ref (gx_a κ 57)), (1, .int v1)] [] M := by
    intro v1 M h
    refine gx_aload_n Cx eX8_figure_70 0 rfl ?_
    obtain ⟨M17, h16, h⟩ := gx_bP_of h
    refine gx_callVV (ci := 8) Cx my_X8_wrong wlX8_202 rfl gx_y57 (by decide) rfl eX8_figure_71 (c_X8_wrong κ h16) rfl (Nat.le_of_ble_eq_true rfl) ?_
    exact B74 _ _ h
  have B52 : ∀ (v1 : Int32) (v2 : Int32) (M : gx_Mem), f_X8_figure_b52 v1 v2 M = some M9 → gx_G κ Γ 52 [(0, .ref (gx_a κ 57)), (1, .int v1), (2, .int v2)] [] M := by
    intro v1 v2 M h
    refine gx_iload_n Cx eX8_figure_52 2 rfl ?_
    refine gx_if_eq (tgt := 70) Cx eX8_figure_53 (by decide) h (fun h => ?_) (fun h => ?_)
    · refine gx_sub [0, 1] rfl ?_
      exact B70 _ _ h
    · refine gx_aload_n Cx eX8_figure_56 0 rfl ?_
      obtain ⟨y11, h10, h⟩ := gx_bP_of h
      refine gx_callVI (ci := 8) Cx my_X8_look wlX8_205 rfl gx_y57 (by decide) rfl eX8_figure_57 (c_X8_look κ h10) rfl (Nat.le_of_ble_eq_true rfl) ?_
      refine gx_bipush (v := (48 : Int32)) Cx eX8_figure_60 (by decide) ?_
      refine gx_bipush (v := (57 : Int32)) Cx eX8_figure_62 (by decide) ?_
      obtain ⟨y13, h12, h⟩ := gx_bP_of h
      refine gx_callSI Cx my_X8_in wlX8_136 (by decide) rfl eX8_figure_64 (c_X8_in κ h12) rfl (Nat.le_of_ble_eq_true rfl) ?_
      refine gx_if_eq (tgt := 74) Cx eX8_figure_67 (by decide) h (fun h => ?_) (fun h => ?_)
      · refine gx_sub [0, 1] rfl ?_
        exact B74 _ _ h
      · refine gx_sub [0, 1] rfl ?_
        exact B70 _ _ h
  have K4 : ∀  (ag4 : Int32 → Int32 → gx_Mem → Option gx_Mem) (hag4 : ∀ (v1 : Int32) (v2 : Int32) (M : gx_Mem), ag4 v1 v2 M = some M9 → gx_G κ Γ 4 [(0, .ref (gx_a κ 57)), (1, .int v1), (2, .int v2)] [] M) (v1 : Int32) (v2 : Int32) (M : gx_Mem), f_X8_figure_k4 ag4 v1 v2 M = some M9 → gx_G κ Γ 4 [(0, .ref (gx_a κ 57)), (1, .int v1), (2, .int v2)] [] M := by
    intro ag4 hag4
    intro v1 v2 M h
    refine gx_iload_n Cx eX8_figure_4 2 rfl ?_
    refine gx_iconst (v := (4 : Int32)) Cx eX8_figure_5 (by decide) ?_
    refine gx_icmp_ge (tgt := 52) Cx eX8_figure_6 (by decide) h (fun h => ?_) (fun h => ?_)
    · exact B52 _ _ _ h
    · refine gx_aload_n Cx eX8_figure_9 0 rfl ?_
      obtain ⟨y2, h1, h⟩ := gx_bP_of h
      refine gx_callVI (ci := 8) Cx my_X8_look wlX8_205 rfl gx_y57 (by decide) rfl eX8_figure_10 (c_X8_look κ h1) rfl (Nat.le_of_ble_eq_true rfl) ?_
      refine gx_bipush (v := (48 : Int32)) Cx eX8_figure_13 (by decide) ?_
      refine gx_bipush (v := (57 : Int32)) Cx eX8_figure_15 (by decide) ?_
      obtain ⟨y4, h3, h⟩ := gx_bP_of h
      refine gx_callSI Cx my_X8_in wlX8_136 (by decide) rfl eX8_figure_17 (c_X8_in κ h3) rfl (Nat.le_of_ble_eq_true rfl) ?_
      refine gx_if_eq (tgt := 52) Cx eX8_figure_20 (by decide) h (fun h => ?_) (fun h => ?_)
      · exact B52 _ _ _ h
      · refine gx_bipush (v := (10 : Int32)) Cx eX8_figure_23 (by decide) ?_
        refine gx_iload_n Cx eX8_figure_25 1 rfl ?_
        refine gx_imul Cx eX8_figure_26 ?_
        refine gx_aload_n Cx eX8_figure_27 0 rfl ?_
        obtain ⟨y6, h5, h⟩ := gx_bP_of h
        refine gx_callVI (ci := 8) Cx my_X8_look wlX8_205 rfl gx_y57 (by decide) rfl eX8_figure_28 (c_X8_look κ h5) rfl (Nat.le_of_ble_eq_true rfl) ?_
        refine gx_iadd Cx eX8_figure_31 ?_
        refine gx_bipush (v := (48 : Int32)) Cx eX8_figure_32 (by decide) ?_
        refine gx_isub Cx eX8_figure_34 ?_
        refine gx_nmI h (fun x7 h => ?_)
        refine gx_istore_n Cx eX8_figure_35 [(1, .int x7), (0, .ref (gx_a κ 57)), (2, .int v2)] rfl (by decide) ?_
        refine gx_iinc (v := (1 : Int32)) (i := 2) (j := 2) Cx eX8_figure_36 (by decide) h 2 rfl (fun w => [(2, .int w), (1, .int x7), (0, .ref (gx_a κ 57))]) (fun _ => rfl) (by decide) (fun x8 h => ?_)
        refine gx_aload_n Cx eX8_figure_39 2 rfl ?_
        refine gx_dup Cx eX8_figure_40 rfl ?_
        refine gfX8_190 Cx eX8_figure_41 ?_
        refine gx_iconst (v := (1 : Int32)) Cx eX8_figure_44 (by decide) ?_
        refine gx_iadd Cx eX8_figure_45 ?_
        refine pfX8_190 Cx eX8_figure_46 h (fun M9 h => ?_)
        refine gx_goto (tgt := 4) Cx eX8_figure_49 (by decide) ?_
        refine gx_sub [2, 1, 0] rfl ?_
        exact hag4 _ _ _ h
  have L4 : ∀  (n : Nat) (v1 : Int32) (v2 : Int32) (M : gx_Mem), f_X8_figure_l4 n v1 v2 M = some M9 → gx_G κ Γ 4 [(0, .ref (gx_a κ 57)), (1, .int v1), (2, .int v2)] [] M := by
    intro n
    induction n with
    | zero => intro v1 v2 M h; exact gx_loop_0 h
    | succ n ih => intro v1 v2 M h; exact K4 (fun v1 v2 M => f_X8_figure_l4 n v1 v2 M) ih v1 v2 M h
  have h := hf
  refine gx_iconst (v := (0 : Int32)) Cx eX8_figure_0 (by decide) ?_
  refine gx_istore_n Cx eX8_figure_1 [(1, .int (0 : Int32)), (0, .ref (gx_a κ 57))] rfl (by decide) ?_
  refine gx_iconst (v := (0 : Int32)) Cx eX8_figure_2 (by decide) ?_
  refine gx_istore_n Cx eX8_figure_3 [(2, .int (0 : Int32)), (1, .int (0 : Int32)), (0, .ref (gx_a κ 57))] rfl (by decide) ?_
  refine gx_sub [2, 1, 0] rfl ?_
  exact L4 _ _ _ _ h
set_option maxHeartbeats 4000000 in
set_option maxRecDepth 100000 in
theorem c_X8_nameOf (κ : gx_K) {v0 : Int32} {M : gx_Mem} {r9 : Int32} (hf : f_X8_nameOf v0 M = some r9) : gx_CI κ yX8_nameOf cX8_nameOf 1 (some .int) 0 [.int v0] M r9 M := by
  refine gx_enterI (d := 0) my_X8_nameOf.1 (by decide) (Nat.le_of_ble_eq_true rfl) (fun Γ Cx hR => ?_)
  change gx_G κ Γ 0 [(0, .int v0)] [] M
  have h := hf
  refine gx_iload_n Cx eX8_nameOf_0 0 rfl ?_
  refine gx_case (97 : Int32) h (fun h => ?_) (fun n97 h => ?_)
  · refine gx_lsw (tgt := 60) (off := 59) Cx eX8_nameOf_1 (by decide) (by decide) (by decide) ?_
    refine gx_iconst (v := (0 : Int32)) Cx eX8_nameOf_60 (by decide) ?_
    exact gx_rIp h rfl eX8_nameOf_61 hR
  refine gx_case (102 : Int32) h (fun h => ?_) (fun n102 h => ?_)
  · refine gx_lsw (tgt := 66) (off := 65) Cx eX8_nameOf_1 (by decide) (by decide) (by decide) ?_
    refine gx_iconst (v := (3 : Int32)) Cx eX8_nameOf_66 (by decide) ?_
    exact gx_rIp h rfl eX8_nameOf_67 hR
  refine gx_case (105 : Int32) h (fun h => ?_) (fun n105 h => ?_)
  · refine gx_lsw (tgt := 64) (off := 63) Cx eX8_nameOf_1 (by decide) (by decide) (by decide) ?_
    refine gx_iconst (v := (2 : Int32)) Cx eX8_nameOf_64 (by decide) ?_
    exact gx_rIp h rfl eX8_nameOf_65 hR
  refine gx_case (109 : Int32) h (fun h => ?_) (fun n109 h => ?_)
  · refine gx_lsw (tgt := 68) (off := 67) Cx eX8_nameOf_1 (by decide) (by decide) (by decide) ?_
    refine gx_iconst (v := (4 : Int32)) Cx eX8_nameOf_68 (by decide) ?_
    exact gx_rIp h rfl eX8_nameOf_69 hR
  refine gx_case (110 : Int32) h (fun h => ?_) (fun n110 h => ?_)
  · refine gx_lsw (tgt := 70) (off := 69) Cx eX8_nameOf_1 (by decide) (by decide) (by decide) ?_
    refine gx_iconst (v := (5 : Int32)) Cx eX8_nameOf_70 (by decide) ?_
    exact gx_rIp h rfl eX8_nameOf_71 hR
  refine gx_case (119 : Int32) h (fun h => ?_) (fun n119 h => ?_)
  · refine gx_lsw (tgt := 62) (off := 61) Cx eX8_nameOf_1 (by decide) (by decide) (by decide) ?_
    refine gx_iconst (v := (1 : Int32)) Cx eX8_nameOf_62 (by decide) ?_
    exact gx_rIp h rfl eX8_nameOf_63 hR
  refine gx_lsw (tgt := 72) (off := 71) Cx eX8_nameOf_1 (by decide) (gx_lsw_none (List.forall_mem_cons.mpr ⟨gx_neT (k := 97) n97 (by decide), List.forall_mem_cons.mpr ⟨gx_neT (k := 102) n102 (by decide), List.forall_mem_cons.mpr ⟨gx_neT (k := 105) n105 (by decide), List.forall_mem_cons.mpr ⟨gx_neT (k := 109) n109 (by decide), List.forall_mem_cons.mpr ⟨gx_neT (k := 110) n110 (by decide), List.forall_mem_cons.mpr ⟨gx_neT (k := 119) n119 (by decide), fun _ h => absurd h List.not_mem_nil⟩⟩⟩⟩⟩⟩)) (by decide) ?_
  refine gx_iconst (v := (-1 : Int32)) Cx eX8_nameOf_72 (by decide) ?_
  exact gx_rIp h rfl eX8_nameOf_73 hR
set_option maxHeartbeats 4000000 in
set_option maxRecDepth 100000 in
theorem c_X8_opens (κ : gx_K)  {M : gx_Mem} {r9 : Int32} {M9 : gx_Mem} (hf : f_X8_opens M = some (r9, M9)) : gx_CI κ yX8_opens cX8_opens 1 (some .boolean) 1 [.ref (gx_a κ 57)] M r9 M9 := by
  refine gx_enterI (d := 1) my_X8_opens.1 (by decide) (Nat.le_of_ble_eq_true rfl) (fun Γ Cx hR => ?_)
  change gx_G κ Γ 0 [(0, .ref (gx_a κ 57))] [] M
  have h := hf
  refine gx_aload_n Cx eX8_opens_0 0 rfl ?_
  refine gfX8_199 Cx eX8_opens_1 ?_
  refine gx_bipush (v := (6 : Int32)) Cx eX8_opens_4 (by decide) ?_
  refine gx_icmp_ne (tgt := 15) Cx eX8_opens_6 (by decide) h (fun h => ?_) (fun h => ?_)
  · refine gx_aload_n Cx eX8_opens_15 0 rfl ?_
    refine gx_dup Cx eX8_opens_16 rfl ?_
    refine gfX8_199 Cx eX8_opens_17 ?_
    refine gx_iconst (v := (1 : Int32)) Cx eX8_opens_20 (by decide) ?_
    refine gx_iadd Cx eX8_opens_21 ?_
    refine pfX8_199 Cx eX8_opens_22 h (fun M1 h => ?_)
    refine gx_aload_n Cx eX8_opens_25 0 rfl ?_
    refine gx_dup Cx eX8_opens_26 rfl ?_
    refine gfX8_190 Cx eX8_opens_27 ?_
    refine gx_iconst (v := (1 : Int32)) Cx eX8_opens_30 (by decide) ?_
    refine gx_iadd Cx eX8_opens_31 ?_
    refine pfX8_190 Cx eX8_opens_32 h (fun M2 h => ?_)
    refine gx_iconst (v := (1 : Int32)) Cx eX8_opens_35 (by decide) ?_
    exact gx_rI h (by decide) eX8_opens_36 hR
  · refine gx_aload_n Cx eX8_opens_9 0 rfl ?_
    obtain ⟨M4, h3, h⟩ := gx_bP_of h
    refine gx_callVV (ci := 8) Cx my_X8_wrong wlX8_202 rfl gx_y57 (by decide) rfl eX8_opens_10 (c_X8_wrong κ h3) rfl (Nat.le_of_ble_eq_true rfl) ?_
    refine gx_iconst (v := (0 : Int32)) Cx eX8_opens_13 (by decide) ?_
    exact gx_rI h (by decide) eX8_opens_14 hR
set_option maxHeartbeats 4000000 in
set_option maxRecDepth 100000 in
theorem c_X8_both_o (κ : gx_K) (dd : Nat) (q_both : gx_Mem → Option gx_Mem) (q_compared : gx_Mem → Option gx_Mem) (q_either : gx_Mem → Option gx_Mem) (q_operand : gx_Mem → Option gx_Mem) (q_product : gx_Mem → Option gx_Mem) (q_sum : gx_Mem → Option gx_Mem) (hq_both : ∀  {M : gx_Mem} {M9 : gx_Mem}, q_both M = some M9 → gx_CV κ yX8_both cX8_both 1 none (2 + dd) [.ref (gx_a κ 57)] M M9) (hq_compared : ∀  {M : gx_Mem} {M9 : gx_Mem}, q_compared M = some M9 → gx_CV κ yX8_compared cX8_compared 2 none (2 + dd) [.ref (gx_a κ 57)] M M9) (hq_either : ∀  {M : gx_Mem} {M9 : gx_Mem}, q_either M = some M9 → gx_CV κ yX8_either cX8_either 1 none (2 + dd) [.ref (gx_a κ 57)] M M9) (hq_operand : ∀  {M : gx_Mem} {M9 : gx_Mem}, q_operand M = some M9 → gx_CV κ yX8_operand cX8_operand 2 none (2 + dd) [.ref (gx_a κ 57)] M M9) (hq_product : ∀  {M : gx_Mem} {M9 : gx_Mem}, q_product M = some M9 → gx_CV κ yX8_product cX8_product 2 none (2 + dd) [.ref (gx_a κ 57)] M M9) (hq_sum : ∀  {M : gx_Mem} {M9 : gx_Mem}, q_sum M = some M9 → gx_CV κ yX8_sum cX8_sum 2 none (2 + dd) [.ref (gx_a κ 57)] M M9)  {M : gx_Mem} {M9 : gx_Mem} (hf : f_X8_both_o q_both q_compared q_either q_operand q_product q_sum M = some M9) : gx_CV κ yX8_both cX8_both 1 none (2 + dd + 1) [.ref (gx_a κ 57)] M M9 := by
  refine gx_enterV (d := 2 + dd + 1) my_X8_both.1 (by decide) (Nat.le_of_ble_eq_true rfl) (fun Γ Cx hR => ?_)
  change gx_G κ Γ 0 [(0, .ref (gx_a κ 57))] [] M
  have K4 : ∀  (ag4 : gx_Mem → Option gx_Mem) (hag4 : ∀  (M : gx_Mem), ag4 M = some M9 → gx_G κ Γ 4 [(0, .ref (gx_a κ 57))] [] M)  (M : gx_Mem), f_X8_both_k4 q_both q_compared q_either q_operand q_product q_sum ag4 M = some M9 → gx_G κ Γ 4 [(0, .ref (gx_a κ 57))] [] M := by
    intro ag4 hag4
    intro M h
    refine gx_aload_n Cx eX8_both_4 0 rfl ?_
    refine gfX8_193 Cx eX8_both_5 ?_
    refine gx_if_ge (tgt := 44) Cx eX8_both_8 (by decide) h (fun h => ?_) (fun h => ?_)
    · exact gx_rV h eX8_both_44 hR
    · refine gx_aload_n Cx eX8_both_11 0 rfl ?_
      obtain ⟨y4, h3, h⟩ := gx_bP_of h
      refine gx_callVI (ci := 8) Cx my_X8_look wlX8_205 rfl gx_y57 (by omega) rfl eX8_both_12 (c_X8_look κ h3) rfl (Nat.le_of_ble_eq_true rfl) ?_
      refine gx_bipush (v := (38 : Int32)) Cx eX8_both_15 (by decide) ?_
      refine gx_icmp_ne (tgt := 44) Cx eX8_both_17 (by decide) h (fun h => ?_) (fun h => ?_)
      · exact gx_rV h eX8_both_44 hR
      · refine gx_aload_n Cx eX8_both_20 0 rfl ?_
        refine gx_dup Cx eX8_both_21 rfl ?_
        refine gfX8_190 Cx eX8_both_22 ?_
        refine gx_iconst (v := (1 : Int32)) Cx eX8_both_25 (by decide) ?_
        refine gx_iadd Cx eX8_both_26 ?_
        refine pfX8_190 Cx eX8_both_27 h (fun M5 h => ?_)
        refine gx_aload_n Cx eX8_both_30 0 rfl ?_
        obtain ⟨M7, h6, h⟩ := gx_bP_of h
        refine gx_callVV (ci := 8) Cx my_X8_compared wlX8_236 rfl gx_y57 (Nat.le_refl _) rfl eX8_both_31 (hq_compared h6) rfl (Nat.le_of_ble_eq_true rfl) ?_
        refine gx_aload_n Cx eX8_both_34 0 rfl ?_
        refine gx_bipush (v := (38 : Int32)) Cx eX8_both_35 (by decide) ?_
        refine gx_iconst (v := (0 : Int32)) Cx eX8_both_37 (by decide) ?_
        obtain ⟨M9, h8, h⟩ := gx_bP_of h
        refine gx_callVV (ci := 8) Cx my_X8_addStep wlX8_209 rfl gx_y57 (by omega) rfl eX8_both_38 (c_X8_addStep κ h8) rfl (Nat.le_of_ble_eq_true rfl) ?_
        refine gx_goto (tgt := 4) Cx eX8_both_41 (by decide) ?_
        exact hag4 _ h
  have L4 : ∀  (n : Nat)  (M : gx_Mem), f_X8_both_l4 q_both q_compared q_either q_operand q_product q_sum n M = some M9 → gx_G κ Γ 4 [(0, .ref (gx_a κ 57))] [] M := by
    intro n
    induction n with
    | zero => intro M h; exact gx_loop_0 h
    | succ n ih => intro M h; exact K4 (fun M => f_X8_both_l4 q_both q_compared q_either q_operand q_product q_sum n M) ih M h
  have h := hf
  refine gx_aload_n Cx eX8_both_0 0 rfl ?_
  obtain ⟨M2, h1, h⟩ := gx_bP_of h
  refine gx_callVV (ci := 8) Cx my_X8_compared wlX8_236 rfl gx_y57 (Nat.le_refl _) rfl eX8_both_1 (hq_compared h1) rfl (Nat.le_of_ble_eq_true rfl) ?_
  exact L4 _ _ h
set_option maxHeartbeats 4000000 in
set_option maxRecDepth 100000 in
theorem c_X8_compared_o (κ : gx_K) (dd : Nat) (q_both : gx_Mem → Option gx_Mem) (q_compared : gx_Mem → Option gx_Mem) (q_either : gx_Mem → Option gx_Mem) (q_operand : gx_Mem → Option gx_Mem) (q_product : gx_Mem → Option gx_Mem) (q_sum : gx_Mem → Option gx_Mem) (hq_both : ∀  {M : gx_Mem} {M9 : gx_Mem}, q_both M = some M9 → gx_CV κ yX8_both cX8_both 1 none (2 + dd) [.ref (gx_a κ 57)] M M9) (hq_compared : ∀  {M : gx_Mem} {M9 : gx_Mem}, q_compared M = some M9 → gx_CV κ yX8_compared cX8_compared 2 none (2 + dd) [.ref (gx_a κ 57)] M M9) (hq_either : ∀  {M : gx_Mem} {M9 : gx_Mem}, q_either M = some M9 → gx_CV κ yX8_either cX8_either 1 none (2 + dd) [.ref (gx_a κ 57)] M M9) (hq_operand : ∀  {M : gx_Mem} {M9 : gx_Mem}, q_operand M = some M9 → gx_CV κ yX8_operand cX8_operand 2 none (2 + dd) [.ref (gx_a κ 57)] M M9) (hq_product : ∀  {M : gx_Mem} {M9 : gx_Mem}, q_product M = some M9 → gx_CV κ yX8_product cX8_product 2 none (2 + dd) [.ref (gx_a κ 57)] M M9) (hq_sum : ∀  {M : gx_Mem} {M9 : gx_Mem}, q_sum M = some M9 → gx_CV κ yX8_sum cX8_sum 2 none (2 + dd) [.ref (gx_a κ 57)] M M9)  {M : gx_Mem} {M9 : gx_Mem} (hf : f_X8_compared_o q_both q_compared q_either q_operand q_product q_sum M = some M9) : gx_CV κ yX8_compared cX8_compared 2 none (2 + dd + 1) [.ref (gx_a κ 57)] M M9 := by
  refine gx_enterV (d := 2 + dd + 1) my_X8_compared.1 (by decide) (Nat.le_of_ble_eq_true rfl) (fun Γ Cx hR => ?_)
  change gx_G κ Γ 0 [(0, .ref (gx_a κ 57))] [] M
  have B35 : ∀ (v1 : Int32) (M : gx_Mem), f_X8_compared_b35 q_both q_compared q_either q_operand q_product q_sum v1 M = some M9 → gx_G κ Γ 35 [(0, .ref (gx_a κ 57)), (1, .int v1)] [] M := by
    intro v1 M h
    refine gx_aload_n Cx eX8_compared_35 0 rfl ?_
    refine gx_dup Cx eX8_compared_36 rfl ?_
    refine gfX8_190 Cx eX8_compared_37 ?_
    refine gx_iconst (v := (1 : Int32)) Cx eX8_compared_40 (by decide) ?_
    refine gx_iadd Cx eX8_compared_41 ?_
    refine pfX8_190 Cx eX8_compared_42 h (fun M5 h => ?_)
    refine gx_aload_n Cx eX8_compared_45 0 rfl ?_
    obtain ⟨M7, h6, h⟩ := gx_bP_of h
    refine gx_callVV (ci := 8) Cx my_X8_sum wlX8_233 rfl gx_y57 (Nat.le_refl _) rfl eX8_compared_46 (hq_sum h6) rfl (Nat.le_of_ble_eq_true rfl) ?_
    refine gx_aload_n Cx eX8_compared_49 0 rfl ?_
    refine gx_iload_n Cx eX8_compared_50 1 rfl ?_
    refine gx_iconst (v := (0 : Int32)) Cx eX8_compared_51 (by decide) ?_
    obtain ⟨M9, h8, h⟩ := gx_bP_of h
    refine gx_callVV (ci := 8) Cx my_X8_addStep wlX8_209 rfl gx_y57 (by omega) rfl eX8_compared_52 (c_X8_addStep κ h8) rfl (Nat.le_of_ble_eq_true rfl) ?_
    exact gx_rV h eX8_compared_55 hR
  have h := hf
  refine gx_aload_n Cx eX8_compared_0 0 rfl ?_
  obtain ⟨M2, h1, h⟩ := gx_bP_of h
  refine gx_callVV (ci := 8) Cx my_X8_sum wlX8_233 rfl gx_y57 (Nat.le_refl _) rfl eX8_compared_1 (hq_sum h1) rfl (Nat.le_of_ble_eq_true rfl) ?_
  refine gx_aload_n Cx eX8_compared_4 0 rfl ?_
  obtain ⟨y4, h3, h⟩ := gx_bP_of h
  refine gx_callVI (ci := 8) Cx my_X8_look wlX8_205 rfl gx_y57 (by omega) rfl eX8_compared_5 (c_X8_look κ h3) rfl (Nat.le_of_ble_eq_true rfl) ?_
  refine gx_istore_n Cx eX8_compared_8 [(1, .int y4), (0, .ref (gx_a κ 57))] rfl (by decide) ?_
  refine gx_aload_n Cx eX8_compared_9 1 rfl ?_
  refine gfX8_193 Cx eX8_compared_10 ?_
  refine gx_if_ge (tgt := 34) Cx eX8_compared_13 (by decide) h (fun h => ?_) (fun h => ?_)
  · exact gx_rV h eX8_compared_34 hR
  · refine gx_iload_n Cx eX8_compared_16 0 rfl ?_
    refine gx_bipush (v := (60 : Int32)) Cx eX8_compared_17 (by decide) ?_
    refine gx_icmp_eq (tgt := 35) Cx eX8_compared_19 (by decide) h (fun h => ?_) (fun h => ?_)
    · refine gx_sub [1, 0] rfl ?_
      exact B35 _ _ h
    · refine gx_iload_n Cx eX8_compared_22 0 rfl ?_
      refine gx_bipush (v := (61 : Int32)) Cx eX8_compared_23 (by decide) ?_
      refine gx_icmp_eq (tgt := 35) Cx eX8_compared_25 (by decide) h (fun h => ?_) (fun h => ?_)
      · refine gx_sub [1, 0] rfl ?_
        exact B35 _ _ h
      · refine gx_iload_n Cx eX8_compared_28 0 rfl ?_
        refine gx_bipush (v := (62 : Int32)) Cx eX8_compared_29 (by decide) ?_
        refine gx_icmp_eq (tgt := 35) Cx eX8_compared_31 (by decide) h (fun h => ?_) (fun h => ?_)
        · refine gx_sub [1, 0] rfl ?_
          exact B35 _ _ h
        · exact gx_rV h eX8_compared_34 hR
set_option maxHeartbeats 4000000 in
set_option maxRecDepth 100000 in
theorem c_X8_either_o (κ : gx_K) (dd : Nat) (q_both : gx_Mem → Option gx_Mem) (q_compared : gx_Mem → Option gx_Mem) (q_either : gx_Mem → Option gx_Mem) (q_operand : gx_Mem → Option gx_Mem) (q_product : gx_Mem → Option gx_Mem) (q_sum : gx_Mem → Option gx_Mem) (hq_both : ∀  {M : gx_Mem} {M9 : gx_Mem}, q_both M = some M9 → gx_CV κ yX8_both cX8_both 1 none (2 + dd) [.ref (gx_a κ 57)] M M9) (hq_compared : ∀  {M : gx_Mem} {M9 : gx_Mem}, q_compared M = some M9 → gx_CV κ yX8_compared cX8_compared 2 none (2 + dd) [.ref (gx_a κ 57)] M M9) (hq_either : ∀  {M : gx_Mem} {M9 : gx_Mem}, q_either M = some M9 → gx_CV κ yX8_either cX8_either 1 none (2 + dd) [.ref (gx_a κ 57)] M M9) (hq_operand : ∀  {M : gx_Mem} {M9 : gx_Mem}, q_operand M = some M9 → gx_CV κ yX8_operand cX8_operand 2 none (2 + dd) [.ref (gx_a κ 57)] M M9) (hq_product : ∀  {M : gx_Mem} {M9 : gx_Mem}, q_product M = some M9 → gx_CV κ yX8_product cX8_product 2 none (2 + dd) [.ref (gx_a κ 57)] M M9) (hq_sum : ∀  {M : gx_Mem} {M9 : gx_Mem}, q_sum M = some M9 → gx_CV κ yX8_sum cX8_sum 2 none (2 + dd) [.ref (gx_a κ 57)] M M9)  {M : gx_Mem} {M9 : gx_Mem} (hf : f_X8_either_o q_both q_compared q_either q_operand q_product q_sum M = some M9) : gx_CV κ yX8_either cX8_either 1 none (2 + dd + 1) [.ref (gx_a κ 57)] M M9 := by
  refine gx_enterV (d := 2 + dd + 1) my_X8_either.1 (by decide) (Nat.le_of_ble_eq_true rfl) (fun Γ Cx hR => ?_)
  change gx_G κ Γ 0 [(0, .ref (gx_a κ 57))] [] M
  have K4 : ∀  (ag4 : gx_Mem → Option gx_Mem) (hag4 : ∀  (M : gx_Mem), ag4 M = some M9 → gx_G κ Γ 4 [(0, .ref (gx_a κ 57))] [] M)  (M : gx_Mem), f_X8_either_k4 q_both q_compared q_either q_operand q_product q_sum ag4 M = some M9 → gx_G κ Γ 4 [(0, .ref (gx_a κ 57))] [] M := by
    intro ag4 hag4
    intro M h
    refine gx_aload_n Cx eX8_either_4 0 rfl ?_
    refine gfX8_193 Cx eX8_either_5 ?_
    refine gx_if_ge (tgt := 44) Cx eX8_either_8 (by decide) h (fun h => ?_) (fun h => ?_)
    · exact gx_rV h eX8_either_44 hR
    · refine gx_aload_n Cx eX8_either_11 0 rfl ?_
      obtain ⟨y4, h3, h⟩ := gx_bP_of h
      refine gx_callVI (ci := 8) Cx my_X8_look wlX8_205 rfl gx_y57 (by omega) rfl eX8_either_12 (c_X8_look κ h3) rfl (Nat.le_of_ble_eq_true rfl) ?_
      refine gx_bipush (v := (124 : Int32)) Cx eX8_either_15 (by decide) ?_
      refine gx_icmp_ne (tgt := 44) Cx eX8_either_17 (by decide) h (fun h => ?_) (fun h => ?_)
      · exact gx_rV h eX8_either_44 hR
      · refine gx_aload_n Cx eX8_either_20 0 rfl ?_
        refine gx_dup Cx eX8_either_21 rfl ?_
        refine gfX8_190 Cx eX8_either_22 ?_
        refine gx_iconst (v := (1 : Int32)) Cx eX8_either_25 (by decide) ?_
        refine gx_iadd Cx eX8_either_26 ?_
        refine pfX8_190 Cx eX8_either_27 h (fun M5 h => ?_)
        refine gx_aload_n Cx eX8_either_30 0 rfl ?_
        obtain ⟨M7, h6, h⟩ := gx_bP_of h
        refine gx_callVV (ci := 8) Cx my_X8_both wlX8_239 rfl gx_y57 (Nat.le_refl _) rfl eX8_either_31 (hq_both h6) rfl (Nat.le_of_ble_eq_true rfl) ?_
        refine gx_aload_n Cx eX8_either_34 0 rfl ?_
        refine gx_bipush (v := (124 : Int32)) Cx eX8_either_35 (by decide) ?_
        refine gx_iconst (v := (0 : Int32)) Cx eX8_either_37 (by decide) ?_
        obtain ⟨M9, h8, h⟩ := gx_bP_of h
        refine gx_callVV (ci := 8) Cx my_X8_addStep wlX8_209 rfl gx_y57 (by omega) rfl eX8_either_38 (c_X8_addStep κ h8) rfl (Nat.le_of_ble_eq_true rfl) ?_
        refine gx_goto (tgt := 4) Cx eX8_either_41 (by decide) ?_
        exact hag4 _ h
  have L4 : ∀  (n : Nat)  (M : gx_Mem), f_X8_either_l4 q_both q_compared q_either q_operand q_product q_sum n M = some M9 → gx_G κ Γ 4 [(0, .ref (gx_a κ 57))] [] M := by
    intro n
    induction n with
    | zero => intro M h; exact gx_loop_0 h
    | succ n ih => intro M h; exact K4 (fun M => f_X8_either_l4 q_both q_compared q_either q_operand q_product q_sum n M) ih M h
  have h := hf
  refine gx_aload_n Cx eX8_either_0 0 rfl ?_
  obtain ⟨M2, h1, h⟩ := gx_bP_of h
  refine gx_callVV (ci := 8) Cx my_X8_both wlX8_239 rfl gx_y57 (Nat.le_refl _) rfl eX8_either_1 (hq_both h1) rfl (Nat.le_of_ble_eq_true rfl) ?_
  exact L4 _ _ h
set_option maxHeartbeats 4000000 in
set_option maxRecDepth 100000 in
theorem c_X8_operand_o (κ : gx_K) (dd : Nat) (q_both : gx_Mem → Option gx_Mem) (q_compared : gx_Mem → Option gx_Mem) (q_either : gx_Mem → Option gx_Mem) (q_operand : gx_Mem → Option gx_Mem) (q_product : gx_Mem → Option gx_Mem) (q_sum : gx_Mem → Option gx_Mem) (hq_both : ∀  {M : gx_Mem} {M9 : gx_Mem}, q_both M = some M9 → gx_CV κ yX8_both cX8_both 1 none (2 + dd) [.ref (gx_a κ 57)] M M9) (hq_compared : ∀  {M : gx_Mem} {M9 : gx_Mem}, q_compared M = some M9 → gx_CV κ yX8_compared cX8_compared 2 none (2 + dd) [.ref (gx_a κ 57)] M M9) (hq_either : ∀  {M : gx_Mem} {M9 : gx_Mem}, q_either M = some M9 → gx_CV κ yX8_either cX8_either 1 none (2 + dd) [.ref (gx_a κ 57)] M M9) (hq_operand : ∀  {M : gx_Mem} {M9 : gx_Mem}, q_operand M = some M9 → gx_CV κ yX8_operand cX8_operand 2 none (2 + dd) [.ref (gx_a κ 57)] M M9) (hq_product : ∀  {M : gx_Mem} {M9 : gx_Mem}, q_product M = some M9 → gx_CV κ yX8_product cX8_product 2 none (2 + dd) [.ref (gx_a κ 57)] M M9) (hq_sum : ∀  {M : gx_Mem} {M9 : gx_Mem}, q_sum M = some M9 → gx_CV κ yX8_sum cX8_sum 2 none (2 + dd) [.ref (gx_a κ 57)] M M9)  {M : gx_Mem} {M9 : gx_Mem} (hf : f_X8_operand_o q_both q_compared q_either q_operand q_product q_sum M = some M9) : gx_CV κ yX8_operand cX8_operand 2 none (2 + dd + 1) [.ref (gx_a κ 57)] M M9 := by
  refine gx_enterV (d := 2 + dd + 1) my_X8_operand.1 (by decide) (Nat.le_of_ble_eq_true rfl) (fun Γ Cx hR => ?_)
  change gx_G κ Γ 0 [(0, .ref (gx_a κ 57))] [] M
  have B80 : ∀ (s1 : Int32) (M : gx_Mem), f_X8_operand_b80 q_both q_compared q_either q_operand q_product q_sum s1 M = some M9 → gx_G κ Γ 80 [] [.int s1, .ref (gx_a κ 57)] M := by
    intro s1 M h
    refine gx_iconst (v := (0 : Int32)) Cx eX8_operand_80 (by decide) ?_
    obtain ⟨M30, h29, h⟩ := gx_bP_of h
    refine gx_callVV (ci := 8) Cx my_X8_addStep wlX8_209 rfl gx_y57 (by omega) rfl eX8_operand_81 (c_X8_addStep κ h29) rfl (Nat.le_of_ble_eq_true rfl) ?_
    refine gx_goto (tgt := 154) Cx eX8_operand_84 (by decide) ?_
    exact gx_rV h eX8_operand_154 hR
  have B46 : ∀ (v1 : Int32) (M : gx_Mem), f_X8_operand_b46 q_both q_compared q_either q_operand q_product q_sum v1 M = some M9 → gx_G κ Γ 46 [(0, .ref (gx_a κ 57)), (1, .int v1)] [] M := by
    intro v1 M h
    refine gx_aload_n Cx eX8_operand_46 0 rfl ?_
    obtain ⟨y24, M25, h23, h⟩ := gx_bI_of h
    refine gx_callVI (ci := 8) Cx my_X8_opens wlX8_217 rfl gx_y57 (by omega) rfl eX8_operand_47 (c_X8_opens κ h23) rfl (Nat.le_of_ble_eq_true rfl) ?_
    refine gx_if_ne (tgt := 54) Cx eX8_operand_50 (by decide) h (fun h => ?_) (fun h => ?_)
    · refine gx_aload_n Cx eX8_operand_54 0 rfl ?_
      obtain ⟨M27, h26, h⟩ := gx_bP_of h
      refine gx_callVV (ci := 8) Cx my_X8_operand wlX8_221 rfl gx_y57 (Nat.le_refl _) rfl eX8_operand_55 (hq_operand h26) rfl (Nat.le_of_ble_eq_true rfl) ?_
      refine gx_aload_n Cx eX8_operand_58 0 rfl ?_
      refine gx_dup Cx eX8_operand_59 rfl ?_
      refine gfX8_199 Cx eX8_operand_60 ?_
      refine gx_iconst (v := (1 : Int32)) Cx eX8_operand_63 (by decide) ?_
      refine gx_isub Cx eX8_operand_64 ?_
      refine pfX8_199 Cx eX8_operand_65 h (fun M28 h => ?_)
      refine gx_aload_n Cx eX8_operand_68 0 rfl ?_
      refine gx_iload_n Cx eX8_operand_69 1 rfl ?_
      refine gx_bipush (v := (33 : Int32)) Cx eX8_operand_70 (by decide) ?_
      refine gx_icmp_ne (tgt := 79) Cx eX8_operand_72 (by decide) h (fun h => ?_) (fun h => ?_)
      · refine gx_iconst (v := (4 : Int32)) Cx eX8_operand_79 (by decide) ?_
        refine gx_sub [] rfl ?_
        exact B80 _ _ h
      · refine gx_iconst (v := (3 : Int32)) Cx eX8_operand_75 (by decide) ?_
        refine gx_goto (tgt := 80) Cx eX8_operand_76 (by decide) ?_
        refine gx_sub [] rfl ?_
        exact B80 _ _ h
    · exact gx_rV h eX8_operand_53 hR
  have h := hf
  refine gx_aload_n Cx eX8_operand_0 0 rfl ?_
  obtain ⟨y2, h1, h⟩ := gx_bP_of h
  refine gx_callVI (ci := 8) Cx my_X8_look wlX8_205 rfl gx_y57 (by omega) rfl eX8_operand_1 (c_X8_look κ h1) rfl (Nat.le_of_ble_eq_true rfl) ?_
  refine gx_istore_n Cx eX8_operand_4 [(1, .int y2), (0, .ref (gx_a κ 57))] rfl (by decide) ?_
  refine gx_iload_n Cx eX8_operand_5 0 rfl ?_
  obtain ⟨y4, h3, h⟩ := gx_bP_of h
  refine gx_callSI Cx my_X8_nameOf wlX8_213 (by omega) rfl eX8_operand_6 (c_X8_nameOf κ h3) rfl (Nat.le_of_ble_eq_true rfl) ?_
  refine gx_if_lt (tgt := 34) Cx eX8_operand_9 (by decide) h (fun h => ?_) (fun h => ?_)
  · refine gx_iload_n Cx eX8_operand_34 0 rfl ?_
    refine gx_bipush (v := (33 : Int32)) Cx eX8_operand_35 (by decide) ?_
    refine gx_icmp_eq (tgt := 46) Cx eX8_operand_37 (by decide) h (fun h => ?_) (fun h => ?_)
    · refine gx_sub [1, 0] rfl ?_
      exact B46 _ _ h
    · refine gx_iload_n Cx eX8_operand_40 0 rfl ?_
      refine gx_bipush (v := (45 : Int32)) Cx eX8_operand_41 (by decide) ?_
      refine gx_icmp_ne (tgt := 87) Cx eX8_operand_43 (by decide) h (fun h => ?_) (fun h => ?_)
      · refine gx_iload_n Cx eX8_operand_87 0 rfl ?_
        refine gx_bipush (v := (40 : Int32)) Cx eX8_operand_88 (by decide) ?_
        refine gx_icmp_ne (tgt := 150) Cx eX8_operand_90 (by decide) h (fun h => ?_) (fun h => ?_)
        · refine gx_aload_n Cx eX8_operand_150 1 rfl ?_
          obtain ⟨M6, h5, h⟩ := gx_bP_of h
          refine gx_callVV (ci := 8) Cx my_X8_figure wlX8_227 rfl gx_y57 (by omega) rfl eX8_operand_151 (c_X8_figure κ h5) rfl (Nat.le_of_ble_eq_true rfl) ?_
          exact gx_rV h eX8_operand_154 hR
        · refine gx_aload_n Cx eX8_operand_93 1 rfl ?_
          obtain ⟨y8, M9, h7, h⟩ := gx_bI_of h
          refine gx_callVI (ci := 8) Cx my_X8_opens wlX8_217 rfl gx_y57 (by omega) rfl eX8_operand_94 (c_X8_opens κ h7) rfl (Nat.le_of_ble_eq_true rfl) ?_
          refine gx_if_ne (tgt := 101) Cx eX8_operand_97 (by decide) h (fun h => ?_) (fun h => ?_)
          · refine gx_aload_n Cx eX8_operand_101 1 rfl ?_
            obtain ⟨M11, h10, h⟩ := gx_bP_of h
            refine gx_callVV (ci := 8) Cx my_X8_either wlX8_224 rfl gx_y57 (Nat.le_refl _) rfl eX8_operand_102 (hq_either h10) rfl (Nat.le_of_ble_eq_true rfl) ?_
            refine gx_aload_n Cx eX8_operand_105 1 rfl ?_
            refine gfX8_193 Cx eX8_operand_106 ?_
            refine gx_if_lt (tgt := 113) Cx eX8_operand_109 (by decide) h (fun h => ?_) (fun h => ?_)
            · refine gx_aload_n Cx eX8_operand_113 1 rfl ?_
              obtain ⟨y13, h12, h⟩ := gx_bP_of h
              refine gx_callVI (ci := 8) Cx my_X8_look wlX8_205 rfl gx_y57 (by omega) rfl eX8_operand_114 (c_X8_look κ h12) rfl (Nat.le_of_ble_eq_true rfl) ?_
              refine gx_bipush (v := (41 : Int32)) Cx eX8_operand_117 (by decide) ?_
              refine gx_icmp_eq (tgt := 127) Cx eX8_operand_119 (by decide) h (fun h => ?_) (fun h => ?_)
              · refine gx_aload_n Cx eX8_operand_127 1 rfl ?_
                refine gx_dup Cx eX8_operand_128 rfl ?_
                refine gfX8_190 Cx eX8_operand_129 ?_
                refine gx_iconst (v := (1 : Int32)) Cx eX8_operand_132 (by decide) ?_
                refine gx_iadd Cx eX8_operand_133 ?_
                refine pfX8_190 Cx eX8_operand_134 h (fun M14 h => ?_)
                refine gx_aload_n Cx eX8_operand_137 1 rfl ?_
                refine gx_dup Cx eX8_operand_138 rfl ?_
                refine gfX8_199 Cx eX8_operand_139 ?_
                refine gx_iconst (v := (1 : Int32)) Cx eX8_operand_142 (by decide) ?_
                refine gx_isub Cx eX8_operand_143 ?_
                refine pfX8_199 Cx eX8_operand_144 h (fun M15 h => ?_)
                refine gx_goto (tgt := 154) Cx eX8_operand_147 (by decide) ?_
                exact gx_rV h eX8_operand_154 hR
              · refine gx_aload_n Cx eX8_operand_122 1 rfl ?_
                obtain ⟨M17, h16, h⟩ := gx_bP_of h
                refine gx_callVV (ci := 8) Cx my_X8_wrong wlX8_202 rfl gx_y57 (by omega) rfl eX8_operand_123 (c_X8_wrong κ h16) rfl (Nat.le_of_ble_eq_true rfl) ?_
                exact gx_rV h eX8_operand_126 hR
            · exact gx_rV h eX8_operand_112 hR
          · exact gx_rV h eX8_operand_100 hR
      · refine gx_sub [1, 0] rfl ?_
        exact B46 _ _ h
  · refine gx_aload_n Cx eX8_operand_12 1 rfl ?_
    refine gx_iconst (v := (2 : Int32)) Cx eX8_operand_13 (by decide) ?_
    refine gx_iload_n Cx eX8_operand_14 0 rfl ?_
    obtain ⟨y19, h18, h⟩ := gx_bP_of h
    refine gx_callSI Cx my_X8_nameOf wlX8_213 (by omega) rfl eX8_operand_15 (c_X8_nameOf κ h18) rfl (Nat.le_of_ble_eq_true rfl) ?_
    obtain ⟨M21, h20, h⟩ := gx_bP_of h
    refine gx_callVV (ci := 8) Cx my_X8_addStep wlX8_209 rfl gx_y57 (by omega) rfl eX8_operand_18 (c_X8_addStep κ h20) rfl (Nat.le_of_ble_eq_true rfl) ?_
    refine gx_aload_n Cx eX8_operand_21 1 rfl ?_
    refine gx_dup Cx eX8_operand_22 rfl ?_
    refine gfX8_190 Cx eX8_operand_23 ?_
    refine gx_iconst (v := (1 : Int32)) Cx eX8_operand_26 (by decide) ?_
    refine gx_iadd Cx eX8_operand_27 ?_
    refine pfX8_190 Cx eX8_operand_28 h (fun M22 h => ?_)
    refine gx_goto (tgt := 154) Cx eX8_operand_31 (by decide) ?_
    exact gx_rV h eX8_operand_154 hR
set_option maxHeartbeats 4000000 in
set_option maxRecDepth 100000 in
theorem c_X8_product_o (κ : gx_K) (dd : Nat) (q_both : gx_Mem → Option gx_Mem) (q_compared : gx_Mem → Option gx_Mem) (q_either : gx_Mem → Option gx_Mem) (q_operand : gx_Mem → Option gx_Mem) (q_product : gx_Mem → Option gx_Mem) (q_sum : gx_Mem → Option gx_Mem) (hq_both : ∀  {M : gx_Mem} {M9 : gx_Mem}, q_both M = some M9 → gx_CV κ yX8_both cX8_both 1 none (2 + dd) [.ref (gx_a κ 57)] M M9) (hq_compared : ∀  {M : gx_Mem} {M9 : gx_Mem}, q_compared M = some M9 → gx_CV κ yX8_compared cX8_compared 2 none (2 + dd) [.ref (gx_a κ 57)] M M9) (hq_either : ∀  {M : gx_Mem} {M9 : gx_Mem}, q_either M = some M9 → gx_CV κ yX8_either cX8_either 1 none (2 + dd) [.ref (gx_a κ 57)] M M9) (hq_operand : ∀  {M : gx_Mem} {M9 : gx_Mem}, q_operand M = some M9 → gx_CV κ yX8_operand cX8_operand 2 none (2 + dd) [.ref (gx_a κ 57)] M M9) (hq_product : ∀  {M : gx_Mem} {M9 : gx_Mem}, q_product M = some M9 → gx_CV κ yX8_product cX8_product 2 none (2 + dd) [.ref (gx_a κ 57)] M M9) (hq_sum : ∀  {M : gx_Mem} {M9 : gx_Mem}, q_sum M = some M9 → gx_CV κ yX8_sum cX8_sum 2 none (2 + dd) [.ref (gx_a κ 57)] M M9)  {M : gx_Mem} {M9 : gx_Mem} (hf : f_X8_product_o q_both q_compared q_either q_operand q_product q_sum M = some M9) : gx_CV κ yX8_product cX8_product 2 none (2 + dd + 1) [.ref (gx_a κ 57)] M M9 := by
  refine gx_enterV (d := 2 + dd + 1) my_X8_product.1 (by decide) (Nat.le_of_ble_eq_true rfl) (fun Γ Cx hR => ?_)
  change gx_G κ Γ 0 [(0, .ref (gx_a κ 57))] [] M
  have K4 : ∀  (ag4 : gx_Mem → Option gx_Mem) (hag4 : ∀  (M : gx_Mem), ag4 M = some M9 → gx_G κ Γ 4 [(0, .ref (gx_a κ 57))] [] M)  (M : gx_Mem), f_X8_product_k4 q_both q_compared q_either q_operand q_product q_sum ag4 M = some M9 → gx_G κ Γ 4 [(0, .ref (gx_a κ 57))] [] M := by
    intro ag4 hag4
    have B38 : ∀  (M : gx_Mem), f_X8_product_b38 q_both q_compared q_either q_operand q_product q_sum ag4 M = some M9 → gx_G κ Γ 38 [(0, .ref (gx_a κ 57))] [] M := by
      intro M h
      refine gx_aload_n Cx eX8_product_38 0 rfl ?_
      obtain ⟨y10, h9, h⟩ := gx_bP_of h
      refine gx_callVI (ci := 8) Cx my_X8_look wlX8_205 rfl gx_y57 (by omega) rfl eX8_product_39 (c_X8_look κ h9) rfl (Nat.le_of_ble_eq_true rfl) ?_
      refine gx_istore_n Cx eX8_product_42 [(1, .int y10), (0, .ref (gx_a κ 57))] rfl (by decide) ?_
      refine gx_aload_n Cx eX8_product_43 1 rfl ?_
      refine gx_dup Cx eX8_product_44 rfl ?_
      refine gfX8_190 Cx eX8_product_45 ?_
      refine gx_iconst (v := (1 : Int32)) Cx eX8_product_48 (by decide) ?_
      refine gx_iadd Cx eX8_product_49 ?_
      refine pfX8_190 Cx eX8_product_50 h (fun M11 h => ?_)
      refine gx_aload_n Cx eX8_product_53 1 rfl ?_
      obtain ⟨M13, h12, h⟩ := gx_bP_of h
      refine gx_callVV (ci := 8) Cx my_X8_operand wlX8_221 rfl gx_y57 (Nat.le_refl _) rfl eX8_product_54 (hq_operand h12) rfl (Nat.le_of_ble_eq_true rfl) ?_
      refine gx_aload_n Cx eX8_product_57 1 rfl ?_
      refine gx_iload_n Cx eX8_product_58 0 rfl ?_
      refine gx_iconst (v := (0 : Int32)) Cx eX8_product_59 (by decide) ?_
      obtain ⟨M15, h14, h⟩ := gx_bP_of h
      refine gx_callVV (ci := 8) Cx my_X8_addStep wlX8_209 rfl gx_y57 (by omega) rfl eX8_product_60 (c_X8_addStep κ h14) rfl (Nat.le_of_ble_eq_true rfl) ?_
      refine gx_goto (tgt := 4) Cx eX8_product_63 (by decide) ?_
      refine gx_sub [1] rfl ?_
      exact hag4 _ h
    intro M h
    refine gx_aload_n Cx eX8_product_4 0 rfl ?_
    refine gfX8_193 Cx eX8_product_5 ?_
    refine gx_if_ge (tgt := 66) Cx eX8_product_8 (by decide) h (fun h => ?_) (fun h => ?_)
    · exact gx_rV h eX8_product_66 hR
    · refine gx_aload_n Cx eX8_product_11 0 rfl ?_
      obtain ⟨y4, h3, h⟩ := gx_bP_of h
      refine gx_callVI (ci := 8) Cx my_X8_look wlX8_205 rfl gx_y57 (by omega) rfl eX8_product_12 (c_X8_look κ h3) rfl (Nat.le_of_ble_eq_true rfl) ?_
      refine gx_bipush (v := (42 : Int32)) Cx eX8_product_15 (by decide) ?_
      refine gx_icmp_eq (tgt := 38) Cx eX8_product_17 (by decide) h (fun h => ?_) (fun h => ?_)
      · exact B38 _ h
      · refine gx_aload_n Cx eX8_product_20 0 rfl ?_
        obtain ⟨y6, h5, h⟩ := gx_bP_of h
        refine gx_callVI (ci := 8) Cx my_X8_look wlX8_205 rfl gx_y57 (by omega) rfl eX8_product_21 (c_X8_look κ h5) rfl (Nat.le_of_ble_eq_true rfl) ?_
        refine gx_bipush (v := (47 : Int32)) Cx eX8_product_24 (by decide) ?_
        refine gx_icmp_eq (tgt := 38) Cx eX8_product_26 (by decide) h (fun h => ?_) (fun h => ?_)
        · exact B38 _ h
        · refine gx_aload_n Cx eX8_product_29 0 rfl ?_
          obtain ⟨y8, h7, h⟩ := gx_bP_of h
          refine gx_callVI (ci := 8) Cx my_X8_look wlX8_205 rfl gx_y57 (by omega) rfl eX8_product_30 (c_X8_look κ h7) rfl (Nat.le_of_ble_eq_true rfl) ?_
          refine gx_bipush (v := (37 : Int32)) Cx eX8_product_33 (by decide) ?_
          refine gx_icmp_ne (tgt := 66) Cx eX8_product_35 (by decide) h (fun h => ?_) (fun h => ?_)
          · exact gx_rV h eX8_product_66 hR
          · exact B38 _ h
  have L4 : ∀  (n : Nat)  (M : gx_Mem), f_X8_product_l4 q_both q_compared q_either q_operand q_product q_sum n M = some M9 → gx_G κ Γ 4 [(0, .ref (gx_a κ 57))] [] M := by
    intro n
    induction n with
    | zero => intro M h; exact gx_loop_0 h
    | succ n ih => intro M h; exact K4 (fun M => f_X8_product_l4 q_both q_compared q_either q_operand q_product q_sum n M) ih M h
  have h := hf
  refine gx_aload_n Cx eX8_product_0 0 rfl ?_
  obtain ⟨M2, h1, h⟩ := gx_bP_of h
  refine gx_callVV (ci := 8) Cx my_X8_operand wlX8_221 rfl gx_y57 (Nat.le_refl _) rfl eX8_product_1 (hq_operand h1) rfl (Nat.le_of_ble_eq_true rfl) ?_
  exact L4 _ _ h
set_option maxHeartbeats 4000000 in
set_option maxRecDepth 100000 in
theorem c_X8_sum_o (κ : gx_K) (dd : Nat) (q_both : gx_Mem → Option gx_Mem) (q_compared : gx_Mem → Option gx_Mem) (q_either : gx_Mem → Option gx_Mem) (q_operand : gx_Mem → Option gx_Mem) (q_product : gx_Mem → Option gx_Mem) (q_sum : gx_Mem → Option gx_Mem) (hq_both : ∀  {M : gx_Mem} {M9 : gx_Mem}, q_both M = some M9 → gx_CV κ yX8_both cX8_both 1 none (2 + dd) [.ref (gx_a κ 57)] M M9) (hq_compared : ∀  {M : gx_Mem} {M9 : gx_Mem}, q_compared M = some M9 → gx_CV κ yX8_compared cX8_compared 2 none (2 + dd) [.ref (gx_a κ 57)] M M9) (hq_either : ∀  {M : gx_Mem} {M9 : gx_Mem}, q_either M = some M9 → gx_CV κ yX8_either cX8_either 1 none (2 + dd) [.ref (gx_a κ 57)] M M9) (hq_operand : ∀  {M : gx_Mem} {M9 : gx_Mem}, q_operand M = some M9 → gx_CV κ yX8_operand cX8_operand 2 none (2 + dd) [.ref (gx_a κ 57)] M M9) (hq_product : ∀  {M : gx_Mem} {M9 : gx_Mem}, q_product M = some M9 → gx_CV κ yX8_product cX8_product 2 none (2 + dd) [.ref (gx_a κ 57)] M M9) (hq_sum : ∀  {M : gx_Mem} {M9 : gx_Mem}, q_sum M = some M9 → gx_CV κ yX8_sum cX8_sum 2 none (2 + dd) [.ref (gx_a κ 57)] M M9)  {M : gx_Mem} {M9 : gx_Mem} (hf : f_X8_sum_o q_both q_compared q_either q_operand q_product q_sum M = some M9) : gx_CV κ yX8_sum cX8_sum 2 none (2 + dd + 1) [.ref (gx_a κ 57)] M M9 := by
  refine gx_enterV (d := 2 + dd + 1) my_X8_sum.1 (by decide) (Nat.le_of_ble_eq_true rfl) (fun Γ Cx hR => ?_)
  change gx_G κ Γ 0 [(0, .ref (gx_a κ 57))] [] M
  have K4 : ∀  (ag4 : gx_Mem → Option gx_Mem) (hag4 : ∀  (M : gx_Mem), ag4 M = some M9 → gx_G κ Γ 4 [(0, .ref (gx_a κ 57))] [] M)  (M : gx_Mem), f_X8_sum_k4 q_both q_compared q_either q_operand q_product q_sum ag4 M = some M9 → gx_G κ Γ 4 [(0, .ref (gx_a κ 57))] [] M := by
    intro ag4 hag4
    have B29 : ∀  (M : gx_Mem), f_X8_sum_b29 q_both q_compared q_either q_operand q_product q_sum ag4 M = some M9 → gx_G κ Γ 29 [(0, .ref (gx_a κ 57))] [] M := by
      intro M h
      refine gx_aload_n Cx eX8_sum_29 0 rfl ?_
      obtain ⟨y8, h7, h⟩ := gx_bP_of h
      refine gx_callVI (ci := 8) Cx my_X8_look wlX8_205 rfl gx_y57 (by omega) rfl eX8_sum_30 (c_X8_look κ h7) rfl (Nat.le_of_ble_eq_true rfl) ?_
      refine gx_istore_n Cx eX8_sum_33 [(1, .int y8), (0, .ref (gx_a κ 57))] rfl (by decide) ?_
      refine gx_aload_n Cx eX8_sum_34 1 rfl ?_
      refine gx_dup Cx eX8_sum_35 rfl ?_
      refine gfX8_190 Cx eX8_sum_36 ?_
      refine gx_iconst (v := (1 : Int32)) Cx eX8_sum_39 (by decide) ?_
      refine gx_iadd Cx eX8_sum_40 ?_
      refine pfX8_190 Cx eX8_sum_41 h (fun M9 h => ?_)
      refine gx_aload_n Cx eX8_sum_44 1 rfl ?_
      obtain ⟨M11, h10, h⟩ := gx_bP_of h
      refine gx_callVV (ci := 8) Cx my_X8_product wlX8_230 rfl gx_y57 (Nat.le_refl _) rfl eX8_sum_45 (hq_product h10) rfl (Nat.le_of_ble_eq_true rfl) ?_
      refine gx_aload_n Cx eX8_sum_48 1 rfl ?_
      refine gx_iload_n Cx eX8_sum_49 0 rfl ?_
      refine gx_iconst (v := (0 : Int32)) Cx eX8_sum_50 (by decide) ?_
      obtain ⟨M13, h12, h⟩ := gx_bP_of h
      refine gx_callVV (ci := 8) Cx my_X8_addStep wlX8_209 rfl gx_y57 (by omega) rfl eX8_sum_51 (c_X8_addStep κ h12) rfl (Nat.le_of_ble_eq_true rfl) ?_
      refine gx_goto (tgt := 4) Cx eX8_sum_54 (by decide) ?_
      refine gx_sub [1] rfl ?_
      exact hag4 _ h
    intro M h
    refine gx_aload_n Cx eX8_sum_4 0 rfl ?_
    refine gfX8_193 Cx eX8_sum_5 ?_
    refine gx_if_ge (tgt := 57) Cx eX8_sum_8 (by decide) h (fun h => ?_) (fun h => ?_)
    · exact gx_rV h eX8_sum_57 hR
    · refine gx_aload_n Cx eX8_sum_11 0 rfl ?_
      obtain ⟨y4, h3, h⟩ := gx_bP_of h
      refine gx_callVI (ci := 8) Cx my_X8_look wlX8_205 rfl gx_y57 (by omega) rfl eX8_sum_12 (c_X8_look κ h3) rfl (Nat.le_of_ble_eq_true rfl) ?_
      refine gx_bipush (v := (43 : Int32)) Cx eX8_sum_15 (by decide) ?_
      refine gx_icmp_eq (tgt := 29) Cx eX8_sum_17 (by decide) h (fun h => ?_) (fun h => ?_)
      · exact B29 _ h
      · refine gx_aload_n Cx eX8_sum_20 0 rfl ?_
        obtain ⟨y6, h5, h⟩ := gx_bP_of h
        refine gx_callVI (ci := 8) Cx my_X8_look wlX8_205 rfl gx_y57 (by omega) rfl eX8_sum_21 (c_X8_look κ h5) rfl (Nat.le_of_ble_eq_true rfl) ?_
        refine gx_bipush (v := (45 : Int32)) Cx eX8_sum_24 (by decide) ?_
        refine gx_icmp_ne (tgt := 57) Cx eX8_sum_26 (by decide) h (fun h => ?_) (fun h => ?_)
        · exact gx_rV h eX8_sum_57 hR
        · exact B29 _ h
  have L4 : ∀  (n : Nat)  (M : gx_Mem), f_X8_sum_l4 q_both q_compared q_either q_operand q_product q_sum n M = some M9 → gx_G κ Γ 4 [(0, .ref (gx_a κ 57))] [] M := by
    intro n
    induction n with
    | zero => intro M h; exact gx_loop_0 h
    | succ n ih => intro M h; exact K4 (fun M => f_X8_sum_l4 q_both q_compared q_either q_operand q_product q_sum n M) ih M h
  have h := hf
  refine gx_aload_n Cx eX8_sum_0 0 rfl ?_
  obtain ⟨M2, h1, h⟩ := gx_bP_of h
  refine gx_callVV (ci := 8) Cx my_X8_product wlX8_230 rfl gx_y57 (Nat.le_refl _) rfl eX8_sum_1 (hq_product h1) rfl (Nat.le_of_ble_eq_true rfl) ?_
  exact L4 _ _ h
theorem g_both_compared_either_operand_product_sum (κ : gx_K) : ∀ d : Nat, (∀  {M : gx_Mem} {M9 : gx_Mem}, f_X8_both d M = some M9 → gx_CV κ yX8_both cX8_both 1 none (2 + d) [.ref (gx_a κ 57)] M M9) ∧ (∀  {M : gx_Mem} {M9 : gx_Mem}, f_X8_compared d M = some M9 → gx_CV κ yX8_compared cX8_compared 2 none (2 + d) [.ref (gx_a κ 57)] M M9) ∧ (∀  {M : gx_Mem} {M9 : gx_Mem}, f_X8_either d M = some M9 → gx_CV κ yX8_either cX8_either 1 none (2 + d) [.ref (gx_a κ 57)] M M9) ∧ (∀  {M : gx_Mem} {M9 : gx_Mem}, f_X8_operand d M = some M9 → gx_CV κ yX8_operand cX8_operand 2 none (2 + d) [.ref (gx_a κ 57)] M M9) ∧ (∀  {M : gx_Mem} {M9 : gx_Mem}, f_X8_product d M = some M9 → gx_CV κ yX8_product cX8_product 2 none (2 + d) [.ref (gx_a κ 57)] M M9) ∧ (∀  {M : gx_Mem} {M9 : gx_Mem}, f_X8_sum d M = some M9 → gx_CV κ yX8_sum cX8_sum 2 none (2 + d) [.ref (gx_a κ 57)] M M9) := by
  intro d
  induction d with
  | zero => exact ⟨(by intros; rename_i q; cases q), (by intros; rename_i q; cases q), (by intros; rename_i q; cases q), (by intros; rename_i q; cases q), (by intros; rename_i q; cases q), (by intros; rename_i q; cases q)⟩
  | succ d ih =>
    exact ⟨(by intro M M9 hf; exact c_X8_both_o κ d (f_X8_both d) (f_X8_compared d) (f_X8_either d) (f_X8_operand d) (f_X8_product d) (f_X8_sum d) (fun h => ih.1 h) (fun h => ih.2.1 h) (fun h => ih.2.2.1 h) (fun h => ih.2.2.2.1 h) (fun h => ih.2.2.2.2.1 h) (fun h => ih.2.2.2.2.2 h)  hf), (by intro M M9 hf; exact c_X8_compared_o κ d (f_X8_both d) (f_X8_compared d) (f_X8_either d) (f_X8_operand d) (f_X8_product d) (f_X8_sum d) (fun h => ih.1 h) (fun h => ih.2.1 h) (fun h => ih.2.2.1 h) (fun h => ih.2.2.2.1 h) (fun h => ih.2.2.2.2.1 h) (fun h => ih.2.2.2.2.2 h)  hf), (by intro M M9 hf; exact c_X8_either_o κ d (f_X8_both d) (f_X8_compared d) (f_X8_either d) (f_X8_operand d) (f_X8_product d) (f_X8_sum d) (fun h => ih.1 h) (fun h => ih.2.1 h) (fun h => ih.2.2.1 h) (fun h => ih.2.2.2.1 h) (fun h => ih.2.2.2.2.1 h) (fun h => ih.2.2.2.2.2 h)  hf), (by intro M M9 hf; exact c_X8_operand_o κ d (f_X8_both d) (f_X8_compared d) (f_X8_either d) (f_X8_operand d) (f_X8_product d) (f_X8_sum d) (fun h => ih.1 h) (fun h => ih.2.1 h) (fun h => ih.2.2.1 h) (fun h => ih.2.2.2.1 h) (fun h => ih.2.2.2.2.1 h) (fun h => ih.2.2.2.2.2 h)  hf), (by intro M M9 hf; exact c_X8_product_o κ d (f_X8_both d) (f_X8_compared d) (f_X8_either d) (f_X8_operand d) (f_X8_product d) (f_X8_sum d) (fun h => ih.1 h) (fun h => ih.2.1 h) (fun h => ih.2.2.1 h) (fun h => ih.2.2.2.1 h) (fun h => ih.2.2.2.2.1 h) (fun h => ih.2.2.2.2.2 h)  hf), (by intro M M9 hf; exact c_X8_sum_o κ d (f_X8_both d) (f_X8_compared d) (f_X8_either d) (f_X8_operand d) (f_X8_product d) (f_X8_sum d) (fun h => ih.1 h) (fun h => ih.2.1 h) (fun h => ih.2.2.1 h) (fun h => ih.2.2.2.1 h) (fun h => ih.2.2.2.2.1 h) (fun h => ih.2.2.2.2.2 h)  hf)⟩
theorem c_X8_both (κ : gx_K)  {M : gx_Mem} {M9 : gx_Mem} (hf : f_X8_both gx_dep M = some M9) : gx_CV κ yX8_both cX8_both 1 none 102 [.ref (gx_a κ 57)] M M9 := (g_both_compared_either_operand_product_sum κ gx_dep).1  hf
theorem c_X8_compared (κ : gx_K)  {M : gx_Mem} {M9 : gx_Mem} (hf : f_X8_compared gx_dep M = some M9) : gx_CV κ yX8_compared cX8_compared 2 none 102 [.ref (gx_a κ 57)] M M9 := (g_both_compared_either_operand_product_sum κ gx_dep).2.1  hf
theorem c_X8_either (κ : gx_K)  {M : gx_Mem} {M9 : gx_Mem} (hf : f_X8_either gx_dep M = some M9) : gx_CV κ yX8_either cX8_either 1 none 102 [.ref (gx_a κ 57)] M M9 := (g_both_compared_either_operand_product_sum κ gx_dep).2.2.1  hf
theorem c_X8_operand (κ : gx_K)  {M : gx_Mem} {M9 : gx_Mem} (hf : f_X8_operand gx_dep M = some M9) : gx_CV κ yX8_operand cX8_operand 2 none 102 [.ref (gx_a κ 57)] M M9 := (g_both_compared_either_operand_product_sum κ gx_dep).2.2.2.1  hf
theorem c_X8_product (κ : gx_K)  {M : gx_Mem} {M9 : gx_Mem} (hf : f_X8_product gx_dep M = some M9) : gx_CV κ yX8_product cX8_product 2 none 102 [.ref (gx_a κ 57)] M M9 := (g_both_compared_either_operand_product_sum κ gx_dep).2.2.2.2.1  hf
theorem c_X8_sum (κ : gx_K)  {M : gx_Mem} {M9 : gx_Mem} (hf : f_X8_sum gx_dep M = some M9) : gx_CV κ yX8_sum cX8_sum 2 none 102 [.ref (gx_a κ 57)] M M9 := (g_both_compared_either_operand_product_sum κ gx_dep).2.2.2.2.2  hf
set_option maxHeartbeats 4000000 in
set_option maxRecDepth 100000 in
theorem c_X8_layNow (κ : gx_K)  {M : gx_Mem} {M9 : gx_Mem} (hf : f_X8_layNow M = some M9) : gx_CV κ yX8_layNow cX8_layNow 2 none 0 [.ref (gx_a κ 57)] M M9 := by
  refine gx_enterV (d := 0) my_X8_layNow.1 (by decide) (Nat.le_of_ble_eq_true rfl) (fun Γ Cx hR => ?_)
  change gx_G κ Γ 0 [(0, .ref (gx_a κ 57))] [] M
  have K68 : ∀  (ag68 : Int32 → gx_Mem → Option gx_Mem) (hag68 : ∀ (v1 : Int32) (M : gx_Mem), ag68 v1 M = some M9 → gx_G κ Γ 68 [(0, .ref (gx_a κ 57)), (1, .int v1)] [] M) (v1 : Int32) (M : gx_Mem), f_X8_layNow_k68 ag68 v1 M = some M9 → gx_G κ Γ 68 [(0, .ref (gx_a κ 57)), (1, .int v1)] [] M := by
    intro ag68 hag68
    intro v1 M h
    refine gx_iload_n Cx eX8_layNow_68 1 rfl ?_
    refine gx_iconst (v := (4 : Int32)) Cx eX8_layNow_69 (by decide) ?_
    refine gx_icmp_ge (tgt := 86) Cx eX8_layNow_70 (by decide) h (fun h => ?_) (fun h => ?_)
    · refine gx_aload_n Cx eX8_layNow_86 0 rfl ?_
      refine gx_aload_n Cx eX8_layNow_87 0 rfl ?_
      refine gfX8_27 Cx eX8_layNow_88 ?_
      refine gx_iconst (v := (1 : Int32)) Cx eX8_layNow_91 (by decide) ?_
      refine gx_ialdC (α := Unit) (b := none) Cx gx_y63 eX8_layNow_92 (by decide) ?_
      refine pfX8_258 Cx eX8_layNow_93 h (fun M6 h => ?_)
      exact gx_rV h eX8_layNow_96 hR
    · refine gx_aload_n Cx eX8_layNow_73 0 rfl ?_
      refine gfX8_77 Cx eX8_layNow_74 ?_
      refine gx_iload_n Cx eX8_layNow_77 1 rfl ?_
      refine gx_iconst (v := (0 : Int32)) Cx eX8_layNow_78 (by decide) ?_
      refine gx_iast Cx gx_y79 eX8_layNow_79 h (fun M7 h => ?_)
      refine gx_iinc (v := (1 : Int32)) (i := 1) (j := 1) Cx eX8_layNow_80 (by decide) h 1 rfl (fun w => [(1, .int w), (0, .ref (gx_a κ 57))]) (fun _ => rfl) (by decide) (fun x8 h => ?_)
      refine gx_goto (tgt := 68) Cx eX8_layNow_83 (by decide) ?_
      refine gx_sub [1, 0] rfl ?_
      exact hag68 _ _ h
  have L68 : ∀  (n : Nat) (v1 : Int32) (M : gx_Mem), f_X8_layNow_l68 n v1 M = some M9 → gx_G κ Γ 68 [(0, .ref (gx_a κ 57)), (1, .int v1)] [] M := by
    intro n
    induction n with
    | zero => intro v1 M h; exact gx_loop_0 h
    | succ n ih => intro v1 M h; exact K68 (fun v1 M => f_X8_layNow_l68 n v1 M) ih v1 M h
  have K30 : ∀  (ag30 : Int32 → gx_Mem → Option gx_Mem) (hag30 : ∀ (v1 : Int32) (M : gx_Mem), ag30 v1 M = some M9 → gx_G κ Γ 30 [(0, .ref (gx_a κ 57)), (1, .int v1)] [] M) (v1 : Int32) (M : gx_Mem), f_X8_layNow_k30 ag30 v1 M = some M9 → gx_G κ Γ 30 [(0, .ref (gx_a κ 57)), (1, .int v1)] [] M := by
    intro ag30 hag30
    intro v1 M h
    refine gx_iload_n Cx eX8_layNow_30 1 rfl ?_
    refine gx_bipush (v := (24 : Int32)) Cx eX8_layNow_31 (by decide) ?_
    refine gx_icmp_ge (tgt := 66) Cx eX8_layNow_33 (by decide) h (fun h => ?_) (fun h => ?_)
    · refine gx_iconst (v := (0 : Int32)) Cx eX8_layNow_66 (by decide) ?_
      refine gx_istore_n Cx eX8_layNow_67 [(1, .int (0 : Int32)), (0, .ref (gx_a κ 57))] rfl (by decide) ?_
      refine gx_sub [1, 0] rfl ?_
      exact L68 _ _ _ h
    · refine gx_aload_n Cx eX8_layNow_36 0 rfl ?_
      refine gfX8_71 Cx eX8_layNow_37 ?_
      refine gx_iload_n Cx eX8_layNow_40 1 rfl ?_
      refine gx_aload_n Cx eX8_layNow_41 0 rfl ?_
      refine gfX8_24 Cx eX8_layNow_42 ?_
      refine gx_iload_n Cx eX8_layNow_45 1 rfl ?_
      refine gx_iald Cx gx_y62 eX8_layNow_46 h (fun h => ?_)
      refine gx_iast Cx gx_y77 eX8_layNow_47 h (fun M3 h => ?_)
      refine gx_aload_n Cx eX8_layNow_48 0 rfl ?_
      refine gfX8_74 Cx eX8_layNow_49 ?_
      refine gx_iload_n Cx eX8_layNow_52 1 rfl ?_
      refine gx_aload_n Cx eX8_layNow_53 0 rfl ?_
      refine gfX8_21 Cx eX8_layNow_54 ?_
      refine gx_iload_n Cx eX8_layNow_57 1 rfl ?_
      refine gx_iald Cx gx_y61 eX8_layNow_58 h (fun h => ?_)
      refine gx_iast Cx gx_y78 eX8_layNow_59 h (fun M4 h => ?_)
      refine gx_iinc (v := (1 : Int32)) (i := 1) (j := 1) Cx eX8_layNow_60 (by decide) h 1 rfl (fun w => [(1, .int w), (0, .ref (gx_a κ 57))]) (fun _ => rfl) (by decide) (fun x5 h => ?_)
      refine gx_goto (tgt := 30) Cx eX8_layNow_63 (by decide) ?_
      refine gx_sub [1, 0] rfl ?_
      exact hag30 _ _ h
  have L30 : ∀  (n : Nat) (v1 : Int32) (M : gx_Mem), f_X8_layNow_l30 n v1 M = some M9 → gx_G κ Γ 30 [(0, .ref (gx_a κ 57)), (1, .int v1)] [] M := by
    intro n
    induction n with
    | zero => intro v1 M h; exact gx_loop_0 h
    | succ n ih => intro v1 M h; exact K30 (fun v1 M => f_X8_layNow_l30 n v1 M) ih v1 M h
  have K2 : ∀  (ag2 : Int32 → gx_Mem → Option gx_Mem) (hag2 : ∀ (v1 : Int32) (M : gx_Mem), ag2 v1 M = some M9 → gx_G κ Γ 2 [(0, .ref (gx_a κ 57)), (1, .int v1)] [] M) (v1 : Int32) (M : gx_Mem), f_X8_layNow_k2 ag2 v1 M = some M9 → gx_G κ Γ 2 [(0, .ref (gx_a κ 57)), (1, .int v1)] [] M := by
    intro ag2 hag2
    intro v1 M h
    refine gx_iload_n Cx eX8_layNow_2 1 rfl ?_
    refine gx_aload_n Cx eX8_layNow_3 0 rfl ?_
    refine gfX8_133 Cx eX8_layNow_4 ?_
    refine gx_icmp_ge (tgt := 28) Cx eX8_layNow_7 (by decide) h (fun h => ?_) (fun h => ?_)
    · refine gx_iconst (v := (0 : Int32)) Cx eX8_layNow_28 (by decide) ?_
      refine gx_istore_n Cx eX8_layNow_29 [(1, .int (0 : Int32)), (0, .ref (gx_a κ 57))] rfl (by decide) ?_
      refine gx_sub [1, 0] rfl ?_
      exact L30 _ _ _ h
    · refine gx_aload_n Cx eX8_layNow_10 0 rfl ?_
      refine gfX8_68 Cx eX8_layNow_11 ?_
      refine gx_iload_n Cx eX8_layNow_14 1 rfl ?_
      refine gx_aload_n Cx eX8_layNow_15 0 rfl ?_
      refine gfX8_9 Cx eX8_layNow_16 ?_
      refine gx_iload_n Cx eX8_layNow_19 1 rfl ?_
      refine gx_iald Cx gx_y58 eX8_layNow_20 h (fun h => ?_)
      refine gx_iast Cx gx_y76 eX8_layNow_21 h (fun M1 h => ?_)
      refine gx_iinc (v := (1 : Int32)) (i := 1) (j := 1) Cx eX8_layNow_22 (by decide) h 1 rfl (fun w => [(1, .int w), (0, .ref (gx_a κ 57))]) (fun _ => rfl) (by decide) (fun x2 h => ?_)
      refine gx_goto (tgt := 2) Cx eX8_layNow_25 (by decide) ?_
      refine gx_sub [1, 0] rfl ?_
      exact hag2 _ _ h
  have L2 : ∀  (n : Nat) (v1 : Int32) (M : gx_Mem), f_X8_layNow_l2 n v1 M = some M9 → gx_G κ Γ 2 [(0, .ref (gx_a κ 57)), (1, .int v1)] [] M := by
    intro n
    induction n with
    | zero => intro v1 M h; exact gx_loop_0 h
    | succ n ih => intro v1 M h; exact K2 (fun v1 M => f_X8_layNow_l2 n v1 M) ih v1 M h
  have h := hf
  refine gx_iconst (v := (0 : Int32)) Cx eX8_layNow_0 (by decide) ?_
  refine gx_istore_n Cx eX8_layNow_1 [(1, .int (0 : Int32)), (0, .ref (gx_a κ 57))] rfl (by decide) ?_
  refine gx_sub [1, 0] rfl ?_
  exact L2 _ _ _ h
set_option maxHeartbeats 4000000 in
set_option maxRecDepth 100000 in
theorem c_X8_byTurns (κ : gx_K) {v1 : Int32} {v2 : Int32} {v3 : Int32} {M : gx_Mem} {r9 : Int32} {M9 : gx_Mem} (hf : f_X8_byTurns v1 v2 v3 M = some (r9, M9)) : gx_CI κ yX8_byTurns cX8_byTurns 7 (some .int) 106 [.ref (gx_a κ 57), .int v1, .int v2, .int v3] M r9 M9 := by
  refine gx_enterI (d := 106) my_X8_byTurns.1 (by decide) (Nat.le_of_ble_eq_true rfl) (fun Γ Cx hR => ?_)
  change gx_G κ Γ 0 [(0, .ref (gx_a κ 57)), (1, .int v1), (2, .int v2), (3, .int v3)] [] M
  have B214 : ∀ (v4 : Int32) (s0 : Int32) (M : gx_Mem), f_X8_byTurns_b214 v4 s0 M = some (r9, M9) → gx_G κ Γ 214 [(4, .int v4)] [.int s0] M := by
    intro v4 s0 M h
    refine gx_iload Cx eX8_byTurns_214 0 rfl ?_
    refine gx_isub Cx eX8_byTurns_216 ?_
    exact gx_rI h rfl eX8_byTurns_217 hR
  have K82 : ∀  (ag82 : Int32 → gx_Mem → Option (Int32 × gx_Mem)) (hag82 : ∀ (v4 : Int32) (M : gx_Mem), ag82 v4 M = some (r9, M9) → gx_G κ Γ 82 [(0, .ref (gx_a κ 57)), (2, .int v2), (3, .int v3), (4, .int v4)] [] M) (v4 : Int32) (M : gx_Mem), f_X8_byTurns_k82 v2 v3 ag82 v4 M = some (r9, M9) → gx_G κ Γ 82 [(0, .ref (gx_a κ 57)), (2, .int v2), (3, .int v3), (4, .int v4)] [] M := by
    intro ag82 hag82
    have B127 : ∀ (v4 : Int32) (M : gx_Mem), f_X8_byTurns_b127 ag82 v2 v3 v4 M = some (r9, M9) → gx_G κ Γ 127 [(0, .ref (gx_a κ 57)), (2, .int v2), (3, .int v3), (4, .int v4)] [] M := by
      intro v4 M h
      refine gx_iinc (v := (1 : Int32)) (i := 4) (j := 3) Cx eX8_byTurns_127 (by decide) h 3 rfl (fun w => [(4, .int w), (0, .ref (gx_a κ 57)), (2, .int v2), (3, .int v3)]) (fun _ => rfl) (by decide) (fun x23 h => ?_)
      refine gx_goto (tgt := 82) Cx eX8_byTurns_130 (by decide) ?_
      refine gx_sub [1, 2, 3, 0] rfl ?_
      exact hag82 _ _ h
    intro v4 M h
    refine gx_iload Cx eX8_byTurns_82 3 rfl ?_
    refine gx_iconst (v := (4 : Int32)) Cx eX8_byTurns_84 (by decide) ?_
    refine gx_icmp_ge (tgt := 133) Cx eX8_byTurns_85 (by decide) h (fun h => ?_) (fun h => ?_)
    · refine gx_aload_n Cx eX8_byTurns_133 0 rfl ?_
      refine gx_iload_n Cx eX8_byTurns_134 1 rfl ?_
      refine pfX8_356 Cx eX8_byTurns_135 h (fun M12 h => ?_)
      refine gx_aload_n Cx eX8_byTurns_138 0 rfl ?_
      obtain ⟨M14, h13, h⟩ := gx_bP_of h
      refine gx_callVV (ci := 8) Cx my_X8_layNow wlX8_290 rfl gx_y57 (by decide) rfl eX8_byTurns_139 (c_X8_layNow κ h13) rfl (Nat.le_of_ble_eq_true rfl) ?_
      refine gx_aload_n Cx eX8_byTurns_142 0 rfl ?_
      refine gfX8_21 Cx eX8_byTurns_143 ?_
      refine gx_iconst (v := (4 : Int32)) Cx eX8_byTurns_146 (by decide) ?_
      refine gx_aload_n Cx eX8_byTurns_147 0 rfl ?_
      refine gfX8_344 Cx eX8_byTurns_148 ?_
      refine gx_imul Cx eX8_byTurns_151 ?_
      refine gx_aload_n Cx eX8_byTurns_152 0 rfl ?_
      refine gfX8_350 Cx eX8_byTurns_153 ?_
      refine gx_iadd Cx eX8_byTurns_156 ?_
      refine gx_iald Cx gx_y61 eX8_byTurns_157 h (fun h => ?_)
      refine gx_nmI h (fun x15 h => ?_)
      refine gx_istore Cx eX8_byTurns_158 [(4, .int x15), (0, .ref (gx_a κ 57)), (2, .int v2), (3, .int v3)] rfl (by decide) ?_
      refine gx_aload_n Cx eX8_byTurns_160 1 rfl ?_
      refine gx_iconst (v := (0 : Int32)) Cx eX8_byTurns_161 (by decide) ?_
      refine gx_iload Cx eX8_byTurns_162 0 rfl ?_
      refine gx_iconst (v := (0 : Int32)) Cx eX8_byTurns_164 (by decide) ?_
      obtain ⟨y17, M18, h16, h⟩ := gx_bI_of h
      refine gx_callVI (ci := 8) Cx my_X8_byOut wlX8_359 rfl gx_y57 (by decide) rfl eX8_byTurns_165 (c_X8_byOut κ h16) rfl (Nat.le_of_ble_eq_true rfl) ?_
      refine gx_istore Cx eX8_byTurns_168 [(5, .int y17), (4, .int x15), (0, .ref (gx_a κ 57)), (2, .int v2), (3, .int v3)] rfl (by decide) ?_
      refine gx_aload_n Cx eX8_byTurns_170 2 rfl ?_
      refine gx_iconst (v := (0 : Int32)) Cx eX8_byTurns_171 (by decide) ?_
      refine gx_iload Cx eX8_byTurns_172 1 rfl ?_
      refine gx_iconst (v := (1 : Int32)) Cx eX8_byTurns_174 (by decide) ?_
      obtain ⟨y20, M21, h19, h⟩ := gx_bI_of h
      refine gx_callVI (ci := 8) Cx my_X8_byOut wlX8_359 rfl gx_y57 (by decide) rfl eX8_byTurns_175 (c_X8_byOut κ h19) rfl (Nat.le_of_ble_eq_true rfl) ?_
      refine gx_istore Cx eX8_byTurns_178 [(6, .int y20), (5, .int y17), (4, .int x15), (0, .ref (gx_a κ 57)), (2, .int v2), (3, .int v3)] rfl (by decide) ?_
      refine gx_iload_n Cx eX8_byTurns_180 5 rfl ?_
      refine gx_iconst (v := (1 : Int32)) Cx eX8_byTurns_181 (by decide) ?_
      refine gx_icmp_ne (tgt := 200) Cx eX8_byTurns_182 (by decide) h (fun h => ?_) (fun h => ?_)
      · refine gx_iload Cx eX8_byTurns_200 0 rfl ?_
        refine gx_iload Cx eX8_byTurns_202 1 rfl ?_
        refine gx_icmp_le (tgt := 212) Cx eX8_byTurns_204 (by decide) h (fun h => ?_) (fun h => ?_)
        · refine gx_iload Cx eX8_byTurns_212 1 rfl ?_
          refine gx_sub [2] rfl ?_
          exact B214 _ _ _ h
        · refine gx_iload Cx eX8_byTurns_207 0 rfl ?_
          refine gx_goto (tgt := 214) Cx eX8_byTurns_209 (by decide) ?_
          refine gx_sub [2] rfl ?_
          exact B214 _ _ _ h
      · refine gx_iload Cx eX8_byTurns_185 0 rfl ?_
        refine gx_iload Cx eX8_byTurns_187 1 rfl ?_
        refine gx_icmp_le (tgt := 196) Cx eX8_byTurns_189 (by decide) h (fun h => ?_) (fun h => ?_)
        · refine gx_iconst (v := (0 : Int32)) Cx eX8_byTurns_196 (by decide) ?_
          refine gx_goto (tgt := 217) Cx eX8_byTurns_197 (by decide) ?_
          exact gx_rI h rfl eX8_byTurns_217 hR
        · refine gx_iconst (v := (1 : Int32)) Cx eX8_byTurns_192 (by decide) ?_
          refine gx_goto (tgt := 217) Cx eX8_byTurns_193 (by decide) ?_
          exact gx_rI h rfl eX8_byTurns_217 hR
    · refine gx_aload_n Cx eX8_byTurns_88 0 rfl ?_
      refine gfX8_18 Cx eX8_byTurns_89 ?_
      refine gx_iconst (v := (4 : Int32)) Cx eX8_byTurns_92 (by decide) ?_
      refine gx_aload_n Cx eX8_byTurns_93 0 rfl ?_
      refine gfX8_347 Cx eX8_byTurns_94 ?_
      refine gx_imul Cx eX8_byTurns_97 ?_
      refine gx_iload Cx eX8_byTurns_98 3 rfl ?_
      refine gx_iadd Cx eX8_byTurns_100 ?_
      refine gx_iald Cx gx_y60 eX8_byTurns_101 h (fun h => ?_)
      refine gx_aload_n Cx eX8_byTurns_102 0 rfl ?_
      refine gfX8_18 Cx eX8_byTurns_103 ?_
      refine gx_iconst (v := (4 : Int32)) Cx eX8_byTurns_106 (by decide) ?_
      refine gx_aload_n Cx eX8_byTurns_107 0 rfl ?_
      refine gfX8_347 Cx eX8_byTurns_108 ?_
      refine gx_imul Cx eX8_byTurns_111 ?_
      refine gx_aload_n Cx eX8_byTurns_112 0 rfl ?_
      refine gfX8_350 Cx eX8_byTurns_113 ?_
      refine gx_iadd Cx eX8_byTurns_116 ?_
      refine gx_iald Cx gx_y60 eX8_byTurns_117 h (fun h => ?_)
      refine gx_icmp_le (tgt := 127) Cx eX8_byTurns_118 (by decide) h (fun h => ?_) (fun h => ?_)
      · exact B127 _ _ h
      · refine gx_aload_n Cx eX8_byTurns_121 0 rfl ?_
        refine gx_iload Cx eX8_byTurns_122 3 rfl ?_
        refine pfX8_350 Cx eX8_byTurns_124 h (fun M22 h => ?_)
        exact B127 _ _ h
  have L82 : ∀  (n : Nat) (v4 : Int32) (M : gx_Mem), f_X8_byTurns_l82 v2 v3 n v4 M = some (r9, M9) → gx_G κ Γ 82 [(0, .ref (gx_a κ 57)), (2, .int v2), (3, .int v3), (4, .int v4)] [] M := by
    intro n
    induction n with
    | zero => intro v4 M h; exact gx_loop_0 h
    | succ n ih => intro v4 M h; exact K82 (fun v4 M => f_X8_byTurns_l82 v2 v3 n v4 M) ih v4 M h
  have h := hf
  refine gx_iload_n Cx eX8_byTurns_0 1 rfl ?_
  refine gx_if_lt (tgt := 56) Cx eX8_byTurns_1 (by decide) h (fun h => ?_) (fun h => ?_)
  · refine gx_iconst (v := (-1 : Int32)) Cx eX8_byTurns_56 (by decide) ?_
    exact gx_rI h rfl eX8_byTurns_57 hR
  · refine gx_aload_n Cx eX8_byTurns_4 0 rfl ?_
    refine gx_iload_n Cx eX8_byTurns_5 1 rfl ?_
    refine gx_bipush (v := (10 : Int32)) Cx eX8_byTurns_6 (by decide) ?_
    refine gx_idivC Cx eX8_byTurns_8 (by decide) ?_
    obtain ⟨y2, h1, h⟩ := gx_bP_of h
    refine gx_callVI (ci := 8) Cx my_X8_isOne wlX8_140 rfl gx_y57 (by decide) rfl eX8_byTurns_9 (c_X8_isOne κ h1) rfl (Nat.le_of_ble_eq_true rfl) ?_
    refine gx_if_eq (tgt := 56) Cx eX8_byTurns_12 (by decide) h (fun h => ?_) (fun h => ?_)
    · refine gx_iconst (v := (-1 : Int32)) Cx eX8_byTurns_56 (by decide) ?_
      exact gx_rI h rfl eX8_byTurns_57 hR
    · refine gx_aload_n Cx eX8_byTurns_15 0 rfl ?_
      refine gx_iload_n Cx eX8_byTurns_16 1 rfl ?_
      refine gx_bipush (v := (10 : Int32)) Cx eX8_byTurns_17 (by decide) ?_
      refine gx_iremC Cx eX8_byTurns_19 (by decide) ?_
      obtain ⟨y4, h3, h⟩ := gx_bP_of h
      refine gx_callVI (ci := 8) Cx my_X8_isOne wlX8_140 rfl gx_y57 (by decide) rfl eX8_byTurns_20 (c_X8_isOne κ h3) rfl (Nat.le_of_ble_eq_true rfl) ?_
      refine gx_if_eq (tgt := 56) Cx eX8_byTurns_23 (by decide) h (fun h => ?_) (fun h => ?_)
      · refine gx_iconst (v := (-1 : Int32)) Cx eX8_byTurns_56 (by decide) ?_
        exact gx_rI h rfl eX8_byTurns_57 hR
      · refine gx_iload_n Cx eX8_byTurns_26 1 rfl ?_
        refine gx_bipush (v := (10 : Int32)) Cx eX8_byTurns_27 (by decide) ?_
        refine gx_idivC Cx eX8_byTurns_29 (by decide) ?_
        refine gx_iload_n Cx eX8_byTurns_30 1 rfl ?_
        refine gx_bipush (v := (10 : Int32)) Cx eX8_byTurns_31 (by decide) ?_
        refine gx_iremC Cx eX8_byTurns_33 (by decide) ?_
        refine gx_icmp_eq (tgt := 56) Cx eX8_byTurns_34 (by decide) h (fun h => ?_) (fun h => ?_)
        · refine gx_iconst (v := (-1 : Int32)) Cx eX8_byTurns_56 (by decide) ?_
          exact gx_rI h rfl eX8_byTurns_57 hR
        · refine gx_iload_n Cx eX8_byTurns_37 2 rfl ?_
          refine gx_iconst (v := (1 : Int32)) Cx eX8_byTurns_38 (by decide) ?_
          refine gx_bipush (v := (6 : Int32)) Cx eX8_byTurns_39 (by decide) ?_
          obtain ⟨y6, h5, h⟩ := gx_bP_of h
          refine gx_callSI Cx my_X8_in wlX8_136 (by decide) rfl eX8_byTurns_41 (c_X8_in κ h5) rfl (Nat.le_of_ble_eq_true rfl) ?_
          refine gx_if_eq (tgt := 56) Cx eX8_byTurns_44 (by decide) h (fun h => ?_) (fun h => ?_)
          · refine gx_iconst (v := (-1 : Int32)) Cx eX8_byTurns_56 (by decide) ?_
            exact gx_rI h rfl eX8_byTurns_57 hR
          · refine gx_iload_n Cx eX8_byTurns_47 3 rfl ?_
            refine gx_iconst (v := (0 : Int32)) Cx eX8_byTurns_48 (by decide) ?_
            refine gx_iconst (v := (1 : Int32)) Cx eX8_byTurns_49 (by decide) ?_
            obtain ⟨y8, h7, h⟩ := gx_bP_of h
            refine gx_callSI Cx my_X8_in wlX8_136 (by decide) rfl eX8_byTurns_50 (c_X8_in κ h7) rfl (Nat.le_of_ble_eq_true rfl) ?_
            refine gx_if_ne (tgt := 58) Cx eX8_byTurns_53 (by decide) h (fun h => ?_) (fun h => ?_)
            · refine gx_aload_n Cx eX8_byTurns_58 0 rfl ?_
              refine gx_iload_n Cx eX8_byTurns_59 1 rfl ?_
              refine gx_bipush (v := (10 : Int32)) Cx eX8_byTurns_60 (by decide) ?_
              refine gx_idivC Cx eX8_byTurns_62 (by decide) ?_
              refine pfX8_344 Cx eX8_byTurns_63 h (fun M9 h => ?_)
              refine gx_aload_n Cx eX8_byTurns_66 0 rfl ?_
              refine gx_iload_n Cx eX8_byTurns_67 1 rfl ?_
              refine gx_bipush (v := (10 : Int32)) Cx eX8_byTurns_68 (by decide) ?_
              refine gx_iremC Cx eX8_byTurns_70 (by decide) ?_
              refine pfX8_347 Cx eX8_byTurns_71 h (fun M10 h => ?_)
              refine gx_aload_n Cx eX8_byTurns_74 0 rfl ?_
              refine gx_iconst (v := (0 : Int32)) Cx eX8_byTurns_75 (by decide) ?_
              refine pfX8_350 Cx eX8_byTurns_76 h (fun M11 h => ?_)
              refine gx_iconst (v := (1 : Int32)) Cx eX8_byTurns_79 (by decide) ?_
              refine gx_istore Cx eX8_byTurns_80 [(4, .int (1 : Int32)), (0, .ref (gx_a κ 57)), (1, .int v1), (2, .int v2), (3, .int v3)] rfl (by decide) ?_
              refine gx_sub [1, 3, 4, 0] rfl ?_
              exact L82 _ _ _ h
            · refine gx_iconst (v := (-1 : Int32)) Cx eX8_byTurns_56 (by decide) ?_
              exact gx_rI h rfl eX8_byTurns_57 hR
set_option maxHeartbeats 4000000 in
set_option maxRecDepth 100000 in
theorem c_X8_toPorter (κ : gx_K) {v1 : Int32} {M : gx_Mem} {r9 : Int32} (hf : f_X8_toPorter v1 M = some r9) : gx_CI κ yX8_toPorter cX8_toPorter 4 (some .int) 0 [.ref (gx_a κ 57), .int v1] M r9 M := by
  refine gx_enterI (d := 0) my_X8_toPorter.1 (by decide) (Nat.le_of_ble_eq_true rfl) (fun Γ Cx hR => ?_)
  change gx_G κ Γ 0 [(0, .ref (gx_a κ 57)), (1, .int v1)] [] M
  have K4 : ∀  (ag4 : Int32 → Int32 → Option Int32) (hag4 : ∀ (v2 : Int32) (v3 : Int32), ag4 v2 v3 = some r9 → gx_G κ Γ 4 [(0, .ref (gx_a κ 57)), (1, .int v1), (2, .int v2), (3, .int v3)] [] M) (v2 : Int32) (v3 : Int32), f_X8_toPorter_k4 v1 ag4 v2 v3 M = some r9 → gx_G κ Γ 4 [(0, .ref (gx_a κ 57)), (1, .int v1), (2, .int v2), (3, .int v3)] [] M := by
    intro ag4 hag4
    intro v2 v3 h
    refine gx_iload_n Cx eX8_toPorter_4 3 rfl ?_
    refine gx_iconst (v := (3 : Int32)) Cx eX8_toPorter_5 (by decide) ?_
    refine gx_icmp_ge (tgt := 32) Cx eX8_toPorter_6 (by decide) h (fun h => ?_) (fun h => ?_)
    · refine gx_iload_n Cx eX8_toPorter_32 2 rfl ?_
      exact gx_rIp h rfl eX8_toPorter_33 hR
    · refine gx_iload_n Cx eX8_toPorter_9 2 rfl ?_
      refine gx_aload_n Cx eX8_toPorter_10 0 rfl ?_
      refine gfX8_83 Cx eX8_toPorter_11 ?_
      refine gx_bipush (v := (24 : Int32)) Cx eX8_toPorter_14 (by decide) ?_
      refine gx_iload_n Cx eX8_toPorter_16 1 rfl ?_
      refine gx_imul Cx eX8_toPorter_17 ?_
      refine gx_bipush (v := (8 : Int32)) Cx eX8_toPorter_18 (by decide) ?_
      refine gx_iload_n Cx eX8_toPorter_20 3 rfl ?_
      refine gx_imul Cx eX8_toPorter_21 ?_
      refine gx_iadd Cx eX8_toPorter_22 ?_
      refine gx_iald Cx gx_y81 eX8_toPorter_23 h (fun h => ?_)
      refine gx_iadd Cx eX8_toPorter_24 ?_
      refine gx_nmI h (fun x1 h => ?_)
      refine gx_istore_n Cx eX8_toPorter_25 [(2, .int x1), (0, .ref (gx_a κ 57)), (1, .int v1), (3, .int v3)] rfl (by decide) ?_
      refine gx_iinc (v := (1 : Int32)) (i := 3) (j := 3) Cx eX8_toPorter_26 (by decide) h 3 rfl (fun w => [(3, .int w), (2, .int x1), (0, .ref (gx_a κ 57)), (1, .int v1)]) (fun _ => rfl) (by decide) (fun x2 h => ?_)
      refine gx_goto (tgt := 4) Cx eX8_toPorter_29 (by decide) ?_
      refine gx_sub [2, 3, 1, 0] rfl ?_
      exact hag4 _ _ h
  have L4 : ∀  (n : Nat) (v2 : Int32) (v3 : Int32), f_X8_toPorter_l4 v1 n v2 v3 M = some r9 → gx_G κ Γ 4 [(0, .ref (gx_a κ 57)), (1, .int v1), (2, .int v2), (3, .int v3)] [] M := by
    intro n
    induction n with
    | zero => intro v2 v3 h; exact gx_loop_0 h
    | succ n ih => intro v2 v3 h; exact K4 (fun v2 v3 => f_X8_toPorter_l4 v1 n v2 v3 M) ih v2 v3 h
  have h := hf
  refine gx_iconst (v := (0 : Int32)) Cx eX8_toPorter_0 (by decide) ?_
  refine gx_istore_n Cx eX8_toPorter_1 [(2, .int (0 : Int32)), (0, .ref (gx_a κ 57)), (1, .int v1)] rfl (by decide) ?_
  refine gx_iconst (v := (0 : Int32)) Cx eX8_toPorter_2 (by decide) ?_
  refine gx_istore_n Cx eX8_toPorter_3 [(3, .int (0 : Int32)), (2, .int (0 : Int32)), (0, .ref (gx_a κ 57)), (1, .int v1)] rfl (by decide) ?_
  refine gx_sub [2, 3, 1, 0] rfl ?_
  exact L4 _ _ _ h
set_option maxHeartbeats 4000000 in
set_option maxRecDepth 100000 in
theorem c_X8_goMark (κ : gx_K) {v1 : Int32} {M : gx_Mem} {M9 : gx_Mem} (hf : f_X8_goMark v1 M = some M9) : gx_CV κ yX8_goMark cX8_goMark 4 none 5 [.ref (gx_a κ 57), .int v1] M M9 := by
  refine gx_enterV (d := 5) my_X8_goMark.1 (by decide) (Nat.le_of_ble_eq_true rfl) (fun Γ Cx hR => ?_)
  change gx_G κ Γ 0 [(0, .ref (gx_a κ 57)), (1, .int v1)] [] M
  have K21 : ∀  (ag21 : Int32 → gx_Mem → Option gx_Mem) (hag21 : ∀ (v2 : Int32) (M : gx_Mem), ag21 v2 M = some M9 → gx_G κ Γ 21 [(0, .ref (gx_a κ 57)), (1, .int v1), (2, .int v2)] [] M) (v2 : Int32) (M : gx_Mem), f_X8_goMark_k21 v1 ag21 v2 M = some M9 → gx_G κ Γ 21 [(0, .ref (gx_a κ 57)), (1, .int v1), (2, .int v2)] [] M := by
    intro ag21 hag21
    have B85 : ∀ (v2 : Int32) (M : gx_Mem), f_X8_goMark_b85 ag21 v1 v2 M = some M9 → gx_G κ Γ 85 [(0, .ref (gx_a κ 57)), (1, .int v1), (2, .int v2)] [] M := by
      intro v2 M h
      refine gx_iinc (v := (1 : Int32)) (i := 2) (j := 2) Cx eX8_goMark_85 (by decide) h 2 rfl (fun w => [(2, .int w), (0, .ref (gx_a κ 57)), (1, .int v1)]) (fun _ => rfl) (by decide) (fun x11 h => ?_)
      refine gx_goto (tgt := 21) Cx eX8_goMark_88 (by decide) ?_
      refine gx_sub [1, 2, 0] rfl ?_
      exact hag21 _ _ h
    have B84 : ∀ (v2 : Int32) (s1 : Int32) (s2 : Int32) (M : gx_Mem), f_X8_goMark_b84 ag21 v1 v2 s1 s2 M = some M9 → gx_G κ Γ 84 [(0, .ref (gx_a κ 57)), (1, .int v1), (2, .int v2)] [.int s2, .int s1, .ref (gx_a κ 78)] M := by
      intro v2 s1 s2 M h
      refine gx_iast Cx gx_y78 eX8_goMark_84 h (fun M12 h => ?_)
      exact B85 _ _ h
    intro v2 M h
    refine gx_iload_n Cx eX8_goMark_21 2 rfl ?_
    refine gx_aload_n Cx eX8_goMark_22 0 rfl ?_
    refine gfX8_133 Cx eX8_goMark_23 ?_
    refine gx_icmp_ge (tgt := 91) Cx eX8_goMark_26 (by decide) h (fun h => ?_) (fun h => ?_)
    · exact gx_rV h eX8_goMark_91 hR
    · refine gx_aload_n Cx eX8_goMark_29 0 rfl ?_
      refine gfX8_267 Cx eX8_goMark_30 ?_
      refine gx_iload_n Cx eX8_goMark_33 2 rfl ?_
      obtain ⟨y7, h6, h⟩ := gx_bP_of h
      refine gx_callSI Cx my_X8_has wlX8_261 (by decide) rfl eX8_goMark_34 (c_X8_has κ h6) rfl (Nat.le_of_ble_eq_true rfl) ?_
      refine gx_if_ne (tgt := 43) Cx eX8_goMark_37 (by decide) h (fun h => ?_) (fun h => ?_)
      · refine gx_aload_n Cx eX8_goMark_43 0 rfl ?_
        refine gfX8_74 Cx eX8_goMark_44 ?_
        refine gx_iconst (v := (4 : Int32)) Cx eX8_goMark_47 (by decide) ?_
        refine gx_iload_n Cx eX8_goMark_48 2 rfl ?_
        refine gx_imul Cx eX8_goMark_49 ?_
        refine gx_iload_n Cx eX8_goMark_50 1 rfl ?_
        refine gx_iadd Cx eX8_goMark_51 ?_
        refine gx_iald Cx gx_y78 eX8_goMark_52 h (fun h => ?_)
        refine gx_aload_n Cx eX8_goMark_53 0 rfl ?_
        refine gx_iload_n Cx eX8_goMark_54 2 rfl ?_
        refine gx_iload_n Cx eX8_goMark_55 1 rfl ?_
        obtain ⟨y9, h8, h⟩ := gx_bP_of h
        refine gx_callVI (ci := 8) Cx my_X8_wetsBy wlX8_281 rfl gx_y57 (by decide) rfl eX8_goMark_56 (c_X8_wetsBy κ h8) rfl (Nat.le_of_ble_eq_true rfl) ?_
        refine gx_iadd Cx eX8_goMark_59 ?_
        refine gx_nmI h (fun x10 h => ?_)
        refine gx_istore_n Cx eX8_goMark_60 [(3, .int x10), (0, .ref (gx_a κ 57)), (1, .int v1), (2, .int v2)] rfl (by decide) ?_
        refine gx_aload_n Cx eX8_goMark_61 1 rfl ?_
        refine gfX8_74 Cx eX8_goMark_62 ?_
        refine gx_iconst (v := (4 : Int32)) Cx eX8_goMark_65 (by decide) ?_
        refine gx_iload_n Cx eX8_goMark_66 3 rfl ?_
        refine gx_imul Cx eX8_goMark_67 ?_
        refine gx_iload_n Cx eX8_goMark_68 2 rfl ?_
        refine gx_iadd Cx eX8_goMark_69 ?_
        refine gx_iload_n Cx eX8_goMark_70 0 rfl ?_
        refine gx_sipush (v := (9999 : Int32)) Cx eX8_goMark_71 (by decide) ?_
        refine gx_icmp_le (tgt := 83) Cx eX8_goMark_74 (by decide) h (fun h => ?_) (fun h => ?_)
        · refine gx_iload_n Cx eX8_goMark_83 0 rfl ?_
          refine gx_sub [1, 2, 3] rfl ?_
          exact B84 _ _ _ _ h
        · refine gx_sipush (v := (9999 : Int32)) Cx eX8_goMark_77 (by decide) ?_
          refine gx_goto (tgt := 84) Cx eX8_goMark_80 (by decide) ?_
          refine gx_sub [1, 2, 3] rfl ?_
          exact B84 _ _ _ _ h
      · refine gx_goto (tgt := 85) Cx eX8_goMark_40 (by decide) ?_
        exact B85 _ _ h
  have L21 : ∀  (n : Nat) (v2 : Int32) (M : gx_Mem), f_X8_goMark_l21 v1 n v2 M = some M9 → gx_G κ Γ 21 [(0, .ref (gx_a κ 57)), (1, .int v1), (2, .int v2)] [] M := by
    intro n
    induction n with
    | zero => intro v2 M h; exact gx_loop_0 h
    | succ n ih => intro v2 M h; exact K21 (fun v2 M => f_X8_goMark_l21 v1 n v2 M) ih v2 M h
  have h := hf
  refine gx_aload_n Cx eX8_goMark_0 0 rfl ?_
  refine gx_iload_n Cx eX8_goMark_1 1 rfl ?_
  obtain ⟨M2, h1, h⟩ := gx_bP_of h
  refine gx_callVV (ci := 8) Cx my_X8_flow wlX8_274 rfl gx_y57 (by decide) rfl eX8_goMark_2 (c_X8_flow κ h1) rfl (Nat.le_of_ble_eq_true rfl) ?_
  refine gx_aload_n Cx eX8_goMark_5 0 rfl ?_
  refine gfX8_77 Cx eX8_goMark_6 ?_
  refine gx_iload_n Cx eX8_goMark_9 1 rfl ?_
  refine gx_dup2 Cx eX8_goMark_10 rfl rfl ?_
  refine gx_iald Cx gx_y79 eX8_goMark_11 h (fun h => ?_)
  refine gx_aload_n Cx eX8_goMark_12 0 rfl ?_
  refine gx_iload_n Cx eX8_goMark_13 1 rfl ?_
  obtain ⟨y4, h3, h⟩ := gx_bP_of h
  refine gx_callVI (ci := 8) Cx my_X8_toPorter wlX8_278 rfl gx_y57 (by decide) rfl eX8_goMark_14 (c_X8_toPorter κ h3) rfl (Nat.le_of_ble_eq_true rfl) ?_
  refine gx_iadd Cx eX8_goMark_17 ?_
  refine gx_iast Cx gx_y79 eX8_goMark_18 h (fun M5 h => ?_)
  refine gx_iconst (v := (0 : Int32)) Cx eX8_goMark_19 (by decide) ?_
  refine gx_istore_n Cx eX8_goMark_20 [(2, .int (0 : Int32)), (0, .ref (gx_a κ 57)), (1, .int v1)] rfl (by decide) ?_
  refine gx_sub [1, 2, 0] rfl ?_
  exact L21 _ _ _ h
set_option maxHeartbeats 4000000 in
set_option maxRecDepth 100000 in
theorem c_X8_goHours (κ : gx_K) {v1 : Int32} {v2 : Int32} {M : gx_Mem} {M9 : gx_Mem} (hf : f_X8_goHours v1 v2 M = some M9) : gx_CV κ yX8_goHours cX8_goHours 5 none 6 [.ref (gx_a κ 57), .int v1, .int v2] M M9 := by
  refine gx_enterV (d := 6) my_X8_goHours.1 (by decide) (Nat.le_of_ble_eq_true rfl) (fun Γ Cx hR => ?_)
  change gx_G κ Γ 0 [(0, .ref (gx_a κ 57)), (1, .int v1), (2, .int v2)] [] M
  have K2 : ∀  (ag2 : Int32 → gx_Mem → Option gx_Mem) (hag2 : ∀ (v3 : Int32) (M : gx_Mem), ag2 v3 M = some M9 → gx_G κ Γ 2 [(0, .ref (gx_a κ 57)), (1, .int v1), (2, .int v2), (3, .int v3)] [] M) (v3 : Int32) (M : gx_Mem), f_X8_goHours_k2 v1 v2 ag2 v3 M = some M9 → gx_G κ Γ 2 [(0, .ref (gx_a κ 57)), (1, .int v1), (2, .int v2), (3, .int v3)] [] M := by
    intro ag2 hag2
    have K23 : ∀ (v3 : Int32) (ag23 : Int32 → gx_Mem → Option gx_Mem) (hag23 : ∀ (v4 : Int32) (M : gx_Mem), ag23 v4 M = some M9 → gx_G κ Γ 23 [(0, .ref (gx_a κ 57)), (1, .int v1), (2, .int v2), (3, .int v3), (4, .int v4)] [] M) (v4 : Int32) (M : gx_Mem), f_X8_goHours_k23 ag2 v1 v2 v3 ag23 v4 M = some M9 → gx_G κ Γ 23 [(0, .ref (gx_a κ 57)), (1, .int v1), (2, .int v2), (3, .int v3), (4, .int v4)] [] M := by
      intro v3 ag23 hag23
      intro v4 M h
      refine gx_iload Cx eX8_goHours_23 4 rfl ?_
      refine gx_iconst (v := (4 : Int32)) Cx eX8_goHours_25 (by decide) ?_
      refine gx_icmp_ge (tgt := 41) Cx eX8_goHours_26 (by decide) h (fun h => ?_) (fun h => ?_)
      · refine gx_aload_n Cx eX8_goHours_41 0 rfl ?_
        refine gx_aload_n Cx eX8_goHours_42 0 rfl ?_
        refine gfX8_258 Cx eX8_goHours_43 ?_
        refine gx_iconst (v := (1 : Int32)) Cx eX8_goHours_46 (by decide) ?_
        refine gx_iadd Cx eX8_goHours_47 ?_
        refine gx_bipush (v := (12 : Int32)) Cx eX8_goHours_48 (by decide) ?_
        refine gx_iremC Cx eX8_goHours_50 (by decide) ?_
        refine pfX8_258 Cx eX8_goHours_51 h (fun M4 h => ?_)
        refine gx_iinc (v := (1 : Int32)) (i := 3) (j := 3) Cx eX8_goHours_54 (by decide) h 3 rfl (fun w => [(3, .int w), (0, .ref (gx_a κ 57)), (1, .int v1), (2, .int v2), (4, .int v4)]) (fun _ => rfl) (by decide) (fun x5 h => ?_)
        refine gx_goto (tgt := 2) Cx eX8_goHours_57 (by decide) ?_
        refine gx_sub [1, 2, 3, 0] rfl ?_
        exact hag2 _ _ h
      · refine gx_aload_n Cx eX8_goHours_29 0 rfl ?_
        refine gx_iload Cx eX8_goHours_30 4 rfl ?_
        obtain ⟨M7, h6, h⟩ := gx_bP_of h
        refine gx_callVV (ci := 8) Cx my_X8_goMark wlX8_287 rfl gx_y57 (by decide) rfl eX8_goHours_32 (c_X8_goMark κ h6) rfl (Nat.le_of_ble_eq_true rfl) ?_
        refine gx_iinc (v := (1 : Int32)) (i := 4) (j := 4) Cx eX8_goHours_35 (by decide) h 4 rfl (fun w => [(4, .int w), (0, .ref (gx_a κ 57)), (1, .int v1), (2, .int v2), (3, .int v3)]) (fun _ => rfl) (by decide) (fun x8 h => ?_)
        refine gx_goto (tgt := 23) Cx eX8_goHours_38 (by decide) ?_
        refine gx_sub [1, 2, 3, 4, 0] rfl ?_
        exact hag23 _ _ h
    have L23 : ∀ (v3 : Int32) (n : Nat) (v4 : Int32) (M : gx_Mem), f_X8_goHours_l23 ag2 v1 v2 v3 n v4 M = some M9 → gx_G κ Γ 23 [(0, .ref (gx_a κ 57)), (1, .int v1), (2, .int v2), (3, .int v3), (4, .int v4)] [] M := by
      intro v3 n
      induction n with
      | zero => intro v4 M h; exact gx_loop_0 h
      | succ n ih => intro v4 M h; exact K23 v3 (fun v4 M => f_X8_goHours_l23 ag2 v1 v2 v3 n v4 M) ih v4 M h
    intro v3 M h
    refine gx_iload_n Cx eX8_goHours_2 3 rfl ?_
    refine gx_iload_n Cx eX8_goHours_3 1 rfl ?_
    refine gx_icmp_ge (tgt := 60) Cx eX8_goHours_4 (by decide) h (fun h => ?_) (fun h => ?_)
    · exact gx_rV h eX8_goHours_60 hR
    · refine gx_aload_n Cx eX8_goHours_7 0 rfl ?_
      refine gx_aload_n Cx eX8_goHours_8 0 rfl ?_
      refine gx_aload_n Cx eX8_goHours_9 0 rfl ?_
      refine gfX8_258 Cx eX8_goHours_10 ?_
      refine gx_iload_n Cx eX8_goHours_13 2 rfl ?_
      obtain ⟨y2, h1, h⟩ := gx_bP_of h
      refine gx_callVI (ci := 8) Cx my_X8_outAt wlX8_284 rfl gx_y57 (by decide) rfl eX8_goHours_14 (c_X8_outAt κ h1) rfl (Nat.le_of_ble_eq_true rfl) ?_
      refine pfX8_267 Cx eX8_goHours_17 h (fun M3 h => ?_)
      refine gx_iconst (v := (0 : Int32)) Cx eX8_goHours_20 (by decide) ?_
      refine gx_istore Cx eX8_goHours_21 [(4, .int (0 : Int32)), (0, .ref (gx_a κ 57)), (1, .int v1), (2, .int v2), (3, .int v3)] rfl (by decide) ?_
      refine gx_sub [1, 2, 3, 4, 0] rfl ?_
      exact L23 _ _ _ _ h
  have L2 : ∀  (n : Nat) (v3 : Int32) (M : gx_Mem), f_X8_goHours_l2 v1 v2 n v3 M = some M9 → gx_G κ Γ 2 [(0, .ref (gx_a κ 57)), (1, .int v1), (2, .int v2), (3, .int v3)] [] M := by
    intro n
    induction n with
    | zero => intro v3 M h; exact gx_loop_0 h
    | succ n ih => intro v3 M h; exact K2 (fun v3 M => f_X8_goHours_l2 v1 v2 n v3 M) ih v3 M h
  have h := hf
  refine gx_iconst (v := (0 : Int32)) Cx eX8_goHours_0 (by decide) ?_
  refine gx_istore_n Cx eX8_goHours_1 [(3, .int (0 : Int32)), (0, .ref (gx_a κ 57)), (1, .int v1), (2, .int v2)] rfl (by decide) ?_
  refine gx_sub [1, 2, 3, 0] rfl ?_
  exact L2 _ _ _ h
set_option maxHeartbeats 4000000 in
set_option maxRecDepth 100000 in
theorem c_X8_caught (κ : gx_K) {v1 : Int32} {v2 : Int32} {M : gx_Mem} {r9 : Int32} {M9 : gx_Mem} (hf : f_X8_caught v1 v2 M = some (r9, M9)) : gx_CI κ yX8_caught cX8_caught 3 (some .int) 7 [.ref (gx_a κ 57), .int v1, .int v2] M r9 M9 := by
  refine gx_enterI (d := 7) my_X8_caught.1 (by decide) (Nat.le_of_ble_eq_true rfl) (fun Γ Cx hR => ?_)
  change gx_G κ Γ 0 [(0, .ref (gx_a κ 57)), (1, .int v1), (2, .int v2)] [] M
  have h := hf
  refine gx_iload_n Cx eX8_caught_0 1 rfl ?_
  obtain ⟨y2, h1, h⟩ := gx_bP_of h
  refine gx_callSI Cx my_X8_areHours wlX8_293 (by decide) rfl eX8_caught_1 (c_X8_areHours κ h1) rfl (Nat.le_of_ble_eq_true rfl) ?_
  refine gx_if_eq (tgt := 14) Cx eX8_caught_4 (by decide) h (fun h => ?_) (fun h => ?_)
  · refine gx_iconst (v := (-1 : Int32)) Cx eX8_caught_14 (by decide) ?_
    exact gx_rI h rfl eX8_caught_15 hR
  · refine gx_iload_n Cx eX8_caught_7 2 rfl ?_
    obtain ⟨y4, h3, h⟩ := gx_bP_of h
    refine gx_callSI Cx my_X8_isMark wlX8_144 (by decide) rfl eX8_caught_8 (c_X8_isMark κ h3) rfl (Nat.le_of_ble_eq_true rfl) ?_
    refine gx_if_ne (tgt := 16) Cx eX8_caught_11 (by decide) h (fun h => ?_) (fun h => ?_)
    · refine gx_aload_n Cx eX8_caught_16 0 rfl ?_
      obtain ⟨M6, h5, h⟩ := gx_bP_of h
      refine gx_callVV (ci := 8) Cx my_X8_layNow wlX8_290 rfl gx_y57 (by decide) rfl eX8_caught_17 (c_X8_layNow κ h5) rfl (Nat.le_of_ble_eq_true rfl) ?_
      refine gx_aload_n Cx eX8_caught_20 0 rfl ?_
      refine gx_iload_n Cx eX8_caught_21 1 rfl ?_
      refine gx_bipush (v := (63 : Int32)) Cx eX8_caught_22 (by decide) ?_
      obtain ⟨M8, h7, h⟩ := gx_bP_of h
      refine gx_callVV (ci := 8) Cx my_X8_goHours wlX8_296 rfl gx_y57 (by decide) rfl eX8_caught_24 (c_X8_goHours κ h7) rfl (Nat.le_of_ble_eq_true rfl) ?_
      refine gx_aload_n Cx eX8_caught_27 0 rfl ?_
      refine gfX8_77 Cx eX8_caught_28 ?_
      refine gx_iload_n Cx eX8_caught_31 2 rfl ?_
      refine gx_iald Cx gx_y79 eX8_caught_32 h (fun h => ?_)
      exact gx_rI h rfl eX8_caught_33 hR
    · refine gx_iconst (v := (-1 : Int32)) Cx eX8_caught_14 (by decide) ?_
      exact gx_rI h rfl eX8_caught_15 hR
set_option maxHeartbeats 4000000 in
set_option maxRecDepth 100000 in
theorem c_X8_wetOfDealing (κ : gx_K) {v1 : Int32} {v2 : Int32} {M : gx_Mem} {r9 : Int32} {M9 : gx_Mem} (hf : f_X8_wetOfDealing v1 v2 M = some (r9, M9)) : gx_CI κ yX8_wetOfDealing cX8_wetOfDealing 4 (some .int) 6 [.ref (gx_a κ 57), .int v1, .int v2] M r9 M9 := by
  refine gx_enterI (d := 6) my_X8_wetOfDealing.1 (by decide) (Nat.le_of_ble_eq_true rfl) (fun Γ Cx hR => ?_)
  change gx_G κ Γ 0 [(0, .ref (gx_a κ 57)), (1, .int v1), (2, .int v2)] [] M
  have K39 : ∀  (ag39 : Int32 → gx_Mem → Option (Int32 × gx_Mem)) (hag39 : ∀ (v3 : Int32) (M : gx_Mem), ag39 v3 M = some (r9, M9) → gx_G κ Γ 39 [(0, .ref (gx_a κ 57)), (1, .int v1), (2, .int v2), (3, .int v3)] [] M) (v3 : Int32) (M : gx_Mem), f_X8_wetOfDealing_k39 v1 v2 ag39 v3 M = some (r9, M9) → gx_G κ Γ 39 [(0, .ref (gx_a κ 57)), (1, .int v1), (2, .int v2), (3, .int v3)] [] M := by
    intro ag39 hag39
    intro v3 M h
    refine gx_iload_n Cx eX8_wetOfDealing_39 3 rfl ?_
    refine gx_bipush (v := (12 : Int32)) Cx eX8_wetOfDealing_40 (by decide) ?_
    refine gx_icmp_ge (tgt := 77) Cx eX8_wetOfDealing_42 (by decide) h (fun h => ?_) (fun h => ?_)
    · refine gx_aload_n Cx eX8_wetOfDealing_77 0 rfl ?_
      refine gfX8_74 Cx eX8_wetOfDealing_78 ?_
      refine gx_iconst (v := (4 : Int32)) Cx eX8_wetOfDealing_81 (by decide) ?_
      refine gx_iload_n Cx eX8_wetOfDealing_82 1 rfl ?_
      refine gx_imul Cx eX8_wetOfDealing_83 ?_
      refine gx_iload_n Cx eX8_wetOfDealing_84 2 rfl ?_
      refine gx_iadd Cx eX8_wetOfDealing_85 ?_
      refine gx_iald Cx gx_y78 eX8_wetOfDealing_86 h (fun h => ?_)
      refine gx_aload_n Cx eX8_wetOfDealing_87 0 rfl ?_
      refine gfX8_21 Cx eX8_wetOfDealing_88 ?_
      refine gx_iconst (v := (4 : Int32)) Cx eX8_wetOfDealing_91 (by decide) ?_
      refine gx_iload_n Cx eX8_wetOfDealing_92 1 rfl ?_
      refine gx_imul Cx eX8_wetOfDealing_93 ?_
      refine gx_iload_n Cx eX8_wetOfDealing_94 2 rfl ?_
      refine gx_iadd Cx eX8_wetOfDealing_95 ?_
      refine gx_iald Cx gx_y61 eX8_wetOfDealing_96 h (fun h => ?_)
      refine gx_isub Cx eX8_wetOfDealing_97 ?_
      exact gx_rI h rfl eX8_wetOfDealing_98 hR
    · refine gx_aload_n Cx eX8_wetOfDealing_45 0 rfl ?_
      refine gx_aload_n Cx eX8_wetOfDealing_46 0 rfl ?_
      refine gx_aload_n Cx eX8_wetOfDealing_47 0 rfl ?_
      refine gfX8_27 Cx eX8_wetOfDealing_48 ?_
      refine gx_iconst (v := (1 : Int32)) Cx eX8_wetOfDealing_51 (by decide) ?_
      refine gx_ialdC (α := Unit) (b := none) Cx gx_y63 eX8_wetOfDealing_52 (by decide) ?_
      refine gx_iload_n Cx eX8_wetOfDealing_53 3 rfl ?_
      refine gx_iadd Cx eX8_wetOfDealing_54 ?_
      refine gx_bipush (v := (12 : Int32)) Cx eX8_wetOfDealing_55 (by decide) ?_
      refine gx_iremC Cx eX8_wetOfDealing_57 (by decide) ?_
      refine gx_bipush (v := (63 : Int32)) Cx eX8_wetOfDealing_58 (by decide) ?_
      obtain ⟨y6, h5, h⟩ := gx_bP_of h
      refine gx_callVI (ci := 8) Cx my_X8_outAt wlX8_284 rfl gx_y57 (by decide) rfl eX8_wetOfDealing_60 (c_X8_outAt κ h5) rfl (Nat.le_of_ble_eq_true rfl) ?_
      refine pfX8_267 Cx eX8_wetOfDealing_63 h (fun M7 h => ?_)
      refine gx_aload_n Cx eX8_wetOfDealing_66 0 rfl ?_
      refine gx_iload_n Cx eX8_wetOfDealing_67 2 rfl ?_
      obtain ⟨M9, h8, h⟩ := gx_bP_of h
      refine gx_callVV (ci := 8) Cx my_X8_goMark wlX8_287 rfl gx_y57 (by decide) rfl eX8_wetOfDealing_68 (c_X8_goMark κ h8) rfl (Nat.le_of_ble_eq_true rfl) ?_
      refine gx_iinc (v := (1 : Int32)) (i := 3) (j := 3) Cx eX8_wetOfDealing_71 (by decide) h 3 rfl (fun w => [(3, .int w), (0, .ref (gx_a κ 57)), (1, .int v1), (2, .int v2)]) (fun _ => rfl) (by decide) (fun x10 h => ?_)
      refine gx_goto (tgt := 39) Cx eX8_wetOfDealing_74 (by decide) ?_
      refine gx_sub [1, 2, 3, 0] rfl ?_
      exact hag39 _ _ h
  have L39 : ∀  (n : Nat) (v3 : Int32) (M : gx_Mem), f_X8_wetOfDealing_l39 v1 v2 n v3 M = some (r9, M9) → gx_G κ Γ 39 [(0, .ref (gx_a κ 57)), (1, .int v1), (2, .int v2), (3, .int v3)] [] M := by
    intro n
    induction n with
    | zero => intro v3 M h; exact gx_loop_0 h
    | succ n ih => intro v3 M h; exact K39 (fun v3 M => f_X8_wetOfDealing_l39 v1 v2 n v3 M) ih v3 M h
  have K6 : ∀  (ag6 : Int32 → gx_Mem → Option (Int32 × gx_Mem)) (hag6 : ∀ (v3 : Int32) (M : gx_Mem), ag6 v3 M = some (r9, M9) → gx_G κ Γ 6 [(0, .ref (gx_a κ 57)), (1, .int v1), (2, .int v2), (3, .int v3)] [] M) (v3 : Int32) (M : gx_Mem), f_X8_wetOfDealing_k6 v1 v2 ag6 v3 M = some (r9, M9) → gx_G κ Γ 6 [(0, .ref (gx_a κ 57)), (1, .int v1), (2, .int v2), (3, .int v3)] [] M := by
    intro ag6 hag6
    intro v3 M h
    refine gx_iload_n Cx eX8_wetOfDealing_6 3 rfl ?_
    refine gx_aload_n Cx eX8_wetOfDealing_7 0 rfl ?_
    refine gfX8_133 Cx eX8_wetOfDealing_8 ?_
    refine gx_icmp_ge (tgt := 37) Cx eX8_wetOfDealing_11 (by decide) h (fun h => ?_) (fun h => ?_)
    · refine gx_iconst (v := (0 : Int32)) Cx eX8_wetOfDealing_37 (by decide) ?_
      refine gx_istore_n Cx eX8_wetOfDealing_38 [(3, .int (0 : Int32)), (0, .ref (gx_a κ 57)), (1, .int v1), (2, .int v2)] rfl (by decide) ?_
      refine gx_sub [1, 2, 3, 0] rfl ?_
      exact L39 _ _ _ h
    · refine gx_aload_n Cx eX8_wetOfDealing_14 0 rfl ?_
      refine gfX8_68 Cx eX8_wetOfDealing_15 ?_
      refine gx_iload_n Cx eX8_wetOfDealing_18 3 rfl ?_
      refine gx_aload_n Cx eX8_wetOfDealing_19 0 rfl ?_
      refine gfX8_9 Cx eX8_wetOfDealing_20 ?_
      refine gx_aload_n Cx eX8_wetOfDealing_23 0 rfl ?_
      refine gfX8_86 Cx eX8_wetOfDealing_24 ?_
      refine gx_iload_n Cx eX8_wetOfDealing_27 3 rfl ?_
      refine gx_iald Cx gx_y82 eX8_wetOfDealing_28 h (fun h => ?_)
      refine gx_iald Cx gx_y58 eX8_wetOfDealing_29 h (fun h => ?_)
      refine gx_iast Cx gx_y76 eX8_wetOfDealing_30 h (fun M3 h => ?_)
      refine gx_iinc (v := (1 : Int32)) (i := 3) (j := 3) Cx eX8_wetOfDealing_31 (by decide) h 3 rfl (fun w => [(3, .int w), (0, .ref (gx_a κ 57)), (1, .int v1), (2, .int v2)]) (fun _ => rfl) (by decide) (fun x4 h => ?_)
      refine gx_goto (tgt := 6) Cx eX8_wetOfDealing_34 (by decide) ?_
      refine gx_sub [1, 2, 3, 0] rfl ?_
      exact hag6 _ _ h
  have L6 : ∀  (n : Nat) (v3 : Int32) (M : gx_Mem), f_X8_wetOfDealing_l6 v1 v2 n v3 M = some (r9, M9) → gx_G κ Γ 6 [(0, .ref (gx_a κ 57)), (1, .int v1), (2, .int v2), (3, .int v3)] [] M := by
    intro n
    induction n with
    | zero => intro v3 M h; exact gx_loop_0 h
    | succ n ih => intro v3 M h; exact K6 (fun v3 M => f_X8_wetOfDealing_l6 v1 v2 n v3 M) ih v3 M h
  have h := hf
  refine gx_aload_n Cx eX8_wetOfDealing_0 0 rfl ?_
  obtain ⟨M2, h1, h⟩ := gx_bP_of h
  refine gx_callVV (ci := 8) Cx my_X8_layNow wlX8_290 rfl gx_y57 (by decide) rfl eX8_wetOfDealing_1 (c_X8_layNow κ h1) rfl (Nat.le_of_ble_eq_true rfl) ?_
  refine gx_iconst (v := (0 : Int32)) Cx eX8_wetOfDealing_4 (by decide) ?_
  refine gx_istore_n Cx eX8_wetOfDealing_5 [(3, .int (0 : Int32)), (0, .ref (gx_a κ 57)), (1, .int v1), (2, .int v2)] rfl (by decide) ?_
  refine gx_sub [1, 2, 3, 0] rfl ?_
  exact L6 _ _ _ h
set_option maxHeartbeats 4000000 in
set_option maxRecDepth 100000 in
theorem c_X8_goDealing_o (κ : gx_K) (dd : Nat) (q_goDealing : Int32 → Int32 → Int32 → Int32 → Int32 → gx_Mem → Option gx_Mem) (hq_goDealing : ∀ {v1 : Int32} {v2 : Int32} {v3 : Int32} {v4 : Int32} {v5 : Int32} {M : gx_Mem} {M9 : gx_Mem}, q_goDealing v1 v2 v3 v4 v5 M = some M9 → gx_CV κ yX8_goDealing cX8_goDealing 8 none (7 + dd) [.ref (gx_a κ 57), .int v1, .int v2, .int v3, .int v4, .int v5] M M9) {v1 : Int32} {v2 : Int32} {v3 : Int32} {v4 : Int32} {v5 : Int32} {M : gx_Mem} {M9 : gx_Mem} (hf : f_X8_goDealing_o q_goDealing v1 v2 v3 v4 v5 M = some M9) : gx_CV κ yX8_goDealing cX8_goDealing 8 none (7 + dd + 1) [.ref (gx_a κ 57), .int v1, .int v2, .int v3, .int v4, .int v5] M M9 := by
  refine gx_enterV (d := 7 + dd + 1) my_X8_goDealing.1 (by decide) (Nat.le_of_ble_eq_true rfl) (fun Γ Cx hR => ?_)
  change gx_G κ Γ 0 [(0, .ref (gx_a κ 57)), (1, .int v1), (2, .int v2), (3, .int v3), (4, .int v4), (5, .int v5)] [] M
  have K90 : ∀  (ag90 : Int32 → gx_Mem → Option gx_Mem) (hag90 : ∀ (v6 : Int32) (M : gx_Mem), ag90 v6 M = some M9 → gx_G κ Γ 90 [(0, .ref (gx_a κ 57)), (1, .int v1), (2, .int v2), (3, .int v3), (4, .int v4), (5, .int v5), (6, .int v6)] [] M) (v6 : Int32) (M : gx_Mem), f_X8_goDealing_k90 q_goDealing v1 v2 v3 v4 v5 ag90 v6 M = some M9 → gx_G κ Γ 90 [(0, .ref (gx_a κ 57)), (1, .int v1), (2, .int v2), (3, .int v3), (4, .int v4), (5, .int v5), (6, .int v6)] [] M := by
    intro ag90 hag90
    have B137 : ∀ (v6 : Int32) (M : gx_Mem), f_X8_goDealing_b137 q_goDealing ag90 v1 v2 v3 v4 v5 v6 M = some M9 → gx_G κ Γ 137 [(0, .ref (gx_a κ 57)), (1, .int v1), (2, .int v2), (3, .int v3), (4, .int v4), (5, .int v5), (6, .int v6)] [] M := by
      intro v6 M h
      refine gx_iinc (v := (1 : Int32)) (i := 6) (j := 6) Cx eX8_goDealing_137 (by decide) h 6 rfl (fun w => [(6, .int w), (0, .ref (gx_a κ 57)), (1, .int v1), (2, .int v2), (3, .int v3), (4, .int v4), (5, .int v5)]) (fun _ => rfl) (by decide) (fun x12 h => ?_)
      refine gx_goto (tgt := 90) Cx eX8_goDealing_140 (by decide) ?_
      refine gx_sub [1, 2, 3, 4, 5, 6, 0] rfl ?_
      exact hag90 _ _ h
    intro v6 M h
    refine gx_iload Cx eX8_goDealing_90 6 rfl ?_
    refine gx_aload_n Cx eX8_goDealing_92 0 rfl ?_
    refine gfX8_133 Cx eX8_goDealing_93 ?_
    refine gx_icmp_ge (tgt := 143) Cx eX8_goDealing_96 (by decide) h (fun h => ?_) (fun h => ?_)
    · exact gx_rV h eX8_goDealing_143 hR
    · refine gx_iload_n Cx eX8_goDealing_99 2 rfl ?_
      refine gx_iload Cx eX8_goDealing_100 6 rfl ?_
      obtain ⟨y8, h7, h⟩ := gx_bP_of h
      refine gx_callSI Cx my_X8_has wlX8_261 (by omega) rfl eX8_goDealing_102 (c_X8_has κ h7) rfl (Nat.le_of_ble_eq_true rfl) ?_
      refine gx_if_eq (tgt := 111) Cx eX8_goDealing_105 (by decide) h (fun h => ?_) (fun h => ?_)
      · refine gx_aload_n Cx eX8_goDealing_111 0 rfl ?_
        refine gfX8_86 Cx eX8_goDealing_112 ?_
        refine gx_iload_n Cx eX8_goDealing_115 1 rfl ?_
        refine gx_iload Cx eX8_goDealing_116 6 rfl ?_
        refine gx_iast Cx gx_y82 eX8_goDealing_118 h (fun M9 h => ?_)
        refine gx_aload_n Cx eX8_goDealing_119 0 rfl ?_
        refine gx_iload_n Cx eX8_goDealing_120 1 rfl ?_
        refine gx_iconst (v := (1 : Int32)) Cx eX8_goDealing_121 (by decide) ?_
        refine gx_iadd Cx eX8_goDealing_122 ?_
        refine gx_iload_n Cx eX8_goDealing_123 2 rfl ?_
        refine gx_iconst (v := (1 : Int32)) Cx eX8_goDealing_124 (by decide) ?_
        refine gx_iload Cx eX8_goDealing_125 6 rfl ?_
        refine gx_ishl Cx eX8_goDealing_127 ?_
        refine gx_ior Cx eX8_goDealing_128 ?_
        refine gx_iload_n Cx eX8_goDealing_129 3 rfl ?_
        refine gx_iload Cx eX8_goDealing_130 4 rfl ?_
        refine gx_iload Cx eX8_goDealing_132 5 rfl ?_
        obtain ⟨M11, h10, h⟩ := gx_bP_of h
        refine gx_callVV (ci := 8) Cx my_X8_goDealing wlX8_314 rfl gx_y57 (Nat.le_refl _) rfl eX8_goDealing_134 (hq_goDealing h10) rfl (Nat.le_of_ble_eq_true rfl) ?_
        exact B137 _ _ h
      · refine gx_goto (tgt := 137) Cx eX8_goDealing_108 (by decide) ?_
        exact B137 _ _ h
  have L90 : ∀  (n : Nat) (v6 : Int32) (M : gx_Mem), f_X8_goDealing_l90 q_goDealing v1 v2 v3 v4 v5 n v6 M = some M9 → gx_G κ Γ 90 [(0, .ref (gx_a κ 57)), (1, .int v1), (2, .int v2), (3, .int v3), (4, .int v4), (5, .int v5), (6, .int v6)] [] M := by
    intro n
    induction n with
    | zero => intro v6 M h; exact gx_loop_0 h
    | succ n ih => intro v6 M h; exact K90 (fun v6 M => f_X8_goDealing_l90 q_goDealing v1 v2 v3 v4 v5 n v6 M) ih v6 M h
  have K60 : ∀  (ag60 : Int32 → gx_Mem → Option gx_Mem) (hag60 : ∀ (v7 : Int32) (M : gx_Mem), ag60 v7 M = some M9 → gx_G κ Γ 60 [(0, .ref (gx_a κ 57)), (1, .int v1), (7, .int v7)] [] M) (v7 : Int32) (M : gx_Mem), f_X8_goDealing_k60 q_goDealing v1 ag60 v7 M = some M9 → gx_G κ Γ 60 [(0, .ref (gx_a κ 57)), (1, .int v1), (7, .int v7)] [] M := by
    intro ag60 hag60
    intro v7 M h
    refine gx_iload Cx eX8_goDealing_60 2 rfl ?_
    refine gx_iload_n Cx eX8_goDealing_62 1 rfl ?_
    refine gx_icmp_ge (tgt := 86) Cx eX8_goDealing_63 (by decide) h (fun h => ?_) (fun h => ?_)
    · exact gx_rV h eX8_goDealing_86 hR
    · refine gx_aload_n Cx eX8_goDealing_66 0 rfl ?_
      refine gfX8_89 Cx eX8_goDealing_67 ?_
      refine gx_iload Cx eX8_goDealing_70 2 rfl ?_
      refine gx_aload_n Cx eX8_goDealing_72 0 rfl ?_
      refine gfX8_86 Cx eX8_goDealing_73 ?_
      refine gx_iload Cx eX8_goDealing_76 2 rfl ?_
      refine gx_iald Cx gx_y82 eX8_goDealing_78 h (fun h => ?_)
      refine gx_iast Cx gx_y83 eX8_goDealing_79 h (fun M5 h => ?_)
      refine gx_iinc (v := (1 : Int32)) (i := 7) (j := 2) Cx eX8_goDealing_80 (by decide) h 2 rfl (fun w => [(7, .int w), (0, .ref (gx_a κ 57)), (1, .int v1)]) (fun _ => rfl) (by decide) (fun x6 h => ?_)
      refine gx_goto (tgt := 60) Cx eX8_goDealing_83 (by decide) ?_
      refine gx_sub [1, 2, 0] rfl ?_
      exact hag60 _ _ h
  have L60 : ∀  (n : Nat) (v7 : Int32) (M : gx_Mem), f_X8_goDealing_l60 q_goDealing v1 n v7 M = some M9 → gx_G κ Γ 60 [(0, .ref (gx_a κ 57)), (1, .int v1), (7, .int v7)] [] M := by
    intro n
    induction n with
    | zero => intro v7 M h; exact gx_loop_0 h
    | succ n ih => intro v7 M h; exact K60 (fun v7 M => f_X8_goDealing_l60 q_goDealing v1 n v7 M) ih v7 M h
  have B51 : ∀ (v6 : Int32) (M : gx_Mem), f_X8_goDealing_b51 q_goDealing v1 v6 M = some M9 → gx_G κ Γ 51 [(0, .ref (gx_a κ 57)), (1, .int v1), (6, .int v6)] [] M := by
    intro v6 M h
    refine gx_aload_n Cx eX8_goDealing_51 0 rfl ?_
    refine gx_iload Cx eX8_goDealing_52 2 rfl ?_
    refine pfX8_311 Cx eX8_goDealing_54 h (fun M4 h => ?_)
    refine gx_iconst (v := (0 : Int32)) Cx eX8_goDealing_57 (by decide) ?_
    refine gx_istore Cx eX8_goDealing_58 [(7, .int (0 : Int32)), (0, .ref (gx_a κ 57)), (1, .int v1), (6, .int v6)] rfl (by decide) ?_
    refine gx_sub [1, 2, 0] rfl ?_
    exact L60 _ _ _ h
  have h := hf
  refine gx_iload_n Cx eX8_goDealing_0 1 rfl ?_
  refine gx_aload_n Cx eX8_goDealing_1 0 rfl ?_
  refine gfX8_133 Cx eX8_goDealing_2 ?_
  refine gx_icmp_ne (tgt := 87) Cx eX8_goDealing_5 (by decide) h (fun h => ?_) (fun h => ?_)
  · refine gx_iconst (v := (0 : Int32)) Cx eX8_goDealing_87 (by decide) ?_
    refine gx_istore Cx eX8_goDealing_88 [(6, .int (0 : Int32)), (0, .ref (gx_a κ 57)), (1, .int v1), (2, .int v2), (3, .int v3), (4, .int v4), (5, .int v5)] rfl (by decide) ?_
    refine gx_sub [1, 2, 3, 4, 5, 6, 0] rfl ?_
    exact L90 _ _ _ h
  · refine gx_aload_n Cx eX8_goDealing_8 0 rfl ?_
    refine gx_iload_n Cx eX8_goDealing_9 3 rfl ?_
    refine gx_iload Cx eX8_goDealing_10 4 rfl ?_
    obtain ⟨y2, M3, h1, h⟩ := gx_bI_of h
    refine gx_callVI (ci := 8) Cx my_X8_wetOfDealing wlX8_308 rfl gx_y57 (by omega) rfl eX8_goDealing_12 (c_X8_wetOfDealing κ h1) rfl (Nat.le_of_ble_eq_true rfl) ?_
    refine gx_istore Cx eX8_goDealing_15 [(6, .int y2), (0, .ref (gx_a κ 57)), (1, .int v1), (2, .int v2), (3, .int v3), (4, .int v4), (5, .int v5)] rfl (by decide) ?_
    refine gx_aload_n Cx eX8_goDealing_17 1 rfl ?_
    refine gfX8_311 Cx eX8_goDealing_18 ?_
    refine gx_if_lt (tgt := 51) Cx eX8_goDealing_21 (by decide) h (fun h => ?_) (fun h => ?_)
    · refine gx_sub [1, 2, 0] rfl ?_
      exact B51 _ _ h
    · refine gx_iload Cx eX8_goDealing_24 6 rfl ?_
      refine gx_if_eq (tgt := 41) Cx eX8_goDealing_26 (by decide) h (fun h => ?_) (fun h => ?_)
      · refine gx_iload Cx eX8_goDealing_41 0 rfl ?_
        refine gx_aload_n Cx eX8_goDealing_43 1 rfl ?_
        refine gfX8_311 Cx eX8_goDealing_44 ?_
        refine gx_icmp_lt (tgt := 51) Cx eX8_goDealing_47 (by decide) h (fun h => ?_) (fun h => ?_)
        · refine gx_sub [1, 2, 0] rfl ?_
          exact B51 _ _ h
        · exact gx_rV h eX8_goDealing_50 hR
      · refine gx_iload Cx eX8_goDealing_29 0 rfl ?_
        refine gx_aload_n Cx eX8_goDealing_31 1 rfl ?_
        refine gfX8_311 Cx eX8_goDealing_32 ?_
        refine gx_icmp_gt (tgt := 51) Cx eX8_goDealing_35 (by decide) h (fun h => ?_) (fun h => ?_)
        · refine gx_sub [1, 2, 0] rfl ?_
          exact B51 _ _ h
        · refine gx_goto (tgt := 50) Cx eX8_goDealing_38 (by decide) ?_
          exact gx_rV h eX8_goDealing_50 hR
theorem g_goDealing (κ : gx_K) : ∀ d : Nat, (∀ {v1 : Int32} {v2 : Int32} {v3 : Int32} {v4 : Int32} {v5 : Int32} {M : gx_Mem} {M9 : gx_Mem}, f_X8_goDealing d v1 v2 v3 v4 v5 M = some M9 → gx_CV κ yX8_goDealing cX8_goDealing 8 none (7 + d) [.ref (gx_a κ 57), .int v1, .int v2, .int v3, .int v4, .int v5] M M9) := by
  intro d
  induction d with
  | zero => intros; rename_i q; cases q
  | succ d ih =>
    exact (by intro v1 v2 v3 v4 v5 M M9 hf; exact c_X8_goDealing_o κ d (f_X8_goDealing d) (fun h => ih h)  hf)
theorem c_X8_goDealing (κ : gx_K) {v1 : Int32} {v2 : Int32} {v3 : Int32} {v4 : Int32} {v5 : Int32} {M : gx_Mem} {M9 : gx_Mem} (hf : f_X8_goDealing gx_dep v1 v2 v3 v4 v5 M = some M9) : gx_CV κ yX8_goDealing cX8_goDealing 8 none 107 [.ref (gx_a κ 57), .int v1, .int v2, .int v3, .int v4, .int v5] M M9 := (g_goDealing κ gx_dep)  hf
set_option maxHeartbeats 4000000 in
set_option maxRecDepth 100000 in
theorem c_X8_change (κ : gx_K) {v1 : Int32} {v2 : Int32} {v3 : Int32} {M : gx_Mem} {r9 : Int32} {M9 : gx_Mem} (hf : f_X8_change v1 v2 v3 M = some (r9, M9)) : gx_CI κ yX8_change cX8_change 4 (some .int) 108 [.ref (gx_a κ 57), .int v1, .int v2, .int v3] M r9 M9 := by
  refine gx_enterI (d := 108) my_X8_change.1 (by decide) (Nat.le_of_ble_eq_true rfl) (fun Γ Cx hR => ?_)
  change gx_G κ Γ 0 [(0, .ref (gx_a κ 57)), (1, .int v1), (2, .int v2), (3, .int v3)] [] M
  have B59 : ∀ (s1 : Int32) (s2 : Int32) (s3 : Int32) (s4 : Int32) (s5 : Int32) (M : gx_Mem), f_X8_change_b59 v3 s1 s2 s3 s4 s5 M = some (r9, M9) → gx_G κ Γ 59 [(0, .ref (gx_a κ 57)), (3, .int v3)] [.int s5, .int s4, .int s3, .int s2, .int s1, .ref (gx_a κ 57)] M := by
    intro s1 s2 s3 s4 s5 M h
    obtain ⟨M9, h8, h⟩ := gx_bP_of h
    refine gx_callVV (ci := 8) Cx my_X8_goDealing wlX8_314 rfl gx_y57 (by decide) rfl eX8_change_59 (c_X8_goDealing κ h8) rfl (Nat.le_of_ble_eq_true rfl) ?_
    refine gx_iload_n Cx eX8_change_62 1 rfl ?_
    refine gx_if_ge (tgt := 73) Cx eX8_change_63 (by decide) h (fun h => ?_) (fun h => ?_)
    · refine gx_aload_n Cx eX8_change_73 0 rfl ?_
      refine gfX8_9 Cx eX8_change_74 ?_
      refine gx_aload_n Cx eX8_change_77 0 rfl ?_
      refine gfX8_89 Cx eX8_change_78 ?_
      refine gx_iload_n Cx eX8_change_81 1 rfl ?_
      refine gx_iald Cx gx_y83 eX8_change_82 h (fun h => ?_)
      refine gx_iald Cx gx_y58 eX8_change_83 h (fun h => ?_)
      exact gx_rI h rfl eX8_change_84 hR
    · refine gx_aload_n Cx eX8_change_66 0 rfl ?_
      refine gfX8_311 Cx eX8_change_67 ?_
      refine gx_goto (tgt := 84) Cx eX8_change_70 (by decide) ?_
      exact gx_rI h rfl eX8_change_84 hR
  have h := hf
  refine gx_aload_n Cx eX8_change_0 0 rfl ?_
  refine gx_iload_n Cx eX8_change_1 1 rfl ?_
  obtain ⟨y2, h1, h⟩ := gx_bP_of h
  refine gx_callVI (ci := 8) Cx my_X8_areMark wlX8_170 rfl gx_y57 (by decide) rfl eX8_change_2 (c_X8_areMark κ h1) rfl (Nat.le_of_ble_eq_true rfl) ?_
  refine gx_if_eq (tgt := 31) Cx eX8_change_5 (by decide) h (fun h => ?_) (fun h => ?_)
  · refine gx_iconst (v := (-1 : Int32)) Cx eX8_change_31 (by decide) ?_
    exact gx_rI h rfl eX8_change_32 hR
  · refine gx_iload_n Cx eX8_change_8 2 rfl ?_
    refine gx_iconst (v := (0 : Int32)) Cx eX8_change_9 (by decide) ?_
    refine gx_iconst (v := (1 : Int32)) Cx eX8_change_10 (by decide) ?_
    obtain ⟨y4, h3, h⟩ := gx_bP_of h
    refine gx_callSI Cx my_X8_in wlX8_136 (by decide) rfl eX8_change_11 (c_X8_in κ h3) rfl (Nat.le_of_ble_eq_true rfl) ?_
    refine gx_if_eq (tgt := 31) Cx eX8_change_14 (by decide) h (fun h => ?_) (fun h => ?_)
    · refine gx_iconst (v := (-1 : Int32)) Cx eX8_change_31 (by decide) ?_
      exact gx_rI h rfl eX8_change_32 hR
    · refine gx_iload_n Cx eX8_change_17 3 rfl ?_
      refine gx_iconst (v := (-1 : Int32)) Cx eX8_change_18 (by decide) ?_
      refine gx_aload_n Cx eX8_change_19 0 rfl ?_
      refine gfX8_133 Cx eX8_change_20 ?_
      refine gx_iconst (v := (1 : Int32)) Cx eX8_change_23 (by decide) ?_
      refine gx_isub Cx eX8_change_24 ?_
      obtain ⟨y6, h5, h⟩ := gx_bP_of h
      refine gx_callSI Cx my_X8_in wlX8_136 (by decide) rfl eX8_change_25 (c_X8_in κ h5) rfl (Nat.le_of_ble_eq_true rfl) ?_
      refine gx_if_ne (tgt := 33) Cx eX8_change_28 (by decide) h (fun h => ?_) (fun h => ?_)
      · refine gx_aload_n Cx eX8_change_33 0 rfl ?_
        refine gx_iconst (v := (-1 : Int32)) Cx eX8_change_34 (by decide) ?_
        refine pfX8_311 Cx eX8_change_35 h (fun M7 h => ?_)
        refine gx_aload_n Cx eX8_change_38 0 rfl ?_
        refine gx_iconst (v := (0 : Int32)) Cx eX8_change_39 (by decide) ?_
        refine gx_iconst (v := (0 : Int32)) Cx eX8_change_40 (by decide) ?_
        refine gx_iload_n Cx eX8_change_41 1 rfl ?_
        refine gx_bipush (v := (10 : Int32)) Cx eX8_change_42 (by decide) ?_
        refine gx_idivC Cx eX8_change_44 (by decide) ?_
        refine gx_iload_n Cx eX8_change_45 1 rfl ?_
        refine gx_bipush (v := (10 : Int32)) Cx eX8_change_46 (by decide) ?_
        refine gx_iremC Cx eX8_change_48 (by decide) ?_
        refine gx_iload_n Cx eX8_change_49 2 rfl ?_
        refine gx_iconst (v := (1 : Int32)) Cx eX8_change_50 (by decide) ?_
        refine gx_icmp_ne (tgt := 58) Cx eX8_change_51 (by decide) h (fun h => ?_) (fun h => ?_)
        · refine gx_iconst (v := (0 : Int32)) Cx eX8_change_58 (by decide) ?_
          refine gx_sub [0, 3] rfl ?_
          exact B59 _ _ _ _ _ _ h
        · refine gx_iconst (v := (1 : Int32)) Cx eX8_change_54 (by decide) ?_
          refine gx_goto (tgt := 59) Cx eX8_change_55 (by decide) ?_
          refine gx_sub [0, 3] rfl ?_
          exact B59 _ _ _ _ _ _ h
      · refine gx_iconst (v := (-1 : Int32)) Cx eX8_change_31 (by decide) ?_
        exact gx_rI h rfl eX8_change_32 hR
set_option maxHeartbeats 4000000 in
set_option maxRecDepth 100000 in
theorem c_X8_lays (κ : gx_K) {v1 : Int32} {v2 : Int32} {v3 : Int32} {M : gx_Mem} {M9 : gx_Mem} (hf : f_X8_lays v1 v2 v3 M = some M9) : gx_CV κ yX8_lays cX8_lays 4 none 0 [.ref (gx_a κ 57), .int v1, .int v2, .int v3] M M9 := by
  refine gx_enterV (d := 0) my_X8_lays.1 (by decide) (Nat.le_of_ble_eq_true rfl) (fun Γ Cx hR => ?_)
  change gx_G κ Γ 0 [(0, .ref (gx_a κ 57)), (1, .int v1), (2, .int v2), (3, .int v3)] [] M
  have h := hf
  refine gx_iload_n Cx eX8_lays_0 1 rfl ?_
  refine gx_case (0 : Int32) h (fun h => ?_) (fun n0 h => ?_)
  · refine gx_tsIn (tgt := 36) Cx eX8_lays_1 (by decide) (by decide) rfl (by decide) ?_
    refine gx_aload_n Cx eX8_lays_36 0 rfl ?_
    refine gfX8_9 Cx eX8_lays_37 ?_
    refine gx_iload_n Cx eX8_lays_40 2 rfl ?_
    refine gx_iload_n Cx eX8_lays_41 3 rfl ?_
    refine gx_iast Cx gx_y58 eX8_lays_42 h (fun M1 h => ?_)
    refine gx_goto (tgt := 115) Cx eX8_lays_43 (by decide) ?_
    exact gx_rV h eX8_lays_115 hR
  refine gx_case (1 : Int32) h (fun h => ?_) (fun n1 h => ?_)
  · refine gx_tsIn (tgt := 46) Cx eX8_lays_1 (by decide) (by decide) rfl (by decide) ?_
    refine gx_aload_n Cx eX8_lays_46 0 rfl ?_
    refine gfX8_15 Cx eX8_lays_47 ?_
    refine gx_iload_n Cx eX8_lays_50 2 rfl ?_
    refine gx_iload_n Cx eX8_lays_51 3 rfl ?_
    refine gx_iast Cx gx_y59 eX8_lays_52 h (fun M2 h => ?_)
    refine gx_goto (tgt := 115) Cx eX8_lays_53 (by decide) ?_
    exact gx_rV h eX8_lays_115 hR
  refine gx_case (2 : Int32) h (fun h => ?_) (fun n2 h => ?_)
  · refine gx_tsIn (tgt := 56) Cx eX8_lays_1 (by decide) (by decide) rfl (by decide) ?_
    refine gx_aload_n Cx eX8_lays_56 0 rfl ?_
    refine gfX8_18 Cx eX8_lays_57 ?_
    refine gx_iconst (v := (4 : Int32)) Cx eX8_lays_60 (by decide) ?_
    refine gx_iload_n Cx eX8_lays_61 2 rfl ?_
    refine gx_bipush (v := (10 : Int32)) Cx eX8_lays_62 (by decide) ?_
    refine gx_idivC Cx eX8_lays_64 (by decide) ?_
    refine gx_imul Cx eX8_lays_65 ?_
    refine gx_iload_n Cx eX8_lays_66 2 rfl ?_
    refine gx_bipush (v := (10 : Int32)) Cx eX8_lays_67 (by decide) ?_
    refine gx_iremC Cx eX8_lays_69 (by decide) ?_
    refine gx_iadd Cx eX8_lays_70 ?_
    refine gx_iload_n Cx eX8_lays_71 3 rfl ?_
    refine gx_iast Cx gx_y60 eX8_lays_72 h (fun M3 h => ?_)
    refine gx_goto (tgt := 115) Cx eX8_lays_73 (by decide) ?_
    exact gx_rV h eX8_lays_115 hR
  refine gx_case (3 : Int32) h (fun h => ?_) (fun n3 h => ?_)
  · refine gx_tsIn (tgt := 76) Cx eX8_lays_1 (by decide) (by decide) rfl (by decide) ?_
    refine gx_aload_n Cx eX8_lays_76 0 rfl ?_
    refine gfX8_21 Cx eX8_lays_77 ?_
    refine gx_iconst (v := (4 : Int32)) Cx eX8_lays_80 (by decide) ?_
    refine gx_iload_n Cx eX8_lays_81 2 rfl ?_
    refine gx_bipush (v := (10 : Int32)) Cx eX8_lays_82 (by decide) ?_
    refine gx_idivC Cx eX8_lays_84 (by decide) ?_
    refine gx_imul Cx eX8_lays_85 ?_
    refine gx_iload_n Cx eX8_lays_86 2 rfl ?_
    refine gx_bipush (v := (10 : Int32)) Cx eX8_lays_87 (by decide) ?_
    refine gx_iremC Cx eX8_lays_89 (by decide) ?_
    refine gx_iadd Cx eX8_lays_90 ?_
    refine gx_iload_n Cx eX8_lays_91 3 rfl ?_
    refine gx_iast Cx gx_y61 eX8_lays_92 h (fun M4 h => ?_)
    refine gx_goto (tgt := 115) Cx eX8_lays_93 (by decide) ?_
    exact gx_rV h eX8_lays_115 hR
  refine gx_case (4 : Int32) h (fun h => ?_) (fun n4 h => ?_)
  · refine gx_tsIn (tgt := 96) Cx eX8_lays_1 (by decide) (by decide) rfl (by decide) ?_
    refine gx_aload_n Cx eX8_lays_96 0 rfl ?_
    refine gfX8_24 Cx eX8_lays_97 ?_
    refine gx_iload_n Cx eX8_lays_100 2 rfl ?_
    refine gx_iload_n Cx eX8_lays_101 3 rfl ?_
    refine gx_iast Cx gx_y62 eX8_lays_102 h (fun M5 h => ?_)
    refine gx_goto (tgt := 115) Cx eX8_lays_103 (by decide) ?_
    exact gx_rV h eX8_lays_115 hR
  refine gx_tsOut (tgt := 106) Cx eX8_lays_1 (by have zn0 := gx_neT (k := 0) n0 (by decide); have zn1 := gx_neT (k := 1) n1 (by decide); have zn2 := gx_neT (k := 2) n2 (by decide); have zn3 := gx_neT (k := 3) n3 (by decide); have zn4 := gx_neT (k := 4) n4 (by decide); omega) (by decide) ?_
  refine gx_aload_n Cx eX8_lays_106 0 rfl ?_
  refine gfX8_27 Cx eX8_lays_107 ?_
  refine gx_iload_n Cx eX8_lays_110 1 rfl ?_
  refine gx_iconst (v := (5 : Int32)) Cx eX8_lays_111 (by decide) ?_
  refine gx_isub Cx eX8_lays_112 ?_
  refine gx_iload_n Cx eX8_lays_113 3 rfl ?_
  refine gx_iast Cx gx_y63 eX8_lays_114 h (fun M6 h => ?_)
  exact gx_rV h eX8_lays_115 hR
set_option maxHeartbeats 4000000 in
set_option maxRecDepth 100000 in
theorem c_X8_valueAt (κ : gx_K) {v1 : Int32} {v2 : Int32} {M : gx_Mem} {r9 : Int32} (hf : f_X8_valueAt v1 v2 M = some r9) : gx_CI κ yX8_valueAt cX8_valueAt 3 (some .int) 0 [.ref (gx_a κ 57), .int v1, .int v2] M r9 M := by
  refine gx_enterI (d := 0) my_X8_valueAt.1 (by decide) (Nat.le_of_ble_eq_true rfl) (fun Γ Cx hR => ?_)
  change gx_G κ Γ 0 [(0, .ref (gx_a κ 57)), (1, .int v1), (2, .int v2)] [] M
  have h := hf
  refine gx_iload_n Cx eX8_valueAt_0 1 rfl ?_
  refine gx_case (0 : Int32) h (fun h => ?_) (fun n0 h => ?_)
  · refine gx_tsIn (tgt := 36) Cx eX8_valueAt_1 (by decide) (by decide) rfl (by decide) ?_
    refine gx_aload_n Cx eX8_valueAt_36 0 rfl ?_
    refine gfX8_9 Cx eX8_valueAt_37 ?_
    refine gx_iload_n Cx eX8_valueAt_40 2 rfl ?_
    refine gx_iald Cx gx_y58 eX8_valueAt_41 h (fun h => ?_)
    exact gx_rIp h rfl eX8_valueAt_42 hR
  refine gx_case (1 : Int32) h (fun h => ?_) (fun n1 h => ?_)
  · refine gx_tsIn (tgt := 43) Cx eX8_valueAt_1 (by decide) (by decide) rfl (by decide) ?_
    refine gx_aload_n Cx eX8_valueAt_43 0 rfl ?_
    refine gfX8_15 Cx eX8_valueAt_44 ?_
    refine gx_iload_n Cx eX8_valueAt_47 2 rfl ?_
    refine gx_iald Cx gx_y59 eX8_valueAt_48 h (fun h => ?_)
    exact gx_rIp h rfl eX8_valueAt_49 hR
  refine gx_case (2 : Int32) h (fun h => ?_) (fun n2 h => ?_)
  · refine gx_tsIn (tgt := 50) Cx eX8_valueAt_1 (by decide) (by decide) rfl (by decide) ?_
    refine gx_aload_n Cx eX8_valueAt_50 0 rfl ?_
    refine gfX8_18 Cx eX8_valueAt_51 ?_
    refine gx_iconst (v := (4 : Int32)) Cx eX8_valueAt_54 (by decide) ?_
    refine gx_iload_n Cx eX8_valueAt_55 2 rfl ?_
    refine gx_bipush (v := (10 : Int32)) Cx eX8_valueAt_56 (by decide) ?_
    refine gx_idivC Cx eX8_valueAt_58 (by decide) ?_
    refine gx_imul Cx eX8_valueAt_59 ?_
    refine gx_iload_n Cx eX8_valueAt_60 2 rfl ?_
    refine gx_bipush (v := (10 : Int32)) Cx eX8_valueAt_61 (by decide) ?_
    refine gx_iremC Cx eX8_valueAt_63 (by decide) ?_
    refine gx_iadd Cx eX8_valueAt_64 ?_
    refine gx_iald Cx gx_y60 eX8_valueAt_65 h (fun h => ?_)
    exact gx_rIp h rfl eX8_valueAt_66 hR
  refine gx_case (3 : Int32) h (fun h => ?_) (fun n3 h => ?_)
  · refine gx_tsIn (tgt := 67) Cx eX8_valueAt_1 (by decide) (by decide) rfl (by decide) ?_
    refine gx_aload_n Cx eX8_valueAt_67 0 rfl ?_
    refine gfX8_21 Cx eX8_valueAt_68 ?_
    refine gx_iconst (v := (4 : Int32)) Cx eX8_valueAt_71 (by decide) ?_
    refine gx_iload_n Cx eX8_valueAt_72 2 rfl ?_
    refine gx_bipush (v := (10 : Int32)) Cx eX8_valueAt_73 (by decide) ?_
    refine gx_idivC Cx eX8_valueAt_75 (by decide) ?_
    refine gx_imul Cx eX8_valueAt_76 ?_
    refine gx_iload_n Cx eX8_valueAt_77 2 rfl ?_
    refine gx_bipush (v := (10 : Int32)) Cx eX8_valueAt_78 (by decide) ?_
    refine gx_iremC Cx eX8_valueAt_80 (by decide) ?_
    refine gx_iadd Cx eX8_valueAt_81 ?_
    refine gx_iald Cx gx_y61 eX8_valueAt_82 h (fun h => ?_)
    exact gx_rIp h rfl eX8_valueAt_83 hR
  refine gx_case (4 : Int32) h (fun h => ?_) (fun n4 h => ?_)
  · refine gx_tsIn (tgt := 84) Cx eX8_valueAt_1 (by decide) (by decide) rfl (by decide) ?_
    refine gx_aload_n Cx eX8_valueAt_84 0 rfl ?_
    refine gfX8_24 Cx eX8_valueAt_85 ?_
    refine gx_iload_n Cx eX8_valueAt_88 2 rfl ?_
    refine gx_iald Cx gx_y62 eX8_valueAt_89 h (fun h => ?_)
    exact gx_rIp h rfl eX8_valueAt_90 hR
  refine gx_tsOut (tgt := 91) Cx eX8_valueAt_1 (by have zn0 := gx_neT (k := 0) n0 (by decide); have zn1 := gx_neT (k := 1) n1 (by decide); have zn2 := gx_neT (k := 2) n2 (by decide); have zn3 := gx_neT (k := 3) n3 (by decide); have zn4 := gx_neT (k := 4) n4 (by decide); omega) (by decide) ?_
  refine gx_aload_n Cx eX8_valueAt_91 0 rfl ?_
  refine gfX8_27 Cx eX8_valueAt_92 ?_
  refine gx_iload_n Cx eX8_valueAt_95 1 rfl ?_
  refine gx_iconst (v := (5 : Int32)) Cx eX8_valueAt_96 (by decide) ?_
  refine gx_isub Cx eX8_valueAt_97 ?_
  refine gx_iald Cx gx_y63 eX8_valueAt_98 h (fun h => ?_)
  exact gx_rIp h rfl eX8_valueAt_99 hR
set_option maxHeartbeats 4000000 in
set_option maxRecDepth 100000 in
theorem c_X8_changes (κ : gx_K) {v1 : Int32} {v2 : Int32} {v3 : Int32} {M : gx_Mem} {r9 : Int32} {M9 : gx_Mem} (hf : f_X8_changes v1 v2 v3 M = some (r9, M9)) : gx_CI κ yX8_changes cX8_changes 6 (some .int) 1 [.ref (gx_a κ 57), .int v1, .int v2, .int v3] M r9 M9 := by
  refine gx_enterI (d := 1) my_X8_changes.1 (by decide) (Nat.le_of_ble_eq_true rfl) (fun Γ Cx hR => ?_)
  change gx_G κ Γ 0 [(0, .ref (gx_a κ 57)), (1, .int v1), (2, .int v2), (3, .int v3)] [] M
  have B121 : ∀ (v4 : Int32) (M : gx_Mem), f_X8_changes_b121 v1 v2 v3 v4 M = some (r9, M9) → gx_G κ Γ 121 [(0, .ref (gx_a κ 57)), (1, .int v1), (2, .int v2), (3, .int v3), (4, .int v4)] [] M := by
    intro v4 M h
    refine gx_aload_n Cx eX8_changes_121 0 rfl ?_
    refine gfX8_30 Cx eX8_changes_122 ?_
    refine gx_aload_n Cx eX8_changes_125 0 rfl ?_
    refine gfX8_163 Cx eX8_changes_126 ?_
    refine gx_iload_n Cx eX8_changes_129 1 rfl ?_
    refine gx_iast Cx gx_y64 eX8_changes_130 h (fun M10 h => ?_)
    refine gx_aload_n Cx eX8_changes_131 0 rfl ?_
    refine gfX8_33 Cx eX8_changes_132 ?_
    refine gx_aload_n Cx eX8_changes_135 0 rfl ?_
    refine gfX8_163 Cx eX8_changes_136 ?_
    refine gx_iload_n Cx eX8_changes_139 2 rfl ?_
    refine gx_iast Cx gx_y65 eX8_changes_140 h (fun M11 h => ?_)
    refine gx_aload_n Cx eX8_changes_141 0 rfl ?_
    refine gfX8_36 Cx eX8_changes_142 ?_
    refine gx_aload_n Cx eX8_changes_145 0 rfl ?_
    refine gfX8_163 Cx eX8_changes_146 ?_
    refine gx_iload Cx eX8_changes_149 4 rfl ?_
    refine gx_iast Cx gx_y66 eX8_changes_151 h (fun M12 h => ?_)
    refine gx_aload_n Cx eX8_changes_152 0 rfl ?_
    refine gfX8_39 Cx eX8_changes_153 ?_
    refine gx_aload_n Cx eX8_changes_156 0 rfl ?_
    refine gfX8_163 Cx eX8_changes_157 ?_
    refine gx_iload_n Cx eX8_changes_160 3 rfl ?_
    refine gx_iast Cx gx_y67 eX8_changes_161 h (fun M13 h => ?_)
    refine gx_aload_n Cx eX8_changes_162 0 rfl ?_
    refine gx_dup Cx eX8_changes_163 rfl ?_
    refine gfX8_163 Cx eX8_changes_164 ?_
    refine gx_iconst (v := (1 : Int32)) Cx eX8_changes_167 (by decide) ?_
    refine gx_iadd Cx eX8_changes_168 ?_
    refine pfX8_163 Cx eX8_changes_169 h (fun M14 h => ?_)
    refine gx_aload_n Cx eX8_changes_172 0 rfl ?_
    refine gx_iload_n Cx eX8_changes_173 1 rfl ?_
    refine gx_iload_n Cx eX8_changes_174 2 rfl ?_
    refine gx_iload_n Cx eX8_changes_175 3 rfl ?_
    obtain ⟨M16, h15, h⟩ := gx_bP_of h
    refine gx_callVV (ci := 8) Cx my_X8_lays wlX8_166 rfl gx_y57 (by decide) rfl eX8_changes_176 (c_X8_lays κ h15) rfl (Nat.le_of_ble_eq_true rfl) ?_
    refine gx_iload Cx eX8_changes_179 4 rfl ?_
    exact gx_rI h rfl eX8_changes_181 hR
  have K34 : ∀ (v4 : Int32) (ag34 : Int32 → gx_Mem → Option (Int32 × gx_Mem)) (hag34 : ∀ (v5 : Int32) (M : gx_Mem), ag34 v5 M = some (r9, M9) → gx_G κ Γ 34 [(0, .ref (gx_a κ 57)), (1, .int v1), (2, .int v2), (3, .int v3), (4, .int v4), (5, .int v5)] [] M) (v5 : Int32) (M : gx_Mem), f_X8_changes_k34 v1 v2 v3 v4 ag34 v5 M = some (r9, M9) → gx_G κ Γ 34 [(0, .ref (gx_a κ 57)), (1, .int v1), (2, .int v2), (3, .int v3), (4, .int v4), (5, .int v5)] [] M := by
    intro v4 ag34 hag34
    intro v5 M h
    refine gx_iload Cx eX8_changes_34 5 rfl ?_
    refine gx_bipush (v := (40 : Int32)) Cx eX8_changes_36 (by decide) ?_
    refine gx_icmp_ge (tgt := 111) Cx eX8_changes_38 (by decide) h (fun h => ?_) (fun h => ?_)
    · refine gx_aload_n Cx eX8_changes_111 0 rfl ?_
      refine gx_dup Cx eX8_changes_112 rfl ?_
      refine gfX8_163 Cx eX8_changes_113 ?_
      refine gx_iconst (v := (1 : Int32)) Cx eX8_changes_116 (by decide) ?_
      refine gx_isub Cx eX8_changes_117 ?_
      refine pfX8_163 Cx eX8_changes_118 h (fun M4 h => ?_)
      refine gx_sub [0, 1, 2, 3, 4] rfl ?_
      exact B121 _ _ h
    · refine gx_aload_n Cx eX8_changes_41 0 rfl ?_
      refine gfX8_30 Cx eX8_changes_42 ?_
      refine gx_iload Cx eX8_changes_45 5 rfl ?_
      refine gx_iconst (v := (1 : Int32)) Cx eX8_changes_47 (by decide) ?_
      refine gx_isub Cx eX8_changes_48 ?_
      refine gx_aload_n Cx eX8_changes_49 0 rfl ?_
      refine gfX8_30 Cx eX8_changes_50 ?_
      refine gx_iload Cx eX8_changes_53 5 rfl ?_
      refine gx_iald Cx gx_y64 eX8_changes_55 h (fun h => ?_)
      refine gx_iast Cx gx_y64 eX8_changes_56 h (fun M5 h => ?_)
      refine gx_aload_n Cx eX8_changes_57 0 rfl ?_
      refine gfX8_33 Cx eX8_changes_58 ?_
      refine gx_iload Cx eX8_changes_61 5 rfl ?_
      refine gx_iconst (v := (1 : Int32)) Cx eX8_changes_63 (by decide) ?_
      refine gx_isub Cx eX8_changes_64 ?_
      refine gx_aload_n Cx eX8_changes_65 0 rfl ?_
      refine gfX8_33 Cx eX8_changes_66 ?_
      refine gx_iload Cx eX8_changes_69 5 rfl ?_
      refine gx_iald Cx gx_y65 eX8_changes_71 h (fun h => ?_)
      refine gx_iast Cx gx_y65 eX8_changes_72 h (fun M6 h => ?_)
      refine gx_aload_n Cx eX8_changes_73 0 rfl ?_
      refine gfX8_36 Cx eX8_changes_74 ?_
      refine gx_iload Cx eX8_changes_77 5 rfl ?_
      refine gx_iconst (v := (1 : Int32)) Cx eX8_changes_79 (by decide) ?_
      refine gx_isub Cx eX8_changes_80 ?_
      refine gx_aload_n Cx eX8_changes_81 0 rfl ?_
      refine gfX8_36 Cx eX8_changes_82 ?_
      refine gx_iload Cx eX8_changes_85 5 rfl ?_
      refine gx_iald Cx gx_y66 eX8_changes_87 h (fun h => ?_)
      refine gx_iast Cx gx_y66 eX8_changes_88 h (fun M7 h => ?_)
      refine gx_aload_n Cx eX8_changes_89 0 rfl ?_
      refine gfX8_39 Cx eX8_changes_90 ?_
      refine gx_iload Cx eX8_changes_93 5 rfl ?_
      refine gx_iconst (v := (1 : Int32)) Cx eX8_changes_95 (by decide) ?_
      refine gx_isub Cx eX8_changes_96 ?_
      refine gx_aload_n Cx eX8_changes_97 0 rfl ?_
      refine gfX8_39 Cx eX8_changes_98 ?_
      refine gx_iload Cx eX8_changes_101 5 rfl ?_
      refine gx_iald Cx gx_y67 eX8_changes_103 h (fun h => ?_)
      refine gx_iast Cx gx_y67 eX8_changes_104 h (fun M8 h => ?_)
      refine gx_iinc (v := (1 : Int32)) (i := 5) (j := 5) Cx eX8_changes_105 (by decide) h 5 rfl (fun w => [(5, .int w), (0, .ref (gx_a κ 57)), (1, .int v1), (2, .int v2), (3, .int v3), (4, .int v4)]) (fun _ => rfl) (by decide) (fun x9 h => ?_)
      refine gx_goto (tgt := 34) Cx eX8_changes_108 (by decide) ?_
      refine gx_sub [1, 2, 3, 4, 5, 0] rfl ?_
      exact hag34 _ _ h
  have L34 : ∀ (v4 : Int32) (n : Nat) (v5 : Int32) (M : gx_Mem), f_X8_changes_l34 v1 v2 v3 v4 n v5 M = some (r9, M9) → gx_G κ Γ 34 [(0, .ref (gx_a κ 57)), (1, .int v1), (2, .int v2), (3, .int v3), (4, .int v4), (5, .int v5)] [] M := by
    intro v4 n
    induction n with
    | zero => intro v5 M h; exact gx_loop_0 h
    | succ n ih => intro v5 M h; exact K34 v4 (fun v5 M => f_X8_changes_l34 v1 v2 v3 v4 n v5 M) ih v5 M h
  have h := hf
  refine gx_aload_n Cx eX8_changes_0 0 rfl ?_
  refine gx_iload_n Cx eX8_changes_1 1 rfl ?_
  refine gx_iload_n Cx eX8_changes_2 2 rfl ?_
  obtain ⟨y2, h1, h⟩ := gx_bP_of h
  refine gx_callVI (ci := 8) Cx my_X8_valueAt wlX8_157 rfl gx_y57 (by decide) rfl eX8_changes_3 (c_X8_valueAt κ h1) rfl (Nat.le_of_ble_eq_true rfl) ?_
  refine gx_istore Cx eX8_changes_6 [(4, .int y2), (0, .ref (gx_a κ 57)), (1, .int v1), (2, .int v2), (3, .int v3)] rfl (by decide) ?_
  refine gx_iload Cx eX8_changes_8 0 rfl ?_
  refine gx_iload_n Cx eX8_changes_10 4 rfl ?_
  refine gx_icmp_ne (tgt := 17) Cx eX8_changes_11 (by decide) h (fun h => ?_) (fun h => ?_)
  · refine gx_aload_n Cx eX8_changes_17 1 rfl ?_
    refine gx_iconst (v := (0 : Int32)) Cx eX8_changes_18 (by decide) ?_
    refine pfX8_160 Cx eX8_changes_19 h (fun M3 h => ?_)
    refine gx_aload_n Cx eX8_changes_22 1 rfl ?_
    refine gfX8_163 Cx eX8_changes_23 ?_
    refine gx_bipush (v := (40 : Int32)) Cx eX8_changes_26 (by decide) ?_
    refine gx_icmp_ne (tgt := 121) Cx eX8_changes_28 (by decide) h (fun h => ?_) (fun h => ?_)
    · refine gx_sub [1, 2, 3, 4, 0] rfl ?_
      exact B121 _ _ h
    · refine gx_iconst (v := (1 : Int32)) Cx eX8_changes_31 (by decide) ?_
      refine gx_istore Cx eX8_changes_32 [(5, .int (1 : Int32)), (4, .int y2), (0, .ref (gx_a κ 57)), (1, .int v1), (2, .int v2), (3, .int v3)] rfl (by decide) ?_
      refine gx_sub [2, 3, 4, 5, 1, 0] rfl ?_
      exact L34 _ _ _ _ h
  · refine gx_iload Cx eX8_changes_14 0 rfl ?_
    exact gx_rI h rfl eX8_changes_16 hR
set_option maxHeartbeats 4000000 in
set_option maxRecDepth 100000 in
theorem c_X8_isHour (κ : gx_K) {v0 : Int32} {M : gx_Mem} {r9 : Int32} (hf : f_X8_isHour v0 M = some r9) : gx_CI κ yX8_isHour cX8_isHour 1 (some .boolean) 1 [.int v0] M r9 M := by
  refine gx_enterI (d := 1) my_X8_isHour.1 (by decide) (Nat.le_of_ble_eq_true rfl) (fun Γ Cx hR => ?_)
  change gx_G κ Γ 0 [(0, .int v0)] [] M
  have h := hf
  refine gx_iload_n Cx eX8_isHour_0 0 rfl ?_
  refine gx_iconst (v := (0 : Int32)) Cx eX8_isHour_1 (by decide) ?_
  refine gx_bipush (v := (11 : Int32)) Cx eX8_isHour_2 (by decide) ?_
  obtain ⟨y2, h1, h⟩ := gx_bP_of h
  refine gx_callSI Cx my_X8_in wlX8_136 (by decide) rfl eX8_isHour_4 (c_X8_in κ h1) rfl (Nat.le_of_ble_eq_true rfl) ?_
  exact gx_rZp h eX8_isHour_7 hR
set_option maxHeartbeats 4000000 in
set_option maxRecDepth 100000 in
theorem c_X8_comes (κ : gx_K) {v1 : Int32} {v2 : Int32} {v3 : Int32} {M : gx_Mem} {r9 : Int32} {M9 : gx_Mem} (hf : f_X8_comes v1 v2 v3 M = some (r9, M9)) : gx_CI κ yX8_comes cX8_comes 4 (some .int) 5 [.ref (gx_a κ 57), .int v1, .int v2, .int v3] M r9 M9 := by
  refine gx_enterI (d := 5) my_X8_comes.1 (by decide) (Nat.le_of_ble_eq_true rfl) (fun Γ Cx hR => ?_)
  change gx_G κ Γ 0 [(0, .ref (gx_a κ 57)), (1, .int v1), (2, .int v2), (3, .int v3)] [] M
  have h := hf
  refine gx_iload_n Cx eX8_comes_0 1 rfl ?_
  refine gx_if_lt (tgt := 40) Cx eX8_comes_1 (by decide) h (fun h => ?_) (fun h => ?_)
  · refine gx_iconst (v := (-1 : Int32)) Cx eX8_comes_40 (by decide) ?_
    exact gx_rI h rfl eX8_comes_41 hR
  · refine gx_iload_n Cx eX8_comes_4 1 rfl ?_
    refine gx_bipush (v := (100 : Int32)) Cx eX8_comes_5 (by decide) ?_
    refine gx_idivC Cx eX8_comes_7 (by decide) ?_
    obtain ⟨y2, h1, h⟩ := gx_bP_of h
    refine gx_callSI Cx my_X8_isHour wlX8_173 (by decide) rfl eX8_comes_8 (c_X8_isHour κ h1) rfl (Nat.le_of_ble_eq_true rfl) ?_
    refine gx_if_eq (tgt := 40) Cx eX8_comes_11 (by decide) h (fun h => ?_) (fun h => ?_)
    · refine gx_iconst (v := (-1 : Int32)) Cx eX8_comes_40 (by decide) ?_
      exact gx_rI h rfl eX8_comes_41 hR
    · refine gx_iload_n Cx eX8_comes_14 1 rfl ?_
      refine gx_bipush (v := (100 : Int32)) Cx eX8_comes_15 (by decide) ?_
      refine gx_iremC Cx eX8_comes_17 (by decide) ?_
      obtain ⟨y4, h3, h⟩ := gx_bP_of h
      refine gx_callSI Cx my_X8_isFlat wlX8_147 (by decide) rfl eX8_comes_18 (c_X8_isFlat κ h3) rfl (Nat.le_of_ble_eq_true rfl) ?_
      refine gx_if_eq (tgt := 40) Cx eX8_comes_21 (by decide) h (fun h => ?_) (fun h => ?_)
      · refine gx_iconst (v := (-1 : Int32)) Cx eX8_comes_40 (by decide) ?_
        exact gx_rI h rfl eX8_comes_41 hR
      · refine gx_iload_n Cx eX8_comes_24 2 rfl ?_
        obtain ⟨y6, h5, h⟩ := gx_bP_of h
        refine gx_callSI Cx my_X8_isMark wlX8_144 (by decide) rfl eX8_comes_25 (c_X8_isMark κ h5) rfl (Nat.le_of_ble_eq_true rfl) ?_
        refine gx_if_eq (tgt := 40) Cx eX8_comes_28 (by decide) h (fun h => ?_) (fun h => ?_)
        · refine gx_iconst (v := (-1 : Int32)) Cx eX8_comes_40 (by decide) ?_
          exact gx_rI h rfl eX8_comes_41 hR
        · refine gx_iload_n Cx eX8_comes_31 3 rfl ?_
          refine gx_iconst (v := (0 : Int32)) Cx eX8_comes_32 (by decide) ?_
          refine gx_iconst (v := (1 : Int32)) Cx eX8_comes_33 (by decide) ?_
          obtain ⟨y8, h7, h⟩ := gx_bP_of h
          refine gx_callSI Cx my_X8_in wlX8_136 (by decide) rfl eX8_comes_34 (c_X8_in κ h7) rfl (Nat.le_of_ble_eq_true rfl) ?_
          refine gx_if_ne (tgt := 42) Cx eX8_comes_37 (by decide) h (fun h => ?_) (fun h => ?_)
          · refine gx_aload_n Cx eX8_comes_42 0 rfl ?_
            obtain ⟨M10, h9, h⟩ := gx_bP_of h
            refine gx_callVV (ci := 8) Cx my_X8_layNow wlX8_290 rfl gx_y57 (by decide) rfl eX8_comes_43 (c_X8_layNow κ h9) rfl (Nat.le_of_ble_eq_true rfl) ?_
            refine gx_aload_n Cx eX8_comes_46 0 rfl ?_
            refine gx_aload_n Cx eX8_comes_47 0 rfl ?_
            refine gx_iload_n Cx eX8_comes_48 1 rfl ?_
            refine gx_bipush (v := (100 : Int32)) Cx eX8_comes_49 (by decide) ?_
            refine gx_idivC Cx eX8_comes_51 (by decide) ?_
            refine gx_bipush (v := (63 : Int32)) Cx eX8_comes_52 (by decide) ?_
            obtain ⟨y12, h11, h⟩ := gx_bP_of h
            refine gx_callVI (ci := 8) Cx my_X8_outAt wlX8_284 rfl gx_y57 (by decide) rfl eX8_comes_54 (c_X8_outAt κ h11) rfl (Nat.le_of_ble_eq_true rfl) ?_
            refine pfX8_267 Cx eX8_comes_57 h (fun M13 h => ?_)
            refine gx_aload_n Cx eX8_comes_60 0 rfl ?_
            refine gx_iload_n Cx eX8_comes_61 2 rfl ?_
            obtain ⟨M15, h14, h⟩ := gx_bP_of h
            refine gx_callVV (ci := 8) Cx my_X8_flow wlX8_274 rfl gx_y57 (by decide) rfl eX8_comes_62 (c_X8_flow κ h14) rfl (Nat.le_of_ble_eq_true rfl) ?_
            refine gx_iload_n Cx eX8_comes_65 3 rfl ?_
            refine gx_if_ne (tgt := 86) Cx eX8_comes_66 (by decide) h (fun h => ?_) (fun h => ?_)
            · refine gx_aload_n Cx eX8_comes_86 0 rfl ?_
              refine gfX8_83 Cx eX8_comes_87 ?_
              refine gx_bipush (v := (24 : Int32)) Cx eX8_comes_90 (by decide) ?_
              refine gx_iload_n Cx eX8_comes_92 2 rfl ?_
              refine gx_imul Cx eX8_comes_93 ?_
              refine gx_iload_n Cx eX8_comes_94 1 rfl ?_
              refine gx_bipush (v := (100 : Int32)) Cx eX8_comes_95 (by decide) ?_
              refine gx_iremC Cx eX8_comes_97 (by decide) ?_
              refine gx_iadd Cx eX8_comes_98 ?_
              refine gx_iald Cx gx_y81 eX8_comes_99 h (fun h => ?_)
              exact gx_rI h rfl eX8_comes_100 hR
            · refine gx_aload_n Cx eX8_comes_69 0 rfl ?_
              refine gfX8_80 Cx eX8_comes_70 ?_
              refine gx_bipush (v := (24 : Int32)) Cx eX8_comes_73 (by decide) ?_
              refine gx_iload_n Cx eX8_comes_75 2 rfl ?_
              refine gx_imul Cx eX8_comes_76 ?_
              refine gx_iload_n Cx eX8_comes_77 1 rfl ?_
              refine gx_bipush (v := (100 : Int32)) Cx eX8_comes_78 (by decide) ?_
              refine gx_iremC Cx eX8_comes_80 (by decide) ?_
              refine gx_iadd Cx eX8_comes_81 ?_
              refine gx_iald Cx gx_y80 eX8_comes_82 h (fun h => ?_)
              refine gx_goto (tgt := 100) Cx eX8_comes_83 (by decide) ?_
              exact gx_rI h rfl eX8_comes_100 hR
          · refine gx_iconst (v := (-1 : Int32)) Cx eX8_comes_40 (by decide) ?_
            exact gx_rI h rfl eX8_comes_41 hR
set_option maxHeartbeats 4000000 in
set_option maxRecDepth 100000 in
theorem c_X8_count (κ : gx_K) {v1 : Int32} {M : gx_Mem} {r9 : Int32} (hf : f_X8_count v1 M = some r9) : gx_CI κ yX8_count cX8_count 2 (some .int) 1 [.ref (gx_a κ 57), .int v1] M r9 M := by
  refine gx_enterI (d := 1) my_X8_count.1 (by decide) (Nat.le_of_ble_eq_true rfl) (fun Γ Cx hR => ?_)
  change gx_G κ Γ 0 [(0, .ref (gx_a κ 57)), (1, .int v1)] [] M
  have h := hf
  refine gx_iload_n Cx eX8_count_0 1 rfl ?_
  refine gx_case (0 : Int32) h (fun h => ?_) (fun n0 h => ?_)
  · refine gx_tsIn (tgt := 40) Cx eX8_count_1 (by decide) (by decide) rfl (by decide) ?_
    refine gx_aload_n Cx eX8_count_40 0 rfl ?_
    refine gfX8_133 Cx eX8_count_41 ?_
    exact gx_rIp h rfl eX8_count_44 hR
  refine gx_case (1 : Int32) h (fun h => ?_) (fun n1 h => ?_)
  · refine gx_tsIn (tgt := 45) Cx eX8_count_1 (by decide) (by decide) rfl (by decide) ?_
    refine gx_aload_n Cx eX8_count_45 0 rfl ?_
    obtain ⟨y2, h1, h⟩ := gx_bP_of h
    refine gx_callVI (ci := 8) Cx my_X8_awnings wlX8_421 rfl gx_y57 (by decide) rfl eX8_count_46 (c_X8_awnings κ h1) rfl (Nat.le_of_ble_eq_true rfl) ?_
    exact gx_rIp h rfl eX8_count_49 hR
  refine gx_case (2 : Int32) h (fun h => ?_) (fun n2 h => ?_)
  · refine gx_tsIn (tgt := 50) Cx eX8_count_1 (by decide) (by decide) rfl (by decide) ?_
    refine gx_aload_n Cx eX8_count_50 0 rfl ?_
    refine gfX8_187 Cx eX8_count_51 ?_
    exact gx_rIp h rfl eX8_count_54 hR
  refine gx_case (3 : Int32) h (fun h => ?_) (fun n3 h => ?_)
  · refine gx_tsIn (tgt := 55) Cx eX8_count_1 (by decide) (by decide) rfl (by decide) ?_
    refine gx_aload_n Cx eX8_count_55 0 rfl ?_
    refine gfX8_163 Cx eX8_count_56 ?_
    exact gx_rIp h rfl eX8_count_59 hR
  refine gx_case (4 : Int32) h (fun h => ?_) (fun n4 h => ?_)
  · refine gx_tsIn (tgt := 60) Cx eX8_count_1 (by decide) (by decide) rfl (by decide) ?_
    refine gx_aload_n Cx eX8_count_60 0 rfl ?_
    refine gfX8_373 Cx eX8_count_61 ?_
    exact gx_rIp h rfl eX8_count_64 hR
  refine gx_case (5 : Int32) h (fun h => ?_) (fun n5 h => ?_)
  · refine gx_tsIn (tgt := 65) Cx eX8_count_1 (by decide) (by decide) rfl (by decide) ?_
    refine gx_aload_n Cx eX8_count_65 0 rfl ?_
    refine gfX8_376 Cx eX8_count_66 ?_
    exact gx_rIp h rfl eX8_count_69 hR
  refine gx_tsOut (tgt := 70) Cx eX8_count_1 (by have zn0 := gx_neT (k := 0) n0 (by decide); have zn1 := gx_neT (k := 1) n1 (by decide); have zn2 := gx_neT (k := 2) n2 (by decide); have zn3 := gx_neT (k := 3) n3 (by decide); have zn4 := gx_neT (k := 4) n4 (by decide); have zn5 := gx_neT (k := 5) n5 (by decide); omega) (by decide) ?_
  refine gx_iconst (v := (-1 : Int32)) Cx eX8_count_70 (by decide) ?_
  exact gx_rIp h rfl eX8_count_71 hR
set_option maxHeartbeats 4000000 in
set_option maxRecDepth 100000 in
theorem c_X8_wetter (κ : gx_K) {v1 : Int32} {M : gx_Mem} {r9 : Int32} (hf : f_X8_wetter v1 M = some r9) : gx_CI κ yX8_wetter cX8_wetter 4 (some .int) 1 [.ref (gx_a κ 57), .int v1] M r9 M := by
  refine gx_enterI (d := 1) my_X8_wetter.1 (by decide) (Nat.le_of_ble_eq_true rfl) (fun Γ Cx hR => ?_)
  change gx_G κ Γ 0 [(0, .ref (gx_a κ 57)), (1, .int v1)] [] M
  have K4 : ∀  (ag4 : Int32 → Int32 → Option Int32) (hag4 : ∀ (v2 : Int32) (v3 : Int32), ag4 v2 v3 = some r9 → gx_G κ Γ 4 [(0, .ref (gx_a κ 57)), (1, .int v1), (2, .int v2), (3, .int v3)] [] M) (v2 : Int32) (v3 : Int32), f_X8_wetter_k4 v1 ag4 v2 v3 M = some r9 → gx_G κ Γ 4 [(0, .ref (gx_a κ 57)), (1, .int v1), (2, .int v2), (3, .int v3)] [] M := by
    intro ag4 hag4
    intro v2 v3 h
    refine gx_iload_n Cx eX8_wetter_4 3 rfl ?_
    refine gx_iconst (v := (4 : Int32)) Cx eX8_wetter_5 (by decide) ?_
    refine gx_icmp_ge (tgt := 28) Cx eX8_wetter_6 (by decide) h (fun h => ?_) (fun h => ?_)
    · refine gx_aload_n Cx eX8_wetter_28 0 rfl ?_
      refine gx_iload_n Cx eX8_wetter_29 1 rfl ?_
      obtain ⟨y2, h1, h⟩ := gx_bP_of h
      refine gx_callVI (ci := 8) Cx my_X8_allWet wlX8_299 rfl gx_y57 (by decide) rfl eX8_wetter_30 (c_X8_allWet κ h1) rfl (Nat.le_of_ble_eq_true rfl) ?_
      refine gx_iload_n Cx eX8_wetter_33 2 rfl ?_
      refine gx_isub Cx eX8_wetter_34 ?_
      exact gx_rIp h rfl eX8_wetter_35 hR
    · refine gx_iload_n Cx eX8_wetter_9 2 rfl ?_
      refine gx_aload_n Cx eX8_wetter_10 0 rfl ?_
      refine gfX8_21 Cx eX8_wetter_11 ?_
      refine gx_iconst (v := (4 : Int32)) Cx eX8_wetter_14 (by decide) ?_
      refine gx_iload_n Cx eX8_wetter_15 1 rfl ?_
      refine gx_imul Cx eX8_wetter_16 ?_
      refine gx_iload_n Cx eX8_wetter_17 3 rfl ?_
      refine gx_iadd Cx eX8_wetter_18 ?_
      refine gx_iald Cx gx_y61 eX8_wetter_19 h (fun h => ?_)
      refine gx_iadd Cx eX8_wetter_20 ?_
      refine gx_nmI h (fun x3 h => ?_)
      refine gx_istore_n Cx eX8_wetter_21 [(2, .int x3), (0, .ref (gx_a κ 57)), (1, .int v1), (3, .int v3)] rfl (by decide) ?_
      refine gx_iinc (v := (1 : Int32)) (i := 3) (j := 3) Cx eX8_wetter_22 (by decide) h 3 rfl (fun w => [(3, .int w), (2, .int x3), (0, .ref (gx_a κ 57)), (1, .int v1)]) (fun _ => rfl) (by decide) (fun x4 h => ?_)
      refine gx_goto (tgt := 4) Cx eX8_wetter_25 (by decide) ?_
      refine gx_sub [2, 3, 1, 0] rfl ?_
      exact hag4 _ _ h
  have L4 : ∀  (n : Nat) (v2 : Int32) (v3 : Int32), f_X8_wetter_l4 v1 n v2 v3 M = some r9 → gx_G κ Γ 4 [(0, .ref (gx_a κ 57)), (1, .int v1), (2, .int v2), (3, .int v3)] [] M := by
    intro n
    induction n with
    | zero => intro v2 v3 h; exact gx_loop_0 h
    | succ n ih => intro v2 v3 h; exact K4 (fun v2 v3 => f_X8_wetter_l4 v1 n v2 v3 M) ih v2 v3 h
  have h := hf
  refine gx_iconst (v := (0 : Int32)) Cx eX8_wetter_0 (by decide) ?_
  refine gx_istore_n Cx eX8_wetter_1 [(2, .int (0 : Int32)), (0, .ref (gx_a κ 57)), (1, .int v1)] rfl (by decide) ?_
  refine gx_iconst (v := (0 : Int32)) Cx eX8_wetter_2 (by decide) ?_
  refine gx_istore_n Cx eX8_wetter_3 [(3, .int (0 : Int32)), (2, .int (0 : Int32)), (0, .ref (gx_a κ 57)), (1, .int v1)] rfl (by decide) ?_
  refine gx_sub [2, 3, 1, 0] rfl ?_
  exact L4 _ _ _ h
set_option maxHeartbeats 4000000 in
set_option maxRecDepth 100000 in
theorem c_X8_drawn (κ : gx_K) {v1 : Int32} {v2 : Int32} {v3 : Int32} {M : gx_Mem} {r9 : Int32} {M9 : gx_Mem} (hf : f_X8_drawn v1 v2 v3 M = some (r9, M9)) : gx_CI κ yX8_drawn cX8_drawn 9 (some .int) 6 [.ref (gx_a κ 57), .int v1, .int v2, .int v3] M r9 M9 := by
  refine gx_enterI (d := 6) my_X8_drawn.1 (by decide) (Nat.le_of_ble_eq_true rfl) (fun Γ Cx hR => ?_)
  change gx_G κ Γ 0 [(0, .ref (gx_a κ 57)), (1, .int v1), (2, .int v2), (3, .int v3)] [] M
  have K50 : ∀  (ag50 : Int32 → Int32 → Int32 → gx_Mem → Option (Int32 × gx_Mem)) (hag50 : ∀ (v4 : Int32) (v5 : Int32) (v6 : Int32) (M : gx_Mem), ag50 v4 v5 v6 M = some (r9, M9) → gx_G κ Γ 50 [(0, .ref (gx_a κ 57)), (2, .int v2), (3, .int v3), (4, .int v4), (5, .int v5), (6, .int v6)] [] M) (v4 : Int32) (v5 : Int32) (v6 : Int32) (M : gx_Mem), f_X8_drawn_k50 v2 v3 ag50 v4 v5 v6 M = some (r9, M9) → gx_G κ Γ 50 [(0, .ref (gx_a κ 57)), (2, .int v2), (3, .int v3), (4, .int v4), (5, .int v5), (6, .int v6)] [] M := by
    intro ag50 hag50
    have B226 : ∀ (v4 : Int32) (v5 : Int32) (v6 : Int32) (M : gx_Mem), f_X8_drawn_b226 ag50 v2 v3 v4 v5 v6 M = some (r9, M9) → gx_G κ Γ 226 [(0, .ref (gx_a κ 57)), (2, .int v2), (3, .int v3), (4, .int v4), (5, .int v5), (6, .int v6)] [] M := by
      intro v4 v5 v6 M h
      refine gx_iinc (v := (1 : Int32)) (i := 6) (j := 5) Cx eX8_drawn_226 (by decide) h 5 rfl (fun w => [(6, .int w), (0, .ref (gx_a κ 57)), (2, .int v2), (3, .int v3), (4, .int v4), (5, .int v5)]) (fun _ => rfl) (by decide) (fun x23 h => ?_)
      refine gx_goto (tgt := 50) Cx eX8_drawn_229 (by decide) ?_
      refine gx_sub [1, 2, 3, 4, 5, 0] rfl ?_
      exact hag50 _ _ _ _ h
    have K197 : ∀ (v4 : Int32) (v6 : Int32) (ag197 : Int32 → Int32 → gx_Mem → Option (Int32 × gx_Mem)) (hag197 : ∀ (v5 : Int32) (v7 : Int32) (M : gx_Mem), ag197 v5 v7 M = some (r9, M9) → gx_G κ Γ 197 [(0, .ref (gx_a κ 57)), (2, .int v2), (3, .int v3), (4, .int v4), (5, .int v5), (6, .int v6), (7, .int v7)] [] M) (v5 : Int32) (v7 : Int32) (M : gx_Mem), f_X8_drawn_k197 ag50 v2 v3 v4 v6 ag197 v5 v7 M = some (r9, M9) → gx_G κ Γ 197 [(0, .ref (gx_a κ 57)), (2, .int v2), (3, .int v3), (4, .int v4), (5, .int v5), (6, .int v6), (7, .int v7)] [] M := by
      intro v4 v6 ag197 hag197
      intro v5 v7 M h
      refine gx_iload Cx eX8_drawn_197 6 rfl ?_
      refine gx_iconst (v := (4 : Int32)) Cx eX8_drawn_199 (by decide) ?_
      refine gx_icmp_ge (tgt := 226) Cx eX8_drawn_200 (by decide) h (fun h => ?_) (fun h => ?_)
      · refine gx_sub [0, 1, 2, 3, 4, 5] rfl ?_
        exact B226 _ _ _ _ h
      · refine gx_iload_n Cx eX8_drawn_203 2 rfl ?_
        refine gx_iconst (v := (1 : Int32)) Cx eX8_drawn_204 (by decide) ?_
        refine gx_icmp_ne (tgt := 226) Cx eX8_drawn_205 (by decide) h (fun h => ?_) (fun h => ?_)
        · refine gx_sub [0, 1, 2, 3, 4, 5] rfl ?_
          exact B226 _ _ _ _ h
        · refine gx_iload Cx eX8_drawn_208 4 rfl ?_
          refine gx_aload_n Cx eX8_drawn_210 0 rfl ?_
          refine gfX8_77 Cx eX8_drawn_211 ?_
          refine gx_iload Cx eX8_drawn_214 6 rfl ?_
          refine gx_iald Cx gx_y79 eX8_drawn_216 h (fun h => ?_)
          refine gx_iadd Cx eX8_drawn_217 ?_
          refine gx_nmI h (fun x21 h => ?_)
          refine gx_istore Cx eX8_drawn_218 [(5, .int x21), (0, .ref (gx_a κ 57)), (2, .int v2), (3, .int v3), (4, .int v4), (6, .int v6), (7, .int v7)] rfl (by decide) ?_
          refine gx_iinc (v := (1 : Int32)) (i := 7) (j := 6) Cx eX8_drawn_220 (by decide) h 6 rfl (fun w => [(7, .int w), (5, .int x21), (0, .ref (gx_a κ 57)), (2, .int v2), (3, .int v3), (4, .int v4), (6, .int v6)]) (fun _ => rfl) (by decide) (fun x22 h => ?_)
          refine gx_goto (tgt := 197) Cx eX8_drawn_223 (by decide) ?_
          refine gx_sub [2, 3, 4, 5, 1, 6, 0] rfl ?_
          exact hag197 _ _ _ h
    have L197 : ∀ (v4 : Int32) (v6 : Int32) (n : Nat) (v5 : Int32) (v7 : Int32) (M : gx_Mem), f_X8_drawn_l197 ag50 v2 v3 v4 v6 n v5 v7 M = some (r9, M9) → gx_G κ Γ 197 [(0, .ref (gx_a κ 57)), (2, .int v2), (3, .int v3), (4, .int v4), (5, .int v5), (6, .int v6), (7, .int v7)] [] M := by
      intro v4 v6 n
      induction n with
      | zero => intro v5 v7 M h; exact gx_loop_0 h
      | succ n ih => intro v5 v7 M h; exact K197 v4 v6 (fun v5 v7 M => f_X8_drawn_l197 ag50 v2 v3 v4 v6 n v5 v7 M) ih v5 v7 M h
    have B194 : ∀ (v4 : Int32) (v5 : Int32) (v6 : Int32) (M : gx_Mem), f_X8_drawn_b194 ag50 v2 v3 v4 v5 v6 M = some (r9, M9) → gx_G κ Γ 194 [(0, .ref (gx_a κ 57)), (2, .int v2), (3, .int v3), (4, .int v4), (5, .int v5), (6, .int v6)] [] M := by
      intro v4 v5 v6 M h
      refine gx_iconst (v := (0 : Int32)) Cx eX8_drawn_194 (by decide) ?_
      refine gx_istore Cx eX8_drawn_195 [(7, .int (0 : Int32)), (0, .ref (gx_a κ 57)), (2, .int v2), (3, .int v3), (4, .int v4), (5, .int v5), (6, .int v6)] rfl (by decide) ?_
      refine gx_sub [1, 2, 3, 4, 5, 6, 0] rfl ?_
      exact L197 _ _ _ _ _ _ h
    have K164 : ∀ (v4 : Int32) (v6 : Int32) (ag164 : Int32 → Int32 → gx_Mem → Option (Int32 × gx_Mem)) (hag164 : ∀ (v5 : Int32) (v7 : Int32) (M : gx_Mem), ag164 v5 v7 M = some (r9, M9) → gx_G κ Γ 164 [(0, .ref (gx_a κ 57)), (2, .int v2), (3, .int v3), (4, .int v4), (5, .int v5), (6, .int v6), (7, .int v7)] [] M) (v5 : Int32) (v7 : Int32) (M : gx_Mem), f_X8_drawn_k164 ag50 v2 v3 v4 v6 ag164 v5 v7 M = some (r9, M9) → gx_G κ Γ 164 [(0, .ref (gx_a κ 57)), (2, .int v2), (3, .int v3), (4, .int v4), (5, .int v5), (6, .int v6), (7, .int v7)] [] M := by
      intro v4 v6 ag164 hag164
      intro v5 v7 M h
      refine gx_iload Cx eX8_drawn_164 6 rfl ?_
      refine gx_aload_n Cx eX8_drawn_166 0 rfl ?_
      refine gfX8_133 Cx eX8_drawn_167 ?_
      refine gx_icmp_ge (tgt := 194) Cx eX8_drawn_170 (by decide) h (fun h => ?_) (fun h => ?_)
      · refine gx_sub [0, 1, 2, 3, 4, 5] rfl ?_
        exact B194 _ _ _ _ h
      · refine gx_iload_n Cx eX8_drawn_173 2 rfl ?_
        refine gx_if_ne (tgt := 194) Cx eX8_drawn_174 (by decide) h (fun h => ?_) (fun h => ?_)
        · refine gx_sub [0, 1, 2, 3, 4, 5] rfl ?_
          exact B194 _ _ _ _ h
        · refine gx_iload Cx eX8_drawn_177 4 rfl ?_
          refine gx_aload_n Cx eX8_drawn_179 0 rfl ?_
          refine gx_iload Cx eX8_drawn_180 6 rfl ?_
          obtain ⟨y18, h17, h⟩ := gx_bP_of h
          refine gx_callVI (ci := 8) Cx my_X8_wetter wlX8_302 rfl gx_y57 (by decide) rfl eX8_drawn_182 (c_X8_wetter κ h17) rfl (Nat.le_of_ble_eq_true rfl) ?_
          refine gx_iadd Cx eX8_drawn_185 ?_
          refine gx_nmI h (fun x19 h => ?_)
          refine gx_istore Cx eX8_drawn_186 [(5, .int x19), (0, .ref (gx_a κ 57)), (2, .int v2), (3, .int v3), (4, .int v4), (6, .int v6), (7, .int v7)] rfl (by decide) ?_
          refine gx_iinc (v := (1 : Int32)) (i := 7) (j := 6) Cx eX8_drawn_188 (by decide) h 6 rfl (fun w => [(7, .int w), (5, .int x19), (0, .ref (gx_a κ 57)), (2, .int v2), (3, .int v3), (4, .int v4), (6, .int v6)]) (fun _ => rfl) (by decide) (fun x20 h => ?_)
          refine gx_goto (tgt := 164) Cx eX8_drawn_191 (by decide) ?_
          refine gx_sub [2, 3, 4, 5, 1, 6, 0] rfl ?_
          exact hag164 _ _ _ h
    have L164 : ∀ (v4 : Int32) (v6 : Int32) (n : Nat) (v5 : Int32) (v7 : Int32) (M : gx_Mem), f_X8_drawn_l164 ag50 v2 v3 v4 v6 n v5 v7 M = some (r9, M9) → gx_G κ Γ 164 [(0, .ref (gx_a κ 57)), (2, .int v2), (3, .int v3), (4, .int v4), (5, .int v5), (6, .int v6), (7, .int v7)] [] M := by
      intro v4 v6 n
      induction n with
      | zero => intro v5 v7 M h; exact gx_loop_0 h
      | succ n ih => intro v5 v7 M h; exact K164 v4 v6 (fun v5 v7 M => f_X8_drawn_l164 ag50 v2 v3 v4 v6 n v5 v7 M) ih v5 v7 M h
    have K66 : ∀ (v5 : Int32) (v6 : Int32) (ag66 : Int32 → Int32 → gx_Mem → Option (Int32 × gx_Mem)) (hag66 : ∀ (v4 : Int32) (v7 : Int32) (M : gx_Mem), ag66 v4 v7 M = some (r9, M9) → gx_G κ Γ 66 [(0, .ref (gx_a κ 57)), (2, .int v2), (3, .int v3), (4, .int v4), (5, .int v5), (6, .int v6), (7, .int v7)] [] M) (v4 : Int32) (v7 : Int32) (M : gx_Mem), f_X8_drawn_k66 ag50 v2 v3 v5 v6 ag66 v4 v7 M = some (r9, M9) → gx_G κ Γ 66 [(0, .ref (gx_a κ 57)), (2, .int v2), (3, .int v3), (4, .int v4), (5, .int v5), (6, .int v6), (7, .int v7)] [] M := by
      intro v5 v6 ag66 hag66
      have K137 : ∀ (v4 : Int32) (v7 : Int32) (ag137 : Int32 → gx_Mem → Option (Int32 × gx_Mem)) (hag137 : ∀ (v8 : Int32) (M : gx_Mem), ag137 v8 M = some (r9, M9) → gx_G κ Γ 137 [(0, .ref (gx_a κ 57)), (2, .int v2), (3, .int v3), (4, .int v4), (5, .int v5), (6, .int v6), (7, .int v7), (8, .int v8)] [] M) (v8 : Int32) (M : gx_Mem), f_X8_drawn_k137 ag50 ag66 v2 v3 v4 v5 v6 v7 ag137 v8 M = some (r9, M9) → gx_G κ Γ 137 [(0, .ref (gx_a κ 57)), (2, .int v2), (3, .int v3), (4, .int v4), (5, .int v5), (6, .int v6), (7, .int v7), (8, .int v8)] [] M := by
        intro v4 v7 ag137 hag137
        intro v8 M h
        refine gx_iload Cx eX8_drawn_137 7 rfl ?_
        refine gx_iconst (v := (4 : Int32)) Cx eX8_drawn_139 (by decide) ?_
        refine gx_icmp_ge (tgt := 155) Cx eX8_drawn_140 (by decide) h (fun h => ?_) (fun h => ?_)
        · refine gx_iinc (v := (1 : Int32)) (i := 7) (j := 6) Cx eX8_drawn_155 (by decide) h 6 rfl (fun w => [(7, .int w), (0, .ref (gx_a κ 57)), (2, .int v2), (3, .int v3), (4, .int v4), (5, .int v5), (6, .int v6), (8, .int v8)]) (fun _ => rfl) (by decide) (fun x13 h => ?_)
          refine gx_goto (tgt := 66) Cx eX8_drawn_158 (by decide) ?_
          refine gx_sub [1, 2, 3, 4, 5, 6, 0] rfl ?_
          exact hag66 _ _ _ h
        · refine gx_aload_n Cx eX8_drawn_143 0 rfl ?_
          refine gx_iload Cx eX8_drawn_144 7 rfl ?_
          obtain ⟨M15, h14, h⟩ := gx_bP_of h
          refine gx_callVV (ci := 8) Cx my_X8_goMark wlX8_287 rfl gx_y57 (by decide) rfl eX8_drawn_146 (c_X8_goMark κ h14) rfl (Nat.le_of_ble_eq_true rfl) ?_
          refine gx_iinc (v := (1 : Int32)) (i := 8) (j := 7) Cx eX8_drawn_149 (by decide) h 7 rfl (fun w => [(8, .int w), (0, .ref (gx_a κ 57)), (2, .int v2), (3, .int v3), (4, .int v4), (5, .int v5), (6, .int v6), (7, .int v7)]) (fun _ => rfl) (by decide) (fun x16 h => ?_)
          refine gx_goto (tgt := 137) Cx eX8_drawn_152 (by decide) ?_
          refine gx_sub [1, 2, 3, 4, 5, 6, 7, 0] rfl ?_
          exact hag137 _ _ h
      have L137 : ∀ (v4 : Int32) (v7 : Int32) (n : Nat) (v8 : Int32) (M : gx_Mem), f_X8_drawn_l137 ag50 ag66 v2 v3 v4 v5 v6 v7 n v8 M = some (r9, M9) → gx_G κ Γ 137 [(0, .ref (gx_a κ 57)), (2, .int v2), (3, .int v3), (4, .int v4), (5, .int v5), (6, .int v6), (7, .int v7), (8, .int v8)] [] M := by
        intro v4 v7 n
        induction n with
        | zero => intro v8 M h; exact gx_loop_0 h
        | succ n ih => intro v8 M h; exact K137 v4 v7 (fun v8 M => f_X8_drawn_l137 ag50 ag66 v2 v3 v4 v5 v6 v7 n v8 M) ih v8 M h
      have K83 : ∀ (v7 : Int32) (ag83 : Int32 → Int32 → gx_Mem → Option (Int32 × gx_Mem)) (hag83 : ∀ (v4 : Int32) (v8 : Int32) (M : gx_Mem), ag83 v4 v8 M = some (r9, M9) → gx_G κ Γ 83 [(0, .ref (gx_a κ 57)), (2, .int v2), (3, .int v3), (4, .int v4), (5, .int v5), (6, .int v6), (7, .int v7), (8, .int v8)] [] M) (v4 : Int32) (v8 : Int32) (M : gx_Mem), f_X8_drawn_k83 ag50 ag66 v2 v3 v5 v6 v7 ag83 v4 v8 M = some (r9, M9) → gx_G κ Γ 83 [(0, .ref (gx_a κ 57)), (2, .int v2), (3, .int v3), (4, .int v4), (5, .int v5), (6, .int v6), (7, .int v7), (8, .int v8)] [] M := by
        intro v7 ag83 hag83
        have B128 : ∀ (v4 : Int32) (v8 : Int32) (M : gx_Mem), f_X8_drawn_b128 ag50 ag66 ag83 v2 v3 v4 v5 v6 v7 v8 M = some (r9, M9) → gx_G κ Γ 128 [(0, .ref (gx_a κ 57)), (2, .int v2), (3, .int v3), (4, .int v4), (5, .int v5), (6, .int v6), (7, .int v7), (8, .int v8)] [] M := by
          intro v4 v8 M h
          refine gx_iinc (v := (1 : Int32)) (i := 8) (j := 7) Cx eX8_drawn_128 (by decide) h 7 rfl (fun w => [(8, .int w), (0, .ref (gx_a κ 57)), (2, .int v2), (3, .int v3), (4, .int v4), (5, .int v5), (6, .int v6), (7, .int v7)]) (fun _ => rfl) (by decide) (fun x12 h => ?_)
          refine gx_goto (tgt := 83) Cx eX8_drawn_131 (by decide) ?_
          refine gx_sub [1, 2, 3, 4, 5, 6, 7, 0] rfl ?_
          exact hag83 _ _ _ h
        intro v4 v8 M h
        refine gx_iload Cx eX8_drawn_83 7 rfl ?_
        refine gx_aload_n Cx eX8_drawn_85 0 rfl ?_
        refine gfX8_133 Cx eX8_drawn_86 ?_
        refine gx_icmp_ge (tgt := 134) Cx eX8_drawn_89 (by decide) h (fun h => ?_) (fun h => ?_)
        · refine gx_iconst (v := (0 : Int32)) Cx eX8_drawn_134 (by decide) ?_
          refine gx_istore Cx eX8_drawn_135 [(8, .int (0 : Int32)), (0, .ref (gx_a κ 57)), (2, .int v2), (3, .int v3), (4, .int v4), (5, .int v5), (6, .int v6), (7, .int v7)] rfl (by decide) ?_
          refine gx_sub [1, 2, 3, 4, 5, 6, 7, 0] rfl ?_
          exact L137 _ _ _ _ _ h
        · refine gx_iload Cx eX8_drawn_92 3 rfl ?_
          refine gx_ldc_w Cx eX8_drawn_94 wkX8_363 ?_
          refine gx_imul Cx eX8_drawn_97 ?_
          refine gx_sipush (v := (12345 : Int32)) Cx eX8_drawn_98 (by decide) ?_
          refine gx_iadd Cx eX8_drawn_101 ?_
          refine gx_nmI h (fun x10 h => ?_)
          refine gx_istore Cx eX8_drawn_102 [(4, .int x10), (0, .ref (gx_a κ 57)), (2, .int v2), (3, .int v3), (5, .int v5), (6, .int v6), (7, .int v7), (8, .int v8)] rfl (by decide) ?_
          refine gx_iload Cx eX8_drawn_104 0 rfl ?_
          refine gx_bipush (v := (8 : Int32)) Cx eX8_drawn_106 (by decide) ?_
          refine gx_iushr Cx eX8_drawn_108 ?_
          refine gx_iconst (v := (2 : Int32)) Cx eX8_drawn_109 (by decide) ?_
          refine gx_iremC Cx eX8_drawn_110 (by decide) ?_
          refine gx_iconst (v := (1 : Int32)) Cx eX8_drawn_111 (by decide) ?_
          refine gx_icmp_ne (tgt := 128) Cx eX8_drawn_112 (by decide) h (fun h => ?_) (fun h => ?_)
          · refine gx_sub [1, 2, 3, 0, 4, 5, 6, 7] rfl ?_
            exact B128 _ _ _ h
          · refine gx_aload_n Cx eX8_drawn_115 1 rfl ?_
            refine gx_dup Cx eX8_drawn_116 rfl ?_
            refine gfX8_267 Cx eX8_drawn_117 ?_
            refine gx_iconst (v := (1 : Int32)) Cx eX8_drawn_120 (by decide) ?_
            refine gx_iload Cx eX8_drawn_121 7 rfl ?_
            refine gx_ishl Cx eX8_drawn_123 ?_
            refine gx_ior Cx eX8_drawn_124 ?_
            refine pfX8_267 Cx eX8_drawn_125 h (fun M11 h => ?_)
            refine gx_sub [1, 2, 3, 0, 4, 5, 6, 7] rfl ?_
            exact B128 _ _ _ h
      have L83 : ∀ (v7 : Int32) (n : Nat) (v4 : Int32) (v8 : Int32) (M : gx_Mem), f_X8_drawn_l83 ag50 ag66 v2 v3 v5 v6 v7 n v4 v8 M = some (r9, M9) → gx_G κ Γ 83 [(0, .ref (gx_a κ 57)), (2, .int v2), (3, .int v3), (4, .int v4), (5, .int v5), (6, .int v6), (7, .int v7), (8, .int v8)] [] M := by
        intro v7 n
        induction n with
        | zero => intro v4 v8 M h; exact gx_loop_0 h
        | succ n ih => intro v4 v8 M h; exact K83 v7 (fun v4 v8 M => f_X8_drawn_l83 ag50 ag66 v2 v3 v5 v6 v7 n v4 v8 M) ih v4 v8 M h
      intro v4 v7 M h
      refine gx_iload Cx eX8_drawn_66 6 rfl ?_
      refine gx_iload_n Cx eX8_drawn_68 1 rfl ?_
      refine gx_bipush (v := (100 : Int32)) Cx eX8_drawn_69 (by decide) ?_
      refine gx_iremC Cx eX8_drawn_71 (by decide) ?_
      refine gx_icmp_ge (tgt := 161) Cx eX8_drawn_72 (by decide) h (fun h => ?_) (fun h => ?_)
      · refine gx_iconst (v := (0 : Int32)) Cx eX8_drawn_161 (by decide) ?_
        refine gx_istore Cx eX8_drawn_162 [(7, .int (0 : Int32)), (0, .ref (gx_a κ 57)), (2, .int v2), (3, .int v3), (4, .int v4), (5, .int v5), (6, .int v6)] rfl (by decide) ?_
        refine gx_sub [1, 2, 3, 4, 5, 6, 0] rfl ?_
        exact L164 _ _ _ _ _ _ h
      · refine gx_aload_n Cx eX8_drawn_75 0 rfl ?_
        refine gx_iconst (v := (0 : Int32)) Cx eX8_drawn_76 (by decide) ?_
        refine pfX8_267 Cx eX8_drawn_77 h (fun M9 h => ?_)
        refine gx_iconst (v := (0 : Int32)) Cx eX8_drawn_80 (by decide) ?_
        refine gx_istore Cx eX8_drawn_81 [(8, .int (0 : Int32)), (0, .ref (gx_a κ 57)), (2, .int v2), (3, .int v3), (4, .int v4), (5, .int v5), (6, .int v6), (7, .int v7)] rfl (by decide) ?_
        refine gx_sub [1, 2, 3, 4, 5, 6, 7, 0] rfl ?_
        exact L83 _ _ _ _ _ h
    have L66 : ∀ (v5 : Int32) (v6 : Int32) (n : Nat) (v4 : Int32) (v7 : Int32) (M : gx_Mem), f_X8_drawn_l66 ag50 v2 v3 v5 v6 n v4 v7 M = some (r9, M9) → gx_G κ Γ 66 [(0, .ref (gx_a κ 57)), (2, .int v2), (3, .int v3), (4, .int v4), (5, .int v5), (6, .int v6), (7, .int v7)] [] M := by
      intro v5 v6 n
      induction n with
      | zero => intro v4 v7 M h; exact gx_loop_0 h
      | succ n ih => intro v4 v7 M h; exact K66 v5 v6 (fun v4 v7 M => f_X8_drawn_l66 ag50 v2 v3 v5 v6 n v4 v7 M) ih v4 v7 M h
    intro v4 v5 v6 M h
    refine gx_iload Cx eX8_drawn_50 5 rfl ?_
    refine gx_iload_n Cx eX8_drawn_52 1 rfl ?_
    refine gx_bipush (v := (100 : Int32)) Cx eX8_drawn_53 (by decide) ?_
    refine gx_idivC Cx eX8_drawn_55 (by decide) ?_
    refine gx_icmp_ge (tgt := 232) Cx eX8_drawn_56 (by decide) h (fun h => ?_) (fun h => ?_)
    · refine gx_iload Cx eX8_drawn_232 4 rfl ?_
      exact gx_rI h rfl eX8_drawn_234 hR
    · refine gx_aload_n Cx eX8_drawn_59 0 rfl ?_
      obtain ⟨M8, h7, h⟩ := gx_bP_of h
      refine gx_callVV (ci := 8) Cx my_X8_layNow wlX8_290 rfl gx_y57 (by decide) rfl eX8_drawn_60 (c_X8_layNow κ h7) rfl (Nat.le_of_ble_eq_true rfl) ?_
      refine gx_iconst (v := (0 : Int32)) Cx eX8_drawn_63 (by decide) ?_
      refine gx_istore Cx eX8_drawn_64 [(7, .int (0 : Int32)), (0, .ref (gx_a κ 57)), (2, .int v2), (3, .int v3), (4, .int v4), (5, .int v5), (6, .int v6)] rfl (by decide) ?_
      refine gx_sub [1, 2, 3, 4, 5, 6, 0] rfl ?_
      exact L66 _ _ _ _ _ _ h
  have L50 : ∀  (n : Nat) (v4 : Int32) (v5 : Int32) (v6 : Int32) (M : gx_Mem), f_X8_drawn_l50 v2 v3 n v4 v5 v6 M = some (r9, M9) → gx_G κ Γ 50 [(0, .ref (gx_a κ 57)), (2, .int v2), (3, .int v3), (4, .int v4), (5, .int v5), (6, .int v6)] [] M := by
    intro n
    induction n with
    | zero => intro v4 v5 v6 M h; exact gx_loop_0 h
    | succ n ih => intro v4 v5 v6 M h; exact K50 (fun v4 v5 v6 M => f_X8_drawn_l50 v2 v3 n v4 v5 v6 M) ih v4 v5 v6 M h
  have h := hf
  refine gx_iload_n Cx eX8_drawn_0 2 rfl ?_
  refine gx_if_lt (tgt := 39) Cx eX8_drawn_1 (by decide) h (fun h => ?_) (fun h => ?_)
  · refine gx_iconst (v := (-1 : Int32)) Cx eX8_drawn_39 (by decide) ?_
    exact gx_rI h rfl eX8_drawn_40 hR
  · refine gx_iload_n Cx eX8_drawn_4 2 rfl ?_
    refine gx_bipush (v := (100 : Int32)) Cx eX8_drawn_5 (by decide) ?_
    refine gx_idivC Cx eX8_drawn_7 (by decide) ?_
    refine gx_iconst (v := (1 : Int32)) Cx eX8_drawn_8 (by decide) ?_
    refine gx_bipush (v := (30 : Int32)) Cx eX8_drawn_9 (by decide) ?_
    obtain ⟨y2, h1, h⟩ := gx_bP_of h
    refine gx_callSI Cx my_X8_in wlX8_136 (by decide) rfl eX8_drawn_11 (c_X8_in κ h1) rfl (Nat.le_of_ble_eq_true rfl) ?_
    refine gx_if_eq (tgt := 39) Cx eX8_drawn_14 (by decide) h (fun h => ?_) (fun h => ?_)
    · refine gx_iconst (v := (-1 : Int32)) Cx eX8_drawn_39 (by decide) ?_
      exact gx_rI h rfl eX8_drawn_40 hR
    · refine gx_iload_n Cx eX8_drawn_17 2 rfl ?_
      refine gx_bipush (v := (100 : Int32)) Cx eX8_drawn_18 (by decide) ?_
      refine gx_iremC Cx eX8_drawn_20 (by decide) ?_
      refine gx_iconst (v := (1 : Int32)) Cx eX8_drawn_21 (by decide) ?_
      refine gx_bipush (v := (24 : Int32)) Cx eX8_drawn_22 (by decide) ?_
      obtain ⟨y4, h3, h⟩ := gx_bP_of h
      refine gx_callSI Cx my_X8_in wlX8_136 (by decide) rfl eX8_drawn_24 (c_X8_in κ h3) rfl (Nat.le_of_ble_eq_true rfl) ?_
      refine gx_if_eq (tgt := 39) Cx eX8_drawn_27 (by decide) h (fun h => ?_) (fun h => ?_)
      · refine gx_iconst (v := (-1 : Int32)) Cx eX8_drawn_39 (by decide) ?_
        exact gx_rI h rfl eX8_drawn_40 hR
      · refine gx_iload_n Cx eX8_drawn_30 3 rfl ?_
        refine gx_iconst (v := (0 : Int32)) Cx eX8_drawn_31 (by decide) ?_
        refine gx_iconst (v := (1 : Int32)) Cx eX8_drawn_32 (by decide) ?_
        obtain ⟨y6, h5, h⟩ := gx_bP_of h
        refine gx_callSI Cx my_X8_in wlX8_136 (by decide) rfl eX8_drawn_33 (c_X8_in κ h5) rfl (Nat.le_of_ble_eq_true rfl) ?_
        refine gx_if_ne (tgt := 41) Cx eX8_drawn_36 (by decide) h (fun h => ?_) (fun h => ?_)
        · refine gx_iload_n Cx eX8_drawn_41 1 rfl ?_
          refine gx_istore Cx eX8_drawn_42 [(4, .int v1), (0, .ref (gx_a κ 57)), (1, .int v1), (2, .int v2), (3, .int v3)] rfl (by decide) ?_
          refine gx_iconst (v := (0 : Int32)) Cx eX8_drawn_44 (by decide) ?_
          refine gx_istore Cx eX8_drawn_45 [(5, .int (0 : Int32)), (4, .int v1), (0, .ref (gx_a κ 57)), (1, .int v1), (2, .int v2), (3, .int v3)] rfl (by decide) ?_
          refine gx_iconst (v := (0 : Int32)) Cx eX8_drawn_47 (by decide) ?_
          refine gx_istore Cx eX8_drawn_48 [(6, .int (0 : Int32)), (5, .int (0 : Int32)), (4, .int v1), (0, .ref (gx_a κ 57)), (1, .int v1), (2, .int v2), (3, .int v3)] rfl (by decide) ?_
          refine gx_sub [3, 5, 6, 2, 1, 0] rfl ?_
          exact L50 _ _ _ _ _ h
        · refine gx_iconst (v := (-1 : Int32)) Cx eX8_drawn_39 (by decide) ?_
          exact gx_rI h rfl eX8_drawn_40 hR
set_option maxHeartbeats 4000000 in
set_option maxRecDepth 100000 in
theorem c_X8_dry (κ : gx_K) {v1 : Int32} {v2 : Int32} {M : gx_Mem} {r9 : Int32} {M9 : gx_Mem} (hf : f_X8_dry v1 v2 M = some (r9, M9)) : gx_CI κ yX8_dry cX8_dry 6 (some .int) 7 [.ref (gx_a κ 57), .int v1, .int v2] M r9 M9 := by
  refine gx_enterI (d := 7) my_X8_dry.1 (by decide) (Nat.le_of_ble_eq_true rfl) (fun Γ Cx hR => ?_)
  change gx_G κ Γ 0 [(0, .ref (gx_a κ 57)), (1, .int v1), (2, .int v2)] [] M
  have K25 : ∀  (ag25 : Int32 → Int32 → gx_Mem → Option (Int32 × gx_Mem)) (hag25 : ∀ (v3 : Int32) (v4 : Int32) (M : gx_Mem), ag25 v3 v4 M = some (r9, M9) → gx_G κ Γ 25 [(0, .ref (gx_a κ 57)), (1, .int v1), (2, .int v2), (3, .int v3), (4, .int v4)] [] M) (v3 : Int32) (v4 : Int32) (M : gx_Mem), f_X8_dry_k25 v1 v2 ag25 v3 v4 M = some (r9, M9) → gx_G κ Γ 25 [(0, .ref (gx_a κ 57)), (1, .int v1), (2, .int v2), (3, .int v3), (4, .int v4)] [] M := by
    intro ag25 hag25
    have B123 : ∀ (v3 : Int32) (v4 : Int32) (M : gx_Mem), f_X8_dry_b123 ag25 v1 v2 v3 v4 M = some (r9, M9) → gx_G κ Γ 123 [(0, .ref (gx_a κ 57)), (1, .int v1), (2, .int v2), (3, .int v3), (4, .int v4)] [] M := by
      intro v3 v4 M h
      refine gx_iinc (v := (1 : Int32)) (i := 4) (j := 4) Cx eX8_dry_123 (by decide) h 4 rfl (fun w => [(4, .int w), (0, .ref (gx_a κ 57)), (1, .int v1), (2, .int v2), (3, .int v3)]) (fun _ => rfl) (by decide) (fun x11 h => ?_)
      refine gx_goto (tgt := 25) Cx eX8_dry_126 (by decide) ?_
      refine gx_sub [1, 2, 3, 4, 0] rfl ?_
      exact hag25 _ _ _ h
    have K59 : ∀ (v3 : Int32) (v4 : Int32) (ag59 : Int32 → gx_Mem → Option (Int32 × gx_Mem)) (hag59 : ∀ (v5 : Int32) (M : gx_Mem), ag59 v5 M = some (r9, M9) → gx_G κ Γ 59 [(0, .ref (gx_a κ 57)), (1, .int v1), (2, .int v2), (3, .int v3), (4, .int v4), (5, .int v5)] [] M) (v5 : Int32) (M : gx_Mem), f_X8_dry_k59 ag25 v1 v2 v3 v4 ag59 v5 M = some (r9, M9) → gx_G κ Γ 59 [(0, .ref (gx_a κ 57)), (1, .int v1), (2, .int v2), (3, .int v3), (4, .int v4), (5, .int v5)] [] M := by
      intro v3 v4 ag59 hag59
      have B98 : ∀ (v5 : Int32) (M : gx_Mem), f_X8_dry_b98 ag25 ag59 v1 v2 v3 v4 v5 M = some (r9, M9) → gx_G κ Γ 98 [(0, .ref (gx_a κ 57)), (1, .int v1), (2, .int v2), (3, .int v3), (4, .int v4), (5, .int v5)] [] M := by
        intro v5 M h
        refine gx_iinc (v := (1 : Int32)) (i := 5) (j := 5) Cx eX8_dry_98 (by decide) h 5 rfl (fun w => [(5, .int w), (0, .ref (gx_a κ 57)), (1, .int v1), (2, .int v2), (3, .int v3), (4, .int v4)]) (fun _ => rfl) (by decide) (fun x21 h => ?_)
        refine gx_goto (tgt := 59) Cx eX8_dry_101 (by decide) ?_
        refine gx_sub [1, 2, 3, 4, 5, 0] rfl ?_
        exact hag59 _ _ h
      intro v5 M h
      refine gx_iload Cx eX8_dry_59 5 rfl ?_
      refine gx_bipush (v := (8 : Int32)) Cx eX8_dry_61 (by decide) ?_
      refine gx_icmp_ge (tgt := 104) Cx eX8_dry_63 (by decide) h (fun h => ?_) (fun h => ?_)
      · refine gx_aload_n Cx eX8_dry_104 0 rfl ?_
        refine gx_bipush (v := (12 : Int32)) Cx eX8_dry_105 (by decide) ?_
        refine gx_bipush (v := (63 : Int32)) Cx eX8_dry_107 (by decide) ?_
        obtain ⟨M15, h14, h⟩ := gx_bP_of h
        refine gx_callVV (ci := 8) Cx my_X8_goHours wlX8_296 rfl gx_y57 (by decide) rfl eX8_dry_109 (c_X8_goHours κ h14) rfl (Nat.le_of_ble_eq_true rfl) ?_
        refine gx_aload_n Cx eX8_dry_112 0 rfl ?_
        refine gx_iload_n Cx eX8_dry_113 1 rfl ?_
        obtain ⟨y17, h16, h⟩ := gx_bP_of h
        refine gx_callVI (ci := 8) Cx my_X8_wetter wlX8_302 rfl gx_y57 (by decide) rfl eX8_dry_114 (c_X8_wetter κ h16) rfl (Nat.le_of_ble_eq_true rfl) ?_
        refine gx_if_ne (tgt := 123) Cx eX8_dry_117 (by decide) h (fun h => ?_) (fun h => ?_)
        · refine gx_sub [0, 1, 2, 3, 4] rfl ?_
          exact B123 _ _ _ h
        · refine gx_iload Cx eX8_dry_120 4 rfl ?_
          refine gx_istore_n Cx eX8_dry_122 [(3, .int v4), (0, .ref (gx_a κ 57)), (1, .int v1), (2, .int v2), (4, .int v4), (5, .int v5)] rfl (by decide) ?_
          refine gx_sub [1, 2, 3, 0, 4] rfl ?_
          exact B123 _ _ _ h
      · refine gx_iload Cx eX8_dry_66 4 rfl ?_
        refine gx_iload Cx eX8_dry_68 5 rfl ?_
        obtain ⟨y19, h18, h⟩ := gx_bP_of h
        refine gx_callSI Cx my_X8_has wlX8_261 (by decide) rfl eX8_dry_70 (c_X8_has κ h18) rfl (Nat.le_of_ble_eq_true rfl) ?_
        refine gx_if_eq (tgt := 98) Cx eX8_dry_73 (by decide) h (fun h => ?_) (fun h => ?_)
        · exact B98 _ _ h
        · refine gx_aload_n Cx eX8_dry_76 0 rfl ?_
          refine gfX8_71 Cx eX8_dry_77 ?_
          refine gx_bipush (v := (8 : Int32)) Cx eX8_dry_80 (by decide) ?_
          refine gx_aload_n Cx eX8_dry_82 0 rfl ?_
          refine gfX8_9 Cx eX8_dry_83 ?_
          refine gx_iload_n Cx eX8_dry_86 1 rfl ?_
          refine gx_iald Cx gx_y58 eX8_dry_87 h (fun h => ?_)
          refine gx_bipush (v := (8 : Int32)) Cx eX8_dry_88 (by decide) ?_
          refine gx_idivC Cx eX8_dry_90 (by decide) ?_
          refine gx_imul Cx eX8_dry_91 ?_
          refine gx_iload Cx eX8_dry_92 5 rfl ?_
          refine gx_iadd Cx eX8_dry_94 ?_
          refine gx_bipush (v := (9 : Int32)) Cx eX8_dry_95 (by decide) ?_
          refine gx_iast Cx gx_y77 eX8_dry_97 h (fun M20 h => ?_)
          exact B98 _ _ h
    have L59 : ∀ (v3 : Int32) (v4 : Int32) (n : Nat) (v5 : Int32) (M : gx_Mem), f_X8_dry_l59 ag25 v1 v2 v3 v4 n v5 M = some (r9, M9) → gx_G κ Γ 59 [(0, .ref (gx_a κ 57)), (1, .int v1), (2, .int v2), (3, .int v3), (4, .int v4), (5, .int v5)] [] M := by
      intro v3 v4 n
      induction n with
      | zero => intro v5 M h; exact gx_loop_0 h
      | succ n ih => intro v5 M h; exact K59 v3 v4 (fun v5 M => f_X8_dry_l59 ag25 v1 v2 v3 v4 n v5 M) ih v5 M h
    have B52 : ∀ (v3 : Int32) (v4 : Int32) (M : gx_Mem), f_X8_dry_b52 ag25 v1 v2 v3 v4 M = some (r9, M9) → gx_G κ Γ 52 [(0, .ref (gx_a κ 57)), (1, .int v1), (2, .int v2), (3, .int v3), (4, .int v4)] [] M := by
      intro v3 v4 M h
      refine gx_aload_n Cx eX8_dry_52 0 rfl ?_
      obtain ⟨M13, h12, h⟩ := gx_bP_of h
      refine gx_callVV (ci := 8) Cx my_X8_layNow wlX8_290 rfl gx_y57 (by decide) rfl eX8_dry_53 (c_X8_layNow κ h12) rfl (Nat.le_of_ble_eq_true rfl) ?_
      refine gx_iconst (v := (0 : Int32)) Cx eX8_dry_56 (by decide) ?_
      refine gx_istore Cx eX8_dry_57 [(5, .int (0 : Int32)), (0, .ref (gx_a κ 57)), (1, .int v1), (2, .int v2), (3, .int v3), (4, .int v4)] rfl (by decide) ?_
      refine gx_sub [1, 2, 3, 4, 5, 0] rfl ?_
      exact L59 _ _ _ _ _ h
    intro v3 v4 M h
    refine gx_iload Cx eX8_dry_25 4 rfl ?_
    refine gx_sipush (v := (256 : Int32)) Cx eX8_dry_27 (by decide) ?_
    refine gx_icmp_ge (tgt := 129) Cx eX8_dry_30 (by decide) h (fun h => ?_) (fun h => ?_)
    · refine gx_iload_n Cx eX8_dry_129 3 rfl ?_
      refine gx_if_lt (tgt := 138) Cx eX8_dry_130 (by decide) h (fun h => ?_) (fun h => ?_)
      · refine gx_iload_n Cx eX8_dry_138 3 rfl ?_
        refine gx_goto (tgt := 146) Cx eX8_dry_139 (by decide) ?_
        exact gx_rI h rfl eX8_dry_146 hR
      · refine gx_iload_n Cx eX8_dry_133 2 rfl ?_
        refine gx_iconst (v := (1 : Int32)) Cx eX8_dry_134 (by decide) ?_
        refine gx_icmp_ne (tgt := 142) Cx eX8_dry_135 (by decide) h (fun h => ?_) (fun h => ?_)
        · refine gx_iload_n Cx eX8_dry_142 3 rfl ?_
          obtain ⟨y6, h5, h⟩ := gx_bP_of h
          refine gx_callSI Cx my_X8_bitsOf wlX8_305 (by decide) rfl eX8_dry_143 (c_X8_bitsOf κ h5) rfl (Nat.le_of_ble_eq_true rfl) ?_
          exact gx_rI h rfl eX8_dry_146 hR
        · refine gx_iload_n Cx eX8_dry_138 3 rfl ?_
          refine gx_goto (tgt := 146) Cx eX8_dry_139 (by decide) ?_
          exact gx_rI h rfl eX8_dry_146 hR
    · refine gx_iload_n Cx eX8_dry_33 3 rfl ?_
      refine gx_if_lt (tgt := 52) Cx eX8_dry_34 (by decide) h (fun h => ?_) (fun h => ?_)
      · exact B52 _ _ _ h
      · refine gx_iload Cx eX8_dry_37 4 rfl ?_
        obtain ⟨y8, h7, h⟩ := gx_bP_of h
        refine gx_callSI Cx my_X8_bitsOf wlX8_305 (by decide) rfl eX8_dry_39 (c_X8_bitsOf κ h7) rfl (Nat.le_of_ble_eq_true rfl) ?_
        refine gx_iload_n Cx eX8_dry_42 3 rfl ?_
        obtain ⟨y10, h9, h⟩ := gx_bP_of h
        refine gx_callSI Cx my_X8_bitsOf wlX8_305 (by decide) rfl eX8_dry_43 (c_X8_bitsOf κ h9) rfl (Nat.le_of_ble_eq_true rfl) ?_
        refine gx_icmp_lt (tgt := 52) Cx eX8_dry_46 (by decide) h (fun h => ?_) (fun h => ?_)
        · exact B52 _ _ _ h
        · refine gx_goto (tgt := 123) Cx eX8_dry_49 (by decide) ?_
          exact B123 _ _ _ h
  have L25 : ∀  (n : Nat) (v3 : Int32) (v4 : Int32) (M : gx_Mem), f_X8_dry_l25 v1 v2 n v3 v4 M = some (r9, M9) → gx_G κ Γ 25 [(0, .ref (gx_a κ 57)), (1, .int v1), (2, .int v2), (3, .int v3), (4, .int v4)] [] M := by
    intro n
    induction n with
    | zero => intro v3 v4 M h; exact gx_loop_0 h
    | succ n ih => intro v3 v4 M h; exact K25 (fun v3 v4 M => f_X8_dry_l25 v1 v2 n v3 v4 M) ih v3 v4 M h
  have h := hf
  refine gx_aload_n Cx eX8_dry_0 0 rfl ?_
  refine gx_iload_n Cx eX8_dry_1 1 rfl ?_
  obtain ⟨y2, h1, h⟩ := gx_bP_of h
  refine gx_callVI (ci := 8) Cx my_X8_isOne wlX8_140 rfl gx_y57 (by decide) rfl eX8_dry_2 (c_X8_isOne κ h1) rfl (Nat.le_of_ble_eq_true rfl) ?_
  refine gx_if_eq (tgt := 17) Cx eX8_dry_5 (by decide) h (fun h => ?_) (fun h => ?_)
  · refine gx_iconst (v := (-1 : Int32)) Cx eX8_dry_17 (by decide) ?_
    exact gx_rI h rfl eX8_dry_18 hR
  · refine gx_iload_n Cx eX8_dry_8 2 rfl ?_
    refine gx_iconst (v := (0 : Int32)) Cx eX8_dry_9 (by decide) ?_
    refine gx_iconst (v := (1 : Int32)) Cx eX8_dry_10 (by decide) ?_
    obtain ⟨y4, h3, h⟩ := gx_bP_of h
    refine gx_callSI Cx my_X8_in wlX8_136 (by decide) rfl eX8_dry_11 (c_X8_in κ h3) rfl (Nat.le_of_ble_eq_true rfl) ?_
    refine gx_if_ne (tgt := 19) Cx eX8_dry_14 (by decide) h (fun h => ?_) (fun h => ?_)
    · refine gx_bipush (v := (-2 : Int32)) Cx eX8_dry_19 (by decide) ?_
      refine gx_istore_n Cx eX8_dry_21 [(3, .int (-2 : Int32)), (0, .ref (gx_a κ 57)), (1, .int v1), (2, .int v2)] rfl (by decide) ?_
      refine gx_iconst (v := (0 : Int32)) Cx eX8_dry_22 (by decide) ?_
      refine gx_istore Cx eX8_dry_23 [(4, .int (0 : Int32)), (3, .int (-2 : Int32)), (0, .ref (gx_a κ 57)), (1, .int v1), (2, .int v2)] rfl (by decide) ?_
      refine gx_sub [2, 3, 4, 1, 0] rfl ?_
      exact L25 _ _ _ _ h
    · refine gx_iconst (v := (-1 : Int32)) Cx eX8_dry_17 (by decide) ?_
      exact gx_rI h rfl eX8_dry_18 hR
set_option maxHeartbeats 4000000 in
set_option maxRecDepth 100000 in
theorem c_X8_isShelf (κ : gx_K) {v0 : Int32} {M : gx_Mem} {r9 : Int32} (hf : f_X8_isShelf v0 M = some r9) : gx_CI κ yX8_isShelf cX8_isShelf 1 (some .boolean) 1 [.int v0] M r9 M := by
  refine gx_enterI (d := 1) my_X8_isShelf.1 (by decide) (Nat.le_of_ble_eq_true rfl) (fun Γ Cx hR => ?_)
  change gx_G κ Γ 0 [(0, .int v0)] [] M
  have h := hf
  refine gx_iload_n Cx eX8_isShelf_0 0 rfl ?_
  refine gx_iconst (v := (0 : Int32)) Cx eX8_isShelf_1 (by decide) ?_
  refine gx_iconst (v := (5 : Int32)) Cx eX8_isShelf_2 (by decide) ?_
  obtain ⟨y2, h1, h⟩ := gx_bP_of h
  refine gx_callSI Cx my_X8_in wlX8_136 (by decide) rfl eX8_isShelf_3 (c_X8_in κ h1) rfl (Nat.le_of_ble_eq_true rfl) ?_
  exact gx_rZp h eX8_isShelf_6 hR
set_option maxHeartbeats 4000000 in
set_option maxRecDepth 100000 in
theorem c_X8_whyNoPlace (κ : gx_K) {v1 : Int32} {v2 : Int32} {M : gx_Mem} {r9 : Int32} (hf : f_X8_whyNoPlace v1 v2 M = some r9) : gx_CI κ yX8_whyNoPlace cX8_whyNoPlace 3 (some .int) 2 [.ref (gx_a κ 57), .int v1, .int v2] M r9 M := by
  refine gx_enterI (d := 2) my_X8_whyNoPlace.1 (by decide) (Nat.le_of_ble_eq_true rfl) (fun Γ Cx hR => ?_)
  change gx_G κ Γ 0 [(0, .ref (gx_a κ 57)), (1, .int v1), (2, .int v2)] [] M
  have h := hf
  refine gx_iload_n Cx eX8_whyNoPlace_0 1 rfl ?_
  obtain ⟨y2, h1, h⟩ := gx_bP_of h
  refine gx_callSI Cx my_X8_isShelf wlX8_154 (by decide) rfl eX8_whyNoPlace_1 (c_X8_isShelf κ h1) rfl (Nat.le_of_ble_eq_true rfl) ?_
  refine gx_if_ne (tgt := 9) Cx eX8_whyNoPlace_4 (by decide) h (fun h => ?_) (fun h => ?_)
  · refine gx_aload_n Cx eX8_whyNoPlace_9 0 rfl ?_
    refine gfX8_116 Cx eX8_whyNoPlace_10 ?_
    refine gx_iload_n Cx eX8_whyNoPlace_13 1 rfl ?_
    refine gx_iald Cx gx_y92 eX8_whyNoPlace_14 h (fun h => ?_)
    refine gx_iconst (v := (-1 : Int32)) Cx eX8_whyNoPlace_15 (by decide) ?_
    refine gx_icmp_ne (tgt := 22) Cx eX8_whyNoPlace_16 (by decide) h (fun h => ?_) (fun h => ?_)
    · refine gx_aload_n Cx eX8_whyNoPlace_22 0 rfl ?_
      refine gfX8_116 Cx eX8_whyNoPlace_23 ?_
      refine gx_iload_n Cx eX8_whyNoPlace_26 1 rfl ?_
      refine gx_iald Cx gx_y92 eX8_whyNoPlace_27 h (fun h => ?_)
      refine gx_if_lt (tgt := 34) Cx eX8_whyNoPlace_28 (by decide) h (fun h => ?_) (fun h => ?_)
      · refine gx_iload_n Cx eX8_whyNoPlace_34 2 rfl ?_
        refine gx_iconst (v := (0 : Int32)) Cx eX8_whyNoPlace_35 (by decide) ?_
        refine gx_aload_n Cx eX8_whyNoPlace_36 0 rfl ?_
        refine gfX8_119 Cx eX8_whyNoPlace_37 ?_
        refine gx_iload_n Cx eX8_whyNoPlace_40 1 rfl ?_
        refine gx_iald Cx gx_y93 eX8_whyNoPlace_41 h (fun h => ?_)
        refine gx_iconst (v := (1 : Int32)) Cx eX8_whyNoPlace_42 (by decide) ?_
        refine gx_isub Cx eX8_whyNoPlace_43 ?_
        obtain ⟨y4, h3, h⟩ := gx_bP_of h
        refine gx_callSI Cx my_X8_in wlX8_136 (by decide) rfl eX8_whyNoPlace_44 (c_X8_in κ h3) rfl (Nat.le_of_ble_eq_true rfl) ?_
        refine gx_if_eq (tgt := 54) Cx eX8_whyNoPlace_47 (by decide) h (fun h => ?_) (fun h => ?_)
        · refine gx_bipush (v := (-13 : Int32)) Cx eX8_whyNoPlace_54 (by decide) ?_
          exact gx_rIp h rfl eX8_whyNoPlace_56 hR
        · refine gx_iconst (v := (0 : Int32)) Cx eX8_whyNoPlace_50 (by decide) ?_
          refine gx_goto (tgt := 56) Cx eX8_whyNoPlace_51 (by decide) ?_
          exact gx_rIp h rfl eX8_whyNoPlace_56 hR
      · refine gx_bipush (v := (-12 : Int32)) Cx eX8_whyNoPlace_31 (by decide) ?_
        exact gx_rIp h rfl eX8_whyNoPlace_33 hR
    · refine gx_bipush (v := (-11 : Int32)) Cx eX8_whyNoPlace_19 (by decide) ?_
      exact gx_rIp h rfl eX8_whyNoPlace_21 hR
  · refine gx_iconst (v := (-1 : Int32)) Cx eX8_whyNoPlace_7 (by decide) ?_
    exact gx_rIp h rfl eX8_whyNoPlace_8 hR
set_option maxHeartbeats 4000000 in
set_option maxRecDepth 100000 in
theorem c_X8_element (κ : gx_K) {v1 : Int32} {v2 : Int32} {M : gx_Mem} {r9 : Int64} (hf : f_X8_element v1 v2 M = some r9) : gx_CJ κ yX8_element cX8_element 3 (some .long) 3 [.ref (gx_a κ 57), .int v1, .int v2] M r9 M := by
  refine gx_enterJ (d := 3) my_X8_element.1 (by decide) (Nat.le_of_ble_eq_true rfl) (fun Γ Cx hR => ?_)
  change gx_G κ Γ 0 [(0, .ref (gx_a κ 57)), (1, .int v1), (2, .int v2)] [] M
  have h := hf
  refine gx_aload_n Cx eX8_element_0 0 rfl ?_
  refine gx_iload_n Cx eX8_element_1 1 rfl ?_
  refine gx_iload_n Cx eX8_element_2 2 rfl ?_
  obtain ⟨y2, h1, h⟩ := gx_bP_of h
  refine gx_callVI (ci := 8) Cx my_X8_whyNoPlace wlX8_424 rfl gx_y57 (by decide) rfl eX8_element_3 (c_X8_whyNoPlace κ h1) rfl (Nat.le_of_ble_eq_true rfl) ?_
  refine gx_if_ge (tgt := 15) Cx eX8_element_6 (by decide) h (fun h => ?_) (fun h => ?_)
  · refine gx_aload_n Cx eX8_element_15 0 rfl ?_
    refine gfX8_122 Cx eX8_element_16 ?_
    refine gx_bipush (v := (60 : Int32)) Cx eX8_element_19 (by decide) ?_
    refine gx_iload_n Cx eX8_element_21 1 rfl ?_
    refine gx_imul Cx eX8_element_22 ?_
    refine gx_iload_n Cx eX8_element_23 2 rfl ?_
    refine gx_iadd Cx eX8_element_24 ?_
    refine gx_lald Cx gx_y94 eX8_element_25 h (fun h => ?_)
    exact gx_rJp h eX8_element_26 hR
  · refine gx_ldc2_w Cx eX8_element_9 wkX8_342 ?_
    refine gx_goto (tgt := 26) Cx eX8_element_12 (by decide) ?_
    exact gx_rJp h eX8_element_26 hR
set_option maxHeartbeats 4000000 in
set_option maxRecDepth 100000 in
theorem c_X8_feed (κ : gx_K) {v1 : Int32} {M : gx_Mem} {r9 : Int32} {M9 : gx_Mem} (hf : f_X8_feed v1 M = some (r9, M9)) : gx_CI κ yX8_feed cX8_feed 2 (some .int) 1 [.ref (gx_a κ 57), .int v1] M r9 M9 := by
  refine gx_enterI (d := 1) my_X8_feed.1 (by decide) (Nat.le_of_ble_eq_true rfl) (fun Γ Cx hR => ?_)
  change gx_G κ Γ 0 [(0, .ref (gx_a κ 57)), (1, .int v1)] [] M
  have h := hf
  refine gx_iload_n Cx eX8_feed_0 1 rfl ?_
  refine gx_iconst (v := (0 : Int32)) Cx eX8_feed_1 (by decide) ?_
  refine gx_sipush (v := (255 : Int32)) Cx eX8_feed_2 (by decide) ?_
  obtain ⟨y2, h1, h⟩ := gx_bP_of h
  refine gx_callSI Cx my_X8_in wlX8_136 (by decide) rfl eX8_feed_5 (c_X8_in κ h1) rfl (Nat.le_of_ble_eq_true rfl) ?_
  refine gx_if_ne (tgt := 13) Cx eX8_feed_8 (by decide) h (fun h => ?_) (fun h => ?_)
  · refine gx_aload_n Cx eX8_feed_13 0 rfl ?_
    refine gfX8_187 Cx eX8_feed_14 ?_
    refine gx_bipush (v := (120 : Int32)) Cx eX8_feed_17 (by decide) ?_
    refine gx_icmp_ne (tgt := 25) Cx eX8_feed_19 (by decide) h (fun h => ?_) (fun h => ?_)
    · refine gx_aload_n Cx eX8_feed_25 0 rfl ?_
      refine gfX8_42 Cx eX8_feed_26 ?_
      refine gx_aload_n Cx eX8_feed_29 0 rfl ?_
      refine gfX8_187 Cx eX8_feed_30 ?_
      refine gx_iload_n Cx eX8_feed_33 1 rfl ?_
      refine gx_i2b Cx eX8_feed_34 ?_
      refine gx_bast Cx gx_y68 eX8_feed_35 h (fun M3 h => ?_)
      refine gx_aload_n Cx eX8_feed_36 0 rfl ?_
      refine gx_dup Cx eX8_feed_37 rfl ?_
      refine gfX8_187 Cx eX8_feed_38 ?_
      refine gx_iconst (v := (1 : Int32)) Cx eX8_feed_41 (by decide) ?_
      refine gx_iadd Cx eX8_feed_42 ?_
      refine pfX8_187 Cx eX8_feed_43 h (fun M4 h => ?_)
      refine gx_aload_n Cx eX8_feed_46 0 rfl ?_
      refine gfX8_187 Cx eX8_feed_47 ?_
      exact gx_rI h rfl eX8_feed_50 hR
    · refine gx_bipush (v := (-3 : Int32)) Cx eX8_feed_22 (by decide) ?_
      exact gx_rI h rfl eX8_feed_24 hR
  · refine gx_iconst (v := (-1 : Int32)) Cx eX8_feed_11 (by decide) ?_
    exact gx_rI h rfl eX8_feed_12 hR
set_option maxHeartbeats 4000000 in
set_option maxRecDepth 100000 in
theorem c_X8_first (κ : gx_K) {v1 : Int32} {M : gx_Mem} {r9 : Int32} {M9 : gx_Mem} (hf : f_X8_first v1 M = some (r9, M9)) : gx_CI κ yX8_first cX8_first 3 (some .int) 7 [.ref (gx_a κ 57), .int v1] M r9 M9 := by
  refine gx_enterI (d := 7) my_X8_first.1 (by decide) (Nat.le_of_ble_eq_true rfl) (fun Γ Cx hR => ?_)
  change gx_G κ Γ 0 [(0, .ref (gx_a κ 57)), (1, .int v1)] [] M
  have K16 : ∀  (ag16 : Int32 → gx_Mem → Option (Int32 × gx_Mem)) (hag16 : ∀ (v2 : Int32) (M : gx_Mem), ag16 v2 M = some (r9, M9) → gx_G κ Γ 16 [(0, .ref (gx_a κ 57)), (1, .int v1), (2, .int v2)] [] M) (v2 : Int32) (M : gx_Mem), f_X8_first_k16 v1 ag16 v2 M = some (r9, M9) → gx_G κ Γ 16 [(0, .ref (gx_a κ 57)), (1, .int v1), (2, .int v2)] [] M := by
    intro ag16 hag16
    intro v2 M h
    refine gx_iload_n Cx eX8_first_16 2 rfl ?_
    refine gx_bipush (v := (48 : Int32)) Cx eX8_first_17 (by decide) ?_
    refine gx_icmp_gt (tgt := 45) Cx eX8_first_19 (by decide) h (fun h => ?_) (fun h => ?_)
    · refine gx_bipush (v := (-2 : Int32)) Cx eX8_first_45 (by decide) ?_
      exact gx_rI h rfl eX8_first_47 hR
    · refine gx_aload_n Cx eX8_first_22 0 rfl ?_
      refine gx_iconst (v := (1 : Int32)) Cx eX8_first_23 (by decide) ?_
      refine gx_bipush (v := (63 : Int32)) Cx eX8_first_24 (by decide) ?_
      obtain ⟨M6, h5, h⟩ := gx_bP_of h
      refine gx_callVV (ci := 8) Cx my_X8_goHours wlX8_296 rfl gx_y57 (by decide) rfl eX8_first_26 (c_X8_goHours κ h5) rfl (Nat.le_of_ble_eq_true rfl) ?_
      refine gx_aload_n Cx eX8_first_29 0 rfl ?_
      refine gx_iload_n Cx eX8_first_30 1 rfl ?_
      obtain ⟨y8, h7, h⟩ := gx_bP_of h
      refine gx_callVI (ci := 8) Cx my_X8_wetter wlX8_302 rfl gx_y57 (by decide) rfl eX8_first_31 (c_X8_wetter κ h7) rfl (Nat.le_of_ble_eq_true rfl) ?_
      refine gx_if_le (tgt := 39) Cx eX8_first_34 (by decide) h (fun h => ?_) (fun h => ?_)
      · refine gx_iinc (v := (1 : Int32)) (i := 2) (j := 2) Cx eX8_first_39 (by decide) h 2 rfl (fun w => [(2, .int w), (0, .ref (gx_a κ 57)), (1, .int v1)]) (fun _ => rfl) (by decide) (fun x9 h => ?_)
        refine gx_goto (tgt := 16) Cx eX8_first_42 (by decide) ?_
        refine gx_sub [1, 2, 0] rfl ?_
        exact hag16 _ _ h
      · refine gx_iload_n Cx eX8_first_37 2 rfl ?_
        exact gx_rI h rfl eX8_first_38 hR
  have L16 : ∀  (n : Nat) (v2 : Int32) (M : gx_Mem), f_X8_first_l16 v1 n v2 M = some (r9, M9) → gx_G κ Γ 16 [(0, .ref (gx_a κ 57)), (1, .int v1), (2, .int v2)] [] M := by
    intro n
    induction n with
    | zero => intro v2 M h; exact gx_loop_0 h
    | succ n ih => intro v2 M h; exact K16 (fun v2 M => f_X8_first_l16 v1 n v2 M) ih v2 M h
  have h := hf
  refine gx_aload_n Cx eX8_first_0 0 rfl ?_
  refine gx_iload_n Cx eX8_first_1 1 rfl ?_
  obtain ⟨y2, h1, h⟩ := gx_bP_of h
  refine gx_callVI (ci := 8) Cx my_X8_isOne wlX8_140 rfl gx_y57 (by decide) rfl eX8_first_2 (c_X8_isOne κ h1) rfl (Nat.le_of_ble_eq_true rfl) ?_
  refine gx_if_ne (tgt := 10) Cx eX8_first_5 (by decide) h (fun h => ?_) (fun h => ?_)
  · refine gx_aload_n Cx eX8_first_10 0 rfl ?_
    obtain ⟨M4, h3, h⟩ := gx_bP_of h
    refine gx_callVV (ci := 8) Cx my_X8_layNow wlX8_290 rfl gx_y57 (by decide) rfl eX8_first_11 (c_X8_layNow κ h3) rfl (Nat.le_of_ble_eq_true rfl) ?_
    refine gx_iconst (v := (1 : Int32)) Cx eX8_first_14 (by decide) ?_
    refine gx_istore_n Cx eX8_first_15 [(2, .int (1 : Int32)), (0, .ref (gx_a κ 57)), (1, .int v1)] rfl (by decide) ?_
    refine gx_sub [1, 2, 0] rfl ?_
    exact L16 _ _ _ h
  · refine gx_iconst (v := (-1 : Int32)) Cx eX8_first_8 (by decide) ?_
    exact gx_rI h rfl eX8_first_9 hR
set_option maxHeartbeats 4000000 in
set_option maxRecDepth 100000 in
theorem c_X8_from (κ : gx_K) {v1 : Int32} {v2 : Int32} {M : gx_Mem} {r9 : Int32} {M9 : gx_Mem} (hf : f_X8_from v1 v2 M = some (r9, M9)) : gx_CI κ yX8_from cX8_from 5 (some .int) 7 [.ref (gx_a κ 57), .int v1, .int v2] M r9 M9 := by
  refine gx_enterI (d := 7) my_X8_from.1 (by decide) (Nat.le_of_ble_eq_true rfl) (fun Γ Cx hR => ?_)
  change gx_G κ Γ 0 [(0, .ref (gx_a κ 57)), (1, .int v1), (2, .int v2)] [] M
  have K24 : ∀  (ag24 : Int32 → Int32 → gx_Mem → Option (Int32 × gx_Mem)) (hag24 : ∀ (v3 : Int32) (v4 : Int32) (M : gx_Mem), ag24 v3 v4 M = some (r9, M9) → gx_G κ Γ 24 [(0, .ref (gx_a κ 57)), (1, .int v1), (2, .int v2), (3, .int v3), (4, .int v4)] [] M) (v3 : Int32) (v4 : Int32) (M : gx_Mem), f_X8_from_k24 v1 v2 ag24 v3 v4 M = some (r9, M9) → gx_G κ Γ 24 [(0, .ref (gx_a κ 57)), (1, .int v1), (2, .int v2), (3, .int v3), (4, .int v4)] [] M := by
    intro ag24 hag24
    have B84 : ∀ (v3 : Int32) (v4 : Int32) (M : gx_Mem), f_X8_from_b84 ag24 v1 v2 v3 v4 M = some (r9, M9) → gx_G κ Γ 84 [(0, .ref (gx_a κ 57)), (1, .int v1), (2, .int v2), (3, .int v3), (4, .int v4)] [] M := by
      intro v3 v4 M h
      refine gx_iinc (v := (1 : Int32)) (i := 4) (j := 4) Cx eX8_from_84 (by decide) h 4 rfl (fun w => [(4, .int w), (0, .ref (gx_a κ 57)), (1, .int v1), (2, .int v2), (3, .int v3)]) (fun _ => rfl) (by decide) (fun x9 h => ?_)
      refine gx_goto (tgt := 24) Cx eX8_from_87 (by decide) ?_
      refine gx_sub [1, 2, 3, 4, 0] rfl ?_
      exact hag24 _ _ _ h
    have B71 : ∀ (v3 : Int32) (v4 : Int32) (s1 : Int32) (M : gx_Mem), f_X8_from_b71 ag24 v1 v2 v3 v4 s1 M = some (r9, M9) → gx_G κ Γ 71 [(0, .ref (gx_a κ 57)), (1, .int v1), (2, .int v2), (3, .int v3), (4, .int v4)] [.int s1, .ref (gx_a κ 57)] M := by
      intro v3 v4 s1 M h
      obtain ⟨y11, h10, h⟩ := gx_bP_of h
      refine gx_callVI (ci := 8) Cx my_X8_wetter wlX8_302 rfl gx_y57 (by decide) rfl eX8_from_71 (c_X8_wetter κ h10) rfl (Nat.le_of_ble_eq_true rfl) ?_
      refine gx_if_le (tgt := 84) Cx eX8_from_74 (by decide) h (fun h => ?_) (fun h => ?_)
      · exact B84 _ _ _ h
      · refine gx_iload_n Cx eX8_from_77 3 rfl ?_
        refine gx_iconst (v := (1 : Int32)) Cx eX8_from_78 (by decide) ?_
        refine gx_iload Cx eX8_from_79 4 rfl ?_
        refine gx_ishl Cx eX8_from_81 ?_
        refine gx_ior Cx eX8_from_82 ?_
        refine gx_nmI h (fun x12 h => ?_)
        refine gx_istore_n Cx eX8_from_83 [(3, .int x12), (0, .ref (gx_a κ 57)), (1, .int v1), (2, .int v2), (4, .int v4)] rfl (by decide) ?_
        refine gx_sub [1, 2, 3, 0, 4] rfl ?_
        exact B84 _ _ _ h
    intro v3 v4 M h
    refine gx_iload Cx eX8_from_24 4 rfl ?_
    refine gx_aload_n Cx eX8_from_26 0 rfl ?_
    refine gfX8_133 Cx eX8_from_27 ?_
    refine gx_icmp_ge (tgt := 90) Cx eX8_from_30 (by decide) h (fun h => ?_) (fun h => ?_)
    · refine gx_iload_n Cx eX8_from_90 3 rfl ?_
      exact gx_rI h rfl eX8_from_91 hR
    · refine gx_iload Cx eX8_from_33 4 rfl ?_
      refine gx_iload_n Cx eX8_from_35 1 rfl ?_
      refine gx_icmp_ne (tgt := 42) Cx eX8_from_36 (by decide) h (fun h => ?_) (fun h => ?_)
      · refine gx_aload_n Cx eX8_from_42 0 rfl ?_
        obtain ⟨M6, h5, h⟩ := gx_bP_of h
        refine gx_callVV (ci := 8) Cx my_X8_layNow wlX8_290 rfl gx_y57 (by decide) rfl eX8_from_43 (c_X8_layNow κ h5) rfl (Nat.le_of_ble_eq_true rfl) ?_
        refine gx_aload_n Cx eX8_from_46 0 rfl ?_
        refine gx_bipush (v := (12 : Int32)) Cx eX8_from_47 (by decide) ?_
        refine gx_iconst (v := (1 : Int32)) Cx eX8_from_49 (by decide) ?_
        refine gx_iload_n Cx eX8_from_50 1 rfl ?_
        refine gx_ishl Cx eX8_from_51 ?_
        refine gx_iconst (v := (1 : Int32)) Cx eX8_from_52 (by decide) ?_
        refine gx_iload Cx eX8_from_53 4 rfl ?_
        refine gx_ishl Cx eX8_from_55 ?_
        refine gx_ior Cx eX8_from_56 ?_
        obtain ⟨M8, h7, h⟩ := gx_bP_of h
        refine gx_callVV (ci := 8) Cx my_X8_goHours wlX8_296 rfl gx_y57 (by decide) rfl eX8_from_57 (c_X8_goHours κ h7) rfl (Nat.le_of_ble_eq_true rfl) ?_
        refine gx_aload_n Cx eX8_from_60 0 rfl ?_
        refine gx_iload_n Cx eX8_from_61 2 rfl ?_
        refine gx_if_ne (tgt := 69) Cx eX8_from_62 (by decide) h (fun h => ?_) (fun h => ?_)
        · refine gx_iload Cx eX8_from_69 4 rfl ?_
          exact B71 _ _ _ _ h
        · refine gx_iload_n Cx eX8_from_65 1 rfl ?_
          refine gx_goto (tgt := 71) Cx eX8_from_66 (by decide) ?_
          exact B71 _ _ _ _ h
      · refine gx_goto (tgt := 84) Cx eX8_from_39 (by decide) ?_
        exact B84 _ _ _ h
  have L24 : ∀  (n : Nat) (v3 : Int32) (v4 : Int32) (M : gx_Mem), f_X8_from_l24 v1 v2 n v3 v4 M = some (r9, M9) → gx_G κ Γ 24 [(0, .ref (gx_a κ 57)), (1, .int v1), (2, .int v2), (3, .int v3), (4, .int v4)] [] M := by
    intro n
    induction n with
    | zero => intro v3 v4 M h; exact gx_loop_0 h
    | succ n ih => intro v3 v4 M h; exact K24 (fun v3 v4 M => f_X8_from_l24 v1 v2 n v3 v4 M) ih v3 v4 M h
  have h := hf
  refine gx_aload_n Cx eX8_from_0 0 rfl ?_
  refine gx_iload_n Cx eX8_from_1 1 rfl ?_
  obtain ⟨y2, h1, h⟩ := gx_bP_of h
  refine gx_callVI (ci := 8) Cx my_X8_isOne wlX8_140 rfl gx_y57 (by decide) rfl eX8_from_2 (c_X8_isOne κ h1) rfl (Nat.le_of_ble_eq_true rfl) ?_
  refine gx_if_eq (tgt := 17) Cx eX8_from_5 (by decide) h (fun h => ?_) (fun h => ?_)
  · refine gx_iconst (v := (-1 : Int32)) Cx eX8_from_17 (by decide) ?_
    exact gx_rI h rfl eX8_from_18 hR
  · refine gx_iload_n Cx eX8_from_8 2 rfl ?_
    refine gx_iconst (v := (0 : Int32)) Cx eX8_from_9 (by decide) ?_
    refine gx_iconst (v := (1 : Int32)) Cx eX8_from_10 (by decide) ?_
    obtain ⟨y4, h3, h⟩ := gx_bP_of h
    refine gx_callSI Cx my_X8_in wlX8_136 (by decide) rfl eX8_from_11 (c_X8_in κ h3) rfl (Nat.le_of_ble_eq_true rfl) ?_
    refine gx_if_ne (tgt := 19) Cx eX8_from_14 (by decide) h (fun h => ?_) (fun h => ?_)
    · refine gx_iconst (v := (0 : Int32)) Cx eX8_from_19 (by decide) ?_
      refine gx_istore_n Cx eX8_from_20 [(3, .int (0 : Int32)), (0, .ref (gx_a κ 57)), (1, .int v1), (2, .int v2)] rfl (by decide) ?_
      refine gx_iconst (v := (0 : Int32)) Cx eX8_from_21 (by decide) ?_
      refine gx_istore Cx eX8_from_22 [(4, .int (0 : Int32)), (3, .int (0 : Int32)), (0, .ref (gx_a κ 57)), (1, .int v1), (2, .int v2)] rfl (by decide) ?_
      refine gx_sub [2, 3, 4, 1, 0] rfl ?_
      exact L24 _ _ _ _ h
    · refine gx_iconst (v := (-1 : Int32)) Cx eX8_from_17 (by decide) ?_
      exact gx_rI h rfl eX8_from_18 hR
set_option maxHeartbeats 4000000 in
set_option maxRecDepth 100000 in
theorem c_X8_hour (κ : gx_K)  {M : gx_Mem} {r9 : Int32} {M9 : gx_Mem} (hf : f_X8_hour M = some (r9, M9)) : gx_CI κ yX8_hour cX8_hour 2 (some .int) 7 [.ref (gx_a κ 57)] M r9 M9 := by
  refine gx_enterI (d := 7) my_X8_hour.1 (by decide) (Nat.le_of_ble_eq_true rfl) (fun Γ Cx hR => ?_)
  change gx_G κ Γ 0 [(0, .ref (gx_a κ 57))] [] M
  have K59 : ∀  (ag59 : Int32 → gx_Mem → Option (Int32 × gx_Mem)) (hag59 : ∀ (v1 : Int32) (M : gx_Mem), ag59 v1 M = some (r9, M9) → gx_G κ Γ 59 [(0, .ref (gx_a κ 57)), (1, .int v1)] [] M) (v1 : Int32) (M : gx_Mem), f_X8_hour_k59 ag59 v1 M = some (r9, M9) → gx_G κ Γ 59 [(0, .ref (gx_a κ 57)), (1, .int v1)] [] M := by
    intro ag59 hag59
    intro v1 M h
    refine gx_iload_n Cx eX8_hour_59 1 rfl ?_
    refine gx_iconst (v := (4 : Int32)) Cx eX8_hour_60 (by decide) ?_
    refine gx_icmp_ge (tgt := 85) Cx eX8_hour_61 (by decide) h (fun h => ?_) (fun h => ?_)
    · refine gx_aload_n Cx eX8_hour_85 0 rfl ?_
      refine gfX8_27 Cx eX8_hour_86 ?_
      refine gx_iconst (v := (1 : Int32)) Cx eX8_hour_89 (by decide) ?_
      refine gx_ialdC (α := Unit) (b := none) Cx gx_y63 eX8_hour_90 (by decide) ?_
      exact gx_rI h rfl eX8_hour_91 hR
    · refine gx_aload_n Cx eX8_hour_64 0 rfl ?_
      refine gfX8_95 Cx eX8_hour_65 ?_
      refine gx_iconst (v := (3 : Int32)) Cx eX8_hour_68 (by decide) ?_
      refine gx_dup2 Cx eX8_hour_69 rfl rfl ?_
      refine gx_ialdC (α := Unit) (b := none) Cx gx_y85 eX8_hour_70 (by decide) ?_
      refine gx_aload_n Cx eX8_hour_71 0 rfl ?_
      refine gfX8_77 Cx eX8_hour_72 ?_
      refine gx_iload_n Cx eX8_hour_75 1 rfl ?_
      refine gx_iald Cx gx_y79 eX8_hour_76 h (fun h => ?_)
      refine gx_iadd Cx eX8_hour_77 ?_
      refine gx_iastC Cx gx_y85 eX8_hour_78 (by decide) h (fun M9 h => ?_)
      refine gx_iinc (v := (1 : Int32)) (i := 1) (j := 1) Cx eX8_hour_79 (by decide) h 1 rfl (fun w => [(1, .int w), (0, .ref (gx_a κ 57))]) (fun _ => rfl) (by decide) (fun x10 h => ?_)
      refine gx_goto (tgt := 59) Cx eX8_hour_82 (by decide) ?_
      refine gx_sub [1, 0] rfl ?_
      exact hag59 _ _ h
  have L59 : ∀  (n : Nat) (v1 : Int32) (M : gx_Mem), f_X8_hour_l59 n v1 M = some (r9, M9) → gx_G κ Γ 59 [(0, .ref (gx_a κ 57)), (1, .int v1)] [] M := by
    intro n
    induction n with
    | zero => intro v1 M h; exact gx_loop_0 h
    | succ n ih => intro v1 M h; exact K59 (fun v1 M => f_X8_hour_l59 n v1 M) ih v1 M h
  have K13 : ∀  (ag13 : Int32 → gx_Mem → Option (Int32 × gx_Mem)) (hag13 : ∀ (v1 : Int32) (M : gx_Mem), ag13 v1 M = some (r9, M9) → gx_G κ Γ 13 [(0, .ref (gx_a κ 57)), (1, .int v1)] [] M) (v1 : Int32) (M : gx_Mem), f_X8_hour_k13 ag13 v1 M = some (r9, M9) → gx_G κ Γ 13 [(0, .ref (gx_a κ 57)), (1, .int v1)] [] M := by
    intro ag13 hag13
    intro v1 M h
    refine gx_iload_n Cx eX8_hour_13 1 rfl ?_
    refine gx_bipush (v := (24 : Int32)) Cx eX8_hour_14 (by decide) ?_
    refine gx_icmp_ge (tgt := 37) Cx eX8_hour_16 (by decide) h (fun h => ?_) (fun h => ?_)
    · refine gx_aload_n Cx eX8_hour_37 0 rfl ?_
      refine gfX8_27 Cx eX8_hour_38 ?_
      refine gx_iconst (v := (1 : Int32)) Cx eX8_hour_41 (by decide) ?_
      refine gx_aload_n Cx eX8_hour_42 0 rfl ?_
      refine gfX8_258 Cx eX8_hour_43 ?_
      refine gx_iastC Cx gx_y63 eX8_hour_46 (by decide) h (fun M5 h => ?_)
      refine gx_aload_n Cx eX8_hour_47 0 rfl ?_
      refine gfX8_95 Cx eX8_hour_48 ?_
      refine gx_iconst (v := (0 : Int32)) Cx eX8_hour_51 (by decide) ?_
      refine gx_dup2 Cx eX8_hour_52 rfl rfl ?_
      refine gx_ialdC (α := Unit) (b := none) Cx gx_y85 eX8_hour_53 (by decide) ?_
      refine gx_iconst (v := (1 : Int32)) Cx eX8_hour_54 (by decide) ?_
      refine gx_iadd Cx eX8_hour_55 ?_
      refine gx_iastC Cx gx_y85 eX8_hour_56 (by decide) h (fun M6 h => ?_)
      refine gx_iconst (v := (0 : Int32)) Cx eX8_hour_57 (by decide) ?_
      refine gx_istore_n Cx eX8_hour_58 [(1, .int (0 : Int32)), (0, .ref (gx_a κ 57))] rfl (by decide) ?_
      refine gx_sub [1, 0] rfl ?_
      exact L59 _ _ _ h
    · refine gx_aload_n Cx eX8_hour_19 0 rfl ?_
      refine gfX8_21 Cx eX8_hour_20 ?_
      refine gx_iload_n Cx eX8_hour_23 1 rfl ?_
      refine gx_aload_n Cx eX8_hour_24 0 rfl ?_
      refine gfX8_74 Cx eX8_hour_25 ?_
      refine gx_iload_n Cx eX8_hour_28 1 rfl ?_
      refine gx_iald Cx gx_y78 eX8_hour_29 h (fun h => ?_)
      refine gx_iast Cx gx_y61 eX8_hour_30 h (fun M7 h => ?_)
      refine gx_iinc (v := (1 : Int32)) (i := 1) (j := 1) Cx eX8_hour_31 (by decide) h 1 rfl (fun w => [(1, .int w), (0, .ref (gx_a κ 57))]) (fun _ => rfl) (by decide) (fun x8 h => ?_)
      refine gx_goto (tgt := 13) Cx eX8_hour_34 (by decide) ?_
      refine gx_sub [1, 0] rfl ?_
      exact hag13 _ _ h
  have L13 : ∀  (n : Nat) (v1 : Int32) (M : gx_Mem), f_X8_hour_l13 n v1 M = some (r9, M9) → gx_G κ Γ 13 [(0, .ref (gx_a κ 57)), (1, .int v1)] [] M := by
    intro n
    induction n with
    | zero => intro v1 M h; exact gx_loop_0 h
    | succ n ih => intro v1 M h; exact K13 (fun v1 M => f_X8_hour_l13 n v1 M) ih v1 M h
  have h := hf
  refine gx_aload_n Cx eX8_hour_0 0 rfl ?_
  obtain ⟨M2, h1, h⟩ := gx_bP_of h
  refine gx_callVV (ci := 8) Cx my_X8_layNow wlX8_290 rfl gx_y57 (by decide) rfl eX8_hour_1 (c_X8_layNow κ h1) rfl (Nat.le_of_ble_eq_true rfl) ?_
  refine gx_aload_n Cx eX8_hour_4 0 rfl ?_
  refine gx_iconst (v := (1 : Int32)) Cx eX8_hour_5 (by decide) ?_
  refine gx_bipush (v := (63 : Int32)) Cx eX8_hour_6 (by decide) ?_
  obtain ⟨M4, h3, h⟩ := gx_bP_of h
  refine gx_callVV (ci := 8) Cx my_X8_goHours wlX8_296 rfl gx_y57 (by decide) rfl eX8_hour_8 (c_X8_goHours κ h3) rfl (Nat.le_of_ble_eq_true rfl) ?_
  refine gx_iconst (v := (0 : Int32)) Cx eX8_hour_11 (by decide) ?_
  refine gx_istore_n Cx eX8_hour_12 [(1, .int (0 : Int32)), (0, .ref (gx_a κ 57))] rfl (by decide) ?_
  refine gx_sub [1, 0] rfl ?_
  exact L13 _ _ _ h
set_option maxHeartbeats 4000000 in
set_option maxRecDepth 100000 in
theorem c_X8_image (κ : gx_K)  {M : gx_Mem} {r9 : Int32} {M9 : gx_Mem} (hf : f_X8_image M = some (r9, M9)) : gx_CI κ yX8_image cX8_image 2 (some .int) 0 [.ref (gx_a κ 57)] M r9 M9 := by
  refine gx_enterI (d := 0) my_X8_image.1 (by decide) (Nat.le_of_ble_eq_true rfl) (fun Γ Cx hR => ?_)
  change gx_G κ Γ 0 [(0, .ref (gx_a κ 57))] [] M
  have K91 : ∀  (ag91 : Int32 → gx_Mem → Option (Int32 × gx_Mem)) (hag91 : ∀ (v1 : Int32) (M : gx_Mem), ag91 v1 M = some (r9, M9) → gx_G κ Γ 91 [(0, .ref (gx_a κ 57)), (1, .int v1)] [] M) (v1 : Int32) (M : gx_Mem), f_X8_image_k91 ag91 v1 M = some (r9, M9) → gx_G κ Γ 91 [(0, .ref (gx_a κ 57)), (1, .int v1)] [] M := by
    intro ag91 hag91
    intro v1 M h
    refine gx_iload_n Cx eX8_image_91 1 rfl ?_
    refine gx_iconst (v := (5 : Int32)) Cx eX8_image_92 (by decide) ?_
    refine gx_icmp_ge (tgt := 114) Cx eX8_image_93 (by decide) h (fun h => ?_) (fun h => ?_)
    · refine gx_aload_n Cx eX8_image_114 0 rfl ?_
      refine gfX8_95 Cx eX8_image_115 ?_
      refine gx_iconst (v := (0 : Int32)) Cx eX8_image_118 (by decide) ?_
      refine gx_ialdC (α := Unit) (b := none) Cx gx_y85 eX8_image_119 (by decide) ?_
      exact gx_rI h rfl eX8_image_120 hR
    · refine gx_aload_n Cx eX8_image_96 0 rfl ?_
      refine gfX8_107 Cx eX8_image_97 ?_
      refine gx_iload_n Cx eX8_image_100 1 rfl ?_
      refine gx_aload_n Cx eX8_image_101 0 rfl ?_
      refine gfX8_95 Cx eX8_image_102 ?_
      refine gx_iload_n Cx eX8_image_105 1 rfl ?_
      refine gx_iald Cx gx_y85 eX8_image_106 h (fun h => ?_)
      refine gx_iast Cx gx_y89 eX8_image_107 h (fun M9 h => ?_)
      refine gx_iinc (v := (1 : Int32)) (i := 1) (j := 1) Cx eX8_image_108 (by decide) h 1 rfl (fun w => [(1, .int w), (0, .ref (gx_a κ 57))]) (fun _ => rfl) (by decide) (fun x10 h => ?_)
      refine gx_goto (tgt := 91) Cx eX8_image_111 (by decide) ?_
      refine gx_sub [1, 0] rfl ?_
      exact hag91 _ _ h
  have L91 : ∀  (n : Nat) (v1 : Int32) (M : gx_Mem), f_X8_image_l91 n v1 M = some (r9, M9) → gx_G κ Γ 91 [(0, .ref (gx_a κ 57)), (1, .int v1)] [] M := by
    intro n
    induction n with
    | zero => intro v1 M h; exact gx_loop_0 h
    | succ n ih => intro v1 M h; exact K91 (fun v1 M => f_X8_image_l91 n v1 M) ih v1 M h
  have K53 : ∀  (ag53 : Int32 → gx_Mem → Option (Int32 × gx_Mem)) (hag53 : ∀ (v1 : Int32) (M : gx_Mem), ag53 v1 M = some (r9, M9) → gx_G κ Γ 53 [(0, .ref (gx_a κ 57)), (1, .int v1)] [] M) (v1 : Int32) (M : gx_Mem), f_X8_image_k53 ag53 v1 M = some (r9, M9) → gx_G κ Γ 53 [(0, .ref (gx_a κ 57)), (1, .int v1)] [] M := by
    intro ag53 hag53
    intro v1 M h
    refine gx_iload_n Cx eX8_image_53 1 rfl ?_
    refine gx_bipush (v := (24 : Int32)) Cx eX8_image_54 (by decide) ?_
    refine gx_icmp_ge (tgt := 89) Cx eX8_image_56 (by decide) h (fun h => ?_) (fun h => ?_)
    · refine gx_iconst (v := (0 : Int32)) Cx eX8_image_89 (by decide) ?_
      refine gx_istore_n Cx eX8_image_90 [(1, .int (0 : Int32)), (0, .ref (gx_a κ 57))] rfl (by decide) ?_
      refine gx_sub [1, 0] rfl ?_
      exact L91 _ _ _ h
    · refine gx_aload_n Cx eX8_image_59 0 rfl ?_
      refine gfX8_101 Cx eX8_image_60 ?_
      refine gx_iload_n Cx eX8_image_63 1 rfl ?_
      refine gx_aload_n Cx eX8_image_64 0 rfl ?_
      refine gfX8_21 Cx eX8_image_65 ?_
      refine gx_iload_n Cx eX8_image_68 1 rfl ?_
      refine gx_iald Cx gx_y61 eX8_image_69 h (fun h => ?_)
      refine gx_iast Cx gx_y87 eX8_image_70 h (fun M6 h => ?_)
      refine gx_aload_n Cx eX8_image_71 0 rfl ?_
      refine gfX8_104 Cx eX8_image_72 ?_
      refine gx_iload_n Cx eX8_image_75 1 rfl ?_
      refine gx_aload_n Cx eX8_image_76 0 rfl ?_
      refine gfX8_24 Cx eX8_image_77 ?_
      refine gx_iload_n Cx eX8_image_80 1 rfl ?_
      refine gx_iald Cx gx_y62 eX8_image_81 h (fun h => ?_)
      refine gx_iast Cx gx_y88 eX8_image_82 h (fun M7 h => ?_)
      refine gx_iinc (v := (1 : Int32)) (i := 1) (j := 1) Cx eX8_image_83 (by decide) h 1 rfl (fun w => [(1, .int w), (0, .ref (gx_a κ 57))]) (fun _ => rfl) (by decide) (fun x8 h => ?_)
      refine gx_goto (tgt := 53) Cx eX8_image_86 (by decide) ?_
      refine gx_sub [1, 0] rfl ?_
      exact hag53 _ _ h
  have L53 : ∀  (n : Nat) (v1 : Int32) (M : gx_Mem), f_X8_image_l53 n v1 M = some (r9, M9) → gx_G κ Γ 53 [(0, .ref (gx_a κ 57)), (1, .int v1)] [] M := by
    intro n
    induction n with
    | zero => intro v1 M h; exact gx_loop_0 h
    | succ n ih => intro v1 M h; exact K53 (fun v1 M => f_X8_image_l53 n v1 M) ih v1 M h
  have K25 : ∀  (ag25 : Int32 → gx_Mem → Option (Int32 × gx_Mem)) (hag25 : ∀ (v1 : Int32) (M : gx_Mem), ag25 v1 M = some (r9, M9) → gx_G κ Γ 25 [(0, .ref (gx_a κ 57)), (1, .int v1)] [] M) (v1 : Int32) (M : gx_Mem), f_X8_image_k25 ag25 v1 M = some (r9, M9) → gx_G κ Γ 25 [(0, .ref (gx_a κ 57)), (1, .int v1)] [] M := by
    intro ag25 hag25
    intro v1 M h
    refine gx_iload_n Cx eX8_image_25 1 rfl ?_
    refine gx_aload_n Cx eX8_image_26 0 rfl ?_
    refine gfX8_133 Cx eX8_image_27 ?_
    refine gx_icmp_ge (tgt := 51) Cx eX8_image_30 (by decide) h (fun h => ?_) (fun h => ?_)
    · refine gx_iconst (v := (0 : Int32)) Cx eX8_image_51 (by decide) ?_
      refine gx_istore_n Cx eX8_image_52 [(1, .int (0 : Int32)), (0, .ref (gx_a κ 57))] rfl (by decide) ?_
      refine gx_sub [1, 0] rfl ?_
      exact L53 _ _ _ h
    · refine gx_aload_n Cx eX8_image_33 0 rfl ?_
      refine gfX8_98 Cx eX8_image_34 ?_
      refine gx_iload_n Cx eX8_image_37 1 rfl ?_
      refine gx_aload_n Cx eX8_image_38 0 rfl ?_
      refine gfX8_9 Cx eX8_image_39 ?_
      refine gx_iload_n Cx eX8_image_42 1 rfl ?_
      refine gx_iald Cx gx_y58 eX8_image_43 h (fun h => ?_)
      refine gx_iast Cx gx_y86 eX8_image_44 h (fun M4 h => ?_)
      refine gx_iinc (v := (1 : Int32)) (i := 1) (j := 1) Cx eX8_image_45 (by decide) h 1 rfl (fun w => [(1, .int w), (0, .ref (gx_a κ 57))]) (fun _ => rfl) (by decide) (fun x5 h => ?_)
      refine gx_goto (tgt := 25) Cx eX8_image_48 (by decide) ?_
      refine gx_sub [1, 0] rfl ?_
      exact hag25 _ _ h
  have L25 : ∀  (n : Nat) (v1 : Int32) (M : gx_Mem), f_X8_image_l25 n v1 M = some (r9, M9) → gx_G κ Γ 25 [(0, .ref (gx_a κ 57)), (1, .int v1)] [] M := by
    intro n
    induction n with
    | zero => intro v1 M h; exact gx_loop_0 h
    | succ n ih => intro v1 M h; exact K25 (fun v1 M => f_X8_image_l25 n v1 M) ih v1 M h
  have h := hf
  refine gx_aload_n Cx eX8_image_0 0 rfl ?_
  refine gx_iconst (v := (1 : Int32)) Cx eX8_image_1 (by decide) ?_
  refine pfX8_364 Cx eX8_image_2 rfl rfl h (fun M1 h => ?_)
  refine gx_aload_n Cx eX8_image_5 0 rfl ?_
  refine gx_aload_n Cx eX8_image_6 0 rfl ?_
  refine gfX8_133 Cx eX8_image_7 ?_
  refine pfX8_367 Cx eX8_image_10 h (fun M2 h => ?_)
  refine gx_aload_n Cx eX8_image_13 0 rfl ?_
  refine gx_aload_n Cx eX8_image_14 0 rfl ?_
  refine gfX8_27 Cx eX8_image_15 ?_
  refine gx_iconst (v := (1 : Int32)) Cx eX8_image_18 (by decide) ?_
  refine gx_ialdC (α := Unit) (b := none) Cx gx_y63 eX8_image_19 (by decide) ?_
  refine pfX8_370 Cx eX8_image_20 h (fun M3 h => ?_)
  refine gx_iconst (v := (0 : Int32)) Cx eX8_image_23 (by decide) ?_
  refine gx_istore_n Cx eX8_image_24 [(1, .int (0 : Int32)), (0, .ref (gx_a κ 57))] rfl (by decide) ?_
  refine gx_sub [1, 0] rfl ?_
  exact L25 _ _ _ h
set_option maxHeartbeats 4000000 in
set_option maxRecDepth 100000 in
theorem c_X8_isJust (κ : gx_K) {v1 : Int32} {M : gx_Mem} {r9 : Int32} {M9 : gx_Mem} (hf : f_X8_isJust v1 M = some (r9, M9)) : gx_CI κ yX8_isJust cX8_isJust 3 (some .boolean) 5 [.ref (gx_a κ 57), .int v1] M r9 M9 := by
  refine gx_enterI (d := 5) my_X8_isJust.1 (by decide) (Nat.le_of_ble_eq_true rfl) (fun Γ Cx hR => ?_)
  change gx_G κ Γ 0 [(0, .ref (gx_a κ 57)), (1, .int v1)] [] M
  have K2 : ∀  (ag2 : Int32 → gx_Mem → Option (Int32 × gx_Mem)) (hag2 : ∀ (v2 : Int32) (M : gx_Mem), ag2 v2 M = some (r9, M9) → gx_G κ Γ 2 [(0, .ref (gx_a κ 57)), (1, .int v1), (2, .int v2)] [] M) (v2 : Int32) (M : gx_Mem), f_X8_isJust_k2 v1 ag2 v2 M = some (r9, M9) → gx_G κ Γ 2 [(0, .ref (gx_a κ 57)), (1, .int v1), (2, .int v2)] [] M := by
    intro ag2 hag2
    intro v2 M h
    refine gx_iload_n Cx eX8_isJust_2 2 rfl ?_
    refine gx_iconst (v := (4 : Int32)) Cx eX8_isJust_3 (by decide) ?_
    refine gx_icmp_ge (tgt := 34) Cx eX8_isJust_4 (by decide) h (fun h => ?_) (fun h => ?_)
    · refine gx_iconst (v := (1 : Int32)) Cx eX8_isJust_34 (by decide) ?_
      exact gx_rI h (by decide) eX8_isJust_35 hR
    · refine gx_aload_n Cx eX8_isJust_7 0 rfl ?_
      refine gx_iload_n Cx eX8_isJust_8 2 rfl ?_
      obtain ⟨M2, h1, h⟩ := gx_bP_of h
      refine gx_callVV (ci := 8) Cx my_X8_flow wlX8_274 rfl gx_y57 (by decide) rfl eX8_isJust_9 (c_X8_flow κ h1) rfl (Nat.le_of_ble_eq_true rfl) ?_
      refine gx_aload_n Cx eX8_isJust_12 0 rfl ?_
      refine gx_iload_n Cx eX8_isJust_13 2 rfl ?_
      obtain ⟨y4, h3, h⟩ := gx_bP_of h
      refine gx_callVI (ci := 8) Cx my_X8_toPorter wlX8_278 rfl gx_y57 (by decide) rfl eX8_isJust_14 (c_X8_toPorter κ h3) rfl (Nat.le_of_ble_eq_true rfl) ?_
      refine gx_aload_n Cx eX8_isJust_17 0 rfl ?_
      refine gx_iload_n Cx eX8_isJust_18 1 rfl ?_
      refine gx_iload_n Cx eX8_isJust_19 2 rfl ?_
      obtain ⟨y6, h5, h⟩ := gx_bP_of h
      refine gx_callVI (ci := 8) Cx my_X8_at wlX8_318 rfl gx_y57 (by decide) rfl eX8_isJust_20 (c_X8_at κ h5) rfl (Nat.le_of_ble_eq_true rfl) ?_
      refine gx_icmp_eq (tgt := 28) Cx eX8_isJust_23 (by decide) h (fun h => ?_) (fun h => ?_)
      · refine gx_iinc (v := (1 : Int32)) (i := 2) (j := 2) Cx eX8_isJust_28 (by decide) h 2 rfl (fun w => [(2, .int w), (0, .ref (gx_a κ 57)), (1, .int v1)]) (fun _ => rfl) (by decide) (fun x7 h => ?_)
        refine gx_goto (tgt := 2) Cx eX8_isJust_31 (by decide) ?_
        refine gx_sub [1, 2, 0] rfl ?_
        exact hag2 _ _ h
      · refine gx_iconst (v := (0 : Int32)) Cx eX8_isJust_26 (by decide) ?_
        exact gx_rI h (by decide) eX8_isJust_27 hR
  have L2 : ∀  (n : Nat) (v2 : Int32) (M : gx_Mem), f_X8_isJust_l2 v1 n v2 M = some (r9, M9) → gx_G κ Γ 2 [(0, .ref (gx_a κ 57)), (1, .int v1), (2, .int v2)] [] M := by
    intro n
    induction n with
    | zero => intro v2 M h; exact gx_loop_0 h
    | succ n ih => intro v2 M h; exact K2 (fun v2 M => f_X8_isJust_l2 v1 n v2 M) ih v2 M h
  have h := hf
  refine gx_iconst (v := (0 : Int32)) Cx eX8_isJust_0 (by decide) ?_
  refine gx_istore_n Cx eX8_isJust_1 [(2, .int (0 : Int32)), (0, .ref (gx_a κ 57)), (1, .int v1)] rfl (by decide) ?_
  refine gx_sub [1, 2, 0] rfl ?_
  exact L2 _ _ _ h
set_option maxHeartbeats 4000000 in
set_option maxRecDepth 100000 in
theorem c_X8_isPlace (κ : gx_K) {v1 : Int32} {v2 : Int32} {M : gx_Mem} {r9 : Int32} (hf : f_X8_isPlace v1 v2 M = some r9) : gx_CI κ yX8_isPlace cX8_isPlace 3 (some .boolean) 3 [.ref (gx_a κ 57), .int v1, .int v2] M r9 M := by
  refine gx_enterI (d := 3) my_X8_isPlace.1 (by decide) (Nat.le_of_ble_eq_true rfl) (fun Γ Cx hR => ?_)
  change gx_G κ Γ 0 [(0, .ref (gx_a κ 57)), (1, .int v1), (2, .int v2)] [] M
  have h := hf
  refine gx_iload_n Cx eX8_isPlace_0 2 rfl ?_
  refine gx_iconst (v := (0 : Int32)) Cx eX8_isPlace_1 (by decide) ?_
  refine gx_iconst (v := (1 : Int32)) Cx eX8_isPlace_2 (by decide) ?_
  obtain ⟨y2, h1, h⟩ := gx_bP_of h
  refine gx_callSI Cx my_X8_in wlX8_136 (by decide) rfl eX8_isPlace_3 (c_X8_in κ h1) rfl (Nat.le_of_ble_eq_true rfl) ?_
  refine gx_if_eq (tgt := 17) Cx eX8_isPlace_6 (by decide) h (fun h => ?_) (fun h => ?_)
  · refine gx_iload_n Cx eX8_isPlace_17 2 rfl ?_
    refine gx_iconst (v := (2 : Int32)) Cx eX8_isPlace_18 (by decide) ?_
    refine gx_iconst (v := (3 : Int32)) Cx eX8_isPlace_19 (by decide) ?_
    obtain ⟨y4, h3, h⟩ := gx_bP_of h
    refine gx_callSI Cx my_X8_in wlX8_136 (by decide) rfl eX8_isPlace_20 (c_X8_in κ h3) rfl (Nat.le_of_ble_eq_true rfl) ?_
    refine gx_if_eq (tgt := 34) Cx eX8_isPlace_23 (by decide) h (fun h => ?_) (fun h => ?_)
    · refine gx_iload_n Cx eX8_isPlace_34 2 rfl ?_
      refine gx_iconst (v := (4 : Int32)) Cx eX8_isPlace_35 (by decide) ?_
      refine gx_icmp_ne (tgt := 46) Cx eX8_isPlace_36 (by decide) h (fun h => ?_) (fun h => ?_)
      · refine gx_iload_n Cx eX8_isPlace_46 2 rfl ?_
        refine gx_iconst (v := (5 : Int32)) Cx eX8_isPlace_47 (by decide) ?_
        refine gx_bipush (v := (6 : Int32)) Cx eX8_isPlace_48 (by decide) ?_
        obtain ⟨y6, h5, h⟩ := gx_bP_of h
        refine gx_callSI Cx my_X8_in wlX8_136 (by decide) rfl eX8_isPlace_50 (c_X8_in κ h5) rfl (Nat.le_of_ble_eq_true rfl) ?_
        refine gx_if_eq (tgt := 64) Cx eX8_isPlace_53 (by decide) h (fun h => ?_) (fun h => ?_)
        · refine gx_iconst (v := (0 : Int32)) Cx eX8_isPlace_64 (by decide) ?_
          exact gx_rIp h (by decide) eX8_isPlace_65 hR
        · refine gx_iload_n Cx eX8_isPlace_56 1 rfl ?_
          refine gx_if_ne (tgt := 64) Cx eX8_isPlace_57 (by decide) h (fun h => ?_) (fun h => ?_)
          · refine gx_iconst (v := (0 : Int32)) Cx eX8_isPlace_64 (by decide) ?_
            exact gx_rIp h (by decide) eX8_isPlace_65 hR
          · refine gx_iconst (v := (1 : Int32)) Cx eX8_isPlace_60 (by decide) ?_
            refine gx_goto (tgt := 65) Cx eX8_isPlace_61 (by decide) ?_
            exact gx_rIp h (by decide) eX8_isPlace_65 hR
      · refine gx_iload_n Cx eX8_isPlace_39 1 rfl ?_
        obtain ⟨y8, h7, h⟩ := gx_bP_of h
        refine gx_callSI Cx my_X8_isFlat wlX8_147 (by decide) rfl eX8_isPlace_40 (c_X8_isFlat κ h7) rfl (Nat.le_of_ble_eq_true rfl) ?_
        refine gx_goto (tgt := 65) Cx eX8_isPlace_43 (by decide) ?_
        exact gx_rZp h eX8_isPlace_65 hR
    · refine gx_aload_n Cx eX8_isPlace_26 0 rfl ?_
      refine gx_iload_n Cx eX8_isPlace_27 1 rfl ?_
      obtain ⟨y10, h9, h⟩ := gx_bP_of h
      refine gx_callVI (ci := 8) Cx my_X8_areMark wlX8_170 rfl gx_y57 (by decide) rfl eX8_isPlace_28 (c_X8_areMark κ h9) rfl (Nat.le_of_ble_eq_true rfl) ?_
      refine gx_goto (tgt := 65) Cx eX8_isPlace_31 (by decide) ?_
      exact gx_rZp h eX8_isPlace_65 hR
  · refine gx_aload_n Cx eX8_isPlace_9 0 rfl ?_
    refine gx_iload_n Cx eX8_isPlace_10 1 rfl ?_
    obtain ⟨y12, h11, h⟩ := gx_bP_of h
    refine gx_callVI (ci := 8) Cx my_X8_isOne wlX8_140 rfl gx_y57 (by decide) rfl eX8_isPlace_11 (c_X8_isOne κ h11) rfl (Nat.le_of_ble_eq_true rfl) ?_
    refine gx_goto (tgt := 65) Cx eX8_isPlace_14 (by decide) ?_
    exact gx_rZp h eX8_isPlace_65 hR
set_option maxHeartbeats 4000000 in
set_option maxRecDepth 100000 in
theorem c_X8_keep (κ : gx_K) {v1 : Int32} {v2 : Int32} {M : gx_Mem} {r9 : Int32} {M9 : gx_Mem} (hf : f_X8_keep v1 v2 M = some (r9, M9)) : gx_CI κ yX8_keep cX8_keep 3 (some .int) 2 [.ref (gx_a κ 57), .int v1, .int v2] M r9 M9 := by
  refine gx_enterI (d := 2) my_X8_keep.1 (by decide) (Nat.le_of_ble_eq_true rfl) (fun Γ Cx hR => ?_)
  change gx_G κ Γ 0 [(0, .ref (gx_a κ 57)), (1, .int v1), (2, .int v2)] [] M
  have B22 : ∀  (M : gx_Mem), f_X8_keep_b22 v1 v2 M = some (r9, M9) → gx_G κ Γ 22 [(0, .ref (gx_a κ 57)), (1, .int v1), (2, .int v2)] [] M := by
    intro M h
    refine gx_aload_n Cx eX8_keep_22 0 rfl ?_
    refine gfX8_116 Cx eX8_keep_23 ?_
    refine gx_iload_n Cx eX8_keep_26 1 rfl ?_
    refine gx_iload_n Cx eX8_keep_27 2 rfl ?_
    refine gx_iast Cx gx_y92 eX8_keep_28 h (fun M5 h => ?_)
    refine gx_iconst (v := (1 : Int32)) Cx eX8_keep_29 (by decide) ?_
    exact gx_rI h rfl eX8_keep_30 hR
  have h := hf
  refine gx_iload_n Cx eX8_keep_0 1 rfl ?_
  obtain ⟨y2, h1, h⟩ := gx_bP_of h
  refine gx_callSI Cx my_X8_isShelf wlX8_154 (by decide) rfl eX8_keep_1 (c_X8_isShelf κ h1) rfl (Nat.le_of_ble_eq_true rfl) ?_
  refine gx_if_eq (tgt := 20) Cx eX8_keep_4 (by decide) h (fun h => ?_) (fun h => ?_)
  · refine gx_iconst (v := (-1 : Int32)) Cx eX8_keep_20 (by decide) ?_
    exact gx_rI h rfl eX8_keep_21 hR
  · refine gx_iload_n Cx eX8_keep_7 2 rfl ?_
    refine gx_iconst (v := (-1 : Int32)) Cx eX8_keep_8 (by decide) ?_
    refine gx_icmp_eq (tgt := 22) Cx eX8_keep_9 (by decide) h (fun h => ?_) (fun h => ?_)
    · exact B22 _ h
    · refine gx_aload_n Cx eX8_keep_12 0 rfl ?_
      refine gx_iload_n Cx eX8_keep_13 2 rfl ?_
      obtain ⟨y4, h3, h⟩ := gx_bP_of h
      refine gx_callVI (ci := 8) Cx my_X8_isBody wlX8_415 rfl gx_y57 (by decide) rfl eX8_keep_14 (c_X8_isBody κ h3) rfl (Nat.le_of_ble_eq_true rfl) ?_
      refine gx_if_ne (tgt := 22) Cx eX8_keep_17 (by decide) h (fun h => ?_) (fun h => ?_)
      · exact B22 _ h
      · refine gx_iconst (v := (-1 : Int32)) Cx eX8_keep_20 (by decide) ?_
        exact gx_rI h rfl eX8_keep_21 hR
set_option maxHeartbeats 4000000 in
set_option maxRecDepth 100000 in
theorem c_X8_line (κ : gx_K)  {M : gx_Mem} {M9 : gx_Mem} (hf : f_X8_line M = some M9) : gx_CV κ yX8_line cX8_line 2 none 103 [.ref (gx_a κ 57)] M M9 := by
  refine gx_enterV (d := 103) my_X8_line.1 (by decide) (Nat.le_of_ble_eq_true rfl) (fun Γ Cx hR => ?_)
  change gx_G κ Γ 0 [(0, .ref (gx_a κ 57))] [] M
  have B66 : ∀ (v1 : Int32) (M : gx_Mem), f_X8_line_b66 v1 M = some M9 → gx_G κ Γ 66 [(0, .ref (gx_a κ 57)), (1, .int v1)] [] M := by
    intro v1 M h
    refine gx_aload_n Cx eX8_line_66 0 rfl ?_
    refine gfX8_59 Cx eX8_line_67 ?_
    refine gx_iload_n Cx eX8_line_70 1 rfl ?_
    refine gx_aload_n Cx eX8_line_71 0 rfl ?_
    refine gfX8_196 Cx eX8_line_72 ?_
    refine gx_i2s Cx eX8_line_75 ?_
    refine gx_sast Cx gx_y73 eX8_line_76 h (fun M11 h => ?_)
    refine gx_aload_n Cx eX8_line_77 0 rfl ?_
    refine gfX8_52 Cx eX8_line_78 ?_
    refine gx_iconst (v := (1 : Int32)) Cx eX8_line_81 (by decide) ?_
    refine gx_dup2 Cx eX8_line_82 rfl rfl ?_
    refine gx_ialdC (α := Unit) (b := none) Cx gx_y71 eX8_line_83 (by decide) ?_
    refine gx_iconst (v := (1 : Int32)) Cx eX8_line_84 (by decide) ?_
    refine gx_iadd Cx eX8_line_85 ?_
    refine gx_iastC Cx gx_y71 eX8_line_86 (by decide) h (fun M12 h => ?_)
    exact gx_rV h eX8_line_87 hR
  have h := hf
  refine gx_bipush (v := (61 : Int32)) Cx eX8_line_0 (by decide) ?_
  refine gx_aload_n Cx eX8_line_2 0 rfl ?_
  refine gfX8_52 Cx eX8_line_3 ?_
  refine gx_iconst (v := (1 : Int32)) Cx eX8_line_6 (by decide) ?_
  refine gx_ialdC (α := Unit) (b := none) Cx gx_y71 eX8_line_7 (by decide) ?_
  refine gx_iadd Cx eX8_line_8 ?_
  refine gx_nmI h (fun x1 h => ?_)
  refine gx_istore_n Cx eX8_line_9 [(1, .int x1), (0, .ref (gx_a κ 57))] rfl (by decide) ?_
  refine gx_aload_n Cx eX8_line_10 1 rfl ?_
  refine gfX8_55 Cx eX8_line_11 ?_
  refine gx_iload_n Cx eX8_line_14 0 rfl ?_
  refine gx_aload_n Cx eX8_line_15 1 rfl ?_
  refine gfX8_196 Cx eX8_line_16 ?_
  refine gx_i2s Cx eX8_line_19 ?_
  refine gx_sast Cx gx_y72 eX8_line_20 h (fun M2 h => ?_)
  refine gx_aload_n Cx eX8_line_21 1 rfl ?_
  obtain ⟨M4, h3, h⟩ := gx_bP_of h
  refine gx_callVV (ci := 8) Cx my_X8_either wlX8_224 rfl gx_y57 (by decide) rfl eX8_line_22 (c_X8_either κ h3) rfl (Nat.le_of_ble_eq_true rfl) ?_
  refine gx_aload_n Cx eX8_line_25 1 rfl ?_
  refine gfX8_193 Cx eX8_line_26 ?_
  refine gx_if_ge (tgt := 66) Cx eX8_line_29 (by decide) h (fun h => ?_) (fun h => ?_)
  · refine gx_sub [1, 0] rfl ?_
    exact B66 _ _ h
  · refine gx_aload_n Cx eX8_line_32 1 rfl ?_
    obtain ⟨y6, h5, h⟩ := gx_bP_of h
    refine gx_callVI (ci := 8) Cx my_X8_look wlX8_205 rfl gx_y57 (by decide) rfl eX8_line_33 (c_X8_look κ h5) rfl (Nat.le_of_ble_eq_true rfl) ?_
    refine gx_bipush (v := (63 : Int32)) Cx eX8_line_36 (by decide) ?_
    refine gx_icmp_ne (tgt := 66) Cx eX8_line_38 (by decide) h (fun h => ?_) (fun h => ?_)
    · refine gx_sub [1, 0] rfl ?_
      exact B66 _ _ h
    · refine gx_aload_n Cx eX8_line_41 1 rfl ?_
      refine gx_dup Cx eX8_line_42 rfl ?_
      refine gfX8_190 Cx eX8_line_43 ?_
      refine gx_iconst (v := (1 : Int32)) Cx eX8_line_46 (by decide) ?_
      refine gx_iadd Cx eX8_line_47 ?_
      refine pfX8_190 Cx eX8_line_48 h (fun M7 h => ?_)
      refine gx_aload_n Cx eX8_line_51 1 rfl ?_
      refine gfX8_55 Cx eX8_line_52 ?_
      refine gx_iload_n Cx eX8_line_55 0 rfl ?_
      refine gx_aload_n Cx eX8_line_56 1 rfl ?_
      refine gfX8_196 Cx eX8_line_57 ?_
      refine gx_i2s Cx eX8_line_60 ?_
      refine gx_sast Cx gx_y72 eX8_line_61 h (fun M8 h => ?_)
      refine gx_aload_n Cx eX8_line_62 1 rfl ?_
      obtain ⟨M10, h9, h⟩ := gx_bP_of h
      refine gx_callVV (ci := 8) Cx my_X8_either wlX8_224 rfl gx_y57 (by decide) rfl eX8_line_63 (c_X8_either κ h9) rfl (Nat.le_of_ble_eq_true rfl) ?_
      refine gx_sub [1, 0] rfl ?_
      exact B66 _ _ h
set_option maxHeartbeats 4000000 in
set_option maxRecDepth 100000 in
theorem c_X8_readText (κ : gx_K) {v1 : Int32} {M : gx_Mem} {r9 : Int32} {M9 : gx_Mem} (hf : f_X8_readText v1 M = some (r9, M9)) : gx_CI κ yX8_readText cX8_readText 3 (some .int) 104 [.ref (gx_a κ 57), .int v1] M r9 M9 := by
  refine gx_enterI (d := 104) my_X8_readText.1 (by decide) (Nat.le_of_ble_eq_true rfl) (fun Γ Cx hR => ?_)
  change gx_G κ Γ 0 [(0, .ref (gx_a κ 57)), (1, .int v1)] [] M
  have K177 : ∀  (ag177 : Int32 → gx_Mem → Option (Int32 × gx_Mem)) (hag177 : ∀ (v2 : Int32) (M : gx_Mem), ag177 v2 M = some (r9, M9) → gx_G κ Γ 177 [(0, .ref (gx_a κ 57)), (1, .int v1), (2, .int v2)] [] M) (v2 : Int32) (M : gx_Mem), f_X8_readText_k177 v1 ag177 v2 M = some (r9, M9) → gx_G κ Γ 177 [(0, .ref (gx_a κ 57)), (1, .int v1), (2, .int v2)] [] M := by
    intro ag177 hag177
    intro v2 M h
    refine gx_iload_n Cx eX8_readText_177 2 rfl ?_
    refine gx_aload_n Cx eX8_readText_178 0 rfl ?_
    refine gfX8_52 Cx eX8_readText_179 ?_
    refine gx_iload_n Cx eX8_readText_182 1 rfl ?_
    refine gx_iald Cx gx_y71 eX8_readText_183 h (fun h => ?_)
    refine gx_icmp_ge (tgt := 233) Cx eX8_readText_184 (by decide) h (fun h => ?_) (fun h => ?_)
    · refine gx_iconst (v := (-1 : Int32)) Cx eX8_readText_233 (by decide) ?_
      exact gx_rI h rfl eX8_readText_234 hR
    · refine gx_aload_n Cx eX8_readText_187 0 rfl ?_
      refine gfX8_55 Cx eX8_readText_188 ?_
      refine gx_bipush (v := (61 : Int32)) Cx eX8_readText_191 (by decide) ?_
      refine gx_iload_n Cx eX8_readText_193 1 rfl ?_
      refine gx_imul Cx eX8_readText_194 ?_
      refine gx_iload_n Cx eX8_readText_195 2 rfl ?_
      refine gx_iadd Cx eX8_readText_196 ?_
      refine gx_aload_n Cx eX8_readText_197 0 rfl ?_
      refine gfX8_55 Cx eX8_readText_198 ?_
      refine gx_bipush (v := (61 : Int32)) Cx eX8_readText_201 (by decide) ?_
      refine gx_iload_n Cx eX8_readText_203 2 rfl ?_
      refine gx_iadd Cx eX8_readText_204 ?_
      refine gx_sald Cx gx_y72 eX8_readText_205 h (fun h => ?_)
      refine gx_sast Cx gx_y72 eX8_readText_206 h (fun M20 h => ?_)
      refine gx_aload_n Cx eX8_readText_207 0 rfl ?_
      refine gfX8_59 Cx eX8_readText_208 ?_
      refine gx_bipush (v := (61 : Int32)) Cx eX8_readText_211 (by decide) ?_
      refine gx_iload_n Cx eX8_readText_213 1 rfl ?_
      refine gx_imul Cx eX8_readText_214 ?_
      refine gx_iload_n Cx eX8_readText_215 2 rfl ?_
      refine gx_iadd Cx eX8_readText_216 ?_
      refine gx_aload_n Cx eX8_readText_217 0 rfl ?_
      refine gfX8_59 Cx eX8_readText_218 ?_
      refine gx_bipush (v := (61 : Int32)) Cx eX8_readText_221 (by decide) ?_
      refine gx_iload_n Cx eX8_readText_223 2 rfl ?_
      refine gx_iadd Cx eX8_readText_224 ?_
      refine gx_sald Cx gx_y73 eX8_readText_225 h (fun h => ?_)
      refine gx_sast Cx gx_y73 eX8_readText_226 h (fun M21 h => ?_)
      refine gx_iinc (v := (1 : Int32)) (i := 2) (j := 2) Cx eX8_readText_227 (by decide) h 2 rfl (fun w => [(2, .int w), (0, .ref (gx_a κ 57)), (1, .int v1)]) (fun _ => rfl) (by decide) (fun x22 h => ?_)
      refine gx_goto (tgt := 177) Cx eX8_readText_230 (by decide) ?_
      refine gx_sub [1, 2, 0] rfl ?_
      exact hag177 _ _ h
  have L177 : ∀  (n : Nat) (v2 : Int32) (M : gx_Mem), f_X8_readText_l177 v1 n v2 M = some (r9, M9) → gx_G κ Γ 177 [(0, .ref (gx_a κ 57)), (1, .int v1), (2, .int v2)] [] M := by
    intro n
    induction n with
    | zero => intro v2 M h; exact gx_loop_0 h
    | succ n ih => intro v2 M h; exact K177 (fun v2 M => f_X8_readText_l177 v1 n v2 M) ih v2 M h
  have K105 : ∀  (ag105 : Int32 → gx_Mem → Option (Int32 × gx_Mem)) (hag105 : ∀ (v2 : Int32) (M : gx_Mem), ag105 v2 M = some (r9, M9) → gx_G κ Γ 105 [(0, .ref (gx_a κ 57)), (1, .int v1), (2, .int v2)] [] M) (v2 : Int32) (M : gx_Mem), f_X8_readText_k105 v1 ag105 v2 M = some (r9, M9) → gx_G κ Γ 105 [(0, .ref (gx_a κ 57)), (1, .int v1), (2, .int v2)] [] M := by
    intro ag105 hag105
    intro v2 M h
    refine gx_iload_n Cx eX8_readText_105 2 rfl ?_
    refine gx_aload_n Cx eX8_readText_106 0 rfl ?_
    refine gfX8_196 Cx eX8_readText_107 ?_
    refine gx_icmp_ge (tgt := 163) Cx eX8_readText_110 (by decide) h (fun h => ?_) (fun h => ?_)
    · refine gx_aload_n Cx eX8_readText_163 0 rfl ?_
      refine gfX8_52 Cx eX8_readText_164 ?_
      refine gx_iload_n Cx eX8_readText_167 1 rfl ?_
      refine gx_aload_n Cx eX8_readText_168 0 rfl ?_
      refine gfX8_52 Cx eX8_readText_169 ?_
      refine gx_iconst (v := (1 : Int32)) Cx eX8_readText_172 (by decide) ?_
      refine gx_ialdC (α := Unit) (b := none) Cx gx_y71 eX8_readText_173 (by decide) ?_
      refine gx_iast Cx gx_y71 eX8_readText_174 h (fun M16 h => ?_)
      refine gx_iconst (v := (0 : Int32)) Cx eX8_readText_175 (by decide) ?_
      refine gx_istore_n Cx eX8_readText_176 [(2, .int (0 : Int32)), (0, .ref (gx_a κ 57)), (1, .int v1)] rfl (by decide) ?_
      refine gx_sub [1, 2, 0] rfl ?_
      exact L177 _ _ _ h
    · refine gx_aload_n Cx eX8_readText_113 0 rfl ?_
      refine gfX8_46 Cx eX8_readText_114 ?_
      refine gx_sipush (v := (130 : Int32)) Cx eX8_readText_117 (by decide) ?_
      refine gx_iload_n Cx eX8_readText_120 1 rfl ?_
      refine gx_imul Cx eX8_readText_121 ?_
      refine gx_iload_n Cx eX8_readText_122 2 rfl ?_
      refine gx_iadd Cx eX8_readText_123 ?_
      refine gx_aload_n Cx eX8_readText_124 0 rfl ?_
      refine gfX8_46 Cx eX8_readText_125 ?_
      refine gx_sipush (v := (130 : Int32)) Cx eX8_readText_128 (by decide) ?_
      refine gx_iload_n Cx eX8_readText_131 2 rfl ?_
      refine gx_iadd Cx eX8_readText_132 ?_
      refine gx_bald Cx gx_y69 eX8_readText_133 h (fun h => ?_)
      refine gx_bast Cx gx_y69 eX8_readText_134 h (fun M17 h => ?_)
      refine gx_aload_n Cx eX8_readText_135 0 rfl ?_
      refine gfX8_49 Cx eX8_readText_136 ?_
      refine gx_sipush (v := (130 : Int32)) Cx eX8_readText_139 (by decide) ?_
      refine gx_iload_n Cx eX8_readText_142 1 rfl ?_
      refine gx_imul Cx eX8_readText_143 ?_
      refine gx_iload_n Cx eX8_readText_144 2 rfl ?_
      refine gx_iadd Cx eX8_readText_145 ?_
      refine gx_aload_n Cx eX8_readText_146 0 rfl ?_
      refine gfX8_49 Cx eX8_readText_147 ?_
      refine gx_sipush (v := (130 : Int32)) Cx eX8_readText_150 (by decide) ?_
      refine gx_iload_n Cx eX8_readText_153 2 rfl ?_
      refine gx_iadd Cx eX8_readText_154 ?_
      refine gx_iald Cx gx_y70 eX8_readText_155 h (fun h => ?_)
      refine gx_iast Cx gx_y70 eX8_readText_156 h (fun M18 h => ?_)
      refine gx_iinc (v := (1 : Int32)) (i := 2) (j := 2) Cx eX8_readText_157 (by decide) h 2 rfl (fun w => [(2, .int w), (0, .ref (gx_a κ 57)), (1, .int v1)]) (fun _ => rfl) (by decide) (fun x19 h => ?_)
      refine gx_goto (tgt := 105) Cx eX8_readText_160 (by decide) ?_
      refine gx_sub [1, 2, 0] rfl ?_
      exact hag105 _ _ h
  have L105 : ∀  (n : Nat) (v2 : Int32) (M : gx_Mem), f_X8_readText_l105 v1 n v2 M = some (r9, M9) → gx_G κ Γ 105 [(0, .ref (gx_a κ 57)), (1, .int v1), (2, .int v2)] [] M := by
    intro n
    induction n with
    | zero => intro v2 M h; exact gx_loop_0 h
    | succ n ih => intro v2 M h; exact K105 (fun v2 M => f_X8_readText_l105 v1 n v2 M) ih v2 M h
  have B86 : ∀  (M : gx_Mem), f_X8_readText_b86 v1 M = some (r9, M9) → gx_G κ Γ 86 [(0, .ref (gx_a κ 57)), (1, .int v1)] [] M := by
    intro M h
    refine gx_aload_n Cx eX8_readText_86 0 rfl ?_
    refine gx_iconst (v := (0 : Int32)) Cx eX8_readText_87 (by decide) ?_
    refine pfX8_187 Cx eX8_readText_88 h (fun M15 h => ?_)
    refine gx_aload_n Cx eX8_readText_91 0 rfl ?_
    refine gfX8_193 Cx eX8_readText_92 ?_
    refine gx_if_lt (tgt := 103) Cx eX8_readText_95 (by decide) h (fun h => ?_) (fun h => ?_)
    · refine gx_iconst (v := (0 : Int32)) Cx eX8_readText_103 (by decide) ?_
      refine gx_istore_n Cx eX8_readText_104 [(2, .int (0 : Int32)), (0, .ref (gx_a κ 57)), (1, .int v1)] rfl (by decide) ?_
      refine gx_sub [1, 2, 0] rfl ?_
      exact L105 _ _ _ h
    · refine gx_aload_n Cx eX8_readText_98 0 rfl ?_
      refine gfX8_193 Cx eX8_readText_99 ?_
      exact gx_rI h rfl eX8_readText_102 hR
  have B64 : ∀  (M : gx_Mem), f_X8_readText_b64 v1 M = some (r9, M9) → gx_G κ Γ 64 [(0, .ref (gx_a κ 57)), (1, .int v1)] [] M := by
    intro M h
    refine gx_aload_n Cx eX8_readText_64 0 rfl ?_
    refine gfX8_193 Cx eX8_readText_65 ?_
    refine gx_if_ge (tgt := 86) Cx eX8_readText_68 (by decide) h (fun h => ?_) (fun h => ?_)
    · exact B86 _ h
    · refine gx_aload_n Cx eX8_readText_71 0 rfl ?_
      refine gfX8_190 Cx eX8_readText_72 ?_
      refine gx_aload_n Cx eX8_readText_75 0 rfl ?_
      refine gfX8_187 Cx eX8_readText_76 ?_
      refine gx_icmp_ge (tgt := 86) Cx eX8_readText_79 (by decide) h (fun h => ?_) (fun h => ?_)
      · exact B86 _ h
      · refine gx_aload_n Cx eX8_readText_82 0 rfl ?_
        obtain ⟨M14, h13, h⟩ := gx_bP_of h
        refine gx_callVV (ci := 8) Cx my_X8_wrong wlX8_202 rfl gx_y57 (by decide) rfl eX8_readText_83 (c_X8_wrong κ h13) rfl (Nat.le_of_ble_eq_true rfl) ?_
        exact B86 _ h
  have K31 : ∀  (ag31 : gx_Mem → Option (Int32 × gx_Mem)) (hag31 : ∀  (M : gx_Mem), ag31 M = some (r9, M9) → gx_G κ Γ 31 [(0, .ref (gx_a κ 57)), (1, .int v1)] [] M)  (M : gx_Mem), f_X8_readText_k31 v1 ag31 M = some (r9, M9) → gx_G κ Γ 31 [(0, .ref (gx_a κ 57)), (1, .int v1)] [] M := by
    intro ag31 hag31
    intro M h
    refine gx_aload_n Cx eX8_readText_31 0 rfl ?_
    refine gfX8_193 Cx eX8_readText_32 ?_
    refine gx_if_ge (tgt := 64) Cx eX8_readText_35 (by decide) h (fun h => ?_) (fun h => ?_)
    · exact B64 _ h
    · refine gx_aload_n Cx eX8_readText_38 0 rfl ?_
      obtain ⟨y9, h8, h⟩ := gx_bP_of h
      refine gx_callVI (ci := 8) Cx my_X8_look wlX8_205 rfl gx_y57 (by decide) rfl eX8_readText_39 (c_X8_look κ h8) rfl (Nat.le_of_ble_eq_true rfl) ?_
      refine gx_bipush (v := (59 : Int32)) Cx eX8_readText_42 (by decide) ?_
      refine gx_icmp_ne (tgt := 64) Cx eX8_readText_44 (by decide) h (fun h => ?_) (fun h => ?_)
      · exact B64 _ h
      · refine gx_aload_n Cx eX8_readText_47 0 rfl ?_
        refine gx_dup Cx eX8_readText_48 rfl ?_
        refine gfX8_190 Cx eX8_readText_49 ?_
        refine gx_iconst (v := (1 : Int32)) Cx eX8_readText_52 (by decide) ?_
        refine gx_iadd Cx eX8_readText_53 ?_
        refine pfX8_190 Cx eX8_readText_54 h (fun M10 h => ?_)
        refine gx_aload_n Cx eX8_readText_57 0 rfl ?_
        obtain ⟨M12, h11, h⟩ := gx_bP_of h
        refine gx_callVV (ci := 8) Cx my_X8_line wlX8_242 rfl gx_y57 (by decide) rfl eX8_readText_58 (c_X8_line κ h11) rfl (Nat.le_of_ble_eq_true rfl) ?_
        refine gx_goto (tgt := 31) Cx eX8_readText_61 (by decide) ?_
        exact hag31 _ h
  have L31 : ∀  (n : Nat)  (M : gx_Mem), f_X8_readText_l31 v1 n M = some (r9, M9) → gx_G κ Γ 31 [(0, .ref (gx_a κ 57)), (1, .int v1)] [] M := by
    intro n
    induction n with
    | zero => intro M h; exact gx_loop_0 h
    | succ n ih => intro M h; exact K31 (fun M => f_X8_readText_l31 v1 n M) ih M h
  have h := hf
  refine gx_aload_n Cx eX8_readText_0 0 rfl ?_
  refine gx_iconst (v := (0 : Int32)) Cx eX8_readText_1 (by decide) ?_
  refine pfX8_190 Cx eX8_readText_2 h (fun M1 h => ?_)
  refine gx_aload_n Cx eX8_readText_5 0 rfl ?_
  refine gx_iconst (v := (-1 : Int32)) Cx eX8_readText_6 (by decide) ?_
  refine pfX8_193 Cx eX8_readText_7 h (fun M2 h => ?_)
  refine gx_aload_n Cx eX8_readText_10 0 rfl ?_
  refine gx_iconst (v := (0 : Int32)) Cx eX8_readText_11 (by decide) ?_
  refine pfX8_199 Cx eX8_readText_12 h (fun M3 h => ?_)
  refine gx_aload_n Cx eX8_readText_15 0 rfl ?_
  refine gx_iconst (v := (0 : Int32)) Cx eX8_readText_16 (by decide) ?_
  refine pfX8_196 Cx eX8_readText_17 h (fun M4 h => ?_)
  refine gx_aload_n Cx eX8_readText_20 0 rfl ?_
  refine gfX8_52 Cx eX8_readText_21 ?_
  refine gx_iconst (v := (1 : Int32)) Cx eX8_readText_24 (by decide) ?_
  refine gx_iconst (v := (0 : Int32)) Cx eX8_readText_25 (by decide) ?_
  refine gx_iastC Cx gx_y71 eX8_readText_26 (by decide) h (fun M5 h => ?_)
  refine gx_aload_n Cx eX8_readText_27 0 rfl ?_
  obtain ⟨M7, h6, h⟩ := gx_bP_of h
  refine gx_callVV (ci := 8) Cx my_X8_line wlX8_242 rfl gx_y57 (by decide) rfl eX8_readText_28 (c_X8_line κ h6) rfl (Nat.le_of_ble_eq_true rfl) ?_
  exact L31 _ _ h
set_option maxHeartbeats 4000000 in
set_option maxRecDepth 100000 in
theorem c_X8_law (κ : gx_K)  {M : gx_Mem} {r9 : Int32} {M9 : gx_Mem} (hf : f_X8_law M = some (r9, M9)) : gx_CI κ yX8_law cX8_law 2 (some .int) 105 [.ref (gx_a κ 57)] M r9 M9 := by
  refine gx_enterI (d := 105) my_X8_law.1 (by decide) (Nat.le_of_ble_eq_true rfl) (fun Γ Cx hR => ?_)
  change gx_G κ Γ 0 [(0, .ref (gx_a κ 57))] [] M
  have h := hf
  refine gx_aload_n Cx eX8_law_0 0 rfl ?_
  refine gx_iconst (v := (0 : Int32)) Cx eX8_law_1 (by decide) ?_
  obtain ⟨y2, M3, h1, h⟩ := gx_bI_of h
  refine gx_callVI (ci := 8) Cx my_X8_readText wlX8_251 rfl gx_y57 (by decide) rfl eX8_law_2 (c_X8_readText κ h1) rfl (Nat.le_of_ble_eq_true rfl) ?_
  refine gx_istore_n Cx eX8_law_5 [(1, .int y2), (0, .ref (gx_a κ 57))] rfl (by decide) ?_
  refine gx_iload_n Cx eX8_law_6 0 rfl ?_
  refine gx_if_lt (tgt := 15) Cx eX8_law_7 (by decide) h (fun h => ?_) (fun h => ?_)
  · refine gx_aload_n Cx eX8_law_15 1 rfl ?_
    refine gx_iconst (v := (1 : Int32)) Cx eX8_law_16 (by decide) ?_
    refine pfX8_254 Cx eX8_law_17 rfl rfl h (fun M4 h => ?_)
    refine gx_iconst (v := (1 : Int32)) Cx eX8_law_20 (by decide) ?_
    exact gx_rI h rfl eX8_law_21 hR
  · refine gx_bipush (v := (-100 : Int32)) Cx eX8_law_10 (by decide) ?_
    refine gx_iload_n Cx eX8_law_12 0 rfl ?_
    refine gx_isub Cx eX8_law_13 ?_
    exact gx_rI h rfl eX8_law_14 hR
set_option maxHeartbeats 4000000 in
set_option maxRecDepth 100000 in
theorem c_X8_layComes (κ : gx_K)  {M : gx_Mem} {M9 : gx_Mem} (hf : f_X8_layComes M = some M9) : gx_CV κ yX8_layComes cX8_layComes 4 none 5 [.ref (gx_a κ 57)] M M9 := by
  refine gx_enterV (d := 5) my_X8_layComes.1 (by decide) (Nat.le_of_ble_eq_true rfl) (fun Γ Cx hR => ?_)
  change gx_G κ Γ 0 [(0, .ref (gx_a κ 57))] [] M
  have K29 : ∀  (ag29 : Int32 → gx_Mem → Option gx_Mem) (hag29 : ∀ (v1 : Int32) (M : gx_Mem), ag29 v1 M = some M9 → gx_G κ Γ 29 [(0, .ref (gx_a κ 57)), (1, .int v1)] [] M) (v1 : Int32) (M : gx_Mem), f_X8_layComes_k29 ag29 v1 M = some M9 → gx_G κ Γ 29 [(0, .ref (gx_a κ 57)), (1, .int v1)] [] M := by
    intro ag29 hag29
    have K48 : ∀ (v1 : Int32) (ag48 : Int32 → gx_Mem → Option gx_Mem) (hag48 : ∀ (v2 : Int32) (M : gx_Mem), ag48 v2 M = some M9 → gx_G κ Γ 48 [(0, .ref (gx_a κ 57)), (1, .int v1), (2, .int v2)] [] M) (v2 : Int32) (M : gx_Mem), f_X8_layComes_k48 ag29 v1 ag48 v2 M = some M9 → gx_G κ Γ 48 [(0, .ref (gx_a κ 57)), (1, .int v1), (2, .int v2)] [] M := by
      intro v1 ag48 hag48
      have K60 : ∀ (v2 : Int32) (ag60 : Int32 → gx_Mem → Option gx_Mem) (hag60 : ∀ (v3 : Int32) (M : gx_Mem), ag60 v3 M = some M9 → gx_G κ Γ 60 [(0, .ref (gx_a κ 57)), (1, .int v1), (2, .int v2), (3, .int v3)] [] M) (v3 : Int32) (M : gx_Mem), f_X8_layComes_k60 ag29 ag48 v1 v2 ag60 v3 M = some M9 → gx_G κ Γ 60 [(0, .ref (gx_a κ 57)), (1, .int v1), (2, .int v2), (3, .int v3)] [] M := by
        intro v2 ag60 hag60
        intro v3 M h
        refine gx_iload_n Cx eX8_layComes_60 3 rfl ?_
        refine gx_aload_n Cx eX8_layComes_61 0 rfl ?_
        refine gfX8_133 Cx eX8_layComes_62 ?_
        refine gx_icmp_ge (tgt := 99) Cx eX8_layComes_65 (by decide) h (fun h => ?_) (fun h => ?_)
        · refine gx_iinc (v := (1 : Int32)) (i := 2) (j := 2) Cx eX8_layComes_99 (by decide) h 2 rfl (fun w => [(2, .int w), (0, .ref (gx_a κ 57)), (1, .int v1), (3, .int v3)]) (fun _ => rfl) (by decide) (fun x11 h => ?_)
          refine gx_goto (tgt := 48) Cx eX8_layComes_102 (by decide) ?_
          refine gx_sub [1, 2, 0] rfl ?_
          exact hag48 _ _ h
        · refine gx_aload_n Cx eX8_layComes_68 0 rfl ?_
          refine gfX8_92 Cx eX8_layComes_69 ?_
          refine gx_iload_n Cx eX8_layComes_72 3 rfl ?_
          refine gx_dup2 Cx eX8_layComes_73 rfl rfl ?_
          refine gx_iald Cx gx_y84 eX8_layComes_74 h (fun h => ?_)
          refine gx_aload_n Cx eX8_layComes_75 0 rfl ?_
          refine gfX8_80 Cx eX8_layComes_76 ?_
          refine gx_bipush (v := (24 : Int32)) Cx eX8_layComes_79 (by decide) ?_
          refine gx_iload_n Cx eX8_layComes_81 2 rfl ?_
          refine gx_imul Cx eX8_layComes_82 ?_
          refine gx_aload_n Cx eX8_layComes_83 0 rfl ?_
          refine gfX8_9 Cx eX8_layComes_84 ?_
          refine gx_iload_n Cx eX8_layComes_87 3 rfl ?_
          refine gx_iald Cx gx_y58 eX8_layComes_88 h (fun h => ?_)
          refine gx_iadd Cx eX8_layComes_89 ?_
          refine gx_iald Cx gx_y80 eX8_layComes_90 h (fun h => ?_)
          refine gx_iadd Cx eX8_layComes_91 ?_
          refine gx_iast Cx gx_y84 eX8_layComes_92 h (fun M12 h => ?_)
          refine gx_iinc (v := (1 : Int32)) (i := 3) (j := 3) Cx eX8_layComes_93 (by decide) h 3 rfl (fun w => [(3, .int w), (0, .ref (gx_a κ 57)), (1, .int v1), (2, .int v2)]) (fun _ => rfl) (by decide) (fun x13 h => ?_)
          refine gx_goto (tgt := 60) Cx eX8_layComes_96 (by decide) ?_
          refine gx_sub [1, 2, 3, 0] rfl ?_
          exact hag60 _ _ h
      have L60 : ∀ (v2 : Int32) (n : Nat) (v3 : Int32) (M : gx_Mem), f_X8_layComes_l60 ag29 ag48 v1 v2 n v3 M = some M9 → gx_G κ Γ 60 [(0, .ref (gx_a κ 57)), (1, .int v1), (2, .int v2), (3, .int v3)] [] M := by
        intro v2 n
        induction n with
        | zero => intro v3 M h; exact gx_loop_0 h
        | succ n ih => intro v3 M h; exact K60 v2 (fun v3 M => f_X8_layComes_l60 ag29 ag48 v1 v2 n v3 M) ih v3 M h
      intro v2 M h
      refine gx_iload_n Cx eX8_layComes_48 2 rfl ?_
      refine gx_iconst (v := (4 : Int32)) Cx eX8_layComes_49 (by decide) ?_
      refine gx_icmp_ge (tgt := 105) Cx eX8_layComes_50 (by decide) h (fun h => ?_) (fun h => ?_)
      · refine gx_iinc (v := (1 : Int32)) (i := 1) (j := 1) Cx eX8_layComes_105 (by decide) h 1 rfl (fun w => [(1, .int w), (0, .ref (gx_a κ 57)), (2, .int v2)]) (fun _ => rfl) (by decide) (fun x8 h => ?_)
        refine gx_goto (tgt := 29) Cx eX8_layComes_108 (by decide) ?_
        refine gx_sub [1, 0] rfl ?_
        exact hag29 _ _ h
      · refine gx_aload_n Cx eX8_layComes_53 0 rfl ?_
        refine gx_iload_n Cx eX8_layComes_54 2 rfl ?_
        obtain ⟨M10, h9, h⟩ := gx_bP_of h
        refine gx_callVV (ci := 8) Cx my_X8_flow wlX8_274 rfl gx_y57 (by decide) rfl eX8_layComes_55 (c_X8_flow κ h9) rfl (Nat.le_of_ble_eq_true rfl) ?_
        refine gx_iconst (v := (0 : Int32)) Cx eX8_layComes_58 (by decide) ?_
        refine gx_istore_n Cx eX8_layComes_59 [(3, .int (0 : Int32)), (0, .ref (gx_a κ 57)), (1, .int v1), (2, .int v2)] rfl (by decide) ?_
        refine gx_sub [1, 2, 3, 0] rfl ?_
        exact L60 _ _ _ _ h
    have L48 : ∀ (v1 : Int32) (n : Nat) (v2 : Int32) (M : gx_Mem), f_X8_layComes_l48 ag29 v1 n v2 M = some M9 → gx_G κ Γ 48 [(0, .ref (gx_a κ 57)), (1, .int v1), (2, .int v2)] [] M := by
      intro v1 n
      induction n with
      | zero => intro v2 M h; exact gx_loop_0 h
      | succ n ih => intro v2 M h; exact K48 v1 (fun v2 M => f_X8_layComes_l48 ag29 v1 n v2 M) ih v2 M h
    intro v1 M h
    refine gx_iload_n Cx eX8_layComes_29 1 rfl ?_
    refine gx_bipush (v := (12 : Int32)) Cx eX8_layComes_30 (by decide) ?_
    refine gx_icmp_ge (tgt := 111) Cx eX8_layComes_32 (by decide) h (fun h => ?_) (fun h => ?_)
    · exact gx_rV h eX8_layComes_111 hR
    · refine gx_aload_n Cx eX8_layComes_35 0 rfl ?_
      refine gx_aload_n Cx eX8_layComes_36 0 rfl ?_
      refine gx_iload_n Cx eX8_layComes_37 1 rfl ?_
      refine gx_bipush (v := (63 : Int32)) Cx eX8_layComes_38 (by decide) ?_
      obtain ⟨y6, h5, h⟩ := gx_bP_of h
      refine gx_callVI (ci := 8) Cx my_X8_outAt wlX8_284 rfl gx_y57 (by decide) rfl eX8_layComes_40 (c_X8_outAt κ h5) rfl (Nat.le_of_ble_eq_true rfl) ?_
      refine pfX8_267 Cx eX8_layComes_43 h (fun M7 h => ?_)
      refine gx_iconst (v := (0 : Int32)) Cx eX8_layComes_46 (by decide) ?_
      refine gx_istore_n Cx eX8_layComes_47 [(2, .int (0 : Int32)), (0, .ref (gx_a κ 57)), (1, .int v1)] rfl (by decide) ?_
      refine gx_sub [1, 2, 0] rfl ?_
      exact L48 _ _ _ _ h
  have L29 : ∀  (n : Nat) (v1 : Int32) (M : gx_Mem), f_X8_layComes_l29 n v1 M = some M9 → gx_G κ Γ 29 [(0, .ref (gx_a κ 57)), (1, .int v1)] [] M := by
    intro n
    induction n with
    | zero => intro v1 M h; exact gx_loop_0 h
    | succ n ih => intro v1 M h; exact K29 (fun v1 M => f_X8_layComes_l29 n v1 M) ih v1 M h
  have K6 : ∀  (ag6 : Int32 → gx_Mem → Option gx_Mem) (hag6 : ∀ (v1 : Int32) (M : gx_Mem), ag6 v1 M = some M9 → gx_G κ Γ 6 [(0, .ref (gx_a κ 57)), (1, .int v1)] [] M) (v1 : Int32) (M : gx_Mem), f_X8_layComes_k6 ag6 v1 M = some M9 → gx_G κ Γ 6 [(0, .ref (gx_a κ 57)), (1, .int v1)] [] M := by
    intro ag6 hag6
    intro v1 M h
    refine gx_iload_n Cx eX8_layComes_6 1 rfl ?_
    refine gx_aload_n Cx eX8_layComes_7 0 rfl ?_
    refine gfX8_133 Cx eX8_layComes_8 ?_
    refine gx_icmp_ge (tgt := 27) Cx eX8_layComes_11 (by decide) h (fun h => ?_) (fun h => ?_)
    · refine gx_iconst (v := (0 : Int32)) Cx eX8_layComes_27 (by decide) ?_
      refine gx_istore_n Cx eX8_layComes_28 [(1, .int (0 : Int32)), (0, .ref (gx_a κ 57))] rfl (by decide) ?_
      refine gx_sub [1, 0] rfl ?_
      exact L29 _ _ _ h
    · refine gx_aload_n Cx eX8_layComes_14 0 rfl ?_
      refine gfX8_92 Cx eX8_layComes_15 ?_
      refine gx_iload_n Cx eX8_layComes_18 1 rfl ?_
      refine gx_iconst (v := (1 : Int32)) Cx eX8_layComes_19 (by decide) ?_
      refine gx_iast Cx gx_y84 eX8_layComes_20 h (fun M3 h => ?_)
      refine gx_iinc (v := (1 : Int32)) (i := 1) (j := 1) Cx eX8_layComes_21 (by decide) h 1 rfl (fun w => [(1, .int w), (0, .ref (gx_a κ 57))]) (fun _ => rfl) (by decide) (fun x4 h => ?_)
      refine gx_goto (tgt := 6) Cx eX8_layComes_24 (by decide) ?_
      refine gx_sub [1, 0] rfl ?_
      exact hag6 _ _ h
  have L6 : ∀  (n : Nat) (v1 : Int32) (M : gx_Mem), f_X8_layComes_l6 n v1 M = some M9 → gx_G κ Γ 6 [(0, .ref (gx_a κ 57)), (1, .int v1)] [] M := by
    intro n
    induction n with
    | zero => intro v1 M h; exact gx_loop_0 h
    | succ n ih => intro v1 M h; exact K6 (fun v1 M => f_X8_layComes_l6 n v1 M) ih v1 M h
  have h := hf
  refine gx_aload_n Cx eX8_layComes_0 0 rfl ?_
  obtain ⟨M2, h1, h⟩ := gx_bP_of h
  refine gx_callVV (ci := 8) Cx my_X8_layNow wlX8_290 rfl gx_y57 (by decide) rfl eX8_layComes_1 (c_X8_layNow κ h1) rfl (Nat.le_of_ble_eq_true rfl) ?_
  refine gx_iconst (v := (0 : Int32)) Cx eX8_layComes_4 (by decide) ?_
  refine gx_istore_n Cx eX8_layComes_5 [(1, .int (0 : Int32)), (0, .ref (gx_a κ 57))] rfl (by decide) ?_
  refine gx_sub [1, 0] rfl ?_
  exact L6 _ _ _ h
set_option maxHeartbeats 4000000 in
set_option maxRecDepth 100000 in
theorem c_X8_led (κ : gx_K) {v1 : Int32} {M : gx_Mem} {r9 : Int32} (hf : f_X8_led v1 M = some r9) : gx_CI κ yX8_led cX8_led 2 (some .int) 1 [.ref (gx_a κ 57), .int v1] M r9 M := by
  refine gx_enterI (d := 1) my_X8_led.1 (by decide) (Nat.le_of_ble_eq_true rfl) (fun Γ Cx hR => ?_)
  change gx_G κ Γ 0 [(0, .ref (gx_a κ 57)), (1, .int v1)] [] M
  have h := hf
  refine gx_iload_n Cx eX8_led_0 1 rfl ?_
  refine gx_iconst (v := (0 : Int32)) Cx eX8_led_1 (by decide) ?_
  refine gx_iconst (v := (4 : Int32)) Cx eX8_led_2 (by decide) ?_
  obtain ⟨y2, h1, h⟩ := gx_bP_of h
  refine gx_callSI Cx my_X8_in wlX8_136 (by decide) rfl eX8_led_3 (c_X8_in κ h1) rfl (Nat.le_of_ble_eq_true rfl) ?_
  refine gx_if_eq (tgt := 18) Cx eX8_led_6 (by decide) h (fun h => ?_) (fun h => ?_)
  · refine gx_iconst (v := (-1 : Int32)) Cx eX8_led_18 (by decide) ?_
    exact gx_rIp h rfl eX8_led_19 hR
  · refine gx_aload_n Cx eX8_led_9 0 rfl ?_
    refine gfX8_95 Cx eX8_led_10 ?_
    refine gx_iload_n Cx eX8_led_13 1 rfl ?_
    refine gx_iald Cx gx_y85 eX8_led_14 h (fun h => ?_)
    refine gx_goto (tgt := 19) Cx eX8_led_15 (by decide) ?_
    exact gx_rIp h rfl eX8_led_19 hR
set_option maxHeartbeats 4000000 in
set_option maxRecDepth 100000 in
theorem c_X8_lowest (κ : gx_K) {w0 : Int64} {w2 : Int64} {v4 : Int32} {M : gx_Mem} {r9 : Int64} (hf : f_X8_lowest w0 w2 v4 M = some r9) : gx_CJ κ yX8_lowest cX8_lowest 11 (some .long) 0 [.long w0, .long w2, .int v4] M r9 M := by
  refine gx_enterJ (d := 0) my_X8_lowest.1 (by decide) (Nat.le_of_ble_eq_true rfl) (fun Γ Cx hR => ?_)
  change gx_G κ Γ 0 [(0, .long w0), (2, .long w2), (4, .int v4)] [] M
  have K16 : ∀  (ag16 : Int64 → Int64 → Option Int64) (hag16 : ∀ (w5 : Int64) (w7 : Int64), ag16 w5 w7 = some r9 → gx_G κ Γ 16 [(0, .long w0), (2, .long w2), (4, .int v4), (5, .long w5), (7, .long w7)] [] M) (w5 : Int64) (w7 : Int64), f_X8_lowest_k16 w0 w2 v4 ag16 w5 w7 M = some r9 → gx_G κ Γ 16 [(0, .long w0), (2, .long w2), (4, .int v4), (5, .long w5), (7, .long w7)] [] M := by
    intro ag16 hag16
    intro w5 w7 h
    refine gx_lload Cx eX8_lowest_16 4 rfl ?_
    refine gx_lconst (v := (0 : Int64)) Cx eX8_lowest_18 (by decide) ?_
    refine gx_lcmp Cx eX8_lowest_19 ?_
    refine gx_if_eq (tgt := 41) Cx eX8_lowest_20 (by decide) h (fun h => ?_) (fun h => ?_)
    · refine gx_iload Cx eX8_lowest_41 2 rfl ?_
      refine gx_if_ne (tgt := 53) Cx eX8_lowest_43 (by decide) h (fun h => ?_) (fun h => ?_)
      · refine gx_lload_n Cx eX8_lowest_53 1 rfl ?_
        refine gx_lload Cx eX8_lowest_54 3 rfl ?_
        refine gx_ldiv Cx eX8_lowest_56 h (fun h => ?_)
        exact gx_rJp h eX8_lowest_57 hR
      · refine gx_lload_n Cx eX8_lowest_46 0 rfl ?_
        refine gx_lload Cx eX8_lowest_47 3 rfl ?_
        refine gx_ldiv Cx eX8_lowest_49 h (fun h => ?_)
        refine gx_goto (tgt := 57) Cx eX8_lowest_50 (by decide) ?_
        exact gx_rJp h eX8_lowest_57 hR
    · refine gx_lload Cx eX8_lowest_23 3 rfl ?_
      refine gx_lload Cx eX8_lowest_25 4 rfl ?_
      refine gx_lrem Cx eX8_lowest_27 h (fun h => ?_)
      refine gx_nmJ h (fun x1 h => ?_)
      refine gx_lstore Cx eX8_lowest_28 [(9, .long x1), (0, .long w0), (2, .long w2), (4, .int v4), (5, .long w5), (7, .long w7)] rfl (by decide) ?_
      refine gx_lload Cx eX8_lowest_30 5 rfl ?_
      refine gx_lstore Cx eX8_lowest_32 [(5, .long w7), (9, .long x1), (0, .long w0), (2, .long w2), (4, .int v4), (7, .long w7)] rfl (by decide) ?_
      refine gx_lload Cx eX8_lowest_34 1 rfl ?_
      refine gx_lstore Cx eX8_lowest_36 [(7, .long x1), (5, .long w7), (9, .long x1), (0, .long w0), (2, .long w2), (4, .int v4)] rfl (by decide) ?_
      refine gx_goto (tgt := 16) Cx eX8_lowest_38 (by decide) ?_
      refine gx_sub [3, 4, 5, 1, 0] rfl ?_
      exact hag16 _ _ h
  have L16 : ∀  (n : Nat) (w5 : Int64) (w7 : Int64), f_X8_lowest_l16 w0 w2 v4 n w5 w7 M = some r9 → gx_G κ Γ 16 [(0, .long w0), (2, .long w2), (4, .int v4), (5, .long w5), (7, .long w7)] [] M := by
    intro n
    induction n with
    | zero => intro w5 w7 h; exact gx_loop_0 h
    | succ n ih => intro w5 w7 h; exact K16 (fun w5 w7 => f_X8_lowest_l16 w0 w2 v4 n w5 w7 M) ih w5 w7 h
  have h := hf
  refine gx_lload_n Cx eX8_lowest_0 0 rfl ?_
  refine gx_lconst (v := (0 : Int64)) Cx eX8_lowest_1 (by decide) ?_
  refine gx_lcmp Cx eX8_lowest_2 ?_
  refine gx_if_ne (tgt := 10) Cx eX8_lowest_3 (by decide) h (fun h => ?_) (fun h => ?_)
  · refine gx_lload_n Cx eX8_lowest_10 0 rfl ?_
    refine gx_lstore Cx eX8_lowest_11 [(5, .long w0), (0, .long w0), (2, .long w2), (4, .int v4)] rfl (by decide) ?_
    refine gx_lload_n Cx eX8_lowest_13 2 rfl ?_
    refine gx_lstore Cx eX8_lowest_14 [(7, .long w2), (5, .long w0), (0, .long w0), (2, .long w2), (4, .int v4)] rfl (by decide) ?_
    refine gx_sub [2, 3, 4, 1, 0] rfl ?_
    exact L16 _ _ _ h
  · refine gx_iload Cx eX8_lowest_6 2 rfl ?_
    refine gx_i2l Cx eX8_lowest_8 ?_
    exact gx_rJp h eX8_lowest_9 hR
set_option maxHeartbeats 4000000 in
set_option maxRecDepth 100000 in
theorem c_X8_mayHave (κ : gx_K) {v0 : Int32} {v1 : Int32} {M : gx_Mem} {r9 : Int32} (hf : f_X8_mayHave v0 v1 M = some r9) : gx_CI κ yX8_mayHave cX8_mayHave 2 (some .boolean) 2 [.int v0, .int v1] M r9 M := by
  refine gx_enterI (d := 2) my_X8_mayHave.1 (by decide) (Nat.le_of_ble_eq_true rfl) (fun Γ Cx hR => ?_)
  change gx_G κ Γ 0 [(0, .int v0), (1, .int v1)] [] M
  have B72 : f_X8_mayHave_b72 v1 M = some r9 → gx_G κ Γ 72 [(1, .int v1)] [] M := by
    intro h
    refine gx_iload_n Cx eX8_mayHave_72 0 rfl ?_
    refine gx_iconst (v := (0 : Int32)) Cx eX8_mayHave_73 (by decide) ?_
    refine gx_bipush (v := (9 : Int32)) Cx eX8_mayHave_74 (by decide) ?_
    obtain ⟨y10, h9, h⟩ := gx_bP_of h
    refine gx_callSI Cx my_X8_in wlX8_136 (by decide) rfl eX8_mayHave_76 (c_X8_in κ h9) rfl (Nat.le_of_ble_eq_true rfl) ?_
    exact gx_rZp h eX8_mayHave_79 hR
  have h := hf
  refine gx_iload_n Cx eX8_mayHave_0 0 rfl ?_
  refine gx_case (0 : Int32) h (fun h => ?_) (fun n0 h => ?_)
  · refine gx_tsIn (tgt := 44) Cx eX8_mayHave_1 (by decide) (by decide) rfl (by decide) ?_
    refine gx_iload_n Cx eX8_mayHave_44 1 rfl ?_
    obtain ⟨y2, h1, h⟩ := gx_bP_of h
    refine gx_callSI Cx my_X8_isFlat wlX8_147 (by decide) rfl eX8_mayHave_45 (c_X8_isFlat κ h1) rfl (Nat.le_of_ble_eq_true rfl) ?_
    exact gx_rZp h eX8_mayHave_48 hR
  refine gx_case (1 : Int32) h (fun h => ?_) (fun n1 h => ?_)
  · refine gx_tsIn (tgt := 49) Cx eX8_mayHave_1 (by decide) (by decide) rfl (by decide) ?_
    refine gx_iload_n Cx eX8_mayHave_49 1 rfl ?_
    refine gx_iconst (v := (0 : Int32)) Cx eX8_mayHave_50 (by decide) ?_
    refine gx_sipush (v := (4095 : Int32)) Cx eX8_mayHave_51 (by decide) ?_
    obtain ⟨y4, h3, h⟩ := gx_bP_of h
    refine gx_callSI Cx my_X8_in wlX8_136 (by decide) rfl eX8_mayHave_54 (c_X8_in κ h3) rfl (Nat.le_of_ble_eq_true rfl) ?_
    exact gx_rZp h eX8_mayHave_57 hR
  refine gx_case (2 : Int32) h (fun h => ?_) (fun n2 h => ?_)
  · refine gx_tsIn (tgt := 72) Cx eX8_mayHave_1 (by decide) (by decide) rfl (by decide) ?_
    refine gx_sub [1] rfl ?_
    exact B72 h
  refine gx_case (3 : Int32) h (fun h => ?_) (fun n3 h => ?_)
  · refine gx_tsIn (tgt := 58) Cx eX8_mayHave_1 (by decide) (by decide) rfl (by decide) ?_
    refine gx_iload_n Cx eX8_mayHave_58 1 rfl ?_
    refine gx_iconst (v := (0 : Int32)) Cx eX8_mayHave_59 (by decide) ?_
    refine gx_sipush (v := (9999 : Int32)) Cx eX8_mayHave_60 (by decide) ?_
    obtain ⟨y6, h5, h⟩ := gx_bP_of h
    refine gx_callSI Cx my_X8_in wlX8_136 (by decide) rfl eX8_mayHave_63 (c_X8_in κ h5) rfl (Nat.le_of_ble_eq_true rfl) ?_
    exact gx_rZp h eX8_mayHave_66 hR
  refine gx_case (4 : Int32) h (fun h => ?_) (fun n4 h => ?_)
  · refine gx_tsIn (tgt := 72) Cx eX8_mayHave_1 (by decide) (by decide) rfl (by decide) ?_
    refine gx_sub [1] rfl ?_
    exact B72 h
  refine gx_case (5 : Int32) h (fun h => ?_) (fun n5 h => ?_)
  · refine gx_tsIn (tgt := 72) Cx eX8_mayHave_1 (by decide) (by decide) rfl (by decide) ?_
    refine gx_sub [1] rfl ?_
    exact B72 h
  refine gx_case (6 : Int32) h (fun h => ?_) (fun n6 h => ?_)
  · refine gx_tsIn (tgt := 67) Cx eX8_mayHave_1 (by decide) (by decide) rfl (by decide) ?_
    refine gx_iload_n Cx eX8_mayHave_67 1 rfl ?_
    obtain ⟨y8, h7, h⟩ := gx_bP_of h
    refine gx_callSI Cx my_X8_isHour wlX8_173 (by decide) rfl eX8_mayHave_68 (c_X8_isHour κ h7) rfl (Nat.le_of_ble_eq_true rfl) ?_
    exact gx_rZp h eX8_mayHave_71 hR
  refine gx_tsOut (tgt := 72) Cx eX8_mayHave_1 (by have zn0 := gx_neT (k := 0) n0 (by decide); have zn1 := gx_neT (k := 1) n1 (by decide); have zn2 := gx_neT (k := 2) n2 (by decide); have zn3 := gx_neT (k := 3) n3 (by decide); have zn4 := gx_neT (k := 4) n4 (by decide); have zn5 := gx_neT (k := 5) n5 (by decide); have zn6 := gx_neT (k := 6) n6 (by decide); omega) (by decide) ?_
  refine gx_sub [1] rfl ?_
  exact B72 h
set_option maxHeartbeats 4000000 in
set_option maxRecDepth 100000 in
theorem c_X8_oddsOf (κ : gx_K) {v1 : Int32} {v2 : Int32} {v3 : Int32} {M : gx_Mem} {r9 : Int64} {M9 : gx_Mem} (hf : f_X8_oddsOf v1 v2 v3 M = some (r9, M9)) : gx_CJ κ yX8_oddsOf cX8_oddsOf 11 (some .long) 5 [.ref (gx_a κ 57), .int v1, .int v2, .int v3] M r9 M9 := by
  refine gx_enterJ (d := 5) my_X8_oddsOf.1 (by decide) (Nat.le_of_ble_eq_true rfl) (fun Γ Cx hR => ?_)
  change gx_G κ Γ 0 [(0, .ref (gx_a κ 57)), (1, .int v1), (2, .int v2), (3, .int v3)] [] M
  have K19 : ∀ (v4 : Int32) (ag19 : Int64 → Int64 → Int32 → gx_Mem → Option (Int64 × gx_Mem)) (hag19 : ∀ (w5 : Int64) (w7 : Int64) (v9 : Int32) (M : gx_Mem), ag19 w5 w7 v9 M = some (r9, M9) → gx_G κ Γ 19 [(0, .ref (gx_a κ 57)), (1, .int v1), (2, .int v2), (3, .int v3), (4, .int v4), (5, .long w5), (7, .long w7), (9, .int v9)] [] M) (w5 : Int64) (w7 : Int64) (v9 : Int32) (M : gx_Mem), f_X8_oddsOf_k19 v1 v2 v3 v4 ag19 w5 w7 v9 M = some (r9, M9) → gx_G κ Γ 19 [(0, .ref (gx_a κ 57)), (1, .int v1), (2, .int v2), (3, .int v3), (4, .int v4), (5, .long w5), (7, .long w7), (9, .int v9)] [] M := by
    intro v4 ag19 hag19
    have B110 : ∀ (w5 : Int64) (w7 : Int64) (v9 : Int32) (M : gx_Mem), f_X8_oddsOf_b110 ag19 v1 v2 v3 v4 w5 w7 v9 M = some (r9, M9) → gx_G κ Γ 110 [(0, .ref (gx_a κ 57)), (1, .int v1), (2, .int v2), (3, .int v3), (4, .int v4), (5, .long w5), (7, .long w7), (9, .int v9)] [] M := by
      intro w5 w7 v9 M h
      refine gx_iinc (v := (1 : Int32)) (i := 9) (j := 7) Cx eX8_oddsOf_110 (by decide) h 7 rfl (fun w => [(9, .int w), (0, .ref (gx_a κ 57)), (1, .int v1), (2, .int v2), (3, .int v3), (4, .int v4), (5, .long w5), (7, .long w7)]) (fun _ => rfl) (by decide) (fun x12 h => ?_)
      refine gx_goto (tgt := 19) Cx eX8_oddsOf_113 (by decide) ?_
      refine gx_sub [1, 2, 3, 4, 5, 6, 7, 0] rfl ?_
      exact hag19 _ _ _ _ h
    have B101 : ∀ (w7 : Int64) (v9 : Int32) (s0 : Int64) (s1 : Int64) (M : gx_Mem), f_X8_oddsOf_b101 ag19 v1 v2 v3 v4 w7 v9 s0 s1 M = some (r9, M9) → gx_G κ Γ 101 [(0, .ref (gx_a κ 57)), (1, .int v1), (2, .int v2), (3, .int v3), (4, .int v4), (7, .long w7), (9, .int v9)] [.long s1, .long s0] M := by
      intro w7 v9 s0 s1 M h
      refine gx_ladd Cx eX8_oddsOf_101 ?_
      refine gx_nmJ h (fun x13 h => ?_)
      refine gx_lstore Cx eX8_oddsOf_102 [(5, .long x13), (0, .ref (gx_a κ 57)), (1, .int v1), (2, .int v2), (3, .int v3), (4, .int v4), (7, .long w7), (9, .int v9)] rfl (by decide) ?_
      refine gx_lload Cx eX8_oddsOf_104 6 rfl ?_
      refine gx_lconst (v := (1 : Int64)) Cx eX8_oddsOf_106 (by decide) ?_
      refine gx_ladd Cx eX8_oddsOf_107 ?_
      refine gx_nmJ h (fun x14 h => ?_)
      refine gx_lstore Cx eX8_oddsOf_108 [(7, .long x14), (5, .long x13), (0, .ref (gx_a κ 57)), (1, .int v1), (2, .int v2), (3, .int v3), (4, .int v4), (9, .int v9)] rfl (by decide) ?_
      refine gx_sub [2, 3, 4, 5, 6, 1, 0, 7] rfl ?_
      exact B110 _ _ _ _ h
    intro w5 w7 v9 M h
    refine gx_iload Cx eX8_oddsOf_19 7 rfl ?_
    refine gx_iconst (v := (1 : Int32)) Cx eX8_oddsOf_21 (by decide) ?_
    refine gx_aload_n Cx eX8_oddsOf_22 0 rfl ?_
    refine gfX8_133 Cx eX8_oddsOf_23 ?_
    refine gx_ishl Cx eX8_oddsOf_26 ?_
    refine gx_icmp_ge (tgt := 116) Cx eX8_oddsOf_27 (by decide) h (fun h => ?_) (fun h => ?_)
    · refine gx_lload Cx eX8_oddsOf_116 5 rfl ?_
      refine gx_lload Cx eX8_oddsOf_118 6 rfl ?_
      refine gx_iload_n Cx eX8_oddsOf_120 3 rfl ?_
      obtain ⟨y5, h4, h⟩ := gx_bP_of h
      refine gx_callSJ Cx my_X8_lowest wlX8_334 (by decide) rfl eX8_oddsOf_121 (c_X8_lowest κ h4) rfl (Nat.le_of_ble_eq_true rfl) ?_
      exact gx_rJ h eX8_oddsOf_124 hR
    · refine gx_iload Cx eX8_oddsOf_30 7 rfl ?_
      refine gx_iload Cx eX8_oddsOf_32 4 rfl ?_
      obtain ⟨y7, h6, h⟩ := gx_bP_of h
      refine gx_callSI Cx my_X8_has wlX8_261 (by decide) rfl eX8_oddsOf_34 (c_X8_has κ h6) rfl (Nat.le_of_ble_eq_true rfl) ?_
      refine gx_if_ne (tgt := 43) Cx eX8_oddsOf_37 (by decide) h (fun h => ?_) (fun h => ?_)
      · refine gx_aload_n Cx eX8_oddsOf_43 0 rfl ?_
        refine gx_iload Cx eX8_oddsOf_44 7 rfl ?_
        refine pfX8_267 Cx eX8_oddsOf_46 h (fun M8 h => ?_)
        refine gx_aload_n Cx eX8_oddsOf_49 0 rfl ?_
        refine gx_iload_n Cx eX8_oddsOf_50 1 rfl ?_
        refine gx_bipush (v := (10 : Int32)) Cx eX8_oddsOf_51 (by decide) ?_
        refine gx_iremC Cx eX8_oddsOf_53 (by decide) ?_
        obtain ⟨M10, h9, h⟩ := gx_bP_of h
        refine gx_callVV (ci := 8) Cx my_X8_flow wlX8_274 rfl gx_y57 (by decide) rfl eX8_oddsOf_54 (c_X8_flow κ h9) rfl (Nat.le_of_ble_eq_true rfl) ?_
        refine gx_aload_n Cx eX8_oddsOf_57 0 rfl ?_
        refine gfX8_80 Cx eX8_oddsOf_58 ?_
        refine gx_bipush (v := (24 : Int32)) Cx eX8_oddsOf_61 (by decide) ?_
        refine gx_iload_n Cx eX8_oddsOf_63 1 rfl ?_
        refine gx_bipush (v := (10 : Int32)) Cx eX8_oddsOf_64 (by decide) ?_
        refine gx_iremC Cx eX8_oddsOf_66 (by decide) ?_
        refine gx_imul Cx eX8_oddsOf_67 ?_
        refine gx_aload_n Cx eX8_oddsOf_68 0 rfl ?_
        refine gfX8_9 Cx eX8_oddsOf_69 ?_
        refine gx_iload Cx eX8_oddsOf_72 4 rfl ?_
        refine gx_iald Cx gx_y58 eX8_oddsOf_74 h (fun h => ?_)
        refine gx_iadd Cx eX8_oddsOf_75 ?_
        refine gx_iald Cx gx_y80 eX8_oddsOf_76 h (fun h => ?_)
        refine gx_nmI h (fun x11 h => ?_)
        refine gx_istore Cx eX8_oddsOf_77 [(10, .int x11), (0, .ref (gx_a κ 57)), (1, .int v1), (2, .int v2), (3, .int v3), (4, .int v4), (5, .long w5), (7, .long w7), (9, .int v9)] rfl (by decide) ?_
        refine gx_lload Cx eX8_oddsOf_79 6 rfl ?_
        refine gx_iload_n Cx eX8_oddsOf_81 3 rfl ?_
        refine gx_if_eq (tgt := 91) Cx eX8_oddsOf_82 (by decide) h (fun h => ?_) (fun h => ?_)
        · refine gx_iload Cx eX8_oddsOf_91 0 rfl ?_
          refine gx_if_le (tgt := 100) Cx eX8_oddsOf_93 (by decide) h (fun h => ?_) (fun h => ?_)
          · refine gx_lconst (v := (0 : Int64)) Cx eX8_oddsOf_100 (by decide) ?_
            refine gx_sub [1, 2, 3, 4, 5, 7, 8] rfl ?_
            exact B101 _ _ _ _ _ h
          · refine gx_lconst (v := (1 : Int64)) Cx eX8_oddsOf_96 (by decide) ?_
            refine gx_goto (tgt := 101) Cx eX8_oddsOf_97 (by decide) ?_
            refine gx_sub [1, 2, 3, 4, 5, 7, 8] rfl ?_
            exact B101 _ _ _ _ _ h
        · refine gx_iload Cx eX8_oddsOf_85 0 rfl ?_
          refine gx_i2l Cx eX8_oddsOf_87 ?_
          refine gx_goto (tgt := 101) Cx eX8_oddsOf_88 (by decide) ?_
          refine gx_sub [1, 2, 3, 4, 5, 7, 8] rfl ?_
          exact B101 _ _ _ _ _ h
      · refine gx_goto (tgt := 110) Cx eX8_oddsOf_40 (by decide) ?_
        exact B110 _ _ _ _ h
  have L19 : ∀ (v4 : Int32) (n : Nat) (w5 : Int64) (w7 : Int64) (v9 : Int32) (M : gx_Mem), f_X8_oddsOf_l19 v1 v2 v3 v4 n w5 w7 v9 M = some (r9, M9) → gx_G κ Γ 19 [(0, .ref (gx_a κ 57)), (1, .int v1), (2, .int v2), (3, .int v3), (4, .int v4), (5, .long w5), (7, .long w7), (9, .int v9)] [] M := by
    intro v4 n
    induction n with
    | zero => intro w5 w7 v9 M h; exact gx_loop_0 h
    | succ n ih => intro w5 w7 v9 M h; exact K19 v4 (fun w5 w7 v9 M => f_X8_oddsOf_l19 v1 v2 v3 v4 n w5 w7 v9 M) ih w5 w7 v9 M h
  have h := hf
  refine gx_aload_n Cx eX8_oddsOf_0 0 rfl ?_
  obtain ⟨M2, h1, h⟩ := gx_bP_of h
  refine gx_callVV (ci := 8) Cx my_X8_layNow wlX8_290 rfl gx_y57 (by decide) rfl eX8_oddsOf_1 (c_X8_layNow κ h1) rfl (Nat.le_of_ble_eq_true rfl) ?_
  refine gx_iload_n Cx eX8_oddsOf_4 1 rfl ?_
  refine gx_bipush (v := (10 : Int32)) Cx eX8_oddsOf_5 (by decide) ?_
  refine gx_idivC Cx eX8_oddsOf_7 (by decide) ?_
  refine gx_nmI h (fun x3 h => ?_)
  refine gx_istore Cx eX8_oddsOf_8 [(4, .int x3), (0, .ref (gx_a κ 57)), (1, .int v1), (2, .int v2), (3, .int v3)] rfl (by decide) ?_
  refine gx_lconst (v := (0 : Int64)) Cx eX8_oddsOf_10 (by decide) ?_
  refine gx_lstore Cx eX8_oddsOf_11 [(5, .long (0 : Int64)), (4, .int x3), (0, .ref (gx_a κ 57)), (1, .int v1), (2, .int v2), (3, .int v3)] rfl (by decide) ?_
  refine gx_lconst (v := (0 : Int64)) Cx eX8_oddsOf_13 (by decide) ?_
  refine gx_lstore Cx eX8_oddsOf_14 [(7, .long (0 : Int64)), (5, .long (0 : Int64)), (4, .int x3), (0, .ref (gx_a κ 57)), (1, .int v1), (2, .int v2), (3, .int v3)] rfl (by decide) ?_
  refine gx_iconst (v := (0 : Int32)) Cx eX8_oddsOf_16 (by decide) ?_
  refine gx_istore Cx eX8_oddsOf_17 [(9, .int (0 : Int32)), (7, .long (0 : Int64)), (5, .long (0 : Int64)), (4, .int x3), (0, .ref (gx_a κ 57)), (1, .int v1), (2, .int v2), (3, .int v3)] rfl (by decide) ?_
  refine gx_sub [4, 5, 6, 7, 3, 2, 1, 0] rfl ?_
  exact L19 _ _ _ _ _ _ h
set_option maxHeartbeats 4000000 in
set_option maxRecDepth 100000 in
theorem c_X8_mean (κ : gx_K) {v1 : Int32} {v2 : Int32} {v3 : Int32} {M : gx_Mem} {r9 : Int64} {M9 : gx_Mem} (hf : f_X8_mean v1 v2 v3 M = some (r9, M9)) : gx_CJ κ yX8_mean cX8_mean 4 (some .long) 6 [.ref (gx_a κ 57), .int v1, .int v2, .int v3] M r9 M9 := by
  refine gx_enterJ (d := 6) my_X8_mean.1 (by decide) (Nat.le_of_ble_eq_true rfl) (fun Γ Cx hR => ?_)
  change gx_G κ Γ 0 [(0, .ref (gx_a κ 57)), (1, .int v1), (2, .int v2), (3, .int v3)] [] M
  have h := hf
  refine gx_aload_n Cx eX8_mean_0 0 rfl ?_
  refine gx_iload_n Cx eX8_mean_1 1 rfl ?_
  obtain ⟨y2, h1, h⟩ := gx_bP_of h
  refine gx_callVI (ci := 8) Cx my_X8_areMark wlX8_170 rfl gx_y57 (by decide) rfl eX8_mean_2 (c_X8_areMark κ h1) rfl (Nat.le_of_ble_eq_true rfl) ?_
  refine gx_if_eq (tgt := 34) Cx eX8_mean_5 (by decide) h (fun h => ?_) (fun h => ?_)
  · refine gx_ldc2_w Cx eX8_mean_34 wkX8_342 ?_
    exact gx_rJ h eX8_mean_37 hR
  · refine gx_iload_n Cx eX8_mean_8 2 rfl ?_
    obtain ⟨y4, h3, h⟩ := gx_bP_of h
    refine gx_callSI Cx my_X8_isHour wlX8_173 (by decide) rfl eX8_mean_9 (c_X8_isHour κ h3) rfl (Nat.le_of_ble_eq_true rfl) ?_
    refine gx_if_eq (tgt := 34) Cx eX8_mean_12 (by decide) h (fun h => ?_) (fun h => ?_)
    · refine gx_ldc2_w Cx eX8_mean_34 wkX8_342 ?_
      exact gx_rJ h eX8_mean_37 hR
    · refine gx_iload_n Cx eX8_mean_15 3 rfl ?_
      refine gx_iconst (v := (0 : Int32)) Cx eX8_mean_16 (by decide) ?_
      refine gx_iconst (v := (1 : Int32)) Cx eX8_mean_17 (by decide) ?_
      obtain ⟨y6, h5, h⟩ := gx_bP_of h
      refine gx_callSI Cx my_X8_in wlX8_136 (by decide) rfl eX8_mean_18 (c_X8_in κ h5) rfl (Nat.le_of_ble_eq_true rfl) ?_
      refine gx_if_eq (tgt := 34) Cx eX8_mean_21 (by decide) h (fun h => ?_) (fun h => ?_)
      · refine gx_ldc2_w Cx eX8_mean_34 wkX8_342 ?_
        exact gx_rJ h eX8_mean_37 hR
      · refine gx_aload_n Cx eX8_mean_24 0 rfl ?_
        refine gx_iload_n Cx eX8_mean_25 1 rfl ?_
        refine gx_iconst (v := (1 : Int32)) Cx eX8_mean_26 (by decide) ?_
        refine gx_iload_n Cx eX8_mean_27 3 rfl ?_
        obtain ⟨y8, M9, h7, h⟩ := gx_bI_of h
        refine gx_callVJ (ci := 8) Cx my_X8_oddsOf wlX8_338 rfl gx_y57 (by decide) rfl eX8_mean_28 (c_X8_oddsOf κ h7) rfl (Nat.le_of_ble_eq_true rfl) ?_
        refine gx_goto (tgt := 37) Cx eX8_mean_31 (by decide) ?_
        exact gx_rJ h eX8_mean_37 hR
set_option maxHeartbeats 4000000 in
set_option maxRecDepth 100000 in
theorem c_X8_mend (κ : gx_K) {v1 : Int32} {v2 : Int32} {v3 : Int32} {M : gx_Mem} {r9 : Int32} {M9 : gx_Mem} (hf : f_X8_mend v1 v2 v3 M = some (r9, M9)) : gx_CI κ yX8_mend cX8_mend 4 (some .int) 4 [.ref (gx_a κ 57), .int v1, .int v2, .int v3] M r9 M9 := by
  refine gx_enterI (d := 4) my_X8_mend.1 (by decide) (Nat.le_of_ble_eq_true rfl) (fun Γ Cx hR => ?_)
  change gx_G κ Γ 0 [(0, .ref (gx_a κ 57)), (1, .int v1), (2, .int v2), (3, .int v3)] [] M
  have h := hf
  refine gx_aload_n Cx eX8_mend_0 0 rfl ?_
  refine gx_iload_n Cx eX8_mend_1 1 rfl ?_
  refine gx_iload_n Cx eX8_mend_2 2 rfl ?_
  obtain ⟨y2, h1, h⟩ := gx_bP_of h
  refine gx_callVI (ci := 8) Cx my_X8_isPlace wlX8_176 rfl gx_y57 (by decide) rfl eX8_mend_3 (c_X8_isPlace κ h1) rfl (Nat.le_of_ble_eq_true rfl) ?_
  refine gx_if_eq (tgt := 27) Cx eX8_mend_6 (by decide) h (fun h => ?_) (fun h => ?_)
  · refine gx_iconst (v := (-1 : Int32)) Cx eX8_mend_27 (by decide) ?_
    exact gx_rI h rfl eX8_mend_28 hR
  · refine gx_iload_n Cx eX8_mend_9 2 rfl ?_
    refine gx_iload_n Cx eX8_mend_10 3 rfl ?_
    obtain ⟨y4, h3, h⟩ := gx_bP_of h
    refine gx_callSI Cx my_X8_mayHave wlX8_180 (by decide) rfl eX8_mend_11 (c_X8_mayHave κ h3) rfl (Nat.le_of_ble_eq_true rfl) ?_
    refine gx_if_eq (tgt := 27) Cx eX8_mend_14 (by decide) h (fun h => ?_) (fun h => ?_)
    · refine gx_iconst (v := (-1 : Int32)) Cx eX8_mend_27 (by decide) ?_
      exact gx_rI h rfl eX8_mend_28 hR
    · refine gx_aload_n Cx eX8_mend_17 0 rfl ?_
      refine gx_iload_n Cx eX8_mend_18 2 rfl ?_
      refine gx_iload_n Cx eX8_mend_19 1 rfl ?_
      refine gx_iload_n Cx eX8_mend_20 3 rfl ?_
      obtain ⟨y6, M7, h5, h⟩ := gx_bI_of h
      refine gx_callVI (ci := 8) Cx my_X8_changes wlX8_183 rfl gx_y57 (by decide) rfl eX8_mend_21 (c_X8_changes κ h5) rfl (Nat.le_of_ble_eq_true rfl) ?_
      refine gx_goto (tgt := 28) Cx eX8_mend_24 (by decide) ?_
      exact gx_rI h rfl eX8_mend_28 hR
set_option maxHeartbeats 4000000 in
set_option maxRecDepth 100000 in
theorem c_X8_most (κ : gx_K) {v1 : Int32} {v2 : Int32} {v3 : Int32} {M : gx_Mem} {r9 : Int32} {M9 : gx_Mem} (hf : f_X8_most v1 v2 v3 M = some (r9, M9)) : gx_CI κ yX8_most cX8_most 7 (some .int) 7 [.ref (gx_a κ 57), .int v1, .int v2, .int v3] M r9 M9 := by
  refine gx_enterI (d := 7) my_X8_most.1 (by decide) (Nat.le_of_ble_eq_true rfl) (fun Γ Cx hR => ?_)
  change gx_G κ Γ 0 [(0, .ref (gx_a κ 57)), (1, .int v1), (2, .int v2), (3, .int v3)] [] M
  have K57 : ∀  (ag57 : Int32 → Int32 → Int32 → gx_Mem → Option (Int32 × gx_Mem)) (hag57 : ∀ (v4 : Int32) (v5 : Int32) (v6 : Int32) (M : gx_Mem), ag57 v4 v5 v6 M = some (r9, M9) → gx_G κ Γ 57 [(0, .ref (gx_a κ 57)), (2, .int v2), (4, .int v4), (5, .int v5), (6, .int v6)] [] M) (v4 : Int32) (v5 : Int32) (v6 : Int32) (M : gx_Mem), f_X8_most_k57 v2 ag57 v4 v5 v6 M = some (r9, M9) → gx_G κ Γ 57 [(0, .ref (gx_a κ 57)), (2, .int v2), (4, .int v4), (5, .int v5), (6, .int v6)] [] M := by
    intro ag57 hag57
    have B99 : ∀ (v4 : Int32) (v5 : Int32) (v6 : Int32) (M : gx_Mem), f_X8_most_b99 ag57 v2 v4 v5 v6 M = some (r9, M9) → gx_G κ Γ 99 [(0, .ref (gx_a κ 57)), (2, .int v2), (4, .int v4), (5, .int v5), (6, .int v6)] [] M := by
      intro v4 v5 v6 M h
      refine gx_iinc (v := (1 : Int32)) (i := 6) (j := 4) Cx eX8_most_99 (by decide) h 4 rfl (fun w => [(6, .int w), (0, .ref (gx_a κ 57)), (2, .int v2), (4, .int v4), (5, .int v5)]) (fun _ => rfl) (by decide) (fun x14 h => ?_)
      refine gx_goto (tgt := 57) Cx eX8_most_102 (by decide) ?_
      refine gx_sub [1, 2, 3, 4, 0] rfl ?_
      exact hag57 _ _ _ _ h
    intro v4 v5 v6 M h
    refine gx_iload Cx eX8_most_57 4 rfl ?_
    refine gx_iconst (v := (4 : Int32)) Cx eX8_most_59 (by decide) ?_
    refine gx_icmp_ge (tgt := 105) Cx eX8_most_60 (by decide) h (fun h => ?_) (fun h => ?_)
    · refine gx_iload Cx eX8_most_105 2 rfl ?_
      exact gx_rI h rfl eX8_most_107 hR
    · refine gx_aload_n Cx eX8_most_63 0 rfl ?_
      refine gfX8_74 Cx eX8_most_64 ?_
      refine gx_iconst (v := (4 : Int32)) Cx eX8_most_67 (by decide) ?_
      refine gx_iload_n Cx eX8_most_68 1 rfl ?_
      refine gx_imul Cx eX8_most_69 ?_
      refine gx_iload Cx eX8_most_70 4 rfl ?_
      refine gx_iadd Cx eX8_most_72 ?_
      refine gx_iald Cx gx_y78 eX8_most_73 h (fun h => ?_)
      refine gx_iload Cx eX8_most_74 3 rfl ?_
      refine gx_icmp_gt (tgt := 82) Cx eX8_most_76 (by decide) h (fun h => ?_) (fun h => ?_)
      · refine gx_iload Cx eX8_most_82 4 rfl ?_
        refine gx_istore Cx eX8_most_84 [(4, .int v6), (0, .ref (gx_a κ 57)), (2, .int v2), (5, .int v5), (6, .int v6)] rfl (by decide) ?_
        refine gx_aload_n Cx eX8_most_86 1 rfl ?_
        refine gfX8_74 Cx eX8_most_87 ?_
        refine gx_iconst (v := (4 : Int32)) Cx eX8_most_90 (by decide) ?_
        refine gx_iload_n Cx eX8_most_91 2 rfl ?_
        refine gx_imul Cx eX8_most_92 ?_
        refine gx_iload Cx eX8_most_93 4 rfl ?_
        refine gx_iadd Cx eX8_most_95 ?_
        refine gx_iald Cx gx_y78 eX8_most_96 h (fun h => ?_)
        refine gx_nmI h (fun x13 h => ?_)
        refine gx_istore Cx eX8_most_97 [(5, .int x13), (4, .int v6), (0, .ref (gx_a κ 57)), (2, .int v2), (6, .int v6)] rfl (by decide) ?_
        refine gx_sub [2, 3, 1, 0, 4] rfl ?_
        exact B99 _ _ _ _ h
      · refine gx_goto (tgt := 99) Cx eX8_most_79 (by decide) ?_
        exact B99 _ _ _ _ h
  have L57 : ∀  (n : Nat) (v4 : Int32) (v5 : Int32) (v6 : Int32) (M : gx_Mem), f_X8_most_l57 v2 n v4 v5 v6 M = some (r9, M9) → gx_G κ Γ 57 [(0, .ref (gx_a κ 57)), (2, .int v2), (4, .int v4), (5, .int v5), (6, .int v6)] [] M := by
    intro n
    induction n with
    | zero => intro v4 v5 v6 M h; exact gx_loop_0 h
    | succ n ih => intro v4 v5 v6 M h; exact K57 (fun v4 v5 v6 M => f_X8_most_l57 v2 n v4 v5 v6 M) ih v4 v5 v6 M h
  have h := hf
  refine gx_iload_n Cx eX8_most_0 1 rfl ?_
  obtain ⟨y2, h1, h⟩ := gx_bP_of h
  refine gx_callSI Cx my_X8_areHours wlX8_293 (by decide) rfl eX8_most_1 (c_X8_areHours κ h1) rfl (Nat.le_of_ble_eq_true rfl) ?_
  refine gx_if_eq (tgt := 24) Cx eX8_most_4 (by decide) h (fun h => ?_) (fun h => ?_)
  · refine gx_iconst (v := (-1 : Int32)) Cx eX8_most_24 (by decide) ?_
    exact gx_rI h rfl eX8_most_25 hR
  · refine gx_aload_n Cx eX8_most_7 0 rfl ?_
    refine gx_iload_n Cx eX8_most_8 2 rfl ?_
    obtain ⟨y4, h3, h⟩ := gx_bP_of h
    refine gx_callVI (ci := 8) Cx my_X8_isOne wlX8_140 rfl gx_y57 (by decide) rfl eX8_most_9 (c_X8_isOne κ h3) rfl (Nat.le_of_ble_eq_true rfl) ?_
    refine gx_if_eq (tgt := 24) Cx eX8_most_12 (by decide) h (fun h => ?_) (fun h => ?_)
    · refine gx_iconst (v := (-1 : Int32)) Cx eX8_most_24 (by decide) ?_
      exact gx_rI h rfl eX8_most_25 hR
    · refine gx_iload_n Cx eX8_most_15 3 rfl ?_
      refine gx_iconst (v := (0 : Int32)) Cx eX8_most_16 (by decide) ?_
      refine gx_iconst (v := (1 : Int32)) Cx eX8_most_17 (by decide) ?_
      obtain ⟨y6, h5, h⟩ := gx_bP_of h
      refine gx_callSI Cx my_X8_in wlX8_136 (by decide) rfl eX8_most_18 (c_X8_in κ h5) rfl (Nat.le_of_ble_eq_true rfl) ?_
      refine gx_if_ne (tgt := 26) Cx eX8_most_21 (by decide) h (fun h => ?_) (fun h => ?_)
      · refine gx_aload_n Cx eX8_most_26 0 rfl ?_
        obtain ⟨M8, h7, h⟩ := gx_bP_of h
        refine gx_callVV (ci := 8) Cx my_X8_layNow wlX8_290 rfl gx_y57 (by decide) rfl eX8_most_27 (c_X8_layNow κ h7) rfl (Nat.le_of_ble_eq_true rfl) ?_
        refine gx_aload_n Cx eX8_most_30 0 rfl ?_
        refine gx_iload_n Cx eX8_most_31 1 rfl ?_
        refine gx_bipush (v := (63 : Int32)) Cx eX8_most_32 (by decide) ?_
        obtain ⟨M10, h9, h⟩ := gx_bP_of h
        refine gx_callVV (ci := 8) Cx my_X8_goHours wlX8_296 rfl gx_y57 (by decide) rfl eX8_most_34 (c_X8_goHours κ h9) rfl (Nat.le_of_ble_eq_true rfl) ?_
        refine gx_iload_n Cx eX8_most_37 3 rfl ?_
        refine gx_if_ne (tgt := 47) Cx eX8_most_38 (by decide) h (fun h => ?_) (fun h => ?_)
        · refine gx_bipush (v := (-2 : Int32)) Cx eX8_most_47 (by decide) ?_
          refine gx_istore Cx eX8_most_49 [(4, .int (-2 : Int32)), (0, .ref (gx_a κ 57)), (1, .int v1), (2, .int v2), (3, .int v3)] rfl (by decide) ?_
          refine gx_iconst (v := (0 : Int32)) Cx eX8_most_51 (by decide) ?_
          refine gx_istore Cx eX8_most_52 [(5, .int (0 : Int32)), (4, .int (-2 : Int32)), (0, .ref (gx_a κ 57)), (1, .int v1), (2, .int v2), (3, .int v3)] rfl (by decide) ?_
          refine gx_iconst (v := (0 : Int32)) Cx eX8_most_54 (by decide) ?_
          refine gx_istore Cx eX8_most_55 [(6, .int (0 : Int32)), (5, .int (0 : Int32)), (4, .int (-2 : Int32)), (0, .ref (gx_a κ 57)), (1, .int v1), (2, .int v2), (3, .int v3)] rfl (by decide) ?_
          refine gx_sub [3, 5, 2, 1, 0] rfl ?_
          exact L57 _ _ _ _ _ h
        · refine gx_aload_n Cx eX8_most_41 0 rfl ?_
          refine gx_iload_n Cx eX8_most_42 2 rfl ?_
          obtain ⟨y12, h11, h⟩ := gx_bP_of h
          refine gx_callVI (ci := 8) Cx my_X8_allWet wlX8_299 rfl gx_y57 (by decide) rfl eX8_most_43 (c_X8_allWet κ h11) rfl (Nat.le_of_ble_eq_true rfl) ?_
          exact gx_rI h rfl eX8_most_46 hR
      · refine gx_iconst (v := (-1 : Int32)) Cx eX8_most_24 (by decide) ?_
        exact gx_rI h rfl eX8_most_25 hR
set_option maxHeartbeats 4000000 in
set_option maxRecDepth 100000 in
theorem c_X8_moves (κ : gx_K) {v1 : Int32} {v2 : Int32} {M : gx_Mem} {r9 : Int32} {M9 : gx_Mem} (hf : f_X8_moves v1 v2 M = some (r9, M9)) : gx_CI κ yX8_moves cX8_moves 4 (some .int) 2 [.ref (gx_a κ 57), .int v1, .int v2] M r9 M9 := by
  refine gx_enterI (d := 2) my_X8_moves.1 (by decide) (Nat.le_of_ble_eq_true rfl) (fun Γ Cx hR => ?_)
  change gx_G κ Γ 0 [(0, .ref (gx_a κ 57)), (1, .int v1), (2, .int v2)] [] M
  have h := hf
  refine gx_aload_n Cx eX8_moves_0 0 rfl ?_
  refine gx_iload_n Cx eX8_moves_1 1 rfl ?_
  obtain ⟨y2, h1, h⟩ := gx_bP_of h
  refine gx_callVI (ci := 8) Cx my_X8_isOne wlX8_140 rfl gx_y57 (by decide) rfl eX8_moves_2 (c_X8_isOne κ h1) rfl (Nat.le_of_ble_eq_true rfl) ?_
  refine gx_if_eq (tgt := 15) Cx eX8_moves_5 (by decide) h (fun h => ?_) (fun h => ?_)
  · refine gx_iconst (v := (-1 : Int32)) Cx eX8_moves_15 (by decide) ?_
    exact gx_rI h rfl eX8_moves_16 hR
  · refine gx_iload_n Cx eX8_moves_8 2 rfl ?_
    obtain ⟨y4, h3, h⟩ := gx_bP_of h
    refine gx_callSI Cx my_X8_isFlat wlX8_147 (by decide) rfl eX8_moves_9 (c_X8_isFlat κ h3) rfl (Nat.le_of_ble_eq_true rfl) ?_
    refine gx_if_ne (tgt := 17) Cx eX8_moves_12 (by decide) h (fun h => ?_) (fun h => ?_)
    · refine gx_aload_n Cx eX8_moves_17 0 rfl ?_
      refine gfX8_9 Cx eX8_moves_18 ?_
      refine gx_iload_n Cx eX8_moves_21 1 rfl ?_
      refine gx_iald Cx gx_y58 eX8_moves_22 h (fun h => ?_)
      refine gx_nmI h (fun x5 h => ?_)
      refine gx_istore_n Cx eX8_moves_23 [(3, .int x5), (0, .ref (gx_a κ 57)), (1, .int v1), (2, .int v2)] rfl (by decide) ?_
      refine gx_aload_n Cx eX8_moves_24 1 rfl ?_
      refine gfX8_9 Cx eX8_moves_25 ?_
      refine gx_iload_n Cx eX8_moves_28 2 rfl ?_
      refine gx_iload_n Cx eX8_moves_29 3 rfl ?_
      refine gx_iast Cx gx_y58 eX8_moves_30 h (fun M6 h => ?_)
      refine gx_aload_n Cx eX8_moves_31 1 rfl ?_
      refine gfX8_95 Cx eX8_moves_32 ?_
      refine gx_iconst (v := (1 : Int32)) Cx eX8_moves_35 (by decide) ?_
      refine gx_dup2 Cx eX8_moves_36 rfl rfl ?_
      refine gx_ialdC (α := Unit) (b := none) Cx gx_y85 eX8_moves_37 (by decide) ?_
      refine gx_iconst (v := (1 : Int32)) Cx eX8_moves_38 (by decide) ?_
      refine gx_iadd Cx eX8_moves_39 ?_
      refine gx_iastC Cx gx_y85 eX8_moves_40 (by decide) h (fun M7 h => ?_)
      refine gx_iload_n Cx eX8_moves_41 0 rfl ?_
      exact gx_rI h rfl eX8_moves_42 hR
    · refine gx_iconst (v := (-1 : Int32)) Cx eX8_moves_15 (by decide) ?_
      exact gx_rI h rfl eX8_moves_16 hR
set_option maxHeartbeats 4000000 in
set_option maxRecDepth 100000 in
theorem c_X8_odds (κ : gx_K) {v1 : Int32} {v2 : Int32} {v3 : Int32} {M : gx_Mem} {r9 : Int64} {M9 : gx_Mem} (hf : f_X8_odds v1 v2 v3 M = some (r9, M9)) : gx_CJ κ yX8_odds cX8_odds 4 (some .long) 6 [.ref (gx_a κ 57), .int v1, .int v2, .int v3] M r9 M9 := by
  refine gx_enterJ (d := 6) my_X8_odds.1 (by decide) (Nat.le_of_ble_eq_true rfl) (fun Γ Cx hR => ?_)
  change gx_G κ Γ 0 [(0, .ref (gx_a κ 57)), (1, .int v1), (2, .int v2), (3, .int v3)] [] M
  have h := hf
  refine gx_aload_n Cx eX8_odds_0 0 rfl ?_
  refine gx_iload_n Cx eX8_odds_1 1 rfl ?_
  obtain ⟨y2, h1, h⟩ := gx_bP_of h
  refine gx_callVI (ci := 8) Cx my_X8_areMark wlX8_170 rfl gx_y57 (by decide) rfl eX8_odds_2 (c_X8_areMark κ h1) rfl (Nat.le_of_ble_eq_true rfl) ?_
  refine gx_if_eq (tgt := 34) Cx eX8_odds_5 (by decide) h (fun h => ?_) (fun h => ?_)
  · refine gx_ldc2_w Cx eX8_odds_34 wkX8_342 ?_
    exact gx_rJ h eX8_odds_37 hR
  · refine gx_iload_n Cx eX8_odds_8 2 rfl ?_
    obtain ⟨y4, h3, h⟩ := gx_bP_of h
    refine gx_callSI Cx my_X8_isHour wlX8_173 (by decide) rfl eX8_odds_9 (c_X8_isHour κ h3) rfl (Nat.le_of_ble_eq_true rfl) ?_
    refine gx_if_eq (tgt := 34) Cx eX8_odds_12 (by decide) h (fun h => ?_) (fun h => ?_)
    · refine gx_ldc2_w Cx eX8_odds_34 wkX8_342 ?_
      exact gx_rJ h eX8_odds_37 hR
    · refine gx_iload_n Cx eX8_odds_15 3 rfl ?_
      refine gx_iconst (v := (0 : Int32)) Cx eX8_odds_16 (by decide) ?_
      refine gx_iconst (v := (1 : Int32)) Cx eX8_odds_17 (by decide) ?_
      obtain ⟨y6, h5, h⟩ := gx_bP_of h
      refine gx_callSI Cx my_X8_in wlX8_136 (by decide) rfl eX8_odds_18 (c_X8_in κ h5) rfl (Nat.le_of_ble_eq_true rfl) ?_
      refine gx_if_eq (tgt := 34) Cx eX8_odds_21 (by decide) h (fun h => ?_) (fun h => ?_)
      · refine gx_ldc2_w Cx eX8_odds_34 wkX8_342 ?_
        exact gx_rJ h eX8_odds_37 hR
      · refine gx_aload_n Cx eX8_odds_24 0 rfl ?_
        refine gx_iload_n Cx eX8_odds_25 1 rfl ?_
        refine gx_iconst (v := (0 : Int32)) Cx eX8_odds_26 (by decide) ?_
        refine gx_iload_n Cx eX8_odds_27 3 rfl ?_
        obtain ⟨y8, M9, h7, h⟩ := gx_bI_of h
        refine gx_callVJ (ci := 8) Cx my_X8_oddsOf wlX8_338 rfl gx_y57 (by decide) rfl eX8_odds_28 (c_X8_oddsOf κ h7) rfl (Nat.le_of_ble_eq_true rfl) ?_
        refine gx_goto (tgt := 37) Cx eX8_odds_31 (by decide) ?_
        exact gx_rJ h eX8_odds_37 hR
set_option maxHeartbeats 4000000 in
set_option maxRecDepth 100000 in
theorem c_X8_of (κ : gx_K) {v1 : Int32} {v2 : Int32} {M : gx_Mem} {r9 : Int32} (hf : f_X8_of v1 v2 M = some r9) : gx_CI κ yX8_of cX8_of 3 (some .int) 4 [.ref (gx_a κ 57), .int v1, .int v2] M r9 M := by
  refine gx_enterI (d := 4) my_X8_of.1 (by decide) (Nat.le_of_ble_eq_true rfl) (fun Γ Cx hR => ?_)
  change gx_G κ Γ 0 [(0, .ref (gx_a κ 57)), (1, .int v1), (2, .int v2)] [] M
  have h := hf
  refine gx_aload_n Cx eX8_of_0 0 rfl ?_
  refine gx_iload_n Cx eX8_of_1 1 rfl ?_
  refine gx_iload_n Cx eX8_of_2 2 rfl ?_
  obtain ⟨y2, h1, h⟩ := gx_bP_of h
  refine gx_callVI (ci := 8) Cx my_X8_isPlace wlX8_176 rfl gx_y57 (by decide) rfl eX8_of_3 (c_X8_isPlace κ h1) rfl (Nat.le_of_ble_eq_true rfl) ?_
  refine gx_if_eq (tgt := 18) Cx eX8_of_6 (by decide) h (fun h => ?_) (fun h => ?_)
  · refine gx_iconst (v := (-1 : Int32)) Cx eX8_of_18 (by decide) ?_
    exact gx_rIp h rfl eX8_of_19 hR
  · refine gx_aload_n Cx eX8_of_9 0 rfl ?_
    refine gx_iload_n Cx eX8_of_10 2 rfl ?_
    refine gx_iload_n Cx eX8_of_11 1 rfl ?_
    obtain ⟨y4, h3, h⟩ := gx_bP_of h
    refine gx_callVI (ci := 8) Cx my_X8_valueAt wlX8_157 rfl gx_y57 (by decide) rfl eX8_of_12 (c_X8_valueAt κ h3) rfl (Nat.le_of_ble_eq_true rfl) ?_
    refine gx_goto (tgt := 19) Cx eX8_of_15 (by decide) ?_
    exact gx_rIp h rfl eX8_of_19 hR
set_option maxHeartbeats 4000000 in
set_option maxRecDepth 100000 in
theorem c_X8_others (κ : gx_K) {v1 : Int32} {M : gx_Mem} {r9 : Int64} (hf : f_X8_others v1 M = some r9) : gx_CJ κ yX8_others cX8_others 5 (some .long) 0 [.ref (gx_a κ 57), .int v1] M r9 M := by
  refine gx_enterJ (d := 0) my_X8_others.1 (by decide) (Nat.le_of_ble_eq_true rfl) (fun Γ Cx hR => ?_)
  change gx_G κ Γ 0 [(0, .ref (gx_a κ 57)), (1, .int v1)] [] M
  have K5 : ∀  (ag5 : Int64 → Int32 → Option Int64) (hag5 : ∀ (w2 : Int64) (v4 : Int32), ag5 w2 v4 = some r9 → gx_G κ Γ 5 [(0, .ref (gx_a κ 57)), (1, .int v1), (2, .long w2), (4, .int v4)] [] M) (w2 : Int64) (v4 : Int32), f_X8_others_k5 v1 ag5 w2 v4 M = some r9 → gx_G κ Γ 5 [(0, .ref (gx_a κ 57)), (1, .int v1), (2, .long w2), (4, .int v4)] [] M := by
    intro ag5 hag5
    have B31 : ∀ (w2 : Int64) (v4 : Int32), f_X8_others_b31 ag5 v1 w2 v4 M = some r9 → gx_G κ Γ 31 [(0, .ref (gx_a κ 57)), (1, .int v1), (2, .long w2), (4, .int v4)] [] M := by
      intro w2 v4 h
      refine gx_iinc (v := (1 : Int32)) (i := 4) (j := 3) Cx eX8_others_31 (by decide) h 3 rfl (fun w => [(4, .int w), (0, .ref (gx_a κ 57)), (1, .int v1), (2, .long w2)]) (fun _ => rfl) (by decide) (fun x2 h => ?_)
      refine gx_goto (tgt := 5) Cx eX8_others_34 (by decide) ?_
      refine gx_sub [1, 2, 3, 0] rfl ?_
      exact hag5 _ _ h
    intro w2 v4 h
    refine gx_iload Cx eX8_others_5 3 rfl ?_
    refine gx_aload_n Cx eX8_others_7 0 rfl ?_
    refine gfX8_133 Cx eX8_others_8 ?_
    refine gx_icmp_ge (tgt := 37) Cx eX8_others_11 (by decide) h (fun h => ?_) (fun h => ?_)
    · refine gx_lload_n Cx eX8_others_37 2 rfl ?_
      exact gx_rJp h eX8_others_38 hR
    · refine gx_iload Cx eX8_others_14 3 rfl ?_
      refine gx_iload_n Cx eX8_others_16 1 rfl ?_
      refine gx_icmp_eq (tgt := 31) Cx eX8_others_17 (by decide) h (fun h => ?_) (fun h => ?_)
      · exact B31 _ _ h
      · refine gx_lload_n Cx eX8_others_20 2 rfl ?_
        refine gx_aload_n Cx eX8_others_21 0 rfl ?_
        refine gfX8_92 Cx eX8_others_22 ?_
        refine gx_iload Cx eX8_others_25 3 rfl ?_
        refine gx_iald Cx gx_y84 eX8_others_27 h (fun h => ?_)
        refine gx_i2l Cx eX8_others_28 ?_
        refine gx_lmul Cx eX8_others_29 ?_
        refine gx_nmJ h (fun x1 h => ?_)
        refine gx_lstore_n Cx eX8_others_30 [(2, .long x1), (0, .ref (gx_a κ 57)), (1, .int v1), (4, .int v4)] rfl (by decide) ?_
        refine gx_sub [1, 2, 0, 3] rfl ?_
        exact B31 _ _ h
  have L5 : ∀  (n : Nat) (w2 : Int64) (v4 : Int32), f_X8_others_l5 v1 n w2 v4 M = some r9 → gx_G κ Γ 5 [(0, .ref (gx_a κ 57)), (1, .int v1), (2, .long w2), (4, .int v4)] [] M := by
    intro n
    induction n with
    | zero => intro w2 v4 h; exact gx_loop_0 h
    | succ n ih => intro w2 v4 h; exact K5 (fun w2 v4 => f_X8_others_l5 v1 n w2 v4 M) ih w2 v4 h
  have h := hf
  refine gx_lconst (v := (1 : Int64)) Cx eX8_others_0 (by decide) ?_
  refine gx_lstore_n Cx eX8_others_1 [(2, .long (1 : Int64)), (0, .ref (gx_a κ 57)), (1, .int v1)] rfl (by decide) ?_
  refine gx_iconst (v := (0 : Int32)) Cx eX8_others_2 (by decide) ?_
  refine gx_istore Cx eX8_others_3 [(4, .int (0 : Int32)), (2, .long (1 : Int64)), (0, .ref (gx_a κ 57)), (1, .int v1)] rfl (by decide) ?_
  refine gx_sub [2, 3, 1, 0] rfl ?_
  exact L5 _ _ _ h
set_option maxHeartbeats 4000000 in
set_option maxRecDepth 100000 in
theorem c_X8_people (κ : gx_K) {v1 : Int32} {v2 : Int32} {v3 : Int32} {M : gx_Mem} {r9 : Int32} {M9 : gx_Mem} (hf : f_X8_people v1 v2 v3 M = some (r9, M9)) : gx_CI κ yX8_people cX8_people 8 (some .int) 2 [.ref (gx_a κ 57), .int v1, .int v2, .int v3] M r9 M9 := by
  refine gx_enterI (d := 2) my_X8_people.1 (by decide) (Nat.le_of_ble_eq_true rfl) (fun Γ Cx hR => ?_)
  change gx_G κ Γ 0 [(0, .ref (gx_a κ 57)), (1, .int v1), (2, .int v2), (3, .int v3)] [] M
  have K58 : ∀  (ag58 : Int32 → gx_Mem → Option (Int32 × gx_Mem)) (hag58 : ∀ (v4 : Int32) (M : gx_Mem), ag58 v4 M = some (r9, M9) → gx_G κ Γ 58 [(0, .ref (gx_a κ 57)), (1, .int v1), (2, .int v2), (3, .int v3), (4, .int v4)] [] M) (v4 : Int32) (M : gx_Mem), f_X8_people_k58 v1 v2 v3 ag58 v4 M = some (r9, M9) → gx_G κ Γ 58 [(0, .ref (gx_a κ 57)), (1, .int v1), (2, .int v2), (3, .int v3), (4, .int v4)] [] M := by
    intro ag58 hag58
    intro v4 M h
    refine gx_iload Cx eX8_people_58 4 rfl ?_
    refine gx_iload_n Cx eX8_people_60 3 rfl ?_
    refine gx_icmp_ge (tgt := 184) Cx eX8_people_61 (by decide) h (fun h => ?_) (fun h => ?_)
    · refine gx_iload_n Cx eX8_people_184 3 rfl ?_
      exact gx_rI h rfl eX8_people_185 hR
    · refine gx_iload_n Cx eX8_people_64 2 rfl ?_
      refine gx_i2l Cx eX8_people_65 ?_
      refine gx_iconst (v := (2 : Int32)) Cx eX8_people_66 (by decide) ?_
      refine gx_iload Cx eX8_people_67 4 rfl ?_
      refine gx_imul Cx eX8_people_69 ?_
      refine gx_i2l Cx eX8_people_70 ?_
      refine gx_ladd Cx eX8_people_71 ?_
      refine gx_nmJ h (fun x5 h => ?_)
      refine gx_lstore Cx eX8_people_72 [(5, .long x5), (0, .ref (gx_a κ 57)), (1, .int v1), (2, .int v2), (3, .int v3), (4, .int v4)] rfl (by decide) ?_
      refine gx_lload Cx eX8_people_74 0 rfl ?_
      refine gx_lconst (v := (0 : Int64)) Cx eX8_people_76 (by decide) ?_
      refine gx_lcmp Cx eX8_people_77 ?_
      refine gx_if_lt (tgt := 105) Cx eX8_people_78 (by decide) h (fun h => ?_) (fun h => ?_)
      · refine gx_iload Cx eX8_people_105 5 rfl ?_
        exact gx_rI h rfl eX8_people_107 hR
      · refine gx_lload Cx eX8_people_81 0 rfl ?_
        refine gx_lconst (v := (1 : Int64)) Cx eX8_people_83 (by decide) ?_
        refine gx_ladd Cx eX8_people_84 ?_
        refine gx_aload_n Cx eX8_people_85 1 rfl ?_
        refine gfX8_119 Cx eX8_people_86 ?_
        refine gx_iload_n Cx eX8_people_89 2 rfl ?_
        refine gx_iald Cx gx_y93 eX8_people_90 h (fun h => ?_)
        refine gx_i2l Cx eX8_people_91 ?_
        refine gx_lcmp Cx eX8_people_92 ?_
        refine gx_if_ge (tgt := 105) Cx eX8_people_93 (by decide) h (fun h => ?_) (fun h => ?_)
        · refine gx_iload Cx eX8_people_105 5 rfl ?_
          exact gx_rI h rfl eX8_people_107 hR
        · refine gx_aload_n Cx eX8_people_96 1 rfl ?_
          refine gfX8_133 Cx eX8_people_97 ?_
          refine gx_bipush (v := (6 : Int32)) Cx eX8_people_100 (by decide) ?_
          refine gx_icmp_ne (tgt := 108) Cx eX8_people_102 (by decide) h (fun h => ?_) (fun h => ?_)
          · refine gx_bipush (v := (60 : Int32)) Cx eX8_people_108 (by decide) ?_
            refine gx_iload_n Cx eX8_people_110 2 rfl ?_
            refine gx_imul Cx eX8_people_111 ?_
            refine gx_lload Cx eX8_people_112 0 rfl ?_
            refine gx_l2i Cx eX8_people_114 ?_
            refine gx_iadd Cx eX8_people_115 ?_
            refine gx_nmI h (fun x6 h => ?_)
            refine gx_istore Cx eX8_people_116 [(7, .int x6), (5, .long x5), (0, .ref (gx_a κ 57)), (1, .int v1), (2, .int v2), (3, .int v3), (4, .int v4)] rfl (by decide) ?_
            refine gx_aload_n Cx eX8_people_118 2 rfl ?_
            refine gfX8_122 Cx eX8_people_119 ?_
            refine gx_iload Cx eX8_people_122 0 rfl ?_
            refine gx_lald Cx gx_y94 eX8_people_124 h (fun h => ?_)
            refine gx_l2i Cx eX8_people_125 ?_
            obtain ⟨y8, h7, h⟩ := gx_bP_of h
            refine gx_callSI Cx my_X8_isFlat wlX8_147 (by decide) rfl eX8_people_126 (c_X8_isFlat κ h7) rfl (Nat.le_of_ble_eq_true rfl) ?_
            refine gx_if_eq (tgt := 152) Cx eX8_people_129 (by decide) h (fun h => ?_) (fun h => ?_)
            · refine gx_iload Cx eX8_people_152 6 rfl ?_
              exact gx_rI h rfl eX8_people_154 hR
            · refine gx_aload_n Cx eX8_people_132 2 rfl ?_
              refine gfX8_122 Cx eX8_people_133 ?_
              refine gx_iload Cx eX8_people_136 0 rfl ?_
              refine gx_iconst (v := (1 : Int32)) Cx eX8_people_138 (by decide) ?_
              refine gx_iadd Cx eX8_people_139 ?_
              refine gx_lald Cx gx_y94 eX8_people_140 h (fun h => ?_)
              refine gx_l2i Cx eX8_people_141 ?_
              refine gx_iconst (v := (0 : Int32)) Cx eX8_people_142 (by decide) ?_
              refine gx_sipush (v := (4095 : Int32)) Cx eX8_people_143 (by decide) ?_
              obtain ⟨y10, h9, h⟩ := gx_bP_of h
              refine gx_callSI Cx my_X8_in wlX8_136 (by decide) rfl eX8_people_146 (c_X8_in κ h9) rfl (Nat.le_of_ble_eq_true rfl) ?_
              refine gx_if_ne (tgt := 155) Cx eX8_people_149 (by decide) h (fun h => ?_) (fun h => ?_)
              · refine gx_aload_n Cx eX8_people_155 2 rfl ?_
                refine gx_aload_n Cx eX8_people_156 2 rfl ?_
                refine gfX8_122 Cx eX8_people_157 ?_
                refine gx_iload Cx eX8_people_160 0 rfl ?_
                refine gx_lald Cx gx_y94 eX8_people_162 h (fun h => ?_)
                refine gx_l2i Cx eX8_people_163 ?_
                refine gx_aload_n Cx eX8_people_164 2 rfl ?_
                refine gfX8_122 Cx eX8_people_165 ?_
                refine gx_iload Cx eX8_people_168 0 rfl ?_
                refine gx_iconst (v := (1 : Int32)) Cx eX8_people_170 (by decide) ?_
                refine gx_iadd Cx eX8_people_171 ?_
                refine gx_lald Cx gx_y94 eX8_people_172 h (fun h => ?_)
                refine gx_l2i Cx eX8_people_173 ?_
                obtain ⟨y12, M13, h11, h⟩ := gx_bI_of h
                refine gx_callVI (ci := 8) Cx my_X8_addOne wlX8_150 rfl gx_y57 (by decide) rfl eX8_people_174 (c_X8_addOne κ h11) rfl (Nat.le_of_ble_eq_true rfl) ?_
                refine gx_pop Cx eX8_people_177 rfl ?_
                refine gx_iinc (v := (1 : Int32)) (i := 4) (j := 6) Cx eX8_people_178 (by decide) h 6 rfl (fun w => [(4, .int w), (7, .int x6), (5, .long x5), (0, .ref (gx_a κ 57)), (1, .int v1), (2, .int v2), (3, .int v3)]) (fun _ => rfl) (by decide) (fun x14 h => ?_)
                refine gx_goto (tgt := 58) Cx eX8_people_181 (by decide) ?_
                refine gx_sub [3, 4, 5, 6, 0] rfl ?_
                exact hag58 _ _ h
              · refine gx_iload Cx eX8_people_152 6 rfl ?_
                exact gx_rI h rfl eX8_people_154 hR
          · refine gx_iload Cx eX8_people_105 5 rfl ?_
            exact gx_rI h rfl eX8_people_107 hR
  have L58 : ∀  (n : Nat) (v4 : Int32) (M : gx_Mem), f_X8_people_l58 v1 v2 v3 n v4 M = some (r9, M9) → gx_G κ Γ 58 [(0, .ref (gx_a κ 57)), (1, .int v1), (2, .int v2), (3, .int v3), (4, .int v4)] [] M := by
    intro n
    induction n with
    | zero => intro v4 M h; exact gx_loop_0 h
    | succ n ih => intro v4 M h; exact K58 (fun v4 M => f_X8_people_l58 v1 v2 v3 n v4 M) ih v4 M h
  have B43 : ∀  (M : gx_Mem), f_X8_people_b43 v1 v2 v3 M = some (r9, M9) → gx_G κ Γ 43 [(0, .ref (gx_a κ 57)), (1, .int v1), (2, .int v2), (3, .int v3)] [] M := by
    intro M h
    refine gx_aload_n Cx eX8_people_43 0 rfl ?_
    refine gfX8_116 Cx eX8_people_44 ?_
    refine gx_iload_n Cx eX8_people_47 1 rfl ?_
    refine gx_iald Cx gx_y92 eX8_people_48 h (fun h => ?_)
    refine gx_iconst (v := (-1 : Int32)) Cx eX8_people_49 (by decide) ?_
    refine gx_icmp_ne (tgt := 55) Cx eX8_people_50 (by decide) h (fun h => ?_) (fun h => ?_)
    · refine gx_iconst (v := (0 : Int32)) Cx eX8_people_55 (by decide) ?_
      refine gx_istore Cx eX8_people_56 [(4, .int (0 : Int32)), (0, .ref (gx_a κ 57)), (1, .int v1), (2, .int v2), (3, .int v3)] rfl (by decide) ?_
      refine gx_sub [1, 2, 3, 4, 0] rfl ?_
      exact L58 _ _ _ h
    · refine gx_iconst (v := (0 : Int32)) Cx eX8_people_53 (by decide) ?_
      exact gx_rI h rfl eX8_people_54 hR
  have h := hf
  refine gx_iload_n Cx eX8_people_0 1 rfl ?_
  obtain ⟨y2, h1, h⟩ := gx_bP_of h
  refine gx_callSI Cx my_X8_isShelf wlX8_154 (by decide) rfl eX8_people_1 (c_X8_isShelf κ h1) rfl (Nat.le_of_ble_eq_true rfl) ?_
  refine gx_if_eq (tgt := 17) Cx eX8_people_4 (by decide) h (fun h => ?_) (fun h => ?_)
  · refine gx_iconst (v := (-1 : Int32)) Cx eX8_people_17 (by decide) ?_
    exact gx_rI h rfl eX8_people_18 hR
  · refine gx_iload_n Cx eX8_people_7 3 rfl ?_
    refine gx_iconst (v := (1 : Int32)) Cx eX8_people_8 (by decide) ?_
    refine gx_bipush (v := (6 : Int32)) Cx eX8_people_9 (by decide) ?_
    obtain ⟨y4, h3, h⟩ := gx_bP_of h
    refine gx_callSI Cx my_X8_in wlX8_136 (by decide) rfl eX8_people_11 (c_X8_in κ h3) rfl (Nat.le_of_ble_eq_true rfl) ?_
    refine gx_if_ne (tgt := 19) Cx eX8_people_14 (by decide) h (fun h => ?_) (fun h => ?_)
    · refine gx_aload_n Cx eX8_people_19 0 rfl ?_
      refine gfX8_116 Cx eX8_people_20 ?_
      refine gx_iload_n Cx eX8_people_23 1 rfl ?_
      refine gx_iald Cx gx_y92 eX8_people_24 h (fun h => ?_)
      refine gx_iconst (v := (-1 : Int32)) Cx eX8_people_25 (by decide) ?_
      refine gx_icmp_eq (tgt := 43) Cx eX8_people_26 (by decide) h (fun h => ?_) (fun h => ?_)
      · exact B43 _ h
      · refine gx_aload_n Cx eX8_people_29 0 rfl ?_
        refine gfX8_116 Cx eX8_people_30 ?_
        refine gx_iload_n Cx eX8_people_33 1 rfl ?_
        refine gx_iald Cx gx_y92 eX8_people_34 h (fun h => ?_)
        refine gx_bipush (v := (-3 : Int32)) Cx eX8_people_35 (by decide) ?_
        refine gx_icmp_eq (tgt := 43) Cx eX8_people_37 (by decide) h (fun h => ?_) (fun h => ?_)
        · exact B43 _ h
        · refine gx_bipush (v := (-12 : Int32)) Cx eX8_people_40 (by decide) ?_
          exact gx_rI h rfl eX8_people_42 hR
    · refine gx_iconst (v := (-1 : Int32)) Cx eX8_people_17 (by decide) ?_
      exact gx_rI h rfl eX8_people_18 hR
set_option maxHeartbeats 4000000 in
set_option maxRecDepth 100000 in
theorem c_X8_person (κ : gx_K) {v1 : Int32} {v2 : Int32} {M : gx_Mem} {r9 : Int32} {M9 : gx_Mem} (hf : f_X8_person v1 v2 M = some (r9, M9)) : gx_CI κ yX8_person cX8_person 3 (some .int) 2 [.ref (gx_a κ 57), .int v1, .int v2] M r9 M9 := by
  refine gx_enterI (d := 2) my_X8_person.1 (by decide) (Nat.le_of_ble_eq_true rfl) (fun Γ Cx hR => ?_)
  change gx_G κ Γ 0 [(0, .ref (gx_a κ 57)), (1, .int v1), (2, .int v2)] [] M
  have h := hf
  refine gx_iload_n Cx eX8_person_0 1 rfl ?_
  obtain ⟨y2, h1, h⟩ := gx_bP_of h
  refine gx_callSI Cx my_X8_isFlat wlX8_147 (by decide) rfl eX8_person_1 (c_X8_isFlat κ h1) rfl (Nat.le_of_ble_eq_true rfl) ?_
  refine gx_if_eq (tgt := 18) Cx eX8_person_4 (by decide) h (fun h => ?_) (fun h => ?_)
  · refine gx_iconst (v := (-1 : Int32)) Cx eX8_person_18 (by decide) ?_
    exact gx_rI h rfl eX8_person_19 hR
  · refine gx_iload_n Cx eX8_person_7 2 rfl ?_
    refine gx_iconst (v := (0 : Int32)) Cx eX8_person_8 (by decide) ?_
    refine gx_sipush (v := (4095 : Int32)) Cx eX8_person_9 (by decide) ?_
    obtain ⟨y4, h3, h⟩ := gx_bP_of h
    refine gx_callSI Cx my_X8_in wlX8_136 (by decide) rfl eX8_person_12 (c_X8_in κ h3) rfl (Nat.le_of_ble_eq_true rfl) ?_
    refine gx_if_ne (tgt := 20) Cx eX8_person_15 (by decide) h (fun h => ?_) (fun h => ?_)
    · refine gx_aload_n Cx eX8_person_20 0 rfl ?_
      refine gfX8_133 Cx eX8_person_21 ?_
      refine gx_bipush (v := (6 : Int32)) Cx eX8_person_24 (by decide) ?_
      refine gx_icmp_ne (tgt := 34) Cx eX8_person_26 (by decide) h (fun h => ?_) (fun h => ?_)
      · refine gx_aload_n Cx eX8_person_34 0 rfl ?_
        refine gx_iload_n Cx eX8_person_35 1 rfl ?_
        refine gx_iload_n Cx eX8_person_36 2 rfl ?_
        obtain ⟨y6, M7, h5, h⟩ := gx_bI_of h
        refine gx_callVI (ci := 8) Cx my_X8_addOne wlX8_150 rfl gx_y57 (by decide) rfl eX8_person_37 (c_X8_addOne κ h5) rfl (Nat.le_of_ble_eq_true rfl) ?_
        exact gx_rI h rfl eX8_person_40 hR
      · refine gx_bipush (v := (-3 : Int32)) Cx eX8_person_29 (by decide) ?_
        refine gx_goto (tgt := 40) Cx eX8_person_31 (by decide) ?_
        exact gx_rI h rfl eX8_person_40 hR
    · refine gx_iconst (v := (-1 : Int32)) Cx eX8_person_18 (by decide) ?_
      exact gx_rI h rfl eX8_person_19 hR
set_option maxHeartbeats 4000000 in
set_option maxRecDepth 100000 in
theorem c_X8_porter (κ : gx_K) {v1 : Int32} {v2 : Int32} {M : gx_Mem} {r9 : Int32} {M9 : gx_Mem} (hf : f_X8_porter v1 v2 M = some (r9, M9)) : gx_CI κ yX8_porter cX8_porter 3 (some .int) 5 [.ref (gx_a κ 57), .int v1, .int v2] M r9 M9 := by
  refine gx_enterI (d := 5) my_X8_porter.1 (by decide) (Nat.le_of_ble_eq_true rfl) (fun Γ Cx hR => ?_)
  change gx_G κ Γ 0 [(0, .ref (gx_a κ 57)), (1, .int v1), (2, .int v2)] [] M
  have h := hf
  refine gx_iload_n Cx eX8_porter_0 1 rfl ?_
  obtain ⟨y2, h1, h⟩ := gx_bP_of h
  refine gx_callSI Cx my_X8_isHour wlX8_173 (by decide) rfl eX8_porter_1 (c_X8_isHour κ h1) rfl (Nat.le_of_ble_eq_true rfl) ?_
  refine gx_if_eq (tgt := 14) Cx eX8_porter_4 (by decide) h (fun h => ?_) (fun h => ?_)
  · refine gx_iconst (v := (-1 : Int32)) Cx eX8_porter_14 (by decide) ?_
    exact gx_rI h rfl eX8_porter_15 hR
  · refine gx_iload_n Cx eX8_porter_7 2 rfl ?_
    obtain ⟨y4, h3, h⟩ := gx_bP_of h
    refine gx_callSI Cx my_X8_isMark wlX8_144 (by decide) rfl eX8_porter_8 (c_X8_isMark κ h3) rfl (Nat.le_of_ble_eq_true rfl) ?_
    refine gx_if_ne (tgt := 16) Cx eX8_porter_11 (by decide) h (fun h => ?_) (fun h => ?_)
    · refine gx_aload_n Cx eX8_porter_16 0 rfl ?_
      obtain ⟨M6, h5, h⟩ := gx_bP_of h
      refine gx_callVV (ci := 8) Cx my_X8_layNow wlX8_290 rfl gx_y57 (by decide) rfl eX8_porter_17 (c_X8_layNow κ h5) rfl (Nat.le_of_ble_eq_true rfl) ?_
      refine gx_aload_n Cx eX8_porter_20 0 rfl ?_
      refine gx_aload_n Cx eX8_porter_21 0 rfl ?_
      refine gx_iload_n Cx eX8_porter_22 1 rfl ?_
      refine gx_bipush (v := (63 : Int32)) Cx eX8_porter_23 (by decide) ?_
      obtain ⟨y8, h7, h⟩ := gx_bP_of h
      refine gx_callVI (ci := 8) Cx my_X8_outAt wlX8_284 rfl gx_y57 (by decide) rfl eX8_porter_25 (c_X8_outAt κ h7) rfl (Nat.le_of_ble_eq_true rfl) ?_
      refine pfX8_267 Cx eX8_porter_28 h (fun M9 h => ?_)
      refine gx_aload_n Cx eX8_porter_31 0 rfl ?_
      refine gx_iload_n Cx eX8_porter_32 2 rfl ?_
      obtain ⟨M11, h10, h⟩ := gx_bP_of h
      refine gx_callVV (ci := 8) Cx my_X8_flow wlX8_274 rfl gx_y57 (by decide) rfl eX8_porter_33 (c_X8_flow κ h10) rfl (Nat.le_of_ble_eq_true rfl) ?_
      refine gx_aload_n Cx eX8_porter_36 0 rfl ?_
      refine gx_iload_n Cx eX8_porter_37 2 rfl ?_
      obtain ⟨y13, h12, h⟩ := gx_bP_of h
      refine gx_callVI (ci := 8) Cx my_X8_toPorter wlX8_278 rfl gx_y57 (by decide) rfl eX8_porter_38 (c_X8_toPorter κ h12) rfl (Nat.le_of_ble_eq_true rfl) ?_
      exact gx_rI h rfl eX8_porter_41 hR
    · refine gx_iconst (v := (-1 : Int32)) Cx eX8_porter_14 (by decide) ?_
      exact gx_rI h rfl eX8_porter_15 hR
set_option maxHeartbeats 4000000 in
set_option maxRecDepth 100000 in
theorem c_X8_put (κ : gx_K) {v1 : Int32} {v2 : Int32} {w3 : Int64} {M : gx_Mem} {r9 : Int32} {M9 : gx_Mem} (hf : f_X8_put v1 v2 w3 M = some (r9, M9)) : gx_CI κ yX8_put cX8_put 7 (some .int) 3 [.ref (gx_a κ 57), .int v1, .int v2, .long w3] M r9 M9 := by
  refine gx_enterI (d := 3) my_X8_put.1 (by decide) (Nat.le_of_ble_eq_true rfl) (fun Γ Cx hR => ?_)
  change gx_G κ Γ 0 [(0, .ref (gx_a κ 57)), (1, .int v1), (2, .int v2), (3, .long w3)] [] M
  have B95 : ∀ (s1 : Int32) (s2 : Int64) (M : gx_Mem), f_X8_put_b95 s1 s2 M = some (r9, M9) → gx_G κ Γ 95 [] [.long s2, .int s1, .ref (gx_a κ 94)] M := by
    intro s1 s2 M h
    refine gx_last Cx gx_y94 eX8_put_95 h (fun M4 h => ?_)
    refine gx_iconst (v := (1 : Int32)) Cx eX8_put_96 (by decide) ?_
    exact gx_rI h rfl eX8_put_97 hR
  have h := hf
  refine gx_aload_n Cx eX8_put_0 0 rfl ?_
  refine gx_iload_n Cx eX8_put_1 1 rfl ?_
  refine gx_iload_n Cx eX8_put_2 2 rfl ?_
  obtain ⟨y2, h1, h⟩ := gx_bP_of h
  refine gx_callVI (ci := 8) Cx my_X8_whyNoPlace wlX8_424 rfl gx_y57 (by decide) rfl eX8_put_3 (c_X8_whyNoPlace κ h1) rfl (Nat.le_of_ble_eq_true rfl) ?_
  refine gx_istore Cx eX8_put_6 [(5, .int y2), (0, .ref (gx_a κ 57)), (1, .int v1), (2, .int v2), (3, .long w3)] rfl (by decide) ?_
  refine gx_iload Cx eX8_put_8 0 rfl ?_
  refine gx_if_ge (tgt := 16) Cx eX8_put_10 (by decide) h (fun h => ?_) (fun h => ?_)
  · refine gx_bipush (v := (-2 : Int32)) Cx eX8_put_16 (by decide) ?_
    refine gx_aload_n Cx eX8_put_18 1 rfl ?_
    refine gfX8_116 Cx eX8_put_19 ?_
    refine gx_iload_n Cx eX8_put_22 2 rfl ?_
    refine gx_iald Cx gx_y92 eX8_put_23 h (fun h => ?_)
    refine gx_isub Cx eX8_put_24 ?_
    refine gx_nmI h (fun x3 h => ?_)
    refine gx_istore Cx eX8_put_25 [(6, .int x3), (5, .int y2), (0, .ref (gx_a κ 57)), (1, .int v1), (2, .int v2), (3, .long w3)] rfl (by decide) ?_
    refine gx_aload_n Cx eX8_put_27 2 rfl ?_
    refine gfX8_122 Cx eX8_put_28 ?_
    refine gx_bipush (v := (60 : Int32)) Cx eX8_put_31 (by decide) ?_
    refine gx_iload_n Cx eX8_put_33 3 rfl ?_
    refine gx_imul Cx eX8_put_34 ?_
    refine gx_iload_n Cx eX8_put_35 4 rfl ?_
    refine gx_iadd Cx eX8_put_36 ?_
    refine gx_iload Cx eX8_put_37 0 rfl ?_
    refine gx_if_ne (tgt := 49) Cx eX8_put_39 (by decide) h (fun h => ?_) (fun h => ?_)
    · refine gx_iload Cx eX8_put_49 0 rfl ?_
      refine gx_iconst (v := (1 : Int32)) Cx eX8_put_51 (by decide) ?_
      refine gx_icmp_ne (tgt := 62) Cx eX8_put_52 (by decide) h (fun h => ?_) (fun h => ?_)
      · refine gx_iload Cx eX8_put_62 0 rfl ?_
        refine gx_iconst (v := (2 : Int32)) Cx eX8_put_64 (by decide) ?_
        refine gx_icmp_ne (tgt := 74) Cx eX8_put_65 (by decide) h (fun h => ?_) (fun h => ?_)
        · refine gx_iload Cx eX8_put_74 0 rfl ?_
          refine gx_iconst (v := (3 : Int32)) Cx eX8_put_76 (by decide) ?_
          refine gx_icmp_ne (tgt := 84) Cx eX8_put_77 (by decide) h (fun h => ?_) (fun h => ?_)
          · refine gx_lload_n Cx eX8_put_84 5 rfl ?_
            refine gx_lconst (v := (0 : Int64)) Cx eX8_put_85 (by decide) ?_
            refine gx_lcmp Cx eX8_put_86 ?_
            refine gx_if_eq (tgt := 94) Cx eX8_put_87 (by decide) h (fun h => ?_) (fun h => ?_)
            · refine gx_lconst (v := (0 : Int64)) Cx eX8_put_94 (by decide) ?_
              refine gx_sub [] rfl ?_
              exact B95 _ _ _ h
            · refine gx_lconst (v := (1 : Int64)) Cx eX8_put_90 (by decide) ?_
              refine gx_goto (tgt := 95) Cx eX8_put_91 (by decide) ?_
              refine gx_sub [] rfl ?_
              exact B95 _ _ _ h
          · refine gx_lload_n Cx eX8_put_80 5 rfl ?_
            refine gx_goto (tgt := 95) Cx eX8_put_81 (by decide) ?_
            refine gx_sub [] rfl ?_
            exact B95 _ _ _ h
        · refine gx_lload_n Cx eX8_put_68 5 rfl ?_
          refine gx_l2i Cx eX8_put_69 ?_
          refine gx_i2l Cx eX8_put_70 ?_
          refine gx_goto (tgt := 95) Cx eX8_put_71 (by decide) ?_
          refine gx_sub [] rfl ?_
          exact B95 _ _ _ h
      · refine gx_lload_n Cx eX8_put_55 5 rfl ?_
        refine gx_l2i Cx eX8_put_56 ?_
        refine gx_i2s Cx eX8_put_57 ?_
        refine gx_i2l Cx eX8_put_58 ?_
        refine gx_goto (tgt := 95) Cx eX8_put_59 (by decide) ?_
        refine gx_sub [] rfl ?_
        exact B95 _ _ _ h
    · refine gx_lload_n Cx eX8_put_42 5 rfl ?_
      refine gx_l2i Cx eX8_put_43 ?_
      refine gx_i2b Cx eX8_put_44 ?_
      refine gx_i2l Cx eX8_put_45 ?_
      refine gx_goto (tgt := 95) Cx eX8_put_46 (by decide) ?_
      refine gx_sub [] rfl ?_
      exact B95 _ _ _ h
  · refine gx_iload Cx eX8_put_13 0 rfl ?_
    exact gx_rI h rfl eX8_put_15 hR
set_option maxHeartbeats 4000000 in
set_option maxRecDepth 100000 in
theorem c_X8_redo (κ : gx_K)  {M : gx_Mem} {r9 : Int32} {M9 : gx_Mem} (hf : f_X8_redo M = some (r9, M9)) : gx_CI κ yX8_redo cX8_redo 1 (some .int) 1 [.ref (gx_a κ 57)] M r9 M9 := by
  refine gx_enterI (d := 1) my_X8_redo.1 (by decide) (Nat.le_of_ble_eq_true rfl) (fun Γ Cx hR => ?_)
  change gx_G κ Γ 0 [(0, .ref (gx_a κ 57))] [] M
  have h := hf
  refine gx_aload_n Cx eX8_redo_0 0 rfl ?_
  refine gfX8_160 Cx eX8_redo_1 ?_
  refine gx_if_ne (tgt := 10) Cx eX8_redo_4 (by decide) h (fun h => ?_) (fun h => ?_)
  · refine gx_aload_n Cx eX8_redo_10 0 rfl ?_
    refine gx_aload_n Cx eX8_redo_11 0 rfl ?_
    refine gfX8_30 Cx eX8_redo_12 ?_
    refine gx_aload_n Cx eX8_redo_15 0 rfl ?_
    refine gfX8_163 Cx eX8_redo_16 ?_
    refine gx_iald Cx gx_y64 eX8_redo_19 h (fun h => ?_)
    refine gx_aload_n Cx eX8_redo_20 0 rfl ?_
    refine gfX8_33 Cx eX8_redo_21 ?_
    refine gx_aload_n Cx eX8_redo_24 0 rfl ?_
    refine gfX8_163 Cx eX8_redo_25 ?_
    refine gx_iald Cx gx_y65 eX8_redo_28 h (fun h => ?_)
    refine gx_aload_n Cx eX8_redo_29 0 rfl ?_
    refine gfX8_39 Cx eX8_redo_30 ?_
    refine gx_aload_n Cx eX8_redo_33 0 rfl ?_
    refine gfX8_163 Cx eX8_redo_34 ?_
    refine gx_iald Cx gx_y67 eX8_redo_37 h (fun h => ?_)
    obtain ⟨M2, h1, h⟩ := gx_bP_of h
    refine gx_callVV (ci := 8) Cx my_X8_lays wlX8_166 rfl gx_y57 (by decide) rfl eX8_redo_38 (c_X8_lays κ h1) rfl (Nat.le_of_ble_eq_true rfl) ?_
    refine gx_aload_n Cx eX8_redo_41 0 rfl ?_
    refine gx_dup Cx eX8_redo_42 rfl ?_
    refine gfX8_163 Cx eX8_redo_43 ?_
    refine gx_iconst (v := (1 : Int32)) Cx eX8_redo_46 (by decide) ?_
    refine gx_iadd Cx eX8_redo_47 ?_
    refine pfX8_163 Cx eX8_redo_48 h (fun M3 h => ?_)
    refine gx_aload_n Cx eX8_redo_51 0 rfl ?_
    refine gx_dup Cx eX8_redo_52 rfl ?_
    refine gfX8_160 Cx eX8_redo_53 ?_
    refine gx_iconst (v := (1 : Int32)) Cx eX8_redo_56 (by decide) ?_
    refine gx_isub Cx eX8_redo_57 ?_
    refine pfX8_160 Cx eX8_redo_58 h (fun M4 h => ?_)
    refine gx_aload_n Cx eX8_redo_61 0 rfl ?_
    refine gfX8_160 Cx eX8_redo_62 ?_
    exact gx_rI h rfl eX8_redo_65 hR
  · refine gx_bipush (v := (-5 : Int32)) Cx eX8_redo_7 (by decide) ?_
    exact gx_rI h rfl eX8_redo_9 hR
set_option maxHeartbeats 4000000 in
set_option maxRecDepth 100000 in
theorem c_X8_rent (κ : gx_K) {v1 : Int32} {v2 : Int32} {M : gx_Mem} {r9 : Int32} {M9 : gx_Mem} (hf : f_X8_rent v1 v2 M = some (r9, M9)) : gx_CI κ yX8_rent cX8_rent 6 (some .int) 6 [.ref (gx_a κ 57), .int v1, .int v2] M r9 M9 := by
  refine gx_enterI (d := 6) my_X8_rent.1 (by decide) (Nat.le_of_ble_eq_true rfl) (fun Γ Cx hR => ?_)
  change gx_G κ Γ 0 [(0, .ref (gx_a κ 57)), (1, .int v1), (2, .int v2)] [] M
  have K30 : ∀  (ag30 : Int64 → Int32 → gx_Mem → Option (Int32 × gx_Mem)) (hag30 : ∀ (w3 : Int64) (v5 : Int32) (M : gx_Mem), ag30 w3 v5 M = some (r9, M9) → gx_G κ Γ 30 [(0, .ref (gx_a κ 57)), (1, .int v1), (2, .int v2), (3, .long w3), (5, .int v5)] [] M) (w3 : Int64) (v5 : Int32) (M : gx_Mem), f_X8_rent_k30 v1 v2 ag30 w3 v5 M = some (r9, M9) → gx_G κ Γ 30 [(0, .ref (gx_a κ 57)), (1, .int v1), (2, .int v2), (3, .long w3), (5, .int v5)] [] M := by
    intro ag30 hag30
    intro w3 v5 M h
    refine gx_iload Cx eX8_rent_30 4 rfl ?_
    refine gx_aload_n Cx eX8_rent_32 0 rfl ?_
    refine gfX8_133 Cx eX8_rent_33 ?_
    refine gx_icmp_ge (tgt := 54) Cx eX8_rent_36 (by decide) h (fun h => ?_) (fun h => ?_)
    · refine gx_iload_n Cx eX8_rent_54 2 rfl ?_
      refine gx_i2l Cx eX8_rent_55 ?_
      refine gx_aload_n Cx eX8_rent_56 0 rfl ?_
      refine gx_iload_n Cx eX8_rent_57 1 rfl ?_
      obtain ⟨y8, h7, h⟩ := gx_bP_of h
      refine gx_callVJ (ci := 8) Cx my_X8_others wlX8_330 rfl gx_y57 (by decide) rfl eX8_rent_58 (c_X8_others κ h7) rfl (Nat.le_of_ble_eq_true rfl) ?_
      refine gx_lmul Cx eX8_rent_61 ?_
      refine gx_lload_n Cx eX8_rent_62 3 rfl ?_
      refine gx_ldiv Cx eX8_rent_63 h (fun h => ?_)
      refine gx_l2i Cx eX8_rent_64 ?_
      exact gx_rI h rfl eX8_rent_65 hR
    · refine gx_lload_n Cx eX8_rent_39 3 rfl ?_
      refine gx_aload_n Cx eX8_rent_40 0 rfl ?_
      refine gx_iload Cx eX8_rent_41 4 rfl ?_
      obtain ⟨y10, h9, h⟩ := gx_bP_of h
      refine gx_callVJ (ci := 8) Cx my_X8_others wlX8_330 rfl gx_y57 (by decide) rfl eX8_rent_43 (c_X8_others κ h9) rfl (Nat.le_of_ble_eq_true rfl) ?_
      refine gx_ladd Cx eX8_rent_46 ?_
      refine gx_nmJ h (fun x11 h => ?_)
      refine gx_lstore_n Cx eX8_rent_47 [(3, .long x11), (0, .ref (gx_a κ 57)), (1, .int v1), (2, .int v2), (5, .int v5)] rfl (by decide) ?_
      refine gx_iinc (v := (1 : Int32)) (i := 5) (j := 4) Cx eX8_rent_48 (by decide) h 4 rfl (fun w => [(5, .int w), (3, .long x11), (0, .ref (gx_a κ 57)), (1, .int v1), (2, .int v2)]) (fun _ => rfl) (by decide) (fun x12 h => ?_)
      refine gx_goto (tgt := 30) Cx eX8_rent_51 (by decide) ?_
      refine gx_sub [2, 3, 4, 1, 0] rfl ?_
      exact hag30 _ _ _ h
  have L30 : ∀  (n : Nat) (w3 : Int64) (v5 : Int32) (M : gx_Mem), f_X8_rent_l30 v1 v2 n w3 v5 M = some (r9, M9) → gx_G κ Γ 30 [(0, .ref (gx_a κ 57)), (1, .int v1), (2, .int v2), (3, .long w3), (5, .int v5)] [] M := by
    intro n
    induction n with
    | zero => intro w3 v5 M h; exact gx_loop_0 h
    | succ n ih => intro w3 v5 M h; exact K30 (fun w3 v5 M => f_X8_rent_l30 v1 v2 n w3 v5 M) ih w3 v5 M h
  have h := hf
  refine gx_aload_n Cx eX8_rent_0 0 rfl ?_
  refine gx_iload_n Cx eX8_rent_1 1 rfl ?_
  obtain ⟨y2, h1, h⟩ := gx_bP_of h
  refine gx_callVI (ci := 8) Cx my_X8_isOne wlX8_140 rfl gx_y57 (by decide) rfl eX8_rent_2 (c_X8_isOne κ h1) rfl (Nat.le_of_ble_eq_true rfl) ?_
  refine gx_if_eq (tgt := 19) Cx eX8_rent_5 (by decide) h (fun h => ?_) (fun h => ?_)
  · refine gx_iconst (v := (-1 : Int32)) Cx eX8_rent_19 (by decide) ?_
    exact gx_rI h rfl eX8_rent_20 hR
  · refine gx_iload_n Cx eX8_rent_8 2 rfl ?_
    refine gx_iconst (v := (0 : Int32)) Cx eX8_rent_9 (by decide) ?_
    refine gx_sipush (v := (999 : Int32)) Cx eX8_rent_10 (by decide) ?_
    obtain ⟨y4, h3, h⟩ := gx_bP_of h
    refine gx_callSI Cx my_X8_in wlX8_136 (by decide) rfl eX8_rent_13 (c_X8_in κ h3) rfl (Nat.le_of_ble_eq_true rfl) ?_
    refine gx_if_ne (tgt := 21) Cx eX8_rent_16 (by decide) h (fun h => ?_) (fun h => ?_)
    · refine gx_aload_n Cx eX8_rent_21 0 rfl ?_
      obtain ⟨M6, h5, h⟩ := gx_bP_of h
      refine gx_callVV (ci := 8) Cx my_X8_layComes wlX8_327 rfl gx_y57 (by decide) rfl eX8_rent_22 (c_X8_layComes κ h5) rfl (Nat.le_of_ble_eq_true rfl) ?_
      refine gx_lconst (v := (0 : Int64)) Cx eX8_rent_25 (by decide) ?_
      refine gx_lstore_n Cx eX8_rent_26 [(3, .long (0 : Int64)), (0, .ref (gx_a κ 57)), (1, .int v1), (2, .int v2)] rfl (by decide) ?_
      refine gx_iconst (v := (0 : Int32)) Cx eX8_rent_27 (by decide) ?_
      refine gx_istore Cx eX8_rent_28 [(5, .int (0 : Int32)), (3, .long (0 : Int64)), (0, .ref (gx_a κ 57)), (1, .int v1), (2, .int v2)] rfl (by decide) ?_
      refine gx_sub [2, 3, 4, 1, 0] rfl ?_
      exact L30 _ _ _ _ h
    · refine gx_iconst (v := (-1 : Int32)) Cx eX8_rent_19 (by decide) ?_
      exact gx_rI h rfl eX8_rent_20 hR
set_option maxHeartbeats 4000000 in
set_option maxRecDepth 100000 in
theorem c_X8_row (κ : gx_K) {v1 : Int32} {v2 : Int32} {v3 : Int32} {M : gx_Mem} {r9 : Int32} {M9 : gx_Mem} (hf : f_X8_row v1 v2 v3 M = some (r9, M9)) : gx_CI κ yX8_row cX8_row 5 (some .int) 2 [.ref (gx_a κ 57), .int v1, .int v2, .int v3] M r9 M9 := by
  refine gx_enterI (d := 2) my_X8_row.1 (by decide) (Nat.le_of_ble_eq_true rfl) (fun Γ Cx hR => ?_)
  change gx_G κ Γ 0 [(0, .ref (gx_a κ 57)), (1, .int v1), (2, .int v2), (3, .int v3)] [] M
  have K54 : ∀  (ag54 : Int32 → gx_Mem → Option (Int32 × gx_Mem)) (hag54 : ∀ (v4 : Int32) (M : gx_Mem), ag54 v4 M = some (r9, M9) → gx_G κ Γ 54 [(0, .ref (gx_a κ 57)), (1, .int v1), (4, .int v4)] [] M) (v4 : Int32) (M : gx_Mem), f_X8_row_k54 v1 ag54 v4 M = some (r9, M9) → gx_G κ Γ 54 [(0, .ref (gx_a κ 57)), (1, .int v1), (4, .int v4)] [] M := by
    intro ag54 hag54
    intro v4 M h
    refine gx_iload Cx eX8_row_54 2 rfl ?_
    refine gx_bipush (v := (60 : Int32)) Cx eX8_row_56 (by decide) ?_
    refine gx_iload_n Cx eX8_row_58 1 rfl ?_
    refine gx_imul Cx eX8_row_59 ?_
    refine gx_bipush (v := (60 : Int32)) Cx eX8_row_60 (by decide) ?_
    refine gx_iadd Cx eX8_row_62 ?_
    refine gx_icmp_ge (tgt := 80) Cx eX8_row_63 (by decide) h (fun h => ?_) (fun h => ?_)
    · refine gx_iconst (v := (1 : Int32)) Cx eX8_row_80 (by decide) ?_
      exact gx_rI h rfl eX8_row_81 hR
    · refine gx_aload_n Cx eX8_row_66 0 rfl ?_
      refine gfX8_122 Cx eX8_row_67 ?_
      refine gx_iload Cx eX8_row_70 2 rfl ?_
      refine gx_lconst (v := (0 : Int64)) Cx eX8_row_72 (by decide) ?_
      refine gx_last Cx gx_y94 eX8_row_73 h (fun M8 h => ?_)
      refine gx_iinc (v := (1 : Int32)) (i := 4) (j := 2) Cx eX8_row_74 (by decide) h 2 rfl (fun w => [(4, .int w), (0, .ref (gx_a κ 57)), (1, .int v1)]) (fun _ => rfl) (by decide) (fun x9 h => ?_)
      refine gx_goto (tgt := 54) Cx eX8_row_77 (by decide) ?_
      refine gx_sub [1, 2, 0] rfl ?_
      exact hag54 _ _ h
  have L54 : ∀  (n : Nat) (v4 : Int32) (M : gx_Mem), f_X8_row_l54 v1 n v4 M = some (r9, M9) → gx_G κ Γ 54 [(0, .ref (gx_a κ 57)), (1, .int v1), (4, .int v4)] [] M := by
    intro n
    induction n with
    | zero => intro v4 M h; exact gx_loop_0 h
    | succ n ih => intro v4 M h; exact K54 (fun v4 M => f_X8_row_l54 v1 n v4 M) ih v4 M h
  have h := hf
  refine gx_iload_n Cx eX8_row_0 1 rfl ?_
  obtain ⟨y2, h1, h⟩ := gx_bP_of h
  refine gx_callSI Cx my_X8_isShelf wlX8_154 (by decide) rfl eX8_row_1 (c_X8_isShelf κ h1) rfl (Nat.le_of_ble_eq_true rfl) ?_
  refine gx_if_eq (tgt := 22) Cx eX8_row_4 (by decide) h (fun h => ?_) (fun h => ?_)
  · refine gx_iconst (v := (-1 : Int32)) Cx eX8_row_22 (by decide) ?_
    exact gx_rI h rfl eX8_row_23 hR
  · refine gx_iload_n Cx eX8_row_7 2 rfl ?_
    refine gx_iconst (v := (0 : Int32)) Cx eX8_row_8 (by decide) ?_
    refine gx_iconst (v := (4 : Int32)) Cx eX8_row_9 (by decide) ?_
    obtain ⟨y4, h3, h⟩ := gx_bP_of h
    refine gx_callSI Cx my_X8_in wlX8_136 (by decide) rfl eX8_row_10 (c_X8_in κ h3) rfl (Nat.le_of_ble_eq_true rfl) ?_
    refine gx_if_eq (tgt := 22) Cx eX8_row_13 (by decide) h (fun h => ?_) (fun h => ?_)
    · refine gx_iconst (v := (-1 : Int32)) Cx eX8_row_22 (by decide) ?_
      exact gx_rI h rfl eX8_row_23 hR
    · refine gx_iload_n Cx eX8_row_16 3 rfl ?_
      refine gx_bipush (v := (60 : Int32)) Cx eX8_row_17 (by decide) ?_
      refine gx_icmp_le (tgt := 24) Cx eX8_row_19 (by decide) h (fun h => ?_) (fun h => ?_)
      · refine gx_iload_n Cx eX8_row_24 3 rfl ?_
        refine gx_if_ge (tgt := 31) Cx eX8_row_25 (by decide) h (fun h => ?_) (fun h => ?_)
        · refine gx_aload_n Cx eX8_row_31 0 rfl ?_
          refine gfX8_116 Cx eX8_row_32 ?_
          refine gx_iload_n Cx eX8_row_35 1 rfl ?_
          refine gx_bipush (v := (-2 : Int32)) Cx eX8_row_36 (by decide) ?_
          refine gx_iload_n Cx eX8_row_38 2 rfl ?_
          refine gx_isub Cx eX8_row_39 ?_
          refine gx_iast Cx gx_y92 eX8_row_40 h (fun M5 h => ?_)
          refine gx_aload_n Cx eX8_row_41 0 rfl ?_
          refine gfX8_119 Cx eX8_row_42 ?_
          refine gx_iload_n Cx eX8_row_45 1 rfl ?_
          refine gx_iload_n Cx eX8_row_46 3 rfl ?_
          refine gx_iast Cx gx_y93 eX8_row_47 h (fun M6 h => ?_)
          refine gx_bipush (v := (60 : Int32)) Cx eX8_row_48 (by decide) ?_
          refine gx_iload_n Cx eX8_row_50 1 rfl ?_
          refine gx_imul Cx eX8_row_51 ?_
          refine gx_nmI h (fun x7 h => ?_)
          refine gx_istore Cx eX8_row_52 [(4, .int x7), (0, .ref (gx_a κ 57)), (1, .int v1), (2, .int v2), (3, .int v3)] rfl (by decide) ?_
          refine gx_sub [1, 2, 0] rfl ?_
          exact L54 _ _ _ h
        · refine gx_bipush (v := (-14 : Int32)) Cx eX8_row_28 (by decide) ?_
          exact gx_rI h rfl eX8_row_30 hR
      · refine gx_iconst (v := (-1 : Int32)) Cx eX8_row_22 (by decide) ?_
        exact gx_rI h rfl eX8_row_23 hR
set_option maxHeartbeats 4000000 in
set_option maxRecDepth 100000 in
theorem c_X8_rowFault (κ : gx_K) {v1 : Int32} {M : gx_Mem} {r9 : Int32} (hf : f_X8_rowFault v1 M = some r9) : gx_CI κ yX8_rowFault cX8_rowFault 2 (some .int) 0 [.ref (gx_a κ 57), .int v1] M r9 M := by
  refine gx_enterI (d := 0) my_X8_rowFault.1 (by decide) (Nat.le_of_ble_eq_true rfl) (fun Γ Cx hR => ?_)
  change gx_G κ Γ 0 [(0, .ref (gx_a κ 57)), (1, .int v1)] [] M
  have h := hf
  refine gx_aload_n Cx eX8_rowFault_0 0 rfl ?_
  refine gfX8_116 Cx eX8_rowFault_1 ?_
  refine gx_iload_n Cx eX8_rowFault_4 1 rfl ?_
  refine gx_iald Cx gx_y92 eX8_rowFault_5 h (fun h => ?_)
  refine gx_iconst (v := (-1 : Int32)) Cx eX8_rowFault_6 (by decide) ?_
  refine gx_icmp_ne (tgt := 15) Cx eX8_rowFault_7 (by decide) h (fun h => ?_) (fun h => ?_)
  · refine gx_aload_n Cx eX8_rowFault_15 0 rfl ?_
    refine gfX8_116 Cx eX8_rowFault_16 ?_
    refine gx_iload_n Cx eX8_rowFault_19 1 rfl ?_
    refine gx_iald Cx gx_y92 eX8_rowFault_20 h (fun h => ?_)
    refine gx_bipush (v := (-2 : Int32)) Cx eX8_rowFault_21 (by decide) ?_
    refine gx_icmp_ne (tgt := 44) Cx eX8_rowFault_23 (by decide) h (fun h => ?_) (fun h => ?_)
    · refine gx_bipush (v := (-12 : Int32)) Cx eX8_rowFault_44 (by decide) ?_
      exact gx_rIp h rfl eX8_rowFault_46 hR
    · refine gx_aload_n Cx eX8_rowFault_26 0 rfl ?_
      refine gfX8_119 Cx eX8_rowFault_27 ?_
      refine gx_iload_n Cx eX8_rowFault_30 1 rfl ?_
      refine gx_iald Cx gx_y93 eX8_rowFault_31 h (fun h => ?_)
      refine gx_iconst (v := (4 : Int32)) Cx eX8_rowFault_32 (by decide) ?_
      refine gx_icmp_ne (tgt := 40) Cx eX8_rowFault_33 (by decide) h (fun h => ?_) (fun h => ?_)
      · refine gx_iconst (v := (-1 : Int32)) Cx eX8_rowFault_40 (by decide) ?_
        refine gx_goto (tgt := 46) Cx eX8_rowFault_41 (by decide) ?_
        exact gx_rIp h rfl eX8_rowFault_46 hR
      · refine gx_iconst (v := (0 : Int32)) Cx eX8_rowFault_36 (by decide) ?_
        refine gx_goto (tgt := 46) Cx eX8_rowFault_37 (by decide) ?_
        exact gx_rIp h rfl eX8_rowFault_46 hR
  · refine gx_bipush (v := (-11 : Int32)) Cx eX8_rowFault_10 (by decide) ?_
    refine gx_goto (tgt := 46) Cx eX8_rowFault_12 (by decide) ?_
    exact gx_rIp h rfl eX8_rowFault_46 hR
set_option maxHeartbeats 4000000 in
set_option maxRecDepth 100000 in
theorem c_X8_shift (κ : gx_K) {v1 : Int32} {v2 : Int32} {v3 : Int32} {v4 : Int32} {v5 : Int32} {M : gx_Mem} {r9 : Int32} {M9 : gx_Mem} (hf : f_X8_shift v1 v2 v3 v4 v5 M = some (r9, M9)) : gx_CI κ yX8_shift cX8_shift 7 (some .int) 2 [.ref (gx_a κ 57), .int v1, .int v2, .int v3, .int v4, .int v5] M r9 M9 := by
  refine gx_enterI (d := 2) my_X8_shift.1 (by decide) (Nat.le_of_ble_eq_true rfl) (fun Γ Cx hR => ?_)
  change gx_G κ Γ 0 [(0, .ref (gx_a κ 57)), (1, .int v1), (2, .int v2), (3, .int v3), (4, .int v4), (5, .int v5)] [] M
  have K150 : ∀  (ag150 : Int32 → gx_Mem → Option (Int32 × gx_Mem)) (hag150 : ∀ (v6 : Int32) (M : gx_Mem), ag150 v6 M = some (r9, M9) → gx_G κ Γ 150 [(0, .ref (gx_a κ 57)), (3, .int v3), (4, .int v4), (5, .int v5), (6, .int v6)] [] M) (v6 : Int32) (M : gx_Mem), f_X8_shift_k150 v3 v4 v5 ag150 v6 M = some (r9, M9) → gx_G κ Γ 150 [(0, .ref (gx_a κ 57)), (3, .int v3), (4, .int v4), (5, .int v5), (6, .int v6)] [] M := by
    intro ag150 hag150
    intro v6 M h
    refine gx_iload Cx eX8_shift_150 4 rfl ?_
    refine gx_iload Cx eX8_shift_152 3 rfl ?_
    refine gx_icmp_ge (tgt := 185) Cx eX8_shift_154 (by decide) h (fun h => ?_) (fun h => ?_)
    · refine gx_iload Cx eX8_shift_185 3 rfl ?_
      exact gx_rI h rfl eX8_shift_187 hR
    · refine gx_aload_n Cx eX8_shift_157 0 rfl ?_
      refine gfX8_122 Cx eX8_shift_158 ?_
      refine gx_bipush (v := (60 : Int32)) Cx eX8_shift_161 (by decide) ?_
      refine gx_iload_n Cx eX8_shift_163 1 rfl ?_
      refine gx_imul Cx eX8_shift_164 ?_
      refine gx_iload Cx eX8_shift_165 2 rfl ?_
      refine gx_iadd Cx eX8_shift_167 ?_
      refine gx_iload Cx eX8_shift_168 4 rfl ?_
      refine gx_iadd Cx eX8_shift_170 ?_
      refine gx_aload_n Cx eX8_shift_171 0 rfl ?_
      refine gfX8_126 Cx eX8_shift_172 ?_
      refine gx_iload Cx eX8_shift_175 4 rfl ?_
      refine gx_lald Cx gx_y95 eX8_shift_177 h (fun h => ?_)
      refine gx_last Cx gx_y94 eX8_shift_178 h (fun M7 h => ?_)
      refine gx_iinc (v := (1 : Int32)) (i := 6) (j := 4) Cx eX8_shift_179 (by decide) h 4 rfl (fun w => [(6, .int w), (0, .ref (gx_a κ 57)), (3, .int v3), (4, .int v4), (5, .int v5)]) (fun _ => rfl) (by decide) (fun x8 h => ?_)
      refine gx_goto (tgt := 150) Cx eX8_shift_182 (by decide) ?_
      refine gx_sub [1, 2, 3, 4, 0] rfl ?_
      exact hag150 _ _ h
  have L150 : ∀  (n : Nat) (v6 : Int32) (M : gx_Mem), f_X8_shift_l150 v3 v4 v5 n v6 M = some (r9, M9) → gx_G κ Γ 150 [(0, .ref (gx_a κ 57)), (3, .int v3), (4, .int v4), (5, .int v5), (6, .int v6)] [] M := by
    intro n
    induction n with
    | zero => intro v6 M h; exact gx_loop_0 h
    | succ n ih => intro v6 M h; exact K150 (fun v6 M => f_X8_shift_l150 v3 v4 v5 n v6 M) ih v6 M h
  have K113 : ∀  (ag113 : Int32 → gx_Mem → Option (Int32 × gx_Mem)) (hag113 : ∀ (v6 : Int32) (M : gx_Mem), ag113 v6 M = some (r9, M9) → gx_G κ Γ 113 [(0, .ref (gx_a κ 57)), (1, .int v1), (2, .int v2), (3, .int v3), (4, .int v4), (5, .int v5), (6, .int v6)] [] M) (v6 : Int32) (M : gx_Mem), f_X8_shift_k113 v1 v2 v3 v4 v5 ag113 v6 M = some (r9, M9) → gx_G κ Γ 113 [(0, .ref (gx_a κ 57)), (1, .int v1), (2, .int v2), (3, .int v3), (4, .int v4), (5, .int v5), (6, .int v6)] [] M := by
    intro ag113 hag113
    intro v6 M h
    refine gx_iload Cx eX8_shift_113 6 rfl ?_
    refine gx_iload Cx eX8_shift_115 5 rfl ?_
    refine gx_icmp_ge (tgt := 147) Cx eX8_shift_117 (by decide) h (fun h => ?_) (fun h => ?_)
    · refine gx_iconst (v := (0 : Int32)) Cx eX8_shift_147 (by decide) ?_
      refine gx_istore Cx eX8_shift_148 [(6, .int (0 : Int32)), (0, .ref (gx_a κ 57)), (1, .int v1), (2, .int v2), (3, .int v3), (4, .int v4), (5, .int v5)] rfl (by decide) ?_
      refine gx_sub [1, 4, 5, 6, 0] rfl ?_
      exact L150 _ _ _ h
    · refine gx_aload_n Cx eX8_shift_120 0 rfl ?_
      refine gfX8_126 Cx eX8_shift_121 ?_
      refine gx_iload Cx eX8_shift_124 6 rfl ?_
      refine gx_aload_n Cx eX8_shift_126 0 rfl ?_
      refine gfX8_122 Cx eX8_shift_127 ?_
      refine gx_bipush (v := (60 : Int32)) Cx eX8_shift_130 (by decide) ?_
      refine gx_iload_n Cx eX8_shift_132 1 rfl ?_
      refine gx_imul Cx eX8_shift_133 ?_
      refine gx_iload_n Cx eX8_shift_134 2 rfl ?_
      refine gx_iadd Cx eX8_shift_135 ?_
      refine gx_iload Cx eX8_shift_136 6 rfl ?_
      refine gx_iadd Cx eX8_shift_138 ?_
      refine gx_lald Cx gx_y94 eX8_shift_139 h (fun h => ?_)
      refine gx_last Cx gx_y95 eX8_shift_140 h (fun M5 h => ?_)
      refine gx_iinc (v := (1 : Int32)) (i := 6) (j := 6) Cx eX8_shift_141 (by decide) h 6 rfl (fun w => [(6, .int w), (0, .ref (gx_a κ 57)), (1, .int v1), (2, .int v2), (3, .int v3), (4, .int v4), (5, .int v5)]) (fun _ => rfl) (by decide) (fun x6 h => ?_)
      refine gx_goto (tgt := 113) Cx eX8_shift_144 (by decide) ?_
      refine gx_sub [1, 2, 3, 4, 5, 6, 0] rfl ?_
      exact hag113 _ _ h
  have L113 : ∀  (n : Nat) (v6 : Int32) (M : gx_Mem), f_X8_shift_l113 v1 v2 v3 v4 v5 n v6 M = some (r9, M9) → gx_G κ Γ 113 [(0, .ref (gx_a κ 57)), (1, .int v1), (2, .int v2), (3, .int v3), (4, .int v4), (5, .int v5), (6, .int v6)] [] M := by
    intro n
    induction n with
    | zero => intro v6 M h; exact gx_loop_0 h
    | succ n ih => intro v6 M h; exact K113 (fun v6 M => f_X8_shift_l113 v1 v2 v3 v4 v5 n v6 M) ih v6 M h
  have h := hf
  refine gx_iload_n Cx eX8_shift_0 1 rfl ?_
  obtain ⟨y2, h1, h⟩ := gx_bP_of h
  refine gx_callSI Cx my_X8_isShelf wlX8_154 (by decide) rfl eX8_shift_1 (c_X8_isShelf κ h1) rfl (Nat.le_of_ble_eq_true rfl) ?_
  refine gx_if_eq (tgt := 14) Cx eX8_shift_4 (by decide) h (fun h => ?_) (fun h => ?_)
  · refine gx_iconst (v := (-1 : Int32)) Cx eX8_shift_14 (by decide) ?_
    exact gx_rI h rfl eX8_shift_15 hR
  · refine gx_iload_n Cx eX8_shift_7 3 rfl ?_
    obtain ⟨y4, h3, h⟩ := gx_bP_of h
    refine gx_callSI Cx my_X8_isShelf wlX8_154 (by decide) rfl eX8_shift_8 (c_X8_isShelf κ h3) rfl (Nat.le_of_ble_eq_true rfl) ?_
    refine gx_if_ne (tgt := 16) Cx eX8_shift_11 (by decide) h (fun h => ?_) (fun h => ?_)
    · refine gx_aload_n Cx eX8_shift_16 0 rfl ?_
      refine gfX8_116 Cx eX8_shift_17 ?_
      refine gx_iload_n Cx eX8_shift_20 1 rfl ?_
      refine gx_iald Cx gx_y92 eX8_shift_21 h (fun h => ?_)
      refine gx_iconst (v := (-1 : Int32)) Cx eX8_shift_22 (by decide) ?_
      refine gx_icmp_eq (tgt := 36) Cx eX8_shift_23 (by decide) h (fun h => ?_) (fun h => ?_)
      · refine gx_bipush (v := (-11 : Int32)) Cx eX8_shift_36 (by decide) ?_
        exact gx_rI h rfl eX8_shift_38 hR
      · refine gx_aload_n Cx eX8_shift_26 0 rfl ?_
        refine gfX8_116 Cx eX8_shift_27 ?_
        refine gx_iload_n Cx eX8_shift_30 3 rfl ?_
        refine gx_iald Cx gx_y92 eX8_shift_31 h (fun h => ?_)
        refine gx_iconst (v := (-1 : Int32)) Cx eX8_shift_32 (by decide) ?_
        refine gx_icmp_ne (tgt := 39) Cx eX8_shift_33 (by decide) h (fun h => ?_) (fun h => ?_)
        · refine gx_aload_n Cx eX8_shift_39 0 rfl ?_
          refine gfX8_116 Cx eX8_shift_40 ?_
          refine gx_iload_n Cx eX8_shift_43 1 rfl ?_
          refine gx_iald Cx gx_y92 eX8_shift_44 h (fun h => ?_)
          refine gx_if_ge (tgt := 63) Cx eX8_shift_45 (by decide) h (fun h => ?_) (fun h => ?_)
          · refine gx_bipush (v := (-12 : Int32)) Cx eX8_shift_63 (by decide) ?_
            exact gx_rI h rfl eX8_shift_65 hR
          · refine gx_aload_n Cx eX8_shift_48 0 rfl ?_
            refine gfX8_116 Cx eX8_shift_49 ?_
            refine gx_iload_n Cx eX8_shift_52 1 rfl ?_
            refine gx_iald Cx gx_y92 eX8_shift_53 h (fun h => ?_)
            refine gx_aload_n Cx eX8_shift_54 0 rfl ?_
            refine gfX8_116 Cx eX8_shift_55 ?_
            refine gx_iload_n Cx eX8_shift_58 3 rfl ?_
            refine gx_iald Cx gx_y92 eX8_shift_59 h (fun h => ?_)
            refine gx_icmp_eq (tgt := 66) Cx eX8_shift_60 (by decide) h (fun h => ?_) (fun h => ?_)
            · refine gx_iload Cx eX8_shift_66 5 rfl ?_
              refine gx_if_lt (tgt := 107) Cx eX8_shift_68 (by decide) h (fun h => ?_) (fun h => ?_)
              · refine gx_bipush (v := (-13 : Int32)) Cx eX8_shift_107 (by decide) ?_
                exact gx_rI h rfl eX8_shift_109 hR
              · refine gx_iload_n Cx eX8_shift_71 2 rfl ?_
                refine gx_if_lt (tgt := 107) Cx eX8_shift_72 (by decide) h (fun h => ?_) (fun h => ?_)
                · refine gx_bipush (v := (-13 : Int32)) Cx eX8_shift_107 (by decide) ?_
                  exact gx_rI h rfl eX8_shift_109 hR
                · refine gx_iload Cx eX8_shift_75 4 rfl ?_
                  refine gx_if_lt (tgt := 107) Cx eX8_shift_77 (by decide) h (fun h => ?_) (fun h => ?_)
                  · refine gx_bipush (v := (-13 : Int32)) Cx eX8_shift_107 (by decide) ?_
                    exact gx_rI h rfl eX8_shift_109 hR
                  · refine gx_iload_n Cx eX8_shift_80 2 rfl ?_
                    refine gx_aload_n Cx eX8_shift_81 0 rfl ?_
                    refine gfX8_119 Cx eX8_shift_82 ?_
                    refine gx_iload_n Cx eX8_shift_85 1 rfl ?_
                    refine gx_iald Cx gx_y93 eX8_shift_86 h (fun h => ?_)
                    refine gx_iload Cx eX8_shift_87 5 rfl ?_
                    refine gx_isub Cx eX8_shift_89 ?_
                    refine gx_icmp_gt (tgt := 107) Cx eX8_shift_90 (by decide) h (fun h => ?_) (fun h => ?_)
                    · refine gx_bipush (v := (-13 : Int32)) Cx eX8_shift_107 (by decide) ?_
                      exact gx_rI h rfl eX8_shift_109 hR
                    · refine gx_iload Cx eX8_shift_93 4 rfl ?_
                      refine gx_aload_n Cx eX8_shift_95 0 rfl ?_
                      refine gfX8_119 Cx eX8_shift_96 ?_
                      refine gx_iload_n Cx eX8_shift_99 3 rfl ?_
                      refine gx_iald Cx gx_y93 eX8_shift_100 h (fun h => ?_)
                      refine gx_iload Cx eX8_shift_101 5 rfl ?_
                      refine gx_isub Cx eX8_shift_103 ?_
                      refine gx_icmp_le (tgt := 110) Cx eX8_shift_104 (by decide) h (fun h => ?_) (fun h => ?_)
                      · refine gx_iconst (v := (0 : Int32)) Cx eX8_shift_110 (by decide) ?_
                        refine gx_istore Cx eX8_shift_111 [(6, .int (0 : Int32)), (0, .ref (gx_a κ 57)), (1, .int v1), (2, .int v2), (3, .int v3), (4, .int v4), (5, .int v5)] rfl (by decide) ?_
                        refine gx_sub [1, 2, 3, 4, 5, 6, 0] rfl ?_
                        exact L113 _ _ _ h
                      · refine gx_bipush (v := (-13 : Int32)) Cx eX8_shift_107 (by decide) ?_
                        exact gx_rI h rfl eX8_shift_109 hR
            · refine gx_bipush (v := (-12 : Int32)) Cx eX8_shift_63 (by decide) ?_
              exact gx_rI h rfl eX8_shift_65 hR
        · refine gx_bipush (v := (-11 : Int32)) Cx eX8_shift_36 (by decide) ?_
          exact gx_rI h rfl eX8_shift_38 hR
    · refine gx_iconst (v := (-1 : Int32)) Cx eX8_shift_14 (by decide) ?_
      exact gx_rI h rfl eX8_shift_15 hR
set_option maxHeartbeats 4000000 in
set_option maxRecDepth 100000 in
theorem c_X8_swap (κ : gx_K) {v1 : Int32} {M : gx_Mem} {r9 : Int32} {M9 : gx_Mem} (hf : f_X8_swap v1 M = some (r9, M9)) : gx_CI κ yX8_swap cX8_swap 5 (some .int) 7 [.ref (gx_a κ 57), .int v1] M r9 M9 := by
  refine gx_enterI (d := 7) my_X8_swap.1 (by decide) (Nat.le_of_ble_eq_true rfl) (fun Γ Cx hR => ?_)
  change gx_G κ Γ 0 [(0, .ref (gx_a κ 57)), (1, .int v1)] [] M
  have K12 : ∀  (ag12 : Int32 → gx_Mem → Option (Int32 × gx_Mem)) (hag12 : ∀ (v2 : Int32) (M : gx_Mem), ag12 v2 M = some (r9, M9) → gx_G κ Γ 12 [(0, .ref (gx_a κ 57)), (1, .int v1), (2, .int v2)] [] M) (v2 : Int32) (M : gx_Mem), f_X8_swap_k12 v1 ag12 v2 M = some (r9, M9) → gx_G κ Γ 12 [(0, .ref (gx_a κ 57)), (1, .int v1), (2, .int v2)] [] M := by
    intro ag12 hag12
    have B128 : ∀ (v2 : Int32) (M : gx_Mem), f_X8_swap_b128 ag12 v1 v2 M = some (r9, M9) → gx_G κ Γ 128 [(0, .ref (gx_a κ 57)), (1, .int v1), (2, .int v2)] [] M := by
      intro v2 M h
      refine gx_iinc (v := (1 : Int32)) (i := 2) (j := 2) Cx eX8_swap_128 (by decide) h 2 rfl (fun w => [(2, .int w), (0, .ref (gx_a κ 57)), (1, .int v1)]) (fun _ => rfl) (by decide) (fun x25 h => ?_)
      refine gx_goto (tgt := 12) Cx eX8_swap_131 (by decide) ?_
      refine gx_sub [1, 2, 0] rfl ?_
      exact hag12 _ _ h
    intro v2 M h
    refine gx_iload_n Cx eX8_swap_12 2 rfl ?_
    refine gx_aload_n Cx eX8_swap_13 0 rfl ?_
    refine gfX8_133 Cx eX8_swap_14 ?_
    refine gx_icmp_ge (tgt := 134) Cx eX8_swap_17 (by decide) h (fun h => ?_) (fun h => ?_)
    · refine gx_bipush (v := (-2 : Int32)) Cx eX8_swap_134 (by decide) ?_
      exact gx_rI h rfl eX8_swap_136 hR
    · refine gx_iload_n Cx eX8_swap_20 2 rfl ?_
      refine gx_iload_n Cx eX8_swap_21 1 rfl ?_
      refine gx_icmp_ne (tgt := 28) Cx eX8_swap_22 (by decide) h (fun h => ?_) (fun h => ?_)
      · refine gx_aload_n Cx eX8_swap_28 0 rfl ?_
        obtain ⟨M4, h3, h⟩ := gx_bP_of h
        refine gx_callVV (ci := 8) Cx my_X8_layNow wlX8_290 rfl gx_y57 (by decide) rfl eX8_swap_29 (c_X8_layNow κ h3) rfl (Nat.le_of_ble_eq_true rfl) ?_
        refine gx_aload_n Cx eX8_swap_32 0 rfl ?_
        refine gx_bipush (v := (12 : Int32)) Cx eX8_swap_33 (by decide) ?_
        refine gx_bipush (v := (63 : Int32)) Cx eX8_swap_35 (by decide) ?_
        obtain ⟨M6, h5, h⟩ := gx_bP_of h
        refine gx_callVV (ci := 8) Cx my_X8_goHours wlX8_296 rfl gx_y57 (by decide) rfl eX8_swap_37 (c_X8_goHours κ h5) rfl (Nat.le_of_ble_eq_true rfl) ?_
        refine gx_aload_n Cx eX8_swap_40 0 rfl ?_
        refine gx_iload_n Cx eX8_swap_41 1 rfl ?_
        obtain ⟨y8, h7, h⟩ := gx_bP_of h
        refine gx_callVI (ci := 8) Cx my_X8_wetter wlX8_302 rfl gx_y57 (by decide) rfl eX8_swap_42 (c_X8_wetter κ h7) rfl (Nat.le_of_ble_eq_true rfl) ?_
        refine gx_istore_n Cx eX8_swap_45 [(3, .int y8), (0, .ref (gx_a κ 57)), (1, .int v1), (2, .int v2)] rfl (by decide) ?_
        refine gx_aload_n Cx eX8_swap_46 1 rfl ?_
        refine gx_iload_n Cx eX8_swap_47 3 rfl ?_
        obtain ⟨y10, h9, h⟩ := gx_bP_of h
        refine gx_callVI (ci := 8) Cx my_X8_wetter wlX8_302 rfl gx_y57 (by decide) rfl eX8_swap_48 (c_X8_wetter κ h9) rfl (Nat.le_of_ble_eq_true rfl) ?_
        refine gx_istore Cx eX8_swap_51 [(4, .int y10), (3, .int y8), (0, .ref (gx_a κ 57)), (1, .int v1), (2, .int v2)] rfl (by decide) ?_
        refine gx_aload_n Cx eX8_swap_53 2 rfl ?_
        obtain ⟨M12, h11, h⟩ := gx_bP_of h
        refine gx_callVV (ci := 8) Cx my_X8_layNow wlX8_290 rfl gx_y57 (by decide) rfl eX8_swap_54 (c_X8_layNow κ h11) rfl (Nat.le_of_ble_eq_true rfl) ?_
        refine gx_aload_n Cx eX8_swap_57 2 rfl ?_
        refine gfX8_68 Cx eX8_swap_58 ?_
        refine gx_iload_n Cx eX8_swap_61 3 rfl ?_
        refine gx_aload_n Cx eX8_swap_62 2 rfl ?_
        refine gfX8_9 Cx eX8_swap_63 ?_
        refine gx_iload_n Cx eX8_swap_66 4 rfl ?_
        refine gx_iald Cx gx_y58 eX8_swap_67 h (fun h => ?_)
        refine gx_iast Cx gx_y76 eX8_swap_68 h (fun M13 h => ?_)
        refine gx_aload_n Cx eX8_swap_69 2 rfl ?_
        refine gfX8_68 Cx eX8_swap_70 ?_
        refine gx_iload_n Cx eX8_swap_73 4 rfl ?_
        refine gx_aload_n Cx eX8_swap_74 2 rfl ?_
        refine gfX8_9 Cx eX8_swap_75 ?_
        refine gx_iload_n Cx eX8_swap_78 3 rfl ?_
        refine gx_iald Cx gx_y58 eX8_swap_79 h (fun h => ?_)
        refine gx_iast Cx gx_y76 eX8_swap_80 h (fun M14 h => ?_)
        refine gx_aload_n Cx eX8_swap_81 2 rfl ?_
        refine gx_bipush (v := (12 : Int32)) Cx eX8_swap_82 (by decide) ?_
        refine gx_bipush (v := (63 : Int32)) Cx eX8_swap_84 (by decide) ?_
        obtain ⟨M16, h15, h⟩ := gx_bP_of h
        refine gx_callVV (ci := 8) Cx my_X8_goHours wlX8_296 rfl gx_y57 (by decide) rfl eX8_swap_86 (c_X8_goHours κ h15) rfl (Nat.le_of_ble_eq_true rfl) ?_
        refine gx_aload_n Cx eX8_swap_89 2 rfl ?_
        refine gx_iload_n Cx eX8_swap_90 3 rfl ?_
        obtain ⟨y18, h17, h⟩ := gx_bP_of h
        refine gx_callVI (ci := 8) Cx my_X8_wetter wlX8_302 rfl gx_y57 (by decide) rfl eX8_swap_91 (c_X8_wetter κ h17) rfl (Nat.le_of_ble_eq_true rfl) ?_
        refine gx_iload_n Cx eX8_swap_94 1 rfl ?_
        refine gx_icmp_gt (tgt := 128) Cx eX8_swap_95 (by decide) h (fun h => ?_) (fun h => ?_)
        · refine gx_sub [2, 3, 4] rfl ?_
          exact B128 _ _ h
        · refine gx_aload_n Cx eX8_swap_98 2 rfl ?_
          refine gx_iload_n Cx eX8_swap_99 4 rfl ?_
          obtain ⟨y20, h19, h⟩ := gx_bP_of h
          refine gx_callVI (ci := 8) Cx my_X8_wetter wlX8_302 rfl gx_y57 (by decide) rfl eX8_swap_100 (c_X8_wetter κ h19) rfl (Nat.le_of_ble_eq_true rfl) ?_
          refine gx_iload Cx eX8_swap_103 0 rfl ?_
          refine gx_icmp_gt (tgt := 128) Cx eX8_swap_105 (by decide) h (fun h => ?_) (fun h => ?_)
          · refine gx_sub [2, 3, 4] rfl ?_
            exact B128 _ _ h
          · refine gx_aload_n Cx eX8_swap_108 2 rfl ?_
            refine gx_iload_n Cx eX8_swap_109 3 rfl ?_
            obtain ⟨y22, h21, h⟩ := gx_bP_of h
            refine gx_callVI (ci := 8) Cx my_X8_wetter wlX8_302 rfl gx_y57 (by decide) rfl eX8_swap_110 (c_X8_wetter κ h21) rfl (Nat.le_of_ble_eq_true rfl) ?_
            refine gx_aload_n Cx eX8_swap_113 2 rfl ?_
            refine gx_iload_n Cx eX8_swap_114 4 rfl ?_
            obtain ⟨y24, h23, h⟩ := gx_bP_of h
            refine gx_callVI (ci := 8) Cx my_X8_wetter wlX8_302 rfl gx_y57 (by decide) rfl eX8_swap_115 (c_X8_wetter κ h23) rfl (Nat.le_of_ble_eq_true rfl) ?_
            refine gx_iadd Cx eX8_swap_118 ?_
            refine gx_iload_n Cx eX8_swap_119 1 rfl ?_
            refine gx_iload Cx eX8_swap_120 0 rfl ?_
            refine gx_iadd Cx eX8_swap_122 ?_
            refine gx_icmp_ge (tgt := 128) Cx eX8_swap_123 (by decide) h (fun h => ?_) (fun h => ?_)
            · refine gx_sub [2, 3, 4] rfl ?_
              exact B128 _ _ h
            · refine gx_iload_n Cx eX8_swap_126 4 rfl ?_
              exact gx_rI h rfl eX8_swap_127 hR
      · refine gx_goto (tgt := 128) Cx eX8_swap_25 (by decide) ?_
        exact B128 _ _ h
  have L12 : ∀  (n : Nat) (v2 : Int32) (M : gx_Mem), f_X8_swap_l12 v1 n v2 M = some (r9, M9) → gx_G κ Γ 12 [(0, .ref (gx_a κ 57)), (1, .int v1), (2, .int v2)] [] M := by
    intro n
    induction n with
    | zero => intro v2 M h; exact gx_loop_0 h
    | succ n ih => intro v2 M h; exact K12 (fun v2 M => f_X8_swap_l12 v1 n v2 M) ih v2 M h
  have h := hf
  refine gx_aload_n Cx eX8_swap_0 0 rfl ?_
  refine gx_iload_n Cx eX8_swap_1 1 rfl ?_
  obtain ⟨y2, h1, h⟩ := gx_bP_of h
  refine gx_callVI (ci := 8) Cx my_X8_isOne wlX8_140 rfl gx_y57 (by decide) rfl eX8_swap_2 (c_X8_isOne κ h1) rfl (Nat.le_of_ble_eq_true rfl) ?_
  refine gx_if_ne (tgt := 10) Cx eX8_swap_5 (by decide) h (fun h => ?_) (fun h => ?_)
  · refine gx_iconst (v := (0 : Int32)) Cx eX8_swap_10 (by decide) ?_
    refine gx_istore_n Cx eX8_swap_11 [(2, .int (0 : Int32)), (0, .ref (gx_a κ 57)), (1, .int v1)] rfl (by decide) ?_
    refine gx_sub [1, 2, 0] rfl ?_
    exact L12 _ _ _ h
  · refine gx_iconst (v := (-1 : Int32)) Cx eX8_swap_8 (by decide) ?_
    exact gx_rI h rfl eX8_swap_9 hR
set_option maxHeartbeats 4000000 in
set_option maxRecDepth 100000 in
theorem c_X8_taken (κ : gx_K) {v1 : Int32} {v2 : Int32} {M : gx_Mem} {r9 : Int32} (hf : f_X8_taken v1 v2 M = some r9) : gx_CI κ yX8_taken cX8_taken 3 (some .int) 2 [.ref (gx_a κ 57), .int v1, .int v2] M r9 M := by
  refine gx_enterI (d := 2) my_X8_taken.1 (by decide) (Nat.le_of_ble_eq_true rfl) (fun Γ Cx hR => ?_)
  change gx_G κ Γ 0 [(0, .ref (gx_a κ 57)), (1, .int v1), (2, .int v2)] [] M
  have h := hf
  refine gx_iload_n Cx eX8_taken_0 1 rfl ?_
  obtain ⟨y2, h1, h⟩ := gx_bP_of h
  refine gx_callSI Cx my_X8_isShelf wlX8_154 (by decide) rfl eX8_taken_1 (c_X8_isShelf κ h1) rfl (Nat.le_of_ble_eq_true rfl) ?_
  refine gx_if_eq (tgt := 17) Cx eX8_taken_4 (by decide) h (fun h => ?_) (fun h => ?_)
  · refine gx_iconst (v := (-1 : Int32)) Cx eX8_taken_17 (by decide) ?_
    exact gx_rIp h rfl eX8_taken_18 hR
  · refine gx_iload_n Cx eX8_taken_7 2 rfl ?_
    refine gx_iconst (v := (0 : Int32)) Cx eX8_taken_8 (by decide) ?_
    refine gx_bipush (v := (7 : Int32)) Cx eX8_taken_9 (by decide) ?_
    obtain ⟨y4, h3, h⟩ := gx_bP_of h
    refine gx_callSI Cx my_X8_in wlX8_136 (by decide) rfl eX8_taken_11 (c_X8_in κ h3) rfl (Nat.le_of_ble_eq_true rfl) ?_
    refine gx_if_ne (tgt := 19) Cx eX8_taken_14 (by decide) h (fun h => ?_) (fun h => ?_)
    · refine gx_aload_n Cx eX8_taken_19 0 rfl ?_
      refine gfX8_116 Cx eX8_taken_20 ?_
      refine gx_iload_n Cx eX8_taken_23 1 rfl ?_
      refine gx_iald Cx gx_y92 eX8_taken_24 h (fun h => ?_)
      refine gx_iconst (v := (-1 : Int32)) Cx eX8_taken_25 (by decide) ?_
      refine gx_icmp_ne (tgt := 32) Cx eX8_taken_26 (by decide) h (fun h => ?_) (fun h => ?_)
      · refine gx_aload_n Cx eX8_taken_32 0 rfl ?_
        refine gfX8_116 Cx eX8_taken_33 ?_
        refine gx_iload_n Cx eX8_taken_36 1 rfl ?_
        refine gx_iald Cx gx_y92 eX8_taken_37 h (fun h => ?_)
        refine gx_if_lt (tgt := 73) Cx eX8_taken_38 (by decide) h (fun h => ?_) (fun h => ?_)
        · refine gx_bipush (v := (-12 : Int32)) Cx eX8_taken_73 (by decide) ?_
          exact gx_rIp h rfl eX8_taken_75 hR
        · refine gx_aload_n Cx eX8_taken_41 0 rfl ?_
          refine gfX8_110 Cx eX8_taken_42 ?_
          refine gx_aload_n Cx eX8_taken_45 0 rfl ?_
          refine gfX8_116 Cx eX8_taken_46 ?_
          refine gx_iload_n Cx eX8_taken_49 1 rfl ?_
          refine gx_iald Cx gx_y92 eX8_taken_50 h (fun h => ?_)
          refine gx_iald Cx gx_y90 eX8_taken_51 h (fun h => ?_)
          refine gx_iload_n Cx eX8_taken_52 2 rfl ?_
          obtain ⟨y6, h5, h⟩ := gx_bP_of h
          refine gx_callSI Cx my_X8_isUnder wlX8_385 (by decide) rfl eX8_taken_53 (c_X8_isUnder κ h5) rfl (Nat.le_of_ble_eq_true rfl) ?_
          refine gx_if_eq (tgt := 73) Cx eX8_taken_56 (by decide) h (fun h => ?_) (fun h => ?_)
          · refine gx_bipush (v := (-12 : Int32)) Cx eX8_taken_73 (by decide) ?_
            exact gx_rIp h rfl eX8_taken_75 hR
          · refine gx_aload_n Cx eX8_taken_59 0 rfl ?_
            refine gfX8_110 Cx eX8_taken_60 ?_
            refine gx_aload_n Cx eX8_taken_63 0 rfl ?_
            refine gfX8_116 Cx eX8_taken_64 ?_
            refine gx_iload_n Cx eX8_taken_67 1 rfl ?_
            refine gx_iald Cx gx_y92 eX8_taken_68 h (fun h => ?_)
            refine gx_iald Cx gx_y90 eX8_taken_69 h (fun h => ?_)
            refine gx_goto (tgt := 75) Cx eX8_taken_70 (by decide) ?_
            exact gx_rIp h rfl eX8_taken_75 hR
      · refine gx_bipush (v := (-11 : Int32)) Cx eX8_taken_29 (by decide) ?_
        exact gx_rIp h rfl eX8_taken_31 hR
    · refine gx_iconst (v := (-1 : Int32)) Cx eX8_taken_17 (by decide) ?_
      exact gx_rIp h rfl eX8_taken_18 hR
set_option maxHeartbeats 4000000 in
set_option maxRecDepth 100000 in
theorem c_X8_thought (κ : gx_K) {v1 : Int32} {v2 : Int32} {v3 : Int32} {v4 : Int32} {M : gx_Mem} {r9 : Int32} {M9 : gx_Mem} (hf : f_X8_thought v1 v2 v3 v4 M = some (r9, M9)) : gx_CI κ yX8_thought cX8_thought 10 (some .int) 6 [.ref (gx_a κ 57), .int v1, .int v2, .int v3, .int v4] M r9 M9 := by
  refine gx_enterI (d := 6) my_X8_thought.1 (by decide) (Nat.le_of_ble_eq_true rfl) (fun Γ Cx hR => ?_)
  change gx_G κ Γ 0 [(0, .ref (gx_a κ 57)), (1, .int v1), (2, .int v2), (3, .int v3), (4, .int v4)] [] M
  have K95 : ∀ (v5 : Int32) (v6 : Int32) (ag95 : Int32 → Int32 → Int32 → gx_Mem → Option (Int32 × gx_Mem)) (hag95 : ∀ (v7 : Int32) (v8 : Int32) (v9 : Int32) (M : gx_Mem), ag95 v7 v8 v9 M = some (r9, M9) → gx_G κ Γ 95 [(0, .ref (gx_a κ 57)), (1, .int v1), (4, .int v4), (5, .int v5), (6, .int v6), (7, .int v7), (8, .int v8), (9, .int v9)] [] M) (v7 : Int32) (v8 : Int32) (v9 : Int32) (M : gx_Mem), f_X8_thought_k95 v1 v4 v5 v6 ag95 v7 v8 v9 M = some (r9, M9) → gx_G κ Γ 95 [(0, .ref (gx_a κ 57)), (1, .int v1), (4, .int v4), (5, .int v5), (6, .int v6), (7, .int v7), (8, .int v8), (9, .int v9)] [] M := by
    intro v5 v6 ag95 hag95
    have B134 : ∀ (v7 : Int32) (v8 : Int32) (v9 : Int32) (M : gx_Mem), f_X8_thought_b134 ag95 v1 v4 v5 v6 v7 v8 v9 M = some (r9, M9) → gx_G κ Γ 134 [(0, .ref (gx_a κ 57)), (1, .int v1), (4, .int v4), (5, .int v5), (6, .int v6), (7, .int v7), (8, .int v8), (9, .int v9)] [] M := by
      intro v7 v8 v9 M h
      refine gx_iinc (v := (1 : Int32)) (i := 9) (j := 7) Cx eX8_thought_134 (by decide) h 7 rfl (fun w => [(9, .int w), (0, .ref (gx_a κ 57)), (1, .int v1), (4, .int v4), (5, .int v5), (6, .int v6), (7, .int v7), (8, .int v8)]) (fun _ => rfl) (by decide) (fun x25 h => ?_)
      refine gx_goto (tgt := 95) Cx eX8_thought_137 (by decide) ?_
      refine gx_sub [1, 2, 3, 4, 5, 6, 7, 0] rfl ?_
      exact hag95 _ _ _ _ h
    have B131 : ∀ (v7 : Int32) (v8 : Int32) (v9 : Int32) (M : gx_Mem), f_X8_thought_b131 ag95 v1 v4 v5 v6 v7 v8 v9 M = some (r9, M9) → gx_G κ Γ 131 [(0, .ref (gx_a κ 57)), (1, .int v1), (4, .int v4), (5, .int v5), (6, .int v6), (7, .int v7), (8, .int v8), (9, .int v9)] [] M := by
      intro v7 v8 v9 M h
      refine gx_iinc (v := (1 : Int32)) (i := 7) (j := 5) Cx eX8_thought_131 (by decide) h 5 rfl (fun w => [(7, .int w), (0, .ref (gx_a κ 57)), (1, .int v1), (4, .int v4), (5, .int v5), (6, .int v6), (8, .int v8), (9, .int v9)]) (fun _ => rfl) (by decide) (fun x26 h => ?_)
      refine gx_sub [1, 2, 3, 4, 5, 0, 6, 7] rfl ?_
      exact B134 _ _ _ _ h
    intro v7 v8 v9 M h
    refine gx_iload Cx eX8_thought_95 7 rfl ?_
    refine gx_bipush (v := (9 : Int32)) Cx eX8_thought_97 (by decide) ?_
    refine gx_icmp_gt (tgt := 140) Cx eX8_thought_99 (by decide) h (fun h => ?_) (fun h => ?_)
    · refine gx_aload_n Cx eX8_thought_140 0 rfl ?_
      refine gfX8_18 Cx eX8_thought_141 ?_
      refine gx_iload Cx eX8_thought_144 3 rfl ?_
      refine gx_iload Cx eX8_thought_146 4 rfl ?_
      refine gx_iast Cx gx_y60 eX8_thought_148 h (fun M20 h => ?_)
      refine gx_iload Cx eX8_thought_149 2 rfl ?_
      refine gx_if_ne (tgt := 159) Cx eX8_thought_151 (by decide) h (fun h => ?_) (fun h => ?_)
      · refine gx_iload Cx eX8_thought_159 6 rfl ?_
        exact gx_rI h rfl eX8_thought_161 hR
      · refine gx_iload Cx eX8_thought_154 5 rfl ?_
        refine gx_goto (tgt := 161) Cx eX8_thought_156 (by decide) ?_
        exact gx_rI h rfl eX8_thought_161 hR
    · refine gx_aload_n Cx eX8_thought_102 0 rfl ?_
      refine gfX8_18 Cx eX8_thought_103 ?_
      refine gx_iload Cx eX8_thought_106 3 rfl ?_
      refine gx_iload Cx eX8_thought_108 7 rfl ?_
      refine gx_iast Cx gx_y60 eX8_thought_110 h (fun M21 h => ?_)
      refine gx_aload_n Cx eX8_thought_111 0 rfl ?_
      refine gx_iload_n Cx eX8_thought_112 1 rfl ?_
      obtain ⟨y23, M24, h22, h⟩ := gx_bI_of h
      refine gx_callVI (ci := 8) Cx my_X8_isJust wlX8_324 rfl gx_y57 (by decide) rfl eX8_thought_113 (c_X8_isJust κ h22) rfl (Nat.le_of_ble_eq_true rfl) ?_
      refine gx_if_ne (tgt := 122) Cx eX8_thought_116 (by decide) h (fun h => ?_) (fun h => ?_)
      · refine gx_iload Cx eX8_thought_122 5 rfl ?_
        refine gx_if_ne (tgt := 131) Cx eX8_thought_124 (by decide) h (fun h => ?_) (fun h => ?_)
        · exact B131 _ _ _ _ h
        · refine gx_iload Cx eX8_thought_127 7 rfl ?_
          refine gx_istore Cx eX8_thought_129 [(8, .int v9), (0, .ref (gx_a κ 57)), (1, .int v1), (4, .int v4), (5, .int v5), (6, .int v6), (7, .int v7), (9, .int v9)] rfl (by decide) ?_
          refine gx_sub [1, 2, 3, 4, 5, 6, 0, 7] rfl ?_
          exact B131 _ _ _ _ h
      · refine gx_goto (tgt := 134) Cx eX8_thought_119 (by decide) ?_
        exact B134 _ _ _ _ h
  have L95 : ∀ (v5 : Int32) (v6 : Int32) (n : Nat) (v7 : Int32) (v8 : Int32) (v9 : Int32) (M : gx_Mem), f_X8_thought_l95 v1 v4 v5 v6 n v7 v8 v9 M = some (r9, M9) → gx_G κ Γ 95 [(0, .ref (gx_a κ 57)), (1, .int v1), (4, .int v4), (5, .int v5), (6, .int v6), (7, .int v7), (8, .int v8), (9, .int v9)] [] M := by
    intro v5 v6 n
    induction n with
    | zero => intro v7 v8 v9 M h; exact gx_loop_0 h
    | succ n ih => intro v7 v8 v9 M h; exact K95 v5 v6 (fun v7 v8 v9 M => f_X8_thought_l95 v1 v4 v5 v6 n v7 v8 v9 M) ih v7 v8 v9 M h
  have h := hf
  refine gx_iload_n Cx eX8_thought_0 1 rfl ?_
  obtain ⟨y2, h1, h⟩ := gx_bP_of h
  refine gx_callSI Cx my_X8_isShelf wlX8_154 (by decide) rfl eX8_thought_1 (c_X8_isShelf κ h1) rfl (Nat.le_of_ble_eq_true rfl) ?_
  refine gx_if_eq (tgt := 32) Cx eX8_thought_4 (by decide) h (fun h => ?_) (fun h => ?_)
  · refine gx_iconst (v := (-1 : Int32)) Cx eX8_thought_32 (by decide) ?_
    exact gx_rI h rfl eX8_thought_33 hR
  · refine gx_iload_n Cx eX8_thought_7 2 rfl ?_
    obtain ⟨y4, h3, h⟩ := gx_bP_of h
    refine gx_callSI Cx my_X8_isHour wlX8_173 (by decide) rfl eX8_thought_8 (c_X8_isHour κ h3) rfl (Nat.le_of_ble_eq_true rfl) ?_
    refine gx_if_eq (tgt := 32) Cx eX8_thought_11 (by decide) h (fun h => ?_) (fun h => ?_)
    · refine gx_iconst (v := (-1 : Int32)) Cx eX8_thought_32 (by decide) ?_
      exact gx_rI h rfl eX8_thought_33 hR
    · refine gx_aload_n Cx eX8_thought_14 0 rfl ?_
      refine gx_iload_n Cx eX8_thought_15 3 rfl ?_
      obtain ⟨y6, h5, h⟩ := gx_bP_of h
      refine gx_callVI (ci := 8) Cx my_X8_areMark wlX8_170 rfl gx_y57 (by decide) rfl eX8_thought_16 (c_X8_areMark κ h5) rfl (Nat.le_of_ble_eq_true rfl) ?_
      refine gx_if_eq (tgt := 32) Cx eX8_thought_19 (by decide) h (fun h => ?_) (fun h => ?_)
      · refine gx_iconst (v := (-1 : Int32)) Cx eX8_thought_32 (by decide) ?_
        exact gx_rI h rfl eX8_thought_33 hR
      · refine gx_iload Cx eX8_thought_22 4 rfl ?_
        refine gx_iconst (v := (0 : Int32)) Cx eX8_thought_24 (by decide) ?_
        refine gx_iconst (v := (1 : Int32)) Cx eX8_thought_25 (by decide) ?_
        obtain ⟨y8, h7, h⟩ := gx_bP_of h
        refine gx_callSI Cx my_X8_in wlX8_136 (by decide) rfl eX8_thought_26 (c_X8_in κ h7) rfl (Nat.le_of_ble_eq_true rfl) ?_
        refine gx_if_ne (tgt := 34) Cx eX8_thought_29 (by decide) h (fun h => ?_) (fun h => ?_)
        · refine gx_aload_n Cx eX8_thought_34 0 rfl ?_
          refine gx_iload_n Cx eX8_thought_35 1 rfl ?_
          obtain ⟨y10, h9, h⟩ := gx_bP_of h
          refine gx_callVI (ci := 8) Cx my_X8_rowFault wlX8_321 rfl gx_y57 (by decide) rfl eX8_thought_36 (c_X8_rowFault κ h9) rfl (Nat.le_of_ble_eq_true rfl) ?_
          refine gx_if_ge (tgt := 48) Cx eX8_thought_39 (by decide) h (fun h => ?_) (fun h => ?_)
          · refine gx_aload_n Cx eX8_thought_48 0 rfl ?_
            obtain ⟨M12, h11, h⟩ := gx_bP_of h
            refine gx_callVV (ci := 8) Cx my_X8_layNow wlX8_290 rfl gx_y57 (by decide) rfl eX8_thought_49 (c_X8_layNow κ h11) rfl (Nat.le_of_ble_eq_true rfl) ?_
            refine gx_aload_n Cx eX8_thought_52 0 rfl ?_
            refine gx_aload_n Cx eX8_thought_53 0 rfl ?_
            refine gx_iload_n Cx eX8_thought_54 2 rfl ?_
            refine gx_bipush (v := (63 : Int32)) Cx eX8_thought_55 (by decide) ?_
            obtain ⟨y14, h13, h⟩ := gx_bP_of h
            refine gx_callVI (ci := 8) Cx my_X8_outAt wlX8_284 rfl gx_y57 (by decide) rfl eX8_thought_57 (c_X8_outAt κ h13) rfl (Nat.le_of_ble_eq_true rfl) ?_
            refine pfX8_267 Cx eX8_thought_60 h (fun M15 h => ?_)
            refine gx_iconst (v := (4 : Int32)) Cx eX8_thought_63 (by decide) ?_
            refine gx_iload_n Cx eX8_thought_64 3 rfl ?_
            refine gx_bipush (v := (10 : Int32)) Cx eX8_thought_65 (by decide) ?_
            refine gx_idivC Cx eX8_thought_67 (by decide) ?_
            refine gx_imul Cx eX8_thought_68 ?_
            refine gx_iload_n Cx eX8_thought_69 3 rfl ?_
            refine gx_bipush (v := (10 : Int32)) Cx eX8_thought_70 (by decide) ?_
            refine gx_iremC Cx eX8_thought_72 (by decide) ?_
            refine gx_iadd Cx eX8_thought_73 ?_
            refine gx_nmI h (fun x16 h => ?_)
            refine gx_istore Cx eX8_thought_74 [(5, .int x16), (0, .ref (gx_a κ 57)), (1, .int v1), (2, .int v2), (3, .int v3), (4, .int v4)] rfl (by decide) ?_
            refine gx_aload_n Cx eX8_thought_76 1 rfl ?_
            refine gfX8_18 Cx eX8_thought_77 ?_
            refine gx_iload Cx eX8_thought_80 0 rfl ?_
            refine gx_iald Cx gx_y60 eX8_thought_82 h (fun h => ?_)
            refine gx_nmI h (fun x17 h => ?_)
            refine gx_istore Cx eX8_thought_83 [(6, .int x17), (5, .int x16), (0, .ref (gx_a κ 57)), (1, .int v1), (2, .int v2), (3, .int v3), (4, .int v4)] rfl (by decide) ?_
            refine gx_iconst (v := (0 : Int32)) Cx eX8_thought_85 (by decide) ?_
            refine gx_istore Cx eX8_thought_86 [(7, .int (0 : Int32)), (6, .int x17), (5, .int x16), (0, .ref (gx_a κ 57)), (1, .int v1), (2, .int v2), (3, .int v3), (4, .int v4)] rfl (by decide) ?_
            refine gx_bipush (v := (-2 : Int32)) Cx eX8_thought_88 (by decide) ?_
            refine gx_istore Cx eX8_thought_90 [(8, .int (-2 : Int32)), (7, .int (0 : Int32)), (6, .int x17), (5, .int x16), (0, .ref (gx_a κ 57)), (1, .int v1), (2, .int v2), (3, .int v3), (4, .int v4)] rfl (by decide) ?_
            refine gx_iconst (v := (0 : Int32)) Cx eX8_thought_92 (by decide) ?_
            refine gx_istore Cx eX8_thought_93 [(9, .int (0 : Int32)), (8, .int (-2 : Int32)), (7, .int (0 : Int32)), (6, .int x17), (5, .int x16), (0, .ref (gx_a κ 57)), (1, .int v1), (2, .int v2), (3, .int v3), (4, .int v4)] rfl (by decide) ?_
            refine gx_sub [5, 6, 9, 4, 3, 2, 1, 0] rfl ?_
            exact L95 _ _ _ _ _ _ _ h
          · refine gx_aload_n Cx eX8_thought_42 0 rfl ?_
            refine gx_iload_n Cx eX8_thought_43 1 rfl ?_
            obtain ⟨y19, h18, h⟩ := gx_bP_of h
            refine gx_callVI (ci := 8) Cx my_X8_rowFault wlX8_321 rfl gx_y57 (by decide) rfl eX8_thought_44 (c_X8_rowFault κ h18) rfl (Nat.le_of_ble_eq_true rfl) ?_
            exact gx_rI h rfl eX8_thought_47 hR
        · refine gx_iconst (v := (-1 : Int32)) Cx eX8_thought_32 (by decide) ?_
          exact gx_rI h rfl eX8_thought_33 hR
set_option maxHeartbeats 4000000 in
set_option maxRecDepth 100000 in
theorem c_X8_trace (κ : gx_K) {v1 : Int32} {M : gx_Mem} {r9 : Int32} (hf : f_X8_trace v1 M = some r9) : gx_CI κ yX8_trace cX8_trace 2 (some .int) 0 [.ref (gx_a κ 57), .int v1] M r9 M := by
  refine gx_enterI (d := 0) my_X8_trace.1 (by decide) (Nat.le_of_ble_eq_true rfl) (fun Γ Cx hR => ?_)
  change gx_G κ Γ 0 [(0, .ref (gx_a κ 57)), (1, .int v1)] [] M
  have h := hf
  refine gx_iload_n Cx eX8_trace_0 1 rfl ?_
  refine gx_if_lt (tgt := 27) Cx eX8_trace_1 (by decide) h (fun h => ?_) (fun h => ?_)
  · refine gx_iconst (v := (-1 : Int32)) Cx eX8_trace_27 (by decide) ?_
    exact gx_rIp h rfl eX8_trace_28 hR
  · refine gx_iload_n Cx eX8_trace_4 1 rfl ?_
    refine gx_aload_n Cx eX8_trace_5 0 rfl ?_
    refine gfX8_376 Cx eX8_trace_6 ?_
    refine gx_icmp_ge (tgt := 27) Cx eX8_trace_9 (by decide) h (fun h => ?_) (fun h => ?_)
    · refine gx_iconst (v := (-1 : Int32)) Cx eX8_trace_27 (by decide) ?_
      exact gx_rIp h rfl eX8_trace_28 hR
    · refine gx_iload_n Cx eX8_trace_12 1 rfl ?_
      refine gx_bipush (v := (24 : Int32)) Cx eX8_trace_13 (by decide) ?_
      refine gx_icmp_ge (tgt := 27) Cx eX8_trace_15 (by decide) h (fun h => ?_) (fun h => ?_)
      · refine gx_iconst (v := (-1 : Int32)) Cx eX8_trace_27 (by decide) ?_
        exact gx_rIp h rfl eX8_trace_28 hR
      · refine gx_aload_n Cx eX8_trace_18 0 rfl ?_
        refine gfX8_113 Cx eX8_trace_19 ?_
        refine gx_iload_n Cx eX8_trace_22 1 rfl ?_
        refine gx_iald Cx gx_y91 eX8_trace_23 h (fun h => ?_)
        refine gx_goto (tgt := 28) Cx eX8_trace_24 (by decide) ?_
        exact gx_rIp h rfl eX8_trace_28 hR
set_option maxHeartbeats 4000000 in
set_option maxRecDepth 100000 in
theorem c_X8_undo (κ : gx_K)  {M : gx_Mem} {r9 : Int32} {M9 : gx_Mem} (hf : f_X8_undo M = some (r9, M9)) : gx_CI κ yX8_undo cX8_undo 1 (some .int) 1 [.ref (gx_a κ 57)] M r9 M9 := by
  refine gx_enterI (d := 1) my_X8_undo.1 (by decide) (Nat.le_of_ble_eq_true rfl) (fun Γ Cx hR => ?_)
  change gx_G κ Γ 0 [(0, .ref (gx_a κ 57))] [] M
  have h := hf
  refine gx_aload_n Cx eX8_undo_0 0 rfl ?_
  refine gfX8_163 Cx eX8_undo_1 ?_
  refine gx_if_ne (tgt := 10) Cx eX8_undo_4 (by decide) h (fun h => ?_) (fun h => ?_)
  · refine gx_aload_n Cx eX8_undo_10 0 rfl ?_
    refine gx_dup Cx eX8_undo_11 rfl ?_
    refine gfX8_163 Cx eX8_undo_12 ?_
    refine gx_iconst (v := (1 : Int32)) Cx eX8_undo_15 (by decide) ?_
    refine gx_isub Cx eX8_undo_16 ?_
    refine pfX8_163 Cx eX8_undo_17 h (fun M1 h => ?_)
    refine gx_aload_n Cx eX8_undo_20 0 rfl ?_
    refine gx_dup Cx eX8_undo_21 rfl ?_
    refine gfX8_160 Cx eX8_undo_22 ?_
    refine gx_iconst (v := (1 : Int32)) Cx eX8_undo_25 (by decide) ?_
    refine gx_iadd Cx eX8_undo_26 ?_
    refine pfX8_160 Cx eX8_undo_27 h (fun M2 h => ?_)
    refine gx_aload_n Cx eX8_undo_30 0 rfl ?_
    refine gx_aload_n Cx eX8_undo_31 0 rfl ?_
    refine gfX8_30 Cx eX8_undo_32 ?_
    refine gx_aload_n Cx eX8_undo_35 0 rfl ?_
    refine gfX8_163 Cx eX8_undo_36 ?_
    refine gx_iald Cx gx_y64 eX8_undo_39 h (fun h => ?_)
    refine gx_aload_n Cx eX8_undo_40 0 rfl ?_
    refine gfX8_33 Cx eX8_undo_41 ?_
    refine gx_aload_n Cx eX8_undo_44 0 rfl ?_
    refine gfX8_163 Cx eX8_undo_45 ?_
    refine gx_iald Cx gx_y65 eX8_undo_48 h (fun h => ?_)
    refine gx_aload_n Cx eX8_undo_49 0 rfl ?_
    refine gfX8_36 Cx eX8_undo_50 ?_
    refine gx_aload_n Cx eX8_undo_53 0 rfl ?_
    refine gfX8_163 Cx eX8_undo_54 ?_
    refine gx_iald Cx gx_y66 eX8_undo_57 h (fun h => ?_)
    obtain ⟨M4, h3, h⟩ := gx_bP_of h
    refine gx_callVV (ci := 8) Cx my_X8_lays wlX8_166 rfl gx_y57 (by decide) rfl eX8_undo_58 (c_X8_lays κ h3) rfl (Nat.le_of_ble_eq_true rfl) ?_
    refine gx_aload_n Cx eX8_undo_61 0 rfl ?_
    refine gfX8_163 Cx eX8_undo_62 ?_
    exact gx_rI h rfl eX8_undo_65 hR
  · refine gx_bipush (v := (-5 : Int32)) Cx eX8_undo_7 (by decide) ?_
    exact gx_rI h rfl eX8_undo_9 hR
set_option maxHeartbeats 4000000 in
set_option maxRecDepth 100000 in
theorem c_X8_wet (κ : gx_K) {v1 : Int32} {v2 : Int32} {M : gx_Mem} {r9 : Int32} {M9 : gx_Mem} (hf : f_X8_wet v1 v2 M = some (r9, M9)) : gx_CI κ yX8_wet cX8_wet 3 (some .int) 7 [.ref (gx_a κ 57), .int v1, .int v2] M r9 M9 := by
  refine gx_enterI (d := 7) my_X8_wet.1 (by decide) (Nat.le_of_ble_eq_true rfl) (fun Γ Cx hR => ?_)
  change gx_G κ Γ 0 [(0, .ref (gx_a κ 57)), (1, .int v1), (2, .int v2)] [] M
  have h := hf
  refine gx_iload_n Cx eX8_wet_0 1 rfl ?_
  obtain ⟨y2, h1, h⟩ := gx_bP_of h
  refine gx_callSI Cx my_X8_areHours wlX8_293 (by decide) rfl eX8_wet_1 (c_X8_areHours κ h1) rfl (Nat.le_of_ble_eq_true rfl) ?_
  refine gx_if_eq (tgt := 15) Cx eX8_wet_4 (by decide) h (fun h => ?_) (fun h => ?_)
  · refine gx_iconst (v := (-1 : Int32)) Cx eX8_wet_15 (by decide) ?_
    exact gx_rI h rfl eX8_wet_16 hR
  · refine gx_aload_n Cx eX8_wet_7 0 rfl ?_
    refine gx_iload_n Cx eX8_wet_8 2 rfl ?_
    obtain ⟨y4, h3, h⟩ := gx_bP_of h
    refine gx_callVI (ci := 8) Cx my_X8_areMark wlX8_170 rfl gx_y57 (by decide) rfl eX8_wet_9 (c_X8_areMark κ h3) rfl (Nat.le_of_ble_eq_true rfl) ?_
    refine gx_if_ne (tgt := 17) Cx eX8_wet_12 (by decide) h (fun h => ?_) (fun h => ?_)
    · refine gx_aload_n Cx eX8_wet_17 0 rfl ?_
      obtain ⟨M6, h5, h⟩ := gx_bP_of h
      refine gx_callVV (ci := 8) Cx my_X8_layNow wlX8_290 rfl gx_y57 (by decide) rfl eX8_wet_18 (c_X8_layNow κ h5) rfl (Nat.le_of_ble_eq_true rfl) ?_
      refine gx_aload_n Cx eX8_wet_21 0 rfl ?_
      refine gx_iload_n Cx eX8_wet_22 1 rfl ?_
      refine gx_bipush (v := (63 : Int32)) Cx eX8_wet_23 (by decide) ?_
      obtain ⟨M8, h7, h⟩ := gx_bP_of h
      refine gx_callVV (ci := 8) Cx my_X8_goHours wlX8_296 rfl gx_y57 (by decide) rfl eX8_wet_25 (c_X8_goHours κ h7) rfl (Nat.le_of_ble_eq_true rfl) ?_
      refine gx_aload_n Cx eX8_wet_28 0 rfl ?_
      refine gfX8_74 Cx eX8_wet_29 ?_
      refine gx_iconst (v := (4 : Int32)) Cx eX8_wet_32 (by decide) ?_
      refine gx_iload_n Cx eX8_wet_33 2 rfl ?_
      refine gx_bipush (v := (10 : Int32)) Cx eX8_wet_34 (by decide) ?_
      refine gx_idivC Cx eX8_wet_36 (by decide) ?_
      refine gx_imul Cx eX8_wet_37 ?_
      refine gx_iload_n Cx eX8_wet_38 2 rfl ?_
      refine gx_bipush (v := (10 : Int32)) Cx eX8_wet_39 (by decide) ?_
      refine gx_iremC Cx eX8_wet_41 (by decide) ?_
      refine gx_iadd Cx eX8_wet_42 ?_
      refine gx_iald Cx gx_y78 eX8_wet_43 h (fun h => ?_)
      exact gx_rI h rfl eX8_wet_44 hR
    · refine gx_iconst (v := (-1 : Int32)) Cx eX8_wet_15 (by decide) ?_
      exact gx_rI h rfl eX8_wet_16 hR
set_option maxHeartbeats 4000000 in
set_option maxRecDepth 100000 in
theorem c_X8_who (κ : gx_K) {v1 : Int32} {v2 : Int32} {v3 : Int32} {M : gx_Mem} {r9 : Int32} {M9 : gx_Mem} (hf : f_X8_who v1 v2 v3 M = some (r9, M9)) : gx_CI κ yX8_who cX8_who 8 (some .int) 6 [.ref (gx_a κ 57), .int v1, .int v2, .int v3] M r9 M9 := by
  refine gx_enterI (d := 6) my_X8_who.1 (by decide) (Nat.le_of_ble_eq_true rfl) (fun Γ Cx hR => ?_)
  change gx_G κ Γ 0 [(0, .ref (gx_a κ 57)), (1, .int v1), (2, .int v2), (3, .int v3)] [] M
  have K56 : ∀  (ag56 : Int32 → Int32 → Int32 → Int32 → gx_Mem → Option (Int32 × gx_Mem)) (hag56 : ∀ (v4 : Int32) (v5 : Int32) (v6 : Int32) (v7 : Int32) (M : gx_Mem), ag56 v4 v5 v6 v7 M = some (r9, M9) → gx_G κ Γ 56 [(0, .ref (gx_a κ 57)), (1, .int v1), (3, .int v3), (4, .int v4), (5, .int v5), (6, .int v6), (7, .int v7)] [] M) (v4 : Int32) (v5 : Int32) (v6 : Int32) (v7 : Int32) (M : gx_Mem), f_X8_who_k56 v1 v3 ag56 v4 v5 v6 v7 M = some (r9, M9) → gx_G κ Γ 56 [(0, .ref (gx_a κ 57)), (1, .int v1), (3, .int v3), (4, .int v4), (5, .int v5), (6, .int v6), (7, .int v7)] [] M := by
    intro ag56 hag56
    have B103 : ∀ (v4 : Int32) (v5 : Int32) (v6 : Int32) (v7 : Int32) (M : gx_Mem), f_X8_who_b103 ag56 v1 v3 v4 v5 v6 v7 M = some (r9, M9) → gx_G κ Γ 103 [(0, .ref (gx_a κ 57)), (1, .int v1), (3, .int v3), (4, .int v4), (5, .int v5), (6, .int v6), (7, .int v7)] [] M := by
      intro v4 v5 v6 v7 M h
      refine gx_iinc (v := (1 : Int32)) (i := 7) (j := 6) Cx eX8_who_103 (by decide) h 6 rfl (fun w => [(7, .int w), (0, .ref (gx_a κ 57)), (1, .int v1), (3, .int v3), (4, .int v4), (5, .int v5), (6, .int v6)]) (fun _ => rfl) (by decide) (fun x17 h => ?_)
      refine gx_goto (tgt := 56) Cx eX8_who_106 (by decide) ?_
      refine gx_sub [1, 2, 3, 4, 5, 6, 0] rfl ?_
      exact hag56 _ _ _ _ _ h
    have B93 : ∀ (v4 : Int32) (v5 : Int32) (v6 : Int32) (v7 : Int32) (M : gx_Mem), f_X8_who_b93 ag56 v1 v3 v4 v5 v6 v7 M = some (r9, M9) → gx_G κ Γ 93 [(0, .ref (gx_a κ 57)), (1, .int v1), (3, .int v3), (4, .int v4), (5, .int v5), (6, .int v6), (7, .int v7)] [] M := by
      intro v4 v5 v6 v7 M h
      refine gx_iinc (v := (1 : Int32)) (i := 4) (j := 3) Cx eX8_who_93 (by decide) h 3 rfl (fun w => [(4, .int w), (0, .ref (gx_a κ 57)), (1, .int v1), (3, .int v3), (5, .int v5), (6, .int v6), (7, .int v7)]) (fun _ => rfl) (by decide) (fun x18 h => ?_)
      refine gx_iload Cx eX8_who_96 5 rfl ?_
      refine gx_iload Cx eX8_who_98 6 rfl ?_
      refine gx_iand Cx eX8_who_100 ?_
      refine gx_nmI h (fun x19 h => ?_)
      refine gx_istore Cx eX8_who_101 [(6, .int x19), (4, .int x18), (0, .ref (gx_a κ 57)), (1, .int v1), (3, .int v3), (5, .int v5), (7, .int v7)] rfl (by decide) ?_
      refine gx_sub [2, 3, 4, 1, 5, 0, 6] rfl ?_
      exact B103 _ _ _ _ _ h
    intro v4 v5 v6 v7 M h
    refine gx_iload Cx eX8_who_56 6 rfl ?_
    refine gx_iconst (v := (1 : Int32)) Cx eX8_who_58 (by decide) ?_
    refine gx_aload_n Cx eX8_who_59 0 rfl ?_
    refine gfX8_133 Cx eX8_who_60 ?_
    refine gx_ishl Cx eX8_who_63 ?_
    refine gx_icmp_ge (tgt := 109) Cx eX8_who_64 (by decide) h (fun h => ?_) (fun h => ?_)
    · refine gx_iload_n Cx eX8_who_109 2 rfl ?_
      refine gx_if_ne (tgt := 118) Cx eX8_who_110 (by decide) h (fun h => ?_) (fun h => ?_)
      · refine gx_iload_n Cx eX8_who_118 2 rfl ?_
        refine gx_iconst (v := (1 : Int32)) Cx eX8_who_119 (by decide) ?_
        refine gx_icmp_ne (tgt := 128) Cx eX8_who_120 (by decide) h (fun h => ?_) (fun h => ?_)
        · refine gx_iload Cx eX8_who_128 3 rfl ?_
          refine gx_if_ne (tgt := 137) Cx eX8_who_130 (by decide) h (fun h => ?_) (fun h => ?_)
          · refine gx_iload Cx eX8_who_137 5 rfl ?_
            exact gx_rI h rfl eX8_who_139 hR
          · refine gx_iconst (v := (0 : Int32)) Cx eX8_who_133 (by decide) ?_
            refine gx_goto (tgt := 139) Cx eX8_who_134 (by decide) ?_
            exact gx_rI h rfl eX8_who_139 hR
        · refine gx_iload Cx eX8_who_123 4 rfl ?_
          refine gx_goto (tgt := 139) Cx eX8_who_125 (by decide) ?_
          exact gx_rI h rfl eX8_who_139 hR
      · refine gx_iload Cx eX8_who_113 3 rfl ?_
        refine gx_goto (tgt := 139) Cx eX8_who_115 (by decide) ?_
        exact gx_rI h rfl eX8_who_139 hR
    · refine gx_aload_n Cx eX8_who_67 0 rfl ?_
      refine gx_iload Cx eX8_who_68 6 rfl ?_
      refine pfX8_267 Cx eX8_who_70 h (fun M13 h => ?_)
      refine gx_aload_n Cx eX8_who_73 0 rfl ?_
      refine gx_iload_n Cx eX8_who_74 1 rfl ?_
      obtain ⟨y15, M16, h14, h⟩ := gx_bI_of h
      refine gx_callVI (ci := 8) Cx my_X8_isJust wlX8_324 rfl gx_y57 (by decide) rfl eX8_who_75 (c_X8_isJust κ h14) rfl (Nat.le_of_ble_eq_true rfl) ?_
      refine gx_if_ne (tgt := 84) Cx eX8_who_78 (by decide) h (fun h => ?_) (fun h => ?_)
      · refine gx_iload Cx eX8_who_84 3 rfl ?_
        refine gx_if_ne (tgt := 93) Cx eX8_who_86 (by decide) h (fun h => ?_) (fun h => ?_)
        · exact B93 _ _ _ _ _ h
        · refine gx_iload Cx eX8_who_89 6 rfl ?_
          refine gx_istore Cx eX8_who_91 [(5, .int v7), (0, .ref (gx_a κ 57)), (1, .int v1), (3, .int v3), (4, .int v4), (6, .int v6), (7, .int v7)] rfl (by decide) ?_
          refine gx_sub [1, 2, 3, 4, 0, 5, 6] rfl ?_
          exact B93 _ _ _ _ _ h
      · refine gx_goto (tgt := 103) Cx eX8_who_81 (by decide) ?_
        exact B103 _ _ _ _ _ h
  have L56 : ∀  (n : Nat) (v4 : Int32) (v5 : Int32) (v6 : Int32) (v7 : Int32) (M : gx_Mem), f_X8_who_l56 v1 v3 n v4 v5 v6 v7 M = some (r9, M9) → gx_G κ Γ 56 [(0, .ref (gx_a κ 57)), (1, .int v1), (3, .int v3), (4, .int v4), (5, .int v5), (6, .int v6), (7, .int v7)] [] M := by
    intro n
    induction n with
    | zero => intro v4 v5 v6 v7 M h; exact gx_loop_0 h
    | succ n ih => intro v4 v5 v6 v7 M h; exact K56 (fun v4 v5 v6 v7 M => f_X8_who_l56 v1 v3 n v4 v5 v6 v7 M) ih v4 v5 v6 v7 M h
  have h := hf
  refine gx_iload_n Cx eX8_who_0 1 rfl ?_
  obtain ⟨y2, h1, h⟩ := gx_bP_of h
  refine gx_callSI Cx my_X8_isShelf wlX8_154 (by decide) rfl eX8_who_1 (c_X8_isShelf κ h1) rfl (Nat.le_of_ble_eq_true rfl) ?_
  refine gx_if_eq (tgt := 23) Cx eX8_who_4 (by decide) h (fun h => ?_) (fun h => ?_)
  · refine gx_iconst (v := (-1 : Int32)) Cx eX8_who_23 (by decide) ?_
    exact gx_rI h rfl eX8_who_24 hR
  · refine gx_iload_n Cx eX8_who_7 2 rfl ?_
    obtain ⟨y4, h3, h⟩ := gx_bP_of h
    refine gx_callSI Cx my_X8_isHour wlX8_173 (by decide) rfl eX8_who_8 (c_X8_isHour κ h3) rfl (Nat.le_of_ble_eq_true rfl) ?_
    refine gx_if_eq (tgt := 23) Cx eX8_who_11 (by decide) h (fun h => ?_) (fun h => ?_)
    · refine gx_iconst (v := (-1 : Int32)) Cx eX8_who_23 (by decide) ?_
      exact gx_rI h rfl eX8_who_24 hR
    · refine gx_iload_n Cx eX8_who_14 3 rfl ?_
      refine gx_iconst (v := (0 : Int32)) Cx eX8_who_15 (by decide) ?_
      refine gx_iconst (v := (2 : Int32)) Cx eX8_who_16 (by decide) ?_
      obtain ⟨y6, h5, h⟩ := gx_bP_of h
      refine gx_callSI Cx my_X8_in wlX8_136 (by decide) rfl eX8_who_17 (c_X8_in κ h5) rfl (Nat.le_of_ble_eq_true rfl) ?_
      refine gx_if_ne (tgt := 25) Cx eX8_who_20 (by decide) h (fun h => ?_) (fun h => ?_)
      · refine gx_aload_n Cx eX8_who_25 0 rfl ?_
        refine gx_iload_n Cx eX8_who_26 1 rfl ?_
        obtain ⟨y8, h7, h⟩ := gx_bP_of h
        refine gx_callVI (ci := 8) Cx my_X8_rowFault wlX8_321 rfl gx_y57 (by decide) rfl eX8_who_27 (c_X8_rowFault κ h7) rfl (Nat.le_of_ble_eq_true rfl) ?_
        refine gx_if_ge (tgt := 39) Cx eX8_who_30 (by decide) h (fun h => ?_) (fun h => ?_)
        · refine gx_aload_n Cx eX8_who_39 0 rfl ?_
          obtain ⟨M10, h9, h⟩ := gx_bP_of h
          refine gx_callVV (ci := 8) Cx my_X8_layNow wlX8_290 rfl gx_y57 (by decide) rfl eX8_who_40 (c_X8_layNow κ h9) rfl (Nat.le_of_ble_eq_true rfl) ?_
          refine gx_iconst (v := (0 : Int32)) Cx eX8_who_43 (by decide) ?_
          refine gx_istore Cx eX8_who_44 [(4, .int (0 : Int32)), (0, .ref (gx_a κ 57)), (1, .int v1), (2, .int v2), (3, .int v3)] rfl (by decide) ?_
          refine gx_bipush (v := (-2 : Int32)) Cx eX8_who_46 (by decide) ?_
          refine gx_istore Cx eX8_who_48 [(5, .int (-2 : Int32)), (4, .int (0 : Int32)), (0, .ref (gx_a κ 57)), (1, .int v1), (2, .int v2), (3, .int v3)] rfl (by decide) ?_
          refine gx_iconst (v := (-1 : Int32)) Cx eX8_who_50 (by decide) ?_
          refine gx_istore Cx eX8_who_51 [(6, .int (-1 : Int32)), (5, .int (-2 : Int32)), (4, .int (0 : Int32)), (0, .ref (gx_a κ 57)), (1, .int v1), (2, .int v2), (3, .int v3)] rfl (by decide) ?_
          refine gx_iconst (v := (0 : Int32)) Cx eX8_who_53 (by decide) ?_
          refine gx_istore Cx eX8_who_54 [(7, .int (0 : Int32)), (6, .int (-1 : Int32)), (5, .int (-2 : Int32)), (4, .int (0 : Int32)), (0, .ref (gx_a κ 57)), (1, .int v1), (2, .int v2), (3, .int v3)] rfl (by decide) ?_
          refine gx_sub [4, 5, 7, 3, 2, 1, 0] rfl ?_
          exact L56 _ _ _ _ _ _ h
        · refine gx_aload_n Cx eX8_who_33 0 rfl ?_
          refine gx_iload_n Cx eX8_who_34 1 rfl ?_
          obtain ⟨y12, h11, h⟩ := gx_bP_of h
          refine gx_callVI (ci := 8) Cx my_X8_rowFault wlX8_321 rfl gx_y57 (by decide) rfl eX8_who_35 (c_X8_rowFault κ h11) rfl (Nat.le_of_ble_eq_true rfl) ?_
          exact gx_rI h rfl eX8_who_38 hR
      · refine gx_iconst (v := (-1 : Int32)) Cx eX8_who_23 (by decide) ?_
        exact gx_rI h rfl eX8_who_24 hR
set_option maxHeartbeats 4000000 in
set_option maxRecDepth 100000 in
theorem c_X8_wipe (κ : gx_K) {v1 : Int32} {M : gx_Mem} {r9 : Int32} {M9 : gx_Mem} (hf : f_X8_wipe v1 M = some (r9, M9)) : gx_CI κ yX8_wipe cX8_wipe 4 (some .int) 2 [.ref (gx_a κ 57), .int v1] M r9 M9 := by
  refine gx_enterI (d := 2) my_X8_wipe.1 (by decide) (Nat.le_of_ble_eq_true rfl) (fun Γ Cx hR => ?_)
  change gx_G κ Γ 0 [(0, .ref (gx_a κ 57)), (1, .int v1)] [] M
  have K14 : ∀  (ag14 : Int32 → Int32 → gx_Mem → Option (Int32 × gx_Mem)) (hag14 : ∀ (v2 : Int32) (v3 : Int32) (M : gx_Mem), ag14 v2 v3 M = some (r9, M9) → gx_G κ Γ 14 [(0, .ref (gx_a κ 57)), (1, .int v1), (2, .int v2), (3, .int v3)] [] M) (v2 : Int32) (v3 : Int32) (M : gx_Mem), f_X8_wipe_k14 v1 ag14 v2 v3 M = some (r9, M9) → gx_G κ Γ 14 [(0, .ref (gx_a κ 57)), (1, .int v1), (2, .int v2), (3, .int v3)] [] M := by
    intro ag14 hag14
    intro v2 v3 M h
    refine gx_iload_n Cx eX8_wipe_14 3 rfl ?_
    refine gx_iconst (v := (4 : Int32)) Cx eX8_wipe_15 (by decide) ?_
    refine gx_icmp_ge (tgt := 49) Cx eX8_wipe_16 (by decide) h (fun h => ?_) (fun h => ?_)
    · refine gx_aload_n Cx eX8_wipe_49 0 rfl ?_
      refine gfX8_95 Cx eX8_wipe_50 ?_
      refine gx_iconst (v := (4 : Int32)) Cx eX8_wipe_53 (by decide) ?_
      refine gx_dup2 Cx eX8_wipe_54 rfl rfl ?_
      refine gx_ialdC (α := Unit) (b := none) Cx gx_y85 eX8_wipe_55 (by decide) ?_
      refine gx_iload_n Cx eX8_wipe_56 2 rfl ?_
      refine gx_iadd Cx eX8_wipe_57 ?_
      refine gx_iastC Cx gx_y85 eX8_wipe_58 (by decide) h (fun M3 h => ?_)
      refine gx_iload_n Cx eX8_wipe_59 2 rfl ?_
      exact gx_rI h rfl eX8_wipe_60 hR
    · refine gx_iload_n Cx eX8_wipe_19 2 rfl ?_
      refine gx_aload_n Cx eX8_wipe_20 0 rfl ?_
      refine gfX8_21 Cx eX8_wipe_21 ?_
      refine gx_iconst (v := (4 : Int32)) Cx eX8_wipe_24 (by decide) ?_
      refine gx_iload_n Cx eX8_wipe_25 1 rfl ?_
      refine gx_imul Cx eX8_wipe_26 ?_
      refine gx_iload_n Cx eX8_wipe_27 3 rfl ?_
      refine gx_iadd Cx eX8_wipe_28 ?_
      refine gx_iald Cx gx_y61 eX8_wipe_29 h (fun h => ?_)
      refine gx_iadd Cx eX8_wipe_30 ?_
      refine gx_nmI h (fun x4 h => ?_)
      refine gx_istore_n Cx eX8_wipe_31 [(2, .int x4), (0, .ref (gx_a κ 57)), (1, .int v1), (3, .int v3)] rfl (by decide) ?_
      refine gx_aload_n Cx eX8_wipe_32 1 rfl ?_
      refine gfX8_21 Cx eX8_wipe_33 ?_
      refine gx_iconst (v := (4 : Int32)) Cx eX8_wipe_36 (by decide) ?_
      refine gx_iload_n Cx eX8_wipe_37 2 rfl ?_
      refine gx_imul Cx eX8_wipe_38 ?_
      refine gx_iload_n Cx eX8_wipe_39 3 rfl ?_
      refine gx_iadd Cx eX8_wipe_40 ?_
      refine gx_iconst (v := (0 : Int32)) Cx eX8_wipe_41 (by decide) ?_
      refine gx_iast Cx gx_y61 eX8_wipe_42 h (fun M5 h => ?_)
      refine gx_iinc (v := (1 : Int32)) (i := 3) (j := 3) Cx eX8_wipe_43 (by decide) h 3 rfl (fun w => [(3, .int w), (2, .int x4), (0, .ref (gx_a κ 57)), (1, .int v1)]) (fun _ => rfl) (by decide) (fun x6 h => ?_)
      refine gx_goto (tgt := 14) Cx eX8_wipe_46 (by decide) ?_
      refine gx_sub [2, 3, 1, 0] rfl ?_
      exact hag14 _ _ _ h
  have L14 : ∀  (n : Nat) (v2 : Int32) (v3 : Int32) (M : gx_Mem), f_X8_wipe_l14 v1 n v2 v3 M = some (r9, M9) → gx_G κ Γ 14 [(0, .ref (gx_a κ 57)), (1, .int v1), (2, .int v2), (3, .int v3)] [] M := by
    intro n
    induction n with
    | zero => intro v2 v3 M h; exact gx_loop_0 h
    | succ n ih => intro v2 v3 M h; exact K14 (fun v2 v3 M => f_X8_wipe_l14 v1 n v2 v3 M) ih v2 v3 M h
  have h := hf
  refine gx_aload_n Cx eX8_wipe_0 0 rfl ?_
  refine gx_iload_n Cx eX8_wipe_1 1 rfl ?_
  obtain ⟨y2, h1, h⟩ := gx_bP_of h
  refine gx_callVI (ci := 8) Cx my_X8_isOne wlX8_140 rfl gx_y57 (by decide) rfl eX8_wipe_2 (c_X8_isOne κ h1) rfl (Nat.le_of_ble_eq_true rfl) ?_
  refine gx_if_ne (tgt := 10) Cx eX8_wipe_5 (by decide) h (fun h => ?_) (fun h => ?_)
  · refine gx_iconst (v := (0 : Int32)) Cx eX8_wipe_10 (by decide) ?_
    refine gx_istore_n Cx eX8_wipe_11 [(2, .int (0 : Int32)), (0, .ref (gx_a κ 57)), (1, .int v1)] rfl (by decide) ?_
    refine gx_iconst (v := (0 : Int32)) Cx eX8_wipe_12 (by decide) ?_
    refine gx_istore_n Cx eX8_wipe_13 [(3, .int (0 : Int32)), (2, .int (0 : Int32)), (0, .ref (gx_a κ 57)), (1, .int v1)] rfl (by decide) ?_
    refine gx_sub [2, 3, 1, 0] rfl ?_
    exact L14 _ _ _ _ h
  · refine gx_iconst (v := (-1 : Int32)) Cx eX8_wipe_8 (by decide) ?_
    exact gx_rI h rfl eX8_wipe_9 hR

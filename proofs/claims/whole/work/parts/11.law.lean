def f_X3_isSingle (v0 : Int32) (M : gx_Mem) : Option Int32 := (if v0 = (59 : Int32) then some (1 : Int32) else (if v0 = (63 : Int32) then some (1 : Int32) else (if v0 = (126 : Int32) then some (1 : Int32) else (if v0 = (33 : Int32) then some (1 : Int32) else some (0 : Int32)))))
def f_X3_joined (v0 : Int32) (v1 : Int32) (v2 : Int32) (M : gx_Mem) : Option Int32 := if v0 = (37 : Int32) then (if v2 = 0 then some (0 : Int32) else gx_gd (decide (¬ v2 = 0)) (some (gx_rem v1 v2))) else (if v0 = (38 : Int32) then (if v1 = 0 then some (0 : Int32) else (if v2 = 0 then some (0 : Int32) else some (1 : Int32))) else (if v0 = (42 : Int32) then some (v1 * v2) else (if v0 = (43 : Int32) then some (v1 + v2) else (if v0 = (45 : Int32) then some (v1 - v2) else (if v0 = (47 : Int32) then (if v2 = 0 then some (0 : Int32) else gx_gd (decide (¬ v2 = 0)) (some (v1 / v2))) else (if v0 = (60 : Int32) then (if v2 ≤ v1 then some (0 : Int32) else some (1 : Int32)) else (if v0 = (61 : Int32) then (if v1 = v2 then some (1 : Int32) else some (0 : Int32)) else (if v0 = (62 : Int32) then (if v1 ≤ v2 then some (0 : Int32) else some (1 : Int32)) else (if v0 = (124 : Int32) then (if v1 = 0 then (if v2 = 0 then some (0 : Int32) else some (1 : Int32)) else some (1 : Int32)) else (some (0 : Int32)))))))))))
def f_X3_worth_b292  (ag6 : Int32 → Int32 → Int32 → gx_Mem → Option (Int32 × gx_Mem)) (v1 : Int32) (v2 : Int32) (v3 : Int32) (M : gx_Mem) : Option (Int32 × gx_Mem) := gx_let (v3 + (1 : Int32)) (fun x4 => ag6 v1 v2 x4 M)
def f_X3_worth_b131  (ag6 : Int32 → Int32 → Int32 → gx_Mem → Option (Int32 × gx_Mem)) (v1 : Int32) (v2 : Int32) (v3 : Int32) (s1 : Int32) (s2 : Int32) (M : gx_Mem) : Option (Int32 × gx_Mem) := gx_gd (gx_in s1 128) (gx_let (gx_sI M 3 s1.toNatClampNeg s2) (fun M12 => gx_let (v1 + (1 : Int32)) (fun x13 => f_X3_worth_b292 ag6 x13 v2 v3 M12)))
def f_X3_worth_b99  (ag6 : Int32 → Int32 → Int32 → gx_Mem → Option (Int32 × gx_Mem)) (v1 : Int32) (v2 : Int32) (v3 : Int32) (v4 : Int32) (M : gx_Mem) : Option (Int32 × gx_Mem) := (if v4 = (35 : Int32) then gx_gd (gx_in v3 128) (f_X3_worth_b131 ag6 v1 v2 v3 v1 (M.1 2 v3.toNatClampNeg) M) else gx_gd (gx_in v3 128) (gx_gd (gx_in (M.1 2 v3.toNatClampNeg) 6) (f_X3_worth_b131 ag6 v1 v2 v3 v1 (M.1 4 (M.1 2 v3.toNatClampNeg).toNatClampNeg) M)))
def f_X3_worth_b63  (ag6 : Int32 → Int32 → Int32 → gx_Mem → Option (Int32 × gx_Mem)) (v1 : Int32) (v2 : Int32) (v3 : Int32) (v4 : Int32) (M : gx_Mem) : Option (Int32 × gx_Mem) := (if (128 : Int32) ≤ v1 then some ((0 : Int32), M) else (if v4 = (36 : Int32) then gx_gd (gx_in v3 128) ((if (M.1 2 v3.toNatClampNeg) < 0 then some ((0 : Int32), M) else gx_gd (gx_in v3 128) ((if (M.1 2 v3.toNatClampNeg) < (6 : Int32) then f_X3_worth_b99 ag6 v1 v2 v3 v4 M else some ((0 : Int32), M))))) else f_X3_worth_b99 ag6 v1 v2 v3 v4 M))
def f_X3_worth_b258  (ag6 : Int32 → Int32 → Int32 → gx_Mem → Option (Int32 × gx_Mem)) (v1 : Int32) (v2 : Int32) (v3 : Int32) (s1 : Int32) (s2 : Int32) (M : gx_Mem) : Option (Int32 × gx_Mem) := gx_gd (gx_in s1 128) (gx_let (gx_sI M 3 s1.toNatClampNeg s2) (fun M11 => f_X3_worth_b292 ag6 v1 v2 v3 M11))
def f_X3_worth_b197  (ag6 : Int32 → Int32 → Int32 → gx_Mem → Option (Int32 × gx_Mem)) (v1 : Int32) (v3 : Int32) (s0 : Int32) (M : gx_Mem) : Option (Int32 × gx_Mem) := f_X3_worth_b292 ag6 v1 s0 v3 M
def f_X3_worth_b152  (ag6 : Int32 → Int32 → Int32 → gx_Mem → Option (Int32 × gx_Mem)) (v1 : Int32) (v2 : Int32) (v3 : Int32) (v4 : Int32) (s0 : Int32) (s1 : Int32) (M : gx_Mem) : Option (Int32 × gx_Mem) := (if s1 ≤ s0 then (if v4 = (59 : Int32) then gx_gd (gx_in (v1 - (1 : Int32)) 128) (some ((M.1 3 (v1 - (1 : Int32)).toNatClampNeg), M)) else (if v4 = (63 : Int32) then gx_let (v1 + (-1 : Int32)) (fun x10 => gx_gd (gx_in x10 128) ((if (M.1 3 x10.toNatClampNeg) = 0 then f_X3_worth_b197 ag6 x10 v3 (1 : Int32) M else f_X3_worth_b197 ag6 x10 v3 (0 : Int32) M))) else (if v4 = (126 : Int32) then gx_gd (gx_in (v1 - (1 : Int32)) 128) (gx_gd (gx_in (v1 - (1 : Int32)) 128) (gx_let (gx_sI M 3 (v1 - (1 : Int32)).toNatClampNeg (-(M.1 3 (v1 - (1 : Int32)).toNatClampNeg))) (fun M9 => f_X3_worth_b292 ag6 v1 v2 v3 M9))) else (if v4 = (33 : Int32) then gx_gd (gx_in (v1 - (1 : Int32)) 128) ((if (M.1 3 (v1 - (1 : Int32)).toNatClampNeg) = 0 then f_X3_worth_b258 ag6 v1 v2 v3 (v1 - (1 : Int32)) (1 : Int32) M else f_X3_worth_b258 ag6 v1 v2 v3 (v1 - (1 : Int32)) (0 : Int32) M)) else gx_let (v1 + (-1 : Int32)) (fun x5 => gx_gd (gx_in (x5 - (1 : Int32)) 128) (gx_gd (gx_in x5 128) (gx_bP (f_X3_joined v4 (M.1 3 (x5 - (1 : Int32)).toNatClampNeg) (M.1 3 x5.toNatClampNeg) M) (fun y7 => gx_gd (gx_in (x5 - (1 : Int32)) 128) (gx_let (gx_sI M 3 (x5 - (1 : Int32)).toNatClampNeg y7) (fun M8 => f_X3_worth_b292 ag6 x5 v2 v3 M8)))))))))) else some ((0 : Int32), M))
def f_X3_worth_b45  (ag6 : Int32 → Int32 → Int32 → gx_Mem → Option (Int32 × gx_Mem)) (v1 : Int32) (v3 : Int32) (s0 : Int32) (M : gx_Mem) : Option (Int32 × gx_Mem) := f_X3_worth_b292 ag6 v1 s0 v3 M
def f_X3_worth_k6    (ag6 : Int32 → Int32 → Int32 → gx_Mem → Option (Int32 × gx_Mem)) (v1 : Int32) (v2 : Int32) (v3 : Int32) (M : gx_Mem) : Option (Int32 × gx_Mem) := (if (M.1 0 4) ≤ v3 then some ((0 : Int32), M) else (if (128 : Int32) ≤ v3 then some ((0 : Int32), M) else gx_gd (gx_in v3 128) (gx_let (M.1 1 v3.toNatClampNeg) (fun x1 => (if v2 = 0 then (if x1 = (35 : Int32) then f_X3_worth_b63 ag6 v1 v2 v3 x1 M else (if x1 = (36 : Int32) then f_X3_worth_b63 ag6 v1 v2 v3 x1 M else gx_bP (f_X3_isSingle x1 M) (fun y3 => (if y3 = 0 then f_X3_worth_b152 ag6 v1 v2 v3 x1 v1 (2 : Int32) M else f_X3_worth_b152 ag6 v1 v2 v3 x1 v1 (1 : Int32) M)))) else (if x1 = (59 : Int32) then f_X3_worth_b45 ag6 v1 v3 (0 : Int32) M else f_X3_worth_b45 ag6 v1 v3 (1 : Int32) M))))))
def f_X3_worth_l6    (n : Nat) (v1 : Int32) (v2 : Int32) (v3 : Int32) (M : gx_Mem) : Option (Int32 × gx_Mem) := gx_loop (fun (ag6 : Int32 × Int32 × Int32 × gx_Mem → Option (Int32 × gx_Mem)) (s : Int32 × Int32 × Int32 × gx_Mem) => f_X3_worth_k6 (fun v1 v2 v3 M => ag6 (v1, v2, v3, M)) s.1 s.2.1 s.2.2.1 s.2.2.2) n (v1, v2, v3, M)
def f_X3_worth (M : gx_Mem) : Option (Int32 × gx_Mem) := f_X3_worth_l6 gx_fuel (0 : Int32) (0 : Int32) (0 : Int32) M
def f_X3_lets_b70   (v1 : Int32) (v7 : Int32) (M : gx_Mem) : Option (Int32 × gx_Mem) := some ((gx_max (0 : Int32) (gx_min v1 v7)), M)
def f_X3_lets (v1 : Int32) (v2 : Int32) (v3 : Int32) (v4 : Int32) (v5 : Int32) (v6 : Int32) (M : gx_Mem) : Option (Int32 × gx_Mem) := (if (M.1 0 4) = 0 then gx_let ((v1 - v2) - (v3 / (3 : Int32))) (fun x10 => f_X3_lets_b70 v1 x10 M) else gx_let (gx_sI M 4 (0 : Int32).toNatClampNeg v1) (fun M1 => gx_let (gx_sI M1 4 (1 : Int32).toNatClampNeg v2) (fun M2 => gx_let (gx_sI M2 4 (2 : Int32).toNatClampNeg v3) (fun M3 => gx_let (gx_sI M3 4 (3 : Int32).toNatClampNeg v4) (fun M4 => gx_let (gx_sI M4 4 (4 : Int32).toNatClampNeg v5) (fun M5 => gx_let (gx_sI M5 4 (5 : Int32).toNatClampNeg v6) (fun M6 => gx_bI (f_X3_worth M6) (fun y8 M9 => f_X3_lets_b70 v1 y8 M9))))))))
def f_X3_adopt (M : gx_Mem) : Option gx_Mem := gx_gd (gx_cpk (0 : Int32) (0 : Int32) (128 : Int32) 128 128) (gx_let (gx_cI M 7 (0 : Int32).toNatClampNeg 1 (0 : Int32).toNatClampNeg (128 : Int32).toNatClampNeg) (fun M1 => gx_gd (gx_cpk (0 : Int32) (0 : Int32) (128 : Int32) 128 128) (gx_let (gx_cI M1 8 (0 : Int32).toNatClampNeg 2 (0 : Int32).toNatClampNeg (128 : Int32).toNatClampNeg) (fun M2 => gx_let (gx_sI M2 0 4 (M2.1 5 5)) (fun M3 => some M3)))))
set_option maxHeartbeats 4000000 in
set_option maxRecDepth 100000 in
theorem c_X3_isSingle (κ : gx_K) {v0 : Int32} {M : gx_Mem} {r9 : Int32} (hf : f_X3_isSingle v0 M = some r9) : gx_CI κ yX3_isSingle cX3_isSingle 1 (some .boolean) 0 [.int v0] M r9 M := by
  refine gx_enterI (d := 0) my_X3_isSingle.1 (by decide) (Nat.le_of_ble_eq_true rfl) (fun Γ Cx hR => ?_)
  change gx_G κ Γ 0 [(0, .int v0)] [] M
  have h := hf
  refine gx_iload_n Cx eX3_isSingle_0 0 rfl ?_
  refine gx_bipush (v := (59 : Int32)) Cx eX3_isSingle_1 (by decide) ?_
  refine gx_icmp_eq (tgt := 24) Cx eX3_isSingle_3 (by decide) h (fun h => ?_) (fun h => ?_)
  · refine gx_iconst (v := (1 : Int32)) Cx eX3_isSingle_24 (by decide) ?_
    refine gx_goto (tgt := 29) Cx eX3_isSingle_25 (by decide) ?_
    exact gx_rIp h (by decide) eX3_isSingle_29 hR
  · refine gx_iload_n Cx eX3_isSingle_6 0 rfl ?_
    refine gx_bipush (v := (63 : Int32)) Cx eX3_isSingle_7 (by decide) ?_
    refine gx_icmp_eq (tgt := 24) Cx eX3_isSingle_9 (by decide) h (fun h => ?_) (fun h => ?_)
    · refine gx_iconst (v := (1 : Int32)) Cx eX3_isSingle_24 (by decide) ?_
      refine gx_goto (tgt := 29) Cx eX3_isSingle_25 (by decide) ?_
      exact gx_rIp h (by decide) eX3_isSingle_29 hR
    · refine gx_iload_n Cx eX3_isSingle_12 0 rfl ?_
      refine gx_bipush (v := (126 : Int32)) Cx eX3_isSingle_13 (by decide) ?_
      refine gx_icmp_eq (tgt := 24) Cx eX3_isSingle_15 (by decide) h (fun h => ?_) (fun h => ?_)
      · refine gx_iconst (v := (1 : Int32)) Cx eX3_isSingle_24 (by decide) ?_
        refine gx_goto (tgt := 29) Cx eX3_isSingle_25 (by decide) ?_
        exact gx_rIp h (by decide) eX3_isSingle_29 hR
      · refine gx_iload_n Cx eX3_isSingle_18 0 rfl ?_
        refine gx_bipush (v := (33 : Int32)) Cx eX3_isSingle_19 (by decide) ?_
        refine gx_icmp_ne (tgt := 28) Cx eX3_isSingle_21 (by decide) h (fun h => ?_) (fun h => ?_)
        · refine gx_iconst (v := (0 : Int32)) Cx eX3_isSingle_28 (by decide) ?_
          exact gx_rIp h (by decide) eX3_isSingle_29 hR
        · refine gx_iconst (v := (1 : Int32)) Cx eX3_isSingle_24 (by decide) ?_
          refine gx_goto (tgt := 29) Cx eX3_isSingle_25 (by decide) ?_
          exact gx_rIp h (by decide) eX3_isSingle_29 hR
set_option maxHeartbeats 4000000 in
set_option maxRecDepth 100000 in
theorem c_X3_joined (κ : gx_K) {v0 : Int32} {v1 : Int32} {v2 : Int32} {M : gx_Mem} {r9 : Int32} (hf : f_X3_joined v0 v1 v2 M = some r9) : gx_CI κ yX3_joined cX3_joined 3 (some .int) 0 [.int v0, .int v1, .int v2] M r9 M := by
  refine gx_enterI (d := 0) my_X3_joined.1 (by decide) (Nat.le_of_ble_eq_true rfl) (fun Γ Cx hR => ?_)
  change gx_G κ Γ 0 [(0, .int v0), (1, .int v1), (2, .int v2)] [] M
  have h := hf
  refine gx_iload_n Cx eX3_joined_0 0 rfl ?_
  refine gx_case (37 : Int32) h (fun h => ?_) (fun n37 h => ?_)
  · refine gx_lsw (tgt := 116) (off := 115) Cx eX3_joined_1 (by decide) (by decide) (by decide) ?_
    refine gx_iload_n Cx eX3_joined_116 2 rfl ?_
    refine gx_if_ne (tgt := 124) Cx eX3_joined_117 (by decide) h (fun h => ?_) (fun h => ?_)
    · refine gx_iload_n Cx eX3_joined_124 1 rfl ?_
      refine gx_iload_n Cx eX3_joined_125 2 rfl ?_
      refine gx_irem Cx eX3_joined_126 h (fun h => ?_)
      exact gx_rIp h rfl eX3_joined_127 hR
    · refine gx_iconst (v := (0 : Int32)) Cx eX3_joined_120 (by decide) ?_
      refine gx_goto (tgt := 127) Cx eX3_joined_121 (by decide) ?_
      exact gx_rIp h rfl eX3_joined_127 hR
  refine gx_case (38 : Int32) h (fun h => ?_) (fun n38 h => ?_)
  · refine gx_lsw (tgt := 161) (off := 160) Cx eX3_joined_1 (by decide) (by decide) (by decide) ?_
    refine gx_iload_n Cx eX3_joined_161 1 rfl ?_
    refine gx_if_eq (tgt := 173) Cx eX3_joined_162 (by decide) h (fun h => ?_) (fun h => ?_)
    · refine gx_iconst (v := (0 : Int32)) Cx eX3_joined_173 (by decide) ?_
      exact gx_rIp h rfl eX3_joined_174 hR
    · refine gx_iload_n Cx eX3_joined_165 2 rfl ?_
      refine gx_if_eq (tgt := 173) Cx eX3_joined_166 (by decide) h (fun h => ?_) (fun h => ?_)
      · refine gx_iconst (v := (0 : Int32)) Cx eX3_joined_173 (by decide) ?_
        exact gx_rIp h rfl eX3_joined_174 hR
      · refine gx_iconst (v := (1 : Int32)) Cx eX3_joined_169 (by decide) ?_
        refine gx_goto (tgt := 174) Cx eX3_joined_170 (by decide) ?_
        exact gx_rIp h rfl eX3_joined_174 hR
  refine gx_case (42 : Int32) h (fun h => ?_) (fun n42 h => ?_)
  · refine gx_lsw (tgt := 100) (off := 99) Cx eX3_joined_1 (by decide) (by decide) (by decide) ?_
    refine gx_iload_n Cx eX3_joined_100 1 rfl ?_
    refine gx_iload_n Cx eX3_joined_101 2 rfl ?_
    refine gx_imul Cx eX3_joined_102 ?_
    exact gx_rIp h rfl eX3_joined_103 hR
  refine gx_case (43 : Int32) h (fun h => ?_) (fun n43 h => ?_)
  · refine gx_lsw (tgt := 92) (off := 91) Cx eX3_joined_1 (by decide) (by decide) (by decide) ?_
    refine gx_iload_n Cx eX3_joined_92 1 rfl ?_
    refine gx_iload_n Cx eX3_joined_93 2 rfl ?_
    refine gx_iadd Cx eX3_joined_94 ?_
    exact gx_rIp h rfl eX3_joined_95 hR
  refine gx_case (45 : Int32) h (fun h => ?_) (fun n45 h => ?_)
  · refine gx_lsw (tgt := 96) (off := 95) Cx eX3_joined_1 (by decide) (by decide) (by decide) ?_
    refine gx_iload_n Cx eX3_joined_96 1 rfl ?_
    refine gx_iload_n Cx eX3_joined_97 2 rfl ?_
    refine gx_isub Cx eX3_joined_98 ?_
    exact gx_rIp h rfl eX3_joined_99 hR
  refine gx_case (47 : Int32) h (fun h => ?_) (fun n47 h => ?_)
  · refine gx_lsw (tgt := 104) (off := 103) Cx eX3_joined_1 (by decide) (by decide) (by decide) ?_
    refine gx_iload_n Cx eX3_joined_104 2 rfl ?_
    refine gx_if_ne (tgt := 112) Cx eX3_joined_105 (by decide) h (fun h => ?_) (fun h => ?_)
    · refine gx_iload_n Cx eX3_joined_112 1 rfl ?_
      refine gx_iload_n Cx eX3_joined_113 2 rfl ?_
      refine gx_idiv Cx eX3_joined_114 h (fun h => ?_)
      exact gx_rIp h rfl eX3_joined_115 hR
    · refine gx_iconst (v := (0 : Int32)) Cx eX3_joined_108 (by decide) ?_
      refine gx_goto (tgt := 115) Cx eX3_joined_109 (by decide) ?_
      exact gx_rIp h rfl eX3_joined_115 hR
  refine gx_case (60 : Int32) h (fun h => ?_) (fun n60 h => ?_)
  · refine gx_lsw (tgt := 128) (off := 127) Cx eX3_joined_1 (by decide) (by decide) (by decide) ?_
    refine gx_iload_n Cx eX3_joined_128 1 rfl ?_
    refine gx_iload_n Cx eX3_joined_129 2 rfl ?_
    refine gx_icmp_ge (tgt := 137) Cx eX3_joined_130 (by decide) h (fun h => ?_) (fun h => ?_)
    · refine gx_iconst (v := (0 : Int32)) Cx eX3_joined_137 (by decide) ?_
      exact gx_rIp h rfl eX3_joined_138 hR
    · refine gx_iconst (v := (1 : Int32)) Cx eX3_joined_133 (by decide) ?_
      refine gx_goto (tgt := 138) Cx eX3_joined_134 (by decide) ?_
      exact gx_rIp h rfl eX3_joined_138 hR
  refine gx_case (61 : Int32) h (fun h => ?_) (fun n61 h => ?_)
  · refine gx_lsw (tgt := 139) (off := 138) Cx eX3_joined_1 (by decide) (by decide) (by decide) ?_
    refine gx_iload_n Cx eX3_joined_139 1 rfl ?_
    refine gx_iload_n Cx eX3_joined_140 2 rfl ?_
    refine gx_icmp_ne (tgt := 148) Cx eX3_joined_141 (by decide) h (fun h => ?_) (fun h => ?_)
    · refine gx_iconst (v := (0 : Int32)) Cx eX3_joined_148 (by decide) ?_
      exact gx_rIp h rfl eX3_joined_149 hR
    · refine gx_iconst (v := (1 : Int32)) Cx eX3_joined_144 (by decide) ?_
      refine gx_goto (tgt := 149) Cx eX3_joined_145 (by decide) ?_
      exact gx_rIp h rfl eX3_joined_149 hR
  refine gx_case (62 : Int32) h (fun h => ?_) (fun n62 h => ?_)
  · refine gx_lsw (tgt := 150) (off := 149) Cx eX3_joined_1 (by decide) (by decide) (by decide) ?_
    refine gx_iload_n Cx eX3_joined_150 1 rfl ?_
    refine gx_iload_n Cx eX3_joined_151 2 rfl ?_
    refine gx_icmp_le (tgt := 159) Cx eX3_joined_152 (by decide) h (fun h => ?_) (fun h => ?_)
    · refine gx_iconst (v := (0 : Int32)) Cx eX3_joined_159 (by decide) ?_
      exact gx_rIp h rfl eX3_joined_160 hR
    · refine gx_iconst (v := (1 : Int32)) Cx eX3_joined_155 (by decide) ?_
      refine gx_goto (tgt := 160) Cx eX3_joined_156 (by decide) ?_
      exact gx_rIp h rfl eX3_joined_160 hR
  refine gx_case (124 : Int32) h (fun h => ?_) (fun n124 h => ?_)
  · refine gx_lsw (tgt := 175) (off := 174) Cx eX3_joined_1 (by decide) (by decide) (by decide) ?_
    refine gx_iload_n Cx eX3_joined_175 1 rfl ?_
    refine gx_if_ne (tgt := 183) Cx eX3_joined_176 (by decide) h (fun h => ?_) (fun h => ?_)
    · refine gx_iconst (v := (1 : Int32)) Cx eX3_joined_183 (by decide) ?_
      refine gx_goto (tgt := 188) Cx eX3_joined_184 (by decide) ?_
      exact gx_rIp h rfl eX3_joined_188 hR
    · refine gx_iload_n Cx eX3_joined_179 2 rfl ?_
      refine gx_if_eq (tgt := 187) Cx eX3_joined_180 (by decide) h (fun h => ?_) (fun h => ?_)
      · refine gx_iconst (v := (0 : Int32)) Cx eX3_joined_187 (by decide) ?_
        exact gx_rIp h rfl eX3_joined_188 hR
      · refine gx_iconst (v := (1 : Int32)) Cx eX3_joined_183 (by decide) ?_
        refine gx_goto (tgt := 188) Cx eX3_joined_184 (by decide) ?_
        exact gx_rIp h rfl eX3_joined_188 hR
  refine gx_lsw (tgt := 189) (off := 188) Cx eX3_joined_1 (by decide) (gx_lsw_none (List.forall_mem_cons.mpr ⟨gx_neT (k := 37) n37 (by decide), List.forall_mem_cons.mpr ⟨gx_neT (k := 38) n38 (by decide), List.forall_mem_cons.mpr ⟨gx_neT (k := 42) n42 (by decide), List.forall_mem_cons.mpr ⟨gx_neT (k := 43) n43 (by decide), List.forall_mem_cons.mpr ⟨gx_neT (k := 45) n45 (by decide), List.forall_mem_cons.mpr ⟨gx_neT (k := 47) n47 (by decide), List.forall_mem_cons.mpr ⟨gx_neT (k := 60) n60 (by decide), List.forall_mem_cons.mpr ⟨gx_neT (k := 61) n61 (by decide), List.forall_mem_cons.mpr ⟨gx_neT (k := 62) n62 (by decide), List.forall_mem_cons.mpr ⟨gx_neT (k := 124) n124 (by decide), fun _ h => absurd h List.not_mem_nil⟩⟩⟩⟩⟩⟩⟩⟩⟩⟩)) (by decide) ?_
  refine gx_iconst (v := (0 : Int32)) Cx eX3_joined_189 (by decide) ?_
  exact gx_rIp h rfl eX3_joined_190 hR
set_option maxHeartbeats 4000000 in
set_option maxRecDepth 100000 in
theorem c_X3_worth (κ : gx_K)  {M : gx_Mem} {r9 : Int32} {M9 : gx_Mem} (hf : f_X3_worth M = some (r9, M9)) : gx_CI κ yX3_worth cX3_worth 5 (some .int) 1 [.ref (gx_a κ 0)] M r9 M9 := by
  refine gx_enterI (d := 1) my_X3_worth.1 (by decide) (Nat.le_of_ble_eq_true rfl) (fun Γ Cx hR => ?_)
  change gx_G κ Γ 0 [(0, .ref (gx_a κ 0))] [] M
  have K6 : ∀  (ag6 : Int32 → Int32 → Int32 → gx_Mem → Option (Int32 × gx_Mem)) (hag6 : ∀ (v1 : Int32) (v2 : Int32) (v3 : Int32) (M : gx_Mem), ag6 v1 v2 v3 M = some (r9, M9) → gx_G κ Γ 6 [(0, .ref (gx_a κ 0)), (1, .int v1), (2, .int v2), (3, .int v3)] [] M) (v1 : Int32) (v2 : Int32) (v3 : Int32) (M : gx_Mem), f_X3_worth_k6 ag6 v1 v2 v3 M = some (r9, M9) → gx_G κ Γ 6 [(0, .ref (gx_a κ 0)), (1, .int v1), (2, .int v2), (3, .int v3)] [] M := by
    intro ag6 hag6
    have B292 : ∀ (v1 : Int32) (v2 : Int32) (v3 : Int32) (M : gx_Mem), f_X3_worth_b292 ag6 v1 v2 v3 M = some (r9, M9) → gx_G κ Γ 292 [(0, .ref (gx_a κ 0)), (1, .int v1), (2, .int v2), (3, .int v3)] [] M := by
      intro v1 v2 v3 M h
      refine gx_iinc (v := (1 : Int32)) (i := 3) (j := 3) Cx eX3_worth_292 (by decide) h 3 rfl (fun w => [(3, .int w), (0, .ref (gx_a κ 0)), (1, .int v1), (2, .int v2)]) (fun _ => rfl) (by decide) (fun x4 h => ?_)
      refine gx_goto (tgt := 6) Cx eX3_worth_295 (by decide) ?_
      refine gx_sub [1, 2, 3, 0] rfl ?_
      exact hag6 _ _ _ _ h
    have B131 : ∀ (v1 : Int32) (v2 : Int32) (v3 : Int32) (s1 : Int32) (s2 : Int32) (M : gx_Mem), f_X3_worth_b131 ag6 v1 v2 v3 s1 s2 M = some (r9, M9) → gx_G κ Γ 131 [(0, .ref (gx_a κ 0)), (1, .int v1), (2, .int v2), (3, .int v3)] [.int s2, .int s1, .ref (gx_a κ 3)] M := by
      intro v1 v2 v3 s1 s2 M h
      refine gx_iast Cx gx_y3 eX3_worth_131 h (fun M12 h => ?_)
      refine gx_iinc (v := (1 : Int32)) (i := 1) (j := 1) Cx eX3_worth_132 (by decide) h 1 rfl (fun w => [(1, .int w), (0, .ref (gx_a κ 0)), (2, .int v2), (3, .int v3)]) (fun _ => rfl) (by decide) (fun x13 h => ?_)
      refine gx_goto (tgt := 292) Cx eX3_worth_135 (by decide) ?_
      refine gx_sub [1, 0, 2, 3] rfl ?_
      exact B292 _ _ _ _ h
    have B99 : ∀ (v1 : Int32) (v2 : Int32) (v3 : Int32) (v4 : Int32) (M : gx_Mem), f_X3_worth_b99 ag6 v1 v2 v3 v4 M = some (r9, M9) → gx_G κ Γ 99 [(0, .ref (gx_a κ 0)), (1, .int v1), (2, .int v2), (3, .int v3), (4, .int v4)] [] M := by
      intro v1 v2 v3 v4 M h
      refine gx_aload_n Cx eX3_worth_99 0 rfl ?_
      refine gfX3_18 Cx eX3_worth_100 ?_
      refine gx_iload_n Cx eX3_worth_103 1 rfl ?_
      refine gx_iload Cx eX3_worth_104 4 rfl ?_
      refine gx_bipush (v := (35 : Int32)) Cx eX3_worth_106 (by decide) ?_
      refine gx_icmp_ne (tgt := 120) Cx eX3_worth_108 (by decide) h (fun h => ?_) (fun h => ?_)
      · refine gx_aload_n Cx eX3_worth_120 0 rfl ?_
        refine gfX3_21 Cx eX3_worth_121 ?_
        refine gx_aload_n Cx eX3_worth_124 0 rfl ?_
        refine gfX3_15 Cx eX3_worth_125 ?_
        refine gx_iload_n Cx eX3_worth_128 3 rfl ?_
        refine gx_iald Cx gx_y2 eX3_worth_129 h (fun h => ?_)
        refine gx_iald Cx gx_y4 eX3_worth_130 h (fun h => ?_)
        refine gx_sub [0, 1, 2, 3] rfl ?_
        exact B131 _ _ _ _ _ _ h
      · refine gx_aload_n Cx eX3_worth_111 0 rfl ?_
        refine gfX3_15 Cx eX3_worth_112 ?_
        refine gx_iload_n Cx eX3_worth_115 3 rfl ?_
        refine gx_iald Cx gx_y2 eX3_worth_116 h (fun h => ?_)
        refine gx_goto (tgt := 131) Cx eX3_worth_117 (by decide) ?_
        refine gx_sub [0, 1, 2, 3] rfl ?_
        exact B131 _ _ _ _ _ _ h
    have B63 : ∀ (v1 : Int32) (v2 : Int32) (v3 : Int32) (v4 : Int32) (M : gx_Mem), f_X3_worth_b63 ag6 v1 v2 v3 v4 M = some (r9, M9) → gx_G κ Γ 63 [(0, .ref (gx_a κ 0)), (1, .int v1), (2, .int v2), (3, .int v3), (4, .int v4)] [] M := by
      intro v1 v2 v3 v4 M h
      refine gx_iload_n Cx eX3_worth_63 1 rfl ?_
      refine gx_sipush (v := (128 : Int32)) Cx eX3_worth_64 (by decide) ?_
      refine gx_icmp_ge (tgt := 97) Cx eX3_worth_67 (by decide) h (fun h => ?_) (fun h => ?_)
      · refine gx_iconst (v := (0 : Int32)) Cx eX3_worth_97 (by decide) ?_
        exact gx_rI h rfl eX3_worth_98 hR
      · refine gx_iload Cx eX3_worth_70 4 rfl ?_
        refine gx_bipush (v := (36 : Int32)) Cx eX3_worth_72 (by decide) ?_
        refine gx_icmp_ne (tgt := 99) Cx eX3_worth_74 (by decide) h (fun h => ?_) (fun h => ?_)
        · exact B99 _ _ _ _ _ h
        · refine gx_aload_n Cx eX3_worth_77 0 rfl ?_
          refine gfX3_15 Cx eX3_worth_78 ?_
          refine gx_iload_n Cx eX3_worth_81 3 rfl ?_
          refine gx_iald Cx gx_y2 eX3_worth_82 h (fun h => ?_)
          refine gx_if_lt (tgt := 97) Cx eX3_worth_83 (by decide) h (fun h => ?_) (fun h => ?_)
          · refine gx_iconst (v := (0 : Int32)) Cx eX3_worth_97 (by decide) ?_
            exact gx_rI h rfl eX3_worth_98 hR
          · refine gx_aload_n Cx eX3_worth_86 0 rfl ?_
            refine gfX3_15 Cx eX3_worth_87 ?_
            refine gx_iload_n Cx eX3_worth_90 3 rfl ?_
            refine gx_iald Cx gx_y2 eX3_worth_91 h (fun h => ?_)
            refine gx_bipush (v := (6 : Int32)) Cx eX3_worth_92 (by decide) ?_
            refine gx_icmp_lt (tgt := 99) Cx eX3_worth_94 (by decide) h (fun h => ?_) (fun h => ?_)
            · exact B99 _ _ _ _ _ h
            · refine gx_iconst (v := (0 : Int32)) Cx eX3_worth_97 (by decide) ?_
              exact gx_rI h rfl eX3_worth_98 hR
    have B258 : ∀ (v1 : Int32) (v2 : Int32) (v3 : Int32) (s1 : Int32) (s2 : Int32) (M : gx_Mem), f_X3_worth_b258 ag6 v1 v2 v3 s1 s2 M = some (r9, M9) → gx_G κ Γ 258 [(0, .ref (gx_a κ 0)), (1, .int v1), (2, .int v2), (3, .int v3)] [.int s2, .int s1, .ref (gx_a κ 3)] M := by
      intro v1 v2 v3 s1 s2 M h
      refine gx_iast Cx gx_y3 eX3_worth_258 h (fun M11 h => ?_)
      refine gx_goto (tgt := 292) Cx eX3_worth_259 (by decide) ?_
      exact B292 _ _ _ _ h
    have B197 : ∀ (v1 : Int32) (v3 : Int32) (s0 : Int32) (M : gx_Mem), f_X3_worth_b197 ag6 v1 v3 s0 M = some (r9, M9) → gx_G κ Γ 197 [(0, .ref (gx_a κ 0)), (1, .int v1), (3, .int v3)] [.int s0] M := by
      intro v1 v3 s0 M h
      refine gx_istore_n Cx eX3_worth_197 [(2, .int s0), (0, .ref (gx_a κ 0)), (1, .int v1), (3, .int v3)] rfl (by decide) ?_
      refine gx_goto (tgt := 292) Cx eX3_worth_198 (by decide) ?_
      refine gx_sub [1, 2, 0, 3] rfl ?_
      exact B292 _ _ _ _ h
    have B152 : ∀ (v1 : Int32) (v2 : Int32) (v3 : Int32) (v4 : Int32) (s0 : Int32) (s1 : Int32) (M : gx_Mem), f_X3_worth_b152 ag6 v1 v2 v3 v4 s0 s1 M = some (r9, M9) → gx_G κ Γ 152 [(0, .ref (gx_a κ 0)), (1, .int v1), (2, .int v2), (3, .int v3), (4, .int v4)] [.int s1, .int s0] M := by
      intro v1 v2 v3 v4 s0 s1 M h
      refine gx_icmp_ge (tgt := 157) Cx eX3_worth_152 (by decide) h (fun h => ?_) (fun h => ?_)
      · refine gx_iload Cx eX3_worth_157 4 rfl ?_
        refine gx_bipush (v := (59 : Int32)) Cx eX3_worth_159 (by decide) ?_
        refine gx_icmp_ne (tgt := 173) Cx eX3_worth_161 (by decide) h (fun h => ?_) (fun h => ?_)
        · refine gx_iload Cx eX3_worth_173 4 rfl ?_
          refine gx_bipush (v := (63 : Int32)) Cx eX3_worth_175 (by decide) ?_
          refine gx_icmp_ne (tgt := 201) Cx eX3_worth_177 (by decide) h (fun h => ?_) (fun h => ?_)
          · refine gx_iload Cx eX3_worth_201 4 rfl ?_
            refine gx_bipush (v := (126 : Int32)) Cx eX3_worth_203 (by decide) ?_
            refine gx_icmp_ne (tgt := 228) Cx eX3_worth_205 (by decide) h (fun h => ?_) (fun h => ?_)
            · refine gx_iload Cx eX3_worth_228 4 rfl ?_
              refine gx_bipush (v := (33 : Int32)) Cx eX3_worth_230 (by decide) ?_
              refine gx_icmp_ne (tgt := 262) Cx eX3_worth_232 (by decide) h (fun h => ?_) (fun h => ?_)
              · refine gx_iinc (v := (-1 : Int32)) (i := 1) (j := 1) Cx eX3_worth_262 (by decide) h 1 rfl (fun w => [(1, .int w), (0, .ref (gx_a κ 0)), (2, .int v2), (3, .int v3), (4, .int v4)]) (fun _ => rfl) (by decide) (fun x5 h => ?_)
                refine gx_aload_n Cx eX3_worth_265 1 rfl ?_
                refine gfX3_18 Cx eX3_worth_266 ?_
                refine gx_iload_n Cx eX3_worth_269 0 rfl ?_
                refine gx_iconst (v := (1 : Int32)) Cx eX3_worth_270 (by decide) ?_
                refine gx_isub Cx eX3_worth_271 ?_
                refine gx_iload Cx eX3_worth_272 4 rfl ?_
                refine gx_aload_n Cx eX3_worth_274 1 rfl ?_
                refine gfX3_18 Cx eX3_worth_275 ?_
                refine gx_iload_n Cx eX3_worth_278 0 rfl ?_
                refine gx_iconst (v := (1 : Int32)) Cx eX3_worth_279 (by decide) ?_
                refine gx_isub Cx eX3_worth_280 ?_
                refine gx_iald Cx gx_y3 eX3_worth_281 h (fun h => ?_)
                refine gx_aload_n Cx eX3_worth_282 1 rfl ?_
                refine gfX3_18 Cx eX3_worth_283 ?_
                refine gx_iload_n Cx eX3_worth_286 0 rfl ?_
                refine gx_iald Cx gx_y3 eX3_worth_287 h (fun h => ?_)
                obtain ⟨y7, h6, h⟩ := gx_bP_of h
                refine gx_callSI Cx my_X3_joined wlX3_58 (by decide) rfl eX3_worth_288 (c_X3_joined κ h6) rfl (Nat.le_of_ble_eq_true rfl) ?_
                refine gx_iast Cx gx_y3 eX3_worth_291 h (fun M8 h => ?_)
                refine gx_sub [1, 0, 2, 3] rfl ?_
                exact B292 _ _ _ _ h
              · refine gx_aload_n Cx eX3_worth_235 0 rfl ?_
                refine gfX3_18 Cx eX3_worth_236 ?_
                refine gx_iload_n Cx eX3_worth_239 1 rfl ?_
                refine gx_iconst (v := (1 : Int32)) Cx eX3_worth_240 (by decide) ?_
                refine gx_isub Cx eX3_worth_241 ?_
                refine gx_aload_n Cx eX3_worth_242 0 rfl ?_
                refine gfX3_18 Cx eX3_worth_243 ?_
                refine gx_iload_n Cx eX3_worth_246 1 rfl ?_
                refine gx_iconst (v := (1 : Int32)) Cx eX3_worth_247 (by decide) ?_
                refine gx_isub Cx eX3_worth_248 ?_
                refine gx_iald Cx gx_y3 eX3_worth_249 h (fun h => ?_)
                refine gx_if_ne (tgt := 257) Cx eX3_worth_250 (by decide) h (fun h => ?_) (fun h => ?_)
                · refine gx_iconst (v := (0 : Int32)) Cx eX3_worth_257 (by decide) ?_
                  refine gx_sub [0, 1, 2, 3] rfl ?_
                  exact B258 _ _ _ _ _ _ h
                · refine gx_iconst (v := (1 : Int32)) Cx eX3_worth_253 (by decide) ?_
                  refine gx_goto (tgt := 258) Cx eX3_worth_254 (by decide) ?_
                  refine gx_sub [0, 1, 2, 3] rfl ?_
                  exact B258 _ _ _ _ _ _ h
            · refine gx_aload_n Cx eX3_worth_208 0 rfl ?_
              refine gfX3_18 Cx eX3_worth_209 ?_
              refine gx_iload_n Cx eX3_worth_212 1 rfl ?_
              refine gx_iconst (v := (1 : Int32)) Cx eX3_worth_213 (by decide) ?_
              refine gx_isub Cx eX3_worth_214 ?_
              refine gx_aload_n Cx eX3_worth_215 0 rfl ?_
              refine gfX3_18 Cx eX3_worth_216 ?_
              refine gx_iload_n Cx eX3_worth_219 1 rfl ?_
              refine gx_iconst (v := (1 : Int32)) Cx eX3_worth_220 (by decide) ?_
              refine gx_isub Cx eX3_worth_221 ?_
              refine gx_iald Cx gx_y3 eX3_worth_222 h (fun h => ?_)
              refine gx_ineg Cx eX3_worth_223 ?_
              refine gx_iast Cx gx_y3 eX3_worth_224 h (fun M9 h => ?_)
              refine gx_goto (tgt := 292) Cx eX3_worth_225 (by decide) ?_
              refine gx_sub [0, 1, 2, 3] rfl ?_
              exact B292 _ _ _ _ h
          · refine gx_iinc (v := (-1 : Int32)) (i := 1) (j := 1) Cx eX3_worth_180 (by decide) h 1 rfl (fun w => [(1, .int w), (0, .ref (gx_a κ 0)), (2, .int v2), (3, .int v3), (4, .int v4)]) (fun _ => rfl) (by decide) (fun x10 h => ?_)
            refine gx_aload_n Cx eX3_worth_183 1 rfl ?_
            refine gfX3_18 Cx eX3_worth_184 ?_
            refine gx_iload_n Cx eX3_worth_187 0 rfl ?_
            refine gx_iald Cx gx_y3 eX3_worth_188 h (fun h => ?_)
            refine gx_if_ne (tgt := 196) Cx eX3_worth_189 (by decide) h (fun h => ?_) (fun h => ?_)
            · refine gx_iconst (v := (0 : Int32)) Cx eX3_worth_196 (by decide) ?_
              refine gx_sub [1, 0, 3] rfl ?_
              exact B197 _ _ _ _ h
            · refine gx_iconst (v := (1 : Int32)) Cx eX3_worth_192 (by decide) ?_
              refine gx_goto (tgt := 197) Cx eX3_worth_193 (by decide) ?_
              refine gx_sub [1, 0, 3] rfl ?_
              exact B197 _ _ _ _ h
        · refine gx_aload_n Cx eX3_worth_164 0 rfl ?_
          refine gfX3_18 Cx eX3_worth_165 ?_
          refine gx_iload_n Cx eX3_worth_168 1 rfl ?_
          refine gx_iconst (v := (1 : Int32)) Cx eX3_worth_169 (by decide) ?_
          refine gx_isub Cx eX3_worth_170 ?_
          refine gx_iald Cx gx_y3 eX3_worth_171 h (fun h => ?_)
          exact gx_rI h rfl eX3_worth_172 hR
      · refine gx_iconst (v := (0 : Int32)) Cx eX3_worth_155 (by decide) ?_
        exact gx_rI h rfl eX3_worth_156 hR
    have B45 : ∀ (v1 : Int32) (v3 : Int32) (s0 : Int32) (M : gx_Mem), f_X3_worth_b45 ag6 v1 v3 s0 M = some (r9, M9) → gx_G κ Γ 45 [(0, .ref (gx_a κ 0)), (1, .int v1), (3, .int v3)] [.int s0] M := by
      intro v1 v3 s0 M h
      refine gx_istore_n Cx eX3_worth_45 [(2, .int s0), (0, .ref (gx_a κ 0)), (1, .int v1), (3, .int v3)] rfl (by decide) ?_
      refine gx_goto (tgt := 292) Cx eX3_worth_46 (by decide) ?_
      refine gx_sub [1, 2, 0, 3] rfl ?_
      exact B292 _ _ _ _ h
    intro v1 v2 v3 M h
    refine gx_iload_n Cx eX3_worth_6 3 rfl ?_
    refine gx_aload_n Cx eX3_worth_7 0 rfl ?_
    refine gfX3_24 Cx eX3_worth_8 ?_
    refine gx_icmp_ge (tgt := 298) Cx eX3_worth_11 (by decide) h (fun h => ?_) (fun h => ?_)
    · refine gx_iconst (v := (0 : Int32)) Cx eX3_worth_298 (by decide) ?_
      exact gx_rI h rfl eX3_worth_299 hR
    · refine gx_iload_n Cx eX3_worth_14 3 rfl ?_
      refine gx_sipush (v := (128 : Int32)) Cx eX3_worth_15 (by decide) ?_
      refine gx_icmp_ge (tgt := 298) Cx eX3_worth_18 (by decide) h (fun h => ?_) (fun h => ?_)
      · refine gx_iconst (v := (0 : Int32)) Cx eX3_worth_298 (by decide) ?_
        exact gx_rI h rfl eX3_worth_299 hR
      · refine gx_aload_n Cx eX3_worth_21 0 rfl ?_
        refine gfX3_9 Cx eX3_worth_22 ?_
        refine gx_iload_n Cx eX3_worth_25 3 rfl ?_
        refine gx_iald Cx gx_y1 eX3_worth_26 h (fun h => ?_)
        refine gx_nmI h (fun x1 h => ?_)
        refine gx_istore Cx eX3_worth_27 [(4, .int x1), (0, .ref (gx_a κ 0)), (1, .int v1), (2, .int v2), (3, .int v3)] rfl (by decide) ?_
        refine gx_iload_n Cx eX3_worth_29 3 rfl ?_
        refine gx_if_eq (tgt := 49) Cx eX3_worth_30 (by decide) h (fun h => ?_) (fun h => ?_)
        · refine gx_iload Cx eX3_worth_49 0 rfl ?_
          refine gx_bipush (v := (35 : Int32)) Cx eX3_worth_51 (by decide) ?_
          refine gx_icmp_eq (tgt := 63) Cx eX3_worth_53 (by decide) h (fun h => ?_) (fun h => ?_)
          · refine gx_sub [1, 2, 3, 4, 0] rfl ?_
            exact B63 _ _ _ _ _ h
          · refine gx_iload Cx eX3_worth_56 0 rfl ?_
            refine gx_bipush (v := (36 : Int32)) Cx eX3_worth_58 (by decide) ?_
            refine gx_icmp_ne (tgt := 138) Cx eX3_worth_60 (by decide) h (fun h => ?_) (fun h => ?_)
            · refine gx_iload_n Cx eX3_worth_138 2 rfl ?_
              refine gx_iload Cx eX3_worth_139 0 rfl ?_
              obtain ⟨y3, h2, h⟩ := gx_bP_of h
              refine gx_callSI Cx my_X3_isSingle wlX3_54 (by decide) rfl eX3_worth_141 (c_X3_isSingle κ h2) rfl (Nat.le_of_ble_eq_true rfl) ?_
              refine gx_if_eq (tgt := 151) Cx eX3_worth_144 (by decide) h (fun h => ?_) (fun h => ?_)
              · refine gx_iconst (v := (2 : Int32)) Cx eX3_worth_151 (by decide) ?_
                refine gx_sub [1, 2, 3, 4, 0] rfl ?_
                exact B152 _ _ _ _ _ _ _ h
              · refine gx_iconst (v := (1 : Int32)) Cx eX3_worth_147 (by decide) ?_
                refine gx_goto (tgt := 152) Cx eX3_worth_148 (by decide) ?_
                refine gx_sub [1, 2, 3, 4, 0] rfl ?_
                exact B152 _ _ _ _ _ _ _ h
            · refine gx_sub [1, 2, 3, 4, 0] rfl ?_
              exact B63 _ _ _ _ _ h
        · refine gx_iload Cx eX3_worth_33 0 rfl ?_
          refine gx_bipush (v := (59 : Int32)) Cx eX3_worth_35 (by decide) ?_
          refine gx_icmp_eq (tgt := 44) Cx eX3_worth_37 (by decide) h (fun h => ?_) (fun h => ?_)
          · refine gx_iconst (v := (0 : Int32)) Cx eX3_worth_44 (by decide) ?_
            refine gx_sub [1, 2, 4] rfl ?_
            exact B45 _ _ _ _ h
          · refine gx_iconst (v := (1 : Int32)) Cx eX3_worth_40 (by decide) ?_
            refine gx_goto (tgt := 45) Cx eX3_worth_41 (by decide) ?_
            refine gx_sub [1, 2, 4] rfl ?_
            exact B45 _ _ _ _ h
  have L6 : ∀  (n : Nat) (v1 : Int32) (v2 : Int32) (v3 : Int32) (M : gx_Mem), f_X3_worth_l6 n v1 v2 v3 M = some (r9, M9) → gx_G κ Γ 6 [(0, .ref (gx_a κ 0)), (1, .int v1), (2, .int v2), (3, .int v3)] [] M := by
    intro n
    induction n with
    | zero => intro v1 v2 v3 M h; exact gx_loop_0 h
    | succ n ih => intro v1 v2 v3 M h; exact K6 (fun v1 v2 v3 M => f_X3_worth_l6 n v1 v2 v3 M) ih v1 v2 v3 M h
  have h := hf
  refine gx_iconst (v := (0 : Int32)) Cx eX3_worth_0 (by decide) ?_
  refine gx_istore_n Cx eX3_worth_1 [(1, .int (0 : Int32)), (0, .ref (gx_a κ 0))] rfl (by decide) ?_
  refine gx_iconst (v := (0 : Int32)) Cx eX3_worth_2 (by decide) ?_
  refine gx_istore_n Cx eX3_worth_3 [(2, .int (0 : Int32)), (1, .int (0 : Int32)), (0, .ref (gx_a κ 0))] rfl (by decide) ?_
  refine gx_iconst (v := (0 : Int32)) Cx eX3_worth_4 (by decide) ?_
  refine gx_istore_n Cx eX3_worth_5 [(3, .int (0 : Int32)), (2, .int (0 : Int32)), (1, .int (0 : Int32)), (0, .ref (gx_a κ 0))] rfl (by decide) ?_
  refine gx_sub [3, 2, 1, 0] rfl ?_
  exact L6 _ _ _ _ _ h
set_option maxHeartbeats 4000000 in
set_option maxRecDepth 100000 in
theorem c_X3_lets (κ : gx_K) {v1 : Int32} {v2 : Int32} {v3 : Int32} {v4 : Int32} {v5 : Int32} {v6 : Int32} {M : gx_Mem} {r9 : Int32} {M9 : gx_Mem} (hf : f_X3_lets v1 v2 v3 v4 v5 v6 M = some (r9, M9)) : gx_CI κ yX3_lets cX3_lets 8 (some .int) 2 [.ref (gx_a κ 0), .int v1, .int v2, .int v3, .int v4, .int v5, .int v6] M r9 M9 := by
  refine gx_enterI (d := 2) my_X3_lets.1 (by decide) (Nat.le_of_ble_eq_true rfl) (fun Γ Cx hR => ?_)
  change gx_G κ Γ 0 [(0, .ref (gx_a κ 0)), (1, .int v1), (2, .int v2), (3, .int v3), (4, .int v4), (5, .int v5), (6, .int v6)] [] M
  have B70 : ∀ (v7 : Int32) (M : gx_Mem), f_X3_lets_b70 v1 v7 M = some (r9, M9) → gx_G κ Γ 70 [(1, .int v1), (7, .int v7)] [] M := by
    intro v7 M h
    refine gx_iconst (v := (0 : Int32)) Cx eX3_lets_70 (by decide) ?_
    refine gx_iload_n Cx eX3_lets_71 0 rfl ?_
    refine gx_iload Cx eX3_lets_72 1 rfl ?_
    refine gx_mmin Cx wlX3_45 (Nat.le_of_ble_eq_true rfl) (Nat.le_of_ble_eq_true rfl) eX3_lets_74 ?_
    refine gx_mmax Cx wlX3_51 (Nat.le_of_ble_eq_true rfl) (Nat.le_of_ble_eq_true rfl) eX3_lets_77 ?_
    exact gx_rI h rfl eX3_lets_80 hR
  have h := hf
  refine gx_aload_n Cx eX3_lets_0 0 rfl ?_
  refine gfX3_24 Cx eX3_lets_1 ?_
  refine gx_if_ne (tgt := 19) Cx eX3_lets_4 (by decide) h (fun h => ?_) (fun h => ?_)
  · refine gx_aload_n Cx eX3_lets_19 0 rfl ?_
    refine gfX3_21 Cx eX3_lets_20 ?_
    refine gx_iconst (v := (0 : Int32)) Cx eX3_lets_23 (by decide) ?_
    refine gx_iload_n Cx eX3_lets_24 1 rfl ?_
    refine gx_iastC Cx gx_y4 eX3_lets_25 (by decide) h (fun M1 h => ?_)
    refine gx_aload_n Cx eX3_lets_26 0 rfl ?_
    refine gfX3_21 Cx eX3_lets_27 ?_
    refine gx_iconst (v := (1 : Int32)) Cx eX3_lets_30 (by decide) ?_
    refine gx_iload_n Cx eX3_lets_31 2 rfl ?_
    refine gx_iastC Cx gx_y4 eX3_lets_32 (by decide) h (fun M2 h => ?_)
    refine gx_aload_n Cx eX3_lets_33 0 rfl ?_
    refine gfX3_21 Cx eX3_lets_34 ?_
    refine gx_iconst (v := (2 : Int32)) Cx eX3_lets_37 (by decide) ?_
    refine gx_iload_n Cx eX3_lets_38 3 rfl ?_
    refine gx_iastC Cx gx_y4 eX3_lets_39 (by decide) h (fun M3 h => ?_)
    refine gx_aload_n Cx eX3_lets_40 0 rfl ?_
    refine gfX3_21 Cx eX3_lets_41 ?_
    refine gx_iconst (v := (3 : Int32)) Cx eX3_lets_44 (by decide) ?_
    refine gx_iload Cx eX3_lets_45 4 rfl ?_
    refine gx_iastC Cx gx_y4 eX3_lets_47 (by decide) h (fun M4 h => ?_)
    refine gx_aload_n Cx eX3_lets_48 0 rfl ?_
    refine gfX3_21 Cx eX3_lets_49 ?_
    refine gx_iconst (v := (4 : Int32)) Cx eX3_lets_52 (by decide) ?_
    refine gx_iload Cx eX3_lets_53 5 rfl ?_
    refine gx_iastC Cx gx_y4 eX3_lets_55 (by decide) h (fun M5 h => ?_)
    refine gx_aload_n Cx eX3_lets_56 0 rfl ?_
    refine gfX3_21 Cx eX3_lets_57 ?_
    refine gx_iconst (v := (5 : Int32)) Cx eX3_lets_60 (by decide) ?_
    refine gx_iload Cx eX3_lets_61 6 rfl ?_
    refine gx_iastC Cx gx_y4 eX3_lets_63 (by decide) h (fun M6 h => ?_)
    refine gx_aload_n Cx eX3_lets_64 0 rfl ?_
    obtain ⟨y8, M9, h7, h⟩ := gx_bI_of h
    refine gx_callVI (ci := 3) Cx my_X3_worth wlX3_41 rfl gx_y0 (by decide) rfl eX3_lets_65 (c_X3_worth κ h7) rfl (Nat.le_of_ble_eq_true rfl) ?_
    refine gx_istore Cx eX3_lets_68 [(7, .int y8), (0, .ref (gx_a κ 0)), (1, .int v1), (2, .int v2), (3, .int v3), (4, .int v4), (5, .int v5), (6, .int v6)] rfl (by decide) ?_
    refine gx_sub [2, 0] rfl ?_
    exact B70 _ _ h
  · refine gx_iload_n Cx eX3_lets_7 1 rfl ?_
    refine gx_iload_n Cx eX3_lets_8 2 rfl ?_
    refine gx_isub Cx eX3_lets_9 ?_
    refine gx_iload_n Cx eX3_lets_10 3 rfl ?_
    refine gx_iconst (v := (3 : Int32)) Cx eX3_lets_11 (by decide) ?_
    refine gx_idivC Cx eX3_lets_12 (by decide) ?_
    refine gx_isub Cx eX3_lets_13 ?_
    refine gx_nmI h (fun x10 h => ?_)
    refine gx_istore Cx eX3_lets_14 [(7, .int x10), (0, .ref (gx_a κ 0)), (1, .int v1), (2, .int v2), (3, .int v3), (4, .int v4), (5, .int v5), (6, .int v6)] rfl (by decide) ?_
    refine gx_goto (tgt := 70) Cx eX3_lets_16 (by decide) ?_
    refine gx_sub [2, 0] rfl ?_
    exact B70 _ _ h
set_option maxHeartbeats 4000000 in
set_option maxRecDepth 100000 in
theorem c_X3_adopt (κ : gx_K)  {M : gx_Mem} {M9 : gx_Mem} (hf : f_X3_adopt M = some M9) : gx_CV κ yX3_adopt cX3_adopt 2 none 1 [.ref (gx_a κ 0), .ref (gx_a κ 5)] M M9 := by
  refine gx_enterV (d := 1) my_X3_adopt.1 (by decide) (Nat.le_of_ble_eq_true rfl) (fun Γ Cx hR => ?_)
  change gx_G κ Γ 0 [(0, .ref (gx_a κ 0)), (1, .ref (gx_a κ 5))] [] M
  have h := hf
  refine gx_aload_n Cx eX3_adopt_0 1 rfl ?_
  refine gfX3_28 Cx eX3_adopt_1 ?_
  refine gx_iconst (v := (0 : Int32)) Cx eX3_adopt_4 (by decide) ?_
  refine gx_aload_n Cx eX3_adopt_5 0 rfl ?_
  refine gfX3_9 Cx eX3_adopt_6 ?_
  refine gx_iconst (v := (0 : Int32)) Cx eX3_adopt_9 (by decide) ?_
  refine gx_sipush (v := (128 : Int32)) Cx eX3_adopt_10 (by decide) ?_
  refine gx_copyI Cx wlX3_31 gx_y7 gx_y1 (Nat.le_of_ble_eq_true rfl) (Nat.le_of_ble_eq_true rfl) eX3_adopt_13 h (fun M1 h => ?_)
  refine gx_aload_n Cx eX3_adopt_16 1 rfl ?_
  refine gfX3_37 Cx eX3_adopt_17 ?_
  refine gx_iconst (v := (0 : Int32)) Cx eX3_adopt_20 (by decide) ?_
  refine gx_aload_n Cx eX3_adopt_21 0 rfl ?_
  refine gfX3_15 Cx eX3_adopt_22 ?_
  refine gx_iconst (v := (0 : Int32)) Cx eX3_adopt_25 (by decide) ?_
  refine gx_sipush (v := (128 : Int32)) Cx eX3_adopt_26 (by decide) ?_
  refine gx_copyI Cx wlX3_31 gx_y8 gx_y2 (Nat.le_of_ble_eq_true rfl) (Nat.le_of_ble_eq_true rfl) eX3_adopt_29 h (fun M2 h => ?_)
  refine gx_aload_n Cx eX3_adopt_32 0 rfl ?_
  refine gx_aload_n Cx eX3_adopt_33 1 rfl ?_
  refine gfX3_38 Cx eX3_adopt_34 ?_
  refine pfX3_24 Cx eX3_adopt_37 h (fun M3 h => ?_)
  exact gx_rV h eX3_adopt_40 hR

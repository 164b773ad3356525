def f_X0_owner_k4   (v0 : Int32) (ag4 : Int32 → Int32 → Option Int32) (v2 : Int32) (v3 : Int32) (M : gx_Mem) : Option Int32 := (if (8 : Int32) ≤ v3 then some (-1 : Int32) else (if v2 < 0 then some (-1 : Int32) else (if (8 : Int32) ≤ v2 then some (-1 : Int32) else gx_gd (gx_in ((v0 * (8 : Int32)) + v2) 32) ((if (gx_tab 2 ((v0 * (8 : Int32)) + v2).toNatClampNeg) = 0 then gx_gd (gx_in v2 8) (gx_let (gx_tab 1 v2.toNatClampNeg) (fun x1 => gx_let (v3 + (1 : Int32)) (fun x2 => ag4 x1 x2))) else some v2)))))
def f_X0_owner_l4   (v0 : Int32) (n : Nat) (v2 : Int32) (v3 : Int32) (M : gx_Mem) : Option Int32 := gx_loop (fun (ag4 : Int32 × Int32 → Option Int32) (s : Int32 × Int32) => f_X0_owner_k4 v0 (fun v2 v3 => ag4 (v2, v3)) s.1 s.2 M) n (v2, v3)
def f_X0_owner (v0 : Int32) (v1 : Int32) (M : gx_Mem) : Option Int32 := f_X0_owner_l4 v0 gx_fuel v1 (0 : Int32) M
def f_X0_does_b54 (q_does : Int32 → Int32 → Int32 → Int32 → Int32 → gx_Mem → Option (Int32 × gx_Mem)) (q_plays : Int32 → Int32 → Int32 → Int32 → Int32 → gx_Mem → Option (Int32 × gx_Mem))  (v3 : Int32) (v4 : Int32) (v5 : Int32) (v6 : Int32) (v7 : Int32) (M : gx_Mem) : Option (Int32 × gx_Mem) := gx_let (gx_sI M 40 3 ((M.1 40 3) + (1 : Int32))) (fun M5 => gx_gd (gx_in v6 8) (gx_bI (q_plays v7 (gx_tab 1 v6.toNatClampNeg) v3 v4 (v5 + (1 : Int32)) M5) (fun y7 M8 => some (y7, M8))))
def f_X0_does_o (q_does : Int32 → Int32 → Int32 → Int32 → Int32 → gx_Mem → Option (Int32 × gx_Mem)) (q_plays : Int32 → Int32 → Int32 → Int32 → Int32 → gx_Mem → Option (Int32 × gx_Mem)) (v1 : Int32) (v2 : Int32) (v3 : Int32) (v4 : Int32) (v5 : Int32) (M : gx_Mem) : Option (Int32 × gx_Mem) := gx_bP (f_X0_owner v1 v2 M) (fun y2 => (if y2 < 0 then some ((0 : Int32), M) else (if v5 ≤ (40 : Int32) then gx_gd (gx_in ((v1 * (8 : Int32)) + y2) 32) (gx_let (gx_tab 2 ((v1 * (8 : Int32)) + y2).toNatClampNeg) (fun x3 => (if (24 : Int32) ≤ (M.1 40 3) then f_X0_does_b54 q_does q_plays v3 v4 v5 y2 x3 M else gx_gd (gx_in (M.1 40 3) 24) (gx_let (gx_sI M 42 (M.1 40 3).toNatClampNeg x3) (fun M4 => f_X0_does_b54 q_does q_plays v3 v4 v5 y2 x3 M4))))) else some ((0 : Int32), M))))
def f_X0_plays_o (q_does : Int32 → Int32 → Int32 → Int32 → Int32 → gx_Mem → Option (Int32 × gx_Mem)) (q_plays : Int32 → Int32 → Int32 → Int32 → Int32 → gx_Mem → Option (Int32 × gx_Mem)) (v1 : Int32) (v2 : Int32) (v3 : Int32) (v4 : Int32) (v5 : Int32) (M : gx_Mem) : Option (Int32 × gx_Mem) := gx_gd (gx_in v3 50) (gx_let (M.1 41 v3.toNatClampNeg) (fun x1 => if v1 = (1 : Int32) then some ((v4 + v3), M) else (if v1 = (2 : Int32) then gx_bI (q_does (1 : Int32) x1 v3 v4 v5 M) (fun y3 M4 => gx_bI (q_does (2 : Int32) x1 v3 (1 : Int32) v5 M4) (fun y6 M7 => some ((y3 - y6), M7))) else (if v1 = (10 : Int32) then gx_bI (q_does (0 : Int32) x1 v3 v4 v5 M) (fun y9 M10 => some ((y9 * (2 : Int32)), M10)) else (if v1 = (11 : Int32) then some ((v4 ^^^ v3), M) else (if v1 = (20 : Int32) then gx_bI (q_does (0 : Int32) v2 v3 v4 v5 M) (fun y12 M13 => some ((y12 + (3 : Int32)), M13)) else (if v1 = (30 : Int32) then gx_bI (q_does (1 : Int32) v2 v3 v4 v5 M) (fun y15 M16 => some ((-y15), M16)) else (if v1 = (40 : Int32) then gx_bI (q_does (2 : Int32) v2 v3 v4 v5 M) (fun y18 M19 => some ((y18 * (3 : Int32)), M19)) else (if v1 = (41 : Int32) then gx_bI (q_does (1 : Int32) v2 v3 (v4 + (1 : Int32)) v5 M) (fun y21 M22 => some (y21, M22)) else (if v1 = (50 : Int32) then gx_bI (q_does (3 : Int32) v2 v3 v4 v5 M) (fun y24 M25 => some ((y24 ^^^ (5 : Int32)), M25)) else (if v1 = (60 : Int32) then gx_bI (q_does (2 : Int32) v2 v3 v4 v5 M) (fun y27 M28 => gx_bI (q_does (0 : Int32) x1 v3 (2 : Int32) v5 M28) (fun y30 M31 => some ((y27 - y30), M31))) else (if v1 = (61 : Int32) then gx_bI (q_does (3 : Int32) v2 v3 v4 v5 M) (fun y33 M34 => some ((y33 + (1 : Int32)), M34)) else (if v1 = (70 : Int32) then gx_bI (q_does (0 : Int32) v2 v3 v4 v5 M) (fun y36 M37 => some ((y36 * (2 : Int32)), M37)) else (if v1 = (80 : Int32) then gx_bI (q_does (1 : Int32) v2 v3 v4 v5 M) (fun y39 M40 => gx_bI (q_does (2 : Int32) x1 v3 (2 : Int32) v5 M40) (fun y42 M43 => some ((y39 + y42), M43))) else (if v1 = (81 : Int32) then gx_bI (q_does (0 : Int32) v2 v3 v4 v5 M) (fun y45 M46 => some ((y45 - (1 : Int32)), M46)) else (some ((0 : Int32), M)))))))))))))))))
def f_does_plays_g : Nat → (Int32 → Int32 → Int32 → Int32 → Int32 → gx_Mem → Option (Int32 × gx_Mem)) × (Int32 → Int32 → Int32 → Int32 → Int32 → gx_Mem → Option (Int32 × gx_Mem))
  | 0 => ((fun _ _ _ _ _ _ => none), (fun _ _ _ _ _ _ => none))
  | d + 1 => (fun q : (Int32 → Int32 → Int32 → Int32 → Int32 → gx_Mem → Option (Int32 × gx_Mem)) × (Int32 → Int32 → Int32 → Int32 → Int32 → gx_Mem → Option (Int32 × gx_Mem)) => (f_X0_does_o q.1 q.2, f_X0_plays_o q.1 q.2)) (f_does_plays_g d)
def f_X0_does (d : Nat) : Int32 → Int32 → Int32 → Int32 → Int32 → gx_Mem → Option (Int32 × gx_Mem) := (f_does_plays_g d).1
def f_X0_plays (d : Nat) : Int32 → Int32 → Int32 → Int32 → Int32 → gx_Mem → Option (Int32 × gx_Mem) := (f_does_plays_g d).2
def f_X0_acted (v1 : Int32) (v2 : Int32) (v3 : Int32) (M : gx_Mem) : Option (Int32 × gx_Mem) := gx_let (gx_sI M 40 3 (0 : Int32)) (fun M1 => gx_gd (gx_in v2 50) (gx_bI (f_X0_does gx_dep v1 (M1.1 41 v2.toNatClampNeg) v2 v3 (0 : Int32) M1) (fun y3 M4 => some (y3, M4))))
def f_X0_add (v1 : Int32) (M : gx_Mem) : Option (Int32 × gx_Mem) := gx_gd (gx_in (M.1 40 2) 50) (gx_let (gx_sI M 41 (M.1 40 2).toNatClampNeg v1) (fun M1 => gx_let (gx_sI M1 40 2 ((M1.1 40 2) + (1 : Int32))) (fun M2 => some (((M2.1 40 2) - (1 : Int32)), M2))))
def f_X0_isUnder_k4   (v1 : Int32) (ag4 : Int32 → Int32 → Option Int32) (v2 : Int32) (v3 : Int32) (M : gx_Mem) : Option Int32 := (if (8 : Int32) ≤ v3 then some (0 : Int32) else (if v2 < 0 then some (0 : Int32) else (if (8 : Int32) ≤ v2 then some (0 : Int32) else (if v2 = v1 then some (1 : Int32) else gx_gd (gx_in v2 8) (gx_let (gx_tab 1 v2.toNatClampNeg) (fun x1 => gx_let (v3 + (1 : Int32)) (fun x2 => ag4 x1 x2)))))))
def f_X0_isUnder_l4   (v1 : Int32) (n : Nat) (v2 : Int32) (v3 : Int32) (M : gx_Mem) : Option Int32 := gx_loop (fun (ag4 : Int32 × Int32 → Option Int32) (s : Int32 × Int32) => f_X0_isUnder_k4 v1 (fun v2 v3 => ag4 (v2, v3)) s.1 s.2 M) n (v2, v3)
def f_X0_isUnder (v0 : Int32) (v1 : Int32) (M : gx_Mem) : Option Int32 := f_X0_isUnder_l4 v1 gx_fuel v0 (0 : Int32) M
set_option maxHeartbeats 4000000 in
set_option maxRecDepth 100000 in
theorem c_X0_owner (κ : gx_K) {v0 : Int32} {v1 : Int32} {M : gx_Mem} {r9 : Int32} (hf : f_X0_owner v0 v1 M = some r9) : gx_CI κ yX0_owner cX0_owner 4 (some .int) 0 [.int v0, .int v1] M r9 M := by
  refine gx_enterI (d := 0) my_X0_owner.1 (by decide) (Nat.le_of_ble_eq_true rfl) (fun Γ Cx hR => ?_)
  change gx_G κ Γ 0 [(0, .int v0), (1, .int v1)] [] M
  have K4 : ∀  (ag4 : Int32 → Int32 → Option Int32) (hag4 : ∀ (v2 : Int32) (v3 : Int32), ag4 v2 v3 = some r9 → gx_G κ Γ 4 [(0, .int v0), (2, .int v2), (3, .int v3)] [] M) (v2 : Int32) (v3 : Int32), f_X0_owner_k4 v0 ag4 v2 v3 M = some r9 → gx_G κ Γ 4 [(0, .int v0), (2, .int v2), (3, .int v3)] [] M := by
    intro ag4 hag4
    intro v2 v3 h
    refine gx_iload_n Cx eX0_owner_4 2 rfl ?_
    refine gx_bipush (v := (8 : Int32)) Cx eX0_owner_5 (by decide) ?_
    refine gx_icmp_ge (tgt := 47) Cx eX0_owner_7 (by decide) h (fun h => ?_) (fun h => ?_)
    · refine gx_iconst (v := (-1 : Int32)) Cx eX0_owner_47 (by decide) ?_
      exact gx_rIp h rfl eX0_owner_48 hR
    · refine gx_iload_n Cx eX0_owner_10 1 rfl ?_
      refine gx_if_lt (tgt := 47) Cx eX0_owner_11 (by decide) h (fun h => ?_) (fun h => ?_)
      · refine gx_iconst (v := (-1 : Int32)) Cx eX0_owner_47 (by decide) ?_
        exact gx_rIp h rfl eX0_owner_48 hR
      · refine gx_iload_n Cx eX0_owner_14 1 rfl ?_
        refine gx_bipush (v := (8 : Int32)) Cx eX0_owner_15 (by decide) ?_
        refine gx_icmp_ge (tgt := 47) Cx eX0_owner_17 (by decide) h (fun h => ?_) (fun h => ?_)
        · refine gx_iconst (v := (-1 : Int32)) Cx eX0_owner_47 (by decide) ?_
          exact gx_rIp h rfl eX0_owner_48 hR
        · refine gsX0_28 Cx eX0_owner_20 ?_
          refine gx_iload_n Cx eX0_owner_23 0 rfl ?_
          refine gx_bipush (v := (8 : Int32)) Cx eX0_owner_24 (by decide) ?_
          refine gx_imul Cx eX0_owner_26 ?_
          refine gx_iload_n Cx eX0_owner_27 1 rfl ?_
          refine gx_iadd Cx eX0_owner_28 ?_
          refine gx_tab2ld Cx eX0_owner_29 h (fun h => ?_)
          refine gx_if_eq (tgt := 35) Cx eX0_owner_30 (by decide) h (fun h => ?_) (fun h => ?_)
          · refine gsX0_25 Cx eX0_owner_35 ?_
            refine gx_iload_n Cx eX0_owner_38 1 rfl ?_
            refine gx_tab1ld Cx eX0_owner_39 h (fun h => ?_)
            refine gx_nmI h (fun x1 h => ?_)
            refine gx_istore_n Cx eX0_owner_40 [(2, .int x1), (0, .int v0), (3, .int v3)] rfl (by decide) ?_
            refine gx_iinc (v := (1 : Int32)) (i := 3) (j := 2) Cx eX0_owner_41 (by decide) h 2 rfl (fun w => [(3, .int w), (2, .int x1), (0, .int v0)]) (fun _ => rfl) (by decide) (fun x2 h => ?_)
            refine gx_goto (tgt := 4) Cx eX0_owner_44 (by decide) ?_
            refine gx_sub [2, 1, 0] rfl ?_
            exact hag4 _ _ h
          · refine gx_iload_n Cx eX0_owner_33 1 rfl ?_
            exact gx_rIp h rfl eX0_owner_34 hR
  have L4 : ∀  (n : Nat) (v2 : Int32) (v3 : Int32), f_X0_owner_l4 v0 n v2 v3 M = some r9 → gx_G κ Γ 4 [(0, .int v0), (2, .int v2), (3, .int v3)] [] M := by
    intro n
    induction n with
    | zero => intro v2 v3 h; exact gx_loop_0 h
    | succ n ih => intro v2 v3 h; exact K4 (fun v2 v3 => f_X0_owner_l4 v0 n v2 v3 M) ih v2 v3 h
  have h := hf
  refine gx_iload_n Cx eX0_owner_0 1 rfl ?_
  refine gx_istore_n Cx eX0_owner_1 [(2, .int v1), (0, .int v0), (1, .int v1)] rfl (by decide) ?_
  refine gx_iconst (v := (0 : Int32)) Cx eX0_owner_2 (by decide) ?_
  refine gx_istore_n Cx eX0_owner_3 [(3, .int (0 : Int32)), (2, .int v1), (0, .int v0), (1, .int v1)] rfl (by decide) ?_
  refine gx_sub [2, 1, 0] rfl ?_
  exact L4 _ _ _ h
set_option maxHeartbeats 4000000 in
set_option maxRecDepth 100000 in
theorem c_X0_does_o (κ : gx_K) (dd : Nat) (q_does : Int32 → Int32 → Int32 → Int32 → Int32 → gx_Mem → Option (Int32 × gx_Mem)) (q_plays : Int32 → Int32 → Int32 → Int32 → Int32 → gx_Mem → Option (Int32 × gx_Mem)) (hq_does : ∀ {v1 : Int32} {v2 : Int32} {v3 : Int32} {v4 : Int32} {v5 : Int32} {M : gx_Mem} {r9 : Int32} {M9 : gx_Mem}, q_does v1 v2 v3 v4 v5 M = some (r9, M9) → gx_CI κ yX0_does cX0_does 8 (some .int) (1 + dd) [.ref (gx_a κ 40), .int v1, .int v2, .int v3, .int v4, .int v5] M r9 M9) (hq_plays : ∀ {v1 : Int32} {v2 : Int32} {v3 : Int32} {v4 : Int32} {v5 : Int32} {M : gx_Mem} {r9 : Int32} {M9 : gx_Mem}, q_plays v1 v2 v3 v4 v5 M = some (r9, M9) → gx_CI κ yX0_plays cX0_plays 7 (some .int) (1 + dd) [.ref (gx_a κ 40), .int v1, .int v2, .int v3, .int v4, .int v5] M r9 M9) {v1 : Int32} {v2 : Int32} {v3 : Int32} {v4 : Int32} {v5 : Int32} {M : gx_Mem} {r9 : Int32} {M9 : gx_Mem} (hf : f_X0_does_o q_does q_plays v1 v2 v3 v4 v5 M = some (r9, M9)) : gx_CI κ yX0_does cX0_does 8 (some .int) (1 + dd + 1) [.ref (gx_a κ 40), .int v1, .int v2, .int v3, .int v4, .int v5] M r9 M9 := by
  refine gx_enterI (d := 1 + dd + 1) my_X0_does.1 (by decide) (Nat.le_of_ble_eq_true rfl) (fun Γ Cx hR => ?_)
  change gx_G κ Γ 0 [(0, .ref (gx_a κ 40)), (1, .int v1), (2, .int v2), (3, .int v3), (4, .int v4), (5, .int v5)] [] M
  have B54 : ∀ (v6 : Int32) (v7 : Int32) (M : gx_Mem), f_X0_does_b54 q_does q_plays v3 v4 v5 v6 v7 M = some (r9, M9) → gx_G κ Γ 54 [(0, .ref (gx_a κ 40)), (3, .int v3), (4, .int v4), (5, .int v5), (6, .int v6), (7, .int v7)] [] M := by
    intro v6 v7 M h
    refine gx_aload_n Cx eX0_does_54 0 rfl ?_
    refine gx_dup Cx eX0_does_55 rfl ?_
    refine gfX0_22 Cx eX0_does_56 ?_
    refine gx_iconst (v := (1 : Int32)) Cx eX0_does_59 (by decide) ?_
    refine gx_iadd Cx eX0_does_60 ?_
    refine pfX0_22 Cx eX0_does_61 h (fun M5 h => ?_)
    refine gx_aload_n Cx eX0_does_64 0 rfl ?_
    refine gx_iload Cx eX0_does_65 5 rfl ?_
    refine gsX0_25 Cx eX0_does_67 ?_
    refine gx_iload Cx eX0_does_70 4 rfl ?_
    refine gx_tab1ld Cx eX0_does_72 h (fun h => ?_)
    refine gx_iload_n Cx eX0_does_73 1 rfl ?_
    refine gx_iload Cx eX0_does_74 2 rfl ?_
    refine gx_iload Cx eX0_does_76 3 rfl ?_
    refine gx_iconst (v := (1 : Int32)) Cx eX0_does_78 (by decide) ?_
    refine gx_iadd Cx eX0_does_79 ?_
    obtain ⟨y7, M8, h6, h⟩ := gx_bI_of h
    refine gx_callVI (ci := 0) Cx my_X0_plays wlX0_39 rfl gx_y40 (Nat.le_refl _) rfl eX0_does_80 (hq_plays h6) rfl (Nat.le_of_ble_eq_true rfl) ?_
    exact gx_rI h rfl eX0_does_83 hR
  have h := hf
  refine gx_iload_n Cx eX0_does_0 1 rfl ?_
  refine gx_iload_n Cx eX0_does_1 2 rfl ?_
  obtain ⟨y2, h1, h⟩ := gx_bP_of h
  refine gx_callSI Cx my_X0_owner wlX0_35 (by omega) rfl eX0_does_2 (c_X0_owner κ h1) rfl (Nat.le_of_ble_eq_true rfl) ?_
  refine gx_istore Cx eX0_does_5 [(6, .int y2), (0, .ref (gx_a κ 40)), (1, .int v1), (2, .int v2), (3, .int v3), (4, .int v4), (5, .int v5)] rfl (by decide) ?_
  refine gx_iload Cx eX0_does_7 0 rfl ?_
  refine gx_if_lt (tgt := 19) Cx eX0_does_9 (by decide) h (fun h => ?_) (fun h => ?_)
  · refine gx_iconst (v := (0 : Int32)) Cx eX0_does_19 (by decide) ?_
    exact gx_rI h rfl eX0_does_20 hR
  · refine gx_iload Cx eX0_does_12 6 rfl ?_
    refine gx_bipush (v := (40 : Int32)) Cx eX0_does_14 (by decide) ?_
    refine gx_icmp_le (tgt := 21) Cx eX0_does_16 (by decide) h (fun h => ?_) (fun h => ?_)
    · refine gsX0_28 Cx eX0_does_21 ?_
      refine gx_iload_n Cx eX0_does_24 2 rfl ?_
      refine gx_bipush (v := (8 : Int32)) Cx eX0_does_25 (by decide) ?_
      refine gx_imul Cx eX0_does_27 ?_
      refine gx_iload Cx eX0_does_28 0 rfl ?_
      refine gx_iadd Cx eX0_does_30 ?_
      refine gx_tab2ld Cx eX0_does_31 h (fun h => ?_)
      refine gx_nmI h (fun x3 h => ?_)
      refine gx_istore Cx eX0_does_32 [(7, .int x3), (6, .int y2), (0, .ref (gx_a κ 40)), (1, .int v1), (2, .int v2), (3, .int v3), (4, .int v4), (5, .int v5)] rfl (by decide) ?_
      refine gx_aload_n Cx eX0_does_34 2 rfl ?_
      refine gfX0_22 Cx eX0_does_35 ?_
      refine gx_bipush (v := (24 : Int32)) Cx eX0_does_38 (by decide) ?_
      refine gx_icmp_ge (tgt := 54) Cx eX0_does_40 (by decide) h (fun h => ?_) (fun h => ?_)
      · refine gx_sub [2, 5, 6, 7, 1, 0] rfl ?_
        exact B54 _ _ _ h
      · refine gx_aload_n Cx eX0_does_43 2 rfl ?_
        refine gfX0_15 Cx eX0_does_44 ?_
        refine gx_aload_n Cx eX0_does_47 2 rfl ?_
        refine gfX0_22 Cx eX0_does_48 ?_
        refine gx_iload Cx eX0_does_51 0 rfl ?_
        refine gx_iast Cx gx_y42 eX0_does_53 h (fun M4 h => ?_)
        refine gx_sub [2, 5, 6, 7, 1, 0] rfl ?_
        exact B54 _ _ _ h
    · refine gx_iconst (v := (0 : Int32)) Cx eX0_does_19 (by decide) ?_
      exact gx_rI h rfl eX0_does_20 hR
set_option maxHeartbeats 4000000 in
set_option maxRecDepth 100000 in
theorem c_X0_plays_o (κ : gx_K) (dd : Nat) (q_does : Int32 → Int32 → Int32 → Int32 → Int32 → gx_Mem → Option (Int32 × gx_Mem)) (q_plays : Int32 → Int32 → Int32 → Int32 → Int32 → gx_Mem → Option (Int32 × gx_Mem)) (hq_does : ∀ {v1 : Int32} {v2 : Int32} {v3 : Int32} {v4 : Int32} {v5 : Int32} {M : gx_Mem} {r9 : Int32} {M9 : gx_Mem}, q_does v1 v2 v3 v4 v5 M = some (r9, M9) → gx_CI κ yX0_does cX0_does 8 (some .int) (1 + dd) [.ref (gx_a κ 40), .int v1, .int v2, .int v3, .int v4, .int v5] M r9 M9) (hq_plays : ∀ {v1 : Int32} {v2 : Int32} {v3 : Int32} {v4 : Int32} {v5 : Int32} {M : gx_Mem} {r9 : Int32} {M9 : gx_Mem}, q_plays v1 v2 v3 v4 v5 M = some (r9, M9) → gx_CI κ yX0_plays cX0_plays 7 (some .int) (1 + dd) [.ref (gx_a κ 40), .int v1, .int v2, .int v3, .int v4, .int v5] M r9 M9) {v1 : Int32} {v2 : Int32} {v3 : Int32} {v4 : Int32} {v5 : Int32} {M : gx_Mem} {r9 : Int32} {M9 : gx_Mem} (hf : f_X0_plays_o q_does q_plays v1 v2 v3 v4 v5 M = some (r9, M9)) : gx_CI κ yX0_plays cX0_plays 7 (some .int) (1 + dd + 1) [.ref (gx_a κ 40), .int v1, .int v2, .int v3, .int v4, .int v5] M r9 M9 := by
  refine gx_enterI (d := 1 + dd + 1) my_X0_plays.1 (by decide) (Nat.le_of_ble_eq_true rfl) (fun Γ Cx hR => ?_)
  change gx_G κ Γ 0 [(0, .ref (gx_a κ 40)), (1, .int v1), (2, .int v2), (3, .int v3), (4, .int v4), (5, .int v5)] [] M
  have h := hf
  refine gx_aload_n Cx eX0_plays_0 0 rfl ?_
  refine gfX0_9 Cx eX0_plays_1 ?_
  refine gx_iload_n Cx eX0_plays_4 3 rfl ?_
  refine gx_iald Cx gx_y41 eX0_plays_5 h (fun h => ?_)
  refine gx_nmI h (fun x1 h => ?_)
  refine gx_istore Cx eX0_plays_6 [(6, .int x1), (0, .ref (gx_a κ 40)), (1, .int v1), (2, .int v2), (3, .int v3), (4, .int v4), (5, .int v5)] rfl (by decide) ?_
  refine gx_iload_n Cx eX0_plays_8 2 rfl ?_
  refine gx_case (1 : Int32) h (fun h => ?_) (fun n1 h => ?_)
  · refine gx_lsw (tgt := 132) (off := 123) Cx eX0_plays_9 (by decide) (by decide) (by decide) ?_
    refine gx_iload Cx eX0_plays_132 5 rfl ?_
    refine gx_iload_n Cx eX0_plays_134 4 rfl ?_
    refine gx_iadd Cx eX0_plays_135 ?_
    exact gx_rI h rfl eX0_plays_136 hR
  refine gx_case (2 : Int32) h (fun h => ?_) (fun n2 h => ?_)
  · refine gx_lsw (tgt := 137) (off := 128) Cx eX0_plays_9 (by decide) (by decide) (by decide) ?_
    refine gx_aload_n Cx eX0_plays_137 1 rfl ?_
    refine gx_iconst (v := (1 : Int32)) Cx eX0_plays_138 (by decide) ?_
    refine gx_iload Cx eX0_plays_139 0 rfl ?_
    refine gx_iload_n Cx eX0_plays_141 4 rfl ?_
    refine gx_iload Cx eX0_plays_142 5 rfl ?_
    refine gx_iload Cx eX0_plays_144 6 rfl ?_
    obtain ⟨y3, M4, h2, h⟩ := gx_bI_of h
    refine gx_callVI (ci := 0) Cx my_X0_does wlX0_31 rfl gx_y40 (Nat.le_refl _) rfl eX0_plays_146 (hq_does h2) rfl (Nat.le_of_ble_eq_true rfl) ?_
    refine gx_aload_n Cx eX0_plays_149 1 rfl ?_
    refine gx_iconst (v := (2 : Int32)) Cx eX0_plays_150 (by decide) ?_
    refine gx_iload Cx eX0_plays_151 0 rfl ?_
    refine gx_iload_n Cx eX0_plays_153 4 rfl ?_
    refine gx_iconst (v := (1 : Int32)) Cx eX0_plays_154 (by decide) ?_
    refine gx_iload Cx eX0_plays_155 6 rfl ?_
    obtain ⟨y6, M7, h5, h⟩ := gx_bI_of h
    refine gx_callVI (ci := 0) Cx my_X0_does wlX0_31 rfl gx_y40 (Nat.le_refl _) rfl eX0_plays_157 (hq_does h5) rfl (Nat.le_of_ble_eq_true rfl) ?_
    refine gx_isub Cx eX0_plays_160 ?_
    exact gx_rI h rfl eX0_plays_161 hR
  refine gx_case (10 : Int32) h (fun h => ?_) (fun n10 h => ?_)
  · refine gx_lsw (tgt := 162) (off := 153) Cx eX0_plays_9 (by decide) (by decide) (by decide) ?_
    refine gx_aload_n Cx eX0_plays_162 1 rfl ?_
    refine gx_iconst (v := (0 : Int32)) Cx eX0_plays_163 (by decide) ?_
    refine gx_iload Cx eX0_plays_164 0 rfl ?_
    refine gx_iload_n Cx eX0_plays_166 4 rfl ?_
    refine gx_iload Cx eX0_plays_167 5 rfl ?_
    refine gx_iload Cx eX0_plays_169 6 rfl ?_
    obtain ⟨y9, M10, h8, h⟩ := gx_bI_of h
    refine gx_callVI (ci := 0) Cx my_X0_does wlX0_31 rfl gx_y40 (Nat.le_refl _) rfl eX0_plays_171 (hq_does h8) rfl (Nat.le_of_ble_eq_true rfl) ?_
    refine gx_iconst (v := (2 : Int32)) Cx eX0_plays_174 (by decide) ?_
    refine gx_imul Cx eX0_plays_175 ?_
    exact gx_rI h rfl eX0_plays_176 hR
  refine gx_case (11 : Int32) h (fun h => ?_) (fun n11 h => ?_)
  · refine gx_lsw (tgt := 177) (off := 168) Cx eX0_plays_9 (by decide) (by decide) (by decide) ?_
    refine gx_iload Cx eX0_plays_177 5 rfl ?_
    refine gx_iload_n Cx eX0_plays_179 4 rfl ?_
    refine gx_ixor Cx eX0_plays_180 ?_
    exact gx_rI h rfl eX0_plays_181 hR
  refine gx_case (20 : Int32) h (fun h => ?_) (fun n20 h => ?_)
  · refine gx_lsw (tgt := 182) (off := 173) Cx eX0_plays_9 (by decide) (by decide) (by decide) ?_
    refine gx_aload_n Cx eX0_plays_182 1 rfl ?_
    refine gx_iconst (v := (0 : Int32)) Cx eX0_plays_183 (by decide) ?_
    refine gx_iload_n Cx eX0_plays_184 3 rfl ?_
    refine gx_iload_n Cx eX0_plays_185 4 rfl ?_
    refine gx_iload Cx eX0_plays_186 5 rfl ?_
    refine gx_iload Cx eX0_plays_188 6 rfl ?_
    obtain ⟨y12, M13, h11, h⟩ := gx_bI_of h
    refine gx_callVI (ci := 0) Cx my_X0_does wlX0_31 rfl gx_y40 (Nat.le_refl _) rfl eX0_plays_190 (hq_does h11) rfl (Nat.le_of_ble_eq_true rfl) ?_
    refine gx_iconst (v := (3 : Int32)) Cx eX0_plays_193 (by decide) ?_
    refine gx_iadd Cx eX0_plays_194 ?_
    exact gx_rI h rfl eX0_plays_195 hR
  refine gx_case (30 : Int32) h (fun h => ?_) (fun n30 h => ?_)
  · refine gx_lsw (tgt := 196) (off := 187) Cx eX0_plays_9 (by decide) (by decide) (by decide) ?_
    refine gx_aload_n Cx eX0_plays_196 1 rfl ?_
    refine gx_iconst (v := (1 : Int32)) Cx eX0_plays_197 (by decide) ?_
    refine gx_iload_n Cx eX0_plays_198 3 rfl ?_
    refine gx_iload_n Cx eX0_plays_199 4 rfl ?_
    refine gx_iload Cx eX0_plays_200 5 rfl ?_
    refine gx_iload Cx eX0_plays_202 6 rfl ?_
    obtain ⟨y15, M16, h14, h⟩ := gx_bI_of h
    refine gx_callVI (ci := 0) Cx my_X0_does wlX0_31 rfl gx_y40 (Nat.le_refl _) rfl eX0_plays_204 (hq_does h14) rfl (Nat.le_of_ble_eq_true rfl) ?_
    refine gx_ineg Cx eX0_plays_207 ?_
    exact gx_rI h rfl eX0_plays_208 hR
  refine gx_case (40 : Int32) h (fun h => ?_) (fun n40 h => ?_)
  · refine gx_lsw (tgt := 209) (off := 200) Cx eX0_plays_9 (by decide) (by decide) (by decide) ?_
    refine gx_aload_n Cx eX0_plays_209 1 rfl ?_
    refine gx_iconst (v := (2 : Int32)) Cx eX0_plays_210 (by decide) ?_
    refine gx_iload_n Cx eX0_plays_211 3 rfl ?_
    refine gx_iload_n Cx eX0_plays_212 4 rfl ?_
    refine gx_iload Cx eX0_plays_213 5 rfl ?_
    refine gx_iload Cx eX0_plays_215 6 rfl ?_
    obtain ⟨y18, M19, h17, h⟩ := gx_bI_of h
    refine gx_callVI (ci := 0) Cx my_X0_does wlX0_31 rfl gx_y40 (Nat.le_refl _) rfl eX0_plays_217 (hq_does h17) rfl (Nat.le_of_ble_eq_true rfl) ?_
    refine gx_iconst (v := (3 : Int32)) Cx eX0_plays_220 (by decide) ?_
    refine gx_imul Cx eX0_plays_221 ?_
    exact gx_rI h rfl eX0_plays_222 hR
  refine gx_case (41 : Int32) h (fun h => ?_) (fun n41 h => ?_)
  · refine gx_lsw (tgt := 223) (off := 214) Cx eX0_plays_9 (by decide) (by decide) (by decide) ?_
    refine gx_aload_n Cx eX0_plays_223 1 rfl ?_
    refine gx_iconst (v := (1 : Int32)) Cx eX0_plays_224 (by decide) ?_
    refine gx_iload_n Cx eX0_plays_225 3 rfl ?_
    refine gx_iload_n Cx eX0_plays_226 4 rfl ?_
    refine gx_iload Cx eX0_plays_227 5 rfl ?_
    refine gx_iconst (v := (1 : Int32)) Cx eX0_plays_229 (by decide) ?_
    refine gx_iadd Cx eX0_plays_230 ?_
    refine gx_iload Cx eX0_plays_231 6 rfl ?_
    obtain ⟨y21, M22, h20, h⟩ := gx_bI_of h
    refine gx_callVI (ci := 0) Cx my_X0_does wlX0_31 rfl gx_y40 (Nat.le_refl _) rfl eX0_plays_233 (hq_does h20) rfl (Nat.le_of_ble_eq_true rfl) ?_
    exact gx_rI h rfl eX0_plays_236 hR
  refine gx_case (50 : Int32) h (fun h => ?_) (fun n50 h => ?_)
  · refine gx_lsw (tgt := 237) (off := 228) Cx eX0_plays_9 (by decide) (by decide) (by decide) ?_
    refine gx_aload_n Cx eX0_plays_237 1 rfl ?_
    refine gx_iconst (v := (3 : Int32)) Cx eX0_plays_238 (by decide) ?_
    refine gx_iload_n Cx eX0_plays_239 3 rfl ?_
    refine gx_iload_n Cx eX0_plays_240 4 rfl ?_
    refine gx_iload Cx eX0_plays_241 5 rfl ?_
    refine gx_iload Cx eX0_plays_243 6 rfl ?_
    obtain ⟨y24, M25, h23, h⟩ := gx_bI_of h
    refine gx_callVI (ci := 0) Cx my_X0_does wlX0_31 rfl gx_y40 (Nat.le_refl _) rfl eX0_plays_245 (hq_does h23) rfl (Nat.le_of_ble_eq_true rfl) ?_
    refine gx_iconst (v := (5 : Int32)) Cx eX0_plays_248 (by decide) ?_
    refine gx_ixor Cx eX0_plays_249 ?_
    exact gx_rI h rfl eX0_plays_250 hR
  refine gx_case (60 : Int32) h (fun h => ?_) (fun n60 h => ?_)
  · refine gx_lsw (tgt := 251) (off := 242) Cx eX0_plays_9 (by decide) (by decide) (by decide) ?_
    refine gx_aload_n Cx eX0_plays_251 1 rfl ?_
    refine gx_iconst (v := (2 : Int32)) Cx eX0_plays_252 (by decide) ?_
    refine gx_iload_n Cx eX0_plays_253 3 rfl ?_
    refine gx_iload_n Cx eX0_plays_254 4 rfl ?_
    refine gx_iload Cx eX0_plays_255 5 rfl ?_
    refine gx_iload Cx eX0_plays_257 6 rfl ?_
    obtain ⟨y27, M28, h26, h⟩ := gx_bI_of h
    refine gx_callVI (ci := 0) Cx my_X0_does wlX0_31 rfl gx_y40 (Nat.le_refl _) rfl eX0_plays_259 (hq_does h26) rfl (Nat.le_of_ble_eq_true rfl) ?_
    refine gx_aload_n Cx eX0_plays_262 1 rfl ?_
    refine gx_iconst (v := (0 : Int32)) Cx eX0_plays_263 (by decide) ?_
    refine gx_iload Cx eX0_plays_264 0 rfl ?_
    refine gx_iload_n Cx eX0_plays_266 4 rfl ?_
    refine gx_iconst (v := (2 : Int32)) Cx eX0_plays_267 (by decide) ?_
    refine gx_iload Cx eX0_plays_268 6 rfl ?_
    obtain ⟨y30, M31, h29, h⟩ := gx_bI_of h
    refine gx_callVI (ci := 0) Cx my_X0_does wlX0_31 rfl gx_y40 (Nat.le_refl _) rfl eX0_plays_270 (hq_does h29) rfl (Nat.le_of_ble_eq_true rfl) ?_
    refine gx_isub Cx eX0_plays_273 ?_
    exact gx_rI h rfl eX0_plays_274 hR
  refine gx_case (61 : Int32) h (fun h => ?_) (fun n61 h => ?_)
  · refine gx_lsw (tgt := 275) (off := 266) Cx eX0_plays_9 (by decide) (by decide) (by decide) ?_
    refine gx_aload_n Cx eX0_plays_275 1 rfl ?_
    refine gx_iconst (v := (3 : Int32)) Cx eX0_plays_276 (by decide) ?_
    refine gx_iload_n Cx eX0_plays_277 3 rfl ?_
    refine gx_iload_n Cx eX0_plays_278 4 rfl ?_
    refine gx_iload Cx eX0_plays_279 5 rfl ?_
    refine gx_iload Cx eX0_plays_281 6 rfl ?_
    obtain ⟨y33, M34, h32, h⟩ := gx_bI_of h
    refine gx_callVI (ci := 0) Cx my_X0_does wlX0_31 rfl gx_y40 (Nat.le_refl _) rfl eX0_plays_283 (hq_does h32) rfl (Nat.le_of_ble_eq_true rfl) ?_
    refine gx_iconst (v := (1 : Int32)) Cx eX0_plays_286 (by decide) ?_
    refine gx_iadd Cx eX0_plays_287 ?_
    exact gx_rI h rfl eX0_plays_288 hR
  refine gx_case (70 : Int32) h (fun h => ?_) (fun n70 h => ?_)
  · refine gx_lsw (tgt := 289) (off := 280) Cx eX0_plays_9 (by decide) (by decide) (by decide) ?_
    refine gx_aload_n Cx eX0_plays_289 1 rfl ?_
    refine gx_iconst (v := (0 : Int32)) Cx eX0_plays_290 (by decide) ?_
    refine gx_iload_n Cx eX0_plays_291 3 rfl ?_
    refine gx_iload_n Cx eX0_plays_292 4 rfl ?_
    refine gx_iload Cx eX0_plays_293 5 rfl ?_
    refine gx_iload Cx eX0_plays_295 6 rfl ?_
    obtain ⟨y36, M37, h35, h⟩ := gx_bI_of h
    refine gx_callVI (ci := 0) Cx my_X0_does wlX0_31 rfl gx_y40 (Nat.le_refl _) rfl eX0_plays_297 (hq_does h35) rfl (Nat.le_of_ble_eq_true rfl) ?_
    refine gx_iconst (v := (2 : Int32)) Cx eX0_plays_300 (by decide) ?_
    refine gx_imul Cx eX0_plays_301 ?_
    exact gx_rI h rfl eX0_plays_302 hR
  refine gx_case (80 : Int32) h (fun h => ?_) (fun n80 h => ?_)
  · refine gx_lsw (tgt := 303) (off := 294) Cx eX0_plays_9 (by decide) (by decide) (by decide) ?_
    refine gx_aload_n Cx eX0_plays_303 1 rfl ?_
    refine gx_iconst (v := (1 : Int32)) Cx eX0_plays_304 (by decide) ?_
    refine gx_iload_n Cx eX0_plays_305 3 rfl ?_
    refine gx_iload_n Cx eX0_plays_306 4 rfl ?_
    refine gx_iload Cx eX0_plays_307 5 rfl ?_
    refine gx_iload Cx eX0_plays_309 6 rfl ?_
    obtain ⟨y39, M40, h38, h⟩ := gx_bI_of h
    refine gx_callVI (ci := 0) Cx my_X0_does wlX0_31 rfl gx_y40 (Nat.le_refl _) rfl eX0_plays_311 (hq_does h38) rfl (Nat.le_of_ble_eq_true rfl) ?_
    refine gx_aload_n Cx eX0_plays_314 1 rfl ?_
    refine gx_iconst (v := (2 : Int32)) Cx eX0_plays_315 (by decide) ?_
    refine gx_iload Cx eX0_plays_316 0 rfl ?_
    refine gx_iload_n Cx eX0_plays_318 4 rfl ?_
    refine gx_iconst (v := (2 : Int32)) Cx eX0_plays_319 (by decide) ?_
    refine gx_iload Cx eX0_plays_320 6 rfl ?_
    obtain ⟨y42, M43, h41, h⟩ := gx_bI_of h
    refine gx_callVI (ci := 0) Cx my_X0_does wlX0_31 rfl gx_y40 (Nat.le_refl _) rfl eX0_plays_322 (hq_does h41) rfl (Nat.le_of_ble_eq_true rfl) ?_
    refine gx_iadd Cx eX0_plays_325 ?_
    exact gx_rI h rfl eX0_plays_326 hR
  refine gx_case (81 : Int32) h (fun h => ?_) (fun n81 h => ?_)
  · refine gx_lsw (tgt := 327) (off := 318) Cx eX0_plays_9 (by decide) (by decide) (by decide) ?_
    refine gx_aload_n Cx eX0_plays_327 1 rfl ?_
    refine gx_iconst (v := (0 : Int32)) Cx eX0_plays_328 (by decide) ?_
    refine gx_iload_n Cx eX0_plays_329 3 rfl ?_
    refine gx_iload_n Cx eX0_plays_330 4 rfl ?_
    refine gx_iload Cx eX0_plays_331 5 rfl ?_
    refine gx_iload Cx eX0_plays_333 6 rfl ?_
    obtain ⟨y45, M46, h44, h⟩ := gx_bI_of h
    refine gx_callVI (ci := 0) Cx my_X0_does wlX0_31 rfl gx_y40 (Nat.le_refl _) rfl eX0_plays_335 (hq_does h44) rfl (Nat.le_of_ble_eq_true rfl) ?_
    refine gx_iconst (v := (1 : Int32)) Cx eX0_plays_338 (by decide) ?_
    refine gx_isub Cx eX0_plays_339 ?_
    exact gx_rI h rfl eX0_plays_340 hR
  refine gx_lsw (tgt := 341) (off := 332) Cx eX0_plays_9 (by decide) (gx_lsw_none (List.forall_mem_cons.mpr ⟨gx_neT (k := 1) n1 (by decide), List.forall_mem_cons.mpr ⟨gx_neT (k := 2) n2 (by decide), List.forall_mem_cons.mpr ⟨gx_neT (k := 10) n10 (by decide), List.forall_mem_cons.mpr ⟨gx_neT (k := 11) n11 (by decide), List.forall_mem_cons.mpr ⟨gx_neT (k := 20) n20 (by decide), List.forall_mem_cons.mpr ⟨gx_neT (k := 30) n30 (by decide), List.forall_mem_cons.mpr ⟨gx_neT (k := 40) n40 (by decide), List.forall_mem_cons.mpr ⟨gx_neT (k := 41) n41 (by decide), List.forall_mem_cons.mpr ⟨gx_neT (k := 50) n50 (by decide), List.forall_mem_cons.mpr ⟨gx_neT (k := 60) n60 (by decide), List.forall_mem_cons.mpr ⟨gx_neT (k := 61) n61 (by decide), List.forall_mem_cons.mpr ⟨gx_neT (k := 70) n70 (by decide), List.forall_mem_cons.mpr ⟨gx_neT (k := 80) n80 (by decide), List.forall_mem_cons.mpr ⟨gx_neT (k := 81) n81 (by decide), fun _ h => absurd h List.not_mem_nil⟩⟩⟩⟩⟩⟩⟩⟩⟩⟩⟩⟩⟩⟩)) (by decide) ?_
  refine gx_iconst (v := (0 : Int32)) Cx eX0_plays_341 (by decide) ?_
  exact gx_rI h rfl eX0_plays_342 hR
theorem g_does_plays (κ : gx_K) : ∀ d : Nat, (∀ {v1 : Int32} {v2 : Int32} {v3 : Int32} {v4 : Int32} {v5 : Int32} {M : gx_Mem} {r9 : Int32} {M9 : gx_Mem}, f_X0_does d v1 v2 v3 v4 v5 M = some (r9, M9) → gx_CI κ yX0_does cX0_does 8 (some .int) (1 + d) [.ref (gx_a κ 40), .int v1, .int v2, .int v3, .int v4, .int v5] M r9 M9) ∧ (∀ {v1 : Int32} {v2 : Int32} {v3 : Int32} {v4 : Int32} {v5 : Int32} {M : gx_Mem} {r9 : Int32} {M9 : gx_Mem}, f_X0_plays d v1 v2 v3 v4 v5 M = some (r9, M9) → gx_CI κ yX0_plays cX0_plays 7 (some .int) (1 + d) [.ref (gx_a κ 40), .int v1, .int v2, .int v3, .int v4, .int v5] M r9 M9) := by
  intro d
  induction d with
  | zero => exact ⟨(by intros; rename_i q; cases q), (by intros; rename_i q; cases q)⟩
  | succ d ih =>
    exact ⟨(by intro v1 v2 v3 v4 v5 M r9 M9 hf; exact c_X0_does_o κ d (f_X0_does d) (f_X0_plays d) (fun h => ih.1 h) (fun h => ih.2 h)  hf), (by intro v1 v2 v3 v4 v5 M r9 M9 hf; exact c_X0_plays_o κ d (f_X0_does d) (f_X0_plays d) (fun h => ih.1 h) (fun h => ih.2 h)  hf)⟩
theorem c_X0_does (κ : gx_K) {v1 : Int32} {v2 : Int32} {v3 : Int32} {v4 : Int32} {v5 : Int32} {M : gx_Mem} {r9 : Int32} {M9 : gx_Mem} (hf : f_X0_does gx_dep v1 v2 v3 v4 v5 M = some (r9, M9)) : gx_CI κ yX0_does cX0_does 8 (some .int) 101 [.ref (gx_a κ 40), .int v1, .int v2, .int v3, .int v4, .int v5] M r9 M9 := (g_does_plays κ gx_dep).1  hf
theorem c_X0_plays (κ : gx_K) {v1 : Int32} {v2 : Int32} {v3 : Int32} {v4 : Int32} {v5 : Int32} {M : gx_Mem} {r9 : Int32} {M9 : gx_Mem} (hf : f_X0_plays gx_dep v1 v2 v3 v4 v5 M = some (r9, M9)) : gx_CI κ yX0_plays cX0_plays 7 (some .int) 101 [.ref (gx_a κ 40), .int v1, .int v2, .int v3, .int v4, .int v5] M r9 M9 := (g_does_plays κ gx_dep).2  hf
set_option maxHeartbeats 4000000 in
set_option maxRecDepth 100000 in
theorem c_X0_acted (κ : gx_K) {v1 : Int32} {v2 : Int32} {v3 : Int32} {M : gx_Mem} {r9 : Int32} {M9 : gx_Mem} (hf : f_X0_acted v1 v2 v3 M = some (r9, M9)) : gx_CI κ yX0_acted cX0_acted 4 (some .int) 102 [.ref (gx_a κ 40), .int v1, .int v2, .int v3] M r9 M9 := by
  refine gx_enterI (d := 102) my_X0_acted.1 (by decide) (Nat.le_of_ble_eq_true rfl) (fun Γ Cx hR => ?_)
  change gx_G κ Γ 0 [(0, .ref (gx_a κ 40)), (1, .int v1), (2, .int v2), (3, .int v3)] [] M
  have h := hf
  refine gx_aload_n Cx eX0_acted_0 0 rfl ?_
  refine gx_iconst (v := (0 : Int32)) Cx eX0_acted_1 (by decide) ?_
  refine pfX0_22 Cx eX0_acted_2 h (fun M1 h => ?_)
  refine gx_aload_n Cx eX0_acted_5 0 rfl ?_
  refine gx_iload_n Cx eX0_acted_6 1 rfl ?_
  refine gx_aload_n Cx eX0_acted_7 0 rfl ?_
  refine gfX0_9 Cx eX0_acted_8 ?_
  refine gx_iload_n Cx eX0_acted_11 2 rfl ?_
  refine gx_iald Cx gx_y41 eX0_acted_12 h (fun h => ?_)
  refine gx_iload_n Cx eX0_acted_13 2 rfl ?_
  refine gx_iload_n Cx eX0_acted_14 3 rfl ?_
  refine gx_iconst (v := (0 : Int32)) Cx eX0_acted_15 (by decide) ?_
  obtain ⟨y3, M4, h2, h⟩ := gx_bI_of h
  refine gx_callVI (ci := 0) Cx my_X0_does wlX0_31 rfl gx_y40 (by decide) rfl eX0_acted_16 (c_X0_does κ h2) rfl (Nat.le_of_ble_eq_true rfl) ?_
  exact gx_rI h rfl eX0_acted_19 hR
set_option maxHeartbeats 4000000 in
set_option maxRecDepth 100000 in
theorem c_X0_add (κ : gx_K) {v1 : Int32} {M : gx_Mem} {r9 : Int32} {M9 : gx_Mem} (hf : f_X0_add v1 M = some (r9, M9)) : gx_CI κ yX0_add cX0_add 2 (some .int) 0 [.ref (gx_a κ 40), .int v1] M r9 M9 := by
  refine gx_enterI (d := 0) my_X0_add.1 (by decide) (Nat.le_of_ble_eq_true rfl) (fun Γ Cx hR => ?_)
  change gx_G κ Γ 0 [(0, .ref (gx_a κ 40)), (1, .int v1)] [] M
  have h := hf
  refine gx_aload_n Cx eX0_add_0 0 rfl ?_
  refine gfX0_9 Cx eX0_add_1 ?_
  refine gx_aload_n Cx eX0_add_4 0 rfl ?_
  refine gfX0_18 Cx eX0_add_5 ?_
  refine gx_iload_n Cx eX0_add_8 1 rfl ?_
  refine gx_iast Cx gx_y41 eX0_add_9 h (fun M1 h => ?_)
  refine gx_aload_n Cx eX0_add_10 0 rfl ?_
  refine gx_dup Cx eX0_add_11 rfl ?_
  refine gfX0_18 Cx eX0_add_12 ?_
  refine gx_iconst (v := (1 : Int32)) Cx eX0_add_15 (by decide) ?_
  refine gx_iadd Cx eX0_add_16 ?_
  refine pfX0_18 Cx eX0_add_17 h (fun M2 h => ?_)
  refine gx_aload_n Cx eX0_add_20 0 rfl ?_
  refine gfX0_18 Cx eX0_add_21 ?_
  refine gx_iconst (v := (1 : Int32)) Cx eX0_add_24 (by decide) ?_
  refine gx_isub Cx eX0_add_25 ?_
  exact gx_rI h rfl eX0_add_26 hR
set_option maxHeartbeats 4000000 in
set_option maxRecDepth 100000 in
theorem c_X0_isUnder (κ : gx_K) {v0 : Int32} {v1 : Int32} {M : gx_Mem} {r9 : Int32} (hf : f_X0_isUnder v0 v1 M = some r9) : gx_CI κ yX0_isUnder cX0_isUnder 4 (some .boolean) 0 [.int v0, .int v1] M r9 M := by
  refine gx_enterI (d := 0) my_X0_isUnder.1 (by decide) (Nat.le_of_ble_eq_true rfl) (fun Γ Cx hR => ?_)
  change gx_G κ Γ 0 [(0, .int v0), (1, .int v1)] [] M
  have K4 : ∀  (ag4 : Int32 → Int32 → Option Int32) (hag4 : ∀ (v2 : Int32) (v3 : Int32), ag4 v2 v3 = some r9 → gx_G κ Γ 4 [(1, .int v1), (2, .int v2), (3, .int v3)] [] M) (v2 : Int32) (v3 : Int32), f_X0_isUnder_k4 v1 ag4 v2 v3 M = some r9 → gx_G κ Γ 4 [(1, .int v1), (2, .int v2), (3, .int v3)] [] M := by
    intro ag4 hag4
    intro v2 v3 h
    refine gx_iload_n Cx eX0_isUnder_4 2 rfl ?_
    refine gx_bipush (v := (8 : Int32)) Cx eX0_isUnder_5 (by decide) ?_
    refine gx_icmp_ge (tgt := 39) Cx eX0_isUnder_7 (by decide) h (fun h => ?_) (fun h => ?_)
    · refine gx_iconst (v := (0 : Int32)) Cx eX0_isUnder_39 (by decide) ?_
      exact gx_rIp h (by decide) eX0_isUnder_40 hR
    · refine gx_iload_n Cx eX0_isUnder_10 1 rfl ?_
      refine gx_if_lt (tgt := 39) Cx eX0_isUnder_11 (by decide) h (fun h => ?_) (fun h => ?_)
      · refine gx_iconst (v := (0 : Int32)) Cx eX0_isUnder_39 (by decide) ?_
        exact gx_rIp h (by decide) eX0_isUnder_40 hR
      · refine gx_iload_n Cx eX0_isUnder_14 1 rfl ?_
        refine gx_bipush (v := (8 : Int32)) Cx eX0_isUnder_15 (by decide) ?_
        refine gx_icmp_ge (tgt := 39) Cx eX0_isUnder_17 (by decide) h (fun h => ?_) (fun h => ?_)
        · refine gx_iconst (v := (0 : Int32)) Cx eX0_isUnder_39 (by decide) ?_
          exact gx_rIp h (by decide) eX0_isUnder_40 hR
        · refine gx_iload_n Cx eX0_isUnder_20 1 rfl ?_
          refine gx_iload_n Cx eX0_isUnder_21 0 rfl ?_
          refine gx_icmp_ne (tgt := 27) Cx eX0_isUnder_22 (by decide) h (fun h => ?_) (fun h => ?_)
          · refine gsX0_25 Cx eX0_isUnder_27 ?_
            refine gx_iload_n Cx eX0_isUnder_30 1 rfl ?_
            refine gx_tab1ld Cx eX0_isUnder_31 h (fun h => ?_)
            refine gx_nmI h (fun x1 h => ?_)
            refine gx_istore_n Cx eX0_isUnder_32 [(2, .int x1), (1, .int v1), (3, .int v3)] rfl (by decide) ?_
            refine gx_iinc (v := (1 : Int32)) (i := 3) (j := 2) Cx eX0_isUnder_33 (by decide) h 2 rfl (fun w => [(3, .int w), (2, .int x1), (1, .int v1)]) (fun _ => rfl) (by decide) (fun x2 h => ?_)
            refine gx_goto (tgt := 4) Cx eX0_isUnder_36 (by decide) ?_
            refine gx_sub [2, 1, 0] rfl ?_
            exact hag4 _ _ h
          · refine gx_iconst (v := (1 : Int32)) Cx eX0_isUnder_25 (by decide) ?_
            exact gx_rIp h (by decide) eX0_isUnder_26 hR
  have L4 : ∀  (n : Nat) (v2 : Int32) (v3 : Int32), f_X0_isUnder_l4 v1 n v2 v3 M = some r9 → gx_G κ Γ 4 [(1, .int v1), (2, .int v2), (3, .int v3)] [] M := by
    intro n
    induction n with
    | zero => intro v2 v3 h; exact gx_loop_0 h
    | succ n ih => intro v2 v3 h; exact K4 (fun v2 v3 => f_X0_isUnder_l4 v1 n v2 v3 M) ih v2 v3 h
  have h := hf
  refine gx_iload_n Cx eX0_isUnder_0 0 rfl ?_
  refine gx_istore_n Cx eX0_isUnder_1 [(2, .int v0), (0, .int v0), (1, .int v1)] rfl (by decide) ?_
  refine gx_iconst (v := (0 : Int32)) Cx eX0_isUnder_2 (by decide) ?_
  refine gx_istore_n Cx eX0_isUnder_3 [(3, .int (0 : Int32)), (2, .int v0), (0, .int v0), (1, .int v1)] rfl (by decide) ?_
  refine gx_sub [3, 1, 0] rfl ?_
  exact L4 _ _ _ h

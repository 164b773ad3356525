/-! A MEMORY of numbers (cell, place), a fixed LAYOUT of all cells of both systems, and a judgement gx_G over them: a row an instruction. -/
abbrev gx_Mem : Type := (Nat → Nat → Int32) × (Nat → Nat → Int64)
def gx_sI (M : gx_Mem) (k i : Nat) (v : Int32) : gx_Mem := (fun q => if q = k then upd (M.1 k) i v else M.1 q, M.2)
def gx_sL (M : gx_Mem) (k i : Nat) (v : Int64) : gx_Mem := (M.1, fun q => if q = k then vp_updL (M.2 k) i v else M.2 q)
def gx_cI (M : gx_Mem) (k sp j dp n : Nat) : gx_Mem := (fun q => if q = j then va_cpy (M.1 k) (M.1 j) sp dp n else M.1 q, M.2)
def gx_cL (M : gx_Mem) (k sp j dp n : Nat) : gx_Mem := (M.1, fun q => if q = j then va_cpy (M.2 k) (M.2 j) sp dp n else M.2 q)
/-- a cell's form: an object (class, its fields: a cell or a number) or a row (kind, length, the cells that it names) -/
abbrev gx_De : Type := (Nat × List (Option Nat)) ⊕ (Nat × Nat × List Nat)
def gx_lay : List gx_De := [.inl (3, [some 1, some 2, some 3, some 4, none]),
  .inr (0, 128, []),
  .inr (0, 128, []),
  .inr (0, 128, []),
  .inr (0, 6, []),
  .inl (6, [some 6, some 7, some 8, none, none, none]),
  .inr (0, 120, []),
  .inr (0, 128, []),
  .inr (0, 128, []),
  .inl (2, [some 0, some 10, some 11, some 12, some 13, some 14, some 15, none, none, none]),
  .inr (0, 6, []),
  .inr (0, 6, []),
  .inr (0, 24, []),
  .inr (0, 24, []),
  .inr (0, 24, []),
  .inr (0, 5, []),
  .inl (2, [some 0, some 17, some 18, some 19, some 20, some 21, some 22, none, none, none]),
  .inr (0, 6, []),
  .inr (0, 6, []),
  .inr (0, 24, []),
  .inr (0, 24, []),
  .inr (0, 24, []),
  .inr (0, 5, []),
  .inl (2, [some 0, some 24, some 25, some 26, some 27, some 28, some 29, none, none, none]),
  .inr (0, 6, []),
  .inr (0, 6, []),
  .inr (0, 24, []),
  .inr (0, 24, []),
  .inr (0, 24, []),
  .inr (0, 5, []),
  .inl (4, [some 9, some 23, some 31, some 32, some 33, some 34]),
  .inr (0, 6, []),
  .inr (0, 6, []),
  .inr (0, 24, []),
  .inr (1, 6, []),
  .inl (1, [some 36, some 37, some 38, some 39, none, none]),
  .inr (0, 40, []),
  .inr (0, 40, []),
  .inr (0, 40, []),
  .inr (0, 40, []),
  .inl (0, [some 41, some 42, none, none]),
  .inr (0, 50, []),
  .inr (0, 24, []),
  .inr (4, 6, [44, 46, 48, 50, 52, 54]),
  .inl (5, [some 45, none, none, none]),
  .inr (1, 60, []),
  .inl (5, [some 47, none, none, none]),
  .inr (1, 60, []),
  .inl (5, [some 49, none, none, none]),
  .inr (1, 60, []),
  .inl (5, [some 51, none, none, none]),
  .inr (1, 60, []),
  .inl (5, [some 53, none, none, none]),
  .inr (1, 60, []),
  .inl (5, [some 55, none, none, none]),
  .inr (1, 60, []),
  .inl (7, [some 0, some 5, some 9, some 16, some 30, some 35, some 40, some 43, none]),
  .inl (8, [none, none, some 58, some 59, some 60, some 61, some 62, some 63, none, none, some 64, some 65, some 66, some 67, some 68, none, none, none, none, none, some 69, some 70, some 71, some 72, some 73, some 74, some 75, none, none, none, some 76, some 77, some 78, some 79, some 80, some 81, some 82, some 83, none, some 84, none, none, none, none, some 85, none, none, none, some 86, some 87, some 88, some 89, none, some 90, none, some 91, some 92, some 93, some 94, some 95]),
  .inr (0, 6, []),
  .inr (0, 6, []),
  .inr (0, 24, []),
  .inr (0, 24, []),
  .inr (0, 24, []),
  .inr (0, 2, []),
  .inr (0, 40, []),
  .inr (0, 40, []),
  .inr (0, 40, []),
  .inr (0, 40, []),
  .inr (2, 120, []),
  .inr (2, 260, []),
  .inr (0, 260, []),
  .inr (0, 2, []),
  .inr (3, 122, []),
  .inr (3, 122, []),
  .inr (0, 6, []),
  .inr (0, 130, []),
  .inr (0, 6, []),
  .inr (0, 24, []),
  .inr (0, 24, []),
  .inr (0, 4, []),
  .inr (0, 96, []),
  .inr (0, 96, []),
  .inr (0, 6, []),
  .inr (0, 6, []),
  .inr (0, 6, []),
  .inr (0, 5, []),
  .inr (0, 6, []),
  .inr (0, 24, []),
  .inr (0, 24, []),
  .inr (0, 5, []),
  .inr (0, 50, []),
  .inr (0, 24, []),
  .inr (0, 6, []),
  .inr (0, 6, []),
  .inr (1, 360, []),
  .inr (1, 60, [])]
theorem gx_lay_n : gx_lay.length = 96 := rfl
theorem gx_y0 : gx_lay[0]? = some (.inl (3, [some 1, some 2, some 3, some 4, none])) := rfl
theorem gx_y1 : gx_lay[1]? = some (.inr (0, 128, [])) := rfl
theorem gx_y2 : gx_lay[2]? = some (.inr (0, 128, [])) := rfl
theorem gx_y3 : gx_lay[3]? = some (.inr (0, 128, [])) := rfl
theorem gx_y4 : gx_lay[4]? = some (.inr (0, 6, [])) := rfl
theorem gx_y5 : gx_lay[5]? = some (.inl (6, [some 6, some 7, some 8, none, none, none])) := rfl
theorem gx_y6 : gx_lay[6]? = some (.inr (0, 120, [])) := rfl
theorem gx_y7 : gx_lay[7]? = some (.inr (0, 128, [])) := rfl
theorem gx_y8 : gx_lay[8]? = some (.inr (0, 128, [])) := rfl
theorem gx_y9 : gx_lay[9]? = some (.inl (2, [some 0, some 10, some 11, some 12, some 13, some 14, some 15, none, none, none])) := rfl
theorem gx_y10 : gx_lay[10]? = some (.inr (0, 6, [])) := rfl
theorem gx_y11 : gx_lay[11]? = some (.inr (0, 6, [])) := rfl
theorem gx_y12 : gx_lay[12]? = some (.inr (0, 24, [])) := rfl
theorem gx_y13 : gx_lay[13]? = some (.inr (0, 24, [])) := rfl
theorem gx_y14 : gx_lay[14]? = some (.inr (0, 24, [])) := rfl
theorem gx_y15 : gx_lay[15]? = some (.inr (0, 5, [])) := rfl
theorem gx_y16 : gx_lay[16]? = some (.inl (2, [some 0, some 17, some 18, some 19, some 20, some 21, some 22, none, none, none])) := rfl
theorem gx_y17 : gx_lay[17]? = some (.inr (0, 6, [])) := rfl
theorem gx_y18 : gx_lay[18]? = some (.inr (0, 6, [])) := rfl
theorem gx_y19 : gx_lay[19]? = some (.inr (0, 24, [])) := rfl
theorem gx_y20 : gx_lay[20]? = some (.inr (0, 24, [])) := rfl
theorem gx_y21 : gx_lay[21]? = some (.inr (0, 24, [])) := rfl
theorem gx_y22 : gx_lay[22]? = some (.inr (0, 5, [])) := rfl
theorem gx_y23 : gx_lay[23]? = some (.inl (2, [some 0, some 24, some 25, some 26, some 27, some 28, some 29, none, none, none])) := rfl
theorem gx_y24 : gx_lay[24]? = some (.inr (0, 6, [])) := rfl
theorem gx_y25 : gx_lay[25]? = some (.inr (0, 6, [])) := rfl
theorem gx_y26 : gx_lay[26]? = some (.inr (0, 24, [])) := rfl
theorem gx_y27 : gx_lay[27]? = some (.inr (0, 24, [])) := rfl
theorem gx_y28 : gx_lay[28]? = some (.inr (0, 24, [])) := rfl
theorem gx_y29 : gx_lay[29]? = some (.inr (0, 5, [])) := rfl
theorem gx_y30 : gx_lay[30]? = some (.inl (4, [some 9, some 23, some 31, some 32, some 33, some 34])) := rfl
theorem gx_y31 : gx_lay[31]? = some (.inr (0, 6, [])) := rfl
theorem gx_y32 : gx_lay[32]? = some (.inr (0, 6, [])) := rfl
theorem gx_y33 : gx_lay[33]? = some (.inr (0, 24, [])) := rfl
theorem gx_y34 : gx_lay[34]? = some (.inr (1, 6, [])) := rfl
theorem gx_y35 : gx_lay[35]? = some (.inl (1, [some 36, some 37, some 38, some 39, none, none])) := rfl
theorem gx_y36 : gx_lay[36]? = some (.inr (0, 40, [])) := rfl
theorem gx_y37 : gx_lay[37]? = some (.inr (0, 40, [])) := rfl
theorem gx_y38 : gx_lay[38]? = some (.inr (0, 40, [])) := rfl
theorem gx_y39 : gx_lay[39]? = some (.inr (0, 40, [])) := rfl
theorem gx_y40 : gx_lay[40]? = some (.inl (0, [some 41, some 42, none, none])) := rfl
theorem gx_y41 : gx_lay[41]? = some (.inr (0, 50, [])) := rfl
theorem gx_y42 : gx_lay[42]? = some (.inr (0, 24, [])) := rfl
theorem gx_y43 : gx_lay[43]? = some (.inr (4, 6, [44, 46, 48, 50, 52, 54])) := rfl
theorem gx_y44 : gx_lay[44]? = some (.inl (5, [some 45, none, none, none])) := rfl
theorem gx_y45 : gx_lay[45]? = some (.inr (1, 60, [])) := rfl
theorem gx_y46 : gx_lay[46]? = some (.inl (5, [some 47, none, none, none])) := rfl
theorem gx_y47 : gx_lay[47]? = some (.inr (1, 60, [])) := rfl
theorem gx_y48 : gx_lay[48]? = some (.inl (5, [some 49, none, none, none])) := rfl
theorem gx_y49 : gx_lay[49]? = some (.inr (1, 60, [])) := rfl
theorem gx_y50 : gx_lay[50]? = some (.inl (5, [some 51, none, none, none])) := rfl
theorem gx_y51 : gx_lay[51]? = some (.inr (1, 60, [])) := rfl
theorem gx_y52 : gx_lay[52]? = some (.inl (5, [some 53, none, none, none])) := rfl
theorem gx_y53 : gx_lay[53]? = some (.inr (1, 60, [])) := rfl
theorem gx_y54 : gx_lay[54]? = some (.inl (5, [some 55, none, none, none])) := rfl
theorem gx_y55 : gx_lay[55]? = some (.inr (1, 60, [])) := rfl
theorem gx_y56 : gx_lay[56]? = some (.inl (7, [some 0, some 5, some 9, some 16, some 30, some 35, some 40, some 43, none])) := rfl
theorem gx_y57 : gx_lay[57]? = some (.inl (8, [none, none, some 58, some 59, some 60, some 61, some 62, some 63, none, none, some 64, some 65, some 66, some 67, some 68, none, none, none, none, none, some 69, some 70, some 71, some 72, some 73, some 74, some 75, none, none, none, some 76, some 77, some 78, some 79, some 80, some 81, some 82, some 83, none, some 84, none, none, none, none, some 85, none, none, none, some 86, some 87, some 88, some 89, none, some 90, none, some 91, some 92, some 93, some 94, some 95])) := rfl
theorem gx_y58 : gx_lay[58]? = some (.inr (0, 6, [])) := rfl
theorem gx_y59 : gx_lay[59]? = some (.inr (0, 6, [])) := rfl
theorem gx_y60 : gx_lay[60]? = some (.inr (0, 24, [])) := rfl
theorem gx_y61 : gx_lay[61]? = some (.inr (0, 24, [])) := rfl
theorem gx_y62 : gx_lay[62]? = some (.inr (0, 24, [])) := rfl
theorem gx_y63 : gx_lay[63]? = some (.inr (0, 2, [])) := rfl
theorem gx_y64 : gx_lay[64]? = some (.inr (0, 40, [])) := rfl
theorem gx_y65 : gx_lay[65]? = some (.inr (0, 40, [])) := rfl
theorem gx_y66 : gx_lay[66]? = some (.inr (0, 40, [])) := rfl
theorem gx_y67 : gx_lay[67]? = some (.inr (0, 40, [])) := rfl
theorem gx_y68 : gx_lay[68]? = some (.inr (2, 120, [])) := rfl
theorem gx_y69 : gx_lay[69]? = some (.inr (2, 260, [])) := rfl
theorem gx_y70 : gx_lay[70]? = some (.inr (0, 260, [])) := rfl
theorem gx_y71 : gx_lay[71]? = some (.inr (0, 2, [])) := rfl
theorem gx_y72 : gx_lay[72]? = some (.inr (3, 122, [])) := rfl
theorem gx_y73 : gx_lay[73]? = some (.inr (3, 122, [])) := rfl
theorem gx_y74 : gx_lay[74]? = some (.inr (0, 6, [])) := rfl
theorem gx_y75 : gx_lay[75]? = some (.inr (0, 130, [])) := rfl
theorem gx_y76 : gx_lay[76]? = some (.inr (0, 6, [])) := rfl
theorem gx_y77 : gx_lay[77]? = some (.inr (0, 24, [])) := rfl
theorem gx_y78 : gx_lay[78]? = some (.inr (0, 24, [])) := rfl
theorem gx_y79 : gx_lay[79]? = some (.inr (0, 4, [])) := rfl
theorem gx_y80 : gx_lay[80]? = some (.inr (0, 96, [])) := rfl
theorem gx_y81 : gx_lay[81]? = some (.inr (0, 96, [])) := rfl
theorem gx_y82 : gx_lay[82]? = some (.inr (0, 6, [])) := rfl
theorem gx_y83 : gx_lay[83]? = some (.inr (0, 6, [])) := rfl
theorem gx_y84 : gx_lay[84]? = some (.inr (0, 6, [])) := rfl
theorem gx_y85 : gx_lay[85]? = some (.inr (0, 5, [])) := rfl
theorem gx_y86 : gx_lay[86]? = some (.inr (0, 6, [])) := rfl
theorem gx_y87 : gx_lay[87]? = some (.inr (0, 24, [])) := rfl
theorem gx_y88 : gx_lay[88]? = some (.inr (0, 24, [])) := rfl
theorem gx_y89 : gx_lay[89]? = some (.inr (0, 5, [])) := rfl
theorem gx_y90 : gx_lay[90]? = some (.inr (0, 50, [])) := rfl
theorem gx_y91 : gx_lay[91]? = some (.inr (0, 24, [])) := rfl
theorem gx_y92 : gx_lay[92]? = some (.inr (0, 6, [])) := rfl
theorem gx_y93 : gx_lay[93]? = some (.inr (0, 6, [])) := rfl
theorem gx_y94 : gx_lay[94]? = some (.inr (1, 360, [])) := rfl
theorem gx_y95 : gx_lay[95]? = some (.inr (1, 60, [])) := rfl
/-- launch, the classes' and slots' numbers, the row classes', where the cells lie, where the fixed rows lie -/
abbrev gx_K : Type := Launch × va_G × (Nat → ClassId) × (Nat → Nat) × (Nat → Nat)
abbrev gx_a (κ : gx_K) : Nat → Nat := κ.2.2.2.1
abbrev gx_z (κ : gx_K) : Nat → Nat := κ.2.2.2.2
def gx_obj (κ : gx_K) (f : Nat → Int32) (fl : List (Option Nat)) : List Value := fl.zipIdx.map (fun q => match q.1 with | some i => Value.ref (gx_a κ i) | none => Value.int (f q.2))
def gx_arr (κ : gx_K) (M : gx_Mem) (k t : Nat) (rl : List Nat) : (Nat → Int32) ⊕ (Nat → Int64) ⊕ (Nat → UInt32) ⊕ (Nat → UInt64) ⊕ (Nat → Option Nat) := match t with
  | 1 => .inr (.inl (M.2 k))
  | 4 => .inr (.inr (.inr (.inr (fun i => (rl[i]?).map (gx_a κ)))))
  | _ => .inl (M.1 k)
def gx_cell (κ : gx_K) (M : gx_Mem) (k : Nat) (d : gx_De) : va_E := match d with
  | .inl q => .inr (q.1, gx_obj κ (M.1 k) q.2)
  | .inr q => .inl (κ.2.2.1 q.1, q.2.1, gx_arr κ M k q.1 q.2.2)
def gx_ws (κ : gx_K) (M : gx_Mem) : va_W := gx_lay.zipIdx.map (fun q => (gx_a κ q.2, gx_cell κ M q.2 q.1))
theorem gx_at {κ : gx_K} {M : gx_Mem} {k : Nat} {d : gx_De} (h : gx_lay[k]? = some d) : (gx_ws κ M)[k]? = some (gx_a κ k, gx_cell κ M k d) := by
  simp only [gx_ws, List.getElem?_map, List.getElem?_zipIdx, h, Option.map_some, Nat.zero_add]
theorem gx_set {κ : gx_K} {M M2 : gx_Mem} {k : Nat} {d : gx_De} {e : va_E} (h : gx_lay[k]? = some d) (he : e = gx_cell κ M2 k d) (ho : ∀ (j : Nat) (d2 : gx_De), j ≠ k → gx_cell κ M2 j d2 = gx_cell κ M j d2) : (gx_ws κ M).set k (gx_a κ k, e) = gx_ws κ M2 := by
  subst he
  apply List.ext_getElem?
  intro j
  rw [List.getElem?_set]
  by_cases hj : k = j
  · subst hj
    have hl : k < (gx_ws κ M).length := by
      have := (List.getElem?_eq_some_iff.mp (gx_at (κ := κ) (M := M) h)).1
      exact this
    rw [if_pos rfl, if_pos hl, gx_at h]
  · rw [if_neg hj]
    cases hd : gx_lay[j]? with
    | none => simp [gx_ws, List.getElem?_map, List.getElem?_zipIdx, hd]
    | some d2 => rw [gx_at hd, gx_at hd, ho j d2 (fun q => hj q.symm)]
theorem gx_obj_at {κ : gx_K} {f : Nat → Int32} {fl : List (Option Nat)} {j : Nat} (h : fl[j]? = some none) : (gx_obj κ f fl)[j]? = some (.int (f j)) := by
  simp [gx_obj, List.getElem?_map, List.getElem?_zipIdx, h]
theorem gx_obj_ref {κ : gx_K} {f : Nat → Int32} {fl : List (Option Nat)} {j i : Nat} (h : fl[j]? = some (some i)) : (gx_obj κ f fl)[j]? = some (.ref (gx_a κ i)) := by
  simp [gx_obj, List.getElem?_map, List.getElem?_zipIdx, h]
theorem gx_obj_set {κ : gx_K} {f : Nat → Int32} {fl : List (Option Nat)} {j : Nat} {v : Int32} (h : fl[j]? = some none) : (gx_obj κ f fl).set j (.int v) = gx_obj κ (upd f j v) fl := by
  apply List.ext_getElem?
  intro i
  rw [List.getElem?_set]
  by_cases hj : j = i
  · subst hj
    have hl : j < (gx_obj κ f fl).length := (List.getElem?_eq_some_iff.mp (gx_obj_at (κ := κ) (f := f) h)).1
    rw [if_pos rfl, if_pos hl, gx_obj_at h]
    simp [upd]
  · rw [if_neg hj]
    simp only [gx_obj, List.getElem?_map, List.getElem?_zipIdx, Nat.zero_add]
    cases fl[i]? with
    | none => rfl
    | some o => cases o with
      | none =>
        show some (Value.int (f i)) = some (Value.int (if i = j then v else f i))
        rw [if_neg (fun q => hj q.symm)]
      | some a => rfl
theorem gx_obj_len {κ : gx_K} {f : Nat → Int32} {fl : List (Option Nat)} : (gx_obj κ f fl).length = fl.length := by simp [gx_obj]
abbrev gx_tys (κ : gx_K) : List (ClassId × FieldType) := [(κ.2.2.1 0, .int), (κ.2.2.1 1, .long), (κ.2.2.1 2, .byte), (κ.2.2.1 3, .short), (κ.2.2.1 4, .object RX5)]
def gx_A (κ : gx_K) : Nat → Prop := fun q => ∃ k : Nat, k < gx_lay.length ∧ q = gx_a κ k
/-- the fixed rows: House.GREATEST, Acts.ABOVE, Acts.OWN -/
def gx_tabs : List (List Int32) := [[23, 4095, 9, 9999, 9, 9, 11], [-1, 0, 0, 2, 1, 3, 0, 6], [1, 20, 0, 0, 0, 0, 70, 81, 10, 0, 30, 41, 0, 0, 0, 80, 11, 0, 0, 40, 0, 60, 0, 0, 2, 0, 0, 0, 50, 61, 0, 0]]
def gx_tab (t i : Nat) : Int32 := (gx_tabs.getD t []).getD i 0
def gx_St (κ : gx_K) (A : Nat → Prop) (U : State) (H : Heap) : Prop :=
  (va_Z "ThoughtsDrip$House" "GREATEST" "[I" (.ref (gx_z κ 0)) A U H ∧ va_T .int (gx_z κ 0) 7 (fun j => .int (gx_tab 0 j)) A U H) ∧
  (va_Z "ThoughtsDrip$Acts" "ABOVE" "[I" (.ref (gx_z κ 1)) A U H ∧ va_T .int (gx_z κ 1) 8 (fun j => .int (gx_tab 1 j)) A U H) ∧
  (va_Z "ThoughtsDrip$Acts" "OWN" "[I" (.ref (gx_z κ 2)) A U H ∧ va_T .int (gx_z κ 2) 32 (fun j => .int (gx_tab 2 j)) A U H)
theorem gx_St.moved {κ : gx_K} {A : Nat → Prop} {u U : State} {H : Heap} (hvm : u.vm.Alike U.vm) (h : gx_St κ A u H) : gx_St κ A U H := ⟨⟨h.1.1.moved hvm, h.1.2.moved hvm⟩, ⟨h.2.1.1.moved hvm, h.2.1.2.moved hvm⟩, ⟨h.2.2.1.moved hvm, h.2.2.2.moved hvm⟩⟩
theorem gx_St.kept {κ : gx_K} {A : Nat → Prop} {U : State} {H H1 : Heap} (h : gx_St κ A U H) (hq : ∀ a : Nat, a < H.size → ¬ A a → H1[a]? = H[a]?) : gx_St κ A U H1 := ⟨⟨h.1.1.kept hq, h.1.2.kept hq⟩, ⟨h.2.1.1.kept hq, h.2.1.2.kept hq⟩, ⟨h.2.2.1.kept hq, h.2.2.2.kept hq⟩⟩
theorem gx_St.narrow {κ : gx_K} {A B : Nat → Prop} {U : State} {H : Heap} (h : gx_St κ A U H) (hAB : ∀ q, B q → A q) : gx_St κ B U H := ⟨⟨h.1.1.narrow hAB, h.1.2.narrow hAB⟩, ⟨h.2.1.1.narrow hAB, h.2.1.2.narrow hAB⟩, ⟨h.2.2.1.narrow hAB, h.2.2.2.narrow hAB⟩⟩
/-- the world: all cells hold the memory -/
def gx_W (κ : gx_K) (M : gx_Mem) (U : State) : Prop := va_P κ.2.1 vwCl (gx_ws κ M) U.heap ∧ va_K κ.2.1 vwCl (gx_tys κ) U ∧ va_D (gx_A κ) (gx_ws κ M) ∧ gx_St κ (gx_A κ) U U.heap
theorem gx_D_any {κ : gx_K} {A : Nat → Prop} {M : gx_Mem} (M2 : gx_Mem) (h : va_D A (gx_ws κ M)) : va_D A (gx_ws κ M2) := by
  have e : ∀ (k : Nat) (q : Nat × va_E), (gx_ws κ M2)[k]? = some q → ∃ e2, (gx_ws κ M)[k]? = some (q.1, e2) := by
    intro k q hq
    cases hd : gx_lay[k]? with
    | none => simp [gx_ws, List.getElem?_map, List.getElem?_zipIdx, hd] at hq
    | some d =>
      rw [gx_at hd] at hq
      cases hq
      exact ⟨_, gx_at hd⟩
  refine ⟨fun i j p q hi hj hpq => ?_, fun k q hk => ?_⟩
  · obtain ⟨e1, h1⟩ := e i p hi
    obtain ⟨e2, h2⟩ := e j q hj
    exact h.1 i j _ _ h1 h2 hpq
  · obtain ⟨e1, h1⟩ := e k q hk
    exact h.2 k (q.1, e1) h1
abbrev gx_Γ : Type := Program × Env × Room × State × MethodId × Array Value × List Frame × Method × Code × (Nat → Prop) × Nat × Nat × Nat × (State → Prop)
/-- from this place, with these locals, this stack and this memory, the machine comes to Γ's end -/
def gx_G (κ : gx_K) (Γ : gx_Γ) (pc : Nat) (lv : List (Nat × Value)) (st : List Value) (M : gx_Mem) : Prop := match Γ with
  | (p, e, R, s, m, args, below, meth, c, A, nL, kc, ks, Q) => ∀ (H : Heap) (locs : List Loc) (ls : Array Slot), va_P κ.2.1 vwCl (gx_ws κ M) H → va_S A s.heap H locs → lv_has ls nL lv → W p κ.1 e R s m args below meth c H locs kc ks Q (F0 m pc ls st)
def gx_Cx (κ : gx_K) (Γ : gx_Γ) (own : String) (cc : ByteArray) (nL0 d : Nat) : Prop := match Γ with
  | (p, e, R, s, m, args, below, meth, c, A, nL, kc, ks, Q) => p.tables.exec = Jvm.exec ∧ c.code = cc ∧ c.maxLocals = nL ∧ s.vm.findClass own = some m.cls ∧ (∀ w ∈ gx_T, w.before args s = true) ∧ va_K κ.2.1 vwCl (gx_tys κ) s ∧ (∀ M : gx_Mem, va_D A (gx_ws κ M)) ∧ gx_St κ A s s.heap ∧ (∀ q : Nat, gx_A κ q → A q) ∧ (d ≤ R.frames ∧ 64 * d ≤ R.locals ∧ kc ≤ R.cells ∧ ks ≤ R.slots) ∧ nL = nL0 ∧ (∀ M : gx_Mem, va_D (gx_A κ) (gx_ws κ M))
def gx_rem (x y : Int32) : Int32 := x - x / y * y
def gx_remJ (x y : Int64) : Int64 := x - x / y * y
def gx_shl (x y : Int32) : Int32 := x <<< (y &&& 31)
def gx_shr (x y : Int32) : Int32 := x >>> (y &&& 31)
def gx_ushr (x y : Int32) : Int32 := (x.toUInt32 >>> (y.toUInt32 &&& Int32.toUInt32 31)).toInt32
def gx_let {α β : Type} (x : α) (f : α → β) : β := f x
def gx_gd {α : Type} (b : Bool) (x : Option α) : Option α := if b = true then x else none
def gx_in (i : Int32) (n : Nat) : Bool := decide (¬ (i < 0 ∨ n ≤ i.toNatClampNeg))
theorem gx_gd_of {α : Type} {b : Bool} {x : Option α} {r : α} (h : gx_gd b x = some r) : b = true ∧ x = some r := by
  unfold gx_gd at h
  by_cases hb : b = true
  · rw [if_pos hb] at h; exact ⟨hb, h⟩
  · rw [if_neg hb] at h; cases h
theorem gx_in_of {i : Int32} {n : Nat} (h : gx_in i n = true) : vp_in i n := of_decide_eq_true (p := ¬ (i < 0 ∨ n ≤ i.toNatClampNeg)) h
section GXR
variable {κ : gx_K} {Γ : gx_Γ} {own : String} {cc : ByteArray} {nL0 d : Nat} {pc pc2 : Nat} {lv lv2 : List (Nat × Value)} {st : List Value} {M : gx_Mem} {α : Type} {R0 : α}
theorem gx_sub (ks : List Nat) (hl : lv_pick lv ks = lv2) (k : gx_G κ Γ pc lv2 st M) : gx_G κ Γ pc lv st M := by
  obtain ⟨p, e, R, s, m, args, below, meth, c, A, nL, kc, kss, Q⟩ := Γ
  intro H locs ls hP hS hl0
  exact k H locs ls hP hS (lv_sub hl0 ks hl)
/-- a number on the stack gets a name -/
theorem gx_nmI {x : Int32} {f : Int32 → Option α} (h : gx_let x f = some R0) (k : ∀ v : Int32, f v = some R0 → gx_G κ Γ pc lv (.int v :: st) M) : gx_G κ Γ pc lv (.int x :: st) M := k x h
theorem gx_nmJ {x : Int64} {f : Int64 → Option α} (h : gx_let x f = some R0) (k : ∀ v : Int64, f v = some R0 → gx_G κ Γ pc lv (.long v :: st) M) : gx_G κ Γ pc lv (.long x :: st) M := k x h
theorem gx_iadd (Cx : gx_Cx κ Γ own cc nL0 d) {x y : Int32} (hd : gx_D cc pc .iadd 1 pc2)  (k : gx_G κ Γ pc2 lv (.int (x + y) :: st) M) : gx_G κ Γ pc lv (.int y :: .int x :: st) M := by
  obtain ⟨p, e, R, s, m, args, below, meth, c, A, nL, kc, kss, Q⟩ := Γ
  obtain ⟨hx, hb, -⟩ := Cx
  obtain ⟨hd, rfl⟩ := hd
  intro H locs ls hP hS hl
  exact lv_iadd hx hb hd  (k H locs ls hP hS hl)
theorem gx_isub (Cx : gx_Cx κ Γ own cc nL0 d) {x y : Int32} (hd : gx_D cc pc .isub 1 pc2)  (k : gx_G κ Γ pc2 lv (.int (x - y) :: st) M) : gx_G κ Γ pc lv (.int y :: .int x :: st) M := by
  obtain ⟨p, e, R, s, m, args, below, meth, c, A, nL, kc, kss, Q⟩ := Γ
  obtain ⟨hx, hb, -⟩ := Cx
  obtain ⟨hd, rfl⟩ := hd
  intro H locs ls hP hS hl
  exact lv_isub hx hb hd  (k H locs ls hP hS hl)
theorem gx_imul (Cx : gx_Cx κ Γ own cc nL0 d) {x y : Int32} (hd : gx_D cc pc .imul 1 pc2)  (k : gx_G κ Γ pc2 lv (.int (x * y) :: st) M) : gx_G κ Γ pc lv (.int y :: .int x :: st) M := by
  obtain ⟨p, e, R, s, m, args, below, meth, c, A, nL, kc, kss, Q⟩ := Γ
  obtain ⟨hx, hb, -⟩ := Cx
  obtain ⟨hd, rfl⟩ := hd
  intro H locs ls hP hS hl
  exact lv_imul hx hb hd  (k H locs ls hP hS hl)
theorem gx_iand (Cx : gx_Cx κ Γ own cc nL0 d) {x y : Int32} (hd : gx_D cc pc .iand 1 pc2)  (k : gx_G κ Γ pc2 lv (.int (x &&& y) :: st) M) : gx_G κ Γ pc lv (.int y :: .int x :: st) M := by
  obtain ⟨p, e, R, s, m, args, below, meth, c, A, nL, kc, kss, Q⟩ := Γ
  obtain ⟨hx, hb, -⟩ := Cx
  obtain ⟨hd, rfl⟩ := hd
  intro H locs ls hP hS hl
  exact lv_iand hx hb hd  (k H locs ls hP hS hl)
theorem gx_ior (Cx : gx_Cx κ Γ own cc nL0 d) {x y : Int32} (hd : gx_D cc pc .ior 1 pc2)  (k : gx_G κ Γ pc2 lv (.int (x ||| y) :: st) M) : gx_G κ Γ pc lv (.int y :: .int x :: st) M := by
  obtain ⟨p, e, R, s, m, args, below, meth, c, A, nL, kc, kss, Q⟩ := Γ
  obtain ⟨hx, hb, -⟩ := Cx
  obtain ⟨hd, rfl⟩ := hd
  intro H locs ls hP hS hl
  exact lv_ior hx hb hd  (k H locs ls hP hS hl)
theorem gx_ixor (Cx : gx_Cx κ Γ own cc nL0 d) {x y : Int32} (hd : gx_D cc pc .ixor 1 pc2)  (k : gx_G κ Γ pc2 lv (.int (x ^^^ y) :: st) M) : gx_G κ Γ pc lv (.int y :: .int x :: st) M := by
  obtain ⟨p, e, R, s, m, args, below, meth, c, A, nL, kc, kss, Q⟩ := Γ
  obtain ⟨hx, hb, -⟩ := Cx
  obtain ⟨hd, rfl⟩ := hd
  intro H locs ls hP hS hl
  exact lv_ixor hx hb hd  (k H locs ls hP hS hl)
theorem gx_ishl (Cx : gx_Cx κ Γ own cc nL0 d) {x y : Int32} (hd : gx_D cc pc .ishl 1 pc2)  (k : gx_G κ Γ pc2 lv (.int (gx_shl x y) :: st) M) : gx_G κ Γ pc lv (.int y :: .int x :: st) M := by
  obtain ⟨p, e, R, s, m, args, below, meth, c, A, nL, kc, kss, Q⟩ := Γ
  obtain ⟨hx, hb, -⟩ := Cx
  obtain ⟨hd, rfl⟩ := hd
  intro H locs ls hP hS hl
  exact lv_ishl hx hb hd  (k H locs ls hP hS hl)
theorem gx_ishr (Cx : gx_Cx κ Γ own cc nL0 d) {x y : Int32} (hd : gx_D cc pc .ishr 1 pc2)  (k : gx_G κ Γ pc2 lv (.int (gx_shr x y) :: st) M) : gx_G κ Γ pc lv (.int y :: .int x :: st) M := by
  obtain ⟨p, e, R, s, m, args, below, meth, c, A, nL, kc, kss, Q⟩ := Γ
  obtain ⟨hx, hb, -⟩ := Cx
  obtain ⟨hd, rfl⟩ := hd
  intro H locs ls hP hS hl
  exact lv_ishr hx hb hd  (k H locs ls hP hS hl)
theorem gx_iushr (Cx : gx_Cx κ Γ own cc nL0 d) {x y : Int32} (hd : gx_D cc pc .iushr 1 pc2)  (k : gx_G κ Γ pc2 lv (.int (gx_ushr x y) :: st) M) : gx_G κ Γ pc lv (.int y :: .int x :: st) M := by
  obtain ⟨p, e, R, s, m, args, below, meth, c, A, nL, kc, kss, Q⟩ := Γ
  obtain ⟨hx, hb, -⟩ := Cx
  obtain ⟨hd, rfl⟩ := hd
  intro H locs ls hP hS hl
  exact lv_iushr hx hb hd rfl (k H locs ls hP hS hl)
theorem gx_ineg (Cx : gx_Cx κ Γ own cc nL0 d) {x : Int32} (hd : gx_D cc pc .ineg 1 pc2)  (k : gx_G κ Γ pc2 lv (.int (-x) :: st) M) : gx_G κ Γ pc lv (.int x :: st) M := by
  obtain ⟨p, e, R, s, m, args, below, meth, c, A, nL, kc, kss, Q⟩ := Γ
  obtain ⟨hx, hb, -⟩ := Cx
  obtain ⟨hd, rfl⟩ := hd
  intro H locs ls hP hS hl
  exact lv_ineg hx hb hd  (k H locs ls hP hS hl)
theorem gx_i2b (Cx : gx_Cx κ Γ own cc nL0 d) {x : Int32} (hd : gx_D cc pc .i2b 1 pc2)  (k : gx_G κ Γ pc2 lv (.int (x.toInt8.toInt32) :: st) M) : gx_G κ Γ pc lv (.int x :: st) M := by
  obtain ⟨p, e, R, s, m, args, below, meth, c, A, nL, kc, kss, Q⟩ := Γ
  obtain ⟨hx, hb, -⟩ := Cx
  obtain ⟨hd, rfl⟩ := hd
  intro H locs ls hP hS hl
  exact lv_i2b hx hb hd rfl (k H locs ls hP hS hl)
theorem gx_i2s (Cx : gx_Cx κ Γ own cc nL0 d) {x : Int32} (hd : gx_D cc pc .i2s 1 pc2)  (k : gx_G κ Γ pc2 lv (.int (x.toInt16.toInt32) :: st) M) : gx_G κ Γ pc lv (.int x :: st) M := by
  obtain ⟨p, e, R, s, m, args, below, meth, c, A, nL, kc, kss, Q⟩ := Γ
  obtain ⟨hx, hb, -⟩ := Cx
  obtain ⟨hd, rfl⟩ := hd
  intro H locs ls hP hS hl
  exact lv_i2s hx hb hd rfl (k H locs ls hP hS hl)
theorem gx_i2l (Cx : gx_Cx κ Γ own cc nL0 d) {x : Int32} (hd : gx_D cc pc .i2l 1 pc2)  (k : gx_G κ Γ pc2 lv (.long (x.toInt64) :: st) M) : gx_G κ Γ pc lv (.int x :: st) M := by
  obtain ⟨p, e, R, s, m, args, below, meth, c, A, nL, kc, kss, Q⟩ := Γ
  obtain ⟨hx, hb, -⟩ := Cx
  obtain ⟨hd, rfl⟩ := hd
  intro H locs ls hP hS hl
  exact lv_i2l hx hb hd rfl (k H locs ls hP hS hl)
theorem gx_l2i (Cx : gx_Cx κ Γ own cc nL0 d) {x : Int64} (hd : gx_D cc pc .l2i 1 pc2)  (k : gx_G κ Γ pc2 lv (.int (x.toInt32) :: st) M) : gx_G κ Γ pc lv (.long x :: st) M := by
  obtain ⟨p, e, R, s, m, args, below, meth, c, A, nL, kc, kss, Q⟩ := Γ
  obtain ⟨hx, hb, -⟩ := Cx
  obtain ⟨hd, rfl⟩ := hd
  intro H locs ls hP hS hl
  exact lv_l2i hx hb hd rfl (k H locs ls hP hS hl)
theorem gx_ladd (Cx : gx_Cx κ Γ own cc nL0 d) {x y : Int64} (hd : gx_D cc pc .ladd 1 pc2)  (k : gx_G κ Γ pc2 lv (.long (x + y) :: st) M) : gx_G κ Γ pc lv (.long y :: .long x :: st) M := by
  obtain ⟨p, e, R, s, m, args, below, meth, c, A, nL, kc, kss, Q⟩ := Γ
  obtain ⟨hx, hb, -⟩ := Cx
  obtain ⟨hd, rfl⟩ := hd
  intro H locs ls hP hS hl
  exact lv_ladd hx hb hd  (k H locs ls hP hS hl)
theorem gx_lmul (Cx : gx_Cx κ Γ own cc nL0 d) {x y : Int64} (hd : gx_D cc pc .lmul 1 pc2)  (k : gx_G κ Γ pc2 lv (.long (x * y) :: st) M) : gx_G κ Γ pc lv (.long y :: .long x :: st) M := by
  obtain ⟨p, e, R, s, m, args, below, meth, c, A, nL, kc, kss, Q⟩ := Γ
  obtain ⟨hx, hb, -⟩ := Cx
  obtain ⟨hd, rfl⟩ := hd
  intro H locs ls hP hS hl
  exact lv_lmul hx hb hd  (k H locs ls hP hS hl)
theorem gx_land (Cx : gx_Cx κ Γ own cc nL0 d) {x y : Int64} (hd : gx_D cc pc .land 1 pc2)  (k : gx_G κ Γ pc2 lv (.long (x &&& y) :: st) M) : gx_G κ Γ pc lv (.long y :: .long x :: st) M := by
  obtain ⟨p, e, R, s, m, args, below, meth, c, A, nL, kc, kss, Q⟩ := Γ
  obtain ⟨hx, hb, -⟩ := Cx
  obtain ⟨hd, rfl⟩ := hd
  intro H locs ls hP hS hl
  exact lv_land hx hb hd  (k H locs ls hP hS hl)
theorem gx_lor (Cx : gx_Cx κ Γ own cc nL0 d) {x y : Int64} (hd : gx_D cc pc .lor 1 pc2)  (k : gx_G κ Γ pc2 lv (.long (x ||| y) :: st) M) : gx_G κ Γ pc lv (.long y :: .long x :: st) M := by
  obtain ⟨p, e, R, s, m, args, below, meth, c, A, nL, kc, kss, Q⟩ := Γ
  obtain ⟨hx, hb, -⟩ := Cx
  obtain ⟨hd, rfl⟩ := hd
  intro H locs ls hP hS hl
  exact lv_lor hx hb hd  (k H locs ls hP hS hl)
theorem gx_lcmp (Cx : gx_Cx κ Γ own cc nL0 d) {x y : Int64} (hd : gx_D cc pc .lcmp 1 pc2)  (k : gx_G κ Γ pc2 lv (.int (lg_cmp x y) :: st) M) : gx_G κ Γ pc lv (.long y :: .long x :: st) M := by
  obtain ⟨p, e, R, s, m, args, below, meth, c, A, nL, kc, kss, Q⟩ := Γ
  obtain ⟨hx, hb, -⟩ := Cx
  obtain ⟨hd, rfl⟩ := hd
  intro H locs ls hP hS hl
  exact W.lcmp hx hb hd  (k H locs ls hP hS hl)
theorem gx_lshl (Cx : gx_Cx κ Γ own cc nL0 d) {x : Int64} {y : Int32} (hd : gx_D cc pc .lshl 1 pc2)  (k : gx_G κ Γ pc2 lv (.long (x <<< (y.toInt64 &&& 63)) :: st) M) : gx_G κ Γ pc lv (.int y :: .long x :: st) M := by
  obtain ⟨p, e, R, s, m, args, below, meth, c, A, nL, kc, kss, Q⟩ := Γ
  obtain ⟨hx, hb, -⟩ := Cx
  obtain ⟨hd, rfl⟩ := hd
  intro H locs ls hP hS hl
  exact lv_lshl hx hb hd rfl (k H locs ls hP hS hl)
theorem gx_dup (Cx : gx_Cx κ Γ own cc nL0 d) {va : Value} (hd : gx_D cc pc .dup 1 pc2) (hv : va.category = 1) (k : gx_G κ Γ pc2 lv (va :: va :: st) M) : gx_G κ Γ pc lv (va :: st) M := by
  obtain ⟨p, e, R, s, m, args, below, meth, c, A, nL, kc, kss, Q⟩ := Γ
  obtain ⟨hx, hb, -⟩ := Cx
  obtain ⟨hd, rfl⟩ := hd
  intro H locs ls hP hS hl
  exact lv_dup hx hb hd hv (k H locs ls hP hS hl)
theorem gx_pop (Cx : gx_Cx κ Γ own cc nL0 d) {va : Value} (hd : gx_D cc pc .pop 1 pc2) (hv : va.category = 1) (k : gx_G κ Γ pc2 lv (st) M) : gx_G κ Γ pc lv (va :: st) M := by
  obtain ⟨p, e, R, s, m, args, below, meth, c, A, nL, kc, kss, Q⟩ := Γ
  obtain ⟨hx, hb, -⟩ := Cx
  obtain ⟨hd, rfl⟩ := hd
  intro H locs ls hP hS hl
  exact lv_pop hx hb hd hv (k H locs ls hP hS hl)
theorem gx_dup2 (Cx : gx_Cx κ Γ own cc nL0 d) {va vb : Value} (hd : gx_D cc pc .dup2 1 pc2) (hv : va.category = 1) (hw : vb.category = 1) (k : gx_G κ Γ pc2 lv (va :: vb :: va :: vb :: st) M) : gx_G κ Γ pc lv (va :: vb :: st) M := by
  obtain ⟨p, e, R, s, m, args, below, meth, c, A, nL, kc, kss, Q⟩ := Γ
  obtain ⟨hx, hb, -⟩ := Cx
  obtain ⟨hd, rfl⟩ := hd
  intro H locs ls hP hS hl
  exact lv_dup2_11 hx hb hd hv hw (k H locs ls hP hS hl)
theorem gx_iconst (Cx : gx_Cx κ Γ own cc nL0 d) {n : Int} {v : Int32} (hd : gx_D cc pc (.iconst n) 1 pc2) (hv : Int32.ofInt n = v) (k : gx_G κ Γ pc2 lv (.int v :: st) M) : gx_G κ Γ pc lv (st) M := by
  obtain ⟨p, e, R, s, m, args, below, meth, c, A, nL, kc, kss, Q⟩ := Γ
  obtain ⟨hx, hb, -⟩ := Cx
  obtain ⟨hd, rfl⟩ := hd
  intro H locs ls hP hS hl
  exact lv_iconst hx hb hd hv (k H locs ls hP hS hl)
theorem gx_bipush (Cx : gx_Cx κ Γ own cc nL0 d) {n : Int} {v : Int32} (hd : gx_D cc pc (.bipush n) 2 pc2) (hv : (Int8.ofInt n).toInt32 = v) (k : gx_G κ Γ pc2 lv (.int v :: st) M) : gx_G κ Γ pc lv (st) M := by
  obtain ⟨p, e, R, s, m, args, below, meth, c, A, nL, kc, kss, Q⟩ := Γ
  obtain ⟨hx, hb, -⟩ := Cx
  obtain ⟨hd, rfl⟩ := hd
  intro H locs ls hP hS hl
  exact lv_bipush hx hb hd hv (k H locs ls hP hS hl)
theorem gx_sipush (Cx : gx_Cx κ Γ own cc nL0 d) {n : Int} {v : Int32} (hd : gx_D cc pc (.sipush n) 3 pc2) (hv : (Int16.ofInt n).toInt32 = v) (k : gx_G κ Γ pc2 lv (.int v :: st) M) : gx_G κ Γ pc lv (st) M := by
  obtain ⟨p, e, R, s, m, args, below, meth, c, A, nL, kc, kss, Q⟩ := Γ
  obtain ⟨hx, hb, -⟩ := Cx
  obtain ⟨hd, rfl⟩ := hd
  intro H locs ls hP hS hl
  exact lv_sipush hx hb hd hv (k H locs ls hP hS hl)
theorem gx_lconst (Cx : gx_Cx κ Γ own cc nL0 d) {n : Fin 2} {v : Int64} (hd : gx_D cc pc (.lconst n) 1 pc2) (hv : Int64.ofNat (n : Nat) = v) (k : gx_G κ Γ pc2 lv (.long v :: st) M) : gx_G κ Γ pc lv (st) M := by
  obtain ⟨p, e, R, s, m, args, below, meth, c, A, nL, kc, kss, Q⟩ := Γ
  obtain ⟨hx, hb, -⟩ := Cx
  obtain ⟨hd, rfl⟩ := hd
  intro H locs ls hP hS hl
  exact lv_lconst hx hb hd hv (k H locs ls hP hS hl)
theorem gx_iload (Cx : gx_Cx κ Γ own cc nL0 d) {i : Nat} {x : Int32} (hd : gx_D cc pc (.iload i) 2 pc2) (j : Nat) (hj : lv[j]? = some (i, .int x)) (k : gx_G κ Γ pc2 lv (.int x :: st) M) : gx_G κ Γ pc lv (st) M := by
  obtain ⟨p, e, R, s, m, args, below, meth, c, A, nL, kc, kss, Q⟩ := Γ
  obtain ⟨hx, hb, -⟩ := Cx
  obtain ⟨hd, rfl⟩ := hd
  intro H locs ls hP hS hl
  exact lv_iload hx hb hd (lv_at hl j hj) (k H locs ls hP hS hl)
theorem gx_iload_n (Cx : gx_Cx κ Γ own cc nL0 d) {i : Fin 4} {x : Int32} (hd : gx_D cc pc (.iload_n i) 1 pc2) (j : Nat) (hj : lv[j]? = some ((i : Nat), .int x)) (k : gx_G κ Γ pc2 lv (.int x :: st) M) : gx_G κ Γ pc lv (st) M := by
  obtain ⟨p, e, R, s, m, args, below, meth, c, A, nL, kc, kss, Q⟩ := Γ
  obtain ⟨hx, hb, -⟩ := Cx
  obtain ⟨hd, rfl⟩ := hd
  intro H locs ls hP hS hl
  exact lv_iload_n hx hb hd rfl (lv_at hl j hj) (k H locs ls hP hS hl)
theorem gx_lload (Cx : gx_Cx κ Γ own cc nL0 d) {i : Nat} {x : Int64} (hd : gx_D cc pc (.lload i) 2 pc2) (j : Nat) (hj : lv[j]? = some (i, .long x)) (k : gx_G κ Γ pc2 lv (.long x :: st) M) : gx_G κ Γ pc lv (st) M := by
  obtain ⟨p, e, R, s, m, args, below, meth, c, A, nL, kc, kss, Q⟩ := Γ
  obtain ⟨hx, hb, -⟩ := Cx
  obtain ⟨hd, rfl⟩ := hd
  intro H locs ls hP hS hl
  exact lv_lload hx hb hd (lv_at hl j hj) (k H locs ls hP hS hl)
theorem gx_lload_n (Cx : gx_Cx κ Γ own cc nL0 d) {i : Fin 4} {x : Int64} (hd : gx_D cc pc (.lload_n i) 1 pc2) (j : Nat) (hj : lv[j]? = some ((i : Nat), .long x)) (k : gx_G κ Γ pc2 lv (.long x :: st) M) : gx_G κ Γ pc lv (st) M := by
  obtain ⟨p, e, R, s, m, args, below, meth, c, A, nL, kc, kss, Q⟩ := Γ
  obtain ⟨hx, hb, -⟩ := Cx
  obtain ⟨hd, rfl⟩ := hd
  intro H locs ls hP hS hl
  exact lv_lload_n hx hb hd rfl (lv_at hl j hj) (k H locs ls hP hS hl)
theorem gx_aload (Cx : gx_Cx κ Γ own cc nL0 d) {i : Nat} {x : Nat} (hd : gx_D cc pc (.aload i) 2 pc2) (j : Nat) (hj : lv[j]? = some (i, .ref x)) (k : gx_G κ Γ pc2 lv (.ref x :: st) M) : gx_G κ Γ pc lv (st) M := by
  obtain ⟨p, e, R, s, m, args, below, meth, c, A, nL, kc, kss, Q⟩ := Γ
  obtain ⟨hx, hb, -⟩ := Cx
  obtain ⟨hd, rfl⟩ := hd
  intro H locs ls hP hS hl
  exact lv_aload hx hb hd (lv_at hl j hj) (k H locs ls hP hS hl)
theorem gx_aload_n (Cx : gx_Cx κ Γ own cc nL0 d) {i : Fin 4} {x : Nat} (hd : gx_D cc pc (.aload_n i) 1 pc2) (j : Nat) (hj : lv[j]? = some ((i : Nat), .ref x)) (k : gx_G κ Γ pc2 lv (.ref x :: st) M) : gx_G κ Γ pc lv (st) M := by
  obtain ⟨p, e, R, s, m, args, below, meth, c, A, nL, kc, kss, Q⟩ := Γ
  obtain ⟨hx, hb, -⟩ := Cx
  obtain ⟨hd, rfl⟩ := hd
  intro H locs ls hP hS hl
  exact lv_aload_n hx hb hd rfl (lv_at hl j hj) (k H locs ls hP hS hl)
theorem gx_istore (Cx : gx_Cx κ Γ own cc nL0 d) {i : Nat} {x : Int32} (hd : gx_D cc pc (.istore i) 2 pc2) (lv2 : List (Nat × Value)) (hl2 : (i, Value.int x) :: lv.filter (fun q => !(q.1 == i) && !(q.1 + 1 == i && q.2.category == 2)) = lv2) (hn : i < nL0) (k : gx_G κ Γ pc2 lv2 st M) : gx_G κ Γ pc lv (.int x :: st) M := by
  obtain ⟨p, e, R, s, m, args, below, meth, c, A, nL, kc, kss, Q⟩ := Γ
  obtain ⟨hx, hb, -, -, -, -, -, -, -, -, rfl, -⟩ := Cx
  obtain ⟨hd, rfl⟩ := hd
  intro H locs ls hP hS hl
  exact lv_istore hx hb hd hl hn hl2 (fun ls2 hl3 => k H locs ls2 hP hS hl3)
theorem gx_istore_n (Cx : gx_Cx κ Γ own cc nL0 d) {i : Fin 4} {x : Int32} (hd : gx_D cc pc (.istore_n i) 1 pc2) (lv2 : List (Nat × Value)) (hl2 : ((i : Nat), Value.int x) :: lv.filter (fun q => !(q.1 == (i : Nat)) && !(q.1 + 1 == (i : Nat) && q.2.category == 2)) = lv2) (hn : (i : Nat) < nL0) (k : gx_G κ Γ pc2 lv2 st M) : gx_G κ Γ pc lv (.int x :: st) M := by
  obtain ⟨p, e, R, s, m, args, below, meth, c, A, nL, kc, kss, Q⟩ := Γ
  obtain ⟨hx, hb, -, -, -, -, -, -, -, -, rfl, -⟩ := Cx
  obtain ⟨hd, rfl⟩ := hd
  intro H locs ls hP hS hl
  exact lv_istore_n hx hb hd rfl hl hn hl2 (fun ls2 hl3 => k H locs ls2 hP hS hl3)
theorem gx_lstore (Cx : gx_Cx κ Γ own cc nL0 d) {i : Nat} {x : Int64} (hd : gx_D cc pc (.lstore i) 2 pc2) (lv2 : List (Nat × Value)) (hl2 : (i, Value.long x) :: lv.filter (fun q => !(q.1 == i) && (!(q.1 == i + 1) && !(q.1 + 1 == i && q.2.category == 2))) = lv2) (hn : i + 1 < nL0) (k : gx_G κ Γ pc2 lv2 st M) : gx_G κ Γ pc lv (.long x :: st) M := by
  obtain ⟨p, e, R, s, m, args, below, meth, c, A, nL, kc, kss, Q⟩ := Γ
  obtain ⟨hx, hb, -, -, -, -, -, -, -, -, rfl, -⟩ := Cx
  obtain ⟨hd, rfl⟩ := hd
  intro H locs ls hP hS hl
  exact lv_lstore hx hb hd hl hn hl2 (fun ls2 hl3 => k H locs ls2 hP hS hl3)
theorem gx_lstore_n (Cx : gx_Cx κ Γ own cc nL0 d) {i : Fin 4} {x : Int64} (hd : gx_D cc pc (.lstore_n i) 1 pc2) (lv2 : List (Nat × Value)) (hl2 : ((i : Nat), Value.long x) :: lv.filter (fun q => !(q.1 == (i : Nat)) && (!(q.1 == (i : Nat) + 1) && !(q.1 + 1 == (i : Nat) && q.2.category == 2))) = lv2) (hn : (i : Nat) + 1 < nL0) (k : gx_G κ Γ pc2 lv2 st M) : gx_G κ Γ pc lv (.long x :: st) M := by
  obtain ⟨p, e, R, s, m, args, below, meth, c, A, nL, kc, kss, Q⟩ := Γ
  obtain ⟨hx, hb, -, -, -, -, -, -, -, -, rfl, -⟩ := Cx
  obtain ⟨hd, rfl⟩ := hd
  intro H locs ls hP hS hl
  exact lv_lstore_n hx hb hd rfl hl hn hl2 (fun ls2 hl3 => k H locs ls2 hP hS hl3)
theorem gx_astore (Cx : gx_Cx κ Γ own cc nL0 d) {i : Nat} {x : Nat} (hd : gx_D cc pc (.astore i) 2 pc2) (lv2 : List (Nat × Value)) (hl2 : (i, Value.ref x) :: lv.filter (fun q => !(q.1 == i) && !(q.1 + 1 == i && q.2.category == 2)) = lv2) (hn : i < nL0) (k : gx_G κ Γ pc2 lv2 st M) : gx_G κ Γ pc lv (.ref x :: st) M := by
  obtain ⟨p, e, R, s, m, args, below, meth, c, A, nL, kc, kss, Q⟩ := Γ
  obtain ⟨hx, hb, -, -, -, -, -, -, -, -, rfl, -⟩ := Cx
  obtain ⟨hd, rfl⟩ := hd
  intro H locs ls hP hS hl
  exact lv_astore hx hb hd hl hn hl2 (fun ls2 hl3 => k H locs ls2 hP hS hl3)
theorem gx_astore_n (Cx : gx_Cx κ Γ own cc nL0 d) {i : Fin 4} {x : Nat} (hd : gx_D cc pc (.astore_n i) 1 pc2) (lv2 : List (Nat × Value)) (hl2 : ((i : Nat), Value.ref x) :: lv.filter (fun q => !(q.1 == (i : Nat)) && !(q.1 + 1 == (i : Nat) && q.2.category == 2)) = lv2) (hn : (i : Nat) < nL0) (k : gx_G κ Γ pc2 lv2 st M) : gx_G κ Γ pc lv (.ref x :: st) M := by
  obtain ⟨p, e, R, s, m, args, below, meth, c, A, nL, kc, kss, Q⟩ := Γ
  obtain ⟨hx, hb, -, -, -, -, -, -, -, -, rfl, -⟩ := Cx
  obtain ⟨hd, rfl⟩ := hd
  intro H locs ls hP hS hl
  exact lv_astore_n hx hb hd rfl hl hn hl2 (fun ls2 hl3 => k H locs ls2 hP hS hl3)
theorem gx_iinc (Cx : gx_Cx κ Γ own cc nL0 d) {i j : Nat} {n : Int} {x v : Int32} {f : Int32 → Option α} (hd : gx_D cc pc (.iinc i n) 3 pc2) (hv : Int32.ofInt n = v) (h : gx_let (x + v) f = some R0) (j : Nat) (hj : lv[j]? = some (i, .int x)) (lv2 : Int32 → List (Nat × Value)) (hl2 : ∀ w : Int32, (i, Value.int w) :: lv.filter (fun q => !(q.1 == i) && !(q.1 + 1 == i && q.2.category == 2)) = lv2 w) (hn : i < nL0) (k : ∀ w : Int32, f w = some R0 → gx_G κ Γ pc2 (lv2 w) st M) : gx_G κ Γ pc lv st M := by
  obtain ⟨p, e, R, s, m, args, below, meth, c, A, nL, kc, kss, Q⟩ := Γ
  obtain ⟨hx, hb, -, -, -, -, -, -, -, -, rfl, -⟩ := Cx
  obtain ⟨hd, rfl⟩ := hd
  intro H locs ls hP hS hl
  exact lv_iinc (v := x + v) hx hb hd hl hj (by rw [hv]) hn (hl2 _) (fun ls2 hl3 => k _ h H locs ls2 hP hS hl3)
theorem gx_if_eq (Cx : gx_Cx κ Γ own cc nL0 d) {x : Int32} {off : Int} {tgt : Nat} {i : Decidable (x = 0)} {a b : Option α} (hd : gx_D cc pc (.ifCond .eq off) 3 pc2) (ht : (pc : Int) + off = (tgt : Int)) (h : (if x = 0 then a else b) = some R0) (kt : a = some R0 → gx_G κ Γ tgt lv st M) (kf : b = some R0 → gx_G κ Γ pc2 lv st M) : gx_G κ Γ pc lv (.int x :: st) M := by
  obtain ⟨p, e, R, s, m, args, below, meth, c, A, nL, kc, kss, Q⟩ := Γ
  obtain ⟨hx, hb, -⟩ := Cx
  obtain ⟨hd, rfl⟩ := hd
  intro H locs ls hP hS hl
  exact lv_if_eq hx hb hd ht (fun q => kt (by rw [if_pos q] at h; exact h) H locs ls hP hS hl) (fun q => kf (by rw [if_neg q] at h; exact h) H locs ls hP hS hl)
theorem gx_if_ne (Cx : gx_Cx κ Γ own cc nL0 d) {x : Int32} {off : Int} {tgt : Nat} {i : Decidable (x = 0)} {a b : Option α} (hd : gx_D cc pc (.ifCond .ne off) 3 pc2) (ht : (pc : Int) + off = (tgt : Int)) (h : (if x = 0 then a else b) = some R0) (kt : b = some R0 → gx_G κ Γ tgt lv st M) (kf : a = some R0 → gx_G κ Γ pc2 lv st M) : gx_G κ Γ pc lv (.int x :: st) M := by
  obtain ⟨p, e, R, s, m, args, below, meth, c, A, nL, kc, kss, Q⟩ := Γ
  obtain ⟨hx, hb, -⟩ := Cx
  obtain ⟨hd, rfl⟩ := hd
  intro H locs ls hP hS hl
  exact lv_if_ne hx hb hd ht (fun q => kt (by rw [if_neg q] at h; exact h) H locs ls hP hS hl) (fun q => kf (by rw [if_pos q] at h; exact h) H locs ls hP hS hl)
theorem gx_if_lt (Cx : gx_Cx κ Γ own cc nL0 d) {x : Int32} {off : Int} {tgt : Nat} {i : Decidable (x < 0)} {a b : Option α} (hd : gx_D cc pc (.ifCond .lt off) 3 pc2) (ht : (pc : Int) + off = (tgt : Int)) (h : (if x < 0 then a else b) = some R0) (kt : a = some R0 → gx_G κ Γ tgt lv st M) (kf : b = some R0 → gx_G κ Γ pc2 lv st M) : gx_G κ Γ pc lv (.int x :: st) M := by
  obtain ⟨p, e, R, s, m, args, below, meth, c, A, nL, kc, kss, Q⟩ := Γ
  obtain ⟨hx, hb, -⟩ := Cx
  obtain ⟨hd, rfl⟩ := hd
  intro H locs ls hP hS hl
  exact lv_if_lt hx hb hd ht (fun q => kt (by rw [if_pos q] at h; exact h) H locs ls hP hS hl) (fun q => kf (by rw [if_neg q] at h; exact h) H locs ls hP hS hl)
theorem gx_if_ge (Cx : gx_Cx κ Γ own cc nL0 d) {x : Int32} {off : Int} {tgt : Nat} {i : Decidable (0 ≤ x)} {a b : Option α} (hd : gx_D cc pc (.ifCond .ge off) 3 pc2) (ht : (pc : Int) + off = (tgt : Int)) (h : (if 0 ≤ x then a else b) = some R0) (kt : a = some R0 → gx_G κ Γ tgt lv st M) (kf : b = some R0 → gx_G κ Γ pc2 lv st M) : gx_G κ Γ pc lv (.int x :: st) M := by
  obtain ⟨p, e, R, s, m, args, below, meth, c, A, nL, kc, kss, Q⟩ := Γ
  obtain ⟨hx, hb, -⟩ := Cx
  obtain ⟨hd, rfl⟩ := hd
  intro H locs ls hP hS hl
  exact lv_if_ge hx hb hd ht (fun q => kt (by rw [if_pos q] at h; exact h) H locs ls hP hS hl) (fun q => kf (by rw [if_neg q] at h; exact h) H locs ls hP hS hl)
theorem gx_if_gt (Cx : gx_Cx κ Γ own cc nL0 d) {x : Int32} {off : Int} {tgt : Nat} {i : Decidable (0 < x)} {a b : Option α} (hd : gx_D cc pc (.ifCond .gt off) 3 pc2) (ht : (pc : Int) + off = (tgt : Int)) (h : (if 0 < x then a else b) = some R0) (kt : a = some R0 → gx_G κ Γ tgt lv st M) (kf : b = some R0 → gx_G κ Γ pc2 lv st M) : gx_G κ Γ pc lv (.int x :: st) M := by
  obtain ⟨p, e, R, s, m, args, below, meth, c, A, nL, kc, kss, Q⟩ := Γ
  obtain ⟨hx, hb, -⟩ := Cx
  obtain ⟨hd, rfl⟩ := hd
  intro H locs ls hP hS hl
  exact lv_if_gt hx hb hd ht (fun q => kt (by rw [if_pos q] at h; exact h) H locs ls hP hS hl) (fun q => kf (by rw [if_neg q] at h; exact h) H locs ls hP hS hl)
theorem gx_if_le (Cx : gx_Cx κ Γ own cc nL0 d) {x : Int32} {off : Int} {tgt : Nat} {i : Decidable (x ≤ 0)} {a b : Option α} (hd : gx_D cc pc (.ifCond .le off) 3 pc2) (ht : (pc : Int) + off = (tgt : Int)) (h : (if x ≤ 0 then a else b) = some R0) (kt : a = some R0 → gx_G κ Γ tgt lv st M) (kf : b = some R0 → gx_G κ Γ pc2 lv st M) : gx_G κ Γ pc lv (.int x :: st) M := by
  obtain ⟨p, e, R, s, m, args, below, meth, c, A, nL, kc, kss, Q⟩ := Γ
  obtain ⟨hx, hb, -⟩ := Cx
  obtain ⟨hd, rfl⟩ := hd
  intro H locs ls hP hS hl
  exact lv_if_le hx hb hd ht (fun q => kt (by rw [if_pos q] at h; exact h) H locs ls hP hS hl) (fun q => kf (by rw [if_neg q] at h; exact h) H locs ls hP hS hl)
theorem gx_icmp_eq (Cx : gx_Cx κ Γ own cc nL0 d) {x y : Int32} {off : Int} {tgt : Nat} {i : Decidable (x = y)} {a b : Option α} (hd : gx_D cc pc (.if_icmp .eq off) 3 pc2) (ht : (pc : Int) + off = (tgt : Int)) (h : (if x = y then a else b) = some R0) (kt : a = some R0 → gx_G κ Γ tgt lv st M) (kf : b = some R0 → gx_G κ Γ pc2 lv st M) : gx_G κ Γ pc lv (.int y :: .int x :: st) M := by
  obtain ⟨p, e, R, s, m, args, below, meth, c, A, nL, kc, kss, Q⟩ := Γ
  obtain ⟨hx, hb, -⟩ := Cx
  obtain ⟨hd, rfl⟩ := hd
  intro H locs ls hP hS hl
  exact lv_icmp_eq hx hb hd ht (fun q => kt (by rw [if_pos q] at h; exact h) H locs ls hP hS hl) (fun q => kf (by rw [if_neg q] at h; exact h) H locs ls hP hS hl)
theorem gx_icmp_ne (Cx : gx_Cx κ Γ own cc nL0 d) {x y : Int32} {off : Int} {tgt : Nat} {i : Decidable (x = y)} {a b : Option α} (hd : gx_D cc pc (.if_icmp .ne off) 3 pc2) (ht : (pc : Int) + off = (tgt : Int)) (h : (if x = y then a else b) = some R0) (kt : b = some R0 → gx_G κ Γ tgt lv st M) (kf : a = some R0 → gx_G κ Γ pc2 lv st M) : gx_G κ Γ pc lv (.int y :: .int x :: st) M := by
  obtain ⟨p, e, R, s, m, args, below, meth, c, A, nL, kc, kss, Q⟩ := Γ
  obtain ⟨hx, hb, -⟩ := Cx
  obtain ⟨hd, rfl⟩ := hd
  intro H locs ls hP hS hl
  exact lv_icmp_ne hx hb hd ht (fun q => kt (by rw [if_neg q] at h; exact h) H locs ls hP hS hl) (fun q => kf (by rw [if_pos q] at h; exact h) H locs ls hP hS hl)
theorem gx_icmp_lt (Cx : gx_Cx κ Γ own cc nL0 d) {x y : Int32} {off : Int} {tgt : Nat} {i : Decidable (x < y)} {a b : Option α} (hd : gx_D cc pc (.if_icmp .lt off) 3 pc2) (ht : (pc : Int) + off = (tgt : Int)) (h : (if x < y then a else b) = some R0) (kt : a = some R0 → gx_G κ Γ tgt lv st M) (kf : b = some R0 → gx_G κ Γ pc2 lv st M) : gx_G κ Γ pc lv (.int y :: .int x :: st) M := by
  obtain ⟨p, e, R, s, m, args, below, meth, c, A, nL, kc, kss, Q⟩ := Γ
  obtain ⟨hx, hb, -⟩ := Cx
  obtain ⟨hd, rfl⟩ := hd
  intro H locs ls hP hS hl
  exact lv_icmp_lt hx hb hd ht (fun q => kt (by rw [if_pos q] at h; exact h) H locs ls hP hS hl) (fun q => kf (by rw [if_neg q] at h; exact h) H locs ls hP hS hl)
theorem gx_icmp_ge (Cx : gx_Cx κ Γ own cc nL0 d) {x y : Int32} {off : Int} {tgt : Nat} {i : Decidable (y ≤ x)} {a b : Option α} (hd : gx_D cc pc (.if_icmp .ge off) 3 pc2) (ht : (pc : Int) + off = (tgt : Int)) (h : (if y ≤ x then a else b) = some R0) (kt : a = some R0 → gx_G κ Γ tgt lv st M) (kf : b = some R0 → gx_G κ Γ pc2 lv st M) : gx_G κ Γ pc lv (.int y :: .int x :: st) M := by
  obtain ⟨p, e, R, s, m, args, below, meth, c, A, nL, kc, kss, Q⟩ := Γ
  obtain ⟨hx, hb, -⟩ := Cx
  obtain ⟨hd, rfl⟩ := hd
  intro H locs ls hP hS hl
  exact lv_icmp_ge hx hb hd ht (fun q => kt (by rw [if_pos q] at h; exact h) H locs ls hP hS hl) (fun q => kf (by rw [if_neg q] at h; exact h) H locs ls hP hS hl)
theorem gx_icmp_gt (Cx : gx_Cx κ Γ own cc nL0 d) {x y : Int32} {off : Int} {tgt : Nat} {i : Decidable (y < x)} {a b : Option α} (hd : gx_D cc pc (.if_icmp .gt off) 3 pc2) (ht : (pc : Int) + off = (tgt : Int)) (h : (if y < x then a else b) = some R0) (kt : a = some R0 → gx_G κ Γ tgt lv st M) (kf : b = some R0 → gx_G κ Γ pc2 lv st M) : gx_G κ Γ pc lv (.int y :: .int x :: st) M := by
  obtain ⟨p, e, R, s, m, args, below, meth, c, A, nL, kc, kss, Q⟩ := Γ
  obtain ⟨hx, hb, -⟩ := Cx
  obtain ⟨hd, rfl⟩ := hd
  intro H locs ls hP hS hl
  exact lv_icmp_gt hx hb hd ht (fun q => kt (by rw [if_pos q] at h; exact h) H locs ls hP hS hl) (fun q => kf (by rw [if_neg q] at h; exact h) H locs ls hP hS hl)
theorem gx_icmp_le (Cx : gx_Cx κ Γ own cc nL0 d) {x y : Int32} {off : Int} {tgt : Nat} {i : Decidable (x ≤ y)} {a b : Option α} (hd : gx_D cc pc (.if_icmp .le off) 3 pc2) (ht : (pc : Int) + off = (tgt : Int)) (h : (if x ≤ y then a else b) = some R0) (kt : a = some R0 → gx_G κ Γ tgt lv st M) (kf : b = some R0 → gx_G κ Γ pc2 lv st M) : gx_G κ Γ pc lv (.int y :: .int x :: st) M := by
  obtain ⟨p, e, R, s, m, args, below, meth, c, A, nL, kc, kss, Q⟩ := Γ
  obtain ⟨hx, hb, -⟩ := Cx
  obtain ⟨hd, rfl⟩ := hd
  intro H locs ls hP hS hl
  exact lv_icmp_le hx hb hd ht (fun q => kt (by rw [if_pos q] at h; exact h) H locs ls hP hS hl) (fun q => kf (by rw [if_neg q] at h; exact h) H locs ls hP hS hl)
theorem gx_goto (Cx : gx_Cx κ Γ own cc nL0 d) {off : Int} {tgt : Nat} (hd : gx_D cc pc (.goto off) 3 pc2) (ht : (pc : Int) + off = (tgt : Int)) (k : gx_G κ Γ tgt lv st M) : gx_G κ Γ pc lv st M := by
  obtain ⟨p, e, R, s, m, args, below, meth, c, A, nL, kc, kss, Q⟩ := Γ
  obtain ⟨hx, hb, -⟩ := Cx
  obtain ⟨hd, rfl⟩ := hd
  intro H locs ls hP hS hl
  exact lv_goto hx hb hd ht (k H locs ls hP hS hl)
theorem gx_case {x : Int32} (v : Int32) {i : Decidable (x = v)} {a b : Option α} (h : (if x = v then a else b) = some R0) (kt : a = some R0 → gx_G κ Γ pc lv (.int v :: st) M) (kf : ¬ x = v → b = some R0 → gx_G κ Γ pc lv (.int x :: st) M) : gx_G κ Γ pc lv (.int x :: st) M := by
  by_cases q : x = v
  · rw [if_pos q] at h; rw [q]; exact kt h
  · rw [if_neg q] at h; exact kf q h
theorem gx_tsIn (Cx : gx_Cx κ Γ own cc nL0 d) {dflt lo hi off : Int} {offs : Array Int} {n tgt : Nat} {x : Int32} (hd : gx_D cc pc (.tableswitch dflt lo hi offs) n pc2) (h1 : ¬ x.toInt < lo) (h2 : ¬ hi < x.toInt) (ho : offs[(x.toInt - lo).toNat]? = some off) (ht : (pc : Int) + off = (tgt : Int)) (k : gx_G κ Γ tgt lv st M) : gx_G κ Γ pc lv (.int x :: st) M := by
  obtain ⟨p, e, R, s, m, args, below, meth, c, A, nL, kc, kss, Q⟩ := Γ
  obtain ⟨hx, hb, -⟩ := Cx
  obtain ⟨hd, rfl⟩ := hd
  intro H locs ls hP hS hl
  exact lv_tableIn hx hb hd h1 h2 ho ht (k H locs ls hP hS hl)
theorem gx_tsOut (Cx : gx_Cx κ Γ own cc nL0 d) {dflt lo hi : Int} {offs : Array Int} {n tgt : Nat} {x : Int32} (hd : gx_D cc pc (.tableswitch dflt lo hi offs) n pc2) (h1 : x.toInt < lo ∨ hi < x.toInt) (ht : (pc : Int) + dflt = (tgt : Int)) (k : gx_G κ Γ tgt lv st M) : gx_G κ Γ pc lv (.int x :: st) M := by
  obtain ⟨p, e, R, s, m, args, below, meth, c, A, nL, kc, kss, Q⟩ := Γ
  obtain ⟨hx, hb, -⟩ := Cx
  obtain ⟨hd, rfl⟩ := hd
  intro H locs ls hP hS hl
  exact lv_tableOut hx hb hd h1 ht (k H locs ls hP hS hl)
theorem gx_lsw (Cx : gx_Cx κ Γ own cc nL0 d) {dflt off : Int} {ps : Array (Int × Int)} {n tgt : Nat} {x : Int32} (hd : gx_D cc pc (.lookupswitch dflt ps) n pc2) (hp : (ps.toList.zip (ps.toList.drop 1)).all (fun (a, next) => a.1 < next.1) = true) (ho : Op.lookupswitch.offset ps.toList dflt x.toInt = off) (ht : (pc : Int) + off = (tgt : Int)) (k : gx_G κ Γ tgt lv st M) : gx_G κ Γ pc lv (.int x :: st) M := by
  obtain ⟨p, e, R, s, m, args, below, meth, c, A, nL, kc, kss, Q⟩ := Γ
  obtain ⟨hx, hb, -⟩ := Cx
  obtain ⟨hd, rfl⟩ := hd
  intro H locs ls hP hS hl
  exact lv_lookup hx hb hd hp ho ht (k H locs ls hP hS hl)
theorem gx_idiv (Cx : gx_Cx κ Γ own cc nL0 d) {x y : Int32} {b : Option α} (hd : gx_D cc pc .idiv 1 pc2) (h : gx_gd (decide (¬ y = 0)) b = some R0) (k : b = some R0 → gx_G κ Γ pc2 lv (.int (x / y) :: st) M) : gx_G κ Γ pc lv (.int y :: .int x :: st) M := by
  obtain ⟨p, e, R, s, m, args, below, meth, c, A, nL, kc, kss, Q⟩ := Γ
  obtain ⟨hx, hb, -⟩ := Cx
  obtain ⟨hd, rfl⟩ := hd
  obtain ⟨q, h⟩ := gx_gd_of h
  intro H locs ls hP hS hl
  exact lv_idiv hx hb hd (of_decide_eq_true q) (k h H locs ls hP hS hl)
theorem gx_idivC (Cx : gx_Cx κ Γ own cc nL0 d) {x y : Int32} (hd : gx_D cc pc .idiv 1 pc2) (hy : ¬ y = 0) (k : gx_G κ Γ pc2 lv (.int (x / y) :: st) M) : gx_G κ Γ pc lv (.int y :: .int x :: st) M := by
  obtain ⟨p, e, R, s, m, args, below, meth, c, A, nL, kc, kss, Q⟩ := Γ
  obtain ⟨hx, hb, -⟩ := Cx
  obtain ⟨hd, rfl⟩ := hd
  intro H locs ls hP hS hl
  exact lv_idiv hx hb hd hy (k H locs ls hP hS hl)
theorem gx_irem (Cx : gx_Cx κ Γ own cc nL0 d) {x y : Int32} {b : Option α} (hd : gx_D cc pc .irem 1 pc2) (h : gx_gd (decide (¬ y = 0)) b = some R0) (k : b = some R0 → gx_G κ Γ pc2 lv (.int (gx_rem x y) :: st) M) : gx_G κ Γ pc lv (.int y :: .int x :: st) M := by
  obtain ⟨p, e, R, s, m, args, below, meth, c, A, nL, kc, kss, Q⟩ := Γ
  obtain ⟨hx, hb, -⟩ := Cx
  obtain ⟨hd, rfl⟩ := hd
  obtain ⟨q, h⟩ := gx_gd_of h
  intro H locs ls hP hS hl
  exact lv_irem hx hb hd (of_decide_eq_true q) (k h H locs ls hP hS hl)
theorem gx_iremC (Cx : gx_Cx κ Γ own cc nL0 d) {x y : Int32} (hd : gx_D cc pc .irem 1 pc2) (hy : ¬ y = 0) (k : gx_G κ Γ pc2 lv (.int (gx_rem x y) :: st) M) : gx_G κ Γ pc lv (.int y :: .int x :: st) M := by
  obtain ⟨p, e, R, s, m, args, below, meth, c, A, nL, kc, kss, Q⟩ := Γ
  obtain ⟨hx, hb, -⟩ := Cx
  obtain ⟨hd, rfl⟩ := hd
  intro H locs ls hP hS hl
  exact lv_irem hx hb hd hy (k H locs ls hP hS hl)
theorem gx_ldiv (Cx : gx_Cx κ Γ own cc nL0 d) {x y : Int64} {b : Option α} (hd : gx_D cc pc .ldiv 1 pc2) (h : gx_gd (decide (¬ y = 0)) b = some R0) (k : b = some R0 → gx_G κ Γ pc2 lv (.long (x / y) :: st) M) : gx_G κ Γ pc lv (.long y :: .long x :: st) M := by
  obtain ⟨p, e, R, s, m, args, below, meth, c, A, nL, kc, kss, Q⟩ := Γ
  obtain ⟨hx, hb, -⟩ := Cx
  obtain ⟨hd, rfl⟩ := hd
  obtain ⟨q, h⟩ := gx_gd_of h
  intro H locs ls hP hS hl
  exact lv_ldiv hx hb hd (of_decide_eq_true q) (k h H locs ls hP hS hl)
theorem gx_lrem (Cx : gx_Cx κ Γ own cc nL0 d) {x y : Int64} {b : Option α} (hd : gx_D cc pc .lrem 1 pc2) (h : gx_gd (decide (¬ y = 0)) b = some R0) (k : b = some R0 → gx_G κ Γ pc2 lv (.long (gx_remJ x y) :: st) M) : gx_G κ Γ pc lv (.long y :: .long x :: st) M := by
  obtain ⟨p, e, R, s, m, args, below, meth, c, A, nL, kc, kss, Q⟩ := Γ
  obtain ⟨hx, hb, -⟩ := Cx
  obtain ⟨hd, rfl⟩ := hd
  obtain ⟨q, h⟩ := gx_gd_of h
  intro H locs ls hP hS hl
  exact lv_lrem hx hb hd (of_decide_eq_true q) (k h H locs ls hP hS hl)
theorem gx_ldc (Cx : gx_Cx κ Γ own cc nL0 d) {j : Nat} {v : Int32} (hd : gx_D cc pc (.ldc j) 2 pc2) (hw : Cond.constant own j v ∈ gx_T) (k : gx_G κ Γ pc2 lv (.int v :: st) M) : gx_G κ Γ pc lv st M := by
  obtain ⟨p, e, R, s, m, args, below, meth, c, A, nL, kc, kss, Q⟩ := Γ
  obtain ⟨hx, hb, -, hown, hts, -⟩ := Cx
  obtain ⟨hd, rfl⟩ := hd
  intro H locs ls hP hS hl
  exact lv_ldc hx hb hown (hts _ hw) hd (k H locs ls hP hS hl)
theorem gx_ldc_w (Cx : gx_Cx κ Γ own cc nL0 d) {j : Nat} {v : Int32} (hd : gx_D cc pc (.ldc_w j) 3 pc2) (hw : Cond.constant own j v ∈ gx_T) (k : gx_G κ Γ pc2 lv (.int v :: st) M) : gx_G κ Γ pc lv st M := by
  obtain ⟨p, e, R, s, m, args, below, meth, c, A, nL, kc, kss, Q⟩ := Γ
  obtain ⟨hx, hb, -, hown, hts, -⟩ := Cx
  obtain ⟨hd, rfl⟩ := hd
  intro H locs ls hP hS hl
  exact lv_ldcw hx hb hown (hts _ hw) hd (k H locs ls hP hS hl)
theorem gx_ldc2_w (Cx : gx_Cx κ Γ own cc nL0 d) {j : Nat} {v : Int64} (hd : gx_D cc pc (.ldc2_w j) 3 pc2) (hw : Cond.constantLong own j v ∈ gx_T) (k : gx_G κ Γ pc2 lv (.long v :: st) M) : gx_G κ Γ pc lv st M := by
  obtain ⟨p, e, R, s, m, args, below, meth, c, A, nL, kc, kss, Q⟩ := Γ
  obtain ⟨hx, hb, -, hown, hts, -⟩ := Cx
  obtain ⟨hd, rfl⟩ := hd
  intro H locs ls hP hS hl
  exact lv_ldc2 hx hb hown (hts _ hw) hd (k H locs ls hP hS hl)
theorem gx_lsw_none {ps : List (Int × Int)} {dflt x : Int} (h : ∀ q ∈ ps, ¬ x = q.1) : Op.lookupswitch.offset ps dflt x = dflt := by
  exact Op.lookupswitch.offset_none (List.find?_eq_none.mpr (fun q hq => by simpa using fun e => h q hq e.symm))
/-- a call's outcome, used -/
def gx_bP {α β : Type} (x : Option β) (f : β → Option α) : Option α := match x with
  | none => none
  | some q => f q
def gx_bI {α β : Type} (x : Option (β × gx_Mem)) (f : β → gx_Mem → Option α) : Option α := match x with
  | none => none
  | some q => f q.1 q.2
theorem gx_bP_of {α β : Type} {x : Option β} {f : β → Option α} {r : α} (h : gx_bP x f = some r) : ∃ b, x = some b ∧ f b = some r := by
  cases x with
  | none => cases h
  | some q => exact ⟨q, rfl, h⟩
theorem gx_bI_of {α β : Type} {x : Option (β × gx_Mem)} {f : β → gx_Mem → Option α} {r : α} (h : gx_bI x f = some r) : ∃ b M, x = some (b, M) ∧ f b M = some r := by
  cases x with
  | none => cases h
  | some q => exact ⟨q.1, q.2, rfl, h⟩
/-- a loop of at most n rounds -/
def gx_loop {σ ρ : Type} (b : (σ → Option ρ) → σ → Option ρ) : Nat → σ → Option ρ
  | 0 => fun _ => none
  | n + 1 => b (gx_loop b n)
def gx_fuel : Nat := 1000
def gx_dep : Nat := 100
def gx_isZ (v : Int32) : Bool := decide (v = 0 ∨ v = 1)
theorem gx_isZ_n {v : Int32} (h : gx_isZ v = true) : narrow .boolean (.int v) = .int v := by
  rcases of_decide_eq_true (p := v = 0 ∨ v = 1) h with rfl | rfl <;> rfl
end GXR

theorem law_pure {L : Nat} (hL : L ≤ 3072) (xs : Nat → Int32) : f_L_law_l18 L xs gx_fuel 0 gx_M0 = some 1 := sorry

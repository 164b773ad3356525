theorem zz_su4 (f : Nat → Nat) : zz_su f 4 = f 0 + f 1 + f 2 + f 3 := by
  show 0 + f 0 + f 1 + f 2 + f 3 = _
  omega
theorem zz_wt_same {lv : Nat → Nat → Nat → Nat → Nat → Nat → Nat} {H : zz_hs} {O : Nat → Int32} {w : Nat → Nat} {p m : Nat} (hm : m < 4) (hw : w (4 * p + m) ≤ 9999) : ∀ i, (∀ t, t < i → zz_gn lv H O w p t m = false) → zz_wt lv H O w (4 * p + m) i = w (4 * p + m)
  | 0, _ => rfl
  | i + 1, h => by
    have h1 := zz_wt_same hm hw i (fun t ht => h t (by omega))
    have h2 := of_decide_eq_false (h i (by omega))
    unfold zz_wt
    rw [h1, show (4 * p + m) / 4 = p by omega, show (4 * p + m) % 4 = m by omega]
    omega

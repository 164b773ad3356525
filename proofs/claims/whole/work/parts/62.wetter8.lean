/-- a sum of the first n -/
def zz_su (f : Nat → Nat) : Nat → Nat
  | 0 => 0
  | n + 1 => zz_su f n + f n
theorem zz_allWet8 {M : gx_Mem} {a : Nat → Nat} (h : ∀ j, j < 24 → M.1 78 j = nI (a j)) {p : Nat} (hp : p < 6) : f_X8_allWet (nI p) M = some (nI (zz_su (fun m => a (4 * p + m)) 4)) := by
  obtain ⟨s, hs, e⟩ := zz_for (fun (ag4 : Int32 × Int32 → Option Int32) (s : Int32 × Int32) => f_X8_allWet_k4 (nI p) (fun v2 v3 => ag4 (v2, v3)) s.1 s.2 M) (fun s => some s.1) (fun i s => s = (nI (zz_su (fun m => a (4 * p + m)) i), nI i)) 4 gx_fuel (by decide) (0, 0) rfl (fun i s hi hs => by
    subst hs
    refine ⟨_, rfl, fun ag => ?_⟩
    dsimp only
    unfold f_X8_allWet_k4
    rw [show (4 : Int32) = nI 4 from rfl, zz_mul, zz_add, if_neg (show ¬ nI 4 ≤ nI i by rw [zz_le (by decide) (by omega)]; omega), zz_gi (show 4 * p + i < 24 by omega) (by decide), zz_cl (show 4 * p + i < 2147483648 by omega), h (4 * p + i) (by omega), zz_add, zz_let, zz_let, show nI i + 1 = nI (i + 1) from zz_add i 1]
    rfl) (fun s hs ag => by subst hs; rfl)
  subst hs
  exact e
theorem zz_wetter8 {M : gx_Mem} {a b : Nat → Nat} (h : ∀ j, j < 24 → M.1 78 j = nI (a j)) (h2 : ∀ j, j < 24 → M.1 61 j = nI (b j)) {p : Nat} (hp : p < 6) : f_X8_wetter (nI p) M = some (nI (zz_su (fun m => a (4 * p + m)) 4) - nI (zz_su (fun m => b (4 * p + m)) 4)) := by
  obtain ⟨s, hs, e⟩ := zz_for (fun (ag4 : Int32 × Int32 → Option Int32) (s : Int32 × Int32) => f_X8_wetter_k4 (nI p) (fun v2 v3 => ag4 (v2, v3)) s.1 s.2 M) (fun s => some (nI (zz_su (fun m => a (4 * p + m)) 4) - s.1)) (fun i s => s = (nI (zz_su (fun m => b (4 * p + m)) i), nI i)) 4 gx_fuel (by decide) (0, 0) rfl (fun i s hi hs => by
    subst hs
    refine ⟨_, rfl, fun ag => ?_⟩
    dsimp only
    unfold f_X8_wetter_k4
    rw [show (4 : Int32) = nI 4 from rfl, zz_mul, zz_add, if_neg (show ¬ nI 4 ≤ nI i by rw [zz_le (by decide) (by omega)]; omega), zz_gi (show 4 * p + i < 24 by omega) (by decide), zz_cl (show 4 * p + i < 2147483648 by omega), h2 (4 * p + i) (by omega), zz_add, zz_let, zz_let, show nI i + 1 = nI (i + 1) from zz_add i 1]
    rfl) (fun s hs ag => by
    subst hs
    dsimp only
    unfold f_X8_wetter_k4
    rw [if_pos (show (4 : Int32) ≤ nI 4 by decide), zz_allWet8 h hp]
    rfl)
  subst hs
  exact e

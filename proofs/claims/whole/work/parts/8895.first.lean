/-! the two new objects agree -/
theorem zz_IL0 : zz_IL gx_M0 := by
  refine ⟨fun a w i f m n => zz_clp a (nI a - nI w - nI i / 3), fun a w i f m n => zz_clp_le _ _, fun M1 q a w i f m n ha _ _ _ _ _ => ⟨M1, ?_, zz_fr.rf⟩, fun M1 q a w i f m n ha _ _ hf _ _ h77 h63 => ⟨M1, ?_, zz_fr.rf⟩⟩
  · have e : M1.1 0 4 = 0 := q.1
    unfold f_X3_lets f_X3_lets_b70
    rw [if_pos e, zz_let, zz_clp7 ha]
  · have e : M1.1 57 27 = 0 := q.1
    unfold f_X8_runOf
    rw [zz_gi hf (by decide), zz_let, if_pos e, zz_cl (show f < 2147483648 by omega), h77, show (0 : Int32).toNatClampNeg = 0 from by decide, h63]
    exact zz_clp8 ha _ M1
theorem zz_bd0 (n : Nat) : zz_bd 0 n := ⟨0, Nat.zero_le n, rfl⟩
theorem zz_Inv0 : zz_Inv gx_M0 := by
  refine ⟨⟨⟨zz_bd0 _, rfl⟩, fun p _ => ⟨zz_bd0 _, rfl⟩, fun p _ => ⟨zz_bd0 _, rfl⟩, fun i _ => ⟨zz_bd0 _, rfl⟩, fun i _ => ⟨zz_bd0 _, rfl⟩, fun i _ => ⟨zz_bd0 _, rfl⟩, fun i _ => rfl, ⟨zz_bd0 _, by decide⟩, ⟨zz_bd0 _, by decide⟩⟩, ⟨⟨rfl, .inl rfl⟩, ⟨zz_bd0 _, rfl⟩, fun p _ => ⟨zz_bd0 _, fun _ => rfl⟩, fun i _ => ⟨zz_bd0 _, rfl⟩, fun i _ => ⟨zz_bd0 _, rfl⟩, fun i _ => rfl, ⟨zz_bd0 _, rfl⟩⟩, ⟨⟨zz_bd0 _, rfl⟩, fun i _ => ⟨zz_bd0 _, by show (0 : Int32) = (0 : Int32).toInt8.toInt32; decide⟩⟩, ⟨0, 0, by decide, rfl, rfl, rfl, rfl, fun i _ => ⟨rfl, rfl, rfl, rfl⟩, fun i hi => absurd hi (Nat.not_lt_zero _)⟩, ⟨⟨zz_bd0 _, rfl⟩, fun i _ => ⟨zz_bd0 _, rfl⟩, ⟨zz_bd0 _, rfl⟩, fun i _ _ => rfl⟩, fun s hs => ?_, zz_IL0⟩
  refine ⟨.inl ?_, fun i _ => rfl, fun _ i _ => ⟨0, rfl⟩⟩
  match s, hs with
  | 0, _ => exact ⟨rfl, rfl, by decide⟩
  | 1, _ => exact ⟨rfl, rfl, by decide⟩
  | 2, _ => exact ⟨rfl, rfl, by decide⟩
  | 3, _ => exact ⟨rfl, rfl, by decide⟩
  | 4, _ => exact ⟨rfl, rfl, by decide⟩
  | 5, _ => exact ⟨rfl, rfl, by decide⟩

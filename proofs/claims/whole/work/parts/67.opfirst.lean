theorem op_first (a : Int32) : zz_ok (f_X7_first a) (f_X8_first a) := by
  intro M h
  obtain ⟨n, h6, hn, hn8⟩ := h.ppl
  obtain ⟨lv, hlv, hC, hM⟩ := h.law
  unfold f_X7_first
  rw [zz_isOne7 hn h6]
  simp only [zz_bPs, zz_ifi]
  have hg : ∀ M1 : gx_Mem, M1.1 57 1 = nI n → f_X8_first a M1 = if zz_rg a n = true then gx_bP (f_X8_layNow M1) (fun M4 => f_X8_first_l16 a gx_fuel (1 : Int32) M4) else some (-1, M1) := by
    intro M1 e
    unfold f_X8_first
    rw [zz_isOne8 e h6, zz_bPs, zz_ifi]
  cases h1 : zz_rg a n with
  | false => exact ⟨-1, M, rfl, M, by rw [hg M hn8, h1]; rfl, h⟩
  | true =>
    obtain ⟨p, hp, rfl⟩ := zz_rgT h1
    have hHn : (zz_H M).n = n := by
      show (M.1 9 7).toNatClampNeg = n
      rw [hn, zz_cl (by omega)]
    obtain ⟨J, hJ, j2, j3⟩ := zz_first (fun t => decide (t < 48) && !zz_gt lv (zz_H M) (zz_O M) (zz_W M) p t) 48 rfl
    obtain ⟨M1, e1, f1⟩ := zz_first7 h.IH hlv hC (by rw [hHn]; exact hp) hJ j2 j3
    rw [if_pos rfl, e1]
    simp only [zz_bIs]
    refine ⟨_, M1, rfl, ?_⟩
    have i1 : zz_Inv M1 := h.fr (f1.mono zz_S34_sc)
    have hH := zz_H_fr f1 zz_S34_9
    have hO : zz_O M1 = zz_O M := funext fun t => zz_O_fr f1 zz_S34_9 t
    have hW : zz_W M1 = zz_W M := funext fun t => zz_W_fr f1 zz_S34_9 t
    rw [← hH, ← hO, ← hW] at j2 j3
    obtain ⟨M2, e2, f2⟩ := zz_first8 (A := zz_now M1) (O := zz_O M1) (w := zz_W M1) (h0 := zz_h0 M1) (zz_Hok i1.IH).1 hlv (hM.tr ((zz_lwM.sc (f1.mono zz_S34_sc)).tr (zz_lwM.sc (zz_now_fr M1)))) (fun j hj => (zz_Wok i1.IH hj).2.1) (zz_now_G i1.IH lv _) (fun t => by
      unfold zz_O zz_o
      refine zz_ou_cong _ (fun i hi => ?_)
      have h6 := (zz_Hok i1.IH).1.1
      rw [zz_b63 i (by omega), Bool.true_and, show (zz_now M1).1 59 i = M1.1 59 i from rfl, (i1.IH.2.2.1 i (by omega)).2]) (fun j hj => (zz_Wok i1.IH hj).2.2) (by rw [hH, hHn]; exact hp) hJ j2 j3
    refine ⟨M2, ?_, i1.fr ((zz_now_fr M1).tr (f2.mono zz_SG_sc))⟩
    rw [hg M1 ((f1.2 57 1 rfl).trans hn8), h1, if_pos rfl, zz_layNow M1 (by rw [i1.IH.1.2]; exact i1.IH.1.1), zz_bPs, e2]

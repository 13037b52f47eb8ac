theorem nI_inj {a b : Nat} (ha : a < 2147483648) (hb : b < 2147483648) (h : nI a = nI b) : a = b := by
  have := congrArg Int32.toInt h
  rw [nI_rng ha, nI_rng hb] at this
  omega
/-- a rower more: what the class's four rows and the number become -/
theorem xAdd {x : St} {nr : Nat} (h16 : nr < 16) (hx : x.1 1 4 = nI nr) (a b c d : Int32) : f_X2_add x a b c d = some (nI nr, sI (sI (sI (sI (sI x 2 nr a) 3 nr b) 4 nr c) 5 nr d) 1 4 (nI (nr + 1))) := by
  have ec : (nI nr).toNatClampNeg = nr := nI_clamp (by omega)
  have hb : inb (nI nr) 16 := inb_of (by rw [nI_rng (by omega)]; omega) (by rw [nI_rng (by omega)]; omega)
  have hlt : nI nr < 16 := by
    have : (16 : Int32).toInt = 16 := rfl
    rw [lt32, nI_rng (by omega)]; omega
  unfold f_X2_add nm
  simp only [hx, if_pos hlt, gd_pos hb, ec, sI_rd]
  simp only [show ¬ (1 = 2 ∧ 4 = nr) by omega, show ¬ (1 = 3 ∧ 4 = nr) by omega, show ¬ (1 = 4 ∧ 4 = nr) by omega, show ¬ (1 = 5 ∧ 4 = nr) by omega, if_false, hx, gd_pos hb, ec, and_self, if_true]
  have e1 : nI nr + 1 = nI (nr + 1) := nI_1 nr
  rw [e1]
  have e2 : nI (nr + 1) - 1 = nI nr := nI_pred nr
  rw [e2]

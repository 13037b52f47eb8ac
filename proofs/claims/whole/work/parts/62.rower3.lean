theorem p_rower {PA : (Nat → Int32) → Nat → (Nat → Int32) → Nat → Int32 → Prop} : P_rower (InvP PA) := by
  intro nc x m a b c d hI
  obtain ⟨nr, tc, h1, h2, h3, h4, h5, h6, h7, h8, h9⟩ := id hI
  obtain ⟨r1, r2, r3, r4⟩ := id h1
  have t : ∀ n : Nat, n < 100000 → (nI n).toInt = (n : Int) := fun n hn => nI_rng (by omega)
  unfold f_X11_rower f_X12_rower
  rw [w_in, w_in, w_in, w_in, m_in, m_in, m_in, m_in]
  rw [show (40 : Int32).toInt = 40 from rfl, show (120 : Int32).toInt = 120 from rfl, show (1 : Int32).toInt = 1 from rfl, show (99 : Int32).toInt = 99 from rfl, show (0 : Int32).toInt = 0 from rfl, show (9999 : Int32).toInt = 9999 from rfl, show (40 : Int64).toInt = 40 from rfl, show (120 : Int64).toInt = 120 from rfl, show (1 : Int64).toInt = 1 from rfl, show (99 : Int64).toInt = 99 from rfl, show (0 : Int64).toInt = 0 from rfl, show (9999 : Int64).toInt = 9999 from rfl]
  unfold jn
  simp only [bp_some]
  by_cases g1 : 40 ≤ a.toInt ∧ a.toInt ≤ 120
  · by_cases g2 : 1 ≤ b.toInt ∧ b.toInt ≤ 99
    · by_cases g3 : 0 ≤ c.toInt ∧ c.toInt ≤ 9999
      · by_cases g4 : 0 ≤ d.toInt ∧ d.toInt ≤ 99
        · simp only [iz_pos g1, iz_pos g2, iz_pos g3, iz_pos g4, if_neg ne10]
          by_cases hf : nr = 16
          · subst hf
            have hx : f_X2_add x a b c d = some (-4, x) := by
              unfold f_X2_add nm
              rw [r2]
              rfl
            rw [hx]
            unfold nm
            rw [r3]
            exact ⟨-4, x, m, rfl, rfl, hI⟩
          · sorry
        · simp only [iz_pos g1, iz_pos g2, iz_pos g3, iz_neg g4, if_neg ne10, if_true]
          exact ⟨_, x, m, rfl, rfl, hI⟩
      · simp only [iz_pos g1, iz_pos g2, iz_neg g3, if_neg ne10, if_true]
        exact ⟨_, x, m, rfl, rfl, hI⟩
    · simp only [iz_pos g1, iz_neg g2, if_neg ne10, if_true]
      exact ⟨_, x, m, rfl, rfl, hI⟩
  · simp only [iz_neg g1, if_true]
    exact ⟨_, x, m, rfl, rfl, hI⟩

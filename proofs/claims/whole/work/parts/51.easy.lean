theorem iz_pos {c : Prop} [Decidable c] (h : c) : iz c = 1 := if_pos h
theorem iz_neg {c : Prop} [Decidable c] (h : ¬ c) : iz c = 0 := if_neg h
theorem ne10 : ¬ (1 : Int32) = 0 := by decide
theorem pull_some (k g seat : Int32) : ∃ r, f_X12_pullOf k g seat = some r := by
  unfold f_X12_pullOf jn
  dsimp only
  repeat' split
  all_goals exact ⟨_, rfl⟩
theorem cost_some (k g : Int32) : ∃ r, f_X12_costOf k g = some r := by
  unfold f_X12_costOf
  repeat' split
  all_goals exact ⟨_, rfl⟩
theorem slips_some (k : Int32) : ∃ r, f_X12_slipsOf k = some r := by
  unfold f_X12_slipsOf
  repeat' split
  all_goals exact ⟨_, rfl⟩
theorem stroke_ok (k g seat what : Int32) : ∃ r, f_X11_stroke k g seat what = some r ∧ f_X12_stroke k g seat what = some r := by
  unfold f_X11_stroke f_X12_stroke
  rw [xKind, w_in, xSeat, mSeat, m_in, m_in, m_in]
  simp only [bp_some]
  have e0 : (0 : Int32).toInt = 0 := rfl
  have e999 : (999 : Int32).toInt = 999 := rfl
  have l0 : (0 : Int64).toInt = 0 := rfl
  have l5 : (5 : Int64).toInt = 5 := rfl
  have l2 : (2 : Int64).toInt = 2 := rfl
  have l999 : (999 : Int64).toInt = 999 := rfl
  rw [e0, e999, l0, l5, l2, l999]
  by_cases h1 : 0 ≤ k.toInt ∧ k.toInt ≤ 5
  · simp only [iz_pos h1, if_neg ne10]
    by_cases h2 : 0 ≤ g.toInt ∧ g.toInt ≤ 999
    · simp only [iz_pos h2, if_neg ne10]
      by_cases h3 : 0 ≤ seat.toInt ∧ seat.toInt ≤ 7
      · simp only [iz_pos h3, if_neg ne10]
        rw [pull_eq h2.1 h2.2, cost_eq, slips_eq]
        obtain ⟨r1, f1⟩ := pull_some k g seat
        obtain ⟨r2, f2⟩ := cost_some k g
        obtain ⟨r3, f3⟩ := slips_some k
        rw [f1, f2, f3]
        simp only [bp_some]
        by_cases w0 : what = 0
        · subst w0
          exact ⟨r1, by simp, by simp [iz]⟩
        · by_cases w1 : what = 1
          · subst w1
            exact ⟨r2, by simp, by simp [iz]⟩
          · by_cases w2 : what = 2
            · subst w2
              exact ⟨r3, by simp, by simp [iz]⟩
            · refine ⟨-2, by simp [w0, w1, w2], ?_⟩
              have : ¬ (0 ≤ what.toInt ∧ what.toInt ≤ 2) := fun h => by
                have a0 : what.toInt ≠ 0 := fun e => w0 (eq32.mpr e)
                have a1 : what.toInt ≠ 1 := fun e => w1 (eq32.mpr e)
                have a2 : what.toInt ≠ 2 := fun e => w2 (eq32.mpr e)
                omega
              simp only [iz_neg this]
              rfl
      · simp only [iz_neg h3]
        exact ⟨_, rfl, rfl⟩
    · simp only [iz_neg h2]
      exact ⟨_, rfl, rfl⟩
  · simp only [iz_neg h1]
    exact ⟨_, rfl, rfl⟩
theorem p_stroke {Inv : Nat → St → St → Prop} : P_stroke Inv := fun nc σx σm b1 b2 b3 b4 hI => by
  obtain ⟨r, f1, f2⟩ := stroke_ok b1 b2 b3 b4
  exact ⟨r, f1, f2, hI⟩

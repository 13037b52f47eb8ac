theorem idx200 {p : Nat} (hp : p < 8) {a : Int32} (h0 : 0 ≤ a.toInt) (h1 : a.toInt < 200) : ((200 : Int32) * nI p + a).toInt = 200 * (p : Int) + a.toInt ∧ ((200 : Int32) * nI p + a).toNatClampNeg = 200 * p + a.toNatClampNeg := by
  have e2 : (200 : Int32).toInt = 200 := rfl
  have ep := nI_rng (n := p) (by omega)
  have hm : ((200 : Int32) * nI p).toInt = 200 * (p : Int) := by rw [mul32 (by rw [e2, ep]; omega), e2, ep]
  have hs : ((200 : Int32) * nI p + a).toInt = 200 * (p : Int) + a.toInt := by rw [add32 (by rw [hm]; omega), hm]
  refine ⟨hs, ?_⟩
  have c1 := clamp_toInt (i := (200 : Int32) * nI p + a) (by omega)
  have c2 := clamp_toInt h0
  omega
theorem p_planned {PA : (Nat → Int32) → Nat → (Nat → Int32) → Nat → Int32 → Prop} : P_planned (InvP PA) := by
  intro nc x m pl a hI
  obtain ⟨nr, tc, h1, h2, h3, h4, h5, ⟨np, q1, q2, q3, q4⟩, h7, h8, h9⟩ := id hI
  have l1 : (-1 : Int64).toInt = -1 := rfl
  have em : (-1 : Int32).toInt = -1 := rfl
  unfold f_X11_planned f_X12_planned
  rw [xPlan (m := m) q1 q2, mPlan q1 q3]
  simp only [bp_some]
  by_cases hp : 0 ≤ pl.toInt ∧ pl.toInt ≤ (np : Int) - 1
  · rw [iz_pos hp]
    obtain ⟨p, hp2, rfl⟩ := of_rng (n := np) hp.1 (by omega)
    obtain ⟨n, n1, n2, n3, n4⟩ := q4 p hp2
    have ec : (nI p).toNatClampNeg = p := nI_clamp (by omega)
    have hb : inb (nI p) 8 := inb_of hp.1 (by omega)
    simp only [if_neg ne10, gd_pos hb]
    rw [xKindOf (m := m) q1 q2 p 0 hp2 n1 n2]
    simp only [nm, bp_some]
    rw [ec, n2, n3, m_in, i2l_toInt, pred_toInt (by omega), l1]
    simp only [bp_some]
    by_cases ha : a = -1
    · subst ha
      rw [iz_pos (by rw [em]; omega)]
      exact ⟨nI n, by simp, by simp, hI⟩
    · by_cases hr : 0 ≤ a.toInt ∧ a.toInt < (n : Int)
      · rw [iz_pos (by omega)]
        obtain ⟨i1, i2⟩ := idx200 (p := p) (by omega) hr.1 (by omega)
        have hi : inb ((200 : Int32) * nI p + a) 1600 := inb_of (by omega) (by omega)
        simp only [if_neg ha, if_neg ne10, if_pos hr, gd_pos hi]
        have c := clamp_toInt hr.1
        refine ⟨_, rfl, ?_, hI⟩
        rw [i2, (n4 a.toNatClampNeg (by omega)).1]
      · have hn : ¬ (-1 ≤ a.toInt ∧ a.toInt ≤ (n : Int) - 1) := fun h => by
          have : a.toInt ≠ -1 := fun e => ha (eq32.mpr e)
          omega
        rw [iz_neg hn]
        simp only [if_neg ha, if_neg hr, if_true]
        exact ⟨_, rfl, rfl, hI⟩
  · rw [iz_neg hp]
    exact ⟨_, rfl, rfl, hI⟩

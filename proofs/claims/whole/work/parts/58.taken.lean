theorem under_spec {K : Int32 → Option Int32} : ∀ (i j : Nat), i < 6 → j < 6 → ∃ b, f_X3_isUnder (nI i) (nI j) = some b ∧ f_X12_taken_l58 (nI j) K FU (nI i) = (if b = 0 then K (-1) else K (nI j)) := by
  intro i j hi hj
  match i, j, hi, hj with
  | 0, 0, _, _ => exact ⟨_, rfl, rfl⟩
  | 0, 1, _, _ => exact ⟨_, rfl, rfl⟩
  | 0, 2, _, _ => exact ⟨_, rfl, rfl⟩
  | 0, 3, _, _ => exact ⟨_, rfl, rfl⟩
  | 0, 4, _, _ => exact ⟨_, rfl, rfl⟩
  | 0, 5, _, _ => exact ⟨_, rfl, rfl⟩
  | 1, 0, _, _ => exact ⟨_, rfl, rfl⟩
  | 1, 1, _, _ => exact ⟨_, rfl, rfl⟩
  | 1, 2, _, _ => exact ⟨_, rfl, rfl⟩
  | 1, 3, _, _ => exact ⟨_, rfl, rfl⟩
  | 1, 4, _, _ => exact ⟨_, rfl, rfl⟩
  | 1, 5, _, _ => exact ⟨_, rfl, rfl⟩
  | 2, 0, _, _ => exact ⟨_, rfl, rfl⟩
  | 2, 1, _, _ => exact ⟨_, rfl, rfl⟩
  | 2, 2, _, _ => exact ⟨_, rfl, rfl⟩
  | 2, 3, _, _ => exact ⟨_, rfl, rfl⟩
  | 2, 4, _, _ => exact ⟨_, rfl, rfl⟩
  | 2, 5, _, _ => exact ⟨_, rfl, rfl⟩
  | 3, 0, _, _ => exact ⟨_, rfl, rfl⟩
  | 3, 1, _, _ => exact ⟨_, rfl, rfl⟩
  | 3, 2, _, _ => exact ⟨_, rfl, rfl⟩
  | 3, 3, _, _ => exact ⟨_, rfl, rfl⟩
  | 3, 4, _, _ => exact ⟨_, rfl, rfl⟩
  | 3, 5, _, _ => exact ⟨_, rfl, rfl⟩
  | 4, 0, _, _ => exact ⟨_, rfl, rfl⟩
  | 4, 1, _, _ => exact ⟨_, rfl, rfl⟩
  | 4, 2, _, _ => exact ⟨_, rfl, rfl⟩
  | 4, 3, _, _ => exact ⟨_, rfl, rfl⟩
  | 4, 4, _, _ => exact ⟨_, rfl, rfl⟩
  | 4, 5, _, _ => exact ⟨_, rfl, rfl⟩
  | 5, 0, _, _ => exact ⟨_, rfl, rfl⟩
  | 5, 1, _, _ => exact ⟨_, rfl, rfl⟩
  | 5, 2, _, _ => exact ⟨_, rfl, rfl⟩
  | 5, 3, _, _ => exact ⟨_, rfl, rfl⟩
  | 5, 4, _, _ => exact ⟨_, rfl, rfl⟩
  | 5, 5, _, _ => exact ⟨_, rfl, rfl⟩
  | i + 6, j, h, _ => exact absurd h (by omega)
  | i, j + 6, _, h => exact absurd h (by omega)
theorem xKindNo {x m : St} {np : Nat} (h8 : np ≤ 8) (hx : x.1 20 3 = nI np) {pl : Int32} (hp : ¬ (0 ≤ pl.toInt ∧ pl.toInt ≤ (np : Int) - 1)) (a : Int32) : f_X4_kindOf x pl a = some (-1) := by
  unfold f_X4_kindOf
  rw [xPlan (m := m) h8 hx, iz_neg hp]
  rfl
theorem p_taken {PA : (Nat → Int32) → Nat → (Nat → Int32) → Nat → Int32 → Prop} : P_taken (InvP PA) := by
  intro nc x m pl a k hI
  obtain ⟨nr, tc, h1, h2, h3, h4, h5, ⟨np, q1, q2, q3, q4⟩, h7, h8, h9⟩ := id hI
  have l0 : (0 : Int64).toInt = 0 := rfl
  have l5 : (5 : Int64).toInt = 5 := rfl
  unfold f_X11_taken f_X12_taken
  rw [xKind, m_in, mPlan q1 q3, l0, l5]
  simp only [bp_some]
  by_cases hk : 0 ≤ k.toInt ∧ k.toInt ≤ 5
  · rw [iz_pos hk]
    simp only [if_neg ne10]
    obtain ⟨j, hj, rfl⟩ := of_rng (n := 6) hk.1 (by omega)
    by_cases hp : 0 ≤ pl.toInt ∧ pl.toInt ≤ (np : Int) - 1
    · rw [iz_pos hp]
      obtain ⟨p, hp2, rfl⟩ := of_rng (n := np) hp.1 (by omega)
      obtain ⟨n, n1, n2, n3, n4⟩ := q4 p hp2
      have ec : (nI p).toNatClampNeg = p := nI_clamp (by omega)
      have hb : inb (nI p) 8 := inb_of hp.1 (by omega)
      simp only [if_neg ne10, gd_pos hb]
      rw [xKindOf (m := m) q1 q2 p 0 hp2 n1 n2]
      simp only [nm, bp_some]
      rw [ec, n3, m_in, i2l_toInt, pred_toInt (by omega), l0]
      simp only [bp_some]
      by_cases hr : 0 ≤ a.toInt ∧ a.toInt < (n : Int)
      · rw [iz_pos (by omega)]
        obtain ⟨i1, i2⟩ := idx200 (p := p) (by omega) hr.1 (by omega)
        have hi : inb ((200 : Int32) * nI p + a) 1600 := inb_of (by omega) (by omega)
        simp only [if_neg ne10, if_pos hr, gd_pos hi]
        have c := clamp_toInt hr.1
        obtain ⟨c1, c2⟩ := n4 a.toNatClampNeg (by omega)
        rw [i2, c1]
        obtain ⟨i, hi6, ei⟩ := of_rng (n := 6) c2.1 (by have := c2.2; omega)
        rw [ei]
        obtain ⟨bb, u1, u2⟩ := under_spec (K := fun (x13 : Int32) => (if x13 = nI j then some a else some (-13))) i j hi6 hj
        rw [u1, u2]
        have hne : ¬ nI i = -1 := fun e => by
          have := nI_rng (n := i) (by omega)
          rw [e] at this
          have e1 : (-1 : Int32).toInt = -1 := rfl
          omega
        have hnj : ¬ (-1 : Int32) = nI j := fun e => by
          have := nI_rng (n := j) (by omega)
          rw [← e] at this
          have e1 : (-1 : Int32).toInt = -1 := rfl
          omega
        simp only [bp_some, if_neg hne]
        by_cases hbb : bb = 0
        · simp only [if_pos hbb, if_neg hnj]
          exact ⟨_, rfl, rfl, hI⟩
        · simp only [if_neg hbb, if_true]
          exact ⟨_, rfl, rfl, hI⟩
      · rw [iz_neg (by omega)]
        simp only [if_neg hr, if_true]
        exact ⟨_, rfl, rfl, hI⟩
    · rw [iz_neg hp, xKindNo (m := m) q1 q2 hp]
      simp only [bp_some, if_true]
      exact ⟨_, rfl, rfl, hI⟩
  · rw [iz_neg hk]
    exact ⟨_, rfl, rfl, hI⟩

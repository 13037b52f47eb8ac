theorem p_rowerTold {PA : (Nat → Int32) → Nat → (Nat → Int32) → Nat → Int32 → Prop} : P_rowerTold (InvP PA) := by
  intro nc x m a w hI
  obtain ⟨nr, tc, h1, h2, h3, h4, h5, h6, h7, h8, h9⟩ := id hI
  obtain ⟨r1, r2, r3, r4⟩ := id h1
  unfold f_X11_rowerTold f_X12_rowerTold
  rw [xRower r1 r2, mRower r1 r3]
  simp only [bp_some]
  by_cases hp : 0 ≤ a.toInt ∧ a.toInt ≤ (nr : Int) - 1
  · obtain ⟨i, hi, rfl⟩ := of_rng (n := nr) hp.1 (by omega)
    obtain ⟨s, s1, s2, s3⟩ := seatOf_all h2 (nI i)
    rw [iz_pos hp, s1, s2]
    simp only [if_neg ne10, bp_some, gdN (show i < 16 by omega) (by omega), nm, clampN (show i < 1000000 by omega)]
    obtain ⟨⟨t1, t2, t3, t4⟩, t5⟩ := r4 i hi
    rw [t1, t2, t3, t4]
    by_cases w0 : w = 0
    · simp only [if_pos w0]; exact ⟨_, rfl, rfl, hI⟩
    · by_cases w1 : w = 1
      · simp only [if_neg w0, if_pos w1]; exact ⟨_, rfl, rfl, hI⟩
      · by_cases w2 : w = 2
        · simp only [if_neg w0, if_neg w1, if_pos w2]; exact ⟨_, rfl, rfl, hI⟩
        · by_cases w3 : w = 3
          · simp only [if_neg w0, if_neg w1, if_neg w2, if_pos w3]; exact ⟨_, rfl, rfl, hI⟩
          · by_cases w4 : w = 4
            · simp only [if_neg w0, if_neg w1, if_neg w2, if_neg w3, if_pos w4]; exact ⟨_, rfl, rfl, hI⟩
            · simp only [if_neg w0, if_neg w1, if_neg w2, if_neg w3, if_neg w4]; exact ⟨_, rfl, rfl, hI⟩
  · rw [iz_neg hp]
    exact ⟨_, rfl, rfl, hI⟩
theorem p_sit {PA : (Nat → Int32) → Nat → (Nat → Int32) → Nat → Int32 → Prop} : P_sit (InvP PA) := by
  intro nc x m k r hI
  obtain ⟨nr, tc, hA⟩ := id hI
  obtain ⟨h1, h2, h3, h4, h5, h6, h7, h8, h9⟩ := id hA
  obtain ⟨r1, r2, r3, r4⟩ := id h1
  have core : ∀ j, j < 8 → (r = -1 ∨ ∃ i, i < nr ∧ r = nI i) → ∃ (q : Int32) (x' m' : St), f_X0_place x (nI j) r = some (q, x') ∧ (gd (inb (nI j) 8) (nm (m.1 8 (Int32.toNatClampNeg (nI j))) (fun v5 => jn (fun (t6 : Int32) => jn (fun (σ8 : St) => gd (inb (nI j) 8) (nm (sI σ8 8 (Int32.toNatClampNeg (nI j)) r) (fun σ11 => some (v5, σ11)))) (fun (j9 : St → Option (Int32 × St)) => (if t6 = (-1) then j9 m else gd (inb t6 8) (nm (sI m 8 (Int32.toNatClampNeg t6) (-1)) (fun σ14 => j9 σ14))))) (fun (j7 : Int32 → Option (Int32 × St)) => (if r = (-1) then j7 (-1) else bp (f_X12_seatOf m r) (fun v16 => j7 v16)))))) = some (q, m') ∧ InvP PA nc x' m' := by
    intro j hj hr
    unfold f_X0_place
    simp only [gdN hj (show 8 ≤ 1000000 by omega), nm, jn, clampN (show j < 1000000 by omega)]
    by_cases e : r = -1
    · simp only [if_pos e, if_true]
      exact ⟨x.1 7 j, _, _, rfl, by rw [(h2.1 j hj).1], nr, tc, inv_seat hA j hr⟩
    · simp only [if_neg e]
      obtain ⟨s, s1, s2, s3⟩ := seatOf_all h2 r
      rw [s1, s2]
      simp only [bp_some]
      rcases s3 with rfl | ⟨i, hi, rfl⟩
      · simp only [if_true]
        exact ⟨x.1 7 j, _, _, rfl, by rw [(h2.1 j hj).1], nr, tc, inv_seat hA j hr⟩
      · simp only [if_neg (nI_nem (show i < 1000000 by omega)), gdN hi (show 8 ≤ 1000000 by omega), clampN (show i < 1000000 by omega)]
        exact ⟨x.1 7 j, _, _, rfl, by rw [(h2.1 j hj).1], nr, tc, inv_seat (inv_seat hA i (Or.inl rfl)) j hr⟩
  unfold f_X11_sit f_X12_sit
  rw [xSeat, mSeat, xRower r1 r2, mRower r1 r3]
  simp only [bp_some]
  by_cases hk : 0 ≤ k.toInt ∧ k.toInt ≤ 7
  · obtain ⟨j, hj, rfl⟩ := of_rng (n := 8) hk.1 (by omega)
    rw [iz_pos hk]
    simp only [if_neg ne10]
    by_cases e : r = -1
    · obtain ⟨q, x', m', c1, c2, c3⟩ := core j hj (Or.inl e)
      rw [c1, c2]
      simp only [if_pos e, jn, bd_some]
      exact ⟨q, x', m', rfl, rfl, c3⟩
    · by_cases hp : 0 ≤ r.toInt ∧ r.toInt ≤ (nr : Int) - 1
      · obtain ⟨q, x', m', c1, c2, c3⟩ := core j hj (Or.inr (of_rng hp.1 (by omega)))
        rw [c1, c2, iz_pos hp]
        simp only [if_neg e, jn, bd_some, if_neg ne10]
        exact ⟨q, x', m', rfl, rfl, c3⟩
      · rw [iz_neg hp]
        simp only [if_neg e, jn, if_true]
        exact ⟨_, x, m, rfl, rfl, hI⟩
  · rw [iz_neg hk]
    exact ⟨_, x, m, rfl, rfl, hI⟩

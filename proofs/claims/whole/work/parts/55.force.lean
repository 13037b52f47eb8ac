theorem nI_rng {n : Nat} (h : n < 2147483648) : (nI n).toInt = (n : Int) := nI_toInt (by omega)
theorem of_rng {a : Int32} {n : Nat} (h0 : 0 ≤ a.toInt) (h1 : a.toInt < n) : ∃ i, i < n ∧ a = nI i := by
  refine ⟨a.toNatClampNeg, ?_, ?_⟩
  · have := clamp_toInt h0
    omega
  · have hb := bd32 a
    rw [eq32, nI_rng (by have := clamp_toInt h0; omega)]
    exact (clamp_toInt h0).symm
theorem p_force {PA : (Nat → Int32) → Nat → (Nat → Int32) → Nat → Int32 → Prop} : P_force (InvP PA) := by
  intro nc x m t hI
  obtain ⟨nr, tc, h1, h2, h3, h4, h5, h6, h7, h8, h9⟩ := id hI
  obtain ⟨a1, a2, a3, a4, a5, ⟨r0, r1, r2, r3⟩, a7, a8, a9⟩ := id h5
  have e0 : (0 : Int32).toInt = 0 := rfl
  have l0 : (0 : Int64).toInt = 0 := rfl
  have hs : (nI tc - 1).toInt = (tc : Int) - 1 := by
    have : (1 : Int32).toInt = 1 := rfl
    rw [sub32 (by rw [nI_rng (by omega)]; omega), nI_rng (by omega)]; omega
  have ht : (Int32.toInt64 (nI tc - 1)).toInt = (tc : Int) - 1 := by rw [i2l_toInt, hs]
  unfold f_X11_force f_X12_force nm
  rw [a4, a5]
  dsimp only
  rw [w_in, m_in, hs, ht, e0, l0]
  simp only [bp_some]
  by_cases hv : 0 ≤ t.toInt ∧ t.toInt ≤ (tc : Int) - 1
  · simp only [iz_pos hv, if_neg ne10]
    obtain ⟨i, hi, rfl⟩ := of_rng (n := tc) hv.1 (by omega)
    have hmo : ∀ k, k ≠ 0 → (sI m 0 4 (nI i)).1 k = m.1 k := fun k hk => sI_ro m 0 4 _ k hk
    have hxo : ∀ k, k ≠ 0 → (sI x 0 10 (nI i)).1 k = x.1 k := fun k hk => sI_ro x 0 10 _ k hk
    have hm0 : ∀ j, j ≠ 4 → (sI m 0 4 (nI i)).1 0 j = m.1 0 j := fun j a => sI_rne m 0 4 _ j a
    have hx0 : ∀ j, j ≠ 10 → (sI x 0 10 (nI i)).1 0 j = x.1 0 j := fun j a => sI_rne x 0 10 _ j a
    refine ⟨nI r0, sI x 0 10 (nI i), sI m 0 4 (nI i), by rw [r2], by rw [r3], nr, tc, h1.cg (fun k a b => hxo k (by omega)) (hm0 11 (by decide)) (fun k a b => hmo k (by omega)), h2.cg (fun k a b => hxo k (by omega)) (hm0 15 (by decide)) (hm0 16 (by decide)) (fun k a b => hmo k (by omega)), h3.cg (hx0 4 (by decide)) (hx0 5 (by decide)) (fun k a b => hxo k (by omega)) (fun j a b => hm0 j (by omega)) (fun k a b => hmo k (by omega)), h4.cg (hxo 15 (by decide)) (hxo 16 (by decide)) (hm0 6 (by decide)) (hmo 3 (by decide)), ?_, h6.cg (fun k a b => hxo k (by omega)) (hm0 33 (by decide)) (hmo 11 (by decide)) (hmo 12 (by decide)), h7.cg (by rw [hxo 37 (by decide)]) (fun k a b => hxo k (by omega)) (hm0 46 (by decide)) (fun k a b => hmo k (by omega)), h8.cg (hxo 56 (by decide)) (hxo 57 (by decide)) (hm0 49 (by decide)) (hmo 20 (by decide)), h9.cg (fun k a b => hxo k (by omega)) (fun k a b => hmo k (by omega))⟩
    refine ⟨a1, a2, a3, by rw [hx0 9 (by decide)]; exact a4, by rw [hm0 3 (by decide)]; exact a5, ⟨i, hi, sI_at x 0 10 _, sI_at m 0 4 _⟩, fun j hj => ?_, a8, a9⟩
    obtain ⟨b1, n, b2, b3, b4⟩ := a7 j hj
    exact ⟨b1, n, b2, by rw [hmo 2 (by decide)]; exact b3, by rw [hmo 1 (by decide), hxo _ (by omega), hxo _ (by omega)]; exact b4⟩
  · simp only [iz_neg hv, if_true]
    exact ⟨_, x, m, rfl, rfl, hI⟩

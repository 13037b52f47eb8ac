theorem p_water {PA : (Nat → Int32) → Nat → (Nat → Int32) → Nat → Int32 → Prop} : P_water (InvP PA) := by
  intro nc x m what v hI
  obtain ⟨nr, tc, h1, h2, h3, h4, h5, h6, h7, h8, h9⟩ := id hI
  have l0 : (0 : Int64).toInt = 0 := rfl
  have l1 : (1 : Int64).toInt = 1 := rfl
  have l999 : (999 : Int64).toInt = 999 := rfl
  have l99 : (99 : Int64).toInt = 99 := rfl
  have lm99 : (-99 : Int64).toInt = -99 := rfl
  have e1 : (1 : Int32).toInt = 1 := rfl
  have e999 : (999 : Int32).toInt = 999 := rfl
  have e99 : (99 : Int32).toInt = 99 := rfl
  have em99 : (-99 : Int32).toInt = -99 := rfl
  have keep : ∀ j, (j = 3 ∧ rng v 1 999) ∨ (j = 4 ∧ rng v (-99) 99) → InvP PA nc (sI x 6 j v) (sI m 0 (j + 12) v) := by
    intro j hj
    have hmo : ∀ k, k ≠ 0 → (sI m 0 (j + 12) v).1 k = m.1 k := fun k hk => sI_ro m 0 (j + 12) v k hk
    have hxo : ∀ k, k ≠ 6 → (sI x 6 j v).1 k = x.1 k := fun k hk => sI_ro x 6 j v k hk
    have hm0 : ∀ i, i ≠ 15 → i ≠ 16 → (sI m 0 (j + 12) v).1 0 i = m.1 0 i := fun i a b => sI_rne m 0 (j + 12) v i (by omega)
    refine ⟨nr, tc, h1.cg (fun k a b => hxo k (by omega)) (hm0 11 (by decide) (by decide)) (fun k a b => hmo k (by omega)), ?_, h3.cg (by rw [hxo 0 (by decide)]) (by rw [hxo 0 (by decide)]) (fun k a b => hxo k (by omega)) (fun i a b => hm0 i (by omega) (by omega)) (fun k a b => hmo k (by omega)), h4.cg (hxo 15 (by decide)) (hxo 16 (by decide)) (hm0 6 (by decide) (by decide)) (hmo 3 (by decide)), h5.cg (by rw [hxo 0 (by decide)]) (by rw [hxo 0 (by decide)]) (fun k a => hxo k (by omega)) rfl rfl rfl (hm0 3 (by decide) (by decide)) (hm0 4 (by decide) (by decide)) (hmo 1 (by decide)) (hmo 2 (by decide)), h6.cg (fun k a b => hxo k (by omega)) (hm0 33 (by decide) (by decide)) (hmo 11 (by decide)) (hmo 12 (by decide)), h7.cg (by rw [hxo 37 (by decide)]) (fun k a b => hxo k (by omega)) (hm0 46 (by decide) (by decide)) (fun k a b => hmo k (by omega)), h8.cg (hxo 56 (by decide)) (hxo 57 (by decide)) (hm0 49 (by decide) (by decide)) (hmo 20 (by decide)), h9.cg (fun k a b => hxo k (by omega)) (fun k a b => hmo k (by omega))⟩
    obtain ⟨b1, b2, b3, b4, b5, b6⟩ := h2
    unfold IBoat
    rw [hxo 7 (by decide), hxo 8 (by decide), hxo 9 (by decide), hmo 8 (by decide), hmo 9 (by decide), hmo 10 (by decide)]
    refine ⟨b1, b2, b3, ?_⟩
    simp only [sI_rd]
    rcases hj with ⟨rfl, hv⟩ | ⟨rfl, hv⟩
    · simp
      exact ⟨hv, b5, b6⟩
    · simp
      exact ⟨b4, hv⟩
  unfold f_X11_water f_X12_water jn nm
  rw [m_in, w_in, w_in, l0, l1, e1, e999, e99, em99]
  simp only [bp_some]
  by_cases w0 : what = 0
  · subst w0
    rw [iz_pos (c := 0 ≤ (0 : Int32).toInt ∧ (0 : Int32).toInt ≤ 1) (by decide), if_neg ne10]
    simp only [if_true]
    rw [m_in, l1, l999]
    simp only [bp_some]
    by_cases hv : 1 ≤ v.toInt ∧ v.toInt ≤ 999
    · simp only [iz_pos hv, if_neg ne10]
      exact ⟨x.1 6 3, sI x 6 3 v, sI m 0 15 v, rfl, by rw [h2.2.2.2.1.1], keep 3 (Or.inl ⟨rfl, hv⟩)⟩
    · simp only [iz_neg hv, if_true, show ¬ (0 : Int32) = 1 by decide, if_false]
      exact ⟨_, x, m, rfl, rfl, hI⟩
  · by_cases w1 : what = 1
    · subst w1
      rw [iz_pos (c := 0 ≤ (1 : Int32).toInt ∧ (1 : Int32).toInt ≤ 1) (by decide), if_neg ne10]
      simp only [if_neg ne10, if_true]
      rw [m_in, lm99, l99]
      simp only [bp_some]
      by_cases hv : -99 ≤ v.toInt ∧ v.toInt ≤ 99
      · simp only [iz_pos hv, if_neg ne10]
        exact ⟨x.1 6 4, sI x 6 4 v, sI m 0 16 v, rfl, by rw [h2.2.2.2.2.1], keep 4 (Or.inr ⟨rfl, hv⟩)⟩
      · simp only [iz_neg hv, if_true]
        exact ⟨_, x, m, rfl, rfl, hI⟩
    · have hn : ¬ (0 ≤ what.toInt ∧ what.toInt ≤ 1) := fun h => by
        have a0 : what.toInt ≠ 0 := fun e => w0 (eq32.mpr e)
        have a1 : what.toInt ≠ 1 := fun e => w1 (eq32.mpr e)
        omega
      simp only [iz_neg hn, if_true, if_neg w0, if_neg w1]
      exact ⟨_, x, m, rfl, rfl, hI⟩

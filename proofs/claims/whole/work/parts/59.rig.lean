theorem p_rig {PA : (Nat → Int32) → Nat → (Nat → Int32) → Nat → Int32 → Prop} : P_rig (InvP PA) := by
  intro nc x m k what v hI
  obtain ⟨nr, tc, h1, h2, h3, h4, h5, h6, h7, h8, h9⟩ := id hI
  obtain ⟨s1, s2, s3, s4⟩ := id h2
  have l0 : (0 : Int64).toInt = 0 := rfl
  have l1 : (1 : Int64).toInt = 1 := rfl
  have l9 : (9 : Int64).toInt = 9 := rfl
  have e0 : (0 : Int32).toInt = 0 := rfl
  have e1 : (1 : Int32).toInt = 1 := rfl
  have e9 : (9 : Int32).toInt = 9 := rfl
  have keep : ∀ c j, j < 8 → (c = 8 ∧ (v = 0 ∨ v = 1)) ∨ (c = 9 ∧ rng v 1 9) → InvP PA nc (sI x c j v) (sI m (c + 1) j v) := by
    intro c j hj hc
    have hc2 : c = 8 ∨ c = 9 := hc.imp (fun h => h.1) (fun h => h.1)
    have hmo : ∀ i, i ≠ c + 1 → (sI m (c + 1) j v).1 i = m.1 i := fun i hi => sI_ro m (c + 1) j v i hi
    have hxo : ∀ i, i ≠ c → (sI x c j v).1 i = x.1 i := fun i hi => sI_ro x c j v i hi
    have m0 : (sI m (c + 1) j v).1 0 = m.1 0 := hmo 0 (by omega)
    refine ⟨nr, tc, h1.cg (fun i a b => hxo i (by omega)) (by rw [m0]) (fun i a b => hmo i (by omega)), ?_, h3.cg (by rw [hxo 0 (by omega)]) (by rw [hxo 0 (by omega)]) (fun i a b => hxo i (by omega)) (fun i a b => by rw [m0]) (fun i a b => hmo i (by omega)), h4.cg (hxo 15 (by omega)) (hxo 16 (by omega)) (by rw [m0]) (hmo 3 (by omega)), h5.cg (by rw [hxo 0 (by omega)]) (by rw [hxo 0 (by omega)]) (fun i a => hxo i (by omega)) rfl rfl rfl (by rw [m0]) (by rw [m0]) (hmo 1 (by omega)) (hmo 2 (by omega)), h6.cg (fun i a b => hxo i (by omega)) (by rw [m0]) (hmo 11 (by omega)) (hmo 12 (by omega)), h7.cg (by rw [hxo 37 (by omega)]) (fun i a b => hxo i (by omega)) (by rw [m0]) (fun i a b => hmo i (by omega)), h8.cg (hxo 56 (by omega)) (hxo 57 (by omega)) (by rw [m0]) (hmo 20 (by omega)), h9.cg (fun i a b => hxo i (by omega)) (fun i a b => hmo i (by omega))⟩
    unfold IBoat
    rw [hxo 6 (by omega), hxo 7 (by omega), hmo 8 (by omega), m0]
    rcases hc with ⟨rfl, hv⟩ | ⟨rfl, hv⟩
    · refine ⟨s1, fun i hi => ?_, by rw [hxo 9 (by omega), hmo 10 (by omega)]; exact s3, s4⟩
      simp only [sI_rd, true_and]
      by_cases hij : i = j
      · simp only [if_pos hij, true_and]; exact hv
      · simp only [if_neg hij]; exact s2 i hi
    · refine ⟨s1, by rw [hxo 8 (by omega), hmo 9 (by omega)]; exact s2, fun i hi => ?_, s4⟩
      simp only [sI_rd, true_and]
      by_cases hij : i = j
      · simp only [if_pos hij, true_and]; exact hv
      · simp only [if_neg hij]; exact s3 i hi
  unfold f_X11_rig f_X12_rig jn nm
  rw [xSeat, mSeat, w_in, w_in, m_in, e0, e1, e9, l0, l1]
  simp only [bp_some]
  by_cases hk : 0 ≤ k.toInt ∧ k.toInt ≤ 7
  · rw [iz_pos hk]
    simp only [if_neg ne10]
    have hb : inb k 8 := inb_of hk.1 (by omega)
    have hc := clamp_toInt hk.1
    simp only [gd_pos hb]
    by_cases w0 : what = 0
    · subst w0
      rw [iz_pos (c := 0 ≤ (0 : Int32).toInt ∧ (0 : Int32).toInt ≤ 1) (by decide)]
      simp only [if_neg ne10, if_true]
      rw [m_in, i2l_toInt, e0, l1]
      simp only [bp_some]
      by_cases hv : 0 ≤ v.toInt ∧ v.toInt ≤ 1
      · simp only [iz_pos hv, if_neg ne10]
        have hv2 : v = 0 ∨ v = 1 := by
          rw [eq32, eq32, e0, e1]; omega
        exact ⟨x.1 8 k.toNatClampNeg, sI x 8 k.toNatClampNeg v, sI m 9 k.toNatClampNeg v, rfl, by rw [(s2 _ (by omega)).1], keep 8 _ (by omega) (Or.inl ⟨rfl, hv2⟩)⟩
      · simp only [iz_neg hv, if_true, show ¬ (0 : Int32) = 1 by decide, if_false]
        exact ⟨_, x, m, rfl, rfl, hI⟩
    · by_cases w1 : what = 1
      · subst w1
        rw [iz_pos (c := 0 ≤ (1 : Int32).toInt ∧ (1 : Int32).toInt ≤ 1) (by decide)]
        simp only [if_neg ne10, if_true]
        rw [m_in, i2l_toInt, e1, l9]
        simp only [bp_some]
        by_cases hv : 1 ≤ v.toInt ∧ v.toInt ≤ 9
        · simp only [iz_pos hv, if_neg ne10]
          exact ⟨x.1 9 k.toNatClampNeg, sI x 9 k.toNatClampNeg v, sI m 10 k.toNatClampNeg v, rfl, by rw [(s3 _ (by omega)).1], keep 9 _ (by omega) (Or.inr ⟨rfl, hv⟩)⟩
        · simp only [iz_neg hv, if_true]
          exact ⟨_, x, m, rfl, rfl, hI⟩
      · have hn : ¬ (0 ≤ what.toInt ∧ what.toInt ≤ 1) := fun h => by
          have a0 : what.toInt ≠ 0 := fun e => w0 (eq32.mpr e)
          have a1 : what.toInt ≠ 1 := fun e => w1 (eq32.mpr e)
          omega
        simp only [iz_neg hn, if_true, if_neg w0, if_neg w1]
        exact ⟨_, x, m, rfl, rfl, hI⟩
  · rw [iz_neg hk]
    exact ⟨_, x, m, rfl, rfl, hI⟩

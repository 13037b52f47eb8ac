theorem p_rower {PA : (Nat → Int32) → Nat → (Nat → Int32) → Nat → Int32 → Prop} : P_rower (InvP PA) := by
  intro nc x m a b c d hI
  obtain ⟨nr, tc, h1, h2, h3, h4, h5, h6, h7, h8, h9⟩ := id hI
  obtain ⟨r1, r2, r3, r4⟩ := id h1
  have t : ∀ n : Nat, n < 100000 → (nI n).toInt = (n : Int) := fun n hn => nI_rng (by omega)
  unfold f_X11_rower f_X12_rower
  rw [w_in, w_in, w_in, w_in, m_in, m_in, m_in, m_in]
  rw [show (40 : Int32).toInt = 40 from rfl, show (120 : Int32).toInt = 120 from rfl, show (1 : Int32).toInt = 1 from rfl, show (99 : Int32).toInt = 99 from rfl, show (0 : Int32).toInt = 0 from rfl, show (9999 : Int32).toInt = 9999 from rfl, show (40 : Int64).toInt = 40 from rfl, show (120 : Int64).toInt = 120 from rfl, show (1 : Int64).toInt = 1 from rfl, show (99 : Int64).toInt = 99 from rfl, show (0 : Int64).toInt = 0 from rfl, show (9999 : Int64).toInt = 9999 from rfl]
  unfold jn
  simp only [bp_some]
  by_cases g1 : 40 ≤ a.toInt ∧ a.toInt ≤ 120
  · by_cases g2 : 1 ≤ b.toInt ∧ b.toInt ≤ 99
    · by_cases g3 : 0 ≤ c.toInt ∧ c.toInt ≤ 9999
      · by_cases g4 : 0 ≤ d.toInt ∧ d.toInt ≤ 99
        · simp only [iz_pos g1, iz_pos g2, iz_pos g3, iz_pos g4, if_neg ne10]
          by_cases hf : nr = 16
          · subst hf
            have hx : f_X2_add x a b c d = some (-4, x) := by
              unfold f_X2_add nm
              rw [r2]
              rfl
            rw [hx]
            unfold nm
            rw [r3]
            exact ⟨-4, x, m, rfl, rfl, hI⟩
          · have hlt : nr < 16 := by omega
            have ec : (nI nr).toNatClampNeg = nr := nI_clamp (by omega)
            have hb : inb (nI nr) 16 := inb_of (by rw [t nr (by omega)]; omega) (by rw [t nr (by omega)]; omega)
            have hn16 : ¬ nI nr = 16 := fun e => by
              have := congrArg Int32.toInt e
              rw [t nr (by omega), show (16 : Int32).toInt = 16 from rfl] at this
              omega
            rw [xAdd hlt r2]
            unfold nm
            simp only [r3, if_neg hn16, gd_pos hb, ec, sI_rd, bd_some]
            simp only [show ¬ (0 = 4 ∧ 11 = nr) by omega, show ¬ (0 = 5 ∧ 11 = nr) by omega, show ¬ (0 = 6 ∧ 11 = nr) by omega, show ¬ (0 = 7 ∧ 11 = nr) by omega, if_false, r3, gd_pos hb, ec, and_self, if_true]
            rw [nI_1, nI_pred]
            have hxo : ∀ k, 5 < k ∨ k = 0 → (sI (sI (sI (sI (sI x 2 nr a) 3 nr b) 4 nr c) 5 nr d) 1 4 (nI (nr + 1))).1 k = x.1 k := fun k hk => by simp only [sI_ro _ 1 4 _ k (by omega), sI_ro _ 5 nr _ k (by omega), sI_ro _ 4 nr _ k (by omega), sI_ro _ 3 nr _ k (by omega), sI_ro _ 2 nr _ k (by omega)]
            have hmo : ∀ k, 7 < k ∨ (0 < k ∧ k < 4) → (sI (sI (sI (sI (sI m 4 nr a) 5 nr b) 6 nr c) 7 nr d) 0 11 (nI (nr + 1))).1 k = m.1 k := fun k hk => by simp only [sI_ro _ 0 11 _ k (by omega), sI_ro _ 7 nr _ k (by omega), sI_ro _ 6 nr _ k (by omega), sI_ro _ 5 nr _ k (by omega), sI_ro _ 4 nr _ k (by omega)]
            have hm0 : ∀ j, j ≠ 11 → (sI (sI (sI (sI (sI m 4 nr a) 5 nr b) 6 nr c) 7 nr d) 0 11 (nI (nr + 1))).1 0 j = m.1 0 j := fun j hj => by
              rw [sI_rne _ 0 11 _ j hj, sI_ro _ 7 nr _ 0 (by decide), sI_ro _ 6 nr _ 0 (by decide), sI_ro _ 5 nr _ 0 (by decide), sI_ro _ 4 nr _ 0 (by decide)]
            refine ⟨_, _, _, rfl, rfl, nr + 1, tc, ⟨by omega, ?_, ?_, fun i hi => ?_⟩, ?_, ?_, ?_, ?_, ?_, ?_, ?_, ?_⟩
            · simp [sI_rd]
            · simp [sI_rd]
            · have hr := r4 i
              simp only [sI_rd]
              by_cases e : i = nr
              · subst e
                simp [rng]
                omega
              · simp [e]
                have := hr (by omega)
                exact ⟨this.1, this.2⟩
            · exact (h2.cg (fun k p q => hxo k (by omega)) (hm0 15 (by decide)) (hm0 16 (by decide)) (fun k p q => hmo k (by omega))).mono (by omega)
            · exact (h3.cg (by rw [hxo 0 (by omega)]) (by rw [hxo 0 (by omega)]) (fun k p q => hxo k (by omega)) (fun j p q => hm0 j (by omega)) (fun k p q => hmo k (by omega))).mono (by omega)
            · exact h4.cg (hxo 15 (by omega)) (hxo 16 (by omega)) (hm0 6 (by decide)) (hmo 3 (by omega))
            · exact h5.cg (by rw [hxo 0 (by omega)]) (by rw [hxo 0 (by omega)]) (fun k p => hxo k (by omega)) rfl rfl rfl (hm0 3 (by decide)) (hm0 4 (by decide)) (hmo 1 (by omega)) (hmo 2 (by omega))
            · exact h6.cg (fun k p q => hxo k (by omega)) (hm0 33 (by decide)) (hmo 11 (by omega)) (hmo 12 (by omega))
            · exact (h7.cg (by rw [hxo 37 (by omega)]) (fun k p q => hxo k (by omega)) (hm0 46 (by decide)) (fun k p q => hmo k (by omega))).mono (by omega)
            · exact h8.cg (hxo 56 (by omega)) (hxo 57 (by omega)) (hm0 49 (by decide)) (hmo 20 (by omega))
            · exact h9.cg (fun k p q => hxo k (by omega)) (fun k p q => hmo k (by omega))
        · simp only [iz_pos g1, iz_pos g2, iz_pos g3, iz_neg g4, if_neg ne10, if_true]
          exact ⟨_, x, m, rfl, rfl, hI⟩
      · simp only [iz_pos g1, iz_pos g2, iz_neg g3, if_neg ne10, if_true]
        exact ⟨_, x, m, rfl, rfl, hI⟩
    · simp only [iz_pos g1, iz_neg g2, if_neg ne10, if_true]
      exact ⟨_, x, m, rfl, rfl, hI⟩
  · simp only [iz_neg g1, if_true]
    exact ⟨_, x, m, rfl, rfl, hI⟩

/-- the low byte of a number, either way -/
theorem and255 (v : Int32) : (v.toInt8.toInt32) &&& 255 = v &&& 255 := by
  apply Int32.toBitVec_inj.mp
  apply BitVec.eq_of_getLsbD_eq
  intro i hi
  simp only [Int32.toBitVec_and, BitVec.getLsbD_and, Int8.toBitVec_toInt32, Int32.toBitVec_toInt8, BitVec.getLsbD_signExtend]
  by_cases h : i < 8
  · have h2 : i < 32 := by omega
    simp only [h, h2, decide_true, Bool.true_and, if_true]
  · have : ∀ j, j < 32 → ¬ j < 8 → (255 : Int32).toBitVec.getLsbD j = false := by decide
    rw [this i hi h, Bool.and_false, Bool.and_false]
theorem and255_l (w : Int64) : (w &&& 255).toInt32 = w.toInt32 &&& 255 := by
  apply Int32.toBitVec_inj.mp
  apply BitVec.eq_of_getLsbD_eq
  intro i hi
  have h64 : i < 64 := by omega
  simp only [Int64.toBitVec_toInt32, Int64.toBitVec_and, Int32.toBitVec_and, BitVec.getLsbD_and, BitVec.getLsbD_signExtend, hi, h64, decide_true, Bool.true_and, if_true]
  by_cases h : i < 8
  · have h1 : ∀ j, j < 8 → (255 : Int64).toBitVec.getLsbD j = true ∧ (255 : Int32).toBitVec.getLsbD j = true := by decide
    rw [(h1 i h).1, (h1 i h).2]
  · have h1 : ∀ j, j < 32 → ¬ j < 8 → (255 : Int64).toBitVec.getLsbD j = false ∧ (255 : Int32).toBitVec.getLsbD j = false := by decide
    rw [(h1 i hi h).1, (h1 i hi h).2]
theorem feed_byte (w : Int64) : vp_nar .byte (Int8.toInt32 (Int32.toInt8 (Int64.toInt32 w))) &&& 255 = Int64.toInt32 (w &&& 255) := by
  rw [vp_nar_byte, and255, and255, and255_l]
theorem feed_l {n c : Nat} (hc : c ≤ 8) (hn : n + c ≤ 160) {w : Int64} {K K' : St → Option (Int32 × St)} : ∀ (d f k : Nat) (x m : St), k + d = c → d < f → x.1 15 1 = nI n → m.1 0 6 = nI (n + k) → (∀ i, i < n + k → m.1 3 i = x.1 16 i &&& 255) → ∃ x' m', f_X8_add_l18 (nI c) w K f (nI k) x = K x' ∧ f_X12_feed_l33 (nI c) w K' f (nI k) m = K' m' ∧ (∀ q, q ≠ 16 → x'.1 q = x.1 q) ∧ x'.2 = x.2 ∧ (∀ q, q ≠ 0 → q ≠ 3 → m'.1 q = m.1 q) ∧ (∀ j, j ≠ 6 → m'.1 0 j = m.1 0 j) ∧ m'.1 0 6 = nI (n + c) ∧ (∀ i, i < n + c → m'.1 3 i = x'.1 16 i &&& 255) := by
  intro d
  induction d with
  | zero =>
    intro f k x m hk hf g1 g2 g3
    obtain ⟨f, rfl⟩ : ∃ g, f = g + 1 := ⟨f - 1, by omega⟩
    have hkc : k = c := by omega
    subst hkc
    have : nI k ≤ nI k := by rw [le_nI (by omega), nI_rng (by omega)]; omega
    rw [f_X8_add_l18, f_X12_feed_l33, if_pos this, if_pos this]
    exact ⟨x, m, rfl, rfl, fun _ _ => rfl, rfl, fun _ _ _ => rfl, fun _ _ => rfl, g2, g3⟩
  | succ d ih =>
    intro f k x m hk hf g1 g2 g3
    obtain ⟨f, rfl⟩ : ∃ g, f = g + 1 := ⟨f - 1, by omega⟩
    have hnk : ¬ nI c ≤ nI k := by rw [le_nI (by omega), nI_rng (by omega)]; omega
    rw [f_X8_add_l18, f_X12_feed_l33, if_neg hnk, if_neg hnk]
    simp only [nmE, g1, g2, nI_add, gdN (show n + k < 160 by omega) (show 160 ≤ 1000000 by omega), clampN (show n + k < 1000000 by omega), nI_1]
    rw [sI_ro _ 3 _ _ 0 (by omega), g2, nI_1]
    obtain ⟨x', m', q1, q2, q3, q4, q5, q6, q7, q8⟩ := ih f (k + 1) (sI x 16 (n + k) (vp_nar .byte (Int8.toInt32 (Int32.toInt8 (Int64.toInt32 (w >>> ((Int32.toInt64 (8 * nI k)) &&& 63))))))) (sI (sI m 3 (n + k) (Int64.toInt32 ((w >>> ((Int32.toInt64 (8 * nI k)) &&& 63)) &&& 255))) 0 6 (nI (n + k + 1))) (by omega) (by omega) (by rw [sI_ro _ 16 _ _ 15 (by omega)]; exact g1) (by rw [sI_at]; rfl) (fun i hi => by
        rw [sI_ro _ 0 6 _ 3 (by omega)]
        simp only [sI_rd]
        by_cases e : i = n + k
        · simp only [e, and_self, if_true]
          exact (feed_byte _).symm
        · simp only [e, and_false, if_false]
          exact g3 i (by omega))
    refine ⟨x', m', q1, q2, fun q hq => by rw [q3 q hq, sI_ro _ 16 _ _ q hq], by rw [q4]; rfl, fun q a b => by rw [q5 q a b, sI_ro _ 0 6 _ q a, sI_ro _ 3 _ _ q b], fun j hj => by rw [q6 j hj, sI_rne _ 0 6 _ j hj, sI_ro _ 3 _ _ 0 (by omega)], q7, q8⟩
theorem p_feed {PA : (Nat → Int32) → Nat → (Nat → Int32) → Nat → Int32 → Prop} : P_feed (InvP PA) := by
  intro nc x m a w hI
  obtain ⟨nr, tc, h1, h2, h3, h4, h5, h6, h7, h8, h9⟩ := id hI
  obtain ⟨n, t1, t2, t3, t4⟩ := id h4
  have e1 : (1 : Int32).toInt = 1 := rfl
  have e8 : (8 : Int32).toInt = 8 := rfl
  have e160 : (160 : Int32).toInt = 160 := rfl
  have l1 : (1 : Int64).toInt = 1 := rfl
  have l8 : (8 : Int64).toInt = 8 := rfl
  unfold f_X11_feed f_X12_feed
  rw [w_in, m_in, e1, e8, l1, l8]
  simp only [bpE]
  by_cases ha : 1 ≤ a.toInt ∧ a.toInt ≤ 8
  · obtain ⟨c, hc, rfl⟩ := of_rng (n := 9) (a := a) (by omega) (by omega)
    rw [iz_pos ha]
    unfold f_X8_add
    simp only [if_neg ne10, nmE, t2, t3, nI_add]
    have en := nI_rng (n := n) (by omega)
    have ec := nI_rng (n := c) (by omega)
    have es : ((160 : Int32) - nI n).toInt = 160 - n := by rw [sub32 (by omega), en, e160]
    by_cases hf : n + c ≤ 160
    · have u1 : nI c ≤ 160 - nI n := by rw [le32, es]; omega
      have u2 : nI (n + c) ≤ 160 := by rw [nI_lek (by omega)]; omega
      simp only [if_pos u1, if_pos u2]
      obtain ⟨x', m', q1, q2, q3, q4, q5, q6, q7, q8⟩ := feed_l (K := (fun (σ5 : St) => some ((sI σ5 15 1 (σ5.1 15 1 + nI c)).1 15 1, sI σ5 15 1 (σ5.1 15 1 + nI c)))) (K' := (fun (σ7 : St) => some (σ7.1 0 6, σ7))) (w := w) (show c ≤ 8 by omega) hf c FU 0 x m (by omega) (by unfold FU; omega) t2 t3 t4
      have z : nI 0 = 0 := rfl
      rw [z] at q1 q2
      rw [q1, q2]
      simp only [bdE, sI_at, q3 15 (by omega), t2, nI_add, q7]
      have hxo : ∀ k, k ≠ 15 ∧ k ≠ 16 → (sI x' 15 1 (nI (n + c))).1 k = x.1 k := fun k hk => by rw [sI_ro _ 15 1 _ k (by omega), q3 k (by omega)]
      have hmo : ∀ k, k ≠ 0 ∧ k ≠ 3 → m'.1 k = m.1 k := fun k hk => q5 k (by omega) (by omega)
      have hm0 : ∀ j, j ≠ 6 → m'.1 0 j = m.1 0 j := q6
      have hx0 : ∀ j, j ≠ 1000 → (sI x' 15 1 (nI (n + c))).1 0 j = x.1 0 j := fun j hj => by rw [hxo 0 (by omega)]
      have hx37 : (sI x' 15 1 (nI (n + c))).1 37 4 = x.1 37 4 := by rw [hxo 37 (by omega)]
      have hx2 : (sI x' 15 1 (nI (n + c))).2 = x.2 := q4
      have hr19 : (sI x' 15 1 (nI (n + c))).2.2.1 19 = x.2.2.1 19 := by rw [hx2]
      have hr31 : (sI x' 15 1 (nI (n + c))).2.2.1 31 2 = x.2.2.1 31 2 := by rw [hx2]
      have hl : (sI x' 15 1 (nI (n + c))).2.2.2 = x.2.2.2 := by rw [hx2]
      refine ⟨_, _, m', rfl, rfl, nr, tc, h1.cg (fun k a b => hxo k (by omega)) (hm0 11 (by omega)) (fun k a b => hmo k (by omega)), h2.cg (fun k a b => hxo k (by omega)) (hm0 15 (by omega)) (hm0 16 (by omega)) (fun k a b => hmo k (by omega)), h3.cg (hx0 4 (by omega)) (hx0 5 (by omega)) (fun k a b => hxo k (by omega)) (fun j a b => hm0 j (by omega)) (fun k a b => hmo k (by omega)), ?_, h5.cg (hx0 9 (by omega)) (hx0 10 (by omega)) (fun k a => hxo k (by omega)) hr19 hr31 hl (hm0 3 (by omega)) (hm0 4 (by omega)) (hmo 1 (by omega)) (hmo 2 (by omega)), h6.cg (fun k a b => hxo k (by omega)) (hm0 33 (by omega)) (hmo 11 (by omega)) (hmo 12 (by omega)), h7.cg hx37 (fun k a b => hxo k (by omega)) (hm0 46 (by omega)) (fun k a b => hmo k (by omega)), h8.cg (hxo 56 (by omega)) (hxo 57 (by omega)) (hm0 49 (by omega)) (hmo 20 (by omega)), h9.cg (fun k a b => hxo k (by omega)) (fun k a b => hmo k (by omega))⟩
      exact ⟨n + c, hf, sI_at _ _ _ _, q7, fun i hi => by rw [sI_ro _ 15 1 _ 16 (by omega)]; exact q8 i hi⟩
    · have u1 : ¬ nI c ≤ 160 - nI n := by rw [le32, es]; omega
      have u2 : ¬ nI (n + c) ≤ 160 := by rw [nI_lek (by omega)]; omega
      simp only [if_neg u1, if_neg u2, bdE]
      exact ⟨_, x, m, rfl, rfl, hI⟩
  · rw [iz_neg ha]
    exact ⟨_, x, m, rfl, rfl, hI⟩

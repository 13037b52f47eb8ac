theorem xAddP {x : St} {n : Nat} (h16 : n < 30) (hx : x.1 37 4 = nI n) (a b c d : Int32) : f_X10_add x a b c d = some (nI n, sI (sI (sI (sI (sI x 38 n a) 39 n b) 40 n c) 41 n d) 37 4 (nI (n + 1))) := by
  have ec : (nI n).toNatClampNeg = n := clampN (by omega)
  have hb : inb (nI n) 30 := inb_nI h16 (by omega)
  have hlt : nI n < 30 := by
    have : (30 : Int32).toInt = 30 := rfl
    rw [lt32, nI_rng (by omega)]; omega
  unfold f_X10_add nm
  simp only [hx, if_pos hlt, gd_pos hb, ec, sI_rd]
  simp only [show ¬ (37 = 38 ∧ 4 = n) by omega, show ¬ (37 = 39 ∧ 4 = n) by omega, show ¬ (37 = 40 ∧ 4 = n) by omega, show ¬ (37 = 41 ∧ 4 = n) by omega, if_false, hx, gd_pos hb, ec, and_self, if_true]
  rw [nI_1, nI_pred]
/-- piece: both answer alike; what changes is the pieces alone -/
theorem piece_core {PA : (Nat → Int32) → Nat → (Nat → Int32) → Nat → Int32 → Prop} {nc nr tc : Nat} {x m : St} (hA : ICrew nr x m ∧ IBoat nr x m ∧ IKept nr tc x m ∧ ITape x m ∧ IText PA nc tc x m ∧ IPlan x m ∧ ITrial nr x m ∧ IRace x m ∧ ISheet x m) (a b c d : Int32) : ∃ (r : Int32) (x' m' : St), f_X11_piece x a b c d = some (r, x') ∧ f_X12_piece m a b c d = some (r, m') ∧ (ICrew nr x' m' ∧ IBoat nr x' m' ∧ IKept nr tc x' m' ∧ ITape x' m' ∧ IText PA nc tc x' m' ∧ IPlan x' m' ∧ ITrial nr x' m' ∧ IRace x' m' ∧ ISheet x' m') ∧ (∀ k, 59 ≤ k → x'.1 k = x.1 k) ∧ (∀ k, 19 ≤ k → m'.1 k = m.1 k) := by
  obtain ⟨h1, h2, h3, h4, h5, h6, h7, h8, h9⟩ := id hA
  obtain ⟨r1, r2, r3, r4⟩ := id h1
  obtain ⟨n, t1, t2, t3, t4⟩ := id h7
  have same : ∃ (r : Int32) (x' m' : St), (some ((-2 : Int32), x) : Option (Int32 × St)) = some (r, x') ∧ (some ((-2 : Int32), m) : Option (Int32 × St)) = some (r, m') ∧ (ICrew nr x' m' ∧ IBoat nr x' m' ∧ IKept nr tc x' m' ∧ ITape x' m' ∧ IText PA nc tc x' m' ∧ IPlan x' m' ∧ ITrial nr x' m' ∧ IRace x' m' ∧ ISheet x' m') ∧ (∀ k, 59 ≤ k → x'.1 k = x.1 k) ∧ (∀ k, 19 ≤ k → m'.1 k = m.1 k) := ⟨-2, x, m, rfl, rfl, hA, fun _ _ => rfl, fun _ _ => rfl⟩
  unfold f_X11_piece f_X12_piece
  rw [xRower r1 r2, xRower r1 r2, mRower r1 r3, mRower r1 r3, w_in, w_in, m_in, m_in]
  rw [show (-9999 : Int32).toInt = -9999 from rfl, show (9999 : Int32).toInt = 9999 from rfl, show (0 : Int32).toInt = 0 from rfl, show (999 : Int32).toInt = 999 from rfl, show (-9999 : Int64).toInt = -9999 from rfl, show (9999 : Int64).toInt = 9999 from rfl, show (0 : Int64).toInt = 0 from rfl, show (999 : Int64).toInt = 999 from rfl]
  unfold jn
  simp only [bpE]
  by_cases g1 : 0 ≤ a.toInt ∧ a.toInt ≤ (nr : Int) - 1
  · by_cases g2 : 0 ≤ b.toInt ∧ b.toInt ≤ (nr : Int) - 1
    · by_cases g3 : a = b
      · simp only [iz_pos g1, iz_pos g2, if_pos g3, if_neg ne10, if_true]
        exact same
      · by_cases g4 : -9999 ≤ c.toInt ∧ c.toInt ≤ 9999
        · by_cases g5 : 0 ≤ d.toInt ∧ d.toInt ≤ 999
          · simp only [iz_pos g1, iz_pos g2, iz_pos g4, iz_pos g5, if_neg g3, if_neg ne10]
            by_cases hf : n = 30
            · subst hf
              have hx : f_X10_add x a b c d = some (-4, x) := by
                unfold f_X10_add nm
                rw [t2]
                rfl
              rw [hx]
              unfold nm
              rw [t3]
              exact ⟨-4, x, m, rfl, rfl, hA, fun _ _ => rfl, fun _ _ => rfl⟩
            · have hlt : n < 30 := by omega
              have ec : (nI n).toNatClampNeg = n := clampN (by omega)
              have hb : inb (nI n) 30 := inb_nI hlt (by omega)
              have hn : ¬ nI n = 30 := fun e => by
                have := congrArg Int32.toInt e
                rw [nI_rng (by omega), show (30 : Int32).toInt = 30 from rfl] at this
                omega
              rw [xAddP hlt t2]
              unfold nm
              simp only [t3, if_neg hn, gd_pos hb, ec, sI_rd, bdE]
              simp only [show ¬ (0 = 15 ∧ 46 = n) by omega, show ¬ (0 = 16 ∧ 46 = n) by omega, show ¬ (0 = 17 ∧ 46 = n) by omega, show ¬ (0 = 18 ∧ 46 = n) by omega, if_false, t3, gd_pos hb, ec, and_self, if_true]
              rw [nI_1, nI_pred]
              generalize hX : (sI (sI (sI (sI (sI x 38 n a) 39 n b) 40 n c) 41 n d) 37 4 (nI (n + 1))) = x'
              generalize hM : (sI (sI (sI (sI (sI m 15 n a) 16 n b) 17 n c) 18 n d) 0 46 (nI (n + 1))) = m'
              have hxo : ∀ k, k < 37 ∨ 41 < k → x'.1 k = x.1 k := fun k hk => by rw [← hX]; simp only [sI_ro _ 37 4 _ k (by omega), sI_ro _ 41 n _ k (by omega), sI_ro _ 40 n _ k (by omega), sI_ro _ 39 n _ k (by omega), sI_ro _ 38 n _ k (by omega)]
              have hmo : ∀ k, k ≠ 0 ∧ (k < 15 ∨ 18 < k) → m'.1 k = m.1 k := fun k hk => by rw [← hM]; simp only [sI_ro _ 0 46 _ k (by omega), sI_ro _ 18 n _ k (by omega), sI_ro _ 17 n _ k (by omega), sI_ro _ 16 n _ k (by omega), sI_ro _ 15 n _ k (by omega)]
              have hm0 : ∀ j, j ≠ 46 → m'.1 0 j = m.1 0 j := fun j hj => by
                rw [← hM, sI_rne _ 0 46 _ j hj, sI_ro _ 18 n _ 0 (by decide), sI_ro _ 17 n _ 0 (by decide), sI_ro _ 16 n _ 0 (by decide), sI_ro _ 15 n _ 0 (by decide)]
              have hx0 : ∀ j, j ≠ 1000 → x'.1 0 j = x.1 0 j := fun j hj => by rw [hxo 0 (by omega)]
              have hr19 : x'.2.2.1 19 = x.2.2.1 19 := by rw [← hX]; rfl
              have hr31 : x'.2.2.1 31 2 = x.2.2.1 31 2 := by rw [← hX]; rfl
              have hl : x'.2.2.2 = x.2.2.2 := by rw [← hX]; rfl
              refine ⟨_, x', m', rfl, rfl, ⟨h1.cg (fun k a b => hxo k (by omega)) (hm0 11 (by omega)) (fun k a b => hmo k (by omega)), h2.cg (fun k a b => hxo k (by omega)) (hm0 15 (by omega)) (hm0 16 (by omega)) (fun k a b => hmo k (by omega)), h3.cg (hx0 4 (by omega)) (hx0 5 (by omega)) (fun k a b => hxo k (by omega)) (fun j a b => hm0 j (by omega)) (fun k a b => hmo k (by omega)), h4.cg (hxo 15 (by omega)) (hxo 16 (by omega)) (hm0 6 (by omega)) (hmo 3 (by omega)), h5.cg (hx0 9 (by omega)) (hx0 10 (by omega)) (fun k a => hxo k (by omega)) hr19 hr31 hl (hm0 3 (by omega)) (hm0 4 (by omega)) (hmo 1 (by omega)) (hmo 2 (by omega)), h6.cg (fun k a b => hxo k (by omega)) (hm0 33 (by omega)) (hmo 11 (by omega)) (hmo 12 (by omega)), ?_, h8.cg (hxo 56 (by omega)) (hxo 57 (by omega)) (hm0 49 (by omega)) (hmo 20 (by omega)), h9.cg (fun k a b => hxo k (by omega)) (fun k a b => hmo k (by omega))⟩, fun k hk => hxo k (by omega), fun k hk => hmo k (by omega)⟩
              refine ⟨n + 1, by omega, by rw [← hX]; simp [sI_rd], by rw [← hM]; simp [sI_rd], fun i hi => ?_⟩
              rw [← hX, ← hM]
              simp only [sI_rd]
              by_cases e : i = n
              · subst e
                obtain ⟨a', ha, ea⟩ := of_rng (n := nr) g1.1 (by omega)
                obtain ⟨b', hb', eb⟩ := of_rng (n := nr) g2.1 (by omega)
                simp [rng]
                exact ⟨⟨a', ha, ea⟩, ⟨b', hb', eb⟩, g3, g4, g5⟩
              · simp [e]
                have := t4 i (by omega)
                exact this
          · simp only [iz_pos g1, iz_pos g2, iz_pos g4, iz_neg g5, if_neg g3, if_neg ne10, if_true]
            exact same
        · simp only [iz_pos g1, iz_pos g2, iz_neg g4, if_neg g3, if_neg ne10, if_true]
          exact same
    · simp only [iz_pos g1, iz_neg g2, if_neg ne10, if_true]
      exact same
  · simp only [iz_neg g1, if_true]
    exact same
theorem p_piece {PA : (Nat → Int32) → Nat → (Nat → Int32) → Nat → Int32 → Prop} : P_piece (InvP PA) := by
  intro nc x m a b c d hI
  obtain ⟨nr, tc, hA⟩ := hI
  obtain ⟨r, x', m', q1, q2, q3, q4, q5⟩ := piece_core hA a b c d
  exact ⟨r, x', m', q1, q2, nr, tc, q3⟩

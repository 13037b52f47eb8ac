theorem pieces_l {PA : (Nat → Int32) → Nat → (Nat → Int32) → Nat → Int32 → Prop} {nc nr tc s n c : Nat} (hs : s < 4) (hn : n ≤ 40) (hc : c ≤ 10) {a : Int32} : ∀ (d f k : Nat) (came : Int32) (x m : St), k + d = c → d < f → (ICrew nr x m ∧ IBoat nr x m ∧ IKept nr tc x m ∧ ITape x m ∧ IText PA nc tc x m ∧ IPlan x m ∧ ITrial nr x m ∧ IRace x m ∧ ISheet x m) → x.1 60 s = nI n → m.1 27 s = nI n → (∀ i, i < n → x.1 (62 + s) i = m.1 28 (40 * s + i)) → (k = 0 ∨ 0 ≤ a.toInt) → (a + nI (4 * k)).toInt = a.toInt + 4 * k → ∃ (r : Int32) (x' m' : St), f_X11_pieces_l82 (nI s) (nI c) (62 + s) f (a + nI (4 * k)) came (nI k) x = some (r, x') ∧ f_X12_pieces_l75 (nI s) a (nI c) f came (nI k) m = some (r, m') ∧ InvP PA nc x' m' := by
  have e4 : (4 : Int32).toInt = 4 := rfl
  have e0 : (0 : Int32).toInt = 0 := rfl
  intro d
  induction d with
  | zero =>
    intro f k came x m hk hf hA g1 g2 g3 ga gb
    obtain ⟨f, rfl⟩ : ∃ g, f = g + 1 := ⟨f - 1, by omega⟩
    unfold f_X11_pieces_l82 f_X12_pieces_l75
    have : nI c ≤ nI k := by rw [le_nI (by omega), nI_rng (by omega)]; omega
    rw [if_pos this, if_pos this]
    exact ⟨_, x, m, rfl, rfl, nr, tc, hA⟩
  | succ d ih =>
    intro f k came x m hk hf hA g1 g2 g3 ga gb
    obtain ⟨f, rfl⟩ : ∃ g, f = g + 1 := ⟨f - 1, by omega⟩
    rw [f_X11_pieces_l82, f_X12_pieces_l75]
    have hnk : ¬ nI c ≤ nI k := by rw [le_nI (by omega), nI_rng (by omega)]; omega
    have e4k : (4 : Int32) * nI k = nI (4 * k) := by rw [show (4 : Int32) = nI 4 from rfl, mul_nI 4 k (by omega) (by omega) (by omega)]
    have en := nI_rng (n := n) (by omega)
    have e4k' := nI_rng (n := 4 * k) (by omega)
    have hsub : (nI n - nI (4 * k) - 4).toInt = (n : Int) - 4 * k - 4 := by
      have : (nI n - nI (4 * k)).toInt = (n : Int) - 4 * k := by rw [sub32 (by omega), en, e4k']; omega
      rw [sub32 (by omega), this, e4]
    rw [if_neg hnk, if_neg hnk, xHolds hs hn g1, gdN hs (by omega), e4k, gb, e4]
    simp only [bpE, nmE, clampN (show s < 1000000 by omega), g2]
    by_cases hin : 0 ≤ a.toInt ∧ a.toInt + 4 * k + 4 ≤ n
    · obtain ⟨i, hi, rfl⟩ := of_rng (n := 41) hin.1 (by omega)
      have ei := nI_rng (n := i) (by omega)
      have hi2 : i + 4 * k + 4 ≤ n := by omega
      rw [iz_pos (by omega)]
      have p1 : ¬ nI i < 0 := nI_pos (by omega)
      have p2 : nI i ≤ nI n - nI (4 * k) - 4 := by rw [le32, hsub]; omega
      have t1 : nI (i + 4 * k) + 2 = nI (i + 4 * k + 2) := nI_add _ 2
      have t2 : nI (i + 4 * k) + 3 = nI (i + 4 * k + 3) := nI_add _ 3
      have t3 : nI (i + 4 * k) + 4 = nI (i + 4 * (k + 1)) := by rw [show (4 : Int32) = nI 4 from rfl, nI_add, Nat.mul_add, ← Nat.add_assoc]
      have t4 : nI (40 * s + i + 4 * k) + 2 = nI (40 * s + i + 4 * k + 2) := nI_add _ 2
      have t5 : nI (40 * s + i + 4 * k) + 3 = nI (40 * s + i + 4 * k + 3) := nI_add _ 3
      simp only [if_neg ne10, if_neg p1, if_pos p2, nI_add, idx40 hs (show i < 200 by omega), nI_1, t1, t2, t3, t4, t5,
        gdN (show i + 4 * k < 40 by omega) (show 40 ≤ 1000000 by omega), gdN (show i + 4 * k + 1 < 40 by omega) (show 40 ≤ 1000000 by omega), gdN (show i + 4 * k + 2 < 40 by omega) (show 40 ≤ 1000000 by omega), gdN (show i + 4 * k + 3 < 40 by omega) (show 40 ≤ 1000000 by omega),
        gdN (show 40 * s + i + 4 * k < 160 by omega) (show 160 ≤ 1000000 by omega), gdN (show 40 * s + i + 4 * k + 1 < 160 by omega) (show 160 ≤ 1000000 by omega), gdN (show 40 * s + i + 4 * k + 2 < 160 by omega) (show 160 ≤ 1000000 by omega), gdN (show 40 * s + i + 4 * k + 3 < 160 by omega) (show 160 ≤ 1000000 by omega),
        clampN (show i + 4 * k < 1000000 by omega), clampN (show i + 4 * k + 1 < 1000000 by omega), clampN (show i + 4 * k + 2 < 1000000 by omega), clampN (show i + 4 * k + 3 < 1000000 by omega),
        clampN (show 40 * s + i + 4 * k < 1000000 by omega), clampN (show 40 * s + i + 4 * k + 1 < 1000000 by omega), clampN (show 40 * s + i + 4 * k + 2 < 1000000 by omega), clampN (show 40 * s + i + 4 * k + 3 < 1000000 by omega)]
      rw [g3 (i + 4 * k) (by omega), g3 (i + 4 * k + 1) (by omega), g3 (i + 4 * k + 2) (by omega), g3 (i + 4 * k + 3) (by omega)]
      rw [show 40 * s + (i + 4 * k) = 40 * s + i + 4 * k by omega, show 40 * s + (i + 4 * k + 1) = 40 * s + i + 4 * k + 1 by omega, show 40 * s + (i + 4 * k + 2) = 40 * s + i + 4 * k + 2 by omega, show 40 * s + (i + 4 * k + 3) = 40 * s + i + 4 * k + 3 by omega]
      obtain ⟨r, x', m', q1, q2, q3, q4, q5⟩ := piece_core hA (m.1 28 (40 * s + i + 4 * k)) (m.1 28 (40 * s + i + 4 * k + 1)) (m.1 28 (40 * s + i + 4 * k + 2)) (m.1 28 (40 * s + i + 4 * k + 3))
      rw [q1, q2]
      simp only [bdE, jnE]
      have next := fun cm => ih f (k + 1) cm x' m' (by omega) (by omega) q3 (by rw [q4 60 (by omega)]; exact g1) (by rw [q5 27 (by omega)]; exact g2) (fun j hj => by rw [q4 (62 + s) (by omega), q5 28 (by omega)]; exact g3 j hj) (Or.inr hin.1) (by rw [nI_add, nI_rng (by omega), ei]; omega)
      simp only [nI_add] at next
      by_cases hr : r < 0
      · simp only [if_pos hr, Int32.add_zero]
        exact next came
      · simp only [if_neg hr]
        exact next (came + 1)
    · refine ⟨-12, x, m, ?_, ?_, nr, tc, hA⟩
      · rw [iz_neg (by omega), if_pos rfl]
      · by_cases p1 : a < 0
        · rw [if_pos p1]
        · rw [if_neg p1, if_neg (by rw [le32, hsub]; rw [lt32] at p1; omega)]
theorem p_pieces {PA : (Nat → Int32) → Nat → (Nat → Int32) → Nat → Int32 → Prop} : P_pieces (InvP PA) := by
  intro nc x m a b c d hI
  obtain ⟨nr, tc, hA⟩ := id hI
  obtain ⟨h1, h2, h3, h4, h5, h6, h7, h8, h9⟩ := id hA
  have e0 : (0 : Int32).toInt = 0 := rfl
  have e10 : (10 : Int32).toInt = 10 := rfl
  have l0 : (0 : Int64).toInt = 0 := rfl
  have l2 : (2 : Int64).toInt = 2 := rfl
  have l10 : (10 : Int64).toInt = 10 := rfl
  unfold f_X11_pieces f_X12_pieces
  rw [xSheet, mSheet, xSort, m_in, m_in, w_in, e0, e10, l0, l2, l10]
  simp only [bpE]
  by_cases ha : 0 ≤ a.toInt ∧ a.toInt ≤ 3
  · by_cases hb : 0 ≤ b.toInt ∧ b.toInt ≤ 2
    · by_cases hd : 0 ≤ d.toInt ∧ d.toInt ≤ 10
      · obtain ⟨s, hs, rfl⟩ := of_rng (n := 4) ha.1 (by omega)
        obtain ⟨n, hn, rfl⟩ := of_rng (n := 11) hd.1 (by omega)
        rw [iz_pos ha, iz_pos hb, iz_pos hd, xMissing hs]
        simp only [if_neg ne10, gdN hs (show 4 ≤ 1000000 by omega), nmE, jnE, clampN (show s < 1000000 by omega), bpE]
        rcases h9 s hs with ⟨g1, g2⟩ | ⟨g1, ⟨t, ht, g2, g2'⟩, q, g3, g4, g5, g6⟩
        · rw [g1, g2]
          exact ⟨-11, x, m, rfl, rfl, hI⟩
        · have hne : ¬ x.1 59 s = -1 := by rw [g2]; exact nI_nem (by omega)
          rw [if_neg hne, g1, g2, g2']
          simp only [if_true, if_neg ne10]
          by_cases et : nI t = b
          · rw [if_pos et, if_pos et]
            have := pieces_l hs g3 (show n ≤ 10 by omega) (a := c) n FU 0 0 x m (by omega) (by unfold FU; omega) hA g4 g5 g6 (Or.inl rfl) (by rw [show nI (4 * 0) = 0 from rfl, Int32.add_zero]; simp)
            rw [show nI (4 * 0) = 0 from rfl, Int32.add_zero] at this
            exact this
          · rw [if_neg et, if_neg et]
            exact ⟨-13, x, m, rfl, rfl, hI⟩
      · rw [iz_pos ha, iz_pos hb, iz_neg hd]
        simp only [if_neg ne10, if_true]
        exact ⟨_, x, m, rfl, rfl, hI⟩
    · rw [iz_pos ha, iz_neg hb]
      simp only [if_neg ne10, if_true]
      exact ⟨_, x, m, rfl, rfl, hI⟩
  · rw [iz_neg ha]
    exact ⟨_, x, m, rfl, rfl, hI⟩

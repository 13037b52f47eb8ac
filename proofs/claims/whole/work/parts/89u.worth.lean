/-! worth -/
theorem sh32 : ∀ q, q ≤ 30 → ((1 : Int32) <<< (nI q &&& 31)).toInt = 2 ^ q := by decide +kernel
theorem sh64 : ∀ q, q ≤ 30 → (((1 : Int64) <<< ((Int32.toInt64 (nI q)) &&& 63)) - 1).toInt = 2 ^ q - 1 := by decide +kernel
theorem xAll {x : St} {n : Nat} (hn : n ≤ 30) (h : x.1 37 4 = nI n) (a : Int32) : f_X10_hasAll x a = some (iz (0 ≤ a.toInt ∧ a.toInt ≤ (2 : Int) ^ n - 1)) := by
  have e0 : (0 : Int32).toInt = 0 := rfl
  have es := sh32 n hn
  unfold f_X10_hasAll
  rw [nmE, h]
  unfold iz
  by_cases h1 : a < 0
  · rw [if_pos h1, if_neg (by rw [lt32] at h1; omega)]
  · rw [if_neg h1]
    by_cases h2 : ((1 : Int32) <<< (nI n &&& 31)) ≤ a
    · rw [if_pos h2, if_neg (by rw [le32, es] at h2; omega)]
    · rw [if_neg h2, if_pos (by rw [lt32] at h1; rw [le32, es] at h2; omega)]
theorem trialF {nr : Nat} {x m : St} (h1 : ICrew nr x m) (h : ITrial nr x m) : ∃ (n : Nat) (A C : Nat → Nat) (F S : Nat → Int), n ≤ 30 ∧ x.1 37 4 = nI n ∧ m.1 0 46 = nI n ∧ (∀ i, i < n → x.1 38 i = nI (A i) ∧ x.1 39 i = nI (C i) ∧ A i < 16 ∧ C i < 16 ∧ (x.1 40 i).toInt = F i ∧ (x.1 41 i).toInt = S i ∧ rng (x.1 40 i) (-9999) 9999 ∧ rng (x.1 41 i) 0 999) ∧ (∀ i, i < n → m.1 15 i = nI (A i) ∧ m.1 16 i = nI (C i) ∧ A i < nr ∧ C i < nr ∧ A i ≠ C i ∧ (m.1 17 i).toInt = F i ∧ (m.1 18 i).toInt = S i ∧ rng (m.1 17 i) (-9999) 9999 ∧ rng (m.1 18 i) 0 999) := by
  obtain ⟨n, t1, t2, t3, t4⟩ := h
  have hnr := h1.1
  have key : ∀ i, i < n → m.1 15 i = nI (m.1 15 i).toNatClampNeg ∧ m.1 16 i = nI (m.1 16 i).toNatClampNeg ∧ (m.1 15 i).toNatClampNeg < nr ∧ (m.1 16 i).toNatClampNeg < nr ∧ (m.1 15 i).toNatClampNeg ≠ (m.1 16 i).toNatClampNeg := fun i hi => by
    obtain ⟨_, ⟨a, a1, a2⟩, ⟨b, b1, b2⟩, c, _, _⟩ := t4 i hi
    rw [a2, b2] at c ⊢
    rw [clampN (show a < 1000000 by omega), clampN (show b < 1000000 by omega)]
    exact ⟨rfl, rfl, a1, b1, fun e => c (by rw [e])⟩
  refine ⟨n, fun i => (m.1 15 i).toNatClampNeg, fun i => (m.1 16 i).toNatClampNeg, fun i => (m.1 17 i).toInt, fun i => (m.1 18 i).toInt, t1, t2, t3, fun i hi => ?_, fun i hi => ?_⟩
  · obtain ⟨k1, k2, k3, k4, k5⟩ := key i hi
    obtain ⟨⟨q1, q2, q3, q4⟩, _, _, _, q5, q6⟩ := t4 i hi
    rw [q1, q2, q3, q4]
    exact ⟨k1, k2, by dsimp only; omega, by dsimp only; omega, rfl, rfl, q5, q6⟩
  · obtain ⟨k1, k2, k3, k4, k5⟩ := key i hi
    obtain ⟨_, _, _, _, q5, q6⟩ := t4 i hi
    exact ⟨k1, k2, k3, k4, k5, rfl, rfl, q5, q6⟩
theorem inv_trial {PA : (Nat → Int32) → Nat → (Nat → Int32) → Nat → Int32 → Prop} {nc nr tc : Nat} {x m x' m' : St} (hA : ICrew nr x m ∧ IBoat nr x m ∧ IKept nr tc x m ∧ ITape x m ∧ IText PA nc tc x m ∧ IPlan x m ∧ ITrial nr x m ∧ IRace x m ∧ ISheet x m) (hx4 : x'.1 37 4 = x.1 37 4) (hx : ∀ c, c ≠ 37 → (c < 43 ∨ 55 < c) → x'.1 c = x.1 c) (hx2 : x'.2 = x.2) (hm : m'.1 = m.1) : InvP PA nc x' m' := by
  obtain ⟨h1, h2, h3, h4, h5, h6, h7, h8, h9⟩ := hA
  have hm0 : ∀ j, m'.1 0 j = m.1 0 j := fun j => by rw [hm]
  have hmo : ∀ k, m'.1 k = m.1 k := fun k => by rw [hm]
  have hxo : ∀ k, k < 37 ∨ (37 < k ∧ k < 43) ∨ 55 < k → x'.1 k = x.1 k := fun k hk => hx k (by omega) (by omega)
  have hx0 : ∀ j, x'.1 0 j = x.1 0 j := fun j => by rw [hxo 0 (by omega)]
  exact ⟨nr, tc, h1.cg (fun k a b => hxo k (by omega)) (hm0 11) (fun k a b => hmo k), h2.cg (fun k a b => hxo k (by omega)) (hm0 15) (hm0 16) (fun k a b => hmo k), h3.cg (hx0 4) (hx0 5) (fun k a b => hxo k (by omega)) (fun j a b => hm0 j) (fun k a b => hmo k), h4.cg (hxo 15 (by omega)) (hxo 16 (by omega)) (hm0 6) (hmo 3), h5.cg (hx0 9) (hx0 10) (fun k a => hxo k (by omega)) (by rw [hx2]) (by rw [hx2]) (by rw [hx2]) (hm0 3) (hm0 4) (hmo 1) (hmo 2), h6.cg (fun k a b => hxo k (by omega)) (hm0 33) (hmo 11) (hmo 12), h7.cg hx4 (fun k a b => hxo k (by omega)) (hm0 46) (fun k a b => hmo k), h8.cg (hxo 56 (by omega)) (hxo 57 (by omega)) (hm0 49) (hmo 20), h9.cg (fun k a b => hxo k (by omega)) (fun k a b => hmo k)⟩
theorem Gr.noS {E : Ed} {D : Mx} (h : Gr E D) (g : NoS E) : False := g D h.1
theorem p_worth {PA : (Nat → Int32) → Nat → (Nat → Int32) → Nat → Int32 → Prop} : P_worth (InvP PA) := by
  intro nc x m a b s w hI
  obtain ⟨nr, tc, hA⟩ := id hI
  obtain ⟨h1, h2, h3, h4, h5, h6, h7, h8, h9⟩ := id hA
  obtain ⟨r1, r2, r3, r4⟩ := id h1
  obtain ⟨n, A, C, F, S, t1, t2, t3, t4, t5⟩ := trialF h1 h7
  have same : ∃ (r : Int64) (x' m' : St), (some ((-4611686018427387904 : Int64), x) : Option (Int64 × St)) = some (r, x') ∧ (some ((-4611686018427387904 : Int64), m) : Option (Int64 × St)) = some (r, m') ∧ InvP PA nc x' m' := ⟨_, x, m, rfl, rfl, hI⟩
  have e1 : (1 : Int32).toInt = 1 := rfl
  have e0 : (0 : Int32).toInt = 0 := rfl
  unfold f_X11_worth f_X12_worth
  simp only [jnE, nmE, xRower r1 r2, mRower r1 r3, xAll t1 t2, t3, w_in, m_in, sh64 n t1, show (0 : Int32).toInt = 0 from rfl, show (1 : Int32).toInt = 1 from rfl, show (0 : Int64).toInt = 0 from rfl, show (1 : Int64).toInt = 1 from rfl, bpE]
  by_cases g1 : 0 ≤ a.toInt ∧ a.toInt ≤ (nr : Int) - 1
  · by_cases g2 : 0 ≤ b.toInt ∧ b.toInt ≤ (nr : Int) - 1
    · by_cases g3 : a = b
      · simp only [iz_pos g1, iz_pos g2, if_pos g3, if_neg ne10, if_true]
        exact same
      · by_cases g4 : 0 ≤ s.toInt ∧ s.toInt ≤ (2 : Int) ^ n - 1
        · by_cases g5 : 0 ≤ w.toInt ∧ w.toInt ≤ 1
          · simp only [iz_pos g1, iz_pos g2, iz_pos g4, iz_pos g5, if_neg g3, if_neg ne10]
            obtain ⟨a', ha, ea⟩ := of_rng (n := nr) g1.1 (by omega)
            obtain ⟨b', hb, eb⟩ := of_rng (n := nr) g2.1 (by omega)
            obtain ⟨rx, x', k1, k2, k3, k4⟩ := keepAllE (bits := s) t1 t2 t4
            obtain ⟨rm, m', q1, q2, q3⟩ := quarrelsE (set := s) t1 r1 r3 t3 t5
            rw [k1, q1]
            simp only [bdE]
            have hinv : InvP PA nc x' m' := inv_trial hA (by rw [k2 37 (by omega)]) (fun c _ hc => k2 c (by omega)) k3 q2.1
            rcases k4 with ⟨rfl, kn⟩ | ⟨rfl, kk⟩
            · rcases q3 with ⟨rfl, qn⟩ | ⟨rfl, qg⟩
              · rw [if_pos rfl, if_neg ne10]
                exact ⟨_, x', m', rfl, rfl, hinv⟩
              · exact absurd kn (fun z => qg.noS z)
            · rcases q3 with ⟨rfl, qn⟩ | ⟨rfl, qg⟩
              · exact absurd qn (fun z => kk.1.noS z)
              · rw [if_neg ne10, if_pos rfl]
                have heq := Gr.eq kk.1 qg
                have hcell : ∀ p q, p < 16 → q < 16 → (x'.1 43 (16 * p + q)).toInt = (m'.2.1 19 (16 * p + q)).toInt := heq
                subst ea eb
                have hmo : ∀ p q, p < 16 → q < 16 → f_X10_mostOf x' (nI p) (nI q) = some (x'.1 43 (16 * p + q)) := fun p q hp hq => by
                  unfold f_X10_mostOf
                  rw [cellE hp hq, bpE, gdN (by omega) (by omega), nmE, clampN (by omega)]
                have hw : w = 0 ∨ w = 1 := by
                  rw [eq32, eq32, e0, e1]; omega
                have hlow : ∀ p q, p < 16 → q < 16 → -164970 ≤ (x'.1 43 (16 * p + q)).toInt := fun p q hp hq => by
                  by_cases c : (x'.1 43 (16 * p + q)).toInt = 999999
                  · omega
                  · exact (kk.2.2 p q hp hq c).1
                rcases hw with rfl | rfl
                · rw [if_pos rfl, if_neg (show ¬ (0 : Int32) = 1 by decide), hmo b' a' (by omega) (by omega), bpE, idx16 (by omega) (by omega), gdN (by omega) (by omega), clampN (by omega)]
                  have : Int32.toInt64 (-(x'.1 43 (16 * b' + a'))) = -(m'.2.1 19 (16 * b' + a')) := by
                    have z := hlow b' a' (by omega) (by omega)
                    have z2 := hcell b' a' (by omega) (by omega)
                    rw [eq64, i2l_toInt, neg32 (by omega), neg64 (by omega), z2]
                  rw [this]
                  exact ⟨_, x', m', rfl, rfl, hinv⟩
                · rw [if_neg ne10, if_pos rfl, hmo a' b' (by omega) (by omega), bpE, idx16 (by omega) (by omega), gdN (by omega) (by omega), clampN (by omega)]
                  have : Int32.toInt64 (x'.1 43 (16 * a' + b')) = m'.2.1 19 (16 * a' + b') := by
                    rw [eq64, i2l_toInt, hcell a' b' (by omega) (by omega)]
                  rw [this]
                  exact ⟨_, x', m', rfl, rfl, hinv⟩
          · simp only [iz_pos g1, iz_pos g2, iz_pos g4, iz_neg g5, if_neg g3, if_neg ne10, if_true]
            exact same
        · simp only [iz_pos g1, iz_pos g2, iz_neg g4, if_neg g3, if_neg ne10, if_true]
          exact same
    · simp only [iz_pos g1, iz_neg g2, if_neg ne10, if_true]
      exact same
  · simp only [iz_neg g1, if_true]
    exact same

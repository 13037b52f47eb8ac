theorem mkRS {nc nr tc rid : Nat} {x m x' m' : St} (hA : A9 PAt nc nr tc x m) (hrid : rid < tc) (hr4 : m.1 0 4 = nI rid) (hx : ∀ c, c < 31 ∨ 36 < c → x'.1 c = x.1 c) (h32 : seatsOk nr (x'.1 32) (m'.1 8)) (h7 : x'.1 31 7 = wAcc (m'.1 8) (m'.1 4) 8 + 200) (hr : x'.2.2.1 31 2 = some (66 + 2 * rid)) (hl : x'.2.2.2 = x.2.2.2) (hm : ∀ c, c ≠ 0 → c ≠ 8 → c ≠ 13 → m'.1 c = m.1 c) (hm0 : ∀ j, j < 17 → m'.1 0 j = m.1 0 j) : RS nc nr tc rid x' m' := by
  obtain ⟨h1, ⟨b1, b2, b3, b4, b5, b6⟩, h3, h4, ⟨t1, t2, t3, t4, t5, t6, t7, t8, t9⟩, h6, h7', h8, h9⟩ := hA
  obtain ⟨c1, n, c2, c3, c4⟩ := t7 rid hrid
  refine ⟨h1.cg (fun k p q => hx k (by omega)) (hm0 11 (by omega)) (fun k p q => hm k (by omega) (by omega) (by omega)), ?_, ?_, ?_, ?_, h32, ⟨t1, t3, hrid⟩, ?_, hr, ⟨n, c2, ?_, ?_⟩, h7⟩
  · rw [hx 8 (by omega), hm 9 (by omega) (by omega) (by omega)]; exact b2
  · rw [hx 9 (by omega), hm 10 (by omega) (by omega) (by omega)]; exact b3
  · rw [hx 6 (by omega), hm0 15 (by omega)]; exact b4
  · rw [hx 6 (by omega), hm0 16 (by omega)]; exact ⟨b5, b6⟩
  · rw [hm0 4 (by omega)]; exact hr4
  · rw [hm 2 (by omega) (by omega) (by omega)]; exact c3
  · rw [hm 1 (by omega) (by omega) (by omega), hx _ (by omega), hx _ (by omega), hl]; exact c4
/-- a row begins, as the boat is -/
theorem start_row {nc nr tc rid : Nat} {x m : St} (hA : A9 PAt nc nr tc x m) (hrid : rid < tc) (hr4 : m.1 0 4 = nI rid) : ∃ x' m', f_X1_begin x (66 + 2 * rid) = some x' ∧ f_X12_begins m = some m' ∧ RS nc nr tc rid x' m' ∧ RD nr 0 x' m' ∧ FRw tc x m x' m' ∧ (m'.2.1 0 38).toInt = 0 := by
  obtain ⟨h1, h2, h3, h4, h5, h6, h7, h8, h9⟩ := id hA
  obtain ⟨r1, r2, r3, r4⟩ := id h1
  obtain ⟨x', p1, p2, p3, p4, p5, p6, p7, p8, p9, p10, p11, p12, p13, p14⟩ := begin_eq (cr := 66 + 2 * rid) r1 r2 (fun k hk => by rw [(h2.1 k hk).1]; exact (h2.1 k hk).2)
  obtain ⟨m', q1, q2, q3, q4, q5, q6, q7, q8, q9, q10⟩ := begins_eq r1 r3
  have hF : FRw tc x m x' m' := ⟨fun c hc => p2 c (by omega) (by omega) (by omega), p14, p13 19 (by omega), Or.inr ⟨rid, hrid, p12⟩, q2, fun j hj => q3 j (by omega) (by omega)⟩
  refine ⟨x', m', p1, q1, mkRS hA hrid hr4 (fun c hc => p2 c (by omega) (by omega) (by omega)) (fun k hk => ?_) ?_ p12 p14 (fun c a b d => q2 c a d) (fun j hj => q3 j (by omega) (by omega)), ⟨fun i hi => ?_, ⟨by rw [p7, q4], by rw [q4]; exact ⟨by decide, by decide⟩⟩, ⟨p6, q5⟩, ⟨by rw [p8, q7], by rw [q7]; exact ⟨by decide, by decide⟩⟩, by rw [p9, q8], by rw [p10, q9], by rw [p11, q10]⟩, hF, by rw [q8]; rfl⟩
  · rw [p3 k hk, q2 8 (by omega) (by omega)]; exact h2.1 k hk
  · rw [p5, q2 8 (by omega) (by omega), q2 4 (by omega) (by omega)]
    refine congrArg (· + 200) (wAcc_cg 8 fun i hi => ⟨(h2.1 i hi).1, ?_⟩)
    rcases (h2.1 i hi).2 with e | ⟨j, hj, e⟩
    · exact Or.inl e
    · right
      rw [e, clampN (by omega)]
      exact (r4 j hj).1.1
  · rw [p4 i (by omega), q6 i hi, (r4 i hi).1.2.2.1]
    exact ⟨rfl, (r4 i hi).2.2.2.1⟩
/-- a plan gone through -/
theorem row_l {nc nr tc rid p n : Nat} (hp : p < 8) (hn : n ≤ 200) : ∀ (d f i : Nat) (x m : St), i + d = n → d < f → RS nc nr tc rid x m → RD nr i x m → m.1 11 p = nI n → (∀ j, j < n → x.1 (23 + p) j = m.1 12 (200 * p + j)) → ∃ x' m', f_X1_pullAll_l2 (23 + p) (nI n) nc f (nI i) x = some x' ∧ f_X12_goes_l6 (nI p) f (nI i) m = some m' ∧ FRs x m x' m' ∧ RD nr n x' m' := by
  intro d
  induction d with
  | zero =>
    intro f i x m hi hf hS hD h1 h2
    obtain ⟨f, rfl⟩ : ∃ g, f = g + 1 := ⟨f - 1, by omega⟩
    have hin : i = n := by omega
    subst hin
    have : nI i ≤ nI i := by rw [le_nI (by omega), nI_rng (by omega)]; omega
    refine ⟨x, m, by rw [f_X1_pullAll_l2, if_pos this], by rw [f_X12_goes_l6, gdN (by omega) (by omega), nmE, clampN (by omega), h1, if_pos this], FRs.rfl' x m, hD⟩
  | succ d ih =>
    intro f i x m hi hf hS hD h1 h2
    obtain ⟨f, rfl⟩ : ∃ g, f = g + 1 := ⟨f - 1, by omega⟩
    have hn1 : ¬ nI n ≤ nI i := by rw [le_nI (by omega), nI_rng (by omega)]; omega
    have hn2 : ¬ (200 : Int32) ≤ nI i := by rw [le_nI (by omega), show (200 : Int32).toInt = 200 from rfl]; omega
    have ei : (200 : Int32) * nI p + nI i = nI (200 * p + i) := by
      rw [show (200 : Int32) = nI 200 from rfl, mul_nI 200 p (by omega) (by omega) (by omega), nI_add]
    obtain ⟨x1, m1, q1, q2, q3, q4, q5, q6⟩ := pull_once (κ := m.1 12 (200 * p + i)) hS hD (by omega)
    obtain ⟨x', m', i1, i2, i3, i4⟩ := ih f (i + 1) x1 m1 (by omega) (by omega) (q3.rs hS) q4 (by rw [q3.2.2.2.1 11 (by omega) (by omega)]; exact h1) (fun j hj => by rw [q3.1 _ (by omega), q3.2.2.2.1 12 (by omega) (by omega)]; exact h2 j hj)
    refine ⟨x', m', ?_, ?_, q3.trans i3, i4⟩
    · rw [f_X1_pullAll_l2, if_neg hn1, if_neg hn2, gdN (by omega) (by omega), nmE, clampN (by omega), h2 i (by omega), q1, bdvE, nI_1]
      exact i1
    · rw [f_X12_goes_l6, gdN (by omega) (by omega), nmE, clampN (show p < 1000000 by omega), h1, if_neg hn1, nmE, ei, gdN (by omega) (by omega), nmE, clampN (by omega), q2, bdvE, nI_1]
      exact i2
theorem ruleOf {nc nr tc : Nat} {x m : St} (hA : A9 PAt nc nr tc x m) : ∃ rid, rid < tc ∧ rid < 6 ∧ x.1 0 10 = nI rid ∧ m.1 0 4 = nI rid ∧ x.2.2.1 19 rid = some (66 + 2 * rid) ∧ shX (66 + 2 * rid) = (0, 6) ∧ 66 + 2 * rid + 1 < nc := by
  obtain ⟨h1, h2, h3, h4, ⟨t1, t2, t3, t4, t5, ⟨r, a, b, c⟩, t7, t8, t9⟩, h6⟩ := hA
  exact ⟨r, a, by omega, b, c, (t7 r a).1, shRule, by omega⟩
theorem row_all {nc nr tc np p : Nat} {x m : St} (hA : A9 PAt nc nr tc x m) (q1 : np ≤ 8) (q4 : ∀ p, p < np → ∃ n, n ≤ 200 ∧ x.1 22 p = nI n ∧ m.1 11 p = nI n ∧ ∀ i, i < n → x.1 (23 + p) i = m.1 12 (200 * p + i) ∧ rng (m.1 12 (200 * p + i)) 0 5) (hp : p < np) : ∃ x' m' n, f_X11_rowBy nc x (nI p) = some x' ∧ f_X12_goes m (nI p) = some m' ∧ FRw tc x m x' m' ∧ RD nr n x' m' ∧ n ≤ 200 := by
  obtain ⟨rid, a1, a2, a3, a4, a5, a6⟩ := ruleOf hA
  obtain ⟨n, n1, n2, n3, n4⟩ := q4 p hp
  obtain ⟨x1, m1, b1, b2, b3, b4, b5, _⟩ := start_row hA a1 a4
  obtain ⟨x', m', c1, c2, c3, c4⟩ := row_l (show p < 8 by omega) n1 n FU 0 x1 m1 (by omega) (by unfold FU; omega) b3 b4 (by rw [b5.2.2.2.2.1 11 (by omega) (by omega)]; exact n3) (fun j hj => by rw [b5.1 _ (by omega), b5.2.2.2.2.1 12 (by omega) (by omega)]; exact (n4 j hj).1)
  rw [show nI 0 = 0 from rfl] at c1 c2
  refine ⟨x', m', n, ?_, ?_, b5.trans (FRw.of c3), c4, n1⟩
  · rw [f_X11_rowBy, nmE, a3, gdN a2 (by omega), clampN (by omega), a5, moE, gd_pos a6, b1, bdvE, gdN (by omega) (by omega), gdN (by omega) (by omega), nmE, clampN (by omega), b5.1 22 (by omega), n2, f_X1_pullAll, c1, bdvE]
  · rw [f_X12_goes, b2, bdvE, c2]
theorem p_row : P_row (InvP PAt) := by
  intro nc x m pl w hI
  obtain ⟨nr, tc, hA⟩ := id hI
  obtain ⟨h1, h2, h3, h4, h5, ⟨np, q1, q2, q3, q4⟩, h7, h8, h9⟩ := id hA
  have e0 : (0 : Int32).toInt = 0 := rfl
  have e4 : (4 : Int32).toInt = 4 := rfl
  have l0 : (0 : Int64).toInt = 0 := rfl
  have l4 : (4 : Int64).toInt = 4 := rfl
  unfold f_X11_row f_X12_row
  rw [xPlan (m := m) q1 q2, mPlan q1 q3, w_in, m_in, e0, e4, l0, l4]
  simp only [bpE]
  by_cases hp : 0 ≤ pl.toInt ∧ pl.toInt ≤ (np : Int) - 1
  · by_cases hw : 0 ≤ w.toInt ∧ w.toInt ≤ 4
    · obtain ⟨p, hp2, rfl⟩ := of_rng (n := np) hp.1 (by omega)
      obtain ⟨x', m', n, a1, a2, a3, a4, a5⟩ := row_all hA q1 q4 hp2
      obtain ⟨d1, ⟨d2, d2'⟩, ⟨d3, d3'⟩, ⟨d4, d4'⟩, d5, d6, d7⟩ := a4
      rw [iz_pos hp, iz_pos hw, a1, a2]
      simp only [if_neg ne10, bdvE, nmE, d2, d4, d5, d6, d7]
      have fin := fun r : Int64 => (⟨r, x', m', rfl, rfl, nr, tc, a3.a9 hA⟩ : ∃ (r' : Int64) (σx' σm' : St), some (r, x') = some (r', σx') ∧ some (r, m') = some (r', σm') ∧ InvP PAt nc σx' σm')
      repeat' split
      all_goals exact fin _
    · rw [iz_pos hp, iz_neg hw]
      simp only [if_neg ne10, if_true]
      exact ⟨_, x, m, rfl, rfl, hI⟩
  · rw [iz_neg hp]
    exact ⟨_, x, m, rfl, rfl, hI⟩
theorem p_left : P_left (InvP PAt) := by
  intro nc x m pl w hI
  obtain ⟨nr, tc, hA⟩ := id hI
  obtain ⟨h1, h2, h3, h4, h5, ⟨np, q1, q2, q3, q4⟩, h7, h8, h9⟩ := id hA
  obtain ⟨r1, r2, r3, r4⟩ := id h1
  unfold f_X11_left f_X12_left
  rw [xPlan (m := m) q1 q2, mPlan q1 q3, xRower r1 r2, mRower r1 r3]
  simp only [bpE]
  by_cases hp : 0 ≤ pl.toInt ∧ pl.toInt ≤ (np : Int) - 1
  · by_cases hw : 0 ≤ w.toInt ∧ w.toInt ≤ (nr : Int) - 1
    · obtain ⟨p, hp2, rfl⟩ := of_rng (n := np) hp.1 (by omega)
      obtain ⟨i, hi, rfl⟩ := of_rng (n := nr) hw.1 (by omega)
      obtain ⟨x', m', n, a1, a2, a3, a4, a5⟩ := row_all hA q1 q4 hp2
      rw [iz_pos hp, iz_pos hw, a1, a2]
      simp only [if_neg ne10, bdvE, nmE, gdN (show i < 16 by omega) (show 16 ≤ 1000000 by omega), clampN (show i < 1000000 by omega)]
      rw [(a4.1 i hi).1]
      exact ⟨_, x', m', rfl, rfl, nr, tc, a3.a9 hA⟩
    · rw [iz_pos hp, iz_neg hw]
      simp only [if_neg ne10, if_true]
      exact ⟨_, x, m, rfl, rfl, hI⟩
  · rw [iz_neg hp]
    exact ⟨_, x, m, rfl, rfl, hI⟩
theorem rown_l {nr : Nat} (h16 : nr ≤ 16) : ∀ (d f k : Nat) (m : St), m.1 0 11 = nI nr → k + d = nr → d < f → ∃ m', (∀ K : St → Option (Int64 × St), f_X12_rown_l19 K f (nI k) m = K m') ∧ (∀ c, c ≠ 6 → m'.1 c = m.1 c) ∧ m'.2 = m.2 ∧ (∀ j, k ≤ j → j < nr → m'.1 6 j = m.1 13 j) ∧ (∀ j, j < k → m'.1 6 j = m.1 6 j) := by
  intro d
  induction d with
  | zero =>
    intro f k m h0 hk hf
    obtain ⟨f, rfl⟩ : ∃ g, f = g + 1 := ⟨f - 1, by omega⟩
    have : nI nr ≤ nI k := by rw [le_nI (by omega), nI_rng (by omega)]; omega
    exact ⟨m, fun K => by rw [f_X12_rown_l19, nmE, h0, if_pos this], fun _ _ => rfl, rfl, fun j a b => by omega, fun _ _ => rfl⟩
  | succ d ih =>
    intro f k m h0 hk hf
    obtain ⟨f, rfl⟩ : ∃ g, f = g + 1 := ⟨f - 1, by omega⟩
    have : ¬ nI nr ≤ nI k := by rw [le_nI (by omega), nI_rng (by omega)]; omega
    obtain ⟨m', q1, q2, q3, q4, q5⟩ := ih f (k + 1) (sI m 6 k (m.1 13 k)) (by rw [sI_ro _ 6 k _ 0 (by omega)]; exact h0) (by omega) (by omega)
    refine ⟨m', fun K => ?_, fun c hc => by rw [q2 c hc, sI_ro _ 6 k _ c hc], by rw [q3]; rfl, fun j j1 j2 => ?_, fun j hj => ?_⟩
    · rw [f_X12_rown_l19, nmE, h0, if_neg this, gdN (by omega) (by omega), nmE, gdN (by omega) (by omega), nmE, clampN (by omega), nI_1]
      exact q1 K
    · by_cases e : j = k
      · subst e
        rw [q5 j (by omega), sI_at]
      · rw [q4 j (by omega) j2, sI_ro _ 6 k _ 13 (by omega)]
    · rw [q5 j (by omega), sI_rne _ 6 k _ j (by omega)]
theorem p_rown : P_rown (InvP PAt) := by
  intro nc x m pl hI
  obtain ⟨nr, tc, hA⟩ := id hI
  obtain ⟨_, _, _, _, _, ⟨np, q1, q2, q3, q4⟩, _⟩ := id hA
  unfold f_X11_rown f_X12_rown
  rw [xPlan (m := m) q1 q2, mPlan q1 q3]
  simp only [bpE]
  by_cases hp : 0 ≤ pl.toInt ∧ pl.toInt ≤ (np : Int) - 1
  · obtain ⟨p, hp2, rfl⟩ := of_rng (n := np) hp.1 (by omega)
    obtain ⟨x', m', n, a1, a2, a3, a4, a5⟩ := row_all hA q1 q4 hp2
    obtain ⟨h1, h2, h3, h4, h5, h6, h7, h8, h9⟩ := a3.a9 hA
    obtain ⟨r1, r2, r3, r4⟩ := id h1
    obtain ⟨M, b1, b2, b3, b4, b5⟩ := rown_l r1 nr FU 0 m' r3 (by omega) (by unfold FU; omega)
    obtain ⟨d1, _, _, ⟨d4, d4'⟩, _⟩ := a4
    rw [show nI 0 = 0 from rfl] at b1
    rw [iz_pos hp, a1, a2]
    simp only [if_neg ne10, bdvE, g16, nmE, b1]
    generalize hX : sA x' 4 (va_cpy (x'.1 36) (x'.1 4) (Int32.toNatClampNeg 0) (Int32.toNatClampNeg 0) (Int32.toNatClampNeg 16)) = X
    have hX2 : X.2 = x'.2 := by rw [← hX]; rfl
    have hxo : ∀ k, k ≠ 4 → X.1 k = x'.1 k := fun k hk => by rw [← hX, sA_ro _ 4 _ k hk]
    have hmo : ∀ k, k ≠ 6 → M.1 k = m'.1 k := b2
    have hm0 : ∀ j, j ≠ 1000 → M.1 0 j = m'.1 0 j := fun j hj => by rw [hmo 0 (by omega)]
    have hx0 : ∀ j, j ≠ 1000 → X.1 0 j = x'.1 0 j := fun j hj => by rw [hxo 0 (by omega)]
    have hx37 : X.1 37 4 = x'.1 37 4 := by rw [hxo 37 (by omega)]
    have hr19 : X.2.2.1 19 = x'.2.2.1 19 := by rw [hX2]
    have hr31 : X.2.2.1 31 2 = x'.2.2.1 31 2 := by rw [hX2]
    have hl : X.2.2.2 = x'.2.2.2 := by rw [hX2]
    refine ⟨M.2.1 0 37, X, M, by rw [hX2, b3, d4], rfl, nr, tc, ?_, h2.cg (fun k a b => hxo k (by omega)) (hm0 15 (by omega)) (hm0 16 (by omega)) (fun k a b => hmo k (by omega)), h3.cg (hx0 4 (by omega)) (hx0 5 (by omega)) (fun k a b => hxo k (by omega)) (fun j a b => hm0 j (by omega)) (fun k a b => hmo k (by omega)), h4.cg (hxo 15 (by omega)) (hxo 16 (by omega)) (hm0 6 (by omega)) (hmo 3 (by omega)), h5.cg (hx0 9 (by omega)) (hx0 10 (by omega)) (fun k a => hxo k (by omega)) hr19 hr31 hl (hm0 3 (by omega)) (hm0 4 (by omega)) (hmo 1 (by omega)) (hmo 2 (by omega)), h6.cg (fun k a b => hxo k (by omega)) (hm0 33 (by omega)) (hmo 11 (by omega)) (hmo 12 (by omega)), h7.cg hx37 (fun k a b => hxo k (by omega)) (hm0 46 (by omega)) (fun k a b => hmo k (by omega)), h8.cg (hxo 56 (by omega)) (hxo 57 (by omega)) (hm0 49 (by omega)) (hmo 20 (by omega)), h9.cg (fun k a b => hxo k (by omega)) (fun k a b => hmo k (by omega))⟩
    refine ⟨r1, by rw [hxo 1 (by omega)]; exact r2, by rw [hm0 11 (by omega)]; exact r3, fun i hi => ?_⟩
    obtain ⟨⟨v1, v2, v3, v4⟩, v5, v6, v7, v8⟩ := r4 i hi
    have x4 : X.1 4 i = x'.1 36 i := by rw [← hX, sA_row, c16, cpy_in (by omega)]
    rw [hxo 2 (by omega), hxo 3 (by omega), hxo 5 (by omega), hmo 4 (by omega), hmo 5 (by omega), hmo 7 (by omega), x4, b4 i (by omega) hi]
    exact ⟨⟨v1, v2, (d1 i hi).1, v4⟩, v5, v6, (d1 i hi).2, v8⟩
  · rw [iz_neg hp]
    exact ⟨_, x, m, rfl, rfl, hI⟩

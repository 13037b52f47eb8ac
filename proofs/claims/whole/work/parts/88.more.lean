theorem FRw.m' {tc : Nat} {x m x' m' : St} (h : FRw tc x m x' m') : FRw tc x m x m' := ⟨fun _ _ => rfl, rfl, rfl, Or.inl rfl, h.2.2.2.2.1, h.2.2.2.2.2⟩
theorem FRw.rfl' (tc : Nat) (x m : St) : FRw tc x m x m := ⟨fun _ _ => rfl, rfl, rfl, Or.inl rfl, fun _ _ _ => rfl, fun _ _ => rfl⟩
theorem changes_eq {a b : Nat} (ha : a < 8) (hb : b < 8) (hab : a ≠ b) (m : St) : ∃ m', f_X12_changes m (nI a) (nI b) = some m' ∧ (∀ c, c ≠ 8 → m'.1 c = m.1 c) ∧ m'.2 = m.2 ∧ (∀ j, m'.1 8 j = if j = b then m.1 8 a else if j = a then m.1 8 b else m.1 8 j) := by
  unfold f_X12_changes
  simp only [gdN ha (show 8 ≤ 1000000 by omega), gdN hb (show 8 ≤ 1000000 by omega), nmE, clampN (show a < 1000000 by omega), clampN (show b < 1000000 by omega)]
  refine ⟨_, rfl, fun c hc => by rw [sI_ro _ 8 _ _ c hc, sI_ro _ 8 _ _ c hc], rfl, fun j => ?_⟩
  simp only [sI_rd, true_and]
theorem changeSeats_eq {a b : Nat} (ha : a < 8) (hb : b < 8) (hab : a ≠ b) (x : St) : ∃ x', f_X1_changeSeats x (nI a) (nI b) = some x' ∧ (∀ c, c ≠ 32 → x'.1 c = x.1 c) ∧ x'.2 = x.2 ∧ (∀ j, x'.1 32 j = if j = b then x.1 32 a else if j = a then x.1 32 b else x.1 32 j) := by
  unfold f_X1_changeSeats
  simp only [gdN ha (show 8 ≤ 1000000 by omega), gdN hb (show 8 ≤ 1000000 by omega), nmE, clampN (show a < 1000000 by omega), clampN (show b < 1000000 by omega)]
  refine ⟨_, rfl, fun c hc => by rw [sI_ro _ 32 _ _ c hc, sI_ro _ 32 _ _ c hc], rfl, fun j => ?_⟩
  simp only [sI_rd, true_and]
/-- a row with two seats changed -/
theorem chg_row {nc nr tc np p a b : Nat} {x m : St} (hA : A9 PAt nc nr tc x m) (q1 : np ≤ 8) (q4 : ∀ p, p < np → ∃ n, n ≤ 200 ∧ x.1 22 p = nI n ∧ m.1 11 p = nI n ∧ ∀ i, i < n → x.1 (23 + p) i = m.1 12 (200 * p + i) ∧ rng (m.1 12 (200 * p + i)) 0 5) (hp : p < np) (ha : a < 8) (hb : b < 8) (hab : a ≠ b) : ∃ x' m' W, f_X11_wayIfChanged nc x (nI p) (nI a) (nI b) = some (W, x') ∧ (∀ now, f_X12_moreOf m (nI p) (nI a) (nI b) now = some (W - now, m')) ∧ FRw tc x m x' m' ∧ 0 ≤ W.toInt ∧ W.toInt ≤ 19999800 := by
  obtain ⟨h1, h2, h3, h4, h5, h6, h7, h8, h9⟩ := id hA
  obtain ⟨r1, r2, r3, r4⟩ := id h1
  obtain ⟨rid, a1, a2, a3, a4, a5, a6⟩ := ruleOf hA
  obtain ⟨n, n1, n2, n3, n4⟩ := q4 p hp
  obtain ⟨x1, p1, p2, p3, p4, p5, p6, p7, p8, p9, p10, p11, p12, p13, p14⟩ := begin_eq (cr := 66 + 2 * rid) r1 r2 (fun k hk => by rw [(h2.1 k hk).1]; exact (h2.1 k hk).2)
  obtain ⟨x2, s1, s2, s3, s4⟩ := changeSeats_eq ha hb hab x1
  obtain ⟨ms, t1, t2, t3, t4⟩ := changes_eq ha hb hab m
  obtain ⟨m1, u1, u2, u3, u4, u5, u6, u7, u8, u9, u10⟩ := begins_eq (m := ms) r1 (by rw [t2 0 (by omega)]; exact r3)
  have m1o : ∀ c, c ≠ 0 → c ≠ 8 → c ≠ 13 → m1.1 c = m.1 c := fun c c1 c2 c3 => by rw [u2 c c1 c3, t2 c c2]
  have m10 : ∀ j, j ≠ 36 → j ≠ 41 → m1.1 0 j = m.1 0 j := fun j j1 j2 => by rw [u3 j j1 j2, t2 0 (by omega)]
  have m18 : ∀ j, m1.1 8 j = if j = b then m.1 8 a else if j = a then m.1 8 b else m.1 8 j := fun j => by rw [u2 8 (by omega) (by omega), t4]
  have hseat : seatsOk nr (x2.1 32) (m1.1 8) := fun k hk => by
    rw [s4, m18]
    by_cases c1 : k = b
    · rw [if_pos c1, if_pos c1, p3 a ha]; exact h2.1 a ha
    · rw [if_neg c1, if_neg c1]
      by_cases c2 : k = a
      · rw [if_pos c2, if_pos c2, p3 b hb]; exact h2.1 b hb
      · rw [if_neg c2, if_neg c2, p3 k hk]; exact h2.1 k hk
  have hw : x2.1 31 7 = wAcc (m1.1 8) (m1.1 4) 8 + 200 := by
    rw [s2 31 (by omega), p5, m1o 4 (by omega) (by omega) (by omega), wAcc_swap ha hb hab (fun k hk => m18 k)]
    refine congrArg (· + 200) (wAcc_cg 8 fun i hi => ⟨(h2.1 i hi).1, ?_⟩)
    rcases (h2.1 i hi).2 with e | ⟨j, hj, e⟩
    · exact Or.inl e
    · right
      rw [e, clampN (by omega)]
      exact (r4 j hj).1.1
  have hS : RS nc nr tc rid x2 m1 := mkRS hA a1 a4 (fun c hc => by rw [s2 c (by omega), p2 c (by omega) (by omega) (by omega)]) hseat hw (by rw [s3]; exact p12) (by rw [s3]; exact p14) m1o (fun j hj => m10 j (by omega) (by omega))
  have hD : RD nr 0 x2 m1 := by
    unfold RD
    rw [s2 36 (by omega), s2 31 (by omega), s3, p6, p7, p8, p9, p10, p11, u4, u5, u7, u8, u9, u10]
    refine ⟨fun i hi => ?_, ⟨rfl, by decide, by decide⟩, ⟨rfl, rfl⟩, ⟨rfl, by decide, by decide⟩, rfl, rfl, rfl⟩
    rw [p4 i (by omega), u6 i hi, t2 6 (by omega), (r4 i hi).1.2.2.1]
    exact ⟨rfl, (r4 i hi).2.2.2.1⟩
  obtain ⟨x', m2, c1, c2, c3, c4⟩ := row_l (show p < 8 by omega) n1 n FU 0 x2 m1 (by omega) (by unfold FU; omega) hS hD (by rw [m1o 11 (by omega) (by omega) (by omega)]; exact n3) (fun j hj => by rw [s2 _ (by omega), p2 _ (by omega) (by omega) (by omega), m1o 12 (by omega) (by omega) (by omega)]; exact (n4 j hj).1)
  rw [show nI 0 = 0 from rfl] at c1 c2
  obtain ⟨m3, v1, v2, v3, v4⟩ := changes_eq ha hb hab m2
  obtain ⟨_, _, _, ⟨d4, d4', d4''⟩, _⟩ := c4
  refine ⟨x', m3, x'.2.1 31 11, ?_, fun now => ?_, ?_, by rw [d4]; exact d4', by rw [d4]; omega⟩
  · rw [f_X11_wayIfChanged, nmE, a3, gdN a2 (by omega), clampN (by omega), a5, moE, gd_pos a6, p1, bdvE, s1, bdvE, gdN (by omega) (by omega), gdN (by omega) (by omega), nmE, clampN (by omega), s2 22 (by omega), p2 22 (by omega) (by omega) (by omega), n2, f_X1_pullAll, c1, bdvE, nmE]
  · rw [f_X12_moreOf, t1, bdvE, f_X12_goes, u1, bdvE, c2, bdvE, v1, bdvE, nmE, v3, d4]
  · refine ⟨fun c hc => by rw [c3.1 c (by omega), s2 c (by omega), p2 c (by omega) (by omega) (by omega)], by rw [c3.2.2.1, s3, p14], by rw [c3.2.2.1, s3, p13 19 (by omega)], Or.inr ⟨rid, a1, by rw [c3.2.2.1, s3]; exact p12⟩, fun c e1 e2 => ?_, fun j hj => by rw [v2 0 (by omega), c3.2.2.2.2 j hj, m10 j (by omega) (by omega)]⟩
    by_cases e8 : c = 8
    · subst e8
      funext j
      rw [v4, c3.2.2.2.1 8 (by omega) (by omega), m18, m18, m18]
      by_cases j1 : j = b
      · rw [if_pos j1, if_neg hab, if_pos rfl, j1]
      · rw [if_neg j1]
        by_cases j2 : j = a
        · rw [if_pos j2, if_pos rfl, j2]
        · rw [if_neg j2, if_neg j1, if_neg j2]
    · rw [v2 c e8, c3.2.2.2.1 c e1 e2, m1o c e1 e8 e2]
theorem div10 {s : Int32} (h : 0 ≤ s.toInt) : (s / 10).toInt = s.toInt / 10 ∧ (s - s / 10 * 10).toInt = s.toInt % 10 := by
  have e : (10 : Int32).toInt = 10 := rfl
  have := bd32 s
  have hd : (s / 10).toInt = s.toInt / 10 := by
    rw [Int32.toInt_div, e, Int.tdiv_eq_ediv_of_nonneg h]
    exact Int.bmod_eq_of_le (by omega) (by omega)
  refine ⟨hd, ?_⟩
  have hm : (s / 10 * 10).toInt = s.toInt / 10 * 10 := by rw [mul32 (by rw [hd, e]; omega), hd, e]
  rw [sub32 (by rw [hm]; omega), hm]
  omega
theorem p_more : P_more (InvP PAt) := by
  intro nc x m pl s hI
  obtain ⟨nr, tc, hA⟩ := id hI
  obtain ⟨h1, h2, h3, h4, h5, ⟨np, q1, q2, q3, q4⟩, h7, h8, h9⟩ := id hA
  have e0 : (0 : Int32).toInt = 0 := rfl
  unfold f_X11_more f_X12_more
  rw [xPlan (m := m) q1 q2, mPlan q1 q3]
  simp only [bpE, nmE]
  by_cases hp : 0 ≤ pl.toInt ∧ pl.toInt ≤ (np : Int) - 1
  · rw [iz_pos hp]
    simp only [if_neg ne10]
    by_cases hs : 0 ≤ s
    · have hs2 : ¬ s < 0 := by rw [lt32]; rw [le32] at hs; omega
      rw [if_pos hs, if_neg hs2, xSeat, xSeat, mSeat, mSeat]
      simp only [bpE]
      by_cases c1 : 0 ≤ (s / 10).toInt ∧ (s / 10).toInt ≤ 7
      · rw [iz_pos c1]
        simp only [if_neg ne10]
        by_cases c2 : 0 ≤ (s - s / 10 * 10).toInt ∧ (s - s / 10 * 10).toInt ≤ 7
        · rw [iz_pos c2]
          simp only [if_neg ne10]
          by_cases c3 : s / 10 = s - s / 10 * 10
          · rw [if_pos c3, if_pos c3]; exact ⟨_, x, m, rfl, rfl, hI⟩
          · rw [if_neg c3, if_neg c3]
            obtain ⟨a, ha, ea⟩ := of_rng (n := 8) c1.1 (by omega)
            obtain ⟨b, hb, eb⟩ := of_rng (n := 8) c2.1 (by omega)
            rw [eb, ea] at c3
            rw [eb, ea]
            have hab : a ≠ b := fun e => c3 (by rw [e])
            obtain ⟨p, hp2, rfl⟩ := of_rng (n := np) hp.1 (by omega)
            obtain ⟨x', m', n, a1, a2, a3, a4, a5⟩ := row_all hA q1 q4 hp2
            have q4' : ∀ p, p < np → ∃ n, n ≤ 200 ∧ x'.1 22 p = nI n ∧ m'.1 11 p = nI n ∧ ∀ i, i < n → x'.1 (23 + p) i = m'.1 12 (200 * p + i) ∧ rng (m'.1 12 (200 * p + i)) 0 5 := fun p hp => by
              rw [a3.1 22 (by omega), a3.1 (23 + p) (by omega), a3.2.2.2.2.1 11 (by omega) (by omega), a3.2.2.2.2.1 12 (by omega) (by omega)]
              exact q4 p hp
            obtain ⟨x'', m'', W, b1, b2, b3, b4, b5⟩ := chg_row (a3.a9 hA) q1 q4' hp2 ha hb hab
            obtain ⟨_, _, _, ⟨d4, d4'⟩, _⟩ := a4
            rw [a1, a2]
            simp only [bdvE, b1, b2, bdE, d4]
            exact ⟨_, x'', m'', rfl, rfl, nr, tc, (a3.trans b3).a9 hA⟩
        · rw [iz_neg c2]
          simp only [if_true]
          exact ⟨_, x, m, rfl, rfl, hI⟩
      · rw [iz_neg c1]
        simp only [if_true]
        exact ⟨_, x, m, rfl, rfl, hI⟩
    · have hs2 : s < 0 := by rw [lt32]; rw [le32] at hs; omega
      rw [if_neg hs, if_pos hs2]; exact ⟨_, x, m, rfl, rfl, hI⟩
  · rw [iz_neg hp]
    exact ⟨_, x, m, rfl, rfl, hI⟩
/-- the best so far, told either way -/
def RelC (F : Int64) (bst : Int32) (most now : Int64) : Prop := (bst = -1 ∧ F = -4611686018427387904) ∨ ((∃ q, q < 100 ∧ bst = nI q) ∧ most = F - now ∧ 0 ≤ F.toInt ∧ F.toInt ≤ 19999800)
theorem change_in {nc nr tc np p a : Nat} {x m : St} {now : Int64} (hA : A9 PAt nc nr tc x m) (q1 : np ≤ 8) (q4 : ∀ p, p < np → ∃ n, n ≤ 200 ∧ x.1 22 p = nI n ∧ m.1 11 p = nI n ∧ ∀ i, i < n → x.1 (23 + p) i = m.1 12 (200 * p + i) ∧ rng (m.1 12 (200 * p + i)) 0 5) (hp : p < np) (ha : a < 8) (hnow : 0 ≤ now.toInt ∧ now.toInt ≤ 19999800) (hrow : ∃ x5, f_X11_rowBy nc x (nI p) = some x5 ∧ x5.2.1 31 11 = now) : ∀ (d f b : Nat) (F : Int64) (bst : Int32) (most : Int64) (x2 m2 : St), b + d = 8 → d < f → a < b → FRw tc x m x2 m2 → RelC F bst most now → ∃ F' bst' most' x' m', (∀ K : Int64 → Int32 → St → Option (Int64 × St), f_X11_change_l61 (nI p) nc now (nI a) K f F bst (nI b) x2 = K F' bst' x') ∧ (∀ K : Int32 → Int64 → St → Option (Int64 × St), f_X12_change_l54 (nI p) now (nI a) K f bst most (nI b) m2 = K bst' most' m') ∧ FRw tc x m x' m' ∧ RelC F' bst' most' now ∧ (b < 8 → bst' ≠ -1) ∧ (bst ≠ -1 → bst' ≠ -1) := by
  have e8 : (8 : Int32).toInt = 8 := rfl
  intro d
  induction d with
  | zero =>
    intro f b F bst most x2 m2 hb hf hab hF hR
    obtain ⟨f, rfl⟩ : ∃ g, f = g + 1 := ⟨f - 1, by omega⟩
    have : (8 : Int32) ≤ nI b := by rw [le_nI (by omega)]; omega
    exact ⟨F, bst, most, x2, m2, fun K => by rw [f_X11_change_l61, if_pos this], fun K => by rw [f_X12_change_l54, if_pos this], hF, hR, fun h => by omega, fun h => h⟩
  | succ d ih =>
    intro f b F bst most x2 m2 hb hf hab hF hR
    obtain ⟨f, rfl⟩ : ∃ g, f = g + 1 := ⟨f - 1, by omega⟩
    have hn8 : ¬ (8 : Int32) ≤ nI b := by rw [le_nI (by omega)]; omega
    have hb8 : b < 8 := by omega
    have hq4 : ∀ {y w : St}, FRw tc x m y w → ∀ p, p < np → ∃ n, n ≤ 200 ∧ y.1 22 p = nI n ∧ w.1 11 p = nI n ∧ ∀ i, i < n → y.1 (23 + p) i = w.1 12 (200 * p + i) ∧ rng (w.1 12 (200 * p + i)) 0 5 := fun {y w} hF p hp => by
      rw [hF.1 22 (by omega), hF.1 (23 + p) (by omega), hF.2.2.2.2.1 11 (by omega) (by omega), hF.2.2.2.2.1 12 (by omega) (by omega)]
      exact q4 p hp
    have e10 : (10 : Int32) * nI a + nI b = nI (10 * a + b) := by rw [show (10 : Int32) = nI 10 from rfl, mul_nI 10 a (by omega) (by omega) (by omega), nI_add]
    -- what comes with a way W, however the class came to it
    have go : ∀ (W : Int64) (x3 m3 : St), FRw tc x m x3 m3 → 0 ≤ W.toInt → W.toInt ≤ 19999800 → ∃ F' bst' most' x' m', (∀ K : Int64 → Int32 → St → Option (Int64 × St), (if W ≤ F then f_X11_change_l61 (nI p) nc now (nI a) K f F bst (nI (b + 1)) x3 else f_X11_change_l61 (nI p) nc now (nI a) K f W (nI (10 * a + b)) (nI (b + 1)) x3) = K F' bst' x') ∧ (∀ K : Int32 → Int64 → St → Option (Int64 × St), (if bst = -1 then f_X12_change_l54 (nI p) now (nI a) K f (nI (10 * a + b)) (W - now) (nI (b + 1)) m3 else if most < W - now then f_X12_change_l54 (nI p) now (nI a) K f (nI (10 * a + b)) (W - now) (nI (b + 1)) m3 else f_X12_change_l54 (nI p) now (nI a) K f bst most (nI (b + 1)) m3) = K bst' most' m') ∧ FRw tc x m x' m' ∧ RelC F' bst' most' now ∧ bst' ≠ -1 := by
      intro W x3 m3 g1 g2 g3
      have new : RelC W (nI (10 * a + b)) (W - now) now := Or.inr ⟨⟨10 * a + b, by omega, rfl⟩, rfl, g2, g3⟩
      have hnn : nI (10 * a + b) ≠ -1 := nI_nem (by omega)
      rcases hR with ⟨z1, z2⟩ | ⟨⟨q, hq, z1⟩, z2, z3, z4⟩
      · have c1 : ¬ W ≤ F := by rw [z2, le64, show (-4611686018427387904 : Int64).toInt = -4611686018427387904 from rfl]; omega
        obtain ⟨F', bst', most', x', m', i1, i2, i3, i4, i5, i6⟩ := ih f (b + 1) W (nI (10 * a + b)) (W - now) x3 m3 (by omega) (by omega) (by omega) g1 new
        exact ⟨F', bst', most', x', m', fun K => by rw [if_neg c1]; exact i1 K, fun K => by rw [if_pos z1]; exact i2 K, i3, i4, i6 hnn⟩
      · have hb1 : ¬ bst = -1 := by rw [z1]; exact nI_nem (by omega)
        have s1 : (F - now).toInt = F.toInt - now.toInt := sub64 (by omega)
        have s2 : (W - now).toInt = W.toInt - now.toInt := sub64 (by omega)
        by_cases c1 : W ≤ F
        · have c2 : ¬ most < W - now := by rw [z2, lt64, s1, s2]; rw [le64] at c1; omega
          obtain ⟨F', bst', most', x', m', i1, i2, i3, i4, i5, i6⟩ := ih f (b + 1) F bst most x3 m3 (by omega) (by omega) (by omega) g1 (Or.inr ⟨⟨q, hq, z1⟩, z2, z3, z4⟩)
          exact ⟨F', bst', most', x', m', fun K => by rw [if_pos c1]; exact i1 K, fun K => by rw [if_neg hb1, if_neg c2]; exact i2 K, i3, i4, i6 hb1⟩
        · have c2 : most < W - now := by rw [z2, lt64, s1, s2]; rw [le64] at c1; omega
          obtain ⟨F', bst', most', x', m', i1, i2, i3, i4, i5, i6⟩ := ih f (b + 1) W (nI (10 * a + b)) (W - now) x3 m3 (by omega) (by omega) (by omega) g1 new
          exact ⟨F', bst', most', x', m', fun K => by rw [if_neg c1]; exact i1 K, fun K => by rw [if_neg hb1, if_pos c2]; exact i2 K, i3, i4, i6 hnn⟩
    have hA2 := hF.a9 hA
    have h7 : ∀ k, x2.1 7 k = x.1 7 k := fun k => by rw [hF.1 7 (by omega)]
    by_cases hemp : x.1 7 a = -1 ∧ x.1 7 b = -1
    · -- both seats are empty: the class goes no row; the model's is the one as it is
      obtain ⟨x5, w1, w2⟩ := hrow
      have h2s := hA2.2.1.1
      have ma : m2.1 8 a = -1 := by rw [← (h2s a ha).1, h7]; exact hemp.1
      have mb : m2.1 8 b = -1 := by rw [← (h2s b hb8).1, h7]; exact hemp.2
      obtain ⟨ms, t1, t2, t3, t4⟩ := changes_eq ha hb8 (by omega) m2
      have ms8 : ms.1 8 = m2.1 8 := by
        funext j
        rw [t4]
        by_cases j1 : j = b
        · rw [if_pos j1, ma, j1, mb]
        · rw [if_neg j1]
          by_cases j2 : j = a
          · rw [if_pos j2, mb, j2, ma]
          · rw [if_neg j2]
      have ms1 : ms.1 = m2.1 := by
        funext c
        by_cases hc : c = 8
        · subst hc; exact ms8
        · exact t2 c hc
      have hF0 : FRw tc x m x ms := by
        have := hF.m'
        unfold FRw at this ⊢
        rw [ms1]; exact this
      obtain ⟨xa, m3, n, r1, r2, r3, r4, r5⟩ := row_all (hF0.a9 hA) q1 (hq4 hF0) hp
      rw [w1] at r1
      have hxa : x5 = xa := Option.some.inj r1
      obtain ⟨_, _, _, ⟨d4, d4'⟩, _⟩ := r4
      have hway : m3.2.1 0 37 = now := by rw [← d4, ← hxa, w2]
      have hm3 : ∀ c, c ≠ 0 → c ≠ 13 → m3.1 c = m2.1 c := fun c c1 c2 => by rw [r3.2.2.2.2.1 c c1 c2, ms1]
      obtain ⟨m4, v1, v2, v3, v4⟩ := changes_eq ha hb8 (by omega) m3
      have m48 : m4.1 8 = m2.1 8 := by
        funext j
        rw [v4, hm3 8 (by omega) (by omega)]
        by_cases j1 : j = b
        · rw [if_pos j1, ma, j1, mb]
        · rw [if_neg j1]
          by_cases j2 : j = a
          · rw [if_pos j2, mb, j2, ma]
          · rw [if_neg j2]
      have hmo : f_X12_moreOf m2 (nI p) (nI a) (nI b) now = some (now - now, m4) := by
        rw [f_X12_moreOf, t1, bdvE, r2, bdvE, v1, bdvE, nmE, v3, hway]
      have hF4 : FRw tc x m x2 m4 := by
        refine hF.trans ⟨fun _ _ => rfl, rfl, rfl, Or.inl rfl, fun c c1 c2 => ?_, fun j hj => ?_⟩
        · by_cases hc : c = 8
          · subst hc; exact m48
          · rw [v2 c hc, hm3 c c1 c2]
        · rw [v2 0 (by omega), r3.2.2.2.2.2 j hj, ms1]
      obtain ⟨F', bst', most', x', m', i1, i2, i3, i4, i5⟩ := go now x2 m4 hF4 hnow.1 hnow.2
      refine ⟨F', bst', most', x', m', fun K => ?_, fun K => ?_, i3, i4, fun _ => i5, fun _ => i5⟩
      · rw [← i1 K, f_X11_change_l61, if_neg hn8]
        simp only [gdN ha (show 8 ≤ 1000000 by omega), gdN hb8 (show 8 ≤ 1000000 by omega), nmE, jnE, clampN (show a < 1000000 by omega), clampN (show b < 1000000 by omega), h7, if_pos hemp.1, if_pos hemp.2, if_neg ne10, e10, nI_1]
      · rw [← i2 K, f_X12_change_l54, if_neg hn8, hmo]
        simp only [bdE, nmE, jnE, e10, nI_1]
    · obtain ⟨x3, m3, W, c1, c2, c3, c4, c5⟩ := chg_row hA2 q1 (hq4 hF) hp ha hb8 (by omega)
      obtain ⟨F', bst', most', x', m', i1, i2, i3, i4, i5⟩ := go W x3 m3 (hF.trans c3) c4 c5
      refine ⟨F', bst', most', x', m', fun K => ?_, fun K => ?_, i3, i4, fun _ => i5, fun _ => i5⟩
      · rw [← i1 K, f_X11_change_l61, if_neg hn8]
        simp only [gdN ha (show 8 ≤ 1000000 by omega), gdN hb8 (show 8 ≤ 1000000 by omega), nmE, jnE, clampN (show a < 1000000 by omega), clampN (show b < 1000000 by omega), h7, c1, bdE, if_neg ne10, if_true, e10, nI_1]
        by_cases y1 : x.1 7 a = -1
        · have y2 : ¬ x.1 7 b = -1 := fun e => hemp ⟨y1, e⟩
          rw [if_pos y1, if_neg y2]
        · rw [if_neg y1]
      · rw [← i2 K, f_X12_change_l54, if_neg hn8, c2]
        simp only [bdE, nmE, jnE, e10, nI_1]
theorem change_out {nc nr tc np p : Nat} {x m : St} {now : Int64} (hA : A9 PAt nc nr tc x m) (q1 : np ≤ 8) (q4 : ∀ p, p < np → ∃ n, n ≤ 200 ∧ x.1 22 p = nI n ∧ m.1 11 p = nI n ∧ ∀ i, i < n → x.1 (23 + p) i = m.1 12 (200 * p + i) ∧ rng (m.1 12 (200 * p + i)) 0 5) (hp : p < np) (hnow : 0 ≤ now.toInt ∧ now.toInt ≤ 19999800) (hrow : ∃ x5, f_X11_rowBy nc x (nI p) = some x5 ∧ x5.2.1 31 11 = now) : ∀ (d f a : Nat) (F : Int64) (bst : Int32) (most : Int64) (x2 m2 : St), a + d = 8 → d < f → FRw tc x m x2 m2 → RelC F bst most now → (a = 0 ∨ bst ≠ -1) → ∃ F' bst' most' x' m', (∀ K : Int64 → Int32 → St → Option (Int64 × St), f_X11_change_l48 (nI p) nc now K f F bst (nI a) x2 = K F' bst' x') ∧ (∀ K : Int32 → Int64 → St → Option (Int64 × St), f_X12_change_l41 (nI p) now K f bst most (nI a) m2 = K bst' most' m') ∧ FRw tc x m x' m' ∧ RelC F' bst' most' now ∧ bst' ≠ -1 := by
  have e8 : (8 : Int32).toInt = 8 := rfl
  intro d
  induction d with
  | zero =>
    intro f a F bst most x2 m2 hb hf hF hR h0
    obtain ⟨f, rfl⟩ : ∃ g, f = g + 1 := ⟨f - 1, by omega⟩
    have : (8 : Int32) ≤ nI a := by rw [le_nI (by omega)]; omega
    refine ⟨F, bst, most, x2, m2, fun K => by rw [f_X11_change_l48, if_pos this], fun K => by rw [f_X12_change_l41, if_pos this], hF, hR, ?_⟩
    rcases h0 with h | h
    · omega
    · exact h
  | succ d ih =>
    intro f a F bst most x2 m2 hb hf hF hR h0
    obtain ⟨f, rfl⟩ : ∃ g, f = g + 1 := ⟨f - 1, by omega⟩
    have hn8 : ¬ (8 : Int32) ≤ nI a := by rw [le_nI (by omega)]; omega
    obtain ⟨F1, b1, o1, x3, m3, i1, i2, i3, i4, i5, i6⟩ := change_in hA q1 q4 hp (show a < 8 by omega) hnow hrow (7 - a) FU (a + 1) F bst most x2 m2 (by omega) (by unfold FU; omega) (by omega) hF hR
    have hb1 : b1 ≠ -1 := by
      rcases h0 with h | h
      · exact i5 (by omega)
      · exact i6 h
    obtain ⟨F', b', o', x', m', k1, k2, k3, k4, k5⟩ := ih f (a + 1) F1 b1 o1 x3 m3 (by omega) (by omega) i3 i4 (Or.inr hb1)
    refine ⟨F', b', o', x', m', fun K => ?_, fun K => ?_, k3, k4, k5⟩
    · rw [← k1 K, f_X11_change_l48, if_neg hn8, nmE, nI_1, i1]
    · rw [← k2 K, f_X12_change_l41, if_neg hn8, nmE, nI_1, i2]
theorem p_change : P_change (InvP PAt) := by
  intro nc x m pl w hI
  obtain ⟨nr, tc, hA⟩ := id hI
  obtain ⟨h1, h2, h3, h4, h5, ⟨np, q1, q2, q3, q4⟩, h7, h8, h9⟩ := id hA
  have e0 : (0 : Int32).toInt = 0 := rfl
  have e4 : (1 : Int32).toInt = 1 := rfl
  have l0 : (0 : Int64).toInt = 0 := rfl
  have l4 : (1 : Int64).toInt = 1 := rfl
  unfold f_X11_change f_X12_change
  rw [xPlan (m := m) q1 q2, mPlan q1 q3, w_in, m_in, e0, e4, l0, l4]
  simp only [bpE]
  by_cases hp : 0 ≤ pl.toInt ∧ pl.toInt ≤ (np : Int) - 1
  · by_cases hw : 0 ≤ w.toInt ∧ w.toInt ≤ 1
    · obtain ⟨p, hp2, rfl⟩ := of_rng (n := np) hp.1 (by omega)
      obtain ⟨x', m', n, a1, a2, a3, a4, a5⟩ := row_all hA q1 q4 hp2
      obtain ⟨_, _, _, ⟨d4, d4', d4''⟩, _⟩ := a4
      obtain ⟨F', b', o', x'', m'', k1, k2, k3, k4, k5⟩ := change_out (now := x'.2.1 31 11) hA q1 q4 hp2 (by rw [d4]; omega) ⟨x', a1, rfl⟩ 8 FU 0 (-4611686018427387904) (-1) 0 x' m' (by omega) (by decide) a3 (Or.inl ⟨rfl, rfl⟩) (Or.inl rfl)
      rw [show nI 0 = 0 from rfl] at k1 k2
      rw [iz_pos hp, iz_pos hw, a1, a2]
      simp only [if_neg ne10, bdvE, nmE, ← d4, k1, k2]
      rcases k4 with ⟨z, _⟩ | ⟨z1, z2, _⟩
      · exact absurd z k5
      · by_cases w0 : w = 0
        · rw [if_pos w0, if_pos w0]; exact ⟨_, x'', m'', rfl, rfl, nr, tc, k3.a9 hA⟩
        · rw [if_neg w0, if_neg w0]; exact ⟨_, x'', m'', rfl, by rw [z2], nr, tc, k3.a9 hA⟩
    · rw [iz_pos hp, iz_neg hw]
      simp only [if_neg ne10, if_true]
      exact ⟨_, x, m, rfl, rfl, hI⟩
  · rw [iz_neg hp]
    exact ⟨_, x, m, rfl, rfl, hI⟩

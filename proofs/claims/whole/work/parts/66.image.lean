/-- the model's loops of image and back -/
theorem image_l39 {K : St → Option (Int32 × St)} : ∀ (d f k : Nat) (m : St), k + d = 8 → d < f → ∃ m', f_X12_image_l39 K f (nI k) m = K m' ∧ (∀ c, c ≠ 21 → c ≠ 22 → c ≠ 23 → m'.1 c = m.1 c) ∧ (∀ j, k ≤ j → j < 8 → m'.1 21 j = m.1 8 j ∧ m'.1 22 j = m.1 9 j ∧ m'.1 23 j = m.1 10 j) ∧ (∀ j, j < k → m'.1 21 j = m.1 21 j ∧ m'.1 22 j = m.1 22 j ∧ m'.1 23 j = m.1 23 j) := by
  have e8 : (8 : Int32).toInt = 8 := rfl
  intro d
  induction d with
  | zero =>
    intro f k m hk hf
    obtain ⟨f, rfl⟩ : ∃ g, f = g + 1 := ⟨f - 1, by omega⟩
    unfold f_X12_image_l39
    have : (8 : Int32) ≤ nI k := by rw [le_nI (by omega)]; omega
    rw [if_pos this]
    exact ⟨m, rfl, fun _ _ _ _ => rfl, fun j a b => by omega, fun _ _ => ⟨rfl, rfl, rfl⟩⟩
  | succ d ih =>
    intro f k m hk hf
    obtain ⟨f, rfl⟩ : ∃ g, f = g + 1 := ⟨f - 1, by omega⟩
    unfold f_X12_image_l39
    have : ¬ (8 : Int32) ≤ nI k := by rw [le_nI (by omega)]; omega
    rw [if_neg this]
    simp only [gdN (show k < 8 by omega) (show 8 ≤ 1000000 by omega), nm, clampN (show k < 1000000 by omega), nI_1]
    obtain ⟨m', q1, q2, q3, q4⟩ := ih f (k + 1) (sI (sI (sI m 21 k (m.1 8 k)) 22 k ((sI m 21 k (m.1 8 k)).1 9 k)) 23 k ((sI (sI m 21 k (m.1 8 k)) 22 k ((sI m 21 k (m.1 8 k)).1 9 k)).1 10 k)) (by omega) (by omega)
    refine ⟨m', q1, fun c c1 c2 c3 => ?_, fun j j1 j2 => ?_, fun j hj => ?_⟩
    · rw [q2 c c1 c2 c3, sI_ro _ 23 k _ c c3, sI_ro _ 22 k _ c c2, sI_ro _ 21 k _ c c1]
    · by_cases e : j = k
      · subst e
        obtain ⟨u1, u2, u3⟩ := q4 j (by omega)
        rw [u1, u2, u3]
        simp [sI_rd]
      · obtain ⟨u1, u2, u3⟩ := q3 j (by omega) j2
        rw [u1, u2, u3]
        simp [sI_rd]
    · obtain ⟨u1, u2, u3⟩ := q4 j (by omega)
      rw [u1, u2, u3]
      have : ¬ j = k := by omega
      simp [sI_rd, this]
theorem image_l89 {K : St → Option (Int32 × St)} {nr : Nat} (h16 : nr ≤ 16) : ∀ (d f k : Nat) (m : St), m.1 0 11 = nI nr → k + d = nr → d < f → ∃ m', f_X12_image_l89 K f (nI k) m = K m' ∧ (∀ c, c ≠ 24 → m'.1 c = m.1 c) ∧ (∀ j, k ≤ j → j < nr → m'.1 24 j = m.1 6 j) ∧ (∀ j, j < k → m'.1 24 j = m.1 24 j) := by
  intro d
  induction d with
  | zero =>
    intro f k m h0 hk hf
    obtain ⟨f, rfl⟩ : ∃ g, f = g + 1 := ⟨f - 1, by omega⟩
    have : nI nr ≤ nI k := by rw [le_nI (by omega), nI_rng (by omega)]; omega
    unfold f_X12_image_l89
    simp only [nm, h0, if_pos this]
    exact ⟨m, rfl, fun _ _ => rfl, fun j a b => by omega, fun _ _ => rfl⟩
  | succ d ih =>
    intro f k m h0 hk hf
    obtain ⟨f, rfl⟩ : ∃ g, f = g + 1 := ⟨f - 1, by omega⟩
    unfold f_X12_image_l89
    have : ¬ nI nr ≤ nI k := by rw [le_nI (by omega), nI_rng (by omega)]; omega
    simp only [nm, h0, if_neg this, gdN (show k < 16 by omega) (show 16 ≤ 1000000 by omega), clampN (show k < 1000000 by omega), nI_1]
    obtain ⟨m', q1, q2, q3, q4⟩ := ih f (k + 1) (sI m 24 k (m.1 6 k)) (by rw [sI_ro _ 24 k _ 0 (by omega)]; exact h0) (by omega) (by omega)
    refine ⟨m', q1, fun c c1 => by rw [q2 c c1, sI_ro _ 24 k _ c c1], fun j j1 j2 => ?_, fun j hj => ?_⟩
    · by_cases e : j = k
      · subst e
        rw [q4 j (by omega)]
        simp [sI_rd]
      · rw [q3 j (by omega) j2]
        simp [sI_rd]
    · rw [q4 j (by omega)]
      have : ¬ j = k := by omega
      simp [sI_rd, this]
theorem cpy_in {f g : Nat → Int32} {n i : Nat} (h : i < n) : va_cpy f g (Int32.toNatClampNeg 0) (Int32.toNatClampNeg 0) n i = f i := by
  unfold va_cpy
  have e : Int32.toNatClampNeg 0 = 0 := rfl
  rw [e, if_pos (by omega)]
  congr 1; omega
theorem cpy_out {f g : Nat → Int32} {n i : Nat} (h : n ≤ i) : va_cpy f g (Int32.toNatClampNeg 0) (Int32.toNatClampNeg 0) n i = g i := by
  unfold va_cpy
  have e : Int32.toNatClampNeg 0 = 0 := rfl
  rw [e, if_neg (by omega)]
theorem sA_ro (σ : St) (k : Nat) (f : Nat → Int32) (k' : Nat) (h : k' ≠ k) : (sA σ k f).1 k' = σ.1 k' := by
  unfold sA va_up; simp [h]
theorem c8 : Int32.toNatClampNeg 8 = 8 := rfl
theorem c16 : Int32.toNatClampNeg 16 = 16 := rfl
theorem g8 {ρ : Type} (P : Option ρ) : gd (¬ 0 < (0 : Int32) ∧ ¬ 0 < (0 : Int32) ∧ ¬ 8 < (0 : Int32) ∧ Int32.toNatClampNeg 0 + Int32.toNatClampNeg 8 ≤ 8 ∧ Int32.toNatClampNeg 0 + Int32.toNatClampNeg 8 ≤ 8) P = P := gd_pos (by decide) P
theorem g16 {ρ : Type} (P : Option ρ) : gd (¬ 0 < (0 : Int32) ∧ ¬ 0 < (0 : Int32) ∧ ¬ 16 < (0 : Int32) ∧ Int32.toNatClampNeg 0 + Int32.toNatClampNeg 16 ≤ 16 ∧ Int32.toNatClampNeg 0 + Int32.toNatClampNeg 16 ≤ 16) P = P := gd_pos (by decide) P
/-- the class's boats: one becomes the other -/
theorem become_b (x : St) : ∃ x', f_X0_become_b x = some x' ∧ (∀ c, c ≠ 10 → c ≠ 11 → c ≠ 12 → c ≠ 13 → x'.1 c = x.1 c) ∧ x'.2 = x.2 ∧ (∀ j, j < 8 → x'.1 11 j = x.1 7 j ∧ x'.1 12 j = x.1 8 j ∧ x'.1 13 j = x.1 9 j) ∧ x'.1 10 3 = x.1 6 3 ∧ x'.1 10 4 = x.1 6 4 := by
  unfold f_X0_become_b
  simp only [g8, nm]
  refine ⟨_, rfl, fun c c1 c2 c3 c4 => ?_, rfl, fun j hj => ?_, ?_, ?_⟩
  · rw [sI_ro _ 10 4 _ c c1, sI_ro _ 10 3 _ c c1, sA_ro _ 13 _ c c4, sA_ro _ 12 _ c c3, sA_ro _ 11 _ c c2]
  · rw [sI_ro _ 10 4 _ 11 (by omega), sI_ro _ 10 3 _ 11 (by omega), sI_ro _ 10 4 _ 12 (by omega), sI_ro _ 10 3 _ 12 (by omega), sI_ro _ 10 4 _ 13 (by omega), sI_ro _ 10 3 _ 13 (by omega)]
    rw [sA_row, sA_ro _ 13 _ 12 (by omega), sA_row, sA_ro _ 13 _ 11 (by omega), sA_ro _ 12 _ 11 (by omega), sA_row, c8, cpy_in hj, cpy_in hj, cpy_in hj]
    rw [sA_ro _ 12 _ 9 (by omega), sA_ro _ 11 _ 9 (by omega), sA_ro _ 11 _ 8 (by omega)]
    exact ⟨rfl, rfl, rfl⟩
  · rw [sI_rne _ 10 4 _ 3 (by omega), sI_at, sA_ro _ 13 _ 6 (by omega), sA_ro _ 12 _ 6 (by omega), sA_ro _ 11 _ 6 (by omega)]
  · rw [sI_at, sI_ro _ 10 3 _ 6 (by omega), sA_ro _ 13 _ 6 (by omega), sA_ro _ 12 _ 6 (by omega), sA_ro _ 11 _ 6 (by omega)]
theorem become_a (x : St) : ∃ x', f_X0_become_a x = some x' ∧ (∀ c, c ≠ 6 → c ≠ 7 → c ≠ 8 → c ≠ 9 → x'.1 c = x.1 c) ∧ x'.2 = x.2 ∧ (∀ j, j < 8 → x'.1 7 j = x.1 11 j ∧ x'.1 8 j = x.1 12 j ∧ x'.1 9 j = x.1 13 j) ∧ x'.1 6 3 = x.1 10 3 ∧ x'.1 6 4 = x.1 10 4 := by
  unfold f_X0_become_a
  simp only [g8, nm]
  refine ⟨_, rfl, fun c c1 c2 c3 c4 => ?_, rfl, fun j hj => ?_, ?_, ?_⟩
  · rw [sI_ro _ 6 4 _ c c1, sI_ro _ 6 3 _ c c1, sA_ro _ 9 _ c c4, sA_ro _ 8 _ c c3, sA_ro _ 7 _ c c2]
  · rw [sI_ro _ 6 4 _ 7 (by omega), sI_ro _ 6 3 _ 7 (by omega), sI_ro _ 6 4 _ 8 (by omega), sI_ro _ 6 3 _ 8 (by omega), sI_ro _ 6 4 _ 9 (by omega), sI_ro _ 6 3 _ 9 (by omega)]
    rw [sA_row, sA_ro _ 9 _ 8 (by omega), sA_row, sA_ro _ 9 _ 7 (by omega), sA_ro _ 8 _ 7 (by omega), sA_row, c8, cpy_in hj, cpy_in hj, cpy_in hj]
    rw [sA_ro _ 8 _ 13 (by omega), sA_ro _ 7 _ 13 (by omega), sA_ro _ 7 _ 12 (by omega)]
    exact ⟨rfl, rfl, rfl⟩
  · rw [sI_rne _ 6 4 _ 3 (by omega), sI_at, sA_ro _ 9 _ 10 (by omega), sA_ro _ 8 _ 10 (by omega), sA_ro _ 7 _ 10 (by omega)]
  · rw [sI_at, sI_ro _ 6 3 _ 10 (by omega), sA_ro _ 9 _ 10 (by omega), sA_ro _ 8 _ 10 (by omega), sA_ro _ 7 _ 10 (by omega)]
theorem p_image {PA : (Nat → Int32) → Nat → (Nat → Int32) → Nat → Int32 → Prop} : P_image (InvP PA) := by
  intro nc x m hI
  obtain ⟨nr, tc, h1, h2, h3, h4, h5, h6, h7, h8, h9⟩ := id hI
  obtain ⟨r1, r2, r3, r4⟩ := id h1
  obtain ⟨b1, b2, b3, b4, b5, b6⟩ := id h2
  obtain ⟨t1, t2, t3, t4, t5, ⟨r, tr1, tr2, tr3⟩, t7⟩ := id h5
  obtain ⟨s, s1, s2⟩ := sitters_all h2.1
  -- the class
  obtain ⟨y, y1, y2, y3, y4, y5, y6⟩ := become_b x
  unfold f_X11_image
  rw [y1]
  simp only [bdv_some, g16, nm]
  -- the model
  unfold f_X12_image
  simp only [nm]
  have hm1 : ∀ c, c ≠ 0 → (sI (sI (sI (sI (sI m 0 54 1) 0 55 ((sI m 0 54 1).1 0 11)) 0 56 ((sI (sI m 0 54 1) 0 55 ((sI m 0 54 1).1 0 11)).1 0 15)) 0 57 ((sI (sI (sI m 0 54 1) 0 55 ((sI m 0 54 1).1 0 11)) 0 56 ((sI (sI m 0 54 1) 0 55 ((sI m 0 54 1).1 0 11)).1 0 15)).1 0 16)) 0 58 ((sI (sI (sI (sI m 0 54 1) 0 55 ((sI m 0 54 1).1 0 11)) 0 56 ((sI (sI m 0 54 1) 0 55 ((sI m 0 54 1).1 0 11)).1 0 15)) 0 57 ((sI (sI (sI m 0 54 1) 0 55 ((sI m 0 54 1).1 0 11)) 0 56 ((sI (sI m 0 54 1) 0 55 ((sI m 0 54 1).1 0 11)).1 0 15)).1 0 16)).1 0 4)).1 c = m.1 c := fun c hc => by
    rw [sI_ro _ 0 58 _ c hc, sI_ro _ 0 57 _ c hc, sI_ro _ 0 56 _ c hc, sI_ro _ 0 55 _ c hc, sI_ro _ 0 54 _ c hc]
  have hm2 : ∀ j, (sI (sI (sI (sI (sI m 0 54 1) 0 55 ((sI m 0 54 1).1 0 11)) 0 56 ((sI (sI m 0 54 1) 0 55 ((sI m 0 54 1).1 0 11)).1 0 15)) 0 57 ((sI (sI (sI m 0 54 1) 0 55 ((sI m 0 54 1).1 0 11)) 0 56 ((sI (sI m 0 54 1) 0 55 ((sI m 0 54 1).1 0 11)).1 0 15)).1 0 16)) 0 58 ((sI (sI (sI (sI m 0 54 1) 0 55 ((sI m 0 54 1).1 0 11)) 0 56 ((sI (sI m 0 54 1) 0 55 ((sI m 0 54 1).1 0 11)).1 0 15)) 0 57 ((sI (sI (sI m 0 54 1) 0 55 ((sI m 0 54 1).1 0 11)) 0 56 ((sI (sI m 0 54 1) 0 55 ((sI m 0 54 1).1 0 11)).1 0 15)).1 0 16)).1 0 4)).1 0 j = if j = 58 then m.1 0 4 else if j = 57 then m.1 0 16 else if j = 56 then m.1 0 15 else if j = 55 then m.1 0 11 else if j = 54 then 1 else m.1 0 j := fun j => by
    simp [sI_rd]
  generalize hmm : (sI (sI (sI (sI (sI m 0 54 1) 0 55 ((sI m 0 54 1).1 0 11)) 0 56 ((sI (sI m 0 54 1) 0 55 ((sI m 0 54 1).1 0 11)).1 0 15)) 0 57 ((sI (sI (sI m 0 54 1) 0 55 ((sI m 0 54 1).1 0 11)) 0 56 ((sI (sI m 0 54 1) 0 55 ((sI m 0 54 1).1 0 11)).1 0 15)).1 0 16)) 0 58 ((sI (sI (sI (sI m 0 54 1) 0 55 ((sI m 0 54 1).1 0 11)) 0 56 ((sI (sI m 0 54 1) 0 55 ((sI m 0 54 1).1 0 11)).1 0 15)) 0 57 ((sI (sI (sI m 0 54 1) 0 55 ((sI m 0 54 1).1 0 11)) 0 56 ((sI (sI m 0 54 1) 0 55 ((sI m 0 54 1).1 0 11)).1 0 15)).1 0 16)).1 0 4)) = m1 at hm1 hm2 ⊢
  obtain ⟨m2, p1, p2, p3, p4⟩ := image_l39 (K := fun σ12 => f_X12_image_l89 (fun (σ29 : St) => bp (f_X12_sitting σ29) (fun v37 => some (v37, σ29))) FU 0 σ12) 8 FU 0 m1 rfl (by decide)
  obtain ⟨m3, u1, u2, u3, u4⟩ := image_l89 (K := fun (σ29 : St) => bp (f_X12_sitting σ29) (fun v37 => some (v37, σ29))) r1 nr FU 0 m2 (by rw [p2 0 (by omega) (by omega) (by omega), hm2 11]; simp [r3]) (by omega) (by unfold FU; omega)
  have z0 : nI 0 = 0 := rfl
  rw [z0] at p1 u1
  rw [p1, u1]
  have hmo : ∀ k, k ≠ 0 → k ≠ 21 → k ≠ 22 → k ≠ 23 → k ≠ 24 → m3.1 k = m.1 k := fun k a b c d e => by rw [u2 k e, p2 k b c d, hm1 k a]
  have m30 : ∀ j, m3.1 0 j = if j = 58 then m.1 0 4 else if j = 57 then m.1 0 16 else if j = 56 then m.1 0 15 else if j = 55 then m.1 0 11 else if j = 54 then 1 else m.1 0 j := fun j => by rw [u2 0 (by omega), p2 0 (by omega) (by omega) (by omega), hm2]
  have hm0 : ∀ j, j < 54 ∨ 58 < j → m3.1 0 j = m.1 0 j := fun j hj => by
    rw [m30, if_neg (by omega), if_neg (by omega), if_neg (by omega), if_neg (by omega), if_neg (by omega)]
  generalize hxx : sI (sI (sA y 14 (va_cpy (y.1 4) (y.1 14) (Int32.toNatClampNeg 0) (Int32.toNatClampNeg 0) (Int32.toNatClampNeg 16))) 0 4 ((sA y 14 (va_cpy (y.1 4) (y.1 14) (Int32.toNatClampNeg 0) (Int32.toNatClampNeg 0) (Int32.toNatClampNeg 16))).1 1 4)) 0 5 ((sI (sA y 14 (va_cpy (y.1 4) (y.1 14) (Int32.toNatClampNeg 0) (Int32.toNatClampNeg 0) (Int32.toNatClampNeg 16))) 0 4 ((sA y 14 (va_cpy (y.1 4) (y.1 14) (Int32.toNatClampNeg 0) (Int32.toNatClampNeg 0) (Int32.toNatClampNeg 16))).1 1 4)).1 0 10) = x3
  have hxo : ∀ k, k ≠ 0 → k < 10 ∨ 14 < k → x3.1 k = x.1 k := fun k a b => by
    rw [← hxx, sI_ro _ 0 5 _ k a, sI_ro _ 0 4 _ k a, sA_ro _ 14 _ k (by omega), y2 k (by omega) (by omega) (by omega) (by omega)]
  have hxk : ∀ k, 10 ≤ k → k < 14 → x3.1 k = y.1 k := fun k a b => by
    rw [← hxx, sI_ro _ 0 5 _ k (by omega), sI_ro _ 0 4 _ k (by omega), sA_ro _ 14 _ k (by omega)]
  have hx0 : ∀ j, j ≠ 4 → j ≠ 5 → x3.1 0 j = x.1 0 j := fun j a b => by
    rw [← hxx, sI_rne _ 0 5 _ j b, sI_rne _ 0 4 _ j a, sA_ro _ 14 _ 0 (by omega), y2 0 (by omega) (by omega) (by omega) (by omega)]
  have hx04 : x3.1 0 4 = nI nr := by
    rw [← hxx, sI_rne _ 0 5 _ 4 (by omega), sI_at, sA_ro _ 14 _ 1 (by omega), y2 1 (by omega) (by omega) (by omega) (by omega)]; exact r2
  have hx05 : x3.1 0 5 = nI r := by
    rw [← hxx, sI_at, sI_rne _ 0 4 _ 10 (by omega), sA_ro _ 14 _ 0 (by omega), y2 0 (by omega) (by omega) (by omega) (by omega)]; exact tr2
  have hx14 : ∀ j, j < 16 → x3.1 14 j = x.1 4 j := fun j hj => by
    rw [← hxx, sI_ro _ 0 5 _ 14 (by omega), sI_ro _ 0 4 _ 14 (by omega), sA_row, c16, cpy_in hj, y2 4 (by omega) (by omega) (by omega) (by omega)]
  have hx2 : x3.2 = x.2 := by rw [← hxx]; exact y3
  have hx37 : x3.1 37 4 = x.1 37 4 := by rw [hxo 37 (by omega) (by omega)]
  obtain ⟨s', s1', s2'⟩ := sitters_all (x := x3) (m := m3) (nr := nr) (by rw [hxo 7 (by omega) (by omega), hmo 8 (by omega) (by omega) (by omega) (by omega) (by omega)]; exact b1)
  rw [s1', s2']
  simp only [bp_some]
  have hr19 : x3.2.2.1 19 = x.2.2.1 19 := by rw [hx2]
  have hr31 : x3.2.2.1 31 2 = x.2.2.1 31 2 := by rw [hx2]
  have hl : x3.2.2.2 = x.2.2.2 := by rw [hx2]
  refine ⟨s', x3, m3, rfl, rfl, nr, tc, h1.cg (fun k a b => hxo k (by omega) (by omega)) (hm0 11 (by omega)) (fun k a b => hmo k (by omega) (by omega) (by omega) (by omega) (by omega)), h2.cg (fun k a b => hxo k (by omega) (by omega)) (hm0 15 (by omega)) (hm0 16 (by omega)) (fun k a b => hmo k (by omega) (by omega) (by omega) (by omega) (by omega)), ?_, h4.cg (hxo 15 (by omega) (by omega)) (hxo 16 (by omega) (by omega)) (hm0 6 (by omega)) (hmo 3 (by omega) (by omega) (by omega) (by omega) (by omega)), h5.cg (hx0 9 (by omega) (by omega)) (hx0 10 (by omega) (by omega)) (fun k a => hxo k (by omega) (by omega)) hr19 hr31 hl (hm0 3 (by omega)) (hm0 4 (by omega)) (hmo 1 (by omega) (by omega) (by omega) (by omega) (by omega)) (hmo 2 (by omega) (by omega) (by omega) (by omega) (by omega)), h6.cg (fun k a b => hxo k (by omega) (by omega)) (hm0 33 (by omega)) (hmo 11 (by omega) (by omega) (by omega) (by omega) (by omega)) (hmo 12 (by omega) (by omega) (by omega) (by omega) (by omega)), h7.cg hx37 (fun k a b => hxo k (by omega) (by omega)) (hm0 46 (by omega)) (fun k a b => hmo k (by omega) (by omega) (by omega) (by omega) (by omega)), h8.cg (hxo 56 (by omega) (by omega)) (hxo 57 (by omega) (by omega)) (hm0 49 (by omega)) (hmo 20 (by omega) (by omega) (by omega) (by omega) (by omega)), h9.cg (fun k a b => hxo k (by omega) (by omega)) (fun k a b => hmo k (by omega) (by omega) (by omega) (by omega) (by omega))⟩
  right
  have k1 : ∀ j, j < 8 → m3.1 21 j = m.1 8 j ∧ m3.1 22 j = m.1 9 j ∧ m3.1 23 j = m.1 10 j := fun j hj => by
    rw [u2 21 (by omega), u2 22 (by omega), u2 23 (by omega), (p3 j (by omega) hj).1, (p3 j (by omega) hj).2.1, (p3 j (by omega) hj).2.2, hm1 8 (by omega), hm1 9 (by omega), hm1 10 (by omega)]
    exact ⟨rfl, rfl, rfl⟩
  have k2 : ∀ j, j < nr → m3.1 24 j = m.1 6 j := fun j hj => by
    rw [u3 j (by omega) hj, p2 6 (by omega) (by omega) (by omega), hm1 6 (by omega)]
  refine ⟨by rw [m30]; simp, nr, by omega, hx04, by rw [m30]; simp [r3], fun k hk => ?_, fun k hk => ?_, fun k hk => ?_, fun i hi => ?_, ?_, ?_, ?_, ?_⟩
  · rw [hxk 11 (by omega) (by omega), (y4 k hk).1, (k1 k hk).1]; exact b1 k hk
  · rw [hxk 12 (by omega) (by omega), (y4 k hk).2.1, (k1 k hk).2.1]; exact b2 k hk
  · rw [hxk 13 (by omega) (by omega), (y4 k hk).2.2, (k1 k hk).2.2]; exact b3 k hk
  · rw [hx14 i (by omega), k2 i hi]
    obtain ⟨v1, v2, v3, v4, v5⟩ := r4 i hi
    exact ⟨v1.2.2.1, v4⟩
  · rw [hxk 10 (by omega) (by omega), y5, m30]; simpa using b4
  · rw [hxk 10 (by omega) (by omega), y6, m30]; simpa using ⟨b5, b6⟩
  · rw [hx05, m30]; simp [tr3]
  · exact ⟨r, tr1, by rw [m30]; simp [tr3]⟩

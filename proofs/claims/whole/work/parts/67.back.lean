theorem back_l36 {K : St → Option (Int32 × St)} : ∀ (d f k : Nat) (m : St), k + d = 8 → d < f → ∃ m', f_X12_back_l36 K f (nI k) m = K m' ∧ (∀ c, c ≠ 8 → c ≠ 9 → c ≠ 10 → m'.1 c = m.1 c) ∧ (∀ j, k ≤ j → j < 8 → m'.1 8 j = m.1 21 j ∧ m'.1 9 j = m.1 22 j ∧ m'.1 10 j = m.1 23 j) ∧ (∀ j, j < k → m'.1 8 j = m.1 8 j ∧ m'.1 9 j = m.1 9 j ∧ m'.1 10 j = m.1 10 j) := by
  have e8 : (8 : Int32).toInt = 8 := rfl
  intro d
  induction d with
  | zero =>
    intro f k m hk hf
    obtain ⟨f, rfl⟩ : ∃ g, f = g + 1 := ⟨f - 1, by omega⟩
    unfold f_X12_back_l36
    have : (8 : Int32) ≤ nI k := by rw [le_nI (by omega)]; omega
    rw [if_pos this]
    exact ⟨m, rfl, fun _ _ _ _ => rfl, fun j a b => by omega, fun _ _ => ⟨rfl, rfl, rfl⟩⟩
  | succ d ih =>
    intro f k m hk hf
    obtain ⟨f, rfl⟩ : ∃ g, f = g + 1 := ⟨f - 1, by omega⟩
    unfold f_X12_back_l36
    have : ¬ (8 : Int32) ≤ nI k := by rw [le_nI (by omega)]; omega
    rw [if_neg this]
    simp only [gdN (show k < 8 by omega) (show 8 ≤ 1000000 by omega), nmE, clampN (show k < 1000000 by omega), nI_1]
    obtain ⟨m', q1, q2, q3, q4⟩ := ih f (k + 1) (sI (sI (sI m 8 k (m.1 21 k)) 9 k ((sI m 8 k (m.1 21 k)).1 22 k)) 10 k ((sI (sI m 8 k (m.1 21 k)) 9 k ((sI m 8 k (m.1 21 k)).1 22 k)).1 23 k)) (by omega) (by omega)
    refine ⟨m', q1, fun c c1 c2 c3 => ?_, fun j j1 j2 => ?_, fun j hj => ?_⟩
    · rw [q2 c c1 c2 c3, sI_ro _ 10 k _ c c3, sI_ro _ 9 k _ c c2, sI_ro _ 8 k _ c c1]
    · by_cases e : j = k
      · subst e
        obtain ⟨u1, u2, u3⟩ := q4 j (by omega)
        rw [u1, u2, u3]
        simp [sI_rd]
      · obtain ⟨u1, u2, u3⟩ := q3 j (by omega) j2
        rw [u1, u2, u3]
        simp [sI_rd]
    · obtain ⟨u1, u2, u3⟩ := q4 j (by omega)
      rw [u1, u2, u3]
      have : ¬ j = k := by omega
      simp [sI_rd, this]
theorem back_l86 {K : St → Option (Int32 × St)} {kr : Nat} (h16 : kr ≤ 16) : ∀ (d f k : Nat) (m : St), m.1 0 55 = nI kr → k + d = kr → d < f → ∃ m', f_X12_back_l86 K f (nI k) m = K m' ∧ (∀ c, c ≠ 6 → m'.1 c = m.1 c) ∧ (∀ j, k ≤ j → j < kr → m'.1 6 j = m.1 24 j) ∧ (∀ j, j < k ∨ kr ≤ j → m'.1 6 j = m.1 6 j) := by
  intro d
  induction d with
  | zero =>
    intro f k m h0 hk hf
    obtain ⟨f, rfl⟩ : ∃ g, f = g + 1 := ⟨f - 1, by omega⟩
    have : nI kr ≤ nI k := by rw [le_nI (by omega), nI_rng (by omega)]; omega
    unfold f_X12_back_l86
    simp only [nmE, h0, if_pos this]
    exact ⟨m, rfl, fun _ _ => rfl, fun j a b => by omega, fun _ _ => rfl⟩
  | succ d ih =>
    intro f k m h0 hk hf
    obtain ⟨f, rfl⟩ : ∃ g, f = g + 1 := ⟨f - 1, by omega⟩
    unfold f_X12_back_l86
    have : ¬ nI kr ≤ nI k := by rw [le_nI (by omega), nI_rng (by omega)]; omega
    simp only [nmE, h0, if_neg this, gdN (show k < 16 by omega) (show 16 ≤ 1000000 by omega), clampN (show k < 1000000 by omega), nI_1]
    obtain ⟨m', q1, q2, q3, q4⟩ := ih f (k + 1) (sI m 6 k (m.1 24 k)) (by rw [sI_ro _ 6 k _ 0 (by omega)]; exact h0) (by omega) (by omega)
    refine ⟨m', q1, fun c c1 => by rw [q2 c c1, sI_ro _ 6 k _ c c1], fun j j1 j2 => ?_, fun j hj => ?_⟩
    · by_cases e : j = k
      · subst e
        rw [q4 j (by omega)]
        simp [sI_rd]
      · rw [q3 j (by omega) j2]
        simp [sI_rd]
    · rw [q4 j (by omega)]
      have : ¬ j = k := by omega
      simp [sI_rd, this]
theorem back_head {m : St} (h : m.1 0 54 = 1) : ∃ m1, f_X12_back m = f_X12_back_l36 (fun (σ11 : St) => f_X12_back_l86 (fun (σ28 : St) => bp (f_X12_sitting σ28) (fun v36 => some (v36, σ28))) FU 0 σ11) FU 0 m1 ∧ (∀ c, c ≠ 0 → m1.1 c = m.1 c) ∧ m1.1 0 15 = m.1 0 56 ∧ m1.1 0 16 = m.1 0 57 ∧ m1.1 0 4 = m.1 0 58 ∧ (∀ j, j ≠ 15 → j ≠ 16 → j ≠ 4 → m1.1 0 j = m.1 0 j) := by
  unfold f_X12_back
  simp only [nmE, h, if_neg ne10]
  refine ⟨_, rfl, fun c hc => ?_, ?_, ?_, ?_, fun j a b c => ?_⟩
  · rw [sI_ro _ 0 4 _ c hc, sI_ro _ 0 16 _ c hc, sI_ro _ 0 15 _ c hc]
  · simp [sI_rd]
  · simp [sI_rd]
  · simp [sI_rd]
  · simp [sI_rd, a, b, c]
theorem p_back {PA : (Nat → Int32) → Nat → (Nat → Int32) → Nat → Int32 → Prop} : P_back (InvP PA) := by
  intro nc x m hI
  obtain ⟨nr, tc, h1, h2, h3, h4, h5, h6, h7, h8, h9⟩ := id hI
  rcases id h3 with ⟨k1, k2⟩ | ⟨k1, kr, k2, k3, k4, k5, k6, k7, k8, k9, k10, k11, ⟨jr, j1, j2⟩⟩
  · unfold f_X11_back f_X12_back
    simp only [nmE, k1, k2, if_true]
    exact ⟨-3, x, m, rfl, rfl, hI⟩
  obtain ⟨r1, r2, r3, r4⟩ := id h1
  obtain ⟨m1, p0, p1, p2, p3, p4, p5⟩ := back_head k1
  obtain ⟨m2, q1, q2, q3, q4⟩ := back_l36 (K := fun (σ11 : St) => f_X12_back_l86 (fun (σ28 : St) => bp (f_X12_sitting σ28) (fun v36 => some (v36, σ28))) FU 0 σ11) 8 FU 0 m1 rfl (by decide)
  obtain ⟨m3, u1, u2, u3, u4⟩ := back_l86 (K := fun (σ28 : St) => bp (f_X12_sitting σ28) (fun v36 => some (v36, σ28))) (kr := kr) (by omega) kr FU 0 m2 (by rw [q2 0 (by omega) (by omega) (by omega), p5 55 (by omega) (by omega) (by omega)]; exact k4) (by omega) (by unfold FU; omega)
  have z0 : nI 0 = 0 := rfl
  rw [z0] at q1 u1
  rw [p0, q1, u1]
  obtain ⟨y, y1, y2, y3, y4, y5, y6⟩ := become_a x
  unfold f_X11_back
  have y04 : y.1 0 4 = nI kr := by rw [y2 0 (by omega) (by omega) (by omega) (by omega)]; exact k3
  have hg : ¬ 0 < (0 : Int32) ∧ ¬ 0 < (0 : Int32) ∧ ¬ nI kr < (0 : Int32) ∧ Int32.toNatClampNeg 0 + Int32.toNatClampNeg (nI kr) ≤ 16 ∧ Int32.toNatClampNeg 0 + Int32.toNatClampNeg (nI kr) ≤ 16 := by
    have e0 : Int32.toNatClampNeg 0 = 0 := rfl
    rw [clampN (by omega), e0]
    exact ⟨by decide, by decide, nI_pos (by omega), by omega, by omega⟩
  rw [y1]
  simp only [nmE, k3, if_neg (nI_nem (show kr < 1000000 by omega)), bdvE, y04, gd_pos hg]
  generalize hxx : sI (sA y 4 (va_cpy (y.1 14) (y.1 4) (Int32.toNatClampNeg 0) (Int32.toNatClampNeg 0) (Int32.toNatClampNeg (nI kr)))) 0 10 ((sA y 4 (va_cpy (y.1 14) (y.1 4) (Int32.toNatClampNeg 0) (Int32.toNatClampNeg 0) (Int32.toNatClampNeg (nI kr)))).1 0 5) = x3
  have hmo : ∀ k, k ≠ 0 → k ≠ 6 ∧ k ≠ 8 ∧ k ≠ 9 ∧ k ≠ 10 → m3.1 k = m.1 k := fun k a b => by rw [u2 k (by omega), q2 k (by omega) (by omega) (by omega), p1 k a]
  have m30 : ∀ j, m3.1 0 j = m1.1 0 j := fun j => by rw [u2 0 (by omega), q2 0 (by omega) (by omega) (by omega)]
  have hm0 : ∀ j, j ≠ 15 ∧ j ≠ 16 ∧ j ≠ 4 → m3.1 0 j = m.1 0 j := fun j hj => by rw [m30, p5 j (by omega) (by omega) (by omega)]
  have hxo : ∀ k, k ≠ 0 ∧ k ≠ 4 ∧ k ≠ 6 ∧ k ≠ 7 ∧ k ≠ 8 ∧ k ≠ 9 → x3.1 k = x.1 k := fun k a => by
    rw [← hxx, sI_ro _ 0 10 _ k (by omega), sA_ro _ 4 _ k (by omega), y2 k (by omega) (by omega) (by omega) (by omega)]
  have hxy : ∀ k, k ≠ 0 → k ≠ 4 → x3.1 k = y.1 k := fun k a b => by
    rw [← hxx, sI_ro _ 0 10 _ k a, sA_ro _ 4 _ k b]
  have hx0 : ∀ j, j ≠ 10 → x3.1 0 j = x.1 0 j := fun j a => by
    rw [← hxx, sI_rne _ 0 10 _ j a, sA_ro _ 4 _ 0 (by omega), y2 0 (by omega) (by omega) (by omega) (by omega)]
  have hx010 : x3.1 0 10 = nI jr := by
    rw [← hxx, sI_at, sA_ro _ 4 _ 0 (by omega), y2 0 (by omega) (by omega) (by omega) (by omega), k11]; exact j2
  have hx4 : ∀ j, x3.1 4 j = if j < kr then x.1 14 j else x.1 4 j := fun j => by
    rw [← hxx, sI_ro _ 0 10 _ 4 (by omega), sA_row, clampN (by omega)]
    by_cases e : j < kr
    · rw [cpy_in e, if_pos e, y2 14 (by omega) (by omega) (by omega) (by omega)]
    · rw [cpy_out (by omega), if_neg e, y2 4 (by omega) (by omega) (by omega) (by omega)]
  have hx2 : x3.2 = x.2 := by rw [← hxx]; exact y3
  have hx37 : x3.1 37 4 = x.1 37 4 := by rw [hxo 37 (by omega)]
  have hr19 : x3.2.2.1 19 = x.2.2.1 19 := by rw [hx2]
  have hr31 : x3.2.2.1 31 2 = x.2.2.1 31 2 := by rw [hx2]
  have hl : x3.2.2.2 = x.2.2.2 := by rw [hx2]
  have m38 : ∀ j, j < 8 → m3.1 8 j = m.1 21 j ∧ m3.1 9 j = m.1 22 j ∧ m3.1 10 j = m.1 23 j := fun j hj => by
    rw [u2 8 (by omega), u2 9 (by omega), u2 10 (by omega), (q3 j (by omega) hj).1, (q3 j (by omega) hj).2.1, (q3 j (by omega) hj).2.2, p1 21 (by omega), p1 22 (by omega), p1 23 (by omega)]
    exact ⟨rfl, rfl, rfl⟩
  have hseat : seatsOk nr (x3.1 7) (m3.1 8) := fun k hk => by
    rw [hxy 7 (by omega) (by omega), (y4 k hk).1, (m38 k hk).1]; exact (k5.mono k2) k hk
  obtain ⟨s', s1', s2'⟩ := sitters_all hseat
  rw [s1', s2']
  simp only [bpE]
  refine ⟨s', x3, m3, rfl, rfl, nr, tc, ?_, ?_, h3.cg (hx0 4 (by omega)) (hx0 5 (by omega)) (fun k a b => hxo k (by omega)) (fun j a b => hm0 j (by omega)) (fun k a b => hmo k (by omega) (by omega)), h4.cg (hxo 15 (by omega)) (hxo 16 (by omega)) (hm0 6 (by omega)) (hmo 3 (by omega) (by omega)), ?_, h6.cg (fun k a b => hxo k (by omega)) (hm0 33 (by omega)) (hmo 11 (by omega) (by omega)) (hmo 12 (by omega) (by omega)), h7.cg hx37 (fun k a b => hxo k (by omega)) (hm0 46 (by omega)) (fun k a b => hmo k (by omega) (by omega)), h8.cg (hxo 56 (by omega)) (hxo 57 (by omega)) (hm0 49 (by omega)) (hmo 20 (by omega) (by omega)), h9.cg (fun k a b => hxo k (by omega)) (fun k a b => hmo k (by omega) (by omega))⟩
  · refine ⟨r1, by rw [hxo 1 (by omega)]; exact r2, by rw [hm0 11 (by omega)]; exact r3, fun i hi => ?_⟩
    obtain ⟨⟨v1, v2, v3, v4⟩, v5, v6, v7, v8⟩ := r4 i hi
    have m36 : m3.1 6 i = if i < kr then m.1 24 i else m.1 6 i := by
      by_cases e : i < kr
      · rw [u3 i (by omega) e, if_pos e, q2 24 (by omega) (by omega) (by omega), p1 24 (by omega)]
      · rw [u4 i (by omega), if_neg e, q2 6 (by omega) (by omega) (by omega), p1 6 (by omega)]
    rw [hxo 2 (by omega), hxo 3 (by omega), hxo 5 (by omega), hmo 4 (by omega) (by omega), hmo 5 (by omega) (by omega), hmo 7 (by omega) (by omega), hx4, m36]
    by_cases e : i < kr
    · rw [if_pos e, if_pos e]
      exact ⟨⟨v1, v2, (k8 i e).1, v4⟩, v5, v6, (k8 i e).2, v8⟩
    · rw [if_neg e, if_neg e]
      exact ⟨⟨v1, v2, v3, v4⟩, v5, v6, v7, v8⟩
  · refine ⟨hseat, fun k hk => ?_, fun k hk => ?_, ?_, ?_, ?_⟩
    · rw [hxy 8 (by omega) (by omega), (y4 k hk).2.1, (m38 k hk).2.1]; exact k6 k hk
    · rw [hxy 9 (by omega) (by omega), (y4 k hk).2.2, (m38 k hk).2.2]; exact k7 k hk
    · rw [hxy 6 (by omega) (by omega), y5, m30, p2]; exact k9
    · rw [hxy 6 (by omega) (by omega), y6, m30, p3]; exact k10.1
    · rw [m30, p3]; exact k10.2
  · obtain ⟨a1, a2, a3, a4, a5, a6, a7, a8, a9⟩ := h5
    refine ⟨a1, a2, a3, by rw [hx0 9 (by omega)]; exact a4, by rw [hm0 3 (by omega)]; exact a5, ⟨jr, j1, hx010, by rw [m30, p4]; exact j2⟩, fun j hj => ?_, by rw [hr19]; exact a8, by rw [hr31]; exact a9⟩
    obtain ⟨b1, n, b2, b3, b4⟩ := a7 j hj
    exact ⟨by rw [hr19]; exact b1, n, b2, by rw [hmo 2 (by omega) (by omega)]; exact b3, by rw [hmo 1 (by omega) (by omega), hxo _ (by omega), hxo _ (by omega), hl]; exact b4⟩

/-- a stroke, seat by seat -/
theorem pull_l {nc nr tc rid c : Nat} {κ : Int32} : ∀ (d f k : Nat) (all : Int32) (A : Int64) (x m : St), k + d = 8 → d < f → RS nc nr tc rid x m → RD nr c x m → (∀ q, q < k → m.2.1 14 q = Int32.toInt64 (x.1 33 q) ∧ rng (x.1 33 q) 0 2808) → A.toInt = all.toInt → 0 ≤ all.toInt → all.toInt ≤ 2808 * k → ∃ all' A' x' m', (∀ K : Int32 → St → Option St, f_X1_pullOnce_l10 κ nc K f all (nI k) x = K all' x') ∧ (∀ K : Int64 → St → Option St, f_X12_strokes_l67 κ K f A (nI k) m = K A' m') ∧ FRs x m x' m' ∧ RD nr c x' m' ∧ (∀ q, q < 8 → m'.2.1 14 q = Int32.toInt64 (x'.1 33 q) ∧ rng (x'.1 33 q) 0 2808) ∧ A'.toInt = all'.toInt ∧ 0 ≤ all'.toInt ∧ all'.toInt ≤ 22464 ∧ (∀ q, q < k → x'.1 33 q = x.1 33 q) ∧ ((m.2.1 0 38).toInt = tS (m.1 9) (x.1 33) k → (m'.2.1 0 38).toInt = tS (m.1 9) (x'.1 33) 8) := by
  have e8 : (8 : Int32).toInt = 8 := rfl
  intro d
  induction d with
  | zero =>
    intro f k all A x m hk hf hS hD hdr hA h0 h1
    obtain ⟨f, rfl⟩ : ∃ g, f = g + 1 := ⟨f - 1, by omega⟩
    have : (8 : Int32) ≤ nI k := by rw [le_nI (by omega)]; omega
    have hk8 : k = 8 := by omega
    subst hk8
    refine ⟨all, A, x, m, fun K => by rw [f_X1_pullOnce_l10, if_pos this], fun K => by rw [f_X12_strokes_l67, if_pos this], FRs.rfl' x m, hD, hdr, hA, h0, by omega, fun _ _ => rfl, fun h => h⟩
  | succ d ih =>
    intro f k all A x m hk hf hS hD hdr hA h0 h1
    obtain ⟨f, rfl⟩ : ∃ g, f = g + 1 := ⟨f - 1, by omega⟩
    have hn8 : ¬ (8 : Int32) ≤ nI k := by rw [le_nI (by omega)]; omega
    have hk8 : k < 8 := by omega
    obtain ⟨a1, a2, a3, a4, a5, a6, a7, a8, a9, a10, a11⟩ := id hS
    obtain ⟨d1, d2, d3, d4, d5, d6, d7⟩ := id hD
    obtain ⟨r1, r2, r3, r4⟩ := id a1
    have hseat := a6 k hk8
    have hside := a2 k hk8
    -- what comes once this seat's drive D and the states behind it are known
    have go : ∀ (D : Int32) (Ad : Int64) (x1 m1 : St), rng D 0 2808 → Ad.toInt = A.toInt + D.toInt → FRs x m x1 m1 → RD nr c x1 m1 → m1.2.1 14 k = Int32.toInt64 D → x1.1 33 k = D → (∀ q, q < k → m1.2.1 14 q = m.2.1 14 q ∧ x1.1 33 q = x.1 33 q) → ((m1.2.1 0 38) = m.2.1 0 38 + (if x.1 8 k = 0 then Int32.toInt64 (D * (nI k + 1)) else Int32.toInt64 (-(D * (nI k + 1))))) → ∃ all' A' x' m', (∀ K : Int32 → St → Option St, f_X1_pullOnce_l10 κ nc K f (all + D) (nI (k + 1)) x1 = K all' x') ∧ (∀ K : Int64 → St → Option St, f_X12_strokes_l67 κ K f Ad (nI (k + 1)) m1 = K A' m') ∧ FRs x m x' m' ∧ RD nr c x' m' ∧ (∀ q, q < 8 → m'.2.1 14 q = Int32.toInt64 (x'.1 33 q) ∧ rng (x'.1 33 q) 0 2808) ∧ A'.toInt = all'.toInt ∧ 0 ≤ all'.toInt ∧ all'.toInt ≤ 22464 ∧ (∀ q, q < k → x'.1 33 q = x.1 33 q) ∧ ((m.2.1 0 38).toInt = tS (m.1 9) (x.1 33) k → (m'.2.1 0 38).toInt = tS (m.1 9) (x'.1 33) 8) := by
      intro D Ad x1 m1 g1 g2 g3 g4 g5 g6 g7 g8
      have g1' := g1
      unfold rng at g1'
      have hadd : (all + D).toInt = all.toInt + D.toInt := add32 (by omega)
      obtain ⟨all', A', x', m', i1, i2, i3, i4, i5, i6, i7, i8, i9, i10⟩ := ih f (k + 1) (all + D) Ad x1 m1 (by omega) (by omega) (g3.rs hS) g4 (fun q hq => by
        by_cases e : q = k
        · subst e; rw [g5, g6]; exact ⟨rfl, g1⟩
        · rw [(g7 q (by omega)).1, (g7 q (by omega)).2]; exact hdr q (by omega)) (by rw [g2, hadd, hA]) (by omega) (by omega)
      refine ⟨all', A', x', m', i1, i2, g3.trans i3, i4, i5, i6, i7, i8, fun q hq => by rw [i9 q (by omega), (g7 q hq).2], fun hT => ?_⟩
      have h9 : m1.1 9 = m.1 9 := g3.2.2.2.1 9 (by omega) (by omega)
      rw [h9] at i10
      apply i10
      have hcg : tS (m.1 9) (x1.1 33) k = tS (m.1 9) (x.1 33) k := tS_cg k (fun q hq => ⟨rfl, (g7 q hq).2⟩)
      show (m1.2.1 0 38).toInt = tS (m.1 9) (x1.1 33) k + (if m.1 9 k = 0 then (x1.1 33 k).toInt * ((k : Int) + 1) else - ((x1.1 33 k).toInt * ((k : Int) + 1)))
      obtain ⟨b1, b2⟩ := tS_rng (s := m.1 9) (dr := x.1 33) k (by omega) (fun q hq => (hdr q hq).2)
      obtain ⟨b3, b4⟩ := mom_rng g1'.1 g1'.2 hk8
      have hk1 : (nI k + 1).toInt = (k : Int) + 1 := by rw [nI_1, nI_rng (by omega)]; omega
      have hmom : (D * (nI k + 1)).toInt = D.toInt * ((k : Int) + 1) := by rw [mul32 (by rw [hk1]; omega), hk1]
      have hneg : (-(D * (nI k + 1))).toInt = -(D.toInt * ((k : Int) + 1)) := by rw [neg32 (by rw [hmom]; omega), hmom]
      rw [g8, hcg, g6, hside.1]
      by_cases z : m.1 9 k = 0
      · rw [if_pos z, if_pos z, add64 (by rw [i2l_toInt, hmom, hT]; omega), i2l_toInt, hmom, hT]
      · rw [if_neg z, if_neg z, add64 (by rw [i2l_toInt, hneg, hT]; omega), i2l_toInt, hneg, hT]
    rcases hseat.2 with hs | ⟨i, hi, hs⟩
    · -- nobody
      have hx32 : x.1 32 k = -1 := by rw [hseat.1]; exact hs
      have hnb : ¬ (0 ≤ (-1 : Int32).toInt ∧ (-1 : Int32).toInt ≤ (nr : Int) - 1) := by rw [show (-1 : Int32).toInt = -1 from rfl]; omega
      have z64 : ∀ a : Int64, a + Int32.toInt64 0 = a := fun a => by simp
      have h0k : (0 : Int32) * (nI k + 1) = 0 := by simp
      have hn0 : (-(0 : Int32)) = 0 := by decide
      have hif : (if x.1 8 k = 0 then Int32.toInt64 (0 : Int32) else Int32.toInt64 0) = Int32.toInt64 0 := by split <;> rfl
      obtain ⟨all', A', x', m', i1, i2, i3⟩ := go 0 A (sL (sI x 33 k 0) 31 12 (x.2.1 31 12 + Int32.toInt64 0)) (sL m 14 k 0) ⟨by decide, by decide⟩ (by simp) ⟨fun q hq => by rw [sL_1, sI_ro _ 33 _ _ q (by omega)], by rw [sL_1, sI_ro _ 33 _ _ 31 (by omega)], rfl, fun _ _ _ => rfl, fun _ _ => rfl⟩ (by
        obtain ⟨d4a, d4b⟩ := d4
        unfold RD
        simp only [sL_1, sL_rd, sI_2, z64, sI_ro _ 33 _ _ 36 (show 36 ≠ 33 by omega), sI_ro _ 33 _ _ 31 (show 31 ≠ 33 by omega)]
        simp
        exact ⟨d1, d2, d3, ⟨d4a, d4b⟩, d5, d6, d7⟩) (by rw [sL_rd, if_pos ⟨rfl, rfl⟩]; rfl) (by rw [sL_1, sI_at]) (fun q hq => ⟨by rw [sL_rne _ 14 _ _ q (by omega)], by rw [sL_1, sI_rne _ 33 _ _ q (by omega)]⟩) (by rw [h0k, hn0, hif, z64, sL_ro _ 14 _ _ 0 (by omega)])
      refine ⟨all', A', x', m', fun K => ?_, fun K => ?_, i3⟩
      · rw [← i1 K, f_X1_pullOnce_l10, if_neg hn8]
        simp only [gdN hk8 (show 8 ≤ 1000000 by omega), nmE, jnE, clampN (show k < 1000000 by omega), hx32, xRower r1 r2, bpE, iz_neg hnb, if_true, sI_at, h0k, hn0, sI_ro _ 33 _ _ 8 (show 8 ≠ 33 by omega), sI_2, nI_1]
        by_cases z : x.1 8 k = 0
        · rw [if_pos z, Int32.zero_mul]
        · rw [if_neg z, Int32.zero_mul, hn0]
      · rw [← i2 K, f_X12_strokes_l67, if_neg hn8]
        simp only [gdN hk8 (show 8 ≤ 1000000 by omega), nmE, jnE, clampN (show k < 1000000 by omega), sL_1, hs, if_true, nI_1]
    · -- a rower
      have h16 : i < 16 := by omega
      have hx32 : x.1 32 k = nI i := by rw [hseat.1]; exact hs
      have hb : 0 ≤ (nI i).toInt ∧ (nI i).toInt ≤ (nr : Int) - 1 := by rw [nI_rng (by omega)]; omega
      have hnm : ¬ nI i = -1 := nI_nem (by omega)
      have hS0 : RS nc nr tc rid x (sL m 14 k 0) := hS
      have hD0 : RD nr c x (sL m 14 k 0) := by
        unfold RD
        rw [sL_1, sL_ro _ 14 _ _ 0 (by omega)]
        exact hD
      obtain ⟨g, pu, D, x1, m1, q1, q2, q3, q4, q5, ⟨co, w, r, q6, q7, q8, q9, q10, q11⟩, q12, q13, q14, q15, q16, q17⟩ := drive_eq (κ := κ) hS0 hD0 hk8 hi (by rw [sL_1]; exact hs)
      rw [sL_1] at q5 q7 q8 q14 q15
      have m1_14 : ∀ q, q ≠ k → m1.2.1 14 q = m.2.1 14 q := fun q hq => by rw [q16 14 (by omega), sL_rne _ 14 _ _ q hq]
      have m1_0 : ∀ q, q ≠ 21 → m1.2.1 0 q = m.2.1 0 q := fun q hq => by rw [q17 q hq, sL_ro _ 14 _ _ 0 (by omega)]
      have q4' := q4
      unfold rng at q4'
      have hk1 : (nI k + 1).toInt = (k : Int) + 1 := by rw [nI_1, nI_rng (by omega)]; omega
      obtain ⟨b3, b4⟩ := mom_rng q4'.1 q4'.2 hk8
      have hmom : (D * (nI k + 1)).toInt = D.toInt * ((k : Int) + 1) := by rw [mul32 (by rw [hk1]; omega), hk1]
      have hneg : (-(D * (nI k + 1))).toInt = -(D.toInt * ((k : Int) + 1)) := by rw [neg32 (by rw [hmom]; omega), hmom]
      have l1 : (1 : Int64).toInt = 1 := rfl
      have lm : (-1 : Int64).toInt = -1 := rfl
      have hinc : ∀ t : Int64, (t = 1 ∧ x.1 8 k = 0) ∨ (t = -1 ∧ ¬ x.1 8 k = 0) → t * Int32.toInt64 D * Int32.toInt64 (nI k + 1) = (if x.1 8 k = 0 then Int32.toInt64 (D * (nI k + 1)) else Int32.toInt64 (-(D * (nI k + 1)))) := by
        intro t ht
        have b5 : (-(D.toInt)) * ((k : Int) + 1) = -(D.toInt * ((k : Int) + 1)) := Int.neg_mul _ _
        rcases ht with ⟨rfl, z⟩ | ⟨rfl, z⟩
        · have h1 : ((1 : Int64) * Int32.toInt64 D).toInt = D.toInt := by rw [mul64 (by rw [l1, i2l_toInt]; omega), l1, i2l_toInt]; omega
          rw [if_pos z, eq64, mul64 (by rw [h1, i2l_toInt, hk1]; omega), h1, i2l_toInt, hk1, i2l_toInt, hmom]
        · have h1 : ((-1 : Int64) * Int32.toInt64 D).toInt = -D.toInt := by rw [mul64 (by rw [lm, i2l_toInt]; omega), lm, i2l_toInt]; omega
          rw [if_neg z, eq64, mul64 (by rw [h1, i2l_toInt, hk1]; omega), h1, i2l_toInt, hk1, i2l_toInt, hneg, b5]
      obtain ⟨d4a, d4b⟩ := d4
      generalize hT : (if x.1 8 k = 0 then Int32.toInt64 (D * (nI k + 1)) else Int32.toInt64 (-(D * (nI k + 1)))) = Tn at hinc
      have hAD : (A + Int32.toInt64 D).toInt = A.toInt + D.toInt := by rw [add64 (by rw [i2l_toInt]; omega), i2l_toInt]
      obtain ⟨all', A', x', m', i1, i2, i3⟩ := go D (A + Int32.toInt64 D) (sL (sI x1 33 k D) 31 12 (x.2.1 31 12 + Tn)) (sL (sI (sL m1 14 k (Int32.toInt64 D)) 13 i r) 0 38 (m.2.1 0 38 + Tn)) q4 hAD
        ⟨fun q hq => by rw [sL_1, sI_ro _ 33 _ _ q (by omega), q12 q (by omega) (by omega) (by omega)], by rw [sL_1, sI_ro _ 33 _ _ 31 (by omega), q12 31 (by omega) (by omega) (by omega)], by rw [sL_22, sI_2, q13], fun q a b => by rw [sL_1, sI_ro _ 13 _ _ q b, sL_1, q14 q a], fun j hj => by rw [sL_1, sI_ro _ 13 _ _ 0 (by omega), sL_1, q15 j (by omega)]⟩
        (by
          refine ⟨fun j hj => ?_, ?_, ?_, ?_, ?_, ?_, ?_⟩
          · rw [sL_1, sI_ro _ 33 _ _ 36 (by omega), sL_1]
            by_cases e : j = i
            · subst e; rw [q10, sI_at]; exact ⟨rfl, q9⟩
            · rw [q11 j e, sI_rne _ 13 _ _ j e, sL_1, q14 13 (by omega)]; exact d1 j hj
          · rw [sL_1, sI_ro _ 33 _ _ 31 (by omega), sL_1, sI_ro _ 13 _ _ 0 (by omega), sL_1, q12 31 (by omega) (by omega) (by omega), q15 36 (by omega)]; exact d2
          · rw [sL_1, sI_ro _ 33 _ _ 31 (by omega), sL_1, sI_ro _ 13 _ _ 0 (by omega), sL_1, q12 31 (by omega) (by omega) (by omega), q15 41 (by omega)]; exact d3
          · rw [sL_rne _ 31 _ _ 11 (by omega), sL_rne _ 0 _ _ 37 (by omega), sI_2, sI_2, sL_ro _ 14 _ _ 0 (by omega), q13, m1_0 37 (by omega)]; exact ⟨d4a, d4b⟩
          · rw [sL_rd, if_pos ⟨rfl, rfl⟩, sL_rd, if_pos ⟨rfl, rfl⟩, d5]
          · rw [sL_rne _ 31 _ _ 13 (by omega), sL_rne _ 0 _ _ 39 (by omega), sI_2, sI_2, sL_ro _ 14 _ _ 0 (by omega), q13, m1_0 39 (by omega)]; exact d6
          · rw [sL_rne _ 31 _ _ 14 (by omega), sL_rne _ 0 _ _ 40 (by omega), sI_2, sI_2, sL_ro _ 14 _ _ 0 (by omega), q13, m1_0 40 (by omega)]; exact d7)
        (by rw [sL_ro _ 0 _ _ 14 (by omega), sI_2, sL_rd, if_pos ⟨rfl, rfl⟩]) (by rw [sL_1, sI_at]) (fun q hq => ⟨by rw [sL_ro _ 0 _ _ 14 (by omega), sI_2, sL_rne _ 14 _ _ q (by omega), m1_14 q (by omega)], by rw [sL_1, sI_rne _ 33 _ _ q (by omega), q12 33 (by omega) (by omega) (by omega)]⟩) (by rw [sL_rd, if_pos ⟨rfl, rfl⟩, hT])
      refine ⟨all', A', x', m', fun K => ?_, fun K => ?_, i3⟩
      · rw [← i1 K, f_X1_pullOnce_l10, if_neg hn8]
        simp only [gdN hk8 (show 8 ≤ 1000000 by omega), nmE, jnE, clampN (show k < 1000000 by omega), hx32, xRower r1 r2, bpE, iz_pos hb, if_neg ne10, q1, bdE, sI_at, sI_ro _ 33 _ _ 8 (show 8 ≠ 33 by omega), q12 8 (by omega) (by omega) (by omega), sI_2, q13]
        rw [← hT]
        by_cases z : x.1 8 k = 0
        · simp only [if_pos z, nI_1]
        · simp only [if_neg z, nI_1]
      · rw [← i2 K, f_X12_strokes_l67, if_neg hn8]
        have hs9 : m1.1 9 k = x.1 8 k := by rw [q14 9 (by omega)]; exact hside.1.symm
        simp only [gdN hk8 (show 8 ≤ 1000000 by omega), gdN h16 (show 16 ≤ 1000000 by omega), nmE, jnE, clampN (show k < 1000000 by omega), clampN (show i < 1000000 by omega), sL_1, hs, if_neg hnm, q2, bdE, q3, bpE, q14 10 (by omega), q5, q14 13 (by omega), q6, q7, q14 7 (by omega), q8, sI_2, sL_rd, and_self, if_true, show ¬ (0 = 14 ∧ 38 = k) by omega, if_false, m1_0 38 (by omega), sI_ro _ 13 _ _ 9 (show 9 ≠ 13 by omega), hs9]
        by_cases z : x.1 8 k = 0
        · simp only [if_pos z, nI_1]
          rw [← nI_1, hinc 1 (Or.inl ⟨rfl, z⟩)]
        · simp only [if_neg z, nI_1]
          rw [← nI_1, hinc (-1) (Or.inr ⟨rfl, z⟩)]

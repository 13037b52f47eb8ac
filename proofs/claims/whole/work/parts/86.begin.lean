/-! a row's beginning -/
def sum8 (t : Nat → Int32) : Int32 := 0 + t 0 + t 1 + t 2 + t 3 + t 4 + t 5 + t 6 + t 7
theorem wAcc_sum (s w : Nat → Int32) : wAcc s w 8 = sum8 (fun k => if s k = -1 then 0 else w (s k).toNatClampNeg) := rfl
theorem sum8_swap (t : Nat → Int32) : ∀ i j, i < 8 → j < 8 → i ≠ j → sum8 (fun k => if k = j then t i else if k = i then t j else t k) = sum8 t := by
  intro i j hi hj hij
  unfold sum8
  match i, j, hi, hj, hij with
  | 0, 0, _, _, h => exact absurd rfl h
  | 0, 1, _, _, _ => simp; ac_rfl
  | 0, 2, _, _, _ => simp; ac_rfl
  | 0, 3, _, _, _ => simp; ac_rfl
  | 0, 4, _, _, _ => simp; ac_rfl
  | 0, 5, _, _, _ => simp; ac_rfl
  | 0, 6, _, _, _ => simp; ac_rfl
  | 0, 7, _, _, _ => simp; ac_rfl
  | 1, 0, _, _, _ => simp; ac_rfl
  | 1, 1, _, _, h => exact absurd rfl h
  | 1, 2, _, _, _ => simp; ac_rfl
  | 1, 3, _, _, _ => simp; ac_rfl
  | 1, 4, _, _, _ => simp; ac_rfl
  | 1, 5, _, _, _ => simp; ac_rfl
  | 1, 6, _, _, _ => simp; ac_rfl
  | 1, 7, _, _, _ => simp; ac_rfl
  | 2, 0, _, _, _ => simp; ac_rfl
  | 2, 1, _, _, _ => simp; ac_rfl
  | 2, 2, _, _, h => exact absurd rfl h
  | 2, 3, _, _, _ => simp; ac_rfl
  | 2, 4, _, _, _ => simp; ac_rfl
  | 2, 5, _, _, _ => simp; ac_rfl
  | 2, 6, _, _, _ => simp; ac_rfl
  | 2, 7, _, _, _ => simp; ac_rfl
  | 3, 0, _, _, _ => simp; ac_rfl
  | 3, 1, _, _, _ => simp; ac_rfl
  | 3, 2, _, _, _ => simp; ac_rfl
  | 3, 3, _, _, h => exact absurd rfl h
  | 3, 4, _, _, _ => simp; ac_rfl
  | 3, 5, _, _, _ => simp; ac_rfl
  | 3, 6, _, _, _ => simp; ac_rfl
  | 3, 7, _, _, _ => simp; ac_rfl
  | 4, 0, _, _, _ => simp; ac_rfl
  | 4, 1, _, _, _ => simp; ac_rfl
  | 4, 2, _, _, _ => simp; ac_rfl
  | 4, 3, _, _, _ => simp; ac_rfl
  | 4, 4, _, _, h => exact absurd rfl h
  | 4, 5, _, _, _ => simp; ac_rfl
  | 4, 6, _, _, _ => simp; ac_rfl
  | 4, 7, _, _, _ => simp; ac_rfl
  | 5, 0, _, _, _ => simp; ac_rfl
  | 5, 1, _, _, _ => simp; ac_rfl
  | 5, 2, _, _, _ => simp; ac_rfl
  | 5, 3, _, _, _ => simp; ac_rfl
  | 5, 4, _, _, _ => simp; ac_rfl
  | 5, 5, _, _, h => exact absurd rfl h
  | 5, 6, _, _, _ => simp; ac_rfl
  | 5, 7, _, _, _ => simp; ac_rfl
  | 6, 0, _, _, _ => simp; ac_rfl
  | 6, 1, _, _, _ => simp; ac_rfl
  | 6, 2, _, _, _ => simp; ac_rfl
  | 6, 3, _, _, _ => simp; ac_rfl
  | 6, 4, _, _, _ => simp; ac_rfl
  | 6, 5, _, _, _ => simp; ac_rfl
  | 6, 6, _, _, h => exact absurd rfl h
  | 6, 7, _, _, _ => simp; ac_rfl
  | 7, 0, _, _, _ => simp; ac_rfl
  | 7, 1, _, _, _ => simp; ac_rfl
  | 7, 2, _, _, _ => simp; ac_rfl
  | 7, 3, _, _, _ => simp; ac_rfl
  | 7, 4, _, _, _ => simp; ac_rfl
  | 7, 5, _, _, _ => simp; ac_rfl
  | 7, 6, _, _, _ => simp; ac_rfl
  | 7, 7, _, _, h => exact absurd rfl h
  | i + 8, j, h, _, _ => exact absurd h (by omega)
  | i, j + 8, _, h, _ => exact absurd h (by omega)
theorem wAcc_swap {s s' w : Nat → Int32} {i j : Nat} (hi : i < 8) (hj : j < 8) (hij : i ≠ j) (h : ∀ k, k < 8 → s' k = if k = j then s i else if k = i then s j else s k) : wAcc s' w 8 = wAcc s w 8 := by
  rw [wAcc_sum, wAcc_sum s, ← sum8_swap (fun k => if s k = -1 then 0 else w (s k).toNatClampNeg) i j hi hj hij]
  unfold sum8
  have e : ∀ k, k < 8 → (if s' k = -1 then 0 else w (s' k).toNatClampNeg) = (if k = j then (if s i = -1 then 0 else w (s i).toNatClampNeg) else if k = i then (if s j = -1 then 0 else w (s j).toNatClampNeg) else (if s k = -1 then 0 else w (s k).toNatClampNeg)) := by
    intro k hk
    rw [h k hk]
    by_cases c1 : k = j
    · rw [if_pos c1, if_pos c1]
    · rw [if_neg c1, if_neg c1]
      by_cases c2 : k = i
      · rw [if_pos c2, if_pos c2]
      · rw [if_neg c2, if_neg c2]
  dsimp only
  rw [e 0 (by omega), e 1 (by omega), e 2 (by omega), e 3 (by omega), e 4 (by omega), e 5 (by omega), e 6 (by omega), e 7 (by omega)]
theorem begin_eq {nr cr : Nat} {x : St} (h16 : nr ≤ 16) (hx : x.1 1 4 = nI nr) (hs : ∀ k, k < 8 → x.1 7 k = -1 ∨ ∃ i, i < nr ∧ x.1 7 k = nI i) : ∃ x', f_X1_begin x cr = some x' ∧ (∀ c, c ≠ 31 → c ≠ 32 → c ≠ 36 → x'.1 c = x.1 c) ∧ (∀ k, k < 8 → x'.1 32 k = x.1 7 k) ∧ (∀ i, i < 16 → x'.1 36 i = x.1 4 i) ∧ x'.1 31 7 = wAcc (x.1 7) (x.1 2) 8 + 200 ∧ x'.1 31 8 = 0 ∧ x'.1 31 10 = 0 ∧ x'.2.1 31 11 = 0 ∧ x'.2.1 31 12 = 0 ∧ x'.2.1 31 13 = 0 ∧ x'.2.1 31 14 = 0 ∧ x'.2.2.1 31 2 = some cr ∧ (∀ c, c ≠ 31 → x'.2.2.1 c = x.2.2.1 c) ∧ x'.2.2.2 = x.2.2.2 := by
  have hw : f_X0_weightOf (sA (sA (sR x 31 2 (some cr)) 32 (va_cpy (x.1 7) (x.1 32) (Int32.toNatClampNeg 0) (Int32.toNatClampNeg 0) (Int32.toNatClampNeg 8))) 36 (va_cpy (x.1 4) (x.1 36) (Int32.toNatClampNeg 0) (Int32.toNatClampNeg 0) (Int32.toNatClampNeg 16))) = some (wAcc (x.1 7) (x.1 2) 8) := by
    have e : ∀ c, c ≠ 32 → c ≠ 36 → (sA (sA (sR x 31 2 (some cr)) 32 (va_cpy (x.1 7) (x.1 32) (Int32.toNatClampNeg 0) (Int32.toNatClampNeg 0) (Int32.toNatClampNeg 8))) 36 (va_cpy (x.1 4) (x.1 36) (Int32.toNatClampNeg 0) (Int32.toNatClampNeg 0) (Int32.toNatClampNeg 16))).1 c = x.1 c := fun c c1 c2 => by
      rw [sA_ro _ 36 _ c c2, sA_ro _ 32 _ c c1]; rfl
    rw [xWeight h16 (by rw [e 1 (by omega) (by omega)]; exact hx) (fun k hk => by rw [e 7 (by omega) (by omega)]; exact hs k hk), e 7 (by omega) (by omega), e 2 (by omega) (by omega)]
  have r4 : (sA (sR x 31 2 (some cr)) 32 (va_cpy (x.1 7) (x.1 32) (Int32.toNatClampNeg 0) (Int32.toNatClampNeg 0) (Int32.toNatClampNeg 8))).1 4 = x.1 4 := by rw [sA_ro _ 32 _ 4 (by omega)]; rfl
  have r36 : (sA (sR x 31 2 (some cr)) 32 (va_cpy (x.1 7) (x.1 32) (Int32.toNatClampNeg 0) (Int32.toNatClampNeg 0) (Int32.toNatClampNeg 8))).1 36 = x.1 36 := by rw [sA_ro _ 32 _ 36 (by omega)]; rfl
  have r7 : (sR x 31 2 (some cr)).1 = x.1 := rfl
  unfold f_X1_begin
  simp only [nmE, g8, g16, r7, r4, r36, hw, bpE]
  refine ⟨_, rfl, fun c c1 c2 c3 => ?_, fun k hk => ?_, fun i hi => ?_, ?_, ?_, ?_, ?_, ?_, ?_, ?_, ?_, fun c hc => ?_, rfl⟩
  · simp only [sL_1, sI_ro _ 31 _ _ c c1, sA_ro _ 36 _ c c3, sA_ro _ 32 _ c c2, r7]
  · simp only [sL_1, sI_ro _ 31 _ _ 32 (show 32 ≠ 31 by omega), sA_ro _ 36 _ 32 (show 32 ≠ 36 by omega), sA_row, c8, cpy_in hk]
  · simp only [sL_1, sI_ro _ 31 _ _ 36 (show 36 ≠ 31 by omega), sA_row, c16, cpy_in hi]
  · simp [sL_1, sI_rd]
  · simp [sL_1, sI_rd]
  · simp [sL_1, sI_rd]
  · simp [sL_rd]
  · simp [sL_rd]
  · simp [sL_rd]
  · simp [sL_rd]
  · simp only [sL_22, sI_2]; exact sR_at x 31 2 (some cr)
  · simp only [sL_22, sI_2]
    show (sR x 31 2 (some cr)).2.2.1 c = x.2.2.1 c
    unfold sR va_up; simp [hc]
theorem begins_l {nr : Nat} (h16 : nr ≤ 16) : ∀ (d f k : Nat) (m : St), m.1 0 11 = nI nr → k + d = nr → d < f → ∃ m', (∀ K : St → Option St, f_X12_begins_l2 K f (nI k) m = K m') ∧ (∀ c, c ≠ 13 → m'.1 c = m.1 c) ∧ m'.2 = m.2 ∧ (∀ j, k ≤ j → j < nr → m'.1 13 j = m.1 6 j) ∧ (∀ j, j < k → m'.1 13 j = m.1 13 j) := by
  intro d
  induction d with
  | zero =>
    intro f k m h0 hk hf
    obtain ⟨f, rfl⟩ : ∃ g, f = g + 1 := ⟨f - 1, by omega⟩
    have : nI nr ≤ nI k := by rw [le_nI (by omega), nI_rng (by omega)]; omega
    exact ⟨m, fun K => by rw [f_X12_begins_l2, nmE, h0, if_pos this], fun _ _ => rfl, rfl, fun j a b => by omega, fun _ _ => rfl⟩
  | succ d ih =>
    intro f k m h0 hk hf
    obtain ⟨f, rfl⟩ : ∃ g, f = g + 1 := ⟨f - 1, by omega⟩
    have : ¬ nI nr ≤ nI k := by rw [le_nI (by omega), nI_rng (by omega)]; omega
    obtain ⟨m', q1, q2, q3, q4, q5⟩ := ih f (k + 1) (sI m 13 k (m.1 6 k)) (by rw [sI_ro _ 13 k _ 0 (by omega)]; exact h0) (by omega) (by omega)
    refine ⟨m', fun K => ?_, fun c hc => by rw [q2 c hc, sI_ro _ 13 k _ c hc], by rw [q3]; rfl, fun j j1 j2 => ?_, fun j hj => ?_⟩
    · rw [f_X12_begins_l2, nmE, h0, if_neg this, gdN (by omega) (by omega), nmE, gdN (by omega) (by omega), nmE, clampN (by omega), nI_1]
      exact q1 K
    · by_cases e : j = k
      · subst e
        rw [q5 j (by omega), sI_at]
      · rw [q4 j (by omega) j2, sI_ro _ 13 k _ 6 (by omega)]
    · rw [q5 j (by omega), sI_rne _ 13 k _ j (by omega)]
theorem begins_eq {nr : Nat} {m : St} (h16 : nr ≤ 16) (h0 : m.1 0 11 = nI nr) : ∃ m', f_X12_begins m = some m' ∧ (∀ c, c ≠ 0 → c ≠ 13 → m'.1 c = m.1 c) ∧ (∀ j, j ≠ 36 → j ≠ 41 → m'.1 0 j = m.1 0 j) ∧ m'.1 0 36 = 0 ∧ m'.1 0 41 = 0 ∧ (∀ j, j < nr → m'.1 13 j = m.1 6 j) ∧ m'.2.1 0 37 = 0 ∧ m'.2.1 0 38 = 0 ∧ m'.2.1 0 39 = 0 ∧ m'.2.1 0 40 = 0 := by
  obtain ⟨m1, q1, q2, q3, q4, q5⟩ := begins_l h16 nr FU 0 m h0 (by omega) (by unfold FU; omega)
  rw [show nI 0 = 0 from rfl] at q1
  unfold f_X12_begins
  rw [q1]
  simp only [nmE]
  refine ⟨_, rfl, fun c c1 c2 => ?_, fun j j1 j2 => ?_, ?_, ?_, fun j hj => ?_, ?_, ?_, ?_, ?_⟩
  · simp only [sI_ro _ 0 _ _ c c1, sL_1]; exact q2 c c2
  · simp only [sI_rne _ 0 41 _ j j2, sL_1, sI_rne _ 0 36 _ j j1]; rw [q2 0 (by omega)]
  · simp [sI_rd, sL_1]
  · simp [sI_rd]
  · simp only [sI_ro _ 0 _ _ 13 (show 13 ≠ 0 by omega), sL_1]; exact q4 j (by omega) hj
  · simp [sI_2, sL_rd]
  · simp [sI_2, sL_rd]
  · simp [sI_2, sL_rd]
  · simp [sI_2, sL_rd]
/-- what a row leaves as it is -/
def FRw (tc : Nat) (x m x' m' : St) : Prop := (∀ c, c < 31 ∨ 36 < c → x'.1 c = x.1 c) ∧ x'.2.2.2 = x.2.2.2 ∧ x'.2.2.1 19 = x.2.2.1 19 ∧ (x'.2.2.1 31 2 = x.2.2.1 31 2 ∨ ∃ j, j < tc ∧ x'.2.2.1 31 2 = some (66 + 2 * j)) ∧ (∀ c, c ≠ 0 → c ≠ 13 → m'.1 c = m.1 c) ∧ (∀ j, j < 17 ∨ (30 < j ∧ j ≠ 36 ∧ j ≠ 41) → m'.1 0 j = m.1 0 j)
theorem FRw.trans {tc : Nat} {x m x' m' x'' m'' : St} (h : FRw tc x m x' m') (g : FRw tc x' m' x'' m'') : FRw tc x m x'' m'' := by
  obtain ⟨a1, a2, a3, a4, a5, a6⟩ := h
  obtain ⟨b1, b2, b3, b4, b5, b6⟩ := g
  refine ⟨fun c hc => by rw [b1 c hc, a1 c hc], by rw [b2, a2], by rw [b3, a3], ?_, fun c c1 c2 => by rw [b5 c c1 c2, a5 c c1 c2], fun j hj => by rw [b6 j hj, a6 j hj]⟩
  rcases b4 with e | e
  · rw [e]; exact a4
  · exact Or.inr e
theorem FRw.of {tc : Nat} {x m x' m' : St} (h : FRs x m x' m') : FRw tc x m x' m' := ⟨fun c hc => h.1 c (by omega), by rw [h.2.2.1], by rw [h.2.2.1], Or.inl (by rw [h.2.2.1]), h.2.2.2.1, h.2.2.2.2⟩
abbrev A9 (PA : (Nat → Int32) → Nat → (Nat → Int32) → Nat → Int32 → Prop) (nc nr tc : Nat) (x m : St) : Prop := ICrew nr x m ∧ IBoat nr x m ∧ IKept nr tc x m ∧ ITape x m ∧ IText PA nc tc x m ∧ IPlan x m ∧ ITrial nr x m ∧ IRace x m ∧ ISheet x m
theorem FRw.a9 {PA : (Nat → Int32) → Nat → (Nat → Int32) → Nat → Int32 → Prop} {nc nr tc : Nat} {x m x' m' : St} (h : FRw tc x m x' m') (hA : A9 PA nc nr tc x m) : A9 PA nc nr tc x' m' := by
  obtain ⟨a1, a2, a3, a4, a5, a6⟩ := h
  obtain ⟨h1, h2, h3, h4, h5, h6, h7, h8, h9⟩ := hA
  have hxo : ∀ k, k < 31 ∨ 36 < k → x'.1 k = x.1 k := a1
  have hx0 : ∀ j, j ≠ 1000 → x'.1 0 j = x.1 0 j := fun j hj => by rw [hxo 0 (by omega)]
  have hx37 : x'.1 37 4 = x.1 37 4 := by rw [hxo 37 (by omega)]
  have hmo : ∀ k, k ≠ 0 ∧ k ≠ 13 → m'.1 k = m.1 k := fun k hk => a5 k hk.1 hk.2
  have hm0 : ∀ j, j < 17 ∨ (30 < j ∧ j ≠ 36 ∧ j ≠ 41) → m'.1 0 j = m.1 0 j := a6
  refine ⟨h1.cg (fun k a b => hxo k (by omega)) (hm0 11 (by omega)) (fun k a b => hmo k (by omega)), h2.cg (fun k a b => hxo k (by omega)) (hm0 15 (by omega)) (hm0 16 (by omega)) (fun k a b => hmo k (by omega)), h3.cg (hx0 4 (by omega)) (hx0 5 (by omega)) (fun k a b => hxo k (by omega)) (fun j a b => hm0 j (by omega)) (fun k a b => hmo k (by omega)), h4.cg (hxo 15 (by omega)) (hxo 16 (by omega)) (hm0 6 (by omega)) (hmo 3 (by omega)), ?_, h6.cg (fun k a b => hxo k (by omega)) (hm0 33 (by omega)) (hmo 11 (by omega)) (hmo 12 (by omega)), h7.cg hx37 (fun k a b => hxo k (by omega)) (hm0 46 (by omega)) (fun k a b => hmo k (by omega)), h8.cg (hxo 56 (by omega)) (hxo 57 (by omega)) (hm0 49 (by omega)) (hmo 20 (by omega)), h9.cg (fun k a b => hxo k (by omega)) (fun k a b => hmo k (by omega))⟩
  obtain ⟨t1, t2, t3, t4, t5, t6, t7, t8, t9⟩ := h5
  refine ⟨t1, t2, t3, by rw [hx0 9 (by omega)]; exact t4, by rw [hm0 3 (by omega)]; exact t5, by rw [hx0 10 (by omega), hm0 4 (by omega)]; exact t6, fun j hj => ?_, by rw [a3]; exact t8, ?_⟩
  · obtain ⟨b1, n, b2, b3, b4⟩ := t7 j hj
    exact ⟨by rw [a3]; exact b1, n, b2, by rw [hmo 2 (by omega)]; exact b3, by rw [hmo 1 (by omega), hxo _ (by omega), hxo _ (by omega), a2]; exact b4⟩
  · rcases a4 with e | e
    · rw [e]; exact t9
    · exact Or.inr e

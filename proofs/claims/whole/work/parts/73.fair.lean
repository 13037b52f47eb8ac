/-- times of races: alike -/
theorem xTime {x m : St} {n r l : Nat} (hn : n ≤ 20) (h : ∀ i, i < 6 * n → x.1 57 i = m.1 20 i ∧ rng (m.1 20 i) 0 9999) (hr : r < n) (hl : l < 6) : f_X5_timeOf x (nI r) (nI l) = some (m.1 20 (6 * r + l)) := by
  rw [f_X5_timeOf, nmE, (idx6 (show r < 20 by omega) hl).2.1, gdN (by omega) (by omega), nmE, clampN (by omega), (h _ (by omega)).1]
theorem first_eq {x m : St} {n r l : Nat} (hn : n ≤ 20) (h : ∀ i, i < 6 * n → x.1 57 i = m.1 20 i ∧ rng (m.1 20 i) 0 9999) (hr : r < n) (hl : l < 6) : ∀ (d f k : Nat), k + d = 6 → d < f → ∃ b : Int32, (b = 0 ∨ b = 1) ∧ f_X5_isFirst_l2 x (nI r) (nI l) f (nI k) = some b ∧ f_X12_isFirst_l5 m (nI r) (nI l) f 1 (nI k) = some b ∧ f_X12_isFirst_l5 m (nI r) (nI l) f 0 (nI k) = some 0 := by
  have e6 : (6 : Int32).toInt = 6 := rfl
  intro d
  induction d with
  | zero =>
    intro f k hk hf
    obtain ⟨f, rfl⟩ : ∃ g, f = g + 1 := ⟨f - 1, by omega⟩
    unfold f_X5_isFirst_l2 f_X12_isFirst_l5
    have : (6 : Int32) ≤ nI k := by rw [le_nI (by omega)]; omega
    rw [if_pos this, if_pos this, if_pos this]
    exact ⟨1, Or.inr rfl, rfl, rfl, rfl⟩
  | succ d ih =>
    intro f k hk hf
    obtain ⟨f, rfl⟩ : ∃ g, f = g + 1 := ⟨f - 1, by omega⟩
    obtain ⟨b, b0, b1, b2, b3⟩ := ih f (k + 1) (by omega) (by omega)
    have : ¬ (6 : Int32) ≤ nI k := by rw [le_nI (by omega)]; omega
    have i1 := (idx6 (show r < 20 by omega) (show k < 6 by omega)).1
    have i2 := (idx6 (show r < 20 by omega) hl).1
    have z : f_X12_isFirst_l5 m (nI r) (nI l) (f + 1) 0 (nI k) = some 0 := by
      rw [f_X12_isFirst_l5, if_neg this]
      simp only [jnE, if_true, nI_1]
      exact b3
    rw [z, f_X5_isFirst_l2, f_X12_isFirst_l5, if_neg this, if_neg this, xTime hn h hr (show k < 6 by omega), xTime hn h hr hl]
    unfold jn
    simp only [bpE, nmE, i1, i2, if_neg ne10, gdN (show 6 * r + k < 120 by omega) (show 120 ≤ 1000000 by omega), gdN (show 6 * r + l < 120 by omega) (show 120 ≤ 1000000 by omega), clampN (show 6 * r + k < 1000000 by omega), clampN (show 6 * r + l < 1000000 by omega), nI_1]
    by_cases t0 : m.1 20 (6 * r + k) = 0
    · simp only [if_pos t0]
      exact ⟨b, b0, b1, b2, trivial⟩
    · simp only [if_neg t0]
      by_cases t1 : m.1 20 (6 * r + l) ≤ m.1 20 (6 * r + k)
      · rw [if_pos t1, if_neg (by rw [lt32]; rw [le32] at t1; omega)]
        exact ⟨b, b0, b1, b2, trivial⟩
      · rw [if_neg t1, if_pos (by rw [lt32]; rw [le32] at t1; omega)]
        exact ⟨0, Or.inl rfl, rfl, b3, trivial⟩
theorem first_all {x m : St} {n r l : Nat} (hn : n ≤ 20) (h : ∀ i, i < 6 * n → x.1 57 i = m.1 20 i ∧ rng (m.1 20 i) 0 9999) (hr : r < n) (hl : l < 6) : ∃ b : Int32, (b = 0 ∨ b = 1) ∧ f_X5_isFirst x (nI r) (nI l) = some b ∧ f_X12_isFirst m (nI r) (nI l) = some b := by
  obtain ⟨b, b0, b1, b2, _⟩ := first_eq hn h hr hl 6 FU 0 rfl (by decide)
  exact ⟨b, b0, b1, b2⟩
theorem fair_cnt {x m : St} {n l : Nat} (hn : n ≤ 20) (h : ∀ i, i < 6 * n → x.1 57 i = m.1 20 i ∧ rng (m.1 20 i) 0 9999) (hx : x.1 56 1 = nI n) (hm : m.1 0 49 = nI n) (hl : l < 6) {K K' : Int32 → Int32 → Option Int32} : ∀ (d f k a b : Nat), k + d = n → d < f → a ≤ k → b ≤ k → ∃ a' b', a' ≤ n ∧ b' ≤ n ∧ f_X5_isFair_l7 x (nI l) K f (nI a) (nI b) (nI k) = K (nI a') (nI b') ∧ f_X12_fair_l18 m (nI l) K' f (nI a) (nI b) (nI k) = K' (nI a') (nI b') := by
  intro d
  induction d with
  | zero =>
    intro f k a b hk hf ha hb
    obtain ⟨f, rfl⟩ : ∃ g, f = g + 1 := ⟨f - 1, by omega⟩
    have : nI n ≤ nI k := by rw [le_nI (by omega), nI_rng (by omega)]; omega
    unfold f_X5_isFair_l7 f_X12_fair_l18
    simp only [nmE, hx, hm, if_pos this]
    exact ⟨a, b, by omega, by omega, rfl, rfl⟩
  | succ d ih =>
    intro f k a b hk hf ha hb
    obtain ⟨f, rfl⟩ : ∃ g, f = g + 1 := ⟨f - 1, by omega⟩
    have : ¬ nI n ≤ nI k := by rw [le_nI (by omega), nI_rng (by omega)]; omega
    have i1 := (idx6 (show k < 20 by omega) hl).1
    obtain ⟨w, w0, w1, w2⟩ := first_all hn h (show k < n by omega) hl
    rw [f_X5_isFair_l7, f_X12_fair_l18, xTime hn h (show k < n by omega) hl, w1, w2]
    unfold jn
    simp only [nmE, hx, hm, if_neg this, bpE, i1, gdN (show 6 * k + l < 120 by omega) (show 120 ≤ 1000000 by omega), clampN (show 6 * k + l < 1000000 by omega), nI_1]
    by_cases t0 : m.1 20 (6 * k + l) = 0
    · simp only [if_pos t0]
      exact ih f (k + 1) a b (by omega) (by omega) (by omega) (by omega)
    · simp only [if_neg t0]
      rcases w0 with rfl | rfl
      · simp only [if_true, Int32.add_zero]
        exact ih f (k + 1) (a + 1) b (by omega) (by omega) (by omega) (by omega)
      · simp only [if_neg ne10, nI_1]
        exact ih f (k + 1) (a + 1) (b + 1) (by omega) (by omega) (by omega) (by omega)
theorem half_up : ∀ a, a ≤ 20 → ∀ b, b ≤ 20 → (nI b < nI (a + 1) / 2 ↔ 2 * nI b < nI a) ∧ (nI a ≤ 0 ↔ a = 0) := by decide +kernel
theorem fair_eq {x m : St} {n : Nat} (hn : n ≤ 20) (h : ∀ i, i < 6 * n → x.1 57 i = m.1 20 i ∧ rng (m.1 20 i) 0 9999) (hx : x.1 56 1 = nI n) (hm : m.1 0 49 = nI n) : ∀ (d f k : Nat) (acc : Int32), k + d = 6 → d < f → ∃ r, f_X11_fair_l4 x f acc (nI k) = some r ∧ f_X12_fair_l4 m f acc (nI k) = some r := by
  have e6 : (6 : Int32).toInt = 6 := rfl
  intro d
  induction d with
  | zero =>
    intro f k acc hk hf
    obtain ⟨f, rfl⟩ : ∃ g, f = g + 1 := ⟨f - 1, by omega⟩
    unfold f_X11_fair_l4 f_X12_fair_l4
    have : (6 : Int32) ≤ nI k := by rw [le_nI (by omega)]; omega
    rw [if_pos this, if_pos this]
    exact ⟨_, rfl, rfl⟩
  | succ d ih =>
    intro f k acc hk hf
    obtain ⟨f, rfl⟩ : ∃ g, f = g + 1 := ⟨f - 1, by omega⟩
    have : ¬ (6 : Int32) ≤ nI k := by rw [le_nI (by omega)]; omega
    rw [f_X11_fair_l4, f_X12_fair_l4, if_neg this, if_neg this]
    unfold f_X5_isFair
    obtain ⟨a, b, ha, hb, q1, q2⟩ := fair_cnt (x := x) (m := m) (K := fun (x4 : Int32) (x5 : Int32) => (if x4 ≤ 0 then some 0 else (if (2 * x5) < x4 then some 0 else some 1))) (K' := fun (x7 : Int32) (x8 : Int32) => jn (fun (t24 : Int32) => nm (acc ||| t24) (fun v26 => f_X12_fair_l4 m f v26 (nI k + 1))) (fun (j25 : Int32 → Option Int32) => jn (j25 0) (fun (j27 : Option Int32) => (if x7 ≤ 0 then j27 else (if x8 < ((x7 + 1) / 2) then j27 else j25 (1 <<< (nI k &&& 31))))))) hn h hx hm (show k < 6 by omega) n FU 0 0 0 (by omega) (by unfold FU; omega) (by omega) (by omega)
    have z : nI 0 = 0 := rfl
    rw [z] at q1 q2
    rw [q1, q2]
    unfold jn nm
    obtain ⟨t1, t2⟩ := half_up a (by omega) b (by omega)
    have or0 : acc ||| 0 = acc := by simp
    by_cases c1 : nI a ≤ 0
    · simp only [if_pos c1, bpE, if_true, or0, nI_1]
      exact ih f (k + 1) acc (by omega) (by omega)
    · by_cases c2 : nI b < nI (a + 1) / 2
      · simp only [if_neg c1, if_pos c2, if_pos (t1.mp c2), bpE, if_true, or0, nI_1]
        exact ih f (k + 1) acc (by omega) (by omega)
      · simp only [if_neg c1, if_neg c2, if_neg (fun q => c2 (t1.mpr q)), bpE, if_neg ne10, nI_1]
        exact ih f (k + 1) _ (by omega) (by omega)
theorem p_fair {PA : (Nat → Int32) → Nat → (Nat → Int32) → Nat → Int32 → Prop} : P_fair (InvP PA) := by
  intro nc x m hI
  obtain ⟨nr, tc, h1, h2, h3, h4, h5, h6, h7, ⟨n, r1, r2, r3, r4⟩, h9⟩ := id hI
  obtain ⟨r, q1, q2⟩ := fair_eq r1 r4 r2 r3 6 FU 0 0 rfl (by decide)
  exact ⟨r, q1, q2, hI⟩

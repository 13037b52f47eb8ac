/-! lanes: sums, common divisors -/
theorem bd64 (a : Int64) : -9223372036854775808 ≤ a.toInt ∧ a.toInt < 9223372036854775808 := by
  have h1 := Int64.le_toInt a
  have h2 := Int64.toInt_lt a
  omega
theorem add64 {a b : Int64} (h : -9223372036854775808 ≤ a.toInt + b.toInt ∧ a.toInt + b.toInt < 9223372036854775808) : (a + b).toInt = a.toInt + b.toInt := by
  rw [Int64.toInt_add]; exact Int.bmod_eq_of_le (by omega) (by omega)
theorem sub64 {a b : Int64} (h : -9223372036854775808 ≤ a.toInt - b.toInt ∧ a.toInt - b.toInt < 9223372036854775808) : (a - b).toInt = a.toInt - b.toInt := by
  rw [Int64.toInt_sub]; exact Int.bmod_eq_of_le (by omega) (by omega)
theorem mul64 {a b : Int64} (h : -9223372036854775808 ≤ a.toInt * b.toInt ∧ a.toInt * b.toInt < 9223372036854775808) : (a * b).toInt = a.toInt * b.toInt := by
  rw [Int64.toInt_mul]; exact Int.bmod_eq_of_le (by omega) (by omega)
theorem neg64 {a : Int64} (h : a.toInt ≠ -9223372036854775808) : (-a).toInt = -a.toInt := by
  have := bd64 a
  rw [Int64.toInt_neg]; exact Int.bmod_eq_of_le (by omega) (by omega)
theorem neg32 {a : Int32} (h : a.toInt ≠ -2147483648) : (-a).toInt = -a.toInt := by
  have := bd32 a
  rw [Int32.toInt_neg]; exact Int.bmod_eq_of_le (by omega) (by omega)
theorem tdiv_abs (a b : Int) (hb : b ≠ 0) : (0 ≤ a → 0 ≤ a.tdiv b ∨ b < 0) ∧ (a.tdiv b).natAbs ≤ a.natAbs := by
  refine ⟨fun h => ?_, ?_⟩
  · by_cases hb2 : b < 0
    · exact Or.inr hb2
    · exact Or.inl (Int.tdiv_nonneg h (by omega))
  · rw [Int.natAbs_tdiv]
    exact Nat.div_le_self _ _
theorem div32 {a b : Int32} (h : -1000000000 ≤ a.toInt ∧ a.toInt ≤ 1000000000) (hb : b.toInt ≠ 0) : (a / b).toInt = a.toInt.tdiv b.toInt := by
  have := (tdiv_abs a.toInt b.toInt hb).2
  rw [Int32.toInt_div]; exact Int.bmod_eq_of_le (by omega) (by omega)
theorem div64 {a b : Int64} (h : -1000000000000000 ≤ a.toInt ∧ a.toInt ≤ 1000000000000000) (hb : b.toInt ≠ 0) : (a / b).toInt = a.toInt.tdiv b.toInt := by
  have := (tdiv_abs a.toInt b.toInt hb).2
  rw [Int64.toInt_div]; exact Int.bmod_eq_of_le (by omega) (by omega)
theorem rem_core (p q : Nat) : (p : Int) - (p : Int).tdiv q * q = ((p % q : Nat) : Int) := by
  rw [Int.tdiv_eq_ediv_of_nonneg (by omega)]
  have h := Int.emod_add_mul_ediv (p : Int) q
  have e : ((p % q : Nat) : Int) = (p : Int) % q := by simp
  rw [e, Int.mul_comm]
  omega
theorem rem32 {p q : Nat} (hp : p < 1000000) (hq : 0 < q) (hq2 : q < 1000000) : nI p - nI p / nI q * nI q = nI (p % q) := by
  have ep := nI_rng (n := p) (by omega)
  have eq := nI_rng (n := q) (by omega)
  have hm : p % q ≤ p := Nat.mod_le _ _
  have hd : (nI p / nI q).toInt = (p : Int).tdiv q := by rw [div32 (by omega) (by omega), ep, eq]
  have hc := rem_core p q
  have hmul : (nI p / nI q * nI q).toInt = (p : Int).tdiv q * q := by
    rw [mul32 (by rw [hd, eq]; omega), hd, eq]
  rw [eq32, sub32 (by rw [hmul]; omega), hmul, nI_rng (show p % q < 2147483648 by omega), ep]
  exact hc
theorem rem64 {X Y : Int64} {p q : Nat} (hp : p < 1000000) (hq : 0 < q) (hq2 : q < 1000000) (hX : X.toInt = p) (hY : Y.toInt = q) : (X - X / Y * Y).toInt = ((p % q : Nat) : Int) := by
  have hm : p % q ≤ p := Nat.mod_le _ _
  have hd : (X / Y).toInt = (p : Int).tdiv q := by rw [div64 (by omega) (by omega), hX, hY]
  have hc := rem_core p q
  have hmul : (X / Y * Y).toInt = (p : Int).tdiv q * q := by
    rw [mul64 (by rw [hd, hY]; omega), hd, hY]
  rw [sub64 (by rw [hmul]; omega), hmul, hX]
  exact hc
theorem gcd_eq : ∀ (s f p q st : Nat) (X Y : Int64), q ≤ s → s + st < 64 → s < f → p < 1000000 → q < 1000000 → X.toInt = p → Y.toInt = q → ∃ (g : Nat) (G : Int64), g < 1000000 ∧ (0 < q → 0 < g) ∧ (q = 0 → g = p) ∧ f_X11_commonDivisor_l7 f (nI p) (nI q) (nI st) = some (nI g) ∧ f_X12_common_l17 f X Y = some G ∧ G.toInt = g := by
  have e64 : (64 : Int32).toInt = 64 := rfl
  have l0 : (0 : Int64).toInt = 0 := rfl
  intro s
  induction s with
  | zero =>
    intro f p q st X Y h1 h2 h3 h4 h5 h6 h7
    obtain ⟨f, rfl⟩ : ∃ g, f = g + 1 := ⟨f - 1, by omega⟩
    have hq : q = 0 := by omega
    subst hq
    rw [f_X11_commonDivisor_l7, f_X12_common_l17, if_neg (by rw [le_nI (by omega)]; omega), if_pos (show nI 0 = 0 from rfl), if_pos (show Y = 0 by rw [eq64, h7]; rfl)]
    exact ⟨p, X, h4, fun h => by omega, fun _ => rfl, rfl, rfl, h6⟩
  | succ s ih =>
    intro f p q st X Y h1 h2 h3 h4 h5 h6 h7
    obtain ⟨f, rfl⟩ : ∃ g, f = g + 1 := ⟨f - 1, by omega⟩
    by_cases hq : q = 0
    · subst hq
      rw [f_X11_commonDivisor_l7, f_X12_common_l17, if_neg (by rw [le_nI (by omega)]; omega), if_pos (show nI 0 = 0 from rfl), if_pos (show Y = 0 by rw [eq64, h7]; rfl)]
      exact ⟨p, X, h4, fun h => by omega, fun _ => rfl, rfl, rfl, h6⟩
    · have hlt : p % q < q := Nat.mod_lt _ (by omega)
      have n1 : ¬ nI q = 0 := nI_ne0 (by omega) (by omega)
      have n2 : ¬ Y = 0 := fun e => by rw [e, l0] at h7; omega
      obtain ⟨g, G, g1, g2, g3, g4, g5, g6⟩ := ih f q (p % q) (st + 1) Y (X - X / Y * Y) (by omega) (by omega) (by omega) h5 (by omega) h7 (rem64 h4 (by omega) h5 h6 h7)
      rw [f_X11_commonDivisor_l7, f_X12_common_l17, if_neg (by rw [le_nI (by omega)]; omega), if_neg n1, if_neg n2, gd_pos n1, gd_pos n2, nmE, nmE, rem32 h4 (by omega) h5, nI_1]
      refine ⟨g, G, g1, fun _ => ?_, fun h => absurd h hq, g4, g5, g6⟩
      by_cases hz : p % q = 0
      · rw [g3 hz]; omega
      · exact g2 (by omega)
def dS (t : Nat → Int32) (a b : Nat) : Nat → Int
  | 0 => 0
  | k + 1 => dS t a b k + (if t (6 * k + a) = 0 ∨ t (6 * k + b) = 0 then 0 else (t (6 * k + a)).toInt - (t (6 * k + b)).toInt)
def mS (t : Nat → Int32) (a b : Nat) : Nat → Nat
  | 0 => 0
  | k + 1 => mS t a b k + (if t (6 * k + a) = 0 ∨ t (6 * k + b) = 0 then 0 else 1)
theorem dm_bd {t : Nat → Int32} {a b : Nat} : ∀ n, (∀ i, i < 6 * n + 6 → True) → (∀ k, k < n → rng (t (6 * k + a)) 0 9999 ∧ rng (t (6 * k + b)) 0 9999) → (dS t a b n).natAbs ≤ 9999 * n ∧ mS t a b n ≤ n ∧ (mS t a b n = 0 → dS t a b n = 0) := by
  intro n
  induction n with
  | zero => intro _ _; exact ⟨by simp [dS], by simp [mS], fun _ => rfl⟩
  | succ n ih =>
    intro _ h
    obtain ⟨i1, i2, i3⟩ := ih (fun _ _ => trivial) (fun k hk => h k (by omega))
    obtain ⟨r1, r2⟩ := h n (by omega)
    unfold dS mS
    unfold rng at r1 r2
    by_cases c : t (6 * n + a) = 0 ∨ t (6 * n + b) = 0
    · rw [if_pos c, if_pos c]
      exact ⟨by omega, by omega, fun q => by rw [i3 (by omega)]; rfl⟩
    · rw [if_neg c, if_neg c]
      exact ⟨by omega, by omega, fun q => by omega⟩
theorem xMet {x m : St} {n r a b : Nat} (hn : n ≤ 20) (h : ∀ i, i < 6 * n → x.1 57 i = m.1 20 i ∧ rng (m.1 20 i) 0 9999) (hr : r < n) (ha : a < 6) (hb : b < 6) : f_X5_met x (nI r) (nI a) (nI b) = some (if m.1 20 (6 * r + a) = 0 ∨ m.1 20 (6 * r + b) = 0 then 0 else 1) := by
  unfold f_X5_met
  rw [xTime hn h hr ha, xTime hn h hr hb]
  simp only [bpE]
  by_cases c1 : m.1 20 (6 * r + a) = 0
  · rw [if_pos c1, if_pos (Or.inl c1)]
  · by_cases c2 : m.1 20 (6 * r + b) = 0
    · rw [if_neg c1, if_pos c2, if_pos (Or.inr c2)]
    · rw [if_neg c1, if_neg c2, if_neg (by rintro (h | h); exact c1 h; exact c2 h)]
theorem diff_eq {x m : St} {n a b : Nat} (hn : n ≤ 20) (h : ∀ i, i < 6 * n → x.1 57 i = m.1 20 i ∧ rng (m.1 20 i) 0 9999) (hx : x.1 56 1 = nI n) (ha : a < 6) (hb : b < 6) : ∀ (d f k : Nat) (acc : Int32), k + d = n → d < f → acc.toInt = dS (m.1 20) a b k → ∃ r, f_X5_differences_l5 x (nI a) (nI b) f acc (nI k) = some r ∧ r.toInt = dS (m.1 20) a b n := by
  intro d
  induction d with
  | zero =>
    intro f k acc hk hf he
    obtain ⟨f, rfl⟩ : ∃ g, f = g + 1 := ⟨f - 1, by omega⟩
    have : nI n ≤ nI k := by rw [le_nI (by omega), nI_rng (by omega)]; omega
    unfold f_X5_differences_l5
    simp only [nmE, hx, if_pos this]
    exact ⟨acc, rfl, by rw [he, show k = n by omega]⟩
  | succ d ih =>
    intro f k acc hk hf he
    obtain ⟨f, rfl⟩ : ∃ g, f = g + 1 := ⟨f - 1, by omega⟩
    have : ¬ nI n ≤ nI k := by rw [le_nI (by omega), nI_rng (by omega)]; omega
    rw [f_X5_differences_l5, xMet hn h (show k < n by omega) ha hb, xTime hn h (show k < n by omega) ha, xTime hn h (show k < n by omega) hb]
    simp only [nmE, jnE, hx, if_neg this, bpE, nI_1]
    have hd : dS (m.1 20) a b (k + 1) = dS (m.1 20) a b k + (if m.1 20 (6 * k + a) = 0 ∨ m.1 20 (6 * k + b) = 0 then 0 else (m.1 20 (6 * k + a)).toInt - (m.1 20 (6 * k + b)).toInt) := rfl
    have hbd := (dm_bd (t := m.1 20) (a := a) (b := b) k (fun _ _ => trivial) (fun i hi => ⟨(h _ (by omega)).2, (h _ (by omega)).2⟩)).1
    by_cases c : m.1 20 (6 * k + a) = 0 ∨ m.1 20 (6 * k + b) = 0
    · rw [if_pos c] at hd
      simp only [if_pos c, if_true]
      exact ih f (k + 1) acc (by omega) (by omega) (by rw [hd]; omega)
    · rw [if_neg c] at hd
      simp only [if_neg c, if_neg ne10]
      have r1 := (h (6 * k + a) (by omega)).2
      have r2 := (h (6 * k + b) (by omega)).2
      unfold rng at r1 r2
      have hs : (m.1 20 (6 * k + a) - m.1 20 (6 * k + b)).toInt = (m.1 20 (6 * k + a)).toInt - (m.1 20 (6 * k + b)).toInt := sub32 (by omega)
      exact ih f (k + 1) _ (by omega) (by omega) (by rw [add32 (by rw [hs]; omega), hs, hd, he])
theorem meet_eq {x m : St} {n a b : Nat} (hn : n ≤ 20) (h : ∀ i, i < 6 * n → x.1 57 i = m.1 20 i ∧ rng (m.1 20 i) 0 9999) (hx : x.1 56 1 = nI n) (ha : a < 6) (hb : b < 6) : ∀ (d f k : Nat), k + d = n → d < f → f_X5_meetings_l5 x (nI a) (nI b) f (nI (mS (m.1 20) a b k)) (nI k) = some (nI (mS (m.1 20) a b n)) := by
  intro d
  induction d with
  | zero =>
    intro f k hk hf
    obtain ⟨f, rfl⟩ : ∃ g, f = g + 1 := ⟨f - 1, by omega⟩
    have : nI n ≤ nI k := by rw [le_nI (by omega), nI_rng (by omega)]; omega
    unfold f_X5_meetings_l5
    simp only [nmE, hx, if_pos this]
    rw [show k = n by omega]
  | succ d ih =>
    intro f k hk hf
    obtain ⟨f, rfl⟩ : ∃ g, f = g + 1 := ⟨f - 1, by omega⟩
    have : ¬ nI n ≤ nI k := by rw [le_nI (by omega), nI_rng (by omega)]; omega
    have hnext := ih f (k + 1) (by omega) (by omega)
    rw [f_X5_meetings_l5, xMet hn h (show k < n by omega) ha hb]
    simp only [nmE, jnE, hx, if_neg this, bpE, nI_1]
    have hc : mS (m.1 20) a b (k + 1) = mS (m.1 20) a b k + (if m.1 20 (6 * k + a) = 0 ∨ m.1 20 (6 * k + b) = 0 then 0 else 1) := rfl
    rw [hc] at hnext
    by_cases c : m.1 20 (6 * k + a) = 0 ∨ m.1 20 (6 * k + b) = 0
    · simp only [if_pos c, if_true, Nat.add_zero] at hnext ⊢
      exact hnext
    · simp only [if_neg c, if_neg ne10] at hnext ⊢
      exact hnext
theorem lanes_eq {m : St} {n a b : Nat} (hn : n ≤ 20) (h : ∀ i, i < 6 * n → rng (m.1 20 i) 0 9999) (hm : m.1 0 49 = nI n) (ha : a < 6) (hb : b < 6) {K : Int64 → Int64 → Option Int64} : ∀ (d f k : Nat) (A B : Int64), k + d = n → d < f → A.toInt = dS (m.1 20) a b k → B.toInt = mS (m.1 20) a b k → ∃ A' B', f_X12_lanes_l42 m (nI a) (nI b) K f A B (nI k) = K A' B' ∧ A'.toInt = dS (m.1 20) a b n ∧ B'.toInt = mS (m.1 20) a b n := by
  have l1 : (1 : Int64).toInt = 1 := rfl
  intro d
  induction d with
  | zero =>
    intro f k A B hk hf h1 h2
    obtain ⟨f, rfl⟩ : ∃ g, f = g + 1 := ⟨f - 1, by omega⟩
    have : nI n ≤ nI k := by rw [le_nI (by omega), nI_rng (by omega)]; omega
    have hkn : k = n := by omega
    subst hkn
    unfold f_X12_lanes_l42
    simp only [nmE, hm, if_pos this]
    exact ⟨A, B, rfl, h1, h2⟩
  | succ d ih =>
    intro f k A B hk hf h1 h2
    obtain ⟨f, rfl⟩ : ∃ g, f = g + 1 := ⟨f - 1, by omega⟩
    have : ¬ nI n ≤ nI k := by rw [le_nI (by omega), nI_rng (by omega)]; omega
    have i1 := (idx6 (show k < 20 by omega) ha).1
    have i2 := (idx6 (show k < 20 by omega) hb).1
    rw [f_X12_lanes_l42]
    unfold jn
    simp only [nmE, hm, if_neg this, i1, i2, gdN (show 6 * k + a < 120 by omega) (show 120 ≤ 1000000 by omega), gdN (show 6 * k + b < 120 by omega) (show 120 ≤ 1000000 by omega), clampN (show 6 * k + a < 1000000 by omega), clampN (show 6 * k + b < 1000000 by omega), nI_1]
    have hd : dS (m.1 20) a b (k + 1) = dS (m.1 20) a b k + (if m.1 20 (6 * k + a) = 0 ∨ m.1 20 (6 * k + b) = 0 then 0 else (m.1 20 (6 * k + a)).toInt - (m.1 20 (6 * k + b)).toInt) := rfl
    have hc : mS (m.1 20) a b (k + 1) = mS (m.1 20) a b k + (if m.1 20 (6 * k + a) = 0 ∨ m.1 20 (6 * k + b) = 0 then 0 else 1) := rfl
    have hbd := dm_bd (t := m.1 20) (a := a) (b := b) k (fun _ _ => trivial) (fun i hi => ⟨h _ (by omega), h _ (by omega)⟩)
    by_cases c1 : m.1 20 (6 * k + a) = 0
    · rw [if_pos (Or.inl c1)] at hd hc
      simp only [if_pos c1]
      exact ih f (k + 1) A B (by omega) (by omega) (by rw [hd]; omega) (by rw [hc]; omega)
    · by_cases c2 : m.1 20 (6 * k + b) = 0
      · rw [if_pos (Or.inr c2)] at hd hc
        simp only [if_neg c1, if_pos c2]
        exact ih f (k + 1) A B (by omega) (by omega) (by rw [hd]; omega) (by rw [hc]; omega)
      · have c : ¬ (m.1 20 (6 * k + a) = 0 ∨ m.1 20 (6 * k + b) = 0) := by rintro (h | h); exact c1 h; exact c2 h
        rw [if_neg c] at hd hc
        simp only [if_neg c1, if_neg c2]
        have r1 := h (6 * k + a) (by omega)
        have r2 := h (6 * k + b) (by omega)
        unfold rng at r1 r2
        have hs : (Int32.toInt64 (m.1 20 (6 * k + a) - m.1 20 (6 * k + b))).toInt = (m.1 20 (6 * k + a)).toInt - (m.1 20 (6 * k + b)).toInt := by rw [i2l_toInt]; exact sub32 (by omega)
        exact ih f (k + 1) _ _ (by omega) (by omega) (by rw [add64 (by rw [hs]; omega), hs, hd, h1]) (by rw [add64 (by rw [l1]; omega), l1, hc, h2]; omega)
theorem p_lanes {PA : (Nat → Int32) → Nat → (Nat → Int32) → Nat → Int32 → Prop} : P_lanes (InvP PA) := by
  intro nc x m a b c hI
  obtain ⟨nr, tc, h1, h2, h3, h4, h5, h6, h7, ⟨n, r1, r2, r3, r4⟩, h9⟩ := id hI
  have e0 : (0 : Int32).toInt = 0 := rfl
  have e1 : (1 : Int32).toInt = 1 := rfl
  have l0 : (0 : Int64).toInt = 0 := rfl
  have l1 : (1 : Int64).toInt = 1 := rfl
  unfold f_X11_lanes f_X12_lanes
  rw [xLane, mLane, xLane, mLane, w_in, m_in, e0, e1, l0, l1]
  simp only [bpE]
  by_cases ha : 0 ≤ a.toInt ∧ a.toInt ≤ 5
  · by_cases hb : 0 ≤ b.toInt ∧ b.toInt ≤ 5
    · by_cases hab : a = b
      · rw [iz_pos ha, iz_pos hb]
        simp only [if_neg ne10, if_pos hab]
        exact ⟨_, rfl, rfl, hI⟩
      · by_cases hc : 0 ≤ c.toInt ∧ c.toInt ≤ 1
        · obtain ⟨i, hi, rfl⟩ := of_rng (n := 6) ha.1 (by omega)
          obtain ⟨j, hj, rfl⟩ := of_rng (n := 6) hb.1 (by omega)
          rw [iz_pos ha, iz_pos hb, iz_pos hc]
          simp only [if_neg ne10, if_neg hab]
          obtain ⟨D, d1, d2⟩ := diff_eq r1 r4 r2 hi hj n FU 0 0 (by omega) (by unfold FU; omega) (by simp [dS])
          have m1 := meet_eq r1 r4 r2 hi hj n FU 0 (by omega) (by unfold FU; omega)
          obtain ⟨A, B, k1, k2, k3⟩ := lanes_eq (K := (fun (x11 : Int64) (x12 : Int64) => (if x12 = 0 then some (Int32.toInt64 c) else jn (fun (t30 : Int64) => bp (f_X12_common x11 x12) (fun v32 => gd (¬ v32 = 0) (some (t30 / v32)))) (fun (j31 : Int64 → Option Int64) => (if c = 0 then j31 x11 else j31 x12))))) r1 (fun i hi => (r4 i hi).2) r3 hi hj n FU 0 0 0 (by omega) (by unfold FU; omega) (by simp [dS]) (by simp [mS])
          obtain ⟨b1, b2, b3⟩ := dm_bd (t := m.1 20) (a := i) (b := j) n (fun _ _ => trivial) (fun k hk => ⟨(r4 _ (by omega)).2, (r4 _ (by omega)).2⟩)
          have z : nI 0 = 0 := rfl
          rw [z] at d1 k1
          rw [show nI (mS (m.1 20) i j 0) = 0 from rfl, z] at m1
          unfold f_X5_differences f_X5_meetings
          rw [d1, m1, k1]
          simp only [bpE, nmE]
          generalize hp : (dS (m.1 20) i j n).natAbs = p at *
          generalize hq : mS (m.1 20) i j n = q at *
          have habs : (if 0 ≤ D then D else 0 - D) = nI p := by
            rw [eq32, nI_rng (by omega)]
            by_cases hD : 0 ≤ D
            · rw [if_pos hD]; rw [le32] at hD; omega
            · rw [if_neg hD, sub32 (by omega)]; rw [le32] at hD; omega
          rw [habs]
          obtain ⟨X, hX, hXe⟩ : ∃ X : Int64, X.toInt = p ∧ f_X12_common A B = f_X12_common_l17 FU X B := by
            rw [f_X12_common, jnE]
            by_cases hA : 0 ≤ A
            · refine ⟨A, ?_, by rw [if_pos hA]⟩
              rw [le64] at hA; omega
            · refine ⟨-A, ?_, by rw [if_neg hA]⟩
              rw [le64] at hA
              rw [neg64 (by omega)]; omega
          obtain ⟨g, G, g1, g2, g3, g4, g5, g6⟩ := gcd_eq q FU p q 0 X B (Nat.le_refl _) (by omega) (by unfold FU; omega) (by omega) (by omega) hX k3
          unfold f_X11_commonDivisor
          rw [z] at g4
          rw [g4, hXe, g5]
          simp only [bpE, jnE]
          by_cases hq0 : q = 0
          · have hp0 : p = 0 := by have := b3 hq0; omega
            have hg0 : g = 0 := by rw [g3 hq0]; exact hp0
            have hB : B = 0 := by rw [eq64, k3, hq0]; rfl
            rw [hg0, if_pos hB, if_pos (show nI 0 = 0 from rfl)]
            by_cases c0 : c = 0
            · rw [if_pos c0, c0]; exact ⟨_, rfl, rfl, hI⟩
            · have c1 : c = 1 := by
                have : c.toInt ≠ 0 := fun e => c0 (eq32.mpr e)
                rw [eq32, e1]; omega
              rw [if_neg c0, c1]; exact ⟨_, rfl, rfl, hI⟩
          · have hg := g2 (by omega)
            have hB : ¬ B = 0 := fun e => by rw [e, l0] at k3; omega
            have n1 : ¬ nI g = 0 := nI_ne0 hg (by omega)
            have n2 : ¬ G = 0 := fun e => by rw [e, l0] at g6; omega
            rw [if_neg hB, if_neg n1]
            have eg := nI_rng (n := g) (by omega)
            have eq := nI_rng (n := q) (by omega)
            simp only [gd_pos n1, gd_pos n2]
            by_cases c0 : c = 0
            · rw [if_pos c0, if_pos c0]
              refine ⟨_, rfl, ?_, hI⟩
              rw [Option.some_inj, eq64, i2l_toInt, div64 (by omega) (by omega), div32 (by omega) (by omega), g6, eg, k2, d2]
            · rw [if_neg c0, if_neg c0]
              refine ⟨_, rfl, ?_, hI⟩
              rw [Option.some_inj, eq64, i2l_toInt, div64 (by omega) (by omega), div32 (by omega) (by omega), g6, eg, k3, eq]
        · rw [iz_pos ha, iz_pos hb, iz_neg hc]
          simp only [if_neg ne10, if_neg hab, if_true]
          exact ⟨_, rfl, rfl, hI⟩
    · rw [iz_pos ha, iz_neg hb]
      simp only [if_neg ne10, if_true]
      exact ⟨_, rfl, rfl, hI⟩
  · rw [iz_neg ha]
    exact ⟨_, rfl, rfl, hI⟩

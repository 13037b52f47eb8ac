/-! the model's bounds: all ways by ever more rowers between -/
def FW (E : Ed) (nr k : Nat) (M : Mx) : Prop := (∀ D', Sol E D' → Lem D' M) ∧ (∀ a, a < 16 → M a a = 0) ∧ (∀ j, j < k → ∀ a b, a < 16 → b < 16 → fn (M a j) → fn (M j b) → fn (M a b) ∧ M a b ≤ M a j + M j b) ∧ (∀ a b w, a < 16 → b < 16 → E a b w → fn (M a b) ∧ M a b ≤ w) ∧ (∀ a b, a < 16 → b < 16 → fn (M a b) → a = b ∨ (a < nr ∧ b < nr)) ∧ (∀ a b, a < 16 → b < 16 → fn (M a b) → M a b ≤ 10998 * ((cnt (btw M a b) k : Int) + 1) ∧ -(10998 * (2 : Int) ^ k) ≤ M a b)
theorem pow2 (k : Nat) : (2 : Int) ^ (k + 1) = 2 * (2 : Int) ^ k := by rw [Int.pow_succ]; omega
theorem pow2_pos (k : Nat) : 1 ≤ (2 : Int) ^ k := by
  induction k with
  | zero => simp
  | succ k ih => rw [pow2]; omega
theorem FW.le {E : Ed} {nr k : Nat} {M : Mx} (h : FW E nr k M) (hk : k ≤ 16) : ∀ i j, i < 16 → j < 16 → M i j ≠ 999999 → M i j ≤ 186966 := fun i j hi hj f => by
  have h1 := (h.2.2.2.2.2 i j hi hj f).1
  have h2 := cnt_le (btw M i j) k
  omega
theorem fw_step {E : Ed} {nr k : Nat} {M : Mx} (h : FW E nr k M) (hk : k < 16) (hkn : k < nr) (hnr : nr ≤ 16) : (∀ D', Sol E D' → Lem D' (tight M k k 0)) ∧ ((∀ a, a < 16 → 0 ≤ tight M k k 0 a a) → FW E nr (k + 1) (tight M k k 0)) ∧ (∀ i j, i < 16 → j < 16 → (nr ≤ i ∨ nr ≤ j) → tight M k k 0 i j = M i j) ∧ (∀ j, tight M k k 0 k j = M k j) ∧ (∀ i, tight M k k 0 i k = M i k) := by
  have hle := h.le (by omega)
  obtain ⟨h1, h2, h3, h4, h5, h6⟩ := h
  have hp := fun i j (hi : i < 16) (hj : j < 16) => tight_p (D := M) (a := k) (b := k) (w := 0) i j (fun e1 e2 => by have := hle i k hi hk e1; have := hle k j hk hj e2; omega)
  have hkk := h2 k hk
  have hrow : ∀ j, tight M k k 0 k j = M k j := fun j => by
    unfold tight
    rw [if_neg (fun z => by have := z.2.2; omega)]
  have hcol : ∀ i, tight M k k 0 i k = M i k := fun i => by
    unfold tight
    rw [if_neg (fun z => by have := z.2.2; omega)]
  have hfin : ∀ i j, i < 16 → j < 16 → fn (M i j) → fn (tight M k k 0 i j) := fun i j hi hj hf => by
    rcases (hp i j hi hj).2.2.2 hf with q | q
    · exact q
    · have := hle i j hi hj hf; omega
  have hL : ∀ D', Sol E D' → Lem D' (tight M k k 0) := by
    intro D' hD' i j hi hj f
    have hl := h1 D' hD'
    rcases (hp i j hi hj).2.2.1 with e | ⟨e1, e2, e3⟩
    · rw [e] at f ⊢; exact hl i j hi hj f
    · rw [e3]
      obtain ⟨l1, l2⟩ := hl i k hi hk e1
      obtain ⟨l3, l4⟩ := hl k j hk hj e2
      obtain ⟨l5, l6⟩ := hD'.2.1 i k j hi hk hj l1 l3
      exact ⟨l5, by omega⟩
  refine ⟨hL, fun hd => ⟨hL, fun a ha => ?_, fun j hj a b ha hb f1 f2 => ?_, fun a b w ha hb e => ?_, fun a b ha hb f => ?_, fun a b ha hb f => ?_⟩, fun i j hi hj hij => ?_, hrow, hcol⟩
  · have := hd a ha
    have := (hp a a ha ha).1
    have := h2 a ha
    omega
  · by_cases ej : j = k
    · subst ej
      rw [hcol a] at f1 ⊢
      rw [hrow b] at f2 ⊢
      obtain ⟨q1, q2⟩ := (hp a b ha hb).2.1 f1 f2
      exact ⟨q1, by omega⟩
    · have hj' : j < k := by omega
      have hj16 : j < 16 := by omega
      have cl := h3 j hj'
      rcases (hp a j ha hj16).2.2.1 with e | ⟨e1, e2, e3⟩
      · rcases (hp j b hj16 hb).2.2.1 with g | ⟨g1, g2, g3⟩
        · rw [e] at f1 ⊢
          rw [g] at f2 ⊢
          obtain ⟨q1, q2⟩ := cl a b ha hb f1 f2
          exact ⟨hfin a b ha hb q1, by have := (hp a b ha hb).1; omega⟩
        · rw [e] at f1 ⊢
          rw [g3]
          obtain ⟨q1, q2⟩ := cl a k ha hk f1 g1
          obtain ⟨q3, q4⟩ := (hp a b ha hb).2.1 q1 g2
          exact ⟨q3, by omega⟩
      · rcases (hp j b hj16 hb).2.2.1 with g | ⟨g1, g2, g3⟩
        · rw [g] at f2 ⊢
          rw [e3]
          obtain ⟨q1, q2⟩ := cl k b hk hb e2 f2
          obtain ⟨q3, q4⟩ := (hp a b ha hb).2.1 e1 q1
          exact ⟨q3, by omega⟩
        · rw [e3, g3]
          obtain ⟨q1, q2⟩ := cl k k hk hk e2 g1
          obtain ⟨q3, q4⟩ := (hp a b ha hb).2.1 e1 g2
          exact ⟨q3, by omega⟩
  · obtain ⟨q1, q2⟩ := h4 a b w ha hb e
    exact ⟨hfin a b ha hb q1, by have := (hp a b ha hb).1; omega⟩
  · rcases (hp a b ha hb).2.2.1 with e | ⟨e1, e2, e3⟩
    · rw [e] at f; exact h5 a b ha hb f
    · have q1 := h5 a k ha hk e1
      have q2 := h5 k b hk hb e2
      right
      omega
  · have hmono : cnt (btw M a b) k ≤ cnt (btw (tight M k k 0) a b) (k + 1) := by
      have m1 : cnt (btw M a b) k ≤ cnt (btw (tight M k k 0) a b) k := cnt_mono k (fun q hq hb' => by
        unfold btw at hb' ⊢
        simp only [decide_eq_true_eq] at hb' ⊢
        exact ⟨hfin a q ha (by omega) hb'.1, hfin q b (by omega) hb hb'.2⟩)
      have m2 : cnt (btw (tight M k k 0) a b) (k + 1) = cnt (btw (tight M k k 0) a b) k + (if btw (tight M k k 0) a b k then 1 else 0) := rfl
      rw [m2]; omega
    have hpw := pow2 k
    have hpp := pow2_pos k
    by_cases c : fn (M a b)
    · obtain ⟨u1, u2⟩ := h6 a b ha hb c
      have h0 := (hp a b ha hb).1
      refine ⟨by omega, ?_⟩
      rcases (hp a b ha hb).2.2.1 with e | ⟨e1, e2, e3⟩
      · rw [e]; omega
      · rw [e3]
        have := (h6 a k ha hk e1).2
        have := (h6 k b hk hb e2).2
        omega
    · rcases (hp a b ha hb).2.2.1 with e | ⟨e1, e2, e3⟩
      · rw [e] at f; exact absurd f c
      · rw [e3]
        obtain ⟨u1, u2⟩ := h6 a k ha hk e1
        obtain ⟨u3, u4⟩ := h6 k b hk hb e2
        have hk1 : cnt (btw (tight M k k 0) a b) (k + 1) = cnt (btw (tight M k k 0) a b) k + 1 := by
          show cnt (btw (tight M k k 0) a b) k + (if btw (tight M k k 0) a b k then 1 else 0) = _
          have : btw (tight M k k 0) a b k = true := by
            unfold btw
            rw [hcol a, hrow b]
            simp only [decide_eq_true_eq]
            exact ⟨e1, e2⟩
          rw [this, if_pos rfl]
        have h3' : cnt (btw M a k) k + cnt (btw M k b) k ≤ cnt (btw (tight M k k 0) a b) k := by
          refine cnt_add k (fun q hq hb' => ?_) (fun q hq hb' => ?_) (fun q hq hb' => ?_)
          · unfold btw at hb' ⊢
            simp only [decide_eq_true_eq] at hb' ⊢
            exact ⟨hfin a q ha (by omega) hb'.1, ((hp q b (by omega) hb).2.1 hb'.2 e2).1⟩
          · unfold btw at hb' ⊢
            simp only [decide_eq_true_eq] at hb' ⊢
            exact ⟨((hp a q ha (by omega)).2.1 e1 hb'.1).1, hfin q b (by omega) hb hb'.2⟩
          · unfold btw at hb'
            simp only [decide_eq_true_eq] at hb'
            exact c (h3 q hq a b ha hb hb'.1.1 hb'.2.2).1
        constructor
        · omega
        · omega
  · unfold tight
    rw [if_neg (fun z => by
      rcases hij with hij | hij
      · have := h5 i k hi hk z.1; omega
      · have := h5 k j hk hj z.2.1; omega)]
theorem fw_end {E : Ed} {nr : Nat} {M : Mx} (h : FW E nr nr M) (hnr : nr ≤ 16) : Gr E M := by
  obtain ⟨h1, h2, h3, h4, h5, h6⟩ := h
  refine ⟨⟨h2, fun a b c ha hb hc f1 f2 => ?_, h4⟩, h1⟩
  by_cases hbn : b < nr
  · exact h3 b hbn a c ha hc f1 f2
  · have q1 := h5 a b ha hb f1
    have q2 := h5 b c hb hc f2
    have e1 : a = b := by omega
    have e2 : b = c := by omega
    subst e1; subst e2
    exact ⟨f1, by have := h2 a ha; omega⟩
/-! the model's programs -/
def MM (m : St) : Mx := fun i j => (m.2.1 19 (16 * i + j)).toInt
def FL (m m' : St) : Prop := m'.1 = m.1 ∧ (∀ c, c ≠ 19 → m'.2.1 c = m.2.1 c) ∧ m'.2.2 = m.2.2
theorem FL.rfl' (m : St) : FL m m := ⟨rfl, fun _ _ => rfl, rfl⟩
theorem FL.trans {m m' m'' : St} (h : FL m m') (g : FL m' m'') : FL m m'' := ⟨by rw [g.1, h.1], fun c hc => by rw [g.2.1 c hc, h.2.1 c hc], by rw [g.2.2, h.2.2]⟩
theorem idx16 {a b : Nat} (ha : a < 16) (hb : b < 16) : (16 : Int32) * nI a + nI b = nI (16 * a + b) := by
  rw [show (16 : Int32) = nI 16 from rfl, mul_nI 16 a (by omega) (by omega) (by omega), nI_add]
theorem n999l {v : Int64} : v = 999999 ↔ v.toInt = 999999 := by rw [eq64]; exact Iff.rfl
theorem boundsE {m : St} {a b : Nat} {V : Int64} (ha : a < 16) (hb : b < 16) (hV : V.toInt < 999999) : ∃ m', f_X12_bounds m (nI a) (nI b) V = some m' ∧ FL m m' ∧ (∀ i j, i < 16 → j < 16 → MM m' i j = if i = a ∧ j = b ∧ V.toInt < MM m a b then V.toInt else MM m i j) := by
  unfold f_X12_bounds
  simp only [nmE, idx16 ha hb, gdN (show 16 * a + b < 256 by omega) (show 256 ≤ 1000000 by omega), clampN (show 16 * a + b < 1000000 by omega), jnE]
  have set : ∃ m', (some (sL m 19 (16 * a + b) V) : Option St) = some m' ∧ FL m m' ∧ (∀ i j, i < 16 → j < 16 → MM m' i j = if i = a ∧ j = b then V.toInt else MM m i j) := by
    refine ⟨_, rfl, ⟨rfl, fun c hc => sL_ro _ 19 _ _ c hc, rfl⟩, fun i j hi hj => ?_⟩
    unfold MM
    rw [sL_rd]
    by_cases c : i = a ∧ j = b
    · obtain ⟨rfl, rfl⟩ := c
      rw [if_pos ⟨rfl, rfl⟩, if_pos ⟨rfl, rfl⟩]
    · rw [if_neg (fun z => c (by omega)), if_neg c]
  have hab : (m.2.1 19 (16 * a + b)).toInt = MM m a b := rfl
  by_cases c1 : m.2.1 19 (16 * a + b) = 999999
  · rw [if_pos c1]
    obtain ⟨m', q1, q2, q3⟩ := set
    refine ⟨m', q1, q2, fun i j hi hj => ?_⟩
    rw [q3 i j hi hj]
    have hd : MM m a b = 999999 := n999l.mp c1
    by_cases c : i = a ∧ j = b
    · rw [if_pos c, if_pos ⟨c.1, c.2, by omega⟩]
    · rw [if_neg c, if_neg (fun z => c ⟨z.1, z.2.1⟩)]
  · rw [if_neg c1]
    by_cases c2 : m.2.1 19 (16 * a + b) ≤ V
    · rw [if_pos c2]
      rw [le64, hab] at c2
      refine ⟨m, rfl, FL.rfl' m, fun i j hi hj => ?_⟩
      rw [if_neg (fun z => by have := z.2.2; omega)]
    · rw [if_neg c2]
      rw [le64, hab] at c2
      obtain ⟨m', q1, q2, q3⟩ := set
      refine ⟨m', q1, q2, fun i j hi hj => ?_⟩
      rw [q3 i j hi hj]
      by_cases c : i = a ∧ j = b
      · rw [if_pos c, if_pos ⟨c.1, c.2, by omega⟩]
      · rw [if_neg c, if_neg (fun z => c ⟨z.1, z.2.1⟩)]
theorem q_init {k : Nat} (hk : k < 256) : nI k / 16 = nI (k / 16) ∧ nI k - nI k / 16 * 16 = nI (k % 16) := by
  have e16 : (16 : Int32).toInt = 16 := rfl
  have ek := nI_rng (n := k) (by omega)
  refine ⟨?_, rem32 (q := 16) (by omega) (by omega) (by omega)⟩
  rw [eq32, div32 (by omega) (by omega), e16, ek, Int.tdiv_eq_ediv_of_nonneg (by omega), nI_rng (by omega)]
  omega
theorem q_l2 : ∀ (d f k : Nat) (m : St), k + d = 256 → d < f → ∃ m', (∀ K : St → Option (Int32 × St), f_X12_quarrels_l2 K f (nI k) m = K m') ∧ FL m m' ∧ (∀ q, k ≤ q → q < 256 → (m'.2.1 19 q).toInt = if q / 16 = q % 16 then 0 else 999999) ∧ (∀ q, q < k → m'.2.1 19 q = m.2.1 19 q) := by
  have e : (256 : Int32).toInt = 256 := rfl
  intro d
  induction d with
  | zero =>
    intro f k m hk hf
    obtain ⟨f, rfl⟩ : ∃ g, f = g + 1 := ⟨f - 1, by omega⟩
    have : (256 : Int32) ≤ nI k := by rw [le_nI (by omega)]; omega
    exact ⟨m, fun K => by rw [f_X12_quarrels_l2, if_pos this], FL.rfl' m, fun q a b => by omega, fun _ _ => rfl⟩
  | succ d ih =>
    intro f k m hk hf
    obtain ⟨f, rfl⟩ : ∃ g, f = g + 1 := ⟨f - 1, by omega⟩
    have hn : ¬ (256 : Int32) ≤ nI k := by rw [le_nI (by omega)]; omega
    obtain ⟨d1, d2⟩ := q_init (show k < 256 by omega)
    obtain ⟨m', q1, q2, q3, q4⟩ := ih f (k + 1) (sL m 19 k (if nI (k / 16) = nI (k % 16) then 0 else 999999)) (by omega) (by omega)
    have hF : FL m (sL m 19 k (if nI (k / 16) = nI (k % 16) then 0 else 999999)) := ⟨rfl, fun c hc => sL_ro _ 19 _ _ c hc, rfl⟩
    refine ⟨m', fun K => ?_, hF.trans q2, fun q a b => ?_, fun q hq => ?_⟩
    · rw [f_X12_quarrels_l2, if_neg hn, jnI, d2, d1, gdN (by omega) (by omega), nmE, clampN (by omega), nI_1]
      exact q1 K
    · by_cases eq : q = k
      · subst eq
        rw [q4 q (by omega), sL_rd, if_pos ⟨rfl, rfl⟩]
        by_cases c : q / 16 = q % 16
        · rw [if_pos c, if_pos (by rw [c])]; rfl
        · rw [if_neg c, if_neg (fun z => c (nI_inj (by omega) (by omega) z))]; rfl
      · exact q3 q (by omega) b
    · rw [q4 q (by omega), sL_rne _ 19 _ _ q (by omega)]

/-- the model's bytes of text j -/
def MB (B : Nat → Int32) (n j : Nat) (m : St) : Prop := m.1 0 17 = nI (160 * j) ∧ m.1 0 18 = nI n ∧ ∀ i, i < n → m.1 1 (160 * j + i) = B i
theorem mByte {B : Nat → Int32} {n j p : Nat} {m : St} (hj : j < 6) (hn : n ≤ 160) (h : MB B n j m) (hp : p < 1000) : f_X12_byteAt m (nI p) = some (btA n B p) := by
  obtain ⟨g1, g2, g3⟩ := h
  unfold f_X12_byteAt btA
  rw [nmE, g2]
  by_cases c : p < n
  · rw [if_neg (by rw [le_nI (by omega), nI_rng (by omega)]; omega), if_pos c, nmE, g1, nmE, nI_add, gdN (by omega) (by omega), nmE, clampN (by omega), g3 p c]
  · rw [if_pos (by rw [le_nI (by omega), nI_rng (by omega)]; omega), if_neg c]
theorem MB.cg {B : Nat → Int32} {n j : Nat} {m m' : St} (h : MB B n j m) (h1 : m'.1 0 17 = m.1 0 17) (h2 : m'.1 0 18 = m.1 0 18) (h3 : m'.1 1 = m.1 1) : MB B n j m' := by
  unfold MB at h ⊢
  rw [h1, h2, h3]; exact h
/-- only tokens have changed -/
def FT (m m' : St) : Prop := (∀ c, c ≠ 0 → m'.1 c = m.1 c) ∧ (∀ i, i < 19 ∨ 22 < i → m'.1 0 i = m.1 0 i) ∧ (∀ c, c ≠ 0 → m'.2.1 c = m.2.1 c) ∧ (∀ i, i ≠ 21 → m'.2.1 0 i = m.2.1 0 i)
theorem FT.rfl' (m : St) : FT m m := ⟨fun _ _ => rfl, fun _ _ => rfl, fun _ _ => rfl, fun _ _ => rfl⟩
theorem FT.trans {m m' m'' : St} (h : FT m m') (g : FT m' m'') : FT m m'' := ⟨fun c hc => by rw [g.1 c hc, h.1 c hc], fun i hi => by rw [g.2.1 i hi, h.2.1 i hi], fun c hc => by rw [g.2.2.1 c hc, h.2.2.1 c hc], fun i hi => by rw [g.2.2.2 i hi, h.2.2.2 i hi]⟩
theorem FT.sI (m : St) {j : Nat} (v : Int32) (hj : 19 ≤ j ∧ j ≤ 22) : FT m (sI m 0 j v) := ⟨fun c hc => sI_ro _ 0 _ _ c hc, fun i hi => sI_rne _ 0 _ _ i (by omega), fun _ _ => rfl, fun _ _ => rfl⟩
theorem FT.sL (m : St) (v : Int64) : FT m (sL m 0 21 v) := ⟨fun _ _ => rfl, fun _ _ => rfl, fun c hc => sL_ro _ 0 _ _ c hc, fun i hi => sL_rne _ 0 _ _ i hi⟩
theorem FT.mb {B : Nat → Int32} {n j : Nat} {m m' : St} (h : FT m m') (hm : MB B n j m) : MB B n j m' := hm.cg (h.2.1 17 (by omega)) (h.2.1 18 (by omega)) (h.1 1 (by omega))
theorem m_inB (b : Int32) : f_X12_in (Int32.toInt64 b) 97 122 = some (if isLt b then 1 else 0) := by
  rw [m_in]
  unfold isLt iz
  simp only [decide_eq_true_eq]
  rfl
theorem m_inD (b : Int32) : f_X12_in (Int32.toInt64 b) 48 57 = some (if isDg b then 1 else 0) := by
  rw [m_in]
  unfold isDg iz
  simp only [decide_eq_true_eq]
  rfl
theorem bt_lt {B : Nat → Int32} {n p : Nat} {P : Int32 → Bool} (hP : P (-1) = false) : P (btA n B p) = true ↔ (p < n ∧ P (B p) = true) := by
  unfold btA
  by_cases c : p < n
  · rw [if_pos c]; simp [c]
  · rw [if_neg c, hP]; simp [c]
section MLEX
variable {B : Nat → Int32} {n j : Nat}
theorem mSkip (hj : j < 6) (hn : n ≤ 160) : ∀ (f p F : Nat) (m : St), MB B n j m → m.1 0 22 = nI p → p ≤ n → n - p ≤ f → f < F → ∃ m', (∀ K : St → Option St, f_X12_next_l0 K F m = K m') ∧ FT m m' ∧ m'.1 0 22 = nI (scn isBl B n f p) := by
  intro f
  induction f with
  | zero =>
    intro p F m hm h1 h2 h3 h4
    obtain ⟨F, rfl⟩ : ∃ g, F = g + 1 := ⟨F - 1, by omega⟩
    have hb : btA n B p = -1 := by unfold btA; rw [if_neg (by omega)]
    refine ⟨m, fun K => ?_, FT.rfl' m, h1⟩
    rw [f_X12_next_l0, nmE, h1, mByte hj hn hm (by omega), bpE, jnE, hb, if_neg (by decide), nmE, mByte hj hn hm (by omega), bpE, hb, if_neg (by decide)]
  | succ f ih =>
    intro p F m hm h1 h2 h3 h4
    obtain ⟨F, rfl⟩ : ∃ g, F = g + 1 := ⟨F - 1, by omega⟩
    unfold scn
    have hbl : isBl (btA n B p) = true ↔ (p < n ∧ isBl (B p) = true) := bt_lt (by decide)
    have hdec : isBl (btA n B p) = true ↔ (btA n B p = 32 ∨ btA n B p = 10) := by unfold isBl; simp
    by_cases c : p < n ∧ isBl (B p) = true
    · rw [if_pos c]
      obtain ⟨m', q1, q2, q3⟩ := ih (p + 1) F (sI m 0 22 (nI (p + 1))) ((FT.sI m (nI (p + 1)) ⟨by omega, by omega⟩).mb hm) (sI_at _ _ _ _) (by omega) (by omega) (by omega)
      refine ⟨m', fun K => ?_, (FT.sI m (nI (p + 1)) ⟨by omega, by omega⟩).trans q2, q3⟩
      rw [f_X12_next_l0, nmE, h1, mByte hj hn hm (by omega), bpE, jnE, nmE, nmE, nI_1, q1]
      by_cases c2 : btA n B p = 32
      · rw [if_pos c2]
      · rw [if_neg c2, nmE, mByte hj hn hm (by omega), bpE, if_pos ((hdec.mp (hbl.mpr c)).resolve_left c2)]
    · rw [if_neg c]
      have hnb : ¬ (btA n B p = 32 ∨ btA n B p = 10) := fun q => c (hbl.mp (hdec.mpr q))
      refine ⟨m, fun K => ?_, FT.rfl' m, h1⟩
      rw [f_X12_next_l0, nmE, h1, mByte hj hn hm (by omega), bpE, jnE, if_neg (fun q => hnb (Or.inl q)), nmE, mByte hj hn hm (by omega), bpE, if_neg (fun q => hnb (Or.inr q))]
theorem mLetters (hj : j < 6) (hn : n ≤ 160) {a : Nat} : ∀ (f k F : Nat) (m : St), MB B n j m → m.1 0 22 = nI (a + k) → m.2.1 0 21 = Hh B a k → a + k ≤ n → n - (a + k) ≤ f → f < F → ∃ m', f_X12_next_l107 F (nI k) m = some m' ∧ FT m m' ∧ m'.1 0 22 = nI (scn isLt B n f (a + k)) ∧ m'.1 0 19 = m.1 0 19 ∧ m'.1 0 20 = m.1 0 20 ∧ m'.2.1 0 21 = Hh B a (scn isLt B n f (a + k) - a) := by
  intro f
  induction f with
  | zero =>
    intro k F m hm h1 h2 h3 h4 h5
    obtain ⟨F, rfl⟩ : ∃ g, F = g + 1 := ⟨F - 1, by omega⟩
    have hb : btA n B (a + k) = -1 := by unfold btA; rw [if_neg (by omega)]
    refine ⟨m, ?_, FT.rfl' m, h1, rfl, rfl, ?_⟩
    · rw [f_X12_next_l107, nmE, h1, mByte hj hn hm (by omega), bpE, m_inB, bpE, hb, if_pos (by decide)]
    · show m.2.1 0 21 = Hh B a (a + k - a)
      rw [h2]; congr 1; omega
  | succ f ih =>
    intro k F m hm h1 h2 h3 h4 h5
    obtain ⟨F, rfl⟩ : ∃ g, F = g + 1 := ⟨F - 1, by omega⟩
    unfold scn
    have hlt : isLt (btA n B (a + k)) = true ↔ (a + k < n ∧ isLt (B (a + k)) = true) := bt_lt (by decide)
    by_cases c : a + k < n ∧ isLt (B (a + k)) = true
    · rw [if_pos c]
      have hba : btA n B (a + k) = B (a + k) := by unfold btA; rw [if_pos c.1]
      have hH : Hh B a (k + 1) = if 8 ≤ k then -1 else 27 * Hh B a k + Int32.toInt64 (B (a + k)) - 96 := rfl
      have hF1 : FT m (sI (sL m 0 21 (Hh B a (k + 1))) 0 22 (nI (a + (k + 1)))) := (FT.sL m _).trans (FT.sI _ _ ⟨by omega, by omega⟩)
      obtain ⟨m', q1, q2, q3, q4, q5, q6⟩ := ih (k + 1) F (sI (sL m 0 21 (Hh B a (k + 1))) 0 22 (nI (a + (k + 1)))) (hF1.mb hm) (sI_at _ _ _ _) (by rw [sI_2, sL_rd, if_pos ⟨rfl, rfl⟩]) (by omega) (by omega) (by omega)
      refine ⟨m', ?_, hF1.trans q2, q3, by rw [q4]; simp [sI_rd, sL_1], by rw [q5]; simp [sI_rd, sL_1], q6⟩
      rw [← q1, f_X12_next_l107, nmE, h1, mByte hj hn hm (by omega), bpE, m_inB, bpE, if_pos (hlt.mpr c), if_neg ne10, jnE, hH]
      by_cases c8 : 8 ≤ k
      · have c8' : (8 : Int32) ≤ nI k := by rw [le_nI (by omega), show (8 : Int32).toInt = 8 from rfl]; omega
        simp only [if_pos c8, if_pos c8', nmE, sL_1, h1, nI_1, Nat.add_assoc]
      · have c8' : ¬ (8 : Int32) ≤ nI k := by rw [le_nI (by omega), show (8 : Int32).toInt = 8 from rfl]; omega
        simp only [if_neg c8, if_neg c8', nmE, h2, h1, mByte hj hn hm (show a + k < 1000 by omega), bpE, hba, sL_1, nI_1, Nat.add_assoc]
    · rw [if_neg c]
      refine ⟨m, ?_, FT.rfl' m, h1, rfl, rfl, ?_⟩
      · rw [f_X12_next_l107, nmE, h1, mByte hj hn hm (by omega), bpE, m_inB, bpE, if_neg (fun q => c (hlt.mp q)), if_pos rfl]
      · rw [h2]; congr 1; omega
theorem mDigits (hj : j < 6) (hn : n ≤ 160) {a : Nat} : ∀ (f k F : Nat) (m : St), MB B n j m → m.1 0 22 = nI (a + k) → (m.2.1 0 21).toInt = nv B a k → a + k ≤ n → n - (a + k) ≤ f → f < F → (∀ q, q < k → isDg (B (a + q)) = true) → ∃ m', (∀ K : Int32 → St → Option St, f_X12_next_l211 K F (nI k) m = K (nI (scn isDg B n f (a + k) - a)) m') ∧ FT m m' ∧ m'.1 0 22 = nI (scn isDg B n f (a + k)) ∧ m'.1 0 19 = m.1 0 19 ∧ m'.1 0 20 = m.1 0 20 ∧ (m'.2.1 0 21).toInt = nv B a (scn isDg B n f (a + k) - a) := by
  have l10 : (10 : Int64).toInt = 10 := rfl
  have l48 : (48 : Int64).toInt = 48 := rfl
  intro f
  induction f with
  | zero =>
    intro k F m hm h1 h2 h3 h4 h5 hdg
    obtain ⟨F, rfl⟩ : ∃ g, F = g + 1 := ⟨F - 1, by omega⟩
    have hb : btA n B (a + k) = -1 := by unfold btA; rw [if_neg (by omega)]
    have hk : a + k - a = k := by omega
    refine ⟨m, fun K => ?_, FT.rfl' m, h1, rfl, rfl, ?_⟩
    · show _ = K (nI (a + k - a)) m
      rw [hk, f_X12_next_l211, nmE, h1, mByte hj hn hm (by omega), bpE, m_inD, bpE, hb, if_pos (by decide)]
    · show (m.2.1 0 21).toInt = nv B a (a + k - a)
      rw [hk, h2]
  | succ f ih =>
    intro k F m hm h1 h2 h3 h4 h5 hdg
    obtain ⟨F, rfl⟩ : ∃ g, F = g + 1 := ⟨F - 1, by omega⟩
    have hk : a + k - a = k := by omega
    unfold scn
    have hlt : isDg (btA n B (a + k)) = true ↔ (a + k < n ∧ isDg (B (a + k)) = true) := bt_lt (by decide)
    by_cases c : a + k < n ∧ isDg (B (a + k)) = true
    · rw [if_pos c]
      have hba : btA n B (a + k) = B (a + k) := by unfold btA; rw [if_pos c.1]
      have hdg' : ∀ q, q < k + 1 → isDg (B (a + q)) = true := fun q hq => by
        by_cases e : q = k
        · subst e; exact c.2
        · exact hdg q (by omega)
      have hlt4 := nv_lt (B := B) (a := a) k hdg
      have hN : nv B a (k + 1) = if 4 ≤ k then nv B a k else 10 * nv B a k + ((B (a + k)).toInt - 48).toNat := rfl
      have hc2 := c.2
      unfold isDg at hc2
      simp at hc2
      obtain ⟨V, hV1, hV2⟩ : ∃ V : Int64, V.toInt = nv B a (k + 1) ∧ V = (if 4 ≤ k then m.2.1 0 21 else ((10 * m.2.1 0 21) + Int32.toInt64 (B (a + k))) - 48) := by
        refine ⟨_, ?_, rfl⟩
        rw [hN]
        by_cases c4 : 4 ≤ k
        · rw [if_pos c4, if_pos c4]; exact h2
        · rw [if_neg c4, if_neg c4]
          have t1 : (10 * m.2.1 0 21).toInt = 10 * (nv B a k : Int) := by rw [mul64 (by rw [l10, h2]; omega), l10, h2]
          have t2 : (10 * m.2.1 0 21 + Int32.toInt64 (B (a + k))).toInt = 10 * (nv B a k : Int) + (B (a + k)).toInt := by rw [add64 (by rw [t1, i2l_toInt]; omega), t1, i2l_toInt]
          rw [sub64 (by rw [t2, l48]; omega), t2, l48]
          omega
      have hF1 : FT m (sI (sL m 0 21 V) 0 22 (nI (a + (k + 1)))) := (FT.sL m _).trans (FT.sI _ _ ⟨by omega, by omega⟩)
      obtain ⟨m', q1, q2, q3, q4, q5, q6⟩ := ih (k + 1) F (sI (sL m 0 21 V) 0 22 (nI (a + (k + 1)))) (hF1.mb hm) (sI_at _ _ _ _) (by rw [sI_2, sL_rd, if_pos ⟨rfl, rfl⟩]; exact hV1) (by omega) (by omega) (by omega) hdg'
      refine ⟨m', fun K => ?_, hF1.trans q2, q3, by rw [q4]; simp [sI_rd, sL_1], by rw [q5]; simp [sI_rd, sL_1], q6⟩
      have q1' := q1 K
      rw [show a + (k + 1) = a + k + 1 by omega] at q1'
      rw [← q1', f_X12_next_l211, nmE, h1, mByte hj hn hm (by omega), bpE, m_inD, bpE, if_pos (hlt.mpr c), if_neg ne10, jnE, hV2]
      by_cases c8 : 4 ≤ k
      · have c8' : (4 : Int32) ≤ nI k := by rw [le_nI (by omega), show (4 : Int32).toInt = 4 from rfl]; omega
        simp only [if_pos c8, if_pos c8', nmE, sL_1, h1, nI_1]
      · have c8' : ¬ (4 : Int32) ≤ nI k := by rw [le_nI (by omega), show (4 : Int32).toInt = 4 from rfl]; omega
        simp only [if_neg c8, if_neg c8', nmE, h1, mByte hj hn hm (show a + k < 1000 by omega), bpE, hba, sL_1, nI_1]
    · rw [if_neg c]
      refine ⟨m, fun K => ?_, FT.rfl' m, h1, rfl, rfl, ?_⟩
      · rw [hk, f_X12_next_l211, nmE, h1, mByte hj hn hm (by omega), bpE, m_inD, bpE, if_neg (fun q => c (hlt.mp q)), if_pos rfl]
      · rw [hk, h2]
end MLEX
/-- the model's token is the one that this code says -/
def MT (m : St) (code : Int32) : Prop := (m.1 0 19 = 0 ∧ code = -1) ∨ (m.1 0 19 = 1 ∧ (∀ i, i < 11 → (m.2.1 0 21 = Wv.getD i 0 ↔ code = nI (10000 + i))) ∧ (code = -2 ∨ ∃ i, i < 11 ∧ code = nI (10000 + i))) ∨ (m.1 0 19 = 2 ∧ ∃ v, v < 10000 ∧ code = nI v ∧ (m.2.1 0 21).toInt = v) ∨ (m.1 0 19 = 3 ∧ ∃ s, 40 ≤ s ∧ s ≤ 61 ∧ code = nI (20000 + s) ∧ m.2.1 0 21 = Int32.toInt64 (nI s)) ∨ (m.1 0 19 = 4 ∧ code = -2)
theorem mNext {B : Nat → Int32} {n j p : Nat} {m : St} (hj : j < 6) (hn : n ≤ 160) (hm : MB B n j m) (h1 : m.1 0 22 = nI p) (hp : p ≤ n) (hB : ∀ i, i < n → ∃ c, c < 256 ∧ B i = nI c) : ∃ m', f_X12_next m = some m' ∧ FT m m' ∧ m'.1 0 20 = nI (tk B n p).2.1 ∧ MT m' (tk B n p).1 ∧ ((tk B n p).1 ≠ -1 → (tk B n p).1 ≠ -2 → m'.1 0 22 = nI (tk B n p).2.2) := by
  obtain ⟨s1, s2, s3, s4⟩ := scn_p (P := isBl) (B := B) 200 p hp (by omega)
  obtain ⟨m1, k1, k2, k3⟩ := mSkip hj hn 200 p FU m hm h1 hp (by omega) (by unfold FU; omega)
  unfold f_X12_next tk
  rw [k1]
  generalize scn isBl B n 200 p = a at s1 s2 s3 s4 k3
  have hF2 : FT m (sI m1 0 20 (nI a)) := k2.trans (FT.sI _ _ ⟨by omega, by omega⟩)
  have hm2 := hF2.mb hm
  have h22 : (sI m1 0 20 (nI a)).1 0 22 = nI a := by rw [sI_rne _ 0 _ _ 22 (by omega)]; exact k3
  rw [nmE, k3, nmE, nmE, h22, mByte hj hn hm2 (by omega), bpE, nmE]
  have hF3 : ∀ v : Int32, FT m (sI (sI m1 0 20 (nI a)) 0 19 v) := fun v => hF2.trans (FT.sI _ _ ⟨by omega, by omega⟩)
  by_cases c1 : n ≤ a
  · have hb : btA n B a = -1 := by unfold btA; rw [if_neg (by omega)]
    have h18 : (sI (sI (sI m1 0 20 (nI a)) 0 19 4) 0 19 0).1 0 18 = nI n := by
      rw [sI_rne _ 0 _ _ 18 (by omega), sI_rne _ 0 _ _ 18 (by omega)]; exact hm2.2.1
    rw [if_pos c1, hb, if_neg (by decide), nmE, nmE, h18, nmE]
    refine ⟨_, rfl, ((hF3 4).trans (FT.sI _ _ ⟨by omega, by omega⟩)).trans (FT.sI _ _ ⟨by omega, by omega⟩), ?_, Or.inl ⟨?_, rfl⟩, fun h => absurd rfl h⟩
    · rw [sI_at]; congr 1; dsimp only; omega
    · rw [sI_rne _ 0 _ _ 19 (by omega), sI_at]
  · have hba : btA n B a = B a := by unfold btA; rw [if_pos (by omega)]
    obtain ⟨cc, hcc, ecc⟩ := hB a (by omega)
    have hpos : (0 : Int32) ≤ B a := by rw [ecc]; exact nI_pos' (by omega)
    rw [if_neg c1, hba, if_pos hpos, m_inB, bpE]
    by_cases c2 : isLt (B a) = true
    · obtain ⟨t1, t2, t3, t4⟩ := scn_p (P := isLt) (B := B) 200 a (by omega) (by omega)
      have hFz : FT m (sL (sI (sI (sI m1 0 20 (nI a)) 0 19 4) 0 19 1) 0 21 0) := ((hF3 4).trans (FT.sI _ _ ⟨by omega, by omega⟩)).trans (FT.sL _ _)
      obtain ⟨m', q1, q2, q3, q4, q5, q6⟩ := mLetters hj hn (a := a) 200 0 FU (sL (sI (sI (sI m1 0 20 (nI a)) 0 19 4) 0 19 1) 0 21 0) (hFz.mb hm) (by rw [sL_1, sI_rne _ 0 _ _ 22 (by omega), sI_rne _ 0 _ _ 22 (by omega), Nat.add_zero]; exact h22) (by rw [sL_rd, if_pos ⟨rfl, rfl⟩]; rfl) (by omega) (by omega) (by unfold FU; omega)
      rw [Nat.add_zero] at q3 q6
      rw [show nI 0 = 0 from rfl] at q1
      rw [if_pos c2, if_neg ne10, if_pos c2, nmE, nmE, q1]
      obtain ⟨w1, w2⟩ := words_ok (B := B) (a := a) (k := scn isLt B n 200 a - a) (fun q hq => t3 (a + q) (by omega) (by omega))
      rw [show a + (scn isLt B n 200 a - a) = scn isLt B n 200 a by omega] at w1 w2
      refine ⟨m', rfl, hFz.trans q2, ?_, Or.inr (Or.inl ⟨?_, fun i hi => ?_, w2⟩), fun _ _ => q3⟩
      · rw [q5, sL_1, sI_rne _ 0 _ _ 20 (by omega), sI_rne _ 0 _ _ 20 (by omega), sI_at]
      · rw [q4, sL_1, sI_at]
      · rw [q6]; exact w1 i hi
    · rw [if_neg c2, if_pos rfl, if_neg c2, m_inD, bpE]
      by_cases c3 : isDg (B a) = true
      · obtain ⟨t1, t2, t3, t4⟩ := scn_p (P := isDg) (B := B) 200 a (by omega) (by omega)
        have hFz : FT m (sL (sI (sI (sI m1 0 20 (nI a)) 0 19 4) 0 19 2) 0 21 0) := ((hF3 4).trans (FT.sI _ _ ⟨by omega, by omega⟩)).trans (FT.sL _ _)
        obtain ⟨m', q1, q2, q3, q4, q5, q6⟩ := mDigits hj hn (a := a) 200 0 FU (sL (sI (sI (sI m1 0 20 (nI a)) 0 19 4) 0 19 2) 0 21 0) (hFz.mb hm) (by rw [sL_1, sI_rne _ 0 _ _ 22 (by omega), sI_rne _ 0 _ _ 22 (by omega), Nat.add_zero]; exact h22) (by rw [sL_rd, if_pos ⟨rfl, rfl⟩]; rfl) (by omega) (by omega) (by unfold FU; omega) (fun q hq => by omega)
        rw [Nat.add_zero] at q3 q6
        rw [show nI 0 = 0 from rfl] at q1
        simp only [Nat.add_zero] at q1
        rw [if_pos c3, if_neg ne10, if_pos c3, nmE, nmE, q1, jnI, nmE]
        have h20 : m'.1 0 20 = nI a := by rw [q5, sL_1, sI_rne _ 0 _ _ 20 (by omega), sI_rne _ 0 _ _ 20 (by omega), sI_at]
        by_cases c4 : scn isDg B n 200 a - a ≤ 4
        · have c4' : nI (scn isDg B n 200 a - a) ≤ 4 := by rw [nI_lek (by omega), show (4 : Int32).toInt = 4 from rfl]; omega
          rw [if_pos c4', if_pos c4]
          refine ⟨_, rfl, (hFz.trans q2).trans (FT.sI _ _ ⟨by omega, by omega⟩), by rw [sI_rne _ 0 _ _ 20 (by omega)]; exact h20, Or.inr (Or.inr (Or.inl ⟨sI_at _ _ _ _, _, nv_lt _ (fun q hq => t3 (a + q) (by omega) (by omega)), rfl, by rw [sI_2]; exact q6⟩)), fun _ _ => by rw [sI_rne _ 0 _ _ 22 (by omega)]; exact q3⟩
        · have c4' : ¬ nI (scn isDg B n 200 a - a) ≤ 4 := by rw [nI_lek (by omega), show (4 : Int32).toInt = 4 from rfl]; omega
          rw [if_neg c4', if_neg c4]
          exact ⟨_, rfl, (hFz.trans q2).trans (FT.sI _ _ ⟨by omega, by omega⟩), by rw [sI_rne _ 0 _ _ 20 (by omega)]; exact h20, Or.inr (Or.inr (Or.inr (Or.inr ⟨sI_at _ _ _ _, rfl⟩))), fun _ h => absurd rfl h⟩
      · rw [if_neg c3, if_pos rfl, if_neg c3, jnE]
        have h22' : (sL (sI (sI (sI m1 0 20 (nI a)) 0 19 4) 0 19 3) 0 21 (Int32.toInt64 (B a))).1 0 22 = nI a := by rw [sL_1, sI_rne _ 0 _ _ 22 (by omega), sI_rne _ 0 _ _ 22 (by omega)]; exact h22
        rw [nmE, nmE, nmE, h22', nmE, nI_1]
        by_cases c4 : isSg (B a) = true
        · rw [if_pos c4]
          have hs : B a = 40 ∨ B a = 41 ∨ B a = 59 ∨ B a = 43 ∨ B a = 45 ∨ B a = 42 ∨ B a = 60 ∨ B a = 61 := by
            unfold isSg at c4; simpa using c4
          have hrange : 40 ≤ cc ∧ cc ≤ 61 := by
            rw [ecc] at hs
            have inj : ∀ q : Nat, q < 1000 → nI cc = nI q → cc = q := fun q hq e => nI_inj (by omega) (by omega) e
            rcases hs with e | e | e | e | e | e | e | e
            · have := inj 40 (by omega) e; omega
            · have := inj 41 (by omega) e; omega
            · have := inj 59 (by omega) e; omega
            · have := inj 43 (by omega) e; omega
            · have := inj 45 (by omega) e; omega
            · have := inj 42 (by omega) e; omega
            · have := inj 60 (by omega) e; omega
            · have := inj 61 (by omega) e; omega
          have hFz : FT m (sI (sL (sI (sI (sI m1 0 20 (nI a)) 0 19 4) 0 19 3) 0 21 (Int32.toInt64 (B a))) 0 22 (nI (a + 1))) := (((hF3 4).trans (FT.sI _ _ ⟨by omega, by omega⟩)).trans (FT.sL _ _)).trans (FT.sI _ _ ⟨by omega, by omega⟩)
          have hbig : (if B a = 40 then some (sI (sL (sI (sI (sI m1 0 20 (nI a)) 0 19 4) 0 19 3) 0 21 (Int32.toInt64 (B a))) 0 22 (nI (a + 1))) else if B a = 41 then some (sI (sL (sI (sI (sI m1 0 20 (nI a)) 0 19 4) 0 19 3) 0 21 (Int32.toInt64 (B a))) 0 22 (nI (a + 1))) else if B a = 59 then some (sI (sL (sI (sI (sI m1 0 20 (nI a)) 0 19 4) 0 19 3) 0 21 (Int32.toInt64 (B a))) 0 22 (nI (a + 1))) else if B a = 43 then some (sI (sL (sI (sI (sI m1 0 20 (nI a)) 0 19 4) 0 19 3) 0 21 (Int32.toInt64 (B a))) 0 22 (nI (a + 1))) else if B a = 45 then some (sI (sL (sI (sI (sI m1 0 20 (nI a)) 0 19 4) 0 19 3) 0 21 (Int32.toInt64 (B a))) 0 22 (nI (a + 1))) else if B a = 42 then some (sI (sL (sI (sI (sI m1 0 20 (nI a)) 0 19 4) 0 19 3) 0 21 (Int32.toInt64 (B a))) 0 22 (nI (a + 1))) else if B a = 60 then some (sI (sL (sI (sI (sI m1 0 20 (nI a)) 0 19 4) 0 19 3) 0 21 (Int32.toInt64 (B a))) 0 22 (nI (a + 1))) else if B a = 61 then some (sI (sL (sI (sI (sI m1 0 20 (nI a)) 0 19 4) 0 19 3) 0 21 (Int32.toInt64 (B a))) 0 22 (nI (a + 1))) else some (sI (sI m1 0 20 (nI a)) 0 19 4)) = some (sI (sL (sI (sI (sI m1 0 20 (nI a)) 0 19 4) 0 19 3) 0 21 (Int32.toInt64 (B a))) 0 22 (nI (a + 1))) := by
            repeat' split
            all_goals first | rfl | (exfalso; rcases hs with e | e | e | e | e | e | e | e <;> contradiction)
          rw [hbig]
          refine ⟨_, rfl, hFz, ?_, Or.inr (Or.inr (Or.inr (Or.inl ⟨?_, cc, hrange.1, hrange.2, ?_, ?_⟩))), fun _ _ => sI_at _ _ _ _⟩
          · rw [sI_rne _ 0 _ _ 20 (by omega), sL_1, sI_rne _ 0 _ _ 20 (by omega), sI_rne _ 0 _ _ 20 (by omega), sI_at]
          · rw [sI_rne _ 0 _ _ 19 (by omega), sL_1, sI_at]
          · rw [ecc, show (20000 : Int32) = nI 20000 from rfl, nI_add]
          · rw [sI_2, sL_rd, if_pos ⟨rfl, rfl⟩, ecc]
        · rw [if_neg c4]
          have hs : ¬ (B a = 40 ∨ B a = 41 ∨ B a = 59 ∨ B a = 43 ∨ B a = 45 ∨ B a = 42 ∨ B a = 60 ∨ B a = 61) := by
            unfold isSg at c4; simpa using c4
          have n1 : ¬ B a = 40 := fun e => hs (by simp [e])
          have n2 : ¬ B a = 41 := fun e => hs (by simp [e])
          have n3 : ¬ B a = 59 := fun e => hs (by simp [e])
          have n4 : ¬ B a = 43 := fun e => hs (by simp [e])
          have n5 : ¬ B a = 45 := fun e => hs (by simp [e])
          have n6 : ¬ B a = 42 := fun e => hs (by simp [e])
          have n7 : ¬ B a = 60 := fun e => hs (by simp [e])
          have n8 : ¬ B a = 61 := fun e => hs (by simp [e])
          rw [if_neg n1, if_neg n2, if_neg n3, if_neg n4, if_neg n5, if_neg n6, if_neg n7, if_neg n8]
          exact ⟨_, rfl, hF3 4, by rw [sI_rne _ 0 _ _ 20 (by omega), sI_at], Or.inr (Or.inr (Or.inr (Or.inr ⟨sI_at _ _ _ _, rfl⟩))), fun _ h => absurd rfl h⟩

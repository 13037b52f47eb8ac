/-! bytes of the tape: alike on both sides -/
theorem and255_rng (v : Int32) : ∃ c, c < 256 ∧ v &&& 255 = nI c := by
  refine ⟨(v &&& 255).toBitVec.toNat, ?_, ?_⟩
  · rw [Int32.toBitVec_and, BitVec.toNat_and]
    have : (255 : Int32).toBitVec.toNat = 255 := by decide
    rw [this]
    have := Nat.and_le_right (n := v.toBitVec.toNat) (m := 255)
    omega
  · apply Int32.toBitVec_inj.mp
    apply BitVec.eq_of_toNat_eq
    have h : (nI (v &&& 255).toBitVec.toNat).toBitVec.toNat = (v &&& 255).toBitVec.toNat := by
      show (BitVec.ofNat 32 (v &&& 255).toBitVec.toNat).toNat = _
      rw [BitVec.toNat_ofNat]
      exact Nat.mod_eq_of_lt (BitVec.isLt _)
    exact h.symm
/-- the byte at a place, -1 outside -/
def btA (T : Nat) (t : Nat → Int32) (p : Nat) : Int32 := if p < T then t p else -1
theorem xAt {x m : St} {T p : Nat} (hT : T ≤ 160) (hp : p < 100000) (h1 : x.1 15 1 = nI T) (h2 : ∀ i, i < T → m.1 3 i = x.1 16 i &&& 255) : f_X8_at x (nI p) = some (btA T (m.1 3) p) := by
  unfold f_X8_at btA
  rw [if_neg (nI_pos (by omega)), nmE, h1]
  by_cases h : p < T
  · rw [if_neg (by rw [le_nI (by omega), nI_rng (by omega)]; omega), if_pos h, gdN (by omega) (by omega), nmE, clampN (by omega), h2 p h]
  · rw [if_pos (by rw [le_nI (by omega), nI_rng (by omega)]; omega), if_neg h]
theorem mHere {m : St} {T p : Nat} (hT : T ≤ 160) (hp : p < 100000) (h1 : m.1 0 6 = nI T) : f_X12_byteHere m (nI p) = some (btA T (m.1 3) p) := by
  unfold f_X12_byteHere btA
  rw [nmE, h1]
  by_cases h : p < T
  · rw [if_neg (by rw [le_nI (by omega), nI_rng (by omega)]; omega), if_pos h, gdN (by omega) (by omega), nmE, clampN (by omega)]
  · rw [if_pos (by rw [le_nI (by omega), nI_rng (by omega)]; omega), if_neg h]
theorem bt_rng {x m : St} {T : Nat} (h2 : ∀ i, i < T → m.1 3 i = x.1 16 i &&& 255) (p : Nat) : btA T (m.1 3) p = -1 ∨ (p < T ∧ ∃ c, c < 256 ∧ btA T (m.1 3) p = nI c) := by
  unfold btA
  by_cases h : p < T
  · rw [if_pos h, h2 p h]
    exact Or.inr ⟨h, and255_rng _⟩
  · rw [if_neg h]; exact Or.inl rfl
theorem dig (b : Int32) : (∃ d, d < 10 ∧ b = nI (48 + d) ∧ f_X8_digitOf b = some (nI d) ∧ f_X12_isDigit b = some 1) ∨ (f_X8_digitOf b = some (-1) ∧ f_X12_isDigit b = some 0) := by
  unfold f_X8_digitOf f_X12_isDigit
  have e1 : (48 : Int32).toInt = 48 := rfl
  have e2 : (57 : Int32).toInt = 57 := rfl
  by_cases h1 : b < 48
  · rw [if_pos h1, if_pos h1]; exact Or.inr ⟨rfl, rfl⟩
  · by_cases h2 : 57 < b
    · rw [if_neg h1, if_pos h2, if_neg h1, if_pos h2]; exact Or.inr ⟨rfl, rfl⟩
    · left
      rw [if_neg h1, if_neg h2, if_neg h1, if_neg h2]
      rw [lt32] at h1 h2
      obtain ⟨c, hc, rfl⟩ := of_rng (n := 58) (a := b) (by omega) (by omega)
      rw [nI_rng (by omega)] at h1 h2
      refine ⟨c - 48, by omega, by congr 1; omega, ?_, rfl⟩
      rw [show (48 : Int32) = nI 48 from rfl, sub_nI (by omega) (by omega)]
theorem kind_tab : ∀ c, c < 256 → (bp (f_X8_isLetter (nI c)) (fun v2 => (if v2 = 0 then some (-1) else bp (f_J0_indexOf_0f7a4 2 (UInt32.toInt32 (Int32.toUInt32 (nI c) % 65536))) (fun v4 => some v4)))) = f_X12_kindOf (nI c) := by decide +kernel
theorem kind_rng (b : Int32) : ∃ κ, f_X12_kindOf b = some κ ∧ (κ = -1 ∨ ∃ i, i < 6 ∧ κ = nI i) := by
  unfold f_X12_kindOf
  repeat' split
  · exact ⟨_, rfl, Or.inr ⟨0, by omega, rfl⟩⟩
  · exact ⟨_, rfl, Or.inr ⟨1, by omega, rfl⟩⟩
  · exact ⟨_, rfl, Or.inr ⟨2, by omega, rfl⟩⟩
  · exact ⟨_, rfl, Or.inr ⟨3, by omega, rfl⟩⟩
  · exact ⟨_, rfl, Or.inr ⟨4, by omega, rfl⟩⟩
  · exact ⟨_, rfl, Or.inr ⟨5, by omega, rfl⟩⟩
  · exact ⟨_, rfl, Or.inl rfl⟩
theorem xKindAt {x m : St} {T p : Nat} (hT : T ≤ 160) (hp : p < 100000) (h1 : x.1 15 1 = nI T) (h2 : ∀ i, i < T → m.1 3 i = x.1 16 i &&& 255) : f_X4_kindAt x (nI p) = f_X12_kindOf (btA T (m.1 3) p) := by
  unfold f_X4_kindAt
  rw [xAt hT hp h1 h2, bpE]
  rcases bt_rng h2 p with e | ⟨_, c, hc, e⟩
  · rw [e]; decide +kernel
  · rw [e]; exact kind_tab c hc
/-- so many strokes of a kind more -/
theorem append_l {κ : Int32} {v n k7 : Nat} {K : St → Option St} (hv : n + v ≤ 200) : ∀ (d f i : Nat) (x : St), i + d = n + v → d < f → ∃ x', f_X4_append_l25 κ (nI v) (nI n) k7 K f (nI i) x = K x' ∧ (∀ c, c ≠ k7 → x'.1 c = x.1 c) ∧ x'.2 = x.2 ∧ (∀ j, i ≤ j → j < n + v → x'.1 k7 j = κ) ∧ (∀ j, j < i → x'.1 k7 j = x.1 k7 j) := by
  have e2 : (200 : Int32).toInt = 200 := rfl
  intro d
  induction d with
  | zero =>
    intro f i x hk hf
    obtain ⟨f, rfl⟩ : ∃ g, f = g + 1 := ⟨f - 1, by omega⟩
    have : nI (n + v) ≤ nI i := by rw [le_nI (by omega), nI_rng (by omega)]; omega
    rw [f_X4_append_l25, nI_add, if_pos this]
    exact ⟨x, rfl, fun _ _ => rfl, rfl, fun j a b => by omega, fun _ _ => rfl⟩
  | succ d ih =>
    intro f i x hk hf
    obtain ⟨f, rfl⟩ : ∃ g, f = g + 1 := ⟨f - 1, by omega⟩
    have h1 : ¬ nI (n + v) ≤ nI i := by rw [le_nI (by omega), nI_rng (by omega)]; omega
    have h2 : ¬ (200 : Int32) ≤ nI i := by rw [le_nI (by omega)]; omega
    rw [f_X4_append_l25, nI_add, if_neg h1, if_neg h2, gdN (by omega) (by omega), nmE, clampN (by omega), nI_1]
    obtain ⟨x', q1, q2, q3, q4, q5⟩ := ih f (i + 1) (sI x k7 i κ) (by omega) (by omega)
    refine ⟨x', q1, fun c hc => by rw [q2 c hc, sI_ro _ k7 i _ c hc], by rw [q3]; rfl, fun j j1 j2 => ?_, fun j hj => ?_⟩
    · by_cases e : j = i
      · subst e
        rw [q5 j (by omega), sI_at]
      · exact q4 j (by omega) j2
    · rw [q5 j (by omega), sI_rne _ k7 i _ j (by omega)]
theorem append_all {κ : Int32} {v n np : Nat} {x : St} (hv : n + v ≤ 200) (hp : np < 8) (h1 : x.1 20 3 = nI np) (h2 : x.1 22 np = nI n) : ∃ x', f_X4_append x κ (nI v) = some x' ∧ (∀ c, c ≠ 22 → c ≠ 23 + np → x'.1 c = x.1 c) ∧ x'.2 = x.2 ∧ x'.1 22 np = nI (n + v) ∧ (∀ j, j ≠ np → x'.1 22 j = x.1 22 j) ∧ (∀ j, n ≤ j → j < n + v → x'.1 (23 + np) j = κ) ∧ (∀ j, j < n → x'.1 (23 + np) j = x.1 (23 + np) j) := by
  obtain ⟨x', q1, q2, q3, q4, q5⟩ := append_l (κ := κ) (k7 := 23 + np) (K := fun (σ10 : St) => nm (σ10.1 20 3) (fun v16 => gd (inb v16 8) (nm (sI σ10 22 (Int32.toNatClampNeg v16) (nI n + nI v)) (fun σ18 => some σ18)))) hv v FU n x (by omega) (by unfold FU; omega)
  unfold f_X4_append
  simp only [nmE, h1, gdN hp (show 8 ≤ 1000000 by omega), clampN (show np < 1000000 by omega), h2]
  simp only [nmE] at q1
  rw [q1]
  simp only [q2 20 (by omega), h1, gdN hp (show 8 ≤ 1000000 by omega), clampN (show np < 1000000 by omega), nI_add]
  refine ⟨_, rfl, fun c c1 c2 => by rw [sI_ro _ 22 _ _ c c1, q2 c c2], q3, sI_at _ _ _ _, fun j hj => by rw [sI_rne _ 22 _ _ j hj, q2 22 (by omega)], fun j j1 j2 => by rw [sI_ro _ 22 _ _ (23 + np) (by omega)]; exact q4 j j1 j2, fun j hj => by rw [sI_ro _ 22 _ _ (23 + np) (by omega)]; exact q5 j hj⟩
theorem mplan_l {κ : Int32} {v n np : Nat} {K : St → Option (Int32 × St)} (hv : n + v ≤ 200) (hp : np < 8) : ∀ (d f i : Nat) (m : St), m.1 0 33 = nI np → i + d = v → d < f → ∃ m', f_X12_plan_l183 (nI n) κ (nI v) K f (nI i) m = K m' ∧ (∀ c, c ≠ 12 → m'.1 c = m.1 c) ∧ (∀ j, n + i ≤ j → j < n + v → m'.1 12 (200 * np + j) = κ) ∧ (∀ q, q < 200 * np + n + i → m'.1 12 q = m.1 12 q) := by
  intro d
  induction d with
  | zero =>
    intro f i m h0 hk hf
    obtain ⟨f, rfl⟩ : ∃ g, f = g + 1 := ⟨f - 1, by omega⟩
    have : nI v ≤ nI i := by rw [le_nI (by omega), nI_rng (by omega)]; omega
    rw [f_X12_plan_l183, if_pos this]
    exact ⟨m, rfl, fun _ _ => rfl, fun j a b => by omega, fun _ _ => rfl⟩
  | succ d ih =>
    intro f i m h0 hk hf
    obtain ⟨f, rfl⟩ : ∃ g, f = g + 1 := ⟨f - 1, by omega⟩
    have h1 : ¬ nI v ≤ nI i := by rw [le_nI (by omega), nI_rng (by omega)]; omega
    have ei : (200 : Int32) * nI np + nI n + nI i = nI (200 * np + n + i) := by
      rw [show (200 : Int32) = nI 200 from rfl, mul_nI 200 np (by omega) (by omega) (by omega), nI_add, nI_add]
    rw [f_X12_plan_l183, if_neg h1, nmE, h0, ei, gdN (by omega) (by omega), nmE, clampN (by omega), nI_1]
    obtain ⟨m', q1, q2, q3, q4⟩ := ih f (i + 1) (sI m 12 (200 * np + n + i) κ) (by rw [sI_ro _ 12 _ _ 0 (by omega)]; exact h0) (by omega) (by omega)
    refine ⟨m', q1, fun c hc => by rw [q2 c hc, sI_ro _ 12 _ _ c hc], fun j j1 j2 => ?_, fun q hq => ?_⟩
    · by_cases e : j = n + i
      · subst e
        rw [q4 _ (by omega), show 200 * np + (n + i) = 200 * np + n + i by omega, sI_at]
      · exact q3 j (by omega) j2
    · rw [q4 q (by omega), sI_rne _ 12 _ _ q (by omega)]

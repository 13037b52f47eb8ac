theorem sgn_tab : ∀ c, c < 256 → (match f_J0_indexOf_0f7a4 1 (UInt32.toInt32 (Int32.toUInt32 (nI c) % 65536)) with
  | some r => decide (r < 0) == !(isSg (nI c))
  | none => false) = true := by decide +kernel
theorem xSign {b : Int32} (hb : ∃ c, c < 256 ∧ b = nI c) : ∃ r, f_J0_indexOf_0f7a4 1 (UInt32.toInt32 (Int32.toUInt32 b % 65536)) = some r ∧ (r < 0 ↔ ¬ isSg b = true) := by
  obtain ⟨c, hc, rfl⟩ := hb
  have := sgn_tab c hc
  cases h : f_J0_indexOf_0f7a4 1 (UInt32.toInt32 (Int32.toUInt32 (nI c) % 65536)) with
  | none => rw [h] at this; simp at this
  | some r =>
    rw [h] at this
    refine ⟨r, rfl, ?_⟩
    have h2 : decide (r < 0) = !(isSg (nI c)) := by simpa using this
    cases h3 : isSg (nI c)
    · rw [h3] at h2
      simp at h2
      simp [h2]
    · rw [h3] at h2
      simp at h2
      simp [h2]
/-- the class's next token -/
theorem xNext {x : St} {B : Nat → Int32} {n p : Nat} (hn : n ≤ 160) (hp : p ≤ n) (h1 : x.1 15 1 = nI n) (h2 : ∀ i, i < n → B i = x.1 16 i &&& 255) (h6 : x.1 17 6 = nI p) : ∃ x', f_X9_next x = some x' ∧ (∀ c, c ≠ 17 → x'.1 c = x.1 c) ∧ (∀ j, j ≠ 4 → j ≠ 5 → j ≠ 6 → x'.1 17 j = x.1 17 j) ∧ x'.2 = x.2 ∧ x'.1 17 4 = (tk B n p).1 ∧ x'.1 17 5 = nI (tk B n p).2.1 ∧ x'.1 17 6 = nI (tk B n p).2.2 := by
  obtain ⟨s1, s2, s3, s4⟩ := scn_p (P := isBl) (B := B) 200 p hp (by omega)
  have hskip := xSkip hn h1 h2 200 p FU hp (by omega) (by unfold FU; omega)
  unfold f_X9_next tk
  rw [nmE, h6, hskip]
  generalize scn isBl B n 200 p = a at s1 s2 s3 s4
  have hx15 : ∀ v w : Int32, (sI (sI x 17 5 v) 17 6 w).1 15 1 = nI n := fun v w => by rw [sI_ro _ 17 _ _ 15 (by omega), sI_ro _ 17 _ _ 15 (by omega)]; exact h1
  have hx16 : ∀ v w : Int32, ∀ i, i < n → B i = (sI (sI x 17 5 v) 17 6 w).1 16 i &&& 255 := fun v w i hi => by rw [sI_ro _ 17 _ _ 16 (by omega), sI_ro _ 17 _ _ 16 (by omega)]; exact h2 i hi
  rw [xAtB hn (by omega) h1 h2, bpE, nmE, nmE, nmE, hx15, nI_1]
  have fin : ∀ (t : Int32) (q : Nat), ∃ x', (some (sI (sI (sI x 17 5 (nI a)) 17 6 (nI q)) 17 4 t) : Option St) = some x' ∧ (∀ c, c ≠ 17 → x'.1 c = x.1 c) ∧ (∀ j, j ≠ 4 → j ≠ 5 → j ≠ 6 → x'.1 17 j = x.1 17 j) ∧ x'.2 = x.2 ∧ x'.1 17 4 = t ∧ x'.1 17 5 = nI a ∧ x'.1 17 6 = nI q := by
    intro t q
    refine ⟨_, rfl, fun c hc => by simp only [sI_ro _ 17 _ _ c hc], fun j a b c => by simp [sI_rd, a, b, c], rfl, sI_at _ _ _ _, ?_, ?_⟩
    · simp [sI_rd]
    · simp [sI_rd]
  have fin2 : ∀ (t : Int32) (q : Nat), ∃ x', (some (sI (sI (sI (sI x 17 5 (nI a)) 17 6 (nI (a + 1))) 17 6 (nI q)) 17 4 t) : Option St) = some x' ∧ (∀ c, c ≠ 17 → x'.1 c = x.1 c) ∧ (∀ j, j ≠ 4 → j ≠ 5 → j ≠ 6 → x'.1 17 j = x.1 17 j) ∧ x'.2 = x.2 ∧ x'.1 17 4 = t ∧ x'.1 17 5 = nI a ∧ x'.1 17 6 = nI q := by
    intro t q
    refine ⟨_, rfl, fun c hc => by simp only [sI_ro _ 17 _ _ c hc], fun j a b c => by simp [sI_rd, a, b, c], rfl, sI_at _ _ _ _, ?_, ?_⟩
    · simp [sI_rd]
    · simp [sI_rd]
  have h175 : (sI (sI x 17 5 (nI a)) 17 6 (nI (a + 1))).1 17 5 = nI a := by simp [sI_rd]
  by_cases c1 : n ≤ a
  · rw [if_pos c1, if_neg (by rw [lt_nI (by omega), nI_rng (by omega)]; omega), nmE]
    exact fin (-1) (a + 1)
  · have hba : btA n B a = B a := by unfold btA; rw [if_pos (by omega)]
    rw [if_neg c1, if_pos (by rw [lt_nI (by omega), nI_rng (by omega)]; omega), hba, xLetter, bpE]
    by_cases c2 : isLt (B a) = true
    · obtain ⟨t1, t2, t3, t4⟩ := scn_p (P := isLt) (B := B) 200 a (by omega) (by omega)
      have hle := xLetters hn (hx15 (nI a) (nI (a + 1))) (hx16 (nI a) (nI (a + 1))) 200 a FU (by omega) (by omega) (by unfold FU; omega)
      have hw := xWord (x := sI (sI (sI x 17 5 (nI a)) 17 6 (nI (a + 1))) 17 6 (nI (scn isLt B n 200 a))) (B := B) (e := scn isLt B n 200 a) (a := a) hn (by omega) t2 (by rw [sI_ro _ 17 _ _ 15 (by omega)]; exact hx15 _ _) (fun i hi => by rw [sI_ro _ 17 _ _ 16 (by omega)]; exact hx16 _ _ i hi) (by simp [sI_rd])
      rw [if_pos c2, if_pos c2, if_neg ne10]
      unfold f_X9_wordToken
      rw [nmE, h175, hle, nmE, nmE]
      rw [show (sI (sI (sI x 17 5 (nI a)) 17 6 (nI (a + 1))) 17 6 (nI (scn isLt B n 200 a))).1 17 5 = nI a by simp [sI_rd], hw, bdE, nmE]
      exact fin2 _ _
    · rw [if_neg c2, if_neg c2, if_pos rfl, xDigit, bpE]
      by_cases c3 : isDg (B a) = true
      · obtain ⟨_, _, d3⟩ := dg_sub c3
        obtain ⟨t1, t2, t3, t4⟩ := scn_p (P := isDg) (B := B) 200 a (by omega) (by omega)
        have hle := xDigits (a := a) hn (hx15 (nI a) (nI (a + 1))) (hx16 (nI a) (nI (a + 1))) h175 200 a FU (by omega) (by omega) (by omega) (by unfold FU; omega) (fun q q1 q2 => by omega)
        rw [Nat.sub_self, show nI (nv B a 0) = 0 from rfl] at hle
        rw [if_pos c3, if_neg d3, if_pos c3]
        unfold f_X9_numberToken
        rw [nmE, h175, hle, nmE, nmE]
        rw [show (sI (sI (sI x 17 5 (nI a)) 17 6 (nI (a + 1))) 17 6 (nI (scn isDg B n 200 a))).1 17 5 = nI a by simp [sI_rd], sub_nI t1 (by omega)]
        by_cases c4 : scn isDg B n 200 a - a ≤ 4
        · rw [if_pos (by rw [nI_lek (by omega), show (4 : Int32).toInt = 4 from rfl]; omega), if_pos c4, bdE, nmE]
          exact fin2 _ _
        · rw [if_neg (by rw [nI_lek (by omega), show (4 : Int32).toInt = 4 from rfl]; omega), if_neg c4, bdE, nmE]
          exact fin2 _ _
      · rw [if_neg c3, if_pos rfl, if_neg c3]
        obtain ⟨r, r1, r2⟩ := xSign (b := B a) (by rw [h2 a (by omega)]; exact and255_rng _)
        rw [r1, bpE, jnI, nmE]
        by_cases c4 : isSg (B a) = true
        · rw [if_neg (fun q => r2.mp q c4), if_pos c4]
          exact fin _ _
        · rw [if_pos (r2.mpr c4), if_neg c4]
          exact fin _ _
/-! the model's tokens -/
def Wv : List Int64 := [3497099, 10502465, 377669, 141471, 10416091, 283623584, 144941, 91888, 423, 1111, 10631]
def Hh (B : Nat → Int32) (a : Nat) : Nat → Int64
  | 0 => 0
  | k + 1 => if 8 ≤ k then -1 else 27 * Hh B a k + Int32.toInt64 (B (a + k)) - 96
def val27 (l : List Int) : Int := l.foldl (fun s d => 27 * s + d) 0
theorem Hh_step {B : Nat → Int32} {a k : Nat} (hk : k < 8) (hb : ∀ q, q < k + 1 → isLt (B (a + q)) = true) (h0 : 0 ≤ (Hh B a k).toInt ∧ (Hh B a k).toInt ≤ 300000000000) : (Hh B a (k + 1)).toInt = 27 * (Hh B a k).toInt + ((B (a + k)).toInt - 96) := by
  have l27 : (27 : Int64).toInt = 27 := rfl
  have l96 : (96 : Int64).toInt = 96 := rfl
  have hl := hb k (by omega)
  unfold isLt at hl
  simp at hl
  have h1 : (27 * Hh B a k).toInt = 27 * (Hh B a k).toInt := by rw [mul64 (by rw [l27]; omega), l27]
  have h2 : (27 * Hh B a k + Int32.toInt64 (B (a + k))).toInt = 27 * (Hh B a k).toInt + (B (a + k)).toInt := by rw [add64 (by rw [h1, i2l_toInt]; omega), h1, i2l_toInt]
  show (if 8 ≤ k then (-1 : Int64) else 27 * Hh B a k + Int32.toInt64 (B (a + k)) - 96).toInt = _
  rw [if_neg (by omega), sub64 (by rw [h2, l96]; omega), h2, l96]
  omega
theorem Hh_rng {B : Nat → Int32} {a : Nat} : ∀ k, k ≤ 8 → (∀ q, q < k → isLt (B (a + q)) = true) → 0 ≤ (Hh B a k).toInt ∧ (Hh B a k).toInt ≤ 282429536480 ∧ (k ≤ 7 → (Hh B a k).toInt ≤ 10460353202) ∧ (k ≤ 6 → (Hh B a k).toInt ≤ 387420488) ∧ (k ≤ 5 → (Hh B a k).toInt ≤ 14348906) ∧ (k ≤ 4 → (Hh B a k).toInt ≤ 531440) ∧ (k ≤ 3 → (Hh B a k).toInt ≤ 19682) ∧ (k ≤ 2 → (Hh B a k).toInt ≤ 728) ∧ (k ≤ 1 → (Hh B a k).toInt ≤ 26) ∧ (k = 0 → (Hh B a k).toInt = 0) := by
  intro k
  induction k with
  | zero => intro _ _; have : (Hh B a 0).toInt = 0 := rfl; omega
  | succ k ih =>
    intro hk h
    obtain ⟨i0, i1, i2, i3, i4, i5, i6, i7, i8, i9⟩ := ih (by omega) (fun q hq => h q (by omega))
    have hs := Hh_step (B := B) (a := a) (k := k) (by omega) h ⟨i0, by omega⟩
    have hl := h k (by omega)
    unfold isLt at hl
    simp at hl
    rw [hs]
    refine ⟨by omega, ?_, fun q => ?_, fun q => ?_, fun q => ?_, fun q => ?_, fun q => ?_, fun q => ?_, fun q => ?_, fun q => by omega⟩
    · have := i2 (by omega); omega
    · have := i3 (by omega); omega
    · have := i4 (by omega); omega
    · have := i5 (by omega); omega
    · have := i6 (by omega); omega
    · have := i7 (by omega); omega
    · have := i8 (by omega); omega
    · have := i9 (by omega); omega
theorem val27_snoc (l : List Int) (d : Int) : val27 (l ++ [d]) = 27 * val27 l + d := by
  unfold val27; rw [List.foldl_append]; rfl
theorem snoc_or {α : Type} (l : List α) : l = [] ∨ ∃ l' d, l = l' ++ [d] := by
  cases h : l.reverse with
  | nil => left; simpa using h
  | cons d r =>
    right
    refine ⟨r.reverse, d, ?_⟩
    have := congrArg List.reverse h
    simpa using this
theorem val27_nn : ∀ (l : List Int), (∀ d, d ∈ l → 1 ≤ d ∧ d ≤ 26) → 0 ≤ val27 l := by
  intro l
  have key : ∀ (l : List Int) (s : Int), 0 ≤ s → (∀ d, d ∈ l → 1 ≤ d ∧ d ≤ 26) → 0 ≤ l.foldl (fun s d => 27 * s + d) s := by
    intro l
    induction l with
    | nil => intro s h _; exact h
    | cons d r ih =>
      intro s h hd
      have := hd d (by simp)
      exact ih (27 * s + d) (by omega) (fun e he => hd e (by simp [he]))
  intro h
  exact key l 0 (by omega) h
theorem Hh_inj {B : Nat → Int32} {a : Nat} : ∀ (k : Nat) (l : List Int), k ≤ 8 → (∀ q, q < k → isLt (B (a + q)) = true) → (∀ d, d ∈ l → 1 ≤ d ∧ d ≤ 26) → ((Hh B a k).toInt = val27 l ↔ (k = l.length ∧ ∀ q, q < k → (B (a + q)).toInt - 96 = l.getD q 0)) := by
  intro k
  induction k with
  | zero =>
    intro l _ _ hd
    have h0 : (Hh B a 0).toInt = 0 := rfl
    rw [h0]
    rcases snoc_or l with rfl | ⟨l', d, rfl⟩
    · simp [val27]
    · have h1 := val27_nn l' (fun e he => hd e (by simp [he]))
      have h2 := hd d (by simp)
      rw [val27_snoc]
      constructor
      · intro h; omega
      · intro h; have := h.1; simp at this
  | succ k ih =>
    intro l hk hb hd
    obtain ⟨r0, r1, _⟩ := Hh_rng (B := B) (a := a) k (by omega) (fun q hq => hb q (by omega))
    rw [Hh_step (by omega) hb ⟨r0, by omega⟩]
    have hl := hb k (by omega)
    unfold isLt at hl
    simp at hl
    rcases snoc_or l with rfl | ⟨l', d, rfl⟩
    · have : val27 [] = 0 := rfl
      rw [this]
      constructor
      · intro h; omega
      · intro h; have := h.1; simp at this
    · have h2 := hd d (by simp)
      have hi := ih l' (by omega) (fun q hq => hb q (by omega)) (fun e he => hd e (by simp [he]))
      rw [val27_snoc]
      constructor
      · intro h
        have e1 : (Hh B a k).toInt = val27 l' := by omega
        have e2 : (B (a + k)).toInt - 96 = d := by omega
        obtain ⟨j1, j2⟩ := hi.mp e1
        refine ⟨by simp; omega, fun q hq => ?_⟩
        by_cases e : q = k
        · subst e
          rw [e2, j1]
          simp
        · rw [j2 q (by omega)]
          simp [List.getElem?_append_left (show q < l'.length by omega)]
      · intro h
        obtain ⟨j1, j2⟩ := h
        simp at j1
        have e1 := hi.mpr ⟨j1, fun q hq => by
          rw [j2 q (by omega)]
          simp [List.getElem?_append_left (show q < l'.length by omega)]⟩
        have e2 := j2 k (by omega)
        rw [j1] at e2
        simp at e2
        rw [← j1] at e2
        omega
theorem Hh_long {B : Nat → Int32} {a k : Nat} (h : 9 ≤ k) : Hh B a k = -1 := by
  obtain ⟨j, rfl⟩ : ∃ j, k = j + 1 := ⟨k - 1, by omega⟩
  show (if 8 ≤ j then (-1 : Int64) else _) = -1
  rw [if_pos (by omega)]
theorem wm_iff {B : Nat → Int32} : ∀ (w : List Int32) (a k : Nat), wm B a (a + k) w = true ↔ (k = w.length ∧ ∀ q, q < k → B (a + q) = w.getD q 0) := by
  intro w
  induction w with
  | nil =>
    intro a k
    unfold wm
    simp only [decide_eq_true_eq, List.length_nil]
    constructor
    · intro h; exact ⟨by omega, fun q hq => by omega⟩
    · intro h; omega
  | cons c r ih =>
    intro a k
    unfold wm
    simp only [Bool.and_eq_true, decide_eq_true_eq, List.length_cons]
    cases k with
    | zero =>
      constructor
      · intro h; omega
      · intro h; omega
    | succ k =>
      rw [show a + (k + 1) = (a + 1) + k by omega, ih (a + 1) k]
      constructor
      · intro ⟨⟨h1, h2⟩, h3, h4⟩
        refine ⟨by omega, fun q hq => ?_⟩
        cases q with
        | zero => simpa using h2
        | succ q =>
          have := h4 q (by omega)
          rw [show a + (q + 1) = a + 1 + q by omega, this]
          simp
      · intro ⟨h1, h2⟩
        refine ⟨⟨by omega, by simpa using h2 0 (by omega)⟩, by omega, fun q hq => ?_⟩
        have := h2 (q + 1) (by omega)
        rw [show a + 1 + q = a + (q + 1) by omega, this]
        simp
theorem hash_iff {B : Nat → Int32} {a k : Nat} {w : List Int32} {V : Int64} (hb : ∀ q, q < k → isLt (B (a + q)) = true) (hw : w.length ≤ 8) (hw2 : ∀ c, c ∈ w → 97 ≤ c.toInt ∧ c.toInt ≤ 122) (hV : V.toInt = val27 (w.map (fun c => c.toInt - 96))) (hV2 : V ≠ -1) : Hh B a k = V ↔ wm B a (a + k) w = true := by
  rw [wm_iff]
  by_cases h8 : k ≤ 8
  · have := Hh_inj (B := B) (a := a) k (w.map (fun c => c.toInt - 96)) h8 hb (fun d hd => by
      obtain ⟨c, hc, rfl⟩ := List.mem_map.mp hd
      have := hw2 c hc
      omega)
    rw [eq64, hV, this]
    simp only [List.length_map]
    constructor
    · intro ⟨h1, h2⟩
      refine ⟨h1, fun q hq => ?_⟩
      have := h2 q hq
      rw [eq32]
      simp [List.getElem?_eq_getElem (show q < w.length by omega)] at this ⊢
      omega
    · intro ⟨h1, h2⟩
      refine ⟨h1, fun q hq => ?_⟩
      rw [h2 q hq]
      simp [List.getElem?_eq_getElem (show q < w.length by omega)]
  · rw [Hh_long (by omega)]
    constructor
    · intro h; exact absurd h.symm hV2
    · intro h; omega
theorem words_ok {B : Nat → Int32} {a k : Nat} (hb : ∀ q, q < k → isLt (B (a + q)) = true) : (∀ i, i < 11 → (Hh B a k = Wv.getD i 0 ↔ wcd B a (a + k) = nI (10000 + i))) ∧ (wcd B a (a + k) = -2 ∨ ∃ i, i < 11 ∧ wcd B a (a + k) = nI (10000 + i)) := by
  have g0 := hash_iff (w := [102, 111, 114, 99, 101]) (V := 3497099) hb (by decide) (by decide) (by decide) (by decide)
  have g1 := hash_iff (w := [115, 116, 111, 114, 101]) (V := 10502465) hb (by decide) (by decide) (by decide) (by decide)
  have g2 := hash_iff (w := [115, 101, 97, 116]) (V := 377669) hb (by decide) (by decide) (by decide) (by decide)
  have g3 := hash_iff (w := [103, 101, 97, 114]) (V := 141471) hb (by decide) (by decide) (by decide) (by decide)
  have g4 := hash_iff (w := [115, 112, 101, 101, 100]) (V := 10416091) hb (by decide) (by decide) (by decide) (by decide)
  have g5 := hash_iff (w := [115, 116, 114, 111, 107, 101]) (V := 283623584) hb (by decide) (by decide) (by decide) (by decide)
  have g6 := hash_iff (w := [103, 105, 118, 101]) (V := 144941) hb (by decide) (by decide) (by decide) (by decide)
  have g7 := hash_iff (w := [100, 114, 97, 103]) (V := 91888) hb (by decide) (by decide) (by decide) (by decide)
  have g8 := hash_iff (w := [111, 114]) (V := 423) hb (by decide) (by decide) (by decide) (by decide)
  have g9 := hash_iff (w := [97, 110, 100]) (V := 1111) hb (by decide) (by decide) (by decide) (by decide)
  have g10 := hash_iff (w := [110, 111, 116]) (V := 10631) hb (by decide) (by decide) (by decide) (by decide)
  unfold wcd
  by_cases c0 : wm B a (a + k) [102, 111, 114, 99, 101] = true
  · rw [if_pos c0, g0.mpr c0]
    exact ⟨by decide, Or.inr ⟨0, by decide, rfl⟩⟩
  rw [if_neg c0]
  by_cases c1 : wm B a (a + k) [115, 116, 111, 114, 101] = true
  · rw [if_pos c1, g1.mpr c1]
    exact ⟨by decide, Or.inr ⟨1, by decide, rfl⟩⟩
  rw [if_neg c1]
  by_cases c2 : wm B a (a + k) [115, 101, 97, 116] = true
  · rw [if_pos c2, g2.mpr c2]
    exact ⟨by decide, Or.inr ⟨2, by decide, rfl⟩⟩
  rw [if_neg c2]
  by_cases c3 : wm B a (a + k) [103, 101, 97, 114] = true
  · rw [if_pos c3, g3.mpr c3]
    exact ⟨by decide, Or.inr ⟨3, by decide, rfl⟩⟩
  rw [if_neg c3]
  by_cases c4 : wm B a (a + k) [115, 112, 101, 101, 100] = true
  · rw [if_pos c4, g4.mpr c4]
    exact ⟨by decide, Or.inr ⟨4, by decide, rfl⟩⟩
  rw [if_neg c4]
  by_cases c5 : wm B a (a + k) [115, 116, 114, 111, 107, 101] = true
  · rw [if_pos c5, g5.mpr c5]
    exact ⟨by decide, Or.inr ⟨5, by decide, rfl⟩⟩
  rw [if_neg c5]
  by_cases c6 : wm B a (a + k) [103, 105, 118, 101] = true
  · rw [if_pos c6, g6.mpr c6]
    exact ⟨by decide, Or.inr ⟨6, by decide, rfl⟩⟩
  rw [if_neg c6]
  by_cases c7 : wm B a (a + k) [100, 114, 97, 103] = true
  · rw [if_pos c7, g7.mpr c7]
    exact ⟨by decide, Or.inr ⟨7, by decide, rfl⟩⟩
  rw [if_neg c7]
  by_cases c8 : wm B a (a + k) [111, 114] = true
  · rw [if_pos c8, g8.mpr c8]
    exact ⟨by decide, Or.inr ⟨8, by decide, rfl⟩⟩
  rw [if_neg c8]
  by_cases c9 : wm B a (a + k) [97, 110, 100] = true
  · rw [if_pos c9, g9.mpr c9]
    exact ⟨by decide, Or.inr ⟨9, by decide, rfl⟩⟩
  rw [if_neg c9]
  by_cases c10 : wm B a (a + k) [110, 111, 116] = true
  · rw [if_pos c10, g10.mpr c10]
    exact ⟨by decide, Or.inr ⟨10, by decide, rfl⟩⟩
  rw [if_neg c10]
  refine ⟨fun i hi => ?_, Or.inl rfl⟩
  match i, hi with
  | 0, _ => exact ⟨fun h => absurd (g0.mp h) c0, fun h => absurd h (by decide)⟩
  | 1, _ => exact ⟨fun h => absurd (g1.mp h) c1, fun h => absurd h (by decide)⟩
  | 2, _ => exact ⟨fun h => absurd (g2.mp h) c2, fun h => absurd h (by decide)⟩
  | 3, _ => exact ⟨fun h => absurd (g3.mp h) c3, fun h => absurd h (by decide)⟩
  | 4, _ => exact ⟨fun h => absurd (g4.mp h) c4, fun h => absurd h (by decide)⟩
  | 5, _ => exact ⟨fun h => absurd (g5.mp h) c5, fun h => absurd h (by decide)⟩
  | 6, _ => exact ⟨fun h => absurd (g6.mp h) c6, fun h => absurd h (by decide)⟩
  | 7, _ => exact ⟨fun h => absurd (g7.mp h) c7, fun h => absurd h (by decide)⟩
  | 8, _ => exact ⟨fun h => absurd (g8.mp h) c8, fun h => absurd h (by decide)⟩
  | 9, _ => exact ⟨fun h => absurd (g9.mp h) c9, fun h => absurd h (by decide)⟩
  | 10, _ => exact ⟨fun h => absurd (g10.mp h) c10, fun h => absurd h (by decide)⟩

/-! TOKENS: one reading of bytes, which both sides do -/
def scn (P : Int32 → Bool) (B : Nat → Int32) (n : Nat) : Nat → Nat → Nat
  | 0, p => p
  | f + 1, p => if p < n ∧ P (B p) = true then scn P B n f (p + 1) else p
theorem scn_p {P : Int32 → Bool} {B : Nat → Int32} {n : Nat} : ∀ f p, p ≤ n → n - p ≤ f → p ≤ scn P B n f p ∧ scn P B n f p ≤ n ∧ (∀ q, p ≤ q → q < scn P B n f p → P (B q) = true) ∧ (scn P B n f p < n → P (B (scn P B n f p)) = false) := by
  intro f
  induction f with
  | zero =>
    intro p h1 h2
    refine ⟨Nat.le_refl _, h1, fun q a b => ?_, fun h => ?_⟩
    · have : scn P B n 0 p = p := rfl
      omega
    · have : scn P B n 0 p = p := rfl
      omega
  | succ f ih =>
    intro p h1 h2
    unfold scn
    by_cases c : p < n ∧ P (B p) = true
    · rw [if_pos c]
      obtain ⟨i1, i2, i3, i4⟩ := ih (p + 1) (by omega) (by omega)
      refine ⟨by omega, i2, fun q a b => ?_, i4⟩
      by_cases e : q = p
      · subst e; exact c.2
      · exact i3 q (by omega) b
    · rw [if_neg c]
      refine ⟨Nat.le_refl _, h1, fun q a b => by omega, fun h => ?_⟩
      by_cases e : P (B p) = true
      · exact absurd ⟨h, e⟩ c
      · simpa using e
def isBl (b : Int32) : Bool := decide (b = 32 ∨ b = 10)
def isLt (b : Int32) : Bool := decide (97 ≤ b.toInt ∧ b.toInt ≤ 122)
def isDg (b : Int32) : Bool := decide (48 ≤ b.toInt ∧ b.toInt ≤ 57)
def isSg (b : Int32) : Bool := decide (b = 40 ∨ b = 41 ∨ b = 59 ∨ b = 43 ∨ b = 45 ∨ b = 42 ∨ b = 60 ∨ b = 61)
def wm (B : Nat → Int32) : Nat → Nat → List Int32 → Bool
  | a, e, [] => decide (a = e)
  | a, e, c :: r => decide (a < e ∧ B a = c) && wm B (a + 1) e r
def wl : List (List Int32) := [[102, 111, 114, 99, 101], [115, 116, 111, 114, 101], [115, 101, 97, 116], [103, 101, 97, 114], [115, 112, 101, 101, 100], [115, 116, 114, 111, 107, 101], [103, 105, 118, 101], [100, 114, 97, 103], [111, 114], [97, 110, 100], [110, 111, 116]]
def wcd (B : Nat → Int32) (a e : Nat) : Int32 := if wm B a e [102, 111, 114, 99, 101] then 10000 else if wm B a e [115, 116, 111, 114, 101] then 10001 else if wm B a e [115, 101, 97, 116] then 10002 else if wm B a e [103, 101, 97, 114] then 10003 else if wm B a e [115, 112, 101, 101, 100] then 10004 else if wm B a e [115, 116, 114, 111, 107, 101] then 10005 else if wm B a e [103, 105, 118, 101] then 10006 else if wm B a e [100, 114, 97, 103] then 10007 else if wm B a e [111, 114] then 10008 else if wm B a e [97, 110, 100] then 10009 else if wm B a e [110, 111, 116] then 10010 else -2
def nv (B : Nat → Int32) (a : Nat) : Nat → Nat
  | 0 => 0
  | k + 1 => if 4 ≤ k then nv B a k else 10 * nv B a k + ((B (a + k)).toInt - 48).toNat
def tk (B : Nat → Int32) (n p : Nat) : Int32 × Nat × Nat :=
  if n ≤ scn isBl B n 200 p then (-1, scn isBl B n 200 p, scn isBl B n 200 p + 1)
  else if isLt (B (scn isBl B n 200 p)) then (wcd B (scn isBl B n 200 p) (scn isLt B n 200 (scn isBl B n 200 p)), scn isBl B n 200 p, scn isLt B n 200 (scn isBl B n 200 p))
  else if isDg (B (scn isBl B n 200 p)) then ((if scn isDg B n 200 (scn isBl B n 200 p) - scn isBl B n 200 p ≤ 4 then nI (nv B (scn isBl B n 200 p) (scn isDg B n 200 (scn isBl B n 200 p) - scn isBl B n 200 p)) else -2), scn isBl B n 200 p, scn isDg B n 200 (scn isBl B n 200 p))
  else ((if isSg (B (scn isBl B n 200 p)) then 20000 + B (scn isBl B n 200 p) else -2), scn isBl B n 200 p, scn isBl B n 200 p + 1)
theorem tk_adv {B : Nat → Int32} {n p : Nat} (hn : n ≤ 160) (hp : p ≤ n) : p ≤ (tk B n p).2.1 ∧ (tk B n p).2.1 ≤ n ∧ ((tk B n p).1 ≠ -1 → (tk B n p).2.1 < n ∧ p < (tk B n p).2.2 ∧ (tk B n p).2.2 ≤ n) := by
  obtain ⟨s1, s2, s3, s4⟩ := scn_p (P := isBl) (B := B) 200 p hp (by omega)
  unfold tk
  generalize scn isBl B n 200 p = a at s1 s2 s3 s4
  by_cases c1 : n ≤ a
  · rw [if_pos c1]
    exact ⟨s1, s2, fun h => absurd rfl h⟩
  · rw [if_neg c1]
    by_cases c2 : isLt (B a) = true
    · rw [if_pos c2]
      obtain ⟨t1, t2, t3, t4⟩ := scn_p (P := isLt) (B := B) 200 a (by omega) (by omega)
      refine ⟨s1, s2, fun _ => ⟨by dsimp only; omega, ?_, t2⟩⟩
      have : a ≠ scn isLt B n 200 a := fun e => by
        rw [← e] at t4
        rw [t4 (by omega)] at c2
        exact absurd c2 (by decide)
      dsimp only
      omega
    · rw [if_neg c2]
      by_cases c3 : isDg (B a) = true
      · rw [if_pos c3]
        obtain ⟨t1, t2, t3, t4⟩ := scn_p (P := isDg) (B := B) 200 a (by omega) (by omega)
        refine ⟨s1, s2, fun _ => ⟨by dsimp only; omega, ?_, t2⟩⟩
        have : a ≠ scn isDg B n 200 a := fun e => by
          rw [← e] at t4
          rw [t4 (by omega)] at c3
          exact absurd c3 (by decide)
        dsimp only
        omega
      · rw [if_neg c3]
        exact ⟨s1, s2, fun _ => ⟨by dsimp only; omega, by dsimp only; omega, by dsimp only; omega⟩⟩
/-! the class's tokens -/
theorem xAtB {x : St} {B : Nat → Int32} {T p : Nat} (hT : T ≤ 160) (hp : p < 100000) (h1 : x.1 15 1 = nI T) (h2 : ∀ i, i < T → B i = x.1 16 i &&& 255) : f_X8_at x (nI p) = some (btA T B p) := by
  unfold f_X8_at btA
  rw [if_neg (nI_pos (by omega)), nmE, h1]
  by_cases h : p < T
  · rw [if_neg (by rw [le_nI (by omega), nI_rng (by omega)]; omega), if_pos h, gdN (by omega) (by omega), nmE, clampN (by omega), h2 p h]
  · rw [if_pos (by rw [le_nI (by omega), nI_rng (by omega)]; omega), if_neg h]
theorem xBlank (b : Int32) : f_X8_isBlank b = some (if isBl b then 1 else 0) := by
  unfold f_X8_isBlank isBl
  by_cases h1 : b = 32
  · simp [h1]
  · by_cases h2 : b = 10
    · simp [h2]
    · simp [h1, h2]
theorem xLetter (b : Int32) : f_X8_isLetter b = some (if isLt b then 1 else 0) := by
  unfold f_X8_isLetter isLt
  have e1 : (97 : Int32).toInt = 97 := rfl
  have e2 : (122 : Int32).toInt = 122 := rfl
  by_cases h1 : b < 97
  · rw [if_pos h1, if_neg (by simp; rw [lt32] at h1; omega)]
  · by_cases h2 : 122 < b
    · rw [if_neg h1, if_pos h2, if_neg (by simp; rw [lt32] at h2; omega)]
    · rw [if_neg h1, if_neg h2, if_pos (by simp; rw [lt32] at h1 h2; omega)]
theorem xDigit (b : Int32) : f_X8_digitOf b = some (if isDg b then b - 48 else -1) := by
  unfold f_X8_digitOf isDg
  have e1 : (48 : Int32).toInt = 48 := rfl
  have e2 : (57 : Int32).toInt = 57 := rfl
  by_cases h1 : b < 48
  · rw [if_pos h1, if_neg (by simp; rw [lt32] at h1; omega)]
  · by_cases h2 : 57 < b
    · rw [if_neg h1, if_pos h2, if_neg (by simp; rw [lt32] at h2; omega)]
    · rw [if_neg h1, if_neg h2, if_pos (by simp; rw [lt32] at h1 h2; omega)]
theorem dg_sub {b : Int32} (h : isDg b = true) : b - 48 = nI (b.toInt - 48).toNat ∧ (b.toInt - 48).toNat < 10 ∧ ¬ b - 48 = -1 := by
  unfold isDg at h
  simp at h
  have e1 : (48 : Int32).toInt = 48 := rfl
  have hs : (b - 48).toInt = b.toInt - 48 := by rw [sub32 (by omega), e1]
  refine ⟨?_, by omega, fun e => ?_⟩
  · rw [eq32, hs, nI_rng (by omega)]; omega
  · rw [e, show (-1 : Int32).toInt = -1 from rfl] at hs; omega
theorem nv_lt4 {B : Nat → Int32} {a : Nat} : ∀ k, (∀ q, q < k → isDg (B (a + q)) = true) → (k = 0 → nv B a k < 1) ∧ (k ≤ 1 → nv B a k < 10) ∧ (k ≤ 2 → nv B a k < 100) ∧ (k ≤ 3 → nv B a k < 1000) ∧ nv B a k < 10000 := by
  intro k
  induction k with
  | zero => intro _; simp [nv]
  | succ k ih =>
    intro h
    obtain ⟨i0, i1, i2, i3, i4⟩ := ih (fun q hq => h q (by omega))
    obtain ⟨_, d2, _⟩ := dg_sub (h k (by omega))
    have hv : nv B a (k + 1) = if 4 ≤ k then nv B a k else 10 * nv B a k + ((B (a + k)).toInt - 48).toNat := rfl
    rw [hv]
    by_cases c : 4 ≤ k
    · rw [if_pos c]; omega
    · rw [if_neg c]
      refine ⟨by omega, fun h => ?_, fun h => ?_, fun h => ?_, ?_⟩
      · have := i0 (by omega); omega
      · have := i1 (by omega); omega
      · have := i2 (by omega); omega
      · have := i3 (by omega); omega
theorem nv_lt {B : Nat → Int32} {a : Nat} (k : Nat) (h : ∀ q, q < k → isDg (B (a + q)) = true) : nv B a k < 10000 := (nv_lt4 k h).2.2.2.2
section XLEX
variable {x : St} {B : Nat → Int32} {n : Nat}
theorem xSkip (hn : n ≤ 160) (h1 : x.1 15 1 = nI n) (h2 : ∀ i, i < n → B i = x.1 16 i &&& 255) : ∀ (f p F : Nat), p ≤ n → n - p ≤ f → f < F → ∀ K : Int32 → Option St, f_X9_next_l5 x K F (nI p) = K (nI (scn isBl B n f p)) := by
  intro f
  induction f with
  | zero =>
    intro p F h3 h4 h5 K
    obtain ⟨F, rfl⟩ : ∃ g, F = g + 1 := ⟨F - 1, by omega⟩
    rw [f_X9_next_l5, nmE, h1, if_pos (by rw [le_nI (by omega), nI_rng (by omega)]; omega)]
    rfl
  | succ f ih =>
    intro p F h3 h4 h5 K
    obtain ⟨F, rfl⟩ : ∃ g, F = g + 1 := ⟨F - 1, by omega⟩
    unfold scn
    rw [f_X9_next_l5, nmE, h1]
    by_cases c : p < n
    · rw [if_neg (by rw [le_nI (by omega), nI_rng (by omega)]; omega), xAtB hn (by omega) h1 h2, bpE, xBlank, bpE]
      unfold btA
      rw [if_pos c]
      by_cases d : isBl (B p) = true
      · rw [if_pos d, if_neg ne10, if_pos ⟨c, d⟩, nI_1]
        exact ih (p + 1) F (by omega) (by omega) (by omega) K
      · rw [if_neg d, if_pos rfl, if_neg (fun q => d q.2)]
    · rw [if_pos (by rw [le_nI (by omega), nI_rng (by omega)]; omega), if_neg (fun q => c q.1)]
theorem xLetters (hn : n ≤ 160) (h1 : x.1 15 1 = nI n) (h2 : ∀ i, i < n → B i = x.1 16 i &&& 255) : ∀ (f p F : Nat), p ≤ n → n - p ≤ f → f < F → ∀ K : Int32 → Option (Int32 × St), f_X9_wordToken_l5 x K F (nI p) = K (nI (scn isLt B n f p)) := by
  intro f
  induction f with
  | zero =>
    intro p F h3 h4 h5 K
    obtain ⟨F, rfl⟩ : ∃ g, F = g + 1 := ⟨F - 1, by omega⟩
    rw [f_X9_wordToken_l5, nmE, h1, if_pos (by rw [le_nI (by omega), nI_rng (by omega)]; omega)]
    rfl
  | succ f ih =>
    intro p F h3 h4 h5 K
    obtain ⟨F, rfl⟩ : ∃ g, F = g + 1 := ⟨F - 1, by omega⟩
    unfold scn
    rw [f_X9_wordToken_l5, nmE, h1]
    by_cases c : p < n
    · rw [if_neg (by rw [le_nI (by omega), nI_rng (by omega)]; omega), xAtB hn (by omega) h1 h2, bpE, xLetter, bpE]
      unfold btA
      rw [if_pos c]
      by_cases d : isLt (B p) = true
      · rw [if_pos d, if_neg ne10, if_pos ⟨c, d⟩, nI_1]
        exact ih (p + 1) F (by omega) (by omega) (by omega) K
      · rw [if_neg d, if_pos rfl, if_neg (fun q => d q.2)]
    · rw [if_pos (by rw [le_nI (by omega), nI_rng (by omega)]; omega), if_neg (fun q => c q.1)]
theorem xDigits {a : Nat} (hn : n ≤ 160) (h1 : x.1 15 1 = nI n) (h2 : ∀ i, i < n → B i = x.1 16 i &&& 255) (h3 : x.1 17 5 = nI a) : ∀ (f p F : Nat), p ≤ n → a ≤ p → n - p ≤ f → f < F → (∀ q, a ≤ q → q < p → isDg (B q) = true) → ∀ K : Int32 → Int32 → Option (Int32 × St), f_X9_numberToken_l7 x K F (nI p) (nI (nv B a (p - a))) = K (nI (scn isDg B n f p)) (nI (nv B a (scn isDg B n f p - a))) := by
  have e4 : (4 : Int32).toInt = 4 := rfl
  intro f
  induction f with
  | zero =>
    intro p F h4 h5 h6 h7 hdg K
    obtain ⟨F, rfl⟩ : ∃ g, F = g + 1 := ⟨F - 1, by omega⟩
    rw [f_X9_numberToken_l7, nmE, h1, if_pos (by rw [le_nI (by omega), nI_rng (by omega)]; omega)]
    rfl
  | succ f ih =>
    intro p F h4 h5 h6 h7 hdg K
    obtain ⟨F, rfl⟩ : ∃ g, F = g + 1 := ⟨F - 1, by omega⟩
    unfold scn
    rw [f_X9_numberToken_l7, nmE, h1]
    by_cases c : p < n
    · rw [if_neg (by rw [le_nI (by omega), nI_rng (by omega)]; omega), xAtB hn (by omega) h1 h2, bpE, xDigit, bpE]
      unfold btA
      rw [if_pos c]
      by_cases d : isDg (B p) = true
      · obtain ⟨d1, d2, d3⟩ := dg_sub d
        have hv : nv B a (p + 1 - a) = if 4 ≤ p - a then nv B a (p - a) else 10 * nv B a (p - a) + ((B p).toInt - 48).toNat := by
          rw [show p + 1 - a = (p - a) + 1 by omega]
          show (if 4 ≤ p - a then nv B a (p - a) else 10 * nv B a (p - a) + ((B (a + (p - a))).toInt - 48).toNat) = _
          rw [show a + (p - a) = p by omega]
        have next := ih (p + 1) F (by omega) (by omega) (by omega) (by omega) (fun q q1 q2 => by
          by_cases e : q = p
          · subst e; exact d
          · exact hdg q q1 (by omega)) K
        rw [hv] at next
        have hsub : nI p - nI a = nI (p - a) := sub_nI h5 (by omega)
        rw [if_pos d, if_neg d3, nmE, h3, jnE, hsub, if_pos (show p < n ∧ isDg (B p) = true from ⟨c, d⟩), nI_1]
        by_cases c4 : 4 ≤ p - a
        · rw [if_pos c4] at next
          have h44 : (4 : Int32) ≤ nI (p - a) := by rw [le_nI (by omega)]; omega
          rw [if_pos h44]
          exact next
        · rw [if_neg c4] at next
          have h44 : ¬ (4 : Int32) ≤ nI (p - a) := by rw [le_nI (by omega)]; omega
          rw [if_neg h44]
          simp only [bpE, nmE, if_pos d, d1]
          rw [show (10 : Int32) = nI 10 from rfl]
          have hb : nv B a (p - a) < 10000 := nv_lt (p - a) (fun q hq => hdg (a + q) (by omega) (by omega))
          rw [mul_nI 10 _ (by omega) (by omega) (by omega), xDigit, if_pos d, bpE, d1, nI_add]
          exact next
      · rw [if_neg d, if_pos rfl, if_neg (fun q => d q.2)]
    · rw [if_pos (by rw [le_nI (by omega), nI_rng (by omega)]; omega), if_neg (fun q => c q.1)]
end XLEX

/-! STEPS of a text, and what they come to -/
def jv (s a b : Int32) : Int32 := if s = 10009 then (if a = 0 then 0 else if b = 0 then 0 else 1) else if s = 20042 then a * b else if s = 20043 then a + b else if s = 20045 then a - b else if s = 20060 then (if b ≤ a then 0 else 1) else if s = 20061 then (if a = b then 1 else 0) else (if a = 0 then (if b = 0 then 0 else 1) else 1)
theorem joined_some (s a b : Int32) : f_X6_joined s a b = some (jv s a b) := by
  unfold f_X6_joined jv
  simp only [jnE]
  by_cases h1 : s = 10009
  · simp only [if_pos h1]
    by_cases ha : a = 0
    · simp only [if_pos ha, if_true]
    · by_cases hb : b = 0
      · simp only [if_neg ha, if_pos hb, if_true]
      · simp only [if_neg ha, if_neg hb, if_neg ne10]
  · simp only [if_neg h1]
    by_cases h2 : s = 20042
    · simp only [if_pos h2]
    · by_cases h3 : s = 20043
      · simp only [if_neg h2, if_pos h3]
      · by_cases h4 : s = 20045
        · simp only [if_neg h2, if_neg h3, if_pos h4]
        · by_cases h5 : s = 20060
          · simp only [if_neg h2, if_neg h3, if_neg h4, if_pos h5]
            by_cases hb : b ≤ a
            · simp only [if_pos hb, if_true]
            · simp only [if_neg hb, if_neg ne10]
          · by_cases h6 : s = 20061
            · simp only [if_neg h2, if_neg h3, if_neg h4, if_neg h5, if_pos h6]
              by_cases hb : a = b
              · simp only [if_pos hb, if_neg ne10]
              · simp only [if_neg hb, if_true]
            · simp only [if_neg h2, if_neg h3, if_neg h4, if_neg h5, if_neg h6]
              by_cases ha : a = 0
              · by_cases hb : b = 0
                · simp only [if_pos ha, if_pos hb, if_true]
                · simp only [if_pos ha, if_neg hb, if_neg ne10]
              · simp only [if_neg ha, if_neg ne10]
def est (env : Nat → Int32) (q : Int32 × List Int32) (s : Int32) : Int32 × List Int32 :=
  if 0 ≤ s.toInt ∧ s.toInt < 10006 then ((if 10000 ≤ s.toInt then env (s.toInt - 10000).toNat else s), q.1 :: q.2)
  else if s = 30000 then (-q.1, q.2)
  else if s = 10010 then ((if q.1 = 0 then 1 else 0), q.2)
  else match q.2 with
    | [] => q
    | a :: r => (jv s a q.1, r)
theorem est_cg {e e' : Nat → Int32} (h : ∀ k, k < 6 → e k = e' k) (q : Int32 × List Int32) (s : Int32) : est e q s = est e' q s := by
  unfold est
  by_cases c : 0 ≤ s.toInt ∧ s.toInt < 10006
  · rw [if_pos c, if_pos c]
    by_cases c2 : 10000 ≤ s.toInt
    · rw [if_pos c2, if_pos c2, h _ (by omega)]
    · rw [if_neg c2, if_neg c2]
  · rw [if_neg c, if_neg c]
def Ev (env : Nat → Int32) (L : List Int32) (v : Int32) : Prop := ∀ last stk, L.foldl (est env) (last, stk) = (v, last :: stk)
def ef (env : Nat → Int32) (S : Nat → Int32) : Nat → Nat → Int32 × List Int32 → Int32 × List Int32
  | 0, _, q => q
  | d + 1, i, q => ef env S d (i + 1) (est env q (S i))
theorem ef_list {env S : Nat → Int32} : ∀ (L : List Int32) (i : Nat) (q : Int32 × List Int32), (∀ k, k < L.length → S (i + k) = L.getD k 0) → ef env S L.length i q = L.foldl (est env) q := by
  intro L
  induction L with
  | nil => intro i q _; rfl
  | cons a L ih =>
    intro i q h
    show ef env S L.length (i + 1) (est env q (S i)) = L.foldl (est env) (est env q a)
    have h0 := h 0 (by simp)
    rw [Nat.add_zero] at h0
    rw [ih (i + 1) _ (fun k hk => ?_), h0]
    · rfl
    · have := h (k + 1) (by simp; omega)
      rw [show i + 1 + k = i + (k + 1) by omega, this]
      rfl
def StkR (f : Nat → Int32) : List Int32 → Prop
  | [] => True
  | a :: r => f r.length = a ∧ StkR f r
theorem StkR.cg {f g : Nat → Int32} : ∀ {L : List Int32}, StkR f L → (∀ k, k < L.length → f k = g k) → StkR g L := by
  intro L
  induction L with
  | nil => intro _ _; trivial
  | cons a r ih =>
    intro h hk
    exact ⟨by rw [← hk r.length (by simp)]; exact h.1, ih h.2 (fun k hk2 => hk k (by simp; omega))⟩
theorem xOper (a : Int32) : f_X6_isOperand a = some (iz (0 ≤ a.toInt ∧ a.toInt < 10006)) := by
  unfold f_X6_isOperand
  have e0 : (0 : Int32).toInt = 0 := rfl
  have e5 : (10006 : Int32).toInt = 10006 := rfl
  unfold iz
  by_cases h1 : a < 0
  · rw [if_pos h1, if_neg (by rw [lt32] at h1; omega)]
  · by_cases h2 : 10006 ≤ a
    · rw [if_neg h1, if_pos h2, if_neg (by rw [le32] at h2; omega)]
    · rw [if_neg h1, if_neg h2, if_pos (by rw [lt32] at h1; rw [le32] at h2; omega)]
theorem val_l {cr len e : Nat} {env S : Nat → Int32} (hcr : 66 ≤ cr) (hl : len ≤ 160) (he : e ≤ len) : ∀ (d f i : Nat) (last : Int32) (stk : List Int32) (σ : St), i + d = e → d < f → stk.length + d ≤ 160 → σ.2.2.2 (cr + 1) = len → σ.1 (cr + 1) = S → (∀ k, k < 6 → σ.1 34 k = env k) → StkR (σ.1 35) stk → ∃ σ', f_X6_valueOf_l42 cr (nI e) f last (nI stk.length) (nI i) σ = some ((ef env S d i (last, stk)).1, σ') ∧ (∀ c, c ≠ 35 → σ'.1 c = σ.1 c) ∧ σ'.2 = σ.2 := by
  have e1 : (10000 : Int32).toInt = 10000 := rfl
  have e160 : (160 : Int32).toInt = 160 := rfl
  have e0 : (0 : Int32).toInt = 0 := rfl
  intro d
  induction d with
  | zero =>
    intro f i last stk σ hi hf h1 h2 h3 h4 h5
    obtain ⟨f, rfl⟩ : ∃ g, f = g + 1 := ⟨f - 1, by omega⟩
    have : nI e ≤ nI i := by rw [le_nI (by omega), nI_rng (by omega)]; omega
    rw [f_X6_valueOf_l42, if_pos this]
    exact ⟨σ, rfl, fun _ _ => rfl, rfl⟩
  | succ d ih =>
    intro f i last stk σ hi hf h1 h2 h3 h4 h5
    obtain ⟨f, rfl⟩ : ∃ g, f = g + 1 := ⟨f - 1, by omega⟩
    have hne : ¬ nI e ≤ nI i := by rw [le_nI (by omega), nI_rng (by omega)]; omega
    have hin : inb (nI i) (σ.2.2.2 (cr + 1)) := by rw [h2]; exact inb_nI (by omega) (by omega)
    rw [f_X6_valueOf_l42, if_neg hne, gd_pos hin, nmE, clampN (by omega), h3, xOper, bpE, jnE, nI_1]
    show ∃ σ', _ = some ((ef env S d (i + 1) (est env (last, stk) (S i))).1, σ') ∧ _
    generalize S i = s
    unfold est
    dsimp only
    by_cases c : 0 ≤ s.toInt ∧ s.toInt < 10006
    · rw [iz_pos c, if_neg ne10, if_pos c, jnE]
      have q1 : ¬ (160 : Int32) ≤ nI stk.length := by rw [le_nI (by omega)]; omega
      rw [if_neg q1, gdN (by omega) (by omega), nmE, clampN (by omega)]
      dsimp only
      rw [jnE, nI_1]
      have next := fun v => ih f (i + 1) v (last :: stk) (sI σ 35 stk.length last) (by omega) (by omega) (by simp; omega) h2 (by rw [sI_ro _ 35 _ _ (cr + 1) (by omega)]; exact h3) (fun k hk => by rw [sI_ro _ 35 _ _ 34 (by omega)]; exact h4 k hk) ⟨sI_at _ _ _ _, h5.cg (fun k hk => by rw [sI_rne _ 35 _ _ k (by omega)])⟩
      simp only [List.length_cons] at next
      by_cases c2 : 10000 ≤ s.toInt
      · have q2 : (10000 : Int32) ≤ s := by rw [le32]; omega
        have hs : (s - 10000).toInt = s.toInt - 10000 := by rw [sub32 (by omega), e1]
        have hcl := clamp_toInt (i := s - 10000) (by omega)
        have hk : (s - 10000).toNatClampNeg = (s.toInt - 10000).toNat := by omega
        rw [if_pos q2, if_pos c2, nmE, gd_pos (inb_of (by omega) (by omega)), nmE, hk, sI_ro _ 35 _ _ 34 (by omega), h4 _ (by omega)]
        obtain ⟨σ', n1, n2, n3⟩ := next (env (s.toInt - 10000).toNat)
        exact ⟨σ', n1, fun q hq => by rw [n2 q hq, sI_ro _ 35 _ _ q hq], by rw [n3]; rfl⟩
      · have q2 : ¬ (10000 : Int32) ≤ s := by rw [le32]; omega
        rw [if_neg q2, if_neg c2]
        obtain ⟨σ', n1, n2, n3⟩ := next s
        exact ⟨σ', n1, fun q hq => by rw [n2 q hq, sI_ro _ 35 _ _ q hq], by rw [n3]; rfl⟩
    · rw [iz_neg c, if_pos rfl, if_neg c]
      by_cases c2 : s = 30000
      · rw [if_pos c2, if_pos c2]
        exact ih f (i + 1) (-last) stk σ (by omega) (by omega) (by omega) h2 h3 h4 h5
      · rw [if_neg c2, if_neg c2]
        by_cases c3 : s = 10010
        · rw [if_pos c3, if_pos c3, jnE]
          by_cases c4 : last = 0
          · rw [if_pos c4, if_pos c4]
            exact ih f (i + 1) 1 stk σ (by omega) (by omega) (by omega) h2 h3 h4 h5
          · rw [if_neg c4, if_neg c4]
            exact ih f (i + 1) 0 stk σ (by omega) (by omega) (by omega) h2 h3 h4 h5
        · rw [if_neg c3, if_neg c3]
          cases stk with
          | nil =>
            have q : nI ([] : List Int32).length ≤ 0 := by decide
            rw [if_pos q]
            exact ih f (i + 1) last [] σ (by omega) (by omega) (by simp; omega) h2 h3 h4 h5
          | cons a r =>
            have hlen : (a :: r).length = r.length + 1 := rfl
            have q : ¬ nI (a :: r).length ≤ 0 := by rw [nI_lek (by simp at h1; omega), e0]; simp
            have q3 : nI (a :: r).length + -1 = nI r.length := by
              have hr0 : r.length < 160 := by simp at h1; omega
              have em : (-1 : Int32).toInt = -1 := rfl
              rw [hlen, eq32, add32 (by rw [nI_rng (by omega), em]; omega), nI_rng (by omega), nI_rng (by omega), em]
              omega
            have hr : r.length < 160 := by simp at h1; omega
            rw [if_neg q, nmE, q3, gdN hr (by omega), nmE, clampN (by omega), h5.1, joined_some, bpE]
            exact ih f (i + 1) (jv s a last) r σ (by omega) (by omega) (by omega) h2 h3 h4 h5.2
/-- give (1) or drag (0) of steps -/
theorem val_all {cr len : Nat} {env : Nat → Int32} {L1 L2 : List Int32} {v1 v2 : Int32} {σ : St} (hcr : 66 ≤ cr) (hl : len ≤ 160) (h0 : L1.length + L2.length = len) (h1 : σ.1 cr 1 = nI L1.length) (h2 : σ.2.2.2 (cr + 1) = len) (h3 : ∀ k, k < len → σ.1 (cr + 1) k = (L1 ++ L2).getD k 0) (h4 : ∀ k, k < 6 → σ.1 34 k = env k) (w1 : Ev env L1 v1) (w2 : Ev env L2 v2) : (∃ σ', f_X6_valueOf σ cr 1 = some (v1, σ') ∧ (∀ c, c ≠ 35 → σ'.1 c = σ.1 c) ∧ σ'.2 = σ.2) ∧ (∃ σ', f_X6_valueOf σ cr 0 = some (v2, σ') ∧ (∀ c, c ≠ 35 → σ'.1 c = σ.1 c) ∧ σ'.2 = σ.2) := by
  constructor
  · obtain ⟨σ', q1, q2, q3⟩ := val_l (env := env) (S := σ.1 (cr + 1)) hcr hl (show L1.length ≤ len by omega) L1.length FU 0 0 [] σ (by omega) (by unfold FU; omega) (by simp; omega) h2 rfl h4 trivial
    refine ⟨σ', ?_, q2, q3⟩
    rw [ef_list L1 0 _ (fun k hk => by rw [Nat.zero_add, h3 k (by omega)]; simp [List.getElem?_append_left hk]), w1] at q1
    rw [f_X6_valueOf, jnE, if_neg ne10]
    dsimp only
    rw [jnE, if_neg ne10, nmE, h1]
    exact q1
  · obtain ⟨σ', q1, q2, q3⟩ := val_l (env := env) (S := σ.1 (cr + 1)) hcr hl (Nat.le_refl len) L2.length FU L1.length 0 [] σ (by omega) (by unfold FU; omega) (by simp; omega) h2 rfl h4 trivial
    refine ⟨σ', ?_, q2, q3⟩
    rw [ef_list L2 L1.length _ (fun k hk => by rw [h3 _ (by omega)]; simp [List.getElem?_append_right]), w2] at q1
    rw [f_X6_valueOf, jnE, if_pos rfl, nmE]
    dsimp only
    rw [jnE, if_pos rfl, nmE, h1, h2]
    exact q1

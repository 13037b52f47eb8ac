/-! TIGHTEST BOUNDS: the greatest matrix below all edges; 999999 is no bound -/
def fn (d : Int) : Prop := d ≠ 999999
abbrev Mx : Type := Nat → Nat → Int
abbrev Ed : Type := Nat → Nat → Int → Prop
def Sol (E : Ed) (D : Mx) : Prop := (∀ a, a < 16 → D a a = 0) ∧ (∀ a b c, a < 16 → b < 16 → c < 16 → fn (D a b) → fn (D b c) → fn (D a c) ∧ D a c ≤ D a b + D b c) ∧ (∀ a b w, a < 16 → b < 16 → E a b w → fn (D a b) ∧ D a b ≤ w)
def Lem (D' D : Mx) : Prop := ∀ a b, a < 16 → b < 16 → fn (D a b) → fn (D' a b) ∧ D' a b ≤ D a b
def Gr (E : Ed) (D : Mx) : Prop := Sol E D ∧ ∀ D', Sol E D' → Lem D' D
def NoS (E : Ed) : Prop := ∀ D, ¬ Sol E D
def addE (E : Ed) (a b : Nat) (w : Int) : Ed := fun i j v => E i j v ∨ (i = a ∧ j = b ∧ v = w)
theorem Gr.eq {E : Ed} {D D' : Mx} (h : Gr E D) (h' : Gr E D') : ∀ a b, a < 16 → b < 16 → D a b = D' a b := by
  intro a b ha hb
  have h1 := h.2 D' h'.1 a b ha hb
  have h2 := h'.2 D h.1 a b ha hb
  unfold fn at h1 h2
  by_cases c : D a b = 999999
  · by_cases c' : D' a b = 999999
    · omega
    · exact absurd c (h2 c').1
  · have := h1 c
    have := h2 this.1
    omega
theorem Sol.mono {E E' : Ed} {D : Mx} (h : Sol E' D) (hE : ∀ a b w, E a b w → E' a b w) : Sol E D := ⟨h.1, h.2.1, fun a b w ha hb e => h.2.2 a b w ha hb (hE a b w e)⟩
theorem NoS.mono {E E' : Ed} (h : NoS E) (hE : ∀ a b w, E a b w → E' a b w) : NoS E' := fun D hD => h D (hD.mono hE)
theorem Gr.cgE {E E' : Ed} {D : Mx} (h : Gr E D) (hE : ∀ a b w, a < 16 → b < 16 → (E a b w ↔ E' a b w)) : Gr E' D := by
  refine ⟨⟨h.1.1, h.1.2.1, fun a b w ha hb e => h.1.2.2 a b w ha hb ((hE a b w ha hb).mpr e)⟩, fun D' hD' => h.2 D' ⟨hD'.1, hD'.2.1, fun a b w ha hb e => hD'.2.2 a b w ha hb ((hE a b w ha hb).mp e)⟩⟩
theorem NoS.cgE {E E' : Ed} (h : NoS E) (hE : ∀ a b w, a < 16 → b < 16 → (E a b w ↔ E' a b w)) : NoS E' := fun D hD => h D ⟨hD.1, hD.2.1, fun a b w ha hb e => hD.2.2 a b w ha hb ((hE a b w ha hb).mp e)⟩
/-- an edge that can't be -/
theorem keep_no {E : Ed} {D : Mx} {a b : Nat} {w : Int} (h : Gr E D) (ha : a < 16) (hb : b < 16) (h1 : fn (D b a)) (h2 : D b a + w < 0) : NoS (addE E a b w) := by
  intro D' hD'
  have hs : Sol E D' := hD'.mono (fun _ _ _ e => Or.inl e)
  obtain ⟨l1, l2⟩ := h.2 D' hs b a hb ha h1
  obtain ⟨l3, l4⟩ := hD'.2.2 a b w ha hb (Or.inr ⟨rfl, rfl, rfl⟩)
  obtain ⟨_, l5⟩ := hD'.2.1 b a b hb ha hb l1 l3
  have := hD'.1 b hb
  omega
theorem keep_old {E : Ed} {D : Mx} {a b : Nat} {w : Int} (h : Gr E D) (h1 : fn (D a b)) (h2 : D a b ≤ w) : Gr (addE E a b w) D := by
  refine ⟨⟨h.1.1, h.1.2.1, fun i j v hi hj e => ?_⟩, fun D' hD' => h.2 D' (hD'.mono (fun _ _ _ e => Or.inl e))⟩
  rcases e with e | ⟨rfl, rfl, rfl⟩
  · exact h.1.2.2 i j v hi hj e
  · exact ⟨h1, h2⟩
/-- one more edge, drawn tight -/
def tight (D : Mx) (a b : Nat) (w : Int) : Mx := fun i j => if D i a ≠ 999999 ∧ D b j ≠ 999999 ∧ D i a + w + D b j < D i j then D i a + w + D b j else D i j
theorem tight_p {D : Mx} {a b : Nat} {w : Int} (i j : Nat) (hU : D i a ≠ 999999 → D b j ≠ 999999 → D i a + w + D b j < 999999) : tight D a b w i j ≤ D i j ∧ (fn (D i a) → fn (D b j) → fn (tight D a b w i j) ∧ tight D a b w i j ≤ D i a + w + D b j) ∧ (tight D a b w i j = D i j ∨ (fn (D i a) ∧ fn (D b j) ∧ tight D a b w i j = D i a + w + D b j)) ∧ (fn (D i j) → fn (tight D a b w i j) ∨ D i j > 999999) := by
  unfold tight fn
  by_cases c : D i a ≠ 999999 ∧ D b j ≠ 999999 ∧ D i a + w + D b j < D i j
  · rw [if_pos c]
    have := hU c.1 c.2.1
    refine ⟨by omega, fun _ _ => ⟨by omega, by omega⟩, Or.inr ⟨c.1, c.2.1, rfl⟩, fun _ => Or.inl (by omega)⟩
  · rw [if_neg c]
    refine ⟨by omega, fun h1 h2 => ?_, Or.inl rfl, fun h => Or.inl h⟩
    have := hU h1 h2
    have : ¬ D i a + w + D b j < D i j := fun h => c ⟨h1, h2, h⟩
    omega
theorem keep_new {E : Ed} {D : Mx} {a b : Nat} {w U : Int} (h : Gr E D) (ha : a < 16) (hb : b < 16) (hle : ∀ i j, i < 16 → j < 16 → D i j ≠ 999999 → D i j ≤ U) (hU : 2 * U + w < 999999) (hU2 : U < 999999) (h1 : fn (D b a) → 0 ≤ D b a + w) : Gr (addE E a b w) (tight D a b w) := by
  obtain ⟨⟨s1, s2, s3⟩, gr⟩ := h
  have hp := fun i j (hi : i < 16) (hj : j < 16) => tight_p (D := D) (a := a) (b := b) (w := w) i j (fun e1 e2 => by have := hle i a hi ha e1; have := hle b j hb hj e2; omega)
  have hfin : ∀ i j, i < 16 → j < 16 → fn (D i j) → fn (tight D a b w i j) := fun i j hi hj hf => by
    rcases (hp i j hi hj).2.2.2 hf with q | q
    · exact q
    · have := hle i j hi hj hf; omega
  refine ⟨⟨fun i hi => ?_, fun i j k hi hj hk f1 f2 => ?_, fun i j v hi hj e => ?_⟩, fun D' hD' => ?_⟩
  · -- the diagonal
    rcases (hp i i hi hi).2.2.1 with e | ⟨e1, e2, e3⟩
    · rw [e]; exact s1 i hi
    · obtain ⟨f1, f2⟩ := s2 b i a hb hi ha e2 e1
      have := h1 f1
      have h0 := (hp i i hi hi).1
      have h00 := s1 i hi
      omega
  · -- triangles
    rcases (hp i j hi hj).2.2.1 with e | ⟨e1, e2, e3⟩
    · rcases (hp j k hj hk).2.2.1 with g | ⟨g1, g2, g3⟩
      · rw [e] at f1 ⊢
        rw [g] at f2 ⊢
        obtain ⟨q1, q2⟩ := s2 i j k hi hj hk f1 f2
        exact ⟨hfin i k hi hk q1, by have := (hp i k hi hk).1; omega⟩
      · rw [e] at f1 ⊢
        rw [g3]
        obtain ⟨q1, q2⟩ := s2 i j a hi hj ha f1 g1
        obtain ⟨q3, q4⟩ := (hp i k hi hk).2.1 q1 g2
        exact ⟨q3, by omega⟩
    · rcases (hp j k hj hk).2.2.1 with g | ⟨g1, g2, g3⟩
      · rw [g] at f2 ⊢
        rw [e3]
        obtain ⟨q1, q2⟩ := s2 b j k hb hj hk e2 f2
        obtain ⟨q3, q4⟩ := (hp i k hi hk).2.1 e1 q1
        exact ⟨q3, by omega⟩
      · rw [e3, g3]
        obtain ⟨q1, q2⟩ := s2 b j a hb hj ha e2 g1
        have := h1 q1
        obtain ⟨q3, q4⟩ := (hp i k hi hk).2.1 e1 g2
        exact ⟨q3, by omega⟩
  · rcases e with e | ⟨rfl, rfl, rfl⟩
    · obtain ⟨q1, q2⟩ := s3 i j v hi hj e
      exact ⟨hfin i j hi hj q1, by have := (hp i j hi hj).1; omega⟩
    · have ea := s1 i hi
      have eb := s1 j hj
      obtain ⟨q1, q2⟩ := (hp i j hi hj).2.1 (by rw [ea]; unfold fn; omega) (by rw [eb]; unfold fn; omega)
      exact ⟨q1, by omega⟩
  · -- none greater
    have hs : Sol E D' := hD'.mono (fun _ _ _ e => Or.inl e)
    have hL := gr D' hs
    intro i j hi hj f
    rcases (hp i j hi hj).2.2.1 with e | ⟨e1, e2, e3⟩
    · rw [e] at f ⊢; exact hL i j hi hj f
    · rw [e3]
      obtain ⟨l1, l2⟩ := hL i a hi ha e1
      obtain ⟨l3, l4⟩ := hL b j hb hj e2
      obtain ⟨l5, l6⟩ := hD'.2.2 a b w ha hb (Or.inr ⟨rfl, rfl, rfl⟩)
      obtain ⟨l7, l8⟩ := hD'.2.1 i a b hi ha hb l1 l5
      obtain ⟨l9, l10⟩ := hD'.2.1 i b j hi hb hj l7 l3
      exact ⟨l9, by omega⟩
/-! how many -/
def cnt (P : Nat → Bool) : Nat → Nat
  | 0 => 0
  | k + 1 => cnt P k + (if P k then 1 else 0)
theorem cnt_le (P : Nat → Bool) : ∀ n, cnt P n ≤ n := by
  intro n
  induction n with
  | zero => simp [cnt]
  | succ n ih => unfold cnt; split <;> omega
theorem cnt_mono {P R : Nat → Bool} : ∀ n, (∀ k, k < n → P k = true → R k = true) → cnt P n ≤ cnt R n := by
  intro n
  induction n with
  | zero => intro _; simp [cnt]
  | succ n ih =>
    intro h
    have := ih (fun k hk => h k (by omega))
    unfold cnt
    by_cases c : P n = true
    · rw [if_pos c, if_pos (h n (by omega) c)]; omega
    · rw [if_neg c]; omega
theorem cnt_add {P Q R : Nat → Bool} : ∀ n, (∀ k, k < n → P k = true → R k = true) → (∀ k, k < n → Q k = true → R k = true) → (∀ k, k < n → ¬ (P k = true ∧ Q k = true)) → cnt P n + cnt Q n ≤ cnt R n := by
  intro n
  induction n with
  | zero => intro _ _ _; simp [cnt]
  | succ n ih =>
    intro h1 h2 h3
    have := ih (fun k hk => h1 k (by omega)) (fun k hk => h2 k (by omega)) (fun k hk => h3 k (by omega))
    unfold cnt
    by_cases c : P n = true
    · have cq : ¬ Q n = true := fun q => h3 n (by omega) ⟨c, q⟩
      rw [if_pos c, if_neg cq, if_pos (h1 n (by omega) c)]; omega
    · rw [if_neg c]
      by_cases cq : Q n = true
      · rw [if_pos cq, if_pos (h2 n (by omega) cq)]; omega
      · rw [if_neg cq]; omega
theorem cnt_pos {P : Nat → Bool} {i : Nat} : ∀ n, i < n → P i = true → 1 ≤ cnt P n := by
  intro n
  induction n with
  | zero => intro h; omega
  | succ n ih =>
    intro h hp
    unfold cnt
    by_cases e : i = n
    · subst e; rw [if_pos hp]; omega
    · have := ih (by omega) hp; omega
def btw (D : Mx) (i j : Nat) (k : Nat) : Bool := decide (D i k ≠ 999999 ∧ D k j ≠ 999999)
/-- finite bounds stay small: each by so many edges as there are rowers between -/
def UB (D : Mx) : Prop := ∀ i j, i < 16 → j < 16 → fn (D i j) → D i j + 10998 ≤ 10998 * (cnt (btw D i j) 16 : Int)
theorem UB.le {D : Mx} (h : UB D) : ∀ i j, i < 16 → j < 16 → D i j ≠ 999999 → D i j ≤ 164970 := fun i j hi hj f => by
  have h1 := h i j hi hj f
  have h2 := cnt_le (btw D i j) 16
  omega
theorem UBtight {E : Ed} {D : Mx} {a b : Nat} {w : Int} (h : Gr E D) (hU : UB D) (ha : a < 16) (hb : b < 16) (hw : w ≤ 10998) : UB (tight D a b w) := by
  have hle := hU.le
  have hp := fun i j (hi : i < 16) (hj : j < 16) => tight_p (D := D) (a := a) (b := b) (w := w) i j (fun e1 e2 => by have := hle i a hi ha e1; have := hle b j hb hj e2; omega)
  have hfin : ∀ i j, i < 16 → j < 16 → fn (D i j) → fn (tight D a b w i j) := fun i j hi hj hf => by
    rcases (hp i j hi hj).2.2.2 hf with q | q
    · exact q
    · have := hle i j hi hj hf; omega
  intro i j hi hj f
  rcases (hp i j hi hj).2.2.1 with e | ⟨e1, e2, e3⟩
  · rw [e] at f ⊢
    have h1 := hU i j hi hj f
    have h2 : cnt (btw D i j) 16 ≤ cnt (btw (tight D a b w) i j) 16 := cnt_mono 16 (fun k hk hb => by
      unfold btw at hb ⊢
      simp only [decide_eq_true_eq] at hb ⊢
      exact ⟨hfin i k hi hk hb.1, hfin k j hk hj hb.2⟩)
    omega
  · by_cases c : fn (D i j)
    · have h0 := (hp i j hi hj).1
      have h1 := hU i j hi hj c
      have h2 : cnt (btw D i j) 16 ≤ cnt (btw (tight D a b w) i j) 16 := cnt_mono 16 (fun k hk hb => by
        unfold btw at hb ⊢
        simp only [decide_eq_true_eq] at hb ⊢
        exact ⟨hfin i k hi hk hb.1, hfin k j hk hj hb.2⟩)
      omega
    · have h1 := hU i a hi ha e1
      have h2 := hU b j hb hj e2
      have h3 : cnt (btw D i a) 16 + cnt (btw D b j) 16 ≤ cnt (btw (tight D a b w) i j) 16 := by
        refine cnt_add 16 (fun k hk hb' => ?_) (fun k hk hb' => ?_) (fun k hk hb' => ?_)
        · unfold btw at hb' ⊢
          simp only [decide_eq_true_eq] at hb' ⊢
          exact ⟨hfin i k hi hk hb'.1, ((hp k j hk hj).2.1 hb'.2 e2).1⟩
        · unfold btw at hb' ⊢
          simp only [decide_eq_true_eq] at hb' ⊢
          exact ⟨((hp i k hi hk).2.1 e1 hb'.1).1, hfin k j hk hj hb'.2⟩
        · unfold btw at hb'
          simp only [decide_eq_true_eq] at hb'
          exact c (h.1.2.1 i k j hi hk hj hb'.1.1 hb'.2.2).1
      rw [e3]
      omega

/-! the search -/
theorem bc_le (w : Nat) : bc w ≤ 12 := cnt_le _ 12
theorem bc_or (w i : Nat) : bc w ≤ bc (w ||| 2 ^ i) := cnt_mono 12 (fun k _ h => by
  show (w ||| 2 ^ i).testBit k = true
  rw [Nat.testBit_or, show w.testBit k = true from h]; rfl)
noncomputable def stp (G : Nat → Prop) (st : Nat × Nat) (w : Nat) : Nat × Nat := @ite _ (bc w < st.1 ∧ G w) (Classical.propDecidable _) (bc w, w) st
noncomputable def run (G : Nat → Prop) (s : Nat) : Nat → Nat → Nat × Nat → Nat × Nat
  | 0, w, st => stp G st w
  | i + 1, w, st => if s.testBit i = true then run G s i (w ||| 2 ^ i) (run G s i w st) else run G s i w st
theorem run_prune {G : Nat → Prop} {s : Nat} : ∀ (i w : Nat) (st : Nat × Nat), st.1 ≤ bc w → run G s i w st = st := by
  intro i
  induction i with
  | zero => intro w st h; rw [run, stp, if_neg (fun q => by have := q.1; omega)]
  | succ i ih =>
    intro w st h
    rw [run]
    have := bc_or w i
    by_cases c : s.testBit i = true
    · rw [if_pos c, ih w st h, ih _ st (by omega)]
    · rw [if_neg c, ih w st h]
theorem run_none {G : Nat → Prop} {s : Nat} : ∀ (i w : Nat) (st : Nat × Nat), (∀ w', (∀ p, i ≤ p → w'.testBit p = w.testBit p) → ¬ G w') → run G s i w st = st := by
  intro i
  induction i with
  | zero => intro w st h; rw [run, stp, if_neg (fun q => h w (fun _ _ => rfl) q.2)]
  | succ i ih =>
    intro w st h
    rw [run]
    have h1 : run G s i w st = st := ih w st (fun w' hw' => h w' (fun p hp => hw' p (by omega)))
    have h2 : run G s i (w ||| 2 ^ i) st = st := ih _ st (fun w' hw' => h w' (fun p hp => by
      rw [hw' p (by omega), Nat.testBit_or, Nat.testBit_two_pow_of_ne (by omega), Bool.or_false]))
    by_cases c : s.testBit i = true
    · rw [if_pos c, h1, h2]
    · rw [if_neg c, h1]
theorem KI.cgD {E : Ed} {D D' : Mx} (h : KI E D) (e : ∀ i j, i < 16 → j < 16 → D' i j = D i j) : KI E D' := by
  obtain ⟨⟨⟨h1, h2, h3⟩, h4⟩, h5, h6⟩ := h
  refine ⟨⟨⟨fun a ha => by rw [e a a ha ha]; exact h1 a ha, fun a b c ha hb hc => by rw [e a b ha hb, e b c hb hc, e a c ha hc]; exact h2 a b c ha hb hc, fun a b w ha hb => by rw [e a b ha hb]; exact h3 a b w ha hb⟩, fun D2 hD2 a b ha hb => by rw [e a b ha hb]; exact h4 D2 hD2 a b ha hb⟩, fun i j hi hj => ?_, fun i j hi hj => by rw [e i j hi hj, e j i hj hi]; exact h6 i j hi hj⟩
  rw [e i j hi hj, cnt_cg (P := btw D' i j) (Q := btw D i j) 16 (fun q hq => by unfold btw; rw [e i q hi (by omega), e q j (by omega) hj])]
  exact h5 i j hi hj
theorem takeE {E : Ed} {x : St} {i : Nat} (hi : i < 12) (h : KI E (XM x (43 + (i + 1)))) : ∃ x', f_X10_takeOver x (nI i) = some x' ∧ (∀ c, c ≠ 43 + i → x'.1 c = x.1 c) ∧ x'.2 = x.2 ∧ KI E (XM x' (43 + i)) := by
  have h256 : Int32.toNatClampNeg 256 = 256 := by decide
  have h0 : Int32.toNatClampNeg 0 = 0 := by decide
  refine ⟨sA x (43 + i) (va_cpy (x.1 (43 + (i + 1))) (x.1 (43 + i)) 0 0 256), ?_, fun c hc => ?_, rfl, h.cgD (fun a b ha hb => ?_)⟩
  · unfold f_X10_takeOver
    rw [nmE, nI_1, gdN (by omega) (by omega), gdN (by omega) (by omega), gdN (by omega) (by omega), gd_pos (by decide), nmE, clampN (by omega), clampN (by omega), h256, h0]
  · unfold sA va_up; simp [hc]
  · unfold XM
    rw [sA_row]
    unfold va_cpy
    rw [if_pos (by omega)]
    simp
/-- told and not left out -/
def TK (s w i : Nat) : Nat → Prop := fun p => i ≤ p ∧ s.testBit p = true ∧ w.testBit p = false
section SK
variable {A C : Nat → Nat} {F S : Nat → Int} {n s : Nat}
def GD (A C : Nat → Nat) (F S : Nat → Int) (s w : Nat) : Prop := ¬ NoS (EP A C F S (TK s w 0))
theorem EP_cg {t t' : Nat → Prop} (h : ∀ i, t i ↔ t' i) : EP A C F S t = EP A C F S t' := by
  have : t = t' := funext (fun i => propext (h i))
  rw [this]
def PX (A C : Nat → Nat) (F S : Nat → Int) (n : Nat) (x : St) : Prop := ∀ i, i < n → x.1 38 i = nI (A i) ∧ x.1 39 i = nI (C i) ∧ A i < 16 ∧ C i < 16 ∧ (x.1 40 i).toInt = F i ∧ (x.1 41 i).toInt = S i ∧ rng (x.1 40 i) (-9999) 9999 ∧ rng (x.1 41 i) 0 999
theorem PX.cg {x x' : St} (h : PX A C F S n x) (e : ∀ c, c ≠ 37 → c < 43 → x'.1 c = x.1 c) : PX A C F S n x' := fun i hi => by
  rw [e 38 (by omega) (by omega), e 39 (by omega) (by omega), e 40 (by omega) (by omega), e 41 (by omega) (by omega)]; exact h i hi
theorem seekE (hs : s < 4096) (hn : n ≤ 30) (hsn : ∀ p, s.testBit p = true → p < n) : ∀ (i : Nat), i ≤ 12 → ∀ (d w : Nat) (st : Nat × Nat) (x : St), i < d → w < 4096 → (∀ p, p < i → w.testBit p = false) → st.1 ≤ 13 → x.1 37 6 = nI st.1 → x.1 37 7 = nI st.2 → PX A C F S n x → KI (EP A C F S (TK s w i)) (XM x (43 + i)) → ∃ x', f_GK d 0 x (nI s) (nI i - 1) (nI w) = some x' ∧ x'.1 37 6 = nI (run (GD A C F S s) s i w st).1 ∧ x'.1 37 7 = nI (run (GD A C F S s) s i w st).2 ∧ (run (GD A C F S s) s i w st).1 ≤ 13 ∧ (∀ q, q ≠ 37 → (q < 43 ∨ 43 + i ≤ q) → x'.1 q = x.1 q) ∧ (∀ j, j ≠ 6 → j ≠ 7 → x'.1 37 j = x.1 37 j) ∧ x'.2 = x.2 := by
  intro i
  induction i with
  | zero =>
    intro _ d w st x hd hw hlow hst h6 h7 hP hK
    obtain ⟨d, rfl⟩ : ∃ g, d = g + 1 := ⟨d - 1, by omega⟩
    have hb := bc_le w
    rw [f_GK, fb_X10_seek, bcX hw, bpE, nmE, h6]
    by_cases c : bc w < st.1
    · rw [if_pos (by rw [lt32, nI_rng (by omega), nI_rng (by omega)]; omega), jnE, if_pos (by decide), bpE, nmE, nmE]
      have hr : run (GD A C F S s) s 0 w st = (bc w, w) := by
        rw [run, stp, if_pos ⟨c, fun z => hK.1.noS z⟩]
      rw [hr]
      refine ⟨_, rfl, by simp [sI_rd], by simp [sI_rd], by dsimp only; omega, fun q hq _ => by rw [sI_ro _ 37 7 _ q hq, sI_ro _ 37 6 _ q hq], fun j j6 j7 => by rw [sI_rne _ 37 7 _ j j7, sI_rne _ 37 6 _ j j6], rfl⟩
    · rw [if_neg (by rw [lt32, nI_rng (by omega), nI_rng (by omega)]; omega), run_prune 0 w st (by omega)]
      exact ⟨x, rfl, h6, h7, hst, fun _ _ _ => rfl, fun _ _ _ => rfl, rfl⟩
  | succ i ih =>
    intro hi d w st x hd hw hlow hst h6 h7 hP hK
    obtain ⟨d, rfl⟩ : ∃ g, d = g + 1 := ⟨d - 1, by omega⟩
    have hb := bc_le w
    have e12 : (12 : Int32) = nI 12 := rfl
    have hpred : nI (i + 1) - 1 = nI i := nI_pred i
    rw [hpred]
    rw [f_GK, fb_X10_seek, bcX hw, bpE, nmE, h6]
    by_cases c : bc w < st.1
    · obtain ⟨x1, a1, a2, a3, a4⟩ := takeE (by omega) hK
      have hwi := hlow i (by omega)
      rw [if_pos (by rw [lt32, nI_rng (by omega), nI_rng (by omega)]; omega), jnE, if_neg (by rw [lt32, nI_rng (by omega)]; have : (0 : Int32).toInt = 0 := rfl; omega), if_pos (by rw [e12, lt32, nI_rng (by omega), nI_rng (by omega)]; omega), a1, bdvE, f_X10_isTold]
      by_cases ct : s.testBit i = true
      · have hbt : ((nI s >>> (nI i &&& 31)) &&& 1) = 1 := (btN (by omega) (by omega)).mpr ct
        have hin := hsn i ct
        obtain ⟨p1, p2, p3, p4, p5, p6, p7, p8⟩ := (hP.cg (x' := x1) (fun q _ hq => a2 q (by omega))) i hin
        obtain ⟨r, x2, b1, b2, b3, b4⟩ := keepOneE (kk := 43 + i) (by omega) (show i < 30 by omega) p3 p4 p1 p2 p7 p8 a4
        rw [p5, p6] at b4
        have hE := EP_add (A := A) (C := C) (F := F) (S := S) (t := TK s w (i + 1)) (t' := TK s w i) (p := i) (fun q => by
          unfold TK
          constructor
          · intro ⟨z1, z2⟩
            by_cases e : q = i
            · exact Or.inr e
            · exact Or.inl ⟨by omega, z2⟩
          · intro z
            rcases z with ⟨z1, z2⟩ | rfl
            · exact ⟨by omega, z2⟩
            · exact ⟨by omega, ct, hwi⟩)
        have hp2 := p2_lt i (by omega)
        have hwo : w ||| 2 ^ i < 2 ^ 12 := Nat.or_lt_two_pow (by omega) (by omega)
        have htail : ∀ (st1 : Nat × Nat) (y : St), st1.1 ≤ 13 → y.1 37 6 = nI st1.1 → y.1 37 7 = nI st1.2 → (∀ q, q ≠ 37 → (q < 43 ∨ 43 + (i + 1) ≤ q) → y.1 q = x.1 q) → (∀ j, j ≠ 6 → j ≠ 7 → y.1 37 j = x.1 37 j) → y.2 = x.2 → ∃ x', bdv (f_X10_takeOver y (nI i)) (fun σ19 => bdv (f_GK d 0 σ19 (nI s) (nI i - 1) (nI w ||| ((1 : Int32) <<< (nI i &&& 31)))) (fun σ20 => some σ20)) = some x' ∧ x'.1 37 6 = nI (run (GD A C F S s) s i (w ||| 2 ^ i) st1).1 ∧ x'.1 37 7 = nI (run (GD A C F S s) s i (w ||| 2 ^ i) st1).2 ∧ (run (GD A C F S s) s i (w ||| 2 ^ i) st1).1 ≤ 13 ∧ (∀ q, q ≠ 37 → (q < 43 ∨ 43 + (i + 1) ≤ q) → x'.1 q = x.1 q) ∧ (∀ j, j ≠ 6 → j ≠ 7 → x'.1 37 j = x.1 37 j) ∧ x'.2 = x.2 := by
          intro st1 y y0 y6 y7 yq yj y2
          have hKy : KI (EP A C F S (TK s w (i + 1))) (XM y (43 + (i + 1))) := hK.cgD (fun a b _ _ => by unfold XM; rw [yq (43 + (i + 1)) (by omega) (by omega)])
          obtain ⟨y1, c1, c2, c3, c4⟩ := takeE (by omega) hKy
          have hTK : EP A C F S (TK s w (i + 1)) = EP A C F S (TK s (w ||| 2 ^ i) i) := EP_cg (fun q => by
            unfold TK
            rw [Nat.testBit_or, Nat.testBit_two_pow]
            constructor
            · intro ⟨z1, z2, z3⟩
              exact ⟨by omega, z2, by rw [z3, decide_eq_false (by omega)]; rfl⟩
            · intro ⟨z1, z2, z3⟩
              by_cases e : i = q
              · subst e; simp at z3
              · rw [decide_eq_false e, Bool.or_false] at z3
                exact ⟨by omega, z2, z3⟩)
          rw [hTK] at c4
          obtain ⟨x', i1, i2, i3, i4, i5, i6, i7⟩ := ih (by omega) d (w ||| 2 ^ i) st1 y1 (by omega) hwo (fun p hp => by rw [Nat.testBit_or, hlow p (by omega), Nat.testBit_two_pow_of_ne (by omega)]; rfl) y0 (by rw [c2 37 (by omega)]; exact y6) (by rw [c2 37 (by omega)]; exact y7) (hP.cg (fun q h37 hq => by rw [c2 q (by omega), yq q h37 (by omega)])) c4
          refine ⟨x', by rw [c1, bdvE, orN hw (by omega), i1, bdvE], i2, i3, i4, fun q h37 hq => by rw [i5 q h37 (by omega), c2 q (by omega), yq q h37 hq], fun j j6 j7 => by rw [i6 j j6 j7, c2 37 (by omega), yj j j6 j7], by rw [i7, c3, y2]⟩
        rw [if_pos hbt, bpE, if_neg ne10, gdN (by omega) (by omega), clampN (by omega), b1, bdE, jnE, run, if_pos ct]
        rcases b4 with ⟨rfl, bn⟩ | ⟨rfl, bk⟩
        · rw [if_pos rfl]
          have hno : run (GD A C F S s) s i w st = st := run_none i w st (fun w' hw' hg => hg ((bn.cgE (fun a b v _ _ => hE a b v)).mono (fun a b v e => by
            obtain ⟨q, ⟨z1, z2, z3⟩, z4⟩ := e
            exact ⟨q, ⟨by omega, z2, by rw [hw' q z1]; exact z3⟩, z4⟩)))
          rw [hno]
          exact htail st x2 hst (by rw [b2 37 (by omega), a2 37 (by omega)]; exact h6) (by rw [b2 37 (by omega), a2 37 (by omega)]; exact h7) (fun q h37 hq => by rw [b2 q (by omega), a2 q (by omega)]) (fun j _ _ => by rw [b2 37 (by omega), a2 37 (by omega)]) (by rw [b3, a3])
        · rw [if_neg ne10]
          obtain ⟨x3, i1, i2, i3, i4, i5, i6, i7⟩ := ih (by omega) d w st x2 (by omega) hw (fun p hp => hlow p (by omega)) hst (by rw [b2 37 (by omega), a2 37 (by omega)]; exact h6) (by rw [b2 37 (by omega), a2 37 (by omega)]; exact h7) (hP.cg (fun q h37 hq => by rw [b2 q (by omega), a2 q (by omega)])) (bk.cgE (fun a b v _ _ => hE a b v))
          rw [i1, bdvE]
          exact htail _ x3 i4 i2 i3 (fun q h37 hq => by rw [i5 q h37 (by omega), b2 q (by omega), a2 q (by omega)]) (fun j j6 j7 => by rw [i6 j j6 j7, b2 37 (by omega), a2 37 (by omega)]) (by rw [i7, b3, a3])
      · have hbt : ¬ ((nI s >>> (nI i &&& 31)) &&& 1) = 1 := fun z => ct ((btN (by omega) (by omega)).mp z)
        have hTK : EP A C F S (TK s w (i + 1)) = EP A C F S (TK s w i) := EP_cg (fun q => by
          unfold TK
          constructor
          · intro ⟨z1, z2⟩; exact ⟨by omega, z2⟩
          · intro ⟨z1, z2, z3⟩
            by_cases e : q = i
            · subst e; exact absurd z2 ct
            · exact ⟨by omega, z2, z3⟩)
        rw [hTK] at a4
        obtain ⟨x', i1, i2, i3, i4, i5, i6, i7⟩ := ih (by omega) d w st x1 (by omega) hw (fun p hp => hlow p (by omega)) hst (by rw [a2 37 (by omega)]; exact h6) (by rw [a2 37 (by omega)]; exact h7) (hP.cg (fun q h37 hq => a2 q (by omega))) a4
        rw [if_neg hbt, bpE, if_pos rfl, i1, bdvE, run, if_neg ct]
        exact ⟨x', rfl, i2, i3, i4, fun q h37 hq => by rw [i5 q h37 (by omega), a2 q (by omega)], fun j j6 j7 => by rw [i6 j j6 j7, a2 37 (by omega)], by rw [i7, a3]⟩
    · rw [if_neg (by rw [lt32, nI_rng (by omega), nI_rng (by omega)]; omega), run_prune (i + 1) w st (by omega)]
      exact ⟨x, rfl, h6, h7, hst, fun _ _ _ => rfl, fun _ _ _ => rfl, rfl⟩
end SK

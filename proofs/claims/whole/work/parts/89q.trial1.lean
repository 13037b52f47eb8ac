/-! the class's rows of bounds -/
def XM (x : St) (kk : Nat) : Mx := fun i j => (x.1 kk (16 * i + j)).toInt
theorem cellE {a b : Nat} (ha : a < 16) (hb : b < 16) : f_X10_cellOf (nI a) (nI b) = some (nI (16 * a + b)) := by
  unfold f_X10_cellOf
  rw [show nI a * 16 = nI (16 * a) by rw [Int32.mul_comm, show (16 : Int32) = nI 16 from rfl, mul_nI 16 a (by omega) (by omega) (by omega)], nI_add]
theorem n999 {v : Int32} : v = 999999 ↔ v.toInt = 999999 := by rw [eq32]; exact Iff.rfl
theorem tighten_l {kk i b : Nat} {D : Mx} {W : Int32} (hi : i < 16) (hb : b < 16) (hib : i = b → 0 ≤ W.toInt) (hW : -100000000 ≤ W.toInt ∧ W.toInt ≤ 100000000) (hD : ∀ q, q < 16 → -100000000 ≤ D b q ∧ D b q ≤ 100000000) : ∀ (d f j : Nat) (x : St), j + d = 16 → d < f → (∀ q, q < 16 → XM x kk b q = D b q) → (∀ q, j ≤ q → q < 16 → XM x kk i q = D i q) → ∃ x', f_X10_tighten_l3 kk (nI i) (nI b) W f (nI j) x = some x' ∧ (∀ c, c ≠ kk → x'.1 c = x.1 c) ∧ x'.2 = x.2 ∧ (∀ p, p < 16 * i ∨ 16 * i + 16 ≤ p → x'.1 kk p = x.1 kk p) ∧ (∀ q, j ≤ q → q < 16 → XM x' kk i q = if D b q ≠ 999999 ∧ W.toInt + D b q < D i q then W.toInt + D b q else D i q) ∧ (∀ q, q < j → XM x' kk i q = XM x kk i q) := by
  have e16 : (16 : Int32).toInt = 16 := rfl
  intro d
  induction d with
  | zero =>
    intro f j x hj hf h1 h2
    obtain ⟨f, rfl⟩ : ∃ g, f = g + 1 := ⟨f - 1, by omega⟩
    have : (16 : Int32) ≤ nI j := by rw [le_nI (by omega)]; omega
    exact ⟨x, by rw [f_X10_tighten_l3, if_pos this], fun _ _ => rfl, rfl, fun _ _ => rfl, fun q a b => by omega, fun _ _ => rfl⟩
  | succ d ih =>
    intro f j x hj hf h1 h2
    obtain ⟨f, rfl⟩ : ∃ g, f = g + 1 := ⟨f - 1, by omega⟩
    have hj16 : j < 16 := by omega
    have hn : ¬ (16 : Int32) ≤ nI j := by rw [le_nI (by omega)]; omega
    have hbj : (x.1 kk (16 * b + j)).toInt = D b j := h1 j hj16
    have hij : (x.1 kk (16 * i + j)).toInt = D i j := h2 j (Nat.le_refl _) hj16
    -- a step that changes nothing
    have same : (f_X10_tighten_l3 kk (nI i) (nI b) W (f + 1) (nI j) x = f_X10_tighten_l3 kk (nI i) (nI b) W f (nI (j + 1)) x) → ¬ (D b j ≠ 999999 ∧ W.toInt + D b j < D i j) → ∃ x', f_X10_tighten_l3 kk (nI i) (nI b) W (f + 1) (nI j) x = some x' ∧ (∀ c, c ≠ kk → x'.1 c = x.1 c) ∧ x'.2 = x.2 ∧ (∀ p, p < 16 * i ∨ 16 * i + 16 ≤ p → x'.1 kk p = x.1 kk p) ∧ (∀ q, j ≤ q → q < 16 → XM x' kk i q = if D b q ≠ 999999 ∧ W.toInt + D b q < D i q then W.toInt + D b q else D i q) ∧ (∀ q, q < j → XM x' kk i q = XM x kk i q) := by
      intro hs hc
      obtain ⟨x', q1, q2, q3, q4, q5, q6⟩ := ih f (j + 1) x (by omega) (by omega) h1 (fun q a b => h2 q (by omega) b)
      refine ⟨x', by rw [hs, q1], q2, q3, q4, fun q a b => ?_, fun q hq => q6 q (by omega)⟩
      by_cases e : q = j
      · subst e; rw [q6 q (by omega), if_neg hc]; exact hij
      · exact q5 q (by omega) b
    by_cases c1 : D b j = 999999
    · refine same ?_ (fun q => q.1 c1)
      rw [f_X10_tighten_l3, if_neg hn, cellE hb hj16, bpE, gdN (by omega) (by omega), nmE, clampN (by omega), jnE, if_pos (n999.mpr (by rw [hbj]; exact c1)), nI_1]
    · have hne : ¬ x.1 kk (16 * b + j) = 999999 := fun e => c1 (by rw [← hbj]; exact n999.mp e)
      have hs : (W + x.1 kk (16 * b + j)).toInt = W.toInt + D b j := by have := hD j hj16; rw [add32 (by rw [hbj]; omega), hbj]
      by_cases c2 : W.toInt + D b j < D i j
      · have hle : ¬ x.1 kk (16 * i + j) ≤ W + x.1 kk (16 * b + j) := by rw [le32, hs, hij]; omega
        have hneib : i ≠ b := fun e => by
          have := hib e
          rw [e] at c2
          omega
        obtain ⟨x', q1, q2, q3, q4, q5, q6⟩ := ih f (j + 1) (sI x kk (16 * i + j) (W + x.1 kk (16 * b + j))) (by omega) (by omega) (fun q hq => by
          unfold XM
          rw [sI_rne _ kk _ _ _ (by omega)]; exact h1 q hq) (fun q a b => by
          unfold XM
          rw [sI_rne _ kk _ _ _ (by omega)]; exact h2 q (by omega) b)
        refine ⟨x', ?_, fun c hc => by rw [q2 c hc, sI_ro _ kk _ _ c hc], by rw [q3]; rfl, fun p hp => by rw [q4 p hp, sI_rne _ kk _ _ p (by omega)], fun q a b' => ?_, fun q hq => ?_⟩
        · rw [f_X10_tighten_l3, if_neg hn, cellE hb hj16, bpE, gdN (by omega) (by omega), nmE, clampN (by omega), jnE, if_neg hne, cellE hi hj16, bpE, gdN (by omega) (by omega), nmE, clampN (by omega), if_neg hle, bpE, gdN (by omega) (by omega), nmE, clampN (by omega), nI_1]
          exact q1
        · by_cases e : q = j
          · subst e
            rw [q6 q (by omega), if_pos ⟨c1, c2⟩]
            unfold XM
            rw [sI_at, hs]
          · exact q5 q (by omega) b'
        · rw [q6 q (by omega)]
          unfold XM
          rw [sI_rne _ kk _ _ _ (by omega)]
      · have hle : x.1 kk (16 * i + j) ≤ W + x.1 kk (16 * b + j) := by rw [le32, hs, hij]; omega
        refine same ?_ (fun q => c2 q.2)
        rw [f_X10_tighten_l3, if_neg hn, cellE hb hj16, bpE, gdN (by omega) (by omega), nmE, clampN (by omega), jnE, if_neg hne, cellE hi hj16, bpE, gdN (by omega) (by omega), nmE, clampN (by omega), if_pos hle, nI_1]
theorem keep_l {kk a b : Nat} {D : Mx} {W : Int32} (ha : a < 16) (hb : b < 16) (hW : -10998 ≤ W.toInt ∧ W.toInt ≤ 10998) (hD : ∀ p q, p < 16 → q < 16 → -10000000 ≤ D p q ∧ D p q ≤ 10000000) (hba : D b a ≠ 999999 → 0 ≤ D b a + W.toInt) : ∀ (d f i : Nat) (x : St), i + d = 16 → d < f → (∀ p q, p < 16 → q < 16 → XM x kk p q = if p < i then tight D a b W.toInt p q else D p q) → ∃ x', f_X10_keep_l41 kk (nI a) (nI b) W f (nI i) x = some (1, x') ∧ (∀ c, c ≠ kk → x'.1 c = x.1 c) ∧ x'.2 = x.2 ∧ (∀ p q, p < 16 → q < 16 → XM x' kk p q = tight D a b W.toInt p q) := by
  have e16 : (16 : Int32).toInt = 16 := rfl
  have hrowb : ∀ q, q < 16 → tight D a b W.toInt b q = D b q := fun q hq => by
    unfold tight
    by_cases c : D b a ≠ 999999 ∧ D b q ≠ 999999 ∧ D b a + W.toInt + D b q < D b q
    · have := hba c.1; have := c.2.2; omega
    · rw [if_neg c]
  intro d
  induction d with
  | zero =>
    intro f i x hi hf h
    obtain ⟨f, rfl⟩ : ∃ g, f = g + 1 := ⟨f - 1, by omega⟩
    have : (16 : Int32) ≤ nI i := by rw [le_nI (by omega)]; omega
    exact ⟨x, by rw [f_X10_keep_l41, if_pos this], fun _ _ => rfl, rfl, fun p q hp hq => by rw [h p q hp hq, if_pos (by omega)]⟩
  | succ d ih =>
    intro f i x hi hf h
    obtain ⟨f, rfl⟩ : ∃ g, f = g + 1 := ⟨f - 1, by omega⟩
    have hi16 : i < 16 := by omega
    have hn : ¬ (16 : Int32) ≤ nI i := by rw [le_nI (by omega)]; omega
    have hia : (x.1 kk (16 * i + a)).toInt = D i a := by
      have := h i a hi16 ha
      rw [if_neg (by omega)] at this
      exact this
    have hhead : f_X10_keep_l41 kk (nI a) (nI b) W (f + 1) (nI i) x = (if x.1 kk (16 * i + a) = 999999 then f_X10_keep_l41 kk (nI a) (nI b) W f (nI (i + 1)) x else bdv (f_X10_tighten x kk (nI i) (nI b) (x.1 kk (16 * i + a) + W)) (fun σ18 => f_X10_keep_l41 kk (nI a) (nI b) W f (nI (i + 1)) σ18)) := by
      rw [f_X10_keep_l41, if_neg hn, cellE hi16 ha, bpE, gdN (by omega) (by omega), nmE, clampN (by omega), jnE, nI_1]
    by_cases c : D i a = 999999
    · obtain ⟨x', q1, q2, q3, q4⟩ := ih f (i + 1) x (by omega) (by omega) (fun p q hp hq => by
        rw [h p q hp hq]
        by_cases e : p < i
        · rw [if_pos e, if_pos (by omega)]
        · rw [if_neg e]
          by_cases e2 : p = i
          · subst e2
            rw [if_pos (by omega)]
            unfold tight
            rw [if_neg (fun z => z.1 c)]
          · rw [if_neg (by omega)])
      exact ⟨x', by rw [hhead, if_pos (n999.mpr (by rw [hia]; exact c)), q1], q2, q3, q4⟩
    · have hs : (x.1 kk (16 * i + a) + W).toInt = D i a + W.toInt := by have := hD i a hi16 ha; rw [add32 (by rw [hia]; omega), hia]
      obtain ⟨x1, r1, r2, r3, r4, r5, r6⟩ := tighten_l (kk := kk) (D := D) (W := x.1 kk (16 * i + a) + W) hi16 hb (fun e => by rw [hs, e]; exact hba (by rw [← e]; exact c)) (by have := hD i a hi16 ha; rw [hs]; omega) (fun q hq => by have := hD b q hb hq; omega) 16 FU 0 x (by omega) (by decide) (fun q hq => by
        rw [h b q hb hq]
        by_cases e : b < i
        · rw [if_pos e, hrowb q hq]
        · rw [if_neg e]) (fun q _ hq => by rw [h i q hi16 hq, if_neg (by omega)])
      rw [show nI 0 = 0 from rfl] at r1
      obtain ⟨x', q1, q2, q3, q4⟩ := ih f (i + 1) x1 (by omega) (by omega) (fun p q hp hq => by
        by_cases e2 : p = i
        · subst e2
          rw [r5 q (by omega) hq, if_pos (show p < p + 1 by omega), hs]
          unfold tight
          by_cases z : D b q ≠ 999999 ∧ D p a + W.toInt + D b q < D p q
          · rw [if_pos z, if_pos ⟨c, z.1, z.2⟩]
          · rw [if_neg z, if_neg (fun y => z ⟨y.2.1, y.2.2⟩)]
        · have : XM x1 kk p q = XM x kk p q := by
            unfold XM
            rw [r4 _ (by omega)]
          rw [this, h p q hp hq]
          by_cases e : p < i
          · rw [if_pos e, if_pos (by omega)]
          · rw [if_neg e, if_neg (by omega)])
      refine ⟨x', ?_, fun z hz => by rw [q2 z hz, r2 z hz], by rw [q3, r3], q4⟩
      rw [hhead, if_neg (fun e => c (by rw [← hia]; exact n999.mp e)), f_X10_tighten, r1, bdvE, q1]
/-- what stands of a row of bounds -/
def KI (E : Ed) (D : Mx) : Prop := Gr E D ∧ UB D ∧ ∀ i j, i < 16 → j < 16 → fn (D i j) → -164970 ≤ D i j ∧ fn (D j i)
theorem cgGr {E : Ed} {D D' : Mx} (h : Gr E D) (e : ∀ p q, p < 16 → q < 16 → D' p q = D p q) : Gr E D' := by
  obtain ⟨⟨s1, s2, s3⟩, g⟩ := h
  refine ⟨⟨fun a ha => by rw [e a a ha ha]; exact s1 a ha, fun a b c ha hb hc => by rw [e a b ha hb, e b c hb hc, e a c ha hc]; exact s2 a b c ha hb hc, fun a b w ha hb => by rw [e a b ha hb]; exact s3 a b w ha hb⟩, fun D'' h'' a b ha hb => by rw [e a b ha hb]; exact g D'' h'' a b ha hb⟩
theorem cnt_cg {P Q : Nat → Bool} (n : Nat) (h : ∀ k, k < n → P k = Q k) : cnt P n = cnt Q n := by
  have h1 := cnt_mono (P := P) (R := Q) n (fun k hk e => by rw [← h k hk]; exact e)
  have h2 := cnt_mono (P := Q) (R := P) n (fun k hk e => by rw [h k hk]; exact e)
  omega
theorem cgUB {D D' : Mx} (h : UB D) (e : ∀ p q, p < 16 → q < 16 → D' p q = D p q) : UB D' := by
  intro i j hi hj f
  rw [e i j hi hj] at f ⊢
  have := h i j hi hj f
  rw [cnt_cg (P := btw D' i j) (Q := btw D i j) 16 (fun k hk => by unfold btw; rw [e i k hi hk, e k j hk hj])]
  exact this
/-- one edge kept -/
theorem keep_one {E : Ed} {kk a b : Nat} {x : St} {W : Int32} {L : Int} (ha : a < 16) (hb : b < 16) (hW : -10998 ≤ W.toInt ∧ W.toInt ≤ 10998) (h : Gr E (XM x kk)) (hU : UB (XM x kk)) (hL : ∀ p q, p < 16 → q < 16 → fn (XM x kk p q) → -L ≤ XM x kk p q) (hL2 : L ≤ 1000000) : ∃ r x', f_X10_keep x kk (nI a) (nI b) W = some (r, x') ∧ (∀ c, c ≠ kk → x'.1 c = x.1 c) ∧ x'.2 = x.2 ∧ ((r = 0 ∧ NoS (addE E a b W.toInt)) ∨ (r = 1 ∧ Gr (addE E a b W.toInt) (XM x' kk) ∧ UB (XM x' kk) ∧ (∀ p q, p < 16 → q < 16 → fn (XM x' kk p q) → -(2 * L + 10998) ≤ XM x' kk p q ∨ -L ≤ XM x' kk p q) ∧ (∀ p q, p < 16 → q < 16 → (fn (XM x' kk p q) ↔ fn (XM x kk p q) ∨ (fn (XM x kk p a) ∧ fn (XM x kk b q)))))) := by
  have hle := hU.le
  have e0 : (0 : Int32).toInt = 0 := rfl
  have hDb : ∀ p q, p < 16 → q < 16 → -10000000 ≤ XM x kk p q ∧ XM x kk p q ≤ 10000000 := fun p q hp hq => by
    by_cases c : XM x kk p q = 999999
    · omega
    · have := hle p q hp hq c
      have := hL p q hp hq c
      omega
  have hba : (x.1 kk (16 * b + a)).toInt = XM x kk b a := rfl
  have hab : (x.1 kk (16 * a + b)).toInt = XM x kk a b := rfl
  have hsum : (x.1 kk (16 * b + a) + W).toInt = XM x kk b a + W.toInt := by have := hDb b a hb ha; rw [add32 (by rw [hba]; omega), hba]
  have hhead : f_X10_keep x kk (nI a) (nI b) W = (if x.1 kk (16 * b + a) = 999999 then (if W < x.1 kk (16 * a + b) then f_X10_keep_l41 kk (nI a) (nI b) W FU 0 x else some (1, x)) else (if 0 ≤ x.1 kk (16 * b + a) + W then (if W < x.1 kk (16 * a + b) then f_X10_keep_l41 kk (nI a) (nI b) W FU 0 x else some (1, x)) else some (0, x))) := by
    unfold f_X10_keep
    rw [cellE hb ha, bpE, gdN (by omega) (by omega), nmE, clampN (by omega), jnE, cellE ha hb, bpE, gdN (by omega) (by omega), nmE, clampN (by omega)]
  by_cases cq : fn (XM x kk b a) ∧ XM x kk b a + W.toInt < 0
  · refine ⟨0, x, ?_, fun _ _ => rfl, rfl, Or.inl ⟨rfl, keep_no h ha hb cq.1 cq.2⟩⟩
    rw [hhead, if_neg (fun e => cq.1 (n999.mp e)), if_neg (by rw [le32, hsum]; omega)]
  · have hpos : fn (XM x kk b a) → 0 ≤ XM x kk b a + W.toInt := fun f => by
      by_cases z : XM x kk b a + W.toInt < 0
      · exact absurd ⟨f, z⟩ cq
      · omega
    have hhead2 : f_X10_keep x kk (nI a) (nI b) W = (if W < x.1 kk (16 * a + b) then f_X10_keep_l41 kk (nI a) (nI b) W FU 0 x else some (1, x)) := by
      rw [hhead]
      by_cases z : x.1 kk (16 * b + a) = 999999
      · rw [if_pos z]
      · rw [if_neg z, if_pos (by rw [le32, hsum]; have := hpos (fun e => z (n999.mpr e)); omega)]
    by_cases co : W < x.1 kk (16 * a + b)
    · rw [lt32, hab] at co
      obtain ⟨x', q1, q2, q3, q4⟩ := keep_l (kk := kk) (a := a) (b := b) (D := XM x kk) (W := W) ha hb hW hDb hpos 16 FU 0 x (by omega) (by decide) (fun p q hp hq => by rw [if_neg (by omega)])
      rw [show nI 0 = 0 from rfl] at q1
      have hp := fun i j (hi : i < 16) (hj : j < 16) => tight_p (D := XM x kk) (a := a) (b := b) (w := W.toInt) i j (fun e1 e2 => by have := hle i a hi ha e1; have := hle b j hb hj e2; omega)
      refine ⟨1, x', by rw [hhead2, if_pos (by rw [lt32, hab]; exact co), q1], q2, q3, Or.inr ⟨rfl, cgGr (keep_new h ha hb hle (by omega) (by omega) hpos) q4, cgUB (UBtight h hU ha hb hW.2) q4, fun p q hp' hq' f => ?_, fun p q hp' hq' => ?_⟩⟩
      · rw [q4 p q hp' hq'] at f ⊢
        rcases (hp p q hp' hq').2.2.1 with e | ⟨e1, e2, e3⟩
        · rw [e] at f ⊢; exact Or.inr (hL p q hp' hq' f)
        · rw [e3]
          have := hL p a hp' ha e1
          have := hL b q hb hq' e2
          left; omega
      · rw [q4 p q hp' hq']
        constructor
        · intro f
          rcases (hp p q hp' hq').2.2.1 with e | ⟨e1, e2, e3⟩
          · rw [e] at f; exact Or.inl f
          · exact Or.inr ⟨e1, e2⟩
        · intro f
          rcases f with f | ⟨f1, f2⟩
          · rcases (hp p q hp' hq').2.2.2 f with z | z
            · exact z
            · have := hle p q hp' hq' f; omega
          · exact ((hp p q hp' hq').2.1 f1 f2).1
    · have hfab : fn (XM x kk a b) := fun e => by
        rw [lt32, hab, e] at co; omega
      have hle2 : XM x kk a b ≤ W.toInt := by rw [lt32, hab] at co; omega
      refine ⟨1, x, by rw [hhead2, if_neg co], fun _ _ => rfl, rfl, Or.inr ⟨rfl, keep_old h hfab hle2, hU, fun p q hp hq f => Or.inr (hL p q hp hq f), fun p q hp hq => ⟨Or.inl, fun f => ?_⟩⟩⟩
      rcases f with f | ⟨f1, f2⟩
      · exact f
      · exact (h.1.2.1 p b q hp hb hq (h.1.2.1 p a b hp ha hb f1 hfab).1 f2).1

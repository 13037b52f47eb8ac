/-- a piece kept: both its edges -/
theorem keepOneE {E : Ed} {kk p A C : Nat} {x : St} (hkk : 43 ≤ kk) (hp : p < 30) (hA : A < 16) (hC : C < 16) (e1 : x.1 38 p = nI A) (e2 : x.1 39 p = nI C) (hF : rng (x.1 40 p) (-9999) 9999) (hS : rng (x.1 41 p) 0 999) (h : KI E (XM x kk)) : ∃ r x', f_X10_keepOne x kk (nI p) = some (r, x') ∧ (∀ c, c ≠ kk → x'.1 c = x.1 c) ∧ x'.2 = x.2 ∧ ((r = 0 ∧ NoS (addE (addE E A C ((x.1 40 p).toInt + (x.1 41 p).toInt)) C A ((x.1 41 p).toInt - (x.1 40 p).toInt))) ∨ (r = 1 ∧ KI (addE (addE E A C ((x.1 40 p).toInt + (x.1 41 p).toInt)) C A ((x.1 41 p).toInt - (x.1 40 p).toInt)) (XM x' kk))) := by
  obtain ⟨g, u, l⟩ := h
  unfold rng at hF hS
  have w1 : (x.1 40 p + x.1 41 p).toInt = (x.1 40 p).toInt + (x.1 41 p).toInt := add32 (by omega)
  have w2 : (x.1 41 p - x.1 40 p).toInt = (x.1 41 p).toInt - (x.1 40 p).toInt := sub32 (by omega)
  obtain ⟨r1, x1, a1, a2, a3, a4⟩ := keep_one (W := x.1 40 p + x.1 41 p) (L := 164970) hA hC (by rw [w1]; omega) g u (fun i j hi hj f => (l i j hi hj f).1) (by omega)
  rw [w1] at a4
  have hhead : f_X10_keepOne x kk (nI p) = (if r1 = 0 then some (0, x1) else bd (f_X10_keep x1 kk (nI C) (nI A) (x.1 41 p - x.1 40 p)) (fun v20 σ21 => (if v20 = 0 then some (0, σ21) else some (1, σ21)))) := by
    unfold f_X10_keepOne
    simp only [gdN hp (show 30 ≤ 1000000 by omega), nmE, clampN (show p < 1000000 by omega), e1, e2, a1, bdE, a2 38 (by omega), a2 39 (by omega), a2 40 (by omega), a2 41 (by omega)]
  rcases a4 with ⟨z1, z2⟩ | ⟨z1, z2, z3, z4, z5⟩
  · exact ⟨0, x1, by rw [hhead, if_pos z1], a2, a3, Or.inl ⟨rfl, z2.mono (fun _ _ _ e => Or.inl e)⟩⟩
  · obtain ⟨r2, x2, b1, b2, b3, b4⟩ := keep_one (x := x1) (W := x.1 41 p - x.1 40 p) (L := 340938) hC hA (by rw [w2]; omega) z2 z3 (fun i j hi hj f => by have := z4 i j hi hj f; omega) (by omega)
    rw [w2] at b4
    have hr1 : ¬ r1 = 0 := by rw [z1]; decide
    rw [if_neg hr1, b1, bdE] at hhead
    rcases b4 with ⟨y1, y2⟩ | ⟨y1, y2, y3, y4, y5⟩
    · exact ⟨0, x2, by rw [hhead, if_pos y1], fun c hc => by rw [b2 c hc, a2 c hc], by rw [b3, a3], Or.inl ⟨rfl, y2⟩⟩
    · have hr2 : ¬ r2 = 0 := by rw [y1]; decide
      refine ⟨1, x2, by rw [hhead, if_neg hr2], fun c hc => by rw [b2 c hc, a2 c hc], by rw [b3, a3], Or.inr ⟨rfl, y2, y3, ?_⟩⟩
      have hAA : fn (XM x kk A A) := by rw [g.1.1 A hA]; unfold fn; omega
      have hCC : fn (XM x kk C C) := by rw [g.1.1 C hC]; unfold fn; omega
      have sym : ∀ i j, i < 16 → j < 16 → fn (XM x2 kk i j) → fn (XM x2 kk j i) := by
        intro i j hi hj f
        have s := fun i j (hi : i < 16) (hj : j < 16) (f : fn (XM x kk i j)) => (l i j hi hj f).2
        have up1 : ∀ i j, i < 16 → j < 16 → fn (XM x kk i j) → fn (XM x1 kk i j) := fun i j hi hj f => (z5 i j hi hj).mpr (Or.inl f)
        have up2 : ∀ i j, i < 16 → j < 16 → fn (XM x1 kk i j) → fn (XM x2 kk i j) := fun i j hi hj f => (y5 i j hi hj).mpr (Or.inl f)
        have fwd : ∀ i j, i < 16 → j < 16 → fn (XM x kk i A) → fn (XM x kk C j) → fn (XM x2 kk i j) := fun i j hi hj f1 f2 => up2 i j hi hj ((z5 i j hi hj).mpr (Or.inr ⟨f1, f2⟩))
        have bwd : ∀ i j, i < 16 → j < 16 → fn (XM x kk i C) → fn (XM x kk A j) → fn (XM x2 kk i j) := fun i j hi hj f1 f2 => (y5 i j hi hj).mpr (Or.inr ⟨up1 i C hi hC f1, up1 A j hA hj f2⟩)
        have one : fn (XM x kk i j) → fn (XM x2 kk j i) := fun f => up2 j i hj hi (up1 j i hj hi (s i j hi hj f))
        rcases (y5 i j hi hj).mp f with f | ⟨f1, f2⟩
        · rcases (z5 i j hi hj).mp f with f | ⟨f1, f2⟩
          · exact one f
          · exact bwd j i hj hi (s C j hC hj f2) (s i A hi hA f1)
        · rcases (z5 i C hi hC).mp f1 with q1 | ⟨q1, _⟩
          · rcases (z5 A j hA hj).mp f2 with q2 | ⟨_, q2⟩
            · exact fwd j i hj hi (s A j hA hj q2) (s i C hi hC q1)
            · exact one (g.1.2.1 i C j hi hC hj q1 q2).1
          · rcases (z5 A j hA hj).mp f2 with q2 | ⟨_, q2⟩
            · exact one (g.1.2.1 i A j hi hA hj q1 q2).1
            · exact bwd j i hj hi (s C j hC hj q2) (s i A hi hA q1)
      intro i j hi hj f
      have f' := sym i j hi hj f
      refine ⟨?_, f'⟩
      have h1 := y3.le j i hj hi f'
      have h2 := (y2.1.2.1 i j i hi hj hi f f').2
      have h3 := y2.1.1 i hi
      omega
def E0 : Ed := fun _ _ _ => False
theorem KI0 {D : Mx} (h : ∀ i j, i < 16 → j < 16 → D i j = if i = j then 0 else 999999) : KI E0 D := by
  have hf : ∀ i j, i < 16 → j < 16 → fn (D i j) → i = j := fun i j hi hj f => by
    rw [h i j hi hj] at f
    by_cases c : i = j
    · exact c
    · rw [if_neg c] at f; exact absurd rfl f
  have hd : ∀ i, i < 16 → D i i = 0 := fun i hi => by rw [h i i hi hi, if_pos rfl]
  refine ⟨⟨⟨hd, fun a b c ha hb hc f1 f2 => ?_, fun a b w _ _ e => absurd e (fun z => z)⟩, fun D' hD' a b ha hb f => ?_⟩, fun i j hi hj f => ?_, fun i j hi hj f => ?_⟩
  · have := hf a b ha hb f1
    have := hf b c hb hc f2
    subst this; subst this
    exact ⟨f1, by rw [hd a ha]; omega⟩
  · have := hf a b ha hb f
    subst this
    rw [hd a ha, hD'.1 a ha]; exact ⟨by unfold fn; omega, by omega⟩
  · have := hf i j hi hj f
    subst this
    have : 1 ≤ cnt (btw D i i) 16 := cnt_pos (i := i) 16 hi (by unfold btw; rw [hd i hi]; decide)
    rw [hd i hi]
    omega
  · have := hf i j hi hj f
    subst this
    exact ⟨by rw [hd i hi]; omega, f⟩
theorem unbind_l {kk : Nat} : ∀ (d f k : Nat) (x : St), k + d = 16 → d < f → ∃ x', f_X10_unbind_l8 kk f (nI k) x = some x' ∧ (∀ c, c ≠ kk → x'.1 c = x.1 c) ∧ x'.2 = x.2 ∧ (∀ i, k ≤ i → i < 16 → x'.1 kk (17 * i) = 0) ∧ (∀ p, (∀ i, k ≤ i → i < 16 → p ≠ 17 * i) → x'.1 kk p = x.1 kk p) := by
  have e16 : (16 : Int32).toInt = 16 := rfl
  intro d
  induction d with
  | zero =>
    intro f k x hk hf
    obtain ⟨f, rfl⟩ : ∃ g, f = g + 1 := ⟨f - 1, by omega⟩
    have : (16 : Int32) ≤ nI k := by rw [le_nI (by omega)]; omega
    exact ⟨x, by rw [f_X10_unbind_l8, if_pos this], fun _ _ => rfl, rfl, fun i a b => by omega, fun _ _ => rfl⟩
  | succ d ih =>
    intro f k x hk hf
    obtain ⟨f, rfl⟩ : ∃ g, f = g + 1 := ⟨f - 1, by omega⟩
    have hn : ¬ (16 : Int32) ≤ nI k := by rw [le_nI (by omega)]; omega
    obtain ⟨x', q1, q2, q3, q4, q5⟩ := ih f (k + 1) (sI x kk (17 * k) 0) (by omega) (by omega)
    refine ⟨x', ?_, fun c hc => by rw [q2 c hc, sI_ro _ kk _ _ c hc], by rw [q3]; rfl, fun i i1 i2 => ?_, fun p hp => ?_⟩
    · rw [f_X10_unbind_l8, if_neg hn, cellE (by omega) (by omega), bpE, show 16 * k + k = 17 * k by omega, gdN (by omega) (by omega), nmE, clampN (by omega), nI_1]
      exact q1
    · by_cases e : i = k
      · subst e
        rw [q5 _ (fun i' a b => by omega), sI_at]
      · exact q4 i (by omega) i2
    · rw [q5 p (fun i a b => hp i (by omega) b), sI_rne _ kk _ _ p (hp k (by omega) (by omega))]
theorem unbindE {kk : Nat} (x : St) : ∃ x', f_X10_unbind x kk = some x' ∧ (∀ c, c ≠ kk → x'.1 c = x.1 c) ∧ x'.2 = x.2 ∧ KI E0 (XM x' kk) := by
  obtain ⟨x1, a1, a2, a3, a4, a5⟩ := fill_all (σ := x) (kk := kk) (n := 256) (a := 999999) (by omega)
  obtain ⟨x2, b1, b2, b3, b4, b5⟩ := unbind_l (kk := kk) 16 FU 0 x1 (by omega) (by decide)
  rw [show nI 0 = 0 from rfl] at b1
  refine ⟨x2, by rw [f_X10_unbind, a1, bdvE, b1], fun c hc => by rw [b2 c hc, a2 c hc], by rw [b3, a3], KI0 (fun i j hi hj => ?_)⟩
  unfold XM
  by_cases c : i = j
  · subst c
    rw [if_pos rfl, show 16 * i + i = 17 * i by omega, b4 i (by omega) hi]; rfl
  · rw [if_neg c, b5 _ (fun k _ hk => by omega), a4 _ (by omega)]; rfl
/-- the edges of told pieces -/
def EP (A C : Nat → Nat) (F S : Nat → Int) (t : Nat → Prop) : Ed := fun a b w => ∃ i, t i ∧ ((a = A i ∧ b = C i ∧ w = F i + S i) ∨ (a = C i ∧ b = A i ∧ w = S i - F i))
theorem EP_add {A C : Nat → Nat} {F S : Nat → Int} {t t' : Nat → Prop} {p : Nat} (h : ∀ i, t' i ↔ (t i ∨ i = p)) : ∀ a b w, addE (addE (EP A C F S t) (A p) (C p) (F p + S p)) (C p) (A p) (S p - F p) a b w ↔ EP A C F S t' a b w := by
  intro a b w
  unfold addE EP
  constructor
  · intro e
    rcases e with (⟨i, hi, e⟩ | e) | e
    · exact ⟨i, (h i).mpr (Or.inl hi), e⟩
    · exact ⟨p, (h p).mpr (Or.inr rfl), Or.inl e⟩
    · exact ⟨p, (h p).mpr (Or.inr rfl), Or.inr e⟩
  · intro ⟨i, hi, e⟩
    rcases (h i).mp hi with hi | rfl
    · exact Or.inl (Or.inl ⟨i, hi, e⟩)
    · rcases e with e | e
      · exact Or.inl (Or.inr e)
      · exact Or.inr e
theorem KI.cgE {E E' : Ed} {D : Mx} (h : KI E D) (hE : ∀ a b w, a < 16 → b < 16 → (E a b w ↔ E' a b w)) : KI E' D := ⟨h.1.cgE hE, h.2.1, h.2.2⟩
/-- a told piece -/
def bt (s : Int32) (i : Nat) : Prop := ((s >>> (nI i &&& 31)) &&& 1) = 1
theorem bit01 (v : Int32) : v &&& 1 = 0 ∨ v &&& 1 = 1 := by
  obtain ⟨c, hc, e⟩ : ∃ c, c < 2 ∧ v &&& 1 = nI c := by
    refine ⟨(v &&& 1).toBitVec.toNat, ?_, ?_⟩
    · rw [Int32.toBitVec_and, BitVec.toNat_and]
      have h1 : (1 : Int32).toBitVec.toNat = 1 := by decide
      rw [h1]
      have := Nat.and_le_right (n := v.toBitVec.toNat) (m := 1)
      omega
    · apply Int32.toBitVec_inj.mp
      apply BitVec.eq_of_toNat_eq
      show _ = (BitVec.ofNat 32 (v &&& 1).toBitVec.toNat).toNat
      rw [BitVec.toNat_ofNat]
      exact (Nat.mod_eq_of_lt (BitVec.isLt _)).symm
  match c, hc with
  | 0, _ => left; rw [e]; rfl
  | 1, _ => right; rw [e]; rfl
theorem keepAll_l {bits : Int32} {n : Nat} {A C : Nat → Nat} {F S : Nat → Int} (hn : n ≤ 30) : ∀ (d f k : Nat) (x : St), k + d = n → d < f → x.1 37 4 = nI n → (∀ i, i < n → x.1 38 i = nI (A i) ∧ x.1 39 i = nI (C i) ∧ A i < 16 ∧ C i < 16 ∧ (x.1 40 i).toInt = F i ∧ (x.1 41 i).toInt = S i ∧ rng (x.1 40 i) (-9999) 9999 ∧ rng (x.1 41 i) 0 999) → KI (EP A C F S (fun i => i < k ∧ bt bits i)) (XM x 43) → ∃ r x', f_X10_keepAll_l11 bits f (nI k) x = some (r, x') ∧ (∀ c, c ≠ 43 → x'.1 c = x.1 c) ∧ x'.2 = x.2 ∧ ((r = 0 ∧ NoS (EP A C F S (fun i => i < n ∧ bt bits i))) ∨ (r = 1 ∧ KI (EP A C F S (fun i => i < n ∧ bt bits i)) (XM x' 43))) := by
  intro d
  induction d with
  | zero =>
    intro f k x hk hf h1 h2 h3
    obtain ⟨f, rfl⟩ : ∃ g, f = g + 1 := ⟨f - 1, by omega⟩
    have hkn : k = n := by omega
    subst hkn
    have : nI k ≤ nI k := by rw [le_nI (by omega), nI_rng (by omega)]; omega
    exact ⟨1, x, by rw [f_X10_keepAll_l11, nmE, h1, if_pos this], fun _ _ => rfl, rfl, Or.inr ⟨rfl, h3⟩⟩
  | succ d ih =>
    intro f k x hk hf h1 h2 h3
    obtain ⟨f, rfl⟩ : ∃ g, f = g + 1 := ⟨f - 1, by omega⟩
    have hnk : ¬ nI n ≤ nI k := by rw [le_nI (by omega), nI_rng (by omega)]; omega
    obtain ⟨p1, p2, p3, p4, p5, p6, p7, p8⟩ := h2 k (by omega)
    by_cases c : bt bits k
    · have hE := EP_add (A := A) (C := C) (F := F) (S := S) (t := fun i => i < k ∧ bt bits i) (t' := fun i => i < k + 1 ∧ bt bits i) (p := k) (fun i => by
        constructor
        · intro ⟨a, b⟩
          by_cases e : i = k
          · exact Or.inr e
          · exact Or.inl ⟨by omega, b⟩
        · intro q
          rcases q with ⟨a, b⟩ | rfl
          · exact ⟨by omega, b⟩
          · exact ⟨by omega, c⟩)
      obtain ⟨r, x1, a1, a2, a3, a4⟩ := keepOneE (kk := 43) (by omega) (show k < 30 by omega) p3 p4 p1 p2 p7 p8 h3
      rw [p5, p6] at a4
      have hhead : f_X10_keepAll_l11 bits (f + 1) (nI k) x = (if r = 0 then some (0, x1) else f_X10_keepAll_l11 bits f (nI (k + 1)) x1) := by
        rw [f_X10_keepAll_l11, nmE, h1, if_neg hnk, f_X10_isTold, if_pos (show ((bits >>> (nI k &&& 31)) &&& 1) = 1 from c), bpE, jnE, if_neg ne10, a1, bdE, nI_1]
      rcases a4 with ⟨z1, z2⟩ | ⟨z1, z2⟩
      · refine ⟨0, x1, by rw [hhead, if_pos z1], a2, a3, Or.inl ⟨rfl, (z2.cgE (fun a b w _ _ => hE a b w)).mono (fun a b w e => ?_)⟩⟩
        obtain ⟨i, ⟨q1, q2⟩, q3⟩ := e
        exact ⟨i, ⟨by omega, q2⟩, q3⟩
      · obtain ⟨r', x', i1, i2, i3, i4⟩ := ih f (k + 1) x1 (by omega) (by omega) (by rw [a2 37 (by omega)]; exact h1) (fun i hi => by rw [a2 38 (by omega), a2 39 (by omega), a2 40 (by omega), a2 41 (by omega)]; exact h2 i hi) (z2.cgE (fun a b w _ _ => hE a b w))
        exact ⟨r', x', by rw [hhead, if_neg (by rw [z1]; decide), i1], fun q hq => by rw [i2 q hq, a2 q hq], by rw [i3, a3], i4⟩
    · obtain ⟨r', x', i1, i2, i3, i4⟩ := ih f (k + 1) x (by omega) (by omega) h1 h2 (h3.cgE (fun a b w _ _ => by
        unfold EP
        constructor
        · intro ⟨i, ⟨q1, q2⟩, q3⟩; exact ⟨i, ⟨by omega, q2⟩, q3⟩
        · intro ⟨i, ⟨q1, q2⟩, q3⟩
          refine ⟨i, ⟨?_, q2⟩, q3⟩
          by_cases e : i = k
          · subst e; exact absurd q2 c
          · omega))
      refine ⟨r', x', ?_, i2, i3, i4⟩
      rw [f_X10_keepAll_l11, nmE, h1, if_neg hnk, f_X10_isTold, if_neg (show ¬ ((bits >>> (nI k &&& 31)) &&& 1) = 1 from c), bpE, jnE, if_pos rfl, nI_1]
      exact i1
theorem keepAllE {bits : Int32} {n : Nat} {A C : Nat → Nat} {F S : Nat → Int} {x : St} (hn : n ≤ 30) (h1 : x.1 37 4 = nI n) (h2 : ∀ i, i < n → x.1 38 i = nI (A i) ∧ x.1 39 i = nI (C i) ∧ A i < 16 ∧ C i < 16 ∧ (x.1 40 i).toInt = F i ∧ (x.1 41 i).toInt = S i ∧ rng (x.1 40 i) (-9999) 9999 ∧ rng (x.1 41 i) 0 999) : ∃ r x', f_X10_keepAll x bits = some (r, x') ∧ (∀ c, c ≠ 43 → x'.1 c = x.1 c) ∧ x'.2 = x.2 ∧ ((r = 0 ∧ NoS (EP A C F S (fun i => i < n ∧ bt bits i))) ∨ (r = 1 ∧ KI (EP A C F S (fun i => i < n ∧ bt bits i)) (XM x' 43))) := by
  obtain ⟨x1, a1, a2, a3, a4⟩ := unbindE (kk := 43) x
  obtain ⟨r, x', b1, b2, b3, b4⟩ := keepAll_l (bits := bits) (A := A) (C := C) (F := F) (S := S) hn n FU 0 x1 (by omega) (by unfold FU; omega) (by rw [a2 37 (by omega)]; exact h1) (fun i hi => by rw [a2 38 (by omega), a2 39 (by omega), a2 40 (by omega), a2 41 (by omega)]; exact h2 i hi) (a4.cgE (fun a b w _ _ => ⟨fun e => absurd e (fun z => z), fun ⟨i, ⟨q, _⟩, _⟩ => by omega⟩))
  rw [show nI 0 = 0 from rfl] at b1
  exact ⟨r, x', by rw [f_X10_keepAll, a1, bdvE, b1], fun c hc => by rw [b2 c hc, a2 c hc], by rw [b3, a3], b4⟩

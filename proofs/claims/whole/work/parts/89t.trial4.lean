/-- edges laid -/
theorem q_l41 {set : Int32} {n nr : Nat} {A C : Nat → Nat} {F S : Nat → Int} (hn : n ≤ 30) (hnr : nr ≤ 16) : ∀ (d f k : Nat) (m : St), k + d = n → d < f → m.1 0 46 = nI n → (∀ i, i < n → m.1 15 i = nI (A i) ∧ m.1 16 i = nI (C i) ∧ A i < nr ∧ C i < nr ∧ A i ≠ C i ∧ (m.1 17 i).toInt = F i ∧ (m.1 18 i).toInt = S i ∧ rng (m.1 17 i) (-9999) 9999 ∧ rng (m.1 18 i) 0 999) → FW (EP A C F S (fun i => i < k ∧ bt set i)) nr 0 (MM m) → ∃ m', (∀ K : St → Option (Int32 × St), f_X12_quarrels_l41 set K f (nI k) m = K m') ∧ FL m m' ∧ FW (EP A C F S (fun i => i < n ∧ bt set i)) nr 0 (MM m') := by
  intro d
  induction d with
  | zero =>
    intro f k m hk hf h1 h2 h3
    obtain ⟨f, rfl⟩ : ∃ g, f = g + 1 := ⟨f - 1, by omega⟩
    have hkn : k = n := by omega
    subst hkn
    have : nI k ≤ nI k := by rw [le_nI (by omega), nI_rng (by omega)]; omega
    exact ⟨m, fun K => by rw [f_X12_quarrels_l41, nmE, h1, if_pos this], FL.rfl' m, h3⟩
  | succ d ih =>
    intro f k m hk hf h1 h2 h3
    obtain ⟨f, rfl⟩ : ∃ g, f = g + 1 := ⟨f - 1, by omega⟩
    have hnk : ¬ nI n ≤ nI k := by rw [le_nI (by omega), nI_rng (by omega)]; omega
    obtain ⟨p1, p2, p3, p4, p5, p6, p7, p8, p9⟩ := h2 k (by omega)
    by_cases c : bt set k
    · have hE := EP_add (A := A) (C := C) (F := F) (S := S) (t := fun i => i < k ∧ bt set i) (t' := fun i => i < k + 1 ∧ bt set i) (p := k) (fun i => by
        constructor
        · intro ⟨a, b⟩
          by_cases e : i = k
          · exact Or.inr e
          · exact Or.inl ⟨by omega, b⟩
        · intro q
          rcases q with ⟨a, b⟩ | rfl
          · exact ⟨by omega, b⟩
          · exact ⟨by omega, c⟩)
      have hA16 : A k < 16 := by omega
      have hC16 : C k < 16 := by omega
      unfold rng at p8 p9
      have w1 : (Int32.toInt64 (m.1 17 k + m.1 18 k)).toInt = F k + S k := by rw [i2l_toInt, add32 (by omega), p6, p7]
      have w2 : (Int32.toInt64 (m.1 18 k - m.1 17 k)).toInt = S k - F k := by rw [i2l_toInt, sub32 (by omega), p6, p7]
      obtain ⟨m1, a1, a2, a3⟩ := boundsE (m := m) (V := Int32.toInt64 (m.1 17 k + m.1 18 k)) hA16 hC16 (by rw [w1]; omega)
      obtain ⟨m2, b1, b2, b3⟩ := boundsE (m := m1) (V := Int32.toInt64 (m.1 18 k - m.1 17 k)) hC16 hA16 (by rw [w2]; omega)
      rw [w1] at a3
      rw [w2] at b3
      have hadd : ∀ (E : Ed) (M M' : Mx) (a b : Nat) (w : Int), a < nr → b < nr → a ≠ b → -10998 ≤ w → w ≤ 10998 → FW E nr 0 M → (∀ i j, i < 16 → j < 16 → M' i j = if i = a ∧ j = b ∧ w < M a b then w else M i j) → FW (addE E a b w) nr 0 M' := by
        intro E M M' a b w ha hb hab hw1 hw2 h hM
        obtain ⟨g1, g2, g3, g4, g5, g6⟩ := h
        have ha16 : a < 16 := by omega
        have hb16 : b < 16 := by omega
        have hc : ∀ i j, i < 16 → j < 16 → (M' i j = M i j ∧ (i ≠ a ∨ j ≠ b ∨ M a b ≤ w)) ∨ (i = a ∧ j = b ∧ M' i j = w ∧ w < M a b) := fun i j hi hj => by
          rw [hM i j hi hj]
          by_cases z : i = a ∧ j = b ∧ w < M a b
          · rw [if_pos z]; exact Or.inr ⟨z.1, z.2.1, rfl, z.2.2⟩
          · rw [if_neg z]
            refine Or.inl ⟨rfl, ?_⟩
            by_cases z1 : i = a
            · by_cases z2 : j = b
              · right; right
                have : ¬ w < M a b := fun q => z ⟨z1, z2, q⟩
                omega
              · exact Or.inr (Or.inl z2)
            · exact Or.inl z1
        refine ⟨fun D' hD' i j hi hj f => ?_, fun i hi => ?_, fun j hj => by omega, fun i j v hi hj e => ?_, fun i j hi hj f => ?_, fun i j hi hj f => ?_⟩
        · rcases hc i j hi hj with ⟨e, _⟩ | ⟨rfl, rfl, e, _⟩
          · rw [e] at f ⊢; exact g1 D' (hD'.mono (fun _ _ _ q => Or.inl q)) i j hi hj f
          · rw [e]; exact hD'.2.2 i j w hi hj (Or.inr ⟨rfl, rfl, rfl⟩)
        · rcases hc i i hi hi with ⟨e, _⟩ | ⟨e1, e2, _⟩
          · rw [e]; exact g2 i hi
          · omega
        · rcases e with e | ⟨rfl, rfl, rfl⟩
          · obtain ⟨q1, q2⟩ := g4 i j v hi hj e
            rcases hc i j hi hj with ⟨e', _⟩ | ⟨rfl, rfl, e', e''⟩
            · rw [e']; exact ⟨q1, q2⟩
            · rw [e']; exact ⟨by unfold fn; omega, by omega⟩
          · rcases hc i j hi hj with ⟨e', z⟩ | ⟨_, _, e', _⟩
            · rw [e']
              have hz : M i j ≤ v := by rcases z with z | z | z
                                        · exact absurd rfl z
                                        · exact absurd rfl z
                                        · exact z
              exact ⟨by unfold fn; omega, hz⟩
            · rw [e']; exact ⟨by unfold fn; omega, by omega⟩
        · rcases hc i j hi hj with ⟨e', _⟩ | ⟨rfl, rfl, _⟩
          · rw [e'] at f; exact g5 i j hi hj f
          · exact Or.inr ⟨ha, hb⟩
        · have z0 : cnt (btw M' i j) 0 = 0 := rfl
          have z1 : cnt (btw M i j) 0 = 0 := rfl
          have z2 : (2 : Int) ^ 0 = 1 := by simp
          rcases hc i j hi hj with ⟨e', _⟩ | ⟨rfl, rfl, e', _⟩
          · rw [e'] at f ⊢
            have := g6 i j hi hj f
            rw [z1] at this
            rw [z0]; exact this
          · rw [e', z0, z2]
            constructor
            · simp; omega
            · omega
      have hFW1 := hadd _ (MM m) (MM m1) (A k) (C k) (F k + S k) p3 p4 p5 (by omega) (by omega) h3 a3
      have hFW2 := hadd _ (MM m1) (MM m2) (C k) (A k) (S k - F k) p4 p3 (fun e => p5 e.symm) (by omega) (by omega) hFW1 b3
      have hFW3 : FW (EP A C F S (fun i => i < k + 1 ∧ bt set i)) nr 0 (MM m2) := by
        have : addE (addE (EP A C F S (fun i => i < k ∧ bt set i)) (A k) (C k) (F k + S k)) (C k) (A k) (S k - F k) = EP A C F S (fun i => i < k + 1 ∧ bt set i) := by
          funext a b w
          exact propext (hE a b w)
        rw [← this]; exact hFW2
      obtain ⟨m', i1, i2, i3⟩ := ih f (k + 1) m2 (by omega) (by omega) (by rw [b2.1, a2.1]; exact h1) (fun i hi => by rw [b2.1, a2.1]; exact h2 i hi) hFW3
      refine ⟨m', fun K => ?_, (a2.trans b2).trans i2, i3⟩
      have hc0 : ¬ ((set >>> (nI k &&& 31)) &&& 1) = 0 := fun e => by
        have : ((set >>> (nI k &&& 31)) &&& 1) = 1 := c
        rw [e] at this
        exact absurd this (by decide)
      rw [f_X12_quarrels_l41, nmE, h1, if_neg hnk, jnE, if_neg hc0]
      simp only [gdN (show k < 30 by omega) (show 30 ≤ 1000000 by omega), nmE, clampN (show k < 1000000 by omega), p1, p2, a1, bdvE, a2.1, b1, nI_1]
      exact i1 K
    · obtain ⟨m', i1, i2, i3⟩ := ih f (k + 1) m (by omega) (by omega) h1 h2 (by
        have : EP A C F S (fun i => i < k ∧ bt set i) = EP A C F S (fun i => i < k + 1 ∧ bt set i) := by
          funext a b w
          apply propext
          unfold EP
          constructor
          · intro ⟨i, ⟨q1, q2⟩, q3⟩; exact ⟨i, ⟨by omega, q2⟩, q3⟩
          · intro ⟨i, ⟨q1, q2⟩, q3⟩
            refine ⟨i, ⟨?_, q2⟩, q3⟩
            by_cases e : i = k
            · subst e; exact absurd q2 c
            · omega
        rw [← this]; exact h3)
      refine ⟨m', fun K => ?_, i2, i3⟩
      have hc0 : ((set >>> (nI k &&& 31)) &&& 1) = 0 := (bit01 _).resolve_right c
      rw [f_X12_quarrels_l41, nmE, h1, if_neg hnk, jnE, if_pos hc0, nI_1]
      exact i1 K
section QL
variable {nr k : Nat} {M : Mx}
theorem q_l170 {a : Nat} (hnr : nr ≤ 16) (hk : k < nr) (ha : a < nr) (hfa : M a k ≠ 999999) (hU : ∀ i j, i < 16 → j < 16 → M i j ≠ 999999 → M i j ≤ 186966 ∧ -1000000000 ≤ M i j) (hrow : ∀ j, tight M k k 0 k j = M k j) (hcol : ∀ i, tight M k k 0 i k = M i k) (hout : ∀ i j, i < 16 → j < 16 → (nr ≤ i ∨ nr ≤ j) → tight M k k 0 i j = M i j) : ∀ (d f b : Nat) (m : St), b + d = nr → d < f → m.1 0 11 = nI nr → (∀ i j, i < 16 → j < 16 → MM m i j = if i < a ∨ (i = a ∧ j < b) then tight M k k 0 i j else M i j) → ∃ m', (∀ K : St → Option (Int32 × St), f_X12_quarrels_l170 (nI k) (nI a) K f (nI b) m = K m') ∧ FL m m' ∧ (∀ i j, i < 16 → j < 16 → MM m' i j = if i < a + 1 then tight M k k 0 i j else M i j) := by
  intro d
  induction d with
  | zero =>
    intro f b m hb hf h1 h2
    obtain ⟨f, rfl⟩ : ∃ g, f = g + 1 := ⟨f - 1, by omega⟩
    have hbn : b = nr := by omega
    subst hbn
    have : nI b ≤ nI b := by rw [le_nI (by omega), nI_rng (by omega)]; omega
    refine ⟨m, fun K => by rw [f_X12_quarrels_l170, nmE, h1, if_pos this], FL.rfl' m, fun i j hi hj => ?_⟩
    rw [h2 i j hi hj]
    by_cases c : i < a
    · rw [if_pos (Or.inl c), if_pos (by omega)]
    · by_cases c2 : i = a
      · by_cases c3 : j < b
        · rw [if_pos (Or.inr ⟨c2, c3⟩), if_pos (by omega)]
        · rw [if_neg (by omega), if_pos (by omega), hout i j hi hj (Or.inr (by omega))]
      · rw [if_neg (by omega), if_neg (by omega)]
  | succ d ih =>
    intro f b m hb hf h1 h2
    obtain ⟨f, rfl⟩ : ∃ g, f = g + 1 := ⟨f - 1, by omega⟩
    have hnb : ¬ nI nr ≤ nI b := by rw [le_nI (by omega), nI_rng (by omega)]; omega
    have hk16 : k < 16 := by omega
    have ha16 : a < 16 := by omega
    have hb16 : b < 16 := by omega
    have hkb : (m.2.1 19 (16 * k + b)).toInt = M k b := by
      have := h2 k b hk16 hb16
      by_cases c : k < a ∨ (k = a ∧ b < b)
      · rw [if_pos c, hrow] at this; exact this
      · rw [if_neg c] at this; exact this
    have hak : (m.2.1 19 (16 * a + k)).toInt = M a k := by
      have := h2 a k ha16 hk16
      by_cases c : a < a ∨ (a = a ∧ k < b)
      · rw [if_pos c, hcol] at this; exact this
      · rw [if_neg c] at this; exact this
    have hab : MM m a b = M a b := by rw [h2 a b ha16 hb16, if_neg (by omega)]
    have hnext : ∀ m1 : St, (∀ i j, i < 16 → j < 16 → MM m1 i j = if i = a ∧ j = b then tight M k k 0 a b else MM m i j) → ∀ i j, i < 16 → j < 16 → MM m1 i j = if i < a ∨ (i = a ∧ j < b + 1) then tight M k k 0 i j else M i j := by
      intro m1 hm i j hi hj
      rw [hm i j hi hj]
      by_cases c : i = a ∧ j = b
      · obtain ⟨rfl, rfl⟩ := c
        rw [if_pos ⟨rfl, rfl⟩, if_pos (Or.inr ⟨rfl, by omega⟩)]
      · rw [if_neg c, h2 i j hi hj]
        by_cases c2 : i < a ∨ (i = a ∧ j < b)
        · rw [if_pos c2, if_pos (by omega)]
        · rw [if_neg c2, if_neg (by omega)]
    by_cases c : M k b = 999999
    · have ht : tight M k k 0 a b = M a b := by
        unfold tight
        rw [if_neg (fun z => z.2.1 c)]
      obtain ⟨m', i1, i2, i3⟩ := ih f (b + 1) m (by omega) (by omega) h1 (hnext m (fun i j hi hj => by
        by_cases z : i = a ∧ j = b
        · rw [if_pos z, z.1, z.2, hab, ht]
        · rw [if_neg z]))
      refine ⟨m', fun K => ?_, i2, i3⟩
      rw [f_X12_quarrels_l170, nmE, h1, if_neg hnb, nmE, idx16 hk16 hb16, gdN (by omega) (by omega), nmE, clampN (by omega), jnE, if_pos (n999l.mpr (by rw [hkb]; exact c)), nI_1]
      exact i1 K
    · have hu1 := hU a k ha16 hk16 hfa
      have hu2 := hU k b hk16 hb16 c
      have hs : (m.2.1 19 (16 * a + k) + m.2.1 19 (16 * k + b)).toInt = M a k + M k b := by rw [add64 (by rw [hak, hkb]; omega), hak, hkb]
      obtain ⟨m1, a1, a2, a3⟩ := boundsE (m := m) (V := m.2.1 19 (16 * a + k) + m.2.1 19 (16 * k + b)) ha16 hb16 (by rw [hs]; omega)
      rw [hs, hab] at a3
      obtain ⟨m', i1, i2, i3⟩ := ih f (b + 1) m1 (by omega) (by omega) (by rw [a2.1]; exact h1) (hnext m1 (fun i j hi hj => by
        by_cases z : i = a ∧ j = b
        · obtain ⟨rfl, rfl⟩ := z
          rw [if_pos (show i = i ∧ j = j from ⟨rfl, rfl⟩), a3 i j hi hj]
          unfold tight
          by_cases y : M i k + M k j < M i j
          · rw [if_pos (show i = i ∧ j = j ∧ M i k + M k j < M i j from ⟨rfl, rfl, y⟩), if_pos (show M i k ≠ 999999 ∧ M k j ≠ 999999 ∧ M i k + 0 + M k j < M i j from ⟨hfa, c, by omega⟩)]; omega
          · rw [if_neg (show ¬ (i = i ∧ j = j ∧ M i k + M k j < M i j) from fun q => y q.2.2), if_neg (show ¬ (M i k ≠ 999999 ∧ M k j ≠ 999999 ∧ M i k + 0 + M k j < M i j) from fun q => y (by have := q.2.2; omega)), hab]
        · rw [if_neg z, a3 i j hi hj, if_neg (fun q => z ⟨q.1, q.2.1⟩)]))
      refine ⟨m', fun K => ?_, a2.trans i2, i3⟩
      rw [f_X12_quarrels_l170, nmE, h1, if_neg hnb]
      simp only [nmE, idx16 hk16 hb16, idx16 ha16 hk16, gdN (show 16 * k + b < 256 by omega) (show 256 ≤ 1000000 by omega), gdN (show 16 * a + k < 256 by omega) (show 256 ≤ 1000000 by omega), clampN (show 16 * k + b < 1000000 by omega), clampN (show 16 * a + k < 1000000 by omega), jnE, if_neg (fun e => c (by rw [← hkb]; exact n999l.mp e)), a1, bdvE, nI_1]
      exact i1 K
theorem q_l138 (hnr : nr ≤ 16) (hk : k < nr) (hU : ∀ i j, i < 16 → j < 16 → M i j ≠ 999999 → M i j ≤ 186966 ∧ -1000000000 ≤ M i j) (hrow : ∀ j, tight M k k 0 k j = M k j) (hcol : ∀ i, tight M k k 0 i k = M i k) (hout : ∀ i j, i < 16 → j < 16 → (nr ≤ i ∨ nr ≤ j) → tight M k k 0 i j = M i j) : ∀ (d f a : Nat) (m : St), a + d = nr → d < f → m.1 0 11 = nI nr → (∀ i j, i < 16 → j < 16 → MM m i j = if i < a then tight M k k 0 i j else M i j) → ∃ m', (∀ K : St → Option (Int32 × St), f_X12_quarrels_l138 (nI k) K f (nI a) m = K m') ∧ FL m m' ∧ (∀ i j, i < 16 → j < 16 → MM m' i j = tight M k k 0 i j) := by
  intro d
  induction d with
  | zero =>
    intro f a m ha hf h1 h2
    obtain ⟨f, rfl⟩ : ∃ g, f = g + 1 := ⟨f - 1, by omega⟩
    have han : a = nr := by omega
    subst han
    have : nI a ≤ nI a := by rw [le_nI (by omega), nI_rng (by omega)]; omega
    refine ⟨m, fun K => by rw [f_X12_quarrels_l138, nmE, h1, if_pos this], FL.rfl' m, fun i j hi hj => ?_⟩
    rw [h2 i j hi hj]
    by_cases c : i < a
    · rw [if_pos c]
    · rw [if_neg c, hout i j hi hj (Or.inl (by omega))]
  | succ d ih =>
    intro f a m ha hf h1 h2
    obtain ⟨f, rfl⟩ : ∃ g, f = g + 1 := ⟨f - 1, by omega⟩
    have hna : ¬ nI nr ≤ nI a := by rw [le_nI (by omega), nI_rng (by omega)]; omega
    have hk16 : k < 16 := by omega
    have ha16 : a < 16 := by omega
    have hak : (m.2.1 19 (16 * a + k)).toInt = M a k := by
      have := h2 a k ha16 hk16
      rw [if_neg (by omega)] at this; exact this
    have hhead : ∀ K : St → Option (Int32 × St), f_X12_quarrels_l138 (nI k) K (f + 1) (nI a) m = (if m.2.1 19 (16 * a + k) = 999999 then f_X12_quarrels_l138 (nI k) K f (nI (a + 1)) m else f_X12_quarrels_l170 (nI k) (nI a) (fun (σ56 : St) => f_X12_quarrels_l138 (nI k) K f (nI (a + 1)) σ56) FU 0 m) := fun K => by
      rw [f_X12_quarrels_l138, nmE, h1, if_neg hna, nmE, idx16 ha16 hk16, gdN (by omega) (by omega), nmE, clampN (by omega), jnE, nI_1]
    by_cases c : M a k = 999999
    · obtain ⟨m', i1, i2, i3⟩ := ih f (a + 1) m (by omega) (by omega) h1 (fun i j hi hj => by
        rw [h2 i j hi hj]
        by_cases z : i < a
        · rw [if_pos z, if_pos (by omega)]
        · rw [if_neg z]
          by_cases z2 : i = a
          · subst z2
            rw [if_pos (by omega)]
            unfold tight
            rw [if_neg (fun q => q.1 c)]
          · rw [if_neg (by omega)])
      exact ⟨m', fun K => by rw [hhead, if_pos (n999l.mpr (by rw [hak]; exact c))]; exact i1 K, i2, i3⟩
    · obtain ⟨m1, a1, a2, a3⟩ := q_l170 (a := a) hnr hk (by omega) c hU hrow hcol hout nr FU 0 m (by omega) (by unfold FU; omega) h1 (fun i j hi hj => by
        rw [h2 i j hi hj]
        by_cases z : i < a
        · rw [if_pos z, if_pos (Or.inl z)]
        · rw [if_neg z, if_neg (by omega)])
      rw [show nI 0 = 0 from rfl] at a1
      obtain ⟨m', i1, i2, i3⟩ := ih f (a + 1) m1 (by omega) (by omega) (by rw [a2.1]; exact h1) a3
      exact ⟨m', fun K => by rw [hhead, if_neg (fun e => c (by rw [← hak]; exact n999l.mp e)), a1]; exact i1 K, a2.trans i2, i3⟩
end QL
theorem q_l243 {nr : Nat} (hnr : nr ≤ 16) : ∀ (d f a : Nat) (m : St), a + d = nr → d < f → m.1 0 11 = nI nr → ((∃ b, a ≤ b ∧ b < nr ∧ MM m b b < 0) ∧ ∀ K : Option (Int32 × St), f_X12_quarrels_l243 m K f (nI a) = some (1, m)) ∨ ((∀ b, a ≤ b → b < nr → 0 ≤ MM m b b) ∧ ∀ K : Option (Int32 × St), f_X12_quarrels_l243 m K f (nI a) = K) := by
  have l0 : (0 : Int64).toInt = 0 := rfl
  intro d
  induction d with
  | zero =>
    intro f a m ha hf h1
    obtain ⟨f, rfl⟩ : ∃ g, f = g + 1 := ⟨f - 1, by omega⟩
    have : nI nr ≤ nI a := by rw [le_nI (by omega), nI_rng (by omega)]; omega
    exact Or.inr ⟨fun b _ _ => by omega, fun K => by rw [f_X12_quarrels_l243, nmE, h1, if_pos this]⟩
  | succ d ih =>
    intro f a m ha hf h1
    obtain ⟨f, rfl⟩ : ∃ g, f = g + 1 := ⟨f - 1, by omega⟩
    have hna : ¬ nI nr ≤ nI a := by rw [le_nI (by omega), nI_rng (by omega)]; omega
    have hhead : ∀ K : Option (Int32 × St), f_X12_quarrels_l243 m K (f + 1) (nI a) = (if 0 ≤ m.2.1 19 (16 * a + a) then f_X12_quarrels_l243 m K f (nI (a + 1)) else some (1, m)) := fun K => by
      rw [f_X12_quarrels_l243, nmE, h1, if_neg hna, nmE, idx16 (by omega) (by omega), gdN (by omega) (by omega), nmE, clampN (by omega), nI_1]
    by_cases c : 0 ≤ m.2.1 19 (16 * a + a)
    · have hc : 0 ≤ MM m a a := by rw [le64, l0] at c; exact c
      rcases ih f (a + 1) m (by omega) (by omega) h1 with ⟨⟨b, b1, b2, b3⟩, h⟩ | ⟨hb, h⟩
      · exact Or.inl ⟨⟨b, by omega, b2, b3⟩, fun K => by rw [hhead, if_pos c]; exact h K⟩
      · refine Or.inr ⟨fun b b1 b2 => ?_, fun K => by rw [hhead, if_pos c]; exact h K⟩
        by_cases e : b = a
        · subst e; exact hc
        · exact hb b (by omega) b2
    · refine Or.inl ⟨⟨a, by omega, by omega, ?_⟩, fun K => by rw [hhead, if_neg c]⟩
      rw [le64, l0] at c
      have : (m.2.1 19 (16 * a + a)).toInt = MM m a a := rfl
      omega
theorem cgFW {E : Ed} {nr k : Nat} {M M' : Mx} (h : FW E nr k M) (hk : k ≤ 16) (e : ∀ i j, i < 16 → j < 16 → M' i j = M i j) : FW E nr k M' := by
  obtain ⟨h1, h2, h3, h4, h5, h6⟩ := h
  refine ⟨fun D' hD' a b ha hb => by rw [e a b ha hb]; exact h1 D' hD' a b ha hb, fun a ha => by rw [e a a ha ha]; exact h2 a ha, fun j hj a b ha hb => by rw [e a j ha (by omega), e j b (by omega) hb, e a b ha hb]; exact h3 j hj a b ha hb, fun a b w ha hb => by rw [e a b ha hb]; exact h4 a b w ha hb, fun a b ha hb => by rw [e a b ha hb]; exact h5 a b ha hb, fun a b ha hb => ?_⟩
  rw [e a b ha hb, cnt_cg (P := btw M' a b) (Q := btw M a b) k (fun q hq => by unfold btw; rw [e a q ha (by omega), e q b (by omega) hb])]
  exact h6 a b ha hb
theorem q_l128 {E : Ed} {nr : Nat} (hnr : nr ≤ 16) : ∀ (d f k : Nat) (m : St), k + d = nr → d < f → m.1 0 11 = nI nr → FW E nr k (MM m) → ∃ r m', f_X12_quarrels_l128 f (nI k) m = some (r, m') ∧ FL m m' ∧ ((r = 1 ∧ NoS E) ∨ (r = 0 ∧ Gr E (MM m'))) := by
  intro d
  induction d with
  | zero =>
    intro f k m hk hf h1 h2
    obtain ⟨f, rfl⟩ : ∃ g, f = g + 1 := ⟨f - 1, by omega⟩
    have hkn : k = nr := by omega
    subst hkn
    have : nI k ≤ nI k := by rw [le_nI (by omega), nI_rng (by omega)]; omega
    exact ⟨0, m, by rw [f_X12_quarrels_l128, nmE, h1, if_pos this], FL.rfl' m, Or.inr ⟨rfl, fw_end h2 hnr⟩⟩
  | succ d ih =>
    intro f k m hk hf h1 h2
    obtain ⟨f, rfl⟩ : ∃ g, f = g + 1 := ⟨f - 1, by omega⟩
    have hnk : ¬ nI nr ≤ nI k := by rw [le_nI (by omega), nI_rng (by omega)]; omega
    obtain ⟨s1, s2, s3, s4, s5⟩ := fw_step h2 (by omega) (by omega) hnr
    have hpw : (2 : Int) ^ k ≤ 65536 := by
      have : ∀ q, q ≤ 16 → (2 : Int) ^ q ≤ 65536 := by decide
      exact this k (by omega)
    obtain ⟨m1, a1, a2, a3⟩ := q_l138 (M := MM m) hnr (show k < nr by omega) (fun i j hi hj f => ⟨h2.le (by omega) i j hi hj f, by have := (h2.2.2.2.2.2 i j hi hj f).2; omega⟩) s4 s5 s3 nr FU 0 m (by omega) (by unfold FU; omega) h1 (fun i j hi hj => by rw [if_neg (by omega)])
    rw [show nI 0 = 0 from rfl] at a1
    have hhead : f_X12_quarrels_l128 (f + 1) (nI k) m = f_X12_quarrels_l243 m1 (f_X12_quarrels_l128 f (nI (k + 1)) m1) FU 0 := by
      rw [f_X12_quarrels_l128, nmE, h1, if_neg hnk, a1, nI_1]
    rcases q_l243 hnr nr FU 0 m1 (by omega) (by unfold FU; omega) (by rw [a2.1]; exact h1) with ⟨⟨b, _, b2, b3⟩, h⟩ | ⟨hb, h⟩
    · rw [show nI 0 = 0 from rfl] at h
      refine ⟨1, m1, by rw [hhead, h], a2, Or.inl ⟨rfl, fun D' hD' => ?_⟩⟩
      rw [a3 b b (by omega) (by omega)] at b3
      have := s1 D' hD' b b (by omega) (by omega) (by unfold fn; omega)
      have := hD'.1 b (by omega)
      omega
    · rw [show nI 0 = 0 from rfl] at h
      have hFW : FW E nr (k + 1) (MM m1) := cgFW (s2 (fun a ha => by
        by_cases z : a < nr
        · rw [← a3 a a ha ha]; exact hb a (by omega) z
        · rw [s3 a a ha ha (Or.inl (by omega)), h2.2.1 a ha]; omega)) (by omega) a3
      obtain ⟨r, m', i1, i2, i3⟩ := ih f (k + 1) m1 (by omega) (by omega) (by rw [a2.1]; exact h1) hFW
      exact ⟨r, m', by rw [hhead, h, i1], a2.trans i2, i3⟩
theorem quarrelsE {set : Int32} {n nr : Nat} {A C : Nat → Nat} {F S : Nat → Int} {m : St} (hn : n ≤ 30) (hnr : nr ≤ 16) (h0 : m.1 0 11 = nI nr) (h1 : m.1 0 46 = nI n) (h2 : ∀ i, i < n → m.1 15 i = nI (A i) ∧ m.1 16 i = nI (C i) ∧ A i < nr ∧ C i < nr ∧ A i ≠ C i ∧ (m.1 17 i).toInt = F i ∧ (m.1 18 i).toInt = S i ∧ rng (m.1 17 i) (-9999) 9999 ∧ rng (m.1 18 i) 0 999) : ∃ r m', f_X12_quarrels m set = some (r, m') ∧ FL m m' ∧ ((r = 1 ∧ NoS (EP A C F S (fun i => i < n ∧ bt set i))) ∨ (r = 0 ∧ Gr (EP A C F S (fun i => i < n ∧ bt set i)) (MM m'))) := by
  obtain ⟨m1, a1, a2, a3, _⟩ := q_l2 256 FU 0 m (by omega) (by decide)
  rw [show nI 0 = 0 from rfl] at a1
  have hM : ∀ i j, i < 16 → j < 16 → MM m1 i j = if i = j then 0 else 999999 := fun i j hi hj => by
    unfold MM
    rw [a3 _ (by omega) (by omega)]
    by_cases c : i = j
    · rw [if_pos c, if_pos (by omega)]
    · rw [if_neg c, if_neg (by omega)]
  have hK := KI0 hM
  have hFW : FW (EP A C F S (fun i => i < 0 ∧ bt set i)) nr 0 (MM m1) := by
    have hf : ∀ i j, i < 16 → j < 16 → fn (MM m1 i j) → i = j := fun i j hi hj f => by
      rw [hM i j hi hj] at f
      by_cases c : i = j
      · exact c
      · rw [if_neg c] at f; exact absurd rfl f
    refine ⟨fun D' hD' => hK.1.2 D' ⟨hD'.1, hD'.2.1, fun _ _ _ _ _ e => absurd e (fun z => z)⟩, hK.1.1.1, fun j hj => by omega, fun a b w _ _ ⟨i, ⟨q, _⟩, _⟩ => by omega, fun a b ha hb f => Or.inl (hf a b ha hb f), fun a b ha hb f => ?_⟩
    have := hf a b ha hb f
    subst this
    rw [hK.1.1.1 a ha]
    have z0 : cnt (btw (MM m1) a a) 0 = 0 := rfl
    rw [z0]
    simp
  obtain ⟨m2, b1, b2, b3⟩ := q_l41 (set := set) (A := A) (C := C) (F := F) (S := S) hn hnr n FU 0 m1 (by omega) (by unfold FU; omega) (by rw [a2.1]; exact h1) (fun i hi => by rw [a2.1]; exact h2 i hi) hFW
  rw [show nI 0 = 0 from rfl] at b1
  obtain ⟨r, m', c1, c2, c3⟩ := q_l128 hnr nr FU 0 m2 (by omega) (by unfold FU; omega) (by rw [b2.1, a2.1]; exact h0) b3
  rw [show nI 0 = 0 from rfl] at c1
  exact ⟨r, m', by rw [f_X12_quarrels, a1, b1, c1], (a2.trans b2).trans c2, c3⟩

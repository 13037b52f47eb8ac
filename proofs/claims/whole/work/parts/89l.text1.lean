def RdG (B : Nat → Int32) (n : Nat) (L1 L2 : List Int32) : Prop := ∀ (m : St) (j : Nat) (r seat speed stroke which : Int32), j < 6 → (∀ i, i < n → m.1 1 (160 * j + i) = B i) → m.1 2 j = nI n → (r = -1 ∨ ∃ i, i < 16 ∧ r = nI i) → (∃ k, k < 8 ∧ seat = nI k) → ∃ v1 v2 m', f_X12_read m (nI j) r seat speed stroke which = some (if which = 0 then v1 else v2, m') ∧ (∀ c, c ≠ 0 → m'.1 c = m.1 c) ∧ (∀ i, i < 17 ∨ 30 < i → m'.1 0 i = m.1 0 i) ∧ (∀ c, c ≠ 0 → m'.2.1 c = m.2.1 c) ∧ (∀ i, i ≠ 21 → m'.2.1 0 i = m.2.1 0 i) ∧ Ev (envM m r seat speed stroke) L1 v1 ∧ Ev (envM m r seat speed stroke) L2 v2 ∧ m'.1 0 24 = 0
theorem RdG.ok {B : Nat → Int32} {n : Nat} {L1 L2 : List Int32} (h : RdG B n L1 L2) : RdOk B n L1 L2 := by
  intro m j r seat speed stroke which a b c d e
  obtain ⟨v1, v2, m', q1, q2, q3, q4, q5, q6, q7, _⟩ := h m j r seat speed stroke which a b c d e
  exact ⟨v1, v2, m', q1, q2, q3, q4, q5, q6, q7⟩
def RdB (B : Nat → Int32) (n : Nat) (w : Nat) : Prop := ∀ (m : St) (j : Nat) (r seat speed stroke which : Int32), j < 6 → (∀ i, i < n → m.1 1 (160 * j + i) = B i) → m.1 2 j = nI n → (r = -1 ∨ ∃ i, i < 16 ∧ r = nI i) → (∃ k, k < 8 ∧ seat = nI k) → ∃ v m', f_X12_read m (nI j) r seat speed stroke which = some (v, m') ∧ (∀ c, c ≠ 0 → m'.1 c = m.1 c) ∧ (∀ i, i < 17 ∨ 30 < i → m'.1 0 i = m.1 0 i) ∧ m'.1 0 24 = 1 ∧ m'.1 0 25 = nI w
def ffR (t7 : Int32) (σ8 : St) : Option (Int32 × St) := nm (σ8.1 17 2) (fun v10 => nm (sI σ8 17 3 v10) (fun σ11 => jn (fun (t12 : Int32) (σ13 : St) => jn (nm (σ13.1 17 5) (fun v16 => some (v16, σ13))) (fun (j15 : Option (Int32 × St)) => (if t12 = 0 then j15 else nm (σ13.1 17 4) (fun v18 => (if v18 = (-1) then some ((-1), σ13) else j15))))) (fun (j14 : Int32 → St → Option (Int32 × St)) => jn (fun (σ20 : St) => j14 0 σ20) (fun (j21 : St → Option (Int32 × St)) => (if t7 = 0 then j21 σ11 else bd (f_X9_take σ11 10007) (fun v23 σ24 => (if v23 = 0 then j21 σ24 else bd (f_GT 64 5 σ24 0) (fun v26 σ27 => (if v26 = 0 then j21 σ27 else bd (f_X9_take σ27 20059) (fun v29 σ30 => (if v29 = 0 then j21 σ30 else j14 1 σ30)))))))))))
theorem text_read {x : St} {B : Nat → Int32} {n : Nat} (hn : n ≤ 160) (h1 : x.1 15 1 = nI n) (h2 : ∀ i, i < n → B i = x.1 16 i &&& 255) : ∃ q x', f_X9_findFault x = some (q, x') ∧ (∀ c, c ≠ 17 → c ≠ 18 → x'.1 c = x.1 c) ∧ x'.2 = x.2 ∧ ((q = -1 ∧ ∃ L1 L2, L1.length + L2.length < 160 ∧ x'.1 17 2 = nI (L1.length + L2.length) ∧ x'.1 17 3 = nI L1.length ∧ SO x' 0 (L1 ++ L2) ∧ RdG B n L1 L2) ∨ (∃ w, w ≤ 160 ∧ q = nI w ∧ RdB B n w)) := by
  have hB : ∀ i, i < n → ∃ c, c < 256 ∧ B i = nI c := fun i hi => by rw [h2 i hi]; exact and255_rng _
  -- the first token
  obtain ⟨x1, a1, a2, a3, a4, a5, a6, a7⟩ := xNext (x := sI (sI (sI x 17 2 0) 17 3 0) 17 6 0) (B := B) (n := n) (p := 0) hn (by omega) (by simp [sI_rd]; exact h1) (fun i hi => by simp [sI_rd]; exact h2 i hi) (by simp [sI_rd]; rfl)
  have c0 : ∀ c, c ≠ 17 → (sI (sI (sI x 17 2 0) 17 3 0) 17 6 0).1 c = x.1 c := fun c hc => by simp only [sI_ro _ 17 _ _ c hc]
  have hX1 : RX B n x1 0 0 := ⟨by rw [a2 15 (by omega), c0 15 (by omega)]; exact h1, fun i hi => by rw [a2 16 (by omega), c0 16 (by omega)]; exact h2 i hi, a5, a6, a7, by rw [a3 2 (by omega) (by omega) (by omega)]; simp [sI_rd]; rfl, by omega, by omega⟩
  have hx1 : ∀ c, c ≠ 17 → x1.1 c = x.1 c := fun c hc => by rw [a2 c hc, c0 c hc]
  have hx12 : x1.2 = x.2 := a4
  -- the first part
  obtain ⟨ok, x2, p2, sz2, L1, b1, b2, b3, b4, b5, b6⟩ := part_ls (C := 10006) (W := 144941) (i := 6) hn hB (by omega) rfl rfl hX1 (Nat.le_refl 0)
  have hff : f_X9_findFault x = nm (x2.1 17 2) (fun v10 => nm (sI x2 17 3 v10) (fun σ11 => jn (fun (t12 : Int32) (σ13 : St) => jn (nm (σ13.1 17 5) (fun v16 => some (v16, σ13))) (fun (j15 : Option (Int32 × St)) => (if t12 = 0 then j15 else nm (σ13.1 17 4) (fun v18 => (if v18 = (-1) then some ((-1), σ13) else j15))))) (fun (j14 : Int32 → St → Option (Int32 × St)) => if ok = 0 then j14 0 σ11 else bd (CP σ11 10007) j14))) := by
    unfold f_X9_findFault
    rw [nmE, nmE, nmE, a1, bdvE]
    have hh : bd (f_X9_take x1 10006) (fun v5 σ6 => jn ffR (fun (j9 : Int32 → St → Option (Int32 × St)) => jn (fun (σ32 : St) => j9 0 σ32) (fun (j33 : St → Option (Int32 × St)) => (if v5 = 0 then j33 σ6 else bd (f_GT 64 5 σ6 0) (fun v35 σ36 => (if v35 = 0 then j33 σ36 else bd (f_X9_take σ36 20059) (fun v38 σ39 => (if v38 = 0 then j33 σ39 else j9 1 σ39)))))))) = bd (CP x1 10006) ffR := by
      rw [← CP_K x1 10006 ffR]
      simp only [jnE]
    refine Eq.trans hh ?_
    rw [b1, bdE]
    simp only [ffR, nmE, jnE]
    by_cases c : ok = 0
    · rw [if_pos c, if_pos c]
    · rw [if_neg c, if_neg c, ← CP_K]
      simp only [jnE]
  rw [hff, nmE, nmE, jnE]
  -- the model's head
  have hmodel : ∀ (m : St) (j : Nat) (r seat speed stroke which : Int32), j < 6 → (∀ i, i < n → m.1 1 (160 * j + i) = B i) → m.1 2 j = nI n → (r = -1 ∨ ∃ i, i < 16 ∧ r = nI i) → (∃ k, k < 8 ∧ seat = nI k) → ∃ m2, f_X12_read m (nI j) r seat speed stroke which = rdRest which m2 ∧ RM B n j m2 0 0 ∧ SeatOk m2 ∧ eM m2 = envM m r seat speed stroke ∧ (∀ c, c ≠ 0 → m2.1 c = m.1 c) ∧ (∀ i, i < 17 ∨ 30 < i → m2.1 0 i = m.1 0 i) ∧ (∀ c, c ≠ 0 → m2.2.1 c = m.2.1 c) ∧ (∀ i, i ≠ 21 → m2.2.1 0 i = m.2.1 0 i) := by
    intro m j r seat speed stroke which hj g1 g2 g3 g4
    obtain ⟨m1, q1, q2, q3, q4, q5, q6, q7, q8, q9, q10⟩ := read_head (speed := speed) (stroke := stroke) (which := which) hj g1 g2 g3 g4
    obtain ⟨m2, r1, r2, r3, r4, r5⟩ := mNext hj hn q2 q3 (by omega) hB
    have hfm := r2.fm
    refine ⟨m2, by rw [q1, r1, bdvE], ⟨r2.mb q2, by rw [r2.2.1 24 (by omega)]; exact q5, by rw [r2.2.1 23 (by omega)]; exact q4, r4, r3, r5⟩, hfm.seat q7, by rw [hfm.env]; exact q6, fun c hc => by rw [r2.1 c hc, q8 c hc], fun i hi => by rw [r2.2.1 i (by omega), q9 i hi], fun c hc => by rw [r2.2.2.1 c hc, q10], fun i hi => by rw [r2.2.2.2 i hi, q10]⟩
  have hx25 := b4.2.2.2.1
  have hp2n := b4.2.2.2.2.2.2.2
  -- a fault: both stand there
  have fault : ∀ (X : St) (p' sz' : Nat), RX B n X p' sz' → (∀ c, c ≠ 17 → c ≠ 18 → X.1 c = x.1 c) → X.2 = x.2 → (∀ m2 j which, j < 6 → RM B n j m2 0 0 → SeatOk m2 → ∃ v m', rdRest which m2 = some (v, m') ∧ FM m2 m' ∧ Bad B n m' p') → ∃ q x', (some (X.1 17 5, X) : Option (Int32 × St)) = some (q, x') ∧ (∀ c, c ≠ 17 → c ≠ 18 → x'.1 c = x.1 c) ∧ x'.2 = x.2 ∧ ((q = -1 ∧ ∃ L1 L2, L1.length + L2.length < 160 ∧ x'.1 17 2 = nI (L1.length + L2.length) ∧ x'.1 17 3 = nI L1.length ∧ SO x' 0 (L1 ++ L2) ∧ RdG B n L1 L2) ∨ (∃ w, w ≤ 160 ∧ q = nI w ∧ RdB B n w)) := by
    intro X p' sz' hX hc h2' hm
    have hpn := hX.2.2.2.2.2.2.2
    refine ⟨_, X, rfl, hc, h2', Or.inr ⟨(tk B n p').2.1, by have := (tk_adv (B := B) hn hpn).2.1; omega, hX.2.2.2.1, ?_⟩⟩
    intro m j r seat speed stroke which hj g1 g2 g3 g4
    obtain ⟨m2, u1, u2, u3, u4, u5, u6, u7, u8⟩ := hmodel m j r seat speed stroke which hj g1 g2 g3 g4
    obtain ⟨v, m', w1, w2, w3⟩ := hm m2 j which hj u2 u3
    exact ⟨v, m', by rw [u1, w1], fun c hc => by rw [w2.1 c hc, u5 c hc], fun i hi => by rw [w2.2.1 i (by omega), u6 i hi], w3.1, w3.2⟩
  have cX : ∀ c, c ≠ 17 → c ≠ 18 → x2.1 c = x.1 c := fun c c1 c2 => by rw [b3.1 c c1 c2, hx1 c c1]
  -- x2 with half written
  have hX2' : RX B n (sI x2 17 3 (x2.1 17 2)) p2 sz2 := by
    obtain ⟨w1, w2, w3, w4, w5, w6, w7, w8⟩ := b4
    exact ⟨by rw [sI_ro _ 17 _ _ 15 (by omega)]; exact w1, fun i hi => by rw [sI_ro _ 17 _ _ 16 (by omega)]; exact w2 i hi, by rw [sI_rne _ 17 _ _ 4 (by omega)]; exact w3, by rw [sI_rne _ 17 _ _ 5 (by omega)]; exact w4, by rw [sI_rne _ 17 _ _ 6 (by omega)]; exact w5, by rw [sI_rne _ 17 _ _ 2 (by omega)]; exact w6, w7, w8⟩
  have cX2 : ∀ c, c ≠ 17 → c ≠ 18 → (sI x2 17 3 (x2.1 17 2)).1 c = x.1 c := fun c c1 c2 => by rw [sI_ro _ 17 _ _ c c1, cX c c1 c2]
  have cX22 : (sI x2 17 3 (x2.1 17 2)).2 = x.2 := by rw [sI_2, b3.2.2, hx12]
  rcases b2 with rfl | rfl
  · rw [if_pos rfl]
    dsimp only
    rw [jnE, if_pos rfl, nmE]
    refine fault _ p2 sz2 hX2' cX2 cX22 (fun m2 j which hj hM hs => ?_)
    obtain ⟨v, m', f1, f2, f3, f4⟩ := b6 j m2 hj hM hs
    have hbad := f3 rfl
    dsimp only at f1
    have : rdRest which m2 = if which = 0 then some (v, m') else some (0, m') := by
      unfold rdRest
      rw [f1, bdE, nmE, hbad.1, jnE, if_neg ne10]
      dsimp only
      rw [nmE, hbad.1, jnE, if_neg ne10]
    by_cases w0 : which = 0
    · exact ⟨v, m', by rw [this, if_pos w0], f2, hbad⟩
    · exact ⟨0, m', by rw [this, if_neg w0], f2, hbad⟩
  · rw [if_neg ne10]
    obtain ⟨g1, g2, g3, g4⟩ := b5 rfl
    obtain ⟨ok, x3, p3, sz3, L2, d1, d2, d3, d4, d5, d6⟩ := part_ls (C := 10007) (W := 91888) (i := 7) hn hB (by omega) rfl rfl hX2' (by omega)
    have hp3n := d4.2.2.2.2.2.2.2
    have cX3 : ∀ c, c ≠ 17 → c ≠ 18 → x3.1 c = x.1 c := fun c c1 c2 => by rw [d3.1 c c1 c2, cX2 c c1 c2]
    have cX32 : x3.2 = x.2 := by rw [d3.2.2, cX22]
    rw [d1, bdE, jnE]
    -- the model behind the first part
    have hrest : ∀ m2 j which, j < 6 → RM B n j m2 0 0 → SeatOk m2 → ∃ v m3, Ev (eM m2) L1 v ∧ FM m2 m3 ∧ RM B n j m3 p2 0 ∧ SeatOk m3 ∧ rdRest which m2 = bd (f_X12_part m3 91888) (fun v33 σ34 => nm (σ34.1 0 24) (fun v24 => jn (fun (σ25 : St) => (if which = 0 then some (v, σ25) else some (v33, σ25))) (fun (j26 : St → Option (Int32 × St)) => (if v24 = 0 then nm (σ34.1 0 19) (fun v29 => (if v29 = 0 then j26 σ34 else bdv (f_X12_fail σ34) (fun σ31 => j26 σ31))) else j26 σ34)))) := by
      intro m2 j which hj hM hs
      obtain ⟨v, m3, f1, f2, f3, f4⟩ := b6 j m2 hj hM hs
      obtain ⟨f5, f6⟩ := f4 rfl
      dsimp only at f1
      refine ⟨v, m3, f6, f2, f5, f2.seat hs, ?_⟩
      unfold rdRest
      rw [f1, bdE, nmE, f5.2.1, jnE, if_pos rfl]
    rcases d2 with rfl | rfl
    · rw [if_pos rfl, nmE]
      refine fault _ p3 sz3 d4 cX3 cX32 (fun m2 j which hj hM hs => ?_)
      obtain ⟨v, m3, k1, k2, k3, k4, k5⟩ := hrest m2 j which hj hM hs
      obtain ⟨w, m4, f1, f2, f3, f4⟩ := d6 j m3 hj k3 k4
      have hbad := f3 rfl
      dsimp only at f1
      rw [f1, bdE, nmE, hbad.1, jnE, if_neg ne10] at k5
      dsimp only at k5
      by_cases w0 : which = 0
      · rw [if_pos w0] at k5; exact ⟨v, m4, k5, k2.trans f2, hbad⟩
      · rw [if_neg w0] at k5; exact ⟨w, m4, k5, k2.trans f2, hbad⟩
    · obtain ⟨h1', h2', h3', h4'⟩ := d5 rfl
      rw [if_neg ne10, nmE, d4.2.2.1]
      by_cases ce : (tk B n p3).1 = -1
      · rw [if_pos ce]
        refine ⟨-1, x3, rfl, cX3, cX32, Or.inl ⟨rfl, L1, L2, by omega, by rw [d4.2.2.2.2.2.1, h1', g1, Nat.zero_add], ?_, SO.app (g4.cg (fun k hk => by rw [h3' k (by omega), sI_ro _ 17 _ _ 18 (by omega)])) (by rw [← g1]; exact h4'), ?_⟩⟩
        · rw [d3.2.1, sI_at, b4.2.2.2.2.2.1, g1, Nat.zero_add]
        · intro m j r seat speed stroke which hj e1 e2 e3 e4
          obtain ⟨m2, u1, u2, u3, u4, u5, u6, u7, u8⟩ := hmodel m j r seat speed stroke which hj e1 e2 e3 e4
          obtain ⟨v, m3, k1, k2, k3, k4, k5⟩ := hrest m2 j which hj u2 u3
          obtain ⟨w, m4, f1, f2, f3, f4⟩ := d6 j m3 hj k3 k4
          obtain ⟨f5, f6⟩ := f4 rfl
          rw [k2.env, u4] at f6
          rw [u4] at k1
          have hF := k2.trans f2
          have hk19 : m4.1 0 19 = 0 := by
            rcases f5.2.2.2.1 with ⟨k, e⟩ | ⟨k, _, e⟩ | ⟨k, z, hz, e, _⟩ | ⟨k, z, z1, z2, e, _⟩ | ⟨k, e⟩
            · exact k
            · rw [ce] at e
              rcases e with e | ⟨i, hi, e⟩
              · exact absurd e (by decide)
              · exact absurd e (n1 _ (by omega))
            · rw [ce] at e; exact absurd e (n1 _ (by omega))
            · rw [ce] at e; exact absurd e (n1 _ (by omega))
            · rw [ce] at e; exact absurd e (by decide)
          dsimp only at f1
          rw [f1, bdE, nmE, f5.2.1, jnE, if_pos rfl, nmE, hk19, if_pos rfl] at k5
          dsimp only at k5
          refine ⟨v, w, m4, ?_, fun c hc => by rw [hF.1 c hc, u5 c hc], fun i hi => by rw [hF.2.1 i (by omega), u6 i hi], fun c hc => by rw [hF.2.2.1 c hc, u7 c hc], fun i hi => by rw [hF.2.2.2 i hi, u8 i hi], k1, f6, f5.2.1⟩
          rw [u1, k5]
          by_cases w0 : which = 0
          · rw [if_pos w0, if_pos w0]
          · rw [if_neg w0, if_neg w0]
      · rw [if_neg ce, nmE]
        refine fault _ p3 sz3 d4 cX3 cX32 (fun m2 j which hj hM hs => ?_)
        obtain ⟨v, m3, k1, k2, k3, k4, k5⟩ := hrest m2 j which hj hM hs
        obtain ⟨w, m4, f1, f2, f3, f4⟩ := d6 j m3 hj k3 k4
        obtain ⟨f5, f6⟩ := f4 rfl
        obtain ⟨m5, l1, l2, l3, l4⟩ := failE f5
        have hk19 : ¬ m4.1 0 19 = 0 := fun e0 => by
          rcases f5.2.2.2.1 with ⟨k, e⟩ | ⟨k, _⟩ | ⟨k, _⟩ | ⟨k, _⟩ | ⟨k, _⟩
          · exact ce e
          · rw [e0] at k; exact absurd k (by decide)
          · rw [e0] at k; exact absurd k (by decide)
          · rw [e0] at k; exact absurd k (by decide)
          · rw [e0] at k; exact absurd k (by decide)
        dsimp only at f1
        rw [f1, bdE, nmE, f5.2.1, jnE, if_pos rfl, nmE, if_neg hk19, l1, bdvE] at k5
        dsimp only at k5
        by_cases w0 : which = 0
        · rw [if_pos w0] at k5; exact ⟨v, m5, k5, (k2.trans f2).trans l2, l3⟩
        · rw [if_neg w0] at k5; exact ⟨w, m5, k5, (k2.trans f2).trans l2, l3⟩

section TXT
variable {B : Nat → Int32} {n : Nat}
/-- the class's part: a key, an E, a ; -/
def CP (x : St) (C : Int32) : Option (Int32 × St) := bd (f_X9_take x C) (fun v5 σ6 => if v5 = 0 then some (0, σ6) else bd (f_GT 64 5 σ6 0) (fun v35 σ36 => if v35 = 0 then some (0, σ36) else bd (f_X9_take σ36 20059) (fun v38 σ39 => if v38 = 0 then some (0, σ39) else some (1, σ39))))
theorem CP_K {ρ : Type} (x : St) (C : Int32) (J : Int32 → St → Option ρ) : bd (f_X9_take x C) (fun v5 σ6 => jn (fun (σ32 : St) => J 0 σ32) (fun (j33 : St → Option ρ) => (if v5 = 0 then j33 σ6 else bd (f_GT 64 5 σ6 0) (fun v35 σ36 => (if v35 = 0 then j33 σ36 else bd (f_X9_take σ36 20059) (fun v38 σ39 => (if v38 = 0 then j33 σ39 else J 1 σ39))))))) = bd (CP x C) J := by
  unfold CP
  cases h1 : f_X9_take x C with
  | none => rfl
  | some q =>
    obtain ⟨v5, σ6⟩ := q
    rw [bdE, bdE, jnE]
    by_cases c1 : v5 = 0
    · rw [if_pos c1, if_pos c1, bdE]
    · rw [if_neg c1, if_neg c1]
      cases h2 : f_GT 64 5 σ6 0 with
      | none => rfl
      | some q =>
        obtain ⟨v, σ⟩ := q
        rw [bdE, bdE]
        by_cases c2 : v = 0
        · rw [if_pos c2, if_pos c2, bdE]
        · rw [if_neg c2, if_neg c2]
          cases h3 : f_X9_take σ 20059 with
          | none => rfl
          | some q =>
            obtain ⟨w, τ⟩ := q
            rw [bdE, bdE]
            by_cases c3 : w = 0
            · rw [if_pos c3, if_pos c3, bdE]
            · rw [if_neg c3, if_neg c3, bdE]
def LSp (B : Nat → Int32) (n : Nat) (rx : Option (Int32 × St)) (rm : St → Option (Int32 × St)) (x : St) (p sz : Nat) : Prop :=
  ∃ ok x' p' sz' L, rx = some (ok, x') ∧ (ok = 0 ∨ ok = 1) ∧ FX x x' ∧ RX B n x' p' sz' ∧ (ok = 1 → sz' = sz + L.length ∧ p + L.length + 2 ≤ p' ∧ (∀ k, k < sz → x'.1 18 k = x.1 18 k) ∧ SO x' sz L) ∧
  ∀ j m, j < 6 → RM B n j m p 0 → SeatOk m → ∃ v m', rm m = some (v, m') ∧ FM m m' ∧ (ok = 0 → Bad B n m' p') ∧ (ok = 1 → RM B n j m' p' 0 ∧ Ev (eM m) L v)
theorem part_ls {C : Int32} {W : Int64} {i p sz : Nat} {x : St} (hn : n ≤ 160) (hB : ∀ i, i < n → ∃ c, c < 256 ∧ B i = nI c) (hi : i < 11) (hC : C = nI (10000 + i)) (hW : W = Wv.getD i 0) (hX : RX B n x p sz) (hsz : sz ≤ p) : LSp B n (CP x C) (fun m => f_X12_part m W) x p sz := by
  have hpn := hX.2.2.2.2.2.2.2
  have hx4 := hX.2.2.1
  have hC1 : C ≠ -1 := fun e => by rw [hC] at e; exact n1 _ (by omega) e.symm
  have hC2 : C ≠ -2 := fun e => by rw [hC] at e; exact n2 _ (by omega) e.symm
  unfold CP f_X9_take
  rw [nmE, hx4]
  -- the model behind a fault
  have mbad : ∀ (v : Int32) (m : St), m.1 0 24 = 1 → (bp (f_X12_isSign m 59) (fun v11 => jn (fun (σ12 : St) => nm (σ12.1 0 24) (fun v14 => (if v14 = 0 then bdv (f_X12_next σ12) (fun σ16 => some (v, σ16)) else some (v, σ12)))) (fun (j13 : St → Option (Int32 × St)) => (if v11 = 0 then bdv (f_X12_fail m) (fun σ18 => j13 σ18) else j13 m)))) = some (v, m) := fun v m hb => by
    rw [isSignB _ hb, bpE, jnE, if_pos rfl, failB hb, bdvE]
    dsimp only
    rw [nmE, hb, if_neg ne10]
  by_cases c1 : (tk B n p).1 = C
  · obtain ⟨hn1, hn2⟩ := codeN c1 hC1 hC2
    obtain ⟨x1, a1, a2, a3, a4, a5⟩ := rxNext hn hX hn1
    obtain ⟨ok, x2, p2, sz2, L2, b1, b2, b3, b4, b5, b6, b7⟩ := (ls_all hn hB 64).2.2.2.2.2 _ 0 x1 sz a3 (by omega) (by omega) (by omega)
    have hp2n := b4.2.2.2.2.2.2.2
    have hx24 := b4.2.2.1
    rw [show nI 0 = 0 from rfl] at b1
    rw [if_pos c1, a1, bdvE, bdE, if_neg ne10, b1, bdE]
    have hmod : ∀ j m m1 v m2, RM B n j m p 0 → RM B n j m1 (tk B n p).2.2 0 → f_X12_next m = some m1 → f_GM 64 5 m1 = some (v, m2) → f_X12_part m W = bp (f_X12_isSign m2 59) (fun v11 => jn (fun (σ12 : St) => nm (σ12.1 0 24) (fun v14 => (if v14 = 0 then bdv (f_X12_next σ12) (fun σ16 => some (v, σ16)) else some (v, σ12)))) (fun (j13 : St → Option (Int32 × St)) => (if v11 = 0 then bdv (f_X12_fail m2) (fun σ18 => j13 σ18) else j13 m2))) := by
      intro j m m1 v m2 hM hM1 d1 f1
      unfold f_X12_part
      rw [isWordE (C := C) (i := i) hi hW hC hM.2.1 hM.2.2.2.1, bpE, if_pos c1, jnE, if_neg ne10]
      dsimp only
      rw [nmE, hM.2.1, jnE, if_pos rfl, d1, bdvE]
      dsimp only
      rw [nmE, hM1.2.1, jnE, if_pos rfl, f1, bdE]
    rcases b2 with rfl | rfl
    · rw [if_pos rfl]
      refine ⟨0, x2, p2, sz2, [], rfl, Or.inl rfl, a2.trans b3, b4, fun h => absurd h (by decide), fun j m hj hM hs => ?_⟩
      obtain ⟨m1, d1, d2, d3⟩ := rmNext hn hB hj hpn hM hn1 hn2
      obtain ⟨v, m2, f1, f2, f3, f4⟩ := b7 j m1 hj d3 (d2.seat hs)
      exact ⟨v, m2, by dsimp only; rw [hmod j m m1 v m2 hM d3 d1 f1, mbad v m2 (f3 rfl).1], d2.trans f2, f3, fun h => absurd h (by decide)⟩
    · obtain ⟨g1, g2, g3, g4, g5⟩ := b6 rfl
      rw [if_neg ne10, nmE, hx24]
      by_cases c2 : (tk B n p2).1 = 20059
      · obtain ⟨hm1, hm2⟩ := codeN c2 (by decide) (by decide)
        obtain ⟨x3, k1, k2, k3, k4, k5⟩ := rxNext hn b4 hm1
        rw [if_pos c2, k1, bdvE, bdE, if_neg ne10]
        refine ⟨1, x3, (tk B n p2).2.2, sz2, L2, rfl, Or.inr rfl, (a2.trans b3).trans k2, k3, fun _ => ⟨g1, by omega, fun k hk => by rw [k4, g4 k hk, a4], g5.cg (fun k _ => by rw [k4])⟩, fun j m hj hM hs => ?_⟩
        obtain ⟨m1, d1, d2, d3⟩ := rmNext hn hB hj hpn hM hn1 hn2
        obtain ⟨v, m2, f1, f2, f3, f4⟩ := b7 j m1 hj d3 (d2.seat hs)
        obtain ⟨f5, f6⟩ := f4 rfl
        rw [d2.env] at f6
        obtain ⟨m3, l1, l2, l3⟩ := rmNext hn hB hj hp2n f5 hm1 hm2
        refine ⟨v, m3, ?_, (d2.trans f2).trans l2, fun h => absurd h (by decide), fun _ => ⟨l3, f6⟩⟩
        dsimp only
        rw [hmod j m m1 v m2 hM d3 d1 f1, isSignE (S := 59) (C := 20059) (s := 59) rfl rfl (by omega) f5.2.1 f5.2.2.2.1, bpE, if_pos c2, jnE, if_neg ne10]
        dsimp only
        rw [nmE, f5.2.1, if_pos rfl, l1, bdvE]
      · rw [if_neg c2, bdE, if_pos rfl]
        refine ⟨0, x2, p2, sz2, [], rfl, Or.inl rfl, a2.trans b3, b4, fun h => absurd h (by decide), fun j m hj hM hs => ?_⟩
        obtain ⟨m1, d1, d2, d3⟩ := rmNext hn hB hj hpn hM hn1 hn2
        obtain ⟨v, m2, f1, f2, f3, f4⟩ := b7 j m1 hj d3 (d2.seat hs)
        obtain ⟨f5, f6⟩ := f4 rfl
        obtain ⟨m3, l1, l2, l3, l4⟩ := failE f5
        refine ⟨v, m3, ?_, (d2.trans f2).trans l2, fun _ => l3, fun h => absurd h (by decide)⟩
        dsimp only
        rw [hmod j m m1 v m2 hM d3 d1 f1, isSignE (S := 59) (C := 20059) (s := 59) rfl rfl (by omega) f5.2.1 f5.2.2.2.1, bpE, if_neg c2, jnE, if_pos rfl, l1, bdvE]
        dsimp only
        rw [nmE, l3.1, if_neg ne10]
  · rw [if_neg c1, bdE, if_pos rfl]
    refine ⟨0, x, p, sz, [], rfl, Or.inl rfl, FX.rfl' x, hX, fun h => absurd h (by decide), fun j m hj hM hs => ?_⟩
    obtain ⟨m1, q1, q2, q3, _⟩ := failE hM
    refine ⟨0, m1, ?_, q2, fun _ => q3, fun h => absurd h (by decide)⟩
    dsimp only
    unfold f_X12_part
    rw [isWordE (C := C) (i := i) hi hW hC hM.2.1 hM.2.2.2.1, bpE, if_neg c1, jnE, if_pos rfl, q1, bdvE]
    dsimp only
    rw [nmE, q3.1, jnE, if_neg ne10]
    dsimp only
    rw [nmE, q3.1, jnE, if_neg ne10]
    exact mbad 0 m1 q3.1
end TXT
/-- the model's reading from its head on -/
def rdRest (which : Int32) (σ17 : St) : Option (Int32 × St) := bd (f_X12_part σ17 144941) (fun v18 σ19 => nm (σ19.1 0 24) (fun v20 => jn (fun (t21 : Int32) (σ22 : St) => nm (σ22.1 0 24) (fun v24 => jn (fun (σ25 : St) => (if which = 0 then some (v18, σ25) else some (t21, σ25))) (fun (j26 : St → Option (Int32 × St)) => (if v24 = 0 then nm (σ22.1 0 19) (fun v29 => (if v29 = 0 then j26 σ22 else bdv (f_X12_fail σ22) (fun σ31 => j26 σ31))) else j26 σ22)))) (fun (j23 : Int32 → St → Option (Int32 × St)) => (if v20 = 0 then bd (f_X12_part σ19 91888) (fun v33 σ34 => j23 v33 σ34) else j23 0 σ19))))
theorem read_head {B : Nat → Int32} {n j : Nat} {m : St} {r seat speed stroke which : Int32} (hj : j < 6) (h1 : ∀ i, i < n → m.1 1 (160 * j + i) = B i) (h2 : m.1 2 j = nI n) (hr : r = -1 ∨ ∃ i, i < 16 ∧ r = nI i) (hs : ∃ k, k < 8 ∧ seat = nI k) : ∃ m1, f_X12_read m (nI j) r seat speed stroke which = bdv (f_X12_next m1) (fun σ17 => rdRest which σ17) ∧ MB B n j m1 ∧ m1.1 0 22 = nI 0 ∧ m1.1 0 23 = nI 0 ∧ m1.1 0 24 = 0 ∧ eM m1 = envM m r seat speed stroke ∧ SeatOk m1 ∧ (∀ c, c ≠ 0 → m1.1 c = m.1 c) ∧ (∀ i, i < 17 ∨ 30 < i → m1.1 0 i = m.1 0 i) ∧ m1.2 = m.2 := by
  have e160 : (160 : Int32) * nI j = nI (160 * j) := by rw [show (160 : Int32) = nI 160 from rfl, mul_nI 160 j (by omega) (by omega) (by omega)]
  have core : ∀ t1 t4 : Int32, t1 = (if r = -1 then 0 else m.1 5 r.toNatClampNeg) → t4 = (if r = -1 then 0 else m.1 13 r.toNatClampNeg) → ∃ m1, (nm (sI m 0 26 t1) (fun σ3 => nm (sI σ3 0 27 t4) (fun σ6 => nm (sI σ6 0 28 seat) (fun σ7 => nm (sI σ7 0 29 speed) (fun σ8 => nm (sI σ8 0 30 stroke) (fun σ9 => nm (sI σ9 0 17 (160 * nI j)) (fun σ10 => gd (inb (nI j) 6) (nm (σ10.1 2 (Int32.toNatClampNeg (nI j))) (fun v12 => nm (sI σ10 0 18 v12) (fun σ13 => nm (sI σ13 0 22 0) (fun σ14 => nm (sI σ14 0 23 0) (fun σ15 => nm (sI σ15 0 24 0) (fun σ16 => bdv (f_X12_next σ16) (fun σ17 => rdRest which σ17)))))))))))))) = bdv (f_X12_next m1) (fun σ17 => rdRest which σ17) ∧ MB B n j m1 ∧ m1.1 0 22 = nI 0 ∧ m1.1 0 23 = nI 0 ∧ m1.1 0 24 = 0 ∧ eM m1 = envM m r seat speed stroke ∧ SeatOk m1 ∧ (∀ c, c ≠ 0 → m1.1 c = m.1 c) ∧ (∀ i, i < 17 ∨ 30 < i → m1.1 0 i = m.1 0 i) ∧ m1.2 = m.2 := by
    intro t1 t4 ht1 ht4
    simp only [nmE, gdN hj (show 6 ≤ 1000000 by omega), clampN (show j < 1000000 by omega), e160]
    have hcell : ∀ c, c ≠ 0 → ∀ (a b c' d e f' : Int32), (sI (sI (sI (sI (sI (sI m 0 26 a) 0 27 b) 0 28 c') 0 29 d) 0 30 e) 0 17 f').1 c = m.1 c := fun c hc a b c' d e f' => by
      simp only [sI_ro _ 0 _ _ c hc]
    refine ⟨_, rfl, ⟨?_, ?_, fun i hi => ?_⟩, ?_, ?_, ?_, ?_, ?_, fun c hc => ?_, fun i hi => ?_, rfl⟩
    · simp [sI_rd]
    · simp [sI_rd]; exact h2
    · rw [sI_ro _ 0 _ _ 1 (by omega), sI_ro _ 0 _ _ 1 (by omega), sI_ro _ 0 _ _ 1 (by omega), sI_ro _ 0 _ _ 1 (by omega), hcell 1 (by omega)]; exact h1 i hi
    · simp [sI_rd]; rfl
    · simp [sI_rd]; rfl
    · simp [sI_rd]
    · funext k
      unfold eM envM
      simp [sI_rd, ht1, ht4]
    · obtain ⟨k, hk, e⟩ := hs
      exact ⟨k, hk, by simp [sI_rd]; exact e⟩
    · simp only [sI_ro _ 0 _ _ c hc]
    · have a1 : i ≠ 17 := by omega
      have a2 : i ≠ 18 := by omega
      have a3 : i ≠ 22 := by omega
      have a4 : i ≠ 23 := by omega
      have a5 : i ≠ 24 := by omega
      have a6 : i ≠ 26 := by omega
      have a7 : i ≠ 27 := by omega
      have a8 : i ≠ 28 := by omega
      have a9 : i ≠ 29 := by omega
      have a10 : i ≠ 30 := by omega
      simp [sI_rd, a1, a2, a3, a4, a5, a6, a7, a8, a9, a10]
  unfold f_X12_read
  rw [jnE]
  rcases hr with rfl | ⟨i, hi, rfl⟩
  · rw [if_pos rfl]
    obtain ⟨m1, q1, q2⟩ := core 0 0 (by rw [if_pos rfl]) (by rw [if_pos rfl])
    refine ⟨m1, ?_, q2⟩
    rw [← q1]
    simp only [nmE, jnE, if_true]
    rfl
  · have hne : ¬ nI i = -1 := nI_nem (by omega)
    rw [if_neg hne, gdN hi (by omega)]
    obtain ⟨m1, q1, q2⟩ := core (m.1 5 i) (m.1 13 i) (by rw [if_neg hne, clampN (by omega)]) (by rw [if_neg hne, clampN (by omega)])
    refine ⟨m1, ?_, q2⟩
    rw [← q1]
    simp only [nmE, jnE, if_neg hne, gdN hi (show 16 ≤ 1000000 by omega), clampN (show i < 1000000 by omega), sI_ro _ 0 _ _ 13 (show 13 ≠ 0 by omega)]
    rfl

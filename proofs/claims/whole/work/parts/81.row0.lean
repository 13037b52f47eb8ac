/-! A TEXT that was read: what the model finds in it is what the steps come to -/
def envM (m : St) (r seat speed stroke : Int32) (k : Nat) : Int32 := if k = 0 then (if r = -1 then 0 else m.1 5 r.toNatClampNeg) else if k = 1 then (if r = -1 then 0 else m.1 13 r.toNatClampNeg) else if k = 2 then seat else if k = 3 then m.1 10 seat.toNatClampNeg else if k = 4 then speed else stroke
def RdOk (B : Nat → Int32) (n : Nat) (L1 L2 : List Int32) : Prop := ∀ (m : St) (j : Nat) (r seat speed stroke which : Int32), j < 6 → (∀ i, i < n → m.1 1 (160 * j + i) = B i) → m.1 2 j = nI n → (r = -1 ∨ ∃ i, i < 16 ∧ r = nI i) → (∃ k, k < 8 ∧ seat = nI k) → ∃ v1 v2 m', f_X12_read m (nI j) r seat speed stroke which = some (if which = 0 then v1 else v2, m') ∧ (∀ c, c ≠ 0 → m'.1 c = m.1 c) ∧ (∀ i, i < 17 ∨ 30 < i → m'.1 0 i = m.1 0 i) ∧ (∀ c, c ≠ 0 → m'.2.1 c = m.2.1 c) ∧ (∀ i, i ≠ 21 → m'.2.1 0 i = m.2.1 0 i) ∧ Ev (envM m r seat speed stroke) L1 v1 ∧ Ev (envM m r seat speed stroke) L2 v2
def PAt (B : Nat → Int32) (n : Nat) (S : Nat → Int32) (len : Nat) (half : Int32) : Prop := ∃ L1 L2, L1.length + L2.length = len ∧ len ≤ 160 ∧ half = nI L1.length ∧ (∀ k, k < len → S k = (L1 ++ L2).getD k 0) ∧ RdOk B n L1 L2
/-- what stays in a row -/
def RS (nc nr tc rid : Nat) (x m : St) : Prop := ICrew nr x m ∧ sidesOk (x.1 8) (m.1 9) ∧ gearsOk (x.1 9) (m.1 10) ∧ (x.1 6 3 = m.1 0 15 ∧ rng (m.1 0 15) 1 999) ∧ (x.1 6 4 = m.1 0 16 ∧ rng (m.1 0 16) (-99) 99) ∧ seatsOk nr (x.1 32) (m.1 8) ∧ (nc = 66 + 2 * tc ∧ tc ≤ 6 ∧ rid < tc) ∧ m.1 0 4 = nI rid ∧ x.2.2.1 31 2 = some (66 + 2 * rid) ∧ (∃ n, n ≤ 160 ∧ m.1 2 rid = nI n ∧ PAt (fun i => m.1 1 (160 * rid + i)) n (x.1 (67 + 2 * rid)) (x.2.2.2 (67 + 2 * rid)) (x.1 (66 + 2 * rid) 1)) ∧ x.1 31 7 = wAcc (m.1 8) (m.1 4) 8 + 200
/-- what goes on in a row -/
def RD (nr c : Nat) (x m : St) : Prop := (∀ i, i < nr → x.1 36 i = m.1 13 i ∧ rng (m.1 13 i) 0 9999) ∧ (x.1 31 10 = m.1 0 36 ∧ rng (m.1 0 36) 0 99999) ∧ (x.1 31 8 = nI c ∧ m.1 0 41 = nI c) ∧ (x.2.1 31 11 = m.2.1 0 37 ∧ 0 ≤ (m.2.1 0 37).toInt ∧ (m.2.1 0 37).toInt ≤ 99999 * c) ∧ x.2.1 31 12 = m.2.1 0 38 ∧ x.2.1 31 13 = m.2.1 0 39 ∧ x.2.1 31 14 = m.2.1 0 40
theorem RS.cg {nc nr tc rid : Nat} {x m x' m' : St} (h : RS nc nr tc rid x m) (hx : ∀ k, k < 31 ∨ k = 32 ∨ 36 < k → x'.1 k = x.1 k) (hx7 : x'.1 31 7 = x.1 31 7) (hx2 : x'.2.2 = x.2.2) (hm : ∀ k, k ≠ 0 → k ≠ 13 → m'.1 k = m.1 k) (hm0 : ∀ j, j < 17 → m'.1 0 j = m.1 0 j) : RS nc nr tc rid x' m' := by
  obtain ⟨a1, a2, a3, a4, a5, a6, a7, a8, a9, ⟨n, b1, b2, b3⟩, a11⟩ := h
  refine ⟨a1.cg (fun k p q => hx k (by omega)) (hm0 11 (by omega)) (fun k p q => hm k (by omega) (by omega)), ?_, ?_, ?_, ?_, ?_, a7, ?_, ?_, ⟨n, b1, ?_, ?_⟩, ?_⟩
  · rw [hx 8 (by omega), hm 9 (by omega) (by omega)]; exact a2
  · rw [hx 9 (by omega), hm 10 (by omega) (by omega)]; exact a3
  · rw [hx 6 (by omega), hm0 15 (by omega)]; exact a4
  · rw [hx 6 (by omega), hm0 16 (by omega)]; exact a5
  · rw [hx 32 (by omega), hm 8 (by omega) (by omega)]; exact a6
  · rw [hm0 4 (by omega)]; exact a8
  · rw [hx2]; exact a9
  · rw [hm 2 (by omega) (by omega)]; exact b2
  · rw [hm 1 (by omega) (by omega), hx _ (by omega), hx _ (by omega), hx2]; exact b3
  · rw [hx7, hm 8 (by omega) (by omega), hm 4 (by omega) (by omega)]; exact a11
theorem shRule {rid : Nat} : shX (66 + 2 * rid) = (0, 6) := by
  unfold shX
  rw [if_neg (by omega), if_pos (by omega)]
theorem c0N : Int32.toNatClampNeg 0 = 0 := rfl
/-- the six names of a rower in a seat -/
theorem names_eq {nr k : Nat} {x m : St} {r : Int32} (h1 : ICrew nr x m) (h3 : gearsOk (x.1 9) (m.1 10)) (hs : ∀ i, i < nr → x.1 36 i = m.1 13 i ∧ rng (m.1 13 i) 0 9999) (hk : k < 8) (hr : r = -1 ∨ ∃ i, i < nr ∧ r = nI i) : ∃ x', f_X1_nameAll x (nI k) r = some x' ∧ (∀ c, c ≠ 34 → x'.1 c = x.1 c) ∧ x'.2 = x.2 ∧ ∀ q, q < 6 → x'.1 34 q = envM m r (nI k) (x.1 31 10) (x.1 31 8) q := by
  obtain ⟨r1, r2, r3, r4⟩ := h1
  unfold f_X1_nameAll
  rw [xRower r1 r2, bpE, jnE]
  have core : ∀ t t' : Int32, ∃ x', (gd (inb 0 6) (nm (sI x 34 (Int32.toNatClampNeg 0) t) (fun σ5 => gd (inb 1 6) (nm (sI σ5 34 (Int32.toNatClampNeg 1) t') (fun σ9 => gd (inb 2 6) (nm (sI σ9 34 (Int32.toNatClampNeg 2) (nI k)) (fun σ11 => gd (inb (nI k) 8) (nm (σ11.1 9 (Int32.toNatClampNeg (nI k))) (fun v13 => gd (inb 3 6) (nm (sI σ11 34 (Int32.toNatClampNeg 3) v13) (fun σ15 => nm (σ15.1 31 10) (fun v16 => gd (inb 4 6) (nm (sI σ15 34 (Int32.toNatClampNeg 4) v16) (fun σ18 => nm (σ18.1 31 8) (fun v19 => gd (inb 5 6) (nm (sI σ18 34 (Int32.toNatClampNeg 5) v19) (fun σ21 => some σ21)))))))))))))))) : Option St) = some x' ∧ (∀ c, c ≠ 34 → x'.1 c = x.1 c) ∧ x'.2 = x.2 ∧ x'.1 34 0 = t ∧ x'.1 34 1 = t' ∧ x'.1 34 2 = nI k ∧ x'.1 34 3 = x.1 9 k ∧ x'.1 34 4 = x.1 31 10 ∧ x'.1 34 5 = x.1 31 8 := by
    intro t t'
    have i0 : inb 0 6 := by decide
    have i1 : inb 1 6 := by decide
    have i2 : inb 2 6 := by decide
    have i3 : inb 3 6 := by decide
    have i4 : inb 4 6 := by decide
    have i5 : inb 5 6 := by decide
    have c1 : Int32.toNatClampNeg 1 = 1 := rfl
    have c2 : Int32.toNatClampNeg 2 = 2 := rfl
    have c3 : Int32.toNatClampNeg 3 = 3 := rfl
    have c4 : Int32.toNatClampNeg 4 = 4 := rfl
    have c5 : Int32.toNatClampNeg 5 = 5 := rfl
    simp only [gd_pos i0, gd_pos i1, gd_pos i2, gd_pos i3, gd_pos i4, gd_pos i5, nmE, c0N, c1, c2, c3, c4, c5, gdN hk (show 8 ≤ 1000000 by omega), clampN (show k < 1000000 by omega)]
    refine ⟨_, rfl, fun c hc => ?_, rfl, ?_, ?_, ?_, ?_, ?_, ?_⟩
    · simp only [sI_ro _ 34 _ _ c hc]
    all_goals simp [sI_rd]
  have he : x.1 9 k = m.1 10 k := (h3 k hk).1
  rcases hr with rfl | ⟨i, hi, rfl⟩
  · have hb : ¬ (0 ≤ (-1 : Int32).toInt ∧ (-1 : Int32).toInt ≤ (nr : Int) - 1) := by
      rw [show (-1 : Int32).toInt = -1 from rfl]; omega
    obtain ⟨x', q1, q2, q3, q4, q5, q6, q7, q8, q9⟩ := core 0 0
    simp only [iz_neg hb, if_true, jnE]
    refine ⟨x', q1, q2, q3, fun q hq => ?_⟩
    unfold envM
    rw [clampN (by omega)]
    match q, hq with
    | 0, _ => simp [q4]
    | 1, _ => simp [q5]
    | 2, _ => simp [q6]
    | 3, _ => simp [q7, he]
    | 4, _ => simp [q8]
    | 5, _ => simp [q9]
  · have hb : 0 ≤ (nI i).toInt ∧ (nI i).toInt ≤ (nr : Int) - 1 := by rw [nI_rng (by omega)]; omega
    have hne : ¬ nI i = -1 := nI_nem (by omega)
    obtain ⟨x', q1, q2, q3, q4, q5, q6, q7, q8, q9⟩ := core (x.1 3 i) (x.1 36 i)
    simp only [iz_pos hb, if_neg ne10, jnE, gdN (show i < 16 by omega) (show 16 ≤ 1000000 by omega), nmE, clampN (show i < 1000000 by omega), sI_ro _ 34 _ _ 36 (show 36 ≠ 34 by omega)]
    simp only [nmE] at q1
    refine ⟨x', q1, q2, q3, fun q hq => ?_⟩
    unfold envM
    rw [clampN (by omega), clampN (by omega)]
    match q, hq with
    | 0, _ => simp [q4, hne, (r4 i hi).1.2.1]
    | 1, _ => simp [q5, hne, (hs i hi).1]
    | 2, _ => simp [q6]
    | 3, _ => simp [q7, he]
    | 4, _ => simp [q8]
    | 5, _ => simp [q9]
theorem foldl_est_cg {e e' : Nat → Int32} (h : ∀ k, k < 6 → e k = e' k) : ∀ (L : List Int32) (q : Int32 × List Int32), L.foldl (est e) q = L.foldl (est e') q := by
  intro L
  induction L with
  | nil => intro q; rfl
  | cons a L ih =>
    intro q
    rw [List.foldl_cons, List.foldl_cons, est_cg h q a]
    exact ih _
/-- what a text says of a rower in a seat: the class's steps and the model's reading -/
theorem says {nc nr tc rid c k : Nat} {x m : St} {r : Int32} (hS : RS nc nr tc rid x m) (hD : RD nr c x m) (hk : k < 8) (hr : r = -1 ∨ ∃ i, i < nr ∧ r = nI i) : ∃ v1 v2 x0, f_X1_nameAll x (nI k) r = some x0 ∧ x0.2 = x.2 ∧ (∃ x1, f_X6_valueOf x0 (66 + 2 * rid) 1 = some (v1, x1) ∧ (∀ c, c ≠ 34 → c ≠ 35 → x1.1 c = x.1 c) ∧ x1.2 = x.2) ∧ (∃ x2, f_X6_valueOf x0 (66 + 2 * rid) 0 = some (v2, x2) ∧ (∀ c, c ≠ 34 → c ≠ 35 → x2.1 c = x.1 c) ∧ x2.2 = x.2) ∧ ∀ which : Int32, ∃ m', f_X12_read m (nI rid) r (nI k) (m.1 0 36) (nI c) which = some (if which = 0 then v1 else v2, m') ∧ (∀ c, c ≠ 0 → m'.1 c = m.1 c) ∧ (∀ i, i < 17 ∨ 30 < i → m'.1 0 i = m.1 0 i) ∧ (∀ c, c ≠ 0 → m'.2.1 c = m.2.1 c) ∧ (∀ i, i ≠ 21 → m'.2.1 0 i = m.2.1 0 i) := by
  obtain ⟨a1, a2, a3, a4, a5, a6, a7, a8, a9, ⟨n, b1, b2, L1, L2, l1, l2, l3, l4, l5⟩, a11⟩ := hS
  obtain ⟨d1, ⟨d2, d2'⟩, ⟨d3, d3'⟩, d4⟩ := hD
  obtain ⟨x0, n1, n2, n3, n4⟩ := names_eq a1 a3 d1 hk hr
  have hr16 : r = -1 ∨ ∃ i, i < 16 ∧ r = nI i := hr.imp id (fun ⟨i, hi, e⟩ => ⟨i, by have := a1.1; omega, e⟩)
  have rd := fun which => l5 m rid r (nI k) (m.1 0 36) (nI c) which (by omega) (fun _ _ => rfl) b2 hr16 ⟨k, hk, rfl⟩
  obtain ⟨v1, v2, m', e1, e2, e3, e4, e5, e6, e7⟩ := rd 0
  have cgE : ∀ (L : List Int32) (v : Int32), Ev (envM m r (nI k) (m.1 0 36) (nI c)) L v → Ev (fun q => x0.1 34 q) L v := by
    intro L v h last stk
    rw [← h last stk]
    exact foldl_est_cg (fun q hq => by rw [n4 q hq, d2, d3]) L _
  obtain ⟨⟨x1, f1, f2, f3⟩, ⟨x2, f4, f5, f6⟩⟩ := val_all (cr := 66 + 2 * rid) (σ := x0) (env := fun q => x0.1 34 q) (by omega) l2 l1 (by rw [n2 _ (by omega)]; exact l3) (by rw [n3, show 66 + 2 * rid + 1 = 67 + 2 * rid by omega]) (fun q hq => by rw [n2 _ (by omega), show 66 + 2 * rid + 1 = 67 + 2 * rid by omega]; exact l4 q hq) (fun _ _ => rfl) (cgE L1 v1 e6) (cgE L2 v2 e7)
  refine ⟨v1, v2, x0, n1, n3, ⟨x1, f1, fun c a b => by rw [f2 c b, n2 c a], by rw [f3, n3]⟩, ⟨x2, f4, fun c a b => by rw [f5 c b, n2 c a], by rw [f6, n3]⟩, fun which => ?_⟩
  obtain ⟨u1, u2, m'', g1, g2, g3, g4, g5, g6, g7⟩ := rd which
  have hu1 : u1 = v1 := by
    have h1 := g6 0 []
    have h2 := e6 0 []
    rw [h1] at h2
    exact (Prod.mk.inj h2).1
  have hu2 : u2 = v2 := by
    have h1 := g7 0 []
    have h2 := e7 0 []
    rw [h1] at h2
    exact (Prod.mk.inj h2).1
  exact ⟨m'', by rw [g1, hu1, hu2], g2, g3, g4, g5⟩

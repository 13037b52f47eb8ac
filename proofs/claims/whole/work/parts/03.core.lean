/-! THE STATE: ints, longs, changing references, lengths of arrays that were made later; by cell and place -/
abbrev St : Type := (Nat → Nat → Int32) × (Nat → Nat → Int64) × (Nat → Nat → Option Nat) × (Nat → Nat)
def sI (σ : St) (k j : Nat) (v : Int32) : St := (va_up σ.1 k (upd (σ.1 k) j v), σ.2)
def sL (σ : St) (k j : Nat) (v : Int64) : St := (σ.1, va_up σ.2.1 k (vp_updL (σ.2.1 k) j v), σ.2.2)
def sR (σ : St) (k j : Nat) (v : Option Nat) : St := (σ.1, σ.2.1, va_up σ.2.2.1 k (va_up (σ.2.2.1 k) j v), σ.2.2.2)
def sA (σ : St) (k : Nat) (f : Nat → Int32) : St := (va_up σ.1 k f, σ.2)
/-- programs: named values, guards, joins, calls -/
def nm {α ρ : Type} (e : α) (K : α → Option ρ) : Option ρ := K e
def gd {ρ : Type} (c : Prop) [Decidable c] (P : Option ρ) : Option ρ := if c then P else none
def jn {α ρ : Type} (J : α) (B : α → Option ρ) : Option ρ := B J
def bd {α ρ : Type} (f : Option (α × St)) (K : α → St → Option ρ) : Option ρ := match f with
  | none => none
  | some q => K q.1 q.2
def bdv {ρ : Type} (f : Option St) (K : St → Option ρ) : Option ρ := match f with
  | none => none
  | some q => K q
abbrev classes : List vw_C := [(RX0, TX0, 5), (RX1, TX1, 15), (RX2, TX2, 5), (RX2, TX2, 5), (RX4, TX4, 4), (RX5, TX5, 2), (RX6, TX6, 2), (RX7, TX7, 3), (RX8, TX8, 2), (RX9, TX9, 7), (RX10, TX10, 8), (RX11, TX11, 16), (RX12, TX12, 63)]
/-- how many fields an object of a class has -/
def nfd (ci : Nat) : Nat := ([5, 15, 5, 0, 4, 2, 2, 3, 2, 7, 8, 16, 63] : List Nat).getD ci 0
/-- a field's sort: 0 int, 1 long, 2 a reference that stays, 3 one that changes, 4 boolean -/
def fkd (ci j : Nat) : Nat := (([[2, 2, 2, 0, 0], [2, 2, 3, 2, 2, 2, 2, 0, 0, 2, 0, 1, 1, 1, 1], [2, 2, 2, 2, 0], [], [2, 2, 2, 0], [2, 0], [2, 0], [2, 2, 2], [2, 0], [2, 2, 0, 0, 0, 0, 0], [2, 2, 2, 2, 0, 2, 0, 0], [2, 2, 2, 2, 0, 0, 2, 2, 2, 0, 0, 2, 2, 2, 2, 2], [0, 2, 2, 0, 0, 2, 0, 2, 2, 2, 2, 0, 2, 2, 2, 0, 0, 0, 0, 0, 0, 1, 0, 0, 4, 0, 0, 0, 0, 0, 0, 2, 2, 0, 2, 2, 0, 1, 1, 1, 1, 0, 2, 2, 2, 2, 0, 2, 2, 0, 2, 2, 2, 2, 4, 0, 0, 0, 0, 2, 2, 2, 2]] : List (List Nat)).getD ci []).getD j 0
/-- tables, array classes, shapes, static references, how many cells, addresses -/
abbrev Wd : Type := va_G × (Nat → ClassId) × (Nat → Nat × Nat) × (Nat → Nat → Option Nat) × Nat × (Nat → Nat) × (Nat → Nat) × (Nat → Nat)
def wD (w : Wd) : va_G := w.1
def wC (w : Wd) : Nat → ClassId := w.2.1
def wH (w : Wd) : Nat → Nat × Nat := w.2.2.1
def wR (w : Wd) : Nat → Nat → Option Nat := w.2.2.2.1
def wN (w : Wd) : Nat := w.2.2.2.2.1
def wA (w : Wd) : Nat → Nat := w.2.2.2.2.2.1
/-- the three String constants: objects, and their rows of bytes -/
def wK (w : Wd) : Nat → Nat := w.2.2.2.2.2.2.1
def wV (w : Wd) : Nat → Nat := w.2.2.2.2.2.2.2
def fval (w : Wd) (σ : St) (ci k j : Nat) : Value := match fkd ci j with
  | 0 => .int (σ.1 k j)
  | 1 => .long (σ.2.1 k j)
  | 2 => va_rf ((wR w k j).map (wA w))
  | 3 => va_rf ((σ.2.2.1 k j).map (wA w))
  | _ => .int (σ.1 k j)
def went (w : Wd) (σ : St) (k : Nat) : va_E := match wH w k with
  | (0, ci) => .inr (ci, (List.range (nfd ci)).map (fval w σ ci k))
  | (1, n) => .inl (wC w 0, n, .inl (σ.1 k))
  | (2, n) => .inl (wC w 1, n, .inl (σ.1 k))
  | (3, n) => .inl (wC w 2, n, .inl (σ.1 k))
  | (4, n) => .inl (wC w 3, n, .inr (.inl (σ.2.1 k)))
  | (5, n) => .inl (wC w 4, n, .inr (.inr (.inr (.inr (fun i => (wR w k i).map (wA w))))))
  | (6, n) => .inl (wC w 5, n, .inr (.inr (.inr (.inr (fun i => (σ.2.2.1 k i).map (wA w))))))
  | (_, _) => .inl (wC w 0, σ.2.2.2 k, .inl (σ.1 k))
def wls (w : Wd) (σ : St) : va_W := (List.range (wN w)).map (fun k => (wA w k, went w σ k))
def wty (w : Wd) : List (ClassId × FieldType) := [(wC w 0, .int), (wC w 1, .byte), (wC w 2, .boolean), (wC w 3, .long), (wC w 4, .array .int), (wC w 5, .object RX6)]
theorem wls_get {w : Wd} {σ : St} {k : Nat} (h : k < wN w) : (wls w σ)[k]? = some (wA w k, went w σ k) := by simp [wls, h]
theorem map_set {α : Type} (f : Nat → α) (n k : Nat) (v : α) : ((List.range n).map f).set k v = (List.range n).map (fun i => if i = k then v else f i) := by
  apply List.ext_getElem?
  intro i
  rw [List.getElem?_set]
  by_cases h : k = i
  · subst h
    by_cases hn : k < n <;> simp [hn]
  · have h2 : ¬ i = k := fun z => h z.symm
    by_cases hn : i < n <;> simp [hn, h, h2]
theorem map_get {α : Type} (f : Nat → α) {n k : Nat} (h : k < n) : ((List.range n).map f)[k]? = some (f k) := by simp [h]
theorem wls_set {w : Wd} {σ σ' : St} {k : Nat} {x : va_E} (hx : went w σ' k = x) (h : ∀ i, i ≠ k → went w σ' i = went w σ i) : (wls w σ).set k (wA w k, x) = wls w σ' := by
  unfold wls
  rw [map_set]
  apply List.map_congr_left
  intro i _
  by_cases hi : i = k
  · subst hi; simp [hx]
  · simp [hi, h i hi]
theorem wls_len {w : Wd} {σ : St} : (wls w σ).length = wN w := by simp [wls]
theorem went_congr {w : Wd} {σ σ' : St} {i : Nat} (h1 : σ'.1 i = σ.1 i) (h2 : σ'.2.1 i = σ.2.1 i) (h3 : σ'.2.2.1 i = σ.2.2.1 i) (h4 : σ'.2.2.2 i = σ.2.2.2 i) : went w σ' i = went w σ i := by
  unfold went
  split <;> simp [h1, h2, h3, h4, fval]
theorem sI_ne {w : Wd} {σ : St} {k j : Nat} {v : Int32} (i : Nat) (h : i ≠ k) : went w (sI σ k j v) i = went w σ i := went_congr (by simp [sI, va_up, h]) rfl rfl rfl
theorem sA_ne {w : Wd} {σ : St} {k : Nat} {f : Nat → Int32} (i : Nat) (h : i ≠ k) : went w (sA σ k f) i = went w σ i := went_congr (by simp [sA, va_up, h]) rfl rfl rfl
theorem sL_ne {w : Wd} {σ : St} {k j : Nat} {v : Int64} (i : Nat) (h : i ≠ k) : went w (sL σ k j v) i = went w σ i := went_congr rfl (by simp [sL, va_up, h]) rfl rfl
theorem sR_ne {w : Wd} {σ : St} {k j : Nat} {v : Option Nat} (i : Nat) (h : i ≠ k) : went w (sR σ k j v) i = went w σ i := went_congr rfl rfl (by simp [sR, va_up, h]) rfl
theorem went_0 {w : Wd} {σ : St} {k ci : Nat} (h : wH w k = (0, ci)) : went w σ k = .inr (ci, (List.range (nfd ci)).map (fval w σ ci k)) := by simp [went, h]
theorem went_1 {w : Wd} {σ : St} {k n : Nat} (h : wH w k = (1, n)) : went w σ k = .inl (wC w 0, n, .inl (σ.1 k)) := by simp [went, h]
theorem went_2 {w : Wd} {σ : St} {k n : Nat} (h : wH w k = (2, n)) : went w σ k = .inl (wC w 1, n, .inl (σ.1 k)) := by simp [went, h]
theorem went_3 {w : Wd} {σ : St} {k n : Nat} (h : wH w k = (3, n)) : went w σ k = .inl (wC w 2, n, .inl (σ.1 k)) := by simp [went, h]
theorem went_4 {w : Wd} {σ : St} {k n : Nat} (h : wH w k = (4, n)) : went w σ k = .inl (wC w 3, n, .inr (.inl (σ.2.1 k))) := by simp [went, h]
theorem went_5 {w : Wd} {σ : St} {k n : Nat} (h : wH w k = (5, n)) : went w σ k = .inl (wC w 4, n, .inr (.inr (.inr (.inr (fun i => (wR w k i).map (wA w)))))) := by simp [went, h]
theorem went_6 {w : Wd} {σ : St} {k n : Nat} (h : wH w k = (6, n)) : went w σ k = .inl (wC w 5, n, .inr (.inr (.inr (.inr (fun i => (σ.2.2.1 k i).map (wA w)))))) := by simp [went, h]
theorem went_7 {w : Wd} {σ : St} {k n : Nat} (h : wH w k = (7, n)) : went w σ k = .inl (wC w 0, σ.2.2.2 k, .inl (σ.1 k)) := by simp [went, h]
/-- an object's put: its list of fields is that of the new state -/
theorem fput {w : Wd} {σ σ' : St} {ci k j : Nat} {v : Value} (hj : fval w σ' ci k j = v) (h : ∀ i, i ≠ j → fval w σ' ci k i = fval w σ ci k i) : ((List.range (nfd ci)).map (fval w σ ci k)).set j v = (List.range (nfd ci)).map (fval w σ' ci k) := by
  rw [map_set]
  apply List.map_congr_left
  intro i _
  by_cases hi : i = j
  · subst hi; simp [hj]
  · simp [hi, h i hi]
theorem sI_fv {w : Wd} {σ : St} {ci k j : Nat} {v : Int32} (i : Nat) (h : i ≠ j) : fval w (sI σ k j v) ci k i = fval w σ ci k i := by
  unfold fval; split <;> simp [sI, va_up, upd, h]
theorem sL_fv {w : Wd} {σ : St} {ci k j : Nat} {v : Int64} (i : Nat) (h : i ≠ j) : fval w (sL σ k j v) ci k i = fval w σ ci k i := by
  unfold fval; split <;> simp [sL, va_up, vp_updL, h]
theorem sR_fv {w : Wd} {σ : St} {ci k j : Nat} {v : Option Nat} (i : Nat) (h : i ≠ j) : fval w (sR σ k j v) ci k i = fval w σ ci k i := by
  unfold fval; split <;> simp [sR, va_up, h]
theorem fv_0 {w : Wd} {σ : St} {ci k j : Nat} (h : fkd ci j = 0) : fval w σ ci k j = .int (σ.1 k j) := by simp [fval, h]
theorem fv_4 {w : Wd} {σ : St} {ci k j : Nat} (h : fkd ci j = 4) : fval w σ ci k j = .int (σ.1 k j) := by simp [fval, h]
theorem fv_1 {w : Wd} {σ : St} {ci k j : Nat} (h : fkd ci j = 1) : fval w σ ci k j = .long (σ.2.1 k j) := by simp [fval, h]
theorem fv_2 {w : Wd} {σ : St} {ci k j : Nat} (h : fkd ci j = 2) : fval w σ ci k j = va_rf ((wR w k j).map (wA w)) := by simp [fval, h]
theorem fv_3 {w : Wd} {σ : St} {ci k j : Nat} (h : fkd ci j = 3) : fval w σ ci k j = va_rf ((σ.2.2.1 k j).map (wA w)) := by simp [fval, h]
theorem sI_at (σ : St) (k j : Nat) (v : Int32) : (sI σ k j v).1 k j = v := by simp [sI, va_up, upd]
theorem sL_at (σ : St) (k j : Nat) (v : Int64) : (sL σ k j v).2.1 k j = v := by simp [sL, va_up, vp_updL]
theorem sR_at (σ : St) (k j : Nat) (v : Option Nat) : (sR σ k j v).2.2.1 k j = v := by simp [sR, va_up]
theorem sI_row (σ : St) (k j : Nat) (v : Int32) : (sI σ k j v).1 k = upd (σ.1 k) j v := by simp [sI, va_up]
theorem sA_row (σ : St) (k : Nat) (f : Nat → Int32) : (sA σ k f).1 k = f := by simp [sA, va_up]
theorem sL_row (σ : St) (k j : Nat) (v : Int64) : (sL σ k j v).2.1 k = vp_updL (σ.2.1 k) j v := by simp [sL, va_up]
theorem sR_row (σ : St) (k j : Nat) (v : Option Nat) : (sR σ k j v).2.2.1 k = va_up (σ.2.2.1 k) j v := by simp [sR, va_up]
/-! THE JUDGEMENT: the machine at a frame does what the program says -/
abbrev Mc : Type := Program × Launch × Env × Room × State × MethodId × Array Value × List Frame × Method × Code × Nat × Nat
def xs_ (X : Mc) : State := X.2.2.2.2.1
def xm_ (X : Mc) : MethodId := X.2.2.2.2.2.1
def WM (X : Mc) (H : Heap) (locs : List Loc) (Q : State → Prop) (g : JFrame) : Prop := W X.1 X.2.1 X.2.2.1 X.2.2.2.1 X.2.2.2.2.1 X.2.2.2.2.2.1 X.2.2.2.2.2.2.1 X.2.2.2.2.2.2.2.1 X.2.2.2.2.2.2.2.2.1 X.2.2.2.2.2.2.2.2.2.1 H locs X.2.2.2.2.2.2.2.2.2.2.1 X.2.2.2.2.2.2.2.2.2.2.2 Q g
def HWd (w : Wd) (S : Nat → Nat × Nat) (Rf : Nat → Nat → Option Nat) (N : Nat) : Prop := wH w = S ∧ wR w = Rf ∧ N ≤ wN w
theorem HWd.sh {w : Wd} {S : Nat → Nat × Nat} {Rf : Nat → Nat → Option Nat} {N : Nat} (h : HWd w S Rf N) {k : Nat} {q : Nat × Nat} (e : S k = q) : wH w k = q := by rw [h.1]; exact e
theorem HWd.rf {w : Wd} {S : Nat → Nat × Nat} {Rf : Nat → Nat → Option Nat} {N : Nat} (h : HWd w S Rf N) : wR w = Rf := h.2.1
theorem HWd.n {w : Wd} {S : Nat → Nat × Nat} {Rf : Nat → Nat → Option Nat} {N : Nat} (h : HWd w S Rf N) {k : Nat} (e : Nat.blt k N = true) : k < wN w := Nat.lt_of_lt_of_le (Nat.le_of_ble_eq_true e) h.2.2
def ClsOk (ci : Nat) (C : String) (T : u_T) (n : Nat) (ty : Nat → FieldType) : Prop := classes[ci]? = some (C, T, n) ∧ (∀ w ∈ u_ws C T n, w ∈ gw) ∧ nfd ci = n ∧ (∀ k, k < n → parseFieldDescriptor (T k).2.2.1 = some (ty k)) ∧ (∀ a, a < n → ∀ b, b < n → a ≠ b → (T a).2.1 ≠ (T b).2.1)
theorem ClsOk.cl {ci : Nat} {C : String} {T : u_T} {n : Nat} {ty : Nat → FieldType} (h : ClsOk ci C T n ty) : classes[ci]? = some (C, T, n) := h.1
theorem ClsOk.ws {ci : Nat} {C : String} {T : u_T} {n : Nat} {ty : Nat → FieldType} (h : ClsOk ci C T n ty) : ∀ w ∈ u_ws C T n, w ∈ gw := h.2.1
theorem ClsOk.nf {ci : Nat} {C : String} {T : u_T} {n : Nat} {ty : Nat → FieldType} (h : ClsOk ci C T n ty) : nfd ci = n := h.2.2.1
theorem ClsOk.ty {ci : Nat} {C : String} {T : u_T} {n : Nat} {ty : Nat → FieldType} (h : ClsOk ci C T n ty) : ∀ k, k < n → parseFieldDescriptor (T k).2.2.1 = some (ty k) := h.2.2.2.1
theorem ClsOk.nm {ci : Nat} {C : String} {T : u_T} {n : Nat} {ty : Nat → FieldType} (h : ClsOk ci C T n ty) : ∀ a, a < n → ∀ b, b < n → a ≠ b → (T a).2.1 ≠ (T b).2.1 := h.2.2.2.2
def slen : List Nat := [56, 8, 6]
def sbyt : List (List Int32) := [[102, 111, 114, 99, 101, 32, 115, 116, 111, 114, 101, 32, 115, 101, 97, 116, 32, 103, 101, 97, 114, 32, 115, 112, 101, 101, 100, 32, 115, 116, 114, 111, 107, 101, 32, 103, 105, 118, 101, 32, 100, 114, 97, 103, 32, 111, 114, 32, 97, 110, 100, 32, 110, 111, 116, 32], [40, 41, 59, 43, 45, 42, 60, 61], [114, 115, 120, 108, 119, 101]]
/-- what stands outside the world and stays: the String constants, two statics of the JDK -/
def Sx (w : Wd) (A : Nat → Prop) (U : State) (H : Heap) : Prop := vk_S 3 slen sbyt (wK w) (wV w) A U H ∧ (vk_R RX9 86 "force store seat gear speed stroke give drag or and not " (wK w 0) U ∧ vk_R RX9 79 "();+-*<=" (wK w 1) U ∧ vk_R RX4 58 "rsxlwe" (wK w 2) U) ∧ va_Z "java/lang/String" "COMPACT_STRINGS" "Z" (.int 1) A U H ∧ va_Zq "jdk/internal/util/Preconditions" "SIOOBE_FORMATTER" "Ljava/util/function/BiFunction;" A U H
theorem Sx.next {w : Wd} {A B : Nat → Prop} {s U : State} {H : Heap} {locs : List Loc} (h : Sx w A s s.heap) (hS : va_S A s.heap H locs) (hU : U.heap = H) (hW : s.WarmedH U.vm) (hAB : ∀ q, B q → A q) : Sx w B U U.heap := by
  rw [hU]
  obtain ⟨h1, ⟨h2, h3, h4⟩, h5, h6⟩ := h
  exact ⟨((h1.kept hS.2.1).moved hW.alike).narrow hAB, ⟨h2.warm hW, h3.warm hW, h4.warm hW⟩, ((h5.kept hS.2.1).moved hW.alike).narrow hAB, ((h6.kept hS.2.1).moved hW.alike).narrow hAB⟩
theorem Sx.same {w : Wd} {A : Nat → Prop} {u U : State} (hv : U.vm = u.vm) (hh : U.heap = u.heap) (h : Sx w A u u.heap) : Sx w A U U.heap := by
  rw [hh]
  have ha : u.vm.Alike U.vm := by rw [hv]; exact Vm.Alike.refl u.vm
  obtain ⟨h1, ⟨h2, h3, h4⟩, h5, h6⟩ := h
  exact ⟨h1.moved ha, ⟨h2.same hv, h3.same hv, h4.same hv⟩, h5.moved ha, h6.moved ha⟩
def Cok (X : Mc) (w : Wd) (A : Nat → Prop) (own : String) (cc : ByteArray) (nL fr lo : Nat) (S : Nat → Nat × Nat) (Rf : Nat → Nat → Option Nat) (N : Nat) : Prop :=
  CallFix X.1 X.2.2.2.2.2.1 X.2.2.2.2.2.2.2.2.2.1 cc nL X.2.2.2.2.1 X.2.2.2.2.2.2.1 gw own ∧ va_K (wD w) classes (wty w) X.2.2.2.2.1 ∧ (∀ q : Nat, X.2.2.2.2.1.heap.size ≤ q → A q) ∧ X.2.2.2.2.2.2.2.2.1.locks = false ∧ (∀ σ, va_D A (wls w σ)) ∧ (fr ≤ X.2.2.2.1.frames ∧ lo ≤ X.2.2.2.1.locals ∧ X.2.2.2.2.2.2.2.2.2.2.1 ≤ X.2.2.2.1.cells ∧ X.2.2.2.2.2.2.2.2.2.2.2 ≤ X.2.2.2.1.slots) ∧ HWd w S Rf N ∧ Sx w A X.2.2.2.2.1 X.2.2.2.2.1.heap
theorem Cok.n {X : Mc} {w : Wd} {A : Nat → Prop} {own : String} {cc : ByteArray} {nL fr lo : Nat} {S : Nat → Nat × Nat} {Rf : Nat → Nat → Option Nat} {N : Nat} (h : Cok X w A own cc nL fr lo S Rf N) {k : Nat} (e : Nat.blt k N = true) : k < wN w := h.2.2.2.2.2.2.1.n e
theorem Cok.w {X : Mc} {w : Wd} {A : Nat → Prop} {own : String} {cc : ByteArray} {nL fr lo : Nat} {S : Nat → Nat × Nat} {Rf : Nat → Nat → Option Nat} {N : Nat} (h : Cok X w A own cc nL fr lo S Rf N) : HWd w S Rf N := h.2.2.2.2.2.2.1
def RF (X : Mc) (w : Wd) (A : Nat → Prop) (nL : Nat) {ρ : Type} (Qf : ρ → State → Prop) (P : Option ρ) (pc : Nat) (lv : List (Nat × Value)) (st : List Value) (σ : St) : Prop :=
  ∀ res, P = some res → ∀ (H : Heap) (locs : List Loc) (ls : Array Slot), va_P (wD w) classes (wls w σ) H → va_S A (xs_ X).heap H locs → lv_has ls nL lv → WM X H locs (Qf res) (F0 (xm_ X) pc ls st)
theorem r_none {X : Mc} {w : Wd} {A : Nat → Prop} {nL : Nat} {ρ : Type} {Qf : ρ → State → Prop} {pc : Nat} {lv : List (Nat × Value)} {st : List Value} {σ : St} : RF X w A nL Qf none pc lv st σ := fun _ h => by cases h

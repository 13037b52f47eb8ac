theorem Sx.narrow {w w' : Wd} {A B : Nat → Prop} {s : State} {H : Heap} (hk : wK w' = wK w) (hv : wV w' = wV w) (h : Sx w A s H) (hAB : ∀ q, B q → A q) : Sx w' B s H := by
  unfold Sx at h ⊢
  rw [hk, hv]
  obtain ⟨h1, h2, h5, h6⟩ := h
  exact ⟨h1.narrow hAB, h2, h5.narrow hAB, h6.narrow hAB⟩
/-- addresses: the made object's own first -/
def adh (h : Nat) (f : Nat → Nat) : Nat → Nat := fun k => if k = 0 then h else f k
/-- a part of a world by its addresses alone -/
theorem va_D.subA {A : Nat → Prop} {ws ws' : va_W} (hD : va_D A ws) (is : List Nat) (hn : va_nd is = true) (hs : is.map (fun i => (ws[i]?).map Prod.fst) = ws'.map (fun q => some q.1)) : va_D A ws' := by
  have key : ∀ (k : Nat) (q : Nat × va_E), ws'[k]? = some q → ∃ (i : Nat) (p : Nat × va_E), is[k]? = some i ∧ ws[i]? = some p ∧ p.1 = q.1 := by
    intro k q hk
    have h1 : (is.map (fun i => (ws[i]?).map Prod.fst))[k]? = some (some q.1) := by rw [hs, List.getElem?_map, hk]; rfl
    rw [List.getElem?_map] at h1
    cases hi : is[k]? with
    | none => rw [hi] at h1; cases h1
    | some i =>
      rw [hi] at h1
      have h2 : (ws[i]?).map Prod.fst = some q.1 := Option.some.inj h1
      cases hw : ws[i]? with
      | none => rw [hw] at h2; cases h2
      | some p => rw [hw] at h2; exact ⟨i, p, rfl, hw, Option.some.inj h2⟩
  refine ⟨fun i j x y hi hj hxy => ?_, fun k q hk => ?_⟩
  · obtain ⟨a, pa, h1, h2, h3⟩ := key i x hi
    obtain ⟨b, pb, h4, h5, h6⟩ := key j y hj
    have hab := hD.1 a b pa pb h2 h5 (by rw [h3, h6]; exact hxy)
    subst hab
    exact va_nd_inj is hn i j a h1 h4
  · obtain ⟨a, pa, h1, h2, h3⟩ := key k q hk
    rw [← h3]
    exact hD.2 a pa h2
theorem at_rows {D : va_G} {cl : List vw_C} {a n : Nat} {c : ClassId} {f g : Nat → Option Nat} {H : Heap} (h : va_at D cl (a, .inl (c, n, .inr (.inr (.inr (.inr f))))) H) (e : ∀ i, f i = g i) : va_at D cl (a, .inl (c, n, .inr (.inr (.inr (.inr g))))) H := by
  rw [show f = g from funext e] at h; exact h
/-- a constructor's end by a program over the world that it has made -/
theorem ctor_fin {p : Program} {l : Launch} {e : Env} {R : Room} {s : State} {m : MethodId} {args : Array Value} {below : List Frame} {meth : Method} {c : Code} {H : Heap} {locs : List Loc} {cells slots : Nat} {D : va_G} {C : Nat → ClassId} {KV : (Nat → Nat) × (Nat → Nat)} {S : Nat → Nat × Nat} {Rf : Nat → Nat → Option Nat} {N : Nat} {ad : Nat → Nat} {A : Nat → Prop} {own : String} {cc : ByteArray} {nL fr lo pc : Nat} {lv : List (Nat × Value)} {ls : Array Slot} {σ0 σ1 : St} {Pf : Option St} {W1 : (Nat → Nat → Nat) → va_W} (hPf : Pf = some σ1) (hCF : CallFix p m c cc nL s args gw own) (hlk : meth.locks = false) (hret : meth.sig.returnType = none) (hK : va_K D classes (tyC C) s) (hP : va_P D classes (wls (mkW D C S Rf N ad KV) σ0) H) (hD : va_D A (wls (mkW D C S Rf N ad KV) σ0)) (hS : va_S A s.heap H locs) (hA : ∀ q, A q → Aw (mkW D C S Rf N ad KV) s.heap.size q) (hA2 : ∀ q : Nat, s.heap.size ≤ q → A q) (hX : Sx (kvW KV) A s s.heap) (hR : fr ≤ R.frames ∧ lo ≤ R.locals ∧ cells ≤ R.cells ∧ slots ≤ R.slots) (hl : lv_has ls nL lv)
    (hbody : ∀ X : Mc, Cok X (mkW D C S Rf N ad KV) (Aw (mkW D C S Rf N ad KV) (xs_ X).heap.size) own cc nL fr lo S Rf N → (xmeth X).sig.returnType = none → RF X (mkW D C S Rf N ad KV) (Aw (mkW D C S Rf N ad KV) (xs_ X).heap.size) nL (QV X (mkW D C S Rf N ad KV)) Pf pc lv [] σ0) (hW1 : ∃ u, W1 u = wls (mkW D C S Rf N ad KV) σ1) :
    W p l e R s m args below meth c H locs cells slots (MQ below (va_Qv (fun _ : Nat → Nat → Nat => True) (BwC D C A W1) A) args s cells slots A) (F0 m pc ls []) := by
  have hAA : A = Aw (mkW D C S Rf N ad KV) s.heap.size := funext fun q => propext ⟨hA q, fun h => by
    rcases h with ⟨k, hk, rfl⟩ | h
    · exact hD.2 k _ (wls_get hk)
    · exact hA2 q h⟩
  obtain ⟨u, hu⟩ := hW1
  subst hAA
  have hD1 : va_D (fun _ => True) (wls (mkW D C S Rf N ad KV) σ0) := hD.weaken (fun _ _ _ _ => trivial)
  have h := hbody (p, l, e, R, s, m, args, below, meth, c, cells, slots) ⟨hCF, hK, fun q h => Or.inr h, hlk, fun τ => Aw_D hD1 τ, hR, ⟨rfl, rfl, Nat.le_refl N⟩, hX.narrow rfl rfl (fun q h => h)⟩ hret σ1 hPf H locs ls hP hS hl
  refine W.monoQ h (fun t ht => ?_)
  obtain ⟨o, h1, h2, ⟨⟨u1, h3, h4, h5⟩, h6⟩, h7⟩ := ht
  subst h4
  exact ⟨o, h1, h2, ⟨⟨u, h3, trivial, by rw [hu]; exact h5.1, h5.2, by rw [hu]; exact Aw_D hD1 _⟩, h6⟩, h7⟩
/-- the boat's and the model's first states -/
def sb0 : St := (fun k => if k = 0 then (fun j => if j = 3 then 20 else 0) else (fun _ => 0), fun _ _ => 0, fun _ _ => none, fun _ => 0)
def sb1 : St := (f_X0_tail sb0).getD sb0
def sz0 : St := (fun _ _ => 0, fun _ _ => 0, fun _ _ => none, fun _ => 0)
def sm1 : St := (f_X12_tail sz0).getD sz0
theorem of_isSome {α : Type} {o : Option α} {d : α} (h : o.isSome = true) : o = some (o.getD d) := by
  cases o with
  | none => cases h
  | some a => rfl
theorem sb1_ok : f_X0_tail sb0 = some sb1 := of_isSome (by decide +kernel)
theorem sm1_ok : f_X12_tail sz0 = some sm1 := of_isSome (by decide +kernel)
theorem va_A1 {h0 sz q : Nat} {e0 : va_E} (h : va_A [(h0, e0)] sz q) : q = h0 ∨ sz ≤ q := by
  rcases h with ⟨k, e, h⟩ | h
  · cases k with
    | zero => cases h; exact Or.inl rfl
    | succ k => cases h
  · exact Or.inr h

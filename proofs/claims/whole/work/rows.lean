section
/-! rows of int rows: what the word says of the tables, and that alike tables keep it -/
theorem oa_kept {U V : State} {a a' : Array Value} (ha : U.vm.Alike V.vm) (h : (Cond.arrayOver (.array .int)).before a U = true) : (Cond.arrayOver (.array .int)).before a' V = true := by
  have e : (Cond.arrayOver (.array .int)).before a (U.setVm V.vm) = true := (Cond.arrayOver_setVmC ha _).trans h
  simp only [Cond.before, Cond.holds, Cond.value, State.vm_setVm] at e ⊢
  exact e
theorem oa_says {s : State} {a : Array Value} (h : (Cond.arrayOver (.array .int)).before a s = true) : ∃ (z c : ClassId) (k : Class), s.vm.findClass (FieldType.array .int).toString = some z ∧ s.vm.classes[c]? = some k ∧ k.kind = .array z (.array .int) ∧ s.vm.findClass ("[" ++ (FieldType.array .int).toString) = some c := by
  simp only [Cond.before, Cond.holds, Cond.value, beq_iff_eq] at h
  obtain ⟨z, hz, h1⟩ := Option.bind_eq_some_iff.mp h
  obtain ⟨c, hc, h2⟩ := Option.bind_eq_some_iff.mp h1
  obtain ⟨k, hk, h3⟩ := Option.map_eq_some_iff.mp h2
  have hp : (match k.kind with | .array component _ => component == z | _ => false) = true := by
    have := (Array.findIdx?_eq_some_iff_getElem.mp hc).2.1
    rwa [(Array.getElem?_eq_some_iff.mp hk).2] at this
  refine ⟨z, c, k, hz, hk, ?_⟩
  cases hq : k.kind with
  | array y t =>
    rw [hq] at hp h3
    simp at hp h3
    exact ⟨by rw [hp, h3.1], h3.2⟩
  | _ => rw [hq] at hp; simp at hp
end

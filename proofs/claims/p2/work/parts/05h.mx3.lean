/-! what a throw asks of the heap: two statics of Throwable, in a cell that is none of ours -/
def mx_Z (C n d : String) (A : Nat → Prop) (U : State) (H : Heap) : Prop := ∃ (c : ClassId) (k : Class) (i : Nat) (f : Field) (a : Nat) (cell : Cell) (v : Value), U.vm.findClass C = some c ∧ U.fieldFound? C n d = some (c, k, i, f) ∧ f.isStatic = true ∧ k.statics = some a ∧ H[a]? = some cell ∧ cell.vm.isStatics = true ∧ cell.cls = c ∧ f.slot < cell.slots.size ∧ k.staticTypes[f.slot]? = some f.type ∧ cell.slots[f.slot]? = some v ∧ v.isRef = true ∧ ¬ A a
theorem mx_Z.moved {C n d : String} {A : Nat → Prop} {u U : State} {H : Heap} (hvm : u.vm.Alike U.vm) (h : mx_Z C n d A u H) : mx_Z C n d A U H := by
  obtain ⟨c, k, i, f, a, cell, v, h1, h2, h3, h4, h5, h6, h7, h8, h9, h10, h11, h12⟩ := h
  obtain ⟨k', hi', he⟩ := State.fieldFound?_setVm hvm h2
  exact ⟨c, k', i, f, a, cell, v, by rw [hvm.findClass]; exact h1, hi', h3, by rw [he]; exact h4, h5, h6, h7, h8, by rw [he]; exact h9, h10, h11, h12⟩
theorem mx_Z.kept {C n d : String} {A : Nat → Prop} {U : State} {H H1 : Heap} (h : mx_Z C n d A U H) (hq : ∀ a : Nat, a < H.size → ¬ A a → H1[a]? = H[a]?) : mx_Z C n d A U H1 := by
  obtain ⟨c, k, i, f, a, cell, v, h1, h2, h3, h4, h5, h6, h7, h8, h9, h10, h11, h12⟩ := h
  exact ⟨c, k, i, f, a, cell, v, h1, h2, h3, h4, by rw [hq a (Array.getElem?_eq_some_iff.mp h5).1 h12]; exact h5, h6, h7, h8, h9, h10, h11, h12⟩
theorem mx_Z.narrow {C n d : String} {A B : Nat → Prop} {U : State} {H : Heap} (h : mx_Z C n d A U H) (hAB : ∀ q, q < H.size → B q → A q) : mx_Z C n d B U H := by
  obtain ⟨c, k, i, f, a, cell, v, h1, h2, h3, h4, h5, h6, h7, h8, h9, h10, h11, h12⟩ := h
  exact ⟨c, k, i, f, a, cell, v, h1, h2, h3, h4, h5, h6, h7, h8, h9, h10, h11, fun z => h12 (hAB _ (Array.getElem?_eq_some_iff.mp h5).1 z)⟩
theorem mx_Z.lays {C n d : String} {A : Nat → Prop} {s : State} {args : Array Value} (h : mx_Z C n d A s s.heap) : (Cond.laysStatic C n d).before args s = true := by
  obtain ⟨c, k, i, f, a, cell, v, h1, h2, h3, h4, h5, h6, h7, h8, h9, -⟩ := h
  show (Cond.laysStatic C n d).holds args s none s [] = true
  exact Cond.laysStatic_of h1 h2 h3 h4 h5 h6 h7 h8 h9
theorem mx_Z.isRef {C n d : String} {A : Nat → Prop} {s : State} {args : Array Value} (h : mx_Z C n d A s s.heap) : (Cond.isRef (.static C n d)).before args s = true := by
  obtain ⟨c, k, i, f, a, cell, v, h1, h2, h3, h4, h5, h6, h7, h8, h9, h10, h11, -⟩ := h
  have he : (Term.static C n d).eval args s none [] s = some v := by
    simp [Term.eval, State.fieldNamed?, h2, h3, h4, h5, h6, h10]
  simp only [Cond.before, Cond.holds, Cond.value, he]
  cases v <;> simp_all [Value.isRef]
theorem mx_Z.of {C n d : String} {A : Nat → Prop} {s : State} {args : Array Value} (hl : (Cond.laysStatic C n d).before args s = true) (hr : (Cond.isRef (.static C n d)).before args s = true) (hA : ∀ a : Nat, a < s.heap.size → ¬ A a) : mx_Z C n d A s s.heap := by
  obtain ⟨c, k, i, f, a, cell, h1, h2, h3, h4, h5, h6, h7, h8, h9⟩ := Cond.laysStatic_spec hl
  obtain ⟨u, hu⟩ := Cond.staticRefV (args := args) (first := s) (o := none) (idx := []) h2 h3 h4 h5 h6 hr
  exact ⟨c, k, i, f, a, cell, u.v, h1, h2, h3, h4, h5, h6, h7, h8, h9, hu, u.ok, hA a (Array.getElem?_eq_some_iff.mp h5).1⟩
/-- the premises of throws: what superclasses' constructors declare, the texts, the two statics -/
abbrev mx_St : Type := List (String × Nat × String)
def mx_N (dc : List MethodName) (st : mx_St) (sa : Nat → Nat) (A : Nat → Prop) (U : State) (H : Heap) : Prop :=
  (∀ x ∈ dc, va_Nw (.declares x) U) ∧ (∀ q ∈ st, vk_R q.1 q.2.1 q.2.2 (sa q.2.1) U) ∧ mx_Z Bundle.tN "UNASSIGNED_STACK" Bundle.steD A U H ∧ mx_Z Bundle.tN "SUPPRESSED_SENTINEL" Bundle.listD A U H
theorem mx_N.moved {dc : List MethodName} {st : mx_St} {sa : Nat → Nat} {A : Nat → Prop} {s U : State} {H : Heap} (hW : s.WarmedH U.vm) (h : mx_N dc st sa A s H) : mx_N dc st sa A U H :=
  ⟨fun x hx => va_Nw.warmD hW (h.1 x hx), fun q hq => vk_R.warm hW (h.2.1 q hq), h.2.2.1.moved hW.alike, h.2.2.2.moved hW.alike⟩
theorem mx_N.kept {dc : List MethodName} {st : mx_St} {sa : Nat → Nat} {A : Nat → Prop} {U : State} {H H1 : Heap} (h : mx_N dc st sa A U H) (hq : ∀ a : Nat, a < H.size → ¬ A a → H1[a]? = H[a]?) : mx_N dc st sa A U H1 := ⟨h.1, h.2.1, h.2.2.1.kept hq, h.2.2.2.kept hq⟩
theorem mx_N.narrow {dc : List MethodName} {st : mx_St} {sa : Nat → Nat} {A B : Nat → Prop} {U : State} {H : Heap} (h : mx_N dc st sa A U H) (hAB : ∀ q, q < H.size → B q → A q) : mx_N dc st sa B U H := ⟨h.1, h.2.1, h.2.2.1.narrow hAB, h.2.2.2.narrow hAB⟩
theorem mx_N.same {dc : List MethodName} {st : mx_St} {sa : Nat → Nat} {A : Nat → Prop} {u U : State} {H : Heap} (h : u.vm = U.vm) (hN : mx_N dc st sa A u H) : mx_N dc st sa A U H := mx_N.moved (by rw [← h]; exact State.WarmedH.refl u) hN

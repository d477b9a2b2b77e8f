/-! the throw itself -/
section MXt
variable {p : Program} {l : Launch} {e : Env} {R : Room} {s : State} {m : MethodId} {args : Array Value} {below : List Frame} {meth : Method} {c : Code} {H : Heap} {locs : List Loc} {cells slots : Nat} {Q : State → Prop} {A : Nat → Prop}
set_option maxHeartbeats 4000000 in
theorem mx_throw {cc : ByteArray} {pc : Nat} {ls : Array Slot} {rest : List Value} (hexec : p.tables.exec = Jvm.exec) (hb : c.code = cc) (hl : l.stackTraces = false) {own cls Yn text : String} {names : List String} {ik is ic ix sa : Nat} {by1 : ByteArray}
    (hown : s.vm.findClass own = some m.cls) (hcls : Bundle.fit cls = true) (hYn : Bundle.fit Yn = true) (hnames : ∀ n ∈ names, Bundle.fit n = true)
    (h0 : decode by1 0 = .ok (.aload_n 0, 1)) (h1 : decode by1 1 = .ok (.aload_n 1, 1)) (h2 : decode by1 2 = .ok (.invokespecial ix, 3)) (h5 : decode by1 5 = .ok (.return_, 1))
    (hk : (Cond.classLink own ik cls).before args s = true) (hini : (Cond.initialized cls).before args s = true) (hstr : (Cond.stringRef own is text).before args s = true) (hev : (Term.string own is).eval args s none [] s = some (.ref sa))
    (hat : ∀ w ∈ mx_at own ic cls Yn ix by1 names, w.before args s = true)
    (hlocs : ∀ x ∈ locs, ∀ cell, s.heap[x.base]? = some cell → cell.vm.isStatics = false) (hS : va_S A s.heap H locs) (hA : ∀ q, s.heap.size ≤ q → A q) (hsize : ls.size = c.maxLocals)
    (d0 : decode cc pc = .ok (.new ik, 3)) (d3 : decode cc (pc + 3) = .ok (.dup, 1)) (d4 : decode cc (pc + 4) = .ok (.ldc is, 2)) (d6 : decode cc (pc + 6) = .ok (.invokespecial ic, 3)) (d9 : decode cc (pc + 9) = .ok (.athrow, 1))
    (hout : ∀ x ∈ c.exceptionTable.toList, covers x (pc + 9) = false) (hRf : names.length + 4 < R.frames) (hRl : (rest.map fun v => v.category).sum + (13 * (names.length + 2) + 43) ≤ R.locals) (hRc : cells + 1 ≤ R.cells) (hRs : slots + 6 ≤ R.slots) (hlocks : meth.locks = false)
    (kk : ∀ (U : State) (q : Addr) (ce : Cell) (L : List Loc), U.status = .running → Ended U below (.threw q) → s.WarmedH U.vm → s.sameButNew ({ U with vm := s.vm } : State) L (cells + 1) (slots + 6) → (∀ z ∈ L, A z.base) → U.heap[q]? = some ce → ce.vm = .none → s.vm.findClass cls = some ce.cls →
      H.size ≤ U.heap.size → (∀ x, x < H.size → U.heap[x]? = H[x]?) → Q U) :
    W p l e R s m args below meth c H locs cells slots Q (F0 m pc ls rest) := by
  intro T hT X
  have htr : e.platform.stackTraces = false := (show e.platform.stackTraces = l.stackTraces by rw [X.admits.platform]).trans hl
  have hins : (Cond.instantiable cls 6).before args s = true := hat _ (by unfold mx_at; simp)
  obtain ⟨vm₁, cX, kX, hfX, hkX, -, -, X₁, st1⟩ := X.newCold hexec (own := own) (C := cls) (index := ik) (n := 6) hown hk hins hini (g := F0 m pc ls rest) rfl (by rw [hb]; exact d0) hRc hRs
  generalize hT1 : (T.setVm vm₁).pushCell { cls := cX, slots := kX.instanceTypes.map defaultValue, vm := .none } = T1 at X₁ st1
  have hcellA : T1.heap[T.heap.size]? = some (freshCell cX kX) := by rw [← hT1]; exact State.heap_pushCell_size _ _
  have hT1s : T1.heap.size = T.heap.size + 1 := by rw [← hT1]; exact State.heap_size_pushCell _ _
  have hT1o : ∀ x, x < T.heap.size → T1.heap[x]? = T.heap[x]? := fun x hx => by rw [← hT1]; exact State.heap_pushCell_of_lt _ _ hx
  have hge : s.heap.size ≤ T.heap.size := by rw [hT]; exact hS.1
  have d3' : decode c.code (pc + 3) = .ok (.dup, 1) := by rw [hb]; exact d3
  have d4' : decode c.code (pc + 4) = .ok (.ldc is, 2) := by rw [hb]; exact d4
  have d6' : decode c.code (pc + 6) = .ok (.invokespecial ic, 3) := by rw [hb]; exact d6
  have d9' : decode c.code (pc + 9) = .ok (.athrow, 1) := by rw [hb]; exact d9
  have hcat : (Value.ref T.heap.size).category = 1 := rfl
  obtain ⟨vm₂, ce, L5, X₂, hc1, hc2, hL5, st2⟩ := mx_init X₁ hexec htr hown hcls hYn hnames h0 h1 h2 h5 hat hlocs hfX hkX hcellA hge (msg := .ref sa) rfl
    (g := { method := m, pc := pc + 6, locals := ls, stack := .ref sa :: .ref T.heap.size :: .ref T.heap.size :: rest, locked := none }) rfl hsize (rest := .ref T.heap.size :: rest) rfl d6' hRf
    (by show 2 * 0 + ((Value.ref T.heap.size :: rest).map fun v => v.category).sum + _ ≤ _; simp only [List.map_cons, List.sum_cons, hcat]; omega)
  generalize hT2 : (T1.setVm vm₂).setCell T.heap.size ce = T2 at X₂ st2
  obtain ⟨hwalk, hrun, hend, hW, hsame⟩ := X₂.athrowLeaves hexec (g := { method := m, pc := pc + 9, locals := ls, stack := .ref T.heap.size :: rest, locked := none }) rfl rfl rfl hout (a := T.heap.size) (rest := rest) rfl d9' hlocks
  have hlt : T.heap.size < T1.heap.size := by rw [hT1s]; omega
  have hcell2 : T2.heap[T.heap.size]? = some ce := by
    rw [← hT2]
    simp [State.setCell, State.setVm, Array.getElem?_setIfInBounds, hlt]
  have hsz2 : T2.heap.size = T.heap.size + 1 := by
    rw [← hT2]
    simp [State.setCell, State.setVm, hT1s]
  have hold2 : ∀ x, x < T.heap.size → T2.heap[x]? = T.heap[x]? := fun x hx => by
    rw [← hT1o x hx, ← hT2]
    simp [State.setCell, State.setVm, Array.getElem?_setIfInBounds, show ¬ T.heap.size = x by omega]
  have hq := kk (T2.setFrames (.throwing T.heap.size :: below)) T.heap.size ce (locs ++ L5) hrun hend hW hsame (fun z hz => by
      rcases List.mem_append.mp hz with h | h
      · exact hS.2.2 z h
      · rw [hL5 z h]; exact hA _ hge) hcell2 hc2 (by rw [hc1]; exact hfX) (by show H.size ≤ T2.heap.size; rw [hsz2, hT]; omega) (fun x hx => by
      show T2.heap[x]? = H[x]?
      rw [← hT] at hx ⊢
      exact hold2 x hx)
  refine ⟨_, st1 _ ?_, hq⟩
  show Steps p.tables e below (T1.setTop { method := m, pc := pc + 3, locals := ls, stack := .ref T.heap.size :: rest, locked := none }) _
  jvm_step X₁.here [X₁.here.top, hexec, d3', Value.category]
  exact X₁.ldcString hexec (own := own) (text := text) (index := is) (a := sa) hown hstr hev
    (g := { method := m, pc := pc + 4, locals := ls, stack := .ref T.heap.size :: .ref T.heap.size :: rest, locked := none }) rfl d4' _ (st2 _ hwalk)
end MXt

section
/-! Exceptions: 'throw new X(text)' where no stack traces are kept. What the library has for a chain of constructors (Stand.ctorMessageOffV) is used as it stands. -/
/-- the words that such a throw asks: X's constructor passes on to Y's (its own entry ix), Y's and those of 'names' by their entries 7 -/
def mx_at (own : String) (ic : Nat) (X Y : String) (ix : Nat) (by1 : ByteArray) (names : List String) : List Cond :=
  Bundle.throwableAtoms ++ (Bundle.throwableSAtoms ++ (Bundle.passSAtoms X Y ix by1 ++ (Bundle.chainSAtoms Y names ++
  [.methodLink own ic (Bundle.initS X), .instantiable X 6, .selects X Bundle.tFill0 Bundle.tFill0, .selects X Bundle.tFill Bundle.tFill,
   .lays X Bundle.tN "cause" "Ljava/lang/Throwable;", .lays X Bundle.tN "stackTrace" Bundle.steD, .lays X Bundle.tN "suppressedExceptions" Bundle.listD, .lays X Bundle.tN "detailMessage" "Ljava/lang/String;",
   .fieldLink Bundle.tN 198 Bundle.tN "backtrace" "Ljava/lang/Object;", .lays Bundle.tN Bundle.tN "backtrace" "Ljava/lang/Object;", .lays X Bundle.tN "backtrace" "Ljava/lang/Object;",
   .isRef (.static Bundle.tN "UNASSIGNED_STACK" Bundle.steD), .isRef (.static Bundle.tN "SUPPRESSED_SENTINEL" Bundle.listD)])))
section MXi
variable {p : Program} {l : Launch} {e : Env} {R : Room} {s : State} {m : MethodId} {args : Array Value} {below : List Frame} {meth : Method} {c : Code} {T' : State} {locs : List Loc} {cells slots : Nat}
set_option maxHeartbeats 4000000 in
/-- the constructor's call: the new object is laid, all else stands -/
theorem mx_init (X : Stand p l e R s m args below meth c T' locs cells slots) (hexec : p.tables.exec = Jvm.exec) (htr : e.platform.stackTraces = false) {own cls Yn : String} {names : List String} {ic ix : Nat} {by1 : ByteArray}
    (hown : s.vm.findClass own = some m.cls) (hcls : Bundle.fit cls = true) (hYn : Bundle.fit Yn = true) (hnames : ∀ n ∈ names, Bundle.fit n = true)
    (h0 : decode by1 0 = .ok (.aload_n 0, 1)) (h1 : decode by1 1 = .ok (.aload_n 1, 1)) (h2 : decode by1 2 = .ok (.invokespecial ix, 3)) (h5 : decode by1 5 = .ok (.return_, 1))
    (h : ∀ w ∈ mx_at own ic cls Yn ix by1 names, w.before args s = true)
    (hlocs : ∀ x ∈ locs, ∀ cell, s.heap[x.base]? = some cell → cell.vm.isStatics = false)
    {a : Addr} {cX : ClassId} {kX : Class} (hfX : s.vm.findClass cls = some cX) (hkX : s.vm.classes[cX]? = some kX) (hcell : T'.heap[a]? = some (freshCell cX kX)) (hnew : s.heap.size ≤ a)
    {msg : Value} (hmsg : msg.isRef = true) {g : JFrame} (hg : g.method = m) (hsize : g.locals.size = c.maxLocals) {rest : List Value} (hstack : g.stack = msg :: .ref a :: rest) (hd : decode c.code g.pc = .ok (.invokespecial ic, 3))
    (hRf : names.length + 4 < R.frames) (hRl : 2 * g.monitorRoom + (rest.map fun v => v.category).sum + (13 * (names.length + 2) + 42) ≤ R.locals) :
    ∃ (vm' : Vm) (ce : Cell) (L5 : List Loc), Stand p l e R s m args below meth c ((T'.setVm vm').setCell a ce) (locs ++ L5) cells slots ∧ ce.cls = cX ∧ ce.vm = .none ∧ (∀ y ∈ L5, y.base = a) ∧
      ∀ target, Steps p.tables e below (((T'.setVm vm').setCell a ce).setTop { g with pc := g.pc + 3, stack := rest }) target → Steps p.tables e below (T'.setTop g) target := by
  have howns : e.platform.frameOwnsMonitors = true := by rw [X.admits.platform]
  have hfin : e.platform.finalization = false := by rw [X.admits.platform]
  have hpl : e.platform.magicAccessors = ({} : Platform).magicAccessors := by rw [X.admits.platform]
  have hm : ∀ w, w ∈ mx_at own ic cls Yn ix by1 names → w.holds args s none s [] = true := fun w hw => h w hw
  obtain ⟨Tc, Z0, L, -, Y⟩ := ThrowableC.of_atoms (args := args) howns hfin hpl (fun w hw => h w (by unfold mx_at; exact List.mem_append_left _ hw))
  obtain ⟨Z, M, LZ, LM, hnZ⟩ := Init0T.ofS_atoms (args := args) hpl L Y (fun w hw => h w (by unfold mx_at; exact List.mem_append_right _ (List.mem_append_left _ hw)))
  have hpass : ∀ w ∈ Bundle.passSAtoms cls Yn ix by1, w.before args s = true := fun w hw => h w (by unfold mx_at; exact List.mem_append_right _ (List.mem_append_right _ (List.mem_append_left _ hw)))
  obtain ⟨P1, L1, hP1m, hP1s⟩ := PassC.ofS_atoms (args := args) hpl (Bundle.fit_spec hcls).1 (Bundle.fit_spec hYn).2 h0 h1 h2 h5 hpass
  obtain ⟨P2, Ps, hlen, L2, hL, hP2m, hlink2, hlink⟩ := Bundle.chainS (args := args) hpl hnZ names Yn hYn hnames (fun w hw => h w (by unfold mx_at; exact List.mem_append_right _ (List.mem_append_right _ (List.mem_append_right _ (List.mem_append_left _ hw)))))
  have h12 : P1.sup = P2.m := Option.some.inj (hP1s.symm.trans hP2m)
  have tl : ∀ w ∈ ([.methodLink own ic (Bundle.initS cls), .instantiable cls 6, .selects cls Bundle.tFill0 Bundle.tFill0, .selects cls Bundle.tFill Bundle.tFill,
   .lays cls Bundle.tN "cause" "Ljava/lang/Throwable;", .lays cls Bundle.tN "stackTrace" Bundle.steD, .lays cls Bundle.tN "suppressedExceptions" Bundle.listD, .lays cls Bundle.tN "detailMessage" "Ljava/lang/String;",
   .fieldLink Bundle.tN 198 Bundle.tN "backtrace" "Ljava/lang/Object;", .lays Bundle.tN Bundle.tN "backtrace" "Ljava/lang/Object;", .lays cls Bundle.tN "backtrace" "Ljava/lang/Object;",
   .isRef (.static Bundle.tN "UNASSIGNED_STACK" Bundle.steD), .isRef (.static Bundle.tN "SUPPRESSED_SENTINEL" Bundle.listD)] : List Cond), w.holds args s none s [] = true := fun w hw => hm w (by unfold mx_at; exact List.mem_append_right _ (List.mem_append_right _ (List.mem_append_right _ (List.mem_append_right _ hw))))
  have hfound : s.vm.findClass cls = some P1.m.cls := findClass_of_methodNamed hP1m
  cases Option.some.inj (hfX.symm.trans hfound)
  obtain ⟨c1, kX', hc1, hk, hord, -, -, hn6⟩ := Cond.instantiable_spec (tl (.instantiable cls 6) (by simp))
  cases Option.some.inj (hc1.symm.trans hfound)
  cases Option.some.inj (hkX.symm.trans hk)
  have hsel0 : selectMethod e.platform s.vm P1.m.cls Tc.fill0 = .method Tc.fill0 := by
    obtain ⟨c2, r2, m2, q1, q2, q3, q4, -⟩ := Cond.selects_spec (tl (.selects cls Bundle.tFill0 Bundle.tFill0) (by simp))
    cases Option.some.inj (q1.symm.trans hfound)
    cases Option.some.inj (q2.symm.trans (State.methodFound?_of_named Y.fill0 (by decide)))
    cases Option.some.inj (q3.symm.trans Y.fill0)
    rw [Launch.admits_selectMethod X.admits]; exact q4
  have hselF : selectMethod e.platform s.vm P1.m.cls Tc.fill = .method Tc.fill := by
    obtain ⟨c2, r2, m2, q1, q2, q3, q4, -⟩ := Cond.selects_spec (tl (.selects cls Bundle.tFill Bundle.tFill) (by simp))
    cases Option.some.inj (q1.symm.trans hfound)
    cases Option.some.inj (q2.symm.trans (State.methodFound?_of_named Y.fill (by decide)))
    cases Option.some.inj (q3.symm.trans Y.fill)
    rw [Launch.admits_selectMethod X.admits]; exact q4
  obtain ⟨cS, hcS, hiss⟩ := Y.statics
  obtain ⟨u0, hu0⟩ := Cond.staticRefV Y.unassigned L.unassignedStatic L.statics hcS hiss (tl (.isRef (.static Bundle.tN "UNASSIGNED_STACK" Bundle.steD)) (by simp))
  obtain ⟨sen, hsen⟩ := Cond.staticRefV Y.sentinel L.sentinelStatic L.statics hcS hiss (tl (.isRef (.static Bundle.tN "SUPPRESSED_SENTINEL" Bundle.listD)) (by simp))
  obtain ⟨cB, iB, fB, hkB, hgB, haB, hsB, -, hnB, htB, hffB⟩ := Cond.ownField (t := .object "java/lang/Object") Y.found L.cls (by decide +kernel) (tl (.fieldLink Bundle.tN 198 Bundle.tN "backtrace" "Ljava/lang/Object;") (by simp)) (tl (.lays Bundle.tN Bundle.tN "backtrace" "Ljava/lang/Object;") (by simp)) e.platform hpl
  obtain ⟨cS2, hcS2, heS, -, hkeep⟩ := X.same.2.2.2.2.2 Tc.aS cS hcS
  have hcellS : T'.heap[Tc.aS]? = some cS2 := hcS2
  have hno : ∀ i, (⟨Tc.aS, i⟩ : Loc) ∉ locs := fun i hmem => by
    have q := hlocs _ hmem cS hcS
    rw [hiss] at q; cases q
  have hknownS : cS2.vm ≠ .unknown := by
    rw [heS]; intro hu
    rw [show cS.vm = .unknown from hu] at hiss
    cases hiss
  have hneS : Tc.aS ≠ a := Nat.ne_of_lt (Nat.lt_of_lt_of_le (Array.getElem?_eq_some_iff.mp hcS).1 hnew)
  obtain ⟨iM, hffM⟩ := Y.msg
  obtain ⟨tyC, dC, hdC, hdnC⟩ := Cond.laysAt hfound hk Y.cause (tl (.lays cls Bundle.tN "cause" "Ljava/lang/Throwable;") (by simp))
  obtain ⟨tyS, dS, hdS, hdnS⟩ := Cond.laysAt hfound hk Y.stack (tl (.lays cls Bundle.tN "stackTrace" Bundle.steD) (by simp))
  obtain ⟨tyP, dP, hdP, hdnP⟩ := Cond.laysAt hfound hk Y.supp (tl (.lays cls Bundle.tN "suppressedExceptions" Bundle.listD) (by simp))
  obtain ⟨tyM, dM, hdM, hdnM⟩ := Cond.laysAt hfound hk hffM (tl (.lays cls Bundle.tN "detailMessage" "Ljava/lang/String;") (by simp))
  obtain ⟨tyB, dB, hdB, hdnB⟩ := Cond.laysAt hfound hk hffB (tl (.lays cls Bundle.tN "backtrace" "Ljava/lang/Object;") (by simp))
  have bC := Cond.laysApart hdB hdC hdnB hdnC (by rw [hnB, Y.causeName]; decide)
  have bS := Cond.laysApart hdB hdS hdnB hdnS (by rw [hnB, Y.stackName]; decide)
  have bP := Cond.laysApart hdB hdP hdnB hdnP (by rw [hnB, Y.suppName]; decide)
  have hskip : SkipFacts Tc e.platform s (fun u => u) u0 ((preparedCellV Tc.toThrowableT (freshCell P1.m.cls kX) a u0 sen).withEntry T'.cur) :=
    ⟨{ ci198 := cB, i198 := iB, fBack := fB }, ⟨hkB, hgB, haB, hsB⟩, by
      have q := fresh_default (c := P1.m.cls) tyB
      rw [htB] at q
      simpa [preparedCellV, Cell.setSlot, Cell.withEntry, Array.getElem?_setIfInBounds, bC, bS, bP, bC.symm, bS.symm, bP.symm, defaultValue] using q, fun _ _ => rfl⟩
  obtain ⟨tm, methC, cdC, kC, vm₁, hnC, -, -, -, -, -, -, -, hW₁, st1⟩ := Steps.initColdS (tb := p.tables) (e := e) (below := below) (s := s) (U := T') X.here hexec X.warmed hpl hown (t := Bundle.initS cls) rfl rfl (Bundle.fit_spec hcls).2
    (tl (.methodLink own ic (Bundle.initS cls)) (by simp)) (hpass (.instanceMethod (Bundle.initS cls)) (by simp [Bundle.passSAtoms])) (bytes := by1) (maxL := 2) (hpass (.code (Bundle.initS cls) by1 2 none) (by simp [Bundle.passSAtoms]))
    (f := g) hg (a := a) (msg := msg) (rest := rest) hstack hd
  cases Option.some.inj (hnC.symm.trans hP1m)
  have X₁ := X.noted hW₁
  obtain ⟨vm₂, X₂, st2⟩ := X₁.ctorMessageOffV hexec (g := { g with stack := rest }) hg hsize Tc L Z LZ M LM (P1 :: P2 :: Ps)
    (fun P hP => by
      rcases List.mem_cons.mp hP with rfl | hP
      · exact L1
      · rcases List.mem_cons.mp hP with rfl | hP
        · exact L2
        · exact hL P hP) ⟨h12, hlink2, hlink⟩ (u0 := u0) (sen := sen) (self := a) hmsg (cell := freshCell P1.m.cls kX) (cellS := cS2)
    hcell (fun _ => by simp) (by simp) rfl rfl hsel0 hselF hcellS hneS hknownS (by rw [hkeep _ (hno _)]; exact hu0) (by rw [hkeep _ (hno _)]; exact hsen)
    (Takes.of_laid hk hord tyC (by rw [Y.causeType]; rfl)) (Takes.of_laid hk hord tyS (by rw [Y.stackType]; exact fits_refV_array _ u0)) (Takes.of_laid hk hord tyP (by rw [Y.suppType]; exact fits_refV_object _ sen))
    (Takes.of_laid hk hord tyM (by rw [Y.msgType]; exact fits_refV_object _ ⟨msg, hmsg⟩)) Y.objLocals hskip htr [] hd
    (by simp only [List.length_cons, hlen]; omega) (by simp only [List.length_cons, hlen]; have := hRl; show 2 * g.monitorRoom + _ + _ ≤ _; omega)
  refine ⟨vm₂, _, _, X₂, rfl, rfl, fun y hy => ?_, fun target ht => st1 _ (fun acts => ?_)⟩
  · simp only [List.mem_cons, List.not_mem_nil, or_false] at hy
    rcases hy with rfl | rfl | rfl | rfl | rfl <;> rfl
  · rw [doInvoke_state]
    exact st2 _ ht
end MXi
end
section
/-! the throw itself -/
section MXt
variable {p : Program} {l : Launch} {e : Env} {R : Room} {s : State} {m : MethodId} {args : Array Value} {below : List Frame} {meth : Method} {c : Code} {H : Heap} {locs : List Loc} {cells slots : Nat} {Q : State → Prop} {A : Nat → Prop}
set_option maxHeartbeats 4000000 in
theorem mx_throw {cc : ByteArray} {pc : Nat} {ls : Array Slot} {rest : List Value} (hexec : p.tables.exec = Jvm.exec) (hb : c.code = cc) (hl : l.stackTraces = false) {own cls Yn text : String} {names : List String} {ik is ic ix sa : Nat} {by1 : ByteArray}
    (hown : s.vm.findClass own = some m.cls) (hcls : Bundle.fit cls = true) (hYn : Bundle.fit Yn = true) (hnames : ∀ n ∈ names, Bundle.fit n = true)
    (h0 : decode by1 0 = .ok (.aload_n 0, 1)) (h1 : decode by1 1 = .ok (.aload_n 1, 1)) (h2 : decode by1 2 = .ok (.invokespecial ix, 3)) (h5 : decode by1 5 = .ok (.return_, 1))
    (hk : (Cond.classLink own ik cls).before args s = true) (hini : (Cond.initialized cls).before args s = true) (hstr : (Cond.stringRef own is text).before args s = true) (hev : (Term.string own is).eval args s none [] s = some (.ref sa))
    (hat : ∀ w ∈ mx_at own ic cls Yn ix by1 names, w.before args s = true)
    (hlocs : ∀ x ∈ locs, ∀ cell, s.heap[x.base]? = some cell → cell.vm.isStatics = false) (hS : va_S A s.heap H locs) (hA : ∀ q, s.heap.size ≤ q → A q) (hsize : ls.size = c.maxLocals)
    (d0 : decode cc pc = .ok (.new ik, 3)) (d3 : decode cc (pc + 3) = .ok (.dup, 1)) (d4 : decode cc (pc + 4) = .ok (.ldc is, 2)) (d6 : decode cc (pc + 6) = .ok (.invokespecial ic, 3)) (d9 : decode cc (pc + 9) = .ok (.athrow, 1))
    (hout : ∀ x ∈ c.exceptionTable.toList, covers x (pc + 9) = false) (hRf : names.length + 4 < R.frames) (hRl : (rest.map fun v => v.category).sum + (13 * (names.length + 2) + 43) ≤ R.locals) (hRc : cells + 1 ≤ R.cells) (hRs : slots + 6 ≤ R.slots) (hlocks : meth.locks = false)
    (kk : ∀ (U : State) (q : Addr) (ce : Cell) (L : List Loc), U.status = .running → Ended U below (.threw q) → s.WarmedH U.vm → s.sameButNew ({ U with vm := s.vm } : State) L (cells + 1) (slots + 6) → (∀ z ∈ L, A z.base) → U.heap[q]? = some ce → ce.vm = .none → s.vm.findClass cls = some ce.cls →
      H.size ≤ U.heap.size → (∀ x, x < H.size → U.heap[x]? = H[x]?) → Q U) :
    W p l e R s m args below meth c H locs cells slots Q (F0 m pc ls rest) := by
  intro T hT X
  have htr : e.platform.stackTraces = false := (show e.platform.stackTraces = l.stackTraces by rw [X.admits.platform]).trans hl
  have hins : (Cond.instantiable cls 6).before args s = true := hat _ (by unfold mx_at; simp)
  obtain ⟨vm₁, cX, kX, hfX, hkX, -, -, X₁, st1⟩ := X.newCold hexec (own := own) (C := cls) (index := ik) (n := 6) hown hk hins hini (g := F0 m pc ls rest) rfl (by rw [hb]; exact d0) hRc hRs
  generalize hT1 : (T.setVm vm₁).pushCell { cls := cX, slots := kX.instanceTypes.map defaultValue, vm := .none } = T1 at X₁ st1
  have hcellA : T1.heap[T.heap.size]? = some (freshCell cX kX) := by rw [← hT1]; exact State.heap_pushCell_size _ _
  have hT1s : T1.heap.size = T.heap.size + 1 := by rw [← hT1]; exact State.heap_size_pushCell _ _
  have hT1o : ∀ x, x < T.heap.size → T1.heap[x]? = T.heap[x]? := fun x hx => by rw [← hT1]; exact State.heap_pushCell_of_lt _ _ hx
  have hge : s.heap.size ≤ T.heap.size := by rw [hT]; exact hS.1
  have d3' : decode c.code (pc + 3) = .ok (.dup, 1) := by rw [hb]; exact d3
  have d4' : decode c.code (pc + 4) = .ok (.ldc is, 2) := by rw [hb]; exact d4
  have d6' : decode c.code (pc + 6) = .ok (.invokespecial ic, 3) := by rw [hb]; exact d6
  have d9' : decode c.code (pc + 9) = .ok (.athrow, 1) := by rw [hb]; exact d9
  have hcat : (Value.ref T.heap.size).category = 1 := rfl
  obtain ⟨vm₂, ce, L5, X₂, hc1, hc2, hL5, st2⟩ := mx_init X₁ hexec htr hown hcls hYn hnames h0 h1 h2 h5 hat hlocs hfX hkX hcellA hge (msg := .ref sa) rfl
    (g := { method := m, pc := pc + 6, locals := ls, stack := .ref sa :: .ref T.heap.size :: .ref T.heap.size :: rest, locked := none }) rfl hsize (rest := .ref T.heap.size :: rest) rfl d6' hRf
    (by show 2 * 0 + ((Value.ref T.heap.size :: rest).map fun v => v.category).sum + _ ≤ _; simp only [List.map_cons, List.sum_cons, hcat]; omega)
  generalize hT2 : (T1.setVm vm₂).setCell T.heap.size ce = T2 at X₂ st2
  obtain ⟨hwalk, hrun, hend, hW, hsame⟩ := X₂.athrowLeaves hexec (g := { method := m, pc := pc + 9, locals := ls, stack := .ref T.heap.size :: rest, locked := none }) rfl rfl rfl hout (a := T.heap.size) (rest := rest) rfl d9' hlocks
  have hlt : T.heap.size < T1.heap.size := by rw [hT1s]; omega
  have hcell2 : T2.heap[T.heap.size]? = some ce := by
    rw [← hT2]
    simp [State.setCell, State.setVm, Array.getElem?_setIfInBounds, hlt]
  have hsz2 : T2.heap.size = T.heap.size + 1 := by
    rw [← hT2]
    simp [State.setCell, State.setVm, hT1s]
  have hold2 : ∀ x, x < T.heap.size → T2.heap[x]? = T.heap[x]? := fun x hx => by
    rw [← hT1o x hx, ← hT2]
    simp [State.setCell, State.setVm, Array.getElem?_setIfInBounds, show ¬ T.heap.size = x by omega]
  have hq := kk (T2.setFrames (.throwing T.heap.size :: below)) T.heap.size ce (locs ++ L5) hrun hend hW hsame (fun z hz => by
      rcases List.mem_append.mp hz with h | h
      · exact hS.2.2 z h
      · rw [hL5 z h]; exact hA _ hge) hcell2 hc2 (by rw [hc1]; exact hfX) (by show H.size ≤ T2.heap.size; rw [hsz2, hT]; omega) (fun x hx => by
      show T2.heap[x]? = H[x]?
      rw [← hT] at hx ⊢
      exact hold2 x hx)
  refine ⟨_, st1 _ ?_, hq⟩
  show Steps p.tables e below (T1.setTop { method := m, pc := pc + 3, locals := ls, stack := .ref T.heap.size :: rest, locked := none }) _
  jvm_step X₁.here [X₁.here.top, hexec, d3', Value.category]
  exact X₁.ldcString hexec (own := own) (text := text) (index := is) (a := sa) hown hstr hev
    (g := { method := m, pc := pc + 4, locals := ls, stack := .ref T.heap.size :: .ref T.heap.size :: rest, locked := none }) rfl d4' _ (st2 _ hwalk)
end MXt
end
section
/-! what a throw asks of the heap: two statics of Throwable, in a cell that is none of ours -/
def mx_Z (C n d : String) (A : Nat → Prop) (U : State) (H : Heap) : Prop := ∃ (c : ClassId) (k : Class) (i : Nat) (f : Field) (a : Nat) (cell : Cell) (v : Value), U.vm.findClass C = some c ∧ U.fieldFound? C n d = some (c, k, i, f) ∧ f.isStatic = true ∧ k.statics = some a ∧ H[a]? = some cell ∧ cell.vm.isStatics = true ∧ cell.cls = c ∧ f.slot < cell.slots.size ∧ k.staticTypes[f.slot]? = some f.type ∧ cell.slots[f.slot]? = some v ∧ v.isRef = true ∧ ¬ A a
theorem mx_Z.moved {C n d : String} {A : Nat → Prop} {u U : State} {H : Heap} (hvm : u.vm.Alike U.vm) (h : mx_Z C n d A u H) : mx_Z C n d A U H := by
  obtain ⟨c, k, i, f, a, cell, v, h1, h2, h3, h4, h5, h6, h7, h8, h9, h10, h11, h12⟩ := h
  obtain ⟨k', hi', he⟩ := State.fieldFound?_setVm hvm h2
  exact ⟨c, k', i, f, a, cell, v, by rw [hvm.findClass]; exact h1, hi', h3, by rw [he]; exact h4, h5, h6, h7, h8, by rw [he]; exact h9, h10, h11, h12⟩
theorem mx_Z.kept {C n d : String} {A : Nat → Prop} {U : State} {H H1 : Heap} (h : mx_Z C n d A U H) (hq : ∀ a : Nat, a < H.size → ¬ A a → H1[a]? = H[a]?) : mx_Z C n d A U H1 := by
  obtain ⟨c, k, i, f, a, cell, v, h1, h2, h3, h4, h5, h6, h7, h8, h9, h10, h11, h12⟩ := h
  exact ⟨c, k, i, f, a, cell, v, h1, h2, h3, h4, by rw [hq a (Array.getElem?_eq_some_iff.mp h5).1 h12]; exact h5, h6, h7, h8, h9, h10, h11, h12⟩
theorem mx_Z.narrow {C n d : String} {A B : Nat → Prop} {U : State} {H : Heap} (h : mx_Z C n d A U H) (hAB : ∀ q, q < H.size → B q → A q) : mx_Z C n d B U H := by
  obtain ⟨c, k, i, f, a, cell, v, h1, h2, h3, h4, h5, h6, h7, h8, h9, h10, h11, h12⟩ := h
  exact ⟨c, k, i, f, a, cell, v, h1, h2, h3, h4, h5, h6, h7, h8, h9, h10, h11, fun z => h12 (hAB _ (Array.getElem?_eq_some_iff.mp h5).1 z)⟩
theorem mx_Z.lays {C n d : String} {A : Nat → Prop} {s : State} {args : Array Value} (h : mx_Z C n d A s s.heap) : (Cond.laysStatic C n d).before args s = true := by
  obtain ⟨c, k, i, f, a, cell, v, h1, h2, h3, h4, h5, h6, h7, h8, h9, -⟩ := h
  show (Cond.laysStatic C n d).holds args s none s [] = true
  exact Cond.laysStatic_of h1 h2 h3 h4 h5 h6 h7 h8 h9
theorem mx_Z.isRef {C n d : String} {A : Nat → Prop} {s : State} {args : Array Value} (h : mx_Z C n d A s s.heap) : (Cond.isRef (.static C n d)).before args s = true := by
  obtain ⟨c, k, i, f, a, cell, v, h1, h2, h3, h4, h5, h6, h7, h8, h9, h10, h11, -⟩ := h
  have he : (Term.static C n d).eval args s none [] s = some v := by
    simp [Term.eval, State.fieldNamed?, h2, h3, h4, h5, h6, h10]
  simp only [Cond.before, Cond.holds, Cond.value, he]
  cases v <;> simp_all [Value.isRef]
theorem mx_Z.of {C n d : String} {A : Nat → Prop} {s : State} {args : Array Value} (hl : (Cond.laysStatic C n d).before args s = true) (hr : (Cond.isRef (.static C n d)).before args s = true) (hA : ∀ a : Nat, a < s.heap.size → ¬ A a) : mx_Z C n d A s s.heap := by
  obtain ⟨c, k, i, f, a, cell, h1, h2, h3, h4, h5, h6, h7, h8, h9⟩ := Cond.laysStatic_spec hl
  obtain ⟨u, hu⟩ := Cond.staticRefV (args := args) (first := s) (o := none) (idx := []) h2 h3 h4 h5 h6 hr
  exact ⟨c, k, i, f, a, cell, u.v, h1, h2, h3, h4, h5, h6, h7, h8, h9, hu, u.ok, hA a (Array.getElem?_eq_some_iff.mp h5).1⟩
/-- the premises of throws: what superclasses' constructors declare, the texts, the two statics -/
abbrev mx_St : Type := List (String × Nat × String)
def mx_N (dc : List MethodName) (st : mx_St) (sa : Nat → Nat) (A : Nat → Prop) (U : State) (H : Heap) : Prop :=
  (∀ x ∈ dc, va_Nw (.declares x) U) ∧ (∀ q ∈ st, vk_R q.1 q.2.1 q.2.2 (sa q.2.1) U) ∧ mx_Z Bundle.tN "UNASSIGNED_STACK" Bundle.steD A U H ∧ mx_Z Bundle.tN "SUPPRESSED_SENTINEL" Bundle.listD A U H
theorem mx_N.moved {dc : List MethodName} {st : mx_St} {sa : Nat → Nat} {A : Nat → Prop} {s U : State} {H : Heap} (hW : s.WarmedH U.vm) (h : mx_N dc st sa A s H) : mx_N dc st sa A U H :=
  ⟨fun x hx => va_Nw.warmD hW (h.1 x hx), fun q hq => vk_R.warm hW (h.2.1 q hq), h.2.2.1.moved hW.alike, h.2.2.2.moved hW.alike⟩
theorem mx_N.kept {dc : List MethodName} {st : mx_St} {sa : Nat → Nat} {A : Nat → Prop} {U : State} {H H1 : Heap} (h : mx_N dc st sa A U H) (hq : ∀ a : Nat, a < H.size → ¬ A a → H1[a]? = H[a]?) : mx_N dc st sa A U H1 := ⟨h.1, h.2.1, h.2.2.1.kept hq, h.2.2.2.kept hq⟩
theorem mx_N.narrow {dc : List MethodName} {st : mx_St} {sa : Nat → Nat} {A B : Nat → Prop} {U : State} {H : Heap} (h : mx_N dc st sa A U H) (hAB : ∀ q, q < H.size → B q → A q) : mx_N dc st sa B U H := ⟨h.1, h.2.1, h.2.2.1.narrow hAB, h.2.2.2.narrow hAB⟩
theorem mx_N.same {dc : List MethodName} {st : mx_St} {sa : Nat → Nat} {A : Nat → Prop} {u U : State} {H : Heap} (h : u.vm = U.vm) (hN : mx_N dc st sa A u H) : mx_N dc st sa A U H := mx_N.moved (by rw [← h]; exact State.WarmedH.refl u) hN
end
section
/-! calls that return or throw -/
section MXa
variable {p : Program} {l : Launch} {e : Env} {R : Room} {s : State} {m : MethodId} {args : Array Value} {below : List Frame} {meth : Method} {c : Code} {U : State} {locs : List Loc} {cells slots : Nat}
/-- where the caller stands behind a call: the callee's heap and tables, its own frame -/
abbrev mx_U (U t : State) : State := ({ U with heap := t.heap, slotsUsed := t.slotsUsed } : State).setVm t.vm
theorem mx_stand (X : Stand p l e R s m args below meth c U locs cells slots) {g : JFrame} {mk : MethodId} {a : Array Value} {t : State} {L : List Loc} {k n : Nat} (hW : (U.calling g mk a).WarmedH t.vm) (hsm : (U.calling g mk a).sameButNew ({ t with vm := (U.calling g mk a).vm } : State) L k n) :
    Stand p l e R s m args below meth c (mx_U U t) (locs ++ L) (cells + k) (slots + n) := by
  obtain ⟨g0, hg0⟩ := Option.isSome_iff_exists.mp X.here.top
  obtain ⟨r, hr⟩ := State.topJava?_eq_some.mp hg0
  obtain ⟨th, hth, -⟩ := State.frames_cons hr
  have hW' : U.WarmedH t.vm := hW
  obtain ⟨-, q2, q3, q4, q5, q6⟩ := hsm
  have hsame : U.sameButNew ({ U with heap := t.heap, slotsUsed := t.slotsUsed } : State) L k n := by
    refine ⟨?_, q2, q3, q4, q5, q6⟩
    show ({ U with heap := t.heap, slotsUsed := t.slotsUsed } : State) = { U.setFrames U.frames with heap := t.heap, slotsUsed := t.slotsUsed }
    rw [State.setFrames_self hth]
  exact ⟨X.admits, X.cas, X.clock, X.frames, X.room, X.hears, X.method, X.code, (X.here.setHeapUsed t.heap t.slotsUsed).setVm hW'.alike, X.tail, State.WarmedH.trans X.warmed hW', X.limits, X.bytes, X.same.trans (hsame.setVm s.vm)⟩
theorem mx_state {g : JFrame} {mk : MethodId} {a : Array Value} {t : State} {L : List Loc} {k n : Nat} (hsm : (U.calling g mk a).sameButNew ({ t with vm := (U.calling g mk a).vm } : State) L k n) :
    t = ({ (U.calling g mk a).setFrames t.frames with heap := t.heap, slotsUsed := t.slotsUsed } : State).setVm t.vm := by
  have h1 : t = ({ t with vm := (U.calling g mk a).vm } : State).setVm t.vm := rfl
  have h2 := hsm.1
  rw [h2] at h1
  exact h1
theorem mx_ret (X : Stand p l e R s m args below meth c U locs cells slots) {g : JFrame} (hg : g.method = m) {mk : MethodId} {a : Array Value} {t : State} {L : List Loc} {k n : Nat} {v : Option Value} {ig : Instr} {len : Nat} (hdg : decode c.code g.pc = .ok (ig, len)) (hend : Ended t (U.setTop g).frames (.returned v))
    (hW : (U.calling g mk a).WarmedH t.vm) (hsm : (U.calling g mk a).sameButNew ({ t with vm := (U.calling g mk a).vm } : State) L k n) : t = (mx_U U t).setTop { g with pc := g.pc + len, stack := v.toList ++ g.stack } := by
  have h : At U g.method c below := by rw [hg]; exact X.here
  obtain ⟨g0, hg0⟩ := Option.isSome_iff_exists.mp h.top
  obtain ⟨r, hr⟩ := State.topJava?_eq_some.mp hg0
  have hr' : (mx_U U t).frames = .java g0 :: r := hr
  rw [State.frames_setTop' g h.top] at hend
  obtain ⟨c₂, i₂, len₂, hc₂, hd₂, hf₂⟩ := hend
  have hW' : U.WarmedH t.vm := hW
  have hcc : c₂ = c := by
    have h1 : t.code? g.method = U.code? g.method := by rw [State.code?_eq, State.code?_eq, hW'.alike.method?]
    exact Option.some.inj (hc₂.symm.trans (h1.trans h.code))
  subst hcc
  have hlen : len₂ = len := by rw [hdg] at hd₂; cases hd₂; rfl
  subst hlen
  refine (mx_state hsm).trans ?_
  rw [hf₂, State.calling_eq h.top, State.setFrames_setFrames, State.setTop_of_frames _ hr', hr]
  rfl
theorem mx_thr (X : Stand p l e R s m args below meth c U locs cells slots) {g : JFrame} (hg : g.method = m) {mk : MethodId} {a : Array Value} {t : State} {L : List Loc} {k n : Nat} {q : Addr} (hend : Ended t (U.setTop g).frames (.threw q))
    (hsm : (U.calling g mk a).sameButNew ({ t with vm := (U.calling g mk a).vm } : State) L k n) : t = ((mx_U U t).setTop g).pushFrame (.throwing q) := by
  have h : At U g.method c below := by rw [hg]; exact X.here
  obtain ⟨g0, hg0⟩ := Option.isSome_iff_exists.mp h.top
  obtain ⟨r, hr⟩ := State.topJava?_eq_some.mp hg0
  have hr' : (mx_U U t).frames = .java g0 :: r := hr
  rw [State.frames_setTop' g h.top] at hend
  have hf₂ : t.frames = .throwing q :: .java g :: U.frames.tail := hend
  refine (mx_state hsm).trans ?_
  rw [hf₂, State.calling_eq h.top, State.setFrames_setFrames, State.pushFrame, State.frames_setTop _ hr', State.setTop_of_frames _ hr', State.setFrames_setFrames, hr]
  rfl
end MXa
end
section
section MXe
variable {p : Program} {l : Launch} {e : Env} {R : Room} {s : State} {m : MethodId} {args : Array Value} {below : List Frame} {meth : Method} {c : Code} {U : State} {locs : List Loc} {cells slots : Nat}
/-- a callee runs, by its contract -/
theorem mx_enter (X : Stand p l e R s m args below meth c U locs cells slots) {g : JFrame} (hg : g.method = m) (hsize : g.locals.size = c.maxLocals) {ig : Instr} {len : Nat} (hdg : decode c.code g.pc = .ok (ig, len)) {W9 : Nat} (hWt : 2 * g.monitorRoom + (g.stack.map fun v => v.category).sum ≤ W9)
    {y : MethodName} {mk : MethodId} {maxL : Nat} {ws : List Cond} {rm : Room} {Pc : Array Value → State → Prop} {Qm : Array Value → State → Outcome → State → Prop} {a : Array Value} {methY : Method} {cY : Code} (hn : U.methodNamed? y = some mk)
    (hM : MetFree l y (headSpec ws rm) Pc (fun _ _ _ _ _ => True) Qm) (hws : ∀ w ∈ ws, w.before a U = true) (hmY : U.vm.method? mk = some methY) (hcY : methY.code = some cY) (hlY : cY.maxLocals = maxL) (hini : (Cond.initialized y.cls).before a U = true)
    (hframes : rm.frames + 1 ≤ R.frames) (hlocals : W9 + (maxL + 11) + rm.locals ≤ R.locals) (hcells : cells + rm.cells ≤ R.cells) (hslots : slots + rm.slots ≤ R.slots) (hP : Pc a (U.calling g mk a)) :
    ∃ o t, Steps p.tables e below (doInvoke e (U.setTop g) [] mk a).1 t ∧ Ended t (U.setTop g).frames o ∧ Qm a (U.calling g mk a) o t := by
  have h : At U g.method c below := by rw [hg]; exact X.here
  obtain ⟨kY, hkY, -⟩ := className_of_methodNamed hn
  have hinitY : kY.init = .initialized := Cond.initialized_spec (findClass_of_methodNamed hn) hkY hini
  have h1 : (headSpec ws rm).pre.before a U = true := atoms_intro hws
  have hl9 : W9 + (maxL + 11) + (headSpec ws rm).room.locals ≤ R.locals := hlocals
  have happ : (headSpec ws rm).appliesLoose y e.platform (U.calling g mk a) = true :=
    Spec.appliesLoose_calling (g := g) h hdg hn hkY hinitY (X.room_calling (g := g) (R' := (headSpec ws rm).room) hsize hmY hcY hframes (by rw [hlY]; omega) hcells hslots) h1
  obtain ⟨mid, hmid⟩ := h.above
  have hfr : (U.setTop g).frames = (.java g :: mid) ++ below := by rw [State.frames_setTop' g h.top, hmid]; rfl
  obtain ⟨o, t, hsteps, -, hend, hq⟩ := Steps.callFree hM p X.admits X.cas X.clock (acts := []) hfr happ hP trivial
  exact ⟨o, t, hsteps, hend, hq⟩
end MXe
/-- the machine over a frame with a throw under way -/
def mx_X (p : Program) (l : Launch) (e : Env) (R : Room) (s : State) (m : MethodId) (args : Array Value) (below : List Frame) (meth : Method) (c : Code) (H : Heap) (locs : List Loc) (cells slots : Nat) (Q : State → Prop) (g : JFrame) (q : Addr) : Prop :=
  ∀ T : State, T.heap = H → Stand p l e R s m args below meth c T locs cells slots → ∃ t, Steps p.tables e below ((T.setTop g).pushFrame (.throwing q)) t ∧ Q t
def mx_Q (D : va_G) (cl : List vw_C) (tys : List (ClassId × FieldType)) (A : Nat → Prop) (ad : Nat → Nat) (a3 : ClassId × ClassId × ClassId) (Y : mm_Y) (exn : Nat → String) (Q : mm_Q) (XQ : Nat → mm_S → Prop) : Array Value → State → Outcome → State → Prop := fun _ st o t =>
  (∃ (v : Option Value) (σ : mm_S) (L : List Loc), o = .returned (v.map (mm_rho ad)) ∧ Q v σ ∧ va_P D cl (mm_wd ad a3 Y σ) t.heap ∧ va_D A (mm_wd ad a3 Y σ) ∧ va_K D cl tys t ∧ va_F A st t ∧ st.WarmedH t.vm ∧ st.sameButNew ({ t with vm := st.vm } : State) L 0 0 ∧ ∀ z ∈ L, A z.base) ∨
  (∃ (q : Addr) (E : Nat) (σ : mm_S) (ce : Cell) (L : List Loc), o = .threw q ∧ XQ E σ ∧ t.heap[q]? = some ce ∧ ce.vm = .none ∧ st.vm.findClass (exn E) = some ce.cls ∧ va_P D cl (mm_wd ad a3 Y σ) t.heap ∧ va_D A (mm_wd ad a3 Y σ) ∧ va_K D cl tys t ∧ va_F A st t ∧ st.WarmedH t.vm ∧ st.sameButNew ({ t with vm := st.vm } : State) L 1 6 ∧ ∀ z ∈ L, A z.base)
section MXc
variable {p : Program} {l : Launch} {e : Env} {R : Room} {s : State} {m : MethodId} {args : Array Value} {below : List Frame} {meth : Method} {c : Code} {H : Heap} {locs : List Loc} {cells slots : Nat} {Qf : State → Prop} {D : va_G} {cl : List vw_C} {tys : List (ClassId × FieldType)} {A A1 : Nat → Prop} {ad : Nat → Nat} {a3 : ClassId × ClassId × ClassId} {Y : mm_Y} {exn : Nat → String} {Q : mm_Q} {XQ : Nat → mm_S → Prop} {cc : ByteArray} {ls : Array Slot} {pc : Nat}
/-- a virtual call of a method that may throw -/
theorem mx_callV (hx : p.tables.exec = Jvm.exec) (hb : c.code = cc) {own C : String} {idx n maxL : Nat} {y : MethodName} {bytes : ByteArray} {ret : Option FieldType} {ws : List Cond} {rm : Room} {Pc : Array Value → State → Prop} {b : Addr} {As rest : List Value}
    (hown : s.vm.findClass own = some m.cls) (hlink : (Cond.methodLink own idx y).before args s = true) (hinst : (Cond.instanceMethod y).before args s = true) (hsel : (Cond.selects C y y).before args s = true) (hcode : (Cond.code y bytes maxL ret).before args s = true) (hini : ∀ (a' : Array Value) (U : State), s.WarmedH U.vm → (Cond.initialized y.cls).before a' U = true)
    (hy : y.cls ≠ "java/lang/invoke/MethodHandle" ∧ y.cls ≠ "java/lang/invoke/VarHandle") (hlen : (parseMethodDescriptor y.desc).map (fun d => d.parameters.length) = some n) (hAs : As.length = n)
    (hM : MetFree l y (headSpec ws rm) Pc (fun _ _ _ _ _ => True) (mx_Q D cl tys A1 ad a3 Y exn Q XQ)) (hws : ∀ w ∈ ws, ∀ (a' : Array Value) (U : State), s.WarmedH U.vm → w.before a' U = true)
    (hrecv : ∃ cellB : Cell, H[b]? = some cellB ∧ cellB.vm.isStatics = false ∧ s.vm.findClass C = some cellB.cls) (hPc : ∀ (U : State) (g : JFrame) (mk : MethodId), U.heap = H → s.WarmedH U.vm → Pc (Value.ref b :: As).toArray (U.calling g mk (Value.ref b :: As).toArray))
    (hsize : ls.size = c.maxLocals) (hW : (rest.map fun v => v.category).sum ≤ 8) (hdg : decode cc pc = .ok (.invokevirtual idx, 3)) (hframes : rm.frames + 1 ≤ R.frames) (hlocals : 8 + (maxL + 11) + rm.locals ≤ R.locals) (hcells : cells + rm.cells ≤ R.cells) (hslots : slots + rm.slots ≤ R.slots)
    (hS : va_S A s.heap H locs) (hA1 : ∀ q, A1 q → A q)
    (kr : ∀ (v : Option Value) (σ : mm_S) (H1 : Heap) (locs1 : List Loc), Q v σ → va_P D cl (mm_wd ad a3 Y σ) H1 → va_D A1 (mm_wd ad a3 Y σ) → va_S A s.heap H1 locs1 → H.size ≤ H1.size → (∀ q : Nat, q < H.size → ¬ A1 q → H1[q]? = H[q]?) → W p l e R s m args below meth c H1 locs1 cells slots Qf (F0 m (pc + 3) ls ((v.map (mm_rho ad)).toList ++ rest)))
    (kt : ∀ (q : Addr) (E : Nat) (σ : mm_S) (ce : Cell) (H1 : Heap) (locs1 : List Loc), XQ E σ → H1[q]? = some ce → ce.vm = .none → s.vm.findClass (exn E) = some ce.cls → va_P D cl (mm_wd ad a3 Y σ) H1 → va_D A1 (mm_wd ad a3 Y σ) → va_S A s.heap H1 locs1 → H.size ≤ H1.size → (∀ q : Nat, q < H.size → ¬ A1 q → H1[q]? = H[q]?) → mx_X p l e R s m args below meth c H1 locs1 (cells + 1) (slots + 6) Qf (F0 m pc ls rest) q) :
    W p l e R s m args below meth c H locs cells slots Qf (F0 m pc ls (As.reverse ++ .ref b :: rest)) := by
  intro T hT X
  obtain ⟨mk, methM, hnamed, hmethM, hstM, habM⟩ := Cond.instanceMethod_spec hinst
  obtain ⟨methM', cM, hmethM', hcM, -, hlM, -, -, -, hsigM⟩ := Cond.code_spec hnamed hcode
  cases hmethM.symm.trans hmethM'
  obtain ⟨cellB, hcB, hoB, hclB⟩ := hrecv
  obtain ⟨c2, r2, m2, q1, q2, q3, q4, kP, hkP, hkPi⟩ := Cond.selects_spec hsel
  cases hclB.symm.trans q1
  cases (State.methodFound?_of_named hnamed hy).symm.trans q2
  cases hnamed.symm.trans q3
  have hselP : selectMethod e.platform s.vm cellB.cls mk = .method mk := by rw [Launch.admits_selectMethod X.admits]; exact q4
  have hln : As.length = methM.sig.parameters.length := by
    rw [hsigM] at hlen
    have := Option.some.inj hlen
    rw [hAs]; exact this.symm
  obtain ⟨vm₁, X₁, hstep₁⟩ := X.invokevirtual hx hown hlink hnamed hmethM hstM hkP hkPi hy (a := b) (cell := cellB) (by rw [hT]; exact hcB)
    (fun z h => by rw [h] at hoB; cases hoB) hselP hmethM habM hkP hkPi (g := F0 m pc ls (As.reverse ++ .ref b :: rest)) rfl (argsL := As) (rest := rest) hln rfl (by rw [hb]; exact hdg)
  have hdg' : decode c.code (F0 m pc ls rest).pc = .ok (.invokevirtual idx, 3) := by rw [hb]; exact hdg
  have hmY : (T.setVm vm₁).vm.method? mk = some methM := by
    have := X₁.warmed.alike.method? (m := mk)
    rw [this]; exact hmethM
  obtain ⟨o, t, hsteps, hend, hq⟩ := mx_enter X₁ (g := F0 m pc ls rest) rfl hsize hdg' (W9 := 8) (lv_room hW) (X₁.named hnamed) hM (fun w hw => hws w hw _ _ X₁.warmed) hmY hcM hlM (hini _ _ X₁.warmed) hframes hlocals hcells hslots (hPc (T.setVm vm₁) _ _ hT X₁.warmed)
  have hst0 : ∀ target, Steps p.tables e below t target → Steps p.tables e below (T.setTop (F0 m pc ls (As.reverse ++ .ref b :: rest))) target := fun target h => hstep₁ _ fun acts => by rw [doInvoke_state]; exact hsteps.trans h
  have hSn : ∀ (L : List Loc), va_F A1 ((T.setVm vm₁).calling (F0 m pc ls rest) mk (Value.ref b :: As).toArray) t → (∀ z ∈ L, A1 z.base) → va_S A s.heap t.heap (locs ++ L) := fun L hF hL => by
    obtain ⟨hz, hk⟩ := hF
    have hz' : H.size ≤ t.heap.size := by rw [← hT]; exact hz
    refine ⟨Nat.le_trans hS.1 hz', fun q h1 h2 => ?_, fun q hq => ?_⟩
    · have h3 := hk q (by show q < T.heap.size; rw [hT]; exact Nat.lt_of_lt_of_le h1 hS.1) (fun z => h2 (hA1 q z))
      have h4 : t.heap[q]? = H[q]? := by rw [← hT]; exact h3
      rw [h4]; exact hS.2.1 q h1 h2
    · rcases List.mem_append.mp hq with h | h
      · exact hS.2.2 q h
      · exact hA1 _ (hL q h)
  have hHn : va_F A1 ((T.setVm vm₁).calling (F0 m pc ls rest) mk (Value.ref b :: As).toArray) t → H.size ≤ t.heap.size ∧ ∀ q : Nat, q < H.size → ¬ A1 q → t.heap[q]? = H[q]? := fun hF => by
    rw [← hT]; exact hF
  rcases hq with ⟨v, σ, L, ho, hQ, hP1, hD1, hK1, hF, hWt, hsm, hL⟩ | ⟨q, E, σ, ce, L, ho, hXQ, hce, hcv, hcl, hP1, hD1, hK1, hF, hWt, hsm, hL⟩
  · subst ho
    have X₂ := mx_stand X₁ hWt hsm
    have hts := mx_ret X₁ (g := F0 m pc ls rest) rfl hdg' hend hWt hsm
    obtain ⟨g1, g2⟩ := hHn hF
    obtain ⟨t2, a1, b1⟩ := kr v σ t.heap (locs ++ L) hQ hP1 hD1 (hSn L hF hL) g1 g2 (mx_U (T.setVm vm₁) t) rfl X₂
    refine ⟨t2, hst0 t2 ?_, b1⟩
    rw [hts]
    exact a1
  · subst ho
    have X₂ := mx_stand X₁ hWt hsm
    have hts := mx_thr X₁ (g := F0 m pc ls rest) rfl hend hsm
    obtain ⟨g1, g2⟩ := hHn hF
    obtain ⟨t2, a1, b1⟩ := kt q E σ ce t.heap (locs ++ L) hXQ hce hcv (by
      have h9 : (T.setVm vm₁).vm.findClass (exn E) = some ce.cls := hcl
      rw [X₁.warmed.alike.findClass] at h9
      exact h9) hP1 hD1 (hSn L hF hL) g1 g2 (mx_U (T.setVm vm₁) t) rfl X₂
    refine ⟨t2, hst0 t2 ?_, b1⟩
    rw [hts]
    exact a1
/-- not caught here -/
theorem mx_out {q : Addr} {rest : List Value} (hout : ∀ x ∈ c.exceptionTable.toList, covers x pc = false) (hlocks : meth.locks = false)
    (kk : ∀ U : State, U.status = .running → Ended U below (.threw q) → s.WarmedH U.vm → s.sameButNew ({ U with vm := s.vm } : State) locs cells slots → U.heap = H → Qf U) : mx_X p l e R s m args below meth c H locs cells slots Qf (F0 m pc ls rest) q := by
  intro T hT X
  obtain ⟨st1, hrun, hend, hW, hsm⟩ := X.leaveThrown q (g := F0 m pc ls rest) rfl rfl rfl hout hlocks
  exact ⟨_, st1, kk _ hrun hend hW hsm hT⟩
/-- caught here -/
theorem mx_catch {q : Addr} {rest : List Value} {E : String} {ce : Cell} {own name : String} (hown : s.vm.findClass own = some m.cls) (pre : List ExceptionTableEntry) (x : ExceptionTableEntry) (suf : List ExceptionTableEntry) (hsplit : c.exceptionTable.toList = pre ++ x :: suf)
    (hpass : ∀ z ∈ pre, z.catchType ≠ 0 ∧ ∃ nm : String, (Cond.classLink own z.catchType nm).before args s = true ∧ (Cond.not (.castable E nm)).before args s = true) (hcov : covers x pc = true) (h0 : x.catchType ≠ 0)
    (hlink : (Cond.classLink own x.catchType name).before args s = true) (hcast : (Cond.castable E name).before args s = true) (hcell : H[q]? = some ce) (hv : ce.vm = .none) (hcl : s.vm.findClass E = some ce.cls)
    (kk : W p l e R s m args below meth c H locs cells slots Qf (F0 m x.handlerPc ls [.ref q])) : mx_X p l e R s m args below meth c H locs cells slots Qf (F0 m pc ls rest) q := by
  intro T hT X
  have hpl : e.platform.magicAccessors = ({} : Platform).magicAccessors := by rw [X.admits.platform]
  obtain ⟨c3, c4, hc3, hc4, hasg⟩ := Cond.castable_spec hcast
  cases Option.some.inj (hc3.symm.trans hcl)
  obtain ⟨c5, hc5, hcl5⟩ := Cond.classLink_spec hown hlink e.platform hpl
  cases Option.some.inj (hc4.symm.trans hc5)
  obtain ⟨vm', X', st⟩ := X.thenCaughtThrough q (g := F0 m pc ls rest) rfl (Steps.refl _) (by rw [hT]; exact hcell) (by rw [hv]; rfl) (by obtain ⟨k9, h9, -⟩ := Vm.findClass_spec hcl; exact ⟨k9, h9⟩) pre x suf hsplit
    (fun z hz => by
      obtain ⟨hz0, nm, hl1, hn1⟩ := hpass z hz
      exact RowPassed.of_words hpl hown hz0 hl1 hcl hn1) hcov (Or.inr ⟨h0, c4, hcl5, hasg⟩)
  obtain ⟨t, a1, b1⟩ := kk (T.setVm vm') hT X'
  exact ⟨t, st.trans a1, b1⟩
end MXc
end
section
/-! calls of the small machine's methods out of a walk with any end -/
section MXh
variable {l : Launch} {Ts : List Cond} {nm : Nat → MethodName} {by_ : Nat → ByteArray} {mx : Nat → Nat} {D : va_G} {cl : List vw_C} {cI cZ cG : ClassId} {ad : Nat → Nat} {Y : mm_Y} {B : mm_C} {yM ym : Nat}
variable {p : Program} {e : Env} {R : Room} {s : State} {m : MethodId} {args : Array Value} {below : List Frame} {meth : Method} {c : Code} {cc : ByteArray} {own : String} {nL d : Nat} {M : mm_M} {Qf : State → Prop} {σ : mm_S}
set_option maxHeartbeats 4000000 in
theorem mx_hc1
    (hMn : nm yM = Lib.Math.max.name ∧ by_ yM = Lib.Math.max.code ∧ mx yM = 2 ∧ (mm_me Y yM).2.2.2.2 = 1 ∧ (mm_me Y yM).1 = []) (hmn : nm ym = Lib.Math.min.name ∧ by_ ym = Lib.Math.min.code ∧ mx ym = 2 ∧ (mm_me Y ym).2.2.2.2 = 1 ∧ (mm_me Y ym).1 = [])
    (hB : ∀ y as σ Q, B y as σ Q → (y ≠ yM ∧ y ≠ ym ∧ ∀ d, mm_T l Ts nm by_ mx D cl [(cI, .int), (cZ, .boolean), (cG, .array .int)] ad (cI, cZ, cG) Y d y as σ Q) ∨ (y = yM ∧ ∃ x z, as = [.int x, .int z] ∧ Q (some (.int (if x < z then z else x))) σ) ∨ (y ≠ yM ∧ y = ym ∧ ∃ x z, as = [.int x, .int z] ∧ Q (some (.int (if z < x then z else x))) σ))
    (hTT : ∀ y as σ Q, y ≠ yM → y ≠ ym → mm_D Y B mx d y as σ Q → mm_T l Ts nm by_ mx D cl [(cI, .int), (cZ, .boolean), (cG, .array .int)] ad (cI, cZ, cG) Y d y as σ Q)
    (hx : p.tables.exec = Jvm.exec) (hb : c.code = cc) (hml : c.maxLocals = nL) (hown : s.vm.findClass own = some m.cls) (hts : ∀ w ∈ Ts, w.before args s = true) (hK : va_K D cl [(cI, .int), (cZ, .boolean), (cG, .array .int)] s)
    (hG : ∀ y', Cond.code (nm y') (by_ y') (mx y') (mm_rty (mm_me Y y').2.2.2.2) ∈ Ts → GoodIn Ts (mm_ws Ts nm by_ mx Y y')) (hk : ∀ q ∈ M.2.2.2.1, mm_kok Ts nm by_ mx cl Y own q) (hRf : d + 1 ≤ R.frames) (hRl : 40 * (d + 1) ≤ R.locals) (hG0 : mm_G ad (va_A (mm_wd ad (cI, cZ, cG) Y σ) s.heap.size) s s.heap) :
    ∀ (pc idx : Nat) (L : List (Option Value)) (S : List Value) (σ1 : mm_S), decode cc pc = .ok (.invokevirtual idx, 3) → mm_call Y (mm_D Y B mx d) M idx 1 S σ1 (fun S' σ' => mm_V p l e R s m args below meth c D cl (va_A (mm_wd ad (cI, cZ, cG) Y σ) s.heap.size) ad (cI, cZ, cG) Y nL Qf (pc + 3) L S' σ') → mm_V p l e R s m args below meth c D cl (va_A (mm_wd ad (cI, cZ, cG) Y σ) s.heap.size) ad (cI, cZ, cG) Y nL Qf pc L S σ1 := by
  intro pc idx L S σ1 hdg hcall
  obtain ⟨y', n, ci, as', r, hlk, rfl, hln, hc8, hrc, hC⟩ := mm_call_el hcall
  obtain ⟨k, as2, fs, rfl, hkd, hci⟩ := mm_rcv_el hrc
  obtain ⟨hmx, hcode, hlink, hini, hd, -, hvir⟩ := hk _ (mm_look_mem hlk)
  obtain ⟨hinst, hsel, Tc, Nc, hclc⟩ := hvir hci
  obtain ⟨hr8, hrcat⟩ := mm_c1_el hc8
  have hnB : ∀ (Q9 : mm_Q), mm_D Y B mx d y' (.ref k :: as2) σ1 Q9 → y' ≠ yM ∧ y' ≠ ym := by
    intro Q9 h9
    have hbb : ∀ y9, (mm_me Y y9).1 = [] → mm_D Y B mx d y9 (.ref k :: as2) σ1 Q9 → B y9 (.ref k :: as2) σ1 Q9 := by
      intro y9 he h8
      cases d with
      | zero => exact h8
      | succ d => exact h8.elim id (fun h7 => (mm_W_nil he h7.2).elim)
    constructor
    · intro e9
      subst e9
      rcases hB _ _ _ _ (hbb _ hMn.2.2.2.2 h9) with ⟨h7, -⟩ | ⟨-, x, z, h7, -⟩ | ⟨h7, -⟩
      · exact h7 rfl
      · cases h7
      · exact h7 rfl
    · intro e9
      subst e9
      rcases hB _ _ _ _ (hbb _ hmn.2.2.2.2 h9) with ⟨-, h7, -⟩ | ⟨-, x, z, h7, -⟩ | ⟨-, -, x, z, h7, -⟩
      · exact h7 rfl
      · cases h7
      · cases h7
  have hT := hTT y' (.ref k :: as2) σ1 _ (hnB _ hC).1 (hnB _ hC).2 hC
  intro H locs ls hP1 hD1 hS1 hl1
  have hM := hT H.size
  have he : (mm_wd ad (cI, cZ, cG) Y σ1)[k]? = some (ad k, .inr (ci, mm_fv ad (σ1 k) 0 fs)) := by
    rw [mm_wd_get (mm_kd_lt (by rw [hkd]; exact fun z => nomatch z))]; simp only [mm_ce, hkd]
  have hstk : ((Value.ref k :: as2).reverse ++ r).map (mm_rho ad) = (as2.map (mm_rho ad)).reverse ++ .ref (ad k) :: r.map (mm_rho ad) := by
    simp [mm_rho]
  rw [hstk]
  refine mm_goon (va_runV (C := (nm y').cls) (b := ad k) (As := as2.map (mm_rho ad)) (rest := r.map (mm_rho ad)) (n := n) ⟨hx, hb, hml, hown, hts⟩ hM ⟨callB_of n hts (hG y' hcode) rfl rfl rfl (hts _ hini) (hts _ hlink) hd ⟨hRf, by show 8 + (mx y' + 11) + 40 * d ≤ R.locals; have := hmx; dsimp only at this; omega⟩, hts _ hinst, hts _ hsel⟩
    ⟨fun a U g mk q => by obtain ⟨q0, q1, qP, qK, qD, qG⟩ := q; exact ⟨q0, q1, qP, va_K.moved (u := U) (U := U.calling g mk a) (Vm.Alike.refl U.vm) qK, qD, mm_G.moved (u := U) (U := U.calling g mk a) (Vm.Alike.refl U.vm) qG⟩, va_recv hK hP1 hclc he, fun U hU hW => ⟨rfl, by rw [hU], by rw [hU]; exact hP1, va_K.moved hW.alike hK, hD1.weaken (fun _ _ _ _ => trivial), by rw [hU]; exact ((hG0.kept hS1.2.1).narrow (fun q h8 => mm_A_in h8 hS1.1)).moved hW.alike⟩⟩
    rfl (by rw [List.length_map]; simp only [List.length_cons] at hln; omega) hl1.1.1 rfl (lv_room (by rw [mm_cat_le ad r hrcat]; exact hr8)) hdg ⟨Nat.zero_le _, Nat.zero_le _⟩) hS1 (fun q hq => mm_A_in hq hS1.1) (fun v σ' H1 locs1 hq hP2 hD2 hS2 => ?_)
  rw [mm_rho_toList]
  exact hq H1 locs1 ls hP2 hD2 hS2 hl1
set_option maxHeartbeats 4000000 in
theorem mx_hc0
    (hMn : nm yM = Lib.Math.max.name ∧ by_ yM = Lib.Math.max.code ∧ mx yM = 2 ∧ (mm_me Y yM).2.2.2.2 = 1 ∧ (mm_me Y yM).1 = []) (hmn : nm ym = Lib.Math.min.name ∧ by_ ym = Lib.Math.min.code ∧ mx ym = 2 ∧ (mm_me Y ym).2.2.2.2 = 1 ∧ (mm_me Y ym).1 = [])
    (hB : ∀ y as σ Q, B y as σ Q → (y ≠ yM ∧ y ≠ ym ∧ ∀ d, mm_T l Ts nm by_ mx D cl [(cI, .int), (cZ, .boolean), (cG, .array .int)] ad (cI, cZ, cG) Y d y as σ Q) ∨ (y = yM ∧ ∃ x z, as = [.int x, .int z] ∧ Q (some (.int (if x < z then z else x))) σ) ∨ (y ≠ yM ∧ y = ym ∧ ∃ x z, as = [.int x, .int z] ∧ Q (some (.int (if z < x then z else x))) σ))
    (hTT : ∀ y as σ Q, y ≠ yM → y ≠ ym → mm_D Y B mx d y as σ Q → mm_T l Ts nm by_ mx D cl [(cI, .int), (cZ, .boolean), (cG, .array .int)] ad (cI, cZ, cG) Y d y as σ Q)
    (hx : p.tables.exec = Jvm.exec) (hb : c.code = cc) (hml : c.maxLocals = nL) (hown : s.vm.findClass own = some m.cls) (hts : ∀ w ∈ Ts, w.before args s = true) (hK : va_K D cl [(cI, .int), (cZ, .boolean), (cG, .array .int)] s)
    (hG : ∀ y', Cond.code (nm y') (by_ y') (mx y') (mm_rty (mm_me Y y').2.2.2.2) ∈ Ts → GoodIn Ts (mm_ws Ts nm by_ mx Y y')) (hk : ∀ q ∈ M.2.2.2.1, mm_kok Ts nm by_ mx cl Y own q) (hRf : d + 1 ≤ R.frames) (hRl : 40 * (d + 1) ≤ R.locals) (hG0 : mm_G ad (va_A (mm_wd ad (cI, cZ, cG) Y σ) s.heap.size) s s.heap) :
    ∀ (pc idx : Nat) (L : List (Option Value)) (S : List Value) (σ1 : mm_S), decode cc pc = .ok (.invokestatic idx, 3) → mm_call Y (mm_D Y B mx d) M idx 0 S σ1 (fun S' σ' => mm_V p l e R s m args below meth c D cl (va_A (mm_wd ad (cI, cZ, cG) Y σ) s.heap.size) ad (cI, cZ, cG) Y nL Qf (pc + 3) L S' σ') → mm_V p l e R s m args below meth c D cl (va_A (mm_wd ad (cI, cZ, cG) Y σ) s.heap.size) ad (cI, cZ, cG) Y nL Qf pc L S σ1 := by
  intro pc idx L S σ1 hdg hcall
  obtain ⟨y', n, ci, as', r, hlk, rfl, hln, hc8, hrc, hC⟩ := mm_call_el hcall
  obtain ⟨hmx, hcode, hlink, hini, hd, hst, -⟩ := hk _ (mm_look_mem hlk)
  obtain ⟨hr8, hrcat⟩ := mm_c1_el hc8
  have h99 : ci = 99 := Nat.eq_of_beq_eq_true hrc
  have hbb : ∀ y9 Q9, (mm_me Y y9).1 = [] → mm_D Y B mx d y9 as' σ1 Q9 → B y9 as' σ1 Q9 := by
    intro y9 Q9 he h8
    cases d with
    | zero => exact h8
    | succ d => exact h8.elim id (fun h7 => (mm_W_nil he h7.2).elim)
  by_cases hyM : y' = yM
  · subst hyM
    rcases hB _ _ _ _ (hbb _ _ hMn.2.2.2.2 hC) with ⟨h7, -⟩ | ⟨-, x, z, rfl, hq⟩ | ⟨h7, -⟩
    · exact absurd rfl h7
    · intro H locs ls hP1 hD1 hS1 hl1
      have hq' := hq H locs ls hP1 hD1 hS1 hl1
      have hst' := hts _ (hst h99)
      have hlink' := hts _ hlink
      have hini' := hts _ hini
      have hcode' := hts _ hcode
      dsimp only at hst' hlink' hini' hcode'
      rw [hMn.1] at hst' hlink' hini'
      rw [hMn.1, hMn.2.1, hMn.2.2.1, hMn.2.2.2.1] at hcode'
      exact va_mmax hx hb (hml.trans hl1.1.1.symm) hown hlink' hst' hini' hcode' (by omega) (by show ((r.map (mm_rho ad)).map fun v => v.category).sum + 13 ≤ R.locals; rw [mm_cat_le ad r hrcat]; omega) (Nat.zero_le _) (Nat.zero_le _) hdg hq'
    · exact absurd rfl h7
  by_cases hym : y' = ym
  · subst hym
    rcases hB _ _ _ _ (hbb _ _ hmn.2.2.2.2 hC) with ⟨-, h7, -⟩ | ⟨h7, -⟩ | ⟨-, -, x, z, rfl, hq⟩
    · exact absurd rfl h7
    · exact absurd h7 hyM
    · intro H locs ls hP1 hD1 hS1 hl1
      have hq' := hq H locs ls hP1 hD1 hS1 hl1
      have hst' := hts _ (hst h99)
      have hlink' := hts _ hlink
      have hini' := hts _ hini
      have hcode' := hts _ hcode
      dsimp only at hst' hlink' hini' hcode'
      rw [hmn.1] at hst' hlink' hini'
      rw [hmn.1, hmn.2.1, hmn.2.2.1, hmn.2.2.2.1] at hcode'
      exact va_mmin hx hb (hml.trans hl1.1.1.symm) hown hlink' hst' hini' hcode' (by omega) (by show ((r.map (mm_rho ad)).map fun v => v.category).sum + 13 ≤ R.locals; rw [mm_cat_le ad r hrcat]; omega) (Nat.zero_le _) (Nat.zero_le _) hdg hq'
  have hT := hTT y' as' σ1 _ hyM hym hC
  intro H locs ls hP1 hD1 hS1 hl1
  have hM := hT H.size
  have hstk : (as'.reverse ++ r).map (mm_rho ad) = (as'.map (mm_rho ad)).reverse ++ r.map (mm_rho ad) := by simp
  rw [hstk]
  refine mm_goon (va_runS (As := as'.map (mm_rho ad)) (rest := r.map (mm_rho ad)) (n := n) ⟨hx, hb, hml, hown, hts⟩ hM ⟨callB_of n hts (hG y' hcode) rfl rfl rfl (hts _ hini) (hts _ hlink) hd ⟨hRf, by show 8 + (mx y' + 11) + 40 * d ≤ R.locals; have := hmx; dsimp only at this; omega⟩, hts _ (hst h99)⟩
    ⟨fun a U g mk q => by obtain ⟨q0, q1, qP, qK, qD, qG⟩ := q; exact ⟨q0, q1, qP, va_K.moved (u := U) (U := U.calling g mk a) (Vm.Alike.refl U.vm) qK, qD, mm_G.moved (u := U) (U := U.calling g mk a) (Vm.Alike.refl U.vm) qG⟩, fun U hU hW => ⟨rfl, by rw [hU], by rw [hU]; exact hP1, va_K.moved hW.alike hK, hD1.weaken (fun _ _ _ _ => trivial), by rw [hU]; exact ((hG0.kept hS1.2.1).narrow (fun q h8 => mm_A_in h8 hS1.1)).moved hW.alike⟩⟩
    rfl (by rw [List.length_map]; omega) hl1.1.1 rfl (lv_room (by rw [mm_cat_le ad r hrcat]; exact hr8)) hdg ⟨Nat.zero_le _, Nat.zero_le _⟩) hS1 (fun q hq => mm_A_in hq hS1.1) (fun v σ' H1 locs1 hq hP2 hD2 hS2 => ?_)
  rw [mm_rho_toList]
  exact hq H1 locs1 ls hP2 hD2 hS2 hl1
end MXh
end
section
/-! methods that may throw -/
abbrev mx_C : Type := Nat → List Value → mm_S → mm_Q → (Nat → mm_S → Prop) → Prop
/-- th: where it throws what; xc: where it calls a method that may throw -/
def mx_one (Y : mm_Y) (C : mm_C) (CX : mx_C) (M : mm_M) (th xc : List (Nat × Nat)) (Q : mm_Q) (XQ : Nat → mm_S → Prop) (X : mm_X) : mm_X := fun pc L S σ => match mm_look th pc with
  | some E => mm_c1 8 S = true ∧ XQ E σ
  | none => match mm_look xc pc with
    | some y => match S with
      | [.ref k] => mm_rcv Y 1 0 [.ref k] = true ∧ CX y [.ref k] σ (fun v σ' => X (pc + 3) L v.toList σ') XQ
      | _ => False
    | none => mm_one Y C M Q X pc L S σ
def mx_W (Y : mm_Y) (C : mm_C) (CX : mx_C) (M : mm_M) (th xc : List (Nat × Nat)) (Q : mm_Q) (XQ : Nat → mm_S → Prop) : mm_X := fun pc L S σ => ∀ X : mm_X, (∀ pc L S σ, mx_one Y C CX M th xc Q XQ X pc L S σ → X pc L S σ) → X pc L S σ
def mx_site (Ts : List Cond) (dc : List MethodName) (st : mx_St) (exn : Nat → String) (cc : ByteArray) (own : String) (q : Nat × Nat) : Prop := ∃ (ik is ic ix : Nat) (text Yn : String) (names : List String) (by1 : ByteArray),
  (decode cc q.1 = .ok (.new ik, 3) ∧ decode cc (q.1 + 3) = .ok (.dup, 1) ∧ decode cc (q.1 + 4) = .ok (.ldc is, 2) ∧ decode cc (q.1 + 6) = .ok (.invokespecial ic, 3) ∧ decode cc (q.1 + 9) = .ok (.athrow, 1)) ∧
  (Bundle.fit (exn q.2) = true ∧ Bundle.fit Yn = true ∧ (∀ n ∈ names, Bundle.fit n = true) ∧ names.length ≤ 1) ∧
  (decode by1 0 = .ok (.aload_n 0, 1) ∧ decode by1 1 = .ok (.aload_n 1, 1) ∧ decode by1 2 = .ok (.invokespecial ix, 3) ∧ decode by1 5 = .ok (.return_, 1)) ∧
  Cond.classLink own ik (exn q.2) ∈ Ts ∧ Cond.initialized (exn q.2) ∈ Ts ∧ (own, is, text) ∈ st ∧
  (∀ w ∈ mx_at own ic (exn q.2) Yn ix by1 names, w ∈ Ts ∨ (∃ x ∈ dc, w = .declares x) ∨ w = .laysStatic Bundle.tN "UNASSIGNED_STACK" Bundle.steD ∨ w = .laysStatic Bundle.tN "SUPPRESSED_SENTINEL" Bundle.listD ∨ w = .isRef (.static Bundle.tN "UNASSIGNED_STACK" Bundle.steD) ∨ w = .isRef (.static Bundle.tN "SUPPRESSED_SENTINEL" Bundle.listD))
def mx_xok (Ts : List Cond) (nm : Nat → MethodName) (by_ : Nat → ByteArray) (mx : Nat → Nat) (cl : List vw_C) (cc : ByteArray) (own : String) (q : Nat × Nat) : Prop := ∃ (idx : Nat), decode cc q.1 = .ok (.invokevirtual idx, 3) ∧ mx q.2 ≤ 21 ∧ Cond.code (nm q.2) (by_ q.2) (mx q.2) none ∈ Ts ∧ Cond.methodLink own idx (nm q.2) ∈ Ts ∧ Cond.initialized (nm q.2).cls ∈ Ts ∧
  ((nm q.2).cls ≠ "java/lang/invoke/MethodHandle" ∧ (nm q.2).cls ≠ "java/lang/invoke/VarHandle") ∧ (parseMethodDescriptor (nm q.2).desc).map (fun d => d.parameters.length) = some 0 ∧ Cond.instanceMethod (nm q.2) ∈ Ts ∧ Cond.selects (nm q.2).cls (nm q.2) (nm q.2) ∈ Ts ∧ ∃ T N, cl[0]? = some ((nm q.2).cls, T, N)
def mx_rm (d : Nat) : Room := { frames := d + 8, cells := 1, slots := 6, locals := 40 * d + 200 }
def mx_ws (Ts : List Cond) (nm : Nat → MethodName) (by_ : Nat → ByteArray) (mx : Nat → Nat) (ret : Nat) (y : Nat) : List Cond := .code (nm y) (by_ y) (mx y) (mm_rty ret) :: Ts
def mx_T (l : Launch) (Ts : List Cond) (nm : Nat → MethodName) (by_ : Nat → ByteArray) (mx : Nat → Nat) (D : va_G) (cl : List vw_C) (tys : List (ClassId × FieldType)) (ad : Nat → Nat) (a3 : ClassId × ClassId × ClassId) (Y : mm_Y) (dc : List MethodName) (st : mx_St) (sa : Nat → Nat) (exn : Nat → String) (ret d y : Nat) (as : List Value) (σ : mm_S) (Q : mm_Q) (XQ : Nat → mm_S → Prop) : Prop :=
  ∀ sz, MetFree l (nm y) (headSpec (mx_ws Ts nm by_ mx ret y) (mx_rm d)) (va_Pc (as.map (mm_rho ad)) (fun U => mm_B D cl tys ad a3 Y σ sz U ∧ mx_N dc st sa (va_A (mm_wd ad a3 Y σ) sz) U U.heap)) (fun _ _ _ _ _ => True) (mx_Q D cl tys (va_A (mm_wd ad a3 Y σ) sz) ad a3 Y exn Q XQ)
theorem mx_nostat {D : va_G} {cl : List vw_C} {ws : va_W} {H : Heap} (hP : va_P D cl ws H) {q : Nat} {cell : Cell} (h : va_A ws H.size q) (hc : H[q]? = some cell) : cell.vm.isStatics = false := by
  rcases h with ⟨k, e9, h9⟩ | h9
  · have h8 := hP k (q, e9) h9
    cases e9 with
    | inl a =>
      have h7 : H[q]? = some (vp_cell a.1 a.2) := h8
      cases Option.some.inj (hc.symm.trans h7)
      obtain ⟨cA, n, z⟩ := a
      rcases z with z | z | z | z | z <;> rfl
    | inr o =>
      obtain ⟨r, -, cell', h1, -, h3, -⟩ := h8
      cases Option.some.inj (hc.symm.trans h1)
      rw [h3]; rfl
  · have := (Array.getElem?_eq_some_iff.mp hc).1
    omega
section MXs
variable {l : Launch} {Ts : List Cond} {nm : Nat → MethodName} {by_ : Nat → ByteArray} {mx : Nat → Nat} {D : va_G} {cl : List vw_C} {cI cZ cG : ClassId} {ad : Nat → Nat} {Y : mm_Y} {B : mm_C} {yM ym d : Nat} {dc : List MethodName} {st : mx_St} {sa : Nat → Nat} {exn : Nat → String} {nx : Nat → MethodName} {bx : Nat → ByteArray} {mxx : Nat → Nat}
set_option maxHeartbeats 4000000 in
theorem mx_sound (hl : l.stackTraces = false) (hgood : ∀ w ∈ Ts, goodWord w = true)
    (hMn : nm yM = Lib.Math.max.name ∧ by_ yM = Lib.Math.max.code ∧ mx yM = 2 ∧ (mm_me Y yM).2.2.2.2 = 1 ∧ (mm_me Y yM).1 = []) (hmn : nm ym = Lib.Math.min.name ∧ by_ ym = Lib.Math.min.code ∧ mx ym = 2 ∧ (mm_me Y ym).2.2.2.2 = 1 ∧ (mm_me Y ym).1 = [])
    (hB : ∀ y as σ Q, B y as σ Q → (y ≠ yM ∧ y ≠ ym ∧ ∀ d, mm_T l Ts nm by_ mx D cl [(cI, .int), (cZ, .boolean), (cG, .array .int)] ad (cI, cZ, cG) Y d y as σ Q) ∨ (y = yM ∧ ∃ x z, as = [.int x, .int z] ∧ Q (some (.int (if x < z then z else x))) σ) ∨ (y ≠ yM ∧ y = ym ∧ ∃ x z, as = [.int x, .int z] ∧ Q (some (.int (if z < x then z else x))) σ))
    (hTT : ∀ y as σ Q, y ≠ yM → y ≠ ym → mm_D Y B mx d y as σ Q → mm_T l Ts nm by_ mx D cl [(cI, .int), (cZ, .boolean), (cG, .array .int)] ad (cI, cZ, cG) Y d y as σ Q)
    {y : Nat} {M : mm_M} {th xc : List (Nat × Nat)} {CX : mx_C} {as : List Value} {σ : mm_S} {Q : mm_Q} {XQ : Nat → mm_S → Prop}
    (hpl : plainName (nx y).cls = true) (hE : M.1.all (mm_okE (bx y)) = true) (hg : ∀ q ∈ M.2.1, mm_gok cl Ts (nx y).cls q.1 q.2.1 q.2.2) (hp : ∀ q ∈ M.2.2.1, mm_pok Y cl Ts (nx y).cls q.1 q.2.1 q.2.2) (hk : ∀ q ∈ M.2.2.2.1, mm_kok Ts nm by_ mx cl Y (nx y).cls q)
    (hld : ∀ (pc idx len t : Nat) (v : Int32), mm_look M.1 pc = some (.ldc_w idx, len, t, v) → Cond.constant (nx y).cls idx v ∈ Ts) (hth : ∀ q ∈ th, mx_site Ts dc st exn (bx y) (nx y).cls q) (hxc : ∀ q ∈ xc, mx_xok Ts nx bx mxx cl (bx y) (nx y).cls q)
    (hCX : ∀ y' as' σ' Q' XQ', CX y' as' σ' Q' XQ' → ∃ d', d' < d ∧ mx_T l Ts nx bx mxx D cl [(cI, .int), (cZ, .boolean), (cG, .array .int)] ad (cI, cZ, cG) Y dc st sa exn 0 d' y' as' σ' Q' XQ')
    (hc1 : mm_c1 (mxx y) as = true) (h : mx_W Y (mm_D Y B mx d) CX M th xc Q XQ 0 (mm_ent (mxx y) as) [] σ) :
    mx_T l Ts nx bx mxx D cl [(cI, .int), (cZ, .boolean), (cG, .array .int)] ad (cI, cZ, cG) Y dc st sa exn M.2.2.2.2 d y as σ Q XQ := by
  obtain ⟨hlen, hcat⟩ := mm_c1_el hc1
  intro sz
  refine MetFree.of_bodyS (code := bx y) (maxLocals := mxx y) (ret := mm_rty M.2.2.2.2) hpl ?_ ?_
  · intro args s m hpre hn
    obtain ⟨meth, c, h1, h2, h3, h4, h5, h6, -, -⟩ := Cond.code_spec hn (atoms_spec (ws := mx_ws Ts nx bx mxx M.2.2.2.2 y) hpre _ List.mem_cons_self)
    exact ⟨meth, c, h1, h2, h3, h4, h5, h6⟩
  intro p e s m args below meth c s₁ B0 hml hv _
  obtain ⟨rfl, ⟨hsz, hP, hK, hD0, hG0⟩, hN⟩ := hv
  have hh0 : s₁.heap = s.heap := by rw [B0.state]; rfl
  have hts0 := atoms_spec (ws := mx_ws Ts nx bx mxx M.2.2.2.2 y) B0.pre
  have hout : ∀ (pc : Nat), ∀ x ∈ c.exceptionTable.toList, covers x pc = false := by
    obtain ⟨meth9, c9, h1, h2, -, -, -, -, h7, -⟩ := Cond.code_spec B0.named (hts0 _ List.mem_cons_self)
    cases Option.some.inj (h1.symm.trans B0.method)
    cases Option.some.inj (h2.symm.trans (Stand.of_body B0).code)
    intro pc x hx
    rw [Array.isEmpty_iff.mp h7] at hx
    cases hx
  have hx := B0.exec
  have hb := B0.bytes
  have hr := B0.returns
  have hlocks := B0.notSynchronized
  have hts : ∀ w ∈ Ts, w.before (as.map (mm_rho ad)).toArray s = true := fun w hw => hts0 w (List.mem_cons_of_mem _ hw)
  have hown : s.vm.findClass (nx y).cls = some m.cls := findClass_of_methodNamed B0.named
  have hG : ∀ y', Cond.code (nm y') (by_ y') (mx y') (mm_rty (mm_me Y y').2.2.2.2) ∈ Ts → GoodIn Ts (mm_ws Ts nm by_ mx Y y') := fun y' hy' w hw => by
    rcases List.mem_cons.mp hw with h9 | h9
    · subst h9
      exact ⟨hy', good_of_word (hgood _ hy')⟩
    · exact ⟨h9, good_of_word (hgood _ h9)⟩
  subst hsz
  have hD := hD0.self (sz := s.heap.size)
  have hA : ∀ q, s.heap.size ≤ q → va_A (mm_wd ad (cI, cZ, cG) Y σ) s.heap.size q := fun q h => Or.inr h
  have hcat' : ∀ v ∈ as.map (mm_rho ad), v.category = 1 := fun v hv => by
    obtain ⟨w, hw, rfl⟩ := List.mem_map.mp hv
    rw [mm_rho_cat]
    exact hcat w hw
  have hl0 := lv_entry (as.map (mm_rho ad)) (n := mxx y) (by rw [mm_sl_len _ hcat', List.length_map]; exact hlen)
  have body : W p l e (mx_rm d) s m (as.map (mm_rho ad)).toArray below meth c s.heap [] 0 0 (fun t => ∃ o, t.status = .running ∧ Ended t below o ∧ mx_Q D cl [(cI, .int), (cZ, .boolean), (cG, .array .int)] (va_A (mm_wd ad (cI, cZ, cG) Y σ) s.heap.size) ad (cI, cZ, cG) Y exn Q XQ (as.map (mm_rho ad)).toArray s o t) (entryFrame m (as.map (mm_rho ad)).toArray (mxx y)) := by
    rw [lg_entry_eq]
    generalize (lg_sl (as.map (mm_rho ad)) ++ List.replicate (mxx y - (lg_sl (as.map (mm_rho ad))).length) Slot.unset).toArray = ls0 at hl0 ⊢
    have hlh : mm_lh ad ls0 (mxx y) (mm_ent (mxx y) as) := by
      refine ⟨?_, ?_, fun k v hk => hcat v (mm_nth_ent hk)⟩
      · unfold mm_ent
        rw [mm_args_ll ad as 0 _ hcat]
        exact hl0
      · unfold mm_ent
        rw [List.length_append, List.length_map, List.length_replicate]
        omega
    have hQf : ∀ t, MQ below (mm_Qc D cl [(cI, .int), (cZ, .boolean), (cG, .array .int)] (va_A (mm_wd ad (cI, cZ, cG) Y σ) s.heap.size) ad (cI, cZ, cG) Y Q) (as.map (mm_rho ad)).toArray s 0 0 (va_A (mm_wd ad (cI, cZ, cG) Y σ) s.heap.size) t → ∃ o, t.status = .running ∧ Ended t below o ∧ mx_Q D cl [(cI, .int), (cZ, .boolean), (cG, .array .int)] (va_A (mm_wd ad (cI, cZ, cG) Y σ) s.heap.size) ad (cI, cZ, cG) Y exn Q XQ (as.map (mm_rho ad)).toArray s o t := by
      rintro t ⟨o, hrun, hend, ⟨⟨v, σ9, hq, ho, hP9, hD9, hK9⟩, hF9⟩, L, ⟨-, hW9, hs9⟩, hL⟩
      exact ⟨o, hrun, hend, Or.inl ⟨v, σ9, L, ho, hq, hP9, hD9, hK9, hF9, hW9, hs9, hL⟩⟩
    have hV := h (mm_V p l e (mx_rm d) s m (as.map (mm_rho ad)).toArray below meth c D cl (va_A (mm_wd ad (cI, cZ, cG) Y σ) s.heap.size) ad (cI, cZ, cG) Y (mxx y) (fun t => ∃ o, t.status = .running ∧ Ended t below o ∧ mx_Q D cl [(cI, .int), (cZ, .boolean), (cG, .array .int)] (va_A (mm_wd ad (cI, cZ, cG) Y σ) s.heap.size) ad (cI, cZ, cG) Y exn Q XQ (as.map (mm_rho ad)).toArray s o t)) ?_
    · exact hV s.heap [] ls0 hP hD va_S.rf hlh
    intro pc L S σ1 hone
    unfold mx_one at hone
    split at hone
    · rename_i E hlk
      obtain ⟨hc8, hXQ⟩ := hone
      obtain ⟨hr8, hrcat⟩ := mm_c1_el hc8
      obtain ⟨ik, is, ic, ix, text, Yn, names, by1, ⟨d0, d3, d4, d6, d9⟩, ⟨f1, f2, f3, f4⟩, ⟨e0, e1, e2, e5⟩, hclk, hini, hst, hat⟩ := hth _ (mm_look_mem hlk)
      dsimp only at d0 d3 d4 d6 d9 f1 hclk hini hat
      intro H locs ls hP1 hD1 hS1 hl1
      have hvk := hN.2.1 _ hst
      refine mx_throw (A := va_A (mm_wd ad (cI, cZ, cG) Y σ) s.heap.size) (ik := ik) (is := is) (ic := ic) (ix := ix) (text := text) (Yn := Yn) (names := names) (by1 := by1) (cls := exn E) (sa := sa is) hx hb hl hown f1 f2 f3 e0 e1 e2 e5 (hts _ hclk) (hts _ hini) hvk.1 hvk.2 ?_ ?_ hS1 hA (hl1.1.1.trans hml.symm) d0 d3 d4 d6 d9 (hout _) (by show names.length + 4 < d + 8; omega) (by show ((S.map (mm_rho ad)).map fun v => v.category).sum + _ ≤ 40 * d + 200; rw [mm_cat_le ad S hrcat]; omega) (by show 0 + 1 ≤ 1; omega) (by show 0 + 6 ≤ 6; omega) hlocks ?_
      · intro w hw
        rcases hat w hw with h1 | ⟨x, hx1, rfl⟩ | rfl | rfl | rfl | rfl
        · exact hts w h1
        · exact va_Nw.use rfl (hN.1 x hx1)
        · exact hN.2.2.1.lays
        · exact hN.2.2.2.lays
        · exact hN.2.2.1.isRef
        · exact hN.2.2.2.isRef
      · intro x hx1 cell hcell
        exact mx_nostat hP (hS1.2.2 x hx1) hcell
      · intro U q ce L9 hrun hend hW hsm hL9 hce hcv hcl hgr hold
        refine ⟨.threw q, hrun, hend, Or.inr ⟨q, E, σ1, ce, L9, rfl, hXQ, hce, hcv, hcl, ?_, hD1, va_K.moved hW.alike hK, ⟨Nat.le_trans hS1.1 hgr, fun x h1 h2 => ?_⟩, hW, hsm, hL9⟩⟩
        · exact hP1.kept (fun k x hk => hold x.1 ((hP1 k x hk).lt))
        · rw [hold x (Nat.lt_of_lt_of_le h1 hS1.1)]
          exact hS1.2.1 x h1 h2
    · split at hone
      · rename_i y' hlk
        split at hone
        · rename_i k
          obtain ⟨hrc, hcx⟩ := hone
          obtain ⟨k9, r9, fs, ek, hkd, -⟩ := mm_rcv_el hrc
          cases ek
          obtain ⟨idx, hdg, hmx, hcode, hlink, hini, hnm, hdesc, hinst, hsel, Tc, Nc, hclc⟩ := hxc _ (mm_look_mem hlk)
          dsimp only at hdg hmx hcode hlink hini hnm hdesc hinst hsel hclc
          obtain ⟨d', hdd, hT⟩ := hCX _ _ _ _ _ hcx
          intro H locs ls hP1 hD1 hS1 hl1
          have he : (mm_wd ad (cI, cZ, cG) Y σ1)[k]? = some (ad k, .inr (0, mm_fv ad (σ1 k) 0 fs)) := by
            rw [mm_wd_get (mm_kd_lt (by rw [hkd]; exact fun z => nomatch z))]; simp only [mm_ce, hkd]
          have hws : ∀ w ∈ mx_ws Ts nx bx mxx 0 y', ∀ (a' : Array Value) (U : State), s.WarmedH U.vm → w.before a' U = true := fun w hw a' U hW => by
            rcases List.mem_cons.mp hw with h9 | h9
            · subst h9
              exact word_at hW (good_of_word (hgood _ hcode)) (hts _ hcode)
            · exact word_at hW (good_of_word (hgood _ h9)) (hts _ h9)
          refine mx_callV (A1 := va_A (mm_wd ad (cI, cZ, cG) Y σ1) H.size) (n := 0) (b := ad k) (As := []) (rest := []) (rm := mx_rm d') hx hb hown (hts _ hlink) (hts _ hinst) (hts _ hsel) (hts _ hcode) (fun a' U hW => word_at hW (good_of_word (hgood _ hini)) (hts _ hini)) hnm hdesc rfl (hT H.size) hws (va_recv hK hP1 hclc he)
            (fun U g mk hU hW => ⟨rfl, ⟨by show U.heap.size = H.size; rw [hU], by show va_P D cl _ U.heap; rw [hU]; exact hP1, va_K.moved (u := U) (U := U.calling g mk _) (Vm.Alike.refl U.vm) (va_K.moved hW.alike hK), hD1.weaken (fun _ _ _ _ => trivial), mm_G.moved (u := U) (U := U.calling g mk _) (Vm.Alike.refl U.vm) (by show mm_G ad _ U U.heap; rw [hU]; exact ((hG0.kept hS1.2.1).narrow (fun q h8 => mm_A_in h8 hS1.1)).moved hW.alike)⟩, by
              have h9 : mx_N dc st sa (va_A (mm_wd ad (cI, cZ, cG) Y σ1) H.size) U U.heap := by
                rw [hU]
                exact ((hN.kept hS1.2.1).narrow (fun q hq h8 => mm_A_in h8 hS1.1)).moved hW
              exact mx_N.same (u := U) rfl h9⟩)
            (hl1.1.1.trans hml.symm) (by simp) hdg (by show d' + 8 + 1 ≤ d + 8; omega) (by show 8 + (mxx y' + 11) + (40 * d' + 200) ≤ 40 * d + 200; omega) (by show 0 + 1 ≤ 1; omega) (by show 0 + 6 ≤ 6; omega) hS1 (fun q hq => mm_A_in hq hS1.1) ?_ ?_
          · intro v σ' H1 locs1 hq hP2 hD2 hS2 hgr hkeep
            have h9 := hq H1 locs1 ls hP2 (hD2.weaken (fun _ _ _ h8 => mm_A_in h8 hS1.1)) hS2 hl1
            have h8 : (v.map (mm_rho ad)).toList ++ [] = v.toList.map (mm_rho ad) := by cases v <;> rfl
            rw [h8]
            exact h9
          · intro q E σ' ce H1 locs1 hxq hce hcv hcl hP2 hD2 hS2 hgr hkeep
            refine mx_out (hout _) hlocks (fun U hrun hend hW hsm hU => ⟨.threw q, hrun, hend, Or.inr ⟨q, E, σ', ce, locs1, rfl, hxq, by rw [hU]; exact hce, hcv, hcl, by rw [hU]; exact hP2, hD2.weaken (fun _ _ _ h8 => mm_A_in h8 hS1.1), va_K.moved hW.alike hK, ?_, hW, hsm, hS2.2.2⟩⟩)
            exact hS2.F hU
        · exact hone.elim
      · exact mm_step (own := (nx y).cls) (Ts := Ts) hQf hx hb hown hts hK rfl rfl rfl hr hlocks hE (fun idx ci j hq => hg _ (mm_look_mem hq)) (fun idx ci j hq => hp _ (mm_look_mem hq)) hld
          (mx_hc1 hMn hmn hB hTT hx hb hml hown hts hK hG hk (by show d + 1 ≤ d + 8; omega) (by show 40 * (d + 1) ≤ 40 * d + 200; omega) hG0)
          (mx_hc0 hMn hmn hB hTT hx hb hml hown hts hK hG hk (by show d + 1 ≤ d + 8; omega) (by show 40 * (d + 1) ≤ 40 * d + 200; omega) hG0) pc L S σ1 hone
  obtain ⟨t, a1, o, b1, b2, b3⟩ := body s₁ hh0 (Stand.of_body B0)
  exact ⟨t, o, a1, b1, b2, b3⟩
end MXs
end
section
/-! the same with more cells beside, and counts of what has been made: for the law's own walk -/
def lx_wd (ad : Nat → Nat) (a3 : ClassId × ClassId × ClassId) (Y : mm_Y) (ext : va_W) (σ : mm_S) : va_W := mm_wd ad a3 Y σ ++ ext
theorem lx_wd_get {ad : Nat → Nat} {a3 : ClassId × ClassId × ClassId} {Y : mm_Y} {ext : va_W} {σ : mm_S} {k : Nat} (h : k < Y.1.length) : (lx_wd ad a3 Y ext σ)[k]? = some (ad k, mm_ce ad a3 Y σ k) := by
  unfold lx_wd
  rw [List.getElem?_append_left (by simpa [mm_wd] using h)]
  exact mm_wd_get h
theorem lx_wd_set {ad : Nat → Nat} {a3 : ClassId × ClassId × ClassId} {Y : mm_Y} {ext : va_W} {σ : mm_S} {k j : Nat} {x : Int32} {e : va_E} (h : k < Y.1.length) (he : mm_ce ad a3 Y (mm_up σ k j x) k = e) : (lx_wd ad a3 Y ext σ).set k (ad k, e) = lx_wd ad a3 Y ext (mm_up σ k j x) := by
  unfold lx_wd
  rw [List.set_append_left _ _ (by simpa [mm_wd] using h), mm_wd_set he]
def lx_V (p : Program) (l : Launch) (e : Env) (R : Room) (s : State) (m : MethodId) (args : Array Value) (below : List Frame) (meth : Method) (c : Code) (D : va_G) (cl : List vw_C) (A : Nat → Prop) (ad : Nat → Nat) (a3 : ClassId × ClassId × ClassId) (Y : mm_Y) (nL : Nat) (Qf : State → Prop) (ext : va_W) (ce sl : Nat) : mm_X := fun pc L S σ =>
  ∀ (H : Heap) (locs : List Loc) (ls : Array Slot), va_P D cl (lx_wd ad a3 Y ext σ) H → va_D A (lx_wd ad a3 Y ext σ) → va_S A s.heap H locs → mm_lh ad ls nL L → W p l e R s m args below meth c H locs ce sl Qf (F0 m pc ls (S.map (mm_rho ad)))
section LXstep
variable {p : Program} {l : Launch} {e : Env} {R : Room} {s : State} {m : MethodId} {args : Array Value} {below : List Frame} {meth : Method} {c : Code} {D : va_G} {cl : List vw_C} {A : Nat → Prop} {ad : Nat → Nat} {cI cZ cG : ClassId} {CG : String} {Y : mm_Y} {nL : Nat} {M : mm_M} {C : mm_C} {Q : mm_Q} {cc : ByteArray} {Ts : List Cond} {own : String} {tys : List (ClassId × FieldType)} {ext : va_W} {ce sl : Nat}
set_option maxHeartbeats 4000000 in
theorem lx_mstep {Qf : State → Prop} (hret : M.2.2.2.2 = 7) (hx : p.tables.exec = Jvm.exec) (hb : c.code = cc) (hown : s.vm.findClass own = some m.cls) (hts : ∀ w ∈ Ts, w.before args s = true) (hK : va_K D cl tys s) (htI : tys[0]? = some (cI, .int)) (htZ : tys[1]? = some (cZ, .boolean)) (htG : tys[2]? = some (cG, .array .int))
    (htab : M.1.all (mm_okE cc) = true) (hg : ∀ idx ci j, mm_look M.2.1 idx = some (ci, j) → mm_gok cl Ts own idx ci j) (hp : ∀ idx ci j, mm_look M.2.2.1 idx = some (ci, j) → mm_pok Y cl Ts own idx ci j)
    (hld : ∀ (pc idx len t : Nat) (v : Int32), mm_look M.1 pc = some (.ldc_w idx, len, t, v) → Cond.constant own idx v ∈ Ts)
    (hc1 : ∀ (pc idx : Nat) (L : List (Option Value)) (S : List Value) (σ : mm_S), decode cc pc = .ok (.invokevirtual idx, 3) → mm_call Y C M idx 1 S σ (fun S' σ' => lx_V p l e R s m args below meth c D cl A ad (cI, cZ, cG) Y nL Qf ext ce sl (pc + 3) L S' σ') → lx_V p l e R s m args below meth c D cl A ad (cI, cZ, cG) Y nL Qf ext ce sl pc L S σ)
    (hc0 : ∀ (pc idx : Nat) (L : List (Option Value)) (S : List Value) (σ : mm_S), decode cc pc = .ok (.invokestatic idx, 3) → mm_call Y C M idx 0 S σ (fun S' σ' => lx_V p l e R s m args below meth c D cl A ad (cI, cZ, cG) Y nL Qf ext ce sl (pc + 3) L S' σ') → lx_V p l e R s m args below meth c D cl A ad (cI, cZ, cG) Y nL Qf ext ce sl pc L S σ) :
    ∀ pc L S σ, mm_one Y C M Q (lx_V p l e R s m args below meth c D cl A ad (cI, cZ, cG) Y nL Qf ext ce sl) pc L S σ → lx_V p l e R s m args below meth c D cl A ad (cI, cZ, cG) Y nL Qf ext ce sl pc L S σ := by
  intro pc L S σ h
  generalize hV : lx_V p l e R s m args below meth c D cl A ad (cI, cZ, cG) Y nL Qf ext ce sl = V at h hc1 hc0 ⊢
  have hVd : ∀ pc L S σ, V pc L S σ ↔ ∀ (H : Heap) (locs : List Loc) (ls : Array Slot), va_P D cl (lx_wd ad (cI, cZ, cG) Y ext σ) H → va_D A (lx_wd ad (cI, cZ, cG) Y ext σ) → va_S A s.heap H locs → mm_lh ad ls nL L → W p l e R s m args below meth c H locs ce sl Qf (F0 m pc ls (S.map (mm_rho ad))) := by
    intro pc L S σ; rw [← hV]; exact Iff.rfl
  unfold mm_one at h
  cases hI : mm_look M.1 pc with
  | none => simp only [hI] at h
  | some q =>
    obtain ⟨i, len, t, cs⟩ := q
    have hq := List.all_eq_true.mp htab _ (mm_look_mem hI)
    simp only [mm_okE, Bool.and_eq_true, decide_eq_true_eq] at hq
    obtain ⟨hdg, hcst⟩ := hq
    simp only [hI] at h
    cases i
    case iload_n k =>
      replace h := mm_ldi_el h
      obtain ⟨x, h1, h⟩ := h
      rw [hVd] at h ⊢
      intro H locs ls hP hD hS hl
      exact lv_iload_n hx hb hdg rfl (mm_lh_at hl h1) (h H locs ls hP hD hS hl)
    case iload k =>
      replace h := mm_ldi_el h
      obtain ⟨x, h1, h⟩ := h
      rw [hVd] at h ⊢
      intro H locs ls hP hD hS hl
      exact lv_iload hx hb hdg (mm_lh_at hl h1) (h H locs ls hP hD hS hl)
    case aload_n k =>
      replace h := mm_lda_el h
      obtain ⟨x, h1, h⟩ := h
      rw [hVd] at h ⊢
      intro H locs ls hP hD hS hl
      exact lv_aload_n hx hb hdg rfl (mm_lh_at hl h1) (h H locs ls hP hD hS hl)
    case aload k =>
      replace h := mm_lda_el h
      obtain ⟨x, h1, h⟩ := h
      rw [hVd] at h ⊢
      intro H locs ls hP hD hS hl
      exact lv_aload hx hb hdg (mm_lh_at hl h1) (h H locs ls hP hD hS hl)
    case istore_n k =>
      replace h := mm_1_el h
      obtain ⟨x, r, rfl, h⟩ := h
      replace h := mm_sto_el h
      obtain ⟨hi, h⟩ := h
      rw [hVd] at h ⊢
      intro H locs ls hP hD hS hl
      have hn : k.val < nL := by rw [← hl.2.1]; exact hi
      exact lv_istore_n hx hb hdg rfl hl.1 hn rfl (fun ls' h' => h H locs ls' hP hD hS (mm_lh_set hl hn rfl h'))
    case istore k =>
      replace h := mm_1_el h
      obtain ⟨x, r, rfl, h⟩ := h
      replace h := mm_sto_el h
      obtain ⟨hi, h⟩ := h
      rw [hVd] at h ⊢
      intro H locs ls hP hD hS hl
      have hn : k < nL := by rw [← hl.2.1]; exact hi
      exact lv_istore hx hb hdg hl.1 hn rfl (fun ls' h' => h H locs ls' hP hD hS (mm_lh_set hl hn rfl h'))
    case astore_n k =>
      replace h := mm_r_el h
      obtain ⟨x, r, rfl, h⟩ := h
      replace h := mm_sto_el h
      obtain ⟨hi, h⟩ := h
      rw [hVd] at h ⊢
      intro H locs ls hP hD hS hl
      have hn : k.val < nL := by rw [← hl.2.1]; exact hi
      exact lv_astore_n hx hb hdg rfl hl.1 hn rfl (fun ls' h' => h H locs ls' hP hD hS (mm_lh_set (v := .ref x) hl hn rfl h'))
    case astore k =>
      replace h := mm_r_el h
      obtain ⟨x, r, rfl, h⟩ := h
      replace h := mm_sto_el h
      obtain ⟨hi, h⟩ := h
      rw [hVd] at h ⊢
      intro H locs ls hP hD hS hl
      have hn : k < nL := by rw [← hl.2.1]; exact hi
      exact lv_astore hx hb hdg hl.1 hn rfl (fun ls' h' => h H locs ls' hP hD hS (mm_lh_set (v := .ref x) hl hn rfl h'))
    case iinc k n =>
      replace h := mm_ldi_el h
      obtain ⟨x, h1, h⟩ := h
      replace h := mm_sto_el h
      obtain ⟨hi, h⟩ := h
      rw [hVd] at h ⊢
      intro H locs ls hP hD hS hl
      have hn : k < nL := by rw [← hl.2.1]; exact hi
      have hcs : Int32.ofInt n = cs := of_decide_eq_true hcst
      have hm := mm_ll_mem ad L 0 k (.int x) h1
      rw [Nat.zero_add] at hm
      obtain ⟨q, hq⟩ := List.getElem?_of_mem hm
      exact lv_iinc (k := q) hx hb hdg hl.1 hq (by rw [hcs]) hn rfl (fun ls' h' => h H locs ls' hP hD hS (mm_lh_set (v := .int (x + cs)) hl hn rfl h'))
    case iconst n =>
      replace h := (hVd (pc + 1) L (.int cs :: S) σ).mp h
      rw [hVd]
      intro H locs ls hP hD hS hl
      exact lv_iconst hx hb hdg (of_decide_eq_true hcst) (h H locs ls hP hD hS hl)
    case bipush n =>
      replace h := (hVd (pc + 2) L (.int cs :: S) σ).mp h
      rw [hVd]
      intro H locs ls hP hD hS hl
      exact lv_bipush hx hb hdg (of_decide_eq_true hcst) (h H locs ls hP hD hS hl)
    case sipush n =>
      replace h := (hVd (pc + 3) L (.int cs :: S) σ).mp h
      rw [hVd]
      intro H locs ls hP hD hS hl
      exact lv_sipush hx hb hdg (of_decide_eq_true hcst) (h H locs ls hP hD hS hl)
    case iadd =>
      replace h := mm_2_el h
      obtain ⟨x, y, r, rfl, h⟩ := h
      rw [hVd] at h ⊢
      intro H locs ls hP hD hS hl
      exact lv_iadd hx hb hdg (h H locs ls hP hD hS hl)
    case isub =>
      replace h := mm_2_el h
      obtain ⟨x, y, r, rfl, h⟩ := h
      rw [hVd] at h ⊢
      intro H locs ls hP hD hS hl
      exact lv_isub hx hb hdg (h H locs ls hP hD hS hl)
    case imul =>
      replace h := mm_2_el h
      obtain ⟨x, y, r, rfl, h⟩ := h
      rw [hVd] at h ⊢
      intro H locs ls hP hD hS hl
      exact lv_imul hx hb hdg (h H locs ls hP hD hS hl)
    case iand =>
      replace h := mm_2_el h
      obtain ⟨x, y, r, rfl, h⟩ := h
      rw [hVd] at h ⊢
      intro H locs ls hP hD hS hl
      exact lv_iand hx hb hdg (h H locs ls hP hD hS hl)
    case ior =>
      replace h := mm_2_el h
      obtain ⟨x, y, r, rfl, h⟩ := h
      rw [hVd] at h ⊢
      intro H locs ls hP hD hS hl
      exact lv_ior hx hb hdg (h H locs ls hP hD hS hl)
    case ixor =>
      replace h := mm_2_el h
      obtain ⟨x, y, r, rfl, h⟩ := h
      rw [hVd] at h ⊢
      intro H locs ls hP hD hS hl
      exact lv_ixor hx hb hdg (h H locs ls hP hD hS hl)
    case ishl =>
      replace h := mm_2_el h
      obtain ⟨x, y, r, rfl, h⟩ := h
      rw [hVd] at h ⊢
      intro H locs ls hP hD hS hl
      exact lv_ishl hx hb hdg (h H locs ls hP hD hS hl)
    case ishr =>
      replace h := mm_2_el h
      obtain ⟨x, y, r, rfl, h⟩ := h
      rw [hVd] at h ⊢
      intro H locs ls hP hD hS hl
      exact lv_ishr hx hb hdg (h H locs ls hP hD hS hl)
    case iushr =>
      replace h := mm_2_el h
      obtain ⟨x, y, r, rfl, h⟩ := h
      rw [hVd] at h ⊢
      intro H locs ls hP hD hS hl
      exact lv_iushr hx hb hdg rfl (h H locs ls hP hD hS hl)
    case idiv =>
      replace h := mm_2_el h
      obtain ⟨x, y, r, rfl, hne, h⟩ := h
      rw [hVd] at h ⊢
      intro H locs ls hP hD hS hl
      exact lv_idiv hx hb hdg hne (h H locs ls hP hD hS hl)
    case irem =>
      replace h := mm_2_el h
      obtain ⟨x, y, r, rfl, hne, h⟩ := h
      rw [hVd] at h ⊢
      intro H locs ls hP hD hS hl
      exact lv_irem hx hb hdg hne (h H locs ls hP hD hS hl)
    case dup =>
      replace h := mm_d1_el h
      obtain ⟨v, r, rfl, hv, h⟩ := h
      rw [hVd] at h ⊢
      intro H locs ls hP hD hS hl
      exact lv_dup hx hb hdg (by rw [mm_rho_cat]; exact hv) (h H locs ls hP hD hS hl)
    case dup2 =>
      replace h := mm_d2_el h
      obtain ⟨v, w, r, rfl, hv, hw, h⟩ := h
      rw [hVd] at h ⊢
      intro H locs ls hP hD hS hl
      exact lv_dup2_11 hx hb hdg (by rw [mm_rho_cat]; exact hv) (by rw [mm_rho_cat]; exact hw) (h H locs ls hP hD hS hl)
    case pop =>
      replace h := mm_d1_el h
      obtain ⟨v, r, rfl, hv, h⟩ := h
      rw [hVd] at h ⊢
      intro H locs ls hP hD hS hl
      exact lv_pop hx hb hdg (by rw [mm_rho_cat]; exact hv) (h H locs ls hP hD hS hl)
    case iaload =>
      replace h := mm_ir_el h
      obtain ⟨j, k, r, rfl, hia, h⟩ := h
      obtain ⟨n, fs, hkd, hin⟩ := mm_ia_el hia
      rw [hVd] at h ⊢
      intro H locs ls hP hD hS hl
      have he : (lx_wd ad (cI, cZ, cG) Y ext σ)[k]? = some (ad k, .inl (cI, n, .inl (σ k))) := by
        rw [lx_wd_get (mm_kd_lt (by rw [hkd]; exact fun z => nomatch z))]; simp only [mm_ce, hkd]
      exact va_iald hx hb hK hP k 0 he htI hin hdg (h H locs ls hP hD hS hl)
    case baload =>
      replace h := mm_ir_el h
      obtain ⟨j, k, r, rfl, hia, h⟩ := h
      obtain ⟨n, fs, hkd, hin⟩ := mm_za_el hia
      rw [hVd] at h ⊢
      intro H locs ls hP hD hS hl
      have he : (lx_wd ad (cI, cZ, cG) Y ext σ)[k]? = some (ad k, .inl (cZ, n, .inl (σ k))) := by
        rw [lx_wd_get (mm_kd_lt (by rw [hkd]; exact fun z => nomatch z))]; simp only [mm_ce, hkd]
      exact va_zald hx hb hK hP k 1 he htZ hin hdg (h H locs ls hP hD hS hl)
    case aaload =>
      replace h := mm_ir_el h
      obtain ⟨j, k, r, rfl, hia, h⟩ := h
      obtain ⟨n, fs, hkd, hin⟩ := mm_ga_el hia
      rw [hVd] at h ⊢
      intro H locs ls hP hD hS hl
      have he : (lx_wd ad (cI, cZ, cG) Y ext σ)[k]? = some (ad k, .inl (cG, n, .inr (.inr (.inr (.inr (fun j => if j < n then some (ad (k + 1 + j)) else none)))))) := by
        rw [lx_wd_get (mm_kd_lt (by rw [hkd]; exact fun z => nomatch z))]; simp only [mm_ce, hkd]
      have hjn : j.toNatClampNeg < n := Nat.not_le.mp fun q => hin (Or.inr q)
      refine mm_aald hx hb hK hP k 2 he htG hin hdg ?_
      simp only [hjn, if_true]
      exact h H locs ls hP hD hS hl
    case iastore =>
      replace h := mm_iir_el h
      obtain ⟨x, j, k, r, rfl, hia, h⟩ := h
      obtain ⟨n, fs, hkd, hin⟩ := mm_ia_el hia
      rw [hVd] at h ⊢
      intro H locs ls hP hD hS hl
      have he : (lx_wd ad (cI, cZ, cG) Y ext σ)[k]? = some (ad k, .inl (cI, n, .inl (σ k))) := by
        rw [lx_wd_get (mm_kd_lt (by rw [hkd]; exact fun z => nomatch z))]; simp only [mm_ce, hkd]
      have hst : (lx_wd ad (cI, cZ, cG) Y ext σ).set k (ad k, .inl (cI, n, .inl (upd (σ k) j.toNatClampNeg x))) = lx_wd ad (cI, cZ, cG) Y ext (mm_up σ k j.toNatClampNeg x) := by
        refine lx_wd_set (mm_kd_lt (by rw [hkd]; exact fun z => nomatch z)) ?_
        simp only [mm_ce, hkd, mm_up_eq]
      refine va_iast hx hb hK hP hD hS k 0 he htI hin hdg (fun H1 locs1 hP1 hD1 hS1 => ?_)
      rw [hst] at hP1 hD1
      exact h H1 locs1 ls hP1 hD1 hS1 hl
    case bastore =>
      replace h := mm_iir_el h
      obtain ⟨x, j, k, r, rfl, hia, h⟩ := h
      obtain ⟨n, fs, hkd, hin⟩ := mm_za_el hia
      rw [hVd] at h ⊢
      intro H locs ls hP hD hS hl
      have he : (lx_wd ad (cI, cZ, cG) Y ext σ)[k]? = some (ad k, .inl (cZ, n, .inl (σ k))) := by
        rw [lx_wd_get (mm_kd_lt (by rw [hkd]; exact fun z => nomatch z))]; simp only [mm_ce, hkd]
      have hst : (lx_wd ad (cI, cZ, cG) Y ext σ).set k (ad k, .inl (cZ, n, .inl (upd (σ k) j.toNatClampNeg (vp_nar .boolean x)))) = lx_wd ad (cI, cZ, cG) Y ext (mm_up σ k j.toNatClampNeg (vp_nar .boolean x)) := by
        refine lx_wd_set (mm_kd_lt (by rw [hkd]; exact fun z => nomatch z)) ?_
        simp only [mm_ce, hkd, mm_up_eq]
      refine va_zast hx hb hK hP hD hS k 1 he htZ hin hdg (fun H1 locs1 hP1 hD1 hS1 => ?_)
      rw [hst] at hP1 hD1
      exact h H1 locs1 ls hP1 hD1 hS1 hl
    case getfield idx =>
      replace h := mm_r_el h
      obtain ⟨k, r, rfl, h⟩ := h
      replace h := mm_gv_el h
      obtain ⟨ci, j, fs, hlk, hkd, h⟩ := h
      obtain ⟨C0, T, N, hc, hj, hin, hli⟩ := hg idx ci j hlk
      have he : (lx_wd ad (cI, cZ, cG) Y ext σ)[k]? = some (ad k, .inr (ci, mm_fv ad (σ k) 0 fs)) := by
        rw [lx_wd_get (mm_kd_lt (by rw [hkd]; exact fun z => nomatch z))]; simp only [mm_ce, hkd]
      rcases h with ⟨q, hf, h⟩ | ⟨hf, h⟩
      · rw [hVd] at h ⊢
        intro H locs ls hP hD hS hl
        exact va_get (D := D) (ref := (T j).1) hx hb hts hin hown hK hP k he hc j hj (hts _ hli) (fun _ z => z) (mm_fv_ref ad (σ k) fs 0 j q hf) hdg (h H locs ls hP hD hS hl)
      · rw [hVd] at h ⊢
        intro H locs ls hP hD hS hl
        have hv := mm_fv_int ad (σ k) fs 0 j hf
        rw [Nat.zero_add] at hv
        exact va_get (D := D) (ref := (T j).1) hx hb hts hin hown hK hP k he hc j hj (hts _ hli) (fun _ z => z) hv hdg (h H locs ls hP hD hS hl)
    case putfield idx =>
      replace h := mm_ir_el h
      obtain ⟨x, k, r, rfl, h⟩ := h
      replace h := mm_pv_el h
      obtain ⟨ci, j, fs, hlk, hkd, hf, hz, h⟩ := h
      obtain ⟨C0, T, N, ty, hc, hj, hin, hli, hty, hnm, hfin, hd⟩ := hp idx ci j hlk
      have he : (lx_wd ad (cI, cZ, cG) Y ext σ)[k]? = some (ad k, .inr (ci, mm_fv ad (σ k) 0 fs)) := by
        rw [lx_wd_get (mm_kd_lt (by rw [hkd]; exact fun z => nomatch z))]; simp only [mm_ce, hkd]
      have hst : (lx_wd ad (cI, cZ, cG) Y ext σ).set k (ad k, .inr (ci, (mm_fv ad (σ k) 0 fs).set j (.int x))) = lx_wd ad (cI, cZ, cG) Y ext (mm_up σ k j x) := by
        refine lx_wd_set (mm_kd_lt (by rw [hkd]; exact fun z => nomatch z)) ?_
        simp only [mm_ce, hkd, mm_up_eq]
        have q := mm_fv_set ad x fs (σ k) 0 j hf
        rw [Nat.zero_add] at q
        rw [q]
      rw [hVd] at h ⊢
      intro H locs ls hP hD hS hl
      have hnf : narrow (match mm_isZ Y ci j with | true => FieldType.boolean | false => FieldType.int) (.int x) = .int x ∧ fits (match mm_isZ Y ci j with | true => FieldType.boolean | false => FieldType.int) (.int x) = true := by
        cases hz' : mm_isZ Y ci j with
        | false => exact ⟨rfl, rfl⟩
        | true => rcases hz hz' with rfl | rfl <;> exact ⟨rfl, rfl⟩
      refine va_put (D := D) (ref := (T j).1) (v := .int x) hx hb hts hin ty hty hnm hown hK hP hD hS k he hc j hj (hts _ hli) (fun _ z => z) hfin hd hnf.1 hnf.2 (by rw [mm_fv_len]; exact mm_nth_lt hf) hdg (fun H1 locs1 hP1 hD1 hS1 => ?_)
      rw [hst] at hP1 hD1
      exact h H1 locs1 ls hP1 hD1 hS1 hl
    case ldc_w idx =>
      replace h := (hVd (pc + 3) L (.int cs :: S) σ).mp h
      rw [hVd]
      intro H locs ls hP hD hS hl
      exact lv_ldcw hx hb hown (hts _ (hld pc idx len t cs hI)) hdg (h H locs ls hP hD hS hl)
    case goto off =>
      replace h := (hVd t L S σ).mp h
      rw [hVd]
      intro H locs ls hP hD hS hl
      exact lv_goto hx hb hdg (of_decide_eq_true hcst) (h H locs ls hP hD hS hl)
    case ifCond cd off =>
      replace h := mm_1_el h
      obtain ⟨x, r, rfl, h⟩ := h
      have ht : (pc : Int) + off = (t : Int) := of_decide_eq_true hcst
      rw [hVd]
      intro H locs ls hP hD hS hl
      cases cd
      · exact lv_if_eq hx hb hdg ht (fun q => (hVd _ _ _ _).mp (h.1 q) H locs ls hP hD hS hl) (fun q => (hVd _ _ _ _).mp (h.2 q) H locs ls hP hD hS hl)
      · exact lv_if_ne hx hb hdg ht (fun q => (hVd _ _ _ _).mp (h.2 q) H locs ls hP hD hS hl) (fun q => (hVd _ _ _ _).mp (h.1 q) H locs ls hP hD hS hl)
      · exact lv_if_lt hx hb hdg ht (fun q => (hVd _ _ _ _).mp (h.1 q) H locs ls hP hD hS hl) (fun q => (hVd _ _ _ _).mp (h.2 q) H locs ls hP hD hS hl)
      · exact lv_if_ge hx hb hdg ht (fun q => (hVd _ _ _ _).mp (h.1 q) H locs ls hP hD hS hl) (fun q => (hVd _ _ _ _).mp (h.2 q) H locs ls hP hD hS hl)
      · exact lv_if_gt hx hb hdg ht (fun q => (hVd _ _ _ _).mp (h.1 q) H locs ls hP hD hS hl) (fun q => (hVd _ _ _ _).mp (h.2 q) H locs ls hP hD hS hl)
      · exact lv_if_le hx hb hdg ht (fun q => (hVd _ _ _ _).mp (h.1 q) H locs ls hP hD hS hl) (fun q => (hVd _ _ _ _).mp (h.2 q) H locs ls hP hD hS hl)
    case if_icmp cd off =>
      replace h := mm_2_el h
      obtain ⟨x, y, r, rfl, h⟩ := h
      have ht : (pc : Int) + off = (t : Int) := of_decide_eq_true hcst
      rw [hVd]
      intro H locs ls hP hD hS hl
      cases cd
      · exact lv_icmp_eq hx hb hdg ht (fun q => (hVd _ _ _ _).mp (h.1 q) H locs ls hP hD hS hl) (fun q => (hVd _ _ _ _).mp (h.2 q) H locs ls hP hD hS hl)
      · exact lv_icmp_ne hx hb hdg ht (fun q => (hVd _ _ _ _).mp (h.2 q) H locs ls hP hD hS hl) (fun q => (hVd _ _ _ _).mp (h.1 q) H locs ls hP hD hS hl)
      · exact lv_icmp_lt hx hb hdg ht (fun q => (hVd _ _ _ _).mp (h.1 q) H locs ls hP hD hS hl) (fun q => (hVd _ _ _ _).mp (h.2 q) H locs ls hP hD hS hl)
      · exact lv_icmp_ge hx hb hdg ht (fun q => (hVd _ _ _ _).mp (h.1 q) H locs ls hP hD hS hl) (fun q => (hVd _ _ _ _).mp (h.2 q) H locs ls hP hD hS hl)
      · exact lv_icmp_gt hx hb hdg ht (fun q => (hVd _ _ _ _).mp (h.1 q) H locs ls hP hD hS hl) (fun q => (hVd _ _ _ _).mp (h.2 q) H locs ls hP hD hS hl)
      · exact lv_icmp_le hx hb hdg ht (fun q => (hVd _ _ _ _).mp (h.1 q) H locs ls hP hD hS hl) (fun q => (hVd _ _ _ _).mp (h.2 q) H locs ls hP hD hS hl)
    case invokevirtual idx => exact hc1 pc idx L S σ hdg h
    case invokestatic idx => exact hc0 pc idx L S σ hdg h
    case tableswitch dflt lo hi offs =>
      replace h := mm_1_el h
      obtain ⟨x, r, rfl, h⟩ := h
      rcases mm_sw_el h hcst with ⟨t9, h1, h2, h⟩ | ⟨off, t9, h1, h2, h3, h4, h⟩
      · rw [hVd] at h ⊢
        intro H locs ls hP hD hS hl
        exact lv_tableOut hx hb hdg h1 h2 (h H locs ls hP hD hS hl)
      · rw [hVd] at h ⊢
        intro H locs ls hP hD hS hl
        exact lv_tableIn hx hb hdg h1 h2 h3 h4 (h H locs ls hP hD hS hl)
    case ireturn =>
      replace h := mm_rt_el h
      obtain ⟨v, rfl, hq, hm⟩ := h
      rw [hret] at hm
      rcases hm with hm | ⟨hm, -⟩ <;> cases hm
    case return_ =>
      replace h := mm_rv_el h
      obtain ⟨rfl, hq, hm⟩ := h
      rw [hret] at hm
      cases hm
    all_goals exact h.elim
end LXstep
end
section
/-! calls of the small machine's methods out of the law's walk -/
theorem lx_Dad {A : Nat → Prop} {ws ws' : va_W} (h : ∀ i : Nat, (ws'[i]?).map (fun q => q.1) = (ws[i]?).map (fun q => q.1)) (hD : va_D A ws) : va_D A ws' := by
  have key : ∀ (i : Nat) (q : Nat × va_E), ws'[i]? = some q → ∃ q0, ws[i]? = some q0 ∧ q0.1 = q.1 := by
    intro i q hq
    have h1 := h i
    rw [hq] at h1
    cases e : ws[i]? with
    | none => rw [e] at h1; cases h1
    | some q0 =>
      rw [e] at h1
      exact ⟨q0, rfl, (Option.some.inj h1).symm⟩
  refine ⟨fun i j x y hx hy hxy => ?_, fun i q hq => ?_⟩
  · obtain ⟨x0, a1, a2⟩ := key i x hx
    obtain ⟨y0, b1, b2⟩ := key j y hy
    exact hD.1 i j x0 y0 a1 b1 (by rw [a2, b2]; exact hxy)
  · obtain ⟨q0, a1, a2⟩ := key i q hq
    rw [← a2]
    exact hD.2 i q0 a1
theorem lx_wd_ad {ad : Nat → Nat} {a3 : ClassId × ClassId × ClassId} {Y : mm_Y} {ext ext' : va_W} {σ σ' : mm_S} (he : ext'.map (fun q => q.1) = ext.map (fun q => q.1)) : ∀ i : Nat, ((lx_wd ad a3 Y ext' σ')[i]?).map (fun q => q.1) = ((lx_wd ad a3 Y ext σ)[i]?).map (fun q => q.1) := by
  intro i
  rw [← List.getElem?_map, ← List.getElem?_map]
  unfold lx_wd mm_wd
  simp only [List.map_append, List.map_map, he]
  rfl
/-- behind a call: the callee's cells, and those beside, which stay -/
theorem lx_join {D : va_G} {cl : List vw_C} {A : Nat → Prop} {ad : Nat → Nat} {a3 : ClassId × ClassId × ClassId} {Y : mm_Y} {ext : va_W} {σ σ' : mm_S} {H H1 : Heap} (hP : va_P D cl (lx_wd ad a3 Y ext σ) H) (hD : va_D A (lx_wd ad a3 Y ext σ)) (hP1 : va_P D cl (mm_wd ad a3 Y σ') H1)
    (hk : ∀ q : Nat, q < H.size → ¬ va_A (mm_wd ad a3 Y σ) H.size q → H1[q]? = H[q]?) : va_P D cl (lx_wd ad a3 Y ext σ') H1 ∧ va_D A (lx_wd ad a3 Y ext σ') := by
  refine ⟨va_P.app hP1 (fun k q hq => ?_), lx_Dad (lx_wd_ad rfl) hD⟩
  have hin : (lx_wd ad a3 Y ext σ)[(mm_wd ad a3 Y σ).length + k]? = some q := by
    unfold lx_wd
    rw [List.getElem?_append_right (by omega)]
    rw [show (mm_wd ad a3 Y σ).length + k - (mm_wd ad a3 Y σ).length = k by omega]
    exact hq
  have h1 := hP _ q hin
  refine h1.kept (hk q.1 h1.lt (fun h => ?_))
  rcases h with ⟨j, e9, h9⟩ | h9
  · have hl := (List.getElem?_eq_some_iff.mp h9).1
    have h8 : (lx_wd ad a3 Y ext σ)[j]? = some (q.1, e9) := by
      unfold lx_wd
      rw [List.getElem?_append_left hl]
      exact h9
    have := hD.1 _ _ _ _ hin h8 rfl
    omega
  · have := h1.lt
    omega
section LXg
variable {p : Program} {l : Launch} {e : Env} {R : Room} {s : State} {m : MethodId} {args : Array Value} {below : List Frame} {meth : Method} {c : Code} {D : va_G} {cl : List vw_C} {A A1 : Nat → Prop} {ad : Nat → Nat} {a3 : ClassId × ClassId × ClassId} {Y : mm_Y} {Q' : mm_Q} {Qf : State → Prop} {tys : List (ClassId × FieldType)} {H : Heap} {locs : List Loc} {pc ce sl : Nat} {ls : Array Slot} {st0 rest : List Value} {arr : Array Value}
theorem lx_goon (hr : va_Run p l e R s m args below meth c H locs ce sl 0 0 (F0 m pc ls st0) rest (mm_Qc D cl tys A1 ad a3 Y Q' arr) A1) (hS : va_S A s.heap H locs) (hA1 : ∀ q, A1 q → A q)
    (kk : ∀ (v : Option Value) (σ' : mm_S) (H1 : Heap) (locs1 : List Loc), Q' v σ' → va_P D cl (mm_wd ad a3 Y σ') H1 → va_S A s.heap H1 locs1 → H.size ≤ H1.size → (∀ q : Nat, q < H.size → ¬ A1 q → H1[q]? = H[q]?) → W p l e R s m args below meth c H1 locs1 ce sl Qf (F0 m (pc + 3) ls ((v.map (mm_rho ad)).toList ++ rest))) :
    W p l e R s m args below meth c H locs ce sl Qf (F0 m pc ls st0) := by
  intro T hT X
  obtain ⟨v, st₀, t, T', L, h0, X', hL, e1, e2, ⟨⟨v', σ', hq, hv, hP1, hD1, hK1⟩, hz, hk⟩, st⟩ := hr T hT X
  cases hv
  rw [h0] at hz hk
  rw [← e1] at hP1 hz hk
  obtain ⟨t2, a1, b1⟩ := kk v' σ' T'.heap (locs ++ L) hq hP1
    ⟨Nat.le_trans hS.1 hz, fun q h1 h2 => by rw [hk q (Nat.lt_of_lt_of_le h1 hS.1) (fun z => h2 (hA1 q z))]; exact hS.2.1 q h1 h2, fun q hq => by
      rcases List.mem_append.mp hq with h | h
      · exact hS.2.2 q h
      · exact hA1 _ (hL q h)⟩ hz hk T' rfl X'
  exact ⟨t2, st t2 a1, b1⟩
end LXg
section LXh
variable {l : Launch} {Ts : List Cond} {nm : Nat → MethodName} {by_ : Nat → ByteArray} {mx : Nat → Nat} {D : va_G} {cl : List vw_C} {cI cZ cG : ClassId} {ad : Nat → Nat} {Y : mm_Y} {B : mm_C} {yM ym : Nat}
variable {p : Program} {e : Env} {R : Room} {s : State} {m : MethodId} {args : Array Value} {below : List Frame} {meth : Method} {c : Code} {cc : ByteArray} {own : String} {nL d : Nat} {M : mm_M} {Qf : State → Prop} {A : Nat → Prop} {ext : va_W} {ce sl : Nat}
set_option maxHeartbeats 4000000 in
theorem lx_hc1
    (hMn : nm yM = Lib.Math.max.name ∧ by_ yM = Lib.Math.max.code ∧ mx yM = 2 ∧ (mm_me Y yM).2.2.2.2 = 1 ∧ (mm_me Y yM).1 = []) (hmn : nm ym = Lib.Math.min.name ∧ by_ ym = Lib.Math.min.code ∧ mx ym = 2 ∧ (mm_me Y ym).2.2.2.2 = 1 ∧ (mm_me Y ym).1 = [])
    (hB : ∀ y as σ Q, B y as σ Q → (y ≠ yM ∧ y ≠ ym ∧ ∀ d, mm_T l Ts nm by_ mx D cl [(cI, .int), (cZ, .boolean), (cG, .array .int)] ad (cI, cZ, cG) Y d y as σ Q) ∨ (y = yM ∧ ∃ x z, as = [.int x, .int z] ∧ Q (some (.int (if x < z then z else x))) σ) ∨ (y ≠ yM ∧ y = ym ∧ ∃ x z, as = [.int x, .int z] ∧ Q (some (.int (if z < x then z else x))) σ))
    (hTT : ∀ y as σ Q, y ≠ yM → y ≠ ym → mm_D Y B mx d y as σ Q → mm_T l Ts nm by_ mx D cl [(cI, .int), (cZ, .boolean), (cG, .array .int)] ad (cI, cZ, cG) Y d y as σ Q)
    (hx : p.tables.exec = Jvm.exec) (hb : c.code = cc) (hml : c.maxLocals = nL) (hown : s.vm.findClass own = some m.cls) (hts : ∀ w ∈ Ts, w.before args s = true) (hK : va_K D cl [(cI, .int), (cZ, .boolean), (cG, .array .int)] s)
    (hG : ∀ y', Cond.code (nm y') (by_ y') (mx y') (mm_rty (mm_me Y y').2.2.2.2) ∈ Ts → GoodIn Ts (mm_ws Ts nm by_ mx Y y')) (hk : ∀ q ∈ M.2.2.2.1, mm_kok Ts nm by_ mx cl Y own q) (hRf : d + 1 ≤ R.frames) (hRl : 40 * (d + 1) ≤ R.locals) (hA : ∀ q, s.heap.size ≤ q → A q) (hce : ce ≤ R.cells) (hsl : sl ≤ R.slots) (hG0 : mm_G ad A s s.heap) :
    ∀ (pc idx : Nat) (L : List (Option Value)) (S : List Value) (σ1 : mm_S), decode cc pc = .ok (.invokevirtual idx, 3) → mm_call Y (mm_D Y B mx d) M idx 1 S σ1 (fun S' σ' => lx_V p l e R s m args below meth c D cl A ad (cI, cZ, cG) Y nL Qf ext ce sl (pc + 3) L S' σ') → lx_V p l e R s m args below meth c D cl A ad (cI, cZ, cG) Y nL Qf ext ce sl pc L S σ1 := by
  intro pc idx L S σ1 hdg hcall
  obtain ⟨y', n, ci, as', r, hlk, rfl, hln, hc8, hrc, hC⟩ := mm_call_el hcall
  obtain ⟨k, as2, fs, rfl, hkd, hci⟩ := mm_rcv_el hrc
  obtain ⟨hmx, hcode, hlink, hini, hd, -, hvir⟩ := hk _ (mm_look_mem hlk)
  obtain ⟨hinst, hsel, Tc, Nc, hclc⟩ := hvir hci
  obtain ⟨hr8, hrcat⟩ := mm_c1_el hc8
  have hnB : ∀ (Q9 : mm_Q), mm_D Y B mx d y' (.ref k :: as2) σ1 Q9 → y' ≠ yM ∧ y' ≠ ym := by
    intro Q9 h9
    have hbb : ∀ y9, (mm_me Y y9).1 = [] → mm_D Y B mx d y9 (.ref k :: as2) σ1 Q9 → B y9 (.ref k :: as2) σ1 Q9 := by
      intro y9 he h8
      cases d with
      | zero => exact h8
      | succ d => exact h8.elim id (fun h7 => (mm_W_nil he h7.2).elim)
    constructor
    · intro e9
      subst e9
      rcases hB _ _ _ _ (hbb _ hMn.2.2.2.2 h9) with ⟨h7, -⟩ | ⟨-, x, z, h7, -⟩ | ⟨h7, -⟩
      · exact h7 rfl
      · cases h7
      · exact h7 rfl
    · intro e9
      subst e9
      rcases hB _ _ _ _ (hbb _ hmn.2.2.2.2 h9) with ⟨-, h7, -⟩ | ⟨-, x, z, h7, -⟩ | ⟨-, -, x, z, h7, -⟩
      · exact h7 rfl
      · cases h7
      · cases h7
  have hT := hTT y' (.ref k :: as2) σ1 _ (hnB _ hC).1 (hnB _ hC).2 hC
  intro H locs ls hP1 hD1 hS1 hl1
  have hPm : va_P D cl (mm_wd ad (cI, cZ, cG) Y σ1) H := fun k q hk => hP1 k q (by unfold lx_wd; rw [List.getElem?_append_left (List.getElem?_eq_some_iff.mp hk).1]; exact hk)
  have hDm : va_D A (mm_wd ad (cI, cZ, cG) Y σ1) := ⟨fun i j x y hx hy => hD1.1 i j x y (by unfold lx_wd; rw [List.getElem?_append_left (List.getElem?_eq_some_iff.mp hx).1]; exact hx) (by unfold lx_wd; rw [List.getElem?_append_left (List.getElem?_eq_some_iff.mp hy).1]; exact hy), fun k q hk => hD1.2 k q (by unfold lx_wd; rw [List.getElem?_append_left (List.getElem?_eq_some_iff.mp hk).1]; exact hk)⟩
  have hA1 : ∀ q, va_A (mm_wd ad (cI, cZ, cG) Y σ1) H.size q → A q := fun q hq => by
    rcases hq with ⟨k9, e9, h9⟩ | h9
    · exact hDm.2 k9 (q, e9) h9
    · exact hA q (Nat.le_trans hS1.1 h9)
  have hM := hT H.size
  have he : (mm_wd ad (cI, cZ, cG) Y σ1)[k]? = some (ad k, .inr (ci, mm_fv ad (σ1 k) 0 fs)) := by
    rw [mm_wd_get (mm_kd_lt (by rw [hkd]; exact fun z => nomatch z))]; simp only [mm_ce, hkd]
  have hstk : ((Value.ref k :: as2).reverse ++ r).map (mm_rho ad) = (as2.map (mm_rho ad)).reverse ++ .ref (ad k) :: r.map (mm_rho ad) := by
    simp [mm_rho]
  rw [hstk]
  refine lx_goon (va_runV (C := (nm y').cls) (b := ad k) (As := as2.map (mm_rho ad)) (rest := r.map (mm_rho ad)) (n := n) ⟨hx, hb, hml, hown, hts⟩ hM ⟨callB_of n hts (hG y' hcode) rfl rfl rfl (hts _ hini) (hts _ hlink) hd ⟨hRf, by show 8 + (mx y' + 11) + 40 * d ≤ R.locals; have := hmx; dsimp only at this; omega⟩, hts _ hinst, hts _ hsel⟩
    ⟨fun a U g mk q => by obtain ⟨q0, q1, qP, qK, qD, qG⟩ := q; exact ⟨q0, q1, qP, va_K.moved (u := U) (U := U.calling g mk a) (Vm.Alike.refl U.vm) qK, qD, mm_G.moved (u := U) (U := U.calling g mk a) (Vm.Alike.refl U.vm) qG⟩, va_recv hK hPm hclc he, fun U hU hW => ⟨rfl, by rw [hU], by rw [hU]; exact hPm, va_K.moved hW.alike hK, hDm.weaken (fun _ _ _ _ => trivial), by rw [hU]; exact ((hG0.kept hS1.2.1).narrow hA1).moved hW.alike⟩⟩
    rfl (by rw [List.length_map]; simp only [List.length_cons] at hln; omega) hl1.1.1 rfl (lv_room (by rw [mm_cat_le ad r hrcat]; exact hr8)) hdg ⟨hce, hsl⟩) hS1 hA1 (fun v σ' H1 locs1 hq hP2 hS2 hgr hkeep => ?_)
  rw [mm_rho_toList]
  obtain ⟨hP3, hD3⟩ := lx_join hP1 hD1 hP2 hkeep
  exact hq H1 locs1 ls hP3 hD3 hS2 hl1
set_option maxHeartbeats 4000000 in
theorem lx_hc0
    (hMn : nm yM = Lib.Math.max.name ∧ by_ yM = Lib.Math.max.code ∧ mx yM = 2 ∧ (mm_me Y yM).2.2.2.2 = 1 ∧ (mm_me Y yM).1 = []) (hmn : nm ym = Lib.Math.min.name ∧ by_ ym = Lib.Math.min.code ∧ mx ym = 2 ∧ (mm_me Y ym).2.2.2.2 = 1 ∧ (mm_me Y ym).1 = [])
    (hB : ∀ y as σ Q, B y as σ Q → (y ≠ yM ∧ y ≠ ym ∧ ∀ d, mm_T l Ts nm by_ mx D cl [(cI, .int), (cZ, .boolean), (cG, .array .int)] ad (cI, cZ, cG) Y d y as σ Q) ∨ (y = yM ∧ ∃ x z, as = [.int x, .int z] ∧ Q (some (.int (if x < z then z else x))) σ) ∨ (y ≠ yM ∧ y = ym ∧ ∃ x z, as = [.int x, .int z] ∧ Q (some (.int (if z < x then z else x))) σ))
    (hTT : ∀ y as σ Q, y ≠ yM → y ≠ ym → mm_D Y B mx d y as σ Q → mm_T l Ts nm by_ mx D cl [(cI, .int), (cZ, .boolean), (cG, .array .int)] ad (cI, cZ, cG) Y d y as σ Q)
    (hx : p.tables.exec = Jvm.exec) (hb : c.code = cc) (hml : c.maxLocals = nL) (hown : s.vm.findClass own = some m.cls) (hts : ∀ w ∈ Ts, w.before args s = true) (hK : va_K D cl [(cI, .int), (cZ, .boolean), (cG, .array .int)] s)
    (hG : ∀ y', Cond.code (nm y') (by_ y') (mx y') (mm_rty (mm_me Y y').2.2.2.2) ∈ Ts → GoodIn Ts (mm_ws Ts nm by_ mx Y y')) (hk : ∀ q ∈ M.2.2.2.1, mm_kok Ts nm by_ mx cl Y own q) (hRf : d + 1 ≤ R.frames) (hRl : 40 * (d + 1) ≤ R.locals) (hA : ∀ q, s.heap.size ≤ q → A q) (hce : ce ≤ R.cells) (hsl : sl ≤ R.slots) (hG0 : mm_G ad A s s.heap) :
    ∀ (pc idx : Nat) (L : List (Option Value)) (S : List Value) (σ1 : mm_S), decode cc pc = .ok (.invokestatic idx, 3) → mm_call Y (mm_D Y B mx d) M idx 0 S σ1 (fun S' σ' => lx_V p l e R s m args below meth c D cl A ad (cI, cZ, cG) Y nL Qf ext ce sl (pc + 3) L S' σ') → lx_V p l e R s m args below meth c D cl A ad (cI, cZ, cG) Y nL Qf ext ce sl pc L S σ1 := by
  intro pc idx L S σ1 hdg hcall
  obtain ⟨y', n, ci, as', r, hlk, rfl, hln, hc8, hrc, hC⟩ := mm_call_el hcall
  obtain ⟨hmx, hcode, hlink, hini, hd, hst, -⟩ := hk _ (mm_look_mem hlk)
  obtain ⟨hr8, hrcat⟩ := mm_c1_el hc8
  have h99 : ci = 99 := Nat.eq_of_beq_eq_true hrc
  have hbb : ∀ y9 Q9, (mm_me Y y9).1 = [] → mm_D Y B mx d y9 as' σ1 Q9 → B y9 as' σ1 Q9 := by
    intro y9 Q9 he h8
    cases d with
    | zero => exact h8
    | succ d => exact h8.elim id (fun h7 => (mm_W_nil he h7.2).elim)
  by_cases hyM : y' = yM
  · subst hyM
    rcases hB _ _ _ _ (hbb _ _ hMn.2.2.2.2 hC) with ⟨h7, -⟩ | ⟨-, x, z, rfl, hq⟩ | ⟨h7, -⟩
    · exact absurd rfl h7
    · intro H locs ls hP1 hD1 hS1 hl1
      have hq' := hq H locs ls hP1 hD1 hS1 hl1
      have hst' := hts _ (hst h99)
      have hlink' := hts _ hlink
      have hini' := hts _ hini
      have hcode' := hts _ hcode
      dsimp only at hst' hlink' hini' hcode'
      rw [hMn.1] at hst' hlink' hini'
      rw [hMn.1, hMn.2.1, hMn.2.2.1, hMn.2.2.2.1] at hcode'
      exact va_mmax hx hb (hml.trans hl1.1.1.symm) hown hlink' hst' hini' hcode' (by omega) (by show ((r.map (mm_rho ad)).map fun v => v.category).sum + 13 ≤ R.locals; rw [mm_cat_le ad r hrcat]; omega) hce hsl hdg hq'
    · exact absurd rfl h7
  by_cases hym : y' = ym
  · subst hym
    rcases hB _ _ _ _ (hbb _ _ hmn.2.2.2.2 hC) with ⟨-, h7, -⟩ | ⟨h7, -⟩ | ⟨-, -, x, z, rfl, hq⟩
    · exact absurd rfl h7
    · exact absurd h7 hyM
    · intro H locs ls hP1 hD1 hS1 hl1
      have hq' := hq H locs ls hP1 hD1 hS1 hl1
      have hst' := hts _ (hst h99)
      have hlink' := hts _ hlink
      have hini' := hts _ hini
      have hcode' := hts _ hcode
      dsimp only at hst' hlink' hini' hcode'
      rw [hmn.1] at hst' hlink' hini'
      rw [hmn.1, hmn.2.1, hmn.2.2.1, hmn.2.2.2.1] at hcode'
      exact va_mmin hx hb (hml.trans hl1.1.1.symm) hown hlink' hst' hini' hcode' (by omega) (by show ((r.map (mm_rho ad)).map fun v => v.category).sum + 13 ≤ R.locals; rw [mm_cat_le ad r hrcat]; omega) hce hsl hdg hq'
  have hT := hTT y' as' σ1 _ hyM hym hC
  intro H locs ls hP1 hD1 hS1 hl1
  have hPm : va_P D cl (mm_wd ad (cI, cZ, cG) Y σ1) H := fun k q hk => hP1 k q (by unfold lx_wd; rw [List.getElem?_append_left (List.getElem?_eq_some_iff.mp hk).1]; exact hk)
  have hDm : va_D A (mm_wd ad (cI, cZ, cG) Y σ1) := ⟨fun i j x y hx hy => hD1.1 i j x y (by unfold lx_wd; rw [List.getElem?_append_left (List.getElem?_eq_some_iff.mp hx).1]; exact hx) (by unfold lx_wd; rw [List.getElem?_append_left (List.getElem?_eq_some_iff.mp hy).1]; exact hy), fun k q hk => hD1.2 k q (by unfold lx_wd; rw [List.getElem?_append_left (List.getElem?_eq_some_iff.mp hk).1]; exact hk)⟩
  have hA1 : ∀ q, va_A (mm_wd ad (cI, cZ, cG) Y σ1) H.size q → A q := fun q hq => by
    rcases hq with ⟨k9, e9, h9⟩ | h9
    · exact hDm.2 k9 (q, e9) h9
    · exact hA q (Nat.le_trans hS1.1 h9)
  have hM := hT H.size
  have hstk : (as'.reverse ++ r).map (mm_rho ad) = (as'.map (mm_rho ad)).reverse ++ r.map (mm_rho ad) := by simp
  rw [hstk]
  refine lx_goon (va_runS (As := as'.map (mm_rho ad)) (rest := r.map (mm_rho ad)) (n := n) ⟨hx, hb, hml, hown, hts⟩ hM ⟨callB_of n hts (hG y' hcode) rfl rfl rfl (hts _ hini) (hts _ hlink) hd ⟨hRf, by show 8 + (mx y' + 11) + 40 * d ≤ R.locals; have := hmx; dsimp only at this; omega⟩, hts _ (hst h99)⟩
    ⟨fun a U g mk q => by obtain ⟨q0, q1, qP, qK, qD, qG⟩ := q; exact ⟨q0, q1, qP, va_K.moved (u := U) (U := U.calling g mk a) (Vm.Alike.refl U.vm) qK, qD, mm_G.moved (u := U) (U := U.calling g mk a) (Vm.Alike.refl U.vm) qG⟩, fun U hU hW => ⟨rfl, by rw [hU], by rw [hU]; exact hPm, va_K.moved hW.alike hK, hDm.weaken (fun _ _ _ _ => trivial), by rw [hU]; exact ((hG0.kept hS1.2.1).narrow hA1).moved hW.alike⟩⟩
    rfl (by rw [List.length_map]; omega) hl1.1.1 rfl (lv_room (by rw [mm_cat_le ad r hrcat]; exact hr8)) hdg ⟨hce, hsl⟩) hS1 hA1 (fun v σ' H1 locs1 hq hP2 hS2 hgr hkeep => ?_)
  rw [mm_rho_toList]
  obtain ⟨hP3, hD3⟩ := lx_join hP1 hD1 hP2 hkeep
  exact hq H1 locs1 ls hP3 hD3 hS2 hl1
end LXh
end
section
/-! the law's helpers: a call that may throw, caught -/
def hx_e (qo : Nat) (cJ : ClassId) (f : Nat → Int64) : va_W := [(qo, .inl (cJ, 1, .inr (.inl f)))]
theorem hx_ncuse {C T : String} {s : State} {args : Array Value} (h : va_Nc C T s) : (Cond.not (.castable C T)).before args s = true := by
  obtain ⟨c, t, h1, h2, h3⟩ := h
  simp [Cond.before, Cond.holds, Cond.value, h1, h2, h3]
def hx_N (cs ns : List (String × String)) (U : State) : Prop := (∀ q ∈ cs, va_Nw (.castable q.1 q.2) U) ∧ ∀ q ∈ ns, va_Nc q.1 q.2 U
theorem hx_N.moved {cs ns : List (String × String)} {s U : State} (hW : s.WarmedH U.vm) (h : hx_N cs ns s) : hx_N cs ns U := ⟨fun q hq => va_Nw.warmC hW (h.1 q hq), fun q hq => (h.2 q hq).moved hW.alike⟩
def hx_Q (D : va_G) (cl : List vw_C) (ad : Nat → Nat) (a3 : ClassId × ClassId × ClassId) (Y : mm_Y) (qo : Nat) (cJ : ClassId) (A : Nat → Prop) (HQ : Int32 → mm_S → (Nat → Int64) → Prop) : Array Value → State → Outcome → State → Prop := fun _ st o t =>
  (∃ (k : Int32) (σ : mm_S) (f : Nat → Int64), o = .returned (some (.int k)) ∧ HQ k σ f ∧ va_P D cl (lx_wd ad a3 Y (hx_e qo cJ f) σ) t.heap) ∧ va_F A st t
/-- a handler: put the exception away, answer v -/
def hx_hc (cc : ByteArray) (nL h : Nat) (v : Int32) : Prop := ∃ (k len : Nat) (iv : Int), ((len = 2 ∧ decode cc h = .ok (.astore k, 2)) ∨ (len = 1 ∧ ∃ kf : Fin 4, kf.val = k ∧ decode cc h = .ok (.astore_n kf, 1))) ∧ k < nL ∧ decode cc (h + len) = .ok (.iconst iv, 1) ∧ Int32.ofInt iv = v ∧ decode cc (h + len + 1) = .ok (.ireturn, 1)
def hx_han (Ts : List Cond) (cs ns : List (String × String)) (own : String) (cc : ByteArray) (nL pcI : Nat) (tab : List ExceptionTableEntry) (E : String) (v : Int32) : Prop := ∃ (pre : List ExceptionTableEntry) (x : ExceptionTableEntry) (suf : List ExceptionTableEntry) (name : String), tab = pre ++ x :: suf ∧ (∀ z ∈ pre, z.catchType ≠ 0 ∧ ∃ nm : String, Cond.classLink own z.catchType nm ∈ Ts ∧ (E, nm) ∈ ns) ∧ covers x pcI = true ∧ x.catchType ≠ 0 ∧ Cond.classLink own x.catchType name ∈ Ts ∧ (E, name) ∈ cs ∧ hx_hc cc nL x.handlerPc v
section HX
variable {p : Program} {l : Launch} {e : Env} {R : Room} {s : State} {m : MethodId} {args : Array Value} {below : List Frame} {meth : Method} {c : Code} {H : Heap} {locs : List Loc} {cells slots : Nat} {D : va_G} {cl : List vw_C} {A : Nat → Prop} {ad : Nat → Nat} {a3 : ClassId × ClassId × ClassId} {Y : mm_Y} {qo : Nat} {cJ : ClassId} {f : Nat → Int64} {σ : mm_S} {HQ : Int32 → mm_S → (Nat → Int64) → Prop} {cc : ByteArray} {ls : Array Slot} {nL : Nat}
theorem hx_fin (hx : p.tables.exec = Jvm.exec) (hb : c.code = cc) (hr : meth.sig.returnType = some .int) (hlocks : meth.locks = false) {pc : Nat} {iv : Int} {v : Int32} (hv : Int32.ofInt iv = v) (d0 : decode cc pc = .ok (.iconst iv, 1)) (d1 : decode cc (pc + 1) = .ok (.ireturn, 1)) (hP : va_P D cl (lx_wd ad a3 Y (hx_e qo cJ f) σ) H) (hS : va_S A s.heap H locs) (hq : HQ v σ f) (h1 : cells ≤ 1) (h6 : slots ≤ 6) :
    W p l e R s m args below meth c H locs cells slots (MQ below (hx_Q D cl ad a3 Y qo cJ A HQ) args s 1 6 A) (F0 m pc ls []) :=
  lv_iconst hx hb d0 hv (W.widen h1 h6 (W.iret hx hb hr (fun t ht hW => ⟨⟨v, σ, f, rfl, hq, by rw [ht]; exact hP⟩, hS.F ht⟩) hS.2.2 d1 hlocks))
theorem hx_hand (hx : p.tables.exec = Jvm.exec) (hb : c.code = cc) (hr : meth.sig.returnType = some .int) (hlocks : meth.locks = false) {h : Nat} {v : Int32} (hh : hx_hc cc nL h v) {lv : List (Nat × Value)} (hlv : lv_has ls nL lv) {q : Nat} (hP : va_P D cl (lx_wd ad a3 Y (hx_e qo cJ f) σ) H) (hS : va_S A s.heap H locs) (hq : HQ v σ f) (h1 : cells ≤ 1) (h6 : slots ≤ 6) :
    W p l e R s m args below meth c H locs cells slots (MQ below (hx_Q D cl ad a3 Y qo cJ A HQ) args s 1 6 A) (F0 m h ls [.ref q]) := by
  obtain ⟨k, len, iv, hd, hk, d0, hv, d1⟩ := hh
  rcases hd with ⟨rfl, hd⟩ | ⟨rfl, kf, hkf, hd⟩
  · exact lv_astore hx hb hd hlv hk rfl (fun ls' _ => hx_fin hx hb hr hlocks hv d0 d1 hP hS hq h1 h6)
  · exact lv_astore_n hx hb hd hkf hlv hk rfl (fun ls' _ => hx_fin hx hb hr hlocks hv d0 d1 hP hS hq h1 h6)
def hx_rm (d : Nat) : Room := { frames := d + 9, cells := 1, slots := 6, locals := 40 * d + 240 }
set_option maxHeartbeats 1000000 in
theorem hx_call {own : String} {Ts : List Cond} {tys : List (ClassId × FieldType)} {nx : Nat → MethodName} {bx : Nat → ByteArray} {mxx : Nat → Nat} {dc : List MethodName} {st : mx_St} {sa : Nat → Nat} {exn : Nat → String} {cs ns : List (String × String)} {ret d y idx n pcI : Nat} {as : List Value} {Q : mm_Q} {XQ : Nat → mm_S → Prop} {fs : List (Option Nat)} {rest : List Value} {lv : List (Nat × Value)}
    (hx : p.tables.exec = Jvm.exec) (hb : c.code = cc) (hml : c.maxLocals = nL) (hown : s.vm.findClass own = some m.cls) (hts : ∀ w ∈ Ts, w.before args s = true) (hgood : ∀ w ∈ Ts, goodWord w = true) (hK : va_K D cl tys s) (hr : meth.sig.returnType = some .int) (hlocks : meth.locks = false)
    (hN : mx_N dc st sa (va_A (lx_wd ad a3 Y (hx_e qo cJ f) σ) s.heap.size) s s.heap) (hG0 : mm_G ad (va_A (lx_wd ad a3 Y (hx_e qo cJ f) σ) s.heap.size) s s.heap) (hC : hx_N cs ns s) (hP : va_P D cl (lx_wd ad a3 Y (hx_e qo cJ f) σ) s.heap) (hD : va_D (fun _ => True) (lx_wd ad a3 Y (hx_e qo cJ f) σ))
    (hT : mx_T l Ts nx bx mxx D cl tys ad a3 Y dc st sa exn ret d y (.ref 0 :: as) σ Q XQ) (hcode : Cond.code (nx y) (bx y) (mxx y) (mm_rty ret) ∈ Ts) (hmx : mxx y ≤ 21) (hlink : Cond.methodLink own idx (nx y) ∈ Ts) (hini : Cond.initialized (nx y).cls ∈ Ts)
    (hnm : (nx y).cls ≠ "java/lang/invoke/MethodHandle" ∧ (nx y).cls ≠ "java/lang/invoke/VarHandle") (hdesc : (parseMethodDescriptor (nx y).desc).map (fun d => d.parameters.length) = some n) (has : as.length = n) (hinst : Cond.instanceMethod (nx y) ∈ Ts) (hsel : Cond.selects (nx y).cls (nx y) (nx y) ∈ Ts)
    (hcl : ∃ T N, cl[0]? = some ((nx y).cls, T, N)) (hkd : mm_kd Y 0 = (0, 0, fs)) (hlv : lv_has ls nL lv) (hrest : (rest.map fun v => v.category).sum ≤ 8) (hdg : decode cc pcI = .ok (.invokevirtual idx, 3))
    (hX : ∀ E σ', XQ E σ' → ∃ v, hx_han Ts cs ns own cc nL pcI c.exceptionTable.toList (exn E) v ∧ HQ v σ' f)
    (kr : ∀ (v : Option Value) (σ' : mm_S) (H1 : Heap) (locs1 : List Loc), Q v σ' → va_P D cl (lx_wd ad a3 Y (hx_e qo cJ f) σ') H1 → va_D (va_A (lx_wd ad a3 Y (hx_e qo cJ f) σ) s.heap.size) (lx_wd ad a3 Y (hx_e qo cJ f) σ') → va_S (va_A (lx_wd ad a3 Y (hx_e qo cJ f) σ) s.heap.size) s.heap H1 locs1 →
      W p l e (hx_rm d) s m args below meth c H1 locs1 0 0 (MQ below (hx_Q D cl ad a3 Y qo cJ (va_A (lx_wd ad a3 Y (hx_e qo cJ f) σ) s.heap.size) HQ) args s 1 6 (va_A (lx_wd ad a3 Y (hx_e qo cJ f) σ) s.heap.size)) (F0 m (pcI + 3) ls ((v.map (mm_rho ad)).toList ++ rest))) :
    W p l e (hx_rm d) s m args below meth c s.heap [] 0 0 (MQ below (hx_Q D cl ad a3 Y qo cJ (va_A (lx_wd ad a3 Y (hx_e qo cJ f) σ) s.heap.size) HQ) args s 1 6 (va_A (lx_wd ad a3 Y (hx_e qo cJ f) σ) s.heap.size)) (F0 m pcI ls ((as.map (mm_rho ad)).reverse ++ .ref (ad 0) :: rest)) := by
  have hsub : ∀ (k : Nat) (q : Nat × va_E), (mm_wd ad a3 Y σ)[k]? = some q → (lx_wd ad a3 Y (hx_e qo cJ f) σ)[k]? = some q := fun k q hk => by
    unfold lx_wd; rw [List.getElem?_append_left (List.getElem?_eq_some_iff.mp hk).1]; exact hk
  have hPm : va_P D cl (mm_wd ad a3 Y σ) s.heap := fun k q hk => hP k q (hsub k q hk)
  have hDs := hD.self (sz := s.heap.size)
  have hDm : va_D (fun _ => True) (mm_wd ad a3 Y σ) := ⟨fun i j x y hx hy => hD.1 i j x y (hsub i x hx) (hsub j y hy), fun _ _ _ => trivial⟩
  have hA1 : ∀ q, va_A (mm_wd ad a3 Y σ) s.heap.size q → va_A (lx_wd ad a3 Y (hx_e qo cJ f) σ) s.heap.size q := fun q hq => by
    rcases hq with ⟨k9, e9, h9⟩ | h9
    · exact Or.inl ⟨k9, e9, hsub _ _ h9⟩
    · exact Or.inr h9
  have he : (mm_wd ad a3 Y σ)[0]? = some (ad 0, .inr (0, mm_fv ad (σ 0) 0 fs)) := by
    rw [mm_wd_get (mm_kd_lt (by rw [hkd]; exact fun z => nomatch z))]; simp only [mm_ce, hkd]
  obtain ⟨Tc, Nc, hclc⟩ := hcl
  have hws : ∀ w ∈ mx_ws Ts nx bx mxx ret y, ∀ (a' : Array Value) (U : State), s.WarmedH U.vm → w.before a' U = true := fun w hw a' U hW => by
    rcases List.mem_cons.mp hw with h9 | h9
    · subst h9
      exact word_at hW (good_of_word (hgood _ hcode)) (hts _ hcode)
    · exact word_at hW (good_of_word (hgood _ h9)) (hts _ h9)
  refine mx_callV (A1 := va_A (mm_wd ad a3 Y σ) s.heap.size) (A := va_A (lx_wd ad a3 Y (hx_e qo cJ f) σ) s.heap.size) (n := n) (b := ad 0) (As := as.map (mm_rho ad)) (rest := rest) (rm := mx_rm d) hx hb hown (hts _ hlink) (hts _ hinst) (hts _ hsel) (hts _ hcode) (fun a' U hW => word_at hW (good_of_word (hgood _ hini)) (hts _ hini)) hnm hdesc (by rw [List.length_map]; exact has) (hT s.heap.size) hws (va_recv hK hPm hclc he)
    (fun U g mk hU hW => ⟨rfl, ⟨by show U.heap.size = s.heap.size; rw [hU], by show va_P D cl _ U.heap; rw [hU]; exact hPm, va_K.moved (u := U) (U := U.calling g mk _) (Vm.Alike.refl U.vm) (va_K.moved hW.alike hK), hDm, mm_G.moved (u := U) (U := U.calling g mk _) (Vm.Alike.refl U.vm) (by show mm_G ad _ U U.heap; rw [hU]; exact (hG0.narrow hA1).moved hW.alike)⟩, by
      have h9 : mx_N dc st sa (va_A (mm_wd ad a3 Y σ) s.heap.size) U U.heap := by
        rw [hU]
        exact (hN.narrow (fun q hq h8 => hA1 q h8)).moved hW
      exact mx_N.same (u := U) rfl h9⟩)
    (hlv.1.trans hml.symm) hrest hdg (by show d + 8 + 1 ≤ d + 9; omega) (by show 8 + (mxx y + 11) + (40 * d + 200) ≤ 40 * d + 240; omega) (by show 0 + 1 ≤ 1; omega) (by show 0 + 6 ≤ 6; omega) va_S.rf hA1 ?_ ?_
  · intro v σ' H1 locs1 hq hP2 hD2 hS2 hgr hkeep
    obtain ⟨hP3, hD3⟩ := lx_join hP hDs hP2 hkeep
    exact kr v σ' H1 locs1 hq hP3 hD3 hS2
  · intro q E σ' ce H1 locs1 hxq hce hcv hcls hP2 hD2 hS2 hgr hkeep
    obtain ⟨hP3, hD3⟩ := lx_join hP hDs hP2 hkeep
    obtain ⟨v, ⟨pre, x, suf, name, hsplit, hpass, hcov, h0, hlk, hcs, hhc⟩, hHQ⟩ := hX E σ' hxq
    refine mx_catch hown pre x suf hsplit (fun z hz => ?_) hcov h0 (hts _ hlk) (va_Nw.use rfl (hC.1 _ hcs)) hce hcv hcls (hx_hand hx hb hr hlocks hhc hlv hP3 hS2 hHQ (by omega) (by omega))
    obtain ⟨hz0, nm, h1, h2⟩ := hpass z hz
    exact ⟨hz0, nm, hts _ h1, hx_ncuse (hC.2 _ h2)⟩
end HX
end
section
/-! the law's own walk: script, out, helpers, switch -/
theorem hx_blind {l : Launch} {D : va_G} {cl : List vw_C} {tys : List (ClassId × FieldType)} {ad : Nat → Nat} {a3 : ClassId × ClassId × ClassId} {Y : mm_Y} {qo : Nat} {cJ : ClassId} {f : Nat → Int64} {σ : mm_S} {dc : List MethodName} {st : mx_St} {sa : Nat → Nat} {cs ns : List (String × String)} {sz : Nat} {av : List Value} :
    FrameBlind (va_Pc av (fun U => U.heap.size = sz ∧ va_P D cl (lx_wd ad a3 Y (hx_e qo cJ f) σ) U.heap ∧ va_K D cl tys U ∧ va_K D cl [(cJ, .long)] U ∧ va_D (fun _ => True) (lx_wd ad a3 Y (hx_e qo cJ f) σ) ∧ mx_N dc st sa (va_A (lx_wd ad a3 Y (hx_e qo cJ f) σ) sz) U U.heap ∧ mm_G ad (va_A (lx_wd ad a3 Y (hx_e qo cJ f) σ) sz) U U.heap ∧ hx_N cs ns U)) := by
  intro a U g mk q
  obtain ⟨q0, q1, qP, qK, qJ, qD, qN, qG, qC⟩ := q
  exact ⟨q0, q1, qP, va_K.moved (u := U) (U := U.calling g mk a) (Vm.Alike.refl U.vm) qK, va_K.moved (u := U) (U := U.calling g mk a) (Vm.Alike.refl U.vm) qJ, qD, mx_N.same (u := U) (U := U.calling g mk a) rfl qN, mm_G.moved (u := U) (U := U.calling g mk a) (Vm.Alike.refl U.vm) qG, hx_N.moved (s := U) (U := U.calling g mk a) (State.WarmedH.refl U) qC⟩
abbrev hx_M : Type := Nat → MethodName × ByteArray × Nat × List (Nat × Nat × Nat × Nat) × Nat
def hx_T (l : Launch) (Ts : List Cond) (hm : hx_M) (D : va_G) (cl : List vw_C) (tys : List (ClassId × FieldType)) (ad : Nat → Nat) (a3 : ClassId × ClassId × ClassId) (Y : mm_Y) (cJ : ClassId) (dc : List MethodName) (st : mx_St) (sa : Nat → Nat) (cs ns : List (String × String)) (d y : Nat) (as : List Value) (σ : mm_S) (f : Nat → Int64) (HQ : Int32 → mm_S → (Nat → Int64) → Prop) : Prop :=
  ∀ sz, Met l (hm y).1 (Cond.codeWith (hm y).1 (hm y).2.1 (hm y).2.2.1 (some .int) (hm y).2.2.2.1 :: Ts) (hx_rm d) (va_Pc (as.map (mm_rho ad)) (fun U => U.heap.size = sz ∧ va_P D cl (lx_wd ad a3 Y (hx_e (ad 201) cJ f) σ) U.heap ∧ va_K D cl tys U ∧ va_K D cl [(cJ, .long)] U ∧ va_D (fun _ => True) (lx_wd ad a3 Y (hx_e (ad 201) cJ f) σ) ∧ mx_N dc st sa (va_A (lx_wd ad a3 Y (hx_e (ad 201) cJ f) σ) sz) U U.heap ∧ mm_G ad (va_A (lx_wd ad a3 Y (hx_e (ad 201) cJ f) σ) sz) U U.heap ∧ hx_N cs ns U))
    (hx_Q D cl ad a3 Y (ad 201) cJ (va_A (lx_wd ad a3 Y (hx_e (ad 201) cJ f) σ) sz) HQ) 1 6 (va_A (lx_wd ad a3 Y (hx_e (ad 201) cJ f) σ) sz)
theorem hx_rm_c (d : Nat) : (hx_rm d).cells = 1 := rfl
theorem hx_rm_f (d : Nat) : (hx_rm d).frames = d + 9 := rfl
theorem hx_rm_l (d : Nat) : (hx_rm d).locals = 40 * d + 240 := rfl
theorem hx_rm_ok1 {d R : Nat} (h : d + 10 ≤ R) : (hx_rm d).frames + 1 ≤ R := h
theorem hx_rm_ok {d a R : Nat} (h : 40 * d + 280 ≤ R) (ha : a ≤ 21) : 8 + (a + 11) + (hx_rm d).locals ≤ R := by rw [hx_rm_l]; omega
theorem hx_rm_s (d : Nat) : (hx_rm d).slots = 6 := rfl
section LXr
variable {p : Program} {l : Launch} {e : Env} {R : Room} {s : State} {m : MethodId} {args : Array Value} {below : List Frame} {meth : Method} {c : Code} {H : Heap} {locs : List Loc} {cells slots : Nat}
/-- a static call of a method with an exception table -/
theorem hx_runS {y : MethodName} {bytes cc : ByteArray} {maxL mc ms n index : Nat} {ret : Option FieldType} {hh : List (Nat × Nat × Nat × Nat)} {ws : List Cond} {rm : Room} {Pc : Array Value → State → Prop} {Qc : Array Value → State → Outcome → State → Prop} {free : Addr → Prop} {own : String} {As rest : List Value} {g : JFrame}
    (hx : p.tables.exec = Jvm.exec) (hb : c.code = cc) (ho : s.vm.findClass own = some m.cls) (hM : Met l y ws rm Pc Qc mc ms free) (hblind : FrameBlind Pc) (hrc : rm.cells = mc) (hrs : rm.slots = ms) (hfr : rm.frames + 1 ≤ R.frames) (hlo : 8 + (maxL + 11) + rm.locals ≤ R.locals)
    (hws : ∀ w ∈ ws, ∀ (a' : Array Value) (U : State), s.WarmedH U.vm → w.before a' U = true) (hcw : Cond.codeWith y bytes maxL ret hh ∈ ws) (hini : (Cond.initialized y.cls).before args s = true) (hl : (Cond.methodLink own index y).before args s = true) (hstt : (Cond.static y).before args s = true) (hy : y.cls ≠ "java/lang/invoke/MethodHandle" ∧ y.cls ≠ "java/lang/invoke/VarHandle")
    (hlen : (parseMethodDescriptor y.desc).map (fun d => d.parameters.length) = some n) (hPc : ∀ U : State, U.heap = H → s.WarmedH U.vm → Pc As.toArray U)
    (hg : g.method = m) (hn : As.length = n) (hsize : g.locals.size = c.maxLocals) (hstack : g.stack = As.reverse ++ rest) (hW : 2 * g.monitorRoom + (rest.map fun v => v.category).sum ≤ 8) (hdg : decode cc g.pc = .ok (.invokestatic index, 3)) (hf : cells + mc ≤ R.cells ∧ slots + ms ≤ R.slots) :
    va_Run p l e R s m args below meth c H locs cells slots mc ms g rest (Qc As.toArray) (free) := by
  have hK : Back l R p e below s args y 3 8 (PreOf R mc ms Pc) (PostOf Qc mc ms free) := va_backW (hh := hh) (bytes := bytes) (maxL := maxL) (ret := ret) hM hblind hrc hrs hfr hlo hws hcw (fun a' U hW => word_at hW (Or.inl (by first | rfl | simp [Cond.onTables, Cond.keeps, Cond.steady])) hini)
  intro T hT X
  have hcode : (Cond.codeWith y bytes maxL ret hh).before args s = true := hws _ hcw args s (State.WarmedH.refl s)
  obtain ⟨mk, methM, cM, hnamed, hmethM, -, -, -, -, -, -, hsigM⟩ := Cond.codeWith_spec hcode
  have hstatic : methM.isStatic = true := Cond.static_spec hnamed hmethM hstt
  obtain ⟨kP, hkP, -⟩ := className_of_methodNamed hnamed
  have hinitP : kP.init = .initialized := Cond.initialized_spec (findClass_of_methodNamed hnamed) hkP hini
  have hln : As.length = methM.sig.parameters.length := by
    rw [hsigM] at hlen
    have := Option.some.inj hlen
    rw [hn]; exact this.symm
  obtain ⟨vm₁, X₁, hstep₁⟩ := X.invokestatic hx ho hl hnamed hmethM hstatic hkP hinitP hy (g := g) hg (argsL := As) (rest := rest) hln hstack (by rw [hb]; exact hdg)
  obtain ⟨v, ⟨U', l2, c2, s2⟩, X', ⟨g', mk', t, L, e1, e2, hq, h1, hL, h2, h3⟩, hsteps⟩ := hK m meth c ⟨T.setVm vm₁, locs, cells, slots⟩ { g with stack := rest } (.invokestatic index) mk As.toArray X₁ hg hsize (by rw [hb]; exact hdg) hW (X₁.named hnamed) ⟨hf.1, hf.2, hPc (T.setVm vm₁) hT X₁.warmed⟩
  dsimp only [Pt.U, Pt.locs, Pt.cells, Pt.slots] at X' e1 e2 h1 h2 h3 hsteps
  subst h1; subst h2; subst h3
  exact ⟨v, (T.setVm vm₁).calling g' mk' As.toArray, t, U', L, hT, X', hL, e1, e2, hq, fun target h => hstep₁ _ fun acts => by rw [doInvoke_state]; exact hsteps.trans h⟩
variable {D : va_G} {cl : List vw_C} {A : Nat → Prop} {ad : Nat → Nat} {a3 : ClassId × ClassId × ClassId} {Y : mm_Y} {cJ : ClassId} {f : Nat → Int64} {σ : mm_S} {HQ : Int32 → mm_S → (Nat → Int64) → Prop} {cc : ByteArray} {ls : Array Slot} {Ts : List Cond} {own : String} {tys : List (ClassId × FieldType)} {dc : List MethodName} {st : mx_St} {sa : Nat → Nat} {cs ns : List (String × String)} {hm : hx_M}
/-- how the law calls helper y -/
def hx_ok (Ts : List Cond) (own : String) (cc : ByteArray) (hm : hx_M) (pc y : Nat) : Prop := ∃ idx : Nat, decode cc pc = .ok (.invokestatic idx, 3) ∧ (hm y).2.2.1 ≤ 21 ∧ Cond.codeWith (hm y).1 (hm y).2.1 (hm y).2.2.1 (some .int) (hm y).2.2.2.1 ∈ Ts ∧ Cond.methodLink own idx (hm y).1 ∈ Ts ∧ Cond.initialized (hm y).1.cls ∈ Ts ∧ Cond.static (hm y).1 ∈ Ts ∧
  ((hm y).1.cls ≠ "java/lang/invoke/MethodHandle" ∧ (hm y).1.cls ≠ "java/lang/invoke/VarHandle") ∧ (parseMethodDescriptor (hm y).1.desc).map (fun d => d.parameters.length) = some (hm y).2.2.2.2
set_option maxHeartbeats 1000000 in
theorem hx_help {d y pc : Nat} {as r : List Value} {Qf : State → Prop} (hx : p.tables.exec = Jvm.exec) (hb : c.code = cc) (hown : s.vm.findClass own = some m.cls) (hts : ∀ w ∈ Ts, w.before args s = true) (hgood : ∀ w ∈ Ts, goodWord w = true) (hK : va_K D cl tys s) (hJ : va_K D cl [(cJ, .long)] s)
    (hN : mx_N dc st sa A s s.heap) (hG0 : mm_G ad A s s.heap) (hC : hx_N cs ns s) (hP : va_P D cl (lx_wd ad a3 Y (hx_e (ad 201) cJ f) σ) H) (hD : va_D A (lx_wd ad a3 Y (hx_e (ad 201) cJ f) σ)) (hS : va_S A s.heap H locs) (hA : ∀ q, s.heap.size ≤ q → A q)
    (hT : hx_T l Ts hm D cl tys ad a3 Y cJ dc st sa cs ns d y as σ f HQ) (hok : hx_ok Ts own cc hm pc y) (has : as.length = (hm y).2.2.2.2) (hr8 : mm_c1 8 r = true) (hsize : ls.size = c.maxLocals) (hfr : d + 10 ≤ R.frames) (hlo : 40 * d + 280 ≤ R.locals) (hce : cells + 1 ≤ R.cells) (hsl : slots + 6 ≤ R.slots)
    (kk : ∀ (k : Int32) (σ' : mm_S) (f' : Nat → Int64) (H1 : Heap) (locs1 : List Loc), HQ k σ' f' → va_P D cl (lx_wd ad a3 Y (hx_e (ad 201) cJ f') σ') H1 → va_D A (lx_wd ad a3 Y (hx_e (ad 201) cJ f') σ') → va_S A s.heap H1 locs1 → W p l e R s m args below meth c H1 locs1 (cells + 1) (slots + 6) Qf (F0 m (pc + 3) ls ((.int k :: r).map (mm_rho ad)))) :
    W p l e R s m args below meth c H locs cells slots Qf (F0 m pc ls ((as.reverse ++ r).map (mm_rho ad))) := by
  obtain ⟨idx, hdg, hmx, hcode, hlink, hini, hst, hy, hdesc⟩ := hok
  obtain ⟨hr, hrcat⟩ := mm_c1_el hr8
  have hA1 : ∀ q, va_A (lx_wd ad a3 Y (hx_e (ad 201) cJ f) σ) H.size q → A q := fun q hq => by
    rcases hq with ⟨k9, e9, h9⟩ | h9
    · exact hD.2 k9 (q, e9) h9
    · exact hA q (Nat.le_trans hS.1 h9)
  have hstk : (as.reverse ++ r).map (mm_rho ad) = (as.map (mm_rho ad)).reverse ++ r.map (mm_rho ad) := by simp
  rw [hstk]
  have hrun := hx_runS (p := p) (l := l) (e := e) (R := R) (s := s) (m := m) (args := args) (below := below) (meth := meth) (c := c) (H := H) (locs := locs) (cells := cells) (slots := slots) (y := (hm y).1) (bytes := (hm y).2.1) (maxL := (hm y).2.2.1) (ret := some .int) (hh := (hm y).2.2.2.1) (rm := hx_rm d) (As := as.map (mm_rho ad)) (rest := r.map (mm_rho ad)) (g := F0 m pc ls ((as.map (mm_rho ad)).reverse ++ r.map (mm_rho ad))) hx hb hown (hT H.size) (hx_blind (l := l)) (hx_rm_c d) (hx_rm_s d) (hx_rm_ok1 hfr) (hx_rm_ok hlo hmx)
    (fun w hw a' U hW => by
      rcases List.mem_cons.mp hw with h9 | h9
      · subst h9
        exact word_at hW (good_of_word (hgood _ hcode)) (hts _ hcode)
      · exact word_at hW (good_of_word (hgood _ h9)) (hts _ h9)) List.mem_cons_self (hts _ hini) (hts _ hlink) (hts _ hst) hy hdesc
    (fun U hU hW => ⟨rfl, by rw [hU], by rw [hU]; exact hP, va_K.moved hW.alike hK, va_K.moved hW.alike hJ, hD.weaken (fun _ _ _ _ => trivial), by
      rw [hU]
      exact ((hN.kept hS.2.1).narrow (fun q hq h8 => hA1 q h8)).moved hW, by rw [hU]; exact ((hG0.kept hS.2.1).narrow hA1).moved hW.alike, hC.moved hW⟩)
    rfl (by rw [List.length_map]; exact has) hsize rfl (lv_room (by rw [mm_cat_le ad r hrcat]; exact hr)) hdg ⟨hce, hsl⟩
  intro T hT' X
  obtain ⟨v, st₀, t, T', L, h0, X', hL, e1, e2, ⟨⟨k, σ', f', hv, hq, hP1⟩, hz, hk⟩, stp⟩ := hrun T hT' X
  cases hv
  rw [h0] at hz hk
  rw [← e1] at hP1 hz hk
  obtain ⟨t2, a1, b1⟩ := kk k σ' f' T'.heap (locs ++ L) hq hP1 (lx_Dad (lx_wd_ad (ext' := hx_e (ad 201) cJ f') (ext := hx_e (ad 201) cJ f) (σ := σ) rfl) hD)
    ⟨Nat.le_trans hS.1 hz, fun q h1 h2 => by rw [hk q (Nat.lt_of_lt_of_le h1 hS.1) (fun z => h2 (hA1 q z))]; exact hS.2.1 q h1 h2, fun q hq => by
      rcases List.mem_append.mp hq with h | h
      · exact hS.2.2 q h
      · exact hA1 _ (hL q h)⟩ T' rfl X'
  exact ⟨t2, stp t2 a1, b1⟩
end LXr
end
section
/-! the law's machine -/
abbrev lx_X : Type := Nat → List (Option Value) → List Value → mm_S → (Nat → Int64) → Nat → Prop
abbrev lx_H : Type := Nat → List Value → mm_S → (Nat → Int64) → (Int32 → mm_S → (Nat → Int64) → Prop) → Prop
theorem lx_pop_el : ∀ (n : Nat) (acc S as r : List Value), mm_pop n acc S = some (as, r) → ∃ bs, as = bs ++ acc ∧ S = bs.reverse ++ r ∧ bs.length = n
  | 0, acc, S, as, r, h => by
    simp only [mm_pop, Option.some.injEq, Prod.mk.injEq] at h
    exact ⟨[], by simp [h.1], by simp [h.2], rfl⟩
  | n + 1, acc, v :: S, as, r, h => by
    simp only [mm_pop] at h
    obtain ⟨bs, h1, h2, h3⟩ := lx_pop_el n (v :: acc) S as r h
    exact ⟨bs ++ [v], by simp [h1], by simp [h2], by simp [h3]⟩
  | n + 1, acc, [], as, r, h => by simp [mm_pop] at h
def lx_ll (S : List Value) (K : Int64 → Int64 → List Value → Prop) : Prop := match S with
  | .long y :: .long x :: r => K y x r
  | _ => False
theorem lx_ll_el {S : List Value} {K : Int64 → Int64 → List Value → Prop} (h : lx_ll S K) : ∃ y x r, S = .long y :: .long x :: r ∧ K y x r := by
  unfold lx_ll at h; split at h
  · exact ⟨_, _, _, rfl, h⟩
  · exact h.elim
def lx_pp (n : Nat) (S : List Value) (K : List Value → List Value → Prop) : Prop := match mm_pop n [] S with
  | some (as, r) => K as r
  | none => False
theorem lx_pp_el {n : Nat} {S : List Value} {K : List Value → List Value → Prop} (h : lx_pp n S K) : ∃ as r, S = as.reverse ++ r ∧ as.length = n ∧ K as r := by
  unfold lx_pp at h; split at h
  · rename_i as r hpop
    obtain ⟨bs, e1, e2, e3⟩ := lx_pop_el _ _ _ _ _ hpop
    rw [List.append_nil] at e1
    subst e1
    exact ⟨_, _, e2, e3, h⟩
  · exact h.elim
/-- sp: what is special at which pc (0 script read, 1 its length, 2 out read, 3 i2l, 4 lcmp, 5 switch, 6 helper, 7 end); ar: a helper's number of arguments -/
def lx_one (Y : mm_Y) (C : mm_C) (HC : lx_H) (M : mm_M) (sp : List (Nat × Nat × Nat)) (ar : Nat → Nat) (sw : Int32 → Nat) (xs : Nat → Int32) (len T : Nat) (X : lx_X) : lx_X := fun pc L S σ f t => match mm_look sp pc with
  | some (0, _) => mm_ir S (fun i k r => k = 200 ∧ vp_in i len ∧ X (pc + 1) L (.int (xs i.toNatClampNeg) :: r) σ f t)
  | some (1, _) => mm_r S (fun k r => k = 200 ∧ X (pc + 1) L (.int (Int32.ofNat len) :: r) σ f t)
  | some (2, _) => mm_ir S (fun i k r => k = 201 ∧ i = 0 ∧ X (pc + 1) L (.long (f 0) :: r) σ f t)
  | some (3, _) => mm_1 S (fun x r => X (pc + 1) L (.long x.toInt64 :: r) σ f t)
  | some (4, _) => lx_ll S (fun y x r => X (pc + 1) L (.int (lg_cmp x y) :: r) σ f t)
  | some (5, _) => mm_1 S (fun x r => X (sw x) L r σ f t)
  | some (6, y) => lx_pp (ar y) S (fun as r => mm_c1 8 r = true ∧ t < T ∧ HC y as σ f (fun k σ' f' => X (pc + 3) L (.int k :: r) σ' f' (t + 1)))
  | some (7, _) => S = [.int 1]
  | some _ => False
  | none => mm_one Y C M (fun _ _ => False) (fun pc L S σ => X pc L S σ f t) pc L S σ
def lx_W (Y : mm_Y) (C : mm_C) (HC : lx_H) (M : mm_M) (sp : List (Nat × Nat × Nat)) (ar : Nat → Nat) (sw : Int32 → Nat) (xs : Nat → Int32) (len T : Nat) : lx_X := fun pc L S σ f t => ∀ X : lx_X, (∀ pc L S σ f t, lx_one Y C HC M sp ar sw xs len T X pc L S σ f t → X pc L S σ f t) → X pc L S σ f t
def lx_sok (Ts : List Cond) (own : String) (cc : ByteArray) (hm : hx_M) (sw : Int32 → Nat) (q : Nat × Nat × Nat) : Prop := match q.2.1 with
  | 0 => decode cc q.1 = .ok (.iaload, 1)
  | 1 => decode cc q.1 = .ok (.arraylength, 1)
  | 2 => decode cc q.1 = .ok (.laload, 1)
  | 3 => decode cc q.1 = .ok (.i2l, 1)
  | 4 => decode cc q.1 = .ok (.lcmp, 1)
  | 5 => ∃ (dflt lo hi : Int) (offs : Array Int) (len : Nat), decode cc q.1 = .ok (.tableswitch dflt lo hi offs, len) ∧ ∀ x : Int32, ((x.toInt < lo ∨ hi < x.toInt) ∧ (q.1 : Int) + dflt = (sw x : Int)) ∨ (¬ x.toInt < lo ∧ ¬ hi < x.toInt ∧ ∃ off, offs[(x.toInt - lo).toNat]? = some off ∧ (q.1 : Int) + off = (sw x : Int))
  | 6 => hx_ok Ts own cc hm q.1 q.2.2
  | 7 => decode cc q.1 = .ok (.ireturn, 1)
  | _ => False
section LXs
variable {l : Launch} {Ts : List Cond} {nm : Nat → MethodName} {by_ : Nat → ByteArray} {mx : Nat → Nat} {D : va_G} {cl : List vw_C} {cI cZ cG cJ : ClassId} {ad : Nat → Nat} {Y : mm_Y} {B : mm_C} {yM ym : Nat}
variable {p : Program} {e : Env} {R : Room} {s : State} {m : MethodId} {args : Array Value} {below : List Frame} {meth : Method} {c : Code} {cc : ByteArray} {own : String} {nL d : Nat} {M : mm_M} {Qf : State → Prop} {A : Nat → Prop} {c0 s0 : Nat}
variable {dc : List MethodName} {st : mx_St} {sa : Nat → Nat} {cs ns : List (String × String)} {hm : hx_M} {HC : lx_H} {sp : List (Nat × Nat × Nat)} {sw : Int32 → Nat} {xs : Nat → Int32} {len T : Nat}
set_option maxHeartbeats 4000000 in
theorem lx_sound (hBm : mm_mono B) (hgood : ∀ w ∈ Ts, goodWord w = true) (hret : M.2.2.2.2 = 7)
    (hMn : nm yM = Lib.Math.max.name ∧ by_ yM = Lib.Math.max.code ∧ mx yM = 2 ∧ (mm_me Y yM).2.2.2.2 = 1 ∧ (mm_me Y yM).1 = []) (hmn : nm ym = Lib.Math.min.name ∧ by_ ym = Lib.Math.min.code ∧ mx ym = 2 ∧ (mm_me Y ym).2.2.2.2 = 1 ∧ (mm_me Y ym).1 = [])
    (hB : ∀ y as σ Q, B y as σ Q → (y ≠ yM ∧ y ≠ ym ∧ ∀ d, mm_T l Ts nm by_ mx D cl [(cI, .int), (cZ, .boolean), (cG, .array .int)] ad (cI, cZ, cG) Y d y as σ Q) ∨ (y = yM ∧ ∃ x z, as = [.int x, .int z] ∧ Q (some (.int (if x < z then z else x))) σ) ∨ (y ≠ yM ∧ y = ym ∧ ∃ x z, as = [.int x, .int z] ∧ Q (some (.int (if z < x then z else x))) σ))
    (hTT : ∀ y as σ Q, y ≠ yM → y ≠ ym → mm_D Y B mx d y as σ Q → mm_T l Ts nm by_ mx D cl [(cI, .int), (cZ, .boolean), (cG, .array .int)] ad (cI, cZ, cG) Y d y as σ Q)
    (hHC : ∀ y as σ f HQ, HC y as σ f HQ → hx_T l Ts hm D cl [(cI, .int), (cZ, .boolean), (cG, .array .int)] ad (cI, cZ, cG) Y cJ dc st sa cs ns d y as σ f HQ)
    (hx : p.tables.exec = Jvm.exec) (hb : c.code = cc) (hml : c.maxLocals = nL) (hown : s.vm.findClass own = some m.cls) (hts : ∀ w ∈ Ts, w.before args s = true) (hK : va_K D cl [(cI, .int), (cZ, .boolean), (cG, .array .int)] s) (hJ : va_K D cl [(cJ, .long)] s)
    (hE : M.1.all (mm_okE cc) = true) (hg : ∀ q ∈ M.2.1, mm_gok cl Ts own q.1 q.2.1 q.2.2) (hp : ∀ q ∈ M.2.2.1, mm_pok Y cl Ts own q.1 q.2.1 q.2.2) (hk : ∀ q ∈ M.2.2.2.1, mm_kok Ts nm by_ mx cl Y own q) (hld : ∀ (pc idx len t : Nat) (v : Int32), mm_look M.1 pc = some (.ldc_w idx, len, t, v) → Cond.constant own idx v ∈ Ts)
    (hsp : ∀ q ∈ sp, lx_sok Ts own cc hm sw q) (hN : mx_N dc st sa A s s.heap) (hG0 : mm_G ad A s s.heap) (hC : hx_N cs ns s) (hXs : va_X (ad 200) len xs s s.heap) (hbl : ad 200 < s.heap.size) (hbA : ¬ A (ad 200)) (hA : ∀ q, s.heap.size ≤ q → A q)
    (hfr : d + 10 ≤ R.frames) (hlo : 40 * d + 280 ≤ R.locals) (hce : c0 + T ≤ R.cells) (hsl : s0 + 6 * T ≤ R.slots)
    (hfin : ∀ (pc : Nat) (H : Heap) (locs : List Loc) (ls : Array Slot) (t : Nat), t ≤ T → decode cc pc = .ok (.ireturn, 1) → va_S A s.heap H locs → W p l e R s m args below meth c H locs (c0 + t) (s0 + 6 * t) Qf (F0 m pc ls [.int 1]))
    {pc : Nat} {L : List (Option Value)} {S : List Value} {σ : mm_S} {f : Nat → Int64} {t : Nat} (ht : t ≤ T) (h : lx_W Y (mm_D Y B mx d) HC M sp (fun y => (hm y).2.2.2.2) sw xs len T pc L S σ f t) :
    lx_V p l e R s m args below meth c D cl A ad (cI, cZ, cG) Y nL Qf (hx_e (ad 201) cJ f) (c0 + t) (s0 + 6 * t) pc L S σ := by
  have hG : ∀ y', Cond.code (nm y') (by_ y') (mx y') (mm_rty (mm_me Y y').2.2.2.2) ∈ Ts → GoodIn Ts (mm_ws Ts nm by_ mx Y y') := fun y' hy' w hw => by
    rcases List.mem_cons.mp hw with h9 | h9
    · subst h9
      exact ⟨hy', good_of_word (hgood _ hy')⟩
    · exact ⟨h9, good_of_word (hgood _ h9)⟩
  refine h (fun pc L S σ f t => t ≤ T → lx_V p l e R s m args below meth c D cl A ad (cI, cZ, cG) Y nL Qf (hx_e (ad 201) cJ f) (c0 + t) (s0 + 6 * t) pc L S σ) ?_ ht
  intro pc L S σ f t hone htT
  have hout : (lx_wd ad (cI, cZ, cG) Y (hx_e (ad 201) cJ f) σ)[(mm_wd ad (cI, cZ, cG) Y σ).length]? = some (ad 201, .inl (cJ, 1, .inr (.inl f))) := by
    unfold lx_wd hx_e
    rw [List.getElem?_append_right (Nat.le_refl _), Nat.sub_self]
    rfl
  unfold lx_one at hone
  cases hq : mm_look sp pc with
  | none =>
    simp only [hq] at hone
    have h9 : mm_one Y (mm_D Y B mx d) M (fun _ _ => False) (lx_V p l e R s m args below meth c D cl A ad (cI, cZ, cG) Y nL Qf (hx_e (ad 201) cJ f) (c0 + t) (s0 + 6 * t)) pc L S σ := mm_one_mono (mm_D_mono hBm d) (fun _ _ z => z) (fun pc L S σ z => z htT) pc L S σ hone
    exact lx_mstep hret hx hb hown hts hK rfl rfl rfl hE (fun idx ci j hq => hg _ (mm_look_mem hq)) (fun idx ci j hq => hp _ (mm_look_mem hq)) hld
      (lx_hc1 hMn hmn hB hTT hx hb hml hown hts hK hG hk (by omega) (by omega) hA (by omega) (by omega) hG0)
      (lx_hc0 hMn hmn hB hTT hx hb hml hown hts hK hG hk (by omega) (by omega) hA (by omega) (by omega) hG0) pc L S σ h9
  | some q =>
    obtain ⟨k, y⟩ := q
    have hs := hsp _ (mm_look_mem hq)
    simp only [hq] at hone
    match k with
    | 0 =>
      replace hone := mm_ir_el hone
      obtain ⟨i, k, r, rfl, rfl, hin, hone⟩ := hone
      intro H locs ls hP hD hS hl
      exact va_sld hx hb hXs hbl hbA hS hin hs (hone htT H locs ls hP hD hS hl)
    | 1 =>
      replace hone := mm_r_el hone
      obtain ⟨k, r, rfl, rfl, hone⟩ := hone
      intro H locs ls hP hD hS hl
      exact va_slen hx hb hXs hbl hbA hS hs (hone htT H locs ls hP hD hS hl)
    | 2 =>
      replace hone := mm_ir_el hone
      obtain ⟨i, k, r, rfl, rfl, rfl, hone⟩ := hone
      intro H locs ls hP hD hS hl
      exact va_lald hx hb hJ hP _ 0 hout rfl (by unfold vp_in; decide) hs (hone htT H locs ls hP hD hS hl)
    | 3 =>
      replace hone := mm_1_el hone
      obtain ⟨x, r, rfl, hone⟩ := hone
      intro H locs ls hP hD hS hl
      exact lv_i2l hx hb hs rfl (hone htT H locs ls hP hD hS hl)
    | 4 =>
      replace hone := lx_ll_el hone
      obtain ⟨y, x, r, rfl, hone⟩ := hone
      intro H locs ls hP hD hS hl
      exact W.lcmp hx hb hs (hone htT H locs ls hP hD hS hl)
    | 5 =>
      replace hone := mm_1_el hone
      obtain ⟨x, r, rfl, hone⟩ := hone
      obtain ⟨dflt, lo, hi, offs, len9, hdg, hsw⟩ := hs
      intro H locs ls hP hD hS hl
      rcases hsw x with ⟨h1, h2⟩ | ⟨h1, h2, off, h3, h4⟩
      · exact lv_tableOut hx hb hdg h1 h2 (hone htT H locs ls hP hD hS hl)
      · exact lv_tableIn hx hb hdg h1 h2 h3 h4 (hone htT H locs ls hP hD hS hl)
    | 6 =>
      replace hone := lx_pp_el hone
      obtain ⟨as, r, rfl, e3, hr8, htl, hone⟩ := hone
      intro H locs ls hP hD hS hl
      refine hx_help hx hb hown hts hgood hK hJ hN hG0 hC hP hD hS hA (hHC _ _ _ _ _ hone) hs e3 hr8 (hl.1.1.trans hml.symm) hfr hlo (by omega) (by omega) (fun k σ' f' H1 locs1 hq hP1 hD1 hS1 => ?_)
      exact hq (by omega) H1 locs1 ls hP1 hD1 hS1 hl
    | 7 =>
      have hone' : S = [.int 1] := hone
      subst hone'
      intro H locs ls hP hD hS hl
      exact hfin pc H locs ls t htT hs hS
    | n + 8 => exact hone.elim
end LXs
end
section
/-! contracts of the law's helpers -/
theorem hx_set {ad : Nat → Nat} {a3 : ClassId × ClassId × ClassId} {Y : mm_Y} {qo : Nat} {cJ : ClassId} {f g : Nat → Int64} {σ : mm_S} : (lx_wd ad a3 Y (hx_e qo cJ f) σ).set (mm_wd ad a3 Y σ).length (qo, .inl (cJ, 1, .inr (.inl g))) = lx_wd ad a3 Y (hx_e qo cJ g) σ := by
  unfold lx_wd hx_e
  rw [List.set_append_right _ _ (Nat.le_refl _), Nat.sub_self]
  rfl
/-- loads, in order -/
def hx_lok (cc : ByteArray) (lv : List (Nat × Value)) : Nat → List Value → Nat → Prop
  | pc, [], pe => pc = pe
  | pc, .int x :: r, pe => ∃ i, (i, Value.int x) ∈ lv ∧ ((∃ kf : Fin 4, kf.val = i ∧ decode cc pc = .ok (.iload_n kf, 1) ∧ hx_lok cc lv (pc + 1) r pe) ∨ (decode cc pc = .ok (.iload i, 2) ∧ hx_lok cc lv (pc + 2) r pe))
  | pc, .ref x :: r, pe => ∃ i, (i, Value.ref x) ∈ lv ∧ ∃ kf : Fin 4, kf.val = i ∧ decode cc pc = .ok (.aload_n kf, 1) ∧ hx_lok cc lv (pc + 1) r pe
  | _, _ :: _, _ => False
section HX2
variable {p : Program} {l : Launch} {e : Env} {R : Room} {s : State} {m : MethodId} {args : Array Value} {below : List Frame} {meth : Method} {c : Code} {H : Heap} {locs : List Loc} {cells slots : Nat} {Qf : State → Prop} {cc : ByteArray} {ls : Array Slot} {nL : Nat}
theorem hx_load (hx : p.tables.exec = Jvm.exec) (hb : c.code = cc) {lv : List (Nat × Value)} (hlv : lv_has ls nL lv) {pe : Nat} : ∀ (vs : List Value) (pc : Nat) (S : List Value), hx_lok cc lv pc vs pe → W p l e R s m args below meth c H locs cells slots Qf (F0 m pe ls (vs.reverse ++ S)) → W p l e R s m args below meth c H locs cells slots Qf (F0 m pc ls S)
  | [], pc, S, h, k => by
    have h' : pc = pe := h
    subst h'
    exact k
  | .int x :: r, pc, S, h, k => by
    obtain ⟨i, hi, h⟩ := h
    have hl := hlv.2.2 _ hi
    rcases h with ⟨kf, hk, hd, h⟩ | ⟨hd, h⟩
    · exact lv_iload_n hx hb hd hk hl (hx_load hx hb hlv r (pc + 1) (.int x :: S) h (by rw [List.reverse_cons, List.append_assoc] at k; exact k))
    · exact lv_iload hx hb hd hl (hx_load hx hb hlv r (pc + 2) (.int x :: S) h (by rw [List.reverse_cons, List.append_assoc] at k; exact k))
  | .ref x :: r, pc, S, h, k => by
    obtain ⟨i, hi, kf, hk, hd, h⟩ := h
    have hl := hlv.2.2 _ hi
    exact lv_aload_n hx hb hd hk hl (hx_load hx hb hlv r (pc + 1) (.ref x :: S) h (by rw [List.reverse_cons, List.append_assoc] at k; exact k))
  | .long _ :: _, _, _, h, _ => h.elim
  | .float _ :: _, _, _, h, _ => h.elim
  | .double _ :: _, _, _, h, _ => h.elim
  | .null :: _, _, _, h, _ => h.elim
  | .retAddr _ :: _, _, _, h, _ => h.elim
end HX2
section HX3
variable {l : Launch} {Ts : List Cond} {hm : hx_M} {D : va_G} {cl : List vw_C} {tys : List (ClassId × FieldType)} {ad : Nat → Nat} {a3 : ClassId × ClassId × ClassId} {Y : mm_Y} {cJ : ClassId} {dc : List MethodName} {st : mx_St} {sa : Nat → Nat} {cs ns : List (String × String)} {exn : Nat → String} {nx : Nat → MethodName} {bx : Nat → ByteArray} {mxx : Nat → Nat}
/-- what a helper's call of the class's method y asks of the words -/
def hx_cok (Ts : List Cond) (cl : List vw_C) (nx : Nat → MethodName) (bx : Nat → ByteArray) (mxx : Nat → Nat) (own : String) (cc : ByteArray) (pcI y n ret : Nat) : Prop := ∃ idx : Nat, decode cc pcI = .ok (.invokevirtual idx, 3) ∧ mxx y ≤ 21 ∧ Cond.code (nx y) (bx y) (mxx y) (mm_rty ret) ∈ Ts ∧ Cond.methodLink own idx (nx y) ∈ Ts ∧ Cond.initialized (nx y).cls ∈ Ts ∧
  ((nx y).cls ≠ "java/lang/invoke/MethodHandle" ∧ (nx y).cls ≠ "java/lang/invoke/VarHandle") ∧ (parseMethodDescriptor (nx y).desc).map (fun d => d.parameters.length) = some n ∧ Cond.instanceMethod (nx y) ∈ Ts ∧ Cond.selects (nx y).cls (nx y) (nx y) ∈ Ts ∧ ∃ T N, cl[0]? = some ((nx y).cls, T, N)
set_option maxHeartbeats 1000000 in
theorem hx_void {h y d ret pcI pe : Nat} {as : List Value} {σ : mm_S} {f : Nat → Int64} {Q : mm_Q} {XQ : Nat → mm_S → Prop} {HQ : Int32 → mm_S → (Nat → Int64) → Prop} {fs : List (Option Nat)} {off : Int} (hgood : ∀ w ∈ Ts, goodWord w = true) (hkd : mm_kd Y 0 = (0, 0, fs)) (hpl : plainName (hm h).1.cls = true)
    (hT : mx_T l Ts nx bx mxx D cl tys ad a3 Y dc st sa exn ret d y (.ref 0 :: as) σ Q XQ) (hc1 : mm_c1 (hm h).2.2.1 (.ref 0 :: as) = true) (hok : hx_cok Ts cl nx bx mxx (hm h).1.cls (hm h).2.1 pcI y as.length ret)
    (hlo : hx_lok (hm h).2.1 (lv_args 0 ((Value.ref 0 :: as).map (mm_rho ad))) 0 ((Value.ref 0 :: as).map (mm_rho ad)) pcI) (hgo : decode (hm h).2.1 (pcI + 3) = .ok (.goto off, 3)) (hoff : ((pcI + 3 : Nat) : Int) + off = (pe : Int)) (d0 : decode (hm h).2.1 pe = .ok (.iconst 0, 1)) (d1 : decode (hm h).2.1 (pe + 1) = .ok (.ireturn, 1))
    (hQ : ∀ v σ', Q v σ' → v = none ∧ HQ 0 σ' f) (hX : ∀ E σ', XQ E σ' → ∃ v, hx_han Ts cs ns (hm h).1.cls (hm h).2.1 (hm h).2.2.1 pcI (tableOf (hm h).2.2.2.1) (exn E) v ∧ HQ v σ' f) :
    hx_T l Ts hm D cl tys ad a3 Y cJ dc st sa cs ns d h (.ref 0 :: as) σ f HQ := by
  intro sz
  refine va_MetW (hh := (hm h).2.2.2.1) hpl rfl ?_
  intro p e s m args below meth c s₁ B0 hml hv
  obtain ⟨rfl, hsz, hP, hK, hJ, hD, hN, hG0, hC⟩ := hv
  subst hsz
  have hts0 := atoms_spec (ws := Cond.codeWith (hm h).1 (hm h).2.1 (hm h).2.2.1 (some .int) (hm h).2.2.2.1 :: Ts) B0.pre
  have htab : c.exceptionTable.toList = tableOf (hm h).2.2.2.1 := by
    obtain ⟨m9, meth9, c9, hn9, h1, h2, -, -, h7, -⟩ := Cond.codeWith_spec (hts0 _ List.mem_cons_self)
    cases Option.some.inj (hn9.symm.trans B0.named)
    cases Option.some.inj (h1.symm.trans B0.method)
    cases Option.some.inj (h2.symm.trans (Stand.of_body B0).code)
    rw [← h7, table_eq]
  have hx := B0.exec
  have hb := B0.bytes
  have hr := B0.returns
  have hlocks := B0.notSynchronized
  have hts : ∀ w ∈ Ts, w.before ((Value.ref 0 :: as).map (mm_rho ad)).toArray s = true := fun w hw => hts0 w (List.mem_cons_of_mem _ hw)
  have hown : s.vm.findClass (hm h).1.cls = some m.cls := findClass_of_methodNamed B0.named
  obtain ⟨hlen, hcat⟩ := mm_c1_el hc1
  have hcat' : ∀ v ∈ (Value.ref 0 :: as).map (mm_rho ad), v.category = 1 := fun v hv => by
    obtain ⟨w, hw, rfl⟩ := List.mem_map.mp hv
    rw [mm_rho_cat]
    exact hcat w hw
  have hl0 := lv_entry ((Value.ref 0 :: as).map (mm_rho ad)) (n := (hm h).2.2.1) (by rw [mm_sl_len _ hcat', List.length_map]; exact hlen)
  rw [lg_entry_eq]
  generalize (lg_sl ((Value.ref 0 :: as).map (mm_rho ad)) ++ List.replicate ((hm h).2.2.1 - (lg_sl ((Value.ref 0 :: as).map (mm_rho ad))).length) Slot.unset).toArray = ls0 at hl0 ⊢
  obtain ⟨idx, hdg, hmx, hcode, hlink, hini, hnm, hdesc, hinst, hsel, hcl⟩ := hok
  refine hx_load hx hb hl0 _ 0 [] hlo ?_
  have hstk : ((Value.ref 0 :: as).map (mm_rho ad)).reverse ++ [] = (as.map (mm_rho ad)).reverse ++ .ref (ad 0) :: [] := by simp [mm_rho]
  rw [hstk]
  refine hx_call (rest := []) hx hb hml hown hts hgood hK hr hlocks hN hG0 hC hP hD hT hcode hmx hlink hini hnm hdesc rfl hinst hsel hcl hkd hl0 (by simp) hdg (fun E σ' hx9 => by rw [htab]; exact hX E σ' hx9) (fun v σ' H1 locs1 hq hP1 hD1 hS1 => ?_)
  obtain ⟨rfl, hq2⟩ := hQ v σ' hq
  exact lv_goto hx hb hgo hoff (hx_fin (v := 0) hx hb hr hlocks rfl d0 d1 hP1 hS1 hq2 (by omega) (by omega))
set_option maxHeartbeats 1000000 in
theorem hx_out {h y d ret pcI pe io : Nat} {as : List Value} {σ : mm_S} {f : Nat → Int64} {Q : mm_Q} {XQ : Nat → mm_S → Prop} {HQ : Int32 → mm_S → (Nat → Int64) → Prop} {fs : List (Option Nat)} {off : Int} {kf : Fin 4} (hgood : ∀ w ∈ Ts, goodWord w = true) (hkd : mm_kd Y 0 = (0, 0, fs)) (hpl : plainName (hm h).1.cls = true)
    (hT : mx_T l Ts nx bx mxx D cl tys ad a3 Y dc st sa exn ret d y (.ref 0 :: as) σ Q XQ) (hc1 : mm_c1 (hm h).2.2.1 (Value.ref 0 :: as ++ [Value.ref 201]) = true) (hok : hx_cok Ts cl nx bx mxx (hm h).1.cls (hm h).2.1 pcI y as.length ret)
    (hio : (io, Value.ref (ad 201)) ∈ lv_args 0 ((Value.ref 0 :: as ++ [Value.ref 201]).map (mm_rho ad))) (hkf : kf.val = io) (g0 : decode (hm h).2.1 0 = .ok (.aload_n kf, 1)) (g1 : decode (hm h).2.1 1 = .ok (.iconst 0, 1))
    (hlo : hx_lok (hm h).2.1 (lv_args 0 ((Value.ref 0 :: as ++ [Value.ref 201]).map (mm_rho ad))) 2 ((Value.ref 0 :: as).map (mm_rho ad)) pcI) (gi : decode (hm h).2.1 (pcI + 3) = .ok (.i2l, 1)) (gl : decode (hm h).2.1 (pcI + 4) = .ok (.lastore, 1)) (hgo : decode (hm h).2.1 (pcI + 5) = .ok (.goto off, 3)) (hoff : ((pcI + 5 : Nat) : Int) + off = (pe : Int)) (d0 : decode (hm h).2.1 pe = .ok (.iconst 0, 1)) (d1 : decode (hm h).2.1 (pe + 1) = .ok (.ireturn, 1))
    (hQ : ∀ v σ', Q v σ' → ∃ x : Int32, v = some (.int x) ∧ HQ 0 σ' (vp_updL f 0 x.toInt64)) (hX : ∀ E σ', XQ E σ' → ∃ v, hx_han Ts cs ns (hm h).1.cls (hm h).2.1 (hm h).2.2.1 pcI (tableOf (hm h).2.2.2.1) (exn E) v ∧ HQ v σ' f) :
    hx_T l Ts hm D cl tys ad a3 Y cJ dc st sa cs ns d h (Value.ref 0 :: as ++ [Value.ref 201]) σ f HQ := by
  intro sz
  refine va_MetW (hh := (hm h).2.2.2.1) hpl rfl ?_
  intro p e s m args below meth c s₁ B0 hml hv
  obtain ⟨rfl, hsz, hP, hK, hJ, hD, hN, hG0, hC⟩ := hv
  subst hsz
  have hts0 := atoms_spec (ws := Cond.codeWith (hm h).1 (hm h).2.1 (hm h).2.2.1 (some .int) (hm h).2.2.2.1 :: Ts) B0.pre
  have htab : c.exceptionTable.toList = tableOf (hm h).2.2.2.1 := by
    obtain ⟨m9, meth9, c9, hn9, h1, h2, -, -, h7, -⟩ := Cond.codeWith_spec (hts0 _ List.mem_cons_self)
    cases Option.some.inj (hn9.symm.trans B0.named)
    cases Option.some.inj (h1.symm.trans B0.method)
    cases Option.some.inj (h2.symm.trans (Stand.of_body B0).code)
    rw [← h7, table_eq]
  have hx := B0.exec
  have hb := B0.bytes
  have hr := B0.returns
  have hlocks := B0.notSynchronized
  have hts : ∀ w ∈ Ts, w.before ((Value.ref 0 :: as ++ [Value.ref 201]).map (mm_rho ad)).toArray s = true := fun w hw => hts0 w (List.mem_cons_of_mem _ hw)
  have hown : s.vm.findClass (hm h).1.cls = some m.cls := findClass_of_methodNamed B0.named
  obtain ⟨hlen, hcat⟩ := mm_c1_el hc1
  have hcat' : ∀ v ∈ (Value.ref 0 :: as ++ [Value.ref 201]).map (mm_rho ad), v.category = 1 := fun v hv => by
    obtain ⟨w, hw, rfl⟩ := List.mem_map.mp hv
    rw [mm_rho_cat]
    exact hcat w hw
  have hl0 := lv_entry ((Value.ref 0 :: as ++ [Value.ref 201]).map (mm_rho ad)) (n := (hm h).2.2.1) (by rw [mm_sl_len _ hcat', List.length_map]; exact hlen)
  rw [lg_entry_eq]
  generalize (lg_sl ((Value.ref 0 :: as ++ [Value.ref 201]).map (mm_rho ad)) ++ List.replicate ((hm h).2.2.1 - (lg_sl ((Value.ref 0 :: as ++ [Value.ref 201]).map (mm_rho ad))).length) Slot.unset).toArray = ls0 at hl0 ⊢
  obtain ⟨idx, hdg, hmx, hcode, hlink, hini, hnm, hdesc, hinst, hsel, hcl⟩ := hok
  refine lv_aload_n hx hb g0 hkf (hl0.2.2 _ hio) (lv_iconst hx hb g1 (v := 0) rfl ?_)
  refine hx_load hx hb hl0 _ 2 [.int 0, .ref (ad 201)] hlo ?_
  have hstk : ((Value.ref 0 :: as).map (mm_rho ad)).reverse ++ [.int 0, .ref (ad 201)] = (as.map (mm_rho ad)).reverse ++ .ref (ad 0) :: [.int 0, .ref (ad 201)] := by simp [mm_rho]
  rw [hstk]
  refine hx_call (rest := [.int 0, .ref (ad 201)]) hx hb hml hown hts hgood hK hr hlocks hN hG0 hC hP hD hT hcode hmx hlink hini hnm hdesc rfl hinst hsel hcl hkd hl0 (by show 1 + (1 + 0) ≤ 8; omega) hdg (fun E σ' hx9 => by rw [htab]; exact hX E σ' hx9) (fun v σ' H1 locs1 hq hP1 hD1 hS1 => ?_)
  obtain ⟨x, rfl, hq2⟩ := hQ v σ' hq
  have hout : (lx_wd ad a3 Y (hx_e (ad 201) cJ f) σ')[(mm_wd ad a3 Y σ').length]? = some (ad 201, .inl (cJ, 1, .inr (.inl f))) := by
    unfold lx_wd hx_e
    rw [List.getElem?_append_right (Nat.le_refl _), Nat.sub_self]
    rfl
  refine lv_i2l hx hb gi (v := x.toInt64) rfl ?_
  refine va_last hx hb hJ hP1 hD1 hS1 _ 0 hout rfl (by unfold vp_in; decide) gl (fun H2 locs2 hP2 hD2 hS2 => ?_)
  rw [hx_set] at hP2
  exact lv_goto hx hb hgo hoff (hx_fin (v := 0) hx hb hr hlocks rfl d0 d1 hP2 hS2 hq2 (by omega) (by omega))
end HX3
end

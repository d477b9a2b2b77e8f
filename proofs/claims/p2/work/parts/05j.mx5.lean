section MXe
variable {p : Program} {l : Launch} {e : Env} {R : Room} {s : State} {m : MethodId} {args : Array Value} {below : List Frame} {meth : Method} {c : Code} {U : State} {locs : List Loc} {cells slots : Nat}
/-- a callee runs, by its contract -/
theorem mx_enter (X : Stand p l e R s m args below meth c U locs cells slots) {g : JFrame} (hg : g.method = m) (hsize : g.locals.size = c.maxLocals) {ig : Instr} {len : Nat} (hdg : decode c.code g.pc = .ok (ig, len)) {W9 : Nat} (hWt : 2 * g.monitorRoom + (g.stack.map fun v => v.category).sum ≤ W9)
    {y : MethodName} {mk : MethodId} {maxL : Nat} {ws : List Cond} {rm : Room} {Pc : Array Value → State → Prop} {Qm : Array Value → State → Outcome → State → Prop} {a : Array Value} {methY : Method} {cY : Code} (hn : U.methodNamed? y = some mk)
    (hM : MetFree l y (headSpec ws rm) Pc (fun _ _ _ _ _ => True) Qm) (hws : ∀ w ∈ ws, w.before a U = true) (hmY : U.vm.method? mk = some methY) (hcY : methY.code = some cY) (hlY : cY.maxLocals = maxL) (hini : (Cond.initialized y.cls).before a U = true)
    (hframes : rm.frames + 1 ≤ R.frames) (hlocals : W9 + (maxL + 11) + rm.locals ≤ R.locals) (hcells : cells + rm.cells ≤ R.cells) (hslots : slots + rm.slots ≤ R.slots) (hP : Pc a (U.calling g mk a)) :
    ∃ o t, Steps p.tables e below (doInvoke e (U.setTop g) [] mk a).1 t ∧ Ended t (U.setTop g).frames o ∧ Qm a (U.calling g mk a) o t := by
  have h : At U g.method c below := by rw [hg]; exact X.here
  obtain ⟨kY, hkY, -⟩ := className_of_methodNamed hn
  have hinitY : kY.init = .initialized := Cond.initialized_spec (findClass_of_methodNamed hn) hkY hini
  have h1 : (headSpec ws rm).pre.before a U = true := atoms_intro hws
  have hl9 : W9 + (maxL + 11) + (headSpec ws rm).room.locals ≤ R.locals := hlocals
  have happ : (headSpec ws rm).appliesLoose y e.platform (U.calling g mk a) = true :=
    Spec.appliesLoose_calling (g := g) h hdg hn hkY hinitY (X.room_calling (g := g) (R' := (headSpec ws rm).room) hsize hmY hcY hframes (by rw [hlY]; omega) hcells hslots) h1
  obtain ⟨mid, hmid⟩ := h.above
  have hfr : (U.setTop g).frames = (.java g :: mid) ++ below := by rw [State.frames_setTop' g h.top, hmid]; rfl
  obtain ⟨o, t, hsteps, -, hend, hq⟩ := Steps.callFree hM p X.admits X.cas X.clock (acts := []) hfr happ hP trivial
  exact ⟨o, t, hsteps, hend, hq⟩
end MXe
/-- the machine over a frame with a throw under way -/
def mx_X (p : Program) (l : Launch) (e : Env) (R : Room) (s : State) (m : MethodId) (args : Array Value) (below : List Frame) (meth : Method) (c : Code) (H : Heap) (locs : List Loc) (cells slots : Nat) (Q : State → Prop) (g : JFrame) (q : Addr) : Prop :=
  ∀ T : State, T.heap = H → Stand p l e R s m args below meth c T locs cells slots → ∃ t, Steps p.tables e below ((T.setTop g).pushFrame (.throwing q)) t ∧ Q t
def mx_Q (D : va_G) (cl : List vw_C) (tys : List (ClassId × FieldType)) (A : Nat → Prop) (ad : Nat → Nat) (a3 : ClassId × ClassId × ClassId) (Y : mm_Y) (exn : Nat → String) (Q : mm_Q) (XQ : Nat → mm_S → Prop) : Array Value → State → Outcome → State → Prop := fun _ st o t =>
  (∃ (v : Option Value) (σ : mm_S) (L : List Loc), o = .returned (v.map (mm_rho ad)) ∧ Q v σ ∧ va_P D cl (mm_wd ad a3 Y σ) t.heap ∧ va_D A (mm_wd ad a3 Y σ) ∧ va_K D cl tys t ∧ va_F A st t ∧ st.WarmedH t.vm ∧ st.sameButNew ({ t with vm := st.vm } : State) L 0 0 ∧ ∀ z ∈ L, A z.base) ∨
  (∃ (q : Addr) (E : Nat) (σ : mm_S) (ce : Cell) (L : List Loc), o = .threw q ∧ XQ E σ ∧ t.heap[q]? = some ce ∧ ce.vm = .none ∧ st.vm.findClass (exn E) = some ce.cls ∧ va_P D cl (mm_wd ad a3 Y σ) t.heap ∧ va_D A (mm_wd ad a3 Y σ) ∧ va_K D cl tys t ∧ va_F A st t ∧ st.WarmedH t.vm ∧ st.sameButNew ({ t with vm := st.vm } : State) L 1 6 ∧ ∀ z ∈ L, A z.base)
section MXc
variable {p : Program} {l : Launch} {e : Env} {R : Room} {s : State} {m : MethodId} {args : Array Value} {below : List Frame} {meth : Method} {c : Code} {H : Heap} {locs : List Loc} {cells slots : Nat} {Qf : State → Prop} {D : va_G} {cl : List vw_C} {tys : List (ClassId × FieldType)} {A A1 : Nat → Prop} {ad : Nat → Nat} {a3 : ClassId × ClassId × ClassId} {Y : mm_Y} {exn : Nat → String} {Q : mm_Q} {XQ : Nat → mm_S → Prop} {cc : ByteArray} {ls : Array Slot} {pc : Nat}
/-- a virtual call of a method that may throw -/
theorem mx_callV (hx : p.tables.exec = Jvm.exec) (hb : c.code = cc) {own C : String} {idx n maxL : Nat} {y : MethodName} {bytes : ByteArray} {ret : Option FieldType} {ws : List Cond} {rm : Room} {Pc : Array Value → State → Prop} {b : Addr} {As rest : List Value}
    (hown : s.vm.findClass own = some m.cls) (hlink : (Cond.methodLink own idx y).before args s = true) (hinst : (Cond.instanceMethod y).before args s = true) (hsel : (Cond.selects C y y).before args s = true) (hcode : (Cond.code y bytes maxL ret).before args s = true) (hini : ∀ (a' : Array Value) (U : State), s.WarmedH U.vm → (Cond.initialized y.cls).before a' U = true)
    (hy : y.cls ≠ "java/lang/invoke/MethodHandle" ∧ y.cls ≠ "java/lang/invoke/VarHandle") (hlen : (parseMethodDescriptor y.desc).map (fun d => d.parameters.length) = some n) (hAs : As.length = n)
    (hM : MetFree l y (headSpec ws rm) Pc (fun _ _ _ _ _ => True) (mx_Q D cl tys A1 ad a3 Y exn Q XQ)) (hws : ∀ w ∈ ws, ∀ (a' : Array Value) (U : State), s.WarmedH U.vm → w.before a' U = true)
    (hrecv : ∃ cellB : Cell, H[b]? = some cellB ∧ cellB.vm.isStatics = false ∧ s.vm.findClass C = some cellB.cls) (hPc : ∀ (U : State) (g : JFrame) (mk : MethodId), U.heap = H → s.WarmedH U.vm → Pc (Value.ref b :: As).toArray (U.calling g mk (Value.ref b :: As).toArray))
    (hsize : ls.size = c.maxLocals) (hW : (rest.map fun v => v.category).sum ≤ 8) (hdg : decode cc pc = .ok (.invokevirtual idx, 3)) (hframes : rm.frames + 1 ≤ R.frames) (hlocals : 8 + (maxL + 11) + rm.locals ≤ R.locals) (hcells : cells + rm.cells ≤ R.cells) (hslots : slots + rm.slots ≤ R.slots)
    (hS : va_S A s.heap H locs) (hA1 : ∀ q, A1 q → A q)
    (kr : ∀ (v : Option Value) (σ : mm_S) (H1 : Heap) (locs1 : List Loc), Q v σ → va_P D cl (mm_wd ad a3 Y σ) H1 → va_D A1 (mm_wd ad a3 Y σ) → va_S A s.heap H1 locs1 → H.size ≤ H1.size → (∀ q : Nat, q < H.size → ¬ A1 q → H1[q]? = H[q]?) → W p l e R s m args below meth c H1 locs1 cells slots Qf (F0 m (pc + 3) ls ((v.map (mm_rho ad)).toList ++ rest)))
    (kt : ∀ (q : Addr) (E : Nat) (σ : mm_S) (ce : Cell) (H1 : Heap) (locs1 : List Loc), XQ E σ → H1[q]? = some ce → ce.vm = .none → s.vm.findClass (exn E) = some ce.cls → va_P D cl (mm_wd ad a3 Y σ) H1 → va_D A1 (mm_wd ad a3 Y σ) → va_S A s.heap H1 locs1 → H.size ≤ H1.size → (∀ q : Nat, q < H.size → ¬ A1 q → H1[q]? = H[q]?) → mx_X p l e R s m args below meth c H1 locs1 (cells + 1) (slots + 6) Qf (F0 m pc ls rest) q) :
    W p l e R s m args below meth c H locs cells slots Qf (F0 m pc ls (As.reverse ++ .ref b :: rest)) := by
  intro T hT X
  obtain ⟨mk, methM, hnamed, hmethM, hstM, habM⟩ := Cond.instanceMethod_spec hinst
  obtain ⟨methM', cM, hmethM', hcM, -, hlM, -, -, -, hsigM⟩ := Cond.code_spec hnamed hcode
  cases hmethM.symm.trans hmethM'
  obtain ⟨cellB, hcB, hoB, hclB⟩ := hrecv
  obtain ⟨c2, r2, m2, q1, q2, q3, q4, kP, hkP, hkPi⟩ := Cond.selects_spec hsel
  cases hclB.symm.trans q1
  cases (State.methodFound?_of_named hnamed hy).symm.trans q2
  cases hnamed.symm.trans q3
  have hselP : selectMethod e.platform s.vm cellB.cls mk = .method mk := by rw [Launch.admits_selectMethod X.admits]; exact q4
  have hln : As.length = methM.sig.parameters.length := by
    rw [hsigM] at hlen
    have := Option.some.inj hlen
    rw [hAs]; exact this.symm
  obtain ⟨vm₁, X₁, hstep₁⟩ := X.invokevirtual hx hown hlink hnamed hmethM hstM hkP hkPi hy (a := b) (cell := cellB) (by rw [hT]; exact hcB)
    (fun z h => by rw [h] at hoB; cases hoB) hselP hmethM habM hkP hkPi (g := F0 m pc ls (As.reverse ++ .ref b :: rest)) rfl (argsL := As) (rest := rest) hln rfl (by rw [hb]; exact hdg)
  have hdg' : decode c.code (F0 m pc ls rest).pc = .ok (.invokevirtual idx, 3) := by rw [hb]; exact hdg
  have hmY : (T.setVm vm₁).vm.method? mk = some methM := by
    have := X₁.warmed.alike.method? (m := mk)
    rw [this]; exact hmethM
  obtain ⟨o, t, hsteps, hend, hq⟩ := mx_enter X₁ (g := F0 m pc ls rest) rfl hsize hdg' (W9 := 8) (lv_room hW) (X₁.named hnamed) hM (fun w hw => hws w hw _ _ X₁.warmed) hmY hcM hlM (hini _ _ X₁.warmed) hframes hlocals hcells hslots (hPc (T.setVm vm₁) _ _ hT X₁.warmed)
  have hst0 : ∀ target, Steps p.tables e below t target → Steps p.tables e below (T.setTop (F0 m pc ls (As.reverse ++ .ref b :: rest))) target := fun target h => hstep₁ _ fun acts => by rw [doInvoke_state]; exact hsteps.trans h
  have hSn : ∀ (L : List Loc), va_F A1 ((T.setVm vm₁).calling (F0 m pc ls rest) mk (Value.ref b :: As).toArray) t → (∀ z ∈ L, A1 z.base) → va_S A s.heap t.heap (locs ++ L) := fun L hF hL => by
    obtain ⟨hz, hk⟩ := hF
    have hz' : H.size ≤ t.heap.size := by rw [← hT]; exact hz
    refine ⟨Nat.le_trans hS.1 hz', fun q h1 h2 => ?_, fun q hq => ?_⟩
    · have h3 := hk q (by show q < T.heap.size; rw [hT]; exact Nat.lt_of_lt_of_le h1 hS.1) (fun z => h2 (hA1 q z))
      have h4 : t.heap[q]? = H[q]? := by rw [← hT]; exact h3
      rw [h4]; exact hS.2.1 q h1 h2
    · rcases List.mem_append.mp hq with h | h
      · exact hS.2.2 q h
      · exact hA1 _ (hL q h)
  have hHn : va_F A1 ((T.setVm vm₁).calling (F0 m pc ls rest) mk (Value.ref b :: As).toArray) t → H.size ≤ t.heap.size ∧ ∀ q : Nat, q < H.size → ¬ A1 q → t.heap[q]? = H[q]? := fun hF => by
    rw [← hT]; exact hF
  rcases hq with ⟨v, σ, L, ho, hQ, hP1, hD1, hK1, hF, hWt, hsm, hL⟩ | ⟨q, E, σ, ce, L, ho, hXQ, hce, hcv, hcl, hP1, hD1, hK1, hF, hWt, hsm, hL⟩
  · subst ho
    have X₂ := mx_stand X₁ hWt hsm
    have hts := mx_ret X₁ (g := F0 m pc ls rest) rfl hdg' hend hWt hsm
    obtain ⟨g1, g2⟩ := hHn hF
    obtain ⟨t2, a1, b1⟩ := kr v σ t.heap (locs ++ L) hQ hP1 hD1 (hSn L hF hL) g1 g2 (mx_U (T.setVm vm₁) t) rfl X₂
    refine ⟨t2, hst0 t2 ?_, b1⟩
    rw [hts]
    exact a1
  · subst ho
    have X₂ := mx_stand X₁ hWt hsm
    have hts := mx_thr X₁ (g := F0 m pc ls rest) rfl hend hsm
    obtain ⟨g1, g2⟩ := hHn hF
    obtain ⟨t2, a1, b1⟩ := kt q E σ ce t.heap (locs ++ L) hXQ hce hcv (by
      have h9 : (T.setVm vm₁).vm.findClass (exn E) = some ce.cls := hcl
      rw [X₁.warmed.alike.findClass] at h9
      exact h9) hP1 hD1 (hSn L hF hL) g1 g2 (mx_U (T.setVm vm₁) t) rfl X₂
    refine ⟨t2, hst0 t2 ?_, b1⟩
    rw [hts]
    exact a1
/-- not caught here -/
theorem mx_out {q : Addr} {rest : List Value} (hout : ∀ x ∈ c.exceptionTable.toList, covers x pc = false) (hlocks : meth.locks = false)
    (kk : ∀ U : State, U.status = .running → Ended U below (.threw q) → s.WarmedH U.vm → s.sameButNew ({ U with vm := s.vm } : State) locs cells slots → U.heap = H → Qf U) : mx_X p l e R s m args below meth c H locs cells slots Qf (F0 m pc ls rest) q := by
  intro T hT X
  obtain ⟨st1, hrun, hend, hW, hsm⟩ := X.leaveThrown q (g := F0 m pc ls rest) rfl rfl rfl hout hlocks
  exact ⟨_, st1, kk _ hrun hend hW hsm hT⟩
/-- caught here -/
theorem mx_catch {q : Addr} {rest : List Value} {E : String} {ce : Cell} {own name : String} (hown : s.vm.findClass own = some m.cls) (pre : List ExceptionTableEntry) (x : ExceptionTableEntry) (suf : List ExceptionTableEntry) (hsplit : c.exceptionTable.toList = pre ++ x :: suf)
    (hpass : ∀ z ∈ pre, z.catchType ≠ 0 ∧ ∃ nm : String, (Cond.classLink own z.catchType nm).before args s = true ∧ (Cond.not (.castable E nm)).before args s = true) (hcov : covers x pc = true) (h0 : x.catchType ≠ 0)
    (hlink : (Cond.classLink own x.catchType name).before args s = true) (hcast : (Cond.castable E name).before args s = true) (hcell : H[q]? = some ce) (hv : ce.vm = .none) (hcl : s.vm.findClass E = some ce.cls)
    (kk : W p l e R s m args below meth c H locs cells slots Qf (F0 m x.handlerPc ls [.ref q])) : mx_X p l e R s m args below meth c H locs cells slots Qf (F0 m pc ls rest) q := by
  intro T hT X
  have hpl : e.platform.magicAccessors = ({} : Platform).magicAccessors := by rw [X.admits.platform]
  obtain ⟨c3, c4, hc3, hc4, hasg⟩ := Cond.castable_spec hcast
  cases Option.some.inj (hc3.symm.trans hcl)
  obtain ⟨c5, hc5, hcl5⟩ := Cond.classLink_spec hown hlink e.platform hpl
  cases Option.some.inj (hc4.symm.trans hc5)
  obtain ⟨vm', X', st⟩ := X.thenCaughtThrough q (g := F0 m pc ls rest) rfl (Steps.refl _) (by rw [hT]; exact hcell) (by rw [hv]; rfl) (by obtain ⟨k9, h9, -⟩ := Vm.findClass_spec hcl; exact ⟨k9, h9⟩) pre x suf hsplit
    (fun z hz => by
      obtain ⟨hz0, nm, hl1, hn1⟩ := hpass z hz
      exact RowPassed.of_words hpl hown hz0 hl1 hcl hn1) hcov (Or.inr ⟨h0, c4, hcl5, hasg⟩)
  obtain ⟨t, a1, b1⟩ := kk (T.setVm vm') hT X'
  exact ⟨t, st.trans a1, b1⟩
end MXc

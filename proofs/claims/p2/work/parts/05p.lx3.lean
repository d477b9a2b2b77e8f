/-! the law's own walk: script, out, helpers, switch -/
theorem hx_blind {l : Launch} {D : va_G} {cl : List vw_C} {tys : List (ClassId × FieldType)} {ad : Nat → Nat} {a3 : ClassId × ClassId × ClassId} {Y : mm_Y} {qo : Nat} {cJ : ClassId} {f : Nat → Int64} {σ : mm_S} {dc : List MethodName} {st : mx_St} {sa : Nat → Nat} {cs ns : List (String × String)} {sz : Nat} {av : List Value} :
    FrameBlind (va_Pc av (fun U => U.heap.size = sz ∧ va_P D cl (lx_wd ad a3 Y (hx_e qo cJ f) σ) U.heap ∧ va_K D cl tys U ∧ va_K D cl [(cJ, .long)] U ∧ va_D (fun _ => True) (lx_wd ad a3 Y (hx_e qo cJ f) σ) ∧ mx_N dc st sa (va_A (lx_wd ad a3 Y (hx_e qo cJ f) σ) sz) U U.heap ∧ mm_G ad (va_A (lx_wd ad a3 Y (hx_e qo cJ f) σ) sz) U U.heap ∧ hx_N cs ns U)) := by
  intro a U g mk q
  obtain ⟨q0, q1, qP, qK, qJ, qD, qN, qG, qC⟩ := q
  exact ⟨q0, q1, qP, va_K.moved (u := U) (U := U.calling g mk a) (Vm.Alike.refl U.vm) qK, va_K.moved (u := U) (U := U.calling g mk a) (Vm.Alike.refl U.vm) qJ, qD, mx_N.same (u := U) (U := U.calling g mk a) rfl qN, mm_G.moved (u := U) (U := U.calling g mk a) (Vm.Alike.refl U.vm) qG, hx_N.moved (s := U) (U := U.calling g mk a) (State.WarmedH.refl U) qC⟩
abbrev hx_M : Type := Nat → MethodName × ByteArray × Nat × List (Nat × Nat × Nat × Nat) × Nat
def hx_T (l : Launch) (Ts : List Cond) (hm : hx_M) (D : va_G) (cl : List vw_C) (tys : List (ClassId × FieldType)) (ad : Nat → Nat) (a3 : ClassId × ClassId × ClassId) (Y : mm_Y) (cJ : ClassId) (dc : List MethodName) (st : mx_St) (sa : Nat → Nat) (cs ns : List (String × String)) (d y : Nat) (as : List Value) (σ : mm_S) (f : Nat → Int64) (HQ : Int32 → mm_S → (Nat → Int64) → Prop) : Prop :=
  ∀ sz, Met l (hm y).1 (Cond.codeWith (hm y).1 (hm y).2.1 (hm y).2.2.1 (some .int) (hm y).2.2.2.1 :: Ts) (hx_rm d) (va_Pc (as.map (mm_rho ad)) (fun U => U.heap.size = sz ∧ va_P D cl (lx_wd ad a3 Y (hx_e (ad 201) cJ f) σ) U.heap ∧ va_K D cl tys U ∧ va_K D cl [(cJ, .long)] U ∧ va_D (fun _ => True) (lx_wd ad a3 Y (hx_e (ad 201) cJ f) σ) ∧ mx_N dc st sa (va_A (lx_wd ad a3 Y (hx_e (ad 201) cJ f) σ) sz) U U.heap ∧ mm_G ad (va_A (lx_wd ad a3 Y (hx_e (ad 201) cJ f) σ) sz) U U.heap ∧ hx_N cs ns U))
    (hx_Q D cl ad a3 Y (ad 201) cJ (va_A (lx_wd ad a3 Y (hx_e (ad 201) cJ f) σ) sz) HQ) 1 6 (va_A (lx_wd ad a3 Y (hx_e (ad 201) cJ f) σ) sz)
theorem hx_rm_c (d : Nat) : (hx_rm d).cells = 1 := rfl
theorem hx_rm_f (d : Nat) : (hx_rm d).frames = d + 9 := rfl
theorem hx_rm_l (d : Nat) : (hx_rm d).locals = 40 * d + 240 := rfl
theorem hx_rm_ok1 {d R : Nat} (h : d + 10 ≤ R) : (hx_rm d).frames + 1 ≤ R := h
theorem hx_rm_ok {d a R : Nat} (h : 40 * d + 280 ≤ R) (ha : a ≤ 21) : 8 + (a + 11) + (hx_rm d).locals ≤ R := by rw [hx_rm_l]; omega
theorem hx_rm_s (d : Nat) : (hx_rm d).slots = 6 := rfl
section LXr
variable {p : Program} {l : Launch} {e : Env} {R : Room} {s : State} {m : MethodId} {args : Array Value} {below : List Frame} {meth : Method} {c : Code} {H : Heap} {locs : List Loc} {cells slots : Nat}
/-- a static call of a method with an exception table -/
theorem hx_runS {y : MethodName} {bytes cc : ByteArray} {maxL mc ms n index : Nat} {ret : Option FieldType} {hh : List (Nat × Nat × Nat × Nat)} {ws : List Cond} {rm : Room} {Pc : Array Value → State → Prop} {Qc : Array Value → State → Outcome → State → Prop} {free : Addr → Prop} {own : String} {As rest : List Value} {g : JFrame}
    (hx : p.tables.exec = Jvm.exec) (hb : c.code = cc) (ho : s.vm.findClass own = some m.cls) (hM : Met l y ws rm Pc Qc mc ms free) (hblind : FrameBlind Pc) (hrc : rm.cells = mc) (hrs : rm.slots = ms) (hfr : rm.frames + 1 ≤ R.frames) (hlo : 8 + (maxL + 11) + rm.locals ≤ R.locals)
    (hws : ∀ w ∈ ws, ∀ (a' : Array Value) (U : State), s.WarmedH U.vm → w.before a' U = true) (hcw : Cond.codeWith y bytes maxL ret hh ∈ ws) (hini : (Cond.initialized y.cls).before args s = true) (hl : (Cond.methodLink own index y).before args s = true) (hstt : (Cond.static y).before args s = true) (hy : y.cls ≠ "java/lang/invoke/MethodHandle" ∧ y.cls ≠ "java/lang/invoke/VarHandle")
    (hlen : (parseMethodDescriptor y.desc).map (fun d => d.parameters.length) = some n) (hPc : ∀ U : State, U.heap = H → s.WarmedH U.vm → Pc As.toArray U)
    (hg : g.method = m) (hn : As.length = n) (hsize : g.locals.size = c.maxLocals) (hstack : g.stack = As.reverse ++ rest) (hW : 2 * g.monitorRoom + (rest.map fun v => v.category).sum ≤ 8) (hdg : decode cc g.pc = .ok (.invokestatic index, 3)) (hf : cells + mc ≤ R.cells ∧ slots + ms ≤ R.slots) :
    va_Run p l e R s m args below meth c H locs cells slots mc ms g rest (Qc As.toArray) (free) := by
  have hK : Back l R p e below s args y 3 8 (PreOf R mc ms Pc) (PostOf Qc mc ms free) := va_backW (hh := hh) (bytes := bytes) (maxL := maxL) (ret := ret) hM hblind hrc hrs hfr hlo hws hcw (fun a' U hW => word_at hW (Or.inl (by first | rfl | simp [Cond.onTables, Cond.keeps, Cond.steady])) hini)
  intro T hT X
  have hcode : (Cond.codeWith y bytes maxL ret hh).before args s = true := hws _ hcw args s (State.WarmedH.refl s)
  obtain ⟨mk, methM, cM, hnamed, hmethM, -, -, -, -, -, -, hsigM⟩ := Cond.codeWith_spec hcode
  have hstatic : methM.isStatic = true := Cond.static_spec hnamed hmethM hstt
  obtain ⟨kP, hkP, -⟩ := className_of_methodNamed hnamed
  have hinitP : kP.init = .initialized := Cond.initialized_spec (findClass_of_methodNamed hnamed) hkP hini
  have hln : As.length = methM.sig.parameters.length := by
    rw [hsigM] at hlen
    have := Option.some.inj hlen
    rw [hn]; exact this.symm
  obtain ⟨vm₁, X₁, hstep₁⟩ := X.invokestatic hx ho hl hnamed hmethM hstatic hkP hinitP hy (g := g) hg (argsL := As) (rest := rest) hln hstack (by rw [hb]; exact hdg)
  obtain ⟨v, ⟨U', l2, c2, s2⟩, X', ⟨g', mk', t, L, e1, e2, hq, h1, hL, h2, h3⟩, hsteps⟩ := hK m meth c ⟨T.setVm vm₁, locs, cells, slots⟩ { g with stack := rest } (.invokestatic index) mk As.toArray X₁ hg hsize (by rw [hb]; exact hdg) hW (X₁.named hnamed) ⟨hf.1, hf.2, hPc (T.setVm vm₁) hT X₁.warmed⟩
  dsimp only [Pt.U, Pt.locs, Pt.cells, Pt.slots] at X' e1 e2 h1 h2 h3 hsteps
  subst h1; subst h2; subst h3
  exact ⟨v, (T.setVm vm₁).calling g' mk' As.toArray, t, U', L, hT, X', hL, e1, e2, hq, fun target h => hstep₁ _ fun acts => by rw [doInvoke_state]; exact hsteps.trans h⟩
variable {D : va_G} {cl : List vw_C} {A : Nat → Prop} {ad : Nat → Nat} {a3 : ClassId × ClassId × ClassId} {Y : mm_Y} {cJ : ClassId} {f : Nat → Int64} {σ : mm_S} {HQ : Int32 → mm_S → (Nat → Int64) → Prop} {cc : ByteArray} {ls : Array Slot} {Ts : List Cond} {own : String} {tys : List (ClassId × FieldType)} {dc : List MethodName} {st : mx_St} {sa : Nat → Nat} {cs ns : List (String × String)} {hm : hx_M}
/-- how the law calls helper y -/
def hx_ok (Ts : List Cond) (own : String) (cc : ByteArray) (hm : hx_M) (pc y : Nat) : Prop := ∃ idx : Nat, decode cc pc = .ok (.invokestatic idx, 3) ∧ (hm y).2.2.1 ≤ 21 ∧ Cond.codeWith (hm y).1 (hm y).2.1 (hm y).2.2.1 (some .int) (hm y).2.2.2.1 ∈ Ts ∧ Cond.methodLink own idx (hm y).1 ∈ Ts ∧ Cond.initialized (hm y).1.cls ∈ Ts ∧ Cond.static (hm y).1 ∈ Ts ∧
  ((hm y).1.cls ≠ "java/lang/invoke/MethodHandle" ∧ (hm y).1.cls ≠ "java/lang/invoke/VarHandle") ∧ (parseMethodDescriptor (hm y).1.desc).map (fun d => d.parameters.length) = some (hm y).2.2.2.2
set_option maxHeartbeats 1000000 in
theorem hx_help {d y pc : Nat} {as r : List Value} {Qf : State → Prop} (hx : p.tables.exec = Jvm.exec) (hb : c.code = cc) (hown : s.vm.findClass own = some m.cls) (hts : ∀ w ∈ Ts, w.before args s = true) (hgood : ∀ w ∈ Ts, goodWord w = true) (hK : va_K D cl tys s) (hJ : va_K D cl [(cJ, .long)] s)
    (hN : mx_N dc st sa A s s.heap) (hG0 : mm_G ad A s s.heap) (hC : hx_N cs ns s) (hP : va_P D cl (lx_wd ad a3 Y (hx_e (ad 201) cJ f) σ) H) (hD : va_D A (lx_wd ad a3 Y (hx_e (ad 201) cJ f) σ)) (hS : va_S A s.heap H locs) (hA : ∀ q, s.heap.size ≤ q → A q)
    (hT : hx_T l Ts hm D cl tys ad a3 Y cJ dc st sa cs ns d y as σ f HQ) (hok : hx_ok Ts own cc hm pc y) (has : as.length = (hm y).2.2.2.2) (hr8 : mm_c1 8 r = true) (hsize : ls.size = c.maxLocals) (hfr : d + 10 ≤ R.frames) (hlo : 40 * d + 280 ≤ R.locals) (hce : cells + 1 ≤ R.cells) (hsl : slots + 6 ≤ R.slots)
    (kk : ∀ (k : Int32) (σ' : mm_S) (f' : Nat → Int64) (H1 : Heap) (locs1 : List Loc), HQ k σ' f' → va_P D cl (lx_wd ad a3 Y (hx_e (ad 201) cJ f') σ') H1 → va_D A (lx_wd ad a3 Y (hx_e (ad 201) cJ f') σ') → va_S A s.heap H1 locs1 → W p l e R s m args below meth c H1 locs1 (cells + 1) (slots + 6) Qf (F0 m (pc + 3) ls ((.int k :: r).map (mm_rho ad)))) :
    W p l e R s m args below meth c H locs cells slots Qf (F0 m pc ls ((as.reverse ++ r).map (mm_rho ad))) := by
  obtain ⟨idx, hdg, hmx, hcode, hlink, hini, hst, hy, hdesc⟩ := hok
  obtain ⟨hr, hrcat⟩ := mm_c1_el hr8
  have hA1 : ∀ q, va_A (lx_wd ad a3 Y (hx_e (ad 201) cJ f) σ) H.size q → A q := fun q hq => by
    rcases hq with ⟨k9, e9, h9⟩ | h9
    · exact hD.2 k9 (q, e9) h9
    · exact hA q (Nat.le_trans hS.1 h9)
  have hstk : (as.reverse ++ r).map (mm_rho ad) = (as.map (mm_rho ad)).reverse ++ r.map (mm_rho ad) := by simp
  rw [hstk]
  have hrun := hx_runS (p := p) (l := l) (e := e) (R := R) (s := s) (m := m) (args := args) (below := below) (meth := meth) (c := c) (H := H) (locs := locs) (cells := cells) (slots := slots) (y := (hm y).1) (bytes := (hm y).2.1) (maxL := (hm y).2.2.1) (ret := some .int) (hh := (hm y).2.2.2.1) (rm := hx_rm d) (As := as.map (mm_rho ad)) (rest := r.map (mm_rho ad)) (g := F0 m pc ls ((as.map (mm_rho ad)).reverse ++ r.map (mm_rho ad))) hx hb hown (hT H.size) (hx_blind (l := l)) (hx_rm_c d) (hx_rm_s d) (hx_rm_ok1 hfr) (hx_rm_ok hlo hmx)
    (fun w hw a' U hW => by
      rcases List.mem_cons.mp hw with h9 | h9
      · subst h9
        exact word_at hW (good_of_word (hgood _ hcode)) (hts _ hcode)
      · exact word_at hW (good_of_word (hgood _ h9)) (hts _ h9)) List.mem_cons_self (hts _ hini) (hts _ hlink) (hts _ hst) hy hdesc
    (fun U hU hW => ⟨rfl, by rw [hU], by rw [hU]; exact hP, va_K.moved hW.alike hK, va_K.moved hW.alike hJ, hD.weaken (fun _ _ _ _ => trivial), by
      rw [hU]
      exact ((hN.kept hS.2.1).narrow (fun q hq h8 => hA1 q h8)).moved hW, by rw [hU]; exact ((hG0.kept hS.2.1).narrow hA1).moved hW.alike, hC.moved hW⟩)
    rfl (by rw [List.length_map]; exact has) hsize rfl (lv_room (by rw [mm_cat_le ad r hrcat]; exact hr)) hdg ⟨hce, hsl⟩
  intro T hT' X
  obtain ⟨v, st₀, t, T', L, h0, X', hL, e1, e2, ⟨⟨k, σ', f', hv, hq, hP1⟩, hz, hk⟩, stp⟩ := hrun T hT' X
  cases hv
  rw [h0] at hz hk
  rw [← e1] at hP1 hz hk
  obtain ⟨t2, a1, b1⟩ := kk k σ' f' T'.heap (locs ++ L) hq hP1 (lx_Dad (lx_wd_ad (ext' := hx_e (ad 201) cJ f') (ext := hx_e (ad 201) cJ f) (σ := σ) rfl) hD)
    ⟨Nat.le_trans hS.1 hz, fun q h1 h2 => by rw [hk q (Nat.lt_of_lt_of_le h1 hS.1) (fun z => h2 (hA1 q z))]; exact hS.2.1 q h1 h2, fun q hq => by
      rcases List.mem_append.mp hq with h | h
      · exact hS.2.2 q h
      · exact hA1 _ (hL q h)⟩ T' rfl X'
  exact ⟨t2, stp t2 a1, b1⟩
end LXr

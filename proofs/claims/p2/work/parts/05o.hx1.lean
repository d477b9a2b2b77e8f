/-! the law's helpers: a call that may throw, caught -/
def hx_e (qo : Nat) (cJ : ClassId) (f : Nat → Int64) : va_W := [(qo, .inl (cJ, 1, .inr (.inl f)))]
theorem hx_ncuse {C T : String} {s : State} {args : Array Value} (h : va_Nc C T s) : (Cond.not (.castable C T)).before args s = true := by
  obtain ⟨c, t, h1, h2, h3⟩ := h
  simp [Cond.before, Cond.holds, Cond.value, h1, h2, h3]
def hx_N (cs ns : List (String × String)) (U : State) : Prop := (∀ q ∈ cs, va_Nw (.castable q.1 q.2) U) ∧ ∀ q ∈ ns, va_Nc q.1 q.2 U
theorem hx_N.moved {cs ns : List (String × String)} {s U : State} (hW : s.WarmedH U.vm) (h : hx_N cs ns s) : hx_N cs ns U := ⟨fun q hq => va_Nw.warmC hW (h.1 q hq), fun q hq => (h.2 q hq).moved hW.alike⟩
def hx_Q (D : va_G) (cl : List vw_C) (ad : Nat → Nat) (a3 : ClassId × ClassId × ClassId) (Y : mm_Y) (qo : Nat) (cJ : ClassId) (A : Nat → Prop) (HQ : Int32 → mm_S → (Nat → Int64) → Prop) : Array Value → State → Outcome → State → Prop := fun _ st o t =>
  (∃ (k : Int32) (σ : mm_S) (f : Nat → Int64), o = .returned (some (.int k)) ∧ HQ k σ f ∧ va_P D cl (lx_wd ad a3 Y (hx_e qo cJ f) σ) t.heap) ∧ va_F A st t
/-- a handler: put the exception away, answer v -/
def hx_hc (cc : ByteArray) (nL h : Nat) (v : Int32) : Prop := ∃ (k len : Nat) (iv : Int), ((len = 2 ∧ decode cc h = .ok (.astore k, 2)) ∨ (len = 1 ∧ ∃ kf : Fin 4, kf.val = k ∧ decode cc h = .ok (.astore_n kf, 1))) ∧ k < nL ∧ decode cc (h + len) = .ok (.iconst iv, 1) ∧ Int32.ofInt iv = v ∧ decode cc (h + len + 1) = .ok (.ireturn, 1)
def hx_han (Ts : List Cond) (cs ns : List (String × String)) (own : String) (cc : ByteArray) (nL pcI : Nat) (tab : List ExceptionTableEntry) (E : String) (v : Int32) : Prop := ∃ (pre : List ExceptionTableEntry) (x : ExceptionTableEntry) (suf : List ExceptionTableEntry) (name : String), tab = pre ++ x :: suf ∧ (∀ z ∈ pre, z.catchType ≠ 0 ∧ ∃ nm : String, Cond.classLink own z.catchType nm ∈ Ts ∧ (E, nm) ∈ ns) ∧ covers x pcI = true ∧ x.catchType ≠ 0 ∧ Cond.classLink own x.catchType name ∈ Ts ∧ (E, name) ∈ cs ∧ hx_hc cc nL x.handlerPc v
section HX
variable {p : Program} {l : Launch} {e : Env} {R : Room} {s : State} {m : MethodId} {args : Array Value} {below : List Frame} {meth : Method} {c : Code} {H : Heap} {locs : List Loc} {cells slots : Nat} {D : va_G} {cl : List vw_C} {A : Nat → Prop} {ad : Nat → Nat} {a3 : ClassId × ClassId × ClassId} {Y : mm_Y} {qo : Nat} {cJ : ClassId} {f : Nat → Int64} {σ : mm_S} {HQ : Int32 → mm_S → (Nat → Int64) → Prop} {cc : ByteArray} {ls : Array Slot} {nL : Nat}
theorem hx_fin (hx : p.tables.exec = Jvm.exec) (hb : c.code = cc) (hr : meth.sig.returnType = some .int) (hlocks : meth.locks = false) {pc : Nat} {iv : Int} {v : Int32} (hv : Int32.ofInt iv = v) (d0 : decode cc pc = .ok (.iconst iv, 1)) (d1 : decode cc (pc + 1) = .ok (.ireturn, 1)) (hP : va_P D cl (lx_wd ad a3 Y (hx_e qo cJ f) σ) H) (hS : va_S A s.heap H locs) (hq : HQ v σ f) (h1 : cells ≤ 1) (h6 : slots ≤ 6) :
    W p l e R s m args below meth c H locs cells slots (MQ below (hx_Q D cl ad a3 Y qo cJ A HQ) args s 1 6 A) (F0 m pc ls []) :=
  lv_iconst hx hb d0 hv (W.widen h1 h6 (W.iret hx hb hr (fun t ht hW => ⟨⟨v, σ, f, rfl, hq, by rw [ht]; exact hP⟩, hS.F ht⟩) hS.2.2 d1 hlocks))
theorem hx_hand (hx : p.tables.exec = Jvm.exec) (hb : c.code = cc) (hr : meth.sig.returnType = some .int) (hlocks : meth.locks = false) {h : Nat} {v : Int32} (hh : hx_hc cc nL h v) {lv : List (Nat × Value)} (hlv : lv_has ls nL lv) {q : Nat} (hP : va_P D cl (lx_wd ad a3 Y (hx_e qo cJ f) σ) H) (hS : va_S A s.heap H locs) (hq : HQ v σ f) (h1 : cells ≤ 1) (h6 : slots ≤ 6) :
    W p l e R s m args below meth c H locs cells slots (MQ below (hx_Q D cl ad a3 Y qo cJ A HQ) args s 1 6 A) (F0 m h ls [.ref q]) := by
  obtain ⟨k, len, iv, hd, hk, d0, hv, d1⟩ := hh
  rcases hd with ⟨rfl, hd⟩ | ⟨rfl, kf, hkf, hd⟩
  · exact lv_astore hx hb hd hlv hk rfl (fun ls' _ => hx_fin hx hb hr hlocks hv d0 d1 hP hS hq h1 h6)
  · exact lv_astore_n hx hb hd hkf hlv hk rfl (fun ls' _ => hx_fin hx hb hr hlocks hv d0 d1 hP hS hq h1 h6)
def hx_rm (d : Nat) : Room := { frames := d + 9, cells := 1, slots := 6, locals := 40 * d + 240 }
set_option maxHeartbeats 1000000 in
theorem hx_call {own : String} {Ts : List Cond} {tys : List (ClassId × FieldType)} {nx : Nat → MethodName} {bx : Nat → ByteArray} {mxx : Nat → Nat} {dc : List MethodName} {st : mx_St} {sa : Nat → Nat} {exn : Nat → String} {cs ns : List (String × String)} {ret d y idx n pcI : Nat} {as : List Value} {Q : mm_Q} {XQ : Nat → mm_S → Prop} {fs : List (Option Nat)} {rest : List Value} {lv : List (Nat × Value)}
    (hx : p.tables.exec = Jvm.exec) (hb : c.code = cc) (hml : c.maxLocals = nL) (hown : s.vm.findClass own = some m.cls) (hts : ∀ w ∈ Ts, w.before args s = true) (hgood : ∀ w ∈ Ts, goodWord w = true) (hK : va_K D cl tys s) (hr : meth.sig.returnType = some .int) (hlocks : meth.locks = false)
    (hN : mx_N dc st sa (va_A (lx_wd ad a3 Y (hx_e qo cJ f) σ) s.heap.size) s s.heap) (hG0 : mm_G ad (va_A (lx_wd ad a3 Y (hx_e qo cJ f) σ) s.heap.size) s s.heap) (hC : hx_N cs ns s) (hP : va_P D cl (lx_wd ad a3 Y (hx_e qo cJ f) σ) s.heap) (hD : va_D (fun _ => True) (lx_wd ad a3 Y (hx_e qo cJ f) σ))
    (hT : mx_T l Ts nx bx mxx D cl tys ad a3 Y dc st sa exn ret d y (.ref 0 :: as) σ Q XQ) (hcode : Cond.code (nx y) (bx y) (mxx y) (mm_rty ret) ∈ Ts) (hmx : mxx y ≤ 21) (hlink : Cond.methodLink own idx (nx y) ∈ Ts) (hini : Cond.initialized (nx y).cls ∈ Ts)
    (hnm : (nx y).cls ≠ "java/lang/invoke/MethodHandle" ∧ (nx y).cls ≠ "java/lang/invoke/VarHandle") (hdesc : (parseMethodDescriptor (nx y).desc).map (fun d => d.parameters.length) = some n) (has : as.length = n) (hinst : Cond.instanceMethod (nx y) ∈ Ts) (hsel : Cond.selects (nx y).cls (nx y) (nx y) ∈ Ts)
    (hcl : ∃ T N, cl[0]? = some ((nx y).cls, T, N)) (hkd : mm_kd Y 0 = (0, 0, fs)) (hlv : lv_has ls nL lv) (hrest : (rest.map fun v => v.category).sum ≤ 8) (hdg : decode cc pcI = .ok (.invokevirtual idx, 3))
    (hX : ∀ E σ', XQ E σ' → ∃ v, hx_han Ts cs ns own cc nL pcI c.exceptionTable.toList (exn E) v ∧ HQ v σ' f)
    (kr : ∀ (v : Option Value) (σ' : mm_S) (H1 : Heap) (locs1 : List Loc), Q v σ' → va_P D cl (lx_wd ad a3 Y (hx_e qo cJ f) σ') H1 → va_D (va_A (lx_wd ad a3 Y (hx_e qo cJ f) σ) s.heap.size) (lx_wd ad a3 Y (hx_e qo cJ f) σ') → va_S (va_A (lx_wd ad a3 Y (hx_e qo cJ f) σ) s.heap.size) s.heap H1 locs1 →
      W p l e (hx_rm d) s m args below meth c H1 locs1 0 0 (MQ below (hx_Q D cl ad a3 Y qo cJ (va_A (lx_wd ad a3 Y (hx_e qo cJ f) σ) s.heap.size) HQ) args s 1 6 (va_A (lx_wd ad a3 Y (hx_e qo cJ f) σ) s.heap.size)) (F0 m (pcI + 3) ls ((v.map (mm_rho ad)).toList ++ rest))) :
    W p l e (hx_rm d) s m args below meth c s.heap [] 0 0 (MQ below (hx_Q D cl ad a3 Y qo cJ (va_A (lx_wd ad a3 Y (hx_e qo cJ f) σ) s.heap.size) HQ) args s 1 6 (va_A (lx_wd ad a3 Y (hx_e qo cJ f) σ) s.heap.size)) (F0 m pcI ls ((as.map (mm_rho ad)).reverse ++ .ref (ad 0) :: rest)) := by
  have hsub : ∀ (k : Nat) (q : Nat × va_E), (mm_wd ad a3 Y σ)[k]? = some q → (lx_wd ad a3 Y (hx_e qo cJ f) σ)[k]? = some q := fun k q hk => by
    unfold lx_wd; rw [List.getElem?_append_left (List.getElem?_eq_some_iff.mp hk).1]; exact hk
  have hPm : va_P D cl (mm_wd ad a3 Y σ) s.heap := fun k q hk => hP k q (hsub k q hk)
  have hDs := hD.self (sz := s.heap.size)
  have hDm : va_D (fun _ => True) (mm_wd ad a3 Y σ) := ⟨fun i j x y hx hy => hD.1 i j x y (hsub i x hx) (hsub j y hy), fun _ _ _ => trivial⟩
  have hA1 : ∀ q, va_A (mm_wd ad a3 Y σ) s.heap.size q → va_A (lx_wd ad a3 Y (hx_e qo cJ f) σ) s.heap.size q := fun q hq => by
    rcases hq with ⟨k9, e9, h9⟩ | h9
    · exact Or.inl ⟨k9, e9, hsub _ _ h9⟩
    · exact Or.inr h9
  have he : (mm_wd ad a3 Y σ)[0]? = some (ad 0, .inr (0, mm_fv ad (σ 0) 0 fs)) := by
    rw [mm_wd_get (mm_kd_lt (by rw [hkd]; exact fun z => nomatch z))]; simp only [mm_ce, hkd]
  obtain ⟨Tc, Nc, hclc⟩ := hcl
  have hws : ∀ w ∈ mx_ws Ts nx bx mxx ret y, ∀ (a' : Array Value) (U : State), s.WarmedH U.vm → w.before a' U = true := fun w hw a' U hW => by
    rcases List.mem_cons.mp hw with h9 | h9
    · subst h9
      exact word_at hW (good_of_word (hgood _ hcode)) (hts _ hcode)
    · exact word_at hW (good_of_word (hgood _ h9)) (hts _ h9)
  refine mx_callV (A1 := va_A (mm_wd ad a3 Y σ) s.heap.size) (A := va_A (lx_wd ad a3 Y (hx_e qo cJ f) σ) s.heap.size) (n := n) (b := ad 0) (As := as.map (mm_rho ad)) (rest := rest) (rm := mx_rm d) hx hb hown (hts _ hlink) (hts _ hinst) (hts _ hsel) (hts _ hcode) (fun a' U hW => word_at hW (good_of_word (hgood _ hini)) (hts _ hini)) hnm hdesc (by rw [List.length_map]; exact has) (hT s.heap.size) hws (va_recv hK hPm hclc he)
    (fun U g mk hU hW => ⟨rfl, ⟨by show U.heap.size = s.heap.size; rw [hU], by show va_P D cl _ U.heap; rw [hU]; exact hPm, va_K.moved (u := U) (U := U.calling g mk _) (Vm.Alike.refl U.vm) (va_K.moved hW.alike hK), hDm, mm_G.moved (u := U) (U := U.calling g mk _) (Vm.Alike.refl U.vm) (by show mm_G ad _ U U.heap; rw [hU]; exact (hG0.narrow hA1).moved hW.alike)⟩, by
      have h9 : mx_N dc st sa (va_A (mm_wd ad a3 Y σ) s.heap.size) U U.heap := by
        rw [hU]
        exact (hN.narrow (fun q hq h8 => hA1 q h8)).moved hW
      exact mx_N.same (u := U) rfl h9⟩)
    (hlv.1.trans hml.symm) hrest hdg (by show d + 8 + 1 ≤ d + 9; omega) (by show 8 + (mxx y + 11) + (40 * d + 200) ≤ 40 * d + 240; omega) (by show 0 + 1 ≤ 1; omega) (by show 0 + 6 ≤ 6; omega) va_S.rf hA1 ?_ ?_
  · intro v σ' H1 locs1 hq hP2 hD2 hS2 hgr hkeep
    obtain ⟨hP3, hD3⟩ := lx_join hP hDs hP2 hkeep
    exact kr v σ' H1 locs1 hq hP3 hD3 hS2
  · intro q E σ' ce H1 locs1 hxq hce hcv hcls hP2 hD2 hS2 hgr hkeep
    obtain ⟨hP3, hD3⟩ := lx_join hP hDs hP2 hkeep
    obtain ⟨v, ⟨pre, x, suf, name, hsplit, hpass, hcov, h0, hlk, hcs, hhc⟩, hHQ⟩ := hX E σ' hxq
    refine mx_catch hown pre x suf hsplit (fun z hz => ?_) hcov h0 (hts _ hlk) (va_Nw.use rfl (hC.1 _ hcs)) hce hcv hcls (hx_hand hx hb hr hlocks hhc hlv hP3 hS2 hHQ (by omega) (by omega))
    obtain ⟨hz0, nm, h1, h2⟩ := hpass z hz
    exact ⟨hz0, nm, hts _ h1, hx_ncuse (hC.2 _ h2)⟩
end HX

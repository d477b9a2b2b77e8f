/-! contracts of the law's helpers -/
theorem hx_set {ad : Nat → Nat} {a3 : ClassId × ClassId × ClassId} {Y : mm_Y} {qo : Nat} {cJ : ClassId} {f g : Nat → Int64} {σ : mm_S} : (lx_wd ad a3 Y (hx_e qo cJ f) σ).set (mm_wd ad a3 Y σ).length (qo, .inl (cJ, 1, .inr (.inl g))) = lx_wd ad a3 Y (hx_e qo cJ g) σ := by
  unfold lx_wd hx_e
  rw [List.set_append_right _ _ (Nat.le_refl _), Nat.sub_self]
  rfl
/-- loads, in order -/
def hx_lok (cc : ByteArray) (lv : List (Nat × Value)) : Nat → List Value → Nat → Prop
  | pc, [], pe => pc = pe
  | pc, .int x :: r, pe => ∃ i, (i, Value.int x) ∈ lv ∧ ((∃ kf : Fin 4, kf.val = i ∧ decode cc pc = .ok (.iload_n kf, 1) ∧ hx_lok cc lv (pc + 1) r pe) ∨ (decode cc pc = .ok (.iload i, 2) ∧ hx_lok cc lv (pc + 2) r pe))
  | pc, .ref x :: r, pe => ∃ i, (i, Value.ref x) ∈ lv ∧ ∃ kf : Fin 4, kf.val = i ∧ decode cc pc = .ok (.aload_n kf, 1) ∧ hx_lok cc lv (pc + 1) r pe
  | _, _ :: _, _ => False
section HX2
variable {p : Program} {l : Launch} {e : Env} {R : Room} {s : State} {m : MethodId} {args : Array Value} {below : List Frame} {meth : Method} {c : Code} {H : Heap} {locs : List Loc} {cells slots : Nat} {Qf : State → Prop} {cc : ByteArray} {ls : Array Slot} {nL : Nat}
theorem hx_load (hx : p.tables.exec = Jvm.exec) (hb : c.code = cc) {lv : List (Nat × Value)} (hlv : lv_has ls nL lv) {pe : Nat} : ∀ (vs : List Value) (pc : Nat) (S : List Value), hx_lok cc lv pc vs pe → W p l e R s m args below meth c H locs cells slots Qf (F0 m pe ls (vs.reverse ++ S)) → W p l e R s m args below meth c H locs cells slots Qf (F0 m pc ls S)
  | [], pc, S, h, k => by
    have h' : pc = pe := h
    subst h'
    exact k
  | .int x :: r, pc, S, h, k => by
    obtain ⟨i, hi, h⟩ := h
    have hl := hlv.2.2 _ hi
    rcases h with ⟨kf, hk, hd, h⟩ | ⟨hd, h⟩
    · exact lv_iload_n hx hb hd hk hl (hx_load hx hb hlv r (pc + 1) (.int x :: S) h (by rw [List.reverse_cons, List.append_assoc] at k; exact k))
    · exact lv_iload hx hb hd hl (hx_load hx hb hlv r (pc + 2) (.int x :: S) h (by rw [List.reverse_cons, List.append_assoc] at k; exact k))
  | .ref x :: r, pc, S, h, k => by
    obtain ⟨i, hi, kf, hk, hd, h⟩ := h
    have hl := hlv.2.2 _ hi
    exact lv_aload_n hx hb hd hk hl (hx_load hx hb hlv r (pc + 1) (.ref x :: S) h (by rw [List.reverse_cons, List.append_assoc] at k; exact k))
  | .long _ :: _, _, _, h, _ => h.elim
  | .float _ :: _, _, _, h, _ => h.elim
  | .double _ :: _, _, _, h, _ => h.elim
  | .null :: _, _, _, h, _ => h.elim
  | .retAddr _ :: _, _, _, h, _ => h.elim
end HX2
section HX3
variable {l : Launch} {Ts : List Cond} {hm : hx_M} {D : va_G} {cl : List vw_C} {tys : List (ClassId × FieldType)} {ad : Nat → Nat} {a3 : ClassId × ClassId × ClassId} {Y : mm_Y} {cJ : ClassId} {dc : List MethodName} {st : mx_St} {sa : Nat → Nat} {cs ns : List (String × String)} {exn : Nat → String} {nx : Nat → MethodName} {bx : Nat → ByteArray} {mxx : Nat → Nat}
/-- what a helper's call of the class's method y asks of the words -/
def hx_cok (Ts : List Cond) (cl : List vw_C) (nx : Nat → MethodName) (bx : Nat → ByteArray) (mxx : Nat → Nat) (own : String) (cc : ByteArray) (pcI y n ret : Nat) : Prop := ∃ idx : Nat, decode cc pcI = .ok (.invokevirtual idx, 3) ∧ mxx y ≤ 21 ∧ Cond.code (nx y) (bx y) (mxx y) (mm_rty ret) ∈ Ts ∧ Cond.methodLink own idx (nx y) ∈ Ts ∧ Cond.initialized (nx y).cls ∈ Ts ∧
  ((nx y).cls ≠ "java/lang/invoke/MethodHandle" ∧ (nx y).cls ≠ "java/lang/invoke/VarHandle") ∧ (parseMethodDescriptor (nx y).desc).map (fun d => d.parameters.length) = some n ∧ Cond.instanceMethod (nx y) ∈ Ts ∧ Cond.selects (nx y).cls (nx y) (nx y) ∈ Ts ∧ ∃ T N, cl[0]? = some ((nx y).cls, T, N)
set_option maxHeartbeats 1000000 in
theorem hx_void {h y d ret pcI pe : Nat} {as : List Value} {σ : mm_S} {f : Nat → Int64} {Q : mm_Q} {XQ : Nat → mm_S → Prop} {HQ : Int32 → mm_S → (Nat → Int64) → Prop} {fs : List (Option Nat)} {off : Int} (hgood : ∀ w ∈ Ts, goodWord w = true) (hkd : mm_kd Y 0 = (0, 0, fs)) (hpl : plainName (hm h).1.cls = true)
    (hT : mx_T l Ts nx bx mxx D cl tys ad a3 Y dc st sa exn ret d y (.ref 0 :: as) σ Q XQ) (hc1 : mm_c1 (hm h).2.2.1 (.ref 0 :: as) = true) (hok : hx_cok Ts cl nx bx mxx (hm h).1.cls (hm h).2.1 pcI y as.length ret)
    (hlo : hx_lok (hm h).2.1 (lv_args 0 ((Value.ref 0 :: as).map (mm_rho ad))) 0 ((Value.ref 0 :: as).map (mm_rho ad)) pcI) (hgo : decode (hm h).2.1 (pcI + 3) = .ok (.goto off, 3)) (hoff : ((pcI + 3 : Nat) : Int) + off = (pe : Int)) (d0 : decode (hm h).2.1 pe = .ok (.iconst 0, 1)) (d1 : decode (hm h).2.1 (pe + 1) = .ok (.ireturn, 1))
    (hQ : ∀ v σ', Q v σ' → v = none ∧ HQ 0 σ' f) (hX : ∀ E σ', XQ E σ' → ∃ v, hx_han Ts cs ns (hm h).1.cls (hm h).2.1 (hm h).2.2.1 pcI (tableOf (hm h).2.2.2.1) (exn E) v ∧ HQ v σ' f) :
    hx_T l Ts hm D cl tys ad a3 Y cJ dc st sa cs ns d h (.ref 0 :: as) σ f HQ := by
  intro sz
  refine va_MetW (hh := (hm h).2.2.2.1) hpl rfl ?_
  intro p e s m args below meth c s₁ B0 hml hv
  obtain ⟨rfl, hsz, hP, hK, hJ, hD, hN, hG0, hC⟩ := hv
  subst hsz
  have hts0 := atoms_spec (ws := Cond.codeWith (hm h).1 (hm h).2.1 (hm h).2.2.1 (some .int) (hm h).2.2.2.1 :: Ts) B0.pre
  have htab : c.exceptionTable.toList = tableOf (hm h).2.2.2.1 := by
    obtain ⟨m9, meth9, c9, hn9, h1, h2, -, -, h7, -⟩ := Cond.codeWith_spec (hts0 _ List.mem_cons_self)
    cases Option.some.inj (hn9.symm.trans B0.named)
    cases Option.some.inj (h1.symm.trans B0.method)
    cases Option.some.inj (h2.symm.trans (Stand.of_body B0).code)
    rw [← h7, table_eq]
  have hx := B0.exec
  have hb := B0.bytes
  have hr := B0.returns
  have hlocks := B0.notSynchronized
  have hts : ∀ w ∈ Ts, w.before ((Value.ref 0 :: as).map (mm_rho ad)).toArray s = true := fun w hw => hts0 w (List.mem_cons_of_mem _ hw)
  have hown : s.vm.findClass (hm h).1.cls = some m.cls := findClass_of_methodNamed B0.named
  obtain ⟨hlen, hcat⟩ := mm_c1_el hc1
  have hcat' : ∀ v ∈ (Value.ref 0 :: as).map (mm_rho ad), v.category = 1 := fun v hv => by
    obtain ⟨w, hw, rfl⟩ := List.mem_map.mp hv
    rw [mm_rho_cat]
    exact hcat w hw
  have hl0 := lv_entry ((Value.ref 0 :: as).map (mm_rho ad)) (n := (hm h).2.2.1) (by rw [mm_sl_len _ hcat', List.length_map]; exact hlen)
  rw [lg_entry_eq]
  generalize (lg_sl ((Value.ref 0 :: as).map (mm_rho ad)) ++ List.replicate ((hm h).2.2.1 - (lg_sl ((Value.ref 0 :: as).map (mm_rho ad))).length) Slot.unset).toArray = ls0 at hl0 ⊢
  obtain ⟨idx, hdg, hmx, hcode, hlink, hini, hnm, hdesc, hinst, hsel, hcl⟩ := hok
  refine hx_load hx hb hl0 _ 0 [] hlo ?_
  have hstk : ((Value.ref 0 :: as).map (mm_rho ad)).reverse ++ [] = (as.map (mm_rho ad)).reverse ++ .ref (ad 0) :: [] := by simp [mm_rho]
  rw [hstk]
  refine hx_call (rest := []) hx hb hml hown hts hgood hK hr hlocks hN hG0 hC hP hD hT hcode hmx hlink hini hnm hdesc rfl hinst hsel hcl hkd hl0 (by simp) hdg (fun E σ' hx9 => by rw [htab]; exact hX E σ' hx9) (fun v σ' H1 locs1 hq hP1 hD1 hS1 => ?_)
  obtain ⟨rfl, hq2⟩ := hQ v σ' hq
  exact lv_goto hx hb hgo hoff (hx_fin (v := 0) hx hb hr hlocks rfl d0 d1 hP1 hS1 hq2 (by omega) (by omega))
set_option maxHeartbeats 1000000 in
theorem hx_out {h y d ret pcI pe io : Nat} {as : List Value} {σ : mm_S} {f : Nat → Int64} {Q : mm_Q} {XQ : Nat → mm_S → Prop} {HQ : Int32 → mm_S → (Nat → Int64) → Prop} {fs : List (Option Nat)} {off : Int} {kf : Fin 4} (hgood : ∀ w ∈ Ts, goodWord w = true) (hkd : mm_kd Y 0 = (0, 0, fs)) (hpl : plainName (hm h).1.cls = true)
    (hT : mx_T l Ts nx bx mxx D cl tys ad a3 Y dc st sa exn ret d y (.ref 0 :: as) σ Q XQ) (hc1 : mm_c1 (hm h).2.2.1 (Value.ref 0 :: as ++ [Value.ref 201]) = true) (hok : hx_cok Ts cl nx bx mxx (hm h).1.cls (hm h).2.1 pcI y as.length ret)
    (hio : (io, Value.ref (ad 201)) ∈ lv_args 0 ((Value.ref 0 :: as ++ [Value.ref 201]).map (mm_rho ad))) (hkf : kf.val = io) (g0 : decode (hm h).2.1 0 = .ok (.aload_n kf, 1)) (g1 : decode (hm h).2.1 1 = .ok (.iconst 0, 1))
    (hlo : hx_lok (hm h).2.1 (lv_args 0 ((Value.ref 0 :: as ++ [Value.ref 201]).map (mm_rho ad))) 2 ((Value.ref 0 :: as).map (mm_rho ad)) pcI) (gi : decode (hm h).2.1 (pcI + 3) = .ok (.i2l, 1)) (gl : decode (hm h).2.1 (pcI + 4) = .ok (.lastore, 1)) (hgo : decode (hm h).2.1 (pcI + 5) = .ok (.goto off, 3)) (hoff : ((pcI + 5 : Nat) : Int) + off = (pe : Int)) (d0 : decode (hm h).2.1 pe = .ok (.iconst 0, 1)) (d1 : decode (hm h).2.1 (pe + 1) = .ok (.ireturn, 1))
    (hQ : ∀ v σ', Q v σ' → ∃ x : Int32, v = some (.int x) ∧ HQ 0 σ' (vp_updL f 0 x.toInt64)) (hX : ∀ E σ', XQ E σ' → ∃ v, hx_han Ts cs ns (hm h).1.cls (hm h).2.1 (hm h).2.2.1 pcI (tableOf (hm h).2.2.2.1) (exn E) v ∧ HQ v σ' f) :
    hx_T l Ts hm D cl tys ad a3 Y cJ dc st sa cs ns d h (Value.ref 0 :: as ++ [Value.ref 201]) σ f HQ := by
  intro sz
  refine va_MetW (hh := (hm h).2.2.2.1) hpl rfl ?_
  intro p e s m args below meth c s₁ B0 hml hv
  obtain ⟨rfl, hsz, hP, hK, hJ, hD, hN, hG0, hC⟩ := hv
  subst hsz
  have hts0 := atoms_spec (ws := Cond.codeWith (hm h).1 (hm h).2.1 (hm h).2.2.1 (some .int) (hm h).2.2.2.1 :: Ts) B0.pre
  have htab : c.exceptionTable.toList = tableOf (hm h).2.2.2.1 := by
    obtain ⟨m9, meth9, c9, hn9, h1, h2, -, -, h7, -⟩ := Cond.codeWith_spec (hts0 _ List.mem_cons_self)
    cases Option.some.inj (hn9.symm.trans B0.named)
    cases Option.some.inj (h1.symm.trans B0.method)
    cases Option.some.inj (h2.symm.trans (Stand.of_body B0).code)
    rw [← h7, table_eq]
  have hx := B0.exec
  have hb := B0.bytes
  have hr := B0.returns
  have hlocks := B0.notSynchronized
  have hts : ∀ w ∈ Ts, w.before ((Value.ref 0 :: as ++ [Value.ref 201]).map (mm_rho ad)).toArray s = true := fun w hw => hts0 w (List.mem_cons_of_mem _ hw)
  have hown : s.vm.findClass (hm h).1.cls = some m.cls := findClass_of_methodNamed B0.named
  obtain ⟨hlen, hcat⟩ := mm_c1_el hc1
  have hcat' : ∀ v ∈ (Value.ref 0 :: as ++ [Value.ref 201]).map (mm_rho ad), v.category = 1 := fun v hv => by
    obtain ⟨w, hw, rfl⟩ := List.mem_map.mp hv
    rw [mm_rho_cat]
    exact hcat w hw
  have hl0 := lv_entry ((Value.ref 0 :: as ++ [Value.ref 201]).map (mm_rho ad)) (n := (hm h).2.2.1) (by rw [mm_sl_len _ hcat', List.length_map]; exact hlen)
  rw [lg_entry_eq]
  generalize (lg_sl ((Value.ref 0 :: as ++ [Value.ref 201]).map (mm_rho ad)) ++ List.replicate ((hm h).2.2.1 - (lg_sl ((Value.ref 0 :: as ++ [Value.ref 201]).map (mm_rho ad))).length) Slot.unset).toArray = ls0 at hl0 ⊢
  obtain ⟨idx, hdg, hmx, hcode, hlink, hini, hnm, hdesc, hinst, hsel, hcl⟩ := hok
  refine lv_aload_n hx hb g0 hkf (hl0.2.2 _ hio) (lv_iconst hx hb g1 (v := 0) rfl ?_)
  refine hx_load hx hb hl0 _ 2 [.int 0, .ref (ad 201)] hlo ?_
  have hstk : ((Value.ref 0 :: as).map (mm_rho ad)).reverse ++ [.int 0, .ref (ad 201)] = (as.map (mm_rho ad)).reverse ++ .ref (ad 0) :: [.int 0, .ref (ad 201)] := by simp [mm_rho]
  rw [hstk]
  refine hx_call (rest := [.int 0, .ref (ad 201)]) hx hb hml hown hts hgood hK hr hlocks hN hG0 hC hP hD hT hcode hmx hlink hini hnm hdesc rfl hinst hsel hcl hkd hl0 (by show 1 + (1 + 0) ≤ 8; omega) hdg (fun E σ' hx9 => by rw [htab]; exact hX E σ' hx9) (fun v σ' H1 locs1 hq hP1 hD1 hS1 => ?_)
  obtain ⟨x, rfl, hq2⟩ := hQ v σ' hq
  have hout : (lx_wd ad a3 Y (hx_e (ad 201) cJ f) σ')[(mm_wd ad a3 Y σ').length]? = some (ad 201, .inl (cJ, 1, .inr (.inl f))) := by
    unfold lx_wd hx_e
    rw [List.getElem?_append_right (Nat.le_refl _), Nat.sub_self]
    rfl
  refine lv_i2l hx hb gi (v := x.toInt64) rfl ?_
  refine va_last hx hb hJ hP1 hD1 hS1 _ 0 hout rfl (by unfold vp_in; decide) gl (fun H2 locs2 hP2 hD2 hS2 => ?_)
  rw [hx_set] at hP2
  exact lv_goto hx hb hgo hoff (hx_fin (v := 0) hx hb hr hlocks rfl d0 d1 hP2 hS2 hq2 (by omega) (by omega))
end HX3

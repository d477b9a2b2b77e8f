section
def R_law : String := "HouseDeskLaw"
def lw_P (b : Addr) (xs : List Int32) (args : Array Value) (s : State) : Prop := args = #[.ref b] ∧ s.IntsAt b xs ∧ xs.length ≤ 2560 ∧ (Jvm.Cond.and given_1 narrow_1).before args s = true
def lw_Q (_ : Array Value) (s : State) (o : Outcome) (t : State) : Prop := o = .returned (some (.int 1)) ∧ Framed s o t [] 601024 7293034
def lw_Z (below : List Frame) (a : Array Value) (s : State) : State → Prop := fun t => ∃ o, t.status = .running ∧ Ended t below o ∧ lw_Q a s o t
/-- the law's own end, with 1 on the stack, nothing written that was there before, its room as the claim has it -/
theorem lw_ret {p : Program} {l : Launch} {e : Env} {s : State} {m : MethodId} {below : List Frame} {meth : Method} {c : Code} {b : Nat} (hx : p.tables.exec = Jvm.exec) (hb : c.code = code) (hr : meth.sig.returnType = ret) (hlocks : meth.locks = false) {pc : Nat} {H : Heap} {ls : Array Slot} (hdg : decode code pc = .ok (.ireturn, 1)) : W p l e room_1 s m #[Value.ref b] below meth c H [] 601024 7293034 (lw_Z below #[Value.ref b] s) (F0 m pc ls [.int 1]) := by
  intro T hT X
  obtain ⟨fs, hret, hrun, hended, hW, hframe⟩ := X.leave (v := some (.int 1)) (hlocks := hlocks) (fun h => by rw [hr] at h; cases h)
  have hmeth' : T.vm.method? m = some meth := X.method'
  refine ⟨T.setFrames fs, ?_, .returned (some (.int 1)), hrun, hended, rfl, ⟨_, rfl⟩, hW, hframe⟩
  jvm_step X.here [X.here.top, hx, hb, hdg, hmeth', hr, ret, narrow_b1]
  (try refine ⟨rfl, ?_⟩); (try refine ⟨rfl, ?_⟩)
  first | (intro acts; rw [hret _ acts rfl rfl rfl]) | rw [hret _ _ rfl rfl rfl]
  exact Steps.refl _
/-- what holds at the law's entry: the machine, the code, the tables' words (any of lw_tbl by 'hts w (by decide +kernel)'), the script of L ints xs at the cell b, what the Statement gives of the start (any of its parts by flat_of_before) -/
def lw_At (p : Program) (s : State) (m : MethodId) (meth : Method) (c : Code) (b L : Nat) (xs : Nat → Int32) : Prop :=
  p.tables.exec = Jvm.exec ∧ c.code = code ∧ meth.sig.returnType = ret ∧ c.maxLocals = 7 ∧ s.vm.findClass R_law = some m.cls ∧ (∀ w ∈ lw_tbl, w.before #[Value.ref b] s = true) ∧ va_X b L xs s s.heap ∧ b < s.heap.size ∧ meth.locks = false ∧ (Jvm.Cond.and given_1 narrow_1).before #[Value.ref b] s = true
end
section
theorem tl_1 (i : Nat) {w : Cond} (h0 : tables_1_1[i]? = some w) : w ∈ lw_tbl := (have h : w ∈ tables_1_1 := List.mem_of_getElem? h0; (show w ∈ k2_sels lw_privs ++ tables_1 from List.mem_append_right _ (List.mem_append_left _ h)))
theorem tl_2 (i : Nat) {w : Cond} (h0 : tables_1_2[i]? = some w) : w ∈ lw_tbl := (have h : w ∈ tables_1_2 := List.mem_of_getElem? h0; (show w ∈ k2_sels lw_privs ++ tables_1 from List.mem_append_right _ (List.mem_append_right _ (List.mem_append_left _ h))))
theorem tl_3 (i : Nat) {w : Cond} (h0 : tables_1_3[i]? = some w) : w ∈ lw_tbl := (have h : w ∈ tables_1_3 := List.mem_of_getElem? h0; (show w ∈ k2_sels lw_privs ++ tables_1 from List.mem_append_right _ (List.mem_append_right _ (List.mem_append_right _ (List.mem_append_left _ h)))))
theorem tl_4 (i : Nat) {w : Cond} (h0 : tables_1_4[i]? = some w) : w ∈ lw_tbl := (have h : w ∈ tables_1_4 := List.mem_of_getElem? h0; (show w ∈ k2_sels lw_privs ++ tables_1 from List.mem_append_right _ (List.mem_append_right _ (List.mem_append_right _ (List.mem_append_right _ (List.mem_append_left _ h))))))
theorem tl_5 (i : Nat) {w : Cond} (h0 : tables_1_5[i]? = some w) : w ∈ lw_tbl := (have h : w ∈ tables_1_5 := List.mem_of_getElem? h0; (show w ∈ k2_sels lw_privs ++ tables_1 from List.mem_append_right _ (List.mem_append_right _ (List.mem_append_right _ (List.mem_append_right _ (List.mem_append_right _ (List.mem_append_left _ h)))))))
theorem tl_6 (i : Nat) {w : Cond} (h0 : tables_1_6[i]? = some w) : w ∈ lw_tbl := (have h : w ∈ tables_1_6 := List.mem_of_getElem? h0; (show w ∈ k2_sels lw_privs ++ tables_1 from List.mem_append_right _ (List.mem_append_right _ (List.mem_append_right _ (List.mem_append_right _ (List.mem_append_right _ (List.mem_append_right _ (h))))))))
theorem lp_arr {s : State} {args : Array Value} {ty : FieldType} (h : (Cond.arrayClass ty).before args s = true) : ∃ c, ArrOfT s c ty ∧ s.vm.findClass ("[" ++ ty.toString) = some c := by
  obtain ⟨c, k, comp, h1, h2, h3⟩ := Cond.arrayClass_spec h
  exact ⟨c, fun n z => ⟨fun k h => (by cases h), k, h2, comp, h3⟩, h1⟩
theorem lp_over {s : State} {args : Array Value} {ty : FieldType} (h : (Cond.arrayOver (.array ty)).before args s = true) : ∃ c, ArrOfT s c (.array ty) ∧ s.vm.findClass ("[" ++ (FieldType.array ty).toString) = some c := by
  obtain ⟨comp, c, k, -, h2, h3, h1⟩ := Cond.arrayOver_specA h
  exact ⟨c, fun n z => ⟨fun k h => (by cases h), k, h2, comp, h3⟩, h1⟩
theorem lp_cls {s : State} {args : Array Value} (hts : ∀ w ∈ gd, w.before args s = true) (hall : ∀ (c : Nat) (q : vw_C), cs_L[c]? = some q → (∀ w ∈ u_ws q.1 q.2.1 q.2.2, w ∈ gd) ∧ Cond.instantiable q.1 q.2.2 ∈ gd) : ∃ D : va_G, ∀ (c : Nat) (q : vw_C), cs_L[c]? = some q → u_Kn s q.1 q.2.1 q.2.2 (D.1 c) (D.2 c) := by
  have h : ∀ c : Nat, ∃ (x : ClassId × (Nat → Nat)), ∀ q, cs_L[c]? = some q → u_Kn s q.1 q.2.1 q.2.2 x.1 x.2 := by
    intro c
    cases e : cs_L[c]? with
    | none => exact ⟨(default, fun _ => 0), fun q hq => by cases hq⟩
    | some q0 =>
      obtain ⟨h1, h2⟩ := hall c q0 e
      obtain ⟨cC, iS, h3⟩ := u_known hts h1 (hts _ h2)
      exact ⟨(cC, iS), fun q hq => by cases hq; exact h3⟩
  exact ⟨(fun c => (Classical.choose (h c)).1, fun c => (Classical.choose (h c)).2), fun c q hq => Classical.choose_spec (h c) q hq⟩
theorem lp_all : ∀ (c : Nat) (q : vw_C), cs_L[c]? = some q → (∀ w ∈ u_ws q.1 q.2.1 q.2.2, w ∈ gd) ∧ Cond.instantiable q.1 q.2.2 ∈ gd := by
  have h : ∀ q ∈ cs_L, (∀ w ∈ u_ws q.1 q.2.1 q.2.2, w ∈ gd) ∧ Cond.instantiable q.1 q.2.2 ∈ gd := List.forall_mem_cons.mpr ⟨⟨cw_0, (tm_1 22 rfl rfl)⟩, List.forall_mem_cons.mpr ⟨⟨cw_1, (tm_1 30 rfl rfl)⟩, List.forall_mem_cons.mpr ⟨⟨cw_2, (tm_1 108 rfl rfl)⟩, List.forall_mem_cons.mpr ⟨⟨cw_3, (tm_1 114 rfl rfl)⟩, List.forall_mem_cons.mpr ⟨⟨cw_4, (tm_1 127 rfl rfl)⟩, List.forall_mem_cons.mpr ⟨⟨cw_5, (tm_1 137 rfl rfl)⟩, List.forall_mem_cons.mpr ⟨⟨cw_6, (tm_1 182 rfl rfl)⟩, List.forall_mem_cons.mpr ⟨⟨cw_7, (tm_1 199 rfl rfl)⟩, List.forall_mem_cons.mpr ⟨⟨cw_8, (tm_2 5 rfl rfl)⟩, List.forall_mem_cons.mpr ⟨⟨cw_9, (tm_2 67 rfl rfl)⟩, List.forall_mem_cons.mpr ⟨⟨cw_10, (tm_4 187 rfl rfl)⟩, fun _ h => absurd h List.not_mem_nil⟩⟩⟩⟩⟩⟩⟩⟩⟩⟩⟩
  exact fun c q hq => h q (List.mem_of_getElem? hq)
section LP
variable {p : Program} {s : State} {m : MethodId} {meth : Method} {c : Code} {b L : Nat} {xs : Nat → Int32} {A : Nat → Prop}
theorem lp_K (C0 : lw_At p s m meth c b L xs) : ∃ (D : va_G) (cI cZ cG : ClassId), va_K D cs_L [(cI, .int), (cZ, .boolean), (cG, .array .int)] s := by
  obtain ⟨hx, hb, hr, hml, hown, hts, hX, hbl, hlocks, hgv⟩ := C0
  have htg : ∀ w ∈ gd, w.before #[Value.ref b] s = true := fun w h => hts w (gd_lw w h)
  obtain ⟨D, hD⟩ := lp_cls htg lp_all
  obtain ⟨cI, i1, i2⟩ := lp_arr (htg _ bn_wI)
  obtain ⟨cZ, z1, z2⟩ := lp_arr (htg _ bn_wZ)
  obtain ⟨cG, g1, g2⟩ := lp_over (hts _ (tl_1 143 rfl))
  refine ⟨D, cI, cZ, cG, hD, fun k q hq => ?_⟩
  match k with
  | 0 => cases hq; exact ⟨i1, i2⟩
  | 1 => cases hq; exact ⟨z1, z2⟩
  | 2 => cases hq; exact ⟨g1, g2⟩
  | k + 3 => cases hq
theorem lp_N (C0 : lw_At p s m meth c b L xs) : bm_N bn_ne s := by
  obtain ⟨hx, hb, hr, hml, hown, hts, hX, hbl, hlocks, hgv⟩ := C0
  exact ⟨List.forall_mem_cons.mpr ⟨va_Nw.of rfl (hts _ (tl_1 31 rfl)), List.forall_mem_cons.mpr ⟨va_Nw.of rfl (hts _ (tl_1 115 rfl)), fun _ h => absurd h List.not_mem_nil⟩⟩, (by
    have h := hts _ (tl_1 143 rfl)
    first | exact h | simpa only [Cond.before, Cond.holds, Cond.value] using h)⟩
theorem lp_hN (C0 : lw_At p s m meth c b L xs) : hx_N hs_cs hs_ns s := by
  obtain ⟨hx, hb, hr, hml, hown, hts, hX, hbl, hlocks, hgv⟩ := C0
  have hs := flat_of_before _ hgv
  exact ⟨List.forall_mem_cons.mpr ⟨va_Nw.of rfl (hts _ (tl_3 195 rfl)), List.forall_mem_cons.mpr ⟨va_Nw.of rfl (hts _ (tl_4 29 rfl)), List.forall_mem_cons.mpr ⟨va_Nw.of rfl (hts _ (tl_4 107 rfl)), fun _ h => absurd h List.not_mem_nil⟩⟩⟩, List.forall_mem_cons.mpr ⟨va_Nc.of (hs _ (by decide +kernel)), List.forall_mem_cons.mpr ⟨va_Nc.of (hs _ (by decide +kernel)), List.forall_mem_cons.mpr ⟨va_Nc.of (hs _ (by decide +kernel)), List.forall_mem_cons.mpr ⟨va_Nc.of (hs _ (by decide +kernel)), List.forall_mem_cons.mpr ⟨va_Nc.of (hs _ (by decide +kernel)), List.forall_mem_cons.mpr ⟨va_Nc.of (hs _ (by decide +kernel)), fun _ h => absurd h List.not_mem_nil⟩⟩⟩⟩⟩⟩⟩
theorem lp_str {k : Nat} {args : Array Value} (h : (Cond.exactly (.string "HouseDesk" k) "java/lang/String").before args s = true) : ∃ a : Nat, (Term.string "HouseDesk" k).eval args s none [] s = some (.ref a) := by
  obtain ⟨a2, c, cA, kA, q1, -⟩ := Cond.exactly_spec (args := args) (first := s) (o := none) (s := s) (idx := []) (t := .string "HouseDesk" k) (cls := "java/lang/String") h
  exact ⟨a2, q1⟩
theorem lp_mN (C0 : lw_At p s m meth c b L xs) : ∃ sa : Nat → Nat, ∀ A : Nat → Prop, (∀ a : Nat, a < s.heap.size → ¬ A a) → mx_N xs_dc xs_st sa A s s.heap := by
  obtain ⟨hx, hb, hr, hml, hown, hts, hX, hbl, hlocks, hgv⟩ := C0
  have hs := flat_of_before _ hgv
  obtain ⟨a38, e38⟩ := lp_str (k := 38) (hs _ (by decide +kernel))
  obtain ⟨a53, e53⟩ := lp_str (k := 53) (hs _ (by decide +kernel))
  obtain ⟨a60, e60⟩ := lp_str (k := 60) (hs _ (by decide +kernel))
  obtain ⟨a69, e69⟩ := lp_str (k := 69) (hs _ (by decide +kernel))
  obtain ⟨a75, e75⟩ := lp_str (k := 75) (hs _ (by decide +kernel))
  obtain ⟨a81, e81⟩ := lp_str (k := 81) (hs _ (by decide +kernel))
  obtain ⟨a93, e93⟩ := lp_str (k := 93) (hs _ (by decide +kernel))
  obtain ⟨a118, e118⟩ := lp_str (k := 118) (hs _ (by decide +kernel))
  obtain ⟨a130, e130⟩ := lp_str (k := 130) (hs _ (by decide +kernel))
  obtain ⟨a138, e138⟩ := lp_str (k := 138) (hs _ (by decide +kernel))
  obtain ⟨a155, e155⟩ := lp_str (k := 155) (hs _ (by decide +kernel))
  obtain ⟨a170, e170⟩ := lp_str (k := 170) (hs _ (by decide +kernel))
  obtain ⟨a187, e187⟩ := lp_str (k := 187) (hs _ (by decide +kernel))
  refine ⟨fun k => (mm_look [(38, a38), (53, a53), (60, a60), (69, a69), (75, a75), (81, a81), (93, a93), (118, a118), (130, a130), (138, a138), (155, a155), (170, a170), (187, a187)] k).getD 0, fun A hA => ⟨?_, ?_, ?_, ?_⟩⟩
  · exact List.forall_mem_cons.mpr ⟨va_Nw.of rfl (hts _ (tl_3 198 rfl)), List.forall_mem_cons.mpr ⟨va_Nw.of rfl (hts _ (tl_3 199 rfl)), List.forall_mem_cons.mpr ⟨va_Nw.of rfl (hts _ (tl_3 196 rfl)), List.forall_mem_cons.mpr ⟨va_Nw.of rfl (hts _ (tl_3 197 rfl)), List.forall_mem_cons.mpr ⟨va_Nw.of rfl (hts _ (tl_3 200 rfl)), List.forall_mem_cons.mpr ⟨va_Nw.of rfl (hts _ (tl_3 201 rfl)), fun _ h => absurd h List.not_mem_nil⟩⟩⟩⟩⟩⟩
  · exact List.forall_mem_cons.mpr ⟨vk_R.of (hts _ (tl_3 234 rfl)) e38, List.forall_mem_cons.mpr ⟨vk_R.of (hts _ (tl_4 36 rfl)) e53, List.forall_mem_cons.mpr ⟨vk_R.of (hts _ (tl_4 54 rfl)) e60, List.forall_mem_cons.mpr ⟨vk_R.of (hts _ (tl_4 56 rfl)) e69, List.forall_mem_cons.mpr ⟨vk_R.of (hts _ (tl_4 68 rfl)) e75, List.forall_mem_cons.mpr ⟨vk_R.of (hts _ (tl_4 80 rfl)) e81, List.forall_mem_cons.mpr ⟨vk_R.of (hts _ (tl_4 92 rfl)) e93, List.forall_mem_cons.mpr ⟨vk_R.of (hts _ (tl_4 121 rfl)) e118, List.forall_mem_cons.mpr ⟨vk_R.of (hts _ (tl_4 129 rfl)) e130, List.forall_mem_cons.mpr ⟨vk_R.of (hts _ (tl_4 141 rfl)) e138, List.forall_mem_cons.mpr ⟨vk_R.of (hts _ (tl_4 155 rfl)) e155, List.forall_mem_cons.mpr ⟨vk_R.of (hts _ (tl_4 168 rfl)) e170, List.forall_mem_cons.mpr ⟨vk_R.of (hts _ (tl_4 114 rfl)) e187, fun _ h => absurd h List.not_mem_nil⟩⟩⟩⟩⟩⟩⟩⟩⟩⟩⟩⟩⟩
  · exact mx_Z.of (hts _ (tl_3 220 rfl)) (hs _ (by decide +kernel)) hA
  · exact mx_Z.of (hts _ (tl_3 222 rfl)) (hs _ (by decide +kernel)) hA
theorem lp_G (C0 : lw_At p s m meth c b L xs) : ∃ t : Nat, ∀ A : Nat → Prop, (∀ a : Nat, a < s.heap.size → ¬ A a) → va_Z "HouseDesk$Layout" "DIRECTION" "[I" (.ref t) A s s.heap ∧ va_T .int t 4 mm_tab A s s.heap := by
  obtain ⟨hx, hb, hr, hml, hown, hts, hX, hbl, hlocks, hgv⟩ := C0
  have hs := flat_of_before _ hgv
  have hlen := va_eqt (t := .length (.static "HouseDesk$Layout" "DIRECTION" "[I")) (z := 4) (hs _ (by decide +kernel))
  have k0 := va_eqt (t := .elem (.static "HouseDesk$Layout" "DIRECTION" "[I") (.int 0)) (z := 2) (hs _ (by decide +kernel))
  have k1 := va_eqt (t := .elem (.static "HouseDesk$Layout" "DIRECTION" "[I") (.int 1)) (z := 0) (hs _ (by decide +kernel))
  have k2 := va_eqt (t := .elem (.static "HouseDesk$Layout" "DIRECTION" "[I") (.int 2)) (z := 3) (hs _ (by decide +kernel))
  have k3 := va_eqt (t := .elem (.static "HouseDesk$Layout" "DIRECTION" "[I") (.int 3)) (z := 1) (hs _ (by decide +kernel))
  have key : ∀ A : Nat → Prop, (∀ a : Nat, a < s.heap.size → ¬ A a) → ∃ t : Nat, (Term.static "HouseDesk$Layout" "DIRECTION" "[I").eval #[Value.ref b] s none [] s = some (.ref t) ∧ va_T .int t 4 mm_tab A s s.heap := fun A hA => va_Tof (N := 4) (by decide) (hs _ (by decide +kernel)) hlen (fun j hj => by
    match j with
    | 0 => exact k0
    | 1 => exact k1
    | 2 => exact k2
    | 3 => exact k3
    | j + 4 => omega) hA
  obtain ⟨t, ht, -⟩ := key (fun _ => False) (fun _ _ h => h)
  refine ⟨t, fun A hA => ⟨va_Zref (hts _ (tl_3 128 rfl)) (hts _ (tl_1 8 rfl)) ht hA, ?_⟩⟩
  obtain ⟨t2, h2, h3⟩ := key A hA
  cases Option.some.inj (ht.symm.trans h2)
  exact h3
end LP
end
section
/-! the law's first rows: two objects and an array are made -/
section LPm
variable {p : Program} {l : Launch} {e : Env} {R : Room} {s : State} {m : MethodId} {args : Array Value} {below : List Frame} {meth : Method} {c : Code} {Qf : State → Prop} {D : va_G} {cI cZ cG : ClassId} {A : Nat → Prop} {cc : ByteArray} {own : String} {nL : Nat}
set_option maxHeartbeats 1000000 in
theorem lp_make (hx : p.tables.exec = Jvm.exec) (hb : c.code = cc) (hml : c.maxLocals = nL) (hown : s.vm.findClass own = some m.cls) (hts : ∀ w ∈ gd, w.before args s = true) (hK : va_K D cs_L [(cI, .int), (cZ, .boolean), (cG, .array .int)] s) (hN : bm_N bn_ne s) (hA : ∀ q, s.heap.size ≤ q → A q)
    {ad : Nat → Nat} {κ κ2 : List bm_K} {ci : Nat} {vs : List Value} {idx ix y dd pc cells slots : Nat} {H : Heap} {locs : List Loc} {ls : Array Slot}
    (hnok : bm_nok cs_L gd own (idx, ci, vs)) (hmx : bn_mx y ≤ 21) (hcode : Cond.code (bn_nm y) (bn_by y) (bn_mx y) none ∈ gd) (hini : Cond.initialized (bn_nm y).cls ∈ gd) (hinst : Cond.instanceMethod (bn_nm y) ∈ gd) (hnm1 : (bn_nm y).name = "<init>")
    (hd : (bn_nm y).cls ≠ "java/lang/invoke/MethodHandle" ∧ (bn_nm y).cls ≠ "java/lang/invoke/VarHandle" ∧ (parseMethodDescriptor (bn_nm y).desc).map (fun d => d.parameters.length) = some 0) (hlink : Cond.methodLink own ix (bn_nm y) ∈ gd)
    (hT : bm_T l gd bn_nm bn_by bn_mx D cs_L [(cI, .int), (cZ, .boolean), (cG, .array .int)] bn_ne (cI, cZ, cG) dd y [.ref κ.length] (κ ++ [((0, ci, vs, bm_z) : bm_K)]) κ2) (hbo : κ.zipIdx.all (bm_cok κ.length) = true) (hm1 : κ.length + 1 ≤ κ2.length) (hm2 : bm_sl κ + vs.length ≤ bm_sl κ2)
    (hRc : cells + (κ2.length - κ.length) ≤ R.cells) (hRs : slots + (bm_sl κ2 - bm_sl κ) ≤ R.slots) (hRf : dd + 2 ≤ R.frames) (hRl : 40 + 40 * (dd + 1) ≤ R.locals) (d0 : decode cc pc = .ok (.new idx, 3)) (d1 : decode cc (pc + 3) = .ok (.dup, 1)) (d2 : decode cc (pc + 4) = .ok (.invokespecial ix, 3))
    (hP : va_P D cs_L (bm_wd ad (cI, cZ, cG) κ) H) (hD : va_D A (bm_wd ad (cI, cZ, cG) κ)) (hS : va_S A s.heap H locs) (hsz : ls.size = nL)
    (kk : ∀ (ad' : Nat → Nat) (H1 : Heap) (locs1 : List Loc), (∀ k, k < κ.length → ad' k = ad k) → va_P D cs_L (bm_wd ad' (cI, cZ, cG) κ2) H1 → va_D A (bm_wd ad' (cI, cZ, cG) κ2) → va_S A s.heap H1 locs1 → W p l e R s m args below meth c H1 locs1 (cells + (κ2.length - κ.length)) (slots + (bm_sl κ2 - bm_sl κ)) Qf (F0 m (pc + 7) ls [.ref (ad' κ.length)])) :
    W p l e R s m args below meth c H locs cells slots Qf (F0 m pc ls []) := by
  obtain ⟨C0, T, N, tf, hc, hlen, hin, hcl, hins, hini0, htf, hdf, h0⟩ := hnok
  dsimp only at hc hlen hcl hdf h0
  have e1 : (κ ++ [((0, ci, vs, bm_z) : bm_K)]).length = κ.length + 1 := by rw [List.length_append]; rfl
  have e2 : bm_sl (κ ++ [((0, ci, vs, bm_z) : bm_K)]) = bm_sl κ + N := by rw [bm_sl_app]; simp [bm_sl, bm_s1]; omega
  refine va_new (ci := ci) (fs := vs) (C := C0) (T := T) (N := N) hx hb hts hin tf htf hown (hts _ hcl) (hts _ hins) (hts _ hini0) hK hP hD hS hA hc hdf (by omega) (by omega) d0 (fun q H1 hP1 hD1 hS1 => ?_)
  have hw := bm_push (ad := ad) (a3 := (cI, cZ, cG)) (c := ((0, ci, vs, bm_z) : bm_K)) (q := q) (e := .inr (ci, vs)) hbo (by simp only [bm_ce, bm_rho0 h0])
  refine lv_dup hx hb d1 rfl ?_
  rw [← hw] at hP1 hD1
  have hqe : bm_ad ad κ.length q κ.length = q := bm_ad_at
  have hMt := hT (bm_ad ad κ.length q) H1.size
  have hA1 : ∀ x, va_A (bm_wd (bm_ad ad κ.length q) (cI, cZ, cG) (κ ++ [((0, ci, vs, bm_z) : bm_K)])) H1.size x → A x := fun x hx9 => by
    rcases hx9 with ⟨k, e9, h9⟩ | h9
    · exact hD1.2 k (x, e9) h9
    · exact hA x (Nat.le_trans hS1.1 h9)
  have hG : GoodIn gd (bm_ws gd bn_nm bn_by bn_mx y) := fun w hw => by
    rcases List.mem_cons.mp hw with h9 | h9
    · subst h9
      exact ⟨hcode, good_of_word (gd_good _ hcode)⟩
    · exact ⟨h9, good_of_word (gd_good _ h9)⟩
  have hpre : PreS s H1 (va_Pc (([.ref κ.length] : List Value).map (mm_rho (bm_ad ad κ.length q))) (bm_B D cs_L [(cI, .int), (cZ, .boolean), (cG, .array .int)] bn_ne (bm_ad ad κ.length q) (cI, cZ, cG) (κ ++ [((0, ci, vs, bm_z) : bm_K)]) H1.size)) (.ref (bm_ad ad κ.length q κ.length) :: []) :=
    ⟨fun a U g mk q => by obtain ⟨q0, q1, qP, ⟨qK, qN⟩, qD⟩ := q; exact ⟨q0, q1, qP, ⟨va_K.moved (u := U) (U := U.calling g mk a) (Vm.Alike.refl U.vm) qK, bm_N.same (u := U) (U := U.calling g mk a) rfl qN⟩, qD⟩, fun U hU hW => ⟨rfl, by rw [hU], by rw [hU]; exact hP1, ⟨va_K.moved hW.alike hK, bm_N.moved hW hN⟩, hD1.weaken (fun _ _ _ _ => trivial)⟩⟩
  have hroom : (bm_rm dd (κ ++ [((0, ci, vs, bm_z) : bm_K)]) κ2).frames + 1 ≤ R.frames ∧ 8 + (bn_mx y + 11) + (bm_rm dd (κ ++ [((0, ci, vs, bm_z) : bm_K)]) κ2).locals ≤ R.locals := by
    refine ⟨?_, ?_⟩
    · show dd + 1 + 1 ≤ R.frames; omega
    · show 8 + (bn_mx y + 11) + 40 * (dd + 1) ≤ R.locals; omega
  have hcs1 : cells + 1 + (κ2.length - (κ ++ [((0, ci, vs, bm_z) : bm_K)]).length) ≤ R.cells ∧ slots + N + (bm_sl κ2 - bm_sl (κ ++ [((0, ci, vs, bm_z) : bm_K)])) ≤ R.slots := by
    rw [e1, e2]
    omega
  have hgo := bm_goon (Qf := Qf) (va_runI (g := F0 m (pc + 4) ls [.ref (bm_ad ad κ.length q κ.length), .ref q]) (b := bm_ad ad κ.length q κ.length) (As := []) (rest := [.ref q]) (n := 0) (locs := locs) (cells := cells + 1) (slots := slots + N) (e := e) (below := below) (meth := meth) ⟨hx, hb, hml, hown, hts⟩ hMt (cwI 0 hts hG rfl rfl rfl (hts _ hini) (hts _ hlink) (hts _ hinst) hnm1 hd hroom) hpre rfl rfl hsz rfl (lv_room (by show 1 + 0 ≤ 8; omega)) d2 hcs1) hS1 hA1 (fun ad' H2 locs2 hag hP2 hD2 hS2 => ?_)
  · rw [hqe] at hgo
    exact hgo
  · rw [e1] at hag
    have h9 := kk ad' H2 locs2 (fun k hk => (hag k (by omega)).trans (bm_ag k (by omega))) hP2 hD2 hS2
    rw [hag κ.length (by omega), hqe] at h9
    rw [e1, e2, show cells + 1 + (κ2.length - (κ.length + 1)) = cells + (κ2.length - κ.length) by omega, show slots + N + (bm_sl κ2 - (bm_sl κ + N)) = slots + (bm_sl κ2 - bm_sl κ) by omega]
    exact h9
end LPm
def mm_wf (Y : mm_Y) : Bool := (List.range Y.1.length).all (fun k => match mm_kd Y k with
  | (0, _, fs) => fs.all (fun o => match o with | some t => Nat.blt t Y.1.length | none => true)
  | (1, _, _) => true
  | (2, _, _) => true
  | (_, n, _) => Nat.ble (k + 1 + n) Y.1.length)
theorem mm_fv_cg {ad ad' : Nat → Nat} {N : Nat} (h : ∀ k, k < N → ad k = ad' k) (f : Nat → Int32) : ∀ (fs : List (Option Nat)) (j : Nat), fs.all (fun o => match o with | some t => Nat.blt t N | none => true) = true → mm_fv ad f j fs = mm_fv ad' f j fs
  | [], _, _ => rfl
  | none :: r, j, hw => by
    simp only [mm_fv]
    rw [mm_fv_cg h f r (j + 1) (by simpa using hw)]
  | some t :: r, j, hw => by
    rw [List.all_cons, Bool.and_eq_true] at hw
    simp only [mm_fv]
    rw [mm_fv_cg h f r (j + 1) hw.2, h t (Nat.le_of_ble_eq_true hw.1)]
theorem mm_wd_cg {ad ad' : Nat → Nat} {a3 : ClassId × ClassId × ClassId} {Y : mm_Y} {σ : mm_S} (hw : mm_wf Y = true) (h : ∀ k, k < Y.1.length → ad k = ad' k) : mm_wd ad a3 Y σ = mm_wd ad' a3 Y σ := by
  unfold mm_wd
  apply List.map_congr_left
  intro k hk
  have hk1 := List.mem_range.mp hk
  have hq := List.all_eq_true.mp hw k hk
  rw [h k hk1]
  have : mm_ce ad a3 Y σ k = mm_ce ad' a3 Y σ k := by
    unfold mm_ce
    split at hq
    · rename_i ci fs e
      simp only [e]
      rw [mm_fv_cg h _ _ _ hq]
    · rename_i e
      simp only [e]
    · rename_i e
      simp only [e]
    · rename_i z n fs h0 h1 h2 e
      have hfe : (fun j => if j < n then some (ad (k + 1 + j)) else none) = (fun j => if j < n then some (ad' (k + 1 + j)) else none) := by
        funext j
        by_cases hj : j < n
        · simp only [hj, if_true]
          rw [h (k + 1 + j) (by have := Nat.le_of_ble_eq_true hq; omega)]
        · simp only [hj, if_false]
      rw [e]
      split
      · rename_i ci' fs' e'; cases e'; exact absurd rfl h0
      · rename_i n' x' e'; cases e'; exact absurd rfl h1
      · rename_i n' x' e'; cases e'; exact absurd rfl h2
      · rename_i z' n' x' a b c' e'; cases e'; rw [hfe]
  rw [this]
theorem ms_wf : mm_wf ms_Y = true := by decide +kernel
end
section
/-! from the law's entry to its loop -/
theorem bn_sls : 4 ≤ bm_sl bn_k1 ∧ bm_sl bn_k1 + 46 ≤ bm_sl bn_k2 ∧ bm_sl bn_k2 ≤ 5000 := by decide +kernel
theorem bn_in {κ : List bm_K} {π ad : Nat → Nat} {Y : mm_Y} {a3 : ClassId × ClassId × ClassId} (h : bn_conv κ π Y = true) : ∀ (i : Nat) (q : Nat × va_E), (mm_wd (fun k => ad (π k)) a3 Y (bn_s0 κ π))[i]? = some q → ∃ j : Nat, (bm_wd ad a3 κ)[j]? = some q := by
  unfold bn_conv at h
  rw [Bool.and_eq_true] at h
  intro i q hq
  have hi : i < Y.1.length := by
    have := (List.getElem?_eq_some_iff.mp hq).1
    simpa [mm_wd] using this
  rw [mm_wd_get hi] at hq
  refine ⟨π i, ?_⟩
  rw [← hq]
  exact bn_cell (List.all_eq_true.mp h.1 i (List.mem_range.mpr hi))
def lp_ad (b q t : Nat) (ad : Nat → Nat) (k : Nat) : Nat := match k with
  | 200 => b
  | 201 => q
  | 202 => t
  | k => ad (bn_pi k)
theorem lp_ad_lt {b q t : Nat} {ad : Nat → Nat} {k : Nat} (h : k < ms_Y.1.length) : lp_ad b q t ad k = ad (bn_pi k) := by
  have h2 : k < 107 := h
  unfold lp_ad
  split
  · omega
  · omega
  · omega
  · rfl
theorem lp_n1 : bm_nok cs_L gd "HouseDeskLaw" (8, 0, [.null, .null, .null, .int 0]) := ⟨_, _, _, cy_0, rfl, rfl, cw_0, (tm_1 21 rfl rfl), (tm_1 22 rfl rfl), (tm_1 1 rfl rfl), ct_0, by decide +kernel, rfl⟩
theorem lp_n2 : bm_nok cs_L gd "HouseDeskLaw" (51, 10, [.int 0, .null, .null, .null, .null, .null, .int 0, .null, .null, .null, .int 0, .null, .int 0, .int 0, .null, .int 0, .int 0, .null, .null, .int 0, .null, .null, .null, .null, .null, .null, .null, .null, .null, .int 0, .null, .null, .int 0, .int 0, .int 0, .null, .null, .int 0, .null, .null, .null, .null, .null, .null, .int 0, .null]) := ⟨_, _, _, cy_10, rfl, rfl, cw_10, (tm_4 186 rfl rfl), (tm_4 187 rfl rfl), (tm_1 11 rfl rfl), ct_10, by decide +kernel, rfl⟩
theorem lp_bo : bn_k1.zipIdx.all (bm_cok bn_k1.length) = true := by decide +kernel
theorem lp_d : decode code 0 = .ok (.new 8, 3) ∧ decode code 3 = .ok (.dup, 1) ∧ decode code 4 = .ok (.invokespecial 50, 3) ∧ decode code 7 = .ok (.astore_n 1, 1) ∧ decode code 8 = .ok (.new 51, 3) ∧ decode code 11 = .ok (.dup, 1) ∧ decode code 12 = .ok (.invokespecial 53, 3) ∧ decode code 15 = .ok (.astore_n 2, 1) ∧ decode code 16 = .ok (.iconst 1, 1) ∧ decode code 17 = .ok (.newarray .long, 2) ∧ decode code 19 = .ok (.astore_n 3, 1) := by decide +kernel
theorem lp_ce {x : Nat} (h : x ≤ 200) : x + 512 ≤ room_1.cells := by
  have h1 : room_1.cells = 601024 := rfl
  rw [h1]
  omega
theorem lp_sl {x : Nat} (h : x ≤ 6000) : x + 6 * 512 ≤ room_1.slots := by
  have h1 : room_1.slots = 7293034 := rfl
  rw [h1]
  omega
theorem lp_fr {d : Nat} (hd : d ≤ 1900) : d + 1 + 10 ≤ room_1.frames ∧ 40 * (d + 1) + 280 ≤ room_1.locals := by
  have h1 : room_1.frames = 2048 := rfl
  have h2 : room_1.locals = 84000 := rfl
  rw [h1, h2]
  omega
set_option maxHeartbeats 2000000 in
theorem lp_start {p : Program} {e : Env} {s : State} {m : MethodId} {below : List Frame} {meth : Method} {c : Code} (l : Launch) {b L d : Nat} {xs : Nat → Int32} (hd : d ≤ 1900) (hl : l.stackTraces = false) (C0 : lw_At p s m meth c b L xs)
    (hlaw : lw d xs L 512 20 [some (.ref 200), some (.ref 0), some (.ref 10), some (.ref 201), none, none, none] [] ms_0 (fun _ => 0) 0) : W p l e room_1 s m #[Value.ref b] below meth c s.heap [] 0 0 (lw_Z below #[Value.ref b] s) (entryFrame m ([Value.ref b] : List Value).toArray 7) := by
  obtain ⟨D, cI, cZ, cG, hK⟩ := lp_K C0
  have hN := lp_N C0
  have hC := lp_hN C0
  obtain ⟨sa, hmN⟩ := lp_mN C0
  obtain ⟨t, hG⟩ := lp_G C0
  obtain ⟨hx, hb, hr, hml, hown, hts0, hX, hbl, hlocks, hgv⟩ := C0
  have hts : ∀ w ∈ gd, w.before #[Value.ref b] s = true := fun w h => hts0 w (gd_lw w h)
  obtain ⟨A, hAd⟩ : ∃ A : Nat → Prop, A = fun q => s.heap.size ≤ q := ⟨_, rfl⟩
  have hA : ∀ q, s.heap.size ≤ q → A q := fun q h => by rw [hAd]; exact h
  have hA' : ∀ q, A q → s.heap.size ≤ q := fun q h => by rw [hAd] at h; exact h
  have hA0 : ∀ a : Nat, a < s.heap.size → ¬ A a := fun a h z => absurd h (Nat.not_lt.mpr (hA' a z))
  have hT1 := bm_sound (l := l) (D := D) (cI := cI) (cZ := cZ) (cG := cG) gd_good bn_wI bn_wZ bo_all 3 0 [.ref 0] bn_c0 bn_k1 bn_r1
  have hT2 := bm_sound (l := l) (D := D) (cI := cI) (cZ := cZ) (cG := cG) gd_good bn_wI bn_wZ bo_all 3 10 [.ref bn_k1.length] bn_c1 bn_k2 bn_r2
  obtain ⟨g0, g3, g4, g7, g8, g11, g12, g15, g16, g17, g19⟩ := lp_d
  obtain ⟨n1, n2⟩ := bn_len
  obtain ⟨u1, u2, u3⟩ := bn_sls
  have z0 : ([] : List bm_K).length = 0 := rfl
  have z1 : bm_sl ([] : List bm_K) = 0 := rfl
  have rc : room_1.cells = 601024 := rfl
  have rs : room_1.slots = 7293034 := rfl
  have rf : room_1.frames = 2048 := rfl
  have rl : room_1.locals = 84000 := rfl
  have hl0 := lv_entry [Value.ref b] (n := 7) (show 1 ≤ 7 by omega)
  rw [lg_entry_eq]
  generalize (lg_sl [Value.ref b] ++ List.replicate (7 - (lg_sl [Value.ref b]).length) Slot.unset).toArray = ls0 at hl0 ⊢
  refine lp_make (A := A) (ad := fun _ => 0) (κ := []) (κ2 := bn_k1) (own := "HouseDeskLaw") (dd := 3) (y := 0) hx hb hml hown hts hK hN hA lp_n1 (by decide) bc_0 (tm_1 1 rfl rfl) (tm_1 24 rfl rfl) rfl ⟨by decide, by decide, by decide +kernel⟩ (tm_1 23 rfl rfl) hT1 rfl (by omega) (by rw [z1]; exact u1) (by omega) (by omega) (by omega) (by omega) g0 g3 g4 (fun k q h => by cases h) ⟨fun i j x y h => by (cases h), fun k q h => by (cases h)⟩ va_S.rf hl0.1 (fun ad1 H1 locs1 _ hP1 hD1 hS1 => ?_)
  refine lv_astore_n (i := 1) (lv' := [(1, .ref (ad1 0)), (0, .ref b)]) hx hb g7 rfl hl0 (by omega) rfl (fun ls1 hl1 => ?_)
  refine lp_make (A := A) (ad := ad1) (κ := bn_k1) (κ2 := bn_k2) (own := "HouseDeskLaw") (dd := 3) (y := 10) hx hb hml hown hts hK hN hA lp_n2 (by decide) bc_10 (tm_1 11 rfl rfl) (tm_4 189 rfl rfl) rfl ⟨by decide, by decide, by decide +kernel⟩ (tm_4 188 rfl rfl) hT2 lp_bo (by omega) u2 (by omega) (by omega) (by omega) (by omega) g8 g11 g12 hP1 hD1 hS1 hl1.1 (fun ad2 H2 locs2 hag hP2 hD2 hS2 => ?_)
  refine lv_astore_n (i := 2) (lv' := [(2, .ref (ad2 bn_k1.length)), (1, .ref (ad1 0)), (0, .ref b)]) hx hb g15 rfl hl1 (by omega) rfl (fun ls2 hl2 => ?_)
  refine lv_iconst hx hb g16 (v := 1) rfl ?_
  refine va_newa (atype := .long) (ty := .long) (a0 := (1, .inr (.inl (fun _ => 0)))) hx hb (hts _ (tm_6 104 rfl rfl)) rfl hK hP2 hD2 hS2 hA (fun cA => rfl) (by decide) (N' := 1) rfl (by decide) (by omega) (by omega) g17 (fun q cA H3 hK3 hP3 hD3 hS3 => ?_)
  refine lv_astore_n (i := 3) (lv' := [(3, .ref q), (2, .ref (ad2 bn_k1.length)), (1, .ref (ad1 0)), (0, .ref b)]) hx hb g19 rfl hl2 (by omega) rfl (fun ls3 hl3 => ?_)
  have hlen2 : (bm_wd ad2 (cI, cZ, cG) bn_k2).length = 107 := by rw [bm_wd_len]; exact n2
  have hsubP : ∀ (k : Nat) (x : Nat × va_E), (bm_wd ad2 (cI, cZ, cG) bn_k2)[k]? = some x → (bm_wd ad2 (cI, cZ, cG) bn_k2 ++ [(q, .inl (cA, 1, .inr (.inl (fun _ => 0))))])[k]? = some x := fun k x hk => by
    rw [List.getElem?_append_left (List.getElem?_eq_some_iff.mp hk).1]; exact hk
  have hlast : (bm_wd ad2 (cI, cZ, cG) bn_k2 ++ [(q, (.inl (cA, 1, .inr (.inl (fun _ => 0))) : va_E))])[107]? = some (q, .inl (cA, 1, .inr (.inl (fun _ => 0)))) := by
    rw [List.getElem?_append_right (by omega), hlen2]; rfl
  obtain ⟨hw1, hw2⟩ := bn_world (κ := bn_k2) (π := bn_pi) (ad := ad2) (Y := ms_Y) (a3 := (cI, cZ, cG)) (A := A) bn_ok (fun k x hk => hP3 k x (hsubP k x hk)) ⟨fun i j x y hx hy => hD3.1 i j x y (hsubP i x hx) (hsubP j y hy), fun k x hk => hD3.2 k x (hsubP k x hk)⟩
  have hcg : mm_wd (lp_ad b q t ad2) (cI, cZ, cG) ms_Y ms_0 = mm_wd (fun k => ad2 (bn_pi k)) (cI, cZ, cG) ms_Y ms_0 := mm_wd_cg ms_wf (fun k hk => lp_ad_lt hk)
  have hPF : va_P D cs_L (lx_wd (lp_ad b q t ad2) (cI, cZ, cG) ms_Y (hx_e (lp_ad b q t ad2 201) cA (fun _ => 0)) ms_0) H3 := by
    unfold lx_wd
    rw [hcg]
    refine va_P.app hw1 (fun k x hk => ?_)
    match k with
    | 0 => cases hk; exact hP3 107 _ hlast
    | k + 1 => cases hk
  have hDF : va_D A (lx_wd (lp_ad b q t ad2) (cI, cZ, cG) ms_Y (hx_e (lp_ad b q t ad2 201) cA (fun _ => 0)) ms_0) := by
    unfold lx_wd
    rw [hcg]
    refine va_D.app hw2 ⟨fun i j x y hx hy _ => ?_, fun k x hk => ?_⟩ (fun i j x y hx hy hxy => ?_)
    · match i, j with
      | 0, 0 => rfl
      | 0, j + 1 => cases hy
      | i + 1, _ => cases hx
    · match k with
      | 0 => cases hk; exact hD3.2 107 _ hlast
      | k + 1 => cases hk
    · match j with
      | 0 =>
        cases hy
        obtain ⟨i2, hi2⟩ := bn_in bn_ok i x hx
        have h9 := hD3.1 i2 107 x _ (hsubP i2 x hi2) hlast hxy
        have h8 := (List.getElem?_eq_some_iff.mp hi2).1
        omega
      | j + 1 => cases hy
  have hlh : mm_lh (lp_ad b q t ad2) ls3 7 [some (.ref 200), some (.ref 0), some (.ref 10), some (.ref 201), none, none, none] := by
    refine ⟨⟨hl3.1, hl3.2.1, ?_⟩, rfl, ?_⟩
    · have r3 := hl3.2.2 (3, .ref q) (by simp)
      have r2 := hl3.2.2 (2, .ref (ad2 bn_k1.length)) (by simp)
      have r1 := hl3.2.2 (1, .ref (ad1 0)) (by simp)
      have r0 := hl3.2.2 (0, .ref b) (by simp)
      have a0 : ad1 0 = ad2 0 := (hag 0 (by omega)).symm
      rw [a0] at r1
      rw [n1] at r2
      intro x hx
      have hx' : x ∈ ([(0, .ref b), (1, .ref (ad2 0)), (2, .ref (ad2 74)), (3, .ref q)] : List (Nat × Value)) := hx
      simp only [List.mem_cons, List.not_mem_nil, or_false] at hx'
      rcases hx' with rfl | rfl | rfl | rfl
      · exact r0
      · exact r1
      · exact r2
      · exact r3
    · intro k v hk
      match k with
      | 0 => cases hk; rfl
      | 1 => cases hk; rfl
      | 2 => cases hk; rfl
      | 3 => cases hk; rfl
      | 4 => cases hk
      | 5 => cases hk
      | 6 => cases hk
      | k + 7 => cases hk
  exact ls_sound (ad := lp_ad b q t ad2) (cJ := cA) (A := A) (c0 := 0 + (bn_k1.length - ([] : List bm_K).length) + (bn_k2.length - bn_k1.length) + 1) (s0 := 0 + (bm_sl bn_k1 - bm_sl ([] : List bm_K)) + (bm_sl bn_k2 - bm_sl bn_k1) + 1) hl hx hb hml hown hts hK (hK3.sub [3] rfl) (hmN A hA0) ⟨(hG A hA0).1, (hG A hA0).2⟩ hC hX hbl (hA0 b hbl) hA (lp_fr hd).1 (lp_fr hd).2 (lp_ce (by omega)) (lp_sl (by omega))
    (fun pc H locs ls t9 ht hdg hS => W.widen (by omega) (by omega) (va_forget (fun x hx => hA' _ (hS.2.2 x hx)) (lw_ret hx hb hr hlocks hdg))) (Nat.zero_le _) hlaw H3 locs2 ls3 hPF hDF hS3 hlh
end

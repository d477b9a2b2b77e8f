theorem tl_1 (i : Nat) {w : Cond} (h0 : tables_1_1[i]? = some w) : w ∈ lw_tbl := (have h : w ∈ tables_1_1 := List.mem_of_getElem? h0; (show w ∈ k2_sels lw_privs ++ tables_1 from List.mem_append_right _ (List.mem_append_left _ h)))
theorem tl_2 (i : Nat) {w : Cond} (h0 : tables_1_2[i]? = some w) : w ∈ lw_tbl := (have h : w ∈ tables_1_2 := List.mem_of_getElem? h0; (show w ∈ k2_sels lw_privs ++ tables_1 from List.mem_append_right _ (List.mem_append_right _ (List.mem_append_left _ h))))
theorem tl_3 (i : Nat) {w : Cond} (h0 : tables_1_3[i]? = some w) : w ∈ lw_tbl := (have h : w ∈ tables_1_3 := List.mem_of_getElem? h0; (show w ∈ k2_sels lw_privs ++ tables_1 from List.mem_append_right _ (List.mem_append_right _ (List.mem_append_right _ (List.mem_append_left _ h)))))
theorem tl_4 (i : Nat) {w : Cond} (h0 : tables_1_4[i]? = some w) : w ∈ lw_tbl := (have h : w ∈ tables_1_4 := List.mem_of_getElem? h0; (show w ∈ k2_sels lw_privs ++ tables_1 from List.mem_append_right _ (List.mem_append_right _ (List.mem_append_right _ (List.mem_append_right _ (List.mem_append_left _ h))))))
theorem tl_5 (i : Nat) {w : Cond} (h0 : tables_1_5[i]? = some w) : w ∈ lw_tbl := (have h : w ∈ tables_1_5 := List.mem_of_getElem? h0; (show w ∈ k2_sels lw_privs ++ tables_1 from List.mem_append_right _ (List.mem_append_right _ (List.mem_append_right _ (List.mem_append_right _ (List.mem_append_right _ (List.mem_append_left _ h)))))))
theorem tl_6 (i : Nat) {w : Cond} (h0 : tables_1_6[i]? = some w) : w ∈ lw_tbl := (have h : w ∈ tables_1_6 := List.mem_of_getElem? h0; (show w ∈ k2_sels lw_privs ++ tables_1 from List.mem_append_right _ (List.mem_append_right _ (List.mem_append_right _ (List.mem_append_right _ (List.mem_append_right _ (List.mem_append_right _ (h))))))))
theorem lp_arr {s : State} {args : Array Value} {ty : FieldType} (h : (Cond.arrayClass ty).before args s = true) : ∃ c, ArrOfT s c ty ∧ s.vm.findClass ("[" ++ ty.toString) = some c := by
  obtain ⟨c, k, comp, h1, h2, h3⟩ := Cond.arrayClass_spec h
  exact ⟨c, fun n z => ⟨fun k h => (by cases h), k, h2, comp, h3⟩, h1⟩
theorem lp_over {s : State} {args : Array Value} {ty : FieldType} (h : (Cond.arrayOver (.array ty)).before args s = true) : ∃ c, ArrOfT s c (.array ty) ∧ s.vm.findClass ("[" ++ (FieldType.array ty).toString) = some c := by
  obtain ⟨comp, c, k, -, h2, h3, h1⟩ := Cond.arrayOver_specA h
  exact ⟨c, fun n z => ⟨fun k h => (by cases h), k, h2, comp, h3⟩, h1⟩
theorem lp_cls {s : State} {args : Array Value} (hts : ∀ w ∈ gd, w.before args s = true) (hall : ∀ (c : Nat) (q : vw_C), cs_L[c]? = some q → (∀ w ∈ u_ws q.1 q.2.1 q.2.2, w ∈ gd) ∧ Cond.instantiable q.1 q.2.2 ∈ gd) : ∃ D : va_G, ∀ (c : Nat) (q : vw_C), cs_L[c]? = some q → u_Kn s q.1 q.2.1 q.2.2 (D.1 c) (D.2 c) := by
  have h : ∀ c : Nat, ∃ (x : ClassId × (Nat → Nat)), ∀ q, cs_L[c]? = some q → u_Kn s q.1 q.2.1 q.2.2 x.1 x.2 := by
    intro c
    cases e : cs_L[c]? with
    | none => exact ⟨(default, fun _ => 0), fun q hq => by cases hq⟩
    | some q0 =>
      obtain ⟨h1, h2⟩ := hall c q0 e
      obtain ⟨cC, iS, h3⟩ := u_known hts h1 (hts _ h2)
      exact ⟨(cC, iS), fun q hq => by cases hq; exact h3⟩
  exact ⟨(fun c => (Classical.choose (h c)).1, fun c => (Classical.choose (h c)).2), fun c q hq => Classical.choose_spec (h c) q hq⟩
theorem lp_all : ∀ (c : Nat) (q : vw_C), cs_L[c]? = some q → (∀ w ∈ u_ws q.1 q.2.1 q.2.2, w ∈ gd) ∧ Cond.instantiable q.1 q.2.2 ∈ gd := by
  have h : ∀ q ∈ cs_L, (∀ w ∈ u_ws q.1 q.2.1 q.2.2, w ∈ gd) ∧ Cond.instantiable q.1 q.2.2 ∈ gd := List.forall_mem_cons.mpr ⟨⟨cw_0, (tm_1 22 rfl rfl)⟩, List.forall_mem_cons.mpr ⟨⟨cw_1, (tm_1 30 rfl rfl)⟩, List.forall_mem_cons.mpr ⟨⟨cw_2, (tm_1 108 rfl rfl)⟩, List.forall_mem_cons.mpr ⟨⟨cw_3, (tm_1 114 rfl rfl)⟩, List.forall_mem_cons.mpr ⟨⟨cw_4, (tm_1 127 rfl rfl)⟩, List.forall_mem_cons.mpr ⟨⟨cw_5, (tm_1 137 rfl rfl)⟩, List.forall_mem_cons.mpr ⟨⟨cw_6, (tm_1 182 rfl rfl)⟩, List.forall_mem_cons.mpr ⟨⟨cw_7, (tm_1 199 rfl rfl)⟩, List.forall_mem_cons.mpr ⟨⟨cw_8, (tm_2 5 rfl rfl)⟩, List.forall_mem_cons.mpr ⟨⟨cw_9, (tm_2 67 rfl rfl)⟩, List.forall_mem_cons.mpr ⟨⟨cw_10, (tm_4 187 rfl rfl)⟩, fun _ h => absurd h List.not_mem_nil⟩⟩⟩⟩⟩⟩⟩⟩⟩⟩⟩
  exact fun c q hq => h q (List.mem_of_getElem? hq)
section LP
variable {p : Program} {s : State} {m : MethodId} {meth : Method} {c : Code} {b L : Nat} {xs : Nat → Int32} {A : Nat → Prop}
theorem lp_K (C0 : lw_At p s m meth c b L xs) : ∃ (D : va_G) (cI cZ cG : ClassId), va_K D cs_L [(cI, .int), (cZ, .boolean), (cG, .array .int)] s := by
  obtain ⟨hx, hb, hr, hml, hown, hts, hX, hbl, hlocks, hgv⟩ := C0
  have htg : ∀ w ∈ gd, w.before #[Value.ref b] s = true := fun w h => hts w (gd_lw w h)
  obtain ⟨D, hD⟩ := lp_cls htg lp_all
  obtain ⟨cI, i1, i2⟩ := lp_arr (htg _ bn_wI)
  obtain ⟨cZ, z1, z2⟩ := lp_arr (htg _ bn_wZ)
  obtain ⟨cG, g1, g2⟩ := lp_over (hts _ (tl_1 143 rfl))
  refine ⟨D, cI, cZ, cG, hD, fun k q hq => ?_⟩
  match k with
  | 0 => cases hq; exact ⟨i1, i2⟩
  | 1 => cases hq; exact ⟨z1, z2⟩
  | 2 => cases hq; exact ⟨g1, g2⟩
  | k + 3 => cases hq
theorem lp_N (C0 : lw_At p s m meth c b L xs) : bm_N bn_ne s := by
  obtain ⟨hx, hb, hr, hml, hown, hts, hX, hbl, hlocks, hgv⟩ := C0
  exact ⟨List.forall_mem_cons.mpr ⟨va_Nw.of rfl (hts _ (tl_1 31 rfl)), List.forall_mem_cons.mpr ⟨va_Nw.of rfl (hts _ (tl_1 115 rfl)), fun _ h => absurd h List.not_mem_nil⟩⟩, (by
    have h := hts _ (tl_1 143 rfl)
    first | exact h | simpa only [Cond.before, Cond.holds, Cond.value] using h)⟩
theorem lp_hN (C0 : lw_At p s m meth c b L xs) : hx_N hs_cs hs_ns s := by
  obtain ⟨hx, hb, hr, hml, hown, hts, hX, hbl, hlocks, hgv⟩ := C0
  have hs := flat_of_before _ hgv
  exact ⟨List.forall_mem_cons.mpr ⟨va_Nw.of rfl (hts _ (tl_3 195 rfl)), List.forall_mem_cons.mpr ⟨va_Nw.of rfl (hts _ (tl_4 29 rfl)), List.forall_mem_cons.mpr ⟨va_Nw.of rfl (hts _ (tl_4 107 rfl)), fun _ h => absurd h List.not_mem_nil⟩⟩⟩, List.forall_mem_cons.mpr ⟨va_Nc.of (hs _ (by decide +kernel)), List.forall_mem_cons.mpr ⟨va_Nc.of (hs _ (by decide +kernel)), List.forall_mem_cons.mpr ⟨va_Nc.of (hs _ (by decide +kernel)), List.forall_mem_cons.mpr ⟨va_Nc.of (hs _ (by decide +kernel)), List.forall_mem_cons.mpr ⟨va_Nc.of (hs _ (by decide +kernel)), List.forall_mem_cons.mpr ⟨va_Nc.of (hs _ (by decide +kernel)), fun _ h => absurd h List.not_mem_nil⟩⟩⟩⟩⟩⟩⟩
theorem lp_str {k : Nat} {args : Array Value} (h : (Cond.exactly (.string "HouseDesk" k) "java/lang/String").before args s = true) : ∃ a : Nat, (Term.string "HouseDesk" k).eval args s none [] s = some (.ref a) := by
  obtain ⟨a2, c, cA, kA, q1, -⟩ := Cond.exactly_spec (args := args) (first := s) (o := none) (s := s) (idx := []) (t := .string "HouseDesk" k) (cls := "java/lang/String") h
  exact ⟨a2, q1⟩
theorem lp_mN (C0 : lw_At p s m meth c b L xs) : ∃ sa : Nat → Nat, ∀ A : Nat → Prop, (∀ a : Nat, a < s.heap.size → ¬ A a) → mx_N xs_dc xs_st sa A s s.heap := by
  obtain ⟨hx, hb, hr, hml, hown, hts, hX, hbl, hlocks, hgv⟩ := C0
  have hs := flat_of_before _ hgv
  obtain ⟨a38, e38⟩ := lp_str (k := 38) (hs _ (by decide +kernel))
  obtain ⟨a53, e53⟩ := lp_str (k := 53) (hs _ (by decide +kernel))
  obtain ⟨a60, e60⟩ := lp_str (k := 60) (hs _ (by decide +kernel))
  obtain ⟨a69, e69⟩ := lp_str (k := 69) (hs _ (by decide +kernel))
  obtain ⟨a75, e75⟩ := lp_str (k := 75) (hs _ (by decide +kernel))
  obtain ⟨a81, e81⟩ := lp_str (k := 81) (hs _ (by decide +kernel))
  obtain ⟨a93, e93⟩ := lp_str (k := 93) (hs _ (by decide +kernel))
  obtain ⟨a118, e118⟩ := lp_str (k := 118) (hs _ (by decide +kernel))
  obtain ⟨a130, e130⟩ := lp_str (k := 130) (hs _ (by decide +kernel))
  obtain ⟨a138, e138⟩ := lp_str (k := 138) (hs _ (by decide +kernel))
  obtain ⟨a155, e155⟩ := lp_str (k := 155) (hs _ (by decide +kernel))
  obtain ⟨a170, e170⟩ := lp_str (k := 170) (hs _ (by decide +kernel))
  obtain ⟨a187, e187⟩ := lp_str (k := 187) (hs _ (by decide +kernel))
  refine ⟨fun k => (mm_look [(38, a38), (53, a53), (60, a60), (69, a69), (75, a75), (81, a81), (93, a93), (118, a118), (130, a130), (138, a138), (155, a155), (170, a170), (187, a187)] k).getD 0, fun A hA => ⟨?_, ?_, ?_, ?_⟩⟩
  · exact List.forall_mem_cons.mpr ⟨va_Nw.of rfl (hts _ (tl_3 198 rfl)), List.forall_mem_cons.mpr ⟨va_Nw.of rfl (hts _ (tl_3 199 rfl)), List.forall_mem_cons.mpr ⟨va_Nw.of rfl (hts _ (tl_3 196 rfl)), List.forall_mem_cons.mpr ⟨va_Nw.of rfl (hts _ (tl_3 197 rfl)), List.forall_mem_cons.mpr ⟨va_Nw.of rfl (hts _ (tl_3 200 rfl)), List.forall_mem_cons.mpr ⟨va_Nw.of rfl (hts _ (tl_3 201 rfl)), fun _ h => absurd h List.not_mem_nil⟩⟩⟩⟩⟩⟩
  · exact List.forall_mem_cons.mpr ⟨vk_R.of (hts _ (tl_3 234 rfl)) e38, List.forall_mem_cons.mpr ⟨vk_R.of (hts _ (tl_4 36 rfl)) e53, List.forall_mem_cons.mpr ⟨vk_R.of (hts _ (tl_4 54 rfl)) e60, List.forall_mem_cons.mpr ⟨vk_R.of (hts _ (tl_4 56 rfl)) e69, List.forall_mem_cons.mpr ⟨vk_R.of (hts _ (tl_4 68 rfl)) e75, List.forall_mem_cons.mpr ⟨vk_R.of (hts _ (tl_4 80 rfl)) e81, List.forall_mem_cons.mpr ⟨vk_R.of (hts _ (tl_4 92 rfl)) e93, List.forall_mem_cons.mpr ⟨vk_R.of (hts _ (tl_4 121 rfl)) e118, List.forall_mem_cons.mpr ⟨vk_R.of (hts _ (tl_4 129 rfl)) e130, List.forall_mem_cons.mpr ⟨vk_R.of (hts _ (tl_4 141 rfl)) e138, List.forall_mem_cons.mpr ⟨vk_R.of (hts _ (tl_4 155 rfl)) e155, List.forall_mem_cons.mpr ⟨vk_R.of (hts _ (tl_4 168 rfl)) e170, List.forall_mem_cons.mpr ⟨vk_R.of (hts _ (tl_4 114 rfl)) e187, fun _ h => absurd h List.not_mem_nil⟩⟩⟩⟩⟩⟩⟩⟩⟩⟩⟩⟩⟩
  · exact mx_Z.of (hts _ (tl_3 220 rfl)) (hs _ (by decide +kernel)) hA
  · exact mx_Z.of (hts _ (tl_3 222 rfl)) (hs _ (by decide +kernel)) hA
theorem lp_G (C0 : lw_At p s m meth c b L xs) : ∃ t : Nat, ∀ A : Nat → Prop, (∀ a : Nat, a < s.heap.size → ¬ A a) → va_Z "HouseDesk$Layout" "DIRECTION" "[I" (.ref t) A s s.heap ∧ va_T .int t 4 mm_tab A s s.heap := by
  obtain ⟨hx, hb, hr, hml, hown, hts, hX, hbl, hlocks, hgv⟩ := C0
  have hs := flat_of_before _ hgv
  have hlen := va_eqt (t := .length (.static "HouseDesk$Layout" "DIRECTION" "[I")) (z := 4) (hs _ (by decide +kernel))
  have k0 := va_eqt (t := .elem (.static "HouseDesk$Layout" "DIRECTION" "[I") (.int 0)) (z := 2) (hs _ (by decide +kernel))
  have k1 := va_eqt (t := .elem (.static "HouseDesk$Layout" "DIRECTION" "[I") (.int 1)) (z := 0) (hs _ (by decide +kernel))
  have k2 := va_eqt (t := .elem (.static "HouseDesk$Layout" "DIRECTION" "[I") (.int 2)) (z := 3) (hs _ (by decide +kernel))
  have k3 := va_eqt (t := .elem (.static "HouseDesk$Layout" "DIRECTION" "[I") (.int 3)) (z := 1) (hs _ (by decide +kernel))
  have key : ∀ A : Nat → Prop, (∀ a : Nat, a < s.heap.size → ¬ A a) → ∃ t : Nat, (Term.static "HouseDesk$Layout" "DIRECTION" "[I").eval #[Value.ref b] s none [] s = some (.ref t) ∧ va_T .int t 4 mm_tab A s s.heap := fun A hA => va_Tof (N := 4) (by decide) (hs _ (by decide +kernel)) hlen (fun j hj => by
    match j with
    | 0 => exact k0
    | 1 => exact k1
    | 2 => exact k2
    | 3 => exact k3
    | j + 4 => omega) hA
  obtain ⟨t, ht, -⟩ := key (fun _ => False) (fun _ _ h => h)
  refine ⟨t, fun A hA => ⟨va_Zref (hts _ (tl_3 128 rfl)) (hts _ (tl_1 8 rfl)) ht hA, ?_⟩⟩
  obtain ⟨t2, h2, h3⟩ := key A hA
  cases Option.some.inj (ht.symm.trans h2)
  exact h3
end LP

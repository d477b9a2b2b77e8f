/-! a constructor's run -/
theorem bm_fits_ref (ty : FieldType) (a b : Nat) : fits ty (.ref a) = fits ty (.ref b) := by cases ty <;> rfl
theorem bm_narrow_ref (ty : FieldType) (a : Nat) : narrow ty (.ref a) = .ref a := by cases ty <;> rfl
theorem bm_fit {ty : FieldType} {v : Value} (ad : Nat → Nat) (h1 : fits ty v = true) (h2 : narrow ty v = v) : fits ty (mm_rho ad v) = true ∧ narrow ty (mm_rho ad v) = mm_rho ad v := by
  cases v with
  | ref k => exact ⟨(bm_fits_ref ty _ _).trans h1, bm_narrow_ref ty _⟩
  | _ => exact ⟨h1, h2⟩
theorem bm_map_set (ad : Nat → Nat) : ∀ (vs : List Value) (j : Nat) (v : Value), (mm_set vs j v).map (mm_rho ad) = (vs.map (mm_rho ad)).set j (mm_rho ad v)
  | [], _, _ => rfl
  | _ :: _, 0, _ => rfl
  | a :: r, j + 1, v => by simp [mm_set, bm_map_set ad r j v]
theorem bm_rho0 {ad : Nat → Nat} {vs : List Value} (h : vs.all (bm_rok 0) = true) : vs.map (mm_rho ad) = vs := by
  have h1 : vs.map (mm_rho ad) = vs.map id := by
    apply List.map_congr_left
    intro v hv
    have := List.all_eq_true.mp h v hv
    cases v with
    | ref k => simp [bm_rok, Nat.blt] at this
    | _ => rfl
  rw [h1, List.map_id]
theorem bm_ag {ad : Nat → Nat} {N q : Nat} : ∀ k, k < N → bm_ad ad N q k = ad k := fun _ h => bm_ad_lt h
theorem bm_ad_at {ad : Nat → Nat} {N q : Nat} : bm_ad ad N q N = q := by rw [bm_ad_ge (Nat.le_refl _)]; omega
theorem bm_push {ad : Nat → Nat} {a3 : ClassId × ClassId × ClassId} {κ : List bm_K} {c : bm_K} {q : Nat} {e : va_E} (h : κ.zipIdx.all (bm_cok κ.length) = true) (he : bm_ce (bm_ad ad κ.length q) a3 κ.length c = e) : bm_wd (bm_ad ad κ.length q) a3 (κ ++ [c]) = bm_wd ad a3 κ ++ [(q, e)] := by
  rw [bm_wd_app, bm_wd_ad h]
  simp only [List.zipIdx_cons, List.zipIdx_nil, List.map_cons, List.map_nil, bm_ad_at, he]
theorem bm_ok_el {κ : List bm_K} {L : List (Option Value)} {S : List Value} (h : bm_ok κ L S = true) : κ.zipIdx.all (bm_cok κ.length) = true ∧ L.all (bm_lok κ.length) = true ∧ S.all (bm_rok κ.length) = true := by
  unfold bm_ok at h
  rw [Bool.and_eq_true, Bool.and_eq_true] at h
  exact h
theorem bm_rows (ad : Nat → Nat) (a3 : ClassId × ClassId × ClassId) (N q k : Nat) : ∀ (n i : Nat), ((List.replicate n ((1, k, [], bm_z) : bm_K)).zipIdx (N + 1 + i)).map (fun x => (bm_ad ad N q x.2, bm_ce (bm_ad ad N q) a3 x.2 x.1)) = ((List.range n).map (fun j => (q + 1 + (i + j), (Sum.inl (a3.1, k, .inl bm_z) : va_E))))
  | 0, _ => rfl
  | n + 1, i => by
    have h := bm_rows ad a3 N q k n (i + 1)
    rw [List.replicate_succ, List.zipIdx_cons, List.map_cons, List.range_succ_eq_map, List.map_cons, List.map_map]
    rw [show N + 1 + i + 1 = N + 1 + (i + 1) by omega, h]
    congr 1
    · rw [bm_ad_ge (by omega)]
      show (q + (N + 1 + i - N), (Sum.inl (a3.1, k, .inl bm_z) : va_E)) = _
      congr 1
      omega
    · apply List.map_congr_left
      intro j _
      show (q + 1 + (i + 1 + j), _) = (q + 1 + (i + (j + 1)), _)
      congr 1
      omega
section BMstep
variable {p : Program} {l : Launch} {e : Env} {R : Room} {s : State} {m : MethodId} {args : Array Value} {below : List Frame} {meth : Method} {c : Code} {D : va_G} {cl : List vw_C} {A : Nat → Prop} {ad0 : Nat → Nat} {cI cZ cG : ClassId} {n0 s0 nL : Nat} {M : bm_M} {cc : ByteArray} {Ts : List Cond} {own : String} {Qf : State → Prop} {ty : Nat → Nat → FieldType}
set_option maxHeartbeats 4000000 in
theorem bm_sstep (hx : p.tables.exec = Jvm.exec) (hb : c.code = cc) (hown : s.vm.findClass own = some m.cls) (hts : ∀ w ∈ Ts, w.before args s = true) (hK : va_K D cl [(cI, .int), (cZ, .boolean), (cG, .array .int)] s) (hA : ∀ q, s.heap.size ≤ q → A q) (hin2 : meth.name = "<init>")
    (hover : (Cond.arrayOver (.array .int)).before #[] s = true) (hwI : Cond.arrayClass .int ∈ Ts) (hwZ : Cond.arrayClass .boolean ∈ Ts)
    (hnw : ∀ q ∈ M.2.1, bm_nok cl Ts own q) (hpt : ∀ q ∈ M.2.2.1, bm_pok ty cl Ts own q)
    {i : ClassFile.Instr} {cs : Int32} {pc pc' : Nat} {L L' : List (Option Value)} {S S' : List Value} {κ κ' : List bm_K} (hok : bm_okE cc (pc, i, cs) = true) (hmn : ∀ idx, i = .multianewarray idx 2 → Cond.classLink own idx "[[I" ∈ Ts)
    (hst : bm_step ty M i cs pc L S κ = some (pc', L', S', κ')) (hn0 : n0 ≤ κ.length) (hs0 : s0 ≤ bm_sl κ) (hRc : κ'.length - n0 ≤ R.cells) (hRs : bm_sl κ' - s0 ≤ R.slots)
    (hV : bm_V p l e R s m args below meth c D cl A ad0 (cI, cZ, cG) n0 s0 nL Qf pc' L' S' κ') : bm_V p l e R s m args below meth c D cl A ad0 (cI, cZ, cG) n0 s0 nL Qf pc L S κ := by
  unfold bm_okE at hok
  rw [Bool.and_eq_true] at hok
  obtain ⟨hdg, hcs⟩ := hok
  have hdg := of_decide_eq_true hdg
  intro ad H locs ls hag hP hD hS hl
  unfold bm_step at hst
  split at hst
  · rename_i k
    split at hst
    · rename_i x hx1
      cases hst
      exact lv_aload_n hx hb hdg rfl (mm_lh_at hl hx1) (hV ad H locs ls hag hP hD hS hl)
    · cases hst
  · cases hst
    exact lv_iconst hx hb hdg (of_decide_eq_true hcs) (hV ad H locs ls hag hP hD hS hl)
  · cases hst
    exact lv_bipush hx hb hdg (of_decide_eq_true hcs) (hV ad H locs ls hag hP hD hS hl)
  · cases hst
    exact lv_sipush hx hb hdg (of_decide_eq_true hcs) (hV ad H locs ls hag hP hD hS hl)
  · split at hst
    · rename_i v r
      split at hst
      · rename_i hc
        cases hst
        have hcat : v.category = 1 := by cases v <;> first | rfl | cases hc
        exact lv_dup hx hb hdg (by rw [mm_rho_cat]; exact hcat) (hV ad H locs ls hag hP hD hS hl)
      · cases hst
    · cases hst
  · rename_i idx
    split at hst
    · rename_i ci vs hlk
      split at hst
      · rename_i hbo
        cases hst
        obtain ⟨hk1, hk2, hk3⟩ := bm_ok_el hbo
        obtain ⟨C0, T, N, tf, hc, hlen, hin, hcl, hins, hini, htf, hdf, h0⟩ := hnw _ (mm_look_mem hlk)
        dsimp only at hc hlen hcl hdf h0
        have e1 : (κ ++ [((0, ci, vs, bm_z) : bm_K)]).length - n0 = κ.length - n0 + 1 := by rw [List.length_append]; simp; omega
        have e2 : bm_sl (κ ++ [((0, ci, vs, bm_z) : bm_K)]) - s0 = bm_sl κ - s0 + N := by rw [bm_sl_app]; simp [bm_sl, bm_s1] at hs0 ⊢; omega
        refine va_new (ci := ci) (fs := vs) (C := C0) (T := T) (N := N) hx hb hts hin tf htf hown (hts _ hcl) (hts _ hins) (hts _ hini) hK hP hD hS hA hc hdf (by rw [← e1]; exact hRc) (by rw [← e2]; exact hRs) hdg (fun q H1 hP1 hD1 hS1 => ?_)
        have hw := bm_push (ad := ad) (a3 := (cI, cZ, cG)) (c := ((0, ci, vs, bm_z) : bm_K)) (q := q) (e := .inr (ci, vs)) hk1 (by simp only [bm_ce, bm_rho0 h0])
        have h9 := hV (bm_ad ad κ.length q) H1 locs ls (fun k hk => (bm_ag k (by omega)).trans (hag k hk)) (by rw [hw]; exact hP1) (by rw [hw]; exact hD1) hS1 (bm_lh_ag bm_ag hk2 hl)
        rw [e1, e2, List.map_cons, bm_map_ag bm_ag hk3] at h9
        simp only [mm_rho, bm_ad_at] at h9
        exact h9
      · cases hst
    · cases hst
  · rename_i t
    split at hst
    · rename_i n r
      split at hst
      · rename_i hbo
        rw [Bool.and_eq_true] at hbo
        obtain ⟨hk1, hk2, hk3⟩ := bm_ok_el hbo.1
        obtain ⟨hn1, hn2⟩ := of_decide_eq_true hbo.2
        have hle := bm_clamp hn2
        split at hst
        · cases hst
          have e1 : (κ ++ [((1, n.toNatClampNeg, [], bm_z) : bm_K)]).length - n0 = κ.length - n0 + 1 := by rw [List.length_append]; simp; omega
          have e2 : bm_sl (κ ++ [((1, n.toNatClampNeg, [], bm_z) : bm_K)]) - s0 = bm_sl κ - s0 + n.toNatClampNeg := by rw [bm_sl_app]; simp [bm_sl, bm_s1] at hs0 ⊢; omega
          refine va_newa (atype := .int) (ty := .int) (a0 := (n.toNatClampNeg, .inl bm_z)) hx hb (hts _ hwI) rfl hK hP hD hS hA (fun cA => rfl) (bm_nlt hn1) rfl (by show n.toNatClampNeg * 4 ≤ _; omega) (by rw [← e1]; exact hRc) (by rw [← e2]; exact hRs) hdg (fun q cA H1 hK1 hP1 hD1 hS1 => ?_)
          have hcA : cA = cI := by
            have h1 : s.vm.findClass ("[" ++ FieldType.int.toString) = some cA := (hK1.2 3 (cA, .int) rfl).2
            have h2 : s.vm.findClass ("[" ++ FieldType.int.toString) = some cI := (hK.2 0 (cI, .int) rfl).2
            exact Option.some.inj (h1.symm.trans h2)
          subst hcA
          have hw := bm_push (ad := ad) (a3 := (cA, cZ, cG)) (c := ((1, n.toNatClampNeg, [], bm_z) : bm_K)) (q := q) (e := .inl (cA, n.toNatClampNeg, .inl bm_z)) hk1 rfl
          have h9 := hV (bm_ad ad κ.length q) H1 locs ls (fun k hk => (bm_ag k (by omega)).trans (hag k hk)) (by rw [hw]; exact hP1) (by rw [hw]; exact hD1) hS1 (bm_lh_ag bm_ag hk2 hl)
          rw [e1, e2, List.map_cons, bm_map_ag bm_ag hk3] at h9
          simp only [mm_rho, bm_ad_at] at h9
          exact h9
        · cases hst
          have e1 : (κ ++ [((2, n.toNatClampNeg, [], bm_z) : bm_K)]).length - n0 = κ.length - n0 + 1 := by rw [List.length_append]; simp; omega
          have e2 : bm_sl (κ ++ [((2, n.toNatClampNeg, [], bm_z) : bm_K)]) - s0 = bm_sl κ - s0 + n.toNatClampNeg := by rw [bm_sl_app]; simp [bm_sl, bm_s1] at hs0 ⊢; omega
          refine va_newa (atype := .boolean) (ty := .boolean) (a0 := (n.toNatClampNeg, .inl bm_z)) hx hb (hts _ hwZ) rfl hK hP hD hS hA (fun cA => rfl) (bm_nlt hn1) rfl (by show n.toNatClampNeg * 1 ≤ _; omega) (by rw [← e1]; exact hRc) (by rw [← e2]; exact hRs) hdg (fun q cA H1 hK1 hP1 hD1 hS1 => ?_)
          have hcA : cA = cZ := by
            have h1 : s.vm.findClass ("[" ++ FieldType.boolean.toString) = some cA := (hK1.2 3 (cA, .boolean) rfl).2
            have h2 : s.vm.findClass ("[" ++ FieldType.boolean.toString) = some cZ := (hK.2 1 (cZ, .boolean) rfl).2
            exact Option.some.inj (h1.symm.trans h2)
          subst hcA
          have hw := bm_push (ad := ad) (a3 := (cI, cA, cG)) (c := ((2, n.toNatClampNeg, [], bm_z) : bm_K)) (q := q) (e := .inl (cA, n.toNatClampNeg, .inl bm_z)) hk1 rfl
          have h9 := hV (bm_ad ad κ.length q) H1 locs ls (fun k hk => (bm_ag k (by omega)).trans (hag k hk)) (by rw [hw]; exact hP1) (by rw [hw]; exact hD1) hS1 (bm_lh_ag bm_ag hk2 hl)
          rw [e1, e2, List.map_cons, bm_map_ag bm_ag hk3] at h9
          simp only [mm_rho, bm_ad_at] at h9
          exact h9
        · cases hst
      · cases hst
    · cases hst
  · rename_i idx
    split at hst
    · rename_i k n r
      split at hst
      · rename_i hbo
        cases hst
        rw [Bool.and_eq_true] at hbo
        obtain ⟨hk1, hk2, hk3⟩ := bm_ok_el hbo.1
        obtain ⟨⟨hn1, hn2⟩, hm1, hm2⟩ := of_decide_eq_true hbo.2
        have e1 : (κ ++ (((3, n.toNatClampNeg, [], bm_z) : bm_K) :: List.replicate n.toNatClampNeg ((1, k.toNatClampNeg, [], bm_z) : bm_K))).length - n0 = κ.length - n0 + 1 + n.toNatClampNeg := by rw [List.length_append]; simp; omega
        have e2 : bm_sl (κ ++ (((3, n.toNatClampNeg, [], bm_z) : bm_K) :: List.replicate n.toNatClampNeg ((1, k.toNatClampNeg, [], bm_z) : bm_K))) - s0 = bm_sl κ - s0 + n.toNatClampNeg + n.toNatClampNeg * k.toNatClampNeg := by
          have h7 := bm_sl_rep n.toNatClampNeg ((1, k.toNatClampNeg, [], bm_z) : bm_K)
          have h8 : bm_sl (((3, n.toNatClampNeg, [], bm_z) : bm_K) :: List.replicate n.toNatClampNeg ((1, k.toNatClampNeg, [], bm_z) : bm_K)) = n.toNatClampNeg + n.toNatClampNeg * k.toNatClampNeg := by
            show bm_s1 _ + bm_sl (List.replicate n.toNatClampNeg ((1, k.toNatClampNeg, [], bm_z) : bm_K)) = _
            rw [h7]
            rfl
          rw [bm_sl_app, h8]
          omega
        have hcI : s.vm.findClass "[I" = some cI := (hK.2 0 (cI, .int) rfl).2
        refine bm_mna (cI := cI) hx hb hown (hts _ (hmn _ rfl)) hover (hts _ hwI) hcI hP hD hS hA (bm_nlt hn1) (bm_nlt hm1) (bm_clamp hn2) (bm_clamp hm2) (by have := hRc; rw [e1] at this; omega) (by have := hRs; rw [e2] at this; omega) hdg (fun q cA H1 hcA hP1 hD1 hS1 => ?_)
        have hcA : cA = cG := by
          have h2 : s.vm.findClass "[[I" = some cG := (hK.2 2 (cG, .array .int) rfl).2
          exact Option.some.inj (hcA.symm.trans h2)
        subst hcA
        have hw : bm_wd (bm_ad ad κ.length q) (cI, cZ, cA) (κ ++ (((3, n.toNatClampNeg, [], bm_z) : bm_K) :: List.replicate n.toNatClampNeg ((1, k.toNatClampNeg, [], bm_z) : bm_K))) = bm_wd ad (cI, cZ, cA) κ ++ ((q, .inl (cA, n.toNatClampNeg, .inr (.inr (.inr (.inr (fun i => if i < n.toNatClampNeg then some (q + 1 + i) else none)))))) :: (List.range n.toNatClampNeg).map (fun i => (q + 1 + i, .inl (cI, k.toNatClampNeg, .inl bm_z)))) := by
          have hr := bm_rows ad (cI, cZ, cA) κ.length q k.toNatClampNeg n.toNatClampNeg 0
          rw [bm_wd_app, bm_wd_ad hk1, List.zipIdx_cons, List.map_cons]
          rw [show κ.length + 1 = κ.length + 1 + 0 by omega, hr]
          have hf : (fun j => if j < n.toNatClampNeg then some (bm_ad ad κ.length q (κ.length + 1 + j)) else none) = (fun i => if i < n.toNatClampNeg then some (q + 1 + i) else none) := by
            funext j
            by_cases hj : j < n.toNatClampNeg
            · simp only [hj, if_true]
              rw [bm_ad_ge (by omega)]
              congr 1
              omega
            · simp only [hj, if_false]
          simp only [bm_ad_at, bm_ce, Nat.zero_add, hf]
        have h9 := hV (bm_ad ad κ.length q) H1 locs ls (fun k hk => (bm_ag k (by omega)).trans (hag k hk)) (by rw [hw]; exact hP1) (by rw [hw]; exact hD1) hS1 (bm_lh_ag bm_ag hk2 hl)
        rw [e1, e2, List.map_cons, bm_map_ag bm_ag hk3] at h9
        simp only [mm_rho, bm_ad_at] at h9
        exact h9
      · cases hst
    · cases hst
  · rename_i idx
    split at hst
    · rename_i v o r
      split at hst
      · rename_i ci j hlk
        split at hst
        · rename_i ci' vs f hn
          split at hst
          · rename_i hbo
            cases hst
            rw [Bool.and_eq_true, Bool.and_eq_true, Bool.and_eq_true] at hbo
            obtain ⟨hci, hfit, hnar, hjl⟩ := hbo
            have hci := Nat.eq_of_beq_eq_true hci
            subst hci
            have hjl : j < vs.length := by simpa [Nat.blt_eq] using hjl
            obtain ⟨hf1, hf2⟩ := bm_fit ad hfit (of_decide_eq_true hnar)
            obtain ⟨C0, T, N, tf, hc, hj, hin, hli, htf, hnm, hd, hdecl⟩ := hpt _ (mm_look_mem hlk)
            dsimp only at hc hj hli hd hdecl
            have hol := mm_nth_lt hn
            have he : (bm_wd ad (cI, cZ, cG) κ)[o]? = some (ad o, .inr (ci', vs.map (mm_rho ad))) := bm_wd_get hn
            have hset : (bm_wd ad (cI, cZ, cG) κ).set o (ad o, .inr (ci', (vs.map (mm_rho ad)).set j (mm_rho ad v))) = bm_wd ad (cI, cZ, cG) (mm_set κ o (0, ci', mm_set vs j v, f)) := by
              rw [← bm_map_set]
              exact bm_wd_set (c := (0, ci', mm_set vs j v, f)) hol
            have e1 : (mm_set κ o ((0, ci', mm_set vs j v, f) : bm_K)).length = κ.length := mm_set_length _ _ _
            have e2 : bm_sl (mm_set κ o ((0, ci', mm_set vs j v, f) : bm_K)) = bm_sl κ := bm_sl_set _ _ _ _ hn (by simp [bm_s1, mm_set_length])
            have hgo : ∀ (H1 : Heap) (locs1 : List Loc), va_P D cl ((bm_wd ad (cI, cZ, cG) κ).set o (ad o, .inr (ci', (vs.map (mm_rho ad)).set j (mm_rho ad v)))) H1 → va_D A ((bm_wd ad (cI, cZ, cG) κ).set o (ad o, .inr (ci', (vs.map (mm_rho ad)).set j (mm_rho ad v)))) → va_S A s.heap H1 locs1 → W p l e R s m args below meth c H1 locs1 (κ.length - n0) (bm_sl κ - s0) Qf (F0 m (pc + 3) ls (S'.map (mm_rho ad))) := by
              intro H1 locs1 hP1 hD1 hS1
              rw [hset] at hP1 hD1
              have h9 := hV ad H1 locs1 ls hag hP1 hD1 hS1 hl
              rw [e1, e2] at h9
              exact h9
            cases hfin : (T j).2.2.2 with
            | false => exact va_put (D := D) (ref := (T j).1) (v := mm_rho ad v) hx hb hts hin tf htf hnm hown hK hP hD hS o he hc j hj (hts _ hli) (fun _ z => z) hfin hd hf2 hf1 (by rw [List.length_map]; exact hjl) hdg hgo
            | true => exact va_putF (D := D) (ref := (T j).1) (v := mm_rho ad v) hx hb hts hin tf htf hnm hown hK hP hD hS o he hc j hj (hts _ hli) (fun _ z => z) hfin hin2 hdecl hd hf2 hf1 (by rw [List.length_map]; exact hjl) hdg hgo
          · cases hst
        · cases hst
      · cases hst
    · cases hst
  · rename_i idx
    split at hst
    · rename_i o r
      split at hst
      · rename_i ci j hlk
        split at hst
        · rename_i ci' vs f hn
          split at hst
          · rename_i hci
            split at hst
            · rename_i v hv
              cases hst
              have hci := Nat.eq_of_beq_eq_true hci
              subst hci
              obtain ⟨C0, T, N, tf, hc, hj, hin, hli, htf, hnm, hd, hdecl⟩ := hpt _ (mm_look_mem hlk)
              dsimp only at hc hj hli hd hdecl
              have he : (bm_wd ad (cI, cZ, cG) κ)[o]? = some (ad o, .inr (ci', vs.map (mm_rho ad))) := bm_wd_get hn
              exact va_get (D := D) (ref := (T j).1) hx hb hts hin hown hK hP o he hc j hj (hts _ hli) (fun _ z => z) (v := mm_rho ad v) (by rw [List.getElem?_map, ← mm_nth_eq, hv]; rfl) hdg (hV ad H locs ls hag hP hD hS hl)
            · cases hst
          · cases hst
        · cases hst
      · cases hst
    · cases hst
  · split at hst
    · rename_i x j o r
      split at hst
      · rename_i n vs f hn
        split at hst
        · rename_i hbo
          cases hst
          have hin : ¬ (j < 0 ∨ n ≤ j.toNatClampNeg) := of_decide_eq_true hbo
          have hol := mm_nth_lt hn
          have he : (bm_wd ad (cI, cZ, cG) κ)[o]? = some (ad o, .inl (cI, n, .inl f)) := bm_wd_get hn
          have hset : (bm_wd ad (cI, cZ, cG) κ).set o (ad o, .inl (cI, n, .inl (upd f j.toNatClampNeg x))) = bm_wd ad (cI, cZ, cG) (mm_set κ o (1, n, vs, upd f j.toNatClampNeg x)) := bm_wd_set (c := (1, n, vs, upd f j.toNatClampNeg x)) hol
          have e1 : (mm_set κ o ((1, n, vs, upd f j.toNatClampNeg x) : bm_K)).length = κ.length := mm_set_length _ _ _
          have e2 : bm_sl (mm_set κ o ((1, n, vs, upd f j.toNatClampNeg x) : bm_K)) = bm_sl κ := bm_sl_set _ _ _ _ hn (by simp [bm_s1])
          refine va_iast hx hb hK hP hD hS o 0 he rfl hin hdg (fun H1 locs1 hP1 hD1 hS1 => ?_)
          rw [hset] at hP1 hD1
          have h9 := hV ad H1 locs1 ls hag hP1 hD1 hS1 hl
          rw [e1, e2] at h9
          exact h9
        · cases hst
      · cases hst
    · cases hst
  · cases hst
end BMstep

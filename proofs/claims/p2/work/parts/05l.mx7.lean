/-! methods that may throw -/
abbrev mx_C : Type := Nat → List Value → mm_S → mm_Q → (Nat → mm_S → Prop) → Prop
/-- th: where it throws what; xc: where it calls a method that may throw -/
def mx_one (Y : mm_Y) (C : mm_C) (CX : mx_C) (M : mm_M) (th xc : List (Nat × Nat)) (Q : mm_Q) (XQ : Nat → mm_S → Prop) (X : mm_X) : mm_X := fun pc L S σ => match mm_look th pc with
  | some E => mm_c1 8 S = true ∧ XQ E σ
  | none => match mm_look xc pc with
    | some y => match S with
      | [.ref k] => mm_rcv Y 1 0 [.ref k] = true ∧ CX y [.ref k] σ (fun v σ' => X (pc + 3) L v.toList σ') XQ
      | _ => False
    | none => mm_one Y C M Q X pc L S σ
def mx_W (Y : mm_Y) (C : mm_C) (CX : mx_C) (M : mm_M) (th xc : List (Nat × Nat)) (Q : mm_Q) (XQ : Nat → mm_S → Prop) : mm_X := fun pc L S σ => ∀ X : mm_X, (∀ pc L S σ, mx_one Y C CX M th xc Q XQ X pc L S σ → X pc L S σ) → X pc L S σ
def mx_site (Ts : List Cond) (dc : List MethodName) (st : mx_St) (exn : Nat → String) (cc : ByteArray) (own : String) (q : Nat × Nat) : Prop := ∃ (ik is ic ix : Nat) (text Yn : String) (names : List String) (by1 : ByteArray),
  (decode cc q.1 = .ok (.new ik, 3) ∧ decode cc (q.1 + 3) = .ok (.dup, 1) ∧ decode cc (q.1 + 4) = .ok (.ldc is, 2) ∧ decode cc (q.1 + 6) = .ok (.invokespecial ic, 3) ∧ decode cc (q.1 + 9) = .ok (.athrow, 1)) ∧
  (Bundle.fit (exn q.2) = true ∧ Bundle.fit Yn = true ∧ (∀ n ∈ names, Bundle.fit n = true) ∧ names.length ≤ 1) ∧
  (decode by1 0 = .ok (.aload_n 0, 1) ∧ decode by1 1 = .ok (.aload_n 1, 1) ∧ decode by1 2 = .ok (.invokespecial ix, 3) ∧ decode by1 5 = .ok (.return_, 1)) ∧
  Cond.classLink own ik (exn q.2) ∈ Ts ∧ Cond.initialized (exn q.2) ∈ Ts ∧ (own, is, text) ∈ st ∧
  (∀ w ∈ mx_at own ic (exn q.2) Yn ix by1 names, w ∈ Ts ∨ (∃ x ∈ dc, w = .declares x) ∨ w = .laysStatic Bundle.tN "UNASSIGNED_STACK" Bundle.steD ∨ w = .laysStatic Bundle.tN "SUPPRESSED_SENTINEL" Bundle.listD ∨ w = .isRef (.static Bundle.tN "UNASSIGNED_STACK" Bundle.steD) ∨ w = .isRef (.static Bundle.tN "SUPPRESSED_SENTINEL" Bundle.listD))
def mx_xok (Ts : List Cond) (nm : Nat → MethodName) (by_ : Nat → ByteArray) (mx : Nat → Nat) (cl : List vw_C) (cc : ByteArray) (own : String) (q : Nat × Nat) : Prop := ∃ (idx : Nat), decode cc q.1 = .ok (.invokevirtual idx, 3) ∧ mx q.2 ≤ 21 ∧ Cond.code (nm q.2) (by_ q.2) (mx q.2) none ∈ Ts ∧ Cond.methodLink own idx (nm q.2) ∈ Ts ∧ Cond.initialized (nm q.2).cls ∈ Ts ∧
  ((nm q.2).cls ≠ "java/lang/invoke/MethodHandle" ∧ (nm q.2).cls ≠ "java/lang/invoke/VarHandle") ∧ (parseMethodDescriptor (nm q.2).desc).map (fun d => d.parameters.length) = some 0 ∧ Cond.instanceMethod (nm q.2) ∈ Ts ∧ Cond.selects (nm q.2).cls (nm q.2) (nm q.2) ∈ Ts ∧ ∃ T N, cl[0]? = some ((nm q.2).cls, T, N)
def mx_rm (d : Nat) : Room := { frames := d + 8, cells := 1, slots := 6, locals := 40 * d + 200 }
def mx_ws (Ts : List Cond) (nm : Nat → MethodName) (by_ : Nat → ByteArray) (mx : Nat → Nat) (ret : Nat) (y : Nat) : List Cond := .code (nm y) (by_ y) (mx y) (mm_rty ret) :: Ts
def mx_T (l : Launch) (Ts : List Cond) (nm : Nat → MethodName) (by_ : Nat → ByteArray) (mx : Nat → Nat) (D : va_G) (cl : List vw_C) (tys : List (ClassId × FieldType)) (ad : Nat → Nat) (a3 : ClassId × ClassId × ClassId) (Y : mm_Y) (dc : List MethodName) (st : mx_St) (sa : Nat → Nat) (exn : Nat → String) (ret d y : Nat) (as : List Value) (σ : mm_S) (Q : mm_Q) (XQ : Nat → mm_S → Prop) : Prop :=
  ∀ sz, MetFree l (nm y) (headSpec (mx_ws Ts nm by_ mx ret y) (mx_rm d)) (va_Pc (as.map (mm_rho ad)) (fun U => mm_B D cl tys ad a3 Y σ sz U ∧ mx_N dc st sa (va_A (mm_wd ad a3 Y σ) sz) U U.heap)) (fun _ _ _ _ _ => True) (mx_Q D cl tys (va_A (mm_wd ad a3 Y σ) sz) ad a3 Y exn Q XQ)
theorem mx_nostat {D : va_G} {cl : List vw_C} {ws : va_W} {H : Heap} (hP : va_P D cl ws H) {q : Nat} {cell : Cell} (h : va_A ws H.size q) (hc : H[q]? = some cell) : cell.vm.isStatics = false := by
  rcases h with ⟨k, e9, h9⟩ | h9
  · have h8 := hP k (q, e9) h9
    cases e9 with
    | inl a =>
      have h7 : H[q]? = some (vp_cell a.1 a.2) := h8
      cases Option.some.inj (hc.symm.trans h7)
      obtain ⟨cA, n, z⟩ := a
      rcases z with z | z | z | z | z <;> rfl
    | inr o =>
      obtain ⟨r, -, cell', h1, -, h3, -⟩ := h8
      cases Option.some.inj (hc.symm.trans h1)
      rw [h3]; rfl
  · have := (Array.getElem?_eq_some_iff.mp hc).1
    omega
section MXs
variable {l : Launch} {Ts : List Cond} {nm : Nat → MethodName} {by_ : Nat → ByteArray} {mx : Nat → Nat} {D : va_G} {cl : List vw_C} {cI cZ cG : ClassId} {ad : Nat → Nat} {Y : mm_Y} {B : mm_C} {yM ym d : Nat} {dc : List MethodName} {st : mx_St} {sa : Nat → Nat} {exn : Nat → String} {nx : Nat → MethodName} {bx : Nat → ByteArray} {mxx : Nat → Nat}
set_option maxHeartbeats 4000000 in
theorem mx_sound (hl : l.stackTraces = false) (hgood : ∀ w ∈ Ts, goodWord w = true)
    (hMn : nm yM = Lib.Math.max.name ∧ by_ yM = Lib.Math.max.code ∧ mx yM = 2 ∧ (mm_me Y yM).2.2.2.2 = 1 ∧ (mm_me Y yM).1 = []) (hmn : nm ym = Lib.Math.min.name ∧ by_ ym = Lib.Math.min.code ∧ mx ym = 2 ∧ (mm_me Y ym).2.2.2.2 = 1 ∧ (mm_me Y ym).1 = [])
    (hB : ∀ y as σ Q, B y as σ Q → (y ≠ yM ∧ y ≠ ym ∧ ∀ d, mm_T l Ts nm by_ mx D cl [(cI, .int), (cZ, .boolean), (cG, .array .int)] ad (cI, cZ, cG) Y d y as σ Q) ∨ (y = yM ∧ ∃ x z, as = [.int x, .int z] ∧ Q (some (.int (if x < z then z else x))) σ) ∨ (y ≠ yM ∧ y = ym ∧ ∃ x z, as = [.int x, .int z] ∧ Q (some (.int (if z < x then z else x))) σ))
    (hTT : ∀ y as σ Q, y ≠ yM → y ≠ ym → mm_D Y B mx d y as σ Q → mm_T l Ts nm by_ mx D cl [(cI, .int), (cZ, .boolean), (cG, .array .int)] ad (cI, cZ, cG) Y d y as σ Q)
    {y : Nat} {M : mm_M} {th xc : List (Nat × Nat)} {CX : mx_C} {as : List Value} {σ : mm_S} {Q : mm_Q} {XQ : Nat → mm_S → Prop}
    (hpl : plainName (nx y).cls = true) (hE : M.1.all (mm_okE (bx y)) = true) (hg : ∀ q ∈ M.2.1, mm_gok cl Ts (nx y).cls q.1 q.2.1 q.2.2) (hp : ∀ q ∈ M.2.2.1, mm_pok Y cl Ts (nx y).cls q.1 q.2.1 q.2.2) (hk : ∀ q ∈ M.2.2.2.1, mm_kok Ts nm by_ mx cl Y (nx y).cls q)
    (hld : ∀ (pc idx len t : Nat) (v : Int32), mm_look M.1 pc = some (.ldc_w idx, len, t, v) → Cond.constant (nx y).cls idx v ∈ Ts) (hth : ∀ q ∈ th, mx_site Ts dc st exn (bx y) (nx y).cls q) (hxc : ∀ q ∈ xc, mx_xok Ts nx bx mxx cl (bx y) (nx y).cls q)
    (hCX : ∀ y' as' σ' Q' XQ', CX y' as' σ' Q' XQ' → ∃ d', d' < d ∧ mx_T l Ts nx bx mxx D cl [(cI, .int), (cZ, .boolean), (cG, .array .int)] ad (cI, cZ, cG) Y dc st sa exn 0 d' y' as' σ' Q' XQ')
    (hc1 : mm_c1 (mxx y) as = true) (h : mx_W Y (mm_D Y B mx d) CX M th xc Q XQ 0 (mm_ent (mxx y) as) [] σ) :
    mx_T l Ts nx bx mxx D cl [(cI, .int), (cZ, .boolean), (cG, .array .int)] ad (cI, cZ, cG) Y dc st sa exn M.2.2.2.2 d y as σ Q XQ := by
  obtain ⟨hlen, hcat⟩ := mm_c1_el hc1
  intro sz
  refine MetFree.of_bodyS (code := bx y) (maxLocals := mxx y) (ret := mm_rty M.2.2.2.2) hpl ?_ ?_
  · intro args s m hpre hn
    obtain ⟨meth, c, h1, h2, h3, h4, h5, h6, -, -⟩ := Cond.code_spec hn (atoms_spec (ws := mx_ws Ts nx bx mxx M.2.2.2.2 y) hpre _ List.mem_cons_self)
    exact ⟨meth, c, h1, h2, h3, h4, h5, h6⟩
  intro p e s m args below meth c s₁ B0 hml hv _
  obtain ⟨rfl, ⟨hsz, hP, hK, hD0, hG0⟩, hN⟩ := hv
  have hh0 : s₁.heap = s.heap := by rw [B0.state]; rfl
  have hts0 := atoms_spec (ws := mx_ws Ts nx bx mxx M.2.2.2.2 y) B0.pre
  have hout : ∀ (pc : Nat), ∀ x ∈ c.exceptionTable.toList, covers x pc = false := by
    obtain ⟨meth9, c9, h1, h2, -, -, -, -, h7, -⟩ := Cond.code_spec B0.named (hts0 _ List.mem_cons_self)
    cases Option.some.inj (h1.symm.trans B0.method)
    cases Option.some.inj (h2.symm.trans (Stand.of_body B0).code)
    intro pc x hx
    rw [Array.isEmpty_iff.mp h7] at hx
    cases hx
  have hx := B0.exec
  have hb := B0.bytes
  have hr := B0.returns
  have hlocks := B0.notSynchronized
  have hts : ∀ w ∈ Ts, w.before (as.map (mm_rho ad)).toArray s = true := fun w hw => hts0 w (List.mem_cons_of_mem _ hw)
  have hown : s.vm.findClass (nx y).cls = some m.cls := findClass_of_methodNamed B0.named
  have hG : ∀ y', Cond.code (nm y') (by_ y') (mx y') (mm_rty (mm_me Y y').2.2.2.2) ∈ Ts → GoodIn Ts (mm_ws Ts nm by_ mx Y y') := fun y' hy' w hw => by
    rcases List.mem_cons.mp hw with h9 | h9
    · subst h9
      exact ⟨hy', good_of_word (hgood _ hy')⟩
    · exact ⟨h9, good_of_word (hgood _ h9)⟩
  subst hsz
  have hD := hD0.self (sz := s.heap.size)
  have hA : ∀ q, s.heap.size ≤ q → va_A (mm_wd ad (cI, cZ, cG) Y σ) s.heap.size q := fun q h => Or.inr h
  have hcat' : ∀ v ∈ as.map (mm_rho ad), v.category = 1 := fun v hv => by
    obtain ⟨w, hw, rfl⟩ := List.mem_map.mp hv
    rw [mm_rho_cat]
    exact hcat w hw
  have hl0 := lv_entry (as.map (mm_rho ad)) (n := mxx y) (by rw [mm_sl_len _ hcat', List.length_map]; exact hlen)
  have body : W p l e (mx_rm d) s m (as.map (mm_rho ad)).toArray below meth c s.heap [] 0 0 (fun t => ∃ o, t.status = .running ∧ Ended t below o ∧ mx_Q D cl [(cI, .int), (cZ, .boolean), (cG, .array .int)] (va_A (mm_wd ad (cI, cZ, cG) Y σ) s.heap.size) ad (cI, cZ, cG) Y exn Q XQ (as.map (mm_rho ad)).toArray s o t) (entryFrame m (as.map (mm_rho ad)).toArray (mxx y)) := by
    rw [lg_entry_eq]
    generalize (lg_sl (as.map (mm_rho ad)) ++ List.replicate (mxx y - (lg_sl (as.map (mm_rho ad))).length) Slot.unset).toArray = ls0 at hl0 ⊢
    have hlh : mm_lh ad ls0 (mxx y) (mm_ent (mxx y) as) := by
      refine ⟨?_, ?_, fun k v hk => hcat v (mm_nth_ent hk)⟩
      · unfold mm_ent
        rw [mm_args_ll ad as 0 _ hcat]
        exact hl0
      · unfold mm_ent
        rw [List.length_append, List.length_map, List.length_replicate]
        omega
    have hQf : ∀ t, MQ below (mm_Qc D cl [(cI, .int), (cZ, .boolean), (cG, .array .int)] (va_A (mm_wd ad (cI, cZ, cG) Y σ) s.heap.size) ad (cI, cZ, cG) Y Q) (as.map (mm_rho ad)).toArray s 0 0 (va_A (mm_wd ad (cI, cZ, cG) Y σ) s.heap.size) t → ∃ o, t.status = .running ∧ Ended t below o ∧ mx_Q D cl [(cI, .int), (cZ, .boolean), (cG, .array .int)] (va_A (mm_wd ad (cI, cZ, cG) Y σ) s.heap.size) ad (cI, cZ, cG) Y exn Q XQ (as.map (mm_rho ad)).toArray s o t := by
      rintro t ⟨o, hrun, hend, ⟨⟨v, σ9, hq, ho, hP9, hD9, hK9⟩, hF9⟩, L, ⟨-, hW9, hs9⟩, hL⟩
      exact ⟨o, hrun, hend, Or.inl ⟨v, σ9, L, ho, hq, hP9, hD9, hK9, hF9, hW9, hs9, hL⟩⟩
    have hV := h (mm_V p l e (mx_rm d) s m (as.map (mm_rho ad)).toArray below meth c D cl (va_A (mm_wd ad (cI, cZ, cG) Y σ) s.heap.size) ad (cI, cZ, cG) Y (mxx y) (fun t => ∃ o, t.status = .running ∧ Ended t below o ∧ mx_Q D cl [(cI, .int), (cZ, .boolean), (cG, .array .int)] (va_A (mm_wd ad (cI, cZ, cG) Y σ) s.heap.size) ad (cI, cZ, cG) Y exn Q XQ (as.map (mm_rho ad)).toArray s o t)) ?_
    · exact hV s.heap [] ls0 hP hD va_S.rf hlh
    intro pc L S σ1 hone
    unfold mx_one at hone
    split at hone
    · rename_i E hlk
      obtain ⟨hc8, hXQ⟩ := hone
      obtain ⟨hr8, hrcat⟩ := mm_c1_el hc8
      obtain ⟨ik, is, ic, ix, text, Yn, names, by1, ⟨d0, d3, d4, d6, d9⟩, ⟨f1, f2, f3, f4⟩, ⟨e0, e1, e2, e5⟩, hclk, hini, hst, hat⟩ := hth _ (mm_look_mem hlk)
      dsimp only at d0 d3 d4 d6 d9 f1 hclk hini hat
      intro H locs ls hP1 hD1 hS1 hl1
      have hvk := hN.2.1 _ hst
      refine mx_throw (A := va_A (mm_wd ad (cI, cZ, cG) Y σ) s.heap.size) (ik := ik) (is := is) (ic := ic) (ix := ix) (text := text) (Yn := Yn) (names := names) (by1 := by1) (cls := exn E) (sa := sa is) hx hb hl hown f1 f2 f3 e0 e1 e2 e5 (hts _ hclk) (hts _ hini) hvk.1 hvk.2 ?_ ?_ hS1 hA (hl1.1.1.trans hml.symm) d0 d3 d4 d6 d9 (hout _) (by show names.length + 4 < d + 8; omega) (by show ((S.map (mm_rho ad)).map fun v => v.category).sum + _ ≤ 40 * d + 200; rw [mm_cat_le ad S hrcat]; omega) (by show 0 + 1 ≤ 1; omega) (by show 0 + 6 ≤ 6; omega) hlocks ?_
      · intro w hw
        rcases hat w hw with h1 | ⟨x, hx1, rfl⟩ | rfl | rfl | rfl | rfl
        · exact hts w h1
        · exact va_Nw.use rfl (hN.1 x hx1)
        · exact hN.2.2.1.lays
        · exact hN.2.2.2.lays
        · exact hN.2.2.1.isRef
        · exact hN.2.2.2.isRef
      · intro x hx1 cell hcell
        exact mx_nostat hP (hS1.2.2 x hx1) hcell
      · intro U q ce L9 hrun hend hW hsm hL9 hce hcv hcl hgr hold
        refine ⟨.threw q, hrun, hend, Or.inr ⟨q, E, σ1, ce, L9, rfl, hXQ, hce, hcv, hcl, ?_, hD1, va_K.moved hW.alike hK, ⟨Nat.le_trans hS1.1 hgr, fun x h1 h2 => ?_⟩, hW, hsm, hL9⟩⟩
        · exact hP1.kept (fun k x hk => hold x.1 ((hP1 k x hk).lt))
        · rw [hold x (Nat.lt_of_lt_of_le h1 hS1.1)]
          exact hS1.2.1 x h1 h2
    · split at hone
      · rename_i y' hlk
        split at hone
        · rename_i k
          obtain ⟨hrc, hcx⟩ := hone
          obtain ⟨k9, r9, fs, ek, hkd, -⟩ := mm_rcv_el hrc
          cases ek
          obtain ⟨idx, hdg, hmx, hcode, hlink, hini, hnm, hdesc, hinst, hsel, Tc, Nc, hclc⟩ := hxc _ (mm_look_mem hlk)
          dsimp only at hdg hmx hcode hlink hini hnm hdesc hinst hsel hclc
          obtain ⟨d', hdd, hT⟩ := hCX _ _ _ _ _ hcx
          intro H locs ls hP1 hD1 hS1 hl1
          have he : (mm_wd ad (cI, cZ, cG) Y σ1)[k]? = some (ad k, .inr (0, mm_fv ad (σ1 k) 0 fs)) := by
            rw [mm_wd_get (mm_kd_lt (by rw [hkd]; exact fun z => nomatch z))]; simp only [mm_ce, hkd]
          have hws : ∀ w ∈ mx_ws Ts nx bx mxx 0 y', ∀ (a' : Array Value) (U : State), s.WarmedH U.vm → w.before a' U = true := fun w hw a' U hW => by
            rcases List.mem_cons.mp hw with h9 | h9
            · subst h9
              exact word_at hW (good_of_word (hgood _ hcode)) (hts _ hcode)
            · exact word_at hW (good_of_word (hgood _ h9)) (hts _ h9)
          refine mx_callV (A1 := va_A (mm_wd ad (cI, cZ, cG) Y σ1) H.size) (n := 0) (b := ad k) (As := []) (rest := []) (rm := mx_rm d') hx hb hown (hts _ hlink) (hts _ hinst) (hts _ hsel) (hts _ hcode) (fun a' U hW => word_at hW (good_of_word (hgood _ hini)) (hts _ hini)) hnm hdesc rfl (hT H.size) hws (va_recv hK hP1 hclc he)
            (fun U g mk hU hW => ⟨rfl, ⟨by show U.heap.size = H.size; rw [hU], by show va_P D cl _ U.heap; rw [hU]; exact hP1, va_K.moved (u := U) (U := U.calling g mk _) (Vm.Alike.refl U.vm) (va_K.moved hW.alike hK), hD1.weaken (fun _ _ _ _ => trivial), mm_G.moved (u := U) (U := U.calling g mk _) (Vm.Alike.refl U.vm) (by show mm_G ad _ U U.heap; rw [hU]; exact ((hG0.kept hS1.2.1).narrow (fun q h8 => mm_A_in h8 hS1.1)).moved hW.alike)⟩, by
              have h9 : mx_N dc st sa (va_A (mm_wd ad (cI, cZ, cG) Y σ1) H.size) U U.heap := by
                rw [hU]
                exact ((hN.kept hS1.2.1).narrow (fun q hq h8 => mm_A_in h8 hS1.1)).moved hW
              exact mx_N.same (u := U) rfl h9⟩)
            (hl1.1.1.trans hml.symm) (by simp) hdg (by show d' + 8 + 1 ≤ d + 8; omega) (by show 8 + (mxx y' + 11) + (40 * d' + 200) ≤ 40 * d + 200; omega) (by show 0 + 1 ≤ 1; omega) (by show 0 + 6 ≤ 6; omega) hS1 (fun q hq => mm_A_in hq hS1.1) ?_ ?_
          · intro v σ' H1 locs1 hq hP2 hD2 hS2 hgr hkeep
            have h9 := hq H1 locs1 ls hP2 (hD2.weaken (fun _ _ _ h8 => mm_A_in h8 hS1.1)) hS2 hl1
            have h8 : (v.map (mm_rho ad)).toList ++ [] = v.toList.map (mm_rho ad) := by cases v <;> rfl
            rw [h8]
            exact h9
          · intro q E σ' ce H1 locs1 hxq hce hcv hcl hP2 hD2 hS2 hgr hkeep
            refine mx_out (hout _) hlocks (fun U hrun hend hW hsm hU => ⟨.threw q, hrun, hend, Or.inr ⟨q, E, σ', ce, locs1, rfl, hxq, by rw [hU]; exact hce, hcv, hcl, by rw [hU]; exact hP2, hD2.weaken (fun _ _ _ h8 => mm_A_in h8 hS1.1), va_K.moved hW.alike hK, ?_, hW, hsm, hS2.2.2⟩⟩)
            exact hS2.F hU
        · exact hone.elim
      · exact mm_step (own := (nx y).cls) (Ts := Ts) hQf hx hb hown hts hK rfl rfl rfl hr hlocks hE (fun idx ci j hq => hg _ (mm_look_mem hq)) (fun idx ci j hq => hp _ (mm_look_mem hq)) hld
          (mx_hc1 hMn hmn hB hTT hx hb hml hown hts hK hG hk (by show d + 1 ≤ d + 8; omega) (by show 40 * (d + 1) ≤ 40 * d + 200; omega) hG0)
          (mx_hc0 hMn hmn hB hTT hx hb hml hown hts hK hG hk (by show d + 1 ≤ d + 8; omega) (by show 40 * (d + 1) ≤ 40 * d + 200; omega) hG0) pc L S σ1 hone
  obtain ⟨t, a1, o, b1, b2, b3⟩ := body s₁ hh0 (Stand.of_body B0)
  exact ⟨t, o, a1, b1, b2, b3⟩
end MXs

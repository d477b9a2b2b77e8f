/-! calls of the small machine's methods out of the law's walk -/
theorem lx_Dad {A : Nat → Prop} {ws ws' : va_W} (h : ∀ i : Nat, (ws'[i]?).map (fun q => q.1) = (ws[i]?).map (fun q => q.1)) (hD : va_D A ws) : va_D A ws' := by
  have key : ∀ (i : Nat) (q : Nat × va_E), ws'[i]? = some q → ∃ q0, ws[i]? = some q0 ∧ q0.1 = q.1 := by
    intro i q hq
    have h1 := h i
    rw [hq] at h1
    cases e : ws[i]? with
    | none => rw [e] at h1; cases h1
    | some q0 =>
      rw [e] at h1
      exact ⟨q0, rfl, (Option.some.inj h1).symm⟩
  refine ⟨fun i j x y hx hy hxy => ?_, fun i q hq => ?_⟩
  · obtain ⟨x0, a1, a2⟩ := key i x hx
    obtain ⟨y0, b1, b2⟩ := key j y hy
    exact hD.1 i j x0 y0 a1 b1 (by rw [a2, b2]; exact hxy)
  · obtain ⟨q0, a1, a2⟩ := key i q hq
    rw [← a2]
    exact hD.2 i q0 a1
theorem lx_wd_ad {ad : Nat → Nat} {a3 : ClassId × ClassId × ClassId} {Y : mm_Y} {ext ext' : va_W} {σ σ' : mm_S} (he : ext'.map (fun q => q.1) = ext.map (fun q => q.1)) : ∀ i : Nat, ((lx_wd ad a3 Y ext' σ')[i]?).map (fun q => q.1) = ((lx_wd ad a3 Y ext σ)[i]?).map (fun q => q.1) := by
  intro i
  rw [← List.getElem?_map, ← List.getElem?_map]
  unfold lx_wd mm_wd
  simp only [List.map_append, List.map_map, he]
  rfl
/-- behind a call: the callee's cells, and those beside, which stay -/
theorem lx_join {D : va_G} {cl : List vw_C} {A : Nat → Prop} {ad : Nat → Nat} {a3 : ClassId × ClassId × ClassId} {Y : mm_Y} {ext : va_W} {σ σ' : mm_S} {H H1 : Heap} (hP : va_P D cl (lx_wd ad a3 Y ext σ) H) (hD : va_D A (lx_wd ad a3 Y ext σ)) (hP1 : va_P D cl (mm_wd ad a3 Y σ') H1)
    (hk : ∀ q : Nat, q < H.size → ¬ va_A (mm_wd ad a3 Y σ) H.size q → H1[q]? = H[q]?) : va_P D cl (lx_wd ad a3 Y ext σ') H1 ∧ va_D A (lx_wd ad a3 Y ext σ') := by
  refine ⟨va_P.app hP1 (fun k q hq => ?_), lx_Dad (lx_wd_ad rfl) hD⟩
  have hin : (lx_wd ad a3 Y ext σ)[(mm_wd ad a3 Y σ).length + k]? = some q := by
    unfold lx_wd
    rw [List.getElem?_append_right (by omega)]
    rw [show (mm_wd ad a3 Y σ).length + k - (mm_wd ad a3 Y σ).length = k by omega]
    exact hq
  have h1 := hP _ q hin
  refine h1.kept (hk q.1 h1.lt (fun h => ?_))
  rcases h with ⟨j, e9, h9⟩ | h9
  · have hl := (List.getElem?_eq_some_iff.mp h9).1
    have h8 : (lx_wd ad a3 Y ext σ)[j]? = some (q.1, e9) := by
      unfold lx_wd
      rw [List.getElem?_append_left hl]
      exact h9
    have := hD.1 _ _ _ _ hin h8 rfl
    omega
  · have := h1.lt
    omega
section LXg
variable {p : Program} {l : Launch} {e : Env} {R : Room} {s : State} {m : MethodId} {args : Array Value} {below : List Frame} {meth : Method} {c : Code} {D : va_G} {cl : List vw_C} {A A1 : Nat → Prop} {ad : Nat → Nat} {a3 : ClassId × ClassId × ClassId} {Y : mm_Y} {Q' : mm_Q} {Qf : State → Prop} {tys : List (ClassId × FieldType)} {H : Heap} {locs : List Loc} {pc ce sl : Nat} {ls : Array Slot} {st0 rest : List Value} {arr : Array Value}
theorem lx_goon (hr : va_Run p l e R s m args below meth c H locs ce sl 0 0 (F0 m pc ls st0) rest (mm_Qc D cl tys A1 ad a3 Y Q' arr) A1) (hS : va_S A s.heap H locs) (hA1 : ∀ q, A1 q → A q)
    (kk : ∀ (v : Option Value) (σ' : mm_S) (H1 : Heap) (locs1 : List Loc), Q' v σ' → va_P D cl (mm_wd ad a3 Y σ') H1 → va_S A s.heap H1 locs1 → H.size ≤ H1.size → (∀ q : Nat, q < H.size → ¬ A1 q → H1[q]? = H[q]?) → W p l e R s m args below meth c H1 locs1 ce sl Qf (F0 m (pc + 3) ls ((v.map (mm_rho ad)).toList ++ rest))) :
    W p l e R s m args below meth c H locs ce sl Qf (F0 m pc ls st0) := by
  intro T hT X
  obtain ⟨v, st₀, t, T', L, h0, X', hL, e1, e2, ⟨⟨v', σ', hq, hv, hP1, hD1, hK1⟩, hz, hk⟩, st⟩ := hr T hT X
  cases hv
  rw [h0] at hz hk
  rw [← e1] at hP1 hz hk
  obtain ⟨t2, a1, b1⟩ := kk v' σ' T'.heap (locs ++ L) hq hP1
    ⟨Nat.le_trans hS.1 hz, fun q h1 h2 => by rw [hk q (Nat.lt_of_lt_of_le h1 hS.1) (fun z => h2 (hA1 q z))]; exact hS.2.1 q h1 h2, fun q hq => by
      rcases List.mem_append.mp hq with h | h
      · exact hS.2.2 q h
      · exact hA1 _ (hL q h)⟩ hz hk T' rfl X'
  exact ⟨t2, st t2 a1, b1⟩
end LXg
section LXh
variable {l : Launch} {Ts : List Cond} {nm : Nat → MethodName} {by_ : Nat → ByteArray} {mx : Nat → Nat} {D : va_G} {cl : List vw_C} {cI cZ cG : ClassId} {ad : Nat → Nat} {Y : mm_Y} {B : mm_C} {yM ym : Nat}
variable {p : Program} {e : Env} {R : Room} {s : State} {m : MethodId} {args : Array Value} {below : List Frame} {meth : Method} {c : Code} {cc : ByteArray} {own : String} {nL d : Nat} {M : mm_M} {Qf : State → Prop} {A : Nat → Prop} {ext : va_W} {ce sl : Nat}
set_option maxHeartbeats 4000000 in
theorem lx_hc1
    (hMn : nm yM = Lib.Math.max.name ∧ by_ yM = Lib.Math.max.code ∧ mx yM = 2 ∧ (mm_me Y yM).2.2.2.2 = 1 ∧ (mm_me Y yM).1 = []) (hmn : nm ym = Lib.Math.min.name ∧ by_ ym = Lib.Math.min.code ∧ mx ym = 2 ∧ (mm_me Y ym).2.2.2.2 = 1 ∧ (mm_me Y ym).1 = [])
    (hB : ∀ y as σ Q, B y as σ Q → (y ≠ yM ∧ y ≠ ym ∧ ∀ d, mm_T l Ts nm by_ mx D cl [(cI, .int), (cZ, .boolean), (cG, .array .int)] ad (cI, cZ, cG) Y d y as σ Q) ∨ (y = yM ∧ ∃ x z, as = [.int x, .int z] ∧ Q (some (.int (if x < z then z else x))) σ) ∨ (y ≠ yM ∧ y = ym ∧ ∃ x z, as = [.int x, .int z] ∧ Q (some (.int (if z < x then z else x))) σ))
    (hTT : ∀ y as σ Q, y ≠ yM → y ≠ ym → mm_D Y B mx d y as σ Q → mm_T l Ts nm by_ mx D cl [(cI, .int), (cZ, .boolean), (cG, .array .int)] ad (cI, cZ, cG) Y d y as σ Q)
    (hx : p.tables.exec = Jvm.exec) (hb : c.code = cc) (hml : c.maxLocals = nL) (hown : s.vm.findClass own = some m.cls) (hts : ∀ w ∈ Ts, w.before args s = true) (hK : va_K D cl [(cI, .int), (cZ, .boolean), (cG, .array .int)] s)
    (hG : ∀ y', Cond.code (nm y') (by_ y') (mx y') (mm_rty (mm_me Y y').2.2.2.2) ∈ Ts → GoodIn Ts (mm_ws Ts nm by_ mx Y y')) (hk : ∀ q ∈ M.2.2.2.1, mm_kok Ts nm by_ mx cl Y own q) (hRf : d + 1 ≤ R.frames) (hRl : 40 * (d + 1) ≤ R.locals) (hA : ∀ q, s.heap.size ≤ q → A q) (hce : ce ≤ R.cells) (hsl : sl ≤ R.slots) (hG0 : mm_G ad A s s.heap) :
    ∀ (pc idx : Nat) (L : List (Option Value)) (S : List Value) (σ1 : mm_S), decode cc pc = .ok (.invokevirtual idx, 3) → mm_call Y (mm_D Y B mx d) M idx 1 S σ1 (fun S' σ' => lx_V p l e R s m args below meth c D cl A ad (cI, cZ, cG) Y nL Qf ext ce sl (pc + 3) L S' σ') → lx_V p l e R s m args below meth c D cl A ad (cI, cZ, cG) Y nL Qf ext ce sl pc L S σ1 := by
  intro pc idx L S σ1 hdg hcall
  obtain ⟨y', n, ci, as', r, hlk, rfl, hln, hc8, hrc, hC⟩ := mm_call_el hcall
  obtain ⟨k, as2, fs, rfl, hkd, hci⟩ := mm_rcv_el hrc
  obtain ⟨hmx, hcode, hlink, hini, hd, -, hvir⟩ := hk _ (mm_look_mem hlk)
  obtain ⟨hinst, hsel, Tc, Nc, hclc⟩ := hvir hci
  obtain ⟨hr8, hrcat⟩ := mm_c1_el hc8
  have hnB : ∀ (Q9 : mm_Q), mm_D Y B mx d y' (.ref k :: as2) σ1 Q9 → y' ≠ yM ∧ y' ≠ ym := by
    intro Q9 h9
    have hbb : ∀ y9, (mm_me Y y9).1 = [] → mm_D Y B mx d y9 (.ref k :: as2) σ1 Q9 → B y9 (.ref k :: as2) σ1 Q9 := by
      intro y9 he h8
      cases d with
      | zero => exact h8
      | succ d => exact h8.elim id (fun h7 => (mm_W_nil he h7.2).elim)
    constructor
    · intro e9
      subst e9
      rcases hB _ _ _ _ (hbb _ hMn.2.2.2.2 h9) with ⟨h7, -⟩ | ⟨-, x, z, h7, -⟩ | ⟨h7, -⟩
      · exact h7 rfl
      · cases h7
      · exact h7 rfl
    · intro e9
      subst e9
      rcases hB _ _ _ _ (hbb _ hmn.2.2.2.2 h9) with ⟨-, h7, -⟩ | ⟨-, x, z, h7, -⟩ | ⟨-, -, x, z, h7, -⟩
      · exact h7 rfl
      · cases h7
      · cases h7
  have hT := hTT y' (.ref k :: as2) σ1 _ (hnB _ hC).1 (hnB _ hC).2 hC
  intro H locs ls hP1 hD1 hS1 hl1
  have hPm : va_P D cl (mm_wd ad (cI, cZ, cG) Y σ1) H := fun k q hk => hP1 k q (by unfold lx_wd; rw [List.getElem?_append_left (List.getElem?_eq_some_iff.mp hk).1]; exact hk)
  have hDm : va_D A (mm_wd ad (cI, cZ, cG) Y σ1) := ⟨fun i j x y hx hy => hD1.1 i j x y (by unfold lx_wd; rw [List.getElem?_append_left (List.getElem?_eq_some_iff.mp hx).1]; exact hx) (by unfold lx_wd; rw [List.getElem?_append_left (List.getElem?_eq_some_iff.mp hy).1]; exact hy), fun k q hk => hD1.2 k q (by unfold lx_wd; rw [List.getElem?_append_left (List.getElem?_eq_some_iff.mp hk).1]; exact hk)⟩
  have hA1 : ∀ q, va_A (mm_wd ad (cI, cZ, cG) Y σ1) H.size q → A q := fun q hq => by
    rcases hq with ⟨k9, e9, h9⟩ | h9
    · exact hDm.2 k9 (q, e9) h9
    · exact hA q (Nat.le_trans hS1.1 h9)
  have hM := hT H.size
  have he : (mm_wd ad (cI, cZ, cG) Y σ1)[k]? = some (ad k, .inr (ci, mm_fv ad (σ1 k) 0 fs)) := by
    rw [mm_wd_get (mm_kd_lt (by rw [hkd]; exact fun z => nomatch z))]; simp only [mm_ce, hkd]
  have hstk : ((Value.ref k :: as2).reverse ++ r).map (mm_rho ad) = (as2.map (mm_rho ad)).reverse ++ .ref (ad k) :: r.map (mm_rho ad) := by
    simp [mm_rho]
  rw [hstk]
  refine lx_goon (va_runV (C := (nm y').cls) (b := ad k) (As := as2.map (mm_rho ad)) (rest := r.map (mm_rho ad)) (n := n) ⟨hx, hb, hml, hown, hts⟩ hM ⟨callB_of n hts (hG y' hcode) rfl rfl rfl (hts _ hini) (hts _ hlink) hd ⟨hRf, by show 8 + (mx y' + 11) + 40 * d ≤ R.locals; have := hmx; dsimp only at this; omega⟩, hts _ hinst, hts _ hsel⟩
    ⟨fun a U g mk q => by obtain ⟨q0, q1, qP, qK, qD, qG⟩ := q; exact ⟨q0, q1, qP, va_K.moved (u := U) (U := U.calling g mk a) (Vm.Alike.refl U.vm) qK, qD, mm_G.moved (u := U) (U := U.calling g mk a) (Vm.Alike.refl U.vm) qG⟩, va_recv hK hPm hclc he, fun U hU hW => ⟨rfl, by rw [hU], by rw [hU]; exact hPm, va_K.moved hW.alike hK, hDm.weaken (fun _ _ _ _ => trivial), by rw [hU]; exact ((hG0.kept hS1.2.1).narrow hA1).moved hW.alike⟩⟩
    rfl (by rw [List.length_map]; simp only [List.length_cons] at hln; omega) hl1.1.1 rfl (lv_room (by rw [mm_cat_le ad r hrcat]; exact hr8)) hdg ⟨hce, hsl⟩) hS1 hA1 (fun v σ' H1 locs1 hq hP2 hS2 hgr hkeep => ?_)
  rw [mm_rho_toList]
  obtain ⟨hP3, hD3⟩ := lx_join hP1 hD1 hP2 hkeep
  exact hq H1 locs1 ls hP3 hD3 hS2 hl1
set_option maxHeartbeats 4000000 in
theorem lx_hc0
    (hMn : nm yM = Lib.Math.max.name ∧ by_ yM = Lib.Math.max.code ∧ mx yM = 2 ∧ (mm_me Y yM).2.2.2.2 = 1 ∧ (mm_me Y yM).1 = []) (hmn : nm ym = Lib.Math.min.name ∧ by_ ym = Lib.Math.min.code ∧ mx ym = 2 ∧ (mm_me Y ym).2.2.2.2 = 1 ∧ (mm_me Y ym).1 = [])
    (hB : ∀ y as σ Q, B y as σ Q → (y ≠ yM ∧ y ≠ ym ∧ ∀ d, mm_T l Ts nm by_ mx D cl [(cI, .int), (cZ, .boolean), (cG, .array .int)] ad (cI, cZ, cG) Y d y as σ Q) ∨ (y = yM ∧ ∃ x z, as = [.int x, .int z] ∧ Q (some (.int (if x < z then z else x))) σ) ∨ (y ≠ yM ∧ y = ym ∧ ∃ x z, as = [.int x, .int z] ∧ Q (some (.int (if z < x then z else x))) σ))
    (hTT : ∀ y as σ Q, y ≠ yM → y ≠ ym → mm_D Y B mx d y as σ Q → mm_T l Ts nm by_ mx D cl [(cI, .int), (cZ, .boolean), (cG, .array .int)] ad (cI, cZ, cG) Y d y as σ Q)
    (hx : p.tables.exec = Jvm.exec) (hb : c.code = cc) (hml : c.maxLocals = nL) (hown : s.vm.findClass own = some m.cls) (hts : ∀ w ∈ Ts, w.before args s = true) (hK : va_K D cl [(cI, .int), (cZ, .boolean), (cG, .array .int)] s)
    (hG : ∀ y', Cond.code (nm y') (by_ y') (mx y') (mm_rty (mm_me Y y').2.2.2.2) ∈ Ts → GoodIn Ts (mm_ws Ts nm by_ mx Y y')) (hk : ∀ q ∈ M.2.2.2.1, mm_kok Ts nm by_ mx cl Y own q) (hRf : d + 1 ≤ R.frames) (hRl : 40 * (d + 1) ≤ R.locals) (hA : ∀ q, s.heap.size ≤ q → A q) (hce : ce ≤ R.cells) (hsl : sl ≤ R.slots) (hG0 : mm_G ad A s s.heap) :
    ∀ (pc idx : Nat) (L : List (Option Value)) (S : List Value) (σ1 : mm_S), decode cc pc = .ok (.invokestatic idx, 3) → mm_call Y (mm_D Y B mx d) M idx 0 S σ1 (fun S' σ' => lx_V p l e R s m args below meth c D cl A ad (cI, cZ, cG) Y nL Qf ext ce sl (pc + 3) L S' σ') → lx_V p l e R s m args below meth c D cl A ad (cI, cZ, cG) Y nL Qf ext ce sl pc L S σ1 := by
  intro pc idx L S σ1 hdg hcall
  obtain ⟨y', n, ci, as', r, hlk, rfl, hln, hc8, hrc, hC⟩ := mm_call_el hcall
  obtain ⟨hmx, hcode, hlink, hini, hd, hst, -⟩ := hk _ (mm_look_mem hlk)
  obtain ⟨hr8, hrcat⟩ := mm_c1_el hc8
  have h99 : ci = 99 := Nat.eq_of_beq_eq_true hrc
  have hbb : ∀ y9 Q9, (mm_me Y y9).1 = [] → mm_D Y B mx d y9 as' σ1 Q9 → B y9 as' σ1 Q9 := by
    intro y9 Q9 he h8
    cases d with
    | zero => exact h8
    | succ d => exact h8.elim id (fun h7 => (mm_W_nil he h7.2).elim)
  by_cases hyM : y' = yM
  · subst hyM
    rcases hB _ _ _ _ (hbb _ _ hMn.2.2.2.2 hC) with ⟨h7, -⟩ | ⟨-, x, z, rfl, hq⟩ | ⟨h7, -⟩
    · exact absurd rfl h7
    · intro H locs ls hP1 hD1 hS1 hl1
      have hq' := hq H locs ls hP1 hD1 hS1 hl1
      have hst' := hts _ (hst h99)
      have hlink' := hts _ hlink
      have hini' := hts _ hini
      have hcode' := hts _ hcode
      dsimp only at hst' hlink' hini' hcode'
      rw [hMn.1] at hst' hlink' hini'
      rw [hMn.1, hMn.2.1, hMn.2.2.1, hMn.2.2.2.1] at hcode'
      exact va_mmax hx hb (hml.trans hl1.1.1.symm) hown hlink' hst' hini' hcode' (by omega) (by show ((r.map (mm_rho ad)).map fun v => v.category).sum + 13 ≤ R.locals; rw [mm_cat_le ad r hrcat]; omega) hce hsl hdg hq'
    · exact absurd rfl h7
  by_cases hym : y' = ym
  · subst hym
    rcases hB _ _ _ _ (hbb _ _ hmn.2.2.2.2 hC) with ⟨-, h7, -⟩ | ⟨h7, -⟩ | ⟨-, -, x, z, rfl, hq⟩
    · exact absurd rfl h7
    · exact absurd h7 hyM
    · intro H locs ls hP1 hD1 hS1 hl1
      have hq' := hq H locs ls hP1 hD1 hS1 hl1
      have hst' := hts _ (hst h99)
      have hlink' := hts _ hlink
      have hini' := hts _ hini
      have hcode' := hts _ hcode
      dsimp only at hst' hlink' hini' hcode'
      rw [hmn.1] at hst' hlink' hini'
      rw [hmn.1, hmn.2.1, hmn.2.2.1, hmn.2.2.2.1] at hcode'
      exact va_mmin hx hb (hml.trans hl1.1.1.symm) hown hlink' hst' hini' hcode' (by omega) (by show ((r.map (mm_rho ad)).map fun v => v.category).sum + 13 ≤ R.locals; rw [mm_cat_le ad r hrcat]; omega) hce hsl hdg hq'
  have hT := hTT y' as' σ1 _ hyM hym hC
  intro H locs ls hP1 hD1 hS1 hl1
  have hPm : va_P D cl (mm_wd ad (cI, cZ, cG) Y σ1) H := fun k q hk => hP1 k q (by unfold lx_wd; rw [List.getElem?_append_left (List.getElem?_eq_some_iff.mp hk).1]; exact hk)
  have hDm : va_D A (mm_wd ad (cI, cZ, cG) Y σ1) := ⟨fun i j x y hx hy => hD1.1 i j x y (by unfold lx_wd; rw [List.getElem?_append_left (List.getElem?_eq_some_iff.mp hx).1]; exact hx) (by unfold lx_wd; rw [List.getElem?_append_left (List.getElem?_eq_some_iff.mp hy).1]; exact hy), fun k q hk => hD1.2 k q (by unfold lx_wd; rw [List.getElem?_append_left (List.getElem?_eq_some_iff.mp hk).1]; exact hk)⟩
  have hA1 : ∀ q, va_A (mm_wd ad (cI, cZ, cG) Y σ1) H.size q → A q := fun q hq => by
    rcases hq with ⟨k9, e9, h9⟩ | h9
    · exact hDm.2 k9 (q, e9) h9
    · exact hA q (Nat.le_trans hS1.1 h9)
  have hM := hT H.size
  have hstk : (as'.reverse ++ r).map (mm_rho ad) = (as'.map (mm_rho ad)).reverse ++ r.map (mm_rho ad) := by simp
  rw [hstk]
  refine lx_goon (va_runS (As := as'.map (mm_rho ad)) (rest := r.map (mm_rho ad)) (n := n) ⟨hx, hb, hml, hown, hts⟩ hM ⟨callB_of n hts (hG y' hcode) rfl rfl rfl (hts _ hini) (hts _ hlink) hd ⟨hRf, by show 8 + (mx y' + 11) + 40 * d ≤ R.locals; have := hmx; dsimp only at this; omega⟩, hts _ (hst h99)⟩
    ⟨fun a U g mk q => by obtain ⟨q0, q1, qP, qK, qD, qG⟩ := q; exact ⟨q0, q1, qP, va_K.moved (u := U) (U := U.calling g mk a) (Vm.Alike.refl U.vm) qK, qD, mm_G.moved (u := U) (U := U.calling g mk a) (Vm.Alike.refl U.vm) qG⟩, fun U hU hW => ⟨rfl, by rw [hU], by rw [hU]; exact hPm, va_K.moved hW.alike hK, hDm.weaken (fun _ _ _ _ => trivial), by rw [hU]; exact ((hG0.kept hS1.2.1).narrow hA1).moved hW.alike⟩⟩
    rfl (by rw [List.length_map]; omega) hl1.1.1 rfl (lv_room (by rw [mm_cat_le ad r hrcat]; exact hr8)) hdg ⟨hce, hsl⟩) hS1 hA1 (fun v σ' H1 locs1 hq hP2 hS2 hgr hkeep => ?_)
  rw [mm_rho_toList]
  obtain ⟨hP3, hD3⟩ := lx_join hP1 hD1 hP2 hkeep
  exact hq H1 locs1 ls hP3 hD3 hS2 hl1
end LXh

/-! calls of the small machine's methods out of a walk with any end -/
section MXh
variable {l : Launch} {Ts : List Cond} {nm : Nat → MethodName} {by_ : Nat → ByteArray} {mx : Nat → Nat} {D : va_G} {cl : List vw_C} {cI cZ cG : ClassId} {ad : Nat → Nat} {Y : mm_Y} {B : mm_C} {yM ym : Nat}
variable {p : Program} {e : Env} {R : Room} {s : State} {m : MethodId} {args : Array Value} {below : List Frame} {meth : Method} {c : Code} {cc : ByteArray} {own : String} {nL d : Nat} {M : mm_M} {Qf : State → Prop} {σ : mm_S}
set_option maxHeartbeats 4000000 in
theorem mx_hc1
    (hMn : nm yM = Lib.Math.max.name ∧ by_ yM = Lib.Math.max.code ∧ mx yM = 2 ∧ (mm_me Y yM).2.2.2.2 = 1 ∧ (mm_me Y yM).1 = []) (hmn : nm ym = Lib.Math.min.name ∧ by_ ym = Lib.Math.min.code ∧ mx ym = 2 ∧ (mm_me Y ym).2.2.2.2 = 1 ∧ (mm_me Y ym).1 = [])
    (hB : ∀ y as σ Q, B y as σ Q → (y ≠ yM ∧ y ≠ ym ∧ ∀ d, mm_T l Ts nm by_ mx D cl [(cI, .int), (cZ, .boolean), (cG, .array .int)] ad (cI, cZ, cG) Y d y as σ Q) ∨ (y = yM ∧ ∃ x z, as = [.int x, .int z] ∧ Q (some (.int (if x < z then z else x))) σ) ∨ (y ≠ yM ∧ y = ym ∧ ∃ x z, as = [.int x, .int z] ∧ Q (some (.int (if z < x then z else x))) σ))
    (hTT : ∀ y as σ Q, y ≠ yM → y ≠ ym → mm_D Y B mx d y as σ Q → mm_T l Ts nm by_ mx D cl [(cI, .int), (cZ, .boolean), (cG, .array .int)] ad (cI, cZ, cG) Y d y as σ Q)
    (hx : p.tables.exec = Jvm.exec) (hb : c.code = cc) (hml : c.maxLocals = nL) (hown : s.vm.findClass own = some m.cls) (hts : ∀ w ∈ Ts, w.before args s = true) (hK : va_K D cl [(cI, .int), (cZ, .boolean), (cG, .array .int)] s)
    (hG : ∀ y', Cond.code (nm y') (by_ y') (mx y') (mm_rty (mm_me Y y').2.2.2.2) ∈ Ts → GoodIn Ts (mm_ws Ts nm by_ mx Y y')) (hk : ∀ q ∈ M.2.2.2.1, mm_kok Ts nm by_ mx cl Y own q) (hRf : d + 1 ≤ R.frames) (hRl : 40 * (d + 1) ≤ R.locals) (hG0 : mm_G ad (va_A (mm_wd ad (cI, cZ, cG) Y σ) s.heap.size) s s.heap) :
    ∀ (pc idx : Nat) (L : List (Option Value)) (S : List Value) (σ1 : mm_S), decode cc pc = .ok (.invokevirtual idx, 3) → mm_call Y (mm_D Y B mx d) M idx 1 S σ1 (fun S' σ' => mm_V p l e R s m args below meth c D cl (va_A (mm_wd ad (cI, cZ, cG) Y σ) s.heap.size) ad (cI, cZ, cG) Y nL Qf (pc + 3) L S' σ') → mm_V p l e R s m args below meth c D cl (va_A (mm_wd ad (cI, cZ, cG) Y σ) s.heap.size) ad (cI, cZ, cG) Y nL Qf pc L S σ1 := by
  intro pc idx L S σ1 hdg hcall
  obtain ⟨y', n, ci, as', r, hlk, rfl, hln, hc8, hrc, hC⟩ := mm_call_el hcall
  obtain ⟨k, as2, fs, rfl, hkd, hci⟩ := mm_rcv_el hrc
  obtain ⟨hmx, hcode, hlink, hini, hd, -, hvir⟩ := hk _ (mm_look_mem hlk)
  obtain ⟨hinst, hsel, Tc, Nc, hclc⟩ := hvir hci
  obtain ⟨hr8, hrcat⟩ := mm_c1_el hc8
  have hnB : ∀ (Q9 : mm_Q), mm_D Y B mx d y' (.ref k :: as2) σ1 Q9 → y' ≠ yM ∧ y' ≠ ym := by
    intro Q9 h9
    have hbb : ∀ y9, (mm_me Y y9).1 = [] → mm_D Y B mx d y9 (.ref k :: as2) σ1 Q9 → B y9 (.ref k :: as2) σ1 Q9 := by
      intro y9 he h8
      cases d with
      | zero => exact h8
      | succ d => exact h8.elim id (fun h7 => (mm_W_nil he h7.2).elim)
    constructor
    · intro e9
      subst e9
      rcases hB _ _ _ _ (hbb _ hMn.2.2.2.2 h9) with ⟨h7, -⟩ | ⟨-, x, z, h7, -⟩ | ⟨h7, -⟩
      · exact h7 rfl
      · cases h7
      · exact h7 rfl
    · intro e9
      subst e9
      rcases hB _ _ _ _ (hbb _ hmn.2.2.2.2 h9) with ⟨-, h7, -⟩ | ⟨-, x, z, h7, -⟩ | ⟨-, -, x, z, h7, -⟩
      · exact h7 rfl
      · cases h7
      · cases h7
  have hT := hTT y' (.ref k :: as2) σ1 _ (hnB _ hC).1 (hnB _ hC).2 hC
  intro H locs ls hP1 hD1 hS1 hl1
  have hM := hT H.size
  have he : (mm_wd ad (cI, cZ, cG) Y σ1)[k]? = some (ad k, .inr (ci, mm_fv ad (σ1 k) 0 fs)) := by
    rw [mm_wd_get (mm_kd_lt (by rw [hkd]; exact fun z => nomatch z))]; simp only [mm_ce, hkd]
  have hstk : ((Value.ref k :: as2).reverse ++ r).map (mm_rho ad) = (as2.map (mm_rho ad)).reverse ++ .ref (ad k) :: r.map (mm_rho ad) := by
    simp [mm_rho]
  rw [hstk]
  refine mm_goon (va_runV (C := (nm y').cls) (b := ad k) (As := as2.map (mm_rho ad)) (rest := r.map (mm_rho ad)) (n := n) ⟨hx, hb, hml, hown, hts⟩ hM ⟨callB_of n hts (hG y' hcode) rfl rfl rfl (hts _ hini) (hts _ hlink) hd ⟨hRf, by show 8 + (mx y' + 11) + 40 * d ≤ R.locals; have := hmx; dsimp only at this; omega⟩, hts _ hinst, hts _ hsel⟩
    ⟨fun a U g mk q => by obtain ⟨q0, q1, qP, qK, qD, qG⟩ := q; exact ⟨q0, q1, qP, va_K.moved (u := U) (U := U.calling g mk a) (Vm.Alike.refl U.vm) qK, qD, mm_G.moved (u := U) (U := U.calling g mk a) (Vm.Alike.refl U.vm) qG⟩, va_recv hK hP1 hclc he, fun U hU hW => ⟨rfl, by rw [hU], by rw [hU]; exact hP1, va_K.moved hW.alike hK, hD1.weaken (fun _ _ _ _ => trivial), by rw [hU]; exact ((hG0.kept hS1.2.1).narrow (fun q h8 => mm_A_in h8 hS1.1)).moved hW.alike⟩⟩
    rfl (by rw [List.length_map]; simp only [List.length_cons] at hln; omega) hl1.1.1 rfl (lv_room (by rw [mm_cat_le ad r hrcat]; exact hr8)) hdg ⟨Nat.zero_le _, Nat.zero_le _⟩) hS1 (fun q hq => mm_A_in hq hS1.1) (fun v σ' H1 locs1 hq hP2 hD2 hS2 => ?_)
  rw [mm_rho_toList]
  exact hq H1 locs1 ls hP2 hD2 hS2 hl1
set_option maxHeartbeats 4000000 in
theorem mx_hc0
    (hMn : nm yM = Lib.Math.max.name ∧ by_ yM = Lib.Math.max.code ∧ mx yM = 2 ∧ (mm_me Y yM).2.2.2.2 = 1 ∧ (mm_me Y yM).1 = []) (hmn : nm ym = Lib.Math.min.name ∧ by_ ym = Lib.Math.min.code ∧ mx ym = 2 ∧ (mm_me Y ym).2.2.2.2 = 1 ∧ (mm_me Y ym).1 = [])
    (hB : ∀ y as σ Q, B y as σ Q → (y ≠ yM ∧ y ≠ ym ∧ ∀ d, mm_T l Ts nm by_ mx D cl [(cI, .int), (cZ, .boolean), (cG, .array .int)] ad (cI, cZ, cG) Y d y as σ Q) ∨ (y = yM ∧ ∃ x z, as = [.int x, .int z] ∧ Q (some (.int (if x < z then z else x))) σ) ∨ (y ≠ yM ∧ y = ym ∧ ∃ x z, as = [.int x, .int z] ∧ Q (some (.int (if z < x then z else x))) σ))
    (hTT : ∀ y as σ Q, y ≠ yM → y ≠ ym → mm_D Y B mx d y as σ Q → mm_T l Ts nm by_ mx D cl [(cI, .int), (cZ, .boolean), (cG, .array .int)] ad (cI, cZ, cG) Y d y as σ Q)
    (hx : p.tables.exec = Jvm.exec) (hb : c.code = cc) (hml : c.maxLocals = nL) (hown : s.vm.findClass own = some m.cls) (hts : ∀ w ∈ Ts, w.before args s = true) (hK : va_K D cl [(cI, .int), (cZ, .boolean), (cG, .array .int)] s)
    (hG : ∀ y', Cond.code (nm y') (by_ y') (mx y') (mm_rty (mm_me Y y').2.2.2.2) ∈ Ts → GoodIn Ts (mm_ws Ts nm by_ mx Y y')) (hk : ∀ q ∈ M.2.2.2.1, mm_kok Ts nm by_ mx cl Y own q) (hRf : d + 1 ≤ R.frames) (hRl : 40 * (d + 1) ≤ R.locals) (hG0 : mm_G ad (va_A (mm_wd ad (cI, cZ, cG) Y σ) s.heap.size) s s.heap) :
    ∀ (pc idx : Nat) (L : List (Option Value)) (S : List Value) (σ1 : mm_S), decode cc pc = .ok (.invokestatic idx, 3) → mm_call Y (mm_D Y B mx d) M idx 0 S σ1 (fun S' σ' => mm_V p l e R s m args below meth c D cl (va_A (mm_wd ad (cI, cZ, cG) Y σ) s.heap.size) ad (cI, cZ, cG) Y nL Qf (pc + 3) L S' σ') → mm_V p l e R s m args below meth c D cl (va_A (mm_wd ad (cI, cZ, cG) Y σ) s.heap.size) ad (cI, cZ, cG) Y nL Qf pc L S σ1 := by
  intro pc idx L S σ1 hdg hcall
  obtain ⟨y', n, ci, as', r, hlk, rfl, hln, hc8, hrc, hC⟩ := mm_call_el hcall
  obtain ⟨hmx, hcode, hlink, hini, hd, hst, -⟩ := hk _ (mm_look_mem hlk)
  obtain ⟨hr8, hrcat⟩ := mm_c1_el hc8
  have h99 : ci = 99 := Nat.eq_of_beq_eq_true hrc
  have hbb : ∀ y9 Q9, (mm_me Y y9).1 = [] → mm_D Y B mx d y9 as' σ1 Q9 → B y9 as' σ1 Q9 := by
    intro y9 Q9 he h8
    cases d with
    | zero => exact h8
    | succ d => exact h8.elim id (fun h7 => (mm_W_nil he h7.2).elim)
  by_cases hyM : y' = yM
  · subst hyM
    rcases hB _ _ _ _ (hbb _ _ hMn.2.2.2.2 hC) with ⟨h7, -⟩ | ⟨-, x, z, rfl, hq⟩ | ⟨h7, -⟩
    · exact absurd rfl h7
    · intro H locs ls hP1 hD1 hS1 hl1
      have hq' := hq H locs ls hP1 hD1 hS1 hl1
      have hst' := hts _ (hst h99)
      have hlink' := hts _ hlink
      have hini' := hts _ hini
      have hcode' := hts _ hcode
      dsimp only at hst' hlink' hini' hcode'
      rw [hMn.1] at hst' hlink' hini'
      rw [hMn.1, hMn.2.1, hMn.2.2.1, hMn.2.2.2.1] at hcode'
      exact va_mmax hx hb (hml.trans hl1.1.1.symm) hown hlink' hst' hini' hcode' (by omega) (by show ((r.map (mm_rho ad)).map fun v => v.category).sum + 13 ≤ R.locals; rw [mm_cat_le ad r hrcat]; omega) (Nat.zero_le _) (Nat.zero_le _) hdg hq'
    · exact absurd rfl h7
  by_cases hym : y' = ym
  · subst hym
    rcases hB _ _ _ _ (hbb _ _ hmn.2.2.2.2 hC) with ⟨-, h7, -⟩ | ⟨h7, -⟩ | ⟨-, -, x, z, rfl, hq⟩
    · exact absurd rfl h7
    · exact absurd h7 hyM
    · intro H locs ls hP1 hD1 hS1 hl1
      have hq' := hq H locs ls hP1 hD1 hS1 hl1
      have hst' := hts _ (hst h99)
      have hlink' := hts _ hlink
      have hini' := hts _ hini
      have hcode' := hts _ hcode
      dsimp only at hst' hlink' hini' hcode'
      rw [hmn.1] at hst' hlink' hini'
      rw [hmn.1, hmn.2.1, hmn.2.2.1, hmn.2.2.2.1] at hcode'
      exact va_mmin hx hb (hml.trans hl1.1.1.symm) hown hlink' hst' hini' hcode' (by omega) (by show ((r.map (mm_rho ad)).map fun v => v.category).sum + 13 ≤ R.locals; rw [mm_cat_le ad r hrcat]; omega) (Nat.zero_le _) (Nat.zero_le _) hdg hq'
  have hT := hTT y' as' σ1 _ hyM hym hC
  intro H locs ls hP1 hD1 hS1 hl1
  have hM := hT H.size
  have hstk : (as'.reverse ++ r).map (mm_rho ad) = (as'.map (mm_rho ad)).reverse ++ r.map (mm_rho ad) := by simp
  rw [hstk]
  refine mm_goon (va_runS (As := as'.map (mm_rho ad)) (rest := r.map (mm_rho ad)) (n := n) ⟨hx, hb, hml, hown, hts⟩ hM ⟨callB_of n hts (hG y' hcode) rfl rfl rfl (hts _ hini) (hts _ hlink) hd ⟨hRf, by show 8 + (mx y' + 11) + 40 * d ≤ R.locals; have := hmx; dsimp only at this; omega⟩, hts _ (hst h99)⟩
    ⟨fun a U g mk q => by obtain ⟨q0, q1, qP, qK, qD, qG⟩ := q; exact ⟨q0, q1, qP, va_K.moved (u := U) (U := U.calling g mk a) (Vm.Alike.refl U.vm) qK, qD, mm_G.moved (u := U) (U := U.calling g mk a) (Vm.Alike.refl U.vm) qG⟩, fun U hU hW => ⟨rfl, by rw [hU], by rw [hU]; exact hP1, va_K.moved hW.alike hK, hD1.weaken (fun _ _ _ _ => trivial), by rw [hU]; exact ((hG0.kept hS1.2.1).narrow (fun q h8 => mm_A_in h8 hS1.1)).moved hW.alike⟩⟩
    rfl (by rw [List.length_map]; omega) hl1.1.1 rfl (lv_room (by rw [mm_cat_le ad r hrcat]; exact hr8)) hdg ⟨Nat.zero_le _, Nat.zero_le _⟩) hS1 (fun q hq => mm_A_in hq hS1.1) (fun v σ' H1 locs1 hq hP2 hD2 hS2 => ?_)
  rw [mm_rho_toList]
  exact hq H1 locs1 ls hP2 hD2 hS2 hl1
end MXh

/-! The small machine's contracts hold of the machine -/
def mm_kok (Ts : List Cond) (nm : Nat → MethodName) (by_ : Nat → ByteArray) (mx : Nat → Nat) (cl : List vw_C) (Y : mm_Y) (own : String) (q : Nat × Nat × Nat × Nat) : Prop :=
  mx q.2.1 ≤ 21 ∧ Cond.code (nm q.2.1) (by_ q.2.1) (mx q.2.1) (mm_rty (mm_me Y q.2.1).2.2.2.2) ∈ Ts ∧ Cond.methodLink own q.1 (nm q.2.1) ∈ Ts ∧ Cond.initialized (nm q.2.1).cls ∈ Ts ∧
  ((nm q.2.1).cls ≠ "java/lang/invoke/MethodHandle" ∧ (nm q.2.1).cls ≠ "java/lang/invoke/VarHandle" ∧ (parseMethodDescriptor (nm q.2.1).desc).map (fun d => d.parameters.length) = some q.2.2.1) ∧
  (q.2.2.2 = 99 → Cond.static (nm q.2.1) ∈ Ts) ∧ (q.2.2.2 ≠ 99 → Cond.instanceMethod (nm q.2.1) ∈ Ts ∧ Cond.selects (nm q.2.1).cls (nm q.2.1) (nm q.2.1) ∈ Ts ∧ ∃ T N, cl[q.2.2.2]? = some ((nm q.2.1).cls, T, N))
def mm_ok (Ts : List Cond) (nm : Nat → MethodName) (by_ : Nat → ByteArray) (mx : Nat → Nat) (cl : List vw_C) (Y : mm_Y) (y : Nat) : Prop :=
  plainName (nm y).cls = true ∧ (mm_me Y y).1.all (mm_okE (by_ y)) = true ∧ (∀ q ∈ (mm_me Y y).2.1, mm_gok cl Ts (nm y).cls q.1 q.2.1 q.2.2) ∧ (∀ q ∈ (mm_me Y y).2.2.1, mm_pok Y cl Ts (nm y).cls q.1 q.2.1 q.2.2) ∧
  (∀ q ∈ (mm_me Y y).2.2.2.1, mm_kok Ts nm by_ mx cl Y (nm y).cls q) ∧ (∀ (pc idx len t : Nat) (v : Int32), mm_look (mm_me Y y).1 pc = some (.ldc_w idx, len, t, v) → Cond.constant (nm y).cls idx v ∈ Ts)
theorem mm_rho_toList (ad : Nat → Nat) (v : Option Value) (r : List Value) : (v.map (mm_rho ad)).toList ++ r.map (mm_rho ad) = (v.toList ++ r).map (mm_rho ad) := by cases v <;> simp
theorem mm_rcv_el {Y : mm_Y} {ci : Nat} {as : List Value} (h : mm_rcv Y 1 ci as = true) : ∃ k r fs, as = .ref k :: r ∧ mm_kd Y k = (0, ci, fs) ∧ ci ≠ 99 := by
  unfold mm_rcv at h
  dsimp only at h
  split at h
  · rename_i k r
    split at h
    · rename_i c fs hk
      rw [Bool.and_eq_true] at h
      have hc := Nat.eq_of_beq_eq_true h.1
      subst hc
      refine ⟨k, r, fs, rfl, hk, fun q => ?_⟩
      have h2 := h.2
      rw [q] at h2
      cases h2
    · cases h
  · cases h
theorem mm_W_nil {Y : mm_Y} {C : mm_C} {M : mm_M} {Q : mm_Q} {pc : Nat} {L : List (Option Value)} {S : List Value} {σ : mm_S} (hM : M.1 = []) (h : mm_W Y C M Q pc L S σ) : False := by
  refine h (fun _ _ _ _ => False) (fun pc L S σ q => ?_)
  unfold mm_one at q
  rw [hM] at q
  exact q
section MMsound
variable {l : Launch} {Ts : List Cond} {nm : Nat → MethodName} {by_ : Nat → ByteArray} {mx : Nat → Nat} {D : va_G} {cl : List vw_C} {cI cZ cG : ClassId} {ad : Nat → Nat} {Y : mm_Y} {B : mm_C} {yM ym : Nat}
set_option maxHeartbeats 4000000 in
theorem mm_sound (hgood : ∀ w ∈ Ts, goodWord w = true) (hok : ∀ y, y < Y.2.2.length → (mm_me Y y).1 ≠ [] → mm_ok Ts nm by_ mx cl Y y)
    (hMn : nm yM = Lib.Math.max.name ∧ by_ yM = Lib.Math.max.code ∧ mx yM = 2 ∧ (mm_me Y yM).2.2.2.2 = 1 ∧ (mm_me Y yM).1 = []) (hmn : nm ym = Lib.Math.min.name ∧ by_ ym = Lib.Math.min.code ∧ mx ym = 2 ∧ (mm_me Y ym).2.2.2.2 = 1 ∧ (mm_me Y ym).1 = [])
    (hB : ∀ y as σ Q, B y as σ Q → (y ≠ yM ∧ y ≠ ym ∧ ∀ d, mm_T l Ts nm by_ mx D cl [(cI, .int), (cZ, .boolean), (cG, .array .int)] ad (cI, cZ, cG) Y d y as σ Q) ∨ (y = yM ∧ ∃ x z, as = [.int x, .int z] ∧ Q (some (.int (if x < z then z else x))) σ) ∨ (y ≠ yM ∧ y = ym ∧ ∃ x z, as = [.int x, .int z] ∧ Q (some (.int (if z < x then z else x))) σ)) :
    ∀ d y as σ Q, y ≠ yM → y ≠ ym → mm_D Y B mx d y as σ Q → mm_T l Ts nm by_ mx D cl [(cI, .int), (cZ, .boolean), (cG, .array .int)] ad (cI, cZ, cG) Y d y as σ Q := by
  intro d
  induction d with
  | zero =>
    intro y as σ Q h1 h2 h
    rcases hB y as σ Q h with ⟨-, -, hT⟩ | ⟨hy, -⟩ | ⟨-, hy, -⟩
    · exact hT 0
    · exact absurd hy h1
    · exact absurd hy h2
  | succ d ih =>
    intro y as σ Q hy1 hy2 h
    rcases h with h | ⟨hc, h⟩
    · rcases hB y as σ Q h with ⟨-, -, hT⟩ | ⟨hy, -⟩ | ⟨-, hy, -⟩
      · exact hT _
      · exact absurd hy hy1
      · exact absurd hy hy2
    by_cases hy : y < Y.2.2.length
    case neg =>
      refine (mm_W_nil ?_ h).elim
      unfold mm_me
      cases e : mm_nth Y.2.2 y with
      | none => rfl
      | some q => exact absurd (mm_nth_lt e) hy
    case pos =>
    obtain ⟨hpl, hE, hg, hp, hk, hld⟩ := hok y hy (fun q => mm_W_nil q h)
    obtain ⟨hlen, hcat⟩ := mm_c1_el hc
    intro sz
    refine Met.ofW (cc := by_ y) (maxL := mx y) (ret := mm_rty (mm_me Y y).2.2.2.2) hpl rfl ?_
    intro p e s m args below meth c s₁ B0 hml hv
    obtain ⟨rfl, hsz, hP, hK, hD0, hG0⟩ := hv
    have hx := B0.exec
    have hb := B0.bytes
    have hr := B0.returns
    have hlocks := B0.notSynchronized
    have hts0 := atoms_spec (ws := mm_ws Ts nm by_ mx Y y) B0.pre
    have hts : ∀ w ∈ Ts, w.before (as.map (mm_rho ad)).toArray s = true := fun w hw => hts0 w (List.mem_cons_of_mem _ hw)
    have hown : s.vm.findClass (nm y).cls = some m.cls := findClass_of_methodNamed B0.named
    have hG : ∀ y', Cond.code (nm y') (by_ y') (mx y') (mm_rty (mm_me Y y').2.2.2.2) ∈ Ts → GoodIn Ts (mm_ws Ts nm by_ mx Y y') := fun y' hy' w hw => by
      rcases List.mem_cons.mp hw with h9 | h9
      · subst h9
        exact ⟨hy', good_of_word (hgood _ hy')⟩
      · exact ⟨h9, good_of_word (hgood _ h9)⟩
    subst hsz
    have hD := hD0.self (sz := s.heap.size)
    have hcat' : ∀ v ∈ as.map (mm_rho ad), v.category = 1 := fun v hv => by
      obtain ⟨w, hw, rfl⟩ := List.mem_map.mp hv
      rw [mm_rho_cat]
      exact hcat w hw
    have hl := lv_entry (as.map (mm_rho ad)) (n := mx y) (by rw [mm_sl_len _ hcat', List.length_map]; exact hlen)
    rw [lg_entry_eq]
    generalize (lg_sl (as.map (mm_rho ad)) ++ List.replicate (mx y - (lg_sl (as.map (mm_rho ad))).length) Slot.unset).toArray = ls0 at hl ⊢
    have hlh : mm_lh ad ls0 (mx y) (mm_ent (mx y) as) := by
      refine ⟨?_, ?_, fun k v hk => hcat v (mm_nth_ent hk)⟩
      · unfold mm_ent
        rw [mm_args_ll ad as 0 _ hcat]
        exact hl
      · unfold mm_ent
        rw [List.length_append, List.length_map, List.length_replicate]
        omega
    have hV := h (mm_V p l e (mm_rm (d + 1)) s m (as.map (mm_rho ad)).toArray below meth c D cl (va_A (mm_wd ad (cI, cZ, cG) Y σ) s.heap.size) ad (cI, cZ, cG) Y (mx y) (MQ below (mm_Qc D cl [(cI, .int), (cZ, .boolean), (cG, .array .int)] (va_A (mm_wd ad (cI, cZ, cG) Y σ) s.heap.size) ad (cI, cZ, cG) Y Q) (as.map (mm_rho ad)).toArray s 0 0 (va_A (mm_wd ad (cI, cZ, cG) Y σ) s.heap.size)))
      (mm_step (own := (nm y).cls) (Ts := Ts) (fun _ z => z) hx hb hown hts hK rfl rfl rfl hr hlocks hE (fun idx ci j hq => hg _ (mm_look_mem hq)) (fun idx ci j hq => hp _ (mm_look_mem hq)) hld ?_ ?_)
    · exact hV s.heap [] ls0 hP hD va_S.rf hlh
    · intro pc idx L S σ1 hdg hcall
      obtain ⟨y', n, ci, as', r, hlk, rfl, hln, hc8, hrc, hC⟩ := mm_call_el hcall
      obtain ⟨k, as2, fs, rfl, hkd, hci⟩ := mm_rcv_el hrc
      obtain ⟨hmx, hcode, hlink, hini, hd, -, hvir⟩ := hk _ (mm_look_mem hlk)
      obtain ⟨hinst, hsel, Tc, Nc, hclc⟩ := hvir hci
      obtain ⟨hr8, hrcat⟩ := mm_c1_el hc8
      have hnB : ∀ (Q9 : mm_Q), mm_D Y B mx d y' (.ref k :: as2) σ1 Q9 → y' ≠ yM ∧ y' ≠ ym := by
        intro Q9 h9
        have hbb : ∀ y9, (mm_me Y y9).1 = [] → mm_D Y B mx d y9 (.ref k :: as2) σ1 Q9 → B y9 (.ref k :: as2) σ1 Q9 := by
          intro y9 he h8
          cases d with
          | zero => exact h8
          | succ d => exact h8.elim id (fun h7 => (mm_W_nil he h7.2).elim)
        constructor
        · intro e9
          subst e9
          rcases hB _ _ _ _ (hbb _ hMn.2.2.2.2 h9) with ⟨h7, -⟩ | ⟨-, x, z, h7, -⟩ | ⟨h7, -⟩
          · exact h7 rfl
          · cases h7
          · exact h7 rfl
        · intro e9
          subst e9
          rcases hB _ _ _ _ (hbb _ hmn.2.2.2.2 h9) with ⟨-, h7, -⟩ | ⟨-, x, z, h7, -⟩ | ⟨-, -, x, z, h7, -⟩
          · exact h7 rfl
          · cases h7
          · cases h7
      have hT := ih y' (.ref k :: as2) σ1 _ (hnB _ hC).1 (hnB _ hC).2 hC
      intro H locs ls hP1 hD1 hS1 hl1
      have hM := hT H.size
      have he : (mm_wd ad (cI, cZ, cG) Y σ1)[k]? = some (ad k, .inr (ci, mm_fv ad (σ1 k) 0 fs)) := by
        rw [mm_wd_get (mm_kd_lt (by rw [hkd]; exact fun z => nomatch z))]; simp only [mm_ce, hkd]
      have hstk : ((Value.ref k :: as2).reverse ++ r).map (mm_rho ad) = (as2.map (mm_rho ad)).reverse ++ .ref (ad k) :: r.map (mm_rho ad) := by
        simp [mm_rho]
      rw [hstk]
      refine mm_goon (va_runV (C := (nm y').cls) (b := ad k) (As := as2.map (mm_rho ad)) (rest := r.map (mm_rho ad)) (n := n) ⟨hx, hb, hml, hown, hts⟩ hM ⟨callB_of n hts (hG y' hcode) rfl rfl rfl (hts _ hini) (hts _ hlink) hd ⟨Nat.le_refl _, by show 8 + (mx y' + 11) + 40 * d ≤ 40 * (d + 1); have := hmx; dsimp only at this; omega⟩, hts _ hinst, hts _ hsel⟩
        ⟨fun a U g mk q => by obtain ⟨q0, q1, qP, qK, qD, qG⟩ := q; exact ⟨q0, q1, qP, va_K.moved (u := U) (U := U.calling g mk a) (Vm.Alike.refl U.vm) qK, qD, mm_G.moved (u := U) (U := U.calling g mk a) (Vm.Alike.refl U.vm) qG⟩, va_recv hK hP1 hclc he, fun U hU hW => ⟨rfl, by rw [hU], by rw [hU]; exact hP1, va_K.moved hW.alike hK, hD1.weaken (fun _ _ _ _ => trivial), by rw [hU]; exact ((hG0.kept hS1.2.1).narrow (fun q h8 => mm_A_in h8 hS1.1)).moved hW.alike⟩⟩
        rfl (by rw [List.length_map]; simp only [List.length_cons] at hln; omega) hl1.1.1 rfl (lv_room (by rw [mm_cat_le ad r hrcat]; exact hr8)) hdg ⟨Nat.le_refl _, Nat.le_refl _⟩) hS1 (fun q hq => mm_A_in hq hS1.1) (fun v σ' H1 locs1 hq hP2 hD2 hS2 => ?_)
      rw [mm_rho_toList]
      exact hq H1 locs1 ls hP2 hD2 hS2 hl1
    · intro pc idx L S σ1 hdg hcall
      obtain ⟨y', n, ci, as', r, hlk, rfl, hln, hc8, hrc, hC⟩ := mm_call_el hcall
      obtain ⟨hmx, hcode, hlink, hini, hd, hst, -⟩ := hk _ (mm_look_mem hlk)
      obtain ⟨hr8, hrcat⟩ := mm_c1_el hc8
      have h99 : ci = 99 := Nat.eq_of_beq_eq_true hrc
      have hbb : ∀ y9 Q9, (mm_me Y y9).1 = [] → mm_D Y B mx d y9 as' σ1 Q9 → B y9 as' σ1 Q9 := by
        intro y9 Q9 he h8
        cases d with
        | zero => exact h8
        | succ d => exact h8.elim id (fun h7 => (mm_W_nil he h7.2).elim)
      by_cases hyM : y' = yM
      · subst hyM
        rcases hB _ _ _ _ (hbb _ _ hMn.2.2.2.2 hC) with ⟨h7, -⟩ | ⟨-, x, z, rfl, hq⟩ | ⟨h7, -⟩
        · exact absurd rfl h7
        · intro H locs ls hP1 hD1 hS1 hl1
          have hq' := hq H locs ls hP1 hD1 hS1 hl1
          have hst' := hts _ (hst h99)
          have hlink' := hts _ hlink
          have hini' := hts _ hini
          have hcode' := hts _ hcode
          dsimp only at hst' hlink' hini' hcode'
          rw [hMn.1] at hst' hlink' hini'
          rw [hMn.1, hMn.2.1, hMn.2.2.1, hMn.2.2.2.1] at hcode'
          exact va_mmax hx hb (hml.trans hl1.1.1.symm) hown hlink' hst' hini' hcode' (Nat.succ_le_succ (Nat.zero_le _)) (by show ((r.map (mm_rho ad)).map fun v => v.category).sum + 13 ≤ 40 * (d + 1); rw [mm_cat_le ad r hrcat]; omega) (Nat.le_refl _) (Nat.le_refl _) hdg hq'
        · exact absurd rfl h7
      by_cases hym : y' = ym
      · subst hym
        rcases hB _ _ _ _ (hbb _ _ hmn.2.2.2.2 hC) with ⟨-, h7, -⟩ | ⟨h7, -⟩ | ⟨-, -, x, z, rfl, hq⟩
        · exact absurd rfl h7
        · exact absurd h7 hyM
        · intro H locs ls hP1 hD1 hS1 hl1
          have hq' := hq H locs ls hP1 hD1 hS1 hl1
          have hst' := hts _ (hst h99)
          have hlink' := hts _ hlink
          have hini' := hts _ hini
          have hcode' := hts _ hcode
          dsimp only at hst' hlink' hini' hcode'
          rw [hmn.1] at hst' hlink' hini'
          rw [hmn.1, hmn.2.1, hmn.2.2.1, hmn.2.2.2.1] at hcode'
          exact va_mmin hx hb (hml.trans hl1.1.1.symm) hown hlink' hst' hini' hcode' (Nat.succ_le_succ (Nat.zero_le _)) (by show ((r.map (mm_rho ad)).map fun v => v.category).sum + 13 ≤ 40 * (d + 1); rw [mm_cat_le ad r hrcat]; omega) (Nat.le_refl _) (Nat.le_refl _) hdg hq'
      have hT := ih y' as' σ1 _ hyM hym hC
      intro H locs ls hP1 hD1 hS1 hl1
      have hM := hT H.size
      have hstk : (as'.reverse ++ r).map (mm_rho ad) = (as'.map (mm_rho ad)).reverse ++ r.map (mm_rho ad) := by simp
      rw [hstk]
      refine mm_goon (va_runS (As := as'.map (mm_rho ad)) (rest := r.map (mm_rho ad)) (n := n) ⟨hx, hb, hml, hown, hts⟩ hM ⟨callB_of n hts (hG y' hcode) rfl rfl rfl (hts _ hini) (hts _ hlink) hd ⟨Nat.le_refl _, by show 8 + (mx y' + 11) + 40 * d ≤ 40 * (d + 1); have := hmx; dsimp only at this; omega⟩, hts _ (hst h99)⟩
        ⟨fun a U g mk q => by obtain ⟨q0, q1, qP, qK, qD, qG⟩ := q; exact ⟨q0, q1, qP, va_K.moved (u := U) (U := U.calling g mk a) (Vm.Alike.refl U.vm) qK, qD, mm_G.moved (u := U) (U := U.calling g mk a) (Vm.Alike.refl U.vm) qG⟩, fun U hU hW => ⟨rfl, by rw [hU], by rw [hU]; exact hP1, va_K.moved hW.alike hK, hD1.weaken (fun _ _ _ _ => trivial), by rw [hU]; exact ((hG0.kept hS1.2.1).narrow (fun q h8 => mm_A_in h8 hS1.1)).moved hW.alike⟩⟩
        rfl (by rw [List.length_map]; omega) hl1.1.1 rfl (lv_room (by rw [mm_cat_le ad r hrcat]; exact hr8)) hdg ⟨Nat.le_refl _, Nat.le_refl _⟩) hS1 (fun q hq => mm_A_in hq hS1.1) (fun v σ' H1 locs1 hq hP2 hD2 hS2 => ?_)
      rw [mm_rho_toList]
      exact hq H1 locs1 ls hP2 hD2 hS2 hl1
end MMsound

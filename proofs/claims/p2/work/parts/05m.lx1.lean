/-! the same with more cells beside, and counts of what has been made: for the law's own walk -/
def lx_wd (ad : Nat → Nat) (a3 : ClassId × ClassId × ClassId) (Y : mm_Y) (ext : va_W) (σ : mm_S) : va_W := mm_wd ad a3 Y σ ++ ext
theorem lx_wd_get {ad : Nat → Nat} {a3 : ClassId × ClassId × ClassId} {Y : mm_Y} {ext : va_W} {σ : mm_S} {k : Nat} (h : k < Y.1.length) : (lx_wd ad a3 Y ext σ)[k]? = some (ad k, mm_ce ad a3 Y σ k) := by
  unfold lx_wd
  rw [List.getElem?_append_left (by simpa [mm_wd] using h)]
  exact mm_wd_get h
theorem lx_wd_set {ad : Nat → Nat} {a3 : ClassId × ClassId × ClassId} {Y : mm_Y} {ext : va_W} {σ : mm_S} {k j : Nat} {x : Int32} {e : va_E} (h : k < Y.1.length) (he : mm_ce ad a3 Y (mm_up σ k j x) k = e) : (lx_wd ad a3 Y ext σ).set k (ad k, e) = lx_wd ad a3 Y ext (mm_up σ k j x) := by
  unfold lx_wd
  rw [List.set_append_left _ _ (by simpa [mm_wd] using h), mm_wd_set he]
def lx_V (p : Program) (l : Launch) (e : Env) (R : Room) (s : State) (m : MethodId) (args : Array Value) (below : List Frame) (meth : Method) (c : Code) (D : va_G) (cl : List vw_C) (A : Nat → Prop) (ad : Nat → Nat) (a3 : ClassId × ClassId × ClassId) (Y : mm_Y) (nL : Nat) (Qf : State → Prop) (ext : va_W) (ce sl : Nat) : mm_X := fun pc L S σ =>
  ∀ (H : Heap) (locs : List Loc) (ls : Array Slot), va_P D cl (lx_wd ad a3 Y ext σ) H → va_D A (lx_wd ad a3 Y ext σ) → va_S A s.heap H locs → mm_lh ad ls nL L → W p l e R s m args below meth c H locs ce sl Qf (F0 m pc ls (S.map (mm_rho ad)))
section LXstep
variable {p : Program} {l : Launch} {e : Env} {R : Room} {s : State} {m : MethodId} {args : Array Value} {below : List Frame} {meth : Method} {c : Code} {D : va_G} {cl : List vw_C} {A : Nat → Prop} {ad : Nat → Nat} {cI cZ cG : ClassId} {CG : String} {Y : mm_Y} {nL : Nat} {M : mm_M} {C : mm_C} {Q : mm_Q} {cc : ByteArray} {Ts : List Cond} {own : String} {tys : List (ClassId × FieldType)} {ext : va_W} {ce sl : Nat}
set_option maxHeartbeats 4000000 in
theorem lx_mstep {Qf : State → Prop} (hret : M.2.2.2.2 = 7) (hx : p.tables.exec = Jvm.exec) (hb : c.code = cc) (hown : s.vm.findClass own = some m.cls) (hts : ∀ w ∈ Ts, w.before args s = true) (hK : va_K D cl tys s) (htI : tys[0]? = some (cI, .int)) (htZ : tys[1]? = some (cZ, .boolean)) (htG : tys[2]? = some (cG, .array .int))
    (htab : M.1.all (mm_okE cc) = true) (hg : ∀ idx ci j, mm_look M.2.1 idx = some (ci, j) → mm_gok cl Ts own idx ci j) (hp : ∀ idx ci j, mm_look M.2.2.1 idx = some (ci, j) → mm_pok Y cl Ts own idx ci j)
    (hld : ∀ (pc idx len t : Nat) (v : Int32), mm_look M.1 pc = some (.ldc_w idx, len, t, v) → Cond.constant own idx v ∈ Ts)
    (hc1 : ∀ (pc idx : Nat) (L : List (Option Value)) (S : List Value) (σ : mm_S), decode cc pc = .ok (.invokevirtual idx, 3) → mm_call Y C M idx 1 S σ (fun S' σ' => lx_V p l e R s m args below meth c D cl A ad (cI, cZ, cG) Y nL Qf ext ce sl (pc + 3) L S' σ') → lx_V p l e R s m args below meth c D cl A ad (cI, cZ, cG) Y nL Qf ext ce sl pc L S σ)
    (hc0 : ∀ (pc idx : Nat) (L : List (Option Value)) (S : List Value) (σ : mm_S), decode cc pc = .ok (.invokestatic idx, 3) → mm_call Y C M idx 0 S σ (fun S' σ' => lx_V p l e R s m args below meth c D cl A ad (cI, cZ, cG) Y nL Qf ext ce sl (pc + 3) L S' σ') → lx_V p l e R s m args below meth c D cl A ad (cI, cZ, cG) Y nL Qf ext ce sl pc L S σ) :
    ∀ pc L S σ, mm_one Y C M Q (lx_V p l e R s m args below meth c D cl A ad (cI, cZ, cG) Y nL Qf ext ce sl) pc L S σ → lx_V p l e R s m args below meth c D cl A ad (cI, cZ, cG) Y nL Qf ext ce sl pc L S σ := by
  intro pc L S σ h
  generalize hV : lx_V p l e R s m args below meth c D cl A ad (cI, cZ, cG) Y nL Qf ext ce sl = V at h hc1 hc0 ⊢
  have hVd : ∀ pc L S σ, V pc L S σ ↔ ∀ (H : Heap) (locs : List Loc) (ls : Array Slot), va_P D cl (lx_wd ad (cI, cZ, cG) Y ext σ) H → va_D A (lx_wd ad (cI, cZ, cG) Y ext σ) → va_S A s.heap H locs → mm_lh ad ls nL L → W p l e R s m args below meth c H locs ce sl Qf (F0 m pc ls (S.map (mm_rho ad))) := by
    intro pc L S σ; rw [← hV]; exact Iff.rfl
  unfold mm_one at h
  cases hI : mm_look M.1 pc with
  | none => simp only [hI] at h
  | some q =>
    obtain ⟨i, len, t, cs⟩ := q
    have hq := List.all_eq_true.mp htab _ (mm_look_mem hI)
    simp only [mm_okE, Bool.and_eq_true, decide_eq_true_eq] at hq
    obtain ⟨hdg, hcst⟩ := hq
    simp only [hI] at h
    cases i
    case iload_n k =>
      replace h := mm_ldi_el h
      obtain ⟨x, h1, h⟩ := h
      rw [hVd] at h ⊢
      intro H locs ls hP hD hS hl
      exact lv_iload_n hx hb hdg rfl (mm_lh_at hl h1) (h H locs ls hP hD hS hl)
    case iload k =>
      replace h := mm_ldi_el h
      obtain ⟨x, h1, h⟩ := h
      rw [hVd] at h ⊢
      intro H locs ls hP hD hS hl
      exact lv_iload hx hb hdg (mm_lh_at hl h1) (h H locs ls hP hD hS hl)
    case aload_n k =>
      replace h := mm_lda_el h
      obtain ⟨x, h1, h⟩ := h
      rw [hVd] at h ⊢
      intro H locs ls hP hD hS hl
      exact lv_aload_n hx hb hdg rfl (mm_lh_at hl h1) (h H locs ls hP hD hS hl)
    case aload k =>
      replace h := mm_lda_el h
      obtain ⟨x, h1, h⟩ := h
      rw [hVd] at h ⊢
      intro H locs ls hP hD hS hl
      exact lv_aload hx hb hdg (mm_lh_at hl h1) (h H locs ls hP hD hS hl)
    case istore_n k =>
      replace h := mm_1_el h
      obtain ⟨x, r, rfl, h⟩ := h
      replace h := mm_sto_el h
      obtain ⟨hi, h⟩ := h
      rw [hVd] at h ⊢
      intro H locs ls hP hD hS hl
      have hn : k.val < nL := by rw [← hl.2.1]; exact hi
      exact lv_istore_n hx hb hdg rfl hl.1 hn rfl (fun ls' h' => h H locs ls' hP hD hS (mm_lh_set hl hn rfl h'))
    case istore k =>
      replace h := mm_1_el h
      obtain ⟨x, r, rfl, h⟩ := h
      replace h := mm_sto_el h
      obtain ⟨hi, h⟩ := h
      rw [hVd] at h ⊢
      intro H locs ls hP hD hS hl
      have hn : k < nL := by rw [← hl.2.1]; exact hi
      exact lv_istore hx hb hdg hl.1 hn rfl (fun ls' h' => h H locs ls' hP hD hS (mm_lh_set hl hn rfl h'))
    case astore_n k =>
      replace h := mm_r_el h
      obtain ⟨x, r, rfl, h⟩ := h
      replace h := mm_sto_el h
      obtain ⟨hi, h⟩ := h
      rw [hVd] at h ⊢
      intro H locs ls hP hD hS hl
      have hn : k.val < nL := by rw [← hl.2.1]; exact hi
      exact lv_astore_n hx hb hdg rfl hl.1 hn rfl (fun ls' h' => h H locs ls' hP hD hS (mm_lh_set (v := .ref x) hl hn rfl h'))
    case astore k =>
      replace h := mm_r_el h
      obtain ⟨x, r, rfl, h⟩ := h
      replace h := mm_sto_el h
      obtain ⟨hi, h⟩ := h
      rw [hVd] at h ⊢
      intro H locs ls hP hD hS hl
      have hn : k < nL := by rw [← hl.2.1]; exact hi
      exact lv_astore hx hb hdg hl.1 hn rfl (fun ls' h' => h H locs ls' hP hD hS (mm_lh_set (v := .ref x) hl hn rfl h'))
    case iinc k n =>
      replace h := mm_ldi_el h
      obtain ⟨x, h1, h⟩ := h
      replace h := mm_sto_el h
      obtain ⟨hi, h⟩ := h
      rw [hVd] at h ⊢
      intro H locs ls hP hD hS hl
      have hn : k < nL := by rw [← hl.2.1]; exact hi
      have hcs : Int32.ofInt n = cs := of_decide_eq_true hcst
      have hm := mm_ll_mem ad L 0 k (.int x) h1
      rw [Nat.zero_add] at hm
      obtain ⟨q, hq⟩ := List.getElem?_of_mem hm
      exact lv_iinc (k := q) hx hb hdg hl.1 hq (by rw [hcs]) hn rfl (fun ls' h' => h H locs ls' hP hD hS (mm_lh_set (v := .int (x + cs)) hl hn rfl h'))
    case iconst n =>
      replace h := (hVd (pc + 1) L (.int cs :: S) σ).mp h
      rw [hVd]
      intro H locs ls hP hD hS hl
      exact lv_iconst hx hb hdg (of_decide_eq_true hcst) (h H locs ls hP hD hS hl)
    case bipush n =>
      replace h := (hVd (pc + 2) L (.int cs :: S) σ).mp h
      rw [hVd]
      intro H locs ls hP hD hS hl
      exact lv_bipush hx hb hdg (of_decide_eq_true hcst) (h H locs ls hP hD hS hl)
    case sipush n =>
      replace h := (hVd (pc + 3) L (.int cs :: S) σ).mp h
      rw [hVd]
      intro H locs ls hP hD hS hl
      exact lv_sipush hx hb hdg (of_decide_eq_true hcst) (h H locs ls hP hD hS hl)
    case iadd =>
      replace h := mm_2_el h
      obtain ⟨x, y, r, rfl, h⟩ := h
      rw [hVd] at h ⊢
      intro H locs ls hP hD hS hl
      exact lv_iadd hx hb hdg (h H locs ls hP hD hS hl)
    case isub =>
      replace h := mm_2_el h
      obtain ⟨x, y, r, rfl, h⟩ := h
      rw [hVd] at h ⊢
      intro H locs ls hP hD hS hl
      exact lv_isub hx hb hdg (h H locs ls hP hD hS hl)
    case imul =>
      replace h := mm_2_el h
      obtain ⟨x, y, r, rfl, h⟩ := h
      rw [hVd] at h ⊢
      intro H locs ls hP hD hS hl
      exact lv_imul hx hb hdg (h H locs ls hP hD hS hl)
    case iand =>
      replace h := mm_2_el h
      obtain ⟨x, y, r, rfl, h⟩ := h
      rw [hVd] at h ⊢
      intro H locs ls hP hD hS hl
      exact lv_iand hx hb hdg (h H locs ls hP hD hS hl)
    case ior =>
      replace h := mm_2_el h
      obtain ⟨x, y, r, rfl, h⟩ := h
      rw [hVd] at h ⊢
      intro H locs ls hP hD hS hl
      exact lv_ior hx hb hdg (h H locs ls hP hD hS hl)
    case ixor =>
      replace h := mm_2_el h
      obtain ⟨x, y, r, rfl, h⟩ := h
      rw [hVd] at h ⊢
      intro H locs ls hP hD hS hl
      exact lv_ixor hx hb hdg (h H locs ls hP hD hS hl)
    case ishl =>
      replace h := mm_2_el h
      obtain ⟨x, y, r, rfl, h⟩ := h
      rw [hVd] at h ⊢
      intro H locs ls hP hD hS hl
      exact lv_ishl hx hb hdg (h H locs ls hP hD hS hl)
    case ishr =>
      replace h := mm_2_el h
      obtain ⟨x, y, r, rfl, h⟩ := h
      rw [hVd] at h ⊢
      intro H locs ls hP hD hS hl
      exact lv_ishr hx hb hdg (h H locs ls hP hD hS hl)
    case iushr =>
      replace h := mm_2_el h
      obtain ⟨x, y, r, rfl, h⟩ := h
      rw [hVd] at h ⊢
      intro H locs ls hP hD hS hl
      exact lv_iushr hx hb hdg rfl (h H locs ls hP hD hS hl)
    case idiv =>
      replace h := mm_2_el h
      obtain ⟨x, y, r, rfl, hne, h⟩ := h
      rw [hVd] at h ⊢
      intro H locs ls hP hD hS hl
      exact lv_idiv hx hb hdg hne (h H locs ls hP hD hS hl)
    case irem =>
      replace h := mm_2_el h
      obtain ⟨x, y, r, rfl, hne, h⟩ := h
      rw [hVd] at h ⊢
      intro H locs ls hP hD hS hl
      exact lv_irem hx hb hdg hne (h H locs ls hP hD hS hl)
    case dup =>
      replace h := mm_d1_el h
      obtain ⟨v, r, rfl, hv, h⟩ := h
      rw [hVd] at h ⊢
      intro H locs ls hP hD hS hl
      exact lv_dup hx hb hdg (by rw [mm_rho_cat]; exact hv) (h H locs ls hP hD hS hl)
    case dup2 =>
      replace h := mm_d2_el h
      obtain ⟨v, w, r, rfl, hv, hw, h⟩ := h
      rw [hVd] at h ⊢
      intro H locs ls hP hD hS hl
      exact lv_dup2_11 hx hb hdg (by rw [mm_rho_cat]; exact hv) (by rw [mm_rho_cat]; exact hw) (h H locs ls hP hD hS hl)
    case pop =>
      replace h := mm_d1_el h
      obtain ⟨v, r, rfl, hv, h⟩ := h
      rw [hVd] at h ⊢
      intro H locs ls hP hD hS hl
      exact lv_pop hx hb hdg (by rw [mm_rho_cat]; exact hv) (h H locs ls hP hD hS hl)
    case iaload =>
      replace h := mm_ir_el h
      obtain ⟨j, k, r, rfl, hia, h⟩ := h
      obtain ⟨n, fs, hkd, hin⟩ := mm_ia_el hia
      rw [hVd] at h ⊢
      intro H locs ls hP hD hS hl
      have he : (lx_wd ad (cI, cZ, cG) Y ext σ)[k]? = some (ad k, .inl (cI, n, .inl (σ k))) := by
        rw [lx_wd_get (mm_kd_lt (by rw [hkd]; exact fun z => nomatch z))]; simp only [mm_ce, hkd]
      exact va_iald hx hb hK hP k 0 he htI hin hdg (h H locs ls hP hD hS hl)
    case baload =>
      replace h := mm_ir_el h
      obtain ⟨j, k, r, rfl, hia, h⟩ := h
      obtain ⟨n, fs, hkd, hin⟩ := mm_za_el hia
      rw [hVd] at h ⊢
      intro H locs ls hP hD hS hl
      have he : (lx_wd ad (cI, cZ, cG) Y ext σ)[k]? = some (ad k, .inl (cZ, n, .inl (σ k))) := by
        rw [lx_wd_get (mm_kd_lt (by rw [hkd]; exact fun z => nomatch z))]; simp only [mm_ce, hkd]
      exact va_zald hx hb hK hP k 1 he htZ hin hdg (h H locs ls hP hD hS hl)
    case aaload =>
      replace h := mm_ir_el h
      obtain ⟨j, k, r, rfl, hia, h⟩ := h
      obtain ⟨n, fs, hkd, hin⟩ := mm_ga_el hia
      rw [hVd] at h ⊢
      intro H locs ls hP hD hS hl
      have he : (lx_wd ad (cI, cZ, cG) Y ext σ)[k]? = some (ad k, .inl (cG, n, .inr (.inr (.inr (.inr (fun j => if j < n then some (ad (k + 1 + j)) else none)))))) := by
        rw [lx_wd_get (mm_kd_lt (by rw [hkd]; exact fun z => nomatch z))]; simp only [mm_ce, hkd]
      have hjn : j.toNatClampNeg < n := Nat.not_le.mp fun q => hin (Or.inr q)
      refine mm_aald hx hb hK hP k 2 he htG hin hdg ?_
      simp only [hjn, if_true]
      exact h H locs ls hP hD hS hl
    case iastore =>
      replace h := mm_iir_el h
      obtain ⟨x, j, k, r, rfl, hia, h⟩ := h
      obtain ⟨n, fs, hkd, hin⟩ := mm_ia_el hia
      rw [hVd] at h ⊢
      intro H locs ls hP hD hS hl
      have he : (lx_wd ad (cI, cZ, cG) Y ext σ)[k]? = some (ad k, .inl (cI, n, .inl (σ k))) := by
        rw [lx_wd_get (mm_kd_lt (by rw [hkd]; exact fun z => nomatch z))]; simp only [mm_ce, hkd]
      have hst : (lx_wd ad (cI, cZ, cG) Y ext σ).set k (ad k, .inl (cI, n, .inl (upd (σ k) j.toNatClampNeg x))) = lx_wd ad (cI, cZ, cG) Y ext (mm_up σ k j.toNatClampNeg x) := by
        refine lx_wd_set (mm_kd_lt (by rw [hkd]; exact fun z => nomatch z)) ?_
        simp only [mm_ce, hkd, mm_up_eq]
      refine va_iast hx hb hK hP hD hS k 0 he htI hin hdg (fun H1 locs1 hP1 hD1 hS1 => ?_)
      rw [hst] at hP1 hD1
      exact h H1 locs1 ls hP1 hD1 hS1 hl
    case bastore =>
      replace h := mm_iir_el h
      obtain ⟨x, j, k, r, rfl, hia, h⟩ := h
      obtain ⟨n, fs, hkd, hin⟩ := mm_za_el hia
      rw [hVd] at h ⊢
      intro H locs ls hP hD hS hl
      have he : (lx_wd ad (cI, cZ, cG) Y ext σ)[k]? = some (ad k, .inl (cZ, n, .inl (σ k))) := by
        rw [lx_wd_get (mm_kd_lt (by rw [hkd]; exact fun z => nomatch z))]; simp only [mm_ce, hkd]
      have hst : (lx_wd ad (cI, cZ, cG) Y ext σ).set k (ad k, .inl (cZ, n, .inl (upd (σ k) j.toNatClampNeg (vp_nar .boolean x)))) = lx_wd ad (cI, cZ, cG) Y ext (mm_up σ k j.toNatClampNeg (vp_nar .boolean x)) := by
        refine lx_wd_set (mm_kd_lt (by rw [hkd]; exact fun z => nomatch z)) ?_
        simp only [mm_ce, hkd, mm_up_eq]
      refine va_zast hx hb hK hP hD hS k 1 he htZ hin hdg (fun H1 locs1 hP1 hD1 hS1 => ?_)
      rw [hst] at hP1 hD1
      exact h H1 locs1 ls hP1 hD1 hS1 hl
    case getfield idx =>
      replace h := mm_r_el h
      obtain ⟨k, r, rfl, h⟩ := h
      replace h := mm_gv_el h
      obtain ⟨ci, j, fs, hlk, hkd, h⟩ := h
      obtain ⟨C0, T, N, hc, hj, hin, hli⟩ := hg idx ci j hlk
      have he : (lx_wd ad (cI, cZ, cG) Y ext σ)[k]? = some (ad k, .inr (ci, mm_fv ad (σ k) 0 fs)) := by
        rw [lx_wd_get (mm_kd_lt (by rw [hkd]; exact fun z => nomatch z))]; simp only [mm_ce, hkd]
      rcases h with ⟨q, hf, h⟩ | ⟨hf, h⟩
      · rw [hVd] at h ⊢
        intro H locs ls hP hD hS hl
        exact va_get (D := D) (ref := (T j).1) hx hb hts hin hown hK hP k he hc j hj (hts _ hli) (fun _ z => z) (mm_fv_ref ad (σ k) fs 0 j q hf) hdg (h H locs ls hP hD hS hl)
      · rw [hVd] at h ⊢
        intro H locs ls hP hD hS hl
        have hv := mm_fv_int ad (σ k) fs 0 j hf
        rw [Nat.zero_add] at hv
        exact va_get (D := D) (ref := (T j).1) hx hb hts hin hown hK hP k he hc j hj (hts _ hli) (fun _ z => z) hv hdg (h H locs ls hP hD hS hl)
    case putfield idx =>
      replace h := mm_ir_el h
      obtain ⟨x, k, r, rfl, h⟩ := h
      replace h := mm_pv_el h
      obtain ⟨ci, j, fs, hlk, hkd, hf, hz, h⟩ := h
      obtain ⟨C0, T, N, ty, hc, hj, hin, hli, hty, hnm, hfin, hd⟩ := hp idx ci j hlk
      have he : (lx_wd ad (cI, cZ, cG) Y ext σ)[k]? = some (ad k, .inr (ci, mm_fv ad (σ k) 0 fs)) := by
        rw [lx_wd_get (mm_kd_lt (by rw [hkd]; exact fun z => nomatch z))]; simp only [mm_ce, hkd]
      have hst : (lx_wd ad (cI, cZ, cG) Y ext σ).set k (ad k, .inr (ci, (mm_fv ad (σ k) 0 fs).set j (.int x))) = lx_wd ad (cI, cZ, cG) Y ext (mm_up σ k j x) := by
        refine lx_wd_set (mm_kd_lt (by rw [hkd]; exact fun z => nomatch z)) ?_
        simp only [mm_ce, hkd, mm_up_eq]
        have q := mm_fv_set ad x fs (σ k) 0 j hf
        rw [Nat.zero_add] at q
        rw [q]
      rw [hVd] at h ⊢
      intro H locs ls hP hD hS hl
      have hnf : narrow (match mm_isZ Y ci j with | true => FieldType.boolean | false => FieldType.int) (.int x) = .int x ∧ fits (match mm_isZ Y ci j with | true => FieldType.boolean | false => FieldType.int) (.int x) = true := by
        cases hz' : mm_isZ Y ci j with
        | false => exact ⟨rfl, rfl⟩
        | true => rcases hz hz' with rfl | rfl <;> exact ⟨rfl, rfl⟩
      refine va_put (D := D) (ref := (T j).1) (v := .int x) hx hb hts hin ty hty hnm hown hK hP hD hS k he hc j hj (hts _ hli) (fun _ z => z) hfin hd hnf.1 hnf.2 (by rw [mm_fv_len]; exact mm_nth_lt hf) hdg (fun H1 locs1 hP1 hD1 hS1 => ?_)
      rw [hst] at hP1 hD1
      exact h H1 locs1 ls hP1 hD1 hS1 hl
    case ldc_w idx =>
      replace h := (hVd (pc + 3) L (.int cs :: S) σ).mp h
      rw [hVd]
      intro H locs ls hP hD hS hl
      exact lv_ldcw hx hb hown (hts _ (hld pc idx len t cs hI)) hdg (h H locs ls hP hD hS hl)
    case goto off =>
      replace h := (hVd t L S σ).mp h
      rw [hVd]
      intro H locs ls hP hD hS hl
      exact lv_goto hx hb hdg (of_decide_eq_true hcst) (h H locs ls hP hD hS hl)
    case ifCond cd off =>
      replace h := mm_1_el h
      obtain ⟨x, r, rfl, h⟩ := h
      have ht : (pc : Int) + off = (t : Int) := of_decide_eq_true hcst
      rw [hVd]
      intro H locs ls hP hD hS hl
      cases cd
      · exact lv_if_eq hx hb hdg ht (fun q => (hVd _ _ _ _).mp (h.1 q) H locs ls hP hD hS hl) (fun q => (hVd _ _ _ _).mp (h.2 q) H locs ls hP hD hS hl)
      · exact lv_if_ne hx hb hdg ht (fun q => (hVd _ _ _ _).mp (h.2 q) H locs ls hP hD hS hl) (fun q => (hVd _ _ _ _).mp (h.1 q) H locs ls hP hD hS hl)
      · exact lv_if_lt hx hb hdg ht (fun q => (hVd _ _ _ _).mp (h.1 q) H locs ls hP hD hS hl) (fun q => (hVd _ _ _ _).mp (h.2 q) H locs ls hP hD hS hl)
      · exact lv_if_ge hx hb hdg ht (fun q => (hVd _ _ _ _).mp (h.1 q) H locs ls hP hD hS hl) (fun q => (hVd _ _ _ _).mp (h.2 q) H locs ls hP hD hS hl)
      · exact lv_if_gt hx hb hdg ht (fun q => (hVd _ _ _ _).mp (h.1 q) H locs ls hP hD hS hl) (fun q => (hVd _ _ _ _).mp (h.2 q) H locs ls hP hD hS hl)
      · exact lv_if_le hx hb hdg ht (fun q => (hVd _ _ _ _).mp (h.1 q) H locs ls hP hD hS hl) (fun q => (hVd _ _ _ _).mp (h.2 q) H locs ls hP hD hS hl)
    case if_icmp cd off =>
      replace h := mm_2_el h
      obtain ⟨x, y, r, rfl, h⟩ := h
      have ht : (pc : Int) + off = (t : Int) := of_decide_eq_true hcst
      rw [hVd]
      intro H locs ls hP hD hS hl
      cases cd
      · exact lv_icmp_eq hx hb hdg ht (fun q => (hVd _ _ _ _).mp (h.1 q) H locs ls hP hD hS hl) (fun q => (hVd _ _ _ _).mp (h.2 q) H locs ls hP hD hS hl)
      · exact lv_icmp_ne hx hb hdg ht (fun q => (hVd _ _ _ _).mp (h.2 q) H locs ls hP hD hS hl) (fun q => (hVd _ _ _ _).mp (h.1 q) H locs ls hP hD hS hl)
      · exact lv_icmp_lt hx hb hdg ht (fun q => (hVd _ _ _ _).mp (h.1 q) H locs ls hP hD hS hl) (fun q => (hVd _ _ _ _).mp (h.2 q) H locs ls hP hD hS hl)
      · exact lv_icmp_ge hx hb hdg ht (fun q => (hVd _ _ _ _).mp (h.1 q) H locs ls hP hD hS hl) (fun q => (hVd _ _ _ _).mp (h.2 q) H locs ls hP hD hS hl)
      · exact lv_icmp_gt hx hb hdg ht (fun q => (hVd _ _ _ _).mp (h.1 q) H locs ls hP hD hS hl) (fun q => (hVd _ _ _ _).mp (h.2 q) H locs ls hP hD hS hl)
      · exact lv_icmp_le hx hb hdg ht (fun q => (hVd _ _ _ _).mp (h.1 q) H locs ls hP hD hS hl) (fun q => (hVd _ _ _ _).mp (h.2 q) H locs ls hP hD hS hl)
    case invokevirtual idx => exact hc1 pc idx L S σ hdg h
    case invokestatic idx => exact hc0 pc idx L S σ hdg h
    case tableswitch dflt lo hi offs =>
      replace h := mm_1_el h
      obtain ⟨x, r, rfl, h⟩ := h
      rcases mm_sw_el h hcst with ⟨t9, h1, h2, h⟩ | ⟨off, t9, h1, h2, h3, h4, h⟩
      · rw [hVd] at h ⊢
        intro H locs ls hP hD hS hl
        exact lv_tableOut hx hb hdg h1 h2 (h H locs ls hP hD hS hl)
      · rw [hVd] at h ⊢
        intro H locs ls hP hD hS hl
        exact lv_tableIn hx hb hdg h1 h2 h3 h4 (h H locs ls hP hD hS hl)
    case ireturn =>
      replace h := mm_rt_el h
      obtain ⟨v, rfl, hq, hm⟩ := h
      rw [hret] at hm
      rcases hm with hm | ⟨hm, -⟩ <;> cases hm
    case return_ =>
      replace h := mm_rv_el h
      obtain ⟨rfl, hq, hm⟩ := h
      rw [hret] at hm
      cases hm
    all_goals exact h.elim
end LXstep

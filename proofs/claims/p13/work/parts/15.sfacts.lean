/-! soundness for this system: methods that may throw, the law's helpers, the law -/
section XS
variable {l : Launch} {D : va_G} {cI cZ cG cJ : ClassId} {ad : Nat → Nat} {sa : Nat → Nat} {d : Nat} {as : List Value} {σ : mm_S} {Q : mm_Q} {XQ : Nat → mm_S → Prop}
theorem xs_C0 (hl : l.stackTraces = false) : ∀ y as σ Q XQ, xC0 y as σ Q XQ → mx_T l gd xs_nm xs_by xs_mx D cs_L [(cI, .int), (cZ, .boolean), (cG, .array .int)] ad (cI, cZ, cG) ms_Y xs_dc xs_st sa xs_exn 0 0 y as σ Q XQ := by
  rintro y as σ Q XQ ⟨rfl, rfl, h⟩
  exact mx_sound hl gd_good ms_M ms_m ms_hB (ms_sound 0) (y := 10) (M := xt_10) (th := xh_10) (xc := xx_10) (CX := fun _ _ _ _ _ => False) (by decide +kernel) xe_10 xg_10 xp_10 xc_10 (mm_nold (by decide +kernel)) xa_10 xb_10 (fun _ _ _ _ _ h => h.elim) rfl h
theorem xq_0 (hl : l.stackTraces = false) (h : xD (d + 1) 0 as σ Q XQ) : mx_T l gd xs_nm xs_by xs_mx D cs_L [(cI, .int), (cZ, .boolean), (cG, .array .int)] ad (cI, cZ, cG) ms_Y xs_dc xs_st sa xs_exn 0 (d + 1) 0 as σ Q XQ :=
  mx_sound hl gd_good ms_M ms_m ms_hB (ms_sound (d + 1)) (y := 0) (M := xt_0) (th := xh_0) (xc := xx_0) (CX := xC0) (by decide +kernel) xe_0 xg_0 xp_0 xc_0 (mm_nold (by decide +kernel)) xa_0 xb_0 (fun y' as' σ' Q' XQ' h => ⟨0, Nat.succ_pos _, xs_C0 hl y' as' σ' Q' XQ' h⟩) h.1 h.2
theorem xq_1 (hl : l.stackTraces = false) (h : xD (d + 1) 1 as σ Q XQ) : mx_T l gd xs_nm xs_by xs_mx D cs_L [(cI, .int), (cZ, .boolean), (cG, .array .int)] ad (cI, cZ, cG) ms_Y xs_dc xs_st sa xs_exn 1 (d + 1) 1 as σ Q XQ :=
  mx_sound hl gd_good ms_M ms_m ms_hB (ms_sound (d + 1)) (y := 1) (M := xt_1) (th := xh_1) (xc := xx_1) (CX := xC0) (by decide +kernel) xe_1 xg_1 xp_1 xc_1 (mm_nold (by decide +kernel)) xa_1 xb_1 (fun y' as' σ' Q' XQ' h => ⟨0, Nat.succ_pos _, xs_C0 hl y' as' σ' Q' XQ' h⟩) h.1 h.2
theorem xq_2 (hl : l.stackTraces = false) (h : xD (d + 1) 2 as σ Q XQ) : mx_T l gd xs_nm xs_by xs_mx D cs_L [(cI, .int), (cZ, .boolean), (cG, .array .int)] ad (cI, cZ, cG) ms_Y xs_dc xs_st sa xs_exn 0 (d + 1) 2 as σ Q XQ :=
  mx_sound hl gd_good ms_M ms_m ms_hB (ms_sound (d + 1)) (y := 2) (M := xt_2) (th := xh_2) (xc := xx_2) (CX := xC0) (by decide +kernel) xe_2 xg_2 xp_2 xc_2 (mm_nold (by decide +kernel)) xa_2 xb_2 (fun y' as' σ' Q' XQ' h => ⟨0, Nat.succ_pos _, xs_C0 hl y' as' σ' Q' XQ' h⟩) h.1 h.2
theorem xq_3 (hl : l.stackTraces = false) (h : xD (d + 1) 3 as σ Q XQ) : mx_T l gd xs_nm xs_by xs_mx D cs_L [(cI, .int), (cZ, .boolean), (cG, .array .int)] ad (cI, cZ, cG) ms_Y xs_dc xs_st sa xs_exn 0 (d + 1) 3 as σ Q XQ :=
  mx_sound hl gd_good ms_M ms_m ms_hB (ms_sound (d + 1)) (y := 3) (M := xt_3) (th := xh_3) (xc := xx_3) (CX := xC0) (by decide +kernel) xe_3 xg_3 xp_3 xc_3 (mm_nold (by decide +kernel)) xa_3 xb_3 (fun y' as' σ' Q' XQ' h => ⟨0, Nat.succ_pos _, xs_C0 hl y' as' σ' Q' XQ' h⟩) h.1 h.2
theorem xq_4 (hl : l.stackTraces = false) (h : xD (d + 1) 4 as σ Q XQ) : mx_T l gd xs_nm xs_by xs_mx D cs_L [(cI, .int), (cZ, .boolean), (cG, .array .int)] ad (cI, cZ, cG) ms_Y xs_dc xs_st sa xs_exn 0 (d + 1) 4 as σ Q XQ :=
  mx_sound hl gd_good ms_M ms_m ms_hB (ms_sound (d + 1)) (y := 4) (M := xt_4) (th := xh_4) (xc := xx_4) (CX := xC0) (by decide +kernel) xe_4 xg_4 xp_4 xc_4 (mm_nold (by decide +kernel)) xa_4 xb_4 (fun y' as' σ' Q' XQ' h => ⟨0, Nat.succ_pos _, xs_C0 hl y' as' σ' Q' XQ' h⟩) h.1 h.2
theorem xq_5 (hl : l.stackTraces = false) (h : xD (d + 1) 5 as σ Q XQ) : mx_T l gd xs_nm xs_by xs_mx D cs_L [(cI, .int), (cZ, .boolean), (cG, .array .int)] ad (cI, cZ, cG) ms_Y xs_dc xs_st sa xs_exn 1 (d + 1) 5 as σ Q XQ :=
  mx_sound hl gd_good ms_M ms_m ms_hB (ms_sound (d + 1)) (y := 5) (M := xt_5) (th := xh_5) (xc := xx_5) (CX := xC0) (by decide +kernel) xe_5 xg_5 xp_5 xc_5 (mm_nold (by decide +kernel)) xa_5 xb_5 (fun y' as' σ' Q' XQ' h => ⟨0, Nat.succ_pos _, xs_C0 hl y' as' σ' Q' XQ' h⟩) h.1 h.2
theorem xq_6 (hl : l.stackTraces = false) (h : xD (d + 1) 6 as σ Q XQ) : mx_T l gd xs_nm xs_by xs_mx D cs_L [(cI, .int), (cZ, .boolean), (cG, .array .int)] ad (cI, cZ, cG) ms_Y xs_dc xs_st sa xs_exn 1 (d + 1) 6 as σ Q XQ :=
  mx_sound hl gd_good ms_M ms_m ms_hB (ms_sound (d + 1)) (y := 6) (M := xt_6) (th := xh_6) (xc := xx_6) (CX := xC0) (by decide +kernel) xe_6 xg_6 xp_6 xc_6 (mm_nold (by decide +kernel)) xa_6 xb_6 (fun y' as' σ' Q' XQ' h => ⟨0, Nat.succ_pos _, xs_C0 hl y' as' σ' Q' XQ' h⟩) h.1 h.2
theorem xq_7 (hl : l.stackTraces = false) (h : xD (d + 1) 7 as σ Q XQ) : mx_T l gd xs_nm xs_by xs_mx D cs_L [(cI, .int), (cZ, .boolean), (cG, .array .int)] ad (cI, cZ, cG) ms_Y xs_dc xs_st sa xs_exn 1 (d + 1) 7 as σ Q XQ :=
  mx_sound hl gd_good ms_M ms_m ms_hB (ms_sound (d + 1)) (y := 7) (M := xt_7) (th := xh_7) (xc := xx_7) (CX := xC0) (by decide +kernel) xe_7 xg_7 xp_7 xc_7 (mm_nold (by decide +kernel)) xa_7 xb_7 (fun y' as' σ' Q' XQ' h => ⟨0, Nat.succ_pos _, xs_C0 hl y' as' σ' Q' XQ' h⟩) h.1 h.2
theorem xq_8 (hl : l.stackTraces = false) (h : xD (d + 1) 8 as σ Q XQ) : mx_T l gd xs_nm xs_by xs_mx D cs_L [(cI, .int), (cZ, .boolean), (cG, .array .int)] ad (cI, cZ, cG) ms_Y xs_dc xs_st sa xs_exn 1 (d + 1) 8 as σ Q XQ :=
  mx_sound hl gd_good ms_M ms_m ms_hB (ms_sound (d + 1)) (y := 8) (M := xt_8) (th := xh_8) (xc := xx_8) (CX := xC0) (by decide +kernel) xe_8 xg_8 xp_8 xc_8 (mm_nold (by decide +kernel)) xa_8 xb_8 (fun y' as' σ' Q' XQ' h => ⟨0, Nat.succ_pos _, xs_C0 hl y' as' σ' Q' XQ' h⟩) h.1 h.2
theorem xq_9 (hl : l.stackTraces = false) (h : xD (d + 1) 9 as σ Q XQ) : mx_T l gd xs_nm xs_by xs_mx D cs_L [(cI, .int), (cZ, .boolean), (cG, .array .int)] ad (cI, cZ, cG) ms_Y xs_dc xs_st sa xs_exn 1 (d + 1) 9 as σ Q XQ :=
  mx_sound hl gd_good ms_M ms_m ms_hB (ms_sound (d + 1)) (y := 9) (M := xt_9) (th := xh_9) (xc := xx_9) (CX := xC0) (by decide +kernel) xe_9 xg_9 xp_9 xc_9 (mm_nold (by decide +kernel)) xa_9 xb_9 (fun y' as' σ' Q' XQ' h => ⟨0, Nat.succ_pos _, xs_C0 hl y' as' σ' Q' XQ' h⟩) h.1 h.2
theorem lH_T (hl : l.stackTraces = false) : ∀ y as σ f HQ, lH (d + 1) y as σ f HQ → hx_T l gd hs_m D cs_L [(cI, .int), (cZ, .boolean), (cG, .array .int)] ad (cI, cZ, cG) ms_Y cJ xs_dc xs_st sa hs_cs hs_ns (d + 1) y as σ f HQ := by
  intro y as σ f HQ h
  unfold lH at h
  split at h
  · obtain ⟨rfl, h⟩ := h
    exact hh_0 (xq_0 hl h) (fun _ _ z => z) (fun _ _ z => z)
  · obtain ⟨⟨rfl, rfl⟩, h⟩ := h
    exact hh_1 (xq_1 hl h) (fun _ _ z => z) (fun _ _ z => z)
  · obtain ⟨rfl, h⟩ := h
    exact hh_2 (xq_2 hl h) (fun _ _ z => z) (fun _ _ z => z)
  · obtain ⟨rfl, h⟩ := h
    exact hh_3 (xq_3 hl h) (fun _ _ z => z) (fun _ _ z => z)
  · obtain ⟨rfl, h⟩ := h
    exact hh_4 (xq_4 hl h) (fun _ _ z => z) (fun _ _ z => z)
  · obtain ⟨⟨rfl, rfl⟩, h⟩ := h
    exact hh_5 (xq_5 hl h) (fun _ _ z => z) (fun _ _ z => z)
  · obtain ⟨⟨rfl, rfl⟩, h⟩ := h
    exact hh_6 (xq_6 hl h) (fun _ _ z => z) (fun _ _ z => z)
  · obtain ⟨⟨rfl, rfl⟩, h⟩ := h
    exact hh_7 (xq_7 hl h) (fun _ _ z => z) (fun _ _ z => z)
  · obtain ⟨⟨rfl, rfl⟩, h⟩ := h
    exact hh_8 (xq_8 hl h) (fun _ _ z => z) (fun _ _ z => z)
  · obtain ⟨⟨rfl, rfl⟩, h⟩ := h
    exact hh_9 (xq_9 hl h) (fun _ _ z => z) (fun _ _ z => z)
  · exact h.elim
variable {p : Program} {e : Env} {R : Room} {s : State} {m : MethodId} {args : Array Value} {below : List Frame} {meth : Method} {c : Code} {Qf : State → Prop} {A : Nat → Prop} {c0 s0 : Nat} {xs : Nat → Int32} {len T : Nat}
/-- the law's walk in the pure setting -/
abbrev lw (d : Nat) (xs : Nat → Int32) (len T : Nat) : lx_X := lx_W ms_Y (mD (d + 1)) (lH (d + 1)) lt_M lt_sp (fun y => (hs_m y).2.2.2.2) (fun _ => 0) xs len T
theorem ls_sound (hl : l.stackTraces = false) (hx : p.tables.exec = Jvm.exec) (hb : c.code = code) (hml : c.maxLocals = 7) (hown : s.vm.findClass "HouseDeskLaw" = some m.cls) (hts : ∀ w ∈ gd, w.before args s = true) (hK : va_K D cs_L [(cI, .int), (cZ, .boolean), (cG, .array .int)] s) (hJ : va_K D cs_L [(cJ, .long)] s)
    (hN : mx_N xs_dc xs_st sa A s s.heap) (hG0 : mm_G ad A s s.heap) (hC : hx_N hs_cs hs_ns s) (hXs : va_X (ad 200) len xs s s.heap) (hbl : ad 200 < s.heap.size) (hbA : ¬ A (ad 200)) (hA : ∀ q, s.heap.size ≤ q → A q)
    (hfr : d + 1 + 10 ≤ R.frames) (hlo : 40 * (d + 1) + 280 ≤ R.locals) (hce : c0 + T ≤ R.cells) (hsl : s0 + 6 * T ≤ R.slots)
    (hfin : ∀ (pc : Nat) (H : Heap) (locs : List Loc) (ls : Array Slot) (t : Nat), t ≤ T → decode code pc = .ok (.ireturn, 1) → va_S A s.heap H locs → W p l e R s m args below meth c H locs (c0 + t) (s0 + 6 * t) Qf (F0 m pc ls [.int 1]))
    {pc : Nat} {L : List (Option Value)} {S : List Value} {σ : mm_S} {f : Nat → Int64} {t : Nat} (ht : t ≤ T) (h : lw d xs len T pc L S σ f t) :
    lx_V p l e R s m args below meth c D cs_L A ad (cI, cZ, cG) ms_Y 7 Qf (hx_e (ad 201) cJ f) (c0 + t) (s0 + 6 * t) pc L S σ :=
  lx_sound (own := "HouseDeskLaw") ms_Bm gd_good rfl ms_M ms_m ms_hB (ms_sound (d + 1)) (lH_T hl) hx hb hml hown hts hK hJ lt_e lt_g lt_p lt_k (mm_nold (by decide +kernel)) lt_sk hN hG0 hC hXs hbl hbA hA hfr hlo hce hsl hfin ht h
end XS

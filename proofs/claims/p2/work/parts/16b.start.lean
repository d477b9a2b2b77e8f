/-! the law's first rows: two objects and an array are made -/
section LPm
variable {p : Program} {l : Launch} {e : Env} {R : Room} {s : State} {m : MethodId} {args : Array Value} {below : List Frame} {meth : Method} {c : Code} {Qf : State → Prop} {D : va_G} {cI cZ cG : ClassId} {A : Nat → Prop} {cc : ByteArray} {own : String} {nL : Nat}
set_option maxHeartbeats 1000000 in
theorem lp_make (hx : p.tables.exec = Jvm.exec) (hb : c.code = cc) (hml : c.maxLocals = nL) (hown : s.vm.findClass own = some m.cls) (hts : ∀ w ∈ gd, w.before args s = true) (hK : va_K D cs_L [(cI, .int), (cZ, .boolean), (cG, .array .int)] s) (hN : bm_N bn_ne s) (hA : ∀ q, s.heap.size ≤ q → A q)
    {ad : Nat → Nat} {κ κ2 : List bm_K} {ci : Nat} {vs : List Value} {idx ix y dd pc cells slots : Nat} {H : Heap} {locs : List Loc} {ls : Array Slot}
    (hnok : bm_nok cs_L gd own (idx, ci, vs)) (hmx : bn_mx y ≤ 21) (hcode : Cond.code (bn_nm y) (bn_by y) (bn_mx y) none ∈ gd) (hini : Cond.initialized (bn_nm y).cls ∈ gd) (hinst : Cond.instanceMethod (bn_nm y) ∈ gd) (hnm1 : (bn_nm y).name = "<init>")
    (hd : (bn_nm y).cls ≠ "java/lang/invoke/MethodHandle" ∧ (bn_nm y).cls ≠ "java/lang/invoke/VarHandle" ∧ (parseMethodDescriptor (bn_nm y).desc).map (fun d => d.parameters.length) = some 0) (hlink : Cond.methodLink own ix (bn_nm y) ∈ gd)
    (hT : bm_T l gd bn_nm bn_by bn_mx D cs_L [(cI, .int), (cZ, .boolean), (cG, .array .int)] bn_ne (cI, cZ, cG) dd y [.ref κ.length] (κ ++ [((0, ci, vs, bm_z) : bm_K)]) κ2) (hbo : κ.zipIdx.all (bm_cok κ.length) = true) (hm1 : κ.length + 1 ≤ κ2.length) (hm2 : bm_sl κ + vs.length ≤ bm_sl κ2)
    (hRc : cells + (κ2.length - κ.length) ≤ R.cells) (hRs : slots + (bm_sl κ2 - bm_sl κ) ≤ R.slots) (hRf : dd + 2 ≤ R.frames) (hRl : 40 + 40 * (dd + 1) ≤ R.locals) (d0 : decode cc pc = .ok (.new idx, 3)) (d1 : decode cc (pc + 3) = .ok (.dup, 1)) (d2 : decode cc (pc + 4) = .ok (.invokespecial ix, 3))
    (hP : va_P D cs_L (bm_wd ad (cI, cZ, cG) κ) H) (hD : va_D A (bm_wd ad (cI, cZ, cG) κ)) (hS : va_S A s.heap H locs) (hsz : ls.size = nL)
    (kk : ∀ (ad' : Nat → Nat) (H1 : Heap) (locs1 : List Loc), (∀ k, k < κ.length → ad' k = ad k) → va_P D cs_L (bm_wd ad' (cI, cZ, cG) κ2) H1 → va_D A (bm_wd ad' (cI, cZ, cG) κ2) → va_S A s.heap H1 locs1 → W p l e R s m args below meth c H1 locs1 (cells + (κ2.length - κ.length)) (slots + (bm_sl κ2 - bm_sl κ)) Qf (F0 m (pc + 7) ls [.ref (ad' κ.length)])) :
    W p l e R s m args below meth c H locs cells slots Qf (F0 m pc ls []) := by
  obtain ⟨C0, T, N, tf, hc, hlen, hin, hcl, hins, hini0, htf, hdf, h0⟩ := hnok
  dsimp only at hc hlen hcl hdf h0
  have e1 : (κ ++ [((0, ci, vs, bm_z) : bm_K)]).length = κ.length + 1 := by rw [List.length_append]; rfl
  have e2 : bm_sl (κ ++ [((0, ci, vs, bm_z) : bm_K)]) = bm_sl κ + N := by rw [bm_sl_app]; simp [bm_sl, bm_s1]; omega
  refine va_new (ci := ci) (fs := vs) (C := C0) (T := T) (N := N) hx hb hts hin tf htf hown (hts _ hcl) (hts _ hins) (hts _ hini0) hK hP hD hS hA hc hdf (by omega) (by omega) d0 (fun q H1 hP1 hD1 hS1 => ?_)
  have hw := bm_push (ad := ad) (a3 := (cI, cZ, cG)) (c := ((0, ci, vs, bm_z) : bm_K)) (q := q) (e := .inr (ci, vs)) hbo (by simp only [bm_ce, bm_rho0 h0])
  refine lv_dup hx hb d1 rfl ?_
  rw [← hw] at hP1 hD1
  have hqe : bm_ad ad κ.length q κ.length = q := bm_ad_at
  have hMt := hT (bm_ad ad κ.length q) H1.size
  have hA1 : ∀ x, va_A (bm_wd (bm_ad ad κ.length q) (cI, cZ, cG) (κ ++ [((0, ci, vs, bm_z) : bm_K)])) H1.size x → A x := fun x hx9 => by
    rcases hx9 with ⟨k, e9, h9⟩ | h9
    · exact hD1.2 k (x, e9) h9
    · exact hA x (Nat.le_trans hS1.1 h9)
  have hG : GoodIn gd (bm_ws gd bn_nm bn_by bn_mx y) := fun w hw => by
    rcases List.mem_cons.mp hw with h9 | h9
    · subst h9
      exact ⟨hcode, good_of_word (gd_good _ hcode)⟩
    · exact ⟨h9, good_of_word (gd_good _ h9)⟩
  have hpre : PreS s H1 (va_Pc (([.ref κ.length] : List Value).map (mm_rho (bm_ad ad κ.length q))) (bm_B D cs_L [(cI, .int), (cZ, .boolean), (cG, .array .int)] bn_ne (bm_ad ad κ.length q) (cI, cZ, cG) (κ ++ [((0, ci, vs, bm_z) : bm_K)]) H1.size)) (.ref (bm_ad ad κ.length q κ.length) :: []) :=
    ⟨fun a U g mk q => by obtain ⟨q0, q1, qP, ⟨qK, qN⟩, qD⟩ := q; exact ⟨q0, q1, qP, ⟨va_K.moved (u := U) (U := U.calling g mk a) (Vm.Alike.refl U.vm) qK, bm_N.same (u := U) (U := U.calling g mk a) rfl qN⟩, qD⟩, fun U hU hW => ⟨rfl, by rw [hU], by rw [hU]; exact hP1, ⟨va_K.moved hW.alike hK, bm_N.moved hW hN⟩, hD1.weaken (fun _ _ _ _ => trivial)⟩⟩
  have hroom : (bm_rm dd (κ ++ [((0, ci, vs, bm_z) : bm_K)]) κ2).frames + 1 ≤ R.frames ∧ 8 + (bn_mx y + 11) + (bm_rm dd (κ ++ [((0, ci, vs, bm_z) : bm_K)]) κ2).locals ≤ R.locals := by
    refine ⟨?_, ?_⟩
    · show dd + 1 + 1 ≤ R.frames; omega
    · show 8 + (bn_mx y + 11) + 40 * (dd + 1) ≤ R.locals; omega
  have hcs1 : cells + 1 + (κ2.length - (κ ++ [((0, ci, vs, bm_z) : bm_K)]).length) ≤ R.cells ∧ slots + N + (bm_sl κ2 - bm_sl (κ ++ [((0, ci, vs, bm_z) : bm_K)])) ≤ R.slots := by
    rw [e1, e2]
    omega
  have hgo := bm_goon (Qf := Qf) (va_runI (g := F0 m (pc + 4) ls [.ref (bm_ad ad κ.length q κ.length), .ref q]) (b := bm_ad ad κ.length q κ.length) (As := []) (rest := [.ref q]) (n := 0) (locs := locs) (cells := cells + 1) (slots := slots + N) (e := e) (below := below) (meth := meth) ⟨hx, hb, hml, hown, hts⟩ hMt (cwI 0 hts hG rfl rfl rfl (hts _ hini) (hts _ hlink) (hts _ hinst) hnm1 hd hroom) hpre rfl rfl hsz rfl (lv_room (by show 1 + 0 ≤ 8; omega)) d2 hcs1) hS1 hA1 (fun ad' H2 locs2 hag hP2 hD2 hS2 => ?_)
  · rw [hqe] at hgo
    exact hgo
  · rw [e1] at hag
    have h9 := kk ad' H2 locs2 (fun k hk => (hag k (by omega)).trans (bm_ag k (by omega))) hP2 hD2 hS2
    rw [hag κ.length (by omega), hqe] at h9
    rw [e1, e2, show cells + 1 + (κ2.length - (κ.length + 1)) = cells + (κ2.length - κ.length) by omega, show slots + N + (bm_sl κ2 - (bm_sl κ + N)) = slots + (bm_sl κ2 - bm_sl κ) by omega]
    exact h9
end LPm
def mm_wf (Y : mm_Y) : Bool := (List.range Y.1.length).all (fun k => match mm_kd Y k with
  | (0, _, fs) => fs.all (fun o => match o with | some t => Nat.blt t Y.1.length | none => true)
  | (1, _, _) => true
  | (2, _, _) => true
  | (_, n, _) => Nat.ble (k + 1 + n) Y.1.length)
theorem mm_fv_cg {ad ad' : Nat → Nat} {N : Nat} (h : ∀ k, k < N → ad k = ad' k) (f : Nat → Int32) : ∀ (fs : List (Option Nat)) (j : Nat), fs.all (fun o => match o with | some t => Nat.blt t N | none => true) = true → mm_fv ad f j fs = mm_fv ad' f j fs
  | [], _, _ => rfl
  | none :: r, j, hw => by
    simp only [mm_fv]
    rw [mm_fv_cg h f r (j + 1) (by simpa using hw)]
  | some t :: r, j, hw => by
    rw [List.all_cons, Bool.and_eq_true] at hw
    simp only [mm_fv]
    rw [mm_fv_cg h f r (j + 1) hw.2, h t (Nat.le_of_ble_eq_true hw.1)]
theorem mm_wd_cg {ad ad' : Nat → Nat} {a3 : ClassId × ClassId × ClassId} {Y : mm_Y} {σ : mm_S} (hw : mm_wf Y = true) (h : ∀ k, k < Y.1.length → ad k = ad' k) : mm_wd ad a3 Y σ = mm_wd ad' a3 Y σ := by
  unfold mm_wd
  apply List.map_congr_left
  intro k hk
  have hk1 := List.mem_range.mp hk
  have hq := List.all_eq_true.mp hw k hk
  rw [h k hk1]
  have : mm_ce ad a3 Y σ k = mm_ce ad' a3 Y σ k := by
    unfold mm_ce
    split at hq
    · rename_i ci fs e
      simp only [e]
      rw [mm_fv_cg h _ _ _ hq]
    · rename_i e
      simp only [e]
    · rename_i e
      simp only [e]
    · rename_i z n fs h0 h1 h2 e
      have hfe : (fun j => if j < n then some (ad (k + 1 + j)) else none) = (fun j => if j < n then some (ad' (k + 1 + j)) else none) := by
        funext j
        by_cases hj : j < n
        · simp only [hj, if_true]
          rw [h (k + 1 + j) (by have := Nat.le_of_ble_eq_true hq; omega)]
        · simp only [hj, if_false]
      rw [e]
      split
      · rename_i ci' fs' e'; cases e'; exact absurd rfl h0
      · rename_i n' x' e'; cases e'; exact absurd rfl h1
      · rename_i n' x' e'; cases e'; exact absurd rfl h2
      · rename_i z' n' x' a b c' e'; cases e'; rw [hfe]
  rw [this]
theorem ms_wf : mm_wf ms_Y = true := by decide +kernel

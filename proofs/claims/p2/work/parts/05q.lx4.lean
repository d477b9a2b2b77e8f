/-! the law's machine -/
abbrev lx_X : Type := Nat → List (Option Value) → List Value → mm_S → (Nat → Int64) → Nat → Prop
abbrev lx_H : Type := Nat → List Value → mm_S → (Nat → Int64) → (Int32 → mm_S → (Nat → Int64) → Prop) → Prop
theorem lx_pop_el : ∀ (n : Nat) (acc S as r : List Value), mm_pop n acc S = some (as, r) → ∃ bs, as = bs ++ acc ∧ S = bs.reverse ++ r ∧ bs.length = n
  | 0, acc, S, as, r, h => by
    simp only [mm_pop, Option.some.injEq, Prod.mk.injEq] at h
    exact ⟨[], by simp [h.1], by simp [h.2], rfl⟩
  | n + 1, acc, v :: S, as, r, h => by
    simp only [mm_pop] at h
    obtain ⟨bs, h1, h2, h3⟩ := lx_pop_el n (v :: acc) S as r h
    exact ⟨bs ++ [v], by simp [h1], by simp [h2], by simp [h3]⟩
  | n + 1, acc, [], as, r, h => by simp [mm_pop] at h
def lx_ll (S : List Value) (K : Int64 → Int64 → List Value → Prop) : Prop := match S with
  | .long y :: .long x :: r => K y x r
  | _ => False
theorem lx_ll_el {S : List Value} {K : Int64 → Int64 → List Value → Prop} (h : lx_ll S K) : ∃ y x r, S = .long y :: .long x :: r ∧ K y x r := by
  unfold lx_ll at h; split at h
  · exact ⟨_, _, _, rfl, h⟩
  · exact h.elim
def lx_pp (n : Nat) (S : List Value) (K : List Value → List Value → Prop) : Prop := match mm_pop n [] S with
  | some (as, r) => K as r
  | none => False
theorem lx_pp_el {n : Nat} {S : List Value} {K : List Value → List Value → Prop} (h : lx_pp n S K) : ∃ as r, S = as.reverse ++ r ∧ as.length = n ∧ K as r := by
  unfold lx_pp at h; split at h
  · rename_i as r hpop
    obtain ⟨bs, e1, e2, e3⟩ := lx_pop_el _ _ _ _ _ hpop
    rw [List.append_nil] at e1
    subst e1
    exact ⟨_, _, e2, e3, h⟩
  · exact h.elim
/-- sp: what is special at which pc (0 script read, 1 its length, 2 out read, 3 i2l, 4 lcmp, 5 switch, 6 helper, 7 end); ar: a helper's number of arguments -/
def lx_one (Y : mm_Y) (C : mm_C) (HC : lx_H) (M : mm_M) (sp : List (Nat × Nat × Nat)) (ar : Nat → Nat) (sw : Int32 → Nat) (xs : Nat → Int32) (len T : Nat) (X : lx_X) : lx_X := fun pc L S σ f t => match mm_look sp pc with
  | some (0, _) => mm_ir S (fun i k r => k = 200 ∧ vp_in i len ∧ X (pc + 1) L (.int (xs i.toNatClampNeg) :: r) σ f t)
  | some (1, _) => mm_r S (fun k r => k = 200 ∧ X (pc + 1) L (.int (Int32.ofNat len) :: r) σ f t)
  | some (2, _) => mm_ir S (fun i k r => k = 201 ∧ i = 0 ∧ X (pc + 1) L (.long (f 0) :: r) σ f t)
  | some (3, _) => mm_1 S (fun x r => X (pc + 1) L (.long x.toInt64 :: r) σ f t)
  | some (4, _) => lx_ll S (fun y x r => X (pc + 1) L (.int (lg_cmp x y) :: r) σ f t)
  | some (5, _) => mm_1 S (fun x r => X (sw x) L r σ f t)
  | some (6, y) => lx_pp (ar y) S (fun as r => mm_c1 8 r = true ∧ t < T ∧ HC y as σ f (fun k σ' f' => X (pc + 3) L (.int k :: r) σ' f' (t + 1)))
  | some (7, _) => S = [.int 1]
  | some _ => False
  | none => mm_one Y C M (fun _ _ => False) (fun pc L S σ => X pc L S σ f t) pc L S σ
def lx_W (Y : mm_Y) (C : mm_C) (HC : lx_H) (M : mm_M) (sp : List (Nat × Nat × Nat)) (ar : Nat → Nat) (sw : Int32 → Nat) (xs : Nat → Int32) (len T : Nat) : lx_X := fun pc L S σ f t => ∀ X : lx_X, (∀ pc L S σ f t, lx_one Y C HC M sp ar sw xs len T X pc L S σ f t → X pc L S σ f t) → X pc L S σ f t
def lx_sok (Ts : List Cond) (own : String) (cc : ByteArray) (hm : hx_M) (sw : Int32 → Nat) (q : Nat × Nat × Nat) : Prop := match q.2.1 with
  | 0 => decode cc q.1 = .ok (.iaload, 1)
  | 1 => decode cc q.1 = .ok (.arraylength, 1)
  | 2 => decode cc q.1 = .ok (.laload, 1)
  | 3 => decode cc q.1 = .ok (.i2l, 1)
  | 4 => decode cc q.1 = .ok (.lcmp, 1)
  | 5 => ∃ (dflt lo hi : Int) (offs : Array Int) (len : Nat), decode cc q.1 = .ok (.tableswitch dflt lo hi offs, len) ∧ ∀ x : Int32, ((x.toInt < lo ∨ hi < x.toInt) ∧ (q.1 : Int) + dflt = (sw x : Int)) ∨ (¬ x.toInt < lo ∧ ¬ hi < x.toInt ∧ ∃ off, offs[(x.toInt - lo).toNat]? = some off ∧ (q.1 : Int) + off = (sw x : Int))
  | 6 => hx_ok Ts own cc hm q.1 q.2.2
  | 7 => decode cc q.1 = .ok (.ireturn, 1)
  | _ => False
section LXs
variable {l : Launch} {Ts : List Cond} {nm : Nat → MethodName} {by_ : Nat → ByteArray} {mx : Nat → Nat} {D : va_G} {cl : List vw_C} {cI cZ cG cJ : ClassId} {ad : Nat → Nat} {Y : mm_Y} {B : mm_C} {yM ym : Nat}
variable {p : Program} {e : Env} {R : Room} {s : State} {m : MethodId} {args : Array Value} {below : List Frame} {meth : Method} {c : Code} {cc : ByteArray} {own : String} {nL d : Nat} {M : mm_M} {Qf : State → Prop} {A : Nat → Prop} {c0 s0 : Nat}
variable {dc : List MethodName} {st : mx_St} {sa : Nat → Nat} {cs ns : List (String × String)} {hm : hx_M} {HC : lx_H} {sp : List (Nat × Nat × Nat)} {sw : Int32 → Nat} {xs : Nat → Int32} {len T : Nat}
set_option maxHeartbeats 4000000 in
theorem lx_sound (hBm : mm_mono B) (hgood : ∀ w ∈ Ts, goodWord w = true) (hret : M.2.2.2.2 = 7)
    (hMn : nm yM = Lib.Math.max.name ∧ by_ yM = Lib.Math.max.code ∧ mx yM = 2 ∧ (mm_me Y yM).2.2.2.2 = 1 ∧ (mm_me Y yM).1 = []) (hmn : nm ym = Lib.Math.min.name ∧ by_ ym = Lib.Math.min.code ∧ mx ym = 2 ∧ (mm_me Y ym).2.2.2.2 = 1 ∧ (mm_me Y ym).1 = [])
    (hB : ∀ y as σ Q, B y as σ Q → (y ≠ yM ∧ y ≠ ym ∧ ∀ d, mm_T l Ts nm by_ mx D cl [(cI, .int), (cZ, .boolean), (cG, .array .int)] ad (cI, cZ, cG) Y d y as σ Q) ∨ (y = yM ∧ ∃ x z, as = [.int x, .int z] ∧ Q (some (.int (if x < z then z else x))) σ) ∨ (y ≠ yM ∧ y = ym ∧ ∃ x z, as = [.int x, .int z] ∧ Q (some (.int (if z < x then z else x))) σ))
    (hTT : ∀ y as σ Q, y ≠ yM → y ≠ ym → mm_D Y B mx d y as σ Q → mm_T l Ts nm by_ mx D cl [(cI, .int), (cZ, .boolean), (cG, .array .int)] ad (cI, cZ, cG) Y d y as σ Q)
    (hHC : ∀ y as σ f HQ, HC y as σ f HQ → hx_T l Ts hm D cl [(cI, .int), (cZ, .boolean), (cG, .array .int)] ad (cI, cZ, cG) Y cJ dc st sa cs ns d y as σ f HQ)
    (hx : p.tables.exec = Jvm.exec) (hb : c.code = cc) (hml : c.maxLocals = nL) (hown : s.vm.findClass own = some m.cls) (hts : ∀ w ∈ Ts, w.before args s = true) (hK : va_K D cl [(cI, .int), (cZ, .boolean), (cG, .array .int)] s) (hJ : va_K D cl [(cJ, .long)] s)
    (hE : M.1.all (mm_okE cc) = true) (hg : ∀ q ∈ M.2.1, mm_gok cl Ts own q.1 q.2.1 q.2.2) (hp : ∀ q ∈ M.2.2.1, mm_pok Y cl Ts own q.1 q.2.1 q.2.2) (hk : ∀ q ∈ M.2.2.2.1, mm_kok Ts nm by_ mx cl Y own q) (hld : ∀ (pc idx len t : Nat) (v : Int32), mm_look M.1 pc = some (.ldc_w idx, len, t, v) → Cond.constant own idx v ∈ Ts)
    (hsp : ∀ q ∈ sp, lx_sok Ts own cc hm sw q) (hN : mx_N dc st sa A s s.heap) (hG0 : mm_G ad A s s.heap) (hC : hx_N cs ns s) (hXs : va_X (ad 200) len xs s s.heap) (hbl : ad 200 < s.heap.size) (hbA : ¬ A (ad 200)) (hA : ∀ q, s.heap.size ≤ q → A q)
    (hfr : d + 10 ≤ R.frames) (hlo : 40 * d + 280 ≤ R.locals) (hce : c0 + T ≤ R.cells) (hsl : s0 + 6 * T ≤ R.slots)
    (hfin : ∀ (pc : Nat) (H : Heap) (locs : List Loc) (ls : Array Slot) (t : Nat), t ≤ T → decode cc pc = .ok (.ireturn, 1) → va_S A s.heap H locs → W p l e R s m args below meth c H locs (c0 + t) (s0 + 6 * t) Qf (F0 m pc ls [.int 1]))
    {pc : Nat} {L : List (Option Value)} {S : List Value} {σ : mm_S} {f : Nat → Int64} {t : Nat} (ht : t ≤ T) (h : lx_W Y (mm_D Y B mx d) HC M sp (fun y => (hm y).2.2.2.2) sw xs len T pc L S σ f t) :
    lx_V p l e R s m args below meth c D cl A ad (cI, cZ, cG) Y nL Qf (hx_e (ad 201) cJ f) (c0 + t) (s0 + 6 * t) pc L S σ := by
  have hG : ∀ y', Cond.code (nm y') (by_ y') (mx y') (mm_rty (mm_me Y y').2.2.2.2) ∈ Ts → GoodIn Ts (mm_ws Ts nm by_ mx Y y') := fun y' hy' w hw => by
    rcases List.mem_cons.mp hw with h9 | h9
    · subst h9
      exact ⟨hy', good_of_word (hgood _ hy')⟩
    · exact ⟨h9, good_of_word (hgood _ h9)⟩
  refine h (fun pc L S σ f t => t ≤ T → lx_V p l e R s m args below meth c D cl A ad (cI, cZ, cG) Y nL Qf (hx_e (ad 201) cJ f) (c0 + t) (s0 + 6 * t) pc L S σ) ?_ ht
  intro pc L S σ f t hone htT
  have hout : (lx_wd ad (cI, cZ, cG) Y (hx_e (ad 201) cJ f) σ)[(mm_wd ad (cI, cZ, cG) Y σ).length]? = some (ad 201, .inl (cJ, 1, .inr (.inl f))) := by
    unfold lx_wd hx_e
    rw [List.getElem?_append_right (Nat.le_refl _), Nat.sub_self]
    rfl
  unfold lx_one at hone
  cases hq : mm_look sp pc with
  | none =>
    simp only [hq] at hone
    have h9 : mm_one Y (mm_D Y B mx d) M (fun _ _ => False) (lx_V p l e R s m args below meth c D cl A ad (cI, cZ, cG) Y nL Qf (hx_e (ad 201) cJ f) (c0 + t) (s0 + 6 * t)) pc L S σ := mm_one_mono (mm_D_mono hBm d) (fun _ _ z => z) (fun pc L S σ z => z htT) pc L S σ hone
    exact lx_mstep hret hx hb hown hts hK rfl rfl rfl hE (fun idx ci j hq => hg _ (mm_look_mem hq)) (fun idx ci j hq => hp _ (mm_look_mem hq)) hld
      (lx_hc1 hMn hmn hB hTT hx hb hml hown hts hK hG hk (by omega) (by omega) hA (by omega) (by omega) hG0)
      (lx_hc0 hMn hmn hB hTT hx hb hml hown hts hK hG hk (by omega) (by omega) hA (by omega) (by omega) hG0) pc L S σ h9
  | some q =>
    obtain ⟨k, y⟩ := q
    have hs := hsp _ (mm_look_mem hq)
    simp only [hq] at hone
    match k with
    | 0 =>
      replace hone := mm_ir_el hone
      obtain ⟨i, k, r, rfl, rfl, hin, hone⟩ := hone
      intro H locs ls hP hD hS hl
      exact va_sld hx hb hXs hbl hbA hS hin hs (hone htT H locs ls hP hD hS hl)
    | 1 =>
      replace hone := mm_r_el hone
      obtain ⟨k, r, rfl, rfl, hone⟩ := hone
      intro H locs ls hP hD hS hl
      exact va_slen hx hb hXs hbl hbA hS hs (hone htT H locs ls hP hD hS hl)
    | 2 =>
      replace hone := mm_ir_el hone
      obtain ⟨i, k, r, rfl, rfl, rfl, hone⟩ := hone
      intro H locs ls hP hD hS hl
      exact va_lald hx hb hJ hP _ 0 hout rfl (by unfold vp_in; decide) hs (hone htT H locs ls hP hD hS hl)
    | 3 =>
      replace hone := mm_1_el hone
      obtain ⟨x, r, rfl, hone⟩ := hone
      intro H locs ls hP hD hS hl
      exact lv_i2l hx hb hs rfl (hone htT H locs ls hP hD hS hl)
    | 4 =>
      replace hone := lx_ll_el hone
      obtain ⟨y, x, r, rfl, hone⟩ := hone
      intro H locs ls hP hD hS hl
      exact W.lcmp hx hb hs (hone htT H locs ls hP hD hS hl)
    | 5 =>
      replace hone := mm_1_el hone
      obtain ⟨x, r, rfl, hone⟩ := hone
      obtain ⟨dflt, lo, hi, offs, len9, hdg, hsw⟩ := hs
      intro H locs ls hP hD hS hl
      rcases hsw x with ⟨h1, h2⟩ | ⟨h1, h2, off, h3, h4⟩
      · exact lv_tableOut hx hb hdg h1 h2 (hone htT H locs ls hP hD hS hl)
      · exact lv_tableIn hx hb hdg h1 h2 h3 h4 (hone htT H locs ls hP hD hS hl)
    | 6 =>
      replace hone := lx_pp_el hone
      obtain ⟨as, r, rfl, e3, hr8, htl, hone⟩ := hone
      intro H locs ls hP hD hS hl
      refine hx_help hx hb hown hts hgood hK hJ hN hG0 hC hP hD hS hA (hHC _ _ _ _ _ hone) hs e3 hr8 (hl.1.1.trans hml.symm) hfr hlo (by omega) (by omega) (fun k σ' f' H1 locs1 hq hP1 hD1 hS1 => ?_)
      exact hq (by omega) H1 locs1 ls hP1 hD1 hS1 hl
    | 7 =>
      have hone' : S = [.int 1] := hone
      subst hone'
      intro H locs ls hP hD hS hl
      exact hfin pc H locs ls t htT hs hS
    | n + 8 => exact hone.elim
end LXs

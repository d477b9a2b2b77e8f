/-! each step of it -/
def bm_V (p : Program) (l : Launch) (e : Env) (R : Room) (s : State) (m : MethodId) (args : Array Value) (below : List Frame) (meth : Method) (c : Code) (D : va_G) (cl : List vw_C) (A : Nat → Prop) (ad0 : Nat → Nat) (a3 : ClassId × ClassId × ClassId) (n0 s0 nL : Nat) (Qf : State → Prop) (pc : Nat) (L : List (Option Value)) (S : List Value) (κ : List bm_K) : Prop :=
  ∀ (ad : Nat → Nat) (H : Heap) (locs : List Loc) (ls : Array Slot), (∀ k, k < n0 → ad k = ad0 k) → va_P D cl (bm_wd ad a3 κ) H → va_D A (bm_wd ad a3 κ) → va_S A s.heap H locs → mm_lh ad ls nL L → W p l e R s m args below meth c H locs (κ.length - n0) (bm_sl κ - s0) Qf (F0 m pc ls (S.map (mm_rho ad)))
theorem bm_clamp {n : Int32} (h : n ≤ 1000) : n.toNatClampNeg ≤ 1000 := by
  have h1 : n.toInt ≤ 1000 := by
    have := Int32.le_iff_toInt_le.mp h
    simpa using this
  unfold Int32.toNatClampNeg
  omega
theorem bm_nlt {n : Int32} (h : 0 ≤ n) : ¬ n < 0 := by
  rw [Int32.lt_iff_toInt_lt]
  have := Int32.le_iff_toInt_le.mp h
  omega
section BMrow
variable {p : Program} {l : Launch} {e : Env} {R : Room} {s : State} {m : MethodId} {args : Array Value} {below : List Frame} {meth : Method} {c : Code} {H : Heap} {locs : List Loc} {cells slots : Nat} {Q : State → Prop}
variable {cc : ByteArray} {pc : Nat} {ls : Array Slot} {rest : List Value} {D : va_G} {cl : List vw_C} {A : Nat → Prop} {tys : List (ClassId × FieldType)} {ws : va_W} {H0 : Heap}
theorem bm_grow {news : va_W} {H1 : Heap} (hP : va_P D cl ws H) (hD : va_D A ws) (hA : ∀ q, H.size ≤ q → A q) (hold : ∀ x, x < H.size → H1[x]? = H[x]?) (hn : ∀ (i : Nat) (q : Nat × va_E), news[i]? = some q → q.1 = H.size + i ∧ va_at D cl q H1) : va_P D cl (ws ++ news) H1 ∧ va_D A (ws ++ news) := by
  refine ⟨(hP.kept (fun k q hq => hold q.1 ((hP k q hq).lt))).app (fun i q h => (hn i q h).2), hD.app ⟨fun i j x y hx hy hxy => ?_, fun k q hq => hA _ (by rw [(hn k q hq).1]; omega)⟩ (fun i j x y hx hy hxy => ?_)⟩
  · have h1 := (hn i x hx).1
    have h2 := (hn j y hy).1
    omega
  · have h1 := (hP i x hx).lt
    have h2 := (hn j y hy).1
    omega
/-- new int[n][k] -/
theorem bm_mna (hx : p.tables.exec = Jvm.exec) (hb : c.code = cc) {own : String} {index : Nat} {cI : ClassId} (hown : s.vm.findClass own = some m.cls) (hclink : (Cond.classLink own index "[[I").before args s = true) (hover : (Cond.arrayOver (.array .int)).before #[] s = true) (harr : (Cond.arrayClass .int).before args s = true) (hcI : s.vm.findClass "[I" = some cI)
    (hP : va_P D cl ws H) (hD : va_D A ws) (hS : va_S A H0 H locs) (hA : ∀ q, H0.size ≤ q → A q) {n k : Int32} (hn : ¬ n < 0) (hk : ¬ k < 0) (hN : n.toNatClampNeg ≤ 1000) (hM : k.toNatClampNeg ≤ 1000)
    (hcells : cells + (1 + n.toNatClampNeg) ≤ R.cells) (hslots : slots + (n.toNatClampNeg + n.toNatClampNeg * k.toNatClampNeg) ≤ R.slots) (hdg : decode cc pc = .ok (.multianewarray index 2, 4))
    (kk : ∀ (q : Nat) (cA : ClassId) (H1 : Heap), s.vm.findClass "[[I" = some cA →
      va_P D cl (ws ++ ((q, .inl (cA, n.toNatClampNeg, .inr (.inr (.inr (.inr (fun i => if i < n.toNatClampNeg then some (q + 1 + i) else none)))))) :: (List.range n.toNatClampNeg).map (fun i => (q + 1 + i, .inl (cI, k.toNatClampNeg, .inl bm_z))))) H1 →
      va_D A (ws ++ ((q, .inl (cA, n.toNatClampNeg, .inr (.inr (.inr (.inr (fun i => if i < n.toNatClampNeg then some (q + 1 + i) else none)))))) :: (List.range n.toNatClampNeg).map (fun i => (q + 1 + i, .inl (cI, k.toNatClampNeg, .inl bm_z))))) → va_S A H0 H1 locs →
      W p l e R s m args below meth c H1 locs (cells + 1 + n.toNatClampNeg) (slots + n.toNatClampNeg + n.toNatClampNeg * k.toNatClampNeg) Q (F0 m (pc + 4) ls (.ref q :: rest))) : W p l e R s m args below meth c H locs cells slots Q (F0 m pc ls (.int k :: .int n :: rest)) := by
  intro T hT Xs
  obtain ⟨vm₁, cA, comp, -, fA, fC, -, -, X', step⟩ := Xs.multianewarray2F (ty := .int) hx hown hclink hover harr (g := F0 m pc ls (.int k :: .int n :: rest)) rfl (by rw [hb]; exact hdg) rfl hn hk (by omega) (by show k.toNatClampNeg * 4 ≤ _; omega) (by omega) rfl rfl hcells hslots
  have ec : some cI = some comp := hcI.symm.trans fC
  cases ec
  generalize hF : Jvm.Free.Multi.fill (T.setVm vm₁) cA cI n.toNatClampNeg k.toNatClampNeg (defaultValue .int) n.toNatClampNeg = F at X' step
  have hTh : (T.setVm vm₁).heap = H := hT
  obtain ⟨f1, f2, -, -⟩ := Jvm.Free.Multi.fill_facts (T.setVm vm₁) cA cI n.toNatClampNeg k.toNatClampNeg (defaultValue .int) n.toNatClampNeg
  rw [hF, hTh] at f1 f2
  have hold : ∀ x : Nat, x < H.size → F.heap[x]? = H[x]? := fun x hx => by
    have := Jvm.Free.Multi.fill_old (T.setVm vm₁) cA cI n.toNatClampNeg k.toNatClampNeg (defaultValue .int) (a := x) (by rw [hTh]; exact hx) n.toNatClampNeg
    rw [hF, hTh] at this
    exact this
  have hrow : ∀ j : Nat, j < n.toNatClampNeg → F.heap[H.size + 1 + j]? = some (vp_cell cI (k.toNatClampNeg, .inl bm_z)) := fun j hj => by
    have := Jvm.Free.Multi.fill_inner (T.setVm vm₁) cA cI n.toNatClampNeg k.toNatClampNeg (defaultValue .int) n.toNatClampNeg j hj
    rw [hF, hTh] at this
    rw [this]
    show some ({ cls := cI, slots := Array.replicate k.toNatClampNeg (defaultValue .int), vm := .none } : Cell) = some (arrV cI k.toNatClampNeg (fun _ => .int 0))
    rw [arrV_new]
    rfl
  have hout : ∀ i : Nat, Jvm.Free.Multi.outerC cA n.toNatClampNeg H.size i = arrV cA n.toNatClampNeg (fun j => va_rf (if j < i then some (H.size + 1 + j) else none)) := by
    intro i
    induction i with
    | zero =>
      show ({ cls := cA, slots := Array.replicate n.toNatClampNeg .null, vm := .none } : Cell) = _
      rw [arrV_new]
      refine congrArg (arrV cA n.toNatClampNeg) (funext fun j => ?_)
      simp [va_rf]
    | succ i ih =>
      show (Jvm.Free.Multi.outerC cA n.toNatClampNeg H.size i).setSlot i (.ref (H.size + 1 + i)) = _
      rw [ih, arrV_store]
      refine congrArg (arrV cA n.toNatClampNeg) (funext fun j => ?_)
      by_cases e : j = i
      · subst e
        simp [updV, va_rf]
      · by_cases h : j < i
        · simp [updV, e, h, Nat.lt_succ_of_lt h]
        · simp [updV, e, h, show ¬ j < i + 1 by omega]
  rw [hout] at f2
  have hg := bm_grow (H1 := F.heap) (news := (H.size, .inl (cA, n.toNatClampNeg, .inr (.inr (.inr (.inr (fun i => if i < n.toNatClampNeg then some (H.size + 1 + i) else none)))))) :: (List.range n.toNatClampNeg).map (fun i => (H.size + 1 + i, .inl (cI, k.toNatClampNeg, .inl bm_z)))) hP hD (fun q hq => hA q (Nat.le_trans hS.1 hq)) hold (fun i q hq => by
    cases i with
    | zero =>
      cases hq
      exact ⟨rfl, f2⟩
    | succ i =>
      rw [List.getElem?_cons_succ, List.getElem?_map] at hq
      by_cases hi : i < n.toNatClampNeg
      · rw [List.getElem?_range hi] at hq
        cases hq
        exact ⟨by show H.size + 1 + i = H.size + (i + 1); omega, hrow i hi⟩
      · rw [List.getElem?_eq_none (by rw [List.length_range]; omega)] at hq
        cases hq)
  obtain ⟨t, a1, b1⟩ := kk H.size cA F.heap fA hg.1 hg.2 ⟨by rw [f1]; have := hS.1; omega, fun x h1 h2 => (hold x (Nat.lt_of_lt_of_le h1 hS.1)).trans (hS.2.1 x h1 h2), hS.2.2⟩ F rfl X'
  refine ⟨t, step t ?_, b1⟩
  have e : T.heap.size = H.size := by rw [hT]
  rw [e]
  exact a1
end BMrow

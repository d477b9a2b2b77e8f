/-! Calls: the small machine's calls are the machine's, by depth -/
theorem mm_pop_el : ∀ (n : Nat) (acc S as r : List Value), mm_pop n acc S = some (as, r) → ∃ t : List Value, t.length = n ∧ S = t ++ r ∧ as = t.reverse ++ acc
  | 0, acc, S, as, r, h => by
    simp only [mm_pop, Option.some.injEq, Prod.mk.injEq] at h
    obtain ⟨rfl, rfl⟩ := h
    exact ⟨[], rfl, rfl, rfl⟩
  | n + 1, acc, [], as, r, h => by simp [mm_pop] at h
  | n + 1, acc, v :: S, as, r, h => by
    obtain ⟨t, h1, h2, h3⟩ := mm_pop_el n (v :: acc) S as r h
    exact ⟨v :: t, by simp [h1], by simp [h2], by simp [h3]⟩
theorem mm_call_el {Y : mm_Y} {C : mm_C} {M : mm_M} {idx self : Nat} {S : List Value} {σ : mm_S} {K : List Value → mm_S → Prop} (h : mm_call Y C M idx self S σ K) :
    ∃ y n ci as r, mm_look M.2.2.2.1 idx = some (y, n, ci) ∧ S = as.reverse ++ r ∧ as.length = n + self ∧ mm_c1 8 r = true ∧ mm_rcv Y self ci as = true ∧ C y as σ (fun v σ' => K (v.toList ++ r) σ') := by
  unfold mm_call at h
  split at h
  · rename_i y n ci hl
    split at h
    · rename_i as r hp
      split at h
      · rename_i hb
        obtain ⟨t, h1, h2, h3⟩ := mm_pop_el _ _ _ _ _ hp
        rw [Bool.and_eq_true] at hb
        rw [List.append_nil] at h3
        exact ⟨y, n, ci, as, r, hl, by rw [h2, h3, List.reverse_reverse], by rw [h3, List.length_reverse, h1], hb.1, hb.2, h⟩
      · exact h.elim
    · exact h.elim
  · exact h.elim
theorem mm_cat_le (ad : Nat → Nat) : ∀ (r : List Value), (∀ v ∈ r, v.category = 1) → ((r.map (mm_rho ad)).map fun v => v.category).sum = r.length
  | [], _ => rfl
  | v :: r, h => by
    have q := mm_cat_le ad r (fun w hw => h w (List.mem_cons_of_mem _ hw))
    simp only [List.map_cons, List.sum_cons, q, mm_rho_cat, h v List.mem_cons_self, List.length_cons]
    omega
theorem mm_c1_el {n : Nat} {r : List Value} (h : mm_c1 n r = true) : r.length ≤ n ∧ ∀ v ∈ r, v.category = 1 := by
  unfold mm_c1 at h
  rw [Bool.and_eq_true] at h
  refine ⟨Nat.le_of_ble_eq_true h.1, fun v hv => ?_⟩
  have q := List.all_eq_true.mp h.2 v hv
  cases v <;> first | rfl | cases q
theorem mm_sl_len : ∀ (vs : List Value), (∀ v ∈ vs, v.category = 1) → (lg_sl vs).length = vs.length
  | [], _ => rfl
  | v :: vs, h => by
    have q := mm_sl_len vs (fun w hw => h w (List.mem_cons_of_mem _ hw))
    have hv := h v List.mem_cons_self
    unfold lg_sl at q ⊢
    simp only [List.flatMap_cons, List.length_append, q, List.length_cons, hv]
    simp
    omega
theorem mm_args_ll (ad : Nat → Nat) : ∀ (as : List Value) (i k : Nat), (∀ v ∈ as, v.category = 1) → mm_ll ad i (as.map some ++ List.replicate k none) = lv_args i (as.map (mm_rho ad))
  | [], i, 0, _ => rfl
  | [], i, k + 1, h => by
    have q := mm_args_ll ad [] (i + 1) k h
    simp only [List.map_nil, List.nil_append] at q ⊢
    rw [List.replicate_succ]
    simp only [mm_ll, q]
    rfl
  | v :: as, i, k, h => by
    have q := mm_args_ll ad as (i + 1) k (fun w hw => h w (List.mem_cons_of_mem _ hw))
    simp only [List.map_cons, List.cons_append, mm_ll, lv_args, q, mm_rho_cat, h v List.mem_cons_self]
    rfl
theorem mm_nth_ent {as : List Value} {k i : Nat} {v : Value} (h : mm_nth (as.map some ++ List.replicate k none) i = some (some v)) : v ∈ as := by
  rw [mm_nth_eq] at h
  by_cases hi : i < (as.map some).length
  · rw [List.getElem?_append_left hi, List.getElem?_map] at h
    cases e : as[i]? with
    | none => rw [e] at h; cases h
    | some w =>
      rw [e] at h
      simp only [Option.map_some, Option.some.injEq] at h
      subst h
      exact List.mem_of_getElem? e
  · rw [List.getElem?_append_right (by omega), List.getElem?_replicate] at h
    split at h <;> cases h
def mm_ws (Ts : List Cond) (nm : Nat → MethodName) (by_ : Nat → ByteArray) (mx : Nat → Nat) (Y : mm_Y) (y : Nat) : List Cond := .code (nm y) (by_ y) (mx y) (mm_rty (mm_me Y y).2.2.2.2) :: Ts
def mm_rm (d : Nat) : Room := { frames := d, cells := 0, slots := 0, locals := 40 * d }
/-- a static table that nobody writes: cell 202 -/
def mm_tab (j : Nat) : Value := .int ((mm_nth [(2 : Int32), 0, 3, 1] j).getD 0)
def mm_G (ad : Nat → Nat) (A : Nat → Prop) (U : State) (H : Heap) : Prop := va_Z "HouseDesk$Layout" "DIRECTION" "[I" (.ref (ad 202)) A U H ∧ va_T .int (ad 202) 4 mm_tab A U H
theorem mm_G.moved {ad : Nat → Nat} {A : Nat → Prop} {u U : State} {H : Heap} (hvm : u.vm.Alike U.vm) (h : mm_G ad A u H) : mm_G ad A U H := ⟨h.1.moved hvm, h.2.moved hvm⟩
theorem mm_G.kept {ad : Nat → Nat} {A : Nat → Prop} {U : State} {H H1 : Heap} (h : mm_G ad A U H) (hq : ∀ a : Nat, a < H.size → ¬ A a → H1[a]? = H[a]?) : mm_G ad A U H1 := ⟨h.1.kept hq, h.2.kept hq⟩
theorem mm_G.narrow {ad : Nat → Nat} {A B : Nat → Prop} {U : State} {H : Heap} (h : mm_G ad A U H) (hAB : ∀ q, B q → A q) : mm_G ad B U H := ⟨h.1.narrow hAB, h.2.narrow hAB⟩
def mm_B (D : va_G) (cl : List vw_C) (tys : List (ClassId × FieldType)) (ad : Nat → Nat) (a3 : ClassId × ClassId × ClassId) (Y : mm_Y) (σ : mm_S) (sz : Nat) : State → Prop := fun U =>
  U.heap.size = sz ∧ va_P D cl (mm_wd ad a3 Y σ) U.heap ∧ va_K D cl tys U ∧ va_D (fun _ => True) (mm_wd ad a3 Y σ) ∧ mm_G ad (va_A (mm_wd ad a3 Y σ) sz) U U.heap
/-- a method's contract: from the cells σ, with the arguments as, it comes to an end with Q -/
def mm_T (l : Launch) (Ts : List Cond) (nm : Nat → MethodName) (by_ : Nat → ByteArray) (mx : Nat → Nat) (D : va_G) (cl : List vw_C) (tys : List (ClassId × FieldType)) (ad : Nat → Nat) (a3 : ClassId × ClassId × ClassId) (Y : mm_Y) (d y : Nat) (as : List Value) (σ : mm_S) (Q : mm_Q) : Prop :=
  ∀ sz, Met l (nm y) (mm_ws Ts nm by_ mx Y y) (mm_rm d) (va_Pc (as.map (mm_rho ad)) (mm_B D cl tys ad a3 Y σ sz)) (mm_Qc D cl tys (va_A (mm_wd ad a3 Y σ) sz) ad a3 Y Q) 0 0 (va_A (mm_wd ad a3 Y σ) sz)
theorem mm_A_in {ad : Nat → Nat} {a3 : ClassId × ClassId × ClassId} {Y : mm_Y} {σ σ' : mm_S} {n n' q : Nat} (h : va_A (mm_wd ad a3 Y σ) n q) (hn : n' ≤ n) : va_A (mm_wd ad a3 Y σ') n' q := by
  rcases h with ⟨k, e, h⟩ | h
  · left
    unfold mm_wd at h ⊢
    rw [List.getElem?_map] at h
    cases hr : (List.range Y.1.length)[k]? with
    | none => rw [hr] at h; cases h
    | some j =>
      rw [hr] at h
      simp only [Option.map_some, Option.some.injEq, Prod.mk.injEq] at h
      refine ⟨k, mm_ce ad a3 Y σ' j, ?_⟩
      rw [List.getElem?_map, hr, Option.map_some, h.1]
  · right; omega
section MMcall
variable {p : Program} {l : Launch} {e : Env} {R : Room} {s : State} {m : MethodId} {args : Array Value} {below : List Frame} {meth : Method} {c : Code} {D : va_G} {cl : List vw_C} {A A1 : Nat → Prop} {ad : Nat → Nat} {a3 : ClassId × ClassId × ClassId} {Y : mm_Y} {nL : Nat} {Q' : mm_Q} {Qf : State → Prop} {cc : ByteArray} {Ts : List Cond} {own : String} {tys : List (ClassId × FieldType)} {H : Heap} {locs : List Loc} {pc : Nat} {ls : Array Slot} {st0 rest : List Value} {arr : Array Value}
/-- behind a call -/
theorem mm_goon (hr : va_Run p l e R s m args below meth c H locs 0 0 0 0 (F0 m pc ls st0) rest (mm_Qc D cl tys A1 ad a3 Y Q' arr) A1) (hS : va_S A s.heap H locs) (hA1 : ∀ q, A1 q → A q)
    (kk : ∀ (v : Option Value) (σ' : mm_S) (H1 : Heap) (locs1 : List Loc), Q' v σ' → va_P D cl (mm_wd ad a3 Y σ') H1 → va_D A (mm_wd ad a3 Y σ') → va_S A s.heap H1 locs1 → W p l e R s m args below meth c H1 locs1 0 0 Qf (F0 m (pc + 3) ls ((v.map (mm_rho ad)).toList ++ rest))) :
    W p l e R s m args below meth c H locs 0 0 Qf (F0 m pc ls st0) := by
  intro T hT X
  obtain ⟨v, st₀, t, T', L, h0, X', hL, e1, e2, ⟨⟨v', σ', hq, hv, hP1, hD1, hK1⟩, hz, hk⟩, st⟩ := hr T hT X
  cases hv
  rw [h0] at hz hk
  rw [← e1] at hP1 hz hk
  obtain ⟨t2, a1, b1⟩ := kk v' σ' T'.heap (locs ++ L) hq hP1 (hD1.weaken (fun _ _ _ h => hA1 _ h))
    ⟨Nat.le_trans hS.1 hz, fun q h1 h2 => by rw [hk q (Nat.lt_of_lt_of_le h1 hS.1) (fun z => h2 (hA1 q z))]; exact hS.2.1 q h1 h2, fun q hq => by
      rcases List.mem_append.mp hq with h | h
      · exact hS.2.2 q h
      · exact hA1 _ (hL q h)⟩ T' rfl X'
  exact ⟨t2, st t2 a1, b1⟩
end MMcall

/-! The building machine: constructors, which make cells and lay fields, straight on -/
/-- a cell: (0, class, what its fields hold, _), (1, n, _, f) ints, (2, n, _, f) booleans, (3, n, _, _) n rows at the cells behind it -/
abbrev bm_K : Type := Nat × Nat × List Value × (Nat → Int32)
/-- a constructor: instructions with their numbers; 'new' (pool number, class, fields' first values); fields written (pool number, class, place); calls (pool number, method, how many arguments; method 999: Object's own) -/
abbrev bm_M : Type := List (Nat × ClassFile.Instr × Int32) × List (Nat × Nat × List Value) × List (Nat × Nat × Nat) × List (Nat × Nat × Nat)
def bm_z : Nat → Int32 := fun _ => 0
def bm_rok (N : Nat) (v : Value) : Bool := match v with
  | .ref k => Nat.blt k N
  | _ => true
def bm_cok (N : Nat) (q : bm_K × Nat) : Bool := match q.1 with
  | (0, _, vs, _) => vs.all (bm_rok N)
  | (1, _, _, _) => true
  | (2, _, _, _) => true
  | (_, n, _, _) => Nat.ble (q.2 + 1 + n) N
def bm_lok (N : Nat) (o : Option Value) : Bool := match o with
  | some v => bm_rok N v
  | none => true
def bm_ok (κ : List bm_K) (L : List (Option Value)) (S : List Value) : Bool := κ.zipIdx.all (bm_cok κ.length) && (L.all (bm_lok κ.length) && S.all (bm_rok κ.length))
def bm_cat (v : Value) : Bool := match v with
  | .int _ => true
  | .ref _ => true
  | _ => false
def bm_step (ty : Nat → Nat → FieldType) (M : bm_M) (i : ClassFile.Instr) (c : Int32) (pc : Nat) (L : List (Option Value)) (S : List Value) (κ : List bm_K) : Option (Nat × List (Option Value) × List Value × List bm_K) := match i with
  | .aload_n k => match mm_nth L k.val with
    | some (some (.ref x)) => some (pc + 1, L, .ref x :: S, κ)
    | _ => none
  | .iconst _ => some (pc + 1, L, .int c :: S, κ)
  | .bipush _ => some (pc + 2, L, .int c :: S, κ)
  | .sipush _ => some (pc + 3, L, .int c :: S, κ)
  | .dup => match S with
    | v :: r => match bm_cat v with
      | true => some (pc + 1, L, v :: v :: r, κ)
      | false => none
    | _ => none
  | .new idx => match mm_look M.2.1 idx with
    | some (ci, vs) => match bm_ok κ L S with
      | true => some (pc + 3, L, .ref κ.length :: S, κ ++ [((0, ci, vs, bm_z) : bm_K)])
      | false => none
    | none => none
  | .newarray t => match S with
    | .int n :: r => match bm_ok κ L r && decide (0 ≤ n ∧ n ≤ 1000) with
      | true => match t with
        | .int => some (pc + 2, L, .ref κ.length :: r, κ ++ [((1, n.toNatClampNeg, [], bm_z) : bm_K)])
        | .boolean => some (pc + 2, L, .ref κ.length :: r, κ ++ [((2, n.toNatClampNeg, [], bm_z) : bm_K)])
        | _ => none
      | false => none
    | _ => none
  | .multianewarray _ 2 => match S with
    | .int k :: .int n :: r => match bm_ok κ L r && decide ((0 ≤ n ∧ n ≤ 1000) ∧ (0 ≤ k ∧ k ≤ 1000)) with
      | true => some (pc + 4, L, .ref κ.length :: r, κ ++ (((3, n.toNatClampNeg, [], bm_z) : bm_K) :: List.replicate n.toNatClampNeg ((1, k.toNatClampNeg, [], bm_z) : bm_K)))
      | false => none
    | _ => none
  | .putfield idx => match S with
    | v :: .ref o :: r => match mm_look M.2.2.1 idx with
      | some (ci, j) => match mm_nth κ o with
        | some (0, ci', vs, f) => match Nat.beq ci' ci && (fits (ty ci j) v && (decide (narrow (ty ci j) v = v) && Nat.blt j vs.length)) with
          | true => some (pc + 3, L, r, mm_set κ o (0, ci', mm_set vs j v, f))
          | false => none
        | _ => none
      | none => none
    | _ => none
  | .getfield idx => match S with
    | .ref o :: r => match mm_look M.2.2.1 idx with
      | some (ci, j) => match mm_nth κ o with
        | some (0, ci', vs, _) => match Nat.beq ci' ci with
          | true => match mm_nth vs j with
            | some v => some (pc + 3, L, v :: r, κ)
            | none => none
          | false => none
        | _ => none
      | none => none
    | _ => none
  | .iastore => match S with
    | .int x :: .int j :: .ref o :: r => match mm_nth κ o with
      | some (1, n, vs, f) => match decide (¬ (j < 0 ∨ n ≤ j.toNatClampNeg)) with
        | true => some (pc + 1, L, r, mm_set κ o (1, n, vs, upd f j.toNatClampNeg x))
        | false => none
      | _ => none
    | _ => none
  | _ => none
def bm_run (ty : Nat → Nat → FieldType) (C : Nat → List Value → List bm_K → Option (List bm_K)) (M : bm_M) : Nat → Nat → List (Option Value) → List Value → List bm_K → Option (List bm_K)
  | 0, _, _, _, _ => none
  | n + 1, pc, L, S, κ => match mm_look M.1 pc with
    | none => none
    | some (i, c) => match i with
      | .return_ => match S with
        | [] => some κ
        | _ => none
      | .invokespecial idx => match mm_look M.2.2.2 idx with
        | some (y, na) => match mm_pop (na + 1) [] S with
          | some (.ref o :: as, r) => match mm_c1 8 r with
            | true => match Nat.beq y 999 with
              | true => match as with
                | [] => bm_run ty C M n (pc + 3) L r κ
                | _ => none
              | false => match L.all (bm_lok κ.length) && r.all (bm_rok κ.length) with
                | true => match C y (.ref o :: as) κ with
                  | some κ' => bm_run ty C M n (pc + 3) L r κ'
                  | none => none
                | false => none
            | false => none
          | _ => none
        | none => none
      | i => match bm_step ty M i c pc L S κ with
        | some (pc', L', S', κ') => bm_run ty C M n pc' L' S' κ'
        | none => none
def bm_D (ty : Nat → Nat → FieldType) (Y : List bm_M) (mx : Nat → Nat) : Nat → Nat → List Value → List bm_K → Option (List bm_K)
  | 0, _, _, _ => none
  | d + 1, y, as, κ => match mm_nth Y y with
    | some M => match mm_c1 (mx y) as with
      | true => bm_run ty (bm_D ty Y mx d) M 400 0 (mm_ent (mx y) as) [] κ
      | false => none
    | none => none
def bm_s1 (c : bm_K) : Nat := match c with
  | (0, _, vs, _) => vs.length
  | (_, n, _, _) => n
def bm_sl (κ : List bm_K) : Nat := (κ.map bm_s1).sum
def bm_ce (ad : Nat → Nat) (a3 : ClassId × ClassId × ClassId) (k : Nat) (c : bm_K) : va_E := match c with
  | (0, ci, vs, _) => .inr (ci, vs.map (mm_rho ad))
  | (1, n, _, f) => .inl (a3.1, n, .inl f)
  | (2, n, _, f) => .inl (a3.2.1, n, .inl f)
  | (_, n, _, _) => .inl (a3.2.2, n, .inr (.inr (.inr (.inr (fun j => if j < n then some (ad (k + 1 + j)) else none)))))
def bm_wd (ad : Nat → Nat) (a3 : ClassId × ClassId × ClassId) (κ : List bm_K) : va_W := κ.zipIdx.map (fun q => (ad q.2, bm_ce ad a3 q.2 q.1))
theorem bm_wd_get {ad : Nat → Nat} {a3 : ClassId × ClassId × ClassId} {κ : List bm_K} {k : Nat} {c : bm_K} (h : mm_nth κ k = some c) : (bm_wd ad a3 κ)[k]? = some (ad k, bm_ce ad a3 k c) := by
  rw [mm_nth_eq] at h
  unfold bm_wd
  rw [List.getElem?_map, List.getElem?_zipIdx, h]
  simp
theorem bm_wd_len {ad : Nat → Nat} {a3 : ClassId × ClassId × ClassId} {κ : List bm_K} : (bm_wd ad a3 κ).length = κ.length := by simp [bm_wd]
theorem bm_wd_set {ad : Nat → Nat} {a3 : ClassId × ClassId × ClassId} {κ : List bm_K} {k : Nat} {c : bm_K} (h : k < κ.length) : (bm_wd ad a3 κ).set k (ad k, bm_ce ad a3 k c) = bm_wd ad a3 (mm_set κ k c) := by
  refine List.ext_getElem? fun i => ?_
  rw [List.getElem?_set, bm_wd_len]
  by_cases hk : k = i
  · subst hk
    rw [if_pos rfl, if_pos h, bm_wd_get (c := c) (by rw [mm_nth_set, if_pos rfl, if_pos h])]
  · rw [if_neg hk]
    unfold bm_wd
    rw [List.getElem?_map, List.getElem?_map, List.getElem?_zipIdx, List.getElem?_zipIdx, ← mm_nth_eq, ← mm_nth_eq, mm_nth_set, if_neg (fun e => hk e.symm)]
theorem bm_wd_app {ad : Nat → Nat} {a3 : ClassId × ClassId × ClassId} {κ κ' : List bm_K} : bm_wd ad a3 (κ ++ κ') = bm_wd ad a3 κ ++ (κ'.zipIdx κ.length).map (fun q => (ad q.2, bm_ce ad a3 q.2 q.1)) := by
  unfold bm_wd
  rw [List.zipIdx_append, List.map_append, Nat.zero_add]
/-- the addresses, with those that come -/
def bm_ad (ad : Nat → Nat) (N q : Nat) : Nat → Nat := fun j => if j < N then ad j else q + (j - N)
theorem bm_ad_lt {ad : Nat → Nat} {N q j : Nat} (h : j < N) : bm_ad ad N q j = ad j := if_pos h
theorem bm_ad_ge {ad : Nat → Nat} {N q j : Nat} (h : N ≤ j) : bm_ad ad N q j = q + (j - N) := if_neg (by omega)
theorem bm_rho_ad {ad : Nat → Nat} {N q : Nat} {v : Value} (h : bm_rok N v = true) : mm_rho (bm_ad ad N q) v = mm_rho ad v := by
  cases v with
  | ref k =>
    have hk : k < N := by simpa [bm_rok, Nat.blt_eq] using h
    simp only [mm_rho, bm_ad_lt hk]
  | _ => rfl
theorem bm_map_ad {ad : Nat → Nat} {N q : Nat} {S : List Value} (h : S.all (bm_rok N) = true) : S.map (mm_rho (bm_ad ad N q)) = S.map (mm_rho ad) := by
  apply List.map_congr_left
  intro v hv
  exact bm_rho_ad (List.all_eq_true.mp h v hv)
theorem bm_wd_ad {ad : Nat → Nat} {a3 : ClassId × ClassId × ClassId} {κ : List bm_K} {q : Nat} (h : κ.zipIdx.all (bm_cok κ.length) = true) : bm_wd (bm_ad ad κ.length q) a3 κ = bm_wd ad a3 κ := by
  unfold bm_wd
  apply List.map_congr_left
  intro x hx
  have hc := List.all_eq_true.mp h x hx
  have hi : x.2 < κ.length := by
    have := List.mem_zipIdx' (x := x.1) (i := x.2) hx
    exact this.1
  rw [bm_ad_lt hi]
  obtain ⟨⟨t, n, vs, f⟩, i⟩ := x
  have hi' : i < κ.length := hi
  rcases t with _ | _ | _ | t
  · have hc' : vs.all (bm_rok κ.length) = true := hc
    show (ad i, (Sum.inr (n, vs.map (mm_rho (bm_ad ad κ.length q))) : va_E)) = (ad i, Sum.inr (n, vs.map (mm_rho ad)))
    rw [bm_map_ad hc']
  · rfl
  · rfl
  · have hle : i + 1 + n ≤ κ.length := Nat.le_of_ble_eq_true hc
    have hf : (fun j => if j < n then some (bm_ad ad κ.length q (i + 1 + j)) else none) = (fun j => if j < n then some (ad (i + 1 + j)) else none) := by
      funext j
      by_cases hj : j < n
      · simp only [hj, if_true, bm_ad_lt (show i + 1 + j < κ.length by omega)]
      · simp only [hj, if_false]
    show (ad i, (Sum.inl (a3.2.2, n, .inr (.inr (.inr (.inr (fun j => if j < n then some (bm_ad ad κ.length q (i + 1 + j)) else none))))) : va_E)) = (ad i, Sum.inl (a3.2.2, n, .inr (.inr (.inr (.inr (fun j => if j < n then some (ad (i + 1 + j)) else none))))))
    rw [hf]
theorem bm_lh_ad {ad : Nat → Nat} {ls : Array Slot} {n N q : Nat} {L : List (Option Value)} (hL : L.all (bm_lok N) = true) (h : mm_lh ad ls n L) : mm_lh (bm_ad ad N q) ls n L := by
  obtain ⟨⟨h1, h2, h3⟩, h4, h5⟩ := h
  refine ⟨⟨h1, h2, fun x hx => ?_⟩, h4, h5⟩
  obtain ⟨k, v, rfl, hk⟩ := mm_ll_of (bm_ad ad N q) L 0 x hx
  have hv : bm_rok N v = true := by
    rw [mm_nth_eq] at hk
    have := List.all_eq_true.mp hL _ (List.mem_of_getElem? hk)
    exact this
  rw [bm_rho_ad hv]
  exact h3 _ (mm_ll_mem ad L 0 k v hk)
theorem bm_rho_ag {ad ad' : Nat → Nat} {N : Nat} (hag : ∀ k, k < N → ad' k = ad k) {v : Value} (h : bm_rok N v = true) : mm_rho ad' v = mm_rho ad v := by
  cases v with
  | ref k =>
    have hk : k < N := by simpa [bm_rok, Nat.blt_eq] using h
    simp only [mm_rho, hag k hk]
  | _ => rfl
theorem bm_map_ag {ad ad' : Nat → Nat} {N : Nat} (hag : ∀ k, k < N → ad' k = ad k) {S : List Value} (h : S.all (bm_rok N) = true) : S.map (mm_rho ad') = S.map (mm_rho ad) := by
  apply List.map_congr_left
  intro v hv
  exact bm_rho_ag hag (List.all_eq_true.mp h v hv)
theorem bm_lh_ag {ad ad' : Nat → Nat} {ls : Array Slot} {n N : Nat} (hag : ∀ k, k < N → ad' k = ad k) {L : List (Option Value)} (hL : L.all (bm_lok N) = true) (h : mm_lh ad ls n L) : mm_lh ad' ls n L := by
  obtain ⟨⟨h1, h2, h3⟩, h4, h5⟩ := h
  refine ⟨⟨h1, h2, fun x hx => ?_⟩, h4, h5⟩
  obtain ⟨k, v, rfl, hk⟩ := mm_ll_of ad' L 0 x hx
  have hv : bm_rok N v = true := by
    rw [mm_nth_eq] at hk
    exact List.all_eq_true.mp hL _ (List.mem_of_getElem? hk)
  rw [bm_rho_ag hag hv]
  exact h3 _ (mm_ll_mem ad L 0 k v hk)
theorem bm_sl_app (κ κ' : List bm_K) : bm_sl (κ ++ κ') = bm_sl κ + bm_sl κ' := by simp [bm_sl]
theorem bm_sl_set : ∀ (κ : List bm_K) (o : Nat) (c c' : bm_K), mm_nth κ o = some c → bm_s1 c' = bm_s1 c → bm_sl (mm_set κ o c') = bm_sl κ
  | [], _, _, _, h, _ => by simp [mm_nth] at h
  | a :: r, 0, c, c', h, he => by
    simp only [mm_nth, Option.some.injEq] at h
    subst h
    simp [mm_set, bm_sl, he]
  | a :: r, o + 1, c, c', h, he => by
    have q := bm_sl_set r o c c' h he
    simp only [bm_sl, mm_set, List.map_cons, List.sum_cons] at q ⊢
    rw [q]
theorem bm_sl_rep (n : Nat) (c : bm_K) : bm_sl (List.replicate n c) = n * bm_s1 c := by simp [bm_sl]
theorem bm_step_mono {ty : Nat → Nat → FieldType} {M : bm_M} {i : ClassFile.Instr} {c : Int32} {pc pc' : Nat} {L L' : List (Option Value)} {S S' : List Value} {κ κ' : List bm_K} (h : bm_step ty M i c pc L S κ = some (pc', L', S', κ')) : κ.length ≤ κ'.length ∧ bm_sl κ ≤ bm_sl κ' := by
  unfold bm_step at h
  split at h
  · split at h <;> cases h; exact ⟨Nat.le_refl _, Nat.le_refl _⟩
  · cases h; exact ⟨Nat.le_refl _, Nat.le_refl _⟩
  · cases h; exact ⟨Nat.le_refl _, Nat.le_refl _⟩
  · cases h; exact ⟨Nat.le_refl _, Nat.le_refl _⟩
  · split at h
    · split at h <;> cases h; exact ⟨Nat.le_refl _, Nat.le_refl _⟩
    · cases h
  · split at h
    · split at h <;> cases h
      rw [bm_sl_app, List.length_append]; exact ⟨by omega, by omega⟩
    · cases h
  · split at h
    · split at h
      · split at h <;> cases h
        · rw [bm_sl_app, List.length_append]; exact ⟨by omega, by omega⟩
        · rw [bm_sl_app, List.length_append]; exact ⟨by omega, by omega⟩
      · cases h
    · cases h
  · split at h
    · split at h <;> cases h
      rw [bm_sl_app, List.length_append]; exact ⟨by omega, by omega⟩
    · cases h
  · split at h
    · split at h
      · split at h
        · rename_i hn
          split at h <;> cases h
          rw [mm_set_length, bm_sl_set _ _ _ _ hn (by simp [bm_s1, mm_set_length])]
          exact ⟨Nat.le_refl _, Nat.le_refl _⟩
        · cases h
      · cases h
    · cases h
  · split at h
    · split at h
      · split at h
        · split at h
          · split at h
            · cases h; exact ⟨Nat.le_refl _, Nat.le_refl _⟩
            · cases h
          · cases h
        · cases h
      · cases h
    · cases h
  · split at h
    · split at h
      · rename_i hn
        split at h <;> cases h
        rw [mm_set_length, bm_sl_set _ _ _ _ hn (by simp [bm_s1])]
        exact ⟨Nat.le_refl _, Nat.le_refl _⟩
      · cases h
    · cases h
  · cases h

/-! The small machine's cells and locals as the kit has them -/
def mm_rho (ad : Nat → Nat) : Value → Value
  | .ref k => .ref (ad k)
  | v => v
theorem mm_rho_cat (ad : Nat → Nat) (v : Value) : (mm_rho ad v).category = v.category := by cases v <;> rfl
def mm_fv (ad : Nat → Nat) (f : Nat → Int32) : Nat → List (Option Nat) → List Value
  | _, [] => []
  | j, none :: r => .int (f j) :: mm_fv ad f (j + 1) r
  | j, some t :: r => .ref (ad t) :: mm_fv ad f (j + 1) r
def mm_ce (ad : Nat → Nat) (a3 : ClassId × ClassId × ClassId) (Y : mm_Y) (σ : mm_S) (k : Nat) : va_E := match mm_kd Y k with
  | (0, ci, fs) => .inr (ci, mm_fv ad (σ k) 0 fs)
  | (1, n, _) => .inl (a3.1, n, .inl (σ k))
  | (2, n, _) => .inl (a3.2.1, n, .inl (σ k))
  | (_, n, _) => .inl (a3.2.2, n, .inr (.inr (.inr (.inr (fun j => if j < n then some (ad (k + 1 + j)) else none)))))
def mm_wd (ad : Nat → Nat) (a3 : ClassId × ClassId × ClassId) (Y : mm_Y) (σ : mm_S) : va_W := (List.range Y.1.length).map (fun k => (ad k, mm_ce ad a3 Y σ k))
theorem mm_nth_lt {α : Type} : ∀ {l : List α} {i : Nat} {a : α}, mm_nth l i = some a → i < l.length
  | [], _, _, h => by simp [mm_nth] at h
  | _ :: _, 0, _, _ => Nat.zero_lt_succ _
  | _ :: r, i + 1, _, h => Nat.succ_lt_succ (mm_nth_lt (l := r) (i := i) h)
theorem mm_nth_eq {α : Type} : ∀ (l : List α) (i : Nat), mm_nth l i = l[i]?
  | [], _ => by simp [mm_nth]
  | _ :: _, 0 => by simp [mm_nth]
  | _ :: r, i + 1 => by simp [mm_nth, mm_nth_eq r i]
theorem mm_set_length {α : Type} : ∀ (l : List α) (i : Nat) (a : α), (mm_set l i a).length = l.length
  | [], _, _ => rfl
  | _ :: _, 0, _ => rfl
  | _ :: r, i + 1, a => by simp [mm_set, mm_set_length r i a]
theorem mm_nth_set {α : Type} : ∀ (l : List α) (i : Nat) (a : α) (j : Nat), mm_nth (mm_set l i a) j = if j = i then (if i < l.length then some a else none) else mm_nth l j
  | [], i, a, j => by simp [mm_set, mm_nth]
  | _ :: _, 0, _, 0 => by simp [mm_set, mm_nth]
  | _ :: _, 0, _, j + 1 => by simp [mm_set, mm_nth]
  | _ :: _, i + 1, _, 0 => by simp [mm_set, mm_nth]
  | _ :: r, i + 1, a, j + 1 => by
    have h := mm_nth_set r i a j
    simp only [mm_set, mm_nth, h, Nat.add_right_cancel_iff, List.length_cons, Nat.add_lt_add_iff_right]
theorem mm_kd_lt {Y : mm_Y} {k : Nat} (h : (mm_kd Y k).1 ≠ 9) : k < Y.1.length := by
  unfold mm_kd at h
  cases e : mm_nth Y.1 k with
  | none => rw [e] at h; exact absurd rfl h
  | some q => exact mm_nth_lt e
theorem mm_fv_int (ad : Nat → Nat) (f : Nat → Int32) : ∀ (fs : List (Option Nat)) (j0 j : Nat), mm_nth fs j = some none → (mm_fv ad f j0 fs)[j]? = some (.int (f (j0 + j)))
  | [], _, _, h => by simp [mm_nth] at h
  | none :: _, j0, 0, _ => by simp [mm_fv]
  | some _ :: _, _, 0, h => by simp [mm_nth] at h
  | none :: r, j0, j + 1, h => by
    have q := mm_fv_int ad f r (j0 + 1) j h
    simp only [mm_fv, List.getElem?_cons_succ, q]
    rw [Nat.add_assoc, Nat.add_comm 1 j]
  | some _ :: r, j0, j + 1, h => by
    have q := mm_fv_int ad f r (j0 + 1) j h
    simp only [mm_fv, List.getElem?_cons_succ, q]
    rw [Nat.add_assoc, Nat.add_comm 1 j]
theorem mm_fv_ref (ad : Nat → Nat) (f : Nat → Int32) : ∀ (fs : List (Option Nat)) (j0 j t : Nat), mm_nth fs j = some (some t) → (mm_fv ad f j0 fs)[j]? = some (.ref (ad t))
  | [], _, _, _, h => by simp [mm_nth] at h
  | none :: _, _, 0, _, h => by simp [mm_nth] at h
  | some _ :: _, _, 0, _, h => by simp only [mm_nth, Option.some.injEq] at h; simp [mm_fv, h]
  | none :: r, j0, j + 1, t, h => by
    have q := mm_fv_ref ad f r (j0 + 1) j t h
    simp only [mm_fv, List.getElem?_cons_succ, q]
  | some _ :: r, j0, j + 1, t, h => by
    have q := mm_fv_ref ad f r (j0 + 1) j t h
    simp only [mm_fv, List.getElem?_cons_succ, q]
theorem mm_fv_len (ad : Nat → Nat) (f : Nat → Int32) : ∀ (fs : List (Option Nat)) (j0 : Nat), (mm_fv ad f j0 fs).length = fs.length
  | [], _ => rfl
  | none :: r, j0 => by simp [mm_fv, mm_fv_len ad f r (j0 + 1)]
  | some _ :: r, j0 => by simp [mm_fv, mm_fv_len ad f r (j0 + 1)]
theorem mm_fv_congr (ad : Nat → Nat) (f g : Nat → Int32) : ∀ (fs : List (Option Nat)) (j0 : Nat), (∀ j, j0 ≤ j → f j = g j) → mm_fv ad f j0 fs = mm_fv ad g j0 fs
  | [], _, _ => rfl
  | none :: r, j0, h => by simp only [mm_fv]; rw [h j0 (Nat.le_refl _), mm_fv_congr ad f g r (j0 + 1) (fun j hj => h j (by omega))]
  | some _ :: r, j0, h => by simp only [mm_fv]; rw [mm_fv_congr ad f g r (j0 + 1) (fun j hj => h j (by omega))]
theorem mm_fv_set (ad : Nat → Nat) (x : Int32) : ∀ (fs : List (Option Nat)) (f : Nat → Int32) (j0 j : Nat), mm_nth fs j = some none → (mm_fv ad f j0 fs).set j (.int x) = mm_fv ad (upd f (j0 + j) x) j0 fs
  | [], _, _, _, h => by simp [mm_nth] at h
  | none :: r, f, j0, 0, _ => by
    simp only [mm_fv, List.set_cons_zero, Nat.add_zero]
    rw [mm_fv_congr ad f (upd f j0 x) r (j0 + 1) (fun j hj => (pk_un (by omega)).symm), pk_us]
  | some _ :: _, _, _, 0, h => by simp [mm_nth] at h
  | none :: r, f, j0, j + 1, h => by
    have q := mm_fv_set ad x r f (j0 + 1) j h
    simp only [mm_fv, List.set_cons_succ]
    rw [q, show j0 + 1 + j = j0 + (j + 1) by omega, pk_un (by omega)]
  | some _ :: r, f, j0, j + 1, h => by
    have q := mm_fv_set ad x r f (j0 + 1) j h
    simp only [mm_fv, List.set_cons_succ]
    rw [q, show j0 + 1 + j = j0 + (j + 1) by omega]
theorem mm_wd_get {ad : Nat → Nat} {a3 : ClassId × ClassId × ClassId} {Y : mm_Y} {σ : mm_S} {k : Nat} (h : k < Y.1.length) : (mm_wd ad a3 Y σ)[k]? = some (ad k, mm_ce ad a3 Y σ k) := by
  simp [mm_wd, List.getElem?_map, List.getElem?_range h]
theorem mm_up_ne {σ : mm_S} {k j k' : Nat} {x : Int32} (h : k' ≠ k) : mm_up σ k j x k' = σ k' := by simp [mm_up, h]
theorem mm_up_eq {σ : mm_S} {k j : Nat} {x : Int32} : mm_up σ k j x k = upd (σ k) j x := by simp [mm_up]
theorem mm_ce_ne {ad : Nat → Nat} {a3 : ClassId × ClassId × ClassId} {Y : mm_Y} {σ σ' : mm_S} {k : Nat} (h : σ' k = σ k) : mm_ce ad a3 Y σ' k = mm_ce ad a3 Y σ k := by
  unfold mm_ce; rw [h]
theorem mm_wd_set {ad : Nat → Nat} {a3 : ClassId × ClassId × ClassId} {Y : mm_Y} {σ : mm_S} {k j : Nat} {x : Int32} {e : va_E} (he : mm_ce ad a3 Y (mm_up σ k j x) k = e) : (mm_wd ad a3 Y σ).set k (ad k, e) = mm_wd ad a3 Y (mm_up σ k j x) := by
  subst he
  refine List.ext_getElem? fun i => ?_
  rw [List.getElem?_set]
  unfold mm_wd
  simp only [List.getElem?_map, List.length_map, List.length_range]
  by_cases hi : i < Y.1.length
  · rw [List.getElem?_range hi]
    by_cases hk : k = i
    · subst hk
      simp [hi]
    · simp only [hk, if_false, Option.map_some]
      rw [mm_ce_ne (mm_up_ne (fun h => hk h.symm))]
  · have hn : (List.range Y.1.length)[i]? = none := by simp; omega
    rw [hn]
    by_cases hk : k = i
    · subst hk
      simp [hi]
    · simp [hk]
/-- locals -/
def mm_ll (ad : Nat → Nat) : Nat → List (Option Value) → List (Nat × Value)
  | _, [] => []
  | i, some v :: r => (i, mm_rho ad v) :: mm_ll ad (i + 1) r
  | i, none :: r => mm_ll ad (i + 1) r
theorem mm_ll_mem (ad : Nat → Nat) : ∀ (L : List (Option Value)) (j k : Nat) (v : Value), mm_nth L k = some (some v) → (j + k, mm_rho ad v) ∈ mm_ll ad j L
  | [], _, _, _, h => by simp [mm_nth] at h
  | some w :: r, j, 0, v, h => by simp only [mm_nth, Option.some.injEq] at h; subst h; simp [mm_ll]
  | none :: r, j, 0, v, h => by simp [mm_nth] at h
  | some w :: r, j, k + 1, v, h => by
    have q := mm_ll_mem ad r (j + 1) k v h
    rw [show j + 1 + k = j + (k + 1) by omega] at q
    exact List.mem_cons_of_mem _ q
  | none :: r, j, k + 1, v, h => by
    have q := mm_ll_mem ad r (j + 1) k v h
    rw [show j + 1 + k = j + (k + 1) by omega] at q
    exact q
theorem mm_ll_of (ad : Nat → Nat) : ∀ (L : List (Option Value)) (j : Nat) (q : Nat × Value), q ∈ mm_ll ad j L → ∃ k v, q = (j + k, mm_rho ad v) ∧ mm_nth L k = some (some v)
  | [], _, _, h => by simp [mm_ll] at h
  | some w :: r, j, q, h => by
    simp only [mm_ll, List.mem_cons] at h
    rcases h with h | h
    · exact ⟨0, w, h, rfl⟩
    · obtain ⟨k, v, h1, h2⟩ := mm_ll_of ad r (j + 1) q h
      exact ⟨k + 1, v, by rw [h1, show j + 1 + k = j + (k + 1) by omega], h2⟩
  | none :: r, j, q, h => by
    simp only [mm_ll] at h
    obtain ⟨k, v, h1, h2⟩ := mm_ll_of ad r (j + 1) q h
    exact ⟨k + 1, v, by rw [h1, show j + 1 + k = j + (k + 1) by omega], h2⟩
def mm_lh (ad : Nat → Nat) (ls : Array Slot) (n : Nat) (L : List (Option Value)) : Prop := lv_has ls n (mm_ll ad 0 L) ∧ L.length = n ∧ ∀ k v, mm_nth L k = some (some v) → v.category = 1
theorem mm_lh_at {ad : Nat → Nat} {ls : Array Slot} {n : Nat} {L : List (Option Value)} (h : mm_lh ad ls n L) {i : Nat} {v : Value} (hi : mm_nth L i = some (some v)) : ls[i]? = some (.val (mm_rho ad v)) := by
  have q := h.1.2.2 _ (mm_ll_mem ad L 0 i v hi)
  simpa using q
theorem mm_lh_set {ad : Nat → Nat} {ls ls' : Array Slot} {n : Nat} {L : List (Option Value)} (h : mm_lh ad ls n L) {i : Nat} {v : Value} (hi : i < n) (hv : v.category = 1) (h' : lv_has ls' n ((i, mm_rho ad v) :: (mm_ll ad 0 L).filter (fun q => !(q.1 == i) && !(q.1 + 1 == i && q.2.category == 2)))) : mm_lh ad ls' n (mm_set L i (some v)) := by
  obtain ⟨h1, h2, h3⟩ := h
  refine ⟨⟨h'.1, h'.2.1, fun q hq => ?_⟩, by rw [mm_set_length]; exact h2, fun k w hw => ?_⟩
  · obtain ⟨k, w, e, hk⟩ := mm_ll_of ad _ 0 q hq
    rw [mm_nth_set] at hk
    subst e
    by_cases hki : k = i
    · subst hki
      rw [if_pos rfl, if_pos (by rw [h2]; exact hi)] at hk
      simp only [Option.some.injEq] at hk
      subst hk
      have := h'.2.2 (k, mm_rho ad v) List.mem_cons_self
      simpa using this
    · rw [if_neg hki] at hk
      have hm := mm_ll_mem ad L 0 k w hk
      refine h'.2.2 (0 + k, mm_rho ad w) (List.mem_cons_of_mem _ (List.mem_filter.mpr ⟨hm, ?_⟩))
      simp only [Nat.zero_add, mm_rho_cat, h3 k w hk, Bool.and_eq_true, Bool.not_eq_true', beq_eq_false_iff_ne, ne_eq, hki, not_false_eq_true, true_and]
      simp
  · rw [mm_nth_set] at hw
    by_cases hki : k = i
    · rw [if_pos hki, if_pos (by rw [h2]; exact hi)] at hw
      simp only [Option.some.injEq] at hw
      subst hw
      exact hv
    · rw [if_neg hki] at hw
      exact h3 k w hw

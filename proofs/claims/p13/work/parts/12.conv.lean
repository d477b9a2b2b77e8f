/-! the cells that the constructors have made are the small machine's cells -/
def bn_pi (k : Nat) : Nat := (mm_nth [0, 1, 11, 12, 14, 15, 39, 41, 59, 71, 74, 2, 3, 4, 5, 6, 7, 8, 9, 10, 13, 16, 17, 18, 19, 20, 21, 22, 23, 24, 25, 26, 27, 28, 29, 30, 31, 32, 33, 34, 35, 36, 37, 38, 40, 42, 43, 44, 45, 46, 47, 48, 49, 50, 51, 52, 53, 54, 55, 56, 57, 58, 60, 61, 62, 63, 64, 65, 66, 67, 68, 69, 70, 72, 73, 75, 76, 77, 78, 79, 80, 81, 82, 83, 84, 85, 86, 87, 88, 89, 90, 91, 92, 93, 94, 95, 96, 97, 98, 99, 100, 101, 102, 103, 104, 105, 106] k).getD 0
def bn_vi (v : Value) : Int32 := match v with
  | .int x => x
  | _ => 0
def bn_s0 (κ : List bm_K) (π : Nat → Nat) : mm_S := fun k => match mm_nth κ (π k) with
  | some (0, _, vs, _) => fun j => bn_vi ((mm_nth vs j).getD .null)
  | some (_, _, _, f) => f
  | none => bm_z
def bn_fok (π : Nat → Nat) : List (Option Nat) → List Value → Bool
  | [], [] => true
  | none :: r, .int _ :: vs => bn_fok π r vs
  | some t :: r, .ref a :: vs => Nat.beq a (π t) && bn_fok π r vs
  | _, _ => false
def bn_cok (κ : List bm_K) (π : Nat → Nat) (Y : mm_Y) (k : Nat) : Bool := match mm_kd Y k, mm_nth κ (π k) with
  | (0, ci, fs), some (0, ci', vs, _) => Nat.beq ci ci' && bn_fok π fs vs
  | (1, n, _), some (1, n', _, _) => Nat.beq n n'
  | (2, n, _), some (2, n', _, _) => Nat.beq n n'
  | (3, n, _), some (3, n', _, _) => Nat.beq n n' && (List.range n).all (fun j => Nat.beq (π (k + 1 + j)) (π k + 1 + j))
  | _, _ => false
def bn_conv (κ : List bm_K) (π : Nat → Nat) (Y : mm_Y) : Bool := (List.range Y.1.length).all (bn_cok κ π Y) && (List.range Y.1.length).all (fun i => (List.range Y.1.length).all (fun j => Nat.beq i j || !(Nat.beq (π i) (π j))))
theorem bn_fv {ad π : Nat → Nat} : ∀ (fs : List (Option Nat)) (vs : List Value) (f : Nat → Int32) (j0 : Nat), bn_fok π fs vs = true → (∀ j, f (j0 + j) = bn_vi ((mm_nth vs j).getD .null)) → mm_fv (fun k => ad (π k)) f j0 fs = vs.map (mm_rho ad)
  | [], [], _, _, _, _ => rfl
  | none :: r, .int x :: vs, f, j0, h, hf => by
    have q := bn_fv (ad := ad) r vs f (j0 + 1) h (fun j => by have := hf (j + 1); rw [show j0 + 1 + j = j0 + (j + 1) by omega]; exact this)
    have h0 : f j0 = x := hf 0
    simp only [mm_fv, List.map_cons, q, mm_rho, h0]
  | some t :: r, .ref a :: vs, f, j0, h, hf => by
    simp only [bn_fok, Bool.and_eq_true] at h
    have q := bn_fv (ad := ad) r vs f (j0 + 1) h.2 (fun j => by have := hf (j + 1); rw [show j0 + 1 + j = j0 + (j + 1) by omega]; exact this)
    have h0 := Nat.eq_of_beq_eq_true h.1
    simp only [mm_fv, List.map_cons, q, mm_rho, h0]
  | [], _ :: _, _, _, h, _ => by simp [bn_fok] at h
  | none :: _, [], _, _, h, _ => by simp [bn_fok] at h
  | some _ :: _, [], _, _, h, _ => by simp [bn_fok] at h
  | none :: _, .long _ :: _, _, _, h, _ => by simp [bn_fok] at h
  | none :: _, .float _ :: _, _, _, h, _ => by simp [bn_fok] at h
  | none :: _, .double _ :: _, _, _, h, _ => by simp [bn_fok] at h
  | none :: _, .null :: _, _, _, h, _ => by simp [bn_fok] at h
  | none :: _, .ref _ :: _, _, _, h, _ => by simp [bn_fok] at h
  | none :: _, .retAddr _ :: _, _, _, h, _ => by simp [bn_fok] at h
  | some _ :: _, .int _ :: _, _, _, h, _ => by simp [bn_fok] at h
  | some _ :: _, .long _ :: _, _, _, h, _ => by simp [bn_fok] at h
  | some _ :: _, .float _ :: _, _, _, h, _ => by simp [bn_fok] at h
  | some _ :: _, .double _ :: _, _, _, h, _ => by simp [bn_fok] at h
  | some _ :: _, .null :: _, _, _, h, _ => by simp [bn_fok] at h
  | some _ :: _, .retAddr _ :: _, _, _, h, _ => by simp [bn_fok] at h
theorem bn_cell {κ : List bm_K} {π ad : Nat → Nat} {Y : mm_Y} {a3 : ClassId × ClassId × ClassId} {k : Nat} (h : bn_cok κ π Y k = true) : (bm_wd ad a3 κ)[π k]? = some (ad (π k), mm_ce (fun k => ad (π k)) a3 Y (bn_s0 κ π) k) := by
  unfold bn_cok at h
  split at h
  · rename_i ci fs ci' vs f hk hn
    rw [Bool.and_eq_true] at h
    have hc := Nat.eq_of_beq_eq_true h.1
    subst hc
    rw [bm_wd_get hn]
    have hs : bn_s0 κ π k = fun j => bn_vi ((mm_nth vs j).getD .null) := by simp only [bn_s0, hn]
    simp only [mm_ce, hk, bm_ce]
    rw [bn_fv (ad := ad) fs vs (bn_s0 κ π k) 0 h.2 (fun j => by rw [hs, Nat.zero_add])]
  · rename_i n x n' x2 f hk hn
    have hc := Nat.eq_of_beq_eq_true h
    subst hc
    rw [bm_wd_get hn]
    have hs : bn_s0 κ π k = f := by simp only [bn_s0, hn]
    simp only [mm_ce, hk, bm_ce, hs]
  · rename_i n x n' x2 f hk hn
    have hc := Nat.eq_of_beq_eq_true h
    subst hc
    rw [bm_wd_get hn]
    have hs : bn_s0 κ π k = f := by simp only [bn_s0, hn]
    simp only [mm_ce, hk, bm_ce, hs]
  · rename_i n x n' x2 f hk hn
    rw [Bool.and_eq_true] at h
    have hc := Nat.eq_of_beq_eq_true h.1
    subst hc
    rw [bm_wd_get hn]
    have hf : (fun j => if j < n then some (ad (π k + 1 + j)) else none) = (fun j => if j < n then some (ad (π (k + 1 + j))) else none) := by
      funext j
      by_cases hj : j < n
      · have hq := Nat.eq_of_beq_eq_true (List.all_eq_true.mp h.2 j (List.mem_range.mpr hj))
        simp only [hj, if_true, hq]
      · simp only [hj, if_false]
    simp only [mm_ce, hk, bm_ce, hf]
  · cases h
theorem bn_world {κ : List bm_K} {π ad : Nat → Nat} {Y : mm_Y} {a3 : ClassId × ClassId × ClassId} {D : va_G} {cl : List vw_C} {A : Nat → Prop} {H : Heap} (h : bn_conv κ π Y = true) (hP : va_P D cl (bm_wd ad a3 κ) H) (hD : va_D A (bm_wd ad a3 κ)) : va_P D cl (mm_wd (fun k => ad (π k)) a3 Y (bn_s0 κ π)) H ∧ va_D A (mm_wd (fun k => ad (π k)) a3 Y (bn_s0 κ π)) := by
  unfold bn_conv at h
  rw [Bool.and_eq_true] at h
  have key : ∀ (i : Nat) (q : Nat × va_E), (mm_wd (fun k => ad (π k)) a3 Y (bn_s0 κ π))[i]? = some q → i < Y.1.length ∧ (bm_wd ad a3 κ)[π i]? = some q := by
    intro i q hq
    have hi : i < Y.1.length := by
      have := (List.getElem?_eq_some_iff.mp hq).1
      simpa [mm_wd] using this
    rw [mm_wd_get hi] at hq
    refine ⟨hi, ?_⟩
    rw [← hq]
    exact bn_cell (List.all_eq_true.mp h.1 i (List.mem_range.mpr hi))
  refine ⟨fun i q hq => hP _ q (key i q hq).2, fun i j x y hx hy hxy => ?_, fun i q hq => hD.2 _ q (key i q hq).2⟩
  obtain ⟨hi, h1⟩ := key i x hx
  obtain ⟨hj, h2⟩ := key j y hy
  have e := hD.1 _ _ _ _ h1 h2 hxy
  have h3 := List.all_eq_true.mp (List.all_eq_true.mp h.2 i (List.mem_range.mpr hi)) j (List.mem_range.mpr hj)
  rw [Bool.or_eq_true] at h3
  rcases h3 with h3 | h3
  · exact Nat.eq_of_beq_eq_true h3
  · rw [e] at h3
    simp at h3
set_option maxRecDepth 100000 in
theorem bn_ok : bn_conv bn_k2 bn_pi ms_Y = true := by decide +kernel
/-- what the cells hold at the start -/
def ms_0 : mm_S := bn_s0 bn_k2 bn_pi

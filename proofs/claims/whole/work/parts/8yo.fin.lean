/-! what findPlaces wants of the sides -/
theorem LSo_ea {rm ea no : Nat → Prop} {n : Nat} {D ja jb wsh wid hgt V : Nat → Nat} (Ls : LSo (CSt rm n D ja jb wsh wid hgt ea no) V) : ∃ WD HT, (∀ i, ea i → V (4 * i + 2) = WD) ∧ ∀ i, no i → V (4 * i + 3) = HT := by
  have h1 : ∃ WD, ∀ i, ea i → V (4 * i + 2) = WD := by
    by_cases h : ∃ i, ea i
    · obtain ⟨i0, e0⟩ := h
      refine ⟨V (4 * i0 + 2), fun i hi => ?_⟩
      have a := Ls.1 _ _ _ (Or.inr (Or.inr (Or.inr ⟨i, i0, rfl, Or.inl ⟨hi, e0, rfl, rfl⟩⟩)))
      have b := Ls.1 _ _ _ (Or.inr (Or.inr (Or.inr ⟨i0, i, rfl, Or.inl ⟨e0, hi, rfl, rfl⟩⟩)))
      omega
    · exact ⟨0, fun i hi => absurd ⟨i, hi⟩ h⟩
  have h2 : ∃ HT, ∀ i, no i → V (4 * i + 3) = HT := by
    by_cases h : ∃ i, no i
    · obtain ⟨i0, e0⟩ := h
      refine ⟨V (4 * i0 + 3), fun i hi => ?_⟩
      have a := Ls.1 _ _ _ (Or.inr (Or.inr (Or.inr ⟨i, i0, rfl, Or.inr ⟨hi, e0, rfl, rfl⟩⟩)))
      have b := Ls.1 _ _ _ (Or.inr (Or.inr (Or.inr ⟨i0, i, rfl, Or.inr ⟨e0, hi, rfl, rfl⟩⟩)))
      omega
    · exact ⟨0, fun i hi => absurd ⟨i, hi⟩ h⟩
  obtain ⟨WD, a⟩ := h1
  obtain ⟨HT, b⟩ := h2
  exact ⟨WD, HT, a, b⟩
theorem PLD.nes {σ : mm_S} {n m : Nat} {B : Nat → Nat → Nat} {s t L f : Nat} {Mk : Nat → Nat} {lab : Nat × Nat → Int32} {p K : Nat → Nat} (P : PLD σ n m B s t L f Mk lab p K) {s' r : Nat} (hs : s' < 4) : neS K s' r ↔ rmx m r ∧ (K (9 + s')).testBit r = true := by
  unfold neS
  constructor
  · rintro ⟨r9, h⟩
    have h' : nrP σ m B s t L p r (9 + s') := (P.kn (u := r) (by omega)).mp h
    have sy := P.gp.sy _ _ h'
    refine ⟨?_, (P.kn (u := 9 + s') (by omega)).mpr sy⟩
    rcases (P.gp.2.2.1 _ _ h').2 with g | g
    · exact g
    · omega
  · rintro ⟨hr, h⟩
    have h' : nrP σ m B s t L p (9 + s') r := (P.kn (u := 9 + s') (by omega)).mp h
    have r9 := hr.1
    exact ⟨r9, (P.kn (u := r) (by omega)).mpr (P.gp.sy _ _ h')⟩

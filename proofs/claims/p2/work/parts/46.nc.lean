/-! class: what it means that nothing crosses -/
def btw (x a b : Int) : Prop := (a ≤ x ∧ x ≤ b) ∨ (b ≤ x ∧ x ≤ a)
theorem f_28_btw {x a b : Int32} : ¬ f_28 x a b = 0 ↔ btw x.toInt a.toInt b.toInt := by
  unfold f_28 btw
  simp only [Int32.lt_iff_toInt_lt]
  by_cases h1 : b.toInt < a.toInt <;> by_cases h2 : a.toInt < b.toInt <;> simp only [h1, h2, if_true, if_false]
  · omega
  · by_cases h3 : x.toInt < b.toInt <;> by_cases h4 : a.toInt < x.toInt <;> simp [h3, h4] <;> omega
  · by_cases h3 : x.toInt < a.toInt <;> by_cases h4 : b.toInt < x.toInt <;> simp [h3, h4] <;> omega
  · by_cases h3 : x.toInt < a.toInt <;> by_cases h4 : a.toInt < x.toInt <;> simp [h3, h4] <;> omega
theorem i32_z {x : Int32} : x = 0 ↔ x.toInt = 0 := by
  rw [← Int32.toInt_inj]; rfl
theorem f_11_iff {σ : mm_S} {j e p q : Nat} (he : e < 21) (hj : j < 9) (hp : p < 9) (hq : q < 9) (e16 : σ 16 e = nI p) (e17 : σ 17 e = nI q) : f_11 σ (nI j) (nI e) = 0 ↔ j ≠ p ∧ j ≠ q := by
  unfold f_11
  rw [nI_clamp (show e < 2 ^ 31 by omega), e16, e17]
  by_cases h1 : p = j
  · subst h1; simp
  · have n1 : ¬ nI p = nI j := fun z => h1 ((nI_eq (by omega) (by omega)).mp z)
    by_cases h2 : q = j
    · subst h2; simp [n1]
    · have n2 : ¬ nI q = nI j := fun z => h2 ((nI_eq (by omega) (by omega)).mp z)
      simp only [n1, n2, if_false, true_iff]
      exact ⟨fun z => h1 z.symm, fun z => h2 z.symm⟩
/-- room j lies on the join from p to q -/
def lon (σ : mm_S) (j p q : Nat) : Prop := j ≠ p ∧ j ≠ q ∧ gcr (vc σ p q) (vc σ p j) = 0 ∧ btw (pX σ j) (pX σ p) (pX σ q) ∧ btw (pY σ j) (pY σ p) (pY σ q)
theorem f_27_iff {σ : mm_S} {j e p q : Nat} (he : e < 21) (hj : j < 9 ∧ cG σ j) (hp : p < 9 ∧ cG σ p) (hq : q < 9 ∧ cG σ q) (e16 : σ 16 e = nI p) (e17 : σ 17 e = nI q) : ¬ f_27 σ (nI j) (nI e) = 0 ↔ lon σ j p q := by
  have h11 := f_11_iff he hj.1 hp.1 hq.1 e16 e17
  have h17 := f_17_toInt hp hq hj
  unfold f_27 lon
  rw [nI_clamp (show e < 2 ^ 31 by omega), e16, e17, nI_clamp (show j < 2 ^ 31 by omega), nI_clamp (show p < 2 ^ 31 by omega), nI_clamp (show q < 2 ^ 31 by omega)]
  have hx := f_28_btw (x := σ 11 j) (a := σ 11 p) (b := σ 11 q)
  have hy := f_28_btw (x := σ 12 j) (a := σ 12 p) (b := σ 12 q)
  have hz : f_17 σ (nI p) (nI q) (nI j) = 0 ↔ gcr (vc σ p q) (vc σ p j) = 0 := by rw [i32_z, h17]
  by_cases a : f_11 σ (nI j) (nI e) = 0
  · rw [if_pos a]
    have a' := h11.mp a
    by_cases b : f_17 σ (nI p) (nI q) (nI j) = 0
    · rw [if_pos b]
      have b' := hz.mp b
      by_cases c : f_28 (σ 11 j) (σ 11 p) (σ 11 q) = 0
      · rw [if_pos c]
        exact ⟨fun z => absurd rfl z, fun z => absurd c (hx.mpr z.2.2.2.1)⟩
      · rw [if_neg c]
        by_cases e : f_28 (σ 12 j) (σ 12 p) (σ 12 q) = 0
        · rw [if_pos e]
          exact ⟨fun z => absurd rfl z, fun z => absurd e (hy.mpr z.2.2.2.2)⟩
        · rw [if_neg e]
          exact ⟨fun _ => ⟨a'.1, a'.2, b', hx.mp c, hy.mp e⟩, fun _ => by decide⟩
    · rw [if_neg b]
      exact ⟨fun z => absurd rfl z, fun z => absurd (hz.mpr z.2.2.1) b⟩
  · rw [if_neg a]
    exact ⟨fun z => absurd rfl z, fun z => absurd (h11.mpr ⟨z.1, z.2.1⟩) a⟩
/-- of two vectors that look the same way one lies on the other -/
theorem gbt1 {D T u v : Int} (hD : 0 < D) (hT : 0 < T) (hTD : T ≤ D) (h : D * u = T * v) : btw u 0 v := by
  unfold btw
  rcases Int.le_total 0 v with k | k
  · refine Or.inl ⟨?_, ?_⟩
    · have : 0 ≤ T * v := Int.mul_nonneg (by omega) k
      rcases Int.lt_or_le u 0 with z | z
      · have := Int.mul_neg_of_pos_of_neg hD z; omega
      · exact z
    · have h1 : T * v ≤ D * v := Int.mul_le_mul_of_nonneg_right hTD k
      exact Int.le_of_mul_le_mul_left (by rw [h]; exact h1) hD
  · refine Or.inr ⟨?_, ?_⟩
    · have h1 : D * v ≤ T * v := Int.mul_le_mul_of_nonpos_right hTD k
      exact Int.le_of_mul_le_mul_left (by rw [h]; exact h1) hD
    · have : T * v ≤ 0 := Int.mul_nonpos_of_nonneg_of_nonpos (by omega) k
      rcases Int.lt_or_le 0 u with z | z
      · have := Int.mul_pos hD z; omega
      · exact z
theorem gbt {u v : V2} (hu : 0 < gdt u u) (hv : 0 < gdt v v) (h : gsd u v) : (btw u.1 0 v.1 ∧ btw u.2 0 v.2) ∨ (btw v.1 0 u.1 ∧ btw v.2 0 u.2) := by
  obtain ⟨h0, h1⟩ := h
  have key : ∀ a b : V2, gcr a b = 0 → gdt b b * a.1 = gdt a b * b.1 ∧ gdt b b * a.2 = gdt a b * b.2 := by
    intro a b h
    unfold gcr at h
    unfold gdt
    constructor <;> grind
  rcases Int.le_total (gdt u v) (gdt v v) with k | k
  · obtain ⟨k1, k2⟩ := key u v h0
    exact Or.inl ⟨gbt1 hv h1 k k1, gbt1 hv h1 k k2⟩
  · obtain ⟨k1, k2⟩ := key v u (by have := gcr_anti v u; omega)
    have h1' : 0 < gdt v u := by rw [gdt_comm]; exact h1
    have k' : gdt v u ≤ gdt u u := by
      rw [gdt_comm v u]
      have e := gdt_id3 u v
      rw [h0, Int.mul_zero, Int.add_zero] at e
      rcases Int.lt_or_le (gdt u u) (gdt u v) with z | z
      · exfalso
        have a1 : gdt u u * gdt v v < gdt u v * gdt v v := Int.mul_lt_mul_of_pos_right z hv
        have a2 : gdt u v * gdt v v ≤ gdt u v * gdt u v := Int.mul_le_mul_of_nonneg_left k (by omega)
        omega
      · exact z
    exact Or.inr ⟨gbt1 hu h1' k' k1, gbt1 hu h1' k' k2⟩
/-- rooms p, q of a join, in either order -/
theorem lon_of {σ : mm_S} {i j k : Nat} (hji : j ≠ i) (hjk : j ≠ k) (h0 : gcr (vc σ i j) (vc σ i k) = 0) (hb : btw (vc σ i j).1 0 (vc σ i k).1 ∧ btw (vc σ i j).2 0 (vc σ i k).2) : lon σ j i k ∧ lon σ j k i := by
  unfold vc btw at hb
  unfold lon btw
  unfold gcr vc at *
  simp only at *
  refine ⟨⟨hji, hjk, ?_, ?_, ?_⟩, ⟨hjk, hji, ?_, ?_, ?_⟩⟩
  · grind
  · omega
  · omega
  · grind
  · omega
  · omega

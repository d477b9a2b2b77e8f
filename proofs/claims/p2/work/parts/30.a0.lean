/-! the law's arm 0: room -/
theorem mm_up_n {σ : mm_S} {k k' j : Nat} {x : Int32} (h : k' ≠ k) : mm_up σ k j x k' = σ k' := by
  unfold mm_up
  first | exact if_neg h | simp [h] | (funext i; simp [h])
theorem xdr_o {σ : mm_S} {r x y : Int32} {k : Nat} (h : k ≠ 1 ∧ k ≠ 11 ∧ k ≠ 12 ∧ k ≠ 13 ∧ k ≠ 14 ∧ k ≠ 15) : xdr σ r x y k = σ k := by
  obtain ⟨h1, h2, h3, h4, h5, h6⟩ := h
  unfold xdr
  rw [mm_up_n h1, mm_up_n h1, mm_up_n h6, mm_up_n h5, mm_up_n h4, mm_up_n h3, mm_up_n h2]
/-- rooms: class and reference hold the same -/
def Rm (σ : mm_S) : Prop := ∀ j, j < 9 → (xd σ (nI j) = 1 ↔ ¬ σ 75 j = 0) ∧ (xd σ (nI j) = 1 → σ 11 j = σ 76 j ∧ σ 12 j = σ 77 j)
theorem Rm_tk {σ : mm_S} {r x y : Int32} (hR : Rm σ) (hr : mi r 0 8 = 1) : (∃ j, j < 9 ∧ mtk σ r x y j) ↔ (xd σ r = 1 ∨ ∃ j, j < 9 ∧ xtk σ x y j) := by
  constructor
  · rintro ⟨j, hj, h1, h2⟩
    have h3 := ((hR j hj).1).mpr h1
    rcases h2 with h2 | h2
    · rw [← h2]; exact Or.inl h3
    · obtain ⟨a1, a2⟩ := (hR j hj).2 h3
      exact Or.inr ⟨j, hj, h3, a1.trans h2.1, a2.trans h2.2⟩
  · rintro (h | ⟨j, hj, h1, h2, h3⟩)
    · obtain ⟨j, hj, e⟩ := vp_in_of (mi_in hr) (by decide)
      rw [e] at h
      exact ⟨j, hj, ((hR j hj).1).mp h, Or.inl e.symm⟩
    · obtain ⟨a1, a2⟩ := (hR j hj).2 h1
      exact ⟨j, hj, ((hR j hj).1).mp h1, Or.inr ⟨a1.symm.trans h2, a2.symm.trans h3⟩⟩
theorem mtk_cg {σ σ' : mm_S} {r x y : Int32} {j : Nat} (h75 : σ' 75 = σ 75) (h76 : σ' 76 = σ 76) (h77 : σ' 77 = σ 77) : mtk σ' r x y j ↔ mtk σ r x y j := by
  unfold mtk
  rw [h75, h76, h77]
/-- both sides' state behind a room that is drawn -/
def rdr (σ : mm_S) (r x y : Int32) : mm_S := mm_up (mm_up (mm_up (mm_up (mm_up (mm_up (xdr σ r x y) 0 3 0) 10 0 0) 75 r.toNatClampNeg (vp_nar .boolean (1 : Int32))) 76 r.toNatClampNeg x) 77 r.toNatClampNeg y) 10 12 0

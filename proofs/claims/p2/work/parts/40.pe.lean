/-! the arms at an empty sketch -/
def E0 (σ : mm_S) : Prop := (σ 1 10 = 0) ∧ (σ 1 11 = 0) ∧ (σ 1 12 = 0) ∧ (σ 0 3 = 0) ∧ (σ 3 1 = 0) ∧ (σ 9 1 = 0) ∧ (σ 2 4 = 0) ∧ (σ 2 5 = 0) ∧ (∀ j, j < 9 → σ 75 j = 0) ∧ (σ 10 6 = 0) ∧ (σ 10 12 = 0) ∧ (σ 10 13 = -1) ∧ (σ 10 15 = 0) ∧ (σ 10 16 = 0) ∧ (σ 10 34 = 0)
theorem E0.dr {σ : mm_S} (h : E0 σ) : σ 1 10 = 0 := h.1
theorem E0.rm {σ : mm_S} (h : E0 σ) : σ 1 11 = 0 := h.2.1
theorem E0.jn {σ : mm_S} (h : E0 σ) : σ 1 12 = 0 := h.2.2.1
theorem E0.pl {σ : mm_S} (h : E0 σ) : σ 0 3 = 0 := h.2.2.2.1
theorem E0.ws {σ : mm_S} (h : E0 σ) : σ 3 1 = 0 := h.2.2.2.2.1
theorem E0.wy {σ : mm_S} (h : E0 σ) : σ 9 1 = 0 := h.2.2.2.2.2.1
theorem E0.co {σ : mm_S} (h : E0 σ) : σ 2 4 = 0 := h.2.2.2.2.2.2.1
theorem E0.ci {σ : mm_S} (h : E0 σ) : σ 2 5 = 0 := h.2.2.2.2.2.2.2.1
theorem E0.mr {σ : mm_S} (h : E0 σ) : ∀ j, j < 9 → σ 75 j = 0 := h.2.2.2.2.2.2.2.2.1
theorem E0.mj {σ : mm_S} (h : E0 σ) : σ 10 6 = 0 := h.2.2.2.2.2.2.2.2.2.1
theorem E0.mp {σ : mm_S} (h : E0 σ) : σ 10 12 = 0 := h.2.2.2.2.2.2.2.2.2.2.1
theorem E0.mk {σ : mm_S} (h : E0 σ) : σ 10 13 = -1 := h.2.2.2.2.2.2.2.2.2.2.2.1
theorem E0.mo {σ : mm_S} (h : E0 σ) : σ 10 15 = 0 := h.2.2.2.2.2.2.2.2.2.2.2.2.1
theorem E0.mf {σ : mm_S} (h : E0 σ) : σ 10 16 = 0 := h.2.2.2.2.2.2.2.2.2.2.2.2.2.1
theorem E0.mw {σ : mm_S} (h : E0 σ) : σ 10 34 = 0 := h.2.2.2.2.2.2.2.2.2.2.2.2.2.2
theorem hs_0 (n : Int32) : hs 0 n = 0 := by
  unfold hs
  rw [if_neg]
  simp
theorem E0_xd {σ : mm_S} (e : E0 σ) (r : Int32) : xd σ r = 0 := by
  unfold xd
  rw [e.dr, hs_0]
  split
  · rfl
  · split <;> rfl
theorem E0_md {σ : mm_S} (e : E0 σ) (r : Int32) : mdr σ r = 0 := by
  unfold mdr
  by_cases h : mi r 0 8 = 0
  · rw [if_pos h]
  · rw [if_neg h]
    obtain ⟨j, hj, ej⟩ := vp_in_of (mi_in ((mi_01 r 0 8).resolve_left h)) (by decide)
    rw [if_pos]
    rw [ej, show (nI j).toNatClampNeg = j from pk_cl j]; exact e.mr j hj
theorem E0_rc {σ : mm_S} (h : ∀ j, j < 9 → σ 75 j = 0) : rc σ 9 = 0 := by
  simp only [rc, h 0 (by decide), h 1 (by decide), h 2 (by decide), h 3 (by decide), h 4 (by decide), h 5 (by decide), h 6 (by decide), h 7 (by decide), h 8 (by decide)]
  rfl
section PE
variable {d : Nat} {xs : Nat → Int32} {len t : Nat} {x4 : Int32} {o5 o6 : Option Value} {σ : mm_S} {f : Nat → Int64}
/-- sortAround where there is no join -/
theorem c_104e {Q : mm_Q} {σ : mm_S} (e6 : σ 10 6 = 0) (q : ∀ τ : mm_S, (∀ k, k ≠ 87 → τ k = σ k) → Q none τ) : mD (d + 1) 104 [.ref 10] σ Q := by
  refine ke_104 (kb_104_0 ?_)
  refine lp_dn (P := fun i => ∀ τ : mm_S, (∀ k, k ≠ 87 → τ k = σ k) → ∀ o2 o3, mw d mt_104 Q 2 [some (.ref 10), some (.int (nI i)), o2, o3] [] τ) 9 ?_ ?_ 0 (by omega) σ (fun _ _ => rfl) none none
  · intro τ h o2 o3
    exact kb_104_2 (fun _ => kb_104_154 (q τ h)) (fun g => absurd (by decide) g)
  · intro i hi ih τ h o2 o3
    refine kb_104_2 (fun g => absurd g (hI_nle (a := 9) (by omega) hi)) (fun _ => kb_104_8 (pk_in i 9 hi) (kb_104_17 (fun _ => kb_104_148 ?_) (fun g => absurd ?_ g)))
    · rw [nI_1]
      exact ih _ (fun k hk => by rw [mm_up_n hk]; exact h k hk) _ _
    · rw [mm_up_n (by decide), h 10 (by decide), e6]; decide
end PE


-- search ends, the places are found
def SJ (τ0 τ : mm_S) : Prop := (∀ c, c ≠ 10 → c ≠ 94 → c ≠ 95 → (c < 100 ∨ 105 < c) → τ c = τ0 c) ∧ ∀ j, j ≠ 29 → j ≠ 37 → τ 10 j = τ0 10 j
def LV (σ τ : mm_S) (r : Nat) : Prop := (∀ c, c ≠ 10 → c ≠ 100 → c ≠ 105 → τ c = σ c) ∧ (∀ j, j ≠ 37 → τ 10 j = σ 10 j) ∧ ∃ lv, lv ≤ r ∧ τ 10 37 = nI lv ∧ (∀ l, l < lv → ∃ a, a < 9 ∧ τ 100 l = nI a) ∧ ((∃ a, a < r ∧ ¬ σ 75 a = 0) → 1 ≤ lv)
theorem c_131 {d n : Nat} {Q : mm_Q} {σ : mm_S} (hn : n ≤ 21) (e6 : σ 10 6 = nI n) (R : RG σ n) (h1 : ∃ r, r < 9 ∧ ¬ σ 75 r = 0) (q : ∀ τ, SJ σ τ → Q none τ) : mD (d + 3) 131 [.ref 10] σ Q := by
  refine ke_131 (kb_131_0 ?_)
  refine lp_dn (P := fun r => ∀ τ : mm_S, LV σ τ r → mw (d + 2) mt_131 Q 7 [some (.ref 10), some (.int (nI r))] [] τ) 9 ?_ ?_ 0 (by omega) _ ⟨fun c h _ _ => mm_up_n h, fun j hj => mm_up_o hj, 0, Nat.le_refl 0, mm_up_s, fun l hl => absurd hl (by omega), fun ⟨a, ha, _⟩ => absurd ha (by omega)⟩
  · intro τ ⟨f1, f2, lv, lv9, e37, rm, l1⟩
    have lv1 : 1 ≤ lv := l1 h1
    refine kb_131_7 (fun _ => kb_131_61 (pk_in 0 9 (by omega)) ?_) (fun g => absurd (by decide) g)
    have I0 : SI (mm_up τ 101 0 (-1)) (mm_up τ 101 0 (-1)) := ⟨fun _ _ _ _ _ => rfl, fun _ _ => rfl⟩
    refine c_131s (τ0 := mm_up τ 101 0 (-1)) hn (by rw [mm_up_n (by decide), f2 6 (by decide)]; exact e6) lv9 (by rw [mm_up_n (by decide)]; exact e37) (fun l hl => by rw [mm_up_n (by decide)]; exact rm l hl) ?_ (lv - 1) 0 _ (by omega) I0 mm_up_s ?_
    · intro r hr
      obtain ⟨z, hz, ez, hh⟩ := R r hr
      exact ⟨z, hz, by rw [mm_up_n (by decide), f1 89 (by decide) (by decide) (by decide)]; exact ez, fun i hi => by rw [mm_up_n (by decide), f1 90 (by decide) (by decide) (by decide)]; exact hh i hi⟩
    · intro τ' I' _
      refine kb_131_70 (fun _ => kb_131_138 (q τ' ⟨fun c h2 h3 h4 h5 => ?_, fun j h2 h3 => ?_⟩)) (fun g => absurd (by decide) g)
      · rw [I'.1 c h2 h3 h4 (by omega), mm_up_n (by omega)]; exact f1 c h2 (by omega) (by omega)
      · rw [I'.2 j h2, mm_up_n (by decide)]; exact f2 j h3
  · intro r hr ih τ ⟨f1, f2, lv, lvr, e37, rm, l1⟩
    refine kb_131_7 (fun g => absurd g (hI_nle (a := 9) (by omega) hr)) (fun _ => kb_131_13 (pk_in r 9 hr) (fun g => kb_131_22 ?_) (fun g => ?_))
    · rw [nI_1]
      refine ih τ ⟨f1, f2, lv, by omega, e37, rm, fun ⟨a, ha, hz⟩ => ?_⟩
      rcases Nat.lt_or_ge a r with h | h
      · exact l1 ⟨a, h, hz⟩
      · have e : a = r := by omega
        subst e
        rw [nI_clamp (by omega), f1 75 (by decide) (by decide) (by decide)] at g
        exact absurd g hz
    · have v37 : vp_in (τ 10 37) 9 := by rw [e37]; exact pk_in lv 9 (by omega)
      refine kb_131_25 v37 (by rw [mm_up_n (by decide)]; exact v37) ?_
      rw [nI_1]
      have eA : (mm_up (mm_up τ 100 (τ 10 37).toNatClampNeg (nI r)) 105 ((mm_up τ 100 (τ 10 37).toNatClampNeg (nI r)) 10 37).toNatClampNeg 0) 10 37 = nI lv := by
        rw [mm_up_n (by decide), mm_up_n (by decide)]; exact e37
      rw [eA, nI_1]
      refine ih _ ⟨fun c h2 h3 h4 => by rw [mm_up_n h2, mm_up_n h4, mm_up_n h3]; exact f1 c h2 h3 h4, fun j hj => by rw [mm_up_o hj, mm_up_n (by decide), mm_up_n (by decide)]; exact f2 j hj, lv + 1, by omega, mm_up_s, fun l hl => ?_, fun _ => by omega⟩
      rw [mm_up_n (by decide), mm_up_n (by decide), e37, nI_clamp (by omega)]
      rcases Nat.lt_or_ge l lv with h | h
      · rw [mm_up_o (by omega)]; exact rm l h
      · have e : l = lv := by omega
        subst e
        exact ⟨r, hr, mm_up_s⟩
theorem c_136 {d : Nat} {Q : mm_Q} {x1 x2 x3 : Int32} {σ : mm_S} (H1 : vp_in (f_135 x1 x2) 18) (q0 : (σ 96 (f_135 x1 x2).toNatClampNeg) < x3 → Q (none) (mm_up (mm_up σ 96 (f_135 x1 x2).toNatClampNeg x3) 10 44 (1 : Int32))) (q1 : ¬ ((σ 96 (f_135 x1 x2).toNatClampNeg) < x3) → Q (none) σ) : mD (d + 2) 136 [.ref 10, .int x1, .int x2, .int x3] σ Q := ke_136 (kb_136_0 (c_135 (kb_136_9 H1 (fun g0 => (kb_136_15 (c_135 (kb_136_24 H1 (q0 g0))))) (fun g0 => (kb_136_14 (q1 g0))))))
theorem c_137 {d : Nat} {Q : mm_Q} {x1 x2 x3 : Int32} {σ : mm_S} (H1 : vp_in (f_135 x1 x2) 18) (q0 : (σ 97 (f_135 x1 x2).toNatClampNeg) < x3 → Q (none) (mm_up (mm_up σ 97 (f_135 x1 x2).toNatClampNeg x3) 10 44 (1 : Int32))) (q1 : ¬ ((σ 97 (f_135 x1 x2).toNatClampNeg) < x3) → Q (none) σ) : mD (d + 2) 137 [.ref 10, .int x1, .int x2, .int x3] σ Q := ke_137 (kb_137_0 (c_135 (kb_137_9 H1 (fun g0 => (kb_137_15 (c_135 (kb_137_24 H1 (q0 g0))))) (fun g0 => (kb_137_14 (q1 g0))))))

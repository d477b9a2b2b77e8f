/-! contracts: clear, roomCount, isCrossed of the reference; the crossings of the class -/
def clr (σ τ : mm_S) : Prop := (∀ k, k ≠ 10 → k ≠ 75 → k ≠ 78 → k ≠ 79 → τ k = σ k) ∧ (∀ j, j < 9 → τ 75 j = 0 ∧ τ 78 j = 1 ∧ τ 79 j = 1) ∧ (∀ i, i ≠ 0 → i ≠ 6 → i ≠ 10 → i ≠ 12 → τ 10 i = σ 10 i) ∧ τ 10 0 = 0 ∧ τ 10 6 = 0 ∧ τ 10 10 = 0 ∧ τ 10 12 = 0
theorem mm_up_e {σ : mm_S} {k j : Nat} {x : Int32} : mm_up σ k j x k = upd (σ k) j x := mm_up_eq
theorem mm_up_o {σ : mm_S} {k i j : Nat} {x : Int32} (h : i ≠ j) : mm_up σ k j x k i = σ k i := by rw [mm_up_e]; exact pk_un h
theorem c_95 {d : Nat} {Q : mm_Q} {σ : mm_S} (q : ∀ τ, clr σ τ → Q none τ) : mD (d + 1) 95 [.ref 10] σ Q := by
  refine ks_95_0 ?_
  have main : ∀ m i, i + m = 9 → ∀ τ : mm_S, (∀ k, k ≠ 10 → k ≠ 75 → k ≠ 78 → k ≠ 79 → τ k = σ k) → (∀ j, j < i → τ 75 j = 0 ∧ τ 78 j = 1 ∧ τ 79 j = 1) → (∀ j, j ≠ 0 → τ 10 j = σ 10 j) → τ 10 0 = 0 → mw d mt_95 Q 7 [some (.ref 10), some (.int (nI i))] [] τ := by
    intro m
    induction m with
    | zero =>
      intro i hi τ h1 h2 h3 h4
      have e : i = 9 := by omega
      subst e
      refine ks_95_7 (fun g => absurd (by decide) g) (fun _ => q _ ⟨fun k a b c e => ?_, fun j hj => ?_, fun j a b c e => ?_, ?_, ?_, ?_, ?_⟩) (fun g => absurd (by decide) g)
      · rw [mm_up_n a, mm_up_n a, mm_up_n a]; exact h1 k a b c e
      · rw [mm_up_n (by decide), mm_up_n (by decide), mm_up_n (by decide), mm_up_n (by decide), mm_up_n (by decide), mm_up_n (by decide), mm_up_n (by decide), mm_up_n (by decide), mm_up_n (by decide)]; exact h2 j hj
      · rw [mm_up_o e, mm_up_o c, mm_up_o b]; exact h3 j a
      · rw [mm_up_o (by decide), mm_up_o (by decide), mm_up_o (by decide)]; exact h4
      · rw [mm_up_o (by decide), mm_up_o (by decide)]; exact mm_up_s
      · rw [mm_up_o (by decide)]; exact mm_up_s
      · exact mm_up_s
    | succ m ih =>
      intro i hi τ h1 h2 h3 h4
      have hcl : (nI i).toNatClampNeg = i := pk_cl i
      have hin : vp_in (nI i) 9 := pk_in i 9 (by omega)
      refine ks_95_7 (fun _ => hin) (fun g => absurd ((nI_leI (a := 9) (b := i) (by omega) (by omega)).mp g) (by omega)) (fun _ => ?_)
      rw [nI_1, hcl]
      refine ih (i + 1) (by omega) _ (fun k a b c e => ?_) (fun j hj => ?_) (fun j a => ?_) ?_
      · rw [mm_up_n e, mm_up_n c, mm_up_n b]; exact h1 k a b c e
      · rw [mm_up_n (show (75 : Nat) ≠ 79 by decide), mm_up_n (show (75 : Nat) ≠ 78 by decide), mm_up_n (show (78 : Nat) ≠ 79 by decide)]
        by_cases eq : j = i
        · subst eq
          refine ⟨mm_up_s, mm_up_s, mm_up_s⟩
        · have := h2 j (by omega)
          rw [mm_up_o eq, mm_up_o eq, mm_up_o eq, mm_up_n (by decide), mm_up_n (by decide), mm_up_n (by decide)]
          exact this
      · rw [mm_up_n (by decide), mm_up_n (by decide), mm_up_n (by decide)]; exact h3 j a
      · rw [mm_up_n (by decide), mm_up_n (by decide), mm_up_n (by decide)]; exact h4
  refine main 9 0 rfl _ (fun k a _ _ _ => mm_up_n a) (fun j hj => absurd hj (Nat.not_lt_zero j)) (fun j a => mm_up_o a) mm_up_s
/-- how many rooms are drawn, by the reference -/
def rc (σ : mm_S) : Nat → Nat
  | 0 => 0
  | i + 1 => rc σ i + if σ 75 i = 0 then 0 else 1
theorem rc_le (σ : mm_S) : ∀ i, rc σ i ≤ i
  | 0 => Nat.le_refl 0
  | i + 1 => by
    have := rc_le σ i
    unfold rc
    split <;> omega
theorem c_108 {d : Nat} {Q : mm_Q} {σ : mm_S} (q : Q (some (.int (nI (rc σ 9)))) σ) : mD (d + 1) 108 [.ref 10] σ Q := by
  refine ke_108 (kb_108_0 ?_)
  have main : ∀ m i, i + m = 9 → mw d mt_108 Q 4 [some (.ref 10), some (.int (nI (rc σ i))), some (.int (nI i))] [] σ := by
    intro m
    induction m with
    | zero =>
      intro i hi
      have e : i = 9 := by omega
      subst e
      exact kb_108_4 (fun _ => kb_108_33 q) (fun g => absurd (by decide) g)
    | succ m ih =>
      intro i hi
      have hcl : (nI i).toNatClampNeg = i := pk_cl i
      have hin : vp_in (nI i) 9 := pk_in i 9 (by omega)
      have hr : ∀ c, rc σ (i + 1) = rc σ i + c → mw d mt_108 Q 4 [some (.ref 10), some (.int (nI (rc σ i) + nI c)), some (.int (nI i + 1))] [] σ := fun c hc => by
        rw [nI_add, nI_1, ← hc]; exact ih (i + 1) (by omega)
      refine kb_108_4 (fun g => absurd ((nI_leI (a := 9) (b := i) (by omega) (by omega)).mp g) (by omega)) (fun _ => kb_108_10 hin (fun h => kb_108_24 (hr 0 ?_)) (fun h => kb_108_20 (hr 1 ?_)))
      · rw [hcl] at h
        rw [rc, if_pos h]
      · rw [hcl] at h
        rw [rc, if_neg h]
  exact main 9 0 rfl

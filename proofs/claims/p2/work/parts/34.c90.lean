/-! the model's joinOf -/
def mjn (σ : mm_S) (a b : Int32) (j : Nat) : Prop := (σ 80 j = a ∧ σ 81 j = b) ∨ (σ 80 j = b ∧ σ 81 j = a)
theorem c_90 {d : Nat} {Q : mm_Q} {a b : Int32} {σ : mm_S} {n : Nat} (hn : n ≤ 21) (e6 : σ 10 6 = nI n) (q1 : ∀ j, j < n → mjn σ a b j → (∀ i, i < j → ¬ mjn σ a b i) → Q (some (.int (nI j))) σ) (q0 : (∀ j, j < n → ¬ mjn σ a b j) → Q (some (.int (-1))) σ) : mD (d + 1) 90 [.ref 10, .int a, .int b] σ Q := by
  refine ke_90 (kb_90_0 ?_)
  have main : ∀ m i, i + m = n → (∀ j, j < i → ¬ mjn σ a b j) → mw d mt_90 Q 2 [some (.ref 10), some (.int a), some (.int b), some (.int (nI i))] [] σ := by
    intro m
    induction m with
    | zero =>
      intro i hi hall
      have hin : i = n := by omega
      subst hin
      refine kb_90_2 (fun _ => kb_90_58 (q0 hall)) (fun h => absurd ?_ h)
      rw [e6]
      exact (nI_leI (by omega) (by omega)).mpr (Nat.le_refl _)
    | succ m ih =>
      intro i hi hall
      have hcl : (nI i).toNatClampNeg = i := pk_cl i
      have hin : vp_in (nI i) 21 := pk_in i 21 (by omega)
      have next : ¬ mjn σ a b i → mw d mt_90 Q 52 [some (.ref 10), some (.int a), some (.int b), some (.int (nI i))] [] σ := fun hnn => by
        refine kb_90_52 ?_
        rw [nI_1]
        exact ih (i + 1) (by omega) (fun j hj => by
          by_cases e : j = i
          · subst e; exact hnn
          · exact hall j (by omega))
      have yes : mjn σ a b i → mw d mt_90 Q 50 [some (.ref 10), some (.int a), some (.int b), some (.int (nI i))] [] σ := fun hy => kb_90_50 (q1 i (by omega) hy hall)
      have two : ¬ (σ 80 i = a ∧ σ 81 i = b) → mw d mt_90 Q 30 [some (.ref 10), some (.int a), some (.int b), some (.int (nI i))] [] σ := fun h0 => by
        refine kb_90_30 hin (fun h1 => kb_90_40 hin (fun h2 => yes (Or.inr ⟨?_, ?_⟩)) (fun h2 => next (fun z => z.elim h0 (fun z => h2 ?_)))) (fun h1 => next (fun z => z.elim h0 (fun z => h1 ?_)))
        · rw [hcl] at h1; exact h1
        · rw [hcl] at h2; exact h2
        · rw [hcl]; exact z.2
        · rw [hcl]; exact z.1
      refine kb_90_2 (fun h => ?_) (fun _ => kb_90_10 hin (fun h1 => kb_90_20 hin (fun h2 => yes (Or.inl ⟨?_, ?_⟩)) (fun h2 => two (fun z => h2 ?_))) (fun h1 => two (fun z => h1 ?_)))
      · rw [e6] at h
        have := (nI_leI (a := n) (b := i) (by omega) (by omega)).mp h
        omega
      · rw [hcl] at h1; exact h1
      · rw [hcl] at h2; exact h2
      · rw [hcl]; exact z.2
      · rw [hcl]; exact z.1
  exact main n 0 (by omega) (fun j hj => absurd hj (Nat.not_lt_zero j))

/-! contracts: isTaken -/
def xtk (σ : mm_S) (x y : Int32) (j : Nat) : Prop := xd σ (nI j) = 1 ∧ σ 11 j = x ∧ σ 12 j = y
theorem c_8 {d : Nat} {Q : mm_Q} {x y : Int32} {σ : mm_S} (q1 : (∃ j, j < 9 ∧ xtk σ x y j) → Q (some (.int 1)) σ) (q0 : (∀ j, j < 9 → ¬ xtk σ x y j) → Q (some (.int 0)) σ) : mD (d + 3) 8 [.ref 1, .int x, .int y] σ Q := by
  refine ke_8 (kb_8_0 ?_)
  have main : ∀ n i, i + n = 9 → (∀ j, j < i → ¬ xtk σ x y j) → mw (d + 2) mt_8 Q 2 [some (.ref 1), some (.int x), some (.int y), some (.int (nI i))] [] σ := by
    intro n
    induction n with
    | zero =>
      intro i hi hall
      have hi9 : i = 9 := by omega
      subst hi9
      exact kb_8_2 (fun _ => kb_8_44 (q0 hall)) (fun h => absurd (by decide) h)
    | succ n ih =>
      intro i hi hall
      have hcl : (nI i).toNatClampNeg = i := pk_cl i
      have hin : vp_in (nI i) 9 := pk_in i 9 (by omega)
      have next : ¬ xtk σ x y i → mw (d + 2) mt_8 Q 38 [some (.ref 1), some (.int x), some (.int y), some (.int (nI i))] [] σ := fun hn => by
        refine kb_8_38 ?_
        rw [nI_1]
        exact ih (i + 1) (by omega) (fun j hj => by
          by_cases e : j = i
          · subst e; exact hn
          · exact hall j (by omega))
      refine kb_8_2 (fun h => absurd ((nI_leI (a := 9) (b := i) (by omega) (by omega)).mp h) (by omega)) (fun _ => kb_8_8 (c_7 ?_))
      show mw (d + 2) mt_8 Q 13 [some (.ref 1), some (.int x), some (.int y), some (.int (nI i))] [.int (xd σ (nI i))] σ
      rcases xd_01 σ (nI i) with e | e
      · refine kb_8_13 (fun _ => next (fun h => ?_)) (fun h => absurd e h)
        rw [h.1] at e
        exact absurd e (by decide)
      · refine kb_8_13 (fun h => ?_) (fun _ => kb_8_16 hin (fun h1 => kb_8_26 hin (fun h2 => kb_8_36 (q1 ⟨i, by omega, e, ?_, ?_⟩)) (fun h2 => next (fun h => h2 ?_))) (fun h1 => next (fun h => h1 ?_)))
        · rw [e] at h
          exact absurd h (by decide)
        · rw [hcl] at h1; exact h1
        · rw [hcl] at h2; exact h2
        · rw [hcl]; exact h.2.2
        · rw [hcl]; exact h.2.1
  exact main 9 0 rfl (fun j hj => absurd hj (Nat.not_lt_zero j))

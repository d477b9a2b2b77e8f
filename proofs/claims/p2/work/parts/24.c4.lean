/-! contracts: the model's room -/
theorem mm_up_s {σ : mm_S} {k j : Nat} {x : Int32} : mm_up σ k j x k j = x := by
  rw [mm_up_eq]
  exact pk_us
def mtk (σ : mm_S) (r x y : Int32) (j : Nat) : Prop := ¬ σ 75 j = 0 ∧ (nI j = r ∨ (σ 76 j = x ∧ σ 77 j = y))
def mok (r x y : Int32) : Prop := mi r 0 8 = 1 ∧ mi x 0 31 = 1 ∧ mi y 0 31 = 1
theorem c_89 {d : Nat} {Q : mm_Q} {r x y : Int32} {σ : mm_S} (q1 : ¬ mok r x y → Q none (mm_up σ 10 0 1)) (q2 : mok r x y → (∃ j, j < 9 ∧ mtk σ r x y j) → Q none (mm_up σ 10 0 2))
    (q0 : mok r x y → (∀ j, j < 9 → ¬ mtk σ r x y j) → Q none (mm_up (mm_up (mm_up (mm_up (mm_up σ 10 0 0) 75 r.toNatClampNeg (vp_nar .boolean (1 : Int32))) 76 r.toNatClampNeg x) 77 r.toNatClampNeg y) 10 12 0)) : mD (d + 2) 89 [.ref 10, .int r, .int x, .int y] σ Q := by
  refine ke_89 ?_
  have loop : ∀ (x4 : Int32), (∀ x5 x6 : Int32, ((x5 = 0 ∧ ∀ j, j < 9 → ¬ mtk σ r x y j) ∨ (x5 = 1 ∧ ∃ j, j < 9 ∧ mtk σ r x y j)) → mw (d + 1) mt_89 Q 106 [some (.ref 10), some (.int r), some (.int x), some (.int y), some (.int x4), some (.int x5), some (.int x6)] [] σ) →
      ∀ n i (x5 : Int32), i + n = 9 → ((x5 = 0 ∧ ∀ j, j < i → ¬ mtk σ r x y j) ∨ (x5 = 1 ∧ ∃ j, j < 9 ∧ mtk σ r x y j)) → mw (d + 1) mt_89 Q 43 [some (.ref 10), some (.int r), some (.int x), some (.int y), some (.int x4), some (.int x5), some (.int (nI i))] [] σ := by
    intro x4 hk n
    induction n with
    | zero =>
      intro i x5 hi hinv
      have hi9 : i = 9 := by omega
      subst hi9
      exact kb_89_43 (fun _ => hk x5 _ hinv) (fun h => absurd (by decide) h)
    | succ n ih =>
      intro i x5 hi hinv
      have hcl : (nI i).toNatClampNeg = i := pk_cl i
      have hin : vp_in (nI i) 9 := pk_in i 9 (by omega)
      refine kb_89_43 (fun h => absurd ((nI_leI (a := 9) (b := i) (by omega) (by omega)).mp h) (by omega)) (fun _ => ?_)
      have yes : (∃ j, j < 9 ∧ mtk σ r x y j) → mw (d + 1) mt_89 Q 93 [some (.ref 10), some (.int r), some (.int x), some (.int y), some (.int x4), some (.int x5), some (.int (nI i))] [] σ := fun he => by
        refine kb_89_93 ?_
        rw [nI_1]
        exact ih (i + 1) 1 (by omega) (Or.inr ⟨rfl, he⟩)
      have no : (x5 = 0 ∧ ∀ j, j < i → ¬ mtk σ r x y j) → ¬ mtk σ r x y i → mw (d + 1) mt_89 Q 97 [some (.ref 10), some (.int r), some (.int x), some (.int y), some (.int x4), some (.int x5), some (.int (nI i))] [] σ := fun he hn => by
        refine kb_89_97 ?_
        rw [nI_1]
        exact ih (i + 1) 0 (by omega) (Or.inl ⟨rfl, fun j hj => by
          by_cases e : j = i
          · subst e; exact hn
          · exact he.2 j (by omega)⟩)
      rcases hinv with he | ⟨he, hex⟩
      · refine kb_89_50 (fun _ => kb_89_55 hin (fun h1 => no he (fun h => h.1 (by rw [hcl] at h1; exact h1))) (fun h1 => ?_)) (fun h => absurd he.1 h)
        rw [hcl] at h1
        refine kb_89_65 (fun h2 => yes ⟨i, by omega, h1, Or.inl h2⟩) (fun h2 => kb_89_71 hin (fun h3 => kb_89_82 hin (fun h4 => yes ⟨i, by omega, h1, Or.inr ⟨?_, ?_⟩⟩) (fun h4 => no he (fun h => h.2.elim h2 (fun z => h4 ?_)))) (fun h3 => no he (fun h => h.2.elim h2 (fun z => h3 ?_))))
        · rw [hcl] at h3; exact h3
        · rw [hcl] at h4; exact h4
        · rw [hcl]; exact z.2
        · rw [hcl]; exact z.1
      · exact kb_89_50 (fun h => absurd (he.symm.trans h) (by decide)) (fun _ => yes hex)
  have bad : ¬ mok r x y → ∀ {o4 o5 o6 : Option Value}, mw (d + 1) mt_89 Q 34 [some (.ref 10), some (.int r), some (.int x), some (.int y), o4, o5, o6] [] σ := fun hn o4 o5 o6 => by
    refine kb_89_34 (loop 0 (fun x5 x6 _ => ?_) 9 0 0 rfl (Or.inl ⟨rfl, fun j hj => absurd hj (Nat.not_lt_zero j)⟩))
    exact kb_89_106 (fun _ => kb_89_112 (fun h => absurd h (by rw [show (mm_up σ 10 0 (1 : Int32)) 10 0 = 1 from mm_up_s]; decide)) (fun _ => kb_89_136 (q1 hn))) (fun h => absurd rfl h)
  refine kb_89_0 (c_87 ?_)
  show mw (d + 1) mt_89 Q 7 [some (.ref 10), some (.int r), some (.int x), some (.int y), none, none, none] [.int (mi r 0 8)] σ
  refine kb_89_7 (fun h => bad (fun z => absurd (h.symm.trans z.1) (by decide))) (fun h => kb_89_10 (c_87 ?_))
  have m1 := (mi_01 r 0 8).resolve_left h
  show mw (d + 1) mt_89 Q 17 [some (.ref 10), some (.int r), some (.int x), some (.int y), none, none, none] [.int (mi x 0 31)] σ
  refine kb_89_17 (fun h => bad (fun z => absurd (h.symm.trans z.2.1) (by decide))) (fun h => kb_89_20 (c_87 ?_))
  have m2 := (mi_01 x 0 31).resolve_left h
  show mw (d + 1) mt_89 Q 27 [some (.ref 10), some (.int r), some (.int x), some (.int y), none, none, none] [.int (mi y 0 31)] σ
  refine kb_89_27 (fun h => bad (fun z => absurd (h.symm.trans z.2.2) (by decide))) (fun h => kb_89_30 ?_)
  have m3 := (mi_01 y 0 31).resolve_left h
  have hmok : mok r x y := ⟨m1, m2, m3⟩
  refine loop 1 (fun x5 x6 hinv => ?_) 9 0 0 rfl (Or.inl ⟨rfl, fun j hj => absurd hj (Nat.not_lt_zero j)⟩)
  refine kb_89_106 (fun h => absurd h (by decide)) (fun _ => ?_)
  rcases hinv with ⟨he, hall⟩ | ⟨he, hex⟩
  · exact kb_89_116 (fun _ => kb_89_125 (fun _ => kb_89_137 (mi_in m1) (mi_in m1) (mi_in m1) (q0 hmok hall)) (fun h => absurd (by rw [show (mm_up σ 10 0 (0 : Int32)) 10 0 = 0 from mm_up_s]; decide) h)) (fun h => absurd he h)
  · exact kb_89_116 (fun h => absurd (he.symm.trans h) (by decide)) (fun _ => kb_89_121 (fun h => absurd h (by rw [show (mm_up σ 10 0 (2 : Int32)) 10 0 = 2 from mm_up_s]; decide)) (fun _ => kb_89_136 (q2 hmok hex)))

-- the great face: both take the least three
def kk (M : Nat) : Nat := 100 * lo M 13 0 + 10 * lo (M &&& (M - 1)) 13 0 + lo ((M &&& (M - 1)) &&& ((M &&& (M - 1)) - 1)) 13 0
set_option maxRecDepth 100000 in
theorem kk_d : ∀ M, M < 512 → 3 ≤ bc M 13 → lo M 13 0 < 10 ∧ lo (M &&& (M - 1)) 13 0 < 10 ∧ lo ((M &&& (M - 1)) &&& ((M &&& (M - 1)) - 1)) 13 0 < 10 ∧ bc (t3 M) 13 = 3 ∧ kk (t3 M) = kk M := by decide +kernel
set_option maxRecDepth 100000 in
theorem kk_n0 : ∀ M, M < 512 → 3 ≤ bc M 13 → ∀ k, k < 13 → M.testBit k = true → bc M k = 0 → k = kk M / 100 := by decide +kernel
set_option maxRecDepth 100000 in
theorem kk_n1 : ∀ M, M < 512 → 3 ≤ bc M 13 → ∀ k, k < 13 → M.testBit k = true → bc M k = 1 → k = kk M / 10 % 10 := by decide +kernel
set_option maxRecDepth 100000 in
theorem kk_n2 : ∀ M, M < 512 → 3 ≤ bc M 13 → ∀ k, k < 13 → M.testBit k = true → bc M k = 2 → k = kk M % 10 := by decide +kernel
def l3 : List Nat := [7, 11, 13, 14, 19, 21, 22, 25, 26, 28, 35, 37, 38, 41, 42, 44, 49, 50, 52, 56, 67, 69, 70, 73, 74, 76, 81, 82, 84, 88, 97, 98, 100, 104, 112, 131, 133, 134, 137, 138, 140, 145, 146, 148, 152, 161, 162, 164, 168, 176, 193, 194, 196, 200, 208, 224, 259, 261, 262, 265, 266, 268, 273, 274, 276, 280, 289, 290, 292, 296, 304, 321, 322, 324, 328, 336, 352, 385, 386, 388, 392, 400, 416, 448]
set_option maxRecDepth 100000 in
theorem l3_m : ∀ a, a < 512 → bc a 13 = 3 → a ∈ l3 := by decide +kernel
set_option maxRecDepth 100000 in
theorem l3_lt : ∀ a, a ∈ l3 → ∀ b, b ∈ l3 → (a.testBit (lo (a ^^^ b) 13 0) = true ↔ kk a < kk b) := by decide +kernel
theorem kk_lt (a : Nat) (ha : a < 512) (h3 : bc a 13 = 3) (b : Nat) (hb : b < 512) (h3b : bc b 13 = 3) : a.testBit (lo (a ^^^ b) 13 0) = true ↔ kk a < kk b := l3_lt a (l3_m a ha h3) b (l3_m b hb h3b)
theorem f_45_k {a b : Nat} (ha : a < 512) (h3 : bc a 13 = 3) (hb : b < 512) (h3b : bc b 13 = 3) : ¬ f_45 (nI a) (nI b) = 0 ↔ kk a < kk b := by
  have x9 : a ^^^ b < 512 := Nat.xor_lt_two_pow (n := 9) ha hb
  have l13 : ∀ k j m, j + k = 13 → lo m k j ≤ 13 := by
    intro k
    induction k with
    | zero => intro j m h; show j ≤ 13; omega
    | succ k ih =>
      intro j m h
      show (if m.testBit j = true then j else lo m k (j + 1)) ≤ 13
      split
      · omega
      · exact ih (j + 1) m (by omega)
  have l := l13 13 0 (a ^^^ b) rfl
  unfold f_45
  rw [xor_bit, F5_n (by omega), hs_bit (by omega) (by omega), ← kk_lt a ha h3 b hb h3b]
  by_cases c : a.testBit (lo (a ^^^ b) 13 0) = true
  · rw [if_pos c]; exact ⟨fun _ => c, fun _ => by decide⟩
  · rw [if_neg c]; exact ⟨fun h => absurd rfl h, fun h => absurd h c⟩
theorem wfb_k {σ : mm_S} {f : Nat} {Mk : Nat → Nat} (h : ∀ g, g < f → Mk g < 512 ∧ σ 43 g = nI (Mk g)) : ∀ k, k ≤ f → (wfb σ k = 0 ∧ ∀ g, g < k → bc (Mk g) 13 ≤ 3) ∨ ∃ b, b < 512 ∧ bc b 13 = 3 ∧ wfb σ k = nI b ∧ (∃ g, g < k ∧ 3 < bc (Mk g) 13 ∧ kk (Mk g) = kk b) ∧ ∀ g, g < k → 3 < bc (Mk g) 13 → kk b ≤ kk (Mk g)
  | 0, _ => Or.inl ⟨rfl, fun g hg => absurd hg (Nat.not_lt_zero g)⟩
  | k + 1, hk => by
    have ih := wfb_k h k (by omega)
    obtain ⟨m1, m2⟩ := h k (by omega)
    have t := f_44_n0 (Mk k) m1
    have F := F153_bc (m := Mk k) (by omega)
    have b13 := bc_n (Mk k) 13
    have z3 : ∀ {b : Nat}, b < 512 → bc b 13 = 3 → ¬ nI b = 0 := fun {b} hb h3 => nI_ne0 (by rcases Nat.eq_zero_or_pos b with y | y; rw [y] at h3; exact absurd h3 (by decide); exact y) (by omega)
    unfold wfb
    rw [m2, F, t.1]
    by_cases c : nI (bc (Mk k) 13) ≤ 3
    · have c' : bc (Mk k) 13 ≤ 3 := (nI_leI (b := 3) (by omega) (by omega)).mp c
      rw [if_pos c]
      rcases ih with ⟨z, y⟩ | ⟨b, b9, b3, e, ⟨g, hg, g1, g2⟩, y⟩
      · refine Or.inl ⟨z, fun g hg => ?_⟩
        by_cases eg : g = k
        · subst eg; exact c'
        · exact y g (by omega)
      · refine Or.inr ⟨b, b9, b3, e, ⟨g, by omega, g1, g2⟩, fun g' hg' w => ?_⟩
        by_cases eg : g' = k
        · subst eg; omega
        · exact y g' (by omega) w
    · have c' : 3 < bc (Mk k) 13 := by
        rcases Nat.lt_or_ge 3 (bc (Mk k) 13) with y | y
        · exact y
        · exact absurd ((nI_leI (b := 3) (by omega) (by omega)).mpr y) c
      rw [if_neg c]
      obtain ⟨_, _, _, t3b, t3k⟩ := kk_d (Mk k) m1 (by omega)
      have new : (∀ g, g < k → 3 < bc (Mk g) 13 → kk (t3 (Mk k)) ≤ kk (Mk g)) → ∃ b, b < 512 ∧ bc b 13 = 3 ∧ nI (t3 (Mk k)) = nI b ∧ (∃ g, g < k + 1 ∧ 3 < bc (Mk g) 13 ∧ kk (Mk g) = kk b) ∧ ∀ g, g < k + 1 → 3 < bc (Mk g) 13 → kk b ≤ kk (Mk g) := fun y =>
        ⟨t3 (Mk k), t.2.1, t3b, rfl, ⟨k, by omega, c', t3k.symm⟩, fun g hg w => by
          by_cases eg : g = k
          · subst eg; omega
          · exact y g (by omega) w⟩
      rcases ih with ⟨z, y⟩ | ⟨b, b9, b3, e, ⟨g, hg, g1, g2⟩, y⟩
      · rw [if_pos z]
        exact Or.inr (new (fun g hg w => by have := y g hg; omega))
      · rw [e, if_neg (z3 b9 b3)]
        have key := f_45_k t.2.1 t3b b9 b3
        by_cases u : f_45 (nI (t3 (Mk k))) (nI b) = 0
        · rw [if_pos u]
          have nl : ¬ kk (t3 (Mk k)) < kk b := fun w => key.mpr w u
          refine Or.inr ⟨b, b9, b3, rfl, ⟨g, by omega, g1, g2⟩, fun g' hg' w => ?_⟩
          by_cases eg : g' = k
          · subst eg; omega
          · exact y g' (by omega) w
        · rw [if_neg u]
          have lt := key.mp u
          exact Or.inr (new (fun g hg w => by have := y g hg w; omega))
theorem tw3_k {σ : mm_S} {b : Nat} (hb : b < 512) (h3 : bc b 13 = 3) : tw3 σ (nI b) = mm_up (mm_up (mm_up (mm_up σ 20 0 (nI (kk b / 100))) 20 1 (nI (kk b / 10 % 10))) 20 2 (nI (kk b % 10))) 3 1 3 := by
  obtain ⟨d1, d2, d3, _⟩ := kk_d b hb (by omega)
  have s1 := f_6_n0 b hb
  have s2 := f_6_n0 _ s1.2
  unfold tw3
  rw [s1.1, s2.1, F5_n (by omega), F5_n (by omega), F5_n (by omega)]
  have e1 : kk b / 100 = lo b 13 0 := by unfold kk; omega
  have e2 : kk b / 10 % 10 = lo (b &&& (b - 1)) 13 0 := by unfold kk; omega
  have e3 : kk b % 10 = lo ((b &&& (b - 1)) &&& ((b &&& (b - 1)) - 1)) 13 0 := by unfold kk; omega
  rw [e1, e2, e3]
/-! the reference -/
def kd (K i : Nat) : Nat := if i = 0 then K / 100 else if i = 1 then K / 10 % 10 else K % 10
theorem c_112s {d m i : Nat} {Q : mm_Q} {τ : mm_S} (hm : m < 512) (h3 : 3 ≤ bc m 13) (hi : i < 3) (q : Q (some (.int (nI (kd (kk m) i)))) τ) : mD (d + 1) 112 [.int (nI m), .int (nI i)] τ Q :=
  c_112 (by omega) (by omega) (fun k hk tk bk => by
    have x0 := kk_n0 m hm h3 k hk tk
    have x1 := kk_n1 m hm h3 k hk tk
    have x2 := kk_n2 m hm h3 k hk tk
    have e : k = kd (kk m) i := by
      unfold kd
      by_cases i0 : i = 0
      · subst i0; rw [if_pos rfl]; exact x0 bk
      · rw [if_neg i0]
        by_cases i1 : i = 1
        · subst i1; rw [if_pos rfl]; exact x1 bk
        · rw [if_neg i1]
          exact x2 (by omega)
    rw [e]; exact q)
theorem kk_b {M : Nat} (hM : M < 512) (h3 : 3 ≤ bc M 13) : kk M < 1000 := by
  obtain ⟨d1, d2, d3, _⟩ := kk_d M hM h3
  unfold kk; omega
theorem kd_b {K i : Nat} (hK : K < 1000) : kd K i < 10 := by
  unfold kd; split
  · omega
  · split <;> omega
theorem c_113s {d a b : Nat} {Q : mm_Q} {τ : mm_S} (ha : a < 512) (hb : b < 512) (h3a : 3 ≤ bc a 13) (h3b : 3 ≤ bc b 13) (q1 : kk a < kk b → Q (some (.int 1)) τ) (q0 : ¬ kk a < kk b → Q (some (.int 0)) τ) : mD (d + 2) 113 [.int (nI a), .int (nI b)] τ Q := by
  have ka := kk_b ha h3a
  have kb := kk_b hb h3b
  refine ke_113 (kb_113_0 ?_)
  refine lp_dn (P := fun i => (∀ j, j < i → kd (kk a) j = kd (kk b) j) → mw (d + 1) mt_113 Q 2 [some (.int (nI a)), some (.int (nI b)), some (.int (nI i))] [] τ) 3 ?_ ?_ 0 (by omega) (fun j hj => absurd hj (Nat.not_lt_zero j))
  · intro h
    refine kb_113_2 (fun _ => kb_113_45 (q0 ?_)) (fun g => absurd (by decide) g)
    have h0 := h 0 (by omega)
    have h1 := h 1 (by omega)
    have h2 := h 2 (by omega)
    simp only [kd, if_true, if_neg (show ¬ (1 : Nat) = 0 by decide), if_neg (show ¬ (2 : Nat) = 0 by decide), if_neg (show ¬ (2 : Nat) = 1 by decide)] at h0 h1 h2
    omega
  · intro i hi ih h
    have da := kd_b (i := i) ka
    have db := kd_b (i := i) kb
    have lex : kd (kk a) i ≠ kd (kk b) i → (kd (kk a) i < kd (kk b) i ↔ kk a < kk b) := fun ne => by
      rcases (show i = 0 ∨ i = 1 ∨ i = 2 by omega) with e | e | e
      · subst e
        simp only [kd, if_true] at ne ⊢
        omega
      · subst e
        have h0 := h 0 (by omega)
        simp only [kd, if_true, if_neg (show ¬ (1 : Nat) = 0 by decide)] at ne h0 ⊢
        omega
      · subst e
        have h0 := h 0 (by omega)
        have h1 := h 1 (by omega)
        simp only [kd, if_true, if_neg (show ¬ (1 : Nat) = 0 by decide), if_neg (show ¬ (2 : Nat) = 0 by decide), if_neg (show ¬ (2 : Nat) = 1 by decide)] at ne h0 h1 ⊢
        omega
    refine kb_113_2 (fun g => absurd g (hI_nle (a := 3) (by omega) hi)) (fun _ => kb_113_7 (c_112s ha h3a hi (kb_113_12 (c_112s hb h3b hi (kb_113_17 (fun e => kb_113_39 ?_) (fun e => kb_113_20 (c_112s ha h3a hi (kb_113_25 (c_112s hb h3b hi (kb_113_30 (fun z => kb_113_37 (q0 ?_)) (fun z => kb_113_33 (q1 ?_))))))))))))
    · rw [nI_1]
      refine ih (fun j hj => ?_)
      by_cases ej : j = i
      · subst ej; exact (nI_eq (by omega) (by omega)).mp e
      · exact h j (by omega)
    · have ne : kd (kk a) i ≠ kd (kk b) i := fun y => e (by rw [y])
      rw [← lex ne]
      intro y
      exact absurd z (hI_nle (by omega) y)
    · have ne : kd (kk a) i ≠ kd (kk b) i := fun y => e (by rw [y])
      rw [← lex ne]
      rcases Nat.lt_or_ge (kd (kk a) i) (kd (kk b) i) with y | y
      · exact y
      · exact absurd (hI_le (by omega) y) z
theorem c_114s {d m : Nat} {Q : mm_Q} {τ : mm_S} {w : Int32} (hm : m < 512) (h3 : 3 ≤ bc m 13) (q : Q none (mt3 τ w (nI (kk m / 100)) (nI (kk m / 10 % 10)) (nI (kk m % 10)))) : mD (d + 2) 114 [.ref 10, .int w, .int (nI m)] τ Q :=
  ke_114 (kb_114_0 (c_112s (i := 0) hm h3 (by decide) (kb_114_7 (c_112s (i := 1) hm h3 (by decide) (kb_114_12 (c_112s (i := 2) hm h3 (by decide) (kb_114_17 (c_100 (kb_114_20 q)))))))))
theorem c_115s {d f : Nat} {Q : mm_Q} {τ : mm_S} {Mk : Nat → Nat} (f42 : f ≤ 42) (e19 : τ 10 19 = nI f) (fm : ∀ g, g < f → Mk g < 512 ∧ τ 86 g = nI (Mk g))
    (q1 : ∀ K, (∃ g, g < f ∧ 3 < bc (Mk g) 13 ∧ kk (Mk g) = K) → (∀ g, g < f → 3 < bc (Mk g) 13 → K ≤ kk (Mk g)) → Q (some (.int 1)) (mt3 τ 3 (nI (K / 100)) (nI (K / 10 % 10)) (nI (K % 10)))) (q0 : (∀ g, g < f → bc (Mk g) 13 ≤ 3) → Q (some (.int 0)) τ) : mD (d + 3) 115 [.ref 10] τ Q := by
  refine ke_115 (kb_115_0 ?_)
  refine lp_dn (P := fun g => ∀ b, b < 512 → ((b = 0 ∧ ∀ g', g' < g → bc (Mk g') 13 ≤ 3) ∨ (3 < bc b 13 ∧ (∃ g', g' < g ∧ Mk g' = b) ∧ ∀ g', g' < g → 3 < bc (Mk g') 13 → kk b ≤ kk (Mk g'))) → mw (d + 2) mt_115 Q 4 [some (.ref 10), some (.int (nI b)), some (.int (nI g))] [] τ) f ?_ ?_ 0 (Nat.zero_le f) 0 (by decide) (Or.inl ⟨rfl, fun g hg => absurd hg (Nat.not_lt_zero g)⟩)
  · intro b hb h3
    refine kb_115_4 (fun _ => kb_115_55 (fun z => kb_115_65 (fun _ => kb_115_73 (q0 ?_)) (fun y => absurd z y)) (fun z => ?_)) (fun g => absurd (by rw [e19]; exact hI_le (by omega) (Nat.le_refl f)) g)
    · rcases h3 with ⟨_, y⟩ | ⟨y, _⟩
      · exact y
      · exfalso
        have : b = 0 := (nI_eq (b := 0) (by omega) (by omega)).mp z
        subst this
        exact absurd y (by decide)
    · rcases h3 with ⟨y, _⟩ | ⟨w3, ⟨g', hg', eg⟩, y⟩
      · rw [y] at z; exact absurd rfl z
      · exact kb_115_59 (c_114s hb (by omega) (kb_115_65 (fun y' => absurd y' z) (fun _ => kb_115_69 (q1 (kk b) ⟨g', hg', by rw [eg]; exact w3, by rw [eg]⟩ y))))
  · intro g hg ih b hb h3
    obtain ⟨m1, m2⟩ := fm g hg
    have cg : (nI g).toNatClampNeg = g := nI_clamp (by omega)
    have b13 := bc_n (Mk g) 13
    refine kb_115_4 (fun z => absurd z (by rw [e19]; exact hI_nle (by omega) hg)) (fun _ => kb_115_12 (pk_in g 42 (by omega)) ?_)
    rw [cg, m2]
    have skip : (3 < bc (Mk g) 13 → 3 < bc b 13 ∧ kk b ≤ kk (Mk g)) → mw (d + 2) mt_115 Q 49 [some (.ref 10), some (.int (nI b)), some (.int (nI g))] [] τ := fun h => kb_115_49 (by
      rw [nI_1]
      refine ih b hb ?_
      rcases h3 with ⟨b0, y⟩ | ⟨w3, ⟨g', hg', eg⟩, y⟩
      · refine Or.inl ⟨b0, fun g' hg' => ?_⟩
        by_cases e : g' = g
        · subst e
          rcases Nat.lt_or_ge 3 (bc (Mk g') 13) with u | u
          · have := (h u).1
            subst b0
            exact absurd this (by decide)
          · exact u
        · exact y g' (by omega)
      · refine Or.inr ⟨w3, ⟨g', by omega, eg⟩, fun g'' hg'' w => ?_⟩
        by_cases e : g'' = g
        · subst e; exact (h w).2
        · exact y g'' (by omega) w)
    refine c_111 (by omega) (kb_115_21 (fun z => skip (fun w => absurd ((nI_leI (b := 3) (by omega) (by omega)).mp z) (by omega))) (fun z => ?_))
    have M3 : 3 < bc (Mk g) 13 := by
      rcases Nat.lt_or_ge 3 (bc (Mk g) 13) with y | y
      · exact y
      · exact absurd ((nI_leI (b := 3) (by omega) (by omega)).mpr (by omega)) z
    have take : (∀ g', g' < g → 3 < bc (Mk g') 13 → kk (Mk g) ≤ kk (Mk g')) → mw (d + 2) mt_115 Q 42 [some (.ref 10), some (.int (nI b)), some (.int (nI g))] [] τ := fun h => kb_115_42 (pk_in g 42 (by omega)) (by
      rw [cg, m2, nI_1]
      refine ih (Mk g) m1 (Or.inr ⟨M3, ⟨g, by omega, rfl⟩, fun g' hg' w => ?_⟩)
      by_cases e : g' = g
      · subst e; exact Nat.le_refl _
      · exact h g' (by omega) w)
    refine kb_115_25 (fun u => take (fun g' hg' w => ?_)) (fun u => kb_115_29 (pk_in g 42 (by omega)) ?_)
    · rcases h3 with ⟨_, y⟩ | ⟨w3, _⟩
      · have := y g' hg'; omega
      · have : b = 0 := (nI_eq (b := 0) (by omega) (by omega)).mp u
        subst this
        exact absurd w3 (by decide)
    · rw [cg, m2]
      rcases h3 with ⟨b0, _⟩ | ⟨w3, ⟨g', hg', eg⟩, y⟩
      · rw [b0] at u; exact absurd rfl u
      · exact c_113s m1 hb (by omega) (by omega) (fun l => kb_115_39 (fun z => absurd z (by decide)) (fun _ => take (fun g' hg' w => by have := y g' hg' w; omega))) (fun l => kb_115_39 (fun _ => skip (fun _ => ⟨w3, by omega⟩)) (fun z => absurd rfl z))


/-! class: findLooseTriangle -/
def isf (σ : mm_S) (x : Int32) : Nat → Int32
  | 0 => 0
  | k + 1 => if isf σ x k = 1 then 1 else if σ 43 k = x then 1 else 0
theorem isf_01 (σ : mm_S) (x : Int32) : ∀ k, isf σ x k = 0 ∨ isf σ x k = 1
  | 0 => Or.inl rfl
  | k + 1 => by
    unfold isf
    repeat' split
    all_goals first | exact Or.inl rfl | exact Or.inr rfl
theorem isf_1 {σ : mm_S} {x : Int32} : ∀ k, (isf σ x k = 1 ↔ ∃ g, g < k ∧ σ 43 g = x)
  | 0 => ⟨fun z => absurd z (show ¬ (0 : Int32) = 1 by decide), fun ⟨g, hg, _⟩ => absurd hg (Nat.not_lt_zero g)⟩
  | k + 1 => by
    have ih := isf_1 (σ := σ) (x := x) k
    unfold isf
    by_cases a : isf σ x k = 1
    · rw [if_pos a]
      obtain ⟨g, hg, e⟩ := ih.mp a
      exact ⟨fun _ => ⟨g, by omega, e⟩, fun _ => rfl⟩
    · rw [if_neg a]
      by_cases b : σ 43 k = x
      · rw [if_pos b]; exact ⟨fun _ => ⟨k, by omega, b⟩, fun _ => rfl⟩
      · rw [if_neg b]
        refine ⟨fun z => absurd z (by decide), fun ⟨g, hg, e⟩ => ?_⟩
        by_cases eg : g = k
        · subst eg; exact absurd e b
        · exact absurd (ih.mpr ⟨g, by omega, e⟩) a
def F46 (σ : mm_S) (x : Int32) : Int32 := isf σ x (σ 5 6).toNatClampNeg
theorem F46_01 (σ : mm_S) (x : Int32) : F46 σ x = 0 ∨ F46 σ x = 1 := isf_01 σ x _
def FC (σ : mm_S) : Prop := ∃ f, f ≤ 42 ∧ σ 5 6 = nI f
theorem c_46 {d : Nat} {Q : mm_Q} {x : Int32} {σ : mm_S} (h : FC σ) (q : Q (some (.int (F46 σ x))) σ) : mD (d + 1) 46 [.ref 5, .int x] σ Q := by
  obtain ⟨f, hf, e6⟩ := h
  have eF : F46 σ x = isf σ x f := by unfold F46; rw [e6, nI_clamp (by omega)]
  rw [eF] at q
  refine ke_46 (kb_46_0 ?_)
  refine lp_dn (P := fun k => (∀ g, g < k → ¬ σ 43 g = x) → mw d mt_46 Q 2 [some (.ref 5), some (.int x), some (.int (nI k))] [] σ) f ?_ ?_ 0 (Nat.zero_le f) (fun g hg => absurd hg (Nat.not_lt_zero g))
  · intro h
    refine kb_46_2 (fun _ => kb_46_28 ?_) (fun g => absurd ?_ g)
    · rcases isf_01 σ x f with z | z
      · rw [z] at q; exact q
      · obtain ⟨g, hg, e⟩ := (isf_1 f).mp z
        exact absurd e (h g hg)
    · rw [e6]; exact hI_le (by omega) (Nat.le_refl f)
  · intro k hk ih h
    have ck : (nI k).toNatClampNeg = k := nI_clamp (by omega)
    refine kb_46_2 (fun g => absurd g (by rw [e6]; exact hI_nle (by omega) hk)) (fun _ => kb_46_10 (pk_in k 42 (by omega)) (fun z => kb_46_20 ?_) (fun z => kb_46_22 ?_))
    · rw [ck] at z
      rw [(isf_1 f).mpr ⟨k, hk, z⟩] at q
      exact q
    · rw [nI_1]
      rw [ck] at z
      refine ih (fun g hg => ?_)
      by_cases e : g = k
      · subst e; exact z
      · exact h g (by omega)
/-- HouseDesk$Sides.follows -/
def f_58 (σ : mm_S) (x1 x2 x3 : Int32) : Int32 := (if x1 = (f_49 σ x3) then (0 : Int32) else (if (f_40 σ (σ 32 x1.toNatClampNeg)) = x2 then (1 : Int32) else (0 : Int32)))
theorem f_58_01 (σ : mm_S) (x1 x2 x3 : Int32) : (f_58 σ x1 x2 x3) = 0 ∨ (f_58 σ x1 x2 x3) = 1 := by
  unfold f_58
  repeat' split
  all_goals first | exact Or.inl rfl | exact Or.inr rfl
theorem c_58 {d : Nat} {Q : mm_Q} {x1 x2 x3 : Int32} {σ : mm_S} (H1 : vp_in (f_50 x3) 4) (H2 : ¬ (x1 = (f_49 σ x3)) → vp_in x1 9) (H3 : ¬ (x1 = (f_49 σ x3)) → ¬ ((σ 5 3) ≤ ((σ 32 x1.toNatClampNeg) + (1 : Int32))) → vp_in ((σ 32 x1.toNatClampNeg) + (1 : Int32)) 9) (q : Q (some (.int (f_58 σ x1 x2 x3))) σ) : mD (d + 3) 58 [.ref 6, .int x1, .int x2, .int x3] σ Q := ke_58 (kb_58_0 (c_49 H1 (kb_58_6 (fun g0 => (kb_58_33 (q_pos g0 q))) (fun g0 => (kb_58_9 (H2 g0) (c_40 (H3 g0) (kb_58_25 (fun g1 => (kb_58_29 (q_pos g1 (q_neg g0 q)))) (fun g1 => (kb_58_33 (q_neg g1 (q_neg g0 q)))))))))))
/-- HouseDesk$Sides.boundsFace -/
def f_57 (σ : mm_S) (x1 x2 x3 : Int32) : Int32 := (if (9 : Int32) ≤ x3 then (if (9 : Int32) ≤ x2 then (if x2 = (9 : Int32) then (if x3 = (12 : Int32) then (if (9 : Int32) ≤ x1 then (0 : Int32) else (if (σ 19 0) = x1 then (1 : Int32) else (0 : Int32))) else (if (9 : Int32) ≤ x1 then (0 : Int32) else (if (σ 19 (x3 - (9 : Int32)).toNatClampNeg) = x1 then (1 : Int32) else (0 : Int32)))) else (if (9 : Int32) ≤ x1 then (0 : Int32) else (if (σ 19 (x3 - (9 : Int32)).toNatClampNeg) = x1 then (1 : Int32) else (0 : Int32)))) else (if (f_58 σ x1 x2 (x3 - (9 : Int32))) = 0 then (if (f_58 σ x2 x1 (x3 - (9 : Int32))) = 0 then (0 : Int32) else (1 : Int32)) else (1 : Int32))) else (F46 σ ((((1 : Int32) <<< (x1 &&& 31)) ||| ((1 : Int32) <<< (x2 &&& 31))) ||| ((1 : Int32) <<< (x3 &&& 31)))))
theorem f_57_01 (σ : mm_S) (x1 x2 x3 : Int32) : (f_57 σ x1 x2 x3) = 0 ∨ (f_57 σ x1 x2 x3) = 1 := by
  unfold f_57
  repeat' split
  all_goals first | exact Or.inl rfl | exact Or.inr rfl | exact (F46_01 _ _) | exact (f_58_01 _ _ _ _)
theorem c_57 {d : Nat} {Q : mm_Q} {x1 x2 x3 : Int32} {σ : mm_S} (H1 : (9 : Int32) ≤ x3 → (9 : Int32) ≤ x2 → x2 = (9 : Int32) → ¬ (x3 = (12 : Int32)) → ¬ ((9 : Int32) ≤ x1) → vp_in (x3 - (9 : Int32)) 4) (H2 : (9 : Int32) ≤ x3 → (9 : Int32) ≤ x2 → ¬ (x2 = (9 : Int32)) → ¬ ((9 : Int32) ≤ x1) → vp_in (x3 - (9 : Int32)) 4) (H3 : (9 : Int32) ≤ x3 → ¬ ((9 : Int32) ≤ x2) → vp_in (f_50 (x3 - (9 : Int32))) 4) (H4 : (9 : Int32) ≤ x3 → ¬ ((9 : Int32) ≤ x2) → ¬ (x1 = (f_49 σ (x3 - (9 : Int32)))) → vp_in x1 9) (H5 : (9 : Int32) ≤ x3 → ¬ ((9 : Int32) ≤ x2) → ¬ (x1 = (f_49 σ (x3 - (9 : Int32)))) → ¬ ((σ 5 3) ≤ ((σ 32 x1.toNatClampNeg) + (1 : Int32))) → vp_in ((σ 32 x1.toNatClampNeg) + (1 : Int32)) 9) (H6 : (9 : Int32) ≤ x3 → ¬ ((9 : Int32) ≤ x2) → (f_58 σ x1 x2 (x3 - (9 : Int32))) = 0 → vp_in (f_50 (x3 - (9 : Int32))) 4) (H7 : (9 : Int32) ≤ x3 → ¬ ((9 : Int32) ≤ x2) → (f_58 σ x1 x2 (x3 - (9 : Int32))) = 0 → ¬ (x2 = (f_49 σ (x3 - (9 : Int32)))) → vp_in x2 9) (H8 : (9 : Int32) ≤ x3 → ¬ ((9 : Int32) ≤ x2) → (f_58 σ x1 x2 (x3 - (9 : Int32))) = 0 → ¬ (x2 = (f_49 σ (x3 - (9 : Int32)))) → ¬ ((σ 5 3) ≤ ((σ 32 x2.toNatClampNeg) + (1 : Int32))) → vp_in ((σ 32 x2.toNatClampNeg) + (1 : Int32)) 9) (H9 : ¬ ((9 : Int32) ≤ x3) → FC σ) (q : Q (some (.int (f_57 σ x1 x2 x3))) σ) : mD (d + 4) 57 [.ref 6, .int x1, .int x2, .int x3] σ Q := ke_57 (kb_57_0 (fun g0 => (kb_57_25 (fun g1 => (kb_57_63 (fun g2 => (kb_57_69 (fun g3 => (kb_57_75 (fun g4 => (kb_57_117 (q_pos g4 (q_pos g3 (q_pos g2 (q_pos g1 (q_pos g0 q))))))) (fun g4 => (kb_57_88 (fun g5 => (absurd (show (1 : Int32) = 0 from g5) (by decide))) (fun _ => (kb_57_100 (pk_in 0 4 (by decide)) (fun g5 => (kb_57_113 (q_pos g5 (q_neg g4 (q_pos g3 (q_pos g2 (q_pos g1 (q_pos g0 q)))))))) (fun g5 => (kb_57_117 (q_neg g5 (q_neg g4 (q_pos g3 (q_pos g2 (q_pos g1 (q_pos g0 q)))))))))))))) (fun g3 => (kb_57_79 (fun g4 => (kb_57_117 (q_pos g4 (q_neg g3 (q_pos g2 (q_pos g1 (q_pos g0 q))))))) (fun g4 => (kb_57_88 (fun _ => (kb_57_104 (H1 g0 g1 g2 g3 g4) (fun g5 => (kb_57_113 (q_pos g5 (q_neg g4 (q_neg g3 (q_pos g2 (q_pos g1 (q_pos g0 q)))))))) (fun g5 => (kb_57_117 (q_neg g5 (q_neg g4 (q_neg g3 (q_pos g2 (q_pos g1 (q_pos g0 q)))))))))) (fun g5 => (absurd (show ¬ ((0 : Int32) = 0) from g5) (by decide))))))))) (fun g2 => (kb_57_79 (fun g3 => (kb_57_117 (q_pos g3 (q_neg g2 (q_pos g1 (q_pos g0 q)))))) (fun g3 => (kb_57_88 (fun _ => (kb_57_104 (H2 g0 g1 g2 g3) (fun g4 => (kb_57_113 (q_pos g4 (q_neg g3 (q_neg g2 (q_pos g1 (q_pos g0 q))))))) (fun g4 => (kb_57_117 (q_neg g4 (q_neg g3 (q_neg g2 (q_pos g1 (q_pos g0 q))))))))) (fun g4 => (absurd (show ¬ ((0 : Int32) = 0) from g4) (by decide))))))))) (fun g1 => (kb_57_31 (c_58 (H3 g0 g1) (H4 g0 g1) (H5 g0 g1) (kb_57_41 (fun g2 => (kb_57_44 (c_58 (H6 g0 g1 g2) (H7 g0 g1 g2) (H8 g0 g1 g2) (kb_57_54 (fun g3 => (kb_57_61 (q_pos g3 (q_pos g2 (q_neg g1 (q_pos g0 q)))))) (fun g3 => (kb_57_57 (q_neg g3 (q_pos g2 (q_neg g1 (q_pos g0 q)))))))))) (fun g2 => (kb_57_57 (q_neg g2 (q_neg g1 (q_pos g0 q))))))))))) (fun g0 => (kb_57_6 (c_46 (H9 g0) (kb_57_24 (F46_01 _ _) (q_neg g0 q))))))
/-- what the class's triangles stand on -/
def TP (τ : mm_S) (L : Nat) : Prop := FC τ ∧ L ≤ 9 ∧ τ 5 3 = nI L ∧ ∀ i, i < 9 → (∃ k, k < L ∧ τ 32 i = nI k) ∨ τ 32 i = -1
theorem TP_40 {τ : mm_S} {L i : Nat} (T : TP τ L) (hi : i < 9) : ¬ (τ 5 3 ≤ τ 32 (nI i).toNatClampNeg + 1) → vp_in (τ 32 (nI i).toNatClampNeg + 1) 9 := by
  obtain ⟨-, l9, e3, hp⟩ := T
  rw [nI_clamp (show i < 2 ^ 31 by omega), e3]
  rcases hp i hi with ⟨k, hk, e⟩ | e
  · rw [e, nI_1]
    intro z
    refine pk_in (k + 1) 9 ?_
    rcases Nat.lt_or_ge (k + 1) L with y | y
    · omega
    · exact absurd (hI_le (by omega) y) z
  · rw [e]
    intro _
    exact pk_in 0 9 (by decide)
theorem sub9 : ∀ s, s < 4 → nI (9 + s) - 9 = nI s := by decide
theorem c_57n {d i j k L : Nat} {Q : mm_Q} {τ : mm_S} (T : TP τ L) (hij : i < j) (hjk : j < k) (hk : k < 13) (q : Q (some (.int (f_57 τ (nI i) (nI j) (nI k)))) τ) : mD (d + 4) 57 [.ref 6, .int (nI i), .int (nI j), .int (nI k)] τ Q := by
  have le9 : ∀ {a : Nat}, a < 13 → ((9 : Int32) ≤ nI a → 9 ≤ a) := fun {a} ha h => (nI_leI (a := 9) (by omega) (by omega)).mp h
  have nle9 : ∀ {a : Nat}, a < 13 → (¬ (9 : Int32) ≤ nI a → a < 9) := fun {a} ha h => by
    rcases Nat.lt_or_ge a 9 with y | y
    · exact y
    · exact absurd (hI_le (a := 9) (by omega) y) h
  have sb : (9 : Int32) ≤ nI k → vp_in (nI k - 9) 4 := fun h => by
    obtain ⟨s, hs, e⟩ : ∃ s, s < 4 ∧ k = 9 + s := ⟨k - 9, by have := le9 hk h; omega, by have := le9 hk h; omega⟩
    rw [e, sub9 s hs]; exact pk_in s 4 hs
  have s5 : (9 : Int32) ≤ nI k → vp_in (f_50 (nI k - 9)) 4 := fun h => by
    obtain ⟨s, hs, e⟩ : ∃ s, s < 4 ∧ k = 9 + s := ⟨k - 9, by have := le9 hk h; omega, by have := le9 hk h; omega⟩
    rw [e, sub9 s hs, (f_50_n s hs).1]; exact pk_in _ 4 (f_50_n s hs).2
  refine c_57 (fun a _ _ _ _ => sb a) (fun a _ _ _ => sb a) (fun a _ => s5 a) (fun _ b _ => pk_in i 9 ?_) (fun _ b _ => TP_40 T ?_) (fun a _ _ => s5 a) (fun _ b _ _ => pk_in j 9 ?_) (fun _ b _ _ => TP_40 T ?_) (fun _ => T.1) q
  · have := nle9 (by omega) b; omega
  · have := nle9 (by omega) b; omega
  · exact nle9 (by omega) b
  · exact nle9 (by omega) b
/-- three nodes, each joined with the others, that bound no face -/
def tri (τ : mm_S) (K : Nat → Nat) (i j k : Nat) : Prop := i < j ∧ j < k ∧ k < 13 ∧ (K i).testBit j = true ∧ (K i).testBit k = true ∧ (K j).testBit k = true ∧ f_57 τ (nI i) (nI j) (nI k) = 0
theorem c_56 {d i j L : Nat} {Q : mm_Q} {τ : mm_S} {K : Nat → Nat} (T : TP τ L) (hK : ∀ v, v < 13 → τ 44 v = nI (K v) ∧ K v < 8192) (hij : i < j) (hj : j < 13) (hb : (K i).testBit j = true)
    (q1 : ∀ k, tri τ K i j k → (∀ k', k' < k → ¬ tri τ K i j k') → Q (some (.int (nI k))) τ) (q0 : (∀ k, ¬ tri τ K i j k) → Q (some (.int (-1))) τ) : mD (d + 5) 56 [.ref 6, .int (nI i), .int (nI j)] τ Q := by
  have ki := hK i (by omega)
  have kj := hK j hj
  refine ke_56 (kb_56_0 (pk_in i 13 (by omega)) (pk_in j 13 hj) ?_)
  rw [nI_clamp (show i < 2 ^ 31 by omega), nI_clamp (show j < 2 ^ 31 by omega), ki.1, kj.1, and_bit, nI_1]
  have hlt : K i &&& K j < 2 ^ 13 := Nat.and_lt_two_pow _ kj.2
  refine lp_dn (P := fun k => j < k → (∀ k', k' < k → ¬ tri τ K i j k') → mw (d + 4) mt_56 Q 19 [some (.ref 6), some (.int (nI i)), some (.int (nI j)), some (.int (nI (K i &&& K j))), some (.int (nI k))] [] τ) 13 ?_ ?_ (j + 1) (by omega) (by omega) (fun k' hk' h => absurd h.2.1 (by omega))
  · intro _ h
    refine kb_56_19 (fun _ => kb_56_55 (q0 (fun k hk => h k hk.2.2.1 hk))) (fun g => absurd (by decide) g)
  · intro k hk ih hjk h
    have both : (K i &&& K j).testBit k = true ↔ (K i).testBit k = true ∧ (K j).testBit k = true := by rw [Nat.testBit_and, Bool.and_eq_true]
    have nx : ¬ tri τ K i j k → mw (d + 4) mt_56 Q 49 [some (.ref 6), some (.int (nI i)), some (.int (nI j)), some (.int (nI (K i &&& K j))), some (.int (nI k))] [] τ := fun hn => by
      refine kb_56_49 ?_
      rw [nI_1]
      refine ih (by omega) (fun k' hk' => ?_)
      by_cases e : k' = k
      · subst e; exact hn
      · exact h k' (by omega)
    refine kb_56_19 (fun g => absurd g (hI_nle (a := 13) (by omega) hk)) (fun _ => kb_56_26 (c_4 (kb_56_32 (fun z => nx (fun t => ?_)) (fun z => kb_56_35 (c_57n T hij hjk hk (kb_56_43 (fun w => kb_56_46 (q1 k ?_ h)) (fun w => nx (fun t => w t.2.2.2.2.2.2))))))))
    · have := (hs_b0 (by omega) (by omega)).mp z
      rw [both.mpr ⟨t.2.2.2.2.1, t.2.2.2.2.2.1⟩] at this
      exact absurd this (by decide)
    · have hk2 := both.mp ((hs_b1 (by omega) (by omega)).mp ((hs_01 _ _).resolve_left z))
      exact ⟨hij, hjk, hk, hb, hk2.1, hk2.2, w⟩
def tw3n (σ : mm_S) (a b c : Nat) : mm_S := mm_up (mm_up (mm_up (mm_up σ 20 0 (nI a)) 20 1 (nI b)) 20 2 (nI c)) 3 1 3
theorem c_55 {d L : Nat} {Q : mm_Q} {τ : mm_S} {K : Nat → Nat} (T : TP τ L) (hK : ∀ v, v < 13 → τ 44 v = nI (K v) ∧ K v < 8192)
    (q1 : ∀ i j k, tri τ K i j k → (∀ i' j' k', (i' < i ∨ (i' = i ∧ (j' < j ∨ (j' = j ∧ k' < k)))) → ¬ tri τ K i' j' k') → Q (some (.int 1)) (tw3n τ i j k)) (q0 : (∀ i j k, ¬ tri τ K i j k) → Q (some (.int 0)) τ) : mD (d + 6) 55 [.ref 6, .ref 3] τ Q := by
  refine ke_55 (kb_55_0 ?_)
  refine lp_dn (P := fun i => (∀ i' j k, i' < i → ¬ tri τ K i' j k) → ∀ o3 o4, mw (d + 5) mt_55 Q 2 [some (.ref 6), some (.ref 3), some (.int (nI i)), o3, o4] [] τ) 13 ?_ ?_ 0 (by omega) (fun i' j k h => absurd h (Nat.not_lt_zero i')) none none
  · intro h o3 o4
    exact kb_55_2 (fun _ => kb_55_70 (q0 (fun i j k t => h i j k (by have := t.1; have := t.2.1; have := t.2.2.1; omega) t))) (fun g => absurd (by decide) g)
  · intro i hi ih h o3 o4
    refine kb_55_2 (fun g => absurd g (hI_nle (a := 13) (by omega) hi)) (fun _ => kb_55_8 ?_)
    rw [nI_1]
    refine lp_dn (P := fun j => i < j → (∀ j' k, j' < j → ¬ tri τ K i j' k) → ∀ o4, mw (d + 5) mt_55 Q 12 [some (.ref 6), some (.ref 3), some (.int (nI i)), some (.int (nI j)), o4] [] τ) 13 ?_ ?_ (i + 1) (by omega) (by omega) (fun j' k hj t => absurd t.1 (by omega)) o4
    · intro _ hj o4
      refine kb_55_12 (fun _ => kb_55_64 ?_) (fun g => absurd (by decide) g)
      rw [nI_1]
      refine ih (fun i' j k hi' => ?_) _ _
      by_cases e : i' = i
      · subst e; exact fun t => hj j k (by have := t.2.1; have := t.2.2.1; omega) t
      · exact h i' j k (by omega)
    · intro j hj ihj hij hjj o4
      have ki := hK i hi
      have nx : (∀ k, ¬ tri τ K i j k) → ∀ x4, mw (d + 5) mt_55 Q 58 [some (.ref 6), some (.ref 3), some (.int (nI i)), some (.int (nI j)), some (.int x4)] [] τ := fun hn x4 => by
        refine kb_55_58 ?_
        rw [nI_1]
        refine ihj (by omega) (fun j' k hj' => ?_) _
        by_cases e : j' = j
        · subst e; exact hn k
        · exact hjj j' k (by omega)
      refine kb_55_12 (fun g => absurd g (hI_nle (a := 13) (by omega) hj)) (fun _ => kb_55_18 (pk_in i 13 hi) (c_4 ?_))
      rw [nI_clamp (show i < 2 ^ 31 by omega), ki.1]
      refine kb_55_28 (fun z => kb_55_40 (fun _ => nx (fun k t => ?_) _) (fun g => absurd (by decide) g)) (fun z => kb_55_31 (c_56 T hK hij hj ((hs_b1 (by omega) (by omega)).mp ((hs_01 _ _).resolve_left z)) (fun k t hk => kb_55_37 (fun g => absurd g (nI_pos (by have := t.2.2.1; omega))) (fun _ => kb_55_48 (c_21 (kb_55_56 (q1 i j k t (fun i' j' k' hh => ?_)))))) (fun hn => kb_55_37 (fun _ => nx hn _) (fun g => absurd (by decide) g))))
      · have := (hs_b0 (by omega) (by omega)).mp z
        rw [t.2.2.2.1] at this
        exact absurd this (by decide)
      · rcases hh with hh | ⟨rfl, hh | ⟨rfl, hh⟩⟩
        · exact h i' j' k' hh
        · exact hjj j' k' hh
        · exact hk k' hh

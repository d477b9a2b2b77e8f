/-! class: joinOutline -/
/-- HouseDesk$Sides.joinOutline, from 2 -/
theorem ks_54_2 {d : Nat} {Q : mm_Q} {x1 : Int32} {o2 o3 o4 : Option Value} {σ : mm_S} (H1 : ¬ ((9 : Int32) ≤ x1) → vp_in x1 13) (H2 : ¬ ((9 : Int32) ≤ x1) → vp_in x1 9) (q0 : (9 : Int32) ≤ x1 → mw (d + 2) mt_54 Q 46 [some (.ref 6), some (.int (0 : Int32)), o2, o3, o4] [] σ) (q1 : ¬ ((9 : Int32) ≤ x1) → (xd σ x1) = 0 → mw (d + 2) mt_54 Q 2 [some (.ref 6), some (.int (x1 + 1)), o2, o3, o4] [] (mm_up σ 44 x1.toNatClampNeg (0 : Int32))) (q2 : ¬ ((9 : Int32) ≤ x1) → ¬ ((xd σ x1) = 0) → mw (d + 2) mt_54 Q 2 [some (.ref 6), some (.int (x1 + 1)), o2, o3, o4] [] (mm_up σ 44 x1.toNatClampNeg (σ 15 x1.toNatClampNeg))) : mw (d + 2) mt_54 Q 2 [some (.ref 6), some (.int x1), o2, o3, o4] [] σ := (kb_54_2 (fun g0 => (kb_54_44 (q0 g0))) (fun g0 => (kb_54_8 (c_7 (kb_54_21 (fun g1 => (kb_54_36 (H1 g0) (q1 g0 g1))) (fun g1 => (kb_54_24 (H2 g0) (H1 g0) (q2 g0 g1))))))))
/-- HouseDesk$Sides.joinOutline, from 46 -/
theorem ks_54_46 {d : Nat} {Q : mm_Q} {x1 : Int32} {o2 o3 o4 : Option Value} {σ : mm_S} (H1 : ¬ ((4 : Int32) ≤ x1) → vp_in ((9 : Int32) + x1) 13) (q0 : (4 : Int32) ≤ x1 → mw (d + 1) mt_54 Q 83 [some (.ref 6), some (.int (0 : Int32)), o2, o3, o4] [] σ) (q1 : ¬ ((4 : Int32) ≤ x1) → mw (d + 1) mt_54 Q 46 [some (.ref 6), some (.int (x1 + 1)), o2, o3, o4] [] (mm_up σ 44 ((9 : Int32) + x1).toNatClampNeg ((f_52 (f_50 x1)) ||| (f_52 (f_51 x1))))) : mw (d + 1) mt_54 Q 46 [some (.ref 6), some (.int x1), o2, o3, o4] [] σ := (kb_54_46 (fun g0 => (kb_54_81 (q0 g0))) (fun g0 => (kb_54_51 (c_50 (kb_54_63 (c_52 (kb_54_66 (c_51 (kb_54_70 (c_52 (kb_54_73 (H1 g0) (q1 g0))))))))))))
/-- HouseDesk$Sides.joinOutline, from 83 -/
theorem ks_54_83 {d : Nat} {Q : mm_Q} {x1 : Int32} {o2 o3 o4 : Option Value} {σ : mm_S} (H1 : ¬ ((4 : Int32) ≤ x1) → vp_in x1 4) (H2 : ¬ ((4 : Int32) ≤ x1) → vp_in (f_50 x1) 4) (H3 : ¬ ((4 : Int32) ≤ x1) → vp_in (f_49 σ x1) 9) (H4 : ¬ ((4 : Int32) ≤ x1) → vp_in (σ 19 x1.toNatClampNeg) 9) (q0 : (4 : Int32) ≤ x1 → Q (none) σ) (q1 : ¬ ((4 : Int32) ≤ x1) → mw (d + 3) mt_54 Q 107 [some (.ref 6), some (.int x1), some (.int (σ 19 x1.toNatClampNeg)), some (.int (f_48 σ x1)), some (.int (0 : Int32))] [] σ) : mw (d + 3) mt_54 Q 83 [some (.ref 6), some (.int x1), o2, o3, o4] [] σ := (kb_54_83 (fun g0 => (kb_54_170 (q0 g0))) (fun g0 => (kb_54_88 (H1 g0) (c_48 (H2 g0) (H3 g0) (H1 g0) (H4 g0) (kb_54_103 (q1 g0))))))
/-- HouseDesk$Sides.joinOutline, from 107 -/
theorem ks_54_107 {d : Nat} {Q : mm_Q} {x1 x2 x3 x4 : Int32} {σ : mm_S} (H1 : ¬ (x3 < x4) → vp_in ((9 : Int32) + x1) 13) (H2 : ¬ (x3 < x4) → vp_in x2 13) (H3 : ¬ (x3 < x4) → vp_in x2 9) (H4 : ¬ (x3 < x4) → ¬ (((mm_up (mm_up σ 44 ((9 : Int32) + x1).toNatClampNeg ((σ 44 ((9 : Int32) + x1).toNatClampNeg) ||| ((1 : Int32) <<< (x2 &&& 31)))) 44 x2.toNatClampNeg (((mm_up σ 44 ((9 : Int32) + x1).toNatClampNeg ((σ 44 ((9 : Int32) + x1).toNatClampNeg) ||| ((1 : Int32) <<< (x2 &&& 31)))) 44 x2.toNatClampNeg) ||| (f_52 x1))) 5 3) ≤ ((σ 32 x2.toNatClampNeg) + (1 : Int32))) → vp_in ((σ 32 x2.toNatClampNeg) + (1 : Int32)) 9) (q0 : x3 < x4 → mw (d + 1) mt_54 Q 83 [some (.ref 6), some (.int (x1 + 1)), some (.int x2), some (.int x3), some (.int x4)] [] σ) (q1 : ¬ (x3 < x4) → mw (d + 1) mt_54 Q 107 [some (.ref 6), some (.int x1), some (.int (f_40 (mm_up (mm_up σ 44 ((9 : Int32) + x1).toNatClampNeg ((σ 44 ((9 : Int32) + x1).toNatClampNeg) ||| ((1 : Int32) <<< (x2 &&& 31)))) 44 x2.toNatClampNeg (((mm_up σ 44 ((9 : Int32) + x1).toNatClampNeg ((σ 44 ((9 : Int32) + x1).toNatClampNeg) ||| ((1 : Int32) <<< (x2 &&& 31)))) 44 x2.toNatClampNeg) ||| (f_52 x1))) (σ 32 x2.toNatClampNeg))), some (.int x3), some (.int (x4 + 1))] [] (mm_up (mm_up σ 44 ((9 : Int32) + x1).toNatClampNeg ((σ 44 ((9 : Int32) + x1).toNatClampNeg) ||| ((1 : Int32) <<< (x2 &&& 31)))) 44 x2.toNatClampNeg (((mm_up σ 44 ((9 : Int32) + x1).toNatClampNeg ((σ 44 ((9 : Int32) + x1).toNatClampNeg) ||| ((1 : Int32) <<< (x2 &&& 31)))) 44 x2.toNatClampNeg) ||| (f_52 x1)))) : mw (d + 1) mt_54 Q 107 [some (.ref 6), some (.int x1), some (.int x2), some (.int x3), some (.int x4)] [] σ := (kb_54_107 (fun g0 => (kb_54_164 (q0 g0))) (fun g0 => (kb_54_113 (H1 g0) (H1 g0) (H2 g0) (c_52 (kb_54_139 (H2 g0) (H3 g0) (c_40 (H4 g0) (kb_54_157 (q1 g0))))))))
/-- the outline by its arrays -/
def OA (τ : mm_S) (L : Nat) (o : Nat → Nat) : Prop := 1 ≤ L ∧ L ≤ 9 ∧ τ 5 3 = nI L ∧ (∀ k, k < L → o k < 9 ∧ τ 31 k = nI (o k) ∧ τ 32 (o k) = nI k) ∧ (∀ i k, i < 9 → k < L → τ 32 i = nI k → i = o k)
theorem OA_cg {τ τ' : mm_S} {L : Nat} {o : Nat → Nat} (h5 : τ' 5 3 = τ 5 3) (h31 : τ' 31 = τ 31) (h32 : τ' 32 = τ 32) (O : OA τ L o) : OA τ' L o := by
  unfold OA at *
  rw [h5, h31, h32]
  exact O
theorem OA_40 {τ : mm_S} {L k : Nat} {o : Nat → Nat} (O : OA τ L o) (hk : k < L) : f_40 τ (nI k) = nI (o ((k + 1) % L)) := by
  obtain ⟨l1, l9, e3, arr, -⟩ := O
  unfold f_40
  rw [e3, nI_1]
  by_cases h : k + 1 = L
  · rw [if_pos (hI_le (by omega) (by omega)), (arr 0 (by omega)).2.1, h, Nat.mod_self]
  · rw [if_neg (hI_nle (by omega) (by omega)), nI_clamp (by omega), Nat.mod_eq_of_lt (show k + 1 < L by omega)]
    exact (arr (k + 1) (by omega)).2.1
/-- room r is among the first j steps of side s -/
def onp (o p : Nat → Nat) (L s j r : Nat) : Prop := ∃ i, i < j ∧ o ((p s + i) % L) = r
def NB (σ : mm_S) (m : Nat) (o p : Nat → Nat) (L : Nat) (cnt K : Nat → Nat) : Prop :=
  (∀ v, v < 13 → K v < 8192) ∧
  (∀ v w, v < 9 → w < 9 → ((K v).testBit w = true ↔ m.testBit v = true ∧ aj σ v w)) ∧
  (∀ v s, v < 9 → s < 4 → ((K v).testBit (9 + s) = true ↔ onp o p L s (cnt s) v)) ∧
  (∀ s w, s < 4 → w < 9 → ((K (9 + s)).testBit w = true ↔ onp o p L s (cnt s) w)) ∧
  (∀ s s', s < 4 → s' < 4 → ((K (9 + s)).testBit (9 + s') = true ↔ s' = nx4 s ∨ s' = pv4 s))
theorem onp_up {o p : Nat → Nat} {L s j r : Nat} : onp o p L s (j + 1) r ↔ onp o p L s j r ∨ o ((p s + j) % L) = r := by
  unfold onp
  constructor
  · rintro ⟨i, hi, e⟩
    by_cases z : i = j
    · subst z; exact Or.inr e
    · exact Or.inl ⟨i, by omega, e⟩
  · rintro (⟨i, hi, e⟩ | e)
    · exact ⟨i, by omega, e⟩
    · exact ⟨j, by omega, e⟩
theorem NB_up {σ : mm_S} {m L s r : Nat} {o p cnt K : Nat → Nat} (B : NB σ m o p L cnt K) (hs : s < 4) (hr : r < 9) (er : o ((p s + cnt s) % L) = r) :
    NB σ m o p L (fun s' => if s' = s then cnt s + 1 else cnt s') (fun v => if v = r then K r ||| 2 ^ (9 + s) else if v = 9 + s then K (9 + s) ||| 2 ^ r else K v) := by
  obtain ⟨b1, b2, b3, b4, b5⟩ := B
  have tb : ∀ a k w : Nat, (a ||| 2 ^ k).testBit w = true ↔ a.testBit w = true ∨ k = w := fun a k w => by
    rw [Nat.testBit_or, Nat.testBit_two_pow, Bool.or_eq_true]
    simp
  refine ⟨fun v hv => ?_, fun v w hv hw => ?_, fun v s' hv hs' => ?_, fun s' w hs' hw => ?_, fun s1 s2 h1 h2 => ?_⟩
  · simp only
    split
    · exact Nat.or_lt_two_pow (n := 13) (b1 r (by omega)) (Nat.pow_lt_pow_right (by decide) (by omega))
    · split
      · exact Nat.or_lt_two_pow (n := 13) (b1 _ (by omega)) (Nat.pow_lt_pow_right (by decide) (by omega))
      · exact b1 v hv
  · simp only
    by_cases e : v = r
    · subst e
      rw [if_pos rfl, tb, b2 v w hv hw]
      constructor
      · rintro (z | z)
        · exact z
        · omega
      · exact Or.inl
    · rw [if_neg e, if_neg (by omega)]; exact b2 v w hv hw
  · simp only
    by_cases e : v = r
    · subst e
      rw [if_pos rfl, tb, b3 v s' hv hs']
      by_cases es : s' = s
      · subst es
        rw [if_pos rfl, onp_up]
        constructor
        · intro _; exact Or.inr er
        · intro _; exact Or.inr rfl
      · rw [if_neg es]
        constructor
        · rintro (z | z)
          · exact z
          · omega
        · exact Or.inl
    · rw [if_neg e, if_neg (by omega), b3 v s' hv hs']
      by_cases es : s' = s
      · subst es
        rw [if_pos rfl, onp_up]
        constructor
        · exact Or.inl
        · rintro (z | z)
          · exact z
          · exact absurd (z.symm.trans er) e
      · rw [if_neg es]
  · simp only
    rw [if_neg (by omega)]
    by_cases es : s' = s
    · subst es
      rw [if_pos rfl, if_pos rfl, tb, b4 s' w hs' hw, onp_up, er]
    · rw [if_neg (by omega), if_neg es]; exact b4 s' w hs' hw
  · simp only
    rw [if_neg (by omega)]
    by_cases es : s1 = s
    · subst es
      rw [if_pos rfl, tb, b5 s1 s2 h1 h2]
      constructor
      · rintro (z | z)
        · exact z
        · omega
      · exact Or.inl
    · rw [if_neg (by omega)]; exact b5 s1 s2 h1 h2
theorem f5052 : ∀ s, s < 4 → f_52 (f_50 (nI s)) ||| f_52 (f_51 (nI s)) = nI (2 ^ (9 + nx4 s) ||| 2 ^ (9 + pv4 s)) := by decide
theorem two_sides : ∀ s, s < 4 → (2 ^ (9 + nx4 s) ||| 2 ^ (9 + pv4 s)) < 8192 ∧ (∀ w, w < 9 → (2 ^ (9 + nx4 s) ||| 2 ^ (9 + pv4 s)).testBit w = false) ∧ (∀ s', s' < 4 → ((2 ^ (9 + nx4 s) ||| 2 ^ (9 + pv4 s)).testBit (9 + s') = true ↔ s' = nx4 s ∨ s' = pv4 s)) := by decide
theorem nI_9 {s : Nat} : (9 : Int32) + nI s = nI (9 + s) := nI_add 9 s
theorem c_54 {d n m L : Nat} {Q : mm_Q} {σ τ : mm_S} {o p c : Nat → Nat} (C : CK σ n m) (t1 : τ 1 = σ 1) (t15 : τ 15 = σ 15) (O : OA τ L o)
    (hc : ∀ i, i < 4 → c i < 9 ∧ τ 19 i = nI (c i)) (hp : ∀ i, i < 4 → p i < L ∧ τ 32 (c i) = nI (p i))
    (q : ∀ τ' K, (∀ k, k ≠ 44 → τ' k = τ k) → (∀ v, v < 13 → τ' 44 v = nI (K v)) → NB σ m o p L (fun s => st L p s + 1) K → Q none τ') : mD (d + 4) 54 [.ref 6] τ Q := by
  obtain ⟨l1, l9, e3, arr, inv⟩ := id O
  refine ke_54 (kb_54_0 ?_)
  refine lp_dn (P := fun i => ∀ ρ : mm_S, (∀ k, k ≠ 44 → ρ k = τ k) → (∀ j, j < i → ∃ q, q < 512 ∧ ρ 44 j = nI q ∧ ∀ w, w < 9 → (q.testBit w = true ↔ m.testBit j = true ∧ aj σ j w)) → mw (d + 3) mt_54 Q 2 [some (.ref 6), some (.int (nI i)), none, none, none] [] ρ) 9 ?_ ?_ 0 (by omega) τ (fun _ _ => rfl) (fun j hj => absurd hj (Nat.not_lt_zero j))
  · intro ρ fr h9
    have g9 : (9 : Int32) ≤ nI 9 := by decide
    refine ks_54_2 (fun g => absurd g9 g) (fun g => absurd g9 g) (fun _ => ?_) (fun g => absurd g9 g) (fun g => absurd g9 g)
    refine lp_dn (P := fun s => ∀ ρ : mm_S, (∀ k, k ≠ 44 → ρ k = τ k) → (∀ j, j < 9 → ∃ q, q < 512 ∧ ρ 44 j = nI q ∧ ∀ w, w < 9 → (q.testBit w = true ↔ m.testBit j = true ∧ aj σ j w)) → (∀ s', s' < s → ρ 44 (9 + s') = nI (2 ^ (9 + nx4 s') ||| 2 ^ (9 + pv4 s'))) → mw (d + 3) mt_54 Q 46 [some (.ref 6), some (.int (nI s)), none, none, none] [] ρ) 4 ?_ ?_ 0 (by omega) ρ fr h9 (fun j hj => absurd hj (Nat.not_lt_zero j))
    · intro ρ fr h9 h4
      have g4 : (4 : Int32) ≤ nI 4 := by decide
      refine ks_54_46 (fun g => absurd g4 g) (fun _ => ?_) (fun g => absurd g4 g)
      have K0 : ∃ K : Nat → Nat, (∀ v, v < 13 → ρ 44 v = nI (K v)) ∧ NB σ m o p L (fun _ => 0) K := by
        have hv : ∀ v, v < 13 → ∃ q, q < 8192 ∧ ρ 44 v = nI q := fun v hv => by
          rcases Nat.lt_or_ge v 9 with z | z
          · obtain ⟨q, q1, q2, _⟩ := h9 v z; exact ⟨q, by omega, q2⟩
          · obtain ⟨s, hs, rfl⟩ : ∃ s, s < 4 ∧ v = 9 + s := ⟨v - 9, by omega, by omega⟩
            exact ⟨_, (two_sides s hs).1, h4 s hs⟩
        have hK : ∀ v, v < 13 → ρ 44 v = nI (ρ 44 v).toNatClampNeg ∧ (ρ 44 v).toNatClampNeg < 8192 := fun v h => by
          obtain ⟨q, q1, q2⟩ := hv v h
          rw [q2, nI_clamp (by omega)]
          exact ⟨rfl, q1⟩
        have no : ∀ s r, ¬ onp o p L s 0 r := fun s r ⟨i, hi, _⟩ => absurd hi (Nat.not_lt_zero i)
        refine ⟨fun v => (ρ 44 v).toNatClampNeg, fun v h => (hK v h).1, fun v h => (hK v h).2, fun v w hv hw => ?_, fun v s hv hs => ?_, fun s w hs hw => ?_, fun s s' hs hs' => ?_⟩
        · obtain ⟨q, q1, q2, q3⟩ := h9 v hv
          show (ρ 44 v).toNatClampNeg.testBit w = true ↔ _
          rw [q2, nI_clamp (by omega)]
          exact q3 w hw
        · obtain ⟨q, q1, q2, q3⟩ := h9 v hv
          show (ρ 44 v).toNatClampNeg.testBit (9 + s) = true ↔ _
          rw [q2, nI_clamp (by omega), tb_lt (k := 9) q1 (by omega)]
          exact ⟨fun z => absurd z (by decide), fun z => absurd z (no s v)⟩
        · show (ρ 44 (9 + s)).toNatClampNeg.testBit w = true ↔ _
          rw [h4 s hs, nI_clamp (by have := (two_sides s hs).1; omega), (two_sides s hs).2.1 w hw]
          exact ⟨fun z => absurd z (by decide), fun z => absurd z (no s w)⟩
        · show (ρ 44 (9 + s)).toNatClampNeg.testBit (9 + s') = true ↔ _
          rw [h4 s hs, nI_clamp (by have := (two_sides s hs).1; omega)]
          exact (two_sides s hs).2.2 s' hs'
      obtain ⟨K0, k1, k2⟩ := K0
      clear h9 h4
      refine lp_dn (P := fun s => ∀ (ρ : mm_S) (K : Nat → Nat), (∀ k, k ≠ 44 → ρ k = τ k) → (∀ v, v < 13 → ρ 44 v = nI (K v)) → NB σ m o p L (fun s' => if s' < s then st L p s' + 1 else 0) K → ∀ o2 o3 o4, mw (d + 3) mt_54 Q 83 [some (.ref 6), some (.int (nI s)), o2, o3, o4] [] ρ) 4 ?_ ?_ 0 (by omega) ρ K0 fr k1 k2 none none none
      · intro ρ K fr hK B o2 o3 o4
        refine ks_54_83 (fun g => absurd g4 g) (fun g => absurd g4 g) (fun g => absurd g4 g) (fun g => absurd g4 g) (fun _ => q ρ K fr hK ?_) (fun g => absurd g4 g)
        obtain ⟨b1, b2, b3, b4, b5⟩ := B
        refine ⟨b1, b2, fun v s hv hs => ?_, fun s w hs hw => ?_, b5⟩
        · have := b3 v s hv hs
          simp only [if_pos hs] at this
          exact this
        · have := b4 s w hs hw
          simp only [if_pos hs] at this
          exact this
      · intro s hs ih ρ K fr hK B o2 o3 o4
        obtain ⟨e50, n4⟩ := f_50_n s hs
        have cs : (nI s).toNatClampNeg = s := nI_clamp (by omega)
        have hc' : ∀ i, i < 4 → c i < 9 ∧ ρ 19 i = nI (c i) := fun i hi => by rw [fr 19 (by decide)]; exact hc i hi
        have hp' : ∀ i, i < 4 → p i < L ∧ ρ 32 (c i) = nI (p i) := fun i hi => by rw [fr 32 (by decide)]; exact hp i hi
        have O' : OA ρ L o := OA_cg (by rw [fr 5 (by decide)]) (fr 31 (by decide)) (fr 32 (by decide)) O
        have g4' : ¬ ((4 : Int32) ≤ nI s) := hI_nle (a := 4) (by omega) hs
        refine ks_54_83 (fun _ => pk_in s 4 hs) (fun _ => by rw [e50]; exact pk_in _ 4 n4) (fun _ => ?_) (fun _ => by rw [cs, (hc' s hs).2]; exact pk_in _ 9 (hc' s hs).1) (fun g => absurd g g4') (fun _ => ?_)
        · unfold f_49
          rw [e50, nI_clamp (by omega), (hc' _ n4).2]
          exact pk_in _ 9 (hc' _ n4).1
        · rw [f_48_st (by omega) O'.2.2.1 hs hc' hp', cs, (hc' s hs).2]
          have stl : st L p s < L := st_lt (hp' _ n4).1 (hp' s hs).1
          have c0 : c s = o ((p s + 0) % L) := by
            rw [Nat.add_zero, Nat.mod_eq_of_lt (hp s hs).1]
            exact inv (c s) (p s) (hc s hs).1 (hp s hs).1 (hp s hs).2
          rw [c0]
          refine lp_dn (P := fun j => ∀ (ρ : mm_S) (K : Nat → Nat), (∀ k, k ≠ 44 → ρ k = τ k) → (∀ v, v < 13 → ρ 44 v = nI (K v)) → NB σ m o p L (fun s' => if s' < s then st L p s' + 1 else if s' = s then j else 0) K → mw (d + 3) mt_54 Q 107 [some (.ref 6), some (.int (nI s)), some (.int (nI (o ((p s + j) % L)))), some (.int (nI (st L p s))), some (.int (nI j))] [] ρ) (st L p s + 1) ?_ ?_ 0 (by omega) ρ K fr hK ?_
          · intro ρ K fr hK B
            have gl : nI (st L p s) < nI (st L p s + 1) := nI_lt (by omega) (by omega)
            refine ks_54_107 (fun g => absurd gl g) (fun g => absurd gl g) (fun g => absurd gl g) (fun g => absurd gl g) (fun _ => ?_) (fun g => absurd gl g)
            rw [nI_1]
            refine ih ρ K fr hK ?_ _ _ _
            have ec : (fun s' => if s' < s then st L p s' + 1 else if s' = s then st L p s + 1 else 0) = (fun s' => if s' < s + 1 then st L p s' + 1 else 0) := by
              funext s'
              by_cases e1 : s' < s
              · rw [if_pos e1, if_pos (by omega)]
              · by_cases e2 : s' = s
                · subst e2; rw [if_neg e1, if_pos rfl, if_pos (by omega)]
                · rw [if_neg e1, if_neg e2, if_neg (by omega)]
            rw [ec] at B
            exact B
          · intro j hj ihj ρ K fr hK B
            have kl : (p s + j) % L < L := Nat.mod_lt _ (by omega)
            obtain ⟨r9, r31, r32⟩ := arr _ kl
            have O' : OA ρ L o := OA_cg (by rw [fr 5 (by decide)]) (fr 31 (by decide)) (fr 32 (by decide)) O
            have gl : ¬ (nI (st L p s) < nI j) := nI_nlt (by omega) (by omega)
            generalize hr : o ((p s + j) % L) = r at *
            have cr : (nI r).toNatClampNeg = r := nI_clamp (by omega)
            have c9 : (nI (9 + s)).toNatClampNeg = 9 + s := nI_clamp (by omega)
            have rr : ρ 32 r = nI ((p s + j) % L) := by rw [fr 32 (by decide)]; exact r32
            have st1 : (mm_up (mm_up ρ 44 (9 + s) ((ρ 44 (9 + s)) ||| ((1 : Int32) <<< (nI r &&& 31)))) 44 r (((mm_up ρ 44 (9 + s) ((ρ 44 (9 + s)) ||| ((1 : Int32) <<< (nI r &&& 31)))) 44 r) ||| (f_52 (nI s)))) = mm_up (mm_up ρ 44 (9 + s) (nI (K (9 + s) ||| 2 ^ r))) 44 r (nI (K r ||| 2 ^ (9 + s))) := by
              rw [mm_up_o (show r ≠ 9 + s by omega), hK r (by omega), hK (9 + s) (by omega), one_sh (by omega), f_52_n s hs, or_bit, or_bit]
            refine ks_54_107 (fun _ => by rw [nI_9]; exact pk_in (9 + s) 13 (by omega)) (fun _ => pk_in r 13 (by omega)) (fun _ => pk_in r 9 r9) (fun _ z => ?_) (fun g => absurd g gl) (fun _ => ?_)
            · rw [cr, rr, nI_1]
              refine pk_in _ 9 ?_
              rw [cr, rr, nI_1, mm_up_n (by decide), mm_up_n (by decide), fr 5 (by decide), e3] at z
              rcases Nat.lt_or_ge ((p s + j) % L + 1) L with y | y
              · omega
              · exact absurd (hI_le (by omega) y) z
            · rw [nI_9, c9, cr, st1, rr, nI_1]
              have O2 : OA (mm_up (mm_up ρ 44 (9 + s) (nI (K (9 + s) ||| 2 ^ r))) 44 r (nI (K r ||| 2 ^ (9 + s)))) L o := OA_cg (by rw [mm_up_n (by decide), mm_up_n (by decide)]) (by rw [mm_up_n (by decide), mm_up_n (by decide)]) (by rw [mm_up_n (by decide), mm_up_n (by decide)]) O'
              rw [OA_40 O2 kl, show ((p s + j) % L + 1) % L = (p s + (j + 1)) % L by rw [Nat.mod_add_mod]; rfl]
              have B' := NB_up (r := r) B hs r9 (by
                show o ((p s + (if s < s then st L p s + 1 else if s = s then j else 0)) % L) = r
                rw [if_neg (Nat.lt_irrefl s), if_pos rfl]
                exact hr)
              refine ihj _ (fun v => if v = r then K r ||| 2 ^ (9 + s) else if v = 9 + s then K (9 + s) ||| 2 ^ r else K v) (fun k hk => by rw [mm_up_n hk, mm_up_n hk]; exact fr k hk) (fun v hv => ?_) ?_
              · by_cases e1 : v = r
                · subst e1; simp only [if_true]; exact mm_up_s
                · rw [mm_up_o e1]
                  show _ = nI (if v = r then K r ||| 2 ^ (9 + s) else if v = 9 + s then K (9 + s) ||| 2 ^ r else K v)
                  rw [if_neg e1]
                  by_cases e2 : v = 9 + s
                  · subst e2; rw [if_pos rfl]; exact mm_up_s
                  · rw [if_neg e2, mm_up_o e2]; exact hK v hv
              · have ec : (fun s' => if s' = s then (if s < s then st L p s + 1 else if s = s then j else 0) + 1 else if s' < s then st L p s' + 1 else if s' = s then j else 0) = (fun s' => if s' < s then st L p s' + 1 else if s' = s then j + 1 else 0) := by
                  funext s'
                  by_cases e2 : s' = s
                  · subst e2; simp
                  · simp [e2]
                rw [ec] at B'
                exact B'
          · have ec : (fun s' => if s' < s then st L p s' + 1 else 0) = (fun s' => if s' < s then st L p s' + 1 else if s' = s then 0 else 0) := by
              funext s'
              simp
            rw [ec] at B
            exact B
    · intro s hs ih ρ fr h9 h4
      refine ks_54_46 (fun _ => by rw [nI_9]; exact pk_in (9 + s) 13 (by omega)) (fun g => absurd g (hI_nle (a := 4) (by omega) hs)) (fun _ => ?_)
      rw [nI_1, nI_9, nI_clamp (by omega), f5052 s hs]
      refine ih _ (fun k hk => by rw [mm_up_n hk]; exact fr k hk) (fun j hj => ?_) (fun s' hs' => ?_)
      · obtain ⟨q, q1, q2, q3⟩ := h9 j hj
        exact ⟨q, q1, by rw [mm_up_o (by omega)]; exact q2, q3⟩
      · by_cases e : s' = s
        · subst e; exact mm_up_s
        · rw [mm_up_o (by omega)]; exact h4 s' (by omega)
  · intro i hi ih ρ fr h9
    have ci : (nI i).toNatClampNeg = i := nI_clamp (by omega)
    have xe : xd ρ = xd σ := xd_cg (by rw [fr 1 (by decide)]; exact t1)
    have nx : ∀ (q : Nat), q < 512 → (∀ w, w < 9 → (q.testBit w = true ↔ m.testBit i = true ∧ aj σ i w)) → mw (d + 3) mt_54 Q 2 [some (.ref 6), some (.int (nI i + 1)), none, none, none] [] (mm_up ρ 44 (nI i).toNatClampNeg (nI q)) := fun q hq hb => by
      rw [nI_1, ci]
      refine ih _ (fun k hk => by rw [mm_up_n hk]; exact fr k hk) (fun j hj => ?_)
      by_cases e : j = i
      · subst e; exact ⟨q, hq, mm_up_s, hb⟩
      · obtain ⟨q', q1, q2, q3⟩ := h9 j (by omega)
        exact ⟨q', q1, by rw [mm_up_o e]; exact q2, q3⟩
    refine ks_54_2 (fun _ => pk_in i 13 (by omega)) (fun _ => pk_in i 9 hi) (fun g => absurd g (hI_nle (a := 9) (by omega) hi)) (fun _ z => nx 0 (by decide) (fun w hw => ?_)) (fun _ z => ?_)
    · rw [xe] at z
      refine ⟨fun y => absurd y (by simp), fun y => ?_⟩
      rw [(C.dr i hi).mpr y.1] at z
      exact absurd z (by decide)
    · rw [xe] at z
      have mi := (C.dr i hi).mp ((xd_01 _ _).resolve_left z)
      obtain ⟨q', q1, q2⟩ := C.jm i hi mi
      have e15 : ρ 15 (nI i).toNatClampNeg = nI q' := by rw [ci, fr 15 (by decide), t15]; exact q2
      rw [e15]
      refine nx q' q1 (fun w hw => ?_)
      rw [aj_bit q1 q2]
      exact ⟨fun y => ⟨mi, hw, y⟩, fun y => y.2.2⟩

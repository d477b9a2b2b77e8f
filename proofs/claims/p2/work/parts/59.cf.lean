/-! class: the sides: small ones, cornersFit -/
/-- HouseDesk$Sides.sideBehind -/
def f_50 (x0 : Int32) : Int32 := (if (3 : Int32) ≤ x0 then (0 : Int32) else (x0 + (1 : Int32)))
theorem c_50 {d : Nat} {Q : mm_Q} {x0 : Int32} {σ : mm_S} (q : Q (some (.int (f_50 x0))) σ) : mD (d + 1) 50 [.int x0] σ Q := ke_50 (kb_50_0 (fun g0 => (kb_50_11 (q_pos g0 q))) (fun g0 => (kb_50_5 (q_neg g0 q))))
/-- HouseDesk$Sides.sideBefore -/
def f_51 (x0 : Int32) : Int32 := (if x0 ≤ 0 then (3 : Int32) else (x0 - (1 : Int32)))
theorem c_51 {d : Nat} {Q : mm_Q} {x0 : Int32} {σ : mm_S} (q : Q (some (.int (f_51 x0))) σ) : mD (d + 1) 51 [.int x0] σ Q := ke_51 (kb_51_0 (fun g0 => (kb_51_10 (q_pos g0 q))) (fun g0 => (kb_51_4 (q_neg g0 q))))
/-- HouseDesk$Sides.lastOf -/
def f_49 (σ : mm_S) (x1 : Int32) : Int32 := (σ 19 (f_50 x1).toNatClampNeg)
theorem c_49 {d : Nat} {Q : mm_Q} {x1 : Int32} {σ : mm_S} (H1 : vp_in (f_50 x1) 4) (q : Q (some (.int (f_49 σ x1))) σ) : mD (d + 2) 49 [.ref 6, .int x1] σ Q := ke_49 (kb_49_0 (c_50 (kb_49_11 H1 q)))
/-- HouseDesk$Sides.stepsAlong -/
def f_48 (σ : mm_S) (x1 : Int32) : Int32 := (if 0 ≤ ((σ 32 (f_49 σ x1).toNatClampNeg) - (σ 32 (σ 19 x1.toNatClampNeg).toNatClampNeg)) then ((σ 32 (f_49 σ x1).toNatClampNeg) - (σ 32 (σ 19 x1.toNatClampNeg).toNatClampNeg)) else (((σ 32 (f_49 σ x1).toNatClampNeg) - (σ 32 (σ 19 x1.toNatClampNeg).toNatClampNeg)) + (σ 5 3)))
theorem c_48 {d : Nat} {Q : mm_Q} {x1 : Int32} {σ : mm_S} (H1 : vp_in (f_50 x1) 4) (H2 : vp_in (f_49 σ x1) 9) (H3 : vp_in x1 4) (H4 : vp_in (σ 19 x1.toNatClampNeg) 9) (q : Q (some (.int (f_48 σ x1))) σ) : mD (d + 3) 48 [.ref 6, .int x1] σ Q := ke_48 (kb_48_0 (c_49 H1 (kb_48_12 H2 H3 H4 (fun g0 => (kb_48_48 (q_pos g0 q))) (fun g0 => (kb_48_36 (q_neg g0 q))))))
/-- HouseDesk$Sides.cornersFit, from 0 -/
theorem ks_47_0 {d : Nat} {Q : mm_Q} {σ : mm_S} (q0 : (σ 1 9) = 0 → Q (some (.int (0 : Int32))) σ) (q1 : ¬ ((σ 1 9) = 0) → mw d mt_47 Q 16 [some (.ref 6), some (.int (0 : Int32)), some (.int (0 : Int32))] [] σ) : mD (d + 1) 47 [.ref 6] σ Q := ke_47 (kb_47_0 (fun g0 => (kb_47_10 (q0 g0))) (fun g0 => (kb_47_12 (q1 g0))))
/-- HouseDesk$Sides.cornersFit, from 16 -/
theorem ks_47_16 {d : Nat} {Q : mm_Q} {x1 x2 : Int32} {σ : mm_S} (H1 : ¬ ((4 : Int32) ≤ x2) → vp_in x2 4) (H2 : ¬ ((4 : Int32) ≤ x2) → vp_in (σ 19 x2.toNatClampNeg) 9) (H3 : ¬ ((4 : Int32) ≤ x2) → 0 ≤ (σ 32 (σ 19 x2.toNatClampNeg).toNatClampNeg) → vp_in (f_50 x2) 4) (H4 : ¬ ((4 : Int32) ≤ x2) → 0 ≤ (σ 32 (σ 19 x2.toNatClampNeg).toNatClampNeg) → vp_in (f_49 σ x2) 9) (H5 : ¬ ((4 : Int32) ≤ x2) → 0 ≤ (σ 32 (σ 19 x2.toNatClampNeg).toNatClampNeg) → vp_in x2 4) (H6 : ¬ ((4 : Int32) ≤ x2) → 0 ≤ (σ 32 (σ 19 x2.toNatClampNeg).toNatClampNeg) → vp_in (σ 19 x2.toNatClampNeg) 9) (q0 : (4 : Int32) ≤ x2 → x1 = (σ 5 3) → Q (some (.int (1 : Int32))) σ) (q1 : (4 : Int32) ≤ x2 → ¬ (x1 = (σ 5 3)) → Q (some (.int (0 : Int32))) σ) (q2 : ¬ ((4 : Int32) ≤ x2) → 0 ≤ (σ 32 (σ 19 x2.toNatClampNeg).toNatClampNeg) → mw (d + 3) mt_47 Q 16 [some (.ref 6), some (.int (x1 + (f_48 σ x2))), some (.int (x2 + 1))] [] σ) (q3 : ¬ ((4 : Int32) ≤ x2) → ¬ (0 ≤ (σ 32 (σ 19 x2.toNatClampNeg).toNatClampNeg)) → Q (some (.int (0 : Int32))) σ) : mw (d + 3) mt_47 Q 16 [some (.ref 6), some (.int x1), some (.int x2)] [] σ := (kb_47_16 (fun g0 => (kb_47_57 (fun g1 => (kb_47_68 (q0 g0 g1))) (fun g1 => (kb_47_72 (q1 g0 g1))))) (fun g0 => (kb_47_21 (H1 g0) (H2 g0) (fun g1 => (kb_47_43 (c_48 (H3 g0 g1) (H4 g0 g1) (H5 g0 g1) (H6 g0 g1) (kb_47_49 (q2 g0 g1))))) (fun g1 => (kb_47_41 (q3 g0 g1))))))
def nx4 (i : Nat) : Nat := if i = 3 then 0 else i + 1
def pv4 (i : Nat) : Nat := if i = 0 then 3 else i - 1
theorem f_50_n : ∀ i, i < 4 → f_50 (nI i) = nI (nx4 i) ∧ nx4 i < 4 := by decide
theorem f_51_n : ∀ i, i < 4 → f_51 (nI i) = nI (pv4 i) ∧ pv4 i < 4 := by decide
theorem f_52_n : ∀ i, i < 4 → f_52 (nI i) = nI (2 ^ (9 + i)) := by decide
/-- steps along a side -/
def st (L : Nat) (p : Nat → Nat) (i : Nat) : Nat := if p (nx4 i) < p i then p (nx4 i) + L - p i else p (nx4 i) - p i
theorem st_dec : ∀ L, L < 10 → ∀ a, a < L → ∀ b, b < L → (if 0 ≤ nI b - nI a then nI b - nI a else nI b - nI a + nI L) = nI (if b < a then b + L - a else b - a) := by decide
theorem st_lt {L : Nat} {p : Nat → Nat} {i : Nat} (hp : p (nx4 i) < L) (hq : p i < L) : st L p i < L := by unfold st; split <;> omega
theorem f_48_st {τ : mm_S} {L i : Nat} {p c : Nat → Nat} (hL : L < 10) (e3 : τ 5 3 = nI L) (hi : i < 4) (hc : ∀ i, i < 4 → c i < 9 ∧ τ 19 i = nI (c i)) (hp : ∀ i, i < 4 → p i < L ∧ τ 32 (c i) = nI (p i)) : f_48 τ (nI i) = nI (st L p i) := by
  obtain ⟨e50, n4⟩ := f_50_n i hi
  unfold f_48 f_49
  rw [e50, nI_clamp (show nx4 i < 2 ^ 31 by omega), nI_clamp (show i < 2 ^ 31 by omega), (hc i hi).2, (hc _ n4).2, nI_clamp (show c i < 2 ^ 31 by have := (hc i hi).1; omega), nI_clamp (show c (nx4 i) < 2 ^ 31 by have := (hc _ n4).1; omega), (hp i hi).2, (hp _ n4).2, e3]
  exact st_dec L hL _ (hp i hi).1 _ (hp _ n4).1
def sm48 (σ : mm_S) : Nat → Int32
  | 0 => 0
  | i + 1 => sm48 σ i + f_48 σ (nI i)
theorem c_47 {d L : Nat} {Q : mm_Q} {τ : mm_S} (hL : L < 10) (e3 : τ 5 3 = nI L) (hn : τ 1 9 = 0 ∨ τ 1 9 = 1) (hc : τ 1 9 = 1 → ∀ i, i < 4 → ∃ a, a < 9 ∧ τ 19 i = nI a) (hpl : ∀ i, i < 9 → (∃ k, k < L ∧ τ 32 i = nI k) ∨ τ 32 i = -1)
    (q1 : ∀ p c : Nat → Nat, (∀ i, i < 4 → c i < 9 ∧ τ 19 i = nI (c i)) → (∀ i, i < 4 → p i < L ∧ τ 32 (c i) = nI (p i)) → st L p 0 + st L p 1 + st L p 2 + st L p 3 = L → Q (some (.int 1)) τ)
    (q0 : τ 1 9 = 0 ∨ (τ 1 9 = 1 ∧ ∃ i a, i < 4 ∧ a < 9 ∧ τ 19 i = nI a ∧ τ 32 a = -1) ∨ (∃ p c : Nat → Nat, (∀ i, i < 4 → c i < 9 ∧ τ 19 i = nI (c i)) ∧ (∀ i, i < 4 → p i < L ∧ τ 32 (c i) = nI (p i)) ∧ st L p 0 + st L p 1 + st L p 2 + st L p 3 ≠ L) → Q (some (.int 0)) τ) : mD (d + 4) 47 [.ref 6] τ Q := by
  refine ks_47_0 (fun z => q0 (Or.inl z)) (fun z => ?_)
  have h1 := hn.resolve_left z
  have hc' := hc h1
  have ex : ∃ c : Nat → Nat, ∀ i, i < 4 → c i < 9 ∧ τ 19 i = nI (c i) := ⟨fun i => (τ 19 i).toNatClampNeg, fun i hi => by
    obtain ⟨a, ha, e⟩ := hc' i hi
    show (τ 19 i).toNatClampNeg < 9 ∧ τ 19 i = nI (τ 19 i).toNatClampNeg
    rw [e, nI_clamp (by omega)]
    exact ⟨ha, rfl⟩⟩
  obtain ⟨c, hcc⟩ := ex
  refine lp_dn (P := fun s => (∀ i, i < s → ∃ k, k < L ∧ τ 32 (c i) = nI k) → mw (d + 3) mt_47 Q 16 [some (.ref 6), some (.int (sm48 τ s)), some (.int (nI s))] [] τ) 4 ?_ ?_ 0 (by omega) (fun i hi => absurd hi (Nat.not_lt_zero i))
  · intro hp
    have g4 : (4 : Int32) ≤ nI 4 := by decide
    have hp' : ∀ i, i < 4 → (τ 32 (c i)).toNatClampNeg < L ∧ τ 32 (c i) = nI (τ 32 (c i)).toNatClampNeg := fun i hi => by
      obtain ⟨k, hk, e⟩ := hp i hi
      rw [e, nI_clamp (by omega)]
      exact ⟨hk, rfl⟩
    generalize hpd : (fun i => (τ 32 (c i)).toNatClampNeg) = p at *
    have hpp : ∀ i, i < 4 → p i < L ∧ τ 32 (c i) = nI (p i) := fun i hi => by rw [← hpd]; exact hp' i hi
    have es : ∀ i, i < 4 → f_48 τ (nI i) = nI (st L p i) := fun i hi => f_48_st hL e3 hi hcc hpp
    have bd : ∀ i, i < 4 → st L p i < L := fun i hi => st_lt (hpp _ (f_50_n i hi).2).1 (hpp i hi).1
    have sum : sm48 τ 4 = nI (st L p 0 + st L p 1 + st L p 2 + st L p 3) := by
      show (((0 : Int32) + f_48 τ (nI 0)) + f_48 τ (nI 1) + f_48 τ (nI 2)) + f_48 τ (nI 3) = _
      rw [es 0 (by omega), es 1 (by omega), es 2 (by omega), es 3 (by omega), show (0 : Int32) = nI 0 from rfl, nI_add, nI_add, nI_add, nI_add, Nat.zero_add]
    have b0 := bd 0 (by omega)
    have b1 := bd 1 (by omega)
    have b2 := bd 2 (by omega)
    have b3 := bd 3 (by omega)
    refine ks_47_16 (fun g => absurd g4 g) (fun g => absurd g4 g) (fun g => absurd g4 g) (fun g => absurd g4 g) (fun g => absurd g4 g) (fun g => absurd g4 g) (fun _ e => q1 p c hcc hpp ?_) (fun _ e => q0 (Or.inr (Or.inr ⟨p, c, hcc, hpp, fun y => e ?_⟩))) (fun g => absurd g4 g) (fun g => absurd g4 g)
    · rw [sum, e3] at e
      exact (nI_eq (by omega) (by omega)).mp e
    · rw [sum, e3, y]
  · intro s hs ih hp
    have cs : (nI s).toNatClampNeg = s := nI_clamp (by omega)
    obtain ⟨c9, ec⟩ := hcc s hs
    have cc : (τ 19 (nI s).toNatClampNeg).toNatClampNeg = c s := by rw [cs, ec, nI_clamp (by omega)]
    obtain ⟨e50, n4⟩ := f_50_n s hs
    have g4 : ¬ ((4 : Int32) ≤ nI s) := hI_nle (a := 4) (by omega) hs
    have i19 : vp_in (τ 19 (nI s).toNatClampNeg) 9 := by rw [cs, ec]; exact pk_in _ 9 c9
    refine ks_47_16 (fun _ => pk_in s 4 hs) (fun _ => i19) (fun _ _ => by rw [e50]; exact pk_in _ 4 n4) (fun _ _ => ?_) (fun _ _ => pk_in s 4 hs) (fun _ _ => i19) (fun g => absurd g g4) (fun g => absurd g g4) (fun _ z => ?_) (fun _ z => q0 (Or.inr (Or.inl ⟨h1, s, c s, hs, c9, ec, ?_⟩)))
    · unfold f_49
      rw [e50, nI_clamp (by omega), (hcc _ n4).2]
      exact pk_in _ 9 (hcc _ n4).1
    · rw [nI_1]
      refine ih (fun i hi => ?_)
      by_cases e : i = s
      · subst e
        rcases hpl (c i) c9 with y | y
        · exact y
        · rw [cc, y] at z; exact absurd z (by decide)
      · exact hp i (by omega)
    · rcases hpl (c s) c9 with ⟨k, hk, y⟩ | y
      · rw [cc, y] at z
        exact absurd (by rw [ge0, nI_toInt (by omega)]; omega) z
      · exact y

/-! class: goAround -/
def BH (σ τ : mm_S) (m : Nat) : Prop := ∀ a b, a < 9 → m.testBit a = true → aj σ a b → DD σ τ a b
def Bf (τ : mm_S) (a b : Nat) : Nat := (τ (21 + 1 + a) b).toNatClampNeg
theorem BH_sp {σ τ : mm_S} {m a b : Nat} (H : BH σ τ m) (ha : a < 9) (ma : m.testBit a = true) (hab : aj σ a b) : τ (21 + 1 + a) b = nI (Bf τ a b) ∧ nxt (aj σ a) (vc σ a) b (Bf τ a b) := by
  obtain ⟨g, h1, h2⟩ := H a b ha ma hab
  have g9 := h2.2.1.1
  have : Bf τ a b = g := by unfold Bf; rw [h1]; exact nI_clamp (by omega)
  rw [this]
  exact ⟨h1, h2⟩
/-- a walk along darts: from, to -/
def dwf (B : Nat → Nat → Nat) (s t : Nat) : Nat → Nat × Nat
  | 0 => (s, t)
  | k + 1 => ((dwf B s t k).2, B (dwf B s t k).2 (dwf B s t k).1)
def wo (B : Nat → Nat → Nat) (s t k : Nat) : Nat := (dwf B s t k).1
theorem wo_0 {B : Nat → Nat → Nat} {s t : Nat} : wo B s t 0 = s := rfl
theorem wo_1 {B : Nat → Nat → Nat} {s t : Nat} : wo B s t 1 = t := rfl
theorem wo_2 {B : Nat → Nat → Nat} {s t k : Nat} : wo B s t (k + 2) = B (wo B s t (k + 1)) (wo B s t k) := rfl
theorem wo_aj {σ τ : mm_S} {n m s t : Nat} (C : CK σ n m) (H : BH σ τ m) (s9 : s < 9) (ms : m.testBit s = true) (hst : aj σ s t) : ∀ k, wo (Bf τ) s t k < 9 ∧ m.testBit (wo (Bf τ) s t k) = true ∧ aj σ (wo (Bf τ) s t k) (wo (Bf τ) s t (k + 1))
  | 0 => ⟨s9, ms, hst⟩
  | k + 1 => by
    obtain ⟨h1, h2, h3⟩ := wo_aj C H s9 ms hst k
    obtain ⟨b1, b2, b3⟩ := C.aj_dr h1 h2 h3
    refine ⟨b1, b2, ?_⟩
    rw [wo_2]
    exact (BH_sp H b1 b2 (C.aj_sym h1 h2 h3)).2.2.1
theorem bc_add {m i : Nat} (hm : ¬ m.testBit i = true) : ∀ n, bc (m ||| 2 ^ i) n = bc m n + if i < n then 1 else 0
  | 0 => rfl
  | n + 1 => by
    have ih := bc_add hm n
    unfold bc
    rw [ih, Nat.testBit_or, Nat.testBit_two_pow]
    by_cases e : i = n
    · subst e
      rw [if_neg hm, if_neg (Nat.lt_irrefl i), if_pos (Nat.lt_succ_self i)]
      simp
    · have hi : (i < n + 1) ↔ (i < n) := by omega
      by_cases c : m.testBit n = true
      · simp only [c, Bool.true_or, if_true, hi]
        split <;> omega
      · have c' : m.testBit n = false := by simpa using c
        simp only [c', e, decide_false, Bool.or_self, hi]
        split <;> simp
theorem bc_full {m : Nat} : ∀ n, bc m n = n → ∀ j, j < n → m.testBit j = true
  | 0, _, j, hj => absurd hj (Nat.not_lt_zero j)
  | n + 1, h, j, hj => by
    have l := bc_n m n
    unfold bc at h
    by_cases c : m.testBit n = true
    · rw [if_pos c] at h
      by_cases e : j = n
      · rw [e]; exact c
      · exact bc_full n (by omega) j (by omega)
    · rw [if_neg c] at h; omega
/-- the outline as it stands behind goAround: length, rooms, places -/
def OL (τ : mm_S) (s t L : Nat) : Prop := 1 ≤ L ∧ L ≤ 9 ∧ τ 5 3 = nI L ∧ wo (Bf τ) s t L = s ∧ wo (Bf τ) s t (L + 1) = t ∧ (∀ i j, i < j → j < L → wo (Bf τ) s t i ≠ wo (Bf τ) s t j) ∧ (∀ j, j < L → τ 31 j = nI (wo (Bf τ) s t j) ∧ τ 32 (wo (Bf τ) s t j) = nI j) ∧ (∀ i, i < 9 → (∀ j, j < L → wo (Bf τ) s t j ≠ i) → τ 32 i = -1)
/-- the walk comes to a room twice -/
def NS (τ : mm_S) (s t : Nat) : Prop := ∃ k, k ≤ 9 ∧ (∀ i j, i < j → j < k → wo (Bf τ) s t i ≠ wo (Bf τ) s t j) ∧ (∃ j, j < k ∧ wo (Bf τ) s t j = wo (Bf τ) s t k) ∧ ¬ (wo (Bf τ) s t k = s ∧ wo (Bf τ) s t (k + 1) = t)
def fr32 (σ τ : mm_S) : Prop := (∀ k, k ≠ 5 → (k < 22 ∨ 32 < k) → τ k = σ k) ∧ ∀ j, j ≠ 3 → τ 5 j = σ 5 j
theorem Bf_cg {σ τ : mm_S} (h : ∀ k, 22 ≤ k → k ≤ 30 → τ k = σ k) : ∀ a b, a < 9 → Bf τ a b = Bf σ a b := fun a b ha => by unfold Bf; rw [h (21 + 1 + a) (by omega) (by omega)]
theorem wo_cg {B B' : Nat → Nat → Nat} {s t : Nat} (h : ∀ k, B (wo B' s t (k + 1)) (wo B' s t k) = B' (wo B' s t (k + 1)) (wo B' s t k)) : ∀ k, dwf B s t k = dwf B' s t k
  | 0 => rfl
  | k + 1 => by
    have ih := wo_cg h k
    show ((dwf B s t k).2, B (dwf B s t k).2 (dwf B s t k).1) = ((dwf B' s t k).2, B' (dwf B' s t k).2 (dwf B' s t k).1)
    rw [ih]
    exact congrArg _ (h k)
theorem DD_cg {σ τ τ' : mm_S} {a b : Nat} (h : τ' (21 + 1 + a) = τ (21 + 1 + a)) (hd : DD σ τ a b) : DD σ τ' a b := by
  obtain ⟨g, h1, h2⟩ := hd
  exact ⟨g, by rw [h]; exact h1, h2⟩

-- sums and counts
def su (f : Nat → Nat) : Nat → Nat
  | 0 => 0
  | n + 1 => su f n + f n
theorem su_cg {f g : Nat → Nat} : ∀ n, (∀ i, i < n → f i = g i) → su f n = su g n
  | 0, _ => rfl
  | n + 1, h => by
    show su f n + f n = su g n + g n
    rw [su_cg n (fun i hi => h i (by omega)), h n (by omega)]
theorem su_le {f g : Nat → Nat} : ∀ n, (∀ i, i < n → f i ≤ g i) → su f n ≤ su g n
  | 0, _ => Nat.le_refl _
  | n + 1, h => by
    have h1 := su_le n (fun i hi => h i (by omega))
    have h2 := h n (by omega)
    show su f n + f n ≤ su g n + g n
    omega
theorem su_add {f g : Nat → Nat} : ∀ n, su (fun i => f i + g i) n = su f n + su g n
  | 0 => rfl
  | n + 1 => by
    show su (fun i => f i + g i) n + (f n + g n) = (su f n + f n) + (su g n + g n)
    rw [su_add n]; omega
theorem su_mul {f : Nat → Nat} {c : Nat} : ∀ n, su (fun i => c * f i) n = c * su f n
  | 0 => rfl
  | n + 1 => by
    show su (fun i => c * f i) n + c * f n = c * (su f n + f n)
    rw [su_mul n, Nat.mul_add]
theorem su_z {f : Nat → Nat} (n : Nat) (h : ∀ i, i < n → f i = 0) : su f n = 0 := by
  induction n with
  | zero => rfl
  | succ n ih =>
    show su f n + f n = 0
    rw [ih (fun i hi => h i (by omega)), h n (by omega)]
theorem su_sw {h : Nat → Nat → Nat} (k : Nat) : ∀ n, su (fun i => su (fun j => h i j) k) n = su (fun j => su (fun i => h i j) n) k
  | 0 => (su_z k (fun _ _ => rfl)).symm
  | n + 1 => by
    show su (fun i => su (fun j => h i j) k) n + su (fun j => h n j) k = su (fun j => su (fun i => h i j) n + h n j) k
    rw [su_sw k n, su_add]
theorem su_1 {f : Nat → Nat} {i : Nat} : ∀ n, i < n → (∀ j, j < n → j ≠ i → f j = 0) → su f n = f i
  | 0, h, _ => absurd h (Nat.not_lt_zero i)
  | n + 1, h, k => by
    show su f n + f n = f i
    by_cases e : i = n
    · subst e
      rw [su_z i (fun j hj => k j (by omega) (by omega))]; omega
    · rw [su_1 n (by omega) (fun j hj nj => k j (by omega) nj), k n (by omega) (fun z => e z.symm)]; rfl
theorem su_ge {f : Nat → Nat} {i : Nat} : ∀ n, i < n → f i ≤ su f n
  | 0, h => absurd h (Nat.not_lt_zero i)
  | n + 1, h => by
    show f i ≤ su f n + f n
    by_cases e : i = n
    · subst e; omega
    · have := su_ge (f := f) n (show i < n by omega); omega
theorem su_eq {f g : Nat → Nat} : ∀ n, (∀ i, i < n → f i ≤ g i) → su g n ≤ su f n → ∀ i, i < n → f i = g i
  | 0, _, _, i, hi => absurd hi (Nat.not_lt_zero i)
  | n + 1, h, k, i, hi => by
    have h1 := su_le n (fun i hi => h i (by omega))
    have h2 := h n (by omega)
    have k' : su g n + g n ≤ su f n + f n := k
    by_cases e : i = n
    · subst e; omega
    · exact su_eq n (fun i hi => h i (by omega)) (by omega) i (by omega)
/-- one if it holds -/
noncomputable def ic (P : Prop) : Nat := if bo P = true then 1 else 0
theorem ic_t {P : Prop} (h : P) : ic P = 1 := by unfold ic; rw [if_pos (bo_t.mpr h)]
theorem ic_f {P : Prop} (h : ¬ P) : ic P = 0 := by unfold ic; rw [if_neg (fun z => h (bo_t.mp z))]
theorem ic_cg {P Q : Prop} (h : P ↔ Q) : ic P = ic Q := by rw [propext h]
theorem ic_le {P Q : Prop} (h : P → Q) : ic P ≤ ic Q := by
  by_cases p : P
  · rw [ic_t p, ic_t (h p)]; exact Nat.le_refl _
  · rw [ic_f p]; exact Nat.zero_le _
theorem ic_1 {P : Prop} : ic P ≤ 1 := by
  by_cases p : P
  · rw [ic_t p]; exact Nat.le_refl _
  · rw [ic_f p]; exact Nat.zero_le _
theorem ic_sp {P Q : Prop} : ic P = ic (P ∧ Q) + ic (P ∧ ¬ Q) := by
  by_cases p : P
  · by_cases q : Q
    · rw [ic_t p, ic_t ⟨p, q⟩, ic_f (fun z => z.2 q)]
    · rw [ic_t p, ic_f (fun z => q z.2), ic_t ⟨p, q⟩]
  · rw [ic_f p, ic_f (fun z => p z.1), ic_f (fun z => p z.1)]
noncomputable def ct (P : Nat → Prop) (n : Nat) : Nat := su (fun i => ic (P i)) n
theorem ct_cg {P Q : Nat → Prop} (n : Nat) (h : ∀ i, i < n → (P i ↔ Q i)) : ct P n = ct Q n := su_cg n (fun i hi => ic_cg (h i hi))
theorem ct_le {P Q : Nat → Prop} (n : Nat) (h : ∀ i, i < n → P i → Q i) : ct P n ≤ ct Q n := su_le n (fun i hi => ic_le (h i hi))
theorem ct_sp {P : Nat → Prop} (Q : Nat → Prop) (n : Nat) : ct P n = ct (fun i => P i ∧ Q i) n + ct (fun i => P i ∧ ¬ Q i) n := by
  unfold ct
  rw [← su_add]
  exact su_cg n (fun i _ => ic_sp)
theorem ct_z {P : Nat → Prop} (n : Nat) (h : ∀ i, i < n → ¬ P i) : ct P n = 0 := su_z n (fun i hi => ic_f (h i hi))
theorem ct_u {P : Nat → Prop} {i : Nat} (n : Nat) (hi : i < n) (h : P i) (u : ∀ j, j < n → P j → j = i) : ct P n = 1 := by
  unfold ct
  rw [su_1 (i := i) n hi (fun j hj nj => ic_f (fun z => nj (u j hj z))), ic_t h]
theorem ct_pos {P : Nat → Prop} : ∀ n, 0 < ct P n → ∃ i, i < n ∧ P i := fun n h => by
  rcases Classical.em (∃ i, i < n ∧ P i) with y | y
  · exact y
  · rw [ct_z n (fun i hi z => y ⟨i, hi, z⟩)] at h; exact absurd h (Nat.lt_irrefl 0)
theorem ct_ge {P : Nat → Prop} {i : Nat} (n : Nat) (hi : i < n) (h : P i) : 1 ≤ ct P n := by
  have := su_ge (f := fun i => ic (P i)) n hi
  have e : ic (P i) = 1 := ic_t h
  show 1 ≤ su (fun i => ic (P i)) n
  omega
theorem ct_n {P : Nat → Prop} (n : Nat) : ct P n ≤ n := by
  induction n with
  | zero => exact Nat.le_refl _
  | succ n ih =>
    have := ic_1 (P := P n)
    show ct P n + ic (P n) ≤ n + 1
    omega
/-- one more -/
theorem ct_ins {P : Nat → Prop} {i : Nat} (n : Nat) (hi : i < n) (h : P i) : ct P n = ct (fun j => P j ∧ j ≠ i) n + 1 := by
  rw [ct_sp (fun j => j ≠ i) n, ct_u (P := fun j => P j ∧ ¬ j ≠ i) (i := i) n hi ⟨h, fun z => z rfl⟩ (fun j _ z => Classical.not_not.mp z.2)]
theorem ct_q {P : Nat → Prop} {a b c e n : Nat} (ha : a < n) (hb : b < n) (hc : c < n) (he : e < n) (pa : P a) (pb : P b) (pc : P c) (pe : P e) (n1 : a ≠ b) (n2 : a ≠ c) (n3 : a ≠ e) (n4 : b ≠ c) (n5 : b ≠ e) (n6 : c ≠ e) : 4 ≤ ct P n := by
  rw [ct_ins n ha pa, ct_ins (P := fun j => P j ∧ j ≠ a) n hb ⟨pb, fun z => n1 z.symm⟩, ct_ins (P := fun j => (P j ∧ j ≠ a) ∧ j ≠ b) n hc ⟨⟨pc, fun z => n2 z.symm⟩, fun z => n4 z.symm⟩, ct_ins (P := fun j => ((P j ∧ j ≠ a) ∧ j ≠ b) ∧ j ≠ c) n he ⟨⟨⟨pe, fun z => n3 z.symm⟩, fun z => n5 z.symm⟩, fun z => n6 z.symm⟩]
  omega
theorem ct_t {P : Nat → Prop} {a b c n : Nat} (ha : a < n) (hb : b < n) (hc : c < n) (n1 : a ≠ b) (n2 : a ≠ c) (n4 : b ≠ c) (h : ∀ j, j < n → (P j ↔ j = a ∨ j = b ∨ j = c)) : ct P n = 3 := by
  rw [ct_ins n ha ((h a ha).mpr (Or.inl rfl)), ct_ins (P := fun j => P j ∧ j ≠ a) n hb ⟨(h b hb).mpr (Or.inr (Or.inl rfl)), fun z => n1 z.symm⟩, ct_ins (P := fun j => (P j ∧ j ≠ a) ∧ j ≠ b) n hc ⟨⟨(h c hc).mpr (Or.inr (Or.inr rfl)), fun z => n2 z.symm⟩, fun z => n4 z.symm⟩, ct_z n]
  rintro j hj ⟨⟨⟨h1, h2⟩, h3⟩, h4⟩
  rcases (h j hj).mp h1 with q | q | q
  · exact h2 q
  · exact h3 q
  · exact h4 q
/-- the same things in another order -/
theorem ct_re {P Q : Nat → Prop} {F : Nat → Nat} (n k : Nat) (h1 : ∀ i, i < n → P i → F i < k ∧ Q (F i)) (inj : ∀ i j, i < n → j < n → P i → P j → F i = F j → i = j) (sur : ∀ l, l < k → Q l → ∃ i, i < n ∧ P i ∧ F i = l) : ct P n = ct Q k := by
  have e1 : ct P n = su (fun i => su (fun l => ic (P i ∧ Q l ∧ F i = l)) k) n := su_cg n (fun i hi => by
    by_cases p : P i
    · obtain ⟨h2, h3⟩ := h1 i hi p
      rw [su_1 (i := F i) k h2 (fun j _ nj => ic_f (fun z => nj z.2.2.symm)), ic_t p, ic_t ⟨p, h3, rfl⟩]
    · rw [ic_f p, su_z k (fun l _ => ic_f (fun z => p z.1))])
  have e2 : ct Q k = su (fun l => su (fun i => ic (P i ∧ Q l ∧ F i = l)) n) k := su_cg k (fun l hl => by
    by_cases p : Q l
    · obtain ⟨i, hi, pi, e⟩ := sur l hl p
      rw [su_1 (i := i) n hi (fun j hj nj => ic_f (fun z => nj (inj j i hj hi z.1 pi (z.2.2.trans e.symm)))), ic_t p, ic_t ⟨pi, p, e⟩]
    · rw [ic_f p, su_z n (fun l _ => ic_f (fun z => p z.2.1))])
  rw [e1, e2, su_sw]

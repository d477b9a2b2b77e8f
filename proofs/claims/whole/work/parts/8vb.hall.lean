-- Hall: each face takes one of its three rooms, no room more often than it may
def inZ (A B C : Nat → Nat) (Z : Nat → Prop) (g : Nat) : Prop := Z (A g) ∧ Z (B g) ∧ Z (C g)
noncomputable def sz (Z : Nat → Prop) (c : Nat → Nat) : Nat := su (fun r => ic (Z r) * c r) 9
theorem sz_ui {Z Y : Nat → Prop} {c : Nat → Nat} : sz (fun r => Z r ∨ Y r) c + sz (fun r => Z r ∧ Y r) c = sz Z c + sz Y c := by
  unfold sz
  rw [← su_add, ← su_add]
  refine su_cg 9 (fun r _ => ?_)
  by_cases z : Z r
  · by_cases y : Y r
    · rw [ic_t (Or.inl z), ic_t ⟨z, y⟩, ic_t z, ic_t y]
    · rw [ic_t (Or.inl z), ic_f (fun q => y q.2), ic_t z, ic_f y]
  · by_cases y : Y r
    · rw [ic_t (Or.inr y), ic_f (fun q => z q.1), ic_f z, ic_t y]; omega
    · rw [ic_f (fun q => q.elim z y), ic_f (fun q => z q.1), ic_f z, ic_f y]
theorem ct_ui {A B C : Nat → Nat} {Z Y : Nat → Prop} {k : Nat} : ct (inZ A B C Z) k + ct (inZ A B C Y) k ≤ ct (inZ A B C (fun r => Z r ∨ Y r)) k + ct (inZ A B C (fun r => Z r ∧ Y r)) k := by
  unfold ct
  rw [← su_add, ← su_add]
  refine su_le k (fun g _ => ?_)
  by_cases z : inZ A B C Z g
  · by_cases y : inZ A B C Y g
    · rw [ic_t (show inZ A B C (fun r => Z r ∨ Y r) g from ⟨Or.inl z.1, Or.inl z.2.1, Or.inl z.2.2⟩), ic_t (show inZ A B C (fun r => Z r ∧ Y r) g from ⟨⟨z.1, y.1⟩, ⟨z.2.1, y.2.1⟩, ⟨z.2.2, y.2.2⟩⟩), ic_t z, ic_t y]; omega
    · rw [ic_t (show inZ A B C (fun r => Z r ∨ Y r) g from ⟨Or.inl z.1, Or.inl z.2.1, Or.inl z.2.2⟩), ic_t z, ic_f y]; omega
  · by_cases y : inZ A B C Y g
    · rw [ic_t (show inZ A B C (fun r => Z r ∨ Y r) g from ⟨Or.inr y.1, Or.inr y.2.1, Or.inr y.2.2⟩), ic_f z, ic_t y]; omega
    · rw [ic_f z, ic_f y]; omega
theorem hall {A B C : Nat → Nat} : ∀ (k : Nat) (cap : Nat → Nat), (∀ g, g < k → A g < 9 ∧ B g < 9 ∧ C g < 9) → (∀ Z, ct (inZ A B C Z) k ≤ sz Z cap) → ∃ st : Nat → Nat, (∀ g, g < k → st g = A g ∨ st g = B g ∨ st g = C g) ∧ ∀ r, r < 9 → ct (fun g => st g = r) k ≤ cap r := by
  intro k
  induction k with
  | zero => exact fun cap _ _ => ⟨fun _ => 0, fun g hg => absurd hg (Nat.not_lt_zero g), fun r _ => Nat.zero_le _⟩
  | succ k ih =>
    intro cap hr H
    have up : ∀ Z, ct (inZ A B C Z) (k + 1) = ct (inZ A B C Z) k + ic (inZ A B C Z k) := fun Z => rfl
    have Hk : ∀ Z, ct (inZ A B C Z) k ≤ sz Z cap := fun Z => by have := H Z; rw [up] at this; omega
    rcases Classical.em (∃ st : Nat → Nat, (∀ g, g < k + 1 → st g = A g ∨ st g = B g ∨ st g = C g) ∧ ∀ r, r < 9 → ct (fun g => st g = r) (k + 1) ≤ cap r) with y | no
    · exact y
    exfalso
    have tight : ∀ r, r < 9 → (r = A k ∨ r = B k ∨ r = C k) → ∃ Z : Nat → Prop, Z r ∧ sz Z cap ≤ ct (inZ A B C Z) k := fun r r9 hk => by
      rcases Nat.eq_zero_or_pos (cap r) with c0 | c0
      · refine ⟨fun x => x = r, rfl, ?_⟩
        have : sz (fun x => x = r) cap = 0 := su_z 9 (fun i _ => by
          show ic (i = r) * cap i = 0
          by_cases e : i = r
          · rw [e, c0, Nat.mul_zero]
          · rw [ic_f e, Nat.zero_mul])
        rw [this]; exact Nat.zero_le _
      · rcases Classical.em (∀ Z, ct (inZ A B C Z) k ≤ sz Z (fun x => cap x - ic (x = r))) with y | y
        · exfalso
          obtain ⟨st, s1, s2⟩ := ih _ (fun g hg => hr g (by omega)) y
          refine no ⟨fun g => if g = k then r else st g, fun g hg => ?_, fun x hx => ?_⟩
          · by_cases e : g = k
            · subst e; simp only [if_pos]; exact hk
            · simp only [if_neg e]; exact s1 g (by omega)
          · have e1 : ct (fun g => (if g = k then r else st g) = x) (k + 1) = ct (fun g => st g = x) k + ic (r = x) := by
              show ct (fun g => (if g = k then r else st g) = x) k + ic ((if k = k then r else st k) = x) = _
              rw [if_pos rfl, ct_cg k (fun g hg => by rw [if_neg (by omega)])]
            rw [e1]
            have h2 := s2 x hx
            by_cases e : r = x
            · subst e
              rw [ic_t rfl] at h2 ⊢
              omega
            · rw [ic_f e]
              rw [ic_f (fun z => e z.symm)] at h2
              omega
        · obtain ⟨Z, hZ⟩ : ∃ Z, ¬ ct (inZ A B C Z) k ≤ sz Z (fun x => cap x - ic (x = r)) := by
            rcases Classical.em (∃ Z, ¬ ct (inZ A B C Z) k ≤ sz Z (fun x => cap x - ic (x = r))) with z | z
            · exact z
            · exact absurd (fun Z => Classical.not_not.mp (fun q => z ⟨Z, q⟩)) y
          have hk' := Hk Z
          by_cases zr : Z r
          · refine ⟨Z, zr, ?_⟩
            have : sz Z cap = sz Z (fun x => cap x - ic (x = r)) + 1 := by
              have e1 : sz Z cap = su (fun x => ic (Z x) * (cap x - ic (x = r)) + ic (x = r)) 9 := su_cg 9 (fun x _ => by
                show ic (Z x) * cap x = _
                by_cases e : x = r
                · subst e; rw [ic_t zr, ic_t rfl]; omega
                · rw [ic_f e, Nat.sub_zero, Nat.add_zero])
              rw [e1, su_add, su_1 (f := fun x => ic (x = r)) (i := r) 9 r9 (fun j _ nj => ic_f nj), ic_t rfl]; rfl
            omega
          · exfalso
            have : sz Z cap = sz Z (fun x => cap x - ic (x = r)) := su_cg 9 (fun x _ => by
              show ic (Z x) * cap x = ic (Z x) * (cap x - ic (x = r))
              by_cases e : x = r
              · subst e; rw [ic_f zr, Nat.zero_mul, Nat.zero_mul]
              · rw [ic_f e]; rfl)
            omega
    have un : ∀ Z Y : Nat → Prop, sz Z cap ≤ ct (inZ A B C Z) k → sz Y cap ≤ ct (inZ A B C Y) k → sz (fun r => Z r ∨ Y r) cap ≤ ct (inZ A B C (fun r => Z r ∨ Y r)) k := fun Z Y hZ hY => by
      have h1 := sz_ui (Z := Z) (Y := Y) (c := cap)
      have h2 := ct_ui (A := A) (B := B) (C := C) (Z := Z) (Y := Y) (k := k)
      have h3 := Hk (fun r => Z r ∧ Y r)
      omega
    obtain ⟨a9, b9, c9⟩ := hr k (by omega)
    obtain ⟨Z1, z1, t1⟩ := tight (A k) a9 (Or.inl rfl)
    obtain ⟨Z2, z2, t2⟩ := tight (B k) b9 (Or.inr (Or.inl rfl))
    obtain ⟨Z3, z3, t3⟩ := tight (C k) c9 (Or.inr (Or.inr rfl))
    have t := un _ _ (un _ _ t1 t2) t3
    have h := H (fun r => (Z1 r ∨ Z2 r) ∨ Z3 r)
    rw [up, ic_t (show inZ A B C (fun r => (Z1 r ∨ Z2 r) ∨ Z3 r) k from ⟨Or.inl (Or.inl z1), Or.inl (Or.inr z2), Or.inr z3⟩)] at h
    omega

section
-- sums and counts
def su (f : Nat → Nat) : Nat → Nat
  | 0 => 0
  | n + 1 => su f n + f n
theorem su_cg {f g : Nat → Nat} : ∀ n, (∀ i, i < n → f i = g i) → su f n = su g n
  | 0, _ => rfl
  | n + 1, h => by
    show su f n + f n = su g n + g n
    rw [su_cg n (fun i hi => h i (by omega)), h n (by omega)]
theorem su_le {f g : Nat → Nat} : ∀ n, (∀ i, i < n → f i ≤ g i) → su f n ≤ su g n
  | 0, _ => Nat.le_refl _
  | n + 1, h => by
    have h1 := su_le n (fun i hi => h i (by omega))
    have h2 := h n (by omega)
    show su f n + f n ≤ su g n + g n
    omega
theorem su_add {f g : Nat → Nat} : ∀ n, su (fun i => f i + g i) n = su f n + su g n
  | 0 => rfl
  | n + 1 => by
    show su (fun i => f i + g i) n + (f n + g n) = (su f n + f n) + (su g n + g n)
    rw [su_add n]; omega
theorem su_mul {f : Nat → Nat} {c : Nat} : ∀ n, su (fun i => c * f i) n = c * su f n
  | 0 => rfl
  | n + 1 => by
    show su (fun i => c * f i) n + c * f n = c * (su f n + f n)
    rw [su_mul n, Nat.mul_add]
theorem su_z {f : Nat → Nat} (n : Nat) (h : ∀ i, i < n → f i = 0) : su f n = 0 := by
  induction n with
  | zero => rfl
  | succ n ih =>
    show su f n + f n = 0
    rw [ih (fun i hi => h i (by omega)), h n (by omega)]
theorem su_sw {h : Nat → Nat → Nat} (k : Nat) : ∀ n, su (fun i => su (fun j => h i j) k) n = su (fun j => su (fun i => h i j) n) k
  | 0 => (su_z k (fun _ _ => rfl)).symm
  | n + 1 => by
    show su (fun i => su (fun j => h i j) k) n + su (fun j => h n j) k = su (fun j => su (fun i => h i j) n + h n j) k
    rw [su_sw k n, su_add]
theorem su_1 {f : Nat → Nat} {i : Nat} : ∀ n, i < n → (∀ j, j < n → j ≠ i → f j = 0) → su f n = f i
  | 0, h, _ => absurd h (Nat.not_lt_zero i)
  | n + 1, h, k => by
    show su f n + f n = f i
    by_cases e : i = n
    · subst e
      rw [su_z i (fun j hj => k j (by omega) (by omega))]; omega
    · rw [su_1 n (by omega) (fun j hj nj => k j (by omega) nj), k n (by omega) (fun z => e z.symm)]; rfl
theorem su_ge {f : Nat → Nat} {i : Nat} : ∀ n, i < n → f i ≤ su f n
  | 0, h => absurd h (Nat.not_lt_zero i)
  | n + 1, h => by
    show f i ≤ su f n + f n
    by_cases e : i = n
    · subst e; omega
    · have := su_ge (f := f) n (show i < n by omega); omega
theorem su_eq {f g : Nat → Nat} : ∀ n, (∀ i, i < n → f i ≤ g i) → su g n ≤ su f n → ∀ i, i < n → f i = g i
  | 0, _, _, i, hi => absurd hi (Nat.not_lt_zero i)
  | n + 1, h, k, i, hi => by
    have h1 := su_le n (fun i hi => h i (by omega))
    have h2 := h n (by omega)
    have k' : su g n + g n ≤ su f n + f n := k
    by_cases e : i = n
    · subst e; omega
    · exact su_eq n (fun i hi => h i (by omega)) (by omega) i (by omega)
/-- one if it holds -/
noncomputable def ic (P : Prop) : Nat := if bo P = true then 1 else 0
theorem ic_t {P : Prop} (h : P) : ic P = 1 := by unfold ic; rw [if_pos (bo_t.mpr h)]
theorem ic_f {P : Prop} (h : ¬ P) : ic P = 0 := by unfold ic; rw [if_neg (fun z => h (bo_t.mp z))]
theorem ic_cg {P Q : Prop} (h : P ↔ Q) : ic P = ic Q := by rw [propext h]
theorem ic_le {P Q : Prop} (h : P → Q) : ic P ≤ ic Q := by
  by_cases p : P
  · rw [ic_t p, ic_t (h p)]; exact Nat.le_refl _
  · rw [ic_f p]; exact Nat.zero_le _
theorem ic_1 {P : Prop} : ic P ≤ 1 := by
  by_cases p : P
  · rw [ic_t p]; exact Nat.le_refl _
  · rw [ic_f p]; exact Nat.zero_le _
theorem ic_sp {P Q : Prop} : ic P = ic (P ∧ Q) + ic (P ∧ ¬ Q) := by
  by_cases p : P
  · by_cases q : Q
    · rw [ic_t p, ic_t ⟨p, q⟩, ic_f (fun z => z.2 q)]
    · rw [ic_t p, ic_f (fun z => q z.2), ic_t ⟨p, q⟩]
  · rw [ic_f p, ic_f (fun z => p z.1), ic_f (fun z => p z.1)]
noncomputable def ct (P : Nat → Prop) (n : Nat) : Nat := su (fun i => ic (P i)) n
theorem ct_cg {P Q : Nat → Prop} (n : Nat) (h : ∀ i, i < n → (P i ↔ Q i)) : ct P n = ct Q n := su_cg n (fun i hi => ic_cg (h i hi))
theorem ct_le {P Q : Nat → Prop} (n : Nat) (h : ∀ i, i < n → P i → Q i) : ct P n ≤ ct Q n := su_le n (fun i hi => ic_le (h i hi))
theorem ct_sp {P : Nat → Prop} (Q : Nat → Prop) (n : Nat) : ct P n = ct (fun i => P i ∧ Q i) n + ct (fun i => P i ∧ ¬ Q i) n := by
  unfold ct
  rw [← su_add]
  exact su_cg n (fun i _ => ic_sp)
theorem ct_z {P : Nat → Prop} (n : Nat) (h : ∀ i, i < n → ¬ P i) : ct P n = 0 := su_z n (fun i hi => ic_f (h i hi))
theorem ct_u {P : Nat → Prop} {i : Nat} (n : Nat) (hi : i < n) (h : P i) (u : ∀ j, j < n → P j → j = i) : ct P n = 1 := by
  unfold ct
  rw [su_1 (i := i) n hi (fun j hj nj => ic_f (fun z => nj (u j hj z))), ic_t h]
theorem ct_pos {P : Nat → Prop} : ∀ n, 0 < ct P n → ∃ i, i < n ∧ P i := fun n h => by
  rcases Classical.em (∃ i, i < n ∧ P i) with y | y
  · exact y
  · rw [ct_z n (fun i hi z => y ⟨i, hi, z⟩)] at h; exact absurd h (Nat.lt_irrefl 0)
theorem ct_ge {P : Nat → Prop} {i : Nat} (n : Nat) (hi : i < n) (h : P i) : 1 ≤ ct P n := by
  have := su_ge (f := fun i => ic (P i)) n hi
  have e : ic (P i) = 1 := ic_t h
  show 1 ≤ su (fun i => ic (P i)) n
  omega
theorem ct_n {P : Nat → Prop} (n : Nat) : ct P n ≤ n := by
  induction n with
  | zero => exact Nat.le_refl _
  | succ n ih =>
    have := ic_1 (P := P n)
    show ct P n + ic (P n) ≤ n + 1
    omega
/-- one more -/
theorem ct_ins {P : Nat → Prop} {i : Nat} (n : Nat) (hi : i < n) (h : P i) : ct P n = ct (fun j => P j ∧ j ≠ i) n + 1 := by
  rw [ct_sp (fun j => j ≠ i) n, ct_u (P := fun j => P j ∧ ¬ j ≠ i) (i := i) n hi ⟨h, fun z => z rfl⟩ (fun j _ z => Classical.not_not.mp z.2)]
theorem ct_q {P : Nat → Prop} {a b c e n : Nat} (ha : a < n) (hb : b < n) (hc : c < n) (he : e < n) (pa : P a) (pb : P b) (pc : P c) (pe : P e) (n1 : a ≠ b) (n2 : a ≠ c) (n3 : a ≠ e) (n4 : b ≠ c) (n5 : b ≠ e) (n6 : c ≠ e) : 4 ≤ ct P n := by
  rw [ct_ins n ha pa, ct_ins (P := fun j => P j ∧ j ≠ a) n hb ⟨pb, fun z => n1 z.symm⟩, ct_ins (P := fun j => (P j ∧ j ≠ a) ∧ j ≠ b) n hc ⟨⟨pc, fun z => n2 z.symm⟩, fun z => n4 z.symm⟩, ct_ins (P := fun j => ((P j ∧ j ≠ a) ∧ j ≠ b) ∧ j ≠ c) n he ⟨⟨⟨pe, fun z => n3 z.symm⟩, fun z => n5 z.symm⟩, fun z => n6 z.symm⟩]
  omega
theorem ct_t {P : Nat → Prop} {a b c n : Nat} (ha : a < n) (hb : b < n) (hc : c < n) (n1 : a ≠ b) (n2 : a ≠ c) (n4 : b ≠ c) (h : ∀ j, j < n → (P j ↔ j = a ∨ j = b ∨ j = c)) : ct P n = 3 := by
  rw [ct_ins n ha ((h a ha).mpr (Or.inl rfl)), ct_ins (P := fun j => P j ∧ j ≠ a) n hb ⟨(h b hb).mpr (Or.inr (Or.inl rfl)), fun z => n1 z.symm⟩, ct_ins (P := fun j => (P j ∧ j ≠ a) ∧ j ≠ b) n hc ⟨⟨(h c hc).mpr (Or.inr (Or.inr rfl)), fun z => n2 z.symm⟩, fun z => n4 z.symm⟩, ct_z n]
  rintro j hj ⟨⟨⟨h1, h2⟩, h3⟩, h4⟩
  rcases (h j hj).mp h1 with q | q | q
  · exact h2 q
  · exact h3 q
  · exact h4 q
/-- the same things in another order -/
theorem ct_re {P Q : Nat → Prop} {F : Nat → Nat} (n k : Nat) (h1 : ∀ i, i < n → P i → F i < k ∧ Q (F i)) (inj : ∀ i j, i < n → j < n → P i → P j → F i = F j → i = j) (sur : ∀ l, l < k → Q l → ∃ i, i < n ∧ P i ∧ F i = l) : ct P n = ct Q k := by
  have e1 : ct P n = su (fun i => su (fun l => ic (P i ∧ Q l ∧ F i = l)) k) n := su_cg n (fun i hi => by
    by_cases p : P i
    · obtain ⟨h2, h3⟩ := h1 i hi p
      rw [su_1 (i := F i) k h2 (fun j _ nj => ic_f (fun z => nj z.2.2.symm)), ic_t p, ic_t ⟨p, h3, rfl⟩]
    · rw [ic_f p, su_z k (fun l _ => ic_f (fun z => p z.1))])
  have e2 : ct Q k = su (fun l => su (fun i => ic (P i ∧ Q l ∧ F i = l)) n) k := su_cg k (fun l hl => by
    by_cases p : Q l
    · obtain ⟨i, hi, pi, e⟩ := sur l hl p
      rw [su_1 (i := i) n hi (fun j hj nj => ic_f (fun z => nj (inj j i hj hi z.1 pi (z.2.2.trans e.symm)))), ic_t p, ic_t ⟨pi, p, e⟩]
    · rw [ic_f p, su_z n (fun l _ => ic_f (fun z => p z.2.1))])
  rw [e1, e2, su_sw]
end
section
-- Hall: each face takes one of its three rooms, no room more often than it may
def inZ (A B C : Nat → Nat) (Z : Nat → Prop) (g : Nat) : Prop := Z (A g) ∧ Z (B g) ∧ Z (C g)
noncomputable def sz (Z : Nat → Prop) (c : Nat → Nat) : Nat := su (fun r => ic (Z r) * c r) 9
theorem sz_ui {Z Y : Nat → Prop} {c : Nat → Nat} : sz (fun r => Z r ∨ Y r) c + sz (fun r => Z r ∧ Y r) c = sz Z c + sz Y c := by
  unfold sz
  rw [← su_add, ← su_add]
  refine su_cg 9 (fun r _ => ?_)
  by_cases z : Z r
  · by_cases y : Y r
    · rw [ic_t (Or.inl z), ic_t ⟨z, y⟩, ic_t z, ic_t y]
    · rw [ic_t (Or.inl z), ic_f (fun q => y q.2), ic_t z, ic_f y]
  · by_cases y : Y r
    · rw [ic_t (Or.inr y), ic_f (fun q => z q.1), ic_f z, ic_t y]; omega
    · rw [ic_f (fun q => q.elim z y), ic_f (fun q => z q.1), ic_f z, ic_f y]
theorem ct_ui {A B C : Nat → Nat} {Z Y : Nat → Prop} {k : Nat} : ct (inZ A B C Z) k + ct (inZ A B C Y) k ≤ ct (inZ A B C (fun r => Z r ∨ Y r)) k + ct (inZ A B C (fun r => Z r ∧ Y r)) k := by
  unfold ct
  rw [← su_add, ← su_add]
  refine su_le k (fun g _ => ?_)
  by_cases z : inZ A B C Z g
  · by_cases y : inZ A B C Y g
    · rw [ic_t (show inZ A B C (fun r => Z r ∨ Y r) g from ⟨Or.inl z.1, Or.inl z.2.1, Or.inl z.2.2⟩), ic_t (show inZ A B C (fun r => Z r ∧ Y r) g from ⟨⟨z.1, y.1⟩, ⟨z.2.1, y.2.1⟩, ⟨z.2.2, y.2.2⟩⟩), ic_t z, ic_t y]; omega
    · rw [ic_t (show inZ A B C (fun r => Z r ∨ Y r) g from ⟨Or.inl z.1, Or.inl z.2.1, Or.inl z.2.2⟩), ic_t z, ic_f y]; omega
  · by_cases y : inZ A B C Y g
    · rw [ic_t (show inZ A B C (fun r => Z r ∨ Y r) g from ⟨Or.inr y.1, Or.inr y.2.1, Or.inr y.2.2⟩), ic_f z, ic_t y]; omega
    · rw [ic_f z, ic_f y]; omega
theorem hall {A B C : Nat → Nat} : ∀ (k : Nat) (cap : Nat → Nat), (∀ g, g < k → A g < 9 ∧ B g < 9 ∧ C g < 9) → (∀ Z, ct (inZ A B C Z) k ≤ sz Z cap) → ∃ st : Nat → Nat, (∀ g, g < k → st g = A g ∨ st g = B g ∨ st g = C g) ∧ ∀ r, r < 9 → ct (fun g => st g = r) k ≤ cap r := by
  intro k
  induction k with
  | zero => exact fun cap _ _ => ⟨fun _ => 0, fun g hg => absurd hg (Nat.not_lt_zero g), fun r _ => Nat.zero_le _⟩
  | succ k ih =>
    intro cap hr H
    have up : ∀ Z, ct (inZ A B C Z) (k + 1) = ct (inZ A B C Z) k + ic (inZ A B C Z k) := fun Z => rfl
    have Hk : ∀ Z, ct (inZ A B C Z) k ≤ sz Z cap := fun Z => by have := H Z; rw [up] at this; omega
    rcases Classical.em (∃ st : Nat → Nat, (∀ g, g < k + 1 → st g = A g ∨ st g = B g ∨ st g = C g) ∧ ∀ r, r < 9 → ct (fun g => st g = r) (k + 1) ≤ cap r) with y | no
    · exact y
    exfalso
    have tight : ∀ r, r < 9 → (r = A k ∨ r = B k ∨ r = C k) → ∃ Z : Nat → Prop, Z r ∧ sz Z cap ≤ ct (inZ A B C Z) k := fun r r9 hk => by
      rcases Nat.eq_zero_or_pos (cap r) with c0 | c0
      · refine ⟨fun x => x = r, rfl, ?_⟩
        have : sz (fun x => x = r) cap = 0 := su_z 9 (fun i _ => by
          show ic (i = r) * cap i = 0
          by_cases e : i = r
          · rw [e, c0, Nat.mul_zero]
          · rw [ic_f e, Nat.zero_mul])
        rw [this]; exact Nat.zero_le _
      · rcases Classical.em (∀ Z, ct (inZ A B C Z) k ≤ sz Z (fun x => cap x - ic (x = r))) with y | y
        · exfalso
          obtain ⟨st, s1, s2⟩ := ih _ (fun g hg => hr g (by omega)) y
          refine no ⟨fun g => if g = k then r else st g, fun g hg => ?_, fun x hx => ?_⟩
          · by_cases e : g = k
            · subst e; simp only [if_pos]; exact hk
            · simp only [if_neg e]; exact s1 g (by omega)
          · have e1 : ct (fun g => (if g = k then r else st g) = x) (k + 1) = ct (fun g => st g = x) k + ic (r = x) := by
              show ct (fun g => (if g = k then r else st g) = x) k + ic ((if k = k then r else st k) = x) = _
              rw [if_pos rfl, ct_cg k (fun g hg => by rw [if_neg (by omega)])]
            rw [e1]
            have h2 := s2 x hx
            by_cases e : r = x
            · subst e
              rw [ic_t rfl] at h2 ⊢
              omega
            · rw [ic_f e]
              rw [ic_f (fun z => e z.symm)] at h2
              omega
        · obtain ⟨Z, hZ⟩ : ∃ Z, ¬ ct (inZ A B C Z) k ≤ sz Z (fun x => cap x - ic (x = r)) := by
            rcases Classical.em (∃ Z, ¬ ct (inZ A B C Z) k ≤ sz Z (fun x => cap x - ic (x = r))) with z | z
            · exact z
            · exact absurd (fun Z => Classical.not_not.mp (fun q => z ⟨Z, q⟩)) y
          have hk' := Hk Z
          by_cases zr : Z r
          · refine ⟨Z, zr, ?_⟩
            have : sz Z cap = sz Z (fun x => cap x - ic (x = r)) + 1 := by
              have e1 : sz Z cap = su (fun x => ic (Z x) * (cap x - ic (x = r)) + ic (x = r)) 9 := su_cg 9 (fun x _ => by
                show ic (Z x) * cap x = _
                by_cases e : x = r
                · subst e; rw [ic_t zr, ic_t rfl]; omega
                · rw [ic_f e, Nat.sub_zero, Nat.add_zero])
              rw [e1, su_add, su_1 (f := fun x => ic (x = r)) (i := r) 9 r9 (fun j _ nj => ic_f nj), ic_t rfl]; rfl
            omega
          · exfalso
            have : sz Z cap = sz Z (fun x => cap x - ic (x = r)) := su_cg 9 (fun x _ => by
              show ic (Z x) * cap x = ic (Z x) * (cap x - ic (x = r))
              by_cases e : x = r
              · subst e; rw [ic_f zr, Nat.zero_mul, Nat.zero_mul]
              · rw [ic_f e]; rfl)
            omega
    have un : ∀ Z Y : Nat → Prop, sz Z cap ≤ ct (inZ A B C Z) k → sz Y cap ≤ ct (inZ A B C Y) k → sz (fun r => Z r ∨ Y r) cap ≤ ct (inZ A B C (fun r => Z r ∨ Y r)) k := fun Z Y hZ hY => by
      have h1 := sz_ui (Z := Z) (Y := Y) (c := cap)
      have h2 := ct_ui (A := A) (B := B) (C := C) (Z := Z) (Y := Y) (k := k)
      have h3 := Hk (fun r => Z r ∧ Y r)
      omega
    obtain ⟨a9, b9, c9⟩ := hr k (by omega)
    obtain ⟨Z1, z1, t1⟩ := tight (A k) a9 (Or.inl rfl)
    obtain ⟨Z2, z2, t2⟩ := tight (B k) b9 (Or.inr (Or.inl rfl))
    obtain ⟨Z3, z3, t3⟩ := tight (C k) c9 (Or.inr (Or.inr rfl))
    have t := un _ _ (un _ _ t1 t2) t3
    have h := H (fun r => (Z1 r ∨ Z2 r) ∨ Z3 r)
    rw [up, ic_t (show inZ A B C (fun r => (Z1 r ∨ Z2 r) ∨ Z3 r) k from ⟨Or.inl (Or.inl z1), Or.inl (Or.inr z2), Or.inr z3⟩)] at h
    omega
end
section
-- the map of rooms and sides, abstractly
def GP (rm : Nat → Prop) (nr : Nat → Nat → Prop) (Bp : Nat → Nat → Nat) : Prop := (∀ r, rm r → r < 9) ∧ (∀ u v, nr u v → nr v u) ∧ (∀ u v, nr u v → u ≠ v ∧ (rm u ∨ (9 ≤ u ∧ u < 13))) ∧ (∀ s s', s < 4 → s' < 4 → (nr (9 + s) (9 + s') ↔ s' = (s + 1) % 4 ∨ s = (s' + 1) % 4)) ∧ (∀ u v, nr u v → nr u (Bp u v)) ∧ (∀ u v w, nr u v → nr u w → Bp u v = Bp u w → v = w) ∧ (∀ u (S : Nat → Prop), (∃ v, nr u v ∧ S v) → (∀ v, nr u v → S v → S (Bp u v)) → ∀ v, nr u v → S v) ∧ (∀ r u, rm r → nr r u → Bp (Bp r u) r = u ∧ Bp u (Bp r u) = r) ∧ (∀ r u w, rm r → nr r u → nr r w → nr u w → Bp r u = w ∨ Bp r w = u) ∧ (∀ S : Nat → Prop, S 9 → (∀ u v, S u → nr u v → S v) → ∀ r, rm r → S r) ∧ (∀ S : Nat → Prop, (∃ r, rm r ∧ S r) → (∀ r w, rm r → S r → rm w → nr r w → S w) → ∀ r, rm r → S r) ∧ (∀ r s s', rm r → s < 4 → s' < 4 → nr r (9 + s) → Bp r (9 + s) = 9 + s' → s' = (s + 1) % 4)
theorem GP.r9 {rm : Nat → Prop} {nr : Nat → Nat → Prop} {Bp : Nat → Nat → Nat} (h : GP rm nr Bp) : ∀ r, rm r → r < 9 := h.1
theorem GP.sy {rm : Nat → Prop} {nr : Nat → Nat → Prop} {Bp : Nat → Nat → Nat} (h : GP rm nr Bp) : ∀ u v, nr u v → nr v u := h.2.1
theorem GP.nd {rm : Nat → Prop} {nr : Nat → Nat → Prop} {Bp : Nat → Nat → Nat} (h : GP rm nr Bp) : ∀ u v, nr u v → u ≠ v ∧ (rm u ∨ (9 ≤ u ∧ u < 13)) := h.2.2.1
theorem GP.ss {rm : Nat → Prop} {nr : Nat → Nat → Prop} {Bp : Nat → Nat → Nat} (h : GP rm nr Bp) : ∀ s s', s < 4 → s' < 4 → (nr (9 + s) (9 + s') ↔ s' = (s + 1) % 4 ∨ s = (s' + 1) % 4) := h.2.2.2.1
theorem GP.nx {rm : Nat → Prop} {nr : Nat → Nat → Prop} {Bp : Nat → Nat → Nat} (h : GP rm nr Bp) : ∀ u v, nr u v → nr u (Bp u v) := h.2.2.2.2.1
theorem GP.ij {rm : Nat → Prop} {nr : Nat → Nat → Prop} {Bp : Nat → Nat → Nat} (h : GP rm nr Bp) : ∀ u v w, nr u v → nr u w → Bp u v = Bp u w → v = w := h.2.2.2.2.2.1
theorem GP.tv {rm : Nat → Prop} {nr : Nat → Nat → Prop} {Bp : Nat → Nat → Nat} (h : GP rm nr Bp) : ∀ u (S : Nat → Prop), (∃ v, nr u v ∧ S v) → (∀ v, nr u v → S v → S (Bp u v)) → ∀ v, nr u v → S v := h.2.2.2.2.2.2.1
theorem GP.tr {rm : Nat → Prop} {nr : Nat → Nat → Prop} {Bp : Nat → Nat → Nat} (h : GP rm nr Bp) : ∀ r u, rm r → nr r u → Bp (Bp r u) r = u ∧ Bp u (Bp r u) = r := h.2.2.2.2.2.2.2.1
theorem GP.nl {rm : Nat → Prop} {nr : Nat → Nat → Prop} {Bp : Nat → Nat → Nat} (h : GP rm nr Bp) : ∀ r u w, rm r → nr r u → nr r w → nr u w → Bp r u = w ∨ Bp r w = u := h.2.2.2.2.2.2.2.2.1
theorem GP.cn {rm : Nat → Prop} {nr : Nat → Nat → Prop} {Bp : Nat → Nat → Nat} (h : GP rm nr Bp) : ∀ S : Nat → Prop, S 9 → (∀ u v, S u → nr u v → S v) → ∀ r, rm r → S r := h.2.2.2.2.2.2.2.2.2.1
theorem GP.rc {rm : Nat → Prop} {nr : Nat → Nat → Prop} {Bp : Nat → Nat → Nat} (h : GP rm nr Bp) : ∀ S : Nat → Prop, (∃ r, rm r ∧ S r) → (∀ r w, rm r → S r → rm w → nr r w → S w) → ∀ r, rm r → S r := h.2.2.2.2.2.2.2.2.2.2.1
theorem GP.so {rm : Nat → Prop} {nr : Nat → Nat → Prop} {Bp : Nat → Nat → Nat} (h : GP rm nr Bp) : ∀ r s s', rm r → s < 4 → s' < 4 → nr r (9 + s) → Bp r (9 + s) = 9 + s' → s' = (s + 1) % 4 := h.2.2.2.2.2.2.2.2.2.2.2
section GPS
variable {rm : Nat → Prop} {nr : Nat → Nat → Prop} {Bp : Nat → Nat → Nat}
theorem GP.lt (G : GP rm nr Bp) {u v : Nat} (h : nr u v) : u < 13 ∧ v < 13 := by
  have h1 := (G.nd u v h).2
  have h2 := (G.nd v u (G.sy u v h)).2
  have a : u < 13 := h1.elim (fun z => by have := G.r9 u z; omega) (fun z => z.2)
  have b : v < 13 := h2.elim (fun z => by have := G.r9 v z; omega) (fun z => z.2)
  exact ⟨a, b⟩
theorem GP.ne (G : GP rm nr Bp) {r u : Nat} (hr : rm r) (h : nr r u) : Bp r u ≠ u := fun e => by
  have := (G.tr r u hr h).1
  rw [e] at this
  have h2 := G.nx u r (G.sy _ _ h)
  rw [this] at h2
  exact (G.nd u u h2).1 rfl
theorem GP.fc (G : GP rm nr Bp) {r u : Nat} (hr : rm r) (h : nr r u) : nr (Bp r u) u ∧ nr u (Bp r u) := by
  have h1 := G.nx r u h
  have h2 := G.nx (Bp r u) r (G.sy _ _ h1)
  rw [(G.tr r u hr h).1] at h2
  exact ⟨h2, G.sy _ _ h2⟩
/-- a side or a room -/
theorem GP.room (G : GP rm nr Bp) {u v : Nat} (h : nr u v) (h9 : u < 9) : rm u := (G.nd u v h).2.elim (fun z => z) (fun z => by omega)
theorem GP.nl3 (G : GP rm nr Bp) {u v w : Nat} (h1 : nr u v) (h2 : nr u w) (h3 : nr v w) : Bp u v = w ∨ Bp u w = v := by
  rcases (G.nd u v h1).2 with ru | su
  · exact G.nl u v w ru h1 h2 h3
  rcases (G.nd v w h3).2 with rv | sv
  · rcases G.nl v w u rv h3 (G.sy _ _ h1) (G.sy _ _ h2) with e | e
    · have := (G.tr v w rv h3).1
      rw [e] at this; exact Or.inl this
    · have := (G.tr v u rv (G.sy _ _ h1)).2
      rw [e] at this; exact Or.inr this
  rcases (G.nd w v (G.sy _ _ h3)).2 with rw' | sw
  · rcases G.nl w v u rw' (G.sy _ _ h3) (G.sy _ _ h2) (G.sy _ _ h1) with e | e
    · have := (G.tr w v rw' (G.sy _ _ h3)).1
      rw [e] at this; exact Or.inr this
    · have := (G.tr w u rw' (G.sy _ _ h2)).2
      rw [e] at this; exact Or.inl this
  exfalso
  have a1 := (G.ss (u - 9) (v - 9) (by omega) (by omega)).mp (by rw [show 9 + (u - 9) = u by omega, show 9 + (v - 9) = v by omega]; exact h1)
  have a2 := (G.ss (u - 9) (w - 9) (by omega) (by omega)).mp (by rw [show 9 + (u - 9) = u by omega, show 9 + (w - 9) = w by omega]; exact h2)
  have a3 := (G.ss (v - 9) (w - 9) (by omega) (by omega)).mp (by rw [show 9 + (v - 9) = v by omega, show 9 + (w - 9) = w by omega]; exact h3)
  omega
theorem cross {P : Nat → Prop} {i : Nat} : ∀ d, ¬ P i → P (i + d) → ∃ k, ¬ P k ∧ P (k + 1)
  | 0, h, k => absurd k h
  | d + 1, h, k => by
    by_cases e : P (i + d)
    · exact cross d h e
    · exact ⟨i + d, e, k⟩
def OO (nr : Nat → Nat → Prop) (Bp : Nat → Nat → Nat) (Z : Nat → Prop) (r v : Nat) : Prop := Z r ∧ nr r v ∧ ¬ Z v ∧ ¬ Z (Bp r v)
noncomputable def Nb (Bp : Nat → Nat → Nat) (Z : Nat → Prop) (x : Nat × Nat) : Nat × Nat := if bo (Z (Bp x.1 x.2)) = true then (Bp x.1 x.2, x.2) else (x.1, Bp x.1 x.2)
theorem Nb_t {Z : Nat → Prop} {x : Nat × Nat} (h : Z (Bp x.1 x.2)) : Nb Bp Z x = (Bp x.1 x.2, x.2) := if_pos (bo_t.mpr h)
theorem Nb_f {Z : Nat → Prop} {x : Nat × Nat} (h : ¬ Z (Bp x.1 x.2)) : Nb Bp Z x = (x.1, Bp x.1 x.2) := if_neg (fun z => h (bo_t.mp z))
theorem rng4 (G : GP rm nr Bp) {Z : Nat → Prop} (hZ : ∀ r, Z r → rm r) (ne : ∃ r, Z r) : 4 ≤ ct (fun p => OO nr Bp Z (p / 13) (p % 13)) 117 := by
  rcases Classical.em (4 ≤ ct (fun p => OO nr Bp Z (p / 13) (p % 13)) 117) with y | few
  · exact y
  exfalso
  have no4 : ∀ r1 v1 r2 v2 r3 v3 r4 v4, OO nr Bp Z r1 v1 → OO nr Bp Z r2 v2 → OO nr Bp Z r3 v3 → OO nr Bp Z r4 v4 → ¬ (r1 = r2 ∧ v1 = v2) → ¬ (r1 = r3 ∧ v1 = v3) → ¬ (r1 = r4 ∧ v1 = v4) → ¬ (r2 = r3 ∧ v2 = v3) → ¬ (r2 = r4 ∧ v2 = v4) → ¬ (r3 = r4 ∧ v3 = v4) → False := by
    intro r1 v1 r2 v2 r3 v3 r4 v4 o1 o2 o3 o4 n1 n2 n3 n4 n5 n6
    have enc : ∀ r v, OO nr Bp Z r v → 13 * r + v < 117 ∧ (13 * r + v) / 13 = r ∧ (13 * r + v) % 13 = v := fun r v o => by
      have a := G.r9 r (hZ r o.1)
      have b := (G.lt o.2.1).2
      omega
    have use : ∀ r v, OO nr Bp Z r v → (fun p => OO nr Bp Z (p / 13) (p % 13)) (13 * r + v) := fun r v o => by
      obtain ⟨_, e1, e2⟩ := enc r v o
      show OO nr Bp Z ((13 * r + v) / 13) ((13 * r + v) % 13)
      rw [e1, e2]; exact o
    have e1 := enc _ _ o1
    have e2 := enc _ _ o2
    have e3 := enc _ _ o3
    have e4 := enc _ _ o4
    exact few (ct_q e1.1 e2.1 e3.1 e4.1 (use _ _ o1) (use _ _ o2) (use _ _ o3) (use _ _ o4) (by omega) (by omega) (by omega) (by omega) (by omega) (by omega))
  -- a dart to the outside that holds with the sides
  have start : ∃ r u, Z r ∧ nr r u ∧ ¬ Z u ∧ ∀ S : Nat → Prop, S u → (∀ a b, S a → nr a b → ¬ Z b → S b) → S 9 := by
    rcases Classical.em (∃ r u, Z r ∧ nr r u ∧ ¬ Z u ∧ ∀ S : Nat → Prop, S u → (∀ a b, S a → nr a b → ¬ Z b → S b) → S 9) with y | no
    · exact y
    exfalso
    obtain ⟨z, hz⟩ := ne
    have n9 : ¬ Z 9 := fun q => by have := G.r9 9 (hZ 9 q); omega
    refine (G.cn (fun x => ¬ Z x ∧ ∀ S : Nat → Prop, S x → (∀ a b, S a → nr a b → ¬ Z b → S b) → S 9) ⟨n9, fun S h _ => h⟩ (fun u v hu huv => ?_) z (hZ z hz)).1 hz
    by_cases q : Z v
    · exact absurd ⟨v, u, q, G.sy _ _ huv, hu.1, hu.2⟩ no
    · exact ⟨q, fun S h cl => hu.2 S (cl v u h (G.sy _ _ huv) hu.1) cl⟩
  obtain ⟨r0, u0, z0, h0, o0, q0⟩ := start
  obtain ⟨N, hN⟩ : ∃ N, N = Nb Bp Z := ⟨_, rfl⟩
  have hD : ∀ x : Nat × Nat, (Z x.1 ∧ nr x.1 x.2 ∧ ¬ Z x.2) → (Z (N x).1 ∧ nr (N x).1 (N x).2 ∧ ¬ Z (N x).2) := fun x hx => by
    rw [hN]
    by_cases c : Z (Bp x.1 x.2)
    · rw [Nb_t c]
      exact ⟨c, (G.fc (hZ _ hx.1) hx.2.1).1, hx.2.2⟩
    · rw [Nb_f c]
      exact ⟨hx.1, G.nx _ _ hx.2.1, c⟩
  have inj : ∀ x y : Nat × Nat, (Z x.1 ∧ nr x.1 x.2 ∧ ¬ Z x.2) → (Z y.1 ∧ nr y.1 y.2 ∧ ¬ Z y.2) → N x = N y → x = y := fun x y hx hy e => by
    rw [hN] at e
    have mix : ∀ x y : Nat × Nat, (Z x.1 ∧ nr x.1 x.2 ∧ ¬ Z x.2) → (Z y.1 ∧ nr y.1 y.2 ∧ ¬ Z y.2) → (Bp x.1 x.2, x.2) = (y.1, Bp y.1 y.2) → False := fun x y hx hy e => by
      have e1 : Bp x.1 x.2 = y.1 := congrArg Prod.fst e
      have e2 : x.2 = Bp y.1 y.2 := congrArg Prod.snd e
      have t := (G.tr x.1 x.2 (hZ _ hx.1) hx.2.1).1
      rw [e1, e2] at t
      have n := G.sy _ _ (G.nx x.1 x.2 hx.2.1)
      rw [e1] at n
      have := G.ij y.1 x.1 y.2 n hy.2.1 t
      exact hy.2.2 (this ▸ hx.1)
    by_cases c : Z (Bp x.1 x.2)
    · by_cases c' : Z (Bp y.1 y.2)
      · rw [Nb_t c, Nb_t c'] at e
        have e1 : Bp x.1 x.2 = Bp y.1 y.2 := congrArg Prod.fst e
        have e2 : x.2 = y.2 := (Prod.mk.inj e).2
        have t := (G.tr x.1 x.2 (hZ _ hx.1) hx.2.1).2
        rw [e1, e2, (G.tr y.1 y.2 (hZ _ hy.1) hy.2.1).2] at t
        exact Prod.ext t.symm e2
      · rw [Nb_t c, Nb_f c'] at e
        exact (mix x y hx hy e).elim
    · by_cases c' : Z (Bp y.1 y.2)
      · rw [Nb_f c, Nb_t c'] at e
        exact (mix y x hy hx e.symm).elim
      · rw [Nb_f c, Nb_f c'] at e
        have e1 : x.1 = y.1 := (Prod.mk.inj e).1
        have e2 : Bp x.1 x.2 = Bp y.1 y.2 := congrArg Prod.snd e
        rw [e1] at e2
        exact Prod.ext e1 (G.ij y.1 x.2 y.2 (e1 ▸ hx.2.1) hy.2.1 e2)
  obtain ⟨X, hX⟩ : ∃ X : Nat → Nat × Nat, X = it N (r0, u0) := ⟨_, rfl⟩
  have XD : ∀ k, Z (X k).1 ∧ nr (X k).1 (X k).2 ∧ ¬ Z (X k).2 := fun k => by
    rw [hX]; exact it_D (D := fun x => Z x.1 ∧ nr x.1 x.2 ∧ ¬ Z x.2) hD ⟨z0, h0, o0⟩ k
  have Xs : ∀ k, X (k + 1) = N (X k) := fun k => by rw [hX]; rfl
  obtain ⟨p, p1, hp⟩ : ∃ p, 1 ≤ p ∧ ∀ k, X (k + p) = X k := by
    obtain ⟨i, j, h1, h2, h3⟩ := pig 169 (fun k => 13 * (X k).1 + (X k).2) (fun k _ => by
      have := G.lt (XD k).2.1
      show 13 * (X k).1 + (X k).2 < 169
      omega)
    have h3' : 13 * (X i).1 + (X i).2 = 13 * (X j).1 + (X j).2 := h3
    have a := G.lt (XD i).2.1
    have b := G.lt (XD j).2.1
    have e : X i = X j := Prod.ext (by omega) (by omega)
    refine ⟨j - i, by omega, fun k => ?_⟩
    have e0 : X (j - i) = X 0 := by
      refine it_inj (D := fun x => Z x.1 ∧ nr x.1 x.2 ∧ ¬ Z x.2) hD inj (XD _) (XD 0) i ?_
      rw [show it N (X (j - i)) i = X (j - i + i) by rw [hX, it_add], show it N (X 0) i = X i by rw [hX]; rfl, show j - i + i = j by omega]
      exact e.symm
    rw [Nat.add_comm k, show X (j - i + k) = it N (X (j - i)) k by rw [hX, it_add], e0, hX]; rfl
  have hpm : ∀ m k, X (k + p * m) = X k := fun m => by
    induction m with
    | zero => intro k; rfl
    | succ m ih => intro k; rw [Nat.mul_succ, ← Nat.add_assoc, hp, ih]
  have chg : ∀ k, (X (k + 1)).2 ≠ (X k).2 → OO nr Bp Z (X k).1 (X k).2 ∧ (X (k + 1)).2 = Bp (X k).1 (X k).2 ∧ (X (k + 1)).1 = (X k).1 := fun k h => by
    rw [Xs, hN] at h ⊢
    by_cases c : Z (Bp (X k).1 (X k).2)
    · rw [Nb_t c] at h; exact absurd rfl h
    · rw [Nb_f c]; exact ⟨⟨(XD k).1, (XD k).2.1, (XD k).2.2, c⟩, rfl, rfl⟩
  -- into t, out of t
  have into : ∀ t t', t ≠ t' → (∃ k, (X k).2 = t) → (∃ k, (X k).2 = t') → ∃ k, (X k).2 ≠ t ∧ (X (k + 1)).2 = t := fun t t' n ⟨j, hj⟩ ⟨i, hi⟩ => by
    have le : i ≤ j + p * i := Nat.le_trans (Nat.le_trans (by rw [Nat.one_mul]; exact Nat.le_refl _) (Nat.mul_le_mul_right i p1)) (Nat.le_add_left _ _)
    refine cross (P := fun k => (X k).2 = t) (i := i) (j + p * i - i) (fun z => n (z.symm.trans hi)) ?_
    show (X (i + (j + p * i - i))).2 = t
    rw [show i + (j + p * i - i) = j + p * i by omega, hpm]; exact hj
  have outo : ∀ t t', t ≠ t' → (∃ k, (X k).2 = t) → (∃ k, (X k).2 = t') → ∃ k, (X k).2 = t ∧ (X (k + 1)).2 ≠ t := fun t t' n ⟨j, hj⟩ ⟨i, hi⟩ => by
    have le : j ≤ i + p * j := Nat.le_trans (Nat.le_trans (by rw [Nat.one_mul]; exact Nat.le_refl _) (Nat.mul_le_mul_right j p1)) (Nat.le_add_left _ _)
    obtain ⟨k, a, b⟩ := cross (P := fun k => (X k).2 ≠ t) (i := j) (i + p * j - j) (fun z => z hj) (by
      show (X (j + (i + p * j - j))).2 ≠ t
      rw [show j + (i + p * j - j) = i + p * j by omega, hpm, hi]
      exact fun z => n z.symm)
    exact ⟨k, Classical.not_not.mp a, b⟩
  have closed : ∀ u v, (∃ k, (X k).2 = u) → nr u v → ¬ Z v → ∃ k, (X k).2 = v := by
    intro u v hu huv nv
    have all := G.tv u (fun x => (∃ j, X j = (x, u)) ∨ (∃ j, (X j).2 = x ∧ x ≠ u ∧ (X (j + 1)).2 = u) ∨ ∃ j, (X j).2 = u ∧ x ≠ u ∧ (X (j + 1)).2 = x)
    have fin := all (by
      obtain ⟨k, hk⟩ := hu
      have := (XD k).2.1
      rw [hk] at this
      exact ⟨(X k).1, G.sy _ _ this, Or.inl ⟨k, Prod.ext rfl hk⟩⟩) (fun x hx h => ?_) v huv
    · rcases fin with ⟨j, hj⟩ | ⟨j, hj, _⟩ | ⟨j, _, _, hj⟩
      · have := (XD j).1
        rw [hj] at this
        exact absurd this nv
      · exact ⟨j, hj⟩
      · exact ⟨j + 1, hj⟩
    · rcases h with ⟨j, hj⟩ | ⟨j, h1, h2, h3⟩ | ⟨j, h1, h2, h3⟩
      · -- a room of Z: what came before
        obtain ⟨i, hi⟩ : ∃ i, i + 1 = j + p := ⟨j + p - 1, by omega⟩
        have e : N (X i) = (x, u) := by rw [← Xs, hi, hp]; exact hj
        have Di := XD i
        rw [hN] at e
        by_cases c : Z (Bp (X i).1 (X i).2)
        · rw [Nb_t c] at e
          have e1 : Bp (X i).1 (X i).2 = x := congrArg Prod.fst e
          have e2 : (X i).2 = u := congrArg Prod.snd e
          have t := (G.tr _ _ (hZ _ Di.1) Di.2.1).2
          rw [e1, e2] at t
          refine Or.inl ⟨i, ?_⟩
          rw [t, ← e2]
        · rw [Nb_f c] at e
          have e1 : (X i).1 = x := congrArg Prod.fst e
          have e2 : Bp (X i).1 (X i).2 = u := congrArg Prod.snd e
          have t := (G.tr _ _ (hZ _ Di.1) Di.2.1).1
          rw [e2, e1] at t
          have n := G.ne (hZ _ Di.1) Di.2.1
          rw [e2] at n
          refine Or.inr (Or.inl ⟨i, t.symm, ?_, ?_⟩)
          · rw [t]; exact fun z => n z.symm
          · rw [hi, hp, hj]
      · -- the one before
        have U_u : ∃ k, (X k).2 = u := ⟨_, h3⟩
        have U_x : ∃ k, (X k).2 = x := ⟨_, h1⟩
        obtain ⟨k2, a1, a2⟩ := outo u x (fun z => h2 z.symm) U_u U_x
        obtain ⟨c1, c2, _⟩ := chg k2 (by rw [a1]; exact a2)
        rw [a1] at c1 c2
        have t2 := (G.tr _ _ (hZ _ c1.1) c1.2.1).2
        rw [← c2] at t2
        obtain ⟨d1, d2, _⟩ := chg j (by rw [h3, h1]; exact fun z => h2 z.symm)
        rw [h1, h3] at d2
        rw [h1] at d1
        by_cases e : (X (k2 + 1)).2 = x
        · rw [e] at t2
          exact Or.inl ⟨k2, by rw [t2]; exact Prod.ext rfl a1⟩
        · obtain ⟨k3, b1, b2⟩ := outo (X (k2 + 1)).2 x e ⟨k2 + 1, rfl⟩ U_x
          obtain ⟨g1, g2, _⟩ := chg k3 (by rw [b1]; exact b2)
          rw [b1] at g1 g2
          by_cases e3 : (X (k3 + 1)).2 = x
          · -- a triangle
            rw [e3] at g2
            have f1 := G.fc (hZ _ g1.1) g1.2.1
            rw [← g2] at f1
            have n1 : nr u (X (k2 + 1)).2 := by
              have := (G.fc (hZ _ c1.1) c1.2.1).2
              rw [← c2] at this; exact this
            rcases G.nl3 hx n1 f1.1 with q | q
            · exact Or.inr (Or.inr ⟨k2, a1, by rw [q]; exact a2, q.symm⟩)
            · exfalso
              rw [t2] at q
              exact (XD j).2.2 (by rw [h1, ← q]; exact c1.1)
          · exfalso
            obtain ⟨k4, m1, m2⟩ := into x u h2 U_x U_u
            obtain ⟨l1, l2, _⟩ := chg k4 (by rw [m2]; exact fun z => m1 z.symm)
            rw [m2] at l2
            refine no4 _ _ _ _ _ _ _ _ d1 c1 g1 l1 (fun z => h2 z.2) (fun z => e z.2.symm) (fun z => ?_) (fun z => ?_) (fun z => ?_) (fun z => ?_)
            · exact h2 (by rw [l2, ← z.1, ← z.2]; exact d2.symm)
            · exact a2 z.2.symm
            · exact e (by rw [l2, ← z.1, ← z.2]; exact c2)
            · exact e3 (by rw [l2, ← z.1, ← z.2]; exact g2)
      · -- the one behind
        obtain ⟨c1, c2, _⟩ := chg j (by rw [h1, h3]; exact h2)
        rw [h1] at c1 c2
        rw [h3] at c2
        have t2 := (G.tr _ _ (hZ _ c1.1) c1.2.1).2
        rw [← c2] at t2
        exact Or.inl ⟨j, by rw [t2]; exact Prod.ext rfl h1⟩
  have nz : ∀ s, s < 4 → ¬ Z (9 + s) := fun s _ q => by have := G.r9 _ (hZ _ q); omega
  have u9 : ∃ k, (X k).2 = 9 := q0 (fun u => ∃ k, (X k).2 = u) ⟨0, by rw [hX]; rfl⟩ closed
  have u10 : ∃ k, (X k).2 = 10 := closed 9 10 u9 ((G.ss 0 1 (by decide) (by decide)).mpr (Or.inl rfl)) (nz 1 (by decide))
  have u11 : ∃ k, (X k).2 = 11 := closed 10 11 u10 ((G.ss 1 2 (by decide) (by decide)).mpr (Or.inl rfl)) (nz 2 (by decide))
  have u12 : ∃ k, (X k).2 = 12 := closed 11 12 u11 ((G.ss 2 3 (by decide) (by decide)).mpr (Or.inl rfl)) (nz 3 (by decide))
  have ent : ∀ t, (∃ k, (X k).2 = t) → (∃ t', t ≠ t' ∧ ∃ k, (X k).2 = t') → ∃ r v, OO nr Bp Z r v ∧ Bp r v = t := fun t h ⟨t', n, h'⟩ => by
    obtain ⟨k, a, b⟩ := into t t' n h h'
    obtain ⟨c1, c2, _⟩ := chg k (by rw [b]; exact fun z => a z.symm)
    exact ⟨_, _, c1, by rw [← c2]; exact b⟩
  obtain ⟨r1, v1, o1, e1⟩ := ent 9 u9 ⟨10, by decide, u10⟩
  obtain ⟨r2, v2, o2, e2⟩ := ent 10 u10 ⟨9, by decide, u9⟩
  obtain ⟨r3, v3, o3, e3⟩ := ent 11 u11 ⟨9, by decide, u9⟩
  obtain ⟨r4, v4, o4, e4⟩ := ent 12 u12 ⟨9, by decide, u9⟩
  have dif : ∀ {r v r' v' : Nat}, Bp r v ≠ Bp r' v' → ¬ (r = r' ∧ v = v') := fun h z => h (by rw [z.1, z.2])
  exact no4 _ _ _ _ _ _ _ _ o1 o2 o3 o4 (dif (by omega)) (dif (by omega)) (dif (by omega)) (dif (by omega)) (dif (by omega)) (dif (by omega))
end GPS
end

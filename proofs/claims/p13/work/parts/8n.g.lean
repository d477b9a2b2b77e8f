section
-- two lines that don't cross: one lies above the other at both ends of where they overlap
def orn (X Y : Nat → Int) (a b c : Nat) : Int := (X b - X a) * (Y c - Y a) - (Y b - Y a) * (X c - X a)
section ORN
variable {X Y : Nat → Int} {a b c u v : Nat}
theorem orn_c : orn X Y a b c = orn X Y b c a := by unfold orn; grind
theorem orn_s : orn X Y a c b = - orn X Y a b c := by unfold orn; grind
theorem orn_z : orn X Y a b b = 0 := by unfold orn; grind
theorem orn_y : orn X Y a b a = 0 := by unfold orn; grind
theorem orn_1 : orn X Y a b u * (X v - X u) + orn X Y u v a * (X b - X a) = (orn X Y a b v - orn X Y a b u) * (X u - X a) := by unfold orn; grind
theorem orn_2 : orn X Y a b u * (X v - X u) + orn X Y u v b * (X b - X a) = (orn X Y a b v - orn X Y a b u) * (X u - X b) := by unfold orn; grind
theorem orn_3 : orn X Y a b v * (X v - X u) + orn X Y u v a * (X b - X a) = (orn X Y a b v - orn X Y a b u) * (X v - X a) := by unfold orn; grind
theorem orn_4 : orn X Y a b v * (X v - X u) + orn X Y u v b * (X b - X a) = (orn X Y a b v - orn X Y a b u) * (X v - X b) := by unfold orn; grind
theorem orn_g : orn X Y u v b - orn X Y u v a = - (orn X Y a b v - orn X Y a b u) := by unfold orn; grind
end ORN
theorem mp_p {x y : Int} (h : 0 < x * y) (hy : 0 < y) : 0 < x := gmul_pos h hy
theorem mp_n {x y : Int} (h : x * y < 0) (hy : 0 < y) : x < 0 := by
  rcases Int.lt_or_le x 0 with k | k
  · exact k
  · have := Int.mul_nonneg k (Int.le_of_lt hy); omega
/-- the four ways to overlap -/
theorem k_A {fu fv ga gb C p q r s : Int} (hC : C = fv - fu) (hp : 0 < p) (hq : 0 < q) (hr : 0 < r) (hs : s < 0) (i1 : fu * p + ga * q = C * r) (i4 : fv * p + gb * q = C * s) (h1 : fu < 0) (h2 : 0 < fv) : 0 < ga ∧ gb < 0 := by
  have c : 0 < C := by omega
  have x1 := Int.mul_pos c hr
  have x2 := Int.mul_neg_of_pos_of_neg c hs
  have x3 := Int.mul_neg_of_neg_of_pos h1 hp
  have x4 := Int.mul_pos h2 hp
  exact ⟨mp_p (by omega) hq, mp_n (by omega) hq⟩
theorem k_B {fu fv ga gb C p q r s t : Int} (hp : 0 < p) (hq : 0 < q) (hr : 0 < r) (ht : t < 0) (hs : 0 < s) (i1 : fu * p + ga * q = C * r) (i2 : fu * p + gb * q = C * t) (i4 : fv * p + gb * q = C * s) (h1 : fu < 0) (h2 : gb < 0) : 0 < fv ∧ 0 < ga := by
  have x3 := Int.mul_neg_of_neg_of_pos h1 hp
  have x4 := Int.mul_neg_of_neg_of_pos h2 hq
  have c : 0 < C := by
    rcases Int.lt_or_le 0 C with k | k
    · exact k
    · have := Int.mul_nonneg_of_nonpos_of_nonpos k (Int.le_of_lt ht); omega
  have x1 := Int.mul_pos c hr
  have x2 := Int.mul_pos c hs
  exact ⟨mp_p (by omega) hp, mp_p (by omega) hq⟩
theorem k_C {fu fv ga gb C p q r s t : Int} (hp : 0 < p) (hq : 0 < q) (hr : r < 0) (ht : 0 < t) (hs : s < 0) (i1 : fu * p + ga * q = C * r) (i3 : fv * p + ga * q = C * t) (i4 : fv * p + gb * q = C * s) (h1 : 0 < ga) (h2 : 0 < fv) : fu < 0 ∧ gb < 0 := by
  have x3 := Int.mul_pos h2 hp
  have x4 := Int.mul_pos h1 hq
  have c : 0 < C := mp_p (y := t) (by omega) ht
  have x1 := Int.mul_neg_of_pos_of_neg c hr
  have x2 := Int.mul_neg_of_pos_of_neg c hs
  exact ⟨mp_n (by omega) hp, mp_n (by omega) hq⟩
theorem k_D {fu fv ga gb C p q r s : Int} (hC : gb - ga = - C) (hp : 0 < p) (hq : 0 < q) (hr : r < 0) (hs : 0 < s) (i1 : fu * p + ga * q = C * r) (i4 : fv * p + gb * q = C * s) (h1 : 0 < ga) (h2 : gb < 0) : fu < 0 ∧ 0 < fv := by
  have c : 0 < C := by omega
  have x1 := Int.mul_neg_of_pos_of_neg c hr
  have x2 := Int.mul_pos c hs
  have x3 := Int.mul_pos h1 hq
  have x4 := Int.mul_neg_of_neg_of_pos h2 hq
  exact ⟨mp_n (by omega) hp, mp_p (by omega) hp⟩
def crs (X Y : Nat → Int) (a b u v : Nat) : Prop := orn X Y a b u * orn X Y a b v < 0 ∧ orn X Y u v a * orn X Y u v b < 0
/-- ab lies above uv where the overlap begins, where it ends -/
def LCx (X Y : Nat → Int) (u v a b : Nat) : Prop := (X a < X u ∧ orn X Y a b u < 0) ∨ (a = u ∧ 0 < orn X Y u v b) ∨ (X u < X a ∧ 0 < orn X Y u v a)
def RCx (X Y : Nat → Int) (u v a b : Nat) : Prop := (X v < X b ∧ orn X Y a b v < 0) ∨ (b = v ∧ 0 < orn X Y u v a) ∨ (X b < X v ∧ 0 < orn X Y u v b)
theorem neg_i {x y z w p q r : Int} (h : x * p + y * q = z * r) (hx : w = 0) : (-x) * p + (-y) * q = (-z) * r := by
  rw [Int.neg_mul, Int.neg_mul, Int.neg_mul]; omega
theorem LR {X Y : Nat → Int} {a b u v : Nat} (hab : X a < X b) (huv : X u < X v) (o1 : X a < X v) (o2 : X u < X b) (ne : ¬ (a = u ∧ b = v)) (ja : a = u ∨ X a ≠ X u) (jb : b = v ∨ X b ≠ X v)
    (z1 : X a < X u → orn X Y a b u ≠ 0) (z2 : X u < X a → orn X Y u v a ≠ 0) (z3 : X v < X b → orn X Y a b v ≠ 0) (z4 : X b < X v → orn X Y u v b ≠ 0) (nc : ¬ crs X Y a b u v) : LCx X Y u v a b ↔ RCx X Y u v a b := by
  unfold LCx RCx
  have hp : 0 < X v - X u := by omega
  have hq : 0 < X b - X a := by omega
  have i1 := orn_1 (X := X) (Y := Y) (a := a) (b := b) (u := u) (v := v)
  have i2 := orn_2 (X := X) (Y := Y) (a := a) (b := b) (u := u) (v := v)
  have i3 := orn_3 (X := X) (Y := Y) (a := a) (b := b) (u := u) (v := v)
  have i4 := orn_4 (X := X) (Y := Y) (a := a) (b := b) (u := u) (v := v)
  have ig := orn_g (X := X) (Y := Y) (a := a) (b := b) (u := u) (v := v)
  have nc1 : ¬ (orn X Y a b u * orn X Y a b v < 0 ∧ orn X Y u v a * orn X Y u v b < 0) := nc
  rcases ja with ja | ja
  · subst ja
    rcases jb with jb | jb
    · exact absurd ⟨rfl, jb⟩ ne
    · have e : orn X Y a b v = - orn X Y a v b := orn_s
      constructor
      · rintro (h | h | h)
        · omega
        · rcases Int.lt_or_le (X b) (X v) with k | k
          · exact Or.inr (Or.inr ⟨k, h.2⟩)
          · exact Or.inl ⟨by omega, by omega⟩
        · omega
      · rintro (h | h | h)
        · exact Or.inr (Or.inl ⟨rfl, by omega⟩)
        · exact absurd (by rw [h.1]) jb
        · exact Or.inr (Or.inl ⟨rfl, h.2⟩)
  · rcases jb with jb | jb
    · subst jb
      have e : orn X Y a b u = - orn X Y u b a := by rw [orn_c (a := a), orn_c (a := b)]; exact orn_s
      constructor
      · rintro (h | h | h)
        · exact Or.inr (Or.inl ⟨rfl, by omega⟩)
        · exact absurd (by rw [h.1]) ja
        · exact Or.inr (Or.inl ⟨rfl, h.2⟩)
      · rintro (h | h | h)
        · omega
        · rcases Int.lt_or_le (X a) (X u) with k | k
          · exact Or.inl ⟨k, by omega⟩
          · exact Or.inr (Or.inr ⟨by omega, h.2⟩)
        · omega
    · have nau : a ≠ u := fun e => ja (by rw [e])
      have nbv : b ≠ v := fun e => jb (by rw [e])
      obtain ⟨C, hC⟩ : ∃ C, C = orn X Y a b v - orn X Y a b u := ⟨_, rfl⟩
      rw [← hC] at i1 i2 i3 i4 ig
      generalize orn X Y a b u = fu at *
      generalize orn X Y a b v = fv at *
      generalize orn X Y u v a = ga at *
      generalize orn X Y u v b = gb at *
      have j1 : (-fu) * (X v - X u) + (-ga) * (X b - X a) = (-C) * (X u - X a) := neg_i i1 rfl
      have j2 : (-fu) * (X v - X u) + (-gb) * (X b - X a) = (-C) * (X u - X b) := neg_i i2 rfl
      have j3 : (-fv) * (X v - X u) + (-ga) * (X b - X a) = (-C) * (X v - X a) := neg_i i3 rfl
      have j4 : (-fv) * (X v - X u) + (-gb) * (X b - X a) = (-C) * (X v - X b) := neg_i i4 rfl
      rcases Int.lt_or_le (X a) (X u) with k | k
      · have zu := z1 k
        rcases Int.lt_or_le (X b) (X v) with l | l
        · have zb := z4 l
          have m1 : ¬ (fu < 0 ∧ gb < 0) := fun ⟨h1, h2⟩ => by
            obtain ⟨x, y⟩ := k_B hp hq (by omega) (by omega) (by omega) i1 i2 i4 h1 h2
            exact nc1 ⟨Int.mul_neg_of_neg_of_pos h1 x, Int.mul_neg_of_pos_of_neg y h2⟩
          have m2 : ¬ (0 < fu ∧ 0 < gb) := fun ⟨h1, h2⟩ => by
            obtain ⟨x, y⟩ := k_B hp hq (by omega) (by omega) (by omega) j1 j2 j4 (by omega) (by omega)
            exact nc1 ⟨Int.mul_neg_of_pos_of_neg h1 (by omega), Int.mul_neg_of_neg_of_pos (by omega) h2⟩
          omega
        · have zv := z3 (by omega)
          have m1 : ¬ (fu < 0 ∧ 0 < fv) := fun ⟨h1, h2⟩ => by
            obtain ⟨x, y⟩ := k_A hC hp hq (by omega) (by omega) i1 i4 h1 h2
            exact nc1 ⟨Int.mul_neg_of_neg_of_pos h1 h2, Int.mul_neg_of_pos_of_neg x y⟩
          have m2 : ¬ (0 < fu ∧ fv < 0) := fun ⟨h1, h2⟩ => by
            obtain ⟨x, y⟩ := k_A (C := -C) (by omega) hp hq (by omega) (by omega) j1 j4 (by omega) (by omega)
            exact nc1 ⟨Int.mul_neg_of_pos_of_neg h1 h2, Int.mul_neg_of_neg_of_pos (by omega) (by omega)⟩
          omega
      · have za := z2 (by omega)
        rcases Int.lt_or_le (X b) (X v) with l | l
        · have zb := z4 l
          have m1 : ¬ (0 < ga ∧ gb < 0) := fun ⟨h1, h2⟩ => by
            obtain ⟨x, y⟩ := k_D ig hp hq (by omega) (by omega) i1 i4 h1 h2
            exact nc1 ⟨Int.mul_neg_of_neg_of_pos x y, Int.mul_neg_of_pos_of_neg h1 h2⟩
          have m2 : ¬ (ga < 0 ∧ 0 < gb) := fun ⟨h1, h2⟩ => by
            obtain ⟨x, y⟩ := k_D (C := -C) (by omega) hp hq (by omega) (by omega) j1 j4 (by omega) (by omega)
            exact nc1 ⟨Int.mul_neg_of_pos_of_neg (by omega) (by omega), Int.mul_neg_of_neg_of_pos h1 h2⟩
          omega
        · have zv := z3 (by omega)
          have m1 : ¬ (0 < ga ∧ 0 < fv) := fun ⟨h1, h2⟩ => by
            obtain ⟨x, y⟩ := k_C hp hq (by omega) (by omega) (by omega) i1 i3 i4 h1 h2
            exact nc1 ⟨Int.mul_neg_of_neg_of_pos x h2, Int.mul_neg_of_pos_of_neg h1 y⟩
          have m2 : ¬ (ga < 0 ∧ fv < 0) := fun ⟨h1, h2⟩ => by
            obtain ⟨x, y⟩ := k_C hp hq (by omega) (by omega) (by omega) j1 j3 j4 (by omega) (by omega)
            exact nc1 ⟨Int.mul_neg_of_pos_of_neg (by omega) h2, Int.mul_neg_of_neg_of_pos h1 (by omega)⟩
          omega
/-! sums of bits -/
noncomputable def bo (P : Prop) : Bool := @decide P (Classical.propDecidable P)
theorem bo_t {P : Prop} : bo P = true ↔ P := @decide_eq_true_iff P (Classical.propDecidable P)
theorem bo_f {P : Prop} : bo P = false ↔ ¬ P := @decide_eq_false_iff_not P (Classical.propDecidable P)
theorem bo_cg {P Q : Prop} (h : P ↔ Q) : bo P = bo Q := by rw [propext h]
theorem bo_and {P Q : Prop} : bo (P ∧ Q) = (bo P && bo Q) := by
  by_cases h : P <;> by_cases k : Q
  · rw [bo_t.mpr h, bo_t.mpr k, bo_t.mpr ⟨h, k⟩]; rfl
  · rw [bo_t.mpr h, bo_f.mpr k, bo_f.mpr (fun z => k z.2)]; rfl
  · rw [bo_f.mpr h, bo_t.mpr k, bo_f.mpr (fun z => h z.1)]; rfl
  · rw [bo_f.mpr h, bo_f.mpr k, bo_f.mpr (fun z => h z.1)]; rfl
def xf (f : Nat → Bool) : Nat → Bool
  | 0 => false
  | n + 1 => xor (xf f n) (f n)
theorem xf_x {f g : Nat → Bool} : ∀ n, xf (fun i => xor (f i) (g i)) n = xor (xf f n) (xf g n)
  | 0 => rfl
  | n + 1 => by
    show xor (xf (fun i => xor (f i) (g i)) n) (xor (f n) (g n)) = xor (xor (xf f n) (f n)) (xor (xf g n) (g n))
    rw [xf_x n]
    cases xf f n <;> cases xf g n <;> cases f n <;> cases g n <;> rfl
theorem xf_cg {f g : Nat → Bool} : ∀ n, (∀ i, i < n → f i = g i) → xf f n = xf g n
  | 0, _ => rfl
  | n + 1, h => by
    show xor (xf f n) (f n) = xor (xf g n) (g n)
    rw [xf_cg n (fun i hi => h i (by omega)), h n (by omega)]
theorem xf_0 {f : Nat → Bool} (n : Nat) (h : ∀ i, i < n → f i = false) : xf f n = false := by
  induction n with
  | zero => rfl
  | succ n ih =>
    show xor (xf f n) (f n) = false
    rw [ih (fun i hi => h i (by omega)), h n (by omega)]; rfl
theorem xf_and {b : Bool} {f : Nat → Bool} : ∀ n, xf (fun i => b && f i) n = (b && xf f n)
  | 0 => by cases b <;> rfl
  | n + 1 => by
    show xor (xf (fun i => b && f i) n) (b && f n) = (b && xor (xf f n) (f n))
    rw [xf_and n]
    cases b <;> cases xf f n <;> cases f n <;> rfl
theorem xf_sw {h : Nat → Nat → Bool} (k : Nat) : ∀ n, xf (fun i => xf (fun j => h i j) k) n = xf (fun j => xf (fun i => h i j) n) k
  | 0 => (xf_0 (f := fun j => xf (fun i => h i j) 0) k (fun j _ => rfl)).symm
  | n + 1 => by
    show xor (xf (fun i => xf (fun j => h i j) k) n) (xf (fun j => h n j) k) = xf (fun j => xor (xf (fun i => h i j) n) (h n j)) k
    rw [xf_sw k n, xf_x]
/-- one alone -/
theorem xf_1 {f : Nat → Bool} {i : Nat} : ∀ n, i < n → (∀ j, j < n → j ≠ i → f j = false) → xf f n = f i
  | 0, h, _ => absurd h (Nat.not_lt_zero i)
  | n + 1, h, hz => by
    show xor (xf f n) (f n) = f i
    by_cases e : n = i
    · subst e
      rw [xf_0 n (fun j hj => hz j (by omega) (by omega))]
      cases f n <;> rfl
    · rw [xf_1 n (by omega) (fun j hj => hz j (by omega)), hz n (by omega) e]
      cases f i <;> rfl
end
section
-- a closed line parts the faces in two colours
noncomputable def uL (X Y : Nat → Int) (C : Nat → Nat → Prop) (u v : Nat) : Bool := xf (fun a => xf (fun b => bo (C a b ∧ X a < X b ∧ X a < X v ∧ X u < X b ∧ ¬ (a = u ∧ b = v) ∧ LCx X Y u v a b ∧ ¬ X u < X a)) 9) 9
noncomputable def uR (X Y : Nat → Int) (C : Nat → Nat → Prop) (u v : Nat) : Bool := xf (fun a => xf (fun b => bo (C a b ∧ X a < X b ∧ X a < X v ∧ X u < X b ∧ ¬ (a = u ∧ b = v) ∧ RCx X Y u v a b ∧ ¬ X b < X v)) 9) 9
theorem xor_f {a b : Bool} (h : xor a b = false) : a = b := by cases a <;> cases b <;> first | rfl | exact absurd h (by decide)
theorem xf2_cg {f g : Nat → Nat → Bool} (h : ∀ a b, a < 9 → b < 9 → f a b = g a b) : xf (fun a => xf (fun b => f a b) 9) 9 = xf (fun a => xf (fun b => g a b) 9) 9 :=
  xf_cg 9 (fun a ha => xf_cg 9 (fun b hb => h a b ha hb))
theorem xf2_x {f g : Nat → Nat → Bool} : xf (fun a => xf (fun b => xor (f a b) (g a b)) 9) 9 = xor (xf (fun a => xf (fun b => f a b) 9) 9) (xf (fun a => xf (fun b => g a b) 9) 9) := by
  rw [← xf_x]
  exact xf_cg 9 (fun a _ => xf_x 9)
theorem sweep {X Y : Nat → Int} {C : Nat → Nat → Prop} {u v : Nat} (huv : X u < X v) (sy : ∀ a b, C a b → C b a) (xi : ∀ a b, C a b → X a ≠ X b) (xu : ∀ a b, C a b → (a = u ∨ X a ≠ X u) ∧ (a = v ∨ X a ≠ X v)) (ev : ∀ z, z < 9 → xf (fun j => bo (C z j)) 9 = false)
    (n1 : ∀ a b, C a b → X a < X u → X u < X b → orn X Y a b u ≠ 0) (n3 : ∀ a b, C a b → X a < X v → X v < X b → orn X Y a b v ≠ 0) (n2 : ∀ a b, C a b → X u < X a → X a < X v → orn X Y u v a ≠ 0) (nc : ∀ a b, C a b → X a < X b → ¬ crs X Y a b u v) : uL X Y C u v = uR X Y C u v := by
  apply xor_f
  unfold uL uR
  rw [← xf2_x]
  have lr : ∀ a b, C a b → X a < X b → X a < X v → X u < X b → ¬ (a = u ∧ b = v) → (LCx X Y u v a b ↔ RCx X Y u v a b) := fun a b hC h1 h2 h3 h4 =>
    LR h1 huv h2 h3 h4 (xu a b hC).1 (xu b a (sy a b hC)).2 (fun h => n1 a b hC h h3) (fun h => n2 a b hC h h2) (fun h => n3 a b hC h2 h) (fun h => n2 b a (sy a b hC) h3 h) (nc a b hC h1)
  -- what lies between
  have zin : ∀ a b, a < 9 → b < 9 → xor (bo (C a b ∧ X a < X b ∧ X a < X v ∧ X u < X b ∧ ¬ (a = u ∧ b = v) ∧ LCx X Y u v a b ∧ ¬ X u < X a)) (bo (C a b ∧ X a < X b ∧ X a < X v ∧ X u < X b ∧ ¬ (a = u ∧ b = v) ∧ RCx X Y u v a b ∧ ¬ X b < X v)) = xor (bo (X u < X a ∧ X a < X v ∧ 0 < orn X Y u v a) && bo (C a b ∧ X a < X b)) (bo (X u < X b ∧ X b < X v ∧ 0 < orn X Y u v b) && bo (C a b ∧ X a < X b)) := fun a b _ _ => by
    rw [← bo_and, ← bo_and]
    by_cases hE : C a b ∧ X a < X b ∧ X a < X v ∧ X u < X b ∧ ¬ (a = u ∧ b = v)
    · obtain ⟨e1, e2, e3, e4, e5⟩ := hE
      have q := lr a b e1 e2 e3 e4 e5
      have f1 : ((X u < X a ∧ X a < X v ∧ 0 < orn X Y u v a) ∧ C a b ∧ X a < X b) ↔ (LCx X Y u v a b ∧ X u < X a) := by
        constructor
        · rintro ⟨⟨h1, _, h3⟩, _⟩; exact ⟨Or.inr (Or.inr ⟨h1, h3⟩), h1⟩
        · rintro ⟨h, h1⟩
          rcases h with h | h | h
          · omega
          · rw [h.1] at h1; omega
          · exact ⟨⟨h1, e3, h.2⟩, e1, e2⟩
      have f2 : ((X u < X b ∧ X b < X v ∧ 0 < orn X Y u v b) ∧ C a b ∧ X a < X b) ↔ (LCx X Y u v a b ∧ X b < X v) := by
        rw [q]
        constructor
        · rintro ⟨⟨_, h2, h3⟩, _⟩; exact ⟨Or.inr (Or.inr ⟨h2, h3⟩), h2⟩
        · rintro ⟨h, h1⟩
          rcases h with h | h | h
          · omega
          · rw [h.1] at h1; omega
          · exact ⟨⟨e4, h1, h.2⟩, e1, e2⟩
      have f3 : (C a b ∧ X a < X b ∧ X a < X v ∧ X u < X b ∧ ¬ (a = u ∧ b = v) ∧ LCx X Y u v a b ∧ ¬ X u < X a) ↔ (LCx X Y u v a b ∧ ¬ X u < X a) := ⟨fun h => h.2.2.2.2.2, fun h => ⟨e1, e2, e3, e4, e5, h⟩⟩
      have f4 : (C a b ∧ X a < X b ∧ X a < X v ∧ X u < X b ∧ ¬ (a = u ∧ b = v) ∧ RCx X Y u v a b ∧ ¬ X b < X v) ↔ (LCx X Y u v a b ∧ ¬ X b < X v) := by rw [q]; exact ⟨fun h => h.2.2.2.2.2, fun h => ⟨e1, e2, e3, e4, e5, h⟩⟩
      rw [bo_cg f1, bo_cg f2, bo_cg f3, bo_cg f4, bo_and, bo_and, bo_and, bo_and]
      have g1 : bo (¬ X u < X a) = !bo (X u < X a) := by
        by_cases h : X u < X a
        · rw [bo_t.mpr h, bo_f.mpr (fun z => z h)]; rfl
        · rw [bo_f.mpr h, bo_t.mpr h]; rfl
      have g2 : bo (¬ X b < X v) = !bo (X b < X v) := by
        by_cases h : X b < X v
        · rw [bo_t.mpr h, bo_f.mpr (fun z => z h)]; rfl
        · rw [bo_f.mpr h, bo_t.mpr h]; rfl
      rw [g1, g2]
      cases bo (LCx X Y u v a b) <;> cases bo (X u < X a) <;> cases bo (X b < X v) <;> rfl
    · have f3 : ¬ (C a b ∧ X a < X b ∧ X a < X v ∧ X u < X b ∧ ¬ (a = u ∧ b = v) ∧ LCx X Y u v a b ∧ ¬ X u < X a) := fun h => hE ⟨h.1, h.2.1, h.2.2.1, h.2.2.2.1, h.2.2.2.2.1⟩
      have f4 : ¬ (C a b ∧ X a < X b ∧ X a < X v ∧ X u < X b ∧ ¬ (a = u ∧ b = v) ∧ RCx X Y u v a b ∧ ¬ X b < X v) := fun h => hE ⟨h.1, h.2.1, h.2.2.1, h.2.2.2.1, h.2.2.2.2.1⟩
      have f1 : ¬ ((X u < X a ∧ X a < X v ∧ 0 < orn X Y u v a) ∧ C a b ∧ X a < X b) := fun h => hE ⟨h.2.1, h.2.2, h.1.2.1, by have := h.1.1; have := h.2.2; omega, fun z => by rw [z.1] at h; have := h.1.1; omega⟩
      have f2 : ¬ ((X u < X b ∧ X b < X v ∧ 0 < orn X Y u v b) ∧ C a b ∧ X a < X b) := fun h => hE ⟨h.2.1, h.2.2, by have := h.1.2.1; have := h.2.2; omega, h.1.1, fun z => by rw [z.2] at h; have := h.1.2.1; omega⟩
      rw [bo_f.mpr f1, bo_f.mpr f2, bo_f.mpr f3, bo_f.mpr f4]
  rw [xf2_cg zin, xf2_x]
  -- both as sums over the rooms between
  have s1 : xf (fun a => xf (fun b => (bo (X u < X a ∧ X a < X v ∧ 0 < orn X Y u v a) && bo (C a b ∧ X a < X b))) 9) 9 = xf (fun z => (bo (X u < X z ∧ X z < X v ∧ 0 < orn X Y u v z) && xf (fun b => bo (C z b ∧ X z < X b)) 9)) 9 := xf_cg 9 (fun a _ => xf_and 9)
  have s2 : xf (fun a => xf (fun b => (bo (X u < X b ∧ X b < X v ∧ 0 < orn X Y u v b) && bo (C a b ∧ X a < X b))) 9) 9 = xf (fun z => (bo (X u < X z ∧ X z < X v ∧ 0 < orn X Y u v z) && xf (fun a => bo (C a z ∧ X a < X z)) 9)) 9 := by
    rw [xf_sw]; exact xf_cg 9 (fun z _ => xf_and 9)
  rw [s1, s2, ← xf_x]
  refine xf_0 9 (fun z hz => ?_)
  have d : xor (xf (fun b => bo (C z b ∧ X z < X b)) 9) (xf (fun a => bo (C a z ∧ X a < X z)) 9) = false := by
    rw [← xf_x, ← ev z hz]
    refine xf_cg 9 (fun j _ => ?_)
    by_cases h : C z j
    · have h' := sy z j h
      have hx := xi z j h
      rcases Int.lt_or_gt_of_ne hx with k | k
      · rw [bo_t.mpr ⟨h, k⟩, bo_f.mpr (fun y => by have := y.2; omega), bo_t.mpr h]; rfl
      · rw [bo_f.mpr (fun y => by have := y.2; omega), bo_t.mpr ⟨h', k⟩, bo_t.mpr h]; rfl
    · rw [bo_f.mpr (fun y => h y.1), bo_f.mpr (fun y => h (sy j z y.1)), bo_f.mpr h]; rfl
  cases bo (X u < X z ∧ X z < X v ∧ 0 < orn X Y u v z)
  · rfl
  · exact d
/-! the sketch -/
def xs (σ : mm_S) (i : Nat) : Int := 64 * pX σ i + pY σ i
theorem xs_orn {σ : mm_S} {a b c : Nat} : orn (xs σ) (pY σ) a b c = 64 * gcr (vc σ a b) (vc σ a c) := by
  unfold orn xs gcr vc; grind
/-- nothing crosses, no room lies on a join -/
def PW (σ : mm_S) (n m : Nat) : Prop := CK σ n m ∧ NC σ n ∧ ∀ e i, e < n → i < 9 → ¬ clx σ e i
def rmx (m i : Nat) : Prop := i < 9 ∧ m.testBit i = true
theorem PW.xi {σ : mm_S} {n m i j : Nat} (W : PW σ n m) (hi : rmx m i) (hj : rmx m j) (h : xs σ i = xs σ j) : i = j := by
  have g1 := W.1.xy i hi.1 hi.2
  have g2 := W.1.xy j hj.1 hj.2
  unfold cG at g1 g2
  unfold xs at h
  exact W.1.ds i j hi.1 hj.1 hi.2 hj.2 (by omega) (by omega)
theorem PW.ed {σ : mm_S} {n m a b : Nat} (W : PW σ n m) (ha : rmx m a) (h : aj σ a b) : rmx m b ∧ a ≠ b ∧ aj σ b a ∧ ∃ e, e < n ∧ ((σ 16 e = nI a ∧ σ 17 e = nI b) ∨ (σ 16 e = nI b ∧ σ 17 e = nI a)) := by
  obtain ⟨b9, mb, ne⟩ := W.1.aj_dr ha.1 ha.2 h
  obtain ⟨e, he, q, _⟩ := (W.1.ja a b ha.1 ha.2).mp h
  exact ⟨⟨b9, mb⟩, fun z => ne z.symm, W.1.aj_sym ha.1 ha.2 h, e, he, q⟩
theorem lon_sw {σ : mm_S} {z a b : Nat} (h : lon σ z a b) : lon σ z b a := by
  obtain ⟨h1, h2, h3, h4, h5⟩ := h
  refine ⟨h2, h1, ?_, ?_, ?_⟩
  · have : gcr (vc σ b a) (vc σ b z) = - gcr (vc σ a b) (vc σ a z) := by unfold gcr vc; grind
    rw [this, h3]; rfl
  · rcases h4 with h | h
    · exact Or.inr h
    · exact Or.inl h
  · rcases h5 with h | h
    · exact Or.inr h
    · exact Or.inl h
theorem PW.on {σ : mm_S} {n m a b z : Nat} (W : PW σ n m) (ha : rmx m a) (hab : aj σ a b) (hz : rmx m z) (h1 : xs σ a < xs σ z) (h2 : xs σ z < xs σ b) : orn (xs σ) (pY σ) a b z ≠ 0 := fun h0 => by
  obtain ⟨hb, ne, _, e, he, ends⟩ := W.ed ha hab
  have n21 := W.1.jn.1
  rw [xs_orn] at h0
  have g0 : gcr (vc σ a b) (vc σ a z) = 0 := by omega
  have za : z ≠ a := fun q => by rw [q] at h1; omega
  have zb : z ≠ b := fun q => by rw [q] at h2; omega
  have hD : 0 < 64 * (vc σ a b).1 + (vc σ a b).2 := by unfold xs at h1 h2; show 0 < 64 * (pX σ b - pX σ a) + (pY σ b - pY σ a); omega
  have hT : 0 < 64 * (vc σ a z).1 + (vc σ a z).2 := by unfold xs at h1 h2; show 0 < 64 * (pX σ z - pX σ a) + (pY σ z - pY σ a); omega
  have hTD : 64 * (vc σ a z).1 + (vc σ a z).2 ≤ 64 * (vc σ a b).1 + (vc σ a b).2 := by unfold xs at h1 h2; show 64 * (pX σ z - pX σ a) + (pY σ z - pY σ a) ≤ 64 * (pX σ b - pX σ a) + (pY σ b - pY σ a); omega
  unfold gcr at g0
  have q1 : (64 * (vc σ a b).1 + (vc σ a b).2) * (vc σ a z).1 = (64 * (vc σ a z).1 + (vc σ a z).2) * (vc σ a b).1 := by grind
  have q2 : (64 * (vc σ a b).1 + (vc σ a b).2) * (vc σ a z).2 = (64 * (vc σ a z).1 + (vc σ a z).2) * (vc σ a b).2 := by grind
  have L := (lon_of (σ := σ) (i := a) (j := z) (k := b) za zb (by unfold gcr; grind) ⟨gbt1 hD hT hTD q1, gbt1 hD hT hTD q2⟩).1
  have L' := lon_sw L
  have xz : ¬ xd σ (nI z) = 0 := fun q => by
    have := (W.1.dr z hz.1).mpr hz.2
    rw [q] at this; exact absurd this (by decide)
  have gz := W.1.xy z hz.1 hz.2
  have ga := W.1.xy a ha.1 ha.2
  have gb := W.1.xy b hb.1 hb.2
  refine W.2.2 e z he hz.1 ⟨xz, ?_⟩
  rcases ends with ⟨x, y⟩ | ⟨x, y⟩
  · exact (f_27_iff (by omega) ⟨hz.1, gz⟩ ⟨ha.1, ga⟩ ⟨hb.1, gb⟩ x y).mpr L
  · exact (f_27_iff (by omega) ⟨hz.1, gz⟩ ⟨hb.1, gb⟩ ⟨ha.1, ga⟩ x y).mpr L'
theorem NC_x {σ : mm_S} {n m e f p q r s : Nat} (C : CK σ n m) (N : NC σ n) (he : e < n) (hf : f < n) (hne : e ≠ f) (hp : rmx m p) (hq : rmx m q) (hr : rmx m r) (hs : rmx m s) (a1 : σ 16 e = nI p) (a2 : σ 17 e = nI q) (a3 : σ 16 f = nI r) (a4 : σ 17 f = nI s) : ¬ (gcr (vc σ p q) (vc σ p r) * gcr (vc σ p q) (vc σ p s) < 0 ∧ gcr (vc σ r s) (vc σ r p) * gcr (vc σ r s) (vc σ r q) < 0) := by
  have n21 := C.jn.1
  have key : ∀ e f p q r s, e < f → f < n → rmx m p → rmx m q → rmx m r → rmx m s → σ 16 e = nI p → σ 17 e = nI q → σ 16 f = nI r → σ 17 f = nI s → ¬ (gcr (vc σ p q) (vc σ p r) * gcr (vc σ p q) (vc σ p s) < 0 ∧ gcr (vc σ r s) (vc σ r p) * gcr (vc σ r s) (vc σ r q) < 0) := by
    intro e f p q r s hef hf hp hq hr hs a1 a2 a3 a4 ⟨h1, h2⟩
    have ce : (nI e).toNatClampNeg = e := nI_clamp (by omega)
    have cf : (nI f).toNatClampNeg = f := nI_clamp (by omega)
    have gp : p < 9 ∧ cG σ p := ⟨hp.1, C.xy p hp.1 hp.2⟩
    have gq : q < 9 ∧ cG σ q := ⟨hq.1, C.xy q hq.1 hq.2⟩
    have gr : r < 9 ∧ cG σ r := ⟨hr.1, C.xy r hr.1 hr.2⟩
    have gs : s < 9 ∧ cG σ s := ⟨hs.1, C.xy s hs.1 hs.2⟩
    refine N e f hef hf (fun z => ?_)
    have z3 := z.2.2
    have A := gcr_b gp.2 gq.2 gr.2
    have B := gcr_b gp.2 gq.2 gs.2
    have C' := gcr_b gr.2 gs.2 gp.2
    have D := gcr_b gr.2 gs.2 gq.2
    rw [← m_neg (f_17_toInt gp gq gr) (f_17_toInt gp gq gs) A B] at h1
    rw [← m_neg (f_17_toInt gr gs gp) (f_17_toInt gr gs gq) C' D] at h2
    unfold f_29 f_30 at z3
    rw [ce, cf, a1, a2, a3, a4, if_neg h1, if_neg (by decide), if_neg h2, if_neg (by decide)] at z3
    exact absurd z3 (by decide)
  rcases Nat.lt_or_gt_of_ne hne with k | k
  · exact key e f p q r s k hf hp hq hr hs a1 a2 a3 a4
  · intro ⟨h1, h2⟩
    exact key f e r s p q k he hr hs hp hq a3 a4 a1 a2 ⟨h2, h1⟩
theorem PW.nc {σ : mm_S} {n m a b u v : Nat} (W : PW σ n m) (ha : rmx m a) (hab : aj σ a b) (hu : rmx m u) (huv : aj σ u v) : ¬ crs (xs σ) (pY σ) a b u v := fun ⟨h1, h2⟩ => by
  rw [xs_orn, xs_orn] at h1 h2
  obtain ⟨hb, _, _, e, he, ends⟩ := W.ed ha hab
  obtain ⟨hv, _, _, f, hf, ends'⟩ := W.ed hu huv
  have k1 : gcr (vc σ a b) (vc σ a u) * gcr (vc σ a b) (vc σ a v) < 0 := by
    rcases Int.lt_or_le (gcr (vc σ a b) (vc σ a u) * gcr (vc σ a b) (vc σ a v)) 0 with k | k
    · exact k
    · have : 64 * gcr (vc σ a b) (vc σ a u) * (64 * gcr (vc σ a b) (vc σ a v)) = 4096 * (gcr (vc σ a b) (vc σ a u) * gcr (vc σ a b) (vc σ a v)) := by grind
      omega
  have k2 : gcr (vc σ u v) (vc σ u a) * gcr (vc σ u v) (vc σ u b) < 0 := by
    rcases Int.lt_or_le (gcr (vc σ u v) (vc σ u a) * gcr (vc σ u v) (vc σ u b)) 0 with k | k
    · exact k
    · have : 64 * gcr (vc σ u v) (vc σ u a) * (64 * gcr (vc σ u v) (vc σ u b)) = 4096 * (gcr (vc σ u v) (vc σ u a) * gcr (vc σ u v) (vc σ u b)) := by grind
      omega
  have m1 : gcr (vc σ b a) (vc σ b u) * gcr (vc σ b a) (vc σ b v) = gcr (vc σ a b) (vc σ a u) * gcr (vc σ a b) (vc σ a v) := by unfold gcr vc; grind
  have m2 : gcr (vc σ v u) (vc σ v a) * gcr (vc σ v u) (vc σ v b) = gcr (vc σ u v) (vc σ u a) * gcr (vc σ u v) (vc σ u b) := by unfold gcr vc; grind
  have c1 := Int.mul_comm (gcr (vc σ a b) (vc σ a u)) (gcr (vc σ a b) (vc σ a v))
  have c2 := Int.mul_comm (gcr (vc σ u v) (vc σ u a)) (gcr (vc σ u v) (vc σ u b))
  have c3 := Int.mul_comm (gcr (vc σ b a) (vc σ b u)) (gcr (vc σ b a) (vc σ b v))
  have c4 := Int.mul_comm (gcr (vc σ v u) (vc σ v a)) (gcr (vc σ v u) (vc σ v b))
  by_cases ef : e = f
  · subst ef
    -- the same join: its ends are on it
    have z1 : gcr (vc σ a b) (vc σ a a) = 0 := by rw [vc_s]; exact gcr_0 _
    have z2 : gcr (vc σ a b) (vc σ a b) = 0 := gcr_s _
    have ab9 : a < 9 ∧ b < 9 ∧ u < 9 ∧ v < 9 := ⟨ha.1, hb.1, hu.1, hv.1⟩
    rcases ends with ⟨x, y⟩ | ⟨x, y⟩ <;> rcases ends' with ⟨x', y'⟩ | ⟨x', y'⟩
    · have := nI9 ha.1 hu.1 (x.symm.trans x'); rw [← this, z1, Int.zero_mul] at k1; omega
    · have := nI9 hb.1 hu.1 (y.symm.trans y'); rw [← this, z2, Int.zero_mul] at k1; omega
    · have := nI9 hb.1 hu.1 (x.symm.trans x'); rw [← this, z2, Int.zero_mul] at k1; omega
    · have := nI9 ha.1 hu.1 (y.symm.trans y'); rw [← this, z1, Int.zero_mul] at k1; omega
  · rcases ends with ⟨x, y⟩ | ⟨x, y⟩ <;> rcases ends' with ⟨x', y'⟩ | ⟨x', y'⟩
    · exact NC_x W.1 W.2.1 he hf ef ha hb hu hv x y x' y' ⟨k1, k2⟩
    · exact NC_x W.1 W.2.1 he hf ef ha hb hv hu x y x' y' ⟨by omega, by omega⟩
    · exact NC_x W.1 W.2.1 he hf ef hb ha hu hv x y x' y' ⟨by omega, by omega⟩
    · exact NC_x W.1 W.2.1 he hf ef hb ha hv hu x y x' y' ⟨by omega, by omega⟩
end
section
-- the colours of the faces
def b0v : V2 := (-1, 64)
theorem b0_r {σ : mm_S} {v j : Nat} : gcr b0v (vc σ v j) < 0 ↔ xs σ v < xs σ j := by
  have : gcr b0v (vc σ v j) = - (64 * (pX σ j - pX σ v) + (pY σ j - pY σ v)) := by unfold gcr b0v vc; grind
  rw [this]; unfold xs; omega
theorem b0_p : 0 < gdt b0v b0v := by decide
theorem b0_n {σ : mm_S} {n m v j : Nat} (W : PW σ n m) (hv : rmx m v) (hj : rmx m j) (ne : v ≠ j) : ¬ gsd b0v (vc σ v j) := fun h => by
  have h0 := h.1
  have : gcr b0v (vc σ v j) = - (64 * (pX σ j - pX σ v) + (pY σ j - pY σ v)) := by unfold gcr b0v vc; grind
  rw [this] at h0
  exact ne (W.xi hv hj (by unfold xs; omega))
/-- a closed line: a set of joins, an even number at each room -/
def CE (σ : mm_S) (m : Nat) (C : Nat → Nat → Prop) : Prop := (∀ a b, C a b → C b a) ∧ (∀ a b, C a b → rmx m a ∧ aj σ a b) ∧ ∀ z, z < 9 → xf (fun j => bo (C z j)) 9 = false
noncomputable def Qc (σ : mm_S) (C : Nat → Nat → Prop) (v : Nat) : Bool := xf (fun a => xf (fun b => bo (C a b ∧ xs σ a < xs σ v ∧ xs σ v < xs σ b ∧ orn (xs σ) (pY σ) a b v < 0)) 9) 9
noncomputable def Tc (σ : mm_S) (C : Nat → Nat → Prop) (v w : Nat) : Bool := xf (fun j => bo (C v j ∧ gso b0v (vc σ v j) (vc σ v w))) 9
noncomputable def kap (σ : mm_S) (C : Nat → Nat → Prop) (x : Nat × Nat) : Bool := xor (Qc σ C x.1) (Tc σ C x.1 x.2)
theorem gso_b0 {σ : mm_S} {v j w : Nat} : gso b0v (vc σ v j) (vc σ v w) ↔ (xs σ v < xs σ j ∧ ¬ xs σ v < xs σ w) ∨ ((xs σ v < xs σ j ↔ xs σ v < xs σ w) ∧ 0 < orn (xs σ) (pY σ) v w j) := by
  have e : gcr (vc σ v j) (vc σ v w) < 0 ↔ 0 < orn (xs σ) (pY σ) v w j := by
    rw [xs_orn, gcr_anti (vc σ v w) (vc σ v j)]; omega
  unfold gso
  rw [b0_r, b0_r, e]
/-- over a corner -/
theorem kap_nx {σ : mm_S} {n m v w w' : Nat} {C : Nat → Nat → Prop} (W : PW σ n m) (H : CE σ m C) (hv : rmx m v) (h : nxt (aj σ v) (vc σ v) w w') : Tc σ C v w' = xor (Tc σ C v w) (bo (C v w)) := by
  obtain ⟨aw, aw', h⟩ := h
  have G := W.1.gdd W.2.1 hv.1 hv.2
  have B : ∀ j, aj σ v j → ¬ gsd b0v (vc σ v j) := fun j hj => b0_n W hv (W.ed hv hj).1 (W.ed hv hj).2.1
  have tot : ∀ i j, aj σ v i → aj σ v j → i ≠ j → gso b0v (vc σ v i) (vc σ v j) ∨ gso b0v (vc σ v j) (vc σ v i) := fun i j hi hj ne => gtot b0_p (G.1 i hi) (G.1 j hj) (B i hi) (B j hj) (G.2 i j hi hj ne)
  have tr : ∀ i j k, aj σ v i → aj σ v j → aj σ v k → i ≠ k → gso b0v (vc σ v i) (vc σ v j) → gso b0v (vc σ v j) (vc σ v k) → gso b0v (vc σ v i) (vc σ v k) := fun i j k hi hj hk ne a b => gtrans b0_p (G.1 i hi) (G.1 k hk) (B i hi) (B j hj) (B k hk) (G.2 i k hi hk ne) a b
  have g3 : ∀ i j k, aj σ v i → aj σ v j → aj σ v k → i ≠ j → i ≠ k → j ≠ k → gso b0v (vc σ v i) (vc σ v j) → gso b0v (vc σ v j) (vc σ v k) → gso (vc σ v i) (vc σ v j) (vc σ v k) ∧ gso (vc σ v j) (vc σ v k) (vc σ v i) ∧ gso (vc σ v k) (vc σ v i) (vc σ v j) := fun i j k hi hj hk n1 n2 n3 a b =>
    gah_3 b0_p (G.1 i hi) (G.1 j hj) (G.1 k hk) (G.2 i j hi hj n1) (G.2 i k hi hk n2) (G.2 j k hj hk n3) (Or.inr ⟨B i hi, B j hj, a⟩) (Or.inr ⟨B j hj, B k hk, b⟩)
  have ca : ∀ j, C v j → aj σ v j := fun j hj => (H.2.1 v j hj).2
  have irr : ∀ j, ¬ gso b0v (vc σ v j) (vc σ v j) := fun j hj => gso_asym hj hj
  have w9 := aw.1
  -- one room alone
  have single : ∀ f : Nat → Bool, (∀ j, j < 9 → f j = xor (bo (C v j ∧ gso b0v (vc σ v j) (vc σ v w))) (bo (j = w ∧ C v w))) → xf f 9 = xor (Tc σ C v w) (bo (C v w)) := fun f hf => by
    rw [xf_cg 9 hf, xf_x]
    show xor (Tc σ C v w) _ = _
    congr 1
    rw [xf_1 (i := w) 9 w9 (fun j _ ne => bo_f.mpr (fun z => ne z.1))]
    exact bo_cg ⟨fun z => z.2, fun z => ⟨rfl, z⟩⟩
  rcases h with ⟨e, all⟩ | ⟨ne, hn⟩
  · subst e
    have nC : ¬ C v w' := fun hC => by
      have := H.2.2 v hv.1
      rw [xf_1 (i := w') 9 aw'.1 (fun j _ nj => bo_f.mpr (fun z => nj (all j (ca j z)))), bo_t.mpr hC] at this
      exact absurd this (by decide)
    rw [bo_f.mpr nC]
    cases Tc σ C v w' <;> rfl
  · rcases tot w w' aw aw' (fun z => ne z.symm) with k | k
    · -- w before w'
      refine single _ (fun j _ => ?_)
      by_cases hC : C v j
      · have aj' := ca j hC
        by_cases ejw : j = w
        · subst ejw
          rw [bo_t.mpr ⟨hC, k⟩, bo_f.mpr (fun z => irr j z.2), bo_t.mpr ⟨rfl, hC⟩]; rfl
        · rw [bo_f.mpr (fun z => ejw z.1 : ¬ (j = w ∧ C v w))]
          have q : (C v j ∧ gso b0v (vc σ v j) (vc σ v w')) ↔ (C v j ∧ gso b0v (vc σ v j) (vc σ v w)) := by
            constructor
            · rintro ⟨_, z⟩
              refine ⟨hC, ?_⟩
              rcases tot j w aj' aw ejw with y | y
              · exact y
              · exfalso
                have jw' : j ≠ w' := fun q => by subst q; exact irr j z
                exact gso_asym (g3 w j w' aw aj' aw' (fun q => ejw q.symm) (fun q => ne q.symm) jw' y z).1 (hn j aj' ejw jw')
            · rintro ⟨_, z⟩
              refine ⟨hC, tr j w w' aj' aw aw' (fun q => ?_) z k⟩
              subst q
              exact gso_asym z k
          rw [bo_cg q]
          cases bo (C v j ∧ gso b0v (vc σ v j) (vc σ v w)) <;> rfl
      · rw [bo_f.mpr (fun z => hC z.1), bo_f.mpr (fun z => hC z.1), bo_f.mpr (fun z => hC (by rw [z.1]; exact z.2))]; rfl
    · -- w is the last, w' the first
      have first : ∀ j, aj σ v j → ¬ gso b0v (vc σ v j) (vc σ v w') := fun j hj z => by
        have jw' : j ≠ w' := fun q => by subst q; exact irr j z
        have jw : j ≠ w := fun q => by subst q; exact gso_asym z k
        exact gso_asym (g3 j w' w hj aw' aw jw' jw ne z k).2.2 (hn j hj jw jw')
      have last : ∀ j, aj σ v j → j ≠ w → gso b0v (vc σ v j) (vc σ v w) := fun j hj jw => by
        rcases tot j w hj aw jw with y | y
        · exact y
        · exfalso
          have jw' : j ≠ w' := fun q => by subst q; exact gso_asym y k
          exact gso_asym (g3 w' w j aw' aw hj ne (fun q => jw' q.symm) (fun q => jw q.symm) k y).2.1 (hn j hj jw jw')
      have t0 : Tc σ C v w' = false := xf_0 9 (fun j _ => bo_f.mpr (fun z => first j (ca j z.1) z.2))
      rw [t0, ← H.2.2 v hv.1]
      refine single _ (fun j _ => ?_)
      by_cases hC : C v j
      · by_cases ejw : j = w
        · subst ejw
          rw [bo_t.mpr hC, bo_f.mpr (fun z => irr j z.2), bo_t.mpr ⟨rfl, hC⟩]; rfl
        · rw [bo_t.mpr hC, bo_t.mpr ⟨hC, last j (ca j hC) ejw⟩, bo_f.mpr (fun z => ejw z.1)]; rfl
      · rw [bo_f.mpr hC, bo_f.mpr (fun z => hC z.1), bo_f.mpr (fun z => hC (by rw [z.1]; exact z.2))]; rfl
/-- from one side of a join to the other -/
theorem kap_r {σ : mm_S} {n m v w : Nat} {C : Nat → Nat → Prop} (W : PW σ n m) (H : CE σ m C) (hv : rmx m v) (hvw : aj σ v w) (lt : xs σ v < xs σ w) : kap σ C (w, v) = xor (kap σ C (v, w)) (bo (C v w)) := by
  obtain ⟨hw, vw, hwv, _⟩ := W.ed hv hvw
  have G := W.1.gdd W.2.1 hw.1 hw.2
  have rc : ∀ a b, C a b → rmx m a ∧ rmx m b ∧ aj σ a b ∧ a ≠ b := fun a b h => by
    obtain ⟨h1, h2⟩ := H.2.1 a b h
    obtain ⟨h3, h4, _⟩ := W.ed h1 h2
    exact ⟨h1, h3, h2, h4⟩
  have xne : ∀ a b, rmx m a → rmx m b → a ≠ b → xs σ a ≠ xs σ b := fun a b ha hb ne e => ne (W.xi ha hb e)
  have S := sweep (X := xs σ) (Y := pY σ) (C := C) lt H.1 (fun a b h => xne a b (rc a b h).1 (rc a b h).2.1 (rc a b h).2.2.2) (fun a b h => ⟨by
      by_cases e : a = v
      · exact Or.inl e
      · exact Or.inr (xne a v (rc a b h).1 hv e), by
      by_cases e : a = w
      · exact Or.inl e
      · exact Or.inr (xne a w (rc a b h).1 hw e)⟩) H.2.2 (fun a b h h1 h2 => W.on (rc a b h).1 (rc a b h).2.2.1 hv h1 h2) (fun a b h h1 h2 => W.on (rc a b h).1 (rc a b h).2.2.1 hw h1 h2) (fun a b h h1 h2 => W.on hv hvw (rc a b h).1 h1 h2) (fun a b h _ => W.nc (rc a b h).1 (rc a b h).2.2.1 hv hvw)
  -- the left end
  have eL : uL (xs σ) (pY σ) C v w = kap σ C (v, w) := by
    unfold uL kap
    have q : ∀ a b, a < 9 → b < 9 → bo (C a b ∧ xs σ a < xs σ b ∧ xs σ a < xs σ w ∧ xs σ v < xs σ b ∧ ¬ (a = v ∧ b = w) ∧ LCx (xs σ) (pY σ) v w a b ∧ ¬ xs σ v < xs σ a) = xor (bo (C a b ∧ xs σ a < xs σ v ∧ xs σ v < xs σ b ∧ orn (xs σ) (pY σ) a b v < 0)) (bo (a = v) && bo (C v b ∧ gso b0v (vc σ v b) (vc σ v w))) := fun a b _ _ => by
      rw [← bo_and]
      by_cases e : a = v
      · subst e
        rw [bo_f.mpr (fun z => by have := z.2.1; omega : ¬ (C a b ∧ xs σ a < xs σ a ∧ xs σ a < xs σ b ∧ orn (xs σ) (pY σ) a b a < 0))]
        have : (C a b ∧ xs σ a < xs σ b ∧ xs σ a < xs σ w ∧ xs σ a < xs σ b ∧ ¬ (a = a ∧ b = w) ∧ LCx (xs σ) (pY σ) a w a b ∧ ¬ xs σ a < xs σ a) ↔ (a = a ∧ C a b ∧ gso b0v (vc σ a b) (vc σ a w)) := by
          rw [gso_b0]
          constructor
          · rintro ⟨h1, h2, _, _, _, h6, _⟩
            refine ⟨rfl, h1, Or.inr ⟨⟨fun _ => lt, fun _ => h2⟩, ?_⟩⟩
            rcases h6 with h | h | h
            · omega
            · exact h.2
            · omega
          · rintro ⟨_, h1, h⟩
            rcases h with h | ⟨h2, h3⟩
            · exact absurd lt h.2
            · refine ⟨h1, h2.mpr lt, lt, h2.mpr lt, fun z => ?_, Or.inr (Or.inl ⟨rfl, h3⟩), by omega⟩
              rw [z.2, orn_z] at h3
              omega
        rw [bo_cg this]
        cases bo (a = a ∧ C a b ∧ gso b0v (vc σ a b) (vc σ a w)) <;> rfl
      · rw [bo_f.mpr (fun z => e z.1 : ¬ (a = v ∧ C v b ∧ gso b0v (vc σ v b) (vc σ v w)))]
        have : (C a b ∧ xs σ a < xs σ b ∧ xs σ a < xs σ w ∧ xs σ v < xs σ b ∧ ¬ (a = v ∧ b = w) ∧ LCx (xs σ) (pY σ) v w a b ∧ ¬ xs σ v < xs σ a) ↔ (C a b ∧ xs σ a < xs σ v ∧ xs σ v < xs σ b ∧ orn (xs σ) (pY σ) a b v < 0) := by
          constructor
          · rintro ⟨h1, h2, _, h4, _, h6, h7⟩
            have := xne a v (rc a b h1).1 hv e
            refine ⟨h1, by omega, h4, ?_⟩
            rcases h6 with h | h | h
            · exact h.2
            · exact absurd h.1 e
            · exact absurd h.1 h7
          · rintro ⟨h1, h2, h3, h4⟩
            exact ⟨h1, by omega, by omega, h3, fun z => e z.1, Or.inl ⟨h2, h4⟩, by omega⟩
        rw [bo_cg this]
        cases bo (C a b ∧ xs σ a < xs σ v ∧ xs σ v < xs σ b ∧ orn (xs σ) (pY σ) a b v < 0) <;> rfl
    rw [xf2_cg q, xf2_x]
    show xor (Qc σ C v) _ = xor (Qc σ C v) (Tc σ C v w)
    congr 1
    rw [xf_cg 9 (fun a _ => xf_and 9), xf_1 (i := v) 9 hv.1 (fun a _ ne => by rw [bo_f.mpr ne]; rfl), bo_t.mpr rfl]
    rfl
  -- the right end
  have eR : uR (xs σ) (pY σ) C v w = xor (Qc σ C w) (xf (fun a => bo (C w a ∧ xs σ a < xs σ w ∧ 0 < orn (xs σ) (pY σ) v w a)) 9) := by
    unfold uR
    have q : ∀ a b, a < 9 → b < 9 → bo (C a b ∧ xs σ a < xs σ b ∧ xs σ a < xs σ w ∧ xs σ v < xs σ b ∧ ¬ (a = v ∧ b = w) ∧ RCx (xs σ) (pY σ) v w a b ∧ ¬ xs σ b < xs σ w) = xor (bo (C a b ∧ xs σ a < xs σ w ∧ xs σ w < xs σ b ∧ orn (xs σ) (pY σ) a b w < 0)) (bo (b = w) && bo (C w a ∧ xs σ a < xs σ w ∧ 0 < orn (xs σ) (pY σ) v w a)) := fun a b _ _ => by
      rw [← bo_and]
      by_cases e : b = w
      · subst e
        rw [bo_f.mpr (fun z => by have := z.2.2.1; omega : ¬ (C a b ∧ xs σ a < xs σ b ∧ xs σ b < xs σ b ∧ orn (xs σ) (pY σ) a b b < 0))]
        have : (C a b ∧ xs σ a < xs σ b ∧ xs σ a < xs σ b ∧ xs σ v < xs σ b ∧ ¬ (a = v ∧ b = b) ∧ RCx (xs σ) (pY σ) v b a b ∧ ¬ xs σ b < xs σ b) ↔ (b = b ∧ C b a ∧ xs σ a < xs σ b ∧ 0 < orn (xs σ) (pY σ) v b a) := by
          constructor
          · rintro ⟨h1, h2, _, _, _, h6, _⟩
            refine ⟨rfl, H.1 a b h1, h2, ?_⟩
            rcases h6 with h | h | h
            · omega
            · exact h.2
            · omega
          · rintro ⟨_, h1, h2, h3⟩
            refine ⟨H.1 b a h1, h2, h2, lt, fun z => ?_, Or.inr (Or.inl ⟨rfl, h3⟩), by omega⟩
            rw [z.1, orn_y] at h3
            omega
        rw [bo_cg this]
        cases bo (b = b ∧ C b a ∧ xs σ a < xs σ b ∧ 0 < orn (xs σ) (pY σ) v b a) <;> rfl
      · rw [bo_f.mpr (fun z => e z.1 : ¬ (b = w ∧ C w a ∧ xs σ a < xs σ w ∧ 0 < orn (xs σ) (pY σ) v w a))]
        have : (C a b ∧ xs σ a < xs σ b ∧ xs σ a < xs σ w ∧ xs σ v < xs σ b ∧ ¬ (a = v ∧ b = w) ∧ RCx (xs σ) (pY σ) v w a b ∧ ¬ xs σ b < xs σ w) ↔ (C a b ∧ xs σ a < xs σ w ∧ xs σ w < xs σ b ∧ orn (xs σ) (pY σ) a b w < 0) := by
          constructor
          · rintro ⟨h1, h2, h3, h4, _, h6, h7⟩
            have := xne b w (rc a b h1).2.1 hw e
            refine ⟨h1, h3, by omega, ?_⟩
            rcases h6 with h | h | h
            · exact h.2
            · exact absurd h.1 e
            · exact absurd h.1 h7
          · rintro ⟨h1, h2, h3, h4⟩
            exact ⟨h1, by omega, h2, by omega, fun z => e z.2, Or.inl ⟨h3, h4⟩, by omega⟩
        rw [bo_cg this]
        cases bo (C a b ∧ xs σ a < xs σ w ∧ xs σ w < xs σ b ∧ orn (xs σ) (pY σ) a b w < 0) <;> rfl
    rw [xf2_cg q, xf2_x]
    congr 1
    rw [xf_sw, xf_cg 9 (fun b _ => xf_and 9), xf_1 (i := w) 9 hw.1 (fun b _ ne => by rw [bo_f.mpr ne]; rfl), bo_t.mpr rfl]
    rfl
  -- what comes before v at w
  have eT : xor (Tc σ C w v) (xf (fun a => bo (C w a ∧ xs σ a < xs σ w ∧ 0 < orn (xs σ) (pY σ) v w a)) 9) = bo (C v w) := by
    have wv : bo (C v w) = xf (fun j => bo (j = v ∧ C w v)) 9 := by
      rw [xf_1 (i := v) 9 hv.1 (fun j _ ne => bo_f.mpr (fun z => ne z.1))]
      exact bo_cg ⟨fun z => ⟨rfl, H.1 v w z⟩, fun z => H.1 w v z.2⟩
    apply xor_f
    rw [wv]
    unfold Tc
    rw [← xf_x, ← xf_x, ← H.2.2 w hw.1]
    refine xf_cg 9 (fun j _ => ?_)
    by_cases hC : C w j
    · obtain ⟨_, hj, awj, wj⟩ := rc w j hC
      rw [bo_t.mpr hC]
      by_cases ej : j = v
      · subst ej
        have x1 : ¬ gso b0v (vc σ w j) (vc σ w j) := fun z => gso_asym z z
        rw [bo_f.mpr (fun z => x1 z.2), bo_f.mpr (fun z => by have := z.2.2; rw [orn_y] at this; omega), bo_t.mpr ⟨rfl, hC⟩]; rfl
      · rw [bo_f.mpr (fun z => ej z.1 : ¬ (j = v ∧ C w v))]
        have e0 : orn (xs σ) (pY σ) v w j = orn (xs σ) (pY σ) w j v := orn_c
        have e1 : orn (xs σ) (pY σ) w v j = - orn (xs σ) (pY σ) w j v := orn_s
        have nv : ¬ xs σ w < xs σ v := by omega
        rcases Int.lt_or_gt_of_ne (xne w j hw hj wj) with k | k
        · rw [bo_t.mpr ⟨hC, gso_b0.mpr (Or.inl ⟨k, nv⟩)⟩, bo_f.mpr (fun z => by have := z.2.1; omega)]; rfl
        · -- both to the left
          have nz : orn (xs σ) (pY σ) w j v ≠ 0 := fun z => by
            rw [xs_orn] at z
            have z0 : gcr (vc σ w j) (vc σ w v) = 0 := by omega
            have z1 := gcr_anti (vc σ w v) (vc σ w j)
            have r1 := b0_r (σ := σ) (v := w) (j := j)
            have r2 := b0_r (σ := σ) (v := w) (j := v)
            have t := gtot b0_p (G.1 j awj) (G.1 v hwv) (b0_n W hw hj wj) (b0_n W hw hv (fun q => vw q.symm)) (G.2 j v awj hwv ej)
            unfold gso at t
            rcases t with (⟨p, _⟩ | ⟨_, p⟩) | (⟨p, _⟩ | ⟨_, p⟩)
            · have := r1.mp p; omega
            · omega
            · have := r2.mp p; omega
            · omega
          by_cases s : 0 < orn (xs σ) (pY σ) w j v
          · rw [bo_f.mpr (fun z => by
              rcases gso_b0.mp z.2 with h | h
              · omega
              · omega), bo_t.mpr ⟨hC, k, by omega⟩]; rfl
          · rw [bo_t.mpr ⟨hC, gso_b0.mpr (Or.inr ⟨⟨fun h => by omega, fun h => by omega⟩, by omega⟩)⟩, bo_f.mpr (fun z => by have := z.2.2; omega)]; rfl
    · rw [bo_f.mpr (fun z => hC z.1), bo_f.mpr (fun z => hC z.1), bo_f.mpr (fun z => hC (by rw [z.1]; exact z.2)), bo_f.mpr hC]; rfl
  have fin : kap σ C (w, v) = xor (Qc σ C w) (Tc σ C w v) := rfl
  rw [fin, ← eL, S, eR, ← eT]
  cases Qc σ C w <;> cases Tc σ C w v <;> cases xf (fun a => bo (C w a ∧ xs σ a < xs σ w ∧ 0 < orn (xs σ) (pY σ) v w a)) 9 <;> rfl
theorem kap_op {σ : mm_S} {n m v w : Nat} {C : Nat → Nat → Prop} (W : PW σ n m) (H : CE σ m C) (hv : rmx m v) (hvw : aj σ v w) : kap σ C (w, v) = xor (kap σ C (v, w)) (bo (C v w)) := by
  obtain ⟨hw, vw, hwv, _⟩ := W.ed hv hvw
  rcases Int.lt_or_gt_of_ne (fun e => vw (W.xi hv hw e)) with k | k
  · exact kap_r W H hv hvw k
  · have := kap_r W H hw hwv k
    rw [this, bo_cg (show C w v ↔ C v w from ⟨H.1 w v, H.1 v w⟩)]
    cases kap σ C (w, v) <;> cases bo (C v w) <;> rfl
/-- a face has one colour -/
theorem kap_ph {σ : mm_S} {n m : Nat} {C : Nat → Nat → Prop} {B : Nat → Nat → Nat} (W : PW σ n m) (H : CE σ m C) (hB : BN σ m B) {x : Nat × Nat} (hx : Dt σ m x) : kap σ C (ph B x) = kap σ C x := by
  obtain ⟨i, j⟩ := x
  have hi : rmx m i := ⟨hx.1, hx.2.1⟩
  obtain ⟨hj, ne, hji, _⟩ := W.ed hi hx.2.2
  have hn := hB j i hj.1 hj.2 hji
  have e1 := kap_nx W H hj hn
  have e2 := kap_op W H hi hx.2.2
  show xor (Qc σ C j) (Tc σ C j (B j i)) = kap σ C (i, j)
  have e3 : xor (Qc σ C j) (Tc σ C j i) = xor (kap σ C (i, j)) (bo (C i j)) := e2
  rw [e1, bo_cg (show C j i ↔ C i j from ⟨H.1 j i, H.1 i j⟩)]
  cases hq : Qc σ C j <;> cases ht : Tc σ C j i <;> cases hk : kap σ C (i, j) <;> cases hb : bo (C i j) <;> rw [hq, ht, hk, hb] at e3 <;> first | rfl | exact absurd e3 (by decide)
theorem kap_it {σ : mm_S} {n m : Nat} {C : Nat → Nat → Prop} {B : Nat → Nat → Nat} (W : PW σ n m) (H : CE σ m C) (hB : BN σ m B) {x : Nat × Nat} (hx : Dt σ m x) : ∀ k, kap σ C (it (ph B) x k) = kap σ C x
  | 0 => rfl
  | k + 1 => by
    show kap σ C (ph B (it (ph B) x k)) = _
    rw [kap_ph W H hB (it_D (D := Dt σ m) (fun x h => pn_D W.1 hB x h) hx k)]
    exact kap_it W H hB hx k
/-- outside it is all one -/
theorem kap_o {σ : mm_S} {n m s t : Nat} {C : Nat → Nat → Prop} (W : PW σ n m) (H : CE σ m C) (hs : wms σ m 9 s) (ht : nms σ s 9 t) : kap σ C (s, t) = false := by
  have rs : rmx m s := ⟨hs.1, hs.2.2.1⟩
  have least : ∀ a, rmx m a → ¬ xs σ a < xs σ s := fun a ha h => by
    have := hs.2.2.2 a ha.1 ha.2
    have g1 := W.1.xy a ha.1 ha.2
    have g2 := W.1.xy s rs.1 rs.2
    unfold cG at g1 g2
    unfold fw at this
    unfold xs at h
    omega
  have q : Qc σ C s = false := xf_0 9 (fun a _ => xf_0 9 (fun b _ => bo_f.mpr (fun z => least a (H.2.1 a b z.1).1 z.2.1)))
  have t' : Tc σ C s t = false := xf_0 9 (fun j _ => bo_f.mpr (fun ⟨hC, hg⟩ => by
    obtain ⟨_, hj⟩ := H.2.1 s j hC
    by_cases e : j = t
    · subst e; exact gso_asym hg hg
    · have n1 := ht.2.2 j hj.1 hj e
      have r1 := least t (W.ed rs ht.1).1
      have x1 : xs σ s < xs σ t := by
        rcases Int.lt_trichotomy (xs σ s) (xs σ t) with k | k | k
        · exact k
        · exact absurd (W.xi rs (W.ed rs ht.1).1 k) (W.ed rs ht.1).2.1
        · exact absurd k r1
      rcases gso_b0.mp hg with h | h
      · exact h.2 x1
      · have := h.2
        rw [xs_orn] at this
        omega))
  show xor (Qc σ C s) (Tc σ C s t) = false
  rw [q, t']; rfl
end
section
-- what holds along a spanning set of joins, and passes over triangles, holds along all
theorem xf_pair {r s z : Nat} (hr : r < 9) (hs : s < 9) (ne : r ≠ s) : xf (fun j => bo ((z = r ∧ j = s) ∨ (z = s ∧ j = r))) 9 = xor (bo (z = r)) (bo (z = s)) := by
  by_cases e1 : z = r
  · subst e1
    rw [xf_1 (i := s) 9 hs (fun j _ nj => bo_f.mpr (fun h => by
      rcases h with h | h
      · exact nj h.2
      · exact ne h.1)), bo_t.mpr (Or.inl ⟨rfl, rfl⟩), bo_t.mpr rfl, bo_f.mpr ne]; rfl
  · by_cases e2 : z = s
    · subst e2
      rw [xf_1 (i := r) 9 hr (fun j _ nj => bo_f.mpr (fun h => by
        rcases h with h | h
        · exact ne h.1.symm
        · exact nj h.2)), bo_t.mpr (Or.inr ⟨rfl, rfl⟩), bo_f.mpr e1, bo_t.mpr rfl]; rfl
    · rw [xf_0 9 (fun j _ => bo_f.mpr (fun h => by
        rcases h with h | h
        · exact e1 h.1
        · exact e2 h.1)), bo_f.mpr e1, bo_f.mpr e2]; rfl
theorem bo_xor {P Q : Prop} : bo (¬ (P ↔ Q)) = xor (bo P) (bo Q) := by
  by_cases h : P <;> by_cases k : Q
  · rw [bo_t.mpr h, bo_t.mpr k, bo_f.mpr (fun z => z ⟨fun _ => k, fun _ => h⟩)]; rfl
  · rw [bo_t.mpr h, bo_f.mpr k, bo_t.mpr (fun z => k (z.mp h))]; rfl
  · rw [bo_f.mpr h, bo_t.mpr k, bo_t.mpr (fun z => h (z.mpr k))]; rfl
  · rw [bo_f.mpr h, bo_f.mpr k, bo_f.mpr (fun z => z ⟨fun y => absurd y h, fun y => absurd y k⟩)]; rfl
def spn (σ : mm_S) (m : Nat) (Gd : Nat → Nat → Prop) : Prop := ∀ S : Nat → Prop, (∃ i, rmx m i ∧ S i) → (∀ i j, rmx m i → S i → aj σ i j → Gd i j → S j) → ∀ i, rmx m i → S i
theorem cyc {σ : mm_S} {n m a b : Nat} {Gd : Nat → Nat → Prop} (W : PW σ n m) (sy : ∀ i j, Gd i j → Gd j i) (con : spn σ m Gd) (ha : rmx m a) (hab : aj σ a b) (nb : ¬ Gd a b) : ∃ C, CE σ m C ∧ C a b ∧ ∀ i j, C i j → Gd i j ∨ (i = a ∧ j = b) ∨ (i = b ∧ j = a) := by
  obtain ⟨hb, ab, hba, _⟩ := W.ed ha hab
  have reach := con (fun r => ∃ P : Nat → Nat → Prop, (∀ i j, P i j → P j i) ∧ (∀ i j, P i j → rmx m i ∧ aj σ i j ∧ Gd i j) ∧ ∀ z, z < 9 → xf (fun j => bo (P z j)) 9 = xor (bo (z = a)) (bo (z = r))) ⟨a, ha, fun _ _ => False, fun _ _ h => h.elim, fun _ _ h => h.elim, fun z _ => by
      rw [xf_0 9 (fun j _ => bo_f.mpr (fun h => h))]
      cases bo (z = a) <;> rfl⟩ (fun r r' hr ⟨P, p1, p2, p3⟩ hrr g => by
      obtain ⟨hr', rr, hr'r, _⟩ := W.ed hr hrr
      refine ⟨fun i j => ¬ (P i j ↔ ((i = r ∧ j = r') ∨ (i = r' ∧ j = r))), fun i j h q => h ⟨fun x => ?_, fun x => ?_⟩, fun i j h => ?_, fun z hz => ?_⟩
      · rcases q.mp (p1 i j x) with y | y
        · exact Or.inr ⟨y.2, y.1⟩
        · exact Or.inl ⟨y.2, y.1⟩
      · refine p1 j i (q.mpr ?_)
        rcases x with y | y
        · exact Or.inr ⟨y.2, y.1⟩
        · exact Or.inl ⟨y.2, y.1⟩
      · by_cases x : P i j
        · exact p2 i j x
        · by_cases y : (i = r ∧ j = r') ∨ (i = r' ∧ j = r)
          · rcases y with ⟨rfl, rfl⟩ | ⟨rfl, rfl⟩
            · exact ⟨hr, hrr, g⟩
            · exact ⟨hr', hr'r, sy _ _ g⟩
          · exact absurd ⟨fun k => absurd k x, fun k => absurd k y⟩ h
      · rw [xf_cg 9 (fun j _ => bo_xor), xf_x, p3 z hz, xf_pair hr.1 hr'.1 rr]
        cases bo (z = a) <;> cases bo (z = r) <;> cases bo (z = r') <;> rfl) b hb
  obtain ⟨P, p1, p2, p3⟩ := reach
  refine ⟨fun i j => ¬ (P i j ↔ ((i = a ∧ j = b) ∨ (i = b ∧ j = a))), ⟨fun i j h q => h ⟨fun x => ?_, fun x => ?_⟩, fun i j h => ?_, fun z hz => ?_⟩, fun q => nb (p2 a b (q.mpr (Or.inl ⟨rfl, rfl⟩))).2.2, fun i j h => ?_⟩
  · rcases q.mp (p1 i j x) with y | y
    · exact Or.inr ⟨y.2, y.1⟩
    · exact Or.inl ⟨y.2, y.1⟩
  · refine p1 j i (q.mpr ?_)
    rcases x with y | y
    · exact Or.inr ⟨y.2, y.1⟩
    · exact Or.inl ⟨y.2, y.1⟩
  · by_cases x : P i j
    · exact ⟨(p2 i j x).1, (p2 i j x).2.1⟩
    · by_cases y : (i = a ∧ j = b) ∨ (i = b ∧ j = a)
      · rcases y with ⟨rfl, rfl⟩ | ⟨rfl, rfl⟩
        · exact ⟨ha, hab⟩
        · exact ⟨hb, hba⟩
      · exact absurd ⟨fun k => absurd k x, fun k => absurd k y⟩ h
  · rw [xf_cg 9 (fun j _ => bo_xor), xf_x, p3 z hz, xf_pair ha.1 hb.1 ab]
    cases bo (z = a) <;> cases bo (z = b) <;> rfl
  · by_cases x : P i j
    · exact Or.inl (p2 i j x).2.2
    · by_cases y : (i = a ∧ j = b) ∨ (i = b ∧ j = a)
      · exact Or.inr y
      · exact absurd ⟨fun k => absurd k x, fun k => absurd k y⟩ h
/-- inner faces are triangles -/
def TRf (σ : mm_S) (m : Nat) (B : Nat → Nat → Nat) (lab : Nat × Nat → Int32) : Prop := ∀ x, Dt σ m x → ¬ lab x = -1 → ph B (ph B (ph B x)) = x ∧ ph B x ≠ x ∧ ph B (ph B x) ≠ x
/-- labels of faces -/
def FLl (σ : mm_S) (m : Nat) (B : Nat → Nat → Nat) (f : Nat) (lab : Nat × Nat → Int32) : Prop := f ≤ 42 ∧ (∀ x, Dt σ m x → lab (ph B x) = lab x) ∧ (∀ x, Dt σ m x → lab x = -1 ∨ ∃ g, g < f ∧ lab x = nI g) ∧ ∀ g, g < f → ∃ x, Dt σ m x ∧ lab x = nI g ∧ ∀ y, Dt σ m y → lab y = nI g → ∃ k, y = it (ph B) x k
theorem peel {σ : mm_S} {n m f : Nat} {B : Nat → Nat → Nat} {lab : Nat × Nat → Int32} {Gd : Nat → Nat → Prop} (W : PW σ n m) (hB : BN σ m B) (FL : FLl σ m B f lab) (TR : TRf σ m B lab) (sy : ∀ i j, Gd i j → Gd j i) (con : spn σ m Gd) (out : ∀ x, Dt σ m x → lab x = -1 → Gd x.1 x.2) (tri : ∀ x, Dt σ m x → ¬ lab x = -1 → Gd (ph B x).1 (ph B x).2 → Gd (ph B (ph B x)).1 (ph B (ph B x)).2 → Gd x.1 x.2) : ∀ a b, rmx m a → aj σ a b → Gd a b := by
  obtain ⟨f42, l1, l2, l4⟩ := FL
  intro a b ha hab
  rcases Classical.em (Gd a b) with q | nG
  · exact q
  exfalso
  have hD := fun x h => pn_D W.1 hB x h
  -- bad darts
  have rev : ∀ x : Nat × Nat, Dt σ m x → Dt σ m (x.2, x.1) := fun x hx => by
    obtain ⟨h1, _, h3, _⟩ := W.ed ⟨hx.1, hx.2.1⟩ hx.2.2
    exact ⟨h1.1, h1.2, h3⟩
  have inn : ∀ x : Nat × Nat, Dt σ m x → ¬ Gd x.1 x.2 → ¬ lab x = -1 := fun x hx nx e => nx (out x hx e)
  have stp : ∀ x : Nat × Nat, ∃ y, Dt σ m x ∧ ¬ Gd x.1 x.2 → (y = ph B x ∨ y = ph B (ph B x)) ∧ Dt σ m y ∧ ¬ Gd y.1 y.2 := fun x => by
    by_cases hx : Dt σ m x ∧ ¬ Gd x.1 x.2
    · by_cases g1 : Gd (ph B x).1 (ph B x).2
      · by_cases g2 : Gd (ph B (ph B x)).1 (ph B (ph B x)).2
        · exact absurd (tri x hx.1 (inn x hx.1 hx.2) g1 g2) hx.2
        · exact ⟨_, fun _ => ⟨Or.inr rfl, hD _ (hD _ hx.1), g2⟩⟩
      · exact ⟨_, fun _ => ⟨Or.inl rfl, hD _ hx.1, g1⟩⟩
    · exact ⟨x, fun h => absurd h hx⟩
  obtain ⟨gn, hgn⟩ : ∃ gn : Nat × Nat → Nat × Nat, ∀ x, Dt σ m x ∧ ¬ Gd x.1 x.2 → (gn x = ph B x ∨ gn x = ph B (ph B x)) ∧ Dt σ m (gn x) ∧ ¬ Gd (gn x).1 (gn x).2 := ⟨fun x => (stp x).choose, fun x => (stp x).choose_spec⟩
  -- the walk
  obtain ⟨X, hX0, hXs⟩ : ∃ X : Nat → Nat × Nat, X 0 = (a, b) ∧ ∀ k, X (k + 1) = ((gn (X k)).2, (gn (X k)).1) := ⟨it (fun x => ((gn x).2, (gn x).1)) (a, b), rfl, fun _ => rfl⟩
  have bad : ∀ k, Dt σ m (X k) ∧ ¬ Gd (X k).1 (X k).2 := by
    intro k
    induction k with
    | zero => rw [hX0]; exact ⟨⟨ha.1, ha.2, hab⟩, nG⟩
    | succ k ih =>
      obtain ⟨_, h2, h3⟩ := hgn _ ih
      rw [hXs]
      exact ⟨rev _ h2, fun q => h3 (sy _ _ q)⟩
  have labg : ∀ k, lab (gn (X k)) = lab (X k) := fun k => by
    rcases (hgn _ (bad k)).1 with e | e
    · rw [e]; exact l1 _ (bad k).1
    · rw [e, l1 _ (hD _ (bad k).1)]; exact l1 _ (bad k).1
  have gne : ∀ k, gn (X k) ≠ X k := fun k => by
    obtain ⟨_, t2, t3⟩ := TR _ (bad k).1 (inn _ (bad k).1 (bad k).2)
    rcases (hgn _ (bad k)).1 with e | e
    · rw [e]; exact t2
    · rw [e]; exact t3
  have same : ∀ {C : Nat → Nat → Prop}, CE σ m C → ∀ x y, Dt σ m x → Dt σ m y → ¬ lab x = -1 → lab x = lab y → kap σ C x = kap σ C y := fun {C} H x y hx hy nx e => by
    rcases l2 x hx with h | ⟨g, hg, h⟩
    · exact absurd h nx
    · obtain ⟨z, z1, _, z3⟩ := l4 g hg
      obtain ⟨i, ei⟩ := z3 x hx h
      obtain ⟨j, ej⟩ := z3 y hy (by rw [← e]; exact h)
      rw [ei, ej, kap_it W H hB z1, kap_it W H hB z1]
  have dis : ∀ g i, 1 ≤ g → lab (X (i + g)) ≠ lab (X i) := by
    intro g
    induction g using Nat.strongRecOn with
    | ind g IH =>
      intro i g1 eq
      obtain ⟨_, y2, y3⟩ := hgn _ (bad i)
      have ie : ¬ lab (X i) = -1 := inn _ (bad i).1 (bad i).2
      obtain ⟨C, H, C1, C2⟩ := cyc W sy con ⟨y2.1, y2.2.1⟩ y2.2.2 y3
      have k1 : kap σ C (gn (X i)) = kap σ C (X i) := same H _ _ y2 (bad i).1 (by rw [labg]; exact ie) (labg i)
      have k2 : kap σ C (X (i + 1)) = xor (kap σ C (X i)) true := by
        rw [hXs, kap_op W H ⟨y2.1, y2.2.1⟩ y2.2.2, bo_t.mpr C1]
        rw [← k1]
      have run : ∀ j, j + 1 ≤ g → kap σ C (X (i + 1 + j)) = kap σ C (X (i + 1)) := by
        intro j
        induction j with
        | zero => intro _; rfl
        | succ j ihj =>
          intro hj
          have e0 := ihj (by omega)
          obtain ⟨_, z2, z3⟩ := hgn _ (bad (i + 1 + j))
          have zi : ¬ lab (X (i + 1 + j)) = -1 := inn _ (bad _).1 (bad _).2
          have kz : kap σ C (gn (X (i + 1 + j))) = kap σ C (X (i + 1 + j)) := same H _ _ z2 (bad _).1 (by rw [labg]; exact zi) (labg _)
          have nC : ¬ C (gn (X (i + 1 + j))).1 (gn (X (i + 1 + j))).2 := fun hC => by
            rcases C2 _ _ hC with h | ⟨h1, h2⟩ | ⟨h1, h2⟩
            · exact z3 h
            · have e : gn (X (i + 1 + j)) = gn (X i) := Prod.ext h1 h2
              rw [e, k1, e0, k2] at kz
              cases hk : kap σ C (X i) <;> rw [hk] at kz <;> exact absurd kz (by decide)
            · have e : gn (X (i + 1 + j)) = X (i + 1) := by rw [hXs]; exact Prod.ext h1 h2
              rcases Nat.eq_zero_or_pos j with j0 | j0
              · subst j0
                exact gne (i + 1) e
              · refine IH j (by omega) (i + 1) j0 ?_
                rw [← labg, e]
          show kap σ C (X (i + 1 + j + 1)) = _
          rw [hXs, kap_op W H ⟨z2.1, z2.2.1⟩ z2.2.2, bo_f.mpr nC, kz, e0]
          cases kap σ C (X (i + 1)) <;> rfl
      have e1 := run (g - 1) (by omega)
      rw [show i + 1 + (g - 1) = i + g by omega, k2, same H _ _ (bad (i + g)).1 (bad i).1 (by rw [eq]; exact ie) eq] at e1
      cases hk : kap σ C (X i) <;> rw [hk] at e1 <;> exact absurd e1 (by decide)
  -- too many faces
  have exh : ∀ k, ∃ h, h < f ∧ lab (X k) = nI h := fun k => (l2 _ (bad k).1).resolve_left (inn _ (bad k).1 (bad k).2)
  obtain ⟨i, j, h1, h2, h3⟩ := pig f (fun k => (exh k).choose) (fun k _ => (exh k).choose_spec.1)
  refine dis (j - i) i (by omega) ?_
  rw [show i + (j - i) = j by omega, (exh j).choose_spec.2, (exh i).choose_spec.2]
  exact congrArg nI h3.symm
end
section
-- inner faces of at most three rooms are triangles
theorem bcf4 {M a b c e : Nat} (ha : a < 9) (hb : b < 9) (hc : c < 9) (he : e < 9) (n1 : a ≠ b) (n2 : a ≠ c) (n3 : a ≠ e) (n4 : b ≠ c) (n5 : b ≠ e) (n6 : c ≠ e) (ta : M.testBit a = true) (tb : M.testBit b = true) (tc : M.testBit c = true) (te : M.testBit e = true) : 4 ≤ bc M 13 := by
  have h3 := bcz_3 (n := 13) (show a < 13 by omega) (show b < 13 by omega) (show c < 13 by omega) n1 n2 n4
  have ne : ¬ (2 ^ a ||| 2 ^ b ||| 2 ^ c).testBit e = true := fun h => by
    rcases b3_t.mp h with q | q | q
    · exact n3 q
    · exact n5 q
    · exact n6 q
  have h4 : bc (2 ^ a ||| 2 ^ b ||| 2 ^ c ||| 2 ^ e) 13 = 4 := by rw [bc_add ne, h3, if_pos (by omega)]
  rw [← h4]
  refine bc_le 13 (fun j _ h => ?_)
  rcases tb_or.mp h with q | q
  · rcases b3_t.mp q with q | q | q
    · rw [← q]; exact ta
    · rw [← q]; exact tb
    · rw [← q]; exact tc
  · rw [q]; exact te
theorem FLp_l {σ : mm_S} {m s t L f : Nat} {B : Nat → Nat → Nat} {Mk : Nat → Nat} (FL : FLp σ m B s t L f Mk) : ∃ lab, FLl σ m B f lab ∧ (∀ x, Dt σ m x → (lab x = -1 ↔ ∃ k, k < L ∧ x = (wo B s t k, wo B s t (k + 1)))) ∧ ∀ g, g < f → Mk g < 512 ∧ ∀ a, a < 9 → ((Mk g).testBit a = true ↔ ∃ b, Dt σ m (a, b) ∧ lab (a, b) = nI g) := by
  obtain ⟨f42, lab, l1, l2, l3, l4⟩ := FL
  exact ⟨lab, ⟨f42, l1, l2, fun g hg => (l4 g hg).2.2⟩, l3, fun g hg => ⟨(l4 g hg).1, (l4 g hg).2.1⟩⟩
theorem two_nb {σ : mm_S} {n m v b d : Nat} (W : PW σ n m) (hv : rmx m v) (h1 : nxt (aj σ v) (vc σ v) b d) (h2 : nxt (aj σ v) (vc σ v) d b) (ne : b ≠ d) : ∀ j, aj σ v j → j = b ∨ j = d := fun j hj => by
  by_cases jb : j = b
  · exact Or.inl jb
  · by_cases jd : j = d
    · exact Or.inr jd
    · exfalso
      have G := W.1.gdd W.2.1 hv.1 hv.2
      have ab := h1.1
      have ad := h1.2.1
      rcases h1.2.2 with ⟨q, _⟩ | ⟨_, k1⟩
      · exact ne q.symm
      · rcases h2.2.2 with ⟨q, _⟩ | ⟨_, k2⟩
        · exact ne q
        · have x1 := k1 j hj jb jd
          have x2 := k2 j hj jd jb
          have y1 := grot (G.1 b ab) (G.1 d ad) (G.1 j hj) (G.2 b d ab ad ne) (G.2 b j ab hj (fun q => jb q.symm)) (G.2 j b hj ab jb) (G.2 j d hj ad jd) x1
          have y2 := grot (G.1 d ad) (G.1 b ab) (G.1 j hj) (G.2 d b ad ab (fun q => ne q.symm)) (G.2 d j ad hj (fun q => jd q.symm)) (G.2 j d hj ad jd) (G.2 j b hj ab jb) x2
          exact gso_asym y1 y2
theorem TRx {σ : mm_S} {n m s t f : Nat} {B : Nat → Nat → Nat} {Mk : Nat → Nat} {lab : Nat × Nat → Int32} (W : PW σ n m) (Z : Cn σ m) (h3 : 3 ≤ bc m 9) (hB : BN σ m B) (FL : FLl σ m B f lab) (hst : Dt σ m (s, t)) (lst : lab (s, t) = -1) (mk : ∀ g, g < f → Mk g < 512 ∧ ∀ a, a < 9 → ((Mk g).testBit a = true ↔ ∃ b, Dt σ m (a, b) ∧ lab (a, b) = nI g)) (sm : ∀ g, g < f → bc (Mk g) 13 ≤ 3) {a b g : Nat} (hx : Dt σ m (a, b)) (hg : g < f) (lx : lab (a, b) = nI g) :
    ∃ c, c < 9 ∧ a ≠ b ∧ c ≠ a ∧ c ≠ b ∧ B b a = c ∧ B c b = a ∧ B a c = b ∧ Dt σ m (b, c) ∧ Dt σ m (c, a) ∧ lab (b, c) = nI g ∧ lab (c, a) = nI g ∧ ∀ r, r < 9 → ((Mk g).testBit r = true ↔ r = a ∨ r = b ∨ r = c) := by
  obtain ⟨f42, l1, l2, _⟩ := FL
  have hD := fun x h => pn_D W.1 hB x h
  have bit : ∀ r q, Dt σ m (r, q) → lab (r, q) = nI g → r < 9 ∧ (Mk g).testBit r = true := fun r q h e => ⟨h.1, ((mk g hg).2 r h.1).mpr ⟨q, h, e⟩⟩
  -- never a fourth
  have nof : ∀ r1 r2 r3 r4 q1 q2 q3 q4, Dt σ m (r1, q1) → lab (r1, q1) = nI g → Dt σ m (r2, q2) → lab (r2, q2) = nI g → Dt σ m (r3, q3) → lab (r3, q3) = nI g → Dt σ m (r4, q4) → lab (r4, q4) = nI g → r1 ≠ r2 → r1 ≠ r3 → r2 ≠ r3 → r4 ≠ r1 → r4 ≠ r2 → r4 = r3 := fun r1 r2 r3 r4 q1 q2 q3 q4 d1 e1 d2 e2 d3 e3 d4 e4 n1 n2 n3 n4 n5 => by
    by_cases q : r4 = r3
    · exact q
    · exfalso
      have x1 := bit r1 q1 d1 e1
      have x2 := bit r2 q2 d2 e2
      have x3 := bit r3 q3 d3 e3
      have x4 := bit r4 q4 d4 e4
      have := bcf4 x1.1 x2.1 x3.1 x4.1 n1 n2 (fun z => n4 z.symm) n3 (fun z => n5 z.symm) (fun z => q z.symm) x1.2 x2.2 x3.2 x4.2
      have := sm g hg
      omega
  have step : ∀ p q, Dt σ m (p, q) → lab (p, q) = nI g → Dt σ m (q, B q p) ∧ lab (q, B q p) = nI g ∧ p ≠ q ∧ nxt (aj σ q) (vc σ q) p (B q p) := fun p q h e => by
    obtain ⟨hq, ne, hqp, _⟩ := W.ed ⟨h.1, h.2.1⟩ h.2.2
    exact ⟨hD _ h, (l1 _ h).trans e, ne, hB q p hq.1 hq.2 hqp⟩
  have ng : ¬ nI g = -1 := nI_m1 (by omega)
  -- it never turns back
  have N : ∀ p q, Dt σ m (p, q) → lab (p, q) = nI g → B q p ≠ p := fun p q h e back => by
    obtain ⟨d1, e1, pq, n1⟩ := step p q h e
    rw [back] at d1 e1 n1
    have only : ∀ j, aj σ q j → j = p := by
      rcases n1.2.2 with ⟨_, y⟩ | ⟨y, _⟩
      · exact y
      · exact absurd rfl y
    obtain ⟨d2, e2, _, n2⟩ := step q p d1 e1
    by_cases dq : B p q = q
    · -- two rooms alone
      rw [dq] at n2
      have only' : ∀ j, aj σ p j → j = q := by
        rcases n2.2.2 with ⟨_, y⟩ | ⟨y, _⟩
        · exact y
        · exact absurd rfl y
      have all := Z (fun r => r = p ∨ r = q) ⟨p, h.1, h.2.1, Or.inl rfl⟩ (fun i j _ _ hi hij => by
        rcases hi with hi | hi
        · subst hi; exact Or.inr (only' j hij)
        · subst hi; exact Or.inl (only j hij))
      have le : bc m 9 ≤ bc (2 ^ p ||| 2 ^ q) 9 := bc_le 9 (fun j hj hm => by
        rcases all j hj hm with q' | q'
        · rw [q', tb_or]; left; rw [Nat.testBit_two_pow]; simp
        · rw [q', tb_or]; exact Or.inr rfl)
      have two : bc (2 ^ p ||| 2 ^ q) 9 = 2 := by
        have n0 : ¬ (2 ^ p).testBit q = true := by rw [Nat.testBit_two_pow]; simp [pq]
        have z0 : bc (0 ||| 2 ^ p) 9 = bc 0 9 + if p < 9 then 1 else 0 := bc_add (by simp) 9
        rw [bc_add n0, show (2 : Nat) ^ p = 0 ||| 2 ^ p by simp, z0, show bc 0 9 = 0 by decide, if_pos h.1, if_pos d1.1]
      omega
    · have dp : B p q ≠ p := fun z => by rw [z] at d2; exact (step q p d1 e1).2.2.1 (by have := (W.ed ⟨d2.1, d2.2.1⟩ d2.2.2).2.1; exact absurd rfl this)
      obtain ⟨d3, e3, _, n3⟩ := step p (B p q) d2 e2
      by_cases eb : B (B p q) p = p
      · rw [eb] at d3 e3 n3
        have only2 : ∀ j, aj σ (B p q) j → j = p := by
          rcases n3.2.2 with ⟨_, y⟩ | ⟨y, _⟩
          · exact y
          · exact absurd rfl y
        obtain ⟨d4, e4, _, n4⟩ := step (B p q) p d3 e3
        -- back to q
        have hb : B p (B p q) = q := by
          have x1 : B p (B p q) ≠ p := fun z => by rw [z] at d4; exact absurd rfl (W.ed ⟨d4.1, d4.2.1⟩ d4.2.2).2.1
          by_cases z : B p (B p q) = B p q
          · exfalso
            rcases n4.2.2 with ⟨_, y⟩ | ⟨y, _⟩
            · exact dq (y q n2.1).symm
            · exact y z
          · obtain ⟨d5, e5, _⟩ := step p _ d4 e4
            exact nof p (B p q) q _ _ _ _ _ h e d3 e3 d1 e1 d5 e5 (fun y => dp y.symm) pq dq x1 z
        rw [hb] at n4
        have nb := two_nb W ⟨h.1, h.2.1⟩ n2 n4 (fun y => dq y.symm)
        have all := Z (fun r => r = p ∨ r = q ∨ r = B p q) ⟨p, h.1, h.2.1, Or.inl rfl⟩ (fun i j _ _ hi hij => by
          rcases hi with hi | hi | hi
          · subst hi; exact Or.inr (nb j hij)
          · subst hi; exact Or.inl (only j hij)
          · subst hi; exact Or.inl (only2 j hij))
        have lab2 : ∀ i j, Dt σ m (i, j) → lab (i, j) = nI g := fun i j hij => by
          rcases all i hij.1 hij.2.1 with y | y | y
          · subst y
            rcases nb j hij.2.2 with y | y
            · subst y; exact e
            · subst y; exact e2
          · subst y
            rw [only j hij.2.2]; exact e1
          · subst y
            rw [only2 j hij.2.2]; exact e3
        exact ng ((lab2 s t hst).symm.trans lst)
      · obtain ⟨d4, e4, _⟩ := step (B p q) _ d3 e3
        have x1 : B (B p q) p ≠ B p q := fun z => by rw [z] at d3; exact absurd rfl (W.ed ⟨d3.1, d3.2.1⟩ d3.2.2).2.1
        have eq : B (B p q) p = q := nof p (B p q) q _ _ _ _ _ h e d3 e3 d1 e1 d4 e4 (fun y => dp y.symm) pq dq eb x1
        rw [eq] at d3
        exact dp (only _ (W.ed ⟨d3.1, d3.2.1⟩ d3.2.2).2.2.1)
  obtain ⟨d1, e1, ab, n1⟩ := step a b hx lx
  have ca := N a b hx lx
  have cb : B b a ≠ b := fun z => by rw [z] at d1; exact absurd rfl (W.ed ⟨d1.1, d1.2.1⟩ d1.2.2).2.1
  obtain ⟨d2, e2, _, _⟩ := step b _ d1 e1
  have eb := N b _ d1 e1
  have ec : B (B b a) b ≠ B b a := fun z => by rw [z] at d2; exact absurd rfl (W.ed ⟨d2.1, d2.2.1⟩ d2.2.2).2.1
  obtain ⟨d3, e3, _, _⟩ := step _ _ d2 e2
  have ea : B (B b a) b = a := nof b (B b a) a _ _ _ _ _ d1 e1 d2 e2 hx lx d3 e3 (fun z => cb z.symm) (fun z => ab z.symm) ca eb ec
  rw [ea] at d2 e2 d3 e3
  have fc := N _ _ d2 e2
  have fa : B a (B b a) ≠ a := fun z => by rw [z] at d3; exact absurd rfl (W.ed ⟨d3.1, d3.2.1⟩ d3.2.2).2.1
  obtain ⟨d4, e4, _, _⟩ := step _ _ d3 e3
  have fb : B a (B b a) = b := nof a (B b a) b _ _ _ _ _ hx lx d2 e2 d1 e1 d4 e4 (fun z => ca z.symm) ab cb fa fc
  refine ⟨B b a, d2.1, ab, ca, cb, rfl, ea, fb, d1, d2, e1, e2, fun r hr => ⟨fun h => ?_, fun h => ?_⟩⟩
  · obtain ⟨q, d, e⟩ := ((mk g hg).2 r hr).mp h
    by_cases ra : r = a
    · exact Or.inl ra
    · by_cases rb : r = b
      · exact Or.inr (Or.inl rb)
      · exact Or.inr (Or.inr (nof a b (B b a) r _ _ _ _ hx lx d1 e1 d2 e2 d e ab (fun z => ca z.symm) (fun z => cb z.symm) ra rb))
  · rcases h with h | h | h
    · subst h; exact (bit _ _ hx lx).2
    · subst h; exact (bit _ _ d1 e1).2
    · subst h; exact (bit _ _ d2 e2).2
end

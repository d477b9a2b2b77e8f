-- two lines that don't cross: one lies above the other at both ends of where they overlap
def orn (X Y : Nat → Int) (a b c : Nat) : Int := (X b - X a) * (Y c - Y a) - (Y b - Y a) * (X c - X a)
section ORN
variable {X Y : Nat → Int} {a b c u v : Nat}
theorem orn_c : orn X Y a b c = orn X Y b c a := by unfold orn; grind
theorem orn_s : orn X Y a c b = - orn X Y a b c := by unfold orn; grind
theorem orn_z : orn X Y a b b = 0 := by unfold orn; grind
theorem orn_y : orn X Y a b a = 0 := by unfold orn; grind
theorem orn_1 : orn X Y a b u * (X v - X u) + orn X Y u v a * (X b - X a) = (orn X Y a b v - orn X Y a b u) * (X u - X a) := by unfold orn; grind
theorem orn_2 : orn X Y a b u * (X v - X u) + orn X Y u v b * (X b - X a) = (orn X Y a b v - orn X Y a b u) * (X u - X b) := by unfold orn; grind
theorem orn_3 : orn X Y a b v * (X v - X u) + orn X Y u v a * (X b - X a) = (orn X Y a b v - orn X Y a b u) * (X v - X a) := by unfold orn; grind
theorem orn_4 : orn X Y a b v * (X v - X u) + orn X Y u v b * (X b - X a) = (orn X Y a b v - orn X Y a b u) * (X v - X b) := by unfold orn; grind
theorem orn_g : orn X Y u v b - orn X Y u v a = - (orn X Y a b v - orn X Y a b u) := by unfold orn; grind
end ORN
theorem mp_p {x y : Int} (h : 0 < x * y) (hy : 0 < y) : 0 < x := gmul_pos h hy
theorem mp_n {x y : Int} (h : x * y < 0) (hy : 0 < y) : x < 0 := by
  rcases Int.lt_or_le x 0 with k | k
  · exact k
  · have := Int.mul_nonneg k (Int.le_of_lt hy); omega
/-- the four ways to overlap -/
theorem k_A {fu fv ga gb C p q r s : Int} (hC : C = fv - fu) (hp : 0 < p) (hq : 0 < q) (hr : 0 < r) (hs : s < 0) (i1 : fu * p + ga * q = C * r) (i4 : fv * p + gb * q = C * s) (h1 : fu < 0) (h2 : 0 < fv) : 0 < ga ∧ gb < 0 := by
  have c : 0 < C := by omega
  have x1 := Int.mul_pos c hr
  have x2 := Int.mul_neg_of_pos_of_neg c hs
  have x3 := Int.mul_neg_of_neg_of_pos h1 hp
  have x4 := Int.mul_pos h2 hp
  exact ⟨mp_p (by omega) hq, mp_n (by omega) hq⟩
theorem k_B {fu fv ga gb C p q r s t : Int} (hp : 0 < p) (hq : 0 < q) (hr : 0 < r) (ht : t < 0) (hs : 0 < s) (i1 : fu * p + ga * q = C * r) (i2 : fu * p + gb * q = C * t) (i4 : fv * p + gb * q = C * s) (h1 : fu < 0) (h2 : gb < 0) : 0 < fv ∧ 0 < ga := by
  have x3 := Int.mul_neg_of_neg_of_pos h1 hp
  have x4 := Int.mul_neg_of_neg_of_pos h2 hq
  have c : 0 < C := by
    rcases Int.lt_or_le 0 C with k | k
    · exact k
    · have := Int.mul_nonneg_of_nonpos_of_nonpos k (Int.le_of_lt ht); omega
  have x1 := Int.mul_pos c hr
  have x2 := Int.mul_pos c hs
  exact ⟨mp_p (by omega) hp, mp_p (by omega) hq⟩
theorem k_C {fu fv ga gb C p q r s t : Int} (hp : 0 < p) (hq : 0 < q) (hr : r < 0) (ht : 0 < t) (hs : s < 0) (i1 : fu * p + ga * q = C * r) (i3 : fv * p + ga * q = C * t) (i4 : fv * p + gb * q = C * s) (h1 : 0 < ga) (h2 : 0 < fv) : fu < 0 ∧ gb < 0 := by
  have x3 := Int.mul_pos h2 hp
  have x4 := Int.mul_pos h1 hq
  have c : 0 < C := mp_p (y := t) (by omega) ht
  have x1 := Int.mul_neg_of_pos_of_neg c hr
  have x2 := Int.mul_neg_of_pos_of_neg c hs
  exact ⟨mp_n (by omega) hp, mp_n (by omega) hq⟩
theorem k_D {fu fv ga gb C p q r s : Int} (hC : gb - ga = - C) (hp : 0 < p) (hq : 0 < q) (hr : r < 0) (hs : 0 < s) (i1 : fu * p + ga * q = C * r) (i4 : fv * p + gb * q = C * s) (h1 : 0 < ga) (h2 : gb < 0) : fu < 0 ∧ 0 < fv := by
  have c : 0 < C := by omega
  have x1 := Int.mul_neg_of_pos_of_neg c hr
  have x2 := Int.mul_pos c hs
  have x3 := Int.mul_pos h1 hq
  have x4 := Int.mul_neg_of_neg_of_pos h2 hq
  exact ⟨mp_n (by omega) hp, mp_p (by omega) hp⟩
def crs (X Y : Nat → Int) (a b u v : Nat) : Prop := orn X Y a b u * orn X Y a b v < 0 ∧ orn X Y u v a * orn X Y u v b < 0
/-- ab lies above uv where the overlap begins, where it ends -/
def LCx (X Y : Nat → Int) (u v a b : Nat) : Prop := (X a < X u ∧ orn X Y a b u < 0) ∨ (a = u ∧ 0 < orn X Y u v b) ∨ (X u < X a ∧ 0 < orn X Y u v a)
def RCx (X Y : Nat → Int) (u v a b : Nat) : Prop := (X v < X b ∧ orn X Y a b v < 0) ∨ (b = v ∧ 0 < orn X Y u v a) ∨ (X b < X v ∧ 0 < orn X Y u v b)
theorem neg_i {x y z w p q r : Int} (h : x * p + y * q = z * r) (hx : w = 0) : (-x) * p + (-y) * q = (-z) * r := by
  rw [Int.neg_mul, Int.neg_mul, Int.neg_mul]; omega
theorem LR {X Y : Nat → Int} {a b u v : Nat} (hab : X a < X b) (huv : X u < X v) (o1 : X a < X v) (o2 : X u < X b) (ne : ¬ (a = u ∧ b = v)) (ja : a = u ∨ X a ≠ X u) (jb : b = v ∨ X b ≠ X v)
    (z1 : X a < X u → orn X Y a b u ≠ 0) (z2 : X u < X a → orn X Y u v a ≠ 0) (z3 : X v < X b → orn X Y a b v ≠ 0) (z4 : X b < X v → orn X Y u v b ≠ 0) (nc : ¬ crs X Y a b u v) : LCx X Y u v a b ↔ RCx X Y u v a b := by
  unfold LCx RCx
  have hp : 0 < X v - X u := by omega
  have hq : 0 < X b - X a := by omega
  have i1 := orn_1 (X := X) (Y := Y) (a := a) (b := b) (u := u) (v := v)
  have i2 := orn_2 (X := X) (Y := Y) (a := a) (b := b) (u := u) (v := v)
  have i3 := orn_3 (X := X) (Y := Y) (a := a) (b := b) (u := u) (v := v)
  have i4 := orn_4 (X := X) (Y := Y) (a := a) (b := b) (u := u) (v := v)
  have ig := orn_g (X := X) (Y := Y) (a := a) (b := b) (u := u) (v := v)
  have nc1 : ¬ (orn X Y a b u * orn X Y a b v < 0 ∧ orn X Y u v a * orn X Y u v b < 0) := nc
  rcases ja with ja | ja
  · subst ja
    rcases jb with jb | jb
    · exact absurd ⟨rfl, jb⟩ ne
    · have e : orn X Y a b v = - orn X Y a v b := orn_s
      constructor
      · rintro (h | h | h)
        · omega
        · rcases Int.lt_or_le (X b) (X v) with k | k
          · exact Or.inr (Or.inr ⟨k, h.2⟩)
          · exact Or.inl ⟨by omega, by omega⟩
        · omega
      · rintro (h | h | h)
        · exact Or.inr (Or.inl ⟨rfl, by omega⟩)
        · exact absurd (by rw [h.1]) jb
        · exact Or.inr (Or.inl ⟨rfl, h.2⟩)
  · rcases jb with jb | jb
    · subst jb
      have e : orn X Y a b u = - orn X Y u b a := by rw [orn_c (a := a), orn_c (a := b)]; exact orn_s
      constructor
      · rintro (h | h | h)
        · exact Or.inr (Or.inl ⟨rfl, by omega⟩)
        · exact absurd (by rw [h.1]) ja
        · exact Or.inr (Or.inl ⟨rfl, h.2⟩)
      · rintro (h | h | h)
        · omega
        · rcases Int.lt_or_le (X a) (X u) with k | k
          · exact Or.inl ⟨k, by omega⟩
          · exact Or.inr (Or.inr ⟨by omega, h.2⟩)
        · omega
    · have nau : a ≠ u := fun e => ja (by rw [e])
      have nbv : b ≠ v := fun e => jb (by rw [e])
      obtain ⟨C, hC⟩ : ∃ C, C = orn X Y a b v - orn X Y a b u := ⟨_, rfl⟩
      rw [← hC] at i1 i2 i3 i4 ig
      generalize orn X Y a b u = fu at *
      generalize orn X Y a b v = fv at *
      generalize orn X Y u v a = ga at *
      generalize orn X Y u v b = gb at *
      have j1 : (-fu) * (X v - X u) + (-ga) * (X b - X a) = (-C) * (X u - X a) := neg_i i1 rfl
      have j2 : (-fu) * (X v - X u) + (-gb) * (X b - X a) = (-C) * (X u - X b) := neg_i i2 rfl
      have j3 : (-fv) * (X v - X u) + (-ga) * (X b - X a) = (-C) * (X v - X a) := neg_i i3 rfl
      have j4 : (-fv) * (X v - X u) + (-gb) * (X b - X a) = (-C) * (X v - X b) := neg_i i4 rfl
      rcases Int.lt_or_le (X a) (X u) with k | k
      · have zu := z1 k
        rcases Int.lt_or_le (X b) (X v) with l | l
        · have zb := z4 l
          have m1 : ¬ (fu < 0 ∧ gb < 0) := fun ⟨h1, h2⟩ => by
            obtain ⟨x, y⟩ := k_B hp hq (by omega) (by omega) (by omega) i1 i2 i4 h1 h2
            exact nc1 ⟨Int.mul_neg_of_neg_of_pos h1 x, Int.mul_neg_of_pos_of_neg y h2⟩
          have m2 : ¬ (0 < fu ∧ 0 < gb) := fun ⟨h1, h2⟩ => by
            obtain ⟨x, y⟩ := k_B hp hq (by omega) (by omega) (by omega) j1 j2 j4 (by omega) (by omega)
            exact nc1 ⟨Int.mul_neg_of_pos_of_neg h1 (by omega), Int.mul_neg_of_neg_of_pos (by omega) h2⟩
          omega
        · have zv := z3 (by omega)
          have m1 : ¬ (fu < 0 ∧ 0 < fv) := fun ⟨h1, h2⟩ => by
            obtain ⟨x, y⟩ := k_A hC hp hq (by omega) (by omega) i1 i4 h1 h2
            exact nc1 ⟨Int.mul_neg_of_neg_of_pos h1 h2, Int.mul_neg_of_pos_of_neg x y⟩
          have m2 : ¬ (0 < fu ∧ fv < 0) := fun ⟨h1, h2⟩ => by
            obtain ⟨x, y⟩ := k_A (C := -C) (by omega) hp hq (by omega) (by omega) j1 j4 (by omega) (by omega)
            exact nc1 ⟨Int.mul_neg_of_pos_of_neg h1 h2, Int.mul_neg_of_neg_of_pos (by omega) (by omega)⟩
          omega
      · have za := z2 (by omega)
        rcases Int.lt_or_le (X b) (X v) with l | l
        · have zb := z4 l
          have m1 : ¬ (0 < ga ∧ gb < 0) := fun ⟨h1, h2⟩ => by
            obtain ⟨x, y⟩ := k_D ig hp hq (by omega) (by omega) i1 i4 h1 h2
            exact nc1 ⟨Int.mul_neg_of_neg_of_pos x y, Int.mul_neg_of_pos_of_neg h1 h2⟩
          have m2 : ¬ (ga < 0 ∧ 0 < gb) := fun ⟨h1, h2⟩ => by
            obtain ⟨x, y⟩ := k_D (C := -C) (by omega) hp hq (by omega) (by omega) j1 j4 (by omega) (by omega)
            exact nc1 ⟨Int.mul_neg_of_pos_of_neg (by omega) (by omega), Int.mul_neg_of_neg_of_pos h1 h2⟩
          omega
        · have zv := z3 (by omega)
          have m1 : ¬ (0 < ga ∧ 0 < fv) := fun ⟨h1, h2⟩ => by
            obtain ⟨x, y⟩ := k_C hp hq (by omega) (by omega) (by omega) i1 i3 i4 h1 h2
            exact nc1 ⟨Int.mul_neg_of_neg_of_pos x h2, Int.mul_neg_of_pos_of_neg h1 y⟩
          have m2 : ¬ (ga < 0 ∧ fv < 0) := fun ⟨h1, h2⟩ => by
            obtain ⟨x, y⟩ := k_C hp hq (by omega) (by omega) (by omega) j1 j3 j4 (by omega) (by omega)
            exact nc1 ⟨Int.mul_neg_of_pos_of_neg (by omega) h2, Int.mul_neg_of_neg_of_pos h1 (by omega)⟩
          omega
/-! sums of bits -/
noncomputable def bo (P : Prop) : Bool := @decide P (Classical.propDecidable P)
theorem bo_t {P : Prop} : bo P = true ↔ P := @decide_eq_true_iff P (Classical.propDecidable P)
theorem bo_f {P : Prop} : bo P = false ↔ ¬ P := @decide_eq_false_iff_not P (Classical.propDecidable P)
theorem bo_cg {P Q : Prop} (h : P ↔ Q) : bo P = bo Q := by rw [propext h]
theorem bo_and {P Q : Prop} : bo (P ∧ Q) = (bo P && bo Q) := by
  by_cases h : P <;> by_cases k : Q
  · rw [bo_t.mpr h, bo_t.mpr k, bo_t.mpr ⟨h, k⟩]; rfl
  · rw [bo_t.mpr h, bo_f.mpr k, bo_f.mpr (fun z => k z.2)]; rfl
  · rw [bo_f.mpr h, bo_t.mpr k, bo_f.mpr (fun z => h z.1)]; rfl
  · rw [bo_f.mpr h, bo_f.mpr k, bo_f.mpr (fun z => h z.1)]; rfl
def xf (f : Nat → Bool) : Nat → Bool
  | 0 => false
  | n + 1 => xor (xf f n) (f n)
theorem xf_x {f g : Nat → Bool} : ∀ n, xf (fun i => xor (f i) (g i)) n = xor (xf f n) (xf g n)
  | 0 => rfl
  | n + 1 => by
    show xor (xf (fun i => xor (f i) (g i)) n) (xor (f n) (g n)) = xor (xor (xf f n) (f n)) (xor (xf g n) (g n))
    rw [xf_x n]
    cases xf f n <;> cases xf g n <;> cases f n <;> cases g n <;> rfl
theorem xf_cg {f g : Nat → Bool} : ∀ n, (∀ i, i < n → f i = g i) → xf f n = xf g n
  | 0, _ => rfl
  | n + 1, h => by
    show xor (xf f n) (f n) = xor (xf g n) (g n)
    rw [xf_cg n (fun i hi => h i (by omega)), h n (by omega)]
theorem xf_0 {f : Nat → Bool} (n : Nat) (h : ∀ i, i < n → f i = false) : xf f n = false := by
  induction n with
  | zero => rfl
  | succ n ih =>
    show xor (xf f n) (f n) = false
    rw [ih (fun i hi => h i (by omega)), h n (by omega)]; rfl
theorem xf_and {b : Bool} {f : Nat → Bool} : ∀ n, xf (fun i => b && f i) n = (b && xf f n)
  | 0 => by cases b <;> rfl
  | n + 1 => by
    show xor (xf (fun i => b && f i) n) (b && f n) = (b && xor (xf f n) (f n))
    rw [xf_and n]
    cases b <;> cases xf f n <;> cases f n <;> rfl
theorem xf_sw {h : Nat → Nat → Bool} (k : Nat) : ∀ n, xf (fun i => xf (fun j => h i j) k) n = xf (fun j => xf (fun i => h i j) n) k
  | 0 => (xf_0 (f := fun j => xf (fun i => h i j) 0) k (fun j _ => rfl)).symm
  | n + 1 => by
    show xor (xf (fun i => xf (fun j => h i j) k) n) (xf (fun j => h n j) k) = xf (fun j => xor (xf (fun i => h i j) n) (h n j)) k
    rw [xf_sw k n, xf_x]
/-- one alone -/
theorem xf_1 {f : Nat → Bool} {i : Nat} : ∀ n, i < n → (∀ j, j < n → j ≠ i → f j = false) → xf f n = f i
  | 0, h, _ => absurd h (Nat.not_lt_zero i)
  | n + 1, h, hz => by
    show xor (xf f n) (f n) = f i
    by_cases e : n = i
    · subst e
      rw [xf_0 n (fun j hj => hz j (by omega) (by omega))]
      cases f n <;> rfl
    · rw [xf_1 n (by omega) (fun j hj => hz j (by omega)), hz n (by omega) e]
      cases f i <;> rfl

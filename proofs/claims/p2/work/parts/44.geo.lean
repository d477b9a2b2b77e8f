/-! vectors in the plane: turning clockwise -/
abbrev V2 : Type := Int × Int
def gcr (a b : V2) : Int := a.1 * b.2 - a.2 * b.1
def gdt (a b : V2) : Int := a.1 * b.1 + a.2 * b.2
theorem gcr_anti (a b : V2) : gcr a b = - gcr b a := by unfold gcr; grind
theorem gdt_comm (a b : V2) : gdt a b = gdt b a := by unfold gdt; grind
theorem gcr_id (a u v w : V2) : gcr u v * gcr a w + gcr v w * gcr a u + gcr w u * gcr a v = 0 := by unfold gcr; grind
theorem gdt_id (a u v : V2) : gdt u u * gcr a v = gdt u v * gcr a u + gdt a u * gcr u v := by unfold gcr gdt; grind
theorem gdt_id2 (a u v : V2) : gdt a a * gdt u v = gdt a u * gdt a v + gcr a u * gcr a v := by unfold gcr gdt; grind
theorem gdt_id3 (a u : V2) : gdt a a * gdt u u = gdt a u * gdt a u + gcr a u * gcr a u := by unfold gcr gdt; grind
theorem gsq {x y : Int} (h : x * x + y * y ≤ 0) : x = 0 ∧ y = 0 := by
  have e1 : 0 ≤ x * x := by rcases Int.le_total 0 x with k | k; exact Int.mul_nonneg k k; exact Int.mul_nonneg_of_nonpos_of_nonpos k k
  have e2 : 0 ≤ y * y := by rcases Int.le_total 0 y with k | k; exact Int.mul_nonneg k k; exact Int.mul_nonneg_of_nonpos_of_nonpos k k
  have f1 : x * x = 0 := by omega
  have f2 : y * y = 0 := by omega
  exact ⟨by rcases Int.mul_eq_zero.mp f1 with h | h <;> exact h, by rcases Int.mul_eq_zero.mp f2 with h | h <;> exact h⟩
theorem gdt_pos {u : V2} (h : ¬ (u.1 = 0 ∧ u.2 = 0)) : 0 < gdt u u := by
  unfold gdt
  rcases Int.lt_or_le 0 (u.1 * u.1 + u.2 * u.2) with k | k
  · exact k
  · exact absurd (gsq k) h
/-- two vectors that look the same way -/
def gsd (u v : V2) : Prop := gcr u v = 0 ∧ 0 < gdt u v
/-- clockwise behind a: u comes before v -/
def gso (a u v : V2) : Prop := (gcr a u < 0 ∧ ¬ gcr a v < 0) ∨ ((gcr a u < 0 ↔ gcr a v < 0) ∧ gcr u v < 0)
theorem gso_asym {a u v : V2} : gso a u v → ¬ gso a v u := by
  unfold gso
  intro h1 h2
  have := gcr_anti u v
  rcases h1 with ⟨p, q⟩ | ⟨p, q⟩ <;> rcases h2 with ⟨r, s⟩ | ⟨r, s⟩
  · exact q r
  · exact q (r.mpr p)
  · exact s (p.mpr r)
  · omega
theorem gmul_neg {x y : Int} (h : x * y < 0) (hy : y < 0) : 0 < x := by
  rcases Int.lt_or_le 0 x with k | k
  · exact k
  · have := Int.mul_nonneg_of_nonpos_of_nonpos k (Int.le_of_lt hy); omega
theorem gmul_pos {x y : Int} (h : 0 < x * y) (hy : 0 < y) : 0 < x := by
  rcases Int.lt_or_le 0 x with k | k
  · exact k
  · have := Int.mul_nonneg (a := -x) (b := y) (by omega) (Int.le_of_lt hy)
    rw [Int.neg_mul] at this; omega
theorem gpar {a u : V2} (ha : 0 < gdt a a) (hu : 0 < gdt u u) (h : gcr a u = 0) : gdt a u ≠ 0 := by
  intro z
  have := gdt_id3 a u
  rw [z, h] at this
  have p := Int.mul_pos ha hu
  omega
/-- parallel vectors on one side look the same way -/
theorem gtot {a u v : V2} (ha : 0 < gdt a a) (hu : 0 < gdt u u) (hv : 0 < gdt v v) (nu : ¬ gsd a u) (nv : ¬ gsd a v) (nuv : ¬ gsd u v) : gso a u v ∨ gso a v u := by
  have an := gcr_anti u v
  rcases Int.lt_trichotomy (gcr u v) 0 with h | h | h
  · by_cases p : gcr a u < 0 <;> by_cases q : gcr a v < 0
    · exact Or.inl (Or.inr ⟨by simp [p, q], h⟩)
    · exact Or.inl (Or.inl ⟨p, q⟩)
    · exact Or.inr (Or.inl ⟨q, p⟩)
    · exact Or.inl (Or.inr ⟨by simp [p, q], h⟩)
  · by_cases p : gcr a u < 0 <;> by_cases q : gcr a v < 0
    · exfalso
      have e := gdt_id a u v
      rw [h, Int.mul_zero, Int.add_zero] at e
      have e1 : gdt u v * gcr a u < 0 := by rw [← e]; exact Int.mul_neg_of_pos_of_neg hu q
      exact nuv ⟨h, gmul_neg e1 p⟩
    · exact Or.inl (Or.inl ⟨p, q⟩)
    · exact Or.inr (Or.inl ⟨q, p⟩)
    · exfalso
      have nd : gdt u v ≤ 0 := by
        rcases Int.lt_or_le 0 (gdt u v) with k | k
        · exact absurd ⟨h, k⟩ nuv
        · exact k
      have e := gdt_id a u v
      rw [h, Int.mul_zero, Int.add_zero] at e
      have l1 : 0 ≤ gdt u u * gcr a v := Int.mul_nonneg (by omega) (by omega)
      have l2 : gdt u v * gcr a u ≤ 0 := Int.mul_nonpos_of_nonpos_of_nonneg nd (by omega)
      have zv : gcr a v = 0 := by
        rcases Int.mul_eq_zero.mp (show gdt u u * gcr a v = 0 by omega) with k | k
        · omega
        · exact k
      have e' := gdt_id a v u
      rw [gcr_anti v u, h, Int.neg_zero, Int.mul_zero, Int.add_zero, zv, Int.mul_zero] at e'
      have zu : gcr a u = 0 := by
        rcases Int.mul_eq_zero.mp e' with k | k
        · omega
        · exact k
      have d1 : gdt a u < 0 := by
        have := gpar ha hu zu
        rcases Int.lt_or_le 0 (gdt a u) with k | k
        · exact absurd ⟨zu, k⟩ nu
        · omega
      have d2 : gdt a v < 0 := by
        have := gpar ha hv zv
        rcases Int.lt_or_le 0 (gdt a v) with k | k
        · exact absurd ⟨zv, k⟩ nv
        · omega
      have e2 := gdt_id2 a u v
      rw [zu, Int.zero_mul, Int.add_zero] at e2
      have l3 := Int.mul_pos_of_neg_of_neg d1 d2
      have l4 : gdt a a * gdt u v ≤ 0 := Int.mul_nonpos_of_nonneg_of_nonpos (by omega) nd
      omega
  · have h' : gcr v u < 0 := by have := gcr_anti v u; omega
    by_cases p : gcr a u < 0 <;> by_cases q : gcr a v < 0
    · exact Or.inr (Or.inr ⟨by simp [p, q], h'⟩)
    · exact Or.inl (Or.inl ⟨p, q⟩)
    · exact Or.inr (Or.inl ⟨q, p⟩)
    · exact Or.inr (Or.inr ⟨by simp [p, q], h'⟩)
theorem gtrans {a u v w : V2} (ha : 0 < gdt a a) (hu : 0 < gdt u u) (hw : 0 < gdt w w) (nu : ¬ gsd a u) (nv : ¬ gsd a v) (nw : ¬ gsd a w) (nuw : ¬ gsd u w) (h1 : gso a u v) (h2 : gso a v w) : gso a u w := by
  unfold gso at *
  rcases h1 with ⟨p, q⟩ | ⟨p, q⟩ <;> rcases h2 with ⟨r, s⟩ | ⟨r, s⟩
  · exact absurd r q
  · exact Or.inl ⟨p, fun z => q (r.mpr z)⟩
  · exact Or.inl ⟨p.mpr r, s⟩
  · refine Or.inr ⟨p.trans r, ?_⟩
    have id := gcr_id a u v w
    have an := gcr_anti u w
    by_cases c : gcr a u < 0
    · have cv := p.mp c
      have cw := r.mp cv
      have t1 : 0 < gcr u v * gcr a w := Int.mul_pos_of_neg_of_neg q cw
      have t2 : 0 < gcr v w * gcr a u := Int.mul_pos_of_neg_of_neg s c
      have := gmul_neg (x := gcr w u) (y := gcr a v) (by omega) cv
      omega
    · have cv : ¬ gcr a v < 0 := fun z => c (p.mpr z)
      have cw : ¬ gcr a w < 0 := fun z => cv (r.mpr z)
      have t1 : gcr u v * gcr a w ≤ 0 := Int.mul_nonpos_of_nonpos_of_nonneg (by omega) (by omega)
      have t2 : gcr v w * gcr a u ≤ 0 := Int.mul_nonpos_of_nonpos_of_nonneg (by omega) (by omega)
      rcases Int.lt_or_le 0 (gcr a v) with k | k
      · rcases Int.lt_trichotomy (gcr u w) 0 with z | z | z
        · exact z
        · exfalso
          rcases gtot ha hu hw nu nw nuw with g | g
          · rcases g with ⟨g, _⟩ | ⟨_, g⟩
            · exact c g
            · omega
          · rcases g with ⟨g, _⟩ | ⟨_, g⟩
            · exact cw g
            · have := gcr_anti w u; omega
        · exfalso
          have : gcr w u * gcr a v < 0 := Int.mul_neg_of_neg_of_pos (by omega) k
          omega
      · exfalso
        have zv : gcr a v = 0 := by omega
        -- v looks the other way than a
        have e := gdt_id u a v
        have d1 : gdt a v ≤ 0 := by
          rcases Int.lt_or_le 0 (gdt a v) with z | z
          · exact absurd ⟨zv, z⟩ nv
          · exact z
        rw [zv, Int.mul_zero, Int.add_zero] at e
        have l1 : gdt a a * gcr u v < 0 := Int.mul_neg_of_pos_of_neg ha q
        have ua : gcr u a ≤ 0 := by have := gcr_anti u a; omega
        have l2 : 0 ≤ gdt a v * gcr u a := Int.mul_nonneg_of_nonpos_of_nonpos d1 ua
        omega
/-- whoever comes next behind a doesn't come next behind c -/
theorem ginj {a b c : V2} (hb : 0 < gdt a a) (nac : ¬ gsd a c) (h1 : gso a b c) (h2 : gso c b a) : False := by
  unfold gso at *
  have x1 := gcr_anti a b
  have x2 := gcr_anti b c
  have x3 := gcr_anti a c
  have key : gcr a c = 0 → (0 < gcr a b → 0 ≤ gcr b c) ∧ (gcr a b < 0 → gcr b c ≤ 0) := fun z => by
    have d1 : gdt a c ≤ 0 := by
      rcases Int.lt_or_le 0 (gdt a c) with k | k
      · exact absurd ⟨z, k⟩ nac
      · exact k
    have e := gdt_id b a c
    rw [z, Int.mul_zero, Int.add_zero] at e
    constructor
    · intro k
      have l : 0 ≤ gdt a c * gcr b a := Int.mul_nonneg_of_nonpos_of_nonpos d1 (by omega)
      rcases Int.lt_or_le (gcr b c) 0 with y | y
      · have := Int.mul_neg_of_pos_of_neg hb y; omega
      · exact y
    · intro k
      have l : gdt a c * gcr b a ≤ 0 := Int.mul_nonpos_of_nonpos_of_nonneg d1 (by omega)
      rcases Int.lt_or_le 0 (gcr b c) with y | y
      · have := Int.mul_pos hb y; omega
      · exact y
  rcases h1 with ⟨p, q⟩ | ⟨p, q⟩ <;> rcases h2 with ⟨r, s⟩ | ⟨r, s⟩
  · have := (key (by omega)).2 p
    omega
  · omega
  · omega
  · have c1 : ¬ gcr c b < 0 := by omega
    have c2 : ¬ gcr c a < 0 := fun z => c1 (r.mpr z)
    have c3 : ¬ gcr a b < 0 := by omega
    have c4 : ¬ gcr a c < 0 := fun z => c3 (p.mpr z)
    have := (key (by omega)).1 (by omega)
    omega
/-! what comes next clockwise -/
def nxt (A : Nat → Prop) (v : Nat → V2) (f g : Nat) : Prop := A f ∧ A g ∧ ((g = f ∧ ∀ j, A j → j = f) ∨ (g ≠ f ∧ ∀ j, A j → j ≠ f → j ≠ g → gso (v f) (v g) (v j)))
/-- the joins of one room look different ways -/
def gdd (A : Nat → Prop) (v : Nat → V2) : Prop := (∀ j, A j → 0 < gdt (v j) (v j)) ∧ ∀ j k, A j → A k → j ≠ k → ¬ gsd (v j) (v k)
theorem nxt_uniq {A : Nat → Prop} {v : Nat → V2} {f g g' : Nat} (h : nxt A v f g) (h' : nxt A v f g') : g = g' := by
  obtain ⟨hf, hg, h⟩ := h
  obtain ⟨-, hg', h'⟩ := h'
  rcases h with ⟨e, h⟩ | ⟨e, h⟩
  · rw [e]; exact (h g' hg').symm
  · rcases h' with ⟨e', h'⟩ | ⟨e', h'⟩
    · rw [e']; exact h' g hg
    · by_cases q : g = g'
      · exact q
      · exact absurd (h' g hg e q) (gso_asym (h g' hg' e' (fun z => q z.symm)))
theorem nxt_inj {A : Nat → Prop} {v : Nat → V2} {f f' g : Nat} (hd : gdd A v) (h : nxt A v f g) (h' : nxt A v f' g) : f = f' := by
  obtain ⟨hf, hg, h⟩ := h
  obtain ⟨hf', -, h'⟩ := h'
  rcases h with ⟨e, h⟩ | ⟨e, h⟩
  · exact (h f' hf').symm
  · rcases h' with ⟨e', h'⟩ | ⟨e', h'⟩
    · exact h' f hf
    · by_cases q : f = f'
      · exact q
      · exact (ginj (hd.1 f hf) (hd.2 f f' hf hf' q) (h f' hf' (fun z => q z.symm) (fun z => e' z.symm)) (h' f hf q (fun z => e z.symm))).elim
/-- the least so far among the rooms below n -/
def nxs (A : Nat → Prop) (v : Nat → V2) (f n g : Nat) : Prop := (g = f ∧ ∀ j, j < n → A j → j = f) ∨ (g ≠ f ∧ A g ∧ g < n ∧ ∀ j, j < n → A j → j ≠ f → j ≠ g → gso (v f) (v g) (v j))
theorem nxs_0 {A : Nat → Prop} {v : Nat → V2} {f : Nat} : nxs A v f 0 f := Or.inl ⟨rfl, fun j h => absurd h (Nat.not_lt_zero j)⟩
theorem nxs_skip {A : Nat → Prop} {v : Nat → V2} {f n g : Nat} (h : nxs A v f n g) (hn : ¬ A n ∨ n = f) : nxs A v f (n + 1) g := by
  rcases h with ⟨e, h⟩ | ⟨e, hg, hl, h⟩
  · refine Or.inl ⟨e, fun j hj ha => ?_⟩
    by_cases q : j = n
    · subst q
      rcases hn with hn | hn
      · exact absurd ha hn
      · exact hn
    · exact h j (by omega) ha
  · refine Or.inr ⟨e, hg, by omega, fun j hj ha k1 k2 => ?_⟩
    by_cases q : j = n
    · subst q
      rcases hn with hn | hn
      · exact absurd ha hn
      · exact absurd hn k1
    · exact h j (by omega) ha k1 k2
theorem nxs_first {A : Nat → Prop} {v : Nat → V2} {f n g : Nat} (h : nxs A v f n g) (hgf : g = f) (hn : A n) (hnf : n ≠ f) : nxs A v f (n + 1) n := by
  rcases h with ⟨e, h⟩ | ⟨e, hg, hl, h⟩
  · refine Or.inr ⟨hnf, hn, by omega, fun j hj ha k1 k2 => absurd (h j (by omega) ha) k1⟩
  · exact absurd hgf e
theorem nxs_take {A : Nat → Prop} {v : Nat → V2} {f n g : Nat} (hd : gdd A v) (hf : A f) (h : nxs A v f n g) (hgf : g ≠ f) (hn : A n) (hnf : n ≠ f) (hs : gso (v f) (v n) (v g)) : nxs A v f (n + 1) n := by
  rcases h with ⟨e, h⟩ | ⟨e, hg, hl, h⟩
  · exact absurd e hgf
  · refine Or.inr ⟨hnf, hn, by omega, fun j hj ha k1 k2 => ?_⟩
    by_cases q : j = g
    · rw [q]; exact hs
    · exact gtrans (hd.1 f hf) (hd.1 n hn) (hd.1 j ha) (hd.2 f n hf hn (fun z => hnf z.symm)) (hd.2 f g hf hg (fun z => e z.symm)) (hd.2 f j hf ha (fun z => k1 z.symm)) (hd.2 n j hn ha (fun z => k2 z.symm)) hs (h j (by omega) ha k1 q)
theorem nxs_keep {A : Nat → Prop} {v : Nat → V2} {f n g : Nat} (hd : gdd A v) (hf : A f) (h : nxs A v f n g) (hgf : g ≠ f) (hn : A n) (hnf : n ≠ f) (hs : ¬ gso (v f) (v n) (v g)) : nxs A v f (n + 1) g := by
  rcases h with ⟨e, h⟩ | ⟨e, hg, hl, h⟩
  · exact absurd e hgf
  · refine Or.inr ⟨e, hg, by omega, fun j hj ha k1 k2 => ?_⟩
    by_cases q : j = n
    · subst q
      rcases gtot (hd.1 f hf) (hd.1 g hg) (hd.1 j hn) (hd.2 f g hf hg (fun z => e z.symm)) (hd.2 f j hf hn (fun z => hnf z.symm)) (hd.2 g j hg hn (by omega)) with z | z
      · exact z
      · exact absurd z hs
    · exact h j (by omega) ha k1 k2
theorem nxs_end {A : Nat → Prop} {v : Nat → V2} {f n g : Nat} (hf : A f) (hb : ∀ j, A j → j < n) (h : nxs A v f n g) : nxt A v f g := by
  rcases h with ⟨e, h⟩ | ⟨e, hg, hl, h⟩
  · exact ⟨hf, by rw [e]; exact hf, Or.inl ⟨e, fun j ha => h j (hb j ha) ha⟩⟩
  · exact ⟨hf, hg, Or.inr ⟨e, fun j ha => h j (hb j ha) ha⟩⟩

-- ways: distances in a graph of nine rooms
theorem pig : ∀ N (f : Nat → Nat), (∀ i, i < N + 1 → f i < N) → ∃ i j, i < j ∧ j < N + 1 ∧ f i = f j := by
  intro N
  induction N with
  | zero => intro f h; exact absurd (h 0 (by omega)) (by omega)
  | succ N ih =>
    intro f h
    by_cases ex : ∃ i, i < N + 1 ∧ f i = f (N + 1)
    · obtain ⟨i, hi, e⟩ := ex
      exact ⟨i, N + 1, hi, by omega, e⟩
    · have ne : ∀ i, i < N + 1 → f i ≠ f (N + 1) := fun i hi e => ex ⟨i, hi, e⟩
      obtain ⟨i, j, hij, hj, e⟩ := ih (fun i => if f i = N then f (N + 1) else f i) (fun i hi => by
        have a := h i (by omega)
        have b := h (N + 1) (by omega)
        have c := ne i hi
        show (if f i = N then f (N + 1) else f i) < N
        split
        · omega
        · omega)
      refine ⟨i, j, hij, by omega, ?_⟩
      have c := ne i (by omega)
      have c' := ne j hj
      have e' : (if f i = N then f (N + 1) else f i) = (if f j = N then f (N + 1) else f j) := e
      by_cases h1 : f i = N
      · by_cases h2 : f j = N
        · omega
        · rw [if_pos h1, if_neg h2] at e'; exact absurd e'.symm c'
      · by_cases h2 : f j = N
        · rw [if_neg h1, if_pos h2] at e'; exact absurd e' c
        · rw [if_neg h1, if_neg h2] at e'; exact e'
def Rk (G : Nat → Nat → Prop) (b : Nat) : Nat → Nat → Prop
  | 0, v => v = b
  | k + 1, v => Rk G b k v ∨ ∃ u, u < 9 ∧ G v u ∧ Rk G b k u
def Ds (G : Nat → Nat → Prop) (b v k : Nat) : Prop := Rk G b k v ∧ ∀ i, i < k → ¬ Rk G b i v
theorem Rk_up {G : Nat → Nat → Prop} {b v k : Nat} : ∀ l, k ≤ l → Rk G b k v → Rk G b l v := by
  intro l h r
  induction h with
  | refl => exact r
  | step _ ih => exact Or.inl ih
theorem Ds_u {G : Nat → Nat → Prop} {b v k l : Nat} (h : Ds G b v k) (h' : Ds G b v l) : k = l := by
  rcases Nat.lt_trichotomy k l with c | c | c
  · exact absurd h.1 (h'.2 k c)
  · exact c
  · exact absurd h'.1 (h.2 l c)
theorem Ds_ex {G : Nat → Nat → Prop} {b v k : Nat} (h : Rk G b k v) : ∃ l, l ≤ k ∧ Ds G b v l := by
  obtain ⟨l, hl, hm⟩ := ex_min (P := fun k => Rk G b k v) ⟨k, h⟩
  refine ⟨l, ?_, hl, hm⟩
  rcases Nat.lt_or_ge k l with c | c
  · exact absurd h (hm k c)
  · exact c
theorem Ds_dn {G : Nat → Nat → Prop} {b v k : Nat} (h : Ds G b v (k + 1)) : ∃ u, u < 9 ∧ G v u ∧ Ds G b u k := by
  rcases h.1 with r | ⟨u, u9, g, r⟩
  · exact absurd r (h.2 k (by omega))
  · exact ⟨u, u9, g, r, fun i hi z => h.2 (i + 1) (by omega) (Or.inr ⟨u, u9, g, z⟩)⟩
theorem Ds_8 {G : Nat → Nat → Prop} {b v k : Nat} (hv : v < 9) (h : Ds G b v k) : k ≤ 8 := by
  rcases Nat.lt_or_ge 8 k with c | c
  · exfalso
    have ch : ∀ j, j ≤ k → ∃ u, u < 9 ∧ Ds G b u (k - j) := by
      intro j
      induction j with
      | zero => intro _; exact ⟨v, hv, h⟩
      | succ j ih =>
        intro hj
        obtain ⟨u, u9, hu⟩ := ih (by omega)
        have e : k - j = (k - (j + 1)) + 1 := by omega
        rw [e] at hu
        obtain ⟨w, w9, _, hw⟩ := Ds_dn hu
        exact ⟨w, w9, hw⟩
    have fx : ∀ i, ∃ u, i ≤ k → u < 9 ∧ Ds G b u i := fun i => by
      by_cases hi : i ≤ k
      · obtain ⟨u, u9, hu⟩ := ch (k - i) (by omega)
        rw [show k - (k - i) = i by omega] at hu
        exact ⟨u, fun _ => ⟨u9, hu⟩⟩
      · exact ⟨0, fun z => absurd z hi⟩
    obtain ⟨i, j, hij, hj, e⟩ := pig 9 (fun i => Classical.choose (fx i)) (fun i hi => (Classical.choose_spec (fx i) (by omega)).1)
    have a := (Classical.choose_spec (fx i) (by omega)).2
    have b' := (Classical.choose_spec (fx j) (by omega)).2
    have e' : Classical.choose (fx i) = Classical.choose (fx j) := e
    rw [e'] at a
    have := Ds_u a b'
    omega
  · exact c
theorem Rk_8 {G : Nat → Nat → Prop} {b v k : Nat} (hv : v < 9) (h : Rk G b k v) : Rk G b 8 v := by
  obtain ⟨l, _, hd⟩ := Ds_ex h
  exact Rk_up 8 (Ds_8 hv hd) hd.1
theorem Rk_cg {G H : Nat → Nat → Prop} {b : Nat} (h : ∀ v u, v < 9 → u < 9 → (G v u ↔ H v u)) : ∀ k v, v < 9 → (Rk G b k v ↔ Rk H b k v) := by
  intro k
  induction k with
  | zero => intro v _; exact Iff.rfl
  | succ k ih =>
    intro v hv
    constructor
    · rintro (r | ⟨u, u9, g, r⟩)
      · exact Or.inl ((ih v hv).mp r)
      · exact Or.inr ⟨u, u9, (h v u hv u9).mp g, (ih u u9).mp r⟩
    · rintro (r | ⟨u, u9, g, r⟩)
      · exact Or.inl ((ih v hv).mpr r)
      · exact Or.inr ⟨u, u9, (h v u hv u9).mpr g, (ih u u9).mpr r⟩
/-- the least u with P -/
def Lst (P : Nat → Prop) (u : Nat) : Prop := P u ∧ ∀ i, i < u → ¬ P i
theorem Lst_u {P : Nat → Prop} {u v : Nat} (h : Lst P u) (h' : Lst P v) : u = v := by
  rcases Nat.lt_trichotomy u v with c | c | c
  · exact absurd h.1 (h'.2 u c)
  · exact c
  · exact absurd h'.1 (h.2 v c)
def stp (G : Nat → Nat → Prop) (b v k : Nat) (u : Nat) : Prop := u < 9 ∧ G v u ∧ Ds G b u k
def WP (G : Nat → Nat → Prop) (b a w : Nat) (f : Nat → Int32) : Prop :=
  (w = 0 ∧ ∀ k, ¬ Rk G b k a) ∨ ∃ D, w = D + 1 ∧ D ≤ 8 ∧ Ds G b a D ∧ ∃ p : Nat → Nat, (∀ i, i < w → f i = nI (p i)) ∧ p 0 = a ∧ ∀ i, i < D → Lst (stp G b (p i) (D - 1 - i)) (p (i + 1))
theorem WP_u {G : Nat → Nat → Prop} {b a w w' : Nat} {f f' : Nat → Int32} (h : WP G b a w f) (h' : WP G b a w' f') : w = w' ∧ ∀ i, i < w → f i = f' i := by
  rcases h with ⟨h0, hn⟩ | ⟨D, hw, _, hD, p, hf, p0, hp⟩
  · rcases h' with ⟨h0', _⟩ | ⟨D', _, _, hD', _⟩
    · exact ⟨by omega, fun i hi => by omega⟩
    · exact absurd hD'.1 (hn D')
  · rcases h' with ⟨_, hn'⟩ | ⟨D', hw', _, hD', p', hf', p0', hp'⟩
    · exact absurd hD.1 (hn' D)
    · have e := Ds_u hD hD'
      subst e
      refine ⟨by omega, ?_⟩
      have pe : ∀ i, i ≤ D → p i = p' i := by
        intro i
        induction i with
        | zero => intro _; rw [p0, p0']
        | succ i ih =>
          intro hi
          have h1 := hp i (by omega)
          rw [ih (by omega)] at h1
          exact Lst_u h1 (hp' i (by omega))
      intro i hi
      rw [hf i hi, hf' i (by omega), pe i (by omega)]

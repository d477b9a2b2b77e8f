/-! darts, walks around faces -/
def it (f : Nat × Nat → Nat × Nat) (x : Nat × Nat) : Nat → Nat × Nat
  | 0 => x
  | k + 1 => f (it f x k)
theorem it_D {D : Nat × Nat → Prop} {f : Nat × Nat → Nat × Nat} (hD : ∀ x, D x → D (f x)) {x : Nat × Nat} (hx : D x) : ∀ k, D (it f x k)
  | 0 => hx
  | k + 1 => hD _ (it_D hD hx k)
/-- a walk whose darts differ comes back to its first -/
theorem it_back {D : Nat × Nat → Prop} {f : Nat × Nat → Nat × Nat} (hD : ∀ x, D x → D (f x)) (inj : ∀ x y, D x → D y → f x = f y → x = y) {x : Nat × Nat} (hx : D x) {k j : Nat} (hj : j < k) (h : it f x k = it f x j) (dis : ∀ a b, a < b → b < k → it f x a ≠ it f x b) : j = 0 := by
  rcases Nat.eq_zero_or_pos j with z | z
  · exact z
  · exfalso
    obtain ⟨k', rfl⟩ : ∃ k', k = k' + 1 := ⟨k - 1, by omega⟩
    obtain ⟨j', rfl⟩ : ∃ j', j = j' + 1 := ⟨j - 1, by omega⟩
    have := inj _ _ (it_D hD hx k') (it_D hD hx j') h
    exact dis j' k' (by omega) (by omega) this.symm
theorem it_add {f : Nat × Nat → Nat × Nat} {x : Nat × Nat} (a : Nat) : ∀ b, it f x (a + b) = it f (it f x a) b
  | 0 => rfl
  | b + 1 => congrArg f (it_add a b)
def ph (B : Nat → Nat → Nat) (x : Nat × Nat) : Nat × Nat := (x.2, B x.2 x.1)
def Dt (σ : mm_S) (m : Nat) (x : Nat × Nat) : Prop := x.1 < 9 ∧ m.testBit x.1 = true ∧ aj σ x.1 x.2
def Fw (τ : mm_S) (x : Nat × Nat) : Int32 := τ (33 + 1 + x.1) x.2
theorem Dt_2 {σ : mm_S} {n m : Nat} {x : Nat × Nat} (C : CK σ n m) (h : Dt σ m x) : x.2 < 9 ∧ m.testBit x.2 = true ∧ aj σ x.2 x.1 := by
  obtain ⟨h1, h2, h3⟩ := h
  obtain ⟨b1, b2, -⟩ := C.aj_dr h1 h2 h3
  exact ⟨b1, b2, C.aj_sym h1 h2 h3⟩
theorem ph_D {σ τ : mm_S} {n m : Nat} (C : CK σ n m) (H : BH σ τ m) (x : Nat × Nat) (h : Dt σ m x) : Dt σ m (ph (Bf τ) x) := by
  obtain ⟨b1, b2, b3⟩ := Dt_2 C h
  exact ⟨b1, b2, (BH_sp H b1 b2 b3).2.2.1⟩
theorem ph_inj {σ τ : mm_S} {n m : Nat} (C : CK σ n m) (N : NC σ n) (H : BH σ τ m) (x y : Nat × Nat) (hx : Dt σ m x) (hy : Dt σ m y) (h : ph (Bf τ) x = ph (Bf τ) y) : x = y := by
  obtain ⟨b1, b2, b3⟩ := Dt_2 C hx
  obtain ⟨c1, c2, c3⟩ := Dt_2 C hy
  have e2 : x.2 = y.2 := congrArg Prod.fst h
  have e3 : Bf τ x.2 x.1 = Bf τ y.2 y.1 := congrArg Prod.snd h
  have n1 := (BH_sp H b1 b2 b3).2
  have n2 := (BH_sp H c1 c2 c3).2
  rw [← e2] at n2 e3
  rw [← e3] at n2
  have e1 := nxt_inj (C.gdd N b1 b2) n1 n2
  exact Prod.ext e1 e2
/-- the darts by numbers -/
def dcd (σ : mm_S) (c : Nat) : Nat × Nat := if c % 2 = 0 then ((σ 16 (c / 2)).toNatClampNeg, (σ 17 (c / 2)).toNatClampNeg) else ((σ 17 (c / 2)).toNatClampNeg, (σ 16 (c / 2)).toNatClampNeg)
theorem dcd_ex {σ : mm_S} {n m : Nat} {x : Nat × Nat} (C : CK σ n m) (h : Dt σ m x) : ∃ c, c < 2 * n ∧ dcd σ c = x := by
  obtain ⟨h1, h2, h3⟩ := h
  obtain ⟨k, hk, hh, h9⟩ := (C.ja x.1 x.2 h1 h2).mp h3
  rcases hh with ⟨p, q⟩ | ⟨p, q⟩
  · refine ⟨2 * k, by omega, ?_⟩
    unfold dcd
    rw [if_pos (by omega), show 2 * k / 2 = k by omega, p, q, nI_clamp (by omega), nI_clamp (by omega)]
  · refine ⟨2 * k + 1, by omega, ?_⟩
    unfold dcd
    rw [if_neg (by omega), show (2 * k + 1) / 2 = k by omega, p, q, nI_clamp (by omega), nI_clamp (by omega)]
theorem dcd_D {σ : mm_S} {n m c : Nat} (C : CK σ n m) (hc : c < 2 * n) : Dt σ m (dcd σ c) := by
  have hk : c / 2 < n := by omega
  obtain ⟨a, b, ha, hb, hne, ma, mb, e1, e2⟩ := C.je (c / 2) hk
  unfold dcd
  rw [e1, e2, nI_clamp (show a < 2 ^ 31 by omega), nI_clamp (show b < 2 ^ 31 by omega)]
  split
  · exact ⟨ha, ma, (C.ja a b ha ma).mpr ⟨c / 2, hk, Or.inl ⟨e1, e2⟩, hb⟩⟩
  · exact ⟨hb, mb, (C.ja b a hb mb).mpr ⟨c / 2, hk, Or.inr ⟨e1, e2⟩, ha⟩⟩
/-- the faces that have been walked -/
def FS (σ τ : mm_S) (m f : Nat) : Prop := (τ 5 6 = nI f) ∧ (∀ x, Dt σ m x → Fw τ (ph (Bf τ) x) = Fw τ x) ∧ (∀ x, Dt σ m x → Fw τ x = -2 ∨ Fw τ x = -1 ∨ ∃ g, g < f ∧ Fw τ x = nI g) ∧ (∀ g, g < f → ∃ M, M < 512 ∧ τ 43 g = nI M ∧ (∀ a, a < 9 → (M.testBit a = true ↔ ∃ b, Dt σ m (a, b) ∧ Fw τ (a, b) = nI g)) ∧ ∃ x, Dt σ m x ∧ Fw τ x = nI g ∧ ∀ y, Dt σ m y → Fw τ y = nI g → ∃ k, y = it (ph (Bf τ)) x k) ∧ (∃ v, f ≤ bc v 42 ∧ ∀ c, c < 42 → v.testBit c = true → Dt σ m (dcd σ c) ∧ ∃ g, g < f ∧ Fw τ (dcd σ c) = nI g)
theorem FS.fc {σ τ : mm_S} {m f : Nat} (h : FS σ τ m f) : τ 5 6 = nI f := h.1
theorem FS.iv {σ τ : mm_S} {m f : Nat} (h : FS σ τ m f) : ∀ x, Dt σ m x → Fw τ (ph (Bf τ) x) = Fw τ x := h.2.1
theorem FS.rg {σ τ : mm_S} {m f : Nat} (h : FS σ τ m f) : ∀ x, Dt σ m x → Fw τ x = -2 ∨ Fw τ x = -1 ∨ ∃ g, g < f ∧ Fw τ x = nI g := h.2.2.1
theorem FS.fr {σ τ : mm_S} {m f : Nat} (h : FS σ τ m f) : ∀ g, g < f → ∃ M, M < 512 ∧ τ 43 g = nI M ∧ (∀ a, a < 9 → (M.testBit a = true ↔ ∃ b, Dt σ m (a, b) ∧ Fw τ (a, b) = nI g)) ∧ ∃ x, Dt σ m x ∧ Fw τ x = nI g ∧ ∀ y, Dt σ m y → Fw τ y = nI g → ∃ k, y = it (ph (Bf τ)) x k := h.2.2.2.1
theorem FS.ct {σ τ : mm_S} {m f : Nat} (h : FS σ τ m f) : ∃ v, f ≤ bc v 42 ∧ ∀ c, c < 42 → v.testBit c = true → Dt σ m (dcd σ c) ∧ ∃ g, g < f ∧ Fw τ (dcd σ c) = nI g := h.2.2.2.2
theorem FS_lt {σ τ : mm_S} {n m f : Nat} {x : Nat × Nat} (C : CK σ n m) (S : FS σ τ m f) (hx : Dt σ m x) (h2 : Fw τ x = -2) : f < 42 := by
  obtain ⟨v, hv, hc⟩ := S.ct
  have hn := C.jn.1
  have := bc_n v 42
  rcases Nat.lt_or_ge f 42 with z | z
  · exact z
  · exfalso
    obtain ⟨c, c1, c2⟩ := dcd_ex C hx
    obtain ⟨-, g, hg, e⟩ := hc c (by omega) (bc_full 42 (by omega) c (by omega))
    rw [c2, h2] at e
    have h1 := congrArg Int32.toInt e
    rw [nI_toInt (by omega), show (-2 : Int32).toInt = -2 by decide] at h1
    omega
theorem nI_m2 {j : Nat} (h : j < 2 ^ 31) : ¬ nI j = -2 := fun z => by
  have h1 := congrArg Int32.toInt z
  rw [nI_toInt h, show (-2 : Int32).toInt = -2 by decide] at h1
  omega
theorem Fw_up {τ : mm_S} {x y : Nat × Nat} {v : Int32} : Fw (mm_up τ (33 + 1 + x.1) x.2 v) y = if y = x then v else Fw τ y := by
  unfold Fw
  by_cases e : y = x
  · subst e; rw [if_pos rfl]; exact mm_up_s
  · rw [if_neg e]
    by_cases e1 : y.1 = x.1
    · rw [e1]
      exact mm_up_o (fun z => e (Prod.ext e1 z))
    · rw [mm_up_n (by omega)]

/-! class and reference keep the same directions -/
theorem lx_tri {n : Nat} {D D' : Nat → Nat} (h1 : ¬ lx n D D') (h2 : ¬ lx n D' D) : ∀ e, e < n → D e = D' e := by
  have key : ∀ e, e ≤ n → ∀ x, x < e → D x = D' x := by
    intro e
    induction e with
    | zero => intro _ x hx; exact absurd hx (Nat.not_lt_zero x)
    | succ e ih =>
      intro he x hx
      have i1 := ih (by omega)
      by_cases c : x = e
      · subst c
        rcases Nat.lt_trichotomy (D x) (D' x) with c | c | c
        · exact absurd ⟨x, by omega, i1, c⟩ h1
        · exact c
        · exact absurd ⟨x, by omega, fun y hy => (i1 y hy).symm, c⟩ h2
      · exact i1 x (by omega)
  exact fun e he => key n (Nat.le_refl n) e he
theorem lx_cg {n : Nat} {D D' E E' : Nat → Nat} (h1 : ∀ e, e < n → D e = E e) (h2 : ∀ e, e < n → D' e = E' e) (h : lx n D D') : lx n E E' := by
  obtain ⟨e, he, k1, k2⟩ := h
  exact ⟨e, he, fun x hx => by rw [← h1 x (by omega), ← h2 x (by omega)]; exact k1 x hx, by rw [← h1 e he, ← h2 e he]; exact k2⟩
theorem ref_D {σ τ τ' : mm_S} {n m : Nat} {B : Nat → Nat → Nat} {s t L : Nat} {p zz D : Nat → Nat} {en : Nat → Nat → Nat} (X : RX (rmx m) (nrP σ m B s t L p) (BpP B s t L p) n (jA σ) (jB σ) zz en) (Y : LYF σ n m B s t L p D) (dr : ∀ r, r < 9 → (¬ τ 75 r = 0 ↔ m.testBit r = true)) (F : FBr n (RLx τ zz en (jA σ) n) τ' (RLx τ zz en (jA σ) n)) : τ' 10 29 = 1 ∧ ∀ e, e < n → τ' 95 e = nI (D e) := by
  obtain ⟨sd, ly, eD, mn⟩ := Y
  have in1 : RLx τ zz en (jA σ) n (dvec (jA σ) (jB σ) sd) := fun r r9 h => rx_a X ly ⟨r9, (dr r r9).mp h⟩
  rcases F with ⟨_, no⟩ | ⟨f1, D0, r0, b0, mn0⟩
  · exact absurd in1 (no _)
  · refine ⟨f1, fun e he => ?_⟩
    obtain ⟨sd0, ly0, eD0⟩ := rx_b X (D := D0) (fun r hr => r0 r hr.1 ((dr r hr.1).mpr hr.2))
    have h1 : ¬ lx n D D0 := fun h => mn0 _ in1 (lx_cg eD (fun _ _ => rfl) h)
    have h2 : ¬ lx n D0 D := fun h => mn sd0 ly0 (lx_cg eD0 (fun _ _ => rfl) h)
    rw [lx_tri h1 h2 e he]
    exact (b0 e he).1

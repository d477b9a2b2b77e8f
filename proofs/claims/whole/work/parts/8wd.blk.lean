-- around a room of a layout, beginning with a side
section BLK
variable {rm : Nat → Prop} {nr : Nat → Nat → Prop} {Bp : Nat → Nat → Nat}
theorem lay_enu (G : GP rm nr Bp) {sd : Nat → Nat → Nat} (Y : LYa rm nr Bp sd) {r t : Nat} (hr : rm r) (ht : t < 4) : ∃ w dg, ENU nr Bp r w dg ∧ (sd r (w 0) + 4 - t) % 4 = 0 ∧ ∀ k, k + 1 < dg → (sd r (w k) + 4 - t) % 4 ≤ (sd r (w (k + 1)) + 4 - t) % 4 := by
  obtain ⟨v, n, e1, e2, un⟩ := Y.on r ((t + 3) % 4) hr (Nat.mod_lt _ (by decide))
  obtain ⟨w, dg, w0, E⟩ := enu G (G.nx r v n)
  obtain ⟨a1, a2, a3, a4, a5⟩ := id E
  refine ⟨w, dg, E, by rw [w0]; omega, fun k hk => ?_⟩
  have nk := (a1 k).1
  have l := Y.lt r _ hr nk
  rcases Y.rw r (w k) hr nk with q | q
  · rw [(a1 k).2, q]; exact Nat.le_refl _
  · rw [(a1 k).2, q]
    by_cases c : sd r (w k) = (t + 3) % 4
    · exfalso
      have := un (w k) nk c (by rw [q, c])
      have e : w (k + 1) = w 0 := by rw [(a1 k).2, this, w0]
      exact a4 0 (k + 1) (by omega) hk e.symm
    · omega
/-- two flips, at a node in front and at one behind -/
theorem block (G : GP rm nr Bp) {sd : Nat → Nat → Nat} (Y : LYa rm nr Bp sd) {r t : Nat} (hr : rm r) (ht : t < 4) {mu : Nat → Bool} {Pp : Nat → Bool} {ex en : Nat} (rot : ∀ v, nr r v → mu (Bp r v) = xor (mu v) (Pp v)) (hx : nr r ex) (hn : nr r en) (ox : sd r ex = t) (on : sd r en = (t + 2) % 4) (fl : ∀ v, nr r v → (Pp v = true ↔ v = ex ∨ v = en)) : mu en = (!mu ex) ∧ ∀ v, nr r v → (sd r v = (t + 1) % 4 → mu v = !mu ex) ∧ (sd r v = (t + 3) % 4 → mu v = mu ex) := by
  obtain ⟨w, dg, E, z0, mo⟩ := lay_enu G Y hr ht
  obtain ⟨a1, a2, a3, a4, a5⟩ := E
  obtain ⟨a, ha, ea⟩ := a5 ex hx
  obtain ⟨e, he, ee⟩ := a5 en hn
  have mono : ∀ d k, k + d < dg → (sd r (w k) + 4 - t) % 4 ≤ (sd r (w (k + d)) + 4 - t) % 4 := fun d => by
    induction d with
    | zero => intro k _; exact Nat.le_refl _
    | succ d ih => intro k hk; exact Nat.le_trans (ih k (by omega)) (mo (k + d) hk)
  have lt : ∀ k l, k < dg → l < dg → (sd r (w k) + 4 - t) % 4 < (sd r (w l) + 4 - t) % 4 → k < l := fun k l hk hl h => by
    rcases Nat.lt_or_ge k l with y | y
    · exact y
    · have := mono (k - l) l (by omega)
      rw [show l + (k - l) = k by omega] at this
      omega
  have uq : ∀ k l, k < dg → l < dg → w k = w l → k = l := fun k l hk hl h => by
    rcases Nat.lt_trichotomy k l with y | y | y
    · exact absurd h (a4 k l y hl)
    · exact y
    · exact absurd h.symm (a4 l k y hk)
  have st : ∀ k, k + 1 < dg → mu (w (k + 1)) = xor (mu (w k)) (bo (k = a ∨ k = e)) := fun k hk => by
    rw [(a1 k).2, rot _ (a1 k).1]
    congr 1
    cases hp : Pp (w k) with
    | true =>
      refine (bo_t.mpr ?_).symm
      rcases (fl _ (a1 k).1).mp hp with y | y
      · exact Or.inl (uq k a (by omega) ha (y.trans ea.symm))
      · exact Or.inr (uq k e (by omega) he (y.trans ee.symm))
    | false =>
      refine (bo_f.mpr (fun y => ?_)).symm
      have : Pp (w k) = true := (fl _ (a1 k).1).mpr (by
        rcases y with y | y
        · left; rw [y]; exact ea
        · right; rw [y]; exact ee)
      rw [this] at hp; exact absurd hp (by decide)
  have sg : ∀ d k, k + d < dg → (∀ j, k ≤ j → j < k + d → j ≠ a ∧ j ≠ e) → mu (w (k + d)) = mu (w k) := fun d => by
    induction d with
    | zero => intro k _ _; rfl
    | succ d ih =>
      intro k hk hj
      have h0 := hj (k + d) (by omega) (by omega)
      show mu (w (k + d + 1)) = _
      rw [st (k + d) hk, bo_f.mpr (fun z => z.elim h0.1 h0.2), ih k (by omega) (fun j h1 h2 => hj j h1 (by omega))]
      cases mu (w k) <;> rfl
  have fp : ∀ k, k + 1 < dg → (k = a ∨ k = e) → mu (w (k + 1)) = !mu (w k) := fun k hk h => by
    rw [st k hk, bo_t.mpr h]; cases mu (w k) <;> rfl
  have ta : (sd r (w a) + 4 - t) % 4 = 0 := by rw [ea, ox]; omega
  have te : (sd r (w e) + 4 - t) % 4 = 2 := by rw [ee, on]; omega
  have ae := lt a e ha he (by omega)
  have mid : ∀ k, a < k → k ≤ e → mu (w k) = !mu (w a) := fun k h1 h2 => by
    have := sg (k - (a + 1)) (a + 1) (by omega) (fun j j1 j2 => ⟨by omega, by omega⟩)
    rw [show a + 1 + (k - (a + 1)) = k by omega] at this
    rw [this]; exact fp a (by omega) (Or.inl rfl)
  have aft : ∀ k, e < k → k < dg → mu (w k) = mu (w a) := fun k h1 h2 => by
    have := sg (k - (e + 1)) (e + 1) (by omega) (fun j j1 j2 => ⟨by omega, by omega⟩)
    rw [show e + 1 + (k - (e + 1)) = k by omega] at this
    rw [this, fp e (by omega) (Or.inr rfl), mid e ae (Nat.le_refl e)]
    cases mu (w a) <;> rfl
  refine ⟨by rw [← ee, ← ea]; exact mid e ae (Nat.le_refl e), fun v hv => ?_⟩
  obtain ⟨k, hk, ek⟩ := a5 v hv
  constructor
  · intro h
    rw [← ek, ← ea]
    have tk : (sd r (w k) + 4 - t) % 4 = 1 := by rw [ek, h]; omega
    exact mid k (lt a k ha hk (by omega)) (by have := lt k e hk he (by omega); omega)
  · intro h
    rw [← ek, ← ea]
    have tk : (sd r (w k) + 4 - t) % 4 = 3 := by rw [ek, h]; omega
    exact aft k (lt e k he hk (by omega)) hk
end BLK
-- parities of walks
noncomputable def wk (X : Nat → Nat) (n a b : Nat) : Bool := xf (fun i => bo ((a = X i ∧ b = X (i + 1)) ∨ (a = X (i + 1) ∧ b = X i))) n
theorem wk_sy {X : Nat → Nat} {n a b : Nat} : wk X n a b = wk X n b a := xf_cg n (fun i _ => bo_cg ⟨fun h => h.elim (fun y => Or.inr ⟨y.2, y.1⟩) (fun y => Or.inl ⟨y.2, y.1⟩), fun h => h.elim (fun y => Or.inr ⟨y.2, y.1⟩) (fun y => Or.inl ⟨y.2, y.1⟩)⟩)
theorem wk_ev {X : Nat → Nat} {z : Nat} : ∀ n, (∀ i, i < n → X i < 9 ∧ X (i + 1) < 9 ∧ X i ≠ X (i + 1)) → xf (fun j => wk X n z j) 9 = xor (bo (z = X 0)) (bo (z = X n))
  | 0, _ => by
    rw [xf_0 (f := fun j => wk X 0 z j) 9 (fun j _ => rfl)]
    cases bo (z = X 0) <;> rfl
  | n + 1, h => by
    have ih := wk_ev (X := X) (z := z) n (fun i hi => h i (by omega))
    obtain ⟨h1, h2, h3⟩ := h n (by omega)
    have e : ∀ j, wk X (n + 1) z j = xor (wk X n z j) (bo ((z = X n ∧ j = X (n + 1)) ∨ (z = X (n + 1) ∧ j = X n))) := fun j => rfl
    rw [xf_cg 9 (fun j _ => e j), xf_x, ih, xf_pair h1 h2 h3]
    cases bo (z = X 0) <;> cases bo (z = X n) <;> cases bo (z = X (n + 1)) <;> rfl

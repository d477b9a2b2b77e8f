-- a disc of rooms with its four sides put around it
def DSK (rm : Nat → Prop) (aj : Nat → Nat → Prop) (B : Nat → Nat → Nat) (q b : Nat → Nat) (L : Nat) : Prop := (∀ r, rm r → r < 9) ∧ (∀ r v, rm r → aj r v → rm v ∧ r ≠ v ∧ aj v r) ∧ (∀ r v, rm r → aj r v → aj r (B r v)) ∧ (∀ r v w, rm r → aj r v → aj r w → B r v = B r w → v = w) ∧ (∀ r (S : Nat → Prop), rm r → (∃ v, aj r v ∧ S v) → (∀ v, aj r v → S v → S (B r v)) → ∀ v, aj r v → S v) ∧ (∀ y, rm (q y) ∧ aj (q y) (q (y + 1)) ∧ B (q (y + 1)) (q y) = q (y + 2)) ∧ (∀ y, q (y + L) = q y) ∧ (∀ y z, 1 ≤ y → y < z → z ≤ L → q y ≠ q z) ∧ (∀ a c, rm a → aj a c → ¬ (∃ y, a = q y ∧ c = q (y + 1)) → B (B c a) c = a ∧ B a (B c a) = c ∧ ¬ (∃ y, c = q y ∧ B c a = q (y + 1)) ∧ ¬ (∃ y, B c a = q y ∧ a = q (y + 1))) ∧ (b 0 = 0 ∧ b 0 ≤ b 1 ∧ b 1 ≤ b 2 ∧ b 2 ≤ b 3 ∧ b 3 ≤ b 4 ∧ b 4 = L ∧ 3 ≤ L) ∧ (∀ s, s < 4 → b (s + 1) < b s + L) ∧ (∀ a c e, rm a → aj a c → aj a e → aj c e → (B a c = e ∧ ¬ ∃ y, c = q y ∧ a = q (y + 1)) ∨ (B a e = c ∧ ¬ ∃ y, e = q y ∧ a = q (y + 1))) ∧ (∀ a c s, s < 4 → (∃ y, b s ≤ y ∧ y ≤ b (s + 1) ∧ q y = a) → (∃ y, b s ≤ y ∧ y ≤ b (s + 1) ∧ q y = c) → aj a c → ∃ y, b s ≤ y ∧ y < b (s + 1) ∧ ((a = q y ∧ c = q (y + 1)) ∨ (c = q y ∧ a = q (y + 1)))) ∧ (∀ a s, s < 4 → (∃ y, b s ≤ y ∧ y ≤ b (s + 1) ∧ q y = a) → (∃ y, b ((s + 1) % 4) ≤ y ∧ y ≤ b ((s + 1) % 4 + 1) ∧ q y = a) → a = q (b (s + 1))) ∧ (∀ S : Nat → Prop, (∃ r, rm r ∧ S r) → (∀ r w, rm r → S r → aj r w → S w) → ∀ r, rm r → S r)
theorem DSK.r9 {rm : Nat → Prop} {aj : Nat → Nat → Prop} {B : Nat → Nat → Nat} {q b : Nat → Nat} {L : Nat} (h : DSK rm aj B q b L) : ∀ r, rm r → r < 9 := h.1
theorem DSK.ed {rm : Nat → Prop} {aj : Nat → Nat → Prop} {B : Nat → Nat → Nat} {q b : Nat → Nat} {L : Nat} (h : DSK rm aj B q b L) : ∀ r v, rm r → aj r v → rm v ∧ r ≠ v ∧ aj v r := h.2.1
theorem DSK.nx {rm : Nat → Prop} {aj : Nat → Nat → Prop} {B : Nat → Nat → Nat} {q b : Nat → Nat} {L : Nat} (h : DSK rm aj B q b L) : ∀ r v, rm r → aj r v → aj r (B r v) := h.2.2.1
theorem DSK.ij {rm : Nat → Prop} {aj : Nat → Nat → Prop} {B : Nat → Nat → Nat} {q b : Nat → Nat} {L : Nat} (h : DSK rm aj B q b L) : ∀ r v w, rm r → aj r v → aj r w → B r v = B r w → v = w := h.2.2.2.1
theorem DSK.tv {rm : Nat → Prop} {aj : Nat → Nat → Prop} {B : Nat → Nat → Nat} {q b : Nat → Nat} {L : Nat} (h : DSK rm aj B q b L) : ∀ r (S : Nat → Prop), rm r → (∃ v, aj r v ∧ S v) → (∀ v, aj r v → S v → S (B r v)) → ∀ v, aj r v → S v := h.2.2.2.2.1
theorem DSK.qr {rm : Nat → Prop} {aj : Nat → Nat → Prop} {B : Nat → Nat → Nat} {q b : Nat → Nat} {L : Nat} (h : DSK rm aj B q b L) : ∀ y, rm (q y) ∧ aj (q y) (q (y + 1)) ∧ B (q (y + 1)) (q y) = q (y + 2) := h.2.2.2.2.2.1
theorem DSK.qp {rm : Nat → Prop} {aj : Nat → Nat → Prop} {B : Nat → Nat → Nat} {q b : Nat → Nat} {L : Nat} (h : DSK rm aj B q b L) : ∀ y, q (y + L) = q y := h.2.2.2.2.2.2.1
theorem DSK.qd {rm : Nat → Prop} {aj : Nat → Nat → Prop} {B : Nat → Nat → Nat} {q b : Nat → Nat} {L : Nat} (h : DSK rm aj B q b L) : ∀ y z, 1 ≤ y → y < z → z ≤ L → q y ≠ q z := h.2.2.2.2.2.2.2.1
theorem DSK.ti {rm : Nat → Prop} {aj : Nat → Nat → Prop} {B : Nat → Nat → Nat} {q b : Nat → Nat} {L : Nat} (h : DSK rm aj B q b L) : ∀ a c, rm a → aj a c → ¬ (∃ y, a = q y ∧ c = q (y + 1)) → B (B c a) c = a ∧ B a (B c a) = c ∧ ¬ (∃ y, c = q y ∧ B c a = q (y + 1)) ∧ ¬ (∃ y, B c a = q y ∧ a = q (y + 1)) := h.2.2.2.2.2.2.2.2.1
theorem DSK.bm {rm : Nat → Prop} {aj : Nat → Nat → Prop} {B : Nat → Nat → Nat} {q b : Nat → Nat} {L : Nat} (h : DSK rm aj B q b L) : b 0 = 0 ∧ b 0 ≤ b 1 ∧ b 1 ≤ b 2 ∧ b 2 ≤ b 3 ∧ b 3 ≤ b 4 ∧ b 4 = L ∧ 3 ≤ L := h.2.2.2.2.2.2.2.2.2.1
theorem DSK.bl {rm : Nat → Prop} {aj : Nat → Nat → Prop} {B : Nat → Nat → Nat} {q b : Nat → Nat} {L : Nat} (h : DSK rm aj B q b L) : ∀ s, s < 4 → b (s + 1) < b s + L := h.2.2.2.2.2.2.2.2.2.2.1
theorem DSK.n3 {rm : Nat → Prop} {aj : Nat → Nat → Prop} {B : Nat → Nat → Nat} {q b : Nat → Nat} {L : Nat} (h : DSK rm aj B q b L) : ∀ a c e, rm a → aj a c → aj a e → aj c e → (B a c = e ∧ ¬ ∃ y, c = q y ∧ a = q (y + 1)) ∨ (B a e = c ∧ ¬ ∃ y, e = q y ∧ a = q (y + 1)) := h.2.2.2.2.2.2.2.2.2.2.2.1
theorem DSK.n2 {rm : Nat → Prop} {aj : Nat → Nat → Prop} {B : Nat → Nat → Nat} {q b : Nat → Nat} {L : Nat} (h : DSK rm aj B q b L) : ∀ a c s, s < 4 → (∃ y, b s ≤ y ∧ y ≤ b (s + 1) ∧ q y = a) → (∃ y, b s ≤ y ∧ y ≤ b (s + 1) ∧ q y = c) → aj a c → ∃ y, b s ≤ y ∧ y < b (s + 1) ∧ ((a = q y ∧ c = q (y + 1)) ∨ (c = q y ∧ a = q (y + 1))) := h.2.2.2.2.2.2.2.2.2.2.2.2.1
theorem DSK.n1 {rm : Nat → Prop} {aj : Nat → Nat → Prop} {B : Nat → Nat → Nat} {q b : Nat → Nat} {L : Nat} (h : DSK rm aj B q b L) : ∀ a s, s < 4 → (∃ y, b s ≤ y ∧ y ≤ b (s + 1) ∧ q y = a) → (∃ y, b ((s + 1) % 4) ≤ y ∧ y ≤ b ((s + 1) % 4 + 1) ∧ q y = a) → a = q (b (s + 1)) := h.2.2.2.2.2.2.2.2.2.2.2.2.2.1
theorem DSK.rc {rm : Nat → Prop} {aj : Nat → Nat → Prop} {B : Nat → Nat → Nat} {q b : Nat → Nat} {L : Nat} (h : DSK rm aj B q b L) : ∀ S : Nat → Prop, (∃ r, rm r ∧ S r) → (∀ r w, rm r → S r → aj r w → S w) → ∀ r, rm r → S r := h.2.2.2.2.2.2.2.2.2.2.2.2.2.2
def nrs (q b : Nat → Nat) (r s : Nat) : Prop := ∃ y, b s ≤ y ∧ y ≤ b (s + 1) ∧ q y = r
def outd (q : Nat → Nat) (v r : Nat) : Prop := ∃ y, v = q y ∧ r = q (y + 1)
def lo4 (b : Nat → Nat) (y : Nat) : Nat := if y ≤ b 1 then 0 else if y ≤ b 2 then 1 else if y ≤ b 3 then 2 else 3
def nlo (b : Nat → Nat) (L y : Nat) : Nat := if y < L then lo4 b (y + 1) else 4 + lo4 b 1
def nrx (rm : Nat → Prop) (aj : Nat → Nat → Prop) (q b : Nat → Nat) (u v : Nat) : Prop := (rm u ∧ aj u v) ∨ (∃ s, s < 4 ∧ v = 9 + s ∧ nrs q b u s) ∨ (∃ s, s < 4 ∧ u = 9 + s ∧ nrs q b v s) ∨ ∃ s s', s < 4 ∧ s' < 4 ∧ u = 9 + s ∧ v = 9 + s' ∧ (s' = (s + 1) % 4 ∨ s = (s' + 1) % 4)
noncomputable def psn (q : Nat → Nat) (L r : Nat) : Nat := @Classical.epsilon Nat ⟨0⟩ (fun y => 1 ≤ y ∧ y ≤ L ∧ q y = r)
noncomputable def Bx (B : Nat → Nat → Nat) (q b : Nat → Nat) (L u v : Nat) : Nat :=
  if u < 9 then
    if 9 ≤ v then (if bo (nrs q b u ((v - 9 + 1) % 4)) = true then 9 + (v - 9 + 1) % 4 else q (psn q L u + 1))
    else if bo (outd q v u) = true then 9 + lo4 b (psn q L u) else B u v
  else if v = 9 + (u - 9 + 1) % 4 then q (b (u - 9 + 1)) else if v = 9 + (u - 9 + 3) % 4 then 9 + (u - 9 + 1) % 4 else if v = q (b (u - 9)) then 9 + (u - 9 + 3) % 4 else q (psn q L v - 1)
section DSKS
variable {rm : Nat → Prop} {aj : Nat → Nat → Prop} {B : Nat → Nat → Nat} {q b : Nat → Nat} {L : Nat}
theorem DSK.ps (D : DSK rm aj B q b L) {y : Nat} (h1 : 1 ≤ y) (h2 : y ≤ L) : psn q L (q y) = y := by
  have sp := @Classical.epsilon_spec Nat (fun z => 1 ≤ z ∧ z ≤ L ∧ q z = q y) ⟨y, h1, h2, rfl⟩
  have sp' : 1 ≤ psn q L (q y) ∧ psn q L (q y) ≤ L ∧ q (psn q L (q y)) = q y := sp
  rcases Nat.lt_trichotomy (psn q L (q y)) y with h | h | h
  · exact absurd sp'.2.2 (D.qd _ _ sp'.1 h h2)
  · exact h
  · exact absurd sp'.2.2.symm (D.qd _ _ h1 h sp'.2.1)
theorem DSK.q9 (D : DSK rm aj B q b L) (y : Nat) : q y < 9 := D.r9 _ (D.qr y).1
/-- each place of the outline has its number from 1 to L -/
theorem DSK.nm (D : DSK rm aj B q b L) : ∀ y, ∃ z, 1 ≤ z ∧ z ≤ L ∧ q z = q y ∧ q (z + 1) = q (y + 1) := fun y => by
  have l3 := D.bm.2.2.2.2.2.2
  induction y with
  | zero => exact ⟨L, by omega, Nat.le_refl L, by have := D.qp 0; rw [Nat.zero_add] at this; exact this, by have := D.qp 1; rw [Nat.add_comm 1 L] at this; exact this⟩
  | succ y ih =>
    obtain ⟨z, z1, z2, z3, z4⟩ := ih
    have e2 : q (z + 2) = q (y + 2) := by rw [← (D.qr z).2.2, ← (D.qr y).2.2, z3, z4]
    by_cases h : z < L
    · exact ⟨z + 1, by omega, by omega, z4, e2⟩
    · have : z = L := by omega
      subst this
      have p1 := D.qp 1
      have p2 := D.qp 2
      rw [Nat.add_comm 1 z] at p1
      rw [Nat.add_comm 2 z] at p2
      exact ⟨1, by omega, by omega, by rw [← p1]; exact z4, by show q 2 = _; rw [← p2]; exact e2⟩
theorem DSK.same (D : DSK rm aj B q b L) {y z : Nat} (hy : y ≤ L) (hz1 : 1 ≤ z) (hz : z ≤ L) (e : q y = q z) : y = z ∨ (y = 0 ∧ z = L) := by
  rcases Nat.eq_zero_or_pos y with h | h
  · subst h
    have := D.qp 0
    rw [Nat.zero_add] at this
    rcases Nat.lt_or_ge z L with k | k
    · exact absurd (e.symm.trans this.symm) (D.qd z L hz1 k (Nat.le_refl L))
    · exact Or.inr ⟨rfl, by omega⟩
  · rcases Nat.lt_trichotomy y z with k | k | k
    · exact absurd e (D.qd y z h k hz)
    · exact Or.inl k
    · exact absurd e.symm (D.qd z y hz1 k hy)
theorem DSK.bL (D : DSK rm aj B q b L) {s : Nat} (hs : s < 5) : b s ≤ L := by
  obtain ⟨b0, b1, b2, b3, b4, b5, l3⟩ := D.bm
  rcases (show s = 0 ∨ s = 1 ∨ s = 2 ∨ s = 3 ∨ s = 4 by omega) with e | e | e | e | e <;> subst e <;> omega
theorem DSK.nr1 (D : DSK rm aj B q b L) {y s : Nat} (h1 : 1 ≤ y) (h2 : y ≤ L) (hs : s < 4) : nrs q b (q y) s ↔ (b s ≤ y ∧ y ≤ b (s + 1)) ∨ (y = L ∧ b s = 0) := by
  constructor
  · rintro ⟨z, z1, z2, z3⟩
    have zl : z ≤ L := Nat.le_trans z2 (D.bL (by omega))
    rcases D.same zl h1 h2 z3 with e | ⟨e1, e2⟩
    · subst e; exact Or.inl ⟨z1, z2⟩
    · exact Or.inr ⟨e2, by omega⟩
  · rintro (⟨z1, z2⟩ | ⟨z1, z2⟩)
    · exact ⟨y, z1, z2, rfl⟩
    · refine ⟨0, by omega, Nat.zero_le _, ?_⟩
      have := D.qp 0
      rw [Nat.zero_add] at this
      rw [z1, this]
theorem lo4_c (b : Nat → Nat) (y : Nat) : (lo4 b y = 0 ∧ y ≤ b 1) ∨ (lo4 b y = 1 ∧ b 1 < y ∧ y ≤ b 2) ∨ (lo4 b y = 2 ∧ b 1 < y ∧ b 2 < y ∧ y ≤ b 3) ∨ (lo4 b y = 3 ∧ b 1 < y ∧ b 2 < y ∧ b 3 < y) := by
  unfold lo4
  by_cases h1 : y ≤ b 1
  · rw [if_pos h1]; exact Or.inl ⟨rfl, h1⟩
  · by_cases h2 : y ≤ b 2
    · rw [if_neg h1, if_pos h2]; exact Or.inr (Or.inl ⟨rfl, by omega, h2⟩)
    · by_cases h3 : y ≤ b 3
      · rw [if_neg h1, if_neg h2, if_pos h3]; exact Or.inr (Or.inr (Or.inl ⟨rfl, by omega, by omega, h3⟩))
      · rw [if_neg h1, if_neg h2, if_neg h3]; exact Or.inr (Or.inr (Or.inr ⟨rfl, by omega, by omega, by omega⟩))
theorem lo4_4 (b : Nat → Nat) (y : Nat) : lo4 b y < 4 := by
  have := lo4_c b y; omega
/-- the sides of a place -/
theorem DSK.fs (D : DSK rm aj B q b L) {y : Nat} (h1 : 1 ≤ y) (h2 : y ≤ L) : lo4 b y ≤ nlo b L y ∧ nlo b L y ≤ lo4 b y + 2 ∧ (∀ s, s < 4 → (nrs q b (q y) s ↔ ∃ j, j ≤ nlo b L y - lo4 b y ∧ s = (lo4 b y + j) % 4)) ∧ (b (lo4 b y) < y ∧ y ≤ b (lo4 b y + 1)) := by
  obtain ⟨b0, b1, b2, b3, b4, b5, l3⟩ := D.bm
  have n1 := D.n1 (q y)
  have R : ∀ s, s < 4 → (nrs q b (q y) s ↔ (b s ≤ y ∧ y ≤ b (s + 1)) ∨ (y = L ∧ b s = 0)) := fun s hs => D.nr1 h1 h2 hs
  have w0 := D.bl 0 (by decide)
  have w1 := D.bl 1 (by decide)
  have w2 := D.bl 2 (by decide)
  have w3 := D.bl 3 (by decide)
  simp only [Nat.zero_add, Nat.reduceAdd] at w0 w1 w2 w3
  have c1 := lo4_c b y
  have c2 := lo4_c b (y + 1)
  have c3 := lo4_c b 1
  have key : lo4 b y ≤ nlo b L y ∧ (∀ s, s < 4 → (nrs q b (q y) s ↔ ∃ j, j ≤ nlo b L y - lo4 b y ∧ s = (lo4 b y + j) % 4)) := by
    have up : lo4 b y ≤ nlo b L y := by
      unfold nlo
      split <;> omega
    refine ⟨up, fun s hs => ?_⟩
    rw [R s hs]
    constructor
    · intro h
      refine ⟨(s + 4 - lo4 b y) % 4, ?_, by omega⟩
      unfold nlo at *
      rcases (show s = 0 ∨ s = 1 ∨ s = 2 ∨ s = 3 by omega) with e | e | e | e <;> subst e <;> simp only [Nat.zero_add, Nat.reduceAdd] at h <;> split <;> omega
    · rintro ⟨j, hj, e⟩
      unfold nlo at *
      rcases (show s = 0 ∨ s = 1 ∨ s = 2 ∨ s = 3 by omega) with e' | e' | e' | e' <;> subst e' <;> simp only [Nat.zero_add, Nat.reduceAdd] <;> split at hj <;> omega
  have low : b (lo4 b y) < y ∧ y ≤ b (lo4 b y + 1) := by
    rcases c1 with ⟨e, h⟩ | ⟨e, h⟩ | ⟨e, h⟩ | ⟨e, h⟩ <;> rw [e] <;> simp only [Nat.zero_add, Nat.reduceAdd] <;> omega
  refine ⟨key.1, ?_, key.2, low⟩
  rcases Nat.lt_or_ge (nlo b L y) (lo4 b y + 3) with g | g
  · omega
  exfalso
  have l4 := lo4_4 b y
  have s0 := (key.2 (lo4 b y) l4).mpr ⟨0, Nat.zero_le _, by omega⟩
  have s3 := (key.2 ((lo4 b y + 3) % 4) (Nat.mod_lt _ (by decide))).mpr ⟨3, by omega, rfl⟩
  have e := n1 ((lo4 b y + 3) % 4) (Nat.mod_lt _ (by decide)) s3 (by rw [show ((lo4 b y + 3) % 4 + 1) % 4 = lo4 b y by omega]; exact s0)
  have bb : b ((lo4 b y + 3) % 4 + 1) ≤ L := D.bL (by omega)
  have sm := D.same bb h1 h2 e.symm
  rcases c1 with ⟨x, h⟩ | ⟨x, h⟩ | ⟨x, h⟩ | ⟨x, h⟩ <;> rw [x] at sm low <;> simp only [Nat.zero_add, Nat.reduceAdd, Nat.reduceMod] at sm low <;> omega
end DSKS

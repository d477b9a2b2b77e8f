section
-- a disc of rooms with its four sides put around it
def DSK (rm : Nat → Prop) (aj : Nat → Nat → Prop) (B : Nat → Nat → Nat) (q b : Nat → Nat) (L : Nat) : Prop := (∀ r, rm r → r < 9) ∧ (∀ r v, rm r → aj r v → rm v ∧ r ≠ v ∧ aj v r) ∧ (∀ r v, rm r → aj r v → aj r (B r v)) ∧ (∀ r v w, rm r → aj r v → aj r w → B r v = B r w → v = w) ∧ (∀ r (S : Nat → Prop), rm r → (∃ v, aj r v ∧ S v) → (∀ v, aj r v → S v → S (B r v)) → ∀ v, aj r v → S v) ∧ (∀ y, rm (q y) ∧ aj (q y) (q (y + 1)) ∧ B (q (y + 1)) (q y) = q (y + 2)) ∧ (∀ y, q (y + L) = q y) ∧ (∀ y z, 1 ≤ y → y < z → z ≤ L → q y ≠ q z) ∧ (∀ a c, rm a → aj a c → ¬ (∃ y, a = q y ∧ c = q (y + 1)) → B (B c a) c = a ∧ B a (B c a) = c ∧ ¬ (∃ y, c = q y ∧ B c a = q (y + 1)) ∧ ¬ (∃ y, B c a = q y ∧ a = q (y + 1))) ∧ (b 0 = 0 ∧ b 0 ≤ b 1 ∧ b 1 ≤ b 2 ∧ b 2 ≤ b 3 ∧ b 3 ≤ b 4 ∧ b 4 = L ∧ 3 ≤ L) ∧ (∀ s, s < 4 → b (s + 1) < b s + L) ∧ (∀ a c e, rm a → aj a c → aj a e → aj c e → (B a c = e ∧ ¬ ∃ y, c = q y ∧ a = q (y + 1)) ∨ (B a e = c ∧ ¬ ∃ y, e = q y ∧ a = q (y + 1))) ∧ (∀ a c s, s < 4 → (∃ y, b s ≤ y ∧ y ≤ b (s + 1) ∧ q y = a) → (∃ y, b s ≤ y ∧ y ≤ b (s + 1) ∧ q y = c) → aj a c → ∃ y, b s ≤ y ∧ y < b (s + 1) ∧ ((a = q y ∧ c = q (y + 1)) ∨ (c = q y ∧ a = q (y + 1)))) ∧ (∀ a s, s < 4 → (∃ y, b s ≤ y ∧ y ≤ b (s + 1) ∧ q y = a) → (∃ y, b ((s + 1) % 4) ≤ y ∧ y ≤ b ((s + 1) % 4 + 1) ∧ q y = a) → a = q (b (s + 1))) ∧ (∀ S : Nat → Prop, (∃ r, rm r ∧ S r) → (∀ r w, rm r → S r → aj r w → S w) → ∀ r, rm r → S r)
theorem DSK.r9 {rm : Nat → Prop} {aj : Nat → Nat → Prop} {B : Nat → Nat → Nat} {q b : Nat → Nat} {L : Nat} (h : DSK rm aj B q b L) : ∀ r, rm r → r < 9 := h.1
theorem DSK.ed {rm : Nat → Prop} {aj : Nat → Nat → Prop} {B : Nat → Nat → Nat} {q b : Nat → Nat} {L : Nat} (h : DSK rm aj B q b L) : ∀ r v, rm r → aj r v → rm v ∧ r ≠ v ∧ aj v r := h.2.1
theorem DSK.nx {rm : Nat → Prop} {aj : Nat → Nat → Prop} {B : Nat → Nat → Nat} {q b : Nat → Nat} {L : Nat} (h : DSK rm aj B q b L) : ∀ r v, rm r → aj r v → aj r (B r v) := h.2.2.1
theorem DSK.ij {rm : Nat → Prop} {aj : Nat → Nat → Prop} {B : Nat → Nat → Nat} {q b : Nat → Nat} {L : Nat} (h : DSK rm aj B q b L) : ∀ r v w, rm r → aj r v → aj r w → B r v = B r w → v = w := h.2.2.2.1
theorem DSK.tv {rm : Nat → Prop} {aj : Nat → Nat → Prop} {B : Nat → Nat → Nat} {q b : Nat → Nat} {L : Nat} (h : DSK rm aj B q b L) : ∀ r (S : Nat → Prop), rm r → (∃ v, aj r v ∧ S v) → (∀ v, aj r v → S v → S (B r v)) → ∀ v, aj r v → S v := h.2.2.2.2.1
theorem DSK.qr {rm : Nat → Prop} {aj : Nat → Nat → Prop} {B : Nat → Nat → Nat} {q b : Nat → Nat} {L : Nat} (h : DSK rm aj B q b L) : ∀ y, rm (q y) ∧ aj (q y) (q (y + 1)) ∧ B (q (y + 1)) (q y) = q (y + 2) := h.2.2.2.2.2.1
theorem DSK.qp {rm : Nat → Prop} {aj : Nat → Nat → Prop} {B : Nat → Nat → Nat} {q b : Nat → Nat} {L : Nat} (h : DSK rm aj B q b L) : ∀ y, q (y + L) = q y := h.2.2.2.2.2.2.1
theorem DSK.qd {rm : Nat → Prop} {aj : Nat → Nat → Prop} {B : Nat → Nat → Nat} {q b : Nat → Nat} {L : Nat} (h : DSK rm aj B q b L) : ∀ y z, 1 ≤ y → y < z → z ≤ L → q y ≠ q z := h.2.2.2.2.2.2.2.1
theorem DSK.ti {rm : Nat → Prop} {aj : Nat → Nat → Prop} {B : Nat → Nat → Nat} {q b : Nat → Nat} {L : Nat} (h : DSK rm aj B q b L) : ∀ a c, rm a → aj a c → ¬ (∃ y, a = q y ∧ c = q (y + 1)) → B (B c a) c = a ∧ B a (B c a) = c ∧ ¬ (∃ y, c = q y ∧ B c a = q (y + 1)) ∧ ¬ (∃ y, B c a = q y ∧ a = q (y + 1)) := h.2.2.2.2.2.2.2.2.1
theorem DSK.bm {rm : Nat → Prop} {aj : Nat → Nat → Prop} {B : Nat → Nat → Nat} {q b : Nat → Nat} {L : Nat} (h : DSK rm aj B q b L) : b 0 = 0 ∧ b 0 ≤ b 1 ∧ b 1 ≤ b 2 ∧ b 2 ≤ b 3 ∧ b 3 ≤ b 4 ∧ b 4 = L ∧ 3 ≤ L := h.2.2.2.2.2.2.2.2.2.1
theorem DSK.bl {rm : Nat → Prop} {aj : Nat → Nat → Prop} {B : Nat → Nat → Nat} {q b : Nat → Nat} {L : Nat} (h : DSK rm aj B q b L) : ∀ s, s < 4 → b (s + 1) < b s + L := h.2.2.2.2.2.2.2.2.2.2.1
theorem DSK.n3 {rm : Nat → Prop} {aj : Nat → Nat → Prop} {B : Nat → Nat → Nat} {q b : Nat → Nat} {L : Nat} (h : DSK rm aj B q b L) : ∀ a c e, rm a → aj a c → aj a e → aj c e → (B a c = e ∧ ¬ ∃ y, c = q y ∧ a = q (y + 1)) ∨ (B a e = c ∧ ¬ ∃ y, e = q y ∧ a = q (y + 1)) := h.2.2.2.2.2.2.2.2.2.2.2.1
theorem DSK.n2 {rm : Nat → Prop} {aj : Nat → Nat → Prop} {B : Nat → Nat → Nat} {q b : Nat → Nat} {L : Nat} (h : DSK rm aj B q b L) : ∀ a c s, s < 4 → (∃ y, b s ≤ y ∧ y ≤ b (s + 1) ∧ q y = a) → (∃ y, b s ≤ y ∧ y ≤ b (s + 1) ∧ q y = c) → aj a c → ∃ y, b s ≤ y ∧ y < b (s + 1) ∧ ((a = q y ∧ c = q (y + 1)) ∨ (c = q y ∧ a = q (y + 1))) := h.2.2.2.2.2.2.2.2.2.2.2.2.1
theorem DSK.n1 {rm : Nat → Prop} {aj : Nat → Nat → Prop} {B : Nat → Nat → Nat} {q b : Nat → Nat} {L : Nat} (h : DSK rm aj B q b L) : ∀ a s, s < 4 → (∃ y, b s ≤ y ∧ y ≤ b (s + 1) ∧ q y = a) → (∃ y, b ((s + 1) % 4) ≤ y ∧ y ≤ b ((s + 1) % 4 + 1) ∧ q y = a) → a = q (b (s + 1)) := h.2.2.2.2.2.2.2.2.2.2.2.2.2.1
theorem DSK.rc {rm : Nat → Prop} {aj : Nat → Nat → Prop} {B : Nat → Nat → Nat} {q b : Nat → Nat} {L : Nat} (h : DSK rm aj B q b L) : ∀ S : Nat → Prop, (∃ r, rm r ∧ S r) → (∀ r w, rm r → S r → aj r w → S w) → ∀ r, rm r → S r := h.2.2.2.2.2.2.2.2.2.2.2.2.2.2
def nrs (q b : Nat → Nat) (r s : Nat) : Prop := ∃ y, b s ≤ y ∧ y ≤ b (s + 1) ∧ q y = r
def outd (q : Nat → Nat) (v r : Nat) : Prop := ∃ y, v = q y ∧ r = q (y + 1)
def lo4 (b : Nat → Nat) (y : Nat) : Nat := if y ≤ b 1 then 0 else if y ≤ b 2 then 1 else if y ≤ b 3 then 2 else 3
def nlo (b : Nat → Nat) (L y : Nat) : Nat := if y < L then lo4 b (y + 1) else 4 + lo4 b 1
def nrx (rm : Nat → Prop) (aj : Nat → Nat → Prop) (q b : Nat → Nat) (u v : Nat) : Prop := (rm u ∧ aj u v) ∨ (∃ s, s < 4 ∧ v = 9 + s ∧ nrs q b u s) ∨ (∃ s, s < 4 ∧ u = 9 + s ∧ nrs q b v s) ∨ ∃ s s', s < 4 ∧ s' < 4 ∧ u = 9 + s ∧ v = 9 + s' ∧ (s' = (s + 1) % 4 ∨ s = (s' + 1) % 4)
noncomputable def psn (q : Nat → Nat) (L r : Nat) : Nat := @Classical.epsilon Nat ⟨0⟩ (fun y => 1 ≤ y ∧ y ≤ L ∧ q y = r)
noncomputable def Bx (B : Nat → Nat → Nat) (q b : Nat → Nat) (L u v : Nat) : Nat :=
  if u < 9 then
    if 9 ≤ v then (if bo (nrs q b u ((v - 9 + 1) % 4)) = true then 9 + (v - 9 + 1) % 4 else q (psn q L u + 1))
    else if bo (outd q v u) = true then 9 + lo4 b (psn q L u) else B u v
  else if v = 9 + (u - 9 + 1) % 4 then q (b (u - 9 + 1)) else if v = 9 + (u - 9 + 3) % 4 then 9 + (u - 9 + 1) % 4 else if v = q (b (u - 9)) then 9 + (u - 9 + 3) % 4 else q (psn q L v - 1)
section DSKS
variable {rm : Nat → Prop} {aj : Nat → Nat → Prop} {B : Nat → Nat → Nat} {q b : Nat → Nat} {L : Nat}
theorem DSK.ps (D : DSK rm aj B q b L) {y : Nat} (h1 : 1 ≤ y) (h2 : y ≤ L) : psn q L (q y) = y := by
  have sp := @Classical.epsilon_spec Nat (fun z => 1 ≤ z ∧ z ≤ L ∧ q z = q y) ⟨y, h1, h2, rfl⟩
  have sp' : 1 ≤ psn q L (q y) ∧ psn q L (q y) ≤ L ∧ q (psn q L (q y)) = q y := sp
  rcases Nat.lt_trichotomy (psn q L (q y)) y with h | h | h
  · exact absurd sp'.2.2 (D.qd _ _ sp'.1 h h2)
  · exact h
  · exact absurd sp'.2.2.symm (D.qd _ _ h1 h sp'.2.1)
theorem DSK.q9 (D : DSK rm aj B q b L) (y : Nat) : q y < 9 := D.r9 _ (D.qr y).1
/-- each place of the outline has its number from 1 to L -/
theorem DSK.nm (D : DSK rm aj B q b L) : ∀ y, ∃ z, 1 ≤ z ∧ z ≤ L ∧ q z = q y ∧ q (z + 1) = q (y + 1) := fun y => by
  have l3 := D.bm.2.2.2.2.2.2
  induction y with
  | zero => exact ⟨L, by omega, Nat.le_refl L, by have := D.qp 0; rw [Nat.zero_add] at this; exact this, by have := D.qp 1; rw [Nat.add_comm 1 L] at this; exact this⟩
  | succ y ih =>
    obtain ⟨z, z1, z2, z3, z4⟩ := ih
    have e2 : q (z + 2) = q (y + 2) := by rw [← (D.qr z).2.2, ← (D.qr y).2.2, z3, z4]
    by_cases h : z < L
    · exact ⟨z + 1, by omega, by omega, z4, e2⟩
    · have : z = L := by omega
      subst this
      have p1 := D.qp 1
      have p2 := D.qp 2
      rw [Nat.add_comm 1 z] at p1
      rw [Nat.add_comm 2 z] at p2
      exact ⟨1, by omega, by omega, by rw [← p1]; exact z4, by show q 2 = _; rw [← p2]; exact e2⟩
theorem DSK.same (D : DSK rm aj B q b L) {y z : Nat} (hy : y ≤ L) (hz1 : 1 ≤ z) (hz : z ≤ L) (e : q y = q z) : y = z ∨ (y = 0 ∧ z = L) := by
  rcases Nat.eq_zero_or_pos y with h | h
  · subst h
    have := D.qp 0
    rw [Nat.zero_add] at this
    rcases Nat.lt_or_ge z L with k | k
    · exact absurd (e.symm.trans this.symm) (D.qd z L hz1 k (Nat.le_refl L))
    · exact Or.inr ⟨rfl, by omega⟩
  · rcases Nat.lt_trichotomy y z with k | k | k
    · exact absurd e (D.qd y z h k hz)
    · exact Or.inl k
    · exact absurd e.symm (D.qd z y hz1 k hy)
theorem DSK.bL (D : DSK rm aj B q b L) {s : Nat} (hs : s < 5) : b s ≤ L := by
  obtain ⟨b0, b1, b2, b3, b4, b5, l3⟩ := D.bm
  rcases (show s = 0 ∨ s = 1 ∨ s = 2 ∨ s = 3 ∨ s = 4 by omega) with e | e | e | e | e <;> subst e <;> omega
theorem DSK.nr1 (D : DSK rm aj B q b L) {y s : Nat} (h1 : 1 ≤ y) (h2 : y ≤ L) (hs : s < 4) : nrs q b (q y) s ↔ (b s ≤ y ∧ y ≤ b (s + 1)) ∨ (y = L ∧ b s = 0) := by
  constructor
  · rintro ⟨z, z1, z2, z3⟩
    have zl : z ≤ L := Nat.le_trans z2 (D.bL (by omega))
    rcases D.same zl h1 h2 z3 with e | ⟨e1, e2⟩
    · subst e; exact Or.inl ⟨z1, z2⟩
    · exact Or.inr ⟨e2, by omega⟩
  · rintro (⟨z1, z2⟩ | ⟨z1, z2⟩)
    · exact ⟨y, z1, z2, rfl⟩
    · refine ⟨0, by omega, Nat.zero_le _, ?_⟩
      have := D.qp 0
      rw [Nat.zero_add] at this
      rw [z1, this]
theorem lo4_c (b : Nat → Nat) (y : Nat) : (lo4 b y = 0 ∧ y ≤ b 1) ∨ (lo4 b y = 1 ∧ b 1 < y ∧ y ≤ b 2) ∨ (lo4 b y = 2 ∧ b 1 < y ∧ b 2 < y ∧ y ≤ b 3) ∨ (lo4 b y = 3 ∧ b 1 < y ∧ b 2 < y ∧ b 3 < y) := by
  unfold lo4
  by_cases h1 : y ≤ b 1
  · rw [if_pos h1]; exact Or.inl ⟨rfl, h1⟩
  · by_cases h2 : y ≤ b 2
    · rw [if_neg h1, if_pos h2]; exact Or.inr (Or.inl ⟨rfl, by omega, h2⟩)
    · by_cases h3 : y ≤ b 3
      · rw [if_neg h1, if_neg h2, if_pos h3]; exact Or.inr (Or.inr (Or.inl ⟨rfl, by omega, by omega, h3⟩))
      · rw [if_neg h1, if_neg h2, if_neg h3]; exact Or.inr (Or.inr (Or.inr ⟨rfl, by omega, by omega, by omega⟩))
theorem lo4_4 (b : Nat → Nat) (y : Nat) : lo4 b y < 4 := by
  have := lo4_c b y; omega
/-- the sides of a place -/
theorem DSK.fs (D : DSK rm aj B q b L) {y : Nat} (h1 : 1 ≤ y) (h2 : y ≤ L) : lo4 b y ≤ nlo b L y ∧ nlo b L y ≤ lo4 b y + 2 ∧ (∀ s, s < 4 → (nrs q b (q y) s ↔ ∃ j, j ≤ nlo b L y - lo4 b y ∧ s = (lo4 b y + j) % 4)) ∧ (b (lo4 b y) < y ∧ y ≤ b (lo4 b y + 1)) := by
  obtain ⟨b0, b1, b2, b3, b4, b5, l3⟩ := D.bm
  have n1 := D.n1 (q y)
  have R : ∀ s, s < 4 → (nrs q b (q y) s ↔ (b s ≤ y ∧ y ≤ b (s + 1)) ∨ (y = L ∧ b s = 0)) := fun s hs => D.nr1 h1 h2 hs
  have w0 := D.bl 0 (by decide)
  have w1 := D.bl 1 (by decide)
  have w2 := D.bl 2 (by decide)
  have w3 := D.bl 3 (by decide)
  simp only [Nat.zero_add, Nat.reduceAdd] at w0 w1 w2 w3
  have c1 := lo4_c b y
  have c2 := lo4_c b (y + 1)
  have c3 := lo4_c b 1
  have key : lo4 b y ≤ nlo b L y ∧ (∀ s, s < 4 → (nrs q b (q y) s ↔ ∃ j, j ≤ nlo b L y - lo4 b y ∧ s = (lo4 b y + j) % 4)) := by
    have up : lo4 b y ≤ nlo b L y := by
      unfold nlo
      split <;> omega
    refine ⟨up, fun s hs => ?_⟩
    rw [R s hs]
    constructor
    · intro h
      refine ⟨(s + 4 - lo4 b y) % 4, ?_, by omega⟩
      unfold nlo at *
      rcases (show s = 0 ∨ s = 1 ∨ s = 2 ∨ s = 3 by omega) with e | e | e | e <;> subst e <;> simp only [Nat.zero_add, Nat.reduceAdd] at h <;> split <;> omega
    · rintro ⟨j, hj, e⟩
      unfold nlo at *
      rcases (show s = 0 ∨ s = 1 ∨ s = 2 ∨ s = 3 by omega) with e' | e' | e' | e' <;> subst e' <;> simp only [Nat.zero_add, Nat.reduceAdd] <;> split at hj <;> omega
  have low : b (lo4 b y) < y ∧ y ≤ b (lo4 b y + 1) := by
    rcases c1 with ⟨e, h⟩ | ⟨e, h⟩ | ⟨e, h⟩ | ⟨e, h⟩ <;> rw [e] <;> simp only [Nat.zero_add, Nat.reduceAdd] <;> omega
  refine ⟨key.1, ?_, key.2, low⟩
  rcases Nat.lt_or_ge (nlo b L y) (lo4 b y + 3) with g | g
  · omega
  exfalso
  have l4 := lo4_4 b y
  have s0 := (key.2 (lo4 b y) l4).mpr ⟨0, Nat.zero_le _, by omega⟩
  have s3 := (key.2 ((lo4 b y + 3) % 4) (Nat.mod_lt _ (by decide))).mpr ⟨3, by omega, rfl⟩
  have e := n1 ((lo4 b y + 3) % 4) (Nat.mod_lt _ (by decide)) s3 (by rw [show ((lo4 b y + 3) % 4 + 1) % 4 = lo4 b y by omega]; exact s0)
  have bb : b ((lo4 b y + 3) % 4 + 1) ≤ L := D.bL (by omega)
  have sm := D.same bb h1 h2 e.symm
  rcases c1 with ⟨x, h⟩ | ⟨x, h⟩ | ⟨x, h⟩ | ⟨x, h⟩ <;> rw [x] at sm low <;> simp only [Nat.zero_add, Nat.reduceAdd, Nat.reduceMod] at sm low <;> omega
end DSKS
end
section
-- the map of a disc with its sides
section DGP
variable {rm : Nat → Prop} {aj : Nat → Nat → Prop} {B : Nat → Nat → Nat} {q b : Nat → Nat} {L : Nat}
theorem DSK.x1 (D : DSK rm aj B q b L) {y : Nat} (h1 : 1 ≤ y) (h2 : y ≤ L) : Bx B q b L (q y) (q (y - 1)) = 9 + lo4 b y := by
  have a := D.q9 y
  have c := D.q9 (y - 1)
  unfold Bx
  rw [if_pos a, if_neg (by omega), if_pos (bo_t.mpr ⟨y - 1, rfl, by rw [show y - 1 + 1 = y by omega]⟩), D.ps h1 h2]
theorem DSK.x2 (D : DSK rm aj B q b L) {y j : Nat} (h1 : 1 ≤ y) (h2 : y ≤ L) (hj : j + 1 ≤ nlo b L y - lo4 b y) : Bx B q b L (q y) (9 + (lo4 b y + j) % 4) = 9 + (lo4 b y + (j + 1)) % 4 := by
  have a := D.q9 y
  have e : (9 + (lo4 b y + j) % 4 - 9 + 1) % 4 = (lo4 b y + (j + 1)) % 4 := by omega
  unfold Bx
  rw [if_pos a, if_pos (by omega), e, if_pos (bo_t.mpr (((D.fs h1 h2).2.2.1 _ (Nat.mod_lt _ (by decide))).mpr ⟨j + 1, hj, rfl⟩))]
theorem DSK.x3 (D : DSK rm aj B q b L) {y : Nat} (h1 : 1 ≤ y) (h2 : y ≤ L) : Bx B q b L (q y) (9 + nlo b L y % 4) = q (y + 1) := by
  have a := D.q9 y
  obtain ⟨f1, f2, f3, _⟩ := D.fs h1 h2
  have e : (9 + nlo b L y % 4 - 9 + 1) % 4 = (nlo b L y + 1) % 4 := by omega
  unfold Bx
  rw [if_pos a, if_pos (by omega), e, if_neg (fun z => ?_), D.ps h1 h2]
  obtain ⟨j, hj, ej⟩ := (f3 _ (Nat.mod_lt _ (by decide))).mp (bo_t.mp z)
  omega
theorem DSK.x4 (D : DSK rm aj B q b L) {r v : Nat} (hr : rm r) (hv : aj r v) (no : ¬ outd q v r) : Bx B q b L r v = B r v := by
  have a := D.r9 r hr
  have c := D.r9 v (D.ed r v hr hv).1
  unfold Bx
  rw [if_pos a, if_neg (by omega), if_neg (fun z => no (bo_t.mp z))]
theorem DSK.x5 (D : DSK rm aj B q b L) {s : Nat} (_hs : s < 4) : Bx B q b L (9 + s) (9 + (s + 1) % 4) = q (b (s + 1)) := by
  unfold Bx
  rw [if_neg (by omega), if_pos (by omega)]
  congr 2; omega
theorem DSK.x6 (D : DSK rm aj B q b L) {s : Nat} (_hs : s < 4) : Bx B q b L (9 + s) (9 + (s + 3) % 4) = 9 + (s + 1) % 4 := by
  unfold Bx
  rw [if_neg (by omega), if_neg (by omega), if_pos (by omega)]; omega
theorem DSK.x7 (D : DSK rm aj B q b L) {s : Nat} (_hs : s < 4) : Bx B q b L (9 + s) (q (b s)) = 9 + (s + 3) % 4 := by
  have a := D.q9 (b s)
  unfold Bx
  rw [if_neg (by omega), if_neg (by omega), if_neg (by omega), if_pos (by rw [show 9 + s - 9 = s by omega])]; omega
theorem DSK.x8 (D : DSK rm aj B q b L) {s y : Nat} (hs : s < 4) (h1 : b s < y) (h2 : y ≤ b (s + 1)) : Bx B q b L (9 + s) (q y) = q (y - 1) := by
  have a := D.q9 y
  have yl : y ≤ L := Nat.le_trans h2 (D.bL (by omega))
  have w := D.bl s hs
  unfold Bx
  rw [if_neg (by omega), if_neg (by omega), if_neg (by omega), if_neg (fun z => ?_), D.ps (by omega) yl]
  rw [show 9 + s - 9 = s by omega] at z
  rcases D.same (D.bL (s := s) (by omega)) (by omega) yl z.symm with e | e
  · omega
  · omega
theorem DSK.out1 (D : DSK rm aj B q b L) {v r : Nat} (h : outd q v r) : ∃ y, 1 ≤ y ∧ y ≤ L ∧ r = q y ∧ v = q (y - 1) := by
  obtain ⟨z, e1, e2⟩ := h
  have l3 := D.bm.2.2.2.2.2.2
  obtain ⟨y, y1, y2, y3, y4⟩ := D.nm z
  by_cases c : y < L
  · exact ⟨y + 1, by omega, by omega, by rw [e2, y4], by rw [e1, show y + 1 - 1 = y by omega, y3]⟩
  · have : y = L := by omega
    subst this
    have p0 := D.qp 0
    have p1 := D.qp 1
    rw [Nat.zero_add] at p0
    rw [Nat.add_comm 1 y] at p1
    exact ⟨1, by omega, by omega, by rw [e2, ← y4, p1], by show v = q 0; rw [e1, ← y3, p0]⟩
theorem DSK.nrm (D : DSK rm aj B q b L) {r s : Nat} (h : nrs q b r s) : rm r := by
  obtain ⟨y, _, _, e⟩ := h; rw [← e]; exact (D.qr y).1
/-- a room at a side stands at a place of the outline -/
theorem DSK.at1 (D : DSK rm aj B q b L) {r s : Nat} (hs : s < 4) (h : nrs q b r s) : ∃ y, 1 ≤ y ∧ y ≤ L ∧ r = q y := by
  obtain ⟨y, _, h2, e⟩ := h
  obtain ⟨z, z1, z2, z3, _⟩ := D.nm y
  exact ⟨z, z1, z2, by rw [z3, e]⟩
/-- near a room: a room or a side -/
theorem DSK.nrr (D : DSK rm aj B q b L) {r v : Nat} (hr : rm r) (h : nrx rm aj q b r v) : aj r v ∨ ∃ s, s < 4 ∧ v = 9 + s ∧ nrs q b r s := by
  have r9 := D.r9 r hr
  rcases h with h | h | ⟨s, _, e, _⟩ | ⟨s, s', _, _, e, _⟩
  · exact Or.inl h.2
  · exact Or.inr h
  · omega
  · omega
/-- the last side of a place, the place behind it -/
theorem DSK.nxy (D : DSK rm aj B q b L) {y : Nat} (h1 : 1 ≤ y) (h2 : y ≤ L) : ∃ z, 1 ≤ z ∧ z ≤ L ∧ q z = q (y + 1) ∧ q (z - 1) = q y ∧ lo4 b z = nlo b L y % 4 := by
  have l3 := D.bm.2.2.2.2.2.2
  by_cases c : y < L
  · refine ⟨y + 1, by omega, by omega, rfl, by rw [show y + 1 - 1 = y by omega], ?_⟩
    have := lo4_4 b (y + 1)
    unfold nlo; rw [if_pos c]; omega
  · have : y = L := by omega
    subst this
    have p0 := D.qp 0
    have p1 := D.qp 1
    rw [Nat.zero_add] at p0
    rw [Nat.add_comm 1 y] at p1
    refine ⟨1, by omega, by omega, p1.symm, p0.symm, ?_⟩
    have := lo4_4 b 1
    unfold nlo; rw [if_neg c]; omega
/-- what a node of a place is -/
theorem DSK.cs (D : DSK rm aj B q b L) {y v : Nat} (h1 : 1 ≤ y) (h2 : y ≤ L) (h : nrx rm aj q b (q y) v) : (v = q (y - 1)) ∨ (aj (q y) v ∧ ¬ outd q v (q y) ∧ v ≠ q (y - 1)) ∨ (∃ j, j + 1 ≤ nlo b L y - lo4 b y ∧ v = 9 + (lo4 b y + j) % 4) ∨ v = 9 + nlo b L y % 4 := by
  obtain ⟨f1, f2, f3, f4⟩ := D.fs h1 h2
  rcases D.nrr (D.qr y).1 h with k | ⟨s, s4, e, k⟩
  · by_cases o : outd q v (q y)
    · obtain ⟨z, z1, z2, z3, z4⟩ := D.out1 o
      left
      rcases D.same h2 z1 z2 z3 with e | ⟨e, _⟩
      · rw [z4, e]
      · omega
    · by_cases e : v = q (y - 1)
      · exact Or.inl e
      · exact Or.inr (Or.inl ⟨k, o, e⟩)
  · obtain ⟨j, hj, ej⟩ := (f3 s s4).mp k
    by_cases c : j + 1 ≤ nlo b L y - lo4 b y
    · exact Or.inr (Or.inr (Or.inl ⟨j, c, by rw [e, ej]⟩))
    · refine Or.inr (Or.inr (Or.inr ?_))
      rw [e, ej]
      congr 1
      rw [show nlo b L y = lo4 b y + j by omega]
theorem DSK.pv (D : DSK rm aj B q b L) {y : Nat} (h1 : 1 ≤ y) : aj (q y) (q (y - 1)) ∧ outd q (q (y - 1)) (q y) ∧ B (q y) (q (y - 1)) = q (y + 1) := by
  have := D.qr (y - 1)
  rw [show y - 1 + 1 = y by omega, show y - 1 + 2 = y + 1 by omega] at this
  exact ⟨(D.ed _ _ this.1 this.2.1).2.2, ⟨y - 1, rfl, by rw [show y - 1 + 1 = y by omega]⟩, this.2.2⟩
theorem DSK.nrj (D : DSK rm aj B q b L) {y j : Nat} (h1 : 1 ≤ y) (h2 : y ≤ L) (hj : j ≤ nlo b L y - lo4 b y) : nrx rm aj q b (q y) (9 + (lo4 b y + j) % 4) :=
  Or.inr (Or.inl ⟨_, Nat.mod_lt _ (by decide), rfl, ((D.fs h1 h2).2.2.1 _ (Nat.mod_lt _ (by decide))).mpr ⟨j, hj, rfl⟩⟩)
/-- near a side -/
theorem DSK.sc (D : DSK rm aj B q b L) {s v : Nat} (hs : s < 4) (h : nrx rm aj q b (9 + s) v) : v = 9 + (s + 1) % 4 ∨ v = 9 + (s + 3) % 4 ∨ v = q (b s) ∨ ∃ y, b s < y ∧ y ≤ b (s + 1) ∧ v = q y := by
  rcases h with ⟨h, _⟩ | ⟨s', _, _, k⟩ | ⟨s', s4, e, y, y1, y2, y3⟩ | ⟨s1, s2, h1, h2, e1, e2, k⟩
  · have := D.r9 _ h; omega
  · have := D.r9 _ (D.nrm k); omega
  · have : s' = s := by omega
    subst this
    rcases Nat.lt_or_ge (b s') y with c | c
    · exact Or.inr (Or.inr (Or.inr ⟨y, c, y2, y3.symm⟩))
    · refine Or.inr (Or.inr (Or.inl ?_))
      rw [← y3, show y = b s' by omega]
  · rcases k with k | k
    · left; omega
    · right; left; omega
theorem DSK.nrt (D : DSK rm aj B q b L) {s y : Nat} (hs : s < 4) (h1 : b s ≤ y) (h2 : y ≤ b (s + 1)) : nrx rm aj q b (9 + s) (q y) := Or.inr (Or.inr (Or.inl ⟨s, hs, rfl, y, h1, h2, rfl⟩))
theorem DSK.bb (D : DSK rm aj B q b L) {s : Nat} (hs : s < 4) : b s ≤ b (s + 1) := by
  obtain ⟨b0, b1, b2, b3, b4, b5, l3⟩ := D.bm
  rcases (show s = 0 ∨ s = 1 ∨ s = 2 ∨ s = 3 by omega) with e | e | e | e <;> subst e <;> simp only [Nat.zero_add, Nat.reduceAdd] <;> assumption
theorem DSK.xnx (D : DSK rm aj B q b L) : ∀ u v, nrx rm aj q b u v → nrx rm aj q b u (Bx B q b L u v) := fun u v h => by
  rcases Nat.lt_or_ge u 9 with u9 | u9
  · have hu : rm u := by
      rcases h with h | ⟨s, _, _, k⟩ | ⟨s, _, e, _⟩ | ⟨s, s', _, _, e, _⟩
      · exact h.1
      · exact D.nrm k
      · omega
      · omega
    by_cases on : ∃ y, 1 ≤ y ∧ y ≤ L ∧ u = q y
    · obtain ⟨y, h1, h2, e⟩ := on
      subst e
      rcases D.cs h1 h2 h with c | ⟨c1, c2, _⟩ | ⟨j, hj, c⟩ | c
      · subst c
        rw [D.x1 h1 h2]
        have := D.nrj h1 h2 (Nat.zero_le _)
        rw [Nat.add_zero, Nat.mod_eq_of_lt (lo4_4 b y)] at this
        exact this
      · rw [D.x4 hu c1 c2]; exact Or.inl ⟨hu, D.nx _ _ hu c1⟩
      · subst c
        rw [D.x2 h1 h2 hj]; exact D.nrj h1 h2 hj
      · subst c
        rw [D.x3 h1 h2]; exact Or.inl ⟨hu, (D.qr y).2.1⟩
    · rcases D.nrr hu h with k | ⟨s, s4, e, k⟩
      · rw [D.x4 hu k (fun o => by obtain ⟨y, y1, y2, y3, _⟩ := D.out1 o; exact on ⟨y, y1, y2, y3⟩)]
        exact Or.inl ⟨hu, D.nx _ _ hu k⟩
      · exact absurd (D.at1 s4 k) on
  · obtain ⟨s, s4, e⟩ : ∃ s, s < 4 ∧ u = 9 + s := by
      rcases h with h | ⟨s, _, _, k⟩ | ⟨s, s4, e, _⟩ | ⟨s, s', s4, _, e, _⟩
      · have := D.r9 _ h.1; omega
      · have := D.r9 _ (D.nrm k); omega
      · exact ⟨s, s4, e⟩
      · exact ⟨s, s4, e⟩
    subst e
    rcases D.sc s4 h with c | c | c | ⟨y, y1, y2, c⟩
    · subst c; rw [D.x5 s4]; exact D.nrt s4 (D.bb s4) (Nat.le_refl _)
    · subst c; rw [D.x6 s4]; exact Or.inr (Or.inr (Or.inr ⟨s, (s + 1) % 4, s4, Nat.mod_lt _ (by decide), rfl, rfl, Or.inl rfl⟩))
    · subst c; rw [D.x7 s4]; exact Or.inr (Or.inr (Or.inr ⟨s, (s + 3) % 4, s4, Nat.mod_lt _ (by decide), rfl, rfl, Or.inr (by omega)⟩))
    · subst c; rw [D.x8 s4 y1 y2]; exact D.nrt s4 (by omega) (by omega)
theorem DSK.xij (D : DSK rm aj B q b L) : ∀ u v w, nrx rm aj q b u v → nrx rm aj q b u w → Bx B q b L u v = Bx B q b L u w → v = w := fun u v w hv hw e => by
  rcases Nat.lt_or_ge u 9 with u9 | u9
  · have hu : rm u := by
      rcases hv with h | ⟨s, _, _, k⟩ | ⟨s, _, e, _⟩ | ⟨s, s', _, _, e, _⟩
      · exact h.1
      · exact D.nrm k
      · omega
      · omega
    by_cases on : ∃ y, 1 ≤ y ∧ y ≤ L ∧ u = q y
    · obtain ⟨y, h1, h2, eu⟩ := on
      subst eu
      obtain ⟨f1, f2, _, _⟩ := D.fs h1 h2
      have p := D.pv h1
      have b9 : ∀ x, aj (q y) x → B (q y) x < 9 := fun x hx => D.r9 _ (D.ed _ _ hu (D.nx _ _ hu hx)).1
      have q9 := D.q9 (y + 1)
      rcases D.cs h1 h2 hv with c | ⟨c1, c2, c3⟩ | ⟨j, hj, c⟩ | c <;> rcases D.cs h1 h2 hw with d | ⟨d1, d2, d3⟩ | ⟨i, hi, d⟩ | d
      · rw [c, d]
      · rw [c, D.x1 h1 h2, D.x4 hu d1 d2] at e; have := b9 _ d1; omega
      · rw [c, d, D.x1 h1 h2, D.x2 h1 h2 hi] at e; have := lo4_4 b y; omega
      · rw [c, d, D.x1 h1 h2, D.x3 h1 h2] at e; omega
      · rw [d, D.x1 h1 h2, D.x4 hu c1 c2] at e; have := b9 _ c1; omega
      · rw [D.x4 hu c1 c2, D.x4 hu d1 d2] at e; exact D.ij _ _ _ hu c1 d1 e
      · rw [d, D.x4 hu c1 c2, D.x2 h1 h2 hi] at e; have := b9 _ c1; omega
      · rw [d, D.x4 hu c1 c2, D.x3 h1 h2, ← p.2.2] at e; exact absurd (D.ij _ _ _ hu c1 p.1 e) c3
      · rw [c, d, D.x1 h1 h2, D.x2 h1 h2 hj] at e; have := lo4_4 b y; omega
      · rw [c, D.x4 hu d1 d2, D.x2 h1 h2 hj] at e; have := b9 _ d1; omega
      · rw [c, d, D.x2 h1 h2 hj, D.x2 h1 h2 hi] at e; rw [c, d]; omega
      · rw [c, d, D.x2 h1 h2 hj, D.x3 h1 h2] at e; omega
      · rw [c, d, D.x1 h1 h2, D.x3 h1 h2] at e; omega
      · rw [c, D.x4 hu d1 d2, D.x3 h1 h2, ← p.2.2] at e; exact absurd (D.ij _ _ _ hu d1 p.1 e.symm) d3
      · rw [c, d, D.x3 h1 h2, D.x2 h1 h2 hi] at e; omega
      · rw [c, d]
    · have inn : ∀ x, nrx rm aj q b u x → aj u x ∧ Bx B q b L u x = B u x := fun x hx => by
        rcases D.nrr hu hx with k | ⟨s, s4, e, k⟩
        · exact ⟨k, D.x4 hu k (fun o => by obtain ⟨y, y1, y2, y3, _⟩ := D.out1 o; exact on ⟨y, y1, y2, y3⟩)⟩
        · exact absurd (D.at1 s4 k) on
      rw [(inn v hv).2, (inn w hw).2] at e
      exact D.ij _ _ _ hu (inn v hv).1 (inn w hw).1 e
  · obtain ⟨s, s4, eu⟩ : ∃ s, s < 4 ∧ u = 9 + s := by
      rcases hv with h | ⟨s, _, _, k⟩ | ⟨s, s4, e, _⟩ | ⟨s, s', s4, _, e, _⟩
      · have := D.r9 _ h.1; omega
      · have := D.r9 _ (D.nrm k); omega
      · exact ⟨s, s4, e⟩
      · exact ⟨s, s4, e⟩
    subst eu
    have q9 := D.q9
    have bl := D.bl s s4
    have un : ∀ y z, b s ≤ y → y ≤ b (s + 1) → b s ≤ z → z ≤ b (s + 1) → q y = q z → y = z := fun y z y1 y2 z1 z2 e => by
      have hL := D.bL (s := s + 1) (by omega)
      rcases Nat.eq_zero_or_pos z with k | k
      · rcases Nat.eq_zero_or_pos y with k' | k'
        · omega
        · rcases D.same (show z ≤ L by omega) k' (by omega) e.symm with e' | e' <;> omega
      · rcases D.same (show y ≤ L by omega) k (by omega) e with e' | e' <;> omega
    rcases D.sc s4 hv with c | c | c | ⟨y, y1, y2, c⟩ <;> rcases D.sc s4 hw with d | d | d | ⟨z, z1, z2, d⟩ <;> subst c <;> subst d
    · rfl
    · rw [D.x5 s4, D.x6 s4] at e; have := q9 (b (s + 1)); omega
    · rw [D.x5 s4, D.x7 s4] at e; have := q9 (b (s + 1)); omega
    · rw [D.x5 s4, D.x8 s4 z1 z2] at e; have := un _ _ (D.bb s4) (Nat.le_refl _) (by omega) (by omega) e; omega
    · rw [D.x5 s4, D.x6 s4] at e; have := q9 (b (s + 1)); omega
    · rfl
    · rw [D.x6 s4, D.x7 s4] at e; omega
    · rw [D.x6 s4, D.x8 s4 z1 z2] at e; have := q9 (z - 1); omega
    · rw [D.x5 s4, D.x7 s4] at e; have := q9 (b (s + 1)); omega
    · rw [D.x6 s4, D.x7 s4] at e; omega
    · rfl
    · rw [D.x7 s4, D.x8 s4 z1 z2] at e; have := q9 (z - 1); omega
    · rw [D.x5 s4, D.x8 s4 y1 y2] at e; have := un _ _ (by omega) (by omega) (D.bb s4) (Nat.le_refl _) e; omega
    · rw [D.x6 s4, D.x8 s4 y1 y2] at e; have := q9 (y - 1); omega
    · rw [D.x7 s4, D.x8 s4 y1 y2] at e; have := q9 (y - 1); omega
    · rw [D.x8 s4 y1 y2, D.x8 s4 z1 z2] at e
      have := un _ _ (by omega) (by omega) (by omega) (by omega) e
      rw [show y = z by omega]
theorem DSK.xtv (D : DSK rm aj B q b L) : ∀ u (S : Nat → Prop), (∃ v, nrx rm aj q b u v ∧ S v) → (∀ v, nrx rm aj q b u v → S v → S (Bx B q b L u v)) → ∀ v, nrx rm aj q b u v → S v := fun u S ⟨v0, hv0, s0⟩ cl => by
  rcases Nat.lt_or_ge u 9 with u9 | u9
  · have hu : rm u := by
      rcases hv0 with h | ⟨s, _, _, k⟩ | ⟨s, _, e, _⟩ | ⟨s, s', _, _, e, _⟩
      · exact h.1
      · exact D.nrm k
      · omega
      · omega
    by_cases on : ∃ y, 1 ≤ y ∧ y ≤ L ∧ u = q y
    · obtain ⟨y, h1, h2, eu⟩ := on
      subst eu
      have p := D.pv h1
      -- from a side on to the next room
      have fin : S (9 + nlo b L y % 4) → S (q (y + 1)) := fun h => by
        have := cl (9 + nlo b L y % 4) (by
          have := D.nrj h1 h2 (Nat.le_refl (nlo b L y - lo4 b y))
          rw [show lo4 b y + (nlo b L y - lo4 b y) = nlo b L y by have := (D.fs h1 h2).1; omega] at this
          exact this) h
        rw [D.x3 h1 h2] at this
        exact this
      have go : ∀ d j, j + d = nlo b L y - lo4 b y → S (9 + (lo4 b y + j) % 4) → S (9 + nlo b L y % 4) ∧ ∀ i, j ≤ i → i ≤ nlo b L y - lo4 b y → S (9 + (lo4 b y + i) % 4) := fun d => by
        induction d with
        | zero =>
          intro j e h
          have f1 := (D.fs h1 h2).1
          refine ⟨by rw [show nlo b L y = lo4 b y + j by omega]; exact h, fun i i1 i2 => ?_⟩
          rw [show i = j by omega]; exact h
        | succ d ih =>
          intro j e h
          have := cl _ (D.nrj h1 h2 (show j ≤ nlo b L y - lo4 b y by omega)) h
          rw [D.x2 h1 h2 (by omega)] at this
          obtain ⟨a1, a2⟩ := ih (j + 1) (by omega) this
          refine ⟨a1, fun i i1 i2 => ?_⟩
          by_cases c : i = j
          · rw [c]; exact h
          · exact a2 i (by omega) i2
      have some : S (q (y + 1)) ∨ ∃ v, aj (q y) v ∧ S v := by
        rcases D.cs h1 h2 hv0 with c | ⟨c1, c2, c3⟩ | ⟨j, hj, c⟩ | c
        · exact Or.inr ⟨v0, by rw [c]; exact p.1, s0⟩
        · exact Or.inr ⟨v0, c1, s0⟩
        · rw [c] at s0
          exact Or.inl (fin (go (nlo b L y - lo4 b y - j) j (by omega) s0).1)
        · rw [c] at s0; exact Or.inl (fin s0)
      have pre : S (q (y - 1)) → S (9 + nlo b L y % 4) ∧ ∀ i, i ≤ nlo b L y - lo4 b y → S (9 + (lo4 b y + i) % 4) := fun h => by
        have := cl _ (Or.inl ⟨hu, p.1⟩) h
        rw [D.x1 h1 h2] at this
        obtain ⟨a1, a2⟩ := go (nlo b L y - lo4 b y) 0 (by omega) (by rw [Nat.add_zero, Nat.mod_eq_of_lt (lo4_4 b y)]; exact this)
        exact ⟨a1, fun i hi => a2 i (Nat.zero_le i) hi⟩
      have all := D.tv (q y) S hu (by
        rcases some with c | c
        · exact ⟨_, (D.qr y).2.1, c⟩
        · exact c) (fun v hv sv => by
        by_cases c : v = q (y - 1)
        · subst c
          rw [p.2.2]; exact fin (pre sv).1
        · have no : ¬ outd q v (q y) := fun o => by
            obtain ⟨z, z1, z2, z3, z4⟩ := D.out1 o
            rcases D.same h2 z1 z2 z3 with e | ⟨e, _⟩
            · exact c (by rw [z4, e])
            · omega
          have := cl v (Or.inl ⟨hu, hv⟩) sv
          rw [D.x4 hu hv no] at this
          exact this)
      intro v hv
      rcases D.cs h1 h2 hv with c | ⟨c1, c2, c3⟩ | ⟨j, hj, c⟩ | c
      · rw [c]; exact all _ p.1
      · exact all _ c1
      · rw [c]; exact (pre (all _ p.1)).2 j (by omega)
      · rw [c]; exact (pre (all _ p.1)).1
    · have inn : ∀ x, nrx rm aj q b u x → aj u x ∧ Bx B q b L u x = B u x := fun x hx => by
        rcases D.nrr hu hx with k | ⟨s, s4, e, k⟩
        · exact ⟨k, D.x4 hu k (fun o => by obtain ⟨y, y1, y2, y3, _⟩ := D.out1 o; exact on ⟨y, y1, y2, y3⟩)⟩
        · exact absurd (D.at1 s4 k) on
      have all := D.tv u S hu ⟨v0, (inn v0 hv0).1, s0⟩ (fun v hv sv => by
        have := cl v (Or.inl ⟨hu, hv⟩) sv
        rw [(inn v (Or.inl ⟨hu, hv⟩)).2] at this
        exact this)
      exact fun v hv => all v (inn v hv).1
  · obtain ⟨s, s4, eu⟩ : ∃ s, s < 4 ∧ u = 9 + s := by
      rcases hv0 with h | ⟨s, _, _, k⟩ | ⟨s, s4, e, _⟩ | ⟨s, s', s4, _, e, _⟩
      · have := D.r9 _ h.1; omega
      · have := D.r9 _ (D.nrm k); omega
      · exact ⟨s, s4, e⟩
      · exact ⟨s, s4, e⟩
    subst eu
    have dn : ∀ d y, b s ≤ y → y ≤ b (s + 1) → y = b s + d → S (q y) → S (q (b s)) ∧ ∀ z, b s ≤ z → z ≤ y → S (q z) := fun d => by
      induction d with
      | zero =>
        intro y y1 y2 e h
        rw [show y = b s by omega] at h
        exact ⟨h, fun z z1 z2 => by rw [show z = b s by omega]; exact h⟩
      | succ d ih =>
        intro y y1 y2 e h
        have := cl _ (D.nrt s4 y1 y2) h
        rw [D.x8 s4 (by omega) y2] at this
        obtain ⟨a1, a2⟩ := ih (y - 1) (by omega) (by omega) (by omega) this
        refine ⟨a1, fun z z1 z2 => ?_⟩
        by_cases c : z = y
        · rw [c]; exact h
        · exact a2 z z1 (by omega)
    have w1 : S (q (b s)) → S (9 + (s + 3) % 4) := fun h => by
      have := cl _ (D.nrt s4 (Nat.le_refl _) (D.bb s4)) h
      rw [D.x7 s4] at this; exact this
    have w2 : S (9 + (s + 3) % 4) → S (9 + (s + 1) % 4) := fun h => by
      have := cl _ (Or.inr (Or.inr (Or.inr ⟨s, (s + 3) % 4, s4, Nat.mod_lt _ (by decide), rfl, rfl, Or.inr (by omega)⟩))) h
      rw [D.x6 s4] at this; exact this
    have w3 : S (9 + (s + 1) % 4) → S (q (b (s + 1))) := fun h => by
      have := cl _ (Or.inr (Or.inr (Or.inr ⟨s, (s + 1) % 4, s4, Nat.mod_lt _ (by decide), rfl, rfl, Or.inl rfl⟩))) h
      rw [D.x5 s4] at this; exact this
    have top : S (q (b (s + 1))) := by
      rcases D.sc s4 hv0 with c | c | c | ⟨y, y1, y2, c⟩ <;> subst c
      · exact w3 s0
      · exact w3 (w2 s0)
      · exact w3 (w2 (w1 s0))
      · exact w3 (w2 (w1 (dn (y - b s) y (by omega) y2 (by omega) s0).1))
    obtain ⟨a1, a2⟩ := dn (b (s + 1) - b s) (b (s + 1)) (D.bb s4) (Nat.le_refl _) (by have := D.bb s4; omega) top
    intro v hv
    rcases D.sc s4 hv with c | c | c | ⟨y, y1, y2, c⟩ <;> subst c
    · exact w2 (w1 a1)
    · exact w1 a1
    · exact a1
    · exact a2 y (by omega) y2
end DGP
end
section
section DGQ
variable {rm : Nat → Prop} {aj : Nat → Nat → Prop} {B : Nat → Nat → Nat} {q b : Nat → Nat} {L : Nat}
theorem DSK.xsy (D : DSK rm aj B q b L) : ∀ u v, nrx rm aj q b u v → nrx rm aj q b v u := fun u v h => by
  rcases h with ⟨h1, h2⟩ | ⟨s, s4, e, k⟩ | ⟨s, s4, e, k⟩ | ⟨s, s', h1, h2, e1, e2, k⟩
  · have := D.ed u v h1 h2
    exact Or.inl ⟨this.1, this.2.2⟩
  · exact Or.inr (Or.inr (Or.inl ⟨s, s4, e, k⟩))
  · exact Or.inr (Or.inl ⟨s, s4, e, k⟩)
  · exact Or.inr (Or.inr (Or.inr ⟨s', s, h2, h1, e2, e1, k.symm⟩))
theorem DSK.xtr (D : DSK rm aj B q b L) : ∀ r u, rm r → nrx rm aj q b r u → Bx B q b L (Bx B q b L r u) r = u ∧ Bx B q b L u (Bx B q b L r u) = r := fun r u hr h => by
  have inner : ∀ r u, rm r → aj r u → ¬ outd q u r → Bx B q b L (Bx B q b L r u) r = u ∧ Bx B q b L u (Bx B q b L r u) = r := fun r u hr hu no => by
    obtain ⟨ru, ne, hur⟩ := D.ed r u hr hu
    obtain ⟨t1, t2, t3, t4⟩ := D.ti u r ru hur no
    have k := D.nx r u hr hu
    obtain ⟨rk, _, hk⟩ := D.ed r _ hr k
    rw [D.x4 hr hu no]
    have h2 : aj (B r u) u := by have := D.nx (B r u) r rk hk; rw [t1] at this; exact this
    rw [D.x4 rk hk t3, D.x4 ru (D.ed _ _ rk h2).2.2 t4]
    exact ⟨t1, t2⟩
  by_cases on : ∃ y, 1 ≤ y ∧ y ≤ L ∧ r = q y
  · obtain ⟨y, h1, h2, e⟩ := on
    subst e
    obtain ⟨f1, f2, f3, f4⟩ := D.fs h1 h2
    have p0 := D.qp 0
    rw [Nat.zero_add] at p0
    rcases D.cs h1 h2 h with c | ⟨c1, c2, c3⟩ | ⟨j, hj, c⟩ | c
    · subst c
      rw [D.x1 h1 h2]
      have l4 := lo4_4 b y
      refine ⟨D.x8 l4 f4.1 f4.2, ?_⟩
      -- the place before
      by_cases c : y = 1
      · subst c
        have l3 := D.bm.2.2.2.2.2.2
        have x := D.x3 (y := L) (by omega) (Nat.le_refl L)
        have p1 := D.qp 1
        rw [Nat.add_comm 1 L] at p1
        rw [p0, show nlo b L L % 4 = lo4 b 1 by unfold nlo; rw [if_neg (Nat.lt_irrefl L)]; omega, p1] at x
        exact x
      · have x := D.x3 (y := y - 1) (by omega) (by omega)
        rw [show nlo b L (y - 1) % 4 = lo4 b y by unfold nlo; rw [if_pos (by omega), show y - 1 + 1 = y by omega]; omega, show y - 1 + 1 = y by omega] at x
        exact x
    · exact inner _ _ hr c1 c2
    · subst c
      rw [D.x2 h1 h2 hj]
      -- the corner between two sides
      have s4 : (lo4 b y + j) % 4 < 4 := Nat.mod_lt _ (by decide)
      have n1 := (f3 _ s4).mpr ⟨j, by omega, rfl⟩
      have n2 := (f3 _ (Nat.mod_lt (lo4 b y + (j + 1)) (by decide))).mpr ⟨j + 1, by omega, rfl⟩
      have e := D.n1 (q y) _ s4 n1 (by rw [show ((lo4 b y + j) % 4 + 1) % 4 = (lo4 b y + (j + 1)) % 4 by omega]; exact n2)
      constructor
      · have x := D.x7 (s := (lo4 b y + (j + 1)) % 4) (Nat.mod_lt _ (by decide))
        have e2 : q (b ((lo4 b y + (j + 1)) % 4)) = q y := by
          rw [e]
          by_cases z : (lo4 b y + j) % 4 = 3
          · rw [show (lo4 b y + (j + 1)) % 4 = 0 by omega, z, D.bm.1, show b (3 + 1) = L from D.bm.2.2.2.2.2.1, p0]
          · rw [show (lo4 b y + (j + 1)) % 4 = (lo4 b y + j) % 4 + 1 by omega]
        rw [e2] at x
        rw [x]; omega
      · have x := D.x5 (s := (lo4 b y + j) % 4) s4
        rw [show ((lo4 b y + j) % 4 + 1) % 4 = (lo4 b y + (j + 1)) % 4 by omega] at x
        rw [x, ← e]
    · subst c
      rw [D.x3 h1 h2]
      obtain ⟨z, z1, z2, z3, z4, z5⟩ := D.nxy h1 h2
      have x := D.x1 z1 z2
      rw [z3, z4, z5] at x
      refine ⟨x, ?_⟩
      have fz := (D.fs z1 z2).2.2.2
      have w := D.x8 (lo4_4 b z) fz.1 fz.2
      rw [z3, z4, z5] at w
      exact w
  · rcases D.nrr hr h with k | ⟨s, s4, e, k⟩
    · exact inner r u hr k (fun o => by obtain ⟨y, y1, y2, y3, _⟩ := D.out1 o; exact on ⟨y, y1, y2, y3⟩)
    · exact absurd (D.at1 s4 k) on
theorem DSK.xnl (D : DSK rm aj B q b L) : ∀ r u w, rm r → nrx rm aj q b r u → nrx rm aj q b r w → nrx rm aj q b u w → Bx B q b L r u = w ∨ Bx B q b L r w = u := fun r u w hr hu hw huw => by
  have T := D.xtr
  -- a side and a room
  have one : ∀ v s, s < 4 → aj r v → nrs q b r s → nrs q b v s → Bx B q b L r v = 9 + s ∨ Bx B q b L r (9 + s) = v := fun v s s4 h1 h2 h3 => by
    obtain ⟨y, y1, y2, k⟩ := D.n2 r v s s4 h2 h3 h1
    have hs : nrx rm aj q b (9 + s) (q (y + 1)) := D.nrt s4 (by omega) y2
    have x := D.x8 (s := s) (y := y + 1) s4 (by omega) y2
    rw [show y + 1 - 1 = y by omega] at x
    -- the triangle of the side and two rooms that follow one another
    have ry := (D.qr (y + 1)).1
    have rz := (D.qr y).1
    have back := D.xsy _ _ hs
    obtain ⟨p, hp, ep⟩ : ∃ p, nrx rm aj q b (q (y + 1)) p ∧ Bx B q b L (q (y + 1)) p = 9 + s := D.xtv (q (y + 1)) (fun w => ∃ v, nrx rm aj q b (q (y + 1)) v ∧ Bx B q b L (q (y + 1)) v = w) ⟨_, D.xnx _ _ back, _, back, rfl⟩ (fun v hv _ => ⟨v, hv, rfl⟩) _ back
    have t := T _ _ ry hp
    rw [ep, x] at t
    rcases k with ⟨k1, k2⟩ | ⟨k1, k2⟩
    · right
      rw [k1, k2, t.1]; exact t.2
    · left
      rw [k1, k2, t.1]; exact ep
  have two : ∀ s s', s < 4 → s' = (s + 1) % 4 → nrs q b r s → nrs q b r s' → Bx B q b L r (9 + s) = 9 + s' := fun s s' s4 es h1 h2 => by
    obtain ⟨y, y1, y2, e⟩ := D.at1 s4 h1
    obtain ⟨f1, f2, f3, f4⟩ := D.fs y1 y2
    rw [e] at h1 h2 ⊢
    obtain ⟨j, hj, ej⟩ := (f3 s s4).mp h1
    obtain ⟨i, hi, ei⟩ := (f3 s' (by omega)).mp h2
    have : i = j + 1 := by omega
    rw [ej, D.x2 y1 y2 (by omega), ei, this]
  rcases D.nrr hr hu with ku | ⟨s, s4, e, ku⟩ <;> rcases D.nrr hr hw with kw | ⟨s', s4', e', kw⟩
  · have hc : aj u w := by
      rcases D.nrr (D.ed _ _ hr ku).1 huw with k | ⟨s, _, e, _⟩
      · exact k
      · have := D.r9 _ (D.ed _ _ hr kw).1; omega
    rcases D.n3 r u w hr ku kw hc with ⟨k1, k2⟩ | ⟨k1, k2⟩
    · left; rw [D.x4 hr ku k2]; exact k1
    · right; rw [D.x4 hr kw k2]; exact k1
  · subst e'
    have h3 : nrs q b u s' := by
      rcases D.nrr (D.ed _ _ hr ku).1 huw with k | ⟨s, _, e, k⟩
      · have := D.r9 _ (D.ed _ _ (D.ed _ _ hr ku).1 k).1; omega
      · rw [show s' = s by omega]; exact k
    exact one u s' s4' ku kw h3
  · subst e
    have h3 : nrs q b w s := by
      rcases D.nrr (D.ed _ _ hr kw).1 (D.xsy _ _ huw) with k | ⟨s', _, e, k⟩
      · have := D.r9 _ (D.ed _ _ (D.ed _ _ hr kw).1 k).1; omega
      · rw [show s = s' by omega]; exact k
    exact (one w s s4 kw ku h3).symm
  · subst e; subst e'
    rcases huw with ⟨h, _⟩ | ⟨_, _, _, k⟩ | ⟨_, _, _, k⟩ | ⟨a, c, a4, c4, e1, e2, k⟩
    · have := D.r9 _ h; omega
    · have := D.r9 _ (D.nrm k); omega
    · have := D.r9 _ (D.nrm k); omega
    · have ea : s = a := by omega
      have ec : s' = c := by omega
      subst ea; subst ec
      rcases k with k | k
      · exact Or.inl (two s s' s4 k ku kw)
      · exact Or.inr (two s' s s4' k kw ku)
theorem DSK.gp (D : DSK rm aj B q b L) : GP rm (nrx rm aj q b) (Bx B q b L) := by
  have l3 := D.bm.2.2.2.2.2.2
  refine ⟨D.r9, D.xsy, fun u v h => ?_, fun s s' h1 h2 => ⟨fun h => ?_, fun h => Or.inr (Or.inr (Or.inr ⟨s, s', h1, h2, rfl, rfl, h⟩))⟩, D.xnx, D.xij, D.xtv, D.xtr, D.xnl, fun S s9 cl => ?_, fun S hS cl => D.rc S hS (fun r w hr sr hrw => cl r w hr sr (D.ed _ _ hr hrw).1 (Or.inl ⟨hr, hrw⟩)), fun r s s' hr s4 s4' h e => ?_⟩
  · rcases h with ⟨h1, h2⟩ | ⟨s, s4, e, k⟩ | ⟨s, s4, e, k⟩ | ⟨s, s', h1, h2, e1, e2, k⟩
    · exact ⟨(D.ed u v h1 h2).2.1, Or.inl h1⟩
    · exact ⟨by have := D.r9 _ (D.nrm k); omega, Or.inl (D.nrm k)⟩
    · exact ⟨by have := D.r9 _ (D.nrm k); omega, Or.inr (by omega)⟩
    · exact ⟨by omega, Or.inr (by omega)⟩
  · rcases h with ⟨h, _⟩ | ⟨_, _, _, k⟩ | ⟨_, _, _, k⟩ | ⟨a, c, a4, c4, e1, e2, k⟩
    · have := D.r9 _ h; omega
    · have := D.r9 _ (D.nrm k); omega
    · have := D.r9 _ (D.nrm k); omega
    · have ea : s = a := by omega
      have ec : s' = c := by omega
      subst ea; subst ec; exact k
  · have h0 : nrx rm aj q b (9 + 0) (q (b 0)) := D.nrt (by decide) (Nat.le_refl _) (D.bb (s := 0) (by decide))
    exact D.rc S ⟨q (b 0), (D.qr _).1, cl _ _ s9 h0⟩ (fun r w hr sr hrw => cl r w sr (Or.inl ⟨hr, hrw⟩))
  · rcases D.nrr hr h with k | ⟨s1, s14, e1, k⟩
    · have := D.r9 _ (D.ed _ _ hr k).1; omega
    · have es : s = s1 := by omega
      subst es
      obtain ⟨y, y1, y2, ey⟩ := D.at1 s4 k
      subst ey
      rcases D.cs y1 y2 h with c | ⟨c1, _⟩ | ⟨j, hj, c⟩ | c
      · have := D.q9 (y - 1); omega
      · have := D.r9 _ (D.ed _ _ hr c1).1; omega
      · rw [c, D.x2 y1 y2 hj] at e; omega
      · rw [c, D.x3 y1 y2] at e; have := D.q9 (y + 1); omega
theorem DSK.ot (D : DSK rm aj B q b L) : OTa rm (nrx rm aj q b) (Bx B q b L) L q := by
  have l3 := D.bm.2.2.2.2.2.2
  refine ⟨by omega, fun k => (D.qr k).1, D.qp, fun r s hr s4 h => ?_, fun k => ?_⟩
  · rcases D.nrr hr h with k | ⟨s1, s14, e1, k⟩
    · have := D.r9 _ (D.ed _ _ hr k).1; omega
    · obtain ⟨y, y1, y2, e⟩ := D.at1 s14 k
      by_cases c : y = L
      · refine ⟨0, by omega, ?_⟩
        have := D.qp 0
        rw [Nat.zero_add] at this
        rw [e, c, this]
      · exact ⟨y, by omega, e.symm⟩
  · obtain ⟨y, y1, y2, e1, e2⟩ := D.nm k
    obtain ⟨f1, f2, f3, f4⟩ := D.fs y1 y2
    refine ⟨lo4 b y, nlo b L y - lo4 b y + 1, lo4_4 b y, by omega, by omega, fun s s4 => ?_, fun j hj => ?_, ?_⟩
    · rw [← e1]
      constructor
      · intro h
        rcases D.nrr (D.qr y).1 h with k | ⟨s1, s14, e, k⟩
        · have := D.r9 _ (D.ed _ _ (D.qr y).1 k).1; omega
        · obtain ⟨j, hj, ej⟩ := (f3 s1 s14).mp k
          exact ⟨j, by omega, by omega⟩
      · rintro ⟨j, hj, ej⟩
        rw [ej]; exact D.nrj y1 y2 (by omega)
    · rw [← e1]; exact D.x2 y1 y2 (by omega)
    · rw [← e1, ← e2, show lo4 b y + (nlo b L y - lo4 b y + 1 - 1) = nlo b L y by omega]
      exact D.x3 y1 y2
end DGQ
end

-- the map of a disc with its sides
section DGP
variable {rm : Nat → Prop} {aj : Nat → Nat → Prop} {B : Nat → Nat → Nat} {q b : Nat → Nat} {L : Nat}
theorem DSK.x1 (D : DSK rm aj B q b L) {y : Nat} (h1 : 1 ≤ y) (h2 : y ≤ L) : Bx B q b L (q y) (q (y - 1)) = 9 + lo4 b y := by
  have a := D.q9 y
  have c := D.q9 (y - 1)
  unfold Bx
  rw [if_pos a, if_neg (by omega), if_pos (bo_t.mpr ⟨y - 1, rfl, by rw [show y - 1 + 1 = y by omega]⟩), D.ps h1 h2]
theorem DSK.x2 (D : DSK rm aj B q b L) {y j : Nat} (h1 : 1 ≤ y) (h2 : y ≤ L) (hj : j + 1 ≤ nlo b L y - lo4 b y) : Bx B q b L (q y) (9 + (lo4 b y + j) % 4) = 9 + (lo4 b y + (j + 1)) % 4 := by
  have a := D.q9 y
  have e : (9 + (lo4 b y + j) % 4 - 9 + 1) % 4 = (lo4 b y + (j + 1)) % 4 := by omega
  unfold Bx
  rw [if_pos a, if_pos (by omega), e, if_pos (bo_t.mpr (((D.fs h1 h2).2.2.1 _ (Nat.mod_lt _ (by decide))).mpr ⟨j + 1, hj, rfl⟩))]
theorem DSK.x3 (D : DSK rm aj B q b L) {y : Nat} (h1 : 1 ≤ y) (h2 : y ≤ L) : Bx B q b L (q y) (9 + nlo b L y % 4) = q (y + 1) := by
  have a := D.q9 y
  obtain ⟨f1, f2, f3, _⟩ := D.fs h1 h2
  have e : (9 + nlo b L y % 4 - 9 + 1) % 4 = (nlo b L y + 1) % 4 := by omega
  unfold Bx
  rw [if_pos a, if_pos (by omega), e, if_neg (fun z => ?_), D.ps h1 h2]
  obtain ⟨j, hj, ej⟩ := (f3 _ (Nat.mod_lt _ (by decide))).mp (bo_t.mp z)
  omega
theorem DSK.x4 (D : DSK rm aj B q b L) {r v : Nat} (hr : rm r) (hv : aj r v) (no : ¬ outd q v r) : Bx B q b L r v = B r v := by
  have a := D.r9 r hr
  have c := D.r9 v (D.ed r v hr hv).1
  unfold Bx
  rw [if_pos a, if_neg (by omega), if_neg (fun z => no (bo_t.mp z))]
theorem DSK.x5 (D : DSK rm aj B q b L) {s : Nat} (_hs : s < 4) : Bx B q b L (9 + s) (9 + (s + 1) % 4) = q (b (s + 1)) := by
  unfold Bx
  rw [if_neg (by omega), if_pos (by omega)]
  congr 2; omega
theorem DSK.x6 (D : DSK rm aj B q b L) {s : Nat} (_hs : s < 4) : Bx B q b L (9 + s) (9 + (s + 3) % 4) = 9 + (s + 1) % 4 := by
  unfold Bx
  rw [if_neg (by omega), if_neg (by omega), if_pos (by omega)]; omega
theorem DSK.x7 (D : DSK rm aj B q b L) {s : Nat} (_hs : s < 4) : Bx B q b L (9 + s) (q (b s)) = 9 + (s + 3) % 4 := by
  have a := D.q9 (b s)
  unfold Bx
  rw [if_neg (by omega), if_neg (by omega), if_neg (by omega), if_pos (by rw [show 9 + s - 9 = s by omega])]; omega
theorem DSK.x8 (D : DSK rm aj B q b L) {s y : Nat} (hs : s < 4) (h1 : b s < y) (h2 : y ≤ b (s + 1)) : Bx B q b L (9 + s) (q y) = q (y - 1) := by
  have a := D.q9 y
  have yl : y ≤ L := Nat.le_trans h2 (D.bL (by omega))
  have w := D.bl s hs
  unfold Bx
  rw [if_neg (by omega), if_neg (by omega), if_neg (by omega), if_neg (fun z => ?_), D.ps (by omega) yl]
  rw [show 9 + s - 9 = s by omega] at z
  rcases D.same (D.bL (s := s) (by omega)) (by omega) yl z.symm with e | e
  · omega
  · omega
theorem DSK.out1 (D : DSK rm aj B q b L) {v r : Nat} (h : outd q v r) : ∃ y, 1 ≤ y ∧ y ≤ L ∧ r = q y ∧ v = q (y - 1) := by
  obtain ⟨z, e1, e2⟩ := h
  have l3 := D.bm.2.2.2.2.2.2
  obtain ⟨y, y1, y2, y3, y4⟩ := D.nm z
  by_cases c : y < L
  · exact ⟨y + 1, by omega, by omega, by rw [e2, y4], by rw [e1, show y + 1 - 1 = y by omega, y3]⟩
  · have : y = L := by omega
    subst this
    have p0 := D.qp 0
    have p1 := D.qp 1
    rw [Nat.zero_add] at p0
    rw [Nat.add_comm 1 y] at p1
    exact ⟨1, by omega, by omega, by rw [e2, ← y4, p1], by show v = q 0; rw [e1, ← y3, p0]⟩
theorem DSK.nrm (D : DSK rm aj B q b L) {r s : Nat} (h : nrs q b r s) : rm r := by
  obtain ⟨y, _, _, e⟩ := h; rw [← e]; exact (D.qr y).1
/-- a room at a side stands at a place of the outline -/
theorem DSK.at1 (D : DSK rm aj B q b L) {r s : Nat} (hs : s < 4) (h : nrs q b r s) : ∃ y, 1 ≤ y ∧ y ≤ L ∧ r = q y := by
  obtain ⟨y, _, h2, e⟩ := h
  obtain ⟨z, z1, z2, z3, _⟩ := D.nm y
  exact ⟨z, z1, z2, by rw [z3, e]⟩
/-- near a room: a room or a side -/
theorem DSK.nrr (D : DSK rm aj B q b L) {r v : Nat} (hr : rm r) (h : nrx rm aj q b r v) : aj r v ∨ ∃ s, s < 4 ∧ v = 9 + s ∧ nrs q b r s := by
  have r9 := D.r9 r hr
  rcases h with h | h | ⟨s, _, e, _⟩ | ⟨s, s', _, _, e, _⟩
  · exact Or.inl h.2
  · exact Or.inr h
  · omega
  · omega
/-- the last side of a place, the place behind it -/
theorem DSK.nxy (D : DSK rm aj B q b L) {y : Nat} (h1 : 1 ≤ y) (h2 : y ≤ L) : ∃ z, 1 ≤ z ∧ z ≤ L ∧ q z = q (y + 1) ∧ q (z - 1) = q y ∧ lo4 b z = nlo b L y % 4 := by
  have l3 := D.bm.2.2.2.2.2.2
  by_cases c : y < L
  · refine ⟨y + 1, by omega, by omega, rfl, by rw [show y + 1 - 1 = y by omega], ?_⟩
    have := lo4_4 b (y + 1)
    unfold nlo; rw [if_pos c]; omega
  · have : y = L := by omega
    subst this
    have p0 := D.qp 0
    have p1 := D.qp 1
    rw [Nat.zero_add] at p0
    rw [Nat.add_comm 1 y] at p1
    refine ⟨1, by omega, by omega, p1.symm, p0.symm, ?_⟩
    have := lo4_4 b 1
    unfold nlo; rw [if_neg c]; omega
/-- what a node of a place is -/
theorem DSK.cs (D : DSK rm aj B q b L) {y v : Nat} (h1 : 1 ≤ y) (h2 : y ≤ L) (h : nrx rm aj q b (q y) v) : (v = q (y - 1)) ∨ (aj (q y) v ∧ ¬ outd q v (q y) ∧ v ≠ q (y - 1)) ∨ (∃ j, j + 1 ≤ nlo b L y - lo4 b y ∧ v = 9 + (lo4 b y + j) % 4) ∨ v = 9 + nlo b L y % 4 := by
  obtain ⟨f1, f2, f3, f4⟩ := D.fs h1 h2
  rcases D.nrr (D.qr y).1 h with k | ⟨s, s4, e, k⟩
  · by_cases o : outd q v (q y)
    · obtain ⟨z, z1, z2, z3, z4⟩ := D.out1 o
      left
      rcases D.same h2 z1 z2 z3 with e | ⟨e, _⟩
      · rw [z4, e]
      · omega
    · by_cases e : v = q (y - 1)
      · exact Or.inl e
      · exact Or.inr (Or.inl ⟨k, o, e⟩)
  · obtain ⟨j, hj, ej⟩ := (f3 s s4).mp k
    by_cases c : j + 1 ≤ nlo b L y - lo4 b y
    · exact Or.inr (Or.inr (Or.inl ⟨j, c, by rw [e, ej]⟩))
    · refine Or.inr (Or.inr (Or.inr ?_))
      rw [e, ej]
      congr 1
      rw [show nlo b L y = lo4 b y + j by omega]
theorem DSK.pv (D : DSK rm aj B q b L) {y : Nat} (h1 : 1 ≤ y) : aj (q y) (q (y - 1)) ∧ outd q (q (y - 1)) (q y) ∧ B (q y) (q (y - 1)) = q (y + 1) := by
  have := D.qr (y - 1)
  rw [show y - 1 + 1 = y by omega, show y - 1 + 2 = y + 1 by omega] at this
  exact ⟨(D.ed _ _ this.1 this.2.1).2.2, ⟨y - 1, rfl, by rw [show y - 1 + 1 = y by omega]⟩, this.2.2⟩
theorem DSK.nrj (D : DSK rm aj B q b L) {y j : Nat} (h1 : 1 ≤ y) (h2 : y ≤ L) (hj : j ≤ nlo b L y - lo4 b y) : nrx rm aj q b (q y) (9 + (lo4 b y + j) % 4) :=
  Or.inr (Or.inl ⟨_, Nat.mod_lt _ (by decide), rfl, ((D.fs h1 h2).2.2.1 _ (Nat.mod_lt _ (by decide))).mpr ⟨j, hj, rfl⟩⟩)
/-- near a side -/
theorem DSK.sc (D : DSK rm aj B q b L) {s v : Nat} (hs : s < 4) (h : nrx rm aj q b (9 + s) v) : v = 9 + (s + 1) % 4 ∨ v = 9 + (s + 3) % 4 ∨ v = q (b s) ∨ ∃ y, b s < y ∧ y ≤ b (s + 1) ∧ v = q y := by
  rcases h with ⟨h, _⟩ | ⟨s', _, _, k⟩ | ⟨s', s4, e, y, y1, y2, y3⟩ | ⟨s1, s2, h1, h2, e1, e2, k⟩
  · have := D.r9 _ h; omega
  · have := D.r9 _ (D.nrm k); omega
  · have : s' = s := by omega
    subst this
    rcases Nat.lt_or_ge (b s') y with c | c
    · exact Or.inr (Or.inr (Or.inr ⟨y, c, y2, y3.symm⟩))
    · refine Or.inr (Or.inr (Or.inl ?_))
      rw [← y3, show y = b s' by omega]
  · rcases k with k | k
    · left; omega
    · right; left; omega
theorem DSK.nrt (D : DSK rm aj B q b L) {s y : Nat} (hs : s < 4) (h1 : b s ≤ y) (h2 : y ≤ b (s + 1)) : nrx rm aj q b (9 + s) (q y) := Or.inr (Or.inr (Or.inl ⟨s, hs, rfl, y, h1, h2, rfl⟩))
theorem DSK.bb (D : DSK rm aj B q b L) {s : Nat} (hs : s < 4) : b s ≤ b (s + 1) := by
  obtain ⟨b0, b1, b2, b3, b4, b5, l3⟩ := D.bm
  rcases (show s = 0 ∨ s = 1 ∨ s = 2 ∨ s = 3 by omega) with e | e | e | e <;> subst e <;> simp only [Nat.zero_add, Nat.reduceAdd] <;> assumption
theorem DSK.xnx (D : DSK rm aj B q b L) : ∀ u v, nrx rm aj q b u v → nrx rm aj q b u (Bx B q b L u v) := fun u v h => by
  rcases Nat.lt_or_ge u 9 with u9 | u9
  · have hu : rm u := by
      rcases h with h | ⟨s, _, _, k⟩ | ⟨s, _, e, _⟩ | ⟨s, s', _, _, e, _⟩
      · exact h.1
      · exact D.nrm k
      · omega
      · omega
    by_cases on : ∃ y, 1 ≤ y ∧ y ≤ L ∧ u = q y
    · obtain ⟨y, h1, h2, e⟩ := on
      subst e
      rcases D.cs h1 h2 h with c | ⟨c1, c2, _⟩ | ⟨j, hj, c⟩ | c
      · subst c
        rw [D.x1 h1 h2]
        have := D.nrj h1 h2 (Nat.zero_le _)
        rw [Nat.add_zero, Nat.mod_eq_of_lt (lo4_4 b y)] at this
        exact this
      · rw [D.x4 hu c1 c2]; exact Or.inl ⟨hu, D.nx _ _ hu c1⟩
      · subst c
        rw [D.x2 h1 h2 hj]; exact D.nrj h1 h2 hj
      · subst c
        rw [D.x3 h1 h2]; exact Or.inl ⟨hu, (D.qr y).2.1⟩
    · rcases D.nrr hu h with k | ⟨s, s4, e, k⟩
      · rw [D.x4 hu k (fun o => by obtain ⟨y, y1, y2, y3, _⟩ := D.out1 o; exact on ⟨y, y1, y2, y3⟩)]
        exact Or.inl ⟨hu, D.nx _ _ hu k⟩
      · exact absurd (D.at1 s4 k) on
  · obtain ⟨s, s4, e⟩ : ∃ s, s < 4 ∧ u = 9 + s := by
      rcases h with h | ⟨s, _, _, k⟩ | ⟨s, s4, e, _⟩ | ⟨s, s', s4, _, e, _⟩
      · have := D.r9 _ h.1; omega
      · have := D.r9 _ (D.nrm k); omega
      · exact ⟨s, s4, e⟩
      · exact ⟨s, s4, e⟩
    subst e
    rcases D.sc s4 h with c | c | c | ⟨y, y1, y2, c⟩
    · subst c; rw [D.x5 s4]; exact D.nrt s4 (D.bb s4) (Nat.le_refl _)
    · subst c; rw [D.x6 s4]; exact Or.inr (Or.inr (Or.inr ⟨s, (s + 1) % 4, s4, Nat.mod_lt _ (by decide), rfl, rfl, Or.inl rfl⟩))
    · subst c; rw [D.x7 s4]; exact Or.inr (Or.inr (Or.inr ⟨s, (s + 3) % 4, s4, Nat.mod_lt _ (by decide), rfl, rfl, Or.inr (by omega)⟩))
    · subst c; rw [D.x8 s4 y1 y2]; exact D.nrt s4 (by omega) (by omega)
theorem DSK.xij (D : DSK rm aj B q b L) : ∀ u v w, nrx rm aj q b u v → nrx rm aj q b u w → Bx B q b L u v = Bx B q b L u w → v = w := fun u v w hv hw e => by
  rcases Nat.lt_or_ge u 9 with u9 | u9
  · have hu : rm u := by
      rcases hv with h | ⟨s, _, _, k⟩ | ⟨s, _, e, _⟩ | ⟨s, s', _, _, e, _⟩
      · exact h.1
      · exact D.nrm k
      · omega
      · omega
    by_cases on : ∃ y, 1 ≤ y ∧ y ≤ L ∧ u = q y
    · obtain ⟨y, h1, h2, eu⟩ := on
      subst eu
      obtain ⟨f1, f2, _, _⟩ := D.fs h1 h2
      have p := D.pv h1
      have b9 : ∀ x, aj (q y) x → B (q y) x < 9 := fun x hx => D.r9 _ (D.ed _ _ hu (D.nx _ _ hu hx)).1
      have q9 := D.q9 (y + 1)
      rcases D.cs h1 h2 hv with c | ⟨c1, c2, c3⟩ | ⟨j, hj, c⟩ | c <;> rcases D.cs h1 h2 hw with d | ⟨d1, d2, d3⟩ | ⟨i, hi, d⟩ | d
      · rw [c, d]
      · rw [c, D.x1 h1 h2, D.x4 hu d1 d2] at e; have := b9 _ d1; omega
      · rw [c, d, D.x1 h1 h2, D.x2 h1 h2 hi] at e; have := lo4_4 b y; omega
      · rw [c, d, D.x1 h1 h2, D.x3 h1 h2] at e; omega
      · rw [d, D.x1 h1 h2, D.x4 hu c1 c2] at e; have := b9 _ c1; omega
      · rw [D.x4 hu c1 c2, D.x4 hu d1 d2] at e; exact D.ij _ _ _ hu c1 d1 e
      · rw [d, D.x4 hu c1 c2, D.x2 h1 h2 hi] at e; have := b9 _ c1; omega
      · rw [d, D.x4 hu c1 c2, D.x3 h1 h2, ← p.2.2] at e; exact absurd (D.ij _ _ _ hu c1 p.1 e) c3
      · rw [c, d, D.x1 h1 h2, D.x2 h1 h2 hj] at e; have := lo4_4 b y; omega
      · rw [c, D.x4 hu d1 d2, D.x2 h1 h2 hj] at e; have := b9 _ d1; omega
      · rw [c, d, D.x2 h1 h2 hj, D.x2 h1 h2 hi] at e; rw [c, d]; omega
      · rw [c, d, D.x2 h1 h2 hj, D.x3 h1 h2] at e; omega
      · rw [c, d, D.x1 h1 h2, D.x3 h1 h2] at e; omega
      · rw [c, D.x4 hu d1 d2, D.x3 h1 h2, ← p.2.2] at e; exact absurd (D.ij _ _ _ hu d1 p.1 e.symm) d3
      · rw [c, d, D.x3 h1 h2, D.x2 h1 h2 hi] at e; omega
      · rw [c, d]
    · have inn : ∀ x, nrx rm aj q b u x → aj u x ∧ Bx B q b L u x = B u x := fun x hx => by
        rcases D.nrr hu hx with k | ⟨s, s4, e, k⟩
        · exact ⟨k, D.x4 hu k (fun o => by obtain ⟨y, y1, y2, y3, _⟩ := D.out1 o; exact on ⟨y, y1, y2, y3⟩)⟩
        · exact absurd (D.at1 s4 k) on
      rw [(inn v hv).2, (inn w hw).2] at e
      exact D.ij _ _ _ hu (inn v hv).1 (inn w hw).1 e
  · obtain ⟨s, s4, eu⟩ : ∃ s, s < 4 ∧ u = 9 + s := by
      rcases hv with h | ⟨s, _, _, k⟩ | ⟨s, s4, e, _⟩ | ⟨s, s', s4, _, e, _⟩
      · have := D.r9 _ h.1; omega
      · have := D.r9 _ (D.nrm k); omega
      · exact ⟨s, s4, e⟩
      · exact ⟨s, s4, e⟩
    subst eu
    have q9 := D.q9
    have bl := D.bl s s4
    have un : ∀ y z, b s ≤ y → y ≤ b (s + 1) → b s ≤ z → z ≤ b (s + 1) → q y = q z → y = z := fun y z y1 y2 z1 z2 e => by
      have hL := D.bL (s := s + 1) (by omega)
      rcases Nat.eq_zero_or_pos z with k | k
      · rcases Nat.eq_zero_or_pos y with k' | k'
        · omega
        · rcases D.same (show z ≤ L by omega) k' (by omega) e.symm with e' | e' <;> omega
      · rcases D.same (show y ≤ L by omega) k (by omega) e with e' | e' <;> omega
    rcases D.sc s4 hv with c | c | c | ⟨y, y1, y2, c⟩ <;> rcases D.sc s4 hw with d | d | d | ⟨z, z1, z2, d⟩ <;> subst c <;> subst d
    · rfl
    · rw [D.x5 s4, D.x6 s4] at e; have := q9 (b (s + 1)); omega
    · rw [D.x5 s4, D.x7 s4] at e; have := q9 (b (s + 1)); omega
    · rw [D.x5 s4, D.x8 s4 z1 z2] at e; have := un _ _ (D.bb s4) (Nat.le_refl _) (by omega) (by omega) e; omega
    · rw [D.x5 s4, D.x6 s4] at e; have := q9 (b (s + 1)); omega
    · rfl
    · rw [D.x6 s4, D.x7 s4] at e; omega
    · rw [D.x6 s4, D.x8 s4 z1 z2] at e; have := q9 (z - 1); omega
    · rw [D.x5 s4, D.x7 s4] at e; have := q9 (b (s + 1)); omega
    · rw [D.x6 s4, D.x7 s4] at e; omega
    · rfl
    · rw [D.x7 s4, D.x8 s4 z1 z2] at e; have := q9 (z - 1); omega
    · rw [D.x5 s4, D.x8 s4 y1 y2] at e; have := un _ _ (by omega) (by omega) (D.bb s4) (Nat.le_refl _) e; omega
    · rw [D.x6 s4, D.x8 s4 y1 y2] at e; have := q9 (y - 1); omega
    · rw [D.x7 s4, D.x8 s4 y1 y2] at e; have := q9 (y - 1); omega
    · rw [D.x8 s4 y1 y2, D.x8 s4 z1 z2] at e
      have := un _ _ (by omega) (by omega) (by omega) (by omega) e
      rw [show y = z by omega]
theorem DSK.xtv (D : DSK rm aj B q b L) : ∀ u (S : Nat → Prop), (∃ v, nrx rm aj q b u v ∧ S v) → (∀ v, nrx rm aj q b u v → S v → S (Bx B q b L u v)) → ∀ v, nrx rm aj q b u v → S v := fun u S ⟨v0, hv0, s0⟩ cl => by
  rcases Nat.lt_or_ge u 9 with u9 | u9
  · have hu : rm u := by
      rcases hv0 with h | ⟨s, _, _, k⟩ | ⟨s, _, e, _⟩ | ⟨s, s', _, _, e, _⟩
      · exact h.1
      · exact D.nrm k
      · omega
      · omega
    by_cases on : ∃ y, 1 ≤ y ∧ y ≤ L ∧ u = q y
    · obtain ⟨y, h1, h2, eu⟩ := on
      subst eu
      have p := D.pv h1
      -- from a side on to the next room
      have fin : S (9 + nlo b L y % 4) → S (q (y + 1)) := fun h => by
        have := cl (9 + nlo b L y % 4) (by
          have := D.nrj h1 h2 (Nat.le_refl (nlo b L y - lo4 b y))
          rw [show lo4 b y + (nlo b L y - lo4 b y) = nlo b L y by have := (D.fs h1 h2).1; omega] at this
          exact this) h
        rw [D.x3 h1 h2] at this
        exact this
      have go : ∀ d j, j + d = nlo b L y - lo4 b y → S (9 + (lo4 b y + j) % 4) → S (9 + nlo b L y % 4) ∧ ∀ i, j ≤ i → i ≤ nlo b L y - lo4 b y → S (9 + (lo4 b y + i) % 4) := fun d => by
        induction d with
        | zero =>
          intro j e h
          have f1 := (D.fs h1 h2).1
          refine ⟨by rw [show nlo b L y = lo4 b y + j by omega]; exact h, fun i i1 i2 => ?_⟩
          rw [show i = j by omega]; exact h
        | succ d ih =>
          intro j e h
          have := cl _ (D.nrj h1 h2 (show j ≤ nlo b L y - lo4 b y by omega)) h
          rw [D.x2 h1 h2 (by omega)] at this
          obtain ⟨a1, a2⟩ := ih (j + 1) (by omega) this
          refine ⟨a1, fun i i1 i2 => ?_⟩
          by_cases c : i = j
          · rw [c]; exact h
          · exact a2 i (by omega) i2
      have some : S (q (y + 1)) ∨ ∃ v, aj (q y) v ∧ S v := by
        rcases D.cs h1 h2 hv0 with c | ⟨c1, c2, c3⟩ | ⟨j, hj, c⟩ | c
        · exact Or.inr ⟨v0, by rw [c]; exact p.1, s0⟩
        · exact Or.inr ⟨v0, c1, s0⟩
        · rw [c] at s0
          exact Or.inl (fin (go (nlo b L y - lo4 b y - j) j (by omega) s0).1)
        · rw [c] at s0; exact Or.inl (fin s0)
      have pre : S (q (y - 1)) → S (9 + nlo b L y % 4) ∧ ∀ i, i ≤ nlo b L y - lo4 b y → S (9 + (lo4 b y + i) % 4) := fun h => by
        have := cl _ (Or.inl ⟨hu, p.1⟩) h
        rw [D.x1 h1 h2] at this
        obtain ⟨a1, a2⟩ := go (nlo b L y - lo4 b y) 0 (by omega) (by rw [Nat.add_zero, Nat.mod_eq_of_lt (lo4_4 b y)]; exact this)
        exact ⟨a1, fun i hi => a2 i (Nat.zero_le i) hi⟩
      have all := D.tv (q y) S hu (by
        rcases some with c | c
        · exact ⟨_, (D.qr y).2.1, c⟩
        · exact c) (fun v hv sv => by
        by_cases c : v = q (y - 1)
        · subst c
          rw [p.2.2]; exact fin (pre sv).1
        · have no : ¬ outd q v (q y) := fun o => by
            obtain ⟨z, z1, z2, z3, z4⟩ := D.out1 o
            rcases D.same h2 z1 z2 z3 with e | ⟨e, _⟩
            · exact c (by rw [z4, e])
            · omega
          have := cl v (Or.inl ⟨hu, hv⟩) sv
          rw [D.x4 hu hv no] at this
          exact this)
      intro v hv
      rcases D.cs h1 h2 hv with c | ⟨c1, c2, c3⟩ | ⟨j, hj, c⟩ | c
      · rw [c]; exact all _ p.1
      · exact all _ c1
      · rw [c]; exact (pre (all _ p.1)).2 j (by omega)
      · rw [c]; exact (pre (all _ p.1)).1
    · have inn : ∀ x, nrx rm aj q b u x → aj u x ∧ Bx B q b L u x = B u x := fun x hx => by
        rcases D.nrr hu hx with k | ⟨s, s4, e, k⟩
        · exact ⟨k, D.x4 hu k (fun o => by obtain ⟨y, y1, y2, y3, _⟩ := D.out1 o; exact on ⟨y, y1, y2, y3⟩)⟩
        · exact absurd (D.at1 s4 k) on
      have all := D.tv u S hu ⟨v0, (inn v0 hv0).1, s0⟩ (fun v hv sv => by
        have := cl v (Or.inl ⟨hu, hv⟩) sv
        rw [(inn v (Or.inl ⟨hu, hv⟩)).2] at this
        exact this)
      exact fun v hv => all v (inn v hv).1
  · obtain ⟨s, s4, eu⟩ : ∃ s, s < 4 ∧ u = 9 + s := by
      rcases hv0 with h | ⟨s, _, _, k⟩ | ⟨s, s4, e, _⟩ | ⟨s, s', s4, _, e, _⟩
      · have := D.r9 _ h.1; omega
      · have := D.r9 _ (D.nrm k); omega
      · exact ⟨s, s4, e⟩
      · exact ⟨s, s4, e⟩
    subst eu
    have dn : ∀ d y, b s ≤ y → y ≤ b (s + 1) → y = b s + d → S (q y) → S (q (b s)) ∧ ∀ z, b s ≤ z → z ≤ y → S (q z) := fun d => by
      induction d with
      | zero =>
        intro y y1 y2 e h
        rw [show y = b s by omega] at h
        exact ⟨h, fun z z1 z2 => by rw [show z = b s by omega]; exact h⟩
      | succ d ih =>
        intro y y1 y2 e h
        have := cl _ (D.nrt s4 y1 y2) h
        rw [D.x8 s4 (by omega) y2] at this
        obtain ⟨a1, a2⟩ := ih (y - 1) (by omega) (by omega) (by omega) this
        refine ⟨a1, fun z z1 z2 => ?_⟩
        by_cases c : z = y
        · rw [c]; exact h
        · exact a2 z z1 (by omega)
    have w1 : S (q (b s)) → S (9 + (s + 3) % 4) := fun h => by
      have := cl _ (D.nrt s4 (Nat.le_refl _) (D.bb s4)) h
      rw [D.x7 s4] at this; exact this
    have w2 : S (9 + (s + 3) % 4) → S (9 + (s + 1) % 4) := fun h => by
      have := cl _ (Or.inr (Or.inr (Or.inr ⟨s, (s + 3) % 4, s4, Nat.mod_lt _ (by decide), rfl, rfl, Or.inr (by omega)⟩))) h
      rw [D.x6 s4] at this; exact this
    have w3 : S (9 + (s + 1) % 4) → S (q (b (s + 1))) := fun h => by
      have := cl _ (Or.inr (Or.inr (Or.inr ⟨s, (s + 1) % 4, s4, Nat.mod_lt _ (by decide), rfl, rfl, Or.inl rfl⟩))) h
      rw [D.x5 s4] at this; exact this
    have top : S (q (b (s + 1))) := by
      rcases D.sc s4 hv0 with c | c | c | ⟨y, y1, y2, c⟩ <;> subst c
      · exact w3 s0
      · exact w3 (w2 s0)
      · exact w3 (w2 (w1 s0))
      · exact w3 (w2 (w1 (dn (y - b s) y (by omega) y2 (by omega) s0).1))
    obtain ⟨a1, a2⟩ := dn (b (s + 1) - b s) (b (s + 1)) (D.bb s4) (Nat.le_refl _) (by have := D.bb s4; omega) top
    intro v hv
    rcases D.sc s4 hv with c | c | c | ⟨y, y1, y2, c⟩ <;> subst c
    · exact w2 (w1 a1)
    · exact w1 a1
    · exact a1
    · exact a2 y (by omega) y2
end DGP

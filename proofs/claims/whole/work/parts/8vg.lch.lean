-- a layout gives a choice
section LCH
variable {rm : Nat → Prop} {nr : Nat → Nat → Prop} {Bp : Nat → Nat → Nat} {f : Nat} {A B C : Nat → Nat} {lb : Nat → Nat → Nat}
theorem ic_n {x y : Nat} (h : x = y) : ic (¬ x = y) = 0 := ic_f (fun z => z h)
/-- beside a side there is a corner -/
theorem lay_s1 (G : GP rm nr Bp) {sd : Nat → Nat → Nat} (Y : LYa rm nr Bp sd) {r s : Nat} (hr : rm r) (hs : s < 4) (h : nr r (9 + s)) : sd r (Bp r (9 + s)) = (s + 1) % 4 := by
  have e := Y.sd r s hr hs h
  have k := Y.rw r _ hr h
  rcases G.s13 (G.nx _ _ h) with hw | ⟨s', s4, e'⟩
  · have t := (G.tr r _ hr h).1
    have n := G.sy _ _ (G.nx _ _ h)
    have n2 := (G.fc hr h).1
    have k2 := Y.rw _ _ hw n
    rw [t] at k2
    have e2 := Y.sd _ s hw hs n2
    have o := Y.op r _ hr hw (G.nx _ _ h)
    have l1 := Y.lt _ _ hw n
    have l2 := Y.lt _ _ hr (G.nx _ _ h)
    generalize sd r (Bp r (9 + s)) = x at *
    generalize sd (Bp r (9 + s)) r = y at *
    omega
  · have so := G.so r s s' hr hs s4 h e'
    have n := G.nx _ _ h
    rw [e'] at n ⊢
    rw [Y.sd r s' hr s4 n]; exact so
theorem lay_s2 (G : GP rm nr Bp) {sd : Nat → Nat → Nat} (Y : LYa rm nr Bp sd) {r v s : Nat} (hr : rm r) (hv : rm v) (hs : s < 4) (h : nr r v) (e : Bp r v = 9 + s) : s = (sd r v + 1) % 4 := by
  have t := (G.tr r v hr h).2
  have n := (G.fc hr h).2
  rw [e] at t n
  have x := lay_s1 G Y hv hs n
  rw [t] at x
  have o := Y.op v r hv hr (G.sy _ _ h)
  omega
theorem lay_3 (G : GP rm nr Bp) {sd : Nat → Nat → Nat} (Y : LYa rm nr Bp sd) {a b : Nat} (ha : rm a) (hb : rm b) (h : nr a b) (hc : rm (Bp b a)) : ic (¬ sd b (Bp b a) = sd b a) + ic (¬ sd (Bp b a) a = sd (Bp b a) b) + ic (¬ sd a b = sd a (Bp b a)) = 2 ∧ (sd b (Bp b a) = (sd b a + ic (¬ sd b (Bp b a) = sd b a)) % 4) := by
  have t := G.tr b a hb (G.sy _ _ h)
  have n1 := G.nx _ _ (G.sy _ _ h)
  have n2 := (G.fc hb (G.sy _ _ h)).1
  have k1 := Y.rw b a hb (G.sy _ _ h)
  have k2 := Y.rw _ b hc (G.sy _ _ n1)
  have k3 := Y.rw a _ ha (G.sy _ _ n2)
  rw [t.1] at k2
  rw [t.2] at k3
  have o1 := Y.op a b ha hb h
  have o2 := Y.op b _ hb hc n1
  have o3 := Y.op _ a hc ha n2
  have l1 := Y.lt a b ha h
  have l2 := Y.lt b _ hb n1
  have l3 := Y.lt _ a hc n2
  have ii : ∀ x y : Nat, ic (¬ x = y) = if x = y then 0 else 1 := fun x y => by
    by_cases q : x = y
    · rw [if_pos q, ic_f (fun z => z q)]
    · rw [if_neg q, ic_t q]
  rw [ii, ii, ii]
  generalize sd b (Bp b a) = x1 at *
  generalize sd b a = x2 at *
  generalize sd (Bp b a) a = x3 at *
  generalize sd (Bp b a) b = x4 at *
  generalize sd a b = x5 at *
  generalize sd a (Bp b a) = x6 at *
  rcases k1 with k1 | k1 <;> rcases k2 with k2 | k2 <;> rcases k3 with k3 | k3
  · exfalso; omega
  · exfalso; omega
  · exfalso; omega
  · rw [if_pos k1, if_neg (show ¬ x3 = x4 by omega), if_neg (show ¬ x5 = x6 by omega)]; omega
  · exfalso; omega
  · rw [if_neg (show ¬ x1 = x2 by omega), if_pos k2, if_neg (show ¬ x5 = x6 by omega)]; omega
  · rw [if_neg (show ¬ x1 = x2 by omega), if_neg (show ¬ x3 = x4 by omega), if_pos k3]; omega
  · exfalso; omega
theorem lay_cho (G : GP rm nr Bp) (F : FA rm nr Bp f A B C lb) {sd : Nat → Nat → Nat} (Y : LYa rm nr Bp sd) : ∃ st, CHa rm nr f A B C st ∧ ROa rm nr Bp lb st sd := by
  obtain ⟨st, hst⟩ : ∃ st : Nat → Nat, st = fun g => if sd (B g) (C g) = sd (B g) (A g) then B g else if sd (C g) (A g) = sd (C g) (B g) then C g else A g := ⟨_, rfl⟩
  have c1 : ∀ g, g < f → st g = A g ∨ st g = B g ∨ st g = C g := fun g _ => by
    have es : st g = if sd (B g) (C g) = sd (B g) (A g) then B g else if sd (C g) (A g) = sd (C g) (B g) then C g else A g := by rw [hst]
    rw [es]
    split
    · exact Or.inr (Or.inl rfl)
    · split
      · exact Or.inr (Or.inr rfl)
      · exact Or.inl rfl
  -- straight in a face
  have key : ∀ g, g < f → ∀ v r, fdt A B C g v r → (st g = r ↔ sd r (Bp r v) = sd r v) := fun g hg v r h => by
    obtain ⟨a1, a2, a3, a4, a5⟩ := F.ab g hg
    have t := G.tr (B g) (A g) a2 (G.sy _ _ a4)
    rw [a5] at t
    have L3 := (lay_3 G Y a1 a2 a4 (by rw [a5]; exact a3)).1
    rw [a5] at L3
    have d1 := (G.nd _ _ a4).1
    have n1 := G.nx _ _ (G.sy _ _ a4)
    rw [a5] at n1
    have d2 := (G.nd _ _ n1).1
    have n2 := (G.fc a2 (G.sy _ _ a4)).1
    rw [a5] at n2
    have d3 := (G.nd _ _ n2).1
    have es : st g = if sd (B g) (C g) = sd (B g) (A g) then B g else if sd (C g) (A g) = sd (C g) (B g) then C g else A g := by rw [hst]
    by_cases x1 : sd (B g) (C g) = sd (B g) (A g)
    · rw [if_pos x1] at es
      have x2 : ¬ sd (C g) (A g) = sd (C g) (B g) := fun z => by
        rw [ic_n x1, ic_n z] at L3
        have := ic_1 (P := ¬ sd (A g) (B g) = sd (A g) (C g)); omega
      have x3 : ¬ sd (A g) (B g) = sd (A g) (C g) := fun z => by
        rw [ic_n x1, ic_n z] at L3
        have := ic_1 (P := ¬ sd (C g) (A g) = sd (C g) (B g)); omega
      rcases h with ⟨rfl, rfl⟩ | ⟨rfl, rfl⟩ | ⟨rfl, rfl⟩
      · rw [a5]; exact ⟨fun _ => x1, fun _ => es⟩
      · rw [t.1]; exact ⟨fun z => absurd (es.symm.trans z) d2, fun z => absurd z x2⟩
      · rw [t.2]; exact ⟨fun z => absurd (es.symm.trans z) (fun y => d1 y.symm), fun z => absurd z x3⟩
    · rw [if_neg x1] at es
      by_cases x2 : sd (C g) (A g) = sd (C g) (B g)
      · rw [if_pos x2] at es
        have x3 : ¬ sd (A g) (B g) = sd (A g) (C g) := fun z => by
          rw [ic_n x2, ic_n z] at L3
          have := ic_1 (P := ¬ sd (B g) (C g) = sd (B g) (A g)); omega
        rcases h with ⟨rfl, rfl⟩ | ⟨rfl, rfl⟩ | ⟨rfl, rfl⟩
        · rw [a5]; exact ⟨fun z => absurd (es.symm.trans z) (fun y => d2 y.symm), fun z => absurd z x1⟩
        · rw [t.1]; exact ⟨fun _ => x2, fun _ => es⟩
        · rw [t.2]; exact ⟨fun z => absurd (es.symm.trans z) d3, fun z => absurd z x3⟩
      · rw [if_neg x2] at es
        have x3 : sd (A g) (B g) = sd (A g) (C g) := Classical.not_not.mp (fun z => by
          rw [ic_t x1, ic_t x2, ic_t z] at L3; omega)
        rcases h with ⟨rfl, rfl⟩ | ⟨rfl, rfl⟩ | ⟨rfl, rfl⟩
        · rw [a5]; exact ⟨fun z => absurd (es.symm.trans z) d1, fun z => absurd z x1⟩
        · rw [t.1]; exact ⟨fun z => absurd (es.symm.trans z) (fun y => d3 y.symm), fun z => absurd z x2⟩
        · rw [t.2]; exact ⟨fun _ => x3, fun _ => es⟩
  have iff : ∀ r v, rm r → nr r v → (stq rm Bp lb st r v ↔ sd r (Bp r v) = sd r v) := fun r v hr hv => by
    rcases G.s13 hv with qv | ⟨s, s4, es⟩
    · rcases G.s13 (G.nx _ _ hv) with qw | ⟨s, s4, es⟩
      · obtain ⟨g, hg, hd⟩ := F.ex v r qv hr (G.sy _ _ hv) qw
        have el := F.lb g hg _ _ hd
        unfold stq
        rw [el]
        exact ⟨fun z => (key g hg v r hd).mp z.2.2, fun z => ⟨qv, qw, (key g hg v r hd).mpr z⟩⟩
      · have x := lay_s2 G Y hr qv s4 hv es
        have n := G.nx _ _ hv
        rw [es] at n
        have y := Y.sd r s hr s4 n
        have l := Y.lt r v hr hv
        rw [es, y]
        exact ⟨fun z => by have := z.2.1; rw [es] at this; exact (G.nsd this).elim, fun z => by omega⟩
    · subst es
      have x := lay_s1 G Y hr s4 hv
      rw [x, Y.sd r s hr s4 hv]
      exact ⟨fun z => (G.nsd z.1).elim, fun z => by omega⟩
  refine ⟨st, ⟨c1, fun r hr => ?_⟩, fun r v hr hv => ⟨Y.lt r v hr hv, ?_⟩⟩
  · have h1 := stp_ct G F c1 hr
    have h2 : dgr nr r = _ := ct_sp (P := nr r) (stq rm Bp lb st r) 13
    have h3 : ct (fun v => nr r v ∧ ¬ stq rm Bp lb st r v) 13 = ct (fun _ => True) 4 := by
      refine ct_re (F := sd r) 13 4 (fun v _ h => ⟨Y.lt r v hr h.1, trivial⟩) (fun v v' _ _ h h' e => ?_) (fun q hq _ => ?_)
      · have t1 := (Y.rw r v hr h.1).resolve_left (fun z => h.2 ((iff r v hr h.1).mpr z))
        have t2 := (Y.rw r v' hr h'.1).resolve_left (fun z => h'.2 ((iff r v' hr h'.1).mpr z))
        obtain ⟨v0, _, _, _, un⟩ := Y.on r (sd r v) hr (Y.lt r v hr h.1)
        rw [un v h.1 rfl t1, un v' h'.1 e.symm (by rw [t2, e])]
      · obtain ⟨v0, n0, e1, e2, un⟩ := Y.on r q hr hq
        exact ⟨v0, (G.lt n0).2, ⟨n0, fun z => by have := (iff r v0 hr n0).mp z; omega⟩, e1⟩
    have h4 : ct (fun _ => True) 4 = 4 := by unfold ct su; simp only [su, ic_t trivial]
    omega
  · by_cases z : stq rm Bp lb st r v
    · rw [ic_f (fun y => y z), (iff r v hr hv).mp z]
      have := Y.lt r v hr hv
      omega
    · rw [ic_t z]
      exact (Y.rw r v hr hv).resolve_left (fun y => z ((iff r v hr hv).mpr y))
end LCH

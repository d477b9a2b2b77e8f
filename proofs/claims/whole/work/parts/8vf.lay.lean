-- layouts and choices
section LAY
variable {rm : Nat → Prop} {nr : Nat → Nat → Prop} {Bp : Nat → Nat → Nat} {f : Nat} {A B C : Nat → Nat} {lb : Nat → Nat → Nat}
/-- around a node, once -/
def ENU (nr : Nat → Nat → Prop) (Bp : Nat → Nat → Nat) (u : Nat) (w : Nat → Nat) (dg : Nat) : Prop := (∀ k, nr u (w k) ∧ w (k + 1) = Bp u (w k)) ∧ 1 ≤ dg ∧ w dg = w 0 ∧ (∀ k l, k < l → l < dg → w k ≠ w l) ∧ ∀ v, nr u v → ∃ k, k < dg ∧ w k = v
theorem enu (G : GP rm nr Bp) {u v0 : Nat} (h : nr u v0) : ∃ w dg, w 0 = v0 ∧ ENU nr Bp u w dg := by
  obtain ⟨w, w0, ws⟩ : ∃ w : Nat → Nat, w 0 = v0 ∧ ∀ k, w (k + 1) = Bp u (w k) := ⟨fun k => Nat.rec v0 (fun _ x => Bp u x) k, rfl, fun _ => rfl⟩
  have wn : ∀ k, nr u (w k) := fun k => by
    induction k with
    | zero => rw [w0]; exact h
    | succ k ih => rw [ws]; exact G.nx _ _ ih
  have back : ∀ a b, w a = w (a + b) → w 0 = w b := fun a => by
    induction a with
    | zero => intro b e; rw [Nat.zero_add] at e; exact e
    | succ a ih =>
      intro b e
      rw [show a + 1 + b = (a + b) + 1 by omega, ws, ws] at e
      exact ih b (G.ij u _ _ (wn _) (wn _) e)
  obtain ⟨i, j, h1, h2, h3⟩ := pig 13 w (fun k _ => (G.lt (wn k)).2)
  have lst : ∀ d, 1 ≤ d → w d = w 0 → ∃ dg, 1 ≤ dg ∧ w dg = w 0 ∧ ∀ k, 1 ≤ k → k < dg → w k ≠ w 0 := by
    intro d
    induction d using Nat.strongRecOn with
    | ind d IH =>
      intro d1 e
      by_cases q : ∃ k, 1 ≤ k ∧ k < d ∧ w k = w 0
      · obtain ⟨k, k1, k2, k3⟩ := q
        exact IH k k2 k1 k3
      · exact ⟨d, d1, e, fun k k1 k2 k3 => q ⟨k, k1, k2, k3⟩⟩
  obtain ⟨dg, g1, g2, g3⟩ := lst (j - i) (by omega) (back i (j - i) (by rw [show i + (j - i) = j by omega]; exact h3)).symm
  refine ⟨w, dg, w0, fun k => ⟨wn k, ws k⟩, g1, g2, fun k l hkl hl e => ?_, ?_⟩
  · have := back k (l - k) (by rw [show k + (l - k) = l by omega]; exact e)
    exact g3 (l - k) (by omega) (by omega) this.symm
  · exact G.tv u (fun v => ∃ k, k < dg ∧ w k = v) ⟨v0, h, 0, by omega, w0⟩ (fun v _ ⟨k, hk, e⟩ => by
      by_cases q : k + 1 < dg
      · exact ⟨k + 1, q, by rw [ws, e]⟩
      · exact ⟨0, by omega, by rw [← g2, show dg = k + 1 by omega, ws, e]⟩)
theorem enu_ct (G : GP rm nr Bp) {u dg : Nat} {w : Nat → Nat} (E : ENU nr Bp u w dg) (P : Nat → Prop) : ct (fun v => nr u v ∧ P v) 13 = ct (fun k => P (w k)) dg := by
  obtain ⟨e1, e2, e3, e4, e5⟩ := E
  refine (ct_re (P := fun k => P (w k)) (Q := fun v => nr u v ∧ P v) (F := w) dg 13 (fun k _ h => ⟨(G.lt (e1 k).1).2, (e1 k).1, h⟩) (fun i j hi hj _ _ e => ?_) (fun v _ h => ?_)).symm
  · rcases Nat.lt_trichotomy i j with q | q | q
    · exact absurd e (e4 i j q hj)
    · exact q
    · exact absurd e.symm (e4 j i q hi)
  · obtain ⟨k, hk, e⟩ := e5 v h.1
    exact ⟨k, hk, by show P (w k); rw [e]; exact h.2, e⟩
/-- where the wall goes straight on -/
def stq (rm : Nat → Prop) (Bp lb : Nat → Nat → Nat) (st : Nat → Nat) (r v : Nat) : Prop := rm v ∧ rm (Bp r v) ∧ st (lb v r) = r
def CHa (rm : Nat → Prop) (nr : Nat → Nat → Prop) (f : Nat) (A B C st : Nat → Nat) : Prop := (∀ g, g < f → st g = A g ∨ st g = B g ∨ st g = C g) ∧ ∀ r, rm r → ct (fun g => st g = r) f + 4 = dgr nr r
def ROa (rm : Nat → Prop) (nr : Nat → Nat → Prop) (Bp lb : Nat → Nat → Nat) (st : Nat → Nat) (b : Nat → Nat → Nat) : Prop := ∀ r v, rm r → nr r v → b r v < 4 ∧ b r (Bp r v) = (b r v + ic (¬ stq rm Bp lb st r v)) % 4
def LYa (rm : Nat → Prop) (nr : Nat → Nat → Prop) (Bp : Nat → Nat → Nat) (sd : Nat → Nat → Nat) : Prop := (∀ a b, rm a → rm b → nr a b → sd b a = (sd a b + 2) % 4) ∧ (∀ r v, rm r → nr r v → sd r v < 4) ∧ (∀ r s, rm r → s < 4 → nr r (9 + s) → sd r (9 + s) = s) ∧ (∀ r v, rm r → nr r v → sd r (Bp r v) = sd r v ∨ sd r (Bp r v) = (sd r v + 1) % 4) ∧ (∀ r q, rm r → q < 4 → ∃ v, nr r v ∧ sd r v = q ∧ sd r (Bp r v) = (q + 1) % 4 ∧ ∀ v', nr r v' → sd r v' = q → sd r (Bp r v') = (q + 1) % 4 → v' = v)
theorem LYa.op {rm : Nat → Prop} {nr : Nat → Nat → Prop} {Bp : Nat → Nat → Nat} {sd : Nat → Nat → Nat} (h : LYa rm nr Bp sd) : ∀ a b, rm a → rm b → nr a b → sd b a = (sd a b + 2) % 4 := h.1
theorem LYa.lt {rm : Nat → Prop} {nr : Nat → Nat → Prop} {Bp : Nat → Nat → Nat} {sd : Nat → Nat → Nat} (h : LYa rm nr Bp sd) : ∀ r v, rm r → nr r v → sd r v < 4 := h.2.1
theorem LYa.sd {rm : Nat → Prop} {nr : Nat → Nat → Prop} {Bp : Nat → Nat → Nat} {sd : Nat → Nat → Nat} (h : LYa rm nr Bp sd) : ∀ r s, rm r → s < 4 → nr r (9 + s) → sd r (9 + s) = s := h.2.2.1
theorem LYa.rw {rm : Nat → Prop} {nr : Nat → Nat → Prop} {Bp : Nat → Nat → Nat} {sd : Nat → Nat → Nat} (h : LYa rm nr Bp sd) : ∀ r v, rm r → nr r v → sd r (Bp r v) = sd r v ∨ sd r (Bp r v) = (sd r v + 1) % 4 := h.2.2.2.1
theorem LYa.on {rm : Nat → Prop} {nr : Nat → Nat → Prop} {Bp : Nat → Nat → Nat} {sd : Nat → Nat → Nat} (h : LYa rm nr Bp sd) : ∀ r q, rm r → q < 4 → ∃ v, nr r v ∧ sd r v = q ∧ sd r (Bp r v) = (q + 1) % 4 ∧ ∀ v', nr r v' → sd r v' = q → sd r (Bp r v') = (q + 1) % 4 → v' = v := h.2.2.2.2
/-- the outline with its sides -/
def OTa (rm : Nat → Prop) (nr : Nat → Nat → Prop) (Bp : Nat → Nat → Nat) (L : Nat) (o : Nat → Nat) : Prop := (1 ≤ L) ∧ (∀ k, rm (o k)) ∧ (∀ k, o (k + L) = o k) ∧ (∀ r s, rm r → s < 4 → nr r (9 + s) → ∃ k, k < L ∧ o k = r) ∧ (∀ k, ∃ s0 c, s0 < 4 ∧ 1 ≤ c ∧ c ≤ 3 ∧ (∀ s, s < 4 → (nr (o k) (9 + s) ↔ ∃ j, j < c ∧ s = (s0 + j) % 4)) ∧ (∀ j, j + 1 < c → Bp (o k) (9 + (s0 + j) % 4) = 9 + (s0 + (j + 1)) % 4) ∧ Bp (o k) (9 + (s0 + (c - 1)) % 4) = o (k + 1))
theorem OTa.l1 {rm : Nat → Prop} {nr : Nat → Nat → Prop} {Bp : Nat → Nat → Nat} {L : Nat} {o : Nat → Nat} (h : OTa rm nr Bp L o) : 1 ≤ L := h.1
theorem OTa.ro {rm : Nat → Prop} {nr : Nat → Nat → Prop} {Bp : Nat → Nat → Nat} {L : Nat} {o : Nat → Nat} (h : OTa rm nr Bp L o) : ∀ k, rm (o k) := h.2.1
theorem OTa.pe {rm : Nat → Prop} {nr : Nat → Nat → Prop} {Bp : Nat → Nat → Nat} {L : Nat} {o : Nat → Nat} (h : OTa rm nr Bp L o) : ∀ k, o (k + L) = o k := h.2.2.1
theorem OTa.cv {rm : Nat → Prop} {nr : Nat → Nat → Prop} {Bp : Nat → Nat → Nat} {L : Nat} {o : Nat → Nat} (h : OTa rm nr Bp L o) : ∀ r s, rm r → s < 4 → nr r (9 + s) → ∃ k, k < L ∧ o k = r := h.2.2.2.1
theorem OTa.fs {rm : Nat → Prop} {nr : Nat → Nat → Prop} {Bp : Nat → Nat → Nat} {L : Nat} {o : Nat → Nat} (h : OTa rm nr Bp L o) : ∀ k, ∃ s0 c, s0 < 4 ∧ 1 ≤ c ∧ c ≤ 3 ∧ (∀ s, s < 4 → (nr (o k) (9 + s) ↔ ∃ j, j < c ∧ s = (s0 + j) % 4)) ∧ (∀ j, j + 1 < c → Bp (o k) (9 + (s0 + j) % 4) = 9 + (s0 + (j + 1)) % 4) ∧ Bp (o k) (9 + (s0 + (c - 1)) % 4) = o (k + 1) := h.2.2.2.2
/-- order and anchors -/
def ANa (rm : Nat → Prop) (nr : Nat → Nat → Prop) (R : Nat) (od an : Nat → Nat) (b : Nat → Nat → Nat) : Prop := (∀ r, rm r → ∃ k, k < R ∧ od k = r) ∧ ∀ k, k < R → rm (od k) ∧ nr (od k) (an k) ∧ ((∃ s, s < 4 ∧ an k = 9 + s ∧ b (od k) (9 + s) = s) ∨ ((∀ s, s < 4 → ¬ nr (od k) (9 + s)) ∧ ∃ j, j < k ∧ an k = od j ∧ b (od k) (od j) = (b (od j) (od k) + 2) % 4))
theorem GP.s13 (G : GP rm nr Bp) {u v : Nat} (h : nr u v) : rm v ∨ ∃ s, s < 4 ∧ v = 9 + s := by
  rcases (G.nd v u (G.sy _ _ h)).2 with q | q
  · exact Or.inl q
  · exact Or.inr ⟨v - 9, by omega, by omega⟩
theorem GP.nsd (G : GP rm nr Bp) {s : Nat} : ¬ rm (9 + s) := fun h => by have := G.r9 _ h; omega
/-- rows with the same anchors are the same -/
theorem ro_uq (G : GP rm nr Bp) {st od an : Nat → Nat} {R : Nat} {b b' : Nat → Nat → Nat} (h : ROa rm nr Bp lb st b) (h' : ROa rm nr Bp lb st b') (a : ANa rm nr R od an b) (a' : ANa rm nr R od an b') : ∀ r v, rm r → nr r v → b r v = b' r v := by
  have key : ∀ k, k < R → ∀ v, nr (od k) v → b (od k) v = b' (od k) v := by
    intro k
    induction k using Nat.strongRecOn with
    | ind k IH =>
      intro hk
      obtain ⟨r1, n1, c1⟩ := a.2 k hk
      obtain ⟨_, _, c2⟩ := a'.2 k hk
      refine G.tv (od k) (fun v => b (od k) v = b' (od k) v) ⟨an k, n1, ?_⟩ (fun v hv e => ?_)
      · rcases c1 with ⟨s, s4, e1, e2⟩ | ⟨ns, j, hj, e1, e2⟩
        · rcases c2 with ⟨s', s4', e3, e4⟩ | ⟨ns', _⟩
          · have : s = s' := by omega
            subst this
            show b (od k) (an k) = b' (od k) (an k)
            rw [e1, e2, e4]
          · rw [e1] at n1; exact absurd n1 (ns' s s4)
        · rcases c2 with ⟨s', s4', e3, e4⟩ | ⟨ns', j', hj', e3, e4⟩
          · rw [e3] at n1; exact absurd n1 (ns s' s4')
          · show b (od k) (an k) = b' (od k) (an k)
            have ej : od j' = od j := e3.symm.trans e1
            rw [ej] at e4
            rw [e1, e2, e4, IH j hj (by omega) (od k) (by rw [e1] at n1; exact G.sy _ _ n1)]
      · show b (od k) (Bp (od k) v) = b' (od k) (Bp (od k) v)
        have e' : b (od k) v = b' (od k) v := e
        rw [(h _ v r1 hv).2, (h' _ v r1 hv).2, e']
  intro r v hr hv
  obtain ⟨k, hk, e⟩ := a.1 r hr
  subst e
  exact key k hk v hv
/-- the straight corners of a room are the faces that it is straight in -/
theorem stp_ct (G : GP rm nr Bp) (F : FA rm nr Bp f A B C lb) {st : Nat → Nat} (c1 : ∀ g, g < f → st g = A g ∨ st g = B g ∨ st g = C g) {r : Nat} (hr : rm r) : ct (fun v => nr r v ∧ stq rm Bp lb st r v) 13 = ct (fun g => st g = r) f := by
  refine ct_re (F := fun v => lb v r) 13 f (fun v _ ⟨h1, h2, h3, h4⟩ => ?_) (fun v v' _ _ ⟨h1, h2, h3, h4⟩ ⟨k1, k2, k3, k4⟩ e => ?_) (fun g hg e => ?_)
  · obtain ⟨g, hg, h⟩ := F.ex v r h2 hr (G.sy _ _ h1) h3
    have e := F.lb g hg _ _ h
    exact ⟨by show lb v r < f; rw [e]; exact hg, h4⟩
  · obtain ⟨g, hg, h⟩ := F.ex v r h2 hr (G.sy _ _ h1) h3
    obtain ⟨g', hg', h'⟩ := F.ex v' r k2 hr (G.sy _ _ k1) k3
    have e1 := F.lb g hg _ _ h
    have e2 := F.lb g' hg' _ _ h'
    have e' : lb v r = lb v' r := e
    have gg : g = g' := by omega
    subst gg
    -- the dart into r is one
    have t1 := (F.nx G hg h).2.2.2.1
    have t2 := (F.nx G hg h').2.2.2.1
    have bn : Bp r v = Bp r v' := by
      have x1 := (F.nx G hg t1).1
      have fb := (F.ab g hg).2.2.2.2
      have d1 := (G.nd _ _ (F.nx G hg (show fdt A B C g (A g) (B g) from Or.inl ⟨rfl, rfl⟩)).2.2.1).1
      have d2 := (G.nd _ _ (F.nx G hg (show fdt A B C g (B g) (C g) from Or.inr (Or.inl ⟨rfl, rfl⟩))).2.2.1).1
      have d3 := (G.nd _ _ (F.nx G hg (show fdt A B C g (C g) (A g) from Or.inr (Or.inr ⟨rfl, rfl⟩))).2.2.1).1
      rcases t1 with ⟨p1, p2⟩ | ⟨p1, p2⟩ | ⟨p1, p2⟩ <;> rcases t2 with ⟨q1, q2⟩ | ⟨q1, q2⟩ | ⟨q1, q2⟩ <;> first | exact p2.trans q2.symm | (exfalso; omega)
    exact G.ij r v v' h1 k1 bn
  · have e' : st g = r := e
    have pick : ∃ v, fdt A B C g v r := by
      rcases c1 g hg with q | q | q
      · exact ⟨C g, Or.inr (Or.inr ⟨rfl, e'.symm.trans q⟩)⟩
      · exact ⟨A g, Or.inl ⟨rfl, e'.symm.trans q⟩⟩
      · exact ⟨B g, Or.inr (Or.inl ⟨rfl, e'.symm.trans q⟩)⟩
    obtain ⟨v, hv⟩ := pick
    obtain ⟨n1, n2, n3, n4, n5⟩ := F.nx G hg hv
    have el := F.lb g hg _ _ hv
    exact ⟨v, (G.lt n3).1, ⟨G.sy _ _ n3, n1, (F.nx G hg n5).1, by rw [el]; exact e'⟩, el⟩
/-- in a face one room is straight -/
theorem face_1 (G : GP rm nr Bp) (F : FA rm nr Bp f A B C lb) {st : Nat → Nat} (c1 : ∀ g, g < f → st g = A g ∨ st g = B g ∨ st g = C g) {a b : Nat} (ha : rm a) (hb : rm b) (h : nr a b) (hc : rm (Bp b a)) : ic (¬ stq rm Bp lb st b a) + ic (¬ stq rm Bp lb st (Bp b a) b) + ic (¬ stq rm Bp lb st a (Bp b a)) = 2 := by
  obtain ⟨g, hg, hd⟩ := F.ex a b ha hb h hc
  obtain ⟨_, _, _, d2, d3⟩ := F.nx G hg hd
  have t := G.tr b a hb (G.sy _ _ h)
  have e1 := F.lb g hg _ _ hd
  have e2 := F.lb g hg _ _ d2
  have e3 := F.lb g hg _ _ d3
  have s1 : stq rm Bp lb st b a ↔ st g = b := by unfold stq; rw [e1]; exact ⟨fun q => q.2.2, fun q => ⟨ha, hc, q⟩⟩
  have s2 : stq rm Bp lb st (Bp b a) b ↔ st g = Bp b a := by unfold stq; rw [e2, t.1]; exact ⟨fun q => q.2.2, fun q => ⟨hb, ha, q⟩⟩
  have s3 : stq rm Bp lb st a (Bp b a) ↔ st g = a := by unfold stq; rw [e3, t.2]; exact ⟨fun q => q.2.2, fun q => ⟨hc, hb, q⟩⟩
  have n1 := (G.nd _ _ h).1
  have n2 := (G.nd _ _ (F.nx G hg d2).2.2.1).1
  have n3 := (G.nd _ _ (F.nx G hg d3).2.2.1).1
  have one : st g = a ∨ st g = b ∨ st g = Bp b a := by
    rcases hd with ⟨p1, p2⟩ | ⟨p1, p2⟩ | ⟨p1, p2⟩ <;> rcases d2 with ⟨q1, q2⟩ | ⟨q1, q2⟩ | ⟨q1, q2⟩ <;> rcases c1 g hg with k | k | k <;> omega
  rw [ic_cg (show (¬ stq rm Bp lb st b a) ↔ ¬ st g = b by rw [s1]), ic_cg (show (¬ stq rm Bp lb st (Bp b a) b) ↔ ¬ st g = Bp b a by rw [s2]), ic_cg (show (¬ stq rm Bp lb st a (Bp b a)) ↔ ¬ st g = a by rw [s3])]
  rcases one with k | k | k
  · rw [ic_t (show ¬ st g = b by rw [k]; exact n1), ic_t (show ¬ st g = Bp b a by rw [k]; exact fun z => n3 z.symm), ic_f (fun z => z k)]
  · rw [ic_f (fun z => z k), ic_t (show ¬ st g = Bp b a by rw [k]; exact n2), ic_t (show ¬ st g = a by rw [k]; exact fun z => n1 z.symm)]
  · rw [ic_t (show ¬ st g = b by rw [k]; exact fun z => n2 z.symm), ic_f (fun z => z k), ic_t (show ¬ st g = a by rw [k]; exact n3)]
/-- a function that goes up by ones from 0 to 4 -/
theorem four_up {t : Nat → Nat} {dg : Nat} (h0 : t 0 = 0) (hd : t dg = 4) (st : ∀ k, t (k + 1) = t k ∨ t (k + 1) = t k + 1) {j : Nat} (hj : j < 4) : ∃ k, k < dg ∧ t k = j ∧ t (k + 1) = j + 1 ∧ ∀ k', k' < dg → t k' = j → t (k' + 1) = j + 1 → k' = k := by
  have mono : ∀ a b, t a ≤ t (a + b) := fun a b => by
    induction b with
    | zero => exact Nat.le_refl _
    | succ b ih => have := st (a + b); rw [← Nat.add_assoc]; omega
  obtain ⟨k, k1, k2⟩ := cross (P := fun k => j < t k) (i := 0) dg (by show ¬ j < t 0; omega) (by show j < t (0 + dg); rw [Nat.zero_add]; omega)
  have s := st k
  refine ⟨k, ?_, by omega, by omega, fun k' _ e1 e2 => ?_⟩
  · rcases Nat.lt_or_ge k dg with q | q
    · exact q
    · have := mono dg (k - dg)
      rw [show dg + (k - dg) = k by omega] at this
      omega
  · rcases Nat.lt_trichotomy k' k with q | q | q
    · have := mono (k' + 1) (k - (k' + 1))
      rw [show k' + 1 + (k - (k' + 1)) = k by omega] at this
      omega
    · exact q
    · have := mono (k + 1) (k' - (k + 1))
      rw [show k + 1 + (k' - (k + 1)) = k' by omega] at this
      omega
/-- a choice gives a layout -/
theorem cho_lay (G : GP rm nr Bp) (F : FA rm nr Bp f A B C lb) (P : PLa rm nr Bp) {L : Nat} {o : Nat → Nat} (O : OTa rm nr Bp L o) {st od an : Nat → Nat} {R : Nat} {b : Nat → Nat → Nat} (c : CHa rm nr f A B C st) (h : ROa rm nr Bp lb st b) (a : ANa rm nr R od an b) : LYa rm nr Bp b := by
  have side : ∀ r s, rm r → s < 4 → nr r (9 + s) → b r (9 + s) = s := by
    intro r s hr hs hn
    obtain ⟨k, hk, e⟩ := a.1 r hr
    obtain ⟨_, n1, c1⟩ := a.2 k hk
    rw [e] at n1 c1
    rcases c1 with ⟨s1, s14, e1, e2⟩ | ⟨ns, _⟩
    · rw [e1] at n1
      obtain ⟨i, hi, ei⟩ := O.cv r s hr hs hn
      obtain ⟨s0, cc, s04, c1, c3, on, ch, _⟩ := O.fs i
      rw [ei] at on ch
      have run : ∀ j d, j + d < cc → b r (9 + (s0 + (j + d)) % 4) = (b r (9 + (s0 + j) % 4) + d) % 4 := fun j d => by
        induction d with
        | zero =>
          intro hj
          have := (h r _ hr ((on _ (Nat.mod_lt _ (by decide))).mpr ⟨j, by omega, rfl⟩)).1
          rw [Nat.add_zero, Nat.add_zero]; omega
        | succ d ih =>
          intro hj
          have i1 := ih (by omega)
          have x := (h r _ hr ((on _ (Nat.mod_lt (s0 + (j + d)) (by decide))).mpr ⟨j + d, by omega, rfl⟩)).2
          rw [ch (j + d) (by omega), ic_t (fun z => G.nsd z.1), i1] at x
          rw [← Nat.add_assoc j d 1, x]; omega
      obtain ⟨j1, hj1, ej1⟩ := (on s1 s14).mp n1
      obtain ⟨j, hj, ej⟩ := (on s hs).mp hn
      rcases Nat.le_total j1 j with q | q
      · have := run j1 (j - j1) (by omega)
        rw [show j1 + (j - j1) = j by omega, ← ej, ← ej1, e2] at this
        omega
      · have := run j (j1 - j) (by omega)
        rw [show j + (j1 - j) = j1 by omega, ← ej, ← ej1, e2] at this
        have l4 := (h r _ hr hn).1
        omega
    · exact absurd hn (ns s hs)
  have gd : ∀ x y, rm x → rm y → nr x y → (rm x ∧ rm y ∧ nr x y ∧ b y x = (b x y + 2) % 4) := P (fun x y => rm x ∧ rm y ∧ nr x y ∧ b y x = (b x y + 2) % 4) (fun i j q => ⟨q.2.1, q.1, G.sy _ _ q.2.2.1, by
      have := (h i j q.1 q.2.2.1).1
      rw [q.2.2.2]; omega⟩) (fun S hS cl => by
      have cl' : ∀ i j, rm i → rm j → nr i j → b j i = (b i j + 2) % 4 → (S i ↔ S j) := fun i j hi hj hij e => ⟨fun s => cl i j hi s hj hij ⟨hi, hj, hij, e⟩, fun s => cl j i hj s hi (G.sy _ _ hij) ⟨hj, hi, G.sy _ _ hij, by have := (h i j hi hij).1; rw [e]; omega⟩⟩
      -- along the outline
      have ol : ∀ k, S (o k) ↔ S (o (k + 1)) := fun k => by
        obtain ⟨s0, cc, s04, c1, c3, on, _, la⟩ := O.fs k
        have l4 : (s0 + (cc - 1)) % 4 < 4 := Nat.mod_lt _ (by decide)
        have n1 := (on _ l4).mpr ⟨cc - 1, by omega, rfl⟩
        have r1 := O.ro k
        have r2 := O.ro (k + 1)
        have t := G.tr _ _ r1 n1
        have f2 := (G.fc r1 n1).1
        have n2 := G.nx _ _ n1
        rw [la] at t n2 f2
        have x1 := (h _ _ r1 n1).2
        rw [la, ic_t (fun z => G.nsd z.1), side _ _ r1 l4 n1] at x1
        have x2 := h _ _ r2 (G.sy _ _ n2)
        rw [t.1, ic_t (fun z => by have y := z.2.1; rw [t.1] at y; exact G.nsd y), side _ _ r2 l4 f2] at x2
        exact cl' _ _ r1 r2 n2 (by rw [x1]; omega)
      have ol0 : ∀ k, S (o k) ↔ S (o 0) := fun k => by
        induction k with
        | zero => exact Iff.rfl
        | succ k ih => exact (ol k).symm.trans ih
      have all : ∀ k, k < R → (S (od k) ↔ S (o 0)) := by
        intro k
        induction k using Nat.strongRecOn with
        | ind k IH =>
          intro hk
          obtain ⟨r1, n1, c1⟩ := a.2 k hk
          rcases c1 with ⟨s, s4, e1, _⟩ | ⟨_, j, hj, e1, e2⟩
          · rw [e1] at n1
            obtain ⟨i, _, ei⟩ := O.cv _ s r1 s4 n1
            rw [← ei]; exact ol0 i
          · rw [e1] at n1
            have r2 := (a.2 j (by omega)).1
            exact (cl' _ _ r2 r1 (G.sy _ _ n1) e2).symm.trans (IH j hj (by omega))
      intro i hi
      obtain ⟨x, hx, sx⟩ := hS
      obtain ⟨k, hk, e⟩ := a.1 x hx
      obtain ⟨l, hl, e'⟩ := a.1 i hi
      have s0 : S (o 0) := by rw [← e] at sx; exact (all k hk).mp sx
      rw [← e']; exact (all l hl).mpr s0) (fun x y hx hy hxy hz g1 g2 => ⟨hx, hy, hxy, by
      have t := G.tr y x hy (G.sy _ _ hxy)
      have f1 := face_1 G F c.1 hx hy hxy hz
      have k1 := h y x hy (G.sy _ _ hxy)
      have k2 := h (Bp y x) y hz (G.sy _ _ g1.2.2.1)
      have k3 := h x (Bp y x) hx (G.sy _ _ g2.2.2.1)
      rw [t.1] at k2
      rw [t.2] at k3
      have e1 := g1.2.2.2
      have e2 := g2.2.2.2
      generalize ic (¬ stq rm Bp lb st y x) = i1 at *
      generalize ic (¬ stq rm Bp lb st (Bp y x) y) = i2 at *
      generalize ic (¬ stq rm Bp lb st x (Bp y x)) = i3 at *
      omega⟩)
  refine ⟨fun x y hx hy hxy => (gd x y hx hy hxy).2.2.2, fun r v hr hv => (h r v hr hv).1, side, fun r v hr hv => ?_, fun r q hr hq => ?_⟩
  · have x := h r v hr hv
    rw [x.2]
    by_cases z : stq rm Bp lb st r v
    · rw [ic_f (fun y => y z)]; left; omega
    · rw [ic_t z]; right; rfl
  · have cnt : ct (fun v => nr r v ∧ ¬ stq rm Bp lb st r v) 13 = 4 := by
      have h1 := c.2 r hr
      have h2 := stp_ct G F c.1 hr
      have h3 : dgr nr r = _ := ct_sp (P := nr r) (stq rm Bp lb st r) 13
      omega
    obtain ⟨v0, _, hv0, _⟩ := ct_pos 13 (show 0 < ct (fun v => nr r v ∧ ¬ stq rm Bp lb st r v) 13 by omega)
    obtain ⟨w, dg, w0, E⟩ := enu G hv0
    rw [enu_ct G E] at cnt
    obtain ⟨e1, e2, e3, e4, e5⟩ := id E
    have val : ∀ k, b r (w k) = (b r (w 0) + ct (fun k => ¬ stq rm Bp lb st r (w k)) k) % 4 := fun k => by
      induction k with
      | zero =>
        have := (h r _ hr (e1 0).1).1
        show _ = (b r (w 0) + 0) % 4
        omega
      | succ k ih =>
        rw [(e1 k).2, (h r _ hr (e1 k).1).2, ih]
        show _ = (b r (w 0) + (ct (fun k => ¬ stq rm Bp lb st r (w k)) k + ic (¬ stq rm Bp lb st r (w k)))) % 4
        omega
    have stpk : ∀ k, ct (fun k => ¬ stq rm Bp lb st r (w k)) (k + 1) = ct (fun k => ¬ stq rm Bp lb st r (w k)) k + ic (¬ stq rm Bp lb st r (w k)) := fun k => rfl
    have b0 := (h r _ hr (e1 0).1).1
    have up : ∀ k, ct (fun k => ¬ stq rm Bp lb st r (w k)) (k + 1) = ct (fun k => ¬ stq rm Bp lb st r (w k)) k ∨ ct (fun k => ¬ stq rm Bp lb st r (w k)) (k + 1) = ct (fun k => ¬ stq rm Bp lb st r (w k)) k + 1 := fun k => by
      have := stpk k
      have := ic_1 (P := ¬ stq rm Bp lb st r (w k))
      omega
    have mono : ∀ a b, ct (fun k => ¬ stq rm Bp lb st r (w k)) a ≤ ct (fun k => ¬ stq rm Bp lb st r (w k)) (a + b) := fun a b => by
      induction b with
      | zero => exact Nat.le_refl _
      | succ b ih => have := up (a + b); rw [← Nat.add_assoc]; omega
    obtain ⟨k, k1, k2, k3, k4⟩ := four_up (t := ct (fun k => ¬ stq rm Bp lb st r (w k))) (dg := dg) rfl cnt up (j := (q + 4 - b r (w 0)) % 4) (Nat.mod_lt _ (by decide))
    have vk := val k
    have vk1 := val (k + 1)
    refine ⟨w k, (e1 k).1, by omega, by rw [← (e1 k).2]; omega, fun v' hv' q1 q2 => ?_⟩
    obtain ⟨k', hk', ek'⟩ := e5 v' hv'
    subst ek'
    rw [← (e1 k').2] at q2
    have vk' := val k'
    have vk1' := val (k' + 1)
    have u := up k'
    have m := mono (k' + 1) (dg - (k' + 1))
    rw [show k' + 1 + (dg - (k' + 1)) = dg by omega] at m
    rw [k4 k' hk' (by omega) (by omega)]
end LAY

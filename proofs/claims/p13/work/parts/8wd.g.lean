section
-- around a room of a layout, beginning with a side
section BLK
variable {rm : Nat → Prop} {nr : Nat → Nat → Prop} {Bp : Nat → Nat → Nat}
theorem lay_enu (G : GP rm nr Bp) {sd : Nat → Nat → Nat} (Y : LYa rm nr Bp sd) {r t : Nat} (hr : rm r) (ht : t < 4) : ∃ w dg, ENU nr Bp r w dg ∧ (sd r (w 0) + 4 - t) % 4 = 0 ∧ ∀ k, k + 1 < dg → (sd r (w k) + 4 - t) % 4 ≤ (sd r (w (k + 1)) + 4 - t) % 4 := by
  obtain ⟨v, n, e1, e2, un⟩ := Y.on r ((t + 3) % 4) hr (Nat.mod_lt _ (by decide))
  obtain ⟨w, dg, w0, E⟩ := enu G (G.nx r v n)
  obtain ⟨a1, a2, a3, a4, a5⟩ := id E
  refine ⟨w, dg, E, by rw [w0]; omega, fun k hk => ?_⟩
  have nk := (a1 k).1
  have l := Y.lt r _ hr nk
  rcases Y.rw r (w k) hr nk with q | q
  · rw [(a1 k).2, q]; exact Nat.le_refl _
  · rw [(a1 k).2, q]
    by_cases c : sd r (w k) = (t + 3) % 4
    · exfalso
      have := un (w k) nk c (by rw [q, c])
      have e : w (k + 1) = w 0 := by rw [(a1 k).2, this, w0]
      exact a4 0 (k + 1) (by omega) hk e.symm
    · omega
/-- two flips, at a node in front and at one behind -/
theorem block (G : GP rm nr Bp) {sd : Nat → Nat → Nat} (Y : LYa rm nr Bp sd) {r t : Nat} (hr : rm r) (ht : t < 4) {mu : Nat → Bool} {Pp : Nat → Bool} {ex en : Nat} (rot : ∀ v, nr r v → mu (Bp r v) = xor (mu v) (Pp v)) (hx : nr r ex) (hn : nr r en) (ox : sd r ex = t) (on : sd r en = (t + 2) % 4) (fl : ∀ v, nr r v → (Pp v = true ↔ v = ex ∨ v = en)) : mu en = (!mu ex) ∧ ∀ v, nr r v → (sd r v = (t + 1) % 4 → mu v = !mu ex) ∧ (sd r v = (t + 3) % 4 → mu v = mu ex) := by
  obtain ⟨w, dg, E, z0, mo⟩ := lay_enu G Y hr ht
  obtain ⟨a1, a2, a3, a4, a5⟩ := E
  obtain ⟨a, ha, ea⟩ := a5 ex hx
  obtain ⟨e, he, ee⟩ := a5 en hn
  have mono : ∀ d k, k + d < dg → (sd r (w k) + 4 - t) % 4 ≤ (sd r (w (k + d)) + 4 - t) % 4 := fun d => by
    induction d with
    | zero => intro k _; exact Nat.le_refl _
    | succ d ih => intro k hk; exact Nat.le_trans (ih k (by omega)) (mo (k + d) hk)
  have lt : ∀ k l, k < dg → l < dg → (sd r (w k) + 4 - t) % 4 < (sd r (w l) + 4 - t) % 4 → k < l := fun k l hk hl h => by
    rcases Nat.lt_or_ge k l with y | y
    · exact y
    · have := mono (k - l) l (by omega)
      rw [show l + (k - l) = k by omega] at this
      omega
  have uq : ∀ k l, k < dg → l < dg → w k = w l → k = l := fun k l hk hl h => by
    rcases Nat.lt_trichotomy k l with y | y | y
    · exact absurd h (a4 k l y hl)
    · exact y
    · exact absurd h.symm (a4 l k y hk)
  have st : ∀ k, k + 1 < dg → mu (w (k + 1)) = xor (mu (w k)) (bo (k = a ∨ k = e)) := fun k hk => by
    rw [(a1 k).2, rot _ (a1 k).1]
    congr 1
    cases hp : Pp (w k) with
    | true =>
      refine (bo_t.mpr ?_).symm
      rcases (fl _ (a1 k).1).mp hp with y | y
      · exact Or.inl (uq k a (by omega) ha (y.trans ea.symm))
      · exact Or.inr (uq k e (by omega) he (y.trans ee.symm))
    | false =>
      refine (bo_f.mpr (fun y => ?_)).symm
      have : Pp (w k) = true := (fl _ (a1 k).1).mpr (by
        rcases y with y | y
        · left; rw [y]; exact ea
        · right; rw [y]; exact ee)
      rw [this] at hp; exact absurd hp (by decide)
  have sg : ∀ d k, k + d < dg → (∀ j, k ≤ j → j < k + d → j ≠ a ∧ j ≠ e) → mu (w (k + d)) = mu (w k) := fun d => by
    induction d with
    | zero => intro k _ _; rfl
    | succ d ih =>
      intro k hk hj
      have h0 := hj (k + d) (by omega) (by omega)
      show mu (w (k + d + 1)) = _
      rw [st (k + d) hk, bo_f.mpr (fun z => z.elim h0.1 h0.2), ih k (by omega) (fun j h1 h2 => hj j h1 (by omega))]
      cases mu (w k) <;> rfl
  have fp : ∀ k, k + 1 < dg → (k = a ∨ k = e) → mu (w (k + 1)) = !mu (w k) := fun k hk h => by
    rw [st k hk, bo_t.mpr h]; cases mu (w k) <;> rfl
  have ta : (sd r (w a) + 4 - t) % 4 = 0 := by rw [ea, ox]; omega
  have te : (sd r (w e) + 4 - t) % 4 = 2 := by rw [ee, on]; omega
  have ae := lt a e ha he (by omega)
  have mid : ∀ k, a < k → k ≤ e → mu (w k) = !mu (w a) := fun k h1 h2 => by
    have := sg (k - (a + 1)) (a + 1) (by omega) (fun j j1 j2 => ⟨by omega, by omega⟩)
    rw [show a + 1 + (k - (a + 1)) = k by omega] at this
    rw [this]; exact fp a (by omega) (Or.inl rfl)
  have aft : ∀ k, e < k → k < dg → mu (w k) = mu (w a) := fun k h1 h2 => by
    have := sg (k - (e + 1)) (e + 1) (by omega) (fun j j1 j2 => ⟨by omega, by omega⟩)
    rw [show e + 1 + (k - (e + 1)) = k by omega] at this
    rw [this, fp e (by omega) (Or.inr rfl), mid e ae (Nat.le_refl e)]
    cases mu (w a) <;> rfl
  refine ⟨by rw [← ee, ← ea]; exact mid e ae (Nat.le_refl e), fun v hv => ?_⟩
  obtain ⟨k, hk, ek⟩ := a5 v hv
  constructor
  · intro h
    rw [← ek, ← ea]
    have tk : (sd r (w k) + 4 - t) % 4 = 1 := by rw [ek, h]; omega
    exact mid k (lt a k ha hk (by omega)) (by have := lt k e hk he (by omega); omega)
  · intro h
    rw [← ek, ← ea]
    have tk : (sd r (w k) + 4 - t) % 4 = 3 := by rw [ek, h]; omega
    exact aft k (lt e k he hk (by omega)) hk
end BLK
-- parities of walks
noncomputable def wk (X : Nat → Nat) (n a b : Nat) : Bool := xf (fun i => bo ((a = X i ∧ b = X (i + 1)) ∨ (a = X (i + 1) ∧ b = X i))) n
theorem wk_sy {X : Nat → Nat} {n a b : Nat} : wk X n a b = wk X n b a := xf_cg n (fun i _ => bo_cg ⟨fun h => h.elim (fun y => Or.inr ⟨y.2, y.1⟩) (fun y => Or.inl ⟨y.2, y.1⟩), fun h => h.elim (fun y => Or.inr ⟨y.2, y.1⟩) (fun y => Or.inl ⟨y.2, y.1⟩)⟩)
theorem wk_ev {X : Nat → Nat} {z : Nat} : ∀ n, (∀ i, i < n → X i < 9 ∧ X (i + 1) < 9 ∧ X i ≠ X (i + 1)) → xf (fun j => wk X n z j) 9 = xor (bo (z = X 0)) (bo (z = X n))
  | 0, _ => by
    rw [xf_0 (f := fun j => wk X 0 z j) 9 (fun j _ => rfl)]
    cases bo (z = X 0) <;> rfl
  | n + 1, h => by
    have ih := wk_ev (X := X) (z := z) n (fun i hi => h i (by omega))
    obtain ⟨h1, h2, h3⟩ := h n (by omega)
    have e : ∀ j, wk X (n + 1) z j = xor (wk X n z j) (bo ((z = X n ∧ j = X (n + 1)) ∨ (z = X (n + 1) ∧ j = X n))) := fun j => rfl
    rw [xf_cg 9 (fun j _ => e j), xf_x, ih, xf_pair h1 h2 h3]
    cases bo (z = X 0) <;> cases bo (z = X n) <;> cases bo (z = X (n + 1)) <;> rfl
end
section
-- a path from side to side parts the rooms
/-- every even set of joins colours the sectors around the rooms -/
def KPa (rm : Nat → Prop) (aj : Nat → Nat → Prop) (B : Nat → Nat → Nat) (q : Nat → Nat) : Prop := ∀ C : Nat → Nat → Bool, (∀ a b, C a b = C b a) → (∀ a b, C a b = true → rm a ∧ aj a b) → (∀ z, z < 9 → xf (fun j => C z j) 9 = false) → ∃ ka : Nat → Nat → Bool, (∀ r v, rm r → aj r v → ka r (B r v) = xor (ka r v) (C r v) ∧ ka v r = xor (ka r v) (C r v)) ∧ ∀ y, ka (q y) (q (y + 1)) = false
/-- the sides' bounds, going on behind one turn -/
def be (b : Nat → Nat) (L s : Nat) : Nat := b (s % 4) + L * (s / 4)
section PTH
variable {rm : Nat → Prop} {aj : Nat → Nat → Prop} {B : Nat → Nat → Nat} {q b : Nat → Nat} {L : Nat}
theorem DSK.qs (D : DSK rm aj B q b L) {a c : Nat} : q a = q c ↔ q (a + 1) = q (c + 1) := by
  have l3 := D.bm.2.2.2.2.2.2
  have p1 := D.qp 1
  rw [Nat.add_comm 1 L] at p1
  obtain ⟨x, x1, x2, x3, x4⟩ := D.nm a
  obtain ⟨y, y1, y2, y3, y4⟩ := D.nm c
  have eq : ∀ x y, 1 ≤ x → x ≤ L → 1 ≤ y → y ≤ L → q x = q y → x = y := fun x y x1 x2 y1 y2 e => by
    rcases D.same x2 y1 y2 e with k | k
    · exact k
    · omega
  constructor
  · intro e
    rw [← x4, ← y4, eq x y x1 x2 y1 y2 (by rw [x3, y3, e])]
  · intro e
    rw [← x4, ← y4] at e
    rw [← x3, ← y3]
    by_cases cx : x = L <;> by_cases cy : y = L
    · rw [cx, cy]
    · rw [cx, p1] at e
      have := eq 1 (y + 1) (by omega) (by omega) (by omega) (by omega) e
      omega
    · rw [cy, p1] at e
      have := eq (x + 1) 1 (by omega) (by omega) (by omega) (by omega) e
      omega
    · have := eq (x + 1) (y + 1) (by omega) (by omega) (by omega) (by omega) e
      rw [show x = y by omega]
theorem DSK.q3 (D : DSK rm aj B q b L) (y : Nat) : q y ≠ q (y + 2) := fun e => by
  have l3 := D.bm.2.2.2.2.2.2
  obtain ⟨x, x1, x2, x3, x4⟩ := D.nm y
  have e2 : q (x + 2) = q (y + 2) := D.qs.mp x4
  rw [← x3, ← e2] at e
  rcases Nat.lt_or_ge L (x + 2) with c | c
  · have p : q (x + 2 - L + L) = q (x + 2 - L) := D.qp _
    rw [show x + 2 - L + L = x + 2 by omega] at p
    rw [p] at e
    rcases D.same x2 (show 1 ≤ x + 2 - L by omega) (by omega) e with k | k <;> omega
  · exact D.qd x (x + 2) x1 (by omega) c e
theorem DSK.qm (D : DSK rm aj B q b L) (k : Nat) : ∀ y, q (y + L * k) = q y := fun y => by
  induction k with
  | zero => rfl
  | succ k ih => rw [Nat.mul_succ, ← Nat.add_assoc, D.qp, ih]
theorem DSK.q1 (D : DSK rm aj B q b L) {x y : Nat} (h : x < y) (k : y < x + L) : q x ≠ q y := fun e => by
  have : ∀ d x, q x = q (x + d) → q 1 = q (1 + d) := fun d x => by
    induction x with
    | zero => intro e; have := D.qs.mp e; rw [Nat.zero_add] at this; rw [show 1 + d = 0 + d + 1 by omega]; exact this
    | succ x ih => intro e; exact ih (D.qs.mpr (by rw [show x + d + 1 = x + 1 + d by omega]; exact e))
  have := this (y - x) x (by rw [show x + (y - x) = y by omega]; exact e)
  exact D.qd 1 (1 + (y - x)) (Nat.le_refl 1) (by omega) (by omega) this
/-- the colours of a path: left of it or not, and how they go on around a room -/
theorem path_mu (D : DSK rm aj B q b L) (KP : KPa rm aj B q) {c : Nat → Nat} {K y0 n t : Nat} (ht : t < 4) (st : ∀ i, i < K → rm (c i) ∧ aj (c i) (c (i + 1))) (r0 : c 0 = q y0) (rK : c K = q (y0 + n)) (s0 : nrs q b (c 0) ((t + 2) % 4)) (sK : nrs q b (c K) t) :
    ∃ mu : Nat → Nat → Bool, (∀ r v, rm r → nrx rm aj q b r v → mu r (Bx B q b L r v) = xor (mu r v) (if v < 9 then wk c K r v else xor (bo (v = 9 + t ∧ r = c K)) (bo (v = 9 + (t + 2) % 4 ∧ r = c 0)))) ∧ (∀ r v, rm r → aj r v → mu v r = xor (mu r v) (wk c K r v)) ∧ (∀ y, mu (q y) (q (y + 1)) = xf (fun i => bo (q (y0 + i) = q y)) n) ∧ (∀ y, 1 ≤ y → y ≤ L → mu (q y) (9 + lo4 b y) = xf (fun i => bo (q (y0 + i) = q (y - 1))) n) := by
  have c9 : ∀ i, i < K → c i < 9 ∧ c (i + 1) < 9 ∧ c i ≠ c (i + 1) := fun i hi => by
    obtain ⟨h1, h2⟩ := st i hi
    obtain ⟨h3, h4, _⟩ := D.ed _ _ h1 h2
    exact ⟨D.r9 _ h1, D.r9 _ h3, h4⟩
  have q9 : ∀ i, q (y0 + i) < 9 ∧ q (y0 + i + 1) < 9 ∧ q (y0 + i) ≠ q (y0 + i + 1) := fun i => ⟨D.q9 _, D.q9 _, (D.ed _ _ (D.qr _).1 (D.qr (y0 + i)).2.1).2.1⟩
  obtain ⟨X, hX⟩ : ∃ X : Nat → Nat, X = fun i => q (y0 + i) := ⟨_, rfl⟩
  obtain ⟨ka, k1, k2⟩ := KP (fun a e => xor (wk c K a e) (wk X n a e)) (fun a e => by
      show xor (wk c K a e) (wk X n a e) = xor (wk c K e a) (wk X n e a)
      rw [wk_sy, wk_sy (X := X)]) (fun a e h => by
      have h' : xor (wk c K a e) (wk X n a e) = true := h
      have one : ∀ (Z : Nat → Nat) N, (∀ i, i < N → rm (Z i) ∧ aj (Z i) (Z (i + 1))) → wk Z N a e = true → rm a ∧ aj a e := fun Z N hZ => by
        intro hw
        refine Classical.not_not.mp (fun no => ?_)
        have : wk Z N a e = false := xf_0 N (fun i hi => bo_f.mpr (fun z => no (by
          obtain ⟨z1, z2⟩ := hZ i hi
          rcases z with ⟨rfl, rfl⟩ | ⟨rfl, rfl⟩
          · exact ⟨z1, z2⟩
          · have := D.ed _ _ z1 z2; exact ⟨this.1, this.2.2⟩)))
        rw [this] at hw; exact absurd hw (by decide)
      cases h1 : wk c K a e with
      | true => exact one c K st h1
      | false =>
        rw [h1] at h'
        refine one X n (fun i _ => ?_) (by cases h2 : wk X n a e with
          | true => rfl
          | false => rw [h2] at h'; exact absurd h' (by decide))
        rw [hX]; exact ⟨(D.qr _).1, (D.qr _).2.1⟩) (fun z _ => by
      have e1 := wk_ev (X := c) (z := z) K c9
      have e2 := wk_ev (X := X) (z := z) n (fun i _ => by rw [hX]; exact q9 i)
      show xf (fun j => xor (wk c K z j) (wk X n z j)) 9 = false
      rw [xf_x, e1, e2, hX, r0, rK]
      show xor _ (xor (bo (z = q (y0 + 0))) (bo (z = q (y0 + n)))) = false
      rw [Nat.add_zero]
      cases bo (z = q y0) <;> cases bo (z = q (y0 + n)) <;> rfl)
  obtain ⟨ar, har⟩ : ∃ ar : Nat → Nat → Bool, ar = fun r v => xf (fun i => bo (r = q (y0 + i) ∧ v = q (y0 + i + 1))) n := ⟨_, rfl⟩
  have arX : ∀ a e, wk X n a e = xor (ar a e) (ar e a) := fun a e => by
    rw [har]
    show _ = xor (xf _ n) (xf _ n)
    rw [← xf_x]
    refine xf_cg n (fun i _ => ?_)
    rw [hX]
    show bo ((a = q (y0 + i) ∧ e = q (y0 + (i + 1))) ∨ (a = q (y0 + (i + 1)) ∧ e = q (y0 + i))) = _
    rw [← Nat.add_assoc]
    have ne := (q9 i).2.2
    by_cases x : a = q (y0 + i) ∧ e = q (y0 + i + 1)
    · rw [bo_t.mpr (Or.inl x), bo_t.mpr x, bo_f.mpr (fun y => ne (y.1.symm.trans x.2).symm.symm)]; rfl
    · by_cases y : e = q (y0 + i) ∧ a = q (y0 + i + 1)
      · rw [bo_t.mpr (Or.inr ⟨y.2, y.1⟩), bo_f.mpr x, bo_t.mpr y]; rfl
      · rw [bo_f.mpr (fun z => z.elim x (fun z => y ⟨z.2, z.1⟩)), bo_f.mpr x, bo_f.mpr y]; rfl
  have ar_o : ∀ r v, ¬ outd q r v → ar r v = false := fun r v no => by
    rw [har]; exact xf_0 n (fun i _ => bo_f.mpr (fun z => no ⟨y0 + i, z.1, z.2⟩))
  have ar_i : ∀ y, ar (q y) (q (y + 1)) = xf (fun i => bo (q (y0 + i) = q y)) n := fun y => by
    rw [har]
    exact xf_cg n (fun i _ => bo_cg ⟨fun z => z.1.symm, fun z => ⟨z.symm, (D.qs.mp z).symm⟩⟩)
  have nback : ∀ y, ¬ outd q (q (y + 1)) (q y) := fun y ⟨z, e1, e2⟩ => by
    have := D.qs.mp e1
    rw [← e2] at this
    exact D.q3 y this.symm
  obtain ⟨la, hla⟩ : ∃ la : Nat → Nat → Bool, la = fun r v => xor (ka r v) (ar r v) := ⟨_, rfl⟩
  have la1 : ∀ r v, rm r → aj r v → la v r = xor (la r v) (wk c K r v) := fun r v hr hv => by
    rw [hla]
    show xor (ka v r) (ar v r) = xor (xor (ka r v) (ar r v)) (wk c K r v)
    rw [(k1 r v hr hv).2]
    show xor (xor (ka r v) (xor (wk c K r v) (wk X n r v))) (ar v r) = _
    rw [arX]
    cases ka r v <;> cases wk c K r v <;> cases ar r v <;> cases ar v r <;> rfl
  have la2 : ∀ r v, rm r → aj r v → ¬ outd q v r → la r (B r v) = xor (la r v) (wk c K r v) := fun r v hr hv no => by
    have nb : ¬ outd q r (B r v) := fun ⟨z, e1, e2⟩ => by
      obtain ⟨y, y1, y2, y3, y4⟩ := D.nm z
      have p := D.pv y1
      rw [e1, ← y3] at hr hv e2
      rw [← y4, ← p.2.2] at e2
      have := D.ij _ _ _ hr hv p.1 e2
      exact no (by rw [this, e1, ← y3]; exact p.2.1)
    rw [hla]
    show xor (ka r (B r v)) (ar r (B r v)) = xor (xor (ka r v) (ar r v)) (wk c K r v)
    rw [(k1 r v hr hv).1, ar_o _ _ nb]
    show xor (xor (ka r v) (xor (wk c K r v) (wk X n r v))) false = _
    rw [arX, ar_o _ _ no]
    cases ka r v <;> cases wk c K r v <;> cases ar r v <;> rfl
  have la3 : ∀ y, la (q y) (q (y + 1)) = xf (fun i => bo (q (y0 + i) = q y)) n := fun y => by
    rw [hla]
    show xor (ka (q y) (q (y + 1))) (ar (q y) (q (y + 1))) = _
    rw [k2, ar_i]
    cases xf (fun i => bo (q (y0 + i) = q y)) n <;> rfl
  have la4 : ∀ y, 1 ≤ y → xor (la (q y) (q (y - 1))) (wk c K (q y) (q (y - 1))) = xf (fun i => bo (q (y0 + i) = q (y - 1))) n := fun y h1 => by
    have r := D.qr (y - 1)
    have x := la1 _ _ r.1 r.2.1
    rw [show y - 1 + 1 = y by omega] at x
    have z := la3 (y - 1)
    rw [show y - 1 + 1 = y by omega] at z
    rw [x, z, wk_sy]
    cases xf (fun i => bo (q (y0 + i) = q (y - 1))) n <;> cases wk c K (q y) (q (y - 1)) <;> rfl
  -- along the sides of a place
  obtain ⟨Pp, hPp⟩ : ∃ Pp : Nat → Nat → Bool, Pp = fun r v => if v < 9 then wk c K r v else xor (bo (v = 9 + t ∧ r = c K)) (bo (v = 9 + (t + 2) % 4 ∧ r = c 0)) := ⟨_, rfl⟩
  have Pr : ∀ r v, v < 9 → Pp r v = wk c K r v := fun r v h => by rw [hPp]; exact if_pos h
  have Ps : ∀ r s, Pp r (9 + s) = xor (bo (s = t ∧ r = c K)) (bo (s = (t + 2) % 4 ∧ r = c 0)) := fun r s => by
    rw [hPp]
    show (if 9 + s < 9 then _ else _) = _
    rw [if_neg (by omega)]
    congr 1
    · exact bo_cg ⟨fun z => ⟨by omega, z.2⟩, fun z => ⟨by omega, z.2⟩⟩
    · exact bo_cg ⟨fun z => ⟨by omega, z.2⟩, fun z => ⟨by omega, z.2⟩⟩
  obtain ⟨mu, hmu⟩ : ∃ mu : Nat → Nat → Bool, mu = fun r v => if v < 9 then la r v else xor (xf (fun i => bo (q (y0 + i) = q (psn q L r - 1))) n) (xf (fun i => Pp r (9 + (lo4 b (psn q L r) + i) % 4)) ((v - 9 + 4 - lo4 b (psn q L r)) % 4)) := ⟨_, rfl⟩
  have mr : ∀ r v, v < 9 → mu r v = la r v := fun r v h => by rw [hmu]; exact if_pos h
  have ms : ∀ y j, 1 ≤ y → y ≤ L → j < 4 → mu (q y) (9 + (lo4 b y + j) % 4) = xor (xf (fun i => bo (q (y0 + i) = q (y - 1))) n) (xf (fun i => Pp (q y) (9 + (lo4 b y + i) % 4)) j) := fun y j h1 h2 hj => by
    rw [hmu]
    show (if 9 + (lo4 b y + j) % 4 < 9 then _ else _) = _
    have l4 := lo4_4 b y
    rw [if_neg (by omega), D.ps h1 h2, show (9 + (lo4 b y + j) % 4 - 9 + 4 - lo4 b y) % 4 = j by omega]
  -- how the arc's ends show
  have tel : ∀ y, 1 ≤ y → xor (xf (fun i => bo (q (y0 + i) = q (y - 1))) n) (xf (fun i => bo (q (y0 + i) = q y)) n) = xor (bo (q y = q y0)) (bo (q y = q (y0 + n))) := fun y h1 => by
    have : ∀ N, xor (xf (fun i => bo (q (y0 + i) = q (y - 1))) N) (xf (fun i => bo (q (y0 + i) = q y)) N) = xor (bo (q y = q y0)) (bo (q y = q (y0 + N))) := fun N => by
      induction N with
      | zero => show xor false false = _; rw [Nat.add_zero]; cases bo (q y = q y0) <;> rfl
      | succ N ih =>
        show xor (xor (xf _ N) (bo (q (y0 + N) = q (y - 1)))) (xor (xf _ N) (bo (q (y0 + N) = q y))) = _
        have e1 : bo (q (y0 + N) = q (y - 1)) = bo (q y = q (y0 + (N + 1))) := bo_cg ⟨fun z => by have := D.qs.mp z; rw [show y - 1 + 1 = y by omega] at this; rw [← Nat.add_assoc]; exact this.symm, fun z => D.qs.mpr (by rw [show y - 1 + 1 = y by omega]; rw [← Nat.add_assoc] at z; exact z.symm)⟩
        have e2 : bo (q (y0 + N) = q y) = bo (q y = q (y0 + N)) := bo_cg ⟨fun z => z.symm, fun z => z.symm⟩
        rw [e1, e2]
        revert ih
        generalize xf (fun i => bo (q (y0 + i) = q (y - 1))) N = u1
        generalize xf (fun i => bo (q (y0 + i) = q y)) N = u2
        generalize bo (q y = q y0) = u3
        generalize bo (q y = q (y0 + N)) = u4
        generalize bo (q y = q (y0 + (N + 1))) = u5
        cases u1 <;> cases u2 <;> cases u3 <;> cases u4 <;> cases u5 <;> decide
    exact this n
  refine ⟨mu, fun r v hr hv => ?_, fun r v hr hv => ?_, fun y => ?_, fun y h1 h2 => ?_⟩
  · have goal : mu r (Bx B q b L r v) = xor (mu r v) (Pp r v) := by
      have inner : ∀ v, aj r v → ¬ outd q v r → mu r (Bx B q b L r v) = xor (mu r v) (Pp r v) := fun v hv no => by
        have v9 := D.r9 _ (D.ed _ _ hr hv).1
        have w9 := D.r9 _ (D.ed _ _ hr (D.nx _ _ hr hv)).1
        rw [D.x4 hr hv no, mr _ _ w9, mr _ _ v9, Pr _ _ v9]
        exact la2 r v hr hv no
      by_cases on : ∃ y, 1 ≤ y ∧ y ≤ L ∧ r = q y
      · obtain ⟨y, h1, h2, e⟩ := on
        subst e
        obtain ⟨f1, f2, f3, f4⟩ := D.fs h1 h2
        have l4 := lo4_4 b y
        rcases D.cs h1 h2 hv with cc | ⟨c1, c2, _⟩ | ⟨j, hj, cc⟩ | cc
        · subst cc
          have x := ms y 0 h1 h2 (by decide)
          rw [Nat.add_zero, Nat.mod_eq_of_lt l4] at x
          rw [D.x1 h1 h2, x, mr _ _ (D.q9 _), Pr _ _ (D.q9 _), la4 y h1]
          show xor _ false = _
          cases xf (fun i => bo (q (y0 + i) = q (y - 1))) n <;> rfl
        · exact inner v c1 c2
        · subst cc
          rw [D.x2 h1 h2 hj, ms y (j + 1) h1 h2 (by omega), ms y j h1 h2 (by omega)]
          show xor _ (xor (xf _ j) (Pp (q y) (9 + (lo4 b y + j) % 4))) = _
          generalize xf (fun i => bo (q (y0 + i) = q (y - 1))) n = u1
          generalize xf (fun i => Pp (q y) (9 + (lo4 b y + i) % 4)) j = u2
          generalize Pp (q y) (9 + (lo4 b y + j) % 4) = u3
          cases u1 <;> cases u2 <;> cases u3 <;> rfl
        · subst cc
          have x := ms y (nlo b L y - lo4 b y) h1 h2 (by omega)
          rw [show lo4 b y + (nlo b L y - lo4 b y) = nlo b L y by omega] at x
          rw [D.x3 h1 h2, mr _ _ (D.q9 _), la3, x]
          -- all flips of the sides together
          have all : xor (xf (fun i => Pp (q y) (9 + (lo4 b y + i) % 4)) (nlo b L y - lo4 b y)) (Pp (q y) (9 + nlo b L y % 4)) = xor (bo (q y = c K)) (bo (q y = c 0)) := by
            have e1 : xor (xf (fun i => Pp (q y) (9 + (lo4 b y + i) % 4)) (nlo b L y - lo4 b y)) (Pp (q y) (9 + nlo b L y % 4)) = xf (fun i => Pp (q y) (9 + (lo4 b y + i) % 4)) (nlo b L y - lo4 b y + 1) := by
              show _ = xor (xf _ _) (Pp (q y) (9 + (lo4 b y + (nlo b L y - lo4 b y)) % 4))
              rw [show lo4 b y + (nlo b L y - lo4 b y) = nlo b L y by omega]
            rw [e1, xf_cg _ (fun i _ => Ps (q y) ((lo4 b y + i) % 4)), xf_x]
            have side : ∀ s x, s < 4 → nrs q b x s → xf (fun i => bo ((lo4 b y + i) % 4 = s ∧ q y = x)) (nlo b L y - lo4 b y + 1) = bo (q y = x) := fun s x s4 hx => by
              by_cases ex : q y = x
              · rw [bo_t.mpr ex]
                rw [← ex] at hx
                obtain ⟨j, hj, ej⟩ := (f3 s s4).mp hx
                rw [xf_1 (i := j) _ (by omega) (fun i hi ni => bo_f.mpr (fun z => by omega)), bo_t.mpr ⟨ej.symm, ex⟩]
              · rw [bo_f.mpr ex]
                exact xf_0 _ (fun i _ => bo_f.mpr (fun z => ex z.2))
            rw [side t (c K) ht sK, side ((t + 2) % 4) (c 0) (Nat.mod_lt _ (by decide)) s0]
          have tl := tel y h1
          rw [← r0, ← rK] at tl
          revert all tl
          generalize xf (fun i => bo (q (y0 + i) = q (y - 1))) n = u1
          generalize xf (fun i => bo (q (y0 + i) = q y)) n = u2
          generalize xf (fun i => Pp (q y) (9 + (lo4 b y + i) % 4)) (nlo b L y - lo4 b y) = u3
          generalize Pp (q y) (9 + nlo b L y % 4) = u4
          generalize bo (q y = c K) = u5
          generalize bo (q y = c 0) = u6
          cases u1 <;> cases u2 <;> cases u3 <;> cases u4 <;> cases u5 <;> cases u6 <;> decide
      · rcases D.nrr hr hv with k | ⟨s, s4, e, k⟩
        · exact inner v k (fun o => by obtain ⟨y, y1, y2, y3, _⟩ := D.out1 o; exact on ⟨y, y1, y2, y3⟩)
        · exact absurd (D.at1 s4 k) on
    rw [goal, hPp]
  · have v9 := D.r9 _ (D.ed _ _ hr hv).1
    rw [mr _ _ (D.r9 _ hr), mr _ _ v9]
    exact la1 r v hr hv
  · rw [mr _ _ (D.q9 _)]; exact la3 y
  · have x := ms y 0 h1 h2 (by decide)
    rw [Nat.add_zero, Nat.mod_eq_of_lt (lo4_4 b y)] at x
    rw [x]
    show xor _ false = _
    cases xf (fun i => bo (q (y0 + i) = q (y - 1))) n <;> rfl
end PTH
end
section
-- places from paths
section CRD
variable {rm : Nat → Prop} {aj : Nat → Nat → Prop} {B : Nat → Nat → Nat} {q b : Nat → Nat} {L : Nat}
theorem DSK.be4 (D : DSK rm aj B q b L) (s : Nat) : be b L (s + 4) = be b L s + L := by
  unfold be
  rw [Nat.add_mod_right, Nat.add_div_right s (by decide), Nat.mul_succ]; omega
theorem DSK.be1 (D : DSK rm aj B q b L) (s : Nat) : be b L (s + 1) = b (s % 4 + 1) + L * (s / 4) := by
  obtain ⟨b0, _, _, _, _, b5, _⟩ := D.bm
  unfold be
  by_cases h : s % 4 = 3
  · rw [show (s + 1) % 4 = 0 by omega, show (s + 1) / 4 = s / 4 + 1 by omega, h, show b (3 + 1) = L from b5, b0, Nat.mul_succ]; omega
  · rw [show (s + 1) % 4 = s % 4 + 1 by omega, show (s + 1) / 4 = s / 4 by omega]
theorem DSK.bem (D : DSK rm aj B q b L) (s : Nat) : be b L s ≤ be b L (s + 1) := by
  rw [D.be1]
  have := D.bb (s := s % 4) (Nat.mod_lt _ (by decide))
  unfold be; omega
theorem DSK.bes (D : DSK rm aj B q b L) {r s : Nat} : nrs q b r (s % 4) ↔ ∃ y, be b L s ≤ y ∧ y ≤ be b L (s + 1) ∧ q y = r := by
  rw [D.be1]
  unfold be
  constructor
  · rintro ⟨y, y1, y2, e⟩
    exact ⟨y + L * (s / 4), by omega, by omega, by rw [D.qm]; exact e⟩
  · rintro ⟨y, y1, y2, e⟩
    refine ⟨y - L * (s / 4), by omega, by omega, ?_⟩
    have := D.qm (s / 4) (y - L * (s / 4))
    rw [show y - L * (s / 4) + L * (s / 4) = y by omega] at this
    rw [← this]; exact e
def NQa (rm : Nat → Prop) (aj : Nat → Nat → Prop) (sd : Nat → Nat → Nat) : Prop := ∀ (t K : Nat) (c : Nat → Nat), t < 4 → 1 ≤ K → c K = c 0 → (∀ i, i < K → rm (c i) ∧ aj (c i) (c (i + 1)) ∧ sd (c i) (c (i + 1)) = t) → False
theorem go_on (D : DSK rm aj B q b L) {sd : Nat → Nat → Nat} (Y : LYa rm (nrx rm aj q b) (Bx B q b L) sd) (NQ : NQa rm aj sd) {r t : Nat} (hr : rm r) (ht : t < 4) : ∃ (K : Nat) (c : Nat → Nat), c 0 = r ∧ (∀ i, i < K → rm (c i) ∧ aj (c i) (c (i + 1)) ∧ sd (c i) (c (i + 1)) = t) ∧ nrs q b (c K) t := by
  have step : ∀ x, ∃ v, rm x ∧ ¬ nrs q b x t → aj x v ∧ sd x v = t := fun x => by
    by_cases h : rm x ∧ ¬ nrs q b x t
    · obtain ⟨v, n, e, _⟩ := Y.on x t h.1 ht
      rcases D.nrr h.1 n with k | ⟨s, s4, es, k⟩
      · exact ⟨v, fun _ => ⟨k, e⟩⟩
      · subst es
        have := Y.sd x s h.1 s4 n
        rw [e] at this
        subst this
        exact absurd k h.2
    · exact ⟨0, fun z => absurd z h⟩
  obtain ⟨gn, hg⟩ : ∃ gn : Nat → Nat, ∀ x, rm x ∧ ¬ nrs q b x t → aj x (gn x) ∧ sd x (gn x) = t := ⟨fun x => (step x).choose, fun x => (step x).choose_spec⟩
  obtain ⟨X, X0, Xs⟩ : ∃ X : Nat → Nat, X 0 = r ∧ ∀ k, X (k + 1) = gn (X k) := ⟨fun k => Nat.rec r (fun _ x => gn x) k, rfl, fun _ => rfl⟩
  have run : ∀ K, (∀ i, i < K → ¬ nrs q b (X i) t) → rm (X K) ∧ ∀ i, i < K → rm (X i) ∧ aj (X i) (X (i + 1)) ∧ sd (X i) (X (i + 1)) = t := fun K => by
    induction K with
    | zero => intro _; exact ⟨by rw [X0]; exact hr, fun i hi => absurd hi (Nat.not_lt_zero i)⟩
    | succ K ih =>
      intro h
      obtain ⟨h1, h2⟩ := ih (fun i hi => h i (by omega))
      have g := hg (X K) ⟨h1, h K (by omega)⟩
      refine ⟨by rw [Xs]; exact (D.ed _ _ h1 g.1).1, fun i hi => ?_⟩
      by_cases e : i = K
      · subst e; rw [Xs]; exact ⟨h1, g⟩
      · exact h2 i (by omega)
  have least : ∀ N, nrs q b (X N) t → ∃ K, nrs q b (X K) t ∧ ∀ i, i < K → ¬ nrs q b (X i) t := fun N => by
    induction N using Nat.strongRecOn with
    | ind N IH =>
      intro h
      by_cases e : ∃ i, i < N ∧ nrs q b (X i) t
      · obtain ⟨i, h1, h2⟩ := e
        exact IH i h1 h2
      · exact ⟨N, h, fun i hi z => e ⟨i, hi, z⟩⟩
  by_cases ex : ∃ N, nrs q b (X N) t
  · obtain ⟨N, hN⟩ := ex
    obtain ⟨K, k1, k2⟩ := least N hN
    exact ⟨K, X, X0, (run K k2).2, k1⟩
  · exfalso
    have all := fun K => run K (fun i _ z => ex ⟨i, z⟩)
    obtain ⟨i, j, h1, h2, h3⟩ := pig 9 X (fun k _ => D.r9 _ (all k).1)
    refine NQ t (j - i) (fun k => X (i + k)) ht (by omega) (by show X (i + (j - i)) = X (i + 0); rw [show i + (j - i) = j by omega, Nat.add_zero]; exact h3.symm) (fun k _ => ?_)
    exact (all (i + k + 1)).2 (i + k) (by omega)
/-- from side to side through two rooms, one behind the other, or the same -/
theorem path_ex (D : DSK rm aj B q b L) {sd : Nat → Nat → Nat} (Y : LYa rm (nrx rm aj q b) (Bx B q b L) sd) (NQ : NQa rm aj sd) {a e t : Nat} (ha : rm a) (he : rm e) (ht : t < 4) (h : a = e ∨ (aj a e ∧ sd a e = t)) : ∃ (K : Nat) (c : Nat → Nat), (∀ i, i < K → rm (c i) ∧ aj (c i) (c (i + 1)) ∧ sd (c i) (c (i + 1)) = t) ∧ nrs q b (c 0) ((t + 2) % 4) ∧ nrs q b (c K) t ∧ (∃ i, i ≤ K ∧ c i = a) ∧ ∃ i, i ≤ K ∧ c i = e := by
  obtain ⟨K1, c1, f0, f1, f2⟩ := go_on D Y NQ he ht
  obtain ⟨K2, c2, g0, g1, g2⟩ := go_on D Y NQ ha (show (t + 2) % 4 < 4 from Nat.mod_lt _ (by decide))
  -- forward from a
  obtain ⟨K3, c3, h0, h1, h2, h3⟩ : ∃ (K3 : Nat) (c3 : Nat → Nat), c3 0 = a ∧ (∀ i, i < K3 → rm (c3 i) ∧ aj (c3 i) (c3 (i + 1)) ∧ sd (c3 i) (c3 (i + 1)) = t) ∧ nrs q b (c3 K3) t ∧ ∃ i, i ≤ K3 ∧ c3 i = e := by
    rcases h with h | h
    · exact ⟨K1, c1, by rw [f0, h], f1, f2, 0, Nat.zero_le _, f0⟩
    · refine ⟨K1 + 1, fun i => if i = 0 then a else c1 (i - 1), if_pos rfl, fun i hi => ?_, ?_, 1, by omega, ?_⟩
      · by_cases z : i = 0
        · subst z
          show rm (if 0 = 0 then a else _) ∧ aj (if 0 = 0 then a else _) (if 0 + 1 = 0 then a else c1 (0 + 1 - 1)) ∧ sd (if 0 = 0 then a else _) (if 0 + 1 = 0 then a else c1 (0 + 1 - 1)) = t
          rw [if_pos rfl, if_neg (by omega), show 0 + 1 - 1 = 0 from rfl, f0]
          exact ⟨ha, h⟩
        · show rm (if i = 0 then a else c1 (i - 1)) ∧ aj (if i = 0 then a else c1 (i - 1)) (if i + 1 = 0 then a else c1 (i + 1 - 1)) ∧ sd (if i = 0 then a else c1 (i - 1)) (if i + 1 = 0 then a else c1 (i + 1 - 1)) = t
          rw [if_neg z, if_neg (by omega), show i + 1 - 1 = i - 1 + 1 by omega]
          exact f1 (i - 1) (by omega)
      · show nrs q b (if K1 + 1 = 0 then a else c1 (K1 + 1 - 1)) t
        rw [if_neg (by omega), show K1 + 1 - 1 = K1 by omega]; exact f2
      · show (if 1 = 0 then a else c1 (1 - 1)) = e
        rw [if_neg (by decide)]; exact f0
  refine ⟨K2 + K3, fun i => if i ≤ K2 then c2 (K2 - i) else c3 (i - K2), fun i hi => ?_, ?_, ?_, ⟨K2, by omega, ?_⟩, ?_⟩
  · by_cases z : i + 1 ≤ K2
    · show rm (if i ≤ K2 then c2 (K2 - i) else c3 (i - K2)) ∧ aj (if i ≤ K2 then c2 (K2 - i) else c3 (i - K2)) (if i + 1 ≤ K2 then c2 (K2 - (i + 1)) else c3 (i + 1 - K2)) ∧ sd (if i ≤ K2 then c2 (K2 - i) else c3 (i - K2)) (if i + 1 ≤ K2 then c2 (K2 - (i + 1)) else c3 (i + 1 - K2)) = t
      rw [if_pos (by omega), if_pos z]
      obtain ⟨x1, x2, x3⟩ := g1 (K2 - (i + 1)) (by omega)
      rw [show K2 - (i + 1) + 1 = K2 - i by omega] at x2 x3
      obtain ⟨y1, _, y3⟩ := D.ed _ _ x1 x2
      have o := Y.op _ _ x1 y1 (Or.inl ⟨x1, x2⟩)
      exact ⟨y1, y3, by omega⟩
    · show rm (if i ≤ K2 then c2 (K2 - i) else c3 (i - K2)) ∧ aj (if i ≤ K2 then c2 (K2 - i) else c3 (i - K2)) (if i + 1 ≤ K2 then c2 (K2 - (i + 1)) else c3 (i + 1 - K2)) ∧ sd (if i ≤ K2 then c2 (K2 - i) else c3 (i - K2)) (if i + 1 ≤ K2 then c2 (K2 - (i + 1)) else c3 (i + 1 - K2)) = t
      rw [if_neg z]
      have x := h1 (i - K2) (by omega)
      rw [show i + 1 - K2 = i - K2 + 1 by omega]
      by_cases y : i ≤ K2
      · rw [if_pos y, show K2 - i = 0 by omega, g0]
        rw [show i - K2 = 0 by omega, h0] at x
        rw [show i - K2 + 1 = 0 + 1 by omega]
        exact x
      · rw [if_neg y]; exact x
  · show nrs q b (if 0 ≤ K2 then c2 (K2 - 0) else _) _
    rw [if_pos (Nat.zero_le _)]; exact g2
  · show nrs q b (if K2 + K3 ≤ K2 then c2 (K2 - (K2 + K3)) else c3 (K2 + K3 - K2)) t
    by_cases z : K2 + K3 ≤ K2
    · rw [if_pos z, show K2 - (K2 + K3) = 0 by omega, g0]
      rw [show K3 = 0 by omega, h0] at h2; exact h2
    · rw [if_neg z, show K2 + K3 - K2 = K3 by omega]; exact h2
  · show (if K2 ≤ K2 then c2 (K2 - K2) else _) = a
    rw [if_pos (Nat.le_refl _), Nat.sub_self]; exact g0
  · obtain ⟨i, i1, i2⟩ := h3
    refine ⟨K2 + i, by omega, ?_⟩
    show (if K2 + i ≤ K2 then c2 (K2 - (K2 + i)) else c3 (K2 + i - K2)) = e
    by_cases z : K2 + i ≤ K2
    · rw [if_pos z, show K2 - (K2 + i) = 0 by omega, g0]
      rw [show i = 0 by omega, h0] at i2; exact i2
    · rw [if_neg z, show K2 + i - K2 = i by omega]; exact i2
/-- what one path adds to the places -/
def PBt (rm : Nat → Prop) (aj : Nat → Nat → Prop) (q b : Nat → Nat) (sd : Nat → Nat → Nat) (t : Nat) (l h : Nat → Nat) : Prop := (∀ r, l r ≤ h r ∧ h r ≤ 1) ∧ (∀ r, nrs q b r ((t + 3) % 4) → l r = 0) ∧ (∀ r, nrs q b r ((t + 1) % 4) → h r = 1) ∧ (∀ i j, rm i → aj i j → sd i j = (t + 1) % 4 → h i = l j) ∧ (∀ i j, rm i → aj i j → sd i j = t → l i ≤ h j ∧ l j ≤ h i)
theorem path_bits (D : DSK rm aj B q b L) (KP : KPa rm aj B q) {sd : Nat → Nat → Nat} (Y : LYa rm (nrx rm aj q b) (Bx B q b L) sd) (NQ : NQa rm aj sd) {t K : Nat} {c : Nat → Nat} (ht : t < 4) (st : ∀ i, i < K → rm (c i) ∧ aj (c i) (c (i + 1)) ∧ sd (c i) (c (i + 1)) = t) (s0 : nrs q b (c 0) ((t + 2) % 4)) (sK : nrs q b (c K) t) : ∃ (l h : Nat → Nat), PBt rm aj q b sd t l h ∧ ∀ i, i ≤ K → l (c i) = 0 ∧ h (c i) = 1 := by
  have G := D.gp
  have rmc : ∀ i, i ≤ K → rm (c i) := fun i hi => by
    by_cases e : i = K
    · rw [e]; exact D.nrm sK
    · exact (st i (by omega)).1
  have dis : ∀ i j, i < j → j ≤ K → c i ≠ c j := fun i j hij hj e => NQ t (j - i) (fun k => c (i + k)) ht (by omega) (by show c (i + (j - i)) = c (i + 0); rw [show i + (j - i) = j by omega, Nat.add_zero]; exact e.symm) (fun k hk => st (i + k) (by omega))
  have uq : ∀ i j, i ≤ K → j ≤ K → c i = c j → i = j := fun i j hi hj e => by
    rcases Nat.lt_trichotomy i j with z | z | z
    · exact absurd e (dis i j z hj)
    · exact z
    · exact absurd e.symm (dis j i z hi)
  -- the ends on the outline
  obtain ⟨y0, a1, a2, r0⟩ := D.bes.mp s0
  obtain ⟨y1, a3, a4, r1⟩ := (D.bes (s := t + 4)).mp (by rw [Nat.add_mod_right, Nat.mod_eq_of_lt ht]; exact sK)
  have m1 := D.bem (t + 2)
  have m2 := D.bem (t + 3)
  have m3 := D.bem (t + 4)
  have m4 := D.bem (t + 5)
  have m5 := D.be4 (t + 2)
  have m6 := D.be4 (t + 1)
  simp only [Nat.add_assoc, Nat.reduceAdd] at a2 a4 m1 m2 m3 m4 m5 m6
  obtain ⟨n, hn⟩ : ∃ n, n = y1 - y0 := ⟨_, rfl⟩
  have e1 : y1 = y0 + n := by omega
  have nL : n ≤ L := by omega
  subst e1
  obtain ⟨mu, w1, w2, w3, w4⟩ := path_mu D KP (n := n) ht (fun i hi => ⟨(st i hi).1, (st i hi).2.1⟩) r0.symm r1.symm s0 sK
  obtain ⟨onP, hon⟩ : ∃ onP : Nat → Prop, onP = fun r => ∃ i, i ≤ K ∧ c i = r := ⟨_, rfl⟩
  have onc : ∀ i, i ≤ K → onP (c i) := fun i hi => by rw [hon]; exact ⟨i, hi, rfl⟩
  -- away from the path
  have off : ∀ r, rm r → ¬ onP r → ∀ u v, nrx rm aj q b r u → nrx rm aj q b r v → mu r u = mu r v := fun r hr no u v hu hv => by
    have no' : ∀ i, i ≤ K → c i ≠ r := fun i hi e => no (by rw [hon]; exact ⟨i, hi, e⟩)
    have fl : ∀ x, nrx rm aj q b r x → mu r (Bx B q b L r x) = mu r x := fun x hx => by
      rw [w1 r x hr hx]
      have : (if x < 9 then wk c K r x else xor (bo (x = 9 + t ∧ r = c K)) (bo (x = 9 + (t + 2) % 4 ∧ r = c 0))) = false := by
        by_cases z : x < 9
        · rw [if_pos z]
          exact xf_0 K (fun i hi => bo_f.mpr (fun z => by
            rcases z with z | z
            · exact no' i (by omega) z.1.symm
            · exact no' (i + 1) (by omega) z.1.symm))
        · rw [if_neg z, bo_f.mpr (fun z => no' K (Nat.le_refl K) z.2.symm), bo_f.mpr (fun z => no' 0 (Nat.zero_le K) z.2.symm)]; rfl
      rw [this]; cases mu r x <;> rfl
    exact (G.tv r (fun x => mu r x = mu r v) ⟨v, hv, rfl⟩ (fun x hx e => (fl x hx).trans e)) u hu
  -- on the path
  have blk : ∀ i, i ≤ K → ∃ ex en, (ex = if i < K then c (i + 1) else 9 + t) ∧ (en = if 0 < i then c (i - 1) else 9 + (t + 2) % 4) ∧ nrx rm aj q b (c i) ex ∧ nrx rm aj q b (c i) en ∧ mu (c i) en = (!mu (c i) ex) ∧ ∀ v, nrx rm aj q b (c i) v → (sd (c i) v = (t + 1) % 4 → mu (c i) v = !mu (c i) ex) ∧ (sd (c i) v = (t + 3) % 4 → mu (c i) v = mu (c i) ex) := fun i hi => by
    have hr := rmc i hi
    have X : nrx rm aj q b (c i) (if i < K then c (i + 1) else 9 + t) ∧ sd (c i) (if i < K then c (i + 1) else 9 + t) = t := by
      by_cases z : i < K
      · rw [if_pos z]; exact ⟨Or.inl ⟨hr, (st i z).2.1⟩, (st i z).2.2⟩
      · rw [if_neg z]
        have hs : nrx rm aj q b (c i) (9 + t) := Or.inr (Or.inl ⟨t, ht, rfl, by rw [show i = K by omega]; exact sK⟩)
        exact ⟨hs, Y.sd _ t hr ht hs⟩
    have N : nrx rm aj q b (c i) (if 0 < i then c (i - 1) else 9 + (t + 2) % 4) ∧ sd (c i) (if 0 < i then c (i - 1) else 9 + (t + 2) % 4) = (t + 2) % 4 := by
      by_cases z : 0 < i
      · rw [if_pos z]
        obtain ⟨x1, x2, x3⟩ := st (i - 1) (by omega)
        rw [show i - 1 + 1 = i by omega] at x2 x3
        have back := (D.ed _ _ x1 x2).2.2
        have o := Y.op _ _ x1 hr (Or.inl ⟨x1, x2⟩)
        exact ⟨Or.inl ⟨hr, back⟩, by omega⟩
      · rw [if_neg z]
        have hs : nrx rm aj q b (c i) (9 + (t + 2) % 4) := Or.inr (Or.inl ⟨_, Nat.mod_lt _ (by decide), rfl, by rw [show i = 0 by omega]; exact s0⟩)
        exact ⟨hs, Y.sd _ _ hr (Nat.mod_lt _ (by decide)) hs⟩
    have fl : ∀ v, nrx rm aj q b (c i) v → ((if v < 9 then wk c K (c i) v else xor (bo (v = 9 + t ∧ c i = c K)) (bo (v = 9 + (t + 2) % 4 ∧ c i = c 0))) = true ↔ v = (if i < K then c (i + 1) else 9 + t) ∨ v = (if 0 < i then c (i - 1) else 9 + (t + 2) % 4)) := fun v hv => by
      by_cases z : v < 9
      · rw [if_pos z]
        by_cases k1 : i < K ∧ v = c (i + 1)
        · rw [if_pos k1.1]
          refine ⟨fun _ => Or.inl k1.2, fun _ => ?_⟩
          show xf _ K = true
          rw [xf_1 (i := i) K k1.1 (fun j hj nj => bo_f.mpr (fun y => by
            rcases y with y | y
            · exact nj (uq i j hi (by omega) y.1).symm
            · have e1 := uq i (j + 1) hi (by omega) y.1
              have e2 := uq (i + 1) j (by omega) (by omega) (k1.2.symm.trans y.2)
              omega)), bo_t.mpr (Or.inl ⟨rfl, k1.2⟩)]
        · by_cases k2 : 0 < i ∧ v = c (i - 1)
          · rw [if_pos k2.1]
            refine ⟨fun _ => Or.inr k2.2, fun _ => ?_⟩
            show xf _ K = true
            rw [xf_1 (i := i - 1) K (by omega) (fun j hj nj => bo_f.mpr (fun y => by
              rcases y with y | y
              · have e1 := uq i j hi (by omega) y.1
                have e2 := uq (i - 1) (j + 1) (by omega) (by omega) (k2.2.symm.trans y.2)
                omega
              · have e1 := uq i (j + 1) hi (by omega) y.1
                omega)), bo_t.mpr (Or.inr ⟨by rw [show i - 1 + 1 = i by omega], k2.2⟩)]
          · have no : ¬ (v = (if i < K then c (i + 1) else 9 + t) ∨ v = (if 0 < i then c (i - 1) else 9 + (t + 2) % 4)) := fun y => by
              rcases y with y | y
              · by_cases z1 : i < K
                · rw [if_pos z1] at y; exact k1 ⟨z1, y⟩
                · rw [if_neg z1] at y; omega
              · by_cases z1 : 0 < i
                · rw [if_pos z1] at y; exact k2 ⟨z1, y⟩
                · rw [if_neg z1] at y; omega
            refine ⟨fun y => ?_, fun y => absurd y no⟩
            have : wk c K (c i) v = false := xf_0 K (fun j hj => bo_f.mpr (fun y => by
              rcases y with y | y
              · have e1 := uq i j hi (by omega) y.1
                subst e1
                exact k1 ⟨hj, y.2⟩
              · have e1 := uq i (j + 1) hi (by omega) y.1
                subst e1
                exact k2 ⟨by omega, by rw [show j + 1 - 1 = j by omega]; exact y.2⟩))
            rw [this] at y; exact absurd y (by decide)
      · rw [if_neg z]
        have v9 : ∀ j, j ≤ K → v ≠ c j := fun j hj e => by have := D.r9 _ (rmc j hj); omega
        by_cases k1 : v = 9 + t ∧ c i = c K
        · have iK := uq i K hi (Nat.le_refl K) k1.2
          rw [bo_t.mpr k1, bo_f.mpr (fun y => by omega), if_neg (by omega)]
          exact ⟨fun _ => Or.inl k1.1, fun _ => rfl⟩
        · by_cases k2 : v = 9 + (t + 2) % 4 ∧ c i = c 0
          · have i0 := uq i 0 hi (Nat.zero_le K) k2.2
            rw [bo_f.mpr k1, bo_t.mpr k2, if_neg (show ¬ 0 < i by omega)]
            exact ⟨fun _ => Or.inr k2.1, fun _ => rfl⟩
          · rw [bo_f.mpr k1, bo_f.mpr k2]
            refine ⟨fun y => absurd y (by decide), fun y => ?_⟩
            exfalso
            rcases y with y | y
            · by_cases z1 : i < K
              · rw [if_pos z1] at y; exact v9 _ (by omega) y
              · rw [if_neg z1] at y; exact k1 ⟨y, by rw [show i = K by omega]⟩
            · by_cases z1 : 0 < i
              · rw [if_pos z1] at y; exact v9 _ (by omega) y
              · rw [if_neg z1] at y; exact k2 ⟨y, by rw [show i = 0 by omega]⟩
    obtain ⟨p1, p2⟩ := block G Y hr ht (mu := mu (c i)) (Pp := fun v => if v < 9 then wk c K (c i) v else xor (bo (v = 9 + t ∧ c i = c K)) (bo (v = 9 + (t + 2) % 4 ∧ c i = c 0))) (fun v hv => w1 _ v hr hv) X.1 N.1 X.2 N.2 fl
    exact ⟨_, _, rfl, rfl, X.1, N.1, p1, p2⟩
  -- the arc's colour
  have inarc : ∀ i, i < n → xf (fun j => bo (q (y0 + j) = q (y0 + i))) n = true := fun i hi => by
    rw [xf_1 (i := i) n hi (fun j hj nj => bo_f.mpr (fun e => by
      rcases Nat.lt_or_ge j i with z | z
      · exact D.q1 (show y0 + j < y0 + i by omega) (by omega) e
      · exact D.q1 (show y0 + i < y0 + j by omega) (by omega) e.symm)), bo_t.mpr rfl]
  -- the last room's side lies to the right
  have top : mu (c K) (9 + t) = true := by
    obtain ⟨y, h1, h2, ey⟩ := D.at1 ht sK
    obtain ⟨f1, f2, f3, f4⟩ := D.fs h1 h2
    have l4 := lo4_4 b y
    have hq : rm (q y) := (D.qr y).1
    have stt : ∀ j, j + 1 ≤ nlo b L y - lo4 b y → mu (q y) (9 + (lo4 b y + (j + 1)) % 4) = xor (mu (q y) (9 + (lo4 b y + j) % 4)) (xor (bo ((lo4 b y + j) % 4 = t ∧ q y = c K)) (bo ((lo4 b y + j) % 4 = (t + 2) % 4 ∧ q y = c 0))) := fun j hj => by
      have x := w1 _ _ hq (D.nrj h1 h2 (show j ≤ nlo b L y - lo4 b y by omega))
      rw [D.x2 h1 h2 hj, if_neg (by omega)] at x
      rw [x]
      congr 2
      · exact bo_cg ⟨fun z => ⟨by omega, z.2⟩, fun z => ⟨by omega, z.2⟩⟩
      · exact bo_cg ⟨fun z => ⟨by omega, z.2⟩, fun z => ⟨by omega, z.2⟩⟩
    have z0 : mu (q y) (9 + (lo4 b y + 0) % 4) = xf (fun i => bo (q (y0 + i) = q (y - 1))) n := by
      rw [Nat.add_zero, Nat.mod_eq_of_lt l4]; exact w4 y h1 h2
    have pre : 1 ≤ n → xf (fun i => bo (q (y0 + i) = q (y - 1))) n = true := fun n1 => by
      have e : q (y - 1) = q (y0 + (n - 1)) := D.qs.mpr (by rw [show y - 1 + 1 = y by omega, show y0 + (n - 1) + 1 = y0 + n by omega, ← ey]; exact r1.symm)
      rw [e]; exact inarc (n - 1) (by omega)
    rw [ey]
    rw [ey] at sK
    obtain ⟨jt, hjt, ejt⟩ := (f3 t ht).mp sK
    by_cases K0 : K = 0
    · subst K0
      have c0 : q y = c 0 := ey.symm
      have s2 := s0
      rw [← c0] at s2
      obtain ⟨j2, hj2, ej2⟩ := (f3 _ (Nat.mod_lt _ (by decide))).mp s2
      by_cases n0 : n = 0
      · -- the arc is empty: south, west, north in this order
        have s3 : nrs q b (q y) ((t + 3) % 4) := by
          rw [c0]
          exact D.bes.mpr ⟨y0, by omega, by simp only [Nat.add_assoc, Nat.reduceAdd]; omega, r0⟩
        obtain ⟨j3, hj3, ej3⟩ := (f3 _ (Nat.mod_lt _ (by decide))).mp s3
        have x1 : j2 = 0 ∧ j3 = 1 ∧ jt = 2 := by omega
        have y1' := stt 0 (by omega)
        have y2' := stt 1 (by omega)
        rw [z0, show xf (fun i => bo (q (y0 + i) = q (y - 1))) n = false by rw [n0]; rfl, bo_f.mpr (fun z => by omega), bo_t.mpr ⟨by omega, c0⟩] at y1'
        rw [y1', bo_f.mpr (fun z => by omega), bo_f.mpr (fun z => by omega)] at y2'
        rw [show 9 + t = 9 + (lo4 b y + (1 + 1)) % 4 by omega, y2']; rfl
      · -- all the turn: north, east, south
        have nn : n = L := by
          rcases Nat.lt_or_ge n L with z | z
          · exact absurd (r0.trans r1.symm) (D.q1 (show y0 < y0 + n by omega) (by omega))
          · omega
        have s1 : nrs q b (q y) ((t + 5) % 4) := by
          rw [c0]
          exact D.bes.mpr ⟨y0 + n, by omega, by simp only [Nat.add_assoc, Nat.reduceAdd]; omega, r1⟩
        obtain ⟨j1, hj1, ej1⟩ := (f3 _ (Nat.mod_lt _ (by decide))).mp s1
        have x1 : jt = 0 := by omega
        rw [show 9 + t = 9 + (lo4 b y + 0) % 4 by rw [← x1]; omega, z0]
        exact pre (by omega)
    · have c0 : q y ≠ c 0 := fun e => K0 (uq K 0 (Nat.le_refl K) (Nat.zero_le K) (ey.trans e))
      have n1 : 1 ≤ n := by
        rcases Nat.eq_zero_or_pos n with z | z
        · rw [z, Nat.add_zero] at r1
          exact absurd (ey.symm.trans (r1.symm.trans r0)) c0
        · exact z
      have run : ∀ j, j ≤ jt → mu (q y) (9 + (lo4 b y + j) % 4) = true := fun j => by
        induction j with
        | zero => intro _; rw [z0]; exact pre n1
        | succ j ih =>
          intro hj
          rw [stt j (by omega), ih (by omega), bo_f.mpr (fun z => by omega), bo_f.mpr (fun z => c0 z.2)]; rfl
      rw [show 9 + t = 9 + (lo4 b y + jt) % 4 by omega]
      exact run jt (Nat.le_refl jt)
  have left : ∀ d i, i + d = K → mu (c i) (if i < K then c (i + 1) else 9 + t) = true := fun d => by
    induction d with
    | zero => intro i e; rw [show i = K by omega, if_neg (Nat.lt_irrefl K)]; exact top
    | succ d ih =>
      intro i e
      rw [if_pos (show i < K by omega)]
      have hi := ih (i + 1) (by omega)
      obtain ⟨ex, en, eex, een, _, _, p1, _⟩ := blk (i + 1) (by omega)
      rw [← eex] at hi
      rw [hi, een, if_pos (by omega), show i + 1 - 1 = i by omega] at p1
      have x := w2 _ _ (rmc i (by omega)) (st i (by omega)).2.1
      have wt : wk c K (c i) (c (i + 1)) = true := by
        show xf _ K = true
        rw [xf_1 (i := i) K (by omega) (fun j hj nj => bo_f.mpr (fun y => by
          rcases y with y | y
          · exact nj (uq i j (by omega) (by omega) y.1).symm
          · have e1 := uq i (j + 1) (by omega) (by omega) y.1
            have e2 := uq (i + 1) j (by omega) (by omega) y.2
            omega)), bo_t.mpr (Or.inl ⟨rfl, rfl⟩)]
      rw [p1, wt] at x
      cases hz : mu (c i) (c (i + 1)) with
      | true => rfl
      | false => rw [hz] at x; exact absurd x (by decide)
  have east : ∀ r v, onP r → aj r v → sd r v = (t + 1) % 4 → mu r v = false := fun r v h hv e => by
    rw [hon] at h
    obtain ⟨i, hi, rfl⟩ := h
    obtain ⟨ex, en, eex, een, _, _, _, p2⟩ := blk i hi
    have l := left (K - i) i (by omega)
    rw [← eex] at l
    rw [(p2 v (Or.inl ⟨rmc i hi, hv⟩)).1 e, l]; rfl
  have west : ∀ r v, onP r → aj r v → sd r v = (t + 3) % 4 → mu r v = true := fun r v h hv e => by
    rw [hon] at h
    obtain ⟨i, hi, rfl⟩ := h
    obtain ⟨ex, en, eex, een, _, _, _, p2⟩ := blk i hi
    have l := left (K - i) i (by omega)
    rw [← eex] at l
    rw [(p2 v (Or.inl ⟨rmc i hi, hv⟩)).2 e, l]
  have onr : ∀ r, onP r → rm r := fun r h => by rw [hon] at h; obtain ⟨i, hi, rfl⟩ := h; exact rmc i hi
  -- the colour of a room away from the path
  obtain ⟨lf, hlf⟩ : ∃ lf : Nat → Prop, lf = fun r => ∃ v, aj r v ∧ mu r v = true := ⟨_, rfl⟩
  have lf_i : ∀ r v, rm r → ¬ onP r → aj r v → (lf r ↔ mu r v = true) := fun r v hr no hv => by
    rw [hlf]
    exact ⟨fun ⟨u, hu, e⟩ => by rw [off r hr no v u (Or.inl ⟨hr, hv⟩) (Or.inl ⟨hr, hu⟩)]; exact e, fun e => ⟨v, hv, e⟩⟩
  have same : ∀ i j, rm i → aj i j → sd i j ≠ t → sd i j ≠ (t + 2) % 4 → mu j i = mu i j := fun i j hi hj n1 n2 => by
    rw [w2 i j hi hj]
    have : wk c K i j = false := xf_0 K (fun k hk => bo_f.mpr (fun z => by
      rcases z with ⟨rfl, rfl⟩ | ⟨rfl, rfl⟩
      · exact n1 (st k hk).2.2
      · have o := Y.op _ _ (st k hk).1 hi (Or.inl ⟨(st k hk).1, (st k hk).2.1⟩)
        exact n2 (by rw [o, (st k hk).2.2])))
    rw [this]; cases mu i j <;> rfl
  have same' : ∀ i j, rm i → aj i j → ¬ onP i → mu j i = mu i j := fun i j hi hj no => by
    rw [w2 i j hi hj]
    have : wk c K i j = false := xf_0 K (fun k hk => bo_f.mpr (fun z => no (by
      rcases z with z | z
      · rw [z.1]; exact onc k (by omega)
      · rw [z.1]; exact onc (k + 1) (by omega))))
    rw [this]; cases mu i j <;> rfl
  refine ⟨fun r => ic (¬ onP r ∧ ¬ lf r), fun r => ic (onP r ∨ ¬ lf r), ⟨fun r => ⟨ic_le (fun z => Or.inr z.2), ic_1⟩, fun r h => ?_, fun r h => ?_, fun i j hi hj e => ?_, fun i j hi hj e => ?_⟩, fun i hi => ⟨ic_f (fun z => z.1 (onc i hi)), ic_t (Or.inl (onc i hi))⟩⟩
  · -- at the low side
    refine ic_f (fun ⟨no, nl⟩ => nl ?_)
    obtain ⟨z, z1, z2, z3⟩ := D.bes.mp h
    simp only [Nat.add_assoc, Nat.reduceAdd] at z2
    have hr : rm r := D.nrm h
    have zy0 : z ≠ y0 := fun e => no (by rw [← z3, e, r0]; exact onc 0 (Nat.zero_le K))
    have zy1 : z ≠ y0 + n := fun e => no (by rw [← z3, e, r1]; exact onc K (Nat.le_refl K))
    have x := w3 z
    have y := inarc (z - y0) (by omega)
    rw [show y0 + (z - y0) = z by omega] at y
    rw [y, z3] at x
    have := (D.qr z).2.1
    rw [z3] at this
    rw [hlf]; exact ⟨_, this, x⟩
  · -- at the high side
    refine ic_t (Classical.not_not.mp (fun no => ?_))
    have no1 : ¬ onP r := fun z => no (Or.inl z)
    have yes : lf r := Classical.not_not.mp (fun z => no (Or.inr z))
    obtain ⟨z, z1, z2, z3⟩ := (D.bes (s := t + 5)).mp (by rw [show (t + 5) % 4 = (t + 1) % 4 by omega]; exact h)
    simp only [Nat.add_assoc, Nat.reduceAdd] at z2
    have hr : rm r := D.nrm h
    have zy1 : z ≠ y0 + n := fun e => no1 (by rw [← z3, e, r1]; exact onc K (Nat.le_refl K))
    have zy0 : z ≠ y0 + L := fun e => no1 (by rw [← z3, e, D.qp, r0]; exact onc 0 (Nat.zero_le K))
    have x := w3 z
    have a := (D.qr z).2.1
    rw [z3] at a x
    rw [(lf_i r _ hr no1 a).mp yes] at x
    have : xf (fun i => bo (q (y0 + i) = r)) n = false := xf_0 n (fun i hi => bo_f.mpr (fun e => D.q1 (show y0 + i < z by omega) (by omega) (e.trans z3.symm)))
    rw [this] at x; exact absurd x (by decide)
  · -- beside one another
    have hj' := (D.ed _ _ hi hj).1
    have ji := (D.ed _ _ hi hj).2.2
    have o := Y.op i j hi hj' (Or.inl ⟨hi, hj⟩)
    have sm := same i j hi hj (by omega) (by omega)
    show ic (onP i ∨ ¬ lf i) = ic (¬ onP j ∧ ¬ lf j)
    by_cases pi : onP i
    · have ei := east i j pi hj e
      by_cases pj : onP j
      · have wj := west j i pj ji (by omega)
        rw [sm, ei] at wj; exact absurd wj (by decide)
      · have nl : ¬ lf j := fun z => by
          have := (lf_i j i hj' pj ji).mp z
          rw [sm, ei] at this; exact absurd this (by decide)
        rw [ic_t (Or.inl pi), ic_t ⟨pj, nl⟩]
    · by_cases pj : onP j
      · have wj := west j i pj ji (by omega)
        have yl : lf i := (lf_i i j hi pi hj).mpr (by rw [← sm]; exact wj)
        rw [ic_f (fun z => z.elim pi (fun z => z yl)), ic_f (fun z => z.1 pj)]
      · have iff : lf i ↔ lf j := by rw [lf_i i j hi pi hj, lf_i j i hj' pj ji, sm]
        exact ic_cg ⟨fun z => ⟨pj, fun y => z.elim pi (fun z => z (iff.mpr y))⟩, fun z => Or.inr (fun y => z.2 (iff.mp y))⟩
  · -- above one another
    have hj' := (D.ed _ _ hi hj).1
    have ji := (D.ed _ _ hi hj).2.2
    constructor
    · refine ic_le (fun ⟨z1, z2⟩ => ?_)
      by_cases pj : onP j
      · exact Or.inl pj
      · refine Or.inr (fun y => z2 ?_)
        rw [lf_i i j hi z1 hj, ← same' i j hi hj z1]
        exact (lf_i j i hj' pj ji).mp y
    · refine ic_le (fun ⟨z1, z2⟩ => ?_)
      by_cases pi : onP i
      · exact Or.inl pi
      · refine Or.inr (fun y => z2 ?_)
        rw [lf_i j i hj' z1 ji, ← same' j i hj' ji z1]
        exact (lf_i i j hi pi hj).mp y
/-- places along one axis -/
theorem crd (D : DSK rm aj B q b L) (KP : KPa rm aj B q) {sd : Nat → Nat → Nat} (Y : LYa rm (nrx rm aj q b) (Bx B q b L) sd) (NQ : NQa rm aj sd) {t : Nat} (ht : t < 4) : ∃ (l h : Nat → Nat) (H : Nat), (∀ r, h r ≤ 81) ∧ (∀ r, rm r → l r < h r) ∧ (∀ r, nrs q b r ((t + 3) % 4) → l r = 0) ∧ (∀ r, nrs q b r ((t + 1) % 4) → h r = H) ∧ (∀ i j, rm i → aj i j → sd i j = (t + 1) % 4 → h i = l j) ∧ (∀ i j, rm i → aj i j → sd i j = t → l i < h j ∧ l j < h i) := by
  obtain ⟨V, hV⟩ : ∃ V : Nat → Prop, V = fun p => rm (p / 9) ∧ rm (p % 9) ∧ (p / 9 = p % 9 ∨ (aj (p / 9) (p % 9) ∧ sd (p / 9) (p % 9) = t)) := ⟨_, rfl⟩
  have ex : ∀ p, ∃ lh : (Nat → Nat) × (Nat → Nat), V p → PBt rm aj q b sd t lh.1 lh.2 ∧ lh.1 (p / 9) = 0 ∧ lh.2 (p / 9) = 1 ∧ lh.1 (p % 9) = 0 ∧ lh.2 (p % 9) = 1 := fun p => by
    by_cases v : V p
    · rw [hV] at v
      obtain ⟨K, c, c1, c2, c3, ⟨i, i1, i2⟩, j, j1, j2⟩ := path_ex D Y NQ v.1 v.2.1 ht v.2.2
      obtain ⟨l, h, P, on⟩ := path_bits D KP Y NQ ht c1 c2 c3
      refine ⟨(l, h), fun _ => ⟨P, ?_, ?_, ?_, ?_⟩⟩
      · rw [← i2]; exact (on i i1).1
      · rw [← i2]; exact (on i i1).2
      · rw [← j2]; exact (on j j1).1
      · rw [← j2]; exact (on j j1).2
    · exact ⟨(fun _ => 0, fun _ => 0), fun z => absurd z v⟩
  obtain ⟨F, hF⟩ : ∃ F : Nat → (Nat → Nat) × (Nat → Nat), ∀ p, V p → PBt rm aj q b sd t (F p).1 (F p).2 ∧ (F p).1 (p / 9) = 0 ∧ (F p).2 (p / 9) = 1 ∧ (F p).1 (p % 9) = 0 ∧ (F p).2 (p % 9) = 1 := ⟨fun p => (ex p).choose, fun p => (ex p).choose_spec⟩
  have cases : ∀ (p : Nat) (x y : Nat), (V p → x = y) → ic (V p) * x = ic (V p) * y := fun p x y h => by
    by_cases v : V p
    · rw [h v]
    · rw [ic_f v, Nat.zero_mul, Nat.zero_mul]
  have casel : ∀ (p : Nat) (x y : Nat), (V p → x ≤ y) → ic (V p) * x ≤ ic (V p) * y := fun p x y h => by
    by_cases v : V p
    · exact Nat.mul_le_mul_left _ (h v)
    · rw [ic_f v, Nat.zero_mul, Nat.zero_mul]; exact Nat.le_refl _
  -- strict at one path
  have str : ∀ (u v : Nat → Nat) p0, p0 < 81 → V p0 → u p0 = 0 → v p0 = 1 → (∀ p, V p → u p ≤ v p) → su (fun p => ic (V p) * u p) 81 < su (fun p => ic (V p) * v p) 81 := fun u v p0 h0 v0 e1 e2 le => by
    have h1 : su (fun p => ic (V p) * u p + ic (p = p0)) 81 ≤ su (fun p => ic (V p) * v p) 81 := su_le 81 (fun p _ => by
      by_cases e : p = p0
      · subst e; rw [ic_t rfl, ic_t v0, e1, e2]; exact Nat.le_refl _
      · rw [ic_f e, Nat.add_zero]; exact casel p _ _ (le p))
    rw [su_add, su_1 (f := fun p => ic (p = p0)) (i := p0) 81 h0 (fun j _ nj => ic_f nj), ic_t rfl] at h1
    omega
  have idx : ∀ i j, rm i → rm j → (i = j ∨ (aj i j ∧ sd i j = t)) → 9 * i + j < 81 ∧ V (9 * i + j) ∧ (9 * i + j) / 9 = i ∧ (9 * i + j) % 9 = j := fun i j hi hj h => by
    have i9 := D.r9 i hi
    have j9 := D.r9 j hj
    obtain ⟨d1, d2⟩ := p9_d (a := i) j9
    refine ⟨by omega, ?_, d1, d2⟩
    rw [hV]
    show rm ((9 * i + j) / 9) ∧ _
    rw [d1, d2]; exact ⟨hi, hj, h⟩
  refine ⟨fun r => su (fun p => ic (V p) * (F p).1 r) 81, fun r => su (fun p => ic (V p) * (F p).2 r) 81, su (fun p => ic (V p) * 1) 81, fun r => ?_, fun r hr => ?_, fun r h => ?_, fun r h => ?_, fun i j hi hj e => ?_, fun i j hi hj e => ?_⟩
  · have h1 : su (fun p => ic (V p) * (F p).2 r) 81 ≤ su (fun p => ic (V p)) 81 := su_le 81 (fun p _ => by
      have := casel p ((F p).2 r) 1 (fun v => ((hF p v).1.1 r).2)
      rw [Nat.mul_one] at this; exact this)
    exact Nat.le_trans h1 (ct_n 81)
  · obtain ⟨h1, h2, h3, h4⟩ := idx r r hr hr (Or.inl rfl)
    have x := (hF _ h2).2
    rw [h3] at x
    exact str (fun p => (F p).1 r) (fun p => (F p).2 r) _ h1 h2 x.1 x.2.1 (fun p v => ((hF p v).1.1 r).1)
  · exact su_z 81 (fun p _ => by
      have := cases p ((F p).1 r) 0 (fun v => (hF p v).1.2.1 r h)
      rw [Nat.mul_zero] at this; exact this)
  · exact su_cg 81 (fun p _ => cases p _ _ (fun v => (hF p v).1.2.2.1 r h))
  · exact su_cg 81 (fun p _ => cases p _ _ (fun v => (hF p v).1.2.2.2.1 i j hi hj e))
  · obtain ⟨h1, h2, h3, h4⟩ := idx i j hi (D.ed _ _ hi hj).1 (Or.inr ⟨hj, e⟩)
    have x := (hF _ h2).2
    rw [h3, h4] at x
    exact ⟨str (fun p => (F p).1 i) (fun p => (F p).2 j) _ h1 h2 x.1 x.2.2.2 (fun p v => ((hF p v).1.2.2.2.2 i j hi hj e).1), str (fun p => (F p).1 j) (fun p => (F p).2 i) _ h1 h2 x.2.2.1 x.2.1 (fun p v => ((hF p v).1.2.2.2.2 i j hi hj e).2)⟩
end CRD
end
section
-- what stands for a plan, and the disc that it is
def PLD (σ : mm_S) (n m : Nat) (B : Nat → Nat → Nat) (s t L f : Nat) (Mk : Nat → Nat) (lab : Nat × Nat → Int32) (p K : Nat → Nat) : Prop := (PW σ n m) ∧ (3 ≤ bc m 9) ∧ (Cn σ m) ∧ (BN σ m B) ∧ (wms σ m 9 s) ∧ (nms σ s 9 t) ∧ (OLp B s t L) ∧ (FLl σ m B f lab) ∧ (∀ x, Dt σ m x → (lab x = -1 ↔ ∃ k, k < L ∧ x = (wo B s t k, wo B s t (k + 1)))) ∧ (∀ g, g < f → Mk g < 512 ∧ ∀ a, a < 9 → ((Mk g).testBit a = true ↔ ∃ b, Dt σ m (a, b) ∧ lab (a, b) = nI g)) ∧ (∀ g, g < f → bc (Mk g) 13 ≤ 3) ∧ (∀ i, i < 4 → p i < L) ∧ (st L p 0 + st L p 1 + st L p 2 + st L p 3 = L) ∧ (NB σ m (wo B s t) p L (fun s => st L p s + 1) K) ∧ (∀ i j l, ¬ tr K (SF f Mk L (wo B s t) p) i j l)
theorem PLD.w {σ : mm_S} {n m : Nat} {B : Nat → Nat → Nat} {s t L f : Nat} {Mk : Nat → Nat} {lab : Nat × Nat → Int32} {p K : Nat → Nat} (h : PLD σ n m B s t L f Mk lab p K) : PW σ n m := h.1
theorem PLD.r3 {σ : mm_S} {n m : Nat} {B : Nat → Nat → Nat} {s t L f : Nat} {Mk : Nat → Nat} {lab : Nat × Nat → Int32} {p K : Nat → Nat} (h : PLD σ n m B s t L f Mk lab p K) : 3 ≤ bc m 9 := h.2.1
theorem PLD.cn {σ : mm_S} {n m : Nat} {B : Nat → Nat → Nat} {s t L f : Nat} {Mk : Nat → Nat} {lab : Nat × Nat → Int32} {p K : Nat → Nat} (h : PLD σ n m B s t L f Mk lab p K) : Cn σ m := h.2.2.1
theorem PLD.bn {σ : mm_S} {n m : Nat} {B : Nat → Nat → Nat} {s t L f : Nat} {Mk : Nat → Nat} {lab : Nat × Nat → Int32} {p K : Nat → Nat} (h : PLD σ n m B s t L f Mk lab p K) : BN σ m B := h.2.2.2.1
theorem PLD.ws {σ : mm_S} {n m : Nat} {B : Nat → Nat → Nat} {s t L f : Nat} {Mk : Nat → Nat} {lab : Nat × Nat → Int32} {p K : Nat → Nat} (h : PLD σ n m B s t L f Mk lab p K) : wms σ m 9 s := h.2.2.2.2.1
theorem PLD.nt {σ : mm_S} {n m : Nat} {B : Nat → Nat → Nat} {s t L f : Nat} {Mk : Nat → Nat} {lab : Nat × Nat → Int32} {p K : Nat → Nat} (h : PLD σ n m B s t L f Mk lab p K) : nms σ s 9 t := h.2.2.2.2.2.1
theorem PLD.ol {σ : mm_S} {n m : Nat} {B : Nat → Nat → Nat} {s t L f : Nat} {Mk : Nat → Nat} {lab : Nat × Nat → Int32} {p K : Nat → Nat} (h : PLD σ n m B s t L f Mk lab p K) : OLp B s t L := h.2.2.2.2.2.2.1
theorem PLD.fl {σ : mm_S} {n m : Nat} {B : Nat → Nat → Nat} {s t L f : Nat} {Mk : Nat → Nat} {lab : Nat × Nat → Int32} {p K : Nat → Nat} (h : PLD σ n m B s t L f Mk lab p K) : FLl σ m B f lab := h.2.2.2.2.2.2.2.1
theorem PLD.lo {σ : mm_S} {n m : Nat} {B : Nat → Nat → Nat} {s t L f : Nat} {Mk : Nat → Nat} {lab : Nat × Nat → Int32} {p K : Nat → Nat} (h : PLD σ n m B s t L f Mk lab p K) : ∀ x, Dt σ m x → (lab x = -1 ↔ ∃ k, k < L ∧ x = (wo B s t k, wo B s t (k + 1))) := h.2.2.2.2.2.2.2.2.1
theorem PLD.mk {σ : mm_S} {n m : Nat} {B : Nat → Nat → Nat} {s t L f : Nat} {Mk : Nat → Nat} {lab : Nat × Nat → Int32} {p K : Nat → Nat} (h : PLD σ n m B s t L f Mk lab p K) : ∀ g, g < f → Mk g < 512 ∧ ∀ a, a < 9 → ((Mk g).testBit a = true ↔ ∃ b, Dt σ m (a, b) ∧ lab (a, b) = nI g) := h.2.2.2.2.2.2.2.2.2.1
theorem PLD.sm {σ : mm_S} {n m : Nat} {B : Nat → Nat → Nat} {s t L f : Nat} {Mk : Nat → Nat} {lab : Nat × Nat → Int32} {p K : Nat → Nat} (h : PLD σ n m B s t L f Mk lab p K) : ∀ g, g < f → bc (Mk g) 13 ≤ 3 := h.2.2.2.2.2.2.2.2.2.2.1
theorem PLD.pl {σ : mm_S} {n m : Nat} {B : Nat → Nat → Nat} {s t L f : Nat} {Mk : Nat → Nat} {lab : Nat × Nat → Int32} {p K : Nat → Nat} (h : PLD σ n m B s t L f Mk lab p K) : ∀ i, i < 4 → p i < L := h.2.2.2.2.2.2.2.2.2.2.2.1
theorem PLD.sL {σ : mm_S} {n m : Nat} {B : Nat → Nat → Nat} {s t L f : Nat} {Mk : Nat → Nat} {lab : Nat × Nat → Int32} {p K : Nat → Nat} (h : PLD σ n m B s t L f Mk lab p K) : st L p 0 + st L p 1 + st L p 2 + st L p 3 = L := h.2.2.2.2.2.2.2.2.2.2.2.2.1
theorem PLD.nb {σ : mm_S} {n m : Nat} {B : Nat → Nat → Nat} {s t L f : Nat} {Mk : Nat → Nat} {lab : Nat × Nat → Int32} {p K : Nat → Nat} (h : PLD σ n m B s t L f Mk lab p K) : NB σ m (wo B s t) p L (fun s => st L p s + 1) K := h.2.2.2.2.2.2.2.2.2.2.2.2.2.1
theorem PLD.no {σ : mm_S} {n m : Nat} {B : Nat → Nat → Nat} {s t L f : Nat} {Mk : Nat → Nat} {lab : Nat × Nat → Int32} {p K : Nat → Nat} (h : PLD σ n m B s t L f Mk lab p K) : ∀ i j l, ¬ tr K (SF f Mk L (wo B s t) p) i j l := h.2.2.2.2.2.2.2.2.2.2.2.2.2.2
/-- a set closed under the next one clockwise is all -/
theorem bn_tv {σ : mm_S} {n m r : Nat} {B : Nat → Nat → Nat} (W : PW σ n m) (hB : BN σ m B) (hr : rmx m r) (S : Nat → Prop) (ne : ∃ v, aj σ r v ∧ S v) (cl : ∀ v, aj σ r v → S v → S (B r v)) : ∀ v, aj σ r v → S v := fun w hw => by
  rcases Classical.em (S w) with y | nw
  · exact y
  exfalso
  have G := W.1.gdd W.2.1 hr.1 hr.2
  -- the last one of S clockwise from w
  have mx : ∀ N, (∃ v, v < N ∧ aj σ r v ∧ S v) → ∃ v, aj σ r v ∧ S v ∧ ∀ u, u < N → aj σ r u → S u → u = v ∨ gso (vc σ r w) (vc σ r u) (vc σ r v) := fun N => by
    induction N with
    | zero => rintro ⟨v, hv, _⟩; exact absurd hv (Nat.not_lt_zero v)
    | succ N ih =>
      rintro ⟨v, hv, av, sv⟩
      by_cases old : ∃ v, v < N ∧ aj σ r v ∧ S v
      · obtain ⟨x, ax, sx, hx⟩ := ih old
        by_cases new : aj σ r N ∧ S N
        · by_cases e : N = x
          · exact ⟨x, ax, sx, fun u hu au su => by
              by_cases eu : u = N
              · exact Or.inl (eu.trans e)
              · exact hx u (by omega) au su⟩
          · have nNw : N ≠ w := fun z => nw (z ▸ new.2)
            have nxw : x ≠ w := fun z => nw (z ▸ sx)
            rcases gtot (G.1 w hw) (G.1 x ax) (G.1 N new.1) (G.2 w x hw ax (fun z => nxw z.symm)) (G.2 w N hw new.1 (fun z => nNw z.symm)) (G.2 x N ax new.1 (fun z => e z.symm)) with k | k
            · refine ⟨N, new.1, new.2, fun u hu au su => ?_⟩
              by_cases eu : u = N
              · exact Or.inl eu
              · rcases hx u (by omega) au su with z | z
                · right; rw [z]; exact k
                · right
                  have nuw : u ≠ w := fun z => nw (z ▸ su)
                  exact gtrans (G.1 w hw) (G.1 u au) (G.1 N new.1) (G.2 w u hw au (fun z => nuw z.symm)) (G.2 w x hw ax (fun z => nxw z.symm)) (G.2 w N hw new.1 (fun z => nNw z.symm)) (G.2 u N au new.1 eu) z k
            · exact ⟨x, ax, sx, fun u hu au su => by
                by_cases eu : u = N
                · right; rw [eu]; exact k
                · exact hx u (by omega) au su⟩
        · exact ⟨x, ax, sx, fun u hu au su => by
            by_cases eu : u = N
            · exact absurd ⟨eu ▸ au, eu ▸ su⟩ new
            · exact hx u (by omega) au su⟩
      · have vN : v = N := by
          rcases Nat.lt_or_ge v N with z | z
          · exact absurd ⟨v, z, av, sv⟩ old
          · omega
        exact ⟨v, av, sv, fun u hu au su => by
          by_cases eu : u = N
          · exact Or.inl (eu.trans vN.symm)
          · exact absurd ⟨u, by omega, au, su⟩ old⟩
  obtain ⟨v0, a0, s0⟩ := ne
  obtain ⟨x, ax, sx, hx⟩ := mx 9 ⟨v0, a0.1, a0, s0⟩
  have nb := hB r x hr.1 hr.2 ax
  have ag := nb.2.1
  have sg := cl x ax sx
  have nxw : x ≠ w := fun z => nw (z ▸ sx)
  have ngw : B r x ≠ w := fun z => nw (z ▸ sg)
  rcases nb.2.2 with ⟨_, only⟩ | ⟨ne, k⟩
  · exact nxw (only w hw).symm
  · have k1 := k w hw (fun z => nxw z.symm) (fun z => ngw z.symm)
    have k2 := grot (G.1 x ax) (G.1 _ ag) (G.1 w hw) (G.2 x _ ax ag (fun z => ne z.symm)) (G.2 x w ax hw nxw) (G.2 w x hw ax (fun z => nxw z.symm)) (G.2 w _ hw ag (fun z => ngw z.symm)) k1
    rcases hx (B r x) ag.1 ag sg with z | z
    · exact ne z
    · exact gso_asym k2 z
section PLS
variable {σ : mm_S} {n m : Nat} {B : Nat → Nat → Nat} {s t L f : Nat} {Mk : Nat → Nat} {lab : Nat × Nat → Int32} {p K : Nat → Nat}
def qo (B : Nat → Nat → Nat) (s t : Nat) (p : Nat → Nat) (y : Nat) : Nat := wo B s t (p 0 + y)
def bo4 (L : Nat) (p : Nat → Nat) (i : Nat) : Nat := if i < 4 then frm L p i else L
theorem PLD.wa (P : PLD σ n m B s t L f Mk lab p K) : ∀ k, rmx m (wo B s t k) ∧ aj σ (wo B s t k) (wo B s t (k + 1)) := fun k => by
  induction k with
  | zero => exact ⟨⟨P.ws.1, P.ws.2.2.1⟩, P.nt.1⟩
  | succ k ih =>
    obtain ⟨h1, _, h3, _⟩ := P.w.ed ih.1 ih.2
    exact ⟨h1, by rw [wo_2]; exact (P.bn _ _ h1.1 h1.2 h3).2.1⟩
theorem PLD.wp (P : PLD σ n m B s t L f Mk lab p K) : ∀ k, wo B s t (k + L) = wo B s t k := by
  obtain ⟨_, _, h1, h2, _⟩ := P.ol
  have : ∀ k, wo B s t (k + L) = wo B s t k ∧ wo B s t (k + 1 + L) = wo B s t (k + 1) := fun k => by
    induction k with
    | zero => exact ⟨by rw [Nat.zero_add]; exact h1, by rw [show 0 + 1 + L = L + 1 by omega]; exact h2⟩
    | succ k ih =>
      refine ⟨ih.2, ?_⟩
      rw [show k + 1 + 1 + L = k + L + 2 by omega, wo_2, show k + L + 1 = k + 1 + L by omega, ih.1, ih.2]; rfl
  exact fun k => (this k).1
theorem PLD.wm (P : PLD σ n m B s t L f Mk lab p K) : ∀ k, wo B s t (k % L) = wo B s t k := fun k => by
  have : ∀ d k, wo B s t (k + L * d) = wo B s t k := fun d => by
    induction d with
    | zero => intro k; rfl
    | succ d ih => intro k; rw [Nat.mul_succ, ← Nat.add_assoc, P.wp, ih]
  have := this (k / L) (k % L)
  rw [Nat.mod_add_div] at this
  exact this.symm
theorem PLD.l3 (P : PLD σ n m B s t L f Mk lab p K) : 3 ≤ L := by
  obtain ⟨l1, l9, h1, h2, dis⟩ := P.ol
  have a0 := P.wa 0
  have a1 := P.wa 1
  rcases Nat.lt_or_ge L 3 with k | k
  · exfalso
    rcases (show L = 1 ∨ L = 2 by omega) with e | e
    · subst e
      have := (P.w.ed a0.1 a0.2).2.1
      exact this h1.symm
    · subst e
      have st := P.w.ed a0.1 a0.2
      have b1 : B t s = s := h1
      have b2 : B s t = t := by have : B (wo B s t 2) (wo B s t 1) = t := h2; rw [h1] at this; exact this
      have n1 := P.bn t s st.1.1 st.1.2 st.2.2.1
      have n2 := P.bn s t a0.1.1 a0.1.2 a0.2
      rw [b1] at n1
      rw [b2] at n2
      have o1 : ∀ j, aj σ t j → j = s := by
        rcases n1.2.2 with ⟨_, y⟩ | ⟨y, _⟩
        · exact y
        · exact absurd rfl y
      have o2 : ∀ j, aj σ s j → j = t := by
        rcases n2.2.2 with ⟨_, y⟩ | ⟨y, _⟩
        · exact y
        · exact absurd rfl y
      have all := P.cn (fun r => r = s ∨ r = t) ⟨s, a0.1.1, a0.1.2, Or.inl rfl⟩ (fun i j _ _ hi hij => by
        rcases hi with hi | hi
        · subst hi; exact Or.inr (o2 j hij)
        · subst hi; exact Or.inl (o1 j hij))
      have le : bc m 9 ≤ bc (2 ^ s ||| 2 ^ t) 9 := bc_le 9 (fun j hj hm => by
        rcases all j hj hm with q' | q'
        · rw [q', tb_or]; left; rw [Nat.testBit_two_pow]; simp
        · rw [q', tb_or]; exact Or.inr rfl)
      have st' : s ≠ t := st.2.1
      have two : bc (2 ^ s ||| 2 ^ t) 9 = 2 := by
        have n0 : ¬ (2 ^ s).testBit t = true := by rw [Nat.testBit_two_pow]; simp [st']
        have z0 : bc (0 ||| 2 ^ s) 9 = bc 0 9 + if s < 9 then 1 else 0 := bc_add (by simp) 9
        rw [bc_add n0, show (2 : Nat) ^ s = 0 ||| 2 ^ s by simp, z0, show bc 0 9 = 0 by decide, if_pos (show s < 9 from a0.1.1), if_pos (show t < 9 from st.1.1)]
      have := P.r3
      omega
  · exact k
theorem PLD.wd (P : PLD σ n m B s t L f Mk lab p K) {i j : Nat} (h : i < j) (k : j < i + L) : wo B s t i ≠ wo B s t j := fun e => by
  obtain ⟨l1, _, _, _, dis⟩ := P.ol
  rw [← P.wm i, ← P.wm j] at e
  have m1 := Nat.mod_lt i (show L > 0 by omega)
  have m2 := Nat.mod_lt j (show L > 0 by omega)
  rcases Nat.lt_trichotomy (i % L) (j % L) with z | z | z
  · exact dis _ _ z m2 e
  · have d1 := Nat.mod_add_div i L
    have d2 := Nat.mod_add_div j L
    have q1 : i / L < j / L := by
      rcases Nat.lt_or_ge (i / L) (j / L) with y | y
      · exact y
      · have := Nat.mul_le_mul_left L y; omega
    have := Nat.mul_le_mul_left L q1
    rw [Nat.mul_succ] at this
    omega
  · exact dis _ _ z m1 e.symm
theorem PLD.lay (P : PLD σ n m B s t L f Mk lab p K) : ∀ i, i < 4 → (p 0 + frm L p i) % L = p i ∧ tom L p i = frm L p i + st L p i ∧ tom L p i ≤ L := (lay_p (by have := P.ol.2.1; omega) P.pl).2 P.sL
theorem PLD.tb (P : PLD σ n m B s t L f Mk lab p K) {i : Nat} (hi : i < 4) : tom L p i = bo4 L p (i + 1) := by
  unfold tom bo4
  by_cases h : i < 3
  · rw [if_pos h, if_pos (by omega)]
  · rw [if_neg h, if_neg (by omega)]
theorem PLD.fb (P : PLD σ n m B s t L f Mk lab p K) {i : Nat} (hi : i < 4) : frm L p i = bo4 L p i := by unfold bo4; rw [if_pos hi]
theorem stL {L : Nat} {p : Nat → Nat} (hp : ∀ i, i < 4 → p i < L) {i : Nat} (hi : i < 4) : st L p i < L := by
  have h1 := hp i hi
  have h2 := hp (nx4 i) (f_50_n i hi).2
  unfold st
  split <;> omega
/-- rooms along a side -/
theorem PLD.onp (P : PLD σ n m B s t L f Mk lab p K) {i r : Nat} (hi : i < 4) : onp (wo B s t) p L i (st L p i + 1) r ↔ nrs (qo B s t p) (bo4 L p) r i := by
  obtain ⟨h1, h2, h3⟩ := P.lay i hi
  have e1 := P.tb hi
  have e2 := P.fb hi
  have l1 := P.l3
  constructor
  · rintro ⟨j, hj, e⟩
    refine ⟨frm L p i + j, by omega, by omega, ?_⟩
    show wo B s t (p 0 + (frm L p i + j)) = r
    rw [← e, P.wm, ← P.wm (p 0 + (frm L p i + j)), ← P.wm (p i + j), ← h1, Nat.mod_add_mod, Nat.add_assoc]
  · rintro ⟨y, y1, y2, e⟩
    refine ⟨y - frm L p i, by omega, ?_⟩
    have e' : wo B s t (p 0 + y) = r := e
    rw [P.wm, ← P.wm, ← h1, Nat.mod_add_mod, P.wm, show p 0 + frm L p i + (y - frm L p i) = p 0 + y by omega]; exact e'
theorem PLD.out (P : PLD σ n m B s t L f Mk lab p K) {a c : Nat} (h : Dt σ m (a, c)) : lab (a, c) = -1 ↔ outd (qo B s t p) a c := by
  have l1 := P.l3
  have p0 := P.pl 0 (by decide)
  rw [P.lo _ h]
  constructor
  · rintro ⟨k, hk, e⟩
    have e1 : a = wo B s t k := congrArg Prod.fst e
    have e2 : c = wo B s t (k + 1) := congrArg Prod.snd e
    refine ⟨k + L - p 0, ?_, ?_⟩
    · show a = wo B s t (p 0 + (k + L - p 0))
      rw [show p 0 + (k + L - p 0) = k + L by omega, P.wp]; exact e1
    · show c = wo B s t (p 0 + (k + L - p 0 + 1))
      rw [show p 0 + (k + L - p 0 + 1) = k + 1 + L by omega, P.wp]; exact e2
  · rintro ⟨y, e1, e2⟩
    have e1' : a = wo B s t (p 0 + y) := e1
    have e2' : c = wo B s t (p 0 + y + 1) := e2
    refine ⟨(p 0 + y) % L, Nat.mod_lt _ (by omega), Prod.ext (by rw [P.wm]; exact e1') ?_⟩
    show c = wo B s t ((p 0 + y) % L + 1)
    rw [← P.wm ((p 0 + y) % L + 1), Nat.mod_add_mod, P.wm]; exact e2'
theorem PLD.st (P : PLD σ n m B s t L f Mk lab p K) : Dt σ m (s, t) ∧ lab (s, t) = -1 := by
  have d : Dt σ m (s, t) := ⟨P.ws.1, P.ws.2.2.1, P.nt.1⟩
  exact ⟨d, (P.lo _ d).mpr ⟨0, by have := P.l3; omega, rfl⟩⟩
theorem PLD.trx (P : PLD σ n m B s t L f Mk lab p K) {a b g : Nat} (hx : Dt σ m (a, b)) (hg : g < f) (lx : lab (a, b) = nI g) :
    ∃ c, c < 9 ∧ a ≠ b ∧ c ≠ a ∧ c ≠ b ∧ B b a = c ∧ B c b = a ∧ B a c = b ∧ Dt σ m (b, c) ∧ Dt σ m (c, a) ∧ lab (b, c) = nI g ∧ lab (c, a) = nI g ∧ ∀ r, r < 9 → ((Mk g).testBit r = true ↔ r = a ∨ r = b ∨ r = c) := TRx P.w P.cn P.r3 P.bn P.fl P.st.1 P.st.2 P.mk P.sm hx hg lx
theorem PLD.lbg (P : PLD σ n m B s t L f Mk lab p K) {a c : Nat} (h : Dt σ m (a, c)) (no : ¬ outd (qo B s t p) a c) : ∃ g, g < f ∧ lab (a, c) = nI g := (P.fl.2.2.1 _ h).resolve_left (fun z => no ((P.out h).mp z))
theorem PLD.ng (P : PLD σ n m B s t L f Mk lab p K) {a c g : Nat} (h : Dt σ m (a, c)) (hg : g < f) (e : lab (a, c) = nI g) : ¬ outd (qo B s t p) a c := fun o => by
  have := (P.out h).mpr o
  rw [e] at this
  have f42 := P.fl.1
  exact nI_m1 (by omega) this
/-- no loose triangle, in any order -/
theorem PLD.no3 (P : PLD σ n m B s t L f Mk lab p K) {i j k : Nat} (hi : i < 13) (hj : j < 13) (hk : k < 13) (n1 : i ≠ j) (n2 : i ≠ k) (n3 : j ≠ k) (sy : ∀ u v, u < 13 → v < 13 → (K u).testBit v = true → (K v).testBit u = true) (h1 : (K i).testBit j = true) (h2 : (K i).testBit k = true) (h3 : (K j).testBit k = true) : SF f Mk L (wo B s t) p (2 ^ i ||| 2 ^ j ||| 2 ^ k) := by
  have go : ∀ a b c, a < b → b < c → c < 13 → (K a).testBit b = true → (K a).testBit c = true → (K b).testBit c = true → SF f Mk L (wo B s t) p (2 ^ a ||| 2 ^ b ||| 2 ^ c) := fun a b c x1 x2 x3 x4 x5 x6 => Classical.not_not.mp (fun z => P.no a b c ⟨x1, x2, x3, x4, x5, x6, z⟩)
  have h1' := sy _ _ hi hj h1
  have h2' := sy _ _ hi hk h2
  have h3' := sy _ _ hj hk h3
  have re : ∀ a b c, (∀ w, (a = w ∨ b = w ∨ c = w) ↔ (i = w ∨ j = w ∨ k = w)) → SF f Mk L (wo B s t) p (2 ^ a ||| 2 ^ b ||| 2 ^ c) → SF f Mk L (wo B s t) p (2 ^ i ||| 2 ^ j ||| 2 ^ k) := fun a b c e h => by rw [← b3_eq e]; exact h
  rcases Nat.lt_or_ge i j with x | x <;> rcases Nat.lt_or_ge i k with y | y <;> rcases Nat.lt_or_ge j k with z | z
  · exact go i j k x z hk h1 h2 h3
  · exact re i k j (fun w => by constructor <;> (rintro (h | h | h) <;> simp [h])) (go i k j y (by omega) hj h2 h1 h3')
  · omega
  · exact re k i j (fun w => by constructor <;> (rintro (h | h | h) <;> simp [h])) (go k i j (by omega) x hj h2' h3' h1)
  · exact re j i k (fun w => by constructor <;> (rintro (h | h | h) <;> simp [h])) (go j i k (by omega) y hk h1' h3 h2)
  · omega
  · exact re j k i (fun w => by constructor <;> (rintro (h | h | h) <;> simp [h])) (go j k i z (by omega) hi h3 h1' h2')
  · exact re k j i (fun w => by constructor <;> (rintro (h | h | h) <;> simp [h])) (go k j i (by omega) (by omega) hi h3' h2' h1')
theorem nx4_1 : ∀ s, s < 4 → nx4 s = (s + 1) % 4 := by decide
theorem pv4_1 : ∀ s, s < 4 → ∀ s', s' < 4 → (s' = pv4 s ↔ s = (s' + 1) % 4) := by decide
/-- near, by the masks -/
theorem PLD.kn (P : PLD σ n m B s t L f Mk lab p K) {u v : Nat} (hu : u < 13) : (K u).testBit v = true ↔ nrx (rmx m) (aj σ) (qo B s t p) (bo4 L p) u v := by
  obtain ⟨k0, k1, k2, k3, k4⟩ := P.nb
  have rr : ∀ {r i}, nrs (qo B s t p) (bo4 L p) r i → r < 9 := fun {r i} ⟨y, _, _, e⟩ => by rw [← e]; exact (P.wa _).1.1
  rcases Nat.lt_or_ge u 9 with u9 | u9
  · constructor
    · intro h
      rcases Nat.lt_or_ge v 9 with v9 | v9
      · have := (k1 u v u9 v9).mp h
        exact Or.inl ⟨⟨u9, this.1⟩, this.2⟩
      · have v13 : v < 13 := by
          rcases Nat.lt_or_ge v 13 with z | z
          · exact z
          · rw [tb_lt (k := 13) (k0 u hu) z] at h; exact absurd h (by decide)
        have e : v = 9 + (v - 9) := by omega
        rw [e] at h
        exact Or.inr (Or.inl ⟨v - 9, by omega, e, (P.onp (by omega)).mp ((k2 u (v - 9) u9 (by omega)).mp h)⟩)
    · rintro (⟨h1, h2⟩ | ⟨i, i4, e, h⟩ | ⟨i, i4, e, h⟩ | ⟨i, j, i4, j4, e1, e2, h⟩)
      · exact (k1 u v u9 h2.1).mpr ⟨h1.2, h2⟩
      · subst e; exact (k2 u i u9 i4).mpr ((P.onp i4).mpr h)
      · omega
      · omega
  · obtain ⟨i, i4, e⟩ : ∃ i, i < 4 ∧ u = 9 + i := ⟨u - 9, by omega, by omega⟩
    subst e
    constructor
    · intro h
      rcases Nat.lt_or_ge v 9 with v9 | v9
      · exact Or.inr (Or.inr (Or.inl ⟨i, i4, rfl, (P.onp i4).mp ((k3 i v i4 v9).mp h)⟩))
      · have v13 : v < 13 := by
          rcases Nat.lt_or_ge v 13 with z | z
          · exact z
          · rw [tb_lt (k := 13) (k0 _ hu) z] at h; exact absurd h (by decide)
        have e : v = 9 + (v - 9) := by omega
        rw [e] at h
        have := (k4 i (v - 9) i4 (by omega)).mp h
        rw [nx4_1 i i4, pv4_1 i i4 _ (by omega)] at this
        exact Or.inr (Or.inr (Or.inr ⟨i, v - 9, i4, by omega, rfl, e, this⟩))
    · rintro (⟨h1, h2⟩ | ⟨j, j4, e, h⟩ | ⟨j, j4, e, h⟩ | ⟨j, j', j4, j4', e1, e2, h⟩)
      · have := h1.1; omega
      · have := rr h; omega
      · have : i = j := by omega
        subst this
        exact (k3 i v i4 (rr h)).mpr ((P.onp i4).mpr h)
      · have : i = j := by omega
        subst this
        subst e2
        refine (k4 i j' i4 j4').mpr ?_
        rw [nx4_1 i i4, pv4_1 i i4 _ j4']; exact h
theorem PLD.dsk (P : PLD σ n m B s t L f Mk lab p K) : DSK (rmx m) (aj σ) B (qo B s t p) (bo4 L p) L := by
  have l3 := P.l3
  have lay := P.lay
  have lp := (lay_p (by have := P.ol.2.1; omega) P.pl).1.mpr P.sL
  have e12 : bo4 L p 4 = L := by unfold bo4; rw [if_neg (by decide)]
  have q9 : ∀ y, qo B s t p y < 9 := fun y => (P.wa _).1.1
  have sy : ∀ u v, u < 13 → v < 13 → (K u).testBit v = true → (K v).testBit u = true := fun u v hu hv h => by
    rw [P.kn hv]
    rw [P.kn hu] at h
    rcases h with ⟨h1, h2⟩ | ⟨i, i4, e, k⟩ | ⟨i, i4, e, k⟩ | ⟨i, i', h1, h2, e1, e2, k⟩
    · have := P.w.ed h1 h2
      exact Or.inl ⟨this.1, this.2.2.1⟩
    · exact Or.inr (Or.inr (Or.inl ⟨i, i4, e, k⟩))
    · exact Or.inr (Or.inl ⟨i, i4, e, k⟩)
    · exact Or.inr (Or.inr (Or.inr ⟨i', i, h2, h1, e2, e1, k.symm⟩))
  have Dt' : ∀ {a c}, rmx m a → aj σ a c → Dt σ m (a, c) := fun h k => ⟨h.1, h.2, k⟩
  refine ⟨fun r h => h.1, fun r v hr hv => ?_, fun r v hr hv => (P.bn r v hr.1 hr.2 hv).2.1, fun r v w hr hv hw e => ?_, fun r S hr => bn_tv P.w P.bn hr S, fun y => ⟨(P.wa _).1, (P.wa _).2, rfl⟩, fun y => ?_, fun y z y1 yz zL => ?_, fun a c ha hc no => ?_, ?_, fun i i4 => ?_, fun a c e ha hc he hce => ?_, fun a c i i4 h1 h2 hac => ?_, fun a i i4 h1 h2 => ?_, fun S hS cl => ?_⟩
  · have := P.w.ed hr hv
    exact ⟨this.1, this.2.1, this.2.2.1⟩
  · have n1 := P.bn r v hr.1 hr.2 hv
    have n2 := P.bn r w hr.1 hr.2 hw
    rw [← e] at n2
    exact nxt_inj (P.w.1.gdd P.w.2.1 hr.1 hr.2) n1 n2
  · show wo B s t (p 0 + (y + L)) = wo B s t (p 0 + y)
    rw [← Nat.add_assoc, P.wp]
  · exact P.wd (show p 0 + y < p 0 + z by omega) (by omega)
  · obtain ⟨g, hg, lg⟩ := P.lbg (Dt' ha hc) no
    obtain ⟨e, e9, x1, x2, x3, x4, x5, x6, x7, x8, x9, x10, x11⟩ := P.trx (Dt' ha hc) hg lg
    rw [x4]
    exact ⟨x5, x6, P.ng x7 hg x9, P.ng x8 hg x10⟩
  · have e0 : bo4 L p 0 = 0 := rfl
    have e1 : bo4 L p 1 = frm L p 1 := rfl
    have e2 : bo4 L p 2 = frm L p 2 := rfl
    have e3 : bo4 L p 3 = frm L p 3 := rfl
    have f0 : frm L p 0 = 0 := rfl
    have f3 := frm_le (p := p) (show 1 ≤ L by omega) 3
    rw [e0, e1, e2, e3, e12]
    exact ⟨rfl, Nat.zero_le _, lp.2.1, lp.2.2.1, f3, rfl, l3⟩
  · have h := lay i i4
    have := stL P.pl i4
    rw [← P.tb i4, ← P.fb i4]; omega
  · -- three rooms
    have c9 := hc.1
    have e9 := he.1
    have rc := (P.w.ed ha hc).1
    have re := (P.w.ed ha he).1
    have k1 : (K a).testBit c = true := (P.kn (by have := ha.1; omega)).mpr (Or.inl ⟨ha, hc⟩)
    have k2 : (K a).testBit e = true := (P.kn (by have := ha.1; omega)).mpr (Or.inl ⟨ha, he⟩)
    have k3 : (K c).testBit e = true := (P.kn (by omega)).mpr (Or.inl ⟨rc, hce⟩)
    have a9 := ha.1
    rcases P.no3 (by omega) (by omega) (by omega) (P.w.ed ha hc).2.1 (P.w.ed ha he).2.1 (P.w.ed rc hce).2.1 sy k1 k2 k3 with ⟨g, hg, eg⟩ | ⟨i, i4, h⟩
    · have bits : ∀ r, (Mk g).testBit r = true ↔ a = r ∨ c = r ∨ e = r := fun r => by rw [eg]; exact b3_t
      obtain ⟨x, dx, lx⟩ := ((P.mk g hg).2 a a9).mp ((bits a).mpr (Or.inl rfl))
      obtain ⟨w, w9, x1, x2, x3, x4, x5, x6, x7, x8, x9, x10, x11⟩ := P.trx dx hg lx
      have bx := (x11 x dx.2.2.1).mpr (Or.inr (Or.inl rfl))
      have bw := (x11 w w9).mpr (Or.inr (Or.inr rfl))
      rw [bits] at bx bw
      have no := P.ng x8 hg x10
      rcases bw with z | z | z
      · exact absurd z.symm x2
      · left
        subst z
        refine ⟨?_, no⟩
        rw [x6]
        rcases bx with y | y | y
        · exact absurd y x1
        · exact absurd y x3
        · exact y.symm
      · right
        subst z
        refine ⟨?_, no⟩
        rw [x6]
        rcases bx with y | y | y
        · exact absurd y x1
        · exact y.symm
        · exact absurd y x3
    · exfalso
      rcases h with ⟨y, _, _, h⟩ | h
      · have := (b3_of h (9 + i)).mpr (Or.inl rfl); omega
      · have := (b3_of h (9 + i)).mpr (Or.inl rfl); omega
  · -- a side and two rooms
    have ra : rmx m a := by obtain ⟨y, _, _, e⟩ := h1; rw [← e]; exact (P.wa _).1
    have rc := (P.w.ed ra hac).1
    have a9 := ra.1
    have c9 := rc.1
    have k1 : (K a).testBit c = true := (P.kn (by omega)).mpr (Or.inl ⟨ra, hac⟩)
    have k2 : (K a).testBit (9 + i) = true := (P.kn (by omega)).mpr (Or.inr (Or.inl ⟨i, i4, rfl, h1⟩))
    have k3 : (K c).testBit (9 + i) = true := (P.kn (by omega)).mpr (Or.inr (Or.inl ⟨i, i4, rfl, h2⟩))
    have ne := (P.w.ed ra hac).2.1
    rcases P.no3 (by omega) (by omega) (show 9 + i < 13 by omega) ne (by omega) (by omega) sy k1 k2 k3 with ⟨g, hg, eg⟩ | ⟨j, j4, ⟨y, y1, y2, h⟩ | h⟩
    · exfalso
      have : (Mk g).testBit (9 + i) = true := by rw [eg]; exact b3_t.mpr (Or.inr (Or.inr rfl))
      rw [tb_lt (k := 9) (P.mk g hg).1 (by omega)] at this
      exact absurd this (by decide)
    · have qy := q9 y
      have qz := q9 (y + 1)
      have f1 : wo B s t ((p 0 + y) % L) = qo B s t p y := P.wm _
      have f2 : wo B s t ((p 0 + (y + 1)) % L) = qo B s t p (y + 1) := P.wm _
      rw [f1, f2] at h
      have ij : i = j := by
        have := (b3_of h (9 + i)).mp (Or.inr (Or.inr rfl)); omega
      subst ij
      refine ⟨y, by rw [← P.fb i4]; exact y1, by rw [← P.tb i4]; exact y2, ?_⟩
      have b1 := (b3_of h a).mp (Or.inl rfl)
      have b2 := (b3_of h c).mp (Or.inr (Or.inl rfl))
      rcases b1 with b1 | b1 | b1
      · omega
      · rcases b2 with b2 | b2 | b2
        · omega
        · exact absurd (b1.symm.trans b2) ne
        · exact Or.inl ⟨b1.symm, b2.symm⟩
      · rcases b2 with b2 | b2 | b2
        · omega
        · exact Or.inr ⟨b2.symm, b1.symm⟩
        · exact absurd (b1.symm.trans b2) ne
    · exfalso
      have b1 := (b3_of h (9 + j)).mpr (Or.inl rfl)
      have b2 := (b3_of h (9 + (j + 1) % 4)).mpr (Or.inr (Or.inl rfl))
      omega
  · -- two sides and a room
    have ra : rmx m a := by obtain ⟨y, _, _, e⟩ := h1; rw [← e]; exact (P.wa _).1
    have a9 := ra.1
    have i4' : (i + 1) % 4 < 4 := Nat.mod_lt _ (by decide)
    have k1 : (K a).testBit (9 + i) = true := (P.kn (by omega)).mpr (Or.inr (Or.inl ⟨i, i4, rfl, h1⟩))
    have k2 : (K a).testBit (9 + (i + 1) % 4) = true := (P.kn (by omega)).mpr (Or.inr (Or.inl ⟨_, i4', rfl, h2⟩))
    have k3 : (K (9 + i)).testBit (9 + (i + 1) % 4) = true := (P.kn (by omega)).mpr (Or.inr (Or.inr (Or.inr ⟨i, _, i4, i4', rfl, rfl, Or.inl rfl⟩)))
    rcases P.no3 (show a < 13 by omega) (show 9 + i < 13 by omega) (show 9 + (i + 1) % 4 < 13 by omega) (by omega) (by omega) (by omega) sy k1 k2 k3 with ⟨g, hg, eg⟩ | ⟨j, j4, ⟨y, y1, y2, h⟩ | h⟩
    · exfalso
      have : (Mk g).testBit (9 + i) = true := by rw [eg]; exact b3_t.mpr (Or.inr (Or.inl rfl))
      rw [tb_lt (k := 9) (P.mk g hg).1 (by omega)] at this
      exact absurd this (by decide)
    · exfalso
      have qy := q9 y
      have qz := q9 (y + 1)
      have f1 : wo B s t ((p 0 + y) % L) = qo B s t p y := P.wm _
      have f2 : wo B s t ((p 0 + (y + 1)) % L) = qo B s t p (y + 1) := P.wm _
      rw [f1, f2] at h
      have b1 := (b3_of h (9 + i)).mp (Or.inr (Or.inl rfl))
      have b2 := (b3_of h (9 + (i + 1) % 4)).mp (Or.inr (Or.inr rfl))
      omega
    · have f1 : wo B s t ((p 0 + tom L p j) % L) = qo B s t p (tom L p j) := P.wm _
      have qt := q9 (tom L p j)
      rw [f1] at h
      have b1 := (b3_of h (9 + i)).mp (Or.inr (Or.inl rfl))
      have b2 := (b3_of h (9 + (i + 1) % 4)).mp (Or.inr (Or.inr rfl))
      have b3 := (b3_of h a).mp (Or.inl rfl)
      have ij : i = j := by omega
      subst ij
      rw [← P.tb i4]
      rcases b3 with z | z | z
      · omega
      · omega
      · exact z.symm
  · obtain ⟨r, hr, sr⟩ := hS
    exact fun r' hr' => P.cn S ⟨r, hr.1, hr.2, sr⟩ (fun i j hi hm si hij => cl i j ⟨hi, hm⟩ si hij) r' hr'.1 hr'.2
end PLS
end
section
-- faces, spanning, colours and ways of the plan's disc
section PLT
variable {σ : mm_S} {n m : Nat} {B : Nat → Nat → Nat} {s t L f : Nat} {Mk : Nat → Nat} {lab : Nat × Nat → Int32} {p K : Nat → Nat}
noncomputable def nrP (σ : mm_S) (m : Nat) (B : Nat → Nat → Nat) (s t L : Nat) (p : Nat → Nat) : Nat → Nat → Prop := nrx (rmx m) (aj σ) (qo B s t p) (bo4 L p)
noncomputable def BpP (B : Nat → Nat → Nat) (s t L : Nat) (p : Nat → Nat) : Nat → Nat → Nat := Bx B (qo B s t p) (bo4 L p) L
theorem PLD.gp (P : PLD σ n m B s t L f Mk lab p K) : GP (rmx m) (nrP σ m B s t L p) (BpP B s t L p) := P.dsk.gp
theorem PLD.ot (P : PLD σ n m B s t L f Mk lab p K) : OTa (rmx m) (nrP σ m B s t L p) (BpP B s t L p) L (qo B s t p) := P.dsk.ot
def lbP (lab : Nat × Nat → Int32) (a b : Nat) : Nat := (lab (a, b)).toNatClampNeg
theorem PLD.nra (P : PLD σ n m B s t L f Mk lab p K) {a b : Nat} (ha : rmx m a) (hb : rmx m b) (h : nrP σ m B s t L p a b) : aj σ a b := by
  rcases P.dsk.nrr ha h with k | ⟨s, _, e, _⟩
  · exact k
  · have := hb.1; omega
theorem PLD.fa (P : PLD σ n m B s t L f Mk lab p K) : ∃ A Bb C : Nat → Nat, FA (rmx m) (nrP σ m B s t L p) (BpP B s t L p) f A Bb C (lbP lab) ∧ ∀ g, g < f → ∀ r, r < 9 → ((Mk g).testBit r = true ↔ r = A g ∨ r = Bb g ∨ r = C g) := by
  have D := P.dsk
  obtain ⟨f42, l1, l2, l4⟩ := P.fl
  have pick : ∀ g, ∃ x : Nat × Nat, g < f → Dt σ m x ∧ lab x = nI g ∧ ∀ y, Dt σ m y → lab y = nI g → ∃ k, y = it (ph B) x k := fun g => by
    by_cases h : g < f
    · obtain ⟨x, hx⟩ := l4 g h; exact ⟨x, fun _ => hx⟩
    · exact ⟨(0, 0), fun z => absurd z h⟩
  obtain ⟨X, hX⟩ : ∃ X : Nat → Nat × Nat, ∀ g, g < f → Dt σ m (X g) ∧ lab (X g) = nI g ∧ ∀ y, Dt σ m y → lab y = nI g → ∃ k, y = it (ph B) (X g) k := ⟨fun g => (pick g).choose, fun g => (pick g).choose_spec⟩
  have T : ∀ g, g < f → ∃ c, c < 9 ∧ (X g).1 ≠ (X g).2 ∧ c ≠ (X g).1 ∧ c ≠ (X g).2 ∧ B (X g).2 (X g).1 = c ∧ B c (X g).2 = (X g).1 ∧ B (X g).1 c = (X g).2 ∧ Dt σ m ((X g).2, c) ∧ Dt σ m (c, (X g).1) ∧ lab ((X g).2, c) = nI g ∧ lab (c, (X g).1) = nI g ∧ ∀ r, r < 9 → ((Mk g).testBit r = true ↔ r = (X g).1 ∨ r = (X g).2 ∨ r = c) := fun g hg => P.trx (hX g hg).1 hg (hX g hg).2.1
  have clb : ∀ g, g < f → (nI g).toNatClampNeg = g := fun g hg => nI_clamp (by omega)
  refine ⟨fun g => (X g).1, fun g => (X g).2, fun g => B (X g).2 (X g).1, ⟨fun g hg => ?_, fun g hg a b h => ?_, fun a b ha hb h hc => ?_⟩, fun g hg r hr => ?_⟩
  · obtain ⟨hx, lx, _⟩ := hX g hg
    obtain ⟨c, c9, x1, x2, x3, x4, x5, x6, x7, x8, x9, x10, _⟩ := T g hg
    have r1 : rmx m (X g).1 := ⟨hx.1, hx.2.1⟩
    have e := P.w.ed r1 hx.2.2
    refine ⟨r1, e.1, by show rmx m (B (X g).2 (X g).1); rw [x4]; exact ⟨x8.1, x8.2.1⟩, Or.inl ⟨r1, hx.2.2⟩, ?_⟩
    exact D.x4 e.1 e.2.2.1 (P.ng hx hg lx)
  · obtain ⟨hx, lx, _⟩ := hX g hg
    obtain ⟨c, c9, x1, x2, x3, x4, x5, x6, x7, x8, x9, x10, _⟩ := T g hg
    rcases h with ⟨rfl, rfl⟩ | ⟨rfl, rfl⟩ | ⟨rfl, rfl⟩
    · show (lab ((X g).1, (X g).2)).toNatClampNeg = g
      rw [show lab ((X g).1, (X g).2) = nI g from lx]; exact clb g hg
    · show (lab ((X g).2, B (X g).2 (X g).1)).toNatClampNeg = g
      rw [x4, x9]; exact clb g hg
    · show (lab (B (X g).2 (X g).1, (X g).1)).toNatClampNeg = g
      rw [x4, x10]; exact clb g hg
  · have hab := P.nra ha hb h
    have d : Dt σ m (a, b) := ⟨ha.1, ha.2, hab⟩
    have no : ¬ outd (qo B s t p) a b := fun o => by
      obtain ⟨y, y1, y2, y3, y4⟩ := D.out1 o
      have x := D.x1 y1 y2
      rw [← y3, ← y4] at x
      have hc' : rmx m (Bx B (qo B s t p) (bo4 L p) L b a) := hc
      rw [x] at hc'
      have := hc'.1
      omega
    obtain ⟨g, hg, lg⟩ := P.lbg d no
    obtain ⟨hx, lx, al⟩ := hX g hg
    obtain ⟨c, c9, x1, x2, x3, x4, x5, x6, x7, x8, x9, x10, _⟩ := T g hg
    obtain ⟨k, ek⟩ := al _ d lg
    have three : ∀ k, it (ph B) (X g) k = ((X g).1, (X g).2) ∨ it (ph B) (X g) k = ((X g).2, c) ∨ it (ph B) (X g) k = (c, (X g).1) := fun k => by
      induction k with
      | zero => exact Or.inl rfl
      | succ k ih =>
        show ph B (it (ph B) (X g) k) = _ ∨ ph B (it (ph B) (X g) k) = _ ∨ ph B (it (ph B) (X g) k) = _
        rcases ih with e | e | e
        · right; left; rw [e]; show ((X g).2, B (X g).2 (X g).1) = _; rw [x4]
        · right; right; rw [e]; show (c, B c (X g).2) = _; rw [x5]
        · left; rw [e]; show ((X g).1, B (X g).1 c) = _; rw [x6]
    refine ⟨g, hg, ?_⟩
    have e := three k
    rw [← ek] at e
    show (a = (X g).1 ∧ b = (X g).2) ∨ (a = (X g).2 ∧ b = B (X g).2 (X g).1) ∨ (a = B (X g).2 (X g).1 ∧ b = (X g).1)
    rw [x4]
    rcases e with e | e | e
    · exact Or.inl ⟨congrArg Prod.fst e, congrArg Prod.snd e⟩
    · exact Or.inr (Or.inl ⟨congrArg Prod.fst e, congrArg Prod.snd e⟩)
    · exact Or.inr (Or.inr ⟨congrArg Prod.fst e, congrArg Prod.snd e⟩)
  · obtain ⟨c, _, _, _, _, x4, _, _, _, _, _, _, x11⟩ := T g hg
    show _ ↔ r = (X g).1 ∨ r = (X g).2 ∨ r = B (X g).2 (X g).1
    rw [x11 r hr, x4]
theorem PLD.trf (P : PLD σ n m B s t L f Mk lab p K) : TRf σ m B lab := fun x hx nx => by
  obtain ⟨g, hg, lg⟩ := (P.fl.2.2.1 x hx).resolve_left nx
  obtain ⟨c, c9, x1, x2, x3, x4, x5, x6, x7, x8, x9, x10, _⟩ := P.trx (a := x.1) (b := x.2) hx hg lg
  have e1 : ph B x = (x.2, c) := by show (x.2, B x.2 x.1) = _; rw [x4]
  have e2 : ph B (ph B x) = (c, x.1) := by rw [e1]; show (c, B c x.2) = _; rw [x5]
  refine ⟨by rw [e2]; show (x.1, B x.1 c) = x; rw [x6], ?_, ?_⟩
  · rw [e1]; exact fun z => x1 (congrArg Prod.fst z).symm
  · rw [e2]; exact fun z => x2 (congrArg Prod.fst z)
theorem PLD.pla (P : PLD σ n m B s t L f Mk lab p K) : PLa (rmx m) (nrP σ m B s t L p) (BpP B s t L p) := fun Gd sy con tri => by
  have D := P.dsk
  have all := peelo (Gd := Gd) P.w P.bn P.fl P.trf P.ws P.nt (fun x hx lx => by
    obtain ⟨k, _, e⟩ := (P.lo x hx).mp lx
    exact ⟨k, by rw [it_wo]; exact e⟩) sy (fun S hS cl => con S hS (fun i j hi si hj hij g => cl i j hi si (P.nra hi hj hij) g)) (fun x hx nx g1 g2 => by
    have r1 : rmx m x.1 := ⟨hx.1, hx.2.1⟩
    have e := P.w.ed r1 hx.2.2
    have no : ¬ outd (qo B s t p) x.1 x.2 := fun o => nx ((P.out (a := x.1) (c := x.2) hx).mpr o)
    have eb : BpP B s t L p x.2 x.1 = B x.2 x.1 := D.x4 e.1 e.2.2.1 no
    have rc : rmx m (B x.2 x.1) := (P.w.ed e.1 (P.bn _ _ e.1.1 e.1.2 e.2.2.1).2.1).1
    have t := (D.ti x.1 x.2 r1 hx.2.2 no).1
    have g2' : Gd (B x.2 x.1) (B (B x.2 x.1) x.2) := g2
    rw [t] at g2'
    exact tri x.1 x.2 r1 e.1 (Or.inl ⟨r1, hx.2.2⟩) (by rw [eb]; exact rc) (by rw [eb]; exact g1) (by rw [eb]; exact g2'))
  exact fun a b ha hb h => all a b ha (P.nra ha hb h)
theorem PLD.kpa (P : PLD σ n m B s t L f Mk lab p K) : KPa (rmx m) (aj σ) B (qo B s t p) := fun C sy sub ev => by
  have H : CE σ m (fun a b => C a b = true) := ⟨fun a b h => (sy b a).trans h, sub, fun z hz => by
    rw [← ev z hz]
    refine xf_cg 9 (fun j _ => ?_)
    show bo (C z j = true) = C z j
    cases hc : C z j with
    | true => exact bo_t.mpr rfl
    | false => exact bo_f.mpr (fun h => absurd h (by decide))⟩
  have bc' : ∀ a b, bo (C a b = true) = C a b := fun a b => by
    cases hc : C a b with
    | true => exact bo_t.mpr rfl
    | false => exact bo_f.mpr (fun h => absurd h (by decide))
  refine ⟨fun r v => kap σ (fun a b => C a b = true) (r, v), fun r v hr hv => ⟨?_, ?_⟩, fun y => ?_⟩
  · have := kap_nx P.w H hr (P.bn r v hr.1 hr.2 hv)
    rw [bc'] at this
    show xor (Qc σ _ r) (Tc σ _ r (B r v)) = xor (xor (Qc σ _ r) (Tc σ _ r v)) (C r v)
    rw [this]
    cases Qc σ (fun a b => C a b = true) r <;> cases Tc σ (fun a b => C a b = true) r v <;> cases C r v <;> rfl
  · have := kap_op P.w H hr hv
    rw [bc'] at this
    exact this
  · have := kap_it P.w H P.bn P.st.1 (p 0 + y)
    rw [it_wo] at this
    show kap σ _ (wo B s t (p 0 + y), wo B s t (p 0 + (y + 1))) = false
    rw [← Nat.add_assoc, this]
    exact kap_o P.w H P.ws P.nt
theorem PLD.lyt (P : PLD σ n m B s t L f Mk lab p K) {sd : Nat → Nat → Nat} (Y : LYa (rmx m) (nrP σ m B s t L p) (BpP B s t L p) sd) : LYT σ m sd := by
  have D := P.dsk
  have G := P.gp
  refine ⟨fun r w hr hw => ?_, fun r hr => ?_⟩
  · have e := P.w.ed hr hw
    exact ⟨Y.lt r w hr (Or.inl ⟨hr, hw⟩), Y.op r w hr e.1 (Or.inl ⟨hr, hw⟩)⟩
  · obtain ⟨w, dg, E, z0, mo⟩ := lay_enu G Y hr (show 0 < 4 by decide)
    obtain ⟨a1, a2, a3, a4, a5⟩ := E
    refine ⟨w, fun k => sd r (w k), dg, fun k _ => ?_, fun v hv => a5 v (Or.inl ⟨hr, hv⟩), a4, fun k _ => ⟨rfl, Y.lt r _ hr (a1 k).1⟩, fun k hk => ?_, fun q hq => ?_, fun C H k hk => ?_⟩
    · rcases D.nrr hr (a1 k).1 with h | ⟨i, i4, e, _⟩
      · exact Or.inl ⟨h.1, h⟩
      · exact Or.inr (by omega)
    · have := mo k hk
      have l1 := Y.lt r _ hr (a1 k).1
      have l2 := Y.lt r _ hr (a1 (k + 1)).1
      show sd r (w k) ≤ sd r (w (k + 1))
      omega
    · obtain ⟨v, nv, e, _⟩ := Y.on r q hr hq
      obtain ⟨k, hk, ek⟩ := a5 v nv
      exact ⟨k, hk, by show sd r (w k) = q; rw [ek]; exact e⟩
    · have outer : ∀ y, kap σ C (qo B s t p y, qo B s t p (y + 1)) = false := fun y => by
        have := kap_it P.w H P.bn P.st.1 (p 0 + y)
        rw [it_wo] at this
        show kap σ _ (wo B s t (p 0 + y), wo B s t (p 0 + (y + 1))) = false
        rw [← Nat.add_assoc, this]
        exact kap_o P.w H P.ws P.nt
      have inner : ∀ v, aj σ r v → ¬ outd (qo B s t p) v r → kp σ C r (BpP B s t L p r v) = xor (kp σ C r v) (bo (v < 9 ∧ C r v)) := fun v hv no => by
        have eb : BpP B s t L p r v = B r v := D.x4 hr hv no
        have nx := P.bn r v hr.1 hr.2 hv
        rw [eb]
        unfold kp
        rw [if_pos nx.2.1.1, if_pos hv.1]
        have := kap_nx P.w H hr nx
        show xor (Qc σ C r) (Tc σ C r (B r v)) = xor (xor (Qc σ C r) (Tc σ C r v)) (bo (v < 9 ∧ C r v))
        rw [this, bo_cg (show (v < 9 ∧ C r v) ↔ C r v from ⟨fun z => z.2, fun z => ⟨hv.1, z⟩⟩)]
        cases Qc σ C r <;> cases Tc σ C r v <;> cases bo (C r v) <;> rfl
      have side : ∀ i, kp σ C r (9 + i) = false := fun i => by unfold kp; rw [if_neg (by omega)]
      rw [(a1 k).2]
      by_cases on : ∃ y, 1 ≤ y ∧ y ≤ L ∧ r = qo B s t p y
      · obtain ⟨y, h1, h2, e⟩ := on
        have hv := (a1 k).1
        generalize w k = v at hv
        subst e
        rcases D.cs h1 h2 hv with c | ⟨c1, c2, _⟩ | ⟨j, hj, c⟩ | c
        · subst c
          have x : BpP B s t L p (qo B s t p y) (qo B s t p (y - 1)) = 9 + lo4 (bo4 L p) y := D.x1 h1 h2
          have q9 := D.q9 (y - 1)
          have pv := D.pv h1
          have rp : rmx m (qo B s t p (y - 1)) := (D.qr _).1
          have o := kap_op P.w H rp (P.w.ed hr pv.1).2.2.1
          have z := outer (y - 1)
          rw [show y - 1 + 1 = y by omega] at z
          rw [x, side]
          unfold kp
          rw [if_pos q9, o, z, bo_cg (show (qo B s t p (y - 1) < 9 ∧ C (qo B s t p y) (qo B s t p (y - 1))) ↔ C (qo B s t p (y - 1)) (qo B s t p y) from ⟨fun u => H.1 _ _ u.2, fun u => ⟨q9, H.1 _ _ u⟩⟩)]
          cases bo (C (qo B s t p (y - 1)) (qo B s t p y)) <;> rfl
        · exact inner v c1 c2
        · subst c
          have x : BpP B s t L p (qo B s t p y) (9 + (lo4 (bo4 L p) y + j) % 4) = 9 + (lo4 (bo4 L p) y + (j + 1)) % 4 := D.x2 h1 h2 hj
          rw [x, side, side, bo_f.mpr (fun z => by omega)]; rfl
        · subst c
          have x : BpP B s t L p (qo B s t p y) (9 + nlo (bo4 L p) L y % 4) = qo B s t p (y + 1) := D.x3 h1 h2
          rw [x, side, bo_f.mpr (fun z => by omega)]
          unfold kp
          rw [if_pos (D.q9 _), outer]; rfl
      · rcases D.nrr hr (a1 k).1 with h | ⟨i, i4, e, h⟩
        · exact inner _ h (fun o => by obtain ⟨y, y1, y2, y3, _⟩ := D.out1 o; exact on ⟨y, y1, y2, y3⟩)
        · exact absurd (D.at1 i4 h) on
theorem PLD.nqa (P : PLD σ n m B s t L f Mk lab p K) {sd : Nat → Nat → Nat} (Y : LYa (rmx m) (nrP σ m B s t L p) (BpP B s t L p) sd) : NQa (rmx m) (aj σ) sd := by
  have LT := P.lyt Y
  -- the least way that comes back
  have key : ∀ K, ∀ (q : Nat) (c : Nat → Nat), q < 4 → 1 ≤ K → c K = c 0 → (∀ i, i < K → rmx m (c i) ∧ aj σ (c i) (c (i + 1)) ∧ sd (c i) (c (i + 1)) = q) → False := by
    intro K
    induction K using Nat.strongRecOn with
    | ind K IH =>
      intro q c hq K1 cl st
      by_cases d : ∃ i j, i < j ∧ j < K ∧ c i = c j
      · obtain ⟨i, j, h1, h2, h3⟩ := d
        refine IH (j - i) (by omega) q (fun k => c (i + k)) hq (by omega) ?_ (fun k hk => ?_)
        · show c (i + (j - i)) = c (i + 0)
          rw [show i + (j - i) = j by omega, Nat.add_zero]; exact h3.symm
        · exact st (i + k) (by omega)
      · exact no_q P.w P.cn P.ws P.nt LT _ q K c ⟨K1, hq, cl, st, fun i j h1 h2 e => d ⟨i, j, h1, h2, e⟩⟩ (Nat.le_refl _)
  exact fun q K c h1 h2 h3 h4 => key K q c h1 h2 h3 h4
/-- there is a layout -/
theorem PLD.lay_ex (P : PLD σ n m B s t L f Mk lab p K) {A Bb C : Nat → Nat} (F : FA (rmx m) (nrP σ m B s t L p) (BpP B s t L p) f A Bb C (lbP lab)) : ∃ st, CHa (rmx m) (nrP σ m B s t L p) f A Bb C st := choice_ex P.gp F P.pla ⟨s, P.ws.1, P.ws.2.2.1⟩
end PLT
end

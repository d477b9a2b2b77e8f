-- a path from side to side parts the rooms
/-- every even set of joins colours the sectors around the rooms -/
def KPa (rm : Nat → Prop) (aj : Nat → Nat → Prop) (B : Nat → Nat → Nat) (q : Nat → Nat) : Prop := ∀ C : Nat → Nat → Bool, (∀ a b, C a b = C b a) → (∀ a b, C a b = true → rm a ∧ aj a b) → (∀ z, z < 9 → xf (fun j => C z j) 9 = false) → ∃ ka : Nat → Nat → Bool, (∀ r v, rm r → aj r v → ka r (B r v) = xor (ka r v) (C r v) ∧ ka v r = xor (ka r v) (C r v)) ∧ ∀ y, ka (q y) (q (y + 1)) = false
/-- the sides' bounds, going on behind one turn -/
def be (b : Nat → Nat) (L s : Nat) : Nat := b (s % 4) + L * (s / 4)
section PTH
variable {rm : Nat → Prop} {aj : Nat → Nat → Prop} {B : Nat → Nat → Nat} {q b : Nat → Nat} {L : Nat}
theorem DSK.qs (D : DSK rm aj B q b L) {a c : Nat} : q a = q c ↔ q (a + 1) = q (c + 1) := by
  have l3 := D.bm.2.2.2.2.2.2
  have p1 := D.qp 1
  rw [Nat.add_comm 1 L] at p1
  obtain ⟨x, x1, x2, x3, x4⟩ := D.nm a
  obtain ⟨y, y1, y2, y3, y4⟩ := D.nm c
  have eq : ∀ x y, 1 ≤ x → x ≤ L → 1 ≤ y → y ≤ L → q x = q y → x = y := fun x y x1 x2 y1 y2 e => by
    rcases D.same x2 y1 y2 e with k | k
    · exact k
    · omega
  constructor
  · intro e
    rw [← x4, ← y4, eq x y x1 x2 y1 y2 (by rw [x3, y3, e])]
  · intro e
    rw [← x4, ← y4] at e
    rw [← x3, ← y3]
    by_cases cx : x = L <;> by_cases cy : y = L
    · rw [cx, cy]
    · rw [cx, p1] at e
      have := eq 1 (y + 1) (by omega) (by omega) (by omega) (by omega) e
      omega
    · rw [cy, p1] at e
      have := eq (x + 1) 1 (by omega) (by omega) (by omega) (by omega) e
      omega
    · have := eq (x + 1) (y + 1) (by omega) (by omega) (by omega) (by omega) e
      rw [show x = y by omega]
theorem DSK.q3 (D : DSK rm aj B q b L) (y : Nat) : q y ≠ q (y + 2) := fun e => by
  have l3 := D.bm.2.2.2.2.2.2
  obtain ⟨x, x1, x2, x3, x4⟩ := D.nm y
  have e2 : q (x + 2) = q (y + 2) := D.qs.mp x4
  rw [← x3, ← e2] at e
  rcases Nat.lt_or_ge L (x + 2) with c | c
  · have p : q (x + 2 - L + L) = q (x + 2 - L) := D.qp _
    rw [show x + 2 - L + L = x + 2 by omega] at p
    rw [p] at e
    rcases D.same x2 (show 1 ≤ x + 2 - L by omega) (by omega) e with k | k <;> omega
  · exact D.qd x (x + 2) x1 (by omega) c e
theorem DSK.qm (D : DSK rm aj B q b L) (k : Nat) : ∀ y, q (y + L * k) = q y := fun y => by
  induction k with
  | zero => rfl
  | succ k ih => rw [Nat.mul_succ, ← Nat.add_assoc, D.qp, ih]
theorem DSK.q1 (D : DSK rm aj B q b L) {x y : Nat} (h : x < y) (k : y < x + L) : q x ≠ q y := fun e => by
  have : ∀ d x, q x = q (x + d) → q 1 = q (1 + d) := fun d x => by
    induction x with
    | zero => intro e; have := D.qs.mp e; rw [Nat.zero_add] at this; rw [show 1 + d = 0 + d + 1 by omega]; exact this
    | succ x ih => intro e; exact ih (D.qs.mpr (by rw [show x + d + 1 = x + 1 + d by omega]; exact e))
  have := this (y - x) x (by rw [show x + (y - x) = y by omega]; exact e)
  exact D.qd 1 (1 + (y - x)) (Nat.le_refl 1) (by omega) (by omega) this
/-- the colours of a path: left of it or not, and how they go on around a room -/
theorem path_mu (D : DSK rm aj B q b L) (KP : KPa rm aj B q) {c : Nat → Nat} {K y0 n t : Nat} (ht : t < 4) (st : ∀ i, i < K → rm (c i) ∧ aj (c i) (c (i + 1))) (r0 : c 0 = q y0) (rK : c K = q (y0 + n)) (s0 : nrs q b (c 0) ((t + 2) % 4)) (sK : nrs q b (c K) t) :
    ∃ mu : Nat → Nat → Bool, (∀ r v, rm r → nrx rm aj q b r v → mu r (Bx B q b L r v) = xor (mu r v) (if v < 9 then wk c K r v else xor (bo (v = 9 + t ∧ r = c K)) (bo (v = 9 + (t + 2) % 4 ∧ r = c 0)))) ∧ (∀ r v, rm r → aj r v → mu v r = xor (mu r v) (wk c K r v)) ∧ (∀ y, mu (q y) (q (y + 1)) = xf (fun i => bo (q (y0 + i) = q y)) n) ∧ (∀ y, 1 ≤ y → y ≤ L → mu (q y) (9 + lo4 b y) = xf (fun i => bo (q (y0 + i) = q (y - 1))) n) := by
  have c9 : ∀ i, i < K → c i < 9 ∧ c (i + 1) < 9 ∧ c i ≠ c (i + 1) := fun i hi => by
    obtain ⟨h1, h2⟩ := st i hi
    obtain ⟨h3, h4, _⟩ := D.ed _ _ h1 h2
    exact ⟨D.r9 _ h1, D.r9 _ h3, h4⟩
  have q9 : ∀ i, q (y0 + i) < 9 ∧ q (y0 + i + 1) < 9 ∧ q (y0 + i) ≠ q (y0 + i + 1) := fun i => ⟨D.q9 _, D.q9 _, (D.ed _ _ (D.qr _).1 (D.qr (y0 + i)).2.1).2.1⟩
  obtain ⟨X, hX⟩ : ∃ X : Nat → Nat, X = fun i => q (y0 + i) := ⟨_, rfl⟩
  obtain ⟨ka, k1, k2⟩ := KP (fun a e => xor (wk c K a e) (wk X n a e)) (fun a e => by
      show xor (wk c K a e) (wk X n a e) = xor (wk c K e a) (wk X n e a)
      rw [wk_sy, wk_sy (X := X)]) (fun a e h => by
      have h' : xor (wk c K a e) (wk X n a e) = true := h
      have one : ∀ (Z : Nat → Nat) N, (∀ i, i < N → rm (Z i) ∧ aj (Z i) (Z (i + 1))) → wk Z N a e = true → rm a ∧ aj a e := fun Z N hZ => by
        intro hw
        refine Classical.not_not.mp (fun no => ?_)
        have : wk Z N a e = false := xf_0 N (fun i hi => bo_f.mpr (fun z => no (by
          obtain ⟨z1, z2⟩ := hZ i hi
          rcases z with ⟨rfl, rfl⟩ | ⟨rfl, rfl⟩
          · exact ⟨z1, z2⟩
          · have := D.ed _ _ z1 z2; exact ⟨this.1, this.2.2⟩)))
        rw [this] at hw; exact absurd hw (by decide)
      cases h1 : wk c K a e with
      | true => exact one c K st h1
      | false =>
        rw [h1] at h'
        refine one X n (fun i _ => ?_) (by cases h2 : wk X n a e with
          | true => rfl
          | false => rw [h2] at h'; exact absurd h' (by decide))
        rw [hX]; exact ⟨(D.qr _).1, (D.qr _).2.1⟩) (fun z _ => by
      have e1 := wk_ev (X := c) (z := z) K c9
      have e2 := wk_ev (X := X) (z := z) n (fun i _ => by rw [hX]; exact q9 i)
      show xf (fun j => xor (wk c K z j) (wk X n z j)) 9 = false
      rw [xf_x, e1, e2, hX, r0, rK]
      show xor _ (xor (bo (z = q (y0 + 0))) (bo (z = q (y0 + n)))) = false
      rw [Nat.add_zero]
      cases bo (z = q y0) <;> cases bo (z = q (y0 + n)) <;> rfl)
  obtain ⟨ar, har⟩ : ∃ ar : Nat → Nat → Bool, ar = fun r v => xf (fun i => bo (r = q (y0 + i) ∧ v = q (y0 + i + 1))) n := ⟨_, rfl⟩
  have arX : ∀ a e, wk X n a e = xor (ar a e) (ar e a) := fun a e => by
    rw [har]
    show _ = xor (xf _ n) (xf _ n)
    rw [← xf_x]
    refine xf_cg n (fun i _ => ?_)
    rw [hX]
    show bo ((a = q (y0 + i) ∧ e = q (y0 + (i + 1))) ∨ (a = q (y0 + (i + 1)) ∧ e = q (y0 + i))) = _
    rw [← Nat.add_assoc]
    have ne := (q9 i).2.2
    by_cases x : a = q (y0 + i) ∧ e = q (y0 + i + 1)
    · rw [bo_t.mpr (Or.inl x), bo_t.mpr x, bo_f.mpr (fun y => ne (y.1.symm.trans x.2).symm.symm)]; rfl
    · by_cases y : e = q (y0 + i) ∧ a = q (y0 + i + 1)
      · rw [bo_t.mpr (Or.inr ⟨y.2, y.1⟩), bo_f.mpr x, bo_t.mpr y]; rfl
      · rw [bo_f.mpr (fun z => z.elim x (fun z => y ⟨z.2, z.1⟩)), bo_f.mpr x, bo_f.mpr y]; rfl
  have ar_o : ∀ r v, ¬ outd q r v → ar r v = false := fun r v no => by
    rw [har]; exact xf_0 n (fun i _ => bo_f.mpr (fun z => no ⟨y0 + i, z.1, z.2⟩))
  have ar_i : ∀ y, ar (q y) (q (y + 1)) = xf (fun i => bo (q (y0 + i) = q y)) n := fun y => by
    rw [har]
    exact xf_cg n (fun i _ => bo_cg ⟨fun z => z.1.symm, fun z => ⟨z.symm, (D.qs.mp z).symm⟩⟩)
  have nback : ∀ y, ¬ outd q (q (y + 1)) (q y) := fun y ⟨z, e1, e2⟩ => by
    have := D.qs.mp e1
    rw [← e2] at this
    exact D.q3 y this.symm
  obtain ⟨la, hla⟩ : ∃ la : Nat → Nat → Bool, la = fun r v => xor (ka r v) (ar r v) := ⟨_, rfl⟩
  have la1 : ∀ r v, rm r → aj r v → la v r = xor (la r v) (wk c K r v) := fun r v hr hv => by
    rw [hla]
    show xor (ka v r) (ar v r) = xor (xor (ka r v) (ar r v)) (wk c K r v)
    rw [(k1 r v hr hv).2]
    show xor (xor (ka r v) (xor (wk c K r v) (wk X n r v))) (ar v r) = _
    rw [arX]
    cases ka r v <;> cases wk c K r v <;> cases ar r v <;> cases ar v r <;> rfl
  have la2 : ∀ r v, rm r → aj r v → ¬ outd q v r → la r (B r v) = xor (la r v) (wk c K r v) := fun r v hr hv no => by
    have nb : ¬ outd q r (B r v) := fun ⟨z, e1, e2⟩ => by
      obtain ⟨y, y1, y2, y3, y4⟩ := D.nm z
      have p := D.pv y1
      rw [e1, ← y3] at hr hv e2
      rw [← y4, ← p.2.2] at e2
      have := D.ij _ _ _ hr hv p.1 e2
      exact no (by rw [this, e1, ← y3]; exact p.2.1)
    rw [hla]
    show xor (ka r (B r v)) (ar r (B r v)) = xor (xor (ka r v) (ar r v)) (wk c K r v)
    rw [(k1 r v hr hv).1, ar_o _ _ nb]
    show xor (xor (ka r v) (xor (wk c K r v) (wk X n r v))) false = _
    rw [arX, ar_o _ _ no]
    cases ka r v <;> cases wk c K r v <;> cases ar r v <;> rfl
  have la3 : ∀ y, la (q y) (q (y + 1)) = xf (fun i => bo (q (y0 + i) = q y)) n := fun y => by
    rw [hla]
    show xor (ka (q y) (q (y + 1))) (ar (q y) (q (y + 1))) = _
    rw [k2, ar_i]
    cases xf (fun i => bo (q (y0 + i) = q y)) n <;> rfl
  have la4 : ∀ y, 1 ≤ y → xor (la (q y) (q (y - 1))) (wk c K (q y) (q (y - 1))) = xf (fun i => bo (q (y0 + i) = q (y - 1))) n := fun y h1 => by
    have r := D.qr (y - 1)
    have x := la1 _ _ r.1 r.2.1
    rw [show y - 1 + 1 = y by omega] at x
    have z := la3 (y - 1)
    rw [show y - 1 + 1 = y by omega] at z
    rw [x, z, wk_sy]
    cases xf (fun i => bo (q (y0 + i) = q (y - 1))) n <;> cases wk c K (q y) (q (y - 1)) <;> rfl
  -- along the sides of a place
  obtain ⟨Pp, hPp⟩ : ∃ Pp : Nat → Nat → Bool, Pp = fun r v => if v < 9 then wk c K r v else xor (bo (v = 9 + t ∧ r = c K)) (bo (v = 9 + (t + 2) % 4 ∧ r = c 0)) := ⟨_, rfl⟩
  have Pr : ∀ r v, v < 9 → Pp r v = wk c K r v := fun r v h => by rw [hPp]; exact if_pos h
  have Ps : ∀ r s, Pp r (9 + s) = xor (bo (s = t ∧ r = c K)) (bo (s = (t + 2) % 4 ∧ r = c 0)) := fun r s => by
    rw [hPp]
    show (if 9 + s < 9 then _ else _) = _
    rw [if_neg (by omega)]
    congr 1
    · exact bo_cg ⟨fun z => ⟨by omega, z.2⟩, fun z => ⟨by omega, z.2⟩⟩
    · exact bo_cg ⟨fun z => ⟨by omega, z.2⟩, fun z => ⟨by omega, z.2⟩⟩
  obtain ⟨mu, hmu⟩ : ∃ mu : Nat → Nat → Bool, mu = fun r v => if v < 9 then la r v else xor (xf (fun i => bo (q (y0 + i) = q (psn q L r - 1))) n) (xf (fun i => Pp r (9 + (lo4 b (psn q L r) + i) % 4)) ((v - 9 + 4 - lo4 b (psn q L r)) % 4)) := ⟨_, rfl⟩
  have mr : ∀ r v, v < 9 → mu r v = la r v := fun r v h => by rw [hmu]; exact if_pos h
  have ms : ∀ y j, 1 ≤ y → y ≤ L → j < 4 → mu (q y) (9 + (lo4 b y + j) % 4) = xor (xf (fun i => bo (q (y0 + i) = q (y - 1))) n) (xf (fun i => Pp (q y) (9 + (lo4 b y + i) % 4)) j) := fun y j h1 h2 hj => by
    rw [hmu]
    show (if 9 + (lo4 b y + j) % 4 < 9 then _ else _) = _
    have l4 := lo4_4 b y
    rw [if_neg (by omega), D.ps h1 h2, show (9 + (lo4 b y + j) % 4 - 9 + 4 - lo4 b y) % 4 = j by omega]
  -- how the arc's ends show
  have tel : ∀ y, 1 ≤ y → xor (xf (fun i => bo (q (y0 + i) = q (y - 1))) n) (xf (fun i => bo (q (y0 + i) = q y)) n) = xor (bo (q y = q y0)) (bo (q y = q (y0 + n))) := fun y h1 => by
    have : ∀ N, xor (xf (fun i => bo (q (y0 + i) = q (y - 1))) N) (xf (fun i => bo (q (y0 + i) = q y)) N) = xor (bo (q y = q y0)) (bo (q y = q (y0 + N))) := fun N => by
      induction N with
      | zero => show xor false false = _; rw [Nat.add_zero]; cases bo (q y = q y0) <;> rfl
      | succ N ih =>
        show xor (xor (xf _ N) (bo (q (y0 + N) = q (y - 1)))) (xor (xf _ N) (bo (q (y0 + N) = q y))) = _
        have e1 : bo (q (y0 + N) = q (y - 1)) = bo (q y = q (y0 + (N + 1))) := bo_cg ⟨fun z => by have := D.qs.mp z; rw [show y - 1 + 1 = y by omega] at this; rw [← Nat.add_assoc]; exact this.symm, fun z => D.qs.mpr (by rw [show y - 1 + 1 = y by omega]; rw [← Nat.add_assoc] at z; exact z.symm)⟩
        have e2 : bo (q (y0 + N) = q y) = bo (q y = q (y0 + N)) := bo_cg ⟨fun z => z.symm, fun z => z.symm⟩
        rw [e1, e2]
        revert ih
        generalize xf (fun i => bo (q (y0 + i) = q (y - 1))) N = u1
        generalize xf (fun i => bo (q (y0 + i) = q y)) N = u2
        generalize bo (q y = q y0) = u3
        generalize bo (q y = q (y0 + N)) = u4
        generalize bo (q y = q (y0 + (N + 1))) = u5
        cases u1 <;> cases u2 <;> cases u3 <;> cases u4 <;> cases u5 <;> decide
    exact this n
  refine ⟨mu, fun r v hr hv => ?_, fun r v hr hv => ?_, fun y => ?_, fun y h1 h2 => ?_⟩
  · have goal : mu r (Bx B q b L r v) = xor (mu r v) (Pp r v) := by
      have inner : ∀ v, aj r v → ¬ outd q v r → mu r (Bx B q b L r v) = xor (mu r v) (Pp r v) := fun v hv no => by
        have v9 := D.r9 _ (D.ed _ _ hr hv).1
        have w9 := D.r9 _ (D.ed _ _ hr (D.nx _ _ hr hv)).1
        rw [D.x4 hr hv no, mr _ _ w9, mr _ _ v9, Pr _ _ v9]
        exact la2 r v hr hv no
      by_cases on : ∃ y, 1 ≤ y ∧ y ≤ L ∧ r = q y
      · obtain ⟨y, h1, h2, e⟩ := on
        subst e
        obtain ⟨f1, f2, f3, f4⟩ := D.fs h1 h2
        have l4 := lo4_4 b y
        rcases D.cs h1 h2 hv with cc | ⟨c1, c2, _⟩ | ⟨j, hj, cc⟩ | cc
        · subst cc
          have x := ms y 0 h1 h2 (by decide)
          rw [Nat.add_zero, Nat.mod_eq_of_lt l4] at x
          rw [D.x1 h1 h2, x, mr _ _ (D.q9 _), Pr _ _ (D.q9 _), la4 y h1]
          show xor _ false = _
          cases xf (fun i => bo (q (y0 + i) = q (y - 1))) n <;> rfl
        · exact inner v c1 c2
        · subst cc
          rw [D.x2 h1 h2 hj, ms y (j + 1) h1 h2 (by omega), ms y j h1 h2 (by omega)]
          show xor _ (xor (xf _ j) (Pp (q y) (9 + (lo4 b y + j) % 4))) = _
          generalize xf (fun i => bo (q (y0 + i) = q (y - 1))) n = u1
          generalize xf (fun i => Pp (q y) (9 + (lo4 b y + i) % 4)) j = u2
          generalize Pp (q y) (9 + (lo4 b y + j) % 4) = u3
          cases u1 <;> cases u2 <;> cases u3 <;> rfl
        · subst cc
          have x := ms y (nlo b L y - lo4 b y) h1 h2 (by omega)
          rw [show lo4 b y + (nlo b L y - lo4 b y) = nlo b L y by omega] at x
          rw [D.x3 h1 h2, mr _ _ (D.q9 _), la3, x]
          -- all flips of the sides together
          have all : xor (xf (fun i => Pp (q y) (9 + (lo4 b y + i) % 4)) (nlo b L y - lo4 b y)) (Pp (q y) (9 + nlo b L y % 4)) = xor (bo (q y = c K)) (bo (q y = c 0)) := by
            have e1 : xor (xf (fun i => Pp (q y) (9 + (lo4 b y + i) % 4)) (nlo b L y - lo4 b y)) (Pp (q y) (9 + nlo b L y % 4)) = xf (fun i => Pp (q y) (9 + (lo4 b y + i) % 4)) (nlo b L y - lo4 b y + 1) := by
              show _ = xor (xf _ _) (Pp (q y) (9 + (lo4 b y + (nlo b L y - lo4 b y)) % 4))
              rw [show lo4 b y + (nlo b L y - lo4 b y) = nlo b L y by omega]
            rw [e1, xf_cg _ (fun i _ => Ps (q y) ((lo4 b y + i) % 4)), xf_x]
            have side : ∀ s x, s < 4 → nrs q b x s → xf (fun i => bo ((lo4 b y + i) % 4 = s ∧ q y = x)) (nlo b L y - lo4 b y + 1) = bo (q y = x) := fun s x s4 hx => by
              by_cases ex : q y = x
              · rw [bo_t.mpr ex]
                rw [← ex] at hx
                obtain ⟨j, hj, ej⟩ := (f3 s s4).mp hx
                rw [xf_1 (i := j) _ (by omega) (fun i hi ni => bo_f.mpr (fun z => by omega)), bo_t.mpr ⟨ej.symm, ex⟩]
              · rw [bo_f.mpr ex]
                exact xf_0 _ (fun i _ => bo_f.mpr (fun z => ex z.2))
            rw [side t (c K) ht sK, side ((t + 2) % 4) (c 0) (Nat.mod_lt _ (by decide)) s0]
          have tl := tel y h1
          rw [← r0, ← rK] at tl
          revert all tl
          generalize xf (fun i => bo (q (y0 + i) = q (y - 1))) n = u1
          generalize xf (fun i => bo (q (y0 + i) = q y)) n = u2
          generalize xf (fun i => Pp (q y) (9 + (lo4 b y + i) % 4)) (nlo b L y - lo4 b y) = u3
          generalize Pp (q y) (9 + nlo b L y % 4) = u4
          generalize bo (q y = c K) = u5
          generalize bo (q y = c 0) = u6
          cases u1 <;> cases u2 <;> cases u3 <;> cases u4 <;> cases u5 <;> cases u6 <;> decide
      · rcases D.nrr hr hv with k | ⟨s, s4, e, k⟩
        · exact inner v k (fun o => by obtain ⟨y, y1, y2, y3, _⟩ := D.out1 o; exact on ⟨y, y1, y2, y3⟩)
        · exact absurd (D.at1 s4 k) on
    rw [goal, hPp]
  · have v9 := D.r9 _ (D.ed _ _ hr hv).1
    rw [mr _ _ (D.r9 _ hr), mr _ _ v9]
    exact la1 r v hr hv
  · rw [mr _ _ (D.q9 _)]; exact la3 y
  · have x := ms y 0 h1 h2 (by decide)
    rw [Nat.add_zero, Nat.mod_eq_of_lt (lo4_4 b y)] at x
    rw [x]
    show xor _ false = _
    cases xf (fun i => bo (q (y0 + i) = q (y - 1))) n <;> rfl
end PTH

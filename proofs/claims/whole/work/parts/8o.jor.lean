-- a closed line parts the faces in two colours
noncomputable def uL (X Y : Nat → Int) (C : Nat → Nat → Prop) (u v : Nat) : Bool := xf (fun a => xf (fun b => bo (C a b ∧ X a < X b ∧ X a < X v ∧ X u < X b ∧ ¬ (a = u ∧ b = v) ∧ LCx X Y u v a b ∧ ¬ X u < X a)) 9) 9
noncomputable def uR (X Y : Nat → Int) (C : Nat → Nat → Prop) (u v : Nat) : Bool := xf (fun a => xf (fun b => bo (C a b ∧ X a < X b ∧ X a < X v ∧ X u < X b ∧ ¬ (a = u ∧ b = v) ∧ RCx X Y u v a b ∧ ¬ X b < X v)) 9) 9
theorem xor_f {a b : Bool} (h : xor a b = false) : a = b := by cases a <;> cases b <;> first | rfl | exact absurd h (by decide)
theorem xf2_cg {f g : Nat → Nat → Bool} (h : ∀ a b, a < 9 → b < 9 → f a b = g a b) : xf (fun a => xf (fun b => f a b) 9) 9 = xf (fun a => xf (fun b => g a b) 9) 9 :=
  xf_cg 9 (fun a ha => xf_cg 9 (fun b hb => h a b ha hb))
theorem xf2_x {f g : Nat → Nat → Bool} : xf (fun a => xf (fun b => xor (f a b) (g a b)) 9) 9 = xor (xf (fun a => xf (fun b => f a b) 9) 9) (xf (fun a => xf (fun b => g a b) 9) 9) := by
  rw [← xf_x]
  exact xf_cg 9 (fun a _ => xf_x 9)
theorem sweep {X Y : Nat → Int} {C : Nat → Nat → Prop} {u v : Nat} (huv : X u < X v) (sy : ∀ a b, C a b → C b a) (xi : ∀ a b, C a b → X a ≠ X b) (xu : ∀ a b, C a b → (a = u ∨ X a ≠ X u) ∧ (a = v ∨ X a ≠ X v)) (ev : ∀ z, z < 9 → xf (fun j => bo (C z j)) 9 = false)
    (n1 : ∀ a b, C a b → X a < X u → X u < X b → orn X Y a b u ≠ 0) (n3 : ∀ a b, C a b → X a < X v → X v < X b → orn X Y a b v ≠ 0) (n2 : ∀ a b, C a b → X u < X a → X a < X v → orn X Y u v a ≠ 0) (nc : ∀ a b, C a b → X a < X b → ¬ crs X Y a b u v) : uL X Y C u v = uR X Y C u v := by
  apply xor_f
  unfold uL uR
  rw [← xf2_x]
  have lr : ∀ a b, C a b → X a < X b → X a < X v → X u < X b → ¬ (a = u ∧ b = v) → (LCx X Y u v a b ↔ RCx X Y u v a b) := fun a b hC h1 h2 h3 h4 =>
    LR h1 huv h2 h3 h4 (xu a b hC).1 (xu b a (sy a b hC)).2 (fun h => n1 a b hC h h3) (fun h => n2 a b hC h h2) (fun h => n3 a b hC h2 h) (fun h => n2 b a (sy a b hC) h3 h) (nc a b hC h1)
  -- what lies between
  have zin : ∀ a b, a < 9 → b < 9 → xor (bo (C a b ∧ X a < X b ∧ X a < X v ∧ X u < X b ∧ ¬ (a = u ∧ b = v) ∧ LCx X Y u v a b ∧ ¬ X u < X a)) (bo (C a b ∧ X a < X b ∧ X a < X v ∧ X u < X b ∧ ¬ (a = u ∧ b = v) ∧ RCx X Y u v a b ∧ ¬ X b < X v)) = xor (bo (X u < X a ∧ X a < X v ∧ 0 < orn X Y u v a) && bo (C a b ∧ X a < X b)) (bo (X u < X b ∧ X b < X v ∧ 0 < orn X Y u v b) && bo (C a b ∧ X a < X b)) := fun a b _ _ => by
    rw [← bo_and, ← bo_and]
    by_cases hE : C a b ∧ X a < X b ∧ X a < X v ∧ X u < X b ∧ ¬ (a = u ∧ b = v)
    · obtain ⟨e1, e2, e3, e4, e5⟩ := hE
      have q := lr a b e1 e2 e3 e4 e5
      have f1 : ((X u < X a ∧ X a < X v ∧ 0 < orn X Y u v a) ∧ C a b ∧ X a < X b) ↔ (LCx X Y u v a b ∧ X u < X a) := by
        constructor
        · rintro ⟨⟨h1, _, h3⟩, _⟩; exact ⟨Or.inr (Or.inr ⟨h1, h3⟩), h1⟩
        · rintro ⟨h, h1⟩
          rcases h with h | h | h
          · omega
          · rw [h.1] at h1; omega
          · exact ⟨⟨h1, e3, h.2⟩, e1, e2⟩
      have f2 : ((X u < X b ∧ X b < X v ∧ 0 < orn X Y u v b) ∧ C a b ∧ X a < X b) ↔ (LCx X Y u v a b ∧ X b < X v) := by
        rw [q]
        constructor
        · rintro ⟨⟨_, h2, h3⟩, _⟩; exact ⟨Or.inr (Or.inr ⟨h2, h3⟩), h2⟩
        · rintro ⟨h, h1⟩
          rcases h with h | h | h
          · omega
          · rw [h.1] at h1; omega
          · exact ⟨⟨e4, h1, h.2⟩, e1, e2⟩
      have f3 : (C a b ∧ X a < X b ∧ X a < X v ∧ X u < X b ∧ ¬ (a = u ∧ b = v) ∧ LCx X Y u v a b ∧ ¬ X u < X a) ↔ (LCx X Y u v a b ∧ ¬ X u < X a) := ⟨fun h => h.2.2.2.2.2, fun h => ⟨e1, e2, e3, e4, e5, h⟩⟩
      have f4 : (C a b ∧ X a < X b ∧ X a < X v ∧ X u < X b ∧ ¬ (a = u ∧ b = v) ∧ RCx X Y u v a b ∧ ¬ X b < X v) ↔ (LCx X Y u v a b ∧ ¬ X b < X v) := by rw [q]; exact ⟨fun h => h.2.2.2.2.2, fun h => ⟨e1, e2, e3, e4, e5, h⟩⟩
      rw [bo_cg f1, bo_cg f2, bo_cg f3, bo_cg f4, bo_and, bo_and, bo_and, bo_and]
      have g1 : bo (¬ X u < X a) = !bo (X u < X a) := by
        by_cases h : X u < X a
        · rw [bo_t.mpr h, bo_f.mpr (fun z => z h)]; rfl
        · rw [bo_f.mpr h, bo_t.mpr h]; rfl
      have g2 : bo (¬ X b < X v) = !bo (X b < X v) := by
        by_cases h : X b < X v
        · rw [bo_t.mpr h, bo_f.mpr (fun z => z h)]; rfl
        · rw [bo_f.mpr h, bo_t.mpr h]; rfl
      rw [g1, g2]
      cases bo (LCx X Y u v a b) <;> cases bo (X u < X a) <;> cases bo (X b < X v) <;> rfl
    · have f3 : ¬ (C a b ∧ X a < X b ∧ X a < X v ∧ X u < X b ∧ ¬ (a = u ∧ b = v) ∧ LCx X Y u v a b ∧ ¬ X u < X a) := fun h => hE ⟨h.1, h.2.1, h.2.2.1, h.2.2.2.1, h.2.2.2.2.1⟩
      have f4 : ¬ (C a b ∧ X a < X b ∧ X a < X v ∧ X u < X b ∧ ¬ (a = u ∧ b = v) ∧ RCx X Y u v a b ∧ ¬ X b < X v) := fun h => hE ⟨h.1, h.2.1, h.2.2.1, h.2.2.2.1, h.2.2.2.2.1⟩
      have f1 : ¬ ((X u < X a ∧ X a < X v ∧ 0 < orn X Y u v a) ∧ C a b ∧ X a < X b) := fun h => hE ⟨h.2.1, h.2.2, h.1.2.1, by have := h.1.1; have := h.2.2; omega, fun z => by rw [z.1] at h; have := h.1.1; omega⟩
      have f2 : ¬ ((X u < X b ∧ X b < X v ∧ 0 < orn X Y u v b) ∧ C a b ∧ X a < X b) := fun h => hE ⟨h.2.1, h.2.2, by have := h.1.2.1; have := h.2.2; omega, h.1.1, fun z => by rw [z.2] at h; have := h.1.2.1; omega⟩
      rw [bo_f.mpr f1, bo_f.mpr f2, bo_f.mpr f3, bo_f.mpr f4]
  rw [xf2_cg zin, xf2_x]
  -- both as sums over the rooms between
  have s1 : xf (fun a => xf (fun b => (bo (X u < X a ∧ X a < X v ∧ 0 < orn X Y u v a) && bo (C a b ∧ X a < X b))) 9) 9 = xf (fun z => (bo (X u < X z ∧ X z < X v ∧ 0 < orn X Y u v z) && xf (fun b => bo (C z b ∧ X z < X b)) 9)) 9 := xf_cg 9 (fun a _ => xf_and 9)
  have s2 : xf (fun a => xf (fun b => (bo (X u < X b ∧ X b < X v ∧ 0 < orn X Y u v b) && bo (C a b ∧ X a < X b))) 9) 9 = xf (fun z => (bo (X u < X z ∧ X z < X v ∧ 0 < orn X Y u v z) && xf (fun a => bo (C a z ∧ X a < X z)) 9)) 9 := by
    rw [xf_sw]; exact xf_cg 9 (fun z _ => xf_and 9)
  rw [s1, s2, ← xf_x]
  refine xf_0 9 (fun z hz => ?_)
  have d : xor (xf (fun b => bo (C z b ∧ X z < X b)) 9) (xf (fun a => bo (C a z ∧ X a < X z)) 9) = false := by
    rw [← xf_x, ← ev z hz]
    refine xf_cg 9 (fun j _ => ?_)
    by_cases h : C z j
    · have h' := sy z j h
      have hx := xi z j h
      rcases Int.lt_or_gt_of_ne hx with k | k
      · rw [bo_t.mpr ⟨h, k⟩, bo_f.mpr (fun y => by have := y.2; omega), bo_t.mpr h]; rfl
      · rw [bo_f.mpr (fun y => by have := y.2; omega), bo_t.mpr ⟨h', k⟩, bo_t.mpr h]; rfl
    · rw [bo_f.mpr (fun y => h y.1), bo_f.mpr (fun y => h (sy j z y.1)), bo_f.mpr h]; rfl
  cases bo (X u < X z ∧ X z < X v ∧ 0 < orn X Y u v z)
  · rfl
  · exact d
/-! the sketch -/
def xs (σ : mm_S) (i : Nat) : Int := 64 * pX σ i + pY σ i
theorem xs_orn {σ : mm_S} {a b c : Nat} : orn (xs σ) (pY σ) a b c = 64 * gcr (vc σ a b) (vc σ a c) := by
  unfold orn xs gcr vc; grind
/-- nothing crosses, no room lies on a join -/
def PW (σ : mm_S) (n m : Nat) : Prop := CK σ n m ∧ NC σ n ∧ ∀ e i, e < n → i < 9 → ¬ clx σ e i
def rmx (m i : Nat) : Prop := i < 9 ∧ m.testBit i = true
theorem PW.xi {σ : mm_S} {n m i j : Nat} (W : PW σ n m) (hi : rmx m i) (hj : rmx m j) (h : xs σ i = xs σ j) : i = j := by
  have g1 := W.1.xy i hi.1 hi.2
  have g2 := W.1.xy j hj.1 hj.2
  unfold cG at g1 g2
  unfold xs at h
  exact W.1.ds i j hi.1 hj.1 hi.2 hj.2 (by omega) (by omega)
theorem PW.ed {σ : mm_S} {n m a b : Nat} (W : PW σ n m) (ha : rmx m a) (h : aj σ a b) : rmx m b ∧ a ≠ b ∧ aj σ b a ∧ ∃ e, e < n ∧ ((σ 16 e = nI a ∧ σ 17 e = nI b) ∨ (σ 16 e = nI b ∧ σ 17 e = nI a)) := by
  obtain ⟨b9, mb, ne⟩ := W.1.aj_dr ha.1 ha.2 h
  obtain ⟨e, he, q, _⟩ := (W.1.ja a b ha.1 ha.2).mp h
  exact ⟨⟨b9, mb⟩, fun z => ne z.symm, W.1.aj_sym ha.1 ha.2 h, e, he, q⟩
theorem lon_sw {σ : mm_S} {z a b : Nat} (h : lon σ z a b) : lon σ z b a := by
  obtain ⟨h1, h2, h3, h4, h5⟩ := h
  refine ⟨h2, h1, ?_, ?_, ?_⟩
  · have : gcr (vc σ b a) (vc σ b z) = - gcr (vc σ a b) (vc σ a z) := by unfold gcr vc; grind
    rw [this, h3]; rfl
  · rcases h4 with h | h
    · exact Or.inr h
    · exact Or.inl h
  · rcases h5 with h | h
    · exact Or.inr h
    · exact Or.inl h
theorem PW.on {σ : mm_S} {n m a b z : Nat} (W : PW σ n m) (ha : rmx m a) (hab : aj σ a b) (hz : rmx m z) (h1 : xs σ a < xs σ z) (h2 : xs σ z < xs σ b) : orn (xs σ) (pY σ) a b z ≠ 0 := fun h0 => by
  obtain ⟨hb, ne, _, e, he, ends⟩ := W.ed ha hab
  have n21 := W.1.jn.1
  rw [xs_orn] at h0
  have g0 : gcr (vc σ a b) (vc σ a z) = 0 := by omega
  have za : z ≠ a := fun q => by rw [q] at h1; omega
  have zb : z ≠ b := fun q => by rw [q] at h2; omega
  have hD : 0 < 64 * (vc σ a b).1 + (vc σ a b).2 := by unfold xs at h1 h2; show 0 < 64 * (pX σ b - pX σ a) + (pY σ b - pY σ a); omega
  have hT : 0 < 64 * (vc σ a z).1 + (vc σ a z).2 := by unfold xs at h1 h2; show 0 < 64 * (pX σ z - pX σ a) + (pY σ z - pY σ a); omega
  have hTD : 64 * (vc σ a z).1 + (vc σ a z).2 ≤ 64 * (vc σ a b).1 + (vc σ a b).2 := by unfold xs at h1 h2; show 64 * (pX σ z - pX σ a) + (pY σ z - pY σ a) ≤ 64 * (pX σ b - pX σ a) + (pY σ b - pY σ a); omega
  unfold gcr at g0
  have q1 : (64 * (vc σ a b).1 + (vc σ a b).2) * (vc σ a z).1 = (64 * (vc σ a z).1 + (vc σ a z).2) * (vc σ a b).1 := by grind
  have q2 : (64 * (vc σ a b).1 + (vc σ a b).2) * (vc σ a z).2 = (64 * (vc σ a z).1 + (vc σ a z).2) * (vc σ a b).2 := by grind
  have L := (lon_of (σ := σ) (i := a) (j := z) (k := b) za zb (by unfold gcr; grind) ⟨gbt1 hD hT hTD q1, gbt1 hD hT hTD q2⟩).1
  have L' := lon_sw L
  have xz : ¬ xd σ (nI z) = 0 := fun q => by
    have := (W.1.dr z hz.1).mpr hz.2
    rw [q] at this; exact absurd this (by decide)
  have gz := W.1.xy z hz.1 hz.2
  have ga := W.1.xy a ha.1 ha.2
  have gb := W.1.xy b hb.1 hb.2
  refine W.2.2 e z he hz.1 ⟨xz, ?_⟩
  rcases ends with ⟨x, y⟩ | ⟨x, y⟩
  · exact (f_27_iff (by omega) ⟨hz.1, gz⟩ ⟨ha.1, ga⟩ ⟨hb.1, gb⟩ x y).mpr L
  · exact (f_27_iff (by omega) ⟨hz.1, gz⟩ ⟨hb.1, gb⟩ ⟨ha.1, ga⟩ x y).mpr L'
theorem NC_x {σ : mm_S} {n m e f p q r s : Nat} (C : CK σ n m) (N : NC σ n) (he : e < n) (hf : f < n) (hne : e ≠ f) (hp : rmx m p) (hq : rmx m q) (hr : rmx m r) (hs : rmx m s) (a1 : σ 16 e = nI p) (a2 : σ 17 e = nI q) (a3 : σ 16 f = nI r) (a4 : σ 17 f = nI s) : ¬ (gcr (vc σ p q) (vc σ p r) * gcr (vc σ p q) (vc σ p s) < 0 ∧ gcr (vc σ r s) (vc σ r p) * gcr (vc σ r s) (vc σ r q) < 0) := by
  have n21 := C.jn.1
  have key : ∀ e f p q r s, e < f → f < n → rmx m p → rmx m q → rmx m r → rmx m s → σ 16 e = nI p → σ 17 e = nI q → σ 16 f = nI r → σ 17 f = nI s → ¬ (gcr (vc σ p q) (vc σ p r) * gcr (vc σ p q) (vc σ p s) < 0 ∧ gcr (vc σ r s) (vc σ r p) * gcr (vc σ r s) (vc σ r q) < 0) := by
    intro e f p q r s hef hf hp hq hr hs a1 a2 a3 a4 ⟨h1, h2⟩
    have ce : (nI e).toNatClampNeg = e := nI_clamp (by omega)
    have cf : (nI f).toNatClampNeg = f := nI_clamp (by omega)
    have gp : p < 9 ∧ cG σ p := ⟨hp.1, C.xy p hp.1 hp.2⟩
    have gq : q < 9 ∧ cG σ q := ⟨hq.1, C.xy q hq.1 hq.2⟩
    have gr : r < 9 ∧ cG σ r := ⟨hr.1, C.xy r hr.1 hr.2⟩
    have gs : s < 9 ∧ cG σ s := ⟨hs.1, C.xy s hs.1 hs.2⟩
    refine N e f hef hf (fun z => ?_)
    have z3 := z.2.2
    have A := gcr_b gp.2 gq.2 gr.2
    have B := gcr_b gp.2 gq.2 gs.2
    have C' := gcr_b gr.2 gs.2 gp.2
    have D := gcr_b gr.2 gs.2 gq.2
    rw [← m_neg (f_17_toInt gp gq gr) (f_17_toInt gp gq gs) A B] at h1
    rw [← m_neg (f_17_toInt gr gs gp) (f_17_toInt gr gs gq) C' D] at h2
    unfold f_29 f_30 at z3
    rw [ce, cf, a1, a2, a3, a4, if_neg h1, if_neg (by decide), if_neg h2, if_neg (by decide)] at z3
    exact absurd z3 (by decide)
  rcases Nat.lt_or_gt_of_ne hne with k | k
  · exact key e f p q r s k hf hp hq hr hs a1 a2 a3 a4
  · intro ⟨h1, h2⟩
    exact key f e r s p q k he hr hs hp hq a3 a4 a1 a2 ⟨h2, h1⟩
theorem PW.nc {σ : mm_S} {n m a b u v : Nat} (W : PW σ n m) (ha : rmx m a) (hab : aj σ a b) (hu : rmx m u) (huv : aj σ u v) : ¬ crs (xs σ) (pY σ) a b u v := fun ⟨h1, h2⟩ => by
  rw [xs_orn, xs_orn] at h1 h2
  obtain ⟨hb, _, _, e, he, ends⟩ := W.ed ha hab
  obtain ⟨hv, _, _, f, hf, ends'⟩ := W.ed hu huv
  have k1 : gcr (vc σ a b) (vc σ a u) * gcr (vc σ a b) (vc σ a v) < 0 := by
    rcases Int.lt_or_le (gcr (vc σ a b) (vc σ a u) * gcr (vc σ a b) (vc σ a v)) 0 with k | k
    · exact k
    · have : 64 * gcr (vc σ a b) (vc σ a u) * (64 * gcr (vc σ a b) (vc σ a v)) = 4096 * (gcr (vc σ a b) (vc σ a u) * gcr (vc σ a b) (vc σ a v)) := by grind
      omega
  have k2 : gcr (vc σ u v) (vc σ u a) * gcr (vc σ u v) (vc σ u b) < 0 := by
    rcases Int.lt_or_le (gcr (vc σ u v) (vc σ u a) * gcr (vc σ u v) (vc σ u b)) 0 with k | k
    · exact k
    · have : 64 * gcr (vc σ u v) (vc σ u a) * (64 * gcr (vc σ u v) (vc σ u b)) = 4096 * (gcr (vc σ u v) (vc σ u a) * gcr (vc σ u v) (vc σ u b)) := by grind
      omega
  have m1 : gcr (vc σ b a) (vc σ b u) * gcr (vc σ b a) (vc σ b v) = gcr (vc σ a b) (vc σ a u) * gcr (vc σ a b) (vc σ a v) := by unfold gcr vc; grind
  have m2 : gcr (vc σ v u) (vc σ v a) * gcr (vc σ v u) (vc σ v b) = gcr (vc σ u v) (vc σ u a) * gcr (vc σ u v) (vc σ u b) := by unfold gcr vc; grind
  have c1 := Int.mul_comm (gcr (vc σ a b) (vc σ a u)) (gcr (vc σ a b) (vc σ a v))
  have c2 := Int.mul_comm (gcr (vc σ u v) (vc σ u a)) (gcr (vc σ u v) (vc σ u b))
  have c3 := Int.mul_comm (gcr (vc σ b a) (vc σ b u)) (gcr (vc σ b a) (vc σ b v))
  have c4 := Int.mul_comm (gcr (vc σ v u) (vc σ v a)) (gcr (vc σ v u) (vc σ v b))
  by_cases ef : e = f
  · subst ef
    -- the same join: its ends are on it
    have z1 : gcr (vc σ a b) (vc σ a a) = 0 := by rw [vc_s]; exact gcr_0 _
    have z2 : gcr (vc σ a b) (vc σ a b) = 0 := gcr_s _
    have ab9 : a < 9 ∧ b < 9 ∧ u < 9 ∧ v < 9 := ⟨ha.1, hb.1, hu.1, hv.1⟩
    rcases ends with ⟨x, y⟩ | ⟨x, y⟩ <;> rcases ends' with ⟨x', y'⟩ | ⟨x', y'⟩
    · have := nI9 ha.1 hu.1 (x.symm.trans x'); rw [← this, z1, Int.zero_mul] at k1; omega
    · have := nI9 hb.1 hu.1 (y.symm.trans y'); rw [← this, z2, Int.zero_mul] at k1; omega
    · have := nI9 hb.1 hu.1 (x.symm.trans x'); rw [← this, z2, Int.zero_mul] at k1; omega
    · have := nI9 ha.1 hu.1 (y.symm.trans y'); rw [← this, z1, Int.zero_mul] at k1; omega
  · rcases ends with ⟨x, y⟩ | ⟨x, y⟩ <;> rcases ends' with ⟨x', y'⟩ | ⟨x', y'⟩
    · exact NC_x W.1 W.2.1 he hf ef ha hb hu hv x y x' y' ⟨k1, k2⟩
    · exact NC_x W.1 W.2.1 he hf ef ha hb hv hu x y x' y' ⟨by omega, by omega⟩
    · exact NC_x W.1 W.2.1 he hf ef hb ha hu hv x y x' y' ⟨by omega, by omega⟩
    · exact NC_x W.1 W.2.1 he hf ef hb ha hv hu x y x' y' ⟨by omega, by omega⟩

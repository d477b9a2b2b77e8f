-- no way of rooms comes back, always to the same side
theorem q_step {σ : mm_S} {n m s t q K : Nat} {sd : Nat → Nat → Nat} {c : Nat → Nat} (W : PW σ n m) (Z : Cn σ m) (hs : wms σ m 9 s) (ht : nms σ s 9 t) (Y : LYT σ m sd) (Q : QC σ m sd q K c) : ∃ q' K' c', QC σ m sd q' K' c' ∧ msr σ m (ce K' c') < msr σ m (ce K c) := by
  have H := ce_CE W Y Q
  obtain ⟨K1, q4, cl, ed, dis⟩ := id Q
  have onc : ∀ r b, ce K c r b → ∃ i, i < K ∧ r = c i := fun r b ⟨i, hi, h⟩ => by
    rcases h with h | h
    · exact ⟨i, hi, h.1⟩
    · rcases Nat.lt_or_ge (i + 1) K with k | k
      · exact ⟨i + 1, k, h.2⟩
      · exact ⟨0, by omega, by rw [h.2, show i + 1 = K by omega]; exact cl⟩
  -- the line's own colours
  have at' : ∀ i, i < K → ∃ p, p < K ∧ c (p + 1) = c i ∧ (∀ b, ce K c (c i) b ↔ b = c (i + 1) ∨ b = c p) ∧ aj σ (c i) (c p) ∧ sd (c i) (c p) = (q + 2) % 4 := fun i hi => by
    obtain ⟨p, hp, ep, iff⟩ := ce_at W Y Q hi
    obtain ⟨g1, g2, g3⟩ := ed p hp
    rw [ep] at g2 g3
    exact ⟨p, hp, ep, iff, (W.ed g1 g2).2.2.1, by rw [(Y.1 _ _ g1 g2).2, g3]⟩
  have nx : ∀ i, i < K → kap σ (ce K c) (c (i + 1), c (i + 2)) = kap σ (ce K c) (c i, c (i + 1)) ∨ i + 1 = K := fun i hi => by
    rcases Nat.lt_or_ge (i + 1) K with k | k
    · refine Or.inl ?_
      obtain ⟨p, hp, ep, iff, a1, a2⟩ := at' (i + 1) k
      have pi : p = i := by
        rcases Nat.lt_or_ge (p + 1) K with y | y
        · rcases Nat.lt_trichotomy (p + 1) (i + 1) with z | z | z
          · exact absurd ep (dis _ _ z k)
          · omega
          · exact absurd ep.symm (dis _ _ z y)
        · exfalso
          rw [show p + 1 = K by omega, cl] at ep
          exact dis 0 (i + 1) (by omega) k ep
      subst pi
      obtain ⟨e1, e2, e3⟩ := ed (p + 1) k
      have on := (kp_on (Y.2 _ e1) H q4 iff e2 a1 e3 a2).2.2.2
      have op := kap_op W H (ed p hi).1 (ed p hi).2.1
      rw [bo_t.mpr ⟨p, hi, Or.inl ⟨rfl, rfl⟩⟩] at op
      rw [op] at on
      cases hk : kap σ (ce K c) (c p, c (p + 1)) <;> cases hk' : kap σ (ce K c) (c (p + 1), c (p + 1 + 1)) <;> rw [hk, hk'] at on <;> first | rfl | exact absurd on (by decide) | exact hk'
    · exact Or.inr (by omega)
  obtain ⟨lam, hl⟩ : ∃ l, kap σ (ce K c) (c 0, c 1) = l := ⟨_, rfl⟩
  have lamc : ∀ i, i < K → kap σ (ce K c) (c i, c (i + 1)) = lam := by
    intro i
    induction i with
    | zero => intro _; exact hl
    | succ i ih =>
      intro hi
      rcases nx i (by omega) with h | h
      · rw [h]; exact ih (by omega)
      · omega
  -- the side that lies inside
  obtain ⟨q', q'4, in1, in2, in3, qd⟩ : ∃ q', q' < 4 ∧ (∀ i, i < K → ∀ v, aj σ (c i) v → sd (c i) v = q' → kap σ (ce K c) (c i, v) = true) ∧ (∀ i, i < K → ∀ v, aj σ (c i) v → sd (c i) v = (q' + 2) % 4 → kap σ (ce K c) (c i, v) = false) ∧ (∃ v, aj σ (c 0) v ∧ sd (c 0) v = q') ∧ (q' ≠ q ∧ q' ≠ (q + 2) % 4) := by
    have on : ∀ i, i < K → (∀ v, aj σ (c i) v → (sd (c i) v = (q + 1) % 4 → kap σ (ce K c) (c i, v) = !kap σ (ce K c) (c i, c (i + 1))) ∧ (sd (c i) v = (q + 3) % 4 → kap σ (ce K c) (c i, v) = kap σ (ce K c) (c i, c (i + 1)))) ∧ (∃ v, sd (c i) v = (q + 1) % 4 ∧ ((v < 9 ∧ aj σ (c i) v) ∨ (9 ≤ v ∧ (!kap σ (ce K c) (c i, c (i + 1))) = false))) ∧ (∃ v, sd (c i) v = (q + 3) % 4 ∧ ((v < 9 ∧ aj σ (c i) v) ∨ (9 ≤ v ∧ kap σ (ce K c) (c i, c (i + 1)) = false))) ∧ True := fun i hi => by
      obtain ⟨p, hp, ep, iff, a1, a2⟩ := at' i hi
      obtain ⟨e1, e2, e3⟩ := ed i hi
      have := kp_on (Y.2 _ e1) H q4 iff e2 a1 e3 a2
      exact ⟨this.1, this.2.1, this.2.2.1, trivial⟩
    cases hlam : lam with
    | false =>
      refine ⟨(q + 1) % 4, by omega, fun i hi v hv h => ?_, fun i hi v hv h => ?_, ?_, by omega⟩
      · rw [((on i hi).1 v hv).1 h, lamc i hi, hlam]; rfl
      · rw [((on i hi).1 v hv).2 (by rw [h]; omega), lamc i hi, hlam]
      · obtain ⟨v, h1, h2⟩ := (on 0 (by omega)).2.1
        rcases h2 with h2 | ⟨_, h2⟩
        · exact ⟨v, h2.2, h1⟩
        · rw [lamc 0 (by omega), hlam] at h2; exact absurd h2 (by decide)
    | true =>
      refine ⟨(q + 3) % 4, by omega, fun i hi v hv h => ?_, fun i hi v hv h => ?_, ?_, by omega⟩
      · rw [((on i hi).1 v hv).2 h, lamc i hi, hlam]
      · rw [((on i hi).1 v hv).1 (by rw [h]; omega), lamc i hi, hlam]; rfl
      · obtain ⟨v, h1, h2⟩ := (on 0 (by omega)).2.2.1
        rcases h2 with h2 | ⟨_, h2⟩
        · exact ⟨v, h2.2, h1⟩
        · rw [lamc 0 (by omega), hlam] at h2; exact absurd h2 (by decide)
  -- rooms inside
  have mkIn : ∀ u v, rmx m v → (∀ i, i < K → v ≠ c i) → aj σ v u → kap σ (ce K c) (v, u) = true → ∀ w, aj σ v w → kap σ (ce K c) (v, w) = true := fun u v hv off hvu hk w hw => by
    obtain ⟨x, h1, _⟩ := kp_of (Y.2 v hv) H (fun b hb => by obtain ⟨i, hi, e⟩ := onc v b hb; exact off i hi e)
    rw [h1 w hw, ← h1 u hvu]; exact hk
  have enter : ∀ u v, rmx m u → aj σ u v → sd u v = q' → kap σ (ce K c) (u, v) = true → ¬ ce K c u v → rmx m v ∧ (∀ i, i < K → v ≠ c i) ∧ ∀ w, aj σ v w → kap σ (ce K c) (v, w) = true := fun u v hu huv hsd hk nC => by
    obtain ⟨hv, _, hvu, _⟩ := W.ed hu huv
    have op := kap_op W H hu huv
    rw [bo_f.mpr nC, hk] at op
    have off : ∀ i, i < K → v ≠ c i := fun i hi e => by
      subst e
      have := in2 i hi u hvu (by rw [(Y.1 _ _ hu huv).2, hsd])
      rw [this] at op
      exact absurd op (by decide)
    exact ⟨hv, off, mkIn u v hv off hvu op⟩
  have first : ∃ x, (rmx m x ∧ (∀ i, i < K → x ≠ c i) ∧ ∀ w, aj σ x w → kap σ (ce K c) (x, w) = true) ∧ aj σ (c 0) x ∧ sd (c 0) x = q' := by
    obtain ⟨v, h1, h2⟩ := in3
    refine ⟨v, enter (c 0) v (ed 0 (by omega)).1 h1 h2 (in1 0 (by omega) v h1 h2) (fun hC => ?_), h1, h2⟩
    rcases (ce_2 W Y Q _ _ hC).2.2 with h | h
    · exact qd.1 (h2.symm.trans h)
    · exact qd.2 (h2.symm.trans h)
  have next : ∀ x, ∃ v, (rmx m x ∧ (∀ i, i < K → x ≠ c i) ∧ ∀ w, aj σ x w → kap σ (ce K c) (x, w) = true) → (rmx m v ∧ (∀ i, i < K → v ≠ c i) ∧ ∀ w, aj σ v w → kap σ (ce K c) (v, w) = true) ∧ aj σ x v ∧ sd x v = q' := fun x => by
    by_cases hx : rmx m x ∧ (∀ i, i < K → x ≠ c i) ∧ ∀ w, aj σ x w → kap σ (ce K c) (x, w) = true
    · have nC : ∀ b, ¬ ce K c x b := fun b hb => by obtain ⟨i, hi, e⟩ := onc x b hb; exact hx.2.1 i hi e
      obtain ⟨y, h1, h2⟩ := kp_of (Y.2 x hx.1) H nC
      obtain ⟨u, _, h3⟩ := h2 q' q'4
      have yt : y = true := by
        obtain ⟨w, T, dg, _, _, _, _, _, a6, _⟩ := Y.2 x hx.1
        -- a neighbour of x
        rcases h3 with ⟨_, h4, _⟩ | ⟨_, h5⟩
        · rw [← h1 u h4]; exact hx.2.2 u h4
        · exfalso
          obtain ⟨j, hj⟩ : ∃ j, aj σ x j := by
            have all := Z (fun r => r ≠ x) ⟨c 0, (ed 0 (by omega)).1.1, (ed 0 (by omega)).1.2, fun e => hx.2.1 0 (by omega) e.symm⟩
            rcases Classical.em (∃ j, aj σ x j) with y | y
            · exact y
            · exact absurd rfl (all (fun i j hi mi _ hij e => y ⟨i, by rw [← e]; exact (W.ed ⟨hi, mi⟩ hij).2.2.1⟩) x hx.1.1 hx.1.2)
          have := hx.2.2 j hj
          rw [h1 j hj, h5] at this
          exact absurd this (by decide)
      obtain ⟨v, h4, h5⟩ := h2 q' q'4
      rcases h5 with ⟨_, h6, h7⟩ | ⟨_, h7⟩
      · exact ⟨v, fun _ => ⟨enter x v hx.1 h6 h4 (hx.2.2 v h6) (nC v), h6, h4⟩⟩
      · rw [yt] at h7; exact absurd h7 (by decide)
    · exact ⟨x, fun h => absurd h hx⟩
  obtain ⟨x1, hx1, a01, _⟩ := first
  obtain ⟨gn, hgn⟩ : ∃ gn : Nat → Nat, ∀ x, (rmx m x ∧ (∀ i, i < K → x ≠ c i) ∧ ∀ w, aj σ x w → kap σ (ce K c) (x, w) = true) → (rmx m (gn x) ∧ (∀ i, i < K → gn x ≠ c i) ∧ ∀ w, aj σ (gn x) w → kap σ (ce K c) (gn x, w) = true) ∧ aj σ x (gn x) ∧ sd x (gn x) = q' := ⟨fun x => (next x).choose, fun x => (next x).choose_spec⟩
  obtain ⟨X, hX0, hXs⟩ : ∃ X : Nat → Nat, X 0 = x1 ∧ ∀ k, X (k + 1) = gn (X k) := ⟨fun k => Nat.rec x1 (fun _ x => gn x) k, rfl, fun _ => rfl⟩
  have inn : ∀ k, rmx m (X k) ∧ (∀ i, i < K → X k ≠ c i) ∧ ∀ w, aj σ (X k) w → kap σ (ce K c) (X k, w) = true := by
    intro k
    induction k with
    | zero => rw [hX0]; exact hx1
    | succ k ih => rw [hXs]; exact (hgn _ ih).1
  have least : ∀ g, (∃ i, 1 ≤ g ∧ X (i + g) = X i) → ∃ g i, 1 ≤ g ∧ X (i + g) = X i ∧ ∀ g', g' < g → 1 ≤ g' → ∀ i', X (i' + g') ≠ X i' := by
    intro g
    induction g using Nat.strongRecOn with
    | ind g IH =>
      rintro ⟨i, g1, e⟩
      by_cases h : ∃ g' i', g' < g ∧ 1 ≤ g' ∧ X (i' + g') = X i'
      · obtain ⟨g', i', h1, h2, h3⟩ := h
        exact IH g' h1 ⟨i', h2, h3⟩
      · exact ⟨g, i, g1, e, fun g' h1 h2 i' h3 => h ⟨g', i', h1, h2, h3⟩⟩
  obtain ⟨i, j, p1, p2, p3⟩ := pig 9 X (fun k _ => (inn k).1.1)
  obtain ⟨g, i0, g1, eg, lst⟩ := least (j - i) ⟨i, by omega, by rw [show i + (j - i) = j by omega]; exact p3.symm⟩
  have Q' : QC σ m sd q' g (fun k => X (i0 + k)) := ⟨g1, q'4, eg, fun k _ => ⟨(inn _).1, by
      have := (hgn _ (inn (i0 + k))).2
      rw [← hXs] at this
      exact this⟩, fun a b hab hb e => lst (b - a) (by omega) (by omega) (i0 + a) (by rw [show i0 + a + (b - a) = i0 + b by omega]; exact e.symm)⟩
  refine ⟨q', g, fun k => X (i0 + k), Q', ?_⟩
  have HD := ce_CE W Y Q'
  have onD : ∀ r b, ce g (fun k => X (i0 + k)) r b → (∀ i, i < K → r ≠ c i) ∧ ∀ w, aj σ r w → kap σ (ce K c) (r, w) = true := fun r b ⟨i, hi, h⟩ => by
    rcases h with h | h
    · have := inn (i0 + i); rw [h.1]; exact this.2
    · have := inn (i0 + (i + 1)); rw [h.2]; exact this.2
  generalize ce g (fun k => X (i0 + k)) = D at *
  have offD : ∀ i, i < K → ∀ b, ¬ D (c i) b := fun i hi b hb => (onD _ b hb).1 i hi rfl
  have cst : ∀ r, rmx m r → (∀ b, ¬ D r b) → ∀ u w, aj σ r u → aj σ r w → kap σ D (r, u) = kap σ D (r, w) := fun r hr off u w hu hw => by
    obtain ⟨x, h1, _⟩ := kp_of (Y.2 r hr) HD off
    rw [h1 u hu, h1 w hw]
  have cstC : ∀ r, rmx m r → (∀ i, i < K → r ≠ c i) → ∀ u w, aj σ r u → aj σ r w → kap σ (ce K c) (r, u) = kap σ (ce K c) (r, w) := fun r hr off u w hu hw => by
    obtain ⟨x, h1, _⟩ := kp_of (Y.2 r hr) H (fun b hb => by obtain ⟨i, hi, e⟩ := onc r b hb; exact off i hi e)
    rw [h1 u hu, h1 w hw]
  -- D leaves the line in one colour
  have mu : ∀ i, i < K → ∀ w, aj σ (c i) w → kap σ D (c i, w) = kap σ D (c 0, c 1) := by
    intro i
    induction i with
    | zero => intro _ w hw; exact cst _ (ed 0 (by omega)).1 (offD 0 (by omega)) w (c 1) hw (ed 0 (by omega)).2.1
    | succ i ih =>
      intro hi w hw
      obtain ⟨e1, e2, _⟩ := ed i (by omega)
      obtain ⟨h1, _, h3, _⟩ := W.ed e1 e2
      rw [cst _ h1 (offD (i + 1) hi) w (c i) hw h3, kap_op W HD e1 e2, bo_f.mpr (offD i (by omega) _), ih (by omega) _ e2]
      cases kap σ D (c 0, c 1) <;> rfl
  have out : ∀ r r', rmx m r → aj σ r r' → (∀ b, ¬ D r b) ∨ (∀ b, ¬ D r' b) → kap σ D (r', r) = kap σ D (r, r') := fun r r' hr h off => by
    have nD : ¬ D r r' := fun q => off.elim (fun o => o _ q) (fun o => o _ (HD.1 _ _ q))
    rw [kap_op W HD hr h, bo_f.mpr nD]
    cases kap σ D (r, r') <;> rfl
  have outC : ∀ r r', rmx m r → aj σ r r' → (∀ i, i < K → r ≠ c i) ∨ (∀ i, i < K → r' ≠ c i) → kap σ (ce K c) (r', r) = kap σ (ce K c) (r, r') := fun r r' hr h off => by
    have nC : ¬ ce K c r r' := fun q => off.elim (fun o => by obtain ⟨i, hi, e⟩ := onc r r' q; exact o i hi e) (fun o => by obtain ⟨i, hi, e⟩ := onc r' r (H.1 _ _ q); exact o i hi e)
    rw [kap_op W H hr h, bo_f.mpr nC]
    cases kap σ (ce K c) (r, r') <;> rfl
  have rs : rmx m s := ⟨hs.1, hs.2.2.1⟩
  have o1 := kap_o W H hs ht
  have o2 := kap_o W HD hs ht
  have mu0 : kap σ D (c 0, c 1) = false := by
    cases hm : kap σ D (c 0, c 1) with
    | false => rfl
    | true =>
      exfalso
      have all := Z (fun r => (∀ i, i < K → r ≠ c i) ∧ ∀ w, aj σ r w → kap σ (ce K c) (r, w) = false ∧ kap σ D (r, w) = false)
      have start : (∀ i, i < K → s ≠ c i) ∧ ∀ w, aj σ s w → kap σ (ce K c) (s, w) = false ∧ kap σ D (s, w) = false := by
        have off : ∀ i, i < K → s ≠ c i := fun i hi e => by
          subst e
          have := mu i hi t ht.1
          rw [o2, hm] at this
          exact absurd this (by decide)
        have oD : ∀ b, ¬ D s b := fun b hb => by
          have := (onD s b hb).2 t ht.1
          rw [o1] at this
          exact absurd this (by decide)
        exact ⟨off, fun w hw => ⟨by rw [cstC s rs off w t hw ht.1]; exact o1, by rw [cst s rs oD w t hw ht.1]; exact o2⟩⟩
      refine (all ⟨s, rs.1, rs.2, start⟩ (fun r r' hr mr ⟨off, hc⟩ hrr => ?_) (c 0) (ed 0 (by omega)).1.1 (ed 0 (by omega)).1.2).1 0 (by omega) rfl
      obtain ⟨hr', _, hr'r, _⟩ := W.ed ⟨hr, mr⟩ hrr
      have k1 := outC r r' ⟨hr, mr⟩ hrr (Or.inl off)
      rw [(hc r' hrr).1] at k1
      have oD : ∀ b, ¬ D r' b := fun b hb => by
        have := (onD r' b hb).2 r hr'r
        rw [k1] at this
        exact absurd this (by decide)
      have k2 := out r r' ⟨hr, mr⟩ hrr (Or.inr oD)
      rw [(hc r' hrr).2] at k2
      have off' : ∀ i, i < K → r' ≠ c i := fun i hi e => by
        subst e
        have := mu i hi r hr'r
        rw [k2, hm] at this
        exact absurd this (by decide)
      exact ⟨off', fun w hw => ⟨by rw [cstC r' hr' off' w r hw hr'r]; exact k1, by rw [cst r' hr' oD w r hw hr'r]; exact k2⟩⟩
  have sub : ∀ r, rmx m r → ∀ w, aj σ r w → kap σ (ce K c) (r, w) = false → kap σ D (r, w) = false := fun r hr => by
    refine Z (fun r => ∀ w, aj σ r w → kap σ (ce K c) (r, w) = false → kap σ D (r, w) = false) ⟨c 0, (ed 0 (by omega)).1.1, (ed 0 (by omega)).1.2, fun w hw _ => by rw [mu 0 (by omega) w hw]; exact mu0⟩ (fun r r' hr mr h hrr w hw hk => ?_) r hr.1 hr.2
    obtain ⟨hr', _, hr'r, _⟩ := W.ed ⟨hr, mr⟩ hrr
    by_cases on : ∃ i, i < K ∧ r' = c i
    · obtain ⟨i, hi, e⟩ := on
      subst e
      rw [mu i hi w hw]; exact mu0
    · have off' : ∀ i, i < K → r' ≠ c i := fun i hi e => on ⟨i, hi, e⟩
      by_cases oD : ∀ b, ¬ D r' b
      · rw [cstC r' hr' off' w r hw hr'r, outC r r' ⟨hr, mr⟩ hrr (Or.inr off')] at hk
        rw [cst r' hr' oD w r hw hr'r, out r r' ⟨hr, mr⟩ hrr (Or.inr oD)]
        exact h r' hrr hk
      · obtain ⟨b, hb⟩ : ∃ b, D r' b := by
          rcases Classical.em (∃ b, D r' b) with y | y
          · exact y
          · exact absurd (fun b hb => y ⟨b, hb⟩) oD
        have := (onD r' b hb).2 w hw
        rw [hk] at this
        exact absurd this (by decide)
  have ins : kap σ (ce K c) (c 0, x1) = true := by
    have h1 := hx1.2.2 (c 0) (W.ed (ed 0 (by omega)).1 a01).2.2.1
    have h2 := outC x1 (c 0) hx1.1 (W.ed (ed 0 (by omega)).1 a01).2.2.1 (Or.inl hx1.2.1)
    rw [h2]; exact h1
  refine msr_lt (fun x hx hk => ?_) (x := (c 0, x1)) ⟨(ed 0 (by omega)).1.1, (ed 0 (by omega)).1.2, a01⟩ ins (by rw [mu 0 (by omega) x1 a01]; exact mu0)
  cases hc : kap σ (ce K c) x with
  | true => rfl
  | false =>
    have := sub x.1 ⟨hx.1, hx.2.1⟩ x.2 hx.2.2 hc
    rw [show (x.1, x.2) = x from rfl, hk] at this
    exact absurd this (by decide)
theorem no_q {σ : mm_S} {n m s t : Nat} {sd : Nat → Nat → Nat} (W : PW σ n m) (Z : Cn σ m) (hs : wms σ m 9 s) (ht : nms σ s 9 t) (Y : LYT σ m sd) : ∀ M q K c, QC σ m sd q K c → msr σ m (ce K c) ≤ M → False := by
  intro M
  induction M with
  | zero =>
    intro q K c Q h
    obtain ⟨q', K', c', _, lt⟩ := q_step W Z hs ht Y Q
    omega
  | succ M ih =>
    intro q K c Q h
    obtain ⟨q', K', c', Q', lt⟩ := q_step W Z hs ht Y Q
    exact ih q' K' c' Q' (by omega)

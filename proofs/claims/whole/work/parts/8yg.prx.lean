/-! a plan's rings: RX -/
theorem jA_80 {σ : mm_S} {n m k : Nat} (Z : ZI σ n m) (hk : k < n) : ∃ a b, a < 9 ∧ b < 9 ∧ a ≠ b ∧ rmx m a ∧ rmx m b ∧ jA σ k = a ∧ jB σ k = b ∧ σ 80 k = nI a ∧ σ 81 k = nI b := by
  obtain ⟨a, b, ha, hb, ne, ma, mb, e1, e2⟩ := Z.ck.je k hk
  obtain ⟨j1, j2⟩ := Z.jj k hk
  refine ⟨a, b, ha, hb, ne, ⟨ha, ma⟩, ⟨hb, mb⟩, ?_, ?_, j1.trans e1, j2.trans e2⟩
  · unfold jA; rw [e1]; exact nI_clamp (by omega)
  · unfold jB; rw [e2]; exact nI_clamp (by omega)
theorem nd_ot {σ : mm_S} {n m k r : Nat} (Z : ZI σ n m) (hk : k < n) (hr : r < 9) (ek : em σ r k) : ∃ o, ndo n (jA σ) (jB σ) r k = o ∧ o < 9 ∧ rmx m o ∧ f_101 σ (nI k) (nI r) = nI o ∧ aj σ r o ∧ ((jA σ k = r ∧ jB σ k = o ∧ σ 80 k = nI r ∧ σ 81 k = nI o) ∨ (jA σ k = o ∧ jB σ k = r ∧ σ 80 k = nI o ∧ σ 81 k = nI r)) := by
  obtain ⟨o, o9, onr, mr, mo, eo, _, ao, ends⟩ := Z.ot hk hr ek
  obtain ⟨a, b, ha, hb, ne, _, _, e1, e2, e3, e4⟩ := jA_80 Z hk
  rcases ends with ⟨h1, h2⟩ | ⟨h1, h2⟩
  · have x1 := nI9 ha hr (e3.symm.trans h1)
    have x2 := nI9 hb o9 (e4.symm.trans h2)
    subst x1; subst x2
    exact ⟨b, by unfold ndo; rw [if_pos hk, if_pos e1]; exact e2, o9, ⟨o9, mo⟩, eo, ao, Or.inl ⟨e1, e2, h1, h2⟩⟩
  · have x1 := nI9 ha o9 (e3.symm.trans h1)
    have x2 := nI9 hb hr (e4.symm.trans h2)
    subst x1; subst x2
    exact ⟨a, by unfold ndo; rw [if_pos hk, if_neg (by rw [e1]; exact onr)]; exact e1, o9, ⟨o9, mo⟩, eo, ao, Or.inr ⟨e1, e2, h1, h2⟩⟩
theorem PLD.yp {σ : mm_S} {n m : Nat} {B : Nat → Nat → Nat} {s t L f : Nat} {Mk : Nat → Nat} {lab : Nat × Nat → Int32} {p K : Nat → Nat} (P : PLD σ n m B s t L f Mk lab p K) {j : Nat} (hj : j < L) : 1 ≤ ypl L (p 0) j ∧ ypl L (p 0) j ≤ L ∧ qo B s t p (ypl L (p 0) j) = wo B s t j ∧ qo B s t p (ypl L (p 0) j - 1) = wo B s t ((j + L - 1) % L) := by
  have p0 := P.pl 0 (by decide)
  obtain ⟨y, hy⟩ : ∃ y, y = ypl L (p 0) j := ⟨_, rfl⟩
  have key : 1 ≤ y ∧ y ≤ L ∧ (p 0 + y = j ∨ p 0 + y = j + L) := by
    rw [hy]
    unfold ypl
    rcases Nat.lt_trichotomy j (p 0) with c | c | c
    · rw [Nat.mod_eq_of_lt (by omega), if_neg (by omega)]; omega
    · rw [c, show p 0 + L - p 0 = L by omega, Nat.mod_self, if_pos rfl]; omega
    · rw [show j + L - p 0 = (j - p 0) + L by omega, Nat.add_mod_right, Nat.mod_eq_of_lt (by omega), if_neg (by omega)]; omega
  rw [← hy]
  obtain ⟨k1, k2, k3⟩ := key
  refine ⟨k1, k2, ?_, ?_⟩
  · show wo B s t (p 0 + y) = _
    rcases k3 with e | e
    · rw [e]
    · rw [e]; exact P.wp j
  · show wo B s t (p 0 + (y - 1)) = _
    rcases k3 with e | e
    · rw [show p 0 + (y - 1) = j - 1 by omega, show j + L - 1 = j - 1 + L by omega, Nat.add_mod_right, Nat.mod_eq_of_lt (by omega)]
    · rw [show p 0 + (y - 1) = j + L - 1 by omega]; exact (P.wm _).symm
theorem PLD.rx1 {σ τ : mm_S} {n m : Nat} {B : Nat → Nat → Nat} {s t L f : Nat} {Mk : Nat → Nat} {lab : Nat × Nat → Int32} {p K : Nat → Nat} (P : PLD σ n m B s t L f Mk lab p K) (Z : ZI σ n m) (A : AO σ τ n) (t80 : τ 80 = σ 80) (t81 : τ 81 = σ 81) {r z : Nat} {e : Nat → Nat} (hr : rmx m r) (R : RNr σ τ n L (p 0) (wo B s t) (bo4 L p) r z e) : (∀ i, i < z → (e i < n ∧ (jA σ (e i) = r ∨ jB σ (e i) = r)) ∨ ∃ s', s' < 4 ∧ e i = 41 + s') ∧ ENU (nrP σ m B s t L p) (BpP B s t L p) r (fun i => ndo n (jA σ) (jB σ) r (e (i % z))) z ∧ ∀ k, k < n → em σ r k → ∃ i, i < z ∧ e i = k := by
  have n21 := Z.ck.jn.1
  have N := P.w.2.1
  have D := P.dsk
  obtain ⟨r9, mr⟩ := id hr
  obtain ⟨dg', _, e87', a1, a2, a3⟩ := A r r9
  obtain ⟨dg, al, d8, e87, hal, R⟩ := R
  have ed : dg' = dg := (nI_eq (by omega) (by omega)).mp (e87'.symm.trans e87)
  subst ed
  have a4 : ∀ i j, i < j → j < dg' → al i ≠ al j := fun i j h1 h2 e' => by
    obtain ⟨o, eo, o9, ro, fo, ao, _⟩ := nd_ot Z (hal i (by omega)).1 r9 (hal i (by omega)).2.1
    have := a3 i j h1 h2
    rw [(hal i (by omega)).2.2, (hal j h2).2.2, ← e'] at this
    have := (Z.f3 N r9 mr ao ao fo fo).mp this
    exact gah_asym this this
  have alk : ∀ k, k < n → em σ r k → ∃ i, i < dg' ∧ al i = k := fun k hk ek => by
    obtain ⟨i, hi, e1⟩ := a2 k hk ek
    have := (hal i hi).1
    exact ⟨i, hi, (nI_eq (by omega) (by omega)).mp ((hal i hi).2.2.symm.trans e1)⟩
  have U : UJ (rmx m) (aj σ) B r dg' (fun i => ndo n (jA σ) (jB σ) r (al i)) := by
    refine ⟨fun i hi => ?_, fun i hi => ?_, fun i j hij hj e' => ?_, fun v hv => ?_⟩
    · obtain ⟨o, eo, _, _, _, ao, _⟩ := nd_ot Z (hal i hi).1 r9 (hal i hi).2.1
      rw [← eo] at ao; exact ao
    · have ml : (i + 1) % dg' < dg' := Nat.mod_lt _ (by omega)
      obtain ⟨o, eo, o9, _, fo, ao, _⟩ := nd_ot Z (hal i hi).1 r9 (hal i hi).2.1
      obtain ⟨o', eo', o9', _, fo', ao', _⟩ := nd_ot Z (hal _ ml).1 r9 (hal _ ml).2.1
      obtain ⟨x, x', h1, h2, h3⟩ := AO_nx Z N r9 hi a1 a2 a3 (hal i hi).1 (hal i hi).2.1 (hal i hi).2.2 (hal _ ml).1 (hal _ ml).2.1 (hal _ ml).2.2
      have y1 : x = o := nI9 h3.1.1 o9 (h1.symm.trans fo)
      have y2 : x' = o' := nI9 h3.2.1.1 o9' (h2.symm.trans fo')
      subst y1; subst y2
      show ndo n (jA σ) (jB σ) r (al ((i + 1) % dg')) = B r (ndo n (jA σ) (jB σ) r (al i))
      rw [eo, eo']
      exact nxt_uniq h3 (P.bn r x r9 mr ao)
    · have e'' : ndo n (jA σ) (jB σ) r (al i) = ndo n (jA σ) (jB σ) r (al j) := e'
      obtain ⟨o, eo, o9, _, fo, _⟩ := nd_ot Z (hal i (by omega)).1 r9 (hal i (by omega)).2.1
      obtain ⟨o', eo', o9', _, fo', _⟩ := nd_ot Z (hal j hj).1 r9 (hal j hj).2.1
      rw [eo, eo'] at e''
      subst e''
      exact a4 i j hij hj (Z.oi (hal i (by omega)).1 (hal j hj).1 r9 (hal i (by omega)).2.1 (hal j hj).2.1 fo fo' o9)
    · obtain ⟨k, hk, ek, fk⟩ := Z.oj r9 mr hv
      obtain ⟨i, hi, ei⟩ := alk k hk ek
      obtain ⟨o, eo, o9, _, fo, _⟩ := nd_ot Z hk r9 ek
      exact ⟨i, hi, by show ndo n (jA σ) (jB σ) r (al i) = v; rw [ei, eo]; exact nI9 o9 hv.1 (fo.symm.trans fk)⟩
  have kda : ∀ i, i < dg' → al i < n ∧ (jA σ (al i) = r ∨ jB σ (al i) = r) := fun i hi => by
    obtain ⟨o, _, _, _, _, _, ends⟩ := nd_ot Z (hal i hi).1 r9 (hal i hi).2.1
    exact ⟨(hal i hi).1, ends.imp (fun h => h.1) (fun h => h.2.1)⟩
  have n41 : ∀ x, ndo n (jA σ) (jB σ) r (41 + x) = 9 + x := fun x => by unfold ndo; rw [if_neg (by omega)]; omega
  rcases R with ⟨ez, ee, out⟩ | ⟨j, pp, ns, hj, ej, hpp, hm, hns, _, ez, k1, k2, k3⟩
  · subst ez
    have no : ∀ y, qo B s t p y ≠ r := fun y e' => by
      have e2 : wo B s t ((p 0 + y) % L) = r := (P.wm (p 0 + y)).trans e'
      have ml : (p 0 + y) % L < L := Nat.mod_lt _ (by have := P.l3; omega)
      rcases out with out | ⟨j, hj, ej, nm⟩
      · exact out _ ml e2
      · obtain ⟨y1, yL, q1, q2⟩ := P.yp hj
        obtain ⟨w1, w2, _⟩ := D.qr (ypl L (p 0) j - 1)
        rw [show ypl L (p 0) j - 1 + 1 = ypl L (p 0) j by omega, q1, q2, ej] at w2
        rw [q2] at w1
        obtain ⟨_, _, w3⟩ := D.ed _ _ w1 w2
        obtain ⟨k, hk, ek, fk⟩ := Z.oj r9 mr w3
        obtain ⟨i, hi, ei⟩ := alk k hk ek
        obtain ⟨o, eo, o9, _, fo, _, ends⟩ := nd_ot Z hk r9 ek
        have : o = wo B s t ((j + L - 1) % L) := nI9 o9 w1.1 (fo.symm.trans fk)
        subst this
        refine nm i hi ?_
        unfold mjn
        rw [t80, t81, ei]
        exact ends.symm.imp (fun h => ⟨h.2.2.1, h.2.2.2⟩) (fun h => ⟨h.2.2.1, h.2.2.2⟩)
    have E := enu_in D hr U no
    have d1 : 1 ≤ z := E.2.1
    refine ⟨fun i hi => Or.inl (by rw [ee i hi]; exact kda i hi), ?_, fun k hk ek => ?_⟩
    · have ef : (fun i => ndo n (jA σ) (jB σ) r (e (i % z))) = fun k => (fun i => ndo n (jA σ) (jB σ) r (al i)) (k % z) := funext (fun i => by
        show ndo n (jA σ) (jB σ) r (e (i % z)) = ndo n (jA σ) (jB σ) r (al (i % z))
        rw [ee _ (Nat.mod_lt _ (by omega))])
      rw [ef]; exact E
    · obtain ⟨i, hi, ei⟩ := alk k hk ek
      exact ⟨i, hi, by rw [ee i hi]; exact ei⟩
  · obtain ⟨y1, yL, q1, q2⟩ := P.yp hj
    have epp : ndo n (jA σ) (jB σ) r (al pp) = qo B s t p (ypl L (p 0) j - 1) := by
      obtain ⟨o, eo, o9, _, _, ao, ends⟩ := nd_ot Z (hal pp hpp).1 r9 (hal pp hpp).2.1
      have q9 : wo B s t ((j + L - 1) % L) < 9 := (P.wa _).1.1
      rw [eo, q2]
      unfold mjn at hm
      rw [t80, t81] at hm
      have onr : o ≠ r := fun h => (D.ed r o hr ao).2.1 h.symm
      rcases hm with ⟨m1, m2⟩ | ⟨m1, m2⟩ <;> rcases ends with ⟨_, _, u1, u2⟩ | ⟨_, _, u1, u2⟩
      · exact absurd (nI9 o9 r9 (u2.symm.trans m2)) onr
      · exact nI9 o9 q9 (u1.symm.trans m1)
      · exact nI9 o9 q9 (u2.symm.trans m2)
      · exact absurd (nI9 o9 r9 (u1.symm.trans m1)) onr
    have E := enu_out D hr U y1 yL (q1.trans ej) hpp epp
    rw [← hns, ← ez] at E
    generalize lo4 (bo4 L p) (ypl L (p 0) j) = lo at E k2
    have zp : 1 ≤ z := E.2.1
    have eW : ∀ i, i < z → ndo n (jA σ) (jB σ) r (e i) = Wx (fun i => ndo n (jA σ) (jB σ) r (al i)) pp ns lo i := fun i hi => by
      rcases Wx_c (fun i => ndo n (jA σ) (jB σ) r (al i)) pp ns lo i with ⟨h, w⟩ | ⟨h1, h2, w⟩ | ⟨h, w⟩ <;> rw [w]
      · rw [k1 i h]
      · have := k2 (i - pp - 1) (by omega)
        rw [show pp + 1 + (i - pp - 1) = i by omega] at this
        rw [this]; exact n41 _
      · have := k3 (i - ns) (by omega) (by omega)
        rw [show i - ns + ns = i by omega] at this
        rw [this]
    refine ⟨fun i hi => ?_, ?_, fun k hk ek => ?_⟩
    · rcases Wx_c (fun i => ndo n (jA σ) (jB σ) r (al i)) pp ns lo i with ⟨h, _⟩ | ⟨h1, h2, _⟩ | ⟨h, _⟩
      · rw [k1 i h]; exact Or.inl (kda i (by omega))
      · have := k2 (i - pp - 1) (by omega)
        rw [show pp + 1 + (i - pp - 1) = i by omega] at this
        rw [this]; exact Or.inr ⟨_, Nat.mod_lt _ (by decide), rfl⟩
      · have := k3 (i - ns) (by omega) (by omega)
        rw [show i - ns + ns = i by omega] at this
        rw [this]; exact Or.inl (kda _ (by omega))
    · have ef : (fun i => ndo n (jA σ) (jB σ) r (e (i % z))) = fun k => Wx (fun i => ndo n (jA σ) (jB σ) r (al i)) pp ns lo (k % z) := funext (fun i => eW _ (Nat.mod_lt _ (by omega)))
      rw [ef]; exact E
    · obtain ⟨i, hi, ei⟩ := alk k hk ek
      by_cases c : i ≤ pp
      · exact ⟨i, by omega, by rw [k1 i c]; exact ei⟩
      · exact ⟨i + ns, by omega, by rw [k3 i (by omega) hi]; exact ei⟩
theorem PLD.rx {σ τ : mm_S} {n m : Nat} {B : Nat → Nat → Nat} {s t L f : Nat} {Mk : Nat → Nat} {lab : Nat × Nat → Int32} {p K : Nat → Nat} (P : PLD σ n m B s t L f Mk lab p K) (Z : ZI σ n m) (A : AO σ τ n) (t80 : τ 80 = σ 80) (t81 : τ 81 = σ 81) {zz : Nat → Nat} {en : Nat → Nat → Nat} (R : ∀ r, r < 9 → RNr σ τ n L (p 0) (wo B s t) (bo4 L p) r (zz r) (en r)) : RX (rmx m) (nrP σ m B s t L p) (BpP B s t L p) n (jA σ) (jB σ) zz en := by
  have n21 := Z.ck.jn.1
  refine ⟨P.gp, n21, fun r i hr hi => (P.rx1 Z A t80 t81 hr (R r hr.1)).1 i hi, fun r hr => (P.rx1 Z A t80 t81 hr (R r hr.1)).2.1, fun k hk => ?_, fun k l hk hl h => ?_, fun k hk => ?_⟩
  · obtain ⟨a, b, _, _, ne, ra, rb, e1, e2, _⟩ := jA_80 Z hk
    rw [e1, e2]; exact ⟨ra, rb, ne⟩
  · obtain ⟨a, b, _, _, ne, ra, rb, e1, e2, e3, e4⟩ := jA_80 Z hk
    obtain ⟨a', b', _, _, ne', ra', rb', e1', e2', e3', e4'⟩ := jA_80 Z hl
    rw [e1, e2, e1', e2'] at h
    refine Z.mk.jd k l hk hl a b e3 e4 ?_
    rcases h with ⟨h1, h2⟩ | ⟨h1, h2⟩
    · exact Or.inl ⟨by rw [e3', h1], by rw [e4', h2]⟩
    · exact Or.inr ⟨by rw [e3', h2], by rw [e4', h1]⟩
  · obtain ⟨a, b, a9, b9, ne, ra, rb, e1, e2, e3, e4⟩ := jA_80 Z hk
    rw [e1, e2]
    exact ⟨(P.rx1 Z A t80 t81 ra (R a a9)).2.2 k hk (Or.inl e3), (P.rx1 Z A t80 t81 rb (R b b9)).2.2 k hk (Or.inr e4)⟩

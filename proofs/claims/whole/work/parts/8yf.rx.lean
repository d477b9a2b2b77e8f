/-! the rings that layRings leaves go around the rooms as Bx says -/
theorem enu_mk {nr : Nat → Nat → Prop} {Bp : Nat → Nat → Nat} {r z : Nat} {W : Nat → Nat} (z1 : 1 ≤ z) (st : ∀ i, i < z → nr r (W i) ∧ W ((i + 1) % z) = Bp r (W i)) (inj : ∀ i j, i < j → j < z → W i ≠ W j) (sur : ∀ v, nr r v → ∃ i, i < z ∧ W i = v) : ENU nr Bp r (fun k => W (k % z)) z := by
  refine ⟨fun k => ?_, z1, ?_, fun k l hk hl => ?_, fun v hv => ?_⟩
  · have := st (k % z) (Nat.mod_lt _ (by omega))
    rw [Nat.mod_add_mod] at this
    exact this
  · show W (z % z) = W (0 % z)
    rw [Nat.mod_self, Nat.mod_eq_of_lt (by omega)]
  · show W (k % z) ≠ W (l % z)
    rw [Nat.mod_eq_of_lt (by omega), Nat.mod_eq_of_lt hl]; exact inj k l hk hl
  · obtain ⟨i, hi, e⟩ := sur v hv
    exact ⟨i, hi, by show W (i % z) = v; rw [Nat.mod_eq_of_lt hi]; exact e⟩
variable {rm : Nat → Prop} {aj' : Nat → Nat → Prop} {B : Nat → Nat → Nat} {q b : Nat → Nat} {L : Nat}
theorem DSK.nrq (D : DSK rm aj' B q b L) {r v : Nat} (hr : rm r) : nrx rm aj' q b r v ↔ aj' r v ∨ ∃ s, s < 4 ∧ v = 9 + s ∧ nrs q b r s := by
  have r9 := D.r9 r hr
  constructor
  · rintro (h | h | ⟨s, _, e, _⟩ | ⟨s, s', _, _, e, _⟩)
    · exact Or.inl h.2
    · exact Or.inr h
    · omega
    · omega
  · rintro (h | h)
    · exact Or.inl ⟨hr, h⟩
    · exact Or.inr (Or.inl h)
/-- the joins of a room, clockwise -/
def UJ (rm : Nat → Prop) (aj' : Nat → Nat → Prop) (B : Nat → Nat → Nat) (r dg : Nat) (u : Nat → Nat) : Prop := (∀ i, i < dg → aj' r (u i)) ∧ (∀ i, i < dg → u ((i + 1) % dg) = B r (u i)) ∧ (∀ i j, i < j → j < dg → u i ≠ u j) ∧ (∀ v, aj' r v → ∃ i, i < dg ∧ u i = v)
theorem UJ.a {rm : Nat → Prop} {aj' : Nat → Nat → Prop} {B : Nat → Nat → Nat} {r dg : Nat} {u : Nat → Nat} (h : UJ rm aj' B r dg u) : ∀ i, i < dg → aj' r (u i) := h.1
theorem UJ.n {rm : Nat → Prop} {aj' : Nat → Nat → Prop} {B : Nat → Nat → Nat} {r dg : Nat} {u : Nat → Nat} (h : UJ rm aj' B r dg u) : ∀ i, i < dg → u ((i + 1) % dg) = B r (u i) := h.2.1
theorem UJ.i {rm : Nat → Prop} {aj' : Nat → Nat → Prop} {B : Nat → Nat → Nat} {r dg : Nat} {u : Nat → Nat} (h : UJ rm aj' B r dg u) : ∀ i j, i < j → j < dg → u i ≠ u j := h.2.2.1
theorem UJ.s {rm : Nat → Prop} {aj' : Nat → Nat → Prop} {B : Nat → Nat → Nat} {r dg : Nat} {u : Nat → Nat} (h : UJ rm aj' B r dg u) : ∀ v, aj' r v → ∃ i, i < dg ∧ u i = v := h.2.2.2
theorem enu_in (D : DSK rm aj' B q b L) {r dg : Nat} {u : Nat → Nat} (hr : rm r) (U : UJ rm aj' B r dg u) (no : ∀ y, q y ≠ r) : ENU (nrx rm aj' q b) (Bx B q b L) r (fun k => u (k % dg)) dg := by
  have r9 := D.r9 r hr
  have nos : ∀ s, ¬ nrs q b r s := fun s ⟨y, _, _, e⟩ => no y e
  have d1 : 1 ≤ dg := by
    by_cases h : ∃ v, aj' r v
    · obtain ⟨v, hv⟩ := h
      obtain ⟨i, hi, _⟩ := U.s v hv
      omega
    · exfalso
      exact no 0 (D.rc (fun x => x = r) ⟨r, hr, rfl⟩ (fun x w _ e hw => by rw [e] at hw; exact absurd ⟨w, hw⟩ h) (q 0) (D.qr 0).1)
  refine enu_mk d1 (fun i hi => ⟨(D.nrq hr).mpr (Or.inl (U.a i hi)), ?_⟩) U.i (fun v hv => ?_)
  · have u9 := D.r9 _ (D.ed r _ hr (U.a i hi)).1
    rw [U.n i hi]
    unfold Bx
    rw [if_pos r9, if_neg (by omega), if_neg (fun h => ?_)]
    obtain ⟨y, _, e⟩ := bo_t.mp h
    exact no _ e.symm
  · rcases (D.nrq hr).mp hv with h | ⟨s, _, _, h⟩
    · exact U.s v h
    · exact absurd h (nos s)
def Wx (u : Nat → Nat) (pp ns lo i : Nat) : Nat := if i ≤ pp then u i else if i ≤ pp + ns then 9 + (lo + (i - pp - 1)) % 4 else u (i - ns)
theorem Wx_c (u : Nat → Nat) (pp ns lo i : Nat) : (i ≤ pp ∧ Wx u pp ns lo i = u i) ∨ (pp < i ∧ i ≤ pp + ns ∧ Wx u pp ns lo i = 9 + (lo + (i - pp - 1)) % 4) ∨ (pp + ns < i ∧ Wx u pp ns lo i = u (i - ns)) := by
  unfold Wx
  by_cases h : i ≤ pp
  · rw [if_pos h]; exact Or.inl ⟨h, rfl⟩
  · rw [if_neg h]
    by_cases h' : i ≤ pp + ns
    · rw [if_pos h']; exact Or.inr (Or.inl ⟨by omega, h', rfl⟩)
    · rw [if_neg h']; exact Or.inr (Or.inr ⟨by omega, rfl⟩)
theorem enu_out (D : DSK rm aj' B q b L) {r dg y pp : Nat} {u : Nat → Nat} (hr : rm r) (U : UJ rm aj' B r dg u) (y1 : 1 ≤ y) (yL : y ≤ L) (ey : q y = r) (hpp : pp < dg) (epp : u pp = q (y - 1)) : ENU (nrx rm aj' q b) (Bx B q b L) r (fun k => Wx u pp (nlo b L y - lo4 b y + 1) (lo4 b y) (k % (dg + (nlo b L y - lo4 b y + 1)))) (dg + (nlo b L y - lo4 b y + 1)) := by
  have r9 := D.r9 r hr
  obtain ⟨g1, g2, g3, _⟩ := D.fs y1 yL
  have lo3 := lo4_4 b y
  have ps : psn q L r = y := by rw [← ey]; exact D.ps y1 yL
  rw [ey] at g3
  obtain ⟨lo, hlo⟩ : ∃ lo, lo = lo4 b y := ⟨_, rfl⟩
  obtain ⟨ns, hns⟩ : ∃ ns, ns = nlo b L y - lo4 b y + 1 := ⟨_, rfl⟩
  rw [← hns]
  rw [← hlo] at hns g1 g2 g3 lo3 ⊢
  have ns3 : 1 ≤ ns ∧ ns ≤ 3 := by omega
  have sides : ∀ s, s < 4 → (nrs q b r s ↔ ∃ j, j < ns ∧ s = (lo + j) % 4) := fun s hs => by
    rw [g3 s hs]
    exact ⟨fun ⟨j, h1, h2⟩ => ⟨j, by omega, h2⟩, fun ⟨j, h1, h2⟩ => ⟨j, by omega, h2⟩⟩
  have u9 : ∀ i, i < dg → u i < 9 := fun i hi => D.r9 _ (D.ed r _ hr (U.a i hi)).1
  -- the steps
  have bJ : ∀ i, i < dg → i ≠ pp → Bx B q b L r (u i) = u ((i + 1) % dg) := fun i hi ne => by
    rw [U.n i hi]
    unfold Bx
    have := u9 i hi
    rw [if_pos r9, if_neg (by omega), if_neg (fun h => ?_)]
    obtain ⟨x, e1, e2⟩ := bo_t.mp h
    obtain ⟨x', h1, h2, h3, _⟩ := D.nm (x + 1)
    have ex : x' = y := by
      rcases Nat.lt_trichotomy x' y with c | c | c
      · exact absurd (h3.trans (e2.symm.trans ey.symm)) (D.qd x' y h1 c yL)
      · exact c
      · exact absurd (ey.trans (e2.trans h3.symm)) (D.qd y x' y1 c h2)
    -- the room before is the same, as B is one to one
    have k1 := (D.qr x).2.2
    have k2 := (D.qr (y - 1)).2.2
    have k3 : q (x + 2) = q (y + 1) := by
      obtain ⟨x'', m1, m2, m3, m4⟩ := D.nm (x + 1)
      have : x'' = y := by
        rcases Nat.lt_trichotomy x'' y with c | c | c
        · exact absurd (m3.trans (e2.symm.trans ey.symm)) (D.qd x'' y m1 c yL)
        · exact c
        · exact absurd (ey.trans (e2.trans m3.symm)) (D.qd y x'' y1 c m2)
      rw [this] at m4; exact m4.symm
    rw [← e2] at k1
    rw [show y - 1 + 1 = y by omega, ey, show y - 1 + 2 = y + 1 by omega] at k2
    have a1 : aj' r (q x) := by rw [e2]; exact (D.ed _ _ (D.qr x).1 (D.qr x).2.1).2.2
    have a2 : aj' r (q (y - 1)) := by rw [← epp]; exact U.a pp hpp
    have := D.ij r (q x) (q (y - 1)) hr a1 a2 (by rw [k1, k2, k3])
    rw [← e1, ← epp] at this
    rcases Nat.lt_trichotomy i pp with c | c | c
    · exact U.i i pp c hpp this
    · exact ne c
    · exact U.i pp i c hi this.symm
  have bP : Bx B q b L r (u pp) = 9 + lo := by
    unfold Bx
    have := u9 pp hpp
    rw [if_pos r9, if_neg (by omega), if_pos (bo_t.mpr ⟨y - 1, epp, by rw [show y - 1 + 1 = y by omega]; exact ey.symm⟩), ps, ← hlo]
  have bS : ∀ x, x + 1 < ns → Bx B q b L r (9 + (lo + x) % 4) = 9 + (lo + (x + 1)) % 4 := fun x hx => by
    unfold Bx
    have e : (9 + (lo + x) % 4 - 9 + 1) % 4 = (lo + (x + 1)) % 4 := by omega
    rw [if_pos r9, if_pos (by omega), e, if_pos (bo_t.mpr ((sides _ (Nat.mod_lt _ (by decide))).mpr ⟨x + 1, hx, rfl⟩))]
  have bE : Bx B q b L r (9 + (lo + (ns - 1)) % 4) = u ((pp + 1) % dg) := by
    rw [U.n pp hpp, epp]
    unfold Bx
    have e : (9 + (lo + (ns - 1)) % 4 - 9 + 1) % 4 = (lo + ns) % 4 := by omega
    rw [if_pos r9, if_pos (by omega), e, if_neg (fun h => ?_), ps]
    · have := (D.qr (y - 1)).2.2
      rw [show y - 1 + 1 = y by omega, ey, show y - 1 + 2 = y + 1 by omega] at this
      exact this.symm
    · obtain ⟨j, h1, h2⟩ := (sides _ (Nat.mod_lt _ (by decide))).mp (bo_t.mp h)
      omega
  refine enu_mk (W := Wx u pp ns lo) (by omega) (fun i hi => ⟨(D.nrq hr).mpr ?_, ?_⟩) (fun i j hij hj => ?_) (fun v hv => ?_)
  · rcases Wx_c u pp ns lo i with ⟨h, e⟩ | ⟨h1, h2, e⟩ | ⟨h, e⟩ <;> rw [e]
    · exact Or.inl (U.a i (by omega))
    · exact Or.inr ⟨_, Nat.mod_lt _ (by decide), rfl, (sides _ (Nat.mod_lt _ (by decide))).mpr ⟨i - pp - 1, by omega, rfl⟩⟩
    · exact Or.inl (U.a (i - ns) (by omega))
  · have w0 : Wx u pp ns lo 0 = u 0 := by unfold Wx; rw [if_pos (by omega)]
    have nxt' : ∀ x, x < dg → pp ≤ x → Wx u pp ns lo ((x + ns + 1) % (dg + ns)) = u ((x + 1) % dg) := fun x h1 h2 => by
      by_cases c : x + 1 < dg
      · rw [Nat.mod_eq_of_lt (show x + ns + 1 < dg + ns by omega), Nat.mod_eq_of_lt c]
        unfold Wx
        rw [if_neg (by omega), if_neg (by omega), show x + ns + 1 - ns = x + 1 by omega]
      · rw [show x + ns + 1 = dg + ns by omega, show x + 1 = dg by omega, Nat.mod_self, Nat.mod_self, w0]
    rcases Wx_c u pp ns lo i with ⟨h, e⟩ | ⟨h1, h2, e⟩ | ⟨h, e⟩ <;> rw [e]
    · by_cases c : i = pp
      · subst c
        rw [bP, Nat.mod_eq_of_lt (by omega)]
        unfold Wx
        rw [if_neg (by omega), if_pos (by omega), show i + 1 - i - 1 = 0 by omega]
        omega
      · rw [bJ i (by omega) c, Nat.mod_eq_of_lt (by omega), Nat.mod_eq_of_lt (show i + 1 < dg by omega)]
        unfold Wx
        rw [if_pos (by omega)]
    · by_cases c : i = pp + ns
      · subst c
        rw [show pp + ns - pp - 1 = ns - 1 by omega, bE]
        exact nxt' pp hpp (Nat.le_refl pp)
      · rw [bS (i - pp - 1) (by omega), Nat.mod_eq_of_lt (by omega)]
        unfold Wx
        rw [if_neg (by omega), if_pos (by omega), show i + 1 - pp - 1 = i - pp - 1 + 1 by omega]
    · rw [bJ (i - ns) (by omega) (by omega)]
      have := nxt' (i - ns) (by omega) (by omega)
      rw [show i - ns + ns + 1 = i + 1 by omega] at this
      exact this
  · rcases Wx_c u pp ns lo i with ⟨h, e⟩ | ⟨h1, h2, e⟩ | ⟨h, e⟩ <;> rcases Wx_c u pp ns lo j with ⟨k, e'⟩ | ⟨k1, k2, e'⟩ | ⟨k, e'⟩ <;> rw [e, e']
    · exact U.i i j hij (by omega)
    · have := u9 i (by omega); omega
    · exact U.i i (j - ns) (by omega) (by omega)
    · omega
    · omega
    · have := u9 (j - ns) (by omega); omega
    · omega
    · omega
    · exact U.i (i - ns) (j - ns) (by omega) (by omega)
  · rcases (D.nrq hr).mp hv with h | ⟨s, hs, e, h⟩
    · obtain ⟨i, hi, e⟩ := U.s v h
      by_cases c : i ≤ pp
      · exact ⟨i, by omega, by unfold Wx; rw [if_pos c]; exact e⟩
      · exact ⟨i + ns, by omega, by unfold Wx; rw [if_neg (by omega), if_neg (by omega), show i + ns - ns = i by omega]; exact e⟩
    · obtain ⟨j, hj, ej⟩ := (sides s hs).mp h
      refine ⟨pp + 1 + j, by omega, ?_⟩
      unfold Wx
      rw [if_neg (by omega), if_pos (by omega), show pp + 1 + j - pp - 1 = j by omega, e, ej]

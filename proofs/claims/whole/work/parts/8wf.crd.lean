-- places from paths
section CRD
variable {rm : Nat → Prop} {aj : Nat → Nat → Prop} {B : Nat → Nat → Nat} {q b : Nat → Nat} {L : Nat}
theorem DSK.be4 (D : DSK rm aj B q b L) (s : Nat) : be b L (s + 4) = be b L s + L := by
  unfold be
  rw [Nat.add_mod_right, Nat.add_div_right s (by decide), Nat.mul_succ]; omega
theorem DSK.be1 (D : DSK rm aj B q b L) (s : Nat) : be b L (s + 1) = b (s % 4 + 1) + L * (s / 4) := by
  obtain ⟨b0, _, _, _, _, b5, _⟩ := D.bm
  unfold be
  by_cases h : s % 4 = 3
  · rw [show (s + 1) % 4 = 0 by omega, show (s + 1) / 4 = s / 4 + 1 by omega, h, show b (3 + 1) = L from b5, b0, Nat.mul_succ]; omega
  · rw [show (s + 1) % 4 = s % 4 + 1 by omega, show (s + 1) / 4 = s / 4 by omega]
theorem DSK.bem (D : DSK rm aj B q b L) (s : Nat) : be b L s ≤ be b L (s + 1) := by
  rw [D.be1]
  have := D.bb (s := s % 4) (Nat.mod_lt _ (by decide))
  unfold be; omega
theorem DSK.bes (D : DSK rm aj B q b L) {r s : Nat} : nrs q b r (s % 4) ↔ ∃ y, be b L s ≤ y ∧ y ≤ be b L (s + 1) ∧ q y = r := by
  rw [D.be1]
  unfold be
  constructor
  · rintro ⟨y, y1, y2, e⟩
    exact ⟨y + L * (s / 4), by omega, by omega, by rw [D.qm]; exact e⟩
  · rintro ⟨y, y1, y2, e⟩
    refine ⟨y - L * (s / 4), by omega, by omega, ?_⟩
    have := D.qm (s / 4) (y - L * (s / 4))
    rw [show y - L * (s / 4) + L * (s / 4) = y by omega] at this
    rw [← this]; exact e
def NQa (rm : Nat → Prop) (aj : Nat → Nat → Prop) (sd : Nat → Nat → Nat) : Prop := ∀ (t K : Nat) (c : Nat → Nat), t < 4 → 1 ≤ K → c K = c 0 → (∀ i, i < K → rm (c i) ∧ aj (c i) (c (i + 1)) ∧ sd (c i) (c (i + 1)) = t) → False
theorem go_on (D : DSK rm aj B q b L) {sd : Nat → Nat → Nat} (Y : LYa rm (nrx rm aj q b) (Bx B q b L) sd) (NQ : NQa rm aj sd) {r t : Nat} (hr : rm r) (ht : t < 4) : ∃ (K : Nat) (c : Nat → Nat), c 0 = r ∧ (∀ i, i < K → rm (c i) ∧ aj (c i) (c (i + 1)) ∧ sd (c i) (c (i + 1)) = t) ∧ nrs q b (c K) t := by
  have step : ∀ x, ∃ v, rm x ∧ ¬ nrs q b x t → aj x v ∧ sd x v = t := fun x => by
    by_cases h : rm x ∧ ¬ nrs q b x t
    · obtain ⟨v, n, e, _⟩ := Y.on x t h.1 ht
      rcases D.nrr h.1 n with k | ⟨s, s4, es, k⟩
      · exact ⟨v, fun _ => ⟨k, e⟩⟩
      · subst es
        have := Y.sd x s h.1 s4 n
        rw [e] at this
        subst this
        exact absurd k h.2
    · exact ⟨0, fun z => absurd z h⟩
  obtain ⟨gn, hg⟩ : ∃ gn : Nat → Nat, ∀ x, rm x ∧ ¬ nrs q b x t → aj x (gn x) ∧ sd x (gn x) = t := ⟨fun x => (step x).choose, fun x => (step x).choose_spec⟩
  obtain ⟨X, X0, Xs⟩ : ∃ X : Nat → Nat, X 0 = r ∧ ∀ k, X (k + 1) = gn (X k) := ⟨fun k => Nat.rec r (fun _ x => gn x) k, rfl, fun _ => rfl⟩
  have run : ∀ K, (∀ i, i < K → ¬ nrs q b (X i) t) → rm (X K) ∧ ∀ i, i < K → rm (X i) ∧ aj (X i) (X (i + 1)) ∧ sd (X i) (X (i + 1)) = t := fun K => by
    induction K with
    | zero => intro _; exact ⟨by rw [X0]; exact hr, fun i hi => absurd hi (Nat.not_lt_zero i)⟩
    | succ K ih =>
      intro h
      obtain ⟨h1, h2⟩ := ih (fun i hi => h i (by omega))
      have g := hg (X K) ⟨h1, h K (by omega)⟩
      refine ⟨by rw [Xs]; exact (D.ed _ _ h1 g.1).1, fun i hi => ?_⟩
      by_cases e : i = K
      · subst e; rw [Xs]; exact ⟨h1, g⟩
      · exact h2 i (by omega)
  have least : ∀ N, nrs q b (X N) t → ∃ K, nrs q b (X K) t ∧ ∀ i, i < K → ¬ nrs q b (X i) t := fun N => by
    induction N using Nat.strongRecOn with
    | ind N IH =>
      intro h
      by_cases e : ∃ i, i < N ∧ nrs q b (X i) t
      · obtain ⟨i, h1, h2⟩ := e
        exact IH i h1 h2
      · exact ⟨N, h, fun i hi z => e ⟨i, hi, z⟩⟩
  by_cases ex : ∃ N, nrs q b (X N) t
  · obtain ⟨N, hN⟩ := ex
    obtain ⟨K, k1, k2⟩ := least N hN
    exact ⟨K, X, X0, (run K k2).2, k1⟩
  · exfalso
    have all := fun K => run K (fun i _ z => ex ⟨i, z⟩)
    obtain ⟨i, j, h1, h2, h3⟩ := pig 9 X (fun k _ => D.r9 _ (all k).1)
    refine NQ t (j - i) (fun k => X (i + k)) ht (by omega) (by show X (i + (j - i)) = X (i + 0); rw [show i + (j - i) = j by omega, Nat.add_zero]; exact h3.symm) (fun k _ => ?_)
    exact (all (i + k + 1)).2 (i + k) (by omega)
/-- from side to side through two rooms, one behind the other, or the same -/
theorem path_ex (D : DSK rm aj B q b L) {sd : Nat → Nat → Nat} (Y : LYa rm (nrx rm aj q b) (Bx B q b L) sd) (NQ : NQa rm aj sd) {a e t : Nat} (ha : rm a) (he : rm e) (ht : t < 4) (h : a = e ∨ (aj a e ∧ sd a e = t)) : ∃ (K : Nat) (c : Nat → Nat), (∀ i, i < K → rm (c i) ∧ aj (c i) (c (i + 1)) ∧ sd (c i) (c (i + 1)) = t) ∧ nrs q b (c 0) ((t + 2) % 4) ∧ nrs q b (c K) t ∧ (∃ i, i ≤ K ∧ c i = a) ∧ ∃ i, i ≤ K ∧ c i = e := by
  obtain ⟨K1, c1, f0, f1, f2⟩ := go_on D Y NQ he ht
  obtain ⟨K2, c2, g0, g1, g2⟩ := go_on D Y NQ ha (show (t + 2) % 4 < 4 from Nat.mod_lt _ (by decide))
  -- forward from a
  obtain ⟨K3, c3, h0, h1, h2, h3⟩ : ∃ (K3 : Nat) (c3 : Nat → Nat), c3 0 = a ∧ (∀ i, i < K3 → rm (c3 i) ∧ aj (c3 i) (c3 (i + 1)) ∧ sd (c3 i) (c3 (i + 1)) = t) ∧ nrs q b (c3 K3) t ∧ ∃ i, i ≤ K3 ∧ c3 i = e := by
    rcases h with h | h
    · exact ⟨K1, c1, by rw [f0, h], f1, f2, 0, Nat.zero_le _, f0⟩
    · refine ⟨K1 + 1, fun i => if i = 0 then a else c1 (i - 1), if_pos rfl, fun i hi => ?_, ?_, 1, by omega, ?_⟩
      · by_cases z : i = 0
        · subst z
          show rm (if 0 = 0 then a else _) ∧ aj (if 0 = 0 then a else _) (if 0 + 1 = 0 then a else c1 (0 + 1 - 1)) ∧ sd (if 0 = 0 then a else _) (if 0 + 1 = 0 then a else c1 (0 + 1 - 1)) = t
          rw [if_pos rfl, if_neg (by omega), show 0 + 1 - 1 = 0 from rfl, f0]
          exact ⟨ha, h⟩
        · show rm (if i = 0 then a else c1 (i - 1)) ∧ aj (if i = 0 then a else c1 (i - 1)) (if i + 1 = 0 then a else c1 (i + 1 - 1)) ∧ sd (if i = 0 then a else c1 (i - 1)) (if i + 1 = 0 then a else c1 (i + 1 - 1)) = t
          rw [if_neg z, if_neg (by omega), show i + 1 - 1 = i - 1 + 1 by omega]
          exact f1 (i - 1) (by omega)
      · show nrs q b (if K1 + 1 = 0 then a else c1 (K1 + 1 - 1)) t
        rw [if_neg (by omega), show K1 + 1 - 1 = K1 by omega]; exact f2
      · show (if 1 = 0 then a else c1 (1 - 1)) = e
        rw [if_neg (by decide)]; exact f0
  refine ⟨K2 + K3, fun i => if i ≤ K2 then c2 (K2 - i) else c3 (i - K2), fun i hi => ?_, ?_, ?_, ⟨K2, by omega, ?_⟩, ?_⟩
  · by_cases z : i + 1 ≤ K2
    · show rm (if i ≤ K2 then c2 (K2 - i) else c3 (i - K2)) ∧ aj (if i ≤ K2 then c2 (K2 - i) else c3 (i - K2)) (if i + 1 ≤ K2 then c2 (K2 - (i + 1)) else c3 (i + 1 - K2)) ∧ sd (if i ≤ K2 then c2 (K2 - i) else c3 (i - K2)) (if i + 1 ≤ K2 then c2 (K2 - (i + 1)) else c3 (i + 1 - K2)) = t
      rw [if_pos (by omega), if_pos z]
      obtain ⟨x1, x2, x3⟩ := g1 (K2 - (i + 1)) (by omega)
      rw [show K2 - (i + 1) + 1 = K2 - i by omega] at x2 x3
      obtain ⟨y1, _, y3⟩ := D.ed _ _ x1 x2
      have o := Y.op _ _ x1 y1 (Or.inl ⟨x1, x2⟩)
      exact ⟨y1, y3, by omega⟩
    · show rm (if i ≤ K2 then c2 (K2 - i) else c3 (i - K2)) ∧ aj (if i ≤ K2 then c2 (K2 - i) else c3 (i - K2)) (if i + 1 ≤ K2 then c2 (K2 - (i + 1)) else c3 (i + 1 - K2)) ∧ sd (if i ≤ K2 then c2 (K2 - i) else c3 (i - K2)) (if i + 1 ≤ K2 then c2 (K2 - (i + 1)) else c3 (i + 1 - K2)) = t
      rw [if_neg z]
      have x := h1 (i - K2) (by omega)
      rw [show i + 1 - K2 = i - K2 + 1 by omega]
      by_cases y : i ≤ K2
      · rw [if_pos y, show K2 - i = 0 by omega, g0]
        rw [show i - K2 = 0 by omega, h0] at x
        rw [show i - K2 + 1 = 0 + 1 by omega]
        exact x
      · rw [if_neg y]; exact x
  · show nrs q b (if 0 ≤ K2 then c2 (K2 - 0) else _) _
    rw [if_pos (Nat.zero_le _)]; exact g2
  · show nrs q b (if K2 + K3 ≤ K2 then c2 (K2 - (K2 + K3)) else c3 (K2 + K3 - K2)) t
    by_cases z : K2 + K3 ≤ K2
    · rw [if_pos z, show K2 - (K2 + K3) = 0 by omega, g0]
      rw [show K3 = 0 by omega, h0] at h2; exact h2
    · rw [if_neg z, show K2 + K3 - K2 = K3 by omega]; exact h2
  · show (if K2 ≤ K2 then c2 (K2 - K2) else _) = a
    rw [if_pos (Nat.le_refl _), Nat.sub_self]; exact g0
  · obtain ⟨i, i1, i2⟩ := h3
    refine ⟨K2 + i, by omega, ?_⟩
    show (if K2 + i ≤ K2 then c2 (K2 - (K2 + i)) else c3 (K2 + i - K2)) = e
    by_cases z : K2 + i ≤ K2
    · rw [if_pos z, show K2 - (K2 + i) = 0 by omega, g0]
      rw [show i = 0 by omega, h0] at i2; exact i2
    · rw [if_neg z, show K2 + i - K2 = i by omega]; exact i2
/-- what one path adds to the places -/
def PBt (rm : Nat → Prop) (aj : Nat → Nat → Prop) (q b : Nat → Nat) (sd : Nat → Nat → Nat) (t : Nat) (l h : Nat → Nat) : Prop := (∀ r, l r ≤ h r ∧ h r ≤ 1) ∧ (∀ r, nrs q b r ((t + 3) % 4) → l r = 0) ∧ (∀ r, nrs q b r ((t + 1) % 4) → h r = 1) ∧ (∀ i j, rm i → aj i j → sd i j = (t + 1) % 4 → h i = l j) ∧ (∀ i j, rm i → aj i j → sd i j = t → l i ≤ h j ∧ l j ≤ h i)
theorem path_bits (D : DSK rm aj B q b L) (KP : KPa rm aj B q) {sd : Nat → Nat → Nat} (Y : LYa rm (nrx rm aj q b) (Bx B q b L) sd) (NQ : NQa rm aj sd) {t K : Nat} {c : Nat → Nat} (ht : t < 4) (st : ∀ i, i < K → rm (c i) ∧ aj (c i) (c (i + 1)) ∧ sd (c i) (c (i + 1)) = t) (s0 : nrs q b (c 0) ((t + 2) % 4)) (sK : nrs q b (c K) t) : ∃ (l h : Nat → Nat), PBt rm aj q b sd t l h ∧ ∀ i, i ≤ K → l (c i) = 0 ∧ h (c i) = 1 := by
  have G := D.gp
  have rmc : ∀ i, i ≤ K → rm (c i) := fun i hi => by
    by_cases e : i = K
    · rw [e]; exact D.nrm sK
    · exact (st i (by omega)).1
  have dis : ∀ i j, i < j → j ≤ K → c i ≠ c j := fun i j hij hj e => NQ t (j - i) (fun k => c (i + k)) ht (by omega) (by show c (i + (j - i)) = c (i + 0); rw [show i + (j - i) = j by omega, Nat.add_zero]; exact e.symm) (fun k hk => st (i + k) (by omega))
  have uq : ∀ i j, i ≤ K → j ≤ K → c i = c j → i = j := fun i j hi hj e => by
    rcases Nat.lt_trichotomy i j with z | z | z
    · exact absurd e (dis i j z hj)
    · exact z
    · exact absurd e.symm (dis j i z hi)
  -- the ends on the outline
  obtain ⟨y0, a1, a2, r0⟩ := D.bes.mp s0
  obtain ⟨y1, a3, a4, r1⟩ := (D.bes (s := t + 4)).mp (by rw [Nat.add_mod_right, Nat.mod_eq_of_lt ht]; exact sK)
  have m1 := D.bem (t + 2)
  have m2 := D.bem (t + 3)
  have m3 := D.bem (t + 4)
  have m4 := D.bem (t + 5)
  have m5 := D.be4 (t + 2)
  have m6 := D.be4 (t + 1)
  simp only [Nat.add_assoc, Nat.reduceAdd] at a2 a4 m1 m2 m3 m4 m5 m6
  obtain ⟨n, hn⟩ : ∃ n, n = y1 - y0 := ⟨_, rfl⟩
  have e1 : y1 = y0 + n := by omega
  have nL : n ≤ L := by omega
  subst e1
  obtain ⟨mu, w1, w2, w3, w4⟩ := path_mu D KP (n := n) ht (fun i hi => ⟨(st i hi).1, (st i hi).2.1⟩) r0.symm r1.symm s0 sK
  obtain ⟨onP, hon⟩ : ∃ onP : Nat → Prop, onP = fun r => ∃ i, i ≤ K ∧ c i = r := ⟨_, rfl⟩
  have onc : ∀ i, i ≤ K → onP (c i) := fun i hi => by rw [hon]; exact ⟨i, hi, rfl⟩
  -- away from the path
  have off : ∀ r, rm r → ¬ onP r → ∀ u v, nrx rm aj q b r u → nrx rm aj q b r v → mu r u = mu r v := fun r hr no u v hu hv => by
    have no' : ∀ i, i ≤ K → c i ≠ r := fun i hi e => no (by rw [hon]; exact ⟨i, hi, e⟩)
    have fl : ∀ x, nrx rm aj q b r x → mu r (Bx B q b L r x) = mu r x := fun x hx => by
      rw [w1 r x hr hx]
      have : (if x < 9 then wk c K r x else xor (bo (x = 9 + t ∧ r = c K)) (bo (x = 9 + (t + 2) % 4 ∧ r = c 0))) = false := by
        by_cases z : x < 9
        · rw [if_pos z]
          exact xf_0 K (fun i hi => bo_f.mpr (fun z => by
            rcases z with z | z
            · exact no' i (by omega) z.1.symm
            · exact no' (i + 1) (by omega) z.1.symm))
        · rw [if_neg z, bo_f.mpr (fun z => no' K (Nat.le_refl K) z.2.symm), bo_f.mpr (fun z => no' 0 (Nat.zero_le K) z.2.symm)]; rfl
      rw [this]; cases mu r x <;> rfl
    exact (G.tv r (fun x => mu r x = mu r v) ⟨v, hv, rfl⟩ (fun x hx e => (fl x hx).trans e)) u hu
  -- on the path
  have blk : ∀ i, i ≤ K → ∃ ex en, (ex = if i < K then c (i + 1) else 9 + t) ∧ (en = if 0 < i then c (i - 1) else 9 + (t + 2) % 4) ∧ nrx rm aj q b (c i) ex ∧ nrx rm aj q b (c i) en ∧ mu (c i) en = (!mu (c i) ex) ∧ ∀ v, nrx rm aj q b (c i) v → (sd (c i) v = (t + 1) % 4 → mu (c i) v = !mu (c i) ex) ∧ (sd (c i) v = (t + 3) % 4 → mu (c i) v = mu (c i) ex) := fun i hi => by
    have hr := rmc i hi
    have X : nrx rm aj q b (c i) (if i < K then c (i + 1) else 9 + t) ∧ sd (c i) (if i < K then c (i + 1) else 9 + t) = t := by
      by_cases z : i < K
      · rw [if_pos z]; exact ⟨Or.inl ⟨hr, (st i z).2.1⟩, (st i z).2.2⟩
      · rw [if_neg z]
        have hs : nrx rm aj q b (c i) (9 + t) := Or.inr (Or.inl ⟨t, ht, rfl, by rw [show i = K by omega]; exact sK⟩)
        exact ⟨hs, Y.sd _ t hr ht hs⟩
    have N : nrx rm aj q b (c i) (if 0 < i then c (i - 1) else 9 + (t + 2) % 4) ∧ sd (c i) (if 0 < i then c (i - 1) else 9 + (t + 2) % 4) = (t + 2) % 4 := by
      by_cases z : 0 < i
      · rw [if_pos z]
        obtain ⟨x1, x2, x3⟩ := st (i - 1) (by omega)
        rw [show i - 1 + 1 = i by omega] at x2 x3
        have back := (D.ed _ _ x1 x2).2.2
        have o := Y.op _ _ x1 hr (Or.inl ⟨x1, x2⟩)
        exact ⟨Or.inl ⟨hr, back⟩, by omega⟩
      · rw [if_neg z]
        have hs : nrx rm aj q b (c i) (9 + (t + 2) % 4) := Or.inr (Or.inl ⟨_, Nat.mod_lt _ (by decide), rfl, by rw [show i = 0 by omega]; exact s0⟩)
        exact ⟨hs, Y.sd _ _ hr (Nat.mod_lt _ (by decide)) hs⟩
    have fl : ∀ v, nrx rm aj q b (c i) v → ((if v < 9 then wk c K (c i) v else xor (bo (v = 9 + t ∧ c i = c K)) (bo (v = 9 + (t + 2) % 4 ∧ c i = c 0))) = true ↔ v = (if i < K then c (i + 1) else 9 + t) ∨ v = (if 0 < i then c (i - 1) else 9 + (t + 2) % 4)) := fun v hv => by
      by_cases z : v < 9
      · rw [if_pos z]
        by_cases k1 : i < K ∧ v = c (i + 1)
        · rw [if_pos k1.1]
          refine ⟨fun _ => Or.inl k1.2, fun _ => ?_⟩
          show xf _ K = true
          rw [xf_1 (i := i) K k1.1 (fun j hj nj => bo_f.mpr (fun y => by
            rcases y with y | y
            · exact nj (uq i j hi (by omega) y.1).symm
            · have e1 := uq i (j + 1) hi (by omega) y.1
              have e2 := uq (i + 1) j (by omega) (by omega) (k1.2.symm.trans y.2)
              omega)), bo_t.mpr (Or.inl ⟨rfl, k1.2⟩)]
        · by_cases k2 : 0 < i ∧ v = c (i - 1)
          · rw [if_pos k2.1]
            refine ⟨fun _ => Or.inr k2.2, fun _ => ?_⟩
            show xf _ K = true
            rw [xf_1 (i := i - 1) K (by omega) (fun j hj nj => bo_f.mpr (fun y => by
              rcases y with y | y
              · have e1 := uq i j hi (by omega) y.1
                have e2 := uq (i - 1) (j + 1) (by omega) (by omega) (k2.2.symm.trans y.2)
                omega
              · have e1 := uq i (j + 1) hi (by omega) y.1
                omega)), bo_t.mpr (Or.inr ⟨by rw [show i - 1 + 1 = i by omega], k2.2⟩)]
          · have no : ¬ (v = (if i < K then c (i + 1) else 9 + t) ∨ v = (if 0 < i then c (i - 1) else 9 + (t + 2) % 4)) := fun y => by
              rcases y with y | y
              · by_cases z1 : i < K
                · rw [if_pos z1] at y; exact k1 ⟨z1, y⟩
                · rw [if_neg z1] at y; omega
              · by_cases z1 : 0 < i
                · rw [if_pos z1] at y; exact k2 ⟨z1, y⟩
                · rw [if_neg z1] at y; omega
            refine ⟨fun y => ?_, fun y => absurd y no⟩
            have : wk c K (c i) v = false := xf_0 K (fun j hj => bo_f.mpr (fun y => by
              rcases y with y | y
              · have e1 := uq i j hi (by omega) y.1
                subst e1
                exact k1 ⟨hj, y.2⟩
              · have e1 := uq i (j + 1) hi (by omega) y.1
                subst e1
                exact k2 ⟨by omega, by rw [show j + 1 - 1 = j by omega]; exact y.2⟩))
            rw [this] at y; exact absurd y (by decide)
      · rw [if_neg z]
        have v9 : ∀ j, j ≤ K → v ≠ c j := fun j hj e => by have := D.r9 _ (rmc j hj); omega
        by_cases k1 : v = 9 + t ∧ c i = c K
        · have iK := uq i K hi (Nat.le_refl K) k1.2
          rw [bo_t.mpr k1, bo_f.mpr (fun y => by omega), if_neg (by omega)]
          exact ⟨fun _ => Or.inl k1.1, fun _ => rfl⟩
        · by_cases k2 : v = 9 + (t + 2) % 4 ∧ c i = c 0
          · have i0 := uq i 0 hi (Nat.zero_le K) k2.2
            rw [bo_f.mpr k1, bo_t.mpr k2, if_neg (show ¬ 0 < i by omega)]
            exact ⟨fun _ => Or.inr k2.1, fun _ => rfl⟩
          · rw [bo_f.mpr k1, bo_f.mpr k2]
            refine ⟨fun y => absurd y (by decide), fun y => ?_⟩
            exfalso
            rcases y with y | y
            · by_cases z1 : i < K
              · rw [if_pos z1] at y; exact v9 _ (by omega) y
              · rw [if_neg z1] at y; exact k1 ⟨y, by rw [show i = K by omega]⟩
            · by_cases z1 : 0 < i
              · rw [if_pos z1] at y; exact v9 _ (by omega) y
              · rw [if_neg z1] at y; exact k2 ⟨y, by rw [show i = 0 by omega]⟩
    obtain ⟨p1, p2⟩ := block G Y hr ht (mu := mu (c i)) (Pp := fun v => if v < 9 then wk c K (c i) v else xor (bo (v = 9 + t ∧ c i = c K)) (bo (v = 9 + (t + 2) % 4 ∧ c i = c 0))) (fun v hv => w1 _ v hr hv) X.1 N.1 X.2 N.2 fl
    exact ⟨_, _, rfl, rfl, X.1, N.1, p1, p2⟩
  -- the arc's colour
  have inarc : ∀ i, i < n → xf (fun j => bo (q (y0 + j) = q (y0 + i))) n = true := fun i hi => by
    rw [xf_1 (i := i) n hi (fun j hj nj => bo_f.mpr (fun e => by
      rcases Nat.lt_or_ge j i with z | z
      · exact D.q1 (show y0 + j < y0 + i by omega) (by omega) e
      · exact D.q1 (show y0 + i < y0 + j by omega) (by omega) e.symm)), bo_t.mpr rfl]
  -- the last room's side lies to the right
  have top : mu (c K) (9 + t) = true := by
    obtain ⟨y, h1, h2, ey⟩ := D.at1 ht sK
    obtain ⟨f1, f2, f3, f4⟩ := D.fs h1 h2
    have l4 := lo4_4 b y
    have hq : rm (q y) := (D.qr y).1
    have stt : ∀ j, j + 1 ≤ nlo b L y - lo4 b y → mu (q y) (9 + (lo4 b y + (j + 1)) % 4) = xor (mu (q y) (9 + (lo4 b y + j) % 4)) (xor (bo ((lo4 b y + j) % 4 = t ∧ q y = c K)) (bo ((lo4 b y + j) % 4 = (t + 2) % 4 ∧ q y = c 0))) := fun j hj => by
      have x := w1 _ _ hq (D.nrj h1 h2 (show j ≤ nlo b L y - lo4 b y by omega))
      rw [D.x2 h1 h2 hj, if_neg (by omega)] at x
      rw [x]
      congr 2
      · exact bo_cg ⟨fun z => ⟨by omega, z.2⟩, fun z => ⟨by omega, z.2⟩⟩
      · exact bo_cg ⟨fun z => ⟨by omega, z.2⟩, fun z => ⟨by omega, z.2⟩⟩
    have z0 : mu (q y) (9 + (lo4 b y + 0) % 4) = xf (fun i => bo (q (y0 + i) = q (y - 1))) n := by
      rw [Nat.add_zero, Nat.mod_eq_of_lt l4]; exact w4 y h1 h2
    have pre : 1 ≤ n → xf (fun i => bo (q (y0 + i) = q (y - 1))) n = true := fun n1 => by
      have e : q (y - 1) = q (y0 + (n - 1)) := D.qs.mpr (by rw [show y - 1 + 1 = y by omega, show y0 + (n - 1) + 1 = y0 + n by omega, ← ey]; exact r1.symm)
      rw [e]; exact inarc (n - 1) (by omega)
    rw [ey]
    rw [ey] at sK
    obtain ⟨jt, hjt, ejt⟩ := (f3 t ht).mp sK
    by_cases K0 : K = 0
    · subst K0
      have c0 : q y = c 0 := ey.symm
      have s2 := s0
      rw [← c0] at s2
      obtain ⟨j2, hj2, ej2⟩ := (f3 _ (Nat.mod_lt _ (by decide))).mp s2
      by_cases n0 : n = 0
      · -- the arc is empty: south, west, north in this order
        have s3 : nrs q b (q y) ((t + 3) % 4) := by
          rw [c0]
          exact D.bes.mpr ⟨y0, by omega, by simp only [Nat.add_assoc, Nat.reduceAdd]; omega, r0⟩
        obtain ⟨j3, hj3, ej3⟩ := (f3 _ (Nat.mod_lt _ (by decide))).mp s3
        have x1 : j2 = 0 ∧ j3 = 1 ∧ jt = 2 := by omega
        have y1' := stt 0 (by omega)
        have y2' := stt 1 (by omega)
        rw [z0, show xf (fun i => bo (q (y0 + i) = q (y - 1))) n = false by rw [n0]; rfl, bo_f.mpr (fun z => by omega), bo_t.mpr ⟨by omega, c0⟩] at y1'
        rw [y1', bo_f.mpr (fun z => by omega), bo_f.mpr (fun z => by omega)] at y2'
        rw [show 9 + t = 9 + (lo4 b y + (1 + 1)) % 4 by omega, y2']; rfl
      · -- all the turn: north, east, south
        have nn : n = L := by
          rcases Nat.lt_or_ge n L with z | z
          · exact absurd (r0.trans r1.symm) (D.q1 (show y0 < y0 + n by omega) (by omega))
          · omega
        have s1 : nrs q b (q y) ((t + 5) % 4) := by
          rw [c0]
          exact D.bes.mpr ⟨y0 + n, by omega, by simp only [Nat.add_assoc, Nat.reduceAdd]; omega, r1⟩
        obtain ⟨j1, hj1, ej1⟩ := (f3 _ (Nat.mod_lt _ (by decide))).mp s1
        have x1 : jt = 0 := by omega
        rw [show 9 + t = 9 + (lo4 b y + 0) % 4 by rw [← x1]; omega, z0]
        exact pre (by omega)
    · have c0 : q y ≠ c 0 := fun e => K0 (uq K 0 (Nat.le_refl K) (Nat.zero_le K) (ey.trans e))
      have n1 : 1 ≤ n := by
        rcases Nat.eq_zero_or_pos n with z | z
        · rw [z, Nat.add_zero] at r1
          exact absurd (ey.symm.trans (r1.symm.trans r0)) c0
        · exact z
      have run : ∀ j, j ≤ jt → mu (q y) (9 + (lo4 b y + j) % 4) = true := fun j => by
        induction j with
        | zero => intro _; rw [z0]; exact pre n1
        | succ j ih =>
          intro hj
          rw [stt j (by omega), ih (by omega), bo_f.mpr (fun z => by omega), bo_f.mpr (fun z => c0 z.2)]; rfl
      rw [show 9 + t = 9 + (lo4 b y + jt) % 4 by omega]
      exact run jt (Nat.le_refl jt)
  have left : ∀ d i, i + d = K → mu (c i) (if i < K then c (i + 1) else 9 + t) = true := fun d => by
    induction d with
    | zero => intro i e; rw [show i = K by omega, if_neg (Nat.lt_irrefl K)]; exact top
    | succ d ih =>
      intro i e
      rw [if_pos (show i < K by omega)]
      have hi := ih (i + 1) (by omega)
      obtain ⟨ex, en, eex, een, _, _, p1, _⟩ := blk (i + 1) (by omega)
      rw [← eex] at hi
      rw [hi, een, if_pos (by omega), show i + 1 - 1 = i by omega] at p1
      have x := w2 _ _ (rmc i (by omega)) (st i (by omega)).2.1
      have wt : wk c K (c i) (c (i + 1)) = true := by
        show xf _ K = true
        rw [xf_1 (i := i) K (by omega) (fun j hj nj => bo_f.mpr (fun y => by
          rcases y with y | y
          · exact nj (uq i j (by omega) (by omega) y.1).symm
          · have e1 := uq i (j + 1) (by omega) (by omega) y.1
            have e2 := uq (i + 1) j (by omega) (by omega) y.2
            omega)), bo_t.mpr (Or.inl ⟨rfl, rfl⟩)]
      rw [p1, wt] at x
      cases hz : mu (c i) (c (i + 1)) with
      | true => rfl
      | false => rw [hz] at x; exact absurd x (by decide)
  have east : ∀ r v, onP r → aj r v → sd r v = (t + 1) % 4 → mu r v = false := fun r v h hv e => by
    rw [hon] at h
    obtain ⟨i, hi, rfl⟩ := h
    obtain ⟨ex, en, eex, een, _, _, _, p2⟩ := blk i hi
    have l := left (K - i) i (by omega)
    rw [← eex] at l
    rw [(p2 v (Or.inl ⟨rmc i hi, hv⟩)).1 e, l]; rfl
  have west : ∀ r v, onP r → aj r v → sd r v = (t + 3) % 4 → mu r v = true := fun r v h hv e => by
    rw [hon] at h
    obtain ⟨i, hi, rfl⟩ := h
    obtain ⟨ex, en, eex, een, _, _, _, p2⟩ := blk i hi
    have l := left (K - i) i (by omega)
    rw [← eex] at l
    rw [(p2 v (Or.inl ⟨rmc i hi, hv⟩)).2 e, l]
  have onr : ∀ r, onP r → rm r := fun r h => by rw [hon] at h; obtain ⟨i, hi, rfl⟩ := h; exact rmc i hi
  -- the colour of a room away from the path
  obtain ⟨lf, hlf⟩ : ∃ lf : Nat → Prop, lf = fun r => ∃ v, aj r v ∧ mu r v = true := ⟨_, rfl⟩
  have lf_i : ∀ r v, rm r → ¬ onP r → aj r v → (lf r ↔ mu r v = true) := fun r v hr no hv => by
    rw [hlf]
    exact ⟨fun ⟨u, hu, e⟩ => by rw [off r hr no v u (Or.inl ⟨hr, hv⟩) (Or.inl ⟨hr, hu⟩)]; exact e, fun e => ⟨v, hv, e⟩⟩
  have same : ∀ i j, rm i → aj i j → sd i j ≠ t → sd i j ≠ (t + 2) % 4 → mu j i = mu i j := fun i j hi hj n1 n2 => by
    rw [w2 i j hi hj]
    have : wk c K i j = false := xf_0 K (fun k hk => bo_f.mpr (fun z => by
      rcases z with ⟨rfl, rfl⟩ | ⟨rfl, rfl⟩
      · exact n1 (st k hk).2.2
      · have o := Y.op _ _ (st k hk).1 hi (Or.inl ⟨(st k hk).1, (st k hk).2.1⟩)
        exact n2 (by rw [o, (st k hk).2.2])))
    rw [this]; cases mu i j <;> rfl
  have same' : ∀ i j, rm i → aj i j → ¬ onP i → mu j i = mu i j := fun i j hi hj no => by
    rw [w2 i j hi hj]
    have : wk c K i j = false := xf_0 K (fun k hk => bo_f.mpr (fun z => no (by
      rcases z with z | z
      · rw [z.1]; exact onc k (by omega)
      · rw [z.1]; exact onc (k + 1) (by omega))))
    rw [this]; cases mu i j <;> rfl
  refine ⟨fun r => ic (¬ onP r ∧ ¬ lf r), fun r => ic (onP r ∨ ¬ lf r), ⟨fun r => ⟨ic_le (fun z => Or.inr z.2), ic_1⟩, fun r h => ?_, fun r h => ?_, fun i j hi hj e => ?_, fun i j hi hj e => ?_⟩, fun i hi => ⟨ic_f (fun z => z.1 (onc i hi)), ic_t (Or.inl (onc i hi))⟩⟩
  · -- at the low side
    refine ic_f (fun ⟨no, nl⟩ => nl ?_)
    obtain ⟨z, z1, z2, z3⟩ := D.bes.mp h
    simp only [Nat.add_assoc, Nat.reduceAdd] at z2
    have hr : rm r := D.nrm h
    have zy0 : z ≠ y0 := fun e => no (by rw [← z3, e, r0]; exact onc 0 (Nat.zero_le K))
    have zy1 : z ≠ y0 + n := fun e => no (by rw [← z3, e, r1]; exact onc K (Nat.le_refl K))
    have x := w3 z
    have y := inarc (z - y0) (by omega)
    rw [show y0 + (z - y0) = z by omega] at y
    rw [y, z3] at x
    have := (D.qr z).2.1
    rw [z3] at this
    rw [hlf]; exact ⟨_, this, x⟩
  · -- at the high side
    refine ic_t (Classical.not_not.mp (fun no => ?_))
    have no1 : ¬ onP r := fun z => no (Or.inl z)
    have yes : lf r := Classical.not_not.mp (fun z => no (Or.inr z))
    obtain ⟨z, z1, z2, z3⟩ := (D.bes (s := t + 5)).mp (by rw [show (t + 5) % 4 = (t + 1) % 4 by omega]; exact h)
    simp only [Nat.add_assoc, Nat.reduceAdd] at z2
    have hr : rm r := D.nrm h
    have zy1 : z ≠ y0 + n := fun e => no1 (by rw [← z3, e, r1]; exact onc K (Nat.le_refl K))
    have zy0 : z ≠ y0 + L := fun e => no1 (by rw [← z3, e, D.qp, r0]; exact onc 0 (Nat.zero_le K))
    have x := w3 z
    have a := (D.qr z).2.1
    rw [z3] at a x
    rw [(lf_i r _ hr no1 a).mp yes] at x
    have : xf (fun i => bo (q (y0 + i) = r)) n = false := xf_0 n (fun i hi => bo_f.mpr (fun e => D.q1 (show y0 + i < z by omega) (by omega) (e.trans z3.symm)))
    rw [this] at x; exact absurd x (by decide)
  · -- beside one another
    have hj' := (D.ed _ _ hi hj).1
    have ji := (D.ed _ _ hi hj).2.2
    have o := Y.op i j hi hj' (Or.inl ⟨hi, hj⟩)
    have sm := same i j hi hj (by omega) (by omega)
    show ic (onP i ∨ ¬ lf i) = ic (¬ onP j ∧ ¬ lf j)
    by_cases pi : onP i
    · have ei := east i j pi hj e
      by_cases pj : onP j
      · have wj := west j i pj ji (by omega)
        rw [sm, ei] at wj; exact absurd wj (by decide)
      · have nl : ¬ lf j := fun z => by
          have := (lf_i j i hj' pj ji).mp z
          rw [sm, ei] at this; exact absurd this (by decide)
        rw [ic_t (Or.inl pi), ic_t ⟨pj, nl⟩]
    · by_cases pj : onP j
      · have wj := west j i pj ji (by omega)
        have yl : lf i := (lf_i i j hi pi hj).mpr (by rw [← sm]; exact wj)
        rw [ic_f (fun z => z.elim pi (fun z => z yl)), ic_f (fun z => z.1 pj)]
      · have iff : lf i ↔ lf j := by rw [lf_i i j hi pi hj, lf_i j i hj' pj ji, sm]
        exact ic_cg ⟨fun z => ⟨pj, fun y => z.elim pi (fun z => z (iff.mpr y))⟩, fun z => Or.inr (fun y => z.2 (iff.mp y))⟩
  · -- above one another
    have hj' := (D.ed _ _ hi hj).1
    have ji := (D.ed _ _ hi hj).2.2
    constructor
    · refine ic_le (fun ⟨z1, z2⟩ => ?_)
      by_cases pj : onP j
      · exact Or.inl pj
      · refine Or.inr (fun y => z2 ?_)
        rw [lf_i i j hi z1 hj, ← same' i j hi hj z1]
        exact (lf_i j i hj' pj ji).mp y
    · refine ic_le (fun ⟨z1, z2⟩ => ?_)
      by_cases pi : onP i
      · exact Or.inl pi
      · refine Or.inr (fun y => z2 ?_)
        rw [lf_i j i hj' z1 ji, ← same' j i hj' ji z1]
        exact (lf_i i j hi pi hj).mp y
/-- places along one axis -/
theorem crd (D : DSK rm aj B q b L) (KP : KPa rm aj B q) {sd : Nat → Nat → Nat} (Y : LYa rm (nrx rm aj q b) (Bx B q b L) sd) (NQ : NQa rm aj sd) {t : Nat} (ht : t < 4) : ∃ (l h : Nat → Nat) (H : Nat), (∀ r, h r ≤ 81) ∧ (∀ r, rm r → l r < h r) ∧ (∀ r, nrs q b r ((t + 3) % 4) → l r = 0) ∧ (∀ r, nrs q b r ((t + 1) % 4) → h r = H) ∧ (∀ i j, rm i → aj i j → sd i j = (t + 1) % 4 → h i = l j) ∧ (∀ i j, rm i → aj i j → sd i j = t → l i < h j ∧ l j < h i) := by
  obtain ⟨V, hV⟩ : ∃ V : Nat → Prop, V = fun p => rm (p / 9) ∧ rm (p % 9) ∧ (p / 9 = p % 9 ∨ (aj (p / 9) (p % 9) ∧ sd (p / 9) (p % 9) = t)) := ⟨_, rfl⟩
  have ex : ∀ p, ∃ lh : (Nat → Nat) × (Nat → Nat), V p → PBt rm aj q b sd t lh.1 lh.2 ∧ lh.1 (p / 9) = 0 ∧ lh.2 (p / 9) = 1 ∧ lh.1 (p % 9) = 0 ∧ lh.2 (p % 9) = 1 := fun p => by
    by_cases v : V p
    · rw [hV] at v
      obtain ⟨K, c, c1, c2, c3, ⟨i, i1, i2⟩, j, j1, j2⟩ := path_ex D Y NQ v.1 v.2.1 ht v.2.2
      obtain ⟨l, h, P, on⟩ := path_bits D KP Y NQ ht c1 c2 c3
      refine ⟨(l, h), fun _ => ⟨P, ?_, ?_, ?_, ?_⟩⟩
      · rw [← i2]; exact (on i i1).1
      · rw [← i2]; exact (on i i1).2
      · rw [← j2]; exact (on j j1).1
      · rw [← j2]; exact (on j j1).2
    · exact ⟨(fun _ => 0, fun _ => 0), fun z => absurd z v⟩
  obtain ⟨F, hF⟩ : ∃ F : Nat → (Nat → Nat) × (Nat → Nat), ∀ p, V p → PBt rm aj q b sd t (F p).1 (F p).2 ∧ (F p).1 (p / 9) = 0 ∧ (F p).2 (p / 9) = 1 ∧ (F p).1 (p % 9) = 0 ∧ (F p).2 (p % 9) = 1 := ⟨fun p => (ex p).choose, fun p => (ex p).choose_spec⟩
  have cases : ∀ (p : Nat) (x y : Nat), (V p → x = y) → ic (V p) * x = ic (V p) * y := fun p x y h => by
    by_cases v : V p
    · rw [h v]
    · rw [ic_f v, Nat.zero_mul, Nat.zero_mul]
  have casel : ∀ (p : Nat) (x y : Nat), (V p → x ≤ y) → ic (V p) * x ≤ ic (V p) * y := fun p x y h => by
    by_cases v : V p
    · exact Nat.mul_le_mul_left _ (h v)
    · rw [ic_f v, Nat.zero_mul, Nat.zero_mul]; exact Nat.le_refl _
  -- strict at one path
  have str : ∀ (u v : Nat → Nat) p0, p0 < 81 → V p0 → u p0 = 0 → v p0 = 1 → (∀ p, V p → u p ≤ v p) → su (fun p => ic (V p) * u p) 81 < su (fun p => ic (V p) * v p) 81 := fun u v p0 h0 v0 e1 e2 le => by
    have h1 : su (fun p => ic (V p) * u p + ic (p = p0)) 81 ≤ su (fun p => ic (V p) * v p) 81 := su_le 81 (fun p _ => by
      by_cases e : p = p0
      · subst e; rw [ic_t rfl, ic_t v0, e1, e2]; exact Nat.le_refl _
      · rw [ic_f e, Nat.add_zero]; exact casel p _ _ (le p))
    rw [su_add, su_1 (f := fun p => ic (p = p0)) (i := p0) 81 h0 (fun j _ nj => ic_f nj), ic_t rfl] at h1
    omega
  have idx : ∀ i j, rm i → rm j → (i = j ∨ (aj i j ∧ sd i j = t)) → 9 * i + j < 81 ∧ V (9 * i + j) ∧ (9 * i + j) / 9 = i ∧ (9 * i + j) % 9 = j := fun i j hi hj h => by
    have i9 := D.r9 i hi
    have j9 := D.r9 j hj
    obtain ⟨d1, d2⟩ := p9_d (a := i) j9
    refine ⟨by omega, ?_, d1, d2⟩
    rw [hV]
    show rm ((9 * i + j) / 9) ∧ _
    rw [d1, d2]; exact ⟨hi, hj, h⟩
  refine ⟨fun r => su (fun p => ic (V p) * (F p).1 r) 81, fun r => su (fun p => ic (V p) * (F p).2 r) 81, su (fun p => ic (V p) * 1) 81, fun r => ?_, fun r hr => ?_, fun r h => ?_, fun r h => ?_, fun i j hi hj e => ?_, fun i j hi hj e => ?_⟩
  · have h1 : su (fun p => ic (V p) * (F p).2 r) 81 ≤ su (fun p => ic (V p)) 81 := su_le 81 (fun p _ => by
      have := casel p ((F p).2 r) 1 (fun v => ((hF p v).1.1 r).2)
      rw [Nat.mul_one] at this; exact this)
    exact Nat.le_trans h1 (ct_n 81)
  · obtain ⟨h1, h2, h3, h4⟩ := idx r r hr hr (Or.inl rfl)
    have x := (hF _ h2).2
    rw [h3] at x
    exact str (fun p => (F p).1 r) (fun p => (F p).2 r) _ h1 h2 x.1 x.2.1 (fun p v => ((hF p v).1.1 r).1)
  · exact su_z 81 (fun p _ => by
      have := cases p ((F p).1 r) 0 (fun v => (hF p v).1.2.1 r h)
      rw [Nat.mul_zero] at this; exact this)
  · exact su_cg 81 (fun p _ => cases p _ _ (fun v => (hF p v).1.2.2.1 r h))
  · exact su_cg 81 (fun p _ => cases p _ _ (fun v => (hF p v).1.2.2.2.1 i j hi hj e))
  · obtain ⟨h1, h2, h3, h4⟩ := idx i j hi (D.ed _ _ hi hj).1 (Or.inr ⟨hj, e⟩)
    have x := (hF _ h2).2
    rw [h3, h4] at x
    exact ⟨str (fun p => (F p).1 i) (fun p => (F p).2 j) _ h1 h2 x.1 x.2.2.2 (fun p v => ((hF p v).1.2.2.2.2 i j hi hj e).1), str (fun p => (F p).1 j) (fun p => (F p).2 i) _ h1 h2 x.2.2.1 x.2.1 (fun p v => ((hF p v).1.2.2.2.2 i j hi hj e).2)⟩
end CRD

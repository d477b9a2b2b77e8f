/-! class: findFirst finds the first layout -/
section CL5
variable {rm : Nat → Prop} {nr : Nat → Nat → Prop} {Bp lb : Nat → Nat → Nat}
theorem ct_T : ∀ N, ct (fun _ => True) N = N := fun N => by
  induction N with
  | zero => rfl
  | succ N ih => show ct (fun _ => True) N + ic True = N + 1; rw [ih, ic_t trivial]
theorem row_ex (G : GP rm nr Bp) {st : Nat → Nat} {r v w0 : Nat} (hv : nr r v) (four : ct (fun u => nr r u ∧ ¬ stq rm Bp lb st r u) 13 = 4) (w4 : w0 < 4) : ∃ b : Nat → Nat, (∀ u, nr r u → b u < 4 ∧ b (Bp r u) = (b u + ic (¬ stq rm Bp lb st r u)) % 4) ∧ b v = w0 := by
  obtain ⟨w, dg, ew0, E⟩ := enu G hv
  obtain ⟨e1, e2, e3, e4, e5⟩ := id E
  rw [enu_ct G E] at four
  obtain ⟨vl, hvl⟩ : ∃ vl : Nat → Nat, vl = fun i => (w0 + ct (fun k => ¬ stq rm Bp lb st r (w k)) i) % 4 := ⟨_, rfl⟩
  have vl4 : ∀ i, vl i < 4 := fun i => by rw [hvl]; exact Nat.mod_lt _ (by decide)
  have vls : ∀ i, vl (i + 1) = (vl i + ic (¬ stq rm Bp lb st r (w i))) % 4 := fun i => by
    rw [hvl]
    show (w0 + (ct (fun k => ¬ stq rm Bp lb st r (w k)) i + ic (¬ stq rm Bp lb st r (w i)))) % 4 = ((w0 + ct (fun k => ¬ stq rm Bp lb st r (w k)) i) % 4 + ic (¬ stq rm Bp lb st r (w i))) % 4
    omega
  have vl0 : vl 0 = w0 := by rw [hvl]; show (w0 + 0) % 4 = w0; omega
  have vld : vl dg = w0 := by rw [hvl]; show (w0 + ct (fun k => ¬ stq rm Bp lb st r (w k)) dg) % 4 = w0; rw [four]; omega
  have ex : ∀ u, ∃ k, nr r u → k < dg ∧ w k = u := fun u => by
    by_cases h : nr r u
    · obtain ⟨k, h1, h2⟩ := e5 u h; exact ⟨k, fun _ => ⟨h1, h2⟩⟩
    · exact ⟨0, fun z => absurd z h⟩
  obtain ⟨ix, hix⟩ : ∃ ix : Nat → Nat, ∀ u, nr r u → ix u < dg ∧ w (ix u) = u := ⟨fun u => (ex u).choose, fun u => (ex u).choose_spec⟩
  have uq : ∀ i j, i < dg → j < dg → w i = w j → i = j := fun i j hi hj e => by
    rcases Nat.lt_trichotomy i j with z | z | z
    · exact absurd e (e4 i j z hj)
    · exact z
    · exact absurd e.symm (e4 j i z hi)
  refine ⟨fun u => vl (ix u), fun u hu => ⟨vl4 _, ?_⟩, ?_⟩
  · obtain ⟨h1, h2⟩ := hix u hu
    obtain ⟨h3, h4⟩ := hix _ (G.nx r u hu)
    show vl (ix (Bp r u)) = (vl (ix u) + ic (¬ stq rm Bp lb st r u)) % 4
    have e : w (ix u + 1) = Bp r u := by rw [(e1 _).2, h2]
    have s := vls (ix u)
    rw [h2] at s
    rw [← s]
    by_cases c : ix u + 1 < dg
    · rw [uq _ _ h3 c (h4.trans e.symm)]
    · have ed : ix u + 1 = dg := by omega
      rw [ed, vld]
      have : ix (Bp r u) = 0 := uq _ _ h3 (by omega) (by rw [h4, ← e, ed]; exact e3)
      rw [this, vl0]
  · obtain ⟨h1, h2⟩ := hix v hv
    show vl (ix v) = w0
    rw [uq (ix v) 0 h1 (by omega) (h2.trans ew0.symm), vl0]
theorem b_ex (G : GP rm nr Bp) {st od an : Nat → Nat} {R : Nat} (four : ∀ r, rm r → ct (fun u => nr r u ∧ ¬ stq rm Bp lb st r u) 13 = 4) (o1 : ∀ k, k < R → rm (od k) ∧ nr (od k) (an k)) (oj : ∀ i j, i < j → j < R → od i ≠ od j) (oc : ∀ r, rm r → ∃ k, k < R ∧ od k = r) (oa : ∀ k, k < R → (∃ s, s < 4 ∧ an k = 9 + s) ∨ ((∀ s, s < 4 → ¬ nr (od k) (9 + s)) ∧ ∃ j, j < k ∧ an k = od j)) : ∃ b, ROa rm nr Bp lb st b ∧ ANa rm nr R od an b := by
  have od9 : ∀ k, k < R → od k < 9 := fun k hk => G.r9 _ (o1 k hk).1
  have grow : ∀ k, k ≤ R → ∃ b : Nat → Nat → Nat, ∀ j, j < k → (∀ u, nr (od j) u → b (od j) u < 4 ∧ b (od j) (Bp (od j) u) = (b (od j) u + ic (¬ stq rm Bp lb st (od j) u)) % 4) ∧ (∀ s, s < 4 → an j = 9 + s → b (od j) (9 + s) = s) ∧ ∀ i, i < j → an j = od i → b (od j) (od i) = (b (od i) (od j) + 2) % 4 := by
    intro k
    induction k with
    | zero => exact fun _ => ⟨fun _ _ => 0, fun j hj => absurd hj (Nat.not_lt_zero j)⟩
    | succ k ih =>
      intro hk
      obtain ⟨b, hb⟩ := ih (by omega)
      obtain ⟨w0, w4, s2, s3⟩ : ∃ w0, w0 < 4 ∧ (∀ s, s < 4 → an k = 9 + s → w0 = s) ∧ ∀ i, i < k → an k = od i → w0 = (b (od i) (od k) + 2) % 4 := by
        rcases oa k (by omega) with ⟨s, s4, e⟩ | ⟨ns, j, hj, e⟩
        · exact ⟨s, s4, fun s' _ e' => by omega, fun i hi ei => by have := od9 i (by omega); omega⟩
        · refine ⟨(b (od j) (od k) + 2) % 4, Nat.mod_lt _ (by decide), fun s s4 e' => by have := od9 j (by omega); omega, fun i hi ei => ?_⟩
          have : i = j := by
            rcases Nat.lt_trichotomy i j with z | z | z
            · exact absurd (ei.symm.trans e) (oj i j z (by omega))
            · exact z
            · exact absurd (e.symm.trans ei) (oj j i z (by omega))
          rw [this]
      obtain ⟨row, h1, h2⟩ := row_ex (lb := lb) G (o1 k (by omega)).2 (four _ (o1 k (by omega)).1) w4
      have ne : ∀ j, j < k → od j ≠ od k := fun j hj => oj j k hj (by omega)
      refine ⟨fun r => if r = od k then row else b r, fun j hj => ?_⟩
      by_cases ej : j = k
      · subst ej
        simp only [if_pos]
        refine ⟨h1, fun s s4 es => ?_, fun i hi ei => ?_⟩
        · rw [← es, h2]; exact s2 s s4 es
        · rw [if_neg (ne i hi), ← s3 i hi ei, ← h2, ei]
      · obtain ⟨x1, x2, x3⟩ := hb j (by omega)
        simp only [if_neg (ne j (by omega))]
        refine ⟨x1, x2, fun i hi ei => ?_⟩
        rw [if_neg (ne i (by omega))]; exact x3 i hi ei
  obtain ⟨b, hb⟩ := grow R (Nat.le_refl R)
  refine ⟨b, fun r v hr hv => ?_, oc, fun k hk => ⟨(o1 k hk).1, (o1 k hk).2, ?_⟩⟩
  · obtain ⟨k, hk, e⟩ := oc r hr
    subst e
    exact (hb k hk).1 v hv
  · rcases oa k hk with ⟨s, s4, e⟩ | ⟨ns, j, hj, e⟩
    · exact Or.inl ⟨s, s4, e, (hb k hk).2.1 s s4 e⟩
    · exact Or.inr ⟨ns, j, hj, e, (hb k hk).2.2 j hj e⟩
end CL5
def jA (σ : mm_S) (e : Nat) : Nat := (σ 16 e).toNatClampNeg
def jB (σ : mm_S) (e : Nat) : Nat := (σ 17 e).toNatClampNeg
/-- the first layout, as a vector of directions -/
def LYF (σ : mm_S) (n m : Nat) (B : Nat → Nat → Nat) (s t L : Nat) (p : Nat → Nat) (D : Nat → Nat) : Prop := ∃ sd, LYa (rmx m) (nrP σ m B s t L p) (BpP B s t L p) sd ∧ (∀ e, e < n → D e = dvec (jA σ) (jB σ) sd e) ∧ ∀ sd', LYa (rmx m) (nrP σ m B s t L p) (BpP B s t L p) sd' → ¬ lx n (dvec (jA σ) (jB σ) sd') D
theorem bc_cnt (M : Nat) : ∀ n, bc M n = ct (fun v => M.testBit v = true) n
  | 0 => rfl
  | n + 1 => by
    show bc M n + (if M.testBit n = true then 1 else 0) = ct (fun v => M.testBit v = true) n + ic (M.testBit n = true)
    rw [bc_cnt M n]
    by_cases h : M.testBit n = true
    · rw [if_pos h, ic_t h]
    · rw [if_neg h, ic_f h]
theorem c_61t {d n m s t L f : Nat} {Q : mm_Q} {σ τ : mm_S} {B : Nat → Nat → Nat} {Mk p K : Nat → Nat} {lab : Nat × Nat → Int32} (P : PLD σ n m B s t L f Mk lab p K) (t1 : τ 1 = σ 1) (t15 : τ 15 = σ 15) (t16 : τ 16 = σ 16) (t17 : τ 17 = σ 17) (e56 : τ 5 6 = nI f) (hM : ∀ g, g < f → τ 43 g = nI (Mk g) ∧ bc (Mk g) 9 = 3) (O : OA τ L (wo B s t)) (hK : ∀ v, v < 13 → τ 44 v = nI (K v))
    (bh : ∀ r v, rmx m r → nrP σ m B s t L p r v → τ (21 + 1 + r) v = nI (BpP B s t L p r v)) (fo : ∀ a b, Dt σ m (a, b) → τ (33 + 1 + a) b = lab (a, b)) (hBG : BG τ) (hDG : DG τ)
    (q : ∀ τ' D, ffr τ τ' → BG τ' → DG τ' → (∀ e, e < n → τ' 45 e = nI (D e) ∧ D e < 4) → LYF σ n m B s t L p D → Q none τ') : mD (d + 60) 61 [.ref 7] τ Q := by
  have C := P.w.1
  have G := P.gp
  have f42 := P.fl.1
  have D := P.dsk
  have dis := P.ol.2.2.2.2
  obtain ⟨A, Bb, Cc, F, masks⟩ := P.fa
  have dgK : ∀ r, rmx m r → F153 (nI (K r)) = nI (dgr (nrP σ m B s t L p) r) := fun r hr => by
    have r9 := hr.1
    rw [F153_bc (P.nb.1 r (by omega)), bc_cnt]
    congr 1
    exact ct_cg 13 (fun v _ => P.kn (by omega))
  have fs0 : ∀ k, k < L → ∃ s', s' < 4 ∧ (K (wo B s t k)).testBit (9 + s') = true := fun k hk => by
    obtain ⟨s', h4, ho⟩ := cover (o := wo B s t) P.pl P.sL hk
    exact ⟨s', h4, (P.nb.2.2.1 _ s' (P.wa k).1.1 h4).mpr ho⟩
  refine ke_61 (kb_61_0 ?_)
  refine lp_dn (P := fun i => ∀ ρ : mm_S, (∀ c, c ≠ 7 → c ≠ 46 → c ≠ 48 → c ≠ 49 → ρ c = τ c) → ρ 7 8 = 0 → (∀ r, r < i → rmx m r → ρ 48 r = nI (dgr (nrP σ m B s t L p) r) - 4) → (∀ r, r < i → ρ 49 r = 0) → mw (d + 59) mt_61 Q 7 [some (.ref 7), some (.int (nI i))] [] ρ) 9 ?_ ?_ 0 (by omega) _ (fun c h _ _ _ => mm_up_n h) mm_up_s (fun r h => absurd h (Nat.not_lt_zero r)) (fun r h => absurd h (Nat.not_lt_zero r))
  · intro ρ fr e78 n48 n49
    refine kb_61_7 (fun _ => kb_61_46 ?_) (fun g => absurd (by decide) g)
    refine lp_dn (P := fun g => ∀ ρ : mm_S, (∀ c, c ≠ 7 → c ≠ 46 → c ≠ 48 → c ≠ 49 → ρ c = τ c) → ρ 7 8 = 0 → (∀ r, r < 9 → rmx m r → ρ 48 r = nI (dgr (nrP σ m B s t L p) r) - 4) → (∀ r, r < 9 → ρ 49 r = nI (ct (fun h => inF (fun g i => rl (Mk g) i) h r) g)) → (∀ h i, h < g → i < 3 → ρ 46 (3 * h + i) = nI (rl (Mk h) i)) → mw (d + 59) mt_61 Q 48 [some (.ref 7), some (.int (nI g))] [] ρ) f ?_ ?_ 0 (Nat.zero_le f) ρ fr e78 (fun r h1 h2 => n48 r h1 h2) (fun r h1 => n49 r h1) (fun h i hh => absurd hh (Nat.not_lt_zero h))
    · intro ρ fr e78 n48 n49 hb
      have r5 : ρ 5 6 = nI f := by rw [fr 5 (by decide) (by decide) (by decide) (by decide)]; exact e56
      refine kb_61_48 (fun _ => kb_61_76 ?_) (fun g => absurd (by rw [r5]; exact hI_le (by omega) (Nat.le_refl f)) g)
      have O' : OA ρ L (wo B s t) := OA_cg (by rw [fr 5 (by decide) (by decide) (by decide) (by decide)]) (fr 31 (by decide) (by decide) (by decide) (by decide)) (fr 32 (by decide) (by decide) (by decide) (by decide)) O
      refine c_63t C P.cn (by rw [fr 15 (by decide) (by decide) (by decide) (by decide)]; exact t15) O' dis (fun k _ => (P.wa k).1.2) (K := K) (fun v hv => by rw [fr 44 (by decide) (by decide) (by decide) (by decide)]; exact ⟨hK v hv, P.nb.1 v hv⟩) (fun ρ2 fr2 ord cov => kb_61_80 ?_)
      have k2 : ∀ c, c ≠ 7 → c ≠ 46 → c ≠ 48 → c ≠ 49 → c ≠ 60 → c ≠ 61 → ρ2 c = τ c := fun c h1 h2 h3 h4 h5 h6 => by rw [fr2 c h5 h6]; exact fr c h1 h2 h3 h4
      obtain ⟨od, hod⟩ : ∃ od : Nat → Nat, od = fun k => (ρ2 60 k).toNatClampNeg := ⟨_, rfl⟩
      obtain ⟨an, han⟩ : ∃ an : Nat → Nat, an = fun k => (ρ2 61 k).toNatClampNeg := ⟨_, rfl⟩
      have odk : ∀ k, k < bc m 9 → rmx m (od k) ∧ ρ2 60 k = nI (od k) := fun k hk => by
        obtain ⟨r, h1, h2, h3, _⟩ := ord.1 k hk
        have : od k = r := by rw [hod]; show (ρ2 60 k).toNatClampNeg = r; rw [h3, nI_clamp (by omega)]
        rw [this]; exact ⟨⟨h1, h2⟩, h3⟩
      have oin : ∀ k, k < bc m 9 → k < L → od k = wo B s t k ∧ ∃ s', s' < 4 ∧ an k = 9 + s' ∧ ρ2 61 k = nI (9 + s') ∧ (K (od k)).testBit (9 + s') = true := fun k hk hL => by
        obtain ⟨r, h1, h2, h3, h4⟩ := ord.1 k hk
        have e : od k = r := by rw [hod]; show (ρ2 60 k).toNatClampNeg = r; rw [h3, nI_clamp (by omega)]
        rcases h4 with ⟨_, b2, s', b3, b4⟩ | ⟨b1, _⟩
        · have s4 := b3.1
          refine ⟨e.trans b2, s', s4, ?_, b4, ?_⟩
          · rw [han]; show (ρ2 61 k).toNatClampNeg = 9 + s'; rw [b4, nI_clamp (by omega)]
          · rw [e]
            exact FSd_on b3 (by rw [b2]; exact fs0 k hL)
        · omega
      have lR : L ≤ bc m 9 := by
        have h1 : ct (fun r => ∃ k, k < L ∧ wo B s t k = r) 9 = ct (fun _ => True) L := (ct_re (P := fun _ => True) (Q := fun r => ∃ k, k < L ∧ wo B s t k = r) (F := wo B s t) L 9 (fun i hi _ => ⟨(P.wa i).1.1, i, hi, rfl⟩) (fun i j hi hj _ _ e => by
          rcases Nat.lt_trichotomy i j with z | z | z
          · exact absurd e (dis i j z hj)
          · exact z
          · exact absurd e.symm (dis j i z hi)) (fun r _ ⟨k, hk, e⟩ => ⟨k, hk, trivial, e⟩)).symm
        rw [ct_T] at h1
        rw [bc_cnt, ← h1]
        exact ct_le 9 (fun r _ ⟨k, _, e⟩ => by rw [← e]; exact (P.wa k).1.2)
      have inj : ∀ i j, i < j → j < bc m 9 → od i ≠ od j := fun i j hij hj e => by
        have h1 := (odk i (by omega)).2
        have h2 := (odk j hj).2
        exact ord.2 i j hij hj (by rw [h1, h2, e])
      have oout : ∀ k, k < bc m 9 → L ≤ k → (∀ s', s' < 4 → ¬ nrP σ m B s t L p (od k) (9 + s')) ∧ ∃ j, j < k ∧ an k = od j ∧ ρ2 61 k = nI (an k) ∧ aj σ (od k) (od j) := fun k hk hL => by
        obtain ⟨r, h1, h2, h3, h4⟩ := ord.1 k hk
        have e : od k = r := by rw [hod]; show (ρ2 60 k).toNatClampNeg = r; rw [h3, nI_clamp (by omega)]
        refine ⟨fun s' s4 hn => ?_, ?_⟩
        · obtain ⟨y, y1, y2⟩ := P.ot.cv (od k) s' (odk k hk).1 s4 hn
          have y2' : wo B s t (p 0 + y) = od k := y2
          have l1 := P.l3
          have m1 := Nat.mod_lt (p 0 + y) (show L > 0 by omega)
          have x := (oin ((p 0 + y) % L) (by omega) m1).1
          rw [P.wm, y2'] at x
          exact inj ((p 0 + y) % L) k (by omega) hk x
        · rcases h4 with ⟨b1, _⟩ | ⟨_, i, r', b2, b3, b4, b5, b6⟩
          · omega
          · have ei : od i = r' := by rw [hod]; show (ρ2 60 i).toNatClampNeg = r'; rw [b4, nI_clamp (by omega)]
            have ea : an k = r' := by rw [han]; show (ρ2 61 k).toNatClampNeg = r'; rw [b5, nI_clamp (by omega)]
            exact ⟨i, b2, by rw [ea, ei], by rw [ea]; exact b5, by rw [e, ei]; exact b6⟩
      have od' : ∀ k, k < bc m 9 → rmx m (od k) ∧ nrP σ m B s t L p (od k) (an k) ∧ ρ2 60 k = nI (od k) ∧ ρ2 61 k = nI (an k) := fun k hk => by
        obtain ⟨h1, h2⟩ := odk k hk
        refine ⟨h1, ?_⟩
        rcases Nat.lt_or_ge k L with c | c
        · obtain ⟨_, s', s4, e1, e2, e3⟩ := oin k hk c
          have r9 := h1.1
          rw [e1]
          exact ⟨(P.kn (by omega)).mp e3, h2, e2⟩
        · obtain ⟨_, j, hj, e1, e2, e3⟩ := oout k hk c
          exact ⟨by rw [e1]; exact Or.inl ⟨h1, e3⟩, h2, e2⟩
      have oc' : ∀ r, rmx m r → ∃ k, k < bc m 9 ∧ od k = r := fun r hr => by
        obtain ⟨j, hj, e⟩ := cov r hr.1 hr.2
        exact ⟨j, hj, by rw [hod]; show (ρ2 60 j).toNatClampNeg = r; rw [e, nI_clamp (by have := hr.1; omega)]⟩
      have oa' : ∀ k, k < bc m 9 → (∃ s', s' < 4 ∧ an k = 9 + s') ∨ ((∀ s', s' < 4 → ¬ nrP σ m B s t L p (od k) (9 + s')) ∧ ∃ j, j < k ∧ an k = od j) := fun k hk => by
        rcases Nat.lt_or_ge k L with c | c
        · obtain ⟨_, s', s4, e1, _⟩ := oin k hk c
          exact Or.inl ⟨s', s4, e1⟩
        · obtain ⟨h1, j, hj, e1, _⟩ := oout k hk c
          exact Or.inr ⟨h1, j, hj, e1⟩
      obtain ⟨bd, hbd⟩ : ∃ bd : Nat → Nat → Nat, bd = fun g i => rl (Mk g) i := ⟨_, rfl⟩
      have inM : ∀ g, g < f → ∀ r, r < 9 → (inF bd g r ↔ (Mk g).testBit r = true) := fun g hg r hr => by
        rw [hbd]; exact ((rl_d (P.mk g hg).1 (hM g hg).2).2 r hr).symm
      have b9 : ∀ g i, g < f → i < 3 → bd g i < 9 := fun g i hg hi => by rw [hbd]; exact (rs_lo _ (P.mk g hg).1 (hM g hg).2 i hi).1
      have inA : ∀ g, g < f → ∀ r, (inF bd g r ↔ r = A g ∨ r = Bb g ∨ r = Cc g) := fun g hg r => by
        constructor
        · intro h
          have r9 : r < 9 := by
            rcases h with h | h | h <;> rw [h]
            · exact b9 g 0 hg (by decide)
            · exact b9 g 1 hg (by decide)
            · exact b9 g 2 hg (by decide)
          exact (masks g hg r r9).mp ((inM g hg r r9).mp h)
        · intro h
          have r9 : r < 9 := by
            obtain ⟨a1, a2, a3, _⟩ := F.ab g hg
            rcases h with h | h | h <;> rw [h]
            · exact a1.1
            · exact a2.1
            · exact a3.1
          exact (inM g hg r r9).mpr ((masks g hg r r9).mpr h)
      have bdr : ∀ g i, g < f → i < 3 → rmx m (bd g i) := fun g i hg hi => by
        have h : inF bd g (bd g i) := by
          rcases (show i = 0 ∨ i = 1 ∨ i = 2 by omega) with e | e | e <;> subst e
          · exact Or.inl rfl
          · exact Or.inr (Or.inl rfl)
          · exact Or.inr (Or.inr rfl)
        obtain ⟨a1, a2, a3, _⟩ := F.ab g hg
        rcases (inA g hg _).mp h with e | e | e <;> rw [e] <;> assumption
      have jj : ∀ e, e < n → rmx m (jA σ e) ∧ rmx m (jB σ e) ∧ aj σ (jA σ e) (jB σ e) ∧ σ 16 e = nI (jA σ e) ∧ σ 17 e = nI (jB σ e) := fun e he => by
        obtain ⟨a, b, ha, hb', _, ma, mb, e1, e2⟩ := C.je e he
        have ea : jA σ e = a := by unfold jA; rw [e1, nI_clamp (by omega)]
        have eb : jB σ e = b := by unfold jB; rw [e2, nI_clamp (by omega)]
        rw [ea, eb]
        exact ⟨⟨ha, ma⟩, ⟨hb', mb⟩, (C.ja a b ha ma).mpr ⟨e, he, Or.inl ⟨e1, e2⟩, hb'⟩, e1, e2⟩
      have S : LSd ρ2 (rmx m) (nrP σ m B s t L p) (BpP B s t L p) (lbP lab) f bd (bc m 9) od an n (jA σ) (jB σ) := by
        refine ⟨G, fun r v hr hv => ?_, fun v r hv hr hn hc => ?_, ⟨f42, by rw [k2 5 (by decide) (by decide) (by decide) (by decide) (by decide) (by decide)]; exact e56⟩, fun r hr => ?_, ⟨C.jn.1, by rw [k2 1 (by decide) (by decide) (by decide) (by decide) (by decide) (by decide), t1]; exact C.jn.2⟩, fun e he => ?_, ⟨bc_n m 9, by rw [k2 1 (by decide) (by decide) (by decide) (by decide) (by decide) (by decide), t1]; exact C.cr⟩, fun g i hg hi => ⟨bdr g i hg hi, ?_⟩, od', inj, oc', oa'⟩
        · have := hr.1
          rw [k2 _ (by omega) (by omega) (by omega) (by omega) (by omega) (by omega)]; exact bh r v hr hv
        · have v9 := hv.1
          have hvr := P.nra hr hv hn
          have d : Dt σ m (v, r) := ⟨hv.1, hv.2, (P.w.ed hr hvr).2.2.1⟩
          obtain ⟨g, hg, hd⟩ := F.ex v r hv hr (G.sy _ _ hn) hc
          have el := F.lb g hg _ _ hd
          refine ⟨by rw [el]; exact hg, ?_⟩
          rw [k2 _ (by omega) (by omega) (by omega) (by omega) (by omega) (by omega), fo v r d]
          rcases P.fl.2.2.1 _ d with z | ⟨g', hg', z⟩
          · exfalso
            have o := (P.out d).mp z
            obtain ⟨y, y1, y2, y3, y4⟩ := D.out1 o
            have x := D.x1 y1 y2
            rw [← y3, ← y4] at x
            have hc' : rmx m (Bx B (qo B s t p) (bo4 L p) L r v) := hc
            rw [x] at hc'
            have := hc'.1
            omega
          · unfold lbP
            rw [z, nI_clamp (by omega)]
        · have := hr.1
          rw [k2 44 (by decide) (by decide) (by decide) (by decide) (by decide) (by decide), hK r (by omega)]; exact dgK r hr
        · obtain ⟨h1, h2, h3, h4, h5⟩ := jj e he
          exact ⟨h1, h2, Or.inl ⟨h1, h3⟩, by rw [k2 16 (by decide) (by decide) (by decide) (by decide) (by decide) (by decide), t16]; exact h4, by rw [k2 17 (by decide) (by decide) (by decide) (by decide) (by decide) (by decide), t17]; exact h5⟩
        · rw [fr2 46 (by decide) (by decide), hbd]; exact hb g i hg hi
      have I : LI ρ2 ρ2 := by
        refine ⟨fun _ _ _ _ _ _ _ => rfl, Or.inl (by rw [fr2 7 (by decide) (by decide)]; exact e78), fun r v hr hv => ?_, fun e he => ?_⟩
        · rw [k2 _ (by omega) (by omega) (by omega) (by omega) (by omega) (by omega)]; exact hBG r v hr hv
        · rw [k2 _ (by omega) (by omega) (by omega) (by omega) (by omega) (by omega)]; exact hDG e he
      obtain ⟨st0, ch0⟩ := P.lay_ex F
      have d4 : ∀ r, rmx m r → 4 ≤ dgr (nrP σ m B s t L p) r := fun r hr => by have := ch0.2 r hr; omega
      have cv_ca : ∀ st, CHv (rmx m) (nrP σ m B s t L p) bd f st ↔ CHa (rmx m) (nrP σ m B s t L p) f A Bb Cc st := fun st => by
        constructor
        · intro h
          exact ⟨fun g hg => (inA g hg _).mp (h.1 g hg), fun r hr => by have := h.2 r hr; have := d4 r hr; unfold ned at *; omega⟩
        · intro h
          exact ⟨fun g hg => (inA g hg _).mpr (h.1 g hg), fun r hr => by have := h.2 r hr; unfold ned; omega⟩
      have four : ∀ st, CHv (rmx m) (nrP σ m B s t L p) bd f st → ∀ r, rmx m r → ct (fun u => nrP σ m B s t L p r u ∧ ¬ stq (rmx m) (BpP B s t L p) (lbP lab) st r u) 13 = 4 := fun st h r hr => by
        have c := (cv_ca st).mp h
        have h1 := c.2 r hr
        have h2 := stp_ct G F c.1 hr
        have h3 : dgr (nrP σ m B s t L p) r = _ := ct_sp (P := nrP σ m B s t L p r) (stq (rmx m) (BpP B s t L p) (lbP lab) st r) 13
        omega
      have := c_64t S (fun g hg => by rw [hbd]; exact (rl_d (P.mk g hg).1 (hM g hg).2).1) four (fun r hr no => by
          have h1 := ch0.2 r hr
          rw [ct_z f (fun g hg e => no g hg ((inA g hg r).mpr (by rw [← e]; exact ch0.1 g hg)))] at h1
          unfold ned; omega) f (d + 54 - f) 0 (fun v τ => mw (d + 59) mt_61 Q 85 [some (.ref 7), some (.int (nI f))] (v.toList ++ []) τ) ρ2 (fun _ => 0) (fun _ => False) (by omega) I (fun h hh => absurd hh (Nat.not_lt_zero h)) (fun r hr => ⟨Nat.zero_le _, ?_⟩) (fun r hr => ?_) (fun r hr ⟨h, hh, _⟩ => absurd hh (Nat.not_lt_zero h)) (Or.inl ⟨by rw [fr2 7 (by decide) (by decide)]; exact e78, fun _ z => z⟩) (fun τ' I' _ _ _ FBx => kb_61_85 ?_)
      · rw [show d + 54 - f + f + 5 = d + 59 by omega] at this
        exact this
      · have h4 := d4 r hr
        rw [fr2 48 (by decide) (by decide), n48 r hr.1 hr]
        show nI (dgr (nrP σ m B s t L p) r) - nI 4 = nI (ned (nrP σ m B s t L p) r - 0)
        rw [nI_sub h4]; rfl
      · rw [fr2 49 (by decide) (by decide), n49 r hr.1, hbd]
        congr 1
        exact ct_cg f (fun h _ => ⟨fun z => ⟨Nat.zero_le _, z⟩, fun z => z.2⟩)
      · -- some choice there is
        obtain ⟨b0, RO0, AN0⟩ := b_ex (lb := lbP lab) G (four st0 ((cv_ca st0).mpr ch0)) (fun k hk => ⟨(od' k hk).1, (od' k hk).2.1⟩) inj oc' oa'
        rcases FBx with ⟨_, no⟩ | ⟨_, D', hD', dd, mn⟩
        · exact absurd (Or.inr ⟨st0, b0, fun h hh => absurd hh (Nat.not_lt_zero h), (cv_ca st0).mpr ch0, RO0, AN0, fun _ _ => rfl⟩) (no (dvec (jA σ) (jB σ) b0))
        · rcases hD' with z | ⟨st, b, _, h2, h3, h4, h5⟩
          · exact z.elim
          · refine q τ' D' (fun c h1 h2 => ?_) I'.2.2.1 I'.2.2.2 dd ⟨b, cho_lay G F P.pla P.ot ((cv_ca st).mp h2) h3 h4, h5, fun sd' Y' k => ?_⟩
            · rw [I'.1 c h1 (by omega) (by omega) (by omega) (by omega) (by omega)]
              exact k2 c h1 (by omega) (by omega) (by omega) (by omega) (by omega)
            · obtain ⟨st', c1, c2⟩ := lay_cho G F Y'
              refine mn _ (Or.inr ⟨st', sd', fun h hh => absurd hh (Nat.not_lt_zero h), (cv_ca st').mpr c1, c2, ⟨oc', fun k hk => ⟨(od' k hk).1, (od' k hk).2.1, ?_⟩⟩, fun _ _ => rfl⟩) k
              rcases oa' k hk with ⟨s', s4, e⟩ | ⟨ns, j, hj, e⟩
              · have hn := (od' k hk).2.1
                rw [e] at hn
                exact Or.inl ⟨s', s4, e, Y'.sd _ s' (od' k hk).1 s4 hn⟩
              · have hn := (od' k hk).2.1
                rw [e] at hn
                exact Or.inr ⟨ns, j, hj, e, Y'.op _ _ (od' j (by omega)).1 (od' k hk).1 (G.sy _ _ hn)⟩
    · intro g hg ih ρ fr e78 n48 n49 hb
      have r5 : ρ 5 6 = nI f := by rw [fr 5 (by decide) (by decide) (by decide) (by decide)]; exact e56
      obtain ⟨m2, m3⟩ := hM g hg
      have m1 := (P.mk g hg).1
      obtain ⟨⟨x1, x2, x3⟩, _⟩ := rl_d m1 m3
      have l9 : ∀ i, i < 3 → rl (Mk g) i < 9 := fun i hi => (rs_lo _ m1 m3 i hi).1
      refine kb_61_48 (fun z => absurd z (by rw [r5]; exact hI_nle (by omega) hg)) (fun _ => kb_61_59 (c_62t (by omega) (by rw [fr 43 (by decide) (by decide) (by decide) (by decide)]; exact m2) m1 m3 (fun ρ1 f1 b1 b2 => kb_61_64 (c_65t (d := d + 58) (by omega) ⟨l9 0 (by decide), b1 0 (by decide)⟩ ⟨l9 1 (by decide), b1 1 (by decide)⟩ ⟨l9 2 (by decide), b1 2 (by decide)⟩ x1 x2 x3 (fun ρ2 f2 i2 o2 => kb_61_70 ?_)))))
      rw [nI_1]
      refine ih ρ2 (fun c h1 h2 h3 h4 => by rw [f2 c h4, f1 c h2]; exact fr c h1 h2 h3 h4) (by rw [f2 7 (by decide), f1 7 (by decide)]; exact e78) (fun r h1 h2 => by rw [f2 48 (by decide), f1 48 (by decide)]; exact n48 r h1 h2) (fun r hr => ?_) (fun h i hh hi => ?_)
      · show ρ2 49 r = nI (ct (fun h => inF (fun g i => rl (Mk g) i) h r) g + ic (inF (fun g i => rl (Mk g) i) g r))
        by_cases c : inF (fun g i => rl (Mk g) i) g r
        · rw [i2 r c, f1 49 (by decide), n49 r hr, ic_t c]; exact nI_1 _
        · rw [o2 r c, f1 49 (by decide), n49 r hr, ic_f c]; rfl
      · rw [f2 46 (by decide)]
        by_cases e : h = g
        · subst e; exact b1 i hi
        · rw [b2 _ (by omega)]; exact hb h i (by omega) hi
  · intro i hi ih ρ fr e78 n48 n49
    refine kb_61_7 (fun g => absurd g (hI_nle (a := 9) (by omega) hi)) (fun _ => kb_61_13 (pk_in i 13 (by omega)) (c_153 (kb_61_30 (pk_in i 9 hi) (pk_in i 9 hi) ?_)))
    have ci : (nI i).toNatClampNeg = i := nI_clamp (by omega)
    rw [nI_1, ci]
    refine ih _ (fun c h1 h2 h3 h4 => by rw [mm_up_n h4, mm_up_n h3]; exact fr c h1 h2 h3 h4) (by rw [mm_up_n (by decide), mm_up_n (by decide)]; exact e78) (fun r hr hrm => ?_) (fun r hr => ?_)
    · rw [mm_up_n (by decide)]
      by_cases e : r = i
      · subst e
        rw [mm_up_s, fr 44 (by decide) (by decide) (by decide) (by decide), hK r (by omega), dgK r hrm]
      · rw [mm_up_o e]; exact n48 r (by omega) hrm
    · by_cases e : r = i
      · subst e; exact mm_up_s
      · rw [mm_up_o e, mm_up_n (by decide)]; exact n49 r (by omega)

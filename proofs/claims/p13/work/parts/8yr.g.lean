section
/-! rect, house, wallOf, side: both sides answer alike -/
def AGr (y z : Nat) (as bs : List Value) (σ : mm_S) : Prop := ∃ k v : Int32, (∀ (d : Nat) (Q : mm_Q) (XQ : Nat → mm_S → Prop), (k = 1 → XQ 2 σ) → (k = 2 → XQ 0 σ) → (k = 0 → Q (some (.int v)) σ) → xD (d + 4) y as σ Q XQ) ∧ (k = 0 ∨ k = 1 ∨ k = 2) ∧ ∀ (d : Nat) (Q : mm_Q), (∀ w, (k = 0 → w = v) → Q (some (.int w)) (mm_up σ 10 0 k)) → mD (d + 3) z bs σ Q
theorem md_x {σ : mm_S} {n m : Nat} {x : Int32} (Z : ZI σ n m) : ¬ mdr σ x = 0 ↔ ¬ xd σ x = 0 := by
  have h := Rm_dr (r := x) Z.rm
  constructor
  · intro a b
    rw [h.mpr ((mdr_01 σ x).resolve_left a)] at b
    exact absurd b (by decide)
  · intro a b
    rw [h.mp ((xd_01 σ x).resolve_left a)] at b
    exact absurd b (by decide)
theorem mi_nI {j b : Nat} (hb : b < 1000) (hj : j ≤ b) : ¬ mi (nI j) 0 (nI b) = 0 := by
  unfold mi
  rw [if_neg (show ¬ nI j < (0 : Int32) from nI_nlt (b := 0) (Nat.zero_le j) (by omega)), if_neg (nI_nlt hj (by omega))]
  decide
theorem XI.px {σ : mm_S} {n m : Nat} (X : XI σ n m) (p : ¬ σ 0 3 = 0) : PX σ n m := X.2.2 (X.1.2.2.2.1.resolve_left p)
theorem PX_r {σ : mm_S} {K D V : Nat → Nat} {n i b : Nat} (R : RPL n K D V σ) (hi : i < 9) (hb : b < 2) : σ 96 (f_135 (nI i) (nI b)).toNatClampNeg = nI (V (4 * i + b)) ∧ σ 97 (f_135 (nI i) (nI b)).toNatClampNeg = nI (V (4 * i + 2 + b)) := by
  rw [at_n i hi b hb, nI_clamp (by omega)]
  exact R.pv i b hi hb
theorem ag_rect {σ : mm_S} {n m : Nat} (X : XI σ n m) (x1 x2 : Int32) : AGr 5 144 [.ref 0, .int x1, .int x2] [.ref 10, .int x1, .int x2] σ := by
  have Z := X.1.1
  have pm : σ 10 12 = σ 0 3 := X.1.2.2.2.2
  by_cases p : σ 0 3 = 0
  · have p' : σ 10 12 = 0 := pm.trans p
    refine ⟨1, 0, fun d Q XQ a _ _ => ?_, Or.inr (Or.inl rfl), fun d Q q => ?_⟩
    · refine xz_5 (d := d + 2) (q0 := fun _ => a rfl) ?_ ?_ ?_ ?_ ?_ ?_ <;> exact fun g => absurd p g
    · refine c_144 (q0 := fun _ => q 0 (fun h => absurd h (by decide))) ?_ ?_ ?_ ?_ ?_ ?_ ?_ ?_ ?_ ?_ <;> exact fun g => absurd p' g
  have p' : ¬ σ 10 12 = 0 := by rw [pm]; exact p
  by_cases ok : (∃ i, i < 9 ∧ x1 = nI i ∧ ¬ xd σ x1 = 0) ∧ ∃ j, j < 4 ∧ x2 = nI j
  · obtain ⟨⟨i, hi, rfl, di⟩, j, hj, rfl⟩ := ok
    obtain ⟨B, s, t, L, f, Mk, lab, pp, K, D, V, P⟩ := X.px p
    have dm := (md_x Z).mpr di
    have mj := mi_nI (b := 3) (by decide) (show j ≤ 3 by omega)
    refine ⟨0, nI (V (4 * i + j)), fun d Q XQ _ _ c => ?_, Or.inl rfl, fun d Q q => ?_⟩
    · have cv := c rfl
      rw [← P.pf.1 i j hi hj] at cv
      exact xz_5 (d := d + 2) (fun _ _ _ _ => pk_in i 9 hi) (fun _ _ _ _ => pk_in j 4 hj) (fun g => absurd g p) (fun _ g => absurd g di) (fun _ _ g => absurd g (nI_nlt (b := 0) (Nat.zero_le j) (by omega))) (fun _ _ _ _ => by rw [nI_clamp (by omega), nI_clamp (by omega)]; exact cv) (fun _ _ _ g => absurd ((nI_ltI (a := j) (b := 4) (by omega) (by decide)).mpr hj) g)
    · have r0 := PX_r P.rp hi (b := 0) (by decide)
      have r1 := PX_r P.rp hi (b := 1) (by decide)
      have a0 := at_in (b := 0) hi (by omega)
      have a1 := at_in (b := 1) hi (by omega)
      rcases (show j = 0 ∨ j = 1 ∨ j = 2 ∨ j = 3 by omega) with rfl | rfl | rfl | rfl
      · exact c_144 (fun _ _ _ g => absurd g (by decide)) (fun _ _ _ g => absurd g (by decide)) (fun _ _ _ _ g => absurd g (by decide)) (fun _ _ _ _ _ => a0) (fun g => absurd g p') (fun _ g => absurd g dm) (fun _ _ g => absurd g mj) (fun _ _ _ g => absurd g (by decide)) (fun _ _ _ g => absurd g (by decide)) (fun _ _ _ _ g => absurd g (by decide)) (fun _ _ _ _ _ => q _ (fun _ => r0.1))
      · exact c_144 (fun _ _ _ g => absurd g (by decide)) (fun _ _ _ g => absurd g (by decide)) (fun _ _ _ _ _ => a1) (fun _ _ _ _ g => absurd rfl g) (fun g => absurd g p') (fun _ g => absurd g dm) (fun _ _ g => absurd g mj) (fun _ _ _ g => absurd g (by decide)) (fun _ _ _ g => absurd g (by decide)) (fun _ _ _ _ _ => q _ (fun _ => r1.1)) (fun _ _ _ _ g => absurd rfl g)
      · exact c_144 (fun _ _ _ _ g => absurd g (by decide)) (fun _ _ _ _ _ => a0) (fun _ _ _ g => absurd (by decide) g) (fun _ _ _ g => absurd (by decide) g) (fun g => absurd g p') (fun _ g => absurd g dm) (fun _ _ g => absurd g mj) (fun _ _ _ _ g => absurd g (by decide)) (fun _ _ _ _ _ => q _ (fun _ => r0.2)) (fun _ _ _ g => absurd (by decide) g) (fun _ _ _ g => absurd (by decide) g)
      · exact c_144 (fun _ _ _ _ _ => a1) (fun _ _ _ _ g => absurd rfl g) (fun _ _ _ g => absurd (by decide) g) (fun _ _ _ g => absurd (by decide) g) (fun g => absurd g p') (fun _ g => absurd g dm) (fun _ _ g => absurd g mj) (fun _ _ _ _ _ => q _ (fun _ => r1.2)) (fun _ _ _ _ g => absurd rfl g) (fun _ _ _ g => absurd (by decide) g) (fun _ _ _ g => absurd (by decide) g)
  · have bad : ¬ xd σ x1 = 0 → ¬ x2 < 0 → x2 < 4 → False := fun g1 g2 g3 => by
      obtain ⟨i, hi, e⟩ := xd_n0 g1
      obtain ⟨j, hj, e'⟩ := in_4 g2 g3
      exact ok ⟨⟨i, hi, e, g1⟩, j, hj, e'⟩
    have bad' : ¬ mdr σ x1 = 0 → ¬ mi x2 0 3 = 0 → False := fun g1 g2 => by
      obtain ⟨i, hi, e⟩ := mdr_n0 g1
      obtain ⟨j, hj, e'⟩ := in_mi (b := 3) (by decide) g2
      exact ok ⟨⟨i, hi, e, (md_x Z).mp g1⟩, j, by omega, e'⟩
    refine ⟨2, 0, fun d Q XQ _ b _ => ?_, Or.inr (Or.inr rfl), fun d Q q => ?_⟩
    · exact xz_5 (d := d + 2) (fun _ g1 g2 g3 => (bad g1 g2 g3).elim) (fun _ g1 g2 g3 => (bad g1 g2 g3).elim) (fun g => absurd g p) (fun _ _ => b rfl) (fun _ _ _ => b rfl) (fun _ g1 g2 g3 => (bad g1 g2 g3).elim) (fun _ _ _ _ => b rfl)
    · have q2 := q 0 (fun h => absurd h (by decide))
      exact c_144 (fun _ g1 g2 _ _ => (bad' g1 g2).elim) (fun _ g1 g2 _ _ => (bad' g1 g2).elim) (fun _ g1 g2 _ _ => (bad' g1 g2).elim) (fun _ g1 g2 _ _ => (bad' g1 g2).elim) (fun g => absurd g p') (fun _ _ => q2) (fun _ _ _ => q2) (fun _ g1 g2 _ _ => (bad' g1 g2).elim) (fun _ g1 g2 _ _ => (bad' g1 g2).elim) (fun _ g1 g2 _ _ => (bad' g1 g2).elim) (fun _ g1 g2 _ _ => (bad' g1 g2).elim)
theorem in_3 {x : Int32} (h1 : ¬ x < 0) (h2 : x ≤ 2) : ∃ j, j < 3 ∧ x = nI j := by
  have a := Int32.le_iff_toInt_le.mp (Int32.not_lt.mp h1)
  have b := Int32.le_iff_toInt_le.mp h2
  have c : (0 : Int32).toInt = 0 := by decide
  have e : (2 : Int32).toInt = 2 := by decide
  refine ⟨x.toInt.toNat, by omega, Int32.toInt_inj.mp ?_⟩
  rw [nI_toInt (by omega)]
  omega
/-- each side has a room -/
theorem PLD.one {σ : mm_S} {n m : Nat} {B : Nat → Nat → Nat} {s t L f : Nat} {Mk : Nat → Nat} {lab : Nat × Nat → Int32} {p K : Nat → Nat} (P : PLD σ n m B s t L f Mk lab p K) {s' : Nat} (hs : s' < 4) : ∃ r, neS K s' r :=
  ⟨wo B s t ((p s' + 0) % L), (P.wa _).1.1, (P.nb.2.2.1 _ s' (P.wa _).1.1 hs).mpr ⟨0, Nat.succ_pos _, rfl⟩⟩
theorem ag_house {σ : mm_S} {n m : Nat} (X : XI σ n m) (x1 : Int32) : AGr 6 145 [.ref 0, .int x1] [.ref 10, .int x1] σ := by
  have Z := X.1.1
  have pm : σ 10 12 = σ 0 3 := X.1.2.2.2.2
  by_cases p : σ 0 3 = 0
  · have p' : σ 10 12 = 0 := pm.trans p
    refine ⟨1, 0, fun d Q XQ a _ _ => ?_, Or.inr (Or.inl rfl), fun d Q q => ?_⟩
    · refine xz_6 (d := d + 1) (q0 := fun _ => a rfl) ?_ ?_ ?_ ?_ ?_ <;> exact fun g => absurd p g
    · refine ks_145_0 (d := d + 1) (q0 := fun _ => q 0 (fun h => absurd h (by decide))) ?_ ?_ <;> exact fun g => absurd p' g
  have p' : ¬ σ 10 12 = 0 := by rw [pm]; exact p
  by_cases ok : ∃ j, j < 3 ∧ x1 = nI j
  · obtain ⟨j, hj, rfl⟩ := ok
    obtain ⟨B, s, t, L, f, Mk, lab, pp, K, D, V, P⟩ := X.px p
    have mj := mi_nI (b := 2) (by decide) (show j ≤ 2 by omega)
    obtain ⟨re, he⟩ := P.pl.one (s' := 1) (by decide)
    obtain ⟨rn, hn⟩ := P.pl.one (s' := 0) (by decide)
    have s0 : σ 10 32 = σ 72 0 := (P.rp.we re he).trans (P.pf.2.1 re he).symm
    have s1 : σ 10 33 = σ 72 1 := (P.rp.hn rn hn).trans (P.pf.2.2 rn hn).symm
    refine ⟨0, if j = 2 then (σ 72 0) * (σ 72 1) - war σ 9 else σ 72 j, fun d Q XQ _ _ c => ?_, Or.inl rfl, fun d Q q => ?_⟩
    · have cv := c rfl
      refine xz_6 (d := d + 1) (fun _ _ _ g => ?_) (fun g => absurd g p) (fun _ g => absurd g (nI_nlt (b := 0) (Nat.zero_le j) (by omega))) (fun _ _ _ g => ?_) (fun _ _ _ g => ?_) (fun _ _ g => absurd (hI_le (b := 2) (by decide) (by omega)) g)
      · refine pk_in j 2 ?_
        rcases Nat.lt_or_ge j 2 with c | c
        · exact c
        · exact absurd (hI_le (a := 2) (by omega) c) g
      · have e2 : j = 2 := by
          rcases Nat.lt_or_ge j 2 with c | c
          · exact absurd g (hI_nle (a := 2) (by decide) c)
          · omega
        rw [if_pos e2] at cv
        exact cv
      · have e2 : ¬ j = 2 := fun e => g (hI_le (a := 2) (by omega) (by omega))
        rw [if_neg e2] at cv
        rw [nI_clamp (by omega)]
        exact cv
    · refine ks_145_0 (d := d + 1) (fun g => absurd g p') (fun _ g => absurd g mj) (fun _ _ => ?_)
      refine lp_dn (P := fun i => mw (d + 2) mt_145 Q 42 [some (.ref 10), some (.int (nI j)), some (.int (war σ i)), some (.int (nI i))] [] (mm_up σ 10 0 0)) 9 ?_ ?_ 0 (by omega)
      · have e32 : (mm_up σ 10 0 (0 : Int32)) 10 32 = σ 72 0 := by rw [mm_up_o (by decide)]; exact s0
        have e33 : (mm_up σ 10 0 (0 : Int32)) 10 33 = σ 72 1 := by rw [mm_up_o (by decide)]; exact s1
        refine ks_145_42 (fun h => absurd (by decide) h) (fun _ g => q _ (fun _ => ?_)) (fun _ _ g => q _ (fun _ => ?_)) (fun _ g g' => q _ (fun _ => ?_)) (fun h => absurd (by decide) h) (fun h => absurd (by decide) h)
        · have : j = 0 := (nI_eq (a := j) (b := 0) (by omega) (by decide)).mp g
          subst this
          rw [if_neg (by decide)]; exact e32
        · have : j = 1 := (nI_eq (a := j) (b := 1) (by omega) (by decide)).mp g
          subst this
          rw [if_neg (by decide)]; exact e33
        · have : j = 2 := by
            rcases (show j = 0 ∨ j = 1 ∨ j = 2 by omega) with rfl | rfl | rfl
            · exact absurd rfl g
            · exact absurd rfl g'
            · rfl
          rw [if_pos this, e32, e33]
      · intro i hi ih
        have nl : ¬ (9 : Int32) ≤ nI i := hI_nle (a := 9) (by omega) hi
        have e75 : (mm_up σ 10 0 (0 : Int32)) 75 = σ 75 := mm_up_n (by decide)
        have e78 : (mm_up σ 10 0 (0 : Int32)) 78 = σ 78 := mm_up_n (by decide)
        have e79 : (mm_up σ 10 0 (0 : Int32)) 79 = σ 79 := mm_up_n (by decide)
        have ci : (nI i).toNatClampNeg = i := nI_clamp (by omega)
        refine ks_145_42 (fun _ => pk_in i 9 hi) (fun h => absurd h nl) (fun h => absurd h nl) (fun h => absurd h nl) (fun _ g => ?_) (fun _ g => ?_)
        · rw [e75, ci] at g
          have x0 : xd σ (nI i) = 0 := by
            rcases xd_01 σ (nI i) with e | e
            · exact e
            · exact absurd g ((Z.rm i hi).1.mp e)
          have w : war σ (i + 1) = war σ i := by show (if xd σ (nI i) = 0 then war σ i else _) = _; rw [if_pos x0]
          rw [nI_1, show war σ i + (0 : Int32) = war σ i from Int32.add_zero _, ← w]; exact ih
        · rw [e75, ci] at g
          have x1 := (Z.rm i hi).1.mpr g
          obtain ⟨w1, w2⟩ := (Z.wh i hi).2 g
          have w : war σ (i + 1) = war σ i + σ 78 i * σ 79 i := by
            show (if xd σ (nI i) = 0 then war σ i else _) = _
            rw [if_neg (by rw [x1]; decide), w1, w2]
          rw [nI_1, ci, e78, e79, ← w]; exact ih
  · refine ⟨2, 0, fun d Q XQ _ b _ => ?_, Or.inr (Or.inr rfl), fun d Q q => ?_⟩
    · exact xz_6 (d := d + 1) (fun _ g1 g2 _ => absurd (in_3 g1 g2) ok) (fun g => absurd g p) (fun _ _ => b rfl) (fun _ g1 g2 _ => absurd (in_3 g1 g2) ok) (fun _ g1 g2 _ => absurd (in_3 g1 g2) ok) (fun _ _ _ => b rfl)
    · refine ks_145_0 (d := d + 1) (fun g => absurd g p') (fun _ _ => q 0 (fun h => absurd h (by decide))) (fun _ g => ?_)
      obtain ⟨j, hj, e⟩ := in_mi (b := 2) (by decide) g
      exact absurd ⟨j, by omega, e⟩ ok
theorem a1_01 (y : Int32) : y &&& (1 : Int32) = 0 ∨ y &&& (1 : Int32) = 1 := by
  obtain ⟨j, hj, e⟩ := pk_andE y (m := 1) 1 (by decide)
  rw [e]
  rcases (show j = 0 ∨ j = 1 by omega) with h | h
  · subst h; exact Or.inl rfl
  · subst h; exact Or.inr rfl
theorem sub_cg {a b c d : Int32} (h : a = c) (k : b = d) : a - b = c - d := by rw [h, k]
theorem ag_side {σ : mm_S} {n m : Nat} (X : XI σ n m) (x1 x2 : Int32) : AGr 8 147 [.ref 0, .int x1, .int x2] [.ref 10, .int x1, .int x2] σ := by
  have Z := X.1.1
  have pm : σ 10 12 = σ 0 3 := X.1.2.2.2.2
  by_cases p : σ 0 3 = 0
  · have p' : σ 10 12 = 0 := pm.trans p
    refine ⟨1, 0, fun d Q XQ a _ _ => ?_, Or.inr (Or.inl rfl), fun d Q q => ?_⟩
    · refine xz_8 (d := d + 2) (q0 := fun _ => a rfl) ?_ ?_ ?_ ?_ ?_ ?_ ?_ ?_ ?_ <;> exact fun g => absurd p g
    · refine c_147 (q0 := fun _ => q 0 (fun h => absurd h (by decide))) ?_ ?_ ?_ ?_ ?_ ?_ ?_ ?_ ?_ ?_ <;> exact fun g => absurd p' g
  have p' : ¬ σ 10 12 = 0 := by rw [pm]; exact p
  by_cases ok : (∃ i, i < 9 ∧ x1 = nI i ∧ ¬ xd σ x1 = 0) ∧ ∃ j, j < 4 ∧ x2 = nI j
  · obtain ⟨⟨i, hi, rfl, di⟩, j, hj, rfl⟩ := ok
    obtain ⟨B, s, t, L, f, Mk, lab, pp, K, D, V, P⟩ := X.px p
    have dm := (md_x Z).mpr di
    have mj := mi_nI (b := 3) (by decide) (show j ≤ 3 by omega)
    have hr : rmx m i := ⟨hi, (Z.ck.dr i hi).mp ((xd_01 σ _).resolve_left di)⟩
    have b53 := f_53_b (τ := σ) (K := K) (r := i) (s := j) (by omega) hj ⟨P.kk i (by omega), P.pl.nb.1 i (by omega)⟩
    have kn := P.pl.nes (s' := j) (r := i) hj
    have e91 : σ 91 ((9 : Int32) + nI j).toNatClampNeg = nI (K (9 + j)) := by rw [nI_9, nI_clamp (by omega)]; exact P.rp.kk (9 + j) (by omega)
    have b91 : ((σ 91 ((9 : Int32) + nI j).toNatClampNeg) >>> (nI i &&& 31)) &&& (1 : Int32) = 0 ↔ (K i).testBit (9 + j) = false := by
      have k13 := P.pl.nb.1 (9 + j) (by omega)
      have h1 := bit_1 (m := K (9 + j)) (k := i) (by omega) (by omega)
      rw [e91]
      have kb : (K (9 + j)).testBit i = true ↔ (K i).testBit (9 + j) = true := ⟨fun h => (kn.mpr ⟨hr, h⟩).2, fun h => (kn.mp ⟨hi, h⟩).2⟩
      have d01 : (nI (K (9 + j)) >>> (nI i &&& 31)) &&& (1 : Int32) = 0 ∨ (nI (K (9 + j)) >>> (nI i &&& 31)) &&& (1 : Int32) = 1 := a1_01 _
      constructor
      · intro h
        cases e : (K i).testBit (9 + j)
        · rfl
        · rw [h1.mpr (kb.mpr e)] at h; exact absurd h (by decide)
      · intro h
        rcases d01 with e | e
        · exact e
        · rw [kb.mp (h1.mp e)] at h; exact absurd h (by decide)
    have c9 : vp_in ((9 : Int32) + nI j) 13 := by rw [nI_9]; exact pk_in (9 + j) 13 (by omega)
    have a0 := at_in (b := 0) hi (by omega)
    have a1 := at_in (b := 1) hi (by omega)
    have r0 := PX_r P.rp hi (b := 0) (by decide)
    have r1 := PX_r P.rp hi (b := 1) (by decide)
    have ci : (nI i).toNatClampNeg = i := nI_clamp (by omega)
    have v1 : vp_in ((nI j &&& (1 : Int32)) + (2 : Int32)) 4 := by rw [nd_1 j hj, nd_4 _ (by omega)]; exact pk_in (j % 2 + 2) 4 (by omega)
    have v2 : vp_in (nI j &&& (1 : Int32)) 4 := by rw [nd_1 j hj]; exact pk_in (j % 2) 4 (by omega)
    have j4 : ¬ nI j < 0 := nI_nlt (b := 0) (Nat.zero_le j) (by omega)
    have j5 : nI j < 4 := (nI_ltI (a := j) (b := 4) (by omega) (by decide)).mpr hj
    cases e : (K i).testBit (9 + j)
    · have f0 := b53.mpr e
      refine ⟨0, 0, fun d Q XQ _ _ c => ?_, Or.inl rfl, fun d Q q => ?_⟩
      · exact xz_8 (d := d + 2) (fun _ _ _ _ => pk_in i 13 (by omega)) (fun _ _ _ _ g => absurd f0 g) (fun _ _ _ _ g => absurd f0 g) (fun _ _ _ _ g => absurd f0 g) (fun g => absurd g p) (fun _ g => absurd g di) (fun _ _ g => absurd g j4) (fun _ _ _ _ _ => c rfl) (fun _ _ _ _ g => absurd f0 g) (fun _ _ _ g => absurd j5 g)
      · have z := b91.mpr e
        exact c_147 (fun _ _ _ => c9) (fun _ _ _ g => absurd z g) (fun _ _ _ g => absurd z g) (fun _ _ _ g => absurd z g) (fun g => absurd g p') (fun _ g => absurd g dm) (fun _ _ g => absurd g mj) (fun _ _ _ _ => q _ (fun _ => rfl)) (fun _ _ _ g => absurd z g) (fun _ _ _ g => absurd z g) (fun _ _ _ g => absurd z g)
    · have f0 : ¬ f_53 σ (nI i) (nI j) = 0 := fun h => by rw [b53.mp h] at e; exact absurd e (by decide)
      have z : ¬ ((σ 91 ((9 : Int32) + nI j).toNatClampNeg) >>> (nI i &&& 31)) &&& (1 : Int32) = 0 := fun h => by rw [b91.mp h] at e; exact absurd e (by decide)
      have f80 : f_80 σ (nI i) (nI j) = nI (V (4 * i + 2 + j % 2)) - nI (V (4 * i + j % 2)) := by
        unfold f_80
        rw [nd_1 j hj, nd_4 _ (by omega), ci, nI_clamp (by omega), nI_clamp (by omega), P.pf.1 i (j % 2 + 2) hi (by omega), P.pf.1 i (j % 2) hi (by omega), show 4 * i + (j % 2 + 2) = 4 * i + 2 + j % 2 by omega]
      refine ⟨0, f_80 σ (nI i) (nI j), fun d Q XQ _ _ c => ?_, Or.inl rfl, fun d Q q => ?_⟩
      · exact xz_8 (d := d + 2) (fun _ _ _ _ => pk_in i 13 (by omega)) (fun _ _ _ _ _ => pk_in i 9 hi) (fun _ _ _ _ _ => v1) (fun _ _ _ _ _ => v2) (fun g => absurd g p) (fun _ g => absurd g di) (fun _ _ g => absurd g j4) (fun _ _ _ _ g => absurd g f0) (fun _ _ _ _ _ => c rfl) (fun _ _ _ g => absurd j5 g)
      · refine c_147 (fun _ _ _ => c9) (fun _ _ _ _ _ => a1) (fun _ _ _ _ _ _ => a1) (fun _ _ _ _ _ _ => a0) (fun g => absurd g p') (fun _ g => absurd g dm) (fun _ _ g => absurd g mj) (fun _ _ _ g => absurd g z) (fun _ _ _ _ g => q _ (fun _ => ?_)) (fun _ _ _ _ _ g => q _ (fun _ => ?_)) (fun _ _ _ _ g g' => q _ (fun _ => ?_))
        · have : j = 1 := (nI_eq (a := j) (b := 1) (by omega) (by decide)).mp g
          subst this
          rw [f80]
          exact sub_cg r1.2 r1.1
        · have : j = 3 := (nI_eq (a := j) (b := 3) (by omega) (by decide)).mp g
          subst this
          rw [f80]
          exact sub_cg r1.2 r1.1
        · have : j = 0 ∨ j = 2 := by
            rcases (show j = 0 ∨ j = 1 ∨ j = 2 ∨ j = 3 by omega) with rfl | rfl | rfl | rfl
            · exact Or.inl rfl
            · exact absurd rfl g
            · exact Or.inr rfl
            · exact absurd rfl g'
          rw [f80]
          rcases this with rfl | rfl
          · exact sub_cg r0.2 r0.1
          · exact sub_cg r0.2 r0.1
  · have bad : ¬ xd σ x1 = 0 → ¬ x2 < 0 → x2 < 4 → False := fun g1 g2 g3 => by
      obtain ⟨i, hi, e⟩ := xd_n0 g1
      obtain ⟨j, hj, e'⟩ := in_4 g2 g3
      exact ok ⟨⟨i, hi, e, g1⟩, j, hj, e'⟩
    have bad' : ¬ mdr σ x1 = 0 → ¬ mi x2 0 3 = 0 → False := fun g1 g2 => by
      obtain ⟨i, hi, e⟩ := mdr_n0 g1
      obtain ⟨j, hj, e'⟩ := in_mi (b := 3) (by decide) g2
      exact ok ⟨⟨i, hi, e, (md_x Z).mp g1⟩, j, by omega, e'⟩
    refine ⟨2, 0, fun d Q XQ _ b _ => ?_, Or.inr (Or.inr rfl), fun d Q q => ?_⟩
    · exact xz_8 (d := d + 2) (fun _ g1 g2 g3 => (bad g1 g2 g3).elim) (fun _ g1 g2 g3 _ => (bad g1 g2 g3).elim) (fun _ g1 g2 g3 _ => (bad g1 g2 g3).elim) (fun _ g1 g2 g3 _ => (bad g1 g2 g3).elim) (fun g => absurd g p) (fun _ _ => b rfl) (fun _ _ _ => b rfl) (fun _ g1 g2 g3 _ => (bad g1 g2 g3).elim) (fun _ g1 g2 g3 _ => (bad g1 g2 g3).elim) (fun _ _ _ _ => b rfl)
    · have q2 := q 0 (fun h => absurd h (by decide))
      exact c_147 (fun _ g1 g2 => (bad' g1 g2).elim) (fun _ g1 g2 _ _ => (bad' g1 g2).elim) (fun _ g1 g2 _ _ _ => (bad' g1 g2).elim) (fun _ g1 g2 _ _ _ => (bad' g1 g2).elim) (fun g => absurd g p') (fun _ _ => q2) (fun _ _ _ => q2) (fun _ g1 g2 _ => (bad' g1 g2).elim) (fun _ g1 g2 _ _ => (bad' g1 g2).elim) (fun _ g1 g2 _ _ _ => (bad' g1 g2).elim) (fun _ g1 g2 _ _ _ => (bad' g1 g2).elim)
end
section
/-! wallOf: both sides answer alike -/
theorem mxl {va vb w1 w2 : Int32} (e1 : w1 = va) (e2 : w2 = vb) (g : w1 ≤ w2) : w2 = if va < vb then vb else va := by
  subst e1 e2
  by_cases h : w1 < w2
  · rw [if_pos h]
  · rw [if_neg h]; exact (Int32.le_antisymm g (Int32.not_lt.mp h)).symm
theorem mxg {va vb w1 w2 : Int32} (e1 : w1 = va) (e2 : w2 = vb) (g : ¬ w1 ≤ w2) : w1 = if va < vb then vb else va := by
  subst e1 e2
  rw [if_neg (fun h => g (Int32.le_of_lt h))]
theorem mnl {va vb w1 w2 : Int32} (e1 : w1 = va) (e2 : w2 = vb) (g : ¬ w2 ≤ w1) : w1 = if vb < va then vb else va := by
  subst e1 e2
  rw [if_neg (fun h => g (Int32.le_of_lt h))]
theorem mng {va vb w1 w2 : Int32} (e1 : w1 = va) (e2 : w2 = vb) (g : w2 ≤ w1) : w2 = if vb < va then vb else va := by
  subst e1 e2
  by_cases h : w2 < w1
  · rw [if_pos h]
  · rw [if_neg h]; exact Int32.le_antisymm g (Int32.not_lt.mp h)
theorem ag_wall {σ : mm_S} {n m : Nat} (X : XI σ n m) (x1 x2 : Int32) : AGr 7 146 [.ref 0, .int x1, .int x2] [.ref 10, .int x1, .int x2] σ := by
  have Z := X.1.1
  have n21 := Z.ck.jn.1
  have pm : σ 10 12 = σ 0 3 := X.1.2.2.2.2
  by_cases p : σ 0 3 = 0
  · have p' : σ 10 12 = 0 := pm.trans p
    refine ⟨1, 0, fun d Q XQ a _ _ => ?_, Or.inr (Or.inl rfl), fun d Q q => ?_⟩
    · refine xz_7 (d := d + 2) (q0 := fun _ => a rfl) ?_ ?_ ?_ ?_ ?_ ?_ ?_ ?_ ?_ ?_ ?_ ?_ ?_ ?_ ?_ <;> exact fun g => absurd p g
    · refine c_146 (q0 := fun _ => q 0 (fun h => absurd h (by decide))) ?_ ?_ ?_ ?_ ?_ ?_ ?_ ?_ ?_ ?_ ?_ ?_ ?_ ?_ ?_ ?_ ?_ ?_ ?_ ?_ ?_ ?_ ?_ ?_ ?_ ?_ ?_ ?_ ?_ ?_ ?_ ?_ ?_ ?_ ?_ ?_ ?_ ?_ ?_ ?_ ?_ ?_ ?_ ?_ ?_ <;> exact fun g => absurd p' g
  have p' : ¬ σ 10 12 = 0 := by rw [pm]; exact p
  by_cases ok : (∃ k, k < n ∧ x1 = nI k) ∧ ∃ j, j < 3 ∧ x2 = nI j
  · obtain ⟨⟨k, hk, rfl⟩, j, hj, rfl⟩ := ok
    obtain ⟨B, s, t, L, f, Mk, lab, pp, K, D, V, P⟩ := X.px p
    obtain ⟨a, b, ha, hb, _, _, _, e16, e17⟩ := Z.ck.je k hk
    obtain ⟨e45, d4⟩ := P.dd k hk
    have ck : (nI k).toNatClampNeg = k := nI_clamp (by omega)
    have mj := mi_nI (b := 2) (by decide) (show j ≤ 2 by omega)
    have xk : xj σ (nI k) = 1 := xj_1.mpr ⟨nI_nlt (b := 0) (Nat.zero_le k) (by omega), by rw [Z.ck.jn.2]; exact hI_nle (by omega) hk⟩
    have mk : ¬ mi (nI k) 0 (σ 10 6 - 1) = 0 := by rw [(Jm_j Z.jm).mpr xk]; decide
    have xk0 : ¬ xj σ (nI k) = 0 := by rw [xk]; decide
    have j2 : ¬ nI j < 0 := nI_nlt (b := 0) (Nat.zero_le j) (by omega)
    have j3 : nI j ≤ 2 := hI_le (b := 2) (by decide) (by omega)
    have e95 : σ 95 (nI k).toNatClampNeg = nI (D k) := by rw [ck]; exact P.rp.dd k hk
    have e80 : σ 80 (nI k).toNatClampNeg = nI a := by rw [ck, (Z.jj k hk).1]; exact e16
    have e81 : σ 81 (nI k).toNatClampNeg = nI b := by rw [ck, (Z.jj k hk).2]; exact e17
    have h21 : vp_in (nI k) 21 := pk_in k 21 (by omega)
    have h80 : ∀ c, c < 2 → vp_in (f_135 (σ 80 (nI k).toNatClampNeg) (nI c)) 18 := fun c hc => by rw [e80]; exact at_in ha hc
    have h81 : ∀ c, c < 2 → vp_in (f_135 (σ 81 (nI k).toNatClampNeg) (nI c)) 18 := fun c hc => by rw [e81]; exact at_in hb hc
    have R : ∀ c, c < 2 → σ 96 (f_135 (σ 80 (nI k).toNatClampNeg) (nI c)).toNatClampNeg = nI (V (4 * a + c)) ∧ σ 96 (f_135 (σ 81 (nI k).toNatClampNeg) (nI c)).toNatClampNeg = nI (V (4 * b + c)) ∧ σ 97 (f_135 (σ 80 (nI k).toNatClampNeg) (nI c)).toNatClampNeg = nI (V (4 * a + 2 + c)) ∧ σ 97 (f_135 (σ 81 (nI k).toNatClampNeg) (nI c)).toNatClampNeg = nI (V (4 * b + 2 + c)) := fun c hc => by
      rw [e80, e81]
      exact ⟨(PX_r P.rp ha hc).1, (PX_r P.rp hb hc).1, (PX_r P.rp ha hc).2, (PX_r P.rp hb hc).2⟩
    have f74 : (1 : Int32) - f_74 σ (nI k) = nI (1 - D k / 2) := by unfold f_74; rw [ck, e45, nd_2 _ d4, nd_3 _ (by omega)]
    have v74 : vp_in ((1 : Int32) - f_74 σ (nI k)) 4 := by rw [f74]; exact pk_in (1 - D k / 2) 4 (by omega)
    have v75 : vp_in (((1 : Int32) - f_74 σ (nI k)) + (2 : Int32)) 4 := by rw [f74, nd_4 _ (by omega)]; exact pk_in (1 - D k / 2 + 2) 4 (by omega)
    have v16 : vp_in (σ 16 (nI k).toNatClampNeg) 9 := by rw [ck, e16]; exact pk_in a 9 ha
    have v17 : vp_in (σ 17 (nI k).toNatClampNeg) 9 := by rw [ck, e17]; exact pk_in b 9 hb
    have f78 : ∀ c, c = 1 - D k / 2 → f_78 σ (nI k) = if nI (V (4 * a + c)) < nI (V (4 * b + c)) then nI (V (4 * b + c)) else nI (V (4 * a + c)) := fun c hc => by
      subst hc
      unfold f_78
      rw [f74, ck, e16, e17, nI_clamp (show a < 2 ^ 31 by omega), nI_clamp (show b < 2 ^ 31 by omega), nI_clamp (by omega), P.pf.1 a _ ha (by omega), P.pf.1 b _ hb (by omega)]
    have f79 : ∀ c, c = 1 - D k / 2 → f_79 σ (nI k) = if nI (V (4 * b + 2 + c)) < nI (V (4 * a + 2 + c)) then nI (V (4 * b + 2 + c)) else nI (V (4 * a + 2 + c)) := fun c hc => by
      subst hc
      unfold f_79
      rw [f74, nd_4 _ (by omega), ck, e16, e17, nI_clamp (show a < 2 ^ 31 by omega), nI_clamp (show b < 2 ^ 31 by omega), nI_clamp (by omega), P.pf.1 a _ ha (by omega), P.pf.1 b _ hb (by omega), show 4 * a + (1 - D k / 2 + 2) = 4 * a + 2 + (1 - D k / 2) by omega, show 4 * b + (1 - D k / 2 + 2) = 4 * b + 2 + (1 - D k / 2) by omega]
    have c1 : σ 95 (nI k).toNatClampNeg = 0 ∨ σ 95 (nI k).toNatClampNeg = 1 → 1 = 1 - D k / 2 := fun h => by
      rw [e95] at h
      rcases h with h | h
      · have := (nI_eq (a := D k) (b := 0) (by omega) (by decide)).mp h; omega
      · have := (nI_eq (a := D k) (b := 1) (by omega) (by decide)).mp h; omega
    have c0 : ¬ σ 95 (nI k).toNatClampNeg = 0 → ¬ σ 95 (nI k).toNatClampNeg = 1 → 0 = 1 - D k / 2 := fun h h' => by
      rw [e95] at h h'
      have h1 : D k ≠ 0 := fun e => h (by rw [e]; rfl)
      have h2 : D k ≠ 1 := fun e => h' (by rw [e]; rfl)
      omega
    refine ⟨0, if j = 0 then σ 45 k else if j = 1 then f_78 σ (nI k) else f_79 σ (nI k), fun d Q XQ _ _ c => ?_, Or.inl rfl, fun d Q q => ?_⟩
    · have cv := c rfl
      refine xz_7 (d := d + 2) (fun _ _ _ _ _ => h21) (fun _ _ _ _ _ _ => h21) (fun _ _ _ _ _ _ => v16) (fun _ _ _ _ _ _ => v74) (fun _ _ _ _ _ _ => v17) (fun _ _ _ _ _ _ => h21) (fun _ _ _ _ _ _ => v16) (fun _ _ _ _ _ _ => v75) (fun _ _ _ _ _ _ => v17) (fun g => absurd g p) (fun _ g => absurd g xk0) (fun _ _ g => absurd g j2) (fun _ _ _ _ g => ?_) (fun _ _ _ _ g g' => ?_) (fun _ _ _ _ g g' => ?_) (fun _ _ _ g => absurd j3 g)
      · have : j = 0 := (nI_eq (a := j) (b := 0) (by omega) (by decide)).mp g
        rw [if_pos this] at cv
        rw [ck]; exact cv
      · have : j = 1 := (nI_eq (a := j) (b := 1) (by omega) (by decide)).mp g'
        rw [if_neg (by omega), if_pos this] at cv
        exact cv
      · have h0 : ¬ j = 0 := fun e => g (by rw [e]; rfl)
        have h1 : ¬ j = 1 := fun e => g' (by rw [e]; rfl)
        rw [if_neg h0, if_neg h1] at cv
        exact cv
    · have w1 : ∀ w, ¬ nI j = 0 → nI j = 1 → w = f_78 σ (nI k) → Q (some (.int w)) (mm_up σ 10 0 0) := fun w _ g e => q w (fun _ => by
        have : j = 1 := (nI_eq (a := j) (b := 1) (by omega) (by decide)).mp g
        rw [if_neg (by omega), if_pos this]; exact e)
      have w2 : ∀ w, ¬ nI j = 0 → ¬ nI j = 1 → w = f_79 σ (nI k) → Q (some (.int w)) (mm_up σ 10 0 0) := fun w g g' e => q w (fun _ => by
        have h0 : ¬ j = 0 := fun e => g (by rw [e]; rfl)
        have h1 : ¬ j = 1 := fun e => g' (by rw [e]; rfl)
        rw [if_neg h0, if_neg h1]; exact e)
      have w0 : nI j = 0 → Q (some (.int (σ 95 (nI k).toNatClampNeg))) (mm_up σ 10 0 0) := fun g => q _ (fun _ => by
        have : j = 0 := (nI_eq (a := j) (b := 0) (by omega) (by decide)).mp g
        rw [if_pos this, e95, e45])
      apply c_146
      all_goals first
        | exact fun g => absurd g p'
        | exact fun _ g => absurd g mk
        | exact fun _ _ g => absurd g mj
        | exact fun _ _ _ g => w0 g
        | exact fun _ _ _ g1 g2 g3 g4 => w1 _ g1 g3 (by rw [f78 1 (c1 (Or.inl g2))]; exact mxl (R 1 (by decide)).1 (R 1 (by decide)).2.1 g4)
        | exact fun _ _ _ g1 g2 g3 g4 => w1 _ g1 g3 (by rw [f78 1 (c1 (Or.inl g2))]; exact mxg (R 1 (by decide)).1 (R 1 (by decide)).2.1 g4)
        | exact fun _ _ _ g1 g2 g3 g4 => w2 _ g1 g3 (by rw [f79 1 (c1 (Or.inl g2))]; exact mng (R 1 (by decide)).2.2.1 (R 1 (by decide)).2.2.2 g4)
        | exact fun _ _ _ g1 g2 g3 g4 => w2 _ g1 g3 (by rw [f79 1 (c1 (Or.inl g2))]; exact mnl (R 1 (by decide)).2.2.1 (R 1 (by decide)).2.2.2 g4)
        | exact fun _ _ _ g1 _ g2 g3 g4 => w1 _ g1 g3 (by rw [f78 1 (c1 (Or.inr g2))]; exact mxl (R 1 (by decide)).1 (R 1 (by decide)).2.1 g4)
        | exact fun _ _ _ g1 _ g2 g3 g4 => w1 _ g1 g3 (by rw [f78 1 (c1 (Or.inr g2))]; exact mxg (R 1 (by decide)).1 (R 1 (by decide)).2.1 g4)
        | exact fun _ _ _ g1 _ g2 g3 g4 => w2 _ g1 g3 (by rw [f79 1 (c1 (Or.inr g2))]; exact mng (R 1 (by decide)).2.2.1 (R 1 (by decide)).2.2.2 g4)
        | exact fun _ _ _ g1 _ g2 g3 g4 => w2 _ g1 g3 (by rw [f79 1 (c1 (Or.inr g2))]; exact mnl (R 1 (by decide)).2.2.1 (R 1 (by decide)).2.2.2 g4)
        | exact fun _ _ _ g1 g g2 g3 g4 => w1 _ g1 g3 (by rw [f78 0 (c0 g g2)]; exact mxl (R 0 (by decide)).1 (R 0 (by decide)).2.1 g4)
        | exact fun _ _ _ g1 g g2 g3 g4 => w1 _ g1 g3 (by rw [f78 0 (c0 g g2)]; exact mxg (R 0 (by decide)).1 (R 0 (by decide)).2.1 g4)
        | exact fun _ _ _ g1 g g2 g3 g4 => w2 _ g1 g3 (by rw [f79 0 (c0 g g2)]; exact mng (R 0 (by decide)).2.2.1 (R 0 (by decide)).2.2.2 g4)
        | exact fun _ _ _ g1 g g2 g3 g4 => w2 _ g1 g3 (by rw [f79 0 (c0 g g2)]; exact mnl (R 0 (by decide)).2.2.1 (R 0 (by decide)).2.2.2 g4)
        | (intros; first | exact h21 | exact h80 0 (by decide) | exact h80 1 (by decide) | exact h81 0 (by decide) | exact h81 1 (by decide))
  · have bad : ¬ xj σ x1 = 0 → ¬ x2 < 0 → x2 ≤ 2 → False := fun g1 g2 g3 => by
      obtain ⟨k, hk, e⟩ := xj_n Z.jm Z.ck.jn.2 n21 ((xj_01 σ x1).resolve_left g1)
      obtain ⟨j, hj, e'⟩ := in_3 g2 g3
      exact ok ⟨⟨k, hk, e⟩, j, hj, e'⟩
    have bad' : ¬ mi x1 0 (σ 10 6 - 1) = 0 → ¬ mi x2 0 2 = 0 → False := fun g1 g2 => by
      obtain ⟨k, hk, e⟩ := xj_n Z.jm Z.ck.jn.2 n21 ((Jm_j Z.jm).mp ((mi_01 _ _ _).resolve_left g1))
      obtain ⟨j, hj, e'⟩ := in_mi (b := 2) (by decide) g2
      exact ok ⟨⟨k, hk, e⟩, j, by omega, e'⟩
    refine ⟨2, 0, fun d Q XQ _ b _ => ?_, Or.inr (Or.inr rfl), fun d Q q => ?_⟩
    · apply xz_7 (d := d + 2)
      all_goals first
        | exact fun g => absurd g p
        | exact fun _ _ => b rfl
        | exact fun _ _ _ => b rfl
        | exact fun _ _ _ _ => b rfl
        | exact fun _ g1 g2 g3 _ => (bad g1 g2 g3).elim
        | exact fun _ g1 g2 g3 _ _ => (bad g1 g2 g3).elim
    · have q2 := q 0 (fun h => absurd h (by decide))
      apply c_146
      all_goals first
        | exact fun g => absurd g p'
        | exact fun _ _ => q2
        | exact fun _ _ _ => q2
        | (intro _ g1 g2; exact (bad' g1 g2).elim)
end

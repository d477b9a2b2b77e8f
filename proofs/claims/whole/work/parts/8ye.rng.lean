/-! the reference: layRings, what it writes -/
def OX (τ : mm_S) (n L p0 : Nat) (o b : Nat → Nat) : Prop := (n ≤ 21) ∧ (τ 10 6 = nI n) ∧ (1 ≤ L) ∧ (L ≤ 9) ∧ (τ 10 15 = nI L) ∧ (∀ k, k < L → o k < 9 ∧ τ 85 k = nI (o k)) ∧ (∀ i j, i < j → j < L → o i ≠ o j) ∧ (p0 < L) ∧ (τ 83 0 = nI (o p0)) ∧ (∀ s, s < 4 → τ 92 s = nI (b s) ∧ τ 93 s = nI (b (s + 1))) ∧ (b 0 = 0 ∧ b 0 ≤ b 1 ∧ b 1 ≤ b 2 ∧ b 2 ≤ b 3 ∧ b 3 ≤ b 4 ∧ b 4 = L)
theorem OX.n21 {τ : mm_S} {n L p0 : Nat} {o b : Nat → Nat} (h : OX τ n L p0 o b) : n ≤ 21 := h.1
theorem OX.e6 {τ : mm_S} {n L p0 : Nat} {o b : Nat → Nat} (h : OX τ n L p0 o b) : τ 10 6 = nI n := h.2.1
theorem OX.l1 {τ : mm_S} {n L p0 : Nat} {o b : Nat → Nat} (h : OX τ n L p0 o b) : 1 ≤ L := h.2.2.1
theorem OX.l9 {τ : mm_S} {n L p0 : Nat} {o b : Nat → Nat} (h : OX τ n L p0 o b) : L ≤ 9 := h.2.2.2.1
theorem OX.e15 {τ : mm_S} {n L p0 : Nat} {o b : Nat → Nat} (h : OX τ n L p0 o b) : τ 10 15 = nI L := h.2.2.2.2.1
theorem OX.ol {τ : mm_S} {n L p0 : Nat} {o b : Nat → Nat} (h : OX τ n L p0 o b) : ∀ k, k < L → o k < 9 ∧ τ 85 k = nI (o k) := h.2.2.2.2.2.1
theorem OX.dis {τ : mm_S} {n L p0 : Nat} {o b : Nat → Nat} (h : OX τ n L p0 o b) : ∀ i j, i < j → j < L → o i ≠ o j := h.2.2.2.2.2.2.1
theorem OX.p0L {τ : mm_S} {n L p0 : Nat} {o b : Nat → Nat} (h : OX τ n L p0 o b) : p0 < L := h.2.2.2.2.2.2.2.1
theorem OX.e83 {τ : mm_S} {n L p0 : Nat} {o b : Nat → Nat} (h : OX τ n L p0 o b) : τ 83 0 = nI (o p0) := h.2.2.2.2.2.2.2.2.1
theorem OX.h92 {τ : mm_S} {n L p0 : Nat} {o b : Nat → Nat} (h : OX τ n L p0 o b) : ∀ s, s < 4 → τ 92 s = nI (b s) ∧ τ 93 s = nI (b (s + 1)) := h.2.2.2.2.2.2.2.2.2.1
theorem OX.bm {τ : mm_S} {n L p0 : Nat} {o b : Nat → Nat} (h : OX τ n L p0 o b) : b 0 = 0 ∧ b 0 ≤ b 1 ∧ b 1 ≤ b 2 ∧ b 2 ≤ b 3 ∧ b 3 ≤ b 4 ∧ b 4 = L := h.2.2.2.2.2.2.2.2.2.2
theorem OX_cg {τ τ' : mm_S} {n L p0 : Nat} {o b : Nat → Nat} (h : ∀ c, c ≠ 89 → c ≠ 90 → τ' c = τ c) (X : OX τ n L p0 o b) : OX τ' n L p0 o b := by
  refine ⟨X.n21, ?_, X.l1, X.l9, ?_, ?_, X.dis, X.p0L, ?_, ?_, X.bm⟩
  · rw [h 10 (by decide) (by decide)]; exact X.e6
  · rw [h 10 (by decide) (by decide)]; exact X.e15
  · rw [h 85 (by decide) (by decide)]; exact X.ol
  · rw [h 83 (by decide) (by decide)]; exact X.e83
  · rw [h 92 (by decide) (by decide), h 93 (by decide) (by decide)]; exact X.h92
theorem OX.uq {τ : mm_S} {n L p0 : Nat} {o b : Nat → Nat} (X : OX τ n L p0 o b) {i j : Nat} (hi : i < L) (hj : j < L) (e : o i = o j) : i = j := by
  rcases Nat.lt_trichotomy i j with c | c | c
  · exact absurd e (X.dis i j c hj)
  · exact c
  · exact absurd e.symm (X.dis j i c hi)
def RZe (τ : mm_S) (r z : Nat) (e : Nat → Nat) : Prop := τ 89 r = nI z ∧ ∀ i, i < z → τ 90 (16 * r + i) = nI (e i)
theorem c_124t {d r z w : Nat} {Q : mm_Q} {τ : mm_S} {e : Nat → Nat} (hr : r < 9) (hz : z < 16) (R : RZe τ r z e) (q : ∀ τ' e', rfr τ τ' r → (∀ i, i < z → e' i = e i) → e' z = w → RZe τ' r (z + 1) e' → Q none τ') : mD (d + 1) 124 [.ref 10, .int (nI r), .int (nI w)] τ Q := by
  have cr : (nI r).toNatClampNeg = r := nI_clamp (by omega)
  have ex : (16 : Int32) * nI r + τ 89 (nI r).toNatClampNeg = nI (16 * r + z) := by rw [cr, R.1]; exact nI_16
  refine ke_124 (kb_124_0 (pk_in r 9 hr) (by rw [ex]; exact pk_in (16 * r + z) 144 (by omega)) (pk_in r 9 hr) (pk_in r 9 hr) ?_)
  rw [ex, nI_clamp (show 16 * r + z < 2 ^ 31 by omega), cr]
  have e89 : (mm_up τ 90 (16 * r + z) (nI w)) 89 r = nI z := by rw [mm_up_n (by decide)]; exact R.1
  rw [e89, nI_1]
  refine q _ (fun i => if i = z then w else e i) ⟨fun c h1 h2 => by rw [mm_up_n h1, mm_up_n h2], fun x hx => by rw [mm_up_o hx, mm_up_n (by decide)], fun x hx => by rw [mm_up_n (by decide), mm_up_o (by omega)]⟩ (fun i hi => if_neg (by omega)) (if_pos rfl) ⟨mm_up_s, fun i hi => ?_⟩
  rw [mm_up_n (by decide)]
  by_cases ei : i = z
  · subst ei
    show _ = nI (if i = i then w else e i)
    rw [mm_up_s, if_pos rfl]
  · show _ = nI (if i = z then w else e i)
    rw [mm_up_o (by omega), if_neg ei]; exact R.2 i (by omega)
theorem c_125t {d n L p0 r : Nat} {Q : mm_Q} {τ : mm_S} {o b : Nat → Nat} (X : OX τ n L p0 o b) (r9 : r < 9) (q0 : (∀ k, k < L → o k ≠ r) → Q (some (.int (-1))) τ) (q1 : ∀ j, j < L → o j = r → ∀ kk, kk < n → mjn τ (nI (o ((j + L - 1) % L))) (nI r) kk → Q (some (.int (nI kk))) τ) (q2 : ∀ j, j < L → o j = r → (∀ kk, kk < n → ¬ mjn τ (nI (o ((j + L - 1) % L))) (nI r) kk) → Q (some (.int (-1))) τ) : mD (d + 2) 125 [.ref 10, .int (nI r)] τ Q := by
  have l1 := X.l1
  have l9 := X.l9
  refine ke_125 (kb_125_0 ?_)
  refine lp_dn (P := fun k => (∀ i, i < k → o i ≠ r) → mw (d + 1) mt_125 Q 2 [some (.ref 10), some (.int (nI r)), some (.int (nI k))] [] τ) L ?_ ?_ 0 (Nat.zero_le _) (fun i hi => absurd hi (Nat.not_lt_zero i))
  · intro h
    exact kb_125_2 (fun _ => kb_125_50 (q0 h)) (fun g => absurd (by rw [X.e15]; exact hI_le (by omega) (Nat.le_refl L)) g)
  · intro k hk ih h
    have ck : (nI k).toNatClampNeg = k := nI_clamp (by omega)
    have ex : nI k + nI L - 1 - (nI k + nI L - 1) / nI L * nI L = nI ((k + L - 1) % L) := by
      rw [nI_add, show nI (k + L) - 1 = nI (k + L - 1) by rw [show (1 : Int32) = nI 1 from rfl]; exact nI_sub (by omega)]
      exact rem_n0 L (by omega) (by omega) _ (by omega)
    have ml : (k + L - 1) % L < L := Nat.mod_lt _ (by omega)
    refine kb_125_2 (fun g => absurd g (by rw [X.e15]; exact hI_nle (by omega) hk)) (fun _ => kb_125_10 (pk_in k 48 (by omega)) (fun g => ?_) (fun g => kb_125_44 ?_))
    · rw [ck, (X.ol k hk).2] at g
      have ek := nI9 (X.ol k hk).1 r9 g
      refine kb_125_20 (by rw [X.e15]; exact nI_ne0 (by omega) (by omega)) (by rw [X.e15, ex]; exact pk_in ((k + L - 1) % L) 48 (by omega)) ?_
      rw [X.e15, ex, nI_clamp (by omega), (X.ol _ ml).2]
      exact c_90 X.n21 X.e6 (fun kk h1 h2 _ => kb_125_43 (q1 k hk ek kk h1 h2)) (fun no => kb_125_43 (q2 k hk ek no))
    · rw [nI_1]
      refine ih (fun i hi => ?_)
      by_cases e : i = k
      · subst e
        intro y
        rw [ck, (X.ol i hk).2, y] at g
        exact g rfl
      · exact h i (by omega)
def ypl (L p0 j : Nat) : Nat := if (j + L - p0) % L = 0 then L else (j + L - p0) % L
theorem lo_le {b : Nat → Nat} {L : Nat} (bm : b 0 = 0 ∧ b 0 ≤ b 1 ∧ b 1 ≤ b 2 ∧ b 2 ≤ b 3 ∧ b 3 ≤ b 4 ∧ b 4 = L) {y s : Nat} (hs : s < 4) (hy : y ≤ L) : lo4 b y ≤ s ↔ y ≤ b (s + 1) := by
  have c := lo4_c b y
  rcases (show s = 0 ∨ s = 1 ∨ s = 2 ∨ s = 3 by omega) with e | e | e | e <;> subst e
  · show _ ↔ y ≤ b 1; omega
  · show _ ↔ y ≤ b 2; omega
  · show _ ↔ y ≤ b 3; omega
  · show _ ↔ y ≤ b 4; omega
theorem le_lo {b : Nat → Nat} {L : Nat} (bm : b 0 = 0 ∧ b 0 ≤ b 1 ∧ b 1 ≤ b 2 ∧ b 2 ≤ b 3 ∧ b 3 ≤ b 4 ∧ b 4 = L) {y s : Nat} (hs : s < 4) (hy : y + 1 ≤ L) : s ≤ lo4 b (y + 1) ↔ b s ≤ y := by
  have c := lo4_c b (y + 1)
  rcases (show s = 0 ∨ s = 1 ∨ s = 2 ∨ s = 3 by omega) with e | e | e | e <;> subst e <;> omega
theorem c_126t {d n L p0 r z j : Nat} {Q : mm_Q} {τ : mm_S} {o b e : Nat → Nat} (X : OX τ n L p0 o b) (hr : r < 9) (hj : j < L) (ej : o j = r) (hz : z + 8 ≤ 16) (R : RZe τ r z e) (q : ∀ τ' e', rfr τ τ' r → (∀ i, i < z → e' i = e i) → (∀ i, i < nlo b L (ypl L p0 j) - lo4 b (ypl L p0 j) + 1 → e' (z + i) = 41 + (lo4 b (ypl L p0 j) + i) % 4) → RZe τ' r (z + (nlo b L (ypl L p0 j) - lo4 b (ypl L p0 j) + 1)) e' → Q none τ') : mD (d + 2) 126 [.ref 10, .int (nI r)] τ Q := by
  have e41 : ∀ s, (41 : Int32) + nI s = nI (41 + s) := fun s => nI_add 41 s
  have l1 := X.l1
  have l9 := X.l9
  have bm := X.bm
  have bl : ∀ s, s < 5 → b s ≤ L := fun s hs => by
    rcases (show s = 0 ∨ s = 1 ∨ s = 2 ∨ s = 3 ∨ s = 4 by omega) with e | e | e | e | e <;> subst e <;> omega
  obtain ⟨y, hy⟩ : ∃ y, y = (j + L - p0) % L := ⟨_, rfl⟩
  have yL : y < L := by rw [hy]; exact Nat.mod_lt _ (by omega)
  obtain ⟨lo, hlo⟩ : ∃ lo, lo = lo4 b (ypl L p0 j) := ⟨_, rfl⟩
  obtain ⟨ns, hns⟩ : ∃ ns, ns = nlo b L (ypl L p0 j) - lo4 b (ypl L p0 j) + 1 := ⟨_, rfl⟩
  rw [← hns, ← hlo] at q
  have lo3 : lo < 4 := by rw [hlo]; exact lo4_4 b _
  have go : mw (d + 1) mt_126 Q 5 [some (.ref 10), some (.int (nI r)), none, none] [.int (nI y)] τ := by
    obtain ⟨h, l2, base, h3, l2h, nse, lb, cs, P2⟩ : ∃ h l2 base, h < 4 ∧ l2 ≤ h ∧ ns = base + (h + 1 - l2) ∧ (lo + base = l2 ∨ lo + base = l2 + 4) ∧ ((y = 0 ∧ base = 4 - lo ∧ ∀ s, s < 4 → (b (s + 1) = L ↔ lo ≤ s)) ∨ (y ≠ 0 ∧ base = 0)) ∧ ∀ s, s < 4 → ((¬ y < b s ∧ ¬ b (s + 1) < y ∧ ¬ L ≤ b s) ↔ l2 ≤ s ∧ s ≤ h) := by
      by_cases y0 : y = 0
      · have ey : ypl L p0 j = L := by unfold ypl; rw [← hy, if_pos y0]
        rw [ey] at hlo hns
        refine ⟨lo4 b 1, 0, 4 - lo, lo4_4 b 1, by omega, ?_, by omega, Or.inl ⟨y0, rfl, fun s hs => ?_⟩, fun s hs => ?_⟩
        · rw [hns]; unfold nlo; rw [if_neg (by omega), ← hlo]; omega
        · have := lo_le bm hs (Nat.le_refl L)
          rw [← hlo] at this
          have := bl (s + 1) (by omega)
          omega
        · have this : s ≤ lo4 b 1 ↔ b s ≤ 0 := le_lo bm (y := 0) hs (by omega)
          have := bl s (by omega)
          omega
      · have ey : ypl L p0 j = y := by unfold ypl; rw [← hy, if_neg y0]
        rw [ey] at hlo hns
        have k1 : lo ≤ lo4 b (y + 1) := by
          have := (lo_le bm (lo4_4 b (y + 1)) (show y ≤ L by omega)).mpr (by
            have := (lo_le bm (lo4_4 b (y + 1)) (show y + 1 ≤ L by omega)).mp (Nat.le_refl _)
            omega)
          rw [← hlo] at this; exact this
        refine ⟨lo4 b (y + 1), lo, 0, lo4_4 b _, k1, ?_, by omega, Or.inr ⟨y0, rfl⟩, fun s hs => ?_⟩
        · rw [hns]; unfold nlo; rw [if_pos yL, ← hlo]; omega
        · have a1 := lo_le bm hs (show y ≤ L by omega)
          have a2 := le_lo bm hs (show y + 1 ≤ L by omega)
          rw [← hlo] at a1
          omega
    have sec : ∀ (ρ : mm_S) (e1 : Nat → Nat) x3, rfr τ ρ r → RZe ρ r (z + base) e1 → (∀ i, i < z → e1 i = e i) → (∀ i, i < base → e1 (z + i) = 41 + (lo + i) % 4) → mw (d + 1) mt_126 Q 45 [some (.ref 10), some (.int (nI r)), some (.int (nI y)), some (.int x3)] [] ρ := fun ρ e1 x3 f1 R1 k1 k2 => by
      refine kb_126_45 ?_
      refine lp_dn (P := fun s => ∀ (ρ : mm_S) (e' : Nat → Nat) (c : Nat), ((s ≤ l2 ∧ c = base) ∨ (l2 < s ∧ s ≤ h + 1 ∧ c = base + (s - l2)) ∨ (h + 1 < s ∧ c = base + (h + 1 - l2))) → rfr τ ρ r → RZe ρ r (z + c) e' → (∀ i, i < z → e' i = e i) → (∀ i, i < c → e' (z + i) = 41 + (lo + i) % 4) → mw (d + 1) mt_126 Q 47 [some (.ref 10), some (.int (nI r)), some (.int (nI y)), some (.int (nI s))] [] ρ) 4 ?_ ?_ 0 (by omega) ρ e1 base (Or.inl ⟨by omega, rfl⟩) f1 R1 k1 k2
      · intro ρ e' c hc f R k1 k2
        have ec : c = ns := by omega
        rw [ec] at R k2
        exact kb_126_47 (fun _ => kb_126_100 (q ρ e' f k1 k2 R)) (fun g => absurd (by decide) g)
      · intro s hs ih ρ e' c hc f R k1 k2
        have X' := OX_cg f.1 X
        obtain ⟨t1, t2⟩ := X'.h92 s hs
        have cs' : (nI s).toNatClampNeg = s := nI_clamp (by omega)
        have b1 := bl s (by omega)
        have b2 := bl (s + 1) (by omega)
        have sk : ¬ (l2 ≤ s ∧ s ≤ h) → mw (d + 1) mt_126 Q 94 [some (.ref 10), some (.int (nI r)), some (.int (nI y)), some (.int (nI s))] [] ρ := fun no => kb_126_94 (by rw [nI_1]; exact ih ρ e' c (by omega) f R k1 k2)
        have i1 : nI y < nI (b s) ↔ y < b s := nI_ltI (by omega) (by omega)
        have i2 : nI (b (s + 1)) < nI y ↔ b (s + 1) < y := nI_ltI (by omega) (by omega)
        have i3 : nI L ≤ nI (b s) ↔ L ≤ b s := nI_leI (by omega) (by omega)
        refine kb_126_47 (fun g => absurd g (hI_nle (a := 4) (by omega) hs)) (fun _ => kb_126_52 (pk_in s 4 hs) (fun g => sk ?_) (fun g1 => kb_126_62 (pk_in s 4 hs) (fun g => sk ?_) (fun g2 => kb_126_72 (pk_in s 4 hs) (fun g => sk ?_) (fun g3 => kb_126_85 ?_))))
        · rw [cs', t1, i1] at g; exact fun w => ((P2 s hs).mpr w).1 g
        · rw [cs', t2, i2] at g; exact fun w => ((P2 s hs).mpr w).2.1 g
        · rw [cs', t1, X'.e15, i3] at g; exact fun w => ((P2 s hs).mpr w).2.2 g
        · rw [cs', t1, i1] at g1
          rw [cs', t2, i2] at g2
          rw [cs', t1, X'.e15, i3] at g3
          have yes := (P2 s hs).mp ⟨g1, g2, g3⟩
          rw [e41]
          refine c_124t hr (by omega) R (fun ρ' e2 f' m1 m2 R' => kb_126_94 ?_)
          rw [nI_1]
          refine ih ρ' e2 (c + 1) (by omega) (rfr_t f f') R' (fun i hi => by rw [m1 i (by omega)]; exact k1 i hi) (fun i hi => ?_)
          by_cases ei : i = c
          · rw [ei, m2]; omega
          · rw [m1 (z + i) (by omega)]; exact k2 i (by omega)
    refine kb_126_5 ?_
    rcases cs with ⟨y0, eb, P1⟩ | ⟨y0, eb⟩
    · refine lp_dn (P := fun s => ∀ (ρ : mm_S) (e' : Nat → Nat), rfr τ ρ r → RZe ρ r (z + (s - lo)) e' → (∀ i, i < z → e' i = e i) → (∀ i, i < s - lo → e' (z + i) = 41 + (lo + i) % 4) → mw (d + 1) mt_126 Q 8 [some (.ref 10), some (.int (nI r)), some (.int (nI y)), some (.int (nI s))] [] ρ) 4 ?_ ?_ 0 (by omega) τ e ⟨fun _ _ _ => rfl, fun _ _ => rfl, fun _ _ => rfl⟩ (by rw [show z + (0 - lo) = z by omega]; exact R) (fun _ _ => rfl) (fun i hi => by omega)
      · intro ρ e' f R k1 k2
        rw [← eb] at R k2
        exact kb_126_8 (fun _ => sec ρ e' _ f R k1 k2) (fun g => absurd (by decide) g)
      · intro s hs ih ρ e' f R k1 k2
        have X' := OX_cg f.1 X
        obtain ⟨t1, t2⟩ := X'.h92 s hs
        have cs' : (nI s).toNatClampNeg = s := nI_clamp (by omega)
        have b2 := bl (s + 1) (by omega)
        have i1 : nI (b (s + 1)) = nI L ↔ b (s + 1) = L := nI_eq (by omega) (by omega)
        refine kb_126_8 (fun g => absurd g (hI_nle (a := 4) (by omega) hs)) (fun _ => kb_126_13 (fun _ => kb_126_17 (pk_in s 4 hs) (fun g => kb_126_30 ?_) (fun g => kb_126_39 ?_)) (fun g => absurd (by rw [y0]; rfl) g))
        · rw [cs', t2, X'.e15, i1] at g
          have yes := (P1 s hs).mp g
          rw [e41]
          refine c_124t hr (by omega) R (fun ρ' e2 f' m1 m2 R' => kb_126_39 ?_)
          rw [nI_1]
          refine ih ρ' e2 (rfr_t f f') (by rw [show z + (s + 1 - lo) = z + (s - lo) + 1 by omega]; exact R') (fun i hi => by rw [m1 i (by omega)]; exact k1 i hi) (fun i hi => ?_)
          by_cases ei : i = s - lo
          · rw [ei, m2]; omega
          · rw [m1 (z + i) (by omega)]; exact k2 i (by omega)
        · rw [cs', t2, X'.e15, i1] at g
          have no : ¬ lo ≤ s := fun w => g ((P1 s hs).mpr w)
          rw [nI_1]
          exact ih ρ e' f (by rw [show z + (s + 1 - lo) = z + (s - lo) by omega]; exact R) k1 (fun i hi => by omega)
    · exact kb_126_8 (fun g => absurd g (by decide)) (fun _ => kb_126_13 (fun g => absurd ((nI_eq (a := y) (b := 0) (by omega) (by omega)).mp g) y0) (fun _ => sec τ e _ ⟨fun _ _ _ => rfl, fun _ _ => rfl, fun _ _ => rfl⟩ (by rw [eb]; exact R) (fun _ _ => rfl) (fun i hi => by omega)))
  refine ke_126 (kb_126_0 (c_116s l1 l9 X.e15 X.ol (X.ol p0 X.p0L).1 X.e83 hr (fun h => ?_) (fun i j' hi hj' e1 e2 => ?_)))
  · rcases h with h | h
    · exact absurd rfl (h p0 X.p0L)
    · exact absurd ej (h j hj)
  · have := X.uq hi X.p0L e1
    have := X.uq hj' hj (e2.trans ej.symm)
    subst_vars
    exact go
/-- room r's ring, as layRings leaves it -/
def RNr (σ τ : mm_S) (n L p0 : Nat) (o b : Nat → Nat) (r z : Nat) (e : Nat → Nat) : Prop := ∃ (dg : Nat) (al : Nat → Nat), dg ≤ 8 ∧ τ 87 r = nI dg ∧ (∀ i, i < dg → al i < n ∧ em σ r (al i) ∧ τ 88 (16 * r + i) = nI (al i)) ∧ ((z = dg ∧ (∀ i, i < dg → e i = al i) ∧ ((∀ k, k < L → o k ≠ r) ∨ ∃ j, j < L ∧ o j = r ∧ ∀ i, i < dg → ¬ mjn τ (nI (o ((j + L - 1) % L))) (nI r) (al i))) ∨ ∃ j pp ns, j < L ∧ o j = r ∧ pp < dg ∧ mjn τ (nI (o ((j + L - 1) % L))) (nI r) (al pp) ∧ ns = nlo b L (ypl L p0 j) - lo4 b (ypl L p0 j) + 1 ∧ ns ≤ 8 ∧ z = dg + ns ∧ (∀ i, i ≤ pp → e i = al i) ∧ (∀ i, i < ns → e (pp + 1 + i) = 41 + (lo4 b (ypl L p0 j) + i) % 4) ∧ ∀ i, pp < i → i < dg → e (i + ns) = al i)
theorem nlo_8 (b : Nat → Nat) (L y : Nat) : nlo b L y - lo4 b y + 1 ≤ 8 := by
  unfold nlo
  have := lo4_4 b (y + 1)
  have := lo4_4 b 1
  split <;> omega
theorem c_123t {d n L p0 : Nat} {Q : mm_Q} {σ τ : mm_S} {o b : Nat → Nat} (X : OX τ n L p0 o b) (A : AR σ τ n) (U : ∀ j, j < L → ∀ k l, k < n → l < n → mjn τ (nI (o ((j + L - 1) % L))) (nI (o j)) k → mjn τ (nI (o ((j + L - 1) % L))) (nI (o j)) l → k = l) (q : ∀ τ', (∀ c, c ≠ 89 → c ≠ 90 → τ' c = τ c) → (∀ r, r < 9 → ∃ z e, z ≤ 16 ∧ RZe τ' r z e ∧ RNr σ τ n L p0 o b r z e) → Q none τ') : mD (d + 3) 123 [.ref 10] τ Q := by
  refine ke_123 (kb_123_0 ?_)
  refine lp_dn (P := fun r => ∀ ρ : mm_S, (∀ c, c ≠ 89 → c ≠ 90 → ρ c = τ c) → (∀ r', r' < r → ∃ z e, z ≤ 16 ∧ RZe ρ r' z e ∧ RNr σ τ n L p0 o b r' z e) → ∀ o2 o3, mw (d + 2) mt_123 Q 2 [some (.ref 10), some (.int (nI r)), o2, o3] [] ρ) 9 ?_ ?_ 0 (by omega) τ (fun _ _ _ => rfl) (fun r' h => absurd h (Nat.not_lt_zero r')) none none
  · intro ρ fr hR o2 o3
    exact kb_123_2 (fun _ => kb_123_71 (q ρ fr hR)) (fun g => absurd (by decide) g)
  · intro r hr ih ρ fr hR o2 o3
    obtain ⟨dg, d8, e87, a1, a2, a4⟩ := A r hr
    have n21 := X.n21
    obtain ⟨al, hal⟩ : ∃ al : Nat → Nat, ∀ i, i < dg → al i < n ∧ em σ r (al i) ∧ τ 88 (16 * r + i) = nI (al i) := by
      have : ∀ i, ∃ k, i < dg → k < n ∧ em σ r k ∧ τ 88 (16 * r + i) = nI k := fun i => by
        by_cases hi : i < dg
        · obtain ⟨k, hk⟩ := a1 i hi; exact ⟨k, fun _ => hk⟩
        · exact ⟨0, fun h => absurd h hi⟩
      exact ⟨fun i => Classical.choose (this i), fun i hi => Classical.choose_spec (this i) hi⟩
    have alj : ∀ i j, i < j → j < dg → al i ≠ al j := fun i j h1 h2 e => a4 i j h1 h2 (by rw [(hal i (by omega)).2.2, (hal j h2).2.2, e])
    have cr : (nI r).toNatClampNeg = r := nI_clamp (by omega)
    have keep : ∀ (π π' : mm_S), rfr π π' r → (∀ r', r' < r → ∃ z e, z ≤ 16 ∧ RZe π r' z e ∧ RNr σ τ n L p0 o b r' z e) → ∀ r', r' < r → ∃ z e, z ≤ 16 ∧ RZe π' r' z e ∧ RNr σ τ n L p0 o b r' z e := fun π π' f h r' hr' => by
      obtain ⟨z, e, z1, ⟨z2, z3⟩, z4⟩ := h r' hr'
      refine ⟨z, e, z1, ⟨by rw [f.2.1 r' (by omega)]; exact z2, fun i hi => ?_⟩, z4⟩
      rw [f.2.2 _ (by omega)]; exact z3 i hi
    refine kb_123_2 (fun g => absurd g (hI_nle (a := 9) (by omega) hr)) (fun _ => kb_123_8 (pk_in r 9 hr) ?_)
    rw [cr]
    have f0 : rfr ρ (mm_up ρ 89 r 0) r := ⟨fun c h1 _ => mm_up_n h1, fun x hx => mm_up_o hx, fun x _ => by rw [mm_up_n (by decide)]⟩
    -- up to i: no side yet, or the sides behind pp
    refine lp_dn (P := fun i => ∀ (π : mm_S) (z : Nat) (e : Nat → Nat), (∀ c, c ≠ 89 → c ≠ 90 → π c = τ c) → (∀ r', r' < r → ∃ z e, z ≤ 16 ∧ RZe π r' z e ∧ RNr σ τ n L p0 o b r' z e) → RZe π r z e → ((z = i ∧ (∀ x, x < i → e x = al x) ∧ ((∀ k, k < L → o k ≠ r) ∨ ∃ j, j < L ∧ o j = r ∧ ∀ x, x < i → ¬ mjn τ (nI (o ((j + L - 1) % L))) (nI r) (al x))) ∨ ∃ j pp ns, j < L ∧ o j = r ∧ pp < i ∧ mjn τ (nI (o ((j + L - 1) % L))) (nI r) (al pp) ∧ ns = nlo b L (ypl L p0 j) - lo4 b (ypl L p0 j) + 1 ∧ ns ≤ 8 ∧ z = i + ns ∧ (∀ x, x ≤ pp → e x = al x) ∧ (∀ x, x < ns → e (pp + 1 + x) = 41 + (lo4 b (ypl L p0 j) + x) % 4) ∧ ∀ x, pp < x → x < i → e (x + ns) = al x) → ∀ o3, mw (d + 2) mt_123 Q 17 [some (.ref 10), some (.int (nI r)), some (.int (nI i)), o3] [] π) dg ?_ ?_ 0 (Nat.zero_le _) _ 0 al (fun c h1 h2 => by rw [mm_up_n h1]; exact fr c h1 h2) (keep _ _ f0 hR) ⟨mm_up_s, fun i hi => absurd hi (Nat.not_lt_zero i)⟩ (Or.inl ⟨rfl, fun _ _ => rfl, ?_⟩) o3
    · intro π z e f1 hR R hz o3
      have e7 : π 87 (nI r).toNatClampNeg = nI dg := by rw [cr, f1 87 (by decide) (by decide)]; exact e87
      refine kb_123_17 (pk_in r 9 hr) (fun _ => kb_123_65 ?_) (fun g => absurd (by rw [e7]; exact hI_le (by omega) (Nat.le_refl dg)) g)
      rw [nI_1]
      refine ih π f1 (fun r' hr' => ?_) _ _
      by_cases er : r' = r
      · subst er
        exact ⟨z, e, by rcases hz with h | ⟨_, _, _, _, _, _, _, _, h1, h2, _⟩ <;> omega, R, dg, al, d8, e87, hal, hz⟩
      · exact hR r' (by omega)
    · intro i hi ihi π z e f1 hR R hz o3
      have e7 : π 87 (nI r).toNatClampNeg = nI dg := by rw [cr, f1 87 (by decide) (by decide)]; exact e87
      obtain ⟨k1, k2, k3⟩ := hal i hi
      have e88 : π 88 ((16 : Int32) * nI r + nI i).toNatClampNeg = nI (al i) := by rw [nI_16, nI_clamp (by omega), f1 88 (by decide) (by decide)]; exact k3
      have z16 : z < 16 := by rcases hz with h | ⟨_, _, _, _, _, _, _, _, h1, h2, _⟩ <;> omega
      refine kb_123_17 (pk_in r 9 hr) (fun g => absurd g (by rw [e7]; exact hI_nle (by omega) hi)) (fun _ => kb_123_27 (by rw [nI_16]; exact pk_in (16 * r + i) 144 (by omega)) ?_)
      rw [e88]
      refine c_124t hr z16 R (fun π1 e1 f2 m1 m2 R1 => kb_123_45 ?_)
      have f3 : ∀ c, c ≠ 89 → c ≠ 90 → π1 c = τ c := fun c h1 h2 => by rw [f2.1 c h1 h2]; exact f1 c h1 h2
      have X1 := OX_cg f3 X
      have mj : ∀ a b k, mjn π1 a b k ↔ mjn τ a b k := fun a b k => by unfold mjn; rw [f3 80 (by decide) (by decide), f3 81 (by decide) (by decide)]
      -- no sides here
      have plain : ((∀ k, k < L → o k ≠ r) ∨ ∃ j, j < L ∧ o j = r ∧ ¬ mjn τ (nI (o ((j + L - 1) % L))) (nI r) (al i)) → mw (d + 2) mt_123 Q 59 [some (.ref 10), some (.int (nI r)), some (.int (nI i)), some (.int (nI (al i)))] [] π1 := fun hno => by
        refine kb_123_59 ?_
        rw [nI_1]
        refine ihi π1 (z + 1) e1 f3 (keep _ _ f2 hR) R1 ?_ _
        rcases hz with ⟨h1, h2, h3⟩ | ⟨j, pp, ns, h1, h2, h3, h4, h5, h6, h7, h8, h9, h10⟩
        · refine Or.inl ⟨by omega, fun x hx => ?_, ?_⟩
          · by_cases ex : x = i
            · rw [ex, ← h1, m2, h1]
            · rw [m1 x (by omega)]; exact h2 x (by omega)
          · rcases hno with h | ⟨j, hj, ej, h⟩
            · exact Or.inl h
            · rcases h3 with h3 | ⟨j', hj', ej', h3⟩
              · exact Or.inl h3
              · refine Or.inr ⟨j, hj, ej, fun x hx => ?_⟩
                have := X.uq hj hj' (ej.trans ej'.symm)
                subst this
                by_cases ex : x = i
                · rw [ex]; exact h
                · exact h3 x (by omega)
        · refine Or.inr ⟨j, pp, ns, h1, h2, by omega, h4, h5, h6, by omega, fun x hx => by rw [m1 x (by omega)]; exact h8 x hx, fun x hx => by rw [m1 _ (by omega)]; exact h9 x hx, fun x g1 g2 => ?_⟩
          by_cases ex : x = i
          · rw [ex, ← h7, m2]
          · rw [m1 _ (by omega)]; exact h10 x g1 (by omega)
      refine c_125t X1 hr (fun h => kb_123_50 (fun ev => absurd ev.symm (nI_m1 (by omega))) (fun _ => plain (Or.inl h))) (fun j hj ej kk hk hm => ?_) (fun j hj ej no => kb_123_50 (fun ev => absurd ev.symm (nI_m1 (by omega))) (fun _ => plain (Or.inr ⟨j, hj, ej, fun w => no (al i) k1 ((mj _ _ _).mpr w)⟩)))
      rw [mj] at hm
      refine kb_123_50 (fun ev => kb_123_54 ?_) (fun ev => plain (Or.inr ⟨j, hj, ej, fun w => ev ?_⟩))
      · have ek : kk = al i := (nI_eq (by omega) (by omega)).mp ev
        rw [ek] at hm
        have first : z = i ∧ ∀ x, x < i → e x = al x := by
          rcases hz with ⟨h1, h2, _⟩ | ⟨j', pp, ns, h1, h2, h3, h4, _⟩
          · exact ⟨h1, h2⟩
          · exfalso
            have := X.uq hj h1 (ej.trans h2.symm)
            subst this
            have u := U j hj (al i) (al pp) k1 (hal pp (by omega)).1 (by rw [ej]; exact hm) (by rw [ej]; exact h4)
            exact alj pp i h3 hi u.symm
        obtain ⟨zi, ez⟩ := first
        subst zi
        refine c_126t X1 hr hj ej (by omega) R1 (fun π2 e2 f4 n1 n2 R2 => kb_123_59 ?_)
        rw [nI_1]
        refine ihi π2 _ e2 (fun c h1 h2 => by rw [f4.1 c h1 h2]; exact f3 c h1 h2) (keep _ _ (rfr_t f2 f4) hR) R2 (Or.inr ⟨j, z, _, hj, ej, by omega, hm, rfl, nlo_8 _ _ _, rfl, fun x hx => ?_, n2, fun x g1 g2 => by omega⟩) _
        rw [n1 x (by omega)]
        by_cases ex : x = z
        · rw [ex]; exact m2
        · rw [m1 x (by omega)]; exact ez x (by omega)
      · rw [U j hj kk (al i) hk k1 (by rw [ej]; exact hm) (by rw [ej]; exact w)]
    · by_cases h : ∃ j, j < L ∧ o j = r
      · obtain ⟨j, hj, ej⟩ := h
        exact Or.inr ⟨j, hj, ej, fun x hx => absurd hx (Nat.not_lt_zero x)⟩
      · exact Or.inl (fun k hk e => h ⟨k, hk, e⟩)

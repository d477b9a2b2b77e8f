/-! class: the layout ends and leaves the sketch alone: lookAround, directionOf, isSooner, weigh -/
/-- HouseDesk$Layout.opposite -/
def f_69 (x0 : Int32) : Int32 := (f_50 (f_50 x0))
theorem c_69 {d : Nat} {Q : mm_Q} {x0 : Int32} {σ : mm_S} (q : Q (some (.int (f_69 x0))) σ) : mD (d + 2) 69 [.int x0] σ Q := ke_69 (kb_69_0 (c_50 (kb_69_4 (c_50 (kb_69_7 q)))))
/-- HouseDesk$Layout.hasCorner -/
def f_70 (σ : mm_S) (x1 x2 x3 : Int32) : Int32 := (if (9 : Int32) ≤ x2 then (1 : Int32) else (if (9 : Int32) ≤ x3 then (1 : Int32) else (if (σ 47 (σ (33 + 1 + x2.toNatClampNeg) x1.toNatClampNeg).toNatClampNeg) = x1 then (0 : Int32) else (1 : Int32))))
theorem f_70_01 (σ : mm_S) (x1 x2 x3 : Int32) : (f_70 σ x1 x2 x3) = 0 ∨ (f_70 σ x1 x2 x3) = 1 := by
  unfold f_70
  repeat' split
  all_goals first | exact Or.inl rfl | exact Or.inr rfl
theorem c_70 {d : Nat} {Q : mm_Q} {x1 x2 x3 : Int32} {σ : mm_S} (H1 : ¬ ((9 : Int32) ≤ x2) → ¬ ((9 : Int32) ≤ x3) → vp_in x2 9) (H2 : ¬ ((9 : Int32) ≤ x2) → ¬ ((9 : Int32) ≤ x3) → vp_in x1 9) (H3 : ¬ ((9 : Int32) ≤ x2) → ¬ ((9 : Int32) ≤ x3) → vp_in (σ (33 + 1 + x2.toNatClampNeg) x1.toNatClampNeg) 42) (q : Q (some (.int (f_70 σ x1 x2 x3))) σ) : mD (d + 1) 70 [.ref 7, .int x1, .int x2, .int x3] σ Q := ke_70 (kb_70_0 (fun g0 => (kb_70_32 (q_pos g0 q))) (fun g0 => (kb_70_6 (fun g1 => (kb_70_32 (q_pos g1 (q_neg g0 q)))) (fun g1 => (kb_70_12 (H1 g0 g1) (H2 g0 g1) (H3 g0 g1) (fun g2 => (kb_70_36 (q_pos g2 (q_neg g1 (q_neg g0 q))))) (fun g2 => (kb_70_32 (q_neg g2 (q_neg g1 (q_neg g0 q))))))))))
/-- HouseDesk$Layout.lookAround, from 0 -/
theorem ks_68_0 {d : Nat} {Q : mm_Q} {x1 x2 : Int32} {σ : mm_S} (H1 : x2 < (9 : Int32) → vp_in x2 9) (H2 : x2 < (9 : Int32) → vp_in x1 13) (H3 : ¬ (x2 < (9 : Int32)) → vp_in x1 13) (q0 : x2 < (9 : Int32) → mw (d + 2) mt_68 Q 42 [some (.ref 7), some (.int x1), some (.int x2), some (.int (f_69 (σ (50 + 1 + x2.toNatClampNeg) x1.toNatClampNeg))), some (.int x2), some (.int (F153 (σ 44 x1.toNatClampNeg))), none] [] σ) (q1 : ¬ (x2 < (9 : Int32)) → mw (d + 2) mt_68 Q 42 [some (.ref 7), some (.int x1), some (.int x2), some (.int (x2 - (9 : Int32))), some (.int x2), some (.int (F153 (σ 44 x1.toNatClampNeg))), none] [] σ) : mD (d + 3) 68 [.ref 7, .int x1, .int x2] σ Q := ke_68 (kb_68_0 (fun g0 => (kb_68_13 (H1 g0) (H2 g0) (c_69 (kb_68_24 (H2 g0) (c_153 (kb_68_40 (q0 g0))))))) (fun g0 => (kb_68_6 (H3 g0) (c_153 (kb_68_40 (q1 g0))))))
/-- HouseDesk$Layout.lookAround, from 42 -/
theorem ks_68_42 {d : Nat} {Q : mm_Q} {x1 x2 x3 x4 x5 : Int32} {o6 : Option Value} {σ : mm_S} (H1 : ¬ (x5 ≤ 0) → vp_in x1 9) (H2 : ¬ (x5 ≤ 0) → vp_in x4 13) (H3 : ¬ (x5 ≤ 0) → ¬ ((9 : Int32) ≤ x4) → ¬ ((9 : Int32) ≤ ((mm_up σ (50 + 1 + x1.toNatClampNeg) x4.toNatClampNeg x3) (21 + 1 + x1.toNatClampNeg) x4.toNatClampNeg)) → vp_in x4 9) (H4 : ¬ (x5 ≤ 0) → ¬ ((9 : Int32) ≤ x4) → ¬ ((9 : Int32) ≤ ((mm_up σ (50 + 1 + x1.toNatClampNeg) x4.toNatClampNeg x3) (21 + 1 + x1.toNatClampNeg) x4.toNatClampNeg)) → vp_in x1 9) (H5 : ¬ (x5 ≤ 0) → ¬ ((9 : Int32) ≤ x4) → ¬ ((9 : Int32) ≤ ((mm_up σ (50 + 1 + x1.toNatClampNeg) x4.toNatClampNeg x3) (21 + 1 + x1.toNatClampNeg) x4.toNatClampNeg)) → vp_in ((mm_up σ (50 + 1 + x1.toNatClampNeg) x4.toNatClampNeg x3) (33 + 1 + x4.toNatClampNeg) x1.toNatClampNeg) 42) (q0 : x5 ≤ 0 → Q (none) σ) (q1 : ¬ (x5 ≤ 0) → (f_70 (mm_up σ (50 + 1 + x1.toNatClampNeg) x4.toNatClampNeg x3) x1 x4 ((mm_up σ (50 + 1 + x1.toNatClampNeg) x4.toNatClampNeg x3) (21 + 1 + x1.toNatClampNeg) x4.toNatClampNeg)) = 0 → mw (d + 1) mt_68 Q 42 [some (.ref 7), some (.int x1), some (.int x2), some (.int x3), some (.int ((mm_up σ (50 + 1 + x1.toNatClampNeg) x4.toNatClampNeg x3) (21 + 1 + x1.toNatClampNeg) x4.toNatClampNeg)), some (.int (x5 + (-1))), some (.int ((mm_up σ (50 + 1 + x1.toNatClampNeg) x4.toNatClampNeg x3) (21 + 1 + x1.toNatClampNeg) x4.toNatClampNeg))] [] (mm_up σ (50 + 1 + x1.toNatClampNeg) x4.toNatClampNeg x3)) (q2 : ¬ (x5 ≤ 0) → ¬ ((f_70 (mm_up σ (50 + 1 + x1.toNatClampNeg) x4.toNatClampNeg x3) x1 x4 ((mm_up σ (50 + 1 + x1.toNatClampNeg) x4.toNatClampNeg x3) (21 + 1 + x1.toNatClampNeg) x4.toNatClampNeg)) = 0) → mw (d + 1) mt_68 Q 42 [some (.ref 7), some (.int x1), some (.int x2), some (.int (f_50 x3)), some (.int ((mm_up σ (50 + 1 + x1.toNatClampNeg) x4.toNatClampNeg x3) (21 + 1 + x1.toNatClampNeg) x4.toNatClampNeg)), some (.int (x5 + (-1))), some (.int ((mm_up σ (50 + 1 + x1.toNatClampNeg) x4.toNatClampNeg x3) (21 + 1 + x1.toNatClampNeg) x4.toNatClampNeg))] [] (mm_up σ (50 + 1 + x1.toNatClampNeg) x4.toNatClampNeg x3)) : mw (d + 1) mt_68 Q 42 [some (.ref 7), some (.int x1), some (.int x2), some (.int x3), some (.int x4), some (.int x5), o6] [] σ := (kb_68_42 (fun g0 => (kb_68_98 (q0 g0))) (fun g0 => (kb_68_47 (H1 g0) (H2 g0) (H1 g0) (H2 g0) (c_70 (H3 g0) (H4 g0) (H5 g0) (kb_68_80 (fun g1 => (kb_68_88 (q1 g0 g1))) (fun g1 => (kb_68_83 (c_50 (kb_68_87 (q2 g0 g1))))))))))
def BG (τ : mm_S) : Prop := ∀ r v, r < 9 → v < 13 → ∃ w, w < 4 ∧ τ (50 + 1 + r) v = nI w
def DG (τ : mm_S) : Prop := ∀ e, e < 21 → ∃ w, w < 4 ∧ τ 45 e = nI w
/-- what the layout stands on -/
def LG (τ : mm_S) (V : Nat → Nat → Prop) (n f R : Nat) : Prop := (∀ r v, r < 9 → V r v → v < 13 ∧ ∃ g, τ (21 + 1 + r) v = nI g ∧ V r g ∧ (v < 9 → g < 9 → ∃ h, h < f ∧ τ (33 + 1 + v) r = nI h)) ∧ (f ≤ 42 ∧ τ 5 6 = nI f) ∧ (∀ v, v < 13 → ∃ q, q < 8192 ∧ τ 44 v = nI q) ∧ (n ≤ 21 ∧ τ 1 12 = nI n) ∧ (∀ k, k < n → ∃ a b, a < 9 ∧ b < 9 ∧ τ 16 k = nI a ∧ τ 17 k = nI b) ∧ (R ≤ 9 ∧ τ 1 11 = nI R) ∧ (∀ g i, g < f → i < 3 → ∃ b, b < 9 ∧ τ 46 (3 * g + i) = nI b) ∧ (∀ k, k < R → ∃ r v, r < 9 ∧ V r v ∧ τ 60 k = nI r ∧ τ 61 k = nI v)
theorem LG.vg {τ : mm_S} {V : Nat → Nat → Prop} {n f R : Nat} (h : LG τ V n f R) : ∀ r v, r < 9 → V r v → v < 13 ∧ ∃ g, τ (21 + 1 + r) v = nI g ∧ V r g ∧ (v < 9 → g < 9 → ∃ h, h < f ∧ τ (33 + 1 + v) r = nI h) := h.1
theorem LG.fc {τ : mm_S} {V : Nat → Nat → Prop} {n f R : Nat} (h : LG τ V n f R) : f ≤ 42 ∧ τ 5 6 = nI f := h.2.1
theorem LG.nr {τ : mm_S} {V : Nat → Nat → Prop} {n f R : Nat} (h : LG τ V n f R) : ∀ v, v < 13 → ∃ q, q < 8192 ∧ τ 44 v = nI q := h.2.2.1
theorem LG.jn {τ : mm_S} {V : Nat → Nat → Prop} {n f R : Nat} (h : LG τ V n f R) : n ≤ 21 ∧ τ 1 12 = nI n := h.2.2.2.1
theorem LG.je {τ : mm_S} {V : Nat → Nat → Prop} {n f R : Nat} (h : LG τ V n f R) : ∀ k, k < n → ∃ a b, a < 9 ∧ b < 9 ∧ τ 16 k = nI a ∧ τ 17 k = nI b := h.2.2.2.2.1
theorem LG.rr {τ : mm_S} {V : Nat → Nat → Prop} {n f R : Nat} (h : LG τ V n f R) : R ≤ 9 ∧ τ 1 11 = nI R := h.2.2.2.2.2.1
theorem LG.bd {τ : mm_S} {V : Nat → Nat → Prop} {n f R : Nat} (h : LG τ V n f R) : ∀ g i, g < f → i < 3 → ∃ b, b < 9 ∧ τ 46 (3 * g + i) = nI b := h.2.2.2.2.2.2.1
theorem LG.od {τ : mm_S} {V : Nat → Nat → Prop} {n f R : Nat} (h : LG τ V n f R) : ∀ k, k < R → ∃ r v, r < 9 ∧ V r v ∧ τ 60 k = nI r ∧ τ 61 k = nI v := h.2.2.2.2.2.2.2
def LI (τ0 τ : mm_S) : Prop := (∀ c, c ≠ 7 → c ≠ 45 → c ≠ 47 → c ≠ 48 → c ≠ 49 → (c < 51 ∨ 59 < c) → τ c = τ0 c) ∧ (τ 7 8 = 0 ∨ τ 7 8 = 1) ∧ BG τ ∧ DG τ
theorem nI_pm (n : Nat) : nI (n + 1) + (-1) = nI n := by
  rw [← nI_1, Int32.add_assoc, show (1 : Int32) + (-1) = 0 by decide, Int32.add_zero]
theorem f_50_4 : ∀ w, w < 4 → ∃ w', w' < 4 ∧ f_50 (nI w) = nI w' := fun w hw => ⟨nx4 w, (f_50_n w hw).2, (f_50_n w hw).1⟩
theorem LI_b {τ0 τ : mm_S} {r v w : Nat} (I : LI τ0 τ) (hr : r < 9) (hw : w < 4) : LI τ0 (mm_up τ (50 + 1 + r) v (nI w)) := by
  obtain ⟨i1, i2, i3, i4⟩ := I
  refine ⟨fun c h1 h2 h3 h4 h5 h6 => by rw [mm_up_n (by omega)]; exact i1 c h1 h2 h3 h4 h5 h6, by rw [mm_up_n (by omega)]; exact i2, fun r' v' hr' hv' => ?_, fun e he => by rw [mm_up_n (by omega)]; exact i4 e he⟩
  by_cases e : r' = r
  · subst e
    by_cases e2 : v' = v
    · subst e2; exact ⟨w, hw, mm_up_s⟩
    · rw [mm_up_o e2]; exact i3 r' v' hr' hv'
  · rw [mm_up_n (by omega)]; exact i3 r' v' hr' hv'
theorem c_68 {d n f R r v : Nat} {V : Nat → Nat → Prop} {Q : mm_Q} {τ0 τ : mm_S} (G : LG τ0 V n f R) (I : LI τ0 τ) (hr : r < 9) (hv : V r v) (q : ∀ τ', LI τ0 τ' → Q none τ') : mD (d + 3) 68 [.ref 7, .int (nI r), .int (nI v)] τ Q := by
  have v13 := (G.vg r v hr hv).1
  have cr : (nI r).toNatClampNeg = r := nI_clamp (by omega)
  have loop : ∀ (k : Nat), k ≤ 13 → ∀ (τ : mm_S) (w v : Nat) (x2 : Int32) (o6 : Option Value), LI τ0 τ → w < 4 → V r v → mw (d + 2) mt_68 Q 42 [some (.ref 7), some (.int (nI r)), some (.int x2), some (.int (nI w)), some (.int (nI v)), some (.int (nI k)), o6] [] τ := by
    intro k
    induction k with
    | zero =>
      intro _ τ w v x2 o6 I hw hv
      refine ks_68_42 (fun g => absurd (by decide) g) (fun g => absurd (by decide) g) (fun g => absurd (by decide) g) (fun g => absurd (by decide) g) (fun g => absurd (by decide) g) (fun _ => q τ I) (fun g => absurd (by decide) g) (fun g => absurd (by decide) g)
    | succ k ih =>
      intro hk τ w v x2 o6 I hw hv
      obtain ⟨v13, g, e1, e2, e3⟩ := G.vg r v hr hv
      have cv : (nI v).toNatClampNeg = v := nI_clamp (by omega)
      have g13 := (G.vg r g hr e2).1
      have I' := LI_b (v := v) I hr hw
      have rd : (mm_up τ (50 + 1 + r) v (nI w)) (21 + 1 + r) v = nI g := by
        rw [I'.1 _ (by omega) (by omega) (by omega) (by omega) (by omega) (by omega)]; exact e1
      have lt9 : ∀ a, a < 13 → ¬ ((9 : Int32) ≤ nI a) → a < 9 := fun a ha h => by
        rcases Nat.lt_or_ge a 9 with y | y
        · exact y
        · exact absurd (hI_le (a := 9) (by omega) y) h
      obtain ⟨w', hw', ew⟩ := f_50_4 w hw
      refine ks_68_42 (fun _ => pk_in r 9 hr) (fun _ => pk_in v 13 v13) (fun _ a _ => pk_in v 9 (lt9 v v13 a)) (fun _ _ _ => pk_in r 9 hr) (fun _ a b => ?_) (fun z => absurd z (nI_nle (by omega) (by omega))) (fun _ _ => ?_) (fun _ _ => ?_)
      · rw [cr, cv, rd] at b
        obtain ⟨h, h1, h2⟩ := e3 (lt9 v v13 a) (lt9 g g13 b)
        have v9 := lt9 v v13 a
        rw [cr, cv, I'.1 (33 + 1 + v) (by omega) (by omega) (by omega) (by omega) (by omega) (by omega), h2]
        exact pk_in h 42 (by have := G.fc.1; omega)
      · rw [cr, cv, rd, nI_pm]
        exact ih (by omega) _ w g x2 _ I' hw e2
      · rw [cr, cv, rd, nI_pm, ew]
        exact ih (by omega) _ w' g x2 _ I' hw' e2
  obtain ⟨qn, q1, q2⟩ := G.nr r (by omega)
  have e44 : τ 44 (nI r).toNatClampNeg = nI qn := by rw [cr, I.1 44 (by decide) (by decide) (by decide) (by decide) (by decide) (by omega)]; exact q2
  refine ks_68_0 (fun z => pk_in v 9 ?_) (fun _ => pk_in r 13 (by omega)) (fun _ => pk_in r 13 (by omega)) (fun z => ?_) (fun z => ?_)
  · exact (nI_ltI (b := 9) (by omega) (by omega)).mp z
  · have v9 : v < 9 := (nI_ltI (b := 9) (by omega) (by omega)).mp z
    obtain ⟨w, hw, ew⟩ := I.2.2.1 v r v9 (by omega)
    obtain ⟨w1, hw1, ew1⟩ := f_50_4 w hw
    obtain ⟨w2, hw2, ew2⟩ := f_50_4 w1 hw1
    rw [e44, F153_bc q1, nI_clamp (show v < 2 ^ 31 by omega), cr, ew]
    unfold f_69
    rw [ew1, ew2]
    exact loop _ (bc_n _ 13) τ w2 v _ _ I hw2 hv
  · have v9 : 9 ≤ v := by
      rcases Nat.lt_or_ge v 9 with y | y
      · exact absurd ((nI_ltI (b := 9) (by omega) (by omega)).mpr y) z
      · exact y
    obtain ⟨s, hs, es⟩ : ∃ s, s < 4 ∧ v = 9 + s := ⟨v - 9, by omega, by omega⟩
    rw [e44, F153_bc q1]
    subst es
    rw [sub9 s hs]
    exact loop _ (bc_n _ 13) τ s _ _ _ I hs hv

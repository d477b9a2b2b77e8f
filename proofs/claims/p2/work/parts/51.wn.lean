/-! class: westmost, northmostFrom -/
/-- HouseDesk$Walks.isFurtherWest -/
def f_37 (σ : mm_S) (x1 x2 : Int32) : Int32 := (if (σ 11 x1.toNatClampNeg) < (σ 11 x2.toNatClampNeg) then (1 : Int32) else (if (σ 11 x1.toNatClampNeg) = (σ 11 x2.toNatClampNeg) then (if (σ 12 x2.toNatClampNeg) ≤ (σ 12 x1.toNatClampNeg) then (0 : Int32) else (1 : Int32)) else (0 : Int32)))
theorem f_37_01 (σ : mm_S) (x1 x2 : Int32) : (f_37 σ x1 x2) = 0 ∨ (f_37 σ x1 x2) = 1 := by
  unfold f_37
  repeat' split
  all_goals first | exact Or.inl rfl | exact Or.inr rfl
theorem c_37 {d : Nat} {Q : mm_Q} {x1 x2 : Int32} {σ : mm_S} (H1 : vp_in x1 9) (H2 : vp_in x2 9) (q : Q (some (.int (f_37 σ x1 x2))) σ) : mD (d + 1) 37 [.ref 5, .int x1, .int x2] σ Q := ke_37 (kb_37_0 H1 H2 (fun g0 => (kb_37_63 (q_pos g0 q))) (fun g0 => (kb_37_21 H1 H2 (fun g1 => (kb_37_42 H1 H2 (fun g2 => (kb_37_67 (q_pos g2 (q_pos g1 (q_neg g0 q))))) (fun g2 => (kb_37_63 (q_neg g2 (q_pos g1 (q_neg g0 q))))))) (fun g1 => (kb_37_67 (q_neg g1 (q_neg g0 q)))))))
/-- HouseDesk$Walks.westmost, from 0 -/
theorem ks_36_0 {d : Nat} {Q : mm_Q} {σ : mm_S} (q0 : mw d mt_36 Q 4 [some (.ref 5), some (.int (-1 : Int32)), some (.int (0 : Int32))] [] σ) : mD (d + 1) 36 [.ref 5] σ Q := ke_36 (kb_36_0 q0)
/-- HouseDesk$Walks.westmost, from 4 -/
theorem ks_36_4 {d : Nat} {Q : mm_Q} {x1 x2 : Int32} {σ : mm_S} (H1 : ¬ ((9 : Int32) ≤ x2) → ¬ ((xd σ x2) = 0) → ¬ (x1 < 0) → vp_in x2 9) (H2 : ¬ ((9 : Int32) ≤ x2) → ¬ ((xd σ x2) = 0) → ¬ (x1 < 0) → vp_in x1 9) (q0 : (9 : Int32) ≤ x2 → Q (some (.int x1)) σ) (q1 : ¬ ((9 : Int32) ≤ x2) → (xd σ x2) = 0 → mw (d + 2) mt_36 Q 4 [some (.ref 5), some (.int x1), some (.int (x2 + 1))] [] σ) (q2 : ¬ ((9 : Int32) ≤ x2) → ¬ ((xd σ x2) = 0) → x1 < 0 → mw (d + 2) mt_36 Q 4 [some (.ref 5), some (.int x2), some (.int (x2 + 1))] [] σ) (q3 : ¬ ((9 : Int32) ≤ x2) → ¬ ((xd σ x2) = 0) → ¬ (x1 < 0) → (f_37 σ x2 x1) = 0 → mw (d + 2) mt_36 Q 4 [some (.ref 5), some (.int x1), some (.int (x2 + 1))] [] σ) (q4 : ¬ ((9 : Int32) ≤ x2) → ¬ ((xd σ x2) = 0) → ¬ (x1 < 0) → ¬ ((f_37 σ x2 x1) = 0) → mw (d + 2) mt_36 Q 4 [some (.ref 5), some (.int x2), some (.int (x2 + 1))] [] σ) : mw (d + 2) mt_36 Q 4 [some (.ref 5), some (.int x1), some (.int x2)] [] σ := (kb_36_4 (fun g0 => (kb_36_42 (q0 g0))) (fun g0 => (kb_36_10 (c_7 (kb_36_18 (fun g1 => (kb_36_36 (q1 g0 g1))) (fun g1 => (kb_36_21 (fun g2 => (kb_36_34 (q2 g0 g1 g2))) (fun g2 => (kb_36_25 (c_37 (H1 g0 g1 g2) (H2 g0 g1 g2) (kb_36_31 (fun g3 => (kb_36_36 (q3 g0 g1 g2 g3))) (fun g3 => (kb_36_34 (q4 g0 g1 g2 g3))))))))))))))
/-- HouseDesk$Walks.northmostFrom, from 0 -/
theorem ks_38_0 {d : Nat} {Q : mm_Q} {x1 : Int32} {σ : mm_S} (q0 : mw d mt_38 Q 4 [some (.ref 5), some (.int x1), some (.int (-1 : Int32)), some (.int (0 : Int32))] [] σ) : mD (d + 1) 38 [.ref 5, .int x1] σ Q := ke_38 (kb_38_0 q0)
/-- HouseDesk$Walks.northmostFrom, from 4 -/
theorem ks_38_4 {d : Nat} {Q : mm_Q} {x1 x2 x3 : Int32} {σ : mm_S} (H1 : ¬ ((9 : Int32) ≤ x3) → vp_in x1 9) (H2 : ¬ ((9 : Int32) ≤ x3) → ¬ ((hs (σ 15 x1.toNatClampNeg) x3) = 0) → ¬ (x2 < 0) → vp_in x3 9) (H3 : ¬ ((9 : Int32) ≤ x3) → ¬ ((hs (σ 15 x1.toNatClampNeg) x3) = 0) → ¬ (x2 < 0) → vp_in x1 9) (H4 : ¬ ((9 : Int32) ≤ x3) → ¬ ((hs (σ 15 x1.toNatClampNeg) x3) = 0) → ¬ (x2 < 0) → vp_in x2 9) (q0 : (9 : Int32) ≤ x3 → Q (some (.int x2)) σ) (q1 : ¬ ((9 : Int32) ≤ x3) → (hs (σ 15 x1.toNatClampNeg) x3) = 0 → mw (d + 2) mt_38 Q 4 [some (.ref 5), some (.int x1), some (.int x2), some (.int (x3 + 1))] [] σ) (q2 : ¬ ((9 : Int32) ≤ x3) → ¬ ((hs (σ 15 x1.toNatClampNeg) x3) = 0) → x2 < 0 → mw (d + 2) mt_38 Q 4 [some (.ref 5), some (.int x1), some (.int x3), some (.int (x3 + 1))] [] σ) (q3 : ¬ ((9 : Int32) ≤ x3) → ¬ ((hs (σ 15 x1.toNatClampNeg) x3) = 0) → ¬ (x2 < 0) → 0 ≤ (f_17 σ x1 x3 x2) → mw (d + 2) mt_38 Q 4 [some (.ref 5), some (.int x1), some (.int x2), some (.int (x3 + 1))] [] σ) (q4 : ¬ ((9 : Int32) ≤ x3) → ¬ ((hs (σ 15 x1.toNatClampNeg) x3) = 0) → ¬ (x2 < 0) → ¬ (0 ≤ (f_17 σ x1 x3 x2)) → mw (d + 2) mt_38 Q 4 [some (.ref 5), some (.int x1), some (.int x3), some (.int (x3 + 1))] [] σ) : mw (d + 2) mt_38 Q 4 [some (.ref 5), some (.int x1), some (.int x2), some (.int x3)] [] σ := (kb_38_4 (fun g0 => (kb_38_47 (q0 g0))) (fun g0 => (kb_38_10 (c_10 (H1 g0) (kb_38_19 (fun g1 => (kb_38_41 (q1 g0 g1))) (fun g1 => (kb_38_22 (fun g2 => (kb_38_39 (q2 g0 g1 g2))) (fun g2 => (kb_38_26 (c_17 (H2 g0 g1 g2) (H3 g0 g1 g2) (H4 g0 g1 g2) (kb_38_36 (fun g3 => (kb_38_41 (q3 g0 g1 g2 g3))) (fun g3 => (kb_38_39 (q4 g0 g1 g2 g3))))))))))))))
/-- room i lies further west than room j, or right below it -/
def fw (σ : mm_S) (i j : Nat) : Prop := pX σ i < pX σ j ∨ (pX σ i = pX σ j ∧ pY σ i < pY σ j)
theorem f_37_iff {σ : mm_S} {i j : Nat} (hi : i < 9) (hj : j < 9) : ¬ f_37 σ (nI i) (nI j) = 0 ↔ fw σ i j := by
  unfold f_37 fw pX pY
  rw [nI_clamp (show i < 2 ^ 31 by omega), nI_clamp (show j < 2 ^ 31 by omega)]
  simp only [Int32.lt_iff_toInt_lt, Int32.le_iff_toInt_le, ← Int32.toInt_inj]
  by_cases h1 : (σ 11 i).toInt < (σ 11 j).toInt <;> by_cases h2 : (σ 11 i).toInt = (σ 11 j).toInt <;> by_cases h3 : (σ 12 j).toInt ≤ (σ 12 i).toInt <;> simp only [h1, h2, h3, if_true, if_false] <;> simp <;> omega
def wms (σ : mm_S) (m n s : Nat) : Prop := s < 9 ∧ s < n ∧ m.testBit s = true ∧ ∀ j, j < n → m.testBit j = true → ¬ fw σ j s
theorem m1_neg : (-1 : Int32) < 0 := by decide
theorem c_36 {d n m : Nat} {Q : mm_Q} {σ : mm_S} (C : CK σ n m) (h0 : 0 < bc m 9) (q : ∀ s, wms σ m 9 s → Q (some (.int (nI s))) σ) : mD (d + 3) 36 [.ref 5] σ Q := by
  refine ks_36_0 ?_
  refine lp_dn (P := fun i => ∀ x, (x = -1 ∧ ∀ j, j < i → ¬ m.testBit j = true) ∨ (∃ s, x = nI s ∧ wms σ m i s) → mw (d + 2) mt_36 Q 4 [some (.ref 5), some (.int x), some (.int (nI i))] [] σ) 9 ?_ ?_ 0 (by omega) (-1) (Or.inl ⟨rfl, fun j hj => absurd hj (Nat.not_lt_zero j)⟩)
  · intro x hx
    refine ks_36_4 (fun g => absurd (by decide) g) (fun g => absurd (by decide) g) (fun _ => ?_) (fun g => absurd (by decide) g) (fun g => absurd (by decide) g) (fun g => absurd (by decide) g) (fun g => absurd (by decide) g)
    rcases hx with ⟨_, h⟩ | ⟨s, e, h⟩
    · obtain ⟨j, hj, hb⟩ := bc_pos 9 h0
      exact absurd hb (h j hj)
    · rw [e]; exact q s h
  · intro i hi ih x hx
    have g9 : ¬ ((9 : Int32) ≤ nI i) := hI_nle (a := 9) (by omega) hi
    have bi : ¬ xd σ (nI i) = 0 → m.testBit i = true := fun z => (C.dr i hi).mp ((xd_01 _ _).resolve_left z)
    have nx : ∀ y, ((y = -1 ∧ ∀ j, j < i + 1 → ¬ m.testBit j = true) ∨ (∃ s, y = nI s ∧ wms σ m (i + 1) s)) → mw (d + 2) mt_36 Q 4 [some (.ref 5), some (.int y), some (.int (nI i + 1))] [] σ := fun y hy => by
      rw [nI_1]; exact ih y hy
    rcases hx with ⟨e, h⟩ | ⟨s, e, s9, si, ms, h⟩
    · subst e
      refine ks_36_4 (fun _ _ z => absurd m1_neg z) (fun _ _ z => absurd m1_neg z) (fun g => absurd g g9) (fun _ a => nx _ (Or.inl ⟨rfl, fun j hj hb => ?_⟩)) (fun _ a _ => nx _ (Or.inr ⟨i, rfl, hi, by omega, bi a, fun j hj hb => ?_⟩)) (fun _ _ z => absurd m1_neg z) (fun _ _ z => absurd m1_neg z)
      · by_cases e : j = i
        · subst e; rw [(C.dr j hi).mpr hb] at a; exact absurd a (by decide)
        · exact h j (by omega) hb
      · by_cases e : j = i
        · subst e; unfold fw; omega
        · exact absurd hb (h j (by omega))
    · subst e
      have sp : ¬ (nI s < 0) := nI_pos (by omega)
      refine ks_36_4 (fun _ _ _ => pk_in i 9 hi) (fun _ _ _ => pk_in s 9 s9) (fun g => absurd g g9) (fun _ a => nx _ (Or.inr ⟨s, rfl, s9, by omega, ms, fun j hj hb => ?_⟩)) (fun _ _ z => absurd z sp) (fun _ a _ b => nx _ (Or.inr ⟨s, rfl, s9, by omega, ms, fun j hj hb => ?_⟩)) (fun _ a _ b => nx _ (Or.inr ⟨i, rfl, hi, by omega, bi a, fun j hj hb => ?_⟩))
      · by_cases e : j = i
        · subst e; rw [(C.dr j hi).mpr hb] at a; exact absurd a (by decide)
        · exact h j (by omega) hb
      · by_cases e : j = i
        · subst e; exact fun z => absurd b ((f_37_iff hi s9).mpr z)
        · exact h j (by omega) hb
      · have hf := (f_37_iff hi s9).mp b
        by_cases e : j = i
        · subst e; unfold fw; omega
        · have := h j (by omega) hb
          unfold fw at *
          omega
/-- the joins of the westmost room: the first, clockwise from the south -/
def nms (σ : mm_S) (s n t : Nat) : Prop := aj σ s t ∧ t < n ∧ ∀ j, j < n → aj σ s j → j ≠ t → gcr (vc σ s t) (vc σ s j) < 0
def sou : V2 := (0, -1)
theorem sou_pos : 0 < gdt sou sou := by decide
theorem wm_half {σ : mm_S} {n m s j : Nat} (C : CK σ n m) (W : wms σ m 9 s) (hj : aj σ s j) : ¬ gcr sou (vc σ s j) < 0 ∧ ¬ gsd sou (vc σ s j) := by
  obtain ⟨j9, mj, hne⟩ := C.aj_dr W.1 W.2.2.1 hj
  have h := W.2.2.2 j j9 mj
  have hd : ¬ (pX σ j = pX σ s ∧ pY σ j = pY σ s) := fun z => hne (C.ds j s j9 W.1 mj W.2.2.1 z.1 z.2)
  unfold fw at h
  unfold gsd gcr gdt sou vc
  simp only
  constructor
  · omega
  · rintro ⟨a, b⟩
    omega
theorem c_38 {d n m s : Nat} {Q : mm_Q} {σ : mm_S} (C : CK σ n m) (N : NC σ n) (W : wms σ m 9 s) (ha : ∃ j, aj σ s j) (q : ∀ t, nms σ s 9 t → Q (some (.int (nI t))) σ) : mD (d + 3) 38 [.ref 5, .int (nI s)] σ Q := by
  have s9 := W.1
  have ms := W.2.2.1
  have cs : (nI s).toNatClampNeg = s := nI_clamp (by omega)
  have hd := C.gdd N s9 ms
  have gs : s < 9 ∧ cG σ s := ⟨s9, C.xy s s9 ms⟩
  have gj : ∀ j, aj σ s j → j < 9 ∧ cG σ j := fun j hj => ⟨(C.aj_dr s9 ms hj).1, C.xy j (C.aj_dr s9 ms hj).1 (C.aj_dr s9 ms hj).2.1⟩
  have tot : ∀ j k, aj σ s j → aj σ s k → j ≠ k → ¬ gcr (vc σ s j) (vc σ s k) < 0 → gcr (vc σ s k) (vc σ s j) < 0 := fun j k hj hk hne hn => by
    have wj := wm_half C W hj
    have wk := wm_half C W hk
    rcases gtot sou_pos (hd.1 j hj) (hd.1 k hk) wj.2 wk.2 (hd.2 j k hj hk hne) with z | z
    · rcases z with z | z
      · exact absurd z.1 wj.1
      · exact absurd z.2 hn
    · rcases z with z | z
      · exact absurd z.1 wk.1
      · exact z.2
  refine ks_38_0 ?_
  refine lp_dn (P := fun i => ∀ x, (x = -1 ∧ ∀ j, j < i → ¬ aj σ s j) ∨ (∃ t, x = nI t ∧ nms σ s i t) → mw (d + 2) mt_38 Q 4 [some (.ref 5), some (.int (nI s)), some (.int x), some (.int (nI i))] [] σ) 9 ?_ ?_ 0 (by omega) (-1) (Or.inl ⟨rfl, fun j hj => absurd hj (Nat.not_lt_zero j)⟩)
  · intro x hx
    refine ks_38_4 (fun g => absurd (by decide) g) (fun g => absurd (by decide) g) (fun g => absurd (by decide) g) (fun g => absurd (by decide) g) (fun _ => ?_) (fun g => absurd (by decide) g) (fun g => absurd (by decide) g) (fun g => absurd (by decide) g) (fun g => absurd (by decide) g)
    rcases hx with ⟨_, h⟩ | ⟨t, e, h⟩
    · obtain ⟨j, hj⟩ := ha
      exact absurd hj (h j hj.1)
    · rw [e]; exact q t h
  · intro i hi ih x hx
    have g9 : ¬ ((9 : Int32) ≤ nI i) := hI_nle (a := 9) (by omega) hi
    have ai : ¬ hs (σ 15 (nI s).toNatClampNeg) (nI i) = 0 → aj σ s i := fun z => ⟨hi, by rw [cs] at z; exact (hs_01 _ _).resolve_left z⟩
    have ni : hs (σ 15 (nI s).toNatClampNeg) (nI i) = 0 → ¬ aj σ s i := fun z w => by rw [cs, w.2] at z; exact absurd z (by decide)
    have nx : ∀ y, ((y = -1 ∧ ∀ j, j < i + 1 → ¬ aj σ s j) ∨ (∃ t, y = nI t ∧ nms σ s (i + 1) t)) → mw (d + 2) mt_38 Q 4 [some (.ref 5), some (.int (nI s)), some (.int y), some (.int (nI i + 1))] [] σ := fun y hy => by
      rw [nI_1]; exact ih y hy
    rcases hx with ⟨e, h⟩ | ⟨t, e, at_, ti, h⟩
    · subst e
      refine ks_38_4 (fun _ => pk_in s 9 s9) (fun _ _ z => absurd m1_neg z) (fun _ _ z => absurd m1_neg z) (fun _ _ z => absurd m1_neg z) (fun g => absurd g g9) (fun _ a => nx _ (Or.inl ⟨rfl, fun j hj hb => ?_⟩)) (fun _ a _ => nx _ (Or.inr ⟨i, rfl, ai a, by omega, fun j hj hb hne => ?_⟩)) (fun _ _ z => absurd m1_neg z) (fun _ _ z => absurd m1_neg z)
      · by_cases e : j = i
        · subst e; exact ni a hb
        · exact h j (by omega) hb
      · exact absurd hb (h j (by omega))
    · subst e
      have t9 := (gj t at_).1
      have sp : ¬ (nI t < 0) := nI_pos (by omega)
      have tn : aj σ s i → (f_17 σ (nI s) (nI i) (nI t)).toInt = gcr (vc σ s i) (vc σ s t) := fun z => f_17_toInt gs (gj i z) (gj t at_)
      refine ks_38_4 (fun _ => pk_in s 9 s9) (fun _ _ _ => pk_in i 9 hi) (fun _ _ _ => pk_in s 9 s9) (fun _ _ _ => pk_in t 9 t9) (fun g => absurd g g9) (fun _ a => nx _ (Or.inr ⟨t, rfl, at_, by omega, fun j hj hb hne => ?_⟩)) (fun _ _ z => absurd z sp) (fun _ a _ b => nx _ (Or.inr ⟨t, rfl, at_, by omega, fun j hj hb hne => ?_⟩)) (fun _ a _ b => nx _ (Or.inr ⟨i, rfl, ai a, by omega, fun j hj hb hne => ?_⟩))
      · by_cases e : j = i
        · subst e; exact absurd hb (ni a)
        · exact h j (by omega) hb hne
      · by_cases e : j = i
        · subst e
          rw [ge0, tn hb] at b
          exact tot j t hb at_ hne b
        · exact h j (by omega) hb hne
      · rw [ge0, tn (ai a)] at b
        have b' : gcr (vc σ s i) (vc σ s t) < 0 := by omega
        by_cases e : j = t
        · subst e; exact b'
        · have h2 := h j (by omega) hb e
          have wi := wm_half C W (ai a)
          have wt := wm_half C W at_
          have wj := wm_half C W hb
          rcases gtrans sou_pos (hd.1 i (ai a)) (hd.1 j hb) wi.2 wt.2 wj.2 (hd.2 i j (ai a) hb (fun z => hne z.symm)) (Or.inr ⟨by simp [wi.1, wt.1], b'⟩) (Or.inr ⟨by simp [wt.1, wj.1], h2⟩) with z | z
          · exact absurd z.1 wi.1
          · exact z.2

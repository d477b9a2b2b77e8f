/-! class: findWideFace -/
/-- HouseDesk$Walks.threeLeast -/
def f_44 (x0 : Int32) : Int32 := (x0 ^^^ (f_6 (f_6 (f_6 x0))))
theorem c_44 {d : Nat} {Q : mm_Q} {x0 : Int32} {σ : mm_S} (q : Q (some (.int (f_44 x0))) σ) : mD (d + 2) 44 [.int x0] σ Q := ke_44 (kb_44_0 (c_6 (kb_44_4 (c_6 (kb_44_7 (c_6 (kb_44_10 q)))))))
/-- HouseDesk$Walks.comesBefore -/
def f_45 (x0 x1 : Int32) : Int32 := (hs x0 (F5 (x0 ^^^ x1)))
theorem f_45_01 (x0 x1 : Int32) : (f_45 x0 x1) = 0 ∨ (f_45 x0 x1) = 1 := by
  unfold f_45
  repeat' split
  all_goals first | exact Or.inl rfl | exact Or.inr rfl | exact (hs_01 _ _)
theorem c_45 {d : Nat} {Q : mm_Q} {x0 x1 : Int32} {σ : mm_S} (H1 : ¬ (x0 ^^^ x1) < 0) (q : Q (some (.int (f_45 x0 x1))) σ) : mD (d + 3) 45 [.int x0, .int x1] σ Q := ke_45 (kb_45_0 (c_5f H1 (kb_45_7 (c_4 (kb_45_10 (hs_01 _ _) q)))))
/-- HouseDesk$Walks.findWideFace, from 0 -/
theorem ks_43_0 {d : Nat} {Q : mm_Q} {σ : mm_S} (q0 : mw d mt_43 Q 4 [some (.ref 5), some (.ref 3), some (.int (0 : Int32)), some (.int (0 : Int32)), none] [] σ) : mD (d + 1) 43 [.ref 5, .ref 3] σ Q := ke_43 (kb_43_0 q0)
/-- HouseDesk$Walks.findWideFace, from 4 -/
theorem ks_43_4 {d : Nat} {Q : mm_Q} {x2 x3 : Int32} {o4 : Option Value} {σ : mm_S} (H1 : (σ 5 6) ≤ x3 → ¬ (x2 = 0) → ¬ x2 < 0) (H2 : (σ 5 6) ≤ x3 → ¬ (x2 = 0) → ¬ (f_6 x2) < 0) (H3 : (σ 5 6) ≤ x3 → ¬ (x2 = 0) → ¬ (f_6 (f_6 x2)) < 0) (H4 : ¬ ((σ 5 6) ≤ x3) → vp_in x3 42) (H5 : ¬ ((σ 5 6) ≤ x3) → ¬ ((F153 (σ 43 x3.toNatClampNeg)) ≤ (3 : Int32)) → vp_in x3 42) (H6 : ¬ ((σ 5 6) ≤ x3) → ¬ ((F153 (σ 43 x3.toNatClampNeg)) ≤ (3 : Int32)) → ¬ (x2 = 0) → ¬ ((f_44 (σ 43 x3.toNatClampNeg)) ^^^ x2) < 0) (q0 : (σ 5 6) ≤ x3 → x2 = 0 → x2 = 0 → Q (some (.int (0 : Int32))) σ) (q1 : (σ 5 6) ≤ x3 → x2 = 0 → ¬ (x2 = 0) → Q (some (.int (1 : Int32))) σ) (q2 : (σ 5 6) ≤ x3 → ¬ (x2 = 0) → x2 = 0 → Q (some (.int (0 : Int32))) (mm_up (mm_up (mm_up (mm_up σ 20 0 (F5 x2)) 20 1 (F5 (f_6 x2))) 20 2 (F5 (f_6 (f_6 x2)))) 3 1 (3 : Int32))) (q3 : (σ 5 6) ≤ x3 → ¬ (x2 = 0) → ¬ (x2 = 0) → Q (some (.int (1 : Int32))) (mm_up (mm_up (mm_up (mm_up σ 20 0 (F5 x2)) 20 1 (F5 (f_6 x2))) 20 2 (F5 (f_6 (f_6 x2)))) 3 1 (3 : Int32))) (q4 : ¬ ((σ 5 6) ≤ x3) → (F153 (σ 43 x3.toNatClampNeg)) ≤ (3 : Int32) → mw (d + 3) mt_43 Q 4 [some (.ref 5), some (.ref 3), some (.int x2), some (.int (x3 + 1)), o4] [] σ) (q5 : ¬ ((σ 5 6) ≤ x3) → ¬ ((F153 (σ 43 x3.toNatClampNeg)) ≤ (3 : Int32)) → x2 = 0 → mw (d + 3) mt_43 Q 4 [some (.ref 5), some (.ref 3), some (.int (f_44 (σ 43 x3.toNatClampNeg))), some (.int (x3 + 1)), some (.int (f_44 (σ 43 x3.toNatClampNeg)))] [] σ) (q6 : ¬ ((σ 5 6) ≤ x3) → ¬ ((F153 (σ 43 x3.toNatClampNeg)) ≤ (3 : Int32)) → ¬ (x2 = 0) → (f_45 (f_44 (σ 43 x3.toNatClampNeg)) x2) = 0 → mw (d + 3) mt_43 Q 4 [some (.ref 5), some (.ref 3), some (.int x2), some (.int (x3 + 1)), some (.int (f_44 (σ 43 x3.toNatClampNeg)))] [] σ) (q7 : ¬ ((σ 5 6) ≤ x3) → ¬ ((F153 (σ 43 x3.toNatClampNeg)) ≤ (3 : Int32)) → ¬ (x2 = 0) → ¬ ((f_45 (f_44 (σ 43 x3.toNatClampNeg)) x2) = 0) → mw (d + 3) mt_43 Q 4 [some (.ref 5), some (.ref 3), some (.int (f_44 (σ 43 x3.toNatClampNeg))), some (.int (x3 + 1)), some (.int (f_44 (σ 43 x3.toNatClampNeg)))] [] σ) : mw (d + 3) mt_43 Q 4 [some (.ref 5), some (.ref 3), some (.int x2), some (.int x3), o4] [] σ := (kb_43_4 (fun g0 => (kb_43_58 (fun g1 => (kb_43_86 (fun g2 => (kb_43_94 (q0 g0 g1 g2))) (fun g2 => (kb_43_90 (q1 g0 g1 g2))))) (fun g1 => (kb_43_62 (c_6 (kb_43_66 (c_5f (H1 g0 g1) (kb_43_72 (c_5f (H2 g0 g1) (kb_43_76 (c_6 (kb_43_80 (c_5f (H3 g0 g1) (kb_43_83 (c_21 (kb_43_86 (fun g2 => (kb_43_94 (q2 g0 g1 g2))) (fun g2 => (kb_43_90 (q3 g0 g1 g2))))))))))))))))))) (fun g0 => (kb_43_12 (H4 g0) (c_153 (kb_43_21 (fun g1 => (kb_43_52 (q4 g0 g1))) (fun g1 => (kb_43_25 (H5 g0 g1) (c_44 (kb_43_34 (fun g2 => (kb_43_49 (q5 g0 g1 g2))) (fun g2 => (kb_43_40 (c_45 (H6 g0 g1 g2) (kb_43_46 (fun g3 => (kb_43_52 (q6 g0 g1 g2 g3))) (fun g3 => (kb_43_49 (q7 g0 g1 g2 g3))))))))))))))))
/-- the three lowest bits -/
def t3 (m : Nat) : Nat := m ^^^ ((m &&& (m - 1)) &&& ((m &&& (m - 1)) - 1) &&& (((m &&& (m - 1)) &&& ((m &&& (m - 1)) - 1)) - 1))
set_option maxRecDepth 100000 in
theorem f_6_n0 : ∀ m, m < 512 → f_6 (nI m) = nI (m &&& (m - 1)) ∧ (m &&& (m - 1)) < 512 := by decide +kernel
set_option maxRecDepth 100000 in
theorem f_44_n0 : ∀ m, m < 512 → f_44 (nI m) = nI (t3 m) ∧ t3 m < 512 ∧ (3 < bc m 13 → t3 m ≠ 0) := by decide +kernel
/-- what findWideFace has best behind k faces -/
def wfb (σ : mm_S) : Nat → Int32
  | 0 => 0
  | k + 1 => if F153 (σ 43 k) ≤ 3 then wfb σ k else if wfb σ k = 0 then f_44 (σ 43 k) else if f_45 (f_44 (σ 43 k)) (wfb σ k) = 0 then wfb σ k else f_44 (σ 43 k)
theorem wfb_n {σ : mm_S} {f : Nat} (h : ∀ g, g < f → ∃ M, M < 512 ∧ σ 43 g = nI M) : ∀ k, k ≤ f → ∃ w, w < 512 ∧ wfb σ k = nI w
  | 0, _ => ⟨0, by decide, rfl⟩
  | k + 1, hk => by
    obtain ⟨w, w1, w2⟩ := wfb_n h k (by omega)
    obtain ⟨M, m1, m2⟩ := h k (by omega)
    have t := f_44_n0 M m1
    unfold wfb
    rw [m2, w2, t.1]
    split
    · exact ⟨w, w1, rfl⟩
    · split
      · exact ⟨t3 M, t.2.1, rfl⟩
      · split
        · exact ⟨w, w1, rfl⟩
        · exact ⟨t3 M, t.2.1, rfl⟩
/-- no face has more than three rooms, where none is found -/
theorem wfb_0 {σ : mm_S} {f : Nat} (h : ∀ g, g < f → ∃ M, M < 512 ∧ σ 43 g = nI M) : ∀ k, k ≤ f → wfb σ k = 0 → ∀ g M, g < k → M < 512 → σ 43 g = nI M → bc M 13 ≤ 3
  | 0, _, _, g, _, hg, _, _ => absurd hg (Nat.not_lt_zero g)
  | k + 1, hk, hz, g, M, hg, hM, e => by
    obtain ⟨w, w1, w2⟩ := wfb_n h k (by omega)
    obtain ⟨M', m1, m2⟩ := h k (by omega)
    have t := f_44_n0 M' m1
    have F := F153_bc (m := M') (by omega)
    have b13 := bc_n M' 13
    unfold wfb at hz
    rw [m2, t.1, F] at hz
    by_cases c : nI (bc M' 13) ≤ 3
    · rw [if_pos c] at hz
      by_cases eg : g = k
      · subst eg
        rw [m2] at e
        have := (nI_eq (by omega) (by omega)).mp e
        subst this
        exact (nI_leI (b := 3) (by omega) (by omega)).mp c
      · exact wfb_0 h k (by omega) hz g M (by omega) hM e
    · exfalso
      have nz : t3 M' ≠ 0 := t.2.2 (by
        rcases Nat.lt_or_ge 3 (bc M' 13) with y | y
        · exact y
        · exact absurd ((nI_leI (b := 3) (by omega) (by omega)).mpr y) c)
      have nz' : ¬ nI (t3 M') = 0 := nI_ne0 (by omega) (by omega)
      rw [if_neg c] at hz
      by_cases wz : wfb σ k = 0
      · rw [if_pos wz] at hz; exact nz' hz
      · rw [if_neg wz] at hz
        split at hz
        · exact wz hz
        · exact nz' hz
def tw3 (σ : mm_S) (b : Int32) : mm_S := mm_up (mm_up (mm_up (mm_up σ 20 0 (F5 b)) 20 1 (F5 (f_6 b))) 20 2 (F5 (f_6 (f_6 b)))) 3 1 3
theorem c_43 {d f : Nat} {Q : mm_Q} {σ : mm_S} (h6 : σ 5 6 = nI f) (f42 : f ≤ 42) (h : ∀ g, g < f → ∃ M, M < 512 ∧ σ 43 g = nI M) (q1 : ¬ wfb σ f = 0 → Q (some (.int 1)) (tw3 σ (wfb σ f))) (q0 : wfb σ f = 0 → Q (some (.int 0)) σ) : mD (d + 4) 43 [.ref 5, .ref 3] σ Q := by
  have ps : ∀ {x : Int32} {w : Nat}, x = nI w → w < 512 → ¬ x < 0 := fun e hw => by rw [e]; exact nI_pos (by omega)
  refine ks_43_0 ?_
  refine lp_dn (P := fun k => ∀ o4, mw (d + 3) mt_43 Q 4 [some (.ref 5), some (.ref 3), some (.int (wfb σ k)), some (.int (nI k)), o4] [] σ) f ?_ ?_ 0 (Nat.zero_le f) none
  · intro o4
    obtain ⟨w, w1, w2⟩ := wfb_n h f (Nat.le_refl f)
    have g6 : σ 5 6 ≤ nI f := by rw [h6]; exact hI_le (by omega) (Nat.le_refl f)
    have s1 := f_6_n0 w w1
    have s2 := f_6_n0 _ s1.2
    refine ks_43_4 (fun _ _ => ps w2 w1) (fun _ _ => ?_) (fun _ _ => ?_) (fun g => absurd g6 g) (fun g => absurd g6 g) (fun g => absurd g6 g) (fun _ z _ => q0 z) (fun _ z z' => absurd z z') (fun _ z z' => absurd z' z) (fun _ z _ => q1 z) (fun g => absurd g6 g) (fun g => absurd g6 g) (fun g => absurd g6 g) (fun g => absurd g6 g)
    · rw [w2]; exact ps s1.1 s1.2
    · rw [w2, s1.1]; exact ps s2.1 s2.2
  · intro k hk ih o4
    obtain ⟨w, w1, w2⟩ := wfb_n h k (by omega)
    obtain ⟨M, m1, m2⟩ := h k (by omega)
    have ck : (nI k).toNatClampNeg = k := nI_clamp (by omega)
    have g6 : ¬ (σ 5 6 ≤ nI k) := by rw [h6]; exact hI_nle (by omega) hk
    have t := f_44_n0 M m1
    have nx : ∀ y o4, wfb σ (k + 1) = y → mw (d + 3) mt_43 Q 4 [some (.ref 5), some (.ref 3), some (.int y), some (.int (nI k + 1)), o4] [] σ := fun y o4 e => by
      rw [nI_1, ← e]; exact ih o4
    have iv : vp_in (nI k) 42 := pk_in k 42 (by omega)
    refine ks_43_4 (fun g => absurd g g6) (fun g => absurd g g6) (fun g => absurd g g6) (fun _ => iv) (fun _ _ => iv) (fun _ _ _ => ?_) (fun g => absurd g g6) (fun g => absurd g g6) (fun g => absurd g g6) (fun g => absurd g g6) (fun _ a => nx _ _ ?_) (fun _ a b => nx _ _ ?_) (fun _ a b c => nx _ _ ?_) (fun _ a b c => nx _ _ ?_)
    · rw [ck, m2, w2, t.1, xor_bit]
      exact ps rfl (Nat.xor_lt_two_pow (n := 9) t.2.1 w1)
    · rw [ck] at a
      rw [wfb, if_pos a]
    · rw [ck] at a ⊢
      rw [wfb, if_neg a, if_pos b]
    · rw [ck] at a c
      rw [wfb, if_neg a, if_neg b, if_pos c]
    · rw [ck] at a c ⊢
      rw [wfb, if_neg a, if_neg b, if_neg c]

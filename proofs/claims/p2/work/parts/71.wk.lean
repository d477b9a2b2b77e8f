/-! the reference: behind, wayFrom, areTogether, findOutline, findFaces -/
set_option maxRecDepth 100000 in
theorem rem_n0 : ∀ b, b < 50 → 0 < b → ∀ a, a < 100 → nI a - nI a / nI b * nI b = nI (a % b) := by decide +kernel
set_option maxRecDepth 100000 in
theorem half_n : ∀ w, w < 42 → nI w / (2 : Int32) = nI (w / 2) ∧ nI w - nI w / (2 : Int32) * (2 : Int32) = nI (w % 2) := by decide +kernel
theorem nar_0 : vp_nar .boolean (0 : Int32) = 0 := by decide
theorem nar_1 : vp_nar .boolean (1 : Int32) = 1 := by decide
theorem c_105 {d n r k : Nat} {Q : mm_Q} {σ τ : mm_S} (n21 : n ≤ 21) (A : AR σ τ n) (hr : r < 9) (hk : k < n) (he : em σ r k) (q : ∀ k', k' < n → em σ r k' → Q (some (.int (nI k'))) τ) : mD (d + 1) 105 [.ref 10, .int (nI k), .int (nI r)] τ Q := by
  obtain ⟨dg, d8, e87, a1, a2, _⟩ := A r hr
  obtain ⟨i0, hi0, ei0⟩ := a2 k hk he
  have cr : (nI r).toNatClampNeg = r := nI_clamp (by omega)
  have fin : ∀ i, i < dg → mw d mt_105 Q 23 [some (.ref 10), some (.int (nI k)), some (.int (nI r)), some (.int (nI i))] [] τ := fun i hi => by
    have em' : nI i + (1 : Int32) - (nI i + (1 : Int32)) / (τ 87 (nI r).toNatClampNeg) * (τ 87 (nI r).toNatClampNeg) = nI ((i + 1) % dg) := by
      rw [cr, e87, nI_1]; exact rem_n0 dg (by omega) (by omega) (i + 1) (by omega)
    have ml : (i + 1) % dg < dg := Nat.mod_lt _ (by omega)
    obtain ⟨k', b1, b2, b3⟩ := a1 _ ml
    refine kb_105_23 (pk_in r 9 hr) (by rw [cr, e87]; exact nI_ne0 (by omega) (by omega)) (by rw [em', nI_16]; exact pk_in (16 * r + (i + 1) % dg) 144 (by omega)) ?_
    rw [em', nI_16, nI_clamp (show 16 * r + (i + 1) % dg < 2 ^ 31 by omega), b3]
    exact q k' b1 b2
  refine ke_105 (kb_105_0 ?_)
  refine lp_dn (P := fun i => mw d mt_105 Q 2 [some (.ref 10), some (.int (nI k)), some (.int (nI r)), some (.int (nI i))] [] τ) i0 ?_ ?_ 0 (Nat.zero_le _)
  · refine kb_105_2 (by rw [nI_16]; exact pk_in (16 * r + i0) 144 (by omega)) (fun _ => fin i0 hi0) (fun z => absurd ?_ z)
    rw [nI_16, nI_clamp (by omega)]; exact ei0
  · intro i hi ih
    refine kb_105_2 (by rw [nI_16]; exact pk_in (16 * r + i) 144 (by omega)) (fun _ => fin i (by omega)) (fun _ => kb_105_17 ?_)
    rw [nI_1]; exact ih
def wfn (τ : mm_S) (k r : Nat) : Nat := 2 * k + if τ 80 k = nI r then 0 else 1
theorem wfn_lt {τ : mm_S} {k r : Nat} (hk : k < 21) : wfn τ k r < 42 := by unfold wfn; split <;> omega
theorem c_106 {d k r : Nat} {Q : mm_Q} {τ : mm_S} (hk : k < 21) (q : Q (some (.int (nI (wfn τ k r)))) τ) : mD (d + 1) 106 [.ref 10, .int (nI k), .int (nI r)] τ Q := by
  have e2 : (2 : Int32) * nI k = nI (2 * k) := nI_mul 2 k
  have ck : (nI k).toNatClampNeg = k := nI_clamp (by omega)
  refine ke_106 (kb_106_0 (pk_in k 21 hk) (fun z => kb_106_13 ?_) (fun z => kb_106_17 ?_))
  · rw [ck] at z
    unfold wfn at q
    rw [if_pos z] at q
    rw [e2, show nI (2 * k) + (0 : Int32) = nI (2 * k) from nI_add (2 * k) 0]
    exact q
  · rw [ck] at z
    unfold wfn at q
    rw [if_neg z] at q
    rw [e2, nI_1]
    exact q
/-- the rooms that are drawn, as a mask -/
theorem c_107 {d n : Nat} {Q : mm_Q} {σ τ : mm_S} (M : MK σ n) (t10 : τ 10 6 = σ 10 6) (t75 : τ 75 = σ 75) (t80 : τ 80 = σ 80) (t81 : τ 81 = σ 81) (h3 : 3 ≤ rc σ 9) (q1 : (∀ r, r < 9 → ¬ σ 75 r = 0 → ∃ k, k < n ∧ em σ r k) → Q (some (.int 1)) τ) (q0 : Q (some (.int 0)) τ) : mD (d + 1) 107 [.ref 10] τ Q := by
  have n21 := M.jn.1
  have tb : ∀ a k i : Nat, (a ||| 2 ^ k).testBit i = true ↔ a.testBit i = true ∨ k = i := fun a k i => by
    rw [Nat.testBit_or, Nat.testBit_two_pow, Bool.or_eq_true]; simp
  refine ke_107 (kb_107_0 ?_)
  refine lp_dn (P := fun r => ∀ (a : Nat) (x : Int32), a < 512 → bc a 9 = rc σ r → (∀ i, i < 9 → (a.testBit i = true ↔ i < r ∧ ¬ σ 75 i = 0)) → (x = -1 ∧ (∀ i, i < r → σ 75 i = 0) ∨ ∃ f, f < 9 ∧ x = nI f ∧ a.testBit f = true) → mw d mt_107 Q 6 [some (.ref 10), some (.int (nI a)), some (.int x), some (.int (nI r)), none, none, none] [] τ) 9 ?_ ?_ 0 (by omega) 0 (-1) (by decide) rfl (fun i _ => ⟨fun z => absurd z (by simp), fun z => absurd z.1 (Nat.not_lt_zero i)⟩) (Or.inl ⟨rfl, fun i hi => absurd hi (Nat.not_lt_zero i)⟩)
  · intro a x a9 hbc ab hx
    refine kb_107_6 (fun _ => kb_107_57 ?_) (fun g => absurd (by decide) g)
    rcases hx with ⟨_, h⟩ | ⟨f, f9, ef, fa⟩
    · exfalso
      have : bc a 9 = 0 := by
        rcases Nat.eq_zero_or_pos (bc a 9) with y | y
        · exact y
        · obtain ⟨j, hj, hb⟩ := bc_pos 9 y
          exact absurd (h j hj) ((ab j hj).mp hb).2
      omega
    · subst ef
      rw [one_sh (by omega)]
      have fin : ∀ w x4 o5 o6, w < 512 → (∀ i, i < 9 → w.testBit i = true → i = f ∨ ∃ k, k < n ∧ em σ i k) → (w = 2 ^ f ∨ ∃ k, k < n ∧ em σ f k) → mw d mt_107 Q 128 [some (.ref 10), some (.int (nI a)), some (.int (nI f)), some (.int (nI w)), some (.int x4), o5, o6] [] τ := by
        intro w x4 o5 o6 w9 wi wf
        refine kb_107_128 (fun e => kb_107_133 (q1 (fun r hr dr => ?_))) (fun _ => kb_107_137 q0)
        have ew : w = a := (nI_eq (by omega) (by omega)).mp e
        subst ew
        have rb : w.testBit r = true := (ab r hr).mpr ⟨hr, dr⟩
        rcases wi r hr rb with z | z
        · subst z
          rcases wf with y | y
          · exfalso
            rw [y, bcz_1 hr] at hbc
            omega
          · exact y
        · exact z
      refine lp_dn (P := fun j => ∀ w, w < 512 → (∀ i, i < 9 → w.testBit i = true → i = f ∨ ∃ k, k < n ∧ em σ i k) → (w = 2 ^ f ∨ ∃ k, k < n ∧ em σ f k) → ∀ o5 o6, mw d mt_107 Q 64 [some (.ref 10), some (.int (nI a)), some (.int (nI f)), some (.int (nI w)), some (.int (nI j)), o5, o6] [] τ) 9 ?_ ?_ 0 (by omega) (2 ^ f) (Nat.pow_lt_pow_right (by decide) f9) (fun i _ hb => ?_) (Or.inl rfl) none none
      · intro w w9 wi wf o5 o6
        exact kb_107_64 (fun _ => fin w _ o5 o6 w9 wi wf) (fun g => absurd (by decide) g)
      · intro j hj ih w w9 wi wf o5 o6
        refine kb_107_64 (fun g => absurd g (hI_nle (a := 9) (by omega) hj)) (fun _ => kb_107_71 ?_)
        refine lp_dn (P := fun k => ∀ w, w < 512 → (∀ i, i < 9 → w.testBit i = true → i = f ∨ ∃ k, k < n ∧ em σ i k) → (w = 2 ^ f ∨ ∃ k, k < n ∧ em σ f k) → ∀ o6, mw d mt_107 Q 74 [some (.ref 10), some (.int (nI a)), some (.int (nI f)), some (.int (nI w)), some (.int (nI j)), some (.int (nI k)), o6] [] τ) n ?_ ?_ 0 (Nat.zero_le n) w w9 wi wf o6
        · intro w w9 wi wf o6
          refine kb_107_74 (fun _ => kb_107_122 (by rw [nI_1]; exact ih w w9 wi wf _ _)) (fun g => absurd (by rw [t10, M.jn.2]; exact hI_le (by omega) (Nat.le_refl n)) g)
        · intro k hk ihk w w9 wi wf o6
          obtain ⟨p, s, hp, hs, _, _, _, e1, e2⟩ := M.je k hk
          have ck : (nI k).toNatClampNeg = k := nI_clamp (by omega)
          refine kb_107_74 (fun g => absurd g (by rw [t10, M.jn.2]; exact hI_nle (by omega) hk)) (fun _ => kb_107_83 (pk_in k 21 (by omega)) (pk_in k 21 (by omega)) (fun _ => kb_107_116 (by rw [nI_1]; exact ihk w w9 wi wf _)) (fun z => kb_107_111 ?_))
          rw [ck, t80, t81, e1, e2, one_sh (by omega), one_sh (by omega), or_bit, and_bit] at z
          rw [ck, t80, t81, e1, e2, one_sh (by omega), one_sh (by omega), or_bit, or_bit, nI_1]
          have tb2 : ∀ i, (w ||| (2 ^ p ||| 2 ^ s)).testBit i = true ↔ w.testBit i = true ∨ p = i ∨ s = i := fun i => by
            rw [Nat.testBit_or, Bool.or_eq_true, tb, Nat.testBit_two_pow]; simp
          refine ihk _ (Nat.or_lt_two_pow (n := 9) w9 (Nat.or_lt_two_pow (n := 9) (Nat.pow_lt_pow_right (by decide) hp) (Nat.pow_lt_pow_right (by decide) hs))) (fun i hi hb => ?_) (Or.inr ?_) _
          · rcases (tb2 i).mp hb with y | y | y
            · exact wi i hi y
            · subst y; exact Or.inr ⟨k, hk, Or.inl e1⟩
            · subst y; exact Or.inr ⟨k, hk, Or.inr e2⟩
          · rcases wf with y | y
            · -- the first that is added meets f
              subst y
              by_cases pf : p = f
              · subst pf; exact ⟨k, hk, Or.inl e1⟩
              · by_cases sf : s = f
                · subst sf; exact ⟨k, hk, Or.inr e2⟩
                · exfalso
                  apply z
                  have : 2 ^ f &&& (2 ^ p ||| 2 ^ s) = 0 := by
                    apply Nat.eq_of_testBit_eq
                    intro i
                    rw [Nat.testBit_and, Nat.testBit_or, Nat.testBit_two_pow, Nat.testBit_two_pow, Nat.testBit_two_pow, Nat.zero_testBit]
                    by_cases e : f = i
                    · subst e; simp [pf, sf]
                    · simp [e]
                  rw [this]; rfl
            · exact y
      · rw [Nat.testBit_two_pow] at hb
        exact Or.inl (by simpa using (show f = i by simpa using hb).symm)
  · intro r hr ih a x a9 hbc ab hx
    have cr : (nI r).toNatClampNeg = r := nI_clamp (by omega)
    have ar : ¬ a.testBit r = true := fun y => by have := ((ab r hr).mp y).1; omega
    have u : (nI a ||| (0 : Int32)) = nI a := by rw [show (0 : Int32) = nI 0 from rfl, or_bit, Nat.or_zero]
    refine kb_107_6 (fun g => absurd g (hI_nle (a := 9) (by omega) hr)) (fun _ => kb_107_12 (pk_in r 9 hr) (fun z => kb_107_28 (pk_in r 9 hr) (fun _ => kb_107_49 ?_) (fun y => absurd z y)) (fun z => kb_107_22 (pk_in r 9 hr) (fun y => absurd y z) (fun _ => ?_)))
    · rw [cr, t75] at z
      rw [nI_1, u]
      refine ih a x a9 (by rw [rc, if_pos z]; exact hbc) (fun i hi => ?_) ?_
      · rw [ab i hi]
        constructor
        · rintro ⟨h1, h2⟩; exact ⟨by omega, h2⟩
        · rintro ⟨h1, h2⟩
          by_cases e : i = r
          · subst e; exact absurd z h2
          · exact ⟨by omega, h2⟩
      · rcases hx with ⟨h1, h2⟩ | h
        · refine Or.inl ⟨h1, fun i hi => ?_⟩
          by_cases e : i = r
          · subst e; exact z
          · exact h2 i (by omega)
        · exact Or.inr h
    · rw [cr, t75] at z
      rw [one_sh (by omega), or_bit]
      have nx : ∀ y, (∃ f, f < 9 ∧ y = nI f ∧ (a ||| 2 ^ r).testBit f = true) → mw d mt_107 Q 6 [some (.ref 10), some (.int (nI (a ||| 2 ^ r))), some (.int y), some (.int (nI r + 1)), none, none, none] [] τ := fun y hy => by
        rw [nI_1]
        refine ih _ y (Nat.or_lt_two_pow (n := 9) a9 (Nat.pow_lt_pow_right (by decide) hr)) (by rw [bc_add ar, if_pos hr, rc, if_neg z, hbc]) (fun i hi => ?_) (Or.inr hy)
        rw [tb, ab i hi]
        constructor
        · rintro (⟨h1, h2⟩ | h)
          · exact ⟨by omega, h2⟩
          · subst h; exact ⟨by omega, z⟩
        · rintro ⟨h1, h2⟩
          by_cases e : i = r
          · exact Or.inr e.symm
          · exact Or.inl ⟨by omega, h2⟩
      refine kb_107_40 (fun _ => kb_107_45 (nx _ ⟨r, hr, rfl, (tb a r r).mpr (Or.inr rfl)⟩)) (fun y => kb_107_49 (nx _ ?_))
      rcases hx with ⟨h1, _⟩ | ⟨f, f9, ef, fa⟩
      · exact absurd h1 y
      · exact ⟨f, f9, ef, (tb a r f).mpr (Or.inl fa)⟩

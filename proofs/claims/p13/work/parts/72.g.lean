section
/-! the reference: findOutline, findFaces -/
def GM (τ : mm_S) (v : Nat) : Prop := ∀ c, c < 42 → (v.testBit c = true ↔ ¬ τ 99 c = 0)
def OM (τ : mm_S) (N : Nat) : Prop := ∀ i, i < N → ∃ r, r < 9 ∧ τ 85 i = nI r
theorem c_109 {d n : Nat} {Q : mm_Q} {σ τ : mm_S} (M : MK σ n) (fr : ∀ c, c ≠ 10 → c ≠ 87 → c ≠ 88 → τ c = σ c) (A : AR σ τ n) (hj : ∀ r, r < 9 → ¬ σ 75 r = 0 → ∃ k, k < n ∧ em σ r k) (h3 : ∃ r, r < 9 ∧ ¬ σ 75 r = 0)
    (q1 : ∀ τ' N, (∀ c, c ≠ 10 → c ≠ 85 → c ≠ 99 → τ' c = τ c) → (∀ j, j ≠ 15 → τ' 10 j = τ 10 j) → 1 ≤ N → N ≤ 42 → τ' 10 15 = nI N → OM τ' N → Q (some (.int 1)) τ')
    (q0 : ∀ τ', (∀ c, c ≠ 10 → c ≠ 85 → c ≠ 99 → τ' c = τ c) → (∀ j, j ≠ 15 → τ' 10 j = τ 10 j) → Q (some (.int 0)) τ') : mD (d + 2) 109 [.ref 10] τ Q := by
  have n21 := M.jn.1
  have e75 : τ 75 = σ 75 := fr 75 (by decide) (by decide) (by decide)
  refine ke_109 (kb_109_0 ?_)
  refine lp_dn (P := fun r => ∀ x, (x = -1 ∧ (∀ i, i < r → σ 75 i = 0) ∨ ∃ s, s < 9 ∧ x = nI s ∧ ¬ σ 75 s = 0) → mw (d + 1) mt_109 Q 4 [some (.ref 10), some (.int x), some (.int (nI r)), none, none, none, none] [] τ) 9 ?_ ?_ 0 (by omega) (-1) (Or.inl ⟨rfl, fun i hi => absurd hi (Nat.not_lt_zero i)⟩)
  · intro x hx
    refine kb_109_4 (fun _ => kb_109_77 ?_) (fun g => absurd (by decide) g)
    obtain ⟨s, s9, es, ds⟩ : ∃ s, s < 9 ∧ x = nI s ∧ ¬ σ 75 s = 0 := by
      rcases hx with ⟨_, h⟩ | h
      · obtain ⟨r, hr, dr⟩ := h3
        exact absurd (h r hr) dr
      · exact h
    subst es
    refine lp_dn (P := fun c => ∀ ρ : mm_S, (∀ c, c ≠ 99 → ρ c = τ c) → (∀ c', c' < c → ρ 99 c' = 0) → mw (d + 1) mt_109 Q 79 [some (.ref 10), some (.int (nI s)), some (.int (nI c)), none, none, none, none] [] ρ) 42 ?_ ?_ 0 (by omega) τ (fun _ _ => rfl) (fun c h => absurd h (Nat.not_lt_zero c))
    · intro ρ f1 z99
      obtain ⟨dg, d8, e87, a1, a2, _⟩ := A s s9
      obtain ⟨k0, hk0, hem0⟩ := hj s s9 ds
      obtain ⟨i0, hi0, _⟩ := a2 k0 hk0 hem0
      obtain ⟨k, hk, hem, e88⟩ := a1 0 (by omega)
      have ex16 : (16 : Int32) * nI s = nI (16 * s) := nI_mul 16 s
      refine kb_109_79 (fun _ => kb_109_98 (by rw [ex16]; exact pk_in (16 * s) 144 (by omega)) ?_) (fun g => absurd (by decide) g)
      rw [ex16, nI_clamp (show 16 * s < 2 ^ 31 by omega), f1 88 (by decide), show 16 * s = 16 * s + 0 from rfl, e88]
      -- the walk
      refine lp_dn (P := fun N => ∀ (ρ : mm_S) (v r k : Nat) (x5 x6 : Int32), (∀ c, c ≠ 85 → c ≠ 99 → ρ c = τ c) → GM ρ v → bc v 42 = N → r < 9 → k < n → em σ r k → OM ρ N → (N = 0 → v = 0) → mw (d + 1) mt_109 Q 119 [some (.ref 10), some (.int (nI s)), some (.int (nI N)), some (.int (nI r)), some (.int (nI k)), some (.int x5), some (.int x6)] [] ρ) 42 ?_ ?_ 0 (by omega) ρ 0 s k 0 0 (fun c _ h2 => f1 c h2) (fun c hc => ⟨fun z => absurd z (by simp), fun z => absurd (z99 c hc) z⟩) (bcz_0 42) s9 hk hem (fun i hi => absurd hi (Nat.not_lt_zero i)) (fun _ => rfl)
      · intro ρ v r k x5 x6 f2 g hv hr hk he om _
        refine kb_109_119 (c_106 (by omega) (kb_109_130 (pk_in (wfn ρ k r) 42 (wfn_lt (by omega))) (fun z => absurd z ?_) (fun _ => ?_)))
        · have hw := wfn_lt (τ := ρ) (k := k) (r := r) (by omega)
          rw [nI_clamp (by omega)]
          exact (g _ hw).mp (bc_full 42 hv _ hw)
        · exact kb_109_207 (fun z => kb_109_217 (fun _ => kb_109_226 (q1 _ 42 (fun c h1 h2 h3 => by rw [mm_up_n h1]; exact f2 c h2 h3) (fun j hj' => by rw [mm_up_o hj', f2 10 (by decide) (by decide)]) (by decide) (by decide) mm_up_s (fun i hi => by rw [mm_up_n (by decide)]; exact om i hi))) (fun y => absurd z y)) (fun z => kb_109_213 (fun y => absurd y z) (fun _ => kb_109_230 (q0 _ (fun c h1 h2 h3 => by rw [mm_up_n h1]; exact f2 c h2 h3) (fun j hj' => by rw [mm_up_o hj', f2 10 (by decide) (by decide)]))))
      · intro N hN ih ρ v r k x5 x6 f2 g hv hr hk he om nz
        have A' : AR σ ρ n := fun r' hr' => by rw [f2 87 (by decide) (by decide), f2 88 (by decide) (by decide)]; exact A r' hr'
        have hw : wfn ρ k r < 42 := wfn_lt (by omega)
        refine kb_109_119 (c_106 (by omega) (kb_109_130 (pk_in _ 42 hw) (fun z => kb_109_134 ?_) (fun z => ?_)))
        · -- onward
          refine c_106 (by omega) ?_
          generalize wfn ρ k r = w at *
          rw [nI_clamp (show w < 2 ^ 31 by omega)] at z
          obtain ⟨o, o9, _, eo, emo, _, _, _⟩ := MK_ot M hk hr he
          have go : ∀ (ρ1 : mm_S) (b : Int32) (v' : Nat), (∀ c, c ≠ 99 → ρ1 c = ρ c) → GM ρ1 v' → bc v' 42 = N + 1 → mD (d + 1) 101 [.ref 10, .int (nI k), .int (nI r)] (mm_up ρ1 85 (nI N).toNatClampNeg (nI r)) (fun u τ => mw (d + 1) mt_109 Q 194 [some (.ref 10), some (.int (nI s)), some (.int (nI N + 1)), some (.int (nI r)), some (.int (nI k)), some (.int (x5 ||| ((1 : Int32) <<< (nI r &&& 31)))), some (.int b)] (u.toList ++ []) τ) := by
            intro ρ1 b v' f3 g' hv'
            have f4 : ∀ c, c ≠ 85 → c ≠ 99 → (mm_up ρ1 85 (nI N).toNatClampNeg (nI r)) c = τ c := fun c h1 h2 => by rw [mm_up_n h1, f3 c h2]; exact f2 c h1 h2
            refine c_101 (pk_in k 21 (by omega)) ?_
            have e101 : f_101 (mm_up ρ1 85 (nI N).toNatClampNeg (nI r)) (nI k) (nI r) = nI o := by
              rw [← eo]
              unfold f_101
              rw [f4 80 (by decide) (by decide), f4 81 (by decide) (by decide), fr 80 (by decide) (by decide) (by decide), fr 81 (by decide) (by decide) (by decide)]
            rw [e101, nI_1]
            refine kb_109_194 (c_105 n21 (fun r' hr' => by rw [f4 87 (by decide) (by decide), f4 88 (by decide) (by decide)]; exact A r' hr') o9 hk emo (fun k' hk' he' => kb_109_202 ?_))
            rw [nI_clamp (show N < 2 ^ 31 by omega)] at f4 ⊢
            refine ih _ v' o k' _ _ f4 (fun c hc => by rw [mm_up_n (by decide)]; exact g' c hc) hv' o9 hk' he' (fun i hi => ?_) (fun h => by omega)
            by_cases e : i = N
            · subst e; exact ⟨r, hr, mm_up_s⟩
            · rw [mm_up_o e, f3 85 (by decide)]; exact om i (by omega)
          have vw : ¬ v.testBit w = true := fun y => (g w hw).mp y z
          have gn : GM (mm_up ρ 99 w 1) (v ||| 2 ^ w) := fun c hc => by
            rw [Nat.testBit_or, Nat.testBit_two_pow, Bool.or_eq_true]
            by_cases e : c = w
            · subst e
              rw [mm_up_s]
              exact ⟨fun _ => by decide, fun _ => Or.inr (by simp)⟩
            · rw [mm_up_o e, ← g c hc]
              constructor
              · rintro (y | y)
                · exact y
                · exact absurd (show w = c by simpa using y).symm e
              · exact Or.inl
          have bn : bc (v ||| 2 ^ w) 42 = N + 1 := by rw [bc_add vw, if_pos hw, hv]
          have f9 : ∀ c, c ≠ 99 → (mm_up ρ 99 w 1) c = ρ c := fun c h => mm_up_n h
          refine kb_109_145 (pk_in w 42 hw) (fun _ => ?_) (fun _ => ?_)
          · rw [nar_1, nI_clamp (show w < 2 ^ 31 by omega)]
            exact kb_109_152 (fun _ => kb_109_162 (pk_in N 48 (by omega)) (go _ _ _ f9 gn bn)) (fun _ => kb_109_166 (pk_in N 48 (by omega)) (go _ _ _ f9 gn bn))
          · rw [nar_1, nI_clamp (show w < 2 ^ 31 by omega)]
            exact kb_109_162 (pk_in N 48 (by omega)) (go _ _ _ f9 gn bn)
        · generalize wfn ρ k r = w at *
          rw [nI_clamp (show w < 2 ^ 31 by omega)] at z
          have N1 : 1 ≤ N := by
            rcases Nat.eq_zero_or_pos N with y | y
            · have := nz y
              subst this
              exact absurd ((g w hw).mpr z) (by simp)
            · exact y
          exact kb_109_207 (fun z => kb_109_217 (fun _ => kb_109_226 (q1 _ N (fun c h1 h2 h3 => by rw [mm_up_n h1]; exact f2 c h2 h3) (fun j hj' => by rw [mm_up_o hj', f2 10 (by decide) (by decide)]) N1 (by omega) mm_up_s (fun i hi => by rw [mm_up_n (by decide)]; exact om i hi))) (fun y => absurd z y)) (fun z => kb_109_213 (fun y => absurd y z) (fun _ => kb_109_230 (q0 _ (fun c h1 h2 h3 => by rw [mm_up_n h1]; exact f2 c h2 h3) (fun j hj' => by rw [mm_up_o hj', f2 10 (by decide) (by decide)]))))
    · intro c hc ih ρ f1 z99
      refine kb_109_79 (fun g => absurd g (hI_nle (a := 42) (by omega) hc)) (fun _ => kb_109_85 (pk_in c 42 hc) ?_)
      rw [nI_1, nar_0, nI_clamp (show c < 2 ^ 31 by omega)]
      refine ih _ (fun c' h => by rw [mm_up_n h]; exact f1 c' h) (fun c' h => ?_)
      by_cases e : c' = c
      · subst e; exact mm_up_s
      · rw [mm_up_o e]; exact z99 c' (by omega)
  · intro r hr ih x hx
    have cr : (nI r).toNatClampNeg = r := nI_clamp (by omega)
    have stay : (x = -1 ∧ (∀ i, i < r + 1 → σ 75 i = 0) ∨ ∃ s, s < 9 ∧ x = nI s ∧ ¬ σ 75 s = 0) → mw (d + 1) mt_109 Q 71 [some (.ref 10), some (.int x), some (.int (nI r)), none, none, none, none] [] τ := fun h => kb_109_71 (by rw [nI_1]; exact ih x h)
    have take : ¬ σ 75 r = 0 → mw (d + 1) mt_109 Q 69 [some (.ref 10), some (.int x), some (.int (nI r)), none, none, none, none] [] τ := fun h => kb_109_69 (by rw [nI_1]; exact ih _ (Or.inr ⟨r, hr, rfl, h⟩))
    refine kb_109_4 (fun g => absurd g (hI_nle (a := 9) (by omega) hr)) (fun _ => kb_109_10 (pk_in r 9 hr) (fun z => stay ?_) (fun z => ?_))
    · rw [cr, e75] at z
      rcases hx with ⟨h1, h2⟩ | h
      · refine Or.inl ⟨h1, fun i hi => ?_⟩
        by_cases e : i = r
        · subst e; exact z
        · exact h2 i (by omega)
      · exact Or.inr h
    · rw [cr, e75] at z
      refine kb_109_19 (fun _ => take z) (fun y => ?_)
      rcases hx with ⟨h1, _⟩ | ⟨s, s9, es, ds⟩
      · exact absurd h1 y
      · have is : vp_in x 9 := by rw [es]; exact pk_in s 9 s9
        have st' := stay (Or.inr ⟨s, s9, es, ds⟩)
        exact kb_109_24 (pk_in r 9 hr) is (fun _ => take z) (fun _ => kb_109_39 (pk_in r 9 hr) is (fun _ => kb_109_54 (pk_in r 9 hr) is (fun _ => st') (fun _ => take z)) (fun _ => st'))
end
section
/-! the reference: findFaces, size, nodeOf, isLess, tellSet, hasGreatFace -/
def FM (τ : mm_S) (f : Nat) : Prop := f ≤ 42 ∧ τ 10 19 = nI f ∧ ∀ g, g < f → ∃ M, M < 512 ∧ τ 86 g = nI M
theorem c_110 {d n : Nat} {Q : mm_Q} {σ τ : mm_S} (M : MK σ n) (fr : ∀ c, c ≠ 10 → c ≠ 85 → c ≠ 87 → c ≠ 88 → c ≠ 99 → τ c = σ c) (t6 : τ 10 6 = σ 10 6) (A : AR σ τ n)
    (q : ∀ τ' f, (∀ c, c ≠ 10 → c ≠ 86 → c ≠ 99 → τ' c = τ c) → (∀ j, j ≠ 19 → τ' 10 j = τ 10 j) → FM τ' f → Q none τ') : mD (d + 2) 110 [.ref 10] τ Q := by
  have n21 := M.jn.1
  refine ke_110 (kb_110_0 ?_)
  have GMx : ∀ ρ : mm_S, ∃ v, v < 2 ^ 42 ∧ GM ρ v := fun ρ => by
    have : ∀ k, k ≤ 42 → ∃ v, v < 2 ^ k ∧ ∀ c, c < 42 → (v.testBit c = true ↔ c < k ∧ ¬ ρ 99 c = 0) := by
      intro k
      induction k with
      | zero => intro _; exact ⟨0, by decide, fun c _ => ⟨fun z => absurd z (by simp), fun z => absurd z.1 (Nat.not_lt_zero c)⟩⟩
      | succ k ih =>
        intro hk
        obtain ⟨v, v1, v2⟩ := ih (by omega)
        by_cases z : ρ 99 k = 0
        · refine ⟨v, Nat.lt_of_lt_of_le v1 (Nat.pow_le_pow_right (by decide) (by omega)), fun c hc => ?_⟩
          rw [v2 c hc]
          constructor
          · rintro ⟨h1, h2⟩; exact ⟨by omega, h2⟩
          · rintro ⟨h1, h2⟩
            by_cases e : c = k
            · subst e; exact absurd z h2
            · exact ⟨by omega, h2⟩
        · refine ⟨v ||| 2 ^ k, Nat.or_lt_two_pow (Nat.lt_of_lt_of_le v1 (Nat.pow_le_pow_right (by decide) (by omega))) (Nat.pow_lt_pow_right (by decide) (by omega)), fun c hc => ?_⟩
          rw [Nat.testBit_or, Nat.testBit_two_pow, Bool.or_eq_true, v2 c hc]
          constructor
          · rintro (⟨h1, h2⟩ | h)
            · exact ⟨by omega, h2⟩
            · have e : k = c := by simpa using h
              subst e; exact ⟨by omega, z⟩
          · rintro ⟨h1, h2⟩
            by_cases e : c = k
            · exact Or.inr (by simp [e])
            · exact Or.inl ⟨by omega, h2⟩
    obtain ⟨v, v1, v2⟩ := this 42 (Nat.le_refl 42)
    exact ⟨v, v1, fun c hc => (v2 c hc).trans ⟨fun h => h.2, fun h => ⟨hc, h⟩⟩⟩
  obtain ⟨v0, _, g0⟩ := GMx τ
  refine lp_dn (P := fun w => ∀ (ρ : mm_S) (v f : Nat), (∀ c, c ≠ 10 → c ≠ 86 → c ≠ 99 → ρ c = τ c) → (∀ j, j ≠ 19 → ρ 10 j = τ 10 j) → GM ρ v → f ≤ bc v 42 → FM ρ f → ∀ o2 o3 o4, mw (d + 1) mt_110 Q 7 [some (.ref 10), some (.int (nI w)), o2, o3, o4] [] ρ) (2 * n) ?_ ?_ 0 (Nat.zero_le _) (mm_up τ 10 19 0) v0 0 (fun c h _ _ => mm_up_n h) (fun j hj => mm_up_o hj) (fun c hc => by rw [mm_up_n (by decide)]; exact g0 c hc) (Nat.zero_le _) ⟨by decide, mm_up_s, fun g hg => absurd hg (Nat.not_lt_zero g)⟩ none none none
  · intro ρ v f f1 f2 g hf F o2 o3 o4
    have e6 : (2 : Int32) * ρ 10 6 = nI (2 * n) := by rw [f2 6 (by decide), t6, M.jn.2]; exact nI_mul 2 n
    exact kb_110_7 (fun _ => kb_110_136 (q ρ f f1 f2 F)) (fun z => absurd (by rw [e6]; exact hI_le (by omega) (Nat.le_refl _)) z)
  · intro w hw ih ρ v f f1 f2 g hf F o2 o3 o4
    have e6 : (2 : Int32) * ρ 10 6 = nI (2 * n) := by rw [f2 6 (by decide), t6, M.jn.2]; exact nI_mul 2 n
    have cw : (nI w).toNatClampNeg = w := nI_clamp (by omega)
    refine kb_110_7 (fun z => absurd z (by rw [e6]; exact hI_nle (by omega) hw)) (fun _ => kb_110_17 (pk_in w 42 (by omega)) (fun z => ?_) (fun _ => kb_110_26 (by rw [nI_1]; exact ih ρ v f f1 f2 g hf F _ _ _)))
    rw [cw] at z
    obtain ⟨h1, h2⟩ := half_n w (by omega)
    have hk : w / 2 < n := by omega
    obtain ⟨a, b, ha, hb, _, _, _, e1, e2⟩ := M.je (w / 2) hk
    have r80 : ∀ ρ : mm_S, (∀ c, c ≠ 10 → c ≠ 86 → c ≠ 99 → ρ c = τ c) → ρ 80 = σ 80 ∧ ρ 81 = σ 81 ∧ AR σ ρ n := fun ρ h => ⟨by rw [h 80 (by decide) (by decide) (by decide)]; exact fr 80 (by decide) (by decide) (by decide) (by decide) (by decide), by rw [h 81 (by decide) (by decide) (by decide)]; exact fr 81 (by decide) (by decide) (by decide) (by decide) (by decide), fun r' hr' => by rw [h 87 (by decide) (by decide) (by decide), h 88 (by decide) (by decide) (by decide)]; exact A r' hr'⟩
    -- the walk of one face
    have walk : ∀ (e : Nat) (ρ : mm_S) (v r k X : Nat), bc v 42 + e = 42 → (∀ c, c ≠ 10 → c ≠ 86 → c ≠ 99 → ρ c = τ c) → (∀ j, j ≠ 19 → ρ 10 j = τ 10 j) → GM ρ v → f ≤ bc v 42 → (f < bc v 42 ∨ ρ 99 (wfn ρ k r) = 0) → FM ρ f → r < 9 → k < n → em σ r k → X < 512 → mw (d + 1) mt_110 Q 58 [some (.ref 10), some (.int (nI w)), some (.int (nI k)), some (.int (nI r)), some (.int (nI X))] [] ρ := by
      intro e
      induction e with
      | zero =>
        intro ρ v r k X he f1 f2 g hf hst F hr hk hem hX
        have hw : wfn ρ k r < 42 := wfn_lt (by omega)
        have full := (g _ hw).mp (bc_full 42 (by omega) _ hw)
        have fl : f < bc v 42 := by
          rcases hst with y | y
          · exact y
          · exact absurd y full
        refine kb_110_58 (c_106 (by omega) (kb_110_68 (pk_in _ 42 hw) (fun y => absurd y (by rw [nI_clamp (by omega)]; exact full)) (fun _ => kb_110_109 (by rw [F.2.1]; exact pk_in f 42 (by omega)) ?_)))
        rw [nI_1, F.2.1, nI_clamp (show f < 2 ^ 31 by omega)]
        have e19 : (mm_up ρ 86 f (nI X)) 10 19 = nI f := by rw [mm_up_n (by decide)]; exact F.2.1
        rw [e19, nI_1]
        refine ih _ v (f + 1) (fun c h1 h2 h3 => by rw [mm_up_n h1, mm_up_n h2]; exact f1 c h1 h2 h3) (fun j hj => by rw [mm_up_o hj, mm_up_n (by decide)]; exact f2 j hj) (fun c hc => by rw [mm_up_n (by decide), mm_up_n (by decide)]; exact g c hc) (by omega) ⟨by omega, mm_up_s, fun g' hg' => ?_⟩ _ _ _
        rw [mm_up_n (by decide)]
        by_cases eg : g' = f
        · subst eg; exact ⟨X, hX, mm_up_s⟩
        · rw [mm_up_o eg]; exact F.2.2 g' (by omega)
      | succ e ihe =>
        intro ρ v r k X he f1 f2 g hf hst F hr hk hem hX
        obtain ⟨x80, x81, xA⟩ := r80 ρ f1
        have hw : wfn ρ k r < 42 := wfn_lt (by omega)
        refine kb_110_58 (c_106 (by omega) (kb_110_68 (pk_in _ 42 hw) (fun y => kb_110_72 (c_106 (by omega) ?_)) (fun y => kb_110_109 (by rw [F.2.1]; exact pk_in f 42 (by
          have := bc_n v 42
          rcases hst with u | u
          · omega
          · rw [nI_clamp (by omega)] at y; exact absurd u y)) ?_)))
        · rw [nI_clamp (show wfn ρ k r < 2 ^ 31 by omega)] at y
          generalize wfn ρ k r = u at *
          obtain ⟨o, o9, _, eo, emo, _, _, _⟩ := MK_ot M hk hr hem
          have vw : ¬ v.testBit u = true := fun z => (g u hw).mp z y
          refine kb_110_82 (pk_in u 42 hw) ?_
          rw [nar_1, nI_clamp (show u < 2 ^ 31 by omega)]
          have f3 : ∀ c, c ≠ 10 → c ≠ 86 → c ≠ 99 → (mm_up ρ 99 u 1) c = τ c := fun c h1 h2 h3 => by rw [mm_up_n h3]; exact f1 c h1 h2 h3
          obtain ⟨y80, y81, yA⟩ := r80 _ f3
          refine c_101 (pk_in k 21 (by omega)) ?_
          have e101 : f_101 (mm_up ρ 99 u 1) (nI k) (nI r) = nI o := by
            rw [← eo]; unfold f_101; rw [y80, y81]
          rw [e101]
          refine kb_110_98 (c_105 n21 yA o9 hk emo (fun k' hk' he' => kb_110_105 ?_))
          rw [one_sh (by omega), or_bit]
          have bn : bc (v ||| 2 ^ u) 42 = bc v 42 + 1 := by rw [bc_add vw, if_pos hw]
          refine ihe _ (v ||| 2 ^ u) o k' _ (by omega) f3 (fun j hj => by rw [mm_up_n (by decide)]; exact f2 j hj) (fun c hc => ?_) (by omega) (Or.inl (by omega)) ⟨F.1, by rw [mm_up_n (by decide)]; exact F.2.1, fun g' hg' => by rw [mm_up_n (by decide)]; exact F.2.2 g' hg'⟩ o9 hk' he' (Nat.or_lt_two_pow (n := 9) hX (Nat.pow_lt_pow_right (by decide) hr))
          rw [Nat.testBit_or, Nat.testBit_two_pow, Bool.or_eq_true]
          by_cases e : c = u
          · subst e
            rw [mm_up_s]
            exact ⟨fun _ => by decide, fun _ => Or.inr (by simp)⟩
          · rw [mm_up_o e, ← g c hc]
            constructor
            · rintro (z | z)
              · exact z
              · exact absurd (show u = c by simpa using z).symm e
            · exact Or.inl
        · rw [nI_clamp (show wfn ρ k r < 2 ^ 31 by omega)] at y
          have fl : f < bc v 42 := by
            rcases hst with u | u
            · exact u
            · exact absurd u y
          have := bc_n v 42
          rw [nI_1, F.2.1, nI_clamp (show f < 2 ^ 31 by omega)]
          have e19 : (mm_up ρ 86 f (nI X)) 10 19 = nI f := by rw [mm_up_n (by decide)]; exact F.2.1
          rw [e19, nI_1]
          refine ih _ v (f + 1) (fun c h1 h2 h3 => by rw [mm_up_n h1, mm_up_n h2]; exact f1 c h1 h2 h3) (fun j hj => by rw [mm_up_o hj, mm_up_n (by decide)]; exact f2 j hj) (fun c hc => by rw [mm_up_n (by decide), mm_up_n (by decide)]; exact g c hc) (by omega) ⟨by omega, mm_up_s, fun g' hg' => ?_⟩ _ _ _
          rw [mm_up_n (by decide)]
          by_cases eg : g' = f
          · subst eg; exact ⟨X, hX, mm_up_s⟩
          · rw [mm_up_o eg]; exact F.2.2 g' (by omega)
    obtain ⟨x80, x81, xA⟩ := r80 ρ f1
    have ck : (nI (w / 2)).toNatClampNeg = w / 2 := nI_clamp (by omega)
    have bl := bc_n v 42
    refine kb_110_29 (by decide) (by decide) (fun y => ?_) (fun y => ?_)
    · rw [h1]
      rw [h2] at y
      have ev : w % 2 = 0 := (nI_eq (b := 0) (by omega) (by omega)).mp y
      refine kb_110_39 (pk_in (w / 2) 21 (by omega)) ?_
      rw [ck, x80, e1]
      refine walk (42 - bc v 42) ρ v a (w / 2) 0 (by omega) f1 f2 g hf (Or.inr ?_) F ha hk (Or.inl e1) (by decide)
      have : wfn ρ (w / 2) a = w := by unfold wfn; rw [x80, e1, if_pos rfl]; omega
      rw [this]; exact z
    · rw [h1]
      rw [h2] at y
      have od : w % 2 = 1 := by
        rcases Nat.mod_two_eq_zero_or_one w with u | u
        · rw [u] at y; exact absurd rfl y
        · exact u
      refine kb_110_48 (pk_in (w / 2) 21 (by omega)) ?_
      rw [ck, x81, e2]
      refine walk (42 - bc v 42) ρ v b (w / 2) 0 (by omega) f1 f2 g hf (Or.inr ?_) F hb hk (Or.inr e2) (by decide)
      have hne : ¬ nI a = nI b := fun u => by
        obtain ⟨a', b', ha', hb', hne', _, _, e1', e2'⟩ := M.je (w / 2) hk
        have p1 := nI9 ha ha' (e1.symm.trans e1')
        have p2 := nI9 hb hb' (e2.symm.trans e2')
        have p3 := nI9 ha hb u
        exact hne' (by omega)
      have : wfn ρ (w / 2) b = w := by unfold wfn; rw [x80, e1, if_neg hne]; omega
      rw [this]; exact z
theorem bit_v {m k : Nat} (hm : m < 2 ^ 31) (hk : k < 31) : (nI m >>> (nI k &&& 31)) &&& 1 = nI (if m.testBit k = true then 1 else 0) := by
  have h := hs_bit hm hk
  unfold hs at h
  obtain ⟨j, hj, e⟩ := pk_andE (nI m >>> (nI k &&& 31)) (m := 1) 1 (by decide)
  rw [e] at h ⊢
  by_cases c : m.testBit k = true
  · rw [if_pos c] at h ⊢
    by_cases u : nI j = 1
    · rw [u]; rfl
    · rw [if_neg u] at h; exact absurd h (by decide)
  · rw [if_neg c] at h ⊢
    by_cases u : nI j = 1
    · rw [if_pos u] at h; exact absurd h (by decide)
    · have : j = 0 := by
        rcases Nat.lt_or_ge j 1 with y | y
        · omega
        · have : j = 1 := by omega
          subst this; exact absurd rfl u
      rw [this]
theorem c_111 {d m : Nat} {Q : mm_Q} {τ : mm_S} (hm : m < 2 ^ 31) (q : Q (some (.int (nI (bc m 13)))) τ) : mD (d + 1) 111 [.int (nI m)] τ Q := by
  refine ke_111 (kb_111_0 ?_)
  refine lp_dn (P := fun k => mw d mt_111 Q 4 [some (.int (nI m)), some (.int (nI (bc m k))), some (.int (nI k))] [] τ) 13 ?_ ?_ 0 (by omega)
  · exact kb_111_4 (fun _ => kb_111_24 q) (fun g => absurd (by decide) g)
  · intro k hk ih
    refine kb_111_4 (fun g => absurd g (hI_nle (a := 13) (by omega) hk)) (fun _ => kb_111_10 ?_)
    rw [bit_v hm (by omega), nI_add, nI_1]
    exact ih
theorem c_112 {d m i : Nat} {Q : mm_Q} {τ : mm_S} (hm : m < 2 ^ 31) (hi : i < bc m 13) (q : ∀ k, k < 13 → m.testBit k = true → bc m k = i → Q (some (.int (nI k))) τ) : mD (d + 1) 112 [.int (nI m), .int (nI i)] τ Q := by
  have b13 := bc_n m 13
  refine ke_112 (kb_112_0 ?_)
  have key := lp_dn (P := fun k => bc m k ≤ i → mw d mt_112 Q 4 [some (.int (nI m)), some (.int (nI i)), some (.int (nI (i - bc m k))), some (.int (nI k))] [] τ) 13 ?_ ?_ 0 (by omega) (Nat.zero_le i)
  · exact key
  · intro h; omega
  · intro k hk ih hb
    have bv := bit_v (m := m) (k := k) hm (by omega)
    have bs : bc m (k + 1) = bc m k + if m.testBit k = true then 1 else 0 := rfl
    have go : (m.testBit k = true → bc m k < i) → mw d mt_112 Q 16 [some (.int (nI m)), some (.int (nI i)), some (.int (nI (i - bc m k))), some (.int (nI k))] [] τ := fun h => by
      refine kb_112_16 ?_
      rw [bv, nI_1]
      have e : nI (i - bc m k) - nI (if m.testBit k = true then 1 else 0) = nI (i - bc m (k + 1)) := by
        by_cases c : m.testBit k = true
        · rw [if_pos c, bs, if_pos c]
          have := h c
          obtain ⟨x, hx⟩ : ∃ x, i - bc m k = x + 1 := ⟨i - bc m k - 1, by omega⟩
          rw [hx, show i - (bc m k + 1) = x by omega]
          exact nI_pred x
        · rw [if_neg c, bs, if_neg c]
          rw [show nI 0 = (0 : Int32) from rfl, Int32.sub_zero, Nat.add_zero]
      rw [e]
      refine ih ?_
      by_cases c : m.testBit k = true
      · rw [bs, if_pos c]; have := h c; omega
      · rw [bs, if_neg c]; omega
    refine kb_112_4 (fun z => go (fun c => ?_)) (fun z => kb_112_12 (fun y => kb_112_30 (q k hk ?_ ?_)) (fun y => go (fun _ => ?_)))
    · rw [bv, if_pos c] at z; exact absurd z (by decide)
    · by_cases c : m.testBit k = true
      · exact c
      · rw [bv, if_neg c] at z; exact absurd rfl z
    · rcases Nat.lt_or_ge (bc m k) i with u | u
      · exact absurd y (nI_nle (by omega) (by omega))
      · omega
    · rcases Nat.lt_or_ge (bc m k) i with u | u
      · exact u
      · exact absurd (by rw [show i - bc m k = 0 by omega]; decide) y
theorem c_113 {d a b : Nat} {Q : mm_Q} {τ : mm_S} (ha : a < 2 ^ 31) (hb : b < 2 ^ 31) (h3a : 3 ≤ bc a 13) (h3b : 3 ≤ bc b 13) (q : ∀ x, x = 0 ∨ x = 1 → Q (some (.int x)) τ) : mD (d + 2) 113 [.int (nI a), .int (nI b)] τ Q := by
  refine ke_113 (kb_113_0 ?_)
  refine lp_dn (P := fun i => mw (d + 1) mt_113 Q 2 [some (.int (nI a)), some (.int (nI b)), some (.int (nI i))] [] τ) 3 ?_ ?_ 0 (by omega)
  · exact kb_113_2 (fun _ => kb_113_45 (q 0 (Or.inl rfl))) (fun g => absurd (by decide) g)
  · intro i hi ih
    refine kb_113_2 (fun g => absurd g (hI_nle (a := 3) (by omega) hi)) (fun _ => kb_113_7 (c_112 ha (by omega) (fun x _ _ _ => kb_113_12 (c_112 hb (by omega) (fun y _ _ _ => kb_113_17 (fun _ => kb_113_39 (by rw [nI_1]; exact ih)) (fun _ => kb_113_20 (c_112 ha (by omega) (fun x' _ _ _ => kb_113_25 (c_112 hb (by omega) (fun y' _ _ _ => kb_113_30 (fun _ => kb_113_37 (q 0 (Or.inl rfl))) (fun _ => kb_113_33 (q 1 (Or.inr rfl)))))))))))))
theorem c_114 {d m : Nat} {Q : mm_Q} {τ : mm_S} {w : Int32} (hm : m < 2 ^ 31) (h3 : 3 ≤ bc m 13) (q : ∀ x y z, Q none (mt3 τ w x y z)) : mD (d + 2) 114 [.ref 10, .int w, .int (nI m)] τ Q := by
  refine ke_114 (kb_114_0 (c_112 (i := 0) hm (by omega) (fun x _ _ _ => kb_114_7 (c_112 (i := 1) hm (by omega) (fun y _ _ _ => kb_114_12 (c_112 (i := 2) hm (by omega) (fun z _ _ _ => kb_114_17 (c_100 (kb_114_20 (q _ _ _))))))))))
theorem c_115 {d f : Nat} {Q : mm_Q} {τ : mm_S} (F : FM τ f) (q1 : ∀ x y z, Q (some (.int 1)) (mt3 τ 3 x y z)) (q0 : Q (some (.int 0)) τ) : mD (d + 3) 115 [.ref 10] τ Q := by
  obtain ⟨f42, e19, fm⟩ := F
  refine ke_115 (kb_115_0 ?_)
  refine lp_dn (P := fun g => ∀ b, b < 512 → (b = 0 ∨ 3 ≤ bc b 13) → mw (d + 2) mt_115 Q 4 [some (.ref 10), some (.int (nI b)), some (.int (nI g))] [] τ) f ?_ ?_ 0 (Nat.zero_le f) 0 (by decide) (Or.inl rfl)
  · intro b hb h3
    refine kb_115_4 (fun _ => kb_115_55 (fun z => kb_115_65 (fun _ => kb_115_73 q0) (fun y => absurd z y)) (fun z => kb_115_59 (c_114 (by omega) (h3.resolve_left (fun e => z (by rw [e]; rfl))) (fun x y u => kb_115_65 (fun y' => absurd y' z) (fun _ => kb_115_69 (q1 x y u)))))) (fun g => absurd (by rw [e19]; exact hI_le (by omega) (Nat.le_refl f)) g)
  · intro g hg ih b hb h3
    obtain ⟨M, m1, m2⟩ := fm g hg
    have cg : (nI g).toNatClampNeg = g := nI_clamp (by omega)
    have b13 := bc_n M 13
    refine kb_115_4 (fun z => absurd z (by rw [e19]; exact hI_nle (by omega) hg)) (fun _ => kb_115_12 (pk_in g 42 (by omega)) ?_)
    rw [cg, m2]
    refine c_111 (by omega) (kb_115_21 (fun _ => kb_115_49 (by rw [nI_1]; exact ih b hb h3)) (fun z => ?_))
    have M3 : 3 ≤ bc M 13 := by
      rcases Nat.lt_or_ge (bc M 13) 3 with y | y
      · exact absurd ((nI_leI (b := 3) (by omega) (by omega)).mpr (by omega)) z
      · exact y
    have take : mw (d + 2) mt_115 Q 42 [some (.ref 10), some (.int (nI b)), some (.int (nI g))] [] τ := kb_115_42 (pk_in g 42 (by omega)) (by rw [cg, m2, nI_1]; exact ih M m1 (Or.inr M3))
    refine kb_115_25 (fun _ => take) (fun y => kb_115_29 (pk_in g 42 (by omega)) ?_)
    rw [cg, m2]
    exact c_113 (by omega) (by omega) M3 (h3.resolve_left (fun e => y (by rw [e]; rfl))) (fun x _ => kb_115_39 (fun _ => kb_115_49 (by rw [nI_1]; exact ih b hb h3)) (fun _ => take))
end
section
/-! the reference: placeOf, layCorners, roomAt, link, linkAll, isFace, hasTriangle -/
theorem i32_sw (a b c : Int32) : a - b + c = a + c - b := by
  rw [Int32.sub_eq_add_neg, Int32.sub_eq_add_neg, Int32.add_assoc, Int32.add_comm (-b) c, ← Int32.add_assoc]
theorem nI_sub {a b : Nat} (h : b ≤ a) : nI a - nI b = nI (a - b) := by
  have : nI a = nI (a - b) + nI b := by rw [nI_add]; congr 1; omega
  rw [this, Int32.add_sub_cancel]
def MO (τ : mm_S) (N : Nat) : Prop := 1 ≤ N ∧ N ≤ 42 ∧ τ 10 15 = nI N ∧ OM τ N
def C0 (τ : mm_S) (N : Nat) : Prop := ∃ i, i < N ∧ τ 85 i = τ 83 0
theorem c_116 {d N : Nat} {Q : mm_Q} {τ : mm_S} {x : Int32} (O : MO τ N) (q0 : Q (some (.int (-1))) τ) (q1 : ∀ p, p < N → C0 τ N → Q (some (.int (nI p))) τ) : mD (d + 1) 116 [.ref 10, .int x] τ Q := by
  obtain ⟨n1, n42, e15, om⟩ := O
  refine ke_116 (kb_116_0 ?_)
  refine lp_dn (P := fun k => ∀ y z, (y = -1 ∨ ∃ i, i < N ∧ y = nI i ∧ τ 85 i = τ 83 0) → (z = -1 ∨ ∃ j, j < N ∧ z = nI j) → mw d mt_116 Q 7 [some (.ref 10), some (.int x), some (.int y), some (.int z), some (.int (nI k))] [] τ) N ?_ ?_ 0 (Nat.zero_le N) (-1) (-1) (Or.inl rfl) (Or.inl rfl)
  · intro y z hy hz
    refine kb_116_7 (fun _ => kb_116_63 (fun _ => kb_116_73 q0) (fun a => kb_116_68 (fun _ => kb_116_73 q0) (fun b => ?_))) (fun g => absurd (by rw [e15]; exact hI_le (by omega) (Nat.le_refl N)) g)
    obtain ⟨i, hi, ei, e85⟩ := hy.resolve_left a
    obtain ⟨j, hj, ej⟩ := hz.resolve_left b
    subst ei; subst ej
    refine kb_116_77 (by rw [e15]; exact nI_ne0 (by omega) (by omega)) ?_
    have e : nI j - nI i + nI N = nI (j + N - i) := by rw [i32_sw, nI_add, nI_sub (by omega)]
    rw [e15, e, rem_n0 N (by omega) (by omega) _ (by omega)]
    exact q1 _ (Nat.mod_lt _ (by omega)) ⟨i, hi, e85⟩
  · intro k hk ih y z hy hz
    have ck : (nI k).toNatClampNeg = k := nI_clamp (by omega)
    have nx : ∀ y z, (y = -1 ∨ ∃ i, i < N ∧ y = nI i ∧ τ 85 i = τ 83 0) → (z = -1 ∨ ∃ j, j < N ∧ z = nI j) → mw d mt_116 Q 7 [some (.ref 10), some (.int x), some (.int y), some (.int z), some (.int (nI k + 1))] [] τ := fun y z h1 h2 => by rw [nI_1]; exact ih y z h1 h2
    refine kb_116_7 (fun g => absurd g (by rw [e15]; exact hI_nle (by omega) hk)) (fun _ => kb_116_16 (pk_in k 48 (by omega)) (pk_in 0 4 (by decide)) (fun a => kb_116_32 (pk_in k 48 (by omega)) (fun _ => kb_116_50 (nx _ _ (Or.inr ⟨k, hk, rfl, ?_⟩) (Or.inr ⟨k, hk, rfl⟩))) (fun _ => kb_116_55 (nx _ _ (Or.inr ⟨k, hk, rfl, ?_⟩) hz))) (fun _ => kb_116_37 (pk_in k 48 (by omega)) (fun _ => kb_116_50 (nx _ _ hy (Or.inr ⟨k, hk, rfl⟩))) (fun _ => kb_116_55 (nx _ _ hy hz))))
    · rw [ck] at a; exact a
    · rw [ck] at a; exact a
/-- where the sides begin and end -/
def LC (τ : mm_S) (N : Nat) : Prop := ∀ c, c < 4 → ∃ p t, p ≤ N ∧ t ≤ N ∧ τ 92 c = nI p ∧ τ 93 c = nI t
theorem MO_cg {τ τ' : mm_S} {N : Nat} (h15 : τ' 10 15 = τ 10 15) (h85 : τ' 85 = τ 85) (O : MO τ N) : MO τ' N := by
  unfold MO OM at *
  rw [h15, h85]; exact O
theorem c_117 {d N : Nat} {Q : mm_Q} {τ : mm_S} (O : MO τ N) (q0 : ∀ τ', (∀ c, c ≠ 92 → c ≠ 93 → τ' c = τ c) → Q (some (.int 0)) τ') (q1 : ∀ τ', (∀ c, c ≠ 92 → c ≠ 93 → τ' c = τ c) → LC τ' N → C0 τ N → Q (some (.int 1)) τ') : mD (d + 2) 117 [.ref 10] τ Q := by
  obtain ⟨n1, n42, e15, om⟩ := id O
  have stop := q0 τ (fun _ _ _ => rfl)
  have go : mw (d + 1) mt_117 Q 54 [some (.ref 10), none, none, none] [] τ := by
    refine kb_117_54 ?_
    refine lp_dn (P := fun s => ∀ (ρ : mm_S) (y : Int32), (∀ c, c ≠ 92 → c ≠ 93 → ρ c = τ c) → (∀ c, c < s → ∃ p, p ≤ N ∧ ρ 92 c = nI p) → (s = 0 ∨ C0 τ N) → ∀ o3, mw (d + 1) mt_117 Q 58 [some (.ref 10), some (.int y), some (.int (nI s)), o3] [] ρ) 4 ?_ ?_ 0 (by omega) τ 0 (fun _ _ _ => rfl) (fun c h => absurd h (Nat.not_lt_zero c)) (Or.inl rfl) none
    · intro ρ y fr hp hc o3
      refine kb_117_58 (fun _ => kb_117_117 ?_) (fun g => absurd (by decide) g)
      refine lp_dn (P := fun s => ∀ (ρ : mm_S), (∀ c, c ≠ 92 → c ≠ 93 → ρ c = τ c) → (∀ c, c < 4 → ∃ p, p ≤ N ∧ ρ 92 c = nI p) → (∀ c, c < s → ∃ t, t ≤ N ∧ ρ 93 c = nI t) → mw (d + 1) mt_117 Q 119 [some (.ref 10), some (.int y), some (.int (nI s)), o3] [] ρ) 4 ?_ ?_ 0 (by omega) ρ fr hp (fun c h => absurd h (Nat.not_lt_zero c))
      · intro ρ fr hp ht
        refine kb_117_119 (fun _ => kb_117_156 (q1 ρ fr (fun c hc' => ?_) (hc.resolve_left (by decide)))) (fun g => absurd (by decide) g)
        obtain ⟨p, p1, p2⟩ := hp c hc'
        obtain ⟨t, t1, t2⟩ := ht c hc'
        exact ⟨p, t, p1, t1, p2, t2⟩
      · intro s hs ih ρ fr hp ht
        have cs : (nI s).toNatClampNeg = s := nI_clamp (by omega)
        have nx : ∀ t, t ≤ N → mw (d + 1) mt_117 Q 119 [some (.ref 10), some (.int y), some (.int (nI s + 1)), o3] [] (mm_up ρ 93 (nI s).toNatClampNeg (nI t)) := fun t htN => by
          rw [nI_1, cs]
          refine ih _ (fun c h1 h2 => by rw [mm_up_n h2]; exact fr c h1 h2) (fun c hc' => by rw [mm_up_n (by decide)]; exact hp c hc') (fun c hc' => ?_)
          by_cases e : c = s
          · subst e; exact ⟨t, htN, mm_up_s⟩
          · rw [mm_up_o e]; exact ht c (by omega)
        refine kb_117_119 (fun g => absurd g (hI_nle (a := 4) (by omega) hs)) (fun _ => kb_117_124 (fun _ => kb_117_145 (pk_in s 4 hs) ?_) (fun g => kb_117_134 ?_ (pk_in s 4 hs) ?_))
        · rw [fr 10 (by decide) (by decide), e15]; exact nx N (Nat.le_refl N)
        · rw [nI_1]
          refine pk_in (s + 1) 4 ?_
          rcases Nat.lt_or_ge s 3 with u | u
          · omega
          · exact absurd (hI_le (a := 3) (by omega) u) g
        · have s3 : s < 3 := by
            rcases Nat.lt_or_ge s 3 with u | u
            · exact u
            · exact absurd (hI_le (a := 3) (by omega) u) g
          obtain ⟨p, p1, p2⟩ := hp (s + 1) (by omega)
          have e92 : ρ 92 (nI s + 1).toNatClampNeg = nI p := by rw [nI_1, nI_clamp (by omega)]; exact p2
          rw [e92]; exact nx p p1
    · intro s hs ih ρ y fr hp hc o3
      have cs : (nI s).toNatClampNeg = s := nI_clamp (by omega)
      have O' : MO ρ N := MO_cg (by rw [fr 10 (by decide) (by decide)]) (fr 85 (by decide) (by decide)) O
      have z0 : ∀ x3, mw (d + 1) mt_117 Q 100 [some (.ref 10), some (.int y), some (.int (nI s)), some (.int x3)] [] ρ := fun x3 => kb_117_100 (q0 ρ fr)
      refine kb_117_58 (fun g => absurd g (hI_nle (a := 4) (by omega) hs)) (fun _ => kb_117_63 (pk_in s 4 hs) (c_116 O' (kb_117_73 (fun _ => kb_117_79 (q0 ρ fr)) (fun g => absurd rfl g)) (fun p hpN hC => kb_117_73 (fun g => absurd g (nI_m1 (by omega))) (fun _ => ?_))))
      have hC' : C0 τ N := by
        obtain ⟨i, hi, e⟩ := hC
        rw [fr 85 (by decide) (by decide), fr 83 (by decide) (by decide)] at e
        exact ⟨i, hi, e⟩
      have put : ∀ p, p ≤ N → mw (d + 1) mt_117 Q 102 [some (.ref 10), some (.int y), some (.int (nI s)), some (.int (nI p))] [] ρ := fun p hpN => by
        refine kb_117_102 (pk_in s 4 hs) ?_
        rw [nI_1, cs]
        refine ih _ _ (fun c h1 h2 => by rw [mm_up_n h1]; exact fr c h1 h2) (fun c hc' => ?_) (Or.inr hC') _
        by_cases e : c = s
        · subst e; exact ⟨p, hpN, mm_up_s⟩
        · rw [mm_up_o e]; exact hp c (by omega)
      have r15 : ρ 10 15 = nI N := O'.2.2.1
      refine kb_117_81 (fun _ => kb_117_95 (fun _ => put p (by omega)) (fun _ => z0 _)) (fun _ => kb_117_86 (fun _ => kb_117_90 ?_ ?_) (fun _ => kb_117_95 (fun _ => put p (by omega)) (fun _ => z0 _)))
      · rw [r15]; exact fun _ => put N (Nat.le_refl N)
      · rw [r15]; exact fun _ => z0 _
  refine ke_117 (kb_117_0 (fun _ => kb_117_52 stop) (fun _ => kb_117_7 (pk_in 0 4 (by decide)) (pk_in 1 4 (by decide)) (fun _ => kb_117_22 (pk_in 1 4 (by decide)) (pk_in 2 4 (by decide)) (fun _ => kb_117_37 (pk_in 2 4 (by decide)) (pk_in 3 4 (by decide)) (fun _ => kb_117_52 stop) (fun _ => go)) (fun _ => go)) (fun _ => go)))
theorem c_118 {d N p : Nat} {Q : mm_Q} {τ : mm_S} (O : MO τ N) (hC : C0 τ N) (hp : p ≤ 43) (q : ∀ r, r < 9 → Q (some (.int (nI r))) τ) : mD (d + 1) 118 [.ref 10, .int (nI p)] τ Q := by
  obtain ⟨n1, n42, e15, om⟩ := O
  obtain ⟨i0, hi0, ei0⟩ := hC
  have fin : ∀ i, i < N → mw d mt_118 Q 23 [some (.ref 10), some (.int (nI p)), some (.int (nI i))] [] τ := fun i hi => by
    have e : nI i + nI p - (nI i + nI p) / τ 10 15 * τ 10 15 = nI ((i + p) % N) := by rw [e15, nI_add]; exact rem_n0 N (by omega) (by omega) _ (by omega)
    have ml : (i + p) % N < N := Nat.mod_lt _ (by omega)
    obtain ⟨r, r9, er⟩ := om _ ml
    refine kb_118_23 (by rw [e15]; exact nI_ne0 (by omega) (by omega)) (by rw [e]; exact pk_in ((i + p) % N) 48 (by omega)) ?_
    rw [e, nI_clamp (show (i + p) % N < 2 ^ 31 by omega), er]
    exact q r r9
  refine ke_118 (kb_118_0 ?_)
  refine lp_dn (P := fun i => mw d mt_118 Q 2 [some (.ref 10), some (.int (nI p)), some (.int (nI i))] [] τ) i0 ?_ ?_ 0 (Nat.zero_le _)
  · refine kb_118_2 (pk_in i0 48 (by omega)) (pk_in 0 4 (by decide)) (fun _ => fin i0 hi0) (fun z => absurd ?_ z)
    rw [nI_clamp (by omega)]; exact ei0
  · intro i hi ih
    exact kb_118_2 (pk_in i 48 (by omega)) (pk_in 0 4 (by decide)) (fun _ => fin i (by omega)) (fun _ => kb_118_17 (by rw [nI_1]; exact ih))
theorem c_119 {d a b : Nat} {Q : mm_Q} {τ : mm_S} (ha : a < 13) (hb : b < 13) (q : ∀ τ', (∀ c, c ≠ 91 → τ' c = τ c) → Q none τ') : mD (d + 1) 119 [.ref 10, .int (nI a), .int (nI b)] τ Q :=
  ke_119 (kb_119_0 (pk_in a 13 ha) (pk_in a 13 ha) (pk_in b 13 hb) (pk_in b 13 hb) (q _ (fun c h => by rw [mm_up_n h, mm_up_n h])))
theorem nx4_rem : ∀ s, s < 4 → (nI s + 1) - (nI s + 1) / (4 : Int32) * (4 : Int32) = nI ((s + 1) % 4) := by decide
theorem c_120 {d n N : Nat} {Q : mm_Q} {σ τ : mm_S} (M : MK σ n) (t6 : τ 10 6 = σ 10 6) (t80 : τ 80 = σ 80) (t81 : τ 81 = σ 81) (O : MO τ N) (hC : C0 τ N) (hL : LC τ N) (q : ∀ τ', (∀ c, c ≠ 91 → τ' c = τ c) → Q none τ') : mD (d + 2) 120 [.ref 10] τ Q := by
  have n21 := M.jn.1
  refine ke_120 (kb_120_0 ?_)
  refine lp_dn (P := fun k => ∀ ρ : mm_S, (∀ c, c ≠ 91 → ρ c = τ c) → mw (d + 1) mt_120 Q 2 [some (.ref 10), some (.int (nI k)), none] [] ρ) 13 ?_ ?_ 0 (by omega) τ (fun _ _ => rfl)
  · intro ρ fr
    refine kb_120_2 (fun _ => kb_120_21 ?_) (fun g => absurd (by decide) g)
    refine lp_dn (P := fun k => ∀ ρ : mm_S, (∀ c, c ≠ 91 → ρ c = τ c) → mw (d + 1) mt_120 Q 23 [some (.ref 10), some (.int (nI k)), none] [] ρ) n ?_ ?_ 0 (Nat.zero_le n) ρ fr
    · intro ρ fr
      have e6 : ρ 10 6 = nI n := by rw [fr 10 (by decide), t6]; exact M.jn.2
      refine kb_120_23 (fun _ => kb_120_53 ?_) (fun g => absurd (by rw [e6]; exact hI_le (by omega) (Nat.le_refl n)) g)
      refine lp_dn (P := fun s => ∀ ρ : mm_S, (∀ c, c ≠ 91 → ρ c = τ c) → ∀ o2, mw (d + 1) mt_120 Q 55 [some (.ref 10), some (.int (nI s)), o2] [] ρ) 4 ?_ ?_ 0 (by omega) ρ fr none
      · intro ρ fr o2
        exact kb_120_55 (fun _ => kb_120_118 (q ρ fr)) (fun g => absurd (by decide) g)
      · intro s hs ih ρ fr o2
        have cs : (nI s).toNatClampNeg = s := nI_clamp (by omega)
        obtain ⟨p, t, hp, ht, e92, e93⟩ := hL s hs
        have n42 := O.2.1
        refine kb_120_55 (fun g => absurd g (hI_nle (a := 4) (by omega) hs)) (fun _ => kb_120_60 (pk_in s 4 hs) ?_)
        rw [cs, fr 92 (by decide), e92]
        refine lp_dn (P := fun x => ∀ ρ : mm_S, (∀ c, c ≠ 91 → ρ c = τ c) → mw (d + 1) mt_120 Q 67 [some (.ref 10), some (.int (nI s)), some (.int (nI x))] [] ρ) (max p (t + 1)) ?_ ?_ p (Nat.le_max_left _ _) ρ fr
        · intro ρ fr
          have r93 : ρ 93 (nI s).toNatClampNeg = nI t := by rw [cs, fr 93 (by decide)]; exact e93
          refine kb_120_67 (pk_in s 4 hs) (fun _ => kb_120_96 (by decide) ?_) (fun g => absurd (by rw [r93]; exact nI_lt (by omega) (by omega)) g)
          rw [nx4_rem s hs, nI_9, nI_9]
          exact c_119 (by omega) (by omega) (fun ρ' f' => kb_120_112 (by rw [nI_1]; exact ih ρ' (fun c h => by rw [f' c h]; exact fr c h) _))
        · intro x hx ihx ρ fr
          have r93 : ρ 93 (nI s).toNatClampNeg = nI t := by rw [cs, fr 93 (by decide)]; exact e93
          have O' : MO ρ N := MO_cg (by rw [fr 10 (by decide)]) (fr 85 (by decide)) O
          have hC' : C0 ρ N := by
            obtain ⟨i, hi, e⟩ := hC
            exact ⟨i, hi, by rw [fr 85 (by decide), fr 83 (by decide)]; exact e⟩
          refine kb_120_67 (pk_in s 4 hs) (fun _ => kb_120_96 (by decide) ?_) (fun g => kb_120_77 (c_118 O' hC' ?_ (fun r r9 => kb_120_87 ?_)))
          · rw [nx4_rem s hs, nI_9, nI_9]
            exact c_119 (by omega) (by omega) (fun ρ' f' => kb_120_112 (by rw [nI_1]; exact ih ρ' (fun c h => by rw [f' c h]; exact fr c h) _))
          · rw [r93] at g
            have : x ≤ t := by
              rcases Nat.lt_or_ge t x with u | u
              · exact absurd (nI_lt u (by omega)) g
              · exact u
            omega
          · rw [nI_9]
            exact c_119 (by omega) (by omega) (fun ρ' f' => kb_120_90 (by rw [nI_1]; exact ihx ρ' (fun c h => by rw [f' c h]; exact fr c h)))
    · intro k hk ih ρ fr
      have e6 : ρ 10 6 = nI n := by rw [fr 10 (by decide), t6]; exact M.jn.2
      obtain ⟨a, b, ha, hb, _, _, _, e1, e2⟩ := M.je k hk
      have ck : (nI k).toNatClampNeg = k := nI_clamp (by omega)
      refine kb_120_23 (fun g => absurd g (by rw [e6]; exact hI_nle (by omega) hk)) (fun _ => kb_120_31 (pk_in k 21 (by omega)) (pk_in k 21 (by omega)) ?_)
      rw [ck, fr 80 (by decide), fr 81 (by decide), t80, t81, e1, e2]
      exact c_119 (by omega) (by omega) (fun ρ' f' => kb_120_47 (by rw [nI_1]; exact ih ρ' (fun c h => by rw [f' c h]; exact fr c h)))
  · intro k hk ih ρ fr
    refine kb_120_2 (fun g => absurd g (hI_nle (a := 13) (by omega) hk)) (fun _ => kb_120_8 (pk_in k 13 hk) ?_)
    rw [nI_1]
    exact ih _ (fun c h => by rw [mm_up_n h]; exact fr c h)
theorem c_121 {d N f : Nat} {Q : mm_Q} {τ : mm_S} {x : Int32} (O : MO τ N) (hC : C0 τ N) (hL : LC τ N) (F : FM τ f) (q : ∀ y, y = 0 ∨ y = 1 → Q (some (.int y)) τ) : mD (d + 2) 121 [.ref 10, .int x] τ Q := by
  obtain ⟨f42, e19, _⟩ := F
  have n42 := O.2.1
  refine ke_121 (kb_121_0 ?_)
  refine lp_dn (P := fun g => mw (d + 1) mt_121 Q 2 [some (.ref 10), some (.int x), some (.int (nI g)), none] [] τ) f ?_ ?_ 0 (Nat.zero_le f)
  · refine kb_121_2 (fun _ => kb_121_28 ?_) (fun g => absurd (by rw [e19]; exact hI_le (by omega) (Nat.le_refl f)) g)
    refine lp_dn (P := fun s => ∀ o3, mw (d + 1) mt_121 Q 30 [some (.ref 10), some (.int x), some (.int (nI s)), o3] [] τ) 4 ?_ ?_ 0 (by omega) none
    · intro o3
      exact kb_121_30 (fun _ => kb_121_130 (q 0 (Or.inl rfl))) (fun g => absurd (by decide) g)
    · intro s hs ih o3
      have cs : (nI s).toNatClampNeg = s := nI_clamp (by omega)
      obtain ⟨p, t, hp, ht, e92, e93⟩ := hL s hs
      have r93 : τ 93 (nI s).toNatClampNeg = nI t := by rw [cs]; exact e93
      have last : ∀ x3, mw (d + 1) mt_121 Q 88 [some (.ref 10), some (.int x), some (.int (nI s)), some (.int x3)] [] τ := fun x3 => by
        refine kb_121_88 (by decide) (pk_in s 4 hs) ?_
        rw [r93]
        exact c_118 O hC (by omega) (fun r _ => kb_121_117 (fun _ => kb_121_122 (q 1 (Or.inr rfl))) (fun _ => kb_121_124 (by rw [nI_1]; exact ih _)))
      refine kb_121_30 (fun g => absurd g (hI_nle (a := 4) (by omega) hs)) (fun _ => kb_121_35 (pk_in s 4 hs) ?_)
      rw [cs, e92]
      refine lp_dn (P := fun y => mw (d + 1) mt_121 Q 42 [some (.ref 10), some (.int x), some (.int (nI s)), some (.int (nI y))] [] τ) (max p t) ?_ ?_ p (Nat.le_max_left _ _)
      · exact kb_121_42 (pk_in s 4 hs) (fun _ => last _) (fun g => absurd (by rw [r93]; exact hI_le (by omega) (Nat.le_max_right _ _)) g)
      · intro y hy ihy
        refine kb_121_42 (pk_in s 4 hs) (fun _ => last _) (fun g => kb_121_52 (c_118 O hC (by omega) (fun r _ => kb_121_65 ?_)))
        rw [nI_1]
        exact c_118 O hC (by omega) (fun r' _ => kb_121_75 (fun _ => kb_121_80 (q 1 (Or.inr rfl))) (fun _ => kb_121_82 (by rw [nI_1]; exact ihy)))
  · intro g hg ih
    exact kb_121_2 (fun z => absurd z (by rw [e19]; exact hI_nle (by omega) hg)) (fun _ => kb_121_10 (pk_in g 42 (by omega)) (fun _ => kb_121_20 (q 1 (Or.inr rfl))) (fun _ => kb_121_22 (by rw [nI_1]; exact ih)))
theorem c_122 {d N f : Nat} {Q : mm_Q} {τ : mm_S} (O : MO τ N) (hC : C0 τ N) (hL : LC τ N) (F : FM τ f) (q1 : ∀ x y z, Q (some (.int 1)) (mt3 τ 5 x y z)) (q0 : Q (some (.int 0)) τ) : mD (d + 3) 122 [.ref 10] τ Q := by
  refine ke_122 (kb_122_0 ?_)
  refine lp_dn (P := fun a => ∀ o2 o3 o4, mw (d + 2) mt_122 Q 2 [some (.ref 10), some (.int (nI a)), o2, o3, o4] [] τ) 13 ?_ ?_ 0 (by omega) none none none
  · intro o2 o3 o4
    exact kb_122_2 (fun _ => kb_122_114 q0) (fun g => absurd (by decide) g)
  · intro a ha iha o2 o3 o4
    refine kb_122_2 (fun g => absurd g (hI_nle (a := 13) (by omega) ha)) (fun _ => kb_122_8 ?_)
    rw [nI_1]
    refine lp_dn (P := fun b => a < b → ∀ o3 o4, mw (d + 2) mt_122 Q 12 [some (.ref 10), some (.int (nI a)), some (.int (nI b)), o3, o4] [] τ) 13 ?_ ?_ (a + 1) (by omega) (by omega) o3 o4
    · intro _ o3 o4
      exact kb_122_12 (fun _ => kb_122_108 (by rw [nI_1]; exact iha _ _ _)) (fun g => absurd (by decide) g)
    · intro b hb ihb hab o3 o4
      refine kb_122_12 (fun g => absurd g (hI_nle (a := 13) (by omega) hb)) (fun _ => kb_122_18 ?_)
      rw [nI_1]
      refine lp_dn (P := fun c => b < c → ∀ o4, mw (d + 2) mt_122 Q 22 [some (.ref 10), some (.int (nI a)), some (.int (nI b)), some (.int (nI c)), o4] [] τ) 13 ?_ ?_ (b + 1) (by omega) (by omega) o4
      · intro _ o4
        exact kb_122_22 (fun _ => kb_122_102 (by rw [nI_1]; exact ihb (by omega) _ _)) (fun g => absurd (by decide) g)
      · intro c hc ihc hbc o4
        refine kb_122_22 (fun g => absurd g (hI_nle (a := 13) (by omega) hc)) (fun _ => kb_122_28 (pk_in a 13 ha) (pk_in a 13 ha) (pk_in b 13 hb) (fun _ => kb_122_59 (by rw [nI_1]; exact ihc (by omega) _)) (fun _ => kb_122_62 (c_121 O hC hL F (fun y _ => kb_122_81 (fun _ => kb_122_87 ?_) (fun _ => kb_122_84 (by rw [nI_1]; exact ihc (by omega) _))))))
        rw [one_sh (by omega), one_sh (by omega), one_sh (by omega), or_bit, or_bit]
        have b3 := bcz_3 (n := 13) ha hb hc (by omega) (by omega) (by omega)
        refine c_114 ?_ (by omega) (fun x y z => kb_122_94 (q1 x y z))
        exact Nat.lt_of_lt_of_le (Nat.or_lt_two_pow (n := 13) (Nat.or_lt_two_pow (n := 13) (Nat.pow_lt_pow_right (by decide) ha) (Nat.pow_lt_pow_right (by decide) hb)) (Nat.pow_lt_pow_right (by decide) hc)) (by decide)
end
section
/-! the reference: the rings -/
theorem ex_min {P : Nat → Prop} (h : ∃ k, P k) : ∃ k, P k ∧ ∀ i, i < k → ¬ P i := by
  obtain ⟨k, hk⟩ := h
  have key : ∀ k, P k → ∃ k, P k ∧ ∀ i, i < k → ¬ P i := by
    intro k
    induction k using Nat.strongRecOn with
    | ind k ih =>
      intro hk
      by_cases z : ∃ i, i < k ∧ P i
      · obtain ⟨i, hi, pi⟩ := z; exact ih i hi pi
      · exact ⟨k, hk, fun i hi pi => z ⟨i, hi, pi⟩⟩
  exact key k hk
theorem ex90 {n : Nat} {σ : mm_S} (hn : n ≤ 21) (a b : Int32) : ∃ v, ∀ (τ : mm_S) (Q : mm_Q) (d : Nat), τ 10 6 = nI n → τ 80 = σ 80 → τ 81 = σ 81 → Q (some (.int v)) τ → mD (d + 1) 90 [.ref 10, .int a, .int b] τ Q := by
  have cg : ∀ τ : mm_S, τ 80 = σ 80 → τ 81 = σ 81 → ∀ j, mjn τ a b j ↔ mjn σ a b j := fun τ h1 h2 j => by unfold mjn; rw [h1, h2]
  by_cases z : ∃ j, j < n ∧ mjn σ a b j
  · obtain ⟨j0, ⟨h1, h2⟩, h3⟩ := ex_min z
    refine ⟨nI j0, fun τ Q d e6 e80 e81 q => c_90 hn e6 (fun j hj hm hmin => ?_) (fun hall => absurd ((cg τ e80 e81 j0).mpr h2) (hall j0 h1))⟩
    have e : j = j0 := by
      rcases Nat.lt_trichotomy j j0 with y | y | y
      · exact absurd ⟨hj, (cg τ e80 e81 j).mp hm⟩ (h3 j y)
      · exact y
      · exact absurd ((cg τ e80 e81 j0).mpr h2) (hmin j0 y)
    rw [e]; exact q
  · exact ⟨-1, fun τ Q d e6 e80 e81 q => c_90 hn e6 (fun j hj hm _ => absurd ⟨j, hj, (cg τ e80 e81 j).mp hm⟩ z) (fun _ => q)⟩
theorem ex125 {n N : Nat} {σ : mm_S} (hn : n ≤ 21) (O : MO σ N) (x : Int32) : ∃ v, ∀ (τ : mm_S) (Q : mm_Q) (d : Nat), τ 10 6 = nI n → τ 10 15 = σ 10 15 → τ 85 = σ 85 → τ 80 = σ 80 → τ 81 = σ 81 → Q (some (.int v)) τ → mD (d + 2) 125 [.ref 10, .int x] τ Q := by
  obtain ⟨n1, n42, e15, om⟩ := O
  by_cases z : ∃ k, k < N ∧ σ 85 k = x
  · obtain ⟨k0, ⟨h1, h2⟩, h3⟩ := ex_min z
    obtain ⟨r, r9, er⟩ := om ((k0 + N - 1) % N) (Nat.mod_lt _ (by omega))
    obtain ⟨v, hv⟩ := ex90 (σ := σ) hn (nI r) x
    refine ⟨v, fun τ Q d e6 t15 t85 t80 t81 q => ke_125 (kb_125_0 ?_)⟩
    have r15 : τ 10 15 = nI N := by rw [t15]; exact e15
    refine lp_dn (P := fun k => mw (d + 1) mt_125 Q 2 [some (.ref 10), some (.int x), some (.int (nI k))] [] τ) k0 ?_ ?_ 0 (Nat.zero_le _)
    · have e : nI k0 + nI N - 1 - (nI k0 + nI N - 1) / nI N * nI N = nI ((k0 + N - 1) % N) := by
        rw [nI_add, show nI (k0 + N) - 1 = nI (k0 + N - 1) by rw [show (1 : Int32) = nI 1 from rfl]; exact nI_sub (by omega)]
        exact rem_n0 N (by omega) (by omega) _ (by omega)
      refine kb_125_2 (fun g => absurd g (by rw [r15]; exact hI_nle (by omega) h1)) (fun _ => kb_125_10 (pk_in k0 48 (by omega)) (fun _ => kb_125_20 (by rw [r15]; exact nI_ne0 (by omega) (by omega)) ?_ ?_) (fun g => absurd ?_ g))
      · rw [r15, e]; exact pk_in ((k0 + N - 1) % N) 48 (by have := Nat.mod_lt (k0 + N - 1) (show N > 0 by omega); omega)
      · rw [r15, e, nI_clamp (by have := Nat.mod_lt (k0 + N - 1) (show N > 0 by omega); omega), t85, er]
        exact hv τ _ d e6 t80 t81 (kb_125_43 q)
      · rw [nI_clamp (by omega), t85]; exact h2
    · intro k hk ih
      refine kb_125_2 (fun g => absurd g (by rw [r15]; exact hI_nle (by omega) (by omega))) (fun _ => kb_125_10 (pk_in k 48 (by omega)) (fun g => absurd ⟨by omega, ?_⟩ (h3 k hk)) (fun _ => kb_125_44 (by rw [nI_1]; exact ih)))
      rw [nI_clamp (by omega), t85] at g; exact g
  · refine ⟨-1, fun τ Q d e6 t15 t85 t80 t81 q => ke_125 (kb_125_0 ?_)⟩
    have r15 : τ 10 15 = nI N := by rw [t15]; exact e15
    refine lp_dn (P := fun k => mw (d + 1) mt_125 Q 2 [some (.ref 10), some (.int x), some (.int (nI k))] [] τ) N ?_ ?_ 0 (Nat.zero_le _)
    · exact kb_125_2 (fun _ => kb_125_50 q) (fun g => absurd (by rw [r15]; exact hI_le (by omega) (Nat.le_refl N)) g)
    · intro k hk ih
      refine kb_125_2 (fun g => absurd g (by rw [r15]; exact hI_nle (by omega) hk)) (fun _ => kb_125_10 (pk_in k 48 (by omega)) (fun g => absurd ⟨k, hk, ?_⟩ z) (fun _ => kb_125_44 (by rw [nI_1]; exact ih)))
      rw [nI_clamp (by omega), t85] at g; exact g
/-- the ring of room r has z entries -/
def RZ (τ : mm_S) (n r z : Nat) : Prop := τ 89 r = nI z ∧ ∀ i, i < z → (∃ k, k < n ∧ τ 90 (16 * r + i) = nI k) ∨ ∃ s, s < 4 ∧ τ 90 (16 * r + i) = nI (41 + s)
def RG (τ : mm_S) (n : Nat) : Prop := ∀ r, r < 9 → ∃ z, z ≤ 16 ∧ RZ τ n r z
/-- only the ring of room r changed -/
def rfr (τ τ' : mm_S) (r : Nat) : Prop := (∀ c, c ≠ 89 → c ≠ 90 → τ' c = τ c) ∧ (∀ x, x ≠ r → τ' 89 x = τ 89 x) ∧ ∀ x, (x < 16 * r ∨ 16 * r + 16 ≤ x) → τ' 90 x = τ 90 x
theorem rfr_t {τ τ' τ'' : mm_S} {r : Nat} (h : rfr τ τ' r) (h' : rfr τ' τ'' r) : rfr τ τ'' r := ⟨fun c h1 h2 => by rw [h'.1 c h1 h2]; exact h.1 c h1 h2, fun x hx => by rw [h'.2.1 x hx]; exact h.2.1 x hx, fun x hx => by rw [h'.2.2 x hx]; exact h.2.2 x hx⟩
theorem c_124 {d n r z w : Nat} {Q : mm_Q} {τ : mm_S} (hr : r < 9) (hz : z < 16) (R : RZ τ n r z) (hw : w < n ∨ ∃ s, s < 4 ∧ w = 41 + s) (q : ∀ τ', rfr τ τ' r → RZ τ' n r (z + 1) → Q none τ') : mD (d + 1) 124 [.ref 10, .int (nI r), .int (nI w)] τ Q := by
  have cr : (nI r).toNatClampNeg = r := nI_clamp (by omega)
  have e : (16 : Int32) * nI r + τ 89 (nI r).toNatClampNeg = nI (16 * r + z) := by rw [cr, R.1]; exact nI_16
  refine ke_124 (kb_124_0 (pk_in r 9 hr) (by rw [e]; exact pk_in (16 * r + z) 144 (by omega)) (pk_in r 9 hr) (pk_in r 9 hr) ?_)
  rw [e, nI_clamp (show 16 * r + z < 2 ^ 31 by omega), cr]
  have e89 : (mm_up τ 90 (16 * r + z) (nI w)) 89 r = nI z := by rw [mm_up_n (by decide)]; exact R.1
  rw [e89, nI_1]
  refine q _ ⟨fun c h1 h2 => by rw [mm_up_n h1, mm_up_n h2], fun x hx => by rw [mm_up_o hx, mm_up_n (by decide)], fun x hx => by rw [mm_up_n (by decide), mm_up_o (by omega)]⟩ ⟨mm_up_s, fun i hi => ?_⟩
  rw [mm_up_n (by decide)]
  by_cases ei : i = z
  · subst ei
    rw [mm_up_s]
    rcases hw with h | ⟨s, hs, h⟩
    · exact Or.inl ⟨w, h, rfl⟩
    · exact Or.inr ⟨s, hs, by rw [h]⟩
  · rw [mm_up_o (by omega)]; exact R.2 i (by omega)
theorem c_126 {d n N r z : Nat} {Q : mm_Q} {τ : mm_S} (O : MO τ N) (hr : r < 9) (hz : z + 8 ≤ 16) (R : RZ τ n r z) (q : ∀ τ' z', z' ≤ z + 8 → rfr τ τ' r → RZ τ' n r z' → Q none τ') : mD (d + 2) 126 [.ref 10, .int (nI r)] τ Q := by
  have e41 : ∀ s, (41 : Int32) + nI s = nI (41 + s) := fun s => nI_add 41 s
  have go : ∀ x, mw (d + 1) mt_126 Q 5 [some (.ref 10), some (.int (nI r)), none, none] [.int x] τ := by
    intro x
    refine kb_126_5 ?_
    refine lp_dn (P := fun s => ∀ (ρ : mm_S) (y : Nat), y ≤ z + s → rfr τ ρ r → RZ ρ n r y → mw (d + 1) mt_126 Q 8 [some (.ref 10), some (.int (nI r)), some (.int x), some (.int (nI s))] [] ρ) 4 ?_ ?_ 0 (by omega) τ z (by omega) ⟨fun _ _ _ => rfl, fun _ _ => rfl, fun _ _ => rfl⟩ R
    · intro ρ y hy f R
      have sec : ∀ x3, mw (d + 1) mt_126 Q 45 [some (.ref 10), some (.int (nI r)), some (.int x), some (.int x3)] [] ρ := fun x3 => by
        refine kb_126_45 ?_
        refine lp_dn (P := fun s => ∀ (ρ : mm_S) (y : Nat), y ≤ z + 4 + s → rfr τ ρ r → RZ ρ n r y → mw (d + 1) mt_126 Q 47 [some (.ref 10), some (.int (nI r)), some (.int x), some (.int (nI s))] [] ρ) 4 ?_ ?_ 0 (by omega) ρ y (by omega) f R
        · intro ρ y hy f R
          exact kb_126_47 (fun _ => kb_126_100 (q ρ y (by omega) f R)) (fun g => absurd (by decide) g)
        · intro s hs ih ρ y hy f R
          have sk : mw (d + 1) mt_126 Q 94 [some (.ref 10), some (.int (nI r)), some (.int x), some (.int (nI s))] [] ρ := kb_126_94 (by rw [nI_1]; exact ih ρ y (by omega) f R)
          refine kb_126_47 (fun g => absurd g (hI_nle (a := 4) (by omega) hs)) (fun _ => kb_126_52 (pk_in s 4 hs) (fun _ => sk) (fun _ => kb_126_62 (pk_in s 4 hs) (fun _ => sk) (fun _ => kb_126_72 (pk_in s 4 hs) (fun _ => sk) (fun _ => kb_126_85 ?_))))
          rw [e41]
          exact c_124 hr (by omega) R (Or.inr ⟨s, hs, rfl⟩) (fun ρ' f' R' => kb_126_94 (by rw [nI_1]; exact ih ρ' (y + 1) (by omega) (rfr_t f f') R'))
      exact kb_126_8 (fun _ => sec _) (fun g => absurd (by decide) g)
    · intro s hs ih ρ y hy f R
      have sec : ∀ x3, mw (d + 1) mt_126 Q 45 [some (.ref 10), some (.int (nI r)), some (.int x), some (.int x3)] [] ρ := fun x3 => by
        refine kb_126_45 ?_
        refine lp_dn (P := fun s => ∀ (ρ : mm_S) (y : Nat), y ≤ z + 4 + s → rfr τ ρ r → RZ ρ n r y → mw (d + 1) mt_126 Q 47 [some (.ref 10), some (.int (nI r)), some (.int x), some (.int (nI s))] [] ρ) 4 ?_ ?_ 0 (by omega) ρ y (by omega) f R
        · intro ρ y hy f R
          exact kb_126_47 (fun _ => kb_126_100 (q ρ y (by omega) f R)) (fun g => absurd (by decide) g)
        · intro s hs ih ρ y hy f R
          have sk : mw (d + 1) mt_126 Q 94 [some (.ref 10), some (.int (nI r)), some (.int x), some (.int (nI s))] [] ρ := kb_126_94 (by rw [nI_1]; exact ih ρ y (by omega) f R)
          refine kb_126_47 (fun g => absurd g (hI_nle (a := 4) (by omega) hs)) (fun _ => kb_126_52 (pk_in s 4 hs) (fun _ => sk) (fun _ => kb_126_62 (pk_in s 4 hs) (fun _ => sk) (fun _ => kb_126_72 (pk_in s 4 hs) (fun _ => sk) (fun _ => kb_126_85 ?_))))
          rw [e41]
          exact c_124 hr (by omega) R (Or.inr ⟨s, hs, rfl⟩) (fun ρ' f' R' => kb_126_94 (by rw [nI_1]; exact ih ρ' (y + 1) (by omega) (rfr_t f f') R'))
      refine kb_126_8 (fun g => absurd g (hI_nle (a := 4) (by omega) hs)) (fun _ => kb_126_13 (fun _ => kb_126_17 (pk_in s 4 hs) (fun _ => kb_126_30 ?_) (fun _ => kb_126_39 (by rw [nI_1]; exact ih ρ y (by omega) f R))) (fun _ => sec _))
      rw [e41]
      exact c_124 hr (by omega) R (Or.inr ⟨s, hs, rfl⟩) (fun ρ' f' R' => kb_126_39 (by rw [nI_1]; exact ih ρ' (y + 1) (by omega) (rfr_t f f') R'))
  exact ke_126 (kb_126_0 (c_116 O (go _) (fun p _ _ => go _)))
theorem c_123 {d n N : Nat} {Q : mm_Q} {σ τ : mm_S} (hn : n ≤ 21) (t6 : τ 10 6 = nI n) (A : AR σ τ n) (O : MO τ N) (q : ∀ τ', (∀ c, c ≠ 89 → c ≠ 90 → τ' c = τ c) → RG τ' n → Q none τ') : mD (d + 3) 123 [.ref 10] τ Q := by
  refine ke_123 (kb_123_0 ?_)
  refine lp_dn (P := fun r => ∀ ρ : mm_S, (∀ c, c ≠ 89 → c ≠ 90 → ρ c = τ c) → (∀ r', r' < r → ∃ z, z ≤ 16 ∧ RZ ρ n r' z) → ∀ o2 o3, mw (d + 2) mt_123 Q 2 [some (.ref 10), some (.int (nI r)), o2, o3] [] ρ) 9 ?_ ?_ 0 (by omega) τ (fun _ _ _ => rfl) (fun r' h => absurd h (Nat.not_lt_zero r')) none none
  · intro ρ fr hR o2 o3
    exact kb_123_2 (fun _ => kb_123_71 (q ρ fr hR)) (fun g => absurd (by decide) g)
  · intro r hr ih ρ fr hR o2 o3
    obtain ⟨dg, d8, e87, a1, a2, a4⟩ := A r hr
    obtain ⟨v, hv⟩ := ex125 (σ := τ) hn O (nI r)
    have cr : (nI r).toNatClampNeg = r := nI_clamp (by omega)
    have keep : ∀ (π π' : mm_S), rfr π π' r → (∀ r', r' < r → ∃ z, z ≤ 16 ∧ RZ π n r' z) → ∀ r', r' < r → ∃ z, z ≤ 16 ∧ RZ π' n r' z := fun π π' f h r' hr' => by
      obtain ⟨z, z1, z2, z3⟩ := h r' hr'
      refine ⟨z, z1, by rw [f.2.1 r' (by omega)]; exact z2, fun i hi => ?_⟩
      rw [f.2.2 _ (by omega)]; exact z3 i hi
    refine kb_123_2 (fun g => absurd g (hI_nle (a := 9) (by omega) hr)) (fun _ => kb_123_8 (pk_in r 9 hr) ?_)
    rw [cr]
    have f0 : rfr ρ (mm_up ρ 89 r 0) r := ⟨fun c h1 _ => mm_up_n h1, fun x hx => mm_up_o hx, fun x _ => by rw [mm_up_n (by decide)]⟩
    refine lp_dn (P := fun i => ∀ (π : mm_S) (z : Nat), (∀ c, c ≠ 89 → c ≠ 90 → π c = τ c) → (∀ r', r' < r → ∃ z, z ≤ 16 ∧ RZ π n r' z) → RZ π n r z → (z ≤ i ∧ (∀ j, j < i → τ 88 (16 * r + j) ≠ v) ∨ (z ≤ i + 8 ∧ ∃ j, j < i ∧ τ 88 (16 * r + j) = v)) → ∀ o3, mw (d + 2) mt_123 Q 17 [some (.ref 10), some (.int (nI r)), some (.int (nI i)), o3] [] π) dg ?_ ?_ 0 (Nat.zero_le _) _ 0 (fun c h1 h2 => by rw [mm_up_n h1]; exact fr c h1 h2) (keep _ _ f0 hR) ⟨mm_up_s, fun i hi => absurd hi (Nat.not_lt_zero i)⟩ (Or.inl ⟨Nat.le_refl 0, fun j hj => absurd hj (Nat.not_lt_zero j)⟩) o3
    · intro π z f1 hR R hz o3
      have e : π 87 (nI r).toNatClampNeg = nI dg := by rw [cr, f1 87 (by decide) (by decide)]; exact e87
      refine kb_123_17 (pk_in r 9 hr) (fun _ => kb_123_65 ?_) (fun g => absurd (by rw [e]; exact hI_le (by omega) (Nat.le_refl dg)) g)
      rw [nI_1]
      refine ih π f1 (fun r' hr' => ?_) _ _
      by_cases er : r' = r
      · subst er
        exact ⟨z, by rcases hz with h | h <;> omega, R⟩
      · exact hR r' (by omega)
    · intro i hi ihi π z f1 hR R hz o3
      have e : π 87 (nI r).toNatClampNeg = nI dg := by rw [cr, f1 87 (by decide) (by decide)]; exact e87
      obtain ⟨k, k1, _, k3⟩ := a1 i hi
      have e88 : π 88 ((16 : Int32) * nI r + nI i).toNatClampNeg = nI k := by rw [nI_16, nI_clamp (by omega), f1 88 (by decide) (by decide)]; exact k3
      refine kb_123_17 (pk_in r 9 hr) (fun g => absurd g (by rw [e]; exact hI_nle (by omega) hi)) (fun _ => kb_123_27 (by rw [nI_16]; exact pk_in (16 * r + i) 144 (by omega)) ?_)
      rw [e88]
      refine c_124 hr (by rcases hz with h | h <;> omega) R (Or.inl k1) (fun π1 f2 R1 => kb_123_45 ?_)
      have f3 : ∀ c, c ≠ 89 → c ≠ 90 → π1 c = τ c := fun c h1 h2 => by rw [f2.1 c h1 h2]; exact f1 c h1 h2
      refine hv π1 _ d (by rw [f3 10 (by decide) (by decide)]; exact t6) (by rw [f3 10 (by decide) (by decide)]) (f3 85 (by decide) (by decide)) (f3 80 (by decide) (by decide)) (f3 81 (by decide) (by decide)) ?_
      refine kb_123_50 (fun ev => kb_123_54 ?_) (fun ev => kb_123_59 ?_)
      · have first : z ≤ i := by
          rcases hz with h | ⟨_, j, hj, ej⟩
          · exact h.1
          · exact absurd (ej.trans (ev.trans k3.symm)) (a4 j i hj hi)
        refine c_126 (N := N) (MO_cg (by rw [f3 10 (by decide) (by decide)]) (f3 85 (by decide) (by decide)) O) hr (by omega) R1 (fun π2 z' hz' f4 R2 => kb_123_59 ?_)
        rw [nI_1]
        exact ihi π2 z' (fun c h1 h2 => by rw [f4.1 c h1 h2]; exact f3 c h1 h2) (keep _ _ (rfr_t f2 f4) hR) R2 (Or.inr ⟨by omega, i, by omega, k3.trans ev.symm⟩) _
      · rw [nI_1]
        refine ihi π1 (z + 1) f3 (keep _ _ f2 hR) R1 ?_ _
        rcases hz with ⟨h1, h2⟩ | ⟨h1, j, hj, ej⟩
        · refine Or.inl ⟨by omega, fun j hj => ?_⟩
          by_cases ej : j = i
          · subst ej; rw [k3]; exact fun y => ev y.symm
          · exact h2 j (by omega)
        · exact Or.inr ⟨by omega, j, by omega, ej⟩
end
section
/-! the reference: cutOn, takeBack, fits, mayBeLess, keepIfLess -/
/-- HouseDeskModel.sideOf -/
def f_127 (x0 : Int32) : Int32 := ((x0 - (20 : Int32)) - (21 : Int32))
theorem c_127 {d : Nat} {Q : mm_Q} {x0 : Int32} {σ : mm_S} (q : Q (some (.int (f_127 x0))) σ) : mD (d + 1) 127 [.int x0] σ Q := ke_127 (kb_127_0 q)
/-- HouseDeskModel.directionOf -/
def f_128 (σ : mm_S) (x1 x2 x3 : Int32) : Int32 := (if (σ 80 x1.toNatClampNeg) = x2 then (if x3 = 0 then (2 : Int32) else (if x3 = (1 : Int32) then (0 : Int32) else (if x3 = (2 : Int32) then (3 : Int32) else (1 : Int32)))) else (if x3 = 0 then (3 : Int32) else (if x3 = (1 : Int32) then (1 : Int32) else (if x3 = (2 : Int32) then (2 : Int32) else (0 : Int32)))))
theorem c_128 {d : Nat} {Q : mm_Q} {x1 x2 x3 : Int32} {σ : mm_S} (H1 : vp_in x1 21) (q : Q (some (.int (f_128 σ x1 x2 x3))) σ) : mD (d + 1) 128 [.ref 10, .int x1, .int x2, .int x3] σ Q := ke_128 (kb_128_0 H1 (fun g0 => (kb_128_10 (fun g1 => (kb_128_21 (fun g2 => (absurd (show (1 : Int32) = 0 from g2) (by decide))) (fun _ => (kb_128_26 (q_pos g1 (q_pos g0 q)))))) (fun g1 => (kb_128_32 (fun g2 => (kb_128_37 (fun g3 => (absurd (show (1 : Int32) = 0 from g3) (by decide))) (fun _ => (kb_128_42 (q_pos g2 (q_neg g1 (q_pos g0 q))))))) (fun g2 => (kb_128_48 (fun g3 => (kb_128_53 (fun g4 => (absurd (show (1 : Int32) = 0 from g4) (by decide))) (fun _ => (kb_128_58 (q_pos g3 (q_neg g2 (q_neg g1 (q_pos g0 q)))))))) (fun g3 => (kb_128_64 (fun g4 => (absurd (show (1 : Int32) = 0 from g4) (by decide))) (fun _ => (kb_128_69 (q_neg g3 (q_neg g2 (q_neg g1 (q_pos g0 q)))))))))))))) (fun g0 => (kb_128_14 (fun g1 => (kb_128_21 (fun _ => (kb_128_30 (q_pos g1 (q_neg g0 q)))) (fun g2 => (absurd (show ¬ ((0 : Int32) = 0) from g2) (by decide))))) (fun g1 => (kb_128_32 (fun g2 => (kb_128_37 (fun _ => (kb_128_46 (q_pos g2 (q_neg g1 (q_neg g0 q))))) (fun g3 => (absurd (show ¬ ((0 : Int32) = 0) from g3) (by decide))))) (fun g2 => (kb_128_48 (fun g3 => (kb_128_53 (fun _ => (kb_128_62 (q_pos g3 (q_neg g2 (q_neg g1 (q_neg g0 q)))))) (fun g4 => (absurd (show ¬ ((0 : Int32) = 0) from g4) (by decide))))) (fun g3 => (kb_128_64 (fun _ => (kb_128_73 (q_neg g3 (q_neg g2 (q_neg g1 (q_neg g0 q)))))) (fun g4 => (absurd (show ¬ ((0 : Int32) = 0) from g4) (by decide))))))))))))
def CU (τ : mm_S) (l s a b u : Nat) : Prop := τ 101 l = nI s ∧ τ 102 l = nI a ∧ τ 103 l = nI b ∧ τ 104 l = nI u
def sfr (l : Nat) (τ τ' : mm_S) : Prop := ∀ c x, (c < 101 ∨ 104 < c ∨ x ≠ l) → τ' c x = τ c x
theorem sfr_up {l c : Nat} {τ τ' : mm_S} {v : Int32} (h : sfr l τ τ') (hc : 101 ≤ c ∧ c ≤ 104) : sfr l τ (mm_up τ' c l v) := fun c' x hx => by
  by_cases e : c' = c
  · subst e
    rw [mm_up_o (by omega)]; exact h c' x hx
  · rw [mm_up_n e]; exact h c' x hx
def cdv (s a b u : Nat) : Nat := ((s * 16 + a) * 16 + b) * 16 + u
theorem c_129 {d l r z : Nat} {Q : mm_Q} {τ : mm_S} (hl : l < 9) (hr : r < 9) (e100 : τ 100 l = nI r) (e89 : τ 89 r = nI z) (z16 : z ≤ 16)
    (hc : τ 101 l = -1 ∨ ∃ s a b u, s < z ∧ 1 ≤ a ∧ 1 ≤ b ∧ 1 ≤ u ∧ a + b + u + 1 ≤ z ∧ CU τ l s a b u)
    (q0 : ∀ τ', sfr l τ τ' → Q (some (.int 0)) τ')
    (q1 : ∀ τ' s a b u, sfr l τ τ' → s < z → 1 ≤ a → 1 ≤ b → 1 ≤ u → a + b + u + 1 ≤ z → CU τ' l s a b u → (τ 101 l = -1 ∨ ∃ s0 a0 b0 u0, CU τ l s0 a0 b0 u0 ∧ s0 < z ∧ 1 ≤ a0 ∧ 1 ≤ b0 ∧ 1 ≤ u0 ∧ a0 + b0 + u0 + 1 ≤ z ∧ cdv s0 a0 b0 u0 < cdv s a b u) → Q (some (.int 1)) τ') : mD (d + 1) 129 [.ref 10, .int (nI l)] τ Q := by
  have cl : (nI l).toNatClampNeg = l := nI_clamp (by omega)
  have iv := pk_in l 9 hl
  have ez : τ 89 (τ 100 (nI l).toNatClampNeg).toNatClampNeg = nI z := by rw [cl, e100, nI_clamp (by omega)]; exact e89
  have rf : sfr l τ τ := fun _ _ _ => rfl
  refine ke_129 (kb_129_0 iv (by rw [cl, e100]; exact pk_in r 9 hr) ?_ ?_)
  · rw [ez]
    intro g4
    have z4 : 4 ≤ z := (nI_leI (a := 4) (by omega) (by omega)).mp g4
    have s1 : nI z - 1 = nI (z - 1) := by rw [show (1 : Int32) = nI 1 from rfl]; exact nI_sub (by omega)
    have s2 : nI z - 2 = nI (z - 2) := by rw [show (2 : Int32) = nI 2 from rfl]; exact nI_sub (by omega)
    have s3 : nI z - 3 = nI (z - 3) := by rw [show (3 : Int32) = nI 3 from rfl]; exact nI_sub (by omega)
    refine kb_129_19 iv (fun e => kb_129_29 iv iv iv iv ?_) (fun e => ?_)
    · rw [cl] at e ⊢
      refine q1 _ 0 1 1 1 (sfr_up (sfr_up (sfr_up (sfr_up rf (by omega)) (by omega)) (by omega)) (by omega)) (by omega) (by omega) (by omega) (by omega) (by omega) ⟨?_, ?_, ?_, mm_up_s⟩ (Or.inl e)
      · rw [mm_up_n (by decide), mm_up_n (by decide), mm_up_n (by decide)]; exact mm_up_s
      · rw [mm_up_n (by decide), mm_up_n (by decide)]; exact mm_up_s
      · rw [mm_up_n (by decide)]; exact mm_up_s
    · rw [cl] at e
      obtain ⟨s, a, b, u, hs, ha, hb, hu, hsum, C⟩ := hc.resolve_left e
      obtain ⟨c1, c2, c3, c4⟩ := id C
      -- the end
      have fin : ∀ (π : mm_S) (s' a' b' u' : Nat), sfr l τ π → s' ≤ z → 1 ≤ a' → 1 ≤ b' → 1 ≤ u' → a' + b' + u' + 1 ≤ z → CU π l s' a' b' u' → cdv s a b u < cdv s' a' b' u' → mw d mt_129 Q 177 [some (.ref 10), some (.int (nI l)), some (.int (nI z))] [] π := fun π s' a' b' u' f h1 h2 h3 h4 h5 C' hlt => by
        refine kb_129_177 iv (fun _ => kb_129_191 (q0 π f)) (fun g => kb_129_187 (q1 π s' a' b' u' f ?_ h2 h3 h4 h5 C' (Or.inr ⟨s, a, b, u, C, hs, ha, hb, hu, hsum, hlt⟩)))
        rw [cl, C'.1] at g
        rcases Nat.lt_or_ge s' z with y | y
        · exact y
        · exact absurd (hI_le (by omega) y) g
      have third : ∀ (π : mm_S) (a' b' u' : Nat), sfr l τ π → 1 ≤ a' → 1 ≤ b' → 1 ≤ u' → a' + b' + u' + 1 ≤ z → CU π l s a' b' u' → cdv s a b u < cdv s a' b' u' → mw d mt_129 Q 148 [some (.ref 10), some (.int (nI l)), some (.int (nI z))] [] π := fun π a' b' u' f h2 h3 h4 h5 C' hlt => by
        refine kb_129_148 iv (fun _ => fin π s a' b' u' f (by omega) h2 h3 h4 h5 C' hlt) (fun g => absurd ?_ g)
        rw [cl, C'.2.1, s3]; exact hI_le (by omega) (by omega)
      have e104 : τ 104 (nI l).toNatClampNeg + 1 = nI (u + 1) := by rw [cl, c4, nI_1]
      refine kb_129_59 iv iv iv iv iv ?_ ?_
      · rw [cl, c4, nI_1, mm_up_s, mm_up_n (by decide), mm_up_n (by decide), c2, c3, s1, nI_sub (by omega), nI_sub (by omega)]
        intro g
        have le : u + 1 ≤ z - 1 - a - b := (nI_leI (by omega) (by omega)).mp g
        have C1 : CU (mm_up τ 104 l (nI (u + 1))) l s a b (u + 1) := ⟨by rw [mm_up_n (by decide)]; exact c1, by rw [mm_up_n (by decide)]; exact c2, by rw [mm_up_n (by decide)]; exact c3, mm_up_s⟩
        have f1 : sfr l τ (mm_up τ 104 l (nI (u + 1))) := sfr_up rf (by omega)
        refine kb_129_112 iv iv (fun _ => third _ a b (u + 1) f1 ha hb (by omega) (by omega) C1 (by unfold cdv; omega)) (fun g' => absurd ?_ g')
        rw [cl, C1.2.2.1, C1.2.1, s2, nI_sub (by omega)]; exact hI_le (by omega) (by omega)
      · rw [cl, c4, nI_1, mm_up_s, mm_up_n (by decide), mm_up_n (by decide), c2, c3, s1, nI_sub (by omega), nI_sub (by omega)]
        intro g
        have gt : z - 1 - a - b < u + 1 := by
          rcases Nat.lt_or_ge (z - 1 - a - b) (u + 1) with y | y
          · exact y
          · exact absurd (hI_le (by omega) y) g
        refine kb_129_95 iv iv iv iv iv ?_ ?_
        · rw [cl]
          have x103 : (mm_up (mm_up τ 104 l (nI (u + 1))) 104 l 1) 103 l = nI b := by rw [mm_up_n (by decide), mm_up_n (by decide)]; exact c3
          rw [x103, nI_1, mm_up_s]
          have x102 : (mm_up (mm_up (mm_up τ 104 l (nI (u + 1))) 104 l 1) 103 l (nI (b + 1))) 102 l = nI a := by rw [mm_up_n (by decide), mm_up_n (by decide), mm_up_n (by decide)]; exact c2
          rw [x102, s2, nI_sub (by omega)]
          intro g'
          have le : b + 1 ≤ z - 2 - a := (nI_leI (by omega) (by omega)).mp g'
          refine third _ a (b + 1) 1 (sfr_up (sfr_up (sfr_up rf (by omega)) (by omega)) (by omega)) ha (by omega) (by omega) (by omega) ⟨?_, x102, mm_up_s, ?_⟩ (by unfold cdv; omega)
          · rw [mm_up_n (by decide), mm_up_n (by decide), mm_up_n (by decide)]; exact c1
          · rw [mm_up_n (by decide)]; exact mm_up_s
        · rw [cl]
          have x103 : (mm_up (mm_up τ 104 l (nI (u + 1))) 104 l 1) 103 l = nI b := by rw [mm_up_n (by decide), mm_up_n (by decide)]; exact c3
          rw [x103, nI_1, mm_up_s]
          have x102 : (mm_up (mm_up (mm_up τ 104 l (nI (u + 1))) 104 l 1) 103 l (nI (b + 1))) 102 l = nI a := by rw [mm_up_n (by decide), mm_up_n (by decide), mm_up_n (by decide)]; exact c2
          have x101 : (mm_up (mm_up (mm_up τ 104 l (nI (u + 1))) 104 l 1) 103 l (nI (b + 1))) 101 l = nI s := by rw [mm_up_n (by decide), mm_up_n (by decide), mm_up_n (by decide)]; exact c1
          have x104 : (mm_up (mm_up (mm_up τ 104 l (nI (u + 1))) 104 l 1) 103 l (nI (b + 1))) 104 l = 1 := by rw [mm_up_n (by decide)]; exact mm_up_s
          have fx : sfr l τ (mm_up (mm_up (mm_up τ 104 l (nI (u + 1))) 104 l 1) 103 l (nI (b + 1))) := sfr_up (sfr_up (sfr_up rf (by omega)) (by omega)) (by omega)
          rw [x102]
          generalize mm_up (mm_up (mm_up τ 104 l (nI (u + 1))) 104 l 1) 103 l (nI (b + 1)) = π at *
          intro _
          have y102 : (mm_up π 103 l 1) 102 l = nI a := by rw [mm_up_n (by decide)]; exact x102
          refine kb_129_131 iv iv iv iv ?_ ?_
          · rw [cl, y102, nI_1, mm_up_s, s3]
            intro g'
            have le : a + 1 ≤ z - 3 := (nI_leI (by omega) (by omega)).mp g'
            refine fin _ s (a + 1) 1 1 (sfr_up (sfr_up fx (by omega)) (by omega)) (by omega) (by omega) (by omega) (by omega) (by omega) ⟨?_, mm_up_s, ?_, ?_⟩ (by unfold cdv; omega)
            · rw [mm_up_n (by decide), mm_up_n (by decide)]; exact x101
            · rw [mm_up_n (by decide)]; exact mm_up_s
            · rw [mm_up_n (by decide), mm_up_n (by decide)]; exact x104
          · rw [cl, y102, nI_1, mm_up_s, s3]
            intro _
            have w101 : (mm_up (mm_up (mm_up π 103 l 1) 102 l (nI (a + 1))) 102 l 1) 101 l = nI s := by rw [mm_up_n (by decide), mm_up_n (by decide), mm_up_n (by decide)]; exact x101
            refine kb_129_160 iv iv iv iv ?_ ?_
            · rw [cl, w101, nI_1, mm_up_s]
              exact fun _ => kb_129_191 (q0 _ (sfr_up (sfr_up (sfr_up (sfr_up fx (by omega)) (by omega)) (by omega)) (by omega)))
            · rw [cl, w101, nI_1, mm_up_s]
              intro g'
              have lt : s + 1 < z := by
                rcases Nat.lt_or_ge (s + 1) z with y | y
                · exact y
                · exact absurd (hI_le (by omega) y) g'
              refine kb_129_187 (q1 _ (s + 1) 1 1 1 (sfr_up (sfr_up (sfr_up (sfr_up fx (by omega)) (by omega)) (by omega)) (by omega)) lt (by omega) (by omega) (by omega) (by omega) ⟨mm_up_s, ?_, ?_, ?_⟩ (Or.inr ⟨s, a, b, u, C, hs, ha, hb, hu, hsum, by unfold cdv; omega⟩))
              · rw [mm_up_n (by decide)]; exact mm_up_s
              · rw [mm_up_n (by decide), mm_up_n (by decide), mm_up_n (by decide)]; exact mm_up_s
              · rw [mm_up_n (by decide), mm_up_n (by decide), mm_up_n (by decide), mm_up_n (by decide)]; exact x104
  · rw [ez]
    exact fun _ => kb_129_17 (q0 τ rf)
theorem c_130 {d n l : Nat} {Q : mm_Q} {τ : mm_S} (hn : n ≤ 21) (e6 : τ 10 6 = nI n) (hl : l < 9) (q : ∀ τ', (∀ c, c ≠ 94 → c ≠ 105 → τ' c = τ c) → Q none τ') : mD (d + 1) 130 [.ref 10, .int (nI l)] τ Q := by
  refine ke_130 (kb_130_0 ?_)
  refine lp_dn (P := fun k => ∀ ρ : mm_S, (∀ c, c ≠ 94 → c ≠ 105 → ρ c = τ c) → mw d mt_130 Q 2 [some (.ref 10), some (.int (nI l)), some (.int (nI k))] [] ρ) n ?_ ?_ 0 (Nat.zero_le n) τ (fun _ _ _ => rfl)
  · intro ρ fr
    exact kb_130_2 (fun _ => kb_130_37 (pk_in l 9 hl) (q _ (fun c h1 h2 => by rw [mm_up_n h2]; exact fr c h1 h2))) (fun g => absurd (by rw [fr 10 (by decide) (by decide), e6]; exact hI_le (by omega) (Nat.le_refl n)) g)
  · intro k hk ih ρ fr
    exact kb_130_2 (fun g => absurd g (by rw [fr 10 (by decide) (by decide), e6]; exact hI_nle (by omega) hk)) (fun _ => kb_130_10 (pk_in l 9 hl) (fun _ => kb_130_24 (pk_in k 21 (by omega)) (by rw [nI_1]; exact ih _ (fun c h1 h2 => by rw [mm_up_n h1]; exact fr c h1 h2))) (fun _ => kb_130_31 (by rw [nI_1]; exact ih ρ fr)))
theorem c_133 {d n : Nat} {Q : mm_Q} {τ : mm_S} (hn : n ≤ 21) (e6 : τ 10 6 = nI n) (q : ∀ x, x = 0 ∨ x = 1 → Q (some (.int x)) τ) : mD (d + 1) 133 [.ref 10] τ Q := by
  refine ke_133 (kb_133_0 ?_)
  have en : ∀ x1, mw d mt_133 Q 71 [some (.ref 10), some (.int x1)] [] τ := fun x1 => kb_133_71 (fun _ => kb_133_78 (q 1 (Or.inr rfl))) (fun _ => kb_133_82 (q 0 (Or.inl rfl)))
  refine lp_dn (P := fun k => mw d mt_133 Q 2 [some (.ref 10), some (.int (nI k))] [] τ) n ?_ ?_ 0 (Nat.zero_le n)
  · exact kb_133_2 (fun _ => en _) (fun g => absurd (by rw [e6]; exact hI_le (by omega) (Nat.le_refl n)) g)
  · intro k hk ih
    have iv : vp_in (nI k) 21 := pk_in k 21 (by omega)
    exact kb_133_2 (fun g => absurd g (by rw [e6]; exact hI_nle (by omega) hk)) (fun _ => kb_133_10 (fun _ => en _) (fun _ => kb_133_17 iv (fun _ => kb_133_27 (q 1 (Or.inr rfl))) (fun _ => kb_133_29 iv iv (fun _ => kb_133_65 (by rw [nI_1]; exact ih)) (fun _ => kb_133_44 iv iv (fun _ => kb_133_63 (q 0 (Or.inl rfl))) (fun _ => kb_133_59 (q 1 (Or.inr rfl)))))))
theorem c_134 {d n : Nat} {Q : mm_Q} {τ : mm_S} (hn : n ≤ 21) (e6 : τ 10 6 = nI n) (q : ∀ τ', (∀ c, c ≠ 10 → c ≠ 95 → τ' c = τ c) → (∀ j, j ≠ 29 → τ' 10 j = τ 10 j) → Q none τ') : mD (d + 2) 134 [.ref 10] τ Q := by
  refine ke_134 (kb_134_0 (c_133 hn e6 (fun x _ => kb_134_4 (fun _ => kb_134_7 (q τ (fun _ _ _ => rfl) (fun _ _ => rfl))) (fun _ => kb_134_8 ?_))))
  refine lp_dn (P := fun k => ∀ ρ : mm_S, (∀ c, c ≠ 10 → c ≠ 95 → ρ c = τ c) → (∀ j, j ≠ 29 → ρ 10 j = τ 10 j) → mw (d + 1) mt_134 Q 15 [some (.ref 10), some (.int (nI k))] [] ρ) n ?_ ?_ 0 (Nat.zero_le n) _ (fun c h _ => mm_up_n h) (fun j hj => mm_up_o hj)
  · intro ρ f1 f2
    exact kb_134_15 (fun _ => kb_134_41 (q ρ f1 f2)) (fun g => absurd (by rw [f2 6 (by decide), e6]; exact hI_le (by omega) (Nat.le_refl n)) g)
  · intro k hk ih ρ f1 f2
    refine kb_134_15 (fun g => absurd g (by rw [f2 6 (by decide), e6]; exact hI_nle (by omega) hk)) (fun _ => kb_134_23 (pk_in k 21 (by omega)) (pk_in k 21 (by omega)) ?_)
    rw [nI_1]
    exact ih _ (fun c h1 h2 => by rw [mm_up_n h2]; exact f1 c h1 h2) (fun j hj => by rw [mm_up_n (by decide)]; exact f2 j hj)
theorem c_132 {d n l r z s : Nat} {Q : mm_Q} {τ : mm_S} (hn : n ≤ 21) (hl : l < 9) (hr : r < 9) (e100 : τ 100 l = nI r) (R : RZ τ n r z) (z16 : z ≤ 16) (hs : s < z) (e101 : τ 101 l = nI s)
    (q : ∀ x τ', x = 0 ∨ x = 1 → (∀ c, c ≠ 94 → c ≠ 105 → τ' c = τ c) → Q (some (.int x)) τ') : mD (d + 2) 132 [.ref 10, .int (nI l)] τ Q := by
  have cl : (nI l).toNatClampNeg = l := nI_clamp (by omega)
  have iv := pk_in l 9 hl
  refine ke_132 (kb_132_0 iv (by rw [cl, e100]; exact pk_in r 9 hr) ?_)
  rw [cl, e100, nI_clamp (show r < 2 ^ 31 by omega), R.1]
  refine lp_dn (P := fun i => ∀ ρ : mm_S, (∀ c, c ≠ 94 → c ≠ 105 → ρ c = τ c) → ∀ o5 o6 o7, mw (d + 1) mt_132 Q 17 [some (.ref 10), some (.int (nI l)), some (.int (nI r)), some (.int (nI z)), some (.int (nI i)), o5, o6, o7] [] ρ) z ?_ ?_ 0 (Nat.zero_le z) τ (fun _ _ _ => rfl) none none none
  · intro ρ fr o5 o6 o7
    exact kb_132_17 (fun _ => kb_132_198 (q 1 ρ (Or.inr rfl) fr)) (fun g => absurd (hI_le (by omega) (Nat.le_refl z)) g)
  · intro i hi ih ρ fr o5 o6 o7
    have ex : (16 : Int32) * nI r + (ρ 101 (nI l).toNatClampNeg + nI i - (ρ 101 (nI l).toNatClampNeg + nI i) / nI z * nI z) = nI (16 * r + (s + i) % z) := by
      rw [cl, fr 101 (by decide) (by decide), e101, nI_add, rem_n0 z (by omega) (by omega) _ (by omega), nI_16]
    have ml : (s + i) % z < z := Nat.mod_lt _ (by omega)
    have skip : ∀ x5 x6 o7 (ρ : mm_S), (∀ c, c ≠ 94 → c ≠ 105 → ρ c = τ c) → mw (d + 1) mt_132 Q 192 [some (.ref 10), some (.int (nI l)), some (.int (nI r)), some (.int (nI z)), some (.int (nI i)), some (.int x5), some (.int x6), o7] [] ρ := fun x5 x6 o7 ρ f => kb_132_192 (by rw [nI_1]; exact ih ρ f _ _ _)
    have side : ∀ x5 x6 o7, mw (d + 1) mt_132 Q 122 [some (.ref 10), some (.int (nI l)), some (.int (nI r)), some (.int (nI z)), some (.int (nI i)), some (.int x5), some (.int x6), o7] [] ρ := fun x5 x6 o7 => kb_132_122 (c_127 (kb_132_127 (fun _ => skip _ _ _ ρ fr) (fun _ => kb_132_132 (q 0 ρ (Or.inl rfl) fr))))
    have join : ∀ k x6 o7, k < n → mw (d + 1) mt_132 Q 134 [some (.ref 10), some (.int (nI l)), some (.int (nI r)), some (.int (nI z)), some (.int (nI i)), some (.int (nI k)), some (.int x6), o7] [] ρ := fun k x6 o7 hk => by
      have ik : vp_in (nI k) 21 := pk_in k 21 (by omega)
      refine kb_132_134 (c_128 ik (kb_132_143 ik (fun _ => kb_132_156 ik iv iv ik (fun _ => skip _ _ _ _ ?_) (fun _ => kb_132_190 (q 0 _ (Or.inl rfl) ?_))) (fun _ => kb_132_178 ik (fun _ => skip _ _ _ ρ fr) (fun _ => kb_132_190 (q 0 ρ (Or.inl rfl) fr)))))
      · exact fun c h1 h2 => by rw [mm_up_n h2, mm_up_n h1]; exact fr c h1 h2
      · exact fun c h1 h2 => by rw [mm_up_n h2, mm_up_n h1]; exact fr c h1 h2
    have pick : ∀ (o7 : Option Value) (w : Nat), (w < n ∨ ∃ t, t < 4 ∧ w = 41 + t) → (∀ x6 : Int32, (nI w < (21 : Int32) → mw (d + 1) mt_132 Q 134 [some (.ref 10), some (.int (nI l)), some (.int (nI r)), some (.int (nI z)), some (.int (nI i)), some (.int (nI w)), some (.int x6), o7] [] ρ) ∧ (¬ nI w < (21 : Int32) → mw (d + 1) mt_132 Q 122 [some (.ref 10), some (.int (nI l)), some (.int (nI r)), some (.int (nI z)), some (.int (nI i)), some (.int (nI w)), some (.int x6), o7] [] ρ)) := fun o7 w hw x6 => by
      refine ⟨fun g => ?_, fun _ => side _ _ _⟩
      rcases hw with h | ⟨t, ht, h⟩
      · exact join w x6 o7 h
      · subst h
        exact absurd g (nI_nlt (a := 41 + t) (b := 21) (by omega) (by omega))
    obtain ⟨w, hw, ew⟩ : ∃ w, (w < n ∨ ∃ t, t < 4 ∧ w = 41 + t) ∧ τ 90 (16 * r + (s + i) % z) = nI w := by
      rcases R.2 _ ml with ⟨k, h1, h2⟩ | ⟨t, h1, h2⟩
      · exact ⟨k, Or.inl h1, h2⟩
      · exact ⟨41 + t, Or.inr ⟨t, h1, rfl⟩, h2⟩
    have e90 : ρ 90 ((16 : Int32) * nI r + (ρ 101 (nI l).toNatClampNeg + nI i - (ρ 101 (nI l).toNatClampNeg + nI i) / nI z * nI z)).toNatClampNeg = nI w := by
      rw [ex, nI_clamp (by omega), fr 90 (by decide) (by decide)]; exact ew
    have P := fun o7 => pick o7 w hw
    refine kb_132_17 (fun g => absurd g (hI_nle (by omega) hi)) (fun _ => kb_132_23 iv (nI_ne0 (by omega) (by omega)) (by rw [ex]; exact pk_in (16 * r + (s + i) % z) 144 (by omega)) iv ?_ ?_)
    · rw [e90]
      exact fun _ => kb_132_61 iv iv (fun _ => kb_132_83 iv iv iv (fun _ => kb_132_112 (P _ 3).1 (P _ 3).2) (fun _ => kb_132_108 (P _ 2).1 (P _ 2).2)) (fun _ => kb_132_79 (P _ 1).1 (P _ 1).2)
    · rw [e90]
      exact fun _ => kb_132_57 (P _ 0).1 (P _ 0).2
end
section
/-! the reference: search ends -/
def SI (τ0 τ : mm_S) : Prop := (∀ c, c ≠ 10 → c ≠ 94 → c ≠ 95 → (c < 101 ∨ 105 < c) → τ c = τ0 c) ∧ ∀ j, j ≠ 29 → τ 10 j = τ0 10 j
/-- the cut at level l: none, or one of the ring's -/
def CV (τ : mm_S) (l z : Nat) : Prop := τ 101 l = -1 ∨ ∃ s a b u, s < z ∧ 1 ≤ a ∧ 1 ≤ b ∧ 1 ≤ u ∧ a + b + u + 1 ≤ z ∧ CU τ l s a b u
/-- at most k cuts are left at level l -/
def RM (τ : mm_S) (l z k : Nat) : Prop := (τ 101 l = -1 ∧ 70000 ≤ k) ∨ ∃ s a b u, s < z ∧ 1 ≤ a ∧ 1 ≤ b ∧ 1 ≤ u ∧ a + b + u + 1 ≤ z ∧ CU τ l s a b u ∧ 69999 ≤ cdv s a b u + k
/-- the levels below l have the same cuts -/
def LB (l : Nat) (τ τ' : mm_S) : Prop := ∀ c i, 101 ≤ c → c ≤ 104 → i < l → τ' c i = τ c i
theorem c_131s {d n lv : Nat} {Q : mm_Q} {τ0 : mm_S} (hn : n ≤ 21) (e6 : τ0 10 6 = nI n) (lv9 : lv ≤ 9) (e37 : τ0 10 37 = nI lv) (rm : ∀ l, l < lv → ∃ r, r < 9 ∧ τ0 100 l = nI r) (R : RG τ0 n) :
    ∀ (e l : Nat) (τ : mm_S), l + e + 1 = lv → SI τ0 τ → τ 101 l = -1 → (∀ τ', SI τ0 τ' → LB l τ τ' → mw (d + 2) mt_131 Q 70 [some (.ref 10), some (.int (nI l + (-1)))] [] τ') → mw (d + 2) mt_131 Q 70 [some (.ref 10), some (.int (nI l))] [] τ := by
  intro e
  induction e with
  | zero =>
    intro l τ hl I hnone K
    obtain ⟨r, r9, e100⟩ := rm l (by omega)
    obtain ⟨z, z16, RZz⟩ := R r r9
    -- over the cuts that are left
    have inner : ∀ k (τ1 : mm_S), SI τ0 τ1 → LB l τ τ1 → CV τ1 l z → RM τ1 l z k → mw (d + 2) mt_131 Q 70 [some (.ref 10), some (.int (nI l))] [] τ1 := by
      intro k
      induction k with
      | zero =>
        intro τ1 I1 B1 V1 hR
        rcases hR with ⟨_, h⟩ | ⟨s, a, b, u, h1, h2, h3, h4, h5, _, h6⟩
        · omega
        · unfold cdv at h6; omega
      | succ k ih =>
        intro τ1 I1 B1 V1 hR
        have x6 : τ1 10 6 = nI n := by rw [I1.2 6 (by decide)]; exact e6
        refine kb_131_70 (fun g => absurd g (nI_pos (by omega))) (fun _ => kb_131_74 (c_130 hn x6 (by omega) (fun τ2 f2 => kb_131_79 ?_)))
        have I2 : SI τ0 τ2 := ⟨fun c h1 h2 h3 h4 => by rw [f2 c h2 (by omega)]; exact I1.1 c h1 h2 h3 h4, fun j hj => by rw [f2 10 (by decide) (by decide)]; exact I1.2 j hj⟩
        have y100 : τ2 100 l = nI r := by rw [I2.1 100 (by decide) (by decide) (by decide) (by omega)]; exact e100
        have y89 : τ2 89 r = nI z := by rw [I2.1 89 (by decide) (by decide) (by decide) (by omega)]; exact RZz.1
        have c2 : ∀ c i, 101 ≤ c → c ≤ 104 → τ2 c i = τ1 c i := fun c i h1 h2 => by rw [f2 c (by omega) (by omega)]
        have V2 : τ2 101 l = -1 ∨ ∃ s a b u, s < z ∧ 1 ≤ a ∧ 1 ≤ b ∧ 1 ≤ u ∧ a + b + u + 1 ≤ z ∧ CU τ2 l s a b u := by
          rcases V1 with h | ⟨s, a, b, u, h1, h2, h3, h4, h5, C⟩
          · exact Or.inl (by rw [c2 101 l (by omega) (by omega)]; exact h)
          · refine Or.inr ⟨s, a, b, u, h1, h2, h3, h4, h5, ?_⟩
            unfold CU
            rw [c2 101 l (by omega) (by omega), c2 102 l (by omega) (by omega), c2 103 l (by omega) (by omega), c2 104 l (by omega) (by omega)]
            exact C
        refine c_129 (by omega) r9 y100 y89 z16 V2 (fun τ3 f3 => kb_131_84 (fun _ => kb_131_87 ?_) (fun g => absurd rfl g)) (fun τ3 s a b u f3 hs ha hb hu hsum C3 hcd => kb_131_84 (fun g => absurd g (by decide)) (fun _ => kb_131_93 ?_))
        · refine K τ3 ⟨fun c h1 h2 h3 h4 => ?_, fun j hj => ?_⟩ (fun c i h1 h2 h3 => ?_)
          · funext x; rw [f3 c x (by omega)]; exact congrFun (I2.1 c h1 h2 h3 h4) x
          · rw [f3 10 j (by omega)]; exact I2.2 j hj
          · rw [f3 c i (by omega), c2 c i h1 h2]; exact B1 c i h1 h2 h3
        · have I3 : SI τ0 τ3 := ⟨fun c h1 h2 h3 h4 => by funext x; rw [f3 c x (by omega)]; exact congrFun (I2.1 c h1 h2 h3 h4) x, fun j hj => by rw [f3 10 j (by omega)]; exact I2.2 j hj⟩
          have B3 : LB l τ τ3 := fun c i h1 h2 h3 => by rw [f3 c i (by omega), c2 c i h1 h2]; exact B1 c i h1 h2 h3
          have k3 : ∀ c, c ≠ 10 → c ≠ 94 → c ≠ 95 → (c < 101 ∨ 105 < c) → τ3 c = τ0 c := I3.1
          -- the cuts that are left behind this one
          have rest : ∀ τ4 : mm_S, (∀ c, 101 ≤ c → c ≤ 104 → τ4 c = τ3 c) → CV τ4 l z ∧ RM τ4 l z k := fun τ4 h4 => by
            have C4 : CU τ4 l s a b u := by unfold CU; rw [h4 101 (by omega) (by omega), h4 102 (by omega) (by omega), h4 103 (by omega) (by omega), h4 104 (by omega) (by omega)]; exact C3
            refine ⟨Or.inr ⟨s, a, b, u, hs, ha, hb, hu, hsum, C4⟩, Or.inr ⟨s, a, b, u, hs, ha, hb, hu, hsum, C4, ?_⟩⟩
            rcases hcd with hcd | ⟨s0, a0, b0, u0, C0, hs0, ha0, hb0, hu0, hsum0, hlt⟩
            · rcases hR with ⟨_, h⟩ | ⟨s', a', b', u', _, _, _, _, _, C', _⟩
              · unfold cdv; omega
              · rw [c2 101 l (by omega) (by omega), C'.1] at hcd
                exact absurd hcd (nI_m1 (by omega))
            · rcases hR with ⟨h, _⟩ | ⟨s', a', b', u', p1, p2, p3, p4, p5, C', h⟩
              · have := C0.1
                rw [c2 101 l (by omega) (by omega), h] at this
                exact absurd this.symm (nI_m1 (by omega))
              · unfold CU at C0 C'
                rw [c2 101 l (by omega) (by omega), c2 102 l (by omega) (by omega), c2 103 l (by omega) (by omega), c2 104 l (by omega) (by omega)] at C0
                have q1 := (nI_eq (by omega) (by omega)).mp (C'.1.symm.trans C0.1)
                have q2 := (nI_eq (by omega) (by omega)).mp (C'.2.1.symm.trans C0.2.1)
                have q3 := (nI_eq (by omega) (by omega)).mp (C'.2.2.1.symm.trans C0.2.2.1)
                have q4 := (nI_eq (by omega) (by omega)).mp (C'.2.2.2.symm.trans C0.2.2.2)
                subst q1; subst q2; subst q3; subst q4
                omega
          have again : ∀ τ4 : mm_S, SI τ0 τ4 → LB l τ τ4 → (∀ c, 101 ≤ c → c ≤ 104 → τ4 c = τ3 c) → mw (d + 2) mt_131 Q 70 [some (.ref 10), some (.int (nI l))] [] τ4 := fun τ4 I4 B4 h4 => ih τ4 I4 B4 (rest τ4 h4).1 (rest τ4 h4).2
          refine c_132 hn (by omega) r9 (by rw [k3 100 (by decide) (by decide) (by decide) (by omega)]; exact e100) (z := z) ⟨by rw [k3 89 (by decide) (by decide) (by decide) (by omega)]; exact RZz.1, fun i hi => by rw [k3 90 (by decide) (by decide) (by decide) (by omega)]; exact RZz.2 i hi⟩ z16 hs C3.1 (fun x τ4 hx f4 => ?_)
          have I4 : SI τ0 τ4 := ⟨fun c h1 h2 h3 h4 => by rw [f4 c h2 (by omega)]; exact I3.1 c h1 h2 h3 h4, fun j hj => by rw [f4 10 (by decide) (by decide)]; exact I3.2 j hj⟩
          have g4 : ∀ c, 101 ≤ c → c ≤ 104 → τ4 c = τ3 c := fun c h1 h2 => f4 c (by omega) (by omega)
          have B4 : LB l τ τ4 := fun c i h1 h2 h3 => by rw [g4 c h1 h2]; exact B3 c i h1 h2 h3
          refine kb_131_98 (fun _ => again τ4 I4 B4 g4) (fun _ => kb_131_101 (c_133 hn (by rw [I4.2 6 (by decide)]; exact e6) (fun y _ => kb_131_105 (fun _ => again τ4 I4 B4 g4) (fun _ => kb_131_108 (fun _ => kb_131_118 ?_) (fun g => absurd ?_ g)))))
          · refine c_134 hn (by rw [I4.2 6 (by decide)]; exact e6) (fun τ5 f5 f5' => kb_131_122 (again τ5 ⟨fun c h1 h2 h3 h4 => by rw [f5 c h1 h3]; exact I4.1 c h1 h2 h3 h4, fun j hj => by rw [f5' j hj]; exact I4.2 j hj⟩ (fun c i h1 h2 h3 => by rw [f5 c (by omega) (by omega)]; exact B4 c i h1 h2 h3) (fun c h1 h2 => by rw [f5 c (by omega) (by omega)]; exact g4 c h1 h2)))
          · rw [nI_1, I4.2 37 (by decide), e37, show l + 1 = lv by omega]
    exact inner 70000 τ I (fun _ _ _ _ _ => rfl) (Or.inl hnone) (Or.inl ⟨hnone, Nat.le_refl _⟩)
  | succ e ihe =>
    intro l τ hl I hnone K
    obtain ⟨r, r9, e100⟩ := rm l (by omega)
    obtain ⟨z, z16, RZz⟩ := R r r9
    have inner : ∀ k (τ1 : mm_S), SI τ0 τ1 → LB l τ τ1 → CV τ1 l z → RM τ1 l z k → mw (d + 2) mt_131 Q 70 [some (.ref 10), some (.int (nI l))] [] τ1 := by
      intro k
      induction k with
      | zero =>
        intro τ1 I1 B1 V1 hR
        rcases hR with ⟨_, h⟩ | ⟨s, a, b, u, h1, h2, h3, h4, h5, _, h6⟩
        · omega
        · unfold cdv at h6; omega
      | succ k ih =>
        intro τ1 I1 B1 V1 hR
        have x6 : τ1 10 6 = nI n := by rw [I1.2 6 (by decide)]; exact e6
        refine kb_131_70 (fun g => absurd g (nI_pos (by omega))) (fun _ => kb_131_74 (c_130 hn x6 (by omega) (fun τ2 f2 => kb_131_79 ?_)))
        have I2 : SI τ0 τ2 := ⟨fun c h1 h2 h3 h4 => by rw [f2 c h2 (by omega)]; exact I1.1 c h1 h2 h3 h4, fun j hj => by rw [f2 10 (by decide) (by decide)]; exact I1.2 j hj⟩
        have y100 : τ2 100 l = nI r := by rw [I2.1 100 (by decide) (by decide) (by decide) (by omega)]; exact e100
        have y89 : τ2 89 r = nI z := by rw [I2.1 89 (by decide) (by decide) (by decide) (by omega)]; exact RZz.1
        have c2 : ∀ c i, 101 ≤ c → c ≤ 104 → τ2 c i = τ1 c i := fun c i h1 h2 => by rw [f2 c (by omega) (by omega)]
        have V2 : τ2 101 l = -1 ∨ ∃ s a b u, s < z ∧ 1 ≤ a ∧ 1 ≤ b ∧ 1 ≤ u ∧ a + b + u + 1 ≤ z ∧ CU τ2 l s a b u := by
          rcases V1 with h | ⟨s, a, b, u, h1, h2, h3, h4, h5, C⟩
          · exact Or.inl (by rw [c2 101 l (by omega) (by omega)]; exact h)
          · refine Or.inr ⟨s, a, b, u, h1, h2, h3, h4, h5, ?_⟩
            unfold CU
            rw [c2 101 l (by omega) (by omega), c2 102 l (by omega) (by omega), c2 103 l (by omega) (by omega), c2 104 l (by omega) (by omega)]
            exact C
        refine c_129 (by omega) r9 y100 y89 z16 V2 (fun τ3 f3 => kb_131_84 (fun _ => kb_131_87 ?_) (fun g => absurd rfl g)) (fun τ3 s a b u f3 hs ha hb hu hsum C3 hcd => kb_131_84 (fun g => absurd g (by decide)) (fun _ => kb_131_93 ?_))
        · refine K τ3 ⟨fun c h1 h2 h3 h4 => ?_, fun j hj => ?_⟩ (fun c i h1 h2 h3 => ?_)
          · funext x; rw [f3 c x (by omega)]; exact congrFun (I2.1 c h1 h2 h3 h4) x
          · rw [f3 10 j (by omega)]; exact I2.2 j hj
          · rw [f3 c i (by omega), c2 c i h1 h2]; exact B1 c i h1 h2 h3
        · have I3 : SI τ0 τ3 := ⟨fun c h1 h2 h3 h4 => by funext x; rw [f3 c x (by omega)]; exact congrFun (I2.1 c h1 h2 h3 h4) x, fun j hj => by rw [f3 10 j (by omega)]; exact I2.2 j hj⟩
          have B3 : LB l τ τ3 := fun c i h1 h2 h3 => by rw [f3 c i (by omega), c2 c i h1 h2]; exact B1 c i h1 h2 h3
          have k3 : ∀ c, c ≠ 10 → c ≠ 94 → c ≠ 95 → (c < 101 ∨ 105 < c) → τ3 c = τ0 c := I3.1
          have rest : ∀ τ4 : mm_S, (∀ c, 101 ≤ c → c ≤ 104 → τ4 c l = τ3 c l) → CV τ4 l z ∧ RM τ4 l z k := fun τ4 h4 => by
            have C4 : CU τ4 l s a b u := by unfold CU; rw [h4 101 (by omega) (by omega), h4 102 (by omega) (by omega), h4 103 (by omega) (by omega), h4 104 (by omega) (by omega)]; exact C3
            refine ⟨Or.inr ⟨s, a, b, u, hs, ha, hb, hu, hsum, C4⟩, Or.inr ⟨s, a, b, u, hs, ha, hb, hu, hsum, C4, ?_⟩⟩
            rcases hcd with hcd | ⟨s0, a0, b0, u0, C0, hs0, ha0, hb0, hu0, hsum0, hlt⟩
            · rcases hR with ⟨_, h⟩ | ⟨s', a', b', u', _, _, _, _, _, C', _⟩
              · unfold cdv; omega
              · rw [c2 101 l (by omega) (by omega), C'.1] at hcd
                exact absurd hcd (nI_m1 (by omega))
            · rcases hR with ⟨h, _⟩ | ⟨s', a', b', u', p1, p2, p3, p4, p5, C', h⟩
              · have := C0.1
                rw [c2 101 l (by omega) (by omega), h] at this
                exact absurd this.symm (nI_m1 (by omega))
              · unfold CU at C0 C'
                rw [c2 101 l (by omega) (by omega), c2 102 l (by omega) (by omega), c2 103 l (by omega) (by omega), c2 104 l (by omega) (by omega)] at C0
                have q1 := (nI_eq (by omega) (by omega)).mp (C'.1.symm.trans C0.1)
                have q2 := (nI_eq (by omega) (by omega)).mp (C'.2.1.symm.trans C0.2.1)
                have q3 := (nI_eq (by omega) (by omega)).mp (C'.2.2.1.symm.trans C0.2.2.1)
                have q4 := (nI_eq (by omega) (by omega)).mp (C'.2.2.2.symm.trans C0.2.2.2)
                subst q1; subst q2; subst q3; subst q4
                omega
          have again : ∀ τ4 : mm_S, SI τ0 τ4 → LB l τ τ4 → (∀ c, 101 ≤ c → c ≤ 104 → τ4 c l = τ3 c l) → mw (d + 2) mt_131 Q 70 [some (.ref 10), some (.int (nI l))] [] τ4 := fun τ4 I4 B4 h4 => ih τ4 I4 B4 (rest τ4 h4).1 (rest τ4 h4).2
          refine c_132 hn (by omega) r9 (by rw [k3 100 (by decide) (by decide) (by decide) (by omega)]; exact e100) (z := z) ⟨by rw [k3 89 (by decide) (by decide) (by decide) (by omega)]; exact RZz.1, fun i hi => by rw [k3 90 (by decide) (by decide) (by decide) (by omega)]; exact RZz.2 i hi⟩ z16 hs C3.1 (fun x τ4 hx f4 => ?_)
          have I4 : SI τ0 τ4 := ⟨fun c h1 h2 h3 h4 => by rw [f4 c h2 (by omega)]; exact I3.1 c h1 h2 h3 h4, fun j hj => by rw [f4 10 (by decide) (by decide)]; exact I3.2 j hj⟩
          have g4 : ∀ c, 101 ≤ c → c ≤ 104 → τ4 c = τ3 c := fun c h1 h2 => f4 c (by omega) (by omega)
          have B4 : LB l τ τ4 := fun c i h1 h2 h3 => by rw [g4 c h1 h2]; exact B3 c i h1 h2 h3
          have back : mw (d + 2) mt_131 Q 70 [some (.ref 10), some (.int (nI l))] [] τ4 := again τ4 I4 B4 (fun c h1 h2 => by rw [g4 c h1 h2])
          refine kb_131_98 (fun _ => back) (fun _ => kb_131_101 (c_133 hn (by rw [I4.2 6 (by decide)]; exact e6) (fun y _ => kb_131_105 (fun _ => back) (fun _ => kb_131_108 (fun g => absurd g ?_) (fun _ => kb_131_125 ?_ ?_)))))
          · rw [nI_1, I4.2 37 (by decide), e37]
            exact fun w => absurd ((nI_eq (by omega) (by omega)).mp w) (by omega)
          · rw [nI_1]; exact pk_in (l + 1) 9 (by omega)
          · rw [nI_1, nI_clamp (show l + 1 < 2 ^ 31 by omega)]
            refine ihe (l + 1) _ (by omega) ⟨fun c h1 h2 h3 h4 => by rw [mm_up_n (by omega)]; exact I4.1 c h1 h2 h3 h4, fun j hj => by rw [mm_up_n (by decide)]; exact I4.2 j hj⟩ mm_up_s (fun τ' I' B' => ?_)
            rw [nI_pm]
            have low : ∀ c i, 101 ≤ c → c ≤ 104 → i < l + 1 → τ' c i = τ4 c i := fun c i h1 h2 h3 => by
              rw [B' c i h1 h2 h3]
              by_cases e : c = 101
              · subst e; rw [mm_up_o (by omega)]
              · rw [mm_up_n e]
            exact again τ' I' (fun c i h1 h2 h3 => by rw [low c i h1 h2 (by omega)]; exact B4 c i h1 h2 h3) (fun c h1 h2 => by rw [low c l h1 h2 (by omega), g4 c h1 h2])
    exact inner 70000 τ I (fun _ _ _ _ _ => rfl) (Or.inl hnone) (Or.inl ⟨hnone, Nat.le_refl _⟩)
end
section
-- search ends, the places are found
def SJ (τ0 τ : mm_S) : Prop := (∀ c, c ≠ 10 → c ≠ 94 → c ≠ 95 → (c < 100 ∨ 105 < c) → τ c = τ0 c) ∧ ∀ j, j ≠ 29 → j ≠ 37 → τ 10 j = τ0 10 j
def LV (σ τ : mm_S) (r : Nat) : Prop := (∀ c, c ≠ 10 → c ≠ 100 → c ≠ 105 → τ c = σ c) ∧ (∀ j, j ≠ 37 → τ 10 j = σ 10 j) ∧ ∃ lv, lv ≤ r ∧ τ 10 37 = nI lv ∧ (∀ l, l < lv → ∃ a, a < 9 ∧ τ 100 l = nI a) ∧ ((∃ a, a < r ∧ ¬ σ 75 a = 0) → 1 ≤ lv)
theorem c_131 {d n : Nat} {Q : mm_Q} {σ : mm_S} (hn : n ≤ 21) (e6 : σ 10 6 = nI n) (R : RG σ n) (h1 : ∃ r, r < 9 ∧ ¬ σ 75 r = 0) (q : ∀ τ, SJ σ τ → Q none τ) : mD (d + 3) 131 [.ref 10] σ Q := by
  refine ke_131 (kb_131_0 ?_)
  refine lp_dn (P := fun r => ∀ τ : mm_S, LV σ τ r → mw (d + 2) mt_131 Q 7 [some (.ref 10), some (.int (nI r))] [] τ) 9 ?_ ?_ 0 (by omega) _ ⟨fun c h _ _ => mm_up_n h, fun j hj => mm_up_o hj, 0, Nat.le_refl 0, mm_up_s, fun l hl => absurd hl (by omega), fun ⟨a, ha, _⟩ => absurd ha (by omega)⟩
  · intro τ ⟨f1, f2, lv, lv9, e37, rm, l1⟩
    have lv1 : 1 ≤ lv := l1 h1
    refine kb_131_7 (fun _ => kb_131_61 (pk_in 0 9 (by omega)) ?_) (fun g => absurd (by decide) g)
    have I0 : SI (mm_up τ 101 0 (-1)) (mm_up τ 101 0 (-1)) := ⟨fun _ _ _ _ _ => rfl, fun _ _ => rfl⟩
    refine c_131s (τ0 := mm_up τ 101 0 (-1)) hn (by rw [mm_up_n (by decide), f2 6 (by decide)]; exact e6) lv9 (by rw [mm_up_n (by decide)]; exact e37) (fun l hl => by rw [mm_up_n (by decide)]; exact rm l hl) ?_ (lv - 1) 0 _ (by omega) I0 mm_up_s ?_
    · intro r hr
      obtain ⟨z, hz, ez, hh⟩ := R r hr
      exact ⟨z, hz, by rw [mm_up_n (by decide), f1 89 (by decide) (by decide) (by decide)]; exact ez, fun i hi => by rw [mm_up_n (by decide), f1 90 (by decide) (by decide) (by decide)]; exact hh i hi⟩
    · intro τ' I' _
      refine kb_131_70 (fun _ => kb_131_138 (q τ' ⟨fun c h2 h3 h4 h5 => ?_, fun j h2 h3 => ?_⟩)) (fun g => absurd (by decide) g)
      · rw [I'.1 c h2 h3 h4 (by omega), mm_up_n (by omega)]; exact f1 c h2 (by omega) (by omega)
      · rw [I'.2 j h2, mm_up_n (by decide)]; exact f2 j h3
  · intro r hr ih τ ⟨f1, f2, lv, lvr, e37, rm, l1⟩
    refine kb_131_7 (fun g => absurd g (hI_nle (a := 9) (by omega) hr)) (fun _ => kb_131_13 (pk_in r 9 hr) (fun g => kb_131_22 ?_) (fun g => ?_))
    · rw [nI_1]
      refine ih τ ⟨f1, f2, lv, by omega, e37, rm, fun ⟨a, ha, hz⟩ => ?_⟩
      rcases Nat.lt_or_ge a r with h | h
      · exact l1 ⟨a, h, hz⟩
      · have e : a = r := by omega
        subst e
        rw [nI_clamp (by omega), f1 75 (by decide) (by decide) (by decide)] at g
        exact absurd g hz
    · have v37 : vp_in (τ 10 37) 9 := by rw [e37]; exact pk_in lv 9 (by omega)
      refine kb_131_25 v37 (by rw [mm_up_n (by decide)]; exact v37) ?_
      rw [nI_1]
      have eA : (mm_up (mm_up τ 100 (τ 10 37).toNatClampNeg (nI r)) 105 ((mm_up τ 100 (τ 10 37).toNatClampNeg (nI r)) 10 37).toNatClampNeg 0) 10 37 = nI lv := by
        rw [mm_up_n (by decide), mm_up_n (by decide)]; exact e37
      rw [eA, nI_1]
      refine ih _ ⟨fun c h2 h3 h4 => by rw [mm_up_n h2, mm_up_n h4, mm_up_n h3]; exact f1 c h2 h3 h4, fun j hj => by rw [mm_up_o hj, mm_up_n (by decide), mm_up_n (by decide)]; exact f2 j hj, lv + 1, by omega, mm_up_s, fun l hl => ?_, fun _ => by omega⟩
      rw [mm_up_n (by decide), mm_up_n (by decide), e37, nI_clamp (by omega)]
      rcases Nat.lt_or_ge l lv with h | h
      · rw [mm_up_o (by omega)]; exact rm l h
      · have e : l = lv := by omega
        subst e
        exact ⟨r, hr, mm_up_s⟩
theorem c_136 {d : Nat} {Q : mm_Q} {x1 x2 x3 : Int32} {σ : mm_S} (H1 : vp_in (f_135 x1 x2) 18) (q0 : (σ 96 (f_135 x1 x2).toNatClampNeg) < x3 → Q (none) (mm_up (mm_up σ 96 (f_135 x1 x2).toNatClampNeg x3) 10 44 (1 : Int32))) (q1 : ¬ ((σ 96 (f_135 x1 x2).toNatClampNeg) < x3) → Q (none) σ) : mD (d + 2) 136 [.ref 10, .int x1, .int x2, .int x3] σ Q := ke_136 (kb_136_0 (c_135 (kb_136_9 H1 (fun g0 => (kb_136_15 (c_135 (kb_136_24 H1 (q0 g0))))) (fun g0 => (kb_136_14 (q1 g0))))))
theorem c_137 {d : Nat} {Q : mm_Q} {x1 x2 x3 : Int32} {σ : mm_S} (H1 : vp_in (f_135 x1 x2) 18) (q0 : (σ 97 (f_135 x1 x2).toNatClampNeg) < x3 → Q (none) (mm_up (mm_up σ 97 (f_135 x1 x2).toNatClampNeg x3) 10 44 (1 : Int32))) (q1 : ¬ ((σ 97 (f_135 x1 x2).toNatClampNeg) < x3) → Q (none) σ) : mD (d + 2) 137 [.ref 10, .int x1, .int x2, .int x3] σ Q := ke_137 (kb_137_0 (c_135 (kb_137_9 H1 (fun g0 => (kb_137_15 (c_135 (kb_137_24 H1 (q0 g0))))) (fun g0 => (kb_137_14 (q1 g0))))))
end

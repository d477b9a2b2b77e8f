/-! the reference: findOutline, findFaces -/
def GM (τ : mm_S) (v : Nat) : Prop := ∀ c, c < 42 → (v.testBit c = true ↔ ¬ τ 99 c = 0)
def OM (τ : mm_S) (N : Nat) : Prop := ∀ i, i < N → ∃ r, r < 9 ∧ τ 85 i = nI r
theorem c_109 {d n : Nat} {Q : mm_Q} {σ τ : mm_S} (M : MK σ n) (fr : ∀ c, c ≠ 10 → c ≠ 87 → c ≠ 88 → τ c = σ c) (A : AR σ τ n) (hj : ∀ r, r < 9 → ¬ σ 75 r = 0 → ∃ k, k < n ∧ em σ r k) (h3 : ∃ r, r < 9 ∧ ¬ σ 75 r = 0)
    (q1 : ∀ τ' N, (∀ c, c ≠ 10 → c ≠ 85 → c ≠ 99 → τ' c = τ c) → (∀ j, j ≠ 15 → τ' 10 j = τ 10 j) → 1 ≤ N → N ≤ 42 → τ' 10 15 = nI N → OM τ' N → Q (some (.int 1)) τ')
    (q0 : ∀ τ', (∀ c, c ≠ 10 → c ≠ 85 → c ≠ 99 → τ' c = τ c) → (∀ j, j ≠ 15 → τ' 10 j = τ 10 j) → Q (some (.int 0)) τ') : mD (d + 2) 109 [.ref 10] τ Q := by
  have n21 := M.jn.1
  have e75 : τ 75 = σ 75 := fr 75 (by decide) (by decide) (by decide)
  refine ke_109 (kb_109_0 ?_)
  refine lp_dn (P := fun r => ∀ x, (x = -1 ∧ (∀ i, i < r → σ 75 i = 0) ∨ ∃ s, s < 9 ∧ x = nI s ∧ ¬ σ 75 s = 0) → mw (d + 1) mt_109 Q 4 [some (.ref 10), some (.int x), some (.int (nI r)), none, none, none, none] [] τ) 9 ?_ ?_ 0 (by omega) (-1) (Or.inl ⟨rfl, fun i hi => absurd hi (Nat.not_lt_zero i)⟩)
  · intro x hx
    refine kb_109_4 (fun _ => kb_109_77 ?_) (fun g => absurd (by decide) g)
    obtain ⟨s, s9, es, ds⟩ : ∃ s, s < 9 ∧ x = nI s ∧ ¬ σ 75 s = 0 := by
      rcases hx with ⟨_, h⟩ | h
      · obtain ⟨r, hr, dr⟩ := h3
        exact absurd (h r hr) dr
      · exact h
    subst es
    refine lp_dn (P := fun c => ∀ ρ : mm_S, (∀ c, c ≠ 99 → ρ c = τ c) → (∀ c', c' < c → ρ 99 c' = 0) → mw (d + 1) mt_109 Q 79 [some (.ref 10), some (.int (nI s)), some (.int (nI c)), none, none, none, none] [] ρ) 42 ?_ ?_ 0 (by omega) τ (fun _ _ => rfl) (fun c h => absurd h (Nat.not_lt_zero c))
    · intro ρ f1 z99
      obtain ⟨dg, d8, e87, a1, a2, _⟩ := A s s9
      obtain ⟨k0, hk0, hem0⟩ := hj s s9 ds
      obtain ⟨i0, hi0, _⟩ := a2 k0 hk0 hem0
      obtain ⟨k, hk, hem, e88⟩ := a1 0 (by omega)
      have ex16 : (16 : Int32) * nI s = nI (16 * s) := nI_mul 16 s
      refine kb_109_79 (fun _ => kb_109_98 (by rw [ex16]; exact pk_in (16 * s) 144 (by omega)) ?_) (fun g => absurd (by decide) g)
      rw [ex16, nI_clamp (show 16 * s < 2 ^ 31 by omega), f1 88 (by decide), show 16 * s = 16 * s + 0 from rfl, e88]
      -- the walk
      refine lp_dn (P := fun N => ∀ (ρ : mm_S) (v r k : Nat) (x5 x6 : Int32), (∀ c, c ≠ 85 → c ≠ 99 → ρ c = τ c) → GM ρ v → bc v 42 = N → r < 9 → k < n → em σ r k → OM ρ N → (N = 0 → v = 0) → mw (d + 1) mt_109 Q 119 [some (.ref 10), some (.int (nI s)), some (.int (nI N)), some (.int (nI r)), some (.int (nI k)), some (.int x5), some (.int x6)] [] ρ) 42 ?_ ?_ 0 (by omega) ρ 0 s k 0 0 (fun c _ h2 => f1 c h2) (fun c hc => ⟨fun z => absurd z (by simp), fun z => absurd (z99 c hc) z⟩) (bcz_0 42) s9 hk hem (fun i hi => absurd hi (Nat.not_lt_zero i)) (fun _ => rfl)
      · intro ρ v r k x5 x6 f2 g hv hr hk he om _
        refine kb_109_119 (c_106 (by omega) (kb_109_130 (pk_in (wfn ρ k r) 42 (wfn_lt (by omega))) (fun z => absurd z ?_) (fun _ => ?_)))
        · have hw := wfn_lt (τ := ρ) (k := k) (r := r) (by omega)
          rw [nI_clamp (by omega)]
          exact (g _ hw).mp (bc_full 42 hv _ hw)
        · exact kb_109_207 (fun z => kb_109_217 (fun _ => kb_109_226 (q1 _ 42 (fun c h1 h2 h3 => by rw [mm_up_n h1]; exact f2 c h2 h3) (fun j hj' => by rw [mm_up_o hj', f2 10 (by decide) (by decide)]) (by decide) (by decide) mm_up_s (fun i hi => by rw [mm_up_n (by decide)]; exact om i hi))) (fun y => absurd z y)) (fun z => kb_109_213 (fun y => absurd y z) (fun _ => kb_109_230 (q0 _ (fun c h1 h2 h3 => by rw [mm_up_n h1]; exact f2 c h2 h3) (fun j hj' => by rw [mm_up_o hj', f2 10 (by decide) (by decide)]))))
      · intro N hN ih ρ v r k x5 x6 f2 g hv hr hk he om nz
        have A' : AR σ ρ n := fun r' hr' => by rw [f2 87 (by decide) (by decide), f2 88 (by decide) (by decide)]; exact A r' hr'
        have hw : wfn ρ k r < 42 := wfn_lt (by omega)
        refine kb_109_119 (c_106 (by omega) (kb_109_130 (pk_in _ 42 hw) (fun z => kb_109_134 ?_) (fun z => ?_)))
        · -- onward
          refine c_106 (by omega) ?_
          generalize wfn ρ k r = w at *
          rw [nI_clamp (show w < 2 ^ 31 by omega)] at z
          obtain ⟨o, o9, _, eo, emo, _, _, _⟩ := MK_ot M hk hr he
          have go : ∀ (ρ1 : mm_S) (b : Int32) (v' : Nat), (∀ c, c ≠ 99 → ρ1 c = ρ c) → GM ρ1 v' → bc v' 42 = N + 1 → mD (d + 1) 101 [.ref 10, .int (nI k), .int (nI r)] (mm_up ρ1 85 (nI N).toNatClampNeg (nI r)) (fun u τ => mw (d + 1) mt_109 Q 194 [some (.ref 10), some (.int (nI s)), some (.int (nI N + 1)), some (.int (nI r)), some (.int (nI k)), some (.int (x5 ||| ((1 : Int32) <<< (nI r &&& 31)))), some (.int b)] (u.toList ++ []) τ) := by
            intro ρ1 b v' f3 g' hv'
            have f4 : ∀ c, c ≠ 85 → c ≠ 99 → (mm_up ρ1 85 (nI N).toNatClampNeg (nI r)) c = τ c := fun c h1 h2 => by rw [mm_up_n h1, f3 c h2]; exact f2 c h1 h2
            refine c_101 (pk_in k 21 (by omega)) ?_
            have e101 : f_101 (mm_up ρ1 85 (nI N).toNatClampNeg (nI r)) (nI k) (nI r) = nI o := by
              rw [← eo]
              unfold f_101
              rw [f4 80 (by decide) (by decide), f4 81 (by decide) (by decide), fr 80 (by decide) (by decide) (by decide), fr 81 (by decide) (by decide) (by decide)]
            rw [e101, nI_1]
            refine kb_109_194 (c_105 n21 (fun r' hr' => by rw [f4 87 (by decide) (by decide), f4 88 (by decide) (by decide)]; exact A r' hr') o9 hk emo (fun k' hk' he' => kb_109_202 ?_))
            rw [nI_clamp (show N < 2 ^ 31 by omega)] at f4 ⊢
            refine ih _ v' o k' _ _ f4 (fun c hc => by rw [mm_up_n (by decide)]; exact g' c hc) hv' o9 hk' he' (fun i hi => ?_) (fun h => by omega)
            by_cases e : i = N
            · subst e; exact ⟨r, hr, mm_up_s⟩
            · rw [mm_up_o e, f3 85 (by decide)]; exact om i (by omega)
          have vw : ¬ v.testBit w = true := fun y => (g w hw).mp y z
          have gn : GM (mm_up ρ 99 w 1) (v ||| 2 ^ w) := fun c hc => by
            rw [Nat.testBit_or, Nat.testBit_two_pow, Bool.or_eq_true]
            by_cases e : c = w
            · subst e
              rw [mm_up_s]
              exact ⟨fun _ => by decide, fun _ => Or.inr (by simp)⟩
            · rw [mm_up_o e, ← g c hc]
              constructor
              · rintro (y | y)
                · exact y
                · exact absurd (show w = c by simpa using y).symm e
              · exact Or.inl
          have bn : bc (v ||| 2 ^ w) 42 = N + 1 := by rw [bc_add vw, if_pos hw, hv]
          have f9 : ∀ c, c ≠ 99 → (mm_up ρ 99 w 1) c = ρ c := fun c h => mm_up_n h
          refine kb_109_145 (pk_in w 42 hw) (fun _ => ?_) (fun _ => ?_)
          · rw [nar_1, nI_clamp (show w < 2 ^ 31 by omega)]
            exact kb_109_152 (fun _ => kb_109_162 (pk_in N 48 (by omega)) (go _ _ _ f9 gn bn)) (fun _ => kb_109_166 (pk_in N 48 (by omega)) (go _ _ _ f9 gn bn))
          · rw [nar_1, nI_clamp (show w < 2 ^ 31 by omega)]
            exact kb_109_162 (pk_in N 48 (by omega)) (go _ _ _ f9 gn bn)
        · generalize wfn ρ k r = w at *
          rw [nI_clamp (show w < 2 ^ 31 by omega)] at z
          have N1 : 1 ≤ N := by
            rcases Nat.eq_zero_or_pos N with y | y
            · have := nz y
              subst this
              exact absurd ((g w hw).mpr z) (by simp)
            · exact y
          exact kb_109_207 (fun z => kb_109_217 (fun _ => kb_109_226 (q1 _ N (fun c h1 h2 h3 => by rw [mm_up_n h1]; exact f2 c h2 h3) (fun j hj' => by rw [mm_up_o hj', f2 10 (by decide) (by decide)]) N1 (by omega) mm_up_s (fun i hi => by rw [mm_up_n (by decide)]; exact om i hi))) (fun y => absurd z y)) (fun z => kb_109_213 (fun y => absurd y z) (fun _ => kb_109_230 (q0 _ (fun c h1 h2 h3 => by rw [mm_up_n h1]; exact f2 c h2 h3) (fun j hj' => by rw [mm_up_o hj', f2 10 (by decide) (by decide)]))))
    · intro c hc ih ρ f1 z99
      refine kb_109_79 (fun g => absurd g (hI_nle (a := 42) (by omega) hc)) (fun _ => kb_109_85 (pk_in c 42 hc) ?_)
      rw [nI_1, nar_0, nI_clamp (show c < 2 ^ 31 by omega)]
      refine ih _ (fun c' h => by rw [mm_up_n h]; exact f1 c' h) (fun c' h => ?_)
      by_cases e : c' = c
      · subst e; exact mm_up_s
      · rw [mm_up_o e]; exact z99 c' (by omega)
  · intro r hr ih x hx
    have cr : (nI r).toNatClampNeg = r := nI_clamp (by omega)
    have stay : (x = -1 ∧ (∀ i, i < r + 1 → σ 75 i = 0) ∨ ∃ s, s < 9 ∧ x = nI s ∧ ¬ σ 75 s = 0) → mw (d + 1) mt_109 Q 71 [some (.ref 10), some (.int x), some (.int (nI r)), none, none, none, none] [] τ := fun h => kb_109_71 (by rw [nI_1]; exact ih x h)
    have take : ¬ σ 75 r = 0 → mw (d + 1) mt_109 Q 69 [some (.ref 10), some (.int x), some (.int (nI r)), none, none, none, none] [] τ := fun h => kb_109_69 (by rw [nI_1]; exact ih _ (Or.inr ⟨r, hr, rfl, h⟩))
    refine kb_109_4 (fun g => absurd g (hI_nle (a := 9) (by omega) hr)) (fun _ => kb_109_10 (pk_in r 9 hr) (fun z => stay ?_) (fun z => ?_))
    · rw [cr, e75] at z
      rcases hx with ⟨h1, h2⟩ | h
      · refine Or.inl ⟨h1, fun i hi => ?_⟩
        by_cases e : i = r
        · subst e; exact z
        · exact h2 i (by omega)
      · exact Or.inr h
    · rw [cr, e75] at z
      refine kb_109_19 (fun _ => take z) (fun y => ?_)
      rcases hx with ⟨h1, _⟩ | ⟨s, s9, es, ds⟩
      · exact absurd h1 y
      · have is : vp_in x 9 := by rw [es]; exact pk_in s 9 s9
        have st' := stay (Or.inr ⟨s, s9, es, ds⟩)
        exact kb_109_24 (pk_in r 9 hr) is (fun _ => take z) (fun _ => kb_109_39 (pk_in r 9 hr) is (fun _ => kb_109_54 (pk_in r 9 hr) is (fun _ => st') (fun _ => take z)) (fun _ => st'))

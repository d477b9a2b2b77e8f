/-! the reference: cutOn, takeBack, fits, mayBeLess, keepIfLess -/
/-- HouseDeskModel.sideOf -/
def f_127 (x0 : Int32) : Int32 := ((x0 - (20 : Int32)) - (21 : Int32))
theorem c_127 {d : Nat} {Q : mm_Q} {x0 : Int32} {σ : mm_S} (q : Q (some (.int (f_127 x0))) σ) : mD (d + 1) 127 [.int x0] σ Q := ke_127 (kb_127_0 q)
/-- HouseDeskModel.directionOf -/
def f_128 (σ : mm_S) (x1 x2 x3 : Int32) : Int32 := (if (σ 80 x1.toNatClampNeg) = x2 then (if x3 = 0 then (2 : Int32) else (if x3 = (1 : Int32) then (0 : Int32) else (if x3 = (2 : Int32) then (3 : Int32) else (1 : Int32)))) else (if x3 = 0 then (3 : Int32) else (if x3 = (1 : Int32) then (1 : Int32) else (if x3 = (2 : Int32) then (2 : Int32) else (0 : Int32)))))
theorem c_128 {d : Nat} {Q : mm_Q} {x1 x2 x3 : Int32} {σ : mm_S} (H1 : vp_in x1 21) (q : Q (some (.int (f_128 σ x1 x2 x3))) σ) : mD (d + 1) 128 [.ref 10, .int x1, .int x2, .int x3] σ Q := ke_128 (kb_128_0 H1 (fun g0 => (kb_128_10 (fun g1 => (kb_128_21 (fun g2 => (absurd (show (1 : Int32) = 0 from g2) (by decide))) (fun _ => (kb_128_26 (q_pos g1 (q_pos g0 q)))))) (fun g1 => (kb_128_32 (fun g2 => (kb_128_37 (fun g3 => (absurd (show (1 : Int32) = 0 from g3) (by decide))) (fun _ => (kb_128_42 (q_pos g2 (q_neg g1 (q_pos g0 q))))))) (fun g2 => (kb_128_48 (fun g3 => (kb_128_53 (fun g4 => (absurd (show (1 : Int32) = 0 from g4) (by decide))) (fun _ => (kb_128_58 (q_pos g3 (q_neg g2 (q_neg g1 (q_pos g0 q)))))))) (fun g3 => (kb_128_64 (fun g4 => (absurd (show (1 : Int32) = 0 from g4) (by decide))) (fun _ => (kb_128_69 (q_neg g3 (q_neg g2 (q_neg g1 (q_pos g0 q)))))))))))))) (fun g0 => (kb_128_14 (fun g1 => (kb_128_21 (fun _ => (kb_128_30 (q_pos g1 (q_neg g0 q)))) (fun g2 => (absurd (show ¬ ((0 : Int32) = 0) from g2) (by decide))))) (fun g1 => (kb_128_32 (fun g2 => (kb_128_37 (fun _ => (kb_128_46 (q_pos g2 (q_neg g1 (q_neg g0 q))))) (fun g3 => (absurd (show ¬ ((0 : Int32) = 0) from g3) (by decide))))) (fun g2 => (kb_128_48 (fun g3 => (kb_128_53 (fun _ => (kb_128_62 (q_pos g3 (q_neg g2 (q_neg g1 (q_neg g0 q)))))) (fun g4 => (absurd (show ¬ ((0 : Int32) = 0) from g4) (by decide))))) (fun g3 => (kb_128_64 (fun _ => (kb_128_73 (q_neg g3 (q_neg g2 (q_neg g1 (q_neg g0 q)))))) (fun g4 => (absurd (show ¬ ((0 : Int32) = 0) from g4) (by decide))))))))))))
def CU (τ : mm_S) (l s a b u : Nat) : Prop := τ 101 l = nI s ∧ τ 102 l = nI a ∧ τ 103 l = nI b ∧ τ 104 l = nI u
def sfr (l : Nat) (τ τ' : mm_S) : Prop := ∀ c x, (c < 101 ∨ 104 < c ∨ x ≠ l) → τ' c x = τ c x
theorem sfr_up {l c : Nat} {τ τ' : mm_S} {v : Int32} (h : sfr l τ τ') (hc : 101 ≤ c ∧ c ≤ 104) : sfr l τ (mm_up τ' c l v) := fun c' x hx => by
  by_cases e : c' = c
  · subst e
    rw [mm_up_o (by omega)]; exact h c' x hx
  · rw [mm_up_n e]; exact h c' x hx
def cdv (s a b u : Nat) : Nat := ((s * 16 + a) * 16 + b) * 16 + u
theorem c_129 {d l r z : Nat} {Q : mm_Q} {τ : mm_S} (hl : l < 9) (hr : r < 9) (e100 : τ 100 l = nI r) (e89 : τ 89 r = nI z) (z16 : z ≤ 16)
    (hc : τ 101 l = -1 ∨ ∃ s a b u, s < z ∧ 1 ≤ a ∧ 1 ≤ b ∧ 1 ≤ u ∧ a + b + u + 1 ≤ z ∧ CU τ l s a b u)
    (q0 : ∀ τ', sfr l τ τ' → Q (some (.int 0)) τ')
    (q1 : ∀ τ' s a b u, sfr l τ τ' → s < z → 1 ≤ a → 1 ≤ b → 1 ≤ u → a + b + u + 1 ≤ z → CU τ' l s a b u → (τ 101 l = -1 ∨ ∃ s0 a0 b0 u0, CU τ l s0 a0 b0 u0 ∧ s0 < z ∧ 1 ≤ a0 ∧ 1 ≤ b0 ∧ 1 ≤ u0 ∧ a0 + b0 + u0 + 1 ≤ z ∧ cdv s0 a0 b0 u0 < cdv s a b u) → Q (some (.int 1)) τ') : mD (d + 1) 129 [.ref 10, .int (nI l)] τ Q := by
  have cl : (nI l).toNatClampNeg = l := nI_clamp (by omega)
  have iv := pk_in l 9 hl
  have ez : τ 89 (τ 100 (nI l).toNatClampNeg).toNatClampNeg = nI z := by rw [cl, e100, nI_clamp (by omega)]; exact e89
  have rf : sfr l τ τ := fun _ _ _ => rfl
  refine ke_129 (kb_129_0 iv (by rw [cl, e100]; exact pk_in r 9 hr) ?_ ?_)
  · rw [ez]
    intro g4
    have z4 : 4 ≤ z := (nI_leI (a := 4) (by omega) (by omega)).mp g4
    have s1 : nI z - 1 = nI (z - 1) := by rw [show (1 : Int32) = nI 1 from rfl]; exact nI_sub (by omega)
    have s2 : nI z - 2 = nI (z - 2) := by rw [show (2 : Int32) = nI 2 from rfl]; exact nI_sub (by omega)
    have s3 : nI z - 3 = nI (z - 3) := by rw [show (3 : Int32) = nI 3 from rfl]; exact nI_sub (by omega)
    refine kb_129_19 iv (fun e => kb_129_29 iv iv iv iv ?_) (fun e => ?_)
    · rw [cl] at e ⊢
      refine q1 _ 0 1 1 1 (sfr_up (sfr_up (sfr_up (sfr_up rf (by omega)) (by omega)) (by omega)) (by omega)) (by omega) (by omega) (by omega) (by omega) (by omega) ⟨?_, ?_, ?_, mm_up_s⟩ (Or.inl e)
      · rw [mm_up_n (by decide), mm_up_n (by decide), mm_up_n (by decide)]; exact mm_up_s
      · rw [mm_up_n (by decide), mm_up_n (by decide)]; exact mm_up_s
      · rw [mm_up_n (by decide)]; exact mm_up_s
    · rw [cl] at e
      obtain ⟨s, a, b, u, hs, ha, hb, hu, hsum, C⟩ := hc.resolve_left e
      obtain ⟨c1, c2, c3, c4⟩ := id C
      -- the end
      have fin : ∀ (π : mm_S) (s' a' b' u' : Nat), sfr l τ π → s' ≤ z → 1 ≤ a' → 1 ≤ b' → 1 ≤ u' → a' + b' + u' + 1 ≤ z → CU π l s' a' b' u' → cdv s a b u < cdv s' a' b' u' → mw d mt_129 Q 177 [some (.ref 10), some (.int (nI l)), some (.int (nI z))] [] π := fun π s' a' b' u' f h1 h2 h3 h4 h5 C' hlt => by
        refine kb_129_177 iv (fun _ => kb_129_191 (q0 π f)) (fun g => kb_129_187 (q1 π s' a' b' u' f ?_ h2 h3 h4 h5 C' (Or.inr ⟨s, a, b, u, C, hs, ha, hb, hu, hsum, hlt⟩)))
        rw [cl, C'.1] at g
        rcases Nat.lt_or_ge s' z with y | y
        · exact y
        · exact absurd (hI_le (by omega) y) g
      have third : ∀ (π : mm_S) (a' b' u' : Nat), sfr l τ π → 1 ≤ a' → 1 ≤ b' → 1 ≤ u' → a' + b' + u' + 1 ≤ z → CU π l s a' b' u' → cdv s a b u < cdv s a' b' u' → mw d mt_129 Q 148 [some (.ref 10), some (.int (nI l)), some (.int (nI z))] [] π := fun π a' b' u' f h2 h3 h4 h5 C' hlt => by
        refine kb_129_148 iv (fun _ => fin π s a' b' u' f (by omega) h2 h3 h4 h5 C' hlt) (fun g => absurd ?_ g)
        rw [cl, C'.2.1, s3]; exact hI_le (by omega) (by omega)
      have e104 : τ 104 (nI l).toNatClampNeg + 1 = nI (u + 1) := by rw [cl, c4, nI_1]
      refine kb_129_59 iv iv iv iv iv ?_ ?_
      · rw [cl, c4, nI_1, mm_up_s, mm_up_n (by decide), mm_up_n (by decide), c2, c3, s1, nI_sub (by omega), nI_sub (by omega)]
        intro g
        have le : u + 1 ≤ z - 1 - a - b := (nI_leI (by omega) (by omega)).mp g
        have C1 : CU (mm_up τ 104 l (nI (u + 1))) l s a b (u + 1) := ⟨by rw [mm_up_n (by decide)]; exact c1, by rw [mm_up_n (by decide)]; exact c2, by rw [mm_up_n (by decide)]; exact c3, mm_up_s⟩
        have f1 : sfr l τ (mm_up τ 104 l (nI (u + 1))) := sfr_up rf (by omega)
        refine kb_129_112 iv iv (fun _ => third _ a b (u + 1) f1 ha hb (by omega) (by omega) C1 (by unfold cdv; omega)) (fun g' => absurd ?_ g')
        rw [cl, C1.2.2.1, C1.2.1, s2, nI_sub (by omega)]; exact hI_le (by omega) (by omega)
      · rw [cl, c4, nI_1, mm_up_s, mm_up_n (by decide), mm_up_n (by decide), c2, c3, s1, nI_sub (by omega), nI_sub (by omega)]
        intro g
        have gt : z - 1 - a - b < u + 1 := by
          rcases Nat.lt_or_ge (z - 1 - a - b) (u + 1) with y | y
          · exact y
          · exact absurd (hI_le (by omega) y) g
        refine kb_129_95 iv iv iv iv iv ?_ ?_
        · rw [cl]
          have x103 : (mm_up (mm_up τ 104 l (nI (u + 1))) 104 l 1) 103 l = nI b := by rw [mm_up_n (by decide), mm_up_n (by decide)]; exact c3
          rw [x103, nI_1, mm_up_s]
          have x102 : (mm_up (mm_up (mm_up τ 104 l (nI (u + 1))) 104 l 1) 103 l (nI (b + 1))) 102 l = nI a := by rw [mm_up_n (by decide), mm_up_n (by decide), mm_up_n (by decide)]; exact c2
          rw [x102, s2, nI_sub (by omega)]
          intro g'
          have le : b + 1 ≤ z - 2 - a := (nI_leI (by omega) (by omega)).mp g'
          refine third _ a (b + 1) 1 (sfr_up (sfr_up (sfr_up rf (by omega)) (by omega)) (by omega)) ha (by omega) (by omega) (by omega) ⟨?_, x102, mm_up_s, ?_⟩ (by unfold cdv; omega)
          · rw [mm_up_n (by decide), mm_up_n (by decide), mm_up_n (by decide)]; exact c1
          · rw [mm_up_n (by decide)]; exact mm_up_s
        · rw [cl]
          have x103 : (mm_up (mm_up τ 104 l (nI (u + 1))) 104 l 1) 103 l = nI b := by rw [mm_up_n (by decide), mm_up_n (by decide)]; exact c3
          rw [x103, nI_1, mm_up_s]
          have x102 : (mm_up (mm_up (mm_up τ 104 l (nI (u + 1))) 104 l 1) 103 l (nI (b + 1))) 102 l = nI a := by rw [mm_up_n (by decide), mm_up_n (by decide), mm_up_n (by decide)]; exact c2
          have x101 : (mm_up (mm_up (mm_up τ 104 l (nI (u + 1))) 104 l 1) 103 l (nI (b + 1))) 101 l = nI s := by rw [mm_up_n (by decide), mm_up_n (by decide), mm_up_n (by decide)]; exact c1
          have x104 : (mm_up (mm_up (mm_up τ 104 l (nI (u + 1))) 104 l 1) 103 l (nI (b + 1))) 104 l = 1 := by rw [mm_up_n (by decide)]; exact mm_up_s
          have fx : sfr l τ (mm_up (mm_up (mm_up τ 104 l (nI (u + 1))) 104 l 1) 103 l (nI (b + 1))) := sfr_up (sfr_up (sfr_up rf (by omega)) (by omega)) (by omega)
          rw [x102]
          generalize mm_up (mm_up (mm_up τ 104 l (nI (u + 1))) 104 l 1) 103 l (nI (b + 1)) = π at *
          intro _
          have y102 : (mm_up π 103 l 1) 102 l = nI a := by rw [mm_up_n (by decide)]; exact x102
          refine kb_129_131 iv iv iv iv ?_ ?_
          · rw [cl, y102, nI_1, mm_up_s, s3]
            intro g'
            have le : a + 1 ≤ z - 3 := (nI_leI (by omega) (by omega)).mp g'
            refine fin _ s (a + 1) 1 1 (sfr_up (sfr_up fx (by omega)) (by omega)) (by omega) (by omega) (by omega) (by omega) (by omega) ⟨?_, mm_up_s, ?_, ?_⟩ (by unfold cdv; omega)
            · rw [mm_up_n (by decide), mm_up_n (by decide)]; exact x101
            · rw [mm_up_n (by decide)]; exact mm_up_s
            · rw [mm_up_n (by decide), mm_up_n (by decide)]; exact x104
          · rw [cl, y102, nI_1, mm_up_s, s3]
            intro _
            have w101 : (mm_up (mm_up (mm_up π 103 l 1) 102 l (nI (a + 1))) 102 l 1) 101 l = nI s := by rw [mm_up_n (by decide), mm_up_n (by decide), mm_up_n (by decide)]; exact x101
            refine kb_129_160 iv iv iv iv ?_ ?_
            · rw [cl, w101, nI_1, mm_up_s]
              exact fun _ => kb_129_191 (q0 _ (sfr_up (sfr_up (sfr_up (sfr_up fx (by omega)) (by omega)) (by omega)) (by omega)))
            · rw [cl, w101, nI_1, mm_up_s]
              intro g'
              have lt : s + 1 < z := by
                rcases Nat.lt_or_ge (s + 1) z with y | y
                · exact y
                · exact absurd (hI_le (by omega) y) g'
              refine kb_129_187 (q1 _ (s + 1) 1 1 1 (sfr_up (sfr_up (sfr_up (sfr_up fx (by omega)) (by omega)) (by omega)) (by omega)) lt (by omega) (by omega) (by omega) (by omega) ⟨mm_up_s, ?_, ?_, ?_⟩ (Or.inr ⟨s, a, b, u, C, hs, ha, hb, hu, hsum, by unfold cdv; omega⟩))
              · rw [mm_up_n (by decide)]; exact mm_up_s
              · rw [mm_up_n (by decide), mm_up_n (by decide), mm_up_n (by decide)]; exact mm_up_s
              · rw [mm_up_n (by decide), mm_up_n (by decide), mm_up_n (by decide), mm_up_n (by decide)]; exact x104
  · rw [ez]
    exact fun _ => kb_129_17 (q0 τ rf)
theorem c_130 {d n l : Nat} {Q : mm_Q} {τ : mm_S} (hn : n ≤ 21) (e6 : τ 10 6 = nI n) (hl : l < 9) (q : ∀ τ', (∀ c, c ≠ 94 → c ≠ 105 → τ' c = τ c) → Q none τ') : mD (d + 1) 130 [.ref 10, .int (nI l)] τ Q := by
  refine ke_130 (kb_130_0 ?_)
  refine lp_dn (P := fun k => ∀ ρ : mm_S, (∀ c, c ≠ 94 → c ≠ 105 → ρ c = τ c) → mw d mt_130 Q 2 [some (.ref 10), some (.int (nI l)), some (.int (nI k))] [] ρ) n ?_ ?_ 0 (Nat.zero_le n) τ (fun _ _ _ => rfl)
  · intro ρ fr
    exact kb_130_2 (fun _ => kb_130_37 (pk_in l 9 hl) (q _ (fun c h1 h2 => by rw [mm_up_n h2]; exact fr c h1 h2))) (fun g => absurd (by rw [fr 10 (by decide) (by decide), e6]; exact hI_le (by omega) (Nat.le_refl n)) g)
  · intro k hk ih ρ fr
    exact kb_130_2 (fun g => absurd g (by rw [fr 10 (by decide) (by decide), e6]; exact hI_nle (by omega) hk)) (fun _ => kb_130_10 (pk_in l 9 hl) (fun _ => kb_130_24 (pk_in k 21 (by omega)) (by rw [nI_1]; exact ih _ (fun c h1 h2 => by rw [mm_up_n h1]; exact fr c h1 h2))) (fun _ => kb_130_31 (by rw [nI_1]; exact ih ρ fr)))
theorem c_133 {d n : Nat} {Q : mm_Q} {τ : mm_S} (hn : n ≤ 21) (e6 : τ 10 6 = nI n) (q : ∀ x, x = 0 ∨ x = 1 → Q (some (.int x)) τ) : mD (d + 1) 133 [.ref 10] τ Q := by
  refine ke_133 (kb_133_0 ?_)
  have en : ∀ x1, mw d mt_133 Q 71 [some (.ref 10), some (.int x1)] [] τ := fun x1 => kb_133_71 (fun _ => kb_133_78 (q 1 (Or.inr rfl))) (fun _ => kb_133_82 (q 0 (Or.inl rfl)))
  refine lp_dn (P := fun k => mw d mt_133 Q 2 [some (.ref 10), some (.int (nI k))] [] τ) n ?_ ?_ 0 (Nat.zero_le n)
  · exact kb_133_2 (fun _ => en _) (fun g => absurd (by rw [e6]; exact hI_le (by omega) (Nat.le_refl n)) g)
  · intro k hk ih
    have iv : vp_in (nI k) 21 := pk_in k 21 (by omega)
    exact kb_133_2 (fun g => absurd g (by rw [e6]; exact hI_nle (by omega) hk)) (fun _ => kb_133_10 (fun _ => en _) (fun _ => kb_133_17 iv (fun _ => kb_133_27 (q 1 (Or.inr rfl))) (fun _ => kb_133_29 iv iv (fun _ => kb_133_65 (by rw [nI_1]; exact ih)) (fun _ => kb_133_44 iv iv (fun _ => kb_133_63 (q 0 (Or.inl rfl))) (fun _ => kb_133_59 (q 1 (Or.inr rfl)))))))
theorem c_134 {d n : Nat} {Q : mm_Q} {τ : mm_S} (hn : n ≤ 21) (e6 : τ 10 6 = nI n) (q : ∀ τ', (∀ c, c ≠ 10 → c ≠ 95 → τ' c = τ c) → (∀ j, j ≠ 29 → τ' 10 j = τ 10 j) → Q none τ') : mD (d + 2) 134 [.ref 10] τ Q := by
  refine ke_134 (kb_134_0 (c_133 hn e6 (fun x _ => kb_134_4 (fun _ => kb_134_7 (q τ (fun _ _ _ => rfl) (fun _ _ => rfl))) (fun _ => kb_134_8 ?_))))
  refine lp_dn (P := fun k => ∀ ρ : mm_S, (∀ c, c ≠ 10 → c ≠ 95 → ρ c = τ c) → (∀ j, j ≠ 29 → ρ 10 j = τ 10 j) → mw (d + 1) mt_134 Q 15 [some (.ref 10), some (.int (nI k))] [] ρ) n ?_ ?_ 0 (Nat.zero_le n) _ (fun c h _ => mm_up_n h) (fun j hj => mm_up_o hj)
  · intro ρ f1 f2
    exact kb_134_15 (fun _ => kb_134_41 (q ρ f1 f2)) (fun g => absurd (by rw [f2 6 (by decide), e6]; exact hI_le (by omega) (Nat.le_refl n)) g)
  · intro k hk ih ρ f1 f2
    refine kb_134_15 (fun g => absurd g (by rw [f2 6 (by decide), e6]; exact hI_nle (by omega) hk)) (fun _ => kb_134_23 (pk_in k 21 (by omega)) (pk_in k 21 (by omega)) ?_)
    rw [nI_1]
    exact ih _ (fun c h1 h2 => by rw [mm_up_n h2]; exact f1 c h1 h2) (fun j hj => by rw [mm_up_n (by decide)]; exact f2 j hj)
theorem c_132 {d n l r z s : Nat} {Q : mm_Q} {τ : mm_S} (hn : n ≤ 21) (hl : l < 9) (hr : r < 9) (e100 : τ 100 l = nI r) (R : RZ τ n r z) (z16 : z ≤ 16) (hs : s < z) (e101 : τ 101 l = nI s)
    (q : ∀ x τ', x = 0 ∨ x = 1 → (∀ c, c ≠ 94 → c ≠ 105 → τ' c = τ c) → Q (some (.int x)) τ') : mD (d + 2) 132 [.ref 10, .int (nI l)] τ Q := by
  have cl : (nI l).toNatClampNeg = l := nI_clamp (by omega)
  have iv := pk_in l 9 hl
  refine ke_132 (kb_132_0 iv (by rw [cl, e100]; exact pk_in r 9 hr) ?_)
  rw [cl, e100, nI_clamp (show r < 2 ^ 31 by omega), R.1]
  refine lp_dn (P := fun i => ∀ ρ : mm_S, (∀ c, c ≠ 94 → c ≠ 105 → ρ c = τ c) → ∀ o5 o6 o7, mw (d + 1) mt_132 Q 17 [some (.ref 10), some (.int (nI l)), some (.int (nI r)), some (.int (nI z)), some (.int (nI i)), o5, o6, o7] [] ρ) z ?_ ?_ 0 (Nat.zero_le z) τ (fun _ _ _ => rfl) none none none
  · intro ρ fr o5 o6 o7
    exact kb_132_17 (fun _ => kb_132_198 (q 1 ρ (Or.inr rfl) fr)) (fun g => absurd (hI_le (by omega) (Nat.le_refl z)) g)
  · intro i hi ih ρ fr o5 o6 o7
    have ex : (16 : Int32) * nI r + (ρ 101 (nI l).toNatClampNeg + nI i - (ρ 101 (nI l).toNatClampNeg + nI i) / nI z * nI z) = nI (16 * r + (s + i) % z) := by
      rw [cl, fr 101 (by decide) (by decide), e101, nI_add, rem_n0 z (by omega) (by omega) _ (by omega), nI_16]
    have ml : (s + i) % z < z := Nat.mod_lt _ (by omega)
    have skip : ∀ x5 x6 o7 (ρ : mm_S), (∀ c, c ≠ 94 → c ≠ 105 → ρ c = τ c) → mw (d + 1) mt_132 Q 192 [some (.ref 10), some (.int (nI l)), some (.int (nI r)), some (.int (nI z)), some (.int (nI i)), some (.int x5), some (.int x6), o7] [] ρ := fun x5 x6 o7 ρ f => kb_132_192 (by rw [nI_1]; exact ih ρ f _ _ _)
    have side : ∀ x5 x6 o7, mw (d + 1) mt_132 Q 122 [some (.ref 10), some (.int (nI l)), some (.int (nI r)), some (.int (nI z)), some (.int (nI i)), some (.int x5), some (.int x6), o7] [] ρ := fun x5 x6 o7 => kb_132_122 (c_127 (kb_132_127 (fun _ => skip _ _ _ ρ fr) (fun _ => kb_132_132 (q 0 ρ (Or.inl rfl) fr))))
    have join : ∀ k x6 o7, k < n → mw (d + 1) mt_132 Q 134 [some (.ref 10), some (.int (nI l)), some (.int (nI r)), some (.int (nI z)), some (.int (nI i)), some (.int (nI k)), some (.int x6), o7] [] ρ := fun k x6 o7 hk => by
      have ik : vp_in (nI k) 21 := pk_in k 21 (by omega)
      refine kb_132_134 (c_128 ik (kb_132_143 ik (fun _ => kb_132_156 ik iv iv ik (fun _ => skip _ _ _ _ ?_) (fun _ => kb_132_190 (q 0 _ (Or.inl rfl) ?_))) (fun _ => kb_132_178 ik (fun _ => skip _ _ _ ρ fr) (fun _ => kb_132_190 (q 0 ρ (Or.inl rfl) fr)))))
      · exact fun c h1 h2 => by rw [mm_up_n h2, mm_up_n h1]; exact fr c h1 h2
      · exact fun c h1 h2 => by rw [mm_up_n h2, mm_up_n h1]; exact fr c h1 h2
    have pick : ∀ (o7 : Option Value) (w : Nat), (w < n ∨ ∃ t, t < 4 ∧ w = 41 + t) → (∀ x6 : Int32, (nI w < (21 : Int32) → mw (d + 1) mt_132 Q 134 [some (.ref 10), some (.int (nI l)), some (.int (nI r)), some (.int (nI z)), some (.int (nI i)), some (.int (nI w)), some (.int x6), o7] [] ρ) ∧ (¬ nI w < (21 : Int32) → mw (d + 1) mt_132 Q 122 [some (.ref 10), some (.int (nI l)), some (.int (nI r)), some (.int (nI z)), some (.int (nI i)), some (.int (nI w)), some (.int x6), o7] [] ρ)) := fun o7 w hw x6 => by
      refine ⟨fun g => ?_, fun _ => side _ _ _⟩
      rcases hw with h | ⟨t, ht, h⟩
      · exact join w x6 o7 h
      · subst h
        exact absurd g (nI_nlt (a := 41 + t) (b := 21) (by omega) (by omega))
    obtain ⟨w, hw, ew⟩ : ∃ w, (w < n ∨ ∃ t, t < 4 ∧ w = 41 + t) ∧ τ 90 (16 * r + (s + i) % z) = nI w := by
      rcases R.2 _ ml with ⟨k, h1, h2⟩ | ⟨t, h1, h2⟩
      · exact ⟨k, Or.inl h1, h2⟩
      · exact ⟨41 + t, Or.inr ⟨t, h1, rfl⟩, h2⟩
    have e90 : ρ 90 ((16 : Int32) * nI r + (ρ 101 (nI l).toNatClampNeg + nI i - (ρ 101 (nI l).toNatClampNeg + nI i) / nI z * nI z)).toNatClampNeg = nI w := by
      rw [ex, nI_clamp (by omega), fr 90 (by decide) (by decide)]; exact ew
    have P := fun o7 => pick o7 w hw
    refine kb_132_17 (fun g => absurd g (hI_nle (by omega) hi)) (fun _ => kb_132_23 iv (nI_ne0 (by omega) (by omega)) (by rw [ex]; exact pk_in (16 * r + (s + i) % z) 144 (by omega)) iv ?_ ?_)
    · rw [e90]
      exact fun _ => kb_132_61 iv iv (fun _ => kb_132_83 iv iv iv (fun _ => kb_132_112 (P _ 3).1 (P _ 3).2) (fun _ => kb_132_108 (P _ 2).1 (P _ 2).2)) (fun _ => kb_132_79 (P _ 1).1 (P _ 1).2)
    · rw [e90]
      exact fun _ => kb_132_57 (P _ 0).1 (P _ 0).2

section
/-! the reference: cuts, one after the other -/
def cok (z s a b u : Nat) : Prop := s < z ∧ 1 ≤ a ∧ 1 ≤ b ∧ 1 ≤ u ∧ a + b + u + 1 ≤ z
def NXc (z s a b u s' a' b' u' : Nat) : Prop := cdv s a b u < cdv s' a' b' u' ∧ ∀ x y v w, cok z x y v w → cdv s a b u < cdv x y v w → cdv s' a' b' u' ≤ cdv x y v w
theorem cdv_lt {s a b u x y v w : Nat} (h1 : a < 16) (h2 : b < 16) (h3 : u < 16) (h4 : y < 16) (h5 : v < 16) (h6 : w < 16) (h : cdv s a b u < cdv x y v w) : s < x ∨ (s = x ∧ (a < y ∨ (a = y ∧ (b < v ∨ (b = v ∧ u < w))))) := by
  unfold cdv at h
  omega
theorem nx_2 {z s a b u : Nat} (z16 : z ≤ 16) (h : cok z s a b u) (g : z - 1 - a - b < u + 1) (le : b + 1 ≤ z - 2 - a) : NXc z s a b u s a (b + 1) 1 := by
  unfold cok at h
  refine ⟨by unfold cdv; omega, fun x y v w k l => ?_⟩
  unfold cok at k
  rcases cdv_lt (by omega) (by omega) (by omega) (by omega) (by omega) (by omega) l with c | ⟨c, d | ⟨d, e | ⟨e, f⟩⟩⟩ <;> unfold cdv <;> omega
theorem nx_3 {z s a b u : Nat} (z16 : z ≤ 16) (h : cok z s a b u) (g : z - 1 - a - b < u + 1) (g2 : ¬ b + 1 ≤ z - 2 - a) (le : a + 1 ≤ z - 3) : NXc z s a b u s (a + 1) 1 1 := by
  unfold cok at h
  refine ⟨by unfold cdv; omega, fun x y v w k l => ?_⟩
  unfold cok at k
  rcases cdv_lt (by omega) (by omega) (by omega) (by omega) (by omega) (by omega) l with c | ⟨c, d | ⟨d, e | ⟨e, f⟩⟩⟩ <;> unfold cdv <;> omega
theorem nx_4 {z s a b u : Nat} (z16 : z ≤ 16) (h : cok z s a b u) (g : z - 1 - a - b < u + 1) (g2 : ¬ b + 1 ≤ z - 2 - a) (g3 : ¬ a + 1 ≤ z - 3) : NXc z s a b u (s + 1) 1 1 1 := by
  unfold cok at h
  refine ⟨by unfold cdv; omega, fun x y v w k l => ?_⟩
  unfold cok at k
  rcases cdv_lt (by omega) (by omega) (by omega) (by omega) (by omega) (by omega) l with c | ⟨c, d | ⟨d, e | ⟨e, f⟩⟩⟩ <;> unfold cdv <;> omega
theorem c_129t {d l r z : Nat} {Q : mm_Q} {τ : mm_S} (hl : l < 9) (hr : r < 9) (e100 : τ 100 l = nI r) (e89 : τ 89 r = nI z) (z16 : z ≤ 16)
    (hc : τ 101 l = -1 ∨ ∃ s a b u, s < z ∧ 1 ≤ a ∧ 1 ≤ b ∧ 1 ≤ u ∧ a + b + u + 1 ≤ z ∧ CU τ l s a b u)
    (q0 : ∀ τ', sfr l τ τ' → (∀ s a b u, CU τ l s a b u → cok z s a b u → ∀ x y v w, cok z x y v w → cdv x y v w ≤ cdv s a b u) → (τ 101 l = -1 → ∀ x y v w, ¬ cok z x y v w) → Q (some (.int 0)) τ')
    (q1 : ∀ τ' s a b u, sfr l τ τ' → s < z → 1 ≤ a → 1 ≤ b → 1 ≤ u → a + b + u + 1 ≤ z → CU τ' l s a b u → ((τ 101 l = -1 ∧ ∀ x y v w, cok z x y v w → cdv s a b u ≤ cdv x y v w) ∨ ∃ s0 a0 b0 u0, CU τ l s0 a0 b0 u0 ∧ s0 < z ∧ 1 ≤ a0 ∧ 1 ≤ b0 ∧ 1 ≤ u0 ∧ a0 + b0 + u0 + 1 ≤ z ∧ NXc z s0 a0 b0 u0 s a b u) → Q (some (.int 1)) τ') : mD (d + 1) 129 [.ref 10, .int (nI l)] τ Q := by
  have cl : (nI l).toNatClampNeg = l := nI_clamp (by omega)
  have iv := pk_in l 9 hl
  have ez : τ 89 (τ 100 (nI l).toNatClampNeg).toNatClampNeg = nI z := by rw [cl, e100, nI_clamp (by omega)]; exact e89
  have rf : sfr l τ τ := fun _ _ _ => rfl
  refine ke_129 (kb_129_0 iv (by rw [cl, e100]; exact pk_in r 9 hr) ?_ ?_)
  · rw [ez]
    intro g4
    have z4 : 4 ≤ z := (nI_leI (a := 4) (by omega) (by omega)).mp g4
    have s1 : nI z - 1 = nI (z - 1) := by rw [show (1 : Int32) = nI 1 from rfl]; exact nI_sub (by omega)
    have s2 : nI z - 2 = nI (z - 2) := by rw [show (2 : Int32) = nI 2 from rfl]; exact nI_sub (by omega)
    have s3 : nI z - 3 = nI (z - 3) := by rw [show (3 : Int32) = nI 3 from rfl]; exact nI_sub (by omega)
    refine kb_129_19 iv (fun e => kb_129_29 iv iv iv iv ?_) (fun e => ?_)
    · rw [cl] at e ⊢
      refine q1 _ 0 1 1 1 (sfr_up (sfr_up (sfr_up (sfr_up rf (by omega)) (by omega)) (by omega)) (by omega)) (by omega) (by omega) (by omega) (by omega) (by omega) ⟨?_, ?_, ?_, mm_up_s⟩ (Or.inl ⟨e, fun x y v w h => by unfold cok at h; unfold cdv; omega⟩)
      · rw [mm_up_n (by decide), mm_up_n (by decide), mm_up_n (by decide)]; exact mm_up_s
      · rw [mm_up_n (by decide), mm_up_n (by decide)]; exact mm_up_s
      · rw [mm_up_n (by decide)]; exact mm_up_s
    · rw [cl] at e
      obtain ⟨s, a, b, u, hs, ha, hb, hu, hsum, C⟩ := hc.resolve_left e
      obtain ⟨c1, c2, c3, c4⟩ := id C
      have none' : (∀ x y v w, cok z x y v w → cdv x y v w ≤ cdv s a b u) → ∀ π, sfr l τ π → Q (some (.int 0)) π := fun no π f => q0 π f (fun s' a' b' u' C' _ x y v w h => by
        obtain ⟨p1, p2, p3, p4⟩ := C'
        have := (nI_eq (show s' < 2 ^ 31 by have := ‹cok z s' a' b' u'›; unfold cok at this; omega) (by omega)).mp (p1.symm.trans c1)
        have := (nI_eq (show a' < 2 ^ 31 by have := ‹cok z s' a' b' u'›; unfold cok at this; omega) (by omega)).mp (p2.symm.trans c2)
        have := (nI_eq (show b' < 2 ^ 31 by have := ‹cok z s' a' b' u'›; unfold cok at this; omega) (by omega)).mp (p3.symm.trans c3)
        have := (nI_eq (show u' < 2 ^ 31 by have := ‹cok z s' a' b' u'›; unfold cok at this; omega) (by omega)).mp (p4.symm.trans c4)
        subst_vars
        exact no x y v w h) (fun y => absurd y e)
      -- the end
      have fin : ∀ (π : mm_S) (s' a' b' u' : Nat), sfr l τ π → s' ≤ z → 1 ≤ a' → 1 ≤ b' → 1 ≤ u' → a' + b' + u' + 1 ≤ z → CU π l s' a' b' u' → NXc z s a b u s' a' b' u' → mw d mt_129 Q 177 [some (.ref 10), some (.int (nI l)), some (.int (nI z))] [] π := fun π s' a' b' u' f h1 h2 h3 h4 h5 C' hlt => by
        refine kb_129_177 iv (fun gz => kb_129_191 (none' (fun x y v w h => ?_) π f)) (fun g => kb_129_187 (q1 π s' a' b' u' f ?_ h2 h3 h4 h5 C' (Or.inr ⟨s, a, b, u, C, hs, ha, hb, hu, hsum, hlt⟩)))
        · rw [cl, C'.1] at gz
          have gz' := (nI_leI (by omega) (by omega)).mp gz
          rcases Nat.lt_or_ge (cdv s a b u) (cdv x y v w) with k | k
          · have := hlt.2 x y v w h k
            unfold cok at h
            unfold cdv at *
            omega
          · exact k
        rw [cl, C'.1] at g
        rcases Nat.lt_or_ge s' z with y | y
        · exact y
        · exact absurd (hI_le (by omega) y) g
      have third : ∀ (π : mm_S) (a' b' u' : Nat), sfr l τ π → 1 ≤ a' → 1 ≤ b' → 1 ≤ u' → a' + b' + u' + 1 ≤ z → CU π l s a' b' u' → NXc z s a b u s a' b' u' → mw d mt_129 Q 148 [some (.ref 10), some (.int (nI l)), some (.int (nI z))] [] π := fun π a' b' u' f h2 h3 h4 h5 C' hlt => by
        refine kb_129_148 iv (fun _ => fin π s a' b' u' f (by omega) h2 h3 h4 h5 C' hlt) (fun g => absurd ?_ g)
        rw [cl, C'.2.1, s3]; exact hI_le (by omega) (by omega)
      have e104 : τ 104 (nI l).toNatClampNeg + 1 = nI (u + 1) := by rw [cl, c4, nI_1]
      refine kb_129_59 iv iv iv iv iv ?_ ?_
      · rw [cl, c4, nI_1, mm_up_s, mm_up_n (by decide), mm_up_n (by decide), c2, c3, s1, nI_sub (by omega), nI_sub (by omega)]
        intro g
        have le : u + 1 ≤ z - 1 - a - b := (nI_leI (by omega) (by omega)).mp g
        have C1 : CU (mm_up τ 104 l (nI (u + 1))) l s a b (u + 1) := ⟨by rw [mm_up_n (by decide)]; exact c1, by rw [mm_up_n (by decide)]; exact c2, by rw [mm_up_n (by decide)]; exact c3, mm_up_s⟩
        have f1 : sfr l τ (mm_up τ 104 l (nI (u + 1))) := sfr_up rf (by omega)
        refine kb_129_112 iv iv (fun _ => third _ a b (u + 1) f1 ha hb (by omega) (by omega) C1 ⟨by unfold cdv; omega, fun x y v w h1 h2 => by unfold cok at h1; unfold cdv at *; omega⟩) (fun g' => absurd ?_ g')
        rw [cl, C1.2.2.1, C1.2.1, s2, nI_sub (by omega)]; exact hI_le (by omega) (by omega)
      · rw [cl, c4, nI_1, mm_up_s, mm_up_n (by decide), mm_up_n (by decide), c2, c3, s1, nI_sub (by omega), nI_sub (by omega)]
        intro g
        have gt : z - 1 - a - b < u + 1 := by
          rcases Nat.lt_or_ge (z - 1 - a - b) (u + 1) with y | y
          · exact y
          · exact absurd (hI_le (by omega) y) g
        refine kb_129_95 iv iv iv iv iv ?_ ?_
        · rw [cl]
          have x103 : (mm_up (mm_up τ 104 l (nI (u + 1))) 104 l 1) 103 l = nI b := by rw [mm_up_n (by decide), mm_up_n (by decide)]; exact c3
          rw [x103, nI_1, mm_up_s]
          have x102 : (mm_up (mm_up (mm_up τ 104 l (nI (u + 1))) 104 l 1) 103 l (nI (b + 1))) 102 l = nI a := by rw [mm_up_n (by decide), mm_up_n (by decide), mm_up_n (by decide)]; exact c2
          rw [x102, s2, nI_sub (by omega)]
          intro g'
          have le : b + 1 ≤ z - 2 - a := (nI_leI (by omega) (by omega)).mp g'
          refine third _ a (b + 1) 1 (sfr_up (sfr_up (sfr_up rf (by omega)) (by omega)) (by omega)) ha (by omega) (by omega) (by omega) ⟨?_, x102, mm_up_s, ?_⟩ (nx_2 z16 ⟨hs, ha, hb, hu, hsum⟩ gt le)
          · rw [mm_up_n (by decide), mm_up_n (by decide), mm_up_n (by decide)]; exact c1
          · rw [mm_up_n (by decide)]; exact mm_up_s
        · rw [cl]
          have x103 : (mm_up (mm_up τ 104 l (nI (u + 1))) 104 l 1) 103 l = nI b := by rw [mm_up_n (by decide), mm_up_n (by decide)]; exact c3
          rw [x103, nI_1, mm_up_s]
          have x102 : (mm_up (mm_up (mm_up τ 104 l (nI (u + 1))) 104 l 1) 103 l (nI (b + 1))) 102 l = nI a := by rw [mm_up_n (by decide), mm_up_n (by decide), mm_up_n (by decide)]; exact c2
          have x101 : (mm_up (mm_up (mm_up τ 104 l (nI (u + 1))) 104 l 1) 103 l (nI (b + 1))) 101 l = nI s := by rw [mm_up_n (by decide), mm_up_n (by decide), mm_up_n (by decide)]; exact c1
          have x104 : (mm_up (mm_up (mm_up τ 104 l (nI (u + 1))) 104 l 1) 103 l (nI (b + 1))) 104 l = 1 := by rw [mm_up_n (by decide)]; exact mm_up_s
          have fx : sfr l τ (mm_up (mm_up (mm_up τ 104 l (nI (u + 1))) 104 l 1) 103 l (nI (b + 1))) := sfr_up (sfr_up (sfr_up rf (by omega)) (by omega)) (by omega)
          rw [x102]
          generalize mm_up (mm_up (mm_up τ 104 l (nI (u + 1))) 104 l 1) 103 l (nI (b + 1)) = π at *
          intro gb
          have nb : ¬ b + 1 ≤ z - 2 - a := fun y => by
            rw [s2, nI_sub (by omega)] at gb
            exact gb (hI_le (by omega) y)
          have y102 : (mm_up π 103 l 1) 102 l = nI a := by rw [mm_up_n (by decide)]; exact x102
          refine kb_129_131 iv iv iv iv ?_ ?_
          · rw [cl, y102, nI_1, mm_up_s, s3]
            intro g'
            have le : a + 1 ≤ z - 3 := (nI_leI (by omega) (by omega)).mp g'
            refine fin _ s (a + 1) 1 1 (sfr_up (sfr_up fx (by omega)) (by omega)) (by omega) (by omega) (by omega) (by omega) (by omega) ⟨?_, mm_up_s, ?_, ?_⟩ (nx_3 z16 ⟨hs, ha, hb, hu, hsum⟩ gt nb le)
            · rw [mm_up_n (by decide), mm_up_n (by decide)]; exact x101
            · rw [mm_up_n (by decide)]; exact mm_up_s
            · rw [mm_up_n (by decide), mm_up_n (by decide)]; exact x104
          · rw [cl, y102, nI_1, mm_up_s, s3]
            intro ga
            have na : ¬ a + 1 ≤ z - 3 := fun y => ga (hI_le (by omega) y)
            have w101 : (mm_up (mm_up (mm_up π 103 l 1) 102 l (nI (a + 1))) 102 l 1) 101 l = nI s := by rw [mm_up_n (by decide), mm_up_n (by decide), mm_up_n (by decide)]; exact x101
            refine kb_129_160 iv iv iv iv ?_ ?_
            · rw [cl, w101, nI_1, mm_up_s]
              intro gz
              have gz' := (nI_leI (by omega) (by omega)).mp gz
              exact kb_129_191 (none' (fun x y v w h => by
                rcases Nat.lt_or_ge (cdv s a b u) (cdv x y v w) with k | k
                · have := (nx_4 z16 ⟨hs, ha, hb, hu, hsum⟩ gt nb na).2 x y v w h k
                  unfold cok at h
                  unfold cdv at *
                  omega
                · exact k) _ (sfr_up (sfr_up (sfr_up (sfr_up fx (by omega)) (by omega)) (by omega)) (by omega)))
            · rw [cl, w101, nI_1, mm_up_s]
              intro g'
              have lt : s + 1 < z := by
                rcases Nat.lt_or_ge (s + 1) z with y | y
                · exact y
                · exact absurd (hI_le (by omega) y) g'
              refine kb_129_187 (q1 _ (s + 1) 1 1 1 (sfr_up (sfr_up (sfr_up (sfr_up fx (by omega)) (by omega)) (by omega)) (by omega)) lt (by omega) (by omega) (by omega) (by omega) ⟨mm_up_s, ?_, ?_, ?_⟩ (Or.inr ⟨s, a, b, u, C, hs, ha, hb, hu, hsum, nx_4 z16 ⟨hs, ha, hb, hu, hsum⟩ gt nb na⟩))
              · rw [mm_up_n (by decide)]; exact mm_up_s
              · rw [mm_up_n (by decide), mm_up_n (by decide), mm_up_n (by decide)]; exact mm_up_s
              · rw [mm_up_n (by decide), mm_up_n (by decide), mm_up_n (by decide), mm_up_n (by decide)]; exact x104
  · rw [ez]
    intro g4
    have z4 : ¬ 4 ≤ z := fun y => g4 (hI_le (by omega) y)
    exact kb_129_17 (q0 τ rf (fun s a b u _ h => absurd h (by unfold cok; omega)) (fun _ x y v w h => by unfold cok at h; omega))
end
section
/-! the reference: takeBack, fits, mayBeLess, keepIfLess, what they do -/
def blk (a b u i : Nat) : Nat := if i < a then 0 else if i < a + b then 1 else if i < a + b + u then 2 else 3
theorem blk_4 (a b u i : Nat) : blk a b u i < 4 := by
  unfold blk
  split
  · decide
  · split
    · decide
    · split <;> decide
def dro (ja : Nat → Nat) (k r st : Nat) : Nat := dv (if ja k = r then st else (st + 2) % 4)
theorem dro_4 {ja : Nat → Nat} {k r st : Nat} (h : st < 4) : dro ja k r st < 4 := by
  unfold dro
  exact dv_4 (by split <;> omega)
def FTS (zz : Nat → Nat) (en : Nat → Nat → Nat) (ja : Nat → Nat) (n r s a b u : Nat) (D : Nat → Nat) : Prop := ∀ i, i < zz r → (en r ((s + i) % zz r) < n → D (en r ((s + i) % zz r)) = dro ja (en r ((s + i) % zz r)) r (blk a b u i)) ∧ ∀ s', s' < 4 → en r ((s + i) % zz r) = 41 + s' → s' = blk a b u i
def inR (zz : Nat → Nat) (en : Nat → Nat → Nat) (r k : Nat) : Prop := ∃ i, i < zz r ∧ en r i = k
def DLT (n : Nat) (τ : mm_S) (T : Nat → Prop) (E : Nat → Nat) : Prop := ∀ k, k < n → (T k → τ 94 k = nI (E k) ∧ E k < 4) ∧ (¬ T k → τ 94 k = -1)
theorem f128_n {τ : mm_S} {k r st : Nat} {ja : Nat → Nat} (hk : k < 21) (hr : r < 9) (ja9 : ja k < 9) (e80 : τ 80 k = nI (ja k)) (hs : st < 4) : f_128 τ (nI k) (nI r) (nI st) = nI (dro ja k r st) := by
  unfold f_128 dro
  rw [nI_clamp (by omega), e80]
  by_cases c : ja k = r
  · rw [c, if_pos rfl, if_pos rfl]
    rcases (show st = 0 ∨ st = 1 ∨ st = 2 ∨ st = 3 by omega) with e | e | e | e <;> subst e <;> decide
  · rw [if_neg (fun z => c (nI9 ja9 hr z)), if_neg c]
    rcases (show st = 0 ∨ st = 1 ∨ st = 2 ∨ st = 3 by omega) with e | e | e | e <;> subst e <;> decide
theorem c_130t {d n l g : Nat} {Q : mm_Q} {τ : mm_S} {T : Nat → Prop} {E : Nat → Nat} (hn : n ≤ 21) (e6 : τ 10 6 = nI n) (hl : l < 9) (e105 : τ 105 l = nI g) (g21 : g < 2 ^ 21) (hT : DLT n τ T E) (q : ∀ τ', (∀ c, c ≠ 94 → c ≠ 105 → τ' c = τ c) → (∀ x, x ≠ l → τ' 105 x = τ 105 x) → τ' 105 l = nI 0 → DLT n τ' (fun k => T k ∧ ¬ g.testBit k = true) E → Q none τ') : mD (d + 1) 130 [.ref 10, .int (nI l)] τ Q := by
  have cl : (nI l).toNatClampNeg = l := nI_clamp (by omega)
  refine ke_130 (kb_130_0 ?_)
  refine lp_dn (P := fun k => ∀ ρ : mm_S, (∀ c, c ≠ 94 → ρ c = τ c) → (∀ j, j < n → (j < k ∧ g.testBit j = true → ρ 94 j = -1) ∧ (¬ (j < k ∧ g.testBit j = true) → ρ 94 j = τ 94 j)) → mw d mt_130 Q 2 [some (.ref 10), some (.int (nI l)), some (.int (nI k))] [] ρ) n ?_ ?_ 0 (Nat.zero_le n) τ (fun _ _ => rfl) (fun j _ => ⟨fun z => absurd z.1 (Nat.not_lt_zero j), fun _ => rfl⟩)
  · intro ρ fr h
    refine kb_130_2 (fun _ => kb_130_37 (pk_in l 9 hl) (q _ (fun c h1 h2 => by rw [mm_up_n h2]; exact fr c h1) (fun x hx => by rw [cl, mm_up_o hx, fr 105 (by decide)]) (by rw [cl]; exact mm_up_s) (fun k hk => ?_))) (fun z => absurd (by rw [fr 10 (by decide), e6]; exact hI_le (by omega) (Nat.le_refl n)) z)
    rw [mm_up_n (by decide)]
    obtain ⟨h1, h2⟩ := h k hk
    obtain ⟨t1, t2⟩ := hT k hk
    refine ⟨fun ⟨a, b⟩ => by rw [h2 (fun z => b z.2)]; exact t1 a, fun no => ?_⟩
    by_cases b : g.testBit k = true
    · exact h1 ⟨hk, b⟩
    · rw [h2 (fun z => b z.2)]; exact t2 (fun a => no ⟨a, b⟩)
  · intro k hk ih ρ fr h
    have r105 : ρ 105 (nI l).toNatClampNeg = nI g := by rw [cl, fr 105 (by decide)]; exact e105
    have bit : ((ρ 105 (nI l).toNatClampNeg) >>> (nI k &&& 31)) &&& (1 : Int32) = 1 ↔ g.testBit k = true := by
      rw [r105]
      have := hs_b1 (m := g) (i := k) (by omega) (by omega)
      rw [← this]
      unfold hs
      constructor
      · intro z; rw [if_pos z]
      · intro z
        by_cases y : (nI g >>> (nI k &&& 31)) &&& (1 : Int32) = 1
        · exact y
        · rw [if_neg y] at z; exact absurd z (by decide)
    refine kb_130_2 (fun z => absurd z (by rw [fr 10 (by decide), e6]; exact hI_nle (by omega) hk)) (fun _ => kb_130_10 (pk_in l 9 hl) (fun z => kb_130_24 (pk_in k 21 (by omega)) ?_) (fun z => kb_130_31 ?_))
    · rw [nI_1, nI_clamp (show k < 2 ^ 31 by omega)]
      have b := bit.mp z
      refine ih _ (fun c hc => by rw [mm_up_n hc]; exact fr c hc) (fun j hj => ?_)
      by_cases e : j = k
      · subst e
        exact ⟨fun _ => mm_up_s, fun y => absurd ⟨by omega, b⟩ y⟩
      · rw [mm_up_o e]
        exact ⟨fun y => (h j hj).1 ⟨by omega, y.2⟩, fun y => (h j hj).2 (fun w => y ⟨by omega, w.2⟩)⟩
    · rw [nI_1]
      have b : ¬ g.testBit k = true := fun y => z (bit.mpr y)
      refine ih _ fr (fun j hj => ?_)
      by_cases e : j = k
      · subst e
        exact ⟨fun y => absurd y.2 b, fun y => (h j hj).2 (fun w => b w.2)⟩
      · exact ⟨fun y => (h j hj).1 ⟨by omega, y.2⟩, fun y => (h j hj).2 (fun w => y ⟨by omega, w.2⟩)⟩
theorem dlt_lx {n : Nat} {D D' : Nat → Nat} {k : Nat} (h : ∀ e, e < k → D e = D' e) (hk : k < n) (ge : ¬ D k < D' k) (ne : D k ≠ D' k) : ¬ lx n D D' := by
  rintro ⟨e, he, k1, k2⟩
  rcases Nat.lt_trichotomy e k with c | c | c
  · rw [h e c] at k2; exact Nat.lt_irrefl _ k2
  · subst c; exact ge k2
  · exact ne (k1 k c)
theorem c_133t {d n : Nat} {Q : mm_Q} {τ : mm_S} {T : Nat → Prop} {E D0 : Nat → Nat} (hn : n ≤ 21) (e6 : τ 10 6 = nI n) (hT : DLT n τ T E) (fd : τ 10 29 = 0 ∨ (τ 10 29 = 1 ∧ ∀ e, e < n → τ 95 e = nI (D0 e) ∧ D0 e < 4)) (q1 : (τ 10 29 = 0 ∨ (∃ k, k < n ∧ ¬ T k) ∨ lx n E D0) → Q (some (.int 1)) τ) (q0 : τ 10 29 = 1 → (∀ D, (∀ k, k < n → T k → D k = E k) → ¬ lx n D D0) → Q (some (.int 0)) τ) : mD (d + 1) 133 [.ref 10] τ Q := by
  refine ke_133 (kb_133_0 ?_)
  rcases fd with f0 | ⟨f1, best⟩
  · have fin : ∀ x1, mw d mt_133 Q 71 [some (.ref 10), some (.int x1)] [] τ := fun x1 => kb_133_71 (fun _ => kb_133_78 (q1 (Or.inl f0))) (fun z => absurd f0 z)
    exact kb_133_2 (fun _ => fin _) (fun _ => kb_133_10 (fun _ => fin _) (fun z => absurd f0 z))
  · have f10 : ¬ τ 10 29 = 0 := fun z => by rw [f1] at z; exact absurd z (by decide)
    refine lp_dn (P := fun k => (∀ j, j < k → T j ∧ E j = D0 j) → mw d mt_133 Q 2 [some (.ref 10), some (.int (nI k))] [] τ) n ?_ ?_ 0 (Nat.zero_le n) (fun j hj => absurd hj (Nat.not_lt_zero j))
    · intro h
      refine kb_133_2 (fun _ => kb_133_71 (fun z => absurd z f10) (fun _ => kb_133_82 (q0 f1 (fun D hD => ?_)))) (fun z => absurd (by rw [e6]; exact hI_le (by omega) (Nat.le_refl n)) z)
      rintro ⟨e, he, _, k2⟩
      rw [hD e he (h e he).1, (h e he).2] at k2
      exact Nat.lt_irrefl _ k2
    · intro k hk ih h
      have iv : vp_in (nI k) 21 := pk_in k 21 (by omega)
      have ck : (nI k).toNatClampNeg = k := nI_clamp (by omega)
      obtain ⟨b1, b2⟩ := best k hk
      refine kb_133_2 (fun z => absurd z (by rw [e6]; exact hI_nle (by omega) hk)) (fun _ => kb_133_10 (fun z => absurd z f10) (fun _ => kb_133_17 iv (fun z => kb_133_27 (q1 (Or.inr (Or.inl ⟨k, hk, fun t => ?_⟩)))) (fun z => kb_133_29 iv iv (fun y => kb_133_65 ?_) (fun y => kb_133_44 iv iv (fun w => kb_133_63 (q0 f1 (fun D hD => ?_))) (fun w => kb_133_59 (q1 (Or.inr (Or.inr ⟨k, hk, fun j hj => (h j hj).2, ?_⟩))))))))
      · obtain ⟨t1, t2⟩ := (hT k hk).1 t
        rw [ck, t1] at z
        exact nI_m1 (by omega) z
      all_goals
        have t : T k := Classical.not_not.mp (fun no => z (by rw [ck]; exact (hT k hk).2 no))
        obtain ⟨t1, t2⟩ := (hT k hk).1 t
      · rw [ck, t1, b1] at y
        have y' := (nI_eq (by omega) (by omega)).mp y
        rw [nI_1]
        exact ih (fun j hj => by
          by_cases e : j = k
          · rw [e]; exact ⟨t, y'⟩
          · exact h j (by omega))
      · rw [ck, t1, b1] at y w
        have w' := (nI_leI (by omega) (by omega)).mp w
        have y' : E k ≠ D0 k := fun e => y (by rw [e])
        refine dlt_lx (k := k) (fun j hj => by rw [hD j (by omega) (h j hj).1]; exact (h j hj).2) hk ?_ ?_
        · rw [hD k hk t]; omega
        · rw [hD k hk t]; exact y'
      · rw [ck, t1, b1] at w
        rcases Nat.lt_or_ge (E k) (D0 k) with c | c
        · exact c
        · exact absurd (hI_le (by omega) c) w
/-- the best of all that have been seen -/
def FBr (n : Nat) (RL : (Nat → Nat) → Prop) (τ : mm_S) (X : (Nat → Nat) → Prop) : Prop := (τ 10 29 = 0 ∧ ∀ D, ¬ X D) ∨ (τ 10 29 = 1 ∧ ∃ D0, RL D0 ∧ (∀ e, e < n → τ 95 e = nI (D0 e) ∧ D0 e < 4) ∧ ∀ D, X D → ¬ lx n D D0)
theorem FBr_cg {n : Nat} {RL X X' : (Nat → Nat) → Prop} {τ τ' : mm_S} (h1 : τ' 10 29 = τ 10 29) (h2 : τ' 95 = τ 95) (hX : ∀ D, X' D → X D) (F : FBr n RL τ X) : FBr n RL τ' X' := by
  rcases F with ⟨a, b⟩ | ⟨a, D, b, c, e⟩
  · exact Or.inl ⟨h1.trans a, fun D z => b D (hX D z)⟩
  · exact Or.inr ⟨h1.trans a, D, b, fun e he => by rw [h2]; exact c e he, fun D' z => e D' (hX D' z)⟩
theorem c_134t {d n : Nat} {Q : mm_Q} {τ : mm_S} {T : Nat → Prop} {E : Nat → Nat} {RL X : (Nat → Nat) → Prop} (hn : n ≤ 21) (e6 : τ 10 6 = nI n) (hT : DLT n τ T E) (tot : ∀ k, k < n → T k) (hE : RL E) (F : FBr n RL τ X) (q : ∀ τ', (∀ c, c ≠ 10 → c ≠ 95 → τ' c = τ c) → (∀ j, j ≠ 29 → τ' 10 j = τ 10 j) → FBr n RL τ' (fun D => X D ∨ ∀ k, k < n → D k = E k) → Q none τ') : mD (d + 2) 134 [.ref 10] τ Q := by
  have store : (∀ D, X D → ¬ lx n D E) → mw (d + 1) mt_134 Q 8 [some (.ref 10), none] [] τ := fun best => by
    refine kb_134_8 ?_
    refine lp_dn (P := fun k => ∀ ρ : mm_S, (∀ c, c ≠ 10 → c ≠ 95 → ρ c = τ c) → (∀ j, j ≠ 29 → ρ 10 j = τ 10 j) → ρ 10 29 = 1 → (∀ j, j < k → ρ 95 j = nI (E j)) → mw (d + 1) mt_134 Q 15 [some (.ref 10), some (.int (nI k))] [] ρ) n ?_ ?_ 0 (Nat.zero_le n) _ (fun c h _ => mm_up_n h) (fun j hj => mm_up_o hj) mm_up_s (fun j hj => absurd hj (Nat.not_lt_zero j))
    · intro ρ f1 f2 f3 h
      refine kb_134_15 (fun _ => kb_134_41 (q ρ f1 f2 (Or.inr ⟨f3, E, hE, fun e he => ⟨h e he, ((hT e he).1 (tot e he)).2⟩, fun D hD => ?_⟩))) (fun g => absurd (by rw [f2 6 (by decide), e6]; exact hI_le (by omega) (Nat.le_refl n)) g)
      rcases hD with z | z
      · exact best D z
      · rintro ⟨e, he, _, k2⟩
        rw [z e he] at k2; exact Nat.lt_irrefl _ k2
    · intro k hk ih ρ f1 f2 f3 h
      have ck : (nI k).toNatClampNeg = k := nI_clamp (by omega)
      refine kb_134_15 (fun g => absurd g (by rw [f2 6 (by decide), e6]; exact hI_nle (by omega) hk)) (fun _ => kb_134_23 (pk_in k 21 (by omega)) (pk_in k 21 (by omega)) ?_)
      rw [nI_1, ck, f1 94 (by decide) (by decide), ((hT k hk).1 (tot k hk)).1]
      refine ih _ (fun c h1 h2 => by rw [mm_up_n h2]; exact f1 c h1 h2) (fun j hj => by rw [mm_up_n (by decide)]; exact f2 j hj) (by rw [mm_up_n (by decide)]; exact f3) (fun j hj => ?_)
      by_cases e : j = k
      · rw [e]; exact mm_up_s
      · rw [mm_up_o e]; exact h j (by omega)
  refine ke_134 (kb_134_0 ?_)
  rcases F with ⟨a, no⟩ | ⟨a, D0, r0, b0, mn⟩
  · exact c_133t (D0 := fun _ => 0) hn e6 hT (Or.inl a) (fun _ => kb_134_4 (fun z => absurd z (by decide)) (fun _ => store (fun D hD => absurd hD (no D)))) (fun z _ => by rw [a] at z; exact absurd z (by decide))
  · refine c_133t hn e6 hT (Or.inr ⟨a, b0⟩) (fun h => kb_134_4 (fun z => absurd z (by decide)) (fun _ => store (fun D hD k => ?_))) (fun _ h => kb_134_4 (fun _ => kb_134_7 (q τ (fun _ _ _ => rfl) (fun _ _ => rfl) (Or.inr ⟨a, D0, r0, b0, fun D hD => ?_⟩))) (fun z => absurd rfl z))
    · rcases h with h | ⟨j, hj, h⟩ | h
      · rw [a] at h; exact absurd h (by decide)
      · exact h (tot j hj)
      · obtain ⟨e1, he1, k1, k2⟩ := h
        obtain ⟨e2, he2, k3, k4⟩ := k
        refine mn D hD ?_
        rcases Nat.lt_trichotomy e1 e2 with c | c | c
        · exact ⟨e1, he1, fun e' h => by rw [k3 e' (by omega), k1 e' h], by rw [k3 e1 c]; exact k2⟩
        · subst c; exact ⟨e1, he1, fun e' h => by rw [k3 e' h, k1 e' h], by omega⟩
        · exact ⟨e2, he2, fun e' h => by rw [k3 e' h, k1 e' (by omega)], by rw [← k1 e2 c]; exact k4⟩
    · rcases hD with z | z
      · exact mn D z
      · exact h D (fun k hk _ => z k hk)
/-- fits: it goes on as far as the cut agrees -/
theorem c_132t {d n l r s a b u : Nat} {Q : mm_Q} {τ : mm_S} {zz ja : Nat → Nat} {en : Nat → Nat → Nat} {T : Nat → Prop} {E : Nat → Nat} (hn : n ≤ 21) (hl : l < 9) (hr : r < 9) (e100 : τ 100 l = nI r) (z16 : zz r ≤ 16) (e89 : τ 89 r = nI (zz r)) (R : ∀ i, i < zz r → τ 90 (16 * r + i) = nI (en r i) ∧ (en r i < n ∨ ∃ s', s' < 4 ∧ en r i = 41 + s')) (hj : ∀ k, k < n → ja k < 9 ∧ τ 80 k = nI (ja k)) (hc : cok (zz r) s a b u) (C : CU τ l s a b u) (hT : DLT n τ T E) (e105 : τ 105 l = nI 0)
    (q1 : ∀ τ' E' g, (∀ c, c ≠ 94 → c ≠ 105 → τ' c = τ c) → (∀ x, x ≠ l → τ' 105 x = τ 105 x) → τ' 105 l = nI g → g < 2 ^ 21 → (∀ k, k < n → (g.testBit k = true ↔ inR zz en r k ∧ ¬ T k)) → DLT n τ' (fun k => T k ∨ inR zz en r k) E' → (∀ k, k < n → T k → E' k = E k) → FTS zz en ja n r s a b u E' → Q (some (.int 1)) τ')
    (q0 : ∀ τ' E' g, (∀ c, c ≠ 94 → c ≠ 105 → τ' c = τ c) → (∀ x, x ≠ l → τ' 105 x = τ 105 x) → τ' 105 l = nI g → g < 2 ^ 21 → (∀ k, k < n → g.testBit k = true → ¬ T k) → DLT n τ' (fun k => T k ∨ g.testBit k = true) E' → (∀ k, k < n → T k → E' k = E k) → (∀ D, (∀ k, k < n → T k → D k = E k) → ¬ FTS zz en ja n r s a b u D) → Q (some (.int 0)) τ') : mD (d + 2) 132 [.ref 10, .int (nI l)] τ Q := by
  obtain ⟨hs, ha, hb, hu, hsum⟩ := id hc
  obtain ⟨c1, c2, c3, c4⟩ := C
  have cl : (nI l).toNatClampNeg = l := nI_clamp (by omega)
  have iv := pk_in l 9 hl
  obtain ⟨z, hz⟩ : ∃ z, z = zz r := ⟨_, rfl⟩
  rw [← hz] at z16 e89 R hs hsum
  refine ke_132 (kb_132_0 iv (by rw [cl, e100]; exact pk_in r 9 hr) ?_)
  rw [cl, e100, nI_clamp (show r < 2 ^ 31 by omega), e89]
  -- what has been taken in up to i
  obtain ⟨W, hW⟩ : ∃ W : Nat → Nat → Prop, W = fun i k => ∃ j, j < i ∧ en r ((s + j) % z) = k := ⟨_, rfl⟩
  refine lp_dn (P := fun i => ∀ (ρ : mm_S) (E' : Nat → Nat) (g : Nat), (∀ c, c ≠ 94 → c ≠ 105 → ρ c = τ c) → (∀ x, x ≠ l → ρ 105 x = τ 105 x) → ρ 105 l = nI g → g < 2 ^ 21 → (∀ k, k < n → (g.testBit k = true ↔ W i k ∧ ¬ T k)) → DLT n ρ (fun k => T k ∨ g.testBit k = true) E' → (∀ k, k < n → T k → E' k = E k) → (∀ j, j < i → (en r ((s + j) % z) < n → E' (en r ((s + j) % z)) = dro ja (en r ((s + j) % z)) r (blk a b u j)) ∧ ∀ s', s' < 4 → en r ((s + j) % z) = 41 + s' → s' = blk a b u j) → ∀ o5 o6 o7, mw (d + 1) mt_132 Q 17 [some (.ref 10), some (.int (nI l)), some (.int (nI r)), some (.int (nI z)), some (.int (nI i)), o5, o6, o7] [] ρ) z ?_ ?_ 0 (Nat.zero_le z) τ E 0 (fun _ _ _ => rfl) (fun _ _ => rfl) e105 (by decide) (fun k _ => ⟨fun y => by rw [tb_0] at y; exact absurd y (by decide), fun ⟨y, _⟩ => by rw [hW] at y; obtain ⟨j, hj, _⟩ := y; exact absurd hj (Nat.not_lt_zero j)⟩) (fun k hk => ⟨fun y => (hT k hk).1 (y.elim (fun w => w) (fun w => by rw [tb_0] at w; exact absurd w (by decide))), fun y => (hT k hk).2 (fun w => y (Or.inl w))⟩) (fun _ _ _ => rfl) (fun j hj => absurd hj (Nat.not_lt_zero j)) none none none
  · intro ρ E' g fr f5 eg g21 gb dl ag ft o5 o6 o7
    have all : ∀ k, k < n → (W z k ↔ inR zz en r k) := fun k _ => by
      rw [hW]
      constructor
      · rintro ⟨j, _, e⟩
        exact ⟨(s + j) % z, by rw [← hz]; exact Nat.mod_lt _ (by omega), e⟩
      · rintro ⟨i, hi, e⟩
        rw [← hz] at hi
        refine ⟨(i + z - s) % z, Nat.mod_lt _ (by omega), ?_⟩
        have : (s + (i + z - s) % z) % z = i := by
          rw [Nat.add_mod_mod, show s + (i + z - s) = i + z by omega, Nat.add_mod_right, Nat.mod_eq_of_lt hi]
        rw [this]; exact e
    refine kb_132_17 (fun _ => kb_132_198 (q1 ρ E' g fr f5 eg g21 (fun k hk => by rw [gb k hk, all k hk]) (fun k hk => ⟨fun y => (dl k hk).1 ?_, fun y => (dl k hk).2 (fun w => y ?_)⟩) ag (fun i hi => ?_))) (fun g => absurd (hI_le (by omega) (Nat.le_refl z)) g)
    · by_cases t : T k
      · exact Or.inl t
      · exact Or.inr ((gb k hk).mpr ⟨(all k hk).mpr (y.resolve_left t), t⟩)
    · rcases w with w | w
      · exact Or.inl w
      · exact Or.inr ((all k hk).mp ((gb k hk).mp w).1)
    · rw [← hz] at hi ⊢; exact ft i hi
  · intro i hi ih ρ E' g fr f5 eg g21 gb dl ag ft o5 o6 o7
    have ml : (s + i) % z < z := Nat.mod_lt _ (by omega)
    obtain ⟨w, ew⟩ : ∃ w, w = en r ((s + i) % z) := ⟨_, rfl⟩
    obtain ⟨r90, kind⟩ := R _ ml
    rw [← ew] at r90 kind
    obtain ⟨st, est⟩ : ∃ st, st = blk a b u i := ⟨_, rfl⟩
    have st4 : st < 4 := by rw [est]; exact blk_4 a b u i
    have ex : (16 : Int32) * nI r + (ρ 101 (nI l).toNatClampNeg + nI i - (ρ 101 (nI l).toNatClampNeg + nI i) / nI z * nI z) = nI (16 * r + (s + i) % z) := by
      rw [cl, fr 101 (by decide) (by decide), c1, nI_add, rem_n0 z (by omega) (by omega) _ (by omega), nI_16]
    have e90 : ρ 90 ((16 : Int32) * nI r + (ρ 101 (nI l).toNatClampNeg + nI i - (ρ 101 (nI l).toNatClampNeg + nI i) / nI z * nI z)).toNatClampNeg = nI w := by
      rw [ex, nI_clamp (by omega), fr 90 (by decide) (by decide)]; exact r90
    have x102 : ρ 102 (nI l).toNatClampNeg = nI a := by rw [cl, fr 102 (by decide) (by decide)]; exact c2
    have x103 : ρ 103 (nI l).toNatClampNeg = nI b := by rw [cl, fr 103 (by decide) (by decide)]; exact c3
    have x104 : ρ 104 (nI l).toNatClampNeg = nI u := by rw [cl, fr 104 (by decide) (by decide)]; exact c4
    -- a cut that doesn't agree
    have bad : (∀ D : Nat → Nat, (∀ k, k < n → T k → D k = E k) → (∀ j, j < i → (en r ((s + j) % z) < n → D (en r ((s + j) % z)) = dro ja (en r ((s + j) % z)) r (blk a b u j))) → ¬ ((w < n → D w = dro ja w r st) ∧ ∀ s', s' < 4 → w = 41 + s' → s' = st)) → Q (some (.int 0)) ρ := fun no => by
      refine q0 ρ E' g fr f5 eg g21 (fun k hk y => ((gb k hk).mp y).2) dl ag (fun D hD F => ?_)
      refine no D hD (fun j hj => ?_) ?_
      · have := (F j (by rw [← hz]; omega)).1; rw [← hz] at this; exact this
      · have := F i (by rw [← hz]; omega); rw [← hz, ← ew, ← est] at this; exact this
    -- what any agreeing vector is on the joins taken in
    have forced : ∀ D : Nat → Nat, (∀ k, k < n → T k → D k = E k) → (∀ j, j < i → (en r ((s + j) % z) < n → D (en r ((s + j) % z)) = dro ja (en r ((s + j) % z)) r (blk a b u j))) → ∀ k, k < n → (T k ∨ g.testBit k = true) → D k = E' k := fun D hD hj' k hk y => by
      by_cases t : T k
      · rw [hD k hk t, ag k hk t]
      · have := ((gb k hk).mp (y.resolve_left t)).1
        rw [hW] at this
        obtain ⟨j, hj1, ej⟩ := this
        have a1 := hj' j hj1 (by rw [ej]; exact hk)
        have a2 := (ft j hj1).1 (by rw [ej]; exact hk)
        rw [ej] at a1 a2
        rw [a1, a2]
    have next : ∀ (ρ' : mm_S) (E2 : Nat → Nat) (g2 : Nat), (∀ c, c ≠ 94 → c ≠ 105 → ρ' c = τ c) → (∀ x, x ≠ l → ρ' 105 x = τ 105 x) → ρ' 105 l = nI g2 → g2 < 2 ^ 21 → (∀ k, k < n → (g2.testBit k = true ↔ W (i + 1) k ∧ ¬ T k)) → DLT n ρ' (fun k => T k ∨ g2.testBit k = true) E2 → (∀ k, k < n → T k → E2 k = E k) → (∀ j, j < i → (en r ((s + j) % z) < n → E2 (en r ((s + j) % z)) = dro ja (en r ((s + j) % z)) r (blk a b u j)) ∧ ∀ s', s' < 4 → en r ((s + j) % z) = 41 + s' → s' = blk a b u j) → ((w < n → E2 w = dro ja w r st) ∧ ∀ s', s' < 4 → w = 41 + s' → s' = st) → ∀ o5 o6 o7, mw (d + 1) mt_132 Q 192 [some (.ref 10), some (.int (nI l)), some (.int (nI r)), some (.int (nI z)), some (.int (nI i)), some (.int o5), some (.int o6), o7] [] ρ' := fun ρ' E2 g2 h1 h2 h3 h4 h5 h6 h7 h8 h9 o5 o6 o7 => by
      refine kb_132_192 ?_
      rw [nI_1]
      refine ih ρ' E2 g2 h1 h2 h3 h4 h5 h6 h7 (fun j hj' => ?_) _ _ _
      by_cases e : j = i
      · subst e; rw [← ew, ← est]; exact h9
      · exact h8 j (by omega)
    have Wi : ∀ k, W (i + 1) k ↔ W i k ∨ w = k := fun k => by
      rw [hW]
      constructor
      · rintro ⟨j, hj', e⟩
        by_cases c : j = i
        · subst c; exact Or.inr (by rw [ew]; exact e)
        · exact Or.inl ⟨j, by omega, e⟩
      · rintro (⟨j, hj', e⟩ | e)
        · exact ⟨j, by omega, e⟩
        · exact ⟨i, by omega, by rw [← ew]; exact e⟩
    have same : n ≤ w ∨ (w < n ∧ (T w ∨ g.testBit w = true)) → ∀ k, k < n → (g.testBit k = true ↔ W (i + 1) k ∧ ¬ T k) := fun h k hk => by
      rw [gb k hk, Wi k]
      constructor
      · rintro ⟨y1, y2⟩; exact ⟨Or.inl y1, y2⟩
      · rintro ⟨y1, y2⟩
        refine ⟨?_, y2⟩
        rcases y1 with y1 | y1
        · exact y1
        · subst y1
          rcases h with h | ⟨_, h⟩
          · omega
          · exact ((gb _ hk).mp (h.resolve_left y2)).1
    -- a side
    have side : ∀ o7, 41 ≤ w → mw (d + 1) mt_132 Q 122 [some (.ref 10), some (.int (nI l)), some (.int (nI r)), some (.int (nI z)), some (.int (nI i)), some (.int (nI w)), some (.int (nI st)), o7] [] ρ := fun o7 w41 => by
      obtain ⟨s', s4, es⟩ := kind.resolve_left (by omega)
      have e127 : f_127 (nI w) = nI s' := by
        unfold f_127
        rw [es, show (20 : Int32) = nI 20 from rfl, show (21 : Int32) = nI 21 from rfl, nI_sub (by omega), nI_sub (by omega)]
        congr 1; omega
      refine kb_132_122 (c_127 ?_)
      rw [e127]
      refine kb_132_127 (fun y => ?_) (fun y => kb_132_132 (bad (fun D _ _ F => y ?_)))
      · have y' := (nI_eq (by omega) (by omega)).mp y
        exact next ρ E' g fr f5 eg g21 (same (Or.inl (by omega))) dl ag ft ⟨fun h => absurd h (by omega), fun s'' h4 e => by omega⟩ _ _ _
      · rw [F.2 s' s4 es]
    have join : ∀ o7, w < n → mw (d + 1) mt_132 Q 134 [some (.ref 10), some (.int (nI l)), some (.int (nI r)), some (.int (nI z)), some (.int (nI i)), some (.int (nI w)), some (.int (nI st)), o7] [] ρ := fun o7 hw => by
      have ik : vp_in (nI w) 21 := pk_in w 21 (by omega)
      have cw : (nI w).toNatClampNeg = w := nI_clamp (by omega)
      obtain ⟨ja9, e80⟩ := hj w hw
      have d4 := dro_4 (ja := ja) (k := w) (r := r) st4
      refine kb_132_134 (c_128 ik ?_)
      rw [f128_n (ja := ja) (by omega) hr ja9 (by rw [fr 80 (by decide) (by decide)]; exact e80) st4]
      refine kb_132_143 ik (fun y => kb_132_156 ik iv iv ik ?_ (fun y2 => absurd ?_ y2)) (fun y => kb_132_178 ik (fun y2 => ?_) (fun y2 => kb_132_190 (bad (fun D hD hj' F => y2 ?_))))
      · intro _
        rw [cw] at y
        have nt : ¬ (T w ∨ g.testBit w = true) := fun t => by
          have := ((dl w hw).1 t)
          rw [this.1] at y
          exact nI_m1 (by omega) y
        have r105 : (mm_up ρ 94 (nI w).toNatClampNeg (nI (dro ja w r st))) 105 (nI l).toNatClampNeg = nI g := by rw [mm_up_n (by decide), cl]; exact eg
        rw [r105, one_sh (by omega), or_bit, cw, cl]
        have tb : ∀ k, (g ||| 2 ^ w).testBit k = true ↔ g.testBit k = true ∨ w = k := fun k => by
          rw [Nat.testBit_or, Nat.testBit_two_pow, Bool.or_eq_true]; simp
        refine next _ (fun k => if k = w then dro ja w r st else E' k) (g ||| 2 ^ w) (fun c h1 h2 => by rw [mm_up_n h2, mm_up_n h1]; exact fr c h1 h2) (fun x hx => by rw [mm_up_o hx, mm_up_n (by decide)]; exact f5 x hx) mm_up_s (Nat.or_lt_two_pow (n := 21) g21 (Nat.pow_lt_pow_right (by decide) (by omega))) (fun k hk => ?_) (fun k hk => ?_) (fun k hk t => ?_) (fun j hj' => ?_) ⟨fun _ => if_pos rfl, fun s' h4 e => by omega⟩ _ _ _
        · rw [tb k, Wi k, gb k hk]
          constructor
          · rintro (⟨y1, y2⟩ | y1)
            · exact ⟨Or.inl y1, y2⟩
            · exact ⟨Or.inr y1, fun t => nt (Or.inl (y1 ▸ t))⟩
          · rintro ⟨y1 | y1, y2⟩
            · exact Or.inl ⟨y1, y2⟩
            · exact Or.inr y1
        · rw [mm_up_n (by decide)]
          by_cases e : k = w
          · subst e
            refine ⟨fun _ => ⟨by show _ = nI (if k = k then _ else _); rw [if_pos rfl]; exact mm_up_s, by show (if k = k then dro ja k r st else E' k) < 4; rw [if_pos rfl]; exact d4⟩, fun y => absurd (Or.inr ((tb k).mpr (Or.inr rfl))) y⟩
          · rw [mm_up_o e]
            simp only [if_neg e]
            refine ⟨fun y => (dl k hk).1 (y.imp (fun t => t) (fun t => ((tb k).mp t).resolve_right (fun z => e z.symm))), fun y => (dl k hk).2 (fun t => y (t.imp (fun t => t) (fun t => (tb k).mpr (Or.inl t))))⟩
        · show (if k = w then dro ja w r st else E' k) = E k
          rw [if_neg (fun e : k = w => nt (Or.inl (e ▸ t)))]; exact ag k hk t
        · obtain ⟨z1, z2⟩ := ft j hj'
          refine ⟨fun h => ?_, z2⟩
          show (if en r ((s + j) % z) = w then dro ja w r st else E' (en r ((s + j) % z))) = _
          by_cases e : en r ((s + j) % z) = w
          · exfalso
            refine nt ?_
            by_cases t : T w
            · exact Or.inl t
            · exact Or.inr ((gb w hw).mpr ⟨by rw [hW]; exact ⟨j, hj', e⟩, t⟩)
          · rw [if_neg e]; exact z1 h
      · rw [mm_up_n (by decide)]; exact mm_up_s
      all_goals
        rw [cw] at y
        have t : T w ∨ g.testBit w = true := Classical.not_not.mp (fun no => y ((dl w hw).2 no))
        obtain ⟨t1, t2⟩ := (dl w hw).1 t
        rw [cw, t1] at y2
      · have y3 := (nI_eq (by omega) (by omega)).mp y2
        exact next ρ E' g fr f5 eg g21 (same (Or.inr ⟨hw, t⟩)) dl ag ft ⟨fun _ => y3, fun s' h4 e => by omega⟩ _ _ _
      · rw [cw, t1, ← forced D hD hj' w hw t, F.1 hw]
    have pick : ∀ o7, (nI w < (21 : Int32) → mw (d + 1) mt_132 Q 134 [some (.ref 10), some (.int (nI l)), some (.int (nI r)), some (.int (nI z)), some (.int (nI i)), some (.int (nI w)), some (.int (nI st)), o7] [] ρ) ∧ (¬ nI w < (21 : Int32) → mw (d + 1) mt_132 Q 122 [some (.ref 10), some (.int (nI l)), some (.int (nI r)), some (.int (nI z)), some (.int (nI i)), some (.int (nI w)), some (.int (nI st)), o7] [] ρ) := fun o7 => by
      rcases kind with h | ⟨s', h4, h⟩
      · exact ⟨fun _ => join o7 h, fun y => absurd ((nI_ltI (b := 21) (by omega) (by omega)).mpr (by omega)) y⟩
      · exact ⟨fun y => absurd ((nI_ltI (b := 21) (by omega) (by omega)).mp y) (by omega), fun _ => side o7 (by omega)⟩
    refine kb_132_17 (fun g => absurd g (hI_nle (by omega) hi)) (fun _ => kb_132_23 iv (nI_ne0 (by omega) (by omega)) (by rw [ex]; exact pk_in (16 * r + (s + i) % z) 144 (by omega)) iv ?_ ?_)
    · rw [e90, x102]
      intro y
      have y' := (nI_leI (by omega) (by omega)).mp y
      refine kb_132_61 iv iv (fun y2 => ?_) (fun y2 => ?_)
      · rw [x102, x103, nI_add] at y2
        have y2' := (nI_leI (by omega) (by omega)).mp y2
        refine kb_132_83 iv iv iv (fun y3 => ?_) (fun y3 => ?_)
        · rw [x102, x103, x104, nI_add, nI_add] at y3
          have y3' := (nI_leI (by omega) (by omega)).mp y3
          have e : st = 3 := by rw [est]; unfold blk; rw [if_neg (by omega), if_neg (by omega), if_neg (by omega)]
          rw [e] at pick
          exact kb_132_112 (pick _).1 (pick _).2
        · rw [x102, x103, x104, nI_add, nI_add] at y3
          have y3' : i < a + b + u := by
            rcases Nat.lt_or_ge i (a + b + u) with c | c
            · exact c
            · exact absurd (hI_le (by omega) c) y3
          have e : st = 2 := by rw [est]; unfold blk; rw [if_neg (by omega), if_neg (by omega), if_pos (by omega)]
          rw [e] at pick
          exact kb_132_108 (pick _).1 (pick _).2
      · rw [x102, x103, nI_add] at y2
        have y2' : i < a + b := by
          rcases Nat.lt_or_ge i (a + b) with c | c
          · exact c
          · exact absurd (hI_le (by omega) c) y2
        have e : st = 1 := by rw [est]; unfold blk; rw [if_neg (by omega), if_pos (by omega)]
        rw [e] at pick
        exact kb_132_79 (pick _).1 (pick _).2
    · rw [e90, x102]
      intro y
      have y' : i < a := by
        rcases Nat.lt_or_ge i a with c | c
        · exact c
        · exact absurd (hI_le (by omega) c) y
      have e : st = 0 := by rw [est]; unfold blk; rw [if_pos y']
      rw [e] at pick
      exact kb_132_57 (pick _).1 (pick _).2
end
section
/-! the reference: search finds the least of all vectors that agree with a cut at each room -/
def LT (zz : Nat → Nat) (en : Nat → Nat → Nat) (ro : Nat → Nat) (l k : Nat) : Prop := ∃ i, i < l ∧ inR zz en (ro i) k
def FE (zz : Nat → Nat) (en : Nat → Nat → Nat) (ja ro : Nat → Nat) (n lv l : Nat) (D : Nat → Nat) : Prop := ∀ i, l ≤ i → i < lv → ∃ s a b u, cok (zz (ro i)) s a b u ∧ FTS zz en ja n (ro i) s a b u D
def AG (n : Nat) (T : Nat → Prop) (D E : Nat → Nat) : Prop := ∀ k, k < n → T k → D k = E k
def Cov (zz : Nat → Nat) (en : Nat → Nat → Nat) (ja ro : Nat → Nat) (n lv l : Nat) (X : (Nat → Nat) → Prop) (E0 : Nat → Nat) (ob : Nat → Prop) (D : Nat → Nat) : Prop := X D ∨ (AG n (LT zz en ro l) D E0 ∧ FE zz en ja ro n lv (l + 1) D ∧ ∃ s a b u, cok (zz (ro l)) s a b u ∧ ob (cdv s a b u) ∧ FTS zz en ja n (ro l) s a b u D)
theorem cdv_inj {s a b u x y v w : Nat} (h1 : a < 16) (h2 : b < 16) (h3 : u < 16) (h4 : y < 16) (h5 : v < 16) (h6 : w < 16) (h : cdv s a b u = cdv x y v w) : s = x ∧ a = y ∧ b = v ∧ u = w := by
  unfold cdv at h; omega
theorem DLT_cg {n : Nat} {τ : mm_S} {T T' : Nat → Prop} {E : Nat → Nat} (h : DLT n τ T E) (e : ∀ k, k < n → (T k ↔ T' k)) : DLT n τ T' E := fun k hk => ⟨fun t => (h k hk).1 ((e k hk).mpr t), fun t => (h k hk).2 (fun y => t ((e k hk).mp y))⟩
theorem DLT_E {n : Nat} {τ : mm_S} {T : Nat → Prop} {E E' : Nat → Nat} (h : DLT n τ T E) (e : ∀ k, k < n → T k → E k = E' k) : DLT n τ T E' := fun k hk => ⟨fun t => by rw [← e k hk t]; exact (h k hk).1 t, (h k hk).2⟩
theorem FTS_cg {zz : Nat → Nat} {en : Nat → Nat → Nat} {ja : Nat → Nat} {n r s a b u : Nat} {D D' : Nat → Nat} (e : ∀ k, k < n → inR zz en r k → D' k = D k) (h : FTS zz en ja n r s a b u D) : FTS zz en ja n r s a b u D' := fun i hi => by
  obtain ⟨h1, h2⟩ := h i hi
  refine ⟨fun hk => ?_, h2⟩
  rw [e _ hk ⟨(s + i) % zz r, Nat.mod_lt _ (by omega), rfl⟩]
  exact h1 hk
theorem fts_eq {zz : Nat → Nat} {en : Nat → Nat → Nat} {ja : Nat → Nat} {n r s a b u : Nat} {D D' : Nat → Nat} (hc : cok (zz r) s a b u) (h : FTS zz en ja n r s a b u D) (h' : FTS zz en ja n r s a b u D') : ∀ k, k < n → inR zz en r k → D k = D' k := by
  rintro k hk ⟨i, hi, e⟩
  have hs : s < zz r := hc.1
  have e1 : (s + (i + zz r - s) % zz r) % zz r = i := by
    rw [Nat.add_mod_mod, show s + (i + zz r - s) = i + zz r by omega, Nat.add_mod_right, Nat.mod_eq_of_lt hi]
  have a1 := (h ((i + zz r - s) % zz r) (Nat.mod_lt _ (by omega))).1
  have a2 := (h' ((i + zz r - s) % zz r) (Nat.mod_lt _ (by omega))).1
  rw [e1, e] at a1 a2
  rw [a1 hk, a2 hk]
theorem c_133u {d n : Nat} {Q : mm_Q} {τ : mm_S} {T : Nat → Prop} {E : Nat → Nat} {RL X : (Nat → Nat) → Prop} (hn : n ≤ 21) (e6 : τ 10 6 = nI n) (hT : DLT n τ T E) (F : FBr n RL τ X) (q1 : Q (some (.int 1)) τ) (q0 : FBr n RL τ (fun D => X D ∨ AG n T D E) → Q (some (.int 0)) τ) : mD (d + 1) 133 [.ref 10] τ Q := by
  rcases F with ⟨a, no⟩ | ⟨a, D0, r0, b0, mn⟩
  · exact c_133t (D0 := fun _ => 0) hn e6 hT (Or.inl a) (fun _ => q1) (fun z _ => by rw [a] at z; exact absurd z (by decide))
  · exact c_133t hn e6 hT (Or.inr ⟨a, b0⟩) (fun _ => q1) (fun _ h => q0 (Or.inr ⟨a, D0, r0, b0, fun D hD => hD.elim (mn D) (fun z => h D z)⟩))
def SX (τ0 : mm_S) (n lv : Nat) (zz ja ro : Nat → Nat) (en : Nat → Nat → Nat) : Prop := (n ≤ 21) ∧ (τ0 10 6 = nI n) ∧ (lv ≤ 9) ∧ (τ0 10 37 = nI lv) ∧ (∀ l, l < lv → ro l < 9 ∧ τ0 100 l = nI (ro l)) ∧ (∀ l, l < lv → zz (ro l) ≤ 16 ∧ τ0 89 (ro l) = nI (zz (ro l))) ∧ (∀ l, l < lv → ∀ i, i < zz (ro l) → τ0 90 (16 * ro l + i) = nI (en (ro l) i) ∧ (en (ro l) i < n ∨ ∃ s', s' < 4 ∧ en (ro l) i = 41 + s')) ∧ (∀ k, k < n → ja k < 9 ∧ τ0 80 k = nI (ja k)) ∧ (∀ k, k < n → LT zz en ro lv k)
theorem SX.n21 {τ0 : mm_S} {n lv : Nat} {zz ja ro : Nat → Nat} {en : Nat → Nat → Nat} (h : SX τ0 n lv zz ja ro en) : n ≤ 21 := h.1
theorem SX.e6 {τ0 : mm_S} {n lv : Nat} {zz ja ro : Nat → Nat} {en : Nat → Nat → Nat} (h : SX τ0 n lv zz ja ro en) : τ0 10 6 = nI n := h.2.1
theorem SX.lv9 {τ0 : mm_S} {n lv : Nat} {zz ja ro : Nat → Nat} {en : Nat → Nat → Nat} (h : SX τ0 n lv zz ja ro en) : lv ≤ 9 := h.2.2.1
theorem SX.e37 {τ0 : mm_S} {n lv : Nat} {zz ja ro : Nat → Nat} {en : Nat → Nat → Nat} (h : SX τ0 n lv zz ja ro en) : τ0 10 37 = nI lv := h.2.2.2.1
theorem SX.rm {τ0 : mm_S} {n lv : Nat} {zz ja ro : Nat → Nat} {en : Nat → Nat → Nat} (h : SX τ0 n lv zz ja ro en) : ∀ l, l < lv → ro l < 9 ∧ τ0 100 l = nI (ro l) := h.2.2.2.2.1
theorem SX.zq {τ0 : mm_S} {n lv : Nat} {zz ja ro : Nat → Nat} {en : Nat → Nat → Nat} (h : SX τ0 n lv zz ja ro en) : ∀ l, l < lv → zz (ro l) ≤ 16 ∧ τ0 89 (ro l) = nI (zz (ro l)) := h.2.2.2.2.2.1
theorem SX.rg {τ0 : mm_S} {n lv : Nat} {zz ja ro : Nat → Nat} {en : Nat → Nat → Nat} (h : SX τ0 n lv zz ja ro en) : ∀ l, l < lv → ∀ i, i < zz (ro l) → τ0 90 (16 * ro l + i) = nI (en (ro l) i) ∧ (en (ro l) i < n ∨ ∃ s', s' < 4 ∧ en (ro l) i = 41 + s') := h.2.2.2.2.2.2.1
theorem SX.jj {τ0 : mm_S} {n lv : Nat} {zz ja ro : Nat → Nat} {en : Nat → Nat → Nat} (h : SX τ0 n lv zz ja ro en) : ∀ k, k < n → ja k < 9 ∧ τ0 80 k = nI (ja k) := h.2.2.2.2.2.2.2.1
theorem SX.tot {τ0 : mm_S} {n lv : Nat} {zz ja ro : Nat → Nat} {en : Nat → Nat → Nat} (h : SX τ0 n lv zz ja ro en) : ∀ k, k < n → LT zz en ro lv k := h.2.2.2.2.2.2.2.2
theorem LT_s {zz : Nat → Nat} {en : Nat → Nat → Nat} {ro : Nat → Nat} {l k : Nat} : LT zz en ro (l + 1) k ↔ LT zz en ro l k ∨ inR zz en (ro l) k := by
  unfold LT
  constructor
  · rintro ⟨i, hi, h⟩
    by_cases e : i = l
    · subst e; exact Or.inr h
    · exact Or.inl ⟨i, by omega, h⟩
  · rintro (⟨i, hi, h⟩ | h)
    · exact ⟨i, by omega, h⟩
    · exact ⟨l, by omega, h⟩
theorem lev_t {d n lv l : Nat} {Q : mm_Q} {τ0 : mm_S} {zz ja ro : Nat → Nat} {en : Nat → Nat → Nat} {E0 : Nat → Nat} {X RL : (Nat → Nat) → Prop} (S : SX τ0 n lv zz ja ro en) (hl : l < lv)
    (deep : ∀ (τ4 : mm_S) (E' : Nat → Nat) (s a b u : Nat) (X' : (Nat → Nat) → Prop), SI τ0 τ4 → cok (zz (ro l)) s a b u → DLT n τ4 (LT zz en ro (l + 1)) E' → AG n (LT zz en ro l) E' E0 → FTS zz en ja n (ro l) s a b u E' → (∀ i, l < i → i < lv → τ4 105 i = nI 0) → FBr n RL τ4 X' →
      (∀ τ5, SI τ0 τ5 → (∀ c i, 101 ≤ c → c ≤ 105 → i ≤ l → τ5 c i = τ4 c i) → (∀ i, l < i → i < lv → τ5 105 i = nI 0) → DLT n τ5 (LT zz en ro (l + 1)) E' → FBr n RL τ5 (fun D => X' D ∨ (AG n (LT zz en ro (l + 1)) D E' ∧ FE zz en ja ro n lv (l + 1) D)) → mw (d + 2) mt_131 Q 70 [some (.ref 10), some (.int (nI l))] [] τ5) →
      mw (d + 2) mt_131 Q 108 [some (.ref 10), some (.int (nI l))] [] τ4)
    (τ : mm_S) (I0 : SI τ0 τ) (hnone : τ 101 l = -1) (D0 : DLT n τ (LT zz en ro l) E0) (z0 : ∀ i, l ≤ i → i < lv → τ 105 i = nI 0) (F0 : FBr n RL τ X)
    (K : ∀ τ', SI τ0 τ' → (∀ c i, 101 ≤ c → c ≤ 105 → i < l → τ' c i = τ c i) → (∀ i, l ≤ i → i < lv → τ' 105 i = nI 0) → DLT n τ' (LT zz en ro l) E0 → FBr n RL τ' (fun D => X D ∨ (AG n (LT zz en ro l) D E0 ∧ FE zz en ja ro n lv l D)) → mw (d + 2) mt_131 Q 70 [some (.ref 10), some (.int (nI l + (-1)))] [] τ') :
    mw (d + 2) mt_131 Q 70 [some (.ref 10), some (.int (nI l))] [] τ := by
  have lv9 := S.lv9
  obtain ⟨r9, e100⟩ := S.rm l hl
  obtain ⟨z16, e89⟩ := S.zq l hl
  have RR := S.rg l hl
  have n21 := S.n21
  obtain ⟨r, er⟩ : ∃ r, r = ro l := ⟨_, rfl⟩
  rw [← er] at r9 e100 z16 e89 RR
  have inner : ∀ k (τ1 : mm_S), SI τ0 τ1 → (∀ c i, 101 ≤ c → c ≤ 105 → i < l → τ1 c i = τ c i) → (∀ i, l < i → i < lv → τ1 105 i = nI 0) → (∃ E g, DLT n τ1 (fun k => LT zz en ro l k ∨ g.testBit k = true) E ∧ τ1 105 l = nI g ∧ g < 2 ^ 21 ∧ (∀ k, k < n → g.testBit k = true → ¬ LT zz en ro l k) ∧ AG n (LT zz en ro l) E E0) → (∃ ob : Nat → Prop, ((τ1 101 l = -1 ∧ 70000 ≤ k ∧ ∀ x, ¬ ob x) ∨ ∃ s a b u, cok (zz r) s a b u ∧ CU τ1 l s a b u ∧ 69999 ≤ cdv s a b u + k ∧ ∀ x, ob x ↔ x ≤ cdv s a b u) ∧ FBr n RL τ1 (Cov zz en ja ro n lv l X E0 ob)) → mw (d + 2) mt_131 Q 70 [some (.ref 10), some (.int (nI l))] [] τ1 := by
    intro k
    induction k with
    | zero =>
      rintro τ1 _ _ _ _ ⟨ob, ⟨_, h, _⟩ | ⟨s, a, b, u, hc, _, h, _⟩, _⟩
      · omega
      · unfold cok at hc; unfold cdv at h; omega
    | succ k ih =>
      rintro τ1 I1 B1 z1 ⟨E, g, dl, eg, g21, gn, ag⟩ ⟨ob, V1, F1⟩
      have x6 : τ1 10 6 = nI n := by rw [I1.2 6 (by decide)]; exact S.e6
      refine kb_131_70 (fun g => absurd g (nI_pos (by omega))) (fun _ => kb_131_74 (c_130t n21 x6 (by omega) eg g21 dl (fun τ2 f2 f5 e0 dl2 => kb_131_79 ?_)))
      have D2 : DLT n τ2 (LT zz en ro l) E0 := DLT_E (DLT_cg dl2 (fun k hk => ⟨fun ⟨y, w⟩ => y.resolve_right w, fun y => ⟨Or.inl y, fun w => gn k hk w y⟩⟩)) ag
      have I2 : SI τ0 τ2 := ⟨fun c h1 h2 h3 h4 => by rw [f2 c h2 (by omega)]; exact I1.1 c h1 h2 h3 h4, fun j hj => by rw [f2 10 (by decide) (by decide)]; exact I1.2 j hj⟩
      have y100 : τ2 100 l = nI r := by rw [I2.1 100 (by decide) (by decide) (by decide) (by omega)]; exact e100
      have y89 : τ2 89 r = nI (zz r) := by rw [I2.1 89 (by decide) (by decide) (by decide) (by omega)]; exact e89
      have c2 : ∀ c i, 101 ≤ c → c ≤ 104 → τ2 c i = τ1 c i := fun c i h1 h2 => by rw [f2 c (by omega) (by omega)]
      have F2 : FBr n RL τ2 (Cov zz en ja ro n lv l X E0 ob) := FBr_cg (by rw [f2 10 (by decide) (by decide)]) (f2 95 (by decide) (by decide)) (fun _ h => h) F1
      have B2 : ∀ c i, 101 ≤ c → c ≤ 105 → i < l → τ2 c i = τ c i := fun c i h1 h2 h3 => by
        by_cases e : c = 105
        · subst e; rw [f5 i (by omega)]; exact B1 105 i h1 h2 h3
        · rw [c2 c i h1 (by omega)]; exact B1 c i h1 h2 h3
      have z2 : ∀ i, l ≤ i → i < lv → τ2 105 i = nI 0 := fun i h1 h2 => by
        by_cases e : i = l
        · subst e; exact e0
        · rw [f5 i e]; exact z1 i (by omega) h2
      have V2 : (τ2 101 l = -1 ∧ 70000 ≤ k + 1 ∧ ∀ x, ¬ ob x) ∨ ∃ s a b u, cok (zz r) s a b u ∧ CU τ2 l s a b u ∧ 69999 ≤ cdv s a b u + (k + 1) ∧ ∀ x, ob x ↔ x ≤ cdv s a b u := by
        rcases V1 with ⟨h, h'⟩ | ⟨s, a, b, u, h1, C, h'⟩
        · exact Or.inl ⟨by rw [c2 101 l (by omega) (by omega)]; exact h, h'⟩
        · refine Or.inr ⟨s, a, b, u, h1, ?_, h'⟩
          unfold CU
          rw [c2 101 l (by omega) (by omega), c2 102 l (by omega) (by omega), c2 103 l (by omega) (by omega), c2 104 l (by omega) (by omega)]
          exact C
      clear V1 F1 dl2 dl
      refine c_129t (by omega) r9 y100 y89 z16 (V2.imp (fun h => h.1) (fun ⟨s, a, b, u, h1, C, _⟩ => ⟨s, a, b, u, h1.1, h1.2.1, h1.2.2.1, h1.2.2.2.1, h1.2.2.2.2, C⟩)) (fun τ3 f3 no1 no2 => kb_131_84 (fun _ => kb_131_87 ?_) (fun g => absurd rfl g)) (fun τ3 s a b u f3 hs ha hb hu hsum C3 hcd => kb_131_84 (fun g => absurd g (by decide)) (fun _ => kb_131_93 ?_))
      · refine K τ3 ⟨fun c h1 h2 h3 h4 => ?_, fun j hj => ?_⟩ (fun c i h1 h2 h3 => ?_) (fun i h1 h2 => ?_) (fun k hk => ?_) (FBr_cg (f3 10 29 (by omega)) (funext (fun x => f3 95 x (by omega))) (fun D hD => ?_) F2)
        · funext x; rw [f3 c x (by omega)]; exact congrFun (I2.1 c h1 h2 h3 h4) x
        · rw [f3 10 j (by omega)]; exact I2.2 j hj
        · rw [f3 c i (by omega)]; exact B2 c i h1 h2 h3
        · rw [f3 105 i (by omega)]; exact z2 i h1 h2
        · rw [f3 94 k (by omega)]; exact D2 k hk
        · rcases hD with y | ⟨y1, y2⟩
          · exact Or.inl y
          · obtain ⟨x, y, v, w, hc, hf⟩ := y2 l (Nat.le_refl l) hl
            refine Or.inr ⟨y1, fun i h1 h2 => y2 i (by omega) h2, x, y, v, w, hc, ?_, hf⟩
            rw [← er] at hc
            rcases V2 with ⟨h, _⟩ | ⟨s, a, b, u, h1, C, _, h2⟩
            · exact absurd hc (no2 h x y v w)
            · exact (h2 _).mpr (no1 s a b u C h1 x y v w hc)
      · have I3 : SI τ0 τ3 := ⟨fun c h1 h2 h3 h4 => by funext x; rw [f3 c x (by omega)]; exact congrFun (I2.1 c h1 h2 h3 h4) x, fun j hj => by rw [f3 10 j (by omega)]; exact I2.2 j hj⟩
        have B3 : ∀ c i, 101 ≤ c → c ≤ 105 → i < l → τ3 c i = τ c i := fun c i h1 h2 h3 => by rw [f3 c i (by omega)]; exact B2 c i h1 h2 h3
        have z3 : ∀ i, l ≤ i → i < lv → τ3 105 i = nI 0 := fun i h1 h2 => by rw [f3 105 i (by omega)]; exact z2 i h1 h2
        have D3 : DLT n τ3 (LT zz en ro l) E0 := fun k hk => by rw [f3 94 k (by omega)]; exact D2 k hk
        have F3 : FBr n RL τ3 (Cov zz en ja ro n lv l X E0 ob) := FBr_cg (f3 10 29 (by omega)) (funext (fun x => f3 95 x (by omega))) (fun _ h => h) F2
        have k3 := I3.1
        have hc : cok (zz r) s a b u := ⟨hs, ha, hb, hu, hsum⟩
        obtain ⟨cnt, stp⟩ : 69999 ≤ cdv s a b u + k ∧ ∀ x y v w, cok (zz r) x y v w → cdv x y v w ≤ cdv s a b u → ob (cdv x y v w) ∨ (x = s ∧ y = a ∧ v = b ∧ w = u) := by
          have eqs : ∀ x y v w, cok (zz r) x y v w → cdv x y v w ≤ cdv s a b u → cdv s a b u ≤ cdv x y v w → (x = s ∧ y = a ∧ v = b ∧ w = u) := fun x y v w h h1 h2 => by
            unfold cok at h
            exact cdv_inj (by omega) (by omega) (by omega) (by omega) (by omega) (by omega) (Nat.le_antisymm h1 h2)
          rcases hcd with ⟨e, mn⟩ | ⟨s0, a0, b0, u0, C0, hs0, ha0, hb0, hu0, hsum0, nx⟩
          · refine ⟨?_, fun x y v w h h1 => Or.inr (eqs x y v w h h1 (mn x y v w h))⟩
            rcases V2 with ⟨_, h, _⟩ | ⟨s', a', b', u', h1, C', _⟩
            · unfold cdv; omega
            · rw [C'.1] at e
              exact absurd e (nI_m1 (by unfold cok at h1; omega))
          · rcases V2 with ⟨h, _⟩ | ⟨s', a', b', u', h1, C', h2, h3⟩
            · rw [C0.1] at h
              exact absurd h (nI_m1 (by omega))
            · have h1' := h1
              unfold cok at h1'
              unfold CU at C0 C'
              have q1 := (nI_eq (by omega) (by omega)).mp (C'.1.symm.trans C0.1)
              have q2 := (nI_eq (by omega) (by omega)).mp (C'.2.1.symm.trans C0.2.1)
              have q3 := (nI_eq (by omega) (by omega)).mp (C'.2.2.1.symm.trans C0.2.2.1)
              have q4 := (nI_eq (by omega) (by omega)).mp (C'.2.2.2.symm.trans C0.2.2.2)
              subst q1; subst q2; subst q3; subst q4
              have := nx.1
              refine ⟨by omega, fun x y v w h hle => ?_⟩
              rcases Nat.lt_or_ge (cdv s' a' b' u') (cdv x y v w) with c | c
              · exact Or.inr (eqs x y v w h hle (nx.2 x y v w h c))
              · exact Or.inl ((h3 _).mpr c)
        -- one cut further
        have again : ∀ (τ5 : mm_S) (E2 : Nat → Nat) (g2 : Nat), SI τ0 τ5 → (∀ c i, 101 ≤ c → c ≤ 104 → i ≤ l → τ5 c i = τ3 c i) → (∀ i, i < l → τ5 105 i = τ3 105 i) → (∀ i, l < i → i < lv → τ5 105 i = nI 0) → DLT n τ5 (fun k => LT zz en ro l k ∨ g2.testBit k = true) E2 → τ5 105 l = nI g2 → g2 < 2 ^ 21 → (∀ k, k < n → g2.testBit k = true → ¬ LT zz en ro l k) → AG n (LT zz en ro l) E2 E0 → FBr n RL τ5 (Cov zz en ja ro n lv l X E0 (fun x => x ≤ cdv s a b u)) → mw (d + 2) mt_131 Q 70 [some (.ref 10), some (.int (nI l))] [] τ5 := fun τ5 E2 g2 I5 h1 h2 h3 h4 h5 h6 h7 h8 F5 => by
          refine ih τ5 I5 (fun c i p1 p2 p3 => ?_) h3 ⟨E2, g2, h4, h5, h6, h7, h8⟩ ⟨_, Or.inr ⟨s, a, b, u, hc, ?_, cnt, fun x => Iff.rfl⟩, F5⟩
          · rw [← B3 c i p1 p2 p3]
            by_cases e : c = 105
            · subst e; exact h2 i p3
            · exact h1 c i p1 (by omega) (by omega)
          · unfold CU
            rw [h1 101 l (by omega) (by omega) (Nat.le_refl l), h1 102 l (by omega) (by omega) (Nat.le_refl l), h1 103 l (by omega) (by omega) (Nat.le_refl l), h1 104 l (by omega) (by omega) (Nat.le_refl l)]
            exact C3
        have stpD : ∀ D, Cov zz en ja ro n lv l X E0 (fun x => x ≤ cdv s a b u) D → Cov zz en ja ro n lv l X E0 ob D ∨ (AG n (LT zz en ro l) D E0 ∧ FE zz en ja ro n lv (l + 1) D ∧ FTS zz en ja n r s a b u D) := fun D hD => by
          rcases hD with y | ⟨y1, y2, x, y, v, w, h1, h2, h3⟩
          · exact Or.inl (Or.inl y)
          · rw [← er] at h1 h3
            rcases stp x y v w h1 h2 with o | ⟨rfl, rfl, rfl, rfl⟩
            · exact Or.inl (Or.inr ⟨y1, y2, x, y, v, w, by rw [← er]; exact h1, o, by rw [← er]; exact h3⟩)
            · exact Or.inr ⟨y1, y2, h3⟩
        refine c_132t (zz := zz) (ja := ja) (en := en) n21 (by omega) r9 (by rw [k3 100 (by decide) (by decide) (by decide) (by omega)]; exact e100) z16 (by rw [k3 89 (by decide) (by decide) (by decide) (by omega)]; exact e89) (fun i hi => by rw [k3 90 (by decide) (by decide) (by decide) (by omega)]; exact RR i hi) (fun k hk => by rw [k3 80 (by decide) (by decide) (by decide) (by omega)]; exact S.jj k hk) hc C3 D3 (z3 l (Nat.le_refl l) hl) (fun τ4 E' g4 f4 f5' eg4 g421 gb4 dl4 ag4 ft4 => ?_) (fun τ4 E' g4 f4 f5' eg4 g421 gn4 dl4 ag4 no4 => ?_)
        all_goals
          have I4 : SI τ0 τ4 := ⟨fun c h1 h2 h3 h4 => by rw [f4 c h2 (by omega)]; exact I3.1 c h1 h2 h3 h4, fun j hj => by rw [f4 10 (by decide) (by decide)]; exact I3.2 j hj⟩
          have g4' : ∀ c i, 101 ≤ c → c ≤ 104 → τ4 c i = τ3 c i := fun c i h1 h2 => by rw [f4 c (by omega) (by omega)]
          have z4 : ∀ i, l < i → i < lv → τ4 105 i = nI 0 := fun i h1 h2 => by rw [f5' i (by omega)]; exact z3 i (by omega) h2
          have F4 : FBr n RL τ4 (Cov zz en ja ro n lv l X E0 ob) := FBr_cg (by rw [f4 10 (by decide) (by decide)]) (f4 95 (by decide) (by decide)) (fun _ h => h) F3
        · have dlg : ∀ τ5 : mm_S, DLT n τ5 (LT zz en ro (l + 1)) E' → DLT n τ5 (fun k => LT zz en ro l k ∨ g4.testBit k = true) E' := fun τ5 h => DLT_cg h (fun k hk => by
            rw [LT_s, ← er]
            constructor
            · intro y
              by_cases t : LT zz en ro l k
              · exact Or.inl t
              · exact Or.inr ((gb4 k hk).mpr ⟨y.resolve_left t, t⟩)
            · exact fun y => y.imp (fun t => t) (fun t => ((gb4 k hk).mp t).1))
          have dl5 : DLT n τ4 (LT zz en ro (l + 1)) E' := DLT_cg dl4 (fun k hk => by rw [LT_s, ← er])
          have agD : ∀ D, AG n (LT zz en ro l) D E0 → FTS zz en ja n r s a b u D → AG n (LT zz en ro (l + 1)) D E' := fun D h1 h2 k hk t => by
            rw [LT_s, ← er] at t
            rcases t with t | t
            · rw [h1 k hk t, ag4 k hk t]
            · exact fts_eq hc h2 ft4 k hk t
          refine kb_131_98 (fun g => absurd g (by decide)) (fun _ => kb_131_101 (c_133u n21 (by rw [I4.2 6 (by decide)]; exact S.e6) dl5 F4 (kb_131_105 (fun g => absurd g (by decide)) (fun _ => ?_)) (fun F5 => kb_131_105 (fun _ => ?_) (fun g => absurd rfl g))))
          · refine deep τ4 E' s a b u _ I4 (by rw [← er]; exact hc) dl5 ag4 (by rw [← er]; exact ft4) z4 F4 (fun τ5 I5 h1 h2 h3 F5 => ?_)
            refine again τ5 E' g4 I5 (fun c i p1 p2 p3 => by rw [h1 c i p1 (by omega) p3]; exact g4' c i p1 p2) (fun i p => by rw [h1 105 i (by omega) (by omega) (by omega)]; exact f5' i (by omega)) h2 (dlg τ5 h3) (by rw [h1 105 l (by omega) (by omega) (Nat.le_refl l)]; exact eg4) g421 (fun k hk y => ((gb4 k hk).mp y).2) ag4 (FBr_cg rfl rfl (fun D hD => ?_) F5)
            rcases stpD D hD with y | ⟨y1, y2, y3⟩
            · exact Or.inl y
            · exact Or.inr ⟨agD D y1 y3, y2⟩
          · refine again τ4 E' g4 I4 (fun c i p1 p2 _ => g4' c i p1 p2) (fun i p => f5' i (by omega)) z4 (dlg τ4 dl5) eg4 g421 (fun k hk y => ((gb4 k hk).mp y).2) ag4 (FBr_cg rfl rfl (fun D hD => ?_) F5)
            rcases stpD D hD with y | ⟨y1, y2, y3⟩
            · exact Or.inl y
            · exact Or.inr (agD D y1 y3)
        · refine kb_131_98 (fun _ => ?_) (fun g => absurd rfl g)
          refine again τ4 E' g4 I4 (fun c i p1 p2 _ => g4' c i p1 p2) (fun i p => f5' i (by omega)) z4 dl4 eg4 g421 gn4 ag4 (FBr_cg rfl rfl (fun D hD => ?_) F4)
          rcases stpD D hD with y | ⟨y1, y2, y3⟩
          · exact y
          · exact absurd y3 (no4 D y1)
  refine inner 70000 τ I0 (fun _ _ _ _ _ => rfl) (fun i h1 h2 => z0 i (by omega) h2) ⟨E0, 0, DLT_cg D0 (fun k _ => ⟨Or.inl, fun y => y.elim (fun t => t) (fun t => by rw [tb_0] at t; exact absurd t (by decide))⟩), z0 l (Nat.le_refl l) hl, by decide, fun k _ y => by rw [tb_0] at y; exact absurd y (by decide), fun _ _ _ => rfl⟩ ⟨fun _ => False, Or.inl ⟨hnone, Nat.le_refl _, fun _ h => h⟩, FBr_cg rfl rfl (fun D hD => ?_) F0⟩
  rcases hD with y | ⟨_, _, _, _, _, _, _, y, _⟩
  · exact y
  · exact absurd y (fun h => h)
theorem sea_t {d n lv : Nat} {Q : mm_Q} {τ0 : mm_S} {zz ja ro : Nat → Nat} {en : Nat → Nat → Nat} (S : SX τ0 n lv zz ja ro en) :
    ∀ (e l : Nat) (E0 : Nat → Nat) (X : (Nat → Nat) → Prop) (τ : mm_S), l + e + 1 = lv → (∀ i, i < l → ∃ s a b u, cok (zz (ro i)) s a b u ∧ FTS zz en ja n (ro i) s a b u E0) → SI τ0 τ → τ 101 l = -1 → DLT n τ (LT zz en ro l) E0 → (∀ i, l ≤ i → i < lv → τ 105 i = nI 0) → FBr n (FE zz en ja ro n lv 0) τ X →
    (∀ τ', SI τ0 τ' → (∀ c i, 101 ≤ c → c ≤ 105 → i < l → τ' c i = τ c i) → (∀ i, l ≤ i → i < lv → τ' 105 i = nI 0) → DLT n τ' (LT zz en ro l) E0 → FBr n (FE zz en ja ro n lv 0) τ' (fun D => X D ∨ (AG n (LT zz en ro l) D E0 ∧ FE zz en ja ro n lv l D)) → mw (d + 2) mt_131 Q 70 [some (.ref 10), some (.int (nI l + (-1)))] [] τ') →
    mw (d + 2) mt_131 Q 70 [some (.ref 10), some (.int (nI l))] [] τ := by
  have n21 := S.n21
  have lv9 := S.lv9
  have low : ∀ (l : Nat) (E0 E' : Nat → Nat) (s a b u : Nat), (∀ i, i < l → ∃ s a b u, cok (zz (ro i)) s a b u ∧ FTS zz en ja n (ro i) s a b u E0) → AG n (LT zz en ro l) E' E0 → cok (zz (ro l)) s a b u → FTS zz en ja n (ro l) s a b u E' → ∀ i, i < l + 1 → ∃ s a b u, cok (zz (ro i)) s a b u ∧ FTS zz en ja n (ro i) s a b u E' := fun l E0 E' s a b u h1 h2 h3 h4 i hi => by
    by_cases e : i = l
    · subst e; exact ⟨s, a, b, u, h3, h4⟩
    · obtain ⟨s', a', b', u', k1, k2⟩ := h1 i (by omega)
      exact ⟨s', a', b', u', k1, FTS_cg (fun k hk t => h2 k hk ⟨i, by omega, t⟩) k2⟩
  intro e
  induction e with
  | zero =>
    intro l E0 X τ hl lo I hnone D0 z0 F0 K
    refine lev_t S (by omega) (fun τ4 E' s a b u X' I4 hc dl ag ft z4 F4 back => ?_) τ I hnone D0 z0 F0 K
    have tot : ∀ k, k < n → LT zz en ro (l + 1) k := fun k hk => by have := S.tot k hk; rw [show lv = l + 1 by omega] at this; exact this
    refine kb_131_108 (fun _ => kb_131_118 (c_134t n21 (by rw [I4.2 6 (by decide)]; exact S.e6) dl tot (fun i _ hi => low l E0 E' s a b u lo ag hc ft i (by omega)) F4 (fun τ5 f5 f5' F5 => kb_131_122 (back τ5 ⟨fun c h1 h2 h3 h4 => by rw [f5 c h1 h3]; exact I4.1 c h1 h2 h3 h4, fun j hj => by rw [f5' j hj]; exact I4.2 j hj⟩ (fun c i h1 h2 _ => by rw [f5 c (by omega) (by omega)]) (fun i h1 h2 => by omega) (fun k hk => by rw [f5 94 (by decide) (by decide)]; exact dl k hk) (FBr_cg rfl rfl (fun D hD => hD.imp (fun y => y) (fun y k hk => y.1 k hk (tot k hk))) F5))))) (fun g => absurd ?_ g)
    rw [nI_1, I4.2 37 (by decide), S.e37, show l + 1 = lv by omega]
  | succ e ihe =>
    intro l E0 X τ hl lo I hnone D0 z0 F0 K
    refine lev_t S (by omega) (fun τ4 E' s a b u X' I4 hc dl ag ft z4 F4 back => ?_) τ I hnone D0 z0 F0 K
    refine kb_131_108 (fun g => absurd g ?_) (fun _ => kb_131_125 ?_ ?_)
    · rw [nI_1, I4.2 37 (by decide), S.e37]
      exact fun w => absurd ((nI_eq (by omega) (by omega)).mp w) (by omega)
    · rw [nI_1]; exact pk_in (l + 1) 9 (by omega)
    · rw [nI_1, nI_clamp (show l + 1 < 2 ^ 31 by omega)]
      refine ihe (l + 1) E' X' _ (by omega) (low l E0 E' s a b u lo ag hc ft) ⟨fun c h1 h2 h3 h4 => by rw [mm_up_n (by omega)]; exact I4.1 c h1 h2 h3 h4, fun j hj => by rw [mm_up_n (by decide)]; exact I4.2 j hj⟩ mm_up_s (fun k hk => by rw [mm_up_n (by decide)]; exact dl k hk) (fun i h1 h2 => by rw [mm_up_n (by decide)]; exact z4 i (by omega) h2) (FBr_cg (by rw [mm_up_n (by decide)]) (mm_up_n (by decide)) (fun _ h => h) F4) (fun τ' I' B' z' d' F' => ?_)
      rw [nI_pm]
      refine back τ' I' (fun c i h1 h2 h3 => ?_) (fun i h1 h2 => z' i (by omega) h2) d' F'
      rw [B' c i h1 h2 (by omega)]
      by_cases e : c = 101
      · subst e; rw [mm_up_o (by omega)]
      · rw [mm_up_n e]
/-- what search finds: the least vector that agrees with some cut of each drawn room's ring -/
def RLx (σ : mm_S) (zz : Nat → Nat) (en : Nat → Nat → Nat) (ja : Nat → Nat) (n : Nat) (D : Nat → Nat) : Prop := ∀ r, r < 9 → ¬ σ 75 r = 0 → ∃ s a b u, cok (zz r) s a b u ∧ FTS zz en ja n r s a b u D
def LVt (σ τ : mm_S) (r : Nat) : Prop := (∀ c, c ≠ 10 → c ≠ 100 → c ≠ 105 → τ c = σ c) ∧ (∀ j, j ≠ 37 → τ 10 j = σ 10 j) ∧ ∃ (lv : Nat) (ro : Nat → Nat), lv ≤ r ∧ τ 10 37 = nI lv ∧ (∀ l, l < lv → ro l < 9 ∧ ¬ σ 75 (ro l) = 0 ∧ τ 100 l = nI (ro l) ∧ τ 105 l = nI 0) ∧ ∀ a, a < r → ¬ σ 75 a = 0 → ∃ l, l < lv ∧ ro l = a
theorem c_131t {d n : Nat} {Q : mm_Q} {σ : mm_S} {zz ja : Nat → Nat} {en : Nat → Nat → Nat} (hn : n ≤ 21) (e6 : σ 10 6 = nI n) (h1 : ∃ r, r < 9 ∧ ¬ σ 75 r = 0) (e29 : σ 10 29 = 0) (e94 : ∀ k, k < n → σ 94 k = -1)
    (zq : ∀ r, r < 9 → ¬ σ 75 r = 0 → zz r ≤ 16 ∧ σ 89 r = nI (zz r))
    (rg : ∀ r, r < 9 → ¬ σ 75 r = 0 → ∀ i, i < zz r → σ 90 (16 * r + i) = nI (en r i) ∧ (en r i < n ∨ ∃ s', s' < 4 ∧ en r i = 41 + s'))
    (jj : ∀ k, k < n → ja k < 9 ∧ σ 80 k = nI (ja k)) (tot : ∀ k, k < n → ∃ r, r < 9 ∧ ¬ σ 75 r = 0 ∧ inR zz en r k)
    (q : ∀ τ, SJ σ τ → FBr n (RLx σ zz en ja n) τ (RLx σ zz en ja n) → Q none τ) : mD (d + 3) 131 [.ref 10] σ Q := by
  refine ke_131 (kb_131_0 ?_)
  refine lp_dn (P := fun r => ∀ τ : mm_S, LVt σ τ r → mw (d + 2) mt_131 Q 7 [some (.ref 10), some (.int (nI r))] [] τ) 9 ?_ ?_ 0 (by omega) _ ⟨fun c h _ _ => mm_up_n h, fun j hj => mm_up_o hj, 0, fun _ => 0, Nat.le_refl 0, mm_up_s, fun l hl => absurd hl (by omega), fun a ha => absurd ha (by omega)⟩
  · intro τ ⟨f1, f2, lv, ro, lv9, e37, rm, sj⟩
    have lv1 : 1 ≤ lv := by
      obtain ⟨r, r9, hr⟩ := h1
      obtain ⟨l, hl, _⟩ := sj r r9 hr
      omega
    refine kb_131_7 (fun _ => kb_131_61 (pk_in 0 9 (by omega)) ?_) (fun g => absurd (by decide) g)
    have I0 : SI (mm_up τ 101 0 (-1)) (mm_up τ 101 0 (-1)) := ⟨fun _ _ _ _ _ => rfl, fun _ _ => rfl⟩
    have fx : ∀ c, c ≠ 10 → c ≠ 100 → c ≠ 105 → c ≠ 101 → (mm_up τ 101 0 (-1)) c = σ c := fun c a b c' d' => by rw [mm_up_n d']; exact f1 c a b c'
    have S : SX (mm_up τ 101 0 (-1)) n lv zz ja ro en := ⟨hn, by rw [mm_up_n (by decide), f2 6 (by decide)]; exact e6, lv9, by rw [mm_up_n (by decide)]; exact e37, fun l hl => ⟨(rm l hl).1, by rw [mm_up_n (by decide)]; exact (rm l hl).2.2.1⟩, fun l hl => by rw [fx 89 (by decide) (by decide) (by decide) (by decide)]; exact zq (ro l) (rm l hl).1 (rm l hl).2.1, fun l hl i hi => by rw [fx 90 (by decide) (by decide) (by decide) (by decide)]; exact rg (ro l) (rm l hl).1 (rm l hl).2.1 i hi, fun k hk => by rw [fx 80 (by decide) (by decide) (by decide) (by decide)]; exact jj k hk, fun k hk => by
      obtain ⟨r, r9, hr, h⟩ := tot k hk
      obtain ⟨l, hl, e⟩ := sj r r9 hr
      exact ⟨l, hl, by rw [e]; exact h⟩⟩
    have eqv : ∀ D, FE zz en ja ro n lv 0 D ↔ RLx σ zz en ja n D := fun D => by
      constructor
      · intro h r r9 hr
        obtain ⟨l, hl, e⟩ := sj r r9 hr
        have := h l (Nat.zero_le l) hl
        rw [e] at this; exact this
      · intro h i _ hi
        exact h (ro i) (rm i hi).1 (rm i hi).2.1
    have no0 : ∀ k, ¬ LT zz en ro 0 k := fun k ⟨i, hi, _⟩ => absurd hi (Nat.not_lt_zero i)
    refine sea_t S (lv - 1) 0 (fun _ => 0) (fun _ => False) _ (by omega) (fun i hi => absurd hi (Nat.not_lt_zero i)) I0 mm_up_s (fun k hk => ⟨fun t => absurd t (no0 k), fun _ => by show (mm_up τ 101 0 (-1)) 94 k = -1; rw [fx 94 (by decide) (by decide) (by decide) (by decide)]; exact e94 k hk⟩) (fun i _ hi => by rw [mm_up_n (by decide)]; exact (rm i hi).2.2.2) (Or.inl ⟨by rw [mm_up_n (by decide), f2 29 (by decide)]; exact e29, fun _ h => h⟩) (fun τ' I' _ _ _ F' => ?_)
    refine kb_131_70 (fun _ => kb_131_138 (q τ' ⟨fun c h2 h3 h4 h5 => ?_, fun j h2 h3 => ?_⟩ ?_)) (fun g => absurd (by decide) g)
    · rw [I'.1 c h2 h3 h4 (by omega), mm_up_n (by omega)]; exact f1 c h2 (by omega) (by omega)
    · rw [I'.2 j h2, mm_up_n (by decide)]; exact f2 j h3
    · rcases F' with ⟨a, no⟩ | ⟨a, D0, r0, b0, mn⟩
      · exact Or.inl ⟨a, fun D hD => no D (Or.inr ⟨fun k _ t => absurd t (no0 k), (eqv D).mpr hD⟩)⟩
      · exact Or.inr ⟨a, D0, (eqv D0).mp r0, b0, fun D hD => mn D (Or.inr ⟨fun k _ t => absurd t (no0 k), (eqv D).mpr hD⟩)⟩
  · intro r hr ih τ ⟨f1, f2, lv, ro, lvr, e37, rm, sj⟩
    refine kb_131_7 (fun g => absurd g (hI_nle (a := 9) (by omega) hr)) (fun _ => kb_131_13 (pk_in r 9 hr) (fun g => kb_131_22 ?_) (fun g => ?_))
    · rw [nI_1]
      refine ih τ ⟨f1, f2, lv, ro, by omega, e37, rm, fun a ha hz => ?_⟩
      rcases Nat.lt_or_ge a r with h | h
      · exact sj a h hz
      · have e : a = r := by omega
        subst e
        rw [nI_clamp (by omega), f1 75 (by decide) (by decide) (by decide)] at g
        exact absurd g hz
    · have v37 : vp_in (τ 10 37) 9 := by rw [e37]; exact pk_in lv 9 (by omega)
      refine kb_131_25 v37 (by rw [mm_up_n (by decide)]; exact v37) ?_
      rw [nI_1]
      have eA : (mm_up (mm_up τ 100 (τ 10 37).toNatClampNeg (nI r)) 105 ((mm_up τ 100 (τ 10 37).toNatClampNeg (nI r)) 10 37).toNatClampNeg 0) 10 37 = nI lv := by
        rw [mm_up_n (by decide), mm_up_n (by decide)]; exact e37
      have eA1 : (τ 10 37).toNatClampNeg = lv := by rw [e37]; exact nI_clamp (by omega)
      have eA2 : ((mm_up τ 100 (τ 10 37).toNatClampNeg (nI r)) 10 37).toNatClampNeg = lv := by rw [mm_up_n (by decide)]; exact eA1
      rw [eA, nI_1, eA2, eA1]
      refine ih _ ⟨fun c h2 h3 h4 => by rw [mm_up_n h2, mm_up_n h4, mm_up_n h3]; exact f1 c h2 h3 h4, fun j hj => by rw [mm_up_o hj, mm_up_n (by decide), mm_up_n (by decide)]; exact f2 j hj, lv + 1, fun i => if i = lv then r else ro i, by omega, mm_up_s, fun l hl => ?_, fun a ha hz => ?_⟩
      · by_cases e : l = lv
        · subst e
          simp only [if_pos]
          refine ⟨hr, ?_, ?_, ?_⟩
          · rw [nI_clamp (by omega), f1 75 (by decide) (by decide) (by decide)] at g
            exact g
          · rw [mm_up_n (by decide), mm_up_n (by decide)]; exact mm_up_s
          · rw [mm_up_n (by decide)]; exact mm_up_s
        · simp only [if_neg e]
          obtain ⟨m1, m2, m3, m4⟩ := rm l (by omega)
          refine ⟨m1, m2, ?_, ?_⟩
          · rw [mm_up_n (by decide), mm_up_n (by decide), mm_up_o e]; exact m3
          · rw [mm_up_n (by decide), mm_up_o e, mm_up_n (by decide)]; exact m4
      · by_cases e : a = r
        · exact ⟨lv, by omega, by rw [e]; exact if_pos rfl⟩
        · obtain ⟨l, hl, h⟩ := sj a (by omega) hz
          exact ⟨l, by omega, by show (if l = lv then r else ro l) = a; rw [if_neg (by omega)]; exact h⟩
end

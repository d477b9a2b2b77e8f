/-! the reference: cuts, one after the other -/
def cok (z s a b u : Nat) : Prop := s < z ∧ 1 ≤ a ∧ 1 ≤ b ∧ 1 ≤ u ∧ a + b + u + 1 ≤ z
def NXc (z s a b u s' a' b' u' : Nat) : Prop := cdv s a b u < cdv s' a' b' u' ∧ ∀ x y v w, cok z x y v w → cdv s a b u < cdv x y v w → cdv s' a' b' u' ≤ cdv x y v w
theorem cdv_lt {s a b u x y v w : Nat} (h1 : a < 16) (h2 : b < 16) (h3 : u < 16) (h4 : y < 16) (h5 : v < 16) (h6 : w < 16) (h : cdv s a b u < cdv x y v w) : s < x ∨ (s = x ∧ (a < y ∨ (a = y ∧ (b < v ∨ (b = v ∧ u < w))))) := by
  unfold cdv at h
  omega
theorem nx_2 {z s a b u : Nat} (z16 : z ≤ 16) (h : cok z s a b u) (g : z - 1 - a - b < u + 1) (le : b + 1 ≤ z - 2 - a) : NXc z s a b u s a (b + 1) 1 := by
  unfold cok at h
  refine ⟨by unfold cdv; omega, fun x y v w k l => ?_⟩
  unfold cok at k
  rcases cdv_lt (by omega) (by omega) (by omega) (by omega) (by omega) (by omega) l with c | ⟨c, d | ⟨d, e | ⟨e, f⟩⟩⟩ <;> unfold cdv <;> omega
theorem nx_3 {z s a b u : Nat} (z16 : z ≤ 16) (h : cok z s a b u) (g : z - 1 - a - b < u + 1) (g2 : ¬ b + 1 ≤ z - 2 - a) (le : a + 1 ≤ z - 3) : NXc z s a b u s (a + 1) 1 1 := by
  unfold cok at h
  refine ⟨by unfold cdv; omega, fun x y v w k l => ?_⟩
  unfold cok at k
  rcases cdv_lt (by omega) (by omega) (by omega) (by omega) (by omega) (by omega) l with c | ⟨c, d | ⟨d, e | ⟨e, f⟩⟩⟩ <;> unfold cdv <;> omega
theorem nx_4 {z s a b u : Nat} (z16 : z ≤ 16) (h : cok z s a b u) (g : z - 1 - a - b < u + 1) (g2 : ¬ b + 1 ≤ z - 2 - a) (g3 : ¬ a + 1 ≤ z - 3) : NXc z s a b u (s + 1) 1 1 1 := by
  unfold cok at h
  refine ⟨by unfold cdv; omega, fun x y v w k l => ?_⟩
  unfold cok at k
  rcases cdv_lt (by omega) (by omega) (by omega) (by omega) (by omega) (by omega) l with c | ⟨c, d | ⟨d, e | ⟨e, f⟩⟩⟩ <;> unfold cdv <;> omega
theorem c_129t {d l r z : Nat} {Q : mm_Q} {τ : mm_S} (hl : l < 9) (hr : r < 9) (e100 : τ 100 l = nI r) (e89 : τ 89 r = nI z) (z16 : z ≤ 16)
    (hc : τ 101 l = -1 ∨ ∃ s a b u, s < z ∧ 1 ≤ a ∧ 1 ≤ b ∧ 1 ≤ u ∧ a + b + u + 1 ≤ z ∧ CU τ l s a b u)
    (q0 : ∀ τ', sfr l τ τ' → (∀ s a b u, CU τ l s a b u → cok z s a b u → ∀ x y v w, cok z x y v w → cdv x y v w ≤ cdv s a b u) → (τ 101 l = -1 → ∀ x y v w, ¬ cok z x y v w) → Q (some (.int 0)) τ')
    (q1 : ∀ τ' s a b u, sfr l τ τ' → s < z → 1 ≤ a → 1 ≤ b → 1 ≤ u → a + b + u + 1 ≤ z → CU τ' l s a b u → ((τ 101 l = -1 ∧ ∀ x y v w, cok z x y v w → cdv s a b u ≤ cdv x y v w) ∨ ∃ s0 a0 b0 u0, CU τ l s0 a0 b0 u0 ∧ s0 < z ∧ 1 ≤ a0 ∧ 1 ≤ b0 ∧ 1 ≤ u0 ∧ a0 + b0 + u0 + 1 ≤ z ∧ NXc z s0 a0 b0 u0 s a b u) → Q (some (.int 1)) τ') : mD (d + 1) 129 [.ref 10, .int (nI l)] τ Q := by
  have cl : (nI l).toNatClampNeg = l := nI_clamp (by omega)
  have iv := pk_in l 9 hl
  have ez : τ 89 (τ 100 (nI l).toNatClampNeg).toNatClampNeg = nI z := by rw [cl, e100, nI_clamp (by omega)]; exact e89
  have rf : sfr l τ τ := fun _ _ _ => rfl
  refine ke_129 (kb_129_0 iv (by rw [cl, e100]; exact pk_in r 9 hr) ?_ ?_)
  · rw [ez]
    intro g4
    have z4 : 4 ≤ z := (nI_leI (a := 4) (by omega) (by omega)).mp g4
    have s1 : nI z - 1 = nI (z - 1) := by rw [show (1 : Int32) = nI 1 from rfl]; exact nI_sub (by omega)
    have s2 : nI z - 2 = nI (z - 2) := by rw [show (2 : Int32) = nI 2 from rfl]; exact nI_sub (by omega)
    have s3 : nI z - 3 = nI (z - 3) := by rw [show (3 : Int32) = nI 3 from rfl]; exact nI_sub (by omega)
    refine kb_129_19 iv (fun e => kb_129_29 iv iv iv iv ?_) (fun e => ?_)
    · rw [cl] at e ⊢
      refine q1 _ 0 1 1 1 (sfr_up (sfr_up (sfr_up (sfr_up rf (by omega)) (by omega)) (by omega)) (by omega)) (by omega) (by omega) (by omega) (by omega) (by omega) ⟨?_, ?_, ?_, mm_up_s⟩ (Or.inl ⟨e, fun x y v w h => by unfold cok at h; unfold cdv; omega⟩)
      · rw [mm_up_n (by decide), mm_up_n (by decide), mm_up_n (by decide)]; exact mm_up_s
      · rw [mm_up_n (by decide), mm_up_n (by decide)]; exact mm_up_s
      · rw [mm_up_n (by decide)]; exact mm_up_s
    · rw [cl] at e
      obtain ⟨s, a, b, u, hs, ha, hb, hu, hsum, C⟩ := hc.resolve_left e
      obtain ⟨c1, c2, c3, c4⟩ := id C
      have none' : (∀ x y v w, cok z x y v w → cdv x y v w ≤ cdv s a b u) → ∀ π, sfr l τ π → Q (some (.int 0)) π := fun no π f => q0 π f (fun s' a' b' u' C' _ x y v w h => by
        obtain ⟨p1, p2, p3, p4⟩ := C'
        have := (nI_eq (show s' < 2 ^ 31 by have := ‹cok z s' a' b' u'›; unfold cok at this; omega) (by omega)).mp (p1.symm.trans c1)
        have := (nI_eq (show a' < 2 ^ 31 by have := ‹cok z s' a' b' u'›; unfold cok at this; omega) (by omega)).mp (p2.symm.trans c2)
        have := (nI_eq (show b' < 2 ^ 31 by have := ‹cok z s' a' b' u'›; unfold cok at this; omega) (by omega)).mp (p3.symm.trans c3)
        have := (nI_eq (show u' < 2 ^ 31 by have := ‹cok z s' a' b' u'›; unfold cok at this; omega) (by omega)).mp (p4.symm.trans c4)
        subst_vars
        exact no x y v w h) (fun y => absurd y e)
      -- the end
      have fin : ∀ (π : mm_S) (s' a' b' u' : Nat), sfr l τ π → s' ≤ z → 1 ≤ a' → 1 ≤ b' → 1 ≤ u' → a' + b' + u' + 1 ≤ z → CU π l s' a' b' u' → NXc z s a b u s' a' b' u' → mw d mt_129 Q 177 [some (.ref 10), some (.int (nI l)), some (.int (nI z))] [] π := fun π s' a' b' u' f h1 h2 h3 h4 h5 C' hlt => by
        refine kb_129_177 iv (fun gz => kb_129_191 (none' (fun x y v w h => ?_) π f)) (fun g => kb_129_187 (q1 π s' a' b' u' f ?_ h2 h3 h4 h5 C' (Or.inr ⟨s, a, b, u, C, hs, ha, hb, hu, hsum, hlt⟩)))
        · rw [cl, C'.1] at gz
          have gz' := (nI_leI (by omega) (by omega)).mp gz
          rcases Nat.lt_or_ge (cdv s a b u) (cdv x y v w) with k | k
          · have := hlt.2 x y v w h k
            unfold cok at h
            unfold cdv at *
            omega
          · exact k
        rw [cl, C'.1] at g
        rcases Nat.lt_or_ge s' z with y | y
        · exact y
        · exact absurd (hI_le (by omega) y) g
      have third : ∀ (π : mm_S) (a' b' u' : Nat), sfr l τ π → 1 ≤ a' → 1 ≤ b' → 1 ≤ u' → a' + b' + u' + 1 ≤ z → CU π l s a' b' u' → NXc z s a b u s a' b' u' → mw d mt_129 Q 148 [some (.ref 10), some (.int (nI l)), some (.int (nI z))] [] π := fun π a' b' u' f h2 h3 h4 h5 C' hlt => by
        refine kb_129_148 iv (fun _ => fin π s a' b' u' f (by omega) h2 h3 h4 h5 C' hlt) (fun g => absurd ?_ g)
        rw [cl, C'.2.1, s3]; exact hI_le (by omega) (by omega)
      have e104 : τ 104 (nI l).toNatClampNeg + 1 = nI (u + 1) := by rw [cl, c4, nI_1]
      refine kb_129_59 iv iv iv iv iv ?_ ?_
      · rw [cl, c4, nI_1, mm_up_s, mm_up_n (by decide), mm_up_n (by decide), c2, c3, s1, nI_sub (by omega), nI_sub (by omega)]
        intro g
        have le : u + 1 ≤ z - 1 - a - b := (nI_leI (by omega) (by omega)).mp g
        have C1 : CU (mm_up τ 104 l (nI (u + 1))) l s a b (u + 1) := ⟨by rw [mm_up_n (by decide)]; exact c1, by rw [mm_up_n (by decide)]; exact c2, by rw [mm_up_n (by decide)]; exact c3, mm_up_s⟩
        have f1 : sfr l τ (mm_up τ 104 l (nI (u + 1))) := sfr_up rf (by omega)
        refine kb_129_112 iv iv (fun _ => third _ a b (u + 1) f1 ha hb (by omega) (by omega) C1 ⟨by unfold cdv; omega, fun x y v w h1 h2 => by unfold cok at h1; unfold cdv at *; omega⟩) (fun g' => absurd ?_ g')
        rw [cl, C1.2.2.1, C1.2.1, s2, nI_sub (by omega)]; exact hI_le (by omega) (by omega)
      · rw [cl, c4, nI_1, mm_up_s, mm_up_n (by decide), mm_up_n (by decide), c2, c3, s1, nI_sub (by omega), nI_sub (by omega)]
        intro g
        have gt : z - 1 - a - b < u + 1 := by
          rcases Nat.lt_or_ge (z - 1 - a - b) (u + 1) with y | y
          · exact y
          · exact absurd (hI_le (by omega) y) g
        refine kb_129_95 iv iv iv iv iv ?_ ?_
        · rw [cl]
          have x103 : (mm_up (mm_up τ 104 l (nI (u + 1))) 104 l 1) 103 l = nI b := by rw [mm_up_n (by decide), mm_up_n (by decide)]; exact c3
          rw [x103, nI_1, mm_up_s]
          have x102 : (mm_up (mm_up (mm_up τ 104 l (nI (u + 1))) 104 l 1) 103 l (nI (b + 1))) 102 l = nI a := by rw [mm_up_n (by decide), mm_up_n (by decide), mm_up_n (by decide)]; exact c2
          rw [x102, s2, nI_sub (by omega)]
          intro g'
          have le : b + 1 ≤ z - 2 - a := (nI_leI (by omega) (by omega)).mp g'
          refine third _ a (b + 1) 1 (sfr_up (sfr_up (sfr_up rf (by omega)) (by omega)) (by omega)) ha (by omega) (by omega) (by omega) ⟨?_, x102, mm_up_s, ?_⟩ (nx_2 z16 ⟨hs, ha, hb, hu, hsum⟩ gt le)
          · rw [mm_up_n (by decide), mm_up_n (by decide), mm_up_n (by decide)]; exact c1
          · rw [mm_up_n (by decide)]; exact mm_up_s
        · rw [cl]
          have x103 : (mm_up (mm_up τ 104 l (nI (u + 1))) 104 l 1) 103 l = nI b := by rw [mm_up_n (by decide), mm_up_n (by decide)]; exact c3
          rw [x103, nI_1, mm_up_s]
          have x102 : (mm_up (mm_up (mm_up τ 104 l (nI (u + 1))) 104 l 1) 103 l (nI (b + 1))) 102 l = nI a := by rw [mm_up_n (by decide), mm_up_n (by decide), mm_up_n (by decide)]; exact c2
          have x101 : (mm_up (mm_up (mm_up τ 104 l (nI (u + 1))) 104 l 1) 103 l (nI (b + 1))) 101 l = nI s := by rw [mm_up_n (by decide), mm_up_n (by decide), mm_up_n (by decide)]; exact c1
          have x104 : (mm_up (mm_up (mm_up τ 104 l (nI (u + 1))) 104 l 1) 103 l (nI (b + 1))) 104 l = 1 := by rw [mm_up_n (by decide)]; exact mm_up_s
          have fx : sfr l τ (mm_up (mm_up (mm_up τ 104 l (nI (u + 1))) 104 l 1) 103 l (nI (b + 1))) := sfr_up (sfr_up (sfr_up rf (by omega)) (by omega)) (by omega)
          rw [x102]
          generalize mm_up (mm_up (mm_up τ 104 l (nI (u + 1))) 104 l 1) 103 l (nI (b + 1)) = π at *
          intro gb
          have nb : ¬ b + 1 ≤ z - 2 - a := fun y => by
            rw [s2, nI_sub (by omega)] at gb
            exact gb (hI_le (by omega) y)
          have y102 : (mm_up π 103 l 1) 102 l = nI a := by rw [mm_up_n (by decide)]; exact x102
          refine kb_129_131 iv iv iv iv ?_ ?_
          · rw [cl, y102, nI_1, mm_up_s, s3]
            intro g'
            have le : a + 1 ≤ z - 3 := (nI_leI (by omega) (by omega)).mp g'
            refine fin _ s (a + 1) 1 1 (sfr_up (sfr_up fx (by omega)) (by omega)) (by omega) (by omega) (by omega) (by omega) (by omega) ⟨?_, mm_up_s, ?_, ?_⟩ (nx_3 z16 ⟨hs, ha, hb, hu, hsum⟩ gt nb le)
            · rw [mm_up_n (by decide), mm_up_n (by decide)]; exact x101
            · rw [mm_up_n (by decide)]; exact mm_up_s
            · rw [mm_up_n (by decide), mm_up_n (by decide)]; exact x104
          · rw [cl, y102, nI_1, mm_up_s, s3]
            intro ga
            have na : ¬ a + 1 ≤ z - 3 := fun y => ga (hI_le (by omega) y)
            have w101 : (mm_up (mm_up (mm_up π 103 l 1) 102 l (nI (a + 1))) 102 l 1) 101 l = nI s := by rw [mm_up_n (by decide), mm_up_n (by decide), mm_up_n (by decide)]; exact x101
            refine kb_129_160 iv iv iv iv ?_ ?_
            · rw [cl, w101, nI_1, mm_up_s]
              intro gz
              have gz' := (nI_leI (by omega) (by omega)).mp gz
              exact kb_129_191 (none' (fun x y v w h => by
                rcases Nat.lt_or_ge (cdv s a b u) (cdv x y v w) with k | k
                · have := (nx_4 z16 ⟨hs, ha, hb, hu, hsum⟩ gt nb na).2 x y v w h k
                  unfold cok at h
                  unfold cdv at *
                  omega
                · exact k) _ (sfr_up (sfr_up (sfr_up (sfr_up fx (by omega)) (by omega)) (by omega)) (by omega)))
            · rw [cl, w101, nI_1, mm_up_s]
              intro g'
              have lt : s + 1 < z := by
                rcases Nat.lt_or_ge (s + 1) z with y | y
                · exact y
                · exact absurd (hI_le (by omega) y) g'
              refine kb_129_187 (q1 _ (s + 1) 1 1 1 (sfr_up (sfr_up (sfr_up (sfr_up fx (by omega)) (by omega)) (by omega)) (by omega)) lt (by omega) (by omega) (by omega) (by omega) ⟨mm_up_s, ?_, ?_, ?_⟩ (Or.inr ⟨s, a, b, u, C, hs, ha, hb, hu, hsum, nx_4 z16 ⟨hs, ha, hb, hu, hsum⟩ gt nb na⟩))
              · rw [mm_up_n (by decide)]; exact mm_up_s
              · rw [mm_up_n (by decide), mm_up_n (by decide), mm_up_n (by decide)]; exact mm_up_s
              · rw [mm_up_n (by decide), mm_up_n (by decide), mm_up_n (by decide), mm_up_n (by decide)]; exact x104
  · rw [ez]
    intro g4
    have z4 : ¬ 4 ≤ z := fun y => g4 (hI_le (by omega) y)
    exact kb_129_17 (q0 τ rf (fun s a b u _ h => absurd h (by unfold cok; omega)) (fun _ x y v w h => by unfold cok at h; omega))

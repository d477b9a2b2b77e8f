/-! the reference: search ends -/
def SI (τ0 τ : mm_S) : Prop := (∀ c, c ≠ 10 → c ≠ 94 → c ≠ 95 → (c < 101 ∨ 105 < c) → τ c = τ0 c) ∧ ∀ j, j ≠ 29 → τ 10 j = τ0 10 j
/-- the cut at level l: none, or one of the ring's -/
def CV (τ : mm_S) (l z : Nat) : Prop := τ 101 l = -1 ∨ ∃ s a b u, s < z ∧ 1 ≤ a ∧ 1 ≤ b ∧ 1 ≤ u ∧ a + b + u + 1 ≤ z ∧ CU τ l s a b u
/-- at most k cuts are left at level l -/
def RM (τ : mm_S) (l z k : Nat) : Prop := (τ 101 l = -1 ∧ 70000 ≤ k) ∨ ∃ s a b u, s < z ∧ 1 ≤ a ∧ 1 ≤ b ∧ 1 ≤ u ∧ a + b + u + 1 ≤ z ∧ CU τ l s a b u ∧ 69999 ≤ cdv s a b u + k
/-- the levels below l have the same cuts -/
def LB (l : Nat) (τ τ' : mm_S) : Prop := ∀ c i, 101 ≤ c → c ≤ 104 → i < l → τ' c i = τ c i
theorem c_131s {d n lv : Nat} {Q : mm_Q} {τ0 : mm_S} (hn : n ≤ 21) (e6 : τ0 10 6 = nI n) (lv9 : lv ≤ 9) (e37 : τ0 10 37 = nI lv) (rm : ∀ l, l < lv → ∃ r, r < 9 ∧ τ0 100 l = nI r) (R : RG τ0 n) :
    ∀ (e l : Nat) (τ : mm_S), l + e + 1 = lv → SI τ0 τ → τ 101 l = -1 → (∀ τ', SI τ0 τ' → LB l τ τ' → mw (d + 2) mt_131 Q 70 [some (.ref 10), some (.int (nI l + (-1)))] [] τ') → mw (d + 2) mt_131 Q 70 [some (.ref 10), some (.int (nI l))] [] τ := by
  intro e
  induction e with
  | zero =>
    intro l τ hl I hnone K
    obtain ⟨r, r9, e100⟩ := rm l (by omega)
    obtain ⟨z, z16, RZz⟩ := R r r9
    -- over the cuts that are left
    have inner : ∀ k (τ1 : mm_S), SI τ0 τ1 → LB l τ τ1 → CV τ1 l z → RM τ1 l z k → mw (d + 2) mt_131 Q 70 [some (.ref 10), some (.int (nI l))] [] τ1 := by
      intro k
      induction k with
      | zero =>
        intro τ1 I1 B1 V1 hR
        rcases hR with ⟨_, h⟩ | ⟨s, a, b, u, h1, h2, h3, h4, h5, _, h6⟩
        · omega
        · unfold cdv at h6; omega
      | succ k ih =>
        intro τ1 I1 B1 V1 hR
        have x6 : τ1 10 6 = nI n := by rw [I1.2 6 (by decide)]; exact e6
        refine kb_131_70 (fun g => absurd g (nI_pos (by omega))) (fun _ => kb_131_74 (c_130 hn x6 (by omega) (fun τ2 f2 => kb_131_79 ?_)))
        have I2 : SI τ0 τ2 := ⟨fun c h1 h2 h3 h4 => by rw [f2 c h2 (by omega)]; exact I1.1 c h1 h2 h3 h4, fun j hj => by rw [f2 10 (by decide) (by decide)]; exact I1.2 j hj⟩
        have y100 : τ2 100 l = nI r := by rw [I2.1 100 (by decide) (by decide) (by decide) (by omega)]; exact e100
        have y89 : τ2 89 r = nI z := by rw [I2.1 89 (by decide) (by decide) (by decide) (by omega)]; exact RZz.1
        have c2 : ∀ c i, 101 ≤ c → c ≤ 104 → τ2 c i = τ1 c i := fun c i h1 h2 => by rw [f2 c (by omega) (by omega)]
        have V2 : τ2 101 l = -1 ∨ ∃ s a b u, s < z ∧ 1 ≤ a ∧ 1 ≤ b ∧ 1 ≤ u ∧ a + b + u + 1 ≤ z ∧ CU τ2 l s a b u := by
          rcases V1 with h | ⟨s, a, b, u, h1, h2, h3, h4, h5, C⟩
          · exact Or.inl (by rw [c2 101 l (by omega) (by omega)]; exact h)
          · refine Or.inr ⟨s, a, b, u, h1, h2, h3, h4, h5, ?_⟩
            unfold CU
            rw [c2 101 l (by omega) (by omega), c2 102 l (by omega) (by omega), c2 103 l (by omega) (by omega), c2 104 l (by omega) (by omega)]
            exact C
        refine c_129 (by omega) r9 y100 y89 z16 V2 (fun τ3 f3 => kb_131_84 (fun _ => kb_131_87 ?_) (fun g => absurd rfl g)) (fun τ3 s a b u f3 hs ha hb hu hsum C3 hcd => kb_131_84 (fun g => absurd g (by decide)) (fun _ => kb_131_93 ?_))
        · refine K τ3 ⟨fun c h1 h2 h3 h4 => ?_, fun j hj => ?_⟩ (fun c i h1 h2 h3 => ?_)
          · funext x; rw [f3 c x (by omega)]; exact congrFun (I2.1 c h1 h2 h3 h4) x
          · rw [f3 10 j (by omega)]; exact I2.2 j hj
          · rw [f3 c i (by omega), c2 c i h1 h2]; exact B1 c i h1 h2 h3
        · have I3 : SI τ0 τ3 := ⟨fun c h1 h2 h3 h4 => by funext x; rw [f3 c x (by omega)]; exact congrFun (I2.1 c h1 h2 h3 h4) x, fun j hj => by rw [f3 10 j (by omega)]; exact I2.2 j hj⟩
          have B3 : LB l τ τ3 := fun c i h1 h2 h3 => by rw [f3 c i (by omega), c2 c i h1 h2]; exact B1 c i h1 h2 h3
          have k3 : ∀ c, c ≠ 10 → c ≠ 94 → c ≠ 95 → (c < 101 ∨ 105 < c) → τ3 c = τ0 c := I3.1
          -- the cuts that are left behind this one
          have rest : ∀ τ4 : mm_S, (∀ c, 101 ≤ c → c ≤ 104 → τ4 c = τ3 c) → CV τ4 l z ∧ RM τ4 l z k := fun τ4 h4 => by
            have C4 : CU τ4 l s a b u := by unfold CU; rw [h4 101 (by omega) (by omega), h4 102 (by omega) (by omega), h4 103 (by omega) (by omega), h4 104 (by omega) (by omega)]; exact C3
            refine ⟨Or.inr ⟨s, a, b, u, hs, ha, hb, hu, hsum, C4⟩, Or.inr ⟨s, a, b, u, hs, ha, hb, hu, hsum, C4, ?_⟩⟩
            rcases hcd with hcd | ⟨s0, a0, b0, u0, C0, hs0, ha0, hb0, hu0, hsum0, hlt⟩
            · rcases hR with ⟨_, h⟩ | ⟨s', a', b', u', _, _, _, _, _, C', _⟩
              · unfold cdv; omega
              · rw [c2 101 l (by omega) (by omega), C'.1] at hcd
                exact absurd hcd (nI_m1 (by omega))
            · rcases hR with ⟨h, _⟩ | ⟨s', a', b', u', p1, p2, p3, p4, p5, C', h⟩
              · have := C0.1
                rw [c2 101 l (by omega) (by omega), h] at this
                exact absurd this.symm (nI_m1 (by omega))
              · unfold CU at C0 C'
                rw [c2 101 l (by omega) (by omega), c2 102 l (by omega) (by omega), c2 103 l (by omega) (by omega), c2 104 l (by omega) (by omega)] at C0
                have q1 := (nI_eq (by omega) (by omega)).mp (C'.1.symm.trans C0.1)
                have q2 := (nI_eq (by omega) (by omega)).mp (C'.2.1.symm.trans C0.2.1)
                have q3 := (nI_eq (by omega) (by omega)).mp (C'.2.2.1.symm.trans C0.2.2.1)
                have q4 := (nI_eq (by omega) (by omega)).mp (C'.2.2.2.symm.trans C0.2.2.2)
                subst q1; subst q2; subst q3; subst q4
                omega
          have again : ∀ τ4 : mm_S, SI τ0 τ4 → LB l τ τ4 → (∀ c, 101 ≤ c → c ≤ 104 → τ4 c = τ3 c) → mw (d + 2) mt_131 Q 70 [some (.ref 10), some (.int (nI l))] [] τ4 := fun τ4 I4 B4 h4 => ih τ4 I4 B4 (rest τ4 h4).1 (rest τ4 h4).2
          refine c_132 hn (by omega) r9 (by rw [k3 100 (by decide) (by decide) (by decide) (by omega)]; exact e100) (z := z) ⟨by rw [k3 89 (by decide) (by decide) (by decide) (by omega)]; exact RZz.1, fun i hi => by rw [k3 90 (by decide) (by decide) (by decide) (by omega)]; exact RZz.2 i hi⟩ z16 hs C3.1 (fun x τ4 hx f4 => ?_)
          have I4 : SI τ0 τ4 := ⟨fun c h1 h2 h3 h4 => by rw [f4 c h2 (by omega)]; exact I3.1 c h1 h2 h3 h4, fun j hj => by rw [f4 10 (by decide) (by decide)]; exact I3.2 j hj⟩
          have g4 : ∀ c, 101 ≤ c → c ≤ 104 → τ4 c = τ3 c := fun c h1 h2 => f4 c (by omega) (by omega)
          have B4 : LB l τ τ4 := fun c i h1 h2 h3 => by rw [g4 c h1 h2]; exact B3 c i h1 h2 h3
          refine kb_131_98 (fun _ => again τ4 I4 B4 g4) (fun _ => kb_131_101 (c_133 hn (by rw [I4.2 6 (by decide)]; exact e6) (fun y _ => kb_131_105 (fun _ => again τ4 I4 B4 g4) (fun _ => kb_131_108 (fun _ => kb_131_118 ?_) (fun g => absurd ?_ g)))))
          · refine c_134 hn (by rw [I4.2 6 (by decide)]; exact e6) (fun τ5 f5 f5' => kb_131_122 (again τ5 ⟨fun c h1 h2 h3 h4 => by rw [f5 c h1 h3]; exact I4.1 c h1 h2 h3 h4, fun j hj => by rw [f5' j hj]; exact I4.2 j hj⟩ (fun c i h1 h2 h3 => by rw [f5 c (by omega) (by omega)]; exact B4 c i h1 h2 h3) (fun c h1 h2 => by rw [f5 c (by omega) (by omega)]; exact g4 c h1 h2)))
          · rw [nI_1, I4.2 37 (by decide), e37, show l + 1 = lv by omega]
    exact inner 70000 τ I (fun _ _ _ _ _ => rfl) (Or.inl hnone) (Or.inl ⟨hnone, Nat.le_refl _⟩)
  | succ e ihe =>
    intro l τ hl I hnone K
    obtain ⟨r, r9, e100⟩ := rm l (by omega)
    obtain ⟨z, z16, RZz⟩ := R r r9
    have inner : ∀ k (τ1 : mm_S), SI τ0 τ1 → LB l τ τ1 → CV τ1 l z → RM τ1 l z k → mw (d + 2) mt_131 Q 70 [some (.ref 10), some (.int (nI l))] [] τ1 := by
      intro k
      induction k with
      | zero =>
        intro τ1 I1 B1 V1 hR
        rcases hR with ⟨_, h⟩ | ⟨s, a, b, u, h1, h2, h3, h4, h5, _, h6⟩
        · omega
        · unfold cdv at h6; omega
      | succ k ih =>
        intro τ1 I1 B1 V1 hR
        have x6 : τ1 10 6 = nI n := by rw [I1.2 6 (by decide)]; exact e6
        refine kb_131_70 (fun g => absurd g (nI_pos (by omega))) (fun _ => kb_131_74 (c_130 hn x6 (by omega) (fun τ2 f2 => kb_131_79 ?_)))
        have I2 : SI τ0 τ2 := ⟨fun c h1 h2 h3 h4 => by rw [f2 c h2 (by omega)]; exact I1.1 c h1 h2 h3 h4, fun j hj => by rw [f2 10 (by decide) (by decide)]; exact I1.2 j hj⟩
        have y100 : τ2 100 l = nI r := by rw [I2.1 100 (by decide) (by decide) (by decide) (by omega)]; exact e100
        have y89 : τ2 89 r = nI z := by rw [I2.1 89 (by decide) (by decide) (by decide) (by omega)]; exact RZz.1
        have c2 : ∀ c i, 101 ≤ c → c ≤ 104 → τ2 c i = τ1 c i := fun c i h1 h2 => by rw [f2 c (by omega) (by omega)]
        have V2 : τ2 101 l = -1 ∨ ∃ s a b u, s < z ∧ 1 ≤ a ∧ 1 ≤ b ∧ 1 ≤ u ∧ a + b + u + 1 ≤ z ∧ CU τ2 l s a b u := by
          rcases V1 with h | ⟨s, a, b, u, h1, h2, h3, h4, h5, C⟩
          · exact Or.inl (by rw [c2 101 l (by omega) (by omega)]; exact h)
          · refine Or.inr ⟨s, a, b, u, h1, h2, h3, h4, h5, ?_⟩
            unfold CU
            rw [c2 101 l (by omega) (by omega), c2 102 l (by omega) (by omega), c2 103 l (by omega) (by omega), c2 104 l (by omega) (by omega)]
            exact C
        refine c_129 (by omega) r9 y100 y89 z16 V2 (fun τ3 f3 => kb_131_84 (fun _ => kb_131_87 ?_) (fun g => absurd rfl g)) (fun τ3 s a b u f3 hs ha hb hu hsum C3 hcd => kb_131_84 (fun g => absurd g (by decide)) (fun _ => kb_131_93 ?_))
        · refine K τ3 ⟨fun c h1 h2 h3 h4 => ?_, fun j hj => ?_⟩ (fun c i h1 h2 h3 => ?_)
          · funext x; rw [f3 c x (by omega)]; exact congrFun (I2.1 c h1 h2 h3 h4) x
          · rw [f3 10 j (by omega)]; exact I2.2 j hj
          · rw [f3 c i (by omega), c2 c i h1 h2]; exact B1 c i h1 h2 h3
        · have I3 : SI τ0 τ3 := ⟨fun c h1 h2 h3 h4 => by funext x; rw [f3 c x (by omega)]; exact congrFun (I2.1 c h1 h2 h3 h4) x, fun j hj => by rw [f3 10 j (by omega)]; exact I2.2 j hj⟩
          have B3 : LB l τ τ3 := fun c i h1 h2 h3 => by rw [f3 c i (by omega), c2 c i h1 h2]; exact B1 c i h1 h2 h3
          have k3 : ∀ c, c ≠ 10 → c ≠ 94 → c ≠ 95 → (c < 101 ∨ 105 < c) → τ3 c = τ0 c := I3.1
          have rest : ∀ τ4 : mm_S, (∀ c, 101 ≤ c → c ≤ 104 → τ4 c l = τ3 c l) → CV τ4 l z ∧ RM τ4 l z k := fun τ4 h4 => by
            have C4 : CU τ4 l s a b u := by unfold CU; rw [h4 101 (by omega) (by omega), h4 102 (by omega) (by omega), h4 103 (by omega) (by omega), h4 104 (by omega) (by omega)]; exact C3
            refine ⟨Or.inr ⟨s, a, b, u, hs, ha, hb, hu, hsum, C4⟩, Or.inr ⟨s, a, b, u, hs, ha, hb, hu, hsum, C4, ?_⟩⟩
            rcases hcd with hcd | ⟨s0, a0, b0, u0, C0, hs0, ha0, hb0, hu0, hsum0, hlt⟩
            · rcases hR with ⟨_, h⟩ | ⟨s', a', b', u', _, _, _, _, _, C', _⟩
              · unfold cdv; omega
              · rw [c2 101 l (by omega) (by omega), C'.1] at hcd
                exact absurd hcd (nI_m1 (by omega))
            · rcases hR with ⟨h, _⟩ | ⟨s', a', b', u', p1, p2, p3, p4, p5, C', h⟩
              · have := C0.1
                rw [c2 101 l (by omega) (by omega), h] at this
                exact absurd this.symm (nI_m1 (by omega))
              · unfold CU at C0 C'
                rw [c2 101 l (by omega) (by omega), c2 102 l (by omega) (by omega), c2 103 l (by omega) (by omega), c2 104 l (by omega) (by omega)] at C0
                have q1 := (nI_eq (by omega) (by omega)).mp (C'.1.symm.trans C0.1)
                have q2 := (nI_eq (by omega) (by omega)).mp (C'.2.1.symm.trans C0.2.1)
                have q3 := (nI_eq (by omega) (by omega)).mp (C'.2.2.1.symm.trans C0.2.2.1)
                have q4 := (nI_eq (by omega) (by omega)).mp (C'.2.2.2.symm.trans C0.2.2.2)
                subst q1; subst q2; subst q3; subst q4
                omega
          have again : ∀ τ4 : mm_S, SI τ0 τ4 → LB l τ τ4 → (∀ c, 101 ≤ c → c ≤ 104 → τ4 c l = τ3 c l) → mw (d + 2) mt_131 Q 70 [some (.ref 10), some (.int (nI l))] [] τ4 := fun τ4 I4 B4 h4 => ih τ4 I4 B4 (rest τ4 h4).1 (rest τ4 h4).2
          refine c_132 hn (by omega) r9 (by rw [k3 100 (by decide) (by decide) (by decide) (by omega)]; exact e100) (z := z) ⟨by rw [k3 89 (by decide) (by decide) (by decide) (by omega)]; exact RZz.1, fun i hi => by rw [k3 90 (by decide) (by decide) (by decide) (by omega)]; exact RZz.2 i hi⟩ z16 hs C3.1 (fun x τ4 hx f4 => ?_)
          have I4 : SI τ0 τ4 := ⟨fun c h1 h2 h3 h4 => by rw [f4 c h2 (by omega)]; exact I3.1 c h1 h2 h3 h4, fun j hj => by rw [f4 10 (by decide) (by decide)]; exact I3.2 j hj⟩
          have g4 : ∀ c, 101 ≤ c → c ≤ 104 → τ4 c = τ3 c := fun c h1 h2 => f4 c (by omega) (by omega)
          have B4 : LB l τ τ4 := fun c i h1 h2 h3 => by rw [g4 c h1 h2]; exact B3 c i h1 h2 h3
          have back : mw (d + 2) mt_131 Q 70 [some (.ref 10), some (.int (nI l))] [] τ4 := again τ4 I4 B4 (fun c h1 h2 => by rw [g4 c h1 h2])
          refine kb_131_98 (fun _ => back) (fun _ => kb_131_101 (c_133 hn (by rw [I4.2 6 (by decide)]; exact e6) (fun y _ => kb_131_105 (fun _ => back) (fun _ => kb_131_108 (fun g => absurd g ?_) (fun _ => kb_131_125 ?_ ?_)))))
          · rw [nI_1, I4.2 37 (by decide), e37]
            exact fun w => absurd ((nI_eq (by omega) (by omega)).mp w) (by omega)
          · rw [nI_1]; exact pk_in (l + 1) 9 (by omega)
          · rw [nI_1, nI_clamp (show l + 1 < 2 ^ 31 by omega)]
            refine ihe (l + 1) _ (by omega) ⟨fun c h1 h2 h3 h4 => by rw [mm_up_n (by omega)]; exact I4.1 c h1 h2 h3 h4, fun j hj => by rw [mm_up_n (by decide)]; exact I4.2 j hj⟩ mm_up_s (fun τ' I' B' => ?_)
            rw [nI_pm]
            have low : ∀ c i, 101 ≤ c → c ≤ 104 → i < l + 1 → τ' c i = τ4 c i := fun c i h1 h2 h3 => by
              rw [B' c i h1 h2 h3]
              by_cases e : c = 101
              · subst e; rw [mm_up_o (by omega)]
              · rw [mm_up_n e]
            exact again τ' I' (fun c i h1 h2 h3 => by rw [low c i h1 h2 (by omega)]; exact B4 c i h1 h2 h3) (fun c h1 h2 => by rw [low c l h1 h2 (by omega), g4 c h1 h2])
    exact inner 70000 τ I (fun _ _ _ _ _ => rfl) (Or.inl hnone) (Or.inl ⟨hnone, Nat.le_refl _⟩)

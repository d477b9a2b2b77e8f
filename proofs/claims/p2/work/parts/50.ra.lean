/-! class: reachAll -/
theorem bc_le {a b : Nat} : ∀ n, (∀ j, j < n → a.testBit j = true → b.testBit j = true) → bc a n ≤ bc b n
  | 0, _ => Nat.le_refl 0
  | n + 1, h => by
    have ih := bc_le n (fun j hj => h j (by omega))
    have hn := h n (by omega)
    unfold bc
    by_cases c : a.testBit n = true
    · rw [if_pos c, if_pos (hn c)]; omega
    · rw [if_neg c]; split <;> omega
theorem bc_lt {a b : Nat} : ∀ n, (∀ j, j < n → a.testBit j = true → b.testBit j = true) → (∃ j, j < n ∧ b.testBit j = true ∧ ¬ a.testBit j = true) → bc a n < bc b n
  | 0, _, h2 => by obtain ⟨j, hj, _⟩ := h2; exact absurd hj (Nat.not_lt_zero j)
  | n + 1, h, h2 => by
    have hn := h n (by omega)
    have il := bc_le n (fun j hj => h j (by omega))
    unfold bc
    by_cases c : b.testBit n = true ∧ ¬ a.testBit n = true
    · rw [if_neg c.2, if_pos c.1]; omega
    · have ih := bc_lt n (fun j hj => h j (by omega)) (by
        obtain ⟨j, hj, h3, h4⟩ := h2
        by_cases e : j = n
        · subst e; exact absurd ⟨h3, h4⟩ c
        · exact ⟨j, by omega, h3, h4⟩)
      by_cases c1 : a.testBit n = true
      · rw [if_pos c1, if_pos (hn c1)]; omega
      · rw [if_neg c1]; split <;> omega
theorem bc_n (m : Nat) : ∀ n, bc m n ≤ n
  | 0 => Nat.le_refl 0
  | n + 1 => by
    have := bc_n m n
    unfold bc
    split <;> omega
theorem bc_pos {m : Nat} : ∀ n, 0 < bc m n → ∃ j, j < n ∧ m.testBit j = true
  | 0, h => absurd h (Nat.lt_irrefl 0)
  | n + 1, h => by
    unfold bc at h
    by_cases c : m.testBit n = true
    · exact ⟨n, by omega, c⟩
    · rw [if_neg c] at h
      obtain ⟨j, hj, h1⟩ := bc_pos n (by omega)
      exact ⟨j, by omega, h1⟩
theorem bc_ge {m i : Nat} : ∀ n, i < n → m.testBit i = true → 0 < bc m n
  | 0, h, _ => absurd h (Nat.not_lt_zero i)
  | n + 1, h, h1 => by
    unfold bc
    by_cases e : i = n
    · subst e; rw [if_pos h1]; omega
    · have := bc_ge n (by omega) h1; omega
theorem tb_lt {m i k : Nat} (h : m < 2 ^ k) (hi : k ≤ i) : m.testBit i = false := Nat.testBit_lt_two_pow (Nat.lt_of_lt_of_le h (Nat.pow_le_pow_right (by decide) hi))
theorem tb_ext {a b k : Nat} (ha : a < 2 ^ k) (hb : b < 2 ^ k) (h : ∀ j, j < k → (a.testBit j = true ↔ b.testBit j = true)) : a = b := by
  apply Nat.eq_of_testBit_eq
  intro j
  by_cases hj : j < k
  · have := h j hj
    cases x : a.testBit j <;> cases y : b.testBit j <;> simp_all
  · rw [tb_lt ha (by omega), tb_lt hb (by omega)]
/-- the rooms of one piece -/
def Cn (σ : mm_S) (m : Nat) : Prop := ∀ S : Nat → Prop, (∃ i, i < 9 ∧ m.testBit i = true ∧ S i) → (∀ i j, i < 9 → m.testBit i = true → S i → aj σ i j → S j) → ∀ i, i < 9 → m.testBit i = true → S i
def cls (σ : mm_S) (r : Nat) : Prop := ∀ i j, i < 9 → r.testBit i = true → aj σ i j → r.testBit j = true
theorem c_31 {d n m : Nat} {Q : mm_Q} {σ : mm_S} (C : CK σ n m) (h0 : 0 < bc m 9) (q1 : Cn σ m → Q (some (.int 1)) σ) (q0 : ¬ Cn σ m → Q (some (.int 0)) σ) : mD (d + 3) 31 [.ref 5] σ Q := by
  have m9 := C.dm.1
  refine ke_31 (kb_31_0 ?_)
  rw [C.dm.2]
  refine c_5 (by omega) (fun l hl13 hl hl1 => ?_)
  have hl9 : l < 9 := by
    obtain ⟨j, hj, hb⟩ := bc_pos 9 h0
    rcases Nat.lt_or_ge l 9 with z | z
    · exact z
    · have := hl j (by omega); rw [this] at hb; exact absurd hb (by decide)
  have ml : m.testBit l = true := hl1 (by omega)
  refine kb_31_11 ?_
  rw [one_sh (by omega)]
  -- what is known of the set
  have main : ∀ R : Nat → Nat → Prop, True := fun _ => trivial
  refine lp_dn (P := fun k => ∀ r, r < 512 → r.testBit l = true → (∀ i, i < 9 → r.testBit i = true → m.testBit i = true) → (∀ S : Nat → Prop, S l → (∀ i j, i < 9 → m.testBit i = true → S i → aj σ i j → S j) → ∀ i, i < 9 → r.testBit i = true → S i) → (cls σ r ∨ k < bc r 9) → ∀ o3, mw (d + 2) mt_31 Q 15 [some (.ref 5), some (.int (nI r)), some (.int (nI k)), o3] [] σ) 9 ?_ ?_ 0 (by omega) (2 ^ l) ?_ ?_ ?_ ?_ ?_ none
  · intro r r9 rl rm rS rc o3
    have hc : cls σ r := by
      rcases rc with z | z
      · exact z
      · have := bc_n r 9; omega
    refine kb_31_15 (fun _ => kb_31_61 (fun e => kb_31_72 (q1 ?_)) (fun e => kb_31_76 (q0 ?_))) (fun g => absurd (by decide) g)
    · rw [C.dm.2] at e
      have er : r = m := (nI_eq (by omega) (by omega)).mp e
      subst er
      intro S hS hcl i hi mi
      by_cases sl : S l
      · exact rS S sl hcl i hi mi
      · obtain ⟨k, hk, mk, sk⟩ := hS
        have := rS (fun x => x < 9 ∧ r.testBit x = true ∧ ¬ S x) ⟨hl9, ml, sl⟩ (fun a b ha ma hs hab => by
          obtain ⟨b9, mb, -⟩ := C.aj_dr ha ma hab
          exact ⟨b9, mb, fun z => hs.2.2 (hcl b a b9 mb z (C.aj_sym ha ma hab))⟩) k hk mk
        exact absurd sk this.2.2
    · intro hC
      apply e
      rw [C.dm.2]
      congr 1
      refine tb_ext (k := 9) (by omega) (by omega) (fun j hj => ⟨rm j hj, fun mj => ?_⟩)
      exact hC (fun x => r.testBit x = true) ⟨l, hl9, ml, rl⟩ (fun a b ha _ hs hab => hc a b ha hs hab) j hj mj
  · intro k hk ih r r9 rl rm rS rc o3
    refine kb_31_15 (fun g => absurd g (hI_nle (a := 9) (by omega) hk)) (fun _ => kb_31_21 ?_)
    refine lp_dn (P := fun i => ∀ s, s < 512 → (∀ j, j < 9 → r.testBit j = true → s.testBit j = true) → (∀ j, j < 9 → s.testBit j = true → m.testBit j = true) → (∀ S : Nat → Prop, S l → (∀ i j, i < 9 → m.testBit i = true → S i → aj σ i j → S j) → ∀ i, i < 9 → s.testBit i = true → S i) → (∀ a b, a < i → r.testBit a = true → aj σ a b → s.testBit b = true) → mw (d + 2) mt_31 Q 23 [some (.ref 5), some (.int (nI s)), some (.int (nI k)), some (.int (nI i))] [] σ) 9 ?_ ?_ 0 (by omega) r r9 (fun _ _ z => z) rm rS (fun a b h => absurd h (Nat.not_lt_zero a))
    · intro s s9 rs sm sS sd
      refine kb_31_23 (fun _ => kb_31_55 ?_) (fun g => absurd (by decide) g)
      rw [nI_1]
      refine ih s s9 (rs l hl9 rl) sm sS ?_ _
      by_cases e : s = r
      · subst e
        exact Or.inl (fun i j hi hb haj => sd i j hi hb haj)
      · rcases rc with z | z
        · -- closed already: nothing was added
          exfalso
          apply e
          refine tb_ext (k := 9) (by omega) (by omega) (fun j hj => ⟨fun hs => ?_, rs j hj⟩)
          exact sS (fun x => x < 9 ∧ m.testBit x = true ∧ r.testBit x = true) ⟨hl9, ml, rl⟩ (fun a b ha ma hs hab => by
            obtain ⟨b9, mb, -⟩ := C.aj_dr ha ma hab
            exact ⟨b9, mb, z a b ha hs.2.2 hab⟩) j hj hs |>.2.2
        · right
          have : bc r 9 < bc s 9 := by
            refine bc_lt 9 rs ?_
            refine Classical.byContradiction (fun hn => e ?_)
            refine tb_ext (k := 9) (by omega) (by omega) (fun j hj => ⟨fun hs => ?_, rs j hj⟩)
            exact Classical.byContradiction (fun hr => hn ⟨j, hj, hs, hr⟩)
          omega
    · intro i hi ihi s s9 rs sm sS sd
      refine kb_31_23 (fun g => absurd g (hI_nle (a := 9) (by omega) hi)) (fun _ => kb_31_29 (c_4 (kb_31_34 (fun z => kb_31_49 ?_) (fun z => kb_31_37 (pk_in i 9 hi) ?_))))
      · rw [nI_1]
        refine ihi s s9 rs sm sS (fun a b ha hr hab => ?_)
        by_cases e : a = i
        · subst e
          have := (hs_b0 (by omega) (by omega)).mp z
          rw [rs a hi hr] at this
          exact absurd this (by decide)
        · exact sd a b (by omega) hr hab
      · have sb := (hs_b1 (by omega) (by omega)).mp ((hs_01 _ _).resolve_left z)
        have mi := sm i hi sb
        obtain ⟨p, p9, ep⟩ := C.jm i hi mi
        rw [nI_1, nI_clamp (show i < 2 ^ 31 by omega), ep, or_bit]
        have hp : ∀ j, j < 9 → p.testBit j = true → aj σ i j := fun j hj hb => (aj_bit p9 ep).mpr ⟨hj, hb⟩
        refine ihi (s ||| p) (Nat.or_lt_two_pow (n := 9) s9 p9) (fun j hj hr => ?_) (fun j hj hb => ?_) (fun S sl hcl j hj hb => ?_) (fun a b ha hr hab => ?_)
        · rw [Nat.testBit_or, rs j hj hr]; rfl
        · rw [Nat.testBit_or, Bool.or_eq_true] at hb
          rcases hb with hb | hb
          · exact sm j hj hb
          · exact (C.aj_dr hi mi (hp j hj hb)).2.1
        · rw [Nat.testBit_or, Bool.or_eq_true] at hb
          rcases hb with hb | hb
          · exact sS S sl hcl j hj hb
          · exact hcl i j hi mi (sS S sl hcl i hi sb) (hp j hj hb)
        · rw [Nat.testBit_or, Bool.or_eq_true]
          by_cases e : a = i
          · subst e; exact Or.inr ((aj_bit p9 ep).mp hab).2
          · exact Or.inl (sd a b (by omega) hr hab)
  · exact Nat.pow_lt_pow_right (by decide) hl9
  · exact Nat.testBit_two_pow_self
  · intro i hi hb
    rw [Nat.testBit_two_pow] at hb
    have : l = i := by simpa using hb
    rw [← this]; exact ml
  · intro S sl hcl i hi hb
    rw [Nat.testBit_two_pow] at hb
    have : l = i := by simpa using hb
    rw [← this]; exact sl
  · exact Or.inr (bc_ge 9 hl9 Nat.testBit_two_pow_self)

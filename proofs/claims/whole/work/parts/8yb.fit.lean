/-! the reference: takeBack, fits, mayBeLess, keepIfLess, what they do -/
def blk (a b u i : Nat) : Nat := if i < a then 0 else if i < a + b then 1 else if i < a + b + u then 2 else 3
theorem blk_4 (a b u i : Nat) : blk a b u i < 4 := by
  unfold blk
  split
  · decide
  · split
    · decide
    · split <;> decide
def dro (ja : Nat → Nat) (k r st : Nat) : Nat := dv (if ja k = r then st else (st + 2) % 4)
theorem dro_4 {ja : Nat → Nat} {k r st : Nat} (h : st < 4) : dro ja k r st < 4 := by
  unfold dro
  exact dv_4 (by split <;> omega)
def FTS (zz : Nat → Nat) (en : Nat → Nat → Nat) (ja : Nat → Nat) (n r s a b u : Nat) (D : Nat → Nat) : Prop := ∀ i, i < zz r → (en r ((s + i) % zz r) < n → D (en r ((s + i) % zz r)) = dro ja (en r ((s + i) % zz r)) r (blk a b u i)) ∧ ∀ s', s' < 4 → en r ((s + i) % zz r) = 41 + s' → s' = blk a b u i
def inR (zz : Nat → Nat) (en : Nat → Nat → Nat) (r k : Nat) : Prop := ∃ i, i < zz r ∧ en r i = k
def DLT (n : Nat) (τ : mm_S) (T : Nat → Prop) (E : Nat → Nat) : Prop := ∀ k, k < n → (T k → τ 94 k = nI (E k) ∧ E k < 4) ∧ (¬ T k → τ 94 k = -1)
theorem f128_n {τ : mm_S} {k r st : Nat} {ja : Nat → Nat} (hk : k < 21) (hr : r < 9) (ja9 : ja k < 9) (e80 : τ 80 k = nI (ja k)) (hs : st < 4) : f_128 τ (nI k) (nI r) (nI st) = nI (dro ja k r st) := by
  unfold f_128 dro
  rw [nI_clamp (by omega), e80]
  by_cases c : ja k = r
  · rw [c, if_pos rfl, if_pos rfl]
    rcases (show st = 0 ∨ st = 1 ∨ st = 2 ∨ st = 3 by omega) with e | e | e | e <;> subst e <;> decide
  · rw [if_neg (fun z => c (nI9 ja9 hr z)), if_neg c]
    rcases (show st = 0 ∨ st = 1 ∨ st = 2 ∨ st = 3 by omega) with e | e | e | e <;> subst e <;> decide
theorem c_130t {d n l g : Nat} {Q : mm_Q} {τ : mm_S} {T : Nat → Prop} {E : Nat → Nat} (hn : n ≤ 21) (e6 : τ 10 6 = nI n) (hl : l < 9) (e105 : τ 105 l = nI g) (g21 : g < 2 ^ 21) (hT : DLT n τ T E) (q : ∀ τ', (∀ c, c ≠ 94 → c ≠ 105 → τ' c = τ c) → (∀ x, x ≠ l → τ' 105 x = τ 105 x) → τ' 105 l = nI 0 → DLT n τ' (fun k => T k ∧ ¬ g.testBit k = true) E → Q none τ') : mD (d + 1) 130 [.ref 10, .int (nI l)] τ Q := by
  have cl : (nI l).toNatClampNeg = l := nI_clamp (by omega)
  refine ke_130 (kb_130_0 ?_)
  refine lp_dn (P := fun k => ∀ ρ : mm_S, (∀ c, c ≠ 94 → ρ c = τ c) → (∀ j, j < n → (j < k ∧ g.testBit j = true → ρ 94 j = -1) ∧ (¬ (j < k ∧ g.testBit j = true) → ρ 94 j = τ 94 j)) → mw d mt_130 Q 2 [some (.ref 10), some (.int (nI l)), some (.int (nI k))] [] ρ) n ?_ ?_ 0 (Nat.zero_le n) τ (fun _ _ => rfl) (fun j _ => ⟨fun z => absurd z.1 (Nat.not_lt_zero j), fun _ => rfl⟩)
  · intro ρ fr h
    refine kb_130_2 (fun _ => kb_130_37 (pk_in l 9 hl) (q _ (fun c h1 h2 => by rw [mm_up_n h2]; exact fr c h1) (fun x hx => by rw [cl, mm_up_o hx, fr 105 (by decide)]) (by rw [cl]; exact mm_up_s) (fun k hk => ?_))) (fun z => absurd (by rw [fr 10 (by decide), e6]; exact hI_le (by omega) (Nat.le_refl n)) z)
    rw [mm_up_n (by decide)]
    obtain ⟨h1, h2⟩ := h k hk
    obtain ⟨t1, t2⟩ := hT k hk
    refine ⟨fun ⟨a, b⟩ => by rw [h2 (fun z => b z.2)]; exact t1 a, fun no => ?_⟩
    by_cases b : g.testBit k = true
    · exact h1 ⟨hk, b⟩
    · rw [h2 (fun z => b z.2)]; exact t2 (fun a => no ⟨a, b⟩)
  · intro k hk ih ρ fr h
    have r105 : ρ 105 (nI l).toNatClampNeg = nI g := by rw [cl, fr 105 (by decide)]; exact e105
    have bit : ((ρ 105 (nI l).toNatClampNeg) >>> (nI k &&& 31)) &&& (1 : Int32) = 1 ↔ g.testBit k = true := by
      rw [r105]
      have := hs_b1 (m := g) (i := k) (by omega) (by omega)
      rw [← this]
      unfold hs
      constructor
      · intro z; rw [if_pos z]
      · intro z
        by_cases y : (nI g >>> (nI k &&& 31)) &&& (1 : Int32) = 1
        · exact y
        · rw [if_neg y] at z; exact absurd z (by decide)
    refine kb_130_2 (fun z => absurd z (by rw [fr 10 (by decide), e6]; exact hI_nle (by omega) hk)) (fun _ => kb_130_10 (pk_in l 9 hl) (fun z => kb_130_24 (pk_in k 21 (by omega)) ?_) (fun z => kb_130_31 ?_))
    · rw [nI_1, nI_clamp (show k < 2 ^ 31 by omega)]
      have b := bit.mp z
      refine ih _ (fun c hc => by rw [mm_up_n hc]; exact fr c hc) (fun j hj => ?_)
      by_cases e : j = k
      · subst e
        exact ⟨fun _ => mm_up_s, fun y => absurd ⟨by omega, b⟩ y⟩
      · rw [mm_up_o e]
        exact ⟨fun y => (h j hj).1 ⟨by omega, y.2⟩, fun y => (h j hj).2 (fun w => y ⟨by omega, w.2⟩)⟩
    · rw [nI_1]
      have b : ¬ g.testBit k = true := fun y => z (bit.mpr y)
      refine ih _ fr (fun j hj => ?_)
      by_cases e : j = k
      · subst e
        exact ⟨fun y => absurd y.2 b, fun y => (h j hj).2 (fun w => b w.2)⟩
      · exact ⟨fun y => (h j hj).1 ⟨by omega, y.2⟩, fun y => (h j hj).2 (fun w => y ⟨by omega, w.2⟩)⟩
theorem dlt_lx {n : Nat} {D D' : Nat → Nat} {k : Nat} (h : ∀ e, e < k → D e = D' e) (hk : k < n) (ge : ¬ D k < D' k) (ne : D k ≠ D' k) : ¬ lx n D D' := by
  rintro ⟨e, he, k1, k2⟩
  rcases Nat.lt_trichotomy e k with c | c | c
  · rw [h e c] at k2; exact Nat.lt_irrefl _ k2
  · subst c; exact ge k2
  · exact ne (k1 k c)
theorem c_133t {d n : Nat} {Q : mm_Q} {τ : mm_S} {T : Nat → Prop} {E D0 : Nat → Nat} (hn : n ≤ 21) (e6 : τ 10 6 = nI n) (hT : DLT n τ T E) (fd : τ 10 29 = 0 ∨ (τ 10 29 = 1 ∧ ∀ e, e < n → τ 95 e = nI (D0 e) ∧ D0 e < 4)) (q1 : (τ 10 29 = 0 ∨ (∃ k, k < n ∧ ¬ T k) ∨ lx n E D0) → Q (some (.int 1)) τ) (q0 : τ 10 29 = 1 → (∀ D, (∀ k, k < n → T k → D k = E k) → ¬ lx n D D0) → Q (some (.int 0)) τ) : mD (d + 1) 133 [.ref 10] τ Q := by
  refine ke_133 (kb_133_0 ?_)
  rcases fd with f0 | ⟨f1, best⟩
  · have fin : ∀ x1, mw d mt_133 Q 71 [some (.ref 10), some (.int x1)] [] τ := fun x1 => kb_133_71 (fun _ => kb_133_78 (q1 (Or.inl f0))) (fun z => absurd f0 z)
    exact kb_133_2 (fun _ => fin _) (fun _ => kb_133_10 (fun _ => fin _) (fun z => absurd f0 z))
  · have f10 : ¬ τ 10 29 = 0 := fun z => by rw [f1] at z; exact absurd z (by decide)
    refine lp_dn (P := fun k => (∀ j, j < k → T j ∧ E j = D0 j) → mw d mt_133 Q 2 [some (.ref 10), some (.int (nI k))] [] τ) n ?_ ?_ 0 (Nat.zero_le n) (fun j hj => absurd hj (Nat.not_lt_zero j))
    · intro h
      refine kb_133_2 (fun _ => kb_133_71 (fun z => absurd z f10) (fun _ => kb_133_82 (q0 f1 (fun D hD => ?_)))) (fun z => absurd (by rw [e6]; exact hI_le (by omega) (Nat.le_refl n)) z)
      rintro ⟨e, he, _, k2⟩
      rw [hD e he (h e he).1, (h e he).2] at k2
      exact Nat.lt_irrefl _ k2
    · intro k hk ih h
      have iv : vp_in (nI k) 21 := pk_in k 21 (by omega)
      have ck : (nI k).toNatClampNeg = k := nI_clamp (by omega)
      obtain ⟨b1, b2⟩ := best k hk
      refine kb_133_2 (fun z => absurd z (by rw [e6]; exact hI_nle (by omega) hk)) (fun _ => kb_133_10 (fun z => absurd z f10) (fun _ => kb_133_17 iv (fun z => kb_133_27 (q1 (Or.inr (Or.inl ⟨k, hk, fun t => ?_⟩)))) (fun z => kb_133_29 iv iv (fun y => kb_133_65 ?_) (fun y => kb_133_44 iv iv (fun w => kb_133_63 (q0 f1 (fun D hD => ?_))) (fun w => kb_133_59 (q1 (Or.inr (Or.inr ⟨k, hk, fun j hj => (h j hj).2, ?_⟩))))))))
      · obtain ⟨t1, t2⟩ := (hT k hk).1 t
        rw [ck, t1] at z
        exact nI_m1 (by omega) z
      all_goals
        have t : T k := Classical.not_not.mp (fun no => z (by rw [ck]; exact (hT k hk).2 no))
        obtain ⟨t1, t2⟩ := (hT k hk).1 t
      · rw [ck, t1, b1] at y
        have y' := (nI_eq (by omega) (by omega)).mp y
        rw [nI_1]
        exact ih (fun j hj => by
          by_cases e : j = k
          · rw [e]; exact ⟨t, y'⟩
          · exact h j (by omega))
      · rw [ck, t1, b1] at y w
        have w' := (nI_leI (by omega) (by omega)).mp w
        have y' : E k ≠ D0 k := fun e => y (by rw [e])
        refine dlt_lx (k := k) (fun j hj => by rw [hD j (by omega) (h j hj).1]; exact (h j hj).2) hk ?_ ?_
        · rw [hD k hk t]; omega
        · rw [hD k hk t]; exact y'
      · rw [ck, t1, b1] at w
        rcases Nat.lt_or_ge (E k) (D0 k) with c | c
        · exact c
        · exact absurd (hI_le (by omega) c) w
/-- the best of all that have been seen -/
def FBr (n : Nat) (RL : (Nat → Nat) → Prop) (τ : mm_S) (X : (Nat → Nat) → Prop) : Prop := (τ 10 29 = 0 ∧ ∀ D, ¬ X D) ∨ (τ 10 29 = 1 ∧ ∃ D0, RL D0 ∧ (∀ e, e < n → τ 95 e = nI (D0 e) ∧ D0 e < 4) ∧ ∀ D, X D → ¬ lx n D D0)
theorem FBr_cg {n : Nat} {RL X X' : (Nat → Nat) → Prop} {τ τ' : mm_S} (h1 : τ' 10 29 = τ 10 29) (h2 : τ' 95 = τ 95) (hX : ∀ D, X' D → X D) (F : FBr n RL τ X) : FBr n RL τ' X' := by
  rcases F with ⟨a, b⟩ | ⟨a, D, b, c, e⟩
  · exact Or.inl ⟨h1.trans a, fun D z => b D (hX D z)⟩
  · exact Or.inr ⟨h1.trans a, D, b, fun e he => by rw [h2]; exact c e he, fun D' z => e D' (hX D' z)⟩
theorem c_134t {d n : Nat} {Q : mm_Q} {τ : mm_S} {T : Nat → Prop} {E : Nat → Nat} {RL X : (Nat → Nat) → Prop} (hn : n ≤ 21) (e6 : τ 10 6 = nI n) (hT : DLT n τ T E) (tot : ∀ k, k < n → T k) (hE : RL E) (F : FBr n RL τ X) (q : ∀ τ', (∀ c, c ≠ 10 → c ≠ 95 → τ' c = τ c) → (∀ j, j ≠ 29 → τ' 10 j = τ 10 j) → FBr n RL τ' (fun D => X D ∨ ∀ k, k < n → D k = E k) → Q none τ') : mD (d + 2) 134 [.ref 10] τ Q := by
  have store : (∀ D, X D → ¬ lx n D E) → mw (d + 1) mt_134 Q 8 [some (.ref 10), none] [] τ := fun best => by
    refine kb_134_8 ?_
    refine lp_dn (P := fun k => ∀ ρ : mm_S, (∀ c, c ≠ 10 → c ≠ 95 → ρ c = τ c) → (∀ j, j ≠ 29 → ρ 10 j = τ 10 j) → ρ 10 29 = 1 → (∀ j, j < k → ρ 95 j = nI (E j)) → mw (d + 1) mt_134 Q 15 [some (.ref 10), some (.int (nI k))] [] ρ) n ?_ ?_ 0 (Nat.zero_le n) _ (fun c h _ => mm_up_n h) (fun j hj => mm_up_o hj) mm_up_s (fun j hj => absurd hj (Nat.not_lt_zero j))
    · intro ρ f1 f2 f3 h
      refine kb_134_15 (fun _ => kb_134_41 (q ρ f1 f2 (Or.inr ⟨f3, E, hE, fun e he => ⟨h e he, ((hT e he).1 (tot e he)).2⟩, fun D hD => ?_⟩))) (fun g => absurd (by rw [f2 6 (by decide), e6]; exact hI_le (by omega) (Nat.le_refl n)) g)
      rcases hD with z | z
      · exact best D z
      · rintro ⟨e, he, _, k2⟩
        rw [z e he] at k2; exact Nat.lt_irrefl _ k2
    · intro k hk ih ρ f1 f2 f3 h
      have ck : (nI k).toNatClampNeg = k := nI_clamp (by omega)
      refine kb_134_15 (fun g => absurd g (by rw [f2 6 (by decide), e6]; exact hI_nle (by omega) hk)) (fun _ => kb_134_23 (pk_in k 21 (by omega)) (pk_in k 21 (by omega)) ?_)
      rw [nI_1, ck, f1 94 (by decide) (by decide), ((hT k hk).1 (tot k hk)).1]
      refine ih _ (fun c h1 h2 => by rw [mm_up_n h2]; exact f1 c h1 h2) (fun j hj => by rw [mm_up_n (by decide)]; exact f2 j hj) (by rw [mm_up_n (by decide)]; exact f3) (fun j hj => ?_)
      by_cases e : j = k
      · rw [e]; exact mm_up_s
      · rw [mm_up_o e]; exact h j (by omega)
  refine ke_134 (kb_134_0 ?_)
  rcases F with ⟨a, no⟩ | ⟨a, D0, r0, b0, mn⟩
  · exact c_133t (D0 := fun _ => 0) hn e6 hT (Or.inl a) (fun _ => kb_134_4 (fun z => absurd z (by decide)) (fun _ => store (fun D hD => absurd hD (no D)))) (fun z _ => by rw [a] at z; exact absurd z (by decide))
  · refine c_133t hn e6 hT (Or.inr ⟨a, b0⟩) (fun h => kb_134_4 (fun z => absurd z (by decide)) (fun _ => store (fun D hD k => ?_))) (fun _ h => kb_134_4 (fun _ => kb_134_7 (q τ (fun _ _ _ => rfl) (fun _ _ => rfl) (Or.inr ⟨a, D0, r0, b0, fun D hD => ?_⟩))) (fun z => absurd rfl z))
    · rcases h with h | ⟨j, hj, h⟩ | h
      · rw [a] at h; exact absurd h (by decide)
      · exact h (tot j hj)
      · obtain ⟨e1, he1, k1, k2⟩ := h
        obtain ⟨e2, he2, k3, k4⟩ := k
        refine mn D hD ?_
        rcases Nat.lt_trichotomy e1 e2 with c | c | c
        · exact ⟨e1, he1, fun e' h => by rw [k3 e' (by omega), k1 e' h], by rw [k3 e1 c]; exact k2⟩
        · subst c; exact ⟨e1, he1, fun e' h => by rw [k3 e' h, k1 e' h], by omega⟩
        · exact ⟨e2, he2, fun e' h => by rw [k3 e' h, k1 e' (by omega)], by rw [← k1 e2 c]; exact k4⟩
    · rcases hD with z | z
      · exact mn D z
      · exact h D (fun k hk _ => z k hk)
/-- fits: it goes on as far as the cut agrees -/
theorem c_132t {d n l r s a b u : Nat} {Q : mm_Q} {τ : mm_S} {zz ja : Nat → Nat} {en : Nat → Nat → Nat} {T : Nat → Prop} {E : Nat → Nat} (hn : n ≤ 21) (hl : l < 9) (hr : r < 9) (e100 : τ 100 l = nI r) (z16 : zz r ≤ 16) (e89 : τ 89 r = nI (zz r)) (R : ∀ i, i < zz r → τ 90 (16 * r + i) = nI (en r i) ∧ (en r i < n ∨ ∃ s', s' < 4 ∧ en r i = 41 + s')) (hj : ∀ k, k < n → ja k < 9 ∧ τ 80 k = nI (ja k)) (hc : cok (zz r) s a b u) (C : CU τ l s a b u) (hT : DLT n τ T E) (e105 : τ 105 l = nI 0)
    (q1 : ∀ τ' E' g, (∀ c, c ≠ 94 → c ≠ 105 → τ' c = τ c) → (∀ x, x ≠ l → τ' 105 x = τ 105 x) → τ' 105 l = nI g → g < 2 ^ 21 → (∀ k, k < n → (g.testBit k = true ↔ inR zz en r k ∧ ¬ T k)) → DLT n τ' (fun k => T k ∨ inR zz en r k) E' → (∀ k, k < n → T k → E' k = E k) → FTS zz en ja n r s a b u E' → Q (some (.int 1)) τ')
    (q0 : ∀ τ' E' g, (∀ c, c ≠ 94 → c ≠ 105 → τ' c = τ c) → (∀ x, x ≠ l → τ' 105 x = τ 105 x) → τ' 105 l = nI g → g < 2 ^ 21 → (∀ k, k < n → g.testBit k = true → ¬ T k) → DLT n τ' (fun k => T k ∨ g.testBit k = true) E' → (∀ k, k < n → T k → E' k = E k) → (∀ D, (∀ k, k < n → T k → D k = E k) → ¬ FTS zz en ja n r s a b u D) → Q (some (.int 0)) τ') : mD (d + 2) 132 [.ref 10, .int (nI l)] τ Q := by
  obtain ⟨hs, ha, hb, hu, hsum⟩ := id hc
  obtain ⟨c1, c2, c3, c4⟩ := C
  have cl : (nI l).toNatClampNeg = l := nI_clamp (by omega)
  have iv := pk_in l 9 hl
  obtain ⟨z, hz⟩ : ∃ z, z = zz r := ⟨_, rfl⟩
  rw [← hz] at z16 e89 R hs hsum
  refine ke_132 (kb_132_0 iv (by rw [cl, e100]; exact pk_in r 9 hr) ?_)
  rw [cl, e100, nI_clamp (show r < 2 ^ 31 by omega), e89]
  -- what has been taken in up to i
  obtain ⟨W, hW⟩ : ∃ W : Nat → Nat → Prop, W = fun i k => ∃ j, j < i ∧ en r ((s + j) % z) = k := ⟨_, rfl⟩
  refine lp_dn (P := fun i => ∀ (ρ : mm_S) (E' : Nat → Nat) (g : Nat), (∀ c, c ≠ 94 → c ≠ 105 → ρ c = τ c) → (∀ x, x ≠ l → ρ 105 x = τ 105 x) → ρ 105 l = nI g → g < 2 ^ 21 → (∀ k, k < n → (g.testBit k = true ↔ W i k ∧ ¬ T k)) → DLT n ρ (fun k => T k ∨ g.testBit k = true) E' → (∀ k, k < n → T k → E' k = E k) → (∀ j, j < i → (en r ((s + j) % z) < n → E' (en r ((s + j) % z)) = dro ja (en r ((s + j) % z)) r (blk a b u j)) ∧ ∀ s', s' < 4 → en r ((s + j) % z) = 41 + s' → s' = blk a b u j) → ∀ o5 o6 o7, mw (d + 1) mt_132 Q 17 [some (.ref 10), some (.int (nI l)), some (.int (nI r)), some (.int (nI z)), some (.int (nI i)), o5, o6, o7] [] ρ) z ?_ ?_ 0 (Nat.zero_le z) τ E 0 (fun _ _ _ => rfl) (fun _ _ => rfl) e105 (by decide) (fun k _ => ⟨fun y => by rw [tb_0] at y; exact absurd y (by decide), fun ⟨y, _⟩ => by rw [hW] at y; obtain ⟨j, hj, _⟩ := y; exact absurd hj (Nat.not_lt_zero j)⟩) (fun k hk => ⟨fun y => (hT k hk).1 (y.elim (fun w => w) (fun w => by rw [tb_0] at w; exact absurd w (by decide))), fun y => (hT k hk).2 (fun w => y (Or.inl w))⟩) (fun _ _ _ => rfl) (fun j hj => absurd hj (Nat.not_lt_zero j)) none none none
  · intro ρ E' g fr f5 eg g21 gb dl ag ft o5 o6 o7
    have all : ∀ k, k < n → (W z k ↔ inR zz en r k) := fun k _ => by
      rw [hW]
      constructor
      · rintro ⟨j, _, e⟩
        exact ⟨(s + j) % z, by rw [← hz]; exact Nat.mod_lt _ (by omega), e⟩
      · rintro ⟨i, hi, e⟩
        rw [← hz] at hi
        refine ⟨(i + z - s) % z, Nat.mod_lt _ (by omega), ?_⟩
        have : (s + (i + z - s) % z) % z = i := by
          rw [Nat.add_mod_mod, show s + (i + z - s) = i + z by omega, Nat.add_mod_right, Nat.mod_eq_of_lt hi]
        rw [this]; exact e
    refine kb_132_17 (fun _ => kb_132_198 (q1 ρ E' g fr f5 eg g21 (fun k hk => by rw [gb k hk, all k hk]) (fun k hk => ⟨fun y => (dl k hk).1 ?_, fun y => (dl k hk).2 (fun w => y ?_)⟩) ag (fun i hi => ?_))) (fun g => absurd (hI_le (by omega) (Nat.le_refl z)) g)
    · by_cases t : T k
      · exact Or.inl t
      · exact Or.inr ((gb k hk).mpr ⟨(all k hk).mpr (y.resolve_left t), t⟩)
    · rcases w with w | w
      · exact Or.inl w
      · exact Or.inr ((all k hk).mp ((gb k hk).mp w).1)
    · rw [← hz] at hi ⊢; exact ft i hi
  · intro i hi ih ρ E' g fr f5 eg g21 gb dl ag ft o5 o6 o7
    have ml : (s + i) % z < z := Nat.mod_lt _ (by omega)
    obtain ⟨w, ew⟩ : ∃ w, w = en r ((s + i) % z) := ⟨_, rfl⟩
    obtain ⟨r90, kind⟩ := R _ ml
    rw [← ew] at r90 kind
    obtain ⟨st, est⟩ : ∃ st, st = blk a b u i := ⟨_, rfl⟩
    have st4 : st < 4 := by rw [est]; exact blk_4 a b u i
    have ex : (16 : Int32) * nI r + (ρ 101 (nI l).toNatClampNeg + nI i - (ρ 101 (nI l).toNatClampNeg + nI i) / nI z * nI z) = nI (16 * r + (s + i) % z) := by
      rw [cl, fr 101 (by decide) (by decide), c1, nI_add, rem_n0 z (by omega) (by omega) _ (by omega), nI_16]
    have e90 : ρ 90 ((16 : Int32) * nI r + (ρ 101 (nI l).toNatClampNeg + nI i - (ρ 101 (nI l).toNatClampNeg + nI i) / nI z * nI z)).toNatClampNeg = nI w := by
      rw [ex, nI_clamp (by omega), fr 90 (by decide) (by decide)]; exact r90
    have x102 : ρ 102 (nI l).toNatClampNeg = nI a := by rw [cl, fr 102 (by decide) (by decide)]; exact c2
    have x103 : ρ 103 (nI l).toNatClampNeg = nI b := by rw [cl, fr 103 (by decide) (by decide)]; exact c3
    have x104 : ρ 104 (nI l).toNatClampNeg = nI u := by rw [cl, fr 104 (by decide) (by decide)]; exact c4
    -- a cut that doesn't agree
    have bad : (∀ D : Nat → Nat, (∀ k, k < n → T k → D k = E k) → (∀ j, j < i → (en r ((s + j) % z) < n → D (en r ((s + j) % z)) = dro ja (en r ((s + j) % z)) r (blk a b u j))) → ¬ ((w < n → D w = dro ja w r st) ∧ ∀ s', s' < 4 → w = 41 + s' → s' = st)) → Q (some (.int 0)) ρ := fun no => by
      refine q0 ρ E' g fr f5 eg g21 (fun k hk y => ((gb k hk).mp y).2) dl ag (fun D hD F => ?_)
      refine no D hD (fun j hj => ?_) ?_
      · have := (F j (by rw [← hz]; omega)).1; rw [← hz] at this; exact this
      · have := F i (by rw [← hz]; omega); rw [← hz, ← ew, ← est] at this; exact this
    -- what any agreeing vector is on the joins taken in
    have forced : ∀ D : Nat → Nat, (∀ k, k < n → T k → D k = E k) → (∀ j, j < i → (en r ((s + j) % z) < n → D (en r ((s + j) % z)) = dro ja (en r ((s + j) % z)) r (blk a b u j))) → ∀ k, k < n → (T k ∨ g.testBit k = true) → D k = E' k := fun D hD hj' k hk y => by
      by_cases t : T k
      · rw [hD k hk t, ag k hk t]
      · have := ((gb k hk).mp (y.resolve_left t)).1
        rw [hW] at this
        obtain ⟨j, hj1, ej⟩ := this
        have a1 := hj' j hj1 (by rw [ej]; exact hk)
        have a2 := (ft j hj1).1 (by rw [ej]; exact hk)
        rw [ej] at a1 a2
        rw [a1, a2]
    have next : ∀ (ρ' : mm_S) (E2 : Nat → Nat) (g2 : Nat), (∀ c, c ≠ 94 → c ≠ 105 → ρ' c = τ c) → (∀ x, x ≠ l → ρ' 105 x = τ 105 x) → ρ' 105 l = nI g2 → g2 < 2 ^ 21 → (∀ k, k < n → (g2.testBit k = true ↔ W (i + 1) k ∧ ¬ T k)) → DLT n ρ' (fun k => T k ∨ g2.testBit k = true) E2 → (∀ k, k < n → T k → E2 k = E k) → (∀ j, j < i → (en r ((s + j) % z) < n → E2 (en r ((s + j) % z)) = dro ja (en r ((s + j) % z)) r (blk a b u j)) ∧ ∀ s', s' < 4 → en r ((s + j) % z) = 41 + s' → s' = blk a b u j) → ((w < n → E2 w = dro ja w r st) ∧ ∀ s', s' < 4 → w = 41 + s' → s' = st) → ∀ o5 o6 o7, mw (d + 1) mt_132 Q 192 [some (.ref 10), some (.int (nI l)), some (.int (nI r)), some (.int (nI z)), some (.int (nI i)), some (.int o5), some (.int o6), o7] [] ρ' := fun ρ' E2 g2 h1 h2 h3 h4 h5 h6 h7 h8 h9 o5 o6 o7 => by
      refine kb_132_192 ?_
      rw [nI_1]
      refine ih ρ' E2 g2 h1 h2 h3 h4 h5 h6 h7 (fun j hj' => ?_) _ _ _
      by_cases e : j = i
      · subst e; rw [← ew, ← est]; exact h9
      · exact h8 j (by omega)
    have Wi : ∀ k, W (i + 1) k ↔ W i k ∨ w = k := fun k => by
      rw [hW]
      constructor
      · rintro ⟨j, hj', e⟩
        by_cases c : j = i
        · subst c; exact Or.inr (by rw [ew]; exact e)
        · exact Or.inl ⟨j, by omega, e⟩
      · rintro (⟨j, hj', e⟩ | e)
        · exact ⟨j, by omega, e⟩
        · exact ⟨i, by omega, by rw [← ew]; exact e⟩
    have same : n ≤ w ∨ (w < n ∧ (T w ∨ g.testBit w = true)) → ∀ k, k < n → (g.testBit k = true ↔ W (i + 1) k ∧ ¬ T k) := fun h k hk => by
      rw [gb k hk, Wi k]
      constructor
      · rintro ⟨y1, y2⟩; exact ⟨Or.inl y1, y2⟩
      · rintro ⟨y1, y2⟩
        refine ⟨?_, y2⟩
        rcases y1 with y1 | y1
        · exact y1
        · subst y1
          rcases h with h | ⟨_, h⟩
          · omega
          · exact ((gb _ hk).mp (h.resolve_left y2)).1
    -- a side
    have side : ∀ o7, 41 ≤ w → mw (d + 1) mt_132 Q 122 [some (.ref 10), some (.int (nI l)), some (.int (nI r)), some (.int (nI z)), some (.int (nI i)), some (.int (nI w)), some (.int (nI st)), o7] [] ρ := fun o7 w41 => by
      obtain ⟨s', s4, es⟩ := kind.resolve_left (by omega)
      have e127 : f_127 (nI w) = nI s' := by
        unfold f_127
        rw [es, show (20 : Int32) = nI 20 from rfl, show (21 : Int32) = nI 21 from rfl, nI_sub (by omega), nI_sub (by omega)]
        congr 1; omega
      refine kb_132_122 (c_127 ?_)
      rw [e127]
      refine kb_132_127 (fun y => ?_) (fun y => kb_132_132 (bad (fun D _ _ F => y ?_)))
      · have y' := (nI_eq (by omega) (by omega)).mp y
        exact next ρ E' g fr f5 eg g21 (same (Or.inl (by omega))) dl ag ft ⟨fun h => absurd h (by omega), fun s'' h4 e => by omega⟩ _ _ _
      · rw [F.2 s' s4 es]
    have join : ∀ o7, w < n → mw (d + 1) mt_132 Q 134 [some (.ref 10), some (.int (nI l)), some (.int (nI r)), some (.int (nI z)), some (.int (nI i)), some (.int (nI w)), some (.int (nI st)), o7] [] ρ := fun o7 hw => by
      have ik : vp_in (nI w) 21 := pk_in w 21 (by omega)
      have cw : (nI w).toNatClampNeg = w := nI_clamp (by omega)
      obtain ⟨ja9, e80⟩ := hj w hw
      have d4 := dro_4 (ja := ja) (k := w) (r := r) st4
      refine kb_132_134 (c_128 ik ?_)
      rw [f128_n (ja := ja) (by omega) hr ja9 (by rw [fr 80 (by decide) (by decide)]; exact e80) st4]
      refine kb_132_143 ik (fun y => kb_132_156 ik iv iv ik ?_ (fun y2 => absurd ?_ y2)) (fun y => kb_132_178 ik (fun y2 => ?_) (fun y2 => kb_132_190 (bad (fun D hD hj' F => y2 ?_))))
      · intro _
        rw [cw] at y
        have nt : ¬ (T w ∨ g.testBit w = true) := fun t => by
          have := ((dl w hw).1 t)
          rw [this.1] at y
          exact nI_m1 (by omega) y
        have r105 : (mm_up ρ 94 (nI w).toNatClampNeg (nI (dro ja w r st))) 105 (nI l).toNatClampNeg = nI g := by rw [mm_up_n (by decide), cl]; exact eg
        rw [r105, one_sh (by omega), or_bit, cw, cl]
        have tb : ∀ k, (g ||| 2 ^ w).testBit k = true ↔ g.testBit k = true ∨ w = k := fun k => by
          rw [Nat.testBit_or, Nat.testBit_two_pow, Bool.or_eq_true]; simp
        refine next _ (fun k => if k = w then dro ja w r st else E' k) (g ||| 2 ^ w) (fun c h1 h2 => by rw [mm_up_n h2, mm_up_n h1]; exact fr c h1 h2) (fun x hx => by rw [mm_up_o hx, mm_up_n (by decide)]; exact f5 x hx) mm_up_s (Nat.or_lt_two_pow (n := 21) g21 (Nat.pow_lt_pow_right (by decide) (by omega))) (fun k hk => ?_) (fun k hk => ?_) (fun k hk t => ?_) (fun j hj' => ?_) ⟨fun _ => if_pos rfl, fun s' h4 e => by omega⟩ _ _ _
        · rw [tb k, Wi k, gb k hk]
          constructor
          · rintro (⟨y1, y2⟩ | y1)
            · exact ⟨Or.inl y1, y2⟩
            · exact ⟨Or.inr y1, fun t => nt (Or.inl (y1 ▸ t))⟩
          · rintro ⟨y1 | y1, y2⟩
            · exact Or.inl ⟨y1, y2⟩
            · exact Or.inr y1
        · rw [mm_up_n (by decide)]
          by_cases e : k = w
          · subst e
            refine ⟨fun _ => ⟨by show _ = nI (if k = k then _ else _); rw [if_pos rfl]; exact mm_up_s, by show (if k = k then dro ja k r st else E' k) < 4; rw [if_pos rfl]; exact d4⟩, fun y => absurd (Or.inr ((tb k).mpr (Or.inr rfl))) y⟩
          · rw [mm_up_o e]
            simp only [if_neg e]
            refine ⟨fun y => (dl k hk).1 (y.imp (fun t => t) (fun t => ((tb k).mp t).resolve_right (fun z => e z.symm))), fun y => (dl k hk).2 (fun t => y (t.imp (fun t => t) (fun t => (tb k).mpr (Or.inl t))))⟩
        · show (if k = w then dro ja w r st else E' k) = E k
          rw [if_neg (fun e : k = w => nt (Or.inl (e ▸ t)))]; exact ag k hk t
        · obtain ⟨z1, z2⟩ := ft j hj'
          refine ⟨fun h => ?_, z2⟩
          show (if en r ((s + j) % z) = w then dro ja w r st else E' (en r ((s + j) % z))) = _
          by_cases e : en r ((s + j) % z) = w
          · exfalso
            refine nt ?_
            by_cases t : T w
            · exact Or.inl t
            · exact Or.inr ((gb w hw).mpr ⟨by rw [hW]; exact ⟨j, hj', e⟩, t⟩)
          · rw [if_neg e]; exact z1 h
      · rw [mm_up_n (by decide)]; exact mm_up_s
      all_goals
        rw [cw] at y
        have t : T w ∨ g.testBit w = true := Classical.not_not.mp (fun no => y ((dl w hw).2 no))
        obtain ⟨t1, t2⟩ := (dl w hw).1 t
        rw [cw, t1] at y2
      · have y3 := (nI_eq (by omega) (by omega)).mp y2
        exact next ρ E' g fr f5 eg g21 (same (Or.inr ⟨hw, t⟩)) dl ag ft ⟨fun _ => y3, fun s' h4 e => by omega⟩ _ _ _
      · rw [cw, t1, ← forced D hD hj' w hw t, F.1 hw]
    have pick : ∀ o7, (nI w < (21 : Int32) → mw (d + 1) mt_132 Q 134 [some (.ref 10), some (.int (nI l)), some (.int (nI r)), some (.int (nI z)), some (.int (nI i)), some (.int (nI w)), some (.int (nI st)), o7] [] ρ) ∧ (¬ nI w < (21 : Int32) → mw (d + 1) mt_132 Q 122 [some (.ref 10), some (.int (nI l)), some (.int (nI r)), some (.int (nI z)), some (.int (nI i)), some (.int (nI w)), some (.int (nI st)), o7] [] ρ) := fun o7 => by
      rcases kind with h | ⟨s', h4, h⟩
      · exact ⟨fun _ => join o7 h, fun y => absurd ((nI_ltI (b := 21) (by omega) (by omega)).mpr (by omega)) y⟩
      · exact ⟨fun y => absurd ((nI_ltI (b := 21) (by omega) (by omega)).mp y) (by omega), fun _ => side o7 (by omega)⟩
    refine kb_132_17 (fun g => absurd g (hI_nle (by omega) hi)) (fun _ => kb_132_23 iv (nI_ne0 (by omega) (by omega)) (by rw [ex]; exact pk_in (16 * r + (s + i) % z) 144 (by omega)) iv ?_ ?_)
    · rw [e90, x102]
      intro y
      have y' := (nI_leI (by omega) (by omega)).mp y
      refine kb_132_61 iv iv (fun y2 => ?_) (fun y2 => ?_)
      · rw [x102, x103, nI_add] at y2
        have y2' := (nI_leI (by omega) (by omega)).mp y2
        refine kb_132_83 iv iv iv (fun y3 => ?_) (fun y3 => ?_)
        · rw [x102, x103, x104, nI_add, nI_add] at y3
          have y3' := (nI_leI (by omega) (by omega)).mp y3
          have e : st = 3 := by rw [est]; unfold blk; rw [if_neg (by omega), if_neg (by omega), if_neg (by omega)]
          rw [e] at pick
          exact kb_132_112 (pick _).1 (pick _).2
        · rw [x102, x103, x104, nI_add, nI_add] at y3
          have y3' : i < a + b + u := by
            rcases Nat.lt_or_ge i (a + b + u) with c | c
            · exact c
            · exact absurd (hI_le (by omega) c) y3
          have e : st = 2 := by rw [est]; unfold blk; rw [if_neg (by omega), if_neg (by omega), if_pos (by omega)]
          rw [e] at pick
          exact kb_132_108 (pick _).1 (pick _).2
      · rw [x102, x103, nI_add] at y2
        have y2' : i < a + b := by
          rcases Nat.lt_or_ge i (a + b) with c | c
          · exact c
          · exact absurd (hI_le (by omega) c) y2
        have e : st = 1 := by rw [est]; unfold blk; rw [if_neg (by omega), if_pos (by omega)]
        rw [e] at pick
        exact kb_132_79 (pick _).1 (pick _).2
    · rw [e90, x102]
      intro y
      have y' : i < a := by
        rcases Nat.lt_or_ge i a with c | c
        · exact c
        · exact absurd (hI_le (by omega) c) y
      have e : st = 0 := by rw [est]; unfold blk; rw [if_pos y']
      rw [e] at pick
      exact kb_132_57 (pick _).1 (pick _).2

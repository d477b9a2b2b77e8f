/-! class: orderJoins -/
theorem aj_cg {σ τ : mm_S} (h : τ 15 = σ 15) : aj τ = aj σ := by
  funext i j
  unfold aj
  rw [h]
theorem vc_cg {σ τ : mm_S} (h1 : τ 11 = σ 11) (h2 : τ 12 = σ 12) : vc τ = vc σ := by
  funext i j
  unfold vc pX pY
  rw [h1, h2]
theorem cG_cg {σ τ : mm_S} (h1 : τ 11 = σ 11) (h2 : τ 12 = σ 12) : cG τ = cG σ := by
  funext i
  unfold cG pX pY
  rw [h1, h2]
/-- behind[a][b] holds what comes next -/
def DD (σ τ : mm_S) (a b : Nat) : Prop := ∃ g, τ (21 + 1 + a) b = nI g ∧ nxt (aj σ a) (vc σ a) b g
theorem DD_up {σ τ : mm_S} {a b g x y : Nat} (h : nxt (aj σ a) (vc σ a) b g) (hd : (x = a ∧ y = b) ∨ DD σ τ x y) : DD σ (mm_up τ (21 + 1 + a) b (nI g)) x y := by
  by_cases e : x = a ∧ y = b
  · obtain ⟨e1, e2⟩ := e
    subst e1; subst e2
    exact ⟨g, mm_up_s, h⟩
  · rcases hd with hd | hd
    · exact absurd hd e
    · obtain ⟨k, h1, h2⟩ := hd
      refine ⟨k, ?_, h2⟩
      rw [← h1]
      by_cases e1 : x = a
      · subst e1
        exact mm_up_o (fun z => e ⟨rfl, z⟩)
      · rw [mm_up_n (by omega)]
theorem mr21n {a j : Nat} (ha : a < 9) (hj : j < 13) : mm_ia ms_Y (21 + 1 + a) (nI j) := by
  have h := mr_21 (pk_in a 9 ha) (pk_in j 13 hj)
  rw [nI_clamp (show a < 2 ^ 31 by omega)] at h
  exact h
theorem c_33 {d n m : Nat} {Q : mm_Q} {σ : mm_S} (C : CK σ n m) (N : NC σ n)
    (q : ∀ τ : mm_S, (∀ k, (k < 22 ∨ 30 < k) → τ k = σ k) → (∀ a b, a < 9 → m.testBit a = true → aj σ a b → DD σ τ a b) → Q none τ) : mD (d + 4) 33 [.ref 5] σ Q := by
  refine ke_33 (kb_33_0 ?_)
  refine lp_dn (P := fun e => ∀ τ : mm_S, (∀ k, (k < 22 ∨ 30 < k) → τ k = σ k) → (∀ k, k < e → ∀ a b, σ 16 k = nI a → σ 17 k = nI b → a < 9 → b < 9 → DD σ τ a b ∧ DD σ τ b a) → ∀ o2 o3, mw (d + 3) mt_33 Q 2 [some (.ref 5), some (.int (nI e)), o2, o3] [] τ) n ?_ ?_ 0 (Nat.zero_le n) σ (fun _ _ => rfl) (fun k hk => absurd hk (Nat.not_lt_zero k)) none none
  · intro τ hf hd o2 o3
    refine kb_33_2 (fun _ => kb_33_67 (q τ hf (fun a b ha ma hab => ?_))) (fun g => absurd ?_ g)
    · obtain ⟨k, hk, h, hb⟩ := (C.ja a b ha ma).mp hab
      rcases h with h | h
      · exact (hd k hk a b h.1 h.2 ha hb).1
      · exact (hd k hk b a h.1 h.2 hb ha).2
    · rw [hf 1 (by omega), C.jn.2]; exact hI_le (by have := C.jn.1; omega) (Nat.le_refl n)
  · intro e he ih τ hf hd o2 o3
    have n21 := C.jn.1
    obtain ⟨a, b, ha, hb, hne, ma, mb, e1, e2⟩ := C.je e he
    have ab : aj σ a b := (C.ja a b ha ma).mpr ⟨e, he, Or.inl ⟨e1, e2⟩, hb⟩
    have ba : aj σ b a := (C.ja b a hb mb).mpr ⟨e, he, Or.inr ⟨e1, e2⟩, ha⟩
    have call : ∀ (i f : Nat) (ρ : mm_S) (Q' : mm_Q), i < 9 → m.testBit i = true → aj σ i f → (∀ k, (k < 22 ∨ 30 < k) → ρ k = σ k) → (∀ g, nxt (aj σ i) (vc σ i) f g → Q' (some (.int (nI g))) ρ) → mD (d + 3) 34 [.ref 5, .int (nI i), .int (nI f)] ρ Q' := by
      intro i f ρ Q' hi mi hif hr hq
      have r1 := aj_cg (hr 15 (by omega))
      have r2 := vc_cg (hr 11 (by omega)) (hr 12 (by omega))
      have r3 := cG_cg (hr 11 (by omega)) (hr 12 (by omega))
      refine c_34 (by rw [r3]; exact ⟨hi, C.xy i hi mi⟩) (fun j hj => ?_) (by rw [r1, r2]; exact C.gdd N hi mi) (by rw [r1]; exact hif) (fun g hg => hq g (by rw [r1, r2] at hg; exact hg))
      rw [r1] at hj
      rw [r3]
      obtain ⟨j9, mj, -⟩ := C.aj_dr hi mi hj
      exact C.xy j j9 mj
    have ce : (nI e).toNatClampNeg = e := nI_clamp (by omega)
    have t16 : τ 16 (nI e).toNatClampNeg = nI a := by rw [ce, hf 16 (by omega)]; exact e1
    have t17 : τ 17 (nI e).toNatClampNeg = nI b := by rw [ce, hf 17 (by omega)]; exact e2
    have ca : (nI a).toNatClampNeg = a := nI_clamp (by omega)
    have cb : (nI b).toNatClampNeg = b := nI_clamp (by omega)
    refine kb_33_2 (fun g => absurd g ?_) (fun _ => kb_33_13 (pk_in e 21 (by omega)) (pk_in e 21 (by omega)) ?_ ?_)
    · rw [hf 1 (by omega), C.jn.2]; exact hI_nle (by omega) he
    · rw [t16]; exact pk_in a 9 ha
    · rw [t16, t17]
      refine call a b τ _ ha ma ab hf (fun g hg => ?_)
      refine kb_33_46 (mr_21 (pk_in a 9 ha) (pk_in b 13 (by omega))) (pk_in b 9 hb) ?_
      rw [ca, cb]
      have f2 : ∀ k, (k < 22 ∨ 30 < k) → mm_up τ (21 + 1 + a) b (nI g) k = σ k := fun k hk => by rw [mm_up_n (by omega)]; exact hf k hk
      refine call b a _ _ hb mb ba f2 (fun g2 hg2 => ?_)
      refine kb_33_60 (mr21n hb (by omega)) ?_
      rw [nI_1, ca]
      refine ih _ (fun k hk => by rw [mm_up_n (by omega)]; exact f2 k hk) (fun k hk x y h1 h2 hx hy => ?_) _ _
      by_cases eq : k = e
      · subst eq
        have p1 := nI9 hx ha (h1.symm.trans e1)
        have p2 := nI9 hy hb (h2.symm.trans e2)
        subst p1; subst p2
        exact ⟨DD_up hg2 (Or.inr (DD_up hg (Or.inl ⟨rfl, rfl⟩))), DD_up hg2 (Or.inl ⟨rfl, rfl⟩)⟩
      · obtain ⟨p, r⟩ := hd k (by omega) x y h1 h2 hx hy
        exact ⟨DD_up hg2 (Or.inr (DD_up hg (Or.inr p))), DD_up hg2 (Or.inr (DD_up hg (Or.inr r)))⟩

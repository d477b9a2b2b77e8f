/-! class: findFirst -/
/-- what findFirst may change -/
def ffr (τ τ' : mm_S) : Prop := ∀ c, c ≠ 7 → (c < 45 ∨ c = 50 ∨ 61 < c) → τ' c = τ c
theorem c_61 {d n m f L : Nat} {Q : mm_Q} {σ τ : mm_S} {o K : Nat → Nat} {V : Nat → Nat → Prop} (C : CK σ n m) (Z : Cn σ m) (t1 : τ 1 = σ 1) (t15 : τ 15 = σ 15) (t16 : τ 16 = σ 16) (t17 : τ 17 = σ 17) (f42 : f ≤ 42) (e56 : τ 5 6 = nI f) (hM : ∀ g, g < f → ∃ M, M < 512 ∧ τ 43 g = nI M ∧ bc M 9 = 3)
    (O : OA τ L o) (dis : ∀ i j, i < j → j < L → o i ≠ o j) (om : ∀ k, k < L → m.testBit (o k) = true) (hK : ∀ v, v < 13 → τ 44 v = nI (K v) ∧ K v < 8192)
    (v1 : ∀ k s, k < L → FSd K (o k) s → V (o k) (9 + s)) (v2 : ∀ r v, r < 9 → m.testBit r = true → aj σ r v → V r v)
    (vg : ∀ r v, r < 9 → V r v → v < 13 ∧ ∃ g, τ (21 + 1 + r) v = nI g ∧ V r g ∧ (v < 9 → g < 9 → ∃ h, h < f ∧ τ (33 + 1 + v) r = nI h)) (hBG : BG τ) (hDG : DG τ)
    (q : ∀ τ', ffr τ τ' → BG τ' → DG τ' → Q none τ') : mD (d + 60) 61 [.ref 7] τ Q := by
  refine ke_61 (kb_61_0 ?_)
  have fr0 : ∀ (ρ : mm_S), (∀ c, c ≠ 7 → c ≠ 46 → c ≠ 48 → c ≠ 49 → ρ c = τ c) → ffr τ ρ := fun ρ h c h1 h2 => h c h1 (by omega) (by omega) (by omega)
  refine lp_dn (P := fun i => ∀ ρ : mm_S, (∀ c, c ≠ 7 → c ≠ 46 → c ≠ 48 → c ≠ 49 → ρ c = τ c) → ρ 7 8 = 0 → mw (d + 59) mt_61 Q 7 [some (.ref 7), some (.int (nI i))] [] ρ) 9 ?_ ?_ 0 (by omega) _ (fun c h _ _ _ => mm_up_n h) mm_up_s
  · intro ρ fr e78
    refine kb_61_7 (fun _ => kb_61_46 ?_) (fun g => absurd (by decide) g)
    refine lp_dn (P := fun g => ∀ ρ : mm_S, (∀ c, c ≠ 7 → c ≠ 46 → c ≠ 48 → c ≠ 49 → ρ c = τ c) → ρ 7 8 = 0 → (∀ h i, h < g → i < 3 → ∃ b, b < 9 ∧ ρ 46 (3 * h + i) = nI b) → mw (d + 59) mt_61 Q 48 [some (.ref 7), some (.int (nI g))] [] ρ) f ?_ ?_ 0 (Nat.zero_le f) ρ fr e78 (fun h i hh => absurd hh (Nat.not_lt_zero h))
    · intro ρ fr e78 hb
      have r5 : ρ 5 6 = nI f := by rw [fr 5 (by decide) (by decide) (by decide) (by decide)]; exact e56
      refine kb_61_48 (fun _ => kb_61_76 ?_) (fun g => absurd (by rw [r5]; exact hI_le (by omega) (Nat.le_refl f)) g)
      have O' : OA ρ L o := OA_cg (by rw [fr 5 (by decide) (by decide) (by decide) (by decide)]) (fr 31 (by decide) (by decide) (by decide) (by decide)) (fr 32 (by decide) (by decide) (by decide) (by decide)) O
      refine c_63 C Z (by rw [fr 15 (by decide) (by decide) (by decide) (by decide)]; exact t15) O' dis om (fun v hv => by rw [fr 44 (by decide) (by decide) (by decide) (by decide)]; exact hK v hv) v1 v2 (fun ρ2 fr2 ord => kb_61_80 ?_)
      have k2 : ∀ c, c ≠ 7 → c ≠ 46 → c ≠ 48 → c ≠ 49 → c ≠ 60 → c ≠ 61 → ρ2 c = τ c := fun c h1 h2 h3 h4 h5 h6 => by rw [fr2 c h5 h6]; exact fr c h1 h2 h3 h4
      have G : LG ρ2 V n f (bc m 9) := by
        refine ⟨fun r v hr hv => ?_, ⟨f42, by rw [k2 5 (by decide) (by decide) (by decide) (by decide) (by decide) (by decide)]; exact e56⟩, fun v hv => ⟨K v, (hK v hv).2, by rw [k2 44 (by decide) (by decide) (by decide) (by decide) (by decide) (by decide)]; exact (hK v hv).1⟩, ⟨C.jn.1, by rw [k2 1 (by decide) (by decide) (by decide) (by decide) (by decide) (by decide), t1]; exact C.jn.2⟩, fun k hk => ?_, ⟨bc_n m 9, by rw [k2 1 (by decide) (by decide) (by decide) (by decide) (by decide) (by decide), t1]; exact C.cr⟩, fun g i hg hi => ?_, ord⟩
        · obtain ⟨a1, g, a2, a3, a4⟩ := vg r v hr hv
          refine ⟨a1, g, by rw [k2 _ (by omega) (by omega) (by omega) (by omega) (by omega) (by omega)]; exact a2, a3, fun h1 h2 => ?_⟩
          obtain ⟨h, b1, b2⟩ := a4 h1 h2
          exact ⟨h, b1, by rw [k2 _ (by omega) (by omega) (by omega) (by omega) (by omega) (by omega)]; exact b2⟩
        · obtain ⟨a, b, ha, hb, _, _, _, e1, e2⟩ := C.je k hk
          exact ⟨a, b, ha, hb, by rw [k2 16 (by decide) (by decide) (by decide) (by decide) (by decide) (by decide), t16]; exact e1, by rw [k2 17 (by decide) (by decide) (by decide) (by decide) (by decide) (by decide), t17]; exact e2⟩
        · rw [fr2 46 (by decide) (by decide)]; exact hb g i hg hi
      have I : LI ρ2 ρ2 := by
        refine ⟨fun _ _ _ _ _ _ _ => rfl, Or.inl (by rw [fr2 7 (by decide) (by decide)]; exact e78), fun r v hr hv => ?_, fun e he => ?_⟩
        · rw [k2 _ (by omega) (by omega) (by omega) (by omega) (by omega) (by omega)]; exact hBG r v hr hv
        · rw [k2 _ (by omega) (by omega) (by omega) (by omega) (by omega) (by omega)]; exact hDG e he
      have := c_64 G f (d + 54 - f) 0 (fun v τ => mw (d + 59) mt_61 Q 85 [some (.ref 7), some (.int (nI f))] (v.toList ++ []) τ) ρ2 (by omega) I (fun τ' I' => kb_61_85 (q τ' (fun c h1 h2 => ?_) I'.2.2.1 I'.2.2.2))
      · rw [show d + 54 - f + f + 5 = d + 59 by omega] at this
        exact this
      · rw [I'.1 c h1 (by omega) (by omega) (by omega) (by omega) (by omega)]
        exact k2 c h1 (by omega) (by omega) (by omega) (by omega) (by omega)
    · intro g hg ih ρ fr e78 hb
      have r5 : ρ 5 6 = nI f := by rw [fr 5 (by decide) (by decide) (by decide) (by decide)]; exact e56
      obtain ⟨M, m1, m2, m3⟩ := hM g hg
      refine kb_61_48 (fun z => absurd z (by rw [r5]; exact hI_nle (by omega) hg)) (fun _ => kb_61_59 (c_62 (by omega) (by rw [fr 43 (by decide) (by decide) (by decide) (by decide)]; exact m2) m1 m3 (fun ρ1 f1 b1 b2 => kb_61_64 (c_65e (by omega) b1 (fun ρ2 f2 => kb_61_70 ?_)))))
      rw [nI_1]
      refine ih ρ2 (fun c h1 h2 h3 h4 => by rw [f2 c h4, f1 c h2]; exact fr c h1 h2 h3 h4) (by rw [f2 7 (by decide), f1 7 (by decide)]; exact e78) (fun h i hh hi => ?_)
      rw [f2 46 (by decide)]
      by_cases e : h = g
      · subst e; exact b1 i hi
      · rw [b2 _ (by omega)]; exact hb h i (by omega) hi
  · intro i hi ih ρ fr e78
    refine kb_61_7 (fun g => absurd g (hI_nle (a := 9) (by omega) hi)) (fun _ => kb_61_13 (pk_in i 13 (by omega)) (c_153 (kb_61_30 (pk_in i 9 hi) (pk_in i 9 hi) ?_)))
    rw [nI_1]
    exact ih _ (fun c h1 h2 h3 h4 => by rw [mm_up_n h4, mm_up_n h3]; exact fr c h1 h2 h3 h4) (by rw [mm_up_n (by decide), mm_up_n (by decide)]; exact e78)

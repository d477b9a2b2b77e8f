section
/-! class: listRooms, orderRooms -/
theorem c_65e {d g : Nat} {Q : mm_Q} {τ : mm_S} {x : Int32} (hg : g < 42) (hb : ∀ i, i < 3 → ∃ b, b < 9 ∧ τ 46 (3 * g + i) = nI b) (q : ∀ τ' : mm_S, (∀ c, c ≠ 49 → τ' c = τ c) → Q none τ') : mD (d + 1) 65 [.ref 7, .int (nI g), .int x] τ Q := by
  refine ks_65_0 ?_
  rw [nI_3]
  have key := lp_dn (P := fun i => ∀ ρ : mm_S, (∀ c, c ≠ 49 → ρ c = τ c) → mw d mt_65 Q 4 [some (.ref 7), some (.int (nI g)), some (.int x), some (.int (nI (3 * g + i)))] [] ρ) 3 ?_ ?_ 0 (by omega) τ (fun _ _ => rfl)
  · exact key
  · intro ρ fr
    have g3 : (3 : Int32) * nI g + 3 ≤ nI (3 * g + 3) := by rw [nI_3, nI_a3]; exact hI_le (by omega) (Nat.le_refl _)
    exact ks_65_4 (fun z => absurd g3 z) (fun z => absurd g3 z) (fun _ => q ρ fr) (fun z => absurd g3 z)
  · intro i hi ih ρ fr
    have g3 : ¬ ((3 : Int32) * nI g + 3 ≤ nI (3 * g + i)) := by rw [nI_3, nI_a3]; exact hI_nle (by omega) (by omega)
    obtain ⟨b, hb, eb⟩ := hb i hi
    have e46 : ρ 46 (nI (3 * g + i)).toNatClampNeg = nI b := by rw [nI_clamp (by omega), fr 46 (by decide)]; exact eb
    refine ks_65_4 (fun _ => pk_in (3 * g + i) 126 (by omega)) (fun _ => by rw [e46]; exact pk_in b 9 hb) (fun z => absurd z g3) (fun _ => ?_)
    rw [nI_1]
    exact ih _ (fun c hc => by rw [mm_up_n hc]; exact fr c hc)
def rs (M : Nat) : Nat → Nat
  | 0 => M
  | i + 1 => rs M i &&& (rs M i - 1)
set_option maxRecDepth 100000 in
theorem rs_lo : ∀ M, M < 512 → bc M 9 = 3 → ∀ i, i < 3 → lo (rs M i) 13 0 < 9 ∧ rs M i < 512 := by decide +kernel
theorem c_62 {d g M : Nat} {Q : mm_Q} {τ : mm_S} (hg : g < 42) (e43 : τ 43 g = nI M) (hM : M < 512) (h3 : bc M 9 = 3) (q : ∀ τ' : mm_S, (∀ c, c ≠ 46 → τ' c = τ c) → (∀ i, i < 3 → ∃ b, b < 9 ∧ τ' 46 (3 * g + i) = nI b) → (∀ j, (j < 3 * g ∨ 3 * g + 3 ≤ j) → τ' 46 j = τ 46 j) → Q none τ') : mD (d + 3) 62 [.ref 7, .int (nI g)] τ Q := by
  refine ke_62 (kb_62_0 (pk_in g 42 hg) ?_)
  rw [nI_clamp (show g < 2 ^ 31 by omega), e43, nI_3]
  have key := lp_dn (P := fun i => ∀ ρ : mm_S, (∀ c, c ≠ 46 → ρ c = τ c) → (∀ i', i' < i → ∃ b, b < 9 ∧ ρ 46 (3 * g + i') = nI b) → (∀ j, (j < 3 * g ∨ 3 * g + 3 ≤ j) → ρ 46 j = τ 46 j) → mw (d + 2) mt_62 Q 14 [some (.ref 7), some (.int (nI g)), some (.int (nI (rs M i))), some (.int (nI (3 * g + i)))] [] ρ) 3 ?_ ?_ 0 (by omega) τ (fun _ _ => rfl) (fun i h => absurd h (Nat.not_lt_zero i)) (fun _ _ => rfl)
  · exact key
  · intro ρ fr hb ho
    have g3 : (3 : Int32) * nI g + 3 ≤ nI (3 * g + 3) := by rw [nI_3, nI_a3]; exact hI_le (by omega) (Nat.le_refl _)
    exact kb_62_14 (fun _ => kb_62_44 (q ρ fr hb ho)) (fun z => absurd g3 z)
  · intro i hi ih ρ fr hb ho
    have g3 : ¬ ((3 : Int32) * nI g + 3 ≤ nI (3 * g + i)) := by rw [nI_3, nI_a3]; exact hI_nle (by omega) (by omega)
    obtain ⟨l9, r5⟩ := rs_lo M hM h3 i hi
    refine kb_62_14 (fun z => absurd z g3) (fun _ => kb_62_23 (c_5f (nI_pos (by omega)) ?_))
    rw [F5_n (by omega)]
    refine kb_62_32 (pk_in (3 * g + i) 126 (by omega)) (c_6 (kb_62_37 ?_))
    rw [(f_6_n0 _ r5).1, nI_1, nI_clamp (show 3 * g + i < 2 ^ 31 by omega)]
    refine ih _ (fun c hc => by rw [mm_up_n hc]; exact fr c hc) (fun i' hi' => ?_) (fun j hj => by rw [mm_up_o (by omega)]; exact ho j hj)
    by_cases e : i' = i
    · subst e; exact ⟨_, l9, mm_up_s⟩
    · rw [mm_up_o (by omega)]; exact hb i' (by omega)
theorem bc_not {w j : Nat} (hj : j < 9) (h : ¬ w.testBit j = true) : bc w 9 < 9 := by
  have := bc_n w 9
  rcases Nat.lt_or_ge (bc w 9) 9 with y | y
  · exact y
  · exact absurd (bc_full 9 (by omega) j hj) h
theorem c_63 {d n m L : Nat} {Q : mm_Q} {σ τ : mm_S} {o K : Nat → Nat} {V : Nat → Nat → Prop} (C : CK σ n m) (Z : Cn σ m) (t15 : τ 15 = σ 15) (O : OA τ L o) (dis : ∀ i j, i < j → j < L → o i ≠ o j) (om : ∀ k, k < L → m.testBit (o k) = true) (hK : ∀ v, v < 13 → τ 44 v = nI (K v) ∧ K v < 8192)
    (v1 : ∀ k s, k < L → FSd K (o k) s → V (o k) (9 + s)) (v2 : ∀ r v, r < 9 → m.testBit r = true → aj σ r v → V r v)
    (q : ∀ τ' : mm_S, (∀ c, c ≠ 60 → c ≠ 61 → τ' c = τ c) → (∀ k, k < bc m 9 → ∃ r v, r < 9 ∧ V r v ∧ τ' 60 k = nI r ∧ τ' 61 k = nI v) → Q none τ') : mD (d + 4) 63 [.ref 7] τ Q := by
  obtain ⟨l1, l9, e3, arr, inv⟩ := id O
  refine ke_63 (kb_63_0 ?_)
  refine lp_dn (P := fun k => ∀ (ρ : mm_S) (w : Nat), (∀ c, c ≠ 60 → c ≠ 61 → ρ c = τ c) → w < 512 → bc w 9 = k → (∀ i, i < 9 → (w.testBit i = true ↔ ∃ j, j < k ∧ o j = i)) → (∀ j, j < k → ρ 60 j = nI (o j) ∧ ∃ v, V (o j) v ∧ ρ 61 j = nI v) → ∀ o3 o4, mw (d + 3) mt_63 Q 4 [some (.ref 7), some (.int (nI w)), some (.int (nI k)), o3, o4] [] ρ) L ?_ ?_ 0 (Nat.zero_le L) τ 0 (fun _ _ _ => rfl) (by decide) (by decide) (fun i _ => ⟨fun z => absurd z (by simp), fun ⟨j, hj, _⟩ => absurd hj (Nat.not_lt_zero j)⟩) (fun j hj => absurd hj (Nat.not_lt_zero j)) none none
  · intro ρ w fr w9 hw wb ord o3 o4
    refine kb_63_4 (fun _ => kb_63_69 ?_) (fun g => absurd (by rw [fr 5 (by decide) (by decide), e3]; exact hI_le (by omega) (Nat.le_refl L)) g)
    rw [fr 5 (by decide) (by decide), e3]
    -- the rooms behind the outline
    have fin : ∀ (k z w : Nat) (ρ : mm_S) (o4 : Option Value), (z ≤ k ∨ 9 ≤ k) → z ≤ 9 → (∀ c, c ≠ 60 → c ≠ 61 → ρ c = τ c) → w < 512 → bc w 9 = z → 1 ≤ z → (∀ i, i < 9 → w.testBit i = true → m.testBit i = true ∧ ∃ j, j < z ∧ ρ 60 j = nI i) → (∀ j, j < z → ∃ r v, r < 9 ∧ w.testBit r = true ∧ V r v ∧ ρ 60 j = nI r ∧ ρ 61 j = nI v) → (∀ j, j < k → j < z → ∀ r, r < 9 → ρ 60 j = nI r → ∀ b, aj σ r b → w.testBit b = true) → Q none ρ := by
      intro k z w ρ o4 hk z9 fr w9 hw z1 wm ord pr
      have cl : ∀ i j, i < 9 → m.testBit i = true → w.testBit i = true → aj σ i j → w.testBit j = true := fun i j hi mi wi hij => by
        obtain ⟨_, jj, h1, h2⟩ := wm i hi wi
        exact pr jj (by omega) h1 i hi h2 j hij
      obtain ⟨r0, v0, h1, h2, _⟩ := ord 0 (by omega)
      have all := Z (fun x => w.testBit x = true) ⟨r0, h1, (wm r0 h1 h2).1, h2⟩ cl
      have ew : w = m := tb_ext (k := 9) (by omega) C.dm.1 (fun j hj => ⟨fun y => (wm j hj y).1, fun y => all j hj y⟩)
      refine q ρ fr (fun j hj => ?_)
      obtain ⟨r, v, a1, _, a3, a4, a5⟩ := ord j (by rw [← hw, ew]; exact hj)
      exact ⟨r, v, a1, a3, a4, a5⟩
    have lp := lp_dn (P := fun k => ∀ (z w : Nat) (ρ : mm_S), z ≤ 9 → (∀ c, c ≠ 60 → c ≠ 61 → ρ c = τ c) → w < 512 → bc w 9 = z → 1 ≤ z → (∀ i, i < 9 → w.testBit i = true → m.testBit i = true ∧ ∃ j, j < z ∧ ρ 60 j = nI i) → (∀ j, j < z → ∃ r v, r < 9 ∧ w.testBit r = true ∧ V r v ∧ ρ 60 j = nI r ∧ ρ 61 j = nI v) → (∀ j, j < k → j < z → ∀ r, r < 9 → ρ 60 j = nI r → ∀ b, aj σ r b → w.testBit b = true) → ∀ o4, mw (d + 3) mt_63 Q 79 [some (.ref 7), some (.int (nI w)), some (.int (nI z)), some (.int (nI k)), o4] [] ρ) 9 ?_ ?_ 0 (by omega) L w ρ l9 fr w9 hw l1 (fun i hi hb => ?_) (fun j hj => ?_) (fun j hj => absurd hj (Nat.not_lt_zero j)) o4
    · exact lp
    · intro z w ρ z9 fr w9 hw z1 wm ord pr o4
      have e := fin 9 z w ρ o4 (Or.inr (Nat.le_refl 9)) z9 fr w9 hw z1 wm ord pr
      exact kb_63_79 (fun _ => kb_63_169 e) (fun _ => kb_63_84 (fun _ => kb_63_169 e) (fun g => absurd (by decide) g))
    · intro k hk ih z w ρ z9 fr w9 hw z1 wm ord pr o4
      refine kb_63_79 (fun g => kb_63_169 (fin k z w ρ o4 (Or.inl ((nI_leI (by omega) (by omega)).mp g)) z9 fr w9 hw z1 wm ord pr)) (fun g => kb_63_84 (fun g => absurd g (hI_nle (a := 9) (by omega) hk)) (fun _ => kb_63_90 ?_))
      have kz : k < z := by
        rcases Nat.lt_or_ge k z with y | y
        · exact y
        · exact absurd (hI_le (by omega) y) g
      obtain ⟨r, v, r9, wr, vr, er, ev⟩ := ord k kz
      have mr := (wm r r9 wr).1
      refine lp_dn (P := fun x => ∀ (z w : Nat) (ρ : mm_S), k < z → z ≤ 9 → (∀ c, c ≠ 60 → c ≠ 61 → ρ c = τ c) → w < 512 → bc w 9 = z → (∀ i, i < 9 → w.testBit i = true → m.testBit i = true ∧ ∃ j, j < z ∧ ρ 60 j = nI i) → (∀ j, j < z → ∃ r v, r < 9 ∧ w.testBit r = true ∧ V r v ∧ ρ 60 j = nI r ∧ ρ 61 j = nI v) → (∀ j, j < k → j < z → ∀ r, r < 9 → ρ 60 j = nI r → ∀ b, aj σ r b → w.testBit b = true) → ρ 60 k = nI r → (∀ b, b < x → aj σ r b → w.testBit b = true) → mw (d + 3) mt_63 Q 93 [some (.ref 7), some (.int (nI w)), some (.int (nI z)), some (.int (nI k)), some (.int (nI x))] [] ρ) 9 ?_ ?_ 0 (by omega) z w ρ kz z9 fr w9 hw wm ord pr er (fun b hb => absurd hb (Nat.not_lt_zero b))
      · intro z w ρ kz z9 fr w9 hw wm ord pr er nb
        refine kb_63_93 (fun _ => kb_63_163 ?_) (fun g => absurd (by decide) g)
        rw [nI_1]
        refine ih z w ρ z9 fr w9 hw (by omega) wm ord (fun j hj hjz r' hr' e' b hb => ?_) _
        by_cases ej : j = k
        · subst ej
          have := nI9 hr' r9 (e'.symm.trans er)
          subst this
          exact nb b hb.1 hb
        · exact pr j (by omega) hjz r' hr' e' b hb
      · intro x hx ihx z w ρ kz z9 fr w9 hw wm ord pr er nb
        have ck : (nI k).toNatClampNeg = k := nI_clamp (by omega)
        have cr : (nI r).toNatClampNeg = r := nI_clamp (by omega)
        have skip : (aj σ r x → w.testBit x = true) → mw (d + 3) mt_63 Q 157 [some (.ref 7), some (.int (nI w)), some (.int (nI z)), some (.int (nI k)), some (.int (nI x))] [] ρ := fun h => by
          refine kb_63_157 ?_
          rw [nI_1]
          refine ihx z w ρ kz z9 fr w9 hw wm ord pr er (fun b hb hab => ?_)
          by_cases e : b = x
          · subst e; exact h hab
          · exact nb b (by omega) hab
        have e15 : ρ 15 = σ 15 := by rw [fr 15 (by decide) (by decide)]; exact t15
        refine kb_63_93 (fun g => absurd g (hI_nle (a := 9) (by omega) hx)) (fun _ => kb_63_100 (pk_in k 9 (by omega)) ?_)
        rw [ck, er]
        refine c_10 (pk_in r 9 r9) ?_
        rw [cr, e15]
        refine kb_63_115 (fun y => skip (fun h => ?_)) (fun y => kb_63_118 (c_4 (kb_63_124 (fun u => ?_) (fun u => skip (fun _ => (hs_b1 (by omega) (by omega)).mp ((hs_01 _ _).resolve_left u))))))
        · rw [h.2] at y; exact absurd y (by decide)
        · have hax : aj σ r x := ⟨hx, (hs_01 _ _).resolve_left y⟩
          have wx : ¬ w.testBit x = true := by rw [(hs_b0 (by omega) (by omega)).mp u]; decide
          have z8 : z < 9 := by rw [← hw]; exact bc_not hx wx
          obtain ⟨_, mx, _⟩ := C.aj_dr r9 mr hax
          refine kb_63_127 (pk_in z 9 z8) (pk_in k 9 (by omega)) (pk_in z 9 z8) ?_
          have rd : (mm_up ρ 60 (nI z).toNatClampNeg (nI x)) 60 (nI k).toNatClampNeg = nI r := by
            rw [ck, nI_clamp (show z < 2 ^ 31 by omega), mm_up_o (by omega)]; exact er
          rw [rd, nI_1, nI_1, nI_clamp (show z < 2 ^ 31 by omega), one_sh (by omega), or_bit]
          have tb : ∀ i, (w ||| 2 ^ x).testBit i = true ↔ w.testBit i = true ∨ x = i := fun i => by
            rw [Nat.testBit_or, Nat.testBit_two_pow, Bool.or_eq_true]; simp
          have r60 : ∀ j, j ≠ z → (mm_up (mm_up ρ 60 z (nI x)) 61 z (nI r)) 60 j = ρ 60 j := fun j hj => by rw [mm_up_n (by decide), mm_up_o hj]
          have r60z : (mm_up (mm_up ρ 60 z (nI x)) 61 z (nI r)) 60 z = nI x := by rw [mm_up_n (by decide)]; exact mm_up_s
          have r61 : ∀ j, j ≠ z → (mm_up (mm_up ρ 60 z (nI x)) 61 z (nI r)) 61 j = ρ 61 j := fun j hj => by rw [mm_up_o hj, mm_up_n (by decide)]
          refine ihx (z + 1) (w ||| 2 ^ x) _ (by omega) (by omega) (fun c h1 h2 => by rw [mm_up_n h2, mm_up_n h1]; exact fr c h1 h2) (Nat.or_lt_two_pow (n := 9) w9 (Nat.pow_lt_pow_right (by decide) hx)) (by rw [bc_add wx, if_pos hx, hw]) (fun i hi hb => ?_) (fun j hj => ?_) (fun j hj hjz r' hr' e' b hb => ?_) (by rw [r60 k (by omega)]; exact er) (fun b hb hab => ?_)
          · rcases (tb i).mp hb with hb | hb
            · obtain ⟨a1, jj, a2, a3⟩ := wm i hi hb
              exact ⟨a1, jj, by omega, by rw [r60 jj (by omega)]; exact a3⟩
            · subst hb
              exact ⟨mx, z, by omega, r60z⟩
          · by_cases ej : j = z
            · subst ej
              exact ⟨x, r, hx, (tb x).mpr (Or.inr rfl), v2 x r hx mx (C.aj_sym r9 mr hax), r60z, mm_up_s⟩
            · obtain ⟨r', v', a1, a2, a3, a4, a5⟩ := ord j (by omega)
              exact ⟨r', v', a1, (tb r').mpr (Or.inl a2), a3, by rw [r60 j ej]; exact a4, by rw [r61 j ej]; exact a5⟩
          · rw [r60 j (by omega)] at e'
            exact (tb b).mpr (Or.inl (pr j hj (by omega) r' hr' e' b hb))
          · by_cases e : b = x
            · exact (tb b).mpr (Or.inr e.symm)
            · exact (tb b).mpr (Or.inl (nb b (by omega) hab))
    · obtain ⟨j, hj, e⟩ := (wb i hi).mp hb
      refine ⟨by rw [← e]; exact om j hj, j, hj, ?_⟩
      rw [← e]; exact (ord j hj).1
    · obtain ⟨a1, v, a2, a3⟩ := ord j hj
      exact ⟨o j, v, (arr j hj).1, (wb _ (arr j hj).1).mpr ⟨j, hj, rfl⟩, a2, a1, a3⟩
  · intro k hk ih ρ w fr w9 hw wb ord o3 o4
    have ck : (nI k).toNatClampNeg = k := nI_clamp (by omega)
    obtain ⟨r9, r31, r32⟩ := arr k hk
    have e31 : ρ 31 (nI k).toNatClampNeg = nI (o k) := by rw [ck, fr 31 (by decide) (by decide)]; exact r31
    have e60 : (mm_up ρ 60 (nI k).toNatClampNeg (nI (o k))) 60 (nI k).toNatClampNeg = nI (o k) := mm_up_s
    refine kb_63_4 (fun g => absurd g (by rw [fr 5 (by decide) (by decide), e3]; exact hI_nle (by omega) hk)) (fun _ => kb_63_15 (pk_in k 9 (by omega)) (pk_in k 9 (by omega)) (pk_in k 9 (by omega)) ?_)
    rw [e31, e60]
    refine c_60 (K := K) (by omega) (by rw [mm_up_n (by decide), fr 44 (by decide) (by decide)]; exact hK _ (by omega)) (fun s F => kb_63_50 (pk_in k 9 (by omega)) (pk_in k 9 (by omega)) ?_)
    have e60' : (mm_up (mm_up ρ 60 (nI k).toNatClampNeg (nI (o k))) 61 (nI k).toNatClampNeg ((9 : Int32) + nI s)) 60 (nI k).toNatClampNeg = nI (o k) := by rw [mm_up_n (by decide)]; exact mm_up_s
    rw [e60', nI_1, ck, nI_9, one_sh (by omega), or_bit]
    have wx : ¬ w.testBit (o k) = true := fun y => by
      obtain ⟨j, hj, e⟩ := (wb _ r9).mp y
      exact dis j k hj hk e
    refine ih _ (w ||| 2 ^ o k) (fun c h1 h2 => by rw [mm_up_n h2, mm_up_n h1]; exact fr c h1 h2) (Nat.or_lt_two_pow (n := 9) w9 (Nat.pow_lt_pow_right (by decide) r9)) (by rw [bc_add wx, if_pos r9, hw]) (fun i hi => ?_) (fun j hj => ?_) _ _
    · rw [Nat.testBit_or, Nat.testBit_two_pow, Bool.or_eq_true, wb i hi]
      constructor
      · rintro (⟨j, hj, e⟩ | e)
        · exact ⟨j, by omega, e⟩
        · exact ⟨k, by omega, by simpa using e⟩
      · rintro ⟨j, hj, e⟩
        by_cases ek : j = k
        · subst ek; exact Or.inr (by simpa using e)
        · exact Or.inl ⟨j, by omega, e⟩
    · by_cases ej : j = k
      · subst ej
        exact ⟨by rw [mm_up_n (by decide)]; exact mm_up_s, 9 + s, v1 j s hk F, mm_up_s⟩
      · obtain ⟨a1, v, a2, a3⟩ := ord j (by omega)
        exact ⟨by rw [mm_up_n (by decide), mm_up_o ej]; exact a1, v, a2, by rw [mm_up_o ej, mm_up_n (by decide)]; exact a3⟩
end
section
/-! class: findFirst -/
/-- what findFirst may change -/
def ffr (τ τ' : mm_S) : Prop := ∀ c, c ≠ 7 → (c < 45 ∨ c = 50 ∨ 61 < c) → τ' c = τ c
theorem c_61 {d n m f L : Nat} {Q : mm_Q} {σ τ : mm_S} {o K : Nat → Nat} {V : Nat → Nat → Prop} (C : CK σ n m) (Z : Cn σ m) (t1 : τ 1 = σ 1) (t15 : τ 15 = σ 15) (t16 : τ 16 = σ 16) (t17 : τ 17 = σ 17) (f42 : f ≤ 42) (e56 : τ 5 6 = nI f) (hM : ∀ g, g < f → ∃ M, M < 512 ∧ τ 43 g = nI M ∧ bc M 9 = 3)
    (O : OA τ L o) (dis : ∀ i j, i < j → j < L → o i ≠ o j) (om : ∀ k, k < L → m.testBit (o k) = true) (hK : ∀ v, v < 13 → τ 44 v = nI (K v) ∧ K v < 8192)
    (v1 : ∀ k s, k < L → FSd K (o k) s → V (o k) (9 + s)) (v2 : ∀ r v, r < 9 → m.testBit r = true → aj σ r v → V r v)
    (vg : ∀ r v, r < 9 → V r v → v < 13 ∧ ∃ g, τ (21 + 1 + r) v = nI g ∧ V r g ∧ (v < 9 → g < 9 → ∃ h, h < f ∧ τ (33 + 1 + v) r = nI h)) (hBG : BG τ) (hDG : DG τ)
    (q : ∀ τ', ffr τ τ' → BG τ' → DG τ' → Q none τ') : mD (d + 60) 61 [.ref 7] τ Q := by
  refine ke_61 (kb_61_0 ?_)
  have fr0 : ∀ (ρ : mm_S), (∀ c, c ≠ 7 → c ≠ 46 → c ≠ 48 → c ≠ 49 → ρ c = τ c) → ffr τ ρ := fun ρ h c h1 h2 => h c h1 (by omega) (by omega) (by omega)
  refine lp_dn (P := fun i => ∀ ρ : mm_S, (∀ c, c ≠ 7 → c ≠ 46 → c ≠ 48 → c ≠ 49 → ρ c = τ c) → ρ 7 8 = 0 → mw (d + 59) mt_61 Q 7 [some (.ref 7), some (.int (nI i))] [] ρ) 9 ?_ ?_ 0 (by omega) _ (fun c h _ _ _ => mm_up_n h) mm_up_s
  · intro ρ fr e78
    refine kb_61_7 (fun _ => kb_61_46 ?_) (fun g => absurd (by decide) g)
    refine lp_dn (P := fun g => ∀ ρ : mm_S, (∀ c, c ≠ 7 → c ≠ 46 → c ≠ 48 → c ≠ 49 → ρ c = τ c) → ρ 7 8 = 0 → (∀ h i, h < g → i < 3 → ∃ b, b < 9 ∧ ρ 46 (3 * h + i) = nI b) → mw (d + 59) mt_61 Q 48 [some (.ref 7), some (.int (nI g))] [] ρ) f ?_ ?_ 0 (Nat.zero_le f) ρ fr e78 (fun h i hh => absurd hh (Nat.not_lt_zero h))
    · intro ρ fr e78 hb
      have r5 : ρ 5 6 = nI f := by rw [fr 5 (by decide) (by decide) (by decide) (by decide)]; exact e56
      refine kb_61_48 (fun _ => kb_61_76 ?_) (fun g => absurd (by rw [r5]; exact hI_le (by omega) (Nat.le_refl f)) g)
      have O' : OA ρ L o := OA_cg (by rw [fr 5 (by decide) (by decide) (by decide) (by decide)]) (fr 31 (by decide) (by decide) (by decide) (by decide)) (fr 32 (by decide) (by decide) (by decide) (by decide)) O
      refine c_63 C Z (by rw [fr 15 (by decide) (by decide) (by decide) (by decide)]; exact t15) O' dis om (fun v hv => by rw [fr 44 (by decide) (by decide) (by decide) (by decide)]; exact hK v hv) v1 v2 (fun ρ2 fr2 ord => kb_61_80 ?_)
      have k2 : ∀ c, c ≠ 7 → c ≠ 46 → c ≠ 48 → c ≠ 49 → c ≠ 60 → c ≠ 61 → ρ2 c = τ c := fun c h1 h2 h3 h4 h5 h6 => by rw [fr2 c h5 h6]; exact fr c h1 h2 h3 h4
      have G : LG ρ2 V n f (bc m 9) := by
        refine ⟨fun r v hr hv => ?_, ⟨f42, by rw [k2 5 (by decide) (by decide) (by decide) (by decide) (by decide) (by decide)]; exact e56⟩, fun v hv => ⟨K v, (hK v hv).2, by rw [k2 44 (by decide) (by decide) (by decide) (by decide) (by decide) (by decide)]; exact (hK v hv).1⟩, ⟨C.jn.1, by rw [k2 1 (by decide) (by decide) (by decide) (by decide) (by decide) (by decide), t1]; exact C.jn.2⟩, fun k hk => ?_, ⟨bc_n m 9, by rw [k2 1 (by decide) (by decide) (by decide) (by decide) (by decide) (by decide), t1]; exact C.cr⟩, fun g i hg hi => ?_, ord⟩
        · obtain ⟨a1, g, a2, a3, a4⟩ := vg r v hr hv
          refine ⟨a1, g, by rw [k2 _ (by omega) (by omega) (by omega) (by omega) (by omega) (by omega)]; exact a2, a3, fun h1 h2 => ?_⟩
          obtain ⟨h, b1, b2⟩ := a4 h1 h2
          exact ⟨h, b1, by rw [k2 _ (by omega) (by omega) (by omega) (by omega) (by omega) (by omega)]; exact b2⟩
        · obtain ⟨a, b, ha, hb, _, _, _, e1, e2⟩ := C.je k hk
          exact ⟨a, b, ha, hb, by rw [k2 16 (by decide) (by decide) (by decide) (by decide) (by decide) (by decide), t16]; exact e1, by rw [k2 17 (by decide) (by decide) (by decide) (by decide) (by decide) (by decide), t17]; exact e2⟩
        · rw [fr2 46 (by decide) (by decide)]; exact hb g i hg hi
      have I : LI ρ2 ρ2 := by
        refine ⟨fun _ _ _ _ _ _ _ => rfl, Or.inl (by rw [fr2 7 (by decide) (by decide)]; exact e78), fun r v hr hv => ?_, fun e he => ?_⟩
        · rw [k2 _ (by omega) (by omega) (by omega) (by omega) (by omega) (by omega)]; exact hBG r v hr hv
        · rw [k2 _ (by omega) (by omega) (by omega) (by omega) (by omega) (by omega)]; exact hDG e he
      have := c_64 G f (d + 54 - f) 0 (fun v τ => mw (d + 59) mt_61 Q 85 [some (.ref 7), some (.int (nI f))] (v.toList ++ []) τ) ρ2 (by omega) I (fun τ' I' => kb_61_85 (q τ' (fun c h1 h2 => ?_) I'.2.2.1 I'.2.2.2))
      · rw [show d + 54 - f + f + 5 = d + 59 by omega] at this
        exact this
      · rw [I'.1 c h1 (by omega) (by omega) (by omega) (by omega) (by omega)]
        exact k2 c h1 (by omega) (by omega) (by omega) (by omega) (by omega)
    · intro g hg ih ρ fr e78 hb
      have r5 : ρ 5 6 = nI f := by rw [fr 5 (by decide) (by decide) (by decide) (by decide)]; exact e56
      obtain ⟨M, m1, m2, m3⟩ := hM g hg
      refine kb_61_48 (fun z => absurd z (by rw [r5]; exact hI_nle (by omega) hg)) (fun _ => kb_61_59 (c_62 (by omega) (by rw [fr 43 (by decide) (by decide) (by decide) (by decide)]; exact m2) m1 m3 (fun ρ1 f1 b1 b2 => kb_61_64 (c_65e (by omega) b1 (fun ρ2 f2 => kb_61_70 ?_)))))
      rw [nI_1]
      refine ih ρ2 (fun c h1 h2 h3 h4 => by rw [f2 c h4, f1 c h2]; exact fr c h1 h2 h3 h4) (by rw [f2 7 (by decide), f1 7 (by decide)]; exact e78) (fun h i hh hi => ?_)
      rw [f2 46 (by decide)]
      by_cases e : h = g
      · subst e; exact b1 i hi
      · rw [b2 _ (by omega)]; exact hb h i (by omega) hi
  · intro i hi ih ρ fr e78
    refine kb_61_7 (fun g => absurd g (hI_nle (a := 9) (by omega) hi)) (fun _ => kb_61_13 (pk_in i 13 (by omega)) (c_153 (kb_61_30 (pk_in i 9 hi) (pk_in i 9 hi) ?_)))
    rw [nI_1]
    exact ih _ (fun c h1 h2 h3 h4 => by rw [mm_up_n h4, mm_up_n h3]; exact fr c h1 h2 h3 h4) (by rw [mm_up_n (by decide), mm_up_n (by decide)]; exact e78)
end
section
/-! class: the places end -/
/-- HouseDesk$Places.raise -/
theorem c_73 {d : Nat} {Q : mm_Q} {x1 x2 x3 : Int32} {σ : mm_S} (H1 : vp_in x1 9) (H2 : vp_in x2 4) (q0 : x3 ≤ (σ (62 + 1 + x1.toNatClampNeg) x2.toNatClampNeg) → Q (none) σ) (q1 : ¬ (x3 ≤ (σ (62 + 1 + x1.toNatClampNeg) x2.toNatClampNeg)) → Q (none) (mm_up (mm_up σ (62 + 1 + x1.toNatClampNeg) x2.toNatClampNeg x3) 8 2 (1 : Int32))) : mD (d + 1) 73 [.ref 8, .int x1, .int x2, .int x3] σ Q := ke_73 (kb_73_0 H1 H2 (fun g0 => (kb_73_26 (q0 g0))) (fun g0 => (kb_73_12 H1 H2 (q1 g0))))
/-- what settle may change -/
def PI (τ0 τ : mm_S) : Prop := ∀ c, c ≠ 8 → (c < 63 ∨ 72 < c) → τ c = τ0 c
/-- what the places stand on -/
def PG (τ : mm_S) (n : Nat) : Prop := (n ≤ 21 ∧ τ 1 12 = nI n) ∧ (∀ k, k < n → ∃ a b, a < 9 ∧ b < 9 ∧ τ 16 k = nI a ∧ τ 17 k = nI b) ∧ DG τ
theorem PI_up {τ0 τ : mm_S} {c j : Nat} {x : Int32} (I : PI τ0 τ) (h : c = 8 ∨ (62 < c ∧ c < 73)) : PI τ0 (mm_up τ c j x) := fun c' h1 h2 => by rw [mm_up_n (by omega)]; exact I c' h1 h2
theorem c_73s {d i p : Nat} {Q : mm_Q} {τ0 τ : mm_S} {x : Int32} (I : PI τ0 τ) (hi : i < 9) (hp : p < 4) (q : ∀ τ', PI τ0 τ' → Q none τ') : mD (d + 1) 73 [.ref 8, .int (nI i), .int (nI p), .int x] τ Q := by
  refine c_73 (pk_in i 9 hi) (pk_in p 4 hp) (fun _ => q τ I) (fun _ => q _ ?_)
  rw [nI_clamp (show i < 2 ^ 31 by omega)]
  exact PI_up (PI_up I (by omega)) (by omega)
theorem ax_n : ∀ w, w < 4 → nI w >>> ((1 : Int32) &&& 31) = nI (w / 2) ∧ w / 2 < 2 ∧ (1 : Int32) - nI (w / 2) = nI (1 - w / 2) := by decide
theorem PG_e {τ0 τ : mm_S} {n e : Nat} (G : PG τ0 n) (I : PI τ0 τ) (he : e < n) : ∃ a b x, a < 9 ∧ b < 9 ∧ x < 2 ∧ τ 16 (nI e).toNatClampNeg = nI a ∧ τ 17 (nI e).toNatClampNeg = nI b ∧ f_74 τ (nI e) = nI x ∧ (1 : Int32) - nI x = nI (1 - x) ∧ vp_in (nI e) 21 := by
  obtain ⟨⟨n21, _⟩, je, dg⟩ := G
  obtain ⟨a, b, ha, hb, e1, e2⟩ := je e he
  obtain ⟨w, hw, ew⟩ := dg e (by omega)
  have ce : (nI e).toNatClampNeg = e := nI_clamp (by omega)
  obtain ⟨a1, a2, a3⟩ := ax_n w hw
  refine ⟨a, b, w / 2, ha, hb, a2, by rw [ce, I 16 (by omega) (by omega)]; exact e1, by rw [ce, I 17 (by omega) (by omega)]; exact e2, ?_, a3, pk_in e 21 (by omega)⟩
  unfold f_74
  rw [ce, I 45 (by omega) (by omega), ew]
  exact a1
theorem c_75s {d n e : Nat} {Q : mm_Q} {τ0 τ : mm_S} (G : PG τ0 n) (I : PI τ0 τ) (he : e < n) (q : ∀ τ', PI τ0 τ' → Q none τ') : mD (d + 2) 75 [.ref 8, .int (nI e)] τ Q := by
  obtain ⟨a, b, x, ha, hb, hx, e16, e17, e74, ex, iv⟩ := PG_e G I he
  have x2 : nI x + (2 : Int32) = nI (x + 2) := nI_add x 2
  have fin : ∀ (x3 : Int32) (y4 y5 : Nat) (τ : mm_S), y4 < 9 → y5 < 9 → PI τ0 τ → mw (d + 1) mt_75 Q 98 [some (.ref 8), some (.int (nI e)), some (.int (nI x)), some (.int x3), some (.int (nI y4)), some (.int (nI y5))] [] τ := fun x3 y4 y5 τ h4 h5 I => by
    refine kb_75_98 (pk_in y4 9 h4) (by rw [x2]; exact pk_in (x + 2) 4 (by omega)) ?_
    exact c_73s I h5 (by omega) (fun τ' I' => kb_75_116 (q τ' I'))
  have go : ∀ (x3 : Int32) (y4 : Nat), y4 < 9 → (mw (d + 1) mt_75 Q 57 [some (.ref 8), some (.int (nI e)), some (.int (nI x)), some (.int x3), some (.int (nI y4)), none] [] τ ∧ mw (d + 1) mt_75 Q 69 [some (.ref 8), some (.int (nI e)), some (.int (nI x)), some (.int x3), some (.int (nI y4)), none] [] τ) := fun x3 y4 h4 => by
    constructor
    · refine kb_75_57 iv (by rw [e17]; exact pk_in b 9 hb) (pk_in x 4 (by omega)) ?_
      rw [x2, e17]
      exact c_73s I h4 (by omega) (fun τ' I' => fin x3 y4 b τ' h4 hb I')
    · refine kb_75_69 iv (by rw [e16]; exact pk_in a 9 ha) (pk_in x 4 (by omega)) ?_
      rw [x2, e16]
      exact c_73s I h4 (by omega) (fun τ' I' => fin x3 y4 a τ' h4 ha I')
  refine ke_75 (kb_75_0 (c_74 iv ?_))
  rw [e74]
  refine kb_75_5 iv (fun _ => kb_75_20 (fun z => absurd z (by decide)) (fun _ => kb_75_30 iv ?_ ?_)) (fun _ => kb_75_24 (fun _ => kb_75_42 iv ?_ ?_) (fun z => absurd rfl z))
  · rw [e16]; exact fun _ => (go _ a ha).2
  · rw [e16]; exact fun _ => (go _ a ha).1
  · rw [e17]; exact fun _ => (go _ b hb).2
  · rw [e17]; exact fun _ => (go _ b hb).1
theorem c_76s {d n e : Nat} {Q : mm_Q} {τ0 τ : mm_S} (G : PG τ0 n) (I : PI τ0 τ) (he : e < n) (q : ∀ τ', PI τ0 τ' → Q none τ') : mD (d + 3) 76 [.ref 8, .int (nI e)] τ Q := by
  obtain ⟨a, b, x, ha, hb, hx, e16, e17, e74, ex, iv⟩ := PG_e G I he
  have x2 : nI (1 - x) + (2 : Int32) = nI (1 - x + 2) := nI_add _ 2
  refine ke_76 (kb_76_0 (c_74 iv ?_))
  rw [e74]
  refine kb_76_6 ?_
  rw [ex]
  refine c_78 ?_ ?_ ?_ ?_ ?_
  all_goals first
    | exact iv
    | (rw [e16]; exact pk_in a 9 ha)
    | (rw [e17]; exact pk_in b 9 hb)
    | (rw [e74, ex]; exact pk_in (1 - x) 4 (by omega))
    | skip
  refine kb_76_13 iv iv ?_
  rw [e16, x2]
  refine c_73s I ha (by omega) (fun τ' I' => kb_76_41 iv ?_)
  obtain ⟨a', b', x', ha', hb', hx', e16', e17', e74', ex', iv'⟩ := PG_e G I' he
  rw [e17', x2]
  exact c_73s I' hb' (by omega) (fun τ'' I'' => kb_76_58 (q τ'' I''))
theorem c_77s {d x : Nat} {Q : mm_Q} {τ0 τ : mm_S} {s : Int32} (I : PI τ0 τ) (hx : x < 2) (q : ∀ τ', PI τ0 τ' → Q none τ') : mD (d + 3) 77 [.ref 8, .int (nI x), .int s] τ Q := by
  have x2 : nI x + (2 : Int32) = nI (x + 2) := nI_add x 2
  refine ke_77 (kb_77_0 ?_)
  refine lp_dn (P := fun i => ∀ y, mw (d + 2) mt_77 Q 5 [some (.ref 8), some (.int (nI x)), some (.int s), some (.int y), some (.int (nI i))] [] τ) 9 ?_ ?_ 0 (by omega) 0
  · intro y
    refine kb_77_5 (fun _ => kb_77_47 ?_) (fun g => absurd (by decide) g)
    refine lp_dn (P := fun i => ∀ τ, PI τ0 τ → mw (d + 2) mt_77 Q 50 [some (.ref 8), some (.int (nI x)), some (.int s), some (.int y), some (.int (nI i))] [] τ) 9 ?_ ?_ 0 (by omega) τ I
    · intro τ I
      exact kb_77_50 (fun _ => kb_77_86 (pk_in x 2 hx) (q _ (PI_up I (by omega)))) (fun g => absurd (by decide) g)
    · intro i hi ih τ I
      refine kb_77_50 (fun g => absurd g (hI_nle (a := 9) (by omega) hi)) (fun _ => kb_77_57 (c_53 (pk_in i 13 (by omega)) (kb_77_67 (fun _ => kb_77_80 (by rw [nI_1]; exact ih τ I)) (fun _ => kb_77_70 ?_))))
      rw [x2]
      exact c_73s I hi (by omega) (fun τ' I' => kb_77_80 (by rw [nI_1]; exact ih τ' I'))
  · intro i hi ih y
    refine kb_77_5 (fun g => absurd g (hI_nle (a := 9) (by omega) hi)) (fun _ => kb_77_12 (c_53 (pk_in i 13 (by omega)) (kb_77_22 (fun _ => kb_77_41 (by rw [nI_1]; exact ih y)) (fun _ => kb_77_25 (pk_in i 9 hi) (by rw [x2]; exact pk_in (x + 2) 4 (by omega)) (c_151 (kb_77_40 (by rw [nI_1]; exact ih _)))))))
theorem c_72 {d n : Nat} {Q : mm_Q} {τ : mm_S} (G : PG τ n) (q : ∀ τ', PI τ τ' → Q none τ') : mD (d + 4) 72 [.ref 8] τ Q := by
  have n21 := G.1.1
  refine ke_72 (kb_72_0 ?_)
  refine lp_dn (P := fun i => ∀ ρ, PI τ ρ → ∀ o2, mw (d + 3) mt_72 Q 2 [some (.ref 8), some (.int (nI i)), o2] [] ρ) 9 ?_ ?_ 0 (by omega) τ (fun _ _ _ => rfl) none
  · intro ρ I o2
    refine kb_72_2 (fun _ => kb_72_36 ?_) (fun g => absurd (by decide) g)
    refine lp_dn (P := fun k => ∀ ρ, PI τ ρ → ∀ o2, mw (d + 3) mt_72 Q 43 [some (.ref 8), some (.int (nI k)), o2] [] ρ) 100 ?_ ?_ 0 (by omega) _ (PI_up I (by omega)) o2
    · intro ρ I o2
      exact kb_72_43 (fun _ => kb_72_181 (q ρ I)) (fun g => absurd (by decide) g)
    · intro k hk ih ρ I o2
      refine kb_72_43 (fun g => absurd g (hI_nle (a := 100) (by omega) hk)) (fun _ => kb_72_49 (fun _ => kb_72_181 (q ρ I)) (fun _ => kb_72_56 ?_))
      refine lp_dn (P := fun e => ∀ ρ, PI τ ρ → mw (d + 3) mt_72 Q 63 [some (.ref 8), some (.int (nI k)), some (.int (nI e))] [] ρ) n ?_ ?_ 0 (Nat.zero_le n) _ (PI_up I (by omega))
      · intro ρ I
        have e12 : ρ 1 12 = nI n := by rw [I 1 (by omega) (by omega)]; exact G.1.2
        refine kb_72_63 (fun _ => kb_72_90 ?_) (fun g => absurd (by rw [e12]; exact hI_le (by omega) (Nat.le_refl n)) g)
        refine lp_dn (P := fun i => ∀ ρ, PI τ ρ → mw (d + 3) mt_72 Q 92 [some (.ref 8), some (.int (nI k)), some (.int (nI i))] [] ρ) 9 ?_ ?_ 0 (by omega) ρ I
        · intro ρ I
          refine kb_72_92 (fun _ => kb_72_163 (c_77s (x := 0) I (by omega) (fun τ1 I1 => kb_72_169 (c_77s (x := 1) I1 (by omega) (fun τ2 I2 => kb_72_175 ?_))))) (fun g => absurd (by decide) g)
          rw [nI_1]
          exact ih τ2 I2 _
        · intro i hi ihi ρ I
          have i4 : ∀ p, p < 4 → vp_in (nI p) 4 := fun p hp => pk_in p 4 hp
          refine kb_72_92 (fun g => absurd g (hI_nle (a := 9) (by omega) hi)) (fun _ => kb_72_98 (c_7 (kb_72_106 (fun _ => kb_72_157 (by rw [nI_1]; exact ihi ρ I)) (fun _ => kb_72_109 (pk_in i 9 hi) (i4 0 (by omega)) (pk_in i 9 hi) (c_73s (p := 2) I hi (by omega) (fun τ1 I1 => kb_72_133 (pk_in i 9 hi) (i4 1 (by omega)) (pk_in i 9 hi) (c_73s (p := 3) I1 hi (by omega) (fun τ2 I2 => kb_72_157 (by rw [nI_1]; exact ihi τ2 I2)))))))))
      · intro e he ihe ρ I
        have e12 : ρ 1 12 = nI n := by rw [I 1 (by omega) (by omega)]; exact G.1.2
        refine kb_72_63 (fun g => absurd g (by rw [e12]; exact hI_nle (by omega) he)) (fun _ => kb_72_74 (c_75s G I he (fun τ1 I1 => kb_72_79 (c_76s G I1 he (fun τ2 I2 => kb_72_84 ?_)))))
        rw [nI_1]
        exact ihe τ2 I2
  · intro i hi ih ρ I o2
    refine kb_72_2 (fun g => absurd g (hI_nle (a := 9) (by omega) hi)) (fun _ => kb_72_8 ?_)
    refine lp_dn (P := fun p => ∀ ρ, PI τ ρ → mw (d + 3) mt_72 Q 10 [some (.ref 8), some (.int (nI i)), some (.int (nI p))] [] ρ) 4 ?_ ?_ 0 (by omega) ρ I
    · intro ρ I
      exact kb_72_10 (fun _ => kb_72_30 (by rw [nI_1]; exact ih ρ I _)) (fun g => absurd (by decide) g)
    · intro p hp ihp ρ I
      refine kb_72_10 (fun g => absurd g (hI_nle (a := 4) (by omega) hp)) (fun _ => kb_72_15 (pk_in i 9 hi) (pk_in p 4 hp) ?_)
      rw [nI_1, nI_clamp (show i < 2 ^ 31 by omega)]
      exact ihp _ (PI_up I (by omega))
end
section
/-! class: what plan needs to know between its steps -/
theorem bcz_0 : ∀ n, bc 0 n = 0
  | 0 => rfl
  | n + 1 => by unfold bc; rw [bcz_0 n]; simp
theorem bcz_1 {i n : Nat} (h : i < n) : bc (2 ^ i) n = 1 := by
  have := bc_add (m := 0) (i := i) (by simp) n
  rw [Nat.zero_or, bcz_0, if_pos h] at this
  exact this
theorem bcz_2 {a b n : Nat} (ha : a < n) (hb : b < n) (hab : a ≠ b) : bc (2 ^ a ||| 2 ^ b) n = 2 := by
  rw [bc_add (by rw [Nat.testBit_two_pow]; simpa using hab), bcz_1 ha, if_pos hb]
theorem bcz_3 {a b c n : Nat} (ha : a < n) (hb : b < n) (hc : c < n) (hab : a ≠ b) (hac : a ≠ c) (hbc : b ≠ c) : bc (2 ^ a ||| 2 ^ b ||| 2 ^ c) n = 3 := by
  rw [bc_add (by rw [Nat.testBit_or, Nat.testBit_two_pow, Nat.testBit_two_pow]; simp [hac, hbc]), bcz_2 ha hb hab, if_pos hc]
theorem bc_ge3 {M a b c n : Nat} (ha : a < n) (hb : b < n) (hc : c < n) (hab : a ≠ b) (hac : a ≠ c) (hbc : b ≠ c) (ma : M.testBit a = true) (mb : M.testBit b = true) (mc : M.testBit c = true) : 3 ≤ bc M n := by
  rw [← bcz_3 ha hb hc hab hac hbc]
  refine bc_le n (fun j _ h => ?_)
  rw [Nat.testBit_or, Nat.testBit_or, Nat.testBit_two_pow, Nat.testBit_two_pow, Nat.testBit_two_pow, Bool.or_eq_true, Bool.or_eq_true] at h
  rcases h with (h | h) | h
  · rw [← show a = j by simpa using h]; exact ma
  · rw [← show b = j by simpa using h]; exact mb
  · rw [← show c = j by simpa using h]; exact mc
theorem Cn_aj {σ : mm_S} {m i : Nat} (Z : Cn σ m) (h3 : 3 ≤ bc m 9) (hi : i < 9) (mi : m.testBit i = true) : ∃ j, aj σ i j := by
  refine Classical.byContradiction (fun hn => ?_)
  have all := Z (fun x => x = i) ⟨i, hi, mi, rfl⟩ (fun a b _ _ e hab => absurd ⟨b, by rw [← e]; exact hab⟩ hn)
  have : bc m 9 ≤ bc (2 ^ i) 9 := bc_le 9 (fun j hj h => by rw [all j hj h]; exact Nat.testBit_two_pow_self)
  rw [bcz_1 hi] at this
  omega
/-- each inner face has three rooms at least -/
theorem FS_3 {σ τ : mm_S} {n m f g M : Nat} (C : CK σ n m) (H : BH σ τ m) (S : FS σ τ m f) (Z : Cn σ m) (h3 : 3 ≤ bc m 9) (hg : g < f) (hM : M < 512) (e : τ 43 g = nI M) : 3 ≤ bc M 9 := by
  obtain ⟨M', m1, m2, m3, x, hx, hxg, -⟩ := S.fr g hg
  have eM : M' = M := (nI_eq (by omega) (by omega)).mp (m2.symm.trans e)
  subst eM
  have room : ∀ y, Dt σ m y → Fw τ y = nI g → M'.testBit y.1 = true := fun y hy hl => (m3 y.1 hy.1).mpr ⟨y.2, hy, hl⟩
  have D1 := ph_D C H x hx
  have D2 := ph_D C H _ D1
  have l1 : Fw τ (ph (Bf τ) x) = nI g := by rw [S.iv x hx]; exact hxg
  have l2 : Fw τ (ph (Bf τ) (ph (Bf τ) x)) = nI g := by rw [S.iv _ D1]; exact l1
  have r0 := room x hx hxg
  have r1 : M'.testBit x.2 = true := room _ D1 l1
  have r2 : M'.testBit (Bf τ x.2 x.1) = true := room _ D2 l2
  obtain ⟨b9, mb, ab⟩ := Dt_2 C hx
  have ne1 : x.2 ≠ x.1 := (C.aj_dr hx.1 hx.2.1 hx.2.2).2.2
  obtain ⟨c9, mc, ac⟩ := Dt_2 C D1
  have ne2 : Bf τ x.2 x.1 ≠ x.2 := (C.aj_dr b9 mb D1.2.2).2.2
  by_cases e1 : Bf τ x.2 x.1 = x.1
  · -- b has a alone
    have n1 := (BH_sp H b9 mb ab).2
    have only1 : ∀ j, aj σ x.2 j → j = x.1 := by
      rcases n1.2.2 with z | z
      · exact z.2
      · exact absurd e1 z.1
    have D3 := ph_D C H _ D2
    have l3 : Fw τ (ph (Bf τ) (ph (Bf τ) (ph (Bf τ) x))) = nI g := by rw [S.iv _ D2]; exact l2
    have r3 := room _ D3 l3
    have D2' : Dt σ m (x.1, Bf τ x.1 x.2) := by
      have h := D2
      unfold ph at h
      simp only [e1] at h
      exact h
    have eq3 : (ph (Bf τ) (ph (Bf τ) (ph (Bf τ) x))).1 = Bf τ x.1 x.2 := by
      show Bf τ (Bf τ x.2 x.1) x.2 = Bf τ x.1 x.2
      rw [e1]
    rw [eq3] at r3
    have ne3 : Bf τ x.1 x.2 ≠ x.1 := (C.aj_dr hx.1 hx.2.1 D2'.2.2).2.2
    have e9 : Bf τ x.1 x.2 < 9 := D2'.2.2.1
    by_cases e2 : Bf τ x.1 x.2 = x.2
    · exfalso
      have n2 := (BH_sp H hx.1 hx.2.1 hx.2.2).2
      have only2 : ∀ j, aj σ x.1 j → j = x.2 := by
        rcases n2.2.2 with z | z
        · exact z.2
        · exact absurd e2 z.1
      have all := Z (fun y => y = x.1 ∨ y = x.2) ⟨x.1, hx.1, hx.2.1, Or.inl rfl⟩ (fun i j _ _ hi hij => by
        rcases hi with hi | hi
        · rw [hi] at hij; exact Or.inr (only2 j hij)
        · rw [hi] at hij; exact Or.inl (only1 j hij))
      have : bc m 9 ≤ bc (2 ^ x.1 ||| 2 ^ x.2) 9 := bc_le 9 (fun j hj h => by
        rw [Nat.testBit_or, Nat.testBit_two_pow, Nat.testBit_two_pow, Bool.or_eq_true]
        rcases all j hj h with z | z
        · exact Or.inl (by simp [z])
        · exact Or.inr (by simp [z]))
      rw [bcz_2 hx.1 b9 (fun z => ne1 z.symm)] at this
      omega
    · exact bc_ge3 hx.1 b9 e9 (fun z => ne1 z.symm) (fun z => ne3 z.symm) (fun z => e2 z.symm) r0 r1 r3
  · exact bc_ge3 hx.1 b9 c9 (fun z => ne1 z.symm) (fun z => e1 z.symm) (fun z => ne2 z.symm) r0 r1 r2
theorem OL_OA {τ : mm_S} {s t L : Nat} (O : OL τ s t L) (h9 : ∀ k, wo (Bf τ) s t k < 9) : OA τ L (wo (Bf τ) s t) := by
  obtain ⟨l1, l9, e3, eL, eL1, dis, arr, non⟩ := O
  refine ⟨l1, l9, e3, fun k hk => ⟨h9 k, (arr k hk).1, (arr k hk).2⟩, fun i k hi hk h => ?_⟩
  refine Classical.byContradiction (fun hn => ?_)
  by_cases ex : ∃ j, j < L ∧ wo (Bf τ) s t j = i
  · obtain ⟨j, hj, e⟩ := ex
    have := (arr j hj).2
    rw [e, h] at this
    have := (nI_eq (by omega) (by omega)).mp this
    exact hn (by rw [this, e])
  · rw [non i hi (fun j hj e => ex ⟨j, hj, e⟩)] at h
    exact nI_m1 (by omega) h.symm
theorem FSd_uniq {K : Nat → Nat} {r s s' : Nat} (F : FSd K r s) (F' : FSd K r s') : s = s' := by
  obtain ⟨h4, F⟩ := F
  obtain ⟨h4', F'⟩ := F'
  rcases F with ⟨a1, a2, a3⟩ | ⟨a1, a2⟩ <;> rcases F' with ⟨b1, b2, b3⟩ | ⟨b1, b2⟩
  · rcases Nat.lt_trichotomy s s' with z | z | z
    · exact absurd ⟨a1, a2⟩ (b3 s z)
    · exact z
    · exact absurd ⟨b1, b2⟩ (a3 s' z)
  · have := b2 s h4 a1; rw [a2] at this; exact absurd this (by decide)
  · have := a2 s' h4' b1; rw [b2] at this; exact absurd this (by decide)
  · omega
theorem st_mod {L i : Nat} {p : Nat → Nat} (hp : p (nx4 i) < L) (hq : p i < L) : (p i + st L p i) % L = p (nx4 i) := by
  unfold st
  split
  · rw [show p i + (p (nx4 i) + L - p i) = p (nx4 i) + L by omega, Nat.add_mod_right, Nat.mod_eq_of_lt hp]
  · rw [show p i + (p (nx4 i) - p i) = p (nx4 i) by omega, Nat.mod_eq_of_lt hp]
/-- the sides go around the whole outline -/
theorem cover {L k : Nat} {o p : Nat → Nat} (hp : ∀ i, i < 4 → p i < L) (hs : st L p 0 + st L p 1 + st L p 2 + st L p 3 = L) (hk : k < L) : ∃ s, s < 4 ∧ onp o p L s (st L p s + 1) (o k) := by
  have m0 := st_mod (i := 0) (hp 1 (by decide)) (hp 0 (by decide))
  have m1 := st_mod (i := 1) (hp 2 (by decide)) (hp 1 (by decide))
  have m2 := st_mod (i := 2) (hp 3 (by decide)) (hp 2 (by decide))
  simp only [nx4] at m0 m1 m2
  have p0 := hp 0 (by decide)
  obtain ⟨x, x1, x2, x3⟩ : ∃ x, p 0 ≤ x ∧ x < p 0 + L ∧ x % L = k := by
    rcases Nat.lt_or_ge k (p 0) with z | z
    · exact ⟨k + L, by omega, by omega, by rw [Nat.add_mod_right, Nat.mod_eq_of_lt hk]⟩
    · exact ⟨k, z, by omega, Nat.mod_eq_of_lt hk⟩
  have q1 : (p 0 + st L p 0) % L = p 1 := m0
  have q2 : (p 0 + st L p 0 + st L p 1) % L = p 2 := by rw [← Nat.mod_add_mod, q1]; exact m1
  have q3 : (p 0 + st L p 0 + st L p 1 + st L p 2) % L = p 3 := by rw [← Nat.mod_add_mod, q2]; exact m2
  have fin : ∀ (s base : Nat), s < 4 → base % L = p s → base ≤ x → x ≤ base + st L p s → ∃ s, s < 4 ∧ onp o p L s (st L p s + 1) (o k) := fun s base h4 hb h1 h2 => by
    refine ⟨s, h4, x - base, by omega, ?_⟩
    rw [← hb, Nat.mod_add_mod, show base + (x - base) = x by omega, x3]
  rcases Nat.lt_or_ge (p 0 + st L p 0) x with z0 | z0
  · rcases Nat.lt_or_ge (p 0 + st L p 0 + st L p 1) x with z1 | z1
    · rcases Nat.lt_or_ge (p 0 + st L p 0 + st L p 1 + st L p 2) x with z2 | z2
      · exact fin 3 _ (by decide) q3 (by omega) (by omega)
      · exact fin 2 _ (by decide) q2 (by omega) (by omega)
    · exact fin 1 _ (by decide) q1 (by omega) (by omega)
  · exact fin 0 (p 0) (by decide) (Nat.mod_eq_of_lt p0) (by omega) (by omega)
end
section
/-! class: around each room the nodes follow one another -/
def VV (σ : mm_S) (m L : Nat) (o K : Nat → Nat) (r v : Nat) : Prop := m.testBit r = true ∧ ((v < 9 ∧ aj σ r v) ∨ ∃ k s0 j, k < L ∧ o k = r ∧ FSd K r s0 ∧ j < 4 ∧ v = 9 + (s0 + j) % 4 ∧ ∀ i, i ≤ j → (K r).testBit (9 + (s0 + i) % 4) = true)
theorem vg_ok {σ τ τ1 τ3 τ4 : mm_S} {n m s t L f : Nat} {K : Nat → Nat} (C : CK σ n m) (H : BH σ τ m) (O : OL τ s t L) (AJ : ∀ k, wo (Bf τ) s t k < 9 ∧ m.testBit (wo (Bf τ) s t k) = true ∧ aj σ (wo (Bf τ) s t k) (wo (Bf τ) s t (k + 1)))
    (r3 : ∀ a, a < 9 → τ3 (21 + 1 + a) = τ (21 + 1 + a)) (lab : ∀ x, Dt σ m x → ¬ Fw τ1 x = -2 ∧ (Fw τ1 x = -1 ↔ ∃ k, k < L ∧ x = od τ s t k)) (rg : ∀ x, Dt σ m x → Fw τ1 x = -2 ∨ Fw τ1 x = -1 ∨ ∃ g, g < f ∧ Fw τ1 x = nI g)
    (f34 : ∀ c, 34 ≤ c → c ≤ 42 → τ4 c = τ1 c) (row : ∀ r, r < 9 → (∀ k, k < L → wo (Bf τ) s t k ≠ r) → τ4 (21 + 1 + r) = τ3 (21 + 1 + r))
    (rws : ∀ k, k < L → ∃ s0, FSd K (wo (Bf τ) s t k) s0 ∧ RW τ3 τ4 K (wo (Bf τ) s t k) (wo (Bf τ) s t ((k + L - 1) % L)) (wo (Bf τ) s t ((k + 1) % L)) s0)
    (oin : ∀ k, k < L → ∃ s', s' < 4 ∧ (K (wo (Bf τ) s t k)).testBit (9 + s') = true) :
    ∀ r v, r < 9 → VV σ m L (wo (Bf τ) s t) K r v → v < 13 ∧ ∃ g, τ4 (21 + 1 + r) v = nI g ∧ VV σ m L (wo (Bf τ) s t) K r g ∧ (v < 9 → g < 9 → ∃ h, h < f ∧ τ4 (33 + 1 + v) r = nI h) := by
  obtain ⟨l1, l9, e3, eL, eL1, dis, arr, non⟩ := O
  -- a dart that isn't on the outline has a face
  have face : ∀ r v, r < 9 → m.testBit r = true → aj σ r v → (∀ k, k < L → (v, r) ≠ od τ s t k) → ∃ h, h < f ∧ τ4 (33 + 1 + v) r = nI h := fun r v hr mr hrv hn => by
    obtain ⟨v9, mv, _⟩ := C.aj_dr hr mr hrv
    have D : Dt σ m (v, r) := ⟨v9, mv, C.aj_sym hr mr hrv⟩
    obtain ⟨a1, a2⟩ := lab _ D
    rw [f34 _ (by omega) (by omega)]
    rcases rg _ D with z | z | z
    · exact absurd z a1
    · obtain ⟨k, hk, e⟩ := a2.mp z
      exact absurd e (hn k hk)
    · exact z
  intro r v hr ⟨mr, hv⟩
  by_cases on : ∃ k, k < L ∧ wo (Bf τ) s t k = r
  · obtain ⟨k, hk, ek⟩ := on
    obtain ⟨s0, F, c, c4, on1, on2, w1, w2, w3⟩ := rws k hk
    have hon := FSd_on F (oin k hk)
    rw [ek] at F on1 on2 w1 w2 w3 hon
    have s04 := F.1
    have c1 : 1 ≤ c := by
      rcases Nat.eq_zero_or_pos c with z | z
      · subst z
        rcases on2 with y | y
        · omega
        · rw [Nat.add_zero, Nat.mod_eq_of_lt s04, hon] at y; exact absurd y (by decide)
      · exact z
    have pl : (k + L - 1) % L < L := Nat.mod_lt _ (by omega)
    have p9 := (AJ ((k + L - 1) % L)).1
    have nl : (k + 1) % L < L := Nat.mod_lt _ (by omega)
    -- the next room
    have enx : wo (Bf τ) s t ((k + 1) % L) = wo (Bf τ) s t (k + 1) := by
      by_cases z : k + 1 = L
      · rw [z, Nat.mod_self, eL]; rfl
      · rw [Nat.mod_eq_of_lt (by omega)]
    have ajn : aj σ r (wo (Bf τ) s t ((k + 1) % L)) := by rw [enx, ← ek]; exact (AJ k).2.2
    have vnx : VV σ m L (wo (Bf τ) s t) K r (wo (Bf τ) s t ((k + 1) % L)) := ⟨mr, Or.inl ⟨ajn.1, ajn⟩⟩
    have v13 : v < 13 := by
      rcases hv with z | ⟨_, s1, j, _, _, _, _, e, _⟩
      · omega
      · rw [e]; omega
    refine ⟨v13, ?_⟩
    by_cases bf : ∃ j, j ≤ c ∧ v = bef (wo (Bf τ) s t ((k + L - 1) % L)) s0 j
    · obtain ⟨j, hj, ev⟩ := bf
      by_cases jc : j = c
      · subst jc
        refine ⟨_, by rw [ev]; exact w2, vnx, fun v9 => ?_⟩
        exfalso
        obtain ⟨j', rfl⟩ : ∃ j', j = j' + 1 := ⟨j - 1, by omega⟩
        rw [ev] at v9
        simp only [bef] at v9
        omega
      · refine ⟨_, by rw [ev]; exact w1 j (by omega), ⟨mr, Or.inr ⟨k, s0, j, hk, ek, F, by omega, rfl, fun i hi => on1 i (by omega)⟩⟩, fun _ g9 => ?_⟩
        omega
    · have v9 : v < 9 ∧ aj σ r v := by
        rcases hv with z | ⟨k', s1, j, hk', ek', F1, j4, e, all⟩
        · exact z
        · exfalso
          have := FSd_uniq F1 F
          subst this
          have jc : j < c := by
            rcases Nat.lt_or_ge j c with y | y
            · exact y
            · rcases on2 with z | z
              · omega
              · rw [all c y] at z; exact absurd z (by decide)
          exact bf ⟨j + 1, by omega, e⟩
      refine ⟨Bf τ r v, ?_, ⟨mr, Or.inl ?_⟩, fun _ _ => face r v hr mr v9.2 (fun j hj e => ?_)⟩
      · rw [w3 v (fun j hj e => bf ⟨j, hj, e⟩), r3 r hr]
        exact (BH_sp H hr mr v9.2).1
      · have := (BH_sp H hr mr v9.2).2.2.1
        exact ⟨this.1, this⟩
      · -- the dart before r on the outline
        apply bf
        refine ⟨0, by omega, ?_⟩
        show v = wo (Bf τ) s t ((k + L - 1) % L)
        have ev : v = wo (Bf τ) s t j := congrArg Prod.fst e
        have er : r = wo (Bf τ) s t (j + 1) := congrArg Prod.snd e
        rw [ev]
        by_cases z : j + 1 = L
        · rw [z, eL] at er
          have k0 : k = 0 := by
            rcases Nat.eq_zero_or_pos k with y | y
            · exact y
            · exact absurd (ek.trans er).symm (dis 0 k y hk)
          subst k0
          rw [Nat.zero_add, Nat.mod_eq_of_lt (by omega), show L - 1 = j by omega]
        · have kj : k = j + 1 := by
            rcases Nat.lt_trichotomy k (j + 1) with y | y | y
            · exact absurd (ek.trans er) (dis k (j + 1) y (by omega))
            · exact y
            · exact absurd (ek.trans er).symm (dis (j + 1) k y hk)
          rw [kj, show j + 1 + L - 1 = j + L by omega, Nat.add_mod_right, Nat.mod_eq_of_lt hj]
  · have off : ∀ k, k < L → wo (Bf τ) s t k ≠ r := fun k hk e => on ⟨k, hk, e⟩
    have v9 : v < 9 ∧ aj σ r v := by
      rcases hv with z | ⟨k', s1, j, hk', ek', _⟩
      · exact z
      · exact absurd ek' (off k' hk')
    refine ⟨by omega, Bf τ r v, ?_, ⟨mr, Or.inl ?_⟩, fun _ _ => face r v hr mr v9.2 (fun j hj e => ?_)⟩
    · rw [row r hr off, r3 r hr]
      exact (BH_sp H hr mr v9.2).1
    · have := (BH_sp H hr mr v9.2).2.2.1
      exact ⟨this.1, this⟩
    · have er : r = wo (Bf τ) s t (j + 1) := congrArg Prod.snd e
      by_cases z : j + 1 = L
      · rw [z, eL] at er
        exact off 0 (by omega) er.symm
      · exact off (j + 1) (by omega) er.symm
end
section
/-! class: judge and plan end, and leave the sketch alone -/
def jfr (σ τ : mm_S) : Prop := ∀ c, (c = 0 ∨ c = 1 ∨ c = 9 ∨ c = 10 ∨ (11 ≤ c ∧ c ≤ 19) ∨ 73 ≤ c) → τ c = σ c
def COk (σ : mm_S) : Prop := (σ 1 9 = 0 ∨ σ 1 9 = 1) ∧ (σ 1 9 = 1 → ∀ i, i < 4 → ∃ a, a < 9 ∧ σ 19 i = nI a)
theorem BG_cg {σ τ : mm_S} (h : ∀ c, 51 ≤ c → c ≤ 59 → τ c = σ c) (B : BG σ) : BG τ := fun r v hr hv => by rw [h _ (by omega) (by omega)]; exact B r v hr hv
theorem DG_cg {σ τ : mm_S} (h : τ 45 = σ 45) (B : DG σ) : DG τ := fun e he => by rw [h]; exact B e he
def WN (τ : mm_S) : Prop := τ 3 1 = 0 ∨ τ 3 1 = 2 ∨ τ 3 1 = 3
theorem c_18 {d n m : Nat} {Q : mm_Q} {σ : mm_S} (C : CK σ n m) (K0 : COk σ) (hB : BG σ) (hD : DG σ) (q : ∀ τ a, jfr σ τ → BG τ → DG τ → WN τ → Q (some (.int a)) τ) : mD (d + 62) 18 [.ref 2] σ Q := by
  refine ke_18 (kb_18_0 (c_19 (kb_18_7 ?_)))
  have F2 : ∀ c, c ≠ 2 → c ≠ 3 → (mm_up (mm_up (mm_up σ 3 1 (0 : Int32)) 2 4 (0 : Int32)) 2 5 (0 : Int32)) c = σ c := fun c h2 h3 => by rw [mm_up_n h2, mm_up_n h2, mm_up_n h3]
  have W0 : (mm_up (mm_up (mm_up σ 3 1 (0 : Int32)) 2 4 (0 : Int32)) 2 5 (0 : Int32)) 3 1 = 0 := by rw [mm_up_n (by decide), mm_up_n (by decide)]; exact mm_up_s
  generalize mm_up (mm_up (mm_up σ 3 1 (0 : Int32)) 2 4 (0 : Int32)) 2 5 (0 : Int32) = σ2 at F2 W0
  have C2 : CK σ2 n m := CK_cg (F2 1 (by decide) (by decide)) (F2 11 (by decide) (by decide)) (F2 12 (by decide) (by decide)) (F2 15 (by decide) (by decide)) (F2 16 (by decide) (by decide)) (F2 17 (by decide) (by decide)) C
  have J2 : ∀ τ, (∀ c, c ≠ 2 → c ≠ 3 → c ≠ 20 → (c < 5 ∨ c = 9 ∨ c = 10 ∨ (11 ≤ c ∧ c ≤ 19) ∨ 73 ≤ c) → τ c = σ2 c) → jfr σ τ := fun τ h c hc => by rw [h c (by omega) (by omega) (by omega) (by omega)]; exact F2 c (by omega) (by omega)
  have e11 : σ2 1 11 = nI (bc m 9) := C2.cr
  have b9 := bc_n m 9
  have B2 : BG σ2 := BG_cg (fun c h1 h2 => F2 c (by omega) (by omega)) hB
  have D2 : DG σ2 := DG_cg (F2 45 (by decide) (by decide)) hD
  refine c_23 C2.Jr (fun a b _ => ?_) (fun N _ => ?_)
  · refine kb_18_28 (fun z => absurd z (by decide)) (fun _ => kb_18_31 (q _ _ (J2 _ (fun c h2 h3 h20 _ => ?_)) (BG_cg (fun c h1 h2 => ?_) B2) (DG_cg ?_ D2) (Or.inr (Or.inl mm_up_s))))
    · unfold tw2; rw [mm_up_n h3, mm_up_n h20, mm_up_n h20]
    · unfold tw2; rw [mm_up_n (by omega), mm_up_n (by omega), mm_up_n (by omega)]
    · unfold tw2; rw [mm_up_n (by omega), mm_up_n (by omega), mm_up_n (by omega)]
  · refine kb_18_28 (fun _ => kb_18_33 (fun _ => kb_18_64 (q _ _ (J2 _ (fun _ _ _ _ _ => rfl)) B2 D2 (Or.inl W0))) (fun hr => kb_18_44 ?_)) (fun z => absurd rfl z)
    have h3 : 3 ≤ bc m 9 := by
      rcases Nat.lt_or_ge (bc m 9) 3 with y | y
      · exact absurd (by rw [e11]; exact (nI_ltI (b := 3) (by omega) (by omega)).mpr y) hr
      · exact y
    refine c_31 C2 (by omega) (fun Z => kb_18_51 (fun z => absurd z (by decide)) (fun _ => kb_18_54 ?_)) (fun _ => kb_18_51 (fun _ => kb_18_64 (q _ _ (J2 _ (fun _ _ _ _ _ => rfl)) B2 D2 (Or.inl W0))) (fun z => absurd rfl z))
    refine c_32 C2 N (by omega) (fun i hi mi => Cn_aj Z h3 hi mi) (fun τ s t L fr H W T O => kb_18_61 (fun z => absurd z (by decide)) (fun _ => kb_18_66 ?_)) (fun τ s t fr H W T _ => kb_18_61 (fun _ => kb_18_64 (q _ _ (J2 _ (fun c _ _ _ h => fr.1 c (by omega) (by omega))) (BG_cg (fun c h1 h2 => fr.1 c (by omega) (by omega)) B2) (DG_cg (fr.1 45 (by omega) (by omega)) D2) (Or.inl (by rw [fr.1 3 (by omega) (by omega)]; exact W0)))) (fun z => absurd rfl z))
    have AJ := wo_aj C2 H W.1 W.2.2.1 T.1
    refine c_39 C2 N (fun c h1 h2 => fr.1 c h1 h2) H W.1 W.2.2.1 T.1 O (fun τ1 f I => kb_18_73 ?_)
    obtain ⟨i1, i2, S, i4⟩ := I
    have k1 : ∀ c, c ≠ 5 → (c < 22 ∨ 43 < c) → τ1 c = σ2 c := fun c h1 h2 => by rw [i1 c h1 (by omega)]; exact fr.1 c h1 (by omega)
    -- the state behind the counts
    have F3 : ∀ c, c ≠ 2 → (mm_up (mm_up τ1 2 4 (τ1 5 3)) 2 5 ((mm_up τ1 2 4 (τ1 5 3)) 5 6)) c = τ1 c := fun c h => by rw [mm_up_n h, mm_up_n h]
    generalize mm_up (mm_up τ1 2 4 (τ1 5 3)) 2 5 ((mm_up τ1 2 4 (τ1 5 3)) 5 6) = τ2 at F3
    have k2 : ∀ c, c ≠ 2 → c ≠ 5 → (c < 22 ∨ 43 < c) → τ2 c = σ2 c := fun c h0 h1 h2 => by rw [F3 c h0]; exact k1 c h1 h2
    have H1 : BH σ2 τ1 m := BH_cg (fun k h1 h2 => i1 k (by omega) (by omega)) H
    have f42 : f ≤ 42 := by
      obtain ⟨v, hv, _⟩ := S.ct
      have := bc_n v 42
      omega
    have faces : ∀ g, g < f → ∃ M, M < 512 ∧ τ2 43 g = nI M := fun g hg => by
      obtain ⟨M, m1, m2, _⟩ := S.fr g hg
      exact ⟨M, m1, by rw [F3 43 (by decide)]; exact m2⟩
    refine c_43 (by rw [F3 5 (by decide)]; exact S.fc) f42 faces (fun _ => kb_18_106 (fun z => absurd z (by decide)) (fun _ => kb_18_109 (q _ _ (J2 _ (fun c h2 h3 h20 h => ?_)) (BG_cg (fun c h1 h2 => ?_) B2) (DG_cg ?_ D2) (Or.inr (Or.inr mm_up_s))))) (fun wz => kb_18_106 (fun _ => kb_18_111 ?_) (fun z => absurd rfl z))
    · unfold tw3; rw [mm_up_n h3, mm_up_n h20, mm_up_n h20, mm_up_n h20]; exact k2 c h2 (by omega) (by omega)
    · unfold tw3; rw [mm_up_n (by omega), mm_up_n (by omega), mm_up_n (by omega), mm_up_n (by omega)]; exact k2 c (by omega) (by omega) (by omega)
    · unfold tw3; rw [mm_up_n (by omega), mm_up_n (by omega), mm_up_n (by omega), mm_up_n (by omega)]; exact k2 45 (by omega) (by omega) (by omega)
    have three : ∀ g, g < f → ∃ M, M < 512 ∧ τ2 43 g = nI M ∧ bc M 9 = 3 := fun g hg => by
      obtain ⟨M, m1, m2⟩ := faces g hg
      refine ⟨M, m1, m2, ?_⟩
      have up := wfb_0 faces f (Nat.le_refl f) wz g M hg m1 m2
      have lo3 := FS_3 C2 H1 S Z h3 hg m1 (by rw [← F3 43 (by decide)]; exact m2)
      have e13 : bc M 9 ≤ bc M 13 := by
        show bc M 9 ≤ bc M 9 + _ + _ + _ + _
        omega
      omega
    have O1 : OA τ L (wo (Bf τ) s t) := OL_OA O (fun k => (AJ k).1)
    have O2 : OA τ2 L (wo (Bf τ) s t) := OA_cg (by rw [F3 5 (by decide), i2 3 (by decide)]) (by rw [F3 31 (by decide), i1 31 (by decide) (by omega)]) (by rw [F3 32 (by decide), i1 32 (by decide) (by omega)]) O1
    have l9 := O1.2.1
    have stop : ∀ (τ' : mm_S), (∀ c, c ≠ 44 → (c < 22 ∨ 30 < c) → c ≠ 3 → c ≠ 20 → τ' c = τ2 c) → jfr σ τ' ∧ BG τ' ∧ DG τ' := fun τ' h => ⟨J2 _ (fun c h2 h3 h20 hh => by rw [h c (by omega) (by omega) h3 h20]; exact k2 c h2 (by omega) (by omega)), BG_cg (fun c h1 h2 => by rw [h c (by omega) (by omega) (by omega) (by omega)]; exact k2 c (by omega) (by omega) (by omega)) B2, DG_cg (by rw [h 45 (by omega) (by omega) (by omega) (by omega)]; exact k2 45 (by omega) (by omega) (by omega)) D2⟩
    have s1 : τ2 1 = σ2 1 := k2 1 (by decide) (by decide) (by omega)
    have s19 : τ2 19 = σ2 19 := k2 19 (by decide) (by decide) (by omega)
    have pl : ∀ i, i < 9 → (∃ k, k < L ∧ τ2 32 i = nI k) ∨ τ2 32 i = -1 := fun i hi => by
      obtain ⟨_, _, _, _, _, _, arr, non⟩ := O
      have e32 : τ2 32 = τ 32 := by rw [F3 32 (by decide), i1 32 (by decide) (by omega)]
      rw [e32]
      by_cases ex : ∃ j, j < L ∧ wo (Bf τ) s t j = i
      · obtain ⟨j, hj, e⟩ := ex
        exact Or.inl ⟨j, hj, by rw [← e]; exact (arr j hj).2⟩
      · exact Or.inr (non i hi (fun j hj e => ex ⟨j, hj, e⟩))
    refine c_47 (by omega) O2.2.2.1 (by rw [s1, F2 1 (by decide) (by decide)]; exact K0.1) (fun h i hi => ?_) pl (fun p c hc hp hs => kb_18_118 (fun z => absurd z (by decide)) (fun _ => kb_18_123 ?_)) (fun _ => kb_18_118 (fun _ => kb_18_121 ?_) (fun z => absurd rfl z))
    · rw [s19, F2 19 (by decide) (by decide)]
      rw [s1, F2 1 (by decide) (by decide)] at h
      exact K0.2 h i hi
    · refine c_54 C2 s1 (k2 15 (by decide) (by decide) (by omega)) O2 hc hp (fun τ3 K f3 hK B => kb_18_130 ?_)
      have O3 : OA τ3 L (wo (Bf τ) s t) := OA_cg (by rw [f3 5 (by decide)]) (f3 31 (by decide)) (f3 32 (by decide)) O2
      have hK' : ∀ v, v < 13 → τ3 44 v = nI (K v) ∧ K v < 8192 := fun v hv => ⟨hK v hv, B.1 v hv⟩
      have TP3 : TP τ3 L := ⟨⟨f, f42, by rw [f3 5 (by decide), F3 5 (by decide)]; exact S.fc⟩, l9, O3.2.2.1, fun i hi => by rw [f3 32 (by decide)]; exact pl i hi⟩
      refine c_55 TP3 hK' (fun i j k _ _ => kb_18_141 (fun z => absurd z (by decide)) (fun _ => kb_18_144 ?_)) (fun _ => kb_18_141 (fun _ => kb_18_146 ?_) (fun z => absurd rfl z))
      · obtain ⟨x1, x2, x3⟩ := stop (tw3n τ3 i j k) (fun c h1 _ h3 h20 => by unfold tw3n; rw [mm_up_n h3, mm_up_n h20, mm_up_n h20, mm_up_n h20]; exact f3 c h1)
        exact q _ _ x1 x2 x3 (Or.inr (Or.inr mm_up_s))
      · obtain ⟨l1, _, _, eL, eL1, dis, _, _⟩ := id O
        refine c_59 O3 dis hK' (fun τ4 f4 row rws => kb_18_153 ?_)
        have k4 : ∀ c, (c < 22 ∨ 30 < c) → c ≠ 44 → τ4 c = τ2 c := fun c h1 h2 => by rw [f4 c h1]; exact f3 c h2
        have O4 : OA τ4 L (wo (Bf τ) s t) := OA_cg (by rw [f4 5 (by omega)]) (f4 31 (by omega)) (f4 32 (by omega)) O3
        have oin : ∀ k, k < L → ∃ s', s' < 4 ∧ (K (wo (Bf τ) s t k)).testBit (9 + s') = true := fun k hk => by
          obtain ⟨s', h4, ho⟩ := cover (o := wo (Bf τ) s t) (fun i hi => (hp i hi).1) hs hk
          exact ⟨s', h4, (B.2.2.1 _ s' (AJ k).1 h4).mpr ho⟩
        have vg := vg_ok C2 H O AJ (fun a ha => by rw [f3 _ (by omega), F3 _ (by omega), i1 _ (by omega) (by omega)]) i4 S.rg (fun c h1 h2 => by rw [f4 c (by omega), f3 c (by omega), F3 c (by omega)]) row rws oin
        have x4 := stop τ4 (fun c h1 h2 _ _ => k4 c h2 h1)
        refine c_61 (d := d + 1) C2 Z (by rw [k4 1 (by omega) (by omega)]; exact s1) (by rw [k4 15 (by omega) (by omega)]; exact k2 15 (by decide) (by decide) (by omega)) (by rw [k4 16 (by omega) (by omega)]; exact k2 16 (by decide) (by decide) (by omega)) (by rw [k4 17 (by omega) (by omega)]; exact k2 17 (by decide) (by decide) (by omega)) f42 (by rw [k4 5 (by omega) (by omega), F3 5 (by decide)]; exact S.fc) (fun g hg => ?_) O4 dis (fun k hk => (AJ k).2.1) (fun v hv => by rw [f4 44 (by omega)]; exact hK' v hv) (V := VV σ2 m L (wo (Bf τ) s t) K) (fun k s' hk F => ⟨(AJ k).2.1, Or.inr ⟨k, s', 0, hk, rfl, F, by decide, by rw [Nat.add_zero, Nat.mod_eq_of_lt F.1], fun i hi => ?_⟩⟩) (fun r v hr mr hrv => ⟨mr, Or.inl ⟨hrv.1, hrv⟩⟩) vg x4.2.1 x4.2.2 (fun τ5 f5 B5 D5 => kb_18_160 ?_)
        · obtain ⟨M, m1, m2, m3⟩ := three g hg
          exact ⟨M, m1, by rw [k4 43 (by omega) (by omega)]; exact m2, m3⟩
        · have i0 : i = 0 := by omega
          subst i0
          rw [Nat.add_zero, Nat.mod_eq_of_lt F.1]
          exact FSd_on F (oin k hk)
        · have g1 : τ5 1 = σ2 1 := by rw [f5 1 (by decide) (by omega), k4 1 (by omega) (by omega)]; exact s1
          have g16 : τ5 16 = σ2 16 := by rw [f5 16 (by decide) (by omega), k4 16 (by omega) (by omega)]; exact k2 16 (by decide) (by decide) (by omega)
          have g17 : τ5 17 = σ2 17 := by rw [f5 17 (by decide) (by omega), k4 17 (by omega) (by omega)]; exact k2 17 (by decide) (by decide) (by omega)
          refine c_72 (n := n) ⟨⟨C2.jn.1, by rw [g1]; exact C2.jn.2⟩, fun k hk => ?_, D5⟩ (fun τ6 f6 => kb_18_167 (q _ _ (fun c hc => ?_) (BG_cg (fun c h1 h2 => f6 c (by omega) (by omega)) B5) (DG_cg (f6 45 (by omega) (by omega)) D5) (Or.inl (by rw [f6 3 (by omega) (by omega), f5 3 (by omega) (by omega), k4 3 (by omega) (by omega), k2 3 (by omega) (by omega) (by omega)]; exact W0))))
          · obtain ⟨a, b, ha, hb, _, _, _, e1, e2⟩ := C2.je k hk
            exact ⟨a, b, ha, hb, by rw [g16]; exact e1, by rw [g17]; exact e2⟩
          · rw [f6 c (by omega) (by omega), f5 c (by omega) (by omega)]
            exact x4.1 c hc
    · obtain ⟨x1, x2, x3⟩ := stop τ2 (fun _ _ _ _ _ => rfl)
      exact q _ _ x1 x2 x3 (Or.inl (by rw [k2 3 (by omega) (by omega) (by omega)]; exact W0))
end
section
/-! the reference: sortAround, behind, wayFrom -/
/-- HouseDeskModel.part -/
def f_102 (x0 x1 : Int32) : Int32 := (if 0 ≤ x0 then (if 0 ≤ x0 then (if x0 < 0 then (if x0 ≤ 0 then (4 : Int32) else (if 0 < x1 then (4 : Int32) else (3 : Int32))) else (if x1 ≤ 0 then (if x0 ≤ 0 then (4 : Int32) else (if 0 < x1 then (4 : Int32) else (3 : Int32))) else (2 : Int32))) else (if x1 ≤ 0 then (if x0 < 0 then (if x0 ≤ 0 then (4 : Int32) else (if 0 < x1 then (4 : Int32) else (3 : Int32))) else (if x1 ≤ 0 then (if x0 ≤ 0 then (4 : Int32) else (if 0 < x1 then (4 : Int32) else (3 : Int32))) else (2 : Int32))) else (1 : Int32))) else (if x1 = 0 then (0 : Int32) else (if 0 ≤ x0 then (if x0 < 0 then (if x0 ≤ 0 then (4 : Int32) else (if 0 < x1 then (4 : Int32) else (3 : Int32))) else (if x1 ≤ 0 then (if x0 ≤ 0 then (4 : Int32) else (if 0 < x1 then (4 : Int32) else (3 : Int32))) else (2 : Int32))) else (if x1 ≤ 0 then (if x0 < 0 then (if x0 ≤ 0 then (4 : Int32) else (if 0 < x1 then (4 : Int32) else (3 : Int32))) else (if x1 ≤ 0 then (if x0 ≤ 0 then (4 : Int32) else (if 0 < x1 then (4 : Int32) else (3 : Int32))) else (2 : Int32))) else (1 : Int32)))))
theorem c_102 {d : Nat} {Q : mm_Q} {x0 x1 : Int32} {σ : mm_S} (q : Q (some (.int (f_102 x0 x1))) σ) : mD (d + 1) 102 [.int x0, .int x1] σ Q := ke_102 (kb_102_0 (fun g0 => (kb_102_10 (fun g1 => (kb_102_20 (fun g2 => (kb_102_30 (fun g3 => (kb_102_40 (q_pos g3 (q_pos g2 (q_pos g1 (q_pos g0 q)))))) (fun g3 => (kb_102_34 (fun g4 => (kb_102_40 (q_pos g4 (q_neg g3 (q_pos g2 (q_pos g1 (q_pos g0 q))))))) (fun g4 => (kb_102_38 (q_neg g4 (q_neg g3 (q_pos g2 (q_pos g1 (q_pos g0 q))))))))))) (fun g2 => (kb_102_24 (fun g3 => (kb_102_30 (fun g4 => (kb_102_40 (q_pos g4 (q_pos g3 (q_neg g2 (q_pos g1 (q_pos g0 q))))))) (fun g4 => (kb_102_34 (fun g5 => (kb_102_40 (q_pos g5 (q_neg g4 (q_pos g3 (q_neg g2 (q_pos g1 (q_pos g0 q)))))))) (fun g5 => (kb_102_38 (q_neg g5 (q_neg g4 (q_pos g3 (q_neg g2 (q_pos g1 (q_pos g0 q)))))))))))) (fun g3 => (kb_102_28 (q_neg g3 (q_neg g2 (q_pos g1 (q_pos g0 q)))))))))) (fun g1 => (kb_102_14 (fun g2 => (kb_102_20 (fun g3 => (kb_102_30 (fun g4 => (kb_102_40 (q_pos g4 (q_pos g3 (q_pos g2 (q_neg g1 (q_pos g0 q))))))) (fun g4 => (kb_102_34 (fun g5 => (kb_102_40 (q_pos g5 (q_neg g4 (q_pos g3 (q_pos g2 (q_neg g1 (q_pos g0 q)))))))) (fun g5 => (kb_102_38 (q_neg g5 (q_neg g4 (q_pos g3 (q_pos g2 (q_neg g1 (q_pos g0 q)))))))))))) (fun g3 => (kb_102_24 (fun g4 => (kb_102_30 (fun g5 => (kb_102_40 (q_pos g5 (q_pos g4 (q_neg g3 (q_pos g2 (q_neg g1 (q_pos g0 q)))))))) (fun g5 => (kb_102_34 (fun g6 => (kb_102_40 (q_pos g6 (q_neg g5 (q_pos g4 (q_neg g3 (q_pos g2 (q_neg g1 (q_pos g0 q))))))))) (fun g6 => (kb_102_38 (q_neg g6 (q_neg g5 (q_pos g4 (q_neg g3 (q_pos g2 (q_neg g1 (q_pos g0 q))))))))))))) (fun g4 => (kb_102_28 (q_neg g4 (q_neg g3 (q_pos g2 (q_neg g1 (q_pos g0 q))))))))))) (fun g2 => (kb_102_18 (q_neg g2 (q_neg g1 (q_pos g0 q))))))))) (fun g0 => (kb_102_4 (fun g1 => (kb_102_8 (q_pos g1 (q_neg g0 q)))) (fun g1 => (kb_102_10 (fun g2 => (kb_102_20 (fun g3 => (kb_102_30 (fun g4 => (kb_102_40 (q_pos g4 (q_pos g3 (q_pos g2 (q_neg g1 (q_neg g0 q))))))) (fun g4 => (kb_102_34 (fun g5 => (kb_102_40 (q_pos g5 (q_neg g4 (q_pos g3 (q_pos g2 (q_neg g1 (q_neg g0 q)))))))) (fun g5 => (kb_102_38 (q_neg g5 (q_neg g4 (q_pos g3 (q_pos g2 (q_neg g1 (q_neg g0 q)))))))))))) (fun g3 => (kb_102_24 (fun g4 => (kb_102_30 (fun g5 => (kb_102_40 (q_pos g5 (q_pos g4 (q_neg g3 (q_pos g2 (q_neg g1 (q_neg g0 q)))))))) (fun g5 => (kb_102_34 (fun g6 => (kb_102_40 (q_pos g6 (q_neg g5 (q_pos g4 (q_neg g3 (q_pos g2 (q_neg g1 (q_neg g0 q))))))))) (fun g6 => (kb_102_38 (q_neg g6 (q_neg g5 (q_pos g4 (q_neg g3 (q_pos g2 (q_neg g1 (q_neg g0 q))))))))))))) (fun g4 => (kb_102_28 (q_neg g4 (q_neg g3 (q_pos g2 (q_neg g1 (q_neg g0 q))))))))))) (fun g2 => (kb_102_14 (fun g3 => (kb_102_20 (fun g4 => (kb_102_30 (fun g5 => (kb_102_40 (q_pos g5 (q_pos g4 (q_pos g3 (q_neg g2 (q_neg g1 (q_neg g0 q)))))))) (fun g5 => (kb_102_34 (fun g6 => (kb_102_40 (q_pos g6 (q_neg g5 (q_pos g4 (q_pos g3 (q_neg g2 (q_neg g1 (q_neg g0 q))))))))) (fun g6 => (kb_102_38 (q_neg g6 (q_neg g5 (q_pos g4 (q_pos g3 (q_neg g2 (q_neg g1 (q_neg g0 q))))))))))))) (fun g4 => (kb_102_24 (fun g5 => (kb_102_30 (fun g6 => (kb_102_40 (q_pos g6 (q_pos g5 (q_neg g4 (q_pos g3 (q_neg g2 (q_neg g1 (q_neg g0 q))))))))) (fun g6 => (kb_102_34 (fun g7 => (kb_102_40 (q_pos g7 (q_neg g6 (q_pos g5 (q_neg g4 (q_pos g3 (q_neg g2 (q_neg g1 (q_neg g0 q)))))))))) (fun g7 => (kb_102_38 (q_neg g7 (q_neg g6 (q_pos g5 (q_neg g4 (q_pos g3 (q_neg g2 (q_neg g1 (q_neg g0 q)))))))))))))) (fun g5 => (kb_102_28 (q_neg g5 (q_neg g4 (q_pos g3 (q_neg g2 (q_neg g1 (q_neg g0 q)))))))))))) (fun g3 => (kb_102_18 (q_neg g3 (q_neg g2 (q_neg g1 (q_neg g0 q)))))))))))))
/-- HouseDeskModel.isAhead -/
def f_103 (σ : mm_S) (x1 x2 x3 : Int32) : Int32 := (if (f_102 ((σ 76 (f_101 σ x1 x3).toNatClampNeg) - (σ 76 x3.toNatClampNeg)) ((σ 77 (f_101 σ x1 x3).toNatClampNeg) - (σ 77 x3.toNatClampNeg))) = (f_102 ((σ 76 (f_101 σ x2 x3).toNatClampNeg) - (σ 76 x3.toNatClampNeg)) ((σ 77 (f_101 σ x2 x3).toNatClampNeg) - (σ 77 x3.toNatClampNeg))) then (if 0 ≤ ((((σ 76 (f_101 σ x1 x3).toNatClampNeg) - (σ 76 x3.toNatClampNeg)) * ((σ 77 (f_101 σ x2 x3).toNatClampNeg) - (σ 77 x3.toNatClampNeg))) - (((σ 77 (f_101 σ x1 x3).toNatClampNeg) - (σ 77 x3.toNatClampNeg)) * ((σ 76 (f_101 σ x2 x3).toNatClampNeg) - (σ 76 x3.toNatClampNeg)))) then (0 : Int32) else (1 : Int32)) else (if (f_102 ((σ 76 (f_101 σ x2 x3).toNatClampNeg) - (σ 76 x3.toNatClampNeg)) ((σ 77 (f_101 σ x2 x3).toNatClampNeg) - (σ 77 x3.toNatClampNeg))) ≤ (f_102 ((σ 76 (f_101 σ x1 x3).toNatClampNeg) - (σ 76 x3.toNatClampNeg)) ((σ 77 (f_101 σ x1 x3).toNatClampNeg) - (σ 77 x3.toNatClampNeg))) then (0 : Int32) else (1 : Int32)))
theorem f_103_01 (σ : mm_S) (x1 x2 x3 : Int32) : (f_103 σ x1 x2 x3) = 0 ∨ (f_103 σ x1 x2 x3) = 1 := by
  unfold f_103
  repeat' split
  all_goals first | exact Or.inl rfl | exact Or.inr rfl
theorem c_103 {d : Nat} {Q : mm_Q} {x1 x2 x3 : Int32} {σ : mm_S} (H1 : vp_in x1 21) (H2 : vp_in (f_101 σ x1 x3) 9) (H3 : vp_in x3 9) (H4 : vp_in x2 21) (H5 : vp_in (f_101 σ x2 x3) 9) (q : Q (some (.int (f_103 σ x1 x2 x3))) σ) : mD (d + 2) 103 [.ref 10, .int x1, .int x2, .int x3] σ Q := ke_103 (kb_103_0 (c_101 H1 (kb_103_10 H2 H3 (c_101 H1 (kb_103_30 H2 H3 (c_101 H4 (kb_103_50 H5 H3 (c_101 H4 (kb_103_70 H5 H3 (c_102 (kb_103_87 (c_102 (kb_103_96 (fun g0 => (kb_103_118 (fun g1 => (kb_103_136 (q_pos g1 (q_pos g0 q)))) (fun g1 => (kb_103_132 (q_neg g1 (q_pos g0 q)))))) (fun g0 => (kb_103_105 (fun g1 => (kb_103_116 (q_pos g1 (q_neg g0 q)))) (fun g1 => (kb_103_112 (q_neg g1 (q_neg g0 q)))))))))))))))))))
/-- HouseDeskModel.sortAround, from 64 -/
theorem ks_104_64 {d : Nat} {Q : mm_Q} {x1 x2 x3 : Int32} {σ : mm_S} (H1 : x3 ≤ 0 → vp_in (((16 : Int32) * x1) + x3) 144) (H2 : x3 ≤ 0 → vp_in x1 9) (H3 : ¬ (x3 ≤ 0) → vp_in ((((16 : Int32) * x1) + x3) - (1 : Int32)) 144) (H4 : ¬ (x3 ≤ 0) → vp_in x2 21) (H5 : ¬ (x3 ≤ 0) → vp_in (f_101 σ x2 x1) 9) (H6 : ¬ (x3 ≤ 0) → vp_in x1 9) (H7 : ¬ (x3 ≤ 0) → vp_in (σ 88 ((((16 : Int32) * x1) + x3) - (1 : Int32)).toNatClampNeg) 21) (H8 : ¬ (x3 ≤ 0) → vp_in (f_101 σ (σ 88 ((((16 : Int32) * x1) + x3) - (1 : Int32)).toNatClampNeg) x1) 9) (H9 : ¬ (x3 ≤ 0) → (f_103 σ x2 (σ 88 ((((16 : Int32) * x1) + x3) - (1 : Int32)).toNatClampNeg) x1) = 0 → vp_in (((16 : Int32) * x1) + x3) 144) (H10 : ¬ (x3 ≤ 0) → (f_103 σ x2 (σ 88 ((((16 : Int32) * x1) + x3) - (1 : Int32)).toNatClampNeg) x1) = 0 → vp_in x1 9) (H11 : ¬ (x3 ≤ 0) → ¬ ((f_103 σ x2 (σ 88 ((((16 : Int32) * x1) + x3) - (1 : Int32)).toNatClampNeg) x1) = 0) → vp_in ((((16 : Int32) * x1) + x3) - (1 : Int32)) 144) (H12 : ¬ (x3 ≤ 0) → ¬ ((f_103 σ x2 (σ 88 ((((16 : Int32) * x1) + x3) - (1 : Int32)).toNatClampNeg) x1) = 0) → vp_in (((16 : Int32) * x1) + x3) 144) (q0 : x3 ≤ 0 → mw (d + 2) mt_104 Q 17 [some (.ref 10), some (.int x1), some (.int (x2 + 1)), some (.int x3)] [] (mm_up (mm_up σ 88 (((16 : Int32) * x1) + x3).toNatClampNeg x2) 87 x1.toNatClampNeg ((σ 87 x1.toNatClampNeg) + (1 : Int32)))) (q1 : ¬ (x3 ≤ 0) → (f_103 σ x2 (σ 88 ((((16 : Int32) * x1) + x3) - (1 : Int32)).toNatClampNeg) x1) = 0 → mw (d + 2) mt_104 Q 17 [some (.ref 10), some (.int x1), some (.int (x2 + 1)), some (.int x3)] [] (mm_up (mm_up σ 88 (((16 : Int32) * x1) + x3).toNatClampNeg x2) 87 x1.toNatClampNeg ((σ 87 x1.toNatClampNeg) + (1 : Int32)))) (q2 : ¬ (x3 ≤ 0) → ¬ ((f_103 σ x2 (σ 88 ((((16 : Int32) * x1) + x3) - (1 : Int32)).toNatClampNeg) x1) = 0) → mw (d + 2) mt_104 Q 64 [some (.ref 10), some (.int x1), some (.int x2), some (.int (x3 + (-1)))] [] (mm_up σ 88 (((16 : Int32) * x1) + x3).toNatClampNeg (σ 88 ((((16 : Int32) * x1) + x3) - (1 : Int32)).toNatClampNeg))) : mw (d + 2) mt_104 Q 64 [some (.ref 10), some (.int x1), some (.int x2), some (.int x3)] [] σ := (kb_104_64 (fun g0 => (kb_104_120 (H1 g0) (H2 g0) (H2 g0) (q0 g0))) (fun g0 => (kb_104_68 (H3 g0) (c_103 (H4 g0) (H5 g0) (H6 g0) (H7 g0) (H8 g0) (kb_104_87 (fun g1 => (kb_104_120 (H9 g0 g1) (H10 g0 g1) (H10 g0 g1) (q1 g0 g1))) (fun g1 => (kb_104_90 (H11 g0 g1) (H12 g0 g1) (q2 g0 g1))))))))
def em (σ : mm_S) (r k : Nat) : Prop := σ 80 k = nI r ∨ σ 81 k = nI r
def MK (σ : mm_S) (n : Nat) : Prop := (n ≤ 21 ∧ σ 10 6 = nI n) ∧ (∀ k, k < n → ∃ a b, a < 9 ∧ b < 9 ∧ a ≠ b ∧ ¬ σ 75 a = 0 ∧ ¬ σ 75 b = 0 ∧ σ 80 k = nI a ∧ σ 81 k = nI b) ∧ (∀ k l, k < n → l < n → ∀ a b, σ 80 k = nI a → σ 81 k = nI b → ((σ 80 l = nI a ∧ σ 81 l = nI b) ∨ (σ 80 l = nI b ∧ σ 81 l = nI a)) → k = l) ∧ ((σ 10 10 = 0 ∨ σ 10 10 = 1) ∧ (σ 10 10 = 1 → ∀ i, i < 4 → ∃ a, a < 9 ∧ σ 83 i = nI a))
theorem MK.jn {σ : mm_S} {n : Nat} (h : MK σ n) : n ≤ 21 ∧ σ 10 6 = nI n := h.1
theorem MK.je {σ : mm_S} {n : Nat} (h : MK σ n) : ∀ k, k < n → ∃ a b, a < 9 ∧ b < 9 ∧ a ≠ b ∧ ¬ σ 75 a = 0 ∧ ¬ σ 75 b = 0 ∧ σ 80 k = nI a ∧ σ 81 k = nI b := h.2.1
theorem MK.jd {σ : mm_S} {n : Nat} (h : MK σ n) : ∀ k l, k < n → l < n → ∀ a b, σ 80 k = nI a → σ 81 k = nI b → ((σ 80 l = nI a ∧ σ 81 l = nI b) ∨ (σ 80 l = nI b ∧ σ 81 l = nI a)) → k = l := h.2.2.1
theorem MK.co {σ : mm_S} {n : Nat} (h : MK σ n) : (σ 10 10 = 0 ∨ σ 10 10 = 1) ∧ (σ 10 10 = 1 → ∀ i, i < 4 → ∃ a, a < 9 ∧ σ 83 i = nI a) := h.2.2.2
theorem MK_ot {σ : mm_S} {n k r : Nat} (M : MK σ n) (hk : k < n) (hr : r < 9) (h : em σ r k) : ∃ o, o < 9 ∧ o ≠ r ∧ f_101 σ (nI k) (nI r) = nI o ∧ em σ o k ∧ ¬ σ 75 o = 0 ∧ ¬ σ 75 r = 0 ∧ ((σ 80 k = nI r ∧ σ 81 k = nI o) ∨ (σ 80 k = nI o ∧ σ 81 k = nI r)) := by
  have n21 := M.jn.1
  obtain ⟨a, b, ha, hb, hne, da, db, e1, e2⟩ := M.je k hk
  unfold f_101
  rw [nI_clamp (show k < 2 ^ 31 by omega), e1, e2]
  unfold em at *
  rw [e1, e2] at h
  by_cases c : nI a = nI r
  · have := nI9 ha hr c
    subst this
    exact ⟨b, hb, fun z => hne z.symm, by rw [if_pos rfl], Or.inr e2, db, da, Or.inl ⟨rfl, rfl⟩⟩
  · rcases h with h | h
    · exact absurd h c
    · have := nI9 hb hr h
      subst this
      exact ⟨a, ha, hne, by rw [if_neg c], Or.inl e1, da, db, Or.inr ⟨rfl, rfl⟩⟩
/-- the joins of room r among the first k, as the row has them -/
def RR (σ τ : mm_S) (r k : Nat) : Prop := ∃ w, w < 512 ∧ ¬ w.testBit r = true ∧ τ 87 r = nI (bc w 9) ∧ (∀ i, i < bc w 9 → ∃ k', k' < k ∧ em σ r k' ∧ τ 88 (16 * r + i) = nI k') ∧ (∀ k', k' < k → em σ r k' → ∃ i, i < bc w 9 ∧ τ 88 (16 * r + i) = nI k') ∧ (∀ o, w.testBit o = true → o ≠ r ∧ ∃ k', k' < k ∧ em σ r k' ∧ em σ o k') ∧ (∀ i j, i < j → j < bc w 9 → τ 88 (16 * r + i) ≠ τ 88 (16 * r + j))
def AR (σ τ : mm_S) (n : Nat) : Prop := ∀ r, r < 9 → ∃ dg, dg ≤ 8 ∧ τ 87 r = nI dg ∧ (∀ i, i < dg → ∃ k, k < n ∧ em σ r k ∧ τ 88 (16 * r + i) = nI k) ∧ (∀ k, k < n → em σ r k → ∃ i, i < dg ∧ τ 88 (16 * r + i) = nI k) ∧ (∀ i j, i < j → j < dg → τ 88 (16 * r + i) ≠ τ 88 (16 * r + j))
theorem nI_16 {r i : Nat} : (16 : Int32) * nI r + nI i = nI (16 * r + i) := by
  rw [show (16 : Int32) * nI r = nI (16 * r) from nI_mul 16 r, nI_add]
theorem c_104 {d n : Nat} {Q : mm_Q} {σ : mm_S} (M : MK σ n) (q : ∀ τ : mm_S, (∀ c, c ≠ 87 → c ≠ 88 → τ c = σ c) → AR σ τ n → Q none τ) : mD (d + 3) 104 [.ref 10] σ Q := by
  have n21 := M.jn.1
  refine ke_104 (kb_104_0 ?_)
  refine lp_dn (P := fun r => ∀ τ : mm_S, (∀ c, c ≠ 87 → c ≠ 88 → τ c = σ c) → (∀ r', r' < r → RR σ τ r' n) → ∀ o2 o3, mw (d + 2) mt_104 Q 2 [some (.ref 10), some (.int (nI r)), o2, o3] [] τ) 9 ?_ ?_ 0 (by omega) σ (fun _ _ _ => rfl) (fun r' h => absurd h (Nat.not_lt_zero r')) none none
  · intro τ fr hR o2 o3
    refine kb_104_2 (fun _ => kb_104_154 (q τ fr (fun r hr => ?_))) (fun g => absurd (by decide) g)
    obtain ⟨w, w9, wr, e87, a1, a2, _, a4⟩ := hR r hr
    exact ⟨bc w 9, by have := bc_not hr wr; omega, e87, a1, a2, a4⟩
  · intro r hr ih τ fr hR o2 o3
    have cr : (nI r).toNatClampNeg = r := nI_clamp (by omega)
    refine kb_104_2 (fun g => absurd g (hI_nle (a := 9) (by omega) hr)) (fun _ => kb_104_8 (pk_in r 9 hr) ?_)
    rw [cr]
    -- over the joins
    refine lp_dn (P := fun k => ∀ τ : mm_S, (∀ c, c ≠ 87 → c ≠ 88 → τ c = σ c) → (∀ r', r' < r → RR σ τ r' n) → RR σ τ r k → ∀ o3, mw (d + 2) mt_104 Q 17 [some (.ref 10), some (.int (nI r)), some (.int (nI k)), o3] [] τ) n ?_ ?_ 0 (Nat.zero_le n) _ (fun c h1 h2 => by rw [mm_up_n h1]; exact fr c h1 h2) (fun r' hr' => ?_) ⟨0, by decide, by simp, mm_up_s, fun i hi => absurd hi (by rw [show bc 0 9 = 0 by decide]; omega), fun k' hk' => absurd hk' (Nat.not_lt_zero k'), fun o h => absurd h (by simp), fun i j _ h => absurd h (by rw [show bc 0 9 = 0 by decide]; omega)⟩ o3
    · intro τ fr hR R o3
      have e6 : τ 10 6 = nI n := by rw [fr 10 (by decide) (by decide)]; exact M.jn.2
      refine kb_104_17 (fun _ => kb_104_148 ?_) (fun g => absurd (by rw [e6]; exact hI_le (by omega) (Nat.le_refl n)) g)
      rw [nI_1]
      refine ih τ fr (fun r' hr' => ?_) _ _
      by_cases e : r' = r
      · subst e; exact R
      · exact hR r' (by omega)
    · intro k hk ihk τ fr hR R o3
      have e6 : τ 10 6 = nI n := by rw [fr 10 (by decide) (by decide)]; exact M.jn.2
      have ck : (nI k).toNatClampNeg = k := nI_clamp (by omega)
      have e80 : τ 80 = σ 80 := fr 80 (by decide) (by decide)
      have e81 : τ 81 = σ 81 := fr 81 (by decide) (by decide)
      have e75 : τ 75 = σ 75 := fr 75 (by decide) (by decide)
      -- room r isn't drawn: no join is at it
      have skipall : σ 75 r = 0 → ∀ k', k' < n → ¬ em σ r k' := fun z k' hk' h => by
        obtain ⟨o, _, _, _, _, _, dr, _⟩ := MK_ot M hk' hr h
        exact dr z
      have next : ¬ em σ r k → ∀ o3, mw (d + 2) mt_104 Q 17 [some (.ref 10), some (.int (nI r)), some (.int (nI k + 1)), o3] [] τ := fun hn o3 => by
        rw [nI_1]
        refine ihk τ fr hR ?_ o3
        obtain ⟨w, w9, wr, e87, a1, a2, a3, a4⟩ := R
        refine ⟨w, w9, wr, e87, fun i hi => ?_, fun k' hk' hem => ?_, fun o ho => ?_, a4⟩
        · obtain ⟨k', h1, h2, h3⟩ := a1 i hi; exact ⟨k', by omega, h2, h3⟩
        · by_cases e : k' = k
          · subst e; exact absurd hem hn
          · exact a2 k' (by omega) hem
        · obtain ⟨b1, k', b2, b3⟩ := a3 o ho; exact ⟨b1, k', by omega, b3⟩
      have take : em σ r k → ∀ o3, mw (d + 2) mt_104 Q 57 [some (.ref 10), some (.int (nI r)), some (.int (nI k)), o3] [] τ := fun hem o3 => by
        obtain ⟨w, w9, wr, e87, a1, a2, a3, a4⟩ := R
        have dl : bc w 9 ≤ 8 := by have := bc_not hr wr; omega
        obtain ⟨o, o9, onr, eo, emo, _, _, ends⟩ := MK_ot M hk hr hem
        have ow : ¬ w.testBit o = true := fun y => by
          obtain ⟨_, k', hk', h1, h2⟩ := a3 o y
          have hk'' : k' < n := by omega
          obtain ⟨o', o9', onr', eo', _, _, _, ends'⟩ := MK_ot M hk'' hr h1
          have oo : o' = o := by
            unfold em at h2
            rcases ends' with ⟨p, q⟩ | ⟨p, q⟩
            · rw [p, q] at h2
              rcases h2 with h2 | h2
              · exact absurd (nI9 hr o9 h2).symm onr
              · exact nI9 o9' o9 h2
            · rw [p, q] at h2
              rcases h2 with h2 | h2
              · exact nI9 o9' o9 h2
              · exact absurd (nI9 hr o9 h2).symm onr
          subst oo
          have : k = k' := by
            rcases ends with ⟨p, q⟩ | ⟨p, q⟩
            · exact M.jd k k' hk hk'' r o' p q ends'
            · exact M.jd k k' hk hk'' o' r p q ends'.symm
          omega
        have b8 : bc w 9 + 1 ≤ 9 := by omega
        have f101 : ∀ k' (ρ : mm_S), k' < n → em σ r k' → ρ 80 = σ 80 → ρ 81 = σ 81 → vp_in (f_101 ρ (nI k') (nI r)) 9 := fun k' ρ hk' h h80 h81 => by
          obtain ⟨o, o9, _, eo, _⟩ := MK_ot M hk' hr h
          have : f_101 ρ (nI k') (nI r) = f_101 σ (nI k') (nI r) := by unfold f_101; rw [h80, h81]
          rw [this, eo]; exact pk_in o 9 o9
        -- behind the place
        have put : ∀ (i : Nat) (ρ : mm_S) (o3 : Option Value), i ≤ bc w 9 → (∀ c, c ≠ 88 → ρ c = τ c) → (∀ x, (x < 16 * r ∨ 16 * r + bc w 9 < x) → ρ 88 x = τ 88 x) → (∀ j, j < i → ρ 88 (16 * r + j) = τ 88 (16 * r + j)) → (∀ j, i < j → j ≤ bc w 9 → ρ 88 (16 * r + j) = τ 88 (16 * r + (j - 1))) → mw (d + 2) mt_104 Q 17 [some (.ref 10), some (.int (nI r)), some (.int (nI k + 1)), o3] [] (mm_up (mm_up ρ 88 ((16 : Int32) * nI r + nI i).toNatClampNeg (nI k)) 87 (nI r).toNatClampNeg ((ρ 87 (nI r).toNatClampNeg) + 1)) := by
          intro i ρ o3 hi f1 out lo hi2
          rw [nI_1, nI_16, cr, nI_clamp (show 16 * r + i < 2 ^ 31 by omega), f1 87 (by decide), e87, nI_1]
          have wbc : bc (w ||| 2 ^ o) 9 = bc w 9 + 1 := by rw [bc_add ow, if_pos o9]
          have rd : ∀ x, (mm_up (mm_up ρ 88 (16 * r + i) (nI k)) 87 r (nI (bc w 9 + 1))) 88 x = if x = 16 * r + i then nI k else ρ 88 x := fun x => by
            rw [mm_up_n (by decide)]
            by_cases e : x = 16 * r + i
            · rw [if_pos e, e]; exact mm_up_s
            · rw [if_neg e]; exact mm_up_o e
          refine ihk _ (fun c h1 h2 => by rw [mm_up_n h1, mm_up_n h2, f1 c h2]; exact fr c h1 h2) (fun r' hr' => ?_) ?_ o3
          · obtain ⟨w', b1, b2, b3, b4, b5, b6, b7⟩ := hR r' hr'
            have b8' : bc w' 9 ≤ 8 := by have := bc_not (show r' < 9 by omega) b2; omega
            have same : ∀ i', i' < bc w' 9 → (mm_up (mm_up ρ 88 (16 * r + i) (nI k)) 87 r (nI (bc w 9 + 1))) 88 (16 * r' + i') = τ 88 (16 * r' + i') := fun i' hi' => by
              rw [rd, if_neg (by omega)]; exact out _ (by omega)
            refine ⟨w', b1, b2, by rw [mm_up_o (by omega), mm_up_n (by decide), f1 87 (by decide)]; exact b3, fun i' hi' => by rw [same i' hi']; exact b4 i' hi', fun k' hk' h => ?_, b6, fun i' j' h1 h2 => by rw [same i' (by omega), same j' h2]; exact b7 i' j' h1 h2⟩
            obtain ⟨i', c1, c2⟩ := b5 k' hk' h
            exact ⟨i', c1, by rw [same i' c1]; exact c2⟩
          · refine ⟨w ||| 2 ^ o, Nat.or_lt_two_pow (n := 9) w9 (Nat.pow_lt_pow_right (by decide) o9), ?_, by rw [wbc]; exact mm_up_s, fun j hj => ?_, fun k' hk' h => ?_, fun x hx => ?_, fun x y hxy hy => ?_⟩
            · rw [Nat.testBit_or, Nat.testBit_two_pow, Bool.or_eq_true]
              rintro (y | y)
              · exact wr y
              · exact onr (by simpa using y)
            · rw [wbc] at hj
              rw [rd]
              by_cases e : j = i
              · rw [if_pos (by omega)]; exact ⟨k, by omega, hem, rfl⟩
              · rw [if_neg (by omega)]
                by_cases l : j < i
                · obtain ⟨k', c1, c2, c3⟩ := a1 j (by omega)
                  exact ⟨k', by omega, c2, by rw [lo j l]; exact c3⟩
                · obtain ⟨k', c1, c2, c3⟩ := a1 (j - 1) (by omega)
                  exact ⟨k', by omega, c2, by rw [hi2 j (by omega) (by omega)]; exact c3⟩
            · rw [wbc]
              by_cases e : k' = k
              · subst e; exact ⟨i, by omega, by rw [rd, if_pos rfl]⟩
              · obtain ⟨j, c1, c2⟩ := a2 k' (by omega) h
                by_cases l : j < i
                · exact ⟨j, by omega, by rw [rd, if_neg (by omega), lo j l]; exact c2⟩
                · exact ⟨j + 1, by omega, by rw [rd, if_neg (by omega), hi2 (j + 1) (by omega) (by omega)]; exact c2⟩
            · rw [Nat.testBit_or, Nat.testBit_two_pow, Bool.or_eq_true] at hx
              rcases hx with hx | hx
              · obtain ⟨c1, k', c2, c3⟩ := a3 x hx; exact ⟨c1, k', by omega, c3⟩
              · have : o = x := by simpa using hx
                subst this
                exact ⟨onr, k, by omega, hem, emo⟩
            · rw [wbc] at hy
              rw [rd, rd]
              have old : ∀ z, z < bc w 9 + 1 → z ≠ i → ∃ z', z' < bc w 9 ∧ (z' = if z < i then z else z - 1) ∧ ρ 88 (16 * r + z) = τ 88 (16 * r + z') := fun z hz hzi => by
                by_cases l : z < i
                · exact ⟨z, by omega, by rw [if_pos l], lo z l⟩
                · exact ⟨z - 1, by omega, by rw [if_neg l], hi2 z (by omega) (by omega)⟩
              have nek : ∀ z', z' < bc w 9 → τ 88 (16 * r + z') ≠ nI k := fun z' hz' e => by
                obtain ⟨k', c1, _, c3⟩ := a1 z' hz'
                have := (nI_eq (by omega) (by omega)).mp (c3.symm.trans e)
                omega
              by_cases ex : x = i
              · rw [if_pos (by omega), if_neg (by omega)]
                obtain ⟨z', d1, _, d3⟩ := old y (by omega) (by omega)
                rw [d3]; exact fun e => nek z' d1 e.symm
              · rw [if_neg (by omega)]
                obtain ⟨x', d1, d2, d3⟩ := old x (by omega) ex
                by_cases ey : y = i
                · rw [if_pos (by omega), d3]; exact nek x' d1
                · rw [if_neg (by omega)]
                  obtain ⟨y', f1', f2', f3'⟩ := old y (by omega) ey
                  rw [d3, f3']
                  refine a4 x' y' ?_ f1'
                  rw [d2, f2']
                  split <;> split <;> omega
        refine kb_104_57 (pk_in r 9 hr) ?_
        rw [cr, e87]
        have shift : ∀ i, i ≤ bc w 9 → ∀ ρ : mm_S, (∀ c, c ≠ 88 → ρ c = τ c) → (∀ x, (x < 16 * r ∨ 16 * r + bc w 9 < x) → ρ 88 x = τ 88 x) → (∀ j, j < i → ρ 88 (16 * r + j) = τ 88 (16 * r + j)) → (∀ j, i < j → j ≤ bc w 9 → ρ 88 (16 * r + j) = τ 88 (16 * r + (j - 1))) → mw (d + 2) mt_104 Q 64 [some (.ref 10), some (.int (nI r)), some (.int (nI k)), some (.int (nI i))] [] ρ := by
          intro i
          induction i with
          | zero =>
            intro hi ρ f1 out lo hi2
            have z0 : nI 0 ≤ (0 : Int32) := by decide
            refine ks_104_64 (fun _ => by rw [nI_16]; exact pk_in (16 * r + 0) 144 (by omega)) (fun _ => pk_in r 9 hr) (fun g => absurd z0 g) (fun g => absurd z0 g) (fun g => absurd z0 g) (fun g => absurd z0 g) (fun g => absurd z0 g) (fun g => absurd z0 g) (fun g => absurd z0 g) (fun g => absurd z0 g) (fun g => absurd z0 g) (fun g => absurd z0 g) (fun _ => put 0 ρ _ hi f1 out lo hi2) (fun g => absurd z0 g) (fun g => absurd z0 g)
          | succ i ihi =>
            intro hi ρ f1 out lo hi2
            have zn : ¬ (nI (i + 1) ≤ 0) := nI_nle (by omega) (by omega)
            have ei : (16 : Int32) * nI r + nI (i + 1) - 1 = nI (16 * r + i) := by rw [nI_16]; exact nI_pred (16 * r + i)
            have ci : (nI (16 * r + i)).toNatClampNeg = 16 * r + i := nI_clamp (by omega)
            obtain ⟨kx, x1, x2, x3⟩ := a1 i (by omega)
            have e88 : ρ 88 ((16 : Int32) * nI r + nI (i + 1) - 1).toNatClampNeg = nI kx := by rw [ei, ci, lo i (by omega)]; exact x3
            have v1 : vp_in ((16 : Int32) * nI r + nI (i + 1) - 1) 144 := by rw [ei]; exact pk_in (16 * r + i) 144 (by omega)
            have v2 : vp_in ((16 : Int32) * nI r + nI (i + 1)) 144 := by rw [nI_16]; exact pk_in (16 * r + (i + 1)) 144 (by omega)
            have h80 : ρ 80 = σ 80 := by rw [f1 80 (by decide)]; exact e80
            have h81 : ρ 81 = σ 81 := by rw [f1 81 (by decide)]; exact e81
            refine ks_104_64 (fun g => absurd g zn) (fun g => absurd g zn) (fun _ => v1) (fun _ => pk_in k 21 (by omega)) (fun _ => f101 k ρ hk hem h80 h81) (fun _ => pk_in r 9 hr) (fun _ => by rw [e88]; exact pk_in kx 21 (by omega)) (fun _ => by rw [e88]; exact f101 kx ρ (by omega) x2 h80 h81) (fun _ _ => v2) (fun _ _ => pk_in r 9 hr) (fun _ _ => v1) (fun _ _ => v2) (fun g => absurd g zn) (fun _ _ => put (i + 1) ρ _ hi f1 out lo hi2) (fun _ _ => ?_)
            rw [e88, nI_pm, nI_16, nI_clamp (show 16 * r + (i + 1) < 2 ^ 31 by omega)]
            refine ihi (by omega) _ (fun c hc => by rw [mm_up_n hc]; exact f1 c hc) (fun x hx => by rw [mm_up_o (by omega)]; exact out x hx) (fun j hj => by rw [mm_up_o (by omega)]; exact lo j (by omega)) (fun j h1 h2 => ?_)
            by_cases e : j = i + 1
            · subst e
              rw [mm_up_s, show i + 1 - 1 = i by omega]; exact x3.symm
            · rw [mm_up_o (by omega)]; exact hi2 j (by omega) h2
        exact shift (bc w 9) (Nat.le_refl _) τ (fun _ _ => rfl) (fun _ _ => rfl) (fun _ _ => rfl) (fun j h1 h2 => by omega)
      refine kb_104_17 (fun g => absurd g (by rw [e6]; exact hI_nle (by omega) hk)) (fun _ => kb_104_25 (pk_in r 9 hr) (fun z => kb_104_148 ?_) (fun z => kb_104_34 (pk_in k 21 (by omega)) (fun y => take (Or.inl ?_) _) (fun y => kb_104_44 (pk_in k 21 (by omega)) (fun u => take (Or.inr ?_) _) (fun u => kb_104_54 (next (fun h => ?_) _)))))
      · rw [cr, e75] at z
        rw [nI_1]
        refine ih τ fr (fun r' hr' => ?_) _ _
        by_cases e : r' = r
        · subst e
          obtain ⟨w, w9, wr, e87, a1, a2, a3, a4⟩ := R
          refine ⟨w, w9, wr, e87, fun i hi => ?_, fun k' hk' h => absurd h (skipall z k' hk'), fun o ho => ?_, a4⟩
          · obtain ⟨k', c1, c2, c3⟩ := a1 i hi; exact ⟨k', by omega, c2, c3⟩
          · obtain ⟨c1, k', c2, c3⟩ := a3 o ho; exact ⟨c1, k', by omega, c3⟩
        · exact hR r' (by omega)
      · rw [ck, e80] at y; exact y
      · rw [ck, e81] at u; exact u
      · rw [ck, e80] at y
        rw [ck, e81] at u
        rcases h with h | h
        · exact y h
        · exact u h
    · obtain ⟨w', b1, b2, b3, b4, b5, b6, b7⟩ := hR r' hr'
      refine ⟨w', b1, b2, by rw [mm_up_o (by omega)]; exact b3, fun i' hi' => by rw [mm_up_n (by decide)]; exact b4 i' hi', fun k' hk' h => ?_, b6, fun i' j' h1 h2 => by rw [mm_up_n (by decide)]; exact b7 i' j' h1 h2⟩
      rw [mm_up_n (by decide)]; exact b5 k' hk' h
end
section
/-! the reference: behind, wayFrom, areTogether, findOutline, findFaces -/
set_option maxRecDepth 100000 in
theorem rem_n0 : ∀ b, b < 50 → 0 < b → ∀ a, a < 100 → nI a - nI a / nI b * nI b = nI (a % b) := by decide +kernel
set_option maxRecDepth 100000 in
theorem half_n : ∀ w, w < 42 → nI w / (2 : Int32) = nI (w / 2) ∧ nI w - nI w / (2 : Int32) * (2 : Int32) = nI (w % 2) := by decide +kernel
theorem nar_0 : vp_nar .boolean (0 : Int32) = 0 := by decide
theorem nar_1 : vp_nar .boolean (1 : Int32) = 1 := by decide
theorem c_105 {d n r k : Nat} {Q : mm_Q} {σ τ : mm_S} (n21 : n ≤ 21) (A : AR σ τ n) (hr : r < 9) (hk : k < n) (he : em σ r k) (q : ∀ k', k' < n → em σ r k' → Q (some (.int (nI k'))) τ) : mD (d + 1) 105 [.ref 10, .int (nI k), .int (nI r)] τ Q := by
  obtain ⟨dg, d8, e87, a1, a2, _⟩ := A r hr
  obtain ⟨i0, hi0, ei0⟩ := a2 k hk he
  have cr : (nI r).toNatClampNeg = r := nI_clamp (by omega)
  have fin : ∀ i, i < dg → mw d mt_105 Q 23 [some (.ref 10), some (.int (nI k)), some (.int (nI r)), some (.int (nI i))] [] τ := fun i hi => by
    have em' : nI i + (1 : Int32) - (nI i + (1 : Int32)) / (τ 87 (nI r).toNatClampNeg) * (τ 87 (nI r).toNatClampNeg) = nI ((i + 1) % dg) := by
      rw [cr, e87, nI_1]; exact rem_n0 dg (by omega) (by omega) (i + 1) (by omega)
    have ml : (i + 1) % dg < dg := Nat.mod_lt _ (by omega)
    obtain ⟨k', b1, b2, b3⟩ := a1 _ ml
    refine kb_105_23 (pk_in r 9 hr) (by rw [cr, e87]; exact nI_ne0 (by omega) (by omega)) (by rw [em', nI_16]; exact pk_in (16 * r + (i + 1) % dg) 144 (by omega)) ?_
    rw [em', nI_16, nI_clamp (show 16 * r + (i + 1) % dg < 2 ^ 31 by omega), b3]
    exact q k' b1 b2
  refine ke_105 (kb_105_0 ?_)
  refine lp_dn (P := fun i => mw d mt_105 Q 2 [some (.ref 10), some (.int (nI k)), some (.int (nI r)), some (.int (nI i))] [] τ) i0 ?_ ?_ 0 (Nat.zero_le _)
  · refine kb_105_2 (by rw [nI_16]; exact pk_in (16 * r + i0) 144 (by omega)) (fun _ => fin i0 hi0) (fun z => absurd ?_ z)
    rw [nI_16, nI_clamp (by omega)]; exact ei0
  · intro i hi ih
    refine kb_105_2 (by rw [nI_16]; exact pk_in (16 * r + i) 144 (by omega)) (fun _ => fin i (by omega)) (fun _ => kb_105_17 ?_)
    rw [nI_1]; exact ih
def wfn (τ : mm_S) (k r : Nat) : Nat := 2 * k + if τ 80 k = nI r then 0 else 1
theorem wfn_lt {τ : mm_S} {k r : Nat} (hk : k < 21) : wfn τ k r < 42 := by unfold wfn; split <;> omega
theorem c_106 {d k r : Nat} {Q : mm_Q} {τ : mm_S} (hk : k < 21) (q : Q (some (.int (nI (wfn τ k r)))) τ) : mD (d + 1) 106 [.ref 10, .int (nI k), .int (nI r)] τ Q := by
  have e2 : (2 : Int32) * nI k = nI (2 * k) := nI_mul 2 k
  have ck : (nI k).toNatClampNeg = k := nI_clamp (by omega)
  refine ke_106 (kb_106_0 (pk_in k 21 hk) (fun z => kb_106_13 ?_) (fun z => kb_106_17 ?_))
  · rw [ck] at z
    unfold wfn at q
    rw [if_pos z] at q
    rw [e2, show nI (2 * k) + (0 : Int32) = nI (2 * k) from nI_add (2 * k) 0]
    exact q
  · rw [ck] at z
    unfold wfn at q
    rw [if_neg z] at q
    rw [e2, nI_1]
    exact q
/-- the rooms that are drawn, as a mask -/
theorem c_107 {d n : Nat} {Q : mm_Q} {σ τ : mm_S} (M : MK σ n) (t10 : τ 10 6 = σ 10 6) (t75 : τ 75 = σ 75) (t80 : τ 80 = σ 80) (t81 : τ 81 = σ 81) (h3 : 3 ≤ rc σ 9) (q1 : (∀ r, r < 9 → ¬ σ 75 r = 0 → ∃ k, k < n ∧ em σ r k) → Q (some (.int 1)) τ) (q0 : Q (some (.int 0)) τ) : mD (d + 1) 107 [.ref 10] τ Q := by
  have n21 := M.jn.1
  have tb : ∀ a k i : Nat, (a ||| 2 ^ k).testBit i = true ↔ a.testBit i = true ∨ k = i := fun a k i => by
    rw [Nat.testBit_or, Nat.testBit_two_pow, Bool.or_eq_true]; simp
  refine ke_107 (kb_107_0 ?_)
  refine lp_dn (P := fun r => ∀ (a : Nat) (x : Int32), a < 512 → bc a 9 = rc σ r → (∀ i, i < 9 → (a.testBit i = true ↔ i < r ∧ ¬ σ 75 i = 0)) → (x = -1 ∧ (∀ i, i < r → σ 75 i = 0) ∨ ∃ f, f < 9 ∧ x = nI f ∧ a.testBit f = true) → mw d mt_107 Q 6 [some (.ref 10), some (.int (nI a)), some (.int x), some (.int (nI r)), none, none, none] [] τ) 9 ?_ ?_ 0 (by omega) 0 (-1) (by decide) rfl (fun i _ => ⟨fun z => absurd z (by simp), fun z => absurd z.1 (Nat.not_lt_zero i)⟩) (Or.inl ⟨rfl, fun i hi => absurd hi (Nat.not_lt_zero i)⟩)
  · intro a x a9 hbc ab hx
    refine kb_107_6 (fun _ => kb_107_57 ?_) (fun g => absurd (by decide) g)
    rcases hx with ⟨_, h⟩ | ⟨f, f9, ef, fa⟩
    · exfalso
      have : bc a 9 = 0 := by
        rcases Nat.eq_zero_or_pos (bc a 9) with y | y
        · exact y
        · obtain ⟨j, hj, hb⟩ := bc_pos 9 y
          exact absurd (h j hj) ((ab j hj).mp hb).2
      omega
    · subst ef
      rw [one_sh (by omega)]
      have fin : ∀ w x4 o5 o6, w < 512 → (∀ i, i < 9 → w.testBit i = true → i = f ∨ ∃ k, k < n ∧ em σ i k) → (w = 2 ^ f ∨ ∃ k, k < n ∧ em σ f k) → mw d mt_107 Q 128 [some (.ref 10), some (.int (nI a)), some (.int (nI f)), some (.int (nI w)), some (.int x4), o5, o6] [] τ := by
        intro w x4 o5 o6 w9 wi wf
        refine kb_107_128 (fun e => kb_107_133 (q1 (fun r hr dr => ?_))) (fun _ => kb_107_137 q0)
        have ew : w = a := (nI_eq (by omega) (by omega)).mp e
        subst ew
        have rb : w.testBit r = true := (ab r hr).mpr ⟨hr, dr⟩
        rcases wi r hr rb with z | z
        · subst z
          rcases wf with y | y
          · exfalso
            rw [y, bcz_1 hr] at hbc
            omega
          · exact y
        · exact z
      refine lp_dn (P := fun j => ∀ w, w < 512 → (∀ i, i < 9 → w.testBit i = true → i = f ∨ ∃ k, k < n ∧ em σ i k) → (w = 2 ^ f ∨ ∃ k, k < n ∧ em σ f k) → ∀ o5 o6, mw d mt_107 Q 64 [some (.ref 10), some (.int (nI a)), some (.int (nI f)), some (.int (nI w)), some (.int (nI j)), o5, o6] [] τ) 9 ?_ ?_ 0 (by omega) (2 ^ f) (Nat.pow_lt_pow_right (by decide) f9) (fun i _ hb => ?_) (Or.inl rfl) none none
      · intro w w9 wi wf o5 o6
        exact kb_107_64 (fun _ => fin w _ o5 o6 w9 wi wf) (fun g => absurd (by decide) g)
      · intro j hj ih w w9 wi wf o5 o6
        refine kb_107_64 (fun g => absurd g (hI_nle (a := 9) (by omega) hj)) (fun _ => kb_107_71 ?_)
        refine lp_dn (P := fun k => ∀ w, w < 512 → (∀ i, i < 9 → w.testBit i = true → i = f ∨ ∃ k, k < n ∧ em σ i k) → (w = 2 ^ f ∨ ∃ k, k < n ∧ em σ f k) → ∀ o6, mw d mt_107 Q 74 [some (.ref 10), some (.int (nI a)), some (.int (nI f)), some (.int (nI w)), some (.int (nI j)), some (.int (nI k)), o6] [] τ) n ?_ ?_ 0 (Nat.zero_le n) w w9 wi wf o6
        · intro w w9 wi wf o6
          refine kb_107_74 (fun _ => kb_107_122 (by rw [nI_1]; exact ih w w9 wi wf _ _)) (fun g => absurd (by rw [t10, M.jn.2]; exact hI_le (by omega) (Nat.le_refl n)) g)
        · intro k hk ihk w w9 wi wf o6
          obtain ⟨p, s, hp, hs, _, _, _, e1, e2⟩ := M.je k hk
          have ck : (nI k).toNatClampNeg = k := nI_clamp (by omega)
          refine kb_107_74 (fun g => absurd g (by rw [t10, M.jn.2]; exact hI_nle (by omega) hk)) (fun _ => kb_107_83 (pk_in k 21 (by omega)) (pk_in k 21 (by omega)) (fun _ => kb_107_116 (by rw [nI_1]; exact ihk w w9 wi wf _)) (fun z => kb_107_111 ?_))
          rw [ck, t80, t81, e1, e2, one_sh (by omega), one_sh (by omega), or_bit, and_bit] at z
          rw [ck, t80, t81, e1, e2, one_sh (by omega), one_sh (by omega), or_bit, or_bit, nI_1]
          have tb2 : ∀ i, (w ||| (2 ^ p ||| 2 ^ s)).testBit i = true ↔ w.testBit i = true ∨ p = i ∨ s = i := fun i => by
            rw [Nat.testBit_or, Bool.or_eq_true, tb, Nat.testBit_two_pow]; simp
          refine ihk _ (Nat.or_lt_two_pow (n := 9) w9 (Nat.or_lt_two_pow (n := 9) (Nat.pow_lt_pow_right (by decide) hp) (Nat.pow_lt_pow_right (by decide) hs))) (fun i hi hb => ?_) (Or.inr ?_) _
          · rcases (tb2 i).mp hb with y | y | y
            · exact wi i hi y
            · subst y; exact Or.inr ⟨k, hk, Or.inl e1⟩
            · subst y; exact Or.inr ⟨k, hk, Or.inr e2⟩
          · rcases wf with y | y
            · -- the first that is added meets f
              subst y
              by_cases pf : p = f
              · subst pf; exact ⟨k, hk, Or.inl e1⟩
              · by_cases sf : s = f
                · subst sf; exact ⟨k, hk, Or.inr e2⟩
                · exfalso
                  apply z
                  have : 2 ^ f &&& (2 ^ p ||| 2 ^ s) = 0 := by
                    apply Nat.eq_of_testBit_eq
                    intro i
                    rw [Nat.testBit_and, Nat.testBit_or, Nat.testBit_two_pow, Nat.testBit_two_pow, Nat.testBit_two_pow, Nat.zero_testBit]
                    by_cases e : f = i
                    · subst e; simp [pf, sf]
                    · simp [e]
                  rw [this]; rfl
            · exact y
      · rw [Nat.testBit_two_pow] at hb
        exact Or.inl (by simpa using (show f = i by simpa using hb).symm)
  · intro r hr ih a x a9 hbc ab hx
    have cr : (nI r).toNatClampNeg = r := nI_clamp (by omega)
    have ar : ¬ a.testBit r = true := fun y => by have := ((ab r hr).mp y).1; omega
    have u : (nI a ||| (0 : Int32)) = nI a := by rw [show (0 : Int32) = nI 0 from rfl, or_bit, Nat.or_zero]
    refine kb_107_6 (fun g => absurd g (hI_nle (a := 9) (by omega) hr)) (fun _ => kb_107_12 (pk_in r 9 hr) (fun z => kb_107_28 (pk_in r 9 hr) (fun _ => kb_107_49 ?_) (fun y => absurd z y)) (fun z => kb_107_22 (pk_in r 9 hr) (fun y => absurd y z) (fun _ => ?_)))
    · rw [cr, t75] at z
      rw [nI_1, u]
      refine ih a x a9 (by rw [rc, if_pos z]; exact hbc) (fun i hi => ?_) ?_
      · rw [ab i hi]
        constructor
        · rintro ⟨h1, h2⟩; exact ⟨by omega, h2⟩
        · rintro ⟨h1, h2⟩
          by_cases e : i = r
          · subst e; exact absurd z h2
          · exact ⟨by omega, h2⟩
      · rcases hx with ⟨h1, h2⟩ | h
        · refine Or.inl ⟨h1, fun i hi => ?_⟩
          by_cases e : i = r
          · subst e; exact z
          · exact h2 i (by omega)
        · exact Or.inr h
    · rw [cr, t75] at z
      rw [one_sh (by omega), or_bit]
      have nx : ∀ y, (∃ f, f < 9 ∧ y = nI f ∧ (a ||| 2 ^ r).testBit f = true) → mw d mt_107 Q 6 [some (.ref 10), some (.int (nI (a ||| 2 ^ r))), some (.int y), some (.int (nI r + 1)), none, none, none] [] τ := fun y hy => by
        rw [nI_1]
        refine ih _ y (Nat.or_lt_two_pow (n := 9) a9 (Nat.pow_lt_pow_right (by decide) hr)) (by rw [bc_add ar, if_pos hr, rc, if_neg z, hbc]) (fun i hi => ?_) (Or.inr hy)
        rw [tb, ab i hi]
        constructor
        · rintro (⟨h1, h2⟩ | h)
          · exact ⟨by omega, h2⟩
          · subst h; exact ⟨by omega, z⟩
        · rintro ⟨h1, h2⟩
          by_cases e : i = r
          · exact Or.inr e.symm
          · exact Or.inl ⟨by omega, h2⟩
      refine kb_107_40 (fun _ => kb_107_45 (nx _ ⟨r, hr, rfl, (tb a r r).mpr (Or.inr rfl)⟩)) (fun y => kb_107_49 (nx _ ?_))
      rcases hx with ⟨h1, _⟩ | ⟨f, f9, ef, fa⟩
      · exact absurd h1 y
      · exact ⟨f, f9, ef, (tb a r f).mpr (Or.inl fa)⟩
end

/-! class: listRooms, orderRooms, what they leave -/
def ODs (σ : mm_S) (K o : Nat → Nat) (L : Nat) (ρ : mm_S) (z w : Nat) : Prop := (∀ j, j < z → ∃ r, r < 9 ∧ w.testBit r = true ∧ ρ 60 j = nI r ∧ ((j < L ∧ r = o j ∧ ∃ s, FSd K r s ∧ ρ 61 j = nI (9 + s)) ∨ (L ≤ j ∧ ∃ i r', i < j ∧ r' < 9 ∧ ρ 60 i = nI r' ∧ ρ 61 j = nI r' ∧ aj σ r r'))) ∧ ∀ i j, i < j → j < z → ρ 60 i ≠ ρ 60 j
def rl (M i : Nat) : Nat := lo (rs M i) 13 0
def rsb (M : Nat) : Bool := !(bc M 9 == 3) || (!(rl M 0 == rl M 1) && !(rl M 0 == rl M 2) && !(rl M 1 == rl M 2) && (List.range 9).all (fun r => M.testBit r == (r == rl M 0 || r == rl M 1 || r == rl M 2)))
set_option maxRecDepth 100000 in
theorem rsb_t : ∀ M, M < 512 → rsb M = true := by decide +kernel
theorem rl_d {M : Nat} (hM : M < 512) (h3 : bc M 9 = 3) : (rl M 0 ≠ rl M 1 ∧ rl M 0 ≠ rl M 2 ∧ rl M 1 ≠ rl M 2) ∧ ∀ r, r < 9 → (M.testBit r = true ↔ r = rl M 0 ∨ r = rl M 1 ∨ r = rl M 2) := by
  have h := rsb_t M hM
  unfold rsb at h
  rw [h3] at h
  simp only [BEq.rfl, Bool.not_true, Bool.false_or, Bool.and_eq_true, Bool.not_eq_true', beq_eq_false_iff_ne, List.all_eq_true, List.mem_range] at h
  obtain ⟨⟨⟨h1, h2⟩, h4⟩, h5⟩ := h
  refine ⟨⟨h1, h2, h4⟩, fun r hr => ?_⟩
  have := h5 r hr
  rw [beq_iff_eq] at this
  rw [this]
  simp only [Bool.or_eq_true, beq_iff_eq, or_assoc]
theorem c_62t {d g M : Nat} {Q : mm_Q} {τ : mm_S} (hg : g < 42) (e43 : τ 43 g = nI M) (hM : M < 512) (h3 : bc M 9 = 3) (q : ∀ τ' : mm_S, (∀ c, c ≠ 46 → τ' c = τ c) → (∀ i, i < 3 → τ' 46 (3 * g + i) = nI (rl M i)) → (∀ j, (j < 3 * g ∨ 3 * g + 3 ≤ j) → τ' 46 j = τ 46 j) → Q none τ') : mD (d + 3) 62 [.ref 7, .int (nI g)] τ Q := by
  refine ke_62 (kb_62_0 (pk_in g 42 hg) ?_)
  rw [nI_clamp (show g < 2 ^ 31 by omega), e43, nI_3]
  have key := lp_dn (P := fun i => ∀ ρ : mm_S, (∀ c, c ≠ 46 → ρ c = τ c) → (∀ i', i' < i → ρ 46 (3 * g + i') = nI (rl M i')) → (∀ j, (j < 3 * g ∨ 3 * g + 3 ≤ j) → ρ 46 j = τ 46 j) → mw (d + 2) mt_62 Q 14 [some (.ref 7), some (.int (nI g)), some (.int (nI (rs M i))), some (.int (nI (3 * g + i)))] [] ρ) 3 ?_ ?_ 0 (by omega) τ (fun _ _ => rfl) (fun i h => absurd h (Nat.not_lt_zero i)) (fun _ _ => rfl)
  · exact key
  · intro ρ fr hb ho
    have g3 : (3 : Int32) * nI g + 3 ≤ nI (3 * g + 3) := by rw [nI_3, nI_a3]; exact hI_le (by omega) (Nat.le_refl _)
    exact kb_62_14 (fun _ => kb_62_44 (q ρ fr hb ho)) (fun z => absurd g3 z)
  · intro i hi ih ρ fr hb ho
    have g3 : ¬ ((3 : Int32) * nI g + 3 ≤ nI (3 * g + i)) := by rw [nI_3, nI_a3]; exact hI_nle (by omega) (by omega)
    obtain ⟨l9, r5⟩ := rs_lo M hM h3 i hi
    refine kb_62_14 (fun z => absurd z g3) (fun _ => kb_62_23 (c_5f (nI_pos (by omega)) ?_))
    rw [F5_n (by omega)]
    refine kb_62_32 (pk_in (3 * g + i) 126 (by omega)) (c_6 (kb_62_37 ?_))
    rw [(f_6_n0 _ r5).1, nI_1, nI_clamp (show 3 * g + i < 2 ^ 31 by omega)]
    refine ih _ (fun c hc => by rw [mm_up_n hc]; exact fr c hc) (fun i' hi' => ?_) (fun j hj => by rw [mm_up_o (by omega)]; exact ho j hj)
    by_cases e : i' = i
    · subst e; exact mm_up_s
    · rw [mm_up_o (by omega)]; exact hb i' (by omega)
theorem c_63t {d n m L : Nat} {Q : mm_Q} {σ τ : mm_S} {o K : Nat → Nat} (C : CK σ n m) (Z : Cn σ m) (t15 : τ 15 = σ 15) (O : OA τ L o) (dis : ∀ i j, i < j → j < L → o i ≠ o j) (om : ∀ k, k < L → m.testBit (o k) = true) (hK : ∀ v, v < 13 → τ 44 v = nI (K v) ∧ K v < 8192)
    (q : ∀ τ' : mm_S, (∀ c, c ≠ 60 → c ≠ 61 → τ' c = τ c) → ODs σ K o L τ' (bc m 9) m → (∀ i, i < 9 → m.testBit i = true → ∃ j, j < bc m 9 ∧ τ' 60 j = nI i) → Q none τ') : mD (d + 4) 63 [.ref 7] τ Q := by
  obtain ⟨l1, l9, e3, arr, inv⟩ := id O
  refine ke_63 (kb_63_0 ?_)
  refine lp_dn (P := fun k => ∀ (ρ : mm_S) (w : Nat), (∀ c, c ≠ 60 → c ≠ 61 → ρ c = τ c) → w < 512 → bc w 9 = k → (∀ i, i < 9 → (w.testBit i = true ↔ ∃ j, j < k ∧ o j = i)) → (∀ j, j < k → ρ 60 j = nI (o j) ∧ ∃ s, FSd K (o j) s ∧ ρ 61 j = nI (9 + s)) → ∀ o3 o4, mw (d + 3) mt_63 Q 4 [some (.ref 7), some (.int (nI w)), some (.int (nI k)), o3, o4] [] ρ) L ?_ ?_ 0 (Nat.zero_le L) τ 0 (fun _ _ _ => rfl) (by decide) (by decide) (fun i _ => ⟨fun z => absurd z (by simp), fun ⟨j, hj, _⟩ => absurd hj (Nat.not_lt_zero j)⟩) (fun j hj => absurd hj (Nat.not_lt_zero j)) none none
  · intro ρ w fr w9 hw wb ord o3 o4
    refine kb_63_4 (fun _ => kb_63_69 ?_) (fun g => absurd (by rw [fr 5 (by decide) (by decide), e3]; exact hI_le (by omega) (Nat.le_refl L)) g)
    rw [fr 5 (by decide) (by decide), e3]
    -- the rooms behind the outline
    have fin : ∀ (k z w : Nat) (ρ : mm_S) (o4 : Option Value), (z ≤ k ∨ 9 ≤ k) → z ≤ 9 → (∀ c, c ≠ 60 → c ≠ 61 → ρ c = τ c) → w < 512 → bc w 9 = z → L ≤ z → (∀ i, i < 9 → w.testBit i = true → m.testBit i = true ∧ ∃ j, j < z ∧ ρ 60 j = nI i) → ODs σ K o L ρ z w → (∀ j, j < k → j < z → ∀ r, r < 9 → ρ 60 j = nI r → ∀ b, aj σ r b → w.testBit b = true) → Q none ρ := by
      intro k z w ρ o4 hk z9 fr w9 hw z1 wm ord pr
      have cl : ∀ i j, i < 9 → m.testBit i = true → w.testBit i = true → aj σ i j → w.testBit j = true := fun i j hi mi wi hij => by
        obtain ⟨_, jj, h1, h2⟩ := wm i hi wi
        exact pr jj (by omega) h1 i hi h2 j hij
      obtain ⟨r0, h1, h2, _⟩ := ord.1 0 (by omega)
      have all := Z (fun x => w.testBit x = true) ⟨r0, h1, (wm r0 h1 h2).1, h2⟩ cl
      have ew : w = m := tb_ext (k := 9) (by omega) C.dm.1 (fun j hj => ⟨fun y => (wm j hj y).1, fun y => all j hj y⟩)
      subst ew
      subst hw
      exact q ρ fr ord (fun i hi h => (wm i hi h).2)
    have lp := lp_dn (P := fun k => ∀ (z w : Nat) (ρ : mm_S), z ≤ 9 → (∀ c, c ≠ 60 → c ≠ 61 → ρ c = τ c) → w < 512 → bc w 9 = z → L ≤ z → (∀ i, i < 9 → w.testBit i = true → m.testBit i = true ∧ ∃ j, j < z ∧ ρ 60 j = nI i) → ODs σ K o L ρ z w → (∀ j, j < k → j < z → ∀ r, r < 9 → ρ 60 j = nI r → ∀ b, aj σ r b → w.testBit b = true) → ∀ o4, mw (d + 3) mt_63 Q 79 [some (.ref 7), some (.int (nI w)), some (.int (nI z)), some (.int (nI k)), o4] [] ρ) 9 ?_ ?_ 0 (by omega) L w ρ l9 fr w9 hw (Nat.le_refl L) (fun i hi hb => ?_) ?_ (fun j hj => absurd hj (Nat.not_lt_zero j)) o4
    · exact lp
    · intro z w ρ z9 fr w9 hw z1 wm ord pr o4
      have e := fin 9 z w ρ o4 (Or.inr (Nat.le_refl 9)) z9 fr w9 hw z1 wm ord pr
      exact kb_63_79 (fun _ => kb_63_169 e) (fun _ => kb_63_84 (fun _ => kb_63_169 e) (fun g => absurd (by decide) g))
    · intro k hk ih z w ρ z9 fr w9 hw z1 wm ord pr o4
      refine kb_63_79 (fun g => kb_63_169 (fin k z w ρ o4 (Or.inl ((nI_leI (by omega) (by omega)).mp g)) z9 fr w9 hw z1 wm ord pr)) (fun g => kb_63_84 (fun g => absurd g (hI_nle (a := 9) (by omega) hk)) (fun _ => kb_63_90 ?_))
      have kz : k < z := by
        rcases Nat.lt_or_ge k z with y | y
        · exact y
        · exact absurd (hI_le (by omega) y) g
      obtain ⟨r, r9, wr, er, _⟩ := ord.1 k kz
      have mr := (wm r r9 wr).1
      refine lp_dn (P := fun x => ∀ (z w : Nat) (ρ : mm_S), k < z → L ≤ z → z ≤ 9 → (∀ c, c ≠ 60 → c ≠ 61 → ρ c = τ c) → w < 512 → bc w 9 = z → (∀ i, i < 9 → w.testBit i = true → m.testBit i = true ∧ ∃ j, j < z ∧ ρ 60 j = nI i) → ODs σ K o L ρ z w → (∀ j, j < k → j < z → ∀ r, r < 9 → ρ 60 j = nI r → ∀ b, aj σ r b → w.testBit b = true) → ρ 60 k = nI r → (∀ b, b < x → aj σ r b → w.testBit b = true) → mw (d + 3) mt_63 Q 93 [some (.ref 7), some (.int (nI w)), some (.int (nI z)), some (.int (nI k)), some (.int (nI x))] [] ρ) 9 ?_ ?_ 0 (by omega) z w ρ kz z1 z9 fr w9 hw wm ord pr er (fun b hb => absurd hb (Nat.not_lt_zero b))
      · intro z w ρ kz kL z9 fr w9 hw wm ord pr er nb
        refine kb_63_93 (fun _ => kb_63_163 ?_) (fun g => absurd (by decide) g)
        rw [nI_1]
        refine ih z w ρ z9 fr w9 hw kL wm ord (fun j hj hjz r' hr' e' b hb => ?_) _
        by_cases ej : j = k
        · subst ej
          have := nI9 hr' r9 (e'.symm.trans er)
          subst this
          exact nb b hb.1 hb
        · exact pr j (by omega) hjz r' hr' e' b hb
      · intro x hx ihx z w ρ kz kL z9 fr w9 hw wm ord pr er nb
        have ck : (nI k).toNatClampNeg = k := nI_clamp (by omega)
        have cr : (nI r).toNatClampNeg = r := nI_clamp (by omega)
        have skip : (aj σ r x → w.testBit x = true) → mw (d + 3) mt_63 Q 157 [some (.ref 7), some (.int (nI w)), some (.int (nI z)), some (.int (nI k)), some (.int (nI x))] [] ρ := fun h => by
          refine kb_63_157 ?_
          rw [nI_1]
          refine ihx z w ρ kz kL z9 fr w9 hw wm ord pr er (fun b hb hab => ?_)
          by_cases e : b = x
          · subst e; exact h hab
          · exact nb b (by omega) hab
        have e15 : ρ 15 = σ 15 := by rw [fr 15 (by decide) (by decide)]; exact t15
        refine kb_63_93 (fun g => absurd g (hI_nle (a := 9) (by omega) hx)) (fun _ => kb_63_100 (pk_in k 9 (by omega)) ?_)
        rw [ck, er]
        refine c_10 (pk_in r 9 r9) ?_
        rw [cr, e15]
        refine kb_63_115 (fun y => skip (fun h => ?_)) (fun y => kb_63_118 (c_4 (kb_63_124 (fun u => ?_) (fun u => skip (fun _ => (hs_b1 (by omega) (by omega)).mp ((hs_01 _ _).resolve_left u))))))
        · rw [h.2] at y; exact absurd y (by decide)
        · have hax : aj σ r x := ⟨hx, (hs_01 _ _).resolve_left y⟩
          have wx : ¬ w.testBit x = true := by rw [(hs_b0 (by omega) (by omega)).mp u]; decide
          have z8 : z < 9 := by rw [← hw]; exact bc_not hx wx
          obtain ⟨_, mx, _⟩ := C.aj_dr r9 mr hax
          refine kb_63_127 (pk_in z 9 z8) (pk_in k 9 (by omega)) (pk_in z 9 z8) ?_
          have rd : (mm_up ρ 60 (nI z).toNatClampNeg (nI x)) 60 (nI k).toNatClampNeg = nI r := by
            rw [ck, nI_clamp (show z < 2 ^ 31 by omega), mm_up_o (by omega)]; exact er
          rw [rd, nI_1, nI_1, nI_clamp (show z < 2 ^ 31 by omega), one_sh (by omega), or_bit]
          have tb : ∀ i, (w ||| 2 ^ x).testBit i = true ↔ w.testBit i = true ∨ x = i := fun i => by
            rw [Nat.testBit_or, Nat.testBit_two_pow, Bool.or_eq_true]; simp
          have r60 : ∀ j, j ≠ z → (mm_up (mm_up ρ 60 z (nI x)) 61 z (nI r)) 60 j = ρ 60 j := fun j hj => by rw [mm_up_n (by decide), mm_up_o hj]
          have r60z : (mm_up (mm_up ρ 60 z (nI x)) 61 z (nI r)) 60 z = nI x := by rw [mm_up_n (by decide)]; exact mm_up_s
          have r61 : ∀ j, j ≠ z → (mm_up (mm_up ρ 60 z (nI x)) 61 z (nI r)) 61 j = ρ 61 j := fun j hj => by rw [mm_up_o hj, mm_up_n (by decide)]
          refine ihx (z + 1) (w ||| 2 ^ x) _ (by omega) (by omega) (by omega) (fun c h1 h2 => by rw [mm_up_n h2, mm_up_n h1]; exact fr c h1 h2) (Nat.or_lt_two_pow (n := 9) w9 (Nat.pow_lt_pow_right (by decide) hx)) (by rw [bc_add wx, if_pos hx, hw]) (fun i hi hb => ?_) ⟨fun j hj => ?_, fun i j hij hj => ?_⟩ (fun j hj hjz r' hr' e' b hb => ?_) (by rw [r60 k (by omega)]; exact er) (fun b hb hab => ?_)
          · rcases (tb i).mp hb with hb | hb
            · obtain ⟨a1, jj, a2, a3⟩ := wm i hi hb
              exact ⟨a1, jj, by omega, by rw [r60 jj (by omega)]; exact a3⟩
            · subst hb
              exact ⟨mx, z, by omega, r60z⟩
          · by_cases ej : j = z
            · subst ej
              exact ⟨x, hx, (tb x).mpr (Or.inr rfl), r60z, Or.inr ⟨by omega, k, r, kz, r9, by rw [r60 k (by omega)]; exact er, mm_up_s, C.aj_sym r9 mr hax⟩⟩
            · obtain ⟨r', a1, a2, a3, a4⟩ := ord.1 j (by omega)
              refine ⟨r', a1, (tb r').mpr (Or.inl a2), by rw [r60 j ej]; exact a3, ?_⟩
              rcases a4 with ⟨b1, b2, s, b3, b4⟩ | ⟨b1, i, r'', b2, b3, b4, b5, b6⟩
              · exact Or.inl ⟨b1, b2, s, b3, by rw [r61 j ej]; exact b4⟩
              · exact Or.inr ⟨b1, i, r'', b2, b3, by rw [r60 i (by omega)]; exact b4, by rw [r61 j ej]; exact b5, b6⟩
          · by_cases ej : j = z
            · subst ej
              rw [r60 i (by omega), r60z]
              intro q
              obtain ⟨r', a1, a2, a3, _⟩ := ord.1 i hij
              rw [a3] at q
              exact wx (nI9 a1 hx q ▸ a2)
            · rw [r60 i (by omega), r60 j ej]; exact ord.2 i j hij (by omega)
          · rw [r60 j (by omega)] at e'
            exact (tb b).mpr (Or.inl (pr j hj (by omega) r' hr' e' b hb))
          · by_cases e : b = x
            · exact (tb b).mpr (Or.inr e.symm)
            · exact (tb b).mpr (Or.inl (nb b (by omega) hab))
    · obtain ⟨j, hj, e⟩ := (wb i hi).mp hb
      refine ⟨by rw [← e]; exact om j hj, j, hj, ?_⟩
      rw [← e]; exact (ord j hj).1
    · refine ⟨fun j hj => ?_, fun i j hij hj => ?_⟩
      · obtain ⟨a1, v, a2, a3⟩ := ord j hj
        exact ⟨o j, (arr j hj).1, (wb _ (arr j hj).1).mpr ⟨j, hj, rfl⟩, a1, Or.inl ⟨hj, rfl, v, a2, a3⟩⟩
      · rw [(ord i (by omega)).1, (ord j hj).1]
        exact fun q => dis i j hij hj (nI9 (arr i (by omega)).1 (arr j hj).1 q)
  · intro k hk ih ρ w fr w9 hw wb ord o3 o4
    have ck : (nI k).toNatClampNeg = k := nI_clamp (by omega)
    obtain ⟨r9, r31, r32⟩ := arr k hk
    have e31 : ρ 31 (nI k).toNatClampNeg = nI (o k) := by rw [ck, fr 31 (by decide) (by decide)]; exact r31
    have e60 : (mm_up ρ 60 (nI k).toNatClampNeg (nI (o k))) 60 (nI k).toNatClampNeg = nI (o k) := mm_up_s
    refine kb_63_4 (fun g => absurd g (by rw [fr 5 (by decide) (by decide), e3]; exact hI_nle (by omega) hk)) (fun _ => kb_63_15 (pk_in k 9 (by omega)) (pk_in k 9 (by omega)) (pk_in k 9 (by omega)) ?_)
    rw [e31, e60]
    refine c_60 (K := K) (by omega) (by rw [mm_up_n (by decide), fr 44 (by decide) (by decide)]; exact hK _ (by omega)) (fun s F => kb_63_50 (pk_in k 9 (by omega)) (pk_in k 9 (by omega)) ?_)
    have e60' : (mm_up (mm_up ρ 60 (nI k).toNatClampNeg (nI (o k))) 61 (nI k).toNatClampNeg ((9 : Int32) + nI s)) 60 (nI k).toNatClampNeg = nI (o k) := by rw [mm_up_n (by decide)]; exact mm_up_s
    rw [e60', nI_1, ck, nI_9, one_sh (by omega), or_bit]
    have wx : ¬ w.testBit (o k) = true := fun y => by
      obtain ⟨j, hj, e⟩ := (wb _ r9).mp y
      exact dis j k hj hk e
    refine ih _ (w ||| 2 ^ o k) (fun c h1 h2 => by rw [mm_up_n h2, mm_up_n h1]; exact fr c h1 h2) (Nat.or_lt_two_pow (n := 9) w9 (Nat.pow_lt_pow_right (by decide) r9)) (by rw [bc_add wx, if_pos r9, hw]) (fun i hi => ?_) (fun j hj => ?_) _ _
    · rw [Nat.testBit_or, Nat.testBit_two_pow, Bool.or_eq_true, wb i hi]
      constructor
      · rintro (⟨j, hj, e⟩ | e)
        · exact ⟨j, by omega, e⟩
        · exact ⟨k, by omega, by simpa using e⟩
      · rintro ⟨j, hj, e⟩
        by_cases ek : j = k
        · subst ek; exact Or.inr (by simpa using e)
        · exact Or.inl ⟨j, by omega, e⟩
    · by_cases ej : j = k
      · subst ej
        exact ⟨by rw [mm_up_n (by decide)]; exact mm_up_s, s, F, mm_up_s⟩
      · obtain ⟨a1, v, a2, a3⟩ := ord j (by omega)
        exact ⟨by rw [mm_up_n (by decide), mm_up_o ej]; exact a1, v, a2, by rw [mm_up_o ej, mm_up_n (by decide)]; exact a3⟩

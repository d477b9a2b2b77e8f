section
/-! class: listRooms, orderRooms, what they leave -/
def ODs (σ : mm_S) (K o : Nat → Nat) (L : Nat) (ρ : mm_S) (z w : Nat) : Prop := (∀ j, j < z → ∃ r, r < 9 ∧ w.testBit r = true ∧ ρ 60 j = nI r ∧ ((j < L ∧ r = o j ∧ ∃ s, FSd K r s ∧ ρ 61 j = nI (9 + s)) ∨ (L ≤ j ∧ ∃ i r', i < j ∧ r' < 9 ∧ ρ 60 i = nI r' ∧ ρ 61 j = nI r' ∧ aj σ r r'))) ∧ ∀ i j, i < j → j < z → ρ 60 i ≠ ρ 60 j
def rl (M i : Nat) : Nat := lo (rs M i) 13 0
def rsb (M : Nat) : Bool := !(bc M 9 == 3) || (!(rl M 0 == rl M 1) && !(rl M 0 == rl M 2) && !(rl M 1 == rl M 2) && (List.range 9).all (fun r => M.testBit r == (r == rl M 0 || r == rl M 1 || r == rl M 2)))
set_option maxRecDepth 100000 in
theorem rsb_t : ∀ M, M < 512 → rsb M = true := by decide +kernel
theorem rl_d {M : Nat} (hM : M < 512) (h3 : bc M 9 = 3) : (rl M 0 ≠ rl M 1 ∧ rl M 0 ≠ rl M 2 ∧ rl M 1 ≠ rl M 2) ∧ ∀ r, r < 9 → (M.testBit r = true ↔ r = rl M 0 ∨ r = rl M 1 ∨ r = rl M 2) := by
  have h := rsb_t M hM
  unfold rsb at h
  rw [h3] at h
  simp only [BEq.rfl, Bool.not_true, Bool.false_or, Bool.and_eq_true, Bool.not_eq_true', beq_eq_false_iff_ne, List.all_eq_true, List.mem_range] at h
  obtain ⟨⟨⟨h1, h2⟩, h4⟩, h5⟩ := h
  refine ⟨⟨h1, h2, h4⟩, fun r hr => ?_⟩
  have := h5 r hr
  rw [beq_iff_eq] at this
  rw [this]
  simp only [Bool.or_eq_true, beq_iff_eq, or_assoc]
theorem c_62t {d g M : Nat} {Q : mm_Q} {τ : mm_S} (hg : g < 42) (e43 : τ 43 g = nI M) (hM : M < 512) (h3 : bc M 9 = 3) (q : ∀ τ' : mm_S, (∀ c, c ≠ 46 → τ' c = τ c) → (∀ i, i < 3 → τ' 46 (3 * g + i) = nI (rl M i)) → (∀ j, (j < 3 * g ∨ 3 * g + 3 ≤ j) → τ' 46 j = τ 46 j) → Q none τ') : mD (d + 3) 62 [.ref 7, .int (nI g)] τ Q := by
  refine ke_62 (kb_62_0 (pk_in g 42 hg) ?_)
  rw [nI_clamp (show g < 2 ^ 31 by omega), e43, nI_3]
  have key := lp_dn (P := fun i => ∀ ρ : mm_S, (∀ c, c ≠ 46 → ρ c = τ c) → (∀ i', i' < i → ρ 46 (3 * g + i') = nI (rl M i')) → (∀ j, (j < 3 * g ∨ 3 * g + 3 ≤ j) → ρ 46 j = τ 46 j) → mw (d + 2) mt_62 Q 14 [some (.ref 7), some (.int (nI g)), some (.int (nI (rs M i))), some (.int (nI (3 * g + i)))] [] ρ) 3 ?_ ?_ 0 (by omega) τ (fun _ _ => rfl) (fun i h => absurd h (Nat.not_lt_zero i)) (fun _ _ => rfl)
  · exact key
  · intro ρ fr hb ho
    have g3 : (3 : Int32) * nI g + 3 ≤ nI (3 * g + 3) := by rw [nI_3, nI_a3]; exact hI_le (by omega) (Nat.le_refl _)
    exact kb_62_14 (fun _ => kb_62_44 (q ρ fr hb ho)) (fun z => absurd g3 z)
  · intro i hi ih ρ fr hb ho
    have g3 : ¬ ((3 : Int32) * nI g + 3 ≤ nI (3 * g + i)) := by rw [nI_3, nI_a3]; exact hI_nle (by omega) (by omega)
    obtain ⟨l9, r5⟩ := rs_lo M hM h3 i hi
    refine kb_62_14 (fun z => absurd z g3) (fun _ => kb_62_23 (c_5f (nI_pos (by omega)) ?_))
    rw [F5_n (by omega)]
    refine kb_62_32 (pk_in (3 * g + i) 126 (by omega)) (c_6 (kb_62_37 ?_))
    rw [(f_6_n0 _ r5).1, nI_1, nI_clamp (show 3 * g + i < 2 ^ 31 by omega)]
    refine ih _ (fun c hc => by rw [mm_up_n hc]; exact fr c hc) (fun i' hi' => ?_) (fun j hj => by rw [mm_up_o (by omega)]; exact ho j hj)
    by_cases e : i' = i
    · subst e; exact mm_up_s
    · rw [mm_up_o (by omega)]; exact hb i' (by omega)
theorem c_63t {d n m L : Nat} {Q : mm_Q} {σ τ : mm_S} {o K : Nat → Nat} (C : CK σ n m) (Z : Cn σ m) (t15 : τ 15 = σ 15) (O : OA τ L o) (dis : ∀ i j, i < j → j < L → o i ≠ o j) (om : ∀ k, k < L → m.testBit (o k) = true) (hK : ∀ v, v < 13 → τ 44 v = nI (K v) ∧ K v < 8192)
    (q : ∀ τ' : mm_S, (∀ c, c ≠ 60 → c ≠ 61 → τ' c = τ c) → ODs σ K o L τ' (bc m 9) m → (∀ i, i < 9 → m.testBit i = true → ∃ j, j < bc m 9 ∧ τ' 60 j = nI i) → Q none τ') : mD (d + 4) 63 [.ref 7] τ Q := by
  obtain ⟨l1, l9, e3, arr, inv⟩ := id O
  refine ke_63 (kb_63_0 ?_)
  refine lp_dn (P := fun k => ∀ (ρ : mm_S) (w : Nat), (∀ c, c ≠ 60 → c ≠ 61 → ρ c = τ c) → w < 512 → bc w 9 = k → (∀ i, i < 9 → (w.testBit i = true ↔ ∃ j, j < k ∧ o j = i)) → (∀ j, j < k → ρ 60 j = nI (o j) ∧ ∃ s, FSd K (o j) s ∧ ρ 61 j = nI (9 + s)) → ∀ o3 o4, mw (d + 3) mt_63 Q 4 [some (.ref 7), some (.int (nI w)), some (.int (nI k)), o3, o4] [] ρ) L ?_ ?_ 0 (Nat.zero_le L) τ 0 (fun _ _ _ => rfl) (by decide) (by decide) (fun i _ => ⟨fun z => absurd z (by simp), fun ⟨j, hj, _⟩ => absurd hj (Nat.not_lt_zero j)⟩) (fun j hj => absurd hj (Nat.not_lt_zero j)) none none
  · intro ρ w fr w9 hw wb ord o3 o4
    refine kb_63_4 (fun _ => kb_63_69 ?_) (fun g => absurd (by rw [fr 5 (by decide) (by decide), e3]; exact hI_le (by omega) (Nat.le_refl L)) g)
    rw [fr 5 (by decide) (by decide), e3]
    -- the rooms behind the outline
    have fin : ∀ (k z w : Nat) (ρ : mm_S) (o4 : Option Value), (z ≤ k ∨ 9 ≤ k) → z ≤ 9 → (∀ c, c ≠ 60 → c ≠ 61 → ρ c = τ c) → w < 512 → bc w 9 = z → L ≤ z → (∀ i, i < 9 → w.testBit i = true → m.testBit i = true ∧ ∃ j, j < z ∧ ρ 60 j = nI i) → ODs σ K o L ρ z w → (∀ j, j < k → j < z → ∀ r, r < 9 → ρ 60 j = nI r → ∀ b, aj σ r b → w.testBit b = true) → Q none ρ := by
      intro k z w ρ o4 hk z9 fr w9 hw z1 wm ord pr
      have cl : ∀ i j, i < 9 → m.testBit i = true → w.testBit i = true → aj σ i j → w.testBit j = true := fun i j hi mi wi hij => by
        obtain ⟨_, jj, h1, h2⟩ := wm i hi wi
        exact pr jj (by omega) h1 i hi h2 j hij
      obtain ⟨r0, h1, h2, _⟩ := ord.1 0 (by omega)
      have all := Z (fun x => w.testBit x = true) ⟨r0, h1, (wm r0 h1 h2).1, h2⟩ cl
      have ew : w = m := tb_ext (k := 9) (by omega) C.dm.1 (fun j hj => ⟨fun y => (wm j hj y).1, fun y => all j hj y⟩)
      subst ew
      subst hw
      exact q ρ fr ord (fun i hi h => (wm i hi h).2)
    have lp := lp_dn (P := fun k => ∀ (z w : Nat) (ρ : mm_S), z ≤ 9 → (∀ c, c ≠ 60 → c ≠ 61 → ρ c = τ c) → w < 512 → bc w 9 = z → L ≤ z → (∀ i, i < 9 → w.testBit i = true → m.testBit i = true ∧ ∃ j, j < z ∧ ρ 60 j = nI i) → ODs σ K o L ρ z w → (∀ j, j < k → j < z → ∀ r, r < 9 → ρ 60 j = nI r → ∀ b, aj σ r b → w.testBit b = true) → ∀ o4, mw (d + 3) mt_63 Q 79 [some (.ref 7), some (.int (nI w)), some (.int (nI z)), some (.int (nI k)), o4] [] ρ) 9 ?_ ?_ 0 (by omega) L w ρ l9 fr w9 hw (Nat.le_refl L) (fun i hi hb => ?_) ?_ (fun j hj => absurd hj (Nat.not_lt_zero j)) o4
    · exact lp
    · intro z w ρ z9 fr w9 hw z1 wm ord pr o4
      have e := fin 9 z w ρ o4 (Or.inr (Nat.le_refl 9)) z9 fr w9 hw z1 wm ord pr
      exact kb_63_79 (fun _ => kb_63_169 e) (fun _ => kb_63_84 (fun _ => kb_63_169 e) (fun g => absurd (by decide) g))
    · intro k hk ih z w ρ z9 fr w9 hw z1 wm ord pr o4
      refine kb_63_79 (fun g => kb_63_169 (fin k z w ρ o4 (Or.inl ((nI_leI (by omega) (by omega)).mp g)) z9 fr w9 hw z1 wm ord pr)) (fun g => kb_63_84 (fun g => absurd g (hI_nle (a := 9) (by omega) hk)) (fun _ => kb_63_90 ?_))
      have kz : k < z := by
        rcases Nat.lt_or_ge k z with y | y
        · exact y
        · exact absurd (hI_le (by omega) y) g
      obtain ⟨r, r9, wr, er, _⟩ := ord.1 k kz
      have mr := (wm r r9 wr).1
      refine lp_dn (P := fun x => ∀ (z w : Nat) (ρ : mm_S), k < z → L ≤ z → z ≤ 9 → (∀ c, c ≠ 60 → c ≠ 61 → ρ c = τ c) → w < 512 → bc w 9 = z → (∀ i, i < 9 → w.testBit i = true → m.testBit i = true ∧ ∃ j, j < z ∧ ρ 60 j = nI i) → ODs σ K o L ρ z w → (∀ j, j < k → j < z → ∀ r, r < 9 → ρ 60 j = nI r → ∀ b, aj σ r b → w.testBit b = true) → ρ 60 k = nI r → (∀ b, b < x → aj σ r b → w.testBit b = true) → mw (d + 3) mt_63 Q 93 [some (.ref 7), some (.int (nI w)), some (.int (nI z)), some (.int (nI k)), some (.int (nI x))] [] ρ) 9 ?_ ?_ 0 (by omega) z w ρ kz z1 z9 fr w9 hw wm ord pr er (fun b hb => absurd hb (Nat.not_lt_zero b))
      · intro z w ρ kz kL z9 fr w9 hw wm ord pr er nb
        refine kb_63_93 (fun _ => kb_63_163 ?_) (fun g => absurd (by decide) g)
        rw [nI_1]
        refine ih z w ρ z9 fr w9 hw kL wm ord (fun j hj hjz r' hr' e' b hb => ?_) _
        by_cases ej : j = k
        · subst ej
          have := nI9 hr' r9 (e'.symm.trans er)
          subst this
          exact nb b hb.1 hb
        · exact pr j (by omega) hjz r' hr' e' b hb
      · intro x hx ihx z w ρ kz kL z9 fr w9 hw wm ord pr er nb
        have ck : (nI k).toNatClampNeg = k := nI_clamp (by omega)
        have cr : (nI r).toNatClampNeg = r := nI_clamp (by omega)
        have skip : (aj σ r x → w.testBit x = true) → mw (d + 3) mt_63 Q 157 [some (.ref 7), some (.int (nI w)), some (.int (nI z)), some (.int (nI k)), some (.int (nI x))] [] ρ := fun h => by
          refine kb_63_157 ?_
          rw [nI_1]
          refine ihx z w ρ kz kL z9 fr w9 hw wm ord pr er (fun b hb hab => ?_)
          by_cases e : b = x
          · subst e; exact h hab
          · exact nb b (by omega) hab
        have e15 : ρ 15 = σ 15 := by rw [fr 15 (by decide) (by decide)]; exact t15
        refine kb_63_93 (fun g => absurd g (hI_nle (a := 9) (by omega) hx)) (fun _ => kb_63_100 (pk_in k 9 (by omega)) ?_)
        rw [ck, er]
        refine c_10 (pk_in r 9 r9) ?_
        rw [cr, e15]
        refine kb_63_115 (fun y => skip (fun h => ?_)) (fun y => kb_63_118 (c_4 (kb_63_124 (fun u => ?_) (fun u => skip (fun _ => (hs_b1 (by omega) (by omega)).mp ((hs_01 _ _).resolve_left u))))))
        · rw [h.2] at y; exact absurd y (by decide)
        · have hax : aj σ r x := ⟨hx, (hs_01 _ _).resolve_left y⟩
          have wx : ¬ w.testBit x = true := by rw [(hs_b0 (by omega) (by omega)).mp u]; decide
          have z8 : z < 9 := by rw [← hw]; exact bc_not hx wx
          obtain ⟨_, mx, _⟩ := C.aj_dr r9 mr hax
          refine kb_63_127 (pk_in z 9 z8) (pk_in k 9 (by omega)) (pk_in z 9 z8) ?_
          have rd : (mm_up ρ 60 (nI z).toNatClampNeg (nI x)) 60 (nI k).toNatClampNeg = nI r := by
            rw [ck, nI_clamp (show z < 2 ^ 31 by omega), mm_up_o (by omega)]; exact er
          rw [rd, nI_1, nI_1, nI_clamp (show z < 2 ^ 31 by omega), one_sh (by omega), or_bit]
          have tb : ∀ i, (w ||| 2 ^ x).testBit i = true ↔ w.testBit i = true ∨ x = i := fun i => by
            rw [Nat.testBit_or, Nat.testBit_two_pow, Bool.or_eq_true]; simp
          have r60 : ∀ j, j ≠ z → (mm_up (mm_up ρ 60 z (nI x)) 61 z (nI r)) 60 j = ρ 60 j := fun j hj => by rw [mm_up_n (by decide), mm_up_o hj]
          have r60z : (mm_up (mm_up ρ 60 z (nI x)) 61 z (nI r)) 60 z = nI x := by rw [mm_up_n (by decide)]; exact mm_up_s
          have r61 : ∀ j, j ≠ z → (mm_up (mm_up ρ 60 z (nI x)) 61 z (nI r)) 61 j = ρ 61 j := fun j hj => by rw [mm_up_o hj, mm_up_n (by decide)]
          refine ihx (z + 1) (w ||| 2 ^ x) _ (by omega) (by omega) (by omega) (fun c h1 h2 => by rw [mm_up_n h2, mm_up_n h1]; exact fr c h1 h2) (Nat.or_lt_two_pow (n := 9) w9 (Nat.pow_lt_pow_right (by decide) hx)) (by rw [bc_add wx, if_pos hx, hw]) (fun i hi hb => ?_) ⟨fun j hj => ?_, fun i j hij hj => ?_⟩ (fun j hj hjz r' hr' e' b hb => ?_) (by rw [r60 k (by omega)]; exact er) (fun b hb hab => ?_)
          · rcases (tb i).mp hb with hb | hb
            · obtain ⟨a1, jj, a2, a3⟩ := wm i hi hb
              exact ⟨a1, jj, by omega, by rw [r60 jj (by omega)]; exact a3⟩
            · subst hb
              exact ⟨mx, z, by omega, r60z⟩
          · by_cases ej : j = z
            · subst ej
              exact ⟨x, hx, (tb x).mpr (Or.inr rfl), r60z, Or.inr ⟨by omega, k, r, kz, r9, by rw [r60 k (by omega)]; exact er, mm_up_s, C.aj_sym r9 mr hax⟩⟩
            · obtain ⟨r', a1, a2, a3, a4⟩ := ord.1 j (by omega)
              refine ⟨r', a1, (tb r').mpr (Or.inl a2), by rw [r60 j ej]; exact a3, ?_⟩
              rcases a4 with ⟨b1, b2, s, b3, b4⟩ | ⟨b1, i, r'', b2, b3, b4, b5, b6⟩
              · exact Or.inl ⟨b1, b2, s, b3, by rw [r61 j ej]; exact b4⟩
              · exact Or.inr ⟨b1, i, r'', b2, b3, by rw [r60 i (by omega)]; exact b4, by rw [r61 j ej]; exact b5, b6⟩
          · by_cases ej : j = z
            · subst ej
              rw [r60 i (by omega), r60z]
              intro q
              obtain ⟨r', a1, a2, a3, _⟩ := ord.1 i hij
              rw [a3] at q
              exact wx (nI9 a1 hx q ▸ a2)
            · rw [r60 i (by omega), r60 j ej]; exact ord.2 i j hij (by omega)
          · rw [r60 j (by omega)] at e'
            exact (tb b).mpr (Or.inl (pr j hj (by omega) r' hr' e' b hb))
          · by_cases e : b = x
            · exact (tb b).mpr (Or.inr e.symm)
            · exact (tb b).mpr (Or.inl (nb b (by omega) hab))
    · obtain ⟨j, hj, e⟩ := (wb i hi).mp hb
      refine ⟨by rw [← e]; exact om j hj, j, hj, ?_⟩
      rw [← e]; exact (ord j hj).1
    · refine ⟨fun j hj => ?_, fun i j hij hj => ?_⟩
      · obtain ⟨a1, v, a2, a3⟩ := ord j hj
        exact ⟨o j, (arr j hj).1, (wb _ (arr j hj).1).mpr ⟨j, hj, rfl⟩, a1, Or.inl ⟨hj, rfl, v, a2, a3⟩⟩
      · rw [(ord i (by omega)).1, (ord j hj).1]
        exact fun q => dis i j hij hj (nI9 (arr i (by omega)).1 (arr j hj).1 q)
  · intro k hk ih ρ w fr w9 hw wb ord o3 o4
    have ck : (nI k).toNatClampNeg = k := nI_clamp (by omega)
    obtain ⟨r9, r31, r32⟩ := arr k hk
    have e31 : ρ 31 (nI k).toNatClampNeg = nI (o k) := by rw [ck, fr 31 (by decide) (by decide)]; exact r31
    have e60 : (mm_up ρ 60 (nI k).toNatClampNeg (nI (o k))) 60 (nI k).toNatClampNeg = nI (o k) := mm_up_s
    refine kb_63_4 (fun g => absurd g (by rw [fr 5 (by decide) (by decide), e3]; exact hI_nle (by omega) hk)) (fun _ => kb_63_15 (pk_in k 9 (by omega)) (pk_in k 9 (by omega)) (pk_in k 9 (by omega)) ?_)
    rw [e31, e60]
    refine c_60 (K := K) (by omega) (by rw [mm_up_n (by decide), fr 44 (by decide) (by decide)]; exact hK _ (by omega)) (fun s F => kb_63_50 (pk_in k 9 (by omega)) (pk_in k 9 (by omega)) ?_)
    have e60' : (mm_up (mm_up ρ 60 (nI k).toNatClampNeg (nI (o k))) 61 (nI k).toNatClampNeg ((9 : Int32) + nI s)) 60 (nI k).toNatClampNeg = nI (o k) := by rw [mm_up_n (by decide)]; exact mm_up_s
    rw [e60', nI_1, ck, nI_9, one_sh (by omega), or_bit]
    have wx : ¬ w.testBit (o k) = true := fun y => by
      obtain ⟨j, hj, e⟩ := (wb _ r9).mp y
      exact dis j k hj hk e
    refine ih _ (w ||| 2 ^ o k) (fun c h1 h2 => by rw [mm_up_n h2, mm_up_n h1]; exact fr c h1 h2) (Nat.or_lt_two_pow (n := 9) w9 (Nat.pow_lt_pow_right (by decide) r9)) (by rw [bc_add wx, if_pos r9, hw]) (fun i hi => ?_) (fun j hj => ?_) _ _
    · rw [Nat.testBit_or, Nat.testBit_two_pow, Bool.or_eq_true, wb i hi]
      constructor
      · rintro (⟨j, hj, e⟩ | e)
        · exact ⟨j, by omega, e⟩
        · exact ⟨k, by omega, by simpa using e⟩
      · rintro ⟨j, hj, e⟩
        by_cases ek : j = k
        · subst ek; exact Or.inr (by simpa using e)
        · exact Or.inl ⟨j, by omega, e⟩
    · by_cases ej : j = k
      · subst ej
        exact ⟨by rw [mm_up_n (by decide)]; exact mm_up_s, s, F, mm_up_s⟩
      · obtain ⟨a1, v, a2, a3⟩ := ord j (by omega)
        exact ⟨by rw [mm_up_n (by decide), mm_up_o ej]; exact a1, v, a2, by rw [mm_up_o ej, mm_up_n (by decide)]; exact a3⟩
end
section
/-! class: findFirst finds the first layout -/
section CL5
variable {rm : Nat → Prop} {nr : Nat → Nat → Prop} {Bp lb : Nat → Nat → Nat}
theorem ct_T : ∀ N, ct (fun _ => True) N = N := fun N => by
  induction N with
  | zero => rfl
  | succ N ih => show ct (fun _ => True) N + ic True = N + 1; rw [ih, ic_t trivial]
theorem row_ex (G : GP rm nr Bp) {st : Nat → Nat} {r v w0 : Nat} (hv : nr r v) (four : ct (fun u => nr r u ∧ ¬ stq rm Bp lb st r u) 13 = 4) (w4 : w0 < 4) : ∃ b : Nat → Nat, (∀ u, nr r u → b u < 4 ∧ b (Bp r u) = (b u + ic (¬ stq rm Bp lb st r u)) % 4) ∧ b v = w0 := by
  obtain ⟨w, dg, ew0, E⟩ := enu G hv
  obtain ⟨e1, e2, e3, e4, e5⟩ := id E
  rw [enu_ct G E] at four
  obtain ⟨vl, hvl⟩ : ∃ vl : Nat → Nat, vl = fun i => (w0 + ct (fun k => ¬ stq rm Bp lb st r (w k)) i) % 4 := ⟨_, rfl⟩
  have vl4 : ∀ i, vl i < 4 := fun i => by rw [hvl]; exact Nat.mod_lt _ (by decide)
  have vls : ∀ i, vl (i + 1) = (vl i + ic (¬ stq rm Bp lb st r (w i))) % 4 := fun i => by
    rw [hvl]
    show (w0 + (ct (fun k => ¬ stq rm Bp lb st r (w k)) i + ic (¬ stq rm Bp lb st r (w i)))) % 4 = ((w0 + ct (fun k => ¬ stq rm Bp lb st r (w k)) i) % 4 + ic (¬ stq rm Bp lb st r (w i))) % 4
    omega
  have vl0 : vl 0 = w0 := by rw [hvl]; show (w0 + 0) % 4 = w0; omega
  have vld : vl dg = w0 := by rw [hvl]; show (w0 + ct (fun k => ¬ stq rm Bp lb st r (w k)) dg) % 4 = w0; rw [four]; omega
  have ex : ∀ u, ∃ k, nr r u → k < dg ∧ w k = u := fun u => by
    by_cases h : nr r u
    · obtain ⟨k, h1, h2⟩ := e5 u h; exact ⟨k, fun _ => ⟨h1, h2⟩⟩
    · exact ⟨0, fun z => absurd z h⟩
  obtain ⟨ix, hix⟩ : ∃ ix : Nat → Nat, ∀ u, nr r u → ix u < dg ∧ w (ix u) = u := ⟨fun u => (ex u).choose, fun u => (ex u).choose_spec⟩
  have uq : ∀ i j, i < dg → j < dg → w i = w j → i = j := fun i j hi hj e => by
    rcases Nat.lt_trichotomy i j with z | z | z
    · exact absurd e (e4 i j z hj)
    · exact z
    · exact absurd e.symm (e4 j i z hi)
  refine ⟨fun u => vl (ix u), fun u hu => ⟨vl4 _, ?_⟩, ?_⟩
  · obtain ⟨h1, h2⟩ := hix u hu
    obtain ⟨h3, h4⟩ := hix _ (G.nx r u hu)
    show vl (ix (Bp r u)) = (vl (ix u) + ic (¬ stq rm Bp lb st r u)) % 4
    have e : w (ix u + 1) = Bp r u := by rw [(e1 _).2, h2]
    have s := vls (ix u)
    rw [h2] at s
    rw [← s]
    by_cases c : ix u + 1 < dg
    · rw [uq _ _ h3 c (h4.trans e.symm)]
    · have ed : ix u + 1 = dg := by omega
      rw [ed, vld]
      have : ix (Bp r u) = 0 := uq _ _ h3 (by omega) (by rw [h4, ← e, ed]; exact e3)
      rw [this, vl0]
  · obtain ⟨h1, h2⟩ := hix v hv
    show vl (ix v) = w0
    rw [uq (ix v) 0 h1 (by omega) (h2.trans ew0.symm), vl0]
theorem b_ex (G : GP rm nr Bp) {st od an : Nat → Nat} {R : Nat} (four : ∀ r, rm r → ct (fun u => nr r u ∧ ¬ stq rm Bp lb st r u) 13 = 4) (o1 : ∀ k, k < R → rm (od k) ∧ nr (od k) (an k)) (oj : ∀ i j, i < j → j < R → od i ≠ od j) (oc : ∀ r, rm r → ∃ k, k < R ∧ od k = r) (oa : ∀ k, k < R → (∃ s, s < 4 ∧ an k = 9 + s) ∨ ((∀ s, s < 4 → ¬ nr (od k) (9 + s)) ∧ ∃ j, j < k ∧ an k = od j)) : ∃ b, ROa rm nr Bp lb st b ∧ ANa rm nr R od an b := by
  have od9 : ∀ k, k < R → od k < 9 := fun k hk => G.r9 _ (o1 k hk).1
  have grow : ∀ k, k ≤ R → ∃ b : Nat → Nat → Nat, ∀ j, j < k → (∀ u, nr (od j) u → b (od j) u < 4 ∧ b (od j) (Bp (od j) u) = (b (od j) u + ic (¬ stq rm Bp lb st (od j) u)) % 4) ∧ (∀ s, s < 4 → an j = 9 + s → b (od j) (9 + s) = s) ∧ ∀ i, i < j → an j = od i → b (od j) (od i) = (b (od i) (od j) + 2) % 4 := by
    intro k
    induction k with
    | zero => exact fun _ => ⟨fun _ _ => 0, fun j hj => absurd hj (Nat.not_lt_zero j)⟩
    | succ k ih =>
      intro hk
      obtain ⟨b, hb⟩ := ih (by omega)
      obtain ⟨w0, w4, s2, s3⟩ : ∃ w0, w0 < 4 ∧ (∀ s, s < 4 → an k = 9 + s → w0 = s) ∧ ∀ i, i < k → an k = od i → w0 = (b (od i) (od k) + 2) % 4 := by
        rcases oa k (by omega) with ⟨s, s4, e⟩ | ⟨ns, j, hj, e⟩
        · exact ⟨s, s4, fun s' _ e' => by omega, fun i hi ei => by have := od9 i (by omega); omega⟩
        · refine ⟨(b (od j) (od k) + 2) % 4, Nat.mod_lt _ (by decide), fun s s4 e' => by have := od9 j (by omega); omega, fun i hi ei => ?_⟩
          have : i = j := by
            rcases Nat.lt_trichotomy i j with z | z | z
            · exact absurd (ei.symm.trans e) (oj i j z (by omega))
            · exact z
            · exact absurd (e.symm.trans ei) (oj j i z (by omega))
          rw [this]
      obtain ⟨row, h1, h2⟩ := row_ex (lb := lb) G (o1 k (by omega)).2 (four _ (o1 k (by omega)).1) w4
      have ne : ∀ j, j < k → od j ≠ od k := fun j hj => oj j k hj (by omega)
      refine ⟨fun r => if r = od k then row else b r, fun j hj => ?_⟩
      by_cases ej : j = k
      · subst ej
        simp only [if_pos]
        refine ⟨h1, fun s s4 es => ?_, fun i hi ei => ?_⟩
        · rw [← es, h2]; exact s2 s s4 es
        · rw [if_neg (ne i hi), ← s3 i hi ei, ← h2, ei]
      · obtain ⟨x1, x2, x3⟩ := hb j (by omega)
        simp only [if_neg (ne j (by omega))]
        refine ⟨x1, x2, fun i hi ei => ?_⟩
        rw [if_neg (ne i (by omega))]; exact x3 i hi ei
  obtain ⟨b, hb⟩ := grow R (Nat.le_refl R)
  refine ⟨b, fun r v hr hv => ?_, oc, fun k hk => ⟨(o1 k hk).1, (o1 k hk).2, ?_⟩⟩
  · obtain ⟨k, hk, e⟩ := oc r hr
    subst e
    exact (hb k hk).1 v hv
  · rcases oa k hk with ⟨s, s4, e⟩ | ⟨ns, j, hj, e⟩
    · exact Or.inl ⟨s, s4, e, (hb k hk).2.1 s s4 e⟩
    · exact Or.inr ⟨ns, j, hj, e, (hb k hk).2.2 j hj e⟩
end CL5
def jA (σ : mm_S) (e : Nat) : Nat := (σ 16 e).toNatClampNeg
def jB (σ : mm_S) (e : Nat) : Nat := (σ 17 e).toNatClampNeg
/-- the first layout, as a vector of directions -/
def LYF (σ : mm_S) (n m : Nat) (B : Nat → Nat → Nat) (s t L : Nat) (p : Nat → Nat) (D : Nat → Nat) : Prop := ∃ sd, LYa (rmx m) (nrP σ m B s t L p) (BpP B s t L p) sd ∧ (∀ e, e < n → D e = dvec (jA σ) (jB σ) sd e) ∧ ∀ sd', LYa (rmx m) (nrP σ m B s t L p) (BpP B s t L p) sd' → ¬ lx n (dvec (jA σ) (jB σ) sd') D
theorem bc_cnt (M : Nat) : ∀ n, bc M n = ct (fun v => M.testBit v = true) n
  | 0 => rfl
  | n + 1 => by
    show bc M n + (if M.testBit n = true then 1 else 0) = ct (fun v => M.testBit v = true) n + ic (M.testBit n = true)
    rw [bc_cnt M n]
    by_cases h : M.testBit n = true
    · rw [if_pos h, ic_t h]
    · rw [if_neg h, ic_f h]
theorem c_61t {d n m s t L f : Nat} {Q : mm_Q} {σ τ : mm_S} {B : Nat → Nat → Nat} {Mk p K : Nat → Nat} {lab : Nat × Nat → Int32} (P : PLD σ n m B s t L f Mk lab p K) (t1 : τ 1 = σ 1) (t15 : τ 15 = σ 15) (t16 : τ 16 = σ 16) (t17 : τ 17 = σ 17) (e56 : τ 5 6 = nI f) (hM : ∀ g, g < f → τ 43 g = nI (Mk g) ∧ bc (Mk g) 9 = 3) (O : OA τ L (wo B s t)) (hK : ∀ v, v < 13 → τ 44 v = nI (K v))
    (bh : ∀ r v, rmx m r → nrP σ m B s t L p r v → τ (21 + 1 + r) v = nI (BpP B s t L p r v)) (fo : ∀ a b, Dt σ m (a, b) → τ (33 + 1 + a) b = lab (a, b)) (hBG : BG τ) (hDG : DG τ)
    (q : ∀ τ' D, ffr τ τ' → BG τ' → DG τ' → (∀ e, e < n → τ' 45 e = nI (D e) ∧ D e < 4) → LYF σ n m B s t L p D → Q none τ') : mD (d + 60) 61 [.ref 7] τ Q := by
  have C := P.w.1
  have G := P.gp
  have f42 := P.fl.1
  have D := P.dsk
  have dis := P.ol.2.2.2.2
  obtain ⟨A, Bb, Cc, F, masks⟩ := P.fa
  have dgK : ∀ r, rmx m r → F153 (nI (K r)) = nI (dgr (nrP σ m B s t L p) r) := fun r hr => by
    have r9 := hr.1
    rw [F153_bc (P.nb.1 r (by omega)), bc_cnt]
    congr 1
    exact ct_cg 13 (fun v _ => P.kn (by omega))
  have fs0 : ∀ k, k < L → ∃ s', s' < 4 ∧ (K (wo B s t k)).testBit (9 + s') = true := fun k hk => by
    obtain ⟨s', h4, ho⟩ := cover (o := wo B s t) P.pl P.sL hk
    exact ⟨s', h4, (P.nb.2.2.1 _ s' (P.wa k).1.1 h4).mpr ho⟩
  refine ke_61 (kb_61_0 ?_)
  refine lp_dn (P := fun i => ∀ ρ : mm_S, (∀ c, c ≠ 7 → c ≠ 46 → c ≠ 48 → c ≠ 49 → ρ c = τ c) → ρ 7 8 = 0 → (∀ r, r < i → rmx m r → ρ 48 r = nI (dgr (nrP σ m B s t L p) r) - 4) → (∀ r, r < i → ρ 49 r = 0) → mw (d + 59) mt_61 Q 7 [some (.ref 7), some (.int (nI i))] [] ρ) 9 ?_ ?_ 0 (by omega) _ (fun c h _ _ _ => mm_up_n h) mm_up_s (fun r h => absurd h (Nat.not_lt_zero r)) (fun r h => absurd h (Nat.not_lt_zero r))
  · intro ρ fr e78 n48 n49
    refine kb_61_7 (fun _ => kb_61_46 ?_) (fun g => absurd (by decide) g)
    refine lp_dn (P := fun g => ∀ ρ : mm_S, (∀ c, c ≠ 7 → c ≠ 46 → c ≠ 48 → c ≠ 49 → ρ c = τ c) → ρ 7 8 = 0 → (∀ r, r < 9 → rmx m r → ρ 48 r = nI (dgr (nrP σ m B s t L p) r) - 4) → (∀ r, r < 9 → ρ 49 r = nI (ct (fun h => inF (fun g i => rl (Mk g) i) h r) g)) → (∀ h i, h < g → i < 3 → ρ 46 (3 * h + i) = nI (rl (Mk h) i)) → mw (d + 59) mt_61 Q 48 [some (.ref 7), some (.int (nI g))] [] ρ) f ?_ ?_ 0 (Nat.zero_le f) ρ fr e78 (fun r h1 h2 => n48 r h1 h2) (fun r h1 => n49 r h1) (fun h i hh => absurd hh (Nat.not_lt_zero h))
    · intro ρ fr e78 n48 n49 hb
      have r5 : ρ 5 6 = nI f := by rw [fr 5 (by decide) (by decide) (by decide) (by decide)]; exact e56
      refine kb_61_48 (fun _ => kb_61_76 ?_) (fun g => absurd (by rw [r5]; exact hI_le (by omega) (Nat.le_refl f)) g)
      have O' : OA ρ L (wo B s t) := OA_cg (by rw [fr 5 (by decide) (by decide) (by decide) (by decide)]) (fr 31 (by decide) (by decide) (by decide) (by decide)) (fr 32 (by decide) (by decide) (by decide) (by decide)) O
      refine c_63t C P.cn (by rw [fr 15 (by decide) (by decide) (by decide) (by decide)]; exact t15) O' dis (fun k _ => (P.wa k).1.2) (K := K) (fun v hv => by rw [fr 44 (by decide) (by decide) (by decide) (by decide)]; exact ⟨hK v hv, P.nb.1 v hv⟩) (fun ρ2 fr2 ord cov => kb_61_80 ?_)
      have k2 : ∀ c, c ≠ 7 → c ≠ 46 → c ≠ 48 → c ≠ 49 → c ≠ 60 → c ≠ 61 → ρ2 c = τ c := fun c h1 h2 h3 h4 h5 h6 => by rw [fr2 c h5 h6]; exact fr c h1 h2 h3 h4
      obtain ⟨od, hod⟩ : ∃ od : Nat → Nat, od = fun k => (ρ2 60 k).toNatClampNeg := ⟨_, rfl⟩
      obtain ⟨an, han⟩ : ∃ an : Nat → Nat, an = fun k => (ρ2 61 k).toNatClampNeg := ⟨_, rfl⟩
      have odk : ∀ k, k < bc m 9 → rmx m (od k) ∧ ρ2 60 k = nI (od k) := fun k hk => by
        obtain ⟨r, h1, h2, h3, _⟩ := ord.1 k hk
        have : od k = r := by rw [hod]; show (ρ2 60 k).toNatClampNeg = r; rw [h3, nI_clamp (by omega)]
        rw [this]; exact ⟨⟨h1, h2⟩, h3⟩
      have oin : ∀ k, k < bc m 9 → k < L → od k = wo B s t k ∧ ∃ s', s' < 4 ∧ an k = 9 + s' ∧ ρ2 61 k = nI (9 + s') ∧ (K (od k)).testBit (9 + s') = true := fun k hk hL => by
        obtain ⟨r, h1, h2, h3, h4⟩ := ord.1 k hk
        have e : od k = r := by rw [hod]; show (ρ2 60 k).toNatClampNeg = r; rw [h3, nI_clamp (by omega)]
        rcases h4 with ⟨_, b2, s', b3, b4⟩ | ⟨b1, _⟩
        · have s4 := b3.1
          refine ⟨e.trans b2, s', s4, ?_, b4, ?_⟩
          · rw [han]; show (ρ2 61 k).toNatClampNeg = 9 + s'; rw [b4, nI_clamp (by omega)]
          · rw [e]
            exact FSd_on b3 (by rw [b2]; exact fs0 k hL)
        · omega
      have lR : L ≤ bc m 9 := by
        have h1 : ct (fun r => ∃ k, k < L ∧ wo B s t k = r) 9 = ct (fun _ => True) L := (ct_re (P := fun _ => True) (Q := fun r => ∃ k, k < L ∧ wo B s t k = r) (F := wo B s t) L 9 (fun i hi _ => ⟨(P.wa i).1.1, i, hi, rfl⟩) (fun i j hi hj _ _ e => by
          rcases Nat.lt_trichotomy i j with z | z | z
          · exact absurd e (dis i j z hj)
          · exact z
          · exact absurd e.symm (dis j i z hi)) (fun r _ ⟨k, hk, e⟩ => ⟨k, hk, trivial, e⟩)).symm
        rw [ct_T] at h1
        rw [bc_cnt, ← h1]
        exact ct_le 9 (fun r _ ⟨k, _, e⟩ => by rw [← e]; exact (P.wa k).1.2)
      have inj : ∀ i j, i < j → j < bc m 9 → od i ≠ od j := fun i j hij hj e => by
        have h1 := (odk i (by omega)).2
        have h2 := (odk j hj).2
        exact ord.2 i j hij hj (by rw [h1, h2, e])
      have oout : ∀ k, k < bc m 9 → L ≤ k → (∀ s', s' < 4 → ¬ nrP σ m B s t L p (od k) (9 + s')) ∧ ∃ j, j < k ∧ an k = od j ∧ ρ2 61 k = nI (an k) ∧ aj σ (od k) (od j) := fun k hk hL => by
        obtain ⟨r, h1, h2, h3, h4⟩ := ord.1 k hk
        have e : od k = r := by rw [hod]; show (ρ2 60 k).toNatClampNeg = r; rw [h3, nI_clamp (by omega)]
        refine ⟨fun s' s4 hn => ?_, ?_⟩
        · obtain ⟨y, y1, y2⟩ := P.ot.cv (od k) s' (odk k hk).1 s4 hn
          have y2' : wo B s t (p 0 + y) = od k := y2
          have l1 := P.l3
          have m1 := Nat.mod_lt (p 0 + y) (show L > 0 by omega)
          have x := (oin ((p 0 + y) % L) (by omega) m1).1
          rw [P.wm, y2'] at x
          exact inj ((p 0 + y) % L) k (by omega) hk x
        · rcases h4 with ⟨b1, _⟩ | ⟨_, i, r', b2, b3, b4, b5, b6⟩
          · omega
          · have ei : od i = r' := by rw [hod]; show (ρ2 60 i).toNatClampNeg = r'; rw [b4, nI_clamp (by omega)]
            have ea : an k = r' := by rw [han]; show (ρ2 61 k).toNatClampNeg = r'; rw [b5, nI_clamp (by omega)]
            exact ⟨i, b2, by rw [ea, ei], by rw [ea]; exact b5, by rw [e, ei]; exact b6⟩
      have od' : ∀ k, k < bc m 9 → rmx m (od k) ∧ nrP σ m B s t L p (od k) (an k) ∧ ρ2 60 k = nI (od k) ∧ ρ2 61 k = nI (an k) := fun k hk => by
        obtain ⟨h1, h2⟩ := odk k hk
        refine ⟨h1, ?_⟩
        rcases Nat.lt_or_ge k L with c | c
        · obtain ⟨_, s', s4, e1, e2, e3⟩ := oin k hk c
          have r9 := h1.1
          rw [e1]
          exact ⟨(P.kn (by omega)).mp e3, h2, e2⟩
        · obtain ⟨_, j, hj, e1, e2, e3⟩ := oout k hk c
          exact ⟨by rw [e1]; exact Or.inl ⟨h1, e3⟩, h2, e2⟩
      have oc' : ∀ r, rmx m r → ∃ k, k < bc m 9 ∧ od k = r := fun r hr => by
        obtain ⟨j, hj, e⟩ := cov r hr.1 hr.2
        exact ⟨j, hj, by rw [hod]; show (ρ2 60 j).toNatClampNeg = r; rw [e, nI_clamp (by have := hr.1; omega)]⟩
      have oa' : ∀ k, k < bc m 9 → (∃ s', s' < 4 ∧ an k = 9 + s') ∨ ((∀ s', s' < 4 → ¬ nrP σ m B s t L p (od k) (9 + s')) ∧ ∃ j, j < k ∧ an k = od j) := fun k hk => by
        rcases Nat.lt_or_ge k L with c | c
        · obtain ⟨_, s', s4, e1, _⟩ := oin k hk c
          exact Or.inl ⟨s', s4, e1⟩
        · obtain ⟨h1, j, hj, e1, _⟩ := oout k hk c
          exact Or.inr ⟨h1, j, hj, e1⟩
      obtain ⟨bd, hbd⟩ : ∃ bd : Nat → Nat → Nat, bd = fun g i => rl (Mk g) i := ⟨_, rfl⟩
      have inM : ∀ g, g < f → ∀ r, r < 9 → (inF bd g r ↔ (Mk g).testBit r = true) := fun g hg r hr => by
        rw [hbd]; exact ((rl_d (P.mk g hg).1 (hM g hg).2).2 r hr).symm
      have b9 : ∀ g i, g < f → i < 3 → bd g i < 9 := fun g i hg hi => by rw [hbd]; exact (rs_lo _ (P.mk g hg).1 (hM g hg).2 i hi).1
      have inA : ∀ g, g < f → ∀ r, (inF bd g r ↔ r = A g ∨ r = Bb g ∨ r = Cc g) := fun g hg r => by
        constructor
        · intro h
          have r9 : r < 9 := by
            rcases h with h | h | h <;> rw [h]
            · exact b9 g 0 hg (by decide)
            · exact b9 g 1 hg (by decide)
            · exact b9 g 2 hg (by decide)
          exact (masks g hg r r9).mp ((inM g hg r r9).mp h)
        · intro h
          have r9 : r < 9 := by
            obtain ⟨a1, a2, a3, _⟩ := F.ab g hg
            rcases h with h | h | h <;> rw [h]
            · exact a1.1
            · exact a2.1
            · exact a3.1
          exact (inM g hg r r9).mpr ((masks g hg r r9).mpr h)
      have bdr : ∀ g i, g < f → i < 3 → rmx m (bd g i) := fun g i hg hi => by
        have h : inF bd g (bd g i) := by
          rcases (show i = 0 ∨ i = 1 ∨ i = 2 by omega) with e | e | e <;> subst e
          · exact Or.inl rfl
          · exact Or.inr (Or.inl rfl)
          · exact Or.inr (Or.inr rfl)
        obtain ⟨a1, a2, a3, _⟩ := F.ab g hg
        rcases (inA g hg _).mp h with e | e | e <;> rw [e] <;> assumption
      have jj : ∀ e, e < n → rmx m (jA σ e) ∧ rmx m (jB σ e) ∧ aj σ (jA σ e) (jB σ e) ∧ σ 16 e = nI (jA σ e) ∧ σ 17 e = nI (jB σ e) := fun e he => by
        obtain ⟨a, b, ha, hb', _, ma, mb, e1, e2⟩ := C.je e he
        have ea : jA σ e = a := by unfold jA; rw [e1, nI_clamp (by omega)]
        have eb : jB σ e = b := by unfold jB; rw [e2, nI_clamp (by omega)]
        rw [ea, eb]
        exact ⟨⟨ha, ma⟩, ⟨hb', mb⟩, (C.ja a b ha ma).mpr ⟨e, he, Or.inl ⟨e1, e2⟩, hb'⟩, e1, e2⟩
      have S : LSd ρ2 (rmx m) (nrP σ m B s t L p) (BpP B s t L p) (lbP lab) f bd (bc m 9) od an n (jA σ) (jB σ) := by
        refine ⟨G, fun r v hr hv => ?_, fun v r hv hr hn hc => ?_, ⟨f42, by rw [k2 5 (by decide) (by decide) (by decide) (by decide) (by decide) (by decide)]; exact e56⟩, fun r hr => ?_, ⟨C.jn.1, by rw [k2 1 (by decide) (by decide) (by decide) (by decide) (by decide) (by decide), t1]; exact C.jn.2⟩, fun e he => ?_, ⟨bc_n m 9, by rw [k2 1 (by decide) (by decide) (by decide) (by decide) (by decide) (by decide), t1]; exact C.cr⟩, fun g i hg hi => ⟨bdr g i hg hi, ?_⟩, od', inj, oc', oa'⟩
        · have := hr.1
          rw [k2 _ (by omega) (by omega) (by omega) (by omega) (by omega) (by omega)]; exact bh r v hr hv
        · have v9 := hv.1
          have hvr := P.nra hr hv hn
          have d : Dt σ m (v, r) := ⟨hv.1, hv.2, (P.w.ed hr hvr).2.2.1⟩
          obtain ⟨g, hg, hd⟩ := F.ex v r hv hr (G.sy _ _ hn) hc
          have el := F.lb g hg _ _ hd
          refine ⟨by rw [el]; exact hg, ?_⟩
          rw [k2 _ (by omega) (by omega) (by omega) (by omega) (by omega) (by omega), fo v r d]
          rcases P.fl.2.2.1 _ d with z | ⟨g', hg', z⟩
          · exfalso
            have o := (P.out d).mp z
            obtain ⟨y, y1, y2, y3, y4⟩ := D.out1 o
            have x := D.x1 y1 y2
            rw [← y3, ← y4] at x
            have hc' : rmx m (Bx B (qo B s t p) (bo4 L p) L r v) := hc
            rw [x] at hc'
            have := hc'.1
            omega
          · unfold lbP
            rw [z, nI_clamp (by omega)]
        · have := hr.1
          rw [k2 44 (by decide) (by decide) (by decide) (by decide) (by decide) (by decide), hK r (by omega)]; exact dgK r hr
        · obtain ⟨h1, h2, h3, h4, h5⟩ := jj e he
          exact ⟨h1, h2, Or.inl ⟨h1, h3⟩, by rw [k2 16 (by decide) (by decide) (by decide) (by decide) (by decide) (by decide), t16]; exact h4, by rw [k2 17 (by decide) (by decide) (by decide) (by decide) (by decide) (by decide), t17]; exact h5⟩
        · rw [fr2 46 (by decide) (by decide), hbd]; exact hb g i hg hi
      have I : LI ρ2 ρ2 := by
        refine ⟨fun _ _ _ _ _ _ _ => rfl, Or.inl (by rw [fr2 7 (by decide) (by decide)]; exact e78), fun r v hr hv => ?_, fun e he => ?_⟩
        · rw [k2 _ (by omega) (by omega) (by omega) (by omega) (by omega) (by omega)]; exact hBG r v hr hv
        · rw [k2 _ (by omega) (by omega) (by omega) (by omega) (by omega) (by omega)]; exact hDG e he
      obtain ⟨st0, ch0⟩ := P.lay_ex F
      have d4 : ∀ r, rmx m r → 4 ≤ dgr (nrP σ m B s t L p) r := fun r hr => by have := ch0.2 r hr; omega
      have cv_ca : ∀ st, CHv (rmx m) (nrP σ m B s t L p) bd f st ↔ CHa (rmx m) (nrP σ m B s t L p) f A Bb Cc st := fun st => by
        constructor
        · intro h
          exact ⟨fun g hg => (inA g hg _).mp (h.1 g hg), fun r hr => by have := h.2 r hr; have := d4 r hr; unfold ned at *; omega⟩
        · intro h
          exact ⟨fun g hg => (inA g hg _).mpr (h.1 g hg), fun r hr => by have := h.2 r hr; unfold ned; omega⟩
      have four : ∀ st, CHv (rmx m) (nrP σ m B s t L p) bd f st → ∀ r, rmx m r → ct (fun u => nrP σ m B s t L p r u ∧ ¬ stq (rmx m) (BpP B s t L p) (lbP lab) st r u) 13 = 4 := fun st h r hr => by
        have c := (cv_ca st).mp h
        have h1 := c.2 r hr
        have h2 := stp_ct G F c.1 hr
        have h3 : dgr (nrP σ m B s t L p) r = _ := ct_sp (P := nrP σ m B s t L p r) (stq (rmx m) (BpP B s t L p) (lbP lab) st r) 13
        omega
      have := c_64t S (fun g hg => by rw [hbd]; exact (rl_d (P.mk g hg).1 (hM g hg).2).1) four (fun r hr no => by
          have h1 := ch0.2 r hr
          rw [ct_z f (fun g hg e => no g hg ((inA g hg r).mpr (by rw [← e]; exact ch0.1 g hg)))] at h1
          unfold ned; omega) f (d + 54 - f) 0 (fun v τ => mw (d + 59) mt_61 Q 85 [some (.ref 7), some (.int (nI f))] (v.toList ++ []) τ) ρ2 (fun _ => 0) (fun _ => False) (by omega) I (fun h hh => absurd hh (Nat.not_lt_zero h)) (fun r hr => ⟨Nat.zero_le _, ?_⟩) (fun r hr => ?_) (fun r hr ⟨h, hh, _⟩ => absurd hh (Nat.not_lt_zero h)) (Or.inl ⟨by rw [fr2 7 (by decide) (by decide)]; exact e78, fun _ z => z⟩) (fun τ' I' _ _ _ FBx => kb_61_85 ?_)
      · rw [show d + 54 - f + f + 5 = d + 59 by omega] at this
        exact this
      · have h4 := d4 r hr
        rw [fr2 48 (by decide) (by decide), n48 r hr.1 hr]
        show nI (dgr (nrP σ m B s t L p) r) - nI 4 = nI (ned (nrP σ m B s t L p) r - 0)
        rw [nI_sub h4]; rfl
      · rw [fr2 49 (by decide) (by decide), n49 r hr.1, hbd]
        congr 1
        exact ct_cg f (fun h _ => ⟨fun z => ⟨Nat.zero_le _, z⟩, fun z => z.2⟩)
      · -- some choice there is
        obtain ⟨b0, RO0, AN0⟩ := b_ex (lb := lbP lab) G (four st0 ((cv_ca st0).mpr ch0)) (fun k hk => ⟨(od' k hk).1, (od' k hk).2.1⟩) inj oc' oa'
        rcases FBx with ⟨_, no⟩ | ⟨_, D', hD', dd, mn⟩
        · exact absurd (Or.inr ⟨st0, b0, fun h hh => absurd hh (Nat.not_lt_zero h), (cv_ca st0).mpr ch0, RO0, AN0, fun _ _ => rfl⟩) (no (dvec (jA σ) (jB σ) b0))
        · rcases hD' with z | ⟨st, b, _, h2, h3, h4, h5⟩
          · exact z.elim
          · refine q τ' D' (fun c h1 h2 => ?_) I'.2.2.1 I'.2.2.2 dd ⟨b, cho_lay G F P.pla P.ot ((cv_ca st).mp h2) h3 h4, h5, fun sd' Y' k => ?_⟩
            · rw [I'.1 c h1 (by omega) (by omega) (by omega) (by omega) (by omega)]
              exact k2 c h1 (by omega) (by omega) (by omega) (by omega) (by omega)
            · obtain ⟨st', c1, c2⟩ := lay_cho G F Y'
              refine mn _ (Or.inr ⟨st', sd', fun h hh => absurd hh (Nat.not_lt_zero h), (cv_ca st').mpr c1, c2, ⟨oc', fun k hk => ⟨(od' k hk).1, (od' k hk).2.1, ?_⟩⟩, fun _ _ => rfl⟩) k
              rcases oa' k hk with ⟨s', s4, e⟩ | ⟨ns, j, hj, e⟩
              · have hn := (od' k hk).2.1
                rw [e] at hn
                exact Or.inl ⟨s', s4, e, Y'.sd _ s' (od' k hk).1 s4 hn⟩
              · have hn := (od' k hk).2.1
                rw [e] at hn
                exact Or.inr ⟨ns, j, hj, e, Y'.op _ _ (od' j (by omega)).1 (od' k hk).1 (G.sy _ _ hn)⟩
    · intro g hg ih ρ fr e78 n48 n49 hb
      have r5 : ρ 5 6 = nI f := by rw [fr 5 (by decide) (by decide) (by decide) (by decide)]; exact e56
      obtain ⟨m2, m3⟩ := hM g hg
      have m1 := (P.mk g hg).1
      obtain ⟨⟨x1, x2, x3⟩, _⟩ := rl_d m1 m3
      have l9 : ∀ i, i < 3 → rl (Mk g) i < 9 := fun i hi => (rs_lo _ m1 m3 i hi).1
      refine kb_61_48 (fun z => absurd z (by rw [r5]; exact hI_nle (by omega) hg)) (fun _ => kb_61_59 (c_62t (by omega) (by rw [fr 43 (by decide) (by decide) (by decide) (by decide)]; exact m2) m1 m3 (fun ρ1 f1 b1 b2 => kb_61_64 (c_65t (d := d + 58) (by omega) ⟨l9 0 (by decide), b1 0 (by decide)⟩ ⟨l9 1 (by decide), b1 1 (by decide)⟩ ⟨l9 2 (by decide), b1 2 (by decide)⟩ x1 x2 x3 (fun ρ2 f2 i2 o2 => kb_61_70 ?_)))))
      rw [nI_1]
      refine ih ρ2 (fun c h1 h2 h3 h4 => by rw [f2 c h4, f1 c h2]; exact fr c h1 h2 h3 h4) (by rw [f2 7 (by decide), f1 7 (by decide)]; exact e78) (fun r h1 h2 => by rw [f2 48 (by decide), f1 48 (by decide)]; exact n48 r h1 h2) (fun r hr => ?_) (fun h i hh hi => ?_)
      · show ρ2 49 r = nI (ct (fun h => inF (fun g i => rl (Mk g) i) h r) g + ic (inF (fun g i => rl (Mk g) i) g r))
        by_cases c : inF (fun g i => rl (Mk g) i) g r
        · rw [i2 r c, f1 49 (by decide), n49 r hr, ic_t c]; exact nI_1 _
        · rw [o2 r c, f1 49 (by decide), n49 r hr, ic_f c]; rfl
      · rw [f2 46 (by decide)]
        by_cases e : h = g
        · subst e; exact b1 i hi
        · rw [b2 _ (by omega)]; exact hb h i (by omega) hi
  · intro i hi ih ρ fr e78 n48 n49
    refine kb_61_7 (fun g => absurd g (hI_nle (a := 9) (by omega) hi)) (fun _ => kb_61_13 (pk_in i 13 (by omega)) (c_153 (kb_61_30 (pk_in i 9 hi) (pk_in i 9 hi) ?_)))
    have ci : (nI i).toNatClampNeg = i := nI_clamp (by omega)
    rw [nI_1, ci]
    refine ih _ (fun c h1 h2 h3 h4 => by rw [mm_up_n h4, mm_up_n h3]; exact fr c h1 h2 h3 h4) (by rw [mm_up_n (by decide), mm_up_n (by decide)]; exact e78) (fun r hr hrm => ?_) (fun r hr => ?_)
    · rw [mm_up_n (by decide)]
      by_cases e : r = i
      · subst e
        rw [mm_up_s, fr 44 (by decide) (by decide) (by decide) (by decide), hK r (by omega), dgK r hrm]
      · rw [mm_up_o e]; exact n48 r (by omega) hrm
    · by_cases e : r = i
      · subst e; exact mm_up_s
      · rw [mm_up_o e, mm_up_n (by decide)]; exact n49 r (by omega)
end
section
-- places: differences, the least of all, and how it is reached
def lowr (D ja jb : Nat → Nat) (e : Nat) : Nat := if D e % 2 = 0 then ja e else jb e
def higr (D ja jb : Nat → Nat) (e : Nat) : Nat := if D e % 2 = 0 then jb e else ja e
def CSt (rm : Nat → Prop) (n : Nat) (D ja jb wsh wid hgt : Nat → Nat) (ea no : Nat → Prop) (x y c : Nat) : Prop :=
  (∃ e, e < n ∧ c = 0 ∧ ((x = 4 * higr D ja jb e + D e / 2 ∧ y = 4 * lowr D ja jb e + D e / 2 + 2) ∨ (x = 4 * lowr D ja jb e + D e / 2 + 2 ∧ y = 4 * higr D ja jb e + D e / 2))) ∨
  (∃ e X Y, e < n ∧ c = wsh e ∧ (X = ja e ∨ X = jb e) ∧ (Y = ja e ∨ Y = jb e) ∧ x = 4 * X + (1 - D e / 2) ∧ y = 4 * Y + (1 - D e / 2) + 2) ∨
  (∃ i, rm i ∧ ((c = wid i ∧ x = 4 * i ∧ y = 4 * i + 2) ∨ (c = hgt i ∧ x = 4 * i + 1 ∧ y = 4 * i + 3))) ∨
  (∃ i j, c = 0 ∧ ((ea i ∧ ea j ∧ x = 4 * i + 2 ∧ y = 4 * j + 2) ∨ (no i ∧ no j ∧ x = 4 * i + 3 ∧ y = 4 * j + 3)))
def Sol (S : Nat → Nat → Nat → Prop) (V : Nat → Nat) : Prop := ∀ x y c, S x y c → V x + c ≤ V y
/-- the least solution -/
def LSo (S : Nat → Nat → Nat → Prop) (V : Nat → Nat) : Prop := Sol S V ∧ ∀ V', Sol S V' → ∀ x, V x ≤ V' x
theorem LSo_ex {S : Nat → Nat → Nat → Prop} (h : ∃ V, Sol S V) : ∃ V, LSo S V := by
  have mn : ∀ x, ∃ k, (∃ V, Sol S V ∧ V x = k) ∧ ∀ V, Sol S V → k ≤ V x := fun x => by
    obtain ⟨V, hV⟩ := h
    have : ∀ k, (∃ V, Sol S V ∧ V x = k) → ∃ k, (∃ V, Sol S V ∧ V x = k) ∧ ∀ V, Sol S V → k ≤ V x := fun k => by
      induction k using Nat.strongRecOn with
      | ind k IH =>
        intro hk
        by_cases q : ∃ V, Sol S V ∧ V x < k
        · obtain ⟨V, h1, h2⟩ := q
          exact IH (V x) h2 ⟨V, h1, rfl⟩
        · refine ⟨k, hk, fun V hV => ?_⟩
          rcases Nat.lt_or_ge (V x) k with z | z
          · exact absurd ⟨V, hV, z⟩ q
          · exact z
    exact this (V x) ⟨V, hV, rfl⟩
  refine ⟨fun x => (mn x).choose, fun x y c hc => ?_, fun V' h' x => (mn x).choose_spec.2 V' h'⟩
  obtain ⟨V, h1, h2⟩ := (mn y).choose_spec.1
  have h3 := (mn x).choose_spec.2 V h1
  have h4 := h1 x y c hc
  show (mn x).choose + c ≤ (mn y).choose
  rw [← h2]
  omega
/-- not all settled: one more can be -/
theorem settle1 {S : Nat → Nat → Nat → Prop} {V v : Nat → Nat} (L : LSo S V) (le : ∀ x, v x ≤ V x) (ne : ∃ x, v x < V x) : ∃ x y c, S x y c ∧ v x = V x ∧ v y < V y ∧ V x + c = V y := by
  refine Classical.not_not.mp (fun no => ?_)
  have sol : Sol S (fun y => if v y < V y then V y - 1 else V y) := fun x y c hc => by
    have h := L.1 x y c hc
    show (if v x < V x then V x - 1 else V x) + c ≤ if v y < V y then V y - 1 else V y
    by_cases hy : v y < V y
    · rw [if_pos hy]
      by_cases hx : v x < V x
      · rw [if_pos hx]; omega
      · rw [if_neg hx]
        have hx' : v x = V x := by have := le x; omega
        have : V x + c ≠ V y := fun e => no ⟨x, y, c, hc, hx', hy, e⟩
        omega
    · rw [if_neg hy]
      split <;> omega
  obtain ⟨x, hx⟩ := ne
  have := L.2 _ sol x
  have h2 : V x ≤ if v x < V x then V x - 1 else V x := this
  rw [if_pos hx] at h2
  omega
/-- a round: nothing falls, nothing goes too high, each wish is met as it stood before -/
def RND1 (S : Nat → Nat → Nat → Prop) (V v v' : Nat → Nat) : Prop := (∀ x, v x ≤ v' x ∧ v' x ≤ V x) ∧ ∀ x y c, S x y c → v x + c ≤ v' y
noncomputable def stl (V v : Nat → Nat) : Nat := ct (fun x => v x = V x) 36
theorem stl_up {S : Nat → Nat → Nat → Prop} {V v v' : Nat → Nat} (L : LSo S V) (R : RND1 S V v v') (le : ∀ x, v x ≤ V x) (dom : ∀ x, 36 ≤ x → v x = V x) : stl V v' = 36 ∨ stl V v + 1 ≤ stl V v' := by
  by_cases ne : ∃ x, v x < V x
  · right
    obtain ⟨x, y, c, h1, h2, h3, h4⟩ := settle1 L le ne
    have y36 : y < 36 := by
      rcases Nat.lt_or_ge y 36 with z | z
      · exact z
      · have := dom y z; omega
    have hy : v' y = V y := by
      have a := R.2 x y c h1
      have b := (R.1 y).2
      omega
    unfold stl
    rw [ct_ins (P := fun x => v' x = V x) 36 y36 hy]
    have := ct_le (P := fun x => v x = V x) (Q := fun j => v' j = V j ∧ j ≠ y) 36 (fun j _ e => ⟨by have := R.1 j; omega, fun z => by rw [z] at e; omega⟩)
    omega
  · left
    unfold stl
    have : ct (fun x => v' x = V x) 36 = ct (fun _ => True) 36 := ct_cg 36 (fun x _ => ⟨fun _ => trivial, fun _ => by
      have a := R.1 x
      have b := le x
      rcases Nat.lt_or_ge (v x) (V x) with z | z
      · exact absurd ⟨x, z⟩ ne
      · omega⟩)
    rw [this]
    exact ct_T 36
theorem stl_full {V v : Nat → Nat} (h : stl V v = 36) : ∀ x, x < 36 → v x = V x := fun x hx => by
  refine Classical.not_not.mp (fun n => ?_)
  have h1 : ct (fun _ => True) 36 = ct (fun j => True ∧ j ≠ x) 36 + 1 := ct_ins (P := fun _ => True) 36 hx trivial
  rw [ct_T] at h1
  have h2 := ct_le (P := fun j => v j = V j) (Q := fun j => True ∧ j ≠ x) 36 (fun j _ e => ⟨trivial, fun z => n (z ▸ e)⟩)
  unfold stl at h
  omega
section PSX
variable {σ : mm_S} {n m : Nat} {B : Nat → Nat → Nat} {s t L f : Nat} {Mk : Nat → Nat} {lab : Nat × Nat → Int32} {p K : Nat → Nat}
/-- near a side, by the mask -/
def neS (K : Nat → Nat) (s r : Nat) : Prop := r < 9 ∧ (K r).testBit (9 + s) = true
/-- places that meet all wishes there are -/
theorem PLD.sol (P : PLD σ n m B s t L f Mk lab p K) {sd : Nat → Nat → Nat} (Y : LYa (rmx m) (nrP σ m B s t L p) (BpP B s t L p) sd) {D wsh wid hgt : Nat → Nat} (hD : ∀ e, e < n → D e = dvec (jA σ) (jB σ) sd e) (hj : ∀ e, e < n → rmx m (jA σ e) ∧ rmx m (jB σ e) ∧ aj σ (jA σ e) (jB σ e)) (hw : ∀ e, e < n → wsh e ≤ 20) (hv : ∀ i, rmx m i → wid i ≤ 50 ∧ hgt i ≤ 50) : ∃ V, Sol (CSt (rmx m) n D (jA σ) (jB σ) wsh wid hgt (neS K 1) (neS K 0)) V ∧ ∀ x, V x ≤ 4050 := by
  have Dk := P.dsk
  have KP := P.kpa
  have NQ := P.nqa Y
  obtain ⟨l0, h0, H0, a1, a2, a3, a4, a5, a6⟩ := crd Dk KP Y NQ (show 0 < 4 by decide)
  obtain ⟨l3, h3, H3, b1, b2, b3, b4, b5, b6⟩ := crd Dk KP Y NQ (show 3 < 4 by decide)
  have nes : ∀ s' r, s' < 4 → neS K s' r → nrs (qo B s t p) (bo4 L p) r s' := fun s' r s4 h => by
    rcases (P.kn (show r < 13 by have := h.1; omega)).mp h.2 with ⟨_, z⟩ | ⟨i, i4, e, z⟩ | ⟨i, i4, e, z⟩ | ⟨i, i', _, _, e, _⟩
    · have := z.1; omega
    · rw [show s' = i by omega]; exact z
    · have := h.1; omega
    · have := h.1; omega
  have low : ∀ r, rmx m r → l0 r ≤ 81 ∧ l3 r ≤ 81 := fun r hr => ⟨by have := a1 r; have := a2 r hr; omega, by have := b1 r; have := b2 r hr; omega⟩
  obtain ⟨va, hva⟩ : ∃ va : Nat → Nat, va = fun x => if x % 4 = 0 then 50 * l0 (x / 4) else if x % 4 = 1 then 50 * l3 (x / 4) else if x % 4 = 2 then 50 * h0 (x / 4) else 50 * h3 (x / 4) := ⟨_, rfl⟩
  have v0 : ∀ i, va (4 * i) = 50 * l0 i := fun i => by rw [hva]; show (if 4 * i % 4 = 0 then _ else _) = _; rw [if_pos (by omega), show 4 * i / 4 = i by omega]
  have v1 : ∀ i, va (4 * i + 1) = 50 * l3 i := fun i => by rw [hva]; show (if (4 * i + 1) % 4 = 0 then _ else if (4 * i + 1) % 4 = 1 then _ else _) = _; rw [if_neg (by omega), if_pos (by omega), show (4 * i + 1) / 4 = i by omega]
  have v2 : ∀ i, va (4 * i + 2) = 50 * h0 i := fun i => by rw [hva]; show (if (4 * i + 2) % 4 = 0 then _ else if (4 * i + 2) % 4 = 1 then _ else if (4 * i + 2) % 4 = 2 then _ else _) = _; rw [if_neg (by omega), if_neg (by omega), if_pos (by omega), show (4 * i + 2) / 4 = i by omega]
  have v3 : ∀ i, va (4 * i + 3) = 50 * h3 i := fun i => by rw [hva]; show (if (4 * i + 3) % 4 = 0 then _ else if (4 * i + 3) % 4 = 1 then _ else if (4 * i + 3) % 4 = 2 then _ else _) = _; rw [if_neg (by omega), if_neg (by omega), if_neg (by omega), show (4 * i + 3) / 4 = i by omega]
  have val : ∀ i q, rmx m i → q < 4 → ic (rmx m ((4 * i + q) / 4)) * va (4 * i + q) = va (4 * i + q) := fun i q hi hq => by rw [show (4 * i + q) / 4 = i by omega, ic_t hi, Nat.one_mul]
  refine ⟨fun x => ic (rmx m (x / 4)) * va x, fun x y c hc => ?_, fun x => ?_⟩
  · show ic (rmx m (x / 4)) * va x + c ≤ ic (rmx m (y / 4)) * va y
    rcases hc with ⟨e, he, hc, h⟩ | ⟨e, X, Z, he, hc, hX, hZ, ex, ey⟩ | ⟨i, hi, h⟩ | ⟨i, j, hc, h⟩
    · -- beside one another
      obtain ⟨rA, rB, ab⟩ := hj e he
      have sl := Y.lt _ _ rA (Or.inl ⟨rA, ab⟩)
      have op := Y.op _ _ rA rB (Or.inl ⟨rA, ab⟩)
      have ba := (P.w.ed rA ab).2.2.1
      have d := hD e he
      subst hc
      unfold dvec dv at d
      have cs : (sd (jA σ e) (jB σ e) = 1 ∧ D e = 0) ∨ (sd (jA σ e) (jB σ e) = 3 ∧ D e = 1) ∨ (sd (jA σ e) (jB σ e) = 0 ∧ D e = 2) ∨ (sd (jA σ e) (jB σ e) = 2 ∧ D e = 3) := by
        rcases (show sd (jA σ e) (jB σ e) = 0 ∨ sd (jA σ e) (jB σ e) = 1 ∨ sd (jA σ e) (jB σ e) = 2 ∨ sd (jA σ e) (jB σ e) = 3 by omega) with z | z | z | z <;> rw [z] at d ⊢ <;> simp at d <;> omega
      have fin : ∀ lo hi, rmx m lo → rmx m hi → ((D e / 2 = 0 ∧ h0 lo = l0 hi) ∨ (D e / 2 = 1 ∧ h3 lo = l3 hi)) → ((x = 4 * hi + D e / 2 ∧ y = 4 * lo + D e / 2 + 2) ∨ (x = 4 * lo + D e / 2 + 2 ∧ y = 4 * hi + D e / 2)) → ic (rmx m (x / 4)) * va x + 0 ≤ ic (rmx m (y / 4)) * va y := fun lo hi r1 r2 h1 h2 => by
        rcases h1 with ⟨z, k⟩ | ⟨z, k⟩ <;> rw [z] at h2 <;> rcases h2 with ⟨u, w⟩ | ⟨u, w⟩ <;> subst u <;> subst w
        · rw [val hi 0 r2 (by decide), val lo 2 r1 (by decide), v2, Nat.add_zero, Nat.add_zero, v0, k]; exact Nat.le_refl _
        · rw [val hi 0 r2 (by decide), val lo 2 r1 (by decide), v2, Nat.add_zero, Nat.add_zero, v0, k]; exact Nat.le_refl _
        · rw [val hi 1 r2 (by decide), show 4 * lo + 1 + 2 = 4 * lo + 3 by omega, val lo 3 r1 (by decide), v3, v1, k]; exact Nat.le_refl _
        · rw [val hi 1 r2 (by decide), show 4 * lo + 1 + 2 = 4 * lo + 3 by omega, val lo 3 r1 (by decide), v3, v1, k]; exact Nat.le_refl _
      unfold lowr higr at h
      rcases cs with ⟨z, w⟩ | ⟨z, w⟩ | ⟨z, w⟩ | ⟨z, w⟩
      · rw [if_pos (by omega), if_pos (by omega)] at h
        exact fin _ _ rA rB (Or.inl ⟨by omega, a5 _ _ rA ab z⟩) h
      · rw [if_neg (by omega), if_neg (by omega)] at h
        exact fin _ _ rB rA (Or.inl ⟨by omega, a5 _ _ rB ba (by omega)⟩) h
      · rw [if_pos (by omega), if_pos (by omega)] at h
        exact fin _ _ rA rB (Or.inr ⟨by omega, b5 _ _ rA ab z⟩) h
      · rw [if_neg (by omega), if_neg (by omega)] at h
        exact fin _ _ rB rA (Or.inr ⟨by omega, b5 _ _ rB ba (by omega)⟩) h
    · -- along the wall
      obtain ⟨rA, rB, ab⟩ := hj e he
      have sl := Y.lt _ _ rA (Or.inl ⟨rA, ab⟩)
      have op := Y.op _ _ rA rB (Or.inl ⟨rA, ab⟩)
      have ba := (P.w.ed rA ab).2.2.1
      have d := hD e he
      unfold dvec dv at d
      have w20 := hw e he
      have rX : rmx m X := by rcases hX with z | z <;> rw [z] <;> assumption
      have rZ : rmx m Z := by rcases hZ with z | z <;> rw [z] <;> assumption
      have cs : ((sd (jA σ e) (jB σ e) = 1 ∨ sd (jA σ e) (jB σ e) = 3) ∧ D e / 2 = 0) ∨ ((sd (jA σ e) (jB σ e) = 0 ∨ sd (jA σ e) (jB σ e) = 2) ∧ D e / 2 = 1) := by
        rcases (show sd (jA σ e) (jB σ e) = 0 ∨ sd (jA σ e) (jB σ e) = 1 ∨ sd (jA σ e) (jB σ e) = 2 ∨ sd (jA σ e) (jB σ e) = 3 by omega) with z | z | z | z <;> rw [z] at d ⊢ <;> simp at d <;> omega
      rcases cs with ⟨z, w⟩ | ⟨z, w⟩
      · rw [w] at ex ey
        have lt : l3 X < h3 Z := by
          have both : l3 (jA σ e) < h3 (jB σ e) ∧ l3 (jB σ e) < h3 (jA σ e) := by
            rcases z with z | z
            · have := b6 _ _ rB ba (by omega); exact ⟨this.2, this.1⟩
            · exact b6 _ _ rA ab z
          rcases hX with u | u <;> rcases hZ with u' | u' <;> rw [u, u']
          · exact b2 _ rA
          · exact both.1
          · exact both.2
          · exact b2 _ rB
        subst ex; subst ey; subst hc
        rw [show 4 * X + (1 - 0) = 4 * X + 1 by omega, show 4 * Z + (1 - 0) + 2 = 4 * Z + 3 by omega, val X 1 rX (by decide), val Z 3 rZ (by decide), v1, v3]
        omega
      · rw [w] at ex ey
        have lt : l0 X < h0 Z := by
          have both : l0 (jA σ e) < h0 (jB σ e) ∧ l0 (jB σ e) < h0 (jA σ e) := by
            rcases z with z | z
            · exact a6 _ _ rA ab z
            · have := a6 _ _ rB ba (by omega); exact ⟨this.2, this.1⟩
          rcases hX with u | u <;> rcases hZ with u' | u' <;> rw [u, u']
          · exact a2 _ rA
          · exact both.1
          · exact both.2
          · exact a2 _ rB
        subst ex; subst ey; subst hc
        rw [show 4 * X + (1 - 1) = 4 * X + 0 by omega, show 4 * Z + (1 - 1) + 2 = 4 * Z + 2 by omega, val X 0 rX (by decide), val Z 2 rZ (by decide), Nat.add_zero, v0, v2]
        omega
    · obtain ⟨q1, q2⟩ := hv i hi
      have u1 := a2 i hi
      have u2 := b2 i hi
      rcases h with ⟨hc, ex, ey⟩ | ⟨hc, ex, ey⟩ <;> subst ex <;> subst ey
      · have z := val i 0 hi (by decide)
        rw [Nat.add_zero] at z
        rw [z, val i 2 hi (by decide), v0, v2]; omega
      · rw [val i 1 hi (by decide), val i 3 hi (by decide), v1, v3]; omega
    · rcases h with ⟨h1, h2, ex, ey⟩ | ⟨h1, h2, ex, ey⟩ <;> subst ex <;> subst ey
      · have n1 := nes 1 i (by decide) h1
        have n2 := nes 1 j (by decide) h2
        rw [val i 2 (Dk.nrm n1) (by decide), val j 2 (Dk.nrm n2) (by decide), v2, v2, a4 i n1, a4 j n2]; omega
      · have n1 := nes 0 i (by decide) h1
        have n2 := nes 0 j (by decide) h2
        rw [val i 3 (Dk.nrm n1) (by decide), val j 3 (Dk.nrm n2) (by decide), v3, v3, b4 i n1, b4 j n2]; omega
  · show ic (rmx m (x / 4)) * va x ≤ 4050
    by_cases r : rmx m (x / 4)
    · rw [ic_t r, Nat.one_mul]
      have q := low _ r
      have q2 := a1 (x / 4)
      have q3 := b1 (x / 4)
      rcases (show x % 4 = 0 ∨ x % 4 = 1 ∨ x % 4 = 2 ∨ x % 4 = 3 by omega) with z | z | z | z
      · rw [show x = 4 * (x / 4) by omega, v0]; omega
      · rw [show x = 4 * (x / 4) + 1 by omega, v1]; omega
      · rw [show x = 4 * (x / 4) + 2 by omega, v2]; omega
      · rw [show x = 4 * (x / 4) + 3 by omega, v3]; omega
    · rw [ic_f r, Nat.zero_mul]; exact Nat.zero_le _
end PSX
end
section
/-! class: the places settle at the least ones -/
def PGv (τ0 : mm_S) (rm : Nat → Prop) (n : Nat) (D ja jb wsh wid hgt K V : Nat → Nat) : Prop := (n ≤ 21 ∧ τ0 1 12 = nI n) ∧ (∀ e, e < n → ja e < 9 ∧ jb e < 9 ∧ τ0 16 e = nI (ja e) ∧ τ0 17 e = nI (jb e) ∧ τ0 45 e = nI (D e) ∧ D e < 4 ∧ τ0 18 e = nI (wsh e) ∧ wsh e ≤ 20) ∧ (∀ i, i < 9 → (xd τ0 (nI i) = 1 ↔ rm i)) ∧ (∀ i, i < 9 → rm i → τ0 13 i = nI (wid i) ∧ τ0 14 i = nI (hgt i) ∧ wid i ≤ 50 ∧ hgt i ≤ 50) ∧ (∀ v, v < 13 → τ0 44 v = nI (K v) ∧ K v < 8192) ∧ (LSo (CSt rm n D ja jb wsh wid hgt (neS K 1) (neS K 0)) V) ∧ (∀ x, V x ≤ 4050)
theorem PGv.jn {τ0 : mm_S} {rm : Nat → Prop} {n : Nat} {D ja jb wsh wid hgt K V : Nat → Nat} (h : PGv τ0 rm n D ja jb wsh wid hgt K V) : n ≤ 21 ∧ τ0 1 12 = nI n := h.1
theorem PGv.je {τ0 : mm_S} {rm : Nat → Prop} {n : Nat} {D ja jb wsh wid hgt K V : Nat → Nat} (h : PGv τ0 rm n D ja jb wsh wid hgt K V) : ∀ e, e < n → ja e < 9 ∧ jb e < 9 ∧ τ0 16 e = nI (ja e) ∧ τ0 17 e = nI (jb e) ∧ τ0 45 e = nI (D e) ∧ D e < 4 ∧ τ0 18 e = nI (wsh e) ∧ wsh e ≤ 20 := h.2.1
theorem PGv.rm {τ0 : mm_S} {rm : Nat → Prop} {n : Nat} {D ja jb wsh wid hgt K V : Nat → Nat} (h : PGv τ0 rm n D ja jb wsh wid hgt K V) : ∀ i, i < 9 → (xd τ0 (nI i) = 1 ↔ rm i) := h.2.2.1
theorem PGv.wd {τ0 : mm_S} {rm : Nat → Prop} {n : Nat} {D ja jb wsh wid hgt K V : Nat → Nat} (h : PGv τ0 rm n D ja jb wsh wid hgt K V) : ∀ i, i < 9 → rm i → τ0 13 i = nI (wid i) ∧ τ0 14 i = nI (hgt i) ∧ wid i ≤ 50 ∧ hgt i ≤ 50 := h.2.2.2.1
theorem PGv.kn {τ0 : mm_S} {rm : Nat → Prop} {n : Nat} {D ja jb wsh wid hgt K V : Nat → Nat} (h : PGv τ0 rm n D ja jb wsh wid hgt K V) : ∀ v, v < 13 → τ0 44 v = nI (K v) ∧ K v < 8192 := h.2.2.2.2.1
theorem PGv.ls {τ0 : mm_S} {rm : Nat → Prop} {n : Nat} {D ja jb wsh wid hgt K V : Nat → Nat} (h : PGv τ0 rm n D ja jb wsh wid hgt K V) : LSo (CSt rm n D ja jb wsh wid hgt (neS K 1) (neS K 0)) V := h.2.2.2.2.2.1
theorem PGv.bd {τ0 : mm_S} {rm : Nat → Prop} {n : Nat} {D ja jb wsh wid hgt K V : Nat → Nat} (h : PGv τ0 rm n D ja jb wsh wid hgt K V) : ∀ x, V x ≤ 4050 := h.2.2.2.2.2.2
def RIv (τ0 : mm_S) (V v0 : Nat → Nat) (τ : mm_S) (v : Nat → Nat) : Prop := PI τ0 τ ∧ (∀ i p, i < 9 → p < 4 → τ (62 + 1 + i) p = nI (v (4 * i + p))) ∧ (∀ x, v0 x ≤ v x ∧ v x ≤ V x) ∧ ((τ 8 2 = 0 ∧ ∀ x, v x = v0 x) ∨ (τ 8 2 = 1 ∧ ∃ x, v0 x < v x))
theorem c_73v {d i p w : Nat} {Q : mm_Q} {τ0 τ : mm_S} {V v0 v : Nat → Nat} (bd : ∀ x, V x ≤ 4050) (I : RIv τ0 V v0 τ v) (hi : i < 9) (hp : p < 4) (hw : w ≤ V (4 * i + p)) (q : ∀ τ' v', RIv τ0 V v0 τ' v' → (∀ x, v x ≤ v' x) → w ≤ v' (4 * i + p) → τ' 72 = τ 72 → Q none τ') : mD (d + 1) 73 [.ref 8, .int (nI i), .int (nI p), .int (nI w)] τ Q := by
  obtain ⟨i1, i2, i3, i4⟩ := id I
  have ci : (nI i).toNatClampNeg = i := nI_clamp (by omega)
  have cp : (nI p).toNatClampNeg = p := nI_clamp (by omega)
  have b1 := bd (4 * i + p)
  have b2 := (i3 (4 * i + p)).2
  refine c_73 (pk_in i 9 hi) (pk_in p 4 hp) (fun z => ?_) (fun z => ?_)
  · rw [ci, cp, i2 i p hi hp] at z
    exact q τ v I (fun x => Nat.le_refl _) ((nI_leI (by omega) (by omega)).mp z) rfl
  · rw [ci, cp, i2 i p hi hp] at z
    rw [ci, cp]
    have lt : v (4 * i + p) < w := by
      rcases Nat.lt_or_ge (v (4 * i + p)) w with y | y
      · exact y
      · exact absurd (hI_le (by omega) y) z
    have le : ∀ x, v x ≤ if x = 4 * i + p then w else v x := fun x => by
      by_cases e : x = 4 * i + p
      · rw [if_pos e, e]; omega
      · rw [if_neg e]; exact Nat.le_refl _
    refine q _ (fun x => if x = 4 * i + p then w else v x) ⟨PI_up (PI_up i1 (by omega)) (by omega), fun i' p' hi' hp' => ?_, fun x => ⟨Nat.le_trans (i3 x).1 (le x), ?_⟩, Or.inr ⟨mm_up_s, 4 * i + p, ?_⟩⟩ le ?_ (by rw [mm_up_n (by decide), mm_up_n (by omega)])
    · show _ = nI (if 4 * i' + p' = 4 * i + p then w else v (4 * i' + p'))
      rw [mm_up_n (by omega)]
      by_cases e : 4 * i' + p' = 4 * i + p
      · have e1 : i' = i := by omega
        have e2 : p' = p := by omega
        subst e1; subst e2
        rw [if_pos rfl]; exact mm_up_s
      · rw [if_neg e]
        by_cases e1 : i' = i
        · subst e1
          rw [mm_up_o (by omega)]; exact i2 i' p' hi' hp'
        · rw [mm_up_n (by omega)]; exact i2 i' p' hi' hp'
    · show (if x = 4 * i + p then w else v x) ≤ V x
      by_cases e : x = 4 * i + p
      · rw [if_pos e, e]; exact hw
      · rw [if_neg e]; exact (i3 x).2
    · show v0 (4 * i + p) < if 4 * i + p = 4 * i + p then w else v (4 * i + p)
      rw [if_pos rfl]
      have := (i3 (4 * i + p)).1
      omega
    · show w ≤ if 4 * i + p = 4 * i + p then w else v (4 * i + p)
      rw [if_pos rfl]; exact Nat.le_refl _
theorem and1_n : ∀ w, w < 4 → (nI w &&& (1 : Int32) = 0 ↔ w % 2 = 0) := by decide
section CPL
variable {τ0 : mm_S} {rm : Nat → Prop} {n : Nat} {D ja jb wsh wid hgt K V : Nat → Nat}
theorem c_75v {d e : Nat} {Q : mm_Q} {τ : mm_S} {v0 v : Nat → Nat} (G : PGv τ0 rm n D ja jb wsh wid hgt K V) (I : RIv τ0 V v0 τ v) (he : e < n) (q : ∀ τ' v', RIv τ0 V v0 τ' v' → (∀ x, v x ≤ v' x) → v0 (4 * higr D ja jb e + D e / 2) ≤ v' (4 * lowr D ja jb e + D e / 2 + 2) → v0 (4 * lowr D ja jb e + D e / 2 + 2) ≤ v' (4 * higr D ja jb e + D e / 2) → τ' 72 = τ 72 → Q none τ') : mD (d + 2) 75 [.ref 8, .int (nI e)] τ Q := by
  have n21 := G.jn.1
  obtain ⟨a9, b9, e16, e17, e45, d4, e18, w20⟩ := G.je e he
  have ce : (nI e).toNatClampNeg = e := nI_clamp (by omega)
  have iv := pk_in e 21 (show e < 21 by omega)
  obtain ⟨x1, x2, x3⟩ := ax_n (D e) d4
  have r16 : τ 16 (nI e).toNatClampNeg = nI (ja e) := by rw [ce, I.1 16 (by omega) (by omega)]; exact e16
  have r17 : τ 17 (nI e).toNatClampNeg = nI (jb e) := by rw [ce, I.1 17 (by omega) (by omega)]; exact e17
  have r45 : τ 45 (nI e).toNatClampNeg = nI (D e) := by rw [ce, I.1 45 (by omega) (by omega)]; exact e45
  have e74 : f_74 τ (nI e) = nI (D e / 2) := by unfold f_74; rw [r45]; exact x1
  obtain ⟨a, ea⟩ : ∃ a, a = D e / 2 := ⟨_, rfl⟩
  rw [← ea] at e74 x2 q
  have p2 : nI a + (2 : Int32) = nI (a + 2) := nI_add a 2
  -- both raisings, for a low and a high room
  have two : ∀ (x3 : Int32) lo hi, lo < 9 → hi < 9 → lowr D ja jb e = lo → higr D ja jb e = hi → mD (d + 1) 73 [.ref 8, .int (nI lo), .int (nI a + (2 : Int32)), .int (nI (v (4 * hi + a)))] τ (fun u τ => mw (d + 1) mt_75 Q 98 [some (.ref 8), some (.int (nI e)), some (.int (nI a)), some (.int x3), some (.int (nI lo)), some (.int (nI hi))] (u.toList ++ []) τ) := fun x3 lo hi l9 h9 el eh => by
    rw [el, eh] at q
    have s1 := G.ls.1 (4 * hi + a) (4 * lo + a + 2) 0 (Or.inl ⟨e, he, rfl, Or.inl ⟨by rw [eh, ea], by rw [el, ea]⟩⟩)
    have s2 := G.ls.1 (4 * lo + a + 2) (4 * hi + a) 0 (Or.inl ⟨e, he, rfl, Or.inr ⟨by rw [el, ea], by rw [eh, ea]⟩⟩)
    have b1 := (I.2.2.1 (4 * hi + a)).2
    rw [p2]
    refine c_73v G.bd I l9 (by omega) (show v (4 * hi + a) ≤ V (4 * lo + (a + 2)) by rw [← Nat.add_assoc]; omega) (fun τ1 v1 I1 m1 w1 z1 => kb_75_98 (pk_in lo 9 l9) (by rw [p2]; exact pk_in (a + 2) 4 (by omega)) ?_)
    rw [p2, nI_clamp (show lo < 2 ^ 31 by omega), nI_clamp (show a + 2 < 2 ^ 31 by omega), I1.2.1 lo (a + 2) l9 (by omega)]
    have b2 := (I1.2.2.1 (4 * lo + (a + 2))).2
    refine c_73v G.bd I1 h9 (by omega) (show v1 (4 * lo + (a + 2)) ≤ V (4 * hi + a) by rw [← Nat.add_assoc] at b2 ⊢; omega) (fun τ2 v2 I2 m2 w2 z2 => kb_75_116 (q τ2 v2 I2 (fun x => Nat.le_trans (m1 x) (m2 x)) ?_ ?_ (z2.trans z1)))
    · have y1 := (I.2.2.1 (4 * hi + a)).1
      have y2 := m2 (4 * lo + (a + 2))
      rw [← Nat.add_assoc] at y2 w1
      omega
    · have y1 := (I1.2.2.1 (4 * lo + (a + 2))).1
      rw [← Nat.add_assoc] at y1 w2
      omega
  refine ke_75 (kb_75_0 (c_74 iv ?_))
  rw [e74]
  have rd : ∀ hi, hi < 9 → τ (62 + 1 + (nI hi).toNatClampNeg) (nI a).toNatClampNeg = nI (v (4 * hi + a)) := fun hi h9 => by
    rw [nI_clamp (show hi < 2 ^ 31 by omega), nI_clamp (show a < 2 ^ 31 by omega)]; exact I.2.1 hi a h9 (by omega)
  refine kb_75_5 iv (fun z => kb_75_20 (fun z => absurd z (by decide)) (fun _ => kb_75_30 iv (fun z => absurd z (by decide)) (fun _ => kb_75_57 iv (by rw [r17]; exact pk_in _ 9 b9) (pk_in a 4 (by omega)) ?_))) (fun z => kb_75_24 (fun _ => kb_75_42 iv (fun _ => kb_75_69 iv (by rw [r16]; exact pk_in _ 9 a9) (pk_in a 4 (by omega)) ?_) (fun z => absurd rfl z)) (fun z => absurd rfl z))
  · rw [r45] at z
    have ev := (and1_n (D e) d4).mp z
    rw [r16, r17, rd _ b9]
    exact two _ (ja e) (jb e) a9 b9 (by unfold lowr; rw [if_pos ev]) (by unfold higr; rw [if_pos ev])
  · rw [r45] at z
    have ev : ¬ D e % 2 = 0 := fun y => z ((and1_n (D e) d4).mpr y)
    rw [r16, r17, rd _ a9]
    exact two _ (jb e) (ja e) b9 a9 (by unfold lowr; rw [if_neg ev]) (by unfold higr; rw [if_neg ev])
theorem c_76v {d e : Nat} {Q : mm_Q} {τ : mm_S} {v0 v : Nat → Nat} (G : PGv τ0 rm n D ja jb wsh wid hgt K V) (I : RIv τ0 V v0 τ v) (he : e < n) (q : ∀ τ' v', RIv τ0 V v0 τ' v' → (∀ x, v x ≤ v' x) → (∀ X Y, (X = ja e ∨ X = jb e) → (Y = ja e ∨ Y = jb e) → v0 (4 * X + (1 - D e / 2)) + wsh e ≤ v' (4 * Y + (1 - D e / 2) + 2)) → τ' 72 = τ 72 → Q none τ') : mD (d + 3) 76 [.ref 8, .int (nI e)] τ Q := by
  have n21 := G.jn.1
  obtain ⟨a9, b9, e16, e17, e45, d4, e18, w20⟩ := G.je e he
  have ce : (nI e).toNatClampNeg = e := nI_clamp (by omega)
  have iv := pk_in e 21 (show e < 21 by omega)
  obtain ⟨x1, x2, x3⟩ := ax_n (D e) d4
  have r16 : τ 16 (nI e).toNatClampNeg = nI (ja e) := by rw [ce, I.1 16 (by omega) (by omega)]; exact e16
  have r17 : τ 17 (nI e).toNatClampNeg = nI (jb e) := by rw [ce, I.1 17 (by omega) (by omega)]; exact e17
  have r18 : τ 18 (nI e).toNatClampNeg = nI (wsh e) := by rw [ce, I.1 18 (by omega) (by omega)]; exact e18
  have r45 : τ 45 (nI e).toNatClampNeg = nI (D e) := by rw [ce, I.1 45 (by omega) (by omega)]; exact e45
  have e74 : f_74 τ (nI e) = nI (D e / 2) := by unfold f_74; rw [r45]; exact x1
  obtain ⟨a, ea⟩ : ∃ a, a = 1 - D e / 2 := ⟨_, rfl⟩
  rw [← ea] at q x3
  have a2 : a < 2 := by omega
  have p2 : nI a + (2 : Int32) = nI (a + 2) := nI_add a 2
  have vA := (I.2.2.1 (4 * ja e + a))
  have vB := (I.2.2.1 (4 * jb e + a))
  have bA := G.bd (4 * ja e + a)
  have bB := G.bd (4 * jb e + a)
  -- where the wall begins
  obtain ⟨w, hw⟩ : ∃ w, w = if v (4 * ja e + a) < v (4 * jb e + a) then v (4 * jb e + a) else v (4 * ja e + a) := ⟨_, rfl⟩
  have e78 : f_78 τ (nI e) = nI w := by
    unfold f_78
    rw [e74, x3, r16, r17, nI_clamp (show ja e < 2 ^ 31 by omega), nI_clamp (show jb e < 2 ^ 31 by omega), nI_clamp (show a < 2 ^ 31 by omega), I.2.1 _ a a9 (by omega), I.2.1 _ a b9 (by omega), hw]
    by_cases c : v (4 * ja e + a) < v (4 * jb e + a)
    · rw [if_pos c, if_pos ((nI_ltI (by omega) (by omega)).mpr c)]
    · rw [if_neg c, if_neg (fun z => c ((nI_ltI (by omega) (by omega)).mp z))]
  have wge : v (4 * ja e + a) ≤ w ∧ v (4 * jb e + a) ≤ w ∧ (w = v (4 * ja e + a) ∨ w = v (4 * jb e + a)) := by rw [hw]; split <;> omega
  have top : ∀ Y, (Y = ja e ∨ Y = jb e) → w + wsh e ≤ V (4 * Y + (a + 2)) := fun Y hY => by
    have s1 := G.ls.1 (4 * ja e + a) (4 * Y + a + 2) (wsh e) (Or.inr (Or.inl ⟨e, ja e, Y, he, rfl, Or.inl rfl, hY, by rw [ea], by rw [ea]⟩))
    have s2 := G.ls.1 (4 * jb e + a) (4 * Y + a + 2) (wsh e) (Or.inr (Or.inl ⟨e, jb e, Y, he, rfl, Or.inr rfl, hY, by rw [ea], by rw [ea]⟩))
    rw [← Nat.add_assoc]
    rcases wge.2.2 with z | z <;> omega
  refine ke_76 (kb_76_0 (c_74 iv ?_))
  rw [e74]
  refine kb_76_6 ?_
  rw [x3]
  refine c_78 iv (by rw [r16]; exact pk_in _ 9 a9) (by rw [e74, x3]; exact pk_in a 4 (by omega)) (by rw [r17]; exact pk_in _ 9 b9) ?_
  rw [e78]
  refine kb_76_13 iv iv ?_
  rw [r16, r18, p2, nI_add]
  refine c_73v G.bd I a9 (by omega) (top _ (Or.inl rfl)) (fun τ1 v1 I1 m1 w1 z1 => kb_76_41 iv ?_)
  have r17' : τ1 17 (nI e).toNatClampNeg = nI (jb e) := by rw [ce, I1.1 17 (by omega) (by omega)]; exact e17
  rw [r17', p2]
  refine c_73v G.bd I1 b9 (by omega) (top _ (Or.inr rfl)) (fun τ2 v2 I2 m2 w2 z2 => kb_76_58 (q τ2 v2 I2 (fun x => Nat.le_trans (m1 x) (m2 x)) (fun X Y hX hY => ?_) (z2.trans z1)))
  have y1 := m2 (4 * ja e + (a + 2))
  have lowX : v0 (4 * X + a) ≤ w := by
    rcases hX with z | z <;> rw [z] <;> omega
  rcases hY with z | z <;> rw [z, Nat.add_assoc] <;> omega
theorem c_77v {d x s : Nat} {Q : mm_Q} {τ : mm_S} {v0 v : Nat → Nat} (G : PGv τ0 rm n D ja jb wsh wid hgt K V) (I : RIv τ0 V v0 τ v) (hx : x < 2) (s4 : s < 4) (up : ∀ i j, neS K s i → neS K s j → V (4 * i + (x + 2)) ≤ V (4 * j + (x + 2))) (q : ∀ τ' v' most, RIv τ0 V v0 τ' v' → (∀ x, v x ≤ v' x) → (∀ i j, neS K s i → neS K s j → v0 (4 * i + (x + 2)) ≤ v' (4 * j + (x + 2))) → τ' 72 x = nI most → (∀ j, j ≠ x → τ' 72 j = τ 72 j) → (∀ i, neS K s i → v (4 * i + (x + 2)) ≤ most) → ((most = 0 ∧ ∀ i, ¬ neS K s i) ∨ ∃ i, neS K s i ∧ most = v (4 * i + (x + 2))) → Q none τ') : mD (d + 3) 77 [.ref 8, .int (nI x), .int (nI s)] τ Q := by
  have x2 : nI x + (2 : Int32) = nI (x + 2) := nI_add x 2
  have near : ∀ ρ, PI τ0 ρ → ∀ i, i < 9 → (f_53 ρ (nI i) (nI s) = 0 ↔ ¬ neS K s i) := fun ρ P i hi => by
    have := f_53_b (τ := ρ) (r := i) (s := s) (K := K) (by omega) s4 (by rw [P 44 (by omega) (by omega)]; exact G.kn i (by omega))
    rw [this]
    unfold neS
    cases (K i).testBit (9 + s) with
    | true => exact ⟨fun z => absurd z (by decide), fun z => absurd ⟨hi, rfl⟩ z⟩
    | false => exact ⟨fun _ z => absurd z.2 (by decide), fun _ => rfl⟩
  have bV : ∀ i, v (4 * i + (x + 2)) ≤ 4050 := fun i => Nat.le_trans (I.2.2.1 _).2 (G.bd _)
  refine ke_77 (kb_77_0 ?_)
  have key := lp_dn (P := fun i => ∀ y, (∀ j, j < i → neS K s j → v (4 * j + (x + 2)) ≤ y) → ((y = 0 ∧ ∀ j, j < i → ¬ neS K s j) ∨ ∃ j, j < i ∧ neS K s j ∧ y = v (4 * j + (x + 2))) → mw (d + 2) mt_77 Q 5 [some (.ref 8), some (.int (nI x)), some (.int (nI s)), some (.int (nI y)), some (.int (nI i))] [] τ) 9 ?_ ?_ 0 (by omega) 0 (fun j hj => absurd hj (Nat.not_lt_zero j)) (Or.inl ⟨rfl, fun j hj => absurd hj (Nat.not_lt_zero j)⟩)
  · exact key
  · intro y h1 h2
    refine kb_77_5 (fun _ => kb_77_47 ?_) (fun g => absurd (by decide) g)
    have y4 : y ≤ 4050 := by
      rcases h2 with ⟨z, _⟩ | ⟨j, _, _, z⟩
      · omega
      · rw [z]; exact bV j
    have yV : ∀ i, neS K s i → y ≤ V (4 * i + (x + 2)) := fun i hi => by
      rcases h2 with ⟨z, _⟩ | ⟨j, _, hj, z⟩
      · omega
      · have := up j i hj hi
        have := (I.2.2.1 (4 * j + (x + 2))).2
        omega
    have key2 := lp_dn (P := fun i => ∀ ρ u, RIv τ0 V v0 ρ u → (∀ x, v x ≤ u x) → (∀ j, j < i → neS K s j → y ≤ u (4 * j + (x + 2))) → ρ 72 = τ 72 → mw (d + 2) mt_77 Q 50 [some (.ref 8), some (.int (nI x)), some (.int (nI s)), some (.int (nI y)), some (.int (nI i))] [] ρ) 9 ?_ ?_ 0 (by omega) τ v I (fun _ => Nat.le_refl _) (fun j hj => absurd hj (Nat.not_lt_zero j)) rfl
    · exact key2
    · intro ρ u Iu mu hu z72
      refine kb_77_50 (fun _ => kb_77_86 (pk_in x 2 hx) (q _ u y ⟨PI_up Iu.1 (by omega), fun i p hi hp => by rw [mm_up_n (by omega)]; exact Iu.2.1 i p hi hp, Iu.2.2.1, by rw [mm_up_n (by decide)]; exact Iu.2.2.2⟩ mu (fun i j hi hj => ?_) (by rw [nI_clamp (show x < 2 ^ 31 by omega)]; exact mm_up_s) (fun j hj => by rw [nI_clamp (show x < 2 ^ 31 by omega), mm_up_o hj, z72]) (fun i hi => h1 i hi.1 hi) ?_)) (fun g => absurd (by decide) g)
      · have a1 := hu j hj.1 hj
        have a2 := h1 i hi.1 hi
        have a3 := (I.2.2.1 (4 * i + (x + 2))).1
        omega
      · rcases h2 with ⟨z, w⟩ | ⟨j, _, hj, z⟩
        · exact Or.inl ⟨z, fun i hi => w i hi.1 hi⟩
        · exact Or.inr ⟨j, hj, z⟩
    · intro i hi ih ρ u Iu mu hu z72
      refine kb_77_50 (fun g => absurd g (hI_nle (a := 9) (by omega) hi)) (fun _ => kb_77_57 (c_53 (pk_in i 13 (by omega)) (kb_77_67 (fun z => kb_77_80 ?_) (fun z => kb_77_70 ?_))))
      · rw [nI_1]
        have no := (near ρ Iu.1 i hi).mp z
        exact ih ρ u Iu mu (fun j hj hn => by
          by_cases c : j = i
          · rw [c] at hn; exact absurd hn no
          · exact hu j (by omega) hn) z72
      · have yes : neS K s i := Classical.not_not.mp (fun y => z ((near ρ Iu.1 i hi).mpr y))
        rw [x2]
        refine c_73v G.bd Iu hi (by omega) (yV i yes) (fun ρ' u' I' m' w' z' => kb_77_80 ?_)
        rw [nI_1]
        exact ih ρ' u' I' (fun x => Nat.le_trans (mu x) (m' x)) (fun j hj hn => by
          by_cases c : j = i
          · rw [c]; exact w'
          · exact Nat.le_trans (hu j (by omega) hn) (m' _)) (z'.trans z72)
  · intro i hi ih y h1 h2
    have y4 : y ≤ 4050 := by
      rcases h2 with ⟨z, _⟩ | ⟨j, _, _, z⟩
      · omega
      · rw [z]; exact bV j
    refine kb_77_5 (fun g => absurd g (hI_nle (a := 9) (by omega) hi)) (fun _ => kb_77_12 (c_53 (pk_in i 13 (by omega)) (kb_77_22 (fun z => kb_77_41 ?_) (fun z => kb_77_25 (pk_in i 9 hi) (by rw [x2]; exact pk_in (x + 2) 4 (by omega)) (c_151 (kb_77_40 ?_))))))
    · rw [nI_1]
      have no := (near τ I.1 i hi).mp z
      refine ih y (fun j hj hn => ?_) ?_
      · by_cases c : j = i
        · rw [c] at hn; exact absurd hn no
        · exact h1 j (by omega) hn
      · rcases h2 with ⟨u, w⟩ | ⟨j, hj, hn, u⟩
        · exact Or.inl ⟨u, fun j hj hn => by
            by_cases c : j = i
            · rw [c] at hn; exact no hn
            · exact w j (by omega) hn⟩
        · exact Or.inr ⟨j, by omega, hn, u⟩
    · have yes : neS K s i := Classical.not_not.mp (fun y => z ((near τ I.1 i hi).mpr y))
      have b := bV i
      rw [nI_1, x2, nI_clamp (show i < 2 ^ 31 by omega), nI_clamp (show x + 2 < 2 ^ 31 by omega), I.2.1 i (x + 2) hi (by omega)]
      by_cases c : y < v (4 * i + (x + 2))
      · rw [if_pos ((nI_ltI (by omega) (by omega)).mpr c)]
        refine ih _ (fun j hj hn => ?_) (Or.inr ⟨i, by omega, yes, rfl⟩)
        by_cases e : j = i
        · rw [e]; exact Nat.le_refl _
        · have := h1 j (by omega) hn; omega
      · rw [if_neg (fun z => c ((nI_ltI (by omega) (by omega)).mp z))]
        refine ih _ (fun j hj hn => ?_) ?_
        · by_cases e : j = i
          · rw [e]; omega
          · exact h1 j (by omega) hn
        · rcases h2 with ⟨u, w⟩ | ⟨j, hj, hn, u⟩
          · exact Or.inr ⟨i, by omega, yes, by omega⟩
          · exact Or.inr ⟨j, by omega, hn, u⟩
/-- what settle leaves: the least places, the house's size -/
def PLF (rm : Nat → Prop) (K V : Nat → Nat) (τ : mm_S) : Prop := (∀ i p, i < 9 → p < 4 → τ (62 + 1 + i) p = nI (V (4 * i + p))) ∧ (∀ i, neS K 1 i → τ 72 0 = nI (V (4 * i + 2))) ∧ ∀ i, neS K 0 i → τ 72 1 = nI (V (4 * i + 3))
theorem c_72v {d : Nat} {Q : mm_Q} (G : PGv τ0 rm n D ja jb wsh wid hgt K V) (q : ∀ τ', PI τ0 τ' → PLF rm K V τ' → Q none τ') : mD (d + 4) 72 [.ref 8] τ0 Q := by
  have n21 := G.jn.1
  refine ke_72 (kb_72_0 ?_)
  refine lp_dn (P := fun i => ∀ ρ, PI τ0 ρ → (∀ i' p, i' < i → p < 4 → ρ (62 + 1 + i') p = 0) → ∀ o2, mw (d + 3) mt_72 Q 2 [some (.ref 8), some (.int (nI i)), o2] [] ρ) 9 ?_ ?_ 0 (by omega) τ0 (fun _ _ _ => rfl) (fun i' p h => absurd h (Nat.not_lt_zero i')) none
  · intro ρ I z o2
    refine kb_72_2 (fun _ => kb_72_36 ?_) (fun g => absurd (by decide) g)
    have fin : ∀ (ρ : mm_S) (v : Nat → Nat), PI τ0 ρ → (∀ i p, i < 9 → p < 4 → ρ (62 + 1 + i) p = nI (v (4 * i + p))) → (∀ x, x < 36 → v x = V x) → (∀ i, neS K 1 i → ρ 72 0 = nI (v (4 * i + 2))) → (∀ i, neS K 0 i → ρ 72 1 = nI (v (4 * i + 3))) → Q none ρ := fun ρ v I pv e h0 h1 => q ρ I ⟨fun i p hi hp => by rw [pv i p hi hp, e _ (by omega)], fun i hi => by have := hi.1; rw [h0 i hi, e _ (by omega)], fun i hi => by have := hi.1; rw [h1 i hi, e _ (by omega)]⟩
    refine lp_dn (P := fun k => ∀ (ρ : mm_S) (v : Nat → Nat), PI τ0 ρ → (∀ i p, i < 9 → p < 4 → ρ (62 + 1 + i) p = nI (v (4 * i + p))) → (∀ x, v x ≤ V x) → (∀ x, 36 ≤ x → v x = V x) → ((ρ 8 2 = 0 ∧ (∀ x, x < 36 → v x = V x) ∧ (∀ i, neS K 1 i → ρ 72 0 = nI (v (4 * i + 2))) ∧ ∀ i, neS K 0 i → ρ 72 1 = nI (v (4 * i + 3))) ∨ (ρ 8 2 = 1 ∧ k ≤ stl V v)) → ∀ o2, mw (d + 3) mt_72 Q 43 [some (.ref 8), some (.int (nI k)), o2] [] ρ) 100 ?_ ?_ 0 (by omega) _ (fun x => if x < 36 then 0 else V x) (PI_up I (by omega)) (fun i p hi hp => by rw [mm_up_n (by omega), z i p hi hp, if_pos (by omega)]; rfl) (fun x => by split <;> omega) (fun x hx => if_neg (by omega)) (Or.inr ⟨mm_up_s, Nat.zero_le _⟩) o2
    · intro ρ v I pv le dom h o2
      refine kb_72_43 (fun _ => kb_72_181 ?_) (fun g => absurd (by decide) g)
      rcases h with ⟨_, h1, h2, h3⟩ | ⟨_, h⟩
      · exact fin ρ v I pv h1 h2 h3
      · have := ct_n (P := fun x => v x = V x) 36
        unfold stl at h
        omega
    · intro k hk ih ρ v I pv le dom h o2
      refine kb_72_43 (fun g => absurd g (hI_nle (a := 100) (by omega) hk)) (fun _ => kb_72_49 (fun y => kb_72_181 ?_) (fun y => kb_72_56 ?_))
      · rcases h with ⟨_, h1, h2, h3⟩ | ⟨h, _⟩
        · exact fin ρ v I pv h1 h2 h3
        · rw [h] at y; exact absurd y (by decide)
      have hk' : k ≤ stl V v := by
        rcases h with ⟨h, _⟩ | ⟨_, h⟩
        · exact absurd h y
        · exact h
      have R0 : RIv τ0 V v (mm_up ρ 8 2 0) v := ⟨PI_up I (by omega), fun i p hi hp => by rw [mm_up_n (by omega)]; exact pv i p hi hp, fun x => ⟨Nat.le_refl _, le x⟩, Or.inl ⟨mm_up_s, fun _ => rfl⟩⟩
      refine lp_dn (P := fun e => ∀ ρ u, RIv τ0 V v ρ u → (∀ e', e' < e → (v (4 * higr D ja jb e' + D e' / 2) ≤ u (4 * lowr D ja jb e' + D e' / 2 + 2) ∧ v (4 * lowr D ja jb e' + D e' / 2 + 2) ≤ u (4 * higr D ja jb e' + D e' / 2)) ∧ ∀ X Y, (X = ja e' ∨ X = jb e') → (Y = ja e' ∨ Y = jb e') → v (4 * X + (1 - D e' / 2)) + wsh e' ≤ u (4 * Y + (1 - D e' / 2) + 2)) → mw (d + 3) mt_72 Q 63 [some (.ref 8), some (.int (nI k)), some (.int (nI e))] [] ρ) n ?_ ?_ 0 (Nat.zero_le n) _ v R0 (fun e h => absurd h (Nat.not_lt_zero e))
      · intro ρ u R he
        have e12 : ρ 1 12 = nI n := by rw [R.1 1 (by omega) (by omega)]; exact G.jn.2
        refine kb_72_63 (fun _ => kb_72_90 ?_) (fun g => absurd (by rw [e12]; exact hI_le (by omega) (Nat.le_refl n)) g)
        refine lp_dn (P := fun i => ∀ ρ u', RIv τ0 V v ρ u' → (∀ x, u x ≤ u' x) → (∀ j, j < i → rm j → v (4 * j) + wid j ≤ u' (4 * j + 2) ∧ v (4 * j + 1) + hgt j ≤ u' (4 * j + 3)) → mw (d + 3) mt_72 Q 92 [some (.ref 8), some (.int (nI k)), some (.int (nI i))] [] ρ) 9 ?_ ?_ 0 (by omega) ρ u R (fun _ => Nat.le_refl _) (fun j h => absurd h (Nat.not_lt_zero j))
        · intro ρ u' R' mu hr
          refine kb_72_92 (fun _ => kb_72_163 (c_77v (x := 0) (s := 1) G R' (by decide) (by decide) (fun i j hi hj => ?_) (fun τ1 v1 m0 R1 mo1 d1 s1 _ g1 p1 => kb_72_169 (c_77v (x := 1) (s := 0) G R1 (by decide) (by decide) (fun i j hi hj => ?_) (fun τ2 v2 m1 R2 mo2 d2 s2 k2 g2 p2 => kb_72_175 ?_))))) (fun g => absurd (by decide) g)
          · have := G.ls.1 (4 * i + 2) (4 * j + 2) 0 (Or.inr (Or.inr (Or.inr ⟨i, j, rfl, Or.inl ⟨hi, hj, rfl, rfl⟩⟩)))
            exact this
          · have := G.ls.1 (4 * i + 3) (4 * j + 3) 0 (Or.inr (Or.inr (Or.inr ⟨i, j, rfl, Or.inr ⟨hi, hj, rfl, rfl⟩⟩)))
            exact this
          · rw [nI_1]
            have up2 : ∀ x, u x ≤ v2 x := fun x => Nat.le_trans (mu x) (Nat.le_trans (mo1 x) (mo2 x))
            have RD : RND1 (CSt rm n D ja jb wsh wid hgt (neS K 1) (neS K 0)) V v v2 := by
              refine ⟨R2.2.2.1, fun x y c hc => ?_⟩
              rcases hc with ⟨e, hen, hc, h⟩ | ⟨e, X, Y, hen, hc, hX, hY, ex, ey⟩ | ⟨i, hi, h⟩ | ⟨i, j, hc, h⟩
              · obtain ⟨⟨y1, y2⟩, _⟩ := he e hen
                subst hc
                rcases h with ⟨ex, ey⟩ | ⟨ex, ey⟩ <;> rw [ex, ey]
                · exact Nat.le_trans y1 (up2 _)
                · exact Nat.le_trans y2 (up2 _)
              · rw [ex, ey, hc]
                exact Nat.le_trans ((he e hen).2 X Y hX hY) (up2 _)
              · rcases Nat.lt_or_ge i 9 with i9 | i9
                · obtain ⟨y1, y2⟩ := hr i i9 hi
                  rcases h with ⟨hc, ex, ey⟩ | ⟨hc, ex, ey⟩ <;> rw [hc, ex, ey]
                  · exact Nat.le_trans y1 (Nat.le_trans (mo1 _) (mo2 _))
                  · exact Nat.le_trans y2 (Nat.le_trans (mo1 _) (mo2 _))
                · have w1 := dom x (by rcases h with ⟨_, ex, _⟩ | ⟨_, ex, _⟩ <;> omega)
                  have w2 := dom y (by rcases h with ⟨_, _, ey⟩ | ⟨_, _, ey⟩ <;> omega)
                  have w3 := G.ls.1 x y c (Or.inr (Or.inr (Or.inl ⟨i, hi, h⟩)))
                  have w4 := (R2.2.2.1 y).1
                  omega
              · subst hc
                rcases h with ⟨h1, h2, ex, ey⟩ | ⟨h1, h2, ex, ey⟩ <;> rw [ex, ey]
                · exact Nat.le_trans (d1 i j h1 h2) (mo2 _)
                · exact d2 i j h1 h2
            have su := stl_up G.ls RD le dom
            have dom2 : ∀ x, 36 ≤ x → v2 x = V x := fun x hx => by have := R2.2.2.1 x; have := dom x hx; omega
            refine ih τ2 v2 R2.1 R2.2.1 (fun x => (R2.2.2.1 x).2) dom2 ?_ _
            rcases R2.2.2.2 with ⟨f0, same⟩ | ⟨f1, x, lt⟩
            · left
              have sol : Sol (CSt rm n D ja jb wsh wid hgt (neS K 1) (neS K 0)) v2 := fun x y c hc => by rw [same x]; exact RD.2 x y c hc
              have eq : ∀ x, v2 x = V x := fun x => by have a := G.ls.2 v2 sol x; have b := (R2.2.2.1 x).2; omega
              have eqv : ∀ x, v x = V x := fun x => by rw [← same x]; exact eq x
              have eq1 : ∀ x, v1 x = V x := fun x => by have a := (R1.2.2.1 x); have b := eqv x; omega
              have equ : ∀ x, u' x = V x := fun x => by have a := (R'.2.2.1 x); have b := eqv x; omega
              refine ⟨f0, fun x _ => eq x, fun i hi => ?_, fun i hi => ?_⟩
              · rw [k2 0 (by decide), s1]
                congr 1
                rcases p1 with ⟨_, no⟩ | ⟨j, hj, e⟩
                · exact absurd hi (no i)
                · have a := g1 i hi
                  rw [e] at a ⊢
                  rw [equ, eq]
                  rw [equ, equ] at a
                  have b := G.ls.1 (4 * j + 2) (4 * i + 2) 0 (Or.inr (Or.inr (Or.inr ⟨j, i, rfl, Or.inl ⟨hj, hi, rfl, rfl⟩⟩)))
                  show V (4 * j + (0 + 2)) = V (4 * i + 2)
                  have a' : V (4 * i + 2) ≤ V (4 * j + 2) := a
                  show V (4 * j + 2) = V (4 * i + 2)
                  omega
              · rw [s2]
                congr 1
                rcases p2 with ⟨_, no⟩ | ⟨j, hj, e⟩
                · exact absurd hi (no i)
                · have a := g2 i hi
                  rw [e] at a ⊢
                  rw [eq1, eq]
                  rw [eq1, eq1] at a
                  have b := G.ls.1 (4 * j + 3) (4 * i + 3) 0 (Or.inr (Or.inr (Or.inr ⟨j, i, rfl, Or.inr ⟨hj, hi, rfl, rfl⟩⟩)))
                  have a' : V (4 * i + 3) ≤ V (4 * j + 3) := a
                  show V (4 * j + 3) = V (4 * i + 3)
                  omega
            · right
              refine ⟨f1, ?_⟩
              rcases su with s36 | s36
              · -- all settled before: nothing could be raised
                rcases Nat.lt_or_ge (stl V v) 36 with y | y
                · omega
                · exfalso
                  have := ct_n (P := fun x => v x = V x) 36
                  have full := stl_full (V := V) (v := v) (by unfold stl at *; omega)
                  have a := (R2.2.2.1 x).2
                  rcases Nat.lt_or_ge x 36 with w | w
                  · have := full x w; omega
                  · have := dom x w; omega
              · omega
        · intro i hi ihi ρ u' R' mu hr
          have cd : xd ρ (nI i) = xd τ0 (nI i) := by rw [xd_cg (R'.1 1 (by omega) (by omega))]
          have ci : (nI i).toNatClampNeg = i := nI_clamp (by omega)
          have c0 : (0 : Int32).toNatClampNeg = 0 := by decide
          have c1 : (1 : Int32).toNatClampNeg = 1 := by decide
          refine kb_72_92 (fun g => absurd g (hI_nle (a := 9) (by omega) hi)) (fun _ => kb_72_98 (c_7 (kb_72_106 (fun z => kb_72_157 ?_) (fun z => kb_72_109 (pk_in i 9 hi) (pk_in 0 4 (by decide)) (pk_in i 9 hi) ?_))))
          · rw [nI_1]
            rw [cd] at z
            refine ihi ρ u' R' mu (fun j hj hrj => ?_)
            by_cases c : j = i
            · subst c
              have := (G.rm j hi).mpr hrj
              rw [z] at this; exact absurd this (by decide)
            · exact hr j (by omega) hrj
          · rw [cd] at z
            have x01 : xd τ0 (nI i) = 0 ∨ xd τ0 (nI i) = 1 := xd_01 τ0 (nI i)
            have hrm : rm i := (G.rm i hi).mp (x01.resolve_left z)
            obtain ⟨w1, w2, w3, w4⟩ := G.wd i hi hrm
            have bu : ∀ x, u' x ≤ 4050 := fun x => Nat.le_trans (R'.2.2.1 x).2 (G.bd x)
            have s1 := G.ls.1 (4 * i) (4 * i + 2) (wid i) (Or.inr (Or.inr (Or.inl ⟨i, hrm, Or.inl ⟨rfl, rfl, rfl⟩⟩)))
            have s2 := G.ls.1 (4 * i + 1) (4 * i + 3) (hgt i) (Or.inr (Or.inr (Or.inl ⟨i, hrm, Or.inr ⟨rfl, rfl, rfl⟩⟩)))
            rw [ci, c0, R'.2.1 i 0 hi (by decide), R'.1 13 (by omega) (by omega), w1, nI_add]
            have t1 := R'.2.2.1 (4 * i)
            refine c_73v (p := 2) G.bd R' hi (by decide) (show u' (4 * i + 0) + wid i ≤ V (4 * i + 2) by rw [Nat.add_zero]; omega) (fun ρ1 u1 R1 m1 y1 _ => kb_72_133 (pk_in i 9 hi) (pk_in 1 4 (by decide)) (pk_in i 9 hi) ?_)
            rw [ci, c1, R1.2.1 i 1 hi (by decide), R1.1 14 (by omega) (by omega), w2, nI_add]
            have t2 := R1.2.2.1 (4 * i + 1)
            refine c_73v (p := 3) G.bd R1 hi (by decide) (show u1 (4 * i + 1) + hgt i ≤ V (4 * i + 3) by omega) (fun ρ2 u2 R2 m2 y2 _ => kb_72_157 ?_)
            rw [nI_1]
            refine ihi ρ2 u2 R2 (fun x => Nat.le_trans (mu x) (Nat.le_trans (m1 x) (m2 x))) (fun j hj hrj => ?_)
            by_cases c : j = i
            · subst c
              rw [Nat.add_zero] at y1
              have a1 := m2 (4 * j + 2)
              exact ⟨by omega, by omega⟩
            · obtain ⟨b1, b2⟩ := hr j (by omega) hrj
              exact ⟨Nat.le_trans b1 (Nat.le_trans (m1 _) (m2 _)), Nat.le_trans b2 (Nat.le_trans (m1 _) (m2 _))⟩
      · intro e he ihe ρ u R h
        have e12 : ρ 1 12 = nI n := by rw [R.1 1 (by omega) (by omega)]; exact G.jn.2
        refine kb_72_63 (fun g => absurd g (by rw [e12]; exact hI_nle (by omega) he)) (fun _ => kb_72_74 (c_75v G R he (fun τ1 v1 R1 m1 a1 a2 _ => kb_72_79 (c_76v G R1 he (fun τ2 v2 R2 m2 a3 _ => kb_72_84 ?_)))))
        rw [nI_1]
        refine ihe τ2 v2 R2 (fun e' he' => ?_)
        by_cases c : e' = e
        · subst c
          exact ⟨⟨Nat.le_trans a1 (m2 _), Nat.le_trans a2 (m2 _)⟩, a3⟩
        · obtain ⟨⟨b1, b2⟩, b3⟩ := h e' (by omega)
          exact ⟨⟨Nat.le_trans b1 (Nat.le_trans (m1 _) (m2 _)), Nat.le_trans b2 (Nat.le_trans (m1 _) (m2 _))⟩, fun X Y hX hY => Nat.le_trans (b3 X Y hX hY) (Nat.le_trans (m1 _) (m2 _))⟩
  · intro i hi ih ρ I z o2
    refine kb_72_2 (fun g => absurd g (hI_nle (a := 9) (by omega) hi)) (fun _ => kb_72_8 ?_)
    refine lp_dn (P := fun p => ∀ ρ, PI τ0 ρ → (∀ i' p', i' < i → p' < 4 → ρ (62 + 1 + i') p' = 0) → (∀ p', p' < p → ρ (62 + 1 + i) p' = 0) → mw (d + 3) mt_72 Q 10 [some (.ref 8), some (.int (nI i)), some (.int (nI p))] [] ρ) 4 ?_ ?_ 0 (by omega) ρ I z (fun p' h => absurd h (Nat.not_lt_zero p'))
    · intro ρ I z zi
      refine kb_72_10 (fun _ => kb_72_30 ?_) (fun g => absurd (by decide) g)
      rw [nI_1]
      exact ih ρ I (fun i' p' h1 h2 => by
        by_cases c : i' = i
        · rw [c]; exact zi p' h2
        · exact z i' p' (by omega) h2) _
    · intro p hp ihp ρ I z zi
      refine kb_72_10 (fun g => absurd g (hI_nle (a := 4) (by omega) hp)) (fun _ => kb_72_15 (pk_in i 9 hi) (pk_in p 4 hp) ?_)
      rw [nI_1, nI_clamp (show i < 2 ^ 31 by omega), nI_clamp (show p < 2 ^ 31 by omega)]
      refine ihp _ (PI_up I (by omega)) (fun i' p' h1 h2 => by rw [mm_up_n (by omega)]; exact z i' p' h1 h2) (fun p' h => ?_)
      by_cases c : p' = p
      · rw [c]; exact mm_up_s
      · rw [mm_up_o c]; exact zi p' (by omega)
end CPL
end

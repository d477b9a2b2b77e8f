-- the reference's sortAround sorts
def OTr (σ : mm_S) (n r : Nat) : Prop := (∀ k l, k < n → l < n → em σ r k → em σ r l → k ≠ l → f_103 σ (nI k) (nI l) (nI r) = 1 ∨ f_103 σ (nI l) (nI k) (nI r) = 1) ∧ (∀ j k l, j < n → k < n → l < n → em σ r j → em σ r k → em σ r l → f_103 σ (nI j) (nI k) (nI r) = 1 → f_103 σ (nI k) (nI l) (nI r) = 1 → f_103 σ (nI j) (nI l) (nI r) = 1)
def RS (σ τ : mm_S) (r k : Nat) : Prop := ∃ w, w < 512 ∧ ¬ w.testBit r = true ∧ τ 87 r = nI (bc w 9) ∧ (∀ i, i < bc w 9 → ∃ k', k' < k ∧ em σ r k' ∧ τ 88 (16 * r + i) = nI k') ∧ (∀ k', k' < k → em σ r k' → ∃ i, i < bc w 9 ∧ τ 88 (16 * r + i) = nI k') ∧ (∀ o, w.testBit o = true → o ≠ r ∧ ∃ k', k' < k ∧ em σ r k' ∧ em σ o k') ∧ (∀ i j, i < j → j < bc w 9 → f_103 σ (τ 88 (16 * r + i)) (τ 88 (16 * r + j)) (nI r) = 1)
def AO (σ τ : mm_S) (n : Nat) : Prop := ∀ r, r < 9 → ∃ dg, dg ≤ 8 ∧ τ 87 r = nI dg ∧ (∀ i, i < dg → ∃ k, k < n ∧ em σ r k ∧ τ 88 (16 * r + i) = nI k) ∧ (∀ k, k < n → em σ r k → ∃ i, i < dg ∧ τ 88 (16 * r + i) = nI k) ∧ (∀ i j, i < j → j < dg → f_103 σ (τ 88 (16 * r + i)) (τ 88 (16 * r + j)) (nI r) = 1)
theorem c_104s {d n : Nat} {Q : mm_Q} {σ : mm_S} (M : MK σ n) (OT : ∀ r, r < 9 → OTr σ n r) (q : ∀ τ : mm_S, (∀ c, c ≠ 87 → c ≠ 88 → τ c = σ c) → AO σ τ n → Q none τ) : mD (d + 3) 104 [.ref 10] σ Q := by
  have n21 := M.jn.1
  refine ke_104 (kb_104_0 ?_)
  refine lp_dn (P := fun r => ∀ τ : mm_S, (∀ c, c ≠ 87 → c ≠ 88 → τ c = σ c) → (∀ r', r' < r → RS σ τ r' n) → ∀ o2 o3, mw (d + 2) mt_104 Q 2 [some (.ref 10), some (.int (nI r)), o2, o3] [] τ) 9 ?_ ?_ 0 (by omega) σ (fun _ _ _ => rfl) (fun r' h => absurd h (Nat.not_lt_zero r')) none none
  · intro τ fr hR o2 o3
    refine kb_104_2 (fun _ => kb_104_154 (q τ fr (fun r hr => ?_))) (fun g => absurd (by decide) g)
    obtain ⟨w, w9, wr, e87, a1, a2, _, a4⟩ := hR r hr
    exact ⟨bc w 9, by have := bc_not hr wr; omega, e87, a1, a2, a4⟩
  · intro r hr ih τ fr hR o2 o3
    have cr : (nI r).toNatClampNeg = r := nI_clamp (by omega)
    refine kb_104_2 (fun g => absurd g (hI_nle (a := 9) (by omega) hr)) (fun _ => kb_104_8 (pk_in r 9 hr) ?_)
    rw [cr]
    -- over the joins
    refine lp_dn (P := fun k => ∀ τ : mm_S, (∀ c, c ≠ 87 → c ≠ 88 → τ c = σ c) → (∀ r', r' < r → RS σ τ r' n) → RS σ τ r k → ∀ o3, mw (d + 2) mt_104 Q 17 [some (.ref 10), some (.int (nI r)), some (.int (nI k)), o3] [] τ) n ?_ ?_ 0 (Nat.zero_le n) _ (fun c h1 h2 => by rw [mm_up_n h1]; exact fr c h1 h2) (fun r' hr' => ?_) ⟨0, by decide, by simp, mm_up_s, fun i hi => absurd hi (by rw [show bc 0 9 = 0 by decide]; omega), fun k' hk' => absurd hk' (Nat.not_lt_zero k'), fun o h => absurd h (by simp), fun i j _ h => absurd h (by rw [show bc 0 9 = 0 by decide]; omega)⟩ o3
    · intro τ fr hR R o3
      have e6 : τ 10 6 = nI n := by rw [fr 10 (by decide) (by decide)]; exact M.jn.2
      refine kb_104_17 (fun _ => kb_104_148 ?_) (fun g => absurd (by rw [e6]; exact hI_le (by omega) (Nat.le_refl n)) g)
      rw [nI_1]
      refine ih τ fr (fun r' hr' => ?_) _ _
      by_cases e : r' = r
      · subst e; exact R
      · exact hR r' (by omega)
    · intro k hk ihk τ fr hR R o3
      have e6 : τ 10 6 = nI n := by rw [fr 10 (by decide) (by decide)]; exact M.jn.2
      have ck : (nI k).toNatClampNeg = k := nI_clamp (by omega)
      have e80 : τ 80 = σ 80 := fr 80 (by decide) (by decide)
      have e81 : τ 81 = σ 81 := fr 81 (by decide) (by decide)
      have e75 : τ 75 = σ 75 := fr 75 (by decide) (by decide)
      -- room r isn't drawn: no join is at it
      have skipall : σ 75 r = 0 → ∀ k', k' < n → ¬ em σ r k' := fun z k' hk' h => by
        obtain ⟨o, _, _, _, _, _, dr, _⟩ := MK_ot M hk' hr h
        exact dr z
      have next : ¬ em σ r k → ∀ o3, mw (d + 2) mt_104 Q 17 [some (.ref 10), some (.int (nI r)), some (.int (nI k + 1)), o3] [] τ := fun hn o3 => by
        rw [nI_1]
        refine ihk τ fr hR ?_ o3
        obtain ⟨w, w9, wr, e87, a1, a2, a3, a4⟩ := R
        refine ⟨w, w9, wr, e87, fun i hi => ?_, fun k' hk' hem => ?_, fun o ho => ?_, a4⟩
        · obtain ⟨k', h1, h2, h3⟩ := a1 i hi; exact ⟨k', by omega, h2, h3⟩
        · by_cases e : k' = k
          · subst e; exact absurd hem hn
          · exact a2 k' (by omega) hem
        · obtain ⟨b1, k', b2, b3⟩ := a3 o ho; exact ⟨b1, k', by omega, b3⟩
      have take : em σ r k → ∀ o3, mw (d + 2) mt_104 Q 57 [some (.ref 10), some (.int (nI r)), some (.int (nI k)), o3] [] τ := fun hem o3 => by
        obtain ⟨w, w9, wr, e87, a1, a2, a3, a4⟩ := R
        have dl : bc w 9 ≤ 8 := by have := bc_not hr wr; omega
        obtain ⟨o, o9, onr, eo, emo, _, _, ends⟩ := MK_ot M hk hr hem
        have ow : ¬ w.testBit o = true := fun y => by
          obtain ⟨_, k', hk', h1, h2⟩ := a3 o y
          have hk'' : k' < n := by omega
          obtain ⟨o', o9', onr', eo', _, _, _, ends'⟩ := MK_ot M hk'' hr h1
          have oo : o' = o := by
            unfold em at h2
            rcases ends' with ⟨p, q⟩ | ⟨p, q⟩
            · rw [p, q] at h2
              rcases h2 with h2 | h2
              · exact absurd (nI9 hr o9 h2).symm onr
              · exact nI9 o9' o9 h2
            · rw [p, q] at h2
              rcases h2 with h2 | h2
              · exact nI9 o9' o9 h2
              · exact absurd (nI9 hr o9 h2).symm onr
          subst oo
          have : k = k' := by
            rcases ends with ⟨p, q⟩ | ⟨p, q⟩
            · exact M.jd k k' hk hk'' r o' p q ends'
            · exact M.jd k k' hk hk'' o' r p q ends'.symm
          omega
        have b8 : bc w 9 + 1 ≤ 9 := by omega
        have f101 : ∀ k' (ρ : mm_S), k' < n → em σ r k' → ρ 80 = σ 80 → ρ 81 = σ 81 → vp_in (f_101 ρ (nI k') (nI r)) 9 := fun k' ρ hk' h h80 h81 => by
          obtain ⟨o, o9, _, eo, _⟩ := MK_ot M hk' hr h
          have : f_101 ρ (nI k') (nI r) = f_101 σ (nI k') (nI r) := by unfold f_101; rw [h80, h81]
          rw [this, eo]; exact pk_in o 9 o9
        -- behind the place
        have put : ∀ (i : Nat) (ρ : mm_S) (o3 : Option Value), i ≤ bc w 9 → (∀ c, c ≠ 88 → ρ c = τ c) → (∀ x, (x < 16 * r ∨ 16 * r + bc w 9 < x) → ρ 88 x = τ 88 x) → (∀ j, j < i → ρ 88 (16 * r + j) = τ 88 (16 * r + j)) → (∀ j, i < j → j ≤ bc w 9 → ρ 88 (16 * r + j) = τ 88 (16 * r + (j - 1))) → (∀ j, i ≤ j → j < bc w 9 → f_103 σ (nI k) (τ 88 (16 * r + j)) (nI r) = 1) → (∀ j, j < i → f_103 σ (τ 88 (16 * r + j)) (nI k) (nI r) = 1) → mw (d + 2) mt_104 Q 17 [some (.ref 10), some (.int (nI r)), some (.int (nI k + 1)), o3] [] (mm_up (mm_up ρ 88 ((16 : Int32) * nI r + nI i).toNatClampNeg (nI k)) 87 (nI r).toNatClampNeg ((ρ 87 (nI r).toNatClampNeg) + 1)) := by
          intro i ρ o3 hi f1 out lo hi2 hb ha
          rw [nI_1, nI_16, cr, nI_clamp (show 16 * r + i < 2 ^ 31 by omega), f1 87 (by decide), e87, nI_1]
          have wbc : bc (w ||| 2 ^ o) 9 = bc w 9 + 1 := by rw [bc_add ow, if_pos o9]
          have rd : ∀ x, (mm_up (mm_up ρ 88 (16 * r + i) (nI k)) 87 r (nI (bc w 9 + 1))) 88 x = if x = 16 * r + i then nI k else ρ 88 x := fun x => by
            rw [mm_up_n (by decide)]
            by_cases e : x = 16 * r + i
            · rw [if_pos e, e]; exact mm_up_s
            · rw [if_neg e]; exact mm_up_o e
          refine ihk _ (fun c h1 h2 => by rw [mm_up_n h1, mm_up_n h2, f1 c h2]; exact fr c h1 h2) (fun r' hr' => ?_) ?_ o3
          · obtain ⟨w', b1, b2, b3, b4, b5, b6, b7⟩ := hR r' hr'
            have b8' : bc w' 9 ≤ 8 := by have := bc_not (show r' < 9 by omega) b2; omega
            have same : ∀ i', i' < bc w' 9 → (mm_up (mm_up ρ 88 (16 * r + i) (nI k)) 87 r (nI (bc w 9 + 1))) 88 (16 * r' + i') = τ 88 (16 * r' + i') := fun i' hi' => by
              rw [rd, if_neg (by omega)]; exact out _ (by omega)
            refine ⟨w', b1, b2, by rw [mm_up_o (by omega), mm_up_n (by decide), f1 87 (by decide)]; exact b3, fun i' hi' => by rw [same i' hi']; exact b4 i' hi', fun k' hk' h => ?_, b6, fun i' j' h1 h2 => by rw [same i' (by omega), same j' h2]; exact b7 i' j' h1 h2⟩
            obtain ⟨i', c1, c2⟩ := b5 k' hk' h
            exact ⟨i', c1, by rw [same i' c1]; exact c2⟩
          · refine ⟨w ||| 2 ^ o, Nat.or_lt_two_pow (n := 9) w9 (Nat.pow_lt_pow_right (by decide) o9), ?_, by rw [wbc]; exact mm_up_s, fun j hj => ?_, fun k' hk' h => ?_, fun x hx => ?_, fun x y hxy hy => ?_⟩
            · rw [Nat.testBit_or, Nat.testBit_two_pow, Bool.or_eq_true]
              rintro (y | y)
              · exact wr y
              · exact onr (by simpa using y)
            · rw [wbc] at hj
              rw [rd]
              by_cases e : j = i
              · rw [if_pos (by omega)]; exact ⟨k, by omega, hem, rfl⟩
              · rw [if_neg (by omega)]
                by_cases l : j < i
                · obtain ⟨k', c1, c2, c3⟩ := a1 j (by omega)
                  exact ⟨k', by omega, c2, by rw [lo j l]; exact c3⟩
                · obtain ⟨k', c1, c2, c3⟩ := a1 (j - 1) (by omega)
                  exact ⟨k', by omega, c2, by rw [hi2 j (by omega) (by omega)]; exact c3⟩
            · rw [wbc]
              by_cases e : k' = k
              · subst e; exact ⟨i, by omega, by rw [rd, if_pos rfl]⟩
              · obtain ⟨j, c1, c2⟩ := a2 k' (by omega) h
                by_cases l : j < i
                · exact ⟨j, by omega, by rw [rd, if_neg (by omega), lo j l]; exact c2⟩
                · exact ⟨j + 1, by omega, by rw [rd, if_neg (by omega), hi2 (j + 1) (by omega) (by omega)]; exact c2⟩
            · rw [Nat.testBit_or, Nat.testBit_two_pow, Bool.or_eq_true] at hx
              rcases hx with hx | hx
              · obtain ⟨c1, k', c2, c3⟩ := a3 x hx; exact ⟨c1, k', by omega, c3⟩
              · have : o = x := by simpa using hx
                subst this
                exact ⟨onr, k, by omega, hem, emo⟩
            · rw [wbc] at hy
              rw [rd, rd]
              by_cases ex : x = i
              · rw [if_pos (by omega), if_neg (by omega), hi2 y (by omega) (by omega)]
                exact hb (y - 1) (by omega) (by omega)
              · rw [if_neg (by omega)]
                by_cases ey : y = i
                · rw [if_pos (by omega), lo x (by omega)]
                  exact ha x (by omega)
                · rw [if_neg (by omega)]
                  by_cases lx : x < i
                  · rw [lo x lx]
                    by_cases ly : y < i
                    · rw [lo y ly]; exact a4 x y hxy (by omega)
                    · rw [hi2 y (by omega) (by omega)]; exact a4 x (y - 1) (by omega) (by omega)
                  · rw [hi2 x (by omega) (by omega), hi2 y (by omega) (by omega)]
                    exact a4 (x - 1) (y - 1) (by omega) (by omega)
        refine kb_104_57 (pk_in r 9 hr) ?_
        rw [cr, e87]
        have shift : ∀ i, i ≤ bc w 9 → ∀ ρ : mm_S, (∀ c, c ≠ 88 → ρ c = τ c) → (∀ x, (x < 16 * r ∨ 16 * r + bc w 9 < x) → ρ 88 x = τ 88 x) → (∀ j, j < i → ρ 88 (16 * r + j) = τ 88 (16 * r + j)) → (∀ j, i < j → j ≤ bc w 9 → ρ 88 (16 * r + j) = τ 88 (16 * r + (j - 1))) → (∀ j, i ≤ j → j < bc w 9 → f_103 σ (nI k) (τ 88 (16 * r + j)) (nI r) = 1) → mw (d + 2) mt_104 Q 64 [some (.ref 10), some (.int (nI r)), some (.int (nI k)), some (.int (nI i))] [] ρ := by
          intro i
          induction i with
          | zero =>
            intro hi ρ f1 out lo hi2 hb
            have z0 : nI 0 ≤ (0 : Int32) := by decide
            refine ks_104_64 (fun _ => by rw [nI_16]; exact pk_in (16 * r + 0) 144 (by omega)) (fun _ => pk_in r 9 hr) (fun g => absurd z0 g) (fun g => absurd z0 g) (fun g => absurd z0 g) (fun g => absurd z0 g) (fun g => absurd z0 g) (fun g => absurd z0 g) (fun g => absurd z0 g) (fun g => absurd z0 g) (fun g => absurd z0 g) (fun g => absurd z0 g) (fun _ => put 0 ρ _ hi f1 out lo hi2 hb (fun j hj => absurd hj (Nat.not_lt_zero j))) (fun g => absurd z0 g) (fun g => absurd z0 g)
          | succ i ihi =>
            intro hi ρ f1 out lo hi2 hb
            have zn : ¬ (nI (i + 1) ≤ 0) := nI_nle (by omega) (by omega)
            have ei : (16 : Int32) * nI r + nI (i + 1) - 1 = nI (16 * r + i) := by rw [nI_16]; exact nI_pred (16 * r + i)
            have ci : (nI (16 * r + i)).toNatClampNeg = 16 * r + i := nI_clamp (by omega)
            obtain ⟨kx, x1, x2, x3⟩ := a1 i (by omega)
            have e88 : ρ 88 ((16 : Int32) * nI r + nI (i + 1) - 1).toNatClampNeg = nI kx := by rw [ei, ci, lo i (by omega)]; exact x3
            have v1 : vp_in ((16 : Int32) * nI r + nI (i + 1) - 1) 144 := by rw [ei]; exact pk_in (16 * r + i) 144 (by omega)
            have v2 : vp_in ((16 : Int32) * nI r + nI (i + 1)) 144 := by rw [nI_16]; exact pk_in (16 * r + (i + 1)) 144 (by omega)
            have h80 : ρ 80 = σ 80 := by rw [f1 80 (by decide)]; exact e80
            have h81 : ρ 81 = σ 81 := by rw [f1 81 (by decide)]; exact e81
            have fc : f_103 ρ = f_103 σ := f_103_cg (by rw [f1 76 (by decide)]; exact fr 76 (by decide) (by decide)) (by rw [f1 77 (by decide)]; exact fr 77 (by decide) (by decide)) h80 h81
            refine ks_104_64 (fun g => absurd g zn) (fun g => absurd g zn) (fun _ => v1) (fun _ => pk_in k 21 (by omega)) (fun _ => f101 k ρ hk hem h80 h81) (fun _ => pk_in r 9 hr) (fun _ => by rw [e88]; exact pk_in kx 21 (by omega)) (fun _ => by rw [e88]; exact f101 kx ρ (by omega) x2 h80 h81) (fun _ _ => v2) (fun _ _ => pk_in r 9 hr) (fun _ _ => v1) (fun _ _ => v2) (fun g => absurd g zn) (fun _ z => put (i + 1) ρ _ hi f1 out lo hi2 hb (fun j hj => ?_)) (fun _ z => ?_)
            · -- behind what isn't ahead
              rw [e88, fc] at z
              have tx : f_103 σ (nI kx) (nI k) (nI r) = 1 := by
                rcases OT r hr |>.1 k kx hk (by omega) hem x2 (by omega) with y | y
                · rw [y] at z; exact absurd z (by decide)
                · exact y
              by_cases e : j = i
              · subst e; rw [x3]; exact tx
              · obtain ⟨kj, j1, j2, j3⟩ := a1 j (by omega)
                have s1 := a4 j i (by omega) (by omega)
                rw [x3, j3] at s1
                rw [j3]
                exact OT r hr |>.2 kj kx k (by omega) (by omega) hk j2 x2 hem s1 tx
            have hk1 : f_103 σ (nI k) (nI kx) (nI r) = 1 := by
              rw [e88, fc] at z
              exact (f_103_01 σ _ _ _).resolve_left z
            rw [e88, nI_pm, nI_16, nI_clamp (show 16 * r + (i + 1) < 2 ^ 31 by omega)]
            refine ihi (by omega) _ (fun c hc => by rw [mm_up_n hc]; exact f1 c hc) (fun x hx => by rw [mm_up_o (by omega)]; exact out x hx) (fun j hj => by rw [mm_up_o (by omega)]; exact lo j (by omega)) (fun j h1 h2 => ?_) (fun j h1 h2 => ?_)
            · by_cases e : j = i + 1
              · subst e
                rw [mm_up_s, show i + 1 - 1 = i by omega]; exact x3.symm
              · rw [mm_up_o (by omega)]; exact hi2 j (by omega) h2
            · by_cases e : j = i
              · subst e; rw [x3]; exact hk1
              · exact hb j (by omega) h2
        exact shift (bc w 9) (Nat.le_refl _) τ (fun _ _ => rfl) (fun _ _ => rfl) (fun _ _ => rfl) (fun j h1 h2 => by omega) (fun j h1 h2 => by omega)
      refine kb_104_17 (fun g => absurd g (by rw [e6]; exact hI_nle (by omega) hk)) (fun _ => kb_104_25 (pk_in r 9 hr) (fun z => kb_104_148 ?_) (fun z => kb_104_34 (pk_in k 21 (by omega)) (fun y => take (Or.inl ?_) _) (fun y => kb_104_44 (pk_in k 21 (by omega)) (fun u => take (Or.inr ?_) _) (fun u => kb_104_54 (next (fun h => ?_) _)))))
      · rw [cr, e75] at z
        rw [nI_1]
        refine ih τ fr (fun r' hr' => ?_) _ _
        by_cases e : r' = r
        · subst e
          obtain ⟨w, w9, wr, e87, a1, a2, a3, a4⟩ := R
          refine ⟨w, w9, wr, e87, fun i hi => ?_, fun k' hk' h => absurd h (skipall z k' hk'), fun o ho => ?_, a4⟩
          · obtain ⟨k', c1, c2, c3⟩ := a1 i hi; exact ⟨k', by omega, c2, c3⟩
          · obtain ⟨c1, k', c2, c3⟩ := a3 o ho; exact ⟨c1, k', by omega, c3⟩
        · exact hR r' (by omega)
      · rw [ck, e80] at y; exact y
      · rw [ck, e81] at u; exact u
      · rw [ck, e80] at y
        rw [ck, e81] at u
        rcases h with h | h
        · exact y h
        · exact u h
    · obtain ⟨w', b1, b2, b3, b4, b5, b6, b7⟩ := hR r' hr'
      refine ⟨w', b1, b2, by rw [mm_up_o (by omega)]; exact b3, fun i' hi' => by rw [mm_up_n (by decide)]; exact b4 i' hi', fun k' hk' h => ?_, b6, fun i' j' h1 h2 => by rw [mm_up_n (by decide)]; exact b7 i' j' h1 h2⟩
      rw [mm_up_n (by decide)]; exact b5 k' hk' h


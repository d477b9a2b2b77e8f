/-! the reference: findFaces, size, nodeOf, isLess, tellSet, hasGreatFace -/
def FM (τ : mm_S) (f : Nat) : Prop := f ≤ 42 ∧ τ 10 19 = nI f ∧ ∀ g, g < f → ∃ M, M < 512 ∧ τ 86 g = nI M
theorem c_110 {d n : Nat} {Q : mm_Q} {σ τ : mm_S} (M : MK σ n) (fr : ∀ c, c ≠ 10 → c ≠ 85 → c ≠ 87 → c ≠ 88 → c ≠ 99 → τ c = σ c) (t6 : τ 10 6 = σ 10 6) (A : AR σ τ n)
    (q : ∀ τ' f, (∀ c, c ≠ 10 → c ≠ 86 → c ≠ 99 → τ' c = τ c) → (∀ j, j ≠ 19 → τ' 10 j = τ 10 j) → FM τ' f → Q none τ') : mD (d + 2) 110 [.ref 10] τ Q := by
  have n21 := M.jn.1
  refine ke_110 (kb_110_0 ?_)
  have GMx : ∀ ρ : mm_S, ∃ v, v < 2 ^ 42 ∧ GM ρ v := fun ρ => by
    have : ∀ k, k ≤ 42 → ∃ v, v < 2 ^ k ∧ ∀ c, c < 42 → (v.testBit c = true ↔ c < k ∧ ¬ ρ 99 c = 0) := by
      intro k
      induction k with
      | zero => intro _; exact ⟨0, by decide, fun c _ => ⟨fun z => absurd z (by simp), fun z => absurd z.1 (Nat.not_lt_zero c)⟩⟩
      | succ k ih =>
        intro hk
        obtain ⟨v, v1, v2⟩ := ih (by omega)
        by_cases z : ρ 99 k = 0
        · refine ⟨v, Nat.lt_of_lt_of_le v1 (Nat.pow_le_pow_right (by decide) (by omega)), fun c hc => ?_⟩
          rw [v2 c hc]
          constructor
          · rintro ⟨h1, h2⟩; exact ⟨by omega, h2⟩
          · rintro ⟨h1, h2⟩
            by_cases e : c = k
            · subst e; exact absurd z h2
            · exact ⟨by omega, h2⟩
        · refine ⟨v ||| 2 ^ k, Nat.or_lt_two_pow (Nat.lt_of_lt_of_le v1 (Nat.pow_le_pow_right (by decide) (by omega))) (Nat.pow_lt_pow_right (by decide) (by omega)), fun c hc => ?_⟩
          rw [Nat.testBit_or, Nat.testBit_two_pow, Bool.or_eq_true, v2 c hc]
          constructor
          · rintro (⟨h1, h2⟩ | h)
            · exact ⟨by omega, h2⟩
            · have e : k = c := by simpa using h
              subst e; exact ⟨by omega, z⟩
          · rintro ⟨h1, h2⟩
            by_cases e : c = k
            · exact Or.inr (by simp [e])
            · exact Or.inl ⟨by omega, h2⟩
    obtain ⟨v, v1, v2⟩ := this 42 (Nat.le_refl 42)
    exact ⟨v, v1, fun c hc => (v2 c hc).trans ⟨fun h => h.2, fun h => ⟨hc, h⟩⟩⟩
  obtain ⟨v0, _, g0⟩ := GMx τ
  refine lp_dn (P := fun w => ∀ (ρ : mm_S) (v f : Nat), (∀ c, c ≠ 10 → c ≠ 86 → c ≠ 99 → ρ c = τ c) → (∀ j, j ≠ 19 → ρ 10 j = τ 10 j) → GM ρ v → f ≤ bc v 42 → FM ρ f → ∀ o2 o3 o4, mw (d + 1) mt_110 Q 7 [some (.ref 10), some (.int (nI w)), o2, o3, o4] [] ρ) (2 * n) ?_ ?_ 0 (Nat.zero_le _) (mm_up τ 10 19 0) v0 0 (fun c h _ _ => mm_up_n h) (fun j hj => mm_up_o hj) (fun c hc => by rw [mm_up_n (by decide)]; exact g0 c hc) (Nat.zero_le _) ⟨by decide, mm_up_s, fun g hg => absurd hg (Nat.not_lt_zero g)⟩ none none none
  · intro ρ v f f1 f2 g hf F o2 o3 o4
    have e6 : (2 : Int32) * ρ 10 6 = nI (2 * n) := by rw [f2 6 (by decide), t6, M.jn.2]; exact nI_mul 2 n
    exact kb_110_7 (fun _ => kb_110_136 (q ρ f f1 f2 F)) (fun z => absurd (by rw [e6]; exact hI_le (by omega) (Nat.le_refl _)) z)
  · intro w hw ih ρ v f f1 f2 g hf F o2 o3 o4
    have e6 : (2 : Int32) * ρ 10 6 = nI (2 * n) := by rw [f2 6 (by decide), t6, M.jn.2]; exact nI_mul 2 n
    have cw : (nI w).toNatClampNeg = w := nI_clamp (by omega)
    refine kb_110_7 (fun z => absurd z (by rw [e6]; exact hI_nle (by omega) hw)) (fun _ => kb_110_17 (pk_in w 42 (by omega)) (fun z => ?_) (fun _ => kb_110_26 (by rw [nI_1]; exact ih ρ v f f1 f2 g hf F _ _ _)))
    rw [cw] at z
    obtain ⟨h1, h2⟩ := half_n w (by omega)
    have hk : w / 2 < n := by omega
    obtain ⟨a, b, ha, hb, _, _, _, e1, e2⟩ := M.je (w / 2) hk
    have r80 : ∀ ρ : mm_S, (∀ c, c ≠ 10 → c ≠ 86 → c ≠ 99 → ρ c = τ c) → ρ 80 = σ 80 ∧ ρ 81 = σ 81 ∧ AR σ ρ n := fun ρ h => ⟨by rw [h 80 (by decide) (by decide) (by decide)]; exact fr 80 (by decide) (by decide) (by decide) (by decide) (by decide), by rw [h 81 (by decide) (by decide) (by decide)]; exact fr 81 (by decide) (by decide) (by decide) (by decide) (by decide), fun r' hr' => by rw [h 87 (by decide) (by decide) (by decide), h 88 (by decide) (by decide) (by decide)]; exact A r' hr'⟩
    -- the walk of one face
    have walk : ∀ (e : Nat) (ρ : mm_S) (v r k X : Nat), bc v 42 + e = 42 → (∀ c, c ≠ 10 → c ≠ 86 → c ≠ 99 → ρ c = τ c) → (∀ j, j ≠ 19 → ρ 10 j = τ 10 j) → GM ρ v → f ≤ bc v 42 → (f < bc v 42 ∨ ρ 99 (wfn ρ k r) = 0) → FM ρ f → r < 9 → k < n → em σ r k → X < 512 → mw (d + 1) mt_110 Q 58 [some (.ref 10), some (.int (nI w)), some (.int (nI k)), some (.int (nI r)), some (.int (nI X))] [] ρ := by
      intro e
      induction e with
      | zero =>
        intro ρ v r k X he f1 f2 g hf hst F hr hk hem hX
        have hw : wfn ρ k r < 42 := wfn_lt (by omega)
        have full := (g _ hw).mp (bc_full 42 (by omega) _ hw)
        have fl : f < bc v 42 := by
          rcases hst with y | y
          · exact y
          · exact absurd y full
        refine kb_110_58 (c_106 (by omega) (kb_110_68 (pk_in _ 42 hw) (fun y => absurd y (by rw [nI_clamp (by omega)]; exact full)) (fun _ => kb_110_109 (by rw [F.2.1]; exact pk_in f 42 (by omega)) ?_)))
        rw [nI_1, F.2.1, nI_clamp (show f < 2 ^ 31 by omega)]
        have e19 : (mm_up ρ 86 f (nI X)) 10 19 = nI f := by rw [mm_up_n (by decide)]; exact F.2.1
        rw [e19, nI_1]
        refine ih _ v (f + 1) (fun c h1 h2 h3 => by rw [mm_up_n h1, mm_up_n h2]; exact f1 c h1 h2 h3) (fun j hj => by rw [mm_up_o hj, mm_up_n (by decide)]; exact f2 j hj) (fun c hc => by rw [mm_up_n (by decide), mm_up_n (by decide)]; exact g c hc) (by omega) ⟨by omega, mm_up_s, fun g' hg' => ?_⟩ _ _ _
        rw [mm_up_n (by decide)]
        by_cases eg : g' = f
        · subst eg; exact ⟨X, hX, mm_up_s⟩
        · rw [mm_up_o eg]; exact F.2.2 g' (by omega)
      | succ e ihe =>
        intro ρ v r k X he f1 f2 g hf hst F hr hk hem hX
        obtain ⟨x80, x81, xA⟩ := r80 ρ f1
        have hw : wfn ρ k r < 42 := wfn_lt (by omega)
        refine kb_110_58 (c_106 (by omega) (kb_110_68 (pk_in _ 42 hw) (fun y => kb_110_72 (c_106 (by omega) ?_)) (fun y => kb_110_109 (by rw [F.2.1]; exact pk_in f 42 (by
          have := bc_n v 42
          rcases hst with u | u
          · omega
          · rw [nI_clamp (by omega)] at y; exact absurd u y)) ?_)))
        · rw [nI_clamp (show wfn ρ k r < 2 ^ 31 by omega)] at y
          generalize wfn ρ k r = u at *
          obtain ⟨o, o9, _, eo, emo, _, _, _⟩ := MK_ot M hk hr hem
          have vw : ¬ v.testBit u = true := fun z => (g u hw).mp z y
          refine kb_110_82 (pk_in u 42 hw) ?_
          rw [nar_1, nI_clamp (show u < 2 ^ 31 by omega)]
          have f3 : ∀ c, c ≠ 10 → c ≠ 86 → c ≠ 99 → (mm_up ρ 99 u 1) c = τ c := fun c h1 h2 h3 => by rw [mm_up_n h3]; exact f1 c h1 h2 h3
          obtain ⟨y80, y81, yA⟩ := r80 _ f3
          refine c_101 (pk_in k 21 (by omega)) ?_
          have e101 : f_101 (mm_up ρ 99 u 1) (nI k) (nI r) = nI o := by
            rw [← eo]; unfold f_101; rw [y80, y81]
          rw [e101]
          refine kb_110_98 (c_105 n21 yA o9 hk emo (fun k' hk' he' => kb_110_105 ?_))
          rw [one_sh (by omega), or_bit]
          have bn : bc (v ||| 2 ^ u) 42 = bc v 42 + 1 := by rw [bc_add vw, if_pos hw]
          refine ihe _ (v ||| 2 ^ u) o k' _ (by omega) f3 (fun j hj => by rw [mm_up_n (by decide)]; exact f2 j hj) (fun c hc => ?_) (by omega) (Or.inl (by omega)) ⟨F.1, by rw [mm_up_n (by decide)]; exact F.2.1, fun g' hg' => by rw [mm_up_n (by decide)]; exact F.2.2 g' hg'⟩ o9 hk' he' (Nat.or_lt_two_pow (n := 9) hX (Nat.pow_lt_pow_right (by decide) hr))
          rw [Nat.testBit_or, Nat.testBit_two_pow, Bool.or_eq_true]
          by_cases e : c = u
          · subst e
            rw [mm_up_s]
            exact ⟨fun _ => by decide, fun _ => Or.inr (by simp)⟩
          · rw [mm_up_o e, ← g c hc]
            constructor
            · rintro (z | z)
              · exact z
              · exact absurd (show u = c by simpa using z).symm e
            · exact Or.inl
        · rw [nI_clamp (show wfn ρ k r < 2 ^ 31 by omega)] at y
          have fl : f < bc v 42 := by
            rcases hst with u | u
            · exact u
            · exact absurd u y
          have := bc_n v 42
          rw [nI_1, F.2.1, nI_clamp (show f < 2 ^ 31 by omega)]
          have e19 : (mm_up ρ 86 f (nI X)) 10 19 = nI f := by rw [mm_up_n (by decide)]; exact F.2.1
          rw [e19, nI_1]
          refine ih _ v (f + 1) (fun c h1 h2 h3 => by rw [mm_up_n h1, mm_up_n h2]; exact f1 c h1 h2 h3) (fun j hj => by rw [mm_up_o hj, mm_up_n (by decide)]; exact f2 j hj) (fun c hc => by rw [mm_up_n (by decide), mm_up_n (by decide)]; exact g c hc) (by omega) ⟨by omega, mm_up_s, fun g' hg' => ?_⟩ _ _ _
          rw [mm_up_n (by decide)]
          by_cases eg : g' = f
          · subst eg; exact ⟨X, hX, mm_up_s⟩
          · rw [mm_up_o eg]; exact F.2.2 g' (by omega)
    obtain ⟨x80, x81, xA⟩ := r80 ρ f1
    have ck : (nI (w / 2)).toNatClampNeg = w / 2 := nI_clamp (by omega)
    have bl := bc_n v 42
    refine kb_110_29 (by decide) (by decide) (fun y => ?_) (fun y => ?_)
    · rw [h1]
      rw [h2] at y
      have ev : w % 2 = 0 := (nI_eq (b := 0) (by omega) (by omega)).mp y
      refine kb_110_39 (pk_in (w / 2) 21 (by omega)) ?_
      rw [ck, x80, e1]
      refine walk (42 - bc v 42) ρ v a (w / 2) 0 (by omega) f1 f2 g hf (Or.inr ?_) F ha hk (Or.inl e1) (by decide)
      have : wfn ρ (w / 2) a = w := by unfold wfn; rw [x80, e1, if_pos rfl]; omega
      rw [this]; exact z
    · rw [h1]
      rw [h2] at y
      have od : w % 2 = 1 := by
        rcases Nat.mod_two_eq_zero_or_one w with u | u
        · rw [u] at y; exact absurd rfl y
        · exact u
      refine kb_110_48 (pk_in (w / 2) 21 (by omega)) ?_
      rw [ck, x81, e2]
      refine walk (42 - bc v 42) ρ v b (w / 2) 0 (by omega) f1 f2 g hf (Or.inr ?_) F hb hk (Or.inr e2) (by decide)
      have hne : ¬ nI a = nI b := fun u => by
        obtain ⟨a', b', ha', hb', hne', _, _, e1', e2'⟩ := M.je (w / 2) hk
        have p1 := nI9 ha ha' (e1.symm.trans e1')
        have p2 := nI9 hb hb' (e2.symm.trans e2')
        have p3 := nI9 ha hb u
        exact hne' (by omega)
      have : wfn ρ (w / 2) b = w := by unfold wfn; rw [x80, e1, if_neg hne]; omega
      rw [this]; exact z
theorem bit_v {m k : Nat} (hm : m < 2 ^ 31) (hk : k < 31) : (nI m >>> (nI k &&& 31)) &&& 1 = nI (if m.testBit k = true then 1 else 0) := by
  have h := hs_bit hm hk
  unfold hs at h
  obtain ⟨j, hj, e⟩ := pk_andE (nI m >>> (nI k &&& 31)) (m := 1) 1 (by decide)
  rw [e] at h ⊢
  by_cases c : m.testBit k = true
  · rw [if_pos c] at h ⊢
    by_cases u : nI j = 1
    · rw [u]; rfl
    · rw [if_neg u] at h; exact absurd h (by decide)
  · rw [if_neg c] at h ⊢
    by_cases u : nI j = 1
    · rw [if_pos u] at h; exact absurd h (by decide)
    · have : j = 0 := by
        rcases Nat.lt_or_ge j 1 with y | y
        · omega
        · have : j = 1 := by omega
          subst this; exact absurd rfl u
      rw [this]
theorem c_111 {d m : Nat} {Q : mm_Q} {τ : mm_S} (hm : m < 2 ^ 31) (q : Q (some (.int (nI (bc m 13)))) τ) : mD (d + 1) 111 [.int (nI m)] τ Q := by
  refine ke_111 (kb_111_0 ?_)
  refine lp_dn (P := fun k => mw d mt_111 Q 4 [some (.int (nI m)), some (.int (nI (bc m k))), some (.int (nI k))] [] τ) 13 ?_ ?_ 0 (by omega)
  · exact kb_111_4 (fun _ => kb_111_24 q) (fun g => absurd (by decide) g)
  · intro k hk ih
    refine kb_111_4 (fun g => absurd g (hI_nle (a := 13) (by omega) hk)) (fun _ => kb_111_10 ?_)
    rw [bit_v hm (by omega), nI_add, nI_1]
    exact ih
theorem c_112 {d m i : Nat} {Q : mm_Q} {τ : mm_S} (hm : m < 2 ^ 31) (hi : i < bc m 13) (q : ∀ k, k < 13 → m.testBit k = true → bc m k = i → Q (some (.int (nI k))) τ) : mD (d + 1) 112 [.int (nI m), .int (nI i)] τ Q := by
  have b13 := bc_n m 13
  refine ke_112 (kb_112_0 ?_)
  have key := lp_dn (P := fun k => bc m k ≤ i → mw d mt_112 Q 4 [some (.int (nI m)), some (.int (nI i)), some (.int (nI (i - bc m k))), some (.int (nI k))] [] τ) 13 ?_ ?_ 0 (by omega) (Nat.zero_le i)
  · exact key
  · intro h; omega
  · intro k hk ih hb
    have bv := bit_v (m := m) (k := k) hm (by omega)
    have bs : bc m (k + 1) = bc m k + if m.testBit k = true then 1 else 0 := rfl
    have go : (m.testBit k = true → bc m k < i) → mw d mt_112 Q 16 [some (.int (nI m)), some (.int (nI i)), some (.int (nI (i - bc m k))), some (.int (nI k))] [] τ := fun h => by
      refine kb_112_16 ?_
      rw [bv, nI_1]
      have e : nI (i - bc m k) - nI (if m.testBit k = true then 1 else 0) = nI (i - bc m (k + 1)) := by
        by_cases c : m.testBit k = true
        · rw [if_pos c, bs, if_pos c]
          have := h c
          obtain ⟨x, hx⟩ : ∃ x, i - bc m k = x + 1 := ⟨i - bc m k - 1, by omega⟩
          rw [hx, show i - (bc m k + 1) = x by omega]
          exact nI_pred x
        · rw [if_neg c, bs, if_neg c]
          rw [show nI 0 = (0 : Int32) from rfl, Int32.sub_zero, Nat.add_zero]
      rw [e]
      refine ih ?_
      by_cases c : m.testBit k = true
      · rw [bs, if_pos c]; have := h c; omega
      · rw [bs, if_neg c]; omega
    refine kb_112_4 (fun z => go (fun c => ?_)) (fun z => kb_112_12 (fun y => kb_112_30 (q k hk ?_ ?_)) (fun y => go (fun _ => ?_)))
    · rw [bv, if_pos c] at z; exact absurd z (by decide)
    · by_cases c : m.testBit k = true
      · exact c
      · rw [bv, if_neg c] at z; exact absurd rfl z
    · rcases Nat.lt_or_ge (bc m k) i with u | u
      · exact absurd y (nI_nle (by omega) (by omega))
      · omega
    · rcases Nat.lt_or_ge (bc m k) i with u | u
      · exact u
      · exact absurd (by rw [show i - bc m k = 0 by omega]; decide) y
theorem c_113 {d a b : Nat} {Q : mm_Q} {τ : mm_S} (ha : a < 2 ^ 31) (hb : b < 2 ^ 31) (h3a : 3 ≤ bc a 13) (h3b : 3 ≤ bc b 13) (q : ∀ x, x = 0 ∨ x = 1 → Q (some (.int x)) τ) : mD (d + 2) 113 [.int (nI a), .int (nI b)] τ Q := by
  refine ke_113 (kb_113_0 ?_)
  refine lp_dn (P := fun i => mw (d + 1) mt_113 Q 2 [some (.int (nI a)), some (.int (nI b)), some (.int (nI i))] [] τ) 3 ?_ ?_ 0 (by omega)
  · exact kb_113_2 (fun _ => kb_113_45 (q 0 (Or.inl rfl))) (fun g => absurd (by decide) g)
  · intro i hi ih
    refine kb_113_2 (fun g => absurd g (hI_nle (a := 3) (by omega) hi)) (fun _ => kb_113_7 (c_112 ha (by omega) (fun x _ _ _ => kb_113_12 (c_112 hb (by omega) (fun y _ _ _ => kb_113_17 (fun _ => kb_113_39 (by rw [nI_1]; exact ih)) (fun _ => kb_113_20 (c_112 ha (by omega) (fun x' _ _ _ => kb_113_25 (c_112 hb (by omega) (fun y' _ _ _ => kb_113_30 (fun _ => kb_113_37 (q 0 (Or.inl rfl))) (fun _ => kb_113_33 (q 1 (Or.inr rfl)))))))))))))
theorem c_114 {d m : Nat} {Q : mm_Q} {τ : mm_S} {w : Int32} (hm : m < 2 ^ 31) (h3 : 3 ≤ bc m 13) (q : ∀ x y z, Q none (mt3 τ w x y z)) : mD (d + 2) 114 [.ref 10, .int w, .int (nI m)] τ Q := by
  refine ke_114 (kb_114_0 (c_112 (i := 0) hm (by omega) (fun x _ _ _ => kb_114_7 (c_112 (i := 1) hm (by omega) (fun y _ _ _ => kb_114_12 (c_112 (i := 2) hm (by omega) (fun z _ _ _ => kb_114_17 (c_100 (kb_114_20 (q _ _ _))))))))))
theorem c_115 {d f : Nat} {Q : mm_Q} {τ : mm_S} (F : FM τ f) (q1 : ∀ x y z, Q (some (.int 1)) (mt3 τ 3 x y z)) (q0 : Q (some (.int 0)) τ) : mD (d + 3) 115 [.ref 10] τ Q := by
  obtain ⟨f42, e19, fm⟩ := F
  refine ke_115 (kb_115_0 ?_)
  refine lp_dn (P := fun g => ∀ b, b < 512 → (b = 0 ∨ 3 ≤ bc b 13) → mw (d + 2) mt_115 Q 4 [some (.ref 10), some (.int (nI b)), some (.int (nI g))] [] τ) f ?_ ?_ 0 (Nat.zero_le f) 0 (by decide) (Or.inl rfl)
  · intro b hb h3
    refine kb_115_4 (fun _ => kb_115_55 (fun z => kb_115_65 (fun _ => kb_115_73 q0) (fun y => absurd z y)) (fun z => kb_115_59 (c_114 (by omega) (h3.resolve_left (fun e => z (by rw [e]; rfl))) (fun x y u => kb_115_65 (fun y' => absurd y' z) (fun _ => kb_115_69 (q1 x y u)))))) (fun g => absurd (by rw [e19]; exact hI_le (by omega) (Nat.le_refl f)) g)
  · intro g hg ih b hb h3
    obtain ⟨M, m1, m2⟩ := fm g hg
    have cg : (nI g).toNatClampNeg = g := nI_clamp (by omega)
    have b13 := bc_n M 13
    refine kb_115_4 (fun z => absurd z (by rw [e19]; exact hI_nle (by omega) hg)) (fun _ => kb_115_12 (pk_in g 42 (by omega)) ?_)
    rw [cg, m2]
    refine c_111 (by omega) (kb_115_21 (fun _ => kb_115_49 (by rw [nI_1]; exact ih b hb h3)) (fun z => ?_))
    have M3 : 3 ≤ bc M 13 := by
      rcases Nat.lt_or_ge (bc M 13) 3 with y | y
      · exact absurd ((nI_leI (b := 3) (by omega) (by omega)).mpr (by omega)) z
      · exact y
    have take : mw (d + 2) mt_115 Q 42 [some (.ref 10), some (.int (nI b)), some (.int (nI g))] [] τ := kb_115_42 (pk_in g 42 (by omega)) (by rw [cg, m2, nI_1]; exact ih M m1 (Or.inr M3))
    refine kb_115_25 (fun _ => take) (fun y => kb_115_29 (pk_in g 42 (by omega)) ?_)
    rw [cg, m2]
    exact c_113 (by omega) (by omega) M3 (h3.resolve_left (fun e => y (by rw [e]; rfl))) (fun x _ => kb_115_39 (fun _ => kb_115_49 (by rw [nI_1]; exact ih b hb h3)) (fun _ => take))

/-! the reference: placeOf, layCorners, roomAt, link, linkAll, isFace, hasTriangle -/
theorem i32_sw (a b c : Int32) : a - b + c = a + c - b := by
  rw [Int32.sub_eq_add_neg, Int32.sub_eq_add_neg, Int32.add_assoc, Int32.add_comm (-b) c, ← Int32.add_assoc]
theorem nI_sub {a b : Nat} (h : b ≤ a) : nI a - nI b = nI (a - b) := by
  have : nI a = nI (a - b) + nI b := by rw [nI_add]; congr 1; omega
  rw [this, Int32.add_sub_cancel]
def MO (τ : mm_S) (N : Nat) : Prop := 1 ≤ N ∧ N ≤ 42 ∧ τ 10 15 = nI N ∧ OM τ N
def C0 (τ : mm_S) (N : Nat) : Prop := ∃ i, i < N ∧ τ 85 i = τ 83 0
theorem c_116 {d N : Nat} {Q : mm_Q} {τ : mm_S} {x : Int32} (O : MO τ N) (q0 : Q (some (.int (-1))) τ) (q1 : ∀ p, p < N → C0 τ N → Q (some (.int (nI p))) τ) : mD (d + 1) 116 [.ref 10, .int x] τ Q := by
  obtain ⟨n1, n42, e15, om⟩ := O
  refine ke_116 (kb_116_0 ?_)
  refine lp_dn (P := fun k => ∀ y z, (y = -1 ∨ ∃ i, i < N ∧ y = nI i ∧ τ 85 i = τ 83 0) → (z = -1 ∨ ∃ j, j < N ∧ z = nI j) → mw d mt_116 Q 7 [some (.ref 10), some (.int x), some (.int y), some (.int z), some (.int (nI k))] [] τ) N ?_ ?_ 0 (Nat.zero_le N) (-1) (-1) (Or.inl rfl) (Or.inl rfl)
  · intro y z hy hz
    refine kb_116_7 (fun _ => kb_116_63 (fun _ => kb_116_73 q0) (fun a => kb_116_68 (fun _ => kb_116_73 q0) (fun b => ?_))) (fun g => absurd (by rw [e15]; exact hI_le (by omega) (Nat.le_refl N)) g)
    obtain ⟨i, hi, ei, e85⟩ := hy.resolve_left a
    obtain ⟨j, hj, ej⟩ := hz.resolve_left b
    subst ei; subst ej
    refine kb_116_77 (by rw [e15]; exact nI_ne0 (by omega) (by omega)) ?_
    have e : nI j - nI i + nI N = nI (j + N - i) := by rw [i32_sw, nI_add, nI_sub (by omega)]
    rw [e15, e, rem_n0 N (by omega) (by omega) _ (by omega)]
    exact q1 _ (Nat.mod_lt _ (by omega)) ⟨i, hi, e85⟩
  · intro k hk ih y z hy hz
    have ck : (nI k).toNatClampNeg = k := nI_clamp (by omega)
    have nx : ∀ y z, (y = -1 ∨ ∃ i, i < N ∧ y = nI i ∧ τ 85 i = τ 83 0) → (z = -1 ∨ ∃ j, j < N ∧ z = nI j) → mw d mt_116 Q 7 [some (.ref 10), some (.int x), some (.int y), some (.int z), some (.int (nI k + 1))] [] τ := fun y z h1 h2 => by rw [nI_1]; exact ih y z h1 h2
    refine kb_116_7 (fun g => absurd g (by rw [e15]; exact hI_nle (by omega) hk)) (fun _ => kb_116_16 (pk_in k 48 (by omega)) (pk_in 0 4 (by decide)) (fun a => kb_116_32 (pk_in k 48 (by omega)) (fun _ => kb_116_50 (nx _ _ (Or.inr ⟨k, hk, rfl, ?_⟩) (Or.inr ⟨k, hk, rfl⟩))) (fun _ => kb_116_55 (nx _ _ (Or.inr ⟨k, hk, rfl, ?_⟩) hz))) (fun _ => kb_116_37 (pk_in k 48 (by omega)) (fun _ => kb_116_50 (nx _ _ hy (Or.inr ⟨k, hk, rfl⟩))) (fun _ => kb_116_55 (nx _ _ hy hz))))
    · rw [ck] at a; exact a
    · rw [ck] at a; exact a
/-- where the sides begin and end -/
def LC (τ : mm_S) (N : Nat) : Prop := ∀ c, c < 4 → ∃ p t, p ≤ N ∧ t ≤ N ∧ τ 92 c = nI p ∧ τ 93 c = nI t
theorem MO_cg {τ τ' : mm_S} {N : Nat} (h15 : τ' 10 15 = τ 10 15) (h85 : τ' 85 = τ 85) (O : MO τ N) : MO τ' N := by
  unfold MO OM at *
  rw [h15, h85]; exact O
theorem c_117 {d N : Nat} {Q : mm_Q} {τ : mm_S} (O : MO τ N) (q0 : ∀ τ', (∀ c, c ≠ 92 → c ≠ 93 → τ' c = τ c) → Q (some (.int 0)) τ') (q1 : ∀ τ', (∀ c, c ≠ 92 → c ≠ 93 → τ' c = τ c) → LC τ' N → C0 τ N → Q (some (.int 1)) τ') : mD (d + 2) 117 [.ref 10] τ Q := by
  obtain ⟨n1, n42, e15, om⟩ := id O
  have stop := q0 τ (fun _ _ _ => rfl)
  have go : mw (d + 1) mt_117 Q 54 [some (.ref 10), none, none, none] [] τ := by
    refine kb_117_54 ?_
    refine lp_dn (P := fun s => ∀ (ρ : mm_S) (y : Int32), (∀ c, c ≠ 92 → c ≠ 93 → ρ c = τ c) → (∀ c, c < s → ∃ p, p ≤ N ∧ ρ 92 c = nI p) → (s = 0 ∨ C0 τ N) → ∀ o3, mw (d + 1) mt_117 Q 58 [some (.ref 10), some (.int y), some (.int (nI s)), o3] [] ρ) 4 ?_ ?_ 0 (by omega) τ 0 (fun _ _ _ => rfl) (fun c h => absurd h (Nat.not_lt_zero c)) (Or.inl rfl) none
    · intro ρ y fr hp hc o3
      refine kb_117_58 (fun _ => kb_117_117 ?_) (fun g => absurd (by decide) g)
      refine lp_dn (P := fun s => ∀ (ρ : mm_S), (∀ c, c ≠ 92 → c ≠ 93 → ρ c = τ c) → (∀ c, c < 4 → ∃ p, p ≤ N ∧ ρ 92 c = nI p) → (∀ c, c < s → ∃ t, t ≤ N ∧ ρ 93 c = nI t) → mw (d + 1) mt_117 Q 119 [some (.ref 10), some (.int y), some (.int (nI s)), o3] [] ρ) 4 ?_ ?_ 0 (by omega) ρ fr hp (fun c h => absurd h (Nat.not_lt_zero c))
      · intro ρ fr hp ht
        refine kb_117_119 (fun _ => kb_117_156 (q1 ρ fr (fun c hc' => ?_) (hc.resolve_left (by decide)))) (fun g => absurd (by decide) g)
        obtain ⟨p, p1, p2⟩ := hp c hc'
        obtain ⟨t, t1, t2⟩ := ht c hc'
        exact ⟨p, t, p1, t1, p2, t2⟩
      · intro s hs ih ρ fr hp ht
        have cs : (nI s).toNatClampNeg = s := nI_clamp (by omega)
        have nx : ∀ t, t ≤ N → mw (d + 1) mt_117 Q 119 [some (.ref 10), some (.int y), some (.int (nI s + 1)), o3] [] (mm_up ρ 93 (nI s).toNatClampNeg (nI t)) := fun t htN => by
          rw [nI_1, cs]
          refine ih _ (fun c h1 h2 => by rw [mm_up_n h2]; exact fr c h1 h2) (fun c hc' => by rw [mm_up_n (by decide)]; exact hp c hc') (fun c hc' => ?_)
          by_cases e : c = s
          · subst e; exact ⟨t, htN, mm_up_s⟩
          · rw [mm_up_o e]; exact ht c (by omega)
        refine kb_117_119 (fun g => absurd g (hI_nle (a := 4) (by omega) hs)) (fun _ => kb_117_124 (fun _ => kb_117_145 (pk_in s 4 hs) ?_) (fun g => kb_117_134 ?_ (pk_in s 4 hs) ?_))
        · rw [fr 10 (by decide) (by decide), e15]; exact nx N (Nat.le_refl N)
        · rw [nI_1]
          refine pk_in (s + 1) 4 ?_
          rcases Nat.lt_or_ge s 3 with u | u
          · omega
          · exact absurd (hI_le (a := 3) (by omega) u) g
        · have s3 : s < 3 := by
            rcases Nat.lt_or_ge s 3 with u | u
            · exact u
            · exact absurd (hI_le (a := 3) (by omega) u) g
          obtain ⟨p, p1, p2⟩ := hp (s + 1) (by omega)
          have e92 : ρ 92 (nI s + 1).toNatClampNeg = nI p := by rw [nI_1, nI_clamp (by omega)]; exact p2
          rw [e92]; exact nx p p1
    · intro s hs ih ρ y fr hp hc o3
      have cs : (nI s).toNatClampNeg = s := nI_clamp (by omega)
      have O' : MO ρ N := MO_cg (by rw [fr 10 (by decide) (by decide)]) (fr 85 (by decide) (by decide)) O
      have z0 : ∀ x3, mw (d + 1) mt_117 Q 100 [some (.ref 10), some (.int y), some (.int (nI s)), some (.int x3)] [] ρ := fun x3 => kb_117_100 (q0 ρ fr)
      refine kb_117_58 (fun g => absurd g (hI_nle (a := 4) (by omega) hs)) (fun _ => kb_117_63 (pk_in s 4 hs) (c_116 O' (kb_117_73 (fun _ => kb_117_79 (q0 ρ fr)) (fun g => absurd rfl g)) (fun p hpN hC => kb_117_73 (fun g => absurd g (nI_m1 (by omega))) (fun _ => ?_))))
      have hC' : C0 τ N := by
        obtain ⟨i, hi, e⟩ := hC
        rw [fr 85 (by decide) (by decide), fr 83 (by decide) (by decide)] at e
        exact ⟨i, hi, e⟩
      have put : ∀ p, p ≤ N → mw (d + 1) mt_117 Q 102 [some (.ref 10), some (.int y), some (.int (nI s)), some (.int (nI p))] [] ρ := fun p hpN => by
        refine kb_117_102 (pk_in s 4 hs) ?_
        rw [nI_1, cs]
        refine ih _ _ (fun c h1 h2 => by rw [mm_up_n h1]; exact fr c h1 h2) (fun c hc' => ?_) (Or.inr hC') _
        by_cases e : c = s
        · subst e; exact ⟨p, hpN, mm_up_s⟩
        · rw [mm_up_o e]; exact hp c (by omega)
      have r15 : ρ 10 15 = nI N := O'.2.2.1
      refine kb_117_81 (fun _ => kb_117_95 (fun _ => put p (by omega)) (fun _ => z0 _)) (fun _ => kb_117_86 (fun _ => kb_117_90 ?_ ?_) (fun _ => kb_117_95 (fun _ => put p (by omega)) (fun _ => z0 _)))
      · rw [r15]; exact fun _ => put N (Nat.le_refl N)
      · rw [r15]; exact fun _ => z0 _
  refine ke_117 (kb_117_0 (fun _ => kb_117_52 stop) (fun _ => kb_117_7 (pk_in 0 4 (by decide)) (pk_in 1 4 (by decide)) (fun _ => kb_117_22 (pk_in 1 4 (by decide)) (pk_in 2 4 (by decide)) (fun _ => kb_117_37 (pk_in 2 4 (by decide)) (pk_in 3 4 (by decide)) (fun _ => kb_117_52 stop) (fun _ => go)) (fun _ => go)) (fun _ => go)))
theorem c_118 {d N p : Nat} {Q : mm_Q} {τ : mm_S} (O : MO τ N) (hC : C0 τ N) (hp : p ≤ 43) (q : ∀ r, r < 9 → Q (some (.int (nI r))) τ) : mD (d + 1) 118 [.ref 10, .int (nI p)] τ Q := by
  obtain ⟨n1, n42, e15, om⟩ := O
  obtain ⟨i0, hi0, ei0⟩ := hC
  have fin : ∀ i, i < N → mw d mt_118 Q 23 [some (.ref 10), some (.int (nI p)), some (.int (nI i))] [] τ := fun i hi => by
    have e : nI i + nI p - (nI i + nI p) / τ 10 15 * τ 10 15 = nI ((i + p) % N) := by rw [e15, nI_add]; exact rem_n0 N (by omega) (by omega) _ (by omega)
    have ml : (i + p) % N < N := Nat.mod_lt _ (by omega)
    obtain ⟨r, r9, er⟩ := om _ ml
    refine kb_118_23 (by rw [e15]; exact nI_ne0 (by omega) (by omega)) (by rw [e]; exact pk_in ((i + p) % N) 48 (by omega)) ?_
    rw [e, nI_clamp (show (i + p) % N < 2 ^ 31 by omega), er]
    exact q r r9
  refine ke_118 (kb_118_0 ?_)
  refine lp_dn (P := fun i => mw d mt_118 Q 2 [some (.ref 10), some (.int (nI p)), some (.int (nI i))] [] τ) i0 ?_ ?_ 0 (Nat.zero_le _)
  · refine kb_118_2 (pk_in i0 48 (by omega)) (pk_in 0 4 (by decide)) (fun _ => fin i0 hi0) (fun z => absurd ?_ z)
    rw [nI_clamp (by omega)]; exact ei0
  · intro i hi ih
    exact kb_118_2 (pk_in i 48 (by omega)) (pk_in 0 4 (by decide)) (fun _ => fin i (by omega)) (fun _ => kb_118_17 (by rw [nI_1]; exact ih))
theorem c_119 {d a b : Nat} {Q : mm_Q} {τ : mm_S} (ha : a < 13) (hb : b < 13) (q : ∀ τ', (∀ c, c ≠ 91 → τ' c = τ c) → Q none τ') : mD (d + 1) 119 [.ref 10, .int (nI a), .int (nI b)] τ Q :=
  ke_119 (kb_119_0 (pk_in a 13 ha) (pk_in a 13 ha) (pk_in b 13 hb) (pk_in b 13 hb) (q _ (fun c h => by rw [mm_up_n h, mm_up_n h])))
theorem nx4_rem : ∀ s, s < 4 → (nI s + 1) - (nI s + 1) / (4 : Int32) * (4 : Int32) = nI ((s + 1) % 4) := by decide
theorem c_120 {d n N : Nat} {Q : mm_Q} {σ τ : mm_S} (M : MK σ n) (t6 : τ 10 6 = σ 10 6) (t80 : τ 80 = σ 80) (t81 : τ 81 = σ 81) (O : MO τ N) (hC : C0 τ N) (hL : LC τ N) (q : ∀ τ', (∀ c, c ≠ 91 → τ' c = τ c) → Q none τ') : mD (d + 2) 120 [.ref 10] τ Q := by
  have n21 := M.jn.1
  refine ke_120 (kb_120_0 ?_)
  refine lp_dn (P := fun k => ∀ ρ : mm_S, (∀ c, c ≠ 91 → ρ c = τ c) → mw (d + 1) mt_120 Q 2 [some (.ref 10), some (.int (nI k)), none] [] ρ) 13 ?_ ?_ 0 (by omega) τ (fun _ _ => rfl)
  · intro ρ fr
    refine kb_120_2 (fun _ => kb_120_21 ?_) (fun g => absurd (by decide) g)
    refine lp_dn (P := fun k => ∀ ρ : mm_S, (∀ c, c ≠ 91 → ρ c = τ c) → mw (d + 1) mt_120 Q 23 [some (.ref 10), some (.int (nI k)), none] [] ρ) n ?_ ?_ 0 (Nat.zero_le n) ρ fr
    · intro ρ fr
      have e6 : ρ 10 6 = nI n := by rw [fr 10 (by decide), t6]; exact M.jn.2
      refine kb_120_23 (fun _ => kb_120_53 ?_) (fun g => absurd (by rw [e6]; exact hI_le (by omega) (Nat.le_refl n)) g)
      refine lp_dn (P := fun s => ∀ ρ : mm_S, (∀ c, c ≠ 91 → ρ c = τ c) → ∀ o2, mw (d + 1) mt_120 Q 55 [some (.ref 10), some (.int (nI s)), o2] [] ρ) 4 ?_ ?_ 0 (by omega) ρ fr none
      · intro ρ fr o2
        exact kb_120_55 (fun _ => kb_120_118 (q ρ fr)) (fun g => absurd (by decide) g)
      · intro s hs ih ρ fr o2
        have cs : (nI s).toNatClampNeg = s := nI_clamp (by omega)
        obtain ⟨p, t, hp, ht, e92, e93⟩ := hL s hs
        have n42 := O.2.1
        refine kb_120_55 (fun g => absurd g (hI_nle (a := 4) (by omega) hs)) (fun _ => kb_120_60 (pk_in s 4 hs) ?_)
        rw [cs, fr 92 (by decide), e92]
        refine lp_dn (P := fun x => ∀ ρ : mm_S, (∀ c, c ≠ 91 → ρ c = τ c) → mw (d + 1) mt_120 Q 67 [some (.ref 10), some (.int (nI s)), some (.int (nI x))] [] ρ) (max p (t + 1)) ?_ ?_ p (Nat.le_max_left _ _) ρ fr
        · intro ρ fr
          have r93 : ρ 93 (nI s).toNatClampNeg = nI t := by rw [cs, fr 93 (by decide)]; exact e93
          refine kb_120_67 (pk_in s 4 hs) (fun _ => kb_120_96 (by decide) ?_) (fun g => absurd (by rw [r93]; exact nI_lt (by omega) (by omega)) g)
          rw [nx4_rem s hs, nI_9, nI_9]
          exact c_119 (by omega) (by omega) (fun ρ' f' => kb_120_112 (by rw [nI_1]; exact ih ρ' (fun c h => by rw [f' c h]; exact fr c h) _))
        · intro x hx ihx ρ fr
          have r93 : ρ 93 (nI s).toNatClampNeg = nI t := by rw [cs, fr 93 (by decide)]; exact e93
          have O' : MO ρ N := MO_cg (by rw [fr 10 (by decide)]) (fr 85 (by decide)) O
          have hC' : C0 ρ N := by
            obtain ⟨i, hi, e⟩ := hC
            exact ⟨i, hi, by rw [fr 85 (by decide), fr 83 (by decide)]; exact e⟩
          refine kb_120_67 (pk_in s 4 hs) (fun _ => kb_120_96 (by decide) ?_) (fun g => kb_120_77 (c_118 O' hC' ?_ (fun r r9 => kb_120_87 ?_)))
          · rw [nx4_rem s hs, nI_9, nI_9]
            exact c_119 (by omega) (by omega) (fun ρ' f' => kb_120_112 (by rw [nI_1]; exact ih ρ' (fun c h => by rw [f' c h]; exact fr c h) _))
          · rw [r93] at g
            have : x ≤ t := by
              rcases Nat.lt_or_ge t x with u | u
              · exact absurd (nI_lt u (by omega)) g
              · exact u
            omega
          · rw [nI_9]
            exact c_119 (by omega) (by omega) (fun ρ' f' => kb_120_90 (by rw [nI_1]; exact ihx ρ' (fun c h => by rw [f' c h]; exact fr c h)))
    · intro k hk ih ρ fr
      have e6 : ρ 10 6 = nI n := by rw [fr 10 (by decide), t6]; exact M.jn.2
      obtain ⟨a, b, ha, hb, _, _, _, e1, e2⟩ := M.je k hk
      have ck : (nI k).toNatClampNeg = k := nI_clamp (by omega)
      refine kb_120_23 (fun g => absurd g (by rw [e6]; exact hI_nle (by omega) hk)) (fun _ => kb_120_31 (pk_in k 21 (by omega)) (pk_in k 21 (by omega)) ?_)
      rw [ck, fr 80 (by decide), fr 81 (by decide), t80, t81, e1, e2]
      exact c_119 (by omega) (by omega) (fun ρ' f' => kb_120_47 (by rw [nI_1]; exact ih ρ' (fun c h => by rw [f' c h]; exact fr c h)))
  · intro k hk ih ρ fr
    refine kb_120_2 (fun g => absurd g (hI_nle (a := 13) (by omega) hk)) (fun _ => kb_120_8 (pk_in k 13 hk) ?_)
    rw [nI_1]
    exact ih _ (fun c h => by rw [mm_up_n h]; exact fr c h)
theorem c_121 {d N f : Nat} {Q : mm_Q} {τ : mm_S} {x : Int32} (O : MO τ N) (hC : C0 τ N) (hL : LC τ N) (F : FM τ f) (q : ∀ y, y = 0 ∨ y = 1 → Q (some (.int y)) τ) : mD (d + 2) 121 [.ref 10, .int x] τ Q := by
  obtain ⟨f42, e19, _⟩ := F
  have n42 := O.2.1
  refine ke_121 (kb_121_0 ?_)
  refine lp_dn (P := fun g => mw (d + 1) mt_121 Q 2 [some (.ref 10), some (.int x), some (.int (nI g)), none] [] τ) f ?_ ?_ 0 (Nat.zero_le f)
  · refine kb_121_2 (fun _ => kb_121_28 ?_) (fun g => absurd (by rw [e19]; exact hI_le (by omega) (Nat.le_refl f)) g)
    refine lp_dn (P := fun s => ∀ o3, mw (d + 1) mt_121 Q 30 [some (.ref 10), some (.int x), some (.int (nI s)), o3] [] τ) 4 ?_ ?_ 0 (by omega) none
    · intro o3
      exact kb_121_30 (fun _ => kb_121_130 (q 0 (Or.inl rfl))) (fun g => absurd (by decide) g)
    · intro s hs ih o3
      have cs : (nI s).toNatClampNeg = s := nI_clamp (by omega)
      obtain ⟨p, t, hp, ht, e92, e93⟩ := hL s hs
      have r93 : τ 93 (nI s).toNatClampNeg = nI t := by rw [cs]; exact e93
      have last : ∀ x3, mw (d + 1) mt_121 Q 88 [some (.ref 10), some (.int x), some (.int (nI s)), some (.int x3)] [] τ := fun x3 => by
        refine kb_121_88 (by decide) (pk_in s 4 hs) ?_
        rw [r93]
        exact c_118 O hC (by omega) (fun r _ => kb_121_117 (fun _ => kb_121_122 (q 1 (Or.inr rfl))) (fun _ => kb_121_124 (by rw [nI_1]; exact ih _)))
      refine kb_121_30 (fun g => absurd g (hI_nle (a := 4) (by omega) hs)) (fun _ => kb_121_35 (pk_in s 4 hs) ?_)
      rw [cs, e92]
      refine lp_dn (P := fun y => mw (d + 1) mt_121 Q 42 [some (.ref 10), some (.int x), some (.int (nI s)), some (.int (nI y))] [] τ) (max p t) ?_ ?_ p (Nat.le_max_left _ _)
      · exact kb_121_42 (pk_in s 4 hs) (fun _ => last _) (fun g => absurd (by rw [r93]; exact hI_le (by omega) (Nat.le_max_right _ _)) g)
      · intro y hy ihy
        refine kb_121_42 (pk_in s 4 hs) (fun _ => last _) (fun g => kb_121_52 (c_118 O hC (by omega) (fun r _ => kb_121_65 ?_)))
        rw [nI_1]
        exact c_118 O hC (by omega) (fun r' _ => kb_121_75 (fun _ => kb_121_80 (q 1 (Or.inr rfl))) (fun _ => kb_121_82 (by rw [nI_1]; exact ihy)))
  · intro g hg ih
    exact kb_121_2 (fun z => absurd z (by rw [e19]; exact hI_nle (by omega) hg)) (fun _ => kb_121_10 (pk_in g 42 (by omega)) (fun _ => kb_121_20 (q 1 (Or.inr rfl))) (fun _ => kb_121_22 (by rw [nI_1]; exact ih)))
theorem c_122 {d N f : Nat} {Q : mm_Q} {τ : mm_S} (O : MO τ N) (hC : C0 τ N) (hL : LC τ N) (F : FM τ f) (q1 : ∀ x y z, Q (some (.int 1)) (mt3 τ 5 x y z)) (q0 : Q (some (.int 0)) τ) : mD (d + 3) 122 [.ref 10] τ Q := by
  refine ke_122 (kb_122_0 ?_)
  refine lp_dn (P := fun a => ∀ o2 o3 o4, mw (d + 2) mt_122 Q 2 [some (.ref 10), some (.int (nI a)), o2, o3, o4] [] τ) 13 ?_ ?_ 0 (by omega) none none none
  · intro o2 o3 o4
    exact kb_122_2 (fun _ => kb_122_114 q0) (fun g => absurd (by decide) g)
  · intro a ha iha o2 o3 o4
    refine kb_122_2 (fun g => absurd g (hI_nle (a := 13) (by omega) ha)) (fun _ => kb_122_8 ?_)
    rw [nI_1]
    refine lp_dn (P := fun b => a < b → ∀ o3 o4, mw (d + 2) mt_122 Q 12 [some (.ref 10), some (.int (nI a)), some (.int (nI b)), o3, o4] [] τ) 13 ?_ ?_ (a + 1) (by omega) (by omega) o3 o4
    · intro _ o3 o4
      exact kb_122_12 (fun _ => kb_122_108 (by rw [nI_1]; exact iha _ _ _)) (fun g => absurd (by decide) g)
    · intro b hb ihb hab o3 o4
      refine kb_122_12 (fun g => absurd g (hI_nle (a := 13) (by omega) hb)) (fun _ => kb_122_18 ?_)
      rw [nI_1]
      refine lp_dn (P := fun c => b < c → ∀ o4, mw (d + 2) mt_122 Q 22 [some (.ref 10), some (.int (nI a)), some (.int (nI b)), some (.int (nI c)), o4] [] τ) 13 ?_ ?_ (b + 1) (by omega) (by omega) o4
      · intro _ o4
        exact kb_122_22 (fun _ => kb_122_102 (by rw [nI_1]; exact ihb (by omega) _ _)) (fun g => absurd (by decide) g)
      · intro c hc ihc hbc o4
        refine kb_122_22 (fun g => absurd g (hI_nle (a := 13) (by omega) hc)) (fun _ => kb_122_28 (pk_in a 13 ha) (pk_in a 13 ha) (pk_in b 13 hb) (fun _ => kb_122_59 (by rw [nI_1]; exact ihc (by omega) _)) (fun _ => kb_122_62 (c_121 O hC hL F (fun y _ => kb_122_81 (fun _ => kb_122_87 ?_) (fun _ => kb_122_84 (by rw [nI_1]; exact ihc (by omega) _))))))
        rw [one_sh (by omega), one_sh (by omega), one_sh (by omega), or_bit, or_bit]
        have b3 := bcz_3 (n := 13) ha hb hc (by omega) (by omega) (by omega)
        refine c_114 ?_ (by omega) (fun x y z => kb_122_94 (q1 x y z))
        exact Nat.lt_of_lt_of_le (Nat.or_lt_two_pow (n := 13) (Nat.or_lt_two_pow (n := 13) (Nat.pow_lt_pow_right (by decide) ha) (Nat.pow_lt_pow_right (by decide) hb)) (Nat.pow_lt_pow_right (by decide) hc)) (by decide)

/-! class: firstSideOf, takePlaces -/
/-- HouseDesk$Sides.firstSideOf, from 0 -/
theorem ks_60_0 {d : Nat} {Q : mm_Q} {x1 : Int32} {σ : mm_S} (q0 : mw d mt_60 Q 2 [some (.ref 6), some (.int x1), some (.int (0 : Int32))] [] σ) : mD (d + 1) 60 [.ref 6, .int x1] σ Q := ke_60 (kb_60_0 q0)
/-- HouseDesk$Sides.firstSideOf, from 2 -/
theorem ks_60_2 {d : Nat} {Q : mm_Q} {x1 x2 : Int32} {σ : mm_S} (H1 : ¬ ((4 : Int32) ≤ x2) → vp_in x1 13) (q0 : (4 : Int32) ≤ x2 → Q (some (.int (0 : Int32))) σ) (q1 : ¬ ((4 : Int32) ≤ x2) → (f_53 σ x1 x2) = 0 → mw (d + 2) mt_60 Q 2 [some (.ref 6), some (.int x1), some (.int (x2 + 1))] [] σ) (q2 : ¬ ((4 : Int32) ≤ x2) → ¬ ((f_53 σ x1 x2) = 0) → (f_53 σ x1 (f_51 x2)) = 0 → Q (some (.int x2)) σ) (q3 : ¬ ((4 : Int32) ≤ x2) → ¬ ((f_53 σ x1 x2) = 0) → ¬ ((f_53 σ x1 (f_51 x2)) = 0) → mw (d + 2) mt_60 Q 2 [some (.ref 6), some (.int x1), some (.int (x2 + 1))] [] σ) : mw (d + 2) mt_60 Q 2 [some (.ref 6), some (.int x1), some (.int x2)] [] σ := (kb_60_2 (fun g0 => (kb_60_36 (q0 g0))) (fun g0 => (kb_60_7 (c_53 (H1 g0) (kb_60_13 (fun g1 => (kb_60_30 (q1 g0 g1))) (fun g1 => (kb_60_16 (c_51 (kb_60_22 (c_53 (H1 g0) (kb_60_25 (fun g2 => (kb_60_28 (q2 g0 g1 g2))) (fun g2 => (kb_60_30 (q3 g0 g1 g2))))))))))))))
theorem f_53_b {τ : mm_S} {r s : Nat} {K : Nat → Nat} (hr : r < 13) (hs : s < 4) (hK : τ 44 r = nI (K r) ∧ K r < 8192) : f_53 τ (nI r) (nI s) = 0 ↔ (K r).testBit (9 + s) = false := by
  unfold f_53
  rw [nI_clamp (show r < 2 ^ 31 by omega), hK.1, f_52_n s hs, and_bit]
  have hl : K r &&& 2 ^ (9 + s) < 2 ^ 13 := Nat.and_lt_two_pow _ (Nat.pow_lt_pow_right (by decide) (by omega))
  have key : nI (K r &&& 2 ^ (9 + s)) = 0 ↔ (K r).testBit (9 + s) = false := by
    rw [show (0 : Int32) = nI 0 from rfl, nI_eq (by omega) (by omega)]
    constructor
    · intro h
      have := congrArg (fun x => x.testBit (9 + s)) h
      simpa [Nat.testBit_and, Nat.testBit_two_pow_self] using this
    · intro h
      apply Nat.eq_of_testBit_eq
      intro i
      rw [Nat.testBit_and, Nat.testBit_two_pow]
      by_cases e : 9 + s = i
      · subst e; simp [h]
      · simp [e]
  by_cases c : nI (K r &&& 2 ^ (9 + s)) = 0
  · rw [if_pos c]; exact ⟨fun _ => key.mp c, fun _ => rfl⟩
  · rw [if_neg c]; exact ⟨fun z => absurd z (by decide), fun z => absurd (key.mpr z) c⟩
/-- the first side of a node -/
def FSd (K : Nat → Nat) (r s : Nat) : Prop := s < 4 ∧ (((K r).testBit (9 + s) = true ∧ (K r).testBit (9 + pv4 s) = false ∧ ∀ s', s' < s → ¬ ((K r).testBit (9 + s') = true ∧ (K r).testBit (9 + pv4 s') = false)) ∨ (s = 0 ∧ ∀ s', s' < 4 → (K r).testBit (9 + s') = true → (K r).testBit (9 + pv4 s') = true))
theorem FSd_on {K : Nat → Nat} {r s : Nat} (F : FSd K r s) (h : ∃ s', s' < 4 ∧ (K r).testBit (9 + s') = true) : (K r).testBit (9 + s) = true := by
  obtain ⟨hs, F⟩ := F
  rcases F with F | ⟨rfl, F⟩
  · exact F.1
  · obtain ⟨s', h1, h2⟩ := h
    have f1 := F 1 (by decide)
    have f2 := F 2 (by decide)
    have f3 := F 3 (by decide)
    simp only [pv4] at f1 f2 f3
    match s', h1, h2 with
    | 0, _, h2 => exact h2
    | 1, _, h2 => exact f1 h2
    | 2, _, h2 => exact f1 (f2 h2)
    | 3, _, h2 => exact f1 (f2 (f3 h2))
    | s' + 4, h1, _ => omega
theorem c_60 {d r : Nat} {Q : mm_Q} {τ : mm_S} {K : Nat → Nat} (hr : r < 13) (hK : τ 44 r = nI (K r) ∧ K r < 8192) (q : ∀ s, FSd K r s → Q (some (.int (nI s))) τ) : mD (d + 3) 60 [.ref 6, .int (nI r)] τ Q := by
  refine ks_60_0 ?_
  refine lp_dn (P := fun s => (∀ s', s' < s → ¬ ((K r).testBit (9 + s') = true ∧ (K r).testBit (9 + pv4 s') = false)) → mw (d + 2) mt_60 Q 2 [some (.ref 6), some (.int (nI r)), some (.int (nI s))] [] τ) 4 ?_ ?_ 0 (by omega) (fun s' h => absurd h (Nat.not_lt_zero s'))
  · intro h
    have g4 : (4 : Int32) ≤ nI 4 := by decide
    refine ks_60_2 (fun g => absurd g4 g) (fun _ => q 0 ⟨by decide, Or.inr ⟨rfl, fun s' h1 h2 => ?_⟩⟩) (fun g => absurd g4 g) (fun g => absurd g4 g) (fun g => absurd g4 g)
    cases z : (K r).testBit (9 + pv4 s') with
    | true => rfl
    | false => exact absurd ⟨h2, z⟩ (h s' h1)
  · intro s hs ih h
    obtain ⟨e51, p4⟩ := f_51_n s hs
    have b1 := f_53_b (K := K) hr hs hK
    have b2 := f_53_b (K := K) hr p4 hK
    have nx : ¬ ((K r).testBit (9 + s) = true ∧ (K r).testBit (9 + pv4 s) = false) → mw (d + 2) mt_60 Q 2 [some (.ref 6), some (.int (nI r)), some (.int (nI s + 1))] [] τ := fun hn => by
      rw [nI_1]
      refine ih (fun s' hs' => ?_)
      by_cases e : s' = s
      · subst e; exact hn
      · exact h s' (by omega)
    have tr : ¬ (K r).testBit (9 + s) = false → (K r).testBit (9 + s) = true := fun z => by
      cases y : (K r).testBit (9 + s) with
      | true => rfl
      | false => exact absurd y z
    refine ks_60_2 (fun _ => pk_in r 13 hr) (fun g => absurd g (hI_nle (a := 4) (by omega) hs)) (fun _ a => nx (fun z => ?_)) (fun _ a b => q s ⟨hs, Or.inl ⟨tr (fun z => a (b1.mpr z)), ?_, h⟩⟩) (fun _ a b => nx (fun z => ?_))
    · rw [b1.mp a] at z; exact absurd z.1 (by decide)
    · rw [e51] at b; exact b2.mp b
    · rw [e51] at b; exact b (b2.mpr z.2)
def bef (prev s0 : Nat) : Nat → Nat
  | 0 => prev
  | j + 1 => 9 + (s0 + j) % 4
theorem bef_inj {prev s0 i j : Nat} (hp : prev < 9) (hi : i ≤ 4) (hj : j ≤ 4) (h : bef prev s0 i = bef prev s0 j) : i = j := by
  match i, j with
  | 0, 0 => rfl
  | 0, j + 1 => simp only [bef] at h; omega
  | i + 1, 0 => simp only [bef] at h; omega
  | i + 1, j + 1 => simp only [bef] at h; omega
theorem bef_lt {prev s0 j : Nat} (hp : prev < 9) : bef prev s0 j < 13 := by
  match j with
  | 0 => simp only [bef]; omega
  | j + 1 => simp only [bef]; omega
/-- the row of an outline room with its sides put in -/
def RW (τ τ' : mm_S) (K : Nat → Nat) (r prev next s0 : Nat) : Prop := ∃ c, c ≤ 4 ∧ (∀ j, j < c → (K r).testBit (9 + (s0 + j) % 4) = true) ∧ (c = 4 ∨ (K r).testBit (9 + (s0 + c) % 4) = false) ∧ (∀ j, j < c → τ' (21 + 1 + r) (bef prev s0 j) = nI (9 + (s0 + j) % 4)) ∧ τ' (21 + 1 + r) (bef prev s0 c) = nI next ∧ ∀ v, (∀ j, j ≤ c → v ≠ bef prev s0 j) → τ' (21 + 1 + r) v = τ (21 + 1 + r) v
theorem nx4_mod : ∀ s, s < 4 → nx4 s = (s + 1) % 4 := by decide
theorem f_50_m {s j : Nat} : f_50 (nI ((s + j) % 4)) = nI ((s + (j + 1)) % 4) := by
  have h : (s + j) % 4 < 4 := Nat.mod_lt _ (by decide)
  rw [(f_50_n _ h).1, nx4_mod _ h, Nat.mod_add_mod]
  rfl
theorem OA_41 {τ : mm_S} {L k : Nat} {o : Nat → Nat} (O : OA τ L o) (hk : k < L) : f_41 τ (nI k) = nI (o ((k + L - 1) % L)) := by
  obtain ⟨l1, l9, e3, arr, -⟩ := O
  unfold f_41
  by_cases h : k = 0
  · subst h
    rw [if_pos (by decide), e3, show nI L - 1 = nI (L - 1) by obtain ⟨L', rfl⟩ : ∃ L', L = L' + 1 := ⟨L - 1, by omega⟩; exact nI_pred L', nI_clamp (by omega), (arr (L - 1) (by omega)).2.1, Nat.zero_add, Nat.mod_eq_of_lt (by omega)]
  · rw [if_neg (nI_nle (by omega) (by omega)), show nI k - 1 = nI (k - 1) by obtain ⟨k', rfl⟩ : ∃ k', k = k' + 1 := ⟨k - 1, by omega⟩; exact nI_pred k', nI_clamp (by omega), (arr (k - 1) (by omega)).2.1, show k + L - 1 = (k - 1) + L by omega, Nat.add_mod_right, Nat.mod_eq_of_lt (by omega)]
theorem c_59 {d L : Nat} {Q : mm_Q} {τ : mm_S} {o K : Nat → Nat} (O : OA τ L o) (dis : ∀ i j, i < j → j < L → o i ≠ o j) (hK : ∀ v, v < 13 → τ 44 v = nI (K v) ∧ K v < 8192)
    (q : ∀ τ' : mm_S, (∀ c, (c < 22 ∨ 30 < c) → τ' c = τ c) → (∀ r, r < 9 → (∀ k, k < L → o k ≠ r) → τ' (21 + 1 + r) = τ (21 + 1 + r)) → (∀ k, k < L → ∃ s0, FSd K (o k) s0 ∧ RW τ τ' K (o k) (o ((k + L - 1) % L)) (o ((k + 1) % L)) s0) → Q none τ') : mD (d + 4) 59 [.ref 6] τ Q := by
  obtain ⟨l1, l9, e3, arr, inv⟩ := id O
  refine ke_59 (kb_59_0 ?_)
  refine lp_dn (P := fun k => ∀ ρ : mm_S, (∀ c, (c < 22 ∨ 30 < c) → ρ c = τ c) → (∀ r, r < 9 → (∀ j, j < k → o j ≠ r) → ρ (21 + 1 + r) = τ (21 + 1 + r)) → (∀ j, j < k → ∃ s0, FSd K (o j) s0 ∧ RW τ ρ K (o j) (o ((j + L - 1) % L)) (o ((j + 1) % L)) s0) → ∀ o2 o3 o4 o5, mw (d + 3) mt_59 Q 2 [some (.ref 6), some (.int (nI k)), o2, o3, o4, o5] [] ρ) L ?_ ?_ 0 (Nat.zero_le L) τ (fun _ _ => rfl) (fun _ _ _ => rfl) (fun j hj => absurd hj (Nat.not_lt_zero j)) none none none none
  · intro ρ fr row rw' o2 o3 o4 o5
    refine kb_59_2 (fun _ => kb_59_118 (q ρ fr row rw')) (fun g => absurd ?_ g)
    rw [fr 5 (by omega), e3]; exact hI_le (by omega) (Nat.le_refl L)
  · intro k hk ih ρ fr row rw' o2 o3 o4 o5
    have ck : (nI k).toNatClampNeg = k := nI_clamp (by omega)
    have O' : OA ρ L o := OA_cg (by rw [fr 5 (by omega)]) (fr 31 (by omega)) (fr 32 (by omega)) O
    obtain ⟨r9, r31, r32⟩ := arr k hk
    have e31 : ρ 31 (nI k).toNatClampNeg = nI (o k) := by rw [ck, fr 31 (by omega)]; exact r31
    have pl : (k + L - 1) % L < L := Nat.mod_lt _ (by omega)
    have nl : (k + 1) % L < L := Nat.mod_lt _ (by omega)
    have p9 := (arr _ pl).1
    have n9 := (arr _ nl).1
    refine kb_59_2 (fun g => absurd g (by rw [fr 5 (by omega), e3]; exact hI_nle (by omega) hk)) (fun _ => kb_59_13 (pk_in k 9 (by omega)) (c_41 (fun _ => ?_) (fun z => ?_) ?_))
    · rw [fr 5 (by omega), e3, show nI L - 1 = nI (L - 1) by obtain ⟨L', rfl⟩ : ∃ L', L = L' + 1 := ⟨L - 1, by omega⟩; exact nI_pred L']
      exact pk_in (L - 1) 9 (by omega)
    · have k0 : k ≠ 0 := fun e => z (by rw [e]; decide)
      rw [show nI k - 1 = nI (k - 1) by obtain ⟨k', rfl⟩ : ∃ k', k = k' + 1 := ⟨k - 1, by omega⟩; exact nI_pred k']
      exact pk_in (k - 1) 9 (by omega)
    · rw [OA_41 O' hk, e31]
      generalize hpv : o ((k + L - 1) % L) = pv at *
      generalize hnx : o ((k + 1) % L) = nx at *
      have hK' : ∀ π : mm_S, (∀ c, (c < 22 ∨ 30 < c) → π c = τ c) → ∀ v, v < 13 → π 44 v = nI (K v) ∧ K v < 8192 := fun π h v hv => by rw [h 44 (by omega)]; exact hK v hv
      refine kb_59_31 (c_60 (by omega) (hK' ρ fr _ (by omega)) (fun s0 F => kb_59_37 ?_))
      have s4 := F.1
      have cr : (nI (o k)).toNatClampNeg = o k := nI_clamp (by omega)
      have fin : ∀ (c : Nat) (π : mm_S) (x4 x5 : Int32), c ≤ 4 → (∀ c, (c < 22 ∨ 30 < c) → π c = τ c) → (∀ r, r < 9 → r ≠ o k → π (21 + 1 + r) = ρ (21 + 1 + r)) → (∀ j, j < c → (K (o k)).testBit (9 + (s0 + j) % 4) = true) → (c = 4 ∨ (K (o k)).testBit (9 + (s0 + c) % 4) = false) → (∀ j, j < c → π (21 + 1 + o k) (bef pv s0 j) = nI (9 + (s0 + j) % 4)) → (∀ v, (∀ j, j < c → v ≠ bef pv s0 j) → π (21 + 1 + o k) v = ρ (21 + 1 + o k) v) → mw (d + 3) mt_59 Q 93 [some (.ref 6), some (.int (nI k)), some (.int (nI (o k))), some (.int (nI (bef pv s0 c))), some (.int x4), some (.int x5)] [] π := by
        intro c π x4 x5 hc frp oth on1 on2 w1 w2
        have O2 : OA π L o := OA_cg (by rw [frp 5 (by omega)]) (frp 31 (by omega)) (frp 32 (by omega)) O
        have bl := bef_lt (prev := pv) (s0 := s0) (j := c) p9
        refine kb_59_93 (pk_in _ 9 r9) (c_40 (fun z => ?_) ?_)
        · rw [nI_1]
          refine pk_in (k + 1) 9 ?_
          rw [frp 5 (by omega), e3, nI_1] at z
          rcases Nat.lt_or_ge (k + 1) L with y | y
          · omega
          · exact absurd (hI_le (by omega) y) z
        · rw [OA_40 O2 hk, hnx, cr]
          refine kb_59_111 (mr21n r9 bl) ?_
          rw [nI_1, nI_clamp (show bef pv s0 c < 2 ^ 31 by omega)]
          refine ih _ (fun c' h => by rw [mm_up_n (by omega)]; exact frp c' h) (fun r hr hn => ?_) (fun j hj => ?_) _ _ _ _
          · have hrk : r ≠ o k := fun e => hn k (by omega) e.symm
            rw [mm_up_n (by omega), oth r hr hrk]
            exact row r hr (fun j hj => hn j (by omega))
          · by_cases ej : j = k
            · subst ej
              refine ⟨s0, F, c, hc, on1, on2, fun i hi => ?_, ?_, fun v hv => ?_⟩
              · rw [hpv, mm_up_o (fun e => absurd (bef_inj p9 (by omega) hc e) (by omega))]; exact w1 i hi
              · rw [hpv, hnx]; exact mm_up_s
              · rw [hpv] at hv
                rw [mm_up_o (hv c (Nat.le_refl c)), w2 v (fun i hi => hv i (by omega)), row (o j) r9 (fun i hi => dis i j hi hk)]
            · obtain ⟨s1, F1, c1, a1, a2, a3, a4, a5, a6⟩ := rw' j (by omega)
              have ne : o j ≠ o k := dis j k (by omega) hk
              have j9 := (arr j (by omega)).1
              have same : (mm_up π (21 + 1 + o k) (bef pv s0 c) (nI nx)) (21 + 1 + o j) = ρ (21 + 1 + o j) := by
                rw [mm_up_n (by omega)]; exact oth _ j9 ne
              refine ⟨s1, F1, c1, a1, a2, a3, ?_, ?_, ?_⟩
              · rw [same]; exact a4
              · rw [same]; exact a5
              · rw [same]; exact a6
      refine lp_dn (P := fun n => ∀ π : mm_S, (∀ c, (c < 22 ∨ 30 < c) → π c = τ c) → (∀ r, r < 9 → r ≠ o k → π (21 + 1 + r) = ρ (21 + 1 + r)) → (∀ j, j < n → (K (o k)).testBit (9 + (s0 + j) % 4) = true) → (∀ j, j < n → π (21 + 1 + o k) (bef pv s0 j) = nI (9 + (s0 + j) % 4)) → (∀ v, (∀ j, j < n → v ≠ bef pv s0 j) → π (21 + 1 + o k) v = ρ (21 + 1 + o k) v) → mw (d + 3) mt_59 Q 42 [some (.ref 6), some (.int (nI k)), some (.int (nI (o k))), some (.int (nI (bef pv s0 n))), some (.int (nI ((s0 + n) % 4))), some (.int (nI n))] [] π) 4 ?_ ?_ 0 (by omega) ρ fr (fun _ _ _ => rfl) (fun j hj => absurd hj (Nat.not_lt_zero j)) (fun j hj => absurd hj (Nat.not_lt_zero j)) (fun _ _ => rfl) |> fun z => by
        rw [show (s0 + 0) % 4 = s0 by rw [Nat.add_zero]; exact Nat.mod_eq_of_lt s4] at z
        exact z
      · intro π frp oth on1 w1 w2
        exact kb_59_42 (fun _ => fin 4 π _ _ (Nat.le_refl 4) frp oth on1 (Or.inl rfl) w1 w2) (fun g => absurd (by decide) g)
      · intro n hn ihn π frp oth on1 w1 w2
        have m4 : (s0 + n) % 4 < 4 := Nat.mod_lt _ (by decide)
        have b53 := f_53_b (K := K) (r := o k) (s := (s0 + n) % 4) (by omega) m4 (hK' π frp _ (by omega))
        have bl := bef_lt (prev := pv) (s0 := s0) (j := n) p9
        refine kb_59_42 (fun g => absurd g (hI_nle (a := 4) (by omega) hn)) (fun _ => kb_59_48 (c_53 (pk_in (o k) 13 (by omega)) (kb_59_55 (fun z => fin n π _ _ (by omega) frp oth on1 (Or.inr (b53.mp z)) w1 w2) (fun z => kb_59_58 (pk_in _ 9 r9) (pk_in _ 13 bl) (c_50 (kb_59_85 ?_))))))
        have onn : (K (o k)).testBit (9 + (s0 + n) % 4) = true := by
          cases y : (K (o k)).testBit (9 + (s0 + n) % 4) with
          | true => rfl
          | false => exact absurd (b53.mpr y) z
        rw [nI_1, f_50_m, nI_9, cr, nI_clamp (show bef pv s0 n < 2 ^ 31 by omega)]
        refine ihn _ (fun c' h => by rw [mm_up_n (by omega)]; exact frp c' h) (fun r hr hne => by rw [mm_up_n (by omega)]; exact oth r hr hne) (fun j hj => ?_) (fun j hj => ?_) (fun v hv => ?_)
        · by_cases e : j = n
          · subst e; exact onn
          · exact on1 j (by omega)
        · by_cases e : j = n
          · subst e; exact mm_up_s
          · rw [mm_up_o (fun y => e (bef_inj p9 (by omega) (by omega) y))]; exact w1 j (by omega)
        · rw [mm_up_o (hv n (by omega))]; exact w2 v (fun j hj => hv j (by omega))

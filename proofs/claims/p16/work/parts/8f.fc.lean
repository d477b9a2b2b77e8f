-- the reference's faces are the class's
theorem it_mul {f : Nat × Nat → Nat × Nat} {x : Nat × Nat} {p : Nat} (h : it f x p = x) (r : Nat) : ∀ q, it f x (p * q + r) = it f x r
  | 0 => by rw [Nat.mul_zero, Nat.zero_add]
  | q + 1 => by
    rw [show p * (q + 1) + r = p + (p * q + r) by rw [Nat.mul_succ]; omega, it_add, h]
    exact it_mul h r q
theorem it_mod {f : Nat × Nat → Nat × Nat} {x : Nat × Nat} {p : Nat} (h : it f x p = x) (k : Nat) : it f x k = it f x (k % p) := by
  have := it_mul h (k % p) (k / p)
  rw [Nat.div_add_mod] at this
  exact this
def RF (σ ρ : mm_S) (m : Nat) (B : Nat → Nat → Nat) (G0 : Nat × Nat → Prop) (f : Nat) (y : Nat → Nat × Nat) : Prop :=
  (∀ g, g < f → Dt σ m (y g) ∧ ¬ G0 (y g) ∧ (∃ p, 1 ≤ p ∧ it (ph B) (y g) p = y g) ∧ ∃ M, M < 512 ∧ ρ 86 g = nI M ∧ ∀ a, (M.testBit a = true ↔ ∃ k, (it (ph B) (y g) k).1 = a)) ∧ (∀ g g', g < g' → g' < f → ∀ k, it (ph B) (y g) k ≠ y g')
def GG (B : Nat → Nat → Nat) (G0 : Nat × Nat → Prop) (f : Nat) (y : Nat → Nat × Nat) (x : Nat × Nat) : Prop := G0 x ∨ ∃ g k, g < f ∧ x = it (ph B) (y g) k
theorem GG_b {σ ρ : mm_S} {n m f : Nat} {B : Nat → Nat → Nat} {G0 : Nat × Nat → Prop} {y : Nat → Nat × Nat} (C : CK σ n m) (N0 : NC σ n) (H : BN σ m B) (b0 : ∀ x, Dt σ m x → G0 (ph B x) → G0 x) (R : RF σ ρ m B G0 f y) (x : Nat × Nat) (hx : Dt σ m x) (h : GG B G0 f y (ph B x)) : GG B G0 f y x := by
  rcases h with h | ⟨g, k, hg, e⟩
  · exact Or.inl (b0 x hx h)
  · refine Or.inr ⟨g, ?_⟩
    obtain ⟨D, _, ⟨p, p1, ep⟩, _⟩ := R.1 g hg
    have DX := it_D (D := Dt σ m) (fun x h => pn_D C H x h) D
    rcases Nat.eq_zero_or_pos k with z | z
    · subst z
      refine ⟨p - 1, hg, pn_inj C N0 H _ _ hx (DX _) ?_⟩
      rw [e]
      show y g = it (ph B) (y g) (p - 1 + 1)
      rw [show p - 1 + 1 = p by omega, ep]
    · refine ⟨k - 1, hg, pn_inj C N0 H _ _ hx (DX _) ?_⟩
      rw [e]
      show _ = it (ph B) (y g) (k - 1 + 1)
      rw [show k - 1 + 1 = k by omega]
theorem c_110s {d n m : Nat} {Q : mm_Q} {σ τ : mm_S} {B : Nat → Nat → Nat} {G0 : Nat × Nat → Prop} (Z : ZI σ n m) (N0 : NC σ n) (H : BN σ m B) (fr : ∀ c, c ≠ 10 → c ≠ 85 → c ≠ 87 → c ≠ 88 → c ≠ 99 → τ c = σ c) (t6 : τ 10 6 = σ 10 6) (A : AO σ τ n)
    (g0 : ∀ c, c < 2 * n → (¬ τ 99 c = 0 ↔ G0 (dcd σ c))) (b0 : ∀ x, Dt σ m x → G0 (ph B x) → G0 x)
    (q : ∀ τ' f y, (∀ c, c ≠ 10 → c ≠ 86 → c ≠ 99 → τ' c = τ c) → (∀ j, j ≠ 19 → τ' 10 j = τ 10 j) → f ≤ 42 → τ' 10 19 = nI f → RF σ τ' m B G0 f y → (∀ x, Dt σ m x → GG B G0 f y x) → Q none τ') : mD (d + 2) 110 [.ref 10] τ Q := by
  have M := Z.mk
  have C := Z.ck
  have n21 := M.jn.1
  refine ke_110 (kb_110_0 ?_)
  have GMx : ∀ ρ : mm_S, ∃ v, GM ρ v := fun ρ => by
    have : ∀ k, k ≤ 42 → ∃ v : Nat, ∀ c, c < 42 → (v.testBit c = true ↔ c < k ∧ ¬ ρ 99 c = 0) := by
      intro k
      induction k with
      | zero => intro _; exact ⟨0, fun c _ => ⟨fun z => absurd z (by simp), fun z => absurd z.1 (Nat.not_lt_zero c)⟩⟩
      | succ k ih =>
        intro hk
        obtain ⟨v, v2⟩ := ih (by omega)
        by_cases z : ρ 99 k = 0
        · refine ⟨v, fun c hc => ?_⟩
          rw [v2 c hc]
          constructor
          · rintro ⟨h1, h2⟩; exact ⟨by omega, h2⟩
          · rintro ⟨h1, h2⟩
            by_cases e : c = k
            · subst e; exact absurd z h2
            · exact ⟨by omega, h2⟩
        · refine ⟨v ||| 2 ^ k, fun c hc => ?_⟩
          rw [tb_or, v2 c hc]
          constructor
          · rintro (⟨h1, h2⟩ | h)
            · exact ⟨by omega, h2⟩
            · subst h; exact ⟨by omega, z⟩
          · rintro ⟨h1, h2⟩
            by_cases e : c = k
            · exact Or.inr e
            · exact Or.inl ⟨by omega, h2⟩
    obtain ⟨v, v2⟩ := this 42 (Nat.le_refl 42)
    exact ⟨v, fun c hc => (v2 c hc).trans ⟨fun h => h.2, fun h => ⟨hc, h⟩⟩⟩
  obtain ⟨v0, gv0⟩ := GMx τ
  refine lp_dn (P := fun w => ∀ (ρ : mm_S) (v f : Nat) (y : Nat → Nat × Nat), (∀ c, c ≠ 10 → c ≠ 86 → c ≠ 99 → ρ c = τ c) → (∀ j, j ≠ 19 → ρ 10 j = τ 10 j) → GM ρ v → f ≤ bc v 42 → ρ 10 19 = nI f → RF σ ρ m B G0 f y → (∀ c, c < 2 * n → (¬ ρ 99 c = 0 ↔ GG B G0 f y (dcd σ c))) → (∀ c, c < w → ¬ ρ 99 c = 0) → ∀ o2 o3 o4, mw (d + 1) mt_110 Q 7 [some (.ref 10), some (.int (nI w)), o2, o3, o4] [] ρ) (2 * n) ?_ ?_ 0 (Nat.zero_le _) (mm_up τ 10 19 0) v0 0 (fun _ => (0, 0)) (fun c h _ _ => mm_up_n h) (fun j hj => mm_up_o hj) (fun c hc => by rw [mm_up_n (by decide)]; exact gv0 c hc) (Nat.zero_le _) mm_up_s ⟨fun g hg => absurd hg (Nat.not_lt_zero g), fun g g' _ hg => absurd hg (Nat.not_lt_zero g')⟩ (fun c hc => by
      rw [mm_up_n (by decide), g0 c hc]
      exact ⟨Or.inl, fun h => h.resolve_right (fun ⟨g, k, hg, _⟩ => absurd hg (Nat.not_lt_zero g))⟩) (fun c hc => absurd hc (Nat.not_lt_zero c)) none none none
  · intro ρ v f y f1 f2 g hf e19 R G dn o2 o3 o4
    have e6 : (2 : Int32) * ρ 10 6 = nI (2 * n) := by rw [f2 6 (by decide), t6, M.jn.2]; exact nI_mul 2 n
    have := bc_n v 42
    refine kb_110_7 (fun _ => kb_110_136 (q ρ f y f1 f2 (by omega) e19 R (fun x hx => ?_))) (fun z => absurd (by rw [e6]; exact hI_le (by omega) (Nat.le_refl _)) z)
    obtain ⟨c, hc, e⟩ := dcd_ex C hx
    rw [← e]
    exact (G c hc).mp (dn c hc)
  · intro w hw ih ρ v f y f1 f2 g hf e19 R G dn o2 o3 o4
    have e6 : (2 : Int32) * ρ 10 6 = nI (2 * n) := by rw [f2 6 (by decide), t6, M.jn.2]; exact nI_mul 2 n
    have cw : (nI w).toNatClampNeg = w := nI_clamp (by omega)
    refine kb_110_7 (fun z => absurd z (by rw [e6]; exact hI_nle (by omega) hw)) (fun _ => kb_110_17 (pk_in w 42 (by omega)) (fun z => ?_) (fun z => kb_110_26 ?_))
    rotate_left
    · rw [cw] at z
      rw [nI_1]
      refine ih ρ v f y f1 f2 g hf e19 R G (fun c hc => ?_) _ _ _
      by_cases e : c = w
      · subst e; exact z
      · exact dn c (by omega)
    rw [cw] at z
    obtain ⟨h1, h2⟩ := half_n w (by omega)
    have hk : w / 2 < n := by omega
    obtain ⟨KW, e8, ww⟩ := dcd_KR Z hw
    generalize hx0 : dcd σ w = x0 at *
    have D0 : Dt σ m x0 := (KR_D Z KW).1
    have nG : ¬ GG B G0 f y x0 := fun h => by
      have := (G w hw).mpr (by rw [hx0]; exact h)
      exact this z
    have DX := it_D (D := Dt σ m) (fun x h => pn_D C H x h) D0
    have r80 : ∀ ρ : mm_S, (∀ c, c ≠ 10 → c ≠ 86 → c ≠ 99 → ρ c = τ c) → ρ 80 = σ 80 ∧ ρ 81 = σ 81 ∧ AO σ ρ n := fun ρ h => ⟨by rw [h 80 (by decide) (by decide) (by decide)]; exact fr 80 (by decide) (by decide) (by decide) (by decide) (by decide), by rw [h 81 (by decide) (by decide) (by decide)]; exact fr 81 (by decide) (by decide) (by decide) (by decide) (by decide), fun r' hr' => by rw [h 87 (by decide) (by decide) (by decide), h 88 (by decide) (by decide) (by decide)]; exact A r' hr'⟩
    -- where a face ends
    have fin : ∀ (i : Nat) (ρ : mm_S) (v r k X : Nat), (∀ c, c ≠ 10 → c ≠ 86 → c ≠ 99 → ρ c = τ c) → (∀ j, j ≠ 19 → ρ 10 j = τ 10 j) → GM ρ v → f ≤ bc v 42 → (i = 0 ∨ f < bc v 42) → ρ 10 19 = nI f → RF σ ρ m B G0 f y → KR σ n k r (it (ph B) x0 i) → (∀ c, c < 2 * n → (¬ ρ 99 c = 0 ↔ GG B G0 f y (dcd σ c) ∨ ∃ j, j < i ∧ dcd σ c = it (ph B) x0 j)) → (∀ a b, a < b → b < i → it (ph B) x0 a ≠ it (ph B) x0 b) → X < 512 → (∀ a, X.testBit a = true ↔ ∃ j, j < i ∧ (it (ph B) x0 j).1 = a) → (∀ c, c < w → ¬ ρ 99 c = 0) → ¬ ρ 99 (wfn σ k r) = 0 → mw (d + 1) mt_110 Q 109 [some (.ref 10), some (.int (nI w)), some (.int (nI k)), some (.int (nI r)), some (.int (nI X))] [] ρ := by
      intro i ρ v r k X f1 f2 g hf hst e19 R K Gi dis X9 Xb dn z
      obtain ⟨_, c1, c2⟩ := KR_D Z K
      have bk : ∀ i, GG B G0 f y (it (ph B) x0 i) → GG B G0 f y x0 := by
        intro i
        induction i with
        | zero => exact fun h => h
        | succ i ihi => exact fun h => ihi (GG_b C N0 H b0 R _ (DX i) h)
      obtain ⟨i1, per⟩ : 1 ≤ i ∧ it (ph B) x0 i = x0 := by
        rcases (Gi _ c1).mp z with h | ⟨j, hj, h⟩
        · rw [c2] at h; exact absurd (bk i h) nG
        · rw [c2] at h
          have j0 := it_back (D := Dt σ m) (fun x h => pn_D C H x h) (fun x y hx hy h => pn_inj C N0 H x y hx hy h) D0 hj h dis
          subst j0
          exact ⟨hj, h⟩
      have fl : f < bc v 42 := hst.resolve_left (by omega)
      have := bc_n v 42
      have orb : ∀ k, ∃ j, j < i ∧ it (ph B) x0 k = it (ph B) x0 j := fun k => ⟨k % i, Nat.mod_lt _ i1, it_mod per k⟩
      refine kb_110_109 (by rw [e19]; exact pk_in f 42 (by omega)) ?_
      rw [nI_1, e19, nI_clamp (show f < 2 ^ 31 by omega)]
      have e19' : (mm_up ρ 86 f (nI X)) 10 19 = nI f := by rw [mm_up_n (by decide)]; exact e19
      rw [e19', nI_1]
      obtain ⟨y', yf, yo⟩ : ∃ y' : Nat → Nat × Nat, y' f = x0 ∧ ∀ g, g ≠ f → y' g = y g := ⟨fun g => if g = f then x0 else y g, if_pos rfl, fun g h => if_neg h⟩
      refine ih _ v (f + 1) y' (fun c h1 h2 h3 => by rw [mm_up_n h1, mm_up_n h2]; exact f1 c h1 h2 h3) (fun j hj => by rw [mm_up_o hj, mm_up_n (by decide)]; exact f2 j hj) (fun c hc => by rw [mm_up_n (by decide), mm_up_n (by decide)]; exact g c hc) (by omega) mm_up_s ⟨fun g' hg' => ?_, fun g' g'' h1 h2 k => ?_⟩ (fun c hc => ?_) (fun c hc => ?_) _ _ _
      · by_cases eg : g' = f
        · rw [eg, yf]
          refine ⟨D0, fun h => nG (Or.inl h), ⟨i, i1, per⟩, X, X9, by rw [mm_up_n (by decide)]; exact mm_up_s, fun a => ?_⟩
          rw [Xb]
          constructor
          · rintro ⟨j, _, e⟩; exact ⟨j, e⟩
          · rintro ⟨k, e⟩
            obtain ⟨j, hj, e'⟩ := orb k
            exact ⟨j, hj, by rw [← e']; exact e⟩
        · rw [yo g' eg]
          obtain ⟨a1, a2, a3, M', m1, m2, m3⟩ := R.1 g' (by omega)
          exact ⟨a1, a2, a3, M', m1, by rw [mm_up_n (by decide), mm_up_o eg]; exact m2, m3⟩
      · rw [yo g' (by omega)]
        by_cases eg : g'' = f
        · rw [eg, yf]
          exact fun e => nG (Or.inr ⟨g', k, by omega, e.symm⟩)
        · rw [yo g'' eg]
          exact R.2 g' g'' h1 (by omega) k
      · rw [mm_up_n (by decide), mm_up_n (by decide), Gi c hc]
        constructor
        · rintro (h | ⟨j, hj, e⟩)
          · rcases h with h | ⟨g', k, hg', e⟩
            · exact Or.inl h
            · exact Or.inr ⟨g', k, by omega, by rw [yo g' (by omega)]; exact e⟩
          · exact Or.inr ⟨f, j, by omega, by rw [yf]; exact e⟩
        · rintro (h | ⟨g', k, hg', e⟩)
          · exact Or.inl (Or.inl h)
          · by_cases eg : g' = f
            · rw [eg, yf] at e
              obtain ⟨j, hj, e'⟩ := orb k
              exact Or.inr ⟨j, hj, e.trans e'⟩
            · rw [yo g' eg] at e
              exact Or.inl (Or.inr ⟨g', k, by omega, e⟩)
      · rw [mm_up_n (by decide), mm_up_n (by decide)]
        by_cases e : c = w
        · subst e
          exact (Gi c hw).mpr (Or.inr ⟨0, i1, hx0⟩)
        · exact dn c (by omega)
    -- the walk of one face
    have walk : ∀ (e i : Nat) (ρ : mm_S) (v r k X : Nat), bc v 42 + e = 42 → (∀ c, c ≠ 10 → c ≠ 86 → c ≠ 99 → ρ c = τ c) → (∀ j, j ≠ 19 → ρ 10 j = τ 10 j) → GM ρ v → f ≤ bc v 42 → (i = 0 ∨ f < bc v 42) → ρ 10 19 = nI f → RF σ ρ m B G0 f y → KR σ n k r (it (ph B) x0 i) → (∀ c, c < 2 * n → (¬ ρ 99 c = 0 ↔ GG B G0 f y (dcd σ c) ∨ ∃ j, j < i ∧ dcd σ c = it (ph B) x0 j)) → (∀ a b, a < b → b < i → it (ph B) x0 a ≠ it (ph B) x0 b) → X < 512 → (∀ a, X.testBit a = true ↔ ∃ j, j < i ∧ (it (ph B) x0 j).1 = a) → (∀ c, c < w → ¬ ρ 99 c = 0) → mw (d + 1) mt_110 Q 58 [some (.ref 10), some (.int (nI w)), some (.int (nI k)), some (.int (nI r)), some (.int (nI X))] [] ρ := by
      intro e
      induction e with
      | zero =>
        intro i ρ v r k X he f1 f2 g hf hst e19 R K Gi dis X9 Xb dn
        have kn := K.1
        have wr : wfn ρ k r = wfn σ k r := by unfold wfn; rw [(r80 ρ f1).1]
        have hw' : wfn σ k r < 42 := wfn_lt (by omega)
        have full := (g _ hw').mp (bc_full 42 (by omega) _ hw')
        exact kb_110_58 (c_106 (by omega) (kb_110_68 (by rw [wr]; exact pk_in _ 42 hw') (fun y => absurd y (by rw [wr, nI_clamp (by omega)]; exact full)) (fun _ => fin i ρ v r k X f1 f2 g hf hst e19 R K Gi dis X9 Xb dn full)))
      | succ e ihe =>
        intro i ρ v r k X he f1 f2 g hf hst e19 R K Gi dis X9 Xb dn
        have kn := K.1
        obtain ⟨x80, x81, xA⟩ := r80 ρ f1
        have wr : wfn ρ k r = wfn σ k r := by unfold wfn; rw [x80]
        have hw' : wfn σ k r < 42 := wfn_lt (by omega)
        refine kb_110_58 (c_106 (by omega) (kb_110_68 (by rw [wr]; exact pk_in _ 42 hw') (fun y' => kb_110_72 (c_106 (by omega) ?_)) (fun y' => fin i ρ v r k X f1 f2 g hf hst e19 R K Gi dis X9 Xb dn (by rw [wr, nI_clamp (by omega)] at y'; exact y'))))
        rw [wr] at y' ⊢
        obtain ⟨DN, c1, c2⟩ := KR_D Z K
        obtain ⟨hk', hr, he', x1, x2, x9⟩ := id K
        generalize hu : wfn σ k r = u at *
        rw [nI_clamp (show u < 2 ^ 31 by omega)] at y'
        obtain ⟨b1, b2, b3⟩ := Dt_2 C DN
        have emo : em σ (it (ph B) x0 i).2 k := by
          obtain ⟨o, o9, _, _, _, eo, emo, _⟩ := Z.ot hk' hr he'
          have := nI9 o9 x9 (eo.symm.trans x2)
          rw [← this]; exact emo
        have new : ∀ j, j < i → it (ph B) x0 j ≠ it (ph B) x0 i := fun j hj e => (Gi u c1).mpr (Or.inr ⟨j, hj, by rw [c2, e]⟩) y'
        have vw : ¬ v.testBit u = true := fun z => (g u hw').mp z y'
        refine kb_110_82 (pk_in u 42 hw') ?_
        rw [nar_1, nI_clamp (show u < 2 ^ 31 by omega)]
        have f3 : ∀ c, c ≠ 10 → c ≠ 86 → c ≠ 99 → (mm_up ρ 99 u 1) c = τ c := fun c h1 h2 h3 => by rw [mm_up_n h3]; exact f1 c h1 h2 h3
        obtain ⟨y80, y81, yA⟩ := r80 _ f3
        refine c_101 (pk_in k 21 (by omega)) ?_
        have e101 : f_101 (mm_up ρ 99 u 1) (nI k) (nI r) = nI (it (ph B) x0 i).2 := by
          rw [← x2]; unfold f_101; rw [y80, y81]
        rw [e101]
        refine kb_110_98 (c_105s Z N0 yA b1 hk' emo (fun k' o o' hk'' he'' h1 h2 h3 => kb_110_105 ?_))
        have KN : KR σ n k' (it (ph B) x0 i).2 (it (ph B) x0 (i + 1)) := KR_nx Z H K hk'' he'' h1 h2 h3
        rw [one_sh (by omega), or_bit]
        have bn : bc (v ||| 2 ^ u) 42 = bc v 42 + 1 := by rw [bc_add vw, if_pos hw']
        refine ihe (i + 1) _ (v ||| 2 ^ u) _ k' _ (by omega) f3 (fun j hj => by rw [mm_up_n (by decide)]; exact f2 j hj) (fun c hc => ?_) (by omega) (Or.inr (by omega)) (by rw [mm_up_n (by decide)]; exact e19) ⟨fun g' hg' => ?_, R.2⟩ KN (fun c hc => ?_) (fun a b u1 u2 => ?_) (Nat.or_lt_two_pow (n := 9) X9 (Nat.pow_lt_pow_right (by decide) hr)) (fun a => ?_) (fun c hc => ?_)
        · rw [tb_or]
          by_cases e : c = u
          · subst e
            rw [mm_up_s]
            exact ⟨fun _ => by decide, fun _ => Or.inr rfl⟩
          · rw [mm_up_o e, ← g c hc]
            exact ⟨fun y => y.resolve_right e, Or.inl⟩
        · obtain ⟨a1, a2, a3, M', m1, m2, m3⟩ := R.1 g' hg'
          exact ⟨a1, a2, a3, M', m1, by rw [mm_up_n (by decide)]; exact m2, m3⟩
        · by_cases e : c = u
          · subst e
            rw [mm_up_s]
            exact ⟨fun _ => Or.inr ⟨i, by omega, c2⟩, fun _ => by decide⟩
          · rw [mm_up_o e, Gi c hc]
            constructor
            · rintro (h | ⟨j, hj, h⟩)
              · exact Or.inl h
              · exact Or.inr ⟨j, by omega, h⟩
            · rintro (h | ⟨j, hj, h⟩)
              · exact Or.inl h
              · by_cases ej : j = i
                · subst ej
                  rw [← c2] at h
                  exact absurd (dcd_inj Z hc c1 h) e
                · exact Or.inr ⟨j, by omega, h⟩
        · by_cases e : b = i
          · subst e; exact new a u1
          · exact dis a b u1 (by omega)
        · rw [tb_or, Xb]
          constructor
          · rintro (⟨j, hj, e⟩ | e)
            · exact ⟨j, by omega, e⟩
            · exact ⟨i, by omega, by rw [e]; exact x1⟩
          · rintro ⟨j, hj, e⟩
            by_cases ej : j = i
            · subst ej; exact Or.inr (by rw [← e]; exact x1)
            · exact Or.inl ⟨j, by omega, e⟩
        · by_cases e : c = u
          · subst e; rw [mm_up_s]; decide
          · rw [mm_up_o e]; exact dn c hc
    obtain ⟨x80, x81, xA⟩ := r80 ρ f1
    have ck : (nI (w / 2)).toNatClampNeg = w / 2 := nI_clamp (by omega)
    have bl := bc_n v 42
    have start : mw (d + 1) mt_110 Q 58 [some (.ref 10), some (.int (nI w)), some (.int (nI (w / 2))), some (.int (nI x0.1)), some (.int (nI 0))] [] ρ := walk (42 - bc v 42) 0 ρ v x0.1 (w / 2) 0 (by omega) f1 f2 g hf (Or.inl rfl) e19 R KW (fun c hc => by rw [G c hc]; exact ⟨Or.inl, fun h => h.resolve_right (fun ⟨j, hj, _⟩ => absurd hj (Nat.not_lt_zero j))⟩) (fun a b _ h => absurd h (Nat.not_lt_zero b)) (by decide) (fun a => ⟨fun z => absurd z (by simp), fun ⟨j, hj, _⟩ => absurd hj (Nat.not_lt_zero j)⟩) dn
    refine kb_110_29 (by decide) (by decide) (fun y' => ?_) (fun y' => ?_)
    · rw [h1]
      rw [h2] at y'
      have ev : w % 2 = 0 := (nI_eq (b := 0) (by omega) (by omega)).mp y'
      refine kb_110_39 (pk_in (w / 2) 21 (by omega)) ?_
      rw [if_pos ev] at e8
      rw [ck, x80, e8]
      exact start
    · rw [h1]
      rw [h2] at y'
      have od : ¬ w % 2 = 0 := fun u => by rw [u] at y'; exact y' rfl
      refine kb_110_48 (pk_in (w / 2) 21 (by omega)) ?_
      rw [if_neg od] at e8
      rw [ck, x81, e8]
      exact start


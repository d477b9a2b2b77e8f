/-! the reference: the rings -/
theorem ex_min {P : Nat → Prop} (h : ∃ k, P k) : ∃ k, P k ∧ ∀ i, i < k → ¬ P i := by
  obtain ⟨k, hk⟩ := h
  have key : ∀ k, P k → ∃ k, P k ∧ ∀ i, i < k → ¬ P i := by
    intro k
    induction k using Nat.strongRecOn with
    | ind k ih =>
      intro hk
      by_cases z : ∃ i, i < k ∧ P i
      · obtain ⟨i, hi, pi⟩ := z; exact ih i hi pi
      · exact ⟨k, hk, fun i hi pi => z ⟨i, hi, pi⟩⟩
  exact key k hk
theorem ex90 {n : Nat} {σ : mm_S} (hn : n ≤ 21) (a b : Int32) : ∃ v, ∀ (τ : mm_S) (Q : mm_Q) (d : Nat), τ 10 6 = nI n → τ 80 = σ 80 → τ 81 = σ 81 → Q (some (.int v)) τ → mD (d + 1) 90 [.ref 10, .int a, .int b] τ Q := by
  have cg : ∀ τ : mm_S, τ 80 = σ 80 → τ 81 = σ 81 → ∀ j, mjn τ a b j ↔ mjn σ a b j := fun τ h1 h2 j => by unfold mjn; rw [h1, h2]
  by_cases z : ∃ j, j < n ∧ mjn σ a b j
  · obtain ⟨j0, ⟨h1, h2⟩, h3⟩ := ex_min z
    refine ⟨nI j0, fun τ Q d e6 e80 e81 q => c_90 hn e6 (fun j hj hm hmin => ?_) (fun hall => absurd ((cg τ e80 e81 j0).mpr h2) (hall j0 h1))⟩
    have e : j = j0 := by
      rcases Nat.lt_trichotomy j j0 with y | y | y
      · exact absurd ⟨hj, (cg τ e80 e81 j).mp hm⟩ (h3 j y)
      · exact y
      · exact absurd ((cg τ e80 e81 j0).mpr h2) (hmin j0 y)
    rw [e]; exact q
  · exact ⟨-1, fun τ Q d e6 e80 e81 q => c_90 hn e6 (fun j hj hm _ => absurd ⟨j, hj, (cg τ e80 e81 j).mp hm⟩ z) (fun _ => q)⟩
theorem ex125 {n N : Nat} {σ : mm_S} (hn : n ≤ 21) (O : MO σ N) (x : Int32) : ∃ v, ∀ (τ : mm_S) (Q : mm_Q) (d : Nat), τ 10 6 = nI n → τ 10 15 = σ 10 15 → τ 85 = σ 85 → τ 80 = σ 80 → τ 81 = σ 81 → Q (some (.int v)) τ → mD (d + 2) 125 [.ref 10, .int x] τ Q := by
  obtain ⟨n1, n42, e15, om⟩ := O
  by_cases z : ∃ k, k < N ∧ σ 85 k = x
  · obtain ⟨k0, ⟨h1, h2⟩, h3⟩ := ex_min z
    obtain ⟨r, r9, er⟩ := om ((k0 + N - 1) % N) (Nat.mod_lt _ (by omega))
    obtain ⟨v, hv⟩ := ex90 (σ := σ) hn (nI r) x
    refine ⟨v, fun τ Q d e6 t15 t85 t80 t81 q => ke_125 (kb_125_0 ?_)⟩
    have r15 : τ 10 15 = nI N := by rw [t15]; exact e15
    refine lp_dn (P := fun k => mw (d + 1) mt_125 Q 2 [some (.ref 10), some (.int x), some (.int (nI k))] [] τ) k0 ?_ ?_ 0 (Nat.zero_le _)
    · have e : nI k0 + nI N - 1 - (nI k0 + nI N - 1) / nI N * nI N = nI ((k0 + N - 1) % N) := by
        rw [nI_add, show nI (k0 + N) - 1 = nI (k0 + N - 1) by rw [show (1 : Int32) = nI 1 from rfl]; exact nI_sub (by omega)]
        exact rem_n0 N (by omega) (by omega) _ (by omega)
      refine kb_125_2 (fun g => absurd g (by rw [r15]; exact hI_nle (by omega) h1)) (fun _ => kb_125_10 (pk_in k0 48 (by omega)) (fun _ => kb_125_20 (by rw [r15]; exact nI_ne0 (by omega) (by omega)) ?_ ?_) (fun g => absurd ?_ g))
      · rw [r15, e]; exact pk_in ((k0 + N - 1) % N) 48 (by have := Nat.mod_lt (k0 + N - 1) (show N > 0 by omega); omega)
      · rw [r15, e, nI_clamp (by have := Nat.mod_lt (k0 + N - 1) (show N > 0 by omega); omega), t85, er]
        exact hv τ _ d e6 t80 t81 (kb_125_43 q)
      · rw [nI_clamp (by omega), t85]; exact h2
    · intro k hk ih
      refine kb_125_2 (fun g => absurd g (by rw [r15]; exact hI_nle (by omega) (by omega))) (fun _ => kb_125_10 (pk_in k 48 (by omega)) (fun g => absurd ⟨by omega, ?_⟩ (h3 k hk)) (fun _ => kb_125_44 (by rw [nI_1]; exact ih)))
      rw [nI_clamp (by omega), t85] at g; exact g
  · refine ⟨-1, fun τ Q d e6 t15 t85 t80 t81 q => ke_125 (kb_125_0 ?_)⟩
    have r15 : τ 10 15 = nI N := by rw [t15]; exact e15
    refine lp_dn (P := fun k => mw (d + 1) mt_125 Q 2 [some (.ref 10), some (.int x), some (.int (nI k))] [] τ) N ?_ ?_ 0 (Nat.zero_le _)
    · exact kb_125_2 (fun _ => kb_125_50 q) (fun g => absurd (by rw [r15]; exact hI_le (by omega) (Nat.le_refl N)) g)
    · intro k hk ih
      refine kb_125_2 (fun g => absurd g (by rw [r15]; exact hI_nle (by omega) hk)) (fun _ => kb_125_10 (pk_in k 48 (by omega)) (fun g => absurd ⟨k, hk, ?_⟩ z) (fun _ => kb_125_44 (by rw [nI_1]; exact ih)))
      rw [nI_clamp (by omega), t85] at g; exact g
/-- the ring of room r has z entries -/
def RZ (τ : mm_S) (n r z : Nat) : Prop := τ 89 r = nI z ∧ ∀ i, i < z → (∃ k, k < n ∧ τ 90 (16 * r + i) = nI k) ∨ ∃ s, s < 4 ∧ τ 90 (16 * r + i) = nI (41 + s)
def RG (τ : mm_S) (n : Nat) : Prop := ∀ r, r < 9 → ∃ z, z ≤ 16 ∧ RZ τ n r z
/-- only the ring of room r changed -/
def rfr (τ τ' : mm_S) (r : Nat) : Prop := (∀ c, c ≠ 89 → c ≠ 90 → τ' c = τ c) ∧ (∀ x, x ≠ r → τ' 89 x = τ 89 x) ∧ ∀ x, (x < 16 * r ∨ 16 * r + 16 ≤ x) → τ' 90 x = τ 90 x
theorem rfr_t {τ τ' τ'' : mm_S} {r : Nat} (h : rfr τ τ' r) (h' : rfr τ' τ'' r) : rfr τ τ'' r := ⟨fun c h1 h2 => by rw [h'.1 c h1 h2]; exact h.1 c h1 h2, fun x hx => by rw [h'.2.1 x hx]; exact h.2.1 x hx, fun x hx => by rw [h'.2.2 x hx]; exact h.2.2 x hx⟩
theorem c_124 {d n r z w : Nat} {Q : mm_Q} {τ : mm_S} (hr : r < 9) (hz : z < 16) (R : RZ τ n r z) (hw : w < n ∨ ∃ s, s < 4 ∧ w = 41 + s) (q : ∀ τ', rfr τ τ' r → RZ τ' n r (z + 1) → Q none τ') : mD (d + 1) 124 [.ref 10, .int (nI r), .int (nI w)] τ Q := by
  have cr : (nI r).toNatClampNeg = r := nI_clamp (by omega)
  have e : (16 : Int32) * nI r + τ 89 (nI r).toNatClampNeg = nI (16 * r + z) := by rw [cr, R.1]; exact nI_16
  refine ke_124 (kb_124_0 (pk_in r 9 hr) (by rw [e]; exact pk_in (16 * r + z) 144 (by omega)) (pk_in r 9 hr) (pk_in r 9 hr) ?_)
  rw [e, nI_clamp (show 16 * r + z < 2 ^ 31 by omega), cr]
  have e89 : (mm_up τ 90 (16 * r + z) (nI w)) 89 r = nI z := by rw [mm_up_n (by decide)]; exact R.1
  rw [e89, nI_1]
  refine q _ ⟨fun c h1 h2 => by rw [mm_up_n h1, mm_up_n h2], fun x hx => by rw [mm_up_o hx, mm_up_n (by decide)], fun x hx => by rw [mm_up_n (by decide), mm_up_o (by omega)]⟩ ⟨mm_up_s, fun i hi => ?_⟩
  rw [mm_up_n (by decide)]
  by_cases ei : i = z
  · subst ei
    rw [mm_up_s]
    rcases hw with h | ⟨s, hs, h⟩
    · exact Or.inl ⟨w, h, rfl⟩
    · exact Or.inr ⟨s, hs, by rw [h]⟩
  · rw [mm_up_o (by omega)]; exact R.2 i (by omega)
theorem c_126 {d n N r z : Nat} {Q : mm_Q} {τ : mm_S} (O : MO τ N) (hr : r < 9) (hz : z + 8 ≤ 16) (R : RZ τ n r z) (q : ∀ τ' z', z' ≤ z + 8 → rfr τ τ' r → RZ τ' n r z' → Q none τ') : mD (d + 2) 126 [.ref 10, .int (nI r)] τ Q := by
  have e41 : ∀ s, (41 : Int32) + nI s = nI (41 + s) := fun s => nI_add 41 s
  have go : ∀ x, mw (d + 1) mt_126 Q 5 [some (.ref 10), some (.int (nI r)), none, none] [.int x] τ := by
    intro x
    refine kb_126_5 ?_
    refine lp_dn (P := fun s => ∀ (ρ : mm_S) (y : Nat), y ≤ z + s → rfr τ ρ r → RZ ρ n r y → mw (d + 1) mt_126 Q 8 [some (.ref 10), some (.int (nI r)), some (.int x), some (.int (nI s))] [] ρ) 4 ?_ ?_ 0 (by omega) τ z (by omega) ⟨fun _ _ _ => rfl, fun _ _ => rfl, fun _ _ => rfl⟩ R
    · intro ρ y hy f R
      have sec : ∀ x3, mw (d + 1) mt_126 Q 45 [some (.ref 10), some (.int (nI r)), some (.int x), some (.int x3)] [] ρ := fun x3 => by
        refine kb_126_45 ?_
        refine lp_dn (P := fun s => ∀ (ρ : mm_S) (y : Nat), y ≤ z + 4 + s → rfr τ ρ r → RZ ρ n r y → mw (d + 1) mt_126 Q 47 [some (.ref 10), some (.int (nI r)), some (.int x), some (.int (nI s))] [] ρ) 4 ?_ ?_ 0 (by omega) ρ y (by omega) f R
        · intro ρ y hy f R
          exact kb_126_47 (fun _ => kb_126_100 (q ρ y (by omega) f R)) (fun g => absurd (by decide) g)
        · intro s hs ih ρ y hy f R
          have sk : mw (d + 1) mt_126 Q 94 [some (.ref 10), some (.int (nI r)), some (.int x), some (.int (nI s))] [] ρ := kb_126_94 (by rw [nI_1]; exact ih ρ y (by omega) f R)
          refine kb_126_47 (fun g => absurd g (hI_nle (a := 4) (by omega) hs)) (fun _ => kb_126_52 (pk_in s 4 hs) (fun _ => sk) (fun _ => kb_126_62 (pk_in s 4 hs) (fun _ => sk) (fun _ => kb_126_72 (pk_in s 4 hs) (fun _ => sk) (fun _ => kb_126_85 ?_))))
          rw [e41]
          exact c_124 hr (by omega) R (Or.inr ⟨s, hs, rfl⟩) (fun ρ' f' R' => kb_126_94 (by rw [nI_1]; exact ih ρ' (y + 1) (by omega) (rfr_t f f') R'))
      exact kb_126_8 (fun _ => sec _) (fun g => absurd (by decide) g)
    · intro s hs ih ρ y hy f R
      have sec : ∀ x3, mw (d + 1) mt_126 Q 45 [some (.ref 10), some (.int (nI r)), some (.int x), some (.int x3)] [] ρ := fun x3 => by
        refine kb_126_45 ?_
        refine lp_dn (P := fun s => ∀ (ρ : mm_S) (y : Nat), y ≤ z + 4 + s → rfr τ ρ r → RZ ρ n r y → mw (d + 1) mt_126 Q 47 [some (.ref 10), some (.int (nI r)), some (.int x), some (.int (nI s))] [] ρ) 4 ?_ ?_ 0 (by omega) ρ y (by omega) f R
        · intro ρ y hy f R
          exact kb_126_47 (fun _ => kb_126_100 (q ρ y (by omega) f R)) (fun g => absurd (by decide) g)
        · intro s hs ih ρ y hy f R
          have sk : mw (d + 1) mt_126 Q 94 [some (.ref 10), some (.int (nI r)), some (.int x), some (.int (nI s))] [] ρ := kb_126_94 (by rw [nI_1]; exact ih ρ y (by omega) f R)
          refine kb_126_47 (fun g => absurd g (hI_nle (a := 4) (by omega) hs)) (fun _ => kb_126_52 (pk_in s 4 hs) (fun _ => sk) (fun _ => kb_126_62 (pk_in s 4 hs) (fun _ => sk) (fun _ => kb_126_72 (pk_in s 4 hs) (fun _ => sk) (fun _ => kb_126_85 ?_))))
          rw [e41]
          exact c_124 hr (by omega) R (Or.inr ⟨s, hs, rfl⟩) (fun ρ' f' R' => kb_126_94 (by rw [nI_1]; exact ih ρ' (y + 1) (by omega) (rfr_t f f') R'))
      refine kb_126_8 (fun g => absurd g (hI_nle (a := 4) (by omega) hs)) (fun _ => kb_126_13 (fun _ => kb_126_17 (pk_in s 4 hs) (fun _ => kb_126_30 ?_) (fun _ => kb_126_39 (by rw [nI_1]; exact ih ρ y (by omega) f R))) (fun _ => sec _))
      rw [e41]
      exact c_124 hr (by omega) R (Or.inr ⟨s, hs, rfl⟩) (fun ρ' f' R' => kb_126_39 (by rw [nI_1]; exact ih ρ' (y + 1) (by omega) (rfr_t f f') R'))
  exact ke_126 (kb_126_0 (c_116 O (go _) (fun p _ _ => go _)))
theorem c_123 {d n N : Nat} {Q : mm_Q} {σ τ : mm_S} (hn : n ≤ 21) (t6 : τ 10 6 = nI n) (A : AR σ τ n) (O : MO τ N) (q : ∀ τ', (∀ c, c ≠ 89 → c ≠ 90 → τ' c = τ c) → RG τ' n → Q none τ') : mD (d + 3) 123 [.ref 10] τ Q := by
  refine ke_123 (kb_123_0 ?_)
  refine lp_dn (P := fun r => ∀ ρ : mm_S, (∀ c, c ≠ 89 → c ≠ 90 → ρ c = τ c) → (∀ r', r' < r → ∃ z, z ≤ 16 ∧ RZ ρ n r' z) → ∀ o2 o3, mw (d + 2) mt_123 Q 2 [some (.ref 10), some (.int (nI r)), o2, o3] [] ρ) 9 ?_ ?_ 0 (by omega) τ (fun _ _ _ => rfl) (fun r' h => absurd h (Nat.not_lt_zero r')) none none
  · intro ρ fr hR o2 o3
    exact kb_123_2 (fun _ => kb_123_71 (q ρ fr hR)) (fun g => absurd (by decide) g)
  · intro r hr ih ρ fr hR o2 o3
    obtain ⟨dg, d8, e87, a1, a2, a4⟩ := A r hr
    obtain ⟨v, hv⟩ := ex125 (σ := τ) hn O (nI r)
    have cr : (nI r).toNatClampNeg = r := nI_clamp (by omega)
    have keep : ∀ (π π' : mm_S), rfr π π' r → (∀ r', r' < r → ∃ z, z ≤ 16 ∧ RZ π n r' z) → ∀ r', r' < r → ∃ z, z ≤ 16 ∧ RZ π' n r' z := fun π π' f h r' hr' => by
      obtain ⟨z, z1, z2, z3⟩ := h r' hr'
      refine ⟨z, z1, by rw [f.2.1 r' (by omega)]; exact z2, fun i hi => ?_⟩
      rw [f.2.2 _ (by omega)]; exact z3 i hi
    refine kb_123_2 (fun g => absurd g (hI_nle (a := 9) (by omega) hr)) (fun _ => kb_123_8 (pk_in r 9 hr) ?_)
    rw [cr]
    have f0 : rfr ρ (mm_up ρ 89 r 0) r := ⟨fun c h1 _ => mm_up_n h1, fun x hx => mm_up_o hx, fun x _ => by rw [mm_up_n (by decide)]⟩
    refine lp_dn (P := fun i => ∀ (π : mm_S) (z : Nat), (∀ c, c ≠ 89 → c ≠ 90 → π c = τ c) → (∀ r', r' < r → ∃ z, z ≤ 16 ∧ RZ π n r' z) → RZ π n r z → (z ≤ i ∧ (∀ j, j < i → τ 88 (16 * r + j) ≠ v) ∨ (z ≤ i + 8 ∧ ∃ j, j < i ∧ τ 88 (16 * r + j) = v)) → ∀ o3, mw (d + 2) mt_123 Q 17 [some (.ref 10), some (.int (nI r)), some (.int (nI i)), o3] [] π) dg ?_ ?_ 0 (Nat.zero_le _) _ 0 (fun c h1 h2 => by rw [mm_up_n h1]; exact fr c h1 h2) (keep _ _ f0 hR) ⟨mm_up_s, fun i hi => absurd hi (Nat.not_lt_zero i)⟩ (Or.inl ⟨Nat.le_refl 0, fun j hj => absurd hj (Nat.not_lt_zero j)⟩) o3
    · intro π z f1 hR R hz o3
      have e : π 87 (nI r).toNatClampNeg = nI dg := by rw [cr, f1 87 (by decide) (by decide)]; exact e87
      refine kb_123_17 (pk_in r 9 hr) (fun _ => kb_123_65 ?_) (fun g => absurd (by rw [e]; exact hI_le (by omega) (Nat.le_refl dg)) g)
      rw [nI_1]
      refine ih π f1 (fun r' hr' => ?_) _ _
      by_cases er : r' = r
      · subst er
        exact ⟨z, by rcases hz with h | h <;> omega, R⟩
      · exact hR r' (by omega)
    · intro i hi ihi π z f1 hR R hz o3
      have e : π 87 (nI r).toNatClampNeg = nI dg := by rw [cr, f1 87 (by decide) (by decide)]; exact e87
      obtain ⟨k, k1, _, k3⟩ := a1 i hi
      have e88 : π 88 ((16 : Int32) * nI r + nI i).toNatClampNeg = nI k := by rw [nI_16, nI_clamp (by omega), f1 88 (by decide) (by decide)]; exact k3
      refine kb_123_17 (pk_in r 9 hr) (fun g => absurd g (by rw [e]; exact hI_nle (by omega) hi)) (fun _ => kb_123_27 (by rw [nI_16]; exact pk_in (16 * r + i) 144 (by omega)) ?_)
      rw [e88]
      refine c_124 hr (by rcases hz with h | h <;> omega) R (Or.inl k1) (fun π1 f2 R1 => kb_123_45 ?_)
      have f3 : ∀ c, c ≠ 89 → c ≠ 90 → π1 c = τ c := fun c h1 h2 => by rw [f2.1 c h1 h2]; exact f1 c h1 h2
      refine hv π1 _ d (by rw [f3 10 (by decide) (by decide)]; exact t6) (by rw [f3 10 (by decide) (by decide)]) (f3 85 (by decide) (by decide)) (f3 80 (by decide) (by decide)) (f3 81 (by decide) (by decide)) ?_
      refine kb_123_50 (fun ev => kb_123_54 ?_) (fun ev => kb_123_59 ?_)
      · have first : z ≤ i := by
          rcases hz with h | ⟨_, j, hj, ej⟩
          · exact h.1
          · exact absurd (ej.trans (ev.trans k3.symm)) (a4 j i hj hi)
        refine c_126 (N := N) (MO_cg (by rw [f3 10 (by decide) (by decide)]) (f3 85 (by decide) (by decide)) O) hr (by omega) R1 (fun π2 z' hz' f4 R2 => kb_123_59 ?_)
        rw [nI_1]
        exact ihi π2 z' (fun c h1 h2 => by rw [f4.1 c h1 h2]; exact f3 c h1 h2) (keep _ _ (rfr_t f2 f4) hR) R2 (Or.inr ⟨by omega, i, by omega, k3.trans ev.symm⟩) _
      · rw [nI_1]
        refine ihi π1 (z + 1) f3 (keep _ _ f2 hR) R1 ?_ _
        rcases hz with ⟨h1, h2⟩ | ⟨h1, j, hj, ej⟩
        · refine Or.inl ⟨by omega, fun j hj => ?_⟩
          by_cases ej : j = i
          · subst ej; rw [k3]; exact fun y => ev y.symm
          · exact h2 j (by omega)
        · exact Or.inr ⟨by omega, j, by omega, ej⟩

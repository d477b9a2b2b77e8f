section
-- the reference's places: a measure that falls
def pot (x : Int32) : Nat := (2147483647 - x.toInt).toNat
def sm (f : Nat → Nat) : Nat → Nat
  | 0 => 0
  | n + 1 => sm f n + f n
theorem sm_cg {f g : Nat → Nat} : ∀ n, (∀ j, j < n → g j = f j) → sm g n = sm f n := by
  intro n
  induction n with
  | zero => intro _; rfl
  | succ n ih => intro h; show sm g n + g n = sm f n + f n; rw [ih (fun j hj => h j (by omega)), h n (by omega)]
theorem sm_lt {f g : Nat → Nat} {i : Nat} (h : ∀ j, j ≠ i → g j = f j) (hi : g i < f i) : ∀ n, i < n → sm g n < sm f n := by
  intro n
  induction n with
  | zero => intro z; omega
  | succ n ih =>
    intro z
    show sm g n + g n < sm f n + f n
    rcases Nat.lt_or_ge i n with y | y
    · have := ih y
      rw [h n (by omega)]
      omega
    · have e : i = n := by omega
      subst e
      rw [sm_cg i (fun j hj => h j (by omega))]
      omega
theorem pot_lt {x y : Int32} (h : x < y) : pot y < pot x := by
  have h1 : x.toInt < y.toInt := Int32.lt_iff_toInt_lt.mp h
  have h2 := y.toInt_lt
  unfold pot
  omega
def Sm (τ : mm_S) : Nat := sm (fun j => pot (τ 96 j)) 18 + sm (fun j => pot (τ 97 j)) 18 + pot (τ 10 32) + pot (τ 10 33)
def Gw (σ τ : mm_S) : Prop := (∀ c, c ≠ 10 → c ≠ 96 → c ≠ 97 → τ c = σ c) ∧ (∀ j, j ≠ 32 → j ≠ 33 → j ≠ 44 → τ 10 j = σ 10 j) ∧ Sm τ ≤ Sm σ ∧ (τ 10 44 = σ 10 44 ∨ Sm τ < Sm σ)
theorem Gw_r {σ : mm_S} : Gw σ σ := ⟨fun _ _ _ _ => rfl, fun _ _ _ _ => rfl, Nat.le_refl _, Or.inl rfl⟩
theorem Gw_t {σ τ ρ : mm_S} (h : Gw σ τ) (k : Gw τ ρ) : Gw σ ρ := by
  obtain ⟨h1, h2, h3, h4⟩ := h
  obtain ⟨k1, k2, k3, k4⟩ := k
  refine ⟨fun c a b e => by rw [k1 c a b e]; exact h1 c a b e, fun j a b e => by rw [k2 j a b e]; exact h2 j a b e, by omega, ?_⟩
  rcases h4 with h4 | h4
  · rcases k4 with k4 | k4
    · exact Or.inl (by rw [k4]; exact h4)
    · exact Or.inr (by omega)
  · exact Or.inr (by omega)
theorem Gw_96 {σ : mm_S} {i : Nat} {x v : Int32} (hi : i < 18) (h : σ 96 i < x) : Gw σ (mm_up (mm_up σ 96 i x) 10 44 v) := by
  have l : Sm (mm_up (mm_up σ 96 i x) 10 44 v) < Sm σ := by
    unfold Sm
    rw [mm_up_o (by decide), mm_up_o (by decide), mm_up_n (show (96 : Nat) ≠ 10 by decide), mm_up_n (show (97 : Nat) ≠ 10 by decide), mm_up_n (show (10 : Nat) ≠ 96 by decide), mm_up_n (show (97 : Nat) ≠ 96 by decide)]
    have := sm_lt (f := fun j => pot (σ 96 j)) (g := fun j => pot (mm_up σ 96 i x 96 j)) (i := i) (fun j hj => by rw [mm_up_o hj]) (by rw [mm_up_s]; exact pot_lt h) 18 hi
    omega
  exact ⟨fun c a b e => by rw [mm_up_n a, mm_up_n b], fun j a b e => by rw [mm_up_o e, mm_up_n (by decide)], Nat.le_of_lt l, Or.inr l⟩
theorem Gw_97 {σ : mm_S} {i : Nat} {x v : Int32} (hi : i < 18) (h : σ 97 i < x) : Gw σ (mm_up (mm_up σ 97 i x) 10 44 v) := by
  have l : Sm (mm_up (mm_up σ 97 i x) 10 44 v) < Sm σ := by
    unfold Sm
    rw [mm_up_o (by decide), mm_up_o (by decide), mm_up_n (show (97 : Nat) ≠ 10 by decide), mm_up_n (show (96 : Nat) ≠ 10 by decide), mm_up_n (show (10 : Nat) ≠ 97 by decide), mm_up_n (show (96 : Nat) ≠ 97 by decide)]
    have := sm_lt (f := fun j => pot (σ 97 j)) (g := fun j => pot (mm_up σ 97 i x 97 j)) (i := i) (fun j hj => by rw [mm_up_o hj]) (by rw [mm_up_s]; exact pot_lt h) 18 hi
    omega
  exact ⟨fun c a b e => by rw [mm_up_n a, mm_up_n e], fun j a b e => by rw [mm_up_o e, mm_up_n (by decide)], Nat.le_of_lt l, Or.inr l⟩
theorem Gw_32 {σ : mm_S} {x v : Int32} (h : σ 10 32 < x) : Gw σ (mm_up (mm_up σ 10 44 v) 10 32 x) := by
  have l : Sm (mm_up (mm_up σ 10 44 v) 10 32 x) < Sm σ := by
    unfold Sm
    rw [mm_up_s, mm_up_o (show (33 : Nat) ≠ 32 by decide), mm_up_o (show (33 : Nat) ≠ 44 by decide), mm_up_n (show (97 : Nat) ≠ 10 by decide), mm_up_n (show (97 : Nat) ≠ 10 by decide), mm_up_n (show (96 : Nat) ≠ 10 by decide), mm_up_n (show (96 : Nat) ≠ 10 by decide)]
    have := pot_lt h
    omega
  exact ⟨fun c a b e => by rw [mm_up_n a, mm_up_n a], fun j a b e => by rw [mm_up_o a, mm_up_o e], Nat.le_of_lt l, Or.inr l⟩
theorem Gw_33 {σ : mm_S} {x v : Int32} (h : σ 10 33 < x) : Gw σ (mm_up (mm_up σ 10 44 v) 10 33 x) := by
  have l : Sm (mm_up (mm_up σ 10 44 v) 10 33 x) < Sm σ := by
    unfold Sm
    rw [mm_up_s, mm_up_o (show (32 : Nat) ≠ 33 by decide), mm_up_o (show (32 : Nat) ≠ 44 by decide), mm_up_n (show (97 : Nat) ≠ 10 by decide), mm_up_n (show (97 : Nat) ≠ 10 by decide), mm_up_n (show (96 : Nat) ≠ 10 by decide), mm_up_n (show (96 : Nat) ≠ 10 by decide)]
    have := pot_lt h
    omega
  exact ⟨fun c a b e => by rw [mm_up_n a, mm_up_n a], fun j a b e => by rw [mm_up_o b, mm_up_o e], Nat.le_of_lt l, Or.inr l⟩
theorem mm_up_id {σ : mm_S} {k j : Nat} : mm_up σ k j (σ k j) = σ := by
  funext c i
  by_cases h : c = k
  · subst h
    by_cases y : i = j
    · subst y; exact mm_up_s
    · exact mm_up_o y
  · rw [mm_up_n h]
theorem at_n : ∀ r, r < 9 → ∀ b, b < 2 → f_135 (nI r) (nI b) = nI (2 * r + b) := by decide
theorem c_136g {d r b : Nat} {Q : mm_Q} {x : Int32} {σ : mm_S} (hr : r < 9) (hb : b < 2) (q : ∀ τ, Gw σ τ → Q none τ) : mD (d + 2) 136 [.ref 10, .int (nI r), .int (nI b), .int x] σ Q := by
  refine c_136 (by rw [at_n r hr b hb]; exact pk_in (2 * r + b) 18 (by omega)) (fun g => ?_) (fun _ => q σ Gw_r)
  rw [at_n r hr b hb, nI_clamp (by omega)] at g ⊢
  exact q _ (Gw_96 (by omega) g)
theorem c_137g {d r b : Nat} {Q : mm_Q} {x : Int32} {σ : mm_S} (hr : r < 9) (hb : b < 2) (q : ∀ τ, Gw σ τ → Q none τ) : mD (d + 2) 137 [.ref 10, .int (nI r), .int (nI b), .int x] σ Q := by
  refine c_137 (by rw [at_n r hr b hb]; exact pk_in (2 * r + b) 18 (by omega)) (fun g => ?_) (fun _ => q σ Gw_r)
  rw [at_n r hr b hb, nI_clamp (by omega)] at g ⊢
  exact q _ (Gw_97 (by omega) g)
theorem c_139 {d r : Nat} {Q : mm_Q} {σ : mm_S} (hr : r < 9) (q : ∀ τ, Gw σ τ → Q none τ) : mD (d + 3) 139 [.ref 10, .int (nI r)] σ Q := by
  have a0 : f_135 (nI r) 0 = nI (2 * r) := at_n r hr 0 (by omega)
  have a1 : f_135 (nI r) 1 = nI (2 * r + 1) := at_n r hr 1 (by omega)
  have v0 : vp_in (f_135 (nI r) 0) 18 := by rw [a0]; exact pk_in (2 * r) 18 (by omega)
  have v1 : vp_in (f_135 (nI r) 1) 18 := by rw [a1]; exact pk_in (2 * r + 1) 18 (by omega)
  have vr : vp_in (nI r) 9 := pk_in r 9 hr
  refine ke_139 (kb_139_0 (c_135 (kb_139_12 v0 vr (c_137g (b := 0) hr (by omega) (fun τ1 G1 => kb_139_23 (c_135 (kb_139_35 v1 vr (c_137g (b := 1) hr (by omega) (fun τ2 G2 => ?_)))))))))
  have e : ∀ τ, Gw τ2 τ → mw (d + 2) mt_139 Q 131 [some (.ref 10), some (.int (nI r))] [] τ := by
    intro τ G
    have G0 := Gw_t G1 (Gw_t G2 G)
    refine kb_139_131 (pk_in 9 13 (by omega)) (fun _ => kb_139_146 (c_135 (kb_139_155 v1 (fun g => kb_139_168 (c_135 (kb_139_178 v1 (fun _ => kb_139_199 (c_137g (b := 1) hr (by omega) (fun ρ G3 => kb_139_216 (q ρ (Gw_t G0 (by rw [mm_up_id] at G3; exact G3)))))) (fun h => absurd g h)))) (fun g => kb_139_163 (c_135 (kb_139_178 v1 (fun h => ?_) (fun h => kb_139_186 (c_135 (kb_139_195 v1 (c_137g (b := 1) hr (by omega) (fun ρ G3 => kb_139_216 (q ρ (Gw_t G0 (Gw_t (Gw_33 ?_) G3)))))))))))))) (fun _ => kb_139_216 (q τ G0))
    · rw [mm_up_n (by decide), mm_up_o (by decide)] at h; exact absurd h g
    · rw [mm_up_n (by decide)]; exact Int32.not_le.mp g
  refine kb_139_46 (pk_in 10 13 (by omega)) (fun _ => kb_139_61 (c_135 (kb_139_70 v0 (fun g => kb_139_83 (c_135 (kb_139_93 v0 (fun _ => kb_139_114 (c_137g (b := 0) hr (by omega) (fun ρ G3 => e ρ (by rw [mm_up_id] at G3; exact G3)))) (fun h => absurd g h)))) (fun g => kb_139_78 (c_135 (kb_139_93 v0 (fun h => ?_) (fun h => kb_139_101 (c_135 (kb_139_110 v0 (c_137g (b := 0) hr (by omega) (fun ρ G3 => e ρ (Gw_t (Gw_32 ?_) G3)))))))))))) (fun _ => e τ2 Gw_r)
  · rw [mm_up_n (by decide), mm_up_o (by decide)] at h; exact absurd h g
  · rw [mm_up_n (by decide)]; exact Int32.not_le.mp g
theorem f_101_n {σ : mm_S} {k a b : Nat} {x : Int32} (hk : k < 21) (ha : a < 9) (hb : b < 9) (e0 : σ 80 k = nI a) (e1 : σ 81 k = nI b) : ∃ o, o < 9 ∧ f_101 σ (nI k) x = nI o := by
  unfold f_101
  rw [nI_clamp (by omega)]
  split
  · exact ⟨b, hb, e1⟩
  · exact ⟨a, ha, e0⟩
theorem c_140 {d k a b : Nat} {Q : mm_Q} {σ : mm_S} (hk : k < 21) (ha : a < 9) (hb : b < 9) (e0 : σ 80 k = nI a) (e1 : σ 81 k = nI b) (q : ∀ τ, Gw σ τ → Q none τ) : mD (d + 3) 140 [.ref 10, .int (nI k)] σ Q := by
  have vk : vp_in (nI k) 21 := pk_in k 21 hk
  have at0 : ∀ r, r < 9 → vp_in (f_135 (nI r) 0) 18 := fun r hr => by rw [show f_135 (nI r) 0 = nI (2 * r) from at_n r hr 0 (by omega)]; exact pk_in (2 * r) 18 (by omega)
  have at1 : ∀ r, r < 9 → vp_in (f_135 (nI r) 1) 18 := fun r hr => by rw [show f_135 (nI r) 1 = nI (2 * r + 1) from at_n r hr 1 (by omega)]; exact pk_in (2 * r + 1) 18 (by omega)
  have m : ∀ t, t < 2 → ∀ r, r < 9 → ∀ o, o < 9 → ∀ o4 o5 o6, mw (d + 2) mt_140 Q 66 [some (.ref 10), some (.int (nI k)), some (.int (nI t)), some (.int (nI r)), o4, o5, o6] [.int (nI o)] σ := by
    intro t ht r hr o ho o4 o5 o6
    have vr : vp_in (f_135 (nI r) (nI t)) 18 := by rw [at_n r hr t ht]; exact pk_in (2 * r + t) 18 (by omega)
    have vo : vp_in (f_135 (nI o) (nI t)) 18 := by rw [at_n o ho t ht]; exact pk_in (2 * o + t) 18 (by omega)
    have E248 : ∀ τ x5 x6, Gw σ τ → mw (d + 2) mt_140 Q 248 [some (.ref 10), some (.int (nI k)), some (.int (nI t)), some (.int (nI r)), some (.int (nI o)), some (.int x5), some (.int x6)] [] τ := fun τ x5 x6 G =>
      kb_140_248 vk (c_137g ho ht (fun ρ G' => kb_140_264 (q ρ (Gw_t G G'))))
    have E183 : ∀ τ x5, Gw σ τ → mw (d + 2) mt_140 Q 183 [some (.ref 10), some (.int (nI k)), some (.int (nI t)), some (.int (nI r)), some (.int (nI o)), some (.int x5), o6] [] τ := fun τ x5 G =>
      kb_140_183 (c_135 (kb_140_192 vr (c_135 (kb_140_203 vo (fun _ => kb_140_220 (c_135 (kb_140_230 vo vk (c_137g hr ht (fun ρ G' => E248 ρ _ _ (Gw_t G G')))))) (fun _ => kb_140_207 (c_135 (kb_140_216 vr vk (c_137g hr ht (fun ρ G' => E248 ρ _ _ (Gw_t G G'))))))))))
    have E166 : ∀ τ x5, Gw σ τ → mw (d + 2) mt_140 Q 166 [some (.ref 10), some (.int (nI k)), some (.int (nI t)), some (.int (nI r)), some (.int (nI o)), some (.int x5), o6] [] τ := fun τ x5 G =>
      kb_140_166 (fun _ => kb_140_173 (c_136g (b := 1) ho (by omega) (fun ρ G' => E183 ρ _ (Gw_t G G')))) (fun _ => kb_140_177 (c_136g (b := 0) ho (by omega) (fun ρ G' => E183 ρ _ (Gw_t G G'))))
    have E156 : ∀ x5, mw (d + 2) mt_140 Q 156 [some (.ref 10), some (.int (nI k)), some (.int (nI t)), some (.int (nI r)), some (.int (nI o)), some (.int x5), o6] [.int (nI r), .ref 10] σ := fun x5 =>
      kb_140_156 (c_137g (b := 1) hr (by omega) (fun ρ G' => E166 ρ _ G'))
    have E160 : ∀ x5, mw (d + 2) mt_140 Q 160 [some (.ref 10), some (.int (nI k)), some (.int (nI t)), some (.int (nI r)), some (.int (nI o)), some (.int x5), o6] [.int (nI r), .ref 10] σ := fun x5 =>
      kb_140_160 (c_137g (b := 0) hr (by omega) (fun ρ G' => E166 ρ _ G'))
    have E108 : mw (d + 2) mt_140 Q 108 [some (.ref 10), some (.int (nI k)), some (.int (nI t)), some (.int (nI r)), some (.int (nI o)), o5, o6] [] σ :=
      kb_140_108 (fun _ => kb_140_117 (c_135 (kb_140_125 (at1 r hr) (fun _ => E156 _) (fun _ => E160 _)))) (fun _ => kb_140_121 (c_135 (kb_140_125 (at0 r hr) (fun _ => E156 _) (fun _ => E160 _))))
    have E129 : mw (d + 2) mt_140 Q 129 [some (.ref 10), some (.int (nI k)), some (.int (nI t)), some (.int (nI r)), some (.int (nI o)), o5, o6] [] σ :=
      kb_140_129 (fun _ => kb_140_139 (c_135 (kb_140_147 (at1 o ho) (fun _ => E156 _) (fun _ => E160 _)))) (fun _ => kb_140_143 (c_135 (kb_140_147 (at0 o ho) (fun _ => E156 _) (fun _ => E160 _))))
    have E85 : ∀ s, vp_in s 18 → mw (d + 2) mt_140 Q 85 [some (.ref 10), some (.int (nI k)), some (.int (nI t)), some (.int (nI r)), some (.int (nI o)), o5, o6] [.int s, .ref 97] σ := fun s vs =>
      kb_140_85 vs (fun _ => kb_140_96 (c_135 (kb_140_104 (at1 o ho) (fun _ => E129) (fun _ => E108)))) (fun _ => kb_140_100 (c_135 (kb_140_104 (at0 o ho) (fun _ => E129) (fun _ => E108))))
    exact kb_140_66 (fun _ => kb_140_77 (c_135 (E85 _ (at1 r hr)))) (fun _ => kb_140_81 (c_135 (E85 _ (at0 r hr))))
  have n44 : ∀ t, t < 2 → ∀ o3 o4 o5 o6, mw (d + 2) mt_140 Q 44 [some (.ref 10), some (.int (nI k)), some (.int (nI t)), o3, o4, o5, o6] [] σ := by
    intro t ht o3 o4 o5 o6
    obtain ⟨o, ho, eo⟩ := f_101_n (x := σ 80 k) hk ha hb e0 e1
    refine kb_140_44 vk (c_101 vk ?_)
    rw [nI_clamp (by omega), eo, e0]
    exact m t ht a ha o ho _ _ _
  have n53 : ∀ t, t < 2 → ∀ o3 o4 o5 o6, mw (d + 2) mt_140 Q 53 [some (.ref 10), some (.int (nI k)), some (.int (nI t)), o3, o4, o5, o6] [] σ := by
    intro t ht o3 o4 o5 o6
    obtain ⟨o, ho, eo⟩ := f_101_n (x := σ 81 k) hk ha hb e0 e1
    refine kb_140_53 vk (c_101 vk ?_)
    rw [nI_clamp (by omega), eo, e1]
    exact m t ht b hb o ho _ _ _
  have n34 : ∀ t, t < 2 → ∀ o3 o4 o5 o6, mw (d + 2) mt_140 Q 34 [some (.ref 10), some (.int (nI k)), some (.int (nI t)), o3, o4, o5, o6] [] σ := fun t ht o3 o4 o5 o6 =>
    kb_140_34 vk (fun _ => n44 t ht _ _ _ _) (fun _ => n53 t ht _ _ _ _)
  have n19 : ∀ o2 o3 o4 o5 o6, mw (d + 2) mt_140 Q 19 [some (.ref 10), some (.int (nI k)), o2, o3, o4, o5, o6] [] σ := fun o2 o3 o4 o5 o6 =>
    kb_140_19 vk (fun _ => n44 1 (by omega) _ _ _ _) (fun _ => n34 1 (by omega) _ _ _ _)
  exact ke_140 (kb_140_0 vk (fun _ => n19 _ _ _ _ _) (fun _ => kb_140_9 vk (fun _ => n19 _ _ _ _ _) (fun _ => kb_140_23 vk (fun _ => n44 0 (by omega) _ _ _ _) (fun _ => n34 0 (by omega) _ _ _ _))))
def FP (σ τ : mm_S) : Prop := (∀ c, c ≠ 10 → c ≠ 96 → c ≠ 97 → τ c = σ c) ∧ ∀ j, j ≠ 32 → j ≠ 33 → j ≠ 44 → τ 10 j = σ 10 j
theorem FP_t {σ τ ρ : mm_S} (h : FP σ τ) (k : FP τ ρ) : FP σ ρ := ⟨fun c a b e => by rw [k.1 c a b e]; exact h.1 c a b e, fun j a b e => by rw [k.2 j a b e]; exact h.2 j a b e⟩
theorem c_138 {d n : Nat} {Q : mm_Q} {σ : mm_S} (hn : n ≤ 21) (e6 : σ 10 6 = nI n) (je : ∀ k, k < n → ∃ a b, a < 9 ∧ b < 9 ∧ σ 80 k = nI a ∧ σ 81 k = nI b) (q : ∀ τ, FP σ τ → Q none τ) : mD (d + 4) 138 [.ref 10] σ Q := by
  have lp : ∀ s, ∀ τ x1, FP σ τ → Sm τ < s → mw (d + 3) mt_138 Q 43 [some (.ref 10), some (.int x1)] [] τ := by
    intro s
    induction s with
    | zero => intro τ x1 F hs; exact absurd hs (by omega)
    | succ s ih =>
      intro τ x1 F hs
      refine kb_138_43 (fun _ => kb_138_107 (q τ F)) (fun _ => kb_138_50 ?_)
      have F0 : FP σ (mm_up τ 10 44 0) := FP_t F ⟨fun c a _ _ => mm_up_n a, fun j _ _ e => mm_up_o e⟩
      have S0 : Sm (mm_up τ 10 44 0) = Sm τ := by
        unfold Sm
        rw [mm_up_o (by decide), mm_up_o (by decide), mm_up_n (by decide), mm_up_n (by decide)]
      have FG : ∀ ρ, Gw (mm_up τ 10 44 0) ρ → FP σ ρ := fun ρ G => FP_t F0 ⟨G.1, G.2.1⟩
      refine lp_dn (P := fun r => ∀ ρ : mm_S, Gw (mm_up τ 10 44 0) ρ → mw (d + 3) mt_138 Q 57 [some (.ref 10), some (.int (nI r))] [] ρ) 9 ?_ ?_ 0 (by omega) _ Gw_r
      · intro ρ G
        refine kb_138_57 (fun _ => kb_138_83 ?_) (fun g => absurd (by decide) g)
        refine lp_dn (P := fun k => ∀ ρ : mm_S, Gw (mm_up τ 10 44 0) ρ → mw (d + 3) mt_138 Q 85 [some (.ref 10), some (.int (nI k))] [] ρ) n ?_ ?_ 0 (by omega) ρ G
        · intro ρ G
          have F1 := FG ρ G
          refine kb_138_85 (fun _ => kb_138_104 ?_) (fun g => absurd (by rw [F1.2 6 (by decide) (by decide) (by decide), e6]; exact hI_le (by omega) (Nat.le_refl n)) g)
          rcases G.2.2.2 with h | h
          · exact kb_138_43 (fun _ => kb_138_107 (q ρ F1)) (fun g => absurd (h.trans mm_up_s) g)
          · exact ih ρ _ F1 (by omega)
        · intro k hk ihk ρ G
          have F1 := FG ρ G
          obtain ⟨a, b, ha, hb, ea, eb⟩ := je k hk
          refine kb_138_85 (fun g => absurd g (by rw [F1.2 6 (by decide) (by decide) (by decide), e6]; exact hI_nle (by omega) hk)) (fun _ => kb_138_93 (c_140 (by omega) ha hb (by rw [F1.1 80 (by decide) (by decide) (by decide)]; exact ea) (by rw [F1.1 81 (by decide) (by decide) (by decide)]; exact eb) (fun ρ' G' => kb_138_98 ?_)))
          rw [nI_1]
          exact ihk ρ' (Gw_t G G')
      · intro r hr ihr ρ G
        refine kb_138_57 (fun g => absurd g (hI_nle (a := 9) (by omega) hr)) (fun _ => kb_138_63 (pk_in r 9 hr) (fun _ => kb_138_77 (by rw [nI_1]; exact ihr ρ G)) (fun _ => kb_138_72 (c_139 hr (fun ρ' G' => kb_138_77 ?_))))
        rw [nI_1]
        exact ihr ρ' (Gw_t G G')
  refine ke_138 (kb_138_0 ?_)
  refine lp_dn (P := fun i => ∀ ρ : mm_S, FP σ ρ → mw (d + 3) mt_138 Q 2 [some (.ref 10), some (.int (nI i))] [] ρ) 18 ?_ ?_ 0 (by omega) σ ⟨fun _ _ _ _ => rfl, fun _ _ _ _ => rfl⟩
  · intro ρ F
    exact kb_138_2 (fun _ => kb_138_28 (lp _ _ _ (FP_t F ⟨fun c a _ _ => by rw [mm_up_n a, mm_up_n a, mm_up_n a], fun j a b e => by rw [mm_up_o e, mm_up_o b, mm_up_o a]⟩) (Nat.lt_succ_self _))) (fun g => absurd (by decide) g)
  · intro i hi ih ρ F
    refine kb_138_2 (fun g => absurd g (hI_nle (a := 18) (by omega) hi)) (fun _ => kb_138_8 (pk_in i 18 hi) (pk_in i 18 hi) ?_)
    rw [nI_1]
    exact ih _ (FP_t F ⟨fun c a b e => by rw [mm_up_n e, mm_up_n b], fun j _ _ _ => by rw [mm_up_n (by decide), mm_up_n (by decide)]⟩)
end
section
-- plan of the reference ends, and leaves the sketch alone
def MF (σ τ : mm_S) : Prop := (∀ c, c ≠ 10 → (c < 84 ∨ c = 98 ∨ 105 < c) → τ c = σ c) ∧ ∀ j, (j = 6 ∨ j = 10 ∨ j = 34) → τ 10 j = σ 10 j
theorem MF_t {σ τ ρ : mm_S} (h : MF σ τ) (k : MF τ ρ) : MF σ ρ := ⟨fun c a b => by rw [k.1 c a b]; exact h.1 c a b, fun j a => by rw [k.2 j a]; exact h.2 j a⟩
theorem MF_10 {σ τ : mm_S} {i : Nat} {x : Int32} (h : MF σ τ) (hi : i ≠ 6 ∧ i ≠ 10 ∧ i ≠ 34) : MF σ (mm_up τ 10 i x) := MF_t h ⟨fun c a _ => mm_up_n a, fun j a => mm_up_o (by omega)⟩
theorem MF_3 {σ τ : mm_S} {w x y z : Int32} (h : MF σ τ) : MF σ (mt3 τ w x y z) := by
  refine MF_t h ⟨fun c a b => ?_, fun j a => ?_⟩
  · unfold mt3; rw [mm_up_n (by omega), mm_up_n (by omega), mm_up_n (by omega), mm_up_n a]
  · unfold mt3; rw [mm_up_n (by decide), mm_up_n (by decide), mm_up_n (by decide), mm_up_o (by omega)]
theorem rc_cg {σ τ : mm_S} (h : τ 75 = σ 75) : ∀ i, rc τ i = rc σ i
  | 0 => rfl
  | i + 1 => by
    have := rc_cg h i
    unfold rc
    rw [h, this]
theorem rc_ex {σ : mm_S} : ∀ i, 1 ≤ rc σ i → ∃ r, r < i ∧ ¬ σ 75 r = 0
  | 0 => fun h => absurd h (by unfold rc; omega)
  | i + 1 => fun h => by
    by_cases z : σ 75 i = 0
    · unfold rc at h
      rw [if_pos z] at h
      obtain ⟨r, hr, hz⟩ := rc_ex i h
      exact ⟨r, by omega, hz⟩
    · exact ⟨i, by omega, z⟩
theorem MK_cg {σ τ : mm_S} {n : Nat} (h6 : τ 10 6 = σ 10 6) (h10 : τ 10 10 = σ 10 10) (h75 : τ 75 = σ 75) (h80 : τ 80 = σ 80) (h81 : τ 81 = σ 81) (h83 : τ 83 = σ 83) (M : MK σ n) : MK τ n := by
  unfold MK
  rw [h6, h10, h75, h80, h81, h83]
  exact M
theorem AR_cg {σ τ τ' : mm_S} {n : Nat} (h87 : τ' 87 = τ 87) (h88 : τ' 88 = τ 88) (A : AR σ τ n) : AR σ τ' n := by
  unfold AR
  rw [h87, h88]
  exact A
theorem FM_cg {τ τ' : mm_S} {f : Nat} (h19 : τ' 10 19 = τ 10 19) (h86 : τ' 86 = τ 86) (F : FM τ f) : FM τ' f := by
  unfold FM
  rw [h19, h86]
  exact F
theorem LC_cg {τ τ' : mm_S} {N : Nat} (h92 : τ' 92 = τ 92) (h93 : τ' 93 = τ 93) (L : LC τ N) : LC τ' N := by
  unfold LC
  rw [h92, h93]
  exact L
theorem C0_cg {τ τ' : mm_S} {N : Nat} (h85 : τ' 85 = τ 85) (h83 : τ' 83 = τ 83) (L : C0 τ N) : C0 τ' N := by
  unfold C0
  rw [h85, h83]
  exact L
theorem RG_cg {τ τ' : mm_S} {n : Nat} (h89 : τ' 89 = τ 89) (h90 : τ' 90 = τ 90) (L : RG τ n) : RG τ' n := by
  unfold RG RZ
  rw [h89, h90]
  exact L
theorem c_142 {d n : Nat} {Q : mm_Q} {σ : mm_S} (M0 : MK σ n) (q : ∀ τ (a : Int32), MF σ τ → Q (some (.int a)) τ) : mD (d + 6) 142 [.ref 10] σ Q := by
  have n21 := M0.jn.1
  have fin : ∀ τ (a : Int32), MF σ τ → mD (d + 5) 141 [.ref 10, .int a] τ (fun v τ' => v = some (.int a) ∧ MF σ τ') := fun τ a F =>
    c_141 (fun _ => ⟨rfl, MF_10 F (by decide)⟩) (fun _ => ⟨rfl, MF_10 F (by decide)⟩)
  refine ke_142 (kb_142_0 ?_)
  generalize hs : mm_up (mm_up (mm_up (mm_up σ 10 0 0) 10 13 (-1)) 10 15 0) 10 16 0 = σ0
  have F0 : MF σ σ0 := by
    rw [← hs]
    exact MF_10 (MF_10 (MF_10 (MF_10 ⟨fun _ _ _ => rfl, fun _ _ => rfl⟩ (by decide)) (by decide)) (by decide)) (by decide)
  have M : MK σ0 n := MK_cg (F0.2 6 (by decide)) (F0.2 10 (by decide)) (F0.1 75 (by decide) (by decide)) (F0.1 80 (by decide) (by decide)) (F0.1 81 (by decide) (by decide)) (F0.1 83 (by decide) (by decide)) M0
  clear hs
  have e6 := M.jn.2
  have J : Mr σ0 n := ⟨n21, e6, fun k hk => by
    obtain ⟨a, b, ha, hb, _, _, _, ea, eb⟩ := M.je k hk
    rw [ea, eb]
    exact ⟨pk_in a 9 ha, pk_in b 9 hb⟩⟩
  refine c_99 J (fun a b _ => kb_142_24 (fun g => absurd g (by decide)) (fun _ => kb_142_27 ?_)) (fun _ _ => kb_142_24 (fun _ => kb_142_33 ?_) (fun g => absurd rfl g))
  · exact c_141 (fun _ => kb_142_32 (q _ _ (MF_10 (MF_3 F0) (by decide)))) (fun _ => kb_142_32 (q _ _ (MF_10 (MF_3 F0) (by decide))))
  refine c_104 M (fun τ1 f1 A1 => kb_142_37 (c_108 ?_))
  have F1 : MF σ τ1 := MF_t F0 ⟨fun c a b => f1 c (by omega) (by omega), fun j _ => by rw [f1 10 (by decide) (by decide)]⟩
  have t59 : ∀ τ, MF σ τ → mw (d + 5) mt_142 Q 59 [some (.ref 10), none] [] τ := fun τ F => kb_142_59 (c_141 (fun _ => kb_142_64 (q _ _ (MF_10 F (by decide)))) (fun _ => kb_142_64 (q _ _ (MF_10 F (by decide)))))
  have r1 : rc τ1 9 = rc σ0 9 := rc_cg (f1 75 (by decide) (by decide)) 9
  refine kb_142_41 (fun _ => t59 τ1 F1) (fun g => kb_142_45 ?_)
  have h3 : 3 ≤ rc σ0 9 := by
    rcases Nat.lt_or_ge (rc σ0 9) 3 with h | h
    · refine absurd ?_ g
      rw [r1]
      have h9 := rc_le σ0 9
      exact (nI_ltI (by omega) (by decide)).mpr h
    · exact h
  have h1r := rc_ex 9 (show 1 ≤ rc σ0 9 by omega)
  refine c_107 M (by rw [f1 10 (by decide) (by decide)]) (f1 75 (by decide) (by decide)) (f1 80 (by decide) (by decide)) (f1 81 (by decide) (by decide)) h3 (fun hj => kb_142_49 (fun g => absurd g (by decide)) (fun _ => kb_142_52 ?_)) (kb_142_49 (fun _ => t59 τ1 F1) (fun g => absurd rfl g))
  refine c_109 M (fun c _ h h' => f1 c h h') A1 hj h1r (fun τ2 N f2 g2 N1 N42 e15 OM2 => kb_142_56 (fun g => absurd g (by decide)) (fun _ => kb_142_65 ?_)) (fun τ2 f2 g2 => kb_142_56 (fun _ => t59 τ2 (MF_t F1 ⟨fun c a b => f2 c a (by omega) (by omega), fun j a => g2 j (by omega)⟩)) (fun g => absurd rfl g))
  have F2 : MF σ τ2 := MF_t F1 ⟨fun c a b => f2 c a (by omega) (by omega), fun j a => g2 j (by omega)⟩
  have A2 : AR σ0 τ2 n := AR_cg (f2 87 (by decide) (by decide) (by decide)) (f2 88 (by decide) (by decide) (by decide)) A1
  have x6 : ∀ τ, MF σ τ → τ 10 6 = σ0 10 6 := fun τ F => by rw [F.2 6 (by decide), F0.2 6 (by decide)]
  have x80 : ∀ τ c, MF σ τ → (c ≠ 10 ∧ c < 84) → τ c = σ0 c := fun τ c F hc => by rw [F.1 c hc.1 (by omega), F0.1 c hc.1 (by omega)]
  refine c_110 M (fun c h h' h'' h3 h4 => by rw [f2 c h h' h4]; exact f1 c h'' h3) (x6 τ2 F2) A2 (fun τ3 f f3 g3 FM3 => kb_142_69 ?_)
  have F3 : MF σ τ3 := MF_t F2 ⟨fun c a b => f3 c a (by omega) (by omega), fun j a => g3 j (by omega)⟩
  generalize hs : mm_up τ3 10 16 (τ3 10 19) = τ4
  have F4 : MF σ τ4 := by rw [← hs]; exact MF_10 F3 (by decide)
  have FM4 : FM τ4 f := FM_cg (by rw [← hs, mm_up_o (by decide)]) (by rw [← hs, mm_up_n (by decide)]) FM3
  have O2 : MO τ2 N := ⟨N1, N42, e15, OM2⟩
  have O4 : MO τ4 N := MO_cg (by rw [← hs, mm_up_o (by decide)]; exact g3 15 (by decide)) (by rw [← hs, mm_up_n (by decide)]; exact f3 85 (by decide) (by decide) (by decide)) O2
  have A4 : AR σ0 τ4 n := AR_cg (by rw [← hs, mm_up_n (by decide)]; exact f3 87 (by decide) (by decide) (by decide)) (by rw [← hs, mm_up_n (by decide)]; exact f3 88 (by decide) (by decide) (by decide)) A2
  clear hs
  refine c_115 FM4 (fun x y z => kb_142_81 (fun g => absurd g (by decide)) (fun _ => kb_142_84 (c_141 (fun _ => kb_142_89 (q _ _ (MF_10 (MF_3 F4) (by decide)))) (fun _ => kb_142_89 (q _ _ (MF_10 (MF_3 F4) (by decide))))))) (kb_142_81 (fun _ => kb_142_90 ?_) (fun g => absurd rfl g))
  refine c_117 O4 (fun τ5 f5 => kb_142_94 (fun _ => kb_142_97 ?_) (fun g => absurd rfl g)) (fun τ5 f5 L5 C4 => kb_142_94 (fun g => absurd g (by decide)) (fun _ => kb_142_103 ?_))
  · have F5 : MF σ τ5 := MF_t F4 ⟨fun c a b => f5 c (by omega) (by omega), fun j a => by rw [f5 10 (by decide) (by decide)]⟩
    exact c_141 (fun _ => kb_142_102 (q _ _ (MF_10 F5 (by decide)))) (fun _ => kb_142_102 (q _ _ (MF_10 F5 (by decide))))
  have F5 : MF σ τ5 := MF_t F4 ⟨fun c a b => f5 c (by omega) (by omega), fun j a => by rw [f5 10 (by decide) (by decide)]⟩
  have e10 : τ5 10 = τ4 10 := f5 10 (by decide) (by decide)
  have O5 : MO τ5 N := MO_cg (by rw [e10]) (f5 85 (by decide) (by decide)) O4
  have C5 : C0 τ5 N := C0_cg (f5 85 (by decide) (by decide)) (f5 83 (by decide) (by decide)) C4
  have FM5 : FM τ5 f := FM_cg (by rw [e10]) (f5 86 (by decide) (by decide)) FM4
  have A5 : AR σ0 τ5 n := AR_cg (f5 87 (by decide) (by decide)) (f5 88 (by decide) (by decide)) A4
  refine c_120 M (x6 τ5 F5) (x80 τ5 80 F5 (by decide)) (x80 τ5 81 F5 (by decide)) O5 C5 L5 (fun τ6 f6 => kb_142_107 ?_)
  have F6 : MF σ τ6 := MF_t F5 ⟨fun c a b => f6 c (by omega), fun j a => by rw [f6 10 (by decide)]⟩
  have O6 : MO τ6 N := MO_cg (by rw [f6 10 (by decide)]) (f6 85 (by decide)) O5
  refine c_122 O6 (C0_cg (f6 85 (by decide)) (f6 83 (by decide)) C5) (LC_cg (f6 92 (by decide)) (f6 93 (by decide)) L5) (FM_cg (by rw [f6 10 (by decide)]) (f6 86 (by decide)) FM5) (fun x y z => kb_142_111 (fun g => absurd g (by decide)) (fun _ => kb_142_114 (c_141 (fun _ => kb_142_119 (q _ _ (MF_10 (MF_3 F6) (by decide)))) (fun _ => kb_142_119 (q _ _ (MF_10 (MF_3 F6) (by decide))))))) (kb_142_111 (fun _ => kb_142_120 ?_) (fun g => absurd rfl g))
  refine c_123 n21 (by rw [x6 τ6 F6]; exact e6) (AR_cg (f6 87 (by decide)) (f6 88 (by decide)) A5) O6 (fun τ7 f7 R7 => kb_142_124 ?_)
  have F7 : MF σ τ7 := MF_t F6 ⟨fun c a b => f7 c (by omega) (by omega), fun j a => by rw [f7 10 (by decide) (by decide)]⟩
  refine lp_dn (P := fun i => ∀ τ, MF σ τ → RG τ n → mw (d + 5) mt_142 Q 131 [some (.ref 10), some (.int (nI i))] [] τ) 21 ?_ ?_ 0 (by omega) _ (MF_10 F7 (by decide)) (RG_cg (mm_up_n (by decide)) (mm_up_n (by decide)) R7)
  · intro τ F R
    refine kb_142_131 (fun _ => kb_142_150 ?_) (fun g => absurd (by decide) g)
    obtain ⟨r, hr, dr⟩ := h1r
    refine c_131 n21 (by rw [x6 τ F]; exact e6) R ⟨r, hr, by rw [x80 τ 75 F (by decide)]; exact dr⟩ (fun τ8 f8 => kb_142_154 ?_)
    have F8 : MF σ τ8 := MF_t F ⟨fun c a b => f8.1 c a (by omega) (by omega) (by omega), fun j a => f8.2 j (by omega) (by omega)⟩
    refine c_138 n21 (by rw [x6 τ8 F8]; exact e6) (fun k hk => ?_) (fun τ9 f9 => kb_142_158 ?_)
    · obtain ⟨a, b, ha, hb, _, _, _, ea, eb⟩ := M.je k hk
      exact ⟨a, b, ha, hb, by rw [x80 τ8 80 F8 (by decide)]; exact ea, by rw [x80 τ8 81 F8 (by decide)]; exact eb⟩
    · have F9 : MF σ τ9 := MF_t F8 ⟨fun c a b => f9.1 c a (by omega) (by omega), fun j a => f9.2 j (by omega) (by omega) (by omega)⟩
      exact c_141 (fun _ => kb_142_163 (q _ _ (MF_10 F9 (by decide)))) (fun _ => kb_142_163 (q _ _ (MF_10 F9 (by decide))))
  · intro i hi ih τ F R
    refine kb_142_131 (fun g => absurd g (hI_nle (a := 21) (by omega) hi)) (fun _ => kb_142_137 (pk_in i 21 hi) ?_)
    rw [nI_1]
    exact ih _ (MF_t F ⟨fun c a b => mm_up_n (by omega), fun j a => by rw [mm_up_n (by decide)]⟩) (RG_cg (mm_up_n (by decide)) (mm_up_n (by decide)) R)
theorem c_1 {d n m : Nat} {Q : mm_Q} {σ : mm_S} (C : CK σ n m) (K0 : COk σ) (hB : BG σ) (hD : DG σ) (q : ∀ τ (a : Int32) x, jfr σ τ → BG τ → DG τ → WN τ → Q (some (.int a)) (mm_up τ 0 3 x)) : mD (d + 63) 1 [.ref 0] σ Q :=
  ke_1 (kb_1_0 (c_18 C K0 hB hD (fun τ a F B D W => kb_1_7 (fun _ => kb_1_14 (q τ a 1 F B D W)) (fun _ => kb_1_18 (q τ a 0 F B D W)))))
end
section
-- the invariant over both sketches
def ZI (σ : mm_S) (n m : Nat) : Prop := (CK σ n m) ∧ (COk σ) ∧ (BG σ) ∧ (DG σ) ∧ (WN σ) ∧ (MK σ n) ∧ (Rm σ) ∧ (∀ k, k < n → σ 80 k = σ 16 k ∧ σ 81 k = σ 17 k) ∧ (σ 10 10 = σ 1 9 ∧ (σ 1 9 = 1 → ∀ i, i < 4 → σ 83 i = σ 19 i)) ∧ (∀ j, j < 9 → (σ 75 j = 0 → σ 78 j = 1 ∧ σ 79 j = 1) ∧ (¬ σ 75 j = 0 → σ 78 j = σ 13 j ∧ σ 79 j = σ 14 j)) ∧ (∀ k, k < n → σ 82 k = σ 18 k) ∧ (∃ w, w ≤ 9 ∧ σ 9 1 = nI w ∧ σ 10 34 = nI w ∧ ∀ i, i < w → σ 98 i = σ 73 i)
theorem ZI.ck {σ : mm_S} {n m : Nat} (h : ZI σ n m) : CK σ n m := h.1
theorem ZI.co {σ : mm_S} {n m : Nat} (h : ZI σ n m) : COk σ := h.2.1
theorem ZI.bg {σ : mm_S} {n m : Nat} (h : ZI σ n m) : BG σ := h.2.2.1
theorem ZI.dg {σ : mm_S} {n m : Nat} (h : ZI σ n m) : DG σ := h.2.2.2.1
theorem ZI.wn {σ : mm_S} {n m : Nat} (h : ZI σ n m) : WN σ := h.2.2.2.2.1
theorem ZI.mk {σ : mm_S} {n m : Nat} (h : ZI σ n m) : MK σ n := h.2.2.2.2.2.1
theorem ZI.rm {σ : mm_S} {n m : Nat} (h : ZI σ n m) : Rm σ := h.2.2.2.2.2.2.1
theorem ZI.jj {σ : mm_S} {n m : Nat} (h : ZI σ n m) : ∀ k, k < n → σ 80 k = σ 16 k ∧ σ 81 k = σ 17 k := h.2.2.2.2.2.2.2.1
theorem ZI.cc {σ : mm_S} {n m : Nat} (h : ZI σ n m) : σ 10 10 = σ 1 9 ∧ (σ 1 9 = 1 → ∀ i, i < 4 → σ 83 i = σ 19 i) := h.2.2.2.2.2.2.2.2.1
theorem ZI.wh {σ : mm_S} {n m : Nat} (h : ZI σ n m) : ∀ j, j < 9 → (σ 75 j = 0 → σ 78 j = 1 ∧ σ 79 j = 1) ∧ (¬ σ 75 j = 0 → σ 78 j = σ 13 j ∧ σ 79 j = σ 14 j) := h.2.2.2.2.2.2.2.2.2.1
theorem ZI.ww {σ : mm_S} {n m : Nat} (h : ZI σ n m) : ∀ k, k < n → σ 82 k = σ 18 k := h.2.2.2.2.2.2.2.2.2.2.1
theorem ZI.wy {σ : mm_S} {n m : Nat} (h : ZI σ n m) : ∃ w, w ≤ 9 ∧ σ 9 1 = nI w ∧ σ 10 34 = nI w ∧ ∀ i, i < w → σ 98 i = σ 73 i := h.2.2.2.2.2.2.2.2.2.2.2
theorem xd_10 {σ τ : mm_S} (h : τ 1 10 = σ 1 10) (i : Int32) : xd τ i = xd σ i := by unfold xd; rw [h]
theorem Rm_cg {σ τ : mm_S} (h : τ 1 10 = σ 1 10) (h11 : τ 11 = σ 11) (h12 : τ 12 = σ 12) (h75 : τ 75 = σ 75) (h76 : τ 76 = σ 76) (h77 : τ 77 = σ 77) (R : Rm σ) : Rm τ := fun j hj => by
  rw [xd_10 h, h11, h12, h75, h76, h77]
  exact R j hj
theorem ZI_cg {σ τ : mm_S} {n m : Nat} (h : ∀ c, (c = 1 ∨ c = 9 ∨ (11 ≤ c ∧ c ≤ 19) ∨ (73 ≤ c ∧ c ≤ 83 ∧ c ≠ 74) ∨ c = 98) → τ c = σ c) (h10 : ∀ j, (j = 6 ∨ j = 10 ∨ j = 34) → τ 10 j = σ 10 j) (B : BG τ) (D : DG τ) (W : WN τ) (Z : ZI σ n m) : ZI τ n m := by
  have h1 := h 1 (by omega)
  refine ⟨CK_cg h1 (h 11 (by omega)) (h 12 (by omega)) (h 15 (by omega)) (h 16 (by omega)) (h 17 (by omega)) Z.ck, ?_, B, D, W, MK_cg (h10 6 (by omega)) (h10 10 (by omega)) (h 75 (by omega)) (h 80 (by omega)) (h 81 (by omega)) (h 83 (by omega)) Z.mk, Rm_cg (by rw [h1]) (h 11 (by omega)) (h 12 (by omega)) (h 75 (by omega)) (h 76 (by omega)) (h 77 (by omega)) Z.rm, ?_, ?_, ?_, ?_, ?_⟩
  · unfold COk; rw [h1, h 19 (by omega)]; exact Z.co
  · intro k hk; rw [h 80 (by omega), h 81 (by omega), h 16 (by omega), h 17 (by omega)]; exact Z.jj k hk
  · rw [h10 10 (by omega), h1, h 83 (by omega), h 19 (by omega)]; exact Z.cc
  · intro j hj; rw [h 75 (by omega), h 78 (by omega), h 79 (by omega), h 13 (by omega), h 14 (by omega)]; exact Z.wh j hj
  · intro k hk; rw [h 82 (by omega), h 18 (by omega)]; exact Z.ww k hk
  · rw [h 9 (by omega), h10 34 (by omega), h 98 (by omega), h 73 (by omega)]; exact Z.wy
theorem ZI_10 {σ : mm_S} {n m j : Nat} {x : Int32} (hj : j ≠ 6 ∧ j ≠ 10 ∧ j ≠ 34) (Z : ZI σ n m) : ZI (mm_up σ 10 j x) n m :=
  ZI_cg (fun c h => mm_up_n (by omega)) (fun i h => mm_up_o (by omega)) (BG_cg (fun c _ _ => mm_up_n (by omega)) Z.bg) (DG_cg (mm_up_n (by decide)) Z.dg) (by unfold WN; rw [mm_up_n (by decide)]; exact Z.wn) Z
theorem ZI_0 {σ : mm_S} {n m j : Nat} {x : Int32} (Z : ZI σ n m) : ZI (mm_up σ 0 j x) n m :=
  ZI_cg (fun c h => mm_up_n (by omega)) (fun i h => by rw [mm_up_n (by decide)]) (BG_cg (fun c _ _ => mm_up_n (by omega)) Z.bg) (DG_cg (mm_up_n (by decide)) Z.dg) (by unfold WN; rw [mm_up_n (by decide)]; exact Z.wn) Z
theorem ZI_MF {σ τ : mm_S} {n m : Nat} (F : MF σ τ) (Z : ZI σ n m) : ZI τ n m :=
  ZI_cg (fun c h => F.1 c (by omega) (by omega)) (fun i h => F.2 i (by omega)) (BG_cg (fun c _ _ => F.1 c (by omega) (by omega)) Z.bg) (DG_cg (F.1 45 (by omega) (by omega)) Z.dg) (by unfold WN; rw [F.1 3 (by omega) (by omega)]; exact Z.wn) Z
theorem ZI_jfr {σ τ : mm_S} {n m : Nat} (F : jfr σ τ) (B : BG τ) (D : DG τ) (W : WN τ) (Z : ZI σ n m) : ZI τ n m :=
  ZI_cg (fun c h => F c (by omega)) (fun i h => by rw [F 10 (by omega)]) B D W Z
theorem mi8 {r : Int32} (h : mi r 0 8 = 1) : ∃ i, i < 9 ∧ r = nI i := vp_in_of (mi_in h) (by decide)
theorem mi31 {x : Int32} (h : mi x 0 31 = 1) : 0 ≤ x.toInt ∧ x.toInt < 32 := by
  unfold mi at h
  by_cases h1 : x < 0
  · rw [if_pos h1] at h; exact absurd h (by decide)
  · rw [if_neg h1] at h
    by_cases h2 : (31 : Int32) < x
    · rw [if_pos h2] at h; exact absurd h (by decide)
    · have a := Int32.le_iff_toInt_le.mp (Int32.not_lt.mp h1)
      have b := Int32.le_iff_toInt_le.mp (Int32.not_lt.mp h2)
      have c : (0 : Int32).toInt = 0 := by decide
      have e : (31 : Int32).toInt = 31 := by decide
      omega
theorem xd_1 {σ : mm_S} {r : Int32} (h : xd σ r = 1) : ∃ i, i < 9 ∧ r = nI i := vp_in_of (xd_in h) (by decide)
theorem tb_or {m i j : Nat} : (m ||| 2 ^ i).testBit j = true ↔ (m.testBit j = true ∨ j = i) := by
  rw [Nat.testBit_or, Nat.testBit_two_pow, Bool.or_eq_true]
  simp only [decide_eq_true_eq]
  constructor
  · rintro (h | h)
    · exact Or.inl h
    · exact Or.inr h.symm
  · rintro (h | h)
    · exact Or.inl h
    · exact Or.inr h.symm
theorem xd_m {σ : mm_S} {m j : Nat} (hm : m < 512) (e : σ 1 10 = nI m) (hj : j < 9) : xd σ (nI j) = 1 ↔ m.testBit j = true := by
  unfold xd
  rw [if_neg, if_neg, e]
  · exact hs_b1 (by omega) (by omega)
  · exact hI_nle (a := 9) (by omega) hj
  · intro z
    have := Int32.lt_iff_toInt_lt.mp z
    rw [nI_toInt (by omega)] at this
    have c : (0 : Int32).toInt = 0 := by decide
    omega
theorem ZI_rdr {σ : mm_S} {n m : Nat} {r x y : Int32} (Z : ZI σ n m) (ok : mok r x y) (h0 : xd σ r = 0) (nt : ∀ j, j < 9 → ¬ xtk σ x y j) : ∃ m', ZI (rdr σ r x y) n m' := by
  obtain ⟨i, hi, rfl⟩ := mi8 ok.1
  have hx := mi31 ok.2.1
  have hy := mi31 ok.2.2
  obtain ⟨hm, e10⟩ := Z.ck.dm
  have nb : ¬ m.testBit i = true := fun z => by
    rw [(xd_m hm e10 hi).mpr z] at h0
    exact absurd h0 (by decide)
  have ci : (nI i).toNatClampNeg = i := nI_clamp (by omega)
  have fo : ∀ c, c ≠ 0 → c ≠ 1 → c ≠ 10 → (c < 11 ∨ 15 < c) → (c < 75 ∨ 77 < c) → rdr σ (nI i) x y c = σ c := fun c a b e f g => by
    unfold rdr xdr
    simp only [mm_up_n a, mm_up_n b, mm_up_n e, mm_up_n (show c ≠ 11 by omega), mm_up_n (show c ≠ 12 by omega), mm_up_n (show c ≠ 13 by omega), mm_up_n (show c ≠ 14 by omega), mm_up_n (show c ≠ 15 by omega), mm_up_n (show c ≠ 75 by omega), mm_up_n (show c ≠ 76 by omega), mm_up_n (show c ≠ 77 by omega)]
  have g10 : rdr σ (nI i) x y 1 10 = nI (m ||| 2 ^ i) := by
    have e : rdr σ (nI i) x y 1 10 = σ 1 10 ||| ((1 : Int32) <<< (nI i &&& 31)) := by
      unfold rdr xdr
      simp [mm_up_n, mm_up_o, mm_up_s]
    rw [e, e10, one_sh (by omega), or_bit]
  have g11 : rdr σ (nI i) x y 1 11 = σ 1 11 + 1 := by
    unfold rdr xdr
    simp [mm_up_n, mm_up_o, mm_up_s]
  have g1 : ∀ j, j ≠ 10 → j ≠ 11 → rdr σ (nI i) x y 1 j = σ 1 j := fun j a b => by
    unfold rdr xdr
    simp [mm_up_n, mm_up_o a, mm_up_o b]
  have gx : ∀ j, rdr σ (nI i) x y 11 j = if j = i then x else σ 11 j := fun j => by
    unfold rdr xdr
    simp only [mm_up_n (show (11 : Nat) ≠ 10 by decide), mm_up_n (show (11 : Nat) ≠ 77 by decide), mm_up_n (show (11 : Nat) ≠ 76 by decide), mm_up_n (show (11 : Nat) ≠ 75 by decide), mm_up_n (show (11 : Nat) ≠ 0 by decide), mm_up_n (show (11 : Nat) ≠ 1 by decide), mm_up_n (show (11 : Nat) ≠ 12 by decide), mm_up_n (show (11 : Nat) ≠ 13 by decide), mm_up_n (show (11 : Nat) ≠ 14 by decide), mm_up_n (show (11 : Nat) ≠ 15 by decide), ci]
    split
    · subst j; exact mm_up_s
    · exact mm_up_o (by assumption)
  have gy : ∀ j, rdr σ (nI i) x y 12 j = if j = i then y else σ 12 j := fun j => by
    unfold rdr xdr
    simp only [mm_up_n (show (12 : Nat) ≠ 10 by decide), mm_up_n (show (12 : Nat) ≠ 77 by decide), mm_up_n (show (12 : Nat) ≠ 76 by decide), mm_up_n (show (12 : Nat) ≠ 75 by decide), mm_up_n (show (12 : Nat) ≠ 0 by decide), mm_up_n (show (12 : Nat) ≠ 1 by decide), mm_up_n (show (12 : Nat) ≠ 11 by decide), mm_up_n (show (12 : Nat) ≠ 13 by decide), mm_up_n (show (12 : Nat) ≠ 14 by decide), mm_up_n (show (12 : Nat) ≠ 15 by decide), ci]
    split
    · subst j; exact mm_up_s
    · exact mm_up_o (by assumption)
  have g13 : ∀ j, rdr σ (nI i) x y 13 j = if j = i then 1 else σ 13 j := fun j => by
    unfold rdr xdr
    simp only [mm_up_n (show (13 : Nat) ≠ 10 by decide), mm_up_n (show (13 : Nat) ≠ 77 by decide), mm_up_n (show (13 : Nat) ≠ 76 by decide), mm_up_n (show (13 : Nat) ≠ 75 by decide), mm_up_n (show (13 : Nat) ≠ 0 by decide), mm_up_n (show (13 : Nat) ≠ 1 by decide), mm_up_n (show (13 : Nat) ≠ 11 by decide), mm_up_n (show (13 : Nat) ≠ 12 by decide), mm_up_n (show (13 : Nat) ≠ 14 by decide), mm_up_n (show (13 : Nat) ≠ 15 by decide), ci]
    split
    · subst j; exact mm_up_s
    · exact mm_up_o (by assumption)
  have g14 : ∀ j, rdr σ (nI i) x y 14 j = if j = i then 1 else σ 14 j := fun j => by
    unfold rdr xdr
    simp only [mm_up_n (show (14 : Nat) ≠ 10 by decide), mm_up_n (show (14 : Nat) ≠ 77 by decide), mm_up_n (show (14 : Nat) ≠ 76 by decide), mm_up_n (show (14 : Nat) ≠ 75 by decide), mm_up_n (show (14 : Nat) ≠ 0 by decide), mm_up_n (show (14 : Nat) ≠ 1 by decide), mm_up_n (show (14 : Nat) ≠ 11 by decide), mm_up_n (show (14 : Nat) ≠ 12 by decide), mm_up_n (show (14 : Nat) ≠ 13 by decide), mm_up_n (show (14 : Nat) ≠ 15 by decide), ci]
    split
    · subst j; exact mm_up_s
    · exact mm_up_o (by assumption)
  have g15 : ∀ j, rdr σ (nI i) x y 15 j = if j = i then 0 else σ 15 j := fun j => by
    unfold rdr xdr
    simp only [mm_up_n (show (15 : Nat) ≠ 10 by decide), mm_up_n (show (15 : Nat) ≠ 77 by decide), mm_up_n (show (15 : Nat) ≠ 76 by decide), mm_up_n (show (15 : Nat) ≠ 75 by decide), mm_up_n (show (15 : Nat) ≠ 0 by decide), mm_up_n (show (15 : Nat) ≠ 1 by decide), mm_up_n (show (15 : Nat) ≠ 11 by decide), mm_up_n (show (15 : Nat) ≠ 12 by decide), mm_up_n (show (15 : Nat) ≠ 13 by decide), mm_up_n (show (15 : Nat) ≠ 14 by decide), ci]
    split
    · subst j; exact mm_up_s
    · exact mm_up_o (by assumption)
  have g75 : ∀ j, rdr σ (nI i) x y 75 j = if j = i then 1 else σ 75 j := fun j => by
    unfold rdr xdr
    simp only [mm_up_n (show (75 : Nat) ≠ 10 by decide), mm_up_n (show (75 : Nat) ≠ 77 by decide), mm_up_n (show (75 : Nat) ≠ 76 by decide), mm_up_n (show (75 : Nat) ≠ 0 by decide), mm_up_n (show (75 : Nat) ≠ 1 by decide), mm_up_n (show (75 : Nat) ≠ 11 by decide), mm_up_n (show (75 : Nat) ≠ 12 by decide), mm_up_n (show (75 : Nat) ≠ 13 by decide), mm_up_n (show (75 : Nat) ≠ 14 by decide), mm_up_n (show (75 : Nat) ≠ 15 by decide), ci, nar_1]
    split
    · subst j; rw [mm_up_s]
    · rw [mm_up_o (by assumption)]; simp only [mm_up_n (show (75 : Nat) ≠ 0 by decide), mm_up_n (show (75 : Nat) ≠ 1 by decide), mm_up_n (show (75 : Nat) ≠ 11 by decide), mm_up_n (show (75 : Nat) ≠ 12 by decide), mm_up_n (show (75 : Nat) ≠ 13 by decide), mm_up_n (show (75 : Nat) ≠ 14 by decide), mm_up_n (show (75 : Nat) ≠ 15 by decide), mm_up_n (show (75 : Nat) ≠ 10 by decide)]
  have g76 : ∀ j, rdr σ (nI i) x y 76 j = if j = i then x else σ 76 j := fun j => by
    unfold rdr xdr
    simp only [mm_up_n (show (76 : Nat) ≠ 10 by decide), mm_up_n (show (76 : Nat) ≠ 77 by decide), mm_up_n (show (76 : Nat) ≠ 75 by decide), ci]
    split
    · subst j; rw [mm_up_s]
    · rw [mm_up_o (by assumption)]; simp only [mm_up_n (show (76 : Nat) ≠ 0 by decide), mm_up_n (show (76 : Nat) ≠ 1 by decide), mm_up_n (show (76 : Nat) ≠ 11 by decide), mm_up_n (show (76 : Nat) ≠ 12 by decide), mm_up_n (show (76 : Nat) ≠ 13 by decide), mm_up_n (show (76 : Nat) ≠ 14 by decide), mm_up_n (show (76 : Nat) ≠ 15 by decide), mm_up_n (show (76 : Nat) ≠ 10 by decide), mm_up_n (show (76 : Nat) ≠ 75 by decide)]
  have g77 : ∀ j, rdr σ (nI i) x y 77 j = if j = i then y else σ 77 j := fun j => by
    unfold rdr xdr
    simp only [mm_up_n (show (77 : Nat) ≠ 10 by decide), mm_up_n (show (77 : Nat) ≠ 75 by decide), ci]
    split
    · subst j; rw [mm_up_s]
    · rw [mm_up_o (by assumption)]; simp only [mm_up_n (show (77 : Nat) ≠ 0 by decide), mm_up_n (show (77 : Nat) ≠ 1 by decide), mm_up_n (show (77 : Nat) ≠ 11 by decide), mm_up_n (show (77 : Nat) ≠ 12 by decide), mm_up_n (show (77 : Nat) ≠ 13 by decide), mm_up_n (show (77 : Nat) ≠ 14 by decide), mm_up_n (show (77 : Nat) ≠ 15 by decide), mm_up_n (show (77 : Nat) ≠ 10 by decide), mm_up_n (show (77 : Nat) ≠ 75 by decide), mm_up_n (show (77 : Nat) ≠ 76 by decide)]
  have gm : ∀ j, j ≠ 0 → j ≠ 12 → rdr σ (nI i) x y 10 j = σ 10 j := fun j a b => by
    unfold rdr xdr
    simp only [mm_up_o b, mm_up_o a, mm_up_n (show (10 : Nat) ≠ 75 by decide), mm_up_n (show (10 : Nat) ≠ 76 by decide), mm_up_n (show (10 : Nat) ≠ 77 by decide), mm_up_n (show (10 : Nat) ≠ 0 by decide), mm_up_n (show (10 : Nat) ≠ 1 by decide), mm_up_n (show (10 : Nat) ≠ 11 by decide), mm_up_n (show (10 : Nat) ≠ 12 by decide), mm_up_n (show (10 : Nat) ≠ 13 by decide), mm_up_n (show (10 : Nat) ≠ 14 by decide), mm_up_n (show (10 : Nat) ≠ 15 by decide)]
  generalize rdr σ (nI i) x y = τ at *
  have hm' : m ||| 2 ^ i < 512 := Nat.or_lt_two_pow (n := 9) hm (Nat.pow_lt_pow_right (by decide) hi)
  have C := Z.ck
  have old : ∀ {j}, (m ||| 2 ^ i).testBit j = true → j ≠ i → m.testBit j = true := fun h h' => (tb_or.mp h).resolve_right h'
  have up : ∀ {j}, m.testBit j = true → (m ||| 2 ^ i).testBit j = true := fun h => tb_or.mpr (Or.inl h)
  have ne : ∀ {j}, m.testBit j = true → j ≠ i := fun h e => nb (by rw [← e]; exact h)
  have e16 : τ 16 = σ 16 := fo 16 (by omega) (by omega) (by omega) (by omega) (by omega)
  have e17 : τ 17 = σ 17 := fo 17 (by omega) (by omega) (by omega) (by omega) (by omega)
  have nj : ∀ k, k < n → ¬ σ 16 k = nI i ∧ ¬ σ 17 k = nI i := fun k hk => by
    obtain ⟨a, b, ha, hb, _, ma, mb, ea, eb⟩ := C.je k hk
    exact ⟨fun z => ne ma (nI9 ha hi (ea.symm.trans z)), fun z => ne mb (nI9 hb hi (eb.symm.trans z))⟩
  refine ⟨m ||| 2 ^ i, ⟨?_, ⟨hm', g10⟩, fun j hj => xd_m hm' g10 hj, ?_, ?_, ⟨C.jn.1, by rw [g1 12 (by decide) (by decide)]; exact C.jn.2⟩, ?_, ?_, ?_⟩, ?_, BG_cg (fun c _ _ => fo c (by omega) (by omega) (by omega) (by omega) (by omega)) Z.bg, DG_cg (fo 45 (by omega) (by omega) (by omega) (by omega) (by omega)) Z.dg, ?_, ?_, ?_, ?_, ?_, ?_, ?_, ?_⟩
  · rw [g11, C.cr, bc_add nb 9, if_pos hi, nI_1]
  · intro j hj mj
    unfold cG pX pY
    rw [gx, gy]
    by_cases e : j = i
    · rw [if_pos e, if_pos e]; exact ⟨hx.1, hx.2, hy.1, hy.2⟩
    · rw [if_neg e, if_neg e]; exact C.xy j hj (old mj e)
  · intro a b ha hb ma mb
    unfold pX pY
    rw [gx, gx, gy, gy]
    by_cases ea : a = i
    · by_cases eb : b = i
      · intros; omega
      · rw [if_pos ea, if_neg eb, if_pos ea, if_neg eb]
        intro p q
        exact absurd ⟨(xd_m hm e10 hb).mpr (old mb eb), (Int32.toInt_inj.mp p).symm, (Int32.toInt_inj.mp q).symm⟩ (nt b hb)
    · by_cases eb : b = i
      · rw [if_neg ea, if_pos eb, if_neg ea, if_pos eb]
        intro p q
        exact absurd ⟨(xd_m hm e10 ha).mpr (old ma ea), Int32.toInt_inj.mp p, Int32.toInt_inj.mp q⟩ (nt a ha)
      · rw [if_neg ea, if_neg eb, if_neg ea, if_neg eb]
        exact C.ds a b ha hb (old ma ea) (old mb eb)
  · intro k hk
    obtain ⟨a, b, ha, hb, hne, ma, mb, ea, eb⟩ := C.je k hk
    exact ⟨a, b, ha, hb, hne, up ma, up mb, by rw [e16]; exact ea, by rw [e17]; exact eb⟩
  · intro j hj mj
    rw [g15]
    by_cases e : j = i
    · rw [if_pos e]; exact ⟨0, by omega, rfl⟩
    · rw [if_neg e]; exact C.jm j hj (old mj e)
  · intro a b ha ma
    rw [e16, e17]
    by_cases e : a = i
    · subst e
      constructor
      · intro h
        have h2 := h.2
        rw [g15, if_pos rfl, show (0 : Int32) = nI 0 from rfl, hs_b1 (by decide) (by have := h.1; omega)] at h2
        simp at h2
      · rintro ⟨k, hk, h, _⟩
        rcases h with h | h
        · exact absurd h.1 (nj k hk).1
        · exact absurd h.2 (nj k hk).2
    · rw [← C.ja a b ha (old ma e)]
      unfold aj
      rw [g15, if_neg e]
  · unfold COk
    rw [g1 9 (by decide) (by decide), fo 19 (by omega) (by omega) (by omega) (by omega) (by omega)]
    exact Z.co
  · unfold WN
    rw [fo 3 (by omega) (by omega) (by omega) (by omega) (by omega)]
    exact Z.wn
  · have M := Z.mk
    have e80 : τ 80 = σ 80 := fo 80 (by omega) (by omega) (by omega) (by omega) (by omega)
    have e81 : τ 81 = σ 81 := fo 81 (by omega) (by omega) (by omega) (by omega) (by omega)
    refine ⟨⟨M.jn.1, by rw [gm 6 (by decide) (by decide)]; exact M.jn.2⟩, fun k hk => ?_, ?_, ?_⟩
    · obtain ⟨a, b, ha, hb, hne, da, db, ea, eb⟩ := M.je k hk
      refine ⟨a, b, ha, hb, hne, ?_, ?_, by rw [e80]; exact ea, by rw [e81]; exact eb⟩
      · rw [g75]; split
        · decide
        · exact da
      · rw [g75]; split
        · decide
        · exact db
    · rw [e80, e81]; exact M.jd
    · rw [gm 10 (by decide) (by decide), fo 83 (by omega) (by omega) (by omega) (by omega) (by omega)]; exact M.co
  · intro j hj
    rw [xd_m hm' g10 hj, gx, gy, g75, g76, g77]
    by_cases e : j = i
    · rw [if_pos e, if_pos e, if_pos e, if_pos e, if_pos e]
      exact ⟨⟨fun _ => by decide, fun _ => tb_or.mpr (Or.inr e)⟩, fun _ => ⟨rfl, rfl⟩⟩
    · rw [if_neg e, if_neg e, if_neg e, if_neg e, if_neg e]
      have R := Z.rm j hj
      rw [xd_m hm e10 hj] at R
      exact ⟨⟨fun h => R.1.mp (old h e), fun h => up (R.1.mpr h)⟩, fun h => R.2 (old h e)⟩
  · intro k hk
    rw [e16, e17, fo 80 (by omega) (by omega) (by omega) (by omega) (by omega), fo 81 (by omega) (by omega) (by omega) (by omega) (by omega)]
    exact Z.jj k hk
  · rw [gm 10 (by decide) (by decide), g1 9 (by decide) (by decide), fo 83 (by omega) (by omega) (by omega) (by omega) (by omega), fo 19 (by omega) (by omega) (by omega) (by omega) (by omega)]
    exact Z.cc
  · intro j hj
    rw [g75, fo 78 (by omega) (by omega) (by omega) (by omega) (by omega), fo 79 (by omega) (by omega) (by omega) (by omega) (by omega), g13, g14]
    by_cases e : j = i
    · rw [if_pos e, if_pos e, if_pos e]
      have u : σ 75 j = 0 := by
        apply Classical.byContradiction
        intro z
        exact nb (by rw [← e]; exact (xd_m hm e10 hj).mp ((Z.rm j hj).1.mpr z))
      exact ⟨fun h => absurd h (by decide), fun _ => (Z.wh j hj).1 u⟩
    · rw [if_neg e, if_neg e, if_neg e]
      exact Z.wh j hj
  · intro k hk
    rw [fo 82 (by omega) (by omega) (by omega) (by omega) (by omega), fo 18 (by omega) (by omega) (by omega) (by omega) (by omega)]
    exact Z.ww k hk
  · rw [fo 9 (by omega) (by omega) (by omega) (by omega) (by omega), gm 34 (by decide) (by decide), fo 98 (by omega) (by omega) (by omega) (by omega) (by omega), fo 73 (by omega) (by omega) (by omega) (by omega) (by omega)]
    exact Z.wy
end
section
-- the invariant is kept by least, wall, corners, join, clear
theorem CK_cg1 {σ ρ : mm_S} {n m : Nat} (h10 : ρ 1 10 = σ 1 10) (h1' : ρ 1 11 = σ 1 11) (h1 : ρ 1 12 = σ 1 12) (h11 : ρ 11 = σ 11) (h12 : ρ 12 = σ 12) (h15 : ρ 15 = σ 15) (h16 : ρ 16 = σ 16) (h17 : ρ 17 = σ 17) (C : CK σ n m) : CK ρ n m := by
  refine ⟨by rw [h1']; exact C.cr, ⟨C.dm.1, by rw [h10]; exact C.dm.2⟩, fun j hj => by rw [xd_10 h10]; exact C.dr j hj, ?_, ?_, ⟨C.jn.1, by rw [h1]; exact C.jn.2⟩, by rw [h16, h17]; exact C.je, by rw [h15]; exact C.jm, ?_⟩
  · unfold cG pX pY; rw [h11, h12]; exact C.xy
  · unfold pX pY; rw [h11, h12]; exact C.ds
  · unfold aj; rw [h15, h16, h17]; exact C.ja
theorem ZI_cw {σ τ : mm_S} {n m : Nat} (h : ∀ c, (c = 1 ∨ c = 9 ∨ c = 11 ∨ c = 12 ∨ c = 15 ∨ c = 16 ∨ c = 17 ∨ c = 19 ∨ c = 73 ∨ c = 75 ∨ c = 76 ∨ c = 77 ∨ c = 80 ∨ c = 81 ∨ c = 83 ∨ c = 98) → τ c = σ c) (h10 : ∀ j, (j = 6 ∨ j = 10 ∨ j = 34) → τ 10 j = σ 10 j) (B : BG τ) (D : DG τ) (W : WN τ) (wh : ∀ j, j < 9 → (τ 75 j = 0 → τ 78 j = 1 ∧ τ 79 j = 1) ∧ (¬ τ 75 j = 0 → τ 78 j = τ 13 j ∧ τ 79 j = τ 14 j)) (ww : ∀ k, k < n → τ 82 k = τ 18 k) (Z : ZI σ n m) : ZI τ n m := by
  have h1 := h 1 (by omega)
  refine ⟨CK_cg h1 (h 11 (by omega)) (h 12 (by omega)) (h 15 (by omega)) (h 16 (by omega)) (h 17 (by omega)) Z.ck, ?_, B, D, W, MK_cg (h10 6 (by omega)) (h10 10 (by omega)) (h 75 (by omega)) (h 80 (by omega)) (h 81 (by omega)) (h 83 (by omega)) Z.mk, Rm_cg (by rw [h1]) (h 11 (by omega)) (h 12 (by omega)) (h 75 (by omega)) (h 76 (by omega)) (h 77 (by omega)) Z.rm, ?_, ?_, wh, ww, ?_⟩
  · unfold COk; rw [h1, h 19 (by omega)]; exact Z.co
  · intro k hk; rw [h 80 (by omega), h 81 (by omega), h 16 (by omega), h 17 (by omega)]; exact Z.jj k hk
  · rw [h10 10 (by omega), h1, h 83 (by omega), h 19 (by omega)]; exact Z.cc
  · rw [h 9 (by omega), h10 34 (by omega), h 98 (by omega), h 73 (by omega)]; exact Z.wy
theorem up_v {σ : mm_S} {c i j : Nat} {x : Int32} : mm_up σ c i x c j = if j = i then x else σ c j := by
  split
  · subst j; exact mm_up_s
  · exact mm_up_o (by assumption)
theorem ZI_ldr {σ : mm_S} {n m : Nat} {r w h : Int32} (Z : ZI σ n m) (hd : xd σ r = 1) : ZI (ldr σ r w h) n m := by
  obtain ⟨i, hi, rfl⟩ := xd_1 hd
  have ci : (nI i).toNatClampNeg = i := nI_clamp (by omega)
  have fo : ∀ c, c ≠ 0 → c ≠ 10 → c ≠ 13 → c ≠ 14 → c ≠ 78 → c ≠ 79 → ldr σ (nI i) w h c = σ c := fun c a b e f g k => by
    unfold ldr
    simp only [mm_up_n a, mm_up_n b, mm_up_n e, mm_up_n f, mm_up_n g, mm_up_n k]
  have gm : ∀ j, j ≠ 0 → j ≠ 12 → ldr σ (nI i) w h 10 j = σ 10 j := fun j a b => by
    unfold ldr
    simp only [mm_up_o b, mm_up_o a, mm_up_n (show (10 : Nat) ≠ 79 by decide), mm_up_n (show (10 : Nat) ≠ 78 by decide), mm_up_n (show (10 : Nat) ≠ 0 by decide), mm_up_n (show (10 : Nat) ≠ 13 by decide), mm_up_n (show (10 : Nat) ≠ 14 by decide)]
  have g13 : ∀ j, ldr σ (nI i) w h 13 j = if j = i then w else σ 13 j := fun j => by
    unfold ldr
    simp only [mm_up_n (show (13 : Nat) ≠ 10 by decide), mm_up_n (show (13 : Nat) ≠ 79 by decide), mm_up_n (show (13 : Nat) ≠ 78 by decide), mm_up_n (show (13 : Nat) ≠ 0 by decide), mm_up_n (show (13 : Nat) ≠ 14 by decide), ci, up_v]
  have g14 : ∀ j, ldr σ (nI i) w h 14 j = if j = i then h else σ 14 j := fun j => by
    unfold ldr
    simp only [mm_up_n (show (14 : Nat) ≠ 10 by decide), mm_up_n (show (14 : Nat) ≠ 79 by decide), mm_up_n (show (14 : Nat) ≠ 78 by decide), mm_up_n (show (14 : Nat) ≠ 0 by decide), mm_up_n (show (14 : Nat) ≠ 13 by decide), ci, up_v]
  have g78 : ∀ j, ldr σ (nI i) w h 78 j = if j = i then w else σ 78 j := fun j => by
    unfold ldr
    simp only [mm_up_n (show (78 : Nat) ≠ 10 by decide), mm_up_n (show (78 : Nat) ≠ 79 by decide), mm_up_n (show (78 : Nat) ≠ 0 by decide), mm_up_n (show (78 : Nat) ≠ 13 by decide), mm_up_n (show (78 : Nat) ≠ 14 by decide), ci, up_v]
  have g79 : ∀ j, ldr σ (nI i) w h 79 j = if j = i then h else σ 79 j := fun j => by
    unfold ldr
    simp only [mm_up_n (show (79 : Nat) ≠ 10 by decide), mm_up_n (show (79 : Nat) ≠ 78 by decide), mm_up_n (show (79 : Nat) ≠ 0 by decide), mm_up_n (show (79 : Nat) ≠ 13 by decide), mm_up_n (show (79 : Nat) ≠ 14 by decide), ci, up_v]
  generalize ldr σ (nI i) w h = τ at *
  have dr := (Z.rm i hi).1.mp hd
  have e75 : τ 75 = σ 75 := fo 75 (by omega) (by omega) (by omega) (by omega) (by omega) (by omega)
  refine ZI_cw (fun c hc => fo c (by omega) (by omega) (by omega) (by omega) (by omega) (by omega)) (fun j hj => gm j (by omega) (by omega)) (BG_cg (fun c _ _ => fo c (by omega) (by omega) (by omega) (by omega) (by omega) (by omega)) Z.bg) (DG_cg (fo 45 (by omega) (by omega) (by omega) (by omega) (by omega) (by omega)) Z.dg) (by unfold WN; rw [fo 3 (by omega) (by omega) (by omega) (by omega) (by omega) (by omega)]; exact Z.wn) (fun j hj => ?_) (fun k hk => by rw [fo 82 (by omega) (by omega) (by omega) (by omega) (by omega) (by omega), fo 18 (by omega) (by omega) (by omega) (by omega) (by omega) (by omega)]; exact Z.ww k hk) Z
  rw [e75, g78, g79, g13, g14]
  by_cases e : j = i
  · rw [if_pos e, if_pos e, if_pos e, if_pos e]
    exact ⟨fun z => absurd (by rw [← e]; exact z) dr, fun _ => ⟨rfl, rfl⟩⟩
  · rw [if_neg e, if_neg e, if_neg e, if_neg e]
    exact Z.wh j hj
theorem ZI_wdr {σ : mm_S} {n m : Nat} {j w : Int32} (Z : ZI σ n m) : ZI (wdr σ j w) n m := by
  have fo : ∀ c, c ≠ 0 → c ≠ 10 → c ≠ 18 → c ≠ 82 → wdr σ j w c = σ c := fun c a b e f => by
    unfold wdr
    simp only [mm_up_n a, mm_up_n b, mm_up_n e, mm_up_n f]
  have gm : ∀ i, i ≠ 0 → i ≠ 12 → wdr σ j w 10 i = σ 10 i := fun i a b => by
    unfold wdr
    simp only [mm_up_o b, mm_up_o a, mm_up_n (show (10 : Nat) ≠ 82 by decide), mm_up_n (show (10 : Nat) ≠ 0 by decide), mm_up_n (show (10 : Nat) ≠ 18 by decide)]
  have g18 : ∀ k, wdr σ j w 18 k = if k = j.toNatClampNeg then w else σ 18 k := fun k => by
    unfold wdr
    simp only [mm_up_n (show (18 : Nat) ≠ 10 by decide), mm_up_n (show (18 : Nat) ≠ 82 by decide), mm_up_n (show (18 : Nat) ≠ 0 by decide), up_v]
  have g82 : ∀ k, wdr σ j w 82 k = if k = j.toNatClampNeg then w else σ 82 k := fun k => by
    unfold wdr
    simp only [mm_up_n (show (82 : Nat) ≠ 10 by decide), mm_up_n (show (82 : Nat) ≠ 18 by decide), mm_up_n (show (82 : Nat) ≠ 0 by decide), up_v]
  generalize wdr σ j w = τ at *
  refine ZI_cw (fun c hc => fo c (by omega) (by omega) (by omega) (by omega)) (fun i hi => gm i (by omega) (by omega)) (BG_cg (fun c _ _ => fo c (by omega) (by omega) (by omega) (by omega)) Z.bg) (DG_cg (fo 45 (by omega) (by omega) (by omega) (by omega)) Z.dg) (by unfold WN; rw [fo 3 (by omega) (by omega) (by omega) (by omega)]; exact Z.wn) (fun i hi => ?_) (fun k hk => ?_) Z
  · rw [fo 75 (by omega) (by omega) (by omega) (by omega), fo 78 (by omega) (by omega) (by omega) (by omega), fo 79 (by omega) (by omega) (by omega) (by omega), fo 13 (by omega) (by omega) (by omega) (by omega), fo 14 (by omega) (by omega) (by omega) (by omega)]
    exact Z.wh i hi
  · rw [g18, g82]
    split
    · rfl
    · exact Z.ww k hk
theorem ZI_cdr {σ : mm_S} {n m : Nat} {a b c e : Int32} (Z : ZI σ n m) (hx : xall σ a b c e) : ZI (cdr σ a b c e) n m := by
  obtain ⟨ia, ha, rfl⟩ := xd_1 hx.1
  obtain ⟨ib, hb, rfl⟩ := xd_1 hx.2.1
  obtain ⟨ic, hc, rfl⟩ := xd_1 hx.2.2.1
  obtain ⟨ie, he, rfl⟩ := xd_1 hx.2.2.2
  have fo : ∀ k, k ≠ 0 → k ≠ 1 → k ≠ 10 → k ≠ 19 → k ≠ 83 → cdr σ (nI ia) (nI ib) (nI ic) (nI ie) k = σ k := fun k h1 h2 h3 h4 h5 => by
    unfold cdr
    simp only [mm_up_n h1, mm_up_n h2, mm_up_n h3, mm_up_n h4, mm_up_n h5]
  have gm : ∀ j, j ≠ 0 → j ≠ 10 → j ≠ 12 → cdr σ (nI ia) (nI ib) (nI ic) (nI ie) 10 j = σ 10 j := fun j h1 h2 h3 => by
    unfold cdr
    simp only [mm_up_o h3, mm_up_o h2, mm_up_o h1, mm_up_n (show (10 : Nat) ≠ 83 by decide), mm_up_n (show (10 : Nat) ≠ 0 by decide), mm_up_n (show (10 : Nat) ≠ 1 by decide), mm_up_n (show (10 : Nat) ≠ 19 by decide)]
  have gk : cdr σ (nI ia) (nI ib) (nI ic) (nI ie) 10 10 = 1 := by
    unfold cdr
    rw [mm_up_o (by decide), mm_up_s]
  have g1 : ∀ j, j ≠ 9 → cdr σ (nI ia) (nI ib) (nI ic) (nI ie) 1 j = σ 1 j := fun j h1 => by
    unfold cdr
    simp only [mm_up_o h1, mm_up_n (show (1 : Nat) ≠ 83 by decide), mm_up_n (show (1 : Nat) ≠ 0 by decide), mm_up_n (show (1 : Nat) ≠ 10 by decide), mm_up_n (show (1 : Nat) ≠ 19 by decide)]
  have g9 : cdr σ (nI ia) (nI ib) (nI ic) (nI ie) 1 9 = 1 := by
    unfold cdr
    simp only [mm_up_s, mm_up_n (show (1 : Nat) ≠ 83 by decide), mm_up_n (show (1 : Nat) ≠ 0 by decide), mm_up_n (show (1 : Nat) ≠ 10 by decide), mm_up_n (show (1 : Nat) ≠ 19 by decide)]
  have g19 : ∀ j, cdr σ (nI ia) (nI ib) (nI ic) (nI ie) 19 j = if j = 3 then nI ie else if j = 2 then nI ic else if j = 1 then nI ib else if j = 0 then nI ia else σ 19 j := fun j => by
    unfold cdr
    simp only [up_v, mm_up_n (show (19 : Nat) ≠ 83 by decide), mm_up_n (show (19 : Nat) ≠ 0 by decide), mm_up_n (show (19 : Nat) ≠ 10 by decide), mm_up_n (show (19 : Nat) ≠ 1 by decide)]
  have g83 : ∀ j, cdr σ (nI ia) (nI ib) (nI ic) (nI ie) 83 j = if j = 3 then nI ie else if j = 2 then nI ic else if j = 1 then nI ib else if j = 0 then nI ia else σ 83 j := fun j => by
    unfold cdr
    simp only [up_v, mm_up_n (show (83 : Nat) ≠ 19 by decide), mm_up_n (show (83 : Nat) ≠ 0 by decide), mm_up_n (show (83 : Nat) ≠ 10 by decide), mm_up_n (show (83 : Nat) ≠ 1 by decide)]
  generalize cdr σ (nI ia) (nI ib) (nI ic) (nI ie) = τ at *
  have in4 : ∀ i, i < 4 → ∃ k, k < 9 ∧ (if i = 3 then nI ie else if i = 2 then nI ic else if i = 1 then nI ib else if i = 0 then nI ia else (0 : Int32)) = nI k := fun i hi => by
    match i, hi with
    | 0, _ => exact ⟨ia, ha, rfl⟩
    | 1, _ => exact ⟨ib, hb, rfl⟩
    | 2, _ => exact ⟨ic, hc, rfl⟩
    | 3, _ => exact ⟨ie, he, rfl⟩
    | i + 4, h => omega
  have sel : ∀ i (s : Int32), i < 4 → (if i = 3 then nI ie else if i = 2 then nI ic else if i = 1 then nI ib else if i = 0 then nI ia else s) = (if i = 3 then nI ie else if i = 2 then nI ic else if i = 1 then nI ib else if i = 0 then nI ia else (0 : Int32)) := fun i s hi => by
    match i, hi with
    | 0, _ => rfl
    | 1, _ => rfl
    | 2, _ => rfl
    | 3, _ => rfl
    | i + 4, h => omega
  have M := Z.mk
  refine ⟨CK_cg1 (g1 10 (by decide)) (g1 11 (by decide)) (g1 12 (by decide)) (fo 11 (by omega) (by omega) (by omega) (by omega) (by omega)) (fo 12 (by omega) (by omega) (by omega) (by omega) (by omega)) (fo 15 (by omega) (by omega) (by omega) (by omega) (by omega)) (fo 16 (by omega) (by omega) (by omega) (by omega) (by omega)) (fo 17 (by omega) (by omega) (by omega) (by omega) (by omega)) Z.ck, ⟨Or.inr g9, fun _ i hi => ?_⟩, BG_cg (fun c _ _ => fo c (by omega) (by omega) (by omega) (by omega) (by omega)) Z.bg, DG_cg (fo 45 (by omega) (by omega) (by omega) (by omega) (by omega)) Z.dg, ?_, ⟨⟨M.jn.1, by rw [gm 6 (by decide) (by decide) (by decide)]; exact M.jn.2⟩, ?_, ?_, Or.inr gk, fun _ i hi => ?_⟩, ?_, ?_, ⟨by rw [gk, g9], fun _ i hi => by rw [g19, g83]; exact (sel i (σ 83 i) hi).trans (sel i (σ 19 i) hi).symm⟩, ?_, ?_, ?_⟩
  · rw [g19, sel i _ hi]; exact in4 i hi
  · unfold WN; rw [fo 3 (by omega) (by omega) (by omega) (by omega) (by omega)]; exact Z.wn
  · rw [fo 75 (by omega) (by omega) (by omega) (by omega) (by omega), fo 80 (by omega) (by omega) (by omega) (by omega) (by omega), fo 81 (by omega) (by omega) (by omega) (by omega) (by omega)]; exact M.je
  · rw [fo 80 (by omega) (by omega) (by omega) (by omega) (by omega), fo 81 (by omega) (by omega) (by omega) (by omega) (by omega)]; exact M.jd
  · rw [g83, sel i _ hi]; exact in4 i hi
  · exact Rm_cg (g1 10 (by decide)) (fo 11 (by omega) (by omega) (by omega) (by omega) (by omega)) (fo 12 (by omega) (by omega) (by omega) (by omega) (by omega)) (fo 75 (by omega) (by omega) (by omega) (by omega) (by omega)) (fo 76 (by omega) (by omega) (by omega) (by omega) (by omega)) (fo 77 (by omega) (by omega) (by omega) (by omega) (by omega)) Z.rm
  · rw [fo 80 (by omega) (by omega) (by omega) (by omega) (by omega), fo 81 (by omega) (by omega) (by omega) (by omega) (by omega), fo 16 (by omega) (by omega) (by omega) (by omega) (by omega), fo 17 (by omega) (by omega) (by omega) (by omega) (by omega)]; exact Z.jj
  · rw [fo 75 (by omega) (by omega) (by omega) (by omega) (by omega), fo 78 (by omega) (by omega) (by omega) (by omega) (by omega), fo 79 (by omega) (by omega) (by omega) (by omega) (by omega), fo 13 (by omega) (by omega) (by omega) (by omega) (by omega), fo 14 (by omega) (by omega) (by omega) (by omega) (by omega)]; exact Z.wh
  · rw [fo 82 (by omega) (by omega) (by omega) (by omega) (by omega), fo 18 (by omega) (by omega) (by omega) (by omega) (by omega)]; exact Z.ww
  · rw [fo 9 (by omega) (by omega) (by omega) (by omega) (by omega), gm 34 (by decide) (by decide) (by decide), fo 98 (by omega) (by omega) (by omega) (by omega) (by omega), fo 73 (by omega) (by omega) (by omega) (by omega) (by omega)]; exact Z.wy
theorem tb_0 (j : Nat) : (0 : Nat).testBit j = false := Nat.zero_testBit j
theorem bcn_0 : ∀ n, bc 0 n = 0
  | 0 => rfl
  | n + 1 => by unfold bc; rw [bcn_0 n, tb_0]; rfl
theorem ZI_clr {σ τ : mm_S} {n m : Nat} (Z : ZI σ n m) (K : clr (mm_up (mm_up (mm_up (mm_up (mm_up σ 1 10 (0 : Int32)) 1 11 (0 : Int32)) 1 12 (0 : Int32)) 1 9 (0 : Int32)) 0 3 (0 : Int32)) τ) : ZI τ 0 0 := by
  obtain ⟨k1, k2, k3, k4, k5, k6, k7⟩ := K
  have fo : ∀ c, c ≠ 0 → c ≠ 1 → c ≠ 10 → c ≠ 75 → c ≠ 78 → c ≠ 79 → τ c = σ c := fun c h1 h2 h3 h4 h5 h6 => by
    rw [k1 c h3 h4 h5 h6]
    simp only [mm_up_n h1, mm_up_n h2]
  have g1 : τ 1 = (mm_up (mm_up (mm_up (mm_up (mm_up σ 1 10 (0 : Int32)) 1 11 (0 : Int32)) 1 12 (0 : Int32)) 1 9 (0 : Int32)) 0 3 (0 : Int32)) 1 := k1 1 (by decide) (by decide) (by decide) (by decide)
  have a10 : τ 1 10 = nI 0 := by
    rw [g1, mm_up_n (by decide), mm_up_o (by decide), mm_up_o (by decide), mm_up_o (by decide), mm_up_s]; rfl
  have a11 : τ 1 11 = nI 0 := by
    rw [g1, mm_up_n (by decide), mm_up_o (by decide), mm_up_o (by decide), mm_up_s]; rfl
  have a12 : τ 1 12 = nI 0 := by
    rw [g1, mm_up_n (by decide), mm_up_o (by decide), mm_up_s]; rfl
  have a9 : τ 1 9 = 0 := by
    rw [g1, mm_up_n (by decide), mm_up_s]
  have nx : ∀ j, j < 9 → ¬ xd τ (nI j) = 1 := fun j hj h => by
    have := (xd_m (by decide) a10 hj).mp h
    rw [tb_0] at this
    exact absurd this (by decide)
  have nt : ∀ {j}, (0 : Nat).testBit j = true → False := fun h => by rw [tb_0] at h; exact absurd h (by decide)
  refine ⟨⟨by rw [a11, bcn_0], ⟨by decide, a10⟩, fun j hj => xd_m (by decide) a10 hj, fun j _ h => (nt h).elim, fun i j _ _ h => (nt h).elim, ⟨by decide, a12⟩, fun k hk => absurd hk (Nat.not_lt_zero k), fun i _ h => (nt h).elim, fun i j _ h => (nt h).elim⟩, ⟨Or.inl a9, fun h => absurd (a9.symm.trans h) (by decide)⟩, BG_cg (fun c _ _ => fo c (by omega) (by omega) (by omega) (by omega) (by omega) (by omega)) Z.bg, DG_cg (fo 45 (by omega) (by omega) (by omega) (by omega) (by omega) (by omega)) Z.dg, ?_, ⟨⟨by decide, k5⟩, fun k hk => absurd hk (Nat.not_lt_zero k), fun k _ hk => absurd hk (Nat.not_lt_zero k), Or.inl k6, fun h => absurd (k6.symm.trans h) (by decide)⟩, fun j hj => ⟨⟨fun h => absurd h (nx j hj), fun h => absurd (k2 j hj).1 h⟩, fun h => absurd h (nx j hj)⟩, fun k hk => absurd hk (Nat.not_lt_zero k), ⟨by rw [k6, a9], fun h => absurd (a9.symm.trans h) (by decide)⟩, fun j hj => ⟨fun _ => (k2 j hj).2, fun h => absurd (k2 j hj).1 h⟩, fun k hk => absurd hk (Nat.not_lt_zero k), ?_⟩
  · unfold WN; rw [fo 3 (by omega) (by omega) (by omega) (by omega) (by omega) (by omega)]; exact Z.wn
  · rw [fo 9 (by omega) (by omega) (by omega) (by omega) (by omega) (by omega), k3 34 (by decide) (by decide) (by decide) (by decide), fo 98 (by omega) (by omega) (by omega) (by omega) (by omega) (by omega), fo 73 (by omega) (by omega) (by omega) (by omega) (by omega) (by omega)]
    rw [show ∀ s : mm_S, (mm_up (mm_up (mm_up (mm_up (mm_up s 1 10 (0 : Int32)) 1 11 (0 : Int32)) 1 12 (0 : Int32)) 1 9 (0 : Int32)) 0 3 (0 : Int32)) 10 34 = s 10 34 from fun s => by simp only [mm_up_n (show (10 : Nat) ≠ 0 by decide), mm_up_n (show (10 : Nat) ≠ 1 by decide)]]
    exact Z.wy
theorem ZI_join {σ : mm_S} {n m : Nat} {a b : Int32} (Z : ZI σ n m) (hab : ¬ a = b) (da : xd σ a = 1) (db : xd σ b = 1) (h0 : hs (σ 15 a.toNatClampNeg) b = 0) (hn : n < 21) : ZI (mjd (cjd σ a b n) a b n) (n + 1) m := by
  obtain ⟨i, hi, rfl⟩ := xd_1 da
  obtain ⟨j, hj, rfl⟩ := xd_1 db
  have ci : (nI i).toNatClampNeg = i := nI_clamp (by omega)
  have cj : (nI j).toNatClampNeg = j := nI_clamp (by omega)
  have ij : i ≠ j := fun e => hab (by rw [e])
  rw [ci] at h0
  have C := Z.ck
  obtain ⟨hm, e10⟩ := C.dm
  have mi := (xd_m hm e10 hi).mp da
  have mj := (xd_m hm e10 hj).mp db
  obtain ⟨qi, hqi, ei⟩ := C.jm i hi mi
  obtain ⟨qj, hqj, ej⟩ := C.jm j hj mj
  have fo : ∀ c, c ≠ 0 → c ≠ 1 → c ≠ 10 → (c < 15 ∨ 18 < c) → (c < 80 ∨ 82 < c) → mjd (cjd σ (nI i) (nI j) n) (nI i) (nI j) n c = σ c := fun c h1 h2 h3 h4 h5 => by
    unfold mjd cjd
    simp only [mm_up_n h1, mm_up_n h2, mm_up_n h3, mm_up_n (show c ≠ 15 by omega), mm_up_n (show c ≠ 16 by omega), mm_up_n (show c ≠ 17 by omega), mm_up_n (show c ≠ 18 by omega), mm_up_n (show c ≠ 80 by omega), mm_up_n (show c ≠ 81 by omega), mm_up_n (show c ≠ 82 by omega)]
  have gm : ∀ k, k ≠ 0 → k ≠ 6 → k ≠ 12 → mjd (cjd σ (nI i) (nI j) n) (nI i) (nI j) n 10 k = σ 10 k := fun k h1 h2 h3 => by
    unfold mjd cjd
    simp only [mm_up_o h1, mm_up_o h2, mm_up_o h3, mm_up_n (show (10 : Nat) ≠ 15 by decide), mm_up_n (show (10 : Nat) ≠ 16 by decide), mm_up_n (show (10 : Nat) ≠ 17 by decide), mm_up_n (show (10 : Nat) ≠ 18 by decide), mm_up_n (show (10 : Nat) ≠ 80 by decide), mm_up_n (show (10 : Nat) ≠ 81 by decide), mm_up_n (show (10 : Nat) ≠ 82 by decide), mm_up_n (show (10 : Nat) ≠ 0 by decide), mm_up_n (show (10 : Nat) ≠ 1 by decide)]
  have g6 : mjd (cjd σ (nI i) (nI j) n) (nI i) (nI j) n 10 6 = nI (n + 1) := by
    unfold mjd
    rw [mm_up_o (by decide), mm_up_s]
  have g1 : ∀ k, k ≠ 12 → mjd (cjd σ (nI i) (nI j) n) (nI i) (nI j) n 1 k = σ 1 k := fun k h1 => by
    unfold mjd cjd
    simp only [mm_up_o h1, mm_up_n (show (1 : Nat) ≠ 15 by decide), mm_up_n (show (1 : Nat) ≠ 16 by decide), mm_up_n (show (1 : Nat) ≠ 17 by decide), mm_up_n (show (1 : Nat) ≠ 18 by decide), mm_up_n (show (1 : Nat) ≠ 80 by decide), mm_up_n (show (1 : Nat) ≠ 81 by decide), mm_up_n (show (1 : Nat) ≠ 82 by decide), mm_up_n (show (1 : Nat) ≠ 0 by decide), mm_up_n (show (1 : Nat) ≠ 10 by decide)]
  have g12 : mjd (cjd σ (nI i) (nI j) n) (nI i) (nI j) n 1 12 = nI (n + 1) := by
    unfold mjd cjd
    simp only [mm_up_s, mm_up_n (show (1 : Nat) ≠ 80 by decide), mm_up_n (show (1 : Nat) ≠ 81 by decide), mm_up_n (show (1 : Nat) ≠ 82 by decide), mm_up_n (show (1 : Nat) ≠ 0 by decide), mm_up_n (show (1 : Nat) ≠ 10 by decide)]
  have v3 : ∀ c, 16 ≤ c → c ≤ 18 → ∀ k, mjd (cjd σ (nI i) (nI j) n) (nI i) (nI j) n c k = if k = n then (if c = 16 then nI i else if c = 17 then nI j else 1) else σ c k := fun c h1 h2 k => by
    unfold mjd cjd
    simp only [mm_up_n (show c ≠ 80 by omega), mm_up_n (show c ≠ 81 by omega), mm_up_n (show c ≠ 82 by omega), mm_up_n (show c ≠ 0 by omega), mm_up_n (show c ≠ 1 by omega), mm_up_n (show c ≠ 10 by omega), mm_up_n (show c ≠ 15 by omega)]
    rcases (show c = 16 ∨ c = 17 ∨ c = 18 by omega) with rfl | rfl | rfl
    · simp only [mm_up_n (show (16 : Nat) ≠ 17 by decide), mm_up_n (show (16 : Nat) ≠ 18 by decide), up_v, if_true]
    · simp only [mm_up_n (show (17 : Nat) ≠ 16 by decide), mm_up_n (show (17 : Nat) ≠ 18 by decide), up_v, if_true, if_neg (show (17 : Nat) ≠ 16 by decide)]
    · simp only [mm_up_n (show (18 : Nat) ≠ 17 by decide), mm_up_n (show (18 : Nat) ≠ 16 by decide), up_v, if_neg (show (18 : Nat) ≠ 16 by decide), if_neg (show (18 : Nat) ≠ 17 by decide)]
  have w3 : ∀ c, 80 ≤ c → c ≤ 82 → ∀ k, mjd (cjd σ (nI i) (nI j) n) (nI i) (nI j) n c k = if k = n then (if c = 80 then nI i else if c = 81 then nI j else 1) else σ c k := fun c h1 h2 k => by
    unfold mjd cjd
    rcases (show c = 80 ∨ c = 81 ∨ c = 82 by omega) with rfl | rfl | rfl
    · simp only [mm_up_n (show (80 : Nat) ≠ 10 by decide), mm_up_n (show (80 : Nat) ≠ 81 by decide), mm_up_n (show (80 : Nat) ≠ 82 by decide), up_v, if_true, mm_up_n (show (80 : Nat) ≠ 0 by decide), mm_up_n (show (80 : Nat) ≠ 1 by decide), mm_up_n (show (80 : Nat) ≠ 15 by decide), mm_up_n (show (80 : Nat) ≠ 16 by decide), mm_up_n (show (80 : Nat) ≠ 17 by decide), mm_up_n (show (80 : Nat) ≠ 18 by decide)]
    · simp only [mm_up_n (show (81 : Nat) ≠ 10 by decide), mm_up_n (show (81 : Nat) ≠ 80 by decide), mm_up_n (show (81 : Nat) ≠ 82 by decide), up_v, if_true, if_neg (show (81 : Nat) ≠ 80 by decide), mm_up_n (show (81 : Nat) ≠ 0 by decide), mm_up_n (show (81 : Nat) ≠ 1 by decide), mm_up_n (show (81 : Nat) ≠ 15 by decide), mm_up_n (show (81 : Nat) ≠ 16 by decide), mm_up_n (show (81 : Nat) ≠ 17 by decide), mm_up_n (show (81 : Nat) ≠ 18 by decide)]
    · simp only [mm_up_n (show (82 : Nat) ≠ 10 by decide), mm_up_n (show (82 : Nat) ≠ 81 by decide), mm_up_n (show (82 : Nat) ≠ 80 by decide), up_v, if_neg (show (82 : Nat) ≠ 80 by decide), if_neg (show (82 : Nat) ≠ 81 by decide), mm_up_n (show (82 : Nat) ≠ 0 by decide), mm_up_n (show (82 : Nat) ≠ 1 by decide), mm_up_n (show (82 : Nat) ≠ 15 by decide), mm_up_n (show (82 : Nat) ≠ 16 by decide), mm_up_n (show (82 : Nat) ≠ 17 by decide), mm_up_n (show (82 : Nat) ≠ 18 by decide)]
  have g15 : ∀ k, mjd (cjd σ (nI i) (nI j) n) (nI i) (nI j) n 15 k = if k = j then nI (qj ||| 2 ^ i) else if k = i then nI (qi ||| 2 ^ j) else σ 15 k := fun k => by
    unfold mjd cjd
    simp only [mm_up_n (show (15 : Nat) ≠ 10 by decide), mm_up_n (show (15 : Nat) ≠ 80 by decide), mm_up_n (show (15 : Nat) ≠ 81 by decide), mm_up_n (show (15 : Nat) ≠ 82 by decide), mm_up_n (show (15 : Nat) ≠ 0 by decide), mm_up_n (show (15 : Nat) ≠ 1 by decide), up_v, mm_up_n (show (15 : Nat) ≠ 16 by decide), mm_up_n (show (15 : Nat) ≠ 17 by decide), mm_up_n (show (15 : Nat) ≠ 18 by decide), ci, cj, ei, ej, one_sh (show i < 31 by omega), one_sh (show j < 31 by omega), or_bit]
  generalize mjd (cjd σ (nI i) (nI j) n) (nI i) (nI j) n = τ at *
  have v16 : ∀ k, τ 16 k = if k = n then nI i else σ 16 k := fun k => v3 16 (by omega) (by omega) k
  have v17 : ∀ k, τ 17 k = if k = n then nI j else σ 17 k := fun k => v3 17 (by omega) (by omega) k
  have v18 : ∀ k, τ 18 k = if k = n then 1 else σ 18 k := fun k => v3 18 (by omega) (by omega) k
  have w80 : ∀ k, τ 80 k = if k = n then nI i else σ 80 k := fun k => w3 80 (by omega) (by omega) k
  have w81 : ∀ k, τ 81 k = if k = n then nI j else σ 81 k := fun k => w3 81 (by omega) (by omega) k
  have w82 : ∀ k, τ 82 k = if k = n then 1 else σ 82 k := fun k => w3 82 (by omega) (by omega) k
  have nq : ¬ qi.testBit j = true := fun z => by
    rw [ei, (hs_b1 (by omega) (by omega)).mpr z] at h0
    exact absurd h0 (by decide)
  have noj : ∀ k, k < n → ¬ ((σ 16 k = nI i ∧ σ 17 k = nI j) ∨ (σ 16 k = nI j ∧ σ 17 k = nI i)) := fun k hk h => by
    have := ((C.ja i j hi mi).mpr ⟨k, hk, h, hj⟩)
    rw [aj_bit hqi ei] at this
    exact nq this.2
  have M := Z.mk
  have p9 : ∀ k, k < 9 → 2 ^ k < 2 ^ 9 := fun k hk => Nat.pow_lt_pow_right (by decide) hk
  refine ⟨⟨by rw [g1 11 (by decide)]; exact C.cr, ⟨hm, by rw [g1 10 (by decide)]; exact e10⟩, fun k hk => by rw [xd_10 (g1 10 (by decide))]; exact C.dr k hk, ?_, ?_, ⟨by omega, g12⟩, ?_, ?_, ?_⟩, ?_, BG_cg (fun c _ _ => fo c (by omega) (by omega) (by omega) (by omega) (by omega)) Z.bg, DG_cg (fo 45 (by omega) (by omega) (by omega) (by omega) (by omega)) Z.dg, ?_, ⟨⟨by omega, g6⟩, ?_, ?_, ?_⟩, ?_, ?_, ?_, ?_, ?_, ?_⟩
  · unfold cG pX pY; rw [fo 11 (by omega) (by omega) (by omega) (by omega) (by omega), fo 12 (by omega) (by omega) (by omega) (by omega) (by omega)]; exact C.xy
  · unfold pX pY; rw [fo 11 (by omega) (by omega) (by omega) (by omega) (by omega), fo 12 (by omega) (by omega) (by omega) (by omega) (by omega)]; exact C.ds
  · intro k hk
    rw [v16, v17]
    by_cases e : k = n
    · rw [if_pos e, if_pos e]; exact ⟨i, j, hi, hj, ij, mi, mj, rfl, rfl⟩
    · rw [if_neg e, if_neg e]; exact C.je k (by omega)
  · intro u hu mu
    rw [g15]
    by_cases e : u = j
    · rw [if_pos e]; exact ⟨_, Nat.or_lt_two_pow (n := 9) hqj (p9 i hi), rfl⟩
    · rw [if_neg e]
      by_cases e' : u = i
      · rw [if_pos e']; exact ⟨_, Nat.or_lt_two_pow (n := 9) hqi (p9 j hj), rfl⟩
      · rw [if_neg e']; exact C.jm u hu mu
  · intro u v hu mu
    have key : aj τ u v ↔ aj σ u v ∨ (v < 9 ∧ ((u = i ∧ v = j) ∨ (u = j ∧ v = i))) := by
      by_cases e : u = j
      · subst e
        rw [aj_bit (q := qj ||| 2 ^ i) (Nat.or_lt_two_pow (n := 9) hqj (p9 i hi)) (by rw [g15, if_pos rfl]), aj_bit hqj ej, tb_or]
        constructor
        · rintro ⟨h, h' | h'⟩
          · exact Or.inl ⟨h, h'⟩
          · exact Or.inr ⟨h, Or.inr ⟨rfl, h'⟩⟩
        · rintro (h | ⟨h, h' | h'⟩)
          · exact ⟨h.1, Or.inl h.2⟩
          · exact absurd h'.1.symm ij
          · exact ⟨h, Or.inr h'.2⟩
      · by_cases e' : u = i
        · subst e'
          rw [aj_bit (q := qi ||| 2 ^ j) (Nat.or_lt_two_pow (n := 9) hqi (p9 j hj)) (by rw [g15, if_neg e, if_pos rfl]), aj_bit hqi ei, tb_or]
          constructor
          · rintro ⟨h, h' | h'⟩
            · exact Or.inl ⟨h, h'⟩
            · exact Or.inr ⟨h, Or.inl ⟨rfl, h'⟩⟩
          · rintro (h | ⟨h, h' | h'⟩)
            · exact ⟨h.1, Or.inl h.2⟩
            · exact ⟨h, Or.inr h'.2⟩
            · exact absurd h'.1 e
        · constructor
          · intro h
            unfold aj at h
            rw [g15, if_neg e, if_neg e'] at h
            exact Or.inl h
          · rintro (h | ⟨_, h' | h'⟩)
            · unfold aj
              rw [g15, if_neg e, if_neg e']
              exact h
            · exact absurd h'.1 e'
            · exact absurd h'.1 e
    rw [key, C.ja u v hu mu]
    constructor
    · rintro (⟨k, hk, h, h9⟩ | ⟨h9, h⟩)
      · exact ⟨k, by omega, by rw [v16, v17, if_neg (by omega), if_neg (by omega)]; exact h, h9⟩
      · refine ⟨n, by omega, ?_, h9⟩
        rw [v16, v17, if_pos rfl, if_pos rfl]
        rcases h with ⟨rfl, rfl⟩ | ⟨rfl, rfl⟩
        · exact Or.inl ⟨rfl, rfl⟩
        · exact Or.inr ⟨rfl, rfl⟩
    · rintro ⟨k, hk, h, h9⟩
      rw [v16, v17] at h
      by_cases e : k = n
      · rw [if_pos e, if_pos e] at h
        refine Or.inr ⟨h9, ?_⟩
        rcases h with ⟨p, q⟩ | ⟨p, q⟩
        · exact Or.inl ⟨(nI9 hi hu p).symm, (nI9 hj h9 q).symm⟩
        · exact Or.inr ⟨(nI9 hj hu q).symm, (nI9 hi h9 p).symm⟩
      · rw [if_neg e, if_neg e] at h
        exact Or.inl ⟨k, by omega, h, h9⟩
  · unfold COk; rw [g1 9 (by decide), fo 19 (by omega) (by omega) (by omega) (by omega) (by omega)]; exact Z.co
  · unfold WN; rw [fo 3 (by omega) (by omega) (by omega) (by omega) (by omega)]; exact Z.wn
  · intro k hk
    rw [w80, w81, fo 75 (by omega) (by omega) (by omega) (by omega) (by omega)]
    by_cases e : k = n
    · rw [if_pos e, if_pos e]; exact ⟨i, j, hi, hj, ij, (Z.rm i hi).1.mp da, (Z.rm j hj).1.mp db, rfl, rfl⟩
    · rw [if_neg e, if_neg e]; exact M.je k (by omega)
  · have noj' : ∀ k, k < n → ¬ ((σ 80 k = nI i ∧ σ 81 k = nI j) ∨ (σ 80 k = nI j ∧ σ 81 k = nI i)) := fun k hk => by
      rw [(Z.jj k hk).1, (Z.jj k hk).2]; exact noj k hk
    intro k l hk hl u v h1 h2 h3
    rw [w80] at h1
    rw [w81] at h2
    rw [w80, w81] at h3
    by_cases e : k = n
    · by_cases e' : l = n
      · omega
      · rw [if_pos e] at h1 h2
        rw [if_neg e', if_neg e', ← h1, ← h2] at h3
        exact absurd h3 (noj' l (by omega))
    · by_cases e' : l = n
      · rw [if_neg e] at h1 h2
        rw [if_pos e', if_pos e'] at h3
        refine absurd ?_ (noj' k (by omega))
        rw [h1, h2]
        rcases h3 with ⟨p, q⟩ | ⟨p, q⟩
        · exact Or.inl ⟨p.symm, q.symm⟩
        · exact Or.inr ⟨q.symm, p.symm⟩
      · rw [if_neg e] at h1 h2
        rw [if_neg e', if_neg e'] at h3
        exact M.jd k l (by omega) (by omega) u v h1 h2 h3
  · rw [gm 10 (by decide) (by decide) (by decide), fo 83 (by omega) (by omega) (by omega) (by omega) (by omega)]; exact M.co
  · exact Rm_cg (g1 10 (by decide)) (fo 11 (by omega) (by omega) (by omega) (by omega) (by omega)) (fo 12 (by omega) (by omega) (by omega) (by omega) (by omega)) (fo 75 (by omega) (by omega) (by omega) (by omega) (by omega)) (fo 76 (by omega) (by omega) (by omega) (by omega) (by omega)) (fo 77 (by omega) (by omega) (by omega) (by omega) (by omega)) Z.rm
  · intro k hk
    rw [w80, w81, v16, v17]
    by_cases e : k = n
    · rw [if_pos e, if_pos e, if_pos e, if_pos e]; exact ⟨rfl, rfl⟩
    · rw [if_neg e, if_neg e, if_neg e, if_neg e]; exact Z.jj k (by omega)
  · rw [gm 10 (by decide) (by decide) (by decide), g1 9 (by decide), fo 83 (by omega) (by omega) (by omega) (by omega) (by omega), fo 19 (by omega) (by omega) (by omega) (by omega) (by omega)]; exact Z.cc
  · rw [fo 75 (by omega) (by omega) (by omega) (by omega) (by omega), fo 78 (by omega) (by omega) (by omega) (by omega) (by omega), fo 79 (by omega) (by omega) (by omega) (by omega) (by omega), fo 13 (by omega) (by omega) (by omega) (by omega) (by omega), fo 14 (by omega) (by omega) (by omega) (by omega) (by omega)]; exact Z.wh
  · intro k hk
    rw [w82, v18]
    by_cases e : k = n
    · rw [if_pos e, if_pos e]
    · rw [if_neg e, if_neg e]; exact Z.ww k (by omega)
  · rw [fo 9 (by omega) (by omega) (by omega) (by omega) (by omega), gm 34 (by decide) (by decide) (by decide), fo 98 (by omega) (by omega) (by omega) (by omega) (by omega), fo 73 (by omega) (by omega) (by omega) (by omega) (by omega)]; exact Z.wy
end
section
-- ways: distances in a graph of nine rooms
theorem pig : ∀ N (f : Nat → Nat), (∀ i, i < N + 1 → f i < N) → ∃ i j, i < j ∧ j < N + 1 ∧ f i = f j := by
  intro N
  induction N with
  | zero => intro f h; exact absurd (h 0 (by omega)) (by omega)
  | succ N ih =>
    intro f h
    by_cases ex : ∃ i, i < N + 1 ∧ f i = f (N + 1)
    · obtain ⟨i, hi, e⟩ := ex
      exact ⟨i, N + 1, hi, by omega, e⟩
    · have ne : ∀ i, i < N + 1 → f i ≠ f (N + 1) := fun i hi e => ex ⟨i, hi, e⟩
      obtain ⟨i, j, hij, hj, e⟩ := ih (fun i => if f i = N then f (N + 1) else f i) (fun i hi => by
        have a := h i (by omega)
        have b := h (N + 1) (by omega)
        have c := ne i hi
        show (if f i = N then f (N + 1) else f i) < N
        split
        · omega
        · omega)
      refine ⟨i, j, hij, by omega, ?_⟩
      have c := ne i (by omega)
      have c' := ne j hj
      have e' : (if f i = N then f (N + 1) else f i) = (if f j = N then f (N + 1) else f j) := e
      by_cases h1 : f i = N
      · by_cases h2 : f j = N
        · omega
        · rw [if_pos h1, if_neg h2] at e'; exact absurd e'.symm c'
      · by_cases h2 : f j = N
        · rw [if_neg h1, if_pos h2] at e'; exact absurd e' c
        · rw [if_neg h1, if_neg h2] at e'; exact e'
def Rk (G : Nat → Nat → Prop) (b : Nat) : Nat → Nat → Prop
  | 0, v => v = b
  | k + 1, v => Rk G b k v ∨ ∃ u, u < 9 ∧ G v u ∧ Rk G b k u
def Ds (G : Nat → Nat → Prop) (b v k : Nat) : Prop := Rk G b k v ∧ ∀ i, i < k → ¬ Rk G b i v
theorem Rk_up {G : Nat → Nat → Prop} {b v k : Nat} : ∀ l, k ≤ l → Rk G b k v → Rk G b l v := by
  intro l h r
  induction h with
  | refl => exact r
  | step _ ih => exact Or.inl ih
theorem Ds_u {G : Nat → Nat → Prop} {b v k l : Nat} (h : Ds G b v k) (h' : Ds G b v l) : k = l := by
  rcases Nat.lt_trichotomy k l with c | c | c
  · exact absurd h.1 (h'.2 k c)
  · exact c
  · exact absurd h'.1 (h.2 l c)
theorem Ds_ex {G : Nat → Nat → Prop} {b v k : Nat} (h : Rk G b k v) : ∃ l, l ≤ k ∧ Ds G b v l := by
  obtain ⟨l, hl, hm⟩ := ex_min (P := fun k => Rk G b k v) ⟨k, h⟩
  refine ⟨l, ?_, hl, hm⟩
  rcases Nat.lt_or_ge k l with c | c
  · exact absurd h (hm k c)
  · exact c
theorem Ds_dn {G : Nat → Nat → Prop} {b v k : Nat} (h : Ds G b v (k + 1)) : ∃ u, u < 9 ∧ G v u ∧ Ds G b u k := by
  rcases h.1 with r | ⟨u, u9, g, r⟩
  · exact absurd r (h.2 k (by omega))
  · exact ⟨u, u9, g, r, fun i hi z => h.2 (i + 1) (by omega) (Or.inr ⟨u, u9, g, z⟩)⟩
theorem Ds_8 {G : Nat → Nat → Prop} {b v k : Nat} (hv : v < 9) (h : Ds G b v k) : k ≤ 8 := by
  rcases Nat.lt_or_ge 8 k with c | c
  · exfalso
    have ch : ∀ j, j ≤ k → ∃ u, u < 9 ∧ Ds G b u (k - j) := by
      intro j
      induction j with
      | zero => intro _; exact ⟨v, hv, h⟩
      | succ j ih =>
        intro hj
        obtain ⟨u, u9, hu⟩ := ih (by omega)
        have e : k - j = (k - (j + 1)) + 1 := by omega
        rw [e] at hu
        obtain ⟨w, w9, _, hw⟩ := Ds_dn hu
        exact ⟨w, w9, hw⟩
    have fx : ∀ i, ∃ u, i ≤ k → u < 9 ∧ Ds G b u i := fun i => by
      by_cases hi : i ≤ k
      · obtain ⟨u, u9, hu⟩ := ch (k - i) (by omega)
        rw [show k - (k - i) = i by omega] at hu
        exact ⟨u, fun _ => ⟨u9, hu⟩⟩
      · exact ⟨0, fun z => absurd z hi⟩
    obtain ⟨i, j, hij, hj, e⟩ := pig 9 (fun i => Classical.choose (fx i)) (fun i hi => (Classical.choose_spec (fx i) (by omega)).1)
    have a := (Classical.choose_spec (fx i) (by omega)).2
    have b' := (Classical.choose_spec (fx j) (by omega)).2
    have e' : Classical.choose (fx i) = Classical.choose (fx j) := e
    rw [e'] at a
    have := Ds_u a b'
    omega
  · exact c
theorem Rk_8 {G : Nat → Nat → Prop} {b v k : Nat} (hv : v < 9) (h : Rk G b k v) : Rk G b 8 v := by
  obtain ⟨l, _, hd⟩ := Ds_ex h
  exact Rk_up 8 (Ds_8 hv hd) hd.1
theorem Rk_cg {G H : Nat → Nat → Prop} {b : Nat} (h : ∀ v u, v < 9 → u < 9 → (G v u ↔ H v u)) : ∀ k v, v < 9 → (Rk G b k v ↔ Rk H b k v) := by
  intro k
  induction k with
  | zero => intro v _; exact Iff.rfl
  | succ k ih =>
    intro v hv
    constructor
    · rintro (r | ⟨u, u9, g, r⟩)
      · exact Or.inl ((ih v hv).mp r)
      · exact Or.inr ⟨u, u9, (h v u hv u9).mp g, (ih u u9).mp r⟩
    · rintro (r | ⟨u, u9, g, r⟩)
      · exact Or.inl ((ih v hv).mpr r)
      · exact Or.inr ⟨u, u9, (h v u hv u9).mpr g, (ih u u9).mpr r⟩
/-- the least u with P -/
def Lst (P : Nat → Prop) (u : Nat) : Prop := P u ∧ ∀ i, i < u → ¬ P i
theorem Lst_u {P : Nat → Prop} {u v : Nat} (h : Lst P u) (h' : Lst P v) : u = v := by
  rcases Nat.lt_trichotomy u v with c | c | c
  · exact absurd h.1 (h'.2 u c)
  · exact c
  · exact absurd h'.1 (h.2 v c)
def stp (G : Nat → Nat → Prop) (b v k : Nat) (u : Nat) : Prop := u < 9 ∧ G v u ∧ Ds G b u k
def WP (G : Nat → Nat → Prop) (b a w : Nat) (f : Nat → Int32) : Prop :=
  (w = 0 ∧ ∀ k, ¬ Rk G b k a) ∨ ∃ D, w = D + 1 ∧ D ≤ 8 ∧ Ds G b a D ∧ ∃ p : Nat → Nat, (∀ i, i < w → f i = nI (p i)) ∧ p 0 = a ∧ ∀ i, i < D → Lst (stp G b (p i) (D - 1 - i)) (p (i + 1))
theorem WP_u {G : Nat → Nat → Prop} {b a w w' : Nat} {f f' : Nat → Int32} (h : WP G b a w f) (h' : WP G b a w' f') : w = w' ∧ ∀ i, i < w → f i = f' i := by
  rcases h with ⟨h0, hn⟩ | ⟨D, hw, _, hD, p, hf, p0, hp⟩
  · rcases h' with ⟨h0', _⟩ | ⟨D', _, _, hD', _⟩
    · exact ⟨by omega, fun i hi => by omega⟩
    · exact absurd hD'.1 (hn D')
  · rcases h' with ⟨_, hn'⟩ | ⟨D', hw', _, hD', p', hf', p0', hp'⟩
    · exact absurd hD.1 (hn' D)
    · have e := Ds_u hD hD'
      subst e
      refine ⟨by omega, ?_⟩
      have pe : ∀ i, i ≤ D → p i = p' i := by
        intro i
        induction i with
        | zero => intro _; rw [p0, p0']
        | succ i ih =>
          intro hi
          have h1 := hp i (by omega)
          rw [ih (by omega)] at h1
          exact Lst_u h1 (hp' i (by omega))
      intro i hi
      rw [hf i hi, hf' i (by omega), pe i (by omega)]
end

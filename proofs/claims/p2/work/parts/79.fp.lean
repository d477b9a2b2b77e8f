-- the reference's places: a measure that falls
def pot (x : Int32) : Nat := (2147483647 - x.toInt).toNat
def sm (f : Nat → Nat) : Nat → Nat
  | 0 => 0
  | n + 1 => sm f n + f n
theorem sm_cg {f g : Nat → Nat} : ∀ n, (∀ j, j < n → g j = f j) → sm g n = sm f n := by
  intro n
  induction n with
  | zero => intro _; rfl
  | succ n ih => intro h; show sm g n + g n = sm f n + f n; rw [ih (fun j hj => h j (by omega)), h n (by omega)]
theorem sm_lt {f g : Nat → Nat} {i : Nat} (h : ∀ j, j ≠ i → g j = f j) (hi : g i < f i) : ∀ n, i < n → sm g n < sm f n := by
  intro n
  induction n with
  | zero => intro z; omega
  | succ n ih =>
    intro z
    show sm g n + g n < sm f n + f n
    rcases Nat.lt_or_ge i n with y | y
    · have := ih y
      rw [h n (by omega)]
      omega
    · have e : i = n := by omega
      subst e
      rw [sm_cg i (fun j hj => h j (by omega))]
      omega
theorem pot_lt {x y : Int32} (h : x < y) : pot y < pot x := by
  have h1 : x.toInt < y.toInt := Int32.lt_iff_toInt_lt.mp h
  have h2 := y.toInt_lt
  unfold pot
  omega
def Sm (τ : mm_S) : Nat := sm (fun j => pot (τ 96 j)) 18 + sm (fun j => pot (τ 97 j)) 18 + pot (τ 10 32) + pot (τ 10 33)
def Gw (σ τ : mm_S) : Prop := (∀ c, c ≠ 10 → c ≠ 96 → c ≠ 97 → τ c = σ c) ∧ (∀ j, j ≠ 32 → j ≠ 33 → j ≠ 44 → τ 10 j = σ 10 j) ∧ Sm τ ≤ Sm σ ∧ (τ 10 44 = σ 10 44 ∨ Sm τ < Sm σ)
theorem Gw_r {σ : mm_S} : Gw σ σ := ⟨fun _ _ _ _ => rfl, fun _ _ _ _ => rfl, Nat.le_refl _, Or.inl rfl⟩
theorem Gw_t {σ τ ρ : mm_S} (h : Gw σ τ) (k : Gw τ ρ) : Gw σ ρ := by
  obtain ⟨h1, h2, h3, h4⟩ := h
  obtain ⟨k1, k2, k3, k4⟩ := k
  refine ⟨fun c a b e => by rw [k1 c a b e]; exact h1 c a b e, fun j a b e => by rw [k2 j a b e]; exact h2 j a b e, by omega, ?_⟩
  rcases h4 with h4 | h4
  · rcases k4 with k4 | k4
    · exact Or.inl (by rw [k4]; exact h4)
    · exact Or.inr (by omega)
  · exact Or.inr (by omega)
theorem Gw_96 {σ : mm_S} {i : Nat} {x v : Int32} (hi : i < 18) (h : σ 96 i < x) : Gw σ (mm_up (mm_up σ 96 i x) 10 44 v) := by
  have l : Sm (mm_up (mm_up σ 96 i x) 10 44 v) < Sm σ := by
    unfold Sm
    rw [mm_up_o (by decide), mm_up_o (by decide), mm_up_n (show (96 : Nat) ≠ 10 by decide), mm_up_n (show (97 : Nat) ≠ 10 by decide), mm_up_n (show (10 : Nat) ≠ 96 by decide), mm_up_n (show (97 : Nat) ≠ 96 by decide)]
    have := sm_lt (f := fun j => pot (σ 96 j)) (g := fun j => pot (mm_up σ 96 i x 96 j)) (i := i) (fun j hj => by rw [mm_up_o hj]) (by rw [mm_up_s]; exact pot_lt h) 18 hi
    omega
  exact ⟨fun c a b e => by rw [mm_up_n a, mm_up_n b], fun j a b e => by rw [mm_up_o e, mm_up_n (by decide)], Nat.le_of_lt l, Or.inr l⟩
theorem Gw_97 {σ : mm_S} {i : Nat} {x v : Int32} (hi : i < 18) (h : σ 97 i < x) : Gw σ (mm_up (mm_up σ 97 i x) 10 44 v) := by
  have l : Sm (mm_up (mm_up σ 97 i x) 10 44 v) < Sm σ := by
    unfold Sm
    rw [mm_up_o (by decide), mm_up_o (by decide), mm_up_n (show (97 : Nat) ≠ 10 by decide), mm_up_n (show (96 : Nat) ≠ 10 by decide), mm_up_n (show (10 : Nat) ≠ 97 by decide), mm_up_n (show (96 : Nat) ≠ 97 by decide)]
    have := sm_lt (f := fun j => pot (σ 97 j)) (g := fun j => pot (mm_up σ 97 i x 97 j)) (i := i) (fun j hj => by rw [mm_up_o hj]) (by rw [mm_up_s]; exact pot_lt h) 18 hi
    omega
  exact ⟨fun c a b e => by rw [mm_up_n a, mm_up_n e], fun j a b e => by rw [mm_up_o e, mm_up_n (by decide)], Nat.le_of_lt l, Or.inr l⟩
theorem Gw_32 {σ : mm_S} {x v : Int32} (h : σ 10 32 < x) : Gw σ (mm_up (mm_up σ 10 44 v) 10 32 x) := by
  have l : Sm (mm_up (mm_up σ 10 44 v) 10 32 x) < Sm σ := by
    unfold Sm
    rw [mm_up_s, mm_up_o (show (33 : Nat) ≠ 32 by decide), mm_up_o (show (33 : Nat) ≠ 44 by decide), mm_up_n (show (97 : Nat) ≠ 10 by decide), mm_up_n (show (97 : Nat) ≠ 10 by decide), mm_up_n (show (96 : Nat) ≠ 10 by decide), mm_up_n (show (96 : Nat) ≠ 10 by decide)]
    have := pot_lt h
    omega
  exact ⟨fun c a b e => by rw [mm_up_n a, mm_up_n a], fun j a b e => by rw [mm_up_o a, mm_up_o e], Nat.le_of_lt l, Or.inr l⟩
theorem Gw_33 {σ : mm_S} {x v : Int32} (h : σ 10 33 < x) : Gw σ (mm_up (mm_up σ 10 44 v) 10 33 x) := by
  have l : Sm (mm_up (mm_up σ 10 44 v) 10 33 x) < Sm σ := by
    unfold Sm
    rw [mm_up_s, mm_up_o (show (32 : Nat) ≠ 33 by decide), mm_up_o (show (32 : Nat) ≠ 44 by decide), mm_up_n (show (97 : Nat) ≠ 10 by decide), mm_up_n (show (97 : Nat) ≠ 10 by decide), mm_up_n (show (96 : Nat) ≠ 10 by decide), mm_up_n (show (96 : Nat) ≠ 10 by decide)]
    have := pot_lt h
    omega
  exact ⟨fun c a b e => by rw [mm_up_n a, mm_up_n a], fun j a b e => by rw [mm_up_o b, mm_up_o e], Nat.le_of_lt l, Or.inr l⟩
theorem mm_up_id {σ : mm_S} {k j : Nat} : mm_up σ k j (σ k j) = σ := by
  funext c i
  by_cases h : c = k
  · subst h
    by_cases y : i = j
    · subst y; exact mm_up_s
    · exact mm_up_o y
  · rw [mm_up_n h]
theorem at_n : ∀ r, r < 9 → ∀ b, b < 2 → f_135 (nI r) (nI b) = nI (2 * r + b) := by decide
theorem c_136g {d r b : Nat} {Q : mm_Q} {x : Int32} {σ : mm_S} (hr : r < 9) (hb : b < 2) (q : ∀ τ, Gw σ τ → Q none τ) : mD (d + 2) 136 [.ref 10, .int (nI r), .int (nI b), .int x] σ Q := by
  refine c_136 (by rw [at_n r hr b hb]; exact pk_in (2 * r + b) 18 (by omega)) (fun g => ?_) (fun _ => q σ Gw_r)
  rw [at_n r hr b hb, nI_clamp (by omega)] at g ⊢
  exact q _ (Gw_96 (by omega) g)
theorem c_137g {d r b : Nat} {Q : mm_Q} {x : Int32} {σ : mm_S} (hr : r < 9) (hb : b < 2) (q : ∀ τ, Gw σ τ → Q none τ) : mD (d + 2) 137 [.ref 10, .int (nI r), .int (nI b), .int x] σ Q := by
  refine c_137 (by rw [at_n r hr b hb]; exact pk_in (2 * r + b) 18 (by omega)) (fun g => ?_) (fun _ => q σ Gw_r)
  rw [at_n r hr b hb, nI_clamp (by omega)] at g ⊢
  exact q _ (Gw_97 (by omega) g)
theorem c_139 {d r : Nat} {Q : mm_Q} {σ : mm_S} (hr : r < 9) (q : ∀ τ, Gw σ τ → Q none τ) : mD (d + 3) 139 [.ref 10, .int (nI r)] σ Q := by
  have a0 : f_135 (nI r) 0 = nI (2 * r) := at_n r hr 0 (by omega)
  have a1 : f_135 (nI r) 1 = nI (2 * r + 1) := at_n r hr 1 (by omega)
  have v0 : vp_in (f_135 (nI r) 0) 18 := by rw [a0]; exact pk_in (2 * r) 18 (by omega)
  have v1 : vp_in (f_135 (nI r) 1) 18 := by rw [a1]; exact pk_in (2 * r + 1) 18 (by omega)
  have vr : vp_in (nI r) 9 := pk_in r 9 hr
  refine ke_139 (kb_139_0 (c_135 (kb_139_12 v0 vr (c_137g (b := 0) hr (by omega) (fun τ1 G1 => kb_139_23 (c_135 (kb_139_35 v1 vr (c_137g (b := 1) hr (by omega) (fun τ2 G2 => ?_)))))))))
  have e : ∀ τ, Gw τ2 τ → mw (d + 2) mt_139 Q 131 [some (.ref 10), some (.int (nI r))] [] τ := by
    intro τ G
    have G0 := Gw_t G1 (Gw_t G2 G)
    refine kb_139_131 (pk_in 9 13 (by omega)) (fun _ => kb_139_146 (c_135 (kb_139_155 v1 (fun g => kb_139_168 (c_135 (kb_139_178 v1 (fun _ => kb_139_199 (c_137g (b := 1) hr (by omega) (fun ρ G3 => kb_139_216 (q ρ (Gw_t G0 (by rw [mm_up_id] at G3; exact G3)))))) (fun h => absurd g h)))) (fun g => kb_139_163 (c_135 (kb_139_178 v1 (fun h => ?_) (fun h => kb_139_186 (c_135 (kb_139_195 v1 (c_137g (b := 1) hr (by omega) (fun ρ G3 => kb_139_216 (q ρ (Gw_t G0 (Gw_t (Gw_33 ?_) G3)))))))))))))) (fun _ => kb_139_216 (q τ G0))
    · rw [mm_up_n (by decide), mm_up_o (by decide)] at h; exact absurd h g
    · rw [mm_up_n (by decide)]; exact Int32.not_le.mp g
  refine kb_139_46 (pk_in 10 13 (by omega)) (fun _ => kb_139_61 (c_135 (kb_139_70 v0 (fun g => kb_139_83 (c_135 (kb_139_93 v0 (fun _ => kb_139_114 (c_137g (b := 0) hr (by omega) (fun ρ G3 => e ρ (by rw [mm_up_id] at G3; exact G3)))) (fun h => absurd g h)))) (fun g => kb_139_78 (c_135 (kb_139_93 v0 (fun h => ?_) (fun h => kb_139_101 (c_135 (kb_139_110 v0 (c_137g (b := 0) hr (by omega) (fun ρ G3 => e ρ (Gw_t (Gw_32 ?_) G3)))))))))))) (fun _ => e τ2 Gw_r)
  · rw [mm_up_n (by decide), mm_up_o (by decide)] at h; exact absurd h g
  · rw [mm_up_n (by decide)]; exact Int32.not_le.mp g
theorem f_101_n {σ : mm_S} {k a b : Nat} {x : Int32} (hk : k < 21) (ha : a < 9) (hb : b < 9) (e0 : σ 80 k = nI a) (e1 : σ 81 k = nI b) : ∃ o, o < 9 ∧ f_101 σ (nI k) x = nI o := by
  unfold f_101
  rw [nI_clamp (by omega)]
  split
  · exact ⟨b, hb, e1⟩
  · exact ⟨a, ha, e0⟩
theorem c_140 {d k a b : Nat} {Q : mm_Q} {σ : mm_S} (hk : k < 21) (ha : a < 9) (hb : b < 9) (e0 : σ 80 k = nI a) (e1 : σ 81 k = nI b) (q : ∀ τ, Gw σ τ → Q none τ) : mD (d + 3) 140 [.ref 10, .int (nI k)] σ Q := by
  have vk : vp_in (nI k) 21 := pk_in k 21 hk
  have at0 : ∀ r, r < 9 → vp_in (f_135 (nI r) 0) 18 := fun r hr => by rw [show f_135 (nI r) 0 = nI (2 * r) from at_n r hr 0 (by omega)]; exact pk_in (2 * r) 18 (by omega)
  have at1 : ∀ r, r < 9 → vp_in (f_135 (nI r) 1) 18 := fun r hr => by rw [show f_135 (nI r) 1 = nI (2 * r + 1) from at_n r hr 1 (by omega)]; exact pk_in (2 * r + 1) 18 (by omega)
  have m : ∀ t, t < 2 → ∀ r, r < 9 → ∀ o, o < 9 → ∀ o4 o5 o6, mw (d + 2) mt_140 Q 66 [some (.ref 10), some (.int (nI k)), some (.int (nI t)), some (.int (nI r)), o4, o5, o6] [.int (nI o)] σ := by
    intro t ht r hr o ho o4 o5 o6
    have vr : vp_in (f_135 (nI r) (nI t)) 18 := by rw [at_n r hr t ht]; exact pk_in (2 * r + t) 18 (by omega)
    have vo : vp_in (f_135 (nI o) (nI t)) 18 := by rw [at_n o ho t ht]; exact pk_in (2 * o + t) 18 (by omega)
    have E248 : ∀ τ x5 x6, Gw σ τ → mw (d + 2) mt_140 Q 248 [some (.ref 10), some (.int (nI k)), some (.int (nI t)), some (.int (nI r)), some (.int (nI o)), some (.int x5), some (.int x6)] [] τ := fun τ x5 x6 G =>
      kb_140_248 vk (c_137g ho ht (fun ρ G' => kb_140_264 (q ρ (Gw_t G G'))))
    have E183 : ∀ τ x5, Gw σ τ → mw (d + 2) mt_140 Q 183 [some (.ref 10), some (.int (nI k)), some (.int (nI t)), some (.int (nI r)), some (.int (nI o)), some (.int x5), o6] [] τ := fun τ x5 G =>
      kb_140_183 (c_135 (kb_140_192 vr (c_135 (kb_140_203 vo (fun _ => kb_140_220 (c_135 (kb_140_230 vo vk (c_137g hr ht (fun ρ G' => E248 ρ _ _ (Gw_t G G')))))) (fun _ => kb_140_207 (c_135 (kb_140_216 vr vk (c_137g hr ht (fun ρ G' => E248 ρ _ _ (Gw_t G G'))))))))))
    have E166 : ∀ τ x5, Gw σ τ → mw (d + 2) mt_140 Q 166 [some (.ref 10), some (.int (nI k)), some (.int (nI t)), some (.int (nI r)), some (.int (nI o)), some (.int x5), o6] [] τ := fun τ x5 G =>
      kb_140_166 (fun _ => kb_140_173 (c_136g (b := 1) ho (by omega) (fun ρ G' => E183 ρ _ (Gw_t G G')))) (fun _ => kb_140_177 (c_136g (b := 0) ho (by omega) (fun ρ G' => E183 ρ _ (Gw_t G G'))))
    have E156 : ∀ x5, mw (d + 2) mt_140 Q 156 [some (.ref 10), some (.int (nI k)), some (.int (nI t)), some (.int (nI r)), some (.int (nI o)), some (.int x5), o6] [.int (nI r), .ref 10] σ := fun x5 =>
      kb_140_156 (c_137g (b := 1) hr (by omega) (fun ρ G' => E166 ρ _ G'))
    have E160 : ∀ x5, mw (d + 2) mt_140 Q 160 [some (.ref 10), some (.int (nI k)), some (.int (nI t)), some (.int (nI r)), some (.int (nI o)), some (.int x5), o6] [.int (nI r), .ref 10] σ := fun x5 =>
      kb_140_160 (c_137g (b := 0) hr (by omega) (fun ρ G' => E166 ρ _ G'))
    have E108 : mw (d + 2) mt_140 Q 108 [some (.ref 10), some (.int (nI k)), some (.int (nI t)), some (.int (nI r)), some (.int (nI o)), o5, o6] [] σ :=
      kb_140_108 (fun _ => kb_140_117 (c_135 (kb_140_125 (at1 r hr) (fun _ => E156 _) (fun _ => E160 _)))) (fun _ => kb_140_121 (c_135 (kb_140_125 (at0 r hr) (fun _ => E156 _) (fun _ => E160 _))))
    have E129 : mw (d + 2) mt_140 Q 129 [some (.ref 10), some (.int (nI k)), some (.int (nI t)), some (.int (nI r)), some (.int (nI o)), o5, o6] [] σ :=
      kb_140_129 (fun _ => kb_140_139 (c_135 (kb_140_147 (at1 o ho) (fun _ => E156 _) (fun _ => E160 _)))) (fun _ => kb_140_143 (c_135 (kb_140_147 (at0 o ho) (fun _ => E156 _) (fun _ => E160 _))))
    have E85 : ∀ s, vp_in s 18 → mw (d + 2) mt_140 Q 85 [some (.ref 10), some (.int (nI k)), some (.int (nI t)), some (.int (nI r)), some (.int (nI o)), o5, o6] [.int s, .ref 97] σ := fun s vs =>
      kb_140_85 vs (fun _ => kb_140_96 (c_135 (kb_140_104 (at1 o ho) (fun _ => E129) (fun _ => E108)))) (fun _ => kb_140_100 (c_135 (kb_140_104 (at0 o ho) (fun _ => E129) (fun _ => E108))))
    exact kb_140_66 (fun _ => kb_140_77 (c_135 (E85 _ (at1 r hr)))) (fun _ => kb_140_81 (c_135 (E85 _ (at0 r hr))))
  have n44 : ∀ t, t < 2 → ∀ o3 o4 o5 o6, mw (d + 2) mt_140 Q 44 [some (.ref 10), some (.int (nI k)), some (.int (nI t)), o3, o4, o5, o6] [] σ := by
    intro t ht o3 o4 o5 o6
    obtain ⟨o, ho, eo⟩ := f_101_n (x := σ 80 k) hk ha hb e0 e1
    refine kb_140_44 vk (c_101 vk ?_)
    rw [nI_clamp (by omega), eo, e0]
    exact m t ht a ha o ho _ _ _
  have n53 : ∀ t, t < 2 → ∀ o3 o4 o5 o6, mw (d + 2) mt_140 Q 53 [some (.ref 10), some (.int (nI k)), some (.int (nI t)), o3, o4, o5, o6] [] σ := by
    intro t ht o3 o4 o5 o6
    obtain ⟨o, ho, eo⟩ := f_101_n (x := σ 81 k) hk ha hb e0 e1
    refine kb_140_53 vk (c_101 vk ?_)
    rw [nI_clamp (by omega), eo, e1]
    exact m t ht b hb o ho _ _ _
  have n34 : ∀ t, t < 2 → ∀ o3 o4 o5 o6, mw (d + 2) mt_140 Q 34 [some (.ref 10), some (.int (nI k)), some (.int (nI t)), o3, o4, o5, o6] [] σ := fun t ht o3 o4 o5 o6 =>
    kb_140_34 vk (fun _ => n44 t ht _ _ _ _) (fun _ => n53 t ht _ _ _ _)
  have n19 : ∀ o2 o3 o4 o5 o6, mw (d + 2) mt_140 Q 19 [some (.ref 10), some (.int (nI k)), o2, o3, o4, o5, o6] [] σ := fun o2 o3 o4 o5 o6 =>
    kb_140_19 vk (fun _ => n44 1 (by omega) _ _ _ _) (fun _ => n34 1 (by omega) _ _ _ _)
  exact ke_140 (kb_140_0 vk (fun _ => n19 _ _ _ _ _) (fun _ => kb_140_9 vk (fun _ => n19 _ _ _ _ _) (fun _ => kb_140_23 vk (fun _ => n44 0 (by omega) _ _ _ _) (fun _ => n34 0 (by omega) _ _ _ _))))
def FP (σ τ : mm_S) : Prop := (∀ c, c ≠ 10 → c ≠ 96 → c ≠ 97 → τ c = σ c) ∧ ∀ j, j ≠ 32 → j ≠ 33 → j ≠ 44 → τ 10 j = σ 10 j
theorem FP_t {σ τ ρ : mm_S} (h : FP σ τ) (k : FP τ ρ) : FP σ ρ := ⟨fun c a b e => by rw [k.1 c a b e]; exact h.1 c a b e, fun j a b e => by rw [k.2 j a b e]; exact h.2 j a b e⟩
theorem c_138 {d n : Nat} {Q : mm_Q} {σ : mm_S} (hn : n ≤ 21) (e6 : σ 10 6 = nI n) (je : ∀ k, k < n → ∃ a b, a < 9 ∧ b < 9 ∧ σ 80 k = nI a ∧ σ 81 k = nI b) (q : ∀ τ, FP σ τ → Q none τ) : mD (d + 4) 138 [.ref 10] σ Q := by
  have lp : ∀ s, ∀ τ x1, FP σ τ → Sm τ < s → mw (d + 3) mt_138 Q 43 [some (.ref 10), some (.int x1)] [] τ := by
    intro s
    induction s with
    | zero => intro τ x1 F hs; exact absurd hs (by omega)
    | succ s ih =>
      intro τ x1 F hs
      refine kb_138_43 (fun _ => kb_138_107 (q τ F)) (fun _ => kb_138_50 ?_)
      have F0 : FP σ (mm_up τ 10 44 0) := FP_t F ⟨fun c a _ _ => mm_up_n a, fun j _ _ e => mm_up_o e⟩
      have S0 : Sm (mm_up τ 10 44 0) = Sm τ := by
        unfold Sm
        rw [mm_up_o (by decide), mm_up_o (by decide), mm_up_n (by decide), mm_up_n (by decide)]
      have FG : ∀ ρ, Gw (mm_up τ 10 44 0) ρ → FP σ ρ := fun ρ G => FP_t F0 ⟨G.1, G.2.1⟩
      refine lp_dn (P := fun r => ∀ ρ : mm_S, Gw (mm_up τ 10 44 0) ρ → mw (d + 3) mt_138 Q 57 [some (.ref 10), some (.int (nI r))] [] ρ) 9 ?_ ?_ 0 (by omega) _ Gw_r
      · intro ρ G
        refine kb_138_57 (fun _ => kb_138_83 ?_) (fun g => absurd (by decide) g)
        refine lp_dn (P := fun k => ∀ ρ : mm_S, Gw (mm_up τ 10 44 0) ρ → mw (d + 3) mt_138 Q 85 [some (.ref 10), some (.int (nI k))] [] ρ) n ?_ ?_ 0 (by omega) ρ G
        · intro ρ G
          have F1 := FG ρ G
          refine kb_138_85 (fun _ => kb_138_104 ?_) (fun g => absurd (by rw [F1.2 6 (by decide) (by decide) (by decide), e6]; exact hI_le (by omega) (Nat.le_refl n)) g)
          rcases G.2.2.2 with h | h
          · exact kb_138_43 (fun _ => kb_138_107 (q ρ F1)) (fun g => absurd (h.trans mm_up_s) g)
          · exact ih ρ _ F1 (by omega)
        · intro k hk ihk ρ G
          have F1 := FG ρ G
          obtain ⟨a, b, ha, hb, ea, eb⟩ := je k hk
          refine kb_138_85 (fun g => absurd g (by rw [F1.2 6 (by decide) (by decide) (by decide), e6]; exact hI_nle (by omega) hk)) (fun _ => kb_138_93 (c_140 (by omega) ha hb (by rw [F1.1 80 (by decide) (by decide) (by decide)]; exact ea) (by rw [F1.1 81 (by decide) (by decide) (by decide)]; exact eb) (fun ρ' G' => kb_138_98 ?_)))
          rw [nI_1]
          exact ihk ρ' (Gw_t G G')
      · intro r hr ihr ρ G
        refine kb_138_57 (fun g => absurd g (hI_nle (a := 9) (by omega) hr)) (fun _ => kb_138_63 (pk_in r 9 hr) (fun _ => kb_138_77 (by rw [nI_1]; exact ihr ρ G)) (fun _ => kb_138_72 (c_139 hr (fun ρ' G' => kb_138_77 ?_))))
        rw [nI_1]
        exact ihr ρ' (Gw_t G G')
  refine ke_138 (kb_138_0 ?_)
  refine lp_dn (P := fun i => ∀ ρ : mm_S, FP σ ρ → mw (d + 3) mt_138 Q 2 [some (.ref 10), some (.int (nI i))] [] ρ) 18 ?_ ?_ 0 (by omega) σ ⟨fun _ _ _ _ => rfl, fun _ _ _ _ => rfl⟩
  · intro ρ F
    exact kb_138_2 (fun _ => kb_138_28 (lp _ _ _ (FP_t F ⟨fun c a _ _ => by rw [mm_up_n a, mm_up_n a, mm_up_n a], fun j a b e => by rw [mm_up_o e, mm_up_o b, mm_up_o a]⟩) (Nat.lt_succ_self _))) (fun g => absurd (by decide) g)
  · intro i hi ih ρ F
    refine kb_138_2 (fun g => absurd g (hI_nle (a := 18) (by omega) hi)) (fun _ => kb_138_8 (pk_in i 18 hi) (pk_in i 18 hi) ?_)
    rw [nI_1]
    exact ih _ (FP_t F ⟨fun c a b e => by rw [mm_up_n e, mm_up_n b], fun j _ _ _ => by rw [mm_up_n (by decide), mm_up_n (by decide)]⟩)

/-! the reference: search finds the least of all vectors that agree with a cut at each room -/
def LT (zz : Nat → Nat) (en : Nat → Nat → Nat) (ro : Nat → Nat) (l k : Nat) : Prop := ∃ i, i < l ∧ inR zz en (ro i) k
def FE (zz : Nat → Nat) (en : Nat → Nat → Nat) (ja ro : Nat → Nat) (n lv l : Nat) (D : Nat → Nat) : Prop := ∀ i, l ≤ i → i < lv → ∃ s a b u, cok (zz (ro i)) s a b u ∧ FTS zz en ja n (ro i) s a b u D
def AG (n : Nat) (T : Nat → Prop) (D E : Nat → Nat) : Prop := ∀ k, k < n → T k → D k = E k
def Cov (zz : Nat → Nat) (en : Nat → Nat → Nat) (ja ro : Nat → Nat) (n lv l : Nat) (X : (Nat → Nat) → Prop) (E0 : Nat → Nat) (ob : Nat → Prop) (D : Nat → Nat) : Prop := X D ∨ (AG n (LT zz en ro l) D E0 ∧ FE zz en ja ro n lv (l + 1) D ∧ ∃ s a b u, cok (zz (ro l)) s a b u ∧ ob (cdv s a b u) ∧ FTS zz en ja n (ro l) s a b u D)
theorem cdv_inj {s a b u x y v w : Nat} (h1 : a < 16) (h2 : b < 16) (h3 : u < 16) (h4 : y < 16) (h5 : v < 16) (h6 : w < 16) (h : cdv s a b u = cdv x y v w) : s = x ∧ a = y ∧ b = v ∧ u = w := by
  unfold cdv at h; omega
theorem DLT_cg {n : Nat} {τ : mm_S} {T T' : Nat → Prop} {E : Nat → Nat} (h : DLT n τ T E) (e : ∀ k, k < n → (T k ↔ T' k)) : DLT n τ T' E := fun k hk => ⟨fun t => (h k hk).1 ((e k hk).mpr t), fun t => (h k hk).2 (fun y => t ((e k hk).mp y))⟩
theorem DLT_E {n : Nat} {τ : mm_S} {T : Nat → Prop} {E E' : Nat → Nat} (h : DLT n τ T E) (e : ∀ k, k < n → T k → E k = E' k) : DLT n τ T E' := fun k hk => ⟨fun t => by rw [← e k hk t]; exact (h k hk).1 t, (h k hk).2⟩
theorem FTS_cg {zz : Nat → Nat} {en : Nat → Nat → Nat} {ja : Nat → Nat} {n r s a b u : Nat} {D D' : Nat → Nat} (e : ∀ k, k < n → inR zz en r k → D' k = D k) (h : FTS zz en ja n r s a b u D) : FTS zz en ja n r s a b u D' := fun i hi => by
  obtain ⟨h1, h2⟩ := h i hi
  refine ⟨fun hk => ?_, h2⟩
  rw [e _ hk ⟨(s + i) % zz r, Nat.mod_lt _ (by omega), rfl⟩]
  exact h1 hk
theorem fts_eq {zz : Nat → Nat} {en : Nat → Nat → Nat} {ja : Nat → Nat} {n r s a b u : Nat} {D D' : Nat → Nat} (hc : cok (zz r) s a b u) (h : FTS zz en ja n r s a b u D) (h' : FTS zz en ja n r s a b u D') : ∀ k, k < n → inR zz en r k → D k = D' k := by
  rintro k hk ⟨i, hi, e⟩
  have hs : s < zz r := hc.1
  have e1 : (s + (i + zz r - s) % zz r) % zz r = i := by
    rw [Nat.add_mod_mod, show s + (i + zz r - s) = i + zz r by omega, Nat.add_mod_right, Nat.mod_eq_of_lt hi]
  have a1 := (h ((i + zz r - s) % zz r) (Nat.mod_lt _ (by omega))).1
  have a2 := (h' ((i + zz r - s) % zz r) (Nat.mod_lt _ (by omega))).1
  rw [e1, e] at a1 a2
  rw [a1 hk, a2 hk]
theorem c_133u {d n : Nat} {Q : mm_Q} {τ : mm_S} {T : Nat → Prop} {E : Nat → Nat} {RL X : (Nat → Nat) → Prop} (hn : n ≤ 21) (e6 : τ 10 6 = nI n) (hT : DLT n τ T E) (F : FBr n RL τ X) (q1 : Q (some (.int 1)) τ) (q0 : FBr n RL τ (fun D => X D ∨ AG n T D E) → Q (some (.int 0)) τ) : mD (d + 1) 133 [.ref 10] τ Q := by
  rcases F with ⟨a, no⟩ | ⟨a, D0, r0, b0, mn⟩
  · exact c_133t (D0 := fun _ => 0) hn e6 hT (Or.inl a) (fun _ => q1) (fun z _ => by rw [a] at z; exact absurd z (by decide))
  · exact c_133t hn e6 hT (Or.inr ⟨a, b0⟩) (fun _ => q1) (fun _ h => q0 (Or.inr ⟨a, D0, r0, b0, fun D hD => hD.elim (mn D) (fun z => h D z)⟩))
def SX (τ0 : mm_S) (n lv : Nat) (zz ja ro : Nat → Nat) (en : Nat → Nat → Nat) : Prop := (n ≤ 21) ∧ (τ0 10 6 = nI n) ∧ (lv ≤ 9) ∧ (τ0 10 37 = nI lv) ∧ (∀ l, l < lv → ro l < 9 ∧ τ0 100 l = nI (ro l)) ∧ (∀ l, l < lv → zz (ro l) ≤ 16 ∧ τ0 89 (ro l) = nI (zz (ro l))) ∧ (∀ l, l < lv → ∀ i, i < zz (ro l) → τ0 90 (16 * ro l + i) = nI (en (ro l) i) ∧ (en (ro l) i < n ∨ ∃ s', s' < 4 ∧ en (ro l) i = 41 + s')) ∧ (∀ k, k < n → ja k < 9 ∧ τ0 80 k = nI (ja k)) ∧ (∀ k, k < n → LT zz en ro lv k)
theorem SX.n21 {τ0 : mm_S} {n lv : Nat} {zz ja ro : Nat → Nat} {en : Nat → Nat → Nat} (h : SX τ0 n lv zz ja ro en) : n ≤ 21 := h.1
theorem SX.e6 {τ0 : mm_S} {n lv : Nat} {zz ja ro : Nat → Nat} {en : Nat → Nat → Nat} (h : SX τ0 n lv zz ja ro en) : τ0 10 6 = nI n := h.2.1
theorem SX.lv9 {τ0 : mm_S} {n lv : Nat} {zz ja ro : Nat → Nat} {en : Nat → Nat → Nat} (h : SX τ0 n lv zz ja ro en) : lv ≤ 9 := h.2.2.1
theorem SX.e37 {τ0 : mm_S} {n lv : Nat} {zz ja ro : Nat → Nat} {en : Nat → Nat → Nat} (h : SX τ0 n lv zz ja ro en) : τ0 10 37 = nI lv := h.2.2.2.1
theorem SX.rm {τ0 : mm_S} {n lv : Nat} {zz ja ro : Nat → Nat} {en : Nat → Nat → Nat} (h : SX τ0 n lv zz ja ro en) : ∀ l, l < lv → ro l < 9 ∧ τ0 100 l = nI (ro l) := h.2.2.2.2.1
theorem SX.zq {τ0 : mm_S} {n lv : Nat} {zz ja ro : Nat → Nat} {en : Nat → Nat → Nat} (h : SX τ0 n lv zz ja ro en) : ∀ l, l < lv → zz (ro l) ≤ 16 ∧ τ0 89 (ro l) = nI (zz (ro l)) := h.2.2.2.2.2.1
theorem SX.rg {τ0 : mm_S} {n lv : Nat} {zz ja ro : Nat → Nat} {en : Nat → Nat → Nat} (h : SX τ0 n lv zz ja ro en) : ∀ l, l < lv → ∀ i, i < zz (ro l) → τ0 90 (16 * ro l + i) = nI (en (ro l) i) ∧ (en (ro l) i < n ∨ ∃ s', s' < 4 ∧ en (ro l) i = 41 + s') := h.2.2.2.2.2.2.1
theorem SX.jj {τ0 : mm_S} {n lv : Nat} {zz ja ro : Nat → Nat} {en : Nat → Nat → Nat} (h : SX τ0 n lv zz ja ro en) : ∀ k, k < n → ja k < 9 ∧ τ0 80 k = nI (ja k) := h.2.2.2.2.2.2.2.1
theorem SX.tot {τ0 : mm_S} {n lv : Nat} {zz ja ro : Nat → Nat} {en : Nat → Nat → Nat} (h : SX τ0 n lv zz ja ro en) : ∀ k, k < n → LT zz en ro lv k := h.2.2.2.2.2.2.2.2
theorem LT_s {zz : Nat → Nat} {en : Nat → Nat → Nat} {ro : Nat → Nat} {l k : Nat} : LT zz en ro (l + 1) k ↔ LT zz en ro l k ∨ inR zz en (ro l) k := by
  unfold LT
  constructor
  · rintro ⟨i, hi, h⟩
    by_cases e : i = l
    · subst e; exact Or.inr h
    · exact Or.inl ⟨i, by omega, h⟩
  · rintro (⟨i, hi, h⟩ | h)
    · exact ⟨i, by omega, h⟩
    · exact ⟨l, by omega, h⟩
theorem lev_t {d n lv l : Nat} {Q : mm_Q} {τ0 : mm_S} {zz ja ro : Nat → Nat} {en : Nat → Nat → Nat} {E0 : Nat → Nat} {X RL : (Nat → Nat) → Prop} (S : SX τ0 n lv zz ja ro en) (hl : l < lv)
    (deep : ∀ (τ4 : mm_S) (E' : Nat → Nat) (s a b u : Nat) (X' : (Nat → Nat) → Prop), SI τ0 τ4 → cok (zz (ro l)) s a b u → DLT n τ4 (LT zz en ro (l + 1)) E' → AG n (LT zz en ro l) E' E0 → FTS zz en ja n (ro l) s a b u E' → (∀ i, l < i → i < lv → τ4 105 i = nI 0) → FBr n RL τ4 X' →
      (∀ τ5, SI τ0 τ5 → (∀ c i, 101 ≤ c → c ≤ 105 → i ≤ l → τ5 c i = τ4 c i) → (∀ i, l < i → i < lv → τ5 105 i = nI 0) → DLT n τ5 (LT zz en ro (l + 1)) E' → FBr n RL τ5 (fun D => X' D ∨ (AG n (LT zz en ro (l + 1)) D E' ∧ FE zz en ja ro n lv (l + 1) D)) → mw (d + 2) mt_131 Q 70 [some (.ref 10), some (.int (nI l))] [] τ5) →
      mw (d + 2) mt_131 Q 108 [some (.ref 10), some (.int (nI l))] [] τ4)
    (τ : mm_S) (I0 : SI τ0 τ) (hnone : τ 101 l = -1) (D0 : DLT n τ (LT zz en ro l) E0) (z0 : ∀ i, l ≤ i → i < lv → τ 105 i = nI 0) (F0 : FBr n RL τ X)
    (K : ∀ τ', SI τ0 τ' → (∀ c i, 101 ≤ c → c ≤ 105 → i < l → τ' c i = τ c i) → (∀ i, l ≤ i → i < lv → τ' 105 i = nI 0) → DLT n τ' (LT zz en ro l) E0 → FBr n RL τ' (fun D => X D ∨ (AG n (LT zz en ro l) D E0 ∧ FE zz en ja ro n lv l D)) → mw (d + 2) mt_131 Q 70 [some (.ref 10), some (.int (nI l + (-1)))] [] τ') :
    mw (d + 2) mt_131 Q 70 [some (.ref 10), some (.int (nI l))] [] τ := by
  have lv9 := S.lv9
  obtain ⟨r9, e100⟩ := S.rm l hl
  obtain ⟨z16, e89⟩ := S.zq l hl
  have RR := S.rg l hl
  have n21 := S.n21
  obtain ⟨r, er⟩ : ∃ r, r = ro l := ⟨_, rfl⟩
  rw [← er] at r9 e100 z16 e89 RR
  have inner : ∀ k (τ1 : mm_S), SI τ0 τ1 → (∀ c i, 101 ≤ c → c ≤ 105 → i < l → τ1 c i = τ c i) → (∀ i, l < i → i < lv → τ1 105 i = nI 0) → (∃ E g, DLT n τ1 (fun k => LT zz en ro l k ∨ g.testBit k = true) E ∧ τ1 105 l = nI g ∧ g < 2 ^ 21 ∧ (∀ k, k < n → g.testBit k = true → ¬ LT zz en ro l k) ∧ AG n (LT zz en ro l) E E0) → (∃ ob : Nat → Prop, ((τ1 101 l = -1 ∧ 70000 ≤ k ∧ ∀ x, ¬ ob x) ∨ ∃ s a b u, cok (zz r) s a b u ∧ CU τ1 l s a b u ∧ 69999 ≤ cdv s a b u + k ∧ ∀ x, ob x ↔ x ≤ cdv s a b u) ∧ FBr n RL τ1 (Cov zz en ja ro n lv l X E0 ob)) → mw (d + 2) mt_131 Q 70 [some (.ref 10), some (.int (nI l))] [] τ1 := by
    intro k
    induction k with
    | zero =>
      rintro τ1 _ _ _ _ ⟨ob, ⟨_, h, _⟩ | ⟨s, a, b, u, hc, _, h, _⟩, _⟩
      · omega
      · unfold cok at hc; unfold cdv at h; omega
    | succ k ih =>
      rintro τ1 I1 B1 z1 ⟨E, g, dl, eg, g21, gn, ag⟩ ⟨ob, V1, F1⟩
      have x6 : τ1 10 6 = nI n := by rw [I1.2 6 (by decide)]; exact S.e6
      refine kb_131_70 (fun g => absurd g (nI_pos (by omega))) (fun _ => kb_131_74 (c_130t n21 x6 (by omega) eg g21 dl (fun τ2 f2 f5 e0 dl2 => kb_131_79 ?_)))
      have D2 : DLT n τ2 (LT zz en ro l) E0 := DLT_E (DLT_cg dl2 (fun k hk => ⟨fun ⟨y, w⟩ => y.resolve_right w, fun y => ⟨Or.inl y, fun w => gn k hk w y⟩⟩)) ag
      have I2 : SI τ0 τ2 := ⟨fun c h1 h2 h3 h4 => by rw [f2 c h2 (by omega)]; exact I1.1 c h1 h2 h3 h4, fun j hj => by rw [f2 10 (by decide) (by decide)]; exact I1.2 j hj⟩
      have y100 : τ2 100 l = nI r := by rw [I2.1 100 (by decide) (by decide) (by decide) (by omega)]; exact e100
      have y89 : τ2 89 r = nI (zz r) := by rw [I2.1 89 (by decide) (by decide) (by decide) (by omega)]; exact e89
      have c2 : ∀ c i, 101 ≤ c → c ≤ 104 → τ2 c i = τ1 c i := fun c i h1 h2 => by rw [f2 c (by omega) (by omega)]
      have F2 : FBr n RL τ2 (Cov zz en ja ro n lv l X E0 ob) := FBr_cg (by rw [f2 10 (by decide) (by decide)]) (f2 95 (by decide) (by decide)) (fun _ h => h) F1
      have B2 : ∀ c i, 101 ≤ c → c ≤ 105 → i < l → τ2 c i = τ c i := fun c i h1 h2 h3 => by
        by_cases e : c = 105
        · subst e; rw [f5 i (by omega)]; exact B1 105 i h1 h2 h3
        · rw [c2 c i h1 (by omega)]; exact B1 c i h1 h2 h3
      have z2 : ∀ i, l ≤ i → i < lv → τ2 105 i = nI 0 := fun i h1 h2 => by
        by_cases e : i = l
        · subst e; exact e0
        · rw [f5 i e]; exact z1 i (by omega) h2
      have V2 : (τ2 101 l = -1 ∧ 70000 ≤ k + 1 ∧ ∀ x, ¬ ob x) ∨ ∃ s a b u, cok (zz r) s a b u ∧ CU τ2 l s a b u ∧ 69999 ≤ cdv s a b u + (k + 1) ∧ ∀ x, ob x ↔ x ≤ cdv s a b u := by
        rcases V1 with ⟨h, h'⟩ | ⟨s, a, b, u, h1, C, h'⟩
        · exact Or.inl ⟨by rw [c2 101 l (by omega) (by omega)]; exact h, h'⟩
        · refine Or.inr ⟨s, a, b, u, h1, ?_, h'⟩
          unfold CU
          rw [c2 101 l (by omega) (by omega), c2 102 l (by omega) (by omega), c2 103 l (by omega) (by omega), c2 104 l (by omega) (by omega)]
          exact C
      clear V1 F1 dl2 dl
      refine c_129t (by omega) r9 y100 y89 z16 (V2.imp (fun h => h.1) (fun ⟨s, a, b, u, h1, C, _⟩ => ⟨s, a, b, u, h1.1, h1.2.1, h1.2.2.1, h1.2.2.2.1, h1.2.2.2.2, C⟩)) (fun τ3 f3 no1 no2 => kb_131_84 (fun _ => kb_131_87 ?_) (fun g => absurd rfl g)) (fun τ3 s a b u f3 hs ha hb hu hsum C3 hcd => kb_131_84 (fun g => absurd g (by decide)) (fun _ => kb_131_93 ?_))
      · refine K τ3 ⟨fun c h1 h2 h3 h4 => ?_, fun j hj => ?_⟩ (fun c i h1 h2 h3 => ?_) (fun i h1 h2 => ?_) (fun k hk => ?_) (FBr_cg (f3 10 29 (by omega)) (funext (fun x => f3 95 x (by omega))) (fun D hD => ?_) F2)
        · funext x; rw [f3 c x (by omega)]; exact congrFun (I2.1 c h1 h2 h3 h4) x
        · rw [f3 10 j (by omega)]; exact I2.2 j hj
        · rw [f3 c i (by omega)]; exact B2 c i h1 h2 h3
        · rw [f3 105 i (by omega)]; exact z2 i h1 h2
        · rw [f3 94 k (by omega)]; exact D2 k hk
        · rcases hD with y | ⟨y1, y2⟩
          · exact Or.inl y
          · obtain ⟨x, y, v, w, hc, hf⟩ := y2 l (Nat.le_refl l) hl
            refine Or.inr ⟨y1, fun i h1 h2 => y2 i (by omega) h2, x, y, v, w, hc, ?_, hf⟩
            rw [← er] at hc
            rcases V2 with ⟨h, _⟩ | ⟨s, a, b, u, h1, C, _, h2⟩
            · exact absurd hc (no2 h x y v w)
            · exact (h2 _).mpr (no1 s a b u C h1 x y v w hc)
      · have I3 : SI τ0 τ3 := ⟨fun c h1 h2 h3 h4 => by funext x; rw [f3 c x (by omega)]; exact congrFun (I2.1 c h1 h2 h3 h4) x, fun j hj => by rw [f3 10 j (by omega)]; exact I2.2 j hj⟩
        have B3 : ∀ c i, 101 ≤ c → c ≤ 105 → i < l → τ3 c i = τ c i := fun c i h1 h2 h3 => by rw [f3 c i (by omega)]; exact B2 c i h1 h2 h3
        have z3 : ∀ i, l ≤ i → i < lv → τ3 105 i = nI 0 := fun i h1 h2 => by rw [f3 105 i (by omega)]; exact z2 i h1 h2
        have D3 : DLT n τ3 (LT zz en ro l) E0 := fun k hk => by rw [f3 94 k (by omega)]; exact D2 k hk
        have F3 : FBr n RL τ3 (Cov zz en ja ro n lv l X E0 ob) := FBr_cg (f3 10 29 (by omega)) (funext (fun x => f3 95 x (by omega))) (fun _ h => h) F2
        have k3 := I3.1
        have hc : cok (zz r) s a b u := ⟨hs, ha, hb, hu, hsum⟩
        obtain ⟨cnt, stp⟩ : 69999 ≤ cdv s a b u + k ∧ ∀ x y v w, cok (zz r) x y v w → cdv x y v w ≤ cdv s a b u → ob (cdv x y v w) ∨ (x = s ∧ y = a ∧ v = b ∧ w = u) := by
          have eqs : ∀ x y v w, cok (zz r) x y v w → cdv x y v w ≤ cdv s a b u → cdv s a b u ≤ cdv x y v w → (x = s ∧ y = a ∧ v = b ∧ w = u) := fun x y v w h h1 h2 => by
            unfold cok at h
            exact cdv_inj (by omega) (by omega) (by omega) (by omega) (by omega) (by omega) (Nat.le_antisymm h1 h2)
          rcases hcd with ⟨e, mn⟩ | ⟨s0, a0, b0, u0, C0, hs0, ha0, hb0, hu0, hsum0, nx⟩
          · refine ⟨?_, fun x y v w h h1 => Or.inr (eqs x y v w h h1 (mn x y v w h))⟩
            rcases V2 with ⟨_, h, _⟩ | ⟨s', a', b', u', h1, C', _⟩
            · unfold cdv; omega
            · rw [C'.1] at e
              exact absurd e (nI_m1 (by unfold cok at h1; omega))
          · rcases V2 with ⟨h, _⟩ | ⟨s', a', b', u', h1, C', h2, h3⟩
            · rw [C0.1] at h
              exact absurd h (nI_m1 (by omega))
            · have h1' := h1
              unfold cok at h1'
              unfold CU at C0 C'
              have q1 := (nI_eq (by omega) (by omega)).mp (C'.1.symm.trans C0.1)
              have q2 := (nI_eq (by omega) (by omega)).mp (C'.2.1.symm.trans C0.2.1)
              have q3 := (nI_eq (by omega) (by omega)).mp (C'.2.2.1.symm.trans C0.2.2.1)
              have q4 := (nI_eq (by omega) (by omega)).mp (C'.2.2.2.symm.trans C0.2.2.2)
              subst q1; subst q2; subst q3; subst q4
              have := nx.1
              refine ⟨by omega, fun x y v w h hle => ?_⟩
              rcases Nat.lt_or_ge (cdv s' a' b' u') (cdv x y v w) with c | c
              · exact Or.inr (eqs x y v w h hle (nx.2 x y v w h c))
              · exact Or.inl ((h3 _).mpr c)
        -- one cut further
        have again : ∀ (τ5 : mm_S) (E2 : Nat → Nat) (g2 : Nat), SI τ0 τ5 → (∀ c i, 101 ≤ c → c ≤ 104 → i ≤ l → τ5 c i = τ3 c i) → (∀ i, i < l → τ5 105 i = τ3 105 i) → (∀ i, l < i → i < lv → τ5 105 i = nI 0) → DLT n τ5 (fun k => LT zz en ro l k ∨ g2.testBit k = true) E2 → τ5 105 l = nI g2 → g2 < 2 ^ 21 → (∀ k, k < n → g2.testBit k = true → ¬ LT zz en ro l k) → AG n (LT zz en ro l) E2 E0 → FBr n RL τ5 (Cov zz en ja ro n lv l X E0 (fun x => x ≤ cdv s a b u)) → mw (d + 2) mt_131 Q 70 [some (.ref 10), some (.int (nI l))] [] τ5 := fun τ5 E2 g2 I5 h1 h2 h3 h4 h5 h6 h7 h8 F5 => by
          refine ih τ5 I5 (fun c i p1 p2 p3 => ?_) h3 ⟨E2, g2, h4, h5, h6, h7, h8⟩ ⟨_, Or.inr ⟨s, a, b, u, hc, ?_, cnt, fun x => Iff.rfl⟩, F5⟩
          · rw [← B3 c i p1 p2 p3]
            by_cases e : c = 105
            · subst e; exact h2 i p3
            · exact h1 c i p1 (by omega) (by omega)
          · unfold CU
            rw [h1 101 l (by omega) (by omega) (Nat.le_refl l), h1 102 l (by omega) (by omega) (Nat.le_refl l), h1 103 l (by omega) (by omega) (Nat.le_refl l), h1 104 l (by omega) (by omega) (Nat.le_refl l)]
            exact C3
        have stpD : ∀ D, Cov zz en ja ro n lv l X E0 (fun x => x ≤ cdv s a b u) D → Cov zz en ja ro n lv l X E0 ob D ∨ (AG n (LT zz en ro l) D E0 ∧ FE zz en ja ro n lv (l + 1) D ∧ FTS zz en ja n r s a b u D) := fun D hD => by
          rcases hD with y | ⟨y1, y2, x, y, v, w, h1, h2, h3⟩
          · exact Or.inl (Or.inl y)
          · rw [← er] at h1 h3
            rcases stp x y v w h1 h2 with o | ⟨rfl, rfl, rfl, rfl⟩
            · exact Or.inl (Or.inr ⟨y1, y2, x, y, v, w, by rw [← er]; exact h1, o, by rw [← er]; exact h3⟩)
            · exact Or.inr ⟨y1, y2, h3⟩
        refine c_132t (zz := zz) (ja := ja) (en := en) n21 (by omega) r9 (by rw [k3 100 (by decide) (by decide) (by decide) (by omega)]; exact e100) z16 (by rw [k3 89 (by decide) (by decide) (by decide) (by omega)]; exact e89) (fun i hi => by rw [k3 90 (by decide) (by decide) (by decide) (by omega)]; exact RR i hi) (fun k hk => by rw [k3 80 (by decide) (by decide) (by decide) (by omega)]; exact S.jj k hk) hc C3 D3 (z3 l (Nat.le_refl l) hl) (fun τ4 E' g4 f4 f5' eg4 g421 gb4 dl4 ag4 ft4 => ?_) (fun τ4 E' g4 f4 f5' eg4 g421 gn4 dl4 ag4 no4 => ?_)
        all_goals
          have I4 : SI τ0 τ4 := ⟨fun c h1 h2 h3 h4 => by rw [f4 c h2 (by omega)]; exact I3.1 c h1 h2 h3 h4, fun j hj => by rw [f4 10 (by decide) (by decide)]; exact I3.2 j hj⟩
          have g4' : ∀ c i, 101 ≤ c → c ≤ 104 → τ4 c i = τ3 c i := fun c i h1 h2 => by rw [f4 c (by omega) (by omega)]
          have z4 : ∀ i, l < i → i < lv → τ4 105 i = nI 0 := fun i h1 h2 => by rw [f5' i (by omega)]; exact z3 i (by omega) h2
          have F4 : FBr n RL τ4 (Cov zz en ja ro n lv l X E0 ob) := FBr_cg (by rw [f4 10 (by decide) (by decide)]) (f4 95 (by decide) (by decide)) (fun _ h => h) F3
        · have dlg : ∀ τ5 : mm_S, DLT n τ5 (LT zz en ro (l + 1)) E' → DLT n τ5 (fun k => LT zz en ro l k ∨ g4.testBit k = true) E' := fun τ5 h => DLT_cg h (fun k hk => by
            rw [LT_s, ← er]
            constructor
            · intro y
              by_cases t : LT zz en ro l k
              · exact Or.inl t
              · exact Or.inr ((gb4 k hk).mpr ⟨y.resolve_left t, t⟩)
            · exact fun y => y.imp (fun t => t) (fun t => ((gb4 k hk).mp t).1))
          have dl5 : DLT n τ4 (LT zz en ro (l + 1)) E' := DLT_cg dl4 (fun k hk => by rw [LT_s, ← er])
          have agD : ∀ D, AG n (LT zz en ro l) D E0 → FTS zz en ja n r s a b u D → AG n (LT zz en ro (l + 1)) D E' := fun D h1 h2 k hk t => by
            rw [LT_s, ← er] at t
            rcases t with t | t
            · rw [h1 k hk t, ag4 k hk t]
            · exact fts_eq hc h2 ft4 k hk t
          refine kb_131_98 (fun g => absurd g (by decide)) (fun _ => kb_131_101 (c_133u n21 (by rw [I4.2 6 (by decide)]; exact S.e6) dl5 F4 (kb_131_105 (fun g => absurd g (by decide)) (fun _ => ?_)) (fun F5 => kb_131_105 (fun _ => ?_) (fun g => absurd rfl g))))
          · refine deep τ4 E' s a b u _ I4 (by rw [← er]; exact hc) dl5 ag4 (by rw [← er]; exact ft4) z4 F4 (fun τ5 I5 h1 h2 h3 F5 => ?_)
            refine again τ5 E' g4 I5 (fun c i p1 p2 p3 => by rw [h1 c i p1 (by omega) p3]; exact g4' c i p1 p2) (fun i p => by rw [h1 105 i (by omega) (by omega) (by omega)]; exact f5' i (by omega)) h2 (dlg τ5 h3) (by rw [h1 105 l (by omega) (by omega) (Nat.le_refl l)]; exact eg4) g421 (fun k hk y => ((gb4 k hk).mp y).2) ag4 (FBr_cg rfl rfl (fun D hD => ?_) F5)
            rcases stpD D hD with y | ⟨y1, y2, y3⟩
            · exact Or.inl y
            · exact Or.inr ⟨agD D y1 y3, y2⟩
          · refine again τ4 E' g4 I4 (fun c i p1 p2 _ => g4' c i p1 p2) (fun i p => f5' i (by omega)) z4 (dlg τ4 dl5) eg4 g421 (fun k hk y => ((gb4 k hk).mp y).2) ag4 (FBr_cg rfl rfl (fun D hD => ?_) F5)
            rcases stpD D hD with y | ⟨y1, y2, y3⟩
            · exact Or.inl y
            · exact Or.inr (agD D y1 y3)
        · refine kb_131_98 (fun _ => ?_) (fun g => absurd rfl g)
          refine again τ4 E' g4 I4 (fun c i p1 p2 _ => g4' c i p1 p2) (fun i p => f5' i (by omega)) z4 dl4 eg4 g421 gn4 ag4 (FBr_cg rfl rfl (fun D hD => ?_) F4)
          rcases stpD D hD with y | ⟨y1, y2, y3⟩
          · exact y
          · exact absurd y3 (no4 D y1)
  refine inner 70000 τ I0 (fun _ _ _ _ _ => rfl) (fun i h1 h2 => z0 i (by omega) h2) ⟨E0, 0, DLT_cg D0 (fun k _ => ⟨Or.inl, fun y => y.elim (fun t => t) (fun t => by rw [tb_0] at t; exact absurd t (by decide))⟩), z0 l (Nat.le_refl l) hl, by decide, fun k _ y => by rw [tb_0] at y; exact absurd y (by decide), fun _ _ _ => rfl⟩ ⟨fun _ => False, Or.inl ⟨hnone, Nat.le_refl _, fun _ h => h⟩, FBr_cg rfl rfl (fun D hD => ?_) F0⟩
  rcases hD with y | ⟨_, _, _, _, _, _, _, y, _⟩
  · exact y
  · exact absurd y (fun h => h)
theorem sea_t {d n lv : Nat} {Q : mm_Q} {τ0 : mm_S} {zz ja ro : Nat → Nat} {en : Nat → Nat → Nat} (S : SX τ0 n lv zz ja ro en) :
    ∀ (e l : Nat) (E0 : Nat → Nat) (X : (Nat → Nat) → Prop) (τ : mm_S), l + e + 1 = lv → (∀ i, i < l → ∃ s a b u, cok (zz (ro i)) s a b u ∧ FTS zz en ja n (ro i) s a b u E0) → SI τ0 τ → τ 101 l = -1 → DLT n τ (LT zz en ro l) E0 → (∀ i, l ≤ i → i < lv → τ 105 i = nI 0) → FBr n (FE zz en ja ro n lv 0) τ X →
    (∀ τ', SI τ0 τ' → (∀ c i, 101 ≤ c → c ≤ 105 → i < l → τ' c i = τ c i) → (∀ i, l ≤ i → i < lv → τ' 105 i = nI 0) → DLT n τ' (LT zz en ro l) E0 → FBr n (FE zz en ja ro n lv 0) τ' (fun D => X D ∨ (AG n (LT zz en ro l) D E0 ∧ FE zz en ja ro n lv l D)) → mw (d + 2) mt_131 Q 70 [some (.ref 10), some (.int (nI l + (-1)))] [] τ') →
    mw (d + 2) mt_131 Q 70 [some (.ref 10), some (.int (nI l))] [] τ := by
  have n21 := S.n21
  have lv9 := S.lv9
  have low : ∀ (l : Nat) (E0 E' : Nat → Nat) (s a b u : Nat), (∀ i, i < l → ∃ s a b u, cok (zz (ro i)) s a b u ∧ FTS zz en ja n (ro i) s a b u E0) → AG n (LT zz en ro l) E' E0 → cok (zz (ro l)) s a b u → FTS zz en ja n (ro l) s a b u E' → ∀ i, i < l + 1 → ∃ s a b u, cok (zz (ro i)) s a b u ∧ FTS zz en ja n (ro i) s a b u E' := fun l E0 E' s a b u h1 h2 h3 h4 i hi => by
    by_cases e : i = l
    · subst e; exact ⟨s, a, b, u, h3, h4⟩
    · obtain ⟨s', a', b', u', k1, k2⟩ := h1 i (by omega)
      exact ⟨s', a', b', u', k1, FTS_cg (fun k hk t => h2 k hk ⟨i, by omega, t⟩) k2⟩
  intro e
  induction e with
  | zero =>
    intro l E0 X τ hl lo I hnone D0 z0 F0 K
    refine lev_t S (by omega) (fun τ4 E' s a b u X' I4 hc dl ag ft z4 F4 back => ?_) τ I hnone D0 z0 F0 K
    have tot : ∀ k, k < n → LT zz en ro (l + 1) k := fun k hk => by have := S.tot k hk; rw [show lv = l + 1 by omega] at this; exact this
    refine kb_131_108 (fun _ => kb_131_118 (c_134t n21 (by rw [I4.2 6 (by decide)]; exact S.e6) dl tot (fun i _ hi => low l E0 E' s a b u lo ag hc ft i (by omega)) F4 (fun τ5 f5 f5' F5 => kb_131_122 (back τ5 ⟨fun c h1 h2 h3 h4 => by rw [f5 c h1 h3]; exact I4.1 c h1 h2 h3 h4, fun j hj => by rw [f5' j hj]; exact I4.2 j hj⟩ (fun c i h1 h2 _ => by rw [f5 c (by omega) (by omega)]) (fun i h1 h2 => by omega) (fun k hk => by rw [f5 94 (by decide) (by decide)]; exact dl k hk) (FBr_cg rfl rfl (fun D hD => hD.imp (fun y => y) (fun y k hk => y.1 k hk (tot k hk))) F5))))) (fun g => absurd ?_ g)
    rw [nI_1, I4.2 37 (by decide), S.e37, show l + 1 = lv by omega]
  | succ e ihe =>
    intro l E0 X τ hl lo I hnone D0 z0 F0 K
    refine lev_t S (by omega) (fun τ4 E' s a b u X' I4 hc dl ag ft z4 F4 back => ?_) τ I hnone D0 z0 F0 K
    refine kb_131_108 (fun g => absurd g ?_) (fun _ => kb_131_125 ?_ ?_)
    · rw [nI_1, I4.2 37 (by decide), S.e37]
      exact fun w => absurd ((nI_eq (by omega) (by omega)).mp w) (by omega)
    · rw [nI_1]; exact pk_in (l + 1) 9 (by omega)
    · rw [nI_1, nI_clamp (show l + 1 < 2 ^ 31 by omega)]
      refine ihe (l + 1) E' X' _ (by omega) (low l E0 E' s a b u lo ag hc ft) ⟨fun c h1 h2 h3 h4 => by rw [mm_up_n (by omega)]; exact I4.1 c h1 h2 h3 h4, fun j hj => by rw [mm_up_n (by decide)]; exact I4.2 j hj⟩ mm_up_s (fun k hk => by rw [mm_up_n (by decide)]; exact dl k hk) (fun i h1 h2 => by rw [mm_up_n (by decide)]; exact z4 i (by omega) h2) (FBr_cg (by rw [mm_up_n (by decide)]) (mm_up_n (by decide)) (fun _ h => h) F4) (fun τ' I' B' z' d' F' => ?_)
      rw [nI_pm]
      refine back τ' I' (fun c i h1 h2 h3 => ?_) (fun i h1 h2 => z' i (by omega) h2) d' F'
      rw [B' c i h1 h2 (by omega)]
      by_cases e : c = 101
      · subst e; rw [mm_up_o (by omega)]
      · rw [mm_up_n e]
/-- what search finds: the least vector that agrees with some cut of each drawn room's ring -/
def RLx (σ : mm_S) (zz : Nat → Nat) (en : Nat → Nat → Nat) (ja : Nat → Nat) (n : Nat) (D : Nat → Nat) : Prop := ∀ r, r < 9 → ¬ σ 75 r = 0 → ∃ s a b u, cok (zz r) s a b u ∧ FTS zz en ja n r s a b u D
def LVt (σ τ : mm_S) (r : Nat) : Prop := (∀ c, c ≠ 10 → c ≠ 100 → c ≠ 105 → τ c = σ c) ∧ (∀ j, j ≠ 37 → τ 10 j = σ 10 j) ∧ ∃ (lv : Nat) (ro : Nat → Nat), lv ≤ r ∧ τ 10 37 = nI lv ∧ (∀ l, l < lv → ro l < 9 ∧ ¬ σ 75 (ro l) = 0 ∧ τ 100 l = nI (ro l) ∧ τ 105 l = nI 0) ∧ ∀ a, a < r → ¬ σ 75 a = 0 → ∃ l, l < lv ∧ ro l = a
theorem c_131t {d n : Nat} {Q : mm_Q} {σ : mm_S} {zz ja : Nat → Nat} {en : Nat → Nat → Nat} (hn : n ≤ 21) (e6 : σ 10 6 = nI n) (h1 : ∃ r, r < 9 ∧ ¬ σ 75 r = 0) (e29 : σ 10 29 = 0) (e94 : ∀ k, k < n → σ 94 k = -1)
    (zq : ∀ r, r < 9 → ¬ σ 75 r = 0 → zz r ≤ 16 ∧ σ 89 r = nI (zz r))
    (rg : ∀ r, r < 9 → ¬ σ 75 r = 0 → ∀ i, i < zz r → σ 90 (16 * r + i) = nI (en r i) ∧ (en r i < n ∨ ∃ s', s' < 4 ∧ en r i = 41 + s'))
    (jj : ∀ k, k < n → ja k < 9 ∧ σ 80 k = nI (ja k)) (tot : ∀ k, k < n → ∃ r, r < 9 ∧ ¬ σ 75 r = 0 ∧ inR zz en r k)
    (q : ∀ τ, SJ σ τ → FBr n (RLx σ zz en ja n) τ (RLx σ zz en ja n) → Q none τ) : mD (d + 3) 131 [.ref 10] σ Q := by
  refine ke_131 (kb_131_0 ?_)
  refine lp_dn (P := fun r => ∀ τ : mm_S, LVt σ τ r → mw (d + 2) mt_131 Q 7 [some (.ref 10), some (.int (nI r))] [] τ) 9 ?_ ?_ 0 (by omega) _ ⟨fun c h _ _ => mm_up_n h, fun j hj => mm_up_o hj, 0, fun _ => 0, Nat.le_refl 0, mm_up_s, fun l hl => absurd hl (by omega), fun a ha => absurd ha (by omega)⟩
  · intro τ ⟨f1, f2, lv, ro, lv9, e37, rm, sj⟩
    have lv1 : 1 ≤ lv := by
      obtain ⟨r, r9, hr⟩ := h1
      obtain ⟨l, hl, _⟩ := sj r r9 hr
      omega
    refine kb_131_7 (fun _ => kb_131_61 (pk_in 0 9 (by omega)) ?_) (fun g => absurd (by decide) g)
    have I0 : SI (mm_up τ 101 0 (-1)) (mm_up τ 101 0 (-1)) := ⟨fun _ _ _ _ _ => rfl, fun _ _ => rfl⟩
    have fx : ∀ c, c ≠ 10 → c ≠ 100 → c ≠ 105 → c ≠ 101 → (mm_up τ 101 0 (-1)) c = σ c := fun c a b c' d' => by rw [mm_up_n d']; exact f1 c a b c'
    have S : SX (mm_up τ 101 0 (-1)) n lv zz ja ro en := ⟨hn, by rw [mm_up_n (by decide), f2 6 (by decide)]; exact e6, lv9, by rw [mm_up_n (by decide)]; exact e37, fun l hl => ⟨(rm l hl).1, by rw [mm_up_n (by decide)]; exact (rm l hl).2.2.1⟩, fun l hl => by rw [fx 89 (by decide) (by decide) (by decide) (by decide)]; exact zq (ro l) (rm l hl).1 (rm l hl).2.1, fun l hl i hi => by rw [fx 90 (by decide) (by decide) (by decide) (by decide)]; exact rg (ro l) (rm l hl).1 (rm l hl).2.1 i hi, fun k hk => by rw [fx 80 (by decide) (by decide) (by decide) (by decide)]; exact jj k hk, fun k hk => by
      obtain ⟨r, r9, hr, h⟩ := tot k hk
      obtain ⟨l, hl, e⟩ := sj r r9 hr
      exact ⟨l, hl, by rw [e]; exact h⟩⟩
    have eqv : ∀ D, FE zz en ja ro n lv 0 D ↔ RLx σ zz en ja n D := fun D => by
      constructor
      · intro h r r9 hr
        obtain ⟨l, hl, e⟩ := sj r r9 hr
        have := h l (Nat.zero_le l) hl
        rw [e] at this; exact this
      · intro h i _ hi
        exact h (ro i) (rm i hi).1 (rm i hi).2.1
    have no0 : ∀ k, ¬ LT zz en ro 0 k := fun k ⟨i, hi, _⟩ => absurd hi (Nat.not_lt_zero i)
    refine sea_t S (lv - 1) 0 (fun _ => 0) (fun _ => False) _ (by omega) (fun i hi => absurd hi (Nat.not_lt_zero i)) I0 mm_up_s (fun k hk => ⟨fun t => absurd t (no0 k), fun _ => by show (mm_up τ 101 0 (-1)) 94 k = -1; rw [fx 94 (by decide) (by decide) (by decide) (by decide)]; exact e94 k hk⟩) (fun i _ hi => by rw [mm_up_n (by decide)]; exact (rm i hi).2.2.2) (Or.inl ⟨by rw [mm_up_n (by decide), f2 29 (by decide)]; exact e29, fun _ h => h⟩) (fun τ' I' _ _ _ F' => ?_)
    refine kb_131_70 (fun _ => kb_131_138 (q τ' ⟨fun c h2 h3 h4 h5 => ?_, fun j h2 h3 => ?_⟩ ?_)) (fun g => absurd (by decide) g)
    · rw [I'.1 c h2 h3 h4 (by omega), mm_up_n (by omega)]; exact f1 c h2 (by omega) (by omega)
    · rw [I'.2 j h2, mm_up_n (by decide)]; exact f2 j h3
    · rcases F' with ⟨a, no⟩ | ⟨a, D0, r0, b0, mn⟩
      · exact Or.inl ⟨a, fun D hD => no D (Or.inr ⟨fun k _ t => absurd t (no0 k), (eqv D).mpr hD⟩)⟩
      · exact Or.inr ⟨a, D0, (eqv D0).mp r0, b0, fun D hD => mn D (Or.inr ⟨fun k _ t => absurd t (no0 k), (eqv D).mpr hD⟩)⟩
  · intro r hr ih τ ⟨f1, f2, lv, ro, lvr, e37, rm, sj⟩
    refine kb_131_7 (fun g => absurd g (hI_nle (a := 9) (by omega) hr)) (fun _ => kb_131_13 (pk_in r 9 hr) (fun g => kb_131_22 ?_) (fun g => ?_))
    · rw [nI_1]
      refine ih τ ⟨f1, f2, lv, ro, by omega, e37, rm, fun a ha hz => ?_⟩
      rcases Nat.lt_or_ge a r with h | h
      · exact sj a h hz
      · have e : a = r := by omega
        subst e
        rw [nI_clamp (by omega), f1 75 (by decide) (by decide) (by decide)] at g
        exact absurd g hz
    · have v37 : vp_in (τ 10 37) 9 := by rw [e37]; exact pk_in lv 9 (by omega)
      refine kb_131_25 v37 (by rw [mm_up_n (by decide)]; exact v37) ?_
      rw [nI_1]
      have eA : (mm_up (mm_up τ 100 (τ 10 37).toNatClampNeg (nI r)) 105 ((mm_up τ 100 (τ 10 37).toNatClampNeg (nI r)) 10 37).toNatClampNeg 0) 10 37 = nI lv := by
        rw [mm_up_n (by decide), mm_up_n (by decide)]; exact e37
      have eA1 : (τ 10 37).toNatClampNeg = lv := by rw [e37]; exact nI_clamp (by omega)
      have eA2 : ((mm_up τ 100 (τ 10 37).toNatClampNeg (nI r)) 10 37).toNatClampNeg = lv := by rw [mm_up_n (by decide)]; exact eA1
      rw [eA, nI_1, eA2, eA1]
      refine ih _ ⟨fun c h2 h3 h4 => by rw [mm_up_n h2, mm_up_n h4, mm_up_n h3]; exact f1 c h2 h3 h4, fun j hj => by rw [mm_up_o hj, mm_up_n (by decide), mm_up_n (by decide)]; exact f2 j hj, lv + 1, fun i => if i = lv then r else ro i, by omega, mm_up_s, fun l hl => ?_, fun a ha hz => ?_⟩
      · by_cases e : l = lv
        · subst e
          simp only [if_pos]
          refine ⟨hr, ?_, ?_, ?_⟩
          · rw [nI_clamp (by omega), f1 75 (by decide) (by decide) (by decide)] at g
            exact g
          · rw [mm_up_n (by decide), mm_up_n (by decide)]; exact mm_up_s
          · rw [mm_up_n (by decide)]; exact mm_up_s
        · simp only [if_neg e]
          obtain ⟨m1, m2, m3, m4⟩ := rm l (by omega)
          refine ⟨m1, m2, ?_, ?_⟩
          · rw [mm_up_n (by decide), mm_up_n (by decide), mm_up_o e]; exact m3
          · rw [mm_up_n (by decide), mm_up_o e, mm_up_n (by decide)]; exact m4
      · by_cases e : a = r
        · exact ⟨lv, by omega, by rw [e]; exact if_pos rfl⟩
        · obtain ⟨l, hl, h⟩ := sj a (by omega) hz
          exact ⟨l, by omega, by show (if l = lv then r else ro l) = a; rw [if_neg (by omega)]; exact h⟩

/-! class: isSooner, weigh, choose, what they find -/
def lx (n : Nat) (D D' : Nat → Nat) : Prop := ∃ e, e < n ∧ (∀ e', e' < e → D e' = D' e') ∧ D e < D' e
def dvec (ja jb : Nat → Nat) (b : Nat → Nat → Nat) (e : Nat) : Nat := dv (b (ja e) (jb e))
def FB (n : Nat) (τ : mm_S) (W : (Nat → Nat) → Prop) : Prop := (τ 7 8 = 0 ∧ ∀ D, ¬ W D) ∨ (τ 7 8 = 1 ∧ ∃ D, W D ∧ (∀ e, e < n → τ 45 e = nI (D e) ∧ D e < 4) ∧ ∀ D', W D' → ¬ lx n D' D)
theorem FB_cg {n : Nat} {τ τ' : mm_S} {W W' : (Nat → Nat) → Prop} (h7 : τ' 7 8 = τ 7 8) (h45 : τ' 45 = τ 45) (hW : ∀ D, W D ↔ W' D) (F : FB n τ W) : FB n τ' W' := by
  rcases F with ⟨a, b⟩ | ⟨a, D, b, c, e⟩
  · exact Or.inl ⟨h7.trans a, fun D z => b D ((hW D).mpr z)⟩
  · exact Or.inr ⟨h7.trans a, D, (hW D).mp b, fun e he => by rw [h45]; exact c e he, fun D' z => e D' ((hW D').mpr z)⟩
theorem dv_4 {w : Nat} (h : w < 4) : dv w < 4 := (mm_tab_n w h).2
theorem f69_m {w : Nat} (hw : w < 4) : f_69 (nI w) = nI ((w + 2) % 4) := by
  unfold f_69
  rw [f50_m hw, f50_m (Nat.mod_lt _ (by decide))]
  congr 1; omega
section CL2
variable {τ0 : mm_S} {rm : Nat → Prop} {nr : Nat → Nat → Prop} {Bp lb : Nat → Nat → Nat} {f : Nat} {bd : Nat → Nat → Nat} {R : Nat} {od an : Nat → Nat} {n : Nat} {ja jb : Nat → Nat}
theorem c_154t {d e : Nat} {Q : mm_Q} {τ : mm_S} {b : Nat → Nat → Nat} (S : LSd τ0 rm nr Bp lb f bd R od an n ja jb) (I : LI τ0 τ) (hb : ∀ r u, rm r → nr r u → τ (50 + 1 + r) u = nI (b r u) ∧ b r u < 4) (he : e < n) (q : Q (some (.int (nI (dvec ja jb b e)))) τ) : mD (d + 1) 154 [.ref 7, .int (nI e)] τ Q := by
  have n21 := S.jn.1
  obtain ⟨ra, rb, nab, e1, e2⟩ := S.je e he
  have ha := S.gp.r9 _ ra
  have hb' := S.gp.r9 _ rb
  have ce : (nI e).toNatClampNeg = e := nI_clamp (by omega)
  have t16 : τ 16 (nI e).toNatClampNeg = nI (ja e) := by rw [ce, LI_k I (by omega)]; exact e1
  have t17 : τ 17 (nI e).toNatClampNeg = nI (jb e) := by rw [ce, LI_k I (by omega)]; exact e2
  obtain ⟨ew, hw⟩ := hb _ _ ra nab
  have br : ms_br τ (nI e) = nI (b (ja e) (jb e)) := by
    unfold ms_br
    rw [t16, t17, nI_clamp (by omega), nI_clamp (by omega)]; exact ew
  refine c_154 ⟨pk_in e 21 (by omega), by rw [t16]; exact pk_in _ 9 ha, by rw [t17]; exact pk_in (jb e) 13 (by omega), by rw [br]; exact pk_in _ 4 hw⟩ ?_
  unfold ms_dir
  rw [br, nI_clamp (by omega), (mm_tab_n _ hw).1]
  exact q
theorem c_71t {d : Nat} {Q : mm_Q} {τ : mm_S} {b : Nat → Nat → Nat} {D : Nat → Nat} (S : LSd τ0 rm nr Bp lb f bd R od an n ja jb) (I : LI τ0 τ) (hb : ∀ r u, rm r → nr r u → τ (50 + 1 + r) u = nI (b r u) ∧ b r u < 4) (hD : ∀ e, e < n → τ 45 e = nI (D e) ∧ D e < 4) (q1 : lx n (dvec ja jb b) D → Q (some (.int 1)) τ) (q0 : ¬ lx n (dvec ja jb b) D → Q (some (.int 0)) τ) : mD (d + 2) 71 [.ref 7] τ Q := by
  have n21 := S.jn.1
  have e12 : τ 1 12 = nI n := by rw [LI_k I (by omega)]; exact S.jn.2
  refine ke_71 (kb_71_0 ?_)
  refine lp_dn (P := fun e => (∀ e', e' < e → dvec ja jb b e' = D e') → ∀ o2, mw (d + 1) mt_71 Q 2 [some (.ref 7), some (.int (nI e)), o2] [] τ) n ?_ ?_ 0 (Nat.zero_le n) (fun e h => absurd h (Nat.not_lt_zero e)) none
  · intro h o2
    exact kb_71_2 (fun _ => kb_71_51 (q0 (fun ⟨e, he, _, k⟩ => by rw [h e he] at k; exact Nat.lt_irrefl _ k))) (fun g => absurd (by rw [e12]; exact hI_le (by omega) (Nat.le_refl n)) g)
  · intro e he ih h o2
    obtain ⟨d1, d2⟩ := hD e he
    have ce : (nI e).toNatClampNeg = e := nI_clamp (by omega)
    obtain ⟨ra, rb, nab, _, _⟩ := S.je e he
    have v4 : dvec ja jb b e < 4 := dv_4 (hb _ _ ra nab).2
    refine kb_71_2 (fun g => absurd g (by rw [e12]; exact hI_nle (by omega) he)) (fun _ => kb_71_13 (c_154t S I hb he (kb_71_18 (pk_in e 21 (by omega)) (fun z => kb_71_45 ?_) (fun z => kb_71_29 (pk_in e 21 (by omega)) (fun y => kb_71_43 (q0 ?_)) (fun y => kb_71_39 (q1 ?_))))))
    · rw [nI_1]
      rw [ce, d1] at z
      have z' := (nI_eq (by omega) (by omega)).mp z
      exact ih (fun e' he' => by
        by_cases c : e' = e
        · rw [c]; exact z'
        · exact h e' (by omega)) _
    · rw [ce, d1] at y z
      have y' := (nI_leI (by omega) (by omega)).mp y
      have z' : dvec ja jb b e ≠ D e := fun q => z (by rw [q])
      rintro ⟨e', he', k1, k2⟩
      rcases Nat.lt_trichotomy e' e with c | c | c
      · rw [h e' c] at k2; exact Nat.lt_irrefl _ k2
      · subst c; omega
      · exact z' (k1 e c)
    · rw [ce, d1] at y
      refine ⟨e, he, h, ?_⟩
      rcases Nat.lt_or_ge (dvec ja jb b e) (D e) with c | c
      · exact c
      · exact absurd (hI_le (by omega) c) y
/-- weigh: rows and the better of two -/
theorem c_67t {d : Nat} {Q : mm_Q} {τ : mm_S} {st : Nat → Nat} {W : (Nat → Nat) → Prop} (S : LSd τ0 rm nr Bp lb f bd R od an n ja jb) (I : LI τ0 τ) (hst : ∀ g, g < f → τ 47 g = nI (st g) ∧ st g < 9) (four : ∀ r, rm r → ct (fun u => nr r u ∧ ¬ stq rm Bp lb st r u) 13 = 4) (F : FB n τ W) (q : ∀ τ' b, LI τ0 τ' → (∀ c, c ≠ 7 → c ≠ 45 → (c < 51 ∨ 59 < c) → τ' c = τ c) → ROa rm nr Bp lb st b → ANa rm nr R od an b → FB n τ' (fun D => W D ∨ ∀ e, e < n → D e = dvec ja jb b e) → Q none τ') : mD (d + 4) 67 [.ref 7] τ Q := by
  have G := S.gp
  have n21 := S.jn.1
  have r9 := S.rr.1
  have od9 : ∀ k, k < R → od k < 9 := fun k hk => G.r9 _ (S.od k hk).1
  refine ke_67 (kb_67_0 ?_)
  refine lp_dn (P := fun k => ∀ (τ : mm_S) (b : Nat → Nat → Nat), LI τ0 τ → (∀ g, g < f → τ 47 g = nI (st g) ∧ st g < 9) → FB n τ W → (∀ (τ' : mm_S) b, LI τ0 τ' → (∀ c, c ≠ 7 → c ≠ 45 → (c < 51 ∨ 59 < c) → τ' c = τ c) → ROa rm nr Bp lb st b → ANa rm nr R od an b → FB n τ' (fun D => W D ∨ ∀ e, e < n → D e = dvec ja jb b e) → Q none τ') → (∀ j, j < k → RWb rm nr Bp lb st τ (od j) (b (od j)) ∧ (∀ s, s < 4 → an j = 9 + s → b (od j) (9 + s) = s) ∧ ∀ i, i < j → an j = od i → b (od j) (od i) = (b (od i) (od j) + 2) % 4) → mw (d + 3) mt_67 Q 2 [some (.ref 7), some (.int (nI k))] [] τ) R ?_ ?_ 0 (Nat.zero_le R) τ (fun _ _ => 0) I hst F q (fun j hj => absurd hj (Nat.not_lt_zero j))
  · intro τ b I hst F q rows
    have e11 : τ 1 11 = nI R := by rw [LI_k I (by omega)]; exact S.rr.2
    have hb : ∀ r u, rm r → nr r u → τ (50 + 1 + r) u = nI (b r u) ∧ b r u < 4 := fun r u hr hu => by
      obtain ⟨k, hk, e⟩ := S.oc r hr
      subst e
      have := (rows k hk).1 u hu
      exact ⟨this.1, this.2.1⟩
    have RO : ROa rm nr Bp lb st b := fun r u hr hu => by
      obtain ⟨k, hk, e⟩ := S.oc r hr
      subst e
      have := (rows k hk).1 u hu
      exact ⟨this.2.1, this.2.2⟩
    have AN : ANa rm nr R od an b := ⟨S.oc, fun k hk => ⟨(S.od k hk).1, (S.od k hk).2.1, by
      rcases S.oa k hk with ⟨s, s4, e⟩ | ⟨ns, j, hj, e⟩
      · exact Or.inl ⟨s, s4, e, (rows k hk).2.1 s s4 e⟩
      · exact Or.inr ⟨ns, j, hj, e, (rows k hk).2.2 j hj e⟩⟩⟩
    have dv4 : ∀ e, e < n → dvec ja jb b e < 4 := fun e he => by
      obtain ⟨ra, rb, nab, _, _⟩ := S.je e he
      exact dv_4 (hb _ _ ra nab).2
    -- storing
    have store : (∀ D, W D → ¬ lx n D (dvec ja jb b)) → ∀ x1, mw (d + 3) mt_67 Q 49 [some (.ref 7), some (.int x1)] [] τ := by
      intro best x1
      refine kb_67_49 ?_
      have I1 : LI τ0 (mm_up τ 7 8 1) := by
        obtain ⟨i1, i2, i3, i4⟩ := I
        exact ⟨fun c h1 h2 h3 h4 h5 h6 => by rw [mm_up_n h1]; exact i1 c h1 h2 h3 h4 h5 h6, Or.inr mm_up_s, fun r v hr hv => by rw [mm_up_n (by omega)]; exact i3 r v hr hv, fun e he => by rw [mm_up_n (by omega)]; exact i4 e he⟩
      refine lp_dn (P := fun e => ∀ ρ, LI τ0 ρ → ρ 7 8 = 1 → (∀ c, c ≠ 7 → c ≠ 45 → ρ c = τ c) → (∀ e', e' < e → ρ 45 e' = nI (dvec ja jb b e')) → mw (d + 3) mt_67 Q 56 [some (.ref 7), some (.int (nI e))] [] ρ) n ?_ ?_ 0 (Nat.zero_le n) _ I1 mm_up_s (fun c h _ => mm_up_n h) (fun e h => absurd h (Nat.not_lt_zero e))
      · intro ρ I e7 fr h
        have e12 : ρ 1 12 = nI n := by rw [LI_k I (by omega)]; exact S.jn.2
        refine kb_67_56 (fun _ => kb_67_84 (q ρ b I (fun c h1 h2 _ => fr c h1 h2) RO AN (Or.inr ⟨e7, dvec ja jb b, Or.inr (fun _ _ => rfl), fun e he => ⟨h e he, dv4 e he⟩, fun D' hD' => ?_⟩))) (fun g => absurd (by rw [e12]; exact hI_le (by omega) (Nat.le_refl n)) g)
        rcases hD' with k | k
        · exact best D' k
        · rintro ⟨e, he, _, k2⟩
          rw [k e he] at k2; exact Nat.lt_irrefl _ k2
      · intro e he ih ρ I e7 fr h
        have e12 : ρ 1 12 = nI n := by rw [LI_k I (by omega)]; exact S.jn.2
        refine kb_67_56 (fun g => absurd g (by rw [e12]; exact hI_nle (by omega) he)) (fun _ => kb_67_67 (c_154t S I (b := b) (fun r u hr hu => by rw [fr _ (by omega) (by omega)]; exact hb r u hr hu) he (kb_67_77 (pk_in e 21 (by omega)) ?_)))
        rw [nI_1, nI_clamp (show e < 2 ^ 31 by omega)]
        refine ih _ ?_ (by rw [mm_up_n (by decide)]; exact e7) (fun c h1 h2 => by rw [mm_up_n h2]; exact fr c h1 h2) (fun e' he' => ?_)
        · obtain ⟨i1, i2, i3, i4⟩ := I
          refine ⟨fun c h1 h2 h3 h4 h5 h6 => by rw [mm_up_n h2]; exact i1 c h1 h2 h3 h4 h5 h6, by rw [mm_up_n (by decide)]; exact i2, fun r v hr hv => by rw [mm_up_n (by omega)]; exact i3 r v hr hv, fun e' he' => ?_⟩
          by_cases ee : e' = e
          · subst ee; exact ⟨_, dv4 e' he, mm_up_s⟩
          · rw [mm_up_o ee]; exact i4 e' he'
        · by_cases ee : e' = e
          · subst ee; exact mm_up_s
          · rw [mm_up_o ee]; exact h e' (by omega)
    refine kb_67_2 (fun _ => ?_) (fun g => absurd (by rw [e11]; exact hI_le (by omega) (Nat.le_refl R)) g)
    rcases F with ⟨a0, no⟩ | ⟨a1, D, hD, dd, mn⟩
    · exact kb_67_35 (fun _ => store (fun D hD => absurd hD (no D)) _) (fun z => absurd a0 z)
    · refine kb_67_35 (fun z => absurd (a1.symm.trans z) (by decide)) (fun _ => kb_67_42 (c_71t S I hb dd (fun lt => kb_67_46 (fun z => absurd z (by decide)) (fun _ => store (fun D' hD' k => ?_) _)) (fun nl => kb_67_46 (fun _ => kb_67_84 (q τ b I (fun _ _ _ _ => rfl) RO AN (Or.inr ⟨a1, D, Or.inl hD, dd, fun D' hD' => ?_⟩))) (fun z => absurd rfl z))))
      · -- what lies below the new one lies below the old one
        obtain ⟨e1, he1, k1, k2⟩ := lt
        obtain ⟨e2, he2, k3, k4⟩ := k
        refine mn D' hD' ?_
        rcases Nat.lt_trichotomy e1 e2 with c | c | c
        · exact ⟨e1, he1, fun e' h => by rw [k3 e' (by omega), k1 e' h], by rw [k3 e1 c]; exact k2⟩
        · subst c; exact ⟨e1, he1, fun e' h => by rw [k3 e' h, k1 e' h], by omega⟩
        · exact ⟨e2, he2, fun e' h => by rw [k3 e' h, k1 e' (by omega)], by rw [← k1 e2 c]; exact k4⟩
      · rcases hD' with k | k
        · exact mn D' k
        · rintro ⟨e, he, k1, k2⟩
          exact nl ⟨e, he, fun e' h => by rw [← k e' (by omega)]; exact k1 e' h, by rw [← k e he]; exact k2⟩
  · intro k hk ih τ b I hst F q rows
    have e11 : τ 1 11 = nI R := by rw [LI_k I (by omega)]; exact S.rr.2
    obtain ⟨hr, hv, e1, e2⟩ := S.od k hk
    have ck : (nI k).toNatClampNeg = k := nI_clamp (by omega)
    refine kb_67_2 (fun g => absurd g (by rw [e11]; exact hI_nle (by omega) hk)) (fun _ => kb_67_13 (pk_in k 9 (by omega)) (pk_in k 9 (by omega)) ?_)
    rw [ck, LI_k I (by omega), LI_k I (by omega), e1, e2]
    -- where the anchor stands
    have go : ∀ w0, w0 < 4 → (an k < 9 → f_69 (τ (50 + 1 + an k) (od k)) = nI w0) → (9 ≤ an k → w0 = an k - 9) → (∀ i, i < k → an k = od i → w0 = (b (od i) (od k) + 2) % 4) → mD (d + 3) 68 [.ref 7, .int (nI (od k)), .int (nI (an k))] τ (fun v τ => mw (d + 3) mt_67 Q 29 [some (.ref 7), some (.int (nI k))] (v.toList ++ []) τ) := fun w0 w4 s1 s2 s3 => by
      refine c_68s S I hst (four _ hr) hr hv w4 s1 s2 (fun τ' row I' fr RW ev => kb_67_29 ?_)
      rw [nI_1]
      have ne : ∀ j, j < k → od j ≠ od k := fun j hj => S.oj j k hj hk
      refine ih τ' (fun r => if r = od k then row else b r) I' (fun g hg => by rw [fr 47 (by omega)]; exact hst g hg) (FB_cg (by rw [fr 7 (by omega)]) (fr 45 (by omega)) (fun _ => Iff.rfl) F) (fun τ2 b2 I2 f2 => q τ2 b2 I2 (fun c h1 h2 h3 => by rw [f2 c h1 h2 h3]; exact fr c (by have := od9 k hk; omega))) (fun j hj => ?_)
      by_cases ej : j = k
      · subst ej
        refine ⟨by rw [if_pos rfl]; exact RW, fun s s4 es => ?_, fun i hi ei => ?_⟩
        · show (if od j = od j then row else b (od j)) (9 + s) = s
          rw [if_pos rfl, ← es, ev, s2 (by omega)]; omega
        · show (if od j = od j then row else b (od j)) (od i) = ((if od i = od j then row else b (od i)) (od j) + 2) % 4
          have e' : row (od i) = w0 := by rw [← ei]; exact ev
          rw [if_pos rfl, if_neg (ne i hi), e']; exact s3 i hi ei
      · have nj := ne j (by omega)
        obtain ⟨h1, h2, h3⟩ := rows j (by omega)
        have dj := od9 j (by omega)
        refine ⟨?_, fun s s4 es => ?_, fun i hi ei => ?_⟩
        · rw [if_neg nj]
          intro u hu
          obtain ⟨x1, x2, x3⟩ := h1 u hu
          exact ⟨by rw [fr _ (by omega)]; exact x1, x2, x3⟩
        · show (if od j = od k then row else b (od j)) (9 + s) = s
          rw [if_neg nj]; exact h2 s s4 es
        · show (if od j = od k then row else b (od j)) (od i) = ((if od i = od k then row else b (od i)) (od j) + 2) % 4
          rw [if_neg nj, if_neg (ne i (by omega))]; exact h3 i hi ei
    rcases S.oa k hk with ⟨s, s4, e⟩ | ⟨ns, j, hj, e⟩
    · exact go s s4 (fun z => by omega) (fun _ => by omega) (fun i hi ei => by have := od9 i (by omega); omega)
    · have dj := od9 j (by omega)
      have hv' := hv
      rw [e] at hv'
      obtain ⟨x1, x2, _⟩ := (rows j hj).1 (od k) (G.sy _ _ hv')
      refine go ((b (od j) (od k) + 2) % 4) (Nat.mod_lt _ (by decide)) (fun _ => ?_) (fun z => by omega) (fun i hi ei => ?_)
      · rw [e, x1, f69_m x2]
      · have : i = j := by
          rcases Nat.lt_trichotomy i j with z | z | z
          · exact absurd (ei.symm.trans e) (S.oj i j z (by omega))
          · exact z
          · exact absurd (e.symm.trans ei) (S.oj j i z (by omega))
        rw [this]
end CL2

-- the reference's areTogether says whether the rooms hang together
theorem ZI.dm {σ : mm_S} {n m i : Nat} (Z : ZI σ n m) (hi : i < 9) : ¬ σ 75 i = 0 ↔ m.testBit i = true := by
  rw [← (Z.rm i hi).1]; exact Z.ck.dr i hi
theorem ZI.rcb {σ : mm_S} {n m : Nat} (Z : ZI σ n m) : ∀ i, i ≤ 9 → rc σ i = bc m i
  | 0, _ => rfl
  | i + 1, h => by
    have ih := ZI.rcb Z i (by omega)
    show rc σ i + (if σ 75 i = 0 then 0 else 1) = bc m i + (if m.testBit i = true then 1 else 0)
    rw [ih]
    by_cases c : m.testBit i = true
    · rw [if_pos c, if_neg ((Z.dm (by omega)).mpr c)]
    · rw [if_neg c]
      by_cases z : σ 75 i = 0
      · rw [if_pos z]
      · exact absurd ((Z.dm (by omega)).mp z) c
/-- closed under the joins -/
def jcl (σ : mm_S) (n : Nat) (S : Nat → Prop) : Prop := ∀ k p s, k < n → p < 9 → s < 9 → σ 80 k = nI p → σ 81 k = nI s → (S p ↔ S s)
theorem jcl_not {σ : mm_S} {n : Nat} {S : Nat → Prop} (h : jcl σ n S) : jcl σ n (fun i => ¬ S i) := fun k p s a b c e f => by
  show ¬ S p ↔ ¬ S s
  rw [h k p s a b c e f]
theorem and_2 {w p s : Nat} : w &&& (2 ^ p ||| 2 ^ s) = 0 ↔ ¬ w.testBit p = true ∧ ¬ w.testBit s = true := by
  have t : ∀ i, (w &&& (2 ^ p ||| 2 ^ s)).testBit i = true ↔ w.testBit i = true ∧ (p = i ∨ s = i) := fun i => by
    rw [Nat.testBit_and, Nat.testBit_or, Nat.testBit_two_pow, Nat.testBit_two_pow, Bool.and_eq_true, Bool.or_eq_true]; simp
  constructor
  · intro h
    refine ⟨fun y => ?_, fun y => ?_⟩
    · have := (t p).mpr ⟨y, Or.inl rfl⟩
      rw [h] at this; simp at this
    · have := (t s).mpr ⟨y, Or.inr rfl⟩
      rw [h] at this; simp at this
  · rintro ⟨h1, h2⟩
    apply Nat.eq_of_testBit_eq
    intro i
    rw [Nat.zero_testBit]
    cases hb : (w &&& (2 ^ p ||| 2 ^ s)).testBit i with
    | false => rfl
    | true =>
      obtain ⟨x, y⟩ := (t i).mp hb
      rcases y with y | y
      · subst y; exact absurd x h1
      · subst y; exact absurd x h2
theorem Cn_jcl {σ : mm_S} {n m f w : Nat} (Z : ZI σ n m) (f9 : f < 9) (mf : m.testBit f = true) (w9 : w < 512) (wf : w.testBit f = true) (so : ∀ S, jcl σ n S → S f → ∀ i, i < 9 → w.testBit i = true → S i) (cl : jcl σ n (fun i => w.testBit i = true)) : w = m ↔ Cn σ m := by
  have ends : ∀ k p s, k < n → p < 9 → s < 9 → σ 80 k = nI p → σ 81 k = nI s → m.testBit p = true ∧ m.testBit s = true ∧ aj σ p s ∧ aj σ s p := fun k p s hk hp hs e1 e2 => by
    obtain ⟨a, b, ha, hb, _, ma, mb, x1, x2⟩ := Z.ck.je k hk
    obtain ⟨j1, j2⟩ := Z.jj k hk
    have y1 := nI9 hp ha (e1.symm.trans (j1.trans x1))
    have y2 := nI9 hs hb (e2.symm.trans (j2.trans x2))
    subst y1; subst y2
    exact ⟨ma, mb, (Z.ck.ja p s hp ma).mpr ⟨k, hk, Or.inl ⟨x1, x2⟩, hs⟩, (Z.ck.ja s p hs mb).mpr ⟨k, hk, Or.inr ⟨x1, x2⟩, hp⟩⟩
  constructor
  · intro e S ⟨i0, h9, hm, hS⟩ hcl
    subst e
    have T : jcl σ n (fun i => i < 9 ∧ w.testBit i = true ∧ S i) := fun k p s hk hp hs e1 e2 => by
      obtain ⟨a1, a2, a3, a4⟩ := ends k p s hk hp hs e1 e2
      exact ⟨fun h => ⟨hs, a2, hcl p s hp a1 h.2.2 a3⟩, fun h => ⟨hp, a1, hcl s p hs a2 h.2.2 a4⟩⟩
    intro i hi mi
    by_cases c : f < 9 ∧ w.testBit f = true ∧ S f
    · exact (so _ T c i hi mi).2.2
    · exact absurd ⟨h9, hm, hS⟩ (so _ (jcl_not T) c i0 h9 hm)
  · intro h
    refine tb_ext (k := 9) w9 Z.ck.dm.1 (fun j hj => ⟨fun y => ?_, fun y => ?_⟩)
    · exact so (fun i => m.testBit i = true) (fun k p s hk hp hs e1 e2 => by
        obtain ⟨a1, a2, _⟩ := ends k p s hk hp hs e1 e2
        exact ⟨fun _ => a2, fun _ => a1⟩) mf j hj y
    · refine h (fun i => w.testBit i = true) ⟨f, f9, mf, wf⟩ (fun i j hi mi wi hij => ?_) j hj y
      obtain ⟨k, hk, hends, j9⟩ := (Z.ck.ja i j hi mi).mp hij
      obtain ⟨j1, j2⟩ := Z.jj k hk
      rw [← j1, ← j2] at hends
      rcases hends with ⟨p, q⟩ | ⟨p, q⟩
      · exact (cl k i j hk hi j9 p q).mp wi
      · exact (cl k j i hk j9 hi p q).mpr wi
theorem c_107s {d n m : Nat} {Q : mm_Q} {σ τ : mm_S} (Z : ZI σ n m) (t10 : τ 10 6 = σ 10 6) (t75 : τ 75 = σ 75) (t80 : τ 80 = σ 80) (t81 : τ 81 = σ 81) (h3 : 3 ≤ bc m 9) (q1 : Cn σ m → Q (some (.int 1)) τ) (q0 : ¬ Cn σ m → Q (some (.int 0)) τ) : mD (d + 1) 107 [.ref 10] τ Q := by
  have M := Z.mk
  have n21 := M.jn.1
  have tb : ∀ a k i : Nat, (a ||| 2 ^ k).testBit i = true ↔ a.testBit i = true ∨ k = i := fun a k i => by
    rw [Nat.testBit_or, Nat.testBit_two_pow, Bool.or_eq_true]; simp
  refine ke_107 (kb_107_0 ?_)
  refine lp_dn (P := fun r => ∀ (a : Nat) (x : Int32), a < 512 → (∀ i, i < 9 → (a.testBit i = true ↔ i < r ∧ ¬ σ 75 i = 0)) → (x = -1 ∧ (∀ i, i < r → σ 75 i = 0) ∨ ∃ f, f < 9 ∧ x = nI f ∧ a.testBit f = true) → mw d mt_107 Q 6 [some (.ref 10), some (.int (nI a)), some (.int x), some (.int (nI r)), none, none, none] [] τ) 9 ?_ ?_ 0 (by omega) 0 (-1) (by decide) (fun i _ => ⟨fun z => absurd z (by simp), fun z => absurd z.1 (Nat.not_lt_zero i)⟩) (Or.inl ⟨rfl, fun i hi => absurd hi (Nat.not_lt_zero i)⟩)
  · intro a x a9 ab hx
    refine kb_107_6 (fun _ => kb_107_57 ?_) (fun g => absurd (by decide) g)
    have am : a = m := tb_ext (k := 9) a9 Z.ck.dm.1 (fun j hj => by rw [ab j hj, Z.dm hj]; exact ⟨fun h => h.2, fun h => ⟨hj, h⟩⟩)
    subst am
    rcases hx with ⟨_, h⟩ | ⟨f, f9, ef, fa⟩
    · exfalso
      obtain ⟨j, hj, hb⟩ := bc_pos (m := a) 9 (by omega)
      exact absurd (h j hj) ((ab j hj).mp hb).2
    · subst ef
      rw [one_sh (by omega)]
      refine lp_dn (P := fun j => ∀ w, w < 512 → w.testBit f = true → (∀ S, jcl σ n S → S f → ∀ i, i < 9 → w.testBit i = true → S i) → (jcl σ n (fun i => w.testBit i = true) ∨ j + 1 ≤ bc w 9) → ∀ o5 o6, mw d mt_107 Q 64 [some (.ref 10), some (.int (nI a)), some (.int (nI f)), some (.int (nI w)), some (.int (nI j)), o5, o6] [] τ) 9 ?_ ?_ 0 (by omega) (2 ^ f) (Nat.pow_lt_pow_right (by decide) f9) (by rw [Nat.testBit_two_pow]; simp) (fun S _ hS i _ hb => ?_) (Or.inr ?_) none none
      · intro w w9 wf so pr o5 o6
        have cl : jcl σ n (fun i => w.testBit i = true) := by
          rcases pr with y | y
          · exact y
          · have := bc_n w 9; omega
        have key := Cn_jcl Z f9 fa w9 wf so cl
        refine kb_107_64 (fun _ => kb_107_128 (fun e => kb_107_133 (q1 (key.mp ((nI_eq (by omega) (by omega)).mp e)))) (fun e => kb_107_137 (q0 (fun c => e (by rw [key.mpr c]))))) (fun g => absurd (by decide) g)
      · intro j hj ih w0 w9 wf so pr o5 o6
        refine kb_107_64 (fun g => absurd g (hI_nle (a := 9) (by omega) hj)) (fun _ => kb_107_71 ?_)
        refine lp_dn (P := fun k => ∀ w, w < 512 → (∀ S, jcl σ n S → S f → ∀ i, i < 9 → w.testBit i = true → S i) → (∀ i, w0.testBit i = true → w.testBit i = true) → (∀ k' p s, k' < k → p < 9 → s < 9 → σ 80 k' = nI p → σ 81 k' = nI s → (w0.testBit p = true ∨ w0.testBit s = true) → w.testBit p = true ∧ w.testBit s = true) → (jcl σ n (fun i => w0.testBit i = true) → w = w0) → ∀ o6, mw d mt_107 Q 74 [some (.ref 10), some (.int (nI a)), some (.int (nI f)), some (.int (nI w)), some (.int (nI j)), some (.int (nI k)), o6] [] τ) n ?_ ?_ 0 (Nat.zero_le n) w0 w9 so (fun _ h => h) (fun k' p s h => absurd h (Nat.not_lt_zero k')) (fun _ => rfl) o6
        · intro w w9' so' sub pg sm o6
          have nw : jcl σ n (fun i => w.testBit i = true) ∨ j + 1 + 1 ≤ bc w 9 := by
            by_cases c0 : jcl σ n (fun i => w0.testBit i = true)
            · have := sm c0
              subst this
              exact Or.inl c0
            · have b0 := pr.resolve_left c0
              by_cases c1 : ∃ i, i < 9 ∧ w.testBit i = true ∧ ¬ w0.testBit i = true
              · obtain ⟨i, hi, x1, x2⟩ := c1
                have := bc_lt (a := w0) (b := w) 9 (fun j _ h => sub j h) ⟨i, hi, x1, x2⟩
                exact Or.inr (by omega)
              · have back : ∀ i, i < 9 → w.testBit i = true → w0.testBit i = true := fun i hi h => by
                  by_cases y : w0.testBit i = true
                  · exact y
                  · exact absurd ⟨i, hi, h, y⟩ c1
                refine Or.inl (fun k p s hk hp hs e1 e2 => ⟨fun h => ?_, fun h => ?_⟩)
                · exact (pg k p s hk hp hs e1 e2 (Or.inl (back p hp h))).2
                · exact (pg k p s hk hp hs e1 e2 (Or.inr (back s hs h))).1
          exact kb_107_74 (fun _ => kb_107_122 (by rw [nI_1]; exact ih w w9' (sub f wf) so' nw _ _)) (fun g => absurd (by rw [t10, M.jn.2]; exact hI_le (by omega) (Nat.le_refl n)) g)
        · intro k hk ihk w w9' so' sub pg sm o6
          obtain ⟨p, s, hp, hs, _, _, _, e1, e2⟩ := M.je k hk
          have ck : (nI k).toNatClampNeg = k := nI_clamp (by omega)
          have same : ∀ p' s', p' < 9 → s' < 9 → σ 80 k = nI p' → σ 81 k = nI s' → p' = p ∧ s' = s := fun p' s' h1 h2 h3 h4 => ⟨nI9 h1 hp (h3.symm.trans e1), nI9 h2 hs (h4.symm.trans e2)⟩
          refine kb_107_74 (fun g => absurd g (by rw [t10, M.jn.2]; exact hI_nle (by omega) hk)) (fun _ => kb_107_83 (pk_in k 21 (by omega)) (pk_in k 21 (by omega)) (fun z => kb_107_116 ?_) (fun z => kb_107_111 ?_))
          · rw [ck, t80, t81, e1, e2, one_sh (by omega), one_sh (by omega), or_bit, and_bit] at z
            have z' := and_2.mp ((nI_eq (b := 0) (by have := Nat.and_le_left (n := w) (m := (2 ^ p ||| 2 ^ s)); omega) (by omega)).mp z)
            rw [nI_1]
            refine ihk w w9' so' sub (fun k' p' s' h h1 h2 h3 h4 h5 => ?_) sm _
            by_cases e : k' = k
            · subst e
              obtain ⟨x1, x2⟩ := same p' s' h1 h2 h3 h4
              subst x1; subst x2
              rcases h5 with h5 | h5
              · exact absurd (sub _ h5) z'.1
              · exact absurd (sub _ h5) z'.2
            · exact pg k' p' s' (by omega) h1 h2 h3 h4 h5
          · rw [ck, t80, t81, e1, e2, one_sh (by omega), one_sh (by omega), or_bit, and_bit] at z
            have z' : w.testBit p = true ∨ w.testBit s = true := by
              by_cases y1 : w.testBit p = true
              · exact Or.inl y1
              · by_cases y2 : w.testBit s = true
                · exact Or.inr y2
                · exact absurd (by rw [and_2.mpr ⟨y1, y2⟩]; rfl) z
            rw [ck, t80, t81, e1, e2, one_sh (by omega), one_sh (by omega), or_bit, or_bit, nI_1]
            have tb2 : ∀ i, (w ||| (2 ^ p ||| 2 ^ s)).testBit i = true ↔ w.testBit i = true ∨ p = i ∨ s = i := fun i => by
              rw [Nat.testBit_or, Bool.or_eq_true, tb, Nat.testBit_two_pow]; simp
            have u9 : (w ||| (2 ^ p ||| 2 ^ s)) < 512 := Nat.or_lt_two_pow (n := 9) w9' (Nat.or_lt_two_pow (n := 9) (Nat.pow_lt_pow_right (by decide) hp) (Nat.pow_lt_pow_right (by decide) hs))
            refine ihk _ u9 (fun S hS hf i hi hb => ?_) (fun i h => (tb2 i).mpr (Or.inl (sub i h))) (fun k' p' s' h h1 h2 h3 h4 h5 => ?_) (fun c0 => ?_) _
            · have both : S p ∧ S s := by
                rcases z' with y | y
                · have := so' S hS hf p hp y
                  exact ⟨this, (hS k p s hk hp hs e1 e2).mp this⟩
                · have := so' S hS hf s hs y
                  exact ⟨(hS k p s hk hp hs e1 e2).mpr this, this⟩
              rcases (tb2 i).mp hb with y | y | y
              · exact so' S hS hf i hi y
              · subst y; exact both.1
              · subst y; exact both.2
            · by_cases e : k' = k
              · subst e
                obtain ⟨x1, x2⟩ := same p' s' h1 h2 h3 h4
                subst x1; subst x2
                exact ⟨(tb2 _).mpr (Or.inr (Or.inl rfl)), (tb2 _).mpr (Or.inr (Or.inr rfl))⟩
              · obtain ⟨y1, y2⟩ := pg k' p' s' (by omega) h1 h2 h3 h4 h5
                exact ⟨(tb2 _).mpr (Or.inl y1), (tb2 _).mpr (Or.inl y2)⟩
            · have ew := sm c0
              subst ew
              have both : w.testBit p = true ∧ w.testBit s = true := by
                rcases z' with y | y
                · exact ⟨y, (c0 k p s hk hp hs e1 e2).mp y⟩
                · exact ⟨(c0 k p s hk hp hs e1 e2).mpr y, y⟩
              refine tb_ext (k := 9) u9 w9' (fun i _ => ?_)
              rw [tb2]
              constructor
              · rintro (y | y | y)
                · exact y
                · subst y; exact both.1
                · subst y; exact both.2
              · exact Or.inl
      · rw [Nat.testBit_two_pow] at hb
        have : f = i := by simpa using hb
        subst this; exact hS
      · exact bc_ge 9 f9 (by rw [Nat.testBit_two_pow]; simp)
  · intro r hr ih a x a9 ab hx
    have cr : (nI r).toNatClampNeg = r := nI_clamp (by omega)
    have u : (nI a ||| (0 : Int32)) = nI a := by rw [show (0 : Int32) = nI 0 from rfl, or_bit, Nat.or_zero]
    refine kb_107_6 (fun g => absurd g (hI_nle (a := 9) (by omega) hr)) (fun _ => kb_107_12 (pk_in r 9 hr) (fun z => kb_107_28 (pk_in r 9 hr) (fun _ => kb_107_49 ?_) (fun y => absurd z y)) (fun z => kb_107_22 (pk_in r 9 hr) (fun y => absurd y z) (fun _ => ?_)))
    · rw [cr, t75] at z
      rw [nI_1, u]
      refine ih a x a9 (fun i hi => ?_) ?_
      · rw [ab i hi]
        constructor
        · rintro ⟨h1, h2⟩; exact ⟨by omega, h2⟩
        · rintro ⟨h1, h2⟩
          by_cases e : i = r
          · subst e; exact absurd z h2
          · exact ⟨by omega, h2⟩
      · rcases hx with ⟨h1, h2⟩ | h
        · refine Or.inl ⟨h1, fun i hi => ?_⟩
          by_cases e : i = r
          · subst e; exact z
          · exact h2 i (by omega)
        · exact Or.inr h
    · rw [cr, t75] at z
      rw [one_sh (by omega), or_bit]
      have nx : ∀ y, (∃ f, f < 9 ∧ y = nI f ∧ (a ||| 2 ^ r).testBit f = true) → mw d mt_107 Q 6 [some (.ref 10), some (.int (nI (a ||| 2 ^ r))), some (.int y), some (.int (nI r + 1)), none, none, none] [] τ := fun y hy => by
        rw [nI_1]
        refine ih _ y (Nat.or_lt_two_pow (n := 9) a9 (Nat.pow_lt_pow_right (by decide) hr)) (fun i hi => ?_) (Or.inr hy)
        rw [tb, ab i hi]
        constructor
        · rintro (⟨h1, h2⟩ | h)
          · exact ⟨by omega, h2⟩
          · subst h; exact ⟨by omega, z⟩
        · rintro ⟨h1, h2⟩
          by_cases e : i = r
          · exact Or.inr e.symm
          · exact Or.inl ⟨by omega, h2⟩
      refine kb_107_40 (fun _ => kb_107_45 (nx _ ⟨r, hr, rfl, (tb a r r).mpr (Or.inr rfl)⟩)) (fun y => kb_107_49 (nx _ ?_))
      rcases hx with ⟨h1, _⟩ | ⟨f, f9, ef, fa⟩
      · exact absurd h1 y
      · exact ⟨f, f9, ef, (tb a r f).mpr (Or.inl fa)⟩


-- inner faces of at most three rooms are triangles
theorem bcf4 {M a b c e : Nat} (ha : a < 9) (hb : b < 9) (hc : c < 9) (he : e < 9) (n1 : a ≠ b) (n2 : a ≠ c) (n3 : a ≠ e) (n4 : b ≠ c) (n5 : b ≠ e) (n6 : c ≠ e) (ta : M.testBit a = true) (tb : M.testBit b = true) (tc : M.testBit c = true) (te : M.testBit e = true) : 4 ≤ bc M 13 := by
  have h3 := bcz_3 (n := 13) (show a < 13 by omega) (show b < 13 by omega) (show c < 13 by omega) n1 n2 n4
  have ne : ¬ (2 ^ a ||| 2 ^ b ||| 2 ^ c).testBit e = true := fun h => by
    rcases b3_t.mp h with q | q | q
    · exact n3 q
    · exact n5 q
    · exact n6 q
  have h4 : bc (2 ^ a ||| 2 ^ b ||| 2 ^ c ||| 2 ^ e) 13 = 4 := by rw [bc_add ne, h3, if_pos (by omega)]
  rw [← h4]
  refine bc_le 13 (fun j _ h => ?_)
  rcases tb_or.mp h with q | q
  · rcases b3_t.mp q with q | q | q
    · rw [← q]; exact ta
    · rw [← q]; exact tb
    · rw [← q]; exact tc
  · rw [q]; exact te
theorem FLp_l {σ : mm_S} {m s t L f : Nat} {B : Nat → Nat → Nat} {Mk : Nat → Nat} (FL : FLp σ m B s t L f Mk) : ∃ lab, FLl σ m B f lab ∧ (∀ x, Dt σ m x → (lab x = -1 ↔ ∃ k, k < L ∧ x = (wo B s t k, wo B s t (k + 1)))) ∧ ∀ g, g < f → Mk g < 512 ∧ ∀ a, a < 9 → ((Mk g).testBit a = true ↔ ∃ b, Dt σ m (a, b) ∧ lab (a, b) = nI g) := by
  obtain ⟨f42, lab, l1, l2, l3, l4⟩ := FL
  exact ⟨lab, ⟨f42, l1, l2, fun g hg => (l4 g hg).2.2⟩, l3, fun g hg => ⟨(l4 g hg).1, (l4 g hg).2.1⟩⟩
theorem two_nb {σ : mm_S} {n m v b d : Nat} (W : PW σ n m) (hv : rmx m v) (h1 : nxt (aj σ v) (vc σ v) b d) (h2 : nxt (aj σ v) (vc σ v) d b) (ne : b ≠ d) : ∀ j, aj σ v j → j = b ∨ j = d := fun j hj => by
  by_cases jb : j = b
  · exact Or.inl jb
  · by_cases jd : j = d
    · exact Or.inr jd
    · exfalso
      have G := W.1.gdd W.2.1 hv.1 hv.2
      have ab := h1.1
      have ad := h1.2.1
      rcases h1.2.2 with ⟨q, _⟩ | ⟨_, k1⟩
      · exact ne q.symm
      · rcases h2.2.2 with ⟨q, _⟩ | ⟨_, k2⟩
        · exact ne q
        · have x1 := k1 j hj jb jd
          have x2 := k2 j hj jd jb
          have y1 := grot (G.1 b ab) (G.1 d ad) (G.1 j hj) (G.2 b d ab ad ne) (G.2 b j ab hj (fun q => jb q.symm)) (G.2 j b hj ab jb) (G.2 j d hj ad jd) x1
          have y2 := grot (G.1 d ad) (G.1 b ab) (G.1 j hj) (G.2 d b ad ab (fun q => ne q.symm)) (G.2 d j ad hj (fun q => jd q.symm)) (G.2 j d hj ad jd) (G.2 j b hj ab jb) x2
          exact gso_asym y1 y2
theorem TRx {σ : mm_S} {n m s t f : Nat} {B : Nat → Nat → Nat} {Mk : Nat → Nat} {lab : Nat × Nat → Int32} (W : PW σ n m) (Z : Cn σ m) (h3 : 3 ≤ bc m 9) (hB : BN σ m B) (FL : FLl σ m B f lab) (hst : Dt σ m (s, t)) (lst : lab (s, t) = -1) (mk : ∀ g, g < f → Mk g < 512 ∧ ∀ a, a < 9 → ((Mk g).testBit a = true ↔ ∃ b, Dt σ m (a, b) ∧ lab (a, b) = nI g)) (sm : ∀ g, g < f → bc (Mk g) 13 ≤ 3) {a b g : Nat} (hx : Dt σ m (a, b)) (hg : g < f) (lx : lab (a, b) = nI g) :
    ∃ c, c < 9 ∧ a ≠ b ∧ c ≠ a ∧ c ≠ b ∧ B b a = c ∧ B c b = a ∧ B a c = b ∧ Dt σ m (b, c) ∧ Dt σ m (c, a) ∧ lab (b, c) = nI g ∧ lab (c, a) = nI g ∧ ∀ r, r < 9 → ((Mk g).testBit r = true ↔ r = a ∨ r = b ∨ r = c) := by
  obtain ⟨f42, l1, l2, _⟩ := FL
  have hD := fun x h => pn_D W.1 hB x h
  have bit : ∀ r q, Dt σ m (r, q) → lab (r, q) = nI g → r < 9 ∧ (Mk g).testBit r = true := fun r q h e => ⟨h.1, ((mk g hg).2 r h.1).mpr ⟨q, h, e⟩⟩
  -- never a fourth
  have nof : ∀ r1 r2 r3 r4 q1 q2 q3 q4, Dt σ m (r1, q1) → lab (r1, q1) = nI g → Dt σ m (r2, q2) → lab (r2, q2) = nI g → Dt σ m (r3, q3) → lab (r3, q3) = nI g → Dt σ m (r4, q4) → lab (r4, q4) = nI g → r1 ≠ r2 → r1 ≠ r3 → r2 ≠ r3 → r4 ≠ r1 → r4 ≠ r2 → r4 = r3 := fun r1 r2 r3 r4 q1 q2 q3 q4 d1 e1 d2 e2 d3 e3 d4 e4 n1 n2 n3 n4 n5 => by
    by_cases q : r4 = r3
    · exact q
    · exfalso
      have x1 := bit r1 q1 d1 e1
      have x2 := bit r2 q2 d2 e2
      have x3 := bit r3 q3 d3 e3
      have x4 := bit r4 q4 d4 e4
      have := bcf4 x1.1 x2.1 x3.1 x4.1 n1 n2 (fun z => n4 z.symm) n3 (fun z => n5 z.symm) (fun z => q z.symm) x1.2 x2.2 x3.2 x4.2
      have := sm g hg
      omega
  have step : ∀ p q, Dt σ m (p, q) → lab (p, q) = nI g → Dt σ m (q, B q p) ∧ lab (q, B q p) = nI g ∧ p ≠ q ∧ nxt (aj σ q) (vc σ q) p (B q p) := fun p q h e => by
    obtain ⟨hq, ne, hqp, _⟩ := W.ed ⟨h.1, h.2.1⟩ h.2.2
    exact ⟨hD _ h, (l1 _ h).trans e, ne, hB q p hq.1 hq.2 hqp⟩
  have ng : ¬ nI g = -1 := nI_m1 (by omega)
  -- it never turns back
  have N : ∀ p q, Dt σ m (p, q) → lab (p, q) = nI g → B q p ≠ p := fun p q h e back => by
    obtain ⟨d1, e1, pq, n1⟩ := step p q h e
    rw [back] at d1 e1 n1
    have only : ∀ j, aj σ q j → j = p := by
      rcases n1.2.2 with ⟨_, y⟩ | ⟨y, _⟩
      · exact y
      · exact absurd rfl y
    obtain ⟨d2, e2, _, n2⟩ := step q p d1 e1
    by_cases dq : B p q = q
    · -- two rooms alone
      rw [dq] at n2
      have only' : ∀ j, aj σ p j → j = q := by
        rcases n2.2.2 with ⟨_, y⟩ | ⟨y, _⟩
        · exact y
        · exact absurd rfl y
      have all := Z (fun r => r = p ∨ r = q) ⟨p, h.1, h.2.1, Or.inl rfl⟩ (fun i j _ _ hi hij => by
        rcases hi with hi | hi
        · subst hi; exact Or.inr (only' j hij)
        · subst hi; exact Or.inl (only j hij))
      have le : bc m 9 ≤ bc (2 ^ p ||| 2 ^ q) 9 := bc_le 9 (fun j hj hm => by
        rcases all j hj hm with q' | q'
        · rw [q', tb_or]; left; rw [Nat.testBit_two_pow]; simp
        · rw [q', tb_or]; exact Or.inr rfl)
      have two : bc (2 ^ p ||| 2 ^ q) 9 = 2 := by
        have n0 : ¬ (2 ^ p).testBit q = true := by rw [Nat.testBit_two_pow]; simp [pq]
        have z0 : bc (0 ||| 2 ^ p) 9 = bc 0 9 + if p < 9 then 1 else 0 := bc_add (by simp) 9
        rw [bc_add n0, show (2 : Nat) ^ p = 0 ||| 2 ^ p by simp, z0, show bc 0 9 = 0 by decide, if_pos h.1, if_pos d1.1]
      omega
    · have dp : B p q ≠ p := fun z => by rw [z] at d2; exact (step q p d1 e1).2.2.1 (by have := (W.ed ⟨d2.1, d2.2.1⟩ d2.2.2).2.1; exact absurd rfl this)
      obtain ⟨d3, e3, _, n3⟩ := step p (B p q) d2 e2
      by_cases eb : B (B p q) p = p
      · rw [eb] at d3 e3 n3
        have only2 : ∀ j, aj σ (B p q) j → j = p := by
          rcases n3.2.2 with ⟨_, y⟩ | ⟨y, _⟩
          · exact y
          · exact absurd rfl y
        obtain ⟨d4, e4, _, n4⟩ := step (B p q) p d3 e3
        -- back to q
        have hb : B p (B p q) = q := by
          have x1 : B p (B p q) ≠ p := fun z => by rw [z] at d4; exact absurd rfl (W.ed ⟨d4.1, d4.2.1⟩ d4.2.2).2.1
          by_cases z : B p (B p q) = B p q
          · exfalso
            rcases n4.2.2 with ⟨_, y⟩ | ⟨y, _⟩
            · exact dq (y q n2.1).symm
            · exact y z
          · obtain ⟨d5, e5, _⟩ := step p _ d4 e4
            exact nof p (B p q) q _ _ _ _ _ h e d3 e3 d1 e1 d5 e5 (fun y => dp y.symm) pq dq x1 z
        rw [hb] at n4
        have nb := two_nb W ⟨h.1, h.2.1⟩ n2 n4 (fun y => dq y.symm)
        have all := Z (fun r => r = p ∨ r = q ∨ r = B p q) ⟨p, h.1, h.2.1, Or.inl rfl⟩ (fun i j _ _ hi hij => by
          rcases hi with hi | hi | hi
          · subst hi; exact Or.inr (nb j hij)
          · subst hi; exact Or.inl (only j hij)
          · subst hi; exact Or.inl (only2 j hij))
        have lab2 : ∀ i j, Dt σ m (i, j) → lab (i, j) = nI g := fun i j hij => by
          rcases all i hij.1 hij.2.1 with y | y | y
          · subst y
            rcases nb j hij.2.2 with y | y
            · subst y; exact e
            · subst y; exact e2
          · subst y
            rw [only j hij.2.2]; exact e1
          · subst y
            rw [only2 j hij.2.2]; exact e3
        exact ng ((lab2 s t hst).symm.trans lst)
      · obtain ⟨d4, e4, _⟩ := step (B p q) _ d3 e3
        have x1 : B (B p q) p ≠ B p q := fun z => by rw [z] at d3; exact absurd rfl (W.ed ⟨d3.1, d3.2.1⟩ d3.2.2).2.1
        have eq : B (B p q) p = q := nof p (B p q) q _ _ _ _ _ h e d3 e3 d1 e1 d4 e4 (fun y => dp y.symm) pq dq eb x1
        rw [eq] at d3
        exact dp (only _ (W.ed ⟨d3.1, d3.2.1⟩ d3.2.2).2.2.1)
  obtain ⟨d1, e1, ab, n1⟩ := step a b hx lx
  have ca := N a b hx lx
  have cb : B b a ≠ b := fun z => by rw [z] at d1; exact absurd rfl (W.ed ⟨d1.1, d1.2.1⟩ d1.2.2).2.1
  obtain ⟨d2, e2, _, _⟩ := step b _ d1 e1
  have eb := N b _ d1 e1
  have ec : B (B b a) b ≠ B b a := fun z => by rw [z] at d2; exact absurd rfl (W.ed ⟨d2.1, d2.2.1⟩ d2.2.2).2.1
  obtain ⟨d3, e3, _, _⟩ := step _ _ d2 e2
  have ea : B (B b a) b = a := nof b (B b a) a _ _ _ _ _ d1 e1 d2 e2 hx lx d3 e3 (fun z => cb z.symm) (fun z => ab z.symm) ca eb ec
  rw [ea] at d2 e2 d3 e3
  have fc := N _ _ d2 e2
  have fa : B a (B b a) ≠ a := fun z => by rw [z] at d3; exact absurd rfl (W.ed ⟨d3.1, d3.2.1⟩ d3.2.2).2.1
  obtain ⟨d4, e4, _, _⟩ := step _ _ d3 e3
  have fb : B a (B b a) = b := nof a (B b a) b _ _ _ _ _ hx lx d2 e2 d1 e1 d4 e4 (fun z => ca z.symm) ab cb fa fc
  refine ⟨B b a, d2.1, ab, ca, cb, rfl, ea, fb, d1, d2, e1, e2, fun r hr => ⟨fun h => ?_, fun h => ?_⟩⟩
  · obtain ⟨q, d, e⟩ := ((mk g hg).2 r hr).mp h
    by_cases ra : r = a
    · exact Or.inl ra
    · by_cases rb : r = b
      · exact Or.inr (Or.inl rb)
      · exact Or.inr (Or.inr (nof a b (B b a) r _ _ _ _ hx lx d1 e1 d2 e2 d e ab (fun z => ca z.symm) (fun z => cb z.symm) ra rb))
  · rcases h with h | h | h
    · subst h; exact (bit _ _ hx lx).2
    · subst h; exact (bit _ _ d1 e1).2
    · subst h; exact (bit _ _ d2 e2).2

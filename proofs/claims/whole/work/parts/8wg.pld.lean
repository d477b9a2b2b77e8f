-- what stands for a plan, and the disc that it is
def PLD (σ : mm_S) (n m : Nat) (B : Nat → Nat → Nat) (s t L f : Nat) (Mk : Nat → Nat) (lab : Nat × Nat → Int32) (p K : Nat → Nat) : Prop := (PW σ n m) ∧ (3 ≤ bc m 9) ∧ (Cn σ m) ∧ (BN σ m B) ∧ (wms σ m 9 s) ∧ (nms σ s 9 t) ∧ (OLp B s t L) ∧ (FLl σ m B f lab) ∧ (∀ x, Dt σ m x → (lab x = -1 ↔ ∃ k, k < L ∧ x = (wo B s t k, wo B s t (k + 1)))) ∧ (∀ g, g < f → Mk g < 512 ∧ ∀ a, a < 9 → ((Mk g).testBit a = true ↔ ∃ b, Dt σ m (a, b) ∧ lab (a, b) = nI g)) ∧ (∀ g, g < f → bc (Mk g) 13 ≤ 3) ∧ (∀ i, i < 4 → p i < L) ∧ (st L p 0 + st L p 1 + st L p 2 + st L p 3 = L) ∧ (NB σ m (wo B s t) p L (fun s => st L p s + 1) K) ∧ (∀ i j l, ¬ tr K (SF f Mk L (wo B s t) p) i j l)
theorem PLD.w {σ : mm_S} {n m : Nat} {B : Nat → Nat → Nat} {s t L f : Nat} {Mk : Nat → Nat} {lab : Nat × Nat → Int32} {p K : Nat → Nat} (h : PLD σ n m B s t L f Mk lab p K) : PW σ n m := h.1
theorem PLD.r3 {σ : mm_S} {n m : Nat} {B : Nat → Nat → Nat} {s t L f : Nat} {Mk : Nat → Nat} {lab : Nat × Nat → Int32} {p K : Nat → Nat} (h : PLD σ n m B s t L f Mk lab p K) : 3 ≤ bc m 9 := h.2.1
theorem PLD.cn {σ : mm_S} {n m : Nat} {B : Nat → Nat → Nat} {s t L f : Nat} {Mk : Nat → Nat} {lab : Nat × Nat → Int32} {p K : Nat → Nat} (h : PLD σ n m B s t L f Mk lab p K) : Cn σ m := h.2.2.1
theorem PLD.bn {σ : mm_S} {n m : Nat} {B : Nat → Nat → Nat} {s t L f : Nat} {Mk : Nat → Nat} {lab : Nat × Nat → Int32} {p K : Nat → Nat} (h : PLD σ n m B s t L f Mk lab p K) : BN σ m B := h.2.2.2.1
theorem PLD.ws {σ : mm_S} {n m : Nat} {B : Nat → Nat → Nat} {s t L f : Nat} {Mk : Nat → Nat} {lab : Nat × Nat → Int32} {p K : Nat → Nat} (h : PLD σ n m B s t L f Mk lab p K) : wms σ m 9 s := h.2.2.2.2.1
theorem PLD.nt {σ : mm_S} {n m : Nat} {B : Nat → Nat → Nat} {s t L f : Nat} {Mk : Nat → Nat} {lab : Nat × Nat → Int32} {p K : Nat → Nat} (h : PLD σ n m B s t L f Mk lab p K) : nms σ s 9 t := h.2.2.2.2.2.1
theorem PLD.ol {σ : mm_S} {n m : Nat} {B : Nat → Nat → Nat} {s t L f : Nat} {Mk : Nat → Nat} {lab : Nat × Nat → Int32} {p K : Nat → Nat} (h : PLD σ n m B s t L f Mk lab p K) : OLp B s t L := h.2.2.2.2.2.2.1
theorem PLD.fl {σ : mm_S} {n m : Nat} {B : Nat → Nat → Nat} {s t L f : Nat} {Mk : Nat → Nat} {lab : Nat × Nat → Int32} {p K : Nat → Nat} (h : PLD σ n m B s t L f Mk lab p K) : FLl σ m B f lab := h.2.2.2.2.2.2.2.1
theorem PLD.lo {σ : mm_S} {n m : Nat} {B : Nat → Nat → Nat} {s t L f : Nat} {Mk : Nat → Nat} {lab : Nat × Nat → Int32} {p K : Nat → Nat} (h : PLD σ n m B s t L f Mk lab p K) : ∀ x, Dt σ m x → (lab x = -1 ↔ ∃ k, k < L ∧ x = (wo B s t k, wo B s t (k + 1))) := h.2.2.2.2.2.2.2.2.1
theorem PLD.mk {σ : mm_S} {n m : Nat} {B : Nat → Nat → Nat} {s t L f : Nat} {Mk : Nat → Nat} {lab : Nat × Nat → Int32} {p K : Nat → Nat} (h : PLD σ n m B s t L f Mk lab p K) : ∀ g, g < f → Mk g < 512 ∧ ∀ a, a < 9 → ((Mk g).testBit a = true ↔ ∃ b, Dt σ m (a, b) ∧ lab (a, b) = nI g) := h.2.2.2.2.2.2.2.2.2.1
theorem PLD.sm {σ : mm_S} {n m : Nat} {B : Nat → Nat → Nat} {s t L f : Nat} {Mk : Nat → Nat} {lab : Nat × Nat → Int32} {p K : Nat → Nat} (h : PLD σ n m B s t L f Mk lab p K) : ∀ g, g < f → bc (Mk g) 13 ≤ 3 := h.2.2.2.2.2.2.2.2.2.2.1
theorem PLD.pl {σ : mm_S} {n m : Nat} {B : Nat → Nat → Nat} {s t L f : Nat} {Mk : Nat → Nat} {lab : Nat × Nat → Int32} {p K : Nat → Nat} (h : PLD σ n m B s t L f Mk lab p K) : ∀ i, i < 4 → p i < L := h.2.2.2.2.2.2.2.2.2.2.2.1
theorem PLD.sL {σ : mm_S} {n m : Nat} {B : Nat → Nat → Nat} {s t L f : Nat} {Mk : Nat → Nat} {lab : Nat × Nat → Int32} {p K : Nat → Nat} (h : PLD σ n m B s t L f Mk lab p K) : st L p 0 + st L p 1 + st L p 2 + st L p 3 = L := h.2.2.2.2.2.2.2.2.2.2.2.2.1
theorem PLD.nb {σ : mm_S} {n m : Nat} {B : Nat → Nat → Nat} {s t L f : Nat} {Mk : Nat → Nat} {lab : Nat × Nat → Int32} {p K : Nat → Nat} (h : PLD σ n m B s t L f Mk lab p K) : NB σ m (wo B s t) p L (fun s => st L p s + 1) K := h.2.2.2.2.2.2.2.2.2.2.2.2.2.1
theorem PLD.no {σ : mm_S} {n m : Nat} {B : Nat → Nat → Nat} {s t L f : Nat} {Mk : Nat → Nat} {lab : Nat × Nat → Int32} {p K : Nat → Nat} (h : PLD σ n m B s t L f Mk lab p K) : ∀ i j l, ¬ tr K (SF f Mk L (wo B s t) p) i j l := h.2.2.2.2.2.2.2.2.2.2.2.2.2.2
/-- a set closed under the next one clockwise is all -/
theorem bn_tv {σ : mm_S} {n m r : Nat} {B : Nat → Nat → Nat} (W : PW σ n m) (hB : BN σ m B) (hr : rmx m r) (S : Nat → Prop) (ne : ∃ v, aj σ r v ∧ S v) (cl : ∀ v, aj σ r v → S v → S (B r v)) : ∀ v, aj σ r v → S v := fun w hw => by
  rcases Classical.em (S w) with y | nw
  · exact y
  exfalso
  have G := W.1.gdd W.2.1 hr.1 hr.2
  -- the last one of S clockwise from w
  have mx : ∀ N, (∃ v, v < N ∧ aj σ r v ∧ S v) → ∃ v, aj σ r v ∧ S v ∧ ∀ u, u < N → aj σ r u → S u → u = v ∨ gso (vc σ r w) (vc σ r u) (vc σ r v) := fun N => by
    induction N with
    | zero => rintro ⟨v, hv, _⟩; exact absurd hv (Nat.not_lt_zero v)
    | succ N ih =>
      rintro ⟨v, hv, av, sv⟩
      by_cases old : ∃ v, v < N ∧ aj σ r v ∧ S v
      · obtain ⟨x, ax, sx, hx⟩ := ih old
        by_cases new : aj σ r N ∧ S N
        · by_cases e : N = x
          · exact ⟨x, ax, sx, fun u hu au su => by
              by_cases eu : u = N
              · exact Or.inl (eu.trans e)
              · exact hx u (by omega) au su⟩
          · have nNw : N ≠ w := fun z => nw (z ▸ new.2)
            have nxw : x ≠ w := fun z => nw (z ▸ sx)
            rcases gtot (G.1 w hw) (G.1 x ax) (G.1 N new.1) (G.2 w x hw ax (fun z => nxw z.symm)) (G.2 w N hw new.1 (fun z => nNw z.symm)) (G.2 x N ax new.1 (fun z => e z.symm)) with k | k
            · refine ⟨N, new.1, new.2, fun u hu au su => ?_⟩
              by_cases eu : u = N
              · exact Or.inl eu
              · rcases hx u (by omega) au su with z | z
                · right; rw [z]; exact k
                · right
                  have nuw : u ≠ w := fun z => nw (z ▸ su)
                  exact gtrans (G.1 w hw) (G.1 u au) (G.1 N new.1) (G.2 w u hw au (fun z => nuw z.symm)) (G.2 w x hw ax (fun z => nxw z.symm)) (G.2 w N hw new.1 (fun z => nNw z.symm)) (G.2 u N au new.1 eu) z k
            · exact ⟨x, ax, sx, fun u hu au su => by
                by_cases eu : u = N
                · right; rw [eu]; exact k
                · exact hx u (by omega) au su⟩
        · exact ⟨x, ax, sx, fun u hu au su => by
            by_cases eu : u = N
            · exact absurd ⟨eu ▸ au, eu ▸ su⟩ new
            · exact hx u (by omega) au su⟩
      · have vN : v = N := by
          rcases Nat.lt_or_ge v N with z | z
          · exact absurd ⟨v, z, av, sv⟩ old
          · omega
        exact ⟨v, av, sv, fun u hu au su => by
          by_cases eu : u = N
          · exact Or.inl (eu.trans vN.symm)
          · exact absurd ⟨u, by omega, au, su⟩ old⟩
  obtain ⟨v0, a0, s0⟩ := ne
  obtain ⟨x, ax, sx, hx⟩ := mx 9 ⟨v0, a0.1, a0, s0⟩
  have nb := hB r x hr.1 hr.2 ax
  have ag := nb.2.1
  have sg := cl x ax sx
  have nxw : x ≠ w := fun z => nw (z ▸ sx)
  have ngw : B r x ≠ w := fun z => nw (z ▸ sg)
  rcases nb.2.2 with ⟨_, only⟩ | ⟨ne, k⟩
  · exact nxw (only w hw).symm
  · have k1 := k w hw (fun z => nxw z.symm) (fun z => ngw z.symm)
    have k2 := grot (G.1 x ax) (G.1 _ ag) (G.1 w hw) (G.2 x _ ax ag (fun z => ne z.symm)) (G.2 x w ax hw nxw) (G.2 w x hw ax (fun z => nxw z.symm)) (G.2 w _ hw ag (fun z => ngw z.symm)) k1
    rcases hx (B r x) ag.1 ag sg with z | z
    · exact ne z
    · exact gso_asym k2 z
section PLS
variable {σ : mm_S} {n m : Nat} {B : Nat → Nat → Nat} {s t L f : Nat} {Mk : Nat → Nat} {lab : Nat × Nat → Int32} {p K : Nat → Nat}
def qo (B : Nat → Nat → Nat) (s t : Nat) (p : Nat → Nat) (y : Nat) : Nat := wo B s t (p 0 + y)
def bo4 (L : Nat) (p : Nat → Nat) (i : Nat) : Nat := if i < 4 then frm L p i else L
theorem PLD.wa (P : PLD σ n m B s t L f Mk lab p K) : ∀ k, rmx m (wo B s t k) ∧ aj σ (wo B s t k) (wo B s t (k + 1)) := fun k => by
  induction k with
  | zero => exact ⟨⟨P.ws.1, P.ws.2.2.1⟩, P.nt.1⟩
  | succ k ih =>
    obtain ⟨h1, _, h3, _⟩ := P.w.ed ih.1 ih.2
    exact ⟨h1, by rw [wo_2]; exact (P.bn _ _ h1.1 h1.2 h3).2.1⟩
theorem PLD.wp (P : PLD σ n m B s t L f Mk lab p K) : ∀ k, wo B s t (k + L) = wo B s t k := by
  obtain ⟨_, _, h1, h2, _⟩ := P.ol
  have : ∀ k, wo B s t (k + L) = wo B s t k ∧ wo B s t (k + 1 + L) = wo B s t (k + 1) := fun k => by
    induction k with
    | zero => exact ⟨by rw [Nat.zero_add]; exact h1, by rw [show 0 + 1 + L = L + 1 by omega]; exact h2⟩
    | succ k ih =>
      refine ⟨ih.2, ?_⟩
      rw [show k + 1 + 1 + L = k + L + 2 by omega, wo_2, show k + L + 1 = k + 1 + L by omega, ih.1, ih.2]; rfl
  exact fun k => (this k).1
theorem PLD.wm (P : PLD σ n m B s t L f Mk lab p K) : ∀ k, wo B s t (k % L) = wo B s t k := fun k => by
  have : ∀ d k, wo B s t (k + L * d) = wo B s t k := fun d => by
    induction d with
    | zero => intro k; rfl
    | succ d ih => intro k; rw [Nat.mul_succ, ← Nat.add_assoc, P.wp, ih]
  have := this (k / L) (k % L)
  rw [Nat.mod_add_div] at this
  exact this.symm
theorem PLD.l3 (P : PLD σ n m B s t L f Mk lab p K) : 3 ≤ L := by
  obtain ⟨l1, l9, h1, h2, dis⟩ := P.ol
  have a0 := P.wa 0
  have a1 := P.wa 1
  rcases Nat.lt_or_ge L 3 with k | k
  · exfalso
    rcases (show L = 1 ∨ L = 2 by omega) with e | e
    · subst e
      have := (P.w.ed a0.1 a0.2).2.1
      exact this h1.symm
    · subst e
      have st := P.w.ed a0.1 a0.2
      have b1 : B t s = s := h1
      have b2 : B s t = t := by have : B (wo B s t 2) (wo B s t 1) = t := h2; rw [h1] at this; exact this
      have n1 := P.bn t s st.1.1 st.1.2 st.2.2.1
      have n2 := P.bn s t a0.1.1 a0.1.2 a0.2
      rw [b1] at n1
      rw [b2] at n2
      have o1 : ∀ j, aj σ t j → j = s := by
        rcases n1.2.2 with ⟨_, y⟩ | ⟨y, _⟩
        · exact y
        · exact absurd rfl y
      have o2 : ∀ j, aj σ s j → j = t := by
        rcases n2.2.2 with ⟨_, y⟩ | ⟨y, _⟩
        · exact y
        · exact absurd rfl y
      have all := P.cn (fun r => r = s ∨ r = t) ⟨s, a0.1.1, a0.1.2, Or.inl rfl⟩ (fun i j _ _ hi hij => by
        rcases hi with hi | hi
        · subst hi; exact Or.inr (o2 j hij)
        · subst hi; exact Or.inl (o1 j hij))
      have le : bc m 9 ≤ bc (2 ^ s ||| 2 ^ t) 9 := bc_le 9 (fun j hj hm => by
        rcases all j hj hm with q' | q'
        · rw [q', tb_or]; left; rw [Nat.testBit_two_pow]; simp
        · rw [q', tb_or]; exact Or.inr rfl)
      have st' : s ≠ t := st.2.1
      have two : bc (2 ^ s ||| 2 ^ t) 9 = 2 := by
        have n0 : ¬ (2 ^ s).testBit t = true := by rw [Nat.testBit_two_pow]; simp [st']
        have z0 : bc (0 ||| 2 ^ s) 9 = bc 0 9 + if s < 9 then 1 else 0 := bc_add (by simp) 9
        rw [bc_add n0, show (2 : Nat) ^ s = 0 ||| 2 ^ s by simp, z0, show bc 0 9 = 0 by decide, if_pos (show s < 9 from a0.1.1), if_pos (show t < 9 from st.1.1)]
      have := P.r3
      omega
  · exact k
theorem PLD.wd (P : PLD σ n m B s t L f Mk lab p K) {i j : Nat} (h : i < j) (k : j < i + L) : wo B s t i ≠ wo B s t j := fun e => by
  obtain ⟨l1, _, _, _, dis⟩ := P.ol
  rw [← P.wm i, ← P.wm j] at e
  have m1 := Nat.mod_lt i (show L > 0 by omega)
  have m2 := Nat.mod_lt j (show L > 0 by omega)
  rcases Nat.lt_trichotomy (i % L) (j % L) with z | z | z
  · exact dis _ _ z m2 e
  · have d1 := Nat.mod_add_div i L
    have d2 := Nat.mod_add_div j L
    have q1 : i / L < j / L := by
      rcases Nat.lt_or_ge (i / L) (j / L) with y | y
      · exact y
      · have := Nat.mul_le_mul_left L y; omega
    have := Nat.mul_le_mul_left L q1
    rw [Nat.mul_succ] at this
    omega
  · exact dis _ _ z m1 e.symm
theorem PLD.lay (P : PLD σ n m B s t L f Mk lab p K) : ∀ i, i < 4 → (p 0 + frm L p i) % L = p i ∧ tom L p i = frm L p i + st L p i ∧ tom L p i ≤ L := (lay_p (by have := P.ol.2.1; omega) P.pl).2 P.sL
theorem PLD.tb (P : PLD σ n m B s t L f Mk lab p K) {i : Nat} (hi : i < 4) : tom L p i = bo4 L p (i + 1) := by
  unfold tom bo4
  by_cases h : i < 3
  · rw [if_pos h, if_pos (by omega)]
  · rw [if_neg h, if_neg (by omega)]
theorem PLD.fb (P : PLD σ n m B s t L f Mk lab p K) {i : Nat} (hi : i < 4) : frm L p i = bo4 L p i := by unfold bo4; rw [if_pos hi]
theorem stL {L : Nat} {p : Nat → Nat} (hp : ∀ i, i < 4 → p i < L) {i : Nat} (hi : i < 4) : st L p i < L := by
  have h1 := hp i hi
  have h2 := hp (nx4 i) (f_50_n i hi).2
  unfold st
  split <;> omega
/-- rooms along a side -/
theorem PLD.onp (P : PLD σ n m B s t L f Mk lab p K) {i r : Nat} (hi : i < 4) : onp (wo B s t) p L i (st L p i + 1) r ↔ nrs (qo B s t p) (bo4 L p) r i := by
  obtain ⟨h1, h2, h3⟩ := P.lay i hi
  have e1 := P.tb hi
  have e2 := P.fb hi
  have l1 := P.l3
  constructor
  · rintro ⟨j, hj, e⟩
    refine ⟨frm L p i + j, by omega, by omega, ?_⟩
    show wo B s t (p 0 + (frm L p i + j)) = r
    rw [← e, P.wm, ← P.wm (p 0 + (frm L p i + j)), ← P.wm (p i + j), ← h1, Nat.mod_add_mod, Nat.add_assoc]
  · rintro ⟨y, y1, y2, e⟩
    refine ⟨y - frm L p i, by omega, ?_⟩
    have e' : wo B s t (p 0 + y) = r := e
    rw [P.wm, ← P.wm, ← h1, Nat.mod_add_mod, P.wm, show p 0 + frm L p i + (y - frm L p i) = p 0 + y by omega]; exact e'
theorem PLD.out (P : PLD σ n m B s t L f Mk lab p K) {a c : Nat} (h : Dt σ m (a, c)) : lab (a, c) = -1 ↔ outd (qo B s t p) a c := by
  have l1 := P.l3
  have p0 := P.pl 0 (by decide)
  rw [P.lo _ h]
  constructor
  · rintro ⟨k, hk, e⟩
    have e1 : a = wo B s t k := congrArg Prod.fst e
    have e2 : c = wo B s t (k + 1) := congrArg Prod.snd e
    refine ⟨k + L - p 0, ?_, ?_⟩
    · show a = wo B s t (p 0 + (k + L - p 0))
      rw [show p 0 + (k + L - p 0) = k + L by omega, P.wp]; exact e1
    · show c = wo B s t (p 0 + (k + L - p 0 + 1))
      rw [show p 0 + (k + L - p 0 + 1) = k + 1 + L by omega, P.wp]; exact e2
  · rintro ⟨y, e1, e2⟩
    have e1' : a = wo B s t (p 0 + y) := e1
    have e2' : c = wo B s t (p 0 + y + 1) := e2
    refine ⟨(p 0 + y) % L, Nat.mod_lt _ (by omega), Prod.ext (by rw [P.wm]; exact e1') ?_⟩
    show c = wo B s t ((p 0 + y) % L + 1)
    rw [← P.wm ((p 0 + y) % L + 1), Nat.mod_add_mod, P.wm]; exact e2'
theorem PLD.st (P : PLD σ n m B s t L f Mk lab p K) : Dt σ m (s, t) ∧ lab (s, t) = -1 := by
  have d : Dt σ m (s, t) := ⟨P.ws.1, P.ws.2.2.1, P.nt.1⟩
  exact ⟨d, (P.lo _ d).mpr ⟨0, by have := P.l3; omega, rfl⟩⟩
theorem PLD.trx (P : PLD σ n m B s t L f Mk lab p K) {a b g : Nat} (hx : Dt σ m (a, b)) (hg : g < f) (lx : lab (a, b) = nI g) :
    ∃ c, c < 9 ∧ a ≠ b ∧ c ≠ a ∧ c ≠ b ∧ B b a = c ∧ B c b = a ∧ B a c = b ∧ Dt σ m (b, c) ∧ Dt σ m (c, a) ∧ lab (b, c) = nI g ∧ lab (c, a) = nI g ∧ ∀ r, r < 9 → ((Mk g).testBit r = true ↔ r = a ∨ r = b ∨ r = c) := TRx P.w P.cn P.r3 P.bn P.fl P.st.1 P.st.2 P.mk P.sm hx hg lx
theorem PLD.lbg (P : PLD σ n m B s t L f Mk lab p K) {a c : Nat} (h : Dt σ m (a, c)) (no : ¬ outd (qo B s t p) a c) : ∃ g, g < f ∧ lab (a, c) = nI g := (P.fl.2.2.1 _ h).resolve_left (fun z => no ((P.out h).mp z))
theorem PLD.ng (P : PLD σ n m B s t L f Mk lab p K) {a c g : Nat} (h : Dt σ m (a, c)) (hg : g < f) (e : lab (a, c) = nI g) : ¬ outd (qo B s t p) a c := fun o => by
  have := (P.out h).mpr o
  rw [e] at this
  have f42 := P.fl.1
  exact nI_m1 (by omega) this
/-- no loose triangle, in any order -/
theorem PLD.no3 (P : PLD σ n m B s t L f Mk lab p K) {i j k : Nat} (hi : i < 13) (hj : j < 13) (hk : k < 13) (n1 : i ≠ j) (n2 : i ≠ k) (n3 : j ≠ k) (sy : ∀ u v, u < 13 → v < 13 → (K u).testBit v = true → (K v).testBit u = true) (h1 : (K i).testBit j = true) (h2 : (K i).testBit k = true) (h3 : (K j).testBit k = true) : SF f Mk L (wo B s t) p (2 ^ i ||| 2 ^ j ||| 2 ^ k) := by
  have go : ∀ a b c, a < b → b < c → c < 13 → (K a).testBit b = true → (K a).testBit c = true → (K b).testBit c = true → SF f Mk L (wo B s t) p (2 ^ a ||| 2 ^ b ||| 2 ^ c) := fun a b c x1 x2 x3 x4 x5 x6 => Classical.not_not.mp (fun z => P.no a b c ⟨x1, x2, x3, x4, x5, x6, z⟩)
  have h1' := sy _ _ hi hj h1
  have h2' := sy _ _ hi hk h2
  have h3' := sy _ _ hj hk h3
  have re : ∀ a b c, (∀ w, (a = w ∨ b = w ∨ c = w) ↔ (i = w ∨ j = w ∨ k = w)) → SF f Mk L (wo B s t) p (2 ^ a ||| 2 ^ b ||| 2 ^ c) → SF f Mk L (wo B s t) p (2 ^ i ||| 2 ^ j ||| 2 ^ k) := fun a b c e h => by rw [← b3_eq e]; exact h
  rcases Nat.lt_or_ge i j with x | x <;> rcases Nat.lt_or_ge i k with y | y <;> rcases Nat.lt_or_ge j k with z | z
  · exact go i j k x z hk h1 h2 h3
  · exact re i k j (fun w => by constructor <;> (rintro (h | h | h) <;> simp [h])) (go i k j y (by omega) hj h2 h1 h3')
  · omega
  · exact re k i j (fun w => by constructor <;> (rintro (h | h | h) <;> simp [h])) (go k i j (by omega) x hj h2' h3' h1)
  · exact re j i k (fun w => by constructor <;> (rintro (h | h | h) <;> simp [h])) (go j i k (by omega) y hk h1' h3 h2)
  · omega
  · exact re j k i (fun w => by constructor <;> (rintro (h | h | h) <;> simp [h])) (go j k i z (by omega) hi h3 h1' h2')
  · exact re k j i (fun w => by constructor <;> (rintro (h | h | h) <;> simp [h])) (go k j i (by omega) (by omega) hi h3' h2' h1')
theorem nx4_1 : ∀ s, s < 4 → nx4 s = (s + 1) % 4 := by decide
theorem pv4_1 : ∀ s, s < 4 → ∀ s', s' < 4 → (s' = pv4 s ↔ s = (s' + 1) % 4) := by decide
/-- near, by the masks -/
theorem PLD.kn (P : PLD σ n m B s t L f Mk lab p K) {u v : Nat} (hu : u < 13) : (K u).testBit v = true ↔ nrx (rmx m) (aj σ) (qo B s t p) (bo4 L p) u v := by
  obtain ⟨k0, k1, k2, k3, k4⟩ := P.nb
  have rr : ∀ {r i}, nrs (qo B s t p) (bo4 L p) r i → r < 9 := fun {r i} ⟨y, _, _, e⟩ => by rw [← e]; exact (P.wa _).1.1
  rcases Nat.lt_or_ge u 9 with u9 | u9
  · constructor
    · intro h
      rcases Nat.lt_or_ge v 9 with v9 | v9
      · have := (k1 u v u9 v9).mp h
        exact Or.inl ⟨⟨u9, this.1⟩, this.2⟩
      · have v13 : v < 13 := by
          rcases Nat.lt_or_ge v 13 with z | z
          · exact z
          · rw [tb_lt (k := 13) (k0 u hu) z] at h; exact absurd h (by decide)
        have e : v = 9 + (v - 9) := by omega
        rw [e] at h
        exact Or.inr (Or.inl ⟨v - 9, by omega, e, (P.onp (by omega)).mp ((k2 u (v - 9) u9 (by omega)).mp h)⟩)
    · rintro (⟨h1, h2⟩ | ⟨i, i4, e, h⟩ | ⟨i, i4, e, h⟩ | ⟨i, j, i4, j4, e1, e2, h⟩)
      · exact (k1 u v u9 h2.1).mpr ⟨h1.2, h2⟩
      · subst e; exact (k2 u i u9 i4).mpr ((P.onp i4).mpr h)
      · omega
      · omega
  · obtain ⟨i, i4, e⟩ : ∃ i, i < 4 ∧ u = 9 + i := ⟨u - 9, by omega, by omega⟩
    subst e
    constructor
    · intro h
      rcases Nat.lt_or_ge v 9 with v9 | v9
      · exact Or.inr (Or.inr (Or.inl ⟨i, i4, rfl, (P.onp i4).mp ((k3 i v i4 v9).mp h)⟩))
      · have v13 : v < 13 := by
          rcases Nat.lt_or_ge v 13 with z | z
          · exact z
          · rw [tb_lt (k := 13) (k0 _ hu) z] at h; exact absurd h (by decide)
        have e : v = 9 + (v - 9) := by omega
        rw [e] at h
        have := (k4 i (v - 9) i4 (by omega)).mp h
        rw [nx4_1 i i4, pv4_1 i i4 _ (by omega)] at this
        exact Or.inr (Or.inr (Or.inr ⟨i, v - 9, i4, by omega, rfl, e, this⟩))
    · rintro (⟨h1, h2⟩ | ⟨j, j4, e, h⟩ | ⟨j, j4, e, h⟩ | ⟨j, j', j4, j4', e1, e2, h⟩)
      · have := h1.1; omega
      · have := rr h; omega
      · have : i = j := by omega
        subst this
        exact (k3 i v i4 (rr h)).mpr ((P.onp i4).mpr h)
      · have : i = j := by omega
        subst this
        subst e2
        refine (k4 i j' i4 j4').mpr ?_
        rw [nx4_1 i i4, pv4_1 i i4 _ j4']; exact h
theorem PLD.dsk (P : PLD σ n m B s t L f Mk lab p K) : DSK (rmx m) (aj σ) B (qo B s t p) (bo4 L p) L := by
  have l3 := P.l3
  have lay := P.lay
  have lp := (lay_p (by have := P.ol.2.1; omega) P.pl).1.mpr P.sL
  have e12 : bo4 L p 4 = L := by unfold bo4; rw [if_neg (by decide)]
  have q9 : ∀ y, qo B s t p y < 9 := fun y => (P.wa _).1.1
  have sy : ∀ u v, u < 13 → v < 13 → (K u).testBit v = true → (K v).testBit u = true := fun u v hu hv h => by
    rw [P.kn hv]
    rw [P.kn hu] at h
    rcases h with ⟨h1, h2⟩ | ⟨i, i4, e, k⟩ | ⟨i, i4, e, k⟩ | ⟨i, i', h1, h2, e1, e2, k⟩
    · have := P.w.ed h1 h2
      exact Or.inl ⟨this.1, this.2.2.1⟩
    · exact Or.inr (Or.inr (Or.inl ⟨i, i4, e, k⟩))
    · exact Or.inr (Or.inl ⟨i, i4, e, k⟩)
    · exact Or.inr (Or.inr (Or.inr ⟨i', i, h2, h1, e2, e1, k.symm⟩))
  have Dt' : ∀ {a c}, rmx m a → aj σ a c → Dt σ m (a, c) := fun h k => ⟨h.1, h.2, k⟩
  refine ⟨fun r h => h.1, fun r v hr hv => ?_, fun r v hr hv => (P.bn r v hr.1 hr.2 hv).2.1, fun r v w hr hv hw e => ?_, fun r S hr => bn_tv P.w P.bn hr S, fun y => ⟨(P.wa _).1, (P.wa _).2, rfl⟩, fun y => ?_, fun y z y1 yz zL => ?_, fun a c ha hc no => ?_, ?_, fun i i4 => ?_, fun a c e ha hc he hce => ?_, fun a c i i4 h1 h2 hac => ?_, fun a i i4 h1 h2 => ?_, fun S hS cl => ?_⟩
  · have := P.w.ed hr hv
    exact ⟨this.1, this.2.1, this.2.2.1⟩
  · have n1 := P.bn r v hr.1 hr.2 hv
    have n2 := P.bn r w hr.1 hr.2 hw
    rw [← e] at n2
    exact nxt_inj (P.w.1.gdd P.w.2.1 hr.1 hr.2) n1 n2
  · show wo B s t (p 0 + (y + L)) = wo B s t (p 0 + y)
    rw [← Nat.add_assoc, P.wp]
  · exact P.wd (show p 0 + y < p 0 + z by omega) (by omega)
  · obtain ⟨g, hg, lg⟩ := P.lbg (Dt' ha hc) no
    obtain ⟨e, e9, x1, x2, x3, x4, x5, x6, x7, x8, x9, x10, x11⟩ := P.trx (Dt' ha hc) hg lg
    rw [x4]
    exact ⟨x5, x6, P.ng x7 hg x9, P.ng x8 hg x10⟩
  · have e0 : bo4 L p 0 = 0 := rfl
    have e1 : bo4 L p 1 = frm L p 1 := rfl
    have e2 : bo4 L p 2 = frm L p 2 := rfl
    have e3 : bo4 L p 3 = frm L p 3 := rfl
    have f0 : frm L p 0 = 0 := rfl
    have f3 := frm_le (p := p) (show 1 ≤ L by omega) 3
    rw [e0, e1, e2, e3, e12]
    exact ⟨rfl, Nat.zero_le _, lp.2.1, lp.2.2.1, f3, rfl, l3⟩
  · have h := lay i i4
    have := stL P.pl i4
    rw [← P.tb i4, ← P.fb i4]; omega
  · -- three rooms
    have c9 := hc.1
    have e9 := he.1
    have rc := (P.w.ed ha hc).1
    have re := (P.w.ed ha he).1
    have k1 : (K a).testBit c = true := (P.kn (by have := ha.1; omega)).mpr (Or.inl ⟨ha, hc⟩)
    have k2 : (K a).testBit e = true := (P.kn (by have := ha.1; omega)).mpr (Or.inl ⟨ha, he⟩)
    have k3 : (K c).testBit e = true := (P.kn (by omega)).mpr (Or.inl ⟨rc, hce⟩)
    have a9 := ha.1
    rcases P.no3 (by omega) (by omega) (by omega) (P.w.ed ha hc).2.1 (P.w.ed ha he).2.1 (P.w.ed rc hce).2.1 sy k1 k2 k3 with ⟨g, hg, eg⟩ | ⟨i, i4, h⟩
    · have bits : ∀ r, (Mk g).testBit r = true ↔ a = r ∨ c = r ∨ e = r := fun r => by rw [eg]; exact b3_t
      obtain ⟨x, dx, lx⟩ := ((P.mk g hg).2 a a9).mp ((bits a).mpr (Or.inl rfl))
      obtain ⟨w, w9, x1, x2, x3, x4, x5, x6, x7, x8, x9, x10, x11⟩ := P.trx dx hg lx
      have bx := (x11 x dx.2.2.1).mpr (Or.inr (Or.inl rfl))
      have bw := (x11 w w9).mpr (Or.inr (Or.inr rfl))
      rw [bits] at bx bw
      have no := P.ng x8 hg x10
      rcases bw with z | z | z
      · exact absurd z.symm x2
      · left
        subst z
        refine ⟨?_, no⟩
        rw [x6]
        rcases bx with y | y | y
        · exact absurd y x1
        · exact absurd y x3
        · exact y.symm
      · right
        subst z
        refine ⟨?_, no⟩
        rw [x6]
        rcases bx with y | y | y
        · exact absurd y x1
        · exact y.symm
        · exact absurd y x3
    · exfalso
      rcases h with ⟨y, _, _, h⟩ | h
      · have := (b3_of h (9 + i)).mpr (Or.inl rfl); omega
      · have := (b3_of h (9 + i)).mpr (Or.inl rfl); omega
  · -- a side and two rooms
    have ra : rmx m a := by obtain ⟨y, _, _, e⟩ := h1; rw [← e]; exact (P.wa _).1
    have rc := (P.w.ed ra hac).1
    have a9 := ra.1
    have c9 := rc.1
    have k1 : (K a).testBit c = true := (P.kn (by omega)).mpr (Or.inl ⟨ra, hac⟩)
    have k2 : (K a).testBit (9 + i) = true := (P.kn (by omega)).mpr (Or.inr (Or.inl ⟨i, i4, rfl, h1⟩))
    have k3 : (K c).testBit (9 + i) = true := (P.kn (by omega)).mpr (Or.inr (Or.inl ⟨i, i4, rfl, h2⟩))
    have ne := (P.w.ed ra hac).2.1
    rcases P.no3 (by omega) (by omega) (show 9 + i < 13 by omega) ne (by omega) (by omega) sy k1 k2 k3 with ⟨g, hg, eg⟩ | ⟨j, j4, ⟨y, y1, y2, h⟩ | h⟩
    · exfalso
      have : (Mk g).testBit (9 + i) = true := by rw [eg]; exact b3_t.mpr (Or.inr (Or.inr rfl))
      rw [tb_lt (k := 9) (P.mk g hg).1 (by omega)] at this
      exact absurd this (by decide)
    · have qy := q9 y
      have qz := q9 (y + 1)
      have f1 : wo B s t ((p 0 + y) % L) = qo B s t p y := P.wm _
      have f2 : wo B s t ((p 0 + (y + 1)) % L) = qo B s t p (y + 1) := P.wm _
      rw [f1, f2] at h
      have ij : i = j := by
        have := (b3_of h (9 + i)).mp (Or.inr (Or.inr rfl)); omega
      subst ij
      refine ⟨y, by rw [← P.fb i4]; exact y1, by rw [← P.tb i4]; exact y2, ?_⟩
      have b1 := (b3_of h a).mp (Or.inl rfl)
      have b2 := (b3_of h c).mp (Or.inr (Or.inl rfl))
      rcases b1 with b1 | b1 | b1
      · omega
      · rcases b2 with b2 | b2 | b2
        · omega
        · exact absurd (b1.symm.trans b2) ne
        · exact Or.inl ⟨b1.symm, b2.symm⟩
      · rcases b2 with b2 | b2 | b2
        · omega
        · exact Or.inr ⟨b2.symm, b1.symm⟩
        · exact absurd (b1.symm.trans b2) ne
    · exfalso
      have b1 := (b3_of h (9 + j)).mpr (Or.inl rfl)
      have b2 := (b3_of h (9 + (j + 1) % 4)).mpr (Or.inr (Or.inl rfl))
      omega
  · -- two sides and a room
    have ra : rmx m a := by obtain ⟨y, _, _, e⟩ := h1; rw [← e]; exact (P.wa _).1
    have a9 := ra.1
    have i4' : (i + 1) % 4 < 4 := Nat.mod_lt _ (by decide)
    have k1 : (K a).testBit (9 + i) = true := (P.kn (by omega)).mpr (Or.inr (Or.inl ⟨i, i4, rfl, h1⟩))
    have k2 : (K a).testBit (9 + (i + 1) % 4) = true := (P.kn (by omega)).mpr (Or.inr (Or.inl ⟨_, i4', rfl, h2⟩))
    have k3 : (K (9 + i)).testBit (9 + (i + 1) % 4) = true := (P.kn (by omega)).mpr (Or.inr (Or.inr (Or.inr ⟨i, _, i4, i4', rfl, rfl, Or.inl rfl⟩)))
    rcases P.no3 (show a < 13 by omega) (show 9 + i < 13 by omega) (show 9 + (i + 1) % 4 < 13 by omega) (by omega) (by omega) (by omega) sy k1 k2 k3 with ⟨g, hg, eg⟩ | ⟨j, j4, ⟨y, y1, y2, h⟩ | h⟩
    · exfalso
      have : (Mk g).testBit (9 + i) = true := by rw [eg]; exact b3_t.mpr (Or.inr (Or.inl rfl))
      rw [tb_lt (k := 9) (P.mk g hg).1 (by omega)] at this
      exact absurd this (by decide)
    · exfalso
      have qy := q9 y
      have qz := q9 (y + 1)
      have f1 : wo B s t ((p 0 + y) % L) = qo B s t p y := P.wm _
      have f2 : wo B s t ((p 0 + (y + 1)) % L) = qo B s t p (y + 1) := P.wm _
      rw [f1, f2] at h
      have b1 := (b3_of h (9 + i)).mp (Or.inr (Or.inl rfl))
      have b2 := (b3_of h (9 + (i + 1) % 4)).mp (Or.inr (Or.inr rfl))
      omega
    · have f1 : wo B s t ((p 0 + tom L p j) % L) = qo B s t p (tom L p j) := P.wm _
      have qt := q9 (tom L p j)
      rw [f1] at h
      have b1 := (b3_of h (9 + i)).mp (Or.inr (Or.inl rfl))
      have b2 := (b3_of h (9 + (i + 1) % 4)).mp (Or.inr (Or.inr rfl))
      have b3 := (b3_of h a).mp (Or.inl rfl)
      have ij : i = j := by omega
      subst ij
      rw [← P.tb i4]
      rcases b3 with z | z | z
      · omega
      · omega
      · exact z.symm
  · obtain ⟨r, hr, sr⟩ := hS
    exact fun r' hr' => P.cn S ⟨r, hr.1, hr.2, sr⟩ (fun i j hi hm si hij => cl i j ⟨hi, hm⟩ si hij) r' hr'.1 hr'.2
end PLS

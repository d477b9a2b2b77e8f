section
-- in a layout no room lies to the left of itself
noncomputable def kp (σ : mm_S) (C : Nat → Nat → Prop) (r v : Nat) : Bool := if v < 9 then kap σ C (r, v) else false
/-- around a room the nodes stand at its four sides, one side after the other -/
def RND (σ : mm_S) (m : Nat) (sd : Nat → Nat → Nat) (r : Nat) : Prop := ∃ (w T : Nat → Nat) (dg : Nat), (∀ k, k < dg → (w k < 9 ∧ aj σ r (w k)) ∨ (9 ≤ w k ∧ w k < 13)) ∧ (∀ v, aj σ r v → ∃ k, k < dg ∧ w k = v) ∧ (∀ k l, k < l → l < dg → w k ≠ w l) ∧ (∀ k, k < dg → sd r (w k) = T k ∧ T k < 4) ∧ (∀ k, k + 1 < dg → T k ≤ T (k + 1)) ∧ (∀ q, q < 4 → ∃ k, k < dg ∧ T k = q) ∧ (∀ C, CE σ m C → ∀ k, k + 1 < dg → kp σ C r (w (k + 1)) = xor (kp σ C r (w k)) (bo (w k < 9 ∧ C r (w k))))
def LYT (σ : mm_S) (m : Nat) (sd : Nat → Nat → Nat) : Prop := (∀ r w, rmx m r → aj σ r w → sd r w < 4 ∧ sd w r = (sd r w + 2) % 4) ∧ ∀ r, rmx m r → RND σ m sd r
/-- a way of rooms that comes back, always to the same side -/
def QC (σ : mm_S) (m : Nat) (sd : Nat → Nat → Nat) (q K : Nat) (c : Nat → Nat) : Prop := 1 ≤ K ∧ q < 4 ∧ c K = c 0 ∧ (∀ i, i < K → rmx m (c i) ∧ aj σ (c i) (c (i + 1)) ∧ sd (c i) (c (i + 1)) = q) ∧ ∀ i j, i < j → j < K → c i ≠ c j
def ce (K : Nat) (c : Nat → Nat) (a b : Nat) : Prop := ∃ i, i < K ∧ ((a = c i ∧ b = c (i + 1)) ∨ (b = c i ∧ a = c (i + 1)))
theorem ce_2 {σ : mm_S} {n m q K : Nat} {sd : Nat → Nat → Nat} {c : Nat → Nat} (W : PW σ n m) (Y : LYT σ m sd) (Q : QC σ m sd q K c) : ∀ a b, ce K c a b → rmx m a ∧ aj σ a b ∧ (sd a b = q ∨ sd a b = (q + 2) % 4) := fun a b ⟨i, hi, h⟩ => by
  obtain ⟨h1, h2, h3⟩ := Q.2.2.2.1 i hi
  obtain ⟨hb, _, hba, _⟩ := W.ed h1 h2
  rcases h with ⟨rfl, rfl⟩ | ⟨rfl, rfl⟩
  · exact ⟨h1, h2, Or.inl h3⟩
  · exact ⟨hb, hba, Or.inr (by rw [(Y.1 _ _ h1 h2).2, h3])⟩
/-- each room of the way has one behind it and one before it -/
theorem ce_at {σ : mm_S} {n m q K : Nat} {sd : Nat → Nat → Nat} {c : Nat → Nat} (W : PW σ n m) (Y : LYT σ m sd) (Q : QC σ m sd q K c) {i : Nat} (hi : i < K) : ∃ p, p < K ∧ c (p + 1) = c i ∧ ∀ b, ce K c (c i) b ↔ b = c (i + 1) ∨ b = c p := by
  obtain ⟨K1, q4, cl, ed, dis⟩ := Q
  have uq : ∀ j, j < K → c j = c i → j = i := fun j hj e => by
    rcases Nat.lt_trichotomy j i with h | h | h
    · exact absurd e (dis j i h hi)
    · exact h
    · exact absurd e.symm (dis i j h hj)
  have uq1 : ∀ p j, p < K → j < K → c (p + 1) = c i → c (j + 1) = c i → p = j := fun p j hp hj e1 e2 => by
    have f : ∀ p, p < K → c (p + 1) = c i → (p + 1 < K ∧ p + 1 = i) ∨ (p + 1 = K ∧ i = 0) := fun p hp e => by
      rcases Nat.lt_or_ge (p + 1) K with h | h
      · exact Or.inl ⟨h, uq _ h e⟩
      · have hK : p + 1 = K := by omega
        rw [hK, cl] at e
        exact Or.inr ⟨hK, (uq 0 (by omega) e).symm⟩
    have x := f p hp e1
    have y := f j hj e2
    omega
  obtain ⟨p, hp, ep⟩ : ∃ p, p < K ∧ c (p + 1) = c i := by
    rcases Nat.eq_zero_or_pos i with h | h
    · subst h; exact ⟨K - 1, by omega, by rw [show K - 1 + 1 = K by omega]; exact cl⟩
    · exact ⟨i - 1, by omega, by rw [show i - 1 + 1 = i by omega]⟩
  refine ⟨p, hp, ep, fun b => ⟨?_, ?_⟩⟩
  · rintro ⟨j, hj, ⟨e1, e2⟩ | ⟨e1, e2⟩⟩
    · have := uq j hj e1.symm
      subst this
      exact Or.inl e2
    · have := uq1 p j hp hj ep e2.symm
      subst this
      exact Or.inr e1
  · rintro (h | h)
    · exact ⟨i, hi, Or.inl ⟨rfl, h⟩⟩
    · exact ⟨p, hp, Or.inr ⟨h, ep.symm⟩⟩
theorem ce_CE {σ : mm_S} {n m q K : Nat} {sd : Nat → Nat → Nat} {c : Nat → Nat} (W : PW σ n m) (Y : LYT σ m sd) (Q : QC σ m sd q K c) : CE σ m (ce K c) := by
  refine ⟨fun a b ⟨i, hi, h⟩ => ⟨i, hi, h.symm.imp (fun x => ⟨x.1, x.2⟩) (fun x => ⟨x.1, x.2⟩)⟩, fun a b h => ⟨(ce_2 W Y Q a b h).1, (ce_2 W Y Q a b h).2.1⟩, fun z _ => ?_⟩
  by_cases hz : ∃ i, i < K ∧ z = c i
  · obtain ⟨i, hi, e⟩ := hz
    subst e
    obtain ⟨p, hp, ep, iff⟩ := ce_at W Y Q hi
    obtain ⟨h1, h2, h3⟩ := Q.2.2.2.1 i hi
    obtain ⟨g1, g2, g3⟩ := Q.2.2.2.1 p hp
    rw [ep] at g2 g3
    have q4 := Q.2.1
    have back := (Y.1 _ _ g1 g2).2
    rw [g3] at back
    have ne : c (i + 1) ≠ c p := fun e => by
      rw [← e] at back
      omega
    have n9 := h2.1
    have p9 := g1.1
    rw [xf_cg 9 (g := fun j => xor (bo (j = c (i + 1))) (bo (j = c p))) (fun j _ => by
      rw [bo_cg (iff j)]
      by_cases x : j = c (i + 1)
      · rw [bo_t.mpr (Or.inl x), bo_t.mpr x, bo_f.mpr (fun y => ne (x.symm.trans y))]; rfl
      · by_cases y : j = c p
        · rw [bo_t.mpr (Or.inr y), bo_f.mpr x, bo_t.mpr y]; rfl
        · rw [bo_f.mpr (fun h => h.elim x y), bo_f.mpr x, bo_f.mpr y]; rfl), xf_x, xf_1 (i := c (i + 1)) 9 n9 (fun j _ h => bo_f.mpr h), xf_1 (i := c p) 9 p9 (fun j _ h => bo_f.mpr h), bo_t.mpr rfl, bo_t.mpr rfl]; rfl
  · refine xf_0 9 (fun j _ => bo_f.mpr (fun ⟨i, hi, h⟩ => ?_))
    rcases h with h | h
    · exact hz ⟨i, hi, h.1⟩
    · rcases Nat.lt_or_ge (i + 1) K with k | k
      · exact hz ⟨i + 1, k, h.2⟩
      · exact hz ⟨0, by have := Q.1; omega, by rw [h.2, show i + 1 = K by omega]; exact Q.2.2.1⟩
/-- away from the line all is of one colour -/
theorem kp_of {σ : mm_S} {m r : Nat} {sd : Nat → Nat → Nat} {D : Nat → Nat → Prop} (R : RND σ m sd r) (H : CE σ m D) (off : ∀ b, ¬ D r b) : ∃ x, (∀ v, aj σ r v → kap σ D (r, v) = x) ∧ ∀ q, q < 4 → ∃ v, sd r v = q ∧ ((v < 9 ∧ aj σ r v ∧ kap σ D (r, v) = x) ∨ (9 ≤ v ∧ x = false)) := by
  obtain ⟨w, T, dg, a1, a2, a3, a4, a5, a6, a7⟩ := R
  have c : ∀ k, k < dg → kp σ D r (w k) = kp σ D r (w 0) := by
    intro k
    induction k with
    | zero => intro _; rfl
    | succ k ih =>
      intro hk
      rw [a7 D H k hk, bo_f.mpr (fun z => off _ z.2), ih (by omega)]
      cases kp σ D r (w 0) <;> rfl
  refine ⟨kp σ D r (w 0), fun v hv => ?_, fun q hq => ?_⟩
  · obtain ⟨k, hk, e⟩ := a2 v hv
    have := c k hk
    unfold kp at this ⊢
    rw [e, if_pos hv.1] at this
    exact this
  · obtain ⟨k, hk, e⟩ := a6 q hq
    have ck := c k hk
    refine ⟨w k, (a4 k hk).1.trans e, ?_⟩
    rcases a1 k hk with ⟨h1, h2⟩ | ⟨h1, _⟩
    · refine Or.inl ⟨h1, h2, ?_⟩
      rw [← ck]; unfold kp; rw [if_pos h1]
    · refine Or.inr ⟨h1, ?_⟩
      rw [← ck]; unfold kp; rw [if_neg (by omega)]
/-- on the line: the next side clockwise has the other colour, the one before has the same -/
theorem kp_on {σ : mm_S} {m r q ou ib : Nat} {sd : Nat → Nat → Nat} {D : Nat → Nat → Prop} (R : RND σ m sd r) (H : CE σ m D) (q4 : q < 4) (hD : ∀ b, D r b ↔ b = ou ∨ b = ib) (ao : aj σ r ou) (ai : aj σ r ib) (so : sd r ou = q) (si : sd r ib = (q + 2) % 4) :
    (∀ v, aj σ r v → (sd r v = (q + 1) % 4 → kap σ D (r, v) = !kap σ D (r, ou)) ∧ (sd r v = (q + 3) % 4 → kap σ D (r, v) = kap σ D (r, ou))) ∧ (∃ v, sd r v = (q + 1) % 4 ∧ ((v < 9 ∧ aj σ r v) ∨ (9 ≤ v ∧ (!kap σ D (r, ou)) = false))) ∧ (∃ v, sd r v = (q + 3) % 4 ∧ ((v < 9 ∧ aj σ r v) ∨ (9 ≤ v ∧ kap σ D (r, ou) = false))) ∧ kap σ D (r, ib) = !kap σ D (r, ou) := by
  obtain ⟨w, T, dg, a1, a2, a3, a4, a5, a6, a7⟩ := R
  obtain ⟨a, ha, ea⟩ := a2 ou ao
  obtain ⟨b, hb, eb⟩ := a2 ib ai
  have Ta : T a = q := by rw [← (a4 a ha).1, ea]; exact so
  have Tb : T b = (q + 2) % 4 := by rw [← (a4 b hb).1, eb]; exact si
  have uq : ∀ k l, k < dg → l < dg → w k = w l → k = l := fun k l hk hl e => by
    rcases Nat.lt_trichotomy k l with h | h | h
    · exact absurd e (a3 k l h hl)
    · exact h
    · exact absurd e.symm (a3 l k h hk)
  have mono : ∀ d k, k + d < dg → T k ≤ T (k + d) := by
    intro d
    induction d with
    | zero => intro k _; exact Nat.le_refl _
    | succ d ih =>
      intro k hk
      exact Nat.le_trans (ih k (by omega)) (a5 (k + d) hk)
  have lt : ∀ k l, k < dg → l < dg → T k < T l → k < l := fun k l hk hl h => by
    rcases Nat.lt_or_ge k l with y | y
    · exact y
    · have := mono (k - l) l (by omega)
      rw [show l + (k - l) = k by omega] at this
      omega
  have st : ∀ k, k + 1 < dg → kp σ D r (w (k + 1)) = xor (kp σ D r (w k)) (bo (k = a ∨ k = b)) := fun k hk => by
    rw [a7 D H k hk]
    congr 1
    apply bo_cg
    constructor
    · rintro ⟨_, h⟩
      rcases (hD _).mp h with h | h
      · exact Or.inl (uq k a (by omega) ha (h.trans ea.symm))
      · exact Or.inr (uq k b (by omega) hb (h.trans eb.symm))
    · rintro (h | h)
      · subst h; rw [ea]; exact ⟨ao.1, (hD _).mpr (Or.inl rfl)⟩
      · subst h; rw [eb]; exact ⟨ai.1, (hD _).mpr (Or.inr rfl)⟩
  have seg : ∀ d k, k + d < dg → (∀ j, k ≤ j → j < k + d → j ≠ a ∧ j ≠ b) → kp σ D r (w (k + d)) = kp σ D r (w k) := by
    intro d
    induction d with
    | zero => intro k _ _; rfl
    | succ d ih =>
      intro k hk hj
      have h0 := hj (k + d) (by omega) (by omega)
      show kp σ D r (w (k + d + 1)) = _
      rw [st (k + d) hk, bo_f.mpr (fun z => z.elim h0.1 h0.2), ih k (by omega) (fun j h1 h2 => hj j h1 (by omega))]
      cases kp σ D r (w k) <;> rfl
  have sg : ∀ k l, k ≤ l → l < dg → (∀ j, k ≤ j → j < l → j ≠ a ∧ j ≠ b) → kp σ D r (w l) = kp σ D r (w k) := fun k l hkl hl hj => by
    have := seg (l - k) k (by omega) (fun j h1 h2 => hj j h1 (by omega))
    rw [show k + (l - k) = l by omega] at this
    exact this
  have fl : ∀ k, k + 1 < dg → (k = a ∨ k = b) → kp σ D r (w (k + 1)) = !kp σ D r (w k) := fun k hk h => by
    rw [st k hk, bo_t.mpr h]
    cases kp σ D r (w k) <;> rfl
  have ka : kp σ D r (w a) = kap σ D (r, ou) := by unfold kp; rw [ea, if_pos ao.1]
  -- the colours by places
  have one : ∀ k, k < dg → T k = (q + 1) % 4 → kp σ D r (w k) = !kp σ D r (w a) := fun k hk hT => by
    rcases (show q = 0 ∨ q = 1 ∨ q = 2 ∨ q = 3 by omega) with e | e | e | e
    · subst e
      have h1 := lt a k ha hk (by omega)
      have h2 := lt k b hk hb (by omega)
      rw [sg (a + 1) k (by omega) hk (fun j x y => ⟨by omega, by omega⟩)]
      exact fl a (by omega) (Or.inl rfl)
    · subst e
      have h1 := lt a k ha hk (by omega)
      have h2 := lt k b hk hb (by omega)
      rw [sg (a + 1) k (by omega) hk (fun j x y => ⟨by omega, by omega⟩)]
      exact fl a (by omega) (Or.inl rfl)
    · subst e
      have h1 := lt a k ha hk (by omega)
      have h2 := lt b a hb ha (by omega)
      rw [sg (a + 1) k (by omega) hk (fun j x y => ⟨by omega, by omega⟩)]
      exact fl a (by omega) (Or.inl rfl)
    · subst e
      have h1 := lt k b hk hb (by omega)
      have h2 := lt b a hb ha (by omega)
      have e1 := sg k b (by omega) hb (fun j x y => ⟨by omega, by omega⟩)
      have e2 := fl b (by omega) (Or.inr rfl)
      have e3 := sg (b + 1) a (by omega) ha (fun j x y => ⟨by omega, by omega⟩)
      rw [e3, e2, e1]
      cases kp σ D r (w k) <;> rfl
  have two : ∀ k, k < dg → T k = (q + 3) % 4 → kp σ D r (w k) = kp σ D r (w a) := fun k hk hT => by
    rcases (show q = 0 ∨ q = 1 ∨ q = 2 ∨ q = 3 by omega) with e | e | e | e
    · subst e
      have h1 := lt b k hb hk (by omega)
      have h2 := lt a b ha hb (by omega)
      have e1 := sg (b + 1) k (by omega) hk (fun j x y => ⟨by omega, by omega⟩)
      have e2 := fl b (by omega) (Or.inr rfl)
      have e3 := sg (a + 1) b (by omega) hb (fun j x y => ⟨by omega, by omega⟩)
      have e4 := fl a (by omega) (Or.inl rfl)
      rw [e1, e2, e3, e4]
      cases kp σ D r (w a) <;> rfl
    · subst e
      have h1 := lt k a hk ha (by omega)
      have h2 := lt a b ha hb (by omega)
      exact (sg k a (by omega) ha (fun j x y => ⟨by omega, by omega⟩)).symm
    · subst e
      have h1 := lt b k hb hk (by omega)
      have h2 := lt k a hk ha (by omega)
      exact (sg k a (by omega) ha (fun j x y => ⟨by omega, by omega⟩)).symm
    · subst e
      have h1 := lt b k hb hk (by omega)
      have h2 := lt k a hk ha (by omega)
      exact (sg k a (by omega) ha (fun j x y => ⟨by omega, by omega⟩)).symm
  have atv : ∀ v, aj σ r v → ∃ k, k < dg ∧ w k = v ∧ T k = sd r v ∧ kp σ D r (w k) = kap σ D (r, v) := fun v hv => by
    obtain ⟨k, hk, e⟩ := a2 v hv
    exact ⟨k, hk, e, by rw [← (a4 k hk).1, e], by unfold kp; rw [e, if_pos hv.1]⟩
  have kb : kp σ D r (w b) = !kp σ D r (w a) := by
    rcases (show q < 2 ∨ 2 ≤ q by omega) with e | e
    · have h := lt a b ha hb (by omega)
      rw [sg (a + 1) b (by omega) hb (fun j x y => ⟨by omega, by omega⟩)]
      exact fl a (by omega) (Or.inl rfl)
    · have h := lt b a hb ha (by omega)
      rw [sg (b + 1) a (by omega) ha (fun j x y => ⟨by omega, by omega⟩), fl b (by omega) (Or.inr rfl)]
      cases kp σ D r (w b) <;> rfl
  refine ⟨fun v hv => ⟨fun h => ?_, fun h => ?_⟩, ?_, ?_, by rw [← ka, ← kb]; unfold kp; rw [eb, if_pos ai.1]⟩
  · obtain ⟨k, hk, e, hT, hk'⟩ := atv v hv
    rw [← hk', ← ka]; exact one k hk (hT.trans h)
  · obtain ⟨k, hk, e, hT, hk'⟩ := atv v hv
    rw [← hk', ← ka]; exact two k hk (hT.trans h)
  · obtain ⟨k, hk, e⟩ := a6 ((q + 1) % 4) (by omega)
    refine ⟨w k, (a4 k hk).1.trans e, ?_⟩
    rcases a1 k hk with h | h
    · exact Or.inl h
    · refine Or.inr ⟨h.1, ?_⟩
      have := one k hk e
      rw [ka] at this
      rw [← this]; unfold kp; rw [if_neg (by omega)]
  · obtain ⟨k, hk, e⟩ := a6 ((q + 3) % 4) (by omega)
    refine ⟨w k, (a4 k hk).1.trans e, ?_⟩
    rcases a1 k hk with h | h
    · exact Or.inl h
    · refine Or.inr ⟨h.1, ?_⟩
      have := two k hk e
      rw [ka] at this
      rw [← this]; unfold kp; rw [if_neg (by omega)]
/-! counting -/
def cbn (f : Nat → Bool) : Nat → Nat
  | 0 => 0
  | n + 1 => cbn f n + if f n = true then 1 else 0
theorem cbn_le {f g : Nat → Bool} : ∀ n, (∀ i, i < n → f i = true → g i = true) → cbn f n ≤ cbn g n
  | 0, _ => Nat.le_refl _
  | n + 1, h => by
    have ih := cbn_le n (fun i hi => h i (by omega))
    have hn := h n (by omega)
    show cbn f n + (if f n = true then 1 else 0) ≤ cbn g n + (if g n = true then 1 else 0)
    by_cases x : f n = true
    · rw [if_pos x, if_pos (hn x)]; omega
    · rw [if_neg x]; omega
theorem cbn_lt {f g : Nat → Bool} : ∀ n, (∀ i, i < n → f i = true → g i = true) → (∃ i, i < n ∧ g i = true ∧ f i = false) → cbn f n < cbn g n
  | 0, _, ⟨i, hi, _⟩ => absurd hi (Nat.not_lt_zero i)
  | n + 1, h, ⟨i, hi, g1, f1⟩ => by
    have hn := h n (by omega)
    show cbn f n + (if f n = true then 1 else 0) < cbn g n + (if g n = true then 1 else 0)
    by_cases e : i = n
    · subst e
      have ih := cbn_le i (fun j hj => h j (by omega))
      rw [if_neg (by rw [f1]; decide), if_pos g1]; omega
    · have ih := cbn_lt n (fun j hj => h j (by omega)) ⟨i, by omega, g1, f1⟩
      by_cases x : f n = true
      · rw [if_pos x, if_pos (hn x)]; omega
      · rw [if_neg x]; omega
noncomputable def msr (σ : mm_S) (m : Nat) (C : Nat → Nat → Prop) : Nat := cbn (fun p => kap σ C (p / 9, p % 9) && bo (Dt σ m (p / 9, p % 9))) 81
theorem msr_lt {σ : mm_S} {m : Nat} {C D : Nat → Nat → Prop} (h : ∀ x, Dt σ m x → kap σ D x = true → kap σ C x = true) {x : Nat × Nat} (hx : Dt σ m x) (h1 : kap σ C x = true) (h2 : kap σ D x = false) : msr σ m D < msr σ m C := by
  have x1 := hx.1
  have x2 := hx.2.2.1
  have e1 : (9 * x.1 + x.2) / 9 = x.1 := by omega
  have e2 : (9 * x.1 + x.2) % 9 = x.2 := by omega
  refine cbn_lt 81 (fun i _ hi => ?_) ⟨9 * x.1 + x.2, by omega, ?_, ?_⟩
  · rw [Bool.and_eq_true] at hi ⊢
    exact ⟨h _ (bo_t.mp hi.2) hi.1, hi.2⟩
  · show (kap σ C ((9 * x.1 + x.2) / 9, (9 * x.1 + x.2) % 9) && bo (Dt σ m ((9 * x.1 + x.2) / 9, (9 * x.1 + x.2) % 9))) = true
    rw [e1, e2, Bool.and_eq_true]; exact ⟨h1, bo_t.mpr hx⟩
  · show (kap σ D ((9 * x.1 + x.2) / 9, (9 * x.1 + x.2) % 9) && bo (Dt σ m ((9 * x.1 + x.2) / 9, (9 * x.1 + x.2) % 9))) = false
    rw [e1, e2]
    have : kap σ D (x.1, x.2) = false := h2
    rw [this]; rfl
end
section
-- no way of rooms comes back, always to the same side
theorem q_step {σ : mm_S} {n m s t q K : Nat} {sd : Nat → Nat → Nat} {c : Nat → Nat} (W : PW σ n m) (Z : Cn σ m) (hs : wms σ m 9 s) (ht : nms σ s 9 t) (Y : LYT σ m sd) (Q : QC σ m sd q K c) : ∃ q' K' c', QC σ m sd q' K' c' ∧ msr σ m (ce K' c') < msr σ m (ce K c) := by
  have H := ce_CE W Y Q
  obtain ⟨K1, q4, cl, ed, dis⟩ := id Q
  have onc : ∀ r b, ce K c r b → ∃ i, i < K ∧ r = c i := fun r b ⟨i, hi, h⟩ => by
    rcases h with h | h
    · exact ⟨i, hi, h.1⟩
    · rcases Nat.lt_or_ge (i + 1) K with k | k
      · exact ⟨i + 1, k, h.2⟩
      · exact ⟨0, by omega, by rw [h.2, show i + 1 = K by omega]; exact cl⟩
  -- the line's own colours
  have at' : ∀ i, i < K → ∃ p, p < K ∧ c (p + 1) = c i ∧ (∀ b, ce K c (c i) b ↔ b = c (i + 1) ∨ b = c p) ∧ aj σ (c i) (c p) ∧ sd (c i) (c p) = (q + 2) % 4 := fun i hi => by
    obtain ⟨p, hp, ep, iff⟩ := ce_at W Y Q hi
    obtain ⟨g1, g2, g3⟩ := ed p hp
    rw [ep] at g2 g3
    exact ⟨p, hp, ep, iff, (W.ed g1 g2).2.2.1, by rw [(Y.1 _ _ g1 g2).2, g3]⟩
  have nx : ∀ i, i < K → kap σ (ce K c) (c (i + 1), c (i + 2)) = kap σ (ce K c) (c i, c (i + 1)) ∨ i + 1 = K := fun i hi => by
    rcases Nat.lt_or_ge (i + 1) K with k | k
    · refine Or.inl ?_
      obtain ⟨p, hp, ep, iff, a1, a2⟩ := at' (i + 1) k
      have pi : p = i := by
        rcases Nat.lt_or_ge (p + 1) K with y | y
        · rcases Nat.lt_trichotomy (p + 1) (i + 1) with z | z | z
          · exact absurd ep (dis _ _ z k)
          · omega
          · exact absurd ep.symm (dis _ _ z y)
        · exfalso
          rw [show p + 1 = K by omega, cl] at ep
          exact dis 0 (i + 1) (by omega) k ep
      subst pi
      obtain ⟨e1, e2, e3⟩ := ed (p + 1) k
      have on := (kp_on (Y.2 _ e1) H q4 iff e2 a1 e3 a2).2.2.2
      have op := kap_op W H (ed p hi).1 (ed p hi).2.1
      rw [bo_t.mpr ⟨p, hi, Or.inl ⟨rfl, rfl⟩⟩] at op
      rw [op] at on
      cases hk : kap σ (ce K c) (c p, c (p + 1)) <;> cases hk' : kap σ (ce K c) (c (p + 1), c (p + 1 + 1)) <;> rw [hk, hk'] at on <;> first | rfl | exact absurd on (by decide) | exact hk'
    · exact Or.inr (by omega)
  obtain ⟨lam, hl⟩ : ∃ l, kap σ (ce K c) (c 0, c 1) = l := ⟨_, rfl⟩
  have lamc : ∀ i, i < K → kap σ (ce K c) (c i, c (i + 1)) = lam := by
    intro i
    induction i with
    | zero => intro _; exact hl
    | succ i ih =>
      intro hi
      rcases nx i (by omega) with h | h
      · rw [h]; exact ih (by omega)
      · omega
  -- the side that lies inside
  obtain ⟨q', q'4, in1, in2, in3, qd⟩ : ∃ q', q' < 4 ∧ (∀ i, i < K → ∀ v, aj σ (c i) v → sd (c i) v = q' → kap σ (ce K c) (c i, v) = true) ∧ (∀ i, i < K → ∀ v, aj σ (c i) v → sd (c i) v = (q' + 2) % 4 → kap σ (ce K c) (c i, v) = false) ∧ (∃ v, aj σ (c 0) v ∧ sd (c 0) v = q') ∧ (q' ≠ q ∧ q' ≠ (q + 2) % 4) := by
    have on : ∀ i, i < K → (∀ v, aj σ (c i) v → (sd (c i) v = (q + 1) % 4 → kap σ (ce K c) (c i, v) = !kap σ (ce K c) (c i, c (i + 1))) ∧ (sd (c i) v = (q + 3) % 4 → kap σ (ce K c) (c i, v) = kap σ (ce K c) (c i, c (i + 1)))) ∧ (∃ v, sd (c i) v = (q + 1) % 4 ∧ ((v < 9 ∧ aj σ (c i) v) ∨ (9 ≤ v ∧ (!kap σ (ce K c) (c i, c (i + 1))) = false))) ∧ (∃ v, sd (c i) v = (q + 3) % 4 ∧ ((v < 9 ∧ aj σ (c i) v) ∨ (9 ≤ v ∧ kap σ (ce K c) (c i, c (i + 1)) = false))) ∧ True := fun i hi => by
      obtain ⟨p, hp, ep, iff, a1, a2⟩ := at' i hi
      obtain ⟨e1, e2, e3⟩ := ed i hi
      have := kp_on (Y.2 _ e1) H q4 iff e2 a1 e3 a2
      exact ⟨this.1, this.2.1, this.2.2.1, trivial⟩
    cases hlam : lam with
    | false =>
      refine ⟨(q + 1) % 4, by omega, fun i hi v hv h => ?_, fun i hi v hv h => ?_, ?_, by omega⟩
      · rw [((on i hi).1 v hv).1 h, lamc i hi, hlam]; rfl
      · rw [((on i hi).1 v hv).2 (by rw [h]; omega), lamc i hi, hlam]
      · obtain ⟨v, h1, h2⟩ := (on 0 (by omega)).2.1
        rcases h2 with h2 | ⟨_, h2⟩
        · exact ⟨v, h2.2, h1⟩
        · rw [lamc 0 (by omega), hlam] at h2; exact absurd h2 (by decide)
    | true =>
      refine ⟨(q + 3) % 4, by omega, fun i hi v hv h => ?_, fun i hi v hv h => ?_, ?_, by omega⟩
      · rw [((on i hi).1 v hv).2 h, lamc i hi, hlam]
      · rw [((on i hi).1 v hv).1 (by rw [h]; omega), lamc i hi, hlam]; rfl
      · obtain ⟨v, h1, h2⟩ := (on 0 (by omega)).2.2.1
        rcases h2 with h2 | ⟨_, h2⟩
        · exact ⟨v, h2.2, h1⟩
        · rw [lamc 0 (by omega), hlam] at h2; exact absurd h2 (by decide)
  -- rooms inside
  have mkIn : ∀ u v, rmx m v → (∀ i, i < K → v ≠ c i) → aj σ v u → kap σ (ce K c) (v, u) = true → ∀ w, aj σ v w → kap σ (ce K c) (v, w) = true := fun u v hv off hvu hk w hw => by
    obtain ⟨x, h1, _⟩ := kp_of (Y.2 v hv) H (fun b hb => by obtain ⟨i, hi, e⟩ := onc v b hb; exact off i hi e)
    rw [h1 w hw, ← h1 u hvu]; exact hk
  have enter : ∀ u v, rmx m u → aj σ u v → sd u v = q' → kap σ (ce K c) (u, v) = true → ¬ ce K c u v → rmx m v ∧ (∀ i, i < K → v ≠ c i) ∧ ∀ w, aj σ v w → kap σ (ce K c) (v, w) = true := fun u v hu huv hsd hk nC => by
    obtain ⟨hv, _, hvu, _⟩ := W.ed hu huv
    have op := kap_op W H hu huv
    rw [bo_f.mpr nC, hk] at op
    have off : ∀ i, i < K → v ≠ c i := fun i hi e => by
      subst e
      have := in2 i hi u hvu (by rw [(Y.1 _ _ hu huv).2, hsd])
      rw [this] at op
      exact absurd op (by decide)
    exact ⟨hv, off, mkIn u v hv off hvu op⟩
  have first : ∃ x, (rmx m x ∧ (∀ i, i < K → x ≠ c i) ∧ ∀ w, aj σ x w → kap σ (ce K c) (x, w) = true) ∧ aj σ (c 0) x ∧ sd (c 0) x = q' := by
    obtain ⟨v, h1, h2⟩ := in3
    refine ⟨v, enter (c 0) v (ed 0 (by omega)).1 h1 h2 (in1 0 (by omega) v h1 h2) (fun hC => ?_), h1, h2⟩
    rcases (ce_2 W Y Q _ _ hC).2.2 with h | h
    · exact qd.1 (h2.symm.trans h)
    · exact qd.2 (h2.symm.trans h)
  have next : ∀ x, ∃ v, (rmx m x ∧ (∀ i, i < K → x ≠ c i) ∧ ∀ w, aj σ x w → kap σ (ce K c) (x, w) = true) → (rmx m v ∧ (∀ i, i < K → v ≠ c i) ∧ ∀ w, aj σ v w → kap σ (ce K c) (v, w) = true) ∧ aj σ x v ∧ sd x v = q' := fun x => by
    by_cases hx : rmx m x ∧ (∀ i, i < K → x ≠ c i) ∧ ∀ w, aj σ x w → kap σ (ce K c) (x, w) = true
    · have nC : ∀ b, ¬ ce K c x b := fun b hb => by obtain ⟨i, hi, e⟩ := onc x b hb; exact hx.2.1 i hi e
      obtain ⟨y, h1, h2⟩ := kp_of (Y.2 x hx.1) H nC
      obtain ⟨u, _, h3⟩ := h2 q' q'4
      have yt : y = true := by
        obtain ⟨w, T, dg, _, _, _, _, _, a6, _⟩ := Y.2 x hx.1
        -- a neighbour of x
        rcases h3 with ⟨_, h4, _⟩ | ⟨_, h5⟩
        · rw [← h1 u h4]; exact hx.2.2 u h4
        · exfalso
          obtain ⟨j, hj⟩ : ∃ j, aj σ x j := by
            have all := Z (fun r => r ≠ x) ⟨c 0, (ed 0 (by omega)).1.1, (ed 0 (by omega)).1.2, fun e => hx.2.1 0 (by omega) e.symm⟩
            rcases Classical.em (∃ j, aj σ x j) with y | y
            · exact y
            · exact absurd rfl (all (fun i j hi mi _ hij e => y ⟨i, by rw [← e]; exact (W.ed ⟨hi, mi⟩ hij).2.2.1⟩) x hx.1.1 hx.1.2)
          have := hx.2.2 j hj
          rw [h1 j hj, h5] at this
          exact absurd this (by decide)
      obtain ⟨v, h4, h5⟩ := h2 q' q'4
      rcases h5 with ⟨_, h6, h7⟩ | ⟨_, h7⟩
      · exact ⟨v, fun _ => ⟨enter x v hx.1 h6 h4 (hx.2.2 v h6) (nC v), h6, h4⟩⟩
      · rw [yt] at h7; exact absurd h7 (by decide)
    · exact ⟨x, fun h => absurd h hx⟩
  obtain ⟨x1, hx1, a01, _⟩ := first
  obtain ⟨gn, hgn⟩ : ∃ gn : Nat → Nat, ∀ x, (rmx m x ∧ (∀ i, i < K → x ≠ c i) ∧ ∀ w, aj σ x w → kap σ (ce K c) (x, w) = true) → (rmx m (gn x) ∧ (∀ i, i < K → gn x ≠ c i) ∧ ∀ w, aj σ (gn x) w → kap σ (ce K c) (gn x, w) = true) ∧ aj σ x (gn x) ∧ sd x (gn x) = q' := ⟨fun x => (next x).choose, fun x => (next x).choose_spec⟩
  obtain ⟨X, hX0, hXs⟩ : ∃ X : Nat → Nat, X 0 = x1 ∧ ∀ k, X (k + 1) = gn (X k) := ⟨fun k => Nat.rec x1 (fun _ x => gn x) k, rfl, fun _ => rfl⟩
  have inn : ∀ k, rmx m (X k) ∧ (∀ i, i < K → X k ≠ c i) ∧ ∀ w, aj σ (X k) w → kap σ (ce K c) (X k, w) = true := by
    intro k
    induction k with
    | zero => rw [hX0]; exact hx1
    | succ k ih => rw [hXs]; exact (hgn _ ih).1
  have least : ∀ g, (∃ i, 1 ≤ g ∧ X (i + g) = X i) → ∃ g i, 1 ≤ g ∧ X (i + g) = X i ∧ ∀ g', g' < g → 1 ≤ g' → ∀ i', X (i' + g') ≠ X i' := by
    intro g
    induction g using Nat.strongRecOn with
    | ind g IH =>
      rintro ⟨i, g1, e⟩
      by_cases h : ∃ g' i', g' < g ∧ 1 ≤ g' ∧ X (i' + g') = X i'
      · obtain ⟨g', i', h1, h2, h3⟩ := h
        exact IH g' h1 ⟨i', h2, h3⟩
      · exact ⟨g, i, g1, e, fun g' h1 h2 i' h3 => h ⟨g', i', h1, h2, h3⟩⟩
  obtain ⟨i, j, p1, p2, p3⟩ := pig 9 X (fun k _ => (inn k).1.1)
  obtain ⟨g, i0, g1, eg, lst⟩ := least (j - i) ⟨i, by omega, by rw [show i + (j - i) = j by omega]; exact p3.symm⟩
  have Q' : QC σ m sd q' g (fun k => X (i0 + k)) := ⟨g1, q'4, eg, fun k _ => ⟨(inn _).1, by
      have := (hgn _ (inn (i0 + k))).2
      rw [← hXs] at this
      exact this⟩, fun a b hab hb e => lst (b - a) (by omega) (by omega) (i0 + a) (by rw [show i0 + a + (b - a) = i0 + b by omega]; exact e.symm)⟩
  refine ⟨q', g, fun k => X (i0 + k), Q', ?_⟩
  have HD := ce_CE W Y Q'
  have onD : ∀ r b, ce g (fun k => X (i0 + k)) r b → (∀ i, i < K → r ≠ c i) ∧ ∀ w, aj σ r w → kap σ (ce K c) (r, w) = true := fun r b ⟨i, hi, h⟩ => by
    rcases h with h | h
    · have := inn (i0 + i); rw [h.1]; exact this.2
    · have := inn (i0 + (i + 1)); rw [h.2]; exact this.2
  generalize ce g (fun k => X (i0 + k)) = D at *
  have offD : ∀ i, i < K → ∀ b, ¬ D (c i) b := fun i hi b hb => (onD _ b hb).1 i hi rfl
  have cst : ∀ r, rmx m r → (∀ b, ¬ D r b) → ∀ u w, aj σ r u → aj σ r w → kap σ D (r, u) = kap σ D (r, w) := fun r hr off u w hu hw => by
    obtain ⟨x, h1, _⟩ := kp_of (Y.2 r hr) HD off
    rw [h1 u hu, h1 w hw]
  have cstC : ∀ r, rmx m r → (∀ i, i < K → r ≠ c i) → ∀ u w, aj σ r u → aj σ r w → kap σ (ce K c) (r, u) = kap σ (ce K c) (r, w) := fun r hr off u w hu hw => by
    obtain ⟨x, h1, _⟩ := kp_of (Y.2 r hr) H (fun b hb => by obtain ⟨i, hi, e⟩ := onc r b hb; exact off i hi e)
    rw [h1 u hu, h1 w hw]
  -- D leaves the line in one colour
  have mu : ∀ i, i < K → ∀ w, aj σ (c i) w → kap σ D (c i, w) = kap σ D (c 0, c 1) := by
    intro i
    induction i with
    | zero => intro _ w hw; exact cst _ (ed 0 (by omega)).1 (offD 0 (by omega)) w (c 1) hw (ed 0 (by omega)).2.1
    | succ i ih =>
      intro hi w hw
      obtain ⟨e1, e2, _⟩ := ed i (by omega)
      obtain ⟨h1, _, h3, _⟩ := W.ed e1 e2
      rw [cst _ h1 (offD (i + 1) hi) w (c i) hw h3, kap_op W HD e1 e2, bo_f.mpr (offD i (by omega) _), ih (by omega) _ e2]
      cases kap σ D (c 0, c 1) <;> rfl
  have out : ∀ r r', rmx m r → aj σ r r' → (∀ b, ¬ D r b) ∨ (∀ b, ¬ D r' b) → kap σ D (r', r) = kap σ D (r, r') := fun r r' hr h off => by
    have nD : ¬ D r r' := fun q => off.elim (fun o => o _ q) (fun o => o _ (HD.1 _ _ q))
    rw [kap_op W HD hr h, bo_f.mpr nD]
    cases kap σ D (r, r') <;> rfl
  have outC : ∀ r r', rmx m r → aj σ r r' → (∀ i, i < K → r ≠ c i) ∨ (∀ i, i < K → r' ≠ c i) → kap σ (ce K c) (r', r) = kap σ (ce K c) (r, r') := fun r r' hr h off => by
    have nC : ¬ ce K c r r' := fun q => off.elim (fun o => by obtain ⟨i, hi, e⟩ := onc r r' q; exact o i hi e) (fun o => by obtain ⟨i, hi, e⟩ := onc r' r (H.1 _ _ q); exact o i hi e)
    rw [kap_op W H hr h, bo_f.mpr nC]
    cases kap σ (ce K c) (r, r') <;> rfl
  have rs : rmx m s := ⟨hs.1, hs.2.2.1⟩
  have o1 := kap_o W H hs ht
  have o2 := kap_o W HD hs ht
  have mu0 : kap σ D (c 0, c 1) = false := by
    cases hm : kap σ D (c 0, c 1) with
    | false => rfl
    | true =>
      exfalso
      have all := Z (fun r => (∀ i, i < K → r ≠ c i) ∧ ∀ w, aj σ r w → kap σ (ce K c) (r, w) = false ∧ kap σ D (r, w) = false)
      have start : (∀ i, i < K → s ≠ c i) ∧ ∀ w, aj σ s w → kap σ (ce K c) (s, w) = false ∧ kap σ D (s, w) = false := by
        have off : ∀ i, i < K → s ≠ c i := fun i hi e => by
          subst e
          have := mu i hi t ht.1
          rw [o2, hm] at this
          exact absurd this (by decide)
        have oD : ∀ b, ¬ D s b := fun b hb => by
          have := (onD s b hb).2 t ht.1
          rw [o1] at this
          exact absurd this (by decide)
        exact ⟨off, fun w hw => ⟨by rw [cstC s rs off w t hw ht.1]; exact o1, by rw [cst s rs oD w t hw ht.1]; exact o2⟩⟩
      refine (all ⟨s, rs.1, rs.2, start⟩ (fun r r' hr mr ⟨off, hc⟩ hrr => ?_) (c 0) (ed 0 (by omega)).1.1 (ed 0 (by omega)).1.2).1 0 (by omega) rfl
      obtain ⟨hr', _, hr'r, _⟩ := W.ed ⟨hr, mr⟩ hrr
      have k1 := outC r r' ⟨hr, mr⟩ hrr (Or.inl off)
      rw [(hc r' hrr).1] at k1
      have oD : ∀ b, ¬ D r' b := fun b hb => by
        have := (onD r' b hb).2 r hr'r
        rw [k1] at this
        exact absurd this (by decide)
      have k2 := out r r' ⟨hr, mr⟩ hrr (Or.inr oD)
      rw [(hc r' hrr).2] at k2
      have off' : ∀ i, i < K → r' ≠ c i := fun i hi e => by
        subst e
        have := mu i hi r hr'r
        rw [k2, hm] at this
        exact absurd this (by decide)
      exact ⟨off', fun w hw => ⟨by rw [cstC r' hr' off' w r hw hr'r]; exact k1, by rw [cst r' hr' oD w r hw hr'r]; exact k2⟩⟩
  have sub : ∀ r, rmx m r → ∀ w, aj σ r w → kap σ (ce K c) (r, w) = false → kap σ D (r, w) = false := fun r hr => by
    refine Z (fun r => ∀ w, aj σ r w → kap σ (ce K c) (r, w) = false → kap σ D (r, w) = false) ⟨c 0, (ed 0 (by omega)).1.1, (ed 0 (by omega)).1.2, fun w hw _ => by rw [mu 0 (by omega) w hw]; exact mu0⟩ (fun r r' hr mr h hrr w hw hk => ?_) r hr.1 hr.2
    obtain ⟨hr', _, hr'r, _⟩ := W.ed ⟨hr, mr⟩ hrr
    by_cases on : ∃ i, i < K ∧ r' = c i
    · obtain ⟨i, hi, e⟩ := on
      subst e
      rw [mu i hi w hw]; exact mu0
    · have off' : ∀ i, i < K → r' ≠ c i := fun i hi e => on ⟨i, hi, e⟩
      by_cases oD : ∀ b, ¬ D r' b
      · rw [cstC r' hr' off' w r hw hr'r, outC r r' ⟨hr, mr⟩ hrr (Or.inr off')] at hk
        rw [cst r' hr' oD w r hw hr'r, out r r' ⟨hr, mr⟩ hrr (Or.inr oD)]
        exact h r' hrr hk
      · obtain ⟨b, hb⟩ : ∃ b, D r' b := by
          rcases Classical.em (∃ b, D r' b) with y | y
          · exact y
          · exact absurd (fun b hb => y ⟨b, hb⟩) oD
        have := (onD r' b hb).2 w hw
        rw [hk] at this
        exact absurd this (by decide)
  have ins : kap σ (ce K c) (c 0, x1) = true := by
    have h1 := hx1.2.2 (c 0) (W.ed (ed 0 (by omega)).1 a01).2.2.1
    have h2 := outC x1 (c 0) hx1.1 (W.ed (ed 0 (by omega)).1 a01).2.2.1 (Or.inl hx1.2.1)
    rw [h2]; exact h1
  refine msr_lt (fun x hx hk => ?_) (x := (c 0, x1)) ⟨(ed 0 (by omega)).1.1, (ed 0 (by omega)).1.2, a01⟩ ins (by rw [mu 0 (by omega) x1 a01]; exact mu0)
  cases hc : kap σ (ce K c) x with
  | true => rfl
  | false =>
    have := sub x.1 ⟨hx.1, hx.2.1⟩ x.2 hx.2.2 hc
    rw [show (x.1, x.2) = x from rfl, hk] at this
    exact absurd this (by decide)
theorem no_q {σ : mm_S} {n m s t : Nat} {sd : Nat → Nat → Nat} (W : PW σ n m) (Z : Cn σ m) (hs : wms σ m 9 s) (ht : nms σ s 9 t) (Y : LYT σ m sd) : ∀ M q K c, QC σ m sd q K c → msr σ m (ce K c) ≤ M → False := by
  intro M
  induction M with
  | zero =>
    intro q K c Q h
    obtain ⟨q', K', c', _, lt⟩ := q_step W Z hs ht Y Q
    omega
  | succ M ih =>
    intro q K c Q h
    obtain ⟨q', K', c', Q', lt⟩ := q_step W Z hs ht Y Q
    exact ih q' K' c' Q' (by omega)
end
section
-- the same without a word on the outline
theorem peelo {σ : mm_S} {n m f s t : Nat} {B : Nat → Nat → Nat} {lab : Nat × Nat → Int32} {Gd : Nat → Nat → Prop} (W : PW σ n m) (hB : BN σ m B) (FL : FLl σ m B f lab) (TR : TRf σ m B lab) (hs : wms σ m 9 s) (ht : nms σ s 9 t) (lo : ∀ x, Dt σ m x → lab x = -1 → ∃ k, x = it (ph B) (s, t) k) (sy : ∀ i j, Gd i j → Gd j i) (con : spn σ m Gd) (tri : ∀ x, Dt σ m x → ¬ lab x = -1 → Gd (ph B x).1 (ph B x).2 → Gd (ph B (ph B x)).1 (ph B (ph B x)).2 → Gd x.1 x.2) : ∀ a b, rmx m a → aj σ a b → Gd a b := by
  rcases Classical.em (∀ x, Dt σ m x → lab x = -1 → Gd x.1 x.2) with out | nout
  · exact peel W hB FL TR sy con out tri
  exfalso
  obtain ⟨x0, hx0, lx0, nG⟩ : ∃ x, Dt σ m x ∧ lab x = -1 ∧ ¬ Gd x.1 x.2 := by
    rcases Classical.em (∃ x, Dt σ m x ∧ lab x = -1 ∧ ¬ Gd x.1 x.2) with y | y
    · exact y
    · exact absurd (fun x hx lx => by
        rcases Classical.em (Gd x.1 x.2) with z | z
        · exact z
        · exact absurd ⟨x, hx, lx, z⟩ y) nout
  obtain ⟨f42, l1, l2, l4⟩ := FL
  have hD := fun x h => pn_D W.1 hB x h
  have Dst : Dt σ m (s, t) := ⟨hs.1, hs.2.2.1, ht.1⟩
  have rev : ∀ x : Nat × Nat, Dt σ m x → Dt σ m (x.2, x.1) := fun x hx => by
    obtain ⟨h1, _, h3, _⟩ := W.ed ⟨hx.1, hx.2.1⟩ hx.2.2
    exact ⟨h1.1, h1.2, h3⟩
  have outer : ∀ {C : Nat → Nat → Prop}, CE σ m C → ∀ x, Dt σ m x → lab x = -1 → kap σ C x = false := fun {C} H x hx lx => by
    obtain ⟨k, e⟩ := lo x hx lx
    rw [e, kap_it W H hB Dst]
    exact kap_o W H hs ht
  have stp : ∀ x : Nat × Nat, ∃ y, Dt σ m x ∧ ¬ Gd x.1 x.2 ∧ ¬ lab x = -1 → (y = ph B x ∨ y = ph B (ph B x)) ∧ Dt σ m y ∧ ¬ Gd y.1 y.2 := fun x => by
    by_cases hx : Dt σ m x ∧ ¬ Gd x.1 x.2 ∧ ¬ lab x = -1
    · by_cases g1 : Gd (ph B x).1 (ph B x).2
      · by_cases g2 : Gd (ph B (ph B x)).1 (ph B (ph B x)).2
        · exact absurd (tri x hx.1 hx.2.2 g1 g2) hx.2.1
        · exact ⟨_, fun _ => ⟨Or.inr rfl, hD _ (hD _ hx.1), g2⟩⟩
      · exact ⟨_, fun _ => ⟨Or.inl rfl, hD _ hx.1, g1⟩⟩
    · exact ⟨x, fun h => absurd h hx⟩
  obtain ⟨gn, hgn⟩ : ∃ gn : Nat × Nat → Nat × Nat, ∀ x, Dt σ m x ∧ ¬ Gd x.1 x.2 ∧ ¬ lab x = -1 → (gn x = ph B x ∨ gn x = ph B (ph B x)) ∧ Dt σ m (gn x) ∧ ¬ Gd (gn x).1 (gn x).2 := ⟨fun x => (stp x).choose, fun x => (stp x).choose_spec⟩
  obtain ⟨X, hX0, hXs⟩ : ∃ X : Nat → Nat × Nat, X 0 = (x0.2, x0.1) ∧ ∀ k, X (k + 1) = ((gn (X k)).2, (gn (X k)).1) := ⟨it (fun x => ((gn x).2, (gn x).1)) (x0.2, x0.1), rfl, fun _ => rfl⟩
  -- the line through the first join
  obtain ⟨C0, H0, c01, c02⟩ := cyc W sy con ⟨hx0.1, hx0.2.1⟩ hx0.2.2 nG
  have kx0 : kap σ C0 x0 = false := outer H0 x0 hx0 lx0
  have kX0 : kap σ C0 (X 0) = true := by
    rw [hX0, kap_op W H0 ⟨hx0.1, hx0.2.1⟩ hx0.2.2, bo_t.mpr c01]
    rw [show (x0.1, x0.2) = x0 from rfl, kx0]; rfl
  have labg : ∀ x, (Dt σ m x ∧ ¬ Gd x.1 x.2 ∧ ¬ lab x = -1) → lab (gn x) = lab x := fun x hx => by
    rcases (hgn _ hx).1 with e | e
    · rw [e]; exact l1 _ hx.1
    · rw [e, l1 _ (hD _ hx.1)]; exact l1 _ hx.1
  have gne : ∀ x, (Dt σ m x ∧ ¬ Gd x.1 x.2 ∧ ¬ lab x = -1) → gn x ≠ x := fun x hx => by
    obtain ⟨_, t2, t3⟩ := TR _ hx.1 hx.2.2
    rcases (hgn _ hx).1 with e | e
    · rw [e]; exact t2
    · rw [e]; exact t3
  have same : ∀ {C : Nat → Nat → Prop}, CE σ m C → ∀ x y, Dt σ m x → Dt σ m y → ¬ lab x = -1 → lab x = lab y → kap σ C x = kap σ C y := fun {C} H x y hx hy nx e => by
    rcases l2 x hx with h | ⟨g, hg, h⟩
    · exact absurd h nx
    · obtain ⟨z, z1, _, z3⟩ := l4 g hg
      obtain ⟨i, ei⟩ := z3 x hx h
      obtain ⟨j, ej⟩ := z3 y hy (by rw [← e]; exact h)
      rw [ei, ej, kap_it W H hB z1, kap_it W H hB z1]
  -- no face twice, as far as all are inner
  have dis : ∀ N, (∀ k, k ≤ N → Dt σ m (X k) ∧ ¬ Gd (X k).1 (X k).2 ∧ ¬ lab (X k) = -1) → ∀ g i, 1 ≤ g → i + g ≤ N → lab (X (i + g)) ≠ lab (X i) := by
    intro N bad g
    induction g using Nat.strongRecOn with
    | ind g IH =>
      intro i g1 gN eq
      obtain ⟨_, y2, y3⟩ := hgn _ (bad i (by omega))
      obtain ⟨C, H, C1, C2⟩ := cyc W sy con ⟨y2.1, y2.2.1⟩ y2.2.2 y3
      have lg := labg _ (bad i (by omega))
      have k1 : kap σ C (gn (X i)) = kap σ C (X i) := same H _ _ y2 (bad i (by omega)).1 (by rw [lg]; exact (bad i (by omega)).2.2) lg
      have k2 : kap σ C (X (i + 1)) = xor (kap σ C (X i)) true := by
        rw [hXs, kap_op W H ⟨y2.1, y2.2.1⟩ y2.2.2, bo_t.mpr C1]
        rw [← k1]
      have run : ∀ j, j + 1 ≤ g → kap σ C (X (i + 1 + j)) = kap σ C (X (i + 1)) := by
        intro j
        induction j with
        | zero => intro _; rfl
        | succ j ihj =>
          intro hj
          have e0 := ihj (by omega)
          have bj := bad (i + 1 + j) (by omega)
          obtain ⟨_, z2, z3⟩ := hgn _ bj
          have lj := labg _ bj
          have kz : kap σ C (gn (X (i + 1 + j))) = kap σ C (X (i + 1 + j)) := same H _ _ z2 bj.1 (by rw [lj]; exact bj.2.2) lj
          have nC : ¬ C (gn (X (i + 1 + j))).1 (gn (X (i + 1 + j))).2 := fun hC => by
            rcases C2 _ _ hC with h | ⟨h1, h2⟩ | ⟨h1, h2⟩
            · exact z3 h
            · have e : gn (X (i + 1 + j)) = gn (X i) := Prod.ext h1 h2
              rw [e, k1, e0, k2] at kz
              cases hk : kap σ C (X i) <;> rw [hk] at kz <;> exact absurd kz (by decide)
            · have e : gn (X (i + 1 + j)) = X (i + 1) := by rw [hXs]; exact Prod.ext h1 h2
              rcases Nat.eq_zero_or_pos j with j0 | j0
              · subst j0
                exact gne _ bj e
              · refine IH j (by omega) (i + 1) j0 (by omega) ?_
                rw [← lj, e]
          show kap σ C (X (i + 1 + j + 1)) = _
          rw [hXs, kap_op W H ⟨z2.1, z2.2.1⟩ z2.2.2, bo_f.mpr nC, kz, e0]
          cases kap σ C (X (i + 1)) <;> rfl
      have e1 := run (g - 1) (by omega)
      rw [show i + 1 + (g - 1) = i + g by omega, k2, same H _ _ (bad (i + g) (by omega)).1 (bad i (by omega)).1 (by rw [eq]; exact (bad i (by omega)).2.2) eq] at e1
      cases hk : kap σ C (X i) <;> rw [hk] at e1 <;> exact absurd e1 (by decide)
  -- the walk never comes out
  have all : ∀ N, ∀ k, k ≤ N → (Dt σ m (X k) ∧ ¬ Gd (X k).1 (X k).2 ∧ ¬ lab (X k) = -1) ∧ kap σ C0 (X k) = true := by
    intro N
    induction N with
    | zero =>
      intro k hk
      have : k = 0 := by omega
      subst this
      have d0 : Dt σ m (X 0) := by rw [hX0]; exact rev x0 hx0
      refine ⟨⟨d0, fun q => nG ?_, fun q => ?_⟩, kX0⟩
      · rw [hX0] at q; exact sy _ _ q
      · rw [outer H0 _ d0 q] at kX0; exact absurd kX0 (by decide)
    | succ N ih =>
      intro k hk
      by_cases ek : k ≤ N
      · exact ih k ek
      · have e : k = N + 1 := by omega
        subst e
        obtain ⟨bN, kN⟩ := ih N (Nat.le_refl N)
        obtain ⟨_, z2, z3⟩ := hgn _ bN
        have lN := labg _ bN
        have kz : kap σ C0 (gn (X N)) = true := by rw [same H0 _ _ z2 bN.1 (by rw [lN]; exact bN.2.2) lN]; exact kN
        have nC : ¬ C0 (gn (X N)).1 (gn (X N)).2 := fun hC => by
          rcases c02 _ _ hC with h | ⟨h1, h2⟩ | ⟨h1, h2⟩
          · exact z3 h
          · have e : gn (X N) = x0 := Prod.ext h1 h2
            rw [e, kx0] at kz
            exact absurd kz (by decide)
          · have e : gn (X N) = X 0 := by rw [hX0]; exact Prod.ext h1 h2
            rcases Nat.eq_zero_or_pos N with n0 | n0
            · subst n0; exact gne _ bN e
            · refine dis N (fun k hk => (ih k hk).1) N 0 n0 (by omega) ?_
              rw [Nat.zero_add, ← lN, e]
        have dN : Dt σ m (X (N + 1)) := by rw [hXs]; exact rev _ z2
        have kS : kap σ C0 (X (N + 1)) = true := by
          rw [hXs, kap_op W H0 ⟨z2.1, z2.2.1⟩ z2.2.2, bo_f.mpr nC]
          rw [show ((gn (X N)).1, (gn (X N)).2) = gn (X N) from rfl, kz]; rfl
        refine ⟨⟨dN, fun q => z3 ?_, fun q => ?_⟩, kS⟩
        · rw [hXs] at q; exact sy _ _ q
        · rw [outer H0 _ dN q] at kS; exact absurd kS (by decide)
  have bad := fun k => (all k k (Nat.le_refl k)).1
  have exh : ∀ k, ∃ h, h < f ∧ lab (X k) = nI h := fun k => (l2 _ (bad k).1).resolve_left (bad k).2.2
  obtain ⟨i, j, h1, h2, h3⟩ := pig f (fun k => (exh k).choose) (fun k _ => (exh k).choose_spec.1)
  refine dis j (fun k _ => bad k) (j - i) i (by omega) (by omega) ?_
  rw [show i + (j - i) = j by omega, (exh j).choose_spec.2, (exh i).choose_spec.2]
  exact congrArg nI h3.symm
end

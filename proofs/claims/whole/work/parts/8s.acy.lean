-- in a layout no room lies to the left of itself
noncomputable def kp (σ : mm_S) (C : Nat → Nat → Prop) (r v : Nat) : Bool := if v < 9 then kap σ C (r, v) else false
/-- around a room the nodes stand at its four sides, one side after the other -/
def RND (σ : mm_S) (m : Nat) (sd : Nat → Nat → Nat) (r : Nat) : Prop := ∃ (w T : Nat → Nat) (dg : Nat), (∀ k, k < dg → (w k < 9 ∧ aj σ r (w k)) ∨ (9 ≤ w k ∧ w k < 13)) ∧ (∀ v, aj σ r v → ∃ k, k < dg ∧ w k = v) ∧ (∀ k l, k < l → l < dg → w k ≠ w l) ∧ (∀ k, k < dg → sd r (w k) = T k ∧ T k < 4) ∧ (∀ k, k + 1 < dg → T k ≤ T (k + 1)) ∧ (∀ q, q < 4 → ∃ k, k < dg ∧ T k = q) ∧ (∀ C, CE σ m C → ∀ k, k + 1 < dg → kp σ C r (w (k + 1)) = xor (kp σ C r (w k)) (bo (w k < 9 ∧ C r (w k))))
def LYT (σ : mm_S) (m : Nat) (sd : Nat → Nat → Nat) : Prop := (∀ r w, rmx m r → aj σ r w → sd r w < 4 ∧ sd w r = (sd r w + 2) % 4) ∧ ∀ r, rmx m r → RND σ m sd r
/-- a way of rooms that comes back, always to the same side -/
def QC (σ : mm_S) (m : Nat) (sd : Nat → Nat → Nat) (q K : Nat) (c : Nat → Nat) : Prop := 1 ≤ K ∧ q < 4 ∧ c K = c 0 ∧ (∀ i, i < K → rmx m (c i) ∧ aj σ (c i) (c (i + 1)) ∧ sd (c i) (c (i + 1)) = q) ∧ ∀ i j, i < j → j < K → c i ≠ c j
def ce (K : Nat) (c : Nat → Nat) (a b : Nat) : Prop := ∃ i, i < K ∧ ((a = c i ∧ b = c (i + 1)) ∨ (b = c i ∧ a = c (i + 1)))
theorem ce_2 {σ : mm_S} {n m q K : Nat} {sd : Nat → Nat → Nat} {c : Nat → Nat} (W : PW σ n m) (Y : LYT σ m sd) (Q : QC σ m sd q K c) : ∀ a b, ce K c a b → rmx m a ∧ aj σ a b ∧ (sd a b = q ∨ sd a b = (q + 2) % 4) := fun a b ⟨i, hi, h⟩ => by
  obtain ⟨h1, h2, h3⟩ := Q.2.2.2.1 i hi
  obtain ⟨hb, _, hba, _⟩ := W.ed h1 h2
  rcases h with ⟨rfl, rfl⟩ | ⟨rfl, rfl⟩
  · exact ⟨h1, h2, Or.inl h3⟩
  · exact ⟨hb, hba, Or.inr (by rw [(Y.1 _ _ h1 h2).2, h3])⟩
/-- each room of the way has one behind it and one before it -/
theorem ce_at {σ : mm_S} {n m q K : Nat} {sd : Nat → Nat → Nat} {c : Nat → Nat} (W : PW σ n m) (Y : LYT σ m sd) (Q : QC σ m sd q K c) {i : Nat} (hi : i < K) : ∃ p, p < K ∧ c (p + 1) = c i ∧ ∀ b, ce K c (c i) b ↔ b = c (i + 1) ∨ b = c p := by
  obtain ⟨K1, q4, cl, ed, dis⟩ := Q
  have uq : ∀ j, j < K → c j = c i → j = i := fun j hj e => by
    rcases Nat.lt_trichotomy j i with h | h | h
    · exact absurd e (dis j i h hi)
    · exact h
    · exact absurd e.symm (dis i j h hj)
  have uq1 : ∀ p j, p < K → j < K → c (p + 1) = c i → c (j + 1) = c i → p = j := fun p j hp hj e1 e2 => by
    have f : ∀ p, p < K → c (p + 1) = c i → (p + 1 < K ∧ p + 1 = i) ∨ (p + 1 = K ∧ i = 0) := fun p hp e => by
      rcases Nat.lt_or_ge (p + 1) K with h | h
      · exact Or.inl ⟨h, uq _ h e⟩
      · have hK : p + 1 = K := by omega
        rw [hK, cl] at e
        exact Or.inr ⟨hK, (uq 0 (by omega) e).symm⟩
    have x := f p hp e1
    have y := f j hj e2
    omega
  obtain ⟨p, hp, ep⟩ : ∃ p, p < K ∧ c (p + 1) = c i := by
    rcases Nat.eq_zero_or_pos i with h | h
    · subst h; exact ⟨K - 1, by omega, by rw [show K - 1 + 1 = K by omega]; exact cl⟩
    · exact ⟨i - 1, by omega, by rw [show i - 1 + 1 = i by omega]⟩
  refine ⟨p, hp, ep, fun b => ⟨?_, ?_⟩⟩
  · rintro ⟨j, hj, ⟨e1, e2⟩ | ⟨e1, e2⟩⟩
    · have := uq j hj e1.symm
      subst this
      exact Or.inl e2
    · have := uq1 p j hp hj ep e2.symm
      subst this
      exact Or.inr e1
  · rintro (h | h)
    · exact ⟨i, hi, Or.inl ⟨rfl, h⟩⟩
    · exact ⟨p, hp, Or.inr ⟨h, ep.symm⟩⟩
theorem ce_CE {σ : mm_S} {n m q K : Nat} {sd : Nat → Nat → Nat} {c : Nat → Nat} (W : PW σ n m) (Y : LYT σ m sd) (Q : QC σ m sd q K c) : CE σ m (ce K c) := by
  refine ⟨fun a b ⟨i, hi, h⟩ => ⟨i, hi, h.symm.imp (fun x => ⟨x.1, x.2⟩) (fun x => ⟨x.1, x.2⟩)⟩, fun a b h => ⟨(ce_2 W Y Q a b h).1, (ce_2 W Y Q a b h).2.1⟩, fun z _ => ?_⟩
  by_cases hz : ∃ i, i < K ∧ z = c i
  · obtain ⟨i, hi, e⟩ := hz
    subst e
    obtain ⟨p, hp, ep, iff⟩ := ce_at W Y Q hi
    obtain ⟨h1, h2, h3⟩ := Q.2.2.2.1 i hi
    obtain ⟨g1, g2, g3⟩ := Q.2.2.2.1 p hp
    rw [ep] at g2 g3
    have q4 := Q.2.1
    have back := (Y.1 _ _ g1 g2).2
    rw [g3] at back
    have ne : c (i + 1) ≠ c p := fun e => by
      rw [← e] at back
      omega
    have n9 := h2.1
    have p9 := g1.1
    rw [xf_cg 9 (g := fun j => xor (bo (j = c (i + 1))) (bo (j = c p))) (fun j _ => by
      rw [bo_cg (iff j)]
      by_cases x : j = c (i + 1)
      · rw [bo_t.mpr (Or.inl x), bo_t.mpr x, bo_f.mpr (fun y => ne (x.symm.trans y))]; rfl
      · by_cases y : j = c p
        · rw [bo_t.mpr (Or.inr y), bo_f.mpr x, bo_t.mpr y]; rfl
        · rw [bo_f.mpr (fun h => h.elim x y), bo_f.mpr x, bo_f.mpr y]; rfl), xf_x, xf_1 (i := c (i + 1)) 9 n9 (fun j _ h => bo_f.mpr h), xf_1 (i := c p) 9 p9 (fun j _ h => bo_f.mpr h), bo_t.mpr rfl, bo_t.mpr rfl]; rfl
  · refine xf_0 9 (fun j _ => bo_f.mpr (fun ⟨i, hi, h⟩ => ?_))
    rcases h with h | h
    · exact hz ⟨i, hi, h.1⟩
    · rcases Nat.lt_or_ge (i + 1) K with k | k
      · exact hz ⟨i + 1, k, h.2⟩
      · exact hz ⟨0, by have := Q.1; omega, by rw [h.2, show i + 1 = K by omega]; exact Q.2.2.1⟩
/-- away from the line all is of one colour -/
theorem kp_of {σ : mm_S} {m r : Nat} {sd : Nat → Nat → Nat} {D : Nat → Nat → Prop} (R : RND σ m sd r) (H : CE σ m D) (off : ∀ b, ¬ D r b) : ∃ x, (∀ v, aj σ r v → kap σ D (r, v) = x) ∧ ∀ q, q < 4 → ∃ v, sd r v = q ∧ ((v < 9 ∧ aj σ r v ∧ kap σ D (r, v) = x) ∨ (9 ≤ v ∧ x = false)) := by
  obtain ⟨w, T, dg, a1, a2, a3, a4, a5, a6, a7⟩ := R
  have c : ∀ k, k < dg → kp σ D r (w k) = kp σ D r (w 0) := by
    intro k
    induction k with
    | zero => intro _; rfl
    | succ k ih =>
      intro hk
      rw [a7 D H k hk, bo_f.mpr (fun z => off _ z.2), ih (by omega)]
      cases kp σ D r (w 0) <;> rfl
  refine ⟨kp σ D r (w 0), fun v hv => ?_, fun q hq => ?_⟩
  · obtain ⟨k, hk, e⟩ := a2 v hv
    have := c k hk
    unfold kp at this ⊢
    rw [e, if_pos hv.1] at this
    exact this
  · obtain ⟨k, hk, e⟩ := a6 q hq
    have ck := c k hk
    refine ⟨w k, (a4 k hk).1.trans e, ?_⟩
    rcases a1 k hk with ⟨h1, h2⟩ | ⟨h1, _⟩
    · refine Or.inl ⟨h1, h2, ?_⟩
      rw [← ck]; unfold kp; rw [if_pos h1]
    · refine Or.inr ⟨h1, ?_⟩
      rw [← ck]; unfold kp; rw [if_neg (by omega)]
/-- on the line: the next side clockwise has the other colour, the one before has the same -/
theorem kp_on {σ : mm_S} {m r q ou ib : Nat} {sd : Nat → Nat → Nat} {D : Nat → Nat → Prop} (R : RND σ m sd r) (H : CE σ m D) (q4 : q < 4) (hD : ∀ b, D r b ↔ b = ou ∨ b = ib) (ao : aj σ r ou) (ai : aj σ r ib) (so : sd r ou = q) (si : sd r ib = (q + 2) % 4) :
    (∀ v, aj σ r v → (sd r v = (q + 1) % 4 → kap σ D (r, v) = !kap σ D (r, ou)) ∧ (sd r v = (q + 3) % 4 → kap σ D (r, v) = kap σ D (r, ou))) ∧ (∃ v, sd r v = (q + 1) % 4 ∧ ((v < 9 ∧ aj σ r v) ∨ (9 ≤ v ∧ (!kap σ D (r, ou)) = false))) ∧ (∃ v, sd r v = (q + 3) % 4 ∧ ((v < 9 ∧ aj σ r v) ∨ (9 ≤ v ∧ kap σ D (r, ou) = false))) ∧ kap σ D (r, ib) = !kap σ D (r, ou) := by
  obtain ⟨w, T, dg, a1, a2, a3, a4, a5, a6, a7⟩ := R
  obtain ⟨a, ha, ea⟩ := a2 ou ao
  obtain ⟨b, hb, eb⟩ := a2 ib ai
  have Ta : T a = q := by rw [← (a4 a ha).1, ea]; exact so
  have Tb : T b = (q + 2) % 4 := by rw [← (a4 b hb).1, eb]; exact si
  have uq : ∀ k l, k < dg → l < dg → w k = w l → k = l := fun k l hk hl e => by
    rcases Nat.lt_trichotomy k l with h | h | h
    · exact absurd e (a3 k l h hl)
    · exact h
    · exact absurd e.symm (a3 l k h hk)
  have mono : ∀ d k, k + d < dg → T k ≤ T (k + d) := by
    intro d
    induction d with
    | zero => intro k _; exact Nat.le_refl _
    | succ d ih =>
      intro k hk
      exact Nat.le_trans (ih k (by omega)) (a5 (k + d) hk)
  have lt : ∀ k l, k < dg → l < dg → T k < T l → k < l := fun k l hk hl h => by
    rcases Nat.lt_or_ge k l with y | y
    · exact y
    · have := mono (k - l) l (by omega)
      rw [show l + (k - l) = k by omega] at this
      omega
  have st : ∀ k, k + 1 < dg → kp σ D r (w (k + 1)) = xor (kp σ D r (w k)) (bo (k = a ∨ k = b)) := fun k hk => by
    rw [a7 D H k hk]
    congr 1
    apply bo_cg
    constructor
    · rintro ⟨_, h⟩
      rcases (hD _).mp h with h | h
      · exact Or.inl (uq k a (by omega) ha (h.trans ea.symm))
      · exact Or.inr (uq k b (by omega) hb (h.trans eb.symm))
    · rintro (h | h)
      · subst h; rw [ea]; exact ⟨ao.1, (hD _).mpr (Or.inl rfl)⟩
      · subst h; rw [eb]; exact ⟨ai.1, (hD _).mpr (Or.inr rfl)⟩
  have seg : ∀ d k, k + d < dg → (∀ j, k ≤ j → j < k + d → j ≠ a ∧ j ≠ b) → kp σ D r (w (k + d)) = kp σ D r (w k) := by
    intro d
    induction d with
    | zero => intro k _ _; rfl
    | succ d ih =>
      intro k hk hj
      have h0 := hj (k + d) (by omega) (by omega)
      show kp σ D r (w (k + d + 1)) = _
      rw [st (k + d) hk, bo_f.mpr (fun z => z.elim h0.1 h0.2), ih k (by omega) (fun j h1 h2 => hj j h1 (by omega))]
      cases kp σ D r (w k) <;> rfl
  have sg : ∀ k l, k ≤ l → l < dg → (∀ j, k ≤ j → j < l → j ≠ a ∧ j ≠ b) → kp σ D r (w l) = kp σ D r (w k) := fun k l hkl hl hj => by
    have := seg (l - k) k (by omega) (fun j h1 h2 => hj j h1 (by omega))
    rw [show k + (l - k) = l by omega] at this
    exact this
  have fl : ∀ k, k + 1 < dg → (k = a ∨ k = b) → kp σ D r (w (k + 1)) = !kp σ D r (w k) := fun k hk h => by
    rw [st k hk, bo_t.mpr h]
    cases kp σ D r (w k) <;> rfl
  have ka : kp σ D r (w a) = kap σ D (r, ou) := by unfold kp; rw [ea, if_pos ao.1]
  -- the colours by places
  have one : ∀ k, k < dg → T k = (q + 1) % 4 → kp σ D r (w k) = !kp σ D r (w a) := fun k hk hT => by
    rcases (show q = 0 ∨ q = 1 ∨ q = 2 ∨ q = 3 by omega) with e | e | e | e
    · subst e
      have h1 := lt a k ha hk (by omega)
      have h2 := lt k b hk hb (by omega)
      rw [sg (a + 1) k (by omega) hk (fun j x y => ⟨by omega, by omega⟩)]
      exact fl a (by omega) (Or.inl rfl)
    · subst e
      have h1 := lt a k ha hk (by omega)
      have h2 := lt k b hk hb (by omega)
      rw [sg (a + 1) k (by omega) hk (fun j x y => ⟨by omega, by omega⟩)]
      exact fl a (by omega) (Or.inl rfl)
    · subst e
      have h1 := lt a k ha hk (by omega)
      have h2 := lt b a hb ha (by omega)
      rw [sg (a + 1) k (by omega) hk (fun j x y => ⟨by omega, by omega⟩)]
      exact fl a (by omega) (Or.inl rfl)
    · subst e
      have h1 := lt k b hk hb (by omega)
      have h2 := lt b a hb ha (by omega)
      have e1 := sg k b (by omega) hb (fun j x y => ⟨by omega, by omega⟩)
      have e2 := fl b (by omega) (Or.inr rfl)
      have e3 := sg (b + 1) a (by omega) ha (fun j x y => ⟨by omega, by omega⟩)
      rw [e3, e2, e1]
      cases kp σ D r (w k) <;> rfl
  have two : ∀ k, k < dg → T k = (q + 3) % 4 → kp σ D r (w k) = kp σ D r (w a) := fun k hk hT => by
    rcases (show q = 0 ∨ q = 1 ∨ q = 2 ∨ q = 3 by omega) with e | e | e | e
    · subst e
      have h1 := lt b k hb hk (by omega)
      have h2 := lt a b ha hb (by omega)
      have e1 := sg (b + 1) k (by omega) hk (fun j x y => ⟨by omega, by omega⟩)
      have e2 := fl b (by omega) (Or.inr rfl)
      have e3 := sg (a + 1) b (by omega) hb (fun j x y => ⟨by omega, by omega⟩)
      have e4 := fl a (by omega) (Or.inl rfl)
      rw [e1, e2, e3, e4]
      cases kp σ D r (w a) <;> rfl
    · subst e
      have h1 := lt k a hk ha (by omega)
      have h2 := lt a b ha hb (by omega)
      exact (sg k a (by omega) ha (fun j x y => ⟨by omega, by omega⟩)).symm
    · subst e
      have h1 := lt b k hb hk (by omega)
      have h2 := lt k a hk ha (by omega)
      exact (sg k a (by omega) ha (fun j x y => ⟨by omega, by omega⟩)).symm
    · subst e
      have h1 := lt b k hb hk (by omega)
      have h2 := lt k a hk ha (by omega)
      exact (sg k a (by omega) ha (fun j x y => ⟨by omega, by omega⟩)).symm
  have atv : ∀ v, aj σ r v → ∃ k, k < dg ∧ w k = v ∧ T k = sd r v ∧ kp σ D r (w k) = kap σ D (r, v) := fun v hv => by
    obtain ⟨k, hk, e⟩ := a2 v hv
    exact ⟨k, hk, e, by rw [← (a4 k hk).1, e], by unfold kp; rw [e, if_pos hv.1]⟩
  have kb : kp σ D r (w b) = !kp σ D r (w a) := by
    rcases (show q < 2 ∨ 2 ≤ q by omega) with e | e
    · have h := lt a b ha hb (by omega)
      rw [sg (a + 1) b (by omega) hb (fun j x y => ⟨by omega, by omega⟩)]
      exact fl a (by omega) (Or.inl rfl)
    · have h := lt b a hb ha (by omega)
      rw [sg (b + 1) a (by omega) ha (fun j x y => ⟨by omega, by omega⟩), fl b (by omega) (Or.inr rfl)]
      cases kp σ D r (w b) <;> rfl
  refine ⟨fun v hv => ⟨fun h => ?_, fun h => ?_⟩, ?_, ?_, by rw [← ka, ← kb]; unfold kp; rw [eb, if_pos ai.1]⟩
  · obtain ⟨k, hk, e, hT, hk'⟩ := atv v hv
    rw [← hk', ← ka]; exact one k hk (hT.trans h)
  · obtain ⟨k, hk, e, hT, hk'⟩ := atv v hv
    rw [← hk', ← ka]; exact two k hk (hT.trans h)
  · obtain ⟨k, hk, e⟩ := a6 ((q + 1) % 4) (by omega)
    refine ⟨w k, (a4 k hk).1.trans e, ?_⟩
    rcases a1 k hk with h | h
    · exact Or.inl h
    · refine Or.inr ⟨h.1, ?_⟩
      have := one k hk e
      rw [ka] at this
      rw [← this]; unfold kp; rw [if_neg (by omega)]
  · obtain ⟨k, hk, e⟩ := a6 ((q + 3) % 4) (by omega)
    refine ⟨w k, (a4 k hk).1.trans e, ?_⟩
    rcases a1 k hk with h | h
    · exact Or.inl h
    · refine Or.inr ⟨h.1, ?_⟩
      have := two k hk e
      rw [ka] at this
      rw [← this]; unfold kp; rw [if_neg (by omega)]
/-! counting -/
def cbn (f : Nat → Bool) : Nat → Nat
  | 0 => 0
  | n + 1 => cbn f n + if f n = true then 1 else 0
theorem cbn_le {f g : Nat → Bool} : ∀ n, (∀ i, i < n → f i = true → g i = true) → cbn f n ≤ cbn g n
  | 0, _ => Nat.le_refl _
  | n + 1, h => by
    have ih := cbn_le n (fun i hi => h i (by omega))
    have hn := h n (by omega)
    show cbn f n + (if f n = true then 1 else 0) ≤ cbn g n + (if g n = true then 1 else 0)
    by_cases x : f n = true
    · rw [if_pos x, if_pos (hn x)]; omega
    · rw [if_neg x]; omega
theorem cbn_lt {f g : Nat → Bool} : ∀ n, (∀ i, i < n → f i = true → g i = true) → (∃ i, i < n ∧ g i = true ∧ f i = false) → cbn f n < cbn g n
  | 0, _, ⟨i, hi, _⟩ => absurd hi (Nat.not_lt_zero i)
  | n + 1, h, ⟨i, hi, g1, f1⟩ => by
    have hn := h n (by omega)
    show cbn f n + (if f n = true then 1 else 0) < cbn g n + (if g n = true then 1 else 0)
    by_cases e : i = n
    · subst e
      have ih := cbn_le i (fun j hj => h j (by omega))
      rw [if_neg (by rw [f1]; decide), if_pos g1]; omega
    · have ih := cbn_lt n (fun j hj => h j (by omega)) ⟨i, by omega, g1, f1⟩
      by_cases x : f n = true
      · rw [if_pos x, if_pos (hn x)]; omega
      · rw [if_neg x]; omega
noncomputable def msr (σ : mm_S) (m : Nat) (C : Nat → Nat → Prop) : Nat := cbn (fun p => kap σ C (p / 9, p % 9) && bo (Dt σ m (p / 9, p % 9))) 81
theorem msr_lt {σ : mm_S} {m : Nat} {C D : Nat → Nat → Prop} (h : ∀ x, Dt σ m x → kap σ D x = true → kap σ C x = true) {x : Nat × Nat} (hx : Dt σ m x) (h1 : kap σ C x = true) (h2 : kap σ D x = false) : msr σ m D < msr σ m C := by
  have x1 := hx.1
  have x2 := hx.2.2.1
  have e1 : (9 * x.1 + x.2) / 9 = x.1 := by omega
  have e2 : (9 * x.1 + x.2) % 9 = x.2 := by omega
  refine cbn_lt 81 (fun i _ hi => ?_) ⟨9 * x.1 + x.2, by omega, ?_, ?_⟩
  · rw [Bool.and_eq_true] at hi ⊢
    exact ⟨h _ (bo_t.mp hi.2) hi.1, hi.2⟩
  · show (kap σ C ((9 * x.1 + x.2) / 9, (9 * x.1 + x.2) % 9) && bo (Dt σ m ((9 * x.1 + x.2) / 9, (9 * x.1 + x.2) % 9))) = true
    rw [e1, e2, Bool.and_eq_true]; exact ⟨h1, bo_t.mpr hx⟩
  · show (kap σ D ((9 * x.1 + x.2) / 9, (9 * x.1 + x.2) % 9) && bo (Dt σ m ((9 * x.1 + x.2) / 9, (9 * x.1 + x.2) % 9))) = false
    rw [e1, e2]
    have : kap σ D (x.1, x.2) = false := h2
    rw [this]; rfl

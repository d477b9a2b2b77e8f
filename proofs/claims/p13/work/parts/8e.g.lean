section
-- the reference's walks are the class's
def BN (σ : mm_S) (m : Nat) (B : Nat → Nat → Nat) : Prop := ∀ a b, a < 9 → m.testBit a = true → aj σ a b → nxt (aj σ a) (vc σ a) b (B a b)
theorem BH_BN {σ τ : mm_S} {m : Nat} (H : BH σ τ m) : BN σ m (Bf τ) := fun _ _ ha ma hab => (BH_sp H ha ma hab).2
theorem pn_D {σ : mm_S} {n m : Nat} {B : Nat → Nat → Nat} (C : CK σ n m) (H : BN σ m B) (x : Nat × Nat) (h : Dt σ m x) : Dt σ m (ph B x) := by
  obtain ⟨b1, b2, b3⟩ := Dt_2 C h
  exact ⟨b1, b2, (H _ _ b1 b2 b3).2.1⟩
theorem pn_inj {σ : mm_S} {n m : Nat} {B : Nat → Nat → Nat} (C : CK σ n m) (N : NC σ n) (H : BN σ m B) (x y : Nat × Nat) (hx : Dt σ m x) (hy : Dt σ m y) (h : ph B x = ph B y) : x = y := by
  obtain ⟨b1, b2, b3⟩ := Dt_2 C hx
  obtain ⟨c1, c2, c3⟩ := Dt_2 C hy
  have e2 : x.2 = y.2 := congrArg Prod.fst h
  have e3 : B x.2 x.1 = B y.2 y.1 := congrArg Prod.snd h
  have n1 := H _ _ b1 b2 b3
  have n2 := H _ _ c1 c2 c3
  rw [← e2] at n2 e3
  rw [← e3] at n2
  exact Prod.ext (nxt_inj (C.gdd N b1 b2) n1 n2) e2
theorem dw_it {B : Nat → Nat → Nat} {s t : Nat} : ∀ k, dwf B s t k = it (ph B) (s, t) k
  | 0 => rfl
  | k + 1 => by
    show ((dwf B s t k).2, B (dwf B s t k).2 (dwf B s t k).1) = ph B (it (ph B) (s, t) k)
    rw [dw_it k]; rfl
theorem it_wo {B : Nat → Nat → Nat} {s t : Nat} (k : Nat) : it (ph B) (s, t) k = (wo B s t k, wo B s t (k + 1)) := by
  rw [← dw_it]; rfl
/-- a join and a room of it stand for a dart -/
def KR (σ : mm_S) (n k r : Nat) (x : Nat × Nat) : Prop := k < n ∧ r < 9 ∧ em σ r k ∧ x.1 = r ∧ f_101 σ (nI k) (nI r) = nI x.2 ∧ x.2 < 9
theorem KR_D {σ : mm_S} {n m k r : Nat} {x : Nat × Nat} (Z : ZI σ n m) (h : KR σ n k r x) : Dt σ m x ∧ wfn σ k r < 2 * n ∧ dcd σ (wfn σ k r) = x := by
  obtain ⟨hk, hr, he, e1, e2, x9⟩ := h
  obtain ⟨o, o9, onr, mr, mo, eo, emo, ao, ends⟩ := Z.ot hk hr he
  have := nI9 o9 x9 (eo.symm.trans e2)
  obtain ⟨a, b⟩ := x
  simp only at e1 e2 this x9
  subst e1; subst this
  obtain ⟨j1, j2⟩ := Z.jj k hk
  refine ⟨⟨hr, mr, ao⟩, by unfold wfn; split <;> omega, ?_⟩
  unfold wfn dcd
  rcases ends with ⟨p, q⟩ | ⟨p, q⟩
  · rw [if_pos p, if_pos (by omega), show (2 * k + 0) / 2 = k by omega, ← j1, ← j2, p, q, nI_clamp (by omega), nI_clamp (by omega)]
  · rw [if_neg (fun z => onr (nI9 o9 hr (p.symm.trans z))), if_neg (by omega), show (2 * k + 1) / 2 = k by omega, ← j1, ← j2, p, q, nI_clamp (by omega), nI_clamp (by omega)]
theorem dcd_KR {σ : mm_S} {n m c : Nat} (Z : ZI σ n m) (hc : c < 2 * n) : KR σ n (c / 2) (dcd σ c).1 (dcd σ c) ∧ σ (if c % 2 = 0 then 80 else 81) (c / 2) = nI (dcd σ c).1 ∧ wfn σ (c / 2) (dcd σ c).1 = c := by
  have hk : c / 2 < n := by omega
  have n21 := Z.ck.jn.1
  obtain ⟨a, b, ha, hb, hne, ma, mb, e1, e2⟩ := Z.ck.je (c / 2) hk
  obtain ⟨j1, j2⟩ := Z.jj (c / 2) hk
  unfold dcd
  rw [e1, e2, nI_clamp (show a < 2 ^ 31 by omega), nI_clamp (show b < 2 ^ 31 by omega)]
  rw [e1] at j1
  rw [e2] at j2
  by_cases p : c % 2 = 0
  · rw [if_pos p, if_pos p]
    refine ⟨⟨hk, ha, Or.inl j1, rfl, ?_, hb⟩, j1, ?_⟩
    · unfold f_101; rw [nI_clamp (show c / 2 < 2 ^ 31 by omega), j1, if_pos rfl, j2]
    · unfold wfn; rw [j1, if_pos rfl]; omega
  · rw [if_neg p, if_neg p]
    refine ⟨⟨hk, hb, Or.inr j2, rfl, ?_, ha⟩, j2, ?_⟩
    · unfold f_101; rw [nI_clamp (show c / 2 < 2 ^ 31 by omega), j1, if_neg (fun z => hne (nI9 ha hb z))]
    · unfold wfn; rw [j1, if_neg (fun z => hne (nI9 ha hb z))]; omega
theorem KR_uniq {σ : mm_S} {n m k l r s : Nat} {x : Nat × Nat} (Z : ZI σ n m) (h : KR σ n k r x) (h' : KR σ n l s x) : k = l ∧ r = s := by
  obtain ⟨hk, hr, he, e1, e2, x9⟩ := h
  obtain ⟨hk', hr', he', e1', e2', _⟩ := h'
  subst e1; subst e1'
  exact ⟨Z.oi hk hk' hr he he' e2 e2' x9, rfl⟩
theorem dcd_inj {σ : mm_S} {n m c c' : Nat} (Z : ZI σ n m) (hc : c < 2 * n) (hc' : c' < 2 * n) (h : dcd σ c = dcd σ c') : c = c' := by
  obtain ⟨k1, _, w1⟩ := dcd_KR Z hc
  obtain ⟨k2, _, w2⟩ := dcd_KR Z hc'
  rw [← h] at k2 w2
  have := (KR_uniq Z k1 k2).1
  rw [← w1, ← w2, this]
theorem KR_nx {σ : mm_S} {n m k k' r o o' : Nat} {B : Nat → Nat → Nat} {x : Nat × Nat} (Z : ZI σ n m) (H : BN σ m B) (h : KR σ n k r x) (hk' : k' < n) (he' : em σ x.2 k') (e1 : f_101 σ (nI k) (nI x.2) = nI o) (e2 : f_101 σ (nI k') (nI x.2) = nI o') (hn : nxt (aj σ x.2) (vc σ x.2) o o') : KR σ n k' x.2 (ph B x) := by
  obtain ⟨D, _, _⟩ := KR_D Z h
  obtain ⟨hk, hr, he, e3, e4, x9⟩ := h
  obtain ⟨b1, b2, b3⟩ := Dt_2 Z.ck D
  obtain ⟨p, p9, pnr, mr, mo, eo, emo, ao, ends⟩ := Z.ot hk hr he
  have pe := nI9 p9 x9 (eo.symm.trans e4)
  subst pe
  -- the other end of k, seen from there
  have back : f_101 σ (nI k) (nI x.2) = nI x.1 := by
    rw [e3]
    unfold f_101
    rw [nI_clamp (show k < 2 ^ 31 by have := Z.ck.jn.1; omega)]
    rcases ends with ⟨u, v⟩ | ⟨u, v⟩
    · rw [u, if_neg (fun z => pnr (nI9 hr p9 z).symm)]
    · rw [u, if_pos rfl, v]
  have on9 : o < 9 := hn.1.1
  have oe := nI9 on9 D.1 (e1.symm.trans back)
  subst oe
  have o'e := nxt_uniq hn (H _ _ b1 b2 b3)
  subst o'e
  exact ⟨hk', b1, he', rfl, e2, hn.2.1.1⟩
theorem nms_u {σ : mm_S} {s t t' : Nat} (h : nms σ s 9 t) (h' : nms σ s 9 t') : t = t' := by
  by_cases e : t = t'
  · exact e
  · have a := h.2.2 t' h'.2.1 h'.1 (fun z => e z.symm)
    have b := h'.2.2 t h.2.1 h.1 e
    have := gcr_anti (vc σ s t) (vc σ s t')
    omega
theorem wms_u {σ : mm_S} {n m s s' : Nat} (C : CK σ n m) (h : wms σ m 9 s) (h' : wms σ m 9 s') : s = s' := by
  obtain ⟨a1, _, a3, a4⟩ := h
  obtain ⟨b1, _, b3, b4⟩ := h'
  have x := a4 s' b1 b3
  have y := b4 s a1 a3
  unfold fw at x y
  exact C.ds s s' a1 b1 a3 b3 (by omega) (by omega)
theorem nms_ah {σ : mm_S} {n m s t : Nat} (C : CK σ n m) (N : NC σ n) (W : wms σ m 9 s) (ht : aj σ s t) (h : ∀ j, aj σ s j → j ≠ t → gah wst (vc σ s t) (vc σ s j)) : nms σ s 9 t := by
  refine ⟨ht, ht.1, fun j _ hj jt => ?_⟩
  have half : ∀ i, aj σ s i → 0 < (vc σ s i).1 ∨ ((vc σ s i).1 = 0 ∧ 0 < (vc σ s i).2) := fun i hi => by
    obtain ⟨i9, mi, ins⟩ := C.aj_dr W.1 W.2.2.1 hi
    have a := W.2.2.2 i i9 mi
    have b := fun z1 z2 => ins (C.ds i s i9 W.1 mi W.2.2.1 z1 z2)
    unfold fw at a
    show 0 < pX σ i - pX σ s ∨ (pX σ i - pX σ s = 0 ∧ 0 < pY σ i - pY σ s)
    rcases Int.lt_trichotomy (pX σ i) (pX σ s) with z | z | z
    · omega
    · right
      refine ⟨by omega, ?_⟩
      rcases Int.lt_trichotomy (pY σ i) (pY σ s) with y | y | y
      · omega
      · exact absurd y (b z)
      · omega
    · omega
  have ht' := half t ht
  have hj' := half j hj
  have := (gah_w _ _).mp (h j hj jt)
  rcases this with ⟨⟨_, z⟩, _⟩ | ⟨_, _, z⟩
  · omega
  · rcases z with ⟨z1, z2⟩ | ⟨_, z⟩
    · unfold gcr
      have p1 : (vc σ s t).1 * (vc σ s j).2 ≤ 0 := Int.mul_nonpos_of_nonneg_of_nonpos (by omega) (by omega)
      have p2 : 0 < (vc σ s t).2 * (vc σ s j).1 := Int.mul_pos z1 (by omega)
      omega
    · exact z
/-- the reference's outline -/
def OG (σ τ : mm_S) (n N : Nat) (X : Nat → Nat × Nat) : Prop := ∀ c, c < 2 * n → (¬ τ 99 c = 0 ↔ ∃ i, i < N ∧ dcd σ c = X i)
theorem c_109s {d n m : Nat} {Q : mm_Q} {σ τ : mm_S} {B : Nat → Nat → Nat} (Z : ZI σ n m) (N0 : NC σ n) (H : BN σ m B) (fr : ∀ c, c ≠ 10 → c ≠ 87 → c ≠ 88 → τ c = σ c) (A : AO σ τ n) (hj : ∀ i, i < 9 → m.testBit i = true → ∃ j, aj σ i j) (h3 : 0 < bc m 9)
    (q1 : ∀ τ' N s t, wms σ m 9 s → nms σ s 9 t → (∀ c, c ≠ 10 → c ≠ 85 → c ≠ 99 → τ' c = τ c) → (∀ j, j ≠ 15 → τ' 10 j = τ 10 j) → 1 ≤ N → N ≤ 42 → τ' 10 15 = nI N → (∀ i, i < N → τ' 85 i = nI (wo B s t i)) → it (ph B) (s, t) N = (s, t) → (∀ i j, i < j → j < N → wo B s t i ≠ wo B s t j) → OG σ τ' n N (it (ph B) (s, t)) → Q (some (.int 1)) τ')
    (q0 : ∀ τ' N s t, wms σ m 9 s → nms σ s 9 t → (∀ c, c ≠ 10 → c ≠ 85 → c ≠ 99 → τ' c = τ c) → (∀ j, j ≠ 15 → τ' 10 j = τ 10 j) → τ' 10 15 = 0 → 1 ≤ N → it (ph B) (s, t) N = (s, t) → (∀ i j, i < j → j < N → it (ph B) (s, t) i ≠ it (ph B) (s, t) j) → (∃ i j, i < j ∧ j < N ∧ wo B s t i = wo B s t j) → Q (some (.int 0)) τ') : mD (d + 2) 109 [.ref 10] τ Q := by
  have M := Z.mk
  have C := Z.ck
  have n21 := M.jn.1
  have e75 : τ 75 = σ 75 := fr 75 (by decide) (by decide) (by decide)
  have e76 : τ 76 = σ 76 := fr 76 (by decide) (by decide) (by decide)
  have e77 : τ 77 = σ 77 := fr 77 (by decide) (by decide) (by decide)
  have e80 : τ 80 = σ 80 := fr 80 (by decide) (by decide) (by decide)
  have e81 : τ 81 = σ 81 := fr 81 (by decide) (by decide) (by decide)
  refine ke_109 (kb_109_0 ?_)
  refine lp_dn (P := fun r => ∀ x, (x = -1 ∧ (∀ i, i < r → ¬ m.testBit i = true) ∨ ∃ s, x = nI s ∧ wms σ m r s) → mw (d + 1) mt_109 Q 4 [some (.ref 10), some (.int x), some (.int (nI r)), none, none, none, none] [] τ) 9 ?_ ?_ 0 (by omega) (-1) (Or.inl ⟨rfl, fun i hi => absurd hi (Nat.not_lt_zero i)⟩)
  · intro x hx
    refine kb_109_4 (fun _ => kb_109_77 ?_) (fun g => absurd (by decide) g)
    obtain ⟨s, es, W⟩ : ∃ s, x = nI s ∧ wms σ m 9 s := by
      rcases hx with ⟨_, h⟩ | h
      · obtain ⟨r, hr, dr⟩ := bc_pos (m := m) 9 h3
        exact absurd dr (h r hr)
      · exact h
    subst es
    have s9 := W.1
    have ms := W.2.2.1
    refine lp_dn (P := fun c => ∀ ρ : mm_S, (∀ c, c ≠ 99 → ρ c = τ c) → (∀ c', c' < c → ρ 99 c' = 0) → mw (d + 1) mt_109 Q 79 [some (.ref 10), some (.int (nI s)), some (.int (nI c)), none, none, none, none] [] ρ) 42 ?_ ?_ 0 (by omega) τ (fun _ _ => rfl) (fun c h => absurd h (Nat.not_lt_zero c))
    · intro ρ f1 z99
      obtain ⟨dg, d8, e87, a1, a2, _⟩ := id A s s9
      obtain ⟨j0, hj0⟩ := hj s s9 ms
      obtain ⟨k0, hk0, hem0, _⟩ := Z.oj s9 ms hj0
      obtain ⟨i0, hi0, _⟩ := a2 k0 hk0 hem0
      obtain ⟨k, hk, hem, e88⟩ := a1 0 (by omega)
      obtain ⟨t, et, hst, first⟩ := AO_first Z N0 A s9 hk hem e88
      have T := nms_ah C N0 W hst first
      have ex16 : (16 : Int32) * nI s = nI (16 * s) := nI_mul 16 s
      refine kb_109_79 (fun _ => kb_109_98 (by rw [ex16]; exact pk_in (16 * s) 144 (by omega)) ?_) (fun g => absurd (by decide) g)
      rw [ex16, nI_clamp (show 16 * s < 2 ^ 31 by omega), f1 88 (by decide), show 16 * s = 16 * s + 0 from rfl, e88]
      have K0 : KR σ n k s (it (ph B) (s, t) 0) := ⟨hk, s9, hem, rfl, et, hst.1⟩
      have D0 : Dt σ m (s, t) := ⟨s9, ms, hst⟩
      have DX : ∀ i, Dt σ m (it (ph B) (s, t) i) := it_D (D := Dt σ m) (fun x h => pn_D C H x h) D0
      have fst : ∀ i, (it (ph B) (s, t) i).1 = wo B s t i := fun i => by rw [it_wo]
      -- where the walk ends
      have fin : ∀ (N : Nat) (ρ : mm_S) (v w : Nat) (r k : Nat) (x6 : Int32), (∀ c, c ≠ 85 → c ≠ 99 → ρ c = τ c) → N ≤ 42 → KR σ n k r (it (ph B) (s, t) N) → OG σ ρ n N (it (ph B) (s, t)) → (∀ a b, a < b → b < N → it (ph B) (s, t) a ≠ it (ph B) (s, t) b) → (∀ i, i < N → ρ 85 i = nI (wo B s t i)) → (x6 = 0 ↔ ∀ i j, i < j → j < N → wo B s t i ≠ wo B s t j) → ¬ ρ 99 (wfn σ k r) = 0 → mw (d + 1) mt_109 Q 207 [some (.ref 10), some (.int (nI s)), some (.int (nI N)), some (.int (nI r)), some (.int (nI k)), some (.int (nI w)), some (.int x6)] [] ρ := by
        intro N ρ v w r k x6 f2 hN K G dis ol x6i z
        obtain ⟨_, c1, c2⟩ := KR_D Z K
        obtain ⟨i, hi, e⟩ := (G _ c1).mp z
        rw [c2] at e
        have i0 := it_back (D := Dt σ m) (fun x h => pn_D C H x h) (fun x y hx hy h => pn_inj C N0 H x y hx hy h) D0 hi e dis
        subst i0
        have cls : it (ph B) (s, t) N = (s, t) := e
        refine kb_109_207 (fun y => kb_109_217 (fun _ => kb_109_226 (q1 _ N s t W T (fun c h1 h2 h3 => by rw [mm_up_n h1]; exact f2 c h2 h3) (fun j hj' => by rw [mm_up_o hj', f2 10 (by decide) (by decide)]) hi hN mm_up_s (fun i hi => by rw [mm_up_n (by decide)]; exact ol i hi) cls (x6i.mp y) (fun c hc => by rw [mm_up_n (by decide)]; exact G c hc))) (fun u => absurd y u)) (fun y => kb_109_213 (fun u => absurd u y) (fun _ => kb_109_230 (q0 _ N s t W T (fun c h1 h2 h3 => by rw [mm_up_n h1]; exact f2 c h2 h3) (fun j hj' => by rw [mm_up_o hj', f2 10 (by decide) (by decide)]) mm_up_s hi cls dis ?_)))
        by_cases c : ∃ i j, i < j ∧ j < N ∧ wo B s t i = wo B s t j
        · exact c
        · exact absurd (x6i.mpr (fun i j h1 h2 h3 => c ⟨i, j, h1, h2, h3⟩)) y
      -- the walk
      refine lp_dn (P := fun N => ∀ (ρ : mm_S) (v w r k : Nat) (x6 : Int32), (∀ c, c ≠ 85 → c ≠ 99 → ρ c = τ c) → GM ρ v → bc v 42 = N → w < 512 → KR σ n k r (it (ph B) (s, t) N) → OG σ ρ n N (it (ph B) (s, t)) → (∀ a b, a < b → b < N → it (ph B) (s, t) a ≠ it (ph B) (s, t) b) → (∀ i, i < N → ρ 85 i = nI (wo B s t i)) → (∀ a, w.testBit a = true ↔ ∃ i, i < N ∧ wo B s t i = a) → (x6 = 0 ↔ ∀ i j, i < j → j < N → wo B s t i ≠ wo B s t j) → mw (d + 1) mt_109 Q 119 [some (.ref 10), some (.int (nI s)), some (.int (nI N)), some (.int (nI r)), some (.int (nI k)), some (.int (nI w)), some (.int x6)] [] ρ) 42 ?_ ?_ 0 (by omega) ρ 0 0 s k 0 (fun c _ h2 => f1 c h2) (fun c hc => ⟨fun z => absurd z (by simp), fun z => absurd (z99 c hc) z⟩) (bcz_0 42) (by decide) K0 (fun c hc => ⟨fun z => absurd (z99 c (by omega)) z, fun ⟨i, hi, _⟩ => absurd hi (Nat.not_lt_zero i)⟩) (fun a b _ h => absurd h (Nat.not_lt_zero b)) (fun i hi => absurd hi (Nat.not_lt_zero i)) (fun a => ⟨fun z => absurd z (by simp), fun ⟨i, hi, _⟩ => absurd hi (Nat.not_lt_zero i)⟩) ⟨fun _ i j _ h => absurd h (Nat.not_lt_zero j), fun _ => rfl⟩
      · intro ρ v w r k x6 f2 g hv w9 K G dis ol wb x6i
        have wr : wfn ρ k r = wfn σ k r := by unfold wfn; rw [f2 80 (by decide) (by decide), e80]
        have kn := K.1
        have hw : wfn σ k r < 42 := wfn_lt (by omega)
        refine kb_109_119 (c_106 (by omega) (kb_109_130 (by rw [wr]; exact pk_in _ 42 hw) (fun z => absurd z ?_) (fun z => fin 42 ρ v w r k x6 f2 (Nat.le_refl _) K G dis ol x6i ?_)))
        · rw [wr, nI_clamp (by omega)]
          exact (g _ hw).mp (bc_full 42 hv _ hw)
        · rw [wr, nI_clamp (by omega)] at z; exact z
      · intro N hN ih ρ v w r k x6 f2 g hv w9 K G dis ol wb x6i
        have wr : wfn ρ k r = wfn σ k r := by unfold wfn; rw [f2 80 (by decide) (by decide), e80]
        have kn := K.1
        have hw : wfn σ k r < 42 := wfn_lt (by omega)
        refine kb_109_119 (c_106 (by omega) (kb_109_130 (by rw [wr]; exact pk_in _ 42 hw) (fun z => kb_109_134 ?_) (fun z => fin N ρ v w r k x6 f2 (by omega) K G dis ol x6i ?_)))
        · -- onward
          refine c_106 (by omega) ?_
          rw [wr] at z ⊢
          obtain ⟨DN, c1, c2⟩ := KR_D Z K
          obtain ⟨hk, hr, he, x1, x2, x9⟩ := id K
          generalize hu : wfn σ k r = u at *
          rw [nI_clamp (show u < 2 ^ 31 by omega)] at z
          obtain ⟨b1, b2, b3⟩ := Dt_2 C DN
          have emo : em σ (it (ph B) (s, t) N).2 k := by
            obtain ⟨o, o9, _, _, _, eo, emo, _⟩ := Z.ot hk hr he
            have := nI9 o9 x9 (eo.symm.trans x2)
            rw [← this]; exact emo
          have new : ∀ i, i < N → it (ph B) (s, t) i ≠ it (ph B) (s, t) N := fun i hi e => (G u c1).mpr ⟨i, hi, by rw [c2, e]⟩ z
          have rN : wo B s t N = r := by rw [← fst N]; exact x1
          have go : ∀ (ρ1 : mm_S) (b : Int32) (v' : Nat), (∀ c, c ≠ 99 → ρ1 c = ρ c) → GM ρ1 v' → bc v' 42 = N + 1 → OG σ ρ1 n (N + 1) (it (ph B) (s, t)) → (b = 0 ↔ ∀ i j, i < j → j < N + 1 → wo B s t i ≠ wo B s t j) → mD (d + 1) 101 [.ref 10, .int (nI k), .int (nI r)] (mm_up ρ1 85 (nI N).toNatClampNeg (nI r)) (fun u τ => mw (d + 1) mt_109 Q 194 [some (.ref 10), some (.int (nI s)), some (.int (nI N + 1)), some (.int (nI r)), some (.int (nI k)), some (.int (nI w ||| ((1 : Int32) <<< (nI r &&& 31)))), some (.int b)] (u.toList ++ []) τ) := by
            intro ρ1 b v' f3 g' hv' G' bi
            have f4 : ∀ c, c ≠ 85 → c ≠ 99 → (mm_up ρ1 85 (nI N).toNatClampNeg (nI r)) c = τ c := fun c h1 h2 => by rw [mm_up_n h1, f3 c h2]; exact f2 c h1 h2
            refine c_101 (pk_in k 21 (by omega)) ?_
            have e101 : f_101 (mm_up ρ1 85 (nI N).toNatClampNeg (nI r)) (nI k) (nI r) = nI (it (ph B) (s, t) N).2 := by
              rw [← x2]
              unfold f_101
              rw [f4 80 (by decide) (by decide), f4 81 (by decide) (by decide), e80, e81]
            rw [e101, nI_1]
            refine kb_109_194 (c_105s Z N0 (fun r' hr' => by rw [f4 87 (by decide) (by decide), f4 88 (by decide) (by decide)]; exact A r' hr') b1 hk emo (fun k' o o' hk' he' h1 h2 h3 => kb_109_202 ?_))
            have KN : KR σ n k' (it (ph B) (s, t) N).2 (it (ph B) (s, t) (N + 1)) := KR_nx Z H K hk' he' h1 h2 h3
            rw [nI_clamp (show N < 2 ^ 31 by omega)] at f4 ⊢
            rw [one_sh (by omega), or_bit]
            refine ih _ v' (w ||| 2 ^ r) _ k' b f4 (fun c hc => by rw [mm_up_n (by decide)]; exact g' c hc) hv' (Nat.or_lt_two_pow (n := 9) w9 (Nat.pow_lt_pow_right (by decide) hr)) KN (fun c hc => by rw [mm_up_n (by decide)]; exact G' c hc) (fun a b' u1 u2 => ?_) (fun i hi => ?_) (fun a => ?_) bi
            · by_cases e : b' = N
              · subst e; exact new a u1
              · exact dis a b' u1 (by omega)
            · by_cases e : i = N
              · subst e; rw [mm_up_s, rN]
              · rw [mm_up_o e, f3 85 (by decide)]; exact ol i (by omega)
            · rw [tb_or, wb]
              constructor
              · rintro (⟨i, hi, e⟩ | e)
                · exact ⟨i, by omega, e⟩
                · exact ⟨N, by omega, by rw [e]; exact rN⟩
              · rintro ⟨i, hi, e⟩
                by_cases ei : i = N
                · subst ei; exact Or.inr (by rw [← e]; exact rN)
                · exact Or.inl ⟨i, by omega, e⟩
          have vw : ¬ v.testBit u = true := fun y => (g u hw).mp y z
          have gn : GM (mm_up ρ 99 u 1) (v ||| 2 ^ u) := fun c hc => by
            rw [tb_or]
            by_cases e : c = u
            · subst e
              rw [mm_up_s]
              exact ⟨fun _ => by decide, fun _ => Or.inr rfl⟩
            · rw [mm_up_o e, ← g c hc]
              exact ⟨fun y => y.resolve_right e, Or.inl⟩
          have Gn : OG σ (mm_up ρ 99 u 1) n (N + 1) (it (ph B) (s, t)) := fun c hc => by
            by_cases e : c = u
            · subst e
              rw [mm_up_s]
              exact ⟨fun _ => ⟨N, by omega, c2⟩, fun _ => by decide⟩
            · rw [mm_up_o e, G c hc]
              constructor
              · rintro ⟨i, hi, y⟩; exact ⟨i, by omega, y⟩
              · rintro ⟨i, hi, y⟩
                by_cases ei : i = N
                · subst ei
                  rw [← c2] at y
                  exact absurd (dcd_inj Z hc c1 y) e
                · exact ⟨i, by omega, y⟩
          have bn : bc (v ||| 2 ^ u) 42 = N + 1 := by rw [bc_add vw, if_pos hw, hv]
          have f9 : ∀ c, c ≠ 99 → (mm_up ρ 99 u 1) c = ρ c := fun c h => mm_up_n h
          have bw : (nI w >>> (nI r &&& 31)) &&& 1 = 1 ↔ ∃ i, i < N ∧ wo B s t i = wo B s t N := by
            rw [bit_v (by omega) (by omega), rN, ← wb r]
            by_cases y : w.testBit r = true
            · rw [if_pos y]; exact ⟨fun _ => y, fun _ => rfl⟩
            · rw [if_neg y]; exact ⟨fun h => absurd h (by decide), fun h => absurd h y⟩
          have one : (∃ i j, i < j ∧ j < N + 1 ∧ wo B s t i = wo B s t j) → ((1 : Int32) = 0 ↔ ∀ i j, i < j → j < N + 1 → wo B s t i ≠ wo B s t j) := fun ⟨i, j, h1, h2, h3⟩ => ⟨fun h => absurd h (by decide), fun h => absurd h3 (h i j h1 h2)⟩
          refine kb_109_145 (pk_in u 42 hw) (fun y => ?_) (fun y => ?_)
          · rw [nar_1, nI_clamp (show u < 2 ^ 31 by omega)]
            refine kb_109_152 (fun y2 => kb_109_162 (pk_in N 48 (by omega)) (go _ _ _ f9 gn bn Gn (one ?_))) (fun y2 => kb_109_166 (pk_in N 48 (by omega)) (go _ _ _ f9 gn bn Gn ⟨fun _ i j h1 h2 => ?_, fun _ => rfl⟩))
            · obtain ⟨i, hi, e⟩ := bw.mp y2
              exact ⟨i, N, hi, by omega, e⟩
            · by_cases e : j = N
              · subst e; exact fun e => y2 (bw.mpr ⟨i, h1, e⟩)
              · exact x6i.mp y i j h1 (by omega)
          · rw [nar_1, nI_clamp (show u < 2 ^ 31 by omega)]
            refine kb_109_162 (pk_in N 48 (by omega)) (go _ _ _ f9 gn bn Gn (one ?_))
            by_cases c : ∃ i j, i < j ∧ j < N ∧ wo B s t i = wo B s t j
            · obtain ⟨i, j, h1, h2, h3⟩ := c
              exact ⟨i, j, h1, by omega, h3⟩
            · exact absurd (x6i.mpr (fun i j h1 h2 h3 => c ⟨i, j, h1, h2, h3⟩)) y
        · rw [wr, nI_clamp (by omega)] at z; exact z
    · intro c hc ih ρ f1 z99
      refine kb_109_79 (fun g => absurd g (hI_nle (a := 42) (by omega) hc)) (fun _ => kb_109_85 (pk_in c 42 hc) ?_)
      rw [nI_1, nar_0, nI_clamp (show c < 2 ^ 31 by omega)]
      refine ih _ (fun c' h => by rw [mm_up_n h]; exact f1 c' h) (fun c' h => ?_)
      by_cases e : c' = c
      · subst e; exact mm_up_s
      · rw [mm_up_o e]; exact z99 c' (by omega)
  · intro r hr ih x hx
    have cr : (nI r).toNatClampNeg = r := nI_clamp (by omega)
    have stay : (x = -1 ∧ (∀ i, i < r + 1 → ¬ m.testBit i = true) ∨ ∃ s, x = nI s ∧ wms σ m (r + 1) s) → mw (d + 1) mt_109 Q 71 [some (.ref 10), some (.int x), some (.int (nI r)), none, none, none, none] [] τ := fun h => kb_109_71 (by rw [nI_1]; exact ih x h)
    have take : wms σ m (r + 1) r → mw (d + 1) mt_109 Q 69 [some (.ref 10), some (.int x), some (.int (nI r)), none, none, none, none] [] τ := fun h => kb_109_69 (by rw [nI_1]; exact ih _ (Or.inr ⟨r, rfl, h⟩))
    refine kb_109_4 (fun g => absurd g (hI_nle (a := 9) (by omega) hr)) (fun _ => kb_109_10 (pk_in r 9 hr) (fun z => stay ?_) (fun z => ?_))
    · rw [cr, e75] at z
      have nr : ¬ m.testBit r = true := fun y => (Z.dm hr).mpr y z
      rcases hx with ⟨h1, h2⟩ | ⟨s, h1, h2⟩
      · refine Or.inl ⟨h1, fun i hi => ?_⟩
        by_cases e : i = r
        · subst e; exact nr
        · exact h2 i (by omega)
      · refine Or.inr ⟨s, h1, h2.1, by have := h2.2.1; omega, h2.2.2.1, fun j hj mj => ?_⟩
        by_cases e : j = r
        · subst e; exact absurd mj nr
        · exact h2.2.2.2 j (by omega) mj
    · rw [cr, e75] at z
      have mr := (Z.dm hr).mp z
      have self : ¬ fw σ r r := by unfold fw; omega
      refine kb_109_19 (fun y => take ⟨hr, by omega, mr, fun j hj mj => ?_⟩) (fun y => ?_)
      · rcases hx with ⟨_, h2⟩ | ⟨s, h1, h2⟩
        · by_cases e : j = r
          · subst e; exact self
          · exact absurd mj (h2 j (by omega))
        · rw [h1] at y; exact absurd y (nI_m1 (by have := h2.1; omega))
      · rcases hx with ⟨h1, _⟩ | ⟨s, es, W⟩
        · exact absurd h1 y
        · have s9 := W.1
          have is : vp_in x 9 := by rw [es]; exact pk_in s 9 s9
          have cs : x.toNatClampNeg = s := by rw [es]; exact nI_clamp (by omega)
          obtain ⟨_, _, p1, p2⟩ := Z.pr hr mr
          obtain ⟨_, _, p3, p4⟩ := Z.pr s9 W.2.2.1
          have lt76 : (τ 76 (nI r).toNatClampNeg) < (τ 76 x.toNatClampNeg) ↔ pX σ r < pX σ s := by rw [cr, cs, e76, p1, p3, Int32.lt_iff_toInt_lt]; rfl
          have eq76 : (τ 76 (nI r).toNatClampNeg) = (τ 76 x.toNatClampNeg) ↔ pX σ r = pX σ s := by rw [cr, cs, e76, p1, p3, ← Int32.toInt_inj]; rfl
          have le77 : (τ 77 x.toNatClampNeg) ≤ (τ 77 (nI r).toNatClampNeg) ↔ pY σ s ≤ pY σ r := by rw [cr, cs, e77, p2, p4, Int32.le_iff_toInt_le]; rfl
          have st' : ¬ fw σ r s → mw (d + 1) mt_109 Q 71 [some (.ref 10), some (.int x), some (.int (nI r)), none, none, none, none] [] τ := fun h => stay (Or.inr ⟨s, es, s9, by have := W.2.1; omega, W.2.2.1, fun j hj mj => by
            by_cases e : j = r
            · subst e; exact h
            · exact W.2.2.2 j (by omega) mj⟩)
          have tk' : fw σ r s → mw (d + 1) mt_109 Q 69 [some (.ref 10), some (.int x), some (.int (nI r)), none, none, none, none] [] τ := fun h => take ⟨hr, by omega, mr, fun j hj mj => by
            by_cases e : j = r
            · subst e; exact self
            · have := W.2.2.2 j (by omega) mj
              unfold fw at *
              omega⟩
          refine kb_109_24 (pk_in r 9 hr) is (fun a => tk' (Or.inl (lt76.mp a))) (fun a => kb_109_39 (pk_in r 9 hr) is (fun b => kb_109_54 (pk_in r 9 hr) is (fun c => st' ?_) (fun c => tk' ?_)) (fun b => st' ?_))
          · rw [lt76] at a; rw [eq76] at b; rw [le77] at c; unfold fw; omega
          · rw [lt76] at a; rw [eq76] at b; rw [le77] at c; unfold fw; omega
          · rw [lt76] at a; rw [eq76] at b; unfold fw; omega
end
section
-- the reference's faces are the class's
theorem it_mul {f : Nat × Nat → Nat × Nat} {x : Nat × Nat} {p : Nat} (h : it f x p = x) (r : Nat) : ∀ q, it f x (p * q + r) = it f x r
  | 0 => by rw [Nat.mul_zero, Nat.zero_add]
  | q + 1 => by
    rw [show p * (q + 1) + r = p + (p * q + r) by rw [Nat.mul_succ]; omega, it_add, h]
    exact it_mul h r q
theorem it_mod {f : Nat × Nat → Nat × Nat} {x : Nat × Nat} {p : Nat} (h : it f x p = x) (k : Nat) : it f x k = it f x (k % p) := by
  have := it_mul h (k % p) (k / p)
  rw [Nat.div_add_mod] at this
  exact this
def RF (σ ρ : mm_S) (m : Nat) (B : Nat → Nat → Nat) (G0 : Nat × Nat → Prop) (f : Nat) (y : Nat → Nat × Nat) : Prop :=
  (∀ g, g < f → Dt σ m (y g) ∧ ¬ G0 (y g) ∧ (∃ p, 1 ≤ p ∧ it (ph B) (y g) p = y g) ∧ ∃ M, M < 512 ∧ ρ 86 g = nI M ∧ ∀ a, (M.testBit a = true ↔ ∃ k, (it (ph B) (y g) k).1 = a)) ∧ (∀ g g', g < g' → g' < f → ∀ k, it (ph B) (y g) k ≠ y g')
def GG (B : Nat → Nat → Nat) (G0 : Nat × Nat → Prop) (f : Nat) (y : Nat → Nat × Nat) (x : Nat × Nat) : Prop := G0 x ∨ ∃ g k, g < f ∧ x = it (ph B) (y g) k
theorem GG_b {σ ρ : mm_S} {n m f : Nat} {B : Nat → Nat → Nat} {G0 : Nat × Nat → Prop} {y : Nat → Nat × Nat} (C : CK σ n m) (N0 : NC σ n) (H : BN σ m B) (b0 : ∀ x, Dt σ m x → G0 (ph B x) → G0 x) (R : RF σ ρ m B G0 f y) (x : Nat × Nat) (hx : Dt σ m x) (h : GG B G0 f y (ph B x)) : GG B G0 f y x := by
  rcases h with h | ⟨g, k, hg, e⟩
  · exact Or.inl (b0 x hx h)
  · refine Or.inr ⟨g, ?_⟩
    obtain ⟨D, _, ⟨p, p1, ep⟩, _⟩ := R.1 g hg
    have DX := it_D (D := Dt σ m) (fun x h => pn_D C H x h) D
    rcases Nat.eq_zero_or_pos k with z | z
    · subst z
      refine ⟨p - 1, hg, pn_inj C N0 H _ _ hx (DX _) ?_⟩
      rw [e]
      show y g = it (ph B) (y g) (p - 1 + 1)
      rw [show p - 1 + 1 = p by omega, ep]
    · refine ⟨k - 1, hg, pn_inj C N0 H _ _ hx (DX _) ?_⟩
      rw [e]
      show _ = it (ph B) (y g) (k - 1 + 1)
      rw [show k - 1 + 1 = k by omega]
theorem c_110s {d n m : Nat} {Q : mm_Q} {σ τ : mm_S} {B : Nat → Nat → Nat} {G0 : Nat × Nat → Prop} (Z : ZI σ n m) (N0 : NC σ n) (H : BN σ m B) (fr : ∀ c, c ≠ 10 → c ≠ 85 → c ≠ 87 → c ≠ 88 → c ≠ 99 → τ c = σ c) (t6 : τ 10 6 = σ 10 6) (A : AO σ τ n)
    (g0 : ∀ c, c < 2 * n → (¬ τ 99 c = 0 ↔ G0 (dcd σ c))) (b0 : ∀ x, Dt σ m x → G0 (ph B x) → G0 x)
    (q : ∀ τ' f y, (∀ c, c ≠ 10 → c ≠ 86 → c ≠ 99 → τ' c = τ c) → (∀ j, j ≠ 19 → τ' 10 j = τ 10 j) → f ≤ 42 → τ' 10 19 = nI f → RF σ τ' m B G0 f y → (∀ x, Dt σ m x → GG B G0 f y x) → Q none τ') : mD (d + 2) 110 [.ref 10] τ Q := by
  have M := Z.mk
  have C := Z.ck
  have n21 := M.jn.1
  refine ke_110 (kb_110_0 ?_)
  have GMx : ∀ ρ : mm_S, ∃ v, GM ρ v := fun ρ => by
    have : ∀ k, k ≤ 42 → ∃ v : Nat, ∀ c, c < 42 → (v.testBit c = true ↔ c < k ∧ ¬ ρ 99 c = 0) := by
      intro k
      induction k with
      | zero => intro _; exact ⟨0, fun c _ => ⟨fun z => absurd z (by simp), fun z => absurd z.1 (Nat.not_lt_zero c)⟩⟩
      | succ k ih =>
        intro hk
        obtain ⟨v, v2⟩ := ih (by omega)
        by_cases z : ρ 99 k = 0
        · refine ⟨v, fun c hc => ?_⟩
          rw [v2 c hc]
          constructor
          · rintro ⟨h1, h2⟩; exact ⟨by omega, h2⟩
          · rintro ⟨h1, h2⟩
            by_cases e : c = k
            · subst e; exact absurd z h2
            · exact ⟨by omega, h2⟩
        · refine ⟨v ||| 2 ^ k, fun c hc => ?_⟩
          rw [tb_or, v2 c hc]
          constructor
          · rintro (⟨h1, h2⟩ | h)
            · exact ⟨by omega, h2⟩
            · subst h; exact ⟨by omega, z⟩
          · rintro ⟨h1, h2⟩
            by_cases e : c = k
            · exact Or.inr e
            · exact Or.inl ⟨by omega, h2⟩
    obtain ⟨v, v2⟩ := this 42 (Nat.le_refl 42)
    exact ⟨v, fun c hc => (v2 c hc).trans ⟨fun h => h.2, fun h => ⟨hc, h⟩⟩⟩
  obtain ⟨v0, gv0⟩ := GMx τ
  refine lp_dn (P := fun w => ∀ (ρ : mm_S) (v f : Nat) (y : Nat → Nat × Nat), (∀ c, c ≠ 10 → c ≠ 86 → c ≠ 99 → ρ c = τ c) → (∀ j, j ≠ 19 → ρ 10 j = τ 10 j) → GM ρ v → f ≤ bc v 42 → ρ 10 19 = nI f → RF σ ρ m B G0 f y → (∀ c, c < 2 * n → (¬ ρ 99 c = 0 ↔ GG B G0 f y (dcd σ c))) → (∀ c, c < w → ¬ ρ 99 c = 0) → ∀ o2 o3 o4, mw (d + 1) mt_110 Q 7 [some (.ref 10), some (.int (nI w)), o2, o3, o4] [] ρ) (2 * n) ?_ ?_ 0 (Nat.zero_le _) (mm_up τ 10 19 0) v0 0 (fun _ => (0, 0)) (fun c h _ _ => mm_up_n h) (fun j hj => mm_up_o hj) (fun c hc => by rw [mm_up_n (by decide)]; exact gv0 c hc) (Nat.zero_le _) mm_up_s ⟨fun g hg => absurd hg (Nat.not_lt_zero g), fun g g' _ hg => absurd hg (Nat.not_lt_zero g')⟩ (fun c hc => by
      rw [mm_up_n (by decide), g0 c hc]
      exact ⟨Or.inl, fun h => h.resolve_right (fun ⟨g, k, hg, _⟩ => absurd hg (Nat.not_lt_zero g))⟩) (fun c hc => absurd hc (Nat.not_lt_zero c)) none none none
  · intro ρ v f y f1 f2 g hf e19 R G dn o2 o3 o4
    have e6 : (2 : Int32) * ρ 10 6 = nI (2 * n) := by rw [f2 6 (by decide), t6, M.jn.2]; exact nI_mul 2 n
    have := bc_n v 42
    refine kb_110_7 (fun _ => kb_110_136 (q ρ f y f1 f2 (by omega) e19 R (fun x hx => ?_))) (fun z => absurd (by rw [e6]; exact hI_le (by omega) (Nat.le_refl _)) z)
    obtain ⟨c, hc, e⟩ := dcd_ex C hx
    rw [← e]
    exact (G c hc).mp (dn c hc)
  · intro w hw ih ρ v f y f1 f2 g hf e19 R G dn o2 o3 o4
    have e6 : (2 : Int32) * ρ 10 6 = nI (2 * n) := by rw [f2 6 (by decide), t6, M.jn.2]; exact nI_mul 2 n
    have cw : (nI w).toNatClampNeg = w := nI_clamp (by omega)
    refine kb_110_7 (fun z => absurd z (by rw [e6]; exact hI_nle (by omega) hw)) (fun _ => kb_110_17 (pk_in w 42 (by omega)) (fun z => ?_) (fun z => kb_110_26 ?_))
    rotate_left
    · rw [cw] at z
      rw [nI_1]
      refine ih ρ v f y f1 f2 g hf e19 R G (fun c hc => ?_) _ _ _
      by_cases e : c = w
      · subst e; exact z
      · exact dn c (by omega)
    rw [cw] at z
    obtain ⟨h1, h2⟩ := half_n w (by omega)
    have hk : w / 2 < n := by omega
    obtain ⟨KW, e8, ww⟩ := dcd_KR Z hw
    generalize hx0 : dcd σ w = x0 at *
    have D0 : Dt σ m x0 := (KR_D Z KW).1
    have nG : ¬ GG B G0 f y x0 := fun h => by
      have := (G w hw).mpr (by rw [hx0]; exact h)
      exact this z
    have DX := it_D (D := Dt σ m) (fun x h => pn_D C H x h) D0
    have r80 : ∀ ρ : mm_S, (∀ c, c ≠ 10 → c ≠ 86 → c ≠ 99 → ρ c = τ c) → ρ 80 = σ 80 ∧ ρ 81 = σ 81 ∧ AO σ ρ n := fun ρ h => ⟨by rw [h 80 (by decide) (by decide) (by decide)]; exact fr 80 (by decide) (by decide) (by decide) (by decide) (by decide), by rw [h 81 (by decide) (by decide) (by decide)]; exact fr 81 (by decide) (by decide) (by decide) (by decide) (by decide), fun r' hr' => by rw [h 87 (by decide) (by decide) (by decide), h 88 (by decide) (by decide) (by decide)]; exact A r' hr'⟩
    -- where a face ends
    have fin : ∀ (i : Nat) (ρ : mm_S) (v r k X : Nat), (∀ c, c ≠ 10 → c ≠ 86 → c ≠ 99 → ρ c = τ c) → (∀ j, j ≠ 19 → ρ 10 j = τ 10 j) → GM ρ v → f ≤ bc v 42 → (i = 0 ∨ f < bc v 42) → ρ 10 19 = nI f → RF σ ρ m B G0 f y → KR σ n k r (it (ph B) x0 i) → (∀ c, c < 2 * n → (¬ ρ 99 c = 0 ↔ GG B G0 f y (dcd σ c) ∨ ∃ j, j < i ∧ dcd σ c = it (ph B) x0 j)) → (∀ a b, a < b → b < i → it (ph B) x0 a ≠ it (ph B) x0 b) → X < 512 → (∀ a, X.testBit a = true ↔ ∃ j, j < i ∧ (it (ph B) x0 j).1 = a) → (∀ c, c < w → ¬ ρ 99 c = 0) → ¬ ρ 99 (wfn σ k r) = 0 → mw (d + 1) mt_110 Q 109 [some (.ref 10), some (.int (nI w)), some (.int (nI k)), some (.int (nI r)), some (.int (nI X))] [] ρ := by
      intro i ρ v r k X f1 f2 g hf hst e19 R K Gi dis X9 Xb dn z
      obtain ⟨_, c1, c2⟩ := KR_D Z K
      have bk : ∀ i, GG B G0 f y (it (ph B) x0 i) → GG B G0 f y x0 := by
        intro i
        induction i with
        | zero => exact fun h => h
        | succ i ihi => exact fun h => ihi (GG_b C N0 H b0 R _ (DX i) h)
      obtain ⟨i1, per⟩ : 1 ≤ i ∧ it (ph B) x0 i = x0 := by
        rcases (Gi _ c1).mp z with h | ⟨j, hj, h⟩
        · rw [c2] at h; exact absurd (bk i h) nG
        · rw [c2] at h
          have j0 := it_back (D := Dt σ m) (fun x h => pn_D C H x h) (fun x y hx hy h => pn_inj C N0 H x y hx hy h) D0 hj h dis
          subst j0
          exact ⟨hj, h⟩
      have fl : f < bc v 42 := hst.resolve_left (by omega)
      have := bc_n v 42
      have orb : ∀ k, ∃ j, j < i ∧ it (ph B) x0 k = it (ph B) x0 j := fun k => ⟨k % i, Nat.mod_lt _ i1, it_mod per k⟩
      refine kb_110_109 (by rw [e19]; exact pk_in f 42 (by omega)) ?_
      rw [nI_1, e19, nI_clamp (show f < 2 ^ 31 by omega)]
      have e19' : (mm_up ρ 86 f (nI X)) 10 19 = nI f := by rw [mm_up_n (by decide)]; exact e19
      rw [e19', nI_1]
      obtain ⟨y', yf, yo⟩ : ∃ y' : Nat → Nat × Nat, y' f = x0 ∧ ∀ g, g ≠ f → y' g = y g := ⟨fun g => if g = f then x0 else y g, if_pos rfl, fun g h => if_neg h⟩
      refine ih _ v (f + 1) y' (fun c h1 h2 h3 => by rw [mm_up_n h1, mm_up_n h2]; exact f1 c h1 h2 h3) (fun j hj => by rw [mm_up_o hj, mm_up_n (by decide)]; exact f2 j hj) (fun c hc => by rw [mm_up_n (by decide), mm_up_n (by decide)]; exact g c hc) (by omega) mm_up_s ⟨fun g' hg' => ?_, fun g' g'' h1 h2 k => ?_⟩ (fun c hc => ?_) (fun c hc => ?_) _ _ _
      · by_cases eg : g' = f
        · rw [eg, yf]
          refine ⟨D0, fun h => nG (Or.inl h), ⟨i, i1, per⟩, X, X9, by rw [mm_up_n (by decide)]; exact mm_up_s, fun a => ?_⟩
          rw [Xb]
          constructor
          · rintro ⟨j, _, e⟩; exact ⟨j, e⟩
          · rintro ⟨k, e⟩
            obtain ⟨j, hj, e'⟩ := orb k
            exact ⟨j, hj, by rw [← e']; exact e⟩
        · rw [yo g' eg]
          obtain ⟨a1, a2, a3, M', m1, m2, m3⟩ := R.1 g' (by omega)
          exact ⟨a1, a2, a3, M', m1, by rw [mm_up_n (by decide), mm_up_o eg]; exact m2, m3⟩
      · rw [yo g' (by omega)]
        by_cases eg : g'' = f
        · rw [eg, yf]
          exact fun e => nG (Or.inr ⟨g', k, by omega, e.symm⟩)
        · rw [yo g'' eg]
          exact R.2 g' g'' h1 (by omega) k
      · rw [mm_up_n (by decide), mm_up_n (by decide), Gi c hc]
        constructor
        · rintro (h | ⟨j, hj, e⟩)
          · rcases h with h | ⟨g', k, hg', e⟩
            · exact Or.inl h
            · exact Or.inr ⟨g', k, by omega, by rw [yo g' (by omega)]; exact e⟩
          · exact Or.inr ⟨f, j, by omega, by rw [yf]; exact e⟩
        · rintro (h | ⟨g', k, hg', e⟩)
          · exact Or.inl (Or.inl h)
          · by_cases eg : g' = f
            · rw [eg, yf] at e
              obtain ⟨j, hj, e'⟩ := orb k
              exact Or.inr ⟨j, hj, e.trans e'⟩
            · rw [yo g' eg] at e
              exact Or.inl (Or.inr ⟨g', k, by omega, e⟩)
      · rw [mm_up_n (by decide), mm_up_n (by decide)]
        by_cases e : c = w
        · subst e
          exact (Gi c hw).mpr (Or.inr ⟨0, i1, hx0⟩)
        · exact dn c (by omega)
    -- the walk of one face
    have walk : ∀ (e i : Nat) (ρ : mm_S) (v r k X : Nat), bc v 42 + e = 42 → (∀ c, c ≠ 10 → c ≠ 86 → c ≠ 99 → ρ c = τ c) → (∀ j, j ≠ 19 → ρ 10 j = τ 10 j) → GM ρ v → f ≤ bc v 42 → (i = 0 ∨ f < bc v 42) → ρ 10 19 = nI f → RF σ ρ m B G0 f y → KR σ n k r (it (ph B) x0 i) → (∀ c, c < 2 * n → (¬ ρ 99 c = 0 ↔ GG B G0 f y (dcd σ c) ∨ ∃ j, j < i ∧ dcd σ c = it (ph B) x0 j)) → (∀ a b, a < b → b < i → it (ph B) x0 a ≠ it (ph B) x0 b) → X < 512 → (∀ a, X.testBit a = true ↔ ∃ j, j < i ∧ (it (ph B) x0 j).1 = a) → (∀ c, c < w → ¬ ρ 99 c = 0) → mw (d + 1) mt_110 Q 58 [some (.ref 10), some (.int (nI w)), some (.int (nI k)), some (.int (nI r)), some (.int (nI X))] [] ρ := by
      intro e
      induction e with
      | zero =>
        intro i ρ v r k X he f1 f2 g hf hst e19 R K Gi dis X9 Xb dn
        have kn := K.1
        have wr : wfn ρ k r = wfn σ k r := by unfold wfn; rw [(r80 ρ f1).1]
        have hw' : wfn σ k r < 42 := wfn_lt (by omega)
        have full := (g _ hw').mp (bc_full 42 (by omega) _ hw')
        exact kb_110_58 (c_106 (by omega) (kb_110_68 (by rw [wr]; exact pk_in _ 42 hw') (fun y => absurd y (by rw [wr, nI_clamp (by omega)]; exact full)) (fun _ => fin i ρ v r k X f1 f2 g hf hst e19 R K Gi dis X9 Xb dn full)))
      | succ e ihe =>
        intro i ρ v r k X he f1 f2 g hf hst e19 R K Gi dis X9 Xb dn
        have kn := K.1
        obtain ⟨x80, x81, xA⟩ := r80 ρ f1
        have wr : wfn ρ k r = wfn σ k r := by unfold wfn; rw [x80]
        have hw' : wfn σ k r < 42 := wfn_lt (by omega)
        refine kb_110_58 (c_106 (by omega) (kb_110_68 (by rw [wr]; exact pk_in _ 42 hw') (fun y' => kb_110_72 (c_106 (by omega) ?_)) (fun y' => fin i ρ v r k X f1 f2 g hf hst e19 R K Gi dis X9 Xb dn (by rw [wr, nI_clamp (by omega)] at y'; exact y'))))
        rw [wr] at y' ⊢
        obtain ⟨DN, c1, c2⟩ := KR_D Z K
        obtain ⟨hk', hr, he', x1, x2, x9⟩ := id K
        generalize hu : wfn σ k r = u at *
        rw [nI_clamp (show u < 2 ^ 31 by omega)] at y'
        obtain ⟨b1, b2, b3⟩ := Dt_2 C DN
        have emo : em σ (it (ph B) x0 i).2 k := by
          obtain ⟨o, o9, _, _, _, eo, emo, _⟩ := Z.ot hk' hr he'
          have := nI9 o9 x9 (eo.symm.trans x2)
          rw [← this]; exact emo
        have new : ∀ j, j < i → it (ph B) x0 j ≠ it (ph B) x0 i := fun j hj e => (Gi u c1).mpr (Or.inr ⟨j, hj, by rw [c2, e]⟩) y'
        have vw : ¬ v.testBit u = true := fun z => (g u hw').mp z y'
        refine kb_110_82 (pk_in u 42 hw') ?_
        rw [nar_1, nI_clamp (show u < 2 ^ 31 by omega)]
        have f3 : ∀ c, c ≠ 10 → c ≠ 86 → c ≠ 99 → (mm_up ρ 99 u 1) c = τ c := fun c h1 h2 h3 => by rw [mm_up_n h3]; exact f1 c h1 h2 h3
        obtain ⟨y80, y81, yA⟩ := r80 _ f3
        refine c_101 (pk_in k 21 (by omega)) ?_
        have e101 : f_101 (mm_up ρ 99 u 1) (nI k) (nI r) = nI (it (ph B) x0 i).2 := by
          rw [← x2]; unfold f_101; rw [y80, y81]
        rw [e101]
        refine kb_110_98 (c_105s Z N0 yA b1 hk' emo (fun k' o o' hk'' he'' h1 h2 h3 => kb_110_105 ?_))
        have KN : KR σ n k' (it (ph B) x0 i).2 (it (ph B) x0 (i + 1)) := KR_nx Z H K hk'' he'' h1 h2 h3
        rw [one_sh (by omega), or_bit]
        have bn : bc (v ||| 2 ^ u) 42 = bc v 42 + 1 := by rw [bc_add vw, if_pos hw']
        refine ihe (i + 1) _ (v ||| 2 ^ u) _ k' _ (by omega) f3 (fun j hj => by rw [mm_up_n (by decide)]; exact f2 j hj) (fun c hc => ?_) (by omega) (Or.inr (by omega)) (by rw [mm_up_n (by decide)]; exact e19) ⟨fun g' hg' => ?_, R.2⟩ KN (fun c hc => ?_) (fun a b u1 u2 => ?_) (Nat.or_lt_two_pow (n := 9) X9 (Nat.pow_lt_pow_right (by decide) hr)) (fun a => ?_) (fun c hc => ?_)
        · rw [tb_or]
          by_cases e : c = u
          · subst e
            rw [mm_up_s]
            exact ⟨fun _ => by decide, fun _ => Or.inr rfl⟩
          · rw [mm_up_o e, ← g c hc]
            exact ⟨fun y => y.resolve_right e, Or.inl⟩
        · obtain ⟨a1, a2, a3, M', m1, m2, m3⟩ := R.1 g' hg'
          exact ⟨a1, a2, a3, M', m1, by rw [mm_up_n (by decide)]; exact m2, m3⟩
        · by_cases e : c = u
          · subst e
            rw [mm_up_s]
            exact ⟨fun _ => Or.inr ⟨i, by omega, c2⟩, fun _ => by decide⟩
          · rw [mm_up_o e, Gi c hc]
            constructor
            · rintro (h | ⟨j, hj, h⟩)
              · exact Or.inl h
              · exact Or.inr ⟨j, by omega, h⟩
            · rintro (h | ⟨j, hj, h⟩)
              · exact Or.inl h
              · by_cases ej : j = i
                · subst ej
                  rw [← c2] at h
                  exact absurd (dcd_inj Z hc c1 h) e
                · exact Or.inr ⟨j, by omega, h⟩
        · by_cases e : b = i
          · subst e; exact new a u1
          · exact dis a b u1 (by omega)
        · rw [tb_or, Xb]
          constructor
          · rintro (⟨j, hj, e⟩ | e)
            · exact ⟨j, by omega, e⟩
            · exact ⟨i, by omega, by rw [e]; exact x1⟩
          · rintro ⟨j, hj, e⟩
            by_cases ej : j = i
            · subst ej; exact Or.inr (by rw [← e]; exact x1)
            · exact Or.inl ⟨j, by omega, e⟩
        · by_cases e : c = u
          · subst e; rw [mm_up_s]; decide
          · rw [mm_up_o e]; exact dn c hc
    obtain ⟨x80, x81, xA⟩ := r80 ρ f1
    have ck : (nI (w / 2)).toNatClampNeg = w / 2 := nI_clamp (by omega)
    have bl := bc_n v 42
    have start : mw (d + 1) mt_110 Q 58 [some (.ref 10), some (.int (nI w)), some (.int (nI (w / 2))), some (.int (nI x0.1)), some (.int (nI 0))] [] ρ := walk (42 - bc v 42) 0 ρ v x0.1 (w / 2) 0 (by omega) f1 f2 g hf (Or.inl rfl) e19 R KW (fun c hc => by rw [G c hc]; exact ⟨Or.inl, fun h => h.resolve_right (fun ⟨j, hj, _⟩ => absurd hj (Nat.not_lt_zero j))⟩) (fun a b _ h => absurd h (Nat.not_lt_zero b)) (by decide) (fun a => ⟨fun z => absurd z (by simp), fun ⟨j, hj, _⟩ => absurd hj (Nat.not_lt_zero j)⟩) dn
    refine kb_110_29 (by decide) (by decide) (fun y' => ?_) (fun y' => ?_)
    · rw [h1]
      rw [h2] at y'
      have ev : w % 2 = 0 := (nI_eq (b := 0) (by omega) (by omega)).mp y'
      refine kb_110_39 (pk_in (w / 2) 21 (by omega)) ?_
      rw [if_pos ev] at e8
      rw [ck, x80, e8]
      exact start
    · rw [h1]
      rw [h2] at y'
      have od : ¬ w % 2 = 0 := fun u => by rw [u] at y'; exact y' rfl
      refine kb_110_48 (pk_in (w / 2) 21 (by omega)) ?_
      rw [if_neg od] at e8
      rw [ck, x81, e8]
      exact start
end
section
-- the great face: both take the least three
def kk (M : Nat) : Nat := 100 * lo M 13 0 + 10 * lo (M &&& (M - 1)) 13 0 + lo ((M &&& (M - 1)) &&& ((M &&& (M - 1)) - 1)) 13 0
set_option maxRecDepth 100000 in
theorem kk_d : ∀ M, M < 512 → 3 ≤ bc M 13 → lo M 13 0 < 10 ∧ lo (M &&& (M - 1)) 13 0 < 10 ∧ lo ((M &&& (M - 1)) &&& ((M &&& (M - 1)) - 1)) 13 0 < 10 ∧ bc (t3 M) 13 = 3 ∧ kk (t3 M) = kk M := by decide +kernel
set_option maxRecDepth 100000 in
theorem kk_n0 : ∀ M, M < 512 → 3 ≤ bc M 13 → ∀ k, k < 13 → M.testBit k = true → bc M k = 0 → k = kk M / 100 := by decide +kernel
set_option maxRecDepth 100000 in
theorem kk_n1 : ∀ M, M < 512 → 3 ≤ bc M 13 → ∀ k, k < 13 → M.testBit k = true → bc M k = 1 → k = kk M / 10 % 10 := by decide +kernel
set_option maxRecDepth 100000 in
theorem kk_n2 : ∀ M, M < 512 → 3 ≤ bc M 13 → ∀ k, k < 13 → M.testBit k = true → bc M k = 2 → k = kk M % 10 := by decide +kernel
def l3 : List Nat := [7, 11, 13, 14, 19, 21, 22, 25, 26, 28, 35, 37, 38, 41, 42, 44, 49, 50, 52, 56, 67, 69, 70, 73, 74, 76, 81, 82, 84, 88, 97, 98, 100, 104, 112, 131, 133, 134, 137, 138, 140, 145, 146, 148, 152, 161, 162, 164, 168, 176, 193, 194, 196, 200, 208, 224, 259, 261, 262, 265, 266, 268, 273, 274, 276, 280, 289, 290, 292, 296, 304, 321, 322, 324, 328, 336, 352, 385, 386, 388, 392, 400, 416, 448]
set_option maxRecDepth 100000 in
theorem l3_m : ∀ a, a < 512 → bc a 13 = 3 → a ∈ l3 := by decide +kernel
set_option maxRecDepth 100000 in
theorem l3_lt : ∀ a, a ∈ l3 → ∀ b, b ∈ l3 → (a.testBit (lo (a ^^^ b) 13 0) = true ↔ kk a < kk b) := by decide +kernel
theorem kk_lt (a : Nat) (ha : a < 512) (h3 : bc a 13 = 3) (b : Nat) (hb : b < 512) (h3b : bc b 13 = 3) : a.testBit (lo (a ^^^ b) 13 0) = true ↔ kk a < kk b := l3_lt a (l3_m a ha h3) b (l3_m b hb h3b)
theorem f_45_k {a b : Nat} (ha : a < 512) (h3 : bc a 13 = 3) (hb : b < 512) (h3b : bc b 13 = 3) : ¬ f_45 (nI a) (nI b) = 0 ↔ kk a < kk b := by
  have x9 : a ^^^ b < 512 := Nat.xor_lt_two_pow (n := 9) ha hb
  have l13 : ∀ k j m, j + k = 13 → lo m k j ≤ 13 := by
    intro k
    induction k with
    | zero => intro j m h; show j ≤ 13; omega
    | succ k ih =>
      intro j m h
      show (if m.testBit j = true then j else lo m k (j + 1)) ≤ 13
      split
      · omega
      · exact ih (j + 1) m (by omega)
  have l := l13 13 0 (a ^^^ b) rfl
  unfold f_45
  rw [xor_bit, F5_n (by omega), hs_bit (by omega) (by omega), ← kk_lt a ha h3 b hb h3b]
  by_cases c : a.testBit (lo (a ^^^ b) 13 0) = true
  · rw [if_pos c]; exact ⟨fun _ => c, fun _ => by decide⟩
  · rw [if_neg c]; exact ⟨fun h => absurd rfl h, fun h => absurd h c⟩
theorem wfb_k {σ : mm_S} {f : Nat} {Mk : Nat → Nat} (h : ∀ g, g < f → Mk g < 512 ∧ σ 43 g = nI (Mk g)) : ∀ k, k ≤ f → (wfb σ k = 0 ∧ ∀ g, g < k → bc (Mk g) 13 ≤ 3) ∨ ∃ b, b < 512 ∧ bc b 13 = 3 ∧ wfb σ k = nI b ∧ (∃ g, g < k ∧ 3 < bc (Mk g) 13 ∧ kk (Mk g) = kk b) ∧ ∀ g, g < k → 3 < bc (Mk g) 13 → kk b ≤ kk (Mk g)
  | 0, _ => Or.inl ⟨rfl, fun g hg => absurd hg (Nat.not_lt_zero g)⟩
  | k + 1, hk => by
    have ih := wfb_k h k (by omega)
    obtain ⟨m1, m2⟩ := h k (by omega)
    have t := f_44_n0 (Mk k) m1
    have F := F153_bc (m := Mk k) (by omega)
    have b13 := bc_n (Mk k) 13
    have z3 : ∀ {b : Nat}, b < 512 → bc b 13 = 3 → ¬ nI b = 0 := fun {b} hb h3 => nI_ne0 (by rcases Nat.eq_zero_or_pos b with y | y; rw [y] at h3; exact absurd h3 (by decide); exact y) (by omega)
    unfold wfb
    rw [m2, F, t.1]
    by_cases c : nI (bc (Mk k) 13) ≤ 3
    · have c' : bc (Mk k) 13 ≤ 3 := (nI_leI (b := 3) (by omega) (by omega)).mp c
      rw [if_pos c]
      rcases ih with ⟨z, y⟩ | ⟨b, b9, b3, e, ⟨g, hg, g1, g2⟩, y⟩
      · refine Or.inl ⟨z, fun g hg => ?_⟩
        by_cases eg : g = k
        · subst eg; exact c'
        · exact y g (by omega)
      · refine Or.inr ⟨b, b9, b3, e, ⟨g, by omega, g1, g2⟩, fun g' hg' w => ?_⟩
        by_cases eg : g' = k
        · subst eg; omega
        · exact y g' (by omega) w
    · have c' : 3 < bc (Mk k) 13 := by
        rcases Nat.lt_or_ge 3 (bc (Mk k) 13) with y | y
        · exact y
        · exact absurd ((nI_leI (b := 3) (by omega) (by omega)).mpr y) c
      rw [if_neg c]
      obtain ⟨_, _, _, t3b, t3k⟩ := kk_d (Mk k) m1 (by omega)
      have new : (∀ g, g < k → 3 < bc (Mk g) 13 → kk (t3 (Mk k)) ≤ kk (Mk g)) → ∃ b, b < 512 ∧ bc b 13 = 3 ∧ nI (t3 (Mk k)) = nI b ∧ (∃ g, g < k + 1 ∧ 3 < bc (Mk g) 13 ∧ kk (Mk g) = kk b) ∧ ∀ g, g < k + 1 → 3 < bc (Mk g) 13 → kk b ≤ kk (Mk g) := fun y =>
        ⟨t3 (Mk k), t.2.1, t3b, rfl, ⟨k, by omega, c', t3k.symm⟩, fun g hg w => by
          by_cases eg : g = k
          · subst eg; omega
          · exact y g (by omega) w⟩
      rcases ih with ⟨z, y⟩ | ⟨b, b9, b3, e, ⟨g, hg, g1, g2⟩, y⟩
      · rw [if_pos z]
        exact Or.inr (new (fun g hg w => by have := y g hg; omega))
      · rw [e, if_neg (z3 b9 b3)]
        have key := f_45_k t.2.1 t3b b9 b3
        by_cases u : f_45 (nI (t3 (Mk k))) (nI b) = 0
        · rw [if_pos u]
          have nl : ¬ kk (t3 (Mk k)) < kk b := fun w => key.mpr w u
          refine Or.inr ⟨b, b9, b3, rfl, ⟨g, by omega, g1, g2⟩, fun g' hg' w => ?_⟩
          by_cases eg : g' = k
          · subst eg; omega
          · exact y g' (by omega) w
        · rw [if_neg u]
          have lt := key.mp u
          exact Or.inr (new (fun g hg w => by have := y g hg w; omega))
theorem tw3_k {σ : mm_S} {b : Nat} (hb : b < 512) (h3 : bc b 13 = 3) : tw3 σ (nI b) = mm_up (mm_up (mm_up (mm_up σ 20 0 (nI (kk b / 100))) 20 1 (nI (kk b / 10 % 10))) 20 2 (nI (kk b % 10))) 3 1 3 := by
  obtain ⟨d1, d2, d3, _⟩ := kk_d b hb (by omega)
  have s1 := f_6_n0 b hb
  have s2 := f_6_n0 _ s1.2
  unfold tw3
  rw [s1.1, s2.1, F5_n (by omega), F5_n (by omega), F5_n (by omega)]
  have e1 : kk b / 100 = lo b 13 0 := by unfold kk; omega
  have e2 : kk b / 10 % 10 = lo (b &&& (b - 1)) 13 0 := by unfold kk; omega
  have e3 : kk b % 10 = lo ((b &&& (b - 1)) &&& ((b &&& (b - 1)) - 1)) 13 0 := by unfold kk; omega
  rw [e1, e2, e3]
/-! the reference -/
def kd (K i : Nat) : Nat := if i = 0 then K / 100 else if i = 1 then K / 10 % 10 else K % 10
theorem c_112s {d m i : Nat} {Q : mm_Q} {τ : mm_S} (hm : m < 512) (h3 : 3 ≤ bc m 13) (hi : i < 3) (q : Q (some (.int (nI (kd (kk m) i)))) τ) : mD (d + 1) 112 [.int (nI m), .int (nI i)] τ Q :=
  c_112 (by omega) (by omega) (fun k hk tk bk => by
    have x0 := kk_n0 m hm h3 k hk tk
    have x1 := kk_n1 m hm h3 k hk tk
    have x2 := kk_n2 m hm h3 k hk tk
    have e : k = kd (kk m) i := by
      unfold kd
      by_cases i0 : i = 0
      · subst i0; rw [if_pos rfl]; exact x0 bk
      · rw [if_neg i0]
        by_cases i1 : i = 1
        · subst i1; rw [if_pos rfl]; exact x1 bk
        · rw [if_neg i1]
          exact x2 (by omega)
    rw [e]; exact q)
theorem kk_b {M : Nat} (hM : M < 512) (h3 : 3 ≤ bc M 13) : kk M < 1000 := by
  obtain ⟨d1, d2, d3, _⟩ := kk_d M hM h3
  unfold kk; omega
theorem kd_b {K i : Nat} (hK : K < 1000) : kd K i < 10 := by
  unfold kd; split
  · omega
  · split <;> omega
theorem c_113s {d a b : Nat} {Q : mm_Q} {τ : mm_S} (ha : a < 512) (hb : b < 512) (h3a : 3 ≤ bc a 13) (h3b : 3 ≤ bc b 13) (q1 : kk a < kk b → Q (some (.int 1)) τ) (q0 : ¬ kk a < kk b → Q (some (.int 0)) τ) : mD (d + 2) 113 [.int (nI a), .int (nI b)] τ Q := by
  have ka := kk_b ha h3a
  have kb := kk_b hb h3b
  refine ke_113 (kb_113_0 ?_)
  refine lp_dn (P := fun i => (∀ j, j < i → kd (kk a) j = kd (kk b) j) → mw (d + 1) mt_113 Q 2 [some (.int (nI a)), some (.int (nI b)), some (.int (nI i))] [] τ) 3 ?_ ?_ 0 (by omega) (fun j hj => absurd hj (Nat.not_lt_zero j))
  · intro h
    refine kb_113_2 (fun _ => kb_113_45 (q0 ?_)) (fun g => absurd (by decide) g)
    have h0 := h 0 (by omega)
    have h1 := h 1 (by omega)
    have h2 := h 2 (by omega)
    simp only [kd, if_true, if_neg (show ¬ (1 : Nat) = 0 by decide), if_neg (show ¬ (2 : Nat) = 0 by decide), if_neg (show ¬ (2 : Nat) = 1 by decide)] at h0 h1 h2
    omega
  · intro i hi ih h
    have da := kd_b (i := i) ka
    have db := kd_b (i := i) kb
    have lex : kd (kk a) i ≠ kd (kk b) i → (kd (kk a) i < kd (kk b) i ↔ kk a < kk b) := fun ne => by
      rcases (show i = 0 ∨ i = 1 ∨ i = 2 by omega) with e | e | e
      · subst e
        simp only [kd, if_true] at ne ⊢
        omega
      · subst e
        have h0 := h 0 (by omega)
        simp only [kd, if_true, if_neg (show ¬ (1 : Nat) = 0 by decide)] at ne h0 ⊢
        omega
      · subst e
        have h0 := h 0 (by omega)
        have h1 := h 1 (by omega)
        simp only [kd, if_true, if_neg (show ¬ (1 : Nat) = 0 by decide), if_neg (show ¬ (2 : Nat) = 0 by decide), if_neg (show ¬ (2 : Nat) = 1 by decide)] at ne h0 h1 ⊢
        omega
    refine kb_113_2 (fun g => absurd g (hI_nle (a := 3) (by omega) hi)) (fun _ => kb_113_7 (c_112s ha h3a hi (kb_113_12 (c_112s hb h3b hi (kb_113_17 (fun e => kb_113_39 ?_) (fun e => kb_113_20 (c_112s ha h3a hi (kb_113_25 (c_112s hb h3b hi (kb_113_30 (fun z => kb_113_37 (q0 ?_)) (fun z => kb_113_33 (q1 ?_))))))))))))
    · rw [nI_1]
      refine ih (fun j hj => ?_)
      by_cases ej : j = i
      · subst ej; exact (nI_eq (by omega) (by omega)).mp e
      · exact h j (by omega)
    · have ne : kd (kk a) i ≠ kd (kk b) i := fun y => e (by rw [y])
      rw [← lex ne]
      intro y
      exact absurd z (hI_nle (by omega) y)
    · have ne : kd (kk a) i ≠ kd (kk b) i := fun y => e (by rw [y])
      rw [← lex ne]
      rcases Nat.lt_or_ge (kd (kk a) i) (kd (kk b) i) with y | y
      · exact y
      · exact absurd (hI_le (by omega) y) z
theorem c_114s {d m : Nat} {Q : mm_Q} {τ : mm_S} {w : Int32} (hm : m < 512) (h3 : 3 ≤ bc m 13) (q : Q none (mt3 τ w (nI (kk m / 100)) (nI (kk m / 10 % 10)) (nI (kk m % 10)))) : mD (d + 2) 114 [.ref 10, .int w, .int (nI m)] τ Q :=
  ke_114 (kb_114_0 (c_112s (i := 0) hm h3 (by decide) (kb_114_7 (c_112s (i := 1) hm h3 (by decide) (kb_114_12 (c_112s (i := 2) hm h3 (by decide) (kb_114_17 (c_100 (kb_114_20 q)))))))))
theorem c_115s {d f : Nat} {Q : mm_Q} {τ : mm_S} {Mk : Nat → Nat} (f42 : f ≤ 42) (e19 : τ 10 19 = nI f) (fm : ∀ g, g < f → Mk g < 512 ∧ τ 86 g = nI (Mk g))
    (q1 : ∀ K, (∃ g, g < f ∧ 3 < bc (Mk g) 13 ∧ kk (Mk g) = K) → (∀ g, g < f → 3 < bc (Mk g) 13 → K ≤ kk (Mk g)) → Q (some (.int 1)) (mt3 τ 3 (nI (K / 100)) (nI (K / 10 % 10)) (nI (K % 10)))) (q0 : (∀ g, g < f → bc (Mk g) 13 ≤ 3) → Q (some (.int 0)) τ) : mD (d + 3) 115 [.ref 10] τ Q := by
  refine ke_115 (kb_115_0 ?_)
  refine lp_dn (P := fun g => ∀ b, b < 512 → ((b = 0 ∧ ∀ g', g' < g → bc (Mk g') 13 ≤ 3) ∨ (3 < bc b 13 ∧ (∃ g', g' < g ∧ Mk g' = b) ∧ ∀ g', g' < g → 3 < bc (Mk g') 13 → kk b ≤ kk (Mk g'))) → mw (d + 2) mt_115 Q 4 [some (.ref 10), some (.int (nI b)), some (.int (nI g))] [] τ) f ?_ ?_ 0 (Nat.zero_le f) 0 (by decide) (Or.inl ⟨rfl, fun g hg => absurd hg (Nat.not_lt_zero g)⟩)
  · intro b hb h3
    refine kb_115_4 (fun _ => kb_115_55 (fun z => kb_115_65 (fun _ => kb_115_73 (q0 ?_)) (fun y => absurd z y)) (fun z => ?_)) (fun g => absurd (by rw [e19]; exact hI_le (by omega) (Nat.le_refl f)) g)
    · rcases h3 with ⟨_, y⟩ | ⟨y, _⟩
      · exact y
      · exfalso
        have : b = 0 := (nI_eq (b := 0) (by omega) (by omega)).mp z
        subst this
        exact absurd y (by decide)
    · rcases h3 with ⟨y, _⟩ | ⟨w3, ⟨g', hg', eg⟩, y⟩
      · rw [y] at z; exact absurd rfl z
      · exact kb_115_59 (c_114s hb (by omega) (kb_115_65 (fun y' => absurd y' z) (fun _ => kb_115_69 (q1 (kk b) ⟨g', hg', by rw [eg]; exact w3, by rw [eg]⟩ y))))
  · intro g hg ih b hb h3
    obtain ⟨m1, m2⟩ := fm g hg
    have cg : (nI g).toNatClampNeg = g := nI_clamp (by omega)
    have b13 := bc_n (Mk g) 13
    refine kb_115_4 (fun z => absurd z (by rw [e19]; exact hI_nle (by omega) hg)) (fun _ => kb_115_12 (pk_in g 42 (by omega)) ?_)
    rw [cg, m2]
    have skip : (3 < bc (Mk g) 13 → 3 < bc b 13 ∧ kk b ≤ kk (Mk g)) → mw (d + 2) mt_115 Q 49 [some (.ref 10), some (.int (nI b)), some (.int (nI g))] [] τ := fun h => kb_115_49 (by
      rw [nI_1]
      refine ih b hb ?_
      rcases h3 with ⟨b0, y⟩ | ⟨w3, ⟨g', hg', eg⟩, y⟩
      · refine Or.inl ⟨b0, fun g' hg' => ?_⟩
        by_cases e : g' = g
        · subst e
          rcases Nat.lt_or_ge 3 (bc (Mk g') 13) with u | u
          · have := (h u).1
            subst b0
            exact absurd this (by decide)
          · exact u
        · exact y g' (by omega)
      · refine Or.inr ⟨w3, ⟨g', by omega, eg⟩, fun g'' hg'' w => ?_⟩
        by_cases e : g'' = g
        · subst e; exact (h w).2
        · exact y g'' (by omega) w)
    refine c_111 (by omega) (kb_115_21 (fun z => skip (fun w => absurd ((nI_leI (b := 3) (by omega) (by omega)).mp z) (by omega))) (fun z => ?_))
    have M3 : 3 < bc (Mk g) 13 := by
      rcases Nat.lt_or_ge 3 (bc (Mk g) 13) with y | y
      · exact y
      · exact absurd ((nI_leI (b := 3) (by omega) (by omega)).mpr (by omega)) z
    have take : (∀ g', g' < g → 3 < bc (Mk g') 13 → kk (Mk g) ≤ kk (Mk g')) → mw (d + 2) mt_115 Q 42 [some (.ref 10), some (.int (nI b)), some (.int (nI g))] [] τ := fun h => kb_115_42 (pk_in g 42 (by omega)) (by
      rw [cg, m2, nI_1]
      refine ih (Mk g) m1 (Or.inr ⟨M3, ⟨g, by omega, rfl⟩, fun g' hg' w => ?_⟩)
      by_cases e : g' = g
      · subst e; exact Nat.le_refl _
      · exact h g' (by omega) w)
    refine kb_115_25 (fun u => take (fun g' hg' w => ?_)) (fun u => kb_115_29 (pk_in g 42 (by omega)) ?_)
    · rcases h3 with ⟨_, y⟩ | ⟨w3, _⟩
      · have := y g' hg'; omega
      · have : b = 0 := (nI_eq (b := 0) (by omega) (by omega)).mp u
        subst this
        exact absurd w3 (by decide)
    · rw [cg, m2]
      rcases h3 with ⟨b0, _⟩ | ⟨w3, ⟨g', hg', eg⟩, y⟩
      · rw [b0] at u; exact absurd rfl u
      · exact c_113s m1 hb (by omega) (by omega) (fun l => kb_115_39 (fun z => absurd z (by decide)) (fun _ => take (fun g' hg' w => by have := y g' hg' w; omega))) (fun l => kb_115_39 (fun _ => skip (fun _ => ⟨w3, by omega⟩)) (fun z => absurd rfl z))
end
section
-- the corners: both say the same
def v4 (a b c e i : Nat) : Nat := if i = 0 then a else if i = 1 then b else if i = 2 then c else e
def qp (L : Nat) (p : Nat → Nat) (i : Nat) : Nat := (p i + L - p 0) % L
def frm (L : Nat) (p : Nat → Nat) : Nat → Nat
  | 0 => 0
  | i + 1 => if qp L p (i + 1) < frm L p i ∧ qp L p (i + 1) = 0 then L else qp L p (i + 1)
def tom (L : Nat) (p : Nat → Nat) (i : Nat) : Nat := if i < 3 then frm L p (i + 1) else L
theorem v4_i {p : Nat → Nat} {i : Nat} (hi : i < 4) : v4 (p 0) (p 1) (p 2) (p 3) i = p i := by
  rcases (show i = 0 ∨ i = 1 ∨ i = 2 ∨ i = 3 by omega) with e | e | e | e <;> subst e <;> rfl
theorem qp_v4 {L : Nat} {p : Nat → Nat} {i : Nat} (hi : i < 4) : qp L (v4 (p 0) (p 1) (p 2) (p 3)) i = qp L p i := by
  unfold qp; rw [v4_i hi, v4_i (show 0 < 4 by decide)]
theorem frm_v4 {L : Nat} {p : Nat → Nat} : ∀ i, i < 4 → frm L (v4 (p 0) (p 1) (p 2) (p 3)) i = frm L p i
  | 0, _ => rfl
  | i + 1, h => by
    show (if qp L (v4 (p 0) (p 1) (p 2) (p 3)) (i + 1) < frm L (v4 (p 0) (p 1) (p 2) (p 3)) i ∧ qp L (v4 (p 0) (p 1) (p 2) (p 3)) (i + 1) = 0 then L else qp L (v4 (p 0) (p 1) (p 2) (p 3)) (i + 1)) = _
    rw [qp_v4 h, frm_v4 i (by omega)]; rfl
theorem st_v4 {L : Nat} {p : Nat → Nat} {i : Nat} (hi : i < 4) : st L (v4 (p 0) (p 1) (p 2) (p 3)) i = st L p i := by
  unfold st; rw [v4_i hi, v4_i (f_50_n i hi).2]
theorem tom_v4 {L : Nat} {p : Nat → Nat} {i : Nat} (hi : i < 4) : tom L (v4 (p 0) (p 1) (p 2) (p 3)) i = tom L p i := by
  unfold tom
  by_cases h : i < 3
  · rw [if_pos h, if_pos h, frm_v4 _ (by omega)]
  · rw [if_neg h, if_neg h]
def smv (L a b c e : Nat) : Nat := st L (v4 a b c e) 0 + st L (v4 a b c e) 1 + st L (v4 a b c e) 2 + st L (v4 a b c e) 3
def layb (L a b c e : Nat) : Bool := (decide (frm L (v4 a b c e) 0 ≤ frm L (v4 a b c e) 1) && decide (frm L (v4 a b c e) 1 ≤ frm L (v4 a b c e) 2) && decide (frm L (v4 a b c e) 2 ≤ frm L (v4 a b c e) 3) && !(decide (a = b) && decide (b = c) && decide (c = e))) == decide (smv L a b c e = L)
def layc (L a b c e s : Nat) : Bool := decide ((a + frm L (v4 a b c e) s) % L = (v4 a b c e) s) && decide (tom L (v4 a b c e) s = frm L (v4 a b c e) s + st L (v4 a b c e) s) && decide (tom L (v4 a b c e) s ≤ L)
def lay4 (L a b c e : Nat) : Bool := !(decide (smv L a b c e = L)) || (layc L a b c e 0 && layc L a b c e 1 && layc L a b c e 2 && layc L a b c e 3)
set_option maxRecDepth 100000 in
theorem lay_d1 : ∀ L, L < 10 → ∀ a, a < L → ∀ b, b < L → ∀ c, c < L → ∀ e, e < L → layb L a b c e = true := by decide +kernel
set_option maxRecDepth 100000 in
theorem lay_d2 : ∀ L, L < 10 → ∀ a, a < L → ∀ b, b < L → ∀ c, c < L → ∀ e, e < L → lay4 L a b c e = true := by decide +kernel
theorem lay_dec (L : Nat) (hL : L < 10) (a : Nat) (ha : a < L) (b : Nat) (hb : b < L) (c : Nat) (hc : c < L) (e : Nat) (he : e < L) : ((frm L (v4 a b c e) 0 ≤ frm L (v4 a b c e) 1 ∧ frm L (v4 a b c e) 1 ≤ frm L (v4 a b c e) 2 ∧ frm L (v4 a b c e) 2 ≤ frm L (v4 a b c e) 3 ∧ ¬ (a = b ∧ b = c ∧ c = e)) ↔ st L (v4 a b c e) 0 + st L (v4 a b c e) 1 + st L (v4 a b c e) 2 + st L (v4 a b c e) 3 = L) ∧ (st L (v4 a b c e) 0 + st L (v4 a b c e) 1 + st L (v4 a b c e) 2 + st L (v4 a b c e) 3 = L → ∀ s, s < 4 → (a + frm L (v4 a b c e) s) % L = (v4 a b c e) s ∧ tom L (v4 a b c e) s = frm L (v4 a b c e) s + st L (v4 a b c e) s ∧ tom L (v4 a b c e) s ≤ L) := by
  have h1 := lay_d1 L hL a ha b hb c hc e he
  have h2 := lay_d2 L hL a ha b hb c hc e he
  unfold layb smv at h1
  rw [beq_iff_eq] at h1
  constructor
  · constructor
    · rintro ⟨x1, x2, x3, x4⟩
      have l : (decide (frm L (v4 a b c e) 0 ≤ frm L (v4 a b c e) 1) && decide (frm L (v4 a b c e) 1 ≤ frm L (v4 a b c e) 2) && decide (frm L (v4 a b c e) 2 ≤ frm L (v4 a b c e) 3) && !(decide (a = b) && decide (b = c) && decide (c = e))) = true := by
        rw [decide_eq_true x1, decide_eq_true x2, decide_eq_true x3]
        simp only [Bool.true_and, Bool.not_eq_true', Bool.and_eq_false_iff, decide_eq_false_iff_not]
        by_cases y1 : a = b
        · by_cases y2 : b = c
          · exact Or.inr (fun y3 => x4 ⟨y1, y2, y3⟩)
          · exact Or.inl (Or.inr y2)
        · exact Or.inl (Or.inl y1)
      rw [l] at h1
      exact of_decide_eq_true h1.symm
    · intro x
      rw [decide_eq_true x] at h1
      simp only [Bool.and_eq_true, decide_eq_true_eq, Bool.not_eq_true', Bool.and_eq_false_iff, decide_eq_false_iff_not] at h1
      obtain ⟨⟨⟨x1, x2⟩, x3⟩, x4⟩ := h1
      refine ⟨x1, x2, x3, fun ⟨y1, y2, y3⟩ => ?_⟩
      rcases x4 with (x4 | x4) | x4
      · exact x4 y1
      · exact x4 y2
      · exact x4 y3
  · intro x s hs
    unfold lay4 smv layc at h2
    rw [decide_eq_true x] at h2
    simp only [Bool.not_true, Bool.false_or, Bool.and_eq_true, decide_eq_true_eq] at h2
    obtain ⟨⟨⟨z0, z1⟩, z2⟩, z3⟩ := h2
    rcases (show s = 0 ∨ s = 1 ∨ s = 2 ∨ s = 3 by omega) with y | y | y | y
    · subst y; exact ⟨z0.1.1, z0.1.2, z0.2⟩
    · subst y; exact ⟨z1.1.1, z1.1.2, z1.2⟩
    · subst y; exact ⟨z2.1.1, z2.1.2, z2.2⟩
    · subst y; exact ⟨z3.1.1, z3.1.2, z3.2⟩
theorem lay_p {L : Nat} {p : Nat → Nat} (hL : L < 10) (hp : ∀ i, i < 4 → p i < L) : ((frm L p 0 ≤ frm L p 1 ∧ frm L p 1 ≤ frm L p 2 ∧ frm L p 2 ≤ frm L p 3 ∧ ¬ (p 0 = p 1 ∧ p 1 = p 2 ∧ p 2 = p 3)) ↔ st L p 0 + st L p 1 + st L p 2 + st L p 3 = L) ∧ (st L p 0 + st L p 1 + st L p 2 + st L p 3 = L → ∀ s, s < 4 → (p 0 + frm L p s) % L = p s ∧ tom L p s = frm L p s + st L p s ∧ tom L p s ≤ L) := by
  have h := lay_dec L hL (p 0) (hp 0 (by decide)) (p 1) (hp 1 (by decide)) (p 2) (hp 2 (by decide)) (p 3) (hp 3 (by decide))
  rw [frm_v4 0 (by decide), frm_v4 1 (by decide), frm_v4 2 (by decide), frm_v4 3 (by decide), st_v4 (show 0 < 4 by decide), st_v4 (show 1 < 4 by decide), st_v4 (show 2 < 4 by decide), st_v4 (show 3 < 4 by decide)] at h
  refine ⟨h.1, fun e s hs => ?_⟩
  have k := h.2 e s hs
  rw [frm_v4 s hs, v4_i hs, tom_v4 hs, st_v4 hs] at k
  exact k
theorem frm_le {L : Nat} {p : Nat → Nat} (h1 : 1 ≤ L) : ∀ i, frm L p i ≤ L
  | 0 => Nat.zero_le L
  | i + 1 => by
    have := Nat.mod_lt (p (i + 1) + L - p 0) (show L > 0 by omega)
    show (if qp L p (i + 1) < frm L p i ∧ qp L p (i + 1) = 0 then L else qp L p (i + 1)) ≤ L
    unfold qp
    split <;> omega
def fit (τ : mm_S) (L : Nat) (o : Nat → Nat) : Prop := τ 10 10 = 1 ∧ ∃ p c : Nat → Nat, (∀ i, i < 4 → c i < 9 ∧ τ 83 i = nI (c i)) ∧ (∀ i, i < 4 → p i < L ∧ o (p i) = c i) ∧ st L p 0 + st L p 1 + st L p 2 + st L p 3 = L
theorem c_116s {d L r c0 : Nat} {Q : mm_Q} {τ : mm_S} {o : Nat → Nat} (l1 : 1 ≤ L) (l9 : L ≤ 9) (e15 : τ 10 15 = nI L) (ol : ∀ k, k < L → o k < 9 ∧ τ 85 k = nI (o k)) (c9 : c0 < 9) (e83 : τ 83 0 = nI c0) (r9 : r < 9) (q0 : (∀ k, k < L → o k ≠ c0) ∨ (∀ k, k < L → o k ≠ r) → Q (some (.int (-1))) τ) (q1 : ∀ i j, i < L → j < L → o i = c0 → o j = r → Q (some (.int (nI ((j + L - i) % L)))) τ) : mD (d + 1) 116 [.ref 10, .int (nI r)] τ Q := by
  refine ke_116 (kb_116_0 ?_)
  refine lp_dn (P := fun k => ∀ y z, ((y = -1 ∧ ∀ i, i < k → o i ≠ c0) ∨ ∃ i, i < L ∧ y = nI i ∧ o i = c0) → ((z = -1 ∧ ∀ i, i < k → o i ≠ r) ∨ ∃ j, j < L ∧ z = nI j ∧ o j = r) → mw d mt_116 Q 7 [some (.ref 10), some (.int (nI r)), some (.int y), some (.int z), some (.int (nI k))] [] τ) L ?_ ?_ 0 (Nat.zero_le L) (-1) (-1) (Or.inl ⟨rfl, fun i hi => absurd hi (Nat.not_lt_zero i)⟩) (Or.inl ⟨rfl, fun i hi => absurd hi (Nat.not_lt_zero i)⟩)
  · intro y z hy hz
    refine kb_116_7 (fun _ => kb_116_63 (fun a => kb_116_73 (q0 (Or.inl ?_))) (fun a => kb_116_68 (fun b => kb_116_73 (q0 (Or.inr ?_))) (fun b => ?_))) (fun g => absurd (by rw [e15]; exact hI_le (by omega) (Nat.le_refl L)) g)
    · rcases hy with ⟨_, h⟩ | ⟨i, hi, ei, _⟩
      · exact h
      · rw [ei] at a; exact absurd a (nI_m1 (by omega))
    · rcases hz with ⟨_, h⟩ | ⟨i, hi, ei, _⟩
      · exact h
      · rw [ei] at b; exact absurd b (nI_m1 (by omega))
    · obtain ⟨i, hi, ei, oi⟩ := hy.resolve_left (fun h => a h.1)
      obtain ⟨j, hj, ej, oj⟩ := hz.resolve_left (fun h => b h.1)
      subst ei; subst ej
      refine kb_116_77 (by rw [e15]; exact nI_ne0 (by omega) (by omega)) ?_
      have e : nI j - nI i + nI L = nI (j + L - i) := by rw [i32_sw, nI_add, nI_sub (by omega)]
      rw [e15, e, rem_n0 L (by omega) (by omega) _ (by omega)]
      exact q1 i j hi hj oi oj
  · intro k hk ih y z hy hz
    obtain ⟨o9, eo⟩ := ol k hk
    have ck : (nI k).toNatClampNeg = k := nI_clamp (by omega)
    have z0 : (0 : Int32).toNatClampNeg = 0 := by decide
    have nx : ∀ y z, ((y = -1 ∧ ∀ i, i < k + 1 → o i ≠ c0) ∨ ∃ i, i < L ∧ y = nI i ∧ o i = c0) → ((z = -1 ∧ ∀ i, i < k + 1 → o i ≠ r) ∨ ∃ j, j < L ∧ z = nI j ∧ o j = r) → mw d mt_116 Q 7 [some (.ref 10), some (.int (nI r)), some (.int y), some (.int z), some (.int (nI k + 1))] [] τ := fun y z h1 h2 => by rw [nI_1]; exact ih y z h1 h2
    have ext : ∀ {y : Int32} {c : Nat}, o k ≠ c → ((y = -1 ∧ ∀ i, i < k → o i ≠ c) ∨ ∃ i, i < L ∧ y = nI i ∧ o i = c) → ((y = -1 ∧ ∀ i, i < k + 1 → o i ≠ c) ∨ ∃ i, i < L ∧ y = nI i ∧ o i = c) := fun {y c} hne h => by
      rcases h with ⟨h1, h2⟩ | h
      · refine Or.inl ⟨h1, fun i hi => ?_⟩
        by_cases e : i = k
        · subst e; exact hne
        · exact h2 i (by omega)
      · exact Or.inr h
    have ca : τ 85 (nI k).toNatClampNeg = τ 83 (0 : Int32).toNatClampNeg ↔ o k = c0 := by
      rw [ck, z0, eo, e83]
      exact ⟨fun h => nI9 o9 c9 h, fun h => by rw [h]⟩
    have cb : τ 85 (nI k).toNatClampNeg = nI r ↔ o k = r := by
      rw [ck, eo]
      exact ⟨fun h => nI9 o9 r9 h, fun h => by rw [h]⟩
    refine kb_116_7 (fun g => absurd g (by rw [e15]; exact hI_nle (by omega) hk)) (fun _ => kb_116_16 (pk_in k 48 (by omega)) (pk_in 0 4 (by decide)) (fun a => kb_116_32 (pk_in k 48 (by omega)) (fun b => kb_116_50 (nx _ _ (Or.inr ⟨k, hk, rfl, ca.mp a⟩) (Or.inr ⟨k, hk, rfl, cb.mp b⟩))) (fun b => kb_116_55 (nx _ _ (Or.inr ⟨k, hk, rfl, ca.mp a⟩) (ext (fun e => b (cb.mpr e)) hz)))) (fun a => kb_116_37 (pk_in k 48 (by omega)) (fun b => kb_116_50 (nx _ _ (ext (fun e => a (ca.mpr e)) hy) (Or.inr ⟨k, hk, rfl, cb.mp b⟩))) (fun b => kb_116_55 (nx _ _ (ext (fun e => a (ca.mpr e)) hy) (ext (fun e => b (cb.mpr e)) hz)))))
theorem c_117s {d L : Nat} {Q : mm_Q} {τ : mm_S} {o : Nat → Nat} (l1 : 1 ≤ L) (l9 : L ≤ 9) (e15 : τ 10 15 = nI L) (ol : ∀ k, k < L → o k < 9 ∧ τ 85 k = nI (o k)) (dis : ∀ i j, i < j → j < L → o i ≠ o j) (hco : (τ 10 10 = 0 ∨ τ 10 10 = 1) ∧ (τ 10 10 = 1 → ∀ i, i < 4 → ∃ a, a < 9 ∧ τ 83 i = nI a))
    (q0 : ∀ τ', (∀ c, c ≠ 92 → c ≠ 93 → τ' c = τ c) → ¬ fit τ L o → Q (some (.int 0)) τ')
    (q1 : ∀ (τ' : mm_S) (p c : Nat → Nat), (∀ c, c ≠ 92 → c ≠ 93 → τ' c = τ c) → (∀ i, i < 4 → c i < 9 ∧ τ 83 i = nI (c i)) → (∀ i, i < 4 → p i < L ∧ o (p i) = c i) → st L p 0 + st L p 1 + st L p 2 + st L p 3 = L → (∀ s, s < 4 → τ' 92 s = nI (frm L p s) ∧ τ' 93 s = nI (tom L p s)) → fit τ L o → Q (some (.int 1)) τ') : mD (d + 2) 117 [.ref 10] τ Q := by
  have uq : ∀ i j, i < L → j < L → o i = o j → i = j := fun i j hi hj e => by
    rcases Nat.lt_trichotomy i j with h | h | h
    · exact absurd e (dis i j h hj)
    · exact h
    · exact absurd e.symm (dis j i h hi)
  refine ke_117 (kb_117_0 (fun z => kb_117_52 (q0 τ (fun _ _ _ => rfl) (fun h => by rw [h.1] at z; exact absurd z (by decide)))) (fun z => ?_))
  have h1 := hco.1.resolve_left z
  have ex : ∃ c : Nat → Nat, ∀ i, i < 4 → c i < 9 ∧ τ 83 i = nI (c i) := ⟨fun i => (τ 83 i).toNatClampNeg, fun i hi => by
    obtain ⟨a, ha, e⟩ := hco.2 h1 i hi
    show (τ 83 i).toNatClampNeg < 9 ∧ τ 83 i = nI (τ 83 i).toNatClampNeg
    rw [e, nI_clamp (by omega)]
    exact ⟨ha, rfl⟩⟩
  obtain ⟨c, hc⟩ := ex
  have exp : ∃ p : Nat → Nat, ∀ i, (∃ k, k < L ∧ o k = c i) → p i < L ∧ o (p i) = c i := ⟨fun i => if h : ∃ k, k < L ∧ o k = c i then h.choose else 0, fun i h => by
    show (if h : ∃ k, k < L ∧ o k = c i then h.choose else 0) < L ∧ o (if h : ∃ k, k < L ∧ o k = c i then h.choose else 0) = c i
    rw [dif_pos h]; exact h.choose_spec⟩
  obtain ⟨p, hp⟩ := exp
  -- a fit has these corners and these places
  have fp : fit τ L o → (∀ i, i < 4 → ∃ k, k < L ∧ o k = c i) ∧ st L p 0 + st L p 1 + st L p 2 + st L p 3 = L := fun ⟨_, p', c', hc', hp', hs'⟩ => by
    have ec : ∀ i, i < 4 → c' i = c i := fun i hi => nI9 (hc' i hi).1 (hc i hi).1 ((hc' i hi).2.symm.trans (hc i hi).2)
    have on : ∀ i, i < 4 → ∃ k, k < L ∧ o k = c i := fun i hi => ⟨p' i, (hp' i hi).1, by rw [(hp' i hi).2, ec i hi]⟩
    have ep : ∀ i, i < 4 → p' i = p i := fun i hi => uq _ _ (hp' i hi).1 (hp i (on i hi)).1 (by rw [(hp' i hi).2, (hp i (on i hi)).2, ec i hi])
    refine ⟨on, ?_⟩
    have es : ∀ i, i < 4 → st L p' i = st L p i := fun i hi => by unfold st; rw [ep i hi, ep _ (f_50_n i hi).2]
    rw [← es 0 (by decide), ← es 1 (by decide), ← es 2 (by decide), ← es 3 (by decide)]; exact hs'
  have lay := fun (on : ∀ i, i < 4 → ∃ k, k < L ∧ o k = c i) => lay_p (L := L) (p := p) (by omega) (fun i hi => (hp i (on i hi)).1)
  have go : ¬ (c 0 = c 1 ∧ c 1 = c 2 ∧ c 2 = c 3) → mw (d + 1) mt_117 Q 54 [some (.ref 10), none, none, none] [] τ := fun hne => by
    refine kb_117_54 ?_
    refine lp_dn (P := fun s => ∀ (ρ : mm_S) (y : Int32), (∀ c, c ≠ 92 → c ≠ 93 → ρ c = τ c) → (∀ i, i < s → ∃ k, k < L ∧ o k = c i) → (∀ i, i < s → ρ 92 i = nI (frm L p i)) → (∀ i, i + 1 < s → frm L p i ≤ frm L p (i + 1)) → y = nI (if s = 0 then 0 else frm L p (s - 1)) → ∀ o3, mw (d + 1) mt_117 Q 58 [some (.ref 10), some (.int y), some (.int (nI s)), o3] [] ρ) 4 ?_ ?_ 0 (by omega) τ 0 (fun _ _ _ => rfl) (fun i h => absurd h (Nat.not_lt_zero i)) (fun i h => absurd h (Nat.not_lt_zero i)) (fun i h => absurd h (by omega)) rfl none
    · intro ρ y fr on e92 ch hy o3
      refine kb_117_58 (fun _ => kb_117_117 ?_) (fun g => absurd (by decide) g)
      have sum : st L p 0 + st L p 1 + st L p 2 + st L p 3 = L := (lay on).1.mp ⟨ch 0 (by decide), ch 1 (by decide), ch 2 (by decide), fun ⟨a1, a2, a3⟩ => hne ⟨by rw [← (hp 0 (on 0 (by decide))).2, a1]; exact (hp 1 (on 1 (by decide))).2, by rw [← (hp 1 (on 1 (by decide))).2, a2]; exact (hp 2 (on 2 (by decide))).2, by rw [← (hp 2 (on 2 (by decide))).2, a3]; exact (hp 3 (on 3 (by decide))).2⟩⟩
      have fi : fit τ L o := ⟨h1, p, c, hc, fun i hi => hp i (on i hi), sum⟩
      refine lp_dn (P := fun s => ∀ (ρ : mm_S), (∀ c, c ≠ 92 → c ≠ 93 → ρ c = τ c) → (∀ i, i < 4 → ρ 92 i = nI (frm L p i)) → (∀ i, i < s → ρ 93 i = nI (tom L p i)) → mw (d + 1) mt_117 Q 119 [some (.ref 10), some (.int y), some (.int (nI s)), o3] [] ρ) 4 ?_ ?_ 0 (by omega) ρ fr e92 (fun c h => absurd h (Nat.not_lt_zero c))
      · intro ρ fr e92 e93
        exact kb_117_119 (fun _ => kb_117_156 (q1 ρ p c fr hc (fun i hi => hp i (on i hi)) sum (fun s hs => ⟨e92 s hs, e93 s hs⟩) fi)) (fun g => absurd (by decide) g)
      · intro s hs ih ρ fr e92 e93
        have cs : (nI s).toNatClampNeg = s := nI_clamp (by omega)
        have nx : ∀ x, x = nI (tom L p s) → mw (d + 1) mt_117 Q 119 [some (.ref 10), some (.int y), some (.int (nI s + 1)), o3] [] (mm_up ρ 93 (nI s).toNatClampNeg x) := fun x ex => by
          rw [nI_1, cs]
          refine ih _ (fun c h1 h2 => by rw [mm_up_n h2]; exact fr c h1 h2) (fun c hc' => by rw [mm_up_n (by decide)]; exact e92 c hc') (fun c hc' => ?_)
          by_cases e : c = s
          · subst e; rw [mm_up_s]; exact ex
          · rw [mm_up_o e]; exact e93 c (by omega)
        refine kb_117_119 (fun g => absurd g (hI_nle (a := 4) (by omega) hs)) (fun _ => kb_117_124 (fun g => kb_117_145 (pk_in s 4 hs) (nx _ ?_)) (fun g => kb_117_134 ?_ (pk_in s 4 hs) (nx _ ?_)))
        · have s3 : ¬ s < 3 := fun u => absurd g (hI_nle (a := 3) (by omega) u)
          rw [fr 10 (by decide) (by decide), e15]
          unfold tom
          rw [if_neg s3]
        · rw [nI_1]
          refine pk_in (s + 1) 4 ?_
          rcases Nat.lt_or_ge s 3 with u | u
          · omega
          · exact absurd (hI_le (a := 3) (by omega) u) g
        · have s3 : s < 3 := by
            rcases Nat.lt_or_ge s 3 with u | u
            · exact u
            · exact absurd (hI_le (a := 3) (by omega) u) g
          rw [nI_1, nI_clamp (by omega), e92 (s + 1) (by omega)]
          unfold tom
          rw [if_pos s3]
    · intro s hs ih ρ y fr on e92 ch hy o3
      have cs : (nI s).toNatClampNeg = s := nI_clamp (by omega)
      refine kb_117_58 (fun g => absurd g (hI_nle (a := 4) (by omega) hs)) (fun _ => kb_117_63 (pk_in s 4 hs) ?_)
      rw [cs, fr 83 (by decide) (by decide), (hc s hs).2]
      have r15 : ρ 10 15 = nI L := by rw [fr 10 (by decide) (by decide)]; exact e15
      have stop : (∀ i, i < 4 → ∃ k, k < L ∧ o k = c i) → s ≠ 0 → frm L p s < frm L p (s - 1) → ¬ fit τ L o := fun on' s0 lt F => by
        have v := (lay on').1.mpr (fp F).2
        rcases (show s = 1 ∨ s = 2 ∨ s = 3 by omega) with e | e | e
        · subst e; have := v.1; simp only [Nat.sub_self] at lt; omega
        · subst e; have := v.2.1; simp only [show 2 - 1 = 1 from rfl] at lt; omega
        · subst e; have := v.2.2.1; simp only [show 3 - 1 = 2 from rfl] at lt; omega
      refine c_116s (c0 := c 0) l1 l9 r15 (fun k hk => by rw [fr 85 (by decide) (by decide)]; exact ol k hk) (hc 0 (by decide)).1 (by rw [fr 83 (by decide) (by decide)]; exact (hc 0 (by decide)).2) (hc s hs).1 (fun h => kb_117_73 (fun _ => kb_117_79 (q0 ρ fr (fun F => ?_))) (fun g => absurd rfl g)) (fun i j hi hj oi oj => kb_117_73 (fun g => absurd g (nI_m1 (by have := Nat.mod_lt (j + L - i) (show L > 0 by omega); omega))) (fun _ => ?_))
      · rcases h with h | h
        · obtain ⟨k, hk, e⟩ := (fp F).1 0 (by decide)
          exact h k hk e
        · obtain ⟨k, hk, e⟩ := (fp F).1 s hs
          exact h k hk e
      · have on0 : ∃ k, k < L ∧ o k = c 0 := ⟨i, hi, oi⟩
        have ons : ∃ k, k < L ∧ o k = c s := ⟨j, hj, oj⟩
        have ei : i = p 0 := uq _ _ hi (hp 0 on0).1 (by rw [oi, (hp 0 on0).2])
        have ej : j = p s := uq _ _ hj (hp s ons).1 (by rw [oj, (hp s ons).2])
        have eq : (j + L - i) % L = qp L p s := by rw [ei, ej]; rfl
        rw [eq]
        have ql : qp L p s < L := Nat.mod_lt _ (by omega)
        have on' : ∀ i, i < s + 1 → ∃ k, k < L ∧ o k = c i := fun i hi => by
          by_cases e : i = s
          · subst e; exact ons
          · exact on i (by omega)
        have put : ∀ x, x = frm L p s → (s ≠ 0 → frm L p (s - 1) ≤ x) → mw (d + 1) mt_117 Q 102 [some (.ref 10), some (.int y), some (.int (nI s)), some (.int (nI x))] [] ρ := fun x ex hx => by
          refine kb_117_102 (pk_in s 4 hs) ?_
          rw [nI_1, cs]
          refine ih _ _ (fun c h1 h2 => by rw [mm_up_n h1]; exact fr c h1 h2) on' (fun i hi => ?_) (fun i hi => ?_) (by rw [if_neg (by omega), show s + 1 - 1 = s from rfl, ex]) _
          · by_cases e : i = s
            · subst e; rw [mm_up_s, ex]
            · rw [mm_up_o e]; exact e92 i (by omega)
          · by_cases e : i + 1 = s
            · have := hx (by omega)
              rw [← e] at ex this
              rw [← ex]; exact this
            · exact ch i (by omega)
        have Yl : (if s = 0 then 0 else frm L p (s - 1)) ≤ L := by
          split
          · omega
          · exact frm_le l1 _
        have fs : frm L p s = if qp L p s < (if s = 0 then 0 else frm L p (s - 1)) ∧ qp L p s = 0 then L else qp L p s := by
          cases s with
          | zero =>
            have : qp L p 0 = 0 := by unfold qp; rw [show p 0 + L - p 0 = L by omega, Nat.mod_self]
            rw [this, if_neg (by simp)]; rfl
          | succ s => rw [if_neg (show ¬ s + 1 = 0 by omega)]; rfl
        have hY : s ≠ 0 → frm L p (s - 1) = (if s = 0 then 0 else frm L p (s - 1)) := fun h => by rw [if_neg h]
        subst hy
        generalize (if s = 0 then 0 else frm L p (s - 1)) = Y at *
        refine kb_117_81 (fun a => ?_) (fun a => ?_)
        · have a' : Y ≤ qp L p s := (nI_leI (by omega) (by omega)).mp a
          refine kb_117_95 (fun _ => put _ ?_ (fun h => by rw [hY h]; exact a')) (fun b => absurd a b)
          rw [fs, if_neg (by omega)]
        · have a' : qp L p s < Y := by
            rcases Nat.lt_or_ge (qp L p s) Y with u | u
            · exact u
            · exact absurd (hI_le (by omega) u) a
          refine kb_117_86 (fun b => kb_117_90 ?_ ?_) (fun b => kb_117_95 (fun b' => absurd b' a) (fun _ => kb_117_100 (q0 ρ fr (fun F => ?_))))
          · have b' : qp L p s = 0 := (nI_eq (b := 0) (by omega) (by omega)).mp b
            rw [r15]
            exact fun _ => put L (by rw [fs, if_pos ⟨a', b'⟩]) (fun h => by rw [hY h]; exact Yl)
          · rw [r15]
            exact fun b' => absurd (hI_le (by omega) Yl) b'
          · have b' : qp L p s ≠ 0 := fun e => b (by rw [e]; rfl)
            have s0 : s ≠ 0 := fun e => by
              subst e
              exact b' (by unfold qp; rw [show p 0 + L - p 0 = L by omega, Nat.mod_self])
            refine stop (fp F).1 s0 ?_ F
            rw [fs, if_neg (fun h => b' h.2), hY s0]; exact a'
  have x0 : (0 : Int32).toNatClampNeg = 0 := by decide
  have x1 : (1 : Int32).toNatClampNeg = 1 := by decide
  have x2 : (2 : Int32).toNatClampNeg = 2 := by decide
  have x3 : (3 : Int32).toNatClampNeg = 3 := by decide
  have cc : ∀ i j, i < 4 → j < 4 → τ 83 i = τ 83 j → c i = c j := fun i j hi hj e => nI9 (hc i hi).1 (hc j hj).1 ((hc i hi).2.symm.trans (e.trans (hc j hj).2))
  have cn : ∀ i j, i < 4 → j < 4 → ¬ τ 83 i = τ 83 j → c i ≠ c j := fun i j hi hj e h => e (by rw [(hc i hi).2, (hc j hj).2, h])
  refine kb_117_7 (pk_in 0 4 (by decide)) (pk_in 1 4 (by decide)) (fun a => kb_117_22 (pk_in 1 4 (by decide)) (pk_in 2 4 (by decide)) (fun b => kb_117_37 (pk_in 2 4 (by decide)) (pk_in 3 4 (by decide)) (fun e => kb_117_52 (q0 τ (fun _ _ _ => rfl) (fun F => ?_))) (fun e => go (fun h => ?_))) (fun b => go (fun h => ?_))) (fun a => go (fun h => ?_))
  · rw [x0, x1] at a
    rw [x1, x2] at b
    rw [x2, x3] at e
    have e1 := cc 0 1 (by decide) (by decide) a
    have e2 := cc 1 2 (by decide) (by decide) b
    have e3 := cc 2 3 (by decide) (by decide) e
    obtain ⟨on, hs⟩ := fp F
    have v := (lay on).1.mpr hs
    exact v.2.2.2 ⟨uq _ _ (hp 0 (on 0 (by decide))).1 (hp 1 (on 1 (by decide))).1 (by rw [(hp 0 (on 0 (by decide))).2, (hp 1 (on 1 (by decide))).2, e1]), uq _ _ (hp 1 (on 1 (by decide))).1 (hp 2 (on 2 (by decide))).1 (by rw [(hp 1 (on 1 (by decide))).2, (hp 2 (on 2 (by decide))).2, e2]), uq _ _ (hp 2 (on 2 (by decide))).1 (hp 3 (on 3 (by decide))).1 (by rw [(hp 2 (on 2 (by decide))).2, (hp 3 (on 3 (by decide))).2, e3])⟩
  · rw [x2, x3] at e; exact cn 2 3 (by decide) (by decide) e h.2.2
  · rw [x1, x2] at b; exact cn 1 2 (by decide) (by decide) b h.2.1
  · rw [x0, x1] at a; exact cn 0 1 (by decide) (by decide) a h.1
end

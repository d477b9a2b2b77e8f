-- the reference's walks are the class's
def BN (σ : mm_S) (m : Nat) (B : Nat → Nat → Nat) : Prop := ∀ a b, a < 9 → m.testBit a = true → aj σ a b → nxt (aj σ a) (vc σ a) b (B a b)
theorem BH_BN {σ τ : mm_S} {m : Nat} (H : BH σ τ m) : BN σ m (Bf τ) := fun _ _ ha ma hab => (BH_sp H ha ma hab).2
theorem pn_D {σ : mm_S} {n m : Nat} {B : Nat → Nat → Nat} (C : CK σ n m) (H : BN σ m B) (x : Nat × Nat) (h : Dt σ m x) : Dt σ m (ph B x) := by
  obtain ⟨b1, b2, b3⟩ := Dt_2 C h
  exact ⟨b1, b2, (H _ _ b1 b2 b3).2.1⟩
theorem pn_inj {σ : mm_S} {n m : Nat} {B : Nat → Nat → Nat} (C : CK σ n m) (N : NC σ n) (H : BN σ m B) (x y : Nat × Nat) (hx : Dt σ m x) (hy : Dt σ m y) (h : ph B x = ph B y) : x = y := by
  obtain ⟨b1, b2, b3⟩ := Dt_2 C hx
  obtain ⟨c1, c2, c3⟩ := Dt_2 C hy
  have e2 : x.2 = y.2 := congrArg Prod.fst h
  have e3 : B x.2 x.1 = B y.2 y.1 := congrArg Prod.snd h
  have n1 := H _ _ b1 b2 b3
  have n2 := H _ _ c1 c2 c3
  rw [← e2] at n2 e3
  rw [← e3] at n2
  exact Prod.ext (nxt_inj (C.gdd N b1 b2) n1 n2) e2
theorem dw_it {B : Nat → Nat → Nat} {s t : Nat} : ∀ k, dwf B s t k = it (ph B) (s, t) k
  | 0 => rfl
  | k + 1 => by
    show ((dwf B s t k).2, B (dwf B s t k).2 (dwf B s t k).1) = ph B (it (ph B) (s, t) k)
    rw [dw_it k]; rfl
theorem it_wo {B : Nat → Nat → Nat} {s t : Nat} (k : Nat) : it (ph B) (s, t) k = (wo B s t k, wo B s t (k + 1)) := by
  rw [← dw_it]; rfl
/-- a join and a room of it stand for a dart -/
def KR (σ : mm_S) (n k r : Nat) (x : Nat × Nat) : Prop := k < n ∧ r < 9 ∧ em σ r k ∧ x.1 = r ∧ f_101 σ (nI k) (nI r) = nI x.2 ∧ x.2 < 9
theorem KR_D {σ : mm_S} {n m k r : Nat} {x : Nat × Nat} (Z : ZI σ n m) (h : KR σ n k r x) : Dt σ m x ∧ wfn σ k r < 2 * n ∧ dcd σ (wfn σ k r) = x := by
  obtain ⟨hk, hr, he, e1, e2, x9⟩ := h
  obtain ⟨o, o9, onr, mr, mo, eo, emo, ao, ends⟩ := Z.ot hk hr he
  have := nI9 o9 x9 (eo.symm.trans e2)
  obtain ⟨a, b⟩ := x
  simp only at e1 e2 this x9
  subst e1; subst this
  obtain ⟨j1, j2⟩ := Z.jj k hk
  refine ⟨⟨hr, mr, ao⟩, by unfold wfn; split <;> omega, ?_⟩
  unfold wfn dcd
  rcases ends with ⟨p, q⟩ | ⟨p, q⟩
  · rw [if_pos p, if_pos (by omega), show (2 * k + 0) / 2 = k by omega, ← j1, ← j2, p, q, nI_clamp (by omega), nI_clamp (by omega)]
  · rw [if_neg (fun z => onr (nI9 o9 hr (p.symm.trans z))), if_neg (by omega), show (2 * k + 1) / 2 = k by omega, ← j1, ← j2, p, q, nI_clamp (by omega), nI_clamp (by omega)]
theorem dcd_KR {σ : mm_S} {n m c : Nat} (Z : ZI σ n m) (hc : c < 2 * n) : KR σ n (c / 2) (dcd σ c).1 (dcd σ c) ∧ σ (if c % 2 = 0 then 80 else 81) (c / 2) = nI (dcd σ c).1 ∧ wfn σ (c / 2) (dcd σ c).1 = c := by
  have hk : c / 2 < n := by omega
  have n21 := Z.ck.jn.1
  obtain ⟨a, b, ha, hb, hne, ma, mb, e1, e2⟩ := Z.ck.je (c / 2) hk
  obtain ⟨j1, j2⟩ := Z.jj (c / 2) hk
  unfold dcd
  rw [e1, e2, nI_clamp (show a < 2 ^ 31 by omega), nI_clamp (show b < 2 ^ 31 by omega)]
  rw [e1] at j1
  rw [e2] at j2
  by_cases p : c % 2 = 0
  · rw [if_pos p, if_pos p]
    refine ⟨⟨hk, ha, Or.inl j1, rfl, ?_, hb⟩, j1, ?_⟩
    · unfold f_101; rw [nI_clamp (show c / 2 < 2 ^ 31 by omega), j1, if_pos rfl, j2]
    · unfold wfn; rw [j1, if_pos rfl]; omega
  · rw [if_neg p, if_neg p]
    refine ⟨⟨hk, hb, Or.inr j2, rfl, ?_, ha⟩, j2, ?_⟩
    · unfold f_101; rw [nI_clamp (show c / 2 < 2 ^ 31 by omega), j1, if_neg (fun z => hne (nI9 ha hb z))]
    · unfold wfn; rw [j1, if_neg (fun z => hne (nI9 ha hb z))]; omega
theorem KR_uniq {σ : mm_S} {n m k l r s : Nat} {x : Nat × Nat} (Z : ZI σ n m) (h : KR σ n k r x) (h' : KR σ n l s x) : k = l ∧ r = s := by
  obtain ⟨hk, hr, he, e1, e2, x9⟩ := h
  obtain ⟨hk', hr', he', e1', e2', _⟩ := h'
  subst e1; subst e1'
  exact ⟨Z.oi hk hk' hr he he' e2 e2' x9, rfl⟩
theorem dcd_inj {σ : mm_S} {n m c c' : Nat} (Z : ZI σ n m) (hc : c < 2 * n) (hc' : c' < 2 * n) (h : dcd σ c = dcd σ c') : c = c' := by
  obtain ⟨k1, _, w1⟩ := dcd_KR Z hc
  obtain ⟨k2, _, w2⟩ := dcd_KR Z hc'
  rw [← h] at k2 w2
  have := (KR_uniq Z k1 k2).1
  rw [← w1, ← w2, this]
theorem KR_nx {σ : mm_S} {n m k k' r o o' : Nat} {B : Nat → Nat → Nat} {x : Nat × Nat} (Z : ZI σ n m) (H : BN σ m B) (h : KR σ n k r x) (hk' : k' < n) (he' : em σ x.2 k') (e1 : f_101 σ (nI k) (nI x.2) = nI o) (e2 : f_101 σ (nI k') (nI x.2) = nI o') (hn : nxt (aj σ x.2) (vc σ x.2) o o') : KR σ n k' x.2 (ph B x) := by
  obtain ⟨D, _, _⟩ := KR_D Z h
  obtain ⟨hk, hr, he, e3, e4, x9⟩ := h
  obtain ⟨b1, b2, b3⟩ := Dt_2 Z.ck D
  obtain ⟨p, p9, pnr, mr, mo, eo, emo, ao, ends⟩ := Z.ot hk hr he
  have pe := nI9 p9 x9 (eo.symm.trans e4)
  subst pe
  -- the other end of k, seen from there
  have back : f_101 σ (nI k) (nI x.2) = nI x.1 := by
    rw [e3]
    unfold f_101
    rw [nI_clamp (show k < 2 ^ 31 by have := Z.ck.jn.1; omega)]
    rcases ends with ⟨u, v⟩ | ⟨u, v⟩
    · rw [u, if_neg (fun z => pnr (nI9 hr p9 z).symm)]
    · rw [u, if_pos rfl, v]
  have on9 : o < 9 := hn.1.1
  have oe := nI9 on9 D.1 (e1.symm.trans back)
  subst oe
  have o'e := nxt_uniq hn (H _ _ b1 b2 b3)
  subst o'e
  exact ⟨hk', b1, he', rfl, e2, hn.2.1.1⟩
theorem nms_u {σ : mm_S} {s t t' : Nat} (h : nms σ s 9 t) (h' : nms σ s 9 t') : t = t' := by
  by_cases e : t = t'
  · exact e
  · have a := h.2.2 t' h'.2.1 h'.1 (fun z => e z.symm)
    have b := h'.2.2 t h.2.1 h.1 e
    have := gcr_anti (vc σ s t) (vc σ s t')
    omega
theorem wms_u {σ : mm_S} {n m s s' : Nat} (C : CK σ n m) (h : wms σ m 9 s) (h' : wms σ m 9 s') : s = s' := by
  obtain ⟨a1, _, a3, a4⟩ := h
  obtain ⟨b1, _, b3, b4⟩ := h'
  have x := a4 s' b1 b3
  have y := b4 s a1 a3
  unfold fw at x y
  exact C.ds s s' a1 b1 a3 b3 (by omega) (by omega)
theorem nms_ah {σ : mm_S} {n m s t : Nat} (C : CK σ n m) (N : NC σ n) (W : wms σ m 9 s) (ht : aj σ s t) (h : ∀ j, aj σ s j → j ≠ t → gah wst (vc σ s t) (vc σ s j)) : nms σ s 9 t := by
  refine ⟨ht, ht.1, fun j _ hj jt => ?_⟩
  have half : ∀ i, aj σ s i → 0 < (vc σ s i).1 ∨ ((vc σ s i).1 = 0 ∧ 0 < (vc σ s i).2) := fun i hi => by
    obtain ⟨i9, mi, ins⟩ := C.aj_dr W.1 W.2.2.1 hi
    have a := W.2.2.2 i i9 mi
    have b := fun z1 z2 => ins (C.ds i s i9 W.1 mi W.2.2.1 z1 z2)
    unfold fw at a
    show 0 < pX σ i - pX σ s ∨ (pX σ i - pX σ s = 0 ∧ 0 < pY σ i - pY σ s)
    rcases Int.lt_trichotomy (pX σ i) (pX σ s) with z | z | z
    · omega
    · right
      refine ⟨by omega, ?_⟩
      rcases Int.lt_trichotomy (pY σ i) (pY σ s) with y | y | y
      · omega
      · exact absurd y (b z)
      · omega
    · omega
  have ht' := half t ht
  have hj' := half j hj
  have := (gah_w _ _).mp (h j hj jt)
  rcases this with ⟨⟨_, z⟩, _⟩ | ⟨_, _, z⟩
  · omega
  · rcases z with ⟨z1, z2⟩ | ⟨_, z⟩
    · unfold gcr
      have p1 : (vc σ s t).1 * (vc σ s j).2 ≤ 0 := Int.mul_nonpos_of_nonneg_of_nonpos (by omega) (by omega)
      have p2 : 0 < (vc σ s t).2 * (vc σ s j).1 := Int.mul_pos z1 (by omega)
      omega
    · exact z
/-- the reference's outline -/
def OG (σ τ : mm_S) (n N : Nat) (X : Nat → Nat × Nat) : Prop := ∀ c, c < 2 * n → (¬ τ 99 c = 0 ↔ ∃ i, i < N ∧ dcd σ c = X i)
theorem c_109s {d n m : Nat} {Q : mm_Q} {σ τ : mm_S} {B : Nat → Nat → Nat} (Z : ZI σ n m) (N0 : NC σ n) (H : BN σ m B) (fr : ∀ c, c ≠ 10 → c ≠ 87 → c ≠ 88 → τ c = σ c) (A : AO σ τ n) (hj : ∀ i, i < 9 → m.testBit i = true → ∃ j, aj σ i j) (h3 : 0 < bc m 9)
    (q1 : ∀ τ' N s t, wms σ m 9 s → nms σ s 9 t → (∀ c, c ≠ 10 → c ≠ 85 → c ≠ 99 → τ' c = τ c) → (∀ j, j ≠ 15 → τ' 10 j = τ 10 j) → 1 ≤ N → N ≤ 42 → τ' 10 15 = nI N → (∀ i, i < N → τ' 85 i = nI (wo B s t i)) → it (ph B) (s, t) N = (s, t) → (∀ i j, i < j → j < N → wo B s t i ≠ wo B s t j) → OG σ τ' n N (it (ph B) (s, t)) → Q (some (.int 1)) τ')
    (q0 : ∀ τ' N s t, wms σ m 9 s → nms σ s 9 t → (∀ c, c ≠ 10 → c ≠ 85 → c ≠ 99 → τ' c = τ c) → (∀ j, j ≠ 15 → τ' 10 j = τ 10 j) → τ' 10 15 = 0 → 1 ≤ N → it (ph B) (s, t) N = (s, t) → (∀ i j, i < j → j < N → it (ph B) (s, t) i ≠ it (ph B) (s, t) j) → (∃ i j, i < j ∧ j < N ∧ wo B s t i = wo B s t j) → Q (some (.int 0)) τ') : mD (d + 2) 109 [.ref 10] τ Q := by
  have M := Z.mk
  have C := Z.ck
  have n21 := M.jn.1
  have e75 : τ 75 = σ 75 := fr 75 (by decide) (by decide) (by decide)
  have e76 : τ 76 = σ 76 := fr 76 (by decide) (by decide) (by decide)
  have e77 : τ 77 = σ 77 := fr 77 (by decide) (by decide) (by decide)
  have e80 : τ 80 = σ 80 := fr 80 (by decide) (by decide) (by decide)
  have e81 : τ 81 = σ 81 := fr 81 (by decide) (by decide) (by decide)
  refine ke_109 (kb_109_0 ?_)
  refine lp_dn (P := fun r => ∀ x, (x = -1 ∧ (∀ i, i < r → ¬ m.testBit i = true) ∨ ∃ s, x = nI s ∧ wms σ m r s) → mw (d + 1) mt_109 Q 4 [some (.ref 10), some (.int x), some (.int (nI r)), none, none, none, none] [] τ) 9 ?_ ?_ 0 (by omega) (-1) (Or.inl ⟨rfl, fun i hi => absurd hi (Nat.not_lt_zero i)⟩)
  · intro x hx
    refine kb_109_4 (fun _ => kb_109_77 ?_) (fun g => absurd (by decide) g)
    obtain ⟨s, es, W⟩ : ∃ s, x = nI s ∧ wms σ m 9 s := by
      rcases hx with ⟨_, h⟩ | h
      · obtain ⟨r, hr, dr⟩ := bc_pos (m := m) 9 h3
        exact absurd dr (h r hr)
      · exact h
    subst es
    have s9 := W.1
    have ms := W.2.2.1
    refine lp_dn (P := fun c => ∀ ρ : mm_S, (∀ c, c ≠ 99 → ρ c = τ c) → (∀ c', c' < c → ρ 99 c' = 0) → mw (d + 1) mt_109 Q 79 [some (.ref 10), some (.int (nI s)), some (.int (nI c)), none, none, none, none] [] ρ) 42 ?_ ?_ 0 (by omega) τ (fun _ _ => rfl) (fun c h => absurd h (Nat.not_lt_zero c))
    · intro ρ f1 z99
      obtain ⟨dg, d8, e87, a1, a2, _⟩ := id A s s9
      obtain ⟨j0, hj0⟩ := hj s s9 ms
      obtain ⟨k0, hk0, hem0, _⟩ := Z.oj s9 ms hj0
      obtain ⟨i0, hi0, _⟩ := a2 k0 hk0 hem0
      obtain ⟨k, hk, hem, e88⟩ := a1 0 (by omega)
      obtain ⟨t, et, hst, first⟩ := AO_first Z N0 A s9 hk hem e88
      have T := nms_ah C N0 W hst first
      have ex16 : (16 : Int32) * nI s = nI (16 * s) := nI_mul 16 s
      refine kb_109_79 (fun _ => kb_109_98 (by rw [ex16]; exact pk_in (16 * s) 144 (by omega)) ?_) (fun g => absurd (by decide) g)
      rw [ex16, nI_clamp (show 16 * s < 2 ^ 31 by omega), f1 88 (by decide), show 16 * s = 16 * s + 0 from rfl, e88]
      have K0 : KR σ n k s (it (ph B) (s, t) 0) := ⟨hk, s9, hem, rfl, et, hst.1⟩
      have D0 : Dt σ m (s, t) := ⟨s9, ms, hst⟩
      have DX : ∀ i, Dt σ m (it (ph B) (s, t) i) := it_D (D := Dt σ m) (fun x h => pn_D C H x h) D0
      have fst : ∀ i, (it (ph B) (s, t) i).1 = wo B s t i := fun i => by rw [it_wo]
      -- where the walk ends
      have fin : ∀ (N : Nat) (ρ : mm_S) (v w : Nat) (r k : Nat) (x6 : Int32), (∀ c, c ≠ 85 → c ≠ 99 → ρ c = τ c) → N ≤ 42 → KR σ n k r (it (ph B) (s, t) N) → OG σ ρ n N (it (ph B) (s, t)) → (∀ a b, a < b → b < N → it (ph B) (s, t) a ≠ it (ph B) (s, t) b) → (∀ i, i < N → ρ 85 i = nI (wo B s t i)) → (x6 = 0 ↔ ∀ i j, i < j → j < N → wo B s t i ≠ wo B s t j) → ¬ ρ 99 (wfn σ k r) = 0 → mw (d + 1) mt_109 Q 207 [some (.ref 10), some (.int (nI s)), some (.int (nI N)), some (.int (nI r)), some (.int (nI k)), some (.int (nI w)), some (.int x6)] [] ρ := by
        intro N ρ v w r k x6 f2 hN K G dis ol x6i z
        obtain ⟨_, c1, c2⟩ := KR_D Z K
        obtain ⟨i, hi, e⟩ := (G _ c1).mp z
        rw [c2] at e
        have i0 := it_back (D := Dt σ m) (fun x h => pn_D C H x h) (fun x y hx hy h => pn_inj C N0 H x y hx hy h) D0 hi e dis
        subst i0
        have cls : it (ph B) (s, t) N = (s, t) := e
        refine kb_109_207 (fun y => kb_109_217 (fun _ => kb_109_226 (q1 _ N s t W T (fun c h1 h2 h3 => by rw [mm_up_n h1]; exact f2 c h2 h3) (fun j hj' => by rw [mm_up_o hj', f2 10 (by decide) (by decide)]) hi hN mm_up_s (fun i hi => by rw [mm_up_n (by decide)]; exact ol i hi) cls (x6i.mp y) (fun c hc => by rw [mm_up_n (by decide)]; exact G c hc))) (fun u => absurd y u)) (fun y => kb_109_213 (fun u => absurd u y) (fun _ => kb_109_230 (q0 _ N s t W T (fun c h1 h2 h3 => by rw [mm_up_n h1]; exact f2 c h2 h3) (fun j hj' => by rw [mm_up_o hj', f2 10 (by decide) (by decide)]) mm_up_s hi cls dis ?_)))
        by_cases c : ∃ i j, i < j ∧ j < N ∧ wo B s t i = wo B s t j
        · exact c
        · exact absurd (x6i.mpr (fun i j h1 h2 h3 => c ⟨i, j, h1, h2, h3⟩)) y
      -- the walk
      refine lp_dn (P := fun N => ∀ (ρ : mm_S) (v w r k : Nat) (x6 : Int32), (∀ c, c ≠ 85 → c ≠ 99 → ρ c = τ c) → GM ρ v → bc v 42 = N → w < 512 → KR σ n k r (it (ph B) (s, t) N) → OG σ ρ n N (it (ph B) (s, t)) → (∀ a b, a < b → b < N → it (ph B) (s, t) a ≠ it (ph B) (s, t) b) → (∀ i, i < N → ρ 85 i = nI (wo B s t i)) → (∀ a, w.testBit a = true ↔ ∃ i, i < N ∧ wo B s t i = a) → (x6 = 0 ↔ ∀ i j, i < j → j < N → wo B s t i ≠ wo B s t j) → mw (d + 1) mt_109 Q 119 [some (.ref 10), some (.int (nI s)), some (.int (nI N)), some (.int (nI r)), some (.int (nI k)), some (.int (nI w)), some (.int x6)] [] ρ) 42 ?_ ?_ 0 (by omega) ρ 0 0 s k 0 (fun c _ h2 => f1 c h2) (fun c hc => ⟨fun z => absurd z (by simp), fun z => absurd (z99 c hc) z⟩) (bcz_0 42) (by decide) K0 (fun c hc => ⟨fun z => absurd (z99 c (by omega)) z, fun ⟨i, hi, _⟩ => absurd hi (Nat.not_lt_zero i)⟩) (fun a b _ h => absurd h (Nat.not_lt_zero b)) (fun i hi => absurd hi (Nat.not_lt_zero i)) (fun a => ⟨fun z => absurd z (by simp), fun ⟨i, hi, _⟩ => absurd hi (Nat.not_lt_zero i)⟩) ⟨fun _ i j _ h => absurd h (Nat.not_lt_zero j), fun _ => rfl⟩
      · intro ρ v w r k x6 f2 g hv w9 K G dis ol wb x6i
        have wr : wfn ρ k r = wfn σ k r := by unfold wfn; rw [f2 80 (by decide) (by decide), e80]
        have kn := K.1
        have hw : wfn σ k r < 42 := wfn_lt (by omega)
        refine kb_109_119 (c_106 (by omega) (kb_109_130 (by rw [wr]; exact pk_in _ 42 hw) (fun z => absurd z ?_) (fun z => fin 42 ρ v w r k x6 f2 (Nat.le_refl _) K G dis ol x6i ?_)))
        · rw [wr, nI_clamp (by omega)]
          exact (g _ hw).mp (bc_full 42 hv _ hw)
        · rw [wr, nI_clamp (by omega)] at z; exact z
      · intro N hN ih ρ v w r k x6 f2 g hv w9 K G dis ol wb x6i
        have wr : wfn ρ k r = wfn σ k r := by unfold wfn; rw [f2 80 (by decide) (by decide), e80]
        have kn := K.1
        have hw : wfn σ k r < 42 := wfn_lt (by omega)
        refine kb_109_119 (c_106 (by omega) (kb_109_130 (by rw [wr]; exact pk_in _ 42 hw) (fun z => kb_109_134 ?_) (fun z => fin N ρ v w r k x6 f2 (by omega) K G dis ol x6i ?_)))
        · -- onward
          refine c_106 (by omega) ?_
          rw [wr] at z ⊢
          obtain ⟨DN, c1, c2⟩ := KR_D Z K
          obtain ⟨hk, hr, he, x1, x2, x9⟩ := id K
          generalize hu : wfn σ k r = u at *
          rw [nI_clamp (show u < 2 ^ 31 by omega)] at z
          obtain ⟨b1, b2, b3⟩ := Dt_2 C DN
          have emo : em σ (it (ph B) (s, t) N).2 k := by
            obtain ⟨o, o9, _, _, _, eo, emo, _⟩ := Z.ot hk hr he
            have := nI9 o9 x9 (eo.symm.trans x2)
            rw [← this]; exact emo
          have new : ∀ i, i < N → it (ph B) (s, t) i ≠ it (ph B) (s, t) N := fun i hi e => (G u c1).mpr ⟨i, hi, by rw [c2, e]⟩ z
          have rN : wo B s t N = r := by rw [← fst N]; exact x1
          have go : ∀ (ρ1 : mm_S) (b : Int32) (v' : Nat), (∀ c, c ≠ 99 → ρ1 c = ρ c) → GM ρ1 v' → bc v' 42 = N + 1 → OG σ ρ1 n (N + 1) (it (ph B) (s, t)) → (b = 0 ↔ ∀ i j, i < j → j < N + 1 → wo B s t i ≠ wo B s t j) → mD (d + 1) 101 [.ref 10, .int (nI k), .int (nI r)] (mm_up ρ1 85 (nI N).toNatClampNeg (nI r)) (fun u τ => mw (d + 1) mt_109 Q 194 [some (.ref 10), some (.int (nI s)), some (.int (nI N + 1)), some (.int (nI r)), some (.int (nI k)), some (.int (nI w ||| ((1 : Int32) <<< (nI r &&& 31)))), some (.int b)] (u.toList ++ []) τ) := by
            intro ρ1 b v' f3 g' hv' G' bi
            have f4 : ∀ c, c ≠ 85 → c ≠ 99 → (mm_up ρ1 85 (nI N).toNatClampNeg (nI r)) c = τ c := fun c h1 h2 => by rw [mm_up_n h1, f3 c h2]; exact f2 c h1 h2
            refine c_101 (pk_in k 21 (by omega)) ?_
            have e101 : f_101 (mm_up ρ1 85 (nI N).toNatClampNeg (nI r)) (nI k) (nI r) = nI (it (ph B) (s, t) N).2 := by
              rw [← x2]
              unfold f_101
              rw [f4 80 (by decide) (by decide), f4 81 (by decide) (by decide), e80, e81]
            rw [e101, nI_1]
            refine kb_109_194 (c_105s Z N0 (fun r' hr' => by rw [f4 87 (by decide) (by decide), f4 88 (by decide) (by decide)]; exact A r' hr') b1 hk emo (fun k' o o' hk' he' h1 h2 h3 => kb_109_202 ?_))
            have KN : KR σ n k' (it (ph B) (s, t) N).2 (it (ph B) (s, t) (N + 1)) := KR_nx Z H K hk' he' h1 h2 h3
            rw [nI_clamp (show N < 2 ^ 31 by omega)] at f4 ⊢
            rw [one_sh (by omega), or_bit]
            refine ih _ v' (w ||| 2 ^ r) _ k' b f4 (fun c hc => by rw [mm_up_n (by decide)]; exact g' c hc) hv' (Nat.or_lt_two_pow (n := 9) w9 (Nat.pow_lt_pow_right (by decide) hr)) KN (fun c hc => by rw [mm_up_n (by decide)]; exact G' c hc) (fun a b' u1 u2 => ?_) (fun i hi => ?_) (fun a => ?_) bi
            · by_cases e : b' = N
              · subst e; exact new a u1
              · exact dis a b' u1 (by omega)
            · by_cases e : i = N
              · subst e; rw [mm_up_s, rN]
              · rw [mm_up_o e, f3 85 (by decide)]; exact ol i (by omega)
            · rw [tb_or, wb]
              constructor
              · rintro (⟨i, hi, e⟩ | e)
                · exact ⟨i, by omega, e⟩
                · exact ⟨N, by omega, by rw [e]; exact rN⟩
              · rintro ⟨i, hi, e⟩
                by_cases ei : i = N
                · subst ei; exact Or.inr (by rw [← e]; exact rN)
                · exact Or.inl ⟨i, by omega, e⟩
          have vw : ¬ v.testBit u = true := fun y => (g u hw).mp y z
          have gn : GM (mm_up ρ 99 u 1) (v ||| 2 ^ u) := fun c hc => by
            rw [tb_or]
            by_cases e : c = u
            · subst e
              rw [mm_up_s]
              exact ⟨fun _ => by decide, fun _ => Or.inr rfl⟩
            · rw [mm_up_o e, ← g c hc]
              exact ⟨fun y => y.resolve_right e, Or.inl⟩
          have Gn : OG σ (mm_up ρ 99 u 1) n (N + 1) (it (ph B) (s, t)) := fun c hc => by
            by_cases e : c = u
            · subst e
              rw [mm_up_s]
              exact ⟨fun _ => ⟨N, by omega, c2⟩, fun _ => by decide⟩
            · rw [mm_up_o e, G c hc]
              constructor
              · rintro ⟨i, hi, y⟩; exact ⟨i, by omega, y⟩
              · rintro ⟨i, hi, y⟩
                by_cases ei : i = N
                · subst ei
                  rw [← c2] at y
                  exact absurd (dcd_inj Z hc c1 y) e
                · exact ⟨i, by omega, y⟩
          have bn : bc (v ||| 2 ^ u) 42 = N + 1 := by rw [bc_add vw, if_pos hw, hv]
          have f9 : ∀ c, c ≠ 99 → (mm_up ρ 99 u 1) c = ρ c := fun c h => mm_up_n h
          have bw : (nI w >>> (nI r &&& 31)) &&& 1 = 1 ↔ ∃ i, i < N ∧ wo B s t i = wo B s t N := by
            rw [bit_v (by omega) (by omega), rN, ← wb r]
            by_cases y : w.testBit r = true
            · rw [if_pos y]; exact ⟨fun _ => y, fun _ => rfl⟩
            · rw [if_neg y]; exact ⟨fun h => absurd h (by decide), fun h => absurd h y⟩
          have one : (∃ i j, i < j ∧ j < N + 1 ∧ wo B s t i = wo B s t j) → ((1 : Int32) = 0 ↔ ∀ i j, i < j → j < N + 1 → wo B s t i ≠ wo B s t j) := fun ⟨i, j, h1, h2, h3⟩ => ⟨fun h => absurd h (by decide), fun h => absurd h3 (h i j h1 h2)⟩
          refine kb_109_145 (pk_in u 42 hw) (fun y => ?_) (fun y => ?_)
          · rw [nar_1, nI_clamp (show u < 2 ^ 31 by omega)]
            refine kb_109_152 (fun y2 => kb_109_162 (pk_in N 48 (by omega)) (go _ _ _ f9 gn bn Gn (one ?_))) (fun y2 => kb_109_166 (pk_in N 48 (by omega)) (go _ _ _ f9 gn bn Gn ⟨fun _ i j h1 h2 => ?_, fun _ => rfl⟩))
            · obtain ⟨i, hi, e⟩ := bw.mp y2
              exact ⟨i, N, hi, by omega, e⟩
            · by_cases e : j = N
              · subst e; exact fun e => y2 (bw.mpr ⟨i, h1, e⟩)
              · exact x6i.mp y i j h1 (by omega)
          · rw [nar_1, nI_clamp (show u < 2 ^ 31 by omega)]
            refine kb_109_162 (pk_in N 48 (by omega)) (go _ _ _ f9 gn bn Gn (one ?_))
            by_cases c : ∃ i j, i < j ∧ j < N ∧ wo B s t i = wo B s t j
            · obtain ⟨i, j, h1, h2, h3⟩ := c
              exact ⟨i, j, h1, by omega, h3⟩
            · exact absurd (x6i.mpr (fun i j h1 h2 h3 => c ⟨i, j, h1, h2, h3⟩)) y
        · rw [wr, nI_clamp (by omega)] at z; exact z
    · intro c hc ih ρ f1 z99
      refine kb_109_79 (fun g => absurd g (hI_nle (a := 42) (by omega) hc)) (fun _ => kb_109_85 (pk_in c 42 hc) ?_)
      rw [nI_1, nar_0, nI_clamp (show c < 2 ^ 31 by omega)]
      refine ih _ (fun c' h => by rw [mm_up_n h]; exact f1 c' h) (fun c' h => ?_)
      by_cases e : c' = c
      · subst e; exact mm_up_s
      · rw [mm_up_o e]; exact z99 c' (by omega)
  · intro r hr ih x hx
    have cr : (nI r).toNatClampNeg = r := nI_clamp (by omega)
    have stay : (x = -1 ∧ (∀ i, i < r + 1 → ¬ m.testBit i = true) ∨ ∃ s, x = nI s ∧ wms σ m (r + 1) s) → mw (d + 1) mt_109 Q 71 [some (.ref 10), some (.int x), some (.int (nI r)), none, none, none, none] [] τ := fun h => kb_109_71 (by rw [nI_1]; exact ih x h)
    have take : wms σ m (r + 1) r → mw (d + 1) mt_109 Q 69 [some (.ref 10), some (.int x), some (.int (nI r)), none, none, none, none] [] τ := fun h => kb_109_69 (by rw [nI_1]; exact ih _ (Or.inr ⟨r, rfl, h⟩))
    refine kb_109_4 (fun g => absurd g (hI_nle (a := 9) (by omega) hr)) (fun _ => kb_109_10 (pk_in r 9 hr) (fun z => stay ?_) (fun z => ?_))
    · rw [cr, e75] at z
      have nr : ¬ m.testBit r = true := fun y => (Z.dm hr).mpr y z
      rcases hx with ⟨h1, h2⟩ | ⟨s, h1, h2⟩
      · refine Or.inl ⟨h1, fun i hi => ?_⟩
        by_cases e : i = r
        · subst e; exact nr
        · exact h2 i (by omega)
      · refine Or.inr ⟨s, h1, h2.1, by have := h2.2.1; omega, h2.2.2.1, fun j hj mj => ?_⟩
        by_cases e : j = r
        · subst e; exact absurd mj nr
        · exact h2.2.2.2 j (by omega) mj
    · rw [cr, e75] at z
      have mr := (Z.dm hr).mp z
      have self : ¬ fw σ r r := by unfold fw; omega
      refine kb_109_19 (fun y => take ⟨hr, by omega, mr, fun j hj mj => ?_⟩) (fun y => ?_)
      · rcases hx with ⟨_, h2⟩ | ⟨s, h1, h2⟩
        · by_cases e : j = r
          · subst e; exact self
          · exact absurd mj (h2 j (by omega))
        · rw [h1] at y; exact absurd y (nI_m1 (by have := h2.1; omega))
      · rcases hx with ⟨h1, _⟩ | ⟨s, es, W⟩
        · exact absurd h1 y
        · have s9 := W.1
          have is : vp_in x 9 := by rw [es]; exact pk_in s 9 s9
          have cs : x.toNatClampNeg = s := by rw [es]; exact nI_clamp (by omega)
          obtain ⟨_, _, p1, p2⟩ := Z.pr hr mr
          obtain ⟨_, _, p3, p4⟩ := Z.pr s9 W.2.2.1
          have lt76 : (τ 76 (nI r).toNatClampNeg) < (τ 76 x.toNatClampNeg) ↔ pX σ r < pX σ s := by rw [cr, cs, e76, p1, p3, Int32.lt_iff_toInt_lt]; rfl
          have eq76 : (τ 76 (nI r).toNatClampNeg) = (τ 76 x.toNatClampNeg) ↔ pX σ r = pX σ s := by rw [cr, cs, e76, p1, p3, ← Int32.toInt_inj]; rfl
          have le77 : (τ 77 x.toNatClampNeg) ≤ (τ 77 (nI r).toNatClampNeg) ↔ pY σ s ≤ pY σ r := by rw [cr, cs, e77, p2, p4, Int32.le_iff_toInt_le]; rfl
          have st' : ¬ fw σ r s → mw (d + 1) mt_109 Q 71 [some (.ref 10), some (.int x), some (.int (nI r)), none, none, none, none] [] τ := fun h => stay (Or.inr ⟨s, es, s9, by have := W.2.1; omega, W.2.2.1, fun j hj mj => by
            by_cases e : j = r
            · subst e; exact h
            · exact W.2.2.2 j (by omega) mj⟩)
          have tk' : fw σ r s → mw (d + 1) mt_109 Q 69 [some (.ref 10), some (.int x), some (.int (nI r)), none, none, none, none] [] τ := fun h => take ⟨hr, by omega, mr, fun j hj mj => by
            by_cases e : j = r
            · subst e; exact self
            · have := W.2.2.2 j (by omega) mj
              unfold fw at *
              omega⟩
          refine kb_109_24 (pk_in r 9 hr) is (fun a => tk' (Or.inl (lt76.mp a))) (fun a => kb_109_39 (pk_in r 9 hr) is (fun b => kb_109_54 (pk_in r 9 hr) is (fun c => st' ?_) (fun c => tk' ?_)) (fun b => st' ?_))
          · rw [lt76] at a; rw [eq76] at b; rw [le77] at c; unfold fw; omega
          · rw [lt76] at a; rw [eq76] at b; rw [le77] at c; unfold fw; omega
          · rw [lt76] at a; rw [eq76] at b; unfold fw; omega


/-! class: the places settle at the least ones -/
def PGv (τ0 : mm_S) (rm : Nat → Prop) (n : Nat) (D ja jb wsh wid hgt K V : Nat → Nat) : Prop := (n ≤ 21 ∧ τ0 1 12 = nI n) ∧ (∀ e, e < n → ja e < 9 ∧ jb e < 9 ∧ τ0 16 e = nI (ja e) ∧ τ0 17 e = nI (jb e) ∧ τ0 45 e = nI (D e) ∧ D e < 4 ∧ τ0 18 e = nI (wsh e) ∧ wsh e ≤ 20) ∧ (∀ i, i < 9 → (xd τ0 (nI i) = 1 ↔ rm i)) ∧ (∀ i, i < 9 → rm i → τ0 13 i = nI (wid i) ∧ τ0 14 i = nI (hgt i) ∧ wid i ≤ 50 ∧ hgt i ≤ 50) ∧ (∀ v, v < 13 → τ0 44 v = nI (K v) ∧ K v < 8192) ∧ (LSo (CSt rm n D ja jb wsh wid hgt (neS K 1) (neS K 0)) V) ∧ (∀ x, V x ≤ 4050)
theorem PGv.jn {τ0 : mm_S} {rm : Nat → Prop} {n : Nat} {D ja jb wsh wid hgt K V : Nat → Nat} (h : PGv τ0 rm n D ja jb wsh wid hgt K V) : n ≤ 21 ∧ τ0 1 12 = nI n := h.1
theorem PGv.je {τ0 : mm_S} {rm : Nat → Prop} {n : Nat} {D ja jb wsh wid hgt K V : Nat → Nat} (h : PGv τ0 rm n D ja jb wsh wid hgt K V) : ∀ e, e < n → ja e < 9 ∧ jb e < 9 ∧ τ0 16 e = nI (ja e) ∧ τ0 17 e = nI (jb e) ∧ τ0 45 e = nI (D e) ∧ D e < 4 ∧ τ0 18 e = nI (wsh e) ∧ wsh e ≤ 20 := h.2.1
theorem PGv.rm {τ0 : mm_S} {rm : Nat → Prop} {n : Nat} {D ja jb wsh wid hgt K V : Nat → Nat} (h : PGv τ0 rm n D ja jb wsh wid hgt K V) : ∀ i, i < 9 → (xd τ0 (nI i) = 1 ↔ rm i) := h.2.2.1
theorem PGv.wd {τ0 : mm_S} {rm : Nat → Prop} {n : Nat} {D ja jb wsh wid hgt K V : Nat → Nat} (h : PGv τ0 rm n D ja jb wsh wid hgt K V) : ∀ i, i < 9 → rm i → τ0 13 i = nI (wid i) ∧ τ0 14 i = nI (hgt i) ∧ wid i ≤ 50 ∧ hgt i ≤ 50 := h.2.2.2.1
theorem PGv.kn {τ0 : mm_S} {rm : Nat → Prop} {n : Nat} {D ja jb wsh wid hgt K V : Nat → Nat} (h : PGv τ0 rm n D ja jb wsh wid hgt K V) : ∀ v, v < 13 → τ0 44 v = nI (K v) ∧ K v < 8192 := h.2.2.2.2.1
theorem PGv.ls {τ0 : mm_S} {rm : Nat → Prop} {n : Nat} {D ja jb wsh wid hgt K V : Nat → Nat} (h : PGv τ0 rm n D ja jb wsh wid hgt K V) : LSo (CSt rm n D ja jb wsh wid hgt (neS K 1) (neS K 0)) V := h.2.2.2.2.2.1
theorem PGv.bd {τ0 : mm_S} {rm : Nat → Prop} {n : Nat} {D ja jb wsh wid hgt K V : Nat → Nat} (h : PGv τ0 rm n D ja jb wsh wid hgt K V) : ∀ x, V x ≤ 4050 := h.2.2.2.2.2.2
def RIv (τ0 : mm_S) (V v0 : Nat → Nat) (τ : mm_S) (v : Nat → Nat) : Prop := PI τ0 τ ∧ (∀ i p, i < 9 → p < 4 → τ (62 + 1 + i) p = nI (v (4 * i + p))) ∧ (∀ x, v0 x ≤ v x ∧ v x ≤ V x) ∧ ((τ 8 2 = 0 ∧ ∀ x, v x = v0 x) ∨ (τ 8 2 = 1 ∧ ∃ x, v0 x < v x))
theorem c_73v {d i p w : Nat} {Q : mm_Q} {τ0 τ : mm_S} {V v0 v : Nat → Nat} (bd : ∀ x, V x ≤ 4050) (I : RIv τ0 V v0 τ v) (hi : i < 9) (hp : p < 4) (hw : w ≤ V (4 * i + p)) (q : ∀ τ' v', RIv τ0 V v0 τ' v' → (∀ x, v x ≤ v' x) → w ≤ v' (4 * i + p) → τ' 72 = τ 72 → Q none τ') : mD (d + 1) 73 [.ref 8, .int (nI i), .int (nI p), .int (nI w)] τ Q := by
  obtain ⟨i1, i2, i3, i4⟩ := id I
  have ci : (nI i).toNatClampNeg = i := nI_clamp (by omega)
  have cp : (nI p).toNatClampNeg = p := nI_clamp (by omega)
  have b1 := bd (4 * i + p)
  have b2 := (i3 (4 * i + p)).2
  refine c_73 (pk_in i 9 hi) (pk_in p 4 hp) (fun z => ?_) (fun z => ?_)
  · rw [ci, cp, i2 i p hi hp] at z
    exact q τ v I (fun x => Nat.le_refl _) ((nI_leI (by omega) (by omega)).mp z) rfl
  · rw [ci, cp, i2 i p hi hp] at z
    rw [ci, cp]
    have lt : v (4 * i + p) < w := by
      rcases Nat.lt_or_ge (v (4 * i + p)) w with y | y
      · exact y
      · exact absurd (hI_le (by omega) y) z
    have le : ∀ x, v x ≤ if x = 4 * i + p then w else v x := fun x => by
      by_cases e : x = 4 * i + p
      · rw [if_pos e, e]; omega
      · rw [if_neg e]; exact Nat.le_refl _
    refine q _ (fun x => if x = 4 * i + p then w else v x) ⟨PI_up (PI_up i1 (by omega)) (by omega), fun i' p' hi' hp' => ?_, fun x => ⟨Nat.le_trans (i3 x).1 (le x), ?_⟩, Or.inr ⟨mm_up_s, 4 * i + p, ?_⟩⟩ le ?_ (by rw [mm_up_n (by decide), mm_up_n (by omega)])
    · show _ = nI (if 4 * i' + p' = 4 * i + p then w else v (4 * i' + p'))
      rw [mm_up_n (by omega)]
      by_cases e : 4 * i' + p' = 4 * i + p
      · have e1 : i' = i := by omega
        have e2 : p' = p := by omega
        subst e1; subst e2
        rw [if_pos rfl]; exact mm_up_s
      · rw [if_neg e]
        by_cases e1 : i' = i
        · subst e1
          rw [mm_up_o (by omega)]; exact i2 i' p' hi' hp'
        · rw [mm_up_n (by omega)]; exact i2 i' p' hi' hp'
    · show (if x = 4 * i + p then w else v x) ≤ V x
      by_cases e : x = 4 * i + p
      · rw [if_pos e, e]; exact hw
      · rw [if_neg e]; exact (i3 x).2
    · show v0 (4 * i + p) < if 4 * i + p = 4 * i + p then w else v (4 * i + p)
      rw [if_pos rfl]
      have := (i3 (4 * i + p)).1
      omega
    · show w ≤ if 4 * i + p = 4 * i + p then w else v (4 * i + p)
      rw [if_pos rfl]; exact Nat.le_refl _
theorem and1_n : ∀ w, w < 4 → (nI w &&& (1 : Int32) = 0 ↔ w % 2 = 0) := by decide
section CPL
variable {τ0 : mm_S} {rm : Nat → Prop} {n : Nat} {D ja jb wsh wid hgt K V : Nat → Nat}
theorem c_75v {d e : Nat} {Q : mm_Q} {τ : mm_S} {v0 v : Nat → Nat} (G : PGv τ0 rm n D ja jb wsh wid hgt K V) (I : RIv τ0 V v0 τ v) (he : e < n) (q : ∀ τ' v', RIv τ0 V v0 τ' v' → (∀ x, v x ≤ v' x) → v0 (4 * higr D ja jb e + D e / 2) ≤ v' (4 * lowr D ja jb e + D e / 2 + 2) → v0 (4 * lowr D ja jb e + D e / 2 + 2) ≤ v' (4 * higr D ja jb e + D e / 2) → τ' 72 = τ 72 → Q none τ') : mD (d + 2) 75 [.ref 8, .int (nI e)] τ Q := by
  have n21 := G.jn.1
  obtain ⟨a9, b9, e16, e17, e45, d4, e18, w20⟩ := G.je e he
  have ce : (nI e).toNatClampNeg = e := nI_clamp (by omega)
  have iv := pk_in e 21 (show e < 21 by omega)
  obtain ⟨x1, x2, x3⟩ := ax_n (D e) d4
  have r16 : τ 16 (nI e).toNatClampNeg = nI (ja e) := by rw [ce, I.1 16 (by omega) (by omega)]; exact e16
  have r17 : τ 17 (nI e).toNatClampNeg = nI (jb e) := by rw [ce, I.1 17 (by omega) (by omega)]; exact e17
  have r45 : τ 45 (nI e).toNatClampNeg = nI (D e) := by rw [ce, I.1 45 (by omega) (by omega)]; exact e45
  have e74 : f_74 τ (nI e) = nI (D e / 2) := by unfold f_74; rw [r45]; exact x1
  obtain ⟨a, ea⟩ : ∃ a, a = D e / 2 := ⟨_, rfl⟩
  rw [← ea] at e74 x2 q
  have p2 : nI a + (2 : Int32) = nI (a + 2) := nI_add a 2
  -- both raisings, for a low and a high room
  have two : ∀ (x3 : Int32) lo hi, lo < 9 → hi < 9 → lowr D ja jb e = lo → higr D ja jb e = hi → mD (d + 1) 73 [.ref 8, .int (nI lo), .int (nI a + (2 : Int32)), .int (nI (v (4 * hi + a)))] τ (fun u τ => mw (d + 1) mt_75 Q 98 [some (.ref 8), some (.int (nI e)), some (.int (nI a)), some (.int x3), some (.int (nI lo)), some (.int (nI hi))] (u.toList ++ []) τ) := fun x3 lo hi l9 h9 el eh => by
    rw [el, eh] at q
    have s1 := G.ls.1 (4 * hi + a) (4 * lo + a + 2) 0 (Or.inl ⟨e, he, rfl, Or.inl ⟨by rw [eh, ea], by rw [el, ea]⟩⟩)
    have s2 := G.ls.1 (4 * lo + a + 2) (4 * hi + a) 0 (Or.inl ⟨e, he, rfl, Or.inr ⟨by rw [el, ea], by rw [eh, ea]⟩⟩)
    have b1 := (I.2.2.1 (4 * hi + a)).2
    rw [p2]
    refine c_73v G.bd I l9 (by omega) (show v (4 * hi + a) ≤ V (4 * lo + (a + 2)) by rw [← Nat.add_assoc]; omega) (fun τ1 v1 I1 m1 w1 z1 => kb_75_98 (pk_in lo 9 l9) (by rw [p2]; exact pk_in (a + 2) 4 (by omega)) ?_)
    rw [p2, nI_clamp (show lo < 2 ^ 31 by omega), nI_clamp (show a + 2 < 2 ^ 31 by omega), I1.2.1 lo (a + 2) l9 (by omega)]
    have b2 := (I1.2.2.1 (4 * lo + (a + 2))).2
    refine c_73v G.bd I1 h9 (by omega) (show v1 (4 * lo + (a + 2)) ≤ V (4 * hi + a) by rw [← Nat.add_assoc] at b2 ⊢; omega) (fun τ2 v2 I2 m2 w2 z2 => kb_75_116 (q τ2 v2 I2 (fun x => Nat.le_trans (m1 x) (m2 x)) ?_ ?_ (z2.trans z1)))
    · have y1 := (I.2.2.1 (4 * hi + a)).1
      have y2 := m2 (4 * lo + (a + 2))
      rw [← Nat.add_assoc] at y2 w1
      omega
    · have y1 := (I1.2.2.1 (4 * lo + (a + 2))).1
      rw [← Nat.add_assoc] at y1 w2
      omega
  refine ke_75 (kb_75_0 (c_74 iv ?_))
  rw [e74]
  have rd : ∀ hi, hi < 9 → τ (62 + 1 + (nI hi).toNatClampNeg) (nI a).toNatClampNeg = nI (v (4 * hi + a)) := fun hi h9 => by
    rw [nI_clamp (show hi < 2 ^ 31 by omega), nI_clamp (show a < 2 ^ 31 by omega)]; exact I.2.1 hi a h9 (by omega)
  refine kb_75_5 iv (fun z => kb_75_20 (fun z => absurd z (by decide)) (fun _ => kb_75_30 iv (fun z => absurd z (by decide)) (fun _ => kb_75_57 iv (by rw [r17]; exact pk_in _ 9 b9) (pk_in a 4 (by omega)) ?_))) (fun z => kb_75_24 (fun _ => kb_75_42 iv (fun _ => kb_75_69 iv (by rw [r16]; exact pk_in _ 9 a9) (pk_in a 4 (by omega)) ?_) (fun z => absurd rfl z)) (fun z => absurd rfl z))
  · rw [r45] at z
    have ev := (and1_n (D e) d4).mp z
    rw [r16, r17, rd _ b9]
    exact two _ (ja e) (jb e) a9 b9 (by unfold lowr; rw [if_pos ev]) (by unfold higr; rw [if_pos ev])
  · rw [r45] at z
    have ev : ¬ D e % 2 = 0 := fun y => z ((and1_n (D e) d4).mpr y)
    rw [r16, r17, rd _ a9]
    exact two _ (jb e) (ja e) b9 a9 (by unfold lowr; rw [if_neg ev]) (by unfold higr; rw [if_neg ev])
theorem c_76v {d e : Nat} {Q : mm_Q} {τ : mm_S} {v0 v : Nat → Nat} (G : PGv τ0 rm n D ja jb wsh wid hgt K V) (I : RIv τ0 V v0 τ v) (he : e < n) (q : ∀ τ' v', RIv τ0 V v0 τ' v' → (∀ x, v x ≤ v' x) → (∀ X Y, (X = ja e ∨ X = jb e) → (Y = ja e ∨ Y = jb e) → v0 (4 * X + (1 - D e / 2)) + wsh e ≤ v' (4 * Y + (1 - D e / 2) + 2)) → τ' 72 = τ 72 → Q none τ') : mD (d + 3) 76 [.ref 8, .int (nI e)] τ Q := by
  have n21 := G.jn.1
  obtain ⟨a9, b9, e16, e17, e45, d4, e18, w20⟩ := G.je e he
  have ce : (nI e).toNatClampNeg = e := nI_clamp (by omega)
  have iv := pk_in e 21 (show e < 21 by omega)
  obtain ⟨x1, x2, x3⟩ := ax_n (D e) d4
  have r16 : τ 16 (nI e).toNatClampNeg = nI (ja e) := by rw [ce, I.1 16 (by omega) (by omega)]; exact e16
  have r17 : τ 17 (nI e).toNatClampNeg = nI (jb e) := by rw [ce, I.1 17 (by omega) (by omega)]; exact e17
  have r18 : τ 18 (nI e).toNatClampNeg = nI (wsh e) := by rw [ce, I.1 18 (by omega) (by omega)]; exact e18
  have r45 : τ 45 (nI e).toNatClampNeg = nI (D e) := by rw [ce, I.1 45 (by omega) (by omega)]; exact e45
  have e74 : f_74 τ (nI e) = nI (D e / 2) := by unfold f_74; rw [r45]; exact x1
  obtain ⟨a, ea⟩ : ∃ a, a = 1 - D e / 2 := ⟨_, rfl⟩
  rw [← ea] at q x3
  have a2 : a < 2 := by omega
  have p2 : nI a + (2 : Int32) = nI (a + 2) := nI_add a 2
  have vA := (I.2.2.1 (4 * ja e + a))
  have vB := (I.2.2.1 (4 * jb e + a))
  have bA := G.bd (4 * ja e + a)
  have bB := G.bd (4 * jb e + a)
  -- where the wall begins
  obtain ⟨w, hw⟩ : ∃ w, w = if v (4 * ja e + a) < v (4 * jb e + a) then v (4 * jb e + a) else v (4 * ja e + a) := ⟨_, rfl⟩
  have e78 : f_78 τ (nI e) = nI w := by
    unfold f_78
    rw [e74, x3, r16, r17, nI_clamp (show ja e < 2 ^ 31 by omega), nI_clamp (show jb e < 2 ^ 31 by omega), nI_clamp (show a < 2 ^ 31 by omega), I.2.1 _ a a9 (by omega), I.2.1 _ a b9 (by omega), hw]
    by_cases c : v (4 * ja e + a) < v (4 * jb e + a)
    · rw [if_pos c, if_pos ((nI_ltI (by omega) (by omega)).mpr c)]
    · rw [if_neg c, if_neg (fun z => c ((nI_ltI (by omega) (by omega)).mp z))]
  have wge : v (4 * ja e + a) ≤ w ∧ v (4 * jb e + a) ≤ w ∧ (w = v (4 * ja e + a) ∨ w = v (4 * jb e + a)) := by rw [hw]; split <;> omega
  have top : ∀ Y, (Y = ja e ∨ Y = jb e) → w + wsh e ≤ V (4 * Y + (a + 2)) := fun Y hY => by
    have s1 := G.ls.1 (4 * ja e + a) (4 * Y + a + 2) (wsh e) (Or.inr (Or.inl ⟨e, ja e, Y, he, rfl, Or.inl rfl, hY, by rw [ea], by rw [ea]⟩))
    have s2 := G.ls.1 (4 * jb e + a) (4 * Y + a + 2) (wsh e) (Or.inr (Or.inl ⟨e, jb e, Y, he, rfl, Or.inr rfl, hY, by rw [ea], by rw [ea]⟩))
    rw [← Nat.add_assoc]
    rcases wge.2.2 with z | z <;> omega
  refine ke_76 (kb_76_0 (c_74 iv ?_))
  rw [e74]
  refine kb_76_6 ?_
  rw [x3]
  refine c_78 iv (by rw [r16]; exact pk_in _ 9 a9) (by rw [e74, x3]; exact pk_in a 4 (by omega)) (by rw [r17]; exact pk_in _ 9 b9) ?_
  rw [e78]
  refine kb_76_13 iv iv ?_
  rw [r16, r18, p2, nI_add]
  refine c_73v G.bd I a9 (by omega) (top _ (Or.inl rfl)) (fun τ1 v1 I1 m1 w1 z1 => kb_76_41 iv ?_)
  have r17' : τ1 17 (nI e).toNatClampNeg = nI (jb e) := by rw [ce, I1.1 17 (by omega) (by omega)]; exact e17
  rw [r17', p2]
  refine c_73v G.bd I1 b9 (by omega) (top _ (Or.inr rfl)) (fun τ2 v2 I2 m2 w2 z2 => kb_76_58 (q τ2 v2 I2 (fun x => Nat.le_trans (m1 x) (m2 x)) (fun X Y hX hY => ?_) (z2.trans z1)))
  have y1 := m2 (4 * ja e + (a + 2))
  have lowX : v0 (4 * X + a) ≤ w := by
    rcases hX with z | z <;> rw [z] <;> omega
  rcases hY with z | z <;> rw [z, Nat.add_assoc] <;> omega
theorem c_77v {d x s : Nat} {Q : mm_Q} {τ : mm_S} {v0 v : Nat → Nat} (G : PGv τ0 rm n D ja jb wsh wid hgt K V) (I : RIv τ0 V v0 τ v) (hx : x < 2) (s4 : s < 4) (up : ∀ i j, neS K s i → neS K s j → V (4 * i + (x + 2)) ≤ V (4 * j + (x + 2))) (q : ∀ τ' v' most, RIv τ0 V v0 τ' v' → (∀ x, v x ≤ v' x) → (∀ i j, neS K s i → neS K s j → v0 (4 * i + (x + 2)) ≤ v' (4 * j + (x + 2))) → τ' 72 x = nI most → (∀ j, j ≠ x → τ' 72 j = τ 72 j) → (∀ i, neS K s i → v (4 * i + (x + 2)) ≤ most) → ((most = 0 ∧ ∀ i, ¬ neS K s i) ∨ ∃ i, neS K s i ∧ most = v (4 * i + (x + 2))) → Q none τ') : mD (d + 3) 77 [.ref 8, .int (nI x), .int (nI s)] τ Q := by
  have x2 : nI x + (2 : Int32) = nI (x + 2) := nI_add x 2
  have near : ∀ ρ, PI τ0 ρ → ∀ i, i < 9 → (f_53 ρ (nI i) (nI s) = 0 ↔ ¬ neS K s i) := fun ρ P i hi => by
    have := f_53_b (τ := ρ) (r := i) (s := s) (K := K) (by omega) s4 (by rw [P 44 (by omega) (by omega)]; exact G.kn i (by omega))
    rw [this]
    unfold neS
    cases (K i).testBit (9 + s) with
    | true => exact ⟨fun z => absurd z (by decide), fun z => absurd ⟨hi, rfl⟩ z⟩
    | false => exact ⟨fun _ z => absurd z.2 (by decide), fun _ => rfl⟩
  have bV : ∀ i, v (4 * i + (x + 2)) ≤ 4050 := fun i => Nat.le_trans (I.2.2.1 _).2 (G.bd _)
  refine ke_77 (kb_77_0 ?_)
  have key := lp_dn (P := fun i => ∀ y, (∀ j, j < i → neS K s j → v (4 * j + (x + 2)) ≤ y) → ((y = 0 ∧ ∀ j, j < i → ¬ neS K s j) ∨ ∃ j, j < i ∧ neS K s j ∧ y = v (4 * j + (x + 2))) → mw (d + 2) mt_77 Q 5 [some (.ref 8), some (.int (nI x)), some (.int (nI s)), some (.int (nI y)), some (.int (nI i))] [] τ) 9 ?_ ?_ 0 (by omega) 0 (fun j hj => absurd hj (Nat.not_lt_zero j)) (Or.inl ⟨rfl, fun j hj => absurd hj (Nat.not_lt_zero j)⟩)
  · exact key
  · intro y h1 h2
    refine kb_77_5 (fun _ => kb_77_47 ?_) (fun g => absurd (by decide) g)
    have y4 : y ≤ 4050 := by
      rcases h2 with ⟨z, _⟩ | ⟨j, _, _, z⟩
      · omega
      · rw [z]; exact bV j
    have yV : ∀ i, neS K s i → y ≤ V (4 * i + (x + 2)) := fun i hi => by
      rcases h2 with ⟨z, _⟩ | ⟨j, _, hj, z⟩
      · omega
      · have := up j i hj hi
        have := (I.2.2.1 (4 * j + (x + 2))).2
        omega
    have key2 := lp_dn (P := fun i => ∀ ρ u, RIv τ0 V v0 ρ u → (∀ x, v x ≤ u x) → (∀ j, j < i → neS K s j → y ≤ u (4 * j + (x + 2))) → ρ 72 = τ 72 → mw (d + 2) mt_77 Q 50 [some (.ref 8), some (.int (nI x)), some (.int (nI s)), some (.int (nI y)), some (.int (nI i))] [] ρ) 9 ?_ ?_ 0 (by omega) τ v I (fun _ => Nat.le_refl _) (fun j hj => absurd hj (Nat.not_lt_zero j)) rfl
    · exact key2
    · intro ρ u Iu mu hu z72
      refine kb_77_50 (fun _ => kb_77_86 (pk_in x 2 hx) (q _ u y ⟨PI_up Iu.1 (by omega), fun i p hi hp => by rw [mm_up_n (by omega)]; exact Iu.2.1 i p hi hp, Iu.2.2.1, by rw [mm_up_n (by decide)]; exact Iu.2.2.2⟩ mu (fun i j hi hj => ?_) (by rw [nI_clamp (show x < 2 ^ 31 by omega)]; exact mm_up_s) (fun j hj => by rw [nI_clamp (show x < 2 ^ 31 by omega), mm_up_o hj, z72]) (fun i hi => h1 i hi.1 hi) ?_)) (fun g => absurd (by decide) g)
      · have a1 := hu j hj.1 hj
        have a2 := h1 i hi.1 hi
        have a3 := (I.2.2.1 (4 * i + (x + 2))).1
        omega
      · rcases h2 with ⟨z, w⟩ | ⟨j, _, hj, z⟩
        · exact Or.inl ⟨z, fun i hi => w i hi.1 hi⟩
        · exact Or.inr ⟨j, hj, z⟩
    · intro i hi ih ρ u Iu mu hu z72
      refine kb_77_50 (fun g => absurd g (hI_nle (a := 9) (by omega) hi)) (fun _ => kb_77_57 (c_53 (pk_in i 13 (by omega)) (kb_77_67 (fun z => kb_77_80 ?_) (fun z => kb_77_70 ?_))))
      · rw [nI_1]
        have no := (near ρ Iu.1 i hi).mp z
        exact ih ρ u Iu mu (fun j hj hn => by
          by_cases c : j = i
          · rw [c] at hn; exact absurd hn no
          · exact hu j (by omega) hn) z72
      · have yes : neS K s i := Classical.not_not.mp (fun y => z ((near ρ Iu.1 i hi).mpr y))
        rw [x2]
        refine c_73v G.bd Iu hi (by omega) (yV i yes) (fun ρ' u' I' m' w' z' => kb_77_80 ?_)
        rw [nI_1]
        exact ih ρ' u' I' (fun x => Nat.le_trans (mu x) (m' x)) (fun j hj hn => by
          by_cases c : j = i
          · rw [c]; exact w'
          · exact Nat.le_trans (hu j (by omega) hn) (m' _)) (z'.trans z72)
  · intro i hi ih y h1 h2
    have y4 : y ≤ 4050 := by
      rcases h2 with ⟨z, _⟩ | ⟨j, _, _, z⟩
      · omega
      · rw [z]; exact bV j
    refine kb_77_5 (fun g => absurd g (hI_nle (a := 9) (by omega) hi)) (fun _ => kb_77_12 (c_53 (pk_in i 13 (by omega)) (kb_77_22 (fun z => kb_77_41 ?_) (fun z => kb_77_25 (pk_in i 9 hi) (by rw [x2]; exact pk_in (x + 2) 4 (by omega)) (c_151 (kb_77_40 ?_))))))
    · rw [nI_1]
      have no := (near τ I.1 i hi).mp z
      refine ih y (fun j hj hn => ?_) ?_
      · by_cases c : j = i
        · rw [c] at hn; exact absurd hn no
        · exact h1 j (by omega) hn
      · rcases h2 with ⟨u, w⟩ | ⟨j, hj, hn, u⟩
        · exact Or.inl ⟨u, fun j hj hn => by
            by_cases c : j = i
            · rw [c] at hn; exact no hn
            · exact w j (by omega) hn⟩
        · exact Or.inr ⟨j, by omega, hn, u⟩
    · have yes : neS K s i := Classical.not_not.mp (fun y => z ((near τ I.1 i hi).mpr y))
      have b := bV i
      rw [nI_1, x2, nI_clamp (show i < 2 ^ 31 by omega), nI_clamp (show x + 2 < 2 ^ 31 by omega), I.2.1 i (x + 2) hi (by omega)]
      by_cases c : y < v (4 * i + (x + 2))
      · rw [if_pos ((nI_ltI (by omega) (by omega)).mpr c)]
        refine ih _ (fun j hj hn => ?_) (Or.inr ⟨i, by omega, yes, rfl⟩)
        by_cases e : j = i
        · rw [e]; exact Nat.le_refl _
        · have := h1 j (by omega) hn; omega
      · rw [if_neg (fun z => c ((nI_ltI (by omega) (by omega)).mp z))]
        refine ih _ (fun j hj hn => ?_) ?_
        · by_cases e : j = i
          · rw [e]; omega
          · exact h1 j (by omega) hn
        · rcases h2 with ⟨u, w⟩ | ⟨j, hj, hn, u⟩
          · exact Or.inr ⟨i, by omega, yes, by omega⟩
          · exact Or.inr ⟨j, by omega, hn, u⟩
/-- what settle leaves: the least places, the house's size -/
def PLF (rm : Nat → Prop) (K V : Nat → Nat) (τ : mm_S) : Prop := (∀ i p, i < 9 → p < 4 → τ (62 + 1 + i) p = nI (V (4 * i + p))) ∧ (∀ i, neS K 1 i → τ 72 0 = nI (V (4 * i + 2))) ∧ ∀ i, neS K 0 i → τ 72 1 = nI (V (4 * i + 3))
theorem c_72v {d : Nat} {Q : mm_Q} (G : PGv τ0 rm n D ja jb wsh wid hgt K V) (q : ∀ τ', PI τ0 τ' → PLF rm K V τ' → Q none τ') : mD (d + 4) 72 [.ref 8] τ0 Q := by
  have n21 := G.jn.1
  refine ke_72 (kb_72_0 ?_)
  refine lp_dn (P := fun i => ∀ ρ, PI τ0 ρ → (∀ i' p, i' < i → p < 4 → ρ (62 + 1 + i') p = 0) → ∀ o2, mw (d + 3) mt_72 Q 2 [some (.ref 8), some (.int (nI i)), o2] [] ρ) 9 ?_ ?_ 0 (by omega) τ0 (fun _ _ _ => rfl) (fun i' p h => absurd h (Nat.not_lt_zero i')) none
  · intro ρ I z o2
    refine kb_72_2 (fun _ => kb_72_36 ?_) (fun g => absurd (by decide) g)
    have fin : ∀ (ρ : mm_S) (v : Nat → Nat), PI τ0 ρ → (∀ i p, i < 9 → p < 4 → ρ (62 + 1 + i) p = nI (v (4 * i + p))) → (∀ x, x < 36 → v x = V x) → (∀ i, neS K 1 i → ρ 72 0 = nI (v (4 * i + 2))) → (∀ i, neS K 0 i → ρ 72 1 = nI (v (4 * i + 3))) → Q none ρ := fun ρ v I pv e h0 h1 => q ρ I ⟨fun i p hi hp => by rw [pv i p hi hp, e _ (by omega)], fun i hi => by have := hi.1; rw [h0 i hi, e _ (by omega)], fun i hi => by have := hi.1; rw [h1 i hi, e _ (by omega)]⟩
    refine lp_dn (P := fun k => ∀ (ρ : mm_S) (v : Nat → Nat), PI τ0 ρ → (∀ i p, i < 9 → p < 4 → ρ (62 + 1 + i) p = nI (v (4 * i + p))) → (∀ x, v x ≤ V x) → (∀ x, 36 ≤ x → v x = V x) → ((ρ 8 2 = 0 ∧ (∀ x, x < 36 → v x = V x) ∧ (∀ i, neS K 1 i → ρ 72 0 = nI (v (4 * i + 2))) ∧ ∀ i, neS K 0 i → ρ 72 1 = nI (v (4 * i + 3))) ∨ (ρ 8 2 = 1 ∧ k ≤ stl V v)) → ∀ o2, mw (d + 3) mt_72 Q 43 [some (.ref 8), some (.int (nI k)), o2] [] ρ) 100 ?_ ?_ 0 (by omega) _ (fun x => if x < 36 then 0 else V x) (PI_up I (by omega)) (fun i p hi hp => by rw [mm_up_n (by omega), z i p hi hp, if_pos (by omega)]; rfl) (fun x => by split <;> omega) (fun x hx => if_neg (by omega)) (Or.inr ⟨mm_up_s, Nat.zero_le _⟩) o2
    · intro ρ v I pv le dom h o2
      refine kb_72_43 (fun _ => kb_72_181 ?_) (fun g => absurd (by decide) g)
      rcases h with ⟨_, h1, h2, h3⟩ | ⟨_, h⟩
      · exact fin ρ v I pv h1 h2 h3
      · have := ct_n (P := fun x => v x = V x) 36
        unfold stl at h
        omega
    · intro k hk ih ρ v I pv le dom h o2
      refine kb_72_43 (fun g => absurd g (hI_nle (a := 100) (by omega) hk)) (fun _ => kb_72_49 (fun y => kb_72_181 ?_) (fun y => kb_72_56 ?_))
      · rcases h with ⟨_, h1, h2, h3⟩ | ⟨h, _⟩
        · exact fin ρ v I pv h1 h2 h3
        · rw [h] at y; exact absurd y (by decide)
      have hk' : k ≤ stl V v := by
        rcases h with ⟨h, _⟩ | ⟨_, h⟩
        · exact absurd h y
        · exact h
      have R0 : RIv τ0 V v (mm_up ρ 8 2 0) v := ⟨PI_up I (by omega), fun i p hi hp => by rw [mm_up_n (by omega)]; exact pv i p hi hp, fun x => ⟨Nat.le_refl _, le x⟩, Or.inl ⟨mm_up_s, fun _ => rfl⟩⟩
      refine lp_dn (P := fun e => ∀ ρ u, RIv τ0 V v ρ u → (∀ e', e' < e → (v (4 * higr D ja jb e' + D e' / 2) ≤ u (4 * lowr D ja jb e' + D e' / 2 + 2) ∧ v (4 * lowr D ja jb e' + D e' / 2 + 2) ≤ u (4 * higr D ja jb e' + D e' / 2)) ∧ ∀ X Y, (X = ja e' ∨ X = jb e') → (Y = ja e' ∨ Y = jb e') → v (4 * X + (1 - D e' / 2)) + wsh e' ≤ u (4 * Y + (1 - D e' / 2) + 2)) → mw (d + 3) mt_72 Q 63 [some (.ref 8), some (.int (nI k)), some (.int (nI e))] [] ρ) n ?_ ?_ 0 (Nat.zero_le n) _ v R0 (fun e h => absurd h (Nat.not_lt_zero e))
      · intro ρ u R he
        have e12 : ρ 1 12 = nI n := by rw [R.1 1 (by omega) (by omega)]; exact G.jn.2
        refine kb_72_63 (fun _ => kb_72_90 ?_) (fun g => absurd (by rw [e12]; exact hI_le (by omega) (Nat.le_refl n)) g)
        refine lp_dn (P := fun i => ∀ ρ u', RIv τ0 V v ρ u' → (∀ x, u x ≤ u' x) → (∀ j, j < i → rm j → v (4 * j) + wid j ≤ u' (4 * j + 2) ∧ v (4 * j + 1) + hgt j ≤ u' (4 * j + 3)) → mw (d + 3) mt_72 Q 92 [some (.ref 8), some (.int (nI k)), some (.int (nI i))] [] ρ) 9 ?_ ?_ 0 (by omega) ρ u R (fun _ => Nat.le_refl _) (fun j h => absurd h (Nat.not_lt_zero j))
        · intro ρ u' R' mu hr
          refine kb_72_92 (fun _ => kb_72_163 (c_77v (x := 0) (s := 1) G R' (by decide) (by decide) (fun i j hi hj => ?_) (fun τ1 v1 m0 R1 mo1 d1 s1 _ g1 p1 => kb_72_169 (c_77v (x := 1) (s := 0) G R1 (by decide) (by decide) (fun i j hi hj => ?_) (fun τ2 v2 m1 R2 mo2 d2 s2 k2 g2 p2 => kb_72_175 ?_))))) (fun g => absurd (by decide) g)
          · have := G.ls.1 (4 * i + 2) (4 * j + 2) 0 (Or.inr (Or.inr (Or.inr ⟨i, j, rfl, Or.inl ⟨hi, hj, rfl, rfl⟩⟩)))
            exact this
          · have := G.ls.1 (4 * i + 3) (4 * j + 3) 0 (Or.inr (Or.inr (Or.inr ⟨i, j, rfl, Or.inr ⟨hi, hj, rfl, rfl⟩⟩)))
            exact this
          · rw [nI_1]
            have up2 : ∀ x, u x ≤ v2 x := fun x => Nat.le_trans (mu x) (Nat.le_trans (mo1 x) (mo2 x))
            have RD : RND1 (CSt rm n D ja jb wsh wid hgt (neS K 1) (neS K 0)) V v v2 := by
              refine ⟨R2.2.2.1, fun x y c hc => ?_⟩
              rcases hc with ⟨e, hen, hc, h⟩ | ⟨e, X, Y, hen, hc, hX, hY, ex, ey⟩ | ⟨i, hi, h⟩ | ⟨i, j, hc, h⟩
              · obtain ⟨⟨y1, y2⟩, _⟩ := he e hen
                subst hc
                rcases h with ⟨ex, ey⟩ | ⟨ex, ey⟩ <;> rw [ex, ey]
                · exact Nat.le_trans y1 (up2 _)
                · exact Nat.le_trans y2 (up2 _)
              · rw [ex, ey, hc]
                exact Nat.le_trans ((he e hen).2 X Y hX hY) (up2 _)
              · rcases Nat.lt_or_ge i 9 with i9 | i9
                · obtain ⟨y1, y2⟩ := hr i i9 hi
                  rcases h with ⟨hc, ex, ey⟩ | ⟨hc, ex, ey⟩ <;> rw [hc, ex, ey]
                  · exact Nat.le_trans y1 (Nat.le_trans (mo1 _) (mo2 _))
                  · exact Nat.le_trans y2 (Nat.le_trans (mo1 _) (mo2 _))
                · have w1 := dom x (by rcases h with ⟨_, ex, _⟩ | ⟨_, ex, _⟩ <;> omega)
                  have w2 := dom y (by rcases h with ⟨_, _, ey⟩ | ⟨_, _, ey⟩ <;> omega)
                  have w3 := G.ls.1 x y c (Or.inr (Or.inr (Or.inl ⟨i, hi, h⟩)))
                  have w4 := (R2.2.2.1 y).1
                  omega
              · subst hc
                rcases h with ⟨h1, h2, ex, ey⟩ | ⟨h1, h2, ex, ey⟩ <;> rw [ex, ey]
                · exact Nat.le_trans (d1 i j h1 h2) (mo2 _)
                · exact d2 i j h1 h2
            have su := stl_up G.ls RD le dom
            have dom2 : ∀ x, 36 ≤ x → v2 x = V x := fun x hx => by have := R2.2.2.1 x; have := dom x hx; omega
            refine ih τ2 v2 R2.1 R2.2.1 (fun x => (R2.2.2.1 x).2) dom2 ?_ _
            rcases R2.2.2.2 with ⟨f0, same⟩ | ⟨f1, x, lt⟩
            · left
              have sol : Sol (CSt rm n D ja jb wsh wid hgt (neS K 1) (neS K 0)) v2 := fun x y c hc => by rw [same x]; exact RD.2 x y c hc
              have eq : ∀ x, v2 x = V x := fun x => by have a := G.ls.2 v2 sol x; have b := (R2.2.2.1 x).2; omega
              have eqv : ∀ x, v x = V x := fun x => by rw [← same x]; exact eq x
              have eq1 : ∀ x, v1 x = V x := fun x => by have a := (R1.2.2.1 x); have b := eqv x; omega
              have equ : ∀ x, u' x = V x := fun x => by have a := (R'.2.2.1 x); have b := eqv x; omega
              refine ⟨f0, fun x _ => eq x, fun i hi => ?_, fun i hi => ?_⟩
              · rw [k2 0 (by decide), s1]
                congr 1
                rcases p1 with ⟨_, no⟩ | ⟨j, hj, e⟩
                · exact absurd hi (no i)
                · have a := g1 i hi
                  rw [e] at a ⊢
                  rw [equ, eq]
                  rw [equ, equ] at a
                  have b := G.ls.1 (4 * j + 2) (4 * i + 2) 0 (Or.inr (Or.inr (Or.inr ⟨j, i, rfl, Or.inl ⟨hj, hi, rfl, rfl⟩⟩)))
                  show V (4 * j + (0 + 2)) = V (4 * i + 2)
                  have a' : V (4 * i + 2) ≤ V (4 * j + 2) := a
                  show V (4 * j + 2) = V (4 * i + 2)
                  omega
              · rw [s2]
                congr 1
                rcases p2 with ⟨_, no⟩ | ⟨j, hj, e⟩
                · exact absurd hi (no i)
                · have a := g2 i hi
                  rw [e] at a ⊢
                  rw [eq1, eq]
                  rw [eq1, eq1] at a
                  have b := G.ls.1 (4 * j + 3) (4 * i + 3) 0 (Or.inr (Or.inr (Or.inr ⟨j, i, rfl, Or.inr ⟨hj, hi, rfl, rfl⟩⟩)))
                  have a' : V (4 * i + 3) ≤ V (4 * j + 3) := a
                  show V (4 * j + 3) = V (4 * i + 3)
                  omega
            · right
              refine ⟨f1, ?_⟩
              rcases su with s36 | s36
              · -- all settled before: nothing could be raised
                rcases Nat.lt_or_ge (stl V v) 36 with y | y
                · omega
                · exfalso
                  have := ct_n (P := fun x => v x = V x) 36
                  have full := stl_full (V := V) (v := v) (by unfold stl at *; omega)
                  have a := (R2.2.2.1 x).2
                  rcases Nat.lt_or_ge x 36 with w | w
                  · have := full x w; omega
                  · have := dom x w; omega
              · omega
        · intro i hi ihi ρ u' R' mu hr
          have cd : xd ρ (nI i) = xd τ0 (nI i) := by rw [xd_cg (R'.1 1 (by omega) (by omega))]
          have ci : (nI i).toNatClampNeg = i := nI_clamp (by omega)
          have c0 : (0 : Int32).toNatClampNeg = 0 := by decide
          have c1 : (1 : Int32).toNatClampNeg = 1 := by decide
          refine kb_72_92 (fun g => absurd g (hI_nle (a := 9) (by omega) hi)) (fun _ => kb_72_98 (c_7 (kb_72_106 (fun z => kb_72_157 ?_) (fun z => kb_72_109 (pk_in i 9 hi) (pk_in 0 4 (by decide)) (pk_in i 9 hi) ?_))))
          · rw [nI_1]
            rw [cd] at z
            refine ihi ρ u' R' mu (fun j hj hrj => ?_)
            by_cases c : j = i
            · subst c
              have := (G.rm j hi).mpr hrj
              rw [z] at this; exact absurd this (by decide)
            · exact hr j (by omega) hrj
          · rw [cd] at z
            have x01 : xd τ0 (nI i) = 0 ∨ xd τ0 (nI i) = 1 := xd_01 τ0 (nI i)
            have hrm : rm i := (G.rm i hi).mp (x01.resolve_left z)
            obtain ⟨w1, w2, w3, w4⟩ := G.wd i hi hrm
            have bu : ∀ x, u' x ≤ 4050 := fun x => Nat.le_trans (R'.2.2.1 x).2 (G.bd x)
            have s1 := G.ls.1 (4 * i) (4 * i + 2) (wid i) (Or.inr (Or.inr (Or.inl ⟨i, hrm, Or.inl ⟨rfl, rfl, rfl⟩⟩)))
            have s2 := G.ls.1 (4 * i + 1) (4 * i + 3) (hgt i) (Or.inr (Or.inr (Or.inl ⟨i, hrm, Or.inr ⟨rfl, rfl, rfl⟩⟩)))
            rw [ci, c0, R'.2.1 i 0 hi (by decide), R'.1 13 (by omega) (by omega), w1, nI_add]
            have t1 := R'.2.2.1 (4 * i)
            refine c_73v (p := 2) G.bd R' hi (by decide) (show u' (4 * i + 0) + wid i ≤ V (4 * i + 2) by rw [Nat.add_zero]; omega) (fun ρ1 u1 R1 m1 y1 _ => kb_72_133 (pk_in i 9 hi) (pk_in 1 4 (by decide)) (pk_in i 9 hi) ?_)
            rw [ci, c1, R1.2.1 i 1 hi (by decide), R1.1 14 (by omega) (by omega), w2, nI_add]
            have t2 := R1.2.2.1 (4 * i + 1)
            refine c_73v (p := 3) G.bd R1 hi (by decide) (show u1 (4 * i + 1) + hgt i ≤ V (4 * i + 3) by omega) (fun ρ2 u2 R2 m2 y2 _ => kb_72_157 ?_)
            rw [nI_1]
            refine ihi ρ2 u2 R2 (fun x => Nat.le_trans (mu x) (Nat.le_trans (m1 x) (m2 x))) (fun j hj hrj => ?_)
            by_cases c : j = i
            · subst c
              rw [Nat.add_zero] at y1
              have a1 := m2 (4 * j + 2)
              exact ⟨by omega, by omega⟩
            · obtain ⟨b1, b2⟩ := hr j (by omega) hrj
              exact ⟨Nat.le_trans b1 (Nat.le_trans (m1 _) (m2 _)), Nat.le_trans b2 (Nat.le_trans (m1 _) (m2 _))⟩
      · intro e he ihe ρ u R h
        have e12 : ρ 1 12 = nI n := by rw [R.1 1 (by omega) (by omega)]; exact G.jn.2
        refine kb_72_63 (fun g => absurd g (by rw [e12]; exact hI_nle (by omega) he)) (fun _ => kb_72_74 (c_75v G R he (fun τ1 v1 R1 m1 a1 a2 _ => kb_72_79 (c_76v G R1 he (fun τ2 v2 R2 m2 a3 _ => kb_72_84 ?_)))))
        rw [nI_1]
        refine ihe τ2 v2 R2 (fun e' he' => ?_)
        by_cases c : e' = e
        · subst c
          exact ⟨⟨Nat.le_trans a1 (m2 _), Nat.le_trans a2 (m2 _)⟩, a3⟩
        · obtain ⟨⟨b1, b2⟩, b3⟩ := h e' (by omega)
          exact ⟨⟨Nat.le_trans b1 (Nat.le_trans (m1 _) (m2 _)), Nat.le_trans b2 (Nat.le_trans (m1 _) (m2 _))⟩, fun X Y hX hY => Nat.le_trans (b3 X Y hX hY) (Nat.le_trans (m1 _) (m2 _))⟩
  · intro i hi ih ρ I z o2
    refine kb_72_2 (fun g => absurd g (hI_nle (a := 9) (by omega) hi)) (fun _ => kb_72_8 ?_)
    refine lp_dn (P := fun p => ∀ ρ, PI τ0 ρ → (∀ i' p', i' < i → p' < 4 → ρ (62 + 1 + i') p' = 0) → (∀ p', p' < p → ρ (62 + 1 + i) p' = 0) → mw (d + 3) mt_72 Q 10 [some (.ref 8), some (.int (nI i)), some (.int (nI p))] [] ρ) 4 ?_ ?_ 0 (by omega) ρ I z (fun p' h => absurd h (Nat.not_lt_zero p'))
    · intro ρ I z zi
      refine kb_72_10 (fun _ => kb_72_30 ?_) (fun g => absurd (by decide) g)
      rw [nI_1]
      exact ih ρ I (fun i' p' h1 h2 => by
        by_cases c : i' = i
        · rw [c]; exact zi p' h2
        · exact z i' p' (by omega) h2) _
    · intro p hp ihp ρ I z zi
      refine kb_72_10 (fun g => absurd g (hI_nle (a := 4) (by omega) hp)) (fun _ => kb_72_15 (pk_in i 9 hi) (pk_in p 4 hp) ?_)
      rw [nI_1, nI_clamp (show i < 2 ^ 31 by omega), nI_clamp (show p < 2 ^ 31 by omega)]
      refine ihp _ (PI_up I (by omega)) (fun i' p' h1 h2 => by rw [mm_up_n (by omega)]; exact z i' p' h1 h2) (fun p' h => ?_)
      by_cases c : p' = p
      · rw [c]; exact mm_up_s
      · rw [mm_up_o c]; exact zi p' (by omega)
end CPL

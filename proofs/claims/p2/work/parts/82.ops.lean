-- the invariant is kept by least, wall, corners, join, clear
theorem CK_cg1 {σ ρ : mm_S} {n m : Nat} (h10 : ρ 1 10 = σ 1 10) (h1' : ρ 1 11 = σ 1 11) (h1 : ρ 1 12 = σ 1 12) (h11 : ρ 11 = σ 11) (h12 : ρ 12 = σ 12) (h15 : ρ 15 = σ 15) (h16 : ρ 16 = σ 16) (h17 : ρ 17 = σ 17) (C : CK σ n m) : CK ρ n m := by
  refine ⟨by rw [h1']; exact C.cr, ⟨C.dm.1, by rw [h10]; exact C.dm.2⟩, fun j hj => by rw [xd_10 h10]; exact C.dr j hj, ?_, ?_, ⟨C.jn.1, by rw [h1]; exact C.jn.2⟩, by rw [h16, h17]; exact C.je, by rw [h15]; exact C.jm, ?_⟩
  · unfold cG pX pY; rw [h11, h12]; exact C.xy
  · unfold pX pY; rw [h11, h12]; exact C.ds
  · unfold aj; rw [h15, h16, h17]; exact C.ja
theorem ZI_cw {σ τ : mm_S} {n m : Nat} (h : ∀ c, (c = 1 ∨ c = 9 ∨ c = 11 ∨ c = 12 ∨ c = 15 ∨ c = 16 ∨ c = 17 ∨ c = 19 ∨ c = 73 ∨ c = 75 ∨ c = 76 ∨ c = 77 ∨ c = 80 ∨ c = 81 ∨ c = 83 ∨ c = 98) → τ c = σ c) (h10 : ∀ j, (j = 6 ∨ j = 10 ∨ j = 34) → τ 10 j = σ 10 j) (B : BG τ) (D : DG τ) (W : WN τ) (wh : ∀ j, j < 9 → (τ 75 j = 0 → τ 78 j = 1 ∧ τ 79 j = 1) ∧ (¬ τ 75 j = 0 → τ 78 j = τ 13 j ∧ τ 79 j = τ 14 j)) (ww : ∀ k, k < n → τ 82 k = τ 18 k) (Z : ZI σ n m) : ZI τ n m := by
  have h1 := h 1 (by omega)
  refine ⟨CK_cg h1 (h 11 (by omega)) (h 12 (by omega)) (h 15 (by omega)) (h 16 (by omega)) (h 17 (by omega)) Z.ck, ?_, B, D, W, MK_cg (h10 6 (by omega)) (h10 10 (by omega)) (h 75 (by omega)) (h 80 (by omega)) (h 81 (by omega)) (h 83 (by omega)) Z.mk, Rm_cg (by rw [h1]) (h 11 (by omega)) (h 12 (by omega)) (h 75 (by omega)) (h 76 (by omega)) (h 77 (by omega)) Z.rm, ?_, ?_, wh, ww, ?_⟩
  · unfold COk; rw [h1, h 19 (by omega)]; exact Z.co
  · intro k hk; rw [h 80 (by omega), h 81 (by omega), h 16 (by omega), h 17 (by omega)]; exact Z.jj k hk
  · rw [h10 10 (by omega), h1, h 83 (by omega), h 19 (by omega)]; exact Z.cc
  · rw [h 9 (by omega), h10 34 (by omega), h 98 (by omega), h 73 (by omega)]; exact Z.wy
theorem up_v {σ : mm_S} {c i j : Nat} {x : Int32} : mm_up σ c i x c j = if j = i then x else σ c j := by
  split
  · subst j; exact mm_up_s
  · exact mm_up_o (by assumption)
theorem ZI_ldr {σ : mm_S} {n m : Nat} {r w h : Int32} (Z : ZI σ n m) (hd : xd σ r = 1) : ZI (ldr σ r w h) n m := by
  obtain ⟨i, hi, rfl⟩ := xd_1 hd
  have ci : (nI i).toNatClampNeg = i := nI_clamp (by omega)
  have fo : ∀ c, c ≠ 0 → c ≠ 10 → c ≠ 13 → c ≠ 14 → c ≠ 78 → c ≠ 79 → ldr σ (nI i) w h c = σ c := fun c a b e f g k => by
    unfold ldr
    simp only [mm_up_n a, mm_up_n b, mm_up_n e, mm_up_n f, mm_up_n g, mm_up_n k]
  have gm : ∀ j, j ≠ 0 → j ≠ 12 → ldr σ (nI i) w h 10 j = σ 10 j := fun j a b => by
    unfold ldr
    simp only [mm_up_o b, mm_up_o a, mm_up_n (show (10 : Nat) ≠ 79 by decide), mm_up_n (show (10 : Nat) ≠ 78 by decide), mm_up_n (show (10 : Nat) ≠ 0 by decide), mm_up_n (show (10 : Nat) ≠ 13 by decide), mm_up_n (show (10 : Nat) ≠ 14 by decide)]
  have g13 : ∀ j, ldr σ (nI i) w h 13 j = if j = i then w else σ 13 j := fun j => by
    unfold ldr
    simp only [mm_up_n (show (13 : Nat) ≠ 10 by decide), mm_up_n (show (13 : Nat) ≠ 79 by decide), mm_up_n (show (13 : Nat) ≠ 78 by decide), mm_up_n (show (13 : Nat) ≠ 0 by decide), mm_up_n (show (13 : Nat) ≠ 14 by decide), ci, up_v]
  have g14 : ∀ j, ldr σ (nI i) w h 14 j = if j = i then h else σ 14 j := fun j => by
    unfold ldr
    simp only [mm_up_n (show (14 : Nat) ≠ 10 by decide), mm_up_n (show (14 : Nat) ≠ 79 by decide), mm_up_n (show (14 : Nat) ≠ 78 by decide), mm_up_n (show (14 : Nat) ≠ 0 by decide), mm_up_n (show (14 : Nat) ≠ 13 by decide), ci, up_v]
  have g78 : ∀ j, ldr σ (nI i) w h 78 j = if j = i then w else σ 78 j := fun j => by
    unfold ldr
    simp only [mm_up_n (show (78 : Nat) ≠ 10 by decide), mm_up_n (show (78 : Nat) ≠ 79 by decide), mm_up_n (show (78 : Nat) ≠ 0 by decide), mm_up_n (show (78 : Nat) ≠ 13 by decide), mm_up_n (show (78 : Nat) ≠ 14 by decide), ci, up_v]
  have g79 : ∀ j, ldr σ (nI i) w h 79 j = if j = i then h else σ 79 j := fun j => by
    unfold ldr
    simp only [mm_up_n (show (79 : Nat) ≠ 10 by decide), mm_up_n (show (79 : Nat) ≠ 78 by decide), mm_up_n (show (79 : Nat) ≠ 0 by decide), mm_up_n (show (79 : Nat) ≠ 13 by decide), mm_up_n (show (79 : Nat) ≠ 14 by decide), ci, up_v]
  generalize ldr σ (nI i) w h = τ at *
  have dr := (Z.rm i hi).1.mp hd
  have e75 : τ 75 = σ 75 := fo 75 (by omega) (by omega) (by omega) (by omega) (by omega) (by omega)
  refine ZI_cw (fun c hc => fo c (by omega) (by omega) (by omega) (by omega) (by omega) (by omega)) (fun j hj => gm j (by omega) (by omega)) (BG_cg (fun c _ _ => fo c (by omega) (by omega) (by omega) (by omega) (by omega) (by omega)) Z.bg) (DG_cg (fo 45 (by omega) (by omega) (by omega) (by omega) (by omega) (by omega)) Z.dg) (by unfold WN; rw [fo 3 (by omega) (by omega) (by omega) (by omega) (by omega) (by omega)]; exact Z.wn) (fun j hj => ?_) (fun k hk => by rw [fo 82 (by omega) (by omega) (by omega) (by omega) (by omega) (by omega), fo 18 (by omega) (by omega) (by omega) (by omega) (by omega) (by omega)]; exact Z.ww k hk) Z
  rw [e75, g78, g79, g13, g14]
  by_cases e : j = i
  · rw [if_pos e, if_pos e, if_pos e, if_pos e]
    exact ⟨fun z => absurd (by rw [← e]; exact z) dr, fun _ => ⟨rfl, rfl⟩⟩
  · rw [if_neg e, if_neg e, if_neg e, if_neg e]
    exact Z.wh j hj
theorem ZI_wdr {σ : mm_S} {n m : Nat} {j w : Int32} (Z : ZI σ n m) : ZI (wdr σ j w) n m := by
  have fo : ∀ c, c ≠ 0 → c ≠ 10 → c ≠ 18 → c ≠ 82 → wdr σ j w c = σ c := fun c a b e f => by
    unfold wdr
    simp only [mm_up_n a, mm_up_n b, mm_up_n e, mm_up_n f]
  have gm : ∀ i, i ≠ 0 → i ≠ 12 → wdr σ j w 10 i = σ 10 i := fun i a b => by
    unfold wdr
    simp only [mm_up_o b, mm_up_o a, mm_up_n (show (10 : Nat) ≠ 82 by decide), mm_up_n (show (10 : Nat) ≠ 0 by decide), mm_up_n (show (10 : Nat) ≠ 18 by decide)]
  have g18 : ∀ k, wdr σ j w 18 k = if k = j.toNatClampNeg then w else σ 18 k := fun k => by
    unfold wdr
    simp only [mm_up_n (show (18 : Nat) ≠ 10 by decide), mm_up_n (show (18 : Nat) ≠ 82 by decide), mm_up_n (show (18 : Nat) ≠ 0 by decide), up_v]
  have g82 : ∀ k, wdr σ j w 82 k = if k = j.toNatClampNeg then w else σ 82 k := fun k => by
    unfold wdr
    simp only [mm_up_n (show (82 : Nat) ≠ 10 by decide), mm_up_n (show (82 : Nat) ≠ 18 by decide), mm_up_n (show (82 : Nat) ≠ 0 by decide), up_v]
  generalize wdr σ j w = τ at *
  refine ZI_cw (fun c hc => fo c (by omega) (by omega) (by omega) (by omega)) (fun i hi => gm i (by omega) (by omega)) (BG_cg (fun c _ _ => fo c (by omega) (by omega) (by omega) (by omega)) Z.bg) (DG_cg (fo 45 (by omega) (by omega) (by omega) (by omega)) Z.dg) (by unfold WN; rw [fo 3 (by omega) (by omega) (by omega) (by omega)]; exact Z.wn) (fun i hi => ?_) (fun k hk => ?_) Z
  · rw [fo 75 (by omega) (by omega) (by omega) (by omega), fo 78 (by omega) (by omega) (by omega) (by omega), fo 79 (by omega) (by omega) (by omega) (by omega), fo 13 (by omega) (by omega) (by omega) (by omega), fo 14 (by omega) (by omega) (by omega) (by omega)]
    exact Z.wh i hi
  · rw [g18, g82]
    split
    · rfl
    · exact Z.ww k hk
theorem ZI_cdr {σ : mm_S} {n m : Nat} {a b c e : Int32} (Z : ZI σ n m) (hx : xall σ a b c e) : ZI (cdr σ a b c e) n m := by
  obtain ⟨ia, ha, rfl⟩ := xd_1 hx.1
  obtain ⟨ib, hb, rfl⟩ := xd_1 hx.2.1
  obtain ⟨ic, hc, rfl⟩ := xd_1 hx.2.2.1
  obtain ⟨ie, he, rfl⟩ := xd_1 hx.2.2.2
  have fo : ∀ k, k ≠ 0 → k ≠ 1 → k ≠ 10 → k ≠ 19 → k ≠ 83 → cdr σ (nI ia) (nI ib) (nI ic) (nI ie) k = σ k := fun k h1 h2 h3 h4 h5 => by
    unfold cdr
    simp only [mm_up_n h1, mm_up_n h2, mm_up_n h3, mm_up_n h4, mm_up_n h5]
  have gm : ∀ j, j ≠ 0 → j ≠ 10 → j ≠ 12 → cdr σ (nI ia) (nI ib) (nI ic) (nI ie) 10 j = σ 10 j := fun j h1 h2 h3 => by
    unfold cdr
    simp only [mm_up_o h3, mm_up_o h2, mm_up_o h1, mm_up_n (show (10 : Nat) ≠ 83 by decide), mm_up_n (show (10 : Nat) ≠ 0 by decide), mm_up_n (show (10 : Nat) ≠ 1 by decide), mm_up_n (show (10 : Nat) ≠ 19 by decide)]
  have gk : cdr σ (nI ia) (nI ib) (nI ic) (nI ie) 10 10 = 1 := by
    unfold cdr
    rw [mm_up_o (by decide), mm_up_s]
  have g1 : ∀ j, j ≠ 9 → cdr σ (nI ia) (nI ib) (nI ic) (nI ie) 1 j = σ 1 j := fun j h1 => by
    unfold cdr
    simp only [mm_up_o h1, mm_up_n (show (1 : Nat) ≠ 83 by decide), mm_up_n (show (1 : Nat) ≠ 0 by decide), mm_up_n (show (1 : Nat) ≠ 10 by decide), mm_up_n (show (1 : Nat) ≠ 19 by decide)]
  have g9 : cdr σ (nI ia) (nI ib) (nI ic) (nI ie) 1 9 = 1 := by
    unfold cdr
    simp only [mm_up_s, mm_up_n (show (1 : Nat) ≠ 83 by decide), mm_up_n (show (1 : Nat) ≠ 0 by decide), mm_up_n (show (1 : Nat) ≠ 10 by decide), mm_up_n (show (1 : Nat) ≠ 19 by decide)]
  have g19 : ∀ j, cdr σ (nI ia) (nI ib) (nI ic) (nI ie) 19 j = if j = 3 then nI ie else if j = 2 then nI ic else if j = 1 then nI ib else if j = 0 then nI ia else σ 19 j := fun j => by
    unfold cdr
    simp only [up_v, mm_up_n (show (19 : Nat) ≠ 83 by decide), mm_up_n (show (19 : Nat) ≠ 0 by decide), mm_up_n (show (19 : Nat) ≠ 10 by decide), mm_up_n (show (19 : Nat) ≠ 1 by decide)]
  have g83 : ∀ j, cdr σ (nI ia) (nI ib) (nI ic) (nI ie) 83 j = if j = 3 then nI ie else if j = 2 then nI ic else if j = 1 then nI ib else if j = 0 then nI ia else σ 83 j := fun j => by
    unfold cdr
    simp only [up_v, mm_up_n (show (83 : Nat) ≠ 19 by decide), mm_up_n (show (83 : Nat) ≠ 0 by decide), mm_up_n (show (83 : Nat) ≠ 10 by decide), mm_up_n (show (83 : Nat) ≠ 1 by decide)]
  generalize cdr σ (nI ia) (nI ib) (nI ic) (nI ie) = τ at *
  have in4 : ∀ i, i < 4 → ∃ k, k < 9 ∧ (if i = 3 then nI ie else if i = 2 then nI ic else if i = 1 then nI ib else if i = 0 then nI ia else (0 : Int32)) = nI k := fun i hi => by
    match i, hi with
    | 0, _ => exact ⟨ia, ha, rfl⟩
    | 1, _ => exact ⟨ib, hb, rfl⟩
    | 2, _ => exact ⟨ic, hc, rfl⟩
    | 3, _ => exact ⟨ie, he, rfl⟩
    | i + 4, h => omega
  have sel : ∀ i (s : Int32), i < 4 → (if i = 3 then nI ie else if i = 2 then nI ic else if i = 1 then nI ib else if i = 0 then nI ia else s) = (if i = 3 then nI ie else if i = 2 then nI ic else if i = 1 then nI ib else if i = 0 then nI ia else (0 : Int32)) := fun i s hi => by
    match i, hi with
    | 0, _ => rfl
    | 1, _ => rfl
    | 2, _ => rfl
    | 3, _ => rfl
    | i + 4, h => omega
  have M := Z.mk
  refine ⟨CK_cg1 (g1 10 (by decide)) (g1 11 (by decide)) (g1 12 (by decide)) (fo 11 (by omega) (by omega) (by omega) (by omega) (by omega)) (fo 12 (by omega) (by omega) (by omega) (by omega) (by omega)) (fo 15 (by omega) (by omega) (by omega) (by omega) (by omega)) (fo 16 (by omega) (by omega) (by omega) (by omega) (by omega)) (fo 17 (by omega) (by omega) (by omega) (by omega) (by omega)) Z.ck, ⟨Or.inr g9, fun _ i hi => ?_⟩, BG_cg (fun c _ _ => fo c (by omega) (by omega) (by omega) (by omega) (by omega)) Z.bg, DG_cg (fo 45 (by omega) (by omega) (by omega) (by omega) (by omega)) Z.dg, ?_, ⟨⟨M.jn.1, by rw [gm 6 (by decide) (by decide) (by decide)]; exact M.jn.2⟩, ?_, ?_, Or.inr gk, fun _ i hi => ?_⟩, ?_, ?_, ⟨by rw [gk, g9], fun _ i hi => by rw [g19, g83]; exact (sel i (σ 83 i) hi).trans (sel i (σ 19 i) hi).symm⟩, ?_, ?_, ?_⟩
  · rw [g19, sel i _ hi]; exact in4 i hi
  · unfold WN; rw [fo 3 (by omega) (by omega) (by omega) (by omega) (by omega)]; exact Z.wn
  · rw [fo 75 (by omega) (by omega) (by omega) (by omega) (by omega), fo 80 (by omega) (by omega) (by omega) (by omega) (by omega), fo 81 (by omega) (by omega) (by omega) (by omega) (by omega)]; exact M.je
  · rw [fo 80 (by omega) (by omega) (by omega) (by omega) (by omega), fo 81 (by omega) (by omega) (by omega) (by omega) (by omega)]; exact M.jd
  · rw [g83, sel i _ hi]; exact in4 i hi
  · exact Rm_cg (g1 10 (by decide)) (fo 11 (by omega) (by omega) (by omega) (by omega) (by omega)) (fo 12 (by omega) (by omega) (by omega) (by omega) (by omega)) (fo 75 (by omega) (by omega) (by omega) (by omega) (by omega)) (fo 76 (by omega) (by omega) (by omega) (by omega) (by omega)) (fo 77 (by omega) (by omega) (by omega) (by omega) (by omega)) Z.rm
  · rw [fo 80 (by omega) (by omega) (by omega) (by omega) (by omega), fo 81 (by omega) (by omega) (by omega) (by omega) (by omega), fo 16 (by omega) (by omega) (by omega) (by omega) (by omega), fo 17 (by omega) (by omega) (by omega) (by omega) (by omega)]; exact Z.jj
  · rw [fo 75 (by omega) (by omega) (by omega) (by omega) (by omega), fo 78 (by omega) (by omega) (by omega) (by omega) (by omega), fo 79 (by omega) (by omega) (by omega) (by omega) (by omega), fo 13 (by omega) (by omega) (by omega) (by omega) (by omega), fo 14 (by omega) (by omega) (by omega) (by omega) (by omega)]; exact Z.wh
  · rw [fo 82 (by omega) (by omega) (by omega) (by omega) (by omega), fo 18 (by omega) (by omega) (by omega) (by omega) (by omega)]; exact Z.ww
  · rw [fo 9 (by omega) (by omega) (by omega) (by omega) (by omega), gm 34 (by decide) (by decide) (by decide), fo 98 (by omega) (by omega) (by omega) (by omega) (by omega), fo 73 (by omega) (by omega) (by omega) (by omega) (by omega)]; exact Z.wy
theorem tb_0 (j : Nat) : (0 : Nat).testBit j = false := Nat.zero_testBit j
theorem bcn_0 : ∀ n, bc 0 n = 0
  | 0 => rfl
  | n + 1 => by unfold bc; rw [bcn_0 n, tb_0]; rfl
theorem ZI_clr {σ τ : mm_S} {n m : Nat} (Z : ZI σ n m) (K : clr (mm_up (mm_up (mm_up (mm_up (mm_up σ 1 10 (0 : Int32)) 1 11 (0 : Int32)) 1 12 (0 : Int32)) 1 9 (0 : Int32)) 0 3 (0 : Int32)) τ) : ZI τ 0 0 := by
  obtain ⟨k1, k2, k3, k4, k5, k6, k7⟩ := K
  have fo : ∀ c, c ≠ 0 → c ≠ 1 → c ≠ 10 → c ≠ 75 → c ≠ 78 → c ≠ 79 → τ c = σ c := fun c h1 h2 h3 h4 h5 h6 => by
    rw [k1 c h3 h4 h5 h6]
    simp only [mm_up_n h1, mm_up_n h2]
  have g1 : τ 1 = (mm_up (mm_up (mm_up (mm_up (mm_up σ 1 10 (0 : Int32)) 1 11 (0 : Int32)) 1 12 (0 : Int32)) 1 9 (0 : Int32)) 0 3 (0 : Int32)) 1 := k1 1 (by decide) (by decide) (by decide) (by decide)
  have a10 : τ 1 10 = nI 0 := by
    rw [g1, mm_up_n (by decide), mm_up_o (by decide), mm_up_o (by decide), mm_up_o (by decide), mm_up_s]; rfl
  have a11 : τ 1 11 = nI 0 := by
    rw [g1, mm_up_n (by decide), mm_up_o (by decide), mm_up_o (by decide), mm_up_s]; rfl
  have a12 : τ 1 12 = nI 0 := by
    rw [g1, mm_up_n (by decide), mm_up_o (by decide), mm_up_s]; rfl
  have a9 : τ 1 9 = 0 := by
    rw [g1, mm_up_n (by decide), mm_up_s]
  have nx : ∀ j, j < 9 → ¬ xd τ (nI j) = 1 := fun j hj h => by
    have := (xd_m (by decide) a10 hj).mp h
    rw [tb_0] at this
    exact absurd this (by decide)
  have nt : ∀ {j}, (0 : Nat).testBit j = true → False := fun h => by rw [tb_0] at h; exact absurd h (by decide)
  refine ⟨⟨by rw [a11, bcn_0], ⟨by decide, a10⟩, fun j hj => xd_m (by decide) a10 hj, fun j _ h => (nt h).elim, fun i j _ _ h => (nt h).elim, ⟨by decide, a12⟩, fun k hk => absurd hk (Nat.not_lt_zero k), fun i _ h => (nt h).elim, fun i j _ h => (nt h).elim⟩, ⟨Or.inl a9, fun h => absurd (a9.symm.trans h) (by decide)⟩, BG_cg (fun c _ _ => fo c (by omega) (by omega) (by omega) (by omega) (by omega) (by omega)) Z.bg, DG_cg (fo 45 (by omega) (by omega) (by omega) (by omega) (by omega) (by omega)) Z.dg, ?_, ⟨⟨by decide, k5⟩, fun k hk => absurd hk (Nat.not_lt_zero k), fun k _ hk => absurd hk (Nat.not_lt_zero k), Or.inl k6, fun h => absurd (k6.symm.trans h) (by decide)⟩, fun j hj => ⟨⟨fun h => absurd h (nx j hj), fun h => absurd (k2 j hj).1 h⟩, fun h => absurd h (nx j hj)⟩, fun k hk => absurd hk (Nat.not_lt_zero k), ⟨by rw [k6, a9], fun h => absurd (a9.symm.trans h) (by decide)⟩, fun j hj => ⟨fun _ => (k2 j hj).2, fun h => absurd (k2 j hj).1 h⟩, fun k hk => absurd hk (Nat.not_lt_zero k), ?_⟩
  · unfold WN; rw [fo 3 (by omega) (by omega) (by omega) (by omega) (by omega) (by omega)]; exact Z.wn
  · rw [fo 9 (by omega) (by omega) (by omega) (by omega) (by omega) (by omega), k3 34 (by decide) (by decide) (by decide) (by decide), fo 98 (by omega) (by omega) (by omega) (by omega) (by omega) (by omega), fo 73 (by omega) (by omega) (by omega) (by omega) (by omega) (by omega)]
    rw [show ∀ s : mm_S, (mm_up (mm_up (mm_up (mm_up (mm_up s 1 10 (0 : Int32)) 1 11 (0 : Int32)) 1 12 (0 : Int32)) 1 9 (0 : Int32)) 0 3 (0 : Int32)) 10 34 = s 10 34 from fun s => by simp only [mm_up_n (show (10 : Nat) ≠ 0 by decide), mm_up_n (show (10 : Nat) ≠ 1 by decide)]]
    exact Z.wy
theorem ZI_join {σ : mm_S} {n m : Nat} {a b : Int32} (Z : ZI σ n m) (hab : ¬ a = b) (da : xd σ a = 1) (db : xd σ b = 1) (h0 : hs (σ 15 a.toNatClampNeg) b = 0) (hn : n < 21) : ZI (mjd (cjd σ a b n) a b n) (n + 1) m := by
  obtain ⟨i, hi, rfl⟩ := xd_1 da
  obtain ⟨j, hj, rfl⟩ := xd_1 db
  have ci : (nI i).toNatClampNeg = i := nI_clamp (by omega)
  have cj : (nI j).toNatClampNeg = j := nI_clamp (by omega)
  have ij : i ≠ j := fun e => hab (by rw [e])
  rw [ci] at h0
  have C := Z.ck
  obtain ⟨hm, e10⟩ := C.dm
  have mi := (xd_m hm e10 hi).mp da
  have mj := (xd_m hm e10 hj).mp db
  obtain ⟨qi, hqi, ei⟩ := C.jm i hi mi
  obtain ⟨qj, hqj, ej⟩ := C.jm j hj mj
  have fo : ∀ c, c ≠ 0 → c ≠ 1 → c ≠ 10 → (c < 15 ∨ 18 < c) → (c < 80 ∨ 82 < c) → mjd (cjd σ (nI i) (nI j) n) (nI i) (nI j) n c = σ c := fun c h1 h2 h3 h4 h5 => by
    unfold mjd cjd
    simp only [mm_up_n h1, mm_up_n h2, mm_up_n h3, mm_up_n (show c ≠ 15 by omega), mm_up_n (show c ≠ 16 by omega), mm_up_n (show c ≠ 17 by omega), mm_up_n (show c ≠ 18 by omega), mm_up_n (show c ≠ 80 by omega), mm_up_n (show c ≠ 81 by omega), mm_up_n (show c ≠ 82 by omega)]
  have gm : ∀ k, k ≠ 0 → k ≠ 6 → k ≠ 12 → mjd (cjd σ (nI i) (nI j) n) (nI i) (nI j) n 10 k = σ 10 k := fun k h1 h2 h3 => by
    unfold mjd cjd
    simp only [mm_up_o h1, mm_up_o h2, mm_up_o h3, mm_up_n (show (10 : Nat) ≠ 15 by decide), mm_up_n (show (10 : Nat) ≠ 16 by decide), mm_up_n (show (10 : Nat) ≠ 17 by decide), mm_up_n (show (10 : Nat) ≠ 18 by decide), mm_up_n (show (10 : Nat) ≠ 80 by decide), mm_up_n (show (10 : Nat) ≠ 81 by decide), mm_up_n (show (10 : Nat) ≠ 82 by decide), mm_up_n (show (10 : Nat) ≠ 0 by decide), mm_up_n (show (10 : Nat) ≠ 1 by decide)]
  have g6 : mjd (cjd σ (nI i) (nI j) n) (nI i) (nI j) n 10 6 = nI (n + 1) := by
    unfold mjd
    rw [mm_up_o (by decide), mm_up_s]
  have g1 : ∀ k, k ≠ 12 → mjd (cjd σ (nI i) (nI j) n) (nI i) (nI j) n 1 k = σ 1 k := fun k h1 => by
    unfold mjd cjd
    simp only [mm_up_o h1, mm_up_n (show (1 : Nat) ≠ 15 by decide), mm_up_n (show (1 : Nat) ≠ 16 by decide), mm_up_n (show (1 : Nat) ≠ 17 by decide), mm_up_n (show (1 : Nat) ≠ 18 by decide), mm_up_n (show (1 : Nat) ≠ 80 by decide), mm_up_n (show (1 : Nat) ≠ 81 by decide), mm_up_n (show (1 : Nat) ≠ 82 by decide), mm_up_n (show (1 : Nat) ≠ 0 by decide), mm_up_n (show (1 : Nat) ≠ 10 by decide)]
  have g12 : mjd (cjd σ (nI i) (nI j) n) (nI i) (nI j) n 1 12 = nI (n + 1) := by
    unfold mjd cjd
    simp only [mm_up_s, mm_up_n (show (1 : Nat) ≠ 80 by decide), mm_up_n (show (1 : Nat) ≠ 81 by decide), mm_up_n (show (1 : Nat) ≠ 82 by decide), mm_up_n (show (1 : Nat) ≠ 0 by decide), mm_up_n (show (1 : Nat) ≠ 10 by decide)]
  have v3 : ∀ c, 16 ≤ c → c ≤ 18 → ∀ k, mjd (cjd σ (nI i) (nI j) n) (nI i) (nI j) n c k = if k = n then (if c = 16 then nI i else if c = 17 then nI j else 1) else σ c k := fun c h1 h2 k => by
    unfold mjd cjd
    simp only [mm_up_n (show c ≠ 80 by omega), mm_up_n (show c ≠ 81 by omega), mm_up_n (show c ≠ 82 by omega), mm_up_n (show c ≠ 0 by omega), mm_up_n (show c ≠ 1 by omega), mm_up_n (show c ≠ 10 by omega), mm_up_n (show c ≠ 15 by omega)]
    rcases (show c = 16 ∨ c = 17 ∨ c = 18 by omega) with rfl | rfl | rfl
    · simp only [mm_up_n (show (16 : Nat) ≠ 17 by decide), mm_up_n (show (16 : Nat) ≠ 18 by decide), up_v, if_true]
    · simp only [mm_up_n (show (17 : Nat) ≠ 16 by decide), mm_up_n (show (17 : Nat) ≠ 18 by decide), up_v, if_true, if_neg (show (17 : Nat) ≠ 16 by decide)]
    · simp only [mm_up_n (show (18 : Nat) ≠ 17 by decide), mm_up_n (show (18 : Nat) ≠ 16 by decide), up_v, if_neg (show (18 : Nat) ≠ 16 by decide), if_neg (show (18 : Nat) ≠ 17 by decide)]
  have w3 : ∀ c, 80 ≤ c → c ≤ 82 → ∀ k, mjd (cjd σ (nI i) (nI j) n) (nI i) (nI j) n c k = if k = n then (if c = 80 then nI i else if c = 81 then nI j else 1) else σ c k := fun c h1 h2 k => by
    unfold mjd cjd
    rcases (show c = 80 ∨ c = 81 ∨ c = 82 by omega) with rfl | rfl | rfl
    · simp only [mm_up_n (show (80 : Nat) ≠ 10 by decide), mm_up_n (show (80 : Nat) ≠ 81 by decide), mm_up_n (show (80 : Nat) ≠ 82 by decide), up_v, if_true, mm_up_n (show (80 : Nat) ≠ 0 by decide), mm_up_n (show (80 : Nat) ≠ 1 by decide), mm_up_n (show (80 : Nat) ≠ 15 by decide), mm_up_n (show (80 : Nat) ≠ 16 by decide), mm_up_n (show (80 : Nat) ≠ 17 by decide), mm_up_n (show (80 : Nat) ≠ 18 by decide)]
    · simp only [mm_up_n (show (81 : Nat) ≠ 10 by decide), mm_up_n (show (81 : Nat) ≠ 80 by decide), mm_up_n (show (81 : Nat) ≠ 82 by decide), up_v, if_true, if_neg (show (81 : Nat) ≠ 80 by decide), mm_up_n (show (81 : Nat) ≠ 0 by decide), mm_up_n (show (81 : Nat) ≠ 1 by decide), mm_up_n (show (81 : Nat) ≠ 15 by decide), mm_up_n (show (81 : Nat) ≠ 16 by decide), mm_up_n (show (81 : Nat) ≠ 17 by decide), mm_up_n (show (81 : Nat) ≠ 18 by decide)]
    · simp only [mm_up_n (show (82 : Nat) ≠ 10 by decide), mm_up_n (show (82 : Nat) ≠ 81 by decide), mm_up_n (show (82 : Nat) ≠ 80 by decide), up_v, if_neg (show (82 : Nat) ≠ 80 by decide), if_neg (show (82 : Nat) ≠ 81 by decide), mm_up_n (show (82 : Nat) ≠ 0 by decide), mm_up_n (show (82 : Nat) ≠ 1 by decide), mm_up_n (show (82 : Nat) ≠ 15 by decide), mm_up_n (show (82 : Nat) ≠ 16 by decide), mm_up_n (show (82 : Nat) ≠ 17 by decide), mm_up_n (show (82 : Nat) ≠ 18 by decide)]
  have g15 : ∀ k, mjd (cjd σ (nI i) (nI j) n) (nI i) (nI j) n 15 k = if k = j then nI (qj ||| 2 ^ i) else if k = i then nI (qi ||| 2 ^ j) else σ 15 k := fun k => by
    unfold mjd cjd
    simp only [mm_up_n (show (15 : Nat) ≠ 10 by decide), mm_up_n (show (15 : Nat) ≠ 80 by decide), mm_up_n (show (15 : Nat) ≠ 81 by decide), mm_up_n (show (15 : Nat) ≠ 82 by decide), mm_up_n (show (15 : Nat) ≠ 0 by decide), mm_up_n (show (15 : Nat) ≠ 1 by decide), up_v, mm_up_n (show (15 : Nat) ≠ 16 by decide), mm_up_n (show (15 : Nat) ≠ 17 by decide), mm_up_n (show (15 : Nat) ≠ 18 by decide), ci, cj, ei, ej, one_sh (show i < 31 by omega), one_sh (show j < 31 by omega), or_bit]
  generalize mjd (cjd σ (nI i) (nI j) n) (nI i) (nI j) n = τ at *
  have v16 : ∀ k, τ 16 k = if k = n then nI i else σ 16 k := fun k => v3 16 (by omega) (by omega) k
  have v17 : ∀ k, τ 17 k = if k = n then nI j else σ 17 k := fun k => v3 17 (by omega) (by omega) k
  have v18 : ∀ k, τ 18 k = if k = n then 1 else σ 18 k := fun k => v3 18 (by omega) (by omega) k
  have w80 : ∀ k, τ 80 k = if k = n then nI i else σ 80 k := fun k => w3 80 (by omega) (by omega) k
  have w81 : ∀ k, τ 81 k = if k = n then nI j else σ 81 k := fun k => w3 81 (by omega) (by omega) k
  have w82 : ∀ k, τ 82 k = if k = n then 1 else σ 82 k := fun k => w3 82 (by omega) (by omega) k
  have nq : ¬ qi.testBit j = true := fun z => by
    rw [ei, (hs_b1 (by omega) (by omega)).mpr z] at h0
    exact absurd h0 (by decide)
  have noj : ∀ k, k < n → ¬ ((σ 16 k = nI i ∧ σ 17 k = nI j) ∨ (σ 16 k = nI j ∧ σ 17 k = nI i)) := fun k hk h => by
    have := ((C.ja i j hi mi).mpr ⟨k, hk, h, hj⟩)
    rw [aj_bit hqi ei] at this
    exact nq this.2
  have M := Z.mk
  have p9 : ∀ k, k < 9 → 2 ^ k < 2 ^ 9 := fun k hk => Nat.pow_lt_pow_right (by decide) hk
  refine ⟨⟨by rw [g1 11 (by decide)]; exact C.cr, ⟨hm, by rw [g1 10 (by decide)]; exact e10⟩, fun k hk => by rw [xd_10 (g1 10 (by decide))]; exact C.dr k hk, ?_, ?_, ⟨by omega, g12⟩, ?_, ?_, ?_⟩, ?_, BG_cg (fun c _ _ => fo c (by omega) (by omega) (by omega) (by omega) (by omega)) Z.bg, DG_cg (fo 45 (by omega) (by omega) (by omega) (by omega) (by omega)) Z.dg, ?_, ⟨⟨by omega, g6⟩, ?_, ?_, ?_⟩, ?_, ?_, ?_, ?_, ?_, ?_⟩
  · unfold cG pX pY; rw [fo 11 (by omega) (by omega) (by omega) (by omega) (by omega), fo 12 (by omega) (by omega) (by omega) (by omega) (by omega)]; exact C.xy
  · unfold pX pY; rw [fo 11 (by omega) (by omega) (by omega) (by omega) (by omega), fo 12 (by omega) (by omega) (by omega) (by omega) (by omega)]; exact C.ds
  · intro k hk
    rw [v16, v17]
    by_cases e : k = n
    · rw [if_pos e, if_pos e]; exact ⟨i, j, hi, hj, ij, mi, mj, rfl, rfl⟩
    · rw [if_neg e, if_neg e]; exact C.je k (by omega)
  · intro u hu mu
    rw [g15]
    by_cases e : u = j
    · rw [if_pos e]; exact ⟨_, Nat.or_lt_two_pow (n := 9) hqj (p9 i hi), rfl⟩
    · rw [if_neg e]
      by_cases e' : u = i
      · rw [if_pos e']; exact ⟨_, Nat.or_lt_two_pow (n := 9) hqi (p9 j hj), rfl⟩
      · rw [if_neg e']; exact C.jm u hu mu
  · intro u v hu mu
    have key : aj τ u v ↔ aj σ u v ∨ (v < 9 ∧ ((u = i ∧ v = j) ∨ (u = j ∧ v = i))) := by
      by_cases e : u = j
      · subst e
        rw [aj_bit (q := qj ||| 2 ^ i) (Nat.or_lt_two_pow (n := 9) hqj (p9 i hi)) (by rw [g15, if_pos rfl]), aj_bit hqj ej, tb_or]
        constructor
        · rintro ⟨h, h' | h'⟩
          · exact Or.inl ⟨h, h'⟩
          · exact Or.inr ⟨h, Or.inr ⟨rfl, h'⟩⟩
        · rintro (h | ⟨h, h' | h'⟩)
          · exact ⟨h.1, Or.inl h.2⟩
          · exact absurd h'.1.symm ij
          · exact ⟨h, Or.inr h'.2⟩
      · by_cases e' : u = i
        · subst e'
          rw [aj_bit (q := qi ||| 2 ^ j) (Nat.or_lt_two_pow (n := 9) hqi (p9 j hj)) (by rw [g15, if_neg e, if_pos rfl]), aj_bit hqi ei, tb_or]
          constructor
          · rintro ⟨h, h' | h'⟩
            · exact Or.inl ⟨h, h'⟩
            · exact Or.inr ⟨h, Or.inl ⟨rfl, h'⟩⟩
          · rintro (h | ⟨h, h' | h'⟩)
            · exact ⟨h.1, Or.inl h.2⟩
            · exact ⟨h, Or.inr h'.2⟩
            · exact absurd h'.1 e
        · constructor
          · intro h
            unfold aj at h
            rw [g15, if_neg e, if_neg e'] at h
            exact Or.inl h
          · rintro (h | ⟨_, h' | h'⟩)
            · unfold aj
              rw [g15, if_neg e, if_neg e']
              exact h
            · exact absurd h'.1 e'
            · exact absurd h'.1 e
    rw [key, C.ja u v hu mu]
    constructor
    · rintro (⟨k, hk, h, h9⟩ | ⟨h9, h⟩)
      · exact ⟨k, by omega, by rw [v16, v17, if_neg (by omega), if_neg (by omega)]; exact h, h9⟩
      · refine ⟨n, by omega, ?_, h9⟩
        rw [v16, v17, if_pos rfl, if_pos rfl]
        rcases h with ⟨rfl, rfl⟩ | ⟨rfl, rfl⟩
        · exact Or.inl ⟨rfl, rfl⟩
        · exact Or.inr ⟨rfl, rfl⟩
    · rintro ⟨k, hk, h, h9⟩
      rw [v16, v17] at h
      by_cases e : k = n
      · rw [if_pos e, if_pos e] at h
        refine Or.inr ⟨h9, ?_⟩
        rcases h with ⟨p, q⟩ | ⟨p, q⟩
        · exact Or.inl ⟨(nI9 hi hu p).symm, (nI9 hj h9 q).symm⟩
        · exact Or.inr ⟨(nI9 hj hu q).symm, (nI9 hi h9 p).symm⟩
      · rw [if_neg e, if_neg e] at h
        exact Or.inl ⟨k, by omega, h, h9⟩
  · unfold COk; rw [g1 9 (by decide), fo 19 (by omega) (by omega) (by omega) (by omega) (by omega)]; exact Z.co
  · unfold WN; rw [fo 3 (by omega) (by omega) (by omega) (by omega) (by omega)]; exact Z.wn
  · intro k hk
    rw [w80, w81, fo 75 (by omega) (by omega) (by omega) (by omega) (by omega)]
    by_cases e : k = n
    · rw [if_pos e, if_pos e]; exact ⟨i, j, hi, hj, ij, (Z.rm i hi).1.mp da, (Z.rm j hj).1.mp db, rfl, rfl⟩
    · rw [if_neg e, if_neg e]; exact M.je k (by omega)
  · have noj' : ∀ k, k < n → ¬ ((σ 80 k = nI i ∧ σ 81 k = nI j) ∨ (σ 80 k = nI j ∧ σ 81 k = nI i)) := fun k hk => by
      rw [(Z.jj k hk).1, (Z.jj k hk).2]; exact noj k hk
    intro k l hk hl u v h1 h2 h3
    rw [w80] at h1
    rw [w81] at h2
    rw [w80, w81] at h3
    by_cases e : k = n
    · by_cases e' : l = n
      · omega
      · rw [if_pos e] at h1 h2
        rw [if_neg e', if_neg e', ← h1, ← h2] at h3
        exact absurd h3 (noj' l (by omega))
    · by_cases e' : l = n
      · rw [if_neg e] at h1 h2
        rw [if_pos e', if_pos e'] at h3
        refine absurd ?_ (noj' k (by omega))
        rw [h1, h2]
        rcases h3 with ⟨p, q⟩ | ⟨p, q⟩
        · exact Or.inl ⟨p.symm, q.symm⟩
        · exact Or.inr ⟨q.symm, p.symm⟩
      · rw [if_neg e] at h1 h2
        rw [if_neg e', if_neg e'] at h3
        exact M.jd k l (by omega) (by omega) u v h1 h2 h3
  · rw [gm 10 (by decide) (by decide) (by decide), fo 83 (by omega) (by omega) (by omega) (by omega) (by omega)]; exact M.co
  · exact Rm_cg (g1 10 (by decide)) (fo 11 (by omega) (by omega) (by omega) (by omega) (by omega)) (fo 12 (by omega) (by omega) (by omega) (by omega) (by omega)) (fo 75 (by omega) (by omega) (by omega) (by omega) (by omega)) (fo 76 (by omega) (by omega) (by omega) (by omega) (by omega)) (fo 77 (by omega) (by omega) (by omega) (by omega) (by omega)) Z.rm
  · intro k hk
    rw [w80, w81, v16, v17]
    by_cases e : k = n
    · rw [if_pos e, if_pos e, if_pos e, if_pos e]; exact ⟨rfl, rfl⟩
    · rw [if_neg e, if_neg e, if_neg e, if_neg e]; exact Z.jj k (by omega)
  · rw [gm 10 (by decide) (by decide) (by decide), g1 9 (by decide), fo 83 (by omega) (by omega) (by omega) (by omega) (by omega), fo 19 (by omega) (by omega) (by omega) (by omega) (by omega)]; exact Z.cc
  · rw [fo 75 (by omega) (by omega) (by omega) (by omega) (by omega), fo 78 (by omega) (by omega) (by omega) (by omega) (by omega), fo 79 (by omega) (by omega) (by omega) (by omega) (by omega), fo 13 (by omega) (by omega) (by omega) (by omega) (by omega), fo 14 (by omega) (by omega) (by omega) (by omega) (by omega)]; exact Z.wh
  · intro k hk
    rw [w82, v18]
    by_cases e : k = n
    · rw [if_pos e, if_pos e]
    · rw [if_neg e, if_neg e]; exact Z.ww k (by omega)
  · rw [fo 9 (by omega) (by omega) (by omega) (by omega) (by omega), gm 34 (by decide) (by decide) (by decide), fo 98 (by omega) (by omega) (by omega) (by omega) (by omega), fo 73 (by omega) (by omega) (by omega) (by omega) (by omega)]; exact Z.wy

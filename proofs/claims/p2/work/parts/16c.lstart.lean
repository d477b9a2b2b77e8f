/-! from the law's entry to its loop -/
theorem bn_sls : 4 ≤ bm_sl bn_k1 ∧ bm_sl bn_k1 + 46 ≤ bm_sl bn_k2 ∧ bm_sl bn_k2 ≤ 5000 := by decide +kernel
theorem bn_in {κ : List bm_K} {π ad : Nat → Nat} {Y : mm_Y} {a3 : ClassId × ClassId × ClassId} (h : bn_conv κ π Y = true) : ∀ (i : Nat) (q : Nat × va_E), (mm_wd (fun k => ad (π k)) a3 Y (bn_s0 κ π))[i]? = some q → ∃ j : Nat, (bm_wd ad a3 κ)[j]? = some q := by
  unfold bn_conv at h
  rw [Bool.and_eq_true] at h
  intro i q hq
  have hi : i < Y.1.length := by
    have := (List.getElem?_eq_some_iff.mp hq).1
    simpa [mm_wd] using this
  rw [mm_wd_get hi] at hq
  refine ⟨π i, ?_⟩
  rw [← hq]
  exact bn_cell (List.all_eq_true.mp h.1 i (List.mem_range.mpr hi))
def lp_ad (b q t : Nat) (ad : Nat → Nat) (k : Nat) : Nat := match k with
  | 200 => b
  | 201 => q
  | 202 => t
  | k => ad (bn_pi k)
theorem lp_ad_lt {b q t : Nat} {ad : Nat → Nat} {k : Nat} (h : k < ms_Y.1.length) : lp_ad b q t ad k = ad (bn_pi k) := by
  have h2 : k < 107 := h
  unfold lp_ad
  split
  · omega
  · omega
  · omega
  · rfl
theorem lp_n1 : bm_nok cs_L gd "HouseDeskLaw" (8, 0, [.null, .null, .null, .int 0]) := ⟨_, _, _, cy_0, rfl, rfl, cw_0, (tm_1 21 rfl rfl), (tm_1 22 rfl rfl), (tm_1 1 rfl rfl), ct_0, by decide +kernel, rfl⟩
theorem lp_n2 : bm_nok cs_L gd "HouseDeskLaw" (51, 10, [.int 0, .null, .null, .null, .null, .null, .int 0, .null, .null, .null, .int 0, .null, .int 0, .int 0, .null, .int 0, .int 0, .null, .null, .int 0, .null, .null, .null, .null, .null, .null, .null, .null, .null, .int 0, .null, .null, .int 0, .int 0, .int 0, .null, .null, .int 0, .null, .null, .null, .null, .null, .null, .int 0, .null]) := ⟨_, _, _, cy_10, rfl, rfl, cw_10, (tm_4 186 rfl rfl), (tm_4 187 rfl rfl), (tm_1 11 rfl rfl), ct_10, by decide +kernel, rfl⟩
theorem lp_bo : bn_k1.zipIdx.all (bm_cok bn_k1.length) = true := by decide +kernel
theorem lp_d : decode code 0 = .ok (.new 8, 3) ∧ decode code 3 = .ok (.dup, 1) ∧ decode code 4 = .ok (.invokespecial 50, 3) ∧ decode code 7 = .ok (.astore_n 1, 1) ∧ decode code 8 = .ok (.new 51, 3) ∧ decode code 11 = .ok (.dup, 1) ∧ decode code 12 = .ok (.invokespecial 53, 3) ∧ decode code 15 = .ok (.astore_n 2, 1) ∧ decode code 16 = .ok (.iconst 1, 1) ∧ decode code 17 = .ok (.newarray .long, 2) ∧ decode code 19 = .ok (.astore_n 3, 1) := by decide +kernel
theorem lp_ce {x : Nat} (h : x ≤ 200) : x + 512 ≤ room_1.cells := by
  have h1 : room_1.cells = 601024 := rfl
  rw [h1]
  omega
theorem lp_sl {x : Nat} (h : x ≤ 6000) : x + 6 * 512 ≤ room_1.slots := by
  have h1 : room_1.slots = 7293034 := rfl
  rw [h1]
  omega
theorem lp_fr {d : Nat} (hd : d ≤ 1900) : d + 1 + 10 ≤ room_1.frames ∧ 40 * (d + 1) + 280 ≤ room_1.locals := by
  have h1 : room_1.frames = 2048 := rfl
  have h2 : room_1.locals = 84000 := rfl
  rw [h1, h2]
  omega
set_option maxHeartbeats 2000000 in
theorem lp_start {p : Program} {e : Env} {s : State} {m : MethodId} {below : List Frame} {meth : Method} {c : Code} (l : Launch) {b L d : Nat} {xs : Nat → Int32} (hd : d ≤ 1900) (hl : l.stackTraces = false) (C0 : lw_At p s m meth c b L xs)
    (hlaw : lw d xs L 512 20 [some (.ref 200), some (.ref 0), some (.ref 10), some (.ref 201), none, none, none] [] ms_0 (fun _ => 0) 0) : W p l e room_1 s m #[Value.ref b] below meth c s.heap [] 0 0 (lw_Z below #[Value.ref b] s) (entryFrame m ([Value.ref b] : List Value).toArray 7) := by
  obtain ⟨D, cI, cZ, cG, hK⟩ := lp_K C0
  have hN := lp_N C0
  have hC := lp_hN C0
  obtain ⟨sa, hmN⟩ := lp_mN C0
  obtain ⟨t, hG⟩ := lp_G C0
  obtain ⟨hx, hb, hr, hml, hown, hts0, hX, hbl, hlocks, hgv⟩ := C0
  have hts : ∀ w ∈ gd, w.before #[Value.ref b] s = true := fun w h => hts0 w (gd_lw w h)
  obtain ⟨A, hAd⟩ : ∃ A : Nat → Prop, A = fun q => s.heap.size ≤ q := ⟨_, rfl⟩
  have hA : ∀ q, s.heap.size ≤ q → A q := fun q h => by rw [hAd]; exact h
  have hA' : ∀ q, A q → s.heap.size ≤ q := fun q h => by rw [hAd] at h; exact h
  have hA0 : ∀ a : Nat, a < s.heap.size → ¬ A a := fun a h z => absurd h (Nat.not_lt.mpr (hA' a z))
  have hT1 := bm_sound (l := l) (D := D) (cI := cI) (cZ := cZ) (cG := cG) gd_good bn_wI bn_wZ bo_all 3 0 [.ref 0] bn_c0 bn_k1 bn_r1
  have hT2 := bm_sound (l := l) (D := D) (cI := cI) (cZ := cZ) (cG := cG) gd_good bn_wI bn_wZ bo_all 3 10 [.ref bn_k1.length] bn_c1 bn_k2 bn_r2
  obtain ⟨g0, g3, g4, g7, g8, g11, g12, g15, g16, g17, g19⟩ := lp_d
  obtain ⟨n1, n2⟩ := bn_len
  obtain ⟨u1, u2, u3⟩ := bn_sls
  have z0 : ([] : List bm_K).length = 0 := rfl
  have z1 : bm_sl ([] : List bm_K) = 0 := rfl
  have rc : room_1.cells = 601024 := rfl
  have rs : room_1.slots = 7293034 := rfl
  have rf : room_1.frames = 2048 := rfl
  have rl : room_1.locals = 84000 := rfl
  have hl0 := lv_entry [Value.ref b] (n := 7) (show 1 ≤ 7 by omega)
  rw [lg_entry_eq]
  generalize (lg_sl [Value.ref b] ++ List.replicate (7 - (lg_sl [Value.ref b]).length) Slot.unset).toArray = ls0 at hl0 ⊢
  refine lp_make (A := A) (ad := fun _ => 0) (κ := []) (κ2 := bn_k1) (own := "HouseDeskLaw") (dd := 3) (y := 0) hx hb hml hown hts hK hN hA lp_n1 (by decide) bc_0 (tm_1 1 rfl rfl) (tm_1 24 rfl rfl) rfl ⟨by decide, by decide, by decide +kernel⟩ (tm_1 23 rfl rfl) hT1 rfl (by omega) (by rw [z1]; exact u1) (by omega) (by omega) (by omega) (by omega) g0 g3 g4 (fun k q h => by cases h) ⟨fun i j x y h => by (cases h), fun k q h => by (cases h)⟩ va_S.rf hl0.1 (fun ad1 H1 locs1 _ hP1 hD1 hS1 => ?_)
  refine lv_astore_n (i := 1) (lv' := [(1, .ref (ad1 0)), (0, .ref b)]) hx hb g7 rfl hl0 (by omega) rfl (fun ls1 hl1 => ?_)
  refine lp_make (A := A) (ad := ad1) (κ := bn_k1) (κ2 := bn_k2) (own := "HouseDeskLaw") (dd := 3) (y := 10) hx hb hml hown hts hK hN hA lp_n2 (by decide) bc_10 (tm_1 11 rfl rfl) (tm_4 189 rfl rfl) rfl ⟨by decide, by decide, by decide +kernel⟩ (tm_4 188 rfl rfl) hT2 lp_bo (by omega) u2 (by omega) (by omega) (by omega) (by omega) g8 g11 g12 hP1 hD1 hS1 hl1.1 (fun ad2 H2 locs2 hag hP2 hD2 hS2 => ?_)
  refine lv_astore_n (i := 2) (lv' := [(2, .ref (ad2 bn_k1.length)), (1, .ref (ad1 0)), (0, .ref b)]) hx hb g15 rfl hl1 (by omega) rfl (fun ls2 hl2 => ?_)
  refine lv_iconst hx hb g16 (v := 1) rfl ?_
  refine va_newa (atype := .long) (ty := .long) (a0 := (1, .inr (.inl (fun _ => 0)))) hx hb (hts _ (tm_6 104 rfl rfl)) rfl hK hP2 hD2 hS2 hA (fun cA => rfl) (by decide) (N' := 1) rfl (by decide) (by omega) (by omega) g17 (fun q cA H3 hK3 hP3 hD3 hS3 => ?_)
  refine lv_astore_n (i := 3) (lv' := [(3, .ref q), (2, .ref (ad2 bn_k1.length)), (1, .ref (ad1 0)), (0, .ref b)]) hx hb g19 rfl hl2 (by omega) rfl (fun ls3 hl3 => ?_)
  have hlen2 : (bm_wd ad2 (cI, cZ, cG) bn_k2).length = 107 := by rw [bm_wd_len]; exact n2
  have hsubP : ∀ (k : Nat) (x : Nat × va_E), (bm_wd ad2 (cI, cZ, cG) bn_k2)[k]? = some x → (bm_wd ad2 (cI, cZ, cG) bn_k2 ++ [(q, .inl (cA, 1, .inr (.inl (fun _ => 0))))])[k]? = some x := fun k x hk => by
    rw [List.getElem?_append_left (List.getElem?_eq_some_iff.mp hk).1]; exact hk
  have hlast : (bm_wd ad2 (cI, cZ, cG) bn_k2 ++ [(q, (.inl (cA, 1, .inr (.inl (fun _ => 0))) : va_E))])[107]? = some (q, .inl (cA, 1, .inr (.inl (fun _ => 0)))) := by
    rw [List.getElem?_append_right (by omega), hlen2]; rfl
  obtain ⟨hw1, hw2⟩ := bn_world (κ := bn_k2) (π := bn_pi) (ad := ad2) (Y := ms_Y) (a3 := (cI, cZ, cG)) (A := A) bn_ok (fun k x hk => hP3 k x (hsubP k x hk)) ⟨fun i j x y hx hy => hD3.1 i j x y (hsubP i x hx) (hsubP j y hy), fun k x hk => hD3.2 k x (hsubP k x hk)⟩
  have hcg : mm_wd (lp_ad b q t ad2) (cI, cZ, cG) ms_Y ms_0 = mm_wd (fun k => ad2 (bn_pi k)) (cI, cZ, cG) ms_Y ms_0 := mm_wd_cg ms_wf (fun k hk => lp_ad_lt hk)
  have hPF : va_P D cs_L (lx_wd (lp_ad b q t ad2) (cI, cZ, cG) ms_Y (hx_e (lp_ad b q t ad2 201) cA (fun _ => 0)) ms_0) H3 := by
    unfold lx_wd
    rw [hcg]
    refine va_P.app hw1 (fun k x hk => ?_)
    match k with
    | 0 => cases hk; exact hP3 107 _ hlast
    | k + 1 => cases hk
  have hDF : va_D A (lx_wd (lp_ad b q t ad2) (cI, cZ, cG) ms_Y (hx_e (lp_ad b q t ad2 201) cA (fun _ => 0)) ms_0) := by
    unfold lx_wd
    rw [hcg]
    refine va_D.app hw2 ⟨fun i j x y hx hy _ => ?_, fun k x hk => ?_⟩ (fun i j x y hx hy hxy => ?_)
    · match i, j with
      | 0, 0 => rfl
      | 0, j + 1 => cases hy
      | i + 1, _ => cases hx
    · match k with
      | 0 => cases hk; exact hD3.2 107 _ hlast
      | k + 1 => cases hk
    · match j with
      | 0 =>
        cases hy
        obtain ⟨i2, hi2⟩ := bn_in bn_ok i x hx
        have h9 := hD3.1 i2 107 x _ (hsubP i2 x hi2) hlast hxy
        have h8 := (List.getElem?_eq_some_iff.mp hi2).1
        omega
      | j + 1 => cases hy
  have hlh : mm_lh (lp_ad b q t ad2) ls3 7 [some (.ref 200), some (.ref 0), some (.ref 10), some (.ref 201), none, none, none] := by
    refine ⟨⟨hl3.1, hl3.2.1, ?_⟩, rfl, ?_⟩
    · have r3 := hl3.2.2 (3, .ref q) (by simp)
      have r2 := hl3.2.2 (2, .ref (ad2 bn_k1.length)) (by simp)
      have r1 := hl3.2.2 (1, .ref (ad1 0)) (by simp)
      have r0 := hl3.2.2 (0, .ref b) (by simp)
      have a0 : ad1 0 = ad2 0 := (hag 0 (by omega)).symm
      rw [a0] at r1
      rw [n1] at r2
      intro x hx
      have hx' : x ∈ ([(0, .ref b), (1, .ref (ad2 0)), (2, .ref (ad2 74)), (3, .ref q)] : List (Nat × Value)) := hx
      simp only [List.mem_cons, List.not_mem_nil, or_false] at hx'
      rcases hx' with rfl | rfl | rfl | rfl
      · exact r0
      · exact r1
      · exact r2
      · exact r3
    · intro k v hk
      match k with
      | 0 => cases hk; rfl
      | 1 => cases hk; rfl
      | 2 => cases hk; rfl
      | 3 => cases hk; rfl
      | 4 => cases hk
      | 5 => cases hk
      | 6 => cases hk
      | k + 7 => cases hk
  exact ls_sound (ad := lp_ad b q t ad2) (cJ := cA) (A := A) (c0 := 0 + (bn_k1.length - ([] : List bm_K).length) + (bn_k2.length - bn_k1.length) + 1) (s0 := 0 + (bm_sl bn_k1 - bm_sl ([] : List bm_K)) + (bm_sl bn_k2 - bm_sl bn_k1) + 1) hl hx hb hml hown hts hK (hK3.sub [3] rfl) (hmN A hA0) ⟨(hG A hA0).1, (hG A hA0).2⟩ hC hX hbl (hA0 b hbl) hA (lp_fr hd).1 (lp_fr hd).2 (lp_ce (by omega)) (lp_sl (by omega))
    (fun pc H locs ls t9 ht hdg hS => W.widen (by omega) (by omega) (va_forget (fun x hx => hA' _ (hS.2.2 x hx)) (lw_ret hx hb hr hlocks hdg))) (Nat.zero_le _) hlaw H3 locs2 ls3 hPF hDF hS3 hlh

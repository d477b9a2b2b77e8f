def bm_okM (Ts : List Cond) (nm : Nat → MethodName) (by_ : Nat → ByteArray) (mx : Nat → Nat) (cl : List vw_C) (ne : bm_Ne) (ty : Nat → Nat → FieldType) (M : bm_M) (y : Nat) : Prop :=
  plainName (nm y).cls = true ∧ (nm y).name = "<init>" ∧ M.1.all (bm_okE (by_ y)) = true ∧ (∀ q ∈ M.2.1, bm_nok cl Ts (nm y).cls q) ∧ (∀ q ∈ M.2.2.1, bm_pok ty cl Ts (nm y).cls q) ∧ (∀ q ∈ M.2.2.2, bm_kok Ts nm by_ mx ne (nm y).cls q) ∧ (∀ q ∈ M.1, ∀ idx, q.2.1 = .multianewarray idx 2 → Cond.classLink (nm y).cls idx "[[I" ∈ Ts)
section BMgo
variable {p : Program} {l : Launch} {e : Env} {R : Room} {s : State} {m : MethodId} {args : Array Value} {below : List Frame} {meth : Method} {c : Code} {D : va_G} {cl : List vw_C} {A A1 : Nat → Prop} {ad : Nat → Nat} {a3 : ClassId × ClassId × ClassId} {n1 : Nat} {κ1 : List bm_K} {Qf : State → Prop} {tys : List (ClassId × FieldType)} {H : Heap} {locs : List Loc} {cells slots mc ms pc : Nat} {ls : Array Slot} {st0 rest : List Value} {arr : Array Value}
theorem bm_goon (hr : va_Run p l e R s m args below meth c H locs cells slots mc ms (F0 m pc ls st0) rest (bm_Qc D cl tys A1 n1 ad a3 κ1 arr) A1) (hS : va_S A s.heap H locs) (hA1 : ∀ q, A1 q → A q)
    (kk : ∀ (ad' : Nat → Nat) (H1 : Heap) (locs1 : List Loc), (∀ k, k < n1 → ad' k = ad k) → va_P D cl (bm_wd ad' a3 κ1) H1 → va_D A (bm_wd ad' a3 κ1) → va_S A s.heap H1 locs1 → W p l e R s m args below meth c H1 locs1 (cells + mc) (slots + ms) Qf (F0 m (pc + 3) ls rest)) :
    W p l e R s m args below meth c H locs cells slots Qf (F0 m pc ls st0) := by
  intro T hT X
  obtain ⟨v, st₀, t, T', L, h0, X', hL, e1, e2, ⟨⟨ad', hag, hv, hP1, hD1, hK1⟩, hz, hk⟩, st⟩ := hr T hT X
  cases hv
  rw [h0] at hz hk
  rw [← e1] at hP1 hz hk
  obtain ⟨t2, a1, b1⟩ := kk ad' T'.heap (locs ++ L) hag hP1 (hD1.weaken (fun _ _ _ h => hA1 _ h))
    ⟨Nat.le_trans hS.1 hz, fun q h1 h2 => by rw [hk q (Nat.lt_of_lt_of_le h1 hS.1) (fun z => h2 (hA1 q z))]; exact hS.2.1 q h1 h2, fun q hq => by
      rcases List.mem_append.mp hq with h | h
      · exact hS.2.2 q h
      · exact hA1 _ (hL q h)⟩ T' rfl X'
  exact ⟨t2, st t2 a1, b1⟩
end BMgo
section BMsound
variable {l : Launch} {Ts : List Cond} {nm : Nat → MethodName} {by_ : Nat → ByteArray} {mx : Nat → Nat} {D : va_G} {cl : List vw_C} {cI cZ cG : ClassId} {ne : bm_Ne} {ty : Nat → Nat → FieldType} {Y : List bm_M}
set_option maxHeartbeats 4000000 in
theorem bm_body (hgood : ∀ w ∈ Ts, goodWord w = true) (hwI : Cond.arrayClass .int ∈ Ts) (hwZ : Cond.arrayClass .boolean ∈ Ts) {d y : Nat} {M : bm_M} {C : Nat → List Value → List bm_K → Option (List bm_K)} (hM : bm_okM Ts nm by_ mx cl ne ty M y)
    (hCm : ∀ y as κ κ1, C y as κ = some κ1 → κ.length ≤ κ1.length ∧ bm_sl κ ≤ bm_sl κ1) (hC : ∀ y as κ κ1, C y as κ = some κ1 → ∃ dd, dd < d ∧ bm_T l Ts nm by_ mx D cl [(cI, .int), (cZ, .boolean), (cG, .array .int)] ne (cI, cZ, cG) dd y as κ κ1)
    {as : List Value} {κ κ' : List bm_K} (hc1 : mm_c1 (mx y) as = true) (hrun : bm_run ty C M 400 0 (mm_ent (mx y) as) [] κ = some κ') : bm_T l Ts nm by_ mx D cl [(cI, .int), (cZ, .boolean), (cG, .array .int)] ne (cI, cZ, cG) d y as κ κ' := by
  obtain ⟨hpl, hini0, hE, hnw, hpt, hkk, hmn⟩ := hM
  obtain ⟨hlen, hcat⟩ := mm_c1_el hc1
  intro ad sz
  refine Met.ofW (cc := by_ y) (maxL := mx y) (ret := none) hpl rfl ?_
  intro p e s m args below meth c s₁ B0 hml hv
  obtain ⟨rfl, hsz, hP, ⟨hK, hN⟩, hD0⟩ := hv
  have hx := B0.exec
  have hb := B0.bytes
  have hr := B0.returns
  have hlocks := B0.notSynchronized
  have hts0 := atoms_spec (ws := bm_ws Ts nm by_ mx y) B0.pre
  have hts : ∀ w ∈ Ts, w.before (as.map (mm_rho ad)).toArray s = true := fun w hw => hts0 w (List.mem_cons_of_mem _ hw)
  have hown : s.vm.findClass (nm y).cls = some m.cls := findClass_of_methodNamed B0.named
  have hin2 : meth.name = "<init>" := ((name_of_methodNamed B0.named B0.method).1).trans hini0
  have hG : ∀ y', Cond.code (nm y') (by_ y') (mx y') none ∈ Ts → GoodIn Ts (bm_ws Ts nm by_ mx y') := fun y' hy' w hw => by
    rcases List.mem_cons.mp hw with h9 | h9
    · subst h9
      exact ⟨hy', good_of_word (hgood _ hy')⟩
    · exact ⟨h9, good_of_word (hgood _ h9)⟩
  subst hsz
  have hD := hD0.self (sz := s.heap.size)
  have hA : ∀ q, s.heap.size ≤ q → va_A (bm_wd ad (cI, cZ, cG) κ) s.heap.size q := fun q h => Or.inr h
  generalize hAe : va_A (bm_wd ad (cI, cZ, cG) κ) s.heap.size = A at hD hA ⊢
  have hcat' : ∀ v ∈ as.map (mm_rho ad), v.category = 1 := fun v hv => by
    obtain ⟨w, hw, rfl⟩ := List.mem_map.mp hv
    rw [mm_rho_cat]
    exact hcat w hw
  have hl := lv_entry (as.map (mm_rho ad)) (n := mx y) (by rw [mm_sl_len _ hcat', List.length_map]; exact hlen)
  rw [lg_entry_eq]
  generalize (lg_sl (as.map (mm_rho ad)) ++ List.replicate (mx y - (lg_sl (as.map (mm_rho ad))).length) Slot.unset).toArray = ls0 at hl ⊢
  have hlh : mm_lh ad ls0 (mx y) (mm_ent (mx y) as) := by
    refine ⟨?_, ?_, fun k v hk => hcat v (mm_nth_ent hk)⟩
    · unfold mm_ent
      rw [mm_args_ll ad as 0 _ hcat]
      exact hl
    · unfold mm_ent
      rw [List.length_append, List.length_map, List.length_replicate]
      omega
  have main : ∀ (n pc : Nat) (L : List (Option Value)) (S : List Value) (κ1 : List bm_K), bm_run ty C M n pc L S κ1 = some κ' → κ.length ≤ κ1.length → bm_sl κ ≤ bm_sl κ1 →
      bm_V p l e (bm_rm d κ κ') s m (as.map (mm_rho ad)).toArray below meth c D cl A ad (cI, cZ, cG) κ.length (bm_sl κ) (mx y) (MQ below (bm_Qc D cl [(cI, .int), (cZ, .boolean), (cG, .array .int)] A κ.length ad (cI, cZ, cG) κ') (as.map (mm_rho ad)).toArray s (κ'.length - κ.length) (bm_sl κ' - bm_sl κ) A) pc L S κ1 := by
    intro n
    induction n with
    | zero => intro pc L S κ1 h; simp [bm_run] at h
    | succ n ihn =>
      intro pc L S κ1 h hn0 hs0
      have hmono := bm_run_mono hCm _ _ _ _ _ _ h
      unfold bm_run at h
      split at h
      · cases h
      · rename_i i cs hI
        have hE1 := List.all_eq_true.mp hE _ (mm_look_mem hI)
        have hmn1 := hmn _ (mm_look_mem hI)
        dsimp only at hmn1
        have hE2 := hE1
        unfold bm_okE at hE2
        rw [Bool.and_eq_true] at hE2
        have hdg := of_decide_eq_true hE2.1
        split at h
        · split at h
          · cases h
            intro ad1 H locs ls hag hP1 hD1 hS1 hl1
            exact W.vret hx hb hr (fun t ht hW => ⟨⟨ad1, hag, rfl, by rw [ht]; exact hP1, hD1, va_K.moved hW.alike hK⟩, hS1.F ht⟩) hS1.2.2 hdg
          · cases h
        · rename_i idx
          split at h
          · rename_i y' na hlk
            obtain ⟨hk9, hkn⟩ := hkk _ (mm_look_mem hlk)
            dsimp only at hk9 hkn
            split at h
            · rename_i o as' r hpop
              obtain ⟨t, ht1, ht2, ht3⟩ := mm_pop_el _ _ _ _ _ hpop
              rw [List.append_nil] at ht3
              have hS2 : S = (Value.ref o :: as').reverse ++ r := by rw [ht3, List.reverse_reverse]; exact ht2
              have hna : as'.length = na := by
                have h8 : (Value.ref o :: as').length = na + 1 := by rw [ht3, List.length_reverse, ht1]
                simpa using h8
              split at h
              · rename_i hc8
                obtain ⟨hr8, hrcat⟩ := mm_c1_el hc8
                split at h
                · rename_i hy9
                  have hy9 := Nat.eq_of_beq_eq_true hy9
                  split at h
                  · intro ad1 H locs ls hag hP1 hD1 hS1 hl1
                    obtain ⟨w1, w2, w3⟩ := hk9 hy9
                    have hgo := ihn _ _ _ _ h hn0 hs0 ad1 H locs ls hag hP1 hD1 hS1 hl1
                    rw [hS2]
                    exact W.objInit hx hb hown (hts _ w1) (hts _ w2) (hts _ w3) (g := F0 m pc ls (.ref (ad1 o) :: r.map (mm_rho ad1))) rfl (hl1.1.1.trans hml.symm) rfl hdg (Nat.succ_le_succ (Nat.zero_le _)) (by show 2 * 0 + _ + 12 ≤ 40 * (d + 1); rw [mm_cat_le ad1 r hrcat]; omega) hgo
                  · cases h
                · rename_i hy9
                  have hyn : y' ≠ 999 := fun q => by rw [q] at hy9; cases hy9
                  split at h
                  · rename_i hlr
                    rw [Bool.and_eq_true] at hlr
                    split at h
                    · rename_i κ2 hcall
                      obtain ⟨m1, m2⟩ := hCm _ _ _ _ hcall
                      obtain ⟨f1, f2⟩ := bm_run_mono hCm _ _ _ _ _ _ h
                      obtain ⟨dd, hdd, hT⟩ := hC _ _ _ _ hcall
                      obtain ⟨hmx, hcode, hini, hinst, hnm1, hd, hlk2⟩ := hkn hyn
                      intro ad1 H locs ls hag hP1 hD1 hS1 hl1
                      have hMt := hT ad1 H.size
                      have hgo := ihn _ _ _ _ h (Nat.le_trans hn0 m1) (Nat.le_trans hs0 m2)
                      have hstk : S.map (mm_rho ad1) = (as'.map (mm_rho ad1)).reverse ++ .ref (ad1 o) :: r.map (mm_rho ad1) := by rw [hS2]; simp [mm_rho]
                      have hA1 : ∀ q, va_A (bm_wd ad1 (cI, cZ, cG) κ1) H.size q → A q := fun q hq => by
                        rcases hq with ⟨k, e9, h9⟩ | h9
                        · exact hD1.2 k (q, e9) h9
                        · exact hA q (Nat.le_trans hS1.1 h9)
                      have hpre : PreS s H (va_Pc ((Value.ref o :: as').map (mm_rho ad1)) (bm_B D cl [(cI, .int), (cZ, .boolean), (cG, .array .int)] ne ad1 (cI, cZ, cG) κ1 H.size)) (.ref (ad1 o) :: as'.map (mm_rho ad1)) :=
                        ⟨fun a U g mk q => by obtain ⟨q0, q1, qP, ⟨qK, qN⟩, qD⟩ := q; exact ⟨q0, q1, qP, ⟨va_K.moved (u := U) (U := U.calling g mk a) (Vm.Alike.refl U.vm) qK, bm_N.same (u := U) (U := U.calling g mk a) rfl qN⟩, qD⟩, fun U hU hW => ⟨rfl, by rw [hU], by rw [hU]; exact hP1, ⟨va_K.moved hW.alike hK, bm_N.moved hW hN⟩, hD1.weaken (fun _ _ _ _ => trivial)⟩⟩
                      have hroom : (bm_rm dd κ1 κ2).frames + 1 ≤ (bm_rm d κ κ').frames ∧ 8 + (mx y' + 11) + (bm_rm dd κ1 κ2).locals ≤ (bm_rm d κ κ').locals := by
                        refine ⟨?_, ?_⟩
                        · show dd + 1 + 1 ≤ d + 1; omega
                        · show 8 + (mx y' + 11) + 40 * (dd + 1) ≤ 40 * (d + 1); omega
                      have hcs1 : κ1.length - κ.length + (κ2.length - κ1.length) ≤ (bm_rm d κ κ').cells ∧ bm_sl κ1 - bm_sl κ + (bm_sl κ2 - bm_sl κ1) ≤ (bm_rm d κ κ').slots := by
                        refine ⟨?_, ?_⟩
                        · show _ ≤ κ'.length - κ.length; omega
                        · show _ ≤ bm_sl κ' - bm_sl κ; omega
                      rw [hstk]
                      have hkk2 : ∀ (ad' : Nat → Nat) (H1 : Heap) (locs1 : List Loc), (∀ k, k < κ1.length → ad' k = ad1 k) → va_P D cl (bm_wd ad' (cI, cZ, cG) κ2) H1 → va_D A (bm_wd ad' (cI, cZ, cG) κ2) → va_S A s.heap H1 locs1 → W p l e (bm_rm d κ κ') s m (as.map (mm_rho ad)).toArray below meth c H1 locs1 (κ1.length - κ.length + (κ2.length - κ1.length)) (bm_sl κ1 - bm_sl κ + (bm_sl κ2 - bm_sl κ1)) (MQ below (bm_Qc D cl [(cI, .int), (cZ, .boolean), (cG, .array .int)] A κ.length ad (cI, cZ, cG) κ') (as.map (mm_rho ad)).toArray s (κ'.length - κ.length) (bm_sl κ' - bm_sl κ) A) (F0 m (pc + 3) ls (r.map (mm_rho ad1))) := by
                        intro ad' H1 locs1 hag1 hP2 hD2 hS2'
                        have h9 := hgo ad' H1 locs1 ls (fun k hk => (hag1 k (by omega)).trans (hag k hk)) hP2 hD2 hS2' (bm_lh_ag hag1 hlr.1 hl1)
                        rw [bm_map_ag hag1 hlr.2] at h9
                        rw [show κ1.length - κ.length + (κ2.length - κ1.length) = κ2.length - κ.length by omega, show bm_sl κ1 - bm_sl κ + (bm_sl κ2 - bm_sl κ1) = bm_sl κ2 - bm_sl κ by omega]
                        exact h9
                      rcases hlk2 with hlink | ⟨host, hne⟩
                      · exact bm_goon (va_runI (b := ad1 o) (As := as'.map (mm_rho ad1)) (rest := r.map (mm_rho ad1)) (n := na) ⟨hx, hb, hml, hown, hts⟩ hMt (cwI na hts (hG y' hcode) rfl rfl rfl (hts _ hini) (hts _ hlink) (hts _ hinst) hnm1 hd hroom) hpre rfl (by rw [List.length_map]; exact hna) hl1.1.1 rfl (lv_room (by rw [mm_cat_le ad1 r hrcat]; exact hr8)) hdg hcs1) hS1 hA1 hkk2
                      · exact bm_goon (va_runIN (b := ad1 o) (As := as'.map (mm_rho ad1)) (rest := r.map (mm_rho ad1)) (n := na) (host := host) ⟨hx, hb, hml, hown, hts⟩ hMt ⟨va_cnB na hts (hG y' hcode) rfl rfl rfl (hN.1 _ hne) (hts _ hini) hd hroom, hnm1, hts _ hinst⟩ hpre rfl (by rw [List.length_map]; exact hna) hl1.1.1 rfl (lv_room (by rw [mm_cat_le ad1 r hrcat]; exact hr8)) hdg hcs1) hS1 hA1 hkk2
                    · cases h
                  · cases h
              · cases h
            · cases h
          · cases h
        · split at h
          · rename_i pc' L' S' κ2 hst
            obtain ⟨m1, m2⟩ := bm_step_mono hst
            obtain ⟨f1, f2⟩ := bm_run_mono hCm _ _ _ _ _ _ h
            exact bm_sstep (Ts := Ts) (own := (nm y).cls) hx hb hown hts hK hA hin2 hN.2 hwI hwZ hnw hpt hE1 hmn1 hst hn0 hs0 (by show _ ≤ κ'.length - κ.length; omega) (by show _ ≤ bm_sl κ' - bm_sl κ; omega) (ihn _ _ _ _ h (Nat.le_trans hn0 m1) (Nat.le_trans hs0 m2))
          · cases h
  have h0 := main 400 0 _ _ _ hrun (Nat.le_refl _) (Nat.le_refl _) ad s.heap [] ls0 (fun _ _ => rfl) hP hD va_S.rf hlh
  rw [Nat.sub_self, Nat.sub_self] at h0
  exact h0
theorem bm_sound (hgood : ∀ w ∈ Ts, goodWord w = true) (hwI : Cond.arrayClass .int ∈ Ts) (hwZ : Cond.arrayClass .boolean ∈ Ts) (hok : ∀ y M, mm_nth Y y = some M → bm_okM Ts nm by_ mx cl ne ty M y) :
    ∀ d y as κ κ', bm_D ty Y mx (d + 1) y as κ = some κ' → bm_T l Ts nm by_ mx D cl [(cI, .int), (cZ, .boolean), (cG, .array .int)] ne (cI, cZ, cG) d y as κ κ' := by
  intro d
  induction d with
  | zero =>
    intro y as κ κ' h
    unfold bm_D at h
    split at h
    · rename_i M hM
      split at h
      · rename_i hc
        exact bm_body hgood hwI hwZ (hok y M hM) (bm_D_mono 0) (fun y as κ κ1 h9 => by simp [bm_D] at h9) hc h
      · cases h
    · cases h
  | succ d ih =>
    intro y as κ κ' h
    unfold bm_D at h
    split at h
    · rename_i M hM
      split at h
      · rename_i hc
        exact bm_body hgood hwI hwZ (hok y M hM) (bm_D_mono (d + 1)) (fun y as κ κ1 h9 => ⟨d, Nat.lt_succ_self d, ih y as κ κ1 h9⟩) hc h
      · cases h
    · cases h
end BMsound

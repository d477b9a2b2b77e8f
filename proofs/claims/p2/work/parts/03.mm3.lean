/-! The small machine's walk is a walk of the machine -/
theorem mx_mono {p : Program} {l : Launch} {e : Env} {R : Room} {s : State} {m : MethodId} {args : Array Value} {below : List Frame} {meth : Method} {c : Code} {H : Heap} {locs : List Loc} {cells slots : Nat} {Q Q' : State → Prop} {g : JFrame} (h : ∀ t, Q t → Q' t) (k : W p l e R s m args below meth c H locs cells slots Q g) : W p l e R s m args below meth c H locs cells slots Q' g := by
  intro T hT X
  obtain ⟨t, a, b⟩ := k T hT X
  exact ⟨t, a, h t b⟩
def mm_len : ClassFile.Instr → Nat
  | .iload _ | .aload _ | .istore _ | .astore _ | .bipush _ => 2
  | .sipush _ | .iinc _ _ | .getfield _ | .putfield _ | .goto _ | .ifCond _ _ | .if_icmp _ _ | .invokevirtual _ | .invokestatic _ | .ldc_w _ => 3
  | _ => 1
def mm_cst (pc : Nat) (i : ClassFile.Instr) (t : Nat) (c : Int32) : Bool := match i with
  | .iconst n => decide (Int32.ofInt n = c)
  | .bipush n => decide ((Int8.ofInt n).toInt32 = c)
  | .sipush n => decide ((Int16.ofInt n).toInt32 = c)
  | .iinc _ n => decide (Int32.ofInt n = c)
  | .goto off => decide ((pc : Int) + off = (t : Int))
  | .ifCond _ off => decide ((pc : Int) + off = (t : Int))
  | .if_icmp _ off => decide ((pc : Int) + off = (t : Int))
  | .tableswitch dflt _ _ offs => decide (0 ≤ (pc : Int) + dflt) && offs.toList.all (fun o => decide (0 ≤ (pc : Int) + o))
  | _ => true
/-- how long: a switch is as long as its entry says -/
def mm_lenE (i : ClassFile.Instr) (len : Nat) : Nat := match i with
  | .tableswitch _ _ _ _ => len
  | i => mm_len i
def mm_okE (cc : ByteArray) (q : Nat × mm_E) : Bool := decide (decode cc q.1 = .ok (q.2.1, mm_lenE q.2.1 q.2.2.1)) && mm_cst q.1 q.2.1 q.2.2.2.1 q.2.2.2.2
theorem mm_look_mem {α : Type} : ∀ {l : List (Nat × α)} {k : Nat} {a : α}, mm_look l k = some a → (k, a) ∈ l
  | [], _, _, h => by simp [mm_look] at h
  | (k', a') :: r, k, a, h => by
    unfold mm_look at h
    cases hb : Nat.beq k' k with
    | true =>
      rw [hb] at h
      have hk := Nat.eq_of_beq_eq_true hb
      simp only [Option.some.injEq] at h
      subst hk; subst h
      exact List.mem_cons_self
    | false =>
      rw [hb] at h
      exact List.mem_cons_of_mem _ (mm_look_mem h)
def mm_gok (cl : List vw_C) (Ts : List Cond) (own : String) (idx ci j : Nat) : Prop := ∃ (C : String) (T : u_T) (N : Nat), cl[ci]? = some (C, T, N) ∧ j < N ∧ (∀ w ∈ u_ws C T N, w ∈ Ts) ∧ Cond.fieldLink own idx (T j).1 (T j).2.1 (T j).2.2.1 ∈ Ts
def mm_pok (Y : mm_Y) (cl : List vw_C) (Ts : List Cond) (own : String) (idx ci j : Nat) : Prop := ∃ (C : String) (T : u_T) (N : Nat) (ty : Nat → FieldType), cl[ci]? = some (C, T, N) ∧ j < N ∧ (∀ w ∈ u_ws C T N, w ∈ Ts) ∧ Cond.fieldLink own idx (T j).1 (T j).2.1 (T j).2.2.1 ∈ Ts ∧
  (∀ k, k < N → parseFieldDescriptor (T k).2.2.1 = some (ty k)) ∧ (∀ a, a < N → ∀ b, b < N → a ≠ b → (T a).2.1 ≠ (T b).2.1) ∧ (T j).2.2.2 = false ∧ parseFieldDescriptor (T j).2.2.1 = some (match mm_isZ Y ci j with | true => .boolean | false => .int)
def mm_rty : Nat → Option FieldType
  | 0 => none
  | 1 => some .int
  | _ => some .boolean
def mm_V (p : Program) (l : Launch) (e : Env) (R : Room) (s : State) (m : MethodId) (args : Array Value) (below : List Frame) (meth : Method) (c : Code) (D : va_G) (cl : List vw_C) (A : Nat → Prop) (ad : Nat → Nat) (a3 : ClassId × ClassId × ClassId) (Y : mm_Y) (nL : Nat) (Qf : State → Prop) : mm_X := fun pc L S σ =>
  ∀ (H : Heap) (locs : List Loc) (ls : Array Slot), va_P D cl (mm_wd ad a3 Y σ) H → va_D A (mm_wd ad a3 Y σ) → va_S A s.heap H locs → mm_lh ad ls nL L → W p l e R s m args below meth c H locs 0 0 Qf (F0 m pc ls (S.map (mm_rho ad)))
def mm_Qc (D : va_G) (cl : List vw_C) (tys : List (ClassId × FieldType)) (A : Nat → Prop) (ad : Nat → Nat) (a3 : ClassId × ClassId × ClassId) (Y : mm_Y) (Q : mm_Q) : Array Value → State → Outcome → State → Prop := fun _ st oc t =>
  (∃ (v : Option Value) (σ : mm_S), Q v σ ∧ oc = .returned (v.map (mm_rho ad)) ∧ va_P D cl (mm_wd ad a3 Y σ) t.heap ∧ va_D A (mm_wd ad a3 Y σ) ∧ va_K D cl tys t) ∧ va_F A st t
section MMel
theorem mm_sw_el {pc : Nat} {dflt lo hi : Int} {offs : Array Int} {x : Int32} {K : Nat → Prop} (h : mm_sw pc dflt lo hi offs x K) (hc : (decide (0 ≤ (pc : Int) + dflt) && offs.toList.all (fun o => decide (0 ≤ (pc : Int) + o))) = true) : (∃ t : Nat, (x.toInt < lo ∨ hi < x.toInt) ∧ (pc : Int) + dflt = (t : Int) ∧ K t) ∨ ∃ (off : Int) (t : Nat), ¬ x.toInt < lo ∧ ¬ hi < x.toInt ∧ offs[(x.toInt - lo).toNat]? = some off ∧ (pc : Int) + off = (t : Int) ∧ K t := by
  rw [Bool.and_eq_true] at hc
  unfold mm_sw at h; split at h
  · rename_i h1
    exact Or.inl ⟨_, h1, (Int.toNat_of_nonneg (of_decide_eq_true hc.1)).symm, h⟩
  · rename_i h1
    split at h
    · rename_i off h2
      refine Or.inr ⟨off, _, fun z => h1 (Or.inl z), fun z => h1 (Or.inr z), h2, (Int.toNat_of_nonneg ?_).symm, h⟩
      have hm : off ∈ offs.toList := by
        rw [← Array.getElem?_toList] at h2
        exact List.mem_of_getElem? h2
      exact of_decide_eq_true (List.all_eq_true.mp hc.2 off hm)
    · exact h.elim
theorem mm_ldi_el {L : List (Option Value)} {i : Nat} {K : Int32 → Prop} (h : mm_ldi L i K) : ∃ x, mm_nth L i = some (some (.int x)) ∧ K x := by
  unfold mm_ldi at h; split at h
  · exact ⟨_, by assumption, h⟩
  · exact h.elim
theorem mm_lda_el {L : List (Option Value)} {i : Nat} {K : Nat → Prop} (h : mm_lda L i K) : ∃ x, mm_nth L i = some (some (.ref x)) ∧ K x := by
  unfold mm_lda at h; split at h
  · exact ⟨_, by assumption, h⟩
  · exact h.elim
theorem mm_sto_el {L : List (Option Value)} {i : Nat} {v : Value} {K : List (Option Value) → Prop} (h : mm_sto L i v K) : i < L.length ∧ K (mm_set L i (some v)) := by
  unfold mm_sto at h; split at h
  · rename_i hq; exact ⟨mm_nth_lt hq, h⟩
  · exact h.elim
theorem mm_1_el {S : List Value} {K : Int32 → List Value → Prop} (h : mm_1 S K) : ∃ x r, S = .int x :: r ∧ K x r := by
  unfold mm_1 at h; split at h
  · exact ⟨_, _, rfl, h⟩
  · exact h.elim
theorem mm_2_el {S : List Value} {K : Int32 → Int32 → List Value → Prop} (h : mm_2 S K) : ∃ x y r, S = .int y :: .int x :: r ∧ K x y r := by
  unfold mm_2 at h; split at h
  · exact ⟨_, _, _, rfl, h⟩
  · exact h.elim
theorem mm_r_el {S : List Value} {K : Nat → List Value → Prop} (h : mm_r S K) : ∃ k r, S = .ref k :: r ∧ K k r := by
  unfold mm_r at h; split at h
  · exact ⟨_, _, rfl, h⟩
  · exact h.elim
theorem mm_ir_el {S : List Value} {K : Int32 → Nat → List Value → Prop} (h : mm_ir S K) : ∃ x k r, S = .int x :: .ref k :: r ∧ K x k r := by
  unfold mm_ir at h; split at h
  · exact ⟨_, _, _, rfl, h⟩
  · exact h.elim
theorem mm_iir_el {S : List Value} {K : Int32 → Int32 → Nat → List Value → Prop} (h : mm_iir S K) : ∃ x i k r, S = .int x :: .int i :: .ref k :: r ∧ K x i k r := by
  unfold mm_iir at h; split at h
  · exact ⟨_, _, _, _, rfl, h⟩
  · exact h.elim
theorem mm_d1_el {S : List Value} {K : Value → List Value → Prop} (h : mm_d1 S K) : ∃ v r, S = v :: r ∧ v.category = 1 ∧ K v r := by
  unfold mm_d1 at h; split at h
  · exact ⟨_, _, rfl, rfl, h⟩
  · exact ⟨_, _, rfl, rfl, h⟩
  · exact h.elim
theorem mm_d2_el {S : List Value} {K : Value → Value → List Value → Prop} (h : mm_d2 S K) : ∃ v w r, S = v :: w :: r ∧ v.category = 1 ∧ w.category = 1 ∧ K v w r := by
  unfold mm_d2 at h; split at h
  · exact ⟨_, _, _, rfl, rfl, rfl, h⟩
  · exact h.elim
theorem mm_ia_el {Y : mm_Y} {k : Nat} {j : Int32} (h : mm_ia Y k j) : ∃ n fs, mm_kd Y k = (1, n, fs) ∧ vp_in j n := by
  unfold mm_ia at h; split at h
  · exact ⟨_, _, by assumption, h⟩
  · exact h.elim
theorem mm_za_el {Y : mm_Y} {k : Nat} {j : Int32} (h : mm_za Y k j) : ∃ n fs, mm_kd Y k = (2, n, fs) ∧ vp_in j n := by
  unfold mm_za at h; split at h
  · exact ⟨_, _, by assumption, h⟩
  · exact h.elim
theorem mm_ga_el {Y : mm_Y} {k : Nat} {j : Int32} (h : mm_ga Y k j) : ∃ n fs, mm_kd Y k = (3, n, fs) ∧ vp_in j n := by
  unfold mm_ga at h; split at h
  · exact ⟨_, _, by assumption, h⟩
  · exact h.elim
theorem mm_gf_el {Y : mm_Y} {k ci j : Nat} {o : Option Nat} (h : mm_gf Y k ci j = some o) : ∃ fs, mm_kd Y k = (0, ci, fs) ∧ mm_nth fs j = some o := by
  unfold mm_gf at h
  split at h
  · rename_i ci' fs hk
    split at h
    · rename_i hb
      have hc := Nat.eq_of_beq_eq_true hb
      subst hc
      exact ⟨fs, hk, h⟩
    · cases h
  · cases h
theorem mm_gv_el {Y : mm_Y} {M : mm_M} {idx k : Nat} {σ : mm_S} {K : Value → Prop} (h : mm_gv Y M idx k σ K) : ∃ ci j fs, mm_look M.2.1 idx = some (ci, j) ∧ mm_kd Y k = (0, ci, fs) ∧ ((∃ q, mm_nth fs j = some (some q) ∧ K (.ref q)) ∨ (mm_nth fs j = some none ∧ K (.int (σ k j)))) := by
  unfold mm_gv at h
  split at h
  · rename_i ci j hq
    split at h
    · rename_i q hg
      obtain ⟨fs, h1, h2⟩ := mm_gf_el hg
      exact ⟨ci, j, fs, hq, h1, Or.inl ⟨q, h2, h⟩⟩
    · rename_i hg
      obtain ⟨fs, h1, h2⟩ := mm_gf_el hg
      exact ⟨ci, j, fs, hq, h1, Or.inr ⟨h2, h⟩⟩
    · exact h.elim
  · exact h.elim
theorem mm_pv_el {Y : mm_Y} {M : mm_M} {idx k : Nat} {x : Int32} {σ : mm_S} {K : mm_S → Prop} (h : mm_pv Y M idx k x σ K) : ∃ ci j fs, mm_look M.2.2.1 idx = some (ci, j) ∧ mm_kd Y k = (0, ci, fs) ∧ mm_nth fs j = some none ∧ (mm_isZ Y ci j = true → x = 0 ∨ x = 1) ∧ K (mm_up σ k j x) := by
  unfold mm_pv at h
  split at h
  · rename_i ci j hq
    split at h
    · rename_i hg
      obtain ⟨fs, h1, h2⟩ := mm_gf_el hg
      split at h
      · exact ⟨ci, j, fs, hq, h1, h2, fun _ => h.1, h.2⟩
      · rename_i hz
        exact ⟨ci, j, fs, hq, h1, h2, (fun q => by rw [hz] at q; cases q), h⟩
    · exact h.elim
  · exact h.elim
theorem mm_rt_el {M : mm_M} {Q : mm_Q} {S : List Value} {σ : mm_S} (h : mm_rt M Q S σ) : ∃ v, S = [.int v] ∧ Q (some (.int v)) σ ∧ (M.2.2.2.2 = 1 ∨ (M.2.2.2.2 = 2 ∧ (v = 0 ∨ v = 1))) := by
  unfold mm_rt at h
  split at h
  · split at h
    · rename_i hm; exact ⟨_, rfl, h, Or.inl hm⟩
    · rename_i hm; exact ⟨_, rfl, h.2, Or.inr ⟨hm, h.1⟩⟩
    · exact h.elim
  · exact h.elim
theorem mm_rv_el {M : mm_M} {Q : mm_Q} {S : List Value} {σ : mm_S} (h : mm_rv M Q S σ) : S = [] ∧ Q none σ ∧ M.2.2.2.2 = 0 := by
  unfold mm_rv at h
  split at h
  · split at h
    · rename_i hm; exact ⟨rfl, h, hm⟩
    · exact h.elim
  · exact h.elim
end MMel
section MMaald
variable {p : Program} {l : Launch} {e : Env} {R : Room} {s : State} {m : MethodId} {args : Array Value} {below : List Frame} {meth : Method} {c : Code} {H : Heap} {locs : List Loc} {cells slots : Nat} {Q : State → Prop}
theorem mm_aald {cc : ByteArray} {pc : Nat} {ls : Array Slot} {rest : List Value} {D : va_G} {cl : List vw_C} {a : Nat} {tys : List (ClassId × FieldType)} {ws : va_W} (hx : p.tables.exec = Jvm.exec) (hb : c.code = cc) (hK : va_K D cl tys s) (hP : va_P D cl ws H) (q0 t0 : Nat) {cA : ClassId} {t : FieldType} {n : Nat} {f : Nat → Option Nat} (ha : ws[q0]? = some (a, .inl (cA, n, .inr (.inr (.inr (.inr f)))))) (ht : tys[t0]? = some (cA, .array t)) {i : Int32} (hin : vp_in i n) (hdg : decode cc pc = .ok (.aaload, 1))
    (kk : W p l e R s m args below meth c H locs cells slots Q (F0 m (pc + 1) ls (va_rf (f i.toNatClampNeg) :: rest))) : W p l e R s m args below meth c H locs cells slots Q (F0 m pc ls (.int i :: .ref a :: rest)) := by
  have hlt : i.toNatClampNeg < n := Nat.not_le.mp fun q => hin (Or.inr q)
  refine W.aald (v := va_rf (f i.toNatClampNeg)) (ty := .array t) hx hb (hP q0 _ ha) ((hK.2 t0 _ ht).1 n (fun j => va_rf (f j))) rfl (fun q => by cases q) ?_ ?_ rfl rfl hdg kk
  · show ¬ (i < 0 ∨ (arrV _ _ _).slots.size ≤ _)
    rw [arrV_size]
    exact hin
  · show (arrV _ _ _).slots[_]? = _
    rw [arrV_read _ _ hlt]
end MMaald
section MMstep
variable {p : Program} {l : Launch} {e : Env} {R : Room} {s : State} {m : MethodId} {args : Array Value} {below : List Frame} {meth : Method} {c : Code} {D : va_G} {cl : List vw_C} {A : Nat → Prop} {ad : Nat → Nat} {cI cZ cG : ClassId} {CG : String} {Y : mm_Y} {nL : Nat} {M : mm_M} {C : mm_C} {Q : mm_Q} {cc : ByteArray} {Ts : List Cond} {own : String} {tys : List (ClassId × FieldType)}
set_option maxHeartbeats 4000000 in
theorem mm_step {Qf : State → Prop} (hQf : ∀ t, MQ below (mm_Qc D cl tys A ad (cI, cZ, cG) Y Q) args s 0 0 A t → Qf t) (hx : p.tables.exec = Jvm.exec) (hb : c.code = cc) (hown : s.vm.findClass own = some m.cls) (hts : ∀ w ∈ Ts, w.before args s = true) (hK : va_K D cl tys s) (htI : tys[0]? = some (cI, .int)) (htZ : tys[1]? = some (cZ, .boolean)) (htG : tys[2]? = some (cG, .array .int))
    (hr : meth.sig.returnType = mm_rty M.2.2.2.2) (hlocks : meth.locks = false) (htab : M.1.all (mm_okE cc) = true) (hg : ∀ idx ci j, mm_look M.2.1 idx = some (ci, j) → mm_gok cl Ts own idx ci j) (hp : ∀ idx ci j, mm_look M.2.2.1 idx = some (ci, j) → mm_pok Y cl Ts own idx ci j)
    (hld : ∀ (pc idx len t : Nat) (v : Int32), mm_look M.1 pc = some (.ldc_w idx, len, t, v) → Cond.constant own idx v ∈ Ts)
    (hc1 : ∀ (pc idx : Nat) (L : List (Option Value)) (S : List Value) (σ : mm_S), decode cc pc = .ok (.invokevirtual idx, 3) → mm_call Y C M idx 1 S σ (fun S' σ' => mm_V p l e R s m args below meth c D cl A ad (cI, cZ, cG) Y nL Qf (pc + 3) L S' σ') → mm_V p l e R s m args below meth c D cl A ad (cI, cZ, cG) Y nL Qf pc L S σ)
    (hc0 : ∀ (pc idx : Nat) (L : List (Option Value)) (S : List Value) (σ : mm_S), decode cc pc = .ok (.invokestatic idx, 3) → mm_call Y C M idx 0 S σ (fun S' σ' => mm_V p l e R s m args below meth c D cl A ad (cI, cZ, cG) Y nL Qf (pc + 3) L S' σ') → mm_V p l e R s m args below meth c D cl A ad (cI, cZ, cG) Y nL Qf pc L S σ) :
    ∀ pc L S σ, mm_one Y C M Q (mm_V p l e R s m args below meth c D cl A ad (cI, cZ, cG) Y nL Qf) pc L S σ → mm_V p l e R s m args below meth c D cl A ad (cI, cZ, cG) Y nL Qf pc L S σ := by
  intro pc L S σ h
  generalize hV : mm_V p l e R s m args below meth c D cl A ad (cI, cZ, cG) Y nL Qf = V at h hc1 hc0 ⊢
  have hVd : ∀ pc L S σ, V pc L S σ ↔ ∀ (H : Heap) (locs : List Loc) (ls : Array Slot), va_P D cl (mm_wd ad (cI, cZ, cG) Y σ) H → va_D A (mm_wd ad (cI, cZ, cG) Y σ) → va_S A s.heap H locs → mm_lh ad ls nL L → W p l e R s m args below meth c H locs 0 0 Qf (F0 m pc ls (S.map (mm_rho ad))) := by
    intro pc L S σ; rw [← hV]; exact Iff.rfl
  unfold mm_one at h
  cases hI : mm_look M.1 pc with
  | none => simp only [hI] at h
  | some q =>
    obtain ⟨i, len, t, cs⟩ := q
    have hq := List.all_eq_true.mp htab _ (mm_look_mem hI)
    simp only [mm_okE, Bool.and_eq_true, decide_eq_true_eq] at hq
    obtain ⟨hdg, hcst⟩ := hq
    simp only [hI] at h
    cases i
    case iload_n k =>
      replace h := mm_ldi_el h
      obtain ⟨x, h1, h⟩ := h
      rw [hVd] at h ⊢
      intro H locs ls hP hD hS hl
      exact lv_iload_n hx hb hdg rfl (mm_lh_at hl h1) (h H locs ls hP hD hS hl)
    case iload k =>
      replace h := mm_ldi_el h
      obtain ⟨x, h1, h⟩ := h
      rw [hVd] at h ⊢
      intro H locs ls hP hD hS hl
      exact lv_iload hx hb hdg (mm_lh_at hl h1) (h H locs ls hP hD hS hl)
    case aload_n k =>
      replace h := mm_lda_el h
      obtain ⟨x, h1, h⟩ := h
      rw [hVd] at h ⊢
      intro H locs ls hP hD hS hl
      exact lv_aload_n hx hb hdg rfl (mm_lh_at hl h1) (h H locs ls hP hD hS hl)
    case aload k =>
      replace h := mm_lda_el h
      obtain ⟨x, h1, h⟩ := h
      rw [hVd] at h ⊢
      intro H locs ls hP hD hS hl
      exact lv_aload hx hb hdg (mm_lh_at hl h1) (h H locs ls hP hD hS hl)
    case istore_n k =>
      replace h := mm_1_el h
      obtain ⟨x, r, rfl, h⟩ := h
      replace h := mm_sto_el h
      obtain ⟨hi, h⟩ := h
      rw [hVd] at h ⊢
      intro H locs ls hP hD hS hl
      have hn : k.val < nL := by rw [← hl.2.1]; exact hi
      exact lv_istore_n hx hb hdg rfl hl.1 hn rfl (fun ls' h' => h H locs ls' hP hD hS (mm_lh_set hl hn rfl h'))
    case istore k =>
      replace h := mm_1_el h
      obtain ⟨x, r, rfl, h⟩ := h
      replace h := mm_sto_el h
      obtain ⟨hi, h⟩ := h
      rw [hVd] at h ⊢
      intro H locs ls hP hD hS hl
      have hn : k < nL := by rw [← hl.2.1]; exact hi
      exact lv_istore hx hb hdg hl.1 hn rfl (fun ls' h' => h H locs ls' hP hD hS (mm_lh_set hl hn rfl h'))
    case astore_n k =>
      replace h := mm_r_el h
      obtain ⟨x, r, rfl, h⟩ := h
      replace h := mm_sto_el h
      obtain ⟨hi, h⟩ := h
      rw [hVd] at h ⊢
      intro H locs ls hP hD hS hl
      have hn : k.val < nL := by rw [← hl.2.1]; exact hi
      exact lv_astore_n hx hb hdg rfl hl.1 hn rfl (fun ls' h' => h H locs ls' hP hD hS (mm_lh_set (v := .ref x) hl hn rfl h'))
    case astore k =>
      replace h := mm_r_el h
      obtain ⟨x, r, rfl, h⟩ := h
      replace h := mm_sto_el h
      obtain ⟨hi, h⟩ := h
      rw [hVd] at h ⊢
      intro H locs ls hP hD hS hl
      have hn : k < nL := by rw [← hl.2.1]; exact hi
      exact lv_astore hx hb hdg hl.1 hn rfl (fun ls' h' => h H locs ls' hP hD hS (mm_lh_set (v := .ref x) hl hn rfl h'))
    case iinc k n =>
      replace h := mm_ldi_el h
      obtain ⟨x, h1, h⟩ := h
      replace h := mm_sto_el h
      obtain ⟨hi, h⟩ := h
      rw [hVd] at h ⊢
      intro H locs ls hP hD hS hl
      have hn : k < nL := by rw [← hl.2.1]; exact hi
      have hcs : Int32.ofInt n = cs := of_decide_eq_true hcst
      have hm := mm_ll_mem ad L 0 k (.int x) h1
      rw [Nat.zero_add] at hm
      obtain ⟨q, hq⟩ := List.getElem?_of_mem hm
      exact lv_iinc (k := q) hx hb hdg hl.1 hq (by rw [hcs]) hn rfl (fun ls' h' => h H locs ls' hP hD hS (mm_lh_set (v := .int (x + cs)) hl hn rfl h'))
    case iconst n =>
      replace h := (hVd (pc + 1) L (.int cs :: S) σ).mp h
      rw [hVd]
      intro H locs ls hP hD hS hl
      exact lv_iconst hx hb hdg (of_decide_eq_true hcst) (h H locs ls hP hD hS hl)
    case bipush n =>
      replace h := (hVd (pc + 2) L (.int cs :: S) σ).mp h
      rw [hVd]
      intro H locs ls hP hD hS hl
      exact lv_bipush hx hb hdg (of_decide_eq_true hcst) (h H locs ls hP hD hS hl)
    case sipush n =>
      replace h := (hVd (pc + 3) L (.int cs :: S) σ).mp h
      rw [hVd]
      intro H locs ls hP hD hS hl
      exact lv_sipush hx hb hdg (of_decide_eq_true hcst) (h H locs ls hP hD hS hl)
    case iadd =>
      replace h := mm_2_el h
      obtain ⟨x, y, r, rfl, h⟩ := h
      rw [hVd] at h ⊢
      intro H locs ls hP hD hS hl
      exact lv_iadd hx hb hdg (h H locs ls hP hD hS hl)
    case isub =>
      replace h := mm_2_el h
      obtain ⟨x, y, r, rfl, h⟩ := h
      rw [hVd] at h ⊢
      intro H locs ls hP hD hS hl
      exact lv_isub hx hb hdg (h H locs ls hP hD hS hl)
    case imul =>
      replace h := mm_2_el h
      obtain ⟨x, y, r, rfl, h⟩ := h
      rw [hVd] at h ⊢
      intro H locs ls hP hD hS hl
      exact lv_imul hx hb hdg (h H locs ls hP hD hS hl)
    case iand =>
      replace h := mm_2_el h
      obtain ⟨x, y, r, rfl, h⟩ := h
      rw [hVd] at h ⊢
      intro H locs ls hP hD hS hl
      exact lv_iand hx hb hdg (h H locs ls hP hD hS hl)
    case ior =>
      replace h := mm_2_el h
      obtain ⟨x, y, r, rfl, h⟩ := h
      rw [hVd] at h ⊢
      intro H locs ls hP hD hS hl
      exact lv_ior hx hb hdg (h H locs ls hP hD hS hl)
    case ixor =>
      replace h := mm_2_el h
      obtain ⟨x, y, r, rfl, h⟩ := h
      rw [hVd] at h ⊢
      intro H locs ls hP hD hS hl
      exact lv_ixor hx hb hdg (h H locs ls hP hD hS hl)
    case ishl =>
      replace h := mm_2_el h
      obtain ⟨x, y, r, rfl, h⟩ := h
      rw [hVd] at h ⊢
      intro H locs ls hP hD hS hl
      exact lv_ishl hx hb hdg (h H locs ls hP hD hS hl)
    case ishr =>
      replace h := mm_2_el h
      obtain ⟨x, y, r, rfl, h⟩ := h
      rw [hVd] at h ⊢
      intro H locs ls hP hD hS hl
      exact lv_ishr hx hb hdg (h H locs ls hP hD hS hl)
    case iushr =>
      replace h := mm_2_el h
      obtain ⟨x, y, r, rfl, h⟩ := h
      rw [hVd] at h ⊢
      intro H locs ls hP hD hS hl
      exact lv_iushr hx hb hdg rfl (h H locs ls hP hD hS hl)
    case idiv =>
      replace h := mm_2_el h
      obtain ⟨x, y, r, rfl, hne, h⟩ := h
      rw [hVd] at h ⊢
      intro H locs ls hP hD hS hl
      exact lv_idiv hx hb hdg hne (h H locs ls hP hD hS hl)
    case irem =>
      replace h := mm_2_el h
      obtain ⟨x, y, r, rfl, hne, h⟩ := h
      rw [hVd] at h ⊢
      intro H locs ls hP hD hS hl
      exact lv_irem hx hb hdg hne (h H locs ls hP hD hS hl)
    case dup =>
      replace h := mm_d1_el h
      obtain ⟨v, r, rfl, hv, h⟩ := h
      rw [hVd] at h ⊢
      intro H locs ls hP hD hS hl
      exact lv_dup hx hb hdg (by rw [mm_rho_cat]; exact hv) (h H locs ls hP hD hS hl)
    case dup2 =>
      replace h := mm_d2_el h
      obtain ⟨v, w, r, rfl, hv, hw, h⟩ := h
      rw [hVd] at h ⊢
      intro H locs ls hP hD hS hl
      exact lv_dup2_11 hx hb hdg (by rw [mm_rho_cat]; exact hv) (by rw [mm_rho_cat]; exact hw) (h H locs ls hP hD hS hl)
    case pop =>
      replace h := mm_d1_el h
      obtain ⟨v, r, rfl, hv, h⟩ := h
      rw [hVd] at h ⊢
      intro H locs ls hP hD hS hl
      exact lv_pop hx hb hdg (by rw [mm_rho_cat]; exact hv) (h H locs ls hP hD hS hl)
    case iaload =>
      replace h := mm_ir_el h
      obtain ⟨j, k, r, rfl, hia, h⟩ := h
      obtain ⟨n, fs, hkd, hin⟩ := mm_ia_el hia
      rw [hVd] at h ⊢
      intro H locs ls hP hD hS hl
      have he : (mm_wd ad (cI, cZ, cG) Y σ)[k]? = some (ad k, .inl (cI, n, .inl (σ k))) := by
        rw [mm_wd_get (mm_kd_lt (by rw [hkd]; exact fun z => nomatch z))]; simp only [mm_ce, hkd]
      exact va_iald hx hb hK hP k 0 he htI hin hdg (h H locs ls hP hD hS hl)
    case baload =>
      replace h := mm_ir_el h
      obtain ⟨j, k, r, rfl, hia, h⟩ := h
      obtain ⟨n, fs, hkd, hin⟩ := mm_za_el hia
      rw [hVd] at h ⊢
      intro H locs ls hP hD hS hl
      have he : (mm_wd ad (cI, cZ, cG) Y σ)[k]? = some (ad k, .inl (cZ, n, .inl (σ k))) := by
        rw [mm_wd_get (mm_kd_lt (by rw [hkd]; exact fun z => nomatch z))]; simp only [mm_ce, hkd]
      exact va_zald hx hb hK hP k 1 he htZ hin hdg (h H locs ls hP hD hS hl)
    case aaload =>
      replace h := mm_ir_el h
      obtain ⟨j, k, r, rfl, hia, h⟩ := h
      obtain ⟨n, fs, hkd, hin⟩ := mm_ga_el hia
      rw [hVd] at h ⊢
      intro H locs ls hP hD hS hl
      have he : (mm_wd ad (cI, cZ, cG) Y σ)[k]? = some (ad k, .inl (cG, n, .inr (.inr (.inr (.inr (fun j => if j < n then some (ad (k + 1 + j)) else none)))))) := by
        rw [mm_wd_get (mm_kd_lt (by rw [hkd]; exact fun z => nomatch z))]; simp only [mm_ce, hkd]
      have hjn : j.toNatClampNeg < n := Nat.not_le.mp fun q => hin (Or.inr q)
      refine mm_aald hx hb hK hP k 2 he htG hin hdg ?_
      simp only [hjn, if_true]
      exact h H locs ls hP hD hS hl
    case iastore =>
      replace h := mm_iir_el h
      obtain ⟨x, j, k, r, rfl, hia, h⟩ := h
      obtain ⟨n, fs, hkd, hin⟩ := mm_ia_el hia
      rw [hVd] at h ⊢
      intro H locs ls hP hD hS hl
      have he : (mm_wd ad (cI, cZ, cG) Y σ)[k]? = some (ad k, .inl (cI, n, .inl (σ k))) := by
        rw [mm_wd_get (mm_kd_lt (by rw [hkd]; exact fun z => nomatch z))]; simp only [mm_ce, hkd]
      have hst : (mm_wd ad (cI, cZ, cG) Y σ).set k (ad k, .inl (cI, n, .inl (upd (σ k) j.toNatClampNeg x))) = mm_wd ad (cI, cZ, cG) Y (mm_up σ k j.toNatClampNeg x) := by
        refine mm_wd_set ?_
        simp only [mm_ce, hkd, mm_up_eq]
      refine va_iast hx hb hK hP hD hS k 0 he htI hin hdg (fun H1 locs1 hP1 hD1 hS1 => ?_)
      rw [hst] at hP1 hD1
      exact h H1 locs1 ls hP1 hD1 hS1 hl
    case bastore =>
      replace h := mm_iir_el h
      obtain ⟨x, j, k, r, rfl, hia, h⟩ := h
      obtain ⟨n, fs, hkd, hin⟩ := mm_za_el hia
      rw [hVd] at h ⊢
      intro H locs ls hP hD hS hl
      have he : (mm_wd ad (cI, cZ, cG) Y σ)[k]? = some (ad k, .inl (cZ, n, .inl (σ k))) := by
        rw [mm_wd_get (mm_kd_lt (by rw [hkd]; exact fun z => nomatch z))]; simp only [mm_ce, hkd]
      have hst : (mm_wd ad (cI, cZ, cG) Y σ).set k (ad k, .inl (cZ, n, .inl (upd (σ k) j.toNatClampNeg (vp_nar .boolean x)))) = mm_wd ad (cI, cZ, cG) Y (mm_up σ k j.toNatClampNeg (vp_nar .boolean x)) := by
        refine mm_wd_set ?_
        simp only [mm_ce, hkd, mm_up_eq]
      refine va_zast hx hb hK hP hD hS k 1 he htZ hin hdg (fun H1 locs1 hP1 hD1 hS1 => ?_)
      rw [hst] at hP1 hD1
      exact h H1 locs1 ls hP1 hD1 hS1 hl
    case getfield idx =>
      replace h := mm_r_el h
      obtain ⟨k, r, rfl, h⟩ := h
      replace h := mm_gv_el h
      obtain ⟨ci, j, fs, hlk, hkd, h⟩ := h
      obtain ⟨C0, T, N, hc, hj, hin, hli⟩ := hg idx ci j hlk
      have he : (mm_wd ad (cI, cZ, cG) Y σ)[k]? = some (ad k, .inr (ci, mm_fv ad (σ k) 0 fs)) := by
        rw [mm_wd_get (mm_kd_lt (by rw [hkd]; exact fun z => nomatch z))]; simp only [mm_ce, hkd]
      rcases h with ⟨q, hf, h⟩ | ⟨hf, h⟩
      · rw [hVd] at h ⊢
        intro H locs ls hP hD hS hl
        exact va_get (D := D) (ref := (T j).1) hx hb hts hin hown hK hP k he hc j hj (hts _ hli) (fun _ z => z) (mm_fv_ref ad (σ k) fs 0 j q hf) hdg (h H locs ls hP hD hS hl)
      · rw [hVd] at h ⊢
        intro H locs ls hP hD hS hl
        have hv := mm_fv_int ad (σ k) fs 0 j hf
        rw [Nat.zero_add] at hv
        exact va_get (D := D) (ref := (T j).1) hx hb hts hin hown hK hP k he hc j hj (hts _ hli) (fun _ z => z) hv hdg (h H locs ls hP hD hS hl)
    case putfield idx =>
      replace h := mm_ir_el h
      obtain ⟨x, k, r, rfl, h⟩ := h
      replace h := mm_pv_el h
      obtain ⟨ci, j, fs, hlk, hkd, hf, hz, h⟩ := h
      obtain ⟨C0, T, N, ty, hc, hj, hin, hli, hty, hnm, hfin, hd⟩ := hp idx ci j hlk
      have he : (mm_wd ad (cI, cZ, cG) Y σ)[k]? = some (ad k, .inr (ci, mm_fv ad (σ k) 0 fs)) := by
        rw [mm_wd_get (mm_kd_lt (by rw [hkd]; exact fun z => nomatch z))]; simp only [mm_ce, hkd]
      have hst : (mm_wd ad (cI, cZ, cG) Y σ).set k (ad k, .inr (ci, (mm_fv ad (σ k) 0 fs).set j (.int x))) = mm_wd ad (cI, cZ, cG) Y (mm_up σ k j x) := by
        refine mm_wd_set ?_
        simp only [mm_ce, hkd, mm_up_eq]
        have q := mm_fv_set ad x fs (σ k) 0 j hf
        rw [Nat.zero_add] at q
        rw [q]
      rw [hVd] at h ⊢
      intro H locs ls hP hD hS hl
      have hnf : narrow (match mm_isZ Y ci j with | true => FieldType.boolean | false => FieldType.int) (.int x) = .int x ∧ fits (match mm_isZ Y ci j with | true => FieldType.boolean | false => FieldType.int) (.int x) = true := by
        cases hz' : mm_isZ Y ci j with
        | false => exact ⟨rfl, rfl⟩
        | true => rcases hz hz' with rfl | rfl <;> exact ⟨rfl, rfl⟩
      refine va_put (D := D) (ref := (T j).1) (v := .int x) hx hb hts hin ty hty hnm hown hK hP hD hS k he hc j hj (hts _ hli) (fun _ z => z) hfin hd hnf.1 hnf.2 (by rw [mm_fv_len]; exact mm_nth_lt hf) hdg (fun H1 locs1 hP1 hD1 hS1 => ?_)
      rw [hst] at hP1 hD1
      exact h H1 locs1 ls hP1 hD1 hS1 hl
    case ldc_w idx =>
      replace h := (hVd (pc + 3) L (.int cs :: S) σ).mp h
      rw [hVd]
      intro H locs ls hP hD hS hl
      exact lv_ldcw hx hb hown (hts _ (hld pc idx len t cs hI)) hdg (h H locs ls hP hD hS hl)
    case goto off =>
      replace h := (hVd t L S σ).mp h
      rw [hVd]
      intro H locs ls hP hD hS hl
      exact lv_goto hx hb hdg (of_decide_eq_true hcst) (h H locs ls hP hD hS hl)
    case ifCond cd off =>
      replace h := mm_1_el h
      obtain ⟨x, r, rfl, h⟩ := h
      have ht : (pc : Int) + off = (t : Int) := of_decide_eq_true hcst
      rw [hVd]
      intro H locs ls hP hD hS hl
      cases cd
      · exact lv_if_eq hx hb hdg ht (fun q => (hVd _ _ _ _).mp (h.1 q) H locs ls hP hD hS hl) (fun q => (hVd _ _ _ _).mp (h.2 q) H locs ls hP hD hS hl)
      · exact lv_if_ne hx hb hdg ht (fun q => (hVd _ _ _ _).mp (h.2 q) H locs ls hP hD hS hl) (fun q => (hVd _ _ _ _).mp (h.1 q) H locs ls hP hD hS hl)
      · exact lv_if_lt hx hb hdg ht (fun q => (hVd _ _ _ _).mp (h.1 q) H locs ls hP hD hS hl) (fun q => (hVd _ _ _ _).mp (h.2 q) H locs ls hP hD hS hl)
      · exact lv_if_ge hx hb hdg ht (fun q => (hVd _ _ _ _).mp (h.1 q) H locs ls hP hD hS hl) (fun q => (hVd _ _ _ _).mp (h.2 q) H locs ls hP hD hS hl)
      · exact lv_if_gt hx hb hdg ht (fun q => (hVd _ _ _ _).mp (h.1 q) H locs ls hP hD hS hl) (fun q => (hVd _ _ _ _).mp (h.2 q) H locs ls hP hD hS hl)
      · exact lv_if_le hx hb hdg ht (fun q => (hVd _ _ _ _).mp (h.1 q) H locs ls hP hD hS hl) (fun q => (hVd _ _ _ _).mp (h.2 q) H locs ls hP hD hS hl)
    case if_icmp cd off =>
      replace h := mm_2_el h
      obtain ⟨x, y, r, rfl, h⟩ := h
      have ht : (pc : Int) + off = (t : Int) := of_decide_eq_true hcst
      rw [hVd]
      intro H locs ls hP hD hS hl
      cases cd
      · exact lv_icmp_eq hx hb hdg ht (fun q => (hVd _ _ _ _).mp (h.1 q) H locs ls hP hD hS hl) (fun q => (hVd _ _ _ _).mp (h.2 q) H locs ls hP hD hS hl)
      · exact lv_icmp_ne hx hb hdg ht (fun q => (hVd _ _ _ _).mp (h.2 q) H locs ls hP hD hS hl) (fun q => (hVd _ _ _ _).mp (h.1 q) H locs ls hP hD hS hl)
      · exact lv_icmp_lt hx hb hdg ht (fun q => (hVd _ _ _ _).mp (h.1 q) H locs ls hP hD hS hl) (fun q => (hVd _ _ _ _).mp (h.2 q) H locs ls hP hD hS hl)
      · exact lv_icmp_ge hx hb hdg ht (fun q => (hVd _ _ _ _).mp (h.1 q) H locs ls hP hD hS hl) (fun q => (hVd _ _ _ _).mp (h.2 q) H locs ls hP hD hS hl)
      · exact lv_icmp_gt hx hb hdg ht (fun q => (hVd _ _ _ _).mp (h.1 q) H locs ls hP hD hS hl) (fun q => (hVd _ _ _ _).mp (h.2 q) H locs ls hP hD hS hl)
      · exact lv_icmp_le hx hb hdg ht (fun q => (hVd _ _ _ _).mp (h.1 q) H locs ls hP hD hS hl) (fun q => (hVd _ _ _ _).mp (h.2 q) H locs ls hP hD hS hl)
    case invokevirtual idx => exact hc1 pc idx L S σ hdg h
    case invokestatic idx => exact hc0 pc idx L S σ hdg h
    case tableswitch dflt lo hi offs =>
      replace h := mm_1_el h
      obtain ⟨x, r, rfl, h⟩ := h
      rcases mm_sw_el h hcst with ⟨t9, h1, h2, h⟩ | ⟨off, t9, h1, h2, h3, h4, h⟩
      · rw [hVd] at h ⊢
        intro H locs ls hP hD hS hl
        exact lv_tableOut hx hb hdg h1 h2 (h H locs ls hP hD hS hl)
      · rw [hVd] at h ⊢
        intro H locs ls hP hD hS hl
        exact lv_tableIn hx hb hdg h1 h2 h3 h4 (h H locs ls hP hD hS hl)
    case ireturn =>
      replace h := mm_rt_el h
      obtain ⟨v, rfl, hq, hm⟩ := h
      rw [hVd]
      intro H locs ls hP hD hS hl
      rcases hm with hm | ⟨hm, hv⟩
      · rw [hm] at hr
        exact mx_mono hQf <| W.iret hx hb hr (fun t ht hW => ⟨⟨some (.int v), σ, hq, rfl, by rw [ht]; exact hP, hD, va_K.moved hW.alike hK⟩, hS.F ht⟩) hS.2.2 hdg
      · rw [hm] at hr
        exact mx_mono hQf <| W.zret (ty := .boolean) hx hb hr (by rcases hv with rfl | rfl <;> rfl) (fun t ht hW => ⟨⟨some (.int v), σ, hq, rfl, by rw [ht]; exact hP, hD, va_K.moved hW.alike hK⟩, hS.F ht⟩) hS.2.2 hdg
    case return_ =>
      replace h := mm_rv_el h
      obtain ⟨rfl, hq, hm⟩ := h
      rw [hVd]
      intro H locs ls hP hD hS hl
      rw [hm] at hr
      exact mx_mono hQf <| W.vret hx hb hr (fun t ht hW => ⟨⟨none, σ, hq, rfl, by rw [ht]; exact hP, hD, va_K.moved hW.alike hK⟩, hS.F ht⟩) hS.2.2 hdg
    all_goals exact h.elim
end MMstep

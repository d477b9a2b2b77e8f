theorem gk_La_156 : mm_gok cs_L gd "HouseDesk$Layout" 156 1 5 := ⟨_, _, _, rfl, by decide, cw_1, (tm_1 54 rfl rfl)⟩
theorem gk_La_159 : mm_gok cs_L gd "HouseDesk$Layout" 159 1 6 := ⟨_, _, _, rfl, by decide, cw_1, (tm_1 59 rfl rfl)⟩
def md_M : mm_M := ([(3, (.aload_n 0, 1, 0, 0)), (4, (.getfield 31, 3, 0, 0)), (7, (.aload_n 0, 1, 0, 0)), (8, (.getfield 40, 3, 0, 0)), (11, (.getfield 156, 3, 0, 0)), (14, (.iload_n 1, 1, 0, 0)), (15, (.iaload, 1, 0, 0)), (16, (.aaload, 1, 0, 0)), (17, (.aload_n 0, 1, 0, 0)), (18, (.getfield 40, 3, 0, 0)), (21, (.getfield 159, 3, 0, 0)), (24, (.iload_n 1, 1, 0, 0)), (25, (.iaload, 1, 0, 0)), (26, (.iaload, 1, 0, 0)), (28, (.ireturn, 1, 0, 0))], [(31, 7, 5), (40, 7, 9), (156, 1, 5), (159, 1, 6)], [], [], 1)
theorem mm_runX {Y : mm_Y} {C : mm_C} {M : mm_M} {Q : mm_Q} {X : mm_X} (hC : mm_mono C) (hX : ∀ pc L S σ, mm_one Y C M Q X pc L S σ → X pc L S σ) : ∀ (n pc : Nat) (L : List (Option Value)) (S : List Value) (σ : mm_S), mm_run Y C M Q X n pc L S σ → X pc L S σ
  | 0, _, _, _, _, h => h
  | n + 1, pc, L, S, σ, h => hX _ _ _ _ (mm_one_mono hC (fun _ _ z => z) (mm_runX hC hX n) pc L S σ h)
section MSd
variable {l : Launch} {D : va_G} {cI cZ cG : ClassId} {ad : Nat → Nat}
set_option maxHeartbeats 1000000 in
theorem ms_dirT {d : Nat} {j : Int32} {σ : mm_S} {Q : mm_Q} (hj : ms_dok σ j) (hQ : Q (some (ms_dir σ j)) σ) : mm_T l gd ms_nm ms_by ms_mx D cs_L [(cI, .int), (cZ, .boolean), (cG, .array .int)] ad (cI, cZ, cG) ms_Y d 154 [.ref 7, .int j] σ Q := by
  intro sz
  refine Met.ofW (cc := ms_by 154) (maxL := ms_mx 154) (ret := mm_rty (mm_me ms_Y 154).2.2.2.2) (by decide +kernel) rfl ?_
  intro p e s m args below meth c s₁ B0 hml hv
  obtain ⟨rfl, hsz, hP, hK, hD0, hG0⟩ := hv
  have hx := B0.exec
  have hb := B0.bytes
  have hr := B0.returns
  have hlocks := B0.notSynchronized
  have hts0 := atoms_spec (ws := mm_ws gd ms_nm ms_by ms_mx ms_Y 154) B0.pre
  have hts : ∀ w ∈ gd, w.before (([.ref 7, .int j] : List Value).map (mm_rho ad)).toArray s = true := fun w hw => hts0 w (List.mem_cons_of_mem _ hw)
  have hown : s.vm.findClass (ms_nm 154).cls = some m.cls := findClass_of_methodNamed B0.named
  subst hsz
  have hD := hD0.self (sz := s.heap.size)
  have hl := lv_entry (([.ref 7, .int j] : List Value).map (mm_rho ad)) (n := ms_mx 154) (show 2 ≤ 2 from Nat.le_refl 2)
  rw [lg_entry_eq]
  generalize (lg_sl (([.ref 7, .int j] : List Value).map (mm_rho ad)) ++ List.replicate (ms_mx 154 - (lg_sl (([.ref 7, .int j] : List Value).map (mm_rho ad))).length) Slot.unset).toArray = ls0 at hl ⊢
  have hcat : ∀ v ∈ ([.ref 7, .int j] : List Value), v.category = 1 := by
    intro v hv
    simp only [List.mem_cons, List.not_mem_nil, or_false] at hv
    rcases hv with rfl | rfl <;> rfl
  have hlh : mm_lh ad ls0 (ms_mx 154) (mm_ent (ms_mx 154) [.ref 7, .int j]) := by
    refine ⟨?_, rfl, fun k v hk => hcat v (mm_nth_ent hk)⟩
    unfold mm_ent
    rw [mm_args_ll ad [.ref 7, .int j] 0 _ hcat]
    exact hl
  have hstep := mm_step (p := p) (l := l) (e := e) (s := s) (m := m) (args := (([.ref 7, .int j] : List Value).map (mm_rho ad)).toArray) (below := below) (meth := meth) (c := c) (ad := ad) (Qf := MQ below (mm_Qc D cs_L [(cI, .int), (cZ, .boolean), (cG, .array .int)] (va_A (mm_wd ad (cI, cZ, cG) ms_Y σ) s.heap.size) ad (cI, cZ, cG) ms_Y Q) (([.ref 7, .int j] : List Value).map (mm_rho ad)).toArray s 0 0 (va_A (mm_wd ad (cI, cZ, cG) ms_Y σ) s.heap.size)) (Q := Q) (C := fun _ _ _ _ => False) (M := md_M) (own := (ms_nm 154).cls) (Ts := gd) (nL := ms_mx 154) (Y := ms_Y) (A := va_A (mm_wd ad (cI, cZ, cG) ms_Y σ) s.heap.size) (R := mm_rm d) (fun _ z => z) hx hb hown hts hK rfl rfl rfl hr hlocks (by decide +kernel) (fun idx ci j hq => (List.forall_mem_cons.mpr ⟨gk_La_31, List.forall_mem_cons.mpr ⟨gk_La_40, List.forall_mem_cons.mpr ⟨gk_La_156, List.forall_mem_cons.mpr ⟨gk_La_159, fun _ h => absurd h List.not_mem_nil⟩⟩⟩⟩ : ∀ q ∈ md_M.2.1, mm_gok cs_L gd (ms_nm 154).cls q.1 q.2.1 q.2.2) _ (mm_look_mem hq)) (fun idx ci j hq => by cases hq) (mm_nold (by decide +kernel)) (fun pc idx L S σ1 hdg hcall => by cases hcall) (fun pc idx L S σ1 hdg hcall => by cases hcall)
  have hS0 : va_S (va_A (mm_wd ad (cI, cZ, cG) ms_Y σ) s.heap.size) s.heap s.heap [] := va_S.rf
  refine va_gets hx hb hG0.1 hS0 hown (hts _ (tm_3 127 rfl rfl)) (fun _ h => h) (by decide +kernel) ?_
  refine mm_runX (fun _ _ _ _ _ _ h => h.elim) hstep 14 3 (mm_ent (ms_mx 154) [.ref 7, .int j]) [.ref 202] σ (And.intro hj.1 (And.intro hj.2.1 (And.intro hj.1 (And.intro (mr_50 hj.2.1 hj.2.2.1) ?_)))) s.heap [] ls0 hP hD hS0 hlh
  intro H locs ls hP1 hD1 hS1 hl1
  refine va_ti hx hb hG0.2 hS1 hj.2.2.2 rfl (by decide +kernel) ?_
  exact hstep 28 (mm_ent (ms_mx 154) [.ref 7, .int j]) [ms_dir σ j] σ hQ H locs ls hP1 hD1 hS1 hl1
theorem ms_hB : ∀ y as σ Q, ms_B y as σ Q → (y ≠ 151 ∧ y ≠ 152 ∧ ∀ d, mm_T l gd ms_nm ms_by ms_mx D cs_L [(cI, .int), (cZ, .boolean), (cG, .array .int)] ad (cI, cZ, cG) ms_Y d y as σ Q) ∨ (y = 151 ∧ ∃ x z, as = [.int x, .int z] ∧ Q (some (.int (if x < z then z else x))) σ) ∨ (y ≠ 151 ∧ y = 152 ∧ ∃ x z, as = [.int x, .int z] ∧ Q (some (.int (if z < x then z else x))) σ) := by
  intro y as σ Q h
  unfold ms_B at h
  split at h
  · exact Or.inr (Or.inl ⟨rfl, _, _, rfl, h⟩)
  · exact Or.inr (Or.inr ⟨by decide, rfl, _, _, rfl, h⟩)
  · obtain ⟨⟨rfl, h1⟩, h2⟩ := h
    exact Or.inl ⟨by decide, by decide, fun d => ms_dirT h1 h2⟩
  · exact h.elim
theorem ms_M : ms_nm 151 = Lib.Math.max.name ∧ ms_by 151 = Lib.Math.max.code ∧ ms_mx 151 = 2 ∧ (mm_me ms_Y 151).2.2.2.2 = 1 ∧ (mm_me ms_Y 151).1 = [] := by decide +kernel
theorem ms_m : ms_nm 152 = Lib.Math.min.name ∧ ms_by 152 = Lib.Math.min.code ∧ ms_mx 152 = 2 ∧ (mm_me ms_Y 152).2.2.2.2 = 1 ∧ (mm_me ms_Y 152).1 = [] := by decide +kernel
theorem ms_sound : ∀ d y as σ Q, y ≠ 151 → y ≠ 152 → mD d y as σ Q → mm_T l gd ms_nm ms_by ms_mx D cs_L [(cI, .int), (cZ, .boolean), (cG, .array .int)] ad (cI, cZ, cG) ms_Y d y as σ Q := mm_sound gd_good mo_all ms_M ms_m ms_hB
end MSd

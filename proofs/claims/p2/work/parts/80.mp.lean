-- plan of the reference ends, and leaves the sketch alone
def MF (σ τ : mm_S) : Prop := (∀ c, c ≠ 10 → (c < 84 ∨ c = 98 ∨ 105 < c) → τ c = σ c) ∧ ∀ j, (j = 6 ∨ j = 10 ∨ j = 34) → τ 10 j = σ 10 j
theorem MF_t {σ τ ρ : mm_S} (h : MF σ τ) (k : MF τ ρ) : MF σ ρ := ⟨fun c a b => by rw [k.1 c a b]; exact h.1 c a b, fun j a => by rw [k.2 j a]; exact h.2 j a⟩
theorem MF_10 {σ τ : mm_S} {i : Nat} {x : Int32} (h : MF σ τ) (hi : i ≠ 6 ∧ i ≠ 10 ∧ i ≠ 34) : MF σ (mm_up τ 10 i x) := MF_t h ⟨fun c a _ => mm_up_n a, fun j a => mm_up_o (by omega)⟩
theorem MF_3 {σ τ : mm_S} {w x y z : Int32} (h : MF σ τ) : MF σ (mt3 τ w x y z) := by
  refine MF_t h ⟨fun c a b => ?_, fun j a => ?_⟩
  · unfold mt3; rw [mm_up_n (by omega), mm_up_n (by omega), mm_up_n (by omega), mm_up_n a]
  · unfold mt3; rw [mm_up_n (by decide), mm_up_n (by decide), mm_up_n (by decide), mm_up_o (by omega)]
theorem rc_cg {σ τ : mm_S} (h : τ 75 = σ 75) : ∀ i, rc τ i = rc σ i
  | 0 => rfl
  | i + 1 => by
    have := rc_cg h i
    unfold rc
    rw [h, this]
theorem rc_ex {σ : mm_S} : ∀ i, 1 ≤ rc σ i → ∃ r, r < i ∧ ¬ σ 75 r = 0
  | 0 => fun h => absurd h (by unfold rc; omega)
  | i + 1 => fun h => by
    by_cases z : σ 75 i = 0
    · unfold rc at h
      rw [if_pos z] at h
      obtain ⟨r, hr, hz⟩ := rc_ex i h
      exact ⟨r, by omega, hz⟩
    · exact ⟨i, by omega, z⟩
theorem MK_cg {σ τ : mm_S} {n : Nat} (h6 : τ 10 6 = σ 10 6) (h10 : τ 10 10 = σ 10 10) (h75 : τ 75 = σ 75) (h80 : τ 80 = σ 80) (h81 : τ 81 = σ 81) (h83 : τ 83 = σ 83) (M : MK σ n) : MK τ n := by
  unfold MK
  rw [h6, h10, h75, h80, h81, h83]
  exact M
theorem AR_cg {σ τ τ' : mm_S} {n : Nat} (h87 : τ' 87 = τ 87) (h88 : τ' 88 = τ 88) (A : AR σ τ n) : AR σ τ' n := by
  unfold AR
  rw [h87, h88]
  exact A
theorem FM_cg {τ τ' : mm_S} {f : Nat} (h19 : τ' 10 19 = τ 10 19) (h86 : τ' 86 = τ 86) (F : FM τ f) : FM τ' f := by
  unfold FM
  rw [h19, h86]
  exact F
theorem LC_cg {τ τ' : mm_S} {N : Nat} (h92 : τ' 92 = τ 92) (h93 : τ' 93 = τ 93) (L : LC τ N) : LC τ' N := by
  unfold LC
  rw [h92, h93]
  exact L
theorem C0_cg {τ τ' : mm_S} {N : Nat} (h85 : τ' 85 = τ 85) (h83 : τ' 83 = τ 83) (L : C0 τ N) : C0 τ' N := by
  unfold C0
  rw [h85, h83]
  exact L
theorem RG_cg {τ τ' : mm_S} {n : Nat} (h89 : τ' 89 = τ 89) (h90 : τ' 90 = τ 90) (L : RG τ n) : RG τ' n := by
  unfold RG RZ
  rw [h89, h90]
  exact L
theorem c_142 {d n : Nat} {Q : mm_Q} {σ : mm_S} (M0 : MK σ n) (q : ∀ τ (a : Int32), MF σ τ → Q (some (.int a)) τ) : mD (d + 6) 142 [.ref 10] σ Q := by
  have n21 := M0.jn.1
  have fin : ∀ τ (a : Int32), MF σ τ → mD (d + 5) 141 [.ref 10, .int a] τ (fun v τ' => v = some (.int a) ∧ MF σ τ') := fun τ a F =>
    c_141 (fun _ => ⟨rfl, MF_10 F (by decide)⟩) (fun _ => ⟨rfl, MF_10 F (by decide)⟩)
  refine ke_142 (kb_142_0 ?_)
  generalize hs : mm_up (mm_up (mm_up (mm_up σ 10 0 0) 10 13 (-1)) 10 15 0) 10 16 0 = σ0
  have F0 : MF σ σ0 := by
    rw [← hs]
    exact MF_10 (MF_10 (MF_10 (MF_10 ⟨fun _ _ _ => rfl, fun _ _ => rfl⟩ (by decide)) (by decide)) (by decide)) (by decide)
  have M : MK σ0 n := MK_cg (F0.2 6 (by decide)) (F0.2 10 (by decide)) (F0.1 75 (by decide) (by decide)) (F0.1 80 (by decide) (by decide)) (F0.1 81 (by decide) (by decide)) (F0.1 83 (by decide) (by decide)) M0
  clear hs
  have e6 := M.jn.2
  have J : Mr σ0 n := ⟨n21, e6, fun k hk => by
    obtain ⟨a, b, ha, hb, _, _, _, ea, eb⟩ := M.je k hk
    rw [ea, eb]
    exact ⟨pk_in a 9 ha, pk_in b 9 hb⟩⟩
  refine c_99 J (fun a b _ => kb_142_24 (fun g => absurd g (by decide)) (fun _ => kb_142_27 ?_)) (fun _ _ => kb_142_24 (fun _ => kb_142_33 ?_) (fun g => absurd rfl g))
  · exact c_141 (fun _ => kb_142_32 (q _ _ (MF_10 (MF_3 F0) (by decide)))) (fun _ => kb_142_32 (q _ _ (MF_10 (MF_3 F0) (by decide))))
  refine c_104 M (fun τ1 f1 A1 => kb_142_37 (c_108 ?_))
  have F1 : MF σ τ1 := MF_t F0 ⟨fun c a b => f1 c (by omega) (by omega), fun j _ => by rw [f1 10 (by decide) (by decide)]⟩
  have t59 : ∀ τ, MF σ τ → mw (d + 5) mt_142 Q 59 [some (.ref 10), none] [] τ := fun τ F => kb_142_59 (c_141 (fun _ => kb_142_64 (q _ _ (MF_10 F (by decide)))) (fun _ => kb_142_64 (q _ _ (MF_10 F (by decide)))))
  have r1 : rc τ1 9 = rc σ0 9 := rc_cg (f1 75 (by decide) (by decide)) 9
  refine kb_142_41 (fun _ => t59 τ1 F1) (fun g => kb_142_45 ?_)
  have h3 : 3 ≤ rc σ0 9 := by
    rcases Nat.lt_or_ge (rc σ0 9) 3 with h | h
    · refine absurd ?_ g
      rw [r1]
      have h9 := rc_le σ0 9
      exact (nI_ltI (by omega) (by decide)).mpr h
    · exact h
  have h1r := rc_ex 9 (show 1 ≤ rc σ0 9 by omega)
  refine c_107 M (by rw [f1 10 (by decide) (by decide)]) (f1 75 (by decide) (by decide)) (f1 80 (by decide) (by decide)) (f1 81 (by decide) (by decide)) h3 (fun hj => kb_142_49 (fun g => absurd g (by decide)) (fun _ => kb_142_52 ?_)) (kb_142_49 (fun _ => t59 τ1 F1) (fun g => absurd rfl g))
  refine c_109 M (fun c _ h h' => f1 c h h') A1 hj h1r (fun τ2 N f2 g2 N1 N42 e15 OM2 => kb_142_56 (fun g => absurd g (by decide)) (fun _ => kb_142_65 ?_)) (fun τ2 f2 g2 => kb_142_56 (fun _ => t59 τ2 (MF_t F1 ⟨fun c a b => f2 c a (by omega) (by omega), fun j a => g2 j (by omega)⟩)) (fun g => absurd rfl g))
  have F2 : MF σ τ2 := MF_t F1 ⟨fun c a b => f2 c a (by omega) (by omega), fun j a => g2 j (by omega)⟩
  have A2 : AR σ0 τ2 n := AR_cg (f2 87 (by decide) (by decide) (by decide)) (f2 88 (by decide) (by decide) (by decide)) A1
  have x6 : ∀ τ, MF σ τ → τ 10 6 = σ0 10 6 := fun τ F => by rw [F.2 6 (by decide), F0.2 6 (by decide)]
  have x80 : ∀ τ c, MF σ τ → (c ≠ 10 ∧ c < 84) → τ c = σ0 c := fun τ c F hc => by rw [F.1 c hc.1 (by omega), F0.1 c hc.1 (by omega)]
  refine c_110 M (fun c h h' h'' h3 h4 => by rw [f2 c h h' h4]; exact f1 c h'' h3) (x6 τ2 F2) A2 (fun τ3 f f3 g3 FM3 => kb_142_69 ?_)
  have F3 : MF σ τ3 := MF_t F2 ⟨fun c a b => f3 c a (by omega) (by omega), fun j a => g3 j (by omega)⟩
  generalize hs : mm_up τ3 10 16 (τ3 10 19) = τ4
  have F4 : MF σ τ4 := by rw [← hs]; exact MF_10 F3 (by decide)
  have FM4 : FM τ4 f := FM_cg (by rw [← hs, mm_up_o (by decide)]) (by rw [← hs, mm_up_n (by decide)]) FM3
  have O2 : MO τ2 N := ⟨N1, N42, e15, OM2⟩
  have O4 : MO τ4 N := MO_cg (by rw [← hs, mm_up_o (by decide)]; exact g3 15 (by decide)) (by rw [← hs, mm_up_n (by decide)]; exact f3 85 (by decide) (by decide) (by decide)) O2
  have A4 : AR σ0 τ4 n := AR_cg (by rw [← hs, mm_up_n (by decide)]; exact f3 87 (by decide) (by decide) (by decide)) (by rw [← hs, mm_up_n (by decide)]; exact f3 88 (by decide) (by decide) (by decide)) A2
  clear hs
  refine c_115 FM4 (fun x y z => kb_142_81 (fun g => absurd g (by decide)) (fun _ => kb_142_84 (c_141 (fun _ => kb_142_89 (q _ _ (MF_10 (MF_3 F4) (by decide)))) (fun _ => kb_142_89 (q _ _ (MF_10 (MF_3 F4) (by decide))))))) (kb_142_81 (fun _ => kb_142_90 ?_) (fun g => absurd rfl g))
  refine c_117 O4 (fun τ5 f5 => kb_142_94 (fun _ => kb_142_97 ?_) (fun g => absurd rfl g)) (fun τ5 f5 L5 C4 => kb_142_94 (fun g => absurd g (by decide)) (fun _ => kb_142_103 ?_))
  · have F5 : MF σ τ5 := MF_t F4 ⟨fun c a b => f5 c (by omega) (by omega), fun j a => by rw [f5 10 (by decide) (by decide)]⟩
    exact c_141 (fun _ => kb_142_102 (q _ _ (MF_10 F5 (by decide)))) (fun _ => kb_142_102 (q _ _ (MF_10 F5 (by decide))))
  have F5 : MF σ τ5 := MF_t F4 ⟨fun c a b => f5 c (by omega) (by omega), fun j a => by rw [f5 10 (by decide) (by decide)]⟩
  have e10 : τ5 10 = τ4 10 := f5 10 (by decide) (by decide)
  have O5 : MO τ5 N := MO_cg (by rw [e10]) (f5 85 (by decide) (by decide)) O4
  have C5 : C0 τ5 N := C0_cg (f5 85 (by decide) (by decide)) (f5 83 (by decide) (by decide)) C4
  have FM5 : FM τ5 f := FM_cg (by rw [e10]) (f5 86 (by decide) (by decide)) FM4
  have A5 : AR σ0 τ5 n := AR_cg (f5 87 (by decide) (by decide)) (f5 88 (by decide) (by decide)) A4
  refine c_120 M (x6 τ5 F5) (x80 τ5 80 F5 (by decide)) (x80 τ5 81 F5 (by decide)) O5 C5 L5 (fun τ6 f6 => kb_142_107 ?_)
  have F6 : MF σ τ6 := MF_t F5 ⟨fun c a b => f6 c (by omega), fun j a => by rw [f6 10 (by decide)]⟩
  have O6 : MO τ6 N := MO_cg (by rw [f6 10 (by decide)]) (f6 85 (by decide)) O5
  refine c_122 O6 (C0_cg (f6 85 (by decide)) (f6 83 (by decide)) C5) (LC_cg (f6 92 (by decide)) (f6 93 (by decide)) L5) (FM_cg (by rw [f6 10 (by decide)]) (f6 86 (by decide)) FM5) (fun x y z => kb_142_111 (fun g => absurd g (by decide)) (fun _ => kb_142_114 (c_141 (fun _ => kb_142_119 (q _ _ (MF_10 (MF_3 F6) (by decide)))) (fun _ => kb_142_119 (q _ _ (MF_10 (MF_3 F6) (by decide))))))) (kb_142_111 (fun _ => kb_142_120 ?_) (fun g => absurd rfl g))
  refine c_123 n21 (by rw [x6 τ6 F6]; exact e6) (AR_cg (f6 87 (by decide)) (f6 88 (by decide)) A5) O6 (fun τ7 f7 R7 => kb_142_124 ?_)
  have F7 : MF σ τ7 := MF_t F6 ⟨fun c a b => f7 c (by omega) (by omega), fun j a => by rw [f7 10 (by decide) (by decide)]⟩
  refine lp_dn (P := fun i => ∀ τ, MF σ τ → RG τ n → mw (d + 5) mt_142 Q 131 [some (.ref 10), some (.int (nI i))] [] τ) 21 ?_ ?_ 0 (by omega) _ (MF_10 F7 (by decide)) (RG_cg (mm_up_n (by decide)) (mm_up_n (by decide)) R7)
  · intro τ F R
    refine kb_142_131 (fun _ => kb_142_150 ?_) (fun g => absurd (by decide) g)
    obtain ⟨r, hr, dr⟩ := h1r
    refine c_131 n21 (by rw [x6 τ F]; exact e6) R ⟨r, hr, by rw [x80 τ 75 F (by decide)]; exact dr⟩ (fun τ8 f8 => kb_142_154 ?_)
    have F8 : MF σ τ8 := MF_t F ⟨fun c a b => f8.1 c a (by omega) (by omega) (by omega), fun j a => f8.2 j (by omega) (by omega)⟩
    refine c_138 n21 (by rw [x6 τ8 F8]; exact e6) (fun k hk => ?_) (fun τ9 f9 => kb_142_158 ?_)
    · obtain ⟨a, b, ha, hb, _, _, _, ea, eb⟩ := M.je k hk
      exact ⟨a, b, ha, hb, by rw [x80 τ8 80 F8 (by decide)]; exact ea, by rw [x80 τ8 81 F8 (by decide)]; exact eb⟩
    · have F9 : MF σ τ9 := MF_t F8 ⟨fun c a b => f9.1 c a (by omega) (by omega), fun j a => f9.2 j (by omega) (by omega) (by omega)⟩
      exact c_141 (fun _ => kb_142_163 (q _ _ (MF_10 F9 (by decide)))) (fun _ => kb_142_163 (q _ _ (MF_10 F9 (by decide))))
  · intro i hi ih τ F R
    refine kb_142_131 (fun g => absurd g (hI_nle (a := 21) (by omega) hi)) (fun _ => kb_142_137 (pk_in i 21 hi) ?_)
    rw [nI_1]
    exact ih _ (MF_t F ⟨fun c a b => mm_up_n (by omega), fun j a => by rw [mm_up_n (by decide)]⟩) (RG_cg (mm_up_n (by decide)) (mm_up_n (by decide)) R)
theorem c_1 {d n m : Nat} {Q : mm_Q} {σ : mm_S} (C : CK σ n m) (K0 : COk σ) (hB : BG σ) (hD : DG σ) (q : ∀ τ (a : Int32) x, jfr σ τ → BG τ → DG τ → WN τ → Q (some (.int a)) (mm_up τ 0 3 x)) : mD (d + 63) 1 [.ref 0] σ Q :=
  ke_1 (kb_1_0 (c_18 C K0 hB hD (fun τ a F B D W => kb_1_7 (fun _ => kb_1_14 (q τ a 1 F B D W)) (fun _ => kb_1_18 (q τ a 0 F B D W)))))

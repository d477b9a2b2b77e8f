/-! the pure walks: first instructions, then the rest -/
def mx_monoC (CX : mx_C) : Prop := ∀ y as σ (Q Q' : mm_Q) (XQ XQ' : Nat → mm_S → Prop), (∀ v σ, Q v σ → Q' v σ) → (∀ E σ, XQ E σ → XQ' E σ) → CX y as σ Q XQ → CX y as σ Q' XQ'
theorem mx_one_mono {Y : mm_Y} {C : mm_C} {CX : mx_C} {M : mm_M} {th xc : List (Nat × Nat)} {Q Q' : mm_Q} {XQ XQ' : Nat → mm_S → Prop} {X X' : mm_X} (hC : mm_mono C) (hCX : mx_monoC CX) (hQ : ∀ v σ, Q v σ → Q' v σ) (hXQ : ∀ E σ, XQ E σ → XQ' E σ) (hX : ∀ pc L S σ, X pc L S σ → X' pc L S σ) : ∀ pc L S σ, mx_one Y C CX M th xc Q XQ X pc L S σ → mx_one Y C CX M th xc Q' XQ' X' pc L S σ := by
  intro pc L S σ h
  unfold mx_one at h ⊢
  cases h1 : mm_look th pc with
  | some E =>
    simp only [h1] at h ⊢
    exact ⟨h.1, hXQ _ _ h.2⟩
  | none =>
    simp only [h1] at h ⊢
    cases h2 : mm_look xc pc with
    | some y =>
      simp only [h2] at h ⊢
      split at h
      · exact ⟨h.1, hCX _ _ _ _ _ _ _ (fun v σ' z => hX _ _ _ _ z) hXQ h.2⟩
      · exact h.elim
    | none =>
      simp only [h2] at h ⊢
      exact mm_one_mono hC hQ hX pc L S σ h
theorem mx_W_mono {Y : mm_Y} {C : mm_C} {CX : mx_C} {M : mm_M} {th xc : List (Nat × Nat)} {Q Q' : mm_Q} {XQ XQ' : Nat → mm_S → Prop} (hC : mm_mono C) (hCX : mx_monoC CX) (hQ : ∀ v σ, Q v σ → Q' v σ) (hXQ : ∀ E σ, XQ E σ → XQ' E σ) {pc : Nat} {L : List (Option Value)} {S : List Value} {σ : mm_S} (h : mx_W Y C CX M th xc Q XQ pc L S σ) : mx_W Y C CX M th xc Q' XQ' pc L S σ :=
  fun X hX => h X (fun pc L S σ q => hX pc L S σ (mx_one_mono hC hCX hQ hXQ (fun _ _ _ _ z => z) pc L S σ q))
theorem mx_in {Y : mm_Y} {C : mm_C} {CX : mx_C} {M : mm_M} {th xc : List (Nat × Nat)} {Q : mm_Q} {XQ : Nat → mm_S → Prop} (hC : mm_mono C) (hCX : mx_monoC CX) {pc : Nat} {L : List (Option Value)} {S : List Value} {σ : mm_S} (h : mx_one Y C CX M th xc Q XQ (mx_W Y C CX M th xc Q XQ) pc L S σ) : mx_W Y C CX M th xc Q XQ pc L S σ :=
  fun X hX => hX pc L S σ (mx_one_mono hC hCX (fun _ _ z => z) (fun _ _ z => z) (fun _ _ _ _ z => z X hX) pc L S σ h)
def mx_run (Y : mm_Y) (C : mm_C) (CX : mx_C) (M : mm_M) (th xc : List (Nat × Nat)) (Q : mm_Q) (XQ : Nat → mm_S → Prop) (X : mm_X) : Nat → mm_X
  | 0 => X
  | n + 1 => mx_one Y C CX M th xc Q XQ (mx_run Y C CX M th xc Q XQ X n)
theorem mx_ink {Y : mm_Y} {C : mm_C} {CX : mx_C} {M : mm_M} {th xc : List (Nat × Nat)} {Q : mm_Q} {XQ : Nat → mm_S → Prop} (hC : mm_mono C) (hCX : mx_monoC CX) : ∀ (n pc : Nat) (L : List (Option Value)) (S : List Value) (σ : mm_S), mx_run Y C CX M th xc Q XQ (mx_W Y C CX M th xc Q XQ) n pc L S σ → mx_W Y C CX M th xc Q XQ pc L S σ
  | 0, _, _, _, _, h => h
  | n + 1, pc, L, S, σ, h => mx_in hC hCX (mx_one_mono hC hCX (fun _ _ z => z) (fun _ _ z => z) (mx_ink hC hCX n) pc L S σ h)
theorem xC0_mono : mx_monoC xC0 := fun _ _ _ _ _ _ _ hQ hX h => ⟨h.1, h.2.1, mx_W_mono (ms_mono 0) (fun _ _ _ _ _ _ _ _ _ h => h.elim) hQ hX h.2.2⟩
theorem xD_mono (d : Nat) : mx_monoC (xD d) := fun _ _ _ _ _ _ _ hQ hX h => ⟨h.1, mx_W_mono (ms_mono d) xC0_mono hQ hX h.2⟩
def lx_monoH (HC : lx_H) : Prop := ∀ y as σ f (HQ HQ' : Int32 → mm_S → (Nat → Int64) → Prop), (∀ k σ f, HQ k σ f → HQ' k σ f) → HC y as σ f HQ → HC y as σ f HQ'
theorem lH_mono (d : Nat) : lx_monoH (lH d) := by
  intro y as σ f HQ HQ' h
  unfold lH
  split
  all_goals first
    | exact id
    | exact fun z => ⟨z.1, xD_mono d _ _ _ _ _ _ _ (fun v σ' w => ⟨w.1, h _ _ _ w.2⟩) (fun E σ' w => by
        first
          | exact ⟨w.1, h _ _ _ w.2⟩
          | exact w.elim (fun w => Or.inl ⟨w.1, h _ _ _ w.2⟩) (fun w => Or.inr ⟨w.1, h _ _ _ w.2⟩)) z.2⟩
    | exact fun z => ⟨z.1, xD_mono d _ _ _ _ _ _ _ (fun v σ' w => ⟨w.choose, w.choose_spec.1, h _ _ _ w.choose_spec.2⟩) (fun E σ' w => by
        first
          | exact ⟨w.1, h _ _ _ w.2⟩
          | exact w.elim (fun w => Or.inl ⟨w.1, h _ _ _ w.2⟩) (fun w => Or.inr ⟨w.1, h _ _ _ w.2⟩)) z.2⟩
theorem lx_ll_mono {S : List Value} {K K' : Int64 → Int64 → List Value → Prop} (h : ∀ y x r, K y x r → K' y x r) : lx_ll S K → lx_ll S K' := by
  unfold lx_ll; split
  · exact h _ _ _
  · exact id
theorem lx_pp_mono {n : Nat} {S : List Value} {K K' : List Value → List Value → Prop} (h : ∀ a r, K a r → K' a r) : lx_pp n S K → lx_pp n S K' := by
  unfold lx_pp; split
  · exact h _ _
  · exact id
theorem lx_one_mono {Y : mm_Y} {C : mm_C} {HC : lx_H} {M : mm_M} {sp : List (Nat × Nat × Nat)} {ar : Nat → Nat} {sw : Int32 → Nat} {xs : Nat → Int32} {len T : Nat} {X X' : lx_X} (hC : mm_mono C) (hH : lx_monoH HC) (hX : ∀ pc L S σ f t, X pc L S σ f t → X' pc L S σ f t) : ∀ pc L S σ f t, lx_one Y C HC M sp ar sw xs len T X pc L S σ f t → lx_one Y C HC M sp ar sw xs len T X' pc L S σ f t := by
  intro pc L S σ f t h
  unfold lx_one at h ⊢
  cases hq : mm_look sp pc with
  | none =>
    simp only [hq] at h ⊢
    exact mm_one_mono hC (fun _ _ z => z) (fun _ _ _ _ z => hX _ _ _ _ _ _ z) pc L S σ h
  | some q =>
    obtain ⟨k, y⟩ := q
    simp only [hq] at h ⊢
    match k with
    | 0 => exact mm_ir_mono (fun i k r z => ⟨z.1, z.2.1, hX _ _ _ _ _ _ z.2.2⟩) h
    | 1 => exact mm_r_mono (fun k r z => ⟨z.1, hX _ _ _ _ _ _ z.2⟩) h
    | 2 => exact mm_ir_mono (fun i k r z => ⟨z.1, z.2.1, hX _ _ _ _ _ _ z.2.2⟩) h
    | 3 => exact mm_1_mono (fun x r z => hX _ _ _ _ _ _ z) h
    | 4 => exact lx_ll_mono (fun y x r z => hX _ _ _ _ _ _ z) h
    | 5 => exact mm_1_mono (fun x r z => hX _ _ _ _ _ _ z) h
    | 6 => exact lx_pp_mono (fun a r z => ⟨z.1, z.2.1, hH _ _ _ _ _ _ (fun k σ' f' w => hX _ _ _ _ _ _ w) z.2.2⟩) h
    | 7 => exact h
    | n + 8 => exact h
theorem lx_in {Y : mm_Y} {C : mm_C} {HC : lx_H} {M : mm_M} {sp : List (Nat × Nat × Nat)} {ar : Nat → Nat} {sw : Int32 → Nat} {xs : Nat → Int32} {len T : Nat} (hC : mm_mono C) (hH : lx_monoH HC) {pc : Nat} {L : List (Option Value)} {S : List Value} {σ : mm_S} {f : Nat → Int64} {t : Nat} (h : lx_one Y C HC M sp ar sw xs len T (lx_W Y C HC M sp ar sw xs len T) pc L S σ f t) : lx_W Y C HC M sp ar sw xs len T pc L S σ f t :=
  fun X hX => hX pc L S σ f t (lx_one_mono hC hH (fun _ _ _ _ _ _ z => z X hX) pc L S σ f t h)
def lx_run (Y : mm_Y) (C : mm_C) (HC : lx_H) (M : mm_M) (sp : List (Nat × Nat × Nat)) (ar : Nat → Nat) (sw : Int32 → Nat) (xs : Nat → Int32) (len T : Nat) (X : lx_X) : Nat → lx_X
  | 0 => X
  | n + 1 => lx_one Y C HC M sp ar sw xs len T (lx_run Y C HC M sp ar sw xs len T X n)
theorem lx_ink {Y : mm_Y} {C : mm_C} {HC : lx_H} {M : mm_M} {sp : List (Nat × Nat × Nat)} {ar : Nat → Nat} {sw : Int32 → Nat} {xs : Nat → Int32} {len T : Nat} (hC : mm_mono C) (hH : lx_monoH HC) : ∀ (n pc : Nat) (L : List (Option Value)) (S : List Value) (σ : mm_S) (f : Nat → Int64) (t : Nat), lx_run Y C HC M sp ar sw xs len T (lx_W Y C HC M sp ar sw xs len T) n pc L S σ f t → lx_W Y C HC M sp ar sw xs len T pc L S σ f t
  | 0, _, _, _, _, _, _, h => h
  | n + 1, pc, L, S, σ, f, t, h => lx_in hC hH (lx_one_mono hC hH (lx_ink hC hH n) pc L S σ f t h)
/-- the walk's own two -/
theorem lw_ink {d : Nat} {xs : Nat → Int32} {len T : Nat} (n pc : Nat) (L : List (Option Value)) (S : List Value) (σ : mm_S) (f : Nat → Int64) (t : Nat) (h : lx_run ms_Y (mD (d + 1)) (lH (d + 1)) lt_M lt_sp (fun y => (hs_m y).2.2.2.2) (fun _ => 0) xs len T (lw d xs len T) n pc L S σ f t) : lw d xs len T pc L S σ f t := lx_ink (ms_mono (d + 1)) (lH_mono (d + 1)) n pc L S σ f t h
/-- a throwing method's walk -/
abbrev xw (d y : Nat) (Q : mm_Q) (XQ : Nat → mm_S → Prop) : mm_X := mx_W ms_Y (mD d) xC0 (xT y).1 (xT y).2.1 (xT y).2.2 Q XQ
theorem xw_ink {d y : Nat} {Q : mm_Q} {XQ : Nat → mm_S → Prop} (n pc : Nat) (L : List (Option Value)) (S : List Value) (σ : mm_S) (h : mx_run ms_Y (mD d) xC0 (xT y).1 (xT y).2.1 (xT y).2.2 Q XQ (xw d y Q XQ) n pc L S σ) : xw d y Q XQ pc L S σ := mx_ink (ms_mono d) xC0_mono n pc L S σ h

/-! The building machine's runs are the machine's -/
theorem bm_run_mono {ty : Nat → Nat → FieldType} {C : Nat → List Value → List bm_K → Option (List bm_K)} {M : bm_M} (hC : ∀ y as κ κ', C y as κ = some κ' → κ.length ≤ κ'.length ∧ bm_sl κ ≤ bm_sl κ') : ∀ (n pc : Nat) (L : List (Option Value)) (S : List Value) (κ κ' : List bm_K), bm_run ty C M n pc L S κ = some κ' → κ.length ≤ κ'.length ∧ bm_sl κ ≤ bm_sl κ'
  | 0, _, _, _, _, _, h => by simp [bm_run] at h
  | n + 1, pc, L, S, κ, κ', h => by
    unfold bm_run at h
    split at h
    · cases h
    · split at h
      · split at h
        · cases h; exact ⟨Nat.le_refl _, Nat.le_refl _⟩
        · cases h
      · split at h
        · split at h
          · split at h
            · split at h
              · split at h
                · exact bm_run_mono hC n _ _ _ _ _ h
                · cases h
              · split at h
                · split at h
                  · rename_i κ1 hc
                    obtain ⟨a1, a2⟩ := hC _ _ _ _ hc
                    obtain ⟨b1, b2⟩ := bm_run_mono hC n _ _ _ _ _ h
                    exact ⟨by omega, by omega⟩
                  · cases h
                · cases h
            · cases h
          · cases h
        · cases h
      · split at h
        · rename_i hs
          obtain ⟨a1, a2⟩ := bm_step_mono hs
          obtain ⟨b1, b2⟩ := bm_run_mono hC n _ _ _ _ _ h
          exact ⟨by omega, by omega⟩
        · cases h
theorem bm_D_mono {ty : Nat → Nat → FieldType} {Y : List bm_M} {mx : Nat → Nat} : ∀ (d y : Nat) (as : List Value) (κ κ' : List bm_K), bm_D ty Y mx d y as κ = some κ' → κ.length ≤ κ'.length ∧ bm_sl κ ≤ bm_sl κ'
  | 0, _, _, _, _, h => by simp [bm_D] at h
  | d + 1, y, as, κ, κ', h => by
    unfold bm_D at h
    split at h
    · split at h
      · exact bm_run_mono (bm_D_mono d) _ _ _ _ _ _ h
      · cases h
    · cases h
def bm_okE (cc : ByteArray) (q : Nat × ClassFile.Instr × Int32) : Bool := decide (decode cc q.1 = .ok (q.2.1, match q.2.1 with | .bipush _ => 2 | .newarray _ => 2 | .sipush _ => 3 | .new _ => 3 | .putfield _ => 3 | .getfield _ => 3 | .invokespecial _ => 3 | .multianewarray _ _ => 4 | _ => 1)) && (match q.2.1 with | .iconst n => decide (Int32.ofInt n = q.2.2) | .bipush n => decide ((Int8.ofInt n).toInt32 = q.2.2) | .sipush n => decide ((Int16.ofInt n).toInt32 = q.2.2) | _ => true)
abbrev bm_Ne : Type := List (String × Nat × MethodName × String)
def bm_N (ne : bm_Ne) (U : State) : Prop := (∀ q ∈ ne, va_Nw (.methodLinkNest q.1 q.2.1 q.2.2.1 q.2.2.2) U) ∧ (Cond.arrayOver (.array .int)).before #[] U = true
theorem bm_N.moved {ne : bm_Ne} {s U : State} (hW : s.WarmedH U.vm) (h : bm_N ne s) : bm_N ne U := by
  refine ⟨fun q hq => va_Nw.warmM hW (h.1 q hq), ?_⟩
  have e := Cond.arrayOver_setVmC (args := #[]) (s := s) hW.alike (.array .int)
  have h2 : (Cond.arrayOver (.array .int)).before #[] (s.setVm U.vm) = true := e.trans h.2
  exact h2
theorem bm_N.same {ne : bm_Ne} {u U : State} (h : u.vm = U.vm) (hN : bm_N ne u) : bm_N ne U := bm_N.moved (by rw [← h]; exact State.WarmedH.refl u) hN
def bm_nok (cl : List vw_C) (Ts : List Cond) (own : String) (q : Nat × Nat × List Value) : Prop := ∃ (C : String) (T : u_T) (N : Nat) (tf : Nat → FieldType), cl[q.2.1]? = some (C, T, N) ∧ q.2.2.length = N ∧ (∀ w ∈ u_ws C T N, w ∈ Ts) ∧ Cond.classLink own q.1 C ∈ Ts ∧ Cond.instantiable C N ∈ Ts ∧ Cond.initialized C ∈ Ts ∧
  (∀ k, k < N → parseFieldDescriptor (T k).2.2.1 = some (tf k)) ∧ (∀ j, j < N → defaultValue (tf j) = vp_V q.2.2 j) ∧ q.2.2.all (bm_rok 0) = true
def bm_pok (ty : Nat → Nat → FieldType) (cl : List vw_C) (Ts : List Cond) (own : String) (q : Nat × Nat × Nat) : Prop := ∃ (C : String) (T : u_T) (N : Nat) (tf : Nat → FieldType), cl[q.2.1]? = some (C, T, N) ∧ q.2.2 < N ∧ (∀ w ∈ u_ws C T N, w ∈ Ts) ∧ Cond.fieldLink own q.1 (T q.2.2).1 (T q.2.2).2.1 (T q.2.2).2.2.1 ∈ Ts ∧
  (∀ k, k < N → parseFieldDescriptor (T k).2.2.1 = some (tf k)) ∧ (∀ a, a < N → ∀ b, b < N → a ≠ b → (T a).2.1 ≠ (T b).2.1) ∧ parseFieldDescriptor (T q.2.2).2.2.1 = some (ty q.2.1 q.2.2) ∧ (T q.2.2).1 = own
def bm_kok (Ts : List Cond) (nm : Nat → MethodName) (by_ : Nat → ByteArray) (mx : Nat → Nat) (ne : bm_Ne) (own : String) (q : Nat × Nat × Nat) : Prop :=
  (q.2.1 = 999 → Cond.methodLink own q.1 Lib.objectInit ∈ Ts ∧ Cond.instanceMethod Lib.objectInit ∈ Ts ∧ Cond.code Lib.objectInit ⟨#[0xb1]⟩ 1 none ∈ Ts) ∧
  (q.2.1 ≠ 999 → mx q.2.1 ≤ 21 ∧ Cond.code (nm q.2.1) (by_ q.2.1) (mx q.2.1) none ∈ Ts ∧ Cond.initialized (nm q.2.1).cls ∈ Ts ∧ Cond.instanceMethod (nm q.2.1) ∈ Ts ∧ (nm q.2.1).name = "<init>" ∧
    ((nm q.2.1).cls ≠ "java/lang/invoke/MethodHandle" ∧ (nm q.2.1).cls ≠ "java/lang/invoke/VarHandle" ∧ (parseMethodDescriptor (nm q.2.1).desc).map (fun d => d.parameters.length) = some q.2.2) ∧
    (Cond.methodLink own q.1 (nm q.2.1) ∈ Ts ∨ ∃ host, (own, q.1, nm q.2.1, host) ∈ ne))
def bm_ws (Ts : List Cond) (nm : Nat → MethodName) (by_ : Nat → ByteArray) (mx : Nat → Nat) (y : Nat) : List Cond := .code (nm y) (by_ y) (mx y) none :: Ts
def bm_rm (d : Nat) (κ κ' : List bm_K) : Room := { frames := d + 1, cells := κ'.length - κ.length, slots := bm_sl κ' - bm_sl κ, locals := 40 * (d + 1) }
def bm_B (D : va_G) (cl : List vw_C) (tys : List (ClassId × FieldType)) (ne : bm_Ne) (ad : Nat → Nat) (a3 : ClassId × ClassId × ClassId) (κ : List bm_K) (sz : Nat) : State → Prop := fun U =>
  U.heap.size = sz ∧ va_P D cl (bm_wd ad a3 κ) U.heap ∧ (va_K D cl tys U ∧ bm_N ne U) ∧ va_D (fun _ => True) (bm_wd ad a3 κ)
def bm_Qc (D : va_G) (cl : List vw_C) (tys : List (ClassId × FieldType)) (A : Nat → Prop) (n0 : Nat) (ad : Nat → Nat) (a3 : ClassId × ClassId × ClassId) (κ' : List bm_K) : Array Value → State → Outcome → State → Prop := fun _ st oc t =>
  (∃ ad' : Nat → Nat, (∀ k, k < n0 → ad' k = ad k) ∧ oc = .returned none ∧ va_P D cl (bm_wd ad' a3 κ') t.heap ∧ va_D A (bm_wd ad' a3 κ') ∧ va_K D cl tys t) ∧ va_F A st t
def bm_T (l : Launch) (Ts : List Cond) (nm : Nat → MethodName) (by_ : Nat → ByteArray) (mx : Nat → Nat) (D : va_G) (cl : List vw_C) (tys : List (ClassId × FieldType)) (ne : bm_Ne) (a3 : ClassId × ClassId × ClassId) (d y : Nat) (as : List Value) (κ κ' : List bm_K) : Prop :=
  ∀ (ad : Nat → Nat) (sz : Nat), Met l (nm y) (bm_ws Ts nm by_ mx y) (bm_rm d κ κ') (va_Pc (as.map (mm_rho ad)) (bm_B D cl tys ne ad a3 κ sz)) (bm_Qc D cl tys (va_A (bm_wd ad a3 κ) sz) κ.length ad a3 κ') (κ'.length - κ.length) (bm_sl κ' - bm_sl κ) (va_A (bm_wd ad a3 κ) sz)

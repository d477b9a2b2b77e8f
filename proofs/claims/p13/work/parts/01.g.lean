section
/-! The small machine: one step of a method over numbered cells; what it says is tied to W further down. -/
/-- what the cells hold: cell, place -/
abbrev mm_S : Type := Nat → Nat → Int32
def mm_up (σ : mm_S) (k j : Nat) (v : Int32) : mm_S := fun k' => if k' = k then upd (σ k) j v else σ k'
def mm_nth {α : Type} : List α → Nat → Option α
  | [], _ => none
  | a :: _, 0 => some a
  | _ :: r, i + 1 => mm_nth r i
def mm_set {α : Type} : List α → Nat → α → List α
  | [], _, _ => []
  | _ :: r, 0, b => b :: r
  | a :: r, i + 1, b => a :: mm_set r i b
def mm_look {α : Type} : List (Nat × α) → Nat → Option α
  | [], _ => none
  | (k, a) :: r, q => match Nat.beq k q with
    | true => some a
    | false => mm_look r q
/-- an instruction's row: itself, its length, where it goes, its number -/
abbrev mm_E : Type := ClassFile.Instr × Nat × Nat × Int32
/-- a cell's kind: (0, class, fields: none an int, some t the cell t), (1, n, []) ints, (2, n, []) booleans, (3, n, []) rows of ints at the n cells behind it -/
abbrev mm_K : Type := Nat × Nat × List (Option Nat)
/-- a method's row: its instructions, the fields that it reads (pool number, class, place), those that it writes, its calls (pool number, method, how many arguments, the class whose object it is called on, 99: none), what it returns (0, 1: an int, 2: a boolean) -/
abbrev mm_M : Type := List (Nat × mm_E) × List (Nat × Nat × Nat) × List (Nat × Nat × Nat) × List (Nat × Nat × Nat × Nat) × Nat
/-- a system: cells, booleans among the fields (class, place), methods -/
abbrev mm_Y : Type := List mm_K × List (Nat × Nat) × List mm_M
def mm_kd (Y : mm_Y) (k : Nat) : mm_K := (mm_nth Y.1 k).getD (9, 0, [])
def mm_ia (Y : mm_Y) (k : Nat) (i : Int32) : Prop := match mm_kd Y k with
  | (1, n, _) => vp_in i n
  | _ => False
def mm_za (Y : mm_Y) (k : Nat) (i : Int32) : Prop := match mm_kd Y k with
  | (2, n, _) => vp_in i n
  | _ => False
def mm_ga (Y : mm_Y) (k : Nat) (i : Int32) : Prop := match mm_kd Y k with
  | (3, n, _) => vp_in i n
  | _ => False
def mm_gf (Y : mm_Y) (k ci j : Nat) : Option (Option Nat) := match mm_kd Y k with
  | (0, ci', fs) => match Nat.beq ci' ci with
    | true => mm_nth fs j
    | false => none
  | _ => none
def mm_isZ (Y : mm_Y) (ci j : Nat) : Bool := Y.2.1.any (fun q => Nat.beq q.1 ci && Nat.beq q.2 j)
def mm_me (Y : mm_Y) (M : Nat) : mm_M := (mm_nth Y.2.2 M).getD ([], [], [], [], 0)
def mm_br (c A B : Prop) : Prop := (c → A) ∧ (¬ c → B)
def mm_pop : Nat → List Value → List Value → Option (List Value × List Value)
  | 0, acc, S => some (acc, S)
  | n + 1, acc, v :: S => mm_pop n (v :: acc) S
  | _ + 1, _, [] => none
abbrev mm_Q : Type := Option Value → mm_S → Prop
abbrev mm_C : Type := Nat → List Value → mm_S → mm_Q → Prop
abbrev mm_X : Type := Nat → List (Option Value) → List Value → mm_S → Prop
def mm_ldi (L : List (Option Value)) (i : Nat) (K : Int32 → Prop) : Prop := match mm_nth L i with
  | some (some (.int x)) => K x
  | _ => False
def mm_lda (L : List (Option Value)) (i : Nat) (K : Nat → Prop) : Prop := match mm_nth L i with
  | some (some (.ref x)) => K x
  | _ => False
def mm_sto (L : List (Option Value)) (i : Nat) (v : Value) (K : List (Option Value) → Prop) : Prop := match mm_nth L i with
  | some _ => K (mm_set L i (some v))
  | none => False
def mm_1 (S : List Value) (K : Int32 → List Value → Prop) : Prop := match S with
  | .int x :: r => K x r
  | _ => False
def mm_2 (S : List Value) (K : Int32 → Int32 → List Value → Prop) : Prop := match S with
  | .int y :: .int x :: r => K x y r
  | _ => False
def mm_r (S : List Value) (K : Nat → List Value → Prop) : Prop := match S with
  | .ref k :: r => K k r
  | _ => False
def mm_ir (S : List Value) (K : Int32 → Nat → List Value → Prop) : Prop := match S with
  | .int x :: .ref k :: r => K x k r
  | _ => False
def mm_iir (S : List Value) (K : Int32 → Int32 → Nat → List Value → Prop) : Prop := match S with
  | .int x :: .int i :: .ref k :: r => K x i k r
  | _ => False
def mm_icmp (c : ClassFile.Cond) (x y : Int32) (A B : Prop) : Prop := match c with
  | .eq => mm_br (x = y) A B
  | .ne => mm_br (x = y) B A
  | .lt => mm_br (x < y) A B
  | .ge => mm_br (y ≤ x) A B
  | .gt => mm_br (y < x) A B
  | .le => mm_br (x ≤ y) A B
def mm_if (c : ClassFile.Cond) (x : Int32) (A B : Prop) : Prop := match c with
  | .eq => mm_br (x = 0) A B
  | .ne => mm_br (x = 0) B A
  | .lt => mm_br (x < 0) A B
  | .ge => mm_br (0 ≤ x) A B
  | .gt => mm_br (0 < x) A B
  | .le => mm_br (x ≤ 0) A B
def mm_c1 (n : Nat) (as : List Value) : Bool := Nat.ble as.length n && as.all (fun v => match v with | .int _ => true | .ref _ => true | _ => false)
def mm_rcv (Y : mm_Y) (self ci : Nat) (as : List Value) : Bool := match self with
  | 0 => Nat.beq ci 99
  | _ + 1 => match as with
    | .ref k :: _ => match mm_kd Y k with
      | (0, c, _) => Nat.beq c ci && !(Nat.beq ci 99)
      | _ => false
    | _ => false
def mm_call (Y : mm_Y) (C : mm_C) (M : mm_M) (idx self : Nat) (S : List Value) (σ : mm_S) (K : List Value → mm_S → Prop) : Prop := match mm_look M.2.2.2.1 idx with
  | some (y, n, ci) => match mm_pop (n + self) [] S with
    | some (as, r) => match mm_c1 8 r && mm_rcv Y self ci as with
      | true => C y as σ (fun v σ' => K (v.toList ++ r) σ')
      | false => False
    | none => False
  | none => False
def mm_gv (Y : mm_Y) (M : mm_M) (idx k : Nat) (σ : mm_S) (K : Value → Prop) : Prop := match mm_look M.2.1 idx with
  | some (ci, j) => match mm_gf Y k ci j with
    | some (some q) => K (.ref q)
    | some none => K (.int (σ k j))
    | none => False
  | none => False
def mm_pv (Y : mm_Y) (M : mm_M) (idx k : Nat) (x : Int32) (σ : mm_S) (K : mm_S → Prop) : Prop := match mm_look M.2.2.1 idx with
  | some (ci, j) => match mm_gf Y k ci j with
    | some none => match mm_isZ Y ci j with
      | true => (x = 0 ∨ x = 1) ∧ K (mm_up σ k j x)
      | false => K (mm_up σ k j x)
    | _ => False
  | none => False
def mm_d1 (S : List Value) (K : Value → List Value → Prop) : Prop := match S with
  | .int x :: r => K (.int x) r
  | .ref x :: r => K (.ref x) r
  | _ => False
def mm_d2 (S : List Value) (K : Value → Value → List Value → Prop) : Prop := match S with
  | .int x :: .ref y :: r => K (.int x) (.ref y) r
  | _ => False
def mm_rt (M : mm_M) (Q : mm_Q) (S : List Value) (σ : mm_S) : Prop := match S with
  | [.int v] => match M.2.2.2.2 with
    | 1 => Q (some (.int v)) σ
    | 2 => (v = 0 ∨ v = 1) ∧ Q (some (.int v)) σ
    | _ => False
  | _ => False
def mm_rv (M : mm_M) (Q : mm_Q) (S : List Value) (σ : mm_S) : Prop := match S with
  | [] => match M.2.2.2.2 with
    | 0 => Q none σ
    | _ => False
  | _ => False
/-- a switch -/
def mm_sw (pc : Nat) (dflt lo hi : Int) (offs : Array Int) (x : Int32) (K : Nat → Prop) : Prop := if x.toInt < lo ∨ hi < x.toInt then K ((pc : Int) + dflt).toNat else match offs[(x.toInt - lo).toNat]? with
  | some off => K ((pc : Int) + off).toNat
  | none => False
/-- one instruction: what must hold for X to hold behind it -/
def mm_one (Y : mm_Y) (C : mm_C) (M : mm_M) (Q : mm_Q) (X : mm_X) : mm_X := fun pc L S σ => match mm_look M.1 pc with
  | none => False
  | some (i, len, t, c) => match i with
    | .iload_n k => mm_ldi L k.val (fun x => X (pc + 1) L (.int x :: S) σ)
    | .iload k => mm_ldi L k (fun x => X (pc + 2) L (.int x :: S) σ)
    | .aload_n k => mm_lda L k.val (fun x => X (pc + 1) L (.ref x :: S) σ)
    | .aload k => mm_lda L k (fun x => X (pc + 2) L (.ref x :: S) σ)
    | .istore_n k => mm_1 S (fun x r => mm_sto L k.val (.int x) (fun L' => X (pc + 1) L' r σ))
    | .istore k => mm_1 S (fun x r => mm_sto L k (.int x) (fun L' => X (pc + 2) L' r σ))
    | .astore_n k => mm_r S (fun x r => mm_sto L k.val (.ref x) (fun L' => X (pc + 1) L' r σ))
    | .astore k => mm_r S (fun x r => mm_sto L k (.ref x) (fun L' => X (pc + 2) L' r σ))
    | .iinc k _ => mm_ldi L k (fun x => mm_sto L k (.int (x + c)) (fun L' => X (pc + 3) L' S σ))
    | .iconst _ => X (pc + 1) L (.int c :: S) σ
    | .bipush _ => X (pc + 2) L (.int c :: S) σ
    | .sipush _ => X (pc + 3) L (.int c :: S) σ
    | .ldc_w _ => X (pc + 3) L (.int c :: S) σ
    | .iadd => mm_2 S (fun x y r => X (pc + 1) L (.int (x + y) :: r) σ)
    | .isub => mm_2 S (fun x y r => X (pc + 1) L (.int (x - y) :: r) σ)
    | .imul => mm_2 S (fun x y r => X (pc + 1) L (.int (x * y) :: r) σ)
    | .idiv => mm_2 S (fun x y r => ¬ y = 0 ∧ X (pc + 1) L (.int (x / y) :: r) σ)
    | .irem => mm_2 S (fun x y r => ¬ y = 0 ∧ X (pc + 1) L (.int (x - x / y * y) :: r) σ)
    | .iand => mm_2 S (fun x y r => X (pc + 1) L (.int (x &&& y) :: r) σ)
    | .ior => mm_2 S (fun x y r => X (pc + 1) L (.int (x ||| y) :: r) σ)
    | .ixor => mm_2 S (fun x y r => X (pc + 1) L (.int (x ^^^ y) :: r) σ)
    | .ishl => mm_2 S (fun x y r => X (pc + 1) L (.int (x <<< (y &&& 31)) :: r) σ)
    | .ishr => mm_2 S (fun x y r => X (pc + 1) L (.int (x >>> (y &&& 31)) :: r) σ)
    | .iushr => mm_2 S (fun x y r => X (pc + 1) L (.int (x.toUInt32 >>> (y.toUInt32 &&& Int32.toUInt32 31)).toInt32 :: r) σ)
    | .dup => mm_d1 S (fun v r => X (pc + 1) L (v :: v :: r) σ)
    | .dup2 => mm_d2 S (fun v w r => X (pc + 1) L (v :: w :: v :: w :: r) σ)
    | .pop => mm_d1 S (fun _ r => X (pc + 1) L r σ)
    | .iaload => mm_ir S (fun j k r => mm_ia Y k j ∧ X (pc + 1) L (.int (σ k j.toNatClampNeg) :: r) σ)
    | .baload => mm_ir S (fun j k r => mm_za Y k j ∧ X (pc + 1) L (.int (σ k j.toNatClampNeg) :: r) σ)
    | .aaload => mm_ir S (fun j k r => mm_ga Y k j ∧ X (pc + 1) L (.ref (k + 1 + j.toNatClampNeg) :: r) σ)
    | .iastore => mm_iir S (fun x j k r => mm_ia Y k j ∧ X (pc + 1) L r (mm_up σ k j.toNatClampNeg x))
    | .bastore => mm_iir S (fun x j k r => mm_za Y k j ∧ X (pc + 1) L r (mm_up σ k j.toNatClampNeg (vp_nar .boolean x)))
    | .getfield idx => mm_r S (fun k r => mm_gv Y M idx k σ (fun v => X (pc + 3) L (v :: r) σ))
    | .putfield idx => mm_ir S (fun x k r => mm_pv Y M idx k x σ (fun σ' => X (pc + 3) L r σ'))
    | .goto _ => X t L S σ
    | .ifCond cd _ => mm_1 S (fun x r => mm_if cd x (X t L r σ) (X (pc + 3) L r σ))
    | .if_icmp cd _ => mm_2 S (fun x y r => mm_icmp cd x y (X t L r σ) (X (pc + 3) L r σ))
    | .invokevirtual idx => mm_call Y C M idx 1 S σ (fun S' σ' => X (pc + 3) L S' σ')
    | .invokestatic idx => mm_call Y C M idx 0 S σ (fun S' σ' => X (pc + 3) L S' σ')
    | .tableswitch dflt lo hi offs => mm_1 S (fun x r => mm_sw pc dflt lo hi offs x (fun t => X t L r σ))
    | .ireturn => mm_rt M Q S σ
    | .return_ => mm_rv M Q S σ
    | _ => False
/-- several -/
def mm_run (Y : mm_Y) (C : mm_C) (M : mm_M) (Q : mm_Q) (X : mm_X) : Nat → mm_X
  | 0 => X
  | n + 1 => mm_one Y C M Q (mm_run Y C M Q X n)
/-- a walk to the end: the least X that one instruction leads back from -/
def mm_W (Y : mm_Y) (C : mm_C) (M : mm_M) (Q : mm_Q) : mm_X := fun pc L S σ => ∀ X : mm_X, (∀ pc L S σ, mm_one Y C M Q X pc L S σ → X pc L S σ) → X pc L S σ
def mm_ent (n : Nat) (as : List Value) : List (Option Value) := as.map some ++ List.replicate (n - as.length) none
/-- a call: nested at most d deep; B: the calls that are known already, mx: how many locals a method has -/
def mm_D (Y : mm_Y) (B : mm_C) (mx : Nat → Nat) : Nat → mm_C
  | 0 => B
  | d + 1 => fun y as σ Q => B y as σ Q ∨ (mm_c1 (mx y) as = true ∧ mm_W Y (mm_D Y B mx d) (mm_me Y y) Q 0 (mm_ent (mx y) as) [] σ)
def mm_mono (C : mm_C) : Prop := ∀ y as σ (Q Q' : mm_Q), (∀ v σ', Q v σ' → Q' v σ') → C y as σ Q → C y as σ Q'
section MMmono
theorem mm_ldi_mono {L : List (Option Value)} {i : Nat} {K K' : Int32 → Prop} (h : ∀ x, K x → K' x) : mm_ldi L i K → mm_ldi L i K' := by
  unfold mm_ldi; split
  · exact h _
  · exact id
theorem mm_lda_mono {L : List (Option Value)} {i : Nat} {K K' : Nat → Prop} (h : ∀ x, K x → K' x) : mm_lda L i K → mm_lda L i K' := by
  unfold mm_lda; split
  · exact h _
  · exact id
theorem mm_sto_mono {L : List (Option Value)} {i : Nat} {v : Value} {K K' : List (Option Value) → Prop} (h : ∀ x, K x → K' x) : mm_sto L i v K → mm_sto L i v K' := by
  unfold mm_sto; split
  · exact h _
  · exact id
theorem mm_1_mono {S : List Value} {K K' : Int32 → List Value → Prop} (h : ∀ x r, K x r → K' x r) : mm_1 S K → mm_1 S K' := by
  unfold mm_1; split
  · exact h _ _
  · exact id
theorem mm_2_mono {S : List Value} {K K' : Int32 → Int32 → List Value → Prop} (h : ∀ x y r, K x y r → K' x y r) : mm_2 S K → mm_2 S K' := by
  unfold mm_2; split
  · exact h _ _ _
  · exact id
theorem mm_r_mono {S : List Value} {K K' : Nat → List Value → Prop} (h : ∀ x r, K x r → K' x r) : mm_r S K → mm_r S K' := by
  unfold mm_r; split
  · exact h _ _
  · exact id
theorem mm_ir_mono {S : List Value} {K K' : Int32 → Nat → List Value → Prop} (h : ∀ x k r, K x k r → K' x k r) : mm_ir S K → mm_ir S K' := by
  unfold mm_ir; split
  · exact h _ _ _
  · exact id
theorem mm_iir_mono {S : List Value} {K K' : Int32 → Int32 → Nat → List Value → Prop} (h : ∀ x i k r, K x i k r → K' x i k r) : mm_iir S K → mm_iir S K' := by
  unfold mm_iir; split
  · exact h _ _ _ _
  · exact id
theorem mm_br_mono {c A B A' B' : Prop} (h1 : A → A') (h2 : B → B') : mm_br c A B → mm_br c A' B' := fun h => ⟨fun q => h1 (h.1 q), fun q => h2 (h.2 q)⟩
theorem mm_icmp_mono {c : ClassFile.Cond} {x y : Int32} {A B A' B' : Prop} (h1 : A → A') (h2 : B → B') : mm_icmp c x y A B → mm_icmp c x y A' B' := by
  cases c
  · exact mm_br_mono h1 h2
  · exact mm_br_mono h2 h1
  · exact mm_br_mono h1 h2
  · exact mm_br_mono h1 h2
  · exact mm_br_mono h1 h2
  · exact mm_br_mono h1 h2
theorem mm_if_mono {c : ClassFile.Cond} {x : Int32} {A B A' B' : Prop} (h1 : A → A') (h2 : B → B') : mm_if c x A B → mm_if c x A' B' := by
  cases c
  · exact mm_br_mono h1 h2
  · exact mm_br_mono h2 h1
  · exact mm_br_mono h1 h2
  · exact mm_br_mono h1 h2
  · exact mm_br_mono h1 h2
  · exact mm_br_mono h1 h2
theorem mm_call_mono {Y : mm_Y} {C : mm_C} {M : mm_M} {idx self : Nat} {S : List Value} {σ : mm_S} {K K' : List Value → mm_S → Prop} (hC : mm_mono C) (h : ∀ S σ, K S σ → K' S σ) : mm_call Y C M idx self S σ K → mm_call Y C M idx self S σ K' := by
  unfold mm_call
  split
  · split
    · split
      · exact hC _ _ _ _ _ (fun v σ' => h _ _)
      · exact id
    · exact id
  · exact id
theorem mm_gv_mono {Y : mm_Y} {M : mm_M} {idx k : Nat} {σ : mm_S} {K K' : Value → Prop} (h : ∀ v, K v → K' v) : mm_gv Y M idx k σ K → mm_gv Y M idx k σ K' := by
  unfold mm_gv
  split
  · split
    · exact h _
    · exact h _
    · exact id
  · exact id
theorem mm_pv_mono {Y : mm_Y} {M : mm_M} {idx k : Nat} {x : Int32} {σ : mm_S} {K K' : mm_S → Prop} (h : ∀ v, K v → K' v) : mm_pv Y M idx k x σ K → mm_pv Y M idx k x σ K' := by
  unfold mm_pv
  split
  · split
    · split
      · exact fun q => ⟨q.1, h _ q.2⟩
      · exact h _
    · exact id
  · exact id
theorem mm_d1_mono {S : List Value} {K K' : Value → List Value → Prop} (h : ∀ x r, K x r → K' x r) : mm_d1 S K → mm_d1 S K' := by
  unfold mm_d1; split
  · exact h _ _
  · exact h _ _
  · exact id
theorem mm_d2_mono {S : List Value} {K K' : Value → Value → List Value → Prop} (h : ∀ x y r, K x y r → K' x y r) : mm_d2 S K → mm_d2 S K' := by
  unfold mm_d2; split
  · exact h _ _ _
  · exact id
theorem mm_rt_mono {M : mm_M} {Q Q' : mm_Q} {S : List Value} {σ : mm_S} (h : ∀ v σ, Q v σ → Q' v σ) : mm_rt M Q S σ → mm_rt M Q' S σ := by
  unfold mm_rt; split
  · split
    · exact h _ _
    · exact fun q => ⟨q.1, h _ _ q.2⟩
    · exact id
  · exact id
theorem mm_rv_mono {M : mm_M} {Q Q' : mm_Q} {S : List Value} {σ : mm_S} (h : ∀ v σ, Q v σ → Q' v σ) : mm_rv M Q S σ → mm_rv M Q' S σ := by
  unfold mm_rv; split
  · split
    · exact h _ _
    · exact id
  · exact id
theorem mm_sw_mono {pc : Nat} {dflt lo hi : Int} {offs : Array Int} {x : Int32} {K K' : Nat → Prop} (h : ∀ t, K t → K' t) : mm_sw pc dflt lo hi offs x K → mm_sw pc dflt lo hi offs x K' := by
  unfold mm_sw; split
  · exact h _
  · split
    · exact h _
    · exact id
theorem mm_one_mono {Y : mm_Y} {C : mm_C} {M : mm_M} {Q Q' : mm_Q} {X X' : mm_X} (hC : mm_mono C) (hQ : ∀ v σ, Q v σ → Q' v σ) (hX : ∀ pc L S σ, X pc L S σ → X' pc L S σ) : ∀ pc L S σ, mm_one Y C M Q X pc L S σ → mm_one Y C M Q' X' pc L S σ := by
  intro pc L S σ h
  unfold mm_one at h ⊢
  cases hI : mm_look M.1 pc with
  | none => simp only [hI] at h
  | some q =>
    obtain ⟨i, len, t, c⟩ := q
    simp only [hI] at h ⊢
    cases i
    all_goals first
      | exact h.elim
      | exact hX _ _ _ _ h
      | exact mm_ldi_mono (fun x h => hX _ _ _ _ h) h
      | exact mm_ldi_mono (fun x h => mm_sto_mono (fun _ h => hX _ _ _ _ h) h) h
      | exact mm_lda_mono (fun x h => hX _ _ _ _ h) h
      | exact mm_1_mono (fun x r h => mm_sto_mono (fun _ h => hX _ _ _ _ h) h) h
      | exact mm_r_mono (fun x r h => mm_sto_mono (fun _ h => hX _ _ _ _ h) h) h
      | exact mm_2_mono (fun x y r h => hX _ _ _ _ h) h
      | exact mm_2_mono (fun x y r h => ⟨h.1, hX _ _ _ _ h.2⟩) h
      | exact mm_d1_mono (fun x r h => hX _ _ _ _ h) h
      | exact mm_d2_mono (fun x y r h => hX _ _ _ _ h) h
      | exact mm_ir_mono (fun j k r h => ⟨h.1, hX _ _ _ _ h.2⟩) h
      | exact mm_iir_mono (fun x j k r h => ⟨h.1, hX _ _ _ _ h.2⟩) h
      | exact mm_r_mono (fun k r h => mm_gv_mono (fun v h => hX _ _ _ _ h) h) h
      | exact mm_ir_mono (fun x k r h => mm_pv_mono (fun v h => hX _ _ _ _ h) h) h
      | exact mm_1_mono (fun x r h => mm_if_mono (hX _ _ _ _) (hX _ _ _ _) h) h
      | exact mm_2_mono (fun x y r h => mm_icmp_mono (hX _ _ _ _) (hX _ _ _ _) h) h
      | exact mm_1_mono (fun x r h => mm_sw_mono (fun t h => hX _ _ _ _ h) h) h
      | exact mm_call_mono hC (fun S σ h => hX _ _ _ _ h) h
      | exact mm_rt_mono hQ h
      | exact mm_rv_mono hQ h
theorem mm_W_mono {Y : mm_Y} {C : mm_C} {M : mm_M} {Q Q' : mm_Q} (hC : mm_mono C) (hQ : ∀ v σ, Q v σ → Q' v σ) {pc : Nat} {L : List (Option Value)} {S : List Value} {σ : mm_S} (h : mm_W Y C M Q pc L S σ) : mm_W Y C M Q' pc L S σ :=
  fun X hX => h X (fun pc L S σ q => hX pc L S σ (mm_one_mono hC hQ (fun _ _ _ _ z => z) pc L S σ q))
/-- the first instruction, then the rest of the walk -/
theorem mm_in {Y : mm_Y} {C : mm_C} {M : mm_M} {Q : mm_Q} (hC : mm_mono C) {pc : Nat} {L : List (Option Value)} {S : List Value} {σ : mm_S} (h : mm_one Y C M Q (mm_W Y C M Q) pc L S σ) : mm_W Y C M Q pc L S σ :=
  fun X hX => hX pc L S σ (mm_one_mono hC (fun _ _ z => z) (fun _ _ _ _ z => z X hX) pc L S σ h)
theorem mm_ink {Y : mm_Y} {C : mm_C} {M : mm_M} {Q : mm_Q} (hC : mm_mono C) : ∀ (n pc : Nat) (L : List (Option Value)) (S : List Value) (σ : mm_S), mm_run Y C M Q (mm_W Y C M Q) n pc L S σ → mm_W Y C M Q pc L S σ
  | 0, _, _, _, _, h => h
  | n + 1, pc, L, S, σ, h => mm_in hC (mm_one_mono hC (fun _ _ z => z) (mm_ink hC n) pc L S σ h)
theorem mm_D_mono {Y : mm_Y} {B : mm_C} {mx : Nat → Nat} (hB : mm_mono B) : ∀ d, mm_mono (mm_D Y B mx d)
  | 0 => hB
  | d + 1 => fun y as σ Q Q' hq h => h.elim (fun h => Or.inl (hB y as σ Q Q' hq h)) (fun h => Or.inr ⟨h.1, mm_W_mono (mm_D_mono hB d) hq h.2⟩)
theorem mm_call_C {Y : mm_Y} {C C' : mm_C} {M : mm_M} {idx self : Nat} {S : List Value} {σ : mm_S} {K : List Value → mm_S → Prop} (hC : ∀ y as σ Q, C y as σ Q → C' y as σ Q) : mm_call Y C M idx self S σ K → mm_call Y C' M idx self S σ K := by
  unfold mm_call
  split
  · split
    · split
      · exact hC _ _ _ _
      · exact id
    · exact id
  · exact id
theorem mm_one_C {Y : mm_Y} {C C' : mm_C} {M : mm_M} {Q : mm_Q} {X : mm_X} (hC : ∀ y as σ Q, C y as σ Q → C' y as σ Q) : ∀ pc L S σ, mm_one Y C M Q X pc L S σ → mm_one Y C' M Q X pc L S σ := by
  intro pc L S σ h
  unfold mm_one at h ⊢
  cases hI : mm_look M.1 pc with
  | none => simp only [hI] at h
  | some q =>
    obtain ⟨i, len, t, c⟩ := q
    simp only [hI] at h ⊢
    cases i
    all_goals first
      | exact h
      | exact mm_call_C hC h
theorem mm_W_C {Y : mm_Y} {C C' : mm_C} {M : mm_M} {Q : mm_Q} (hC : ∀ y as σ Q, C y as σ Q → C' y as σ Q) {pc : Nat} {L : List (Option Value)} {S : List Value} {σ : mm_S} (h : mm_W Y C M Q pc L S σ) : mm_W Y C' M Q pc L S σ :=
  fun X hX => h X (fun pc L S σ q => hX pc L S σ (mm_one_C hC pc L S σ q))
theorem mm_D_1 {Y : mm_Y} {B : mm_C} {mx : Nat → Nat} : ∀ d y as σ Q, mm_D Y B mx d y as σ Q → mm_D Y B mx (d + 1) y as σ Q
  | 0, _, _, _, _, h => Or.inl h
  | d + 1, _, _, _, _, h => h.elim Or.inl (fun h => Or.inr ⟨h.1, mm_W_C (mm_D_1 d) h.2⟩)
theorem mm_D_le {Y : mm_Y} {B : mm_C} {mx : Nat → Nat} {d e : Nat} (h : d ≤ e) : ∀ y as σ Q, mm_D Y B mx d y as σ Q → mm_D Y B mx e y as σ Q := by
  induction h with
  | refl => exact fun _ _ _ _ z => z
  | step _ ih => exact fun y as σ Q z => mm_D_1 _ y as σ Q (ih y as σ Q z)
end MMmono
end
section
/-! The small machine's cells and locals as the kit has them -/
def mm_rho (ad : Nat → Nat) : Value → Value
  | .ref k => .ref (ad k)
  | v => v
theorem mm_rho_cat (ad : Nat → Nat) (v : Value) : (mm_rho ad v).category = v.category := by cases v <;> rfl
def mm_fv (ad : Nat → Nat) (f : Nat → Int32) : Nat → List (Option Nat) → List Value
  | _, [] => []
  | j, none :: r => .int (f j) :: mm_fv ad f (j + 1) r
  | j, some t :: r => .ref (ad t) :: mm_fv ad f (j + 1) r
def mm_ce (ad : Nat → Nat) (a3 : ClassId × ClassId × ClassId) (Y : mm_Y) (σ : mm_S) (k : Nat) : va_E := match mm_kd Y k with
  | (0, ci, fs) => .inr (ci, mm_fv ad (σ k) 0 fs)
  | (1, n, _) => .inl (a3.1, n, .inl (σ k))
  | (2, n, _) => .inl (a3.2.1, n, .inl (σ k))
  | (_, n, _) => .inl (a3.2.2, n, .inr (.inr (.inr (.inr (fun j => if j < n then some (ad (k + 1 + j)) else none)))))
def mm_wd (ad : Nat → Nat) (a3 : ClassId × ClassId × ClassId) (Y : mm_Y) (σ : mm_S) : va_W := (List.range Y.1.length).map (fun k => (ad k, mm_ce ad a3 Y σ k))
theorem mm_nth_lt {α : Type} : ∀ {l : List α} {i : Nat} {a : α}, mm_nth l i = some a → i < l.length
  | [], _, _, h => by simp [mm_nth] at h
  | _ :: _, 0, _, _ => Nat.zero_lt_succ _
  | _ :: r, i + 1, _, h => Nat.succ_lt_succ (mm_nth_lt (l := r) (i := i) h)
theorem mm_nth_eq {α : Type} : ∀ (l : List α) (i : Nat), mm_nth l i = l[i]?
  | [], _ => by simp [mm_nth]
  | _ :: _, 0 => by simp [mm_nth]
  | _ :: r, i + 1 => by simp [mm_nth, mm_nth_eq r i]
theorem mm_set_length {α : Type} : ∀ (l : List α) (i : Nat) (a : α), (mm_set l i a).length = l.length
  | [], _, _ => rfl
  | _ :: _, 0, _ => rfl
  | _ :: r, i + 1, a => by simp [mm_set, mm_set_length r i a]
theorem mm_nth_set {α : Type} : ∀ (l : List α) (i : Nat) (a : α) (j : Nat), mm_nth (mm_set l i a) j = if j = i then (if i < l.length then some a else none) else mm_nth l j
  | [], i, a, j => by simp [mm_set, mm_nth]
  | _ :: _, 0, _, 0 => by simp [mm_set, mm_nth]
  | _ :: _, 0, _, j + 1 => by simp [mm_set, mm_nth]
  | _ :: _, i + 1, _, 0 => by simp [mm_set, mm_nth]
  | _ :: r, i + 1, a, j + 1 => by
    have h := mm_nth_set r i a j
    simp only [mm_set, mm_nth, h, Nat.add_right_cancel_iff, List.length_cons, Nat.add_lt_add_iff_right]
theorem mm_kd_lt {Y : mm_Y} {k : Nat} (h : (mm_kd Y k).1 ≠ 9) : k < Y.1.length := by
  unfold mm_kd at h
  cases e : mm_nth Y.1 k with
  | none => rw [e] at h; exact absurd rfl h
  | some q => exact mm_nth_lt e
theorem mm_fv_int (ad : Nat → Nat) (f : Nat → Int32) : ∀ (fs : List (Option Nat)) (j0 j : Nat), mm_nth fs j = some none → (mm_fv ad f j0 fs)[j]? = some (.int (f (j0 + j)))
  | [], _, _, h => by simp [mm_nth] at h
  | none :: _, j0, 0, _ => by simp [mm_fv]
  | some _ :: _, _, 0, h => by simp [mm_nth] at h
  | none :: r, j0, j + 1, h => by
    have q := mm_fv_int ad f r (j0 + 1) j h
    simp only [mm_fv, List.getElem?_cons_succ, q]
    rw [Nat.add_assoc, Nat.add_comm 1 j]
  | some _ :: r, j0, j + 1, h => by
    have q := mm_fv_int ad f r (j0 + 1) j h
    simp only [mm_fv, List.getElem?_cons_succ, q]
    rw [Nat.add_assoc, Nat.add_comm 1 j]
theorem mm_fv_ref (ad : Nat → Nat) (f : Nat → Int32) : ∀ (fs : List (Option Nat)) (j0 j t : Nat), mm_nth fs j = some (some t) → (mm_fv ad f j0 fs)[j]? = some (.ref (ad t))
  | [], _, _, _, h => by simp [mm_nth] at h
  | none :: _, _, 0, _, h => by simp [mm_nth] at h
  | some _ :: _, _, 0, _, h => by simp only [mm_nth, Option.some.injEq] at h; simp [mm_fv, h]
  | none :: r, j0, j + 1, t, h => by
    have q := mm_fv_ref ad f r (j0 + 1) j t h
    simp only [mm_fv, List.getElem?_cons_succ, q]
  | some _ :: r, j0, j + 1, t, h => by
    have q := mm_fv_ref ad f r (j0 + 1) j t h
    simp only [mm_fv, List.getElem?_cons_succ, q]
theorem mm_fv_len (ad : Nat → Nat) (f : Nat → Int32) : ∀ (fs : List (Option Nat)) (j0 : Nat), (mm_fv ad f j0 fs).length = fs.length
  | [], _ => rfl
  | none :: r, j0 => by simp [mm_fv, mm_fv_len ad f r (j0 + 1)]
  | some _ :: r, j0 => by simp [mm_fv, mm_fv_len ad f r (j0 + 1)]
theorem mm_fv_congr (ad : Nat → Nat) (f g : Nat → Int32) : ∀ (fs : List (Option Nat)) (j0 : Nat), (∀ j, j0 ≤ j → f j = g j) → mm_fv ad f j0 fs = mm_fv ad g j0 fs
  | [], _, _ => rfl
  | none :: r, j0, h => by simp only [mm_fv]; rw [h j0 (Nat.le_refl _), mm_fv_congr ad f g r (j0 + 1) (fun j hj => h j (by omega))]
  | some _ :: r, j0, h => by simp only [mm_fv]; rw [mm_fv_congr ad f g r (j0 + 1) (fun j hj => h j (by omega))]
theorem mm_fv_set (ad : Nat → Nat) (x : Int32) : ∀ (fs : List (Option Nat)) (f : Nat → Int32) (j0 j : Nat), mm_nth fs j = some none → (mm_fv ad f j0 fs).set j (.int x) = mm_fv ad (upd f (j0 + j) x) j0 fs
  | [], _, _, _, h => by simp [mm_nth] at h
  | none :: r, f, j0, 0, _ => by
    simp only [mm_fv, List.set_cons_zero, Nat.add_zero]
    rw [mm_fv_congr ad f (upd f j0 x) r (j0 + 1) (fun j hj => (pk_un (by omega)).symm), pk_us]
  | some _ :: _, _, _, 0, h => by simp [mm_nth] at h
  | none :: r, f, j0, j + 1, h => by
    have q := mm_fv_set ad x r f (j0 + 1) j h
    simp only [mm_fv, List.set_cons_succ]
    rw [q, show j0 + 1 + j = j0 + (j + 1) by omega, pk_un (by omega)]
  | some _ :: r, f, j0, j + 1, h => by
    have q := mm_fv_set ad x r f (j0 + 1) j h
    simp only [mm_fv, List.set_cons_succ]
    rw [q, show j0 + 1 + j = j0 + (j + 1) by omega]
theorem mm_wd_get {ad : Nat → Nat} {a3 : ClassId × ClassId × ClassId} {Y : mm_Y} {σ : mm_S} {k : Nat} (h : k < Y.1.length) : (mm_wd ad a3 Y σ)[k]? = some (ad k, mm_ce ad a3 Y σ k) := by
  simp [mm_wd, List.getElem?_map, List.getElem?_range h]
theorem mm_up_ne {σ : mm_S} {k j k' : Nat} {x : Int32} (h : k' ≠ k) : mm_up σ k j x k' = σ k' := by simp [mm_up, h]
theorem mm_up_eq {σ : mm_S} {k j : Nat} {x : Int32} : mm_up σ k j x k = upd (σ k) j x := by simp [mm_up]
theorem mm_ce_ne {ad : Nat → Nat} {a3 : ClassId × ClassId × ClassId} {Y : mm_Y} {σ σ' : mm_S} {k : Nat} (h : σ' k = σ k) : mm_ce ad a3 Y σ' k = mm_ce ad a3 Y σ k := by
  unfold mm_ce; rw [h]
theorem mm_wd_set {ad : Nat → Nat} {a3 : ClassId × ClassId × ClassId} {Y : mm_Y} {σ : mm_S} {k j : Nat} {x : Int32} {e : va_E} (he : mm_ce ad a3 Y (mm_up σ k j x) k = e) : (mm_wd ad a3 Y σ).set k (ad k, e) = mm_wd ad a3 Y (mm_up σ k j x) := by
  subst he
  refine List.ext_getElem? fun i => ?_
  rw [List.getElem?_set]
  unfold mm_wd
  simp only [List.getElem?_map, List.length_map, List.length_range]
  by_cases hi : i < Y.1.length
  · rw [List.getElem?_range hi]
    by_cases hk : k = i
    · subst hk
      simp [hi]
    · simp only [hk, if_false, Option.map_some]
      rw [mm_ce_ne (mm_up_ne (fun h => hk h.symm))]
  · have hn : (List.range Y.1.length)[i]? = none := by simp; omega
    rw [hn]
    by_cases hk : k = i
    · subst hk
      simp [hi]
    · simp [hk]
/-- locals -/
def mm_ll (ad : Nat → Nat) : Nat → List (Option Value) → List (Nat × Value)
  | _, [] => []
  | i, some v :: r => (i, mm_rho ad v) :: mm_ll ad (i + 1) r
  | i, none :: r => mm_ll ad (i + 1) r
theorem mm_ll_mem (ad : Nat → Nat) : ∀ (L : List (Option Value)) (j k : Nat) (v : Value), mm_nth L k = some (some v) → (j + k, mm_rho ad v) ∈ mm_ll ad j L
  | [], _, _, _, h => by simp [mm_nth] at h
  | some w :: r, j, 0, v, h => by simp only [mm_nth, Option.some.injEq] at h; subst h; simp [mm_ll]
  | none :: r, j, 0, v, h => by simp [mm_nth] at h
  | some w :: r, j, k + 1, v, h => by
    have q := mm_ll_mem ad r (j + 1) k v h
    rw [show j + 1 + k = j + (k + 1) by omega] at q
    exact List.mem_cons_of_mem _ q
  | none :: r, j, k + 1, v, h => by
    have q := mm_ll_mem ad r (j + 1) k v h
    rw [show j + 1 + k = j + (k + 1) by omega] at q
    exact q
theorem mm_ll_of (ad : Nat → Nat) : ∀ (L : List (Option Value)) (j : Nat) (q : Nat × Value), q ∈ mm_ll ad j L → ∃ k v, q = (j + k, mm_rho ad v) ∧ mm_nth L k = some (some v)
  | [], _, _, h => by simp [mm_ll] at h
  | some w :: r, j, q, h => by
    simp only [mm_ll, List.mem_cons] at h
    rcases h with h | h
    · exact ⟨0, w, h, rfl⟩
    · obtain ⟨k, v, h1, h2⟩ := mm_ll_of ad r (j + 1) q h
      exact ⟨k + 1, v, by rw [h1, show j + 1 + k = j + (k + 1) by omega], h2⟩
  | none :: r, j, q, h => by
    simp only [mm_ll] at h
    obtain ⟨k, v, h1, h2⟩ := mm_ll_of ad r (j + 1) q h
    exact ⟨k + 1, v, by rw [h1, show j + 1 + k = j + (k + 1) by omega], h2⟩
def mm_lh (ad : Nat → Nat) (ls : Array Slot) (n : Nat) (L : List (Option Value)) : Prop := lv_has ls n (mm_ll ad 0 L) ∧ L.length = n ∧ ∀ k v, mm_nth L k = some (some v) → v.category = 1
theorem mm_lh_at {ad : Nat → Nat} {ls : Array Slot} {n : Nat} {L : List (Option Value)} (h : mm_lh ad ls n L) {i : Nat} {v : Value} (hi : mm_nth L i = some (some v)) : ls[i]? = some (.val (mm_rho ad v)) := by
  have q := h.1.2.2 _ (mm_ll_mem ad L 0 i v hi)
  simpa using q
theorem mm_lh_set {ad : Nat → Nat} {ls ls' : Array Slot} {n : Nat} {L : List (Option Value)} (h : mm_lh ad ls n L) {i : Nat} {v : Value} (hi : i < n) (hv : v.category = 1) (h' : lv_has ls' n ((i, mm_rho ad v) :: (mm_ll ad 0 L).filter (fun q => !(q.1 == i) && !(q.1 + 1 == i && q.2.category == 2)))) : mm_lh ad ls' n (mm_set L i (some v)) := by
  obtain ⟨h1, h2, h3⟩ := h
  refine ⟨⟨h'.1, h'.2.1, fun q hq => ?_⟩, by rw [mm_set_length]; exact h2, fun k w hw => ?_⟩
  · obtain ⟨k, w, e, hk⟩ := mm_ll_of ad _ 0 q hq
    rw [mm_nth_set] at hk
    subst e
    by_cases hki : k = i
    · subst hki
      rw [if_pos rfl, if_pos (by rw [h2]; exact hi)] at hk
      simp only [Option.some.injEq] at hk
      subst hk
      have := h'.2.2 (k, mm_rho ad v) List.mem_cons_self
      simpa using this
    · rw [if_neg hki] at hk
      have hm := mm_ll_mem ad L 0 k w hk
      refine h'.2.2 (0 + k, mm_rho ad w) (List.mem_cons_of_mem _ (List.mem_filter.mpr ⟨hm, ?_⟩))
      simp only [Nat.zero_add, mm_rho_cat, h3 k w hk, Bool.and_eq_true, Bool.not_eq_true', beq_eq_false_iff_ne, ne_eq, hki, not_false_eq_true, true_and]
      simp
  · rw [mm_nth_set] at hw
    by_cases hki : k = i
    · rw [if_pos hki, if_pos (by rw [h2]; exact hi)] at hw
      simp only [Option.some.injEq] at hw
      subst hw
      exact hv
    · rw [if_neg hki] at hw
      exact h3 k w hw
end
section
/-! The small machine's walk is a walk of the machine -/
theorem mx_mono {p : Program} {l : Launch} {e : Env} {R : Room} {s : State} {m : MethodId} {args : Array Value} {below : List Frame} {meth : Method} {c : Code} {H : Heap} {locs : List Loc} {cells slots : Nat} {Q Q' : State → Prop} {g : JFrame} (h : ∀ t, Q t → Q' t) (k : W p l e R s m args below meth c H locs cells slots Q g) : W p l e R s m args below meth c H locs cells slots Q' g := by
  intro T hT X
  obtain ⟨t, a, b⟩ := k T hT X
  exact ⟨t, a, h t b⟩
def mm_len : ClassFile.Instr → Nat
  | .iload _ | .aload _ | .istore _ | .astore _ | .bipush _ => 2
  | .sipush _ | .iinc _ _ | .getfield _ | .putfield _ | .goto _ | .ifCond _ _ | .if_icmp _ _ | .invokevirtual _ | .invokestatic _ | .ldc_w _ => 3
  | _ => 1
def mm_cst (pc : Nat) (i : ClassFile.Instr) (t : Nat) (c : Int32) : Bool := match i with
  | .iconst n => decide (Int32.ofInt n = c)
  | .bipush n => decide ((Int8.ofInt n).toInt32 = c)
  | .sipush n => decide ((Int16.ofInt n).toInt32 = c)
  | .iinc _ n => decide (Int32.ofInt n = c)
  | .goto off => decide ((pc : Int) + off = (t : Int))
  | .ifCond _ off => decide ((pc : Int) + off = (t : Int))
  | .if_icmp _ off => decide ((pc : Int) + off = (t : Int))
  | .tableswitch dflt _ _ offs => decide (0 ≤ (pc : Int) + dflt) && offs.toList.all (fun o => decide (0 ≤ (pc : Int) + o))
  | _ => true
/-- how long: a switch is as long as its entry says -/
def mm_lenE (i : ClassFile.Instr) (len : Nat) : Nat := match i with
  | .tableswitch _ _ _ _ => len
  | i => mm_len i
def mm_okE (cc : ByteArray) (q : Nat × mm_E) : Bool := decide (decode cc q.1 = .ok (q.2.1, mm_lenE q.2.1 q.2.2.1)) && mm_cst q.1 q.2.1 q.2.2.2.1 q.2.2.2.2
theorem mm_look_mem {α : Type} : ∀ {l : List (Nat × α)} {k : Nat} {a : α}, mm_look l k = some a → (k, a) ∈ l
  | [], _, _, h => by simp [mm_look] at h
  | (k', a') :: r, k, a, h => by
    unfold mm_look at h
    cases hb : Nat.beq k' k with
    | true =>
      rw [hb] at h
      have hk := Nat.eq_of_beq_eq_true hb
      simp only [Option.some.injEq] at h
      subst hk; subst h
      exact List.mem_cons_self
    | false =>
      rw [hb] at h
      exact List.mem_cons_of_mem _ (mm_look_mem h)
def mm_gok (cl : List vw_C) (Ts : List Cond) (own : String) (idx ci j : Nat) : Prop := ∃ (C : String) (T : u_T) (N : Nat), cl[ci]? = some (C, T, N) ∧ j < N ∧ (∀ w ∈ u_ws C T N, w ∈ Ts) ∧ Cond.fieldLink own idx (T j).1 (T j).2.1 (T j).2.2.1 ∈ Ts
def mm_pok (Y : mm_Y) (cl : List vw_C) (Ts : List Cond) (own : String) (idx ci j : Nat) : Prop := ∃ (C : String) (T : u_T) (N : Nat) (ty : Nat → FieldType), cl[ci]? = some (C, T, N) ∧ j < N ∧ (∀ w ∈ u_ws C T N, w ∈ Ts) ∧ Cond.fieldLink own idx (T j).1 (T j).2.1 (T j).2.2.1 ∈ Ts ∧
  (∀ k, k < N → parseFieldDescriptor (T k).2.2.1 = some (ty k)) ∧ (∀ a, a < N → ∀ b, b < N → a ≠ b → (T a).2.1 ≠ (T b).2.1) ∧ (T j).2.2.2 = false ∧ parseFieldDescriptor (T j).2.2.1 = some (match mm_isZ Y ci j with | true => .boolean | false => .int)
def mm_rty : Nat → Option FieldType
  | 0 => none
  | 1 => some .int
  | _ => some .boolean
def mm_V (p : Program) (l : Launch) (e : Env) (R : Room) (s : State) (m : MethodId) (args : Array Value) (below : List Frame) (meth : Method) (c : Code) (D : va_G) (cl : List vw_C) (A : Nat → Prop) (ad : Nat → Nat) (a3 : ClassId × ClassId × ClassId) (Y : mm_Y) (nL : Nat) (Qf : State → Prop) : mm_X := fun pc L S σ =>
  ∀ (H : Heap) (locs : List Loc) (ls : Array Slot), va_P D cl (mm_wd ad a3 Y σ) H → va_D A (mm_wd ad a3 Y σ) → va_S A s.heap H locs → mm_lh ad ls nL L → W p l e R s m args below meth c H locs 0 0 Qf (F0 m pc ls (S.map (mm_rho ad)))
def mm_Qc (D : va_G) (cl : List vw_C) (tys : List (ClassId × FieldType)) (A : Nat → Prop) (ad : Nat → Nat) (a3 : ClassId × ClassId × ClassId) (Y : mm_Y) (Q : mm_Q) : Array Value → State → Outcome → State → Prop := fun _ st oc t =>
  (∃ (v : Option Value) (σ : mm_S), Q v σ ∧ oc = .returned (v.map (mm_rho ad)) ∧ va_P D cl (mm_wd ad a3 Y σ) t.heap ∧ va_D A (mm_wd ad a3 Y σ) ∧ va_K D cl tys t) ∧ va_F A st t
section MMel
theorem mm_sw_el {pc : Nat} {dflt lo hi : Int} {offs : Array Int} {x : Int32} {K : Nat → Prop} (h : mm_sw pc dflt lo hi offs x K) (hc : (decide (0 ≤ (pc : Int) + dflt) && offs.toList.all (fun o => decide (0 ≤ (pc : Int) + o))) = true) : (∃ t : Nat, (x.toInt < lo ∨ hi < x.toInt) ∧ (pc : Int) + dflt = (t : Int) ∧ K t) ∨ ∃ (off : Int) (t : Nat), ¬ x.toInt < lo ∧ ¬ hi < x.toInt ∧ offs[(x.toInt - lo).toNat]? = some off ∧ (pc : Int) + off = (t : Int) ∧ K t := by
  rw [Bool.and_eq_true] at hc
  unfold mm_sw at h; split at h
  · rename_i h1
    exact Or.inl ⟨_, h1, (Int.toNat_of_nonneg (of_decide_eq_true hc.1)).symm, h⟩
  · rename_i h1
    split at h
    · rename_i off h2
      refine Or.inr ⟨off, _, fun z => h1 (Or.inl z), fun z => h1 (Or.inr z), h2, (Int.toNat_of_nonneg ?_).symm, h⟩
      have hm : off ∈ offs.toList := by
        rw [← Array.getElem?_toList] at h2
        exact List.mem_of_getElem? h2
      exact of_decide_eq_true (List.all_eq_true.mp hc.2 off hm)
    · exact h.elim
theorem mm_ldi_el {L : List (Option Value)} {i : Nat} {K : Int32 → Prop} (h : mm_ldi L i K) : ∃ x, mm_nth L i = some (some (.int x)) ∧ K x := by
  unfold mm_ldi at h; split at h
  · exact ⟨_, by assumption, h⟩
  · exact h.elim
theorem mm_lda_el {L : List (Option Value)} {i : Nat} {K : Nat → Prop} (h : mm_lda L i K) : ∃ x, mm_nth L i = some (some (.ref x)) ∧ K x := by
  unfold mm_lda at h; split at h
  · exact ⟨_, by assumption, h⟩
  · exact h.elim
theorem mm_sto_el {L : List (Option Value)} {i : Nat} {v : Value} {K : List (Option Value) → Prop} (h : mm_sto L i v K) : i < L.length ∧ K (mm_set L i (some v)) := by
  unfold mm_sto at h; split at h
  · rename_i hq; exact ⟨mm_nth_lt hq, h⟩
  · exact h.elim
theorem mm_1_el {S : List Value} {K : Int32 → List Value → Prop} (h : mm_1 S K) : ∃ x r, S = .int x :: r ∧ K x r := by
  unfold mm_1 at h; split at h
  · exact ⟨_, _, rfl, h⟩
  · exact h.elim
theorem mm_2_el {S : List Value} {K : Int32 → Int32 → List Value → Prop} (h : mm_2 S K) : ∃ x y r, S = .int y :: .int x :: r ∧ K x y r := by
  unfold mm_2 at h; split at h
  · exact ⟨_, _, _, rfl, h⟩
  · exact h.elim
theorem mm_r_el {S : List Value} {K : Nat → List Value → Prop} (h : mm_r S K) : ∃ k r, S = .ref k :: r ∧ K k r := by
  unfold mm_r at h; split at h
  · exact ⟨_, _, rfl, h⟩
  · exact h.elim
theorem mm_ir_el {S : List Value} {K : Int32 → Nat → List Value → Prop} (h : mm_ir S K) : ∃ x k r, S = .int x :: .ref k :: r ∧ K x k r := by
  unfold mm_ir at h; split at h
  · exact ⟨_, _, _, rfl, h⟩
  · exact h.elim
theorem mm_iir_el {S : List Value} {K : Int32 → Int32 → Nat → List Value → Prop} (h : mm_iir S K) : ∃ x i k r, S = .int x :: .int i :: .ref k :: r ∧ K x i k r := by
  unfold mm_iir at h; split at h
  · exact ⟨_, _, _, _, rfl, h⟩
  · exact h.elim
theorem mm_d1_el {S : List Value} {K : Value → List Value → Prop} (h : mm_d1 S K) : ∃ v r, S = v :: r ∧ v.category = 1 ∧ K v r := by
  unfold mm_d1 at h; split at h
  · exact ⟨_, _, rfl, rfl, h⟩
  · exact ⟨_, _, rfl, rfl, h⟩
  · exact h.elim
theorem mm_d2_el {S : List Value} {K : Value → Value → List Value → Prop} (h : mm_d2 S K) : ∃ v w r, S = v :: w :: r ∧ v.category = 1 ∧ w.category = 1 ∧ K v w r := by
  unfold mm_d2 at h; split at h
  · exact ⟨_, _, _, rfl, rfl, rfl, h⟩
  · exact h.elim
theorem mm_ia_el {Y : mm_Y} {k : Nat} {j : Int32} (h : mm_ia Y k j) : ∃ n fs, mm_kd Y k = (1, n, fs) ∧ vp_in j n := by
  unfold mm_ia at h; split at h
  · exact ⟨_, _, by assumption, h⟩
  · exact h.elim
theorem mm_za_el {Y : mm_Y} {k : Nat} {j : Int32} (h : mm_za Y k j) : ∃ n fs, mm_kd Y k = (2, n, fs) ∧ vp_in j n := by
  unfold mm_za at h; split at h
  · exact ⟨_, _, by assumption, h⟩
  · exact h.elim
theorem mm_ga_el {Y : mm_Y} {k : Nat} {j : Int32} (h : mm_ga Y k j) : ∃ n fs, mm_kd Y k = (3, n, fs) ∧ vp_in j n := by
  unfold mm_ga at h; split at h
  · exact ⟨_, _, by assumption, h⟩
  · exact h.elim
theorem mm_gf_el {Y : mm_Y} {k ci j : Nat} {o : Option Nat} (h : mm_gf Y k ci j = some o) : ∃ fs, mm_kd Y k = (0, ci, fs) ∧ mm_nth fs j = some o := by
  unfold mm_gf at h
  split at h
  · rename_i ci' fs hk
    split at h
    · rename_i hb
      have hc := Nat.eq_of_beq_eq_true hb
      subst hc
      exact ⟨fs, hk, h⟩
    · cases h
  · cases h
theorem mm_gv_el {Y : mm_Y} {M : mm_M} {idx k : Nat} {σ : mm_S} {K : Value → Prop} (h : mm_gv Y M idx k σ K) : ∃ ci j fs, mm_look M.2.1 idx = some (ci, j) ∧ mm_kd Y k = (0, ci, fs) ∧ ((∃ q, mm_nth fs j = some (some q) ∧ K (.ref q)) ∨ (mm_nth fs j = some none ∧ K (.int (σ k j)))) := by
  unfold mm_gv at h
  split at h
  · rename_i ci j hq
    split at h
    · rename_i q hg
      obtain ⟨fs, h1, h2⟩ := mm_gf_el hg
      exact ⟨ci, j, fs, hq, h1, Or.inl ⟨q, h2, h⟩⟩
    · rename_i hg
      obtain ⟨fs, h1, h2⟩ := mm_gf_el hg
      exact ⟨ci, j, fs, hq, h1, Or.inr ⟨h2, h⟩⟩
    · exact h.elim
  · exact h.elim
theorem mm_pv_el {Y : mm_Y} {M : mm_M} {idx k : Nat} {x : Int32} {σ : mm_S} {K : mm_S → Prop} (h : mm_pv Y M idx k x σ K) : ∃ ci j fs, mm_look M.2.2.1 idx = some (ci, j) ∧ mm_kd Y k = (0, ci, fs) ∧ mm_nth fs j = some none ∧ (mm_isZ Y ci j = true → x = 0 ∨ x = 1) ∧ K (mm_up σ k j x) := by
  unfold mm_pv at h
  split at h
  · rename_i ci j hq
    split at h
    · rename_i hg
      obtain ⟨fs, h1, h2⟩ := mm_gf_el hg
      split at h
      · exact ⟨ci, j, fs, hq, h1, h2, fun _ => h.1, h.2⟩
      · rename_i hz
        exact ⟨ci, j, fs, hq, h1, h2, (fun q => by rw [hz] at q; cases q), h⟩
    · exact h.elim
  · exact h.elim
theorem mm_rt_el {M : mm_M} {Q : mm_Q} {S : List Value} {σ : mm_S} (h : mm_rt M Q S σ) : ∃ v, S = [.int v] ∧ Q (some (.int v)) σ ∧ (M.2.2.2.2 = 1 ∨ (M.2.2.2.2 = 2 ∧ (v = 0 ∨ v = 1))) := by
  unfold mm_rt at h
  split at h
  · split at h
    · rename_i hm; exact ⟨_, rfl, h, Or.inl hm⟩
    · rename_i hm; exact ⟨_, rfl, h.2, Or.inr ⟨hm, h.1⟩⟩
    · exact h.elim
  · exact h.elim
theorem mm_rv_el {M : mm_M} {Q : mm_Q} {S : List Value} {σ : mm_S} (h : mm_rv M Q S σ) : S = [] ∧ Q none σ ∧ M.2.2.2.2 = 0 := by
  unfold mm_rv at h
  split at h
  · split at h
    · rename_i hm; exact ⟨rfl, h, hm⟩
    · exact h.elim
  · exact h.elim
end MMel
section MMaald
variable {p : Program} {l : Launch} {e : Env} {R : Room} {s : State} {m : MethodId} {args : Array Value} {below : List Frame} {meth : Method} {c : Code} {H : Heap} {locs : List Loc} {cells slots : Nat} {Q : State → Prop}
theorem mm_aald {cc : ByteArray} {pc : Nat} {ls : Array Slot} {rest : List Value} {D : va_G} {cl : List vw_C} {a : Nat} {tys : List (ClassId × FieldType)} {ws : va_W} (hx : p.tables.exec = Jvm.exec) (hb : c.code = cc) (hK : va_K D cl tys s) (hP : va_P D cl ws H) (q0 t0 : Nat) {cA : ClassId} {t : FieldType} {n : Nat} {f : Nat → Option Nat} (ha : ws[q0]? = some (a, .inl (cA, n, .inr (.inr (.inr (.inr f)))))) (ht : tys[t0]? = some (cA, .array t)) {i : Int32} (hin : vp_in i n) (hdg : decode cc pc = .ok (.aaload, 1))
    (kk : W p l e R s m args below meth c H locs cells slots Q (F0 m (pc + 1) ls (va_rf (f i.toNatClampNeg) :: rest))) : W p l e R s m args below meth c H locs cells slots Q (F0 m pc ls (.int i :: .ref a :: rest)) := by
  have hlt : i.toNatClampNeg < n := Nat.not_le.mp fun q => hin (Or.inr q)
  refine W.aald (v := va_rf (f i.toNatClampNeg)) (ty := .array t) hx hb (hP q0 _ ha) ((hK.2 t0 _ ht).1 n (fun j => va_rf (f j))) rfl (fun q => by cases q) ?_ ?_ rfl rfl hdg kk
  · show ¬ (i < 0 ∨ (arrV _ _ _).slots.size ≤ _)
    rw [arrV_size]
    exact hin
  · show (arrV _ _ _).slots[_]? = _
    rw [arrV_read _ _ hlt]
end MMaald
section MMstep
variable {p : Program} {l : Launch} {e : Env} {R : Room} {s : State} {m : MethodId} {args : Array Value} {below : List Frame} {meth : Method} {c : Code} {D : va_G} {cl : List vw_C} {A : Nat → Prop} {ad : Nat → Nat} {cI cZ cG : ClassId} {CG : String} {Y : mm_Y} {nL : Nat} {M : mm_M} {C : mm_C} {Q : mm_Q} {cc : ByteArray} {Ts : List Cond} {own : String} {tys : List (ClassId × FieldType)}
set_option maxHeartbeats 4000000 in
theorem mm_step {Qf : State → Prop} (hQf : ∀ t, MQ below (mm_Qc D cl tys A ad (cI, cZ, cG) Y Q) args s 0 0 A t → Qf t) (hx : p.tables.exec = Jvm.exec) (hb : c.code = cc) (hown : s.vm.findClass own = some m.cls) (hts : ∀ w ∈ Ts, w.before args s = true) (hK : va_K D cl tys s) (htI : tys[0]? = some (cI, .int)) (htZ : tys[1]? = some (cZ, .boolean)) (htG : tys[2]? = some (cG, .array .int))
    (hr : meth.sig.returnType = mm_rty M.2.2.2.2) (hlocks : meth.locks = false) (htab : M.1.all (mm_okE cc) = true) (hg : ∀ idx ci j, mm_look M.2.1 idx = some (ci, j) → mm_gok cl Ts own idx ci j) (hp : ∀ idx ci j, mm_look M.2.2.1 idx = some (ci, j) → mm_pok Y cl Ts own idx ci j)
    (hld : ∀ (pc idx len t : Nat) (v : Int32), mm_look M.1 pc = some (.ldc_w idx, len, t, v) → Cond.constant own idx v ∈ Ts)
    (hc1 : ∀ (pc idx : Nat) (L : List (Option Value)) (S : List Value) (σ : mm_S), decode cc pc = .ok (.invokevirtual idx, 3) → mm_call Y C M idx 1 S σ (fun S' σ' => mm_V p l e R s m args below meth c D cl A ad (cI, cZ, cG) Y nL Qf (pc + 3) L S' σ') → mm_V p l e R s m args below meth c D cl A ad (cI, cZ, cG) Y nL Qf pc L S σ)
    (hc0 : ∀ (pc idx : Nat) (L : List (Option Value)) (S : List Value) (σ : mm_S), decode cc pc = .ok (.invokestatic idx, 3) → mm_call Y C M idx 0 S σ (fun S' σ' => mm_V p l e R s m args below meth c D cl A ad (cI, cZ, cG) Y nL Qf (pc + 3) L S' σ') → mm_V p l e R s m args below meth c D cl A ad (cI, cZ, cG) Y nL Qf pc L S σ) :
    ∀ pc L S σ, mm_one Y C M Q (mm_V p l e R s m args below meth c D cl A ad (cI, cZ, cG) Y nL Qf) pc L S σ → mm_V p l e R s m args below meth c D cl A ad (cI, cZ, cG) Y nL Qf pc L S σ := by
  intro pc L S σ h
  generalize hV : mm_V p l e R s m args below meth c D cl A ad (cI, cZ, cG) Y nL Qf = V at h hc1 hc0 ⊢
  have hVd : ∀ pc L S σ, V pc L S σ ↔ ∀ (H : Heap) (locs : List Loc) (ls : Array Slot), va_P D cl (mm_wd ad (cI, cZ, cG) Y σ) H → va_D A (mm_wd ad (cI, cZ, cG) Y σ) → va_S A s.heap H locs → mm_lh ad ls nL L → W p l e R s m args below meth c H locs 0 0 Qf (F0 m pc ls (S.map (mm_rho ad))) := by
    intro pc L S σ; rw [← hV]; exact Iff.rfl
  unfold mm_one at h
  cases hI : mm_look M.1 pc with
  | none => simp only [hI] at h
  | some q =>
    obtain ⟨i, len, t, cs⟩ := q
    have hq := List.all_eq_true.mp htab _ (mm_look_mem hI)
    simp only [mm_okE, Bool.and_eq_true, decide_eq_true_eq] at hq
    obtain ⟨hdg, hcst⟩ := hq
    simp only [hI] at h
    cases i
    case iload_n k =>
      replace h := mm_ldi_el h
      obtain ⟨x, h1, h⟩ := h
      rw [hVd] at h ⊢
      intro H locs ls hP hD hS hl
      exact lv_iload_n hx hb hdg rfl (mm_lh_at hl h1) (h H locs ls hP hD hS hl)
    case iload k =>
      replace h := mm_ldi_el h
      obtain ⟨x, h1, h⟩ := h
      rw [hVd] at h ⊢
      intro H locs ls hP hD hS hl
      exact lv_iload hx hb hdg (mm_lh_at hl h1) (h H locs ls hP hD hS hl)
    case aload_n k =>
      replace h := mm_lda_el h
      obtain ⟨x, h1, h⟩ := h
      rw [hVd] at h ⊢
      intro H locs ls hP hD hS hl
      exact lv_aload_n hx hb hdg rfl (mm_lh_at hl h1) (h H locs ls hP hD hS hl)
    case aload k =>
      replace h := mm_lda_el h
      obtain ⟨x, h1, h⟩ := h
      rw [hVd] at h ⊢
      intro H locs ls hP hD hS hl
      exact lv_aload hx hb hdg (mm_lh_at hl h1) (h H locs ls hP hD hS hl)
    case istore_n k =>
      replace h := mm_1_el h
      obtain ⟨x, r, rfl, h⟩ := h
      replace h := mm_sto_el h
      obtain ⟨hi, h⟩ := h
      rw [hVd] at h ⊢
      intro H locs ls hP hD hS hl
      have hn : k.val < nL := by rw [← hl.2.1]; exact hi
      exact lv_istore_n hx hb hdg rfl hl.1 hn rfl (fun ls' h' => h H locs ls' hP hD hS (mm_lh_set hl hn rfl h'))
    case istore k =>
      replace h := mm_1_el h
      obtain ⟨x, r, rfl, h⟩ := h
      replace h := mm_sto_el h
      obtain ⟨hi, h⟩ := h
      rw [hVd] at h ⊢
      intro H locs ls hP hD hS hl
      have hn : k < nL := by rw [← hl.2.1]; exact hi
      exact lv_istore hx hb hdg hl.1 hn rfl (fun ls' h' => h H locs ls' hP hD hS (mm_lh_set hl hn rfl h'))
    case astore_n k =>
      replace h := mm_r_el h
      obtain ⟨x, r, rfl, h⟩ := h
      replace h := mm_sto_el h
      obtain ⟨hi, h⟩ := h
      rw [hVd] at h ⊢
      intro H locs ls hP hD hS hl
      have hn : k.val < nL := by rw [← hl.2.1]; exact hi
      exact lv_astore_n hx hb hdg rfl hl.1 hn rfl (fun ls' h' => h H locs ls' hP hD hS (mm_lh_set (v := .ref x) hl hn rfl h'))
    case astore k =>
      replace h := mm_r_el h
      obtain ⟨x, r, rfl, h⟩ := h
      replace h := mm_sto_el h
      obtain ⟨hi, h⟩ := h
      rw [hVd] at h ⊢
      intro H locs ls hP hD hS hl
      have hn : k < nL := by rw [← hl.2.1]; exact hi
      exact lv_astore hx hb hdg hl.1 hn rfl (fun ls' h' => h H locs ls' hP hD hS (mm_lh_set (v := .ref x) hl hn rfl h'))
    case iinc k n =>
      replace h := mm_ldi_el h
      obtain ⟨x, h1, h⟩ := h
      replace h := mm_sto_el h
      obtain ⟨hi, h⟩ := h
      rw [hVd] at h ⊢
      intro H locs ls hP hD hS hl
      have hn : k < nL := by rw [← hl.2.1]; exact hi
      have hcs : Int32.ofInt n = cs := of_decide_eq_true hcst
      have hm := mm_ll_mem ad L 0 k (.int x) h1
      rw [Nat.zero_add] at hm
      obtain ⟨q, hq⟩ := List.getElem?_of_mem hm
      exact lv_iinc (k := q) hx hb hdg hl.1 hq (by rw [hcs]) hn rfl (fun ls' h' => h H locs ls' hP hD hS (mm_lh_set (v := .int (x + cs)) hl hn rfl h'))
    case iconst n =>
      replace h := (hVd (pc + 1) L (.int cs :: S) σ).mp h
      rw [hVd]
      intro H locs ls hP hD hS hl
      exact lv_iconst hx hb hdg (of_decide_eq_true hcst) (h H locs ls hP hD hS hl)
    case bipush n =>
      replace h := (hVd (pc + 2) L (.int cs :: S) σ).mp h
      rw [hVd]
      intro H locs ls hP hD hS hl
      exact lv_bipush hx hb hdg (of_decide_eq_true hcst) (h H locs ls hP hD hS hl)
    case sipush n =>
      replace h := (hVd (pc + 3) L (.int cs :: S) σ).mp h
      rw [hVd]
      intro H locs ls hP hD hS hl
      exact lv_sipush hx hb hdg (of_decide_eq_true hcst) (h H locs ls hP hD hS hl)
    case iadd =>
      replace h := mm_2_el h
      obtain ⟨x, y, r, rfl, h⟩ := h
      rw [hVd] at h ⊢
      intro H locs ls hP hD hS hl
      exact lv_iadd hx hb hdg (h H locs ls hP hD hS hl)
    case isub =>
      replace h := mm_2_el h
      obtain ⟨x, y, r, rfl, h⟩ := h
      rw [hVd] at h ⊢
      intro H locs ls hP hD hS hl
      exact lv_isub hx hb hdg (h H locs ls hP hD hS hl)
    case imul =>
      replace h := mm_2_el h
      obtain ⟨x, y, r, rfl, h⟩ := h
      rw [hVd] at h ⊢
      intro H locs ls hP hD hS hl
      exact lv_imul hx hb hdg (h H locs ls hP hD hS hl)
    case iand =>
      replace h := mm_2_el h
      obtain ⟨x, y, r, rfl, h⟩ := h
      rw [hVd] at h ⊢
      intro H locs ls hP hD hS hl
      exact lv_iand hx hb hdg (h H locs ls hP hD hS hl)
    case ior =>
      replace h := mm_2_el h
      obtain ⟨x, y, r, rfl, h⟩ := h
      rw [hVd] at h ⊢
      intro H locs ls hP hD hS hl
      exact lv_ior hx hb hdg (h H locs ls hP hD hS hl)
    case ixor =>
      replace h := mm_2_el h
      obtain ⟨x, y, r, rfl, h⟩ := h
      rw [hVd] at h ⊢
      intro H locs ls hP hD hS hl
      exact lv_ixor hx hb hdg (h H locs ls hP hD hS hl)
    case ishl =>
      replace h := mm_2_el h
      obtain ⟨x, y, r, rfl, h⟩ := h
      rw [hVd] at h ⊢
      intro H locs ls hP hD hS hl
      exact lv_ishl hx hb hdg (h H locs ls hP hD hS hl)
    case ishr =>
      replace h := mm_2_el h
      obtain ⟨x, y, r, rfl, h⟩ := h
      rw [hVd] at h ⊢
      intro H locs ls hP hD hS hl
      exact lv_ishr hx hb hdg (h H locs ls hP hD hS hl)
    case iushr =>
      replace h := mm_2_el h
      obtain ⟨x, y, r, rfl, h⟩ := h
      rw [hVd] at h ⊢
      intro H locs ls hP hD hS hl
      exact lv_iushr hx hb hdg rfl (h H locs ls hP hD hS hl)
    case idiv =>
      replace h := mm_2_el h
      obtain ⟨x, y, r, rfl, hne, h⟩ := h
      rw [hVd] at h ⊢
      intro H locs ls hP hD hS hl
      exact lv_idiv hx hb hdg hne (h H locs ls hP hD hS hl)
    case irem =>
      replace h := mm_2_el h
      obtain ⟨x, y, r, rfl, hne, h⟩ := h
      rw [hVd] at h ⊢
      intro H locs ls hP hD hS hl
      exact lv_irem hx hb hdg hne (h H locs ls hP hD hS hl)
    case dup =>
      replace h := mm_d1_el h
      obtain ⟨v, r, rfl, hv, h⟩ := h
      rw [hVd] at h ⊢
      intro H locs ls hP hD hS hl
      exact lv_dup hx hb hdg (by rw [mm_rho_cat]; exact hv) (h H locs ls hP hD hS hl)
    case dup2 =>
      replace h := mm_d2_el h
      obtain ⟨v, w, r, rfl, hv, hw, h⟩ := h
      rw [hVd] at h ⊢
      intro H locs ls hP hD hS hl
      exact lv_dup2_11 hx hb hdg (by rw [mm_rho_cat]; exact hv) (by rw [mm_rho_cat]; exact hw) (h H locs ls hP hD hS hl)
    case pop =>
      replace h := mm_d1_el h
      obtain ⟨v, r, rfl, hv, h⟩ := h
      rw [hVd] at h ⊢
      intro H locs ls hP hD hS hl
      exact lv_pop hx hb hdg (by rw [mm_rho_cat]; exact hv) (h H locs ls hP hD hS hl)
    case iaload =>
      replace h := mm_ir_el h
      obtain ⟨j, k, r, rfl, hia, h⟩ := h
      obtain ⟨n, fs, hkd, hin⟩ := mm_ia_el hia
      rw [hVd] at h ⊢
      intro H locs ls hP hD hS hl
      have he : (mm_wd ad (cI, cZ, cG) Y σ)[k]? = some (ad k, .inl (cI, n, .inl (σ k))) := by
        rw [mm_wd_get (mm_kd_lt (by rw [hkd]; exact fun z => nomatch z))]; simp only [mm_ce, hkd]
      exact va_iald hx hb hK hP k 0 he htI hin hdg (h H locs ls hP hD hS hl)
    case baload =>
      replace h := mm_ir_el h
      obtain ⟨j, k, r, rfl, hia, h⟩ := h
      obtain ⟨n, fs, hkd, hin⟩ := mm_za_el hia
      rw [hVd] at h ⊢
      intro H locs ls hP hD hS hl
      have he : (mm_wd ad (cI, cZ, cG) Y σ)[k]? = some (ad k, .inl (cZ, n, .inl (σ k))) := by
        rw [mm_wd_get (mm_kd_lt (by rw [hkd]; exact fun z => nomatch z))]; simp only [mm_ce, hkd]
      exact va_zald hx hb hK hP k 1 he htZ hin hdg (h H locs ls hP hD hS hl)
    case aaload =>
      replace h := mm_ir_el h
      obtain ⟨j, k, r, rfl, hia, h⟩ := h
      obtain ⟨n, fs, hkd, hin⟩ := mm_ga_el hia
      rw [hVd] at h ⊢
      intro H locs ls hP hD hS hl
      have he : (mm_wd ad (cI, cZ, cG) Y σ)[k]? = some (ad k, .inl (cG, n, .inr (.inr (.inr (.inr (fun j => if j < n then some (ad (k + 1 + j)) else none)))))) := by
        rw [mm_wd_get (mm_kd_lt (by rw [hkd]; exact fun z => nomatch z))]; simp only [mm_ce, hkd]
      have hjn : j.toNatClampNeg < n := Nat.not_le.mp fun q => hin (Or.inr q)
      refine mm_aald hx hb hK hP k 2 he htG hin hdg ?_
      simp only [hjn, if_true]
      exact h H locs ls hP hD hS hl
    case iastore =>
      replace h := mm_iir_el h
      obtain ⟨x, j, k, r, rfl, hia, h⟩ := h
      obtain ⟨n, fs, hkd, hin⟩ := mm_ia_el hia
      rw [hVd] at h ⊢
      intro H locs ls hP hD hS hl
      have he : (mm_wd ad (cI, cZ, cG) Y σ)[k]? = some (ad k, .inl (cI, n, .inl (σ k))) := by
        rw [mm_wd_get (mm_kd_lt (by rw [hkd]; exact fun z => nomatch z))]; simp only [mm_ce, hkd]
      have hst : (mm_wd ad (cI, cZ, cG) Y σ).set k (ad k, .inl (cI, n, .inl (upd (σ k) j.toNatClampNeg x))) = mm_wd ad (cI, cZ, cG) Y (mm_up σ k j.toNatClampNeg x) := by
        refine mm_wd_set ?_
        simp only [mm_ce, hkd, mm_up_eq]
      refine va_iast hx hb hK hP hD hS k 0 he htI hin hdg (fun H1 locs1 hP1 hD1 hS1 => ?_)
      rw [hst] at hP1 hD1
      exact h H1 locs1 ls hP1 hD1 hS1 hl
    case bastore =>
      replace h := mm_iir_el h
      obtain ⟨x, j, k, r, rfl, hia, h⟩ := h
      obtain ⟨n, fs, hkd, hin⟩ := mm_za_el hia
      rw [hVd] at h ⊢
      intro H locs ls hP hD hS hl
      have he : (mm_wd ad (cI, cZ, cG) Y σ)[k]? = some (ad k, .inl (cZ, n, .inl (σ k))) := by
        rw [mm_wd_get (mm_kd_lt (by rw [hkd]; exact fun z => nomatch z))]; simp only [mm_ce, hkd]
      have hst : (mm_wd ad (cI, cZ, cG) Y σ).set k (ad k, .inl (cZ, n, .inl (upd (σ k) j.toNatClampNeg (vp_nar .boolean x)))) = mm_wd ad (cI, cZ, cG) Y (mm_up σ k j.toNatClampNeg (vp_nar .boolean x)) := by
        refine mm_wd_set ?_
        simp only [mm_ce, hkd, mm_up_eq]
      refine va_zast hx hb hK hP hD hS k 1 he htZ hin hdg (fun H1 locs1 hP1 hD1 hS1 => ?_)
      rw [hst] at hP1 hD1
      exact h H1 locs1 ls hP1 hD1 hS1 hl
    case getfield idx =>
      replace h := mm_r_el h
      obtain ⟨k, r, rfl, h⟩ := h
      replace h := mm_gv_el h
      obtain ⟨ci, j, fs, hlk, hkd, h⟩ := h
      obtain ⟨C0, T, N, hc, hj, hin, hli⟩ := hg idx ci j hlk
      have he : (mm_wd ad (cI, cZ, cG) Y σ)[k]? = some (ad k, .inr (ci, mm_fv ad (σ k) 0 fs)) := by
        rw [mm_wd_get (mm_kd_lt (by rw [hkd]; exact fun z => nomatch z))]; simp only [mm_ce, hkd]
      rcases h with ⟨q, hf, h⟩ | ⟨hf, h⟩
      · rw [hVd] at h ⊢
        intro H locs ls hP hD hS hl
        exact va_get (D := D) (ref := (T j).1) hx hb hts hin hown hK hP k he hc j hj (hts _ hli) (fun _ z => z) (mm_fv_ref ad (σ k) fs 0 j q hf) hdg (h H locs ls hP hD hS hl)
      · rw [hVd] at h ⊢
        intro H locs ls hP hD hS hl
        have hv := mm_fv_int ad (σ k) fs 0 j hf
        rw [Nat.zero_add] at hv
        exact va_get (D := D) (ref := (T j).1) hx hb hts hin hown hK hP k he hc j hj (hts _ hli) (fun _ z => z) hv hdg (h H locs ls hP hD hS hl)
    case putfield idx =>
      replace h := mm_ir_el h
      obtain ⟨x, k, r, rfl, h⟩ := h
      replace h := mm_pv_el h
      obtain ⟨ci, j, fs, hlk, hkd, hf, hz, h⟩ := h
      obtain ⟨C0, T, N, ty, hc, hj, hin, hli, hty, hnm, hfin, hd⟩ := hp idx ci j hlk
      have he : (mm_wd ad (cI, cZ, cG) Y σ)[k]? = some (ad k, .inr (ci, mm_fv ad (σ k) 0 fs)) := by
        rw [mm_wd_get (mm_kd_lt (by rw [hkd]; exact fun z => nomatch z))]; simp only [mm_ce, hkd]
      have hst : (mm_wd ad (cI, cZ, cG) Y σ).set k (ad k, .inr (ci, (mm_fv ad (σ k) 0 fs).set j (.int x))) = mm_wd ad (cI, cZ, cG) Y (mm_up σ k j x) := by
        refine mm_wd_set ?_
        simp only [mm_ce, hkd, mm_up_eq]
        have q := mm_fv_set ad x fs (σ k) 0 j hf
        rw [Nat.zero_add] at q
        rw [q]
      rw [hVd] at h ⊢
      intro H locs ls hP hD hS hl
      have hnf : narrow (match mm_isZ Y ci j with | true => FieldType.boolean | false => FieldType.int) (.int x) = .int x ∧ fits (match mm_isZ Y ci j with | true => FieldType.boolean | false => FieldType.int) (.int x) = true := by
        cases hz' : mm_isZ Y ci j with
        | false => exact ⟨rfl, rfl⟩
        | true => rcases hz hz' with rfl | rfl <;> exact ⟨rfl, rfl⟩
      refine va_put (D := D) (ref := (T j).1) (v := .int x) hx hb hts hin ty hty hnm hown hK hP hD hS k he hc j hj (hts _ hli) (fun _ z => z) hfin hd hnf.1 hnf.2 (by rw [mm_fv_len]; exact mm_nth_lt hf) hdg (fun H1 locs1 hP1 hD1 hS1 => ?_)
      rw [hst] at hP1 hD1
      exact h H1 locs1 ls hP1 hD1 hS1 hl
    case ldc_w idx =>
      replace h := (hVd (pc + 3) L (.int cs :: S) σ).mp h
      rw [hVd]
      intro H locs ls hP hD hS hl
      exact lv_ldcw hx hb hown (hts _ (hld pc idx len t cs hI)) hdg (h H locs ls hP hD hS hl)
    case goto off =>
      replace h := (hVd t L S σ).mp h
      rw [hVd]
      intro H locs ls hP hD hS hl
      exact lv_goto hx hb hdg (of_decide_eq_true hcst) (h H locs ls hP hD hS hl)
    case ifCond cd off =>
      replace h := mm_1_el h
      obtain ⟨x, r, rfl, h⟩ := h
      have ht : (pc : Int) + off = (t : Int) := of_decide_eq_true hcst
      rw [hVd]
      intro H locs ls hP hD hS hl
      cases cd
      · exact lv_if_eq hx hb hdg ht (fun q => (hVd _ _ _ _).mp (h.1 q) H locs ls hP hD hS hl) (fun q => (hVd _ _ _ _).mp (h.2 q) H locs ls hP hD hS hl)
      · exact lv_if_ne hx hb hdg ht (fun q => (hVd _ _ _ _).mp (h.2 q) H locs ls hP hD hS hl) (fun q => (hVd _ _ _ _).mp (h.1 q) H locs ls hP hD hS hl)
      · exact lv_if_lt hx hb hdg ht (fun q => (hVd _ _ _ _).mp (h.1 q) H locs ls hP hD hS hl) (fun q => (hVd _ _ _ _).mp (h.2 q) H locs ls hP hD hS hl)
      · exact lv_if_ge hx hb hdg ht (fun q => (hVd _ _ _ _).mp (h.1 q) H locs ls hP hD hS hl) (fun q => (hVd _ _ _ _).mp (h.2 q) H locs ls hP hD hS hl)
      · exact lv_if_gt hx hb hdg ht (fun q => (hVd _ _ _ _).mp (h.1 q) H locs ls hP hD hS hl) (fun q => (hVd _ _ _ _).mp (h.2 q) H locs ls hP hD hS hl)
      · exact lv_if_le hx hb hdg ht (fun q => (hVd _ _ _ _).mp (h.1 q) H locs ls hP hD hS hl) (fun q => (hVd _ _ _ _).mp (h.2 q) H locs ls hP hD hS hl)
    case if_icmp cd off =>
      replace h := mm_2_el h
      obtain ⟨x, y, r, rfl, h⟩ := h
      have ht : (pc : Int) + off = (t : Int) := of_decide_eq_true hcst
      rw [hVd]
      intro H locs ls hP hD hS hl
      cases cd
      · exact lv_icmp_eq hx hb hdg ht (fun q => (hVd _ _ _ _).mp (h.1 q) H locs ls hP hD hS hl) (fun q => (hVd _ _ _ _).mp (h.2 q) H locs ls hP hD hS hl)
      · exact lv_icmp_ne hx hb hdg ht (fun q => (hVd _ _ _ _).mp (h.2 q) H locs ls hP hD hS hl) (fun q => (hVd _ _ _ _).mp (h.1 q) H locs ls hP hD hS hl)
      · exact lv_icmp_lt hx hb hdg ht (fun q => (hVd _ _ _ _).mp (h.1 q) H locs ls hP hD hS hl) (fun q => (hVd _ _ _ _).mp (h.2 q) H locs ls hP hD hS hl)
      · exact lv_icmp_ge hx hb hdg ht (fun q => (hVd _ _ _ _).mp (h.1 q) H locs ls hP hD hS hl) (fun q => (hVd _ _ _ _).mp (h.2 q) H locs ls hP hD hS hl)
      · exact lv_icmp_gt hx hb hdg ht (fun q => (hVd _ _ _ _).mp (h.1 q) H locs ls hP hD hS hl) (fun q => (hVd _ _ _ _).mp (h.2 q) H locs ls hP hD hS hl)
      · exact lv_icmp_le hx hb hdg ht (fun q => (hVd _ _ _ _).mp (h.1 q) H locs ls hP hD hS hl) (fun q => (hVd _ _ _ _).mp (h.2 q) H locs ls hP hD hS hl)
    case invokevirtual idx => exact hc1 pc idx L S σ hdg h
    case invokestatic idx => exact hc0 pc idx L S σ hdg h
    case tableswitch dflt lo hi offs =>
      replace h := mm_1_el h
      obtain ⟨x, r, rfl, h⟩ := h
      rcases mm_sw_el h hcst with ⟨t9, h1, h2, h⟩ | ⟨off, t9, h1, h2, h3, h4, h⟩
      · rw [hVd] at h ⊢
        intro H locs ls hP hD hS hl
        exact lv_tableOut hx hb hdg h1 h2 (h H locs ls hP hD hS hl)
      · rw [hVd] at h ⊢
        intro H locs ls hP hD hS hl
        exact lv_tableIn hx hb hdg h1 h2 h3 h4 (h H locs ls hP hD hS hl)
    case ireturn =>
      replace h := mm_rt_el h
      obtain ⟨v, rfl, hq, hm⟩ := h
      rw [hVd]
      intro H locs ls hP hD hS hl
      rcases hm with hm | ⟨hm, hv⟩
      · rw [hm] at hr
        exact mx_mono hQf <| W.iret hx hb hr (fun t ht hW => ⟨⟨some (.int v), σ, hq, rfl, by rw [ht]; exact hP, hD, va_K.moved hW.alike hK⟩, hS.F ht⟩) hS.2.2 hdg
      · rw [hm] at hr
        exact mx_mono hQf <| W.zret (ty := .boolean) hx hb hr (by rcases hv with rfl | rfl <;> rfl) (fun t ht hW => ⟨⟨some (.int v), σ, hq, rfl, by rw [ht]; exact hP, hD, va_K.moved hW.alike hK⟩, hS.F ht⟩) hS.2.2 hdg
    case return_ =>
      replace h := mm_rv_el h
      obtain ⟨rfl, hq, hm⟩ := h
      rw [hVd]
      intro H locs ls hP hD hS hl
      rw [hm] at hr
      exact mx_mono hQf <| W.vret hx hb hr (fun t ht hW => ⟨⟨none, σ, hq, rfl, by rw [ht]; exact hP, hD, va_K.moved hW.alike hK⟩, hS.F ht⟩) hS.2.2 hdg
    all_goals exact h.elim
end MMstep
end
section
/-! Calls: the small machine's calls are the machine's, by depth -/
theorem mm_pop_el : ∀ (n : Nat) (acc S as r : List Value), mm_pop n acc S = some (as, r) → ∃ t : List Value, t.length = n ∧ S = t ++ r ∧ as = t.reverse ++ acc
  | 0, acc, S, as, r, h => by
    simp only [mm_pop, Option.some.injEq, Prod.mk.injEq] at h
    obtain ⟨rfl, rfl⟩ := h
    exact ⟨[], rfl, rfl, rfl⟩
  | n + 1, acc, [], as, r, h => by simp [mm_pop] at h
  | n + 1, acc, v :: S, as, r, h => by
    obtain ⟨t, h1, h2, h3⟩ := mm_pop_el n (v :: acc) S as r h
    exact ⟨v :: t, by simp [h1], by simp [h2], by simp [h3]⟩
theorem mm_call_el {Y : mm_Y} {C : mm_C} {M : mm_M} {idx self : Nat} {S : List Value} {σ : mm_S} {K : List Value → mm_S → Prop} (h : mm_call Y C M idx self S σ K) :
    ∃ y n ci as r, mm_look M.2.2.2.1 idx = some (y, n, ci) ∧ S = as.reverse ++ r ∧ as.length = n + self ∧ mm_c1 8 r = true ∧ mm_rcv Y self ci as = true ∧ C y as σ (fun v σ' => K (v.toList ++ r) σ') := by
  unfold mm_call at h
  split at h
  · rename_i y n ci hl
    split at h
    · rename_i as r hp
      split at h
      · rename_i hb
        obtain ⟨t, h1, h2, h3⟩ := mm_pop_el _ _ _ _ _ hp
        rw [Bool.and_eq_true] at hb
        rw [List.append_nil] at h3
        exact ⟨y, n, ci, as, r, hl, by rw [h2, h3, List.reverse_reverse], by rw [h3, List.length_reverse, h1], hb.1, hb.2, h⟩
      · exact h.elim
    · exact h.elim
  · exact h.elim
theorem mm_cat_le (ad : Nat → Nat) : ∀ (r : List Value), (∀ v ∈ r, v.category = 1) → ((r.map (mm_rho ad)).map fun v => v.category).sum = r.length
  | [], _ => rfl
  | v :: r, h => by
    have q := mm_cat_le ad r (fun w hw => h w (List.mem_cons_of_mem _ hw))
    simp only [List.map_cons, List.sum_cons, q, mm_rho_cat, h v List.mem_cons_self, List.length_cons]
    omega
theorem mm_c1_el {n : Nat} {r : List Value} (h : mm_c1 n r = true) : r.length ≤ n ∧ ∀ v ∈ r, v.category = 1 := by
  unfold mm_c1 at h
  rw [Bool.and_eq_true] at h
  refine ⟨Nat.le_of_ble_eq_true h.1, fun v hv => ?_⟩
  have q := List.all_eq_true.mp h.2 v hv
  cases v <;> first | rfl | cases q
theorem mm_sl_len : ∀ (vs : List Value), (∀ v ∈ vs, v.category = 1) → (lg_sl vs).length = vs.length
  | [], _ => rfl
  | v :: vs, h => by
    have q := mm_sl_len vs (fun w hw => h w (List.mem_cons_of_mem _ hw))
    have hv := h v List.mem_cons_self
    unfold lg_sl at q ⊢
    simp only [List.flatMap_cons, List.length_append, q, List.length_cons, hv]
    simp
    omega
theorem mm_args_ll (ad : Nat → Nat) : ∀ (as : List Value) (i k : Nat), (∀ v ∈ as, v.category = 1) → mm_ll ad i (as.map some ++ List.replicate k none) = lv_args i (as.map (mm_rho ad))
  | [], i, 0, _ => rfl
  | [], i, k + 1, h => by
    have q := mm_args_ll ad [] (i + 1) k h
    simp only [List.map_nil, List.nil_append] at q ⊢
    rw [List.replicate_succ]
    simp only [mm_ll, q]
    rfl
  | v :: as, i, k, h => by
    have q := mm_args_ll ad as (i + 1) k (fun w hw => h w (List.mem_cons_of_mem _ hw))
    simp only [List.map_cons, List.cons_append, mm_ll, lv_args, q, mm_rho_cat, h v List.mem_cons_self]
    rfl
theorem mm_nth_ent {as : List Value} {k i : Nat} {v : Value} (h : mm_nth (as.map some ++ List.replicate k none) i = some (some v)) : v ∈ as := by
  rw [mm_nth_eq] at h
  by_cases hi : i < (as.map some).length
  · rw [List.getElem?_append_left hi, List.getElem?_map] at h
    cases e : as[i]? with
    | none => rw [e] at h; cases h
    | some w =>
      rw [e] at h
      simp only [Option.map_some, Option.some.injEq] at h
      subst h
      exact List.mem_of_getElem? e
  · rw [List.getElem?_append_right (by omega), List.getElem?_replicate] at h
    split at h <;> cases h
def mm_ws (Ts : List Cond) (nm : Nat → MethodName) (by_ : Nat → ByteArray) (mx : Nat → Nat) (Y : mm_Y) (y : Nat) : List Cond := .code (nm y) (by_ y) (mx y) (mm_rty (mm_me Y y).2.2.2.2) :: Ts
def mm_rm (d : Nat) : Room := { frames := d, cells := 0, slots := 0, locals := 40 * d }
/-- a static table that nobody writes: cell 202 -/
def mm_tab (j : Nat) : Value := .int ((mm_nth [(2 : Int32), 0, 3, 1] j).getD 0)
def mm_G (ad : Nat → Nat) (A : Nat → Prop) (U : State) (H : Heap) : Prop := va_Z "HouseDesk$Layout" "DIRECTION" "[I" (.ref (ad 202)) A U H ∧ va_T .int (ad 202) 4 mm_tab A U H
theorem mm_G.moved {ad : Nat → Nat} {A : Nat → Prop} {u U : State} {H : Heap} (hvm : u.vm.Alike U.vm) (h : mm_G ad A u H) : mm_G ad A U H := ⟨h.1.moved hvm, h.2.moved hvm⟩
theorem mm_G.kept {ad : Nat → Nat} {A : Nat → Prop} {U : State} {H H1 : Heap} (h : mm_G ad A U H) (hq : ∀ a : Nat, a < H.size → ¬ A a → H1[a]? = H[a]?) : mm_G ad A U H1 := ⟨h.1.kept hq, h.2.kept hq⟩
theorem mm_G.narrow {ad : Nat → Nat} {A B : Nat → Prop} {U : State} {H : Heap} (h : mm_G ad A U H) (hAB : ∀ q, B q → A q) : mm_G ad B U H := ⟨h.1.narrow hAB, h.2.narrow hAB⟩
def mm_B (D : va_G) (cl : List vw_C) (tys : List (ClassId × FieldType)) (ad : Nat → Nat) (a3 : ClassId × ClassId × ClassId) (Y : mm_Y) (σ : mm_S) (sz : Nat) : State → Prop := fun U =>
  U.heap.size = sz ∧ va_P D cl (mm_wd ad a3 Y σ) U.heap ∧ va_K D cl tys U ∧ va_D (fun _ => True) (mm_wd ad a3 Y σ) ∧ mm_G ad (va_A (mm_wd ad a3 Y σ) sz) U U.heap
/-- a method's contract: from the cells σ, with the arguments as, it comes to an end with Q -/
def mm_T (l : Launch) (Ts : List Cond) (nm : Nat → MethodName) (by_ : Nat → ByteArray) (mx : Nat → Nat) (D : va_G) (cl : List vw_C) (tys : List (ClassId × FieldType)) (ad : Nat → Nat) (a3 : ClassId × ClassId × ClassId) (Y : mm_Y) (d y : Nat) (as : List Value) (σ : mm_S) (Q : mm_Q) : Prop :=
  ∀ sz, Met l (nm y) (mm_ws Ts nm by_ mx Y y) (mm_rm d) (va_Pc (as.map (mm_rho ad)) (mm_B D cl tys ad a3 Y σ sz)) (mm_Qc D cl tys (va_A (mm_wd ad a3 Y σ) sz) ad a3 Y Q) 0 0 (va_A (mm_wd ad a3 Y σ) sz)
theorem mm_A_in {ad : Nat → Nat} {a3 : ClassId × ClassId × ClassId} {Y : mm_Y} {σ σ' : mm_S} {n n' q : Nat} (h : va_A (mm_wd ad a3 Y σ) n q) (hn : n' ≤ n) : va_A (mm_wd ad a3 Y σ') n' q := by
  rcases h with ⟨k, e, h⟩ | h
  · left
    unfold mm_wd at h ⊢
    rw [List.getElem?_map] at h
    cases hr : (List.range Y.1.length)[k]? with
    | none => rw [hr] at h; cases h
    | some j =>
      rw [hr] at h
      simp only [Option.map_some, Option.some.injEq, Prod.mk.injEq] at h
      refine ⟨k, mm_ce ad a3 Y σ' j, ?_⟩
      rw [List.getElem?_map, hr, Option.map_some, h.1]
  · right; omega
section MMcall
variable {p : Program} {l : Launch} {e : Env} {R : Room} {s : State} {m : MethodId} {args : Array Value} {below : List Frame} {meth : Method} {c : Code} {D : va_G} {cl : List vw_C} {A A1 : Nat → Prop} {ad : Nat → Nat} {a3 : ClassId × ClassId × ClassId} {Y : mm_Y} {nL : Nat} {Q' : mm_Q} {Qf : State → Prop} {cc : ByteArray} {Ts : List Cond} {own : String} {tys : List (ClassId × FieldType)} {H : Heap} {locs : List Loc} {pc : Nat} {ls : Array Slot} {st0 rest : List Value} {arr : Array Value}
/-- behind a call -/
theorem mm_goon (hr : va_Run p l e R s m args below meth c H locs 0 0 0 0 (F0 m pc ls st0) rest (mm_Qc D cl tys A1 ad a3 Y Q' arr) A1) (hS : va_S A s.heap H locs) (hA1 : ∀ q, A1 q → A q)
    (kk : ∀ (v : Option Value) (σ' : mm_S) (H1 : Heap) (locs1 : List Loc), Q' v σ' → va_P D cl (mm_wd ad a3 Y σ') H1 → va_D A (mm_wd ad a3 Y σ') → va_S A s.heap H1 locs1 → W p l e R s m args below meth c H1 locs1 0 0 Qf (F0 m (pc + 3) ls ((v.map (mm_rho ad)).toList ++ rest))) :
    W p l e R s m args below meth c H locs 0 0 Qf (F0 m pc ls st0) := by
  intro T hT X
  obtain ⟨v, st₀, t, T', L, h0, X', hL, e1, e2, ⟨⟨v', σ', hq, hv, hP1, hD1, hK1⟩, hz, hk⟩, st⟩ := hr T hT X
  cases hv
  rw [h0] at hz hk
  rw [← e1] at hP1 hz hk
  obtain ⟨t2, a1, b1⟩ := kk v' σ' T'.heap (locs ++ L) hq hP1 (hD1.weaken (fun _ _ _ h => hA1 _ h))
    ⟨Nat.le_trans hS.1 hz, fun q h1 h2 => by rw [hk q (Nat.lt_of_lt_of_le h1 hS.1) (fun z => h2 (hA1 q z))]; exact hS.2.1 q h1 h2, fun q hq => by
      rcases List.mem_append.mp hq with h | h
      · exact hS.2.2 q h
      · exact hA1 _ (hL q h)⟩ T' rfl X'
  exact ⟨t2, st t2 a1, b1⟩
end MMcall
end
section
/-! The small machine's contracts hold of the machine -/
def mm_kok (Ts : List Cond) (nm : Nat → MethodName) (by_ : Nat → ByteArray) (mx : Nat → Nat) (cl : List vw_C) (Y : mm_Y) (own : String) (q : Nat × Nat × Nat × Nat) : Prop :=
  mx q.2.1 ≤ 21 ∧ Cond.code (nm q.2.1) (by_ q.2.1) (mx q.2.1) (mm_rty (mm_me Y q.2.1).2.2.2.2) ∈ Ts ∧ Cond.methodLink own q.1 (nm q.2.1) ∈ Ts ∧ Cond.initialized (nm q.2.1).cls ∈ Ts ∧
  ((nm q.2.1).cls ≠ "java/lang/invoke/MethodHandle" ∧ (nm q.2.1).cls ≠ "java/lang/invoke/VarHandle" ∧ (parseMethodDescriptor (nm q.2.1).desc).map (fun d => d.parameters.length) = some q.2.2.1) ∧
  (q.2.2.2 = 99 → Cond.static (nm q.2.1) ∈ Ts) ∧ (q.2.2.2 ≠ 99 → Cond.instanceMethod (nm q.2.1) ∈ Ts ∧ Cond.selects (nm q.2.1).cls (nm q.2.1) (nm q.2.1) ∈ Ts ∧ ∃ T N, cl[q.2.2.2]? = some ((nm q.2.1).cls, T, N))
def mm_ok (Ts : List Cond) (nm : Nat → MethodName) (by_ : Nat → ByteArray) (mx : Nat → Nat) (cl : List vw_C) (Y : mm_Y) (y : Nat) : Prop :=
  plainName (nm y).cls = true ∧ (mm_me Y y).1.all (mm_okE (by_ y)) = true ∧ (∀ q ∈ (mm_me Y y).2.1, mm_gok cl Ts (nm y).cls q.1 q.2.1 q.2.2) ∧ (∀ q ∈ (mm_me Y y).2.2.1, mm_pok Y cl Ts (nm y).cls q.1 q.2.1 q.2.2) ∧
  (∀ q ∈ (mm_me Y y).2.2.2.1, mm_kok Ts nm by_ mx cl Y (nm y).cls q) ∧ (∀ (pc idx len t : Nat) (v : Int32), mm_look (mm_me Y y).1 pc = some (.ldc_w idx, len, t, v) → Cond.constant (nm y).cls idx v ∈ Ts)
theorem mm_rho_toList (ad : Nat → Nat) (v : Option Value) (r : List Value) : (v.map (mm_rho ad)).toList ++ r.map (mm_rho ad) = (v.toList ++ r).map (mm_rho ad) := by cases v <;> simp
theorem mm_rcv_el {Y : mm_Y} {ci : Nat} {as : List Value} (h : mm_rcv Y 1 ci as = true) : ∃ k r fs, as = .ref k :: r ∧ mm_kd Y k = (0, ci, fs) ∧ ci ≠ 99 := by
  unfold mm_rcv at h
  dsimp only at h
  split at h
  · rename_i k r
    split at h
    · rename_i c fs hk
      rw [Bool.and_eq_true] at h
      have hc := Nat.eq_of_beq_eq_true h.1
      subst hc
      refine ⟨k, r, fs, rfl, hk, fun q => ?_⟩
      have h2 := h.2
      rw [q] at h2
      cases h2
    · cases h
  · cases h
theorem mm_W_nil {Y : mm_Y} {C : mm_C} {M : mm_M} {Q : mm_Q} {pc : Nat} {L : List (Option Value)} {S : List Value} {σ : mm_S} (hM : M.1 = []) (h : mm_W Y C M Q pc L S σ) : False := by
  refine h (fun _ _ _ _ => False) (fun pc L S σ q => ?_)
  unfold mm_one at q
  rw [hM] at q
  exact q
section MMsound
variable {l : Launch} {Ts : List Cond} {nm : Nat → MethodName} {by_ : Nat → ByteArray} {mx : Nat → Nat} {D : va_G} {cl : List vw_C} {cI cZ cG : ClassId} {ad : Nat → Nat} {Y : mm_Y} {B : mm_C} {yM ym : Nat}
set_option maxHeartbeats 4000000 in
theorem mm_sound (hgood : ∀ w ∈ Ts, goodWord w = true) (hok : ∀ y, y < Y.2.2.length → (mm_me Y y).1 ≠ [] → mm_ok Ts nm by_ mx cl Y y)
    (hMn : nm yM = Lib.Math.max.name ∧ by_ yM = Lib.Math.max.code ∧ mx yM = 2 ∧ (mm_me Y yM).2.2.2.2 = 1 ∧ (mm_me Y yM).1 = []) (hmn : nm ym = Lib.Math.min.name ∧ by_ ym = Lib.Math.min.code ∧ mx ym = 2 ∧ (mm_me Y ym).2.2.2.2 = 1 ∧ (mm_me Y ym).1 = [])
    (hB : ∀ y as σ Q, B y as σ Q → (y ≠ yM ∧ y ≠ ym ∧ ∀ d, mm_T l Ts nm by_ mx D cl [(cI, .int), (cZ, .boolean), (cG, .array .int)] ad (cI, cZ, cG) Y d y as σ Q) ∨ (y = yM ∧ ∃ x z, as = [.int x, .int z] ∧ Q (some (.int (if x < z then z else x))) σ) ∨ (y ≠ yM ∧ y = ym ∧ ∃ x z, as = [.int x, .int z] ∧ Q (some (.int (if z < x then z else x))) σ)) :
    ∀ d y as σ Q, y ≠ yM → y ≠ ym → mm_D Y B mx d y as σ Q → mm_T l Ts nm by_ mx D cl [(cI, .int), (cZ, .boolean), (cG, .array .int)] ad (cI, cZ, cG) Y d y as σ Q := by
  intro d
  induction d with
  | zero =>
    intro y as σ Q h1 h2 h
    rcases hB y as σ Q h with ⟨-, -, hT⟩ | ⟨hy, -⟩ | ⟨-, hy, -⟩
    · exact hT 0
    · exact absurd hy h1
    · exact absurd hy h2
  | succ d ih =>
    intro y as σ Q hy1 hy2 h
    rcases h with h | ⟨hc, h⟩
    · rcases hB y as σ Q h with ⟨-, -, hT⟩ | ⟨hy, -⟩ | ⟨-, hy, -⟩
      · exact hT _
      · exact absurd hy hy1
      · exact absurd hy hy2
    by_cases hy : y < Y.2.2.length
    case neg =>
      refine (mm_W_nil ?_ h).elim
      unfold mm_me
      cases e : mm_nth Y.2.2 y with
      | none => rfl
      | some q => exact absurd (mm_nth_lt e) hy
    case pos =>
    obtain ⟨hpl, hE, hg, hp, hk, hld⟩ := hok y hy (fun q => mm_W_nil q h)
    obtain ⟨hlen, hcat⟩ := mm_c1_el hc
    intro sz
    refine Met.ofW (cc := by_ y) (maxL := mx y) (ret := mm_rty (mm_me Y y).2.2.2.2) hpl rfl ?_
    intro p e s m args below meth c s₁ B0 hml hv
    obtain ⟨rfl, hsz, hP, hK, hD0, hG0⟩ := hv
    have hx := B0.exec
    have hb := B0.bytes
    have hr := B0.returns
    have hlocks := B0.notSynchronized
    have hts0 := atoms_spec (ws := mm_ws Ts nm by_ mx Y y) B0.pre
    have hts : ∀ w ∈ Ts, w.before (as.map (mm_rho ad)).toArray s = true := fun w hw => hts0 w (List.mem_cons_of_mem _ hw)
    have hown : s.vm.findClass (nm y).cls = some m.cls := findClass_of_methodNamed B0.named
    have hG : ∀ y', Cond.code (nm y') (by_ y') (mx y') (mm_rty (mm_me Y y').2.2.2.2) ∈ Ts → GoodIn Ts (mm_ws Ts nm by_ mx Y y') := fun y' hy' w hw => by
      rcases List.mem_cons.mp hw with h9 | h9
      · subst h9
        exact ⟨hy', good_of_word (hgood _ hy')⟩
      · exact ⟨h9, good_of_word (hgood _ h9)⟩
    subst hsz
    have hD := hD0.self (sz := s.heap.size)
    have hcat' : ∀ v ∈ as.map (mm_rho ad), v.category = 1 := fun v hv => by
      obtain ⟨w, hw, rfl⟩ := List.mem_map.mp hv
      rw [mm_rho_cat]
      exact hcat w hw
    have hl := lv_entry (as.map (mm_rho ad)) (n := mx y) (by rw [mm_sl_len _ hcat', List.length_map]; exact hlen)
    rw [lg_entry_eq]
    generalize (lg_sl (as.map (mm_rho ad)) ++ List.replicate (mx y - (lg_sl (as.map (mm_rho ad))).length) Slot.unset).toArray = ls0 at hl ⊢
    have hlh : mm_lh ad ls0 (mx y) (mm_ent (mx y) as) := by
      refine ⟨?_, ?_, fun k v hk => hcat v (mm_nth_ent hk)⟩
      · unfold mm_ent
        rw [mm_args_ll ad as 0 _ hcat]
        exact hl
      · unfold mm_ent
        rw [List.length_append, List.length_map, List.length_replicate]
        omega
    have hV := h (mm_V p l e (mm_rm (d + 1)) s m (as.map (mm_rho ad)).toArray below meth c D cl (va_A (mm_wd ad (cI, cZ, cG) Y σ) s.heap.size) ad (cI, cZ, cG) Y (mx y) (MQ below (mm_Qc D cl [(cI, .int), (cZ, .boolean), (cG, .array .int)] (va_A (mm_wd ad (cI, cZ, cG) Y σ) s.heap.size) ad (cI, cZ, cG) Y Q) (as.map (mm_rho ad)).toArray s 0 0 (va_A (mm_wd ad (cI, cZ, cG) Y σ) s.heap.size)))
      (mm_step (own := (nm y).cls) (Ts := Ts) (fun _ z => z) hx hb hown hts hK rfl rfl rfl hr hlocks hE (fun idx ci j hq => hg _ (mm_look_mem hq)) (fun idx ci j hq => hp _ (mm_look_mem hq)) hld ?_ ?_)
    · exact hV s.heap [] ls0 hP hD va_S.rf hlh
    · intro pc idx L S σ1 hdg hcall
      obtain ⟨y', n, ci, as', r, hlk, rfl, hln, hc8, hrc, hC⟩ := mm_call_el hcall
      obtain ⟨k, as2, fs, rfl, hkd, hci⟩ := mm_rcv_el hrc
      obtain ⟨hmx, hcode, hlink, hini, hd, -, hvir⟩ := hk _ (mm_look_mem hlk)
      obtain ⟨hinst, hsel, Tc, Nc, hclc⟩ := hvir hci
      obtain ⟨hr8, hrcat⟩ := mm_c1_el hc8
      have hnB : ∀ (Q9 : mm_Q), mm_D Y B mx d y' (.ref k :: as2) σ1 Q9 → y' ≠ yM ∧ y' ≠ ym := by
        intro Q9 h9
        have hbb : ∀ y9, (mm_me Y y9).1 = [] → mm_D Y B mx d y9 (.ref k :: as2) σ1 Q9 → B y9 (.ref k :: as2) σ1 Q9 := by
          intro y9 he h8
          cases d with
          | zero => exact h8
          | succ d => exact h8.elim id (fun h7 => (mm_W_nil he h7.2).elim)
        constructor
        · intro e9
          subst e9
          rcases hB _ _ _ _ (hbb _ hMn.2.2.2.2 h9) with ⟨h7, -⟩ | ⟨-, x, z, h7, -⟩ | ⟨h7, -⟩
          · exact h7 rfl
          · cases h7
          · exact h7 rfl
        · intro e9
          subst e9
          rcases hB _ _ _ _ (hbb _ hmn.2.2.2.2 h9) with ⟨-, h7, -⟩ | ⟨-, x, z, h7, -⟩ | ⟨-, -, x, z, h7, -⟩
          · exact h7 rfl
          · cases h7
          · cases h7
      have hT := ih y' (.ref k :: as2) σ1 _ (hnB _ hC).1 (hnB _ hC).2 hC
      intro H locs ls hP1 hD1 hS1 hl1
      have hM := hT H.size
      have he : (mm_wd ad (cI, cZ, cG) Y σ1)[k]? = some (ad k, .inr (ci, mm_fv ad (σ1 k) 0 fs)) := by
        rw [mm_wd_get (mm_kd_lt (by rw [hkd]; exact fun z => nomatch z))]; simp only [mm_ce, hkd]
      have hstk : ((Value.ref k :: as2).reverse ++ r).map (mm_rho ad) = (as2.map (mm_rho ad)).reverse ++ .ref (ad k) :: r.map (mm_rho ad) := by
        simp [mm_rho]
      rw [hstk]
      refine mm_goon (va_runV (C := (nm y').cls) (b := ad k) (As := as2.map (mm_rho ad)) (rest := r.map (mm_rho ad)) (n := n) ⟨hx, hb, hml, hown, hts⟩ hM ⟨callB_of n hts (hG y' hcode) rfl rfl rfl (hts _ hini) (hts _ hlink) hd ⟨Nat.le_refl _, by show 8 + (mx y' + 11) + 40 * d ≤ 40 * (d + 1); have := hmx; dsimp only at this; omega⟩, hts _ hinst, hts _ hsel⟩
        ⟨fun a U g mk q => by obtain ⟨q0, q1, qP, qK, qD, qG⟩ := q; exact ⟨q0, q1, qP, va_K.moved (u := U) (U := U.calling g mk a) (Vm.Alike.refl U.vm) qK, qD, mm_G.moved (u := U) (U := U.calling g mk a) (Vm.Alike.refl U.vm) qG⟩, va_recv hK hP1 hclc he, fun U hU hW => ⟨rfl, by rw [hU], by rw [hU]; exact hP1, va_K.moved hW.alike hK, hD1.weaken (fun _ _ _ _ => trivial), by rw [hU]; exact ((hG0.kept hS1.2.1).narrow (fun q h8 => mm_A_in h8 hS1.1)).moved hW.alike⟩⟩
        rfl (by rw [List.length_map]; simp only [List.length_cons] at hln; omega) hl1.1.1 rfl (lv_room (by rw [mm_cat_le ad r hrcat]; exact hr8)) hdg ⟨Nat.le_refl _, Nat.le_refl _⟩) hS1 (fun q hq => mm_A_in hq hS1.1) (fun v σ' H1 locs1 hq hP2 hD2 hS2 => ?_)
      rw [mm_rho_toList]
      exact hq H1 locs1 ls hP2 hD2 hS2 hl1
    · intro pc idx L S σ1 hdg hcall
      obtain ⟨y', n, ci, as', r, hlk, rfl, hln, hc8, hrc, hC⟩ := mm_call_el hcall
      obtain ⟨hmx, hcode, hlink, hini, hd, hst, -⟩ := hk _ (mm_look_mem hlk)
      obtain ⟨hr8, hrcat⟩ := mm_c1_el hc8
      have h99 : ci = 99 := Nat.eq_of_beq_eq_true hrc
      have hbb : ∀ y9 Q9, (mm_me Y y9).1 = [] → mm_D Y B mx d y9 as' σ1 Q9 → B y9 as' σ1 Q9 := by
        intro y9 Q9 he h8
        cases d with
        | zero => exact h8
        | succ d => exact h8.elim id (fun h7 => (mm_W_nil he h7.2).elim)
      by_cases hyM : y' = yM
      · subst hyM
        rcases hB _ _ _ _ (hbb _ _ hMn.2.2.2.2 hC) with ⟨h7, -⟩ | ⟨-, x, z, rfl, hq⟩ | ⟨h7, -⟩
        · exact absurd rfl h7
        · intro H locs ls hP1 hD1 hS1 hl1
          have hq' := hq H locs ls hP1 hD1 hS1 hl1
          have hst' := hts _ (hst h99)
          have hlink' := hts _ hlink
          have hini' := hts _ hini
          have hcode' := hts _ hcode
          dsimp only at hst' hlink' hini' hcode'
          rw [hMn.1] at hst' hlink' hini'
          rw [hMn.1, hMn.2.1, hMn.2.2.1, hMn.2.2.2.1] at hcode'
          exact va_mmax hx hb (hml.trans hl1.1.1.symm) hown hlink' hst' hini' hcode' (Nat.succ_le_succ (Nat.zero_le _)) (by show ((r.map (mm_rho ad)).map fun v => v.category).sum + 13 ≤ 40 * (d + 1); rw [mm_cat_le ad r hrcat]; omega) (Nat.le_refl _) (Nat.le_refl _) hdg hq'
        · exact absurd rfl h7
      by_cases hym : y' = ym
      · subst hym
        rcases hB _ _ _ _ (hbb _ _ hmn.2.2.2.2 hC) with ⟨-, h7, -⟩ | ⟨h7, -⟩ | ⟨-, -, x, z, rfl, hq⟩
        · exact absurd rfl h7
        · exact absurd h7 hyM
        · intro H locs ls hP1 hD1 hS1 hl1
          have hq' := hq H locs ls hP1 hD1 hS1 hl1
          have hst' := hts _ (hst h99)
          have hlink' := hts _ hlink
          have hini' := hts _ hini
          have hcode' := hts _ hcode
          dsimp only at hst' hlink' hini' hcode'
          rw [hmn.1] at hst' hlink' hini'
          rw [hmn.1, hmn.2.1, hmn.2.2.1, hmn.2.2.2.1] at hcode'
          exact va_mmin hx hb (hml.trans hl1.1.1.symm) hown hlink' hst' hini' hcode' (Nat.succ_le_succ (Nat.zero_le _)) (by show ((r.map (mm_rho ad)).map fun v => v.category).sum + 13 ≤ 40 * (d + 1); rw [mm_cat_le ad r hrcat]; omega) (Nat.le_refl _) (Nat.le_refl _) hdg hq'
      have hT := ih y' as' σ1 _ hyM hym hC
      intro H locs ls hP1 hD1 hS1 hl1
      have hM := hT H.size
      have hstk : (as'.reverse ++ r).map (mm_rho ad) = (as'.map (mm_rho ad)).reverse ++ r.map (mm_rho ad) := by simp
      rw [hstk]
      refine mm_goon (va_runS (As := as'.map (mm_rho ad)) (rest := r.map (mm_rho ad)) (n := n) ⟨hx, hb, hml, hown, hts⟩ hM ⟨callB_of n hts (hG y' hcode) rfl rfl rfl (hts _ hini) (hts _ hlink) hd ⟨Nat.le_refl _, by show 8 + (mx y' + 11) + 40 * d ≤ 40 * (d + 1); have := hmx; dsimp only at this; omega⟩, hts _ (hst h99)⟩
        ⟨fun a U g mk q => by obtain ⟨q0, q1, qP, qK, qD, qG⟩ := q; exact ⟨q0, q1, qP, va_K.moved (u := U) (U := U.calling g mk a) (Vm.Alike.refl U.vm) qK, qD, mm_G.moved (u := U) (U := U.calling g mk a) (Vm.Alike.refl U.vm) qG⟩, fun U hU hW => ⟨rfl, by rw [hU], by rw [hU]; exact hP1, va_K.moved hW.alike hK, hD1.weaken (fun _ _ _ _ => trivial), by rw [hU]; exact ((hG0.kept hS1.2.1).narrow (fun q h8 => mm_A_in h8 hS1.1)).moved hW.alike⟩⟩
        rfl (by rw [List.length_map]; omega) hl1.1.1 rfl (lv_room (by rw [mm_cat_le ad r hrcat]; exact hr8)) hdg ⟨Nat.le_refl _, Nat.le_refl _⟩) hS1 (fun q hq => mm_A_in hq hS1.1) (fun v σ' H1 locs1 hq hP2 hD2 hS2 => ?_)
      rw [mm_rho_toList]
      exact hq H1 locs1 ls hP2 hD2 hS2 hl1
end MMsound
end
section
/-! The building machine: constructors, which make cells and lay fields, straight on -/
/-- a cell: (0, class, what its fields hold, _), (1, n, _, f) ints, (2, n, _, f) booleans, (3, n, _, _) n rows at the cells behind it -/
abbrev bm_K : Type := Nat × Nat × List Value × (Nat → Int32)
/-- a constructor: instructions with their numbers; 'new' (pool number, class, fields' first values); fields written (pool number, class, place); calls (pool number, method, how many arguments; method 999: Object's own) -/
abbrev bm_M : Type := List (Nat × ClassFile.Instr × Int32) × List (Nat × Nat × List Value) × List (Nat × Nat × Nat) × List (Nat × Nat × Nat)
def bm_z : Nat → Int32 := fun _ => 0
def bm_rok (N : Nat) (v : Value) : Bool := match v with
  | .ref k => Nat.blt k N
  | _ => true
def bm_cok (N : Nat) (q : bm_K × Nat) : Bool := match q.1 with
  | (0, _, vs, _) => vs.all (bm_rok N)
  | (1, _, _, _) => true
  | (2, _, _, _) => true
  | (_, n, _, _) => Nat.ble (q.2 + 1 + n) N
def bm_lok (N : Nat) (o : Option Value) : Bool := match o with
  | some v => bm_rok N v
  | none => true
def bm_ok (κ : List bm_K) (L : List (Option Value)) (S : List Value) : Bool := κ.zipIdx.all (bm_cok κ.length) && (L.all (bm_lok κ.length) && S.all (bm_rok κ.length))
def bm_cat (v : Value) : Bool := match v with
  | .int _ => true
  | .ref _ => true
  | _ => false
def bm_step (ty : Nat → Nat → FieldType) (M : bm_M) (i : ClassFile.Instr) (c : Int32) (pc : Nat) (L : List (Option Value)) (S : List Value) (κ : List bm_K) : Option (Nat × List (Option Value) × List Value × List bm_K) := match i with
  | .aload_n k => match mm_nth L k.val with
    | some (some (.ref x)) => some (pc + 1, L, .ref x :: S, κ)
    | _ => none
  | .iconst _ => some (pc + 1, L, .int c :: S, κ)
  | .bipush _ => some (pc + 2, L, .int c :: S, κ)
  | .sipush _ => some (pc + 3, L, .int c :: S, κ)
  | .dup => match S with
    | v :: r => match bm_cat v with
      | true => some (pc + 1, L, v :: v :: r, κ)
      | false => none
    | _ => none
  | .new idx => match mm_look M.2.1 idx with
    | some (ci, vs) => match bm_ok κ L S with
      | true => some (pc + 3, L, .ref κ.length :: S, κ ++ [((0, ci, vs, bm_z) : bm_K)])
      | false => none
    | none => none
  | .newarray t => match S with
    | .int n :: r => match bm_ok κ L r && decide (0 ≤ n ∧ n ≤ 1000) with
      | true => match t with
        | .int => some (pc + 2, L, .ref κ.length :: r, κ ++ [((1, n.toNatClampNeg, [], bm_z) : bm_K)])
        | .boolean => some (pc + 2, L, .ref κ.length :: r, κ ++ [((2, n.toNatClampNeg, [], bm_z) : bm_K)])
        | _ => none
      | false => none
    | _ => none
  | .multianewarray _ 2 => match S with
    | .int k :: .int n :: r => match bm_ok κ L r && decide ((0 ≤ n ∧ n ≤ 1000) ∧ (0 ≤ k ∧ k ≤ 1000)) with
      | true => some (pc + 4, L, .ref κ.length :: r, κ ++ (((3, n.toNatClampNeg, [], bm_z) : bm_K) :: List.replicate n.toNatClampNeg ((1, k.toNatClampNeg, [], bm_z) : bm_K)))
      | false => none
    | _ => none
  | .putfield idx => match S with
    | v :: .ref o :: r => match mm_look M.2.2.1 idx with
      | some (ci, j) => match mm_nth κ o with
        | some (0, ci', vs, f) => match Nat.beq ci' ci && (fits (ty ci j) v && (decide (narrow (ty ci j) v = v) && Nat.blt j vs.length)) with
          | true => some (pc + 3, L, r, mm_set κ o (0, ci', mm_set vs j v, f))
          | false => none
        | _ => none
      | none => none
    | _ => none
  | .getfield idx => match S with
    | .ref o :: r => match mm_look M.2.2.1 idx with
      | some (ci, j) => match mm_nth κ o with
        | some (0, ci', vs, _) => match Nat.beq ci' ci with
          | true => match mm_nth vs j with
            | some v => some (pc + 3, L, v :: r, κ)
            | none => none
          | false => none
        | _ => none
      | none => none
    | _ => none
  | .iastore => match S with
    | .int x :: .int j :: .ref o :: r => match mm_nth κ o with
      | some (1, n, vs, f) => match decide (¬ (j < 0 ∨ n ≤ j.toNatClampNeg)) with
        | true => some (pc + 1, L, r, mm_set κ o (1, n, vs, upd f j.toNatClampNeg x))
        | false => none
      | _ => none
    | _ => none
  | _ => none
def bm_run (ty : Nat → Nat → FieldType) (C : Nat → List Value → List bm_K → Option (List bm_K)) (M : bm_M) : Nat → Nat → List (Option Value) → List Value → List bm_K → Option (List bm_K)
  | 0, _, _, _, _ => none
  | n + 1, pc, L, S, κ => match mm_look M.1 pc with
    | none => none
    | some (i, c) => match i with
      | .return_ => match S with
        | [] => some κ
        | _ => none
      | .invokespecial idx => match mm_look M.2.2.2 idx with
        | some (y, na) => match mm_pop (na + 1) [] S with
          | some (.ref o :: as, r) => match mm_c1 8 r with
            | true => match Nat.beq y 999 with
              | true => match as with
                | [] => bm_run ty C M n (pc + 3) L r κ
                | _ => none
              | false => match L.all (bm_lok κ.length) && r.all (bm_rok κ.length) with
                | true => match C y (.ref o :: as) κ with
                  | some κ' => bm_run ty C M n (pc + 3) L r κ'
                  | none => none
                | false => none
            | false => none
          | _ => none
        | none => none
      | i => match bm_step ty M i c pc L S κ with
        | some (pc', L', S', κ') => bm_run ty C M n pc' L' S' κ'
        | none => none
def bm_D (ty : Nat → Nat → FieldType) (Y : List bm_M) (mx : Nat → Nat) : Nat → Nat → List Value → List bm_K → Option (List bm_K)
  | 0, _, _, _ => none
  | d + 1, y, as, κ => match mm_nth Y y with
    | some M => match mm_c1 (mx y) as with
      | true => bm_run ty (bm_D ty Y mx d) M 400 0 (mm_ent (mx y) as) [] κ
      | false => none
    | none => none
def bm_s1 (c : bm_K) : Nat := match c with
  | (0, _, vs, _) => vs.length
  | (_, n, _, _) => n
def bm_sl (κ : List bm_K) : Nat := (κ.map bm_s1).sum
def bm_ce (ad : Nat → Nat) (a3 : ClassId × ClassId × ClassId) (k : Nat) (c : bm_K) : va_E := match c with
  | (0, ci, vs, _) => .inr (ci, vs.map (mm_rho ad))
  | (1, n, _, f) => .inl (a3.1, n, .inl f)
  | (2, n, _, f) => .inl (a3.2.1, n, .inl f)
  | (_, n, _, _) => .inl (a3.2.2, n, .inr (.inr (.inr (.inr (fun j => if j < n then some (ad (k + 1 + j)) else none)))))
def bm_wd (ad : Nat → Nat) (a3 : ClassId × ClassId × ClassId) (κ : List bm_K) : va_W := κ.zipIdx.map (fun q => (ad q.2, bm_ce ad a3 q.2 q.1))
theorem bm_wd_get {ad : Nat → Nat} {a3 : ClassId × ClassId × ClassId} {κ : List bm_K} {k : Nat} {c : bm_K} (h : mm_nth κ k = some c) : (bm_wd ad a3 κ)[k]? = some (ad k, bm_ce ad a3 k c) := by
  rw [mm_nth_eq] at h
  unfold bm_wd
  rw [List.getElem?_map, List.getElem?_zipIdx, h]
  simp
theorem bm_wd_len {ad : Nat → Nat} {a3 : ClassId × ClassId × ClassId} {κ : List bm_K} : (bm_wd ad a3 κ).length = κ.length := by simp [bm_wd]
theorem bm_wd_set {ad : Nat → Nat} {a3 : ClassId × ClassId × ClassId} {κ : List bm_K} {k : Nat} {c : bm_K} (h : k < κ.length) : (bm_wd ad a3 κ).set k (ad k, bm_ce ad a3 k c) = bm_wd ad a3 (mm_set κ k c) := by
  refine List.ext_getElem? fun i => ?_
  rw [List.getElem?_set, bm_wd_len]
  by_cases hk : k = i
  · subst hk
    rw [if_pos rfl, if_pos h, bm_wd_get (c := c) (by rw [mm_nth_set, if_pos rfl, if_pos h])]
  · rw [if_neg hk]
    unfold bm_wd
    rw [List.getElem?_map, List.getElem?_map, List.getElem?_zipIdx, List.getElem?_zipIdx, ← mm_nth_eq, ← mm_nth_eq, mm_nth_set, if_neg (fun e => hk e.symm)]
theorem bm_wd_app {ad : Nat → Nat} {a3 : ClassId × ClassId × ClassId} {κ κ' : List bm_K} : bm_wd ad a3 (κ ++ κ') = bm_wd ad a3 κ ++ (κ'.zipIdx κ.length).map (fun q => (ad q.2, bm_ce ad a3 q.2 q.1)) := by
  unfold bm_wd
  rw [List.zipIdx_append, List.map_append, Nat.zero_add]
/-- the addresses, with those that come -/
def bm_ad (ad : Nat → Nat) (N q : Nat) : Nat → Nat := fun j => if j < N then ad j else q + (j - N)
theorem bm_ad_lt {ad : Nat → Nat} {N q j : Nat} (h : j < N) : bm_ad ad N q j = ad j := if_pos h
theorem bm_ad_ge {ad : Nat → Nat} {N q j : Nat} (h : N ≤ j) : bm_ad ad N q j = q + (j - N) := if_neg (by omega)
theorem bm_rho_ad {ad : Nat → Nat} {N q : Nat} {v : Value} (h : bm_rok N v = true) : mm_rho (bm_ad ad N q) v = mm_rho ad v := by
  cases v with
  | ref k =>
    have hk : k < N := by simpa [bm_rok, Nat.blt_eq] using h
    simp only [mm_rho, bm_ad_lt hk]
  | _ => rfl
theorem bm_map_ad {ad : Nat → Nat} {N q : Nat} {S : List Value} (h : S.all (bm_rok N) = true) : S.map (mm_rho (bm_ad ad N q)) = S.map (mm_rho ad) := by
  apply List.map_congr_left
  intro v hv
  exact bm_rho_ad (List.all_eq_true.mp h v hv)
theorem bm_wd_ad {ad : Nat → Nat} {a3 : ClassId × ClassId × ClassId} {κ : List bm_K} {q : Nat} (h : κ.zipIdx.all (bm_cok κ.length) = true) : bm_wd (bm_ad ad κ.length q) a3 κ = bm_wd ad a3 κ := by
  unfold bm_wd
  apply List.map_congr_left
  intro x hx
  have hc := List.all_eq_true.mp h x hx
  have hi : x.2 < κ.length := by
    have := List.mem_zipIdx' (x := x.1) (i := x.2) hx
    exact this.1
  rw [bm_ad_lt hi]
  obtain ⟨⟨t, n, vs, f⟩, i⟩ := x
  have hi' : i < κ.length := hi
  rcases t with _ | _ | _ | t
  · have hc' : vs.all (bm_rok κ.length) = true := hc
    show (ad i, (Sum.inr (n, vs.map (mm_rho (bm_ad ad κ.length q))) : va_E)) = (ad i, Sum.inr (n, vs.map (mm_rho ad)))
    rw [bm_map_ad hc']
  · rfl
  · rfl
  · have hle : i + 1 + n ≤ κ.length := Nat.le_of_ble_eq_true hc
    have hf : (fun j => if j < n then some (bm_ad ad κ.length q (i + 1 + j)) else none) = (fun j => if j < n then some (ad (i + 1 + j)) else none) := by
      funext j
      by_cases hj : j < n
      · simp only [hj, if_true, bm_ad_lt (show i + 1 + j < κ.length by omega)]
      · simp only [hj, if_false]
    show (ad i, (Sum.inl (a3.2.2, n, .inr (.inr (.inr (.inr (fun j => if j < n then some (bm_ad ad κ.length q (i + 1 + j)) else none))))) : va_E)) = (ad i, Sum.inl (a3.2.2, n, .inr (.inr (.inr (.inr (fun j => if j < n then some (ad (i + 1 + j)) else none))))))
    rw [hf]
theorem bm_lh_ad {ad : Nat → Nat} {ls : Array Slot} {n N q : Nat} {L : List (Option Value)} (hL : L.all (bm_lok N) = true) (h : mm_lh ad ls n L) : mm_lh (bm_ad ad N q) ls n L := by
  obtain ⟨⟨h1, h2, h3⟩, h4, h5⟩ := h
  refine ⟨⟨h1, h2, fun x hx => ?_⟩, h4, h5⟩
  obtain ⟨k, v, rfl, hk⟩ := mm_ll_of (bm_ad ad N q) L 0 x hx
  have hv : bm_rok N v = true := by
    rw [mm_nth_eq] at hk
    have := List.all_eq_true.mp hL _ (List.mem_of_getElem? hk)
    exact this
  rw [bm_rho_ad hv]
  exact h3 _ (mm_ll_mem ad L 0 k v hk)
theorem bm_rho_ag {ad ad' : Nat → Nat} {N : Nat} (hag : ∀ k, k < N → ad' k = ad k) {v : Value} (h : bm_rok N v = true) : mm_rho ad' v = mm_rho ad v := by
  cases v with
  | ref k =>
    have hk : k < N := by simpa [bm_rok, Nat.blt_eq] using h
    simp only [mm_rho, hag k hk]
  | _ => rfl
theorem bm_map_ag {ad ad' : Nat → Nat} {N : Nat} (hag : ∀ k, k < N → ad' k = ad k) {S : List Value} (h : S.all (bm_rok N) = true) : S.map (mm_rho ad') = S.map (mm_rho ad) := by
  apply List.map_congr_left
  intro v hv
  exact bm_rho_ag hag (List.all_eq_true.mp h v hv)
theorem bm_lh_ag {ad ad' : Nat → Nat} {ls : Array Slot} {n N : Nat} (hag : ∀ k, k < N → ad' k = ad k) {L : List (Option Value)} (hL : L.all (bm_lok N) = true) (h : mm_lh ad ls n L) : mm_lh ad' ls n L := by
  obtain ⟨⟨h1, h2, h3⟩, h4, h5⟩ := h
  refine ⟨⟨h1, h2, fun x hx => ?_⟩, h4, h5⟩
  obtain ⟨k, v, rfl, hk⟩ := mm_ll_of ad' L 0 x hx
  have hv : bm_rok N v = true := by
    rw [mm_nth_eq] at hk
    exact List.all_eq_true.mp hL _ (List.mem_of_getElem? hk)
  rw [bm_rho_ag hag hv]
  exact h3 _ (mm_ll_mem ad L 0 k v hk)
theorem bm_sl_app (κ κ' : List bm_K) : bm_sl (κ ++ κ') = bm_sl κ + bm_sl κ' := by simp [bm_sl]
theorem bm_sl_set : ∀ (κ : List bm_K) (o : Nat) (c c' : bm_K), mm_nth κ o = some c → bm_s1 c' = bm_s1 c → bm_sl (mm_set κ o c') = bm_sl κ
  | [], _, _, _, h, _ => by simp [mm_nth] at h
  | a :: r, 0, c, c', h, he => by
    simp only [mm_nth, Option.some.injEq] at h
    subst h
    simp [mm_set, bm_sl, he]
  | a :: r, o + 1, c, c', h, he => by
    have q := bm_sl_set r o c c' h he
    simp only [bm_sl, mm_set, List.map_cons, List.sum_cons] at q ⊢
    rw [q]
theorem bm_sl_rep (n : Nat) (c : bm_K) : bm_sl (List.replicate n c) = n * bm_s1 c := by simp [bm_sl]
theorem bm_step_mono {ty : Nat → Nat → FieldType} {M : bm_M} {i : ClassFile.Instr} {c : Int32} {pc pc' : Nat} {L L' : List (Option Value)} {S S' : List Value} {κ κ' : List bm_K} (h : bm_step ty M i c pc L S κ = some (pc', L', S', κ')) : κ.length ≤ κ'.length ∧ bm_sl κ ≤ bm_sl κ' := by
  unfold bm_step at h
  split at h
  · split at h <;> cases h; exact ⟨Nat.le_refl _, Nat.le_refl _⟩
  · cases h; exact ⟨Nat.le_refl _, Nat.le_refl _⟩
  · cases h; exact ⟨Nat.le_refl _, Nat.le_refl _⟩
  · cases h; exact ⟨Nat.le_refl _, Nat.le_refl _⟩
  · split at h
    · split at h <;> cases h; exact ⟨Nat.le_refl _, Nat.le_refl _⟩
    · cases h
  · split at h
    · split at h <;> cases h
      rw [bm_sl_app, List.length_append]; exact ⟨by omega, by omega⟩
    · cases h
  · split at h
    · split at h
      · split at h <;> cases h
        · rw [bm_sl_app, List.length_append]; exact ⟨by omega, by omega⟩
        · rw [bm_sl_app, List.length_append]; exact ⟨by omega, by omega⟩
      · cases h
    · cases h
  · split at h
    · split at h <;> cases h
      rw [bm_sl_app, List.length_append]; exact ⟨by omega, by omega⟩
    · cases h
  · split at h
    · split at h
      · split at h
        · rename_i hn
          split at h <;> cases h
          rw [mm_set_length, bm_sl_set _ _ _ _ hn (by simp [bm_s1, mm_set_length])]
          exact ⟨Nat.le_refl _, Nat.le_refl _⟩
        · cases h
      · cases h
    · cases h
  · split at h
    · split at h
      · split at h
        · split at h
          · split at h
            · cases h; exact ⟨Nat.le_refl _, Nat.le_refl _⟩
            · cases h
          · cases h
        · cases h
      · cases h
    · cases h
  · split at h
    · split at h
      · rename_i hn
        split at h <;> cases h
        rw [mm_set_length, bm_sl_set _ _ _ _ hn (by simp [bm_s1])]
        exact ⟨Nat.le_refl _, Nat.le_refl _⟩
      · cases h
    · cases h
  · cases h
end
section
/-! The building machine's runs are the machine's -/
theorem bm_run_mono {ty : Nat → Nat → FieldType} {C : Nat → List Value → List bm_K → Option (List bm_K)} {M : bm_M} (hC : ∀ y as κ κ', C y as κ = some κ' → κ.length ≤ κ'.length ∧ bm_sl κ ≤ bm_sl κ') : ∀ (n pc : Nat) (L : List (Option Value)) (S : List Value) (κ κ' : List bm_K), bm_run ty C M n pc L S κ = some κ' → κ.length ≤ κ'.length ∧ bm_sl κ ≤ bm_sl κ'
  | 0, _, _, _, _, _, h => by simp [bm_run] at h
  | n + 1, pc, L, S, κ, κ', h => by
    unfold bm_run at h
    split at h
    · cases h
    · split at h
      · split at h
        · cases h; exact ⟨Nat.le_refl _, Nat.le_refl _⟩
        · cases h
      · split at h
        · split at h
          · split at h
            · split at h
              · split at h
                · exact bm_run_mono hC n _ _ _ _ _ h
                · cases h
              · split at h
                · split at h
                  · rename_i κ1 hc
                    obtain ⟨a1, a2⟩ := hC _ _ _ _ hc
                    obtain ⟨b1, b2⟩ := bm_run_mono hC n _ _ _ _ _ h
                    exact ⟨by omega, by omega⟩
                  · cases h
                · cases h
            · cases h
          · cases h
        · cases h
      · split at h
        · rename_i hs
          obtain ⟨a1, a2⟩ := bm_step_mono hs
          obtain ⟨b1, b2⟩ := bm_run_mono hC n _ _ _ _ _ h
          exact ⟨by omega, by omega⟩
        · cases h
theorem bm_D_mono {ty : Nat → Nat → FieldType} {Y : List bm_M} {mx : Nat → Nat} : ∀ (d y : Nat) (as : List Value) (κ κ' : List bm_K), bm_D ty Y mx d y as κ = some κ' → κ.length ≤ κ'.length ∧ bm_sl κ ≤ bm_sl κ'
  | 0, _, _, _, _, h => by simp [bm_D] at h
  | d + 1, y, as, κ, κ', h => by
    unfold bm_D at h
    split at h
    · split at h
      · exact bm_run_mono (bm_D_mono d) _ _ _ _ _ _ h
      · cases h
    · cases h
def bm_okE (cc : ByteArray) (q : Nat × ClassFile.Instr × Int32) : Bool := decide (decode cc q.1 = .ok (q.2.1, match q.2.1 with | .bipush _ => 2 | .newarray _ => 2 | .sipush _ => 3 | .new _ => 3 | .putfield _ => 3 | .getfield _ => 3 | .invokespecial _ => 3 | .multianewarray _ _ => 4 | _ => 1)) && (match q.2.1 with | .iconst n => decide (Int32.ofInt n = q.2.2) | .bipush n => decide ((Int8.ofInt n).toInt32 = q.2.2) | .sipush n => decide ((Int16.ofInt n).toInt32 = q.2.2) | _ => true)
abbrev bm_Ne : Type := List (String × Nat × MethodName × String)
def bm_N (ne : bm_Ne) (U : State) : Prop := (∀ q ∈ ne, va_Nw (.methodLinkNest q.1 q.2.1 q.2.2.1 q.2.2.2) U) ∧ (Cond.arrayOver (.array .int)).before #[] U = true
theorem bm_N.moved {ne : bm_Ne} {s U : State} (hW : s.WarmedH U.vm) (h : bm_N ne s) : bm_N ne U := by
  refine ⟨fun q hq => va_Nw.warmM hW (h.1 q hq), ?_⟩
  have e := Cond.arrayOver_setVmC (args := #[]) (s := s) hW.alike (.array .int)
  have h2 : (Cond.arrayOver (.array .int)).before #[] (s.setVm U.vm) = true := e.trans h.2
  exact h2
theorem bm_N.same {ne : bm_Ne} {u U : State} (h : u.vm = U.vm) (hN : bm_N ne u) : bm_N ne U := bm_N.moved (by rw [← h]; exact State.WarmedH.refl u) hN
def bm_nok (cl : List vw_C) (Ts : List Cond) (own : String) (q : Nat × Nat × List Value) : Prop := ∃ (C : String) (T : u_T) (N : Nat) (tf : Nat → FieldType), cl[q.2.1]? = some (C, T, N) ∧ q.2.2.length = N ∧ (∀ w ∈ u_ws C T N, w ∈ Ts) ∧ Cond.classLink own q.1 C ∈ Ts ∧ Cond.instantiable C N ∈ Ts ∧ Cond.initialized C ∈ Ts ∧
  (∀ k, k < N → parseFieldDescriptor (T k).2.2.1 = some (tf k)) ∧ (∀ j, j < N → defaultValue (tf j) = vp_V q.2.2 j) ∧ q.2.2.all (bm_rok 0) = true
def bm_pok (ty : Nat → Nat → FieldType) (cl : List vw_C) (Ts : List Cond) (own : String) (q : Nat × Nat × Nat) : Prop := ∃ (C : String) (T : u_T) (N : Nat) (tf : Nat → FieldType), cl[q.2.1]? = some (C, T, N) ∧ q.2.2 < N ∧ (∀ w ∈ u_ws C T N, w ∈ Ts) ∧ Cond.fieldLink own q.1 (T q.2.2).1 (T q.2.2).2.1 (T q.2.2).2.2.1 ∈ Ts ∧
  (∀ k, k < N → parseFieldDescriptor (T k).2.2.1 = some (tf k)) ∧ (∀ a, a < N → ∀ b, b < N → a ≠ b → (T a).2.1 ≠ (T b).2.1) ∧ parseFieldDescriptor (T q.2.2).2.2.1 = some (ty q.2.1 q.2.2) ∧ (T q.2.2).1 = own
def bm_kok (Ts : List Cond) (nm : Nat → MethodName) (by_ : Nat → ByteArray) (mx : Nat → Nat) (ne : bm_Ne) (own : String) (q : Nat × Nat × Nat) : Prop :=
  (q.2.1 = 999 → Cond.methodLink own q.1 Lib.objectInit ∈ Ts ∧ Cond.instanceMethod Lib.objectInit ∈ Ts ∧ Cond.code Lib.objectInit ⟨#[0xb1]⟩ 1 none ∈ Ts) ∧
  (q.2.1 ≠ 999 → mx q.2.1 ≤ 21 ∧ Cond.code (nm q.2.1) (by_ q.2.1) (mx q.2.1) none ∈ Ts ∧ Cond.initialized (nm q.2.1).cls ∈ Ts ∧ Cond.instanceMethod (nm q.2.1) ∈ Ts ∧ (nm q.2.1).name = "<init>" ∧
    ((nm q.2.1).cls ≠ "java/lang/invoke/MethodHandle" ∧ (nm q.2.1).cls ≠ "java/lang/invoke/VarHandle" ∧ (parseMethodDescriptor (nm q.2.1).desc).map (fun d => d.parameters.length) = some q.2.2) ∧
    (Cond.methodLink own q.1 (nm q.2.1) ∈ Ts ∨ ∃ host, (own, q.1, nm q.2.1, host) ∈ ne))
def bm_ws (Ts : List Cond) (nm : Nat → MethodName) (by_ : Nat → ByteArray) (mx : Nat → Nat) (y : Nat) : List Cond := .code (nm y) (by_ y) (mx y) none :: Ts
def bm_rm (d : Nat) (κ κ' : List bm_K) : Room := { frames := d + 1, cells := κ'.length - κ.length, slots := bm_sl κ' - bm_sl κ, locals := 40 * (d + 1) }
def bm_B (D : va_G) (cl : List vw_C) (tys : List (ClassId × FieldType)) (ne : bm_Ne) (ad : Nat → Nat) (a3 : ClassId × ClassId × ClassId) (κ : List bm_K) (sz : Nat) : State → Prop := fun U =>
  U.heap.size = sz ∧ va_P D cl (bm_wd ad a3 κ) U.heap ∧ (va_K D cl tys U ∧ bm_N ne U) ∧ va_D (fun _ => True) (bm_wd ad a3 κ)
def bm_Qc (D : va_G) (cl : List vw_C) (tys : List (ClassId × FieldType)) (A : Nat → Prop) (n0 : Nat) (ad : Nat → Nat) (a3 : ClassId × ClassId × ClassId) (κ' : List bm_K) : Array Value → State → Outcome → State → Prop := fun _ st oc t =>
  (∃ ad' : Nat → Nat, (∀ k, k < n0 → ad' k = ad k) ∧ oc = .returned none ∧ va_P D cl (bm_wd ad' a3 κ') t.heap ∧ va_D A (bm_wd ad' a3 κ') ∧ va_K D cl tys t) ∧ va_F A st t
def bm_T (l : Launch) (Ts : List Cond) (nm : Nat → MethodName) (by_ : Nat → ByteArray) (mx : Nat → Nat) (D : va_G) (cl : List vw_C) (tys : List (ClassId × FieldType)) (ne : bm_Ne) (a3 : ClassId × ClassId × ClassId) (d y : Nat) (as : List Value) (κ κ' : List bm_K) : Prop :=
  ∀ (ad : Nat → Nat) (sz : Nat), Met l (nm y) (bm_ws Ts nm by_ mx y) (bm_rm d κ κ') (va_Pc (as.map (mm_rho ad)) (bm_B D cl tys ne ad a3 κ sz)) (bm_Qc D cl tys (va_A (bm_wd ad a3 κ) sz) κ.length ad a3 κ') (κ'.length - κ.length) (bm_sl κ' - bm_sl κ) (va_A (bm_wd ad a3 κ) sz)
end
section
/-! each step of it -/
def bm_V (p : Program) (l : Launch) (e : Env) (R : Room) (s : State) (m : MethodId) (args : Array Value) (below : List Frame) (meth : Method) (c : Code) (D : va_G) (cl : List vw_C) (A : Nat → Prop) (ad0 : Nat → Nat) (a3 : ClassId × ClassId × ClassId) (n0 s0 nL : Nat) (Qf : State → Prop) (pc : Nat) (L : List (Option Value)) (S : List Value) (κ : List bm_K) : Prop :=
  ∀ (ad : Nat → Nat) (H : Heap) (locs : List Loc) (ls : Array Slot), (∀ k, k < n0 → ad k = ad0 k) → va_P D cl (bm_wd ad a3 κ) H → va_D A (bm_wd ad a3 κ) → va_S A s.heap H locs → mm_lh ad ls nL L → W p l e R s m args below meth c H locs (κ.length - n0) (bm_sl κ - s0) Qf (F0 m pc ls (S.map (mm_rho ad)))
theorem bm_clamp {n : Int32} (h : n ≤ 1000) : n.toNatClampNeg ≤ 1000 := by
  have h1 : n.toInt ≤ 1000 := by
    have := Int32.le_iff_toInt_le.mp h
    simpa using this
  unfold Int32.toNatClampNeg
  omega
theorem bm_nlt {n : Int32} (h : 0 ≤ n) : ¬ n < 0 := by
  rw [Int32.lt_iff_toInt_lt]
  have := Int32.le_iff_toInt_le.mp h
  omega
section BMrow
variable {p : Program} {l : Launch} {e : Env} {R : Room} {s : State} {m : MethodId} {args : Array Value} {below : List Frame} {meth : Method} {c : Code} {H : Heap} {locs : List Loc} {cells slots : Nat} {Q : State → Prop}
variable {cc : ByteArray} {pc : Nat} {ls : Array Slot} {rest : List Value} {D : va_G} {cl : List vw_C} {A : Nat → Prop} {tys : List (ClassId × FieldType)} {ws : va_W} {H0 : Heap}
theorem bm_grow {news : va_W} {H1 : Heap} (hP : va_P D cl ws H) (hD : va_D A ws) (hA : ∀ q, H.size ≤ q → A q) (hold : ∀ x, x < H.size → H1[x]? = H[x]?) (hn : ∀ (i : Nat) (q : Nat × va_E), news[i]? = some q → q.1 = H.size + i ∧ va_at D cl q H1) : va_P D cl (ws ++ news) H1 ∧ va_D A (ws ++ news) := by
  refine ⟨(hP.kept (fun k q hq => hold q.1 ((hP k q hq).lt))).app (fun i q h => (hn i q h).2), hD.app ⟨fun i j x y hx hy hxy => ?_, fun k q hq => hA _ (by rw [(hn k q hq).1]; omega)⟩ (fun i j x y hx hy hxy => ?_)⟩
  · have h1 := (hn i x hx).1
    have h2 := (hn j y hy).1
    omega
  · have h1 := (hP i x hx).lt
    have h2 := (hn j y hy).1
    omega
/-- new int[n][k] -/
theorem bm_mna (hx : p.tables.exec = Jvm.exec) (hb : c.code = cc) {own : String} {index : Nat} {cI : ClassId} (hown : s.vm.findClass own = some m.cls) (hclink : (Cond.classLink own index "[[I").before args s = true) (hover : (Cond.arrayOver (.array .int)).before #[] s = true) (harr : (Cond.arrayClass .int).before args s = true) (hcI : s.vm.findClass "[I" = some cI)
    (hP : va_P D cl ws H) (hD : va_D A ws) (hS : va_S A H0 H locs) (hA : ∀ q, H0.size ≤ q → A q) {n k : Int32} (hn : ¬ n < 0) (hk : ¬ k < 0) (hN : n.toNatClampNeg ≤ 1000) (hM : k.toNatClampNeg ≤ 1000)
    (hcells : cells + (1 + n.toNatClampNeg) ≤ R.cells) (hslots : slots + (n.toNatClampNeg + n.toNatClampNeg * k.toNatClampNeg) ≤ R.slots) (hdg : decode cc pc = .ok (.multianewarray index 2, 4))
    (kk : ∀ (q : Nat) (cA : ClassId) (H1 : Heap), s.vm.findClass "[[I" = some cA →
      va_P D cl (ws ++ ((q, .inl (cA, n.toNatClampNeg, .inr (.inr (.inr (.inr (fun i => if i < n.toNatClampNeg then some (q + 1 + i) else none)))))) :: (List.range n.toNatClampNeg).map (fun i => (q + 1 + i, .inl (cI, k.toNatClampNeg, .inl bm_z))))) H1 →
      va_D A (ws ++ ((q, .inl (cA, n.toNatClampNeg, .inr (.inr (.inr (.inr (fun i => if i < n.toNatClampNeg then some (q + 1 + i) else none)))))) :: (List.range n.toNatClampNeg).map (fun i => (q + 1 + i, .inl (cI, k.toNatClampNeg, .inl bm_z))))) → va_S A H0 H1 locs →
      W p l e R s m args below meth c H1 locs (cells + 1 + n.toNatClampNeg) (slots + n.toNatClampNeg + n.toNatClampNeg * k.toNatClampNeg) Q (F0 m (pc + 4) ls (.ref q :: rest))) : W p l e R s m args below meth c H locs cells slots Q (F0 m pc ls (.int k :: .int n :: rest)) := by
  intro T hT Xs
  obtain ⟨vm₁, cA, comp, -, fA, fC, -, -, X', step⟩ := Xs.multianewarray2F (ty := .int) hx hown hclink hover harr (g := F0 m pc ls (.int k :: .int n :: rest)) rfl (by rw [hb]; exact hdg) rfl hn hk (by omega) (by show k.toNatClampNeg * 4 ≤ _; omega) (by omega) rfl rfl hcells hslots
  have ec : some cI = some comp := hcI.symm.trans fC
  cases ec
  generalize hF : Jvm.Free.Multi.fill (T.setVm vm₁) cA cI n.toNatClampNeg k.toNatClampNeg (defaultValue .int) n.toNatClampNeg = F at X' step
  have hTh : (T.setVm vm₁).heap = H := hT
  obtain ⟨f1, f2, -, -⟩ := Jvm.Free.Multi.fill_facts (T.setVm vm₁) cA cI n.toNatClampNeg k.toNatClampNeg (defaultValue .int) n.toNatClampNeg
  rw [hF, hTh] at f1 f2
  have hold : ∀ x : Nat, x < H.size → F.heap[x]? = H[x]? := fun x hx => by
    have := Jvm.Free.Multi.fill_old (T.setVm vm₁) cA cI n.toNatClampNeg k.toNatClampNeg (defaultValue .int) (a := x) (by rw [hTh]; exact hx) n.toNatClampNeg
    rw [hF, hTh] at this
    exact this
  have hrow : ∀ j : Nat, j < n.toNatClampNeg → F.heap[H.size + 1 + j]? = some (vp_cell cI (k.toNatClampNeg, .inl bm_z)) := fun j hj => by
    have := Jvm.Free.Multi.fill_inner (T.setVm vm₁) cA cI n.toNatClampNeg k.toNatClampNeg (defaultValue .int) n.toNatClampNeg j hj
    rw [hF, hTh] at this
    rw [this]
    show some ({ cls := cI, slots := Array.replicate k.toNatClampNeg (defaultValue .int), vm := .none } : Cell) = some (arrV cI k.toNatClampNeg (fun _ => .int 0))
    rw [arrV_new]
    rfl
  have hout : ∀ i : Nat, Jvm.Free.Multi.outerC cA n.toNatClampNeg H.size i = arrV cA n.toNatClampNeg (fun j => va_rf (if j < i then some (H.size + 1 + j) else none)) := by
    intro i
    induction i with
    | zero =>
      show ({ cls := cA, slots := Array.replicate n.toNatClampNeg .null, vm := .none } : Cell) = _
      rw [arrV_new]
      refine congrArg (arrV cA n.toNatClampNeg) (funext fun j => ?_)
      simp [va_rf]
    | succ i ih =>
      show (Jvm.Free.Multi.outerC cA n.toNatClampNeg H.size i).setSlot i (.ref (H.size + 1 + i)) = _
      rw [ih, arrV_store]
      refine congrArg (arrV cA n.toNatClampNeg) (funext fun j => ?_)
      by_cases e : j = i
      · subst e
        simp [updV, va_rf]
      · by_cases h : j < i
        · simp [updV, e, h, Nat.lt_succ_of_lt h]
        · simp [updV, e, h, show ¬ j < i + 1 by omega]
  rw [hout] at f2
  have hg := bm_grow (H1 := F.heap) (news := (H.size, .inl (cA, n.toNatClampNeg, .inr (.inr (.inr (.inr (fun i => if i < n.toNatClampNeg then some (H.size + 1 + i) else none)))))) :: (List.range n.toNatClampNeg).map (fun i => (H.size + 1 + i, .inl (cI, k.toNatClampNeg, .inl bm_z)))) hP hD (fun q hq => hA q (Nat.le_trans hS.1 hq)) hold (fun i q hq => by
    cases i with
    | zero =>
      cases hq
      exact ⟨rfl, f2⟩
    | succ i =>
      rw [List.getElem?_cons_succ, List.getElem?_map] at hq
      by_cases hi : i < n.toNatClampNeg
      · rw [List.getElem?_range hi] at hq
        cases hq
        exact ⟨by show H.size + 1 + i = H.size + (i + 1); omega, hrow i hi⟩
      · rw [List.getElem?_eq_none (by rw [List.length_range]; omega)] at hq
        cases hq)
  obtain ⟨t, a1, b1⟩ := kk H.size cA F.heap fA hg.1 hg.2 ⟨by rw [f1]; have := hS.1; omega, fun x h1 h2 => (hold x (Nat.lt_of_lt_of_le h1 hS.1)).trans (hS.2.1 x h1 h2), hS.2.2⟩ F rfl X'
  refine ⟨t, step t ?_, b1⟩
  have e : T.heap.size = H.size := by rw [hT]
  rw [e]
  exact a1
end BMrow
end
section
/-! a constructor's run -/
theorem bm_fits_ref (ty : FieldType) (a b : Nat) : fits ty (.ref a) = fits ty (.ref b) := by cases ty <;> rfl
theorem bm_narrow_ref (ty : FieldType) (a : Nat) : narrow ty (.ref a) = .ref a := by cases ty <;> rfl
theorem bm_fit {ty : FieldType} {v : Value} (ad : Nat → Nat) (h1 : fits ty v = true) (h2 : narrow ty v = v) : fits ty (mm_rho ad v) = true ∧ narrow ty (mm_rho ad v) = mm_rho ad v := by
  cases v with
  | ref k => exact ⟨(bm_fits_ref ty _ _).trans h1, bm_narrow_ref ty _⟩
  | _ => exact ⟨h1, h2⟩
theorem bm_map_set (ad : Nat → Nat) : ∀ (vs : List Value) (j : Nat) (v : Value), (mm_set vs j v).map (mm_rho ad) = (vs.map (mm_rho ad)).set j (mm_rho ad v)
  | [], _, _ => rfl
  | _ :: _, 0, _ => rfl
  | a :: r, j + 1, v => by simp [mm_set, bm_map_set ad r j v]
theorem bm_rho0 {ad : Nat → Nat} {vs : List Value} (h : vs.all (bm_rok 0) = true) : vs.map (mm_rho ad) = vs := by
  have h1 : vs.map (mm_rho ad) = vs.map id := by
    apply List.map_congr_left
    intro v hv
    have := List.all_eq_true.mp h v hv
    cases v with
    | ref k => simp [bm_rok, Nat.blt] at this
    | _ => rfl
  rw [h1, List.map_id]
theorem bm_ag {ad : Nat → Nat} {N q : Nat} : ∀ k, k < N → bm_ad ad N q k = ad k := fun _ h => bm_ad_lt h
theorem bm_ad_at {ad : Nat → Nat} {N q : Nat} : bm_ad ad N q N = q := by rw [bm_ad_ge (Nat.le_refl _)]; omega
theorem bm_push {ad : Nat → Nat} {a3 : ClassId × ClassId × ClassId} {κ : List bm_K} {c : bm_K} {q : Nat} {e : va_E} (h : κ.zipIdx.all (bm_cok κ.length) = true) (he : bm_ce (bm_ad ad κ.length q) a3 κ.length c = e) : bm_wd (bm_ad ad κ.length q) a3 (κ ++ [c]) = bm_wd ad a3 κ ++ [(q, e)] := by
  rw [bm_wd_app, bm_wd_ad h]
  simp only [List.zipIdx_cons, List.zipIdx_nil, List.map_cons, List.map_nil, bm_ad_at, he]
theorem bm_ok_el {κ : List bm_K} {L : List (Option Value)} {S : List Value} (h : bm_ok κ L S = true) : κ.zipIdx.all (bm_cok κ.length) = true ∧ L.all (bm_lok κ.length) = true ∧ S.all (bm_rok κ.length) = true := by
  unfold bm_ok at h
  rw [Bool.and_eq_true, Bool.and_eq_true] at h
  exact h
theorem bm_rows (ad : Nat → Nat) (a3 : ClassId × ClassId × ClassId) (N q k : Nat) : ∀ (n i : Nat), ((List.replicate n ((1, k, [], bm_z) : bm_K)).zipIdx (N + 1 + i)).map (fun x => (bm_ad ad N q x.2, bm_ce (bm_ad ad N q) a3 x.2 x.1)) = ((List.range n).map (fun j => (q + 1 + (i + j), (Sum.inl (a3.1, k, .inl bm_z) : va_E))))
  | 0, _ => rfl
  | n + 1, i => by
    have h := bm_rows ad a3 N q k n (i + 1)
    rw [List.replicate_succ, List.zipIdx_cons, List.map_cons, List.range_succ_eq_map, List.map_cons, List.map_map]
    rw [show N + 1 + i + 1 = N + 1 + (i + 1) by omega, h]
    congr 1
    · rw [bm_ad_ge (by omega)]
      show (q + (N + 1 + i - N), (Sum.inl (a3.1, k, .inl bm_z) : va_E)) = _
      congr 1
      omega
    · apply List.map_congr_left
      intro j _
      show (q + 1 + (i + 1 + j), _) = (q + 1 + (i + (j + 1)), _)
      congr 1
      omega
section BMstep
variable {p : Program} {l : Launch} {e : Env} {R : Room} {s : State} {m : MethodId} {args : Array Value} {below : List Frame} {meth : Method} {c : Code} {D : va_G} {cl : List vw_C} {A : Nat → Prop} {ad0 : Nat → Nat} {cI cZ cG : ClassId} {n0 s0 nL : Nat} {M : bm_M} {cc : ByteArray} {Ts : List Cond} {own : String} {Qf : State → Prop} {ty : Nat → Nat → FieldType}
set_option maxHeartbeats 4000000 in
theorem bm_sstep (hx : p.tables.exec = Jvm.exec) (hb : c.code = cc) (hown : s.vm.findClass own = some m.cls) (hts : ∀ w ∈ Ts, w.before args s = true) (hK : va_K D cl [(cI, .int), (cZ, .boolean), (cG, .array .int)] s) (hA : ∀ q, s.heap.size ≤ q → A q) (hin2 : meth.name = "<init>")
    (hover : (Cond.arrayOver (.array .int)).before #[] s = true) (hwI : Cond.arrayClass .int ∈ Ts) (hwZ : Cond.arrayClass .boolean ∈ Ts)
    (hnw : ∀ q ∈ M.2.1, bm_nok cl Ts own q) (hpt : ∀ q ∈ M.2.2.1, bm_pok ty cl Ts own q)
    {i : ClassFile.Instr} {cs : Int32} {pc pc' : Nat} {L L' : List (Option Value)} {S S' : List Value} {κ κ' : List bm_K} (hok : bm_okE cc (pc, i, cs) = true) (hmn : ∀ idx, i = .multianewarray idx 2 → Cond.classLink own idx "[[I" ∈ Ts)
    (hst : bm_step ty M i cs pc L S κ = some (pc', L', S', κ')) (hn0 : n0 ≤ κ.length) (hs0 : s0 ≤ bm_sl κ) (hRc : κ'.length - n0 ≤ R.cells) (hRs : bm_sl κ' - s0 ≤ R.slots)
    (hV : bm_V p l e R s m args below meth c D cl A ad0 (cI, cZ, cG) n0 s0 nL Qf pc' L' S' κ') : bm_V p l e R s m args below meth c D cl A ad0 (cI, cZ, cG) n0 s0 nL Qf pc L S κ := by
  unfold bm_okE at hok
  rw [Bool.and_eq_true] at hok
  obtain ⟨hdg, hcs⟩ := hok
  have hdg := of_decide_eq_true hdg
  intro ad H locs ls hag hP hD hS hl
  unfold bm_step at hst
  split at hst
  · rename_i k
    split at hst
    · rename_i x hx1
      cases hst
      exact lv_aload_n hx hb hdg rfl (mm_lh_at hl hx1) (hV ad H locs ls hag hP hD hS hl)
    · cases hst
  · cases hst
    exact lv_iconst hx hb hdg (of_decide_eq_true hcs) (hV ad H locs ls hag hP hD hS hl)
  · cases hst
    exact lv_bipush hx hb hdg (of_decide_eq_true hcs) (hV ad H locs ls hag hP hD hS hl)
  · cases hst
    exact lv_sipush hx hb hdg (of_decide_eq_true hcs) (hV ad H locs ls hag hP hD hS hl)
  · split at hst
    · rename_i v r
      split at hst
      · rename_i hc
        cases hst
        have hcat : v.category = 1 := by cases v <;> first | rfl | cases hc
        exact lv_dup hx hb hdg (by rw [mm_rho_cat]; exact hcat) (hV ad H locs ls hag hP hD hS hl)
      · cases hst
    · cases hst
  · rename_i idx
    split at hst
    · rename_i ci vs hlk
      split at hst
      · rename_i hbo
        cases hst
        obtain ⟨hk1, hk2, hk3⟩ := bm_ok_el hbo
        obtain ⟨C0, T, N, tf, hc, hlen, hin, hcl, hins, hini, htf, hdf, h0⟩ := hnw _ (mm_look_mem hlk)
        dsimp only at hc hlen hcl hdf h0
        have e1 : (κ ++ [((0, ci, vs, bm_z) : bm_K)]).length - n0 = κ.length - n0 + 1 := by rw [List.length_append]; simp; omega
        have e2 : bm_sl (κ ++ [((0, ci, vs, bm_z) : bm_K)]) - s0 = bm_sl κ - s0 + N := by rw [bm_sl_app]; simp [bm_sl, bm_s1] at hs0 ⊢; omega
        refine va_new (ci := ci) (fs := vs) (C := C0) (T := T) (N := N) hx hb hts hin tf htf hown (hts _ hcl) (hts _ hins) (hts _ hini) hK hP hD hS hA hc hdf (by rw [← e1]; exact hRc) (by rw [← e2]; exact hRs) hdg (fun q H1 hP1 hD1 hS1 => ?_)
        have hw := bm_push (ad := ad) (a3 := (cI, cZ, cG)) (c := ((0, ci, vs, bm_z) : bm_K)) (q := q) (e := .inr (ci, vs)) hk1 (by simp only [bm_ce, bm_rho0 h0])
        have h9 := hV (bm_ad ad κ.length q) H1 locs ls (fun k hk => (bm_ag k (by omega)).trans (hag k hk)) (by rw [hw]; exact hP1) (by rw [hw]; exact hD1) hS1 (bm_lh_ag bm_ag hk2 hl)
        rw [e1, e2, List.map_cons, bm_map_ag bm_ag hk3] at h9
        simp only [mm_rho, bm_ad_at] at h9
        exact h9
      · cases hst
    · cases hst
  · rename_i t
    split at hst
    · rename_i n r
      split at hst
      · rename_i hbo
        rw [Bool.and_eq_true] at hbo
        obtain ⟨hk1, hk2, hk3⟩ := bm_ok_el hbo.1
        obtain ⟨hn1, hn2⟩ := of_decide_eq_true hbo.2
        have hle := bm_clamp hn2
        split at hst
        · cases hst
          have e1 : (κ ++ [((1, n.toNatClampNeg, [], bm_z) : bm_K)]).length - n0 = κ.length - n0 + 1 := by rw [List.length_append]; simp; omega
          have e2 : bm_sl (κ ++ [((1, n.toNatClampNeg, [], bm_z) : bm_K)]) - s0 = bm_sl κ - s0 + n.toNatClampNeg := by rw [bm_sl_app]; simp [bm_sl, bm_s1] at hs0 ⊢; omega
          refine va_newa (atype := .int) (ty := .int) (a0 := (n.toNatClampNeg, .inl bm_z)) hx hb (hts _ hwI) rfl hK hP hD hS hA (fun cA => rfl) (bm_nlt hn1) rfl (by show n.toNatClampNeg * 4 ≤ _; omega) (by rw [← e1]; exact hRc) (by rw [← e2]; exact hRs) hdg (fun q cA H1 hK1 hP1 hD1 hS1 => ?_)
          have hcA : cA = cI := by
            have h1 : s.vm.findClass ("[" ++ FieldType.int.toString) = some cA := (hK1.2 3 (cA, .int) rfl).2
            have h2 : s.vm.findClass ("[" ++ FieldType.int.toString) = some cI := (hK.2 0 (cI, .int) rfl).2
            exact Option.some.inj (h1.symm.trans h2)
          subst hcA
          have hw := bm_push (ad := ad) (a3 := (cA, cZ, cG)) (c := ((1, n.toNatClampNeg, [], bm_z) : bm_K)) (q := q) (e := .inl (cA, n.toNatClampNeg, .inl bm_z)) hk1 rfl
          have h9 := hV (bm_ad ad κ.length q) H1 locs ls (fun k hk => (bm_ag k (by omega)).trans (hag k hk)) (by rw [hw]; exact hP1) (by rw [hw]; exact hD1) hS1 (bm_lh_ag bm_ag hk2 hl)
          rw [e1, e2, List.map_cons, bm_map_ag bm_ag hk3] at h9
          simp only [mm_rho, bm_ad_at] at h9
          exact h9
        · cases hst
          have e1 : (κ ++ [((2, n.toNatClampNeg, [], bm_z) : bm_K)]).length - n0 = κ.length - n0 + 1 := by rw [List.length_append]; simp; omega
          have e2 : bm_sl (κ ++ [((2, n.toNatClampNeg, [], bm_z) : bm_K)]) - s0 = bm_sl κ - s0 + n.toNatClampNeg := by rw [bm_sl_app]; simp [bm_sl, bm_s1] at hs0 ⊢; omega
          refine va_newa (atype := .boolean) (ty := .boolean) (a0 := (n.toNatClampNeg, .inl bm_z)) hx hb (hts _ hwZ) rfl hK hP hD hS hA (fun cA => rfl) (bm_nlt hn1) rfl (by show n.toNatClampNeg * 1 ≤ _; omega) (by rw [← e1]; exact hRc) (by rw [← e2]; exact hRs) hdg (fun q cA H1 hK1 hP1 hD1 hS1 => ?_)
          have hcA : cA = cZ := by
            have h1 : s.vm.findClass ("[" ++ FieldType.boolean.toString) = some cA := (hK1.2 3 (cA, .boolean) rfl).2
            have h2 : s.vm.findClass ("[" ++ FieldType.boolean.toString) = some cZ := (hK.2 1 (cZ, .boolean) rfl).2
            exact Option.some.inj (h1.symm.trans h2)
          subst hcA
          have hw := bm_push (ad := ad) (a3 := (cI, cA, cG)) (c := ((2, n.toNatClampNeg, [], bm_z) : bm_K)) (q := q) (e := .inl (cA, n.toNatClampNeg, .inl bm_z)) hk1 rfl
          have h9 := hV (bm_ad ad κ.length q) H1 locs ls (fun k hk => (bm_ag k (by omega)).trans (hag k hk)) (by rw [hw]; exact hP1) (by rw [hw]; exact hD1) hS1 (bm_lh_ag bm_ag hk2 hl)
          rw [e1, e2, List.map_cons, bm_map_ag bm_ag hk3] at h9
          simp only [mm_rho, bm_ad_at] at h9
          exact h9
        · cases hst
      · cases hst
    · cases hst
  · rename_i idx
    split at hst
    · rename_i k n r
      split at hst
      · rename_i hbo
        cases hst
        rw [Bool.and_eq_true] at hbo
        obtain ⟨hk1, hk2, hk3⟩ := bm_ok_el hbo.1
        obtain ⟨⟨hn1, hn2⟩, hm1, hm2⟩ := of_decide_eq_true hbo.2
        have e1 : (κ ++ (((3, n.toNatClampNeg, [], bm_z) : bm_K) :: List.replicate n.toNatClampNeg ((1, k.toNatClampNeg, [], bm_z) : bm_K))).length - n0 = κ.length - n0 + 1 + n.toNatClampNeg := by rw [List.length_append]; simp; omega
        have e2 : bm_sl (κ ++ (((3, n.toNatClampNeg, [], bm_z) : bm_K) :: List.replicate n.toNatClampNeg ((1, k.toNatClampNeg, [], bm_z) : bm_K))) - s0 = bm_sl κ - s0 + n.toNatClampNeg + n.toNatClampNeg * k.toNatClampNeg := by
          have h7 := bm_sl_rep n.toNatClampNeg ((1, k.toNatClampNeg, [], bm_z) : bm_K)
          have h8 : bm_sl (((3, n.toNatClampNeg, [], bm_z) : bm_K) :: List.replicate n.toNatClampNeg ((1, k.toNatClampNeg, [], bm_z) : bm_K)) = n.toNatClampNeg + n.toNatClampNeg * k.toNatClampNeg := by
            show bm_s1 _ + bm_sl (List.replicate n.toNatClampNeg ((1, k.toNatClampNeg, [], bm_z) : bm_K)) = _
            rw [h7]
            rfl
          rw [bm_sl_app, h8]
          omega
        have hcI : s.vm.findClass "[I" = some cI := (hK.2 0 (cI, .int) rfl).2
        refine bm_mna (cI := cI) hx hb hown (hts _ (hmn _ rfl)) hover (hts _ hwI) hcI hP hD hS hA (bm_nlt hn1) (bm_nlt hm1) (bm_clamp hn2) (bm_clamp hm2) (by have := hRc; rw [e1] at this; omega) (by have := hRs; rw [e2] at this; omega) hdg (fun q cA H1 hcA hP1 hD1 hS1 => ?_)
        have hcA : cA = cG := by
          have h2 : s.vm.findClass "[[I" = some cG := (hK.2 2 (cG, .array .int) rfl).2
          exact Option.some.inj (hcA.symm.trans h2)
        subst hcA
        have hw : bm_wd (bm_ad ad κ.length q) (cI, cZ, cA) (κ ++ (((3, n.toNatClampNeg, [], bm_z) : bm_K) :: List.replicate n.toNatClampNeg ((1, k.toNatClampNeg, [], bm_z) : bm_K))) = bm_wd ad (cI, cZ, cA) κ ++ ((q, .inl (cA, n.toNatClampNeg, .inr (.inr (.inr (.inr (fun i => if i < n.toNatClampNeg then some (q + 1 + i) else none)))))) :: (List.range n.toNatClampNeg).map (fun i => (q + 1 + i, .inl (cI, k.toNatClampNeg, .inl bm_z)))) := by
          have hr := bm_rows ad (cI, cZ, cA) κ.length q k.toNatClampNeg n.toNatClampNeg 0
          rw [bm_wd_app, bm_wd_ad hk1, List.zipIdx_cons, List.map_cons]
          rw [show κ.length + 1 = κ.length + 1 + 0 by omega, hr]
          have hf : (fun j => if j < n.toNatClampNeg then some (bm_ad ad κ.length q (κ.length + 1 + j)) else none) = (fun i => if i < n.toNatClampNeg then some (q + 1 + i) else none) := by
            funext j
            by_cases hj : j < n.toNatClampNeg
            · simp only [hj, if_true]
              rw [bm_ad_ge (by omega)]
              congr 1
              omega
            · simp only [hj, if_false]
          simp only [bm_ad_at, bm_ce, Nat.zero_add, hf]
        have h9 := hV (bm_ad ad κ.length q) H1 locs ls (fun k hk => (bm_ag k (by omega)).trans (hag k hk)) (by rw [hw]; exact hP1) (by rw [hw]; exact hD1) hS1 (bm_lh_ag bm_ag hk2 hl)
        rw [e1, e2, List.map_cons, bm_map_ag bm_ag hk3] at h9
        simp only [mm_rho, bm_ad_at] at h9
        exact h9
      · cases hst
    · cases hst
  · rename_i idx
    split at hst
    · rename_i v o r
      split at hst
      · rename_i ci j hlk
        split at hst
        · rename_i ci' vs f hn
          split at hst
          · rename_i hbo
            cases hst
            rw [Bool.and_eq_true, Bool.and_eq_true, Bool.and_eq_true] at hbo
            obtain ⟨hci, hfit, hnar, hjl⟩ := hbo
            have hci := Nat.eq_of_beq_eq_true hci
            subst hci
            have hjl : j < vs.length := by simpa [Nat.blt_eq] using hjl
            obtain ⟨hf1, hf2⟩ := bm_fit ad hfit (of_decide_eq_true hnar)
            obtain ⟨C0, T, N, tf, hc, hj, hin, hli, htf, hnm, hd, hdecl⟩ := hpt _ (mm_look_mem hlk)
            dsimp only at hc hj hli hd hdecl
            have hol := mm_nth_lt hn
            have he : (bm_wd ad (cI, cZ, cG) κ)[o]? = some (ad o, .inr (ci', vs.map (mm_rho ad))) := bm_wd_get hn
            have hset : (bm_wd ad (cI, cZ, cG) κ).set o (ad o, .inr (ci', (vs.map (mm_rho ad)).set j (mm_rho ad v))) = bm_wd ad (cI, cZ, cG) (mm_set κ o (0, ci', mm_set vs j v, f)) := by
              rw [← bm_map_set]
              exact bm_wd_set (c := (0, ci', mm_set vs j v, f)) hol
            have e1 : (mm_set κ o ((0, ci', mm_set vs j v, f) : bm_K)).length = κ.length := mm_set_length _ _ _
            have e2 : bm_sl (mm_set κ o ((0, ci', mm_set vs j v, f) : bm_K)) = bm_sl κ := bm_sl_set _ _ _ _ hn (by simp [bm_s1, mm_set_length])
            have hgo : ∀ (H1 : Heap) (locs1 : List Loc), va_P D cl ((bm_wd ad (cI, cZ, cG) κ).set o (ad o, .inr (ci', (vs.map (mm_rho ad)).set j (mm_rho ad v)))) H1 → va_D A ((bm_wd ad (cI, cZ, cG) κ).set o (ad o, .inr (ci', (vs.map (mm_rho ad)).set j (mm_rho ad v)))) → va_S A s.heap H1 locs1 → W p l e R s m args below meth c H1 locs1 (κ.length - n0) (bm_sl κ - s0) Qf (F0 m (pc + 3) ls (S'.map (mm_rho ad))) := by
              intro H1 locs1 hP1 hD1 hS1
              rw [hset] at hP1 hD1
              have h9 := hV ad H1 locs1 ls hag hP1 hD1 hS1 hl
              rw [e1, e2] at h9
              exact h9
            cases hfin : (T j).2.2.2 with
            | false => exact va_put (D := D) (ref := (T j).1) (v := mm_rho ad v) hx hb hts hin tf htf hnm hown hK hP hD hS o he hc j hj (hts _ hli) (fun _ z => z) hfin hd hf2 hf1 (by rw [List.length_map]; exact hjl) hdg hgo
            | true => exact va_putF (D := D) (ref := (T j).1) (v := mm_rho ad v) hx hb hts hin tf htf hnm hown hK hP hD hS o he hc j hj (hts _ hli) (fun _ z => z) hfin hin2 hdecl hd hf2 hf1 (by rw [List.length_map]; exact hjl) hdg hgo
          · cases hst
        · cases hst
      · cases hst
    · cases hst
  · rename_i idx
    split at hst
    · rename_i o r
      split at hst
      · rename_i ci j hlk
        split at hst
        · rename_i ci' vs f hn
          split at hst
          · rename_i hci
            split at hst
            · rename_i v hv
              cases hst
              have hci := Nat.eq_of_beq_eq_true hci
              subst hci
              obtain ⟨C0, T, N, tf, hc, hj, hin, hli, htf, hnm, hd, hdecl⟩ := hpt _ (mm_look_mem hlk)
              dsimp only at hc hj hli hd hdecl
              have he : (bm_wd ad (cI, cZ, cG) κ)[o]? = some (ad o, .inr (ci', vs.map (mm_rho ad))) := bm_wd_get hn
              exact va_get (D := D) (ref := (T j).1) hx hb hts hin hown hK hP o he hc j hj (hts _ hli) (fun _ z => z) (v := mm_rho ad v) (by rw [List.getElem?_map, ← mm_nth_eq, hv]; rfl) hdg (hV ad H locs ls hag hP hD hS hl)
            · cases hst
          · cases hst
        · cases hst
      · cases hst
    · cases hst
  · split at hst
    · rename_i x j o r
      split at hst
      · rename_i n vs f hn
        split at hst
        · rename_i hbo
          cases hst
          have hin : ¬ (j < 0 ∨ n ≤ j.toNatClampNeg) := of_decide_eq_true hbo
          have hol := mm_nth_lt hn
          have he : (bm_wd ad (cI, cZ, cG) κ)[o]? = some (ad o, .inl (cI, n, .inl f)) := bm_wd_get hn
          have hset : (bm_wd ad (cI, cZ, cG) κ).set o (ad o, .inl (cI, n, .inl (upd f j.toNatClampNeg x))) = bm_wd ad (cI, cZ, cG) (mm_set κ o (1, n, vs, upd f j.toNatClampNeg x)) := bm_wd_set (c := (1, n, vs, upd f j.toNatClampNeg x)) hol
          have e1 : (mm_set κ o ((1, n, vs, upd f j.toNatClampNeg x) : bm_K)).length = κ.length := mm_set_length _ _ _
          have e2 : bm_sl (mm_set κ o ((1, n, vs, upd f j.toNatClampNeg x) : bm_K)) = bm_sl κ := bm_sl_set _ _ _ _ hn (by simp [bm_s1])
          refine va_iast hx hb hK hP hD hS o 0 he rfl hin hdg (fun H1 locs1 hP1 hD1 hS1 => ?_)
          rw [hset] at hP1 hD1
          have h9 := hV ad H1 locs1 ls hag hP1 hD1 hS1 hl
          rw [e1, e2] at h9
          exact h9
        · cases hst
      · cases hst
    · cases hst
  · cases hst
end BMstep
end
section
def bm_okM (Ts : List Cond) (nm : Nat → MethodName) (by_ : Nat → ByteArray) (mx : Nat → Nat) (cl : List vw_C) (ne : bm_Ne) (ty : Nat → Nat → FieldType) (M : bm_M) (y : Nat) : Prop :=
  plainName (nm y).cls = true ∧ (nm y).name = "<init>" ∧ M.1.all (bm_okE (by_ y)) = true ∧ (∀ q ∈ M.2.1, bm_nok cl Ts (nm y).cls q) ∧ (∀ q ∈ M.2.2.1, bm_pok ty cl Ts (nm y).cls q) ∧ (∀ q ∈ M.2.2.2, bm_kok Ts nm by_ mx ne (nm y).cls q) ∧ (∀ q ∈ M.1, ∀ idx, q.2.1 = .multianewarray idx 2 → Cond.classLink (nm y).cls idx "[[I" ∈ Ts)
section BMgo
variable {p : Program} {l : Launch} {e : Env} {R : Room} {s : State} {m : MethodId} {args : Array Value} {below : List Frame} {meth : Method} {c : Code} {D : va_G} {cl : List vw_C} {A A1 : Nat → Prop} {ad : Nat → Nat} {a3 : ClassId × ClassId × ClassId} {n1 : Nat} {κ1 : List bm_K} {Qf : State → Prop} {tys : List (ClassId × FieldType)} {H : Heap} {locs : List Loc} {cells slots mc ms pc : Nat} {ls : Array Slot} {st0 rest : List Value} {arr : Array Value}
theorem bm_goon (hr : va_Run p l e R s m args below meth c H locs cells slots mc ms (F0 m pc ls st0) rest (bm_Qc D cl tys A1 n1 ad a3 κ1 arr) A1) (hS : va_S A s.heap H locs) (hA1 : ∀ q, A1 q → A q)
    (kk : ∀ (ad' : Nat → Nat) (H1 : Heap) (locs1 : List Loc), (∀ k, k < n1 → ad' k = ad k) → va_P D cl (bm_wd ad' a3 κ1) H1 → va_D A (bm_wd ad' a3 κ1) → va_S A s.heap H1 locs1 → W p l e R s m args below meth c H1 locs1 (cells + mc) (slots + ms) Qf (F0 m (pc + 3) ls rest)) :
    W p l e R s m args below meth c H locs cells slots Qf (F0 m pc ls st0) := by
  intro T hT X
  obtain ⟨v, st₀, t, T', L, h0, X', hL, e1, e2, ⟨⟨ad', hag, hv, hP1, hD1, hK1⟩, hz, hk⟩, st⟩ := hr T hT X
  cases hv
  rw [h0] at hz hk
  rw [← e1] at hP1 hz hk
  obtain ⟨t2, a1, b1⟩ := kk ad' T'.heap (locs ++ L) hag hP1 (hD1.weaken (fun _ _ _ h => hA1 _ h))
    ⟨Nat.le_trans hS.1 hz, fun q h1 h2 => by rw [hk q (Nat.lt_of_lt_of_le h1 hS.1) (fun z => h2 (hA1 q z))]; exact hS.2.1 q h1 h2, fun q hq => by
      rcases List.mem_append.mp hq with h | h
      · exact hS.2.2 q h
      · exact hA1 _ (hL q h)⟩ T' rfl X'
  exact ⟨t2, st t2 a1, b1⟩
end BMgo
section BMsound
variable {l : Launch} {Ts : List Cond} {nm : Nat → MethodName} {by_ : Nat → ByteArray} {mx : Nat → Nat} {D : va_G} {cl : List vw_C} {cI cZ cG : ClassId} {ne : bm_Ne} {ty : Nat → Nat → FieldType} {Y : List bm_M}
set_option maxHeartbeats 4000000 in
theorem bm_body (hgood : ∀ w ∈ Ts, goodWord w = true) (hwI : Cond.arrayClass .int ∈ Ts) (hwZ : Cond.arrayClass .boolean ∈ Ts) {d y : Nat} {M : bm_M} {C : Nat → List Value → List bm_K → Option (List bm_K)} (hM : bm_okM Ts nm by_ mx cl ne ty M y)
    (hCm : ∀ y as κ κ1, C y as κ = some κ1 → κ.length ≤ κ1.length ∧ bm_sl κ ≤ bm_sl κ1) (hC : ∀ y as κ κ1, C y as κ = some κ1 → ∃ dd, dd < d ∧ bm_T l Ts nm by_ mx D cl [(cI, .int), (cZ, .boolean), (cG, .array .int)] ne (cI, cZ, cG) dd y as κ κ1)
    {as : List Value} {κ κ' : List bm_K} (hc1 : mm_c1 (mx y) as = true) (hrun : bm_run ty C M 400 0 (mm_ent (mx y) as) [] κ = some κ') : bm_T l Ts nm by_ mx D cl [(cI, .int), (cZ, .boolean), (cG, .array .int)] ne (cI, cZ, cG) d y as κ κ' := by
  obtain ⟨hpl, hini0, hE, hnw, hpt, hkk, hmn⟩ := hM
  obtain ⟨hlen, hcat⟩ := mm_c1_el hc1
  intro ad sz
  refine Met.ofW (cc := by_ y) (maxL := mx y) (ret := none) hpl rfl ?_
  intro p e s m args below meth c s₁ B0 hml hv
  obtain ⟨rfl, hsz, hP, ⟨hK, hN⟩, hD0⟩ := hv
  have hx := B0.exec
  have hb := B0.bytes
  have hr := B0.returns
  have hlocks := B0.notSynchronized
  have hts0 := atoms_spec (ws := bm_ws Ts nm by_ mx y) B0.pre
  have hts : ∀ w ∈ Ts, w.before (as.map (mm_rho ad)).toArray s = true := fun w hw => hts0 w (List.mem_cons_of_mem _ hw)
  have hown : s.vm.findClass (nm y).cls = some m.cls := findClass_of_methodNamed B0.named
  have hin2 : meth.name = "<init>" := ((name_of_methodNamed B0.named B0.method).1).trans hini0
  have hG : ∀ y', Cond.code (nm y') (by_ y') (mx y') none ∈ Ts → GoodIn Ts (bm_ws Ts nm by_ mx y') := fun y' hy' w hw => by
    rcases List.mem_cons.mp hw with h9 | h9
    · subst h9
      exact ⟨hy', good_of_word (hgood _ hy')⟩
    · exact ⟨h9, good_of_word (hgood _ h9)⟩
  subst hsz
  have hD := hD0.self (sz := s.heap.size)
  have hA : ∀ q, s.heap.size ≤ q → va_A (bm_wd ad (cI, cZ, cG) κ) s.heap.size q := fun q h => Or.inr h
  generalize hAe : va_A (bm_wd ad (cI, cZ, cG) κ) s.heap.size = A at hD hA ⊢
  have hcat' : ∀ v ∈ as.map (mm_rho ad), v.category = 1 := fun v hv => by
    obtain ⟨w, hw, rfl⟩ := List.mem_map.mp hv
    rw [mm_rho_cat]
    exact hcat w hw
  have hl := lv_entry (as.map (mm_rho ad)) (n := mx y) (by rw [mm_sl_len _ hcat', List.length_map]; exact hlen)
  rw [lg_entry_eq]
  generalize (lg_sl (as.map (mm_rho ad)) ++ List.replicate (mx y - (lg_sl (as.map (mm_rho ad))).length) Slot.unset).toArray = ls0 at hl ⊢
  have hlh : mm_lh ad ls0 (mx y) (mm_ent (mx y) as) := by
    refine ⟨?_, ?_, fun k v hk => hcat v (mm_nth_ent hk)⟩
    · unfold mm_ent
      rw [mm_args_ll ad as 0 _ hcat]
      exact hl
    · unfold mm_ent
      rw [List.length_append, List.length_map, List.length_replicate]
      omega
  have main : ∀ (n pc : Nat) (L : List (Option Value)) (S : List Value) (κ1 : List bm_K), bm_run ty C M n pc L S κ1 = some κ' → κ.length ≤ κ1.length → bm_sl κ ≤ bm_sl κ1 →
      bm_V p l e (bm_rm d κ κ') s m (as.map (mm_rho ad)).toArray below meth c D cl A ad (cI, cZ, cG) κ.length (bm_sl κ) (mx y) (MQ below (bm_Qc D cl [(cI, .int), (cZ, .boolean), (cG, .array .int)] A κ.length ad (cI, cZ, cG) κ') (as.map (mm_rho ad)).toArray s (κ'.length - κ.length) (bm_sl κ' - bm_sl κ) A) pc L S κ1 := by
    intro n
    induction n with
    | zero => intro pc L S κ1 h; simp [bm_run] at h
    | succ n ihn =>
      intro pc L S κ1 h hn0 hs0
      have hmono := bm_run_mono hCm _ _ _ _ _ _ h
      unfold bm_run at h
      split at h
      · cases h
      · rename_i i cs hI
        have hE1 := List.all_eq_true.mp hE _ (mm_look_mem hI)
        have hmn1 := hmn _ (mm_look_mem hI)
        dsimp only at hmn1
        have hE2 := hE1
        unfold bm_okE at hE2
        rw [Bool.and_eq_true] at hE2
        have hdg := of_decide_eq_true hE2.1
        split at h
        · split at h
          · cases h
            intro ad1 H locs ls hag hP1 hD1 hS1 hl1
            exact W.vret hx hb hr (fun t ht hW => ⟨⟨ad1, hag, rfl, by rw [ht]; exact hP1, hD1, va_K.moved hW.alike hK⟩, hS1.F ht⟩) hS1.2.2 hdg
          · cases h
        · rename_i idx
          split at h
          · rename_i y' na hlk
            obtain ⟨hk9, hkn⟩ := hkk _ (mm_look_mem hlk)
            dsimp only at hk9 hkn
            split at h
            · rename_i o as' r hpop
              obtain ⟨t, ht1, ht2, ht3⟩ := mm_pop_el _ _ _ _ _ hpop
              rw [List.append_nil] at ht3
              have hS2 : S = (Value.ref o :: as').reverse ++ r := by rw [ht3, List.reverse_reverse]; exact ht2
              have hna : as'.length = na := by
                have h8 : (Value.ref o :: as').length = na + 1 := by rw [ht3, List.length_reverse, ht1]
                simpa using h8
              split at h
              · rename_i hc8
                obtain ⟨hr8, hrcat⟩ := mm_c1_el hc8
                split at h
                · rename_i hy9
                  have hy9 := Nat.eq_of_beq_eq_true hy9
                  split at h
                  · intro ad1 H locs ls hag hP1 hD1 hS1 hl1
                    obtain ⟨w1, w2, w3⟩ := hk9 hy9
                    have hgo := ihn _ _ _ _ h hn0 hs0 ad1 H locs ls hag hP1 hD1 hS1 hl1
                    rw [hS2]
                    exact W.objInit hx hb hown (hts _ w1) (hts _ w2) (hts _ w3) (g := F0 m pc ls (.ref (ad1 o) :: r.map (mm_rho ad1))) rfl (hl1.1.1.trans hml.symm) rfl hdg (Nat.succ_le_succ (Nat.zero_le _)) (by show 2 * 0 + _ + 12 ≤ 40 * (d + 1); rw [mm_cat_le ad1 r hrcat]; omega) hgo
                  · cases h
                · rename_i hy9
                  have hyn : y' ≠ 999 := fun q => by rw [q] at hy9; cases hy9
                  split at h
                  · rename_i hlr
                    rw [Bool.and_eq_true] at hlr
                    split at h
                    · rename_i κ2 hcall
                      obtain ⟨m1, m2⟩ := hCm _ _ _ _ hcall
                      obtain ⟨f1, f2⟩ := bm_run_mono hCm _ _ _ _ _ _ h
                      obtain ⟨dd, hdd, hT⟩ := hC _ _ _ _ hcall
                      obtain ⟨hmx, hcode, hini, hinst, hnm1, hd, hlk2⟩ := hkn hyn
                      intro ad1 H locs ls hag hP1 hD1 hS1 hl1
                      have hMt := hT ad1 H.size
                      have hgo := ihn _ _ _ _ h (Nat.le_trans hn0 m1) (Nat.le_trans hs0 m2)
                      have hstk : S.map (mm_rho ad1) = (as'.map (mm_rho ad1)).reverse ++ .ref (ad1 o) :: r.map (mm_rho ad1) := by rw [hS2]; simp [mm_rho]
                      have hA1 : ∀ q, va_A (bm_wd ad1 (cI, cZ, cG) κ1) H.size q → A q := fun q hq => by
                        rcases hq with ⟨k, e9, h9⟩ | h9
                        · exact hD1.2 k (q, e9) h9
                        · exact hA q (Nat.le_trans hS1.1 h9)
                      have hpre : PreS s H (va_Pc ((Value.ref o :: as').map (mm_rho ad1)) (bm_B D cl [(cI, .int), (cZ, .boolean), (cG, .array .int)] ne ad1 (cI, cZ, cG) κ1 H.size)) (.ref (ad1 o) :: as'.map (mm_rho ad1)) :=
                        ⟨fun a U g mk q => by obtain ⟨q0, q1, qP, ⟨qK, qN⟩, qD⟩ := q; exact ⟨q0, q1, qP, ⟨va_K.moved (u := U) (U := U.calling g mk a) (Vm.Alike.refl U.vm) qK, bm_N.same (u := U) (U := U.calling g mk a) rfl qN⟩, qD⟩, fun U hU hW => ⟨rfl, by rw [hU], by rw [hU]; exact hP1, ⟨va_K.moved hW.alike hK, bm_N.moved hW hN⟩, hD1.weaken (fun _ _ _ _ => trivial)⟩⟩
                      have hroom : (bm_rm dd κ1 κ2).frames + 1 ≤ (bm_rm d κ κ').frames ∧ 8 + (mx y' + 11) + (bm_rm dd κ1 κ2).locals ≤ (bm_rm d κ κ').locals := by
                        refine ⟨?_, ?_⟩
                        · show dd + 1 + 1 ≤ d + 1; omega
                        · show 8 + (mx y' + 11) + 40 * (dd + 1) ≤ 40 * (d + 1); omega
                      have hcs1 : κ1.length - κ.length + (κ2.length - κ1.length) ≤ (bm_rm d κ κ').cells ∧ bm_sl κ1 - bm_sl κ + (bm_sl κ2 - bm_sl κ1) ≤ (bm_rm d κ κ').slots := by
                        refine ⟨?_, ?_⟩
                        · show _ ≤ κ'.length - κ.length; omega
                        · show _ ≤ bm_sl κ' - bm_sl κ; omega
                      rw [hstk]
                      have hkk2 : ∀ (ad' : Nat → Nat) (H1 : Heap) (locs1 : List Loc), (∀ k, k < κ1.length → ad' k = ad1 k) → va_P D cl (bm_wd ad' (cI, cZ, cG) κ2) H1 → va_D A (bm_wd ad' (cI, cZ, cG) κ2) → va_S A s.heap H1 locs1 → W p l e (bm_rm d κ κ') s m (as.map (mm_rho ad)).toArray below meth c H1 locs1 (κ1.length - κ.length + (κ2.length - κ1.length)) (bm_sl κ1 - bm_sl κ + (bm_sl κ2 - bm_sl κ1)) (MQ below (bm_Qc D cl [(cI, .int), (cZ, .boolean), (cG, .array .int)] A κ.length ad (cI, cZ, cG) κ') (as.map (mm_rho ad)).toArray s (κ'.length - κ.length) (bm_sl κ' - bm_sl κ) A) (F0 m (pc + 3) ls (r.map (mm_rho ad1))) := by
                        intro ad' H1 locs1 hag1 hP2 hD2 hS2'
                        have h9 := hgo ad' H1 locs1 ls (fun k hk => (hag1 k (by omega)).trans (hag k hk)) hP2 hD2 hS2' (bm_lh_ag hag1 hlr.1 hl1)
                        rw [bm_map_ag hag1 hlr.2] at h9
                        rw [show κ1.length - κ.length + (κ2.length - κ1.length) = κ2.length - κ.length by omega, show bm_sl κ1 - bm_sl κ + (bm_sl κ2 - bm_sl κ1) = bm_sl κ2 - bm_sl κ by omega]
                        exact h9
                      rcases hlk2 with hlink | ⟨host, hne⟩
                      · exact bm_goon (va_runI (b := ad1 o) (As := as'.map (mm_rho ad1)) (rest := r.map (mm_rho ad1)) (n := na) ⟨hx, hb, hml, hown, hts⟩ hMt (cwI na hts (hG y' hcode) rfl rfl rfl (hts _ hini) (hts _ hlink) (hts _ hinst) hnm1 hd hroom) hpre rfl (by rw [List.length_map]; exact hna) hl1.1.1 rfl (lv_room (by rw [mm_cat_le ad1 r hrcat]; exact hr8)) hdg hcs1) hS1 hA1 hkk2
                      · exact bm_goon (va_runIN (b := ad1 o) (As := as'.map (mm_rho ad1)) (rest := r.map (mm_rho ad1)) (n := na) (host := host) ⟨hx, hb, hml, hown, hts⟩ hMt ⟨va_cnB na hts (hG y' hcode) rfl rfl rfl (hN.1 _ hne) (hts _ hini) hd hroom, hnm1, hts _ hinst⟩ hpre rfl (by rw [List.length_map]; exact hna) hl1.1.1 rfl (lv_room (by rw [mm_cat_le ad1 r hrcat]; exact hr8)) hdg hcs1) hS1 hA1 hkk2
                    · cases h
                  · cases h
              · cases h
            · cases h
          · cases h
        · split at h
          · rename_i pc' L' S' κ2 hst
            obtain ⟨m1, m2⟩ := bm_step_mono hst
            obtain ⟨f1, f2⟩ := bm_run_mono hCm _ _ _ _ _ _ h
            exact bm_sstep (Ts := Ts) (own := (nm y).cls) hx hb hown hts hK hA hin2 hN.2 hwI hwZ hnw hpt hE1 hmn1 hst hn0 hs0 (by show _ ≤ κ'.length - κ.length; omega) (by show _ ≤ bm_sl κ' - bm_sl κ; omega) (ihn _ _ _ _ h (Nat.le_trans hn0 m1) (Nat.le_trans hs0 m2))
          · cases h
  have h0 := main 400 0 _ _ _ hrun (Nat.le_refl _) (Nat.le_refl _) ad s.heap [] ls0 (fun _ _ => rfl) hP hD va_S.rf hlh
  rw [Nat.sub_self, Nat.sub_self] at h0
  exact h0
theorem bm_sound (hgood : ∀ w ∈ Ts, goodWord w = true) (hwI : Cond.arrayClass .int ∈ Ts) (hwZ : Cond.arrayClass .boolean ∈ Ts) (hok : ∀ y M, mm_nth Y y = some M → bm_okM Ts nm by_ mx cl ne ty M y) :
    ∀ d y as κ κ', bm_D ty Y mx (d + 1) y as κ = some κ' → bm_T l Ts nm by_ mx D cl [(cI, .int), (cZ, .boolean), (cG, .array .int)] ne (cI, cZ, cG) d y as κ κ' := by
  intro d
  induction d with
  | zero =>
    intro y as κ κ' h
    unfold bm_D at h
    split at h
    · rename_i M hM
      split at h
      · rename_i hc
        exact bm_body hgood hwI hwZ (hok y M hM) (bm_D_mono 0) (fun y as κ κ1 h9 => by simp [bm_D] at h9) hc h
      · cases h
    · cases h
  | succ d ih =>
    intro y as κ κ' h
    unfold bm_D at h
    split at h
    · rename_i M hM
      split at h
      · rename_i hc
        exact bm_body hgood hwI hwZ (hok y M hM) (bm_D_mono (d + 1)) (fun y as κ κ1 h9 => ⟨d, Nat.lt_succ_self d, ih y as κ κ1 h9⟩) hc h
      · cases h
    · cases h
end BMsound
end

section
section
/-! The small machine: one step of a method over numbered cells; what it says is tied to W further down. -/
/-- what the cells hold: cell, place -/
abbrev mm_S : Type := Nat → Nat → Int32
def mm_up (σ : mm_S) (k j : Nat) (v : Int32) : mm_S := fun k' => if k' = k then upd (σ k) j v else σ k'
def mm_nth {α : Type} : List α → Nat → Option α
  | [], _ => none
  | a :: _, 0 => some a
  | _ :: r, i + 1 => mm_nth r i
def mm_set {α : Type} : List α → Nat → α → List α
  | [], _, _ => []
  | _ :: r, 0, b => b :: r
  | a :: r, i + 1, b => a :: mm_set r i b
def mm_look {α : Type} : List (Nat × α) → Nat → Option α
  | [], _ => none
  | (k, a) :: r, q => match Nat.beq k q with
    | true => some a
    | false => mm_look r q
/-- an instruction's row: itself, its length, where it goes, its number -/
abbrev mm_E : Type := ClassFile.Instr × Nat × Nat × Int32
/-- a cell's kind: (0, class, fields: none an int, some t the cell t), (1, n, []) ints, (2, n, []) booleans, (3, n, []) rows of ints at the n cells behind it -/
abbrev mm_K : Type := Nat × Nat × List (Option Nat)
/-- a method's row: its instructions, the fields that it reads (pool number, class, place), those that it writes, its calls (pool number, method, how many arguments, the class whose object it is called on, 99: none), what it returns (0, 1: an int, 2: a boolean) -/
abbrev mm_M : Type := List (Nat × mm_E) × List (Nat × Nat × Nat) × List (Nat × Nat × Nat) × List (Nat × Nat × Nat × Nat) × Nat
/-- a system: cells, booleans among the fields (class, place), methods -/
abbrev mm_Y : Type := List mm_K × List (Nat × Nat) × List mm_M
def mm_kd (Y : mm_Y) (k : Nat) : mm_K := (mm_nth Y.1 k).getD (9, 0, [])
def mm_ia (Y : mm_Y) (k : Nat) (i : Int32) : Prop := match mm_kd Y k with
  | (1, n, _) => vp_in i n
  | _ => False
def mm_za (Y : mm_Y) (k : Nat) (i : Int32) : Prop := match mm_kd Y k with
  | (2, n, _) => vp_in i n
  | _ => False
def mm_ga (Y : mm_Y) (k : Nat) (i : Int32) : Prop := match mm_kd Y k with
  | (3, n, _) => vp_in i n
  | _ => False
def mm_gf (Y : mm_Y) (k ci j : Nat) : Option (Option Nat) := match mm_kd Y k with
  | (0, ci', fs) => match Nat.beq ci' ci with
    | true => mm_nth fs j
    | false => none
  | _ => none
def mm_isZ (Y : mm_Y) (ci j : Nat) : Bool := Y.2.1.any (fun q => Nat.beq q.1 ci && Nat.beq q.2 j)
def mm_me (Y : mm_Y) (M : Nat) : mm_M := (mm_nth Y.2.2 M).getD ([], [], [], [], 0)
def mm_br (c A B : Prop) : Prop := (c → A) ∧ (¬ c → B)
def mm_pop : Nat → List Value → List Value → Option (List Value × List Value)
  | 0, acc, S => some (acc, S)
  | n + 1, acc, v :: S => mm_pop n (v :: acc) S
  | _ + 1, _, [] => none
abbrev mm_Q : Type := Option Value → mm_S → Prop
abbrev mm_C : Type := Nat → List Value → mm_S → mm_Q → Prop
abbrev mm_X : Type := Nat → List (Option Value) → List Value → mm_S → Prop
def mm_ldi (L : List (Option Value)) (i : Nat) (K : Int32 → Prop) : Prop := match mm_nth L i with
  | some (some (.int x)) => K x
  | _ => False
def mm_lda (L : List (Option Value)) (i : Nat) (K : Nat → Prop) : Prop := match mm_nth L i with
  | some (some (.ref x)) => K x
  | _ => False
def mm_sto (L : List (Option Value)) (i : Nat) (v : Value) (K : List (Option Value) → Prop) : Prop := match mm_nth L i with
  | some _ => K (mm_set L i (some v))
  | none => False
def mm_1 (S : List Value) (K : Int32 → List Value → Prop) : Prop := match S with
  | .int x :: r => K x r
  | _ => False
def mm_2 (S : List Value) (K : Int32 → Int32 → List Value → Prop) : Prop := match S with
  | .int y :: .int x :: r => K x y r
  | _ => False
def mm_r (S : List Value) (K : Nat → List Value → Prop) : Prop := match S with
  | .ref k :: r => K k r
  | _ => False
def mm_ir (S : List Value) (K : Int32 → Nat → List Value → Prop) : Prop := match S with
  | .int x :: .ref k :: r => K x k r
  | _ => False
def mm_iir (S : List Value) (K : Int32 → Int32 → Nat → List Value → Prop) : Prop := match S with
  | .int x :: .int i :: .ref k :: r => K x i k r
  | _ => False
def mm_icmp (c : ClassFile.Cond) (x y : Int32) (A B : Prop) : Prop := match c with
  | .eq => mm_br (x = y) A B
  | .ne => mm_br (x = y) B A
  | .lt => mm_br (x < y) A B
  | .ge => mm_br (y ≤ x) A B
  | .gt => mm_br (y < x) A B
  | .le => mm_br (x ≤ y) A B
def mm_if (c : ClassFile.Cond) (x : Int32) (A B : Prop) : Prop := match c with
  | .eq => mm_br (x = 0) A B
  | .ne => mm_br (x = 0) B A
  | .lt => mm_br (x < 0) A B
  | .ge => mm_br (0 ≤ x) A B
  | .gt => mm_br (0 < x) A B
  | .le => mm_br (x ≤ 0) A B
def mm_c1 (n : Nat) (as : List Value) : Bool := Nat.ble as.length n && as.all (fun v => match v with | .int _ => true | .ref _ => true | _ => false)
def mm_rcv (Y : mm_Y) (self ci : Nat) (as : List Value) : Bool := match self with
  | 0 => Nat.beq ci 99
  | _ + 1 => match as with
    | .ref k :: _ => match mm_kd Y k with
      | (0, c, _) => Nat.beq c ci && !(Nat.beq ci 99)
      | _ => false
    | _ => false
def mm_call (Y : mm_Y) (C : mm_C) (M : mm_M) (idx self : Nat) (S : List Value) (σ : mm_S) (K : List Value → mm_S → Prop) : Prop := match mm_look M.2.2.2.1 idx with
  | some (y, n, ci) => match mm_pop (n + self) [] S with
    | some (as, r) => match mm_c1 8 r && mm_rcv Y self ci as with
      | true => C y as σ (fun v σ' => K (v.toList ++ r) σ')
      | false => False
    | none => False
  | none => False
def mm_gv (Y : mm_Y) (M : mm_M) (idx k : Nat) (σ : mm_S) (K : Value → Prop) : Prop := match mm_look M.2.1 idx with
  | some (ci, j) => match mm_gf Y k ci j with
    | some (some q) => K (.ref q)
    | some none => K (.int (σ k j))
    | none => False
  | none => False
def mm_pv (Y : mm_Y) (M : mm_M) (idx k : Nat) (x : Int32) (σ : mm_S) (K : mm_S → Prop) : Prop := match mm_look M.2.2.1 idx with
  | some (ci, j) => match mm_gf Y k ci j with
    | some none => match mm_isZ Y ci j with
      | true => (x = 0 ∨ x = 1) ∧ K (mm_up σ k j x)
      | false => K (mm_up σ k j x)
    | _ => False
  | none => False
def mm_d1 (S : List Value) (K : Value → List Value → Prop) : Prop := match S with
  | .int x :: r => K (.int x) r
  | .ref x :: r => K (.ref x) r
  | _ => False
def mm_d2 (S : List Value) (K : Value → Value → List Value → Prop) : Prop := match S with
  | .int x :: .ref y :: r => K (.int x) (.ref y) r
  | _ => False
def mm_rt (M : mm_M) (Q : mm_Q) (S : List Value) (σ : mm_S) : Prop := match S with
  | [.int v] => match M.2.2.2.2 with
    | 1 => Q (some (.int v)) σ
    | 2 => (v = 0 ∨ v = 1) ∧ Q (some (.int v)) σ
    | _ => False
  | _ => False
def mm_rv (M : mm_M) (Q : mm_Q) (S : List Value) (σ : mm_S) : Prop := match S with
  | [] => match M.2.2.2.2 with
    | 0 => Q none σ
    | _ => False
  | _ => False
/-- a switch -/
def mm_sw (pc : Nat) (dflt lo hi : Int) (offs : Array Int) (x : Int32) (K : Nat → Prop) : Prop := if x.toInt < lo ∨ hi < x.toInt then K ((pc : Int) + dflt).toNat else match offs[(x.toInt - lo).toNat]? with
  | some off => K ((pc : Int) + off).toNat
  | none => False
/-- one instruction: what must hold for X to hold behind it -/
def mm_one (Y : mm_Y) (C : mm_C) (M : mm_M) (Q : mm_Q) (X : mm_X) : mm_X := fun pc L S σ => match mm_look M.1 pc with
  | none => False
  | some (i, len, t, c) => match i with
    | .iload_n k => mm_ldi L k.val (fun x => X (pc + 1) L (.int x :: S) σ)
    | .iload k => mm_ldi L k (fun x => X (pc + 2) L (.int x :: S) σ)
    | .aload_n k => mm_lda L k.val (fun x => X (pc + 1) L (.ref x :: S) σ)
    | .aload k => mm_lda L k (fun x => X (pc + 2) L (.ref x :: S) σ)
    | .istore_n k => mm_1 S (fun x r => mm_sto L k.val (.int x) (fun L' => X (pc + 1) L' r σ))
    | .istore k => mm_1 S (fun x r => mm_sto L k (.int x) (fun L' => X (pc + 2) L' r σ))
    | .astore_n k => mm_r S (fun x r => mm_sto L k.val (.ref x) (fun L' => X (pc + 1) L' r σ))
    | .astore k => mm_r S (fun x r => mm_sto L k (.ref x) (fun L' => X (pc + 2) L' r σ))
    | .iinc k _ => mm_ldi L k (fun x => mm_sto L k (.int (x + c)) (fun L' => X (pc + 3) L' S σ))
    | .iconst _ => X (pc + 1) L (.int c :: S) σ
    | .bipush _ => X (pc + 2) L (.int c :: S) σ
    | .sipush _ => X (pc + 3) L (.int c :: S) σ
    | .ldc_w _ => X (pc + 3) L (.int c :: S) σ
    | .iadd => mm_2 S (fun x y r => X (pc + 1) L (.int (x + y) :: r) σ)
    | .isub => mm_2 S (fun x y r => X (pc + 1) L (.int (x - y) :: r) σ)
    | .imul => mm_2 S (fun x y r => X (pc + 1) L (.int (x * y) :: r) σ)
    | .idiv => mm_2 S (fun x y r => ¬ y = 0 ∧ X (pc + 1) L (.int (x / y) :: r) σ)
    | .irem => mm_2 S (fun x y r => ¬ y = 0 ∧ X (pc + 1) L (.int (x - x / y * y) :: r) σ)
    | .iand => mm_2 S (fun x y r => X (pc + 1) L (.int (x &&& y) :: r) σ)
    | .ior => mm_2 S (fun x y r => X (pc + 1) L (.int (x ||| y) :: r) σ)
    | .ixor => mm_2 S (fun x y r => X (pc + 1) L (.int (x ^^^ y) :: r) σ)
    | .ishl => mm_2 S (fun x y r => X (pc + 1) L (.int (x <<< (y &&& 31)) :: r) σ)
    | .ishr => mm_2 S (fun x y r => X (pc + 1) L (.int (x >>> (y &&& 31)) :: r) σ)
    | .iushr => mm_2 S (fun x y r => X (pc + 1) L (.int (x.toUInt32 >>> (y.toUInt32 &&& Int32.toUInt32 31)).toInt32 :: r) σ)
    | .dup => mm_d1 S (fun v r => X (pc + 1) L (v :: v :: r) σ)
    | .dup2 => mm_d2 S (fun v w r => X (pc + 1) L (v :: w :: v :: w :: r) σ)
    | .pop => mm_d1 S (fun _ r => X (pc + 1) L r σ)
    | .iaload => mm_ir S (fun j k r => mm_ia Y k j ∧ X (pc + 1) L (.int (σ k j.toNatClampNeg) :: r) σ)
    | .baload => mm_ir S (fun j k r => mm_za Y k j ∧ X (pc + 1) L (.int (σ k j.toNatClampNeg) :: r) σ)
    | .aaload => mm_ir S (fun j k r => mm_ga Y k j ∧ X (pc + 1) L (.ref (k + 1 + j.toNatClampNeg) :: r) σ)
    | .iastore => mm_iir S (fun x j k r => mm_ia Y k j ∧ X (pc + 1) L r (mm_up σ k j.toNatClampNeg x))
    | .bastore => mm_iir S (fun x j k r => mm_za Y k j ∧ X (pc + 1) L r (mm_up σ k j.toNatClampNeg (vp_nar .boolean x)))
    | .getfield idx => mm_r S (fun k r => mm_gv Y M idx k σ (fun v => X (pc + 3) L (v :: r) σ))
    | .putfield idx => mm_ir S (fun x k r => mm_pv Y M idx k x σ (fun σ' => X (pc + 3) L r σ'))
    | .goto _ => X t L S σ
    | .ifCond cd _ => mm_1 S (fun x r => mm_if cd x (X t L r σ) (X (pc + 3) L r σ))
    | .if_icmp cd _ => mm_2 S (fun x y r => mm_icmp cd x y (X t L r σ) (X (pc + 3) L r σ))
    | .invokevirtual idx => mm_call Y C M idx 1 S σ (fun S' σ' => X (pc + 3) L S' σ')
    | .invokestatic idx => mm_call Y C M idx 0 S σ (fun S' σ' => X (pc + 3) L S' σ')
    | .tableswitch dflt lo hi offs => mm_1 S (fun x r => mm_sw pc dflt lo hi offs x (fun t => X t L r σ))
    | .ireturn => mm_rt M Q S σ
    | .return_ => mm_rv M Q S σ
    | _ => False
/-- several -/
def mm_run (Y : mm_Y) (C : mm_C) (M : mm_M) (Q : mm_Q) (X : mm_X) : Nat → mm_X
  | 0 => X
  | n + 1 => mm_one Y C M Q (mm_run Y C M Q X n)
/-- a walk to the end: the least X that one instruction leads back from -/
def mm_W (Y : mm_Y) (C : mm_C) (M : mm_M) (Q : mm_Q) : mm_X := fun pc L S σ => ∀ X : mm_X, (∀ pc L S σ, mm_one Y C M Q X pc L S σ → X pc L S σ) → X pc L S σ
def mm_ent (n : Nat) (as : List Value) : List (Option Value) := as.map some ++ List.replicate (n - as.length) none
/-- a call: nested at most d deep; B: the calls that are known already, mx: how many locals a method has -/
def mm_D (Y : mm_Y) (B : mm_C) (mx : Nat → Nat) : Nat → mm_C
  | 0 => B
  | d + 1 => fun y as σ Q => B y as σ Q ∨ (mm_c1 (mx y) as = true ∧ mm_W Y (mm_D Y B mx d) (mm_me Y y) Q 0 (mm_ent (mx y) as) [] σ)
def mm_mono (C : mm_C) : Prop := ∀ y as σ (Q Q' : mm_Q), (∀ v σ', Q v σ' → Q' v σ') → C y as σ Q → C y as σ Q'
section MMmono
theorem mm_ldi_mono {L : List (Option Value)} {i : Nat} {K K' : Int32 → Prop} (h : ∀ x, K x → K' x) : mm_ldi L i K → mm_ldi L i K' := by
  unfold mm_ldi; split
  · exact h _
  · exact id
theorem mm_lda_mono {L : List (Option Value)} {i : Nat} {K K' : Nat → Prop} (h : ∀ x, K x → K' x) : mm_lda L i K → mm_lda L i K' := by
  unfold mm_lda; split
  · exact h _
  · exact id
theorem mm_sto_mono {L : List (Option Value)} {i : Nat} {v : Value} {K K' : List (Option Value) → Prop} (h : ∀ x, K x → K' x) : mm_sto L i v K → mm_sto L i v K' := by
  unfold mm_sto; split
  · exact h _
  · exact id
theorem mm_1_mono {S : List Value} {K K' : Int32 → List Value → Prop} (h : ∀ x r, K x r → K' x r) : mm_1 S K → mm_1 S K' := by
  unfold mm_1; split
  · exact h _ _
  · exact id
theorem mm_2_mono {S : List Value} {K K' : Int32 → Int32 → List Value → Prop} (h : ∀ x y r, K x y r → K' x y r) : mm_2 S K → mm_2 S K' := by
  unfold mm_2; split
  · exact h _ _ _
  · exact id
theorem mm_r_mono {S : List Value} {K K' : Nat → List Value → Prop} (h : ∀ x r, K x r → K' x r) : mm_r S K → mm_r S K' := by
  unfold mm_r; split
  · exact h _ _
  · exact id
theorem mm_ir_mono {S : List Value} {K K' : Int32 → Nat → List Value → Prop} (h : ∀ x k r, K x k r → K' x k r) : mm_ir S K → mm_ir S K' := by
  unfold mm_ir; split
  · exact h _ _ _
  · exact id
theorem mm_iir_mono {S : List Value} {K K' : Int32 → Int32 → Nat → List Value → Prop} (h : ∀ x i k r, K x i k r → K' x i k r) : mm_iir S K → mm_iir S K' := by
  unfold mm_iir; split
  · exact h _ _ _ _
  · exact id
theorem mm_br_mono {c A B A' B' : Prop} (h1 : A → A') (h2 : B → B') : mm_br c A B → mm_br c A' B' := fun h => ⟨fun q => h1 (h.1 q), fun q => h2 (h.2 q)⟩
theorem mm_icmp_mono {c : ClassFile.Cond} {x y : Int32} {A B A' B' : Prop} (h1 : A → A') (h2 : B → B') : mm_icmp c x y A B → mm_icmp c x y A' B' := by
  cases c
  · exact mm_br_mono h1 h2
  · exact mm_br_mono h2 h1
  · exact mm_br_mono h1 h2
  · exact mm_br_mono h1 h2
  · exact mm_br_mono h1 h2
  · exact mm_br_mono h1 h2
theorem mm_if_mono {c : ClassFile.Cond} {x : Int32} {A B A' B' : Prop} (h1 : A → A') (h2 : B → B') : mm_if c x A B → mm_if c x A' B' := by
  cases c
  · exact mm_br_mono h1 h2
  · exact mm_br_mono h2 h1
  · exact mm_br_mono h1 h2
  · exact mm_br_mono h1 h2
  · exact mm_br_mono h1 h2
  · exact mm_br_mono h1 h2
theorem mm_call_mono {Y : mm_Y} {C : mm_C} {M : mm_M} {idx self : Nat} {S : List Value} {σ : mm_S} {K K' : List Value → mm_S → Prop} (hC : mm_mono C) (h : ∀ S σ, K S σ → K' S σ) : mm_call Y C M idx self S σ K → mm_call Y C M idx self S σ K' := by
  unfold mm_call
  split
  · split
    · split
      · exact hC _ _ _ _ _ (fun v σ' => h _ _)
      · exact id
    · exact id
  · exact id
theorem mm_gv_mono {Y : mm_Y} {M : mm_M} {idx k : Nat} {σ : mm_S} {K K' : Value → Prop} (h : ∀ v, K v → K' v) : mm_gv Y M idx k σ K → mm_gv Y M idx k σ K' := by
  unfold mm_gv
  split
  · split
    · exact h _
    · exact h _
    · exact id
  · exact id
theorem mm_pv_mono {Y : mm_Y} {M : mm_M} {idx k : Nat} {x : Int32} {σ : mm_S} {K K' : mm_S → Prop} (h : ∀ v, K v → K' v) : mm_pv Y M idx k x σ K → mm_pv Y M idx k x σ K' := by
  unfold mm_pv
  split
  · split
    · split
      · exact fun q => ⟨q.1, h _ q.2⟩
      · exact h _
    · exact id
  · exact id
theorem mm_d1_mono {S : List Value} {K K' : Value → List Value → Prop} (h : ∀ x r, K x r → K' x r) : mm_d1 S K → mm_d1 S K' := by
  unfold mm_d1; split
  · exact h _ _
  · exact h _ _
  · exact id
theorem mm_d2_mono {S : List Value} {K K' : Value → Value → List Value → Prop} (h : ∀ x y r, K x y r → K' x y r) : mm_d2 S K → mm_d2 S K' := by
  unfold mm_d2; split
  · exact h _ _ _
  · exact id
theorem mm_rt_mono {M : mm_M} {Q Q' : mm_Q} {S : List Value} {σ : mm_S} (h : ∀ v σ, Q v σ → Q' v σ) : mm_rt M Q S σ → mm_rt M Q' S σ := by
  unfold mm_rt; split
  · split
    · exact h _ _
    · exact fun q => ⟨q.1, h _ _ q.2⟩
    · exact id
  · exact id
theorem mm_rv_mono {M : mm_M} {Q Q' : mm_Q} {S : List Value} {σ : mm_S} (h : ∀ v σ, Q v σ → Q' v σ) : mm_rv M Q S σ → mm_rv M Q' S σ := by
  unfold mm_rv; split
  · split
    · exact h _ _
    · exact id
  · exact id
theorem mm_sw_mono {pc : Nat} {dflt lo hi : Int} {offs : Array Int} {x : Int32} {K K' : Nat → Prop} (h : ∀ t, K t → K' t) : mm_sw pc dflt lo hi offs x K → mm_sw pc dflt lo hi offs x K' := by
  unfold mm_sw; split
  · exact h _
  · split
    · exact h _
    · exact id
theorem mm_one_mono {Y : mm_Y} {C : mm_C} {M : mm_M} {Q Q' : mm_Q} {X X' : mm_X} (hC : mm_mono C) (hQ : ∀ v σ, Q v σ → Q' v σ) (hX : ∀ pc L S σ, X pc L S σ → X' pc L S σ) : ∀ pc L S σ, mm_one Y C M Q X pc L S σ → mm_one Y C M Q' X' pc L S σ := by
  intro pc L S σ h
  unfold mm_one at h ⊢
  cases hI : mm_look M.1 pc with
  | none => simp only [hI] at h
  | some q =>
    obtain ⟨i, len, t, c⟩ := q
    simp only [hI] at h ⊢
    cases i
    all_goals first
      | exact h.elim
      | exact hX _ _ _ _ h
      | exact mm_ldi_mono (fun x h => hX _ _ _ _ h) h
      | exact mm_ldi_mono (fun x h => mm_sto_mono (fun _ h => hX _ _ _ _ h) h) h
      | exact mm_lda_mono (fun x h => hX _ _ _ _ h) h
      | exact mm_1_mono (fun x r h => mm_sto_mono (fun _ h => hX _ _ _ _ h) h) h
      | exact mm_r_mono (fun x r h => mm_sto_mono (fun _ h => hX _ _ _ _ h) h) h
      | exact mm_2_mono (fun x y r h => hX _ _ _ _ h) h
      | exact mm_2_mono (fun x y r h => ⟨h.1, hX _ _ _ _ h.2⟩) h
      | exact mm_d1_mono (fun x r h => hX _ _ _ _ h) h
      | exact mm_d2_mono (fun x y r h => hX _ _ _ _ h) h
      | exact mm_ir_mono (fun j k r h => ⟨h.1, hX _ _ _ _ h.2⟩) h
      | exact mm_iir_mono (fun x j k r h => ⟨h.1, hX _ _ _ _ h.2⟩) h
      | exact mm_r_mono (fun k r h => mm_gv_mono (fun v h => hX _ _ _ _ h) h) h
      | exact mm_ir_mono (fun x k r h => mm_pv_mono (fun v h => hX _ _ _ _ h) h) h
      | exact mm_1_mono (fun x r h => mm_if_mono (hX _ _ _ _) (hX _ _ _ _) h) h
      | exact mm_2_mono (fun x y r h => mm_icmp_mono (hX _ _ _ _) (hX _ _ _ _) h) h
      | exact mm_1_mono (fun x r h => mm_sw_mono (fun t h => hX _ _ _ _ h) h) h
      | exact mm_call_mono hC (fun S σ h => hX _ _ _ _ h) h
      | exact mm_rt_mono hQ h
      | exact mm_rv_mono hQ h
theorem mm_W_mono {Y : mm_Y} {C : mm_C} {M : mm_M} {Q Q' : mm_Q} (hC : mm_mono C) (hQ : ∀ v σ, Q v σ → Q' v σ) {pc : Nat} {L : List (Option Value)} {S : List Value} {σ : mm_S} (h : mm_W Y C M Q pc L S σ) : mm_W Y C M Q' pc L S σ :=
  fun X hX => h X (fun pc L S σ q => hX pc L S σ (mm_one_mono hC hQ (fun _ _ _ _ z => z) pc L S σ q))
/-- the first instruction, then the rest of the walk -/
theorem mm_in {Y : mm_Y} {C : mm_C} {M : mm_M} {Q : mm_Q} (hC : mm_mono C) {pc : Nat} {L : List (Option Value)} {S : List Value} {σ : mm_S} (h : mm_one Y C M Q (mm_W Y C M Q) pc L S σ) : mm_W Y C M Q pc L S σ :=
  fun X hX => hX pc L S σ (mm_one_mono hC (fun _ _ z => z) (fun _ _ _ _ z => z X hX) pc L S σ h)
theorem mm_ink {Y : mm_Y} {C : mm_C} {M : mm_M} {Q : mm_Q} (hC : mm_mono C) : ∀ (n pc : Nat) (L : List (Option Value)) (S : List Value) (σ : mm_S), mm_run Y C M Q (mm_W Y C M Q) n pc L S σ → mm_W Y C M Q pc L S σ
  | 0, _, _, _, _, h => h
  | n + 1, pc, L, S, σ, h => mm_in hC (mm_one_mono hC (fun _ _ z => z) (mm_ink hC n) pc L S σ h)
theorem mm_D_mono {Y : mm_Y} {B : mm_C} {mx : Nat → Nat} (hB : mm_mono B) : ∀ d, mm_mono (mm_D Y B mx d)
  | 0 => hB
  | d + 1 => fun y as σ Q Q' hq h => h.elim (fun h => Or.inl (hB y as σ Q Q' hq h)) (fun h => Or.inr ⟨h.1, mm_W_mono (mm_D_mono hB d) hq h.2⟩)
theorem mm_call_C {Y : mm_Y} {C C' : mm_C} {M : mm_M} {idx self : Nat} {S : List Value} {σ : mm_S} {K : List Value → mm_S → Prop} (hC : ∀ y as σ Q, C y as σ Q → C' y as σ Q) : mm_call Y C M idx self S σ K → mm_call Y C' M idx self S σ K := by
  unfold mm_call
  split
  · split
    · split
      · exact hC _ _ _ _
      · exact id
    · exact id
  · exact id
theorem mm_one_C {Y : mm_Y} {C C' : mm_C} {M : mm_M} {Q : mm_Q} {X : mm_X} (hC : ∀ y as σ Q, C y as σ Q → C' y as σ Q) : ∀ pc L S σ, mm_one Y C M Q X pc L S σ → mm_one Y C' M Q X pc L S σ := by
  intro pc L S σ h
  unfold mm_one at h ⊢
  cases hI : mm_look M.1 pc with
  | none => simp only [hI] at h
  | some q =>
    obtain ⟨i, len, t, c⟩ := q
    simp only [hI] at h ⊢
    cases i
    all_goals first
      | exact h
      | exact mm_call_C hC h
theorem mm_W_C {Y : mm_Y} {C C' : mm_C} {M : mm_M} {Q : mm_Q} (hC : ∀ y as σ Q, C y as σ Q → C' y as σ Q) {pc : Nat} {L : List (Option Value)} {S : List Value} {σ : mm_S} (h : mm_W Y C M Q pc L S σ) : mm_W Y C' M Q pc L S σ :=
  fun X hX => h X (fun pc L S σ q => hX pc L S σ (mm_one_C hC pc L S σ q))
theorem mm_D_1 {Y : mm_Y} {B : mm_C} {mx : Nat → Nat} : ∀ d y as σ Q, mm_D Y B mx d y as σ Q → mm_D Y B mx (d + 1) y as σ Q
  | 0, _, _, _, _, h => Or.inl h
  | d + 1, _, _, _, _, h => h.elim Or.inl (fun h => Or.inr ⟨h.1, mm_W_C (mm_D_1 d) h.2⟩)
theorem mm_D_le {Y : mm_Y} {B : mm_C} {mx : Nat → Nat} {d e : Nat} (h : d ≤ e) : ∀ y as σ Q, mm_D Y B mx d y as σ Q → mm_D Y B mx e y as σ Q := by
  induction h with
  | refl => exact fun _ _ _ _ z => z
  | step _ ih => exact fun y as σ Q z => mm_D_1 _ y as σ Q (ih y as σ Q z)
end MMmono
end
section
/-! The small machine's cells and locals as the kit has them -/
def mm_rho (ad : Nat → Nat) : Value → Value
  | .ref k => .ref (ad k)
  | v => v
theorem mm_rho_cat (ad : Nat → Nat) (v : Value) : (mm_rho ad v).category = v.category := by cases v <;> rfl
def mm_fv (ad : Nat → Nat) (f : Nat → Int32) : Nat → List (Option Nat) → List Value
  | _, [] => []
  | j, none :: r => .int (f j) :: mm_fv ad f (j + 1) r
  | j, some t :: r => .ref (ad t) :: mm_fv ad f (j + 1) r
def mm_ce (ad : Nat → Nat) (a3 : ClassId × ClassId × ClassId) (Y : mm_Y) (σ : mm_S) (k : Nat) : va_E := match mm_kd Y k with
  | (0, ci, fs) => .inr (ci, mm_fv ad (σ k) 0 fs)
  | (1, n, _) => .inl (a3.1, n, .inl (σ k))
  | (2, n, _) => .inl (a3.2.1, n, .inl (σ k))
  | (_, n, _) => .inl (a3.2.2, n, .inr (.inr (.inr (.inr (fun j => if j < n then some (ad (k + 1 + j)) else none)))))
def mm_wd (ad : Nat → Nat) (a3 : ClassId × ClassId × ClassId) (Y : mm_Y) (σ : mm_S) : va_W := (List.range Y.1.length).map (fun k => (ad k, mm_ce ad a3 Y σ k))
theorem mm_nth_lt {α : Type} : ∀ {l : List α} {i : Nat} {a : α}, mm_nth l i = some a → i < l.length
  | [], _, _, h => by simp [mm_nth] at h
  | _ :: _, 0, _, _ => Nat.zero_lt_succ _
  | _ :: r, i + 1, _, h => Nat.succ_lt_succ (mm_nth_lt (l := r) (i := i) h)
theorem mm_nth_eq {α : Type} : ∀ (l : List α) (i : Nat), mm_nth l i = l[i]?
  | [], _ => by simp [mm_nth]
  | _ :: _, 0 => by simp [mm_nth]
  | _ :: r, i + 1 => by simp [mm_nth, mm_nth_eq r i]
theorem mm_set_length {α : Type} : ∀ (l : List α) (i : Nat) (a : α), (mm_set l i a).length = l.length
  | [], _, _ => rfl
  | _ :: _, 0, _ => rfl
  | _ :: r, i + 1, a => by simp [mm_set, mm_set_length r i a]
theorem mm_nth_set {α : Type} : ∀ (l : List α) (i : Nat) (a : α) (j : Nat), mm_nth (mm_set l i a) j = if j = i then (if i < l.length then some a else none) else mm_nth l j
  | [], i, a, j => by simp [mm_set, mm_nth]
  | _ :: _, 0, _, 0 => by simp [mm_set, mm_nth]
  | _ :: _, 0, _, j + 1 => by simp [mm_set, mm_nth]
  | _ :: _, i + 1, _, 0 => by simp [mm_set, mm_nth]
  | _ :: r, i + 1, a, j + 1 => by
    have h := mm_nth_set r i a j
    simp only [mm_set, mm_nth, h, Nat.add_right_cancel_iff, List.length_cons, Nat.add_lt_add_iff_right]
theorem mm_kd_lt {Y : mm_Y} {k : Nat} (h : (mm_kd Y k).1 ≠ 9) : k < Y.1.length := by
  unfold mm_kd at h
  cases e : mm_nth Y.1 k with
  | none => rw [e] at h; exact absurd rfl h
  | some q => exact mm_nth_lt e
theorem mm_fv_int (ad : Nat → Nat) (f : Nat → Int32) : ∀ (fs : List (Option Nat)) (j0 j : Nat), mm_nth fs j = some none → (mm_fv ad f j0 fs)[j]? = some (.int (f (j0 + j)))
  | [], _, _, h => by simp [mm_nth] at h
  | none :: _, j0, 0, _ => by simp [mm_fv]
  | some _ :: _, _, 0, h => by simp [mm_nth] at h
  | none :: r, j0, j + 1, h => by
    have q := mm_fv_int ad f r (j0 + 1) j h
    simp only [mm_fv, List.getElem?_cons_succ, q]
    rw [Nat.add_assoc, Nat.add_comm 1 j]
  | some _ :: r, j0, j + 1, h => by
    have q := mm_fv_int ad f r (j0 + 1) j h
    simp only [mm_fv, List.getElem?_cons_succ, q]
    rw [Nat.add_assoc, Nat.add_comm 1 j]
theorem mm_fv_ref (ad : Nat → Nat) (f : Nat → Int32) : ∀ (fs : List (Option Nat)) (j0 j t : Nat), mm_nth fs j = some (some t) → (mm_fv ad f j0 fs)[j]? = some (.ref (ad t))
  | [], _, _, _, h => by simp [mm_nth] at h
  | none :: _, _, 0, _, h => by simp [mm_nth] at h
  | some _ :: _, _, 0, _, h => by simp only [mm_nth, Option.some.injEq] at h; simp [mm_fv, h]
  | none :: r, j0, j + 1, t, h => by
    have q := mm_fv_ref ad f r (j0 + 1) j t h
    simp only [mm_fv, List.getElem?_cons_succ, q]
  | some _ :: r, j0, j + 1, t, h => by
    have q := mm_fv_ref ad f r (j0 + 1) j t h
    simp only [mm_fv, List.getElem?_cons_succ, q]
theorem mm_fv_len (ad : Nat → Nat) (f : Nat → Int32) : ∀ (fs : List (Option Nat)) (j0 : Nat), (mm_fv ad f j0 fs).length = fs.length
  | [], _ => rfl
  | none :: r, j0 => by simp [mm_fv, mm_fv_len ad f r (j0 + 1)]
  | some _ :: r, j0 => by simp [mm_fv, mm_fv_len ad f r (j0 + 1)]
theorem mm_fv_congr (ad : Nat → Nat) (f g : Nat → Int32) : ∀ (fs : List (Option Nat)) (j0 : Nat), (∀ j, j0 ≤ j → f j = g j) → mm_fv ad f j0 fs = mm_fv ad g j0 fs
  | [], _, _ => rfl
  | none :: r, j0, h => by simp only [mm_fv]; rw [h j0 (Nat.le_refl _), mm_fv_congr ad f g r (j0 + 1) (fun j hj => h j (by omega))]
  | some _ :: r, j0, h => by simp only [mm_fv]; rw [mm_fv_congr ad f g r (j0 + 1) (fun j hj => h j (by omega))]
theorem mm_fv_set (ad : Nat → Nat) (x : Int32) : ∀ (fs : List (Option Nat)) (f : Nat → Int32) (j0 j : Nat), mm_nth fs j = some none → (mm_fv ad f j0 fs).set j (.int x) = mm_fv ad (upd f (j0 + j) x) j0 fs
  | [], _, _, _, h => by simp [mm_nth] at h
  | none :: r, f, j0, 0, _ => by
    simp only [mm_fv, List.set_cons_zero, Nat.add_zero]
    rw [mm_fv_congr ad f (upd f j0 x) r (j0 + 1) (fun j hj => (pk_un (by omega)).symm), pk_us]
  | some _ :: _, _, _, 0, h => by simp [mm_nth] at h
  | none :: r, f, j0, j + 1, h => by
    have q := mm_fv_set ad x r f (j0 + 1) j h
    simp only [mm_fv, List.set_cons_succ]
    rw [q, show j0 + 1 + j = j0 + (j + 1) by omega, pk_un (by omega)]
  | some _ :: r, f, j0, j + 1, h => by
    have q := mm_fv_set ad x r f (j0 + 1) j h
    simp only [mm_fv, List.set_cons_succ]
    rw [q, show j0 + 1 + j = j0 + (j + 1) by omega]
theorem mm_wd_get {ad : Nat → Nat} {a3 : ClassId × ClassId × ClassId} {Y : mm_Y} {σ : mm_S} {k : Nat} (h : k < Y.1.length) : (mm_wd ad a3 Y σ)[k]? = some (ad k, mm_ce ad a3 Y σ k) := by
  simp [mm_wd, List.getElem?_map, List.getElem?_range h]
theorem mm_up_ne {σ : mm_S} {k j k' : Nat} {x : Int32} (h : k' ≠ k) : mm_up σ k j x k' = σ k' := by simp [mm_up, h]
theorem mm_up_eq {σ : mm_S} {k j : Nat} {x : Int32} : mm_up σ k j x k = upd (σ k) j x := by simp [mm_up]
theorem mm_ce_ne {ad : Nat → Nat} {a3 : ClassId × ClassId × ClassId} {Y : mm_Y} {σ σ' : mm_S} {k : Nat} (h : σ' k = σ k) : mm_ce ad a3 Y σ' k = mm_ce ad a3 Y σ k := by
  unfold mm_ce; rw [h]
theorem mm_wd_set {ad : Nat → Nat} {a3 : ClassId × ClassId × ClassId} {Y : mm_Y} {σ : mm_S} {k j : Nat} {x : Int32} {e : va_E} (he : mm_ce ad a3 Y (mm_up σ k j x) k = e) : (mm_wd ad a3 Y σ).set k (ad k, e) = mm_wd ad a3 Y (mm_up σ k j x) := by
  subst he
  refine List.ext_getElem? fun i => ?_
  rw [List.getElem?_set]
  unfold mm_wd
  simp only [List.getElem?_map, List.length_map, List.length_range]
  by_cases hi : i < Y.1.length
  · rw [List.getElem?_range hi]
    by_cases hk : k = i
    · subst hk
      simp [hi]
    · simp only [hk, if_false, Option.map_some]
      rw [mm_ce_ne (mm_up_ne (fun h => hk h.symm))]
  · have hn : (List.range Y.1.length)[i]? = none := by simp; omega
    rw [hn]
    by_cases hk : k = i
    · subst hk
      simp [hi]
    · simp [hk]
/-- locals -/
def mm_ll (ad : Nat → Nat) : Nat → List (Option Value) → List (Nat × Value)
  | _, [] => []
  | i, some v :: r => (i, mm_rho ad v) :: mm_ll ad (i + 1) r
  | i, none :: r => mm_ll ad (i + 1) r
theorem mm_ll_mem (ad : Nat → Nat) : ∀ (L : List (Option Value)) (j k : Nat) (v : Value), mm_nth L k = some (some v) → (j + k, mm_rho ad v) ∈ mm_ll ad j L
  | [], _, _, _, h => by simp [mm_nth] at h
  | some w :: r, j, 0, v, h => by simp only [mm_nth, Option.some.injEq] at h; subst h; simp [mm_ll]
  | none :: r, j, 0, v, h => by simp [mm_nth] at h
  | some w :: r, j, k + 1, v, h => by
    have q := mm_ll_mem ad r (j + 1) k v h
    rw [show j + 1 + k = j + (k + 1) by omega] at q
    exact List.mem_cons_of_mem _ q
  | none :: r, j, k + 1, v, h => by
    have q := mm_ll_mem ad r (j + 1) k v h
    rw [show j + 1 + k = j + (k + 1) by omega] at q
    exact q
theorem mm_ll_of (ad : Nat → Nat) : ∀ (L : List (Option Value)) (j : Nat) (q : Nat × Value), q ∈ mm_ll ad j L → ∃ k v, q = (j + k, mm_rho ad v) ∧ mm_nth L k = some (some v)
  | [], _, _, h => by simp [mm_ll] at h
  | some w :: r, j, q, h => by
    simp only [mm_ll, List.mem_cons] at h
    rcases h with h | h
    · exact ⟨0, w, h, rfl⟩
    · obtain ⟨k, v, h1, h2⟩ := mm_ll_of ad r (j + 1) q h
      exact ⟨k + 1, v, by rw [h1, show j + 1 + k = j + (k + 1) by omega], h2⟩
  | none :: r, j, q, h => by
    simp only [mm_ll] at h
    obtain ⟨k, v, h1, h2⟩ := mm_ll_of ad r (j + 1) q h
    exact ⟨k + 1, v, by rw [h1, show j + 1 + k = j + (k + 1) by omega], h2⟩
def mm_lh (ad : Nat → Nat) (ls : Array Slot) (n : Nat) (L : List (Option Value)) : Prop := lv_has ls n (mm_ll ad 0 L) ∧ L.length = n ∧ ∀ k v, mm_nth L k = some (some v) → v.category = 1
theorem mm_lh_at {ad : Nat → Nat} {ls : Array Slot} {n : Nat} {L : List (Option Value)} (h : mm_lh ad ls n L) {i : Nat} {v : Value} (hi : mm_nth L i = some (some v)) : ls[i]? = some (.val (mm_rho ad v)) := by
  have q := h.1.2.2 _ (mm_ll_mem ad L 0 i v hi)
  simpa using q
theorem mm_lh_set {ad : Nat → Nat} {ls ls' : Array Slot} {n : Nat} {L : List (Option Value)} (h : mm_lh ad ls n L) {i : Nat} {v : Value} (hi : i < n) (hv : v.category = 1) (h' : lv_has ls' n ((i, mm_rho ad v) :: (mm_ll ad 0 L).filter (fun q => !(q.1 == i) && !(q.1 + 1 == i && q.2.category == 2)))) : mm_lh ad ls' n (mm_set L i (some v)) := by
  obtain ⟨h1, h2, h3⟩ := h
  refine ⟨⟨h'.1, h'.2.1, fun q hq => ?_⟩, by rw [mm_set_length]; exact h2, fun k w hw => ?_⟩
  · obtain ⟨k, w, e, hk⟩ := mm_ll_of ad _ 0 q hq
    rw [mm_nth_set] at hk
    subst e
    by_cases hki : k = i
    · subst hki
      rw [if_pos rfl, if_pos (by rw [h2]; exact hi)] at hk
      simp only [Option.some.injEq] at hk
      subst hk
      have := h'.2.2 (k, mm_rho ad v) List.mem_cons_self
      simpa using this
    · rw [if_neg hki] at hk
      have hm := mm_ll_mem ad L 0 k w hk
      refine h'.2.2 (0 + k, mm_rho ad w) (List.mem_cons_of_mem _ (List.mem_filter.mpr ⟨hm, ?_⟩))
      simp only [Nat.zero_add, mm_rho_cat, h3 k w hk, Bool.and_eq_true, Bool.not_eq_true', beq_eq_false_iff_ne, ne_eq, hki, not_false_eq_true, true_and]
      simp
  · rw [mm_nth_set] at hw
    by_cases hki : k = i
    · rw [if_pos hki, if_pos (by rw [h2]; exact hi)] at hw
      simp only [Option.some.injEq] at hw
      subst hw
      exact hv
    · rw [if_neg hki] at hw
      exact h3 k w hw
end
section
/-! The small machine's walk is a walk of the machine -/
theorem mx_mono {p : Program} {l : Launch} {e : Env} {R : Room} {s : State} {m : MethodId} {args : Array Value} {below : List Frame} {meth : Method} {c : Code} {H : Heap} {locs : List Loc} {cells slots : Nat} {Q Q' : State → Prop} {g : JFrame} (h : ∀ t, Q t → Q' t) (k : W p l e R s m args below meth c H locs cells slots Q g) : W p l e R s m args below meth c H locs cells slots Q' g := by
  intro T hT X
  obtain ⟨t, a, b⟩ := k T hT X
  exact ⟨t, a, h t b⟩
def mm_len : ClassFile.Instr → Nat
  | .iload _ | .aload _ | .istore _ | .astore _ | .bipush _ => 2
  | .sipush _ | .iinc _ _ | .getfield _ | .putfield _ | .goto _ | .ifCond _ _ | .if_icmp _ _ | .invokevirtual _ | .invokestatic _ | .ldc_w _ => 3
  | _ => 1
def mm_cst (pc : Nat) (i : ClassFile.Instr) (t : Nat) (c : Int32) : Bool := match i with
  | .iconst n => decide (Int32.ofInt n = c)
  | .bipush n => decide ((Int8.ofInt n).toInt32 = c)
  | .sipush n => decide ((Int16.ofInt n).toInt32 = c)
  | .iinc _ n => decide (Int32.ofInt n = c)
  | .goto off => decide ((pc : Int) + off = (t : Int))
  | .ifCond _ off => decide ((pc : Int) + off = (t : Int))
  | .if_icmp _ off => decide ((pc : Int) + off = (t : Int))
  | .tableswitch dflt _ _ offs => decide (0 ≤ (pc : Int) + dflt) && offs.toList.all (fun o => decide (0 ≤ (pc : Int) + o))
  | _ => true
/-- how long: a switch is as long as its entry says -/
def mm_lenE (i : ClassFile.Instr) (len : Nat) : Nat := match i with
  | .tableswitch _ _ _ _ => len
  | i => mm_len i
def mm_okE (cc : ByteArray) (q : Nat × mm_E) : Bool := decide (decode cc q.1 = .ok (q.2.1, mm_lenE q.2.1 q.2.2.1)) && mm_cst q.1 q.2.1 q.2.2.2.1 q.2.2.2.2
theorem mm_look_mem {α : Type} : ∀ {l : List (Nat × α)} {k : Nat} {a : α}, mm_look l k = some a → (k, a) ∈ l
  | [], _, _, h => by simp [mm_look] at h
  | (k', a') :: r, k, a, h => by
    unfold mm_look at h
    cases hb : Nat.beq k' k with
    | true =>
      rw [hb] at h
      have hk := Nat.eq_of_beq_eq_true hb
      simp only [Option.some.injEq] at h
      subst hk; subst h
      exact List.mem_cons_self
    | false =>
      rw [hb] at h
      exact List.mem_cons_of_mem _ (mm_look_mem h)
def mm_gok (cl : List vw_C) (Ts : List Cond) (own : String) (idx ci j : Nat) : Prop := ∃ (C : String) (T : u_T) (N : Nat), cl[ci]? = some (C, T, N) ∧ j < N ∧ (∀ w ∈ u_ws C T N, w ∈ Ts) ∧ Cond.fieldLink own idx (T j).1 (T j).2.1 (T j).2.2.1 ∈ Ts
def mm_pok (Y : mm_Y) (cl : List vw_C) (Ts : List Cond) (own : String) (idx ci j : Nat) : Prop := ∃ (C : String) (T : u_T) (N : Nat) (ty : Nat → FieldType), cl[ci]? = some (C, T, N) ∧ j < N ∧ (∀ w ∈ u_ws C T N, w ∈ Ts) ∧ Cond.fieldLink own idx (T j).1 (T j).2.1 (T j).2.2.1 ∈ Ts ∧
  (∀ k, k < N → parseFieldDescriptor (T k).2.2.1 = some (ty k)) ∧ (∀ a, a < N → ∀ b, b < N → a ≠ b → (T a).2.1 ≠ (T b).2.1) ∧ (T j).2.2.2 = false ∧ parseFieldDescriptor (T j).2.2.1 = some (match mm_isZ Y ci j with | true => .boolean | false => .int)
def mm_rty : Nat → Option FieldType
  | 0 => none
  | 1 => some .int
  | _ => some .boolean
def mm_V (p : Program) (l : Launch) (e : Env) (R : Room) (s : State) (m : MethodId) (args : Array Value) (below : List Frame) (meth : Method) (c : Code) (D : va_G) (cl : List vw_C) (A : Nat → Prop) (ad : Nat → Nat) (a3 : ClassId × ClassId × ClassId) (Y : mm_Y) (nL : Nat) (Qf : State → Prop) : mm_X := fun pc L S σ =>
  ∀ (H : Heap) (locs : List Loc) (ls : Array Slot), va_P D cl (mm_wd ad a3 Y σ) H → va_D A (mm_wd ad a3 Y σ) → va_S A s.heap H locs → mm_lh ad ls nL L → W p l e R s m args below meth c H locs 0 0 Qf (F0 m pc ls (S.map (mm_rho ad)))
def mm_Qc (D : va_G) (cl : List vw_C) (tys : List (ClassId × FieldType)) (A : Nat → Prop) (ad : Nat → Nat) (a3 : ClassId × ClassId × ClassId) (Y : mm_Y) (Q : mm_Q) : Array Value → State → Outcome → State → Prop := fun _ st oc t =>
  (∃ (v : Option Value) (σ : mm_S), Q v σ ∧ oc = .returned (v.map (mm_rho ad)) ∧ va_P D cl (mm_wd ad a3 Y σ) t.heap ∧ va_D A (mm_wd ad a3 Y σ) ∧ va_K D cl tys t) ∧ va_F A st t
section MMel
theorem mm_sw_el {pc : Nat} {dflt lo hi : Int} {offs : Array Int} {x : Int32} {K : Nat → Prop} (h : mm_sw pc dflt lo hi offs x K) (hc : (decide (0 ≤ (pc : Int) + dflt) && offs.toList.all (fun o => decide (0 ≤ (pc : Int) + o))) = true) : (∃ t : Nat, (x.toInt < lo ∨ hi < x.toInt) ∧ (pc : Int) + dflt = (t : Int) ∧ K t) ∨ ∃ (off : Int) (t : Nat), ¬ x.toInt < lo ∧ ¬ hi < x.toInt ∧ offs[(x.toInt - lo).toNat]? = some off ∧ (pc : Int) + off = (t : Int) ∧ K t := by
  rw [Bool.and_eq_true] at hc
  unfold mm_sw at h; split at h
  · rename_i h1
    exact Or.inl ⟨_, h1, (Int.toNat_of_nonneg (of_decide_eq_true hc.1)).symm, h⟩
  · rename_i h1
    split at h
    · rename_i off h2
      refine Or.inr ⟨off, _, fun z => h1 (Or.inl z), fun z => h1 (Or.inr z), h2, (Int.toNat_of_nonneg ?_).symm, h⟩
      have hm : off ∈ offs.toList := by
        rw [← Array.getElem?_toList] at h2
        exact List.mem_of_getElem? h2
      exact of_decide_eq_true (List.all_eq_true.mp hc.2 off hm)
    · exact h.elim
theorem mm_ldi_el {L : List (Option Value)} {i : Nat} {K : Int32 → Prop} (h : mm_ldi L i K) : ∃ x, mm_nth L i = some (some (.int x)) ∧ K x := by
  unfold mm_ldi at h; split at h
  · exact ⟨_, by assumption, h⟩
  · exact h.elim
theorem mm_lda_el {L : List (Option Value)} {i : Nat} {K : Nat → Prop} (h : mm_lda L i K) : ∃ x, mm_nth L i = some (some (.ref x)) ∧ K x := by
  unfold mm_lda at h; split at h
  · exact ⟨_, by assumption, h⟩
  · exact h.elim
theorem mm_sto_el {L : List (Option Value)} {i : Nat} {v : Value} {K : List (Option Value) → Prop} (h : mm_sto L i v K) : i < L.length ∧ K (mm_set L i (some v)) := by
  unfold mm_sto at h; split at h
  · rename_i hq; exact ⟨mm_nth_lt hq, h⟩
  · exact h.elim
theorem mm_1_el {S : List Value} {K : Int32 → List Value → Prop} (h : mm_1 S K) : ∃ x r, S = .int x :: r ∧ K x r := by
  unfold mm_1 at h; split at h
  · exact ⟨_, _, rfl, h⟩
  · exact h.elim
theorem mm_2_el {S : List Value} {K : Int32 → Int32 → List Value → Prop} (h : mm_2 S K) : ∃ x y r, S = .int y :: .int x :: r ∧ K x y r := by
  unfold mm_2 at h; split at h
  · exact ⟨_, _, _, rfl, h⟩
  · exact h.elim
theorem mm_r_el {S : List Value} {K : Nat → List Value → Prop} (h : mm_r S K) : ∃ k r, S = .ref k :: r ∧ K k r := by
  unfold mm_r at h; split at h
  · exact ⟨_, _, rfl, h⟩
  · exact h.elim
theorem mm_ir_el {S : List Value} {K : Int32 → Nat → List Value → Prop} (h : mm_ir S K) : ∃ x k r, S = .int x :: .ref k :: r ∧ K x k r := by
  unfold mm_ir at h; split at h
  · exact ⟨_, _, _, rfl, h⟩
  · exact h.elim
theorem mm_iir_el {S : List Value} {K : Int32 → Int32 → Nat → List Value → Prop} (h : mm_iir S K) : ∃ x i k r, S = .int x :: .int i :: .ref k :: r ∧ K x i k r := by
  unfold mm_iir at h; split at h
  · exact ⟨_, _, _, _, rfl, h⟩
  · exact h.elim
theorem mm_d1_el {S : List Value} {K : Value → List Value → Prop} (h : mm_d1 S K) : ∃ v r, S = v :: r ∧ v.category = 1 ∧ K v r := by
  unfold mm_d1 at h; split at h
  · exact ⟨_, _, rfl, rfl, h⟩
  · exact ⟨_, _, rfl, rfl, h⟩
  · exact h.elim
theorem mm_d2_el {S : List Value} {K : Value → Value → List Value → Prop} (h : mm_d2 S K) : ∃ v w r, S = v :: w :: r ∧ v.category = 1 ∧ w.category = 1 ∧ K v w r := by
  unfold mm_d2 at h; split at h
  · exact ⟨_, _, _, rfl, rfl, rfl, h⟩
  · exact h.elim
theorem mm_ia_el {Y : mm_Y} {k : Nat} {j : Int32} (h : mm_ia Y k j) : ∃ n fs, mm_kd Y k = (1, n, fs) ∧ vp_in j n := by
  unfold mm_ia at h; split at h
  · exact ⟨_, _, by assumption, h⟩
  · exact h.elim
theorem mm_za_el {Y : mm_Y} {k : Nat} {j : Int32} (h : mm_za Y k j) : ∃ n fs, mm_kd Y k = (2, n, fs) ∧ vp_in j n := by
  unfold mm_za at h; split at h
  · exact ⟨_, _, by assumption, h⟩
  · exact h.elim
theorem mm_ga_el {Y : mm_Y} {k : Nat} {j : Int32} (h : mm_ga Y k j) : ∃ n fs, mm_kd Y k = (3, n, fs) ∧ vp_in j n := by
  unfold mm_ga at h; split at h
  · exact ⟨_, _, by assumption, h⟩
  · exact h.elim
theorem mm_gf_el {Y : mm_Y} {k ci j : Nat} {o : Option Nat} (h : mm_gf Y k ci j = some o) : ∃ fs, mm_kd Y k = (0, ci, fs) ∧ mm_nth fs j = some o := by
  unfold mm_gf at h
  split at h
  · rename_i ci' fs hk
    split at h
    · rename_i hb
      have hc := Nat.eq_of_beq_eq_true hb
      subst hc
      exact ⟨fs, hk, h⟩
    · cases h
  · cases h
theorem mm_gv_el {Y : mm_Y} {M : mm_M} {idx k : Nat} {σ : mm_S} {K : Value → Prop} (h : mm_gv Y M idx k σ K) : ∃ ci j fs, mm_look M.2.1 idx = some (ci, j) ∧ mm_kd Y k = (0, ci, fs) ∧ ((∃ q, mm_nth fs j = some (some q) ∧ K (.ref q)) ∨ (mm_nth fs j = some none ∧ K (.int (σ k j)))) := by
  unfold mm_gv at h
  split at h
  · rename_i ci j hq
    split at h
    · rename_i q hg
      obtain ⟨fs, h1, h2⟩ := mm_gf_el hg
      exact ⟨ci, j, fs, hq, h1, Or.inl ⟨q, h2, h⟩⟩
    · rename_i hg
      obtain ⟨fs, h1, h2⟩ := mm_gf_el hg
      exact ⟨ci, j, fs, hq, h1, Or.inr ⟨h2, h⟩⟩
    · exact h.elim
  · exact h.elim
theorem mm_pv_el {Y : mm_Y} {M : mm_M} {idx k : Nat} {x : Int32} {σ : mm_S} {K : mm_S → Prop} (h : mm_pv Y M idx k x σ K) : ∃ ci j fs, mm_look M.2.2.1 idx = some (ci, j) ∧ mm_kd Y k = (0, ci, fs) ∧ mm_nth fs j = some none ∧ (mm_isZ Y ci j = true → x = 0 ∨ x = 1) ∧ K (mm_up σ k j x) := by
  unfold mm_pv at h
  split at h
  · rename_i ci j hq
    split at h
    · rename_i hg
      obtain ⟨fs, h1, h2⟩ := mm_gf_el hg
      split at h
      · exact ⟨ci, j, fs, hq, h1, h2, fun _ => h.1, h.2⟩
      · rename_i hz
        exact ⟨ci, j, fs, hq, h1, h2, (fun q => by rw [hz] at q; cases q), h⟩
    · exact h.elim
  · exact h.elim
theorem mm_rt_el {M : mm_M} {Q : mm_Q} {S : List Value} {σ : mm_S} (h : mm_rt M Q S σ) : ∃ v, S = [.int v] ∧ Q (some (.int v)) σ ∧ (M.2.2.2.2 = 1 ∨ (M.2.2.2.2 = 2 ∧ (v = 0 ∨ v = 1))) := by
  unfold mm_rt at h
  split at h
  · split at h
    · rename_i hm; exact ⟨_, rfl, h, Or.inl hm⟩
    · rename_i hm; exact ⟨_, rfl, h.2, Or.inr ⟨hm, h.1⟩⟩
    · exact h.elim
  · exact h.elim
theorem mm_rv_el {M : mm_M} {Q : mm_Q} {S : List Value} {σ : mm_S} (h : mm_rv M Q S σ) : S = [] ∧ Q none σ ∧ M.2.2.2.2 = 0 := by
  unfold mm_rv at h
  split at h
  · split at h
    · rename_i hm; exact ⟨rfl, h, hm⟩
    · exact h.elim
  · exact h.elim
end MMel
section MMaald
variable {p : Program} {l : Launch} {e : Env} {R : Room} {s : State} {m : MethodId} {args : Array Value} {below : List Frame} {meth : Method} {c : Code} {H : Heap} {locs : List Loc} {cells slots : Nat} {Q : State → Prop}
theorem mm_aald {cc : ByteArray} {pc : Nat} {ls : Array Slot} {rest : List Value} {D : va_G} {cl : List vw_C} {a : Nat} {tys : List (ClassId × FieldType)} {ws : va_W} (hx : p.tables.exec = Jvm.exec) (hb : c.code = cc) (hK : va_K D cl tys s) (hP : va_P D cl ws H) (q0 t0 : Nat) {cA : ClassId} {t : FieldType} {n : Nat} {f : Nat → Option Nat} (ha : ws[q0]? = some (a, .inl (cA, n, .inr (.inr (.inr (.inr f)))))) (ht : tys[t0]? = some (cA, .array t)) {i : Int32} (hin : vp_in i n) (hdg : decode cc pc = .ok (.aaload, 1))
    (kk : W p l e R s m args below meth c H locs cells slots Q (F0 m (pc + 1) ls (va_rf (f i.toNatClampNeg) :: rest))) : W p l e R s m args below meth c H locs cells slots Q (F0 m pc ls (.int i :: .ref a :: rest)) := by
  have hlt : i.toNatClampNeg < n := Nat.not_le.mp fun q => hin (Or.inr q)
  refine W.aald (v := va_rf (f i.toNatClampNeg)) (ty := .array t) hx hb (hP q0 _ ha) ((hK.2 t0 _ ht).1 n (fun j => va_rf (f j))) rfl (fun q => by cases q) ?_ ?_ rfl rfl hdg kk
  · show ¬ (i < 0 ∨ (arrV _ _ _).slots.size ≤ _)
    rw [arrV_size]
    exact hin
  · show (arrV _ _ _).slots[_]? = _
    rw [arrV_read _ _ hlt]
end MMaald
section MMstep
variable {p : Program} {l : Launch} {e : Env} {R : Room} {s : State} {m : MethodId} {args : Array Value} {below : List Frame} {meth : Method} {c : Code} {D : va_G} {cl : List vw_C} {A : Nat → Prop} {ad : Nat → Nat} {cI cZ cG : ClassId} {CG : String} {Y : mm_Y} {nL : Nat} {M : mm_M} {C : mm_C} {Q : mm_Q} {cc : ByteArray} {Ts : List Cond} {own : String} {tys : List (ClassId × FieldType)}
set_option maxHeartbeats 4000000 in
theorem mm_step {Qf : State → Prop} (hQf : ∀ t, MQ below (mm_Qc D cl tys A ad (cI, cZ, cG) Y Q) args s 0 0 A t → Qf t) (hx : p.tables.exec = Jvm.exec) (hb : c.code = cc) (hown : s.vm.findClass own = some m.cls) (hts : ∀ w ∈ Ts, w.before args s = true) (hK : va_K D cl tys s) (htI : tys[0]? = some (cI, .int)) (htZ : tys[1]? = some (cZ, .boolean)) (htG : tys[2]? = some (cG, .array .int))
    (hr : meth.sig.returnType = mm_rty M.2.2.2.2) (hlocks : meth.locks = false) (htab : M.1.all (mm_okE cc) = true) (hg : ∀ idx ci j, mm_look M.2.1 idx = some (ci, j) → mm_gok cl Ts own idx ci j) (hp : ∀ idx ci j, mm_look M.2.2.1 idx = some (ci, j) → mm_pok Y cl Ts own idx ci j)
    (hld : ∀ (pc idx len t : Nat) (v : Int32), mm_look M.1 pc = some (.ldc_w idx, len, t, v) → Cond.constant own idx v ∈ Ts)
    (hc1 : ∀ (pc idx : Nat) (L : List (Option Value)) (S : List Value) (σ : mm_S), decode cc pc = .ok (.invokevirtual idx, 3) → mm_call Y C M idx 1 S σ (fun S' σ' => mm_V p l e R s m args below meth c D cl A ad (cI, cZ, cG) Y nL Qf (pc + 3) L S' σ') → mm_V p l e R s m args below meth c D cl A ad (cI, cZ, cG) Y nL Qf pc L S σ)
    (hc0 : ∀ (pc idx : Nat) (L : List (Option Value)) (S : List Value) (σ : mm_S), decode cc pc = .ok (.invokestatic idx, 3) → mm_call Y C M idx 0 S σ (fun S' σ' => mm_V p l e R s m args below meth c D cl A ad (cI, cZ, cG) Y nL Qf (pc + 3) L S' σ') → mm_V p l e R s m args below meth c D cl A ad (cI, cZ, cG) Y nL Qf pc L S σ) :
    ∀ pc L S σ, mm_one Y C M Q (mm_V p l e R s m args below meth c D cl A ad (cI, cZ, cG) Y nL Qf) pc L S σ → mm_V p l e R s m args below meth c D cl A ad (cI, cZ, cG) Y nL Qf pc L S σ := by
  intro pc L S σ h
  generalize hV : mm_V p l e R s m args below meth c D cl A ad (cI, cZ, cG) Y nL Qf = V at h hc1 hc0 ⊢
  have hVd : ∀ pc L S σ, V pc L S σ ↔ ∀ (H : Heap) (locs : List Loc) (ls : Array Slot), va_P D cl (mm_wd ad (cI, cZ, cG) Y σ) H → va_D A (mm_wd ad (cI, cZ, cG) Y σ) → va_S A s.heap H locs → mm_lh ad ls nL L → W p l e R s m args below meth c H locs 0 0 Qf (F0 m pc ls (S.map (mm_rho ad))) := by
    intro pc L S σ; rw [← hV]; exact Iff.rfl
  unfold mm_one at h
  cases hI : mm_look M.1 pc with
  | none => simp only [hI] at h
  | some q =>
    obtain ⟨i, len, t, cs⟩ := q
    have hq := List.all_eq_true.mp htab _ (mm_look_mem hI)
    simp only [mm_okE, Bool.and_eq_true, decide_eq_true_eq] at hq
    obtain ⟨hdg, hcst⟩ := hq
    simp only [hI] at h
    cases i
    case iload_n k =>
      replace h := mm_ldi_el h
      obtain ⟨x, h1, h⟩ := h
      rw [hVd] at h ⊢
      intro H locs ls hP hD hS hl
      exact lv_iload_n hx hb hdg rfl (mm_lh_at hl h1) (h H locs ls hP hD hS hl)
    case iload k =>
      replace h := mm_ldi_el h
      obtain ⟨x, h1, h⟩ := h
      rw [hVd] at h ⊢
      intro H locs ls hP hD hS hl
      exact lv_iload hx hb hdg (mm_lh_at hl h1) (h H locs ls hP hD hS hl)
    case aload_n k =>
      replace h := mm_lda_el h
      obtain ⟨x, h1, h⟩ := h
      rw [hVd] at h ⊢
      intro H locs ls hP hD hS hl
      exact lv_aload_n hx hb hdg rfl (mm_lh_at hl h1) (h H locs ls hP hD hS hl)
    case aload k =>
      replace h := mm_lda_el h
      obtain ⟨x, h1, h⟩ := h
      rw [hVd] at h ⊢
      intro H locs ls hP hD hS hl
      exact lv_aload hx hb hdg (mm_lh_at hl h1) (h H locs ls hP hD hS hl)
    case istore_n k =>
      replace h := mm_1_el h
      obtain ⟨x, r, rfl, h⟩ := h
      replace h := mm_sto_el h
      obtain ⟨hi, h⟩ := h
      rw [hVd] at h ⊢
      intro H locs ls hP hD hS hl
      have hn : k.val < nL := by rw [← hl.2.1]; exact hi
      exact lv_istore_n hx hb hdg rfl hl.1 hn rfl (fun ls' h' => h H locs ls' hP hD hS (mm_lh_set hl hn rfl h'))
    case istore k =>
      replace h := mm_1_el h
      obtain ⟨x, r, rfl, h⟩ := h
      replace h := mm_sto_el h
      obtain ⟨hi, h⟩ := h
      rw [hVd] at h ⊢
      intro H locs ls hP hD hS hl
      have hn : k < nL := by rw [← hl.2.1]; exact hi
      exact lv_istore hx hb hdg hl.1 hn rfl (fun ls' h' => h H locs ls' hP hD hS (mm_lh_set hl hn rfl h'))
    case astore_n k =>
      replace h := mm_r_el h
      obtain ⟨x, r, rfl, h⟩ := h
      replace h := mm_sto_el h
      obtain ⟨hi, h⟩ := h
      rw [hVd] at h ⊢
      intro H locs ls hP hD hS hl
      have hn : k.val < nL := by rw [← hl.2.1]; exact hi
      exact lv_astore_n hx hb hdg rfl hl.1 hn rfl (fun ls' h' => h H locs ls' hP hD hS (mm_lh_set (v := .ref x) hl hn rfl h'))
    case astore k =>
      replace h := mm_r_el h
      obtain ⟨x, r, rfl, h⟩ := h
      replace h := mm_sto_el h
      obtain ⟨hi, h⟩ := h
      rw [hVd] at h ⊢
      intro H locs ls hP hD hS hl
      have hn : k < nL := by rw [← hl.2.1]; exact hi
      exact lv_astore hx hb hdg hl.1 hn rfl (fun ls' h' => h H locs ls' hP hD hS (mm_lh_set (v := .ref x) hl hn rfl h'))
    case iinc k n =>
      replace h := mm_ldi_el h
      obtain ⟨x, h1, h⟩ := h
      replace h := mm_sto_el h
      obtain ⟨hi, h⟩ := h
      rw [hVd] at h ⊢
      intro H locs ls hP hD hS hl
      have hn : k < nL := by rw [← hl.2.1]; exact hi
      have hcs : Int32.ofInt n = cs := of_decide_eq_true hcst
      have hm := mm_ll_mem ad L 0 k (.int x) h1
      rw [Nat.zero_add] at hm
      obtain ⟨q, hq⟩ := List.getElem?_of_mem hm
      exact lv_iinc (k := q) hx hb hdg hl.1 hq (by rw [hcs]) hn rfl (fun ls' h' => h H locs ls' hP hD hS (mm_lh_set (v := .int (x + cs)) hl hn rfl h'))
    case iconst n =>
      replace h := (hVd (pc + 1) L (.int cs :: S) σ).mp h
      rw [hVd]
      intro H locs ls hP hD hS hl
      exact lv_iconst hx hb hdg (of_decide_eq_true hcst) (h H locs ls hP hD hS hl)
    case bipush n =>
      replace h := (hVd (pc + 2) L (.int cs :: S) σ).mp h
      rw [hVd]
      intro H locs ls hP hD hS hl
      exact lv_bipush hx hb hdg (of_decide_eq_true hcst) (h H locs ls hP hD hS hl)
    case sipush n =>
      replace h := (hVd (pc + 3) L (.int cs :: S) σ).mp h
      rw [hVd]
      intro H locs ls hP hD hS hl
      exact lv_sipush hx hb hdg (of_decide_eq_true hcst) (h H locs ls hP hD hS hl)
    case iadd =>
      replace h := mm_2_el h
      obtain ⟨x, y, r, rfl, h⟩ := h
      rw [hVd] at h ⊢
      intro H locs ls hP hD hS hl
      exact lv_iadd hx hb hdg (h H locs ls hP hD hS hl)
    case isub =>
      replace h := mm_2_el h
      obtain ⟨x, y, r, rfl, h⟩ := h
      rw [hVd] at h ⊢
      intro H locs ls hP hD hS hl
      exact lv_isub hx hb hdg (h H locs ls hP hD hS hl)
    case imul =>
      replace h := mm_2_el h
      obtain ⟨x, y, r, rfl, h⟩ := h
      rw [hVd] at h ⊢
      intro H locs ls hP hD hS hl
      exact lv_imul hx hb hdg (h H locs ls hP hD hS hl)
    case iand =>
      replace h := mm_2_el h
      obtain ⟨x, y, r, rfl, h⟩ := h
      rw [hVd] at h ⊢
      intro H locs ls hP hD hS hl
      exact lv_iand hx hb hdg (h H locs ls hP hD hS hl)
    case ior =>
      replace h := mm_2_el h
      obtain ⟨x, y, r, rfl, h⟩ := h
      rw [hVd] at h ⊢
      intro H locs ls hP hD hS hl
      exact lv_ior hx hb hdg (h H locs ls hP hD hS hl)
    case ixor =>
      replace h := mm_2_el h
      obtain ⟨x, y, r, rfl, h⟩ := h
      rw [hVd] at h ⊢
      intro H locs ls hP hD hS hl
      exact lv_ixor hx hb hdg (h H locs ls hP hD hS hl)
    case ishl =>
      replace h := mm_2_el h
      obtain ⟨x, y, r, rfl, h⟩ := h
      rw [hVd] at h ⊢
      intro H locs ls hP hD hS hl
      exact lv_ishl hx hb hdg (h H locs ls hP hD hS hl)
    case ishr =>
      replace h := mm_2_el h
      obtain ⟨x, y, r, rfl, h⟩ := h
      rw [hVd] at h ⊢
      intro H locs ls hP hD hS hl
      exact lv_ishr hx hb hdg (h H locs ls hP hD hS hl)
    case iushr =>
      replace h := mm_2_el h
      obtain ⟨x, y, r, rfl, h⟩ := h
      rw [hVd] at h ⊢
      intro H locs ls hP hD hS hl
      exact lv_iushr hx hb hdg rfl (h H locs ls hP hD hS hl)
    case idiv =>
      replace h := mm_2_el h
      obtain ⟨x, y, r, rfl, hne, h⟩ := h
      rw [hVd] at h ⊢
      intro H locs ls hP hD hS hl
      exact lv_idiv hx hb hdg hne (h H locs ls hP hD hS hl)
    case irem =>
      replace h := mm_2_el h
      obtain ⟨x, y, r, rfl, hne, h⟩ := h
      rw [hVd] at h ⊢
      intro H locs ls hP hD hS hl
      exact lv_irem hx hb hdg hne (h H locs ls hP hD hS hl)
    case dup =>
      replace h := mm_d1_el h
      obtain ⟨v, r, rfl, hv, h⟩ := h
      rw [hVd] at h ⊢
      intro H locs ls hP hD hS hl
      exact lv_dup hx hb hdg (by rw [mm_rho_cat]; exact hv) (h H locs ls hP hD hS hl)
    case dup2 =>
      replace h := mm_d2_el h
      obtain ⟨v, w, r, rfl, hv, hw, h⟩ := h
      rw [hVd] at h ⊢
      intro H locs ls hP hD hS hl
      exact lv_dup2_11 hx hb hdg (by rw [mm_rho_cat]; exact hv) (by rw [mm_rho_cat]; exact hw) (h H locs ls hP hD hS hl)
    case pop =>
      replace h := mm_d1_el h
      obtain ⟨v, r, rfl, hv, h⟩ := h
      rw [hVd] at h ⊢
      intro H locs ls hP hD hS hl
      exact lv_pop hx hb hdg (by rw [mm_rho_cat]; exact hv) (h H locs ls hP hD hS hl)
    case iaload =>
      replace h := mm_ir_el h
      obtain ⟨j, k, r, rfl, hia, h⟩ := h
      obtain ⟨n, fs, hkd, hin⟩ := mm_ia_el hia
      rw [hVd] at h ⊢
      intro H locs ls hP hD hS hl
      have he : (mm_wd ad (cI, cZ, cG) Y σ)[k]? = some (ad k, .inl (cI, n, .inl (σ k))) := by
        rw [mm_wd_get (mm_kd_lt (by rw [hkd]; exact fun z => nomatch z))]; simp only [mm_ce, hkd]
      exact va_iald hx hb hK hP k 0 he htI hin hdg (h H locs ls hP hD hS hl)
    case baload =>
      replace h := mm_ir_el h
      obtain ⟨j, k, r, rfl, hia, h⟩ := h
      obtain ⟨n, fs, hkd, hin⟩ := mm_za_el hia
      rw [hVd] at h ⊢
      intro H locs ls hP hD hS hl
      have he : (mm_wd ad (cI, cZ, cG) Y σ)[k]? = some (ad k, .inl (cZ, n, .inl (σ k))) := by
        rw [mm_wd_get (mm_kd_lt (by rw [hkd]; exact fun z => nomatch z))]; simp only [mm_ce, hkd]
      exact va_zald hx hb hK hP k 1 he htZ hin hdg (h H locs ls hP hD hS hl)
    case aaload =>
      replace h := mm_ir_el h
      obtain ⟨j, k, r, rfl, hia, h⟩ := h
      obtain ⟨n, fs, hkd, hin⟩ := mm_ga_el hia
      rw [hVd] at h ⊢
      intro H locs ls hP hD hS hl
      have he : (mm_wd ad (cI, cZ, cG) Y σ)[k]? = some (ad k, .inl (cG, n, .inr (.inr (.inr (.inr (fun j => if j < n then some (ad (k + 1 + j)) else none)))))) := by
        rw [mm_wd_get (mm_kd_lt (by rw [hkd]; exact fun z => nomatch z))]; simp only [mm_ce, hkd]
      have hjn : j.toNatClampNeg < n := Nat.not_le.mp fun q => hin (Or.inr q)
      refine mm_aald hx hb hK hP k 2 he htG hin hdg ?_
      simp only [hjn, if_true]
      exact h H locs ls hP hD hS hl
    case iastore =>
      replace h := mm_iir_el h
      obtain ⟨x, j, k, r, rfl, hia, h⟩ := h
      obtain ⟨n, fs, hkd, hin⟩ := mm_ia_el hia
      rw [hVd] at h ⊢
      intro H locs ls hP hD hS hl
      have he : (mm_wd ad (cI, cZ, cG) Y σ)[k]? = some (ad k, .inl (cI, n, .inl (σ k))) := by
        rw [mm_wd_get (mm_kd_lt (by rw [hkd]; exact fun z => nomatch z))]; simp only [mm_ce, hkd]
      have hst : (mm_wd ad (cI, cZ, cG) Y σ).set k (ad k, .inl (cI, n, .inl (upd (σ k) j.toNatClampNeg x))) = mm_wd ad (cI, cZ, cG) Y (mm_up σ k j.toNatClampNeg x) := by
        refine mm_wd_set ?_
        simp only [mm_ce, hkd, mm_up_eq]
      refine va_iast hx hb hK hP hD hS k 0 he htI hin hdg (fun H1 locs1 hP1 hD1 hS1 => ?_)
      rw [hst] at hP1 hD1
      exact h H1 locs1 ls hP1 hD1 hS1 hl
    case bastore =>
      replace h := mm_iir_el h
      obtain ⟨x, j, k, r, rfl, hia, h⟩ := h
      obtain ⟨n, fs, hkd, hin⟩ := mm_za_el hia
      rw [hVd] at h ⊢
      intro H locs ls hP hD hS hl
      have he : (mm_wd ad (cI, cZ, cG) Y σ)[k]? = some (ad k, .inl (cZ, n, .inl (σ k))) := by
        rw [mm_wd_get (mm_kd_lt (by rw [hkd]; exact fun z => nomatch z))]; simp only [mm_ce, hkd]
      have hst : (mm_wd ad (cI, cZ, cG) Y σ).set k (ad k, .inl (cZ, n, .inl (upd (σ k) j.toNatClampNeg (vp_nar .boolean x)))) = mm_wd ad (cI, cZ, cG) Y (mm_up σ k j.toNatClampNeg (vp_nar .boolean x)) := by
        refine mm_wd_set ?_
        simp only [mm_ce, hkd, mm_up_eq]
      refine va_zast hx hb hK hP hD hS k 1 he htZ hin hdg (fun H1 locs1 hP1 hD1 hS1 => ?_)
      rw [hst] at hP1 hD1
      exact h H1 locs1 ls hP1 hD1 hS1 hl
    case getfield idx =>
      replace h := mm_r_el h
      obtain ⟨k, r, rfl, h⟩ := h
      replace h := mm_gv_el h
      obtain ⟨ci, j, fs, hlk, hkd, h⟩ := h
      obtain ⟨C0, T, N, hc, hj, hin, hli⟩ := hg idx ci j hlk
      have he : (mm_wd ad (cI, cZ, cG) Y σ)[k]? = some (ad k, .inr (ci, mm_fv ad (σ k) 0 fs)) := by
        rw [mm_wd_get (mm_kd_lt (by rw [hkd]; exact fun z => nomatch z))]; simp only [mm_ce, hkd]
      rcases h with ⟨q, hf, h⟩ | ⟨hf, h⟩
      · rw [hVd] at h ⊢
        intro H locs ls hP hD hS hl
        exact va_get (D := D) (ref := (T j).1) hx hb hts hin hown hK hP k he hc j hj (hts _ hli) (fun _ z => z) (mm_fv_ref ad (σ k) fs 0 j q hf) hdg (h H locs ls hP hD hS hl)
      · rw [hVd] at h ⊢
        intro H locs ls hP hD hS hl
        have hv := mm_fv_int ad (σ k) fs 0 j hf
        rw [Nat.zero_add] at hv
        exact va_get (D := D) (ref := (T j).1) hx hb hts hin hown hK hP k he hc j hj (hts _ hli) (fun _ z => z) hv hdg (h H locs ls hP hD hS hl)
    case putfield idx =>
      replace h := mm_ir_el h
      obtain ⟨x, k, r, rfl, h⟩ := h
      replace h := mm_pv_el h
      obtain ⟨ci, j, fs, hlk, hkd, hf, hz, h⟩ := h
      obtain ⟨C0, T, N, ty, hc, hj, hin, hli, hty, hnm, hfin, hd⟩ := hp idx ci j hlk
      have he : (mm_wd ad (cI, cZ, cG) Y σ)[k]? = some (ad k, .inr (ci, mm_fv ad (σ k) 0 fs)) := by
        rw [mm_wd_get (mm_kd_lt (by rw [hkd]; exact fun z => nomatch z))]; simp only [mm_ce, hkd]
      have hst : (mm_wd ad (cI, cZ, cG) Y σ).set k (ad k, .inr (ci, (mm_fv ad (σ k) 0 fs).set j (.int x))) = mm_wd ad (cI, cZ, cG) Y (mm_up σ k j x) := by
        refine mm_wd_set ?_
        simp only [mm_ce, hkd, mm_up_eq]
        have q := mm_fv_set ad x fs (σ k) 0 j hf
        rw [Nat.zero_add] at q
        rw [q]
      rw [hVd] at h ⊢
      intro H locs ls hP hD hS hl
      have hnf : narrow (match mm_isZ Y ci j with | true => FieldType.boolean | false => FieldType.int) (.int x) = .int x ∧ fits (match mm_isZ Y ci j with | true => FieldType.boolean | false => FieldType.int) (.int x) = true := by
        cases hz' : mm_isZ Y ci j with
        | false => exact ⟨rfl, rfl⟩
        | true => rcases hz hz' with rfl | rfl <;> exact ⟨rfl, rfl⟩
      refine va_put (D := D) (ref := (T j).1) (v := .int x) hx hb hts hin ty hty hnm hown hK hP hD hS k he hc j hj (hts _ hli) (fun _ z => z) hfin hd hnf.1 hnf.2 (by rw [mm_fv_len]; exact mm_nth_lt hf) hdg (fun H1 locs1 hP1 hD1 hS1 => ?_)
      rw [hst] at hP1 hD1
      exact h H1 locs1 ls hP1 hD1 hS1 hl
    case ldc_w idx =>
      replace h := (hVd (pc + 3) L (.int cs :: S) σ).mp h
      rw [hVd]
      intro H locs ls hP hD hS hl
      exact lv_ldcw hx hb hown (hts _ (hld pc idx len t cs hI)) hdg (h H locs ls hP hD hS hl)
    case goto off =>
      replace h := (hVd t L S σ).mp h
      rw [hVd]
      intro H locs ls hP hD hS hl
      exact lv_goto hx hb hdg (of_decide_eq_true hcst) (h H locs ls hP hD hS hl)
    case ifCond cd off =>
      replace h := mm_1_el h
      obtain ⟨x, r, rfl, h⟩ := h
      have ht : (pc : Int) + off = (t : Int) := of_decide_eq_true hcst
      rw [hVd]
      intro H locs ls hP hD hS hl
      cases cd
      · exact lv_if_eq hx hb hdg ht (fun q => (hVd _ _ _ _).mp (h.1 q) H locs ls hP hD hS hl) (fun q => (hVd _ _ _ _).mp (h.2 q) H locs ls hP hD hS hl)
      · exact lv_if_ne hx hb hdg ht (fun q => (hVd _ _ _ _).mp (h.2 q) H locs ls hP hD hS hl) (fun q => (hVd _ _ _ _).mp (h.1 q) H locs ls hP hD hS hl)
      · exact lv_if_lt hx hb hdg ht (fun q => (hVd _ _ _ _).mp (h.1 q) H locs ls hP hD hS hl) (fun q => (hVd _ _ _ _).mp (h.2 q) H locs ls hP hD hS hl)
      · exact lv_if_ge hx hb hdg ht (fun q => (hVd _ _ _ _).mp (h.1 q) H locs ls hP hD hS hl) (fun q => (hVd _ _ _ _).mp (h.2 q) H locs ls hP hD hS hl)
      · exact lv_if_gt hx hb hdg ht (fun q => (hVd _ _ _ _).mp (h.1 q) H locs ls hP hD hS hl) (fun q => (hVd _ _ _ _).mp (h.2 q) H locs ls hP hD hS hl)
      · exact lv_if_le hx hb hdg ht (fun q => (hVd _ _ _ _).mp (h.1 q) H locs ls hP hD hS hl) (fun q => (hVd _ _ _ _).mp (h.2 q) H locs ls hP hD hS hl)
    case if_icmp cd off =>
      replace h := mm_2_el h
      obtain ⟨x, y, r, rfl, h⟩ := h
      have ht : (pc : Int) + off = (t : Int) := of_decide_eq_true hcst
      rw [hVd]
      intro H locs ls hP hD hS hl
      cases cd
      · exact lv_icmp_eq hx hb hdg ht (fun q => (hVd _ _ _ _).mp (h.1 q) H locs ls hP hD hS hl) (fun q => (hVd _ _ _ _).mp (h.2 q) H locs ls hP hD hS hl)
      · exact lv_icmp_ne hx hb hdg ht (fun q => (hVd _ _ _ _).mp (h.2 q) H locs ls hP hD hS hl) (fun q => (hVd _ _ _ _).mp (h.1 q) H locs ls hP hD hS hl)
      · exact lv_icmp_lt hx hb hdg ht (fun q => (hVd _ _ _ _).mp (h.1 q) H locs ls hP hD hS hl) (fun q => (hVd _ _ _ _).mp (h.2 q) H locs ls hP hD hS hl)
      · exact lv_icmp_ge hx hb hdg ht (fun q => (hVd _ _ _ _).mp (h.1 q) H locs ls hP hD hS hl) (fun q => (hVd _ _ _ _).mp (h.2 q) H locs ls hP hD hS hl)
      · exact lv_icmp_gt hx hb hdg ht (fun q => (hVd _ _ _ _).mp (h.1 q) H locs ls hP hD hS hl) (fun q => (hVd _ _ _ _).mp (h.2 q) H locs ls hP hD hS hl)
      · exact lv_icmp_le hx hb hdg ht (fun q => (hVd _ _ _ _).mp (h.1 q) H locs ls hP hD hS hl) (fun q => (hVd _ _ _ _).mp (h.2 q) H locs ls hP hD hS hl)
    case invokevirtual idx => exact hc1 pc idx L S σ hdg h
    case invokestatic idx => exact hc0 pc idx L S σ hdg h
    case tableswitch dflt lo hi offs =>
      replace h := mm_1_el h
      obtain ⟨x, r, rfl, h⟩ := h
      rcases mm_sw_el h hcst with ⟨t9, h1, h2, h⟩ | ⟨off, t9, h1, h2, h3, h4, h⟩
      · rw [hVd] at h ⊢
        intro H locs ls hP hD hS hl
        exact lv_tableOut hx hb hdg h1 h2 (h H locs ls hP hD hS hl)
      · rw [hVd] at h ⊢
        intro H locs ls hP hD hS hl
        exact lv_tableIn hx hb hdg h1 h2 h3 h4 (h H locs ls hP hD hS hl)
    case ireturn =>
      replace h := mm_rt_el h
      obtain ⟨v, rfl, hq, hm⟩ := h
      rw [hVd]
      intro H locs ls hP hD hS hl
      rcases hm with hm | ⟨hm, hv⟩
      · rw [hm] at hr
        exact mx_mono hQf <| W.iret hx hb hr (fun t ht hW => ⟨⟨some (.int v), σ, hq, rfl, by rw [ht]; exact hP, hD, va_K.moved hW.alike hK⟩, hS.F ht⟩) hS.2.2 hdg
      · rw [hm] at hr
        exact mx_mono hQf <| W.zret (ty := .boolean) hx hb hr (by rcases hv with rfl | rfl <;> rfl) (fun t ht hW => ⟨⟨some (.int v), σ, hq, rfl, by rw [ht]; exact hP, hD, va_K.moved hW.alike hK⟩, hS.F ht⟩) hS.2.2 hdg
    case return_ =>
      replace h := mm_rv_el h
      obtain ⟨rfl, hq, hm⟩ := h
      rw [hVd]
      intro H locs ls hP hD hS hl
      rw [hm] at hr
      exact mx_mono hQf <| W.vret hx hb hr (fun t ht hW => ⟨⟨none, σ, hq, rfl, by rw [ht]; exact hP, hD, va_K.moved hW.alike hK⟩, hS.F ht⟩) hS.2.2 hdg
    all_goals exact h.elim
end MMstep
end
section
/-! Calls: the small machine's calls are the machine's, by depth -/
theorem mm_pop_el : ∀ (n : Nat) (acc S as r : List Value), mm_pop n acc S = some (as, r) → ∃ t : List Value, t.length = n ∧ S = t ++ r ∧ as = t.reverse ++ acc
  | 0, acc, S, as, r, h => by
    simp only [mm_pop, Option.some.injEq, Prod.mk.injEq] at h
    obtain ⟨rfl, rfl⟩ := h
    exact ⟨[], rfl, rfl, rfl⟩
  | n + 1, acc, [], as, r, h => by simp [mm_pop] at h
  | n + 1, acc, v :: S, as, r, h => by
    obtain ⟨t, h1, h2, h3⟩ := mm_pop_el n (v :: acc) S as r h
    exact ⟨v :: t, by simp [h1], by simp [h2], by simp [h3]⟩
theorem mm_call_el {Y : mm_Y} {C : mm_C} {M : mm_M} {idx self : Nat} {S : List Value} {σ : mm_S} {K : List Value → mm_S → Prop} (h : mm_call Y C M idx self S σ K) :
    ∃ y n ci as r, mm_look M.2.2.2.1 idx = some (y, n, ci) ∧ S = as.reverse ++ r ∧ as.length = n + self ∧ mm_c1 8 r = true ∧ mm_rcv Y self ci as = true ∧ C y as σ (fun v σ' => K (v.toList ++ r) σ') := by
  unfold mm_call at h
  split at h
  · rename_i y n ci hl
    split at h
    · rename_i as r hp
      split at h
      · rename_i hb
        obtain ⟨t, h1, h2, h3⟩ := mm_pop_el _ _ _ _ _ hp
        rw [Bool.and_eq_true] at hb
        rw [List.append_nil] at h3
        exact ⟨y, n, ci, as, r, hl, by rw [h2, h3, List.reverse_reverse], by rw [h3, List.length_reverse, h1], hb.1, hb.2, h⟩
      · exact h.elim
    · exact h.elim
  · exact h.elim
theorem mm_cat_le (ad : Nat → Nat) : ∀ (r : List Value), (∀ v ∈ r, v.category = 1) → ((r.map (mm_rho ad)).map fun v => v.category).sum = r.length
  | [], _ => rfl
  | v :: r, h => by
    have q := mm_cat_le ad r (fun w hw => h w (List.mem_cons_of_mem _ hw))
    simp only [List.map_cons, List.sum_cons, q, mm_rho_cat, h v List.mem_cons_self, List.length_cons]
    omega
theorem mm_c1_el {n : Nat} {r : List Value} (h : mm_c1 n r = true) : r.length ≤ n ∧ ∀ v ∈ r, v.category = 1 := by
  unfold mm_c1 at h
  rw [Bool.and_eq_true] at h
  refine ⟨Nat.le_of_ble_eq_true h.1, fun v hv => ?_⟩
  have q := List.all_eq_true.mp h.2 v hv
  cases v <;> first | rfl | cases q
theorem mm_sl_len : ∀ (vs : List Value), (∀ v ∈ vs, v.category = 1) → (lg_sl vs).length = vs.length
  | [], _ => rfl
  | v :: vs, h => by
    have q := mm_sl_len vs (fun w hw => h w (List.mem_cons_of_mem _ hw))
    have hv := h v List.mem_cons_self
    unfold lg_sl at q ⊢
    simp only [List.flatMap_cons, List.length_append, q, List.length_cons, hv]
    simp
    omega
theorem mm_args_ll (ad : Nat → Nat) : ∀ (as : List Value) (i k : Nat), (∀ v ∈ as, v.category = 1) → mm_ll ad i (as.map some ++ List.replicate k none) = lv_args i (as.map (mm_rho ad))
  | [], i, 0, _ => rfl
  | [], i, k + 1, h => by
    have q := mm_args_ll ad [] (i + 1) k h
    simp only [List.map_nil, List.nil_append] at q ⊢
    rw [List.replicate_succ]
    simp only [mm_ll, q]
    rfl
  | v :: as, i, k, h => by
    have q := mm_args_ll ad as (i + 1) k (fun w hw => h w (List.mem_cons_of_mem _ hw))
    simp only [List.map_cons, List.cons_append, mm_ll, lv_args, q, mm_rho_cat, h v List.mem_cons_self]
    rfl
theorem mm_nth_ent {as : List Value} {k i : Nat} {v : Value} (h : mm_nth (as.map some ++ List.replicate k none) i = some (some v)) : v ∈ as := by
  rw [mm_nth_eq] at h
  by_cases hi : i < (as.map some).length
  · rw [List.getElem?_append_left hi, List.getElem?_map] at h
    cases e : as[i]? with
    | none => rw [e] at h; cases h
    | some w =>
      rw [e] at h
      simp only [Option.map_some, Option.some.injEq] at h
      subst h
      exact List.mem_of_getElem? e
  · rw [List.getElem?_append_right (by omega), List.getElem?_replicate] at h
    split at h <;> cases h
def mm_ws (Ts : List Cond) (nm : Nat → MethodName) (by_ : Nat → ByteArray) (mx : Nat → Nat) (Y : mm_Y) (y : Nat) : List Cond := .code (nm y) (by_ y) (mx y) (mm_rty (mm_me Y y).2.2.2.2) :: Ts
def mm_rm (d : Nat) : Room := { frames := d, cells := 0, slots := 0, locals := 40 * d }
/-- a static table that nobody writes: cell 202 -/
def mm_tab (j : Nat) : Value := .int ((mm_nth [(2 : Int32), 0, 3, 1] j).getD 0)
def mm_G (ad : Nat → Nat) (A : Nat → Prop) (U : State) (H : Heap) : Prop := va_Z "HouseDesk$Layout" "DIRECTION" "[I" (.ref (ad 202)) A U H ∧ va_T .int (ad 202) 4 mm_tab A U H
theorem mm_G.moved {ad : Nat → Nat} {A : Nat → Prop} {u U : State} {H : Heap} (hvm : u.vm.Alike U.vm) (h : mm_G ad A u H) : mm_G ad A U H := ⟨h.1.moved hvm, h.2.moved hvm⟩
theorem mm_G.kept {ad : Nat → Nat} {A : Nat → Prop} {U : State} {H H1 : Heap} (h : mm_G ad A U H) (hq : ∀ a : Nat, a < H.size → ¬ A a → H1[a]? = H[a]?) : mm_G ad A U H1 := ⟨h.1.kept hq, h.2.kept hq⟩
theorem mm_G.narrow {ad : Nat → Nat} {A B : Nat → Prop} {U : State} {H : Heap} (h : mm_G ad A U H) (hAB : ∀ q, B q → A q) : mm_G ad B U H := ⟨h.1.narrow hAB, h.2.narrow hAB⟩
def mm_B (D : va_G) (cl : List vw_C) (tys : List (ClassId × FieldType)) (ad : Nat → Nat) (a3 : ClassId × ClassId × ClassId) (Y : mm_Y) (σ : mm_S) (sz : Nat) : State → Prop := fun U =>
  U.heap.size = sz ∧ va_P D cl (mm_wd ad a3 Y σ) U.heap ∧ va_K D cl tys U ∧ va_D (fun _ => True) (mm_wd ad a3 Y σ) ∧ mm_G ad (va_A (mm_wd ad a3 Y σ) sz) U U.heap
/-- a method's contract: from the cells σ, with the arguments as, it comes to an end with Q -/
def mm_T (l : Launch) (Ts : List Cond) (nm : Nat → MethodName) (by_ : Nat → ByteArray) (mx : Nat → Nat) (D : va_G) (cl : List vw_C) (tys : List (ClassId × FieldType)) (ad : Nat → Nat) (a3 : ClassId × ClassId × ClassId) (Y : mm_Y) (d y : Nat) (as : List Value) (σ : mm_S) (Q : mm_Q) : Prop :=
  ∀ sz, Met l (nm y) (mm_ws Ts nm by_ mx Y y) (mm_rm d) (va_Pc (as.map (mm_rho ad)) (mm_B D cl tys ad a3 Y σ sz)) (mm_Qc D cl tys (va_A (mm_wd ad a3 Y σ) sz) ad a3 Y Q) 0 0 (va_A (mm_wd ad a3 Y σ) sz)
theorem mm_A_in {ad : Nat → Nat} {a3 : ClassId × ClassId × ClassId} {Y : mm_Y} {σ σ' : mm_S} {n n' q : Nat} (h : va_A (mm_wd ad a3 Y σ) n q) (hn : n' ≤ n) : va_A (mm_wd ad a3 Y σ') n' q := by
  rcases h with ⟨k, e, h⟩ | h
  · left
    unfold mm_wd at h ⊢
    rw [List.getElem?_map] at h
    cases hr : (List.range Y.1.length)[k]? with
    | none => rw [hr] at h; cases h
    | some j =>
      rw [hr] at h
      simp only [Option.map_some, Option.some.injEq, Prod.mk.injEq] at h
      refine ⟨k, mm_ce ad a3 Y σ' j, ?_⟩
      rw [List.getElem?_map, hr, Option.map_some, h.1]
  · right; omega
section MMcall
variable {p : Program} {l : Launch} {e : Env} {R : Room} {s : State} {m : MethodId} {args : Array Value} {below : List Frame} {meth : Method} {c : Code} {D : va_G} {cl : List vw_C} {A A1 : Nat → Prop} {ad : Nat → Nat} {a3 : ClassId × ClassId × ClassId} {Y : mm_Y} {nL : Nat} {Q' : mm_Q} {Qf : State → Prop} {cc : ByteArray} {Ts : List Cond} {own : String} {tys : List (ClassId × FieldType)} {H : Heap} {locs : List Loc} {pc : Nat} {ls : Array Slot} {st0 rest : List Value} {arr : Array Value}
/-- behind a call -/
theorem mm_goon (hr : va_Run p l e R s m args below meth c H locs 0 0 0 0 (F0 m pc ls st0) rest (mm_Qc D cl tys A1 ad a3 Y Q' arr) A1) (hS : va_S A s.heap H locs) (hA1 : ∀ q, A1 q → A q)
    (kk : ∀ (v : Option Value) (σ' : mm_S) (H1 : Heap) (locs1 : List Loc), Q' v σ' → va_P D cl (mm_wd ad a3 Y σ') H1 → va_D A (mm_wd ad a3 Y σ') → va_S A s.heap H1 locs1 → W p l e R s m args below meth c H1 locs1 0 0 Qf (F0 m (pc + 3) ls ((v.map (mm_rho ad)).toList ++ rest))) :
    W p l e R s m args below meth c H locs 0 0 Qf (F0 m pc ls st0) := by
  intro T hT X
  obtain ⟨v, st₀, t, T', L, h0, X', hL, e1, e2, ⟨⟨v', σ', hq, hv, hP1, hD1, hK1⟩, hz, hk⟩, st⟩ := hr T hT X
  cases hv
  rw [h0] at hz hk
  rw [← e1] at hP1 hz hk
  obtain ⟨t2, a1, b1⟩ := kk v' σ' T'.heap (locs ++ L) hq hP1 (hD1.weaken (fun _ _ _ h => hA1 _ h))
    ⟨Nat.le_trans hS.1 hz, fun q h1 h2 => by rw [hk q (Nat.lt_of_lt_of_le h1 hS.1) (fun z => h2 (hA1 q z))]; exact hS.2.1 q h1 h2, fun q hq => by
      rcases List.mem_append.mp hq with h | h
      · exact hS.2.2 q h
      · exact hA1 _ (hL q h)⟩ T' rfl X'
  exact ⟨t2, st t2 a1, b1⟩
end MMcall
end
section
/-! The small machine's contracts hold of the machine -/
def mm_kok (Ts : List Cond) (nm : Nat → MethodName) (by_ : Nat → ByteArray) (mx : Nat → Nat) (cl : List vw_C) (Y : mm_Y) (own : String) (q : Nat × Nat × Nat × Nat) : Prop :=
  mx q.2.1 ≤ 21 ∧ Cond.code (nm q.2.1) (by_ q.2.1) (mx q.2.1) (mm_rty (mm_me Y q.2.1).2.2.2.2) ∈ Ts ∧ Cond.methodLink own q.1 (nm q.2.1) ∈ Ts ∧ Cond.initialized (nm q.2.1).cls ∈ Ts ∧
  ((nm q.2.1).cls ≠ "java/lang/invoke/MethodHandle" ∧ (nm q.2.1).cls ≠ "java/lang/invoke/VarHandle" ∧ (parseMethodDescriptor (nm q.2.1).desc).map (fun d => d.parameters.length) = some q.2.2.1) ∧
  (q.2.2.2 = 99 → Cond.static (nm q.2.1) ∈ Ts) ∧ (q.2.2.2 ≠ 99 → Cond.instanceMethod (nm q.2.1) ∈ Ts ∧ Cond.selects (nm q.2.1).cls (nm q.2.1) (nm q.2.1) ∈ Ts ∧ ∃ T N, cl[q.2.2.2]? = some ((nm q.2.1).cls, T, N))
def mm_ok (Ts : List Cond) (nm : Nat → MethodName) (by_ : Nat → ByteArray) (mx : Nat → Nat) (cl : List vw_C) (Y : mm_Y) (y : Nat) : Prop :=
  plainName (nm y).cls = true ∧ (mm_me Y y).1.all (mm_okE (by_ y)) = true ∧ (∀ q ∈ (mm_me Y y).2.1, mm_gok cl Ts (nm y).cls q.1 q.2.1 q.2.2) ∧ (∀ q ∈ (mm_me Y y).2.2.1, mm_pok Y cl Ts (nm y).cls q.1 q.2.1 q.2.2) ∧
  (∀ q ∈ (mm_me Y y).2.2.2.1, mm_kok Ts nm by_ mx cl Y (nm y).cls q) ∧ (∀ (pc idx len t : Nat) (v : Int32), mm_look (mm_me Y y).1 pc = some (.ldc_w idx, len, t, v) → Cond.constant (nm y).cls idx v ∈ Ts)
theorem mm_rho_toList (ad : Nat → Nat) (v : Option Value) (r : List Value) : (v.map (mm_rho ad)).toList ++ r.map (mm_rho ad) = (v.toList ++ r).map (mm_rho ad) := by cases v <;> simp
theorem mm_rcv_el {Y : mm_Y} {ci : Nat} {as : List Value} (h : mm_rcv Y 1 ci as = true) : ∃ k r fs, as = .ref k :: r ∧ mm_kd Y k = (0, ci, fs) ∧ ci ≠ 99 := by
  unfold mm_rcv at h
  dsimp only at h
  split at h
  · rename_i k r
    split at h
    · rename_i c fs hk
      rw [Bool.and_eq_true] at h
      have hc := Nat.eq_of_beq_eq_true h.1
      subst hc
      refine ⟨k, r, fs, rfl, hk, fun q => ?_⟩
      have h2 := h.2
      rw [q] at h2
      cases h2
    · cases h
  · cases h
theorem mm_W_nil {Y : mm_Y} {C : mm_C} {M : mm_M} {Q : mm_Q} {pc : Nat} {L : List (Option Value)} {S : List Value} {σ : mm_S} (hM : M.1 = []) (h : mm_W Y C M Q pc L S σ) : False := by
  refine h (fun _ _ _ _ => False) (fun pc L S σ q => ?_)
  unfold mm_one at q
  rw [hM] at q
  exact q
section MMsound
variable {l : Launch} {Ts : List Cond} {nm : Nat → MethodName} {by_ : Nat → ByteArray} {mx : Nat → Nat} {D : va_G} {cl : List vw_C} {cI cZ cG : ClassId} {ad : Nat → Nat} {Y : mm_Y} {B : mm_C} {yM ym : Nat}
set_option maxHeartbeats 4000000 in
theorem mm_sound (hgood : ∀ w ∈ Ts, goodWord w = true) (hok : ∀ y, y < Y.2.2.length → (mm_me Y y).1 ≠ [] → mm_ok Ts nm by_ mx cl Y y)
    (hMn : nm yM = Lib.Math.max.name ∧ by_ yM = Lib.Math.max.code ∧ mx yM = 2 ∧ (mm_me Y yM).2.2.2.2 = 1 ∧ (mm_me Y yM).1 = []) (hmn : nm ym = Lib.Math.min.name ∧ by_ ym = Lib.Math.min.code ∧ mx ym = 2 ∧ (mm_me Y ym).2.2.2.2 = 1 ∧ (mm_me Y ym).1 = [])
    (hB : ∀ y as σ Q, B y as σ Q → (y ≠ yM ∧ y ≠ ym ∧ ∀ d, mm_T l Ts nm by_ mx D cl [(cI, .int), (cZ, .boolean), (cG, .array .int)] ad (cI, cZ, cG) Y d y as σ Q) ∨ (y = yM ∧ ∃ x z, as = [.int x, .int z] ∧ Q (some (.int (if x < z then z else x))) σ) ∨ (y ≠ yM ∧ y = ym ∧ ∃ x z, as = [.int x, .int z] ∧ Q (some (.int (if z < x then z else x))) σ)) :
    ∀ d y as σ Q, y ≠ yM → y ≠ ym → mm_D Y B mx d y as σ Q → mm_T l Ts nm by_ mx D cl [(cI, .int), (cZ, .boolean), (cG, .array .int)] ad (cI, cZ, cG) Y d y as σ Q := by
  intro d
  induction d with
  | zero =>
    intro y as σ Q h1 h2 h
    rcases hB y as σ Q h with ⟨-, -, hT⟩ | ⟨hy, -⟩ | ⟨-, hy, -⟩
    · exact hT 0
    · exact absurd hy h1
    · exact absurd hy h2
  | succ d ih =>
    intro y as σ Q hy1 hy2 h
    rcases h with h | ⟨hc, h⟩
    · rcases hB y as σ Q h with ⟨-, -, hT⟩ | ⟨hy, -⟩ | ⟨-, hy, -⟩
      · exact hT _
      · exact absurd hy hy1
      · exact absurd hy hy2
    by_cases hy : y < Y.2.2.length
    case neg =>
      refine (mm_W_nil ?_ h).elim
      unfold mm_me
      cases e : mm_nth Y.2.2 y with
      | none => rfl
      | some q => exact absurd (mm_nth_lt e) hy
    case pos =>
    obtain ⟨hpl, hE, hg, hp, hk, hld⟩ := hok y hy (fun q => mm_W_nil q h)
    obtain ⟨hlen, hcat⟩ := mm_c1_el hc
    intro sz
    refine Met.ofW (cc := by_ y) (maxL := mx y) (ret := mm_rty (mm_me Y y).2.2.2.2) hpl rfl ?_
    intro p e s m args below meth c s₁ B0 hml hv
    obtain ⟨rfl, hsz, hP, hK, hD0, hG0⟩ := hv
    have hx := B0.exec
    have hb := B0.bytes
    have hr := B0.returns
    have hlocks := B0.notSynchronized
    have hts0 := atoms_spec (ws := mm_ws Ts nm by_ mx Y y) B0.pre
    have hts : ∀ w ∈ Ts, w.before (as.map (mm_rho ad)).toArray s = true := fun w hw => hts0 w (List.mem_cons_of_mem _ hw)
    have hown : s.vm.findClass (nm y).cls = some m.cls := findClass_of_methodNamed B0.named
    have hG : ∀ y', Cond.code (nm y') (by_ y') (mx y') (mm_rty (mm_me Y y').2.2.2.2) ∈ Ts → GoodIn Ts (mm_ws Ts nm by_ mx Y y') := fun y' hy' w hw => by
      rcases List.mem_cons.mp hw with h9 | h9
      · subst h9
        exact ⟨hy', good_of_word (hgood _ hy')⟩
      · exact ⟨h9, good_of_word (hgood _ h9)⟩
    subst hsz
    have hD := hD0.self (sz := s.heap.size)
    have hcat' : ∀ v ∈ as.map (mm_rho ad), v.category = 1 := fun v hv => by
      obtain ⟨w, hw, rfl⟩ := List.mem_map.mp hv
      rw [mm_rho_cat]
      exact hcat w hw
    have hl := lv_entry (as.map (mm_rho ad)) (n := mx y) (by rw [mm_sl_len _ hcat', List.length_map]; exact hlen)
    rw [lg_entry_eq]
    generalize (lg_sl (as.map (mm_rho ad)) ++ List.replicate (mx y - (lg_sl (as.map (mm_rho ad))).length) Slot.unset).toArray = ls0 at hl ⊢
    have hlh : mm_lh ad ls0 (mx y) (mm_ent (mx y) as) := by
      refine ⟨?_, ?_, fun k v hk => hcat v (mm_nth_ent hk)⟩
      · unfold mm_ent
        rw [mm_args_ll ad as 0 _ hcat]
        exact hl
      · unfold mm_ent
        rw [List.length_append, List.length_map, List.length_replicate]
        omega
    have hV := h (mm_V p l e (mm_rm (d + 1)) s m (as.map (mm_rho ad)).toArray below meth c D cl (va_A (mm_wd ad (cI, cZ, cG) Y σ) s.heap.size) ad (cI, cZ, cG) Y (mx y) (MQ below (mm_Qc D cl [(cI, .int), (cZ, .boolean), (cG, .array .int)] (va_A (mm_wd ad (cI, cZ, cG) Y σ) s.heap.size) ad (cI, cZ, cG) Y Q) (as.map (mm_rho ad)).toArray s 0 0 (va_A (mm_wd ad (cI, cZ, cG) Y σ) s.heap.size)))
      (mm_step (own := (nm y).cls) (Ts := Ts) (fun _ z => z) hx hb hown hts hK rfl rfl rfl hr hlocks hE (fun idx ci j hq => hg _ (mm_look_mem hq)) (fun idx ci j hq => hp _ (mm_look_mem hq)) hld ?_ ?_)
    · exact hV s.heap [] ls0 hP hD va_S.rf hlh
    · intro pc idx L S σ1 hdg hcall
      obtain ⟨y', n, ci, as', r, hlk, rfl, hln, hc8, hrc, hC⟩ := mm_call_el hcall
      obtain ⟨k, as2, fs, rfl, hkd, hci⟩ := mm_rcv_el hrc
      obtain ⟨hmx, hcode, hlink, hini, hd, -, hvir⟩ := hk _ (mm_look_mem hlk)
      obtain ⟨hinst, hsel, Tc, Nc, hclc⟩ := hvir hci
      obtain ⟨hr8, hrcat⟩ := mm_c1_el hc8
      have hnB : ∀ (Q9 : mm_Q), mm_D Y B mx d y' (.ref k :: as2) σ1 Q9 → y' ≠ yM ∧ y' ≠ ym := by
        intro Q9 h9
        have hbb : ∀ y9, (mm_me Y y9).1 = [] → mm_D Y B mx d y9 (.ref k :: as2) σ1 Q9 → B y9 (.ref k :: as2) σ1 Q9 := by
          intro y9 he h8
          cases d with
          | zero => exact h8
          | succ d => exact h8.elim id (fun h7 => (mm_W_nil he h7.2).elim)
        constructor
        · intro e9
          subst e9
          rcases hB _ _ _ _ (hbb _ hMn.2.2.2.2 h9) with ⟨h7, -⟩ | ⟨-, x, z, h7, -⟩ | ⟨h7, -⟩
          · exact h7 rfl
          · cases h7
          · exact h7 rfl
        · intro e9
          subst e9
          rcases hB _ _ _ _ (hbb _ hmn.2.2.2.2 h9) with ⟨-, h7, -⟩ | ⟨-, x, z, h7, -⟩ | ⟨-, -, x, z, h7, -⟩
          · exact h7 rfl
          · cases h7
          · cases h7
      have hT := ih y' (.ref k :: as2) σ1 _ (hnB _ hC).1 (hnB _ hC).2 hC
      intro H locs ls hP1 hD1 hS1 hl1
      have hM := hT H.size
      have he : (mm_wd ad (cI, cZ, cG) Y σ1)[k]? = some (ad k, .inr (ci, mm_fv ad (σ1 k) 0 fs)) := by
        rw [mm_wd_get (mm_kd_lt (by rw [hkd]; exact fun z => nomatch z))]; simp only [mm_ce, hkd]
      have hstk : ((Value.ref k :: as2).reverse ++ r).map (mm_rho ad) = (as2.map (mm_rho ad)).reverse ++ .ref (ad k) :: r.map (mm_rho ad) := by
        simp [mm_rho]
      rw [hstk]
      refine mm_goon (va_runV (C := (nm y').cls) (b := ad k) (As := as2.map (mm_rho ad)) (rest := r.map (mm_rho ad)) (n := n) ⟨hx, hb, hml, hown, hts⟩ hM ⟨callB_of n hts (hG y' hcode) rfl rfl rfl (hts _ hini) (hts _ hlink) hd ⟨Nat.le_refl _, by show 8 + (mx y' + 11) + 40 * d ≤ 40 * (d + 1); have := hmx; dsimp only at this; omega⟩, hts _ hinst, hts _ hsel⟩
        ⟨fun a U g mk q => by obtain ⟨q0, q1, qP, qK, qD, qG⟩ := q; exact ⟨q0, q1, qP, va_K.moved (u := U) (U := U.calling g mk a) (Vm.Alike.refl U.vm) qK, qD, mm_G.moved (u := U) (U := U.calling g mk a) (Vm.Alike.refl U.vm) qG⟩, va_recv hK hP1 hclc he, fun U hU hW => ⟨rfl, by rw [hU], by rw [hU]; exact hP1, va_K.moved hW.alike hK, hD1.weaken (fun _ _ _ _ => trivial), by rw [hU]; exact ((hG0.kept hS1.2.1).narrow (fun q h8 => mm_A_in h8 hS1.1)).moved hW.alike⟩⟩
        rfl (by rw [List.length_map]; simp only [List.length_cons] at hln; omega) hl1.1.1 rfl (lv_room (by rw [mm_cat_le ad r hrcat]; exact hr8)) hdg ⟨Nat.le_refl _, Nat.le_refl _⟩) hS1 (fun q hq => mm_A_in hq hS1.1) (fun v σ' H1 locs1 hq hP2 hD2 hS2 => ?_)
      rw [mm_rho_toList]
      exact hq H1 locs1 ls hP2 hD2 hS2 hl1
    · intro pc idx L S σ1 hdg hcall
      obtain ⟨y', n, ci, as', r, hlk, rfl, hln, hc8, hrc, hC⟩ := mm_call_el hcall
      obtain ⟨hmx, hcode, hlink, hini, hd, hst, -⟩ := hk _ (mm_look_mem hlk)
      obtain ⟨hr8, hrcat⟩ := mm_c1_el hc8
      have h99 : ci = 99 := Nat.eq_of_beq_eq_true hrc
      have hbb : ∀ y9 Q9, (mm_me Y y9).1 = [] → mm_D Y B mx d y9 as' σ1 Q9 → B y9 as' σ1 Q9 := by
        intro y9 Q9 he h8
        cases d with
        | zero => exact h8
        | succ d => exact h8.elim id (fun h7 => (mm_W_nil he h7.2).elim)
      by_cases hyM : y' = yM
      · subst hyM
        rcases hB _ _ _ _ (hbb _ _ hMn.2.2.2.2 hC) with ⟨h7, -⟩ | ⟨-, x, z, rfl, hq⟩ | ⟨h7, -⟩
        · exact absurd rfl h7
        · intro H locs ls hP1 hD1 hS1 hl1
          have hq' := hq H locs ls hP1 hD1 hS1 hl1
          have hst' := hts _ (hst h99)
          have hlink' := hts _ hlink
          have hini' := hts _ hini
          have hcode' := hts _ hcode
          dsimp only at hst' hlink' hini' hcode'
          rw [hMn.1] at hst' hlink' hini'
          rw [hMn.1, hMn.2.1, hMn.2.2.1, hMn.2.2.2.1] at hcode'
          exact va_mmax hx hb (hml.trans hl1.1.1.symm) hown hlink' hst' hini' hcode' (Nat.succ_le_succ (Nat.zero_le _)) (by show ((r.map (mm_rho ad)).map fun v => v.category).sum + 13 ≤ 40 * (d + 1); rw [mm_cat_le ad r hrcat]; omega) (Nat.le_refl _) (Nat.le_refl _) hdg hq'
        · exact absurd rfl h7
      by_cases hym : y' = ym
      · subst hym
        rcases hB _ _ _ _ (hbb _ _ hmn.2.2.2.2 hC) with ⟨-, h7, -⟩ | ⟨h7, -⟩ | ⟨-, -, x, z, rfl, hq⟩
        · exact absurd rfl h7
        · exact absurd h7 hyM
        · intro H locs ls hP1 hD1 hS1 hl1
          have hq' := hq H locs ls hP1 hD1 hS1 hl1
          have hst' := hts _ (hst h99)
          have hlink' := hts _ hlink
          have hini' := hts _ hini
          have hcode' := hts _ hcode
          dsimp only at hst' hlink' hini' hcode'
          rw [hmn.1] at hst' hlink' hini'
          rw [hmn.1, hmn.2.1, hmn.2.2.1, hmn.2.2.2.1] at hcode'
          exact va_mmin hx hb (hml.trans hl1.1.1.symm) hown hlink' hst' hini' hcode' (Nat.succ_le_succ (Nat.zero_le _)) (by show ((r.map (mm_rho ad)).map fun v => v.category).sum + 13 ≤ 40 * (d + 1); rw [mm_cat_le ad r hrcat]; omega) (Nat.le_refl _) (Nat.le_refl _) hdg hq'
      have hT := ih y' as' σ1 _ hyM hym hC
      intro H locs ls hP1 hD1 hS1 hl1
      have hM := hT H.size
      have hstk : (as'.reverse ++ r).map (mm_rho ad) = (as'.map (mm_rho ad)).reverse ++ r.map (mm_rho ad) := by simp
      rw [hstk]
      refine mm_goon (va_runS (As := as'.map (mm_rho ad)) (rest := r.map (mm_rho ad)) (n := n) ⟨hx, hb, hml, hown, hts⟩ hM ⟨callB_of n hts (hG y' hcode) rfl rfl rfl (hts _ hini) (hts _ hlink) hd ⟨Nat.le_refl _, by show 8 + (mx y' + 11) + 40 * d ≤ 40 * (d + 1); have := hmx; dsimp only at this; omega⟩, hts _ (hst h99)⟩
        ⟨fun a U g mk q => by obtain ⟨q0, q1, qP, qK, qD, qG⟩ := q; exact ⟨q0, q1, qP, va_K.moved (u := U) (U := U.calling g mk a) (Vm.Alike.refl U.vm) qK, qD, mm_G.moved (u := U) (U := U.calling g mk a) (Vm.Alike.refl U.vm) qG⟩, fun U hU hW => ⟨rfl, by rw [hU], by rw [hU]; exact hP1, va_K.moved hW.alike hK, hD1.weaken (fun _ _ _ _ => trivial), by rw [hU]; exact ((hG0.kept hS1.2.1).narrow (fun q h8 => mm_A_in h8 hS1.1)).moved hW.alike⟩⟩
        rfl (by rw [List.length_map]; omega) hl1.1.1 rfl (lv_room (by rw [mm_cat_le ad r hrcat]; exact hr8)) hdg ⟨Nat.le_refl _, Nat.le_refl _⟩) hS1 (fun q hq => mm_A_in hq hS1.1) (fun v σ' H1 locs1 hq hP2 hD2 hS2 => ?_)
      rw [mm_rho_toList]
      exact hq H1 locs1 ls hP2 hD2 hS2 hl1
end MMsound
end
section
/-! The building machine: constructors, which make cells and lay fields, straight on -/
/-- a cell: (0, class, what its fields hold, _), (1, n, _, f) ints, (2, n, _, f) booleans, (3, n, _, _) n rows at the cells behind it -/
abbrev bm_K : Type := Nat × Nat × List Value × (Nat → Int32)
/-- a constructor: instructions with their numbers; 'new' (pool number, class, fields' first values); fields written (pool number, class, place); calls (pool number, method, how many arguments; method 999: Object's own) -/
abbrev bm_M : Type := List (Nat × ClassFile.Instr × Int32) × List (Nat × Nat × List Value) × List (Nat × Nat × Nat) × List (Nat × Nat × Nat)
def bm_z : Nat → Int32 := fun _ => 0
def bm_rok (N : Nat) (v : Value) : Bool := match v with
  | .ref k => Nat.blt k N
  | _ => true
def bm_cok (N : Nat) (q : bm_K × Nat) : Bool := match q.1 with
  | (0, _, vs, _) => vs.all (bm_rok N)
  | (1, _, _, _) => true
  | (2, _, _, _) => true
  | (_, n, _, _) => Nat.ble (q.2 + 1 + n) N
def bm_lok (N : Nat) (o : Option Value) : Bool := match o with
  | some v => bm_rok N v
  | none => true
def bm_ok (κ : List bm_K) (L : List (Option Value)) (S : List Value) : Bool := κ.zipIdx.all (bm_cok κ.length) && (L.all (bm_lok κ.length) && S.all (bm_rok κ.length))
def bm_cat (v : Value) : Bool := match v with
  | .int _ => true
  | .ref _ => true
  | _ => false
def bm_step (ty : Nat → Nat → FieldType) (M : bm_M) (i : ClassFile.Instr) (c : Int32) (pc : Nat) (L : List (Option Value)) (S : List Value) (κ : List bm_K) : Option (Nat × List (Option Value) × List Value × List bm_K) := match i with
  | .aload_n k => match mm_nth L k.val with
    | some (some (.ref x)) => some (pc + 1, L, .ref x :: S, κ)
    | _ => none
  | .iconst _ => some (pc + 1, L, .int c :: S, κ)
  | .bipush _ => some (pc + 2, L, .int c :: S, κ)
  | .sipush _ => some (pc + 3, L, .int c :: S, κ)
  | .dup => match S with
    | v :: r => match bm_cat v with
      | true => some (pc + 1, L, v :: v :: r, κ)
      | false => none
    | _ => none
  | .new idx => match mm_look M.2.1 idx with
    | some (ci, vs) => match bm_ok κ L S with
      | true => some (pc + 3, L, .ref κ.length :: S, κ ++ [((0, ci, vs, bm_z) : bm_K)])
      | false => none
    | none => none
  | .newarray t => match S with
    | .int n :: r => match bm_ok κ L r && decide (0 ≤ n ∧ n ≤ 1000) with
      | true => match t with
        | .int => some (pc + 2, L, .ref κ.length :: r, κ ++ [((1, n.toNatClampNeg, [], bm_z) : bm_K)])
        | .boolean => some (pc + 2, L, .ref κ.length :: r, κ ++ [((2, n.toNatClampNeg, [], bm_z) : bm_K)])
        | _ => none
      | false => none
    | _ => none
  | .multianewarray _ 2 => match S with
    | .int k :: .int n :: r => match bm_ok κ L r && decide ((0 ≤ n ∧ n ≤ 1000) ∧ (0 ≤ k ∧ k ≤ 1000)) with
      | true => some (pc + 4, L, .ref κ.length :: r, κ ++ (((3, n.toNatClampNeg, [], bm_z) : bm_K) :: List.replicate n.toNatClampNeg ((1, k.toNatClampNeg, [], bm_z) : bm_K)))
      | false => none
    | _ => none
  | .putfield idx => match S with
    | v :: .ref o :: r => match mm_look M.2.2.1 idx with
      | some (ci, j) => match mm_nth κ o with
        | some (0, ci', vs, f) => match Nat.beq ci' ci && (fits (ty ci j) v && (decide (narrow (ty ci j) v = v) && Nat.blt j vs.length)) with
          | true => some (pc + 3, L, r, mm_set κ o (0, ci', mm_set vs j v, f))
          | false => none
        | _ => none
      | none => none
    | _ => none
  | .getfield idx => match S with
    | .ref o :: r => match mm_look M.2.2.1 idx with
      | some (ci, j) => match mm_nth κ o with
        | some (0, ci', vs, _) => match Nat.beq ci' ci with
          | true => match mm_nth vs j with
            | some v => some (pc + 3, L, v :: r, κ)
            | none => none
          | false => none
        | _ => none
      | none => none
    | _ => none
  | .iastore => match S with
    | .int x :: .int j :: .ref o :: r => match mm_nth κ o with
      | some (1, n, vs, f) => match decide (¬ (j < 0 ∨ n ≤ j.toNatClampNeg)) with
        | true => some (pc + 1, L, r, mm_set κ o (1, n, vs, upd f j.toNatClampNeg x))
        | false => none
      | _ => none
    | _ => none
  | _ => none
def bm_run (ty : Nat → Nat → FieldType) (C : Nat → List Value → List bm_K → Option (List bm_K)) (M : bm_M) : Nat → Nat → List (Option Value) → List Value → List bm_K → Option (List bm_K)
  | 0, _, _, _, _ => none
  | n + 1, pc, L, S, κ => match mm_look M.1 pc with
    | none => none
    | some (i, c) => match i with
      | .return_ => match S with
        | [] => some κ
        | _ => none
      | .invokespecial idx => match mm_look M.2.2.2 idx with
        | some (y, na) => match mm_pop (na + 1) [] S with
          | some (.ref o :: as, r) => match mm_c1 8 r with
            | true => match Nat.beq y 999 with
              | true => match as with
                | [] => bm_run ty C M n (pc + 3) L r κ
                | _ => none
              | false => match L.all (bm_lok κ.length) && r.all (bm_rok κ.length) with
                | true => match C y (.ref o :: as) κ with
                  | some κ' => bm_run ty C M n (pc + 3) L r κ'
                  | none => none
                | false => none
            | false => none
          | _ => none
        | none => none
      | i => match bm_step ty M i c pc L S κ with
        | some (pc', L', S', κ') => bm_run ty C M n pc' L' S' κ'
        | none => none
def bm_D (ty : Nat → Nat → FieldType) (Y : List bm_M) (mx : Nat → Nat) : Nat → Nat → List Value → List bm_K → Option (List bm_K)
  | 0, _, _, _ => none
  | d + 1, y, as, κ => match mm_nth Y y with
    | some M => match mm_c1 (mx y) as with
      | true => bm_run ty (bm_D ty Y mx d) M 400 0 (mm_ent (mx y) as) [] κ
      | false => none
    | none => none
def bm_s1 (c : bm_K) : Nat := match c with
  | (0, _, vs, _) => vs.length
  | (_, n, _, _) => n
def bm_sl (κ : List bm_K) : Nat := (κ.map bm_s1).sum
def bm_ce (ad : Nat → Nat) (a3 : ClassId × ClassId × ClassId) (k : Nat) (c : bm_K) : va_E := match c with
  | (0, ci, vs, _) => .inr (ci, vs.map (mm_rho ad))
  | (1, n, _, f) => .inl (a3.1, n, .inl f)
  | (2, n, _, f) => .inl (a3.2.1, n, .inl f)
  | (_, n, _, _) => .inl (a3.2.2, n, .inr (.inr (.inr (.inr (fun j => if j < n then some (ad (k + 1 + j)) else none)))))
def bm_wd (ad : Nat → Nat) (a3 : ClassId × ClassId × ClassId) (κ : List bm_K) : va_W := κ.zipIdx.map (fun q => (ad q.2, bm_ce ad a3 q.2 q.1))
theorem bm_wd_get {ad : Nat → Nat} {a3 : ClassId × ClassId × ClassId} {κ : List bm_K} {k : Nat} {c : bm_K} (h : mm_nth κ k = some c) : (bm_wd ad a3 κ)[k]? = some (ad k, bm_ce ad a3 k c) := by
  rw [mm_nth_eq] at h
  unfold bm_wd
  rw [List.getElem?_map, List.getElem?_zipIdx, h]
  simp
theorem bm_wd_len {ad : Nat → Nat} {a3 : ClassId × ClassId × ClassId} {κ : List bm_K} : (bm_wd ad a3 κ).length = κ.length := by simp [bm_wd]
theorem bm_wd_set {ad : Nat → Nat} {a3 : ClassId × ClassId × ClassId} {κ : List bm_K} {k : Nat} {c : bm_K} (h : k < κ.length) : (bm_wd ad a3 κ).set k (ad k, bm_ce ad a3 k c) = bm_wd ad a3 (mm_set κ k c) := by
  refine List.ext_getElem? fun i => ?_
  rw [List.getElem?_set, bm_wd_len]
  by_cases hk : k = i
  · subst hk
    rw [if_pos rfl, if_pos h, bm_wd_get (c := c) (by rw [mm_nth_set, if_pos rfl, if_pos h])]
  · rw [if_neg hk]
    unfold bm_wd
    rw [List.getElem?_map, List.getElem?_map, List.getElem?_zipIdx, List.getElem?_zipIdx, ← mm_nth_eq, ← mm_nth_eq, mm_nth_set, if_neg (fun e => hk e.symm)]
theorem bm_wd_app {ad : Nat → Nat} {a3 : ClassId × ClassId × ClassId} {κ κ' : List bm_K} : bm_wd ad a3 (κ ++ κ') = bm_wd ad a3 κ ++ (κ'.zipIdx κ.length).map (fun q => (ad q.2, bm_ce ad a3 q.2 q.1)) := by
  unfold bm_wd
  rw [List.zipIdx_append, List.map_append, Nat.zero_add]
/-- the addresses, with those that come -/
def bm_ad (ad : Nat → Nat) (N q : Nat) : Nat → Nat := fun j => if j < N then ad j else q + (j - N)
theorem bm_ad_lt {ad : Nat → Nat} {N q j : Nat} (h : j < N) : bm_ad ad N q j = ad j := if_pos h
theorem bm_ad_ge {ad : Nat → Nat} {N q j : Nat} (h : N ≤ j) : bm_ad ad N q j = q + (j - N) := if_neg (by omega)
theorem bm_rho_ad {ad : Nat → Nat} {N q : Nat} {v : Value} (h : bm_rok N v = true) : mm_rho (bm_ad ad N q) v = mm_rho ad v := by
  cases v with
  | ref k =>
    have hk : k < N := by simpa [bm_rok, Nat.blt_eq] using h
    simp only [mm_rho, bm_ad_lt hk]
  | _ => rfl
theorem bm_map_ad {ad : Nat → Nat} {N q : Nat} {S : List Value} (h : S.all (bm_rok N) = true) : S.map (mm_rho (bm_ad ad N q)) = S.map (mm_rho ad) := by
  apply List.map_congr_left
  intro v hv
  exact bm_rho_ad (List.all_eq_true.mp h v hv)
theorem bm_wd_ad {ad : Nat → Nat} {a3 : ClassId × ClassId × ClassId} {κ : List bm_K} {q : Nat} (h : κ.zipIdx.all (bm_cok κ.length) = true) : bm_wd (bm_ad ad κ.length q) a3 κ = bm_wd ad a3 κ := by
  unfold bm_wd
  apply List.map_congr_left
  intro x hx
  have hc := List.all_eq_true.mp h x hx
  have hi : x.2 < κ.length := by
    have := List.mem_zipIdx' (x := x.1) (i := x.2) hx
    exact this.1
  rw [bm_ad_lt hi]
  obtain ⟨⟨t, n, vs, f⟩, i⟩ := x
  have hi' : i < κ.length := hi
  rcases t with _ | _ | _ | t
  · have hc' : vs.all (bm_rok κ.length) = true := hc
    show (ad i, (Sum.inr (n, vs.map (mm_rho (bm_ad ad κ.length q))) : va_E)) = (ad i, Sum.inr (n, vs.map (mm_rho ad)))
    rw [bm_map_ad hc']
  · rfl
  · rfl
  · have hle : i + 1 + n ≤ κ.length := Nat.le_of_ble_eq_true hc
    have hf : (fun j => if j < n then some (bm_ad ad κ.length q (i + 1 + j)) else none) = (fun j => if j < n then some (ad (i + 1 + j)) else none) := by
      funext j
      by_cases hj : j < n
      · simp only [hj, if_true, bm_ad_lt (show i + 1 + j < κ.length by omega)]
      · simp only [hj, if_false]
    show (ad i, (Sum.inl (a3.2.2, n, .inr (.inr (.inr (.inr (fun j => if j < n then some (bm_ad ad κ.length q (i + 1 + j)) else none))))) : va_E)) = (ad i, Sum.inl (a3.2.2, n, .inr (.inr (.inr (.inr (fun j => if j < n then some (ad (i + 1 + j)) else none))))))
    rw [hf]
theorem bm_lh_ad {ad : Nat → Nat} {ls : Array Slot} {n N q : Nat} {L : List (Option Value)} (hL : L.all (bm_lok N) = true) (h : mm_lh ad ls n L) : mm_lh (bm_ad ad N q) ls n L := by
  obtain ⟨⟨h1, h2, h3⟩, h4, h5⟩ := h
  refine ⟨⟨h1, h2, fun x hx => ?_⟩, h4, h5⟩
  obtain ⟨k, v, rfl, hk⟩ := mm_ll_of (bm_ad ad N q) L 0 x hx
  have hv : bm_rok N v = true := by
    rw [mm_nth_eq] at hk
    have := List.all_eq_true.mp hL _ (List.mem_of_getElem? hk)
    exact this
  rw [bm_rho_ad hv]
  exact h3 _ (mm_ll_mem ad L 0 k v hk)
theorem bm_rho_ag {ad ad' : Nat → Nat} {N : Nat} (hag : ∀ k, k < N → ad' k = ad k) {v : Value} (h : bm_rok N v = true) : mm_rho ad' v = mm_rho ad v := by
  cases v with
  | ref k =>
    have hk : k < N := by simpa [bm_rok, Nat.blt_eq] using h
    simp only [mm_rho, hag k hk]
  | _ => rfl
theorem bm_map_ag {ad ad' : Nat → Nat} {N : Nat} (hag : ∀ k, k < N → ad' k = ad k) {S : List Value} (h : S.all (bm_rok N) = true) : S.map (mm_rho ad') = S.map (mm_rho ad) := by
  apply List.map_congr_left
  intro v hv
  exact bm_rho_ag hag (List.all_eq_true.mp h v hv)
theorem bm_lh_ag {ad ad' : Nat → Nat} {ls : Array Slot} {n N : Nat} (hag : ∀ k, k < N → ad' k = ad k) {L : List (Option Value)} (hL : L.all (bm_lok N) = true) (h : mm_lh ad ls n L) : mm_lh ad' ls n L := by
  obtain ⟨⟨h1, h2, h3⟩, h4, h5⟩ := h
  refine ⟨⟨h1, h2, fun x hx => ?_⟩, h4, h5⟩
  obtain ⟨k, v, rfl, hk⟩ := mm_ll_of ad' L 0 x hx
  have hv : bm_rok N v = true := by
    rw [mm_nth_eq] at hk
    exact List.all_eq_true.mp hL _ (List.mem_of_getElem? hk)
  rw [bm_rho_ag hag hv]
  exact h3 _ (mm_ll_mem ad L 0 k v hk)
theorem bm_sl_app (κ κ' : List bm_K) : bm_sl (κ ++ κ') = bm_sl κ + bm_sl κ' := by simp [bm_sl]
theorem bm_sl_set : ∀ (κ : List bm_K) (o : Nat) (c c' : bm_K), mm_nth κ o = some c → bm_s1 c' = bm_s1 c → bm_sl (mm_set κ o c') = bm_sl κ
  | [], _, _, _, h, _ => by simp [mm_nth] at h
  | a :: r, 0, c, c', h, he => by
    simp only [mm_nth, Option.some.injEq] at h
    subst h
    simp [mm_set, bm_sl, he]
  | a :: r, o + 1, c, c', h, he => by
    have q := bm_sl_set r o c c' h he
    simp only [bm_sl, mm_set, List.map_cons, List.sum_cons] at q ⊢
    rw [q]
theorem bm_sl_rep (n : Nat) (c : bm_K) : bm_sl (List.replicate n c) = n * bm_s1 c := by simp [bm_sl]
theorem bm_step_mono {ty : Nat → Nat → FieldType} {M : bm_M} {i : ClassFile.Instr} {c : Int32} {pc pc' : Nat} {L L' : List (Option Value)} {S S' : List Value} {κ κ' : List bm_K} (h : bm_step ty M i c pc L S κ = some (pc', L', S', κ')) : κ.length ≤ κ'.length ∧ bm_sl κ ≤ bm_sl κ' := by
  unfold bm_step at h
  split at h
  · split at h <;> cases h; exact ⟨Nat.le_refl _, Nat.le_refl _⟩
  · cases h; exact ⟨Nat.le_refl _, Nat.le_refl _⟩
  · cases h; exact ⟨Nat.le_refl _, Nat.le_refl _⟩
  · cases h; exact ⟨Nat.le_refl _, Nat.le_refl _⟩
  · split at h
    · split at h <;> cases h; exact ⟨Nat.le_refl _, Nat.le_refl _⟩
    · cases h
  · split at h
    · split at h <;> cases h
      rw [bm_sl_app, List.length_append]; exact ⟨by omega, by omega⟩
    · cases h
  · split at h
    · split at h
      · split at h <;> cases h
        · rw [bm_sl_app, List.length_append]; exact ⟨by omega, by omega⟩
        · rw [bm_sl_app, List.length_append]; exact ⟨by omega, by omega⟩
      · cases h
    · cases h
  · split at h
    · split at h <;> cases h
      rw [bm_sl_app, List.length_append]; exact ⟨by omega, by omega⟩
    · cases h
  · split at h
    · split at h
      · split at h
        · rename_i hn
          split at h <;> cases h
          rw [mm_set_length, bm_sl_set _ _ _ _ hn (by simp [bm_s1, mm_set_length])]
          exact ⟨Nat.le_refl _, Nat.le_refl _⟩
        · cases h
      · cases h
    · cases h
  · split at h
    · split at h
      · split at h
        · split at h
          · split at h
            · cases h; exact ⟨Nat.le_refl _, Nat.le_refl _⟩
            · cases h
          · cases h
        · cases h
      · cases h
    · cases h
  · split at h
    · split at h
      · rename_i hn
        split at h <;> cases h
        rw [mm_set_length, bm_sl_set _ _ _ _ hn (by simp [bm_s1])]
        exact ⟨Nat.le_refl _, Nat.le_refl _⟩
      · cases h
    · cases h
  · cases h
end
section
/-! The building machine's runs are the machine's -/
theorem bm_run_mono {ty : Nat → Nat → FieldType} {C : Nat → List Value → List bm_K → Option (List bm_K)} {M : bm_M} (hC : ∀ y as κ κ', C y as κ = some κ' → κ.length ≤ κ'.length ∧ bm_sl κ ≤ bm_sl κ') : ∀ (n pc : Nat) (L : List (Option Value)) (S : List Value) (κ κ' : List bm_K), bm_run ty C M n pc L S κ = some κ' → κ.length ≤ κ'.length ∧ bm_sl κ ≤ bm_sl κ'
  | 0, _, _, _, _, _, h => by simp [bm_run] at h
  | n + 1, pc, L, S, κ, κ', h => by
    unfold bm_run at h
    split at h
    · cases h
    · split at h
      · split at h
        · cases h; exact ⟨Nat.le_refl _, Nat.le_refl _⟩
        · cases h
      · split at h
        · split at h
          · split at h
            · split at h
              · split at h
                · exact bm_run_mono hC n _ _ _ _ _ h
                · cases h
              · split at h
                · split at h
                  · rename_i κ1 hc
                    obtain ⟨a1, a2⟩ := hC _ _ _ _ hc
                    obtain ⟨b1, b2⟩ := bm_run_mono hC n _ _ _ _ _ h
                    exact ⟨by omega, by omega⟩
                  · cases h
                · cases h
            · cases h
          · cases h
        · cases h
      · split at h
        · rename_i hs
          obtain ⟨a1, a2⟩ := bm_step_mono hs
          obtain ⟨b1, b2⟩ := bm_run_mono hC n _ _ _ _ _ h
          exact ⟨by omega, by omega⟩
        · cases h
theorem bm_D_mono {ty : Nat → Nat → FieldType} {Y : List bm_M} {mx : Nat → Nat} : ∀ (d y : Nat) (as : List Value) (κ κ' : List bm_K), bm_D ty Y mx d y as κ = some κ' → κ.length ≤ κ'.length ∧ bm_sl κ ≤ bm_sl κ'
  | 0, _, _, _, _, h => by simp [bm_D] at h
  | d + 1, y, as, κ, κ', h => by
    unfold bm_D at h
    split at h
    · split at h
      · exact bm_run_mono (bm_D_mono d) _ _ _ _ _ _ h
      · cases h
    · cases h
def bm_okE (cc : ByteArray) (q : Nat × ClassFile.Instr × Int32) : Bool := decide (decode cc q.1 = .ok (q.2.1, match q.2.1 with | .bipush _ => 2 | .newarray _ => 2 | .sipush _ => 3 | .new _ => 3 | .putfield _ => 3 | .getfield _ => 3 | .invokespecial _ => 3 | .multianewarray _ _ => 4 | _ => 1)) && (match q.2.1 with | .iconst n => decide (Int32.ofInt n = q.2.2) | .bipush n => decide ((Int8.ofInt n).toInt32 = q.2.2) | .sipush n => decide ((Int16.ofInt n).toInt32 = q.2.2) | _ => true)
abbrev bm_Ne : Type := List (String × Nat × MethodName × String)
def bm_N (ne : bm_Ne) (U : State) : Prop := (∀ q ∈ ne, va_Nw (.methodLinkNest q.1 q.2.1 q.2.2.1 q.2.2.2) U) ∧ (Cond.arrayOver (.array .int)).before #[] U = true
theorem bm_N.moved {ne : bm_Ne} {s U : State} (hW : s.WarmedH U.vm) (h : bm_N ne s) : bm_N ne U := by
  refine ⟨fun q hq => va_Nw.warmM hW (h.1 q hq), ?_⟩
  have e := Cond.arrayOver_setVmC (args := #[]) (s := s) hW.alike (.array .int)
  have h2 : (Cond.arrayOver (.array .int)).before #[] (s.setVm U.vm) = true := e.trans h.2
  exact h2
theorem bm_N.same {ne : bm_Ne} {u U : State} (h : u.vm = U.vm) (hN : bm_N ne u) : bm_N ne U := bm_N.moved (by rw [← h]; exact State.WarmedH.refl u) hN
def bm_nok (cl : List vw_C) (Ts : List Cond) (own : String) (q : Nat × Nat × List Value) : Prop := ∃ (C : String) (T : u_T) (N : Nat) (tf : Nat → FieldType), cl[q.2.1]? = some (C, T, N) ∧ q.2.2.length = N ∧ (∀ w ∈ u_ws C T N, w ∈ Ts) ∧ Cond.classLink own q.1 C ∈ Ts ∧ Cond.instantiable C N ∈ Ts ∧ Cond.initialized C ∈ Ts ∧
  (∀ k, k < N → parseFieldDescriptor (T k).2.2.1 = some (tf k)) ∧ (∀ j, j < N → defaultValue (tf j) = vp_V q.2.2 j) ∧ q.2.2.all (bm_rok 0) = true
def bm_pok (ty : Nat → Nat → FieldType) (cl : List vw_C) (Ts : List Cond) (own : String) (q : Nat × Nat × Nat) : Prop := ∃ (C : String) (T : u_T) (N : Nat) (tf : Nat → FieldType), cl[q.2.1]? = some (C, T, N) ∧ q.2.2 < N ∧ (∀ w ∈ u_ws C T N, w ∈ Ts) ∧ Cond.fieldLink own q.1 (T q.2.2).1 (T q.2.2).2.1 (T q.2.2).2.2.1 ∈ Ts ∧
  (∀ k, k < N → parseFieldDescriptor (T k).2.2.1 = some (tf k)) ∧ (∀ a, a < N → ∀ b, b < N → a ≠ b → (T a).2.1 ≠ (T b).2.1) ∧ parseFieldDescriptor (T q.2.2).2.2.1 = some (ty q.2.1 q.2.2) ∧ (T q.2.2).1 = own
def bm_kok (Ts : List Cond) (nm : Nat → MethodName) (by_ : Nat → ByteArray) (mx : Nat → Nat) (ne : bm_Ne) (own : String) (q : Nat × Nat × Nat) : Prop :=
  (q.2.1 = 999 → Cond.methodLink own q.1 Lib.objectInit ∈ Ts ∧ Cond.instanceMethod Lib.objectInit ∈ Ts ∧ Cond.code Lib.objectInit ⟨#[0xb1]⟩ 1 none ∈ Ts) ∧
  (q.2.1 ≠ 999 → mx q.2.1 ≤ 21 ∧ Cond.code (nm q.2.1) (by_ q.2.1) (mx q.2.1) none ∈ Ts ∧ Cond.initialized (nm q.2.1).cls ∈ Ts ∧ Cond.instanceMethod (nm q.2.1) ∈ Ts ∧ (nm q.2.1).name = "<init>" ∧
    ((nm q.2.1).cls ≠ "java/lang/invoke/MethodHandle" ∧ (nm q.2.1).cls ≠ "java/lang/invoke/VarHandle" ∧ (parseMethodDescriptor (nm q.2.1).desc).map (fun d => d.parameters.length) = some q.2.2) ∧
    (Cond.methodLink own q.1 (nm q.2.1) ∈ Ts ∨ ∃ host, (own, q.1, nm q.2.1, host) ∈ ne))
def bm_ws (Ts : List Cond) (nm : Nat → MethodName) (by_ : Nat → ByteArray) (mx : Nat → Nat) (y : Nat) : List Cond := .code (nm y) (by_ y) (mx y) none :: Ts
def bm_rm (d : Nat) (κ κ' : List bm_K) : Room := { frames := d + 1, cells := κ'.length - κ.length, slots := bm_sl κ' - bm_sl κ, locals := 40 * (d + 1) }
def bm_B (D : va_G) (cl : List vw_C) (tys : List (ClassId × FieldType)) (ne : bm_Ne) (ad : Nat → Nat) (a3 : ClassId × ClassId × ClassId) (κ : List bm_K) (sz : Nat) : State → Prop := fun U =>
  U.heap.size = sz ∧ va_P D cl (bm_wd ad a3 κ) U.heap ∧ (va_K D cl tys U ∧ bm_N ne U) ∧ va_D (fun _ => True) (bm_wd ad a3 κ)
def bm_Qc (D : va_G) (cl : List vw_C) (tys : List (ClassId × FieldType)) (A : Nat → Prop) (n0 : Nat) (ad : Nat → Nat) (a3 : ClassId × ClassId × ClassId) (κ' : List bm_K) : Array Value → State → Outcome → State → Prop := fun _ st oc t =>
  (∃ ad' : Nat → Nat, (∀ k, k < n0 → ad' k = ad k) ∧ oc = .returned none ∧ va_P D cl (bm_wd ad' a3 κ') t.heap ∧ va_D A (bm_wd ad' a3 κ') ∧ va_K D cl tys t) ∧ va_F A st t
def bm_T (l : Launch) (Ts : List Cond) (nm : Nat → MethodName) (by_ : Nat → ByteArray) (mx : Nat → Nat) (D : va_G) (cl : List vw_C) (tys : List (ClassId × FieldType)) (ne : bm_Ne) (a3 : ClassId × ClassId × ClassId) (d y : Nat) (as : List Value) (κ κ' : List bm_K) : Prop :=
  ∀ (ad : Nat → Nat) (sz : Nat), Met l (nm y) (bm_ws Ts nm by_ mx y) (bm_rm d κ κ') (va_Pc (as.map (mm_rho ad)) (bm_B D cl tys ne ad a3 κ sz)) (bm_Qc D cl tys (va_A (bm_wd ad a3 κ) sz) κ.length ad a3 κ') (κ'.length - κ.length) (bm_sl κ' - bm_sl κ) (va_A (bm_wd ad a3 κ) sz)
end
section
/-! each step of it -/
def bm_V (p : Program) (l : Launch) (e : Env) (R : Room) (s : State) (m : MethodId) (args : Array Value) (below : List Frame) (meth : Method) (c : Code) (D : va_G) (cl : List vw_C) (A : Nat → Prop) (ad0 : Nat → Nat) (a3 : ClassId × ClassId × ClassId) (n0 s0 nL : Nat) (Qf : State → Prop) (pc : Nat) (L : List (Option Value)) (S : List Value) (κ : List bm_K) : Prop :=
  ∀ (ad : Nat → Nat) (H : Heap) (locs : List Loc) (ls : Array Slot), (∀ k, k < n0 → ad k = ad0 k) → va_P D cl (bm_wd ad a3 κ) H → va_D A (bm_wd ad a3 κ) → va_S A s.heap H locs → mm_lh ad ls nL L → W p l e R s m args below meth c H locs (κ.length - n0) (bm_sl κ - s0) Qf (F0 m pc ls (S.map (mm_rho ad)))
theorem bm_clamp {n : Int32} (h : n ≤ 1000) : n.toNatClampNeg ≤ 1000 := by
  have h1 : n.toInt ≤ 1000 := by
    have := Int32.le_iff_toInt_le.mp h
    simpa using this
  unfold Int32.toNatClampNeg
  omega
theorem bm_nlt {n : Int32} (h : 0 ≤ n) : ¬ n < 0 := by
  rw [Int32.lt_iff_toInt_lt]
  have := Int32.le_iff_toInt_le.mp h
  omega
section BMrow
variable {p : Program} {l : Launch} {e : Env} {R : Room} {s : State} {m : MethodId} {args : Array Value} {below : List Frame} {meth : Method} {c : Code} {H : Heap} {locs : List Loc} {cells slots : Nat} {Q : State → Prop}
variable {cc : ByteArray} {pc : Nat} {ls : Array Slot} {rest : List Value} {D : va_G} {cl : List vw_C} {A : Nat → Prop} {tys : List (ClassId × FieldType)} {ws : va_W} {H0 : Heap}
theorem bm_grow {news : va_W} {H1 : Heap} (hP : va_P D cl ws H) (hD : va_D A ws) (hA : ∀ q, H.size ≤ q → A q) (hold : ∀ x, x < H.size → H1[x]? = H[x]?) (hn : ∀ (i : Nat) (q : Nat × va_E), news[i]? = some q → q.1 = H.size + i ∧ va_at D cl q H1) : va_P D cl (ws ++ news) H1 ∧ va_D A (ws ++ news) := by
  refine ⟨(hP.kept (fun k q hq => hold q.1 ((hP k q hq).lt))).app (fun i q h => (hn i q h).2), hD.app ⟨fun i j x y hx hy hxy => ?_, fun k q hq => hA _ (by rw [(hn k q hq).1]; omega)⟩ (fun i j x y hx hy hxy => ?_)⟩
  · have h1 := (hn i x hx).1
    have h2 := (hn j y hy).1
    omega
  · have h1 := (hP i x hx).lt
    have h2 := (hn j y hy).1
    omega
/-- new int[n][k] -/
theorem bm_mna (hx : p.tables.exec = Jvm.exec) (hb : c.code = cc) {own : String} {index : Nat} {cI : ClassId} (hown : s.vm.findClass own = some m.cls) (hclink : (Cond.classLink own index "[[I").before args s = true) (hover : (Cond.arrayOver (.array .int)).before #[] s = true) (harr : (Cond.arrayClass .int).before args s = true) (hcI : s.vm.findClass "[I" = some cI)
    (hP : va_P D cl ws H) (hD : va_D A ws) (hS : va_S A H0 H locs) (hA : ∀ q, H0.size ≤ q → A q) {n k : Int32} (hn : ¬ n < 0) (hk : ¬ k < 0) (hN : n.toNatClampNeg ≤ 1000) (hM : k.toNatClampNeg ≤ 1000)
    (hcells : cells + (1 + n.toNatClampNeg) ≤ R.cells) (hslots : slots + (n.toNatClampNeg + n.toNatClampNeg * k.toNatClampNeg) ≤ R.slots) (hdg : decode cc pc = .ok (.multianewarray index 2, 4))
    (kk : ∀ (q : Nat) (cA : ClassId) (H1 : Heap), s.vm.findClass "[[I" = some cA →
      va_P D cl (ws ++ ((q, .inl (cA, n.toNatClampNeg, .inr (.inr (.inr (.inr (fun i => if i < n.toNatClampNeg then some (q + 1 + i) else none)))))) :: (List.range n.toNatClampNeg).map (fun i => (q + 1 + i, .inl (cI, k.toNatClampNeg, .inl bm_z))))) H1 →
      va_D A (ws ++ ((q, .inl (cA, n.toNatClampNeg, .inr (.inr (.inr (.inr (fun i => if i < n.toNatClampNeg then some (q + 1 + i) else none)))))) :: (List.range n.toNatClampNeg).map (fun i => (q + 1 + i, .inl (cI, k.toNatClampNeg, .inl bm_z))))) → va_S A H0 H1 locs →
      W p l e R s m args below meth c H1 locs (cells + 1 + n.toNatClampNeg) (slots + n.toNatClampNeg + n.toNatClampNeg * k.toNatClampNeg) Q (F0 m (pc + 4) ls (.ref q :: rest))) : W p l e R s m args below meth c H locs cells slots Q (F0 m pc ls (.int k :: .int n :: rest)) := by
  intro T hT Xs
  obtain ⟨vm₁, cA, comp, -, fA, fC, -, -, X', step⟩ := Xs.multianewarray2F (ty := .int) hx hown hclink hover harr (g := F0 m pc ls (.int k :: .int n :: rest)) rfl (by rw [hb]; exact hdg) rfl hn hk (by omega) (by show k.toNatClampNeg * 4 ≤ _; omega) (by omega) rfl rfl hcells hslots
  have ec : some cI = some comp := hcI.symm.trans fC
  cases ec
  generalize hF : Jvm.Free.Multi.fill (T.setVm vm₁) cA cI n.toNatClampNeg k.toNatClampNeg (defaultValue .int) n.toNatClampNeg = F at X' step
  have hTh : (T.setVm vm₁).heap = H := hT
  obtain ⟨f1, f2, -, -⟩ := Jvm.Free.Multi.fill_facts (T.setVm vm₁) cA cI n.toNatClampNeg k.toNatClampNeg (defaultValue .int) n.toNatClampNeg
  rw [hF, hTh] at f1 f2
  have hold : ∀ x : Nat, x < H.size → F.heap[x]? = H[x]? := fun x hx => by
    have := Jvm.Free.Multi.fill_old (T.setVm vm₁) cA cI n.toNatClampNeg k.toNatClampNeg (defaultValue .int) (a := x) (by rw [hTh]; exact hx) n.toNatClampNeg
    rw [hF, hTh] at this
    exact this
  have hrow : ∀ j : Nat, j < n.toNatClampNeg → F.heap[H.size + 1 + j]? = some (vp_cell cI (k.toNatClampNeg, .inl bm_z)) := fun j hj => by
    have := Jvm.Free.Multi.fill_inner (T.setVm vm₁) cA cI n.toNatClampNeg k.toNatClampNeg (defaultValue .int) n.toNatClampNeg j hj
    rw [hF, hTh] at this
    rw [this]
    show some ({ cls := cI, slots := Array.replicate k.toNatClampNeg (defaultValue .int), vm := .none } : Cell) = some (arrV cI k.toNatClampNeg (fun _ => .int 0))
    rw [arrV_new]
    rfl
  have hout : ∀ i : Nat, Jvm.Free.Multi.outerC cA n.toNatClampNeg H.size i = arrV cA n.toNatClampNeg (fun j => va_rf (if j < i then some (H.size + 1 + j) else none)) := by
    intro i
    induction i with
    | zero =>
      show ({ cls := cA, slots := Array.replicate n.toNatClampNeg .null, vm := .none } : Cell) = _
      rw [arrV_new]
      refine congrArg (arrV cA n.toNatClampNeg) (funext fun j => ?_)
      simp [va_rf]
    | succ i ih =>
      show (Jvm.Free.Multi.outerC cA n.toNatClampNeg H.size i).setSlot i (.ref (H.size + 1 + i)) = _
      rw [ih, arrV_store]
      refine congrArg (arrV cA n.toNatClampNeg) (funext fun j => ?_)
      by_cases e : j = i
      · subst e
        simp [updV, va_rf]
      · by_cases h : j < i
        · simp [updV, e, h, Nat.lt_succ_of_lt h]
        · simp [updV, e, h, show ¬ j < i + 1 by omega]
  rw [hout] at f2
  have hg := bm_grow (H1 := F.heap) (news := (H.size, .inl (cA, n.toNatClampNeg, .inr (.inr (.inr (.inr (fun i => if i < n.toNatClampNeg then some (H.size + 1 + i) else none)))))) :: (List.range n.toNatClampNeg).map (fun i => (H.size + 1 + i, .inl (cI, k.toNatClampNeg, .inl bm_z)))) hP hD (fun q hq => hA q (Nat.le_trans hS.1 hq)) hold (fun i q hq => by
    cases i with
    | zero =>
      cases hq
      exact ⟨rfl, f2⟩
    | succ i =>
      rw [List.getElem?_cons_succ, List.getElem?_map] at hq
      by_cases hi : i < n.toNatClampNeg
      · rw [List.getElem?_range hi] at hq
        cases hq
        exact ⟨by show H.size + 1 + i = H.size + (i + 1); omega, hrow i hi⟩
      · rw [List.getElem?_eq_none (by rw [List.length_range]; omega)] at hq
        cases hq)
  obtain ⟨t, a1, b1⟩ := kk H.size cA F.heap fA hg.1 hg.2 ⟨by rw [f1]; have := hS.1; omega, fun x h1 h2 => (hold x (Nat.lt_of_lt_of_le h1 hS.1)).trans (hS.2.1 x h1 h2), hS.2.2⟩ F rfl X'
  refine ⟨t, step t ?_, b1⟩
  have e : T.heap.size = H.size := by rw [hT]
  rw [e]
  exact a1
end BMrow
end
section
/-! a constructor's run -/
theorem bm_fits_ref (ty : FieldType) (a b : Nat) : fits ty (.ref a) = fits ty (.ref b) := by cases ty <;> rfl
theorem bm_narrow_ref (ty : FieldType) (a : Nat) : narrow ty (.ref a) = .ref a := by cases ty <;> rfl
theorem bm_fit {ty : FieldType} {v : Value} (ad : Nat → Nat) (h1 : fits ty v = true) (h2 : narrow ty v = v) : fits ty (mm_rho ad v) = true ∧ narrow ty (mm_rho ad v) = mm_rho ad v := by
  cases v with
  | ref k => exact ⟨(bm_fits_ref ty _ _).trans h1, bm_narrow_ref ty _⟩
  | _ => exact ⟨h1, h2⟩
theorem bm_map_set (ad : Nat → Nat) : ∀ (vs : List Value) (j : Nat) (v : Value), (mm_set vs j v).map (mm_rho ad) = (vs.map (mm_rho ad)).set j (mm_rho ad v)
  | [], _, _ => rfl
  | _ :: _, 0, _ => rfl
  | a :: r, j + 1, v => by simp [mm_set, bm_map_set ad r j v]
theorem bm_rho0 {ad : Nat → Nat} {vs : List Value} (h : vs.all (bm_rok 0) = true) : vs.map (mm_rho ad) = vs := by
  have h1 : vs.map (mm_rho ad) = vs.map id := by
    apply List.map_congr_left
    intro v hv
    have := List.all_eq_true.mp h v hv
    cases v with
    | ref k => simp [bm_rok, Nat.blt] at this
    | _ => rfl
  rw [h1, List.map_id]
theorem bm_ag {ad : Nat → Nat} {N q : Nat} : ∀ k, k < N → bm_ad ad N q k = ad k := fun _ h => bm_ad_lt h
theorem bm_ad_at {ad : Nat → Nat} {N q : Nat} : bm_ad ad N q N = q := by rw [bm_ad_ge (Nat.le_refl _)]; omega
theorem bm_push {ad : Nat → Nat} {a3 : ClassId × ClassId × ClassId} {κ : List bm_K} {c : bm_K} {q : Nat} {e : va_E} (h : κ.zipIdx.all (bm_cok κ.length) = true) (he : bm_ce (bm_ad ad κ.length q) a3 κ.length c = e) : bm_wd (bm_ad ad κ.length q) a3 (κ ++ [c]) = bm_wd ad a3 κ ++ [(q, e)] := by
  rw [bm_wd_app, bm_wd_ad h]
  simp only [List.zipIdx_cons, List.zipIdx_nil, List.map_cons, List.map_nil, bm_ad_at, he]
theorem bm_ok_el {κ : List bm_K} {L : List (Option Value)} {S : List Value} (h : bm_ok κ L S = true) : κ.zipIdx.all (bm_cok κ.length) = true ∧ L.all (bm_lok κ.length) = true ∧ S.all (bm_rok κ.length) = true := by
  unfold bm_ok at h
  rw [Bool.and_eq_true, Bool.and_eq_true] at h
  exact h
theorem bm_rows (ad : Nat → Nat) (a3 : ClassId × ClassId × ClassId) (N q k : Nat) : ∀ (n i : Nat), ((List.replicate n ((1, k, [], bm_z) : bm_K)).zipIdx (N + 1 + i)).map (fun x => (bm_ad ad N q x.2, bm_ce (bm_ad ad N q) a3 x.2 x.1)) = ((List.range n).map (fun j => (q + 1 + (i + j), (Sum.inl (a3.1, k, .inl bm_z) : va_E))))
  | 0, _ => rfl
  | n + 1, i => by
    have h := bm_rows ad a3 N q k n (i + 1)
    rw [List.replicate_succ, List.zipIdx_cons, List.map_cons, List.range_succ_eq_map, List.map_cons, List.map_map]
    rw [show N + 1 + i + 1 = N + 1 + (i + 1) by omega, h]
    congr 1
    · rw [bm_ad_ge (by omega)]
      show (q + (N + 1 + i - N), (Sum.inl (a3.1, k, .inl bm_z) : va_E)) = _
      congr 1
      omega
    · apply List.map_congr_left
      intro j _
      show (q + 1 + (i + 1 + j), _) = (q + 1 + (i + (j + 1)), _)
      congr 1
      omega
section BMstep
variable {p : Program} {l : Launch} {e : Env} {R : Room} {s : State} {m : MethodId} {args : Array Value} {below : List Frame} {meth : Method} {c : Code} {D : va_G} {cl : List vw_C} {A : Nat → Prop} {ad0 : Nat → Nat} {cI cZ cG : ClassId} {n0 s0 nL : Nat} {M : bm_M} {cc : ByteArray} {Ts : List Cond} {own : String} {Qf : State → Prop} {ty : Nat → Nat → FieldType}
set_option maxHeartbeats 4000000 in
theorem bm_sstep (hx : p.tables.exec = Jvm.exec) (hb : c.code = cc) (hown : s.vm.findClass own = some m.cls) (hts : ∀ w ∈ Ts, w.before args s = true) (hK : va_K D cl [(cI, .int), (cZ, .boolean), (cG, .array .int)] s) (hA : ∀ q, s.heap.size ≤ q → A q) (hin2 : meth.name = "<init>")
    (hover : (Cond.arrayOver (.array .int)).before #[] s = true) (hwI : Cond.arrayClass .int ∈ Ts) (hwZ : Cond.arrayClass .boolean ∈ Ts)
    (hnw : ∀ q ∈ M.2.1, bm_nok cl Ts own q) (hpt : ∀ q ∈ M.2.2.1, bm_pok ty cl Ts own q)
    {i : ClassFile.Instr} {cs : Int32} {pc pc' : Nat} {L L' : List (Option Value)} {S S' : List Value} {κ κ' : List bm_K} (hok : bm_okE cc (pc, i, cs) = true) (hmn : ∀ idx, i = .multianewarray idx 2 → Cond.classLink own idx "[[I" ∈ Ts)
    (hst : bm_step ty M i cs pc L S κ = some (pc', L', S', κ')) (hn0 : n0 ≤ κ.length) (hs0 : s0 ≤ bm_sl κ) (hRc : κ'.length - n0 ≤ R.cells) (hRs : bm_sl κ' - s0 ≤ R.slots)
    (hV : bm_V p l e R s m args below meth c D cl A ad0 (cI, cZ, cG) n0 s0 nL Qf pc' L' S' κ') : bm_V p l e R s m args below meth c D cl A ad0 (cI, cZ, cG) n0 s0 nL Qf pc L S κ := by
  unfold bm_okE at hok
  rw [Bool.and_eq_true] at hok
  obtain ⟨hdg, hcs⟩ := hok
  have hdg := of_decide_eq_true hdg
  intro ad H locs ls hag hP hD hS hl
  unfold bm_step at hst
  split at hst
  · rename_i k
    split at hst
    · rename_i x hx1
      cases hst
      exact lv_aload_n hx hb hdg rfl (mm_lh_at hl hx1) (hV ad H locs ls hag hP hD hS hl)
    · cases hst
  · cases hst
    exact lv_iconst hx hb hdg (of_decide_eq_true hcs) (hV ad H locs ls hag hP hD hS hl)
  · cases hst
    exact lv_bipush hx hb hdg (of_decide_eq_true hcs) (hV ad H locs ls hag hP hD hS hl)
  · cases hst
    exact lv_sipush hx hb hdg (of_decide_eq_true hcs) (hV ad H locs ls hag hP hD hS hl)
  · split at hst
    · rename_i v r
      split at hst
      · rename_i hc
        cases hst
        have hcat : v.category = 1 := by cases v <;> first | rfl | cases hc
        exact lv_dup hx hb hdg (by rw [mm_rho_cat]; exact hcat) (hV ad H locs ls hag hP hD hS hl)
      · cases hst
    · cases hst
  · rename_i idx
    split at hst
    · rename_i ci vs hlk
      split at hst
      · rename_i hbo
        cases hst
        obtain ⟨hk1, hk2, hk3⟩ := bm_ok_el hbo
        obtain ⟨C0, T, N, tf, hc, hlen, hin, hcl, hins, hini, htf, hdf, h0⟩ := hnw _ (mm_look_mem hlk)
        dsimp only at hc hlen hcl hdf h0
        have e1 : (κ ++ [((0, ci, vs, bm_z) : bm_K)]).length - n0 = κ.length - n0 + 1 := by rw [List.length_append]; simp; omega
        have e2 : bm_sl (κ ++ [((0, ci, vs, bm_z) : bm_K)]) - s0 = bm_sl κ - s0 + N := by rw [bm_sl_app]; simp [bm_sl, bm_s1] at hs0 ⊢; omega
        refine va_new (ci := ci) (fs := vs) (C := C0) (T := T) (N := N) hx hb hts hin tf htf hown (hts _ hcl) (hts _ hins) (hts _ hini) hK hP hD hS hA hc hdf (by rw [← e1]; exact hRc) (by rw [← e2]; exact hRs) hdg (fun q H1 hP1 hD1 hS1 => ?_)
        have hw := bm_push (ad := ad) (a3 := (cI, cZ, cG)) (c := ((0, ci, vs, bm_z) : bm_K)) (q := q) (e := .inr (ci, vs)) hk1 (by simp only [bm_ce, bm_rho0 h0])
        have h9 := hV (bm_ad ad κ.length q) H1 locs ls (fun k hk => (bm_ag k (by omega)).trans (hag k hk)) (by rw [hw]; exact hP1) (by rw [hw]; exact hD1) hS1 (bm_lh_ag bm_ag hk2 hl)
        rw [e1, e2, List.map_cons, bm_map_ag bm_ag hk3] at h9
        simp only [mm_rho, bm_ad_at] at h9
        exact h9
      · cases hst
    · cases hst
  · rename_i t
    split at hst
    · rename_i n r
      split at hst
      · rename_i hbo
        rw [Bool.and_eq_true] at hbo
        obtain ⟨hk1, hk2, hk3⟩ := bm_ok_el hbo.1
        obtain ⟨hn1, hn2⟩ := of_decide_eq_true hbo.2
        have hle := bm_clamp hn2
        split at hst
        · cases hst
          have e1 : (κ ++ [((1, n.toNatClampNeg, [], bm_z) : bm_K)]).length - n0 = κ.length - n0 + 1 := by rw [List.length_append]; simp; omega
          have e2 : bm_sl (κ ++ [((1, n.toNatClampNeg, [], bm_z) : bm_K)]) - s0 = bm_sl κ - s0 + n.toNatClampNeg := by rw [bm_sl_app]; simp [bm_sl, bm_s1] at hs0 ⊢; omega
          refine va_newa (atype := .int) (ty := .int) (a0 := (n.toNatClampNeg, .inl bm_z)) hx hb (hts _ hwI) rfl hK hP hD hS hA (fun cA => rfl) (bm_nlt hn1) rfl (by show n.toNatClampNeg * 4 ≤ _; omega) (by rw [← e1]; exact hRc) (by rw [← e2]; exact hRs) hdg (fun q cA H1 hK1 hP1 hD1 hS1 => ?_)
          have hcA : cA = cI := by
            have h1 : s.vm.findClass ("[" ++ FieldType.int.toString) = some cA := (hK1.2 3 (cA, .int) rfl).2
            have h2 : s.vm.findClass ("[" ++ FieldType.int.toString) = some cI := (hK.2 0 (cI, .int) rfl).2
            exact Option.some.inj (h1.symm.trans h2)
          subst hcA
          have hw := bm_push (ad := ad) (a3 := (cA, cZ, cG)) (c := ((1, n.toNatClampNeg, [], bm_z) : bm_K)) (q := q) (e := .inl (cA, n.toNatClampNeg, .inl bm_z)) hk1 rfl
          have h9 := hV (bm_ad ad κ.length q) H1 locs ls (fun k hk => (bm_ag k (by omega)).trans (hag k hk)) (by rw [hw]; exact hP1) (by rw [hw]; exact hD1) hS1 (bm_lh_ag bm_ag hk2 hl)
          rw [e1, e2, List.map_cons, bm_map_ag bm_ag hk3] at h9
          simp only [mm_rho, bm_ad_at] at h9
          exact h9
        · cases hst
          have e1 : (κ ++ [((2, n.toNatClampNeg, [], bm_z) : bm_K)]).length - n0 = κ.length - n0 + 1 := by rw [List.length_append]; simp; omega
          have e2 : bm_sl (κ ++ [((2, n.toNatClampNeg, [], bm_z) : bm_K)]) - s0 = bm_sl κ - s0 + n.toNatClampNeg := by rw [bm_sl_app]; simp [bm_sl, bm_s1] at hs0 ⊢; omega
          refine va_newa (atype := .boolean) (ty := .boolean) (a0 := (n.toNatClampNeg, .inl bm_z)) hx hb (hts _ hwZ) rfl hK hP hD hS hA (fun cA => rfl) (bm_nlt hn1) rfl (by show n.toNatClampNeg * 1 ≤ _; omega) (by rw [← e1]; exact hRc) (by rw [← e2]; exact hRs) hdg (fun q cA H1 hK1 hP1 hD1 hS1 => ?_)
          have hcA : cA = cZ := by
            have h1 : s.vm.findClass ("[" ++ FieldType.boolean.toString) = some cA := (hK1.2 3 (cA, .boolean) rfl).2
            have h2 : s.vm.findClass ("[" ++ FieldType.boolean.toString) = some cZ := (hK.2 1 (cZ, .boolean) rfl).2
            exact Option.some.inj (h1.symm.trans h2)
          subst hcA
          have hw := bm_push (ad := ad) (a3 := (cI, cA, cG)) (c := ((2, n.toNatClampNeg, [], bm_z) : bm_K)) (q := q) (e := .inl (cA, n.toNatClampNeg, .inl bm_z)) hk1 rfl
          have h9 := hV (bm_ad ad κ.length q) H1 locs ls (fun k hk => (bm_ag k (by omega)).trans (hag k hk)) (by rw [hw]; exact hP1) (by rw [hw]; exact hD1) hS1 (bm_lh_ag bm_ag hk2 hl)
          rw [e1, e2, List.map_cons, bm_map_ag bm_ag hk3] at h9
          simp only [mm_rho, bm_ad_at] at h9
          exact h9
        · cases hst
      · cases hst
    · cases hst
  · rename_i idx
    split at hst
    · rename_i k n r
      split at hst
      · rename_i hbo
        cases hst
        rw [Bool.and_eq_true] at hbo
        obtain ⟨hk1, hk2, hk3⟩ := bm_ok_el hbo.1
        obtain ⟨⟨hn1, hn2⟩, hm1, hm2⟩ := of_decide_eq_true hbo.2
        have e1 : (κ ++ (((3, n.toNatClampNeg, [], bm_z) : bm_K) :: List.replicate n.toNatClampNeg ((1, k.toNatClampNeg, [], bm_z) : bm_K))).length - n0 = κ.length - n0 + 1 + n.toNatClampNeg := by rw [List.length_append]; simp; omega
        have e2 : bm_sl (κ ++ (((3, n.toNatClampNeg, [], bm_z) : bm_K) :: List.replicate n.toNatClampNeg ((1, k.toNatClampNeg, [], bm_z) : bm_K))) - s0 = bm_sl κ - s0 + n.toNatClampNeg + n.toNatClampNeg * k.toNatClampNeg := by
          have h7 := bm_sl_rep n.toNatClampNeg ((1, k.toNatClampNeg, [], bm_z) : bm_K)
          have h8 : bm_sl (((3, n.toNatClampNeg, [], bm_z) : bm_K) :: List.replicate n.toNatClampNeg ((1, k.toNatClampNeg, [], bm_z) : bm_K)) = n.toNatClampNeg + n.toNatClampNeg * k.toNatClampNeg := by
            show bm_s1 _ + bm_sl (List.replicate n.toNatClampNeg ((1, k.toNatClampNeg, [], bm_z) : bm_K)) = _
            rw [h7]
            rfl
          rw [bm_sl_app, h8]
          omega
        have hcI : s.vm.findClass "[I" = some cI := (hK.2 0 (cI, .int) rfl).2
        refine bm_mna (cI := cI) hx hb hown (hts _ (hmn _ rfl)) hover (hts _ hwI) hcI hP hD hS hA (bm_nlt hn1) (bm_nlt hm1) (bm_clamp hn2) (bm_clamp hm2) (by have := hRc; rw [e1] at this; omega) (by have := hRs; rw [e2] at this; omega) hdg (fun q cA H1 hcA hP1 hD1 hS1 => ?_)
        have hcA : cA = cG := by
          have h2 : s.vm.findClass "[[I" = some cG := (hK.2 2 (cG, .array .int) rfl).2
          exact Option.some.inj (hcA.symm.trans h2)
        subst hcA
        have hw : bm_wd (bm_ad ad κ.length q) (cI, cZ, cA) (κ ++ (((3, n.toNatClampNeg, [], bm_z) : bm_K) :: List.replicate n.toNatClampNeg ((1, k.toNatClampNeg, [], bm_z) : bm_K))) = bm_wd ad (cI, cZ, cA) κ ++ ((q, .inl (cA, n.toNatClampNeg, .inr (.inr (.inr (.inr (fun i => if i < n.toNatClampNeg then some (q + 1 + i) else none)))))) :: (List.range n.toNatClampNeg).map (fun i => (q + 1 + i, .inl (cI, k.toNatClampNeg, .inl bm_z)))) := by
          have hr := bm_rows ad (cI, cZ, cA) κ.length q k.toNatClampNeg n.toNatClampNeg 0
          rw [bm_wd_app, bm_wd_ad hk1, List.zipIdx_cons, List.map_cons]
          rw [show κ.length + 1 = κ.length + 1 + 0 by omega, hr]
          have hf : (fun j => if j < n.toNatClampNeg then some (bm_ad ad κ.length q (κ.length + 1 + j)) else none) = (fun i => if i < n.toNatClampNeg then some (q + 1 + i) else none) := by
            funext j
            by_cases hj : j < n.toNatClampNeg
            · simp only [hj, if_true]
              rw [bm_ad_ge (by omega)]
              congr 1
              omega
            · simp only [hj, if_false]
          simp only [bm_ad_at, bm_ce, Nat.zero_add, hf]
        have h9 := hV (bm_ad ad κ.length q) H1 locs ls (fun k hk => (bm_ag k (by omega)).trans (hag k hk)) (by rw [hw]; exact hP1) (by rw [hw]; exact hD1) hS1 (bm_lh_ag bm_ag hk2 hl)
        rw [e1, e2, List.map_cons, bm_map_ag bm_ag hk3] at h9
        simp only [mm_rho, bm_ad_at] at h9
        exact h9
      · cases hst
    · cases hst
  · rename_i idx
    split at hst
    · rename_i v o r
      split at hst
      · rename_i ci j hlk
        split at hst
        · rename_i ci' vs f hn
          split at hst
          · rename_i hbo
            cases hst
            rw [Bool.and_eq_true, Bool.and_eq_true, Bool.and_eq_true] at hbo
            obtain ⟨hci, hfit, hnar, hjl⟩ := hbo
            have hci := Nat.eq_of_beq_eq_true hci
            subst hci
            have hjl : j < vs.length := by simpa [Nat.blt_eq] using hjl
            obtain ⟨hf1, hf2⟩ := bm_fit ad hfit (of_decide_eq_true hnar)
            obtain ⟨C0, T, N, tf, hc, hj, hin, hli, htf, hnm, hd, hdecl⟩ := hpt _ (mm_look_mem hlk)
            dsimp only at hc hj hli hd hdecl
            have hol := mm_nth_lt hn
            have he : (bm_wd ad (cI, cZ, cG) κ)[o]? = some (ad o, .inr (ci', vs.map (mm_rho ad))) := bm_wd_get hn
            have hset : (bm_wd ad (cI, cZ, cG) κ).set o (ad o, .inr (ci', (vs.map (mm_rho ad)).set j (mm_rho ad v))) = bm_wd ad (cI, cZ, cG) (mm_set κ o (0, ci', mm_set vs j v, f)) := by
              rw [← bm_map_set]
              exact bm_wd_set (c := (0, ci', mm_set vs j v, f)) hol
            have e1 : (mm_set κ o ((0, ci', mm_set vs j v, f) : bm_K)).length = κ.length := mm_set_length _ _ _
            have e2 : bm_sl (mm_set κ o ((0, ci', mm_set vs j v, f) : bm_K)) = bm_sl κ := bm_sl_set _ _ _ _ hn (by simp [bm_s1, mm_set_length])
            have hgo : ∀ (H1 : Heap) (locs1 : List Loc), va_P D cl ((bm_wd ad (cI, cZ, cG) κ).set o (ad o, .inr (ci', (vs.map (mm_rho ad)).set j (mm_rho ad v)))) H1 → va_D A ((bm_wd ad (cI, cZ, cG) κ).set o (ad o, .inr (ci', (vs.map (mm_rho ad)).set j (mm_rho ad v)))) → va_S A s.heap H1 locs1 → W p l e R s m args below meth c H1 locs1 (κ.length - n0) (bm_sl κ - s0) Qf (F0 m (pc + 3) ls (S'.map (mm_rho ad))) := by
              intro H1 locs1 hP1 hD1 hS1
              rw [hset] at hP1 hD1
              have h9 := hV ad H1 locs1 ls hag hP1 hD1 hS1 hl
              rw [e1, e2] at h9
              exact h9
            cases hfin : (T j).2.2.2 with
            | false => exact va_put (D := D) (ref := (T j).1) (v := mm_rho ad v) hx hb hts hin tf htf hnm hown hK hP hD hS o he hc j hj (hts _ hli) (fun _ z => z) hfin hd hf2 hf1 (by rw [List.length_map]; exact hjl) hdg hgo
            | true => exact va_putF (D := D) (ref := (T j).1) (v := mm_rho ad v) hx hb hts hin tf htf hnm hown hK hP hD hS o he hc j hj (hts _ hli) (fun _ z => z) hfin hin2 hdecl hd hf2 hf1 (by rw [List.length_map]; exact hjl) hdg hgo
          · cases hst
        · cases hst
      · cases hst
    · cases hst
  · rename_i idx
    split at hst
    · rename_i o r
      split at hst
      · rename_i ci j hlk
        split at hst
        · rename_i ci' vs f hn
          split at hst
          · rename_i hci
            split at hst
            · rename_i v hv
              cases hst
              have hci := Nat.eq_of_beq_eq_true hci
              subst hci
              obtain ⟨C0, T, N, tf, hc, hj, hin, hli, htf, hnm, hd, hdecl⟩ := hpt _ (mm_look_mem hlk)
              dsimp only at hc hj hli hd hdecl
              have he : (bm_wd ad (cI, cZ, cG) κ)[o]? = some (ad o, .inr (ci', vs.map (mm_rho ad))) := bm_wd_get hn
              exact va_get (D := D) (ref := (T j).1) hx hb hts hin hown hK hP o he hc j hj (hts _ hli) (fun _ z => z) (v := mm_rho ad v) (by rw [List.getElem?_map, ← mm_nth_eq, hv]; rfl) hdg (hV ad H locs ls hag hP hD hS hl)
            · cases hst
          · cases hst
        · cases hst
      · cases hst
    · cases hst
  · split at hst
    · rename_i x j o r
      split at hst
      · rename_i n vs f hn
        split at hst
        · rename_i hbo
          cases hst
          have hin : ¬ (j < 0 ∨ n ≤ j.toNatClampNeg) := of_decide_eq_true hbo
          have hol := mm_nth_lt hn
          have he : (bm_wd ad (cI, cZ, cG) κ)[o]? = some (ad o, .inl (cI, n, .inl f)) := bm_wd_get hn
          have hset : (bm_wd ad (cI, cZ, cG) κ).set o (ad o, .inl (cI, n, .inl (upd f j.toNatClampNeg x))) = bm_wd ad (cI, cZ, cG) (mm_set κ o (1, n, vs, upd f j.toNatClampNeg x)) := bm_wd_set (c := (1, n, vs, upd f j.toNatClampNeg x)) hol
          have e1 : (mm_set κ o ((1, n, vs, upd f j.toNatClampNeg x) : bm_K)).length = κ.length := mm_set_length _ _ _
          have e2 : bm_sl (mm_set κ o ((1, n, vs, upd f j.toNatClampNeg x) : bm_K)) = bm_sl κ := bm_sl_set _ _ _ _ hn (by simp [bm_s1])
          refine va_iast hx hb hK hP hD hS o 0 he rfl hin hdg (fun H1 locs1 hP1 hD1 hS1 => ?_)
          rw [hset] at hP1 hD1
          have h9 := hV ad H1 locs1 ls hag hP1 hD1 hS1 hl
          rw [e1, e2] at h9
          exact h9
        · cases hst
      · cases hst
    · cases hst
  · cases hst
end BMstep
end
section
def bm_okM (Ts : List Cond) (nm : Nat → MethodName) (by_ : Nat → ByteArray) (mx : Nat → Nat) (cl : List vw_C) (ne : bm_Ne) (ty : Nat → Nat → FieldType) (M : bm_M) (y : Nat) : Prop :=
  plainName (nm y).cls = true ∧ (nm y).name = "<init>" ∧ M.1.all (bm_okE (by_ y)) = true ∧ (∀ q ∈ M.2.1, bm_nok cl Ts (nm y).cls q) ∧ (∀ q ∈ M.2.2.1, bm_pok ty cl Ts (nm y).cls q) ∧ (∀ q ∈ M.2.2.2, bm_kok Ts nm by_ mx ne (nm y).cls q) ∧ (∀ q ∈ M.1, ∀ idx, q.2.1 = .multianewarray idx 2 → Cond.classLink (nm y).cls idx "[[I" ∈ Ts)
section BMgo
variable {p : Program} {l : Launch} {e : Env} {R : Room} {s : State} {m : MethodId} {args : Array Value} {below : List Frame} {meth : Method} {c : Code} {D : va_G} {cl : List vw_C} {A A1 : Nat → Prop} {ad : Nat → Nat} {a3 : ClassId × ClassId × ClassId} {n1 : Nat} {κ1 : List bm_K} {Qf : State → Prop} {tys : List (ClassId × FieldType)} {H : Heap} {locs : List Loc} {cells slots mc ms pc : Nat} {ls : Array Slot} {st0 rest : List Value} {arr : Array Value}
theorem bm_goon (hr : va_Run p l e R s m args below meth c H locs cells slots mc ms (F0 m pc ls st0) rest (bm_Qc D cl tys A1 n1 ad a3 κ1 arr) A1) (hS : va_S A s.heap H locs) (hA1 : ∀ q, A1 q → A q)
    (kk : ∀ (ad' : Nat → Nat) (H1 : Heap) (locs1 : List Loc), (∀ k, k < n1 → ad' k = ad k) → va_P D cl (bm_wd ad' a3 κ1) H1 → va_D A (bm_wd ad' a3 κ1) → va_S A s.heap H1 locs1 → W p l e R s m args below meth c H1 locs1 (cells + mc) (slots + ms) Qf (F0 m (pc + 3) ls rest)) :
    W p l e R s m args below meth c H locs cells slots Qf (F0 m pc ls st0) := by
  intro T hT X
  obtain ⟨v, st₀, t, T', L, h0, X', hL, e1, e2, ⟨⟨ad', hag, hv, hP1, hD1, hK1⟩, hz, hk⟩, st⟩ := hr T hT X
  cases hv
  rw [h0] at hz hk
  rw [← e1] at hP1 hz hk
  obtain ⟨t2, a1, b1⟩ := kk ad' T'.heap (locs ++ L) hag hP1 (hD1.weaken (fun _ _ _ h => hA1 _ h))
    ⟨Nat.le_trans hS.1 hz, fun q h1 h2 => by rw [hk q (Nat.lt_of_lt_of_le h1 hS.1) (fun z => h2 (hA1 q z))]; exact hS.2.1 q h1 h2, fun q hq => by
      rcases List.mem_append.mp hq with h | h
      · exact hS.2.2 q h
      · exact hA1 _ (hL q h)⟩ T' rfl X'
  exact ⟨t2, st t2 a1, b1⟩
end BMgo
section BMsound
variable {l : Launch} {Ts : List Cond} {nm : Nat → MethodName} {by_ : Nat → ByteArray} {mx : Nat → Nat} {D : va_G} {cl : List vw_C} {cI cZ cG : ClassId} {ne : bm_Ne} {ty : Nat → Nat → FieldType} {Y : List bm_M}
set_option maxHeartbeats 4000000 in
theorem bm_body (hgood : ∀ w ∈ Ts, goodWord w = true) (hwI : Cond.arrayClass .int ∈ Ts) (hwZ : Cond.arrayClass .boolean ∈ Ts) {d y : Nat} {M : bm_M} {C : Nat → List Value → List bm_K → Option (List bm_K)} (hM : bm_okM Ts nm by_ mx cl ne ty M y)
    (hCm : ∀ y as κ κ1, C y as κ = some κ1 → κ.length ≤ κ1.length ∧ bm_sl κ ≤ bm_sl κ1) (hC : ∀ y as κ κ1, C y as κ = some κ1 → ∃ dd, dd < d ∧ bm_T l Ts nm by_ mx D cl [(cI, .int), (cZ, .boolean), (cG, .array .int)] ne (cI, cZ, cG) dd y as κ κ1)
    {as : List Value} {κ κ' : List bm_K} (hc1 : mm_c1 (mx y) as = true) (hrun : bm_run ty C M 400 0 (mm_ent (mx y) as) [] κ = some κ') : bm_T l Ts nm by_ mx D cl [(cI, .int), (cZ, .boolean), (cG, .array .int)] ne (cI, cZ, cG) d y as κ κ' := by
  obtain ⟨hpl, hini0, hE, hnw, hpt, hkk, hmn⟩ := hM
  obtain ⟨hlen, hcat⟩ := mm_c1_el hc1
  intro ad sz
  refine Met.ofW (cc := by_ y) (maxL := mx y) (ret := none) hpl rfl ?_
  intro p e s m args below meth c s₁ B0 hml hv
  obtain ⟨rfl, hsz, hP, ⟨hK, hN⟩, hD0⟩ := hv
  have hx := B0.exec
  have hb := B0.bytes
  have hr := B0.returns
  have hlocks := B0.notSynchronized
  have hts0 := atoms_spec (ws := bm_ws Ts nm by_ mx y) B0.pre
  have hts : ∀ w ∈ Ts, w.before (as.map (mm_rho ad)).toArray s = true := fun w hw => hts0 w (List.mem_cons_of_mem _ hw)
  have hown : s.vm.findClass (nm y).cls = some m.cls := findClass_of_methodNamed B0.named
  have hin2 : meth.name = "<init>" := ((name_of_methodNamed B0.named B0.method).1).trans hini0
  have hG : ∀ y', Cond.code (nm y') (by_ y') (mx y') none ∈ Ts → GoodIn Ts (bm_ws Ts nm by_ mx y') := fun y' hy' w hw => by
    rcases List.mem_cons.mp hw with h9 | h9
    · subst h9
      exact ⟨hy', good_of_word (hgood _ hy')⟩
    · exact ⟨h9, good_of_word (hgood _ h9)⟩
  subst hsz
  have hD := hD0.self (sz := s.heap.size)
  have hA : ∀ q, s.heap.size ≤ q → va_A (bm_wd ad (cI, cZ, cG) κ) s.heap.size q := fun q h => Or.inr h
  generalize hAe : va_A (bm_wd ad (cI, cZ, cG) κ) s.heap.size = A at hD hA ⊢
  have hcat' : ∀ v ∈ as.map (mm_rho ad), v.category = 1 := fun v hv => by
    obtain ⟨w, hw, rfl⟩ := List.mem_map.mp hv
    rw [mm_rho_cat]
    exact hcat w hw
  have hl := lv_entry (as.map (mm_rho ad)) (n := mx y) (by rw [mm_sl_len _ hcat', List.length_map]; exact hlen)
  rw [lg_entry_eq]
  generalize (lg_sl (as.map (mm_rho ad)) ++ List.replicate (mx y - (lg_sl (as.map (mm_rho ad))).length) Slot.unset).toArray = ls0 at hl ⊢
  have hlh : mm_lh ad ls0 (mx y) (mm_ent (mx y) as) := by
    refine ⟨?_, ?_, fun k v hk => hcat v (mm_nth_ent hk)⟩
    · unfold mm_ent
      rw [mm_args_ll ad as 0 _ hcat]
      exact hl
    · unfold mm_ent
      rw [List.length_append, List.length_map, List.length_replicate]
      omega
  have main : ∀ (n pc : Nat) (L : List (Option Value)) (S : List Value) (κ1 : List bm_K), bm_run ty C M n pc L S κ1 = some κ' → κ.length ≤ κ1.length → bm_sl κ ≤ bm_sl κ1 →
      bm_V p l e (bm_rm d κ κ') s m (as.map (mm_rho ad)).toArray below meth c D cl A ad (cI, cZ, cG) κ.length (bm_sl κ) (mx y) (MQ below (bm_Qc D cl [(cI, .int), (cZ, .boolean), (cG, .array .int)] A κ.length ad (cI, cZ, cG) κ') (as.map (mm_rho ad)).toArray s (κ'.length - κ.length) (bm_sl κ' - bm_sl κ) A) pc L S κ1 := by
    intro n
    induction n with
    | zero => intro pc L S κ1 h; simp [bm_run] at h
    | succ n ihn =>
      intro pc L S κ1 h hn0 hs0
      have hmono := bm_run_mono hCm _ _ _ _ _ _ h
      unfold bm_run at h
      split at h
      · cases h
      · rename_i i cs hI
        have hE1 := List.all_eq_true.mp hE _ (mm_look_mem hI)
        have hmn1 := hmn _ (mm_look_mem hI)
        dsimp only at hmn1
        have hE2 := hE1
        unfold bm_okE at hE2
        rw [Bool.and_eq_true] at hE2
        have hdg := of_decide_eq_true hE2.1
        split at h
        · split at h
          · cases h
            intro ad1 H locs ls hag hP1 hD1 hS1 hl1
            exact W.vret hx hb hr (fun t ht hW => ⟨⟨ad1, hag, rfl, by rw [ht]; exact hP1, hD1, va_K.moved hW.alike hK⟩, hS1.F ht⟩) hS1.2.2 hdg
          · cases h
        · rename_i idx
          split at h
          · rename_i y' na hlk
            obtain ⟨hk9, hkn⟩ := hkk _ (mm_look_mem hlk)
            dsimp only at hk9 hkn
            split at h
            · rename_i o as' r hpop
              obtain ⟨t, ht1, ht2, ht3⟩ := mm_pop_el _ _ _ _ _ hpop
              rw [List.append_nil] at ht3
              have hS2 : S = (Value.ref o :: as').reverse ++ r := by rw [ht3, List.reverse_reverse]; exact ht2
              have hna : as'.length = na := by
                have h8 : (Value.ref o :: as').length = na + 1 := by rw [ht3, List.length_reverse, ht1]
                simpa using h8
              split at h
              · rename_i hc8
                obtain ⟨hr8, hrcat⟩ := mm_c1_el hc8
                split at h
                · rename_i hy9
                  have hy9 := Nat.eq_of_beq_eq_true hy9
                  split at h
                  · intro ad1 H locs ls hag hP1 hD1 hS1 hl1
                    obtain ⟨w1, w2, w3⟩ := hk9 hy9
                    have hgo := ihn _ _ _ _ h hn0 hs0 ad1 H locs ls hag hP1 hD1 hS1 hl1
                    rw [hS2]
                    exact W.objInit hx hb hown (hts _ w1) (hts _ w2) (hts _ w3) (g := F0 m pc ls (.ref (ad1 o) :: r.map (mm_rho ad1))) rfl (hl1.1.1.trans hml.symm) rfl hdg (Nat.succ_le_succ (Nat.zero_le _)) (by show 2 * 0 + _ + 12 ≤ 40 * (d + 1); rw [mm_cat_le ad1 r hrcat]; omega) hgo
                  · cases h
                · rename_i hy9
                  have hyn : y' ≠ 999 := fun q => by rw [q] at hy9; cases hy9
                  split at h
                  · rename_i hlr
                    rw [Bool.and_eq_true] at hlr
                    split at h
                    · rename_i κ2 hcall
                      obtain ⟨m1, m2⟩ := hCm _ _ _ _ hcall
                      obtain ⟨f1, f2⟩ := bm_run_mono hCm _ _ _ _ _ _ h
                      obtain ⟨dd, hdd, hT⟩ := hC _ _ _ _ hcall
                      obtain ⟨hmx, hcode, hini, hinst, hnm1, hd, hlk2⟩ := hkn hyn
                      intro ad1 H locs ls hag hP1 hD1 hS1 hl1
                      have hMt := hT ad1 H.size
                      have hgo := ihn _ _ _ _ h (Nat.le_trans hn0 m1) (Nat.le_trans hs0 m2)
                      have hstk : S.map (mm_rho ad1) = (as'.map (mm_rho ad1)).reverse ++ .ref (ad1 o) :: r.map (mm_rho ad1) := by rw [hS2]; simp [mm_rho]
                      have hA1 : ∀ q, va_A (bm_wd ad1 (cI, cZ, cG) κ1) H.size q → A q := fun q hq => by
                        rcases hq with ⟨k, e9, h9⟩ | h9
                        · exact hD1.2 k (q, e9) h9
                        · exact hA q (Nat.le_trans hS1.1 h9)
                      have hpre : PreS s H (va_Pc ((Value.ref o :: as').map (mm_rho ad1)) (bm_B D cl [(cI, .int), (cZ, .boolean), (cG, .array .int)] ne ad1 (cI, cZ, cG) κ1 H.size)) (.ref (ad1 o) :: as'.map (mm_rho ad1)) :=
                        ⟨fun a U g mk q => by obtain ⟨q0, q1, qP, ⟨qK, qN⟩, qD⟩ := q; exact ⟨q0, q1, qP, ⟨va_K.moved (u := U) (U := U.calling g mk a) (Vm.Alike.refl U.vm) qK, bm_N.same (u := U) (U := U.calling g mk a) rfl qN⟩, qD⟩, fun U hU hW => ⟨rfl, by rw [hU], by rw [hU]; exact hP1, ⟨va_K.moved hW.alike hK, bm_N.moved hW hN⟩, hD1.weaken (fun _ _ _ _ => trivial)⟩⟩
                      have hroom : (bm_rm dd κ1 κ2).frames + 1 ≤ (bm_rm d κ κ').frames ∧ 8 + (mx y' + 11) + (bm_rm dd κ1 κ2).locals ≤ (bm_rm d κ κ').locals := by
                        refine ⟨?_, ?_⟩
                        · show dd + 1 + 1 ≤ d + 1; omega
                        · show 8 + (mx y' + 11) + 40 * (dd + 1) ≤ 40 * (d + 1); omega
                      have hcs1 : κ1.length - κ.length + (κ2.length - κ1.length) ≤ (bm_rm d κ κ').cells ∧ bm_sl κ1 - bm_sl κ + (bm_sl κ2 - bm_sl κ1) ≤ (bm_rm d κ κ').slots := by
                        refine ⟨?_, ?_⟩
                        · show _ ≤ κ'.length - κ.length; omega
                        · show _ ≤ bm_sl κ' - bm_sl κ; omega
                      rw [hstk]
                      have hkk2 : ∀ (ad' : Nat → Nat) (H1 : Heap) (locs1 : List Loc), (∀ k, k < κ1.length → ad' k = ad1 k) → va_P D cl (bm_wd ad' (cI, cZ, cG) κ2) H1 → va_D A (bm_wd ad' (cI, cZ, cG) κ2) → va_S A s.heap H1 locs1 → W p l e (bm_rm d κ κ') s m (as.map (mm_rho ad)).toArray below meth c H1 locs1 (κ1.length - κ.length + (κ2.length - κ1.length)) (bm_sl κ1 - bm_sl κ + (bm_sl κ2 - bm_sl κ1)) (MQ below (bm_Qc D cl [(cI, .int), (cZ, .boolean), (cG, .array .int)] A κ.length ad (cI, cZ, cG) κ') (as.map (mm_rho ad)).toArray s (κ'.length - κ.length) (bm_sl κ' - bm_sl κ) A) (F0 m (pc + 3) ls (r.map (mm_rho ad1))) := by
                        intro ad' H1 locs1 hag1 hP2 hD2 hS2'
                        have h9 := hgo ad' H1 locs1 ls (fun k hk => (hag1 k (by omega)).trans (hag k hk)) hP2 hD2 hS2' (bm_lh_ag hag1 hlr.1 hl1)
                        rw [bm_map_ag hag1 hlr.2] at h9
                        rw [show κ1.length - κ.length + (κ2.length - κ1.length) = κ2.length - κ.length by omega, show bm_sl κ1 - bm_sl κ + (bm_sl κ2 - bm_sl κ1) = bm_sl κ2 - bm_sl κ by omega]
                        exact h9
                      rcases hlk2 with hlink | ⟨host, hne⟩
                      · exact bm_goon (va_runI (b := ad1 o) (As := as'.map (mm_rho ad1)) (rest := r.map (mm_rho ad1)) (n := na) ⟨hx, hb, hml, hown, hts⟩ hMt (cwI na hts (hG y' hcode) rfl rfl rfl (hts _ hini) (hts _ hlink) (hts _ hinst) hnm1 hd hroom) hpre rfl (by rw [List.length_map]; exact hna) hl1.1.1 rfl (lv_room (by rw [mm_cat_le ad1 r hrcat]; exact hr8)) hdg hcs1) hS1 hA1 hkk2
                      · exact bm_goon (va_runIN (b := ad1 o) (As := as'.map (mm_rho ad1)) (rest := r.map (mm_rho ad1)) (n := na) (host := host) ⟨hx, hb, hml, hown, hts⟩ hMt ⟨va_cnB na hts (hG y' hcode) rfl rfl rfl (hN.1 _ hne) (hts _ hini) hd hroom, hnm1, hts _ hinst⟩ hpre rfl (by rw [List.length_map]; exact hna) hl1.1.1 rfl (lv_room (by rw [mm_cat_le ad1 r hrcat]; exact hr8)) hdg hcs1) hS1 hA1 hkk2
                    · cases h
                  · cases h
              · cases h
            · cases h
          · cases h
        · split at h
          · rename_i pc' L' S' κ2 hst
            obtain ⟨m1, m2⟩ := bm_step_mono hst
            obtain ⟨f1, f2⟩ := bm_run_mono hCm _ _ _ _ _ _ h
            exact bm_sstep (Ts := Ts) (own := (nm y).cls) hx hb hown hts hK hA hin2 hN.2 hwI hwZ hnw hpt hE1 hmn1 hst hn0 hs0 (by show _ ≤ κ'.length - κ.length; omega) (by show _ ≤ bm_sl κ' - bm_sl κ; omega) (ihn _ _ _ _ h (Nat.le_trans hn0 m1) (Nat.le_trans hs0 m2))
          · cases h
  have h0 := main 400 0 _ _ _ hrun (Nat.le_refl _) (Nat.le_refl _) ad s.heap [] ls0 (fun _ _ => rfl) hP hD va_S.rf hlh
  rw [Nat.sub_self, Nat.sub_self] at h0
  exact h0
theorem bm_sound (hgood : ∀ w ∈ Ts, goodWord w = true) (hwI : Cond.arrayClass .int ∈ Ts) (hwZ : Cond.arrayClass .boolean ∈ Ts) (hok : ∀ y M, mm_nth Y y = some M → bm_okM Ts nm by_ mx cl ne ty M y) :
    ∀ d y as κ κ', bm_D ty Y mx (d + 1) y as κ = some κ' → bm_T l Ts nm by_ mx D cl [(cI, .int), (cZ, .boolean), (cG, .array .int)] ne (cI, cZ, cG) d y as κ κ' := by
  intro d
  induction d with
  | zero =>
    intro y as κ κ' h
    unfold bm_D at h
    split at h
    · rename_i M hM
      split at h
      · rename_i hc
        exact bm_body hgood hwI hwZ (hok y M hM) (bm_D_mono 0) (fun y as κ κ1 h9 => by simp [bm_D] at h9) hc h
      · cases h
    · cases h
  | succ d ih =>
    intro y as κ κ' h
    unfold bm_D at h
    split at h
    · rename_i M hM
      split at h
      · rename_i hc
        exact bm_body hgood hwI hwZ (hok y M hM) (bm_D_mono (d + 1)) (fun y as κ κ1 h9 => ⟨d, Nat.lt_succ_self d, ih y as κ κ1 h9⟩) hc h
      · cases h
    · cases h
end BMsound
end
end
section
section
/-! Exceptions: 'throw new X(text)' where no stack traces are kept. What the library has for a chain of constructors (Stand.ctorMessageOffV) is used as it stands. -/
/-- the words that such a throw asks: X's constructor passes on to Y's (its own entry ix), Y's and those of 'names' by their entries 7 -/
def mx_at (own : String) (ic : Nat) (X Y : String) (ix : Nat) (by1 : ByteArray) (names : List String) : List Cond :=
  Bundle.throwableAtoms ++ (Bundle.throwableSAtoms ++ (Bundle.passSAtoms X Y ix by1 ++ (Bundle.chainSAtoms Y names ++
  [.methodLink own ic (Bundle.initS X), .instantiable X 6, .selects X Bundle.tFill0 Bundle.tFill0, .selects X Bundle.tFill Bundle.tFill,
   .lays X Bundle.tN "cause" "Ljava/lang/Throwable;", .lays X Bundle.tN "stackTrace" Bundle.steD, .lays X Bundle.tN "suppressedExceptions" Bundle.listD, .lays X Bundle.tN "detailMessage" "Ljava/lang/String;",
   .fieldLink Bundle.tN 198 Bundle.tN "backtrace" "Ljava/lang/Object;", .lays Bundle.tN Bundle.tN "backtrace" "Ljava/lang/Object;", .lays X Bundle.tN "backtrace" "Ljava/lang/Object;",
   .isRef (.static Bundle.tN "UNASSIGNED_STACK" Bundle.steD), .isRef (.static Bundle.tN "SUPPRESSED_SENTINEL" Bundle.listD)])))
section MXi
variable {p : Program} {l : Launch} {e : Env} {R : Room} {s : State} {m : MethodId} {args : Array Value} {below : List Frame} {meth : Method} {c : Code} {T' : State} {locs : List Loc} {cells slots : Nat}
set_option maxHeartbeats 4000000 in
/-- the constructor's call: the new object is laid, all else stands -/
theorem mx_init (X : Stand p l e R s m args below meth c T' locs cells slots) (hexec : p.tables.exec = Jvm.exec) (htr : e.platform.stackTraces = false) {own cls Yn : String} {names : List String} {ic ix : Nat} {by1 : ByteArray}
    (hown : s.vm.findClass own = some m.cls) (hcls : Bundle.fit cls = true) (hYn : Bundle.fit Yn = true) (hnames : ∀ n ∈ names, Bundle.fit n = true)
    (h0 : decode by1 0 = .ok (.aload_n 0, 1)) (h1 : decode by1 1 = .ok (.aload_n 1, 1)) (h2 : decode by1 2 = .ok (.invokespecial ix, 3)) (h5 : decode by1 5 = .ok (.return_, 1))
    (h : ∀ w ∈ mx_at own ic cls Yn ix by1 names, w.before args s = true)
    (hlocs : ∀ x ∈ locs, ∀ cell, s.heap[x.base]? = some cell → cell.vm.isStatics = false)
    {a : Addr} {cX : ClassId} {kX : Class} (hfX : s.vm.findClass cls = some cX) (hkX : s.vm.classes[cX]? = some kX) (hcell : T'.heap[a]? = some (freshCell cX kX)) (hnew : s.heap.size ≤ a)
    {msg : Value} (hmsg : msg.isRef = true) {g : JFrame} (hg : g.method = m) (hsize : g.locals.size = c.maxLocals) {rest : List Value} (hstack : g.stack = msg :: .ref a :: rest) (hd : decode c.code g.pc = .ok (.invokespecial ic, 3))
    (hRf : names.length + 4 < R.frames) (hRl : 2 * g.monitorRoom + (rest.map fun v => v.category).sum + (13 * (names.length + 2) + 42) ≤ R.locals) :
    ∃ (vm' : Vm) (ce : Cell) (L5 : List Loc), Stand p l e R s m args below meth c ((T'.setVm vm').setCell a ce) (locs ++ L5) cells slots ∧ ce.cls = cX ∧ ce.vm = .none ∧ (∀ y ∈ L5, y.base = a) ∧
      ∀ target, Steps p.tables e below (((T'.setVm vm').setCell a ce).setTop { g with pc := g.pc + 3, stack := rest }) target → Steps p.tables e below (T'.setTop g) target := by
  have howns : e.platform.frameOwnsMonitors = true := by rw [X.admits.platform]
  have hfin : e.platform.finalization = false := by rw [X.admits.platform]
  have hpl : e.platform.magicAccessors = ({} : Platform).magicAccessors := by rw [X.admits.platform]
  have hm : ∀ w, w ∈ mx_at own ic cls Yn ix by1 names → w.holds args s none s [] = true := fun w hw => h w hw
  obtain ⟨Tc, Z0, L, -, Y⟩ := ThrowableC.of_atoms (args := args) howns hfin hpl (fun w hw => h w (by unfold mx_at; exact List.mem_append_left _ hw))
  obtain ⟨Z, M, LZ, LM, hnZ⟩ := Init0T.ofS_atoms (args := args) hpl L Y (fun w hw => h w (by unfold mx_at; exact List.mem_append_right _ (List.mem_append_left _ hw)))
  have hpass : ∀ w ∈ Bundle.passSAtoms cls Yn ix by1, w.before args s = true := fun w hw => h w (by unfold mx_at; exact List.mem_append_right _ (List.mem_append_right _ (List.mem_append_left _ hw)))
  obtain ⟨P1, L1, hP1m, hP1s⟩ := PassC.ofS_atoms (args := args) hpl (Bundle.fit_spec hcls).1 (Bundle.fit_spec hYn).2 h0 h1 h2 h5 hpass
  obtain ⟨P2, Ps, hlen, L2, hL, hP2m, hlink2, hlink⟩ := Bundle.chainS (args := args) hpl hnZ names Yn hYn hnames (fun w hw => h w (by unfold mx_at; exact List.mem_append_right _ (List.mem_append_right _ (List.mem_append_right _ (List.mem_append_left _ hw)))))
  have h12 : P1.sup = P2.m := Option.some.inj (hP1s.symm.trans hP2m)
  have tl : ∀ w ∈ ([.methodLink own ic (Bundle.initS cls), .instantiable cls 6, .selects cls Bundle.tFill0 Bundle.tFill0, .selects cls Bundle.tFill Bundle.tFill,
   .lays cls Bundle.tN "cause" "Ljava/lang/Throwable;", .lays cls Bundle.tN "stackTrace" Bundle.steD, .lays cls Bundle.tN "suppressedExceptions" Bundle.listD, .lays cls Bundle.tN "detailMessage" "Ljava/lang/String;",
   .fieldLink Bundle.tN 198 Bundle.tN "backtrace" "Ljava/lang/Object;", .lays Bundle.tN Bundle.tN "backtrace" "Ljava/lang/Object;", .lays cls Bundle.tN "backtrace" "Ljava/lang/Object;",
   .isRef (.static Bundle.tN "UNASSIGNED_STACK" Bundle.steD), .isRef (.static Bundle.tN "SUPPRESSED_SENTINEL" Bundle.listD)] : List Cond), w.holds args s none s [] = true := fun w hw => hm w (by unfold mx_at; exact List.mem_append_right _ (List.mem_append_right _ (List.mem_append_right _ (List.mem_append_right _ hw))))
  have hfound : s.vm.findClass cls = some P1.m.cls := findClass_of_methodNamed hP1m
  cases Option.some.inj (hfX.symm.trans hfound)
  obtain ⟨c1, kX', hc1, hk, hord, -, -, hn6⟩ := Cond.instantiable_spec (tl (.instantiable cls 6) (by simp))
  cases Option.some.inj (hc1.symm.trans hfound)
  cases Option.some.inj (hkX.symm.trans hk)
  have hsel0 : selectMethod e.platform s.vm P1.m.cls Tc.fill0 = .method Tc.fill0 := by
    obtain ⟨c2, r2, m2, q1, q2, q3, q4, -⟩ := Cond.selects_spec (tl (.selects cls Bundle.tFill0 Bundle.tFill0) (by simp))
    cases Option.some.inj (q1.symm.trans hfound)
    cases Option.some.inj (q2.symm.trans (State.methodFound?_of_named Y.fill0 (by decide)))
    cases Option.some.inj (q3.symm.trans Y.fill0)
    rw [Launch.admits_selectMethod X.admits]; exact q4
  have hselF : selectMethod e.platform s.vm P1.m.cls Tc.fill = .method Tc.fill := by
    obtain ⟨c2, r2, m2, q1, q2, q3, q4, -⟩ := Cond.selects_spec (tl (.selects cls Bundle.tFill Bundle.tFill) (by simp))
    cases Option.some.inj (q1.symm.trans hfound)
    cases Option.some.inj (q2.symm.trans (State.methodFound?_of_named Y.fill (by decide)))
    cases Option.some.inj (q3.symm.trans Y.fill)
    rw [Launch.admits_selectMethod X.admits]; exact q4
  obtain ⟨cS, hcS, hiss⟩ := Y.statics
  obtain ⟨u0, hu0⟩ := Cond.staticRefV Y.unassigned L.unassignedStatic L.statics hcS hiss (tl (.isRef (.static Bundle.tN "UNASSIGNED_STACK" Bundle.steD)) (by simp))
  obtain ⟨sen, hsen⟩ := Cond.staticRefV Y.sentinel L.sentinelStatic L.statics hcS hiss (tl (.isRef (.static Bundle.tN "SUPPRESSED_SENTINEL" Bundle.listD)) (by simp))
  obtain ⟨cB, iB, fB, hkB, hgB, haB, hsB, -, hnB, htB, hffB⟩ := Cond.ownField (t := .object "java/lang/Object") Y.found L.cls (by decide +kernel) (tl (.fieldLink Bundle.tN 198 Bundle.tN "backtrace" "Ljava/lang/Object;") (by simp)) (tl (.lays Bundle.tN Bundle.tN "backtrace" "Ljava/lang/Object;") (by simp)) e.platform hpl
  obtain ⟨cS2, hcS2, heS, -, hkeep⟩ := X.same.2.2.2.2.2 Tc.aS cS hcS
  have hcellS : T'.heap[Tc.aS]? = some cS2 := hcS2
  have hno : ∀ i, (⟨Tc.aS, i⟩ : Loc) ∉ locs := fun i hmem => by
    have q := hlocs _ hmem cS hcS
    rw [hiss] at q; cases q
  have hknownS : cS2.vm ≠ .unknown := by
    rw [heS]; intro hu
    rw [show cS.vm = .unknown from hu] at hiss
    cases hiss
  have hneS : Tc.aS ≠ a := Nat.ne_of_lt (Nat.lt_of_lt_of_le (Array.getElem?_eq_some_iff.mp hcS).1 hnew)
  obtain ⟨iM, hffM⟩ := Y.msg
  obtain ⟨tyC, dC, hdC, hdnC⟩ := Cond.laysAt hfound hk Y.cause (tl (.lays cls Bundle.tN "cause" "Ljava/lang/Throwable;") (by simp))
  obtain ⟨tyS, dS, hdS, hdnS⟩ := Cond.laysAt hfound hk Y.stack (tl (.lays cls Bundle.tN "stackTrace" Bundle.steD) (by simp))
  obtain ⟨tyP, dP, hdP, hdnP⟩ := Cond.laysAt hfound hk Y.supp (tl (.lays cls Bundle.tN "suppressedExceptions" Bundle.listD) (by simp))
  obtain ⟨tyM, dM, hdM, hdnM⟩ := Cond.laysAt hfound hk hffM (tl (.lays cls Bundle.tN "detailMessage" "Ljava/lang/String;") (by simp))
  obtain ⟨tyB, dB, hdB, hdnB⟩ := Cond.laysAt hfound hk hffB (tl (.lays cls Bundle.tN "backtrace" "Ljava/lang/Object;") (by simp))
  have bC := Cond.laysApart hdB hdC hdnB hdnC (by rw [hnB, Y.causeName]; decide)
  have bS := Cond.laysApart hdB hdS hdnB hdnS (by rw [hnB, Y.stackName]; decide)
  have bP := Cond.laysApart hdB hdP hdnB hdnP (by rw [hnB, Y.suppName]; decide)
  have hskip : SkipFacts Tc e.platform s (fun u => u) u0 ((preparedCellV Tc.toThrowableT (freshCell P1.m.cls kX) a u0 sen).withEntry T'.cur) :=
    ⟨{ ci198 := cB, i198 := iB, fBack := fB }, ⟨hkB, hgB, haB, hsB⟩, by
      have q := fresh_default (c := P1.m.cls) tyB
      rw [htB] at q
      simpa [preparedCellV, Cell.setSlot, Cell.withEntry, Array.getElem?_setIfInBounds, bC, bS, bP, bC.symm, bS.symm, bP.symm, defaultValue] using q, fun _ _ => rfl⟩
  obtain ⟨tm, methC, cdC, kC, vm₁, hnC, -, -, -, -, -, -, -, hW₁, st1⟩ := Steps.initColdS (tb := p.tables) (e := e) (below := below) (s := s) (U := T') X.here hexec X.warmed hpl hown (t := Bundle.initS cls) rfl rfl (Bundle.fit_spec hcls).2
    (tl (.methodLink own ic (Bundle.initS cls)) (by simp)) (hpass (.instanceMethod (Bundle.initS cls)) (by simp [Bundle.passSAtoms])) (bytes := by1) (maxL := 2) (hpass (.code (Bundle.initS cls) by1 2 none) (by simp [Bundle.passSAtoms]))
    (f := g) hg (a := a) (msg := msg) (rest := rest) hstack hd
  cases Option.some.inj (hnC.symm.trans hP1m)
  have X₁ := X.noted hW₁
  obtain ⟨vm₂, X₂, st2⟩ := X₁.ctorMessageOffV hexec (g := { g with stack := rest }) hg hsize Tc L Z LZ M LM (P1 :: P2 :: Ps)
    (fun P hP => by
      rcases List.mem_cons.mp hP with rfl | hP
      · exact L1
      · rcases List.mem_cons.mp hP with rfl | hP
        · exact L2
        · exact hL P hP) ⟨h12, hlink2, hlink⟩ (u0 := u0) (sen := sen) (self := a) hmsg (cell := freshCell P1.m.cls kX) (cellS := cS2)
    hcell (fun _ => by simp) (by simp) rfl rfl hsel0 hselF hcellS hneS hknownS (by rw [hkeep _ (hno _)]; exact hu0) (by rw [hkeep _ (hno _)]; exact hsen)
    (Takes.of_laid hk hord tyC (by rw [Y.causeType]; rfl)) (Takes.of_laid hk hord tyS (by rw [Y.stackType]; exact fits_refV_array _ u0)) (Takes.of_laid hk hord tyP (by rw [Y.suppType]; exact fits_refV_object _ sen))
    (Takes.of_laid hk hord tyM (by rw [Y.msgType]; exact fits_refV_object _ ⟨msg, hmsg⟩)) Y.objLocals hskip htr [] hd
    (by simp only [List.length_cons, hlen]; omega) (by simp only [List.length_cons, hlen]; have := hRl; show 2 * g.monitorRoom + _ + _ ≤ _; omega)
  refine ⟨vm₂, _, _, X₂, rfl, rfl, fun y hy => ?_, fun target ht => st1 _ (fun acts => ?_)⟩
  · simp only [List.mem_cons, List.not_mem_nil, or_false] at hy
    rcases hy with rfl | rfl | rfl | rfl | rfl <;> rfl
  · rw [doInvoke_state]
    exact st2 _ ht
end MXi
end
section
/-! the throw itself -/
section MXt
variable {p : Program} {l : Launch} {e : Env} {R : Room} {s : State} {m : MethodId} {args : Array Value} {below : List Frame} {meth : Method} {c : Code} {H : Heap} {locs : List Loc} {cells slots : Nat} {Q : State → Prop} {A : Nat → Prop}
set_option maxHeartbeats 4000000 in
theorem mx_throw {cc : ByteArray} {pc : Nat} {ls : Array Slot} {rest : List Value} (hexec : p.tables.exec = Jvm.exec) (hb : c.code = cc) (hl : l.stackTraces = false) {own cls Yn text : String} {names : List String} {ik is ic ix sa : Nat} {by1 : ByteArray}
    (hown : s.vm.findClass own = some m.cls) (hcls : Bundle.fit cls = true) (hYn : Bundle.fit Yn = true) (hnames : ∀ n ∈ names, Bundle.fit n = true)
    (h0 : decode by1 0 = .ok (.aload_n 0, 1)) (h1 : decode by1 1 = .ok (.aload_n 1, 1)) (h2 : decode by1 2 = .ok (.invokespecial ix, 3)) (h5 : decode by1 5 = .ok (.return_, 1))
    (hk : (Cond.classLink own ik cls).before args s = true) (hini : (Cond.initialized cls).before args s = true) (hstr : (Cond.stringRef own is text).before args s = true) (hev : (Term.string own is).eval args s none [] s = some (.ref sa))
    (hat : ∀ w ∈ mx_at own ic cls Yn ix by1 names, w.before args s = true)
    (hlocs : ∀ x ∈ locs, ∀ cell, s.heap[x.base]? = some cell → cell.vm.isStatics = false) (hS : va_S A s.heap H locs) (hA : ∀ q, s.heap.size ≤ q → A q) (hsize : ls.size = c.maxLocals)
    (d0 : decode cc pc = .ok (.new ik, 3)) (d3 : decode cc (pc + 3) = .ok (.dup, 1)) (d4 : decode cc (pc + 4) = .ok (.ldc is, 2)) (d6 : decode cc (pc + 6) = .ok (.invokespecial ic, 3)) (d9 : decode cc (pc + 9) = .ok (.athrow, 1))
    (hout : ∀ x ∈ c.exceptionTable.toList, covers x (pc + 9) = false) (hRf : names.length + 4 < R.frames) (hRl : (rest.map fun v => v.category).sum + (13 * (names.length + 2) + 43) ≤ R.locals) (hRc : cells + 1 ≤ R.cells) (hRs : slots + 6 ≤ R.slots) (hlocks : meth.locks = false)
    (kk : ∀ (U : State) (q : Addr) (ce : Cell) (L : List Loc), U.status = .running → Ended U below (.threw q) → s.WarmedH U.vm → s.sameButNew ({ U with vm := s.vm } : State) L (cells + 1) (slots + 6) → (∀ z ∈ L, A z.base) → U.heap[q]? = some ce → ce.vm = .none → s.vm.findClass cls = some ce.cls →
      H.size ≤ U.heap.size → (∀ x, x < H.size → U.heap[x]? = H[x]?) → Q U) :
    W p l e R s m args below meth c H locs cells slots Q (F0 m pc ls rest) := by
  intro T hT X
  have htr : e.platform.stackTraces = false := (show e.platform.stackTraces = l.stackTraces by rw [X.admits.platform]).trans hl
  have hins : (Cond.instantiable cls 6).before args s = true := hat _ (by unfold mx_at; simp)
  obtain ⟨vm₁, cX, kX, hfX, hkX, -, -, X₁, st1⟩ := X.newCold hexec (own := own) (C := cls) (index := ik) (n := 6) hown hk hins hini (g := F0 m pc ls rest) rfl (by rw [hb]; exact d0) hRc hRs
  generalize hT1 : (T.setVm vm₁).pushCell { cls := cX, slots := kX.instanceTypes.map defaultValue, vm := .none } = T1 at X₁ st1
  have hcellA : T1.heap[T.heap.size]? = some (freshCell cX kX) := by rw [← hT1]; exact State.heap_pushCell_size _ _
  have hT1s : T1.heap.size = T.heap.size + 1 := by rw [← hT1]; exact State.heap_size_pushCell _ _
  have hT1o : ∀ x, x < T.heap.size → T1.heap[x]? = T.heap[x]? := fun x hx => by rw [← hT1]; exact State.heap_pushCell_of_lt _ _ hx
  have hge : s.heap.size ≤ T.heap.size := by rw [hT]; exact hS.1
  have d3' : decode c.code (pc + 3) = .ok (.dup, 1) := by rw [hb]; exact d3
  have d4' : decode c.code (pc + 4) = .ok (.ldc is, 2) := by rw [hb]; exact d4
  have d6' : decode c.code (pc + 6) = .ok (.invokespecial ic, 3) := by rw [hb]; exact d6
  have d9' : decode c.code (pc + 9) = .ok (.athrow, 1) := by rw [hb]; exact d9
  have hcat : (Value.ref T.heap.size).category = 1 := rfl
  obtain ⟨vm₂, ce, L5, X₂, hc1, hc2, hL5, st2⟩ := mx_init X₁ hexec htr hown hcls hYn hnames h0 h1 h2 h5 hat hlocs hfX hkX hcellA hge (msg := .ref sa) rfl
    (g := { method := m, pc := pc + 6, locals := ls, stack := .ref sa :: .ref T.heap.size :: .ref T.heap.size :: rest, locked := none }) rfl hsize (rest := .ref T.heap.size :: rest) rfl d6' hRf
    (by show 2 * 0 + ((Value.ref T.heap.size :: rest).map fun v => v.category).sum + _ ≤ _; simp only [List.map_cons, List.sum_cons, hcat]; omega)
  generalize hT2 : (T1.setVm vm₂).setCell T.heap.size ce = T2 at X₂ st2
  obtain ⟨hwalk, hrun, hend, hW, hsame⟩ := X₂.athrowLeaves hexec (g := { method := m, pc := pc + 9, locals := ls, stack := .ref T.heap.size :: rest, locked := none }) rfl rfl rfl hout (a := T.heap.size) (rest := rest) rfl d9' hlocks
  have hlt : T.heap.size < T1.heap.size := by rw [hT1s]; omega
  have hcell2 : T2.heap[T.heap.size]? = some ce := by
    rw [← hT2]
    simp [State.setCell, State.setVm, Array.getElem?_setIfInBounds, hlt]
  have hsz2 : T2.heap.size = T.heap.size + 1 := by
    rw [← hT2]
    simp [State.setCell, State.setVm, hT1s]
  have hold2 : ∀ x, x < T.heap.size → T2.heap[x]? = T.heap[x]? := fun x hx => by
    rw [← hT1o x hx, ← hT2]
    simp [State.setCell, State.setVm, Array.getElem?_setIfInBounds, show ¬ T.heap.size = x by omega]
  have hq := kk (T2.setFrames (.throwing T.heap.size :: below)) T.heap.size ce (locs ++ L5) hrun hend hW hsame (fun z hz => by
      rcases List.mem_append.mp hz with h | h
      · exact hS.2.2 z h
      · rw [hL5 z h]; exact hA _ hge) hcell2 hc2 (by rw [hc1]; exact hfX) (by show H.size ≤ T2.heap.size; rw [hsz2, hT]; omega) (fun x hx => by
      show T2.heap[x]? = H[x]?
      rw [← hT] at hx ⊢
      exact hold2 x hx)
  refine ⟨_, st1 _ ?_, hq⟩
  show Steps p.tables e below (T1.setTop { method := m, pc := pc + 3, locals := ls, stack := .ref T.heap.size :: rest, locked := none }) _
  jvm_step X₁.here [X₁.here.top, hexec, d3', Value.category]
  exact X₁.ldcString hexec (own := own) (text := text) (index := is) (a := sa) hown hstr hev
    (g := { method := m, pc := pc + 4, locals := ls, stack := .ref T.heap.size :: .ref T.heap.size :: rest, locked := none }) rfl d4' _ (st2 _ hwalk)
end MXt
end
section
/-! what a throw asks of the heap: two statics of Throwable, in a cell that is none of ours -/
def mx_Z (C n d : String) (A : Nat → Prop) (U : State) (H : Heap) : Prop := ∃ (c : ClassId) (k : Class) (i : Nat) (f : Field) (a : Nat) (cell : Cell) (v : Value), U.vm.findClass C = some c ∧ U.fieldFound? C n d = some (c, k, i, f) ∧ f.isStatic = true ∧ k.statics = some a ∧ H[a]? = some cell ∧ cell.vm.isStatics = true ∧ cell.cls = c ∧ f.slot < cell.slots.size ∧ k.staticTypes[f.slot]? = some f.type ∧ cell.slots[f.slot]? = some v ∧ v.isRef = true ∧ ¬ A a
theorem mx_Z.moved {C n d : String} {A : Nat → Prop} {u U : State} {H : Heap} (hvm : u.vm.Alike U.vm) (h : mx_Z C n d A u H) : mx_Z C n d A U H := by
  obtain ⟨c, k, i, f, a, cell, v, h1, h2, h3, h4, h5, h6, h7, h8, h9, h10, h11, h12⟩ := h
  obtain ⟨k', hi', he⟩ := State.fieldFound?_setVm hvm h2
  exact ⟨c, k', i, f, a, cell, v, by rw [hvm.findClass]; exact h1, hi', h3, by rw [he]; exact h4, h5, h6, h7, h8, by rw [he]; exact h9, h10, h11, h12⟩
theorem mx_Z.kept {C n d : String} {A : Nat → Prop} {U : State} {H H1 : Heap} (h : mx_Z C n d A U H) (hq : ∀ a : Nat, a < H.size → ¬ A a → H1[a]? = H[a]?) : mx_Z C n d A U H1 := by
  obtain ⟨c, k, i, f, a, cell, v, h1, h2, h3, h4, h5, h6, h7, h8, h9, h10, h11, h12⟩ := h
  exact ⟨c, k, i, f, a, cell, v, h1, h2, h3, h4, by rw [hq a (Array.getElem?_eq_some_iff.mp h5).1 h12]; exact h5, h6, h7, h8, h9, h10, h11, h12⟩
theorem mx_Z.narrow {C n d : String} {A B : Nat → Prop} {U : State} {H : Heap} (h : mx_Z C n d A U H) (hAB : ∀ q, q < H.size → B q → A q) : mx_Z C n d B U H := by
  obtain ⟨c, k, i, f, a, cell, v, h1, h2, h3, h4, h5, h6, h7, h8, h9, h10, h11, h12⟩ := h
  exact ⟨c, k, i, f, a, cell, v, h1, h2, h3, h4, h5, h6, h7, h8, h9, h10, h11, fun z => h12 (hAB _ (Array.getElem?_eq_some_iff.mp h5).1 z)⟩
theorem mx_Z.lays {C n d : String} {A : Nat → Prop} {s : State} {args : Array Value} (h : mx_Z C n d A s s.heap) : (Cond.laysStatic C n d).before args s = true := by
  obtain ⟨c, k, i, f, a, cell, v, h1, h2, h3, h4, h5, h6, h7, h8, h9, -⟩ := h
  show (Cond.laysStatic C n d).holds args s none s [] = true
  exact Cond.laysStatic_of h1 h2 h3 h4 h5 h6 h7 h8 h9
theorem mx_Z.isRef {C n d : String} {A : Nat → Prop} {s : State} {args : Array Value} (h : mx_Z C n d A s s.heap) : (Cond.isRef (.static C n d)).before args s = true := by
  obtain ⟨c, k, i, f, a, cell, v, h1, h2, h3, h4, h5, h6, h7, h8, h9, h10, h11, -⟩ := h
  have he : (Term.static C n d).eval args s none [] s = some v := by
    simp [Term.eval, State.fieldNamed?, h2, h3, h4, h5, h6, h10]
  simp only [Cond.before, Cond.holds, Cond.value, he]
  cases v <;> simp_all [Value.isRef]
theorem mx_Z.of {C n d : String} {A : Nat → Prop} {s : State} {args : Array Value} (hl : (Cond.laysStatic C n d).before args s = true) (hr : (Cond.isRef (.static C n d)).before args s = true) (hA : ∀ a : Nat, a < s.heap.size → ¬ A a) : mx_Z C n d A s s.heap := by
  obtain ⟨c, k, i, f, a, cell, h1, h2, h3, h4, h5, h6, h7, h8, h9⟩ := Cond.laysStatic_spec hl
  obtain ⟨u, hu⟩ := Cond.staticRefV (args := args) (first := s) (o := none) (idx := []) h2 h3 h4 h5 h6 hr
  exact ⟨c, k, i, f, a, cell, u.v, h1, h2, h3, h4, h5, h6, h7, h8, h9, hu, u.ok, hA a (Array.getElem?_eq_some_iff.mp h5).1⟩
/-- the premises of throws: what superclasses' constructors declare, the texts, the two statics -/
abbrev mx_St : Type := List (String × Nat × String)
def mx_N (dc : List MethodName) (st : mx_St) (sa : Nat → Nat) (A : Nat → Prop) (U : State) (H : Heap) : Prop :=
  (∀ x ∈ dc, va_Nw (.declares x) U) ∧ (∀ q ∈ st, vk_R q.1 q.2.1 q.2.2 (sa q.2.1) U) ∧ mx_Z Bundle.tN "UNASSIGNED_STACK" Bundle.steD A U H ∧ mx_Z Bundle.tN "SUPPRESSED_SENTINEL" Bundle.listD A U H
theorem mx_N.moved {dc : List MethodName} {st : mx_St} {sa : Nat → Nat} {A : Nat → Prop} {s U : State} {H : Heap} (hW : s.WarmedH U.vm) (h : mx_N dc st sa A s H) : mx_N dc st sa A U H :=
  ⟨fun x hx => va_Nw.warmD hW (h.1 x hx), fun q hq => vk_R.warm hW (h.2.1 q hq), h.2.2.1.moved hW.alike, h.2.2.2.moved hW.alike⟩
theorem mx_N.kept {dc : List MethodName} {st : mx_St} {sa : Nat → Nat} {A : Nat → Prop} {U : State} {H H1 : Heap} (h : mx_N dc st sa A U H) (hq : ∀ a : Nat, a < H.size → ¬ A a → H1[a]? = H[a]?) : mx_N dc st sa A U H1 := ⟨h.1, h.2.1, h.2.2.1.kept hq, h.2.2.2.kept hq⟩
theorem mx_N.narrow {dc : List MethodName} {st : mx_St} {sa : Nat → Nat} {A B : Nat → Prop} {U : State} {H : Heap} (h : mx_N dc st sa A U H) (hAB : ∀ q, q < H.size → B q → A q) : mx_N dc st sa B U H := ⟨h.1, h.2.1, h.2.2.1.narrow hAB, h.2.2.2.narrow hAB⟩
theorem mx_N.same {dc : List MethodName} {st : mx_St} {sa : Nat → Nat} {A : Nat → Prop} {u U : State} {H : Heap} (h : u.vm = U.vm) (hN : mx_N dc st sa A u H) : mx_N dc st sa A U H := mx_N.moved (by rw [← h]; exact State.WarmedH.refl u) hN
end
section
/-! calls that return or throw -/
section MXa
variable {p : Program} {l : Launch} {e : Env} {R : Room} {s : State} {m : MethodId} {args : Array Value} {below : List Frame} {meth : Method} {c : Code} {U : State} {locs : List Loc} {cells slots : Nat}
/-- where the caller stands behind a call: the callee's heap and tables, its own frame -/
abbrev mx_U (U t : State) : State := ({ U with heap := t.heap, slotsUsed := t.slotsUsed } : State).setVm t.vm
theorem mx_stand (X : Stand p l e R s m args below meth c U locs cells slots) {g : JFrame} {mk : MethodId} {a : Array Value} {t : State} {L : List Loc} {k n : Nat} (hW : (U.calling g mk a).WarmedH t.vm) (hsm : (U.calling g mk a).sameButNew ({ t with vm := (U.calling g mk a).vm } : State) L k n) :
    Stand p l e R s m args below meth c (mx_U U t) (locs ++ L) (cells + k) (slots + n) := by
  obtain ⟨g0, hg0⟩ := Option.isSome_iff_exists.mp X.here.top
  obtain ⟨r, hr⟩ := State.topJava?_eq_some.mp hg0
  obtain ⟨th, hth, -⟩ := State.frames_cons hr
  have hW' : U.WarmedH t.vm := hW
  obtain ⟨-, q2, q3, q4, q5, q6⟩ := hsm
  have hsame : U.sameButNew ({ U with heap := t.heap, slotsUsed := t.slotsUsed } : State) L k n := by
    refine ⟨?_, q2, q3, q4, q5, q6⟩
    show ({ U with heap := t.heap, slotsUsed := t.slotsUsed } : State) = { U.setFrames U.frames with heap := t.heap, slotsUsed := t.slotsUsed }
    rw [State.setFrames_self hth]
  exact ⟨X.admits, X.cas, X.clock, X.frames, X.room, X.hears, X.method, X.code, (X.here.setHeapUsed t.heap t.slotsUsed).setVm hW'.alike, X.tail, State.WarmedH.trans X.warmed hW', X.limits, X.bytes, X.same.trans (hsame.setVm s.vm)⟩
theorem mx_state {g : JFrame} {mk : MethodId} {a : Array Value} {t : State} {L : List Loc} {k n : Nat} (hsm : (U.calling g mk a).sameButNew ({ t with vm := (U.calling g mk a).vm } : State) L k n) :
    t = ({ (U.calling g mk a).setFrames t.frames with heap := t.heap, slotsUsed := t.slotsUsed } : State).setVm t.vm := by
  have h1 : t = ({ t with vm := (U.calling g mk a).vm } : State).setVm t.vm := rfl
  have h2 := hsm.1
  rw [h2] at h1
  exact h1
theorem mx_ret (X : Stand p l e R s m args below meth c U locs cells slots) {g : JFrame} (hg : g.method = m) {mk : MethodId} {a : Array Value} {t : State} {L : List Loc} {k n : Nat} {v : Option Value} {ig : Instr} {len : Nat} (hdg : decode c.code g.pc = .ok (ig, len)) (hend : Ended t (U.setTop g).frames (.returned v))
    (hW : (U.calling g mk a).WarmedH t.vm) (hsm : (U.calling g mk a).sameButNew ({ t with vm := (U.calling g mk a).vm } : State) L k n) : t = (mx_U U t).setTop { g with pc := g.pc + len, stack := v.toList ++ g.stack } := by
  have h : At U g.method c below := by rw [hg]; exact X.here
  obtain ⟨g0, hg0⟩ := Option.isSome_iff_exists.mp h.top
  obtain ⟨r, hr⟩ := State.topJava?_eq_some.mp hg0
  have hr' : (mx_U U t).frames = .java g0 :: r := hr
  rw [State.frames_setTop' g h.top] at hend
  obtain ⟨c₂, i₂, len₂, hc₂, hd₂, hf₂⟩ := hend
  have hW' : U.WarmedH t.vm := hW
  have hcc : c₂ = c := by
    have h1 : t.code? g.method = U.code? g.method := by rw [State.code?_eq, State.code?_eq, hW'.alike.method?]
    exact Option.some.inj (hc₂.symm.trans (h1.trans h.code))
  subst hcc
  have hlen : len₂ = len := by rw [hdg] at hd₂; cases hd₂; rfl
  subst hlen
  refine (mx_state hsm).trans ?_
  rw [hf₂, State.calling_eq h.top, State.setFrames_setFrames, State.setTop_of_frames _ hr', hr]
  rfl
theorem mx_thr (X : Stand p l e R s m args below meth c U locs cells slots) {g : JFrame} (hg : g.method = m) {mk : MethodId} {a : Array Value} {t : State} {L : List Loc} {k n : Nat} {q : Addr} (hend : Ended t (U.setTop g).frames (.threw q))
    (hsm : (U.calling g mk a).sameButNew ({ t with vm := (U.calling g mk a).vm } : State) L k n) : t = ((mx_U U t).setTop g).pushFrame (.throwing q) := by
  have h : At U g.method c below := by rw [hg]; exact X.here
  obtain ⟨g0, hg0⟩ := Option.isSome_iff_exists.mp h.top
  obtain ⟨r, hr⟩ := State.topJava?_eq_some.mp hg0
  have hr' : (mx_U U t).frames = .java g0 :: r := hr
  rw [State.frames_setTop' g h.top] at hend
  have hf₂ : t.frames = .throwing q :: .java g :: U.frames.tail := hend
  refine (mx_state hsm).trans ?_
  rw [hf₂, State.calling_eq h.top, State.setFrames_setFrames, State.pushFrame, State.frames_setTop _ hr', State.setTop_of_frames _ hr', State.setFrames_setFrames, hr]
  rfl
end MXa
end
section
section MXe
variable {p : Program} {l : Launch} {e : Env} {R : Room} {s : State} {m : MethodId} {args : Array Value} {below : List Frame} {meth : Method} {c : Code} {U : State} {locs : List Loc} {cells slots : Nat}
/-- a callee runs, by its contract -/
theorem mx_enter (X : Stand p l e R s m args below meth c U locs cells slots) {g : JFrame} (hg : g.method = m) (hsize : g.locals.size = c.maxLocals) {ig : Instr} {len : Nat} (hdg : decode c.code g.pc = .ok (ig, len)) {W9 : Nat} (hWt : 2 * g.monitorRoom + (g.stack.map fun v => v.category).sum ≤ W9)
    {y : MethodName} {mk : MethodId} {maxL : Nat} {ws : List Cond} {rm : Room} {Pc : Array Value → State → Prop} {Qm : Array Value → State → Outcome → State → Prop} {a : Array Value} {methY : Method} {cY : Code} (hn : U.methodNamed? y = some mk)
    (hM : MetFree l y (headSpec ws rm) Pc (fun _ _ _ _ _ => True) Qm) (hws : ∀ w ∈ ws, w.before a U = true) (hmY : U.vm.method? mk = some methY) (hcY : methY.code = some cY) (hlY : cY.maxLocals = maxL) (hini : (Cond.initialized y.cls).before a U = true)
    (hframes : rm.frames + 1 ≤ R.frames) (hlocals : W9 + (maxL + 11) + rm.locals ≤ R.locals) (hcells : cells + rm.cells ≤ R.cells) (hslots : slots + rm.slots ≤ R.slots) (hP : Pc a (U.calling g mk a)) :
    ∃ o t, Steps p.tables e below (doInvoke e (U.setTop g) [] mk a).1 t ∧ Ended t (U.setTop g).frames o ∧ Qm a (U.calling g mk a) o t := by
  have h : At U g.method c below := by rw [hg]; exact X.here
  obtain ⟨kY, hkY, -⟩ := className_of_methodNamed hn
  have hinitY : kY.init = .initialized := Cond.initialized_spec (findClass_of_methodNamed hn) hkY hini
  have h1 : (headSpec ws rm).pre.before a U = true := atoms_intro hws
  have hl9 : W9 + (maxL + 11) + (headSpec ws rm).room.locals ≤ R.locals := hlocals
  have happ : (headSpec ws rm).appliesLoose y e.platform (U.calling g mk a) = true :=
    Spec.appliesLoose_calling (g := g) h hdg hn hkY hinitY (X.room_calling (g := g) (R' := (headSpec ws rm).room) hsize hmY hcY hframes (by rw [hlY]; omega) hcells hslots) h1
  obtain ⟨mid, hmid⟩ := h.above
  have hfr : (U.setTop g).frames = (.java g :: mid) ++ below := by rw [State.frames_setTop' g h.top, hmid]; rfl
  obtain ⟨o, t, hsteps, -, hend, hq⟩ := Steps.callFree hM p X.admits X.cas X.clock (acts := []) hfr happ hP trivial
  exact ⟨o, t, hsteps, hend, hq⟩
end MXe
/-- the machine over a frame with a throw under way -/
def mx_X (p : Program) (l : Launch) (e : Env) (R : Room) (s : State) (m : MethodId) (args : Array Value) (below : List Frame) (meth : Method) (c : Code) (H : Heap) (locs : List Loc) (cells slots : Nat) (Q : State → Prop) (g : JFrame) (q : Addr) : Prop :=
  ∀ T : State, T.heap = H → Stand p l e R s m args below meth c T locs cells slots → ∃ t, Steps p.tables e below ((T.setTop g).pushFrame (.throwing q)) t ∧ Q t
def mx_Q (D : va_G) (cl : List vw_C) (tys : List (ClassId × FieldType)) (A : Nat → Prop) (ad : Nat → Nat) (a3 : ClassId × ClassId × ClassId) (Y : mm_Y) (exn : Nat → String) (Q : mm_Q) (XQ : Nat → mm_S → Prop) : Array Value → State → Outcome → State → Prop := fun _ st o t =>
  (∃ (v : Option Value) (σ : mm_S) (L : List Loc), o = .returned (v.map (mm_rho ad)) ∧ Q v σ ∧ va_P D cl (mm_wd ad a3 Y σ) t.heap ∧ va_D A (mm_wd ad a3 Y σ) ∧ va_K D cl tys t ∧ va_F A st t ∧ st.WarmedH t.vm ∧ st.sameButNew ({ t with vm := st.vm } : State) L 0 0 ∧ ∀ z ∈ L, A z.base) ∨
  (∃ (q : Addr) (E : Nat) (σ : mm_S) (ce : Cell) (L : List Loc), o = .threw q ∧ XQ E σ ∧ t.heap[q]? = some ce ∧ ce.vm = .none ∧ st.vm.findClass (exn E) = some ce.cls ∧ va_P D cl (mm_wd ad a3 Y σ) t.heap ∧ va_D A (mm_wd ad a3 Y σ) ∧ va_K D cl tys t ∧ va_F A st t ∧ st.WarmedH t.vm ∧ st.sameButNew ({ t with vm := st.vm } : State) L 1 6 ∧ ∀ z ∈ L, A z.base)
section MXc
variable {p : Program} {l : Launch} {e : Env} {R : Room} {s : State} {m : MethodId} {args : Array Value} {below : List Frame} {meth : Method} {c : Code} {H : Heap} {locs : List Loc} {cells slots : Nat} {Qf : State → Prop} {D : va_G} {cl : List vw_C} {tys : List (ClassId × FieldType)} {A A1 : Nat → Prop} {ad : Nat → Nat} {a3 : ClassId × ClassId × ClassId} {Y : mm_Y} {exn : Nat → String} {Q : mm_Q} {XQ : Nat → mm_S → Prop} {cc : ByteArray} {ls : Array Slot} {pc : Nat}
/-- a virtual call of a method that may throw -/
theorem mx_callV (hx : p.tables.exec = Jvm.exec) (hb : c.code = cc) {own C : String} {idx n maxL : Nat} {y : MethodName} {bytes : ByteArray} {ret : Option FieldType} {ws : List Cond} {rm : Room} {Pc : Array Value → State → Prop} {b : Addr} {As rest : List Value}
    (hown : s.vm.findClass own = some m.cls) (hlink : (Cond.methodLink own idx y).before args s = true) (hinst : (Cond.instanceMethod y).before args s = true) (hsel : (Cond.selects C y y).before args s = true) (hcode : (Cond.code y bytes maxL ret).before args s = true) (hini : ∀ (a' : Array Value) (U : State), s.WarmedH U.vm → (Cond.initialized y.cls).before a' U = true)
    (hy : y.cls ≠ "java/lang/invoke/MethodHandle" ∧ y.cls ≠ "java/lang/invoke/VarHandle") (hlen : (parseMethodDescriptor y.desc).map (fun d => d.parameters.length) = some n) (hAs : As.length = n)
    (hM : MetFree l y (headSpec ws rm) Pc (fun _ _ _ _ _ => True) (mx_Q D cl tys A1 ad a3 Y exn Q XQ)) (hws : ∀ w ∈ ws, ∀ (a' : Array Value) (U : State), s.WarmedH U.vm → w.before a' U = true)
    (hrecv : ∃ cellB : Cell, H[b]? = some cellB ∧ cellB.vm.isStatics = false ∧ s.vm.findClass C = some cellB.cls) (hPc : ∀ (U : State) (g : JFrame) (mk : MethodId), U.heap = H → s.WarmedH U.vm → Pc (Value.ref b :: As).toArray (U.calling g mk (Value.ref b :: As).toArray))
    (hsize : ls.size = c.maxLocals) (hW : (rest.map fun v => v.category).sum ≤ 8) (hdg : decode cc pc = .ok (.invokevirtual idx, 3)) (hframes : rm.frames + 1 ≤ R.frames) (hlocals : 8 + (maxL + 11) + rm.locals ≤ R.locals) (hcells : cells + rm.cells ≤ R.cells) (hslots : slots + rm.slots ≤ R.slots)
    (hS : va_S A s.heap H locs) (hA1 : ∀ q, A1 q → A q)
    (kr : ∀ (v : Option Value) (σ : mm_S) (H1 : Heap) (locs1 : List Loc), Q v σ → va_P D cl (mm_wd ad a3 Y σ) H1 → va_D A1 (mm_wd ad a3 Y σ) → va_S A s.heap H1 locs1 → H.size ≤ H1.size → (∀ q : Nat, q < H.size → ¬ A1 q → H1[q]? = H[q]?) → W p l e R s m args below meth c H1 locs1 cells slots Qf (F0 m (pc + 3) ls ((v.map (mm_rho ad)).toList ++ rest)))
    (kt : ∀ (q : Addr) (E : Nat) (σ : mm_S) (ce : Cell) (H1 : Heap) (locs1 : List Loc), XQ E σ → H1[q]? = some ce → ce.vm = .none → s.vm.findClass (exn E) = some ce.cls → va_P D cl (mm_wd ad a3 Y σ) H1 → va_D A1 (mm_wd ad a3 Y σ) → va_S A s.heap H1 locs1 → H.size ≤ H1.size → (∀ q : Nat, q < H.size → ¬ A1 q → H1[q]? = H[q]?) → mx_X p l e R s m args below meth c H1 locs1 (cells + 1) (slots + 6) Qf (F0 m pc ls rest) q) :
    W p l e R s m args below meth c H locs cells slots Qf (F0 m pc ls (As.reverse ++ .ref b :: rest)) := by
  intro T hT X
  obtain ⟨mk, methM, hnamed, hmethM, hstM, habM⟩ := Cond.instanceMethod_spec hinst
  obtain ⟨methM', cM, hmethM', hcM, -, hlM, -, -, -, hsigM⟩ := Cond.code_spec hnamed hcode
  cases hmethM.symm.trans hmethM'
  obtain ⟨cellB, hcB, hoB, hclB⟩ := hrecv
  obtain ⟨c2, r2, m2, q1, q2, q3, q4, kP, hkP, hkPi⟩ := Cond.selects_spec hsel
  cases hclB.symm.trans q1
  cases (State.methodFound?_of_named hnamed hy).symm.trans q2
  cases hnamed.symm.trans q3
  have hselP : selectMethod e.platform s.vm cellB.cls mk = .method mk := by rw [Launch.admits_selectMethod X.admits]; exact q4
  have hln : As.length = methM.sig.parameters.length := by
    rw [hsigM] at hlen
    have := Option.some.inj hlen
    rw [hAs]; exact this.symm
  obtain ⟨vm₁, X₁, hstep₁⟩ := X.invokevirtual hx hown hlink hnamed hmethM hstM hkP hkPi hy (a := b) (cell := cellB) (by rw [hT]; exact hcB)
    (fun z h => by rw [h] at hoB; cases hoB) hselP hmethM habM hkP hkPi (g := F0 m pc ls (As.reverse ++ .ref b :: rest)) rfl (argsL := As) (rest := rest) hln rfl (by rw [hb]; exact hdg)
  have hdg' : decode c.code (F0 m pc ls rest).pc = .ok (.invokevirtual idx, 3) := by rw [hb]; exact hdg
  have hmY : (T.setVm vm₁).vm.method? mk = some methM := by
    have := X₁.warmed.alike.method? (m := mk)
    rw [this]; exact hmethM
  obtain ⟨o, t, hsteps, hend, hq⟩ := mx_enter X₁ (g := F0 m pc ls rest) rfl hsize hdg' (W9 := 8) (lv_room hW) (X₁.named hnamed) hM (fun w hw => hws w hw _ _ X₁.warmed) hmY hcM hlM (hini _ _ X₁.warmed) hframes hlocals hcells hslots (hPc (T.setVm vm₁) _ _ hT X₁.warmed)
  have hst0 : ∀ target, Steps p.tables e below t target → Steps p.tables e below (T.setTop (F0 m pc ls (As.reverse ++ .ref b :: rest))) target := fun target h => hstep₁ _ fun acts => by rw [doInvoke_state]; exact hsteps.trans h
  have hSn : ∀ (L : List Loc), va_F A1 ((T.setVm vm₁).calling (F0 m pc ls rest) mk (Value.ref b :: As).toArray) t → (∀ z ∈ L, A1 z.base) → va_S A s.heap t.heap (locs ++ L) := fun L hF hL => by
    obtain ⟨hz, hk⟩ := hF
    have hz' : H.size ≤ t.heap.size := by rw [← hT]; exact hz
    refine ⟨Nat.le_trans hS.1 hz', fun q h1 h2 => ?_, fun q hq => ?_⟩
    · have h3 := hk q (by show q < T.heap.size; rw [hT]; exact Nat.lt_of_lt_of_le h1 hS.1) (fun z => h2 (hA1 q z))
      have h4 : t.heap[q]? = H[q]? := by rw [← hT]; exact h3
      rw [h4]; exact hS.2.1 q h1 h2
    · rcases List.mem_append.mp hq with h | h
      · exact hS.2.2 q h
      · exact hA1 _ (hL q h)
  have hHn : va_F A1 ((T.setVm vm₁).calling (F0 m pc ls rest) mk (Value.ref b :: As).toArray) t → H.size ≤ t.heap.size ∧ ∀ q : Nat, q < H.size → ¬ A1 q → t.heap[q]? = H[q]? := fun hF => by
    rw [← hT]; exact hF
  rcases hq with ⟨v, σ, L, ho, hQ, hP1, hD1, hK1, hF, hWt, hsm, hL⟩ | ⟨q, E, σ, ce, L, ho, hXQ, hce, hcv, hcl, hP1, hD1, hK1, hF, hWt, hsm, hL⟩
  · subst ho
    have X₂ := mx_stand X₁ hWt hsm
    have hts := mx_ret X₁ (g := F0 m pc ls rest) rfl hdg' hend hWt hsm
    obtain ⟨g1, g2⟩ := hHn hF
    obtain ⟨t2, a1, b1⟩ := kr v σ t.heap (locs ++ L) hQ hP1 hD1 (hSn L hF hL) g1 g2 (mx_U (T.setVm vm₁) t) rfl X₂
    refine ⟨t2, hst0 t2 ?_, b1⟩
    rw [hts]
    exact a1
  · subst ho
    have X₂ := mx_stand X₁ hWt hsm
    have hts := mx_thr X₁ (g := F0 m pc ls rest) rfl hend hsm
    obtain ⟨g1, g2⟩ := hHn hF
    obtain ⟨t2, a1, b1⟩ := kt q E σ ce t.heap (locs ++ L) hXQ hce hcv (by
      have h9 : (T.setVm vm₁).vm.findClass (exn E) = some ce.cls := hcl
      rw [X₁.warmed.alike.findClass] at h9
      exact h9) hP1 hD1 (hSn L hF hL) g1 g2 (mx_U (T.setVm vm₁) t) rfl X₂
    refine ⟨t2, hst0 t2 ?_, b1⟩
    rw [hts]
    exact a1
/-- not caught here -/
theorem mx_out {q : Addr} {rest : List Value} (hout : ∀ x ∈ c.exceptionTable.toList, covers x pc = false) (hlocks : meth.locks = false)
    (kk : ∀ U : State, U.status = .running → Ended U below (.threw q) → s.WarmedH U.vm → s.sameButNew ({ U with vm := s.vm } : State) locs cells slots → U.heap = H → Qf U) : mx_X p l e R s m args below meth c H locs cells slots Qf (F0 m pc ls rest) q := by
  intro T hT X
  obtain ⟨st1, hrun, hend, hW, hsm⟩ := X.leaveThrown q (g := F0 m pc ls rest) rfl rfl rfl hout hlocks
  exact ⟨_, st1, kk _ hrun hend hW hsm hT⟩
/-- caught here -/
theorem mx_catch {q : Addr} {rest : List Value} {E : String} {ce : Cell} {own name : String} (hown : s.vm.findClass own = some m.cls) (pre : List ExceptionTableEntry) (x : ExceptionTableEntry) (suf : List ExceptionTableEntry) (hsplit : c.exceptionTable.toList = pre ++ x :: suf)
    (hpass : ∀ z ∈ pre, z.catchType ≠ 0 ∧ ∃ nm : String, (Cond.classLink own z.catchType nm).before args s = true ∧ (Cond.not (.castable E nm)).before args s = true) (hcov : covers x pc = true) (h0 : x.catchType ≠ 0)
    (hlink : (Cond.classLink own x.catchType name).before args s = true) (hcast : (Cond.castable E name).before args s = true) (hcell : H[q]? = some ce) (hv : ce.vm = .none) (hcl : s.vm.findClass E = some ce.cls)
    (kk : W p l e R s m args below meth c H locs cells slots Qf (F0 m x.handlerPc ls [.ref q])) : mx_X p l e R s m args below meth c H locs cells slots Qf (F0 m pc ls rest) q := by
  intro T hT X
  have hpl : e.platform.magicAccessors = ({} : Platform).magicAccessors := by rw [X.admits.platform]
  obtain ⟨c3, c4, hc3, hc4, hasg⟩ := Cond.castable_spec hcast
  cases Option.some.inj (hc3.symm.trans hcl)
  obtain ⟨c5, hc5, hcl5⟩ := Cond.classLink_spec hown hlink e.platform hpl
  cases Option.some.inj (hc4.symm.trans hc5)
  obtain ⟨vm', X', st⟩ := X.thenCaughtThrough q (g := F0 m pc ls rest) rfl (Steps.refl _) (by rw [hT]; exact hcell) (by rw [hv]; rfl) (by obtain ⟨k9, h9, -⟩ := Vm.findClass_spec hcl; exact ⟨k9, h9⟩) pre x suf hsplit
    (fun z hz => by
      obtain ⟨hz0, nm, hl1, hn1⟩ := hpass z hz
      exact RowPassed.of_words hpl hown hz0 hl1 hcl hn1) hcov (Or.inr ⟨h0, c4, hcl5, hasg⟩)
  obtain ⟨t, a1, b1⟩ := kk (T.setVm vm') hT X'
  exact ⟨t, st.trans a1, b1⟩
end MXc
end
section
/-! calls of the small machine's methods out of a walk with any end -/
section MXh
variable {l : Launch} {Ts : List Cond} {nm : Nat → MethodName} {by_ : Nat → ByteArray} {mx : Nat → Nat} {D : va_G} {cl : List vw_C} {cI cZ cG : ClassId} {ad : Nat → Nat} {Y : mm_Y} {B : mm_C} {yM ym : Nat}
variable {p : Program} {e : Env} {R : Room} {s : State} {m : MethodId} {args : Array Value} {below : List Frame} {meth : Method} {c : Code} {cc : ByteArray} {own : String} {nL d : Nat} {M : mm_M} {Qf : State → Prop} {σ : mm_S}
set_option maxHeartbeats 4000000 in
theorem mx_hc1
    (hMn : nm yM = Lib.Math.max.name ∧ by_ yM = Lib.Math.max.code ∧ mx yM = 2 ∧ (mm_me Y yM).2.2.2.2 = 1 ∧ (mm_me Y yM).1 = []) (hmn : nm ym = Lib.Math.min.name ∧ by_ ym = Lib.Math.min.code ∧ mx ym = 2 ∧ (mm_me Y ym).2.2.2.2 = 1 ∧ (mm_me Y ym).1 = [])
    (hB : ∀ y as σ Q, B y as σ Q → (y ≠ yM ∧ y ≠ ym ∧ ∀ d, mm_T l Ts nm by_ mx D cl [(cI, .int), (cZ, .boolean), (cG, .array .int)] ad (cI, cZ, cG) Y d y as σ Q) ∨ (y = yM ∧ ∃ x z, as = [.int x, .int z] ∧ Q (some (.int (if x < z then z else x))) σ) ∨ (y ≠ yM ∧ y = ym ∧ ∃ x z, as = [.int x, .int z] ∧ Q (some (.int (if z < x then z else x))) σ))
    (hTT : ∀ y as σ Q, y ≠ yM → y ≠ ym → mm_D Y B mx d y as σ Q → mm_T l Ts nm by_ mx D cl [(cI, .int), (cZ, .boolean), (cG, .array .int)] ad (cI, cZ, cG) Y d y as σ Q)
    (hx : p.tables.exec = Jvm.exec) (hb : c.code = cc) (hml : c.maxLocals = nL) (hown : s.vm.findClass own = some m.cls) (hts : ∀ w ∈ Ts, w.before args s = true) (hK : va_K D cl [(cI, .int), (cZ, .boolean), (cG, .array .int)] s)
    (hG : ∀ y', Cond.code (nm y') (by_ y') (mx y') (mm_rty (mm_me Y y').2.2.2.2) ∈ Ts → GoodIn Ts (mm_ws Ts nm by_ mx Y y')) (hk : ∀ q ∈ M.2.2.2.1, mm_kok Ts nm by_ mx cl Y own q) (hRf : d + 1 ≤ R.frames) (hRl : 40 * (d + 1) ≤ R.locals) (hG0 : mm_G ad (va_A (mm_wd ad (cI, cZ, cG) Y σ) s.heap.size) s s.heap) :
    ∀ (pc idx : Nat) (L : List (Option Value)) (S : List Value) (σ1 : mm_S), decode cc pc = .ok (.invokevirtual idx, 3) → mm_call Y (mm_D Y B mx d) M idx 1 S σ1 (fun S' σ' => mm_V p l e R s m args below meth c D cl (va_A (mm_wd ad (cI, cZ, cG) Y σ) s.heap.size) ad (cI, cZ, cG) Y nL Qf (pc + 3) L S' σ') → mm_V p l e R s m args below meth c D cl (va_A (mm_wd ad (cI, cZ, cG) Y σ) s.heap.size) ad (cI, cZ, cG) Y nL Qf pc L S σ1 := by
  intro pc idx L S σ1 hdg hcall
  obtain ⟨y', n, ci, as', r, hlk, rfl, hln, hc8, hrc, hC⟩ := mm_call_el hcall
  obtain ⟨k, as2, fs, rfl, hkd, hci⟩ := mm_rcv_el hrc
  obtain ⟨hmx, hcode, hlink, hini, hd, -, hvir⟩ := hk _ (mm_look_mem hlk)
  obtain ⟨hinst, hsel, Tc, Nc, hclc⟩ := hvir hci
  obtain ⟨hr8, hrcat⟩ := mm_c1_el hc8
  have hnB : ∀ (Q9 : mm_Q), mm_D Y B mx d y' (.ref k :: as2) σ1 Q9 → y' ≠ yM ∧ y' ≠ ym := by
    intro Q9 h9
    have hbb : ∀ y9, (mm_me Y y9).1 = [] → mm_D Y B mx d y9 (.ref k :: as2) σ1 Q9 → B y9 (.ref k :: as2) σ1 Q9 := by
      intro y9 he h8
      cases d with
      | zero => exact h8
      | succ d => exact h8.elim id (fun h7 => (mm_W_nil he h7.2).elim)
    constructor
    · intro e9
      subst e9
      rcases hB _ _ _ _ (hbb _ hMn.2.2.2.2 h9) with ⟨h7, -⟩ | ⟨-, x, z, h7, -⟩ | ⟨h7, -⟩
      · exact h7 rfl
      · cases h7
      · exact h7 rfl
    · intro e9
      subst e9
      rcases hB _ _ _ _ (hbb _ hmn.2.2.2.2 h9) with ⟨-, h7, -⟩ | ⟨-, x, z, h7, -⟩ | ⟨-, -, x, z, h7, -⟩
      · exact h7 rfl
      · cases h7
      · cases h7
  have hT := hTT y' (.ref k :: as2) σ1 _ (hnB _ hC).1 (hnB _ hC).2 hC
  intro H locs ls hP1 hD1 hS1 hl1
  have hM := hT H.size
  have he : (mm_wd ad (cI, cZ, cG) Y σ1)[k]? = some (ad k, .inr (ci, mm_fv ad (σ1 k) 0 fs)) := by
    rw [mm_wd_get (mm_kd_lt (by rw [hkd]; exact fun z => nomatch z))]; simp only [mm_ce, hkd]
  have hstk : ((Value.ref k :: as2).reverse ++ r).map (mm_rho ad) = (as2.map (mm_rho ad)).reverse ++ .ref (ad k) :: r.map (mm_rho ad) := by
    simp [mm_rho]
  rw [hstk]
  refine mm_goon (va_runV (C := (nm y').cls) (b := ad k) (As := as2.map (mm_rho ad)) (rest := r.map (mm_rho ad)) (n := n) ⟨hx, hb, hml, hown, hts⟩ hM ⟨callB_of n hts (hG y' hcode) rfl rfl rfl (hts _ hini) (hts _ hlink) hd ⟨hRf, by show 8 + (mx y' + 11) + 40 * d ≤ R.locals; have := hmx; dsimp only at this; omega⟩, hts _ hinst, hts _ hsel⟩
    ⟨fun a U g mk q => by obtain ⟨q0, q1, qP, qK, qD, qG⟩ := q; exact ⟨q0, q1, qP, va_K.moved (u := U) (U := U.calling g mk a) (Vm.Alike.refl U.vm) qK, qD, mm_G.moved (u := U) (U := U.calling g mk a) (Vm.Alike.refl U.vm) qG⟩, va_recv hK hP1 hclc he, fun U hU hW => ⟨rfl, by rw [hU], by rw [hU]; exact hP1, va_K.moved hW.alike hK, hD1.weaken (fun _ _ _ _ => trivial), by rw [hU]; exact ((hG0.kept hS1.2.1).narrow (fun q h8 => mm_A_in h8 hS1.1)).moved hW.alike⟩⟩
    rfl (by rw [List.length_map]; simp only [List.length_cons] at hln; omega) hl1.1.1 rfl (lv_room (by rw [mm_cat_le ad r hrcat]; exact hr8)) hdg ⟨Nat.zero_le _, Nat.zero_le _⟩) hS1 (fun q hq => mm_A_in hq hS1.1) (fun v σ' H1 locs1 hq hP2 hD2 hS2 => ?_)
  rw [mm_rho_toList]
  exact hq H1 locs1 ls hP2 hD2 hS2 hl1
set_option maxHeartbeats 4000000 in
theorem mx_hc0
    (hMn : nm yM = Lib.Math.max.name ∧ by_ yM = Lib.Math.max.code ∧ mx yM = 2 ∧ (mm_me Y yM).2.2.2.2 = 1 ∧ (mm_me Y yM).1 = []) (hmn : nm ym = Lib.Math.min.name ∧ by_ ym = Lib.Math.min.code ∧ mx ym = 2 ∧ (mm_me Y ym).2.2.2.2 = 1 ∧ (mm_me Y ym).1 = [])
    (hB : ∀ y as σ Q, B y as σ Q → (y ≠ yM ∧ y ≠ ym ∧ ∀ d, mm_T l Ts nm by_ mx D cl [(cI, .int), (cZ, .boolean), (cG, .array .int)] ad (cI, cZ, cG) Y d y as σ Q) ∨ (y = yM ∧ ∃ x z, as = [.int x, .int z] ∧ Q (some (.int (if x < z then z else x))) σ) ∨ (y ≠ yM ∧ y = ym ∧ ∃ x z, as = [.int x, .int z] ∧ Q (some (.int (if z < x then z else x))) σ))
    (hTT : ∀ y as σ Q, y ≠ yM → y ≠ ym → mm_D Y B mx d y as σ Q → mm_T l Ts nm by_ mx D cl [(cI, .int), (cZ, .boolean), (cG, .array .int)] ad (cI, cZ, cG) Y d y as σ Q)
    (hx : p.tables.exec = Jvm.exec) (hb : c.code = cc) (hml : c.maxLocals = nL) (hown : s.vm.findClass own = some m.cls) (hts : ∀ w ∈ Ts, w.before args s = true) (hK : va_K D cl [(cI, .int), (cZ, .boolean), (cG, .array .int)] s)
    (hG : ∀ y', Cond.code (nm y') (by_ y') (mx y') (mm_rty (mm_me Y y').2.2.2.2) ∈ Ts → GoodIn Ts (mm_ws Ts nm by_ mx Y y')) (hk : ∀ q ∈ M.2.2.2.1, mm_kok Ts nm by_ mx cl Y own q) (hRf : d + 1 ≤ R.frames) (hRl : 40 * (d + 1) ≤ R.locals) (hG0 : mm_G ad (va_A (mm_wd ad (cI, cZ, cG) Y σ) s.heap.size) s s.heap) :
    ∀ (pc idx : Nat) (L : List (Option Value)) (S : List Value) (σ1 : mm_S), decode cc pc = .ok (.invokestatic idx, 3) → mm_call Y (mm_D Y B mx d) M idx 0 S σ1 (fun S' σ' => mm_V p l e R s m args below meth c D cl (va_A (mm_wd ad (cI, cZ, cG) Y σ) s.heap.size) ad (cI, cZ, cG) Y nL Qf (pc + 3) L S' σ') → mm_V p l e R s m args below meth c D cl (va_A (mm_wd ad (cI, cZ, cG) Y σ) s.heap.size) ad (cI, cZ, cG) Y nL Qf pc L S σ1 := by
  intro pc idx L S σ1 hdg hcall
  obtain ⟨y', n, ci, as', r, hlk, rfl, hln, hc8, hrc, hC⟩ := mm_call_el hcall
  obtain ⟨hmx, hcode, hlink, hini, hd, hst, -⟩ := hk _ (mm_look_mem hlk)
  obtain ⟨hr8, hrcat⟩ := mm_c1_el hc8
  have h99 : ci = 99 := Nat.eq_of_beq_eq_true hrc
  have hbb : ∀ y9 Q9, (mm_me Y y9).1 = [] → mm_D Y B mx d y9 as' σ1 Q9 → B y9 as' σ1 Q9 := by
    intro y9 Q9 he h8
    cases d with
    | zero => exact h8
    | succ d => exact h8.elim id (fun h7 => (mm_W_nil he h7.2).elim)
  by_cases hyM : y' = yM
  · subst hyM
    rcases hB _ _ _ _ (hbb _ _ hMn.2.2.2.2 hC) with ⟨h7, -⟩ | ⟨-, x, z, rfl, hq⟩ | ⟨h7, -⟩
    · exact absurd rfl h7
    · intro H locs ls hP1 hD1 hS1 hl1
      have hq' := hq H locs ls hP1 hD1 hS1 hl1
      have hst' := hts _ (hst h99)
      have hlink' := hts _ hlink
      have hini' := hts _ hini
      have hcode' := hts _ hcode
      dsimp only at hst' hlink' hini' hcode'
      rw [hMn.1] at hst' hlink' hini'
      rw [hMn.1, hMn.2.1, hMn.2.2.1, hMn.2.2.2.1] at hcode'
      exact va_mmax hx hb (hml.trans hl1.1.1.symm) hown hlink' hst' hini' hcode' (by omega) (by show ((r.map (mm_rho ad)).map fun v => v.category).sum + 13 ≤ R.locals; rw [mm_cat_le ad r hrcat]; omega) (Nat.zero_le _) (Nat.zero_le _) hdg hq'
    · exact absurd rfl h7
  by_cases hym : y' = ym
  · subst hym
    rcases hB _ _ _ _ (hbb _ _ hmn.2.2.2.2 hC) with ⟨-, h7, -⟩ | ⟨h7, -⟩ | ⟨-, -, x, z, rfl, hq⟩
    · exact absurd rfl h7
    · exact absurd h7 hyM
    · intro H locs ls hP1 hD1 hS1 hl1
      have hq' := hq H locs ls hP1 hD1 hS1 hl1
      have hst' := hts _ (hst h99)
      have hlink' := hts _ hlink
      have hini' := hts _ hini
      have hcode' := hts _ hcode
      dsimp only at hst' hlink' hini' hcode'
      rw [hmn.1] at hst' hlink' hini'
      rw [hmn.1, hmn.2.1, hmn.2.2.1, hmn.2.2.2.1] at hcode'
      exact va_mmin hx hb (hml.trans hl1.1.1.symm) hown hlink' hst' hini' hcode' (by omega) (by show ((r.map (mm_rho ad)).map fun v => v.category).sum + 13 ≤ R.locals; rw [mm_cat_le ad r hrcat]; omega) (Nat.zero_le _) (Nat.zero_le _) hdg hq'
  have hT := hTT y' as' σ1 _ hyM hym hC
  intro H locs ls hP1 hD1 hS1 hl1
  have hM := hT H.size
  have hstk : (as'.reverse ++ r).map (mm_rho ad) = (as'.map (mm_rho ad)).reverse ++ r.map (mm_rho ad) := by simp
  rw [hstk]
  refine mm_goon (va_runS (As := as'.map (mm_rho ad)) (rest := r.map (mm_rho ad)) (n := n) ⟨hx, hb, hml, hown, hts⟩ hM ⟨callB_of n hts (hG y' hcode) rfl rfl rfl (hts _ hini) (hts _ hlink) hd ⟨hRf, by show 8 + (mx y' + 11) + 40 * d ≤ R.locals; have := hmx; dsimp only at this; omega⟩, hts _ (hst h99)⟩
    ⟨fun a U g mk q => by obtain ⟨q0, q1, qP, qK, qD, qG⟩ := q; exact ⟨q0, q1, qP, va_K.moved (u := U) (U := U.calling g mk a) (Vm.Alike.refl U.vm) qK, qD, mm_G.moved (u := U) (U := U.calling g mk a) (Vm.Alike.refl U.vm) qG⟩, fun U hU hW => ⟨rfl, by rw [hU], by rw [hU]; exact hP1, va_K.moved hW.alike hK, hD1.weaken (fun _ _ _ _ => trivial), by rw [hU]; exact ((hG0.kept hS1.2.1).narrow (fun q h8 => mm_A_in h8 hS1.1)).moved hW.alike⟩⟩
    rfl (by rw [List.length_map]; omega) hl1.1.1 rfl (lv_room (by rw [mm_cat_le ad r hrcat]; exact hr8)) hdg ⟨Nat.zero_le _, Nat.zero_le _⟩) hS1 (fun q hq => mm_A_in hq hS1.1) (fun v σ' H1 locs1 hq hP2 hD2 hS2 => ?_)
  rw [mm_rho_toList]
  exact hq H1 locs1 ls hP2 hD2 hS2 hl1
end MXh
end
section
/-! methods that may throw -/
abbrev mx_C : Type := Nat → List Value → mm_S → mm_Q → (Nat → mm_S → Prop) → Prop
/-- th: where it throws what; xc: where it calls a method that may throw -/
def mx_one (Y : mm_Y) (C : mm_C) (CX : mx_C) (M : mm_M) (th xc : List (Nat × Nat)) (Q : mm_Q) (XQ : Nat → mm_S → Prop) (X : mm_X) : mm_X := fun pc L S σ => match mm_look th pc with
  | some E => mm_c1 8 S = true ∧ XQ E σ
  | none => match mm_look xc pc with
    | some y => match S with
      | [.ref k] => mm_rcv Y 1 0 [.ref k] = true ∧ CX y [.ref k] σ (fun v σ' => X (pc + 3) L v.toList σ') XQ
      | _ => False
    | none => mm_one Y C M Q X pc L S σ
def mx_W (Y : mm_Y) (C : mm_C) (CX : mx_C) (M : mm_M) (th xc : List (Nat × Nat)) (Q : mm_Q) (XQ : Nat → mm_S → Prop) : mm_X := fun pc L S σ => ∀ X : mm_X, (∀ pc L S σ, mx_one Y C CX M th xc Q XQ X pc L S σ → X pc L S σ) → X pc L S σ
def mx_site (Ts : List Cond) (dc : List MethodName) (st : mx_St) (exn : Nat → String) (cc : ByteArray) (own : String) (q : Nat × Nat) : Prop := ∃ (ik is ic ix : Nat) (text Yn : String) (names : List String) (by1 : ByteArray),
  (decode cc q.1 = .ok (.new ik, 3) ∧ decode cc (q.1 + 3) = .ok (.dup, 1) ∧ decode cc (q.1 + 4) = .ok (.ldc is, 2) ∧ decode cc (q.1 + 6) = .ok (.invokespecial ic, 3) ∧ decode cc (q.1 + 9) = .ok (.athrow, 1)) ∧
  (Bundle.fit (exn q.2) = true ∧ Bundle.fit Yn = true ∧ (∀ n ∈ names, Bundle.fit n = true) ∧ names.length ≤ 1) ∧
  (decode by1 0 = .ok (.aload_n 0, 1) ∧ decode by1 1 = .ok (.aload_n 1, 1) ∧ decode by1 2 = .ok (.invokespecial ix, 3) ∧ decode by1 5 = .ok (.return_, 1)) ∧
  Cond.classLink own ik (exn q.2) ∈ Ts ∧ Cond.initialized (exn q.2) ∈ Ts ∧ (own, is, text) ∈ st ∧
  (∀ w ∈ mx_at own ic (exn q.2) Yn ix by1 names, w ∈ Ts ∨ (∃ x ∈ dc, w = .declares x) ∨ w = .laysStatic Bundle.tN "UNASSIGNED_STACK" Bundle.steD ∨ w = .laysStatic Bundle.tN "SUPPRESSED_SENTINEL" Bundle.listD ∨ w = .isRef (.static Bundle.tN "UNASSIGNED_STACK" Bundle.steD) ∨ w = .isRef (.static Bundle.tN "SUPPRESSED_SENTINEL" Bundle.listD))
def mx_xok (Ts : List Cond) (nm : Nat → MethodName) (by_ : Nat → ByteArray) (mx : Nat → Nat) (cl : List vw_C) (cc : ByteArray) (own : String) (q : Nat × Nat) : Prop := ∃ (idx : Nat), decode cc q.1 = .ok (.invokevirtual idx, 3) ∧ mx q.2 ≤ 21 ∧ Cond.code (nm q.2) (by_ q.2) (mx q.2) none ∈ Ts ∧ Cond.methodLink own idx (nm q.2) ∈ Ts ∧ Cond.initialized (nm q.2).cls ∈ Ts ∧
  ((nm q.2).cls ≠ "java/lang/invoke/MethodHandle" ∧ (nm q.2).cls ≠ "java/lang/invoke/VarHandle") ∧ (parseMethodDescriptor (nm q.2).desc).map (fun d => d.parameters.length) = some 0 ∧ Cond.instanceMethod (nm q.2) ∈ Ts ∧ Cond.selects (nm q.2).cls (nm q.2) (nm q.2) ∈ Ts ∧ ∃ T N, cl[0]? = some ((nm q.2).cls, T, N)
def mx_rm (d : Nat) : Room := { frames := d + 8, cells := 1, slots := 6, locals := 40 * d + 200 }
def mx_ws (Ts : List Cond) (nm : Nat → MethodName) (by_ : Nat → ByteArray) (mx : Nat → Nat) (ret : Nat) (y : Nat) : List Cond := .code (nm y) (by_ y) (mx y) (mm_rty ret) :: Ts
def mx_T (l : Launch) (Ts : List Cond) (nm : Nat → MethodName) (by_ : Nat → ByteArray) (mx : Nat → Nat) (D : va_G) (cl : List vw_C) (tys : List (ClassId × FieldType)) (ad : Nat → Nat) (a3 : ClassId × ClassId × ClassId) (Y : mm_Y) (dc : List MethodName) (st : mx_St) (sa : Nat → Nat) (exn : Nat → String) (ret d y : Nat) (as : List Value) (σ : mm_S) (Q : mm_Q) (XQ : Nat → mm_S → Prop) : Prop :=
  ∀ sz, MetFree l (nm y) (headSpec (mx_ws Ts nm by_ mx ret y) (mx_rm d)) (va_Pc (as.map (mm_rho ad)) (fun U => mm_B D cl tys ad a3 Y σ sz U ∧ mx_N dc st sa (va_A (mm_wd ad a3 Y σ) sz) U U.heap)) (fun _ _ _ _ _ => True) (mx_Q D cl tys (va_A (mm_wd ad a3 Y σ) sz) ad a3 Y exn Q XQ)
theorem mx_nostat {D : va_G} {cl : List vw_C} {ws : va_W} {H : Heap} (hP : va_P D cl ws H) {q : Nat} {cell : Cell} (h : va_A ws H.size q) (hc : H[q]? = some cell) : cell.vm.isStatics = false := by
  rcases h with ⟨k, e9, h9⟩ | h9
  · have h8 := hP k (q, e9) h9
    cases e9 with
    | inl a =>
      have h7 : H[q]? = some (vp_cell a.1 a.2) := h8
      cases Option.some.inj (hc.symm.trans h7)
      obtain ⟨cA, n, z⟩ := a
      rcases z with z | z | z | z | z <;> rfl
    | inr o =>
      obtain ⟨r, -, cell', h1, -, h3, -⟩ := h8
      cases Option.some.inj (hc.symm.trans h1)
      rw [h3]; rfl
  · have := (Array.getElem?_eq_some_iff.mp hc).1
    omega
section MXs
variable {l : Launch} {Ts : List Cond} {nm : Nat → MethodName} {by_ : Nat → ByteArray} {mx : Nat → Nat} {D : va_G} {cl : List vw_C} {cI cZ cG : ClassId} {ad : Nat → Nat} {Y : mm_Y} {B : mm_C} {yM ym d : Nat} {dc : List MethodName} {st : mx_St} {sa : Nat → Nat} {exn : Nat → String} {nx : Nat → MethodName} {bx : Nat → ByteArray} {mxx : Nat → Nat}
set_option maxHeartbeats 4000000 in
theorem mx_sound (hl : l.stackTraces = false) (hgood : ∀ w ∈ Ts, goodWord w = true)
    (hMn : nm yM = Lib.Math.max.name ∧ by_ yM = Lib.Math.max.code ∧ mx yM = 2 ∧ (mm_me Y yM).2.2.2.2 = 1 ∧ (mm_me Y yM).1 = []) (hmn : nm ym = Lib.Math.min.name ∧ by_ ym = Lib.Math.min.code ∧ mx ym = 2 ∧ (mm_me Y ym).2.2.2.2 = 1 ∧ (mm_me Y ym).1 = [])
    (hB : ∀ y as σ Q, B y as σ Q → (y ≠ yM ∧ y ≠ ym ∧ ∀ d, mm_T l Ts nm by_ mx D cl [(cI, .int), (cZ, .boolean), (cG, .array .int)] ad (cI, cZ, cG) Y d y as σ Q) ∨ (y = yM ∧ ∃ x z, as = [.int x, .int z] ∧ Q (some (.int (if x < z then z else x))) σ) ∨ (y ≠ yM ∧ y = ym ∧ ∃ x z, as = [.int x, .int z] ∧ Q (some (.int (if z < x then z else x))) σ))
    (hTT : ∀ y as σ Q, y ≠ yM → y ≠ ym → mm_D Y B mx d y as σ Q → mm_T l Ts nm by_ mx D cl [(cI, .int), (cZ, .boolean), (cG, .array .int)] ad (cI, cZ, cG) Y d y as σ Q)
    {y : Nat} {M : mm_M} {th xc : List (Nat × Nat)} {CX : mx_C} {as : List Value} {σ : mm_S} {Q : mm_Q} {XQ : Nat → mm_S → Prop}
    (hpl : plainName (nx y).cls = true) (hE : M.1.all (mm_okE (bx y)) = true) (hg : ∀ q ∈ M.2.1, mm_gok cl Ts (nx y).cls q.1 q.2.1 q.2.2) (hp : ∀ q ∈ M.2.2.1, mm_pok Y cl Ts (nx y).cls q.1 q.2.1 q.2.2) (hk : ∀ q ∈ M.2.2.2.1, mm_kok Ts nm by_ mx cl Y (nx y).cls q)
    (hld : ∀ (pc idx len t : Nat) (v : Int32), mm_look M.1 pc = some (.ldc_w idx, len, t, v) → Cond.constant (nx y).cls idx v ∈ Ts) (hth : ∀ q ∈ th, mx_site Ts dc st exn (bx y) (nx y).cls q) (hxc : ∀ q ∈ xc, mx_xok Ts nx bx mxx cl (bx y) (nx y).cls q)
    (hCX : ∀ y' as' σ' Q' XQ', CX y' as' σ' Q' XQ' → ∃ d', d' < d ∧ mx_T l Ts nx bx mxx D cl [(cI, .int), (cZ, .boolean), (cG, .array .int)] ad (cI, cZ, cG) Y dc st sa exn 0 d' y' as' σ' Q' XQ')
    (hc1 : mm_c1 (mxx y) as = true) (h : mx_W Y (mm_D Y B mx d) CX M th xc Q XQ 0 (mm_ent (mxx y) as) [] σ) :
    mx_T l Ts nx bx mxx D cl [(cI, .int), (cZ, .boolean), (cG, .array .int)] ad (cI, cZ, cG) Y dc st sa exn M.2.2.2.2 d y as σ Q XQ := by
  obtain ⟨hlen, hcat⟩ := mm_c1_el hc1
  intro sz
  refine MetFree.of_bodyS (code := bx y) (maxLocals := mxx y) (ret := mm_rty M.2.2.2.2) hpl ?_ ?_
  · intro args s m hpre hn
    obtain ⟨meth, c, h1, h2, h3, h4, h5, h6, -, -⟩ := Cond.code_spec hn (atoms_spec (ws := mx_ws Ts nx bx mxx M.2.2.2.2 y) hpre _ List.mem_cons_self)
    exact ⟨meth, c, h1, h2, h3, h4, h5, h6⟩
  intro p e s m args below meth c s₁ B0 hml hv _
  obtain ⟨rfl, ⟨hsz, hP, hK, hD0, hG0⟩, hN⟩ := hv
  have hh0 : s₁.heap = s.heap := by rw [B0.state]; rfl
  have hts0 := atoms_spec (ws := mx_ws Ts nx bx mxx M.2.2.2.2 y) B0.pre
  have hout : ∀ (pc : Nat), ∀ x ∈ c.exceptionTable.toList, covers x pc = false := by
    obtain ⟨meth9, c9, h1, h2, -, -, -, -, h7, -⟩ := Cond.code_spec B0.named (hts0 _ List.mem_cons_self)
    cases Option.some.inj (h1.symm.trans B0.method)
    cases Option.some.inj (h2.symm.trans (Stand.of_body B0).code)
    intro pc x hx
    rw [Array.isEmpty_iff.mp h7] at hx
    cases hx
  have hx := B0.exec
  have hb := B0.bytes
  have hr := B0.returns
  have hlocks := B0.notSynchronized
  have hts : ∀ w ∈ Ts, w.before (as.map (mm_rho ad)).toArray s = true := fun w hw => hts0 w (List.mem_cons_of_mem _ hw)
  have hown : s.vm.findClass (nx y).cls = some m.cls := findClass_of_methodNamed B0.named
  have hG : ∀ y', Cond.code (nm y') (by_ y') (mx y') (mm_rty (mm_me Y y').2.2.2.2) ∈ Ts → GoodIn Ts (mm_ws Ts nm by_ mx Y y') := fun y' hy' w hw => by
    rcases List.mem_cons.mp hw with h9 | h9
    · subst h9
      exact ⟨hy', good_of_word (hgood _ hy')⟩
    · exact ⟨h9, good_of_word (hgood _ h9)⟩
  subst hsz
  have hD := hD0.self (sz := s.heap.size)
  have hA : ∀ q, s.heap.size ≤ q → va_A (mm_wd ad (cI, cZ, cG) Y σ) s.heap.size q := fun q h => Or.inr h
  have hcat' : ∀ v ∈ as.map (mm_rho ad), v.category = 1 := fun v hv => by
    obtain ⟨w, hw, rfl⟩ := List.mem_map.mp hv
    rw [mm_rho_cat]
    exact hcat w hw
  have hl0 := lv_entry (as.map (mm_rho ad)) (n := mxx y) (by rw [mm_sl_len _ hcat', List.length_map]; exact hlen)
  have body : W p l e (mx_rm d) s m (as.map (mm_rho ad)).toArray below meth c s.heap [] 0 0 (fun t => ∃ o, t.status = .running ∧ Ended t below o ∧ mx_Q D cl [(cI, .int), (cZ, .boolean), (cG, .array .int)] (va_A (mm_wd ad (cI, cZ, cG) Y σ) s.heap.size) ad (cI, cZ, cG) Y exn Q XQ (as.map (mm_rho ad)).toArray s o t) (entryFrame m (as.map (mm_rho ad)).toArray (mxx y)) := by
    rw [lg_entry_eq]
    generalize (lg_sl (as.map (mm_rho ad)) ++ List.replicate (mxx y - (lg_sl (as.map (mm_rho ad))).length) Slot.unset).toArray = ls0 at hl0 ⊢
    have hlh : mm_lh ad ls0 (mxx y) (mm_ent (mxx y) as) := by
      refine ⟨?_, ?_, fun k v hk => hcat v (mm_nth_ent hk)⟩
      · unfold mm_ent
        rw [mm_args_ll ad as 0 _ hcat]
        exact hl0
      · unfold mm_ent
        rw [List.length_append, List.length_map, List.length_replicate]
        omega
    have hQf : ∀ t, MQ below (mm_Qc D cl [(cI, .int), (cZ, .boolean), (cG, .array .int)] (va_A (mm_wd ad (cI, cZ, cG) Y σ) s.heap.size) ad (cI, cZ, cG) Y Q) (as.map (mm_rho ad)).toArray s 0 0 (va_A (mm_wd ad (cI, cZ, cG) Y σ) s.heap.size) t → ∃ o, t.status = .running ∧ Ended t below o ∧ mx_Q D cl [(cI, .int), (cZ, .boolean), (cG, .array .int)] (va_A (mm_wd ad (cI, cZ, cG) Y σ) s.heap.size) ad (cI, cZ, cG) Y exn Q XQ (as.map (mm_rho ad)).toArray s o t := by
      rintro t ⟨o, hrun, hend, ⟨⟨v, σ9, hq, ho, hP9, hD9, hK9⟩, hF9⟩, L, ⟨-, hW9, hs9⟩, hL⟩
      exact ⟨o, hrun, hend, Or.inl ⟨v, σ9, L, ho, hq, hP9, hD9, hK9, hF9, hW9, hs9, hL⟩⟩
    have hV := h (mm_V p l e (mx_rm d) s m (as.map (mm_rho ad)).toArray below meth c D cl (va_A (mm_wd ad (cI, cZ, cG) Y σ) s.heap.size) ad (cI, cZ, cG) Y (mxx y) (fun t => ∃ o, t.status = .running ∧ Ended t below o ∧ mx_Q D cl [(cI, .int), (cZ, .boolean), (cG, .array .int)] (va_A (mm_wd ad (cI, cZ, cG) Y σ) s.heap.size) ad (cI, cZ, cG) Y exn Q XQ (as.map (mm_rho ad)).toArray s o t)) ?_
    · exact hV s.heap [] ls0 hP hD va_S.rf hlh
    intro pc L S σ1 hone
    unfold mx_one at hone
    split at hone
    · rename_i E hlk
      obtain ⟨hc8, hXQ⟩ := hone
      obtain ⟨hr8, hrcat⟩ := mm_c1_el hc8
      obtain ⟨ik, is, ic, ix, text, Yn, names, by1, ⟨d0, d3, d4, d6, d9⟩, ⟨f1, f2, f3, f4⟩, ⟨e0, e1, e2, e5⟩, hclk, hini, hst, hat⟩ := hth _ (mm_look_mem hlk)
      dsimp only at d0 d3 d4 d6 d9 f1 hclk hini hat
      intro H locs ls hP1 hD1 hS1 hl1
      have hvk := hN.2.1 _ hst
      refine mx_throw (A := va_A (mm_wd ad (cI, cZ, cG) Y σ) s.heap.size) (ik := ik) (is := is) (ic := ic) (ix := ix) (text := text) (Yn := Yn) (names := names) (by1 := by1) (cls := exn E) (sa := sa is) hx hb hl hown f1 f2 f3 e0 e1 e2 e5 (hts _ hclk) (hts _ hini) hvk.1 hvk.2 ?_ ?_ hS1 hA (hl1.1.1.trans hml.symm) d0 d3 d4 d6 d9 (hout _) (by show names.length + 4 < d + 8; omega) (by show ((S.map (mm_rho ad)).map fun v => v.category).sum + _ ≤ 40 * d + 200; rw [mm_cat_le ad S hrcat]; omega) (by show 0 + 1 ≤ 1; omega) (by show 0 + 6 ≤ 6; omega) hlocks ?_
      · intro w hw
        rcases hat w hw with h1 | ⟨x, hx1, rfl⟩ | rfl | rfl | rfl | rfl
        · exact hts w h1
        · exact va_Nw.use rfl (hN.1 x hx1)
        · exact hN.2.2.1.lays
        · exact hN.2.2.2.lays
        · exact hN.2.2.1.isRef
        · exact hN.2.2.2.isRef
      · intro x hx1 cell hcell
        exact mx_nostat hP (hS1.2.2 x hx1) hcell
      · intro U q ce L9 hrun hend hW hsm hL9 hce hcv hcl hgr hold
        refine ⟨.threw q, hrun, hend, Or.inr ⟨q, E, σ1, ce, L9, rfl, hXQ, hce, hcv, hcl, ?_, hD1, va_K.moved hW.alike hK, ⟨Nat.le_trans hS1.1 hgr, fun x h1 h2 => ?_⟩, hW, hsm, hL9⟩⟩
        · exact hP1.kept (fun k x hk => hold x.1 ((hP1 k x hk).lt))
        · rw [hold x (Nat.lt_of_lt_of_le h1 hS1.1)]
          exact hS1.2.1 x h1 h2
    · split at hone
      · rename_i y' hlk
        split at hone
        · rename_i k
          obtain ⟨hrc, hcx⟩ := hone
          obtain ⟨k9, r9, fs, ek, hkd, -⟩ := mm_rcv_el hrc
          cases ek
          obtain ⟨idx, hdg, hmx, hcode, hlink, hini, hnm, hdesc, hinst, hsel, Tc, Nc, hclc⟩ := hxc _ (mm_look_mem hlk)
          dsimp only at hdg hmx hcode hlink hini hnm hdesc hinst hsel hclc
          obtain ⟨d', hdd, hT⟩ := hCX _ _ _ _ _ hcx
          intro H locs ls hP1 hD1 hS1 hl1
          have he : (mm_wd ad (cI, cZ, cG) Y σ1)[k]? = some (ad k, .inr (0, mm_fv ad (σ1 k) 0 fs)) := by
            rw [mm_wd_get (mm_kd_lt (by rw [hkd]; exact fun z => nomatch z))]; simp only [mm_ce, hkd]
          have hws : ∀ w ∈ mx_ws Ts nx bx mxx 0 y', ∀ (a' : Array Value) (U : State), s.WarmedH U.vm → w.before a' U = true := fun w hw a' U hW => by
            rcases List.mem_cons.mp hw with h9 | h9
            · subst h9
              exact word_at hW (good_of_word (hgood _ hcode)) (hts _ hcode)
            · exact word_at hW (good_of_word (hgood _ h9)) (hts _ h9)
          refine mx_callV (A1 := va_A (mm_wd ad (cI, cZ, cG) Y σ1) H.size) (n := 0) (b := ad k) (As := []) (rest := []) (rm := mx_rm d') hx hb hown (hts _ hlink) (hts _ hinst) (hts _ hsel) (hts _ hcode) (fun a' U hW => word_at hW (good_of_word (hgood _ hini)) (hts _ hini)) hnm hdesc rfl (hT H.size) hws (va_recv hK hP1 hclc he)
            (fun U g mk hU hW => ⟨rfl, ⟨by show U.heap.size = H.size; rw [hU], by show va_P D cl _ U.heap; rw [hU]; exact hP1, va_K.moved (u := U) (U := U.calling g mk _) (Vm.Alike.refl U.vm) (va_K.moved hW.alike hK), hD1.weaken (fun _ _ _ _ => trivial), mm_G.moved (u := U) (U := U.calling g mk _) (Vm.Alike.refl U.vm) (by show mm_G ad _ U U.heap; rw [hU]; exact ((hG0.kept hS1.2.1).narrow (fun q h8 => mm_A_in h8 hS1.1)).moved hW.alike)⟩, by
              have h9 : mx_N dc st sa (va_A (mm_wd ad (cI, cZ, cG) Y σ1) H.size) U U.heap := by
                rw [hU]
                exact ((hN.kept hS1.2.1).narrow (fun q hq h8 => mm_A_in h8 hS1.1)).moved hW
              exact mx_N.same (u := U) rfl h9⟩)
            (hl1.1.1.trans hml.symm) (by simp) hdg (by show d' + 8 + 1 ≤ d + 8; omega) (by show 8 + (mxx y' + 11) + (40 * d' + 200) ≤ 40 * d + 200; omega) (by show 0 + 1 ≤ 1; omega) (by show 0 + 6 ≤ 6; omega) hS1 (fun q hq => mm_A_in hq hS1.1) ?_ ?_
          · intro v σ' H1 locs1 hq hP2 hD2 hS2 hgr hkeep
            have h9 := hq H1 locs1 ls hP2 (hD2.weaken (fun _ _ _ h8 => mm_A_in h8 hS1.1)) hS2 hl1
            have h8 : (v.map (mm_rho ad)).toList ++ [] = v.toList.map (mm_rho ad) := by cases v <;> rfl
            rw [h8]
            exact h9
          · intro q E σ' ce H1 locs1 hxq hce hcv hcl hP2 hD2 hS2 hgr hkeep
            refine mx_out (hout _) hlocks (fun U hrun hend hW hsm hU => ⟨.threw q, hrun, hend, Or.inr ⟨q, E, σ', ce, locs1, rfl, hxq, by rw [hU]; exact hce, hcv, hcl, by rw [hU]; exact hP2, hD2.weaken (fun _ _ _ h8 => mm_A_in h8 hS1.1), va_K.moved hW.alike hK, ?_, hW, hsm, hS2.2.2⟩⟩)
            exact hS2.F hU
        · exact hone.elim
      · exact mm_step (own := (nx y).cls) (Ts := Ts) hQf hx hb hown hts hK rfl rfl rfl hr hlocks hE (fun idx ci j hq => hg _ (mm_look_mem hq)) (fun idx ci j hq => hp _ (mm_look_mem hq)) hld
          (mx_hc1 hMn hmn hB hTT hx hb hml hown hts hK hG hk (by show d + 1 ≤ d + 8; omega) (by show 40 * (d + 1) ≤ 40 * d + 200; omega) hG0)
          (mx_hc0 hMn hmn hB hTT hx hb hml hown hts hK hG hk (by show d + 1 ≤ d + 8; omega) (by show 40 * (d + 1) ≤ 40 * d + 200; omega) hG0) pc L S σ1 hone
  obtain ⟨t, a1, o, b1, b2, b3⟩ := body s₁ hh0 (Stand.of_body B0)
  exact ⟨t, o, a1, b1, b2, b3⟩
end MXs
end
section
/-! the same with more cells beside, and counts of what has been made: for the law's own walk -/
def lx_wd (ad : Nat → Nat) (a3 : ClassId × ClassId × ClassId) (Y : mm_Y) (ext : va_W) (σ : mm_S) : va_W := mm_wd ad a3 Y σ ++ ext
theorem lx_wd_get {ad : Nat → Nat} {a3 : ClassId × ClassId × ClassId} {Y : mm_Y} {ext : va_W} {σ : mm_S} {k : Nat} (h : k < Y.1.length) : (lx_wd ad a3 Y ext σ)[k]? = some (ad k, mm_ce ad a3 Y σ k) := by
  unfold lx_wd
  rw [List.getElem?_append_left (by simpa [mm_wd] using h)]
  exact mm_wd_get h
theorem lx_wd_set {ad : Nat → Nat} {a3 : ClassId × ClassId × ClassId} {Y : mm_Y} {ext : va_W} {σ : mm_S} {k j : Nat} {x : Int32} {e : va_E} (h : k < Y.1.length) (he : mm_ce ad a3 Y (mm_up σ k j x) k = e) : (lx_wd ad a3 Y ext σ).set k (ad k, e) = lx_wd ad a3 Y ext (mm_up σ k j x) := by
  unfold lx_wd
  rw [List.set_append_left _ _ (by simpa [mm_wd] using h), mm_wd_set he]
def lx_V (p : Program) (l : Launch) (e : Env) (R : Room) (s : State) (m : MethodId) (args : Array Value) (below : List Frame) (meth : Method) (c : Code) (D : va_G) (cl : List vw_C) (A : Nat → Prop) (ad : Nat → Nat) (a3 : ClassId × ClassId × ClassId) (Y : mm_Y) (nL : Nat) (Qf : State → Prop) (ext : va_W) (ce sl : Nat) : mm_X := fun pc L S σ =>
  ∀ (H : Heap) (locs : List Loc) (ls : Array Slot), va_P D cl (lx_wd ad a3 Y ext σ) H → va_D A (lx_wd ad a3 Y ext σ) → va_S A s.heap H locs → mm_lh ad ls nL L → W p l e R s m args below meth c H locs ce sl Qf (F0 m pc ls (S.map (mm_rho ad)))
section LXstep
variable {p : Program} {l : Launch} {e : Env} {R : Room} {s : State} {m : MethodId} {args : Array Value} {below : List Frame} {meth : Method} {c : Code} {D : va_G} {cl : List vw_C} {A : Nat → Prop} {ad : Nat → Nat} {cI cZ cG : ClassId} {CG : String} {Y : mm_Y} {nL : Nat} {M : mm_M} {C : mm_C} {Q : mm_Q} {cc : ByteArray} {Ts : List Cond} {own : String} {tys : List (ClassId × FieldType)} {ext : va_W} {ce sl : Nat}
set_option maxHeartbeats 4000000 in
theorem lx_mstep {Qf : State → Prop} (hret : M.2.2.2.2 = 7) (hx : p.tables.exec = Jvm.exec) (hb : c.code = cc) (hown : s.vm.findClass own = some m.cls) (hts : ∀ w ∈ Ts, w.before args s = true) (hK : va_K D cl tys s) (htI : tys[0]? = some (cI, .int)) (htZ : tys[1]? = some (cZ, .boolean)) (htG : tys[2]? = some (cG, .array .int))
    (htab : M.1.all (mm_okE cc) = true) (hg : ∀ idx ci j, mm_look M.2.1 idx = some (ci, j) → mm_gok cl Ts own idx ci j) (hp : ∀ idx ci j, mm_look M.2.2.1 idx = some (ci, j) → mm_pok Y cl Ts own idx ci j)
    (hld : ∀ (pc idx len t : Nat) (v : Int32), mm_look M.1 pc = some (.ldc_w idx, len, t, v) → Cond.constant own idx v ∈ Ts)
    (hc1 : ∀ (pc idx : Nat) (L : List (Option Value)) (S : List Value) (σ : mm_S), decode cc pc = .ok (.invokevirtual idx, 3) → mm_call Y C M idx 1 S σ (fun S' σ' => lx_V p l e R s m args below meth c D cl A ad (cI, cZ, cG) Y nL Qf ext ce sl (pc + 3) L S' σ') → lx_V p l e R s m args below meth c D cl A ad (cI, cZ, cG) Y nL Qf ext ce sl pc L S σ)
    (hc0 : ∀ (pc idx : Nat) (L : List (Option Value)) (S : List Value) (σ : mm_S), decode cc pc = .ok (.invokestatic idx, 3) → mm_call Y C M idx 0 S σ (fun S' σ' => lx_V p l e R s m args below meth c D cl A ad (cI, cZ, cG) Y nL Qf ext ce sl (pc + 3) L S' σ') → lx_V p l e R s m args below meth c D cl A ad (cI, cZ, cG) Y nL Qf ext ce sl pc L S σ) :
    ∀ pc L S σ, mm_one Y C M Q (lx_V p l e R s m args below meth c D cl A ad (cI, cZ, cG) Y nL Qf ext ce sl) pc L S σ → lx_V p l e R s m args below meth c D cl A ad (cI, cZ, cG) Y nL Qf ext ce sl pc L S σ := by
  intro pc L S σ h
  generalize hV : lx_V p l e R s m args below meth c D cl A ad (cI, cZ, cG) Y nL Qf ext ce sl = V at h hc1 hc0 ⊢
  have hVd : ∀ pc L S σ, V pc L S σ ↔ ∀ (H : Heap) (locs : List Loc) (ls : Array Slot), va_P D cl (lx_wd ad (cI, cZ, cG) Y ext σ) H → va_D A (lx_wd ad (cI, cZ, cG) Y ext σ) → va_S A s.heap H locs → mm_lh ad ls nL L → W p l e R s m args below meth c H locs ce sl Qf (F0 m pc ls (S.map (mm_rho ad))) := by
    intro pc L S σ; rw [← hV]; exact Iff.rfl
  unfold mm_one at h
  cases hI : mm_look M.1 pc with
  | none => simp only [hI] at h
  | some q =>
    obtain ⟨i, len, t, cs⟩ := q
    have hq := List.all_eq_true.mp htab _ (mm_look_mem hI)
    simp only [mm_okE, Bool.and_eq_true, decide_eq_true_eq] at hq
    obtain ⟨hdg, hcst⟩ := hq
    simp only [hI] at h
    cases i
    case iload_n k =>
      replace h := mm_ldi_el h
      obtain ⟨x, h1, h⟩ := h
      rw [hVd] at h ⊢
      intro H locs ls hP hD hS hl
      exact lv_iload_n hx hb hdg rfl (mm_lh_at hl h1) (h H locs ls hP hD hS hl)
    case iload k =>
      replace h := mm_ldi_el h
      obtain ⟨x, h1, h⟩ := h
      rw [hVd] at h ⊢
      intro H locs ls hP hD hS hl
      exact lv_iload hx hb hdg (mm_lh_at hl h1) (h H locs ls hP hD hS hl)
    case aload_n k =>
      replace h := mm_lda_el h
      obtain ⟨x, h1, h⟩ := h
      rw [hVd] at h ⊢
      intro H locs ls hP hD hS hl
      exact lv_aload_n hx hb hdg rfl (mm_lh_at hl h1) (h H locs ls hP hD hS hl)
    case aload k =>
      replace h := mm_lda_el h
      obtain ⟨x, h1, h⟩ := h
      rw [hVd] at h ⊢
      intro H locs ls hP hD hS hl
      exact lv_aload hx hb hdg (mm_lh_at hl h1) (h H locs ls hP hD hS hl)
    case istore_n k =>
      replace h := mm_1_el h
      obtain ⟨x, r, rfl, h⟩ := h
      replace h := mm_sto_el h
      obtain ⟨hi, h⟩ := h
      rw [hVd] at h ⊢
      intro H locs ls hP hD hS hl
      have hn : k.val < nL := by rw [← hl.2.1]; exact hi
      exact lv_istore_n hx hb hdg rfl hl.1 hn rfl (fun ls' h' => h H locs ls' hP hD hS (mm_lh_set hl hn rfl h'))
    case istore k =>
      replace h := mm_1_el h
      obtain ⟨x, r, rfl, h⟩ := h
      replace h := mm_sto_el h
      obtain ⟨hi, h⟩ := h
      rw [hVd] at h ⊢
      intro H locs ls hP hD hS hl
      have hn : k < nL := by rw [← hl.2.1]; exact hi
      exact lv_istore hx hb hdg hl.1 hn rfl (fun ls' h' => h H locs ls' hP hD hS (mm_lh_set hl hn rfl h'))
    case astore_n k =>
      replace h := mm_r_el h
      obtain ⟨x, r, rfl, h⟩ := h
      replace h := mm_sto_el h
      obtain ⟨hi, h⟩ := h
      rw [hVd] at h ⊢
      intro H locs ls hP hD hS hl
      have hn : k.val < nL := by rw [← hl.2.1]; exact hi
      exact lv_astore_n hx hb hdg rfl hl.1 hn rfl (fun ls' h' => h H locs ls' hP hD hS (mm_lh_set (v := .ref x) hl hn rfl h'))
    case astore k =>
      replace h := mm_r_el h
      obtain ⟨x, r, rfl, h⟩ := h
      replace h := mm_sto_el h
      obtain ⟨hi, h⟩ := h
      rw [hVd] at h ⊢
      intro H locs ls hP hD hS hl
      have hn : k < nL := by rw [← hl.2.1]; exact hi
      exact lv_astore hx hb hdg hl.1 hn rfl (fun ls' h' => h H locs ls' hP hD hS (mm_lh_set (v := .ref x) hl hn rfl h'))
    case iinc k n =>
      replace h := mm_ldi_el h
      obtain ⟨x, h1, h⟩ := h
      replace h := mm_sto_el h
      obtain ⟨hi, h⟩ := h
      rw [hVd] at h ⊢
      intro H locs ls hP hD hS hl
      have hn : k < nL := by rw [← hl.2.1]; exact hi
      have hcs : Int32.ofInt n = cs := of_decide_eq_true hcst
      have hm := mm_ll_mem ad L 0 k (.int x) h1
      rw [Nat.zero_add] at hm
      obtain ⟨q, hq⟩ := List.getElem?_of_mem hm
      exact lv_iinc (k := q) hx hb hdg hl.1 hq (by rw [hcs]) hn rfl (fun ls' h' => h H locs ls' hP hD hS (mm_lh_set (v := .int (x + cs)) hl hn rfl h'))
    case iconst n =>
      replace h := (hVd (pc + 1) L (.int cs :: S) σ).mp h
      rw [hVd]
      intro H locs ls hP hD hS hl
      exact lv_iconst hx hb hdg (of_decide_eq_true hcst) (h H locs ls hP hD hS hl)
    case bipush n =>
      replace h := (hVd (pc + 2) L (.int cs :: S) σ).mp h
      rw [hVd]
      intro H locs ls hP hD hS hl
      exact lv_bipush hx hb hdg (of_decide_eq_true hcst) (h H locs ls hP hD hS hl)
    case sipush n =>
      replace h := (hVd (pc + 3) L (.int cs :: S) σ).mp h
      rw [hVd]
      intro H locs ls hP hD hS hl
      exact lv_sipush hx hb hdg (of_decide_eq_true hcst) (h H locs ls hP hD hS hl)
    case iadd =>
      replace h := mm_2_el h
      obtain ⟨x, y, r, rfl, h⟩ := h
      rw [hVd] at h ⊢
      intro H locs ls hP hD hS hl
      exact lv_iadd hx hb hdg (h H locs ls hP hD hS hl)
    case isub =>
      replace h := mm_2_el h
      obtain ⟨x, y, r, rfl, h⟩ := h
      rw [hVd] at h ⊢
      intro H locs ls hP hD hS hl
      exact lv_isub hx hb hdg (h H locs ls hP hD hS hl)
    case imul =>
      replace h := mm_2_el h
      obtain ⟨x, y, r, rfl, h⟩ := h
      rw [hVd] at h ⊢
      intro H locs ls hP hD hS hl
      exact lv_imul hx hb hdg (h H locs ls hP hD hS hl)
    case iand =>
      replace h := mm_2_el h
      obtain ⟨x, y, r, rfl, h⟩ := h
      rw [hVd] at h ⊢
      intro H locs ls hP hD hS hl
      exact lv_iand hx hb hdg (h H locs ls hP hD hS hl)
    case ior =>
      replace h := mm_2_el h
      obtain ⟨x, y, r, rfl, h⟩ := h
      rw [hVd] at h ⊢
      intro H locs ls hP hD hS hl
      exact lv_ior hx hb hdg (h H locs ls hP hD hS hl)
    case ixor =>
      replace h := mm_2_el h
      obtain ⟨x, y, r, rfl, h⟩ := h
      rw [hVd] at h ⊢
      intro H locs ls hP hD hS hl
      exact lv_ixor hx hb hdg (h H locs ls hP hD hS hl)
    case ishl =>
      replace h := mm_2_el h
      obtain ⟨x, y, r, rfl, h⟩ := h
      rw [hVd] at h ⊢
      intro H locs ls hP hD hS hl
      exact lv_ishl hx hb hdg (h H locs ls hP hD hS hl)
    case ishr =>
      replace h := mm_2_el h
      obtain ⟨x, y, r, rfl, h⟩ := h
      rw [hVd] at h ⊢
      intro H locs ls hP hD hS hl
      exact lv_ishr hx hb hdg (h H locs ls hP hD hS hl)
    case iushr =>
      replace h := mm_2_el h
      obtain ⟨x, y, r, rfl, h⟩ := h
      rw [hVd] at h ⊢
      intro H locs ls hP hD hS hl
      exact lv_iushr hx hb hdg rfl (h H locs ls hP hD hS hl)
    case idiv =>
      replace h := mm_2_el h
      obtain ⟨x, y, r, rfl, hne, h⟩ := h
      rw [hVd] at h ⊢
      intro H locs ls hP hD hS hl
      exact lv_idiv hx hb hdg hne (h H locs ls hP hD hS hl)
    case irem =>
      replace h := mm_2_el h
      obtain ⟨x, y, r, rfl, hne, h⟩ := h
      rw [hVd] at h ⊢
      intro H locs ls hP hD hS hl
      exact lv_irem hx hb hdg hne (h H locs ls hP hD hS hl)
    case dup =>
      replace h := mm_d1_el h
      obtain ⟨v, r, rfl, hv, h⟩ := h
      rw [hVd] at h ⊢
      intro H locs ls hP hD hS hl
      exact lv_dup hx hb hdg (by rw [mm_rho_cat]; exact hv) (h H locs ls hP hD hS hl)
    case dup2 =>
      replace h := mm_d2_el h
      obtain ⟨v, w, r, rfl, hv, hw, h⟩ := h
      rw [hVd] at h ⊢
      intro H locs ls hP hD hS hl
      exact lv_dup2_11 hx hb hdg (by rw [mm_rho_cat]; exact hv) (by rw [mm_rho_cat]; exact hw) (h H locs ls hP hD hS hl)
    case pop =>
      replace h := mm_d1_el h
      obtain ⟨v, r, rfl, hv, h⟩ := h
      rw [hVd] at h ⊢
      intro H locs ls hP hD hS hl
      exact lv_pop hx hb hdg (by rw [mm_rho_cat]; exact hv) (h H locs ls hP hD hS hl)
    case iaload =>
      replace h := mm_ir_el h
      obtain ⟨j, k, r, rfl, hia, h⟩ := h
      obtain ⟨n, fs, hkd, hin⟩ := mm_ia_el hia
      rw [hVd] at h ⊢
      intro H locs ls hP hD hS hl
      have he : (lx_wd ad (cI, cZ, cG) Y ext σ)[k]? = some (ad k, .inl (cI, n, .inl (σ k))) := by
        rw [lx_wd_get (mm_kd_lt (by rw [hkd]; exact fun z => nomatch z))]; simp only [mm_ce, hkd]
      exact va_iald hx hb hK hP k 0 he htI hin hdg (h H locs ls hP hD hS hl)
    case baload =>
      replace h := mm_ir_el h
      obtain ⟨j, k, r, rfl, hia, h⟩ := h
      obtain ⟨n, fs, hkd, hin⟩ := mm_za_el hia
      rw [hVd] at h ⊢
      intro H locs ls hP hD hS hl
      have he : (lx_wd ad (cI, cZ, cG) Y ext σ)[k]? = some (ad k, .inl (cZ, n, .inl (σ k))) := by
        rw [lx_wd_get (mm_kd_lt (by rw [hkd]; exact fun z => nomatch z))]; simp only [mm_ce, hkd]
      exact va_zald hx hb hK hP k 1 he htZ hin hdg (h H locs ls hP hD hS hl)
    case aaload =>
      replace h := mm_ir_el h
      obtain ⟨j, k, r, rfl, hia, h⟩ := h
      obtain ⟨n, fs, hkd, hin⟩ := mm_ga_el hia
      rw [hVd] at h ⊢
      intro H locs ls hP hD hS hl
      have he : (lx_wd ad (cI, cZ, cG) Y ext σ)[k]? = some (ad k, .inl (cG, n, .inr (.inr (.inr (.inr (fun j => if j < n then some (ad (k + 1 + j)) else none)))))) := by
        rw [lx_wd_get (mm_kd_lt (by rw [hkd]; exact fun z => nomatch z))]; simp only [mm_ce, hkd]
      have hjn : j.toNatClampNeg < n := Nat.not_le.mp fun q => hin (Or.inr q)
      refine mm_aald hx hb hK hP k 2 he htG hin hdg ?_
      simp only [hjn, if_true]
      exact h H locs ls hP hD hS hl
    case iastore =>
      replace h := mm_iir_el h
      obtain ⟨x, j, k, r, rfl, hia, h⟩ := h
      obtain ⟨n, fs, hkd, hin⟩ := mm_ia_el hia
      rw [hVd] at h ⊢
      intro H locs ls hP hD hS hl
      have he : (lx_wd ad (cI, cZ, cG) Y ext σ)[k]? = some (ad k, .inl (cI, n, .inl (σ k))) := by
        rw [lx_wd_get (mm_kd_lt (by rw [hkd]; exact fun z => nomatch z))]; simp only [mm_ce, hkd]
      have hst : (lx_wd ad (cI, cZ, cG) Y ext σ).set k (ad k, .inl (cI, n, .inl (upd (σ k) j.toNatClampNeg x))) = lx_wd ad (cI, cZ, cG) Y ext (mm_up σ k j.toNatClampNeg x) := by
        refine lx_wd_set (mm_kd_lt (by rw [hkd]; exact fun z => nomatch z)) ?_
        simp only [mm_ce, hkd, mm_up_eq]
      refine va_iast hx hb hK hP hD hS k 0 he htI hin hdg (fun H1 locs1 hP1 hD1 hS1 => ?_)
      rw [hst] at hP1 hD1
      exact h H1 locs1 ls hP1 hD1 hS1 hl
    case bastore =>
      replace h := mm_iir_el h
      obtain ⟨x, j, k, r, rfl, hia, h⟩ := h
      obtain ⟨n, fs, hkd, hin⟩ := mm_za_el hia
      rw [hVd] at h ⊢
      intro H locs ls hP hD hS hl
      have he : (lx_wd ad (cI, cZ, cG) Y ext σ)[k]? = some (ad k, .inl (cZ, n, .inl (σ k))) := by
        rw [lx_wd_get (mm_kd_lt (by rw [hkd]; exact fun z => nomatch z))]; simp only [mm_ce, hkd]
      have hst : (lx_wd ad (cI, cZ, cG) Y ext σ).set k (ad k, .inl (cZ, n, .inl (upd (σ k) j.toNatClampNeg (vp_nar .boolean x)))) = lx_wd ad (cI, cZ, cG) Y ext (mm_up σ k j.toNatClampNeg (vp_nar .boolean x)) := by
        refine lx_wd_set (mm_kd_lt (by rw [hkd]; exact fun z => nomatch z)) ?_
        simp only [mm_ce, hkd, mm_up_eq]
      refine va_zast hx hb hK hP hD hS k 1 he htZ hin hdg (fun H1 locs1 hP1 hD1 hS1 => ?_)
      rw [hst] at hP1 hD1
      exact h H1 locs1 ls hP1 hD1 hS1 hl
    case getfield idx =>
      replace h := mm_r_el h
      obtain ⟨k, r, rfl, h⟩ := h
      replace h := mm_gv_el h
      obtain ⟨ci, j, fs, hlk, hkd, h⟩ := h
      obtain ⟨C0, T, N, hc, hj, hin, hli⟩ := hg idx ci j hlk
      have he : (lx_wd ad (cI, cZ, cG) Y ext σ)[k]? = some (ad k, .inr (ci, mm_fv ad (σ k) 0 fs)) := by
        rw [lx_wd_get (mm_kd_lt (by rw [hkd]; exact fun z => nomatch z))]; simp only [mm_ce, hkd]
      rcases h with ⟨q, hf, h⟩ | ⟨hf, h⟩
      · rw [hVd] at h ⊢
        intro H locs ls hP hD hS hl
        exact va_get (D := D) (ref := (T j).1) hx hb hts hin hown hK hP k he hc j hj (hts _ hli) (fun _ z => z) (mm_fv_ref ad (σ k) fs 0 j q hf) hdg (h H locs ls hP hD hS hl)
      · rw [hVd] at h ⊢
        intro H locs ls hP hD hS hl
        have hv := mm_fv_int ad (σ k) fs 0 j hf
        rw [Nat.zero_add] at hv
        exact va_get (D := D) (ref := (T j).1) hx hb hts hin hown hK hP k he hc j hj (hts _ hli) (fun _ z => z) hv hdg (h H locs ls hP hD hS hl)
    case putfield idx =>
      replace h := mm_ir_el h
      obtain ⟨x, k, r, rfl, h⟩ := h
      replace h := mm_pv_el h
      obtain ⟨ci, j, fs, hlk, hkd, hf, hz, h⟩ := h
      obtain ⟨C0, T, N, ty, hc, hj, hin, hli, hty, hnm, hfin, hd⟩ := hp idx ci j hlk
      have he : (lx_wd ad (cI, cZ, cG) Y ext σ)[k]? = some (ad k, .inr (ci, mm_fv ad (σ k) 0 fs)) := by
        rw [lx_wd_get (mm_kd_lt (by rw [hkd]; exact fun z => nomatch z))]; simp only [mm_ce, hkd]
      have hst : (lx_wd ad (cI, cZ, cG) Y ext σ).set k (ad k, .inr (ci, (mm_fv ad (σ k) 0 fs).set j (.int x))) = lx_wd ad (cI, cZ, cG) Y ext (mm_up σ k j x) := by
        refine lx_wd_set (mm_kd_lt (by rw [hkd]; exact fun z => nomatch z)) ?_
        simp only [mm_ce, hkd, mm_up_eq]
        have q := mm_fv_set ad x fs (σ k) 0 j hf
        rw [Nat.zero_add] at q
        rw [q]
      rw [hVd] at h ⊢
      intro H locs ls hP hD hS hl
      have hnf : narrow (match mm_isZ Y ci j with | true => FieldType.boolean | false => FieldType.int) (.int x) = .int x ∧ fits (match mm_isZ Y ci j with | true => FieldType.boolean | false => FieldType.int) (.int x) = true := by
        cases hz' : mm_isZ Y ci j with
        | false => exact ⟨rfl, rfl⟩
        | true => rcases hz hz' with rfl | rfl <;> exact ⟨rfl, rfl⟩
      refine va_put (D := D) (ref := (T j).1) (v := .int x) hx hb hts hin ty hty hnm hown hK hP hD hS k he hc j hj (hts _ hli) (fun _ z => z) hfin hd hnf.1 hnf.2 (by rw [mm_fv_len]; exact mm_nth_lt hf) hdg (fun H1 locs1 hP1 hD1 hS1 => ?_)
      rw [hst] at hP1 hD1
      exact h H1 locs1 ls hP1 hD1 hS1 hl
    case ldc_w idx =>
      replace h := (hVd (pc + 3) L (.int cs :: S) σ).mp h
      rw [hVd]
      intro H locs ls hP hD hS hl
      exact lv_ldcw hx hb hown (hts _ (hld pc idx len t cs hI)) hdg (h H locs ls hP hD hS hl)
    case goto off =>
      replace h := (hVd t L S σ).mp h
      rw [hVd]
      intro H locs ls hP hD hS hl
      exact lv_goto hx hb hdg (of_decide_eq_true hcst) (h H locs ls hP hD hS hl)
    case ifCond cd off =>
      replace h := mm_1_el h
      obtain ⟨x, r, rfl, h⟩ := h
      have ht : (pc : Int) + off = (t : Int) := of_decide_eq_true hcst
      rw [hVd]
      intro H locs ls hP hD hS hl
      cases cd
      · exact lv_if_eq hx hb hdg ht (fun q => (hVd _ _ _ _).mp (h.1 q) H locs ls hP hD hS hl) (fun q => (hVd _ _ _ _).mp (h.2 q) H locs ls hP hD hS hl)
      · exact lv_if_ne hx hb hdg ht (fun q => (hVd _ _ _ _).mp (h.2 q) H locs ls hP hD hS hl) (fun q => (hVd _ _ _ _).mp (h.1 q) H locs ls hP hD hS hl)
      · exact lv_if_lt hx hb hdg ht (fun q => (hVd _ _ _ _).mp (h.1 q) H locs ls hP hD hS hl) (fun q => (hVd _ _ _ _).mp (h.2 q) H locs ls hP hD hS hl)
      · exact lv_if_ge hx hb hdg ht (fun q => (hVd _ _ _ _).mp (h.1 q) H locs ls hP hD hS hl) (fun q => (hVd _ _ _ _).mp (h.2 q) H locs ls hP hD hS hl)
      · exact lv_if_gt hx hb hdg ht (fun q => (hVd _ _ _ _).mp (h.1 q) H locs ls hP hD hS hl) (fun q => (hVd _ _ _ _).mp (h.2 q) H locs ls hP hD hS hl)
      · exact lv_if_le hx hb hdg ht (fun q => (hVd _ _ _ _).mp (h.1 q) H locs ls hP hD hS hl) (fun q => (hVd _ _ _ _).mp (h.2 q) H locs ls hP hD hS hl)
    case if_icmp cd off =>
      replace h := mm_2_el h
      obtain ⟨x, y, r, rfl, h⟩ := h
      have ht : (pc : Int) + off = (t : Int) := of_decide_eq_true hcst
      rw [hVd]
      intro H locs ls hP hD hS hl
      cases cd
      · exact lv_icmp_eq hx hb hdg ht (fun q => (hVd _ _ _ _).mp (h.1 q) H locs ls hP hD hS hl) (fun q => (hVd _ _ _ _).mp (h.2 q) H locs ls hP hD hS hl)
      · exact lv_icmp_ne hx hb hdg ht (fun q => (hVd _ _ _ _).mp (h.2 q) H locs ls hP hD hS hl) (fun q => (hVd _ _ _ _).mp (h.1 q) H locs ls hP hD hS hl)
      · exact lv_icmp_lt hx hb hdg ht (fun q => (hVd _ _ _ _).mp (h.1 q) H locs ls hP hD hS hl) (fun q => (hVd _ _ _ _).mp (h.2 q) H locs ls hP hD hS hl)
      · exact lv_icmp_ge hx hb hdg ht (fun q => (hVd _ _ _ _).mp (h.1 q) H locs ls hP hD hS hl) (fun q => (hVd _ _ _ _).mp (h.2 q) H locs ls hP hD hS hl)
      · exact lv_icmp_gt hx hb hdg ht (fun q => (hVd _ _ _ _).mp (h.1 q) H locs ls hP hD hS hl) (fun q => (hVd _ _ _ _).mp (h.2 q) H locs ls hP hD hS hl)
      · exact lv_icmp_le hx hb hdg ht (fun q => (hVd _ _ _ _).mp (h.1 q) H locs ls hP hD hS hl) (fun q => (hVd _ _ _ _).mp (h.2 q) H locs ls hP hD hS hl)
    case invokevirtual idx => exact hc1 pc idx L S σ hdg h
    case invokestatic idx => exact hc0 pc idx L S σ hdg h
    case tableswitch dflt lo hi offs =>
      replace h := mm_1_el h
      obtain ⟨x, r, rfl, h⟩ := h
      rcases mm_sw_el h hcst with ⟨t9, h1, h2, h⟩ | ⟨off, t9, h1, h2, h3, h4, h⟩
      · rw [hVd] at h ⊢
        intro H locs ls hP hD hS hl
        exact lv_tableOut hx hb hdg h1 h2 (h H locs ls hP hD hS hl)
      · rw [hVd] at h ⊢
        intro H locs ls hP hD hS hl
        exact lv_tableIn hx hb hdg h1 h2 h3 h4 (h H locs ls hP hD hS hl)
    case ireturn =>
      replace h := mm_rt_el h
      obtain ⟨v, rfl, hq, hm⟩ := h
      rw [hret] at hm
      rcases hm with hm | ⟨hm, -⟩ <;> cases hm
    case return_ =>
      replace h := mm_rv_el h
      obtain ⟨rfl, hq, hm⟩ := h
      rw [hret] at hm
      cases hm
    all_goals exact h.elim
end LXstep
end
section
/-! calls of the small machine's methods out of the law's walk -/
theorem lx_Dad {A : Nat → Prop} {ws ws' : va_W} (h : ∀ i : Nat, (ws'[i]?).map (fun q => q.1) = (ws[i]?).map (fun q => q.1)) (hD : va_D A ws) : va_D A ws' := by
  have key : ∀ (i : Nat) (q : Nat × va_E), ws'[i]? = some q → ∃ q0, ws[i]? = some q0 ∧ q0.1 = q.1 := by
    intro i q hq
    have h1 := h i
    rw [hq] at h1
    cases e : ws[i]? with
    | none => rw [e] at h1; cases h1
    | some q0 =>
      rw [e] at h1
      exact ⟨q0, rfl, (Option.some.inj h1).symm⟩
  refine ⟨fun i j x y hx hy hxy => ?_, fun i q hq => ?_⟩
  · obtain ⟨x0, a1, a2⟩ := key i x hx
    obtain ⟨y0, b1, b2⟩ := key j y hy
    exact hD.1 i j x0 y0 a1 b1 (by rw [a2, b2]; exact hxy)
  · obtain ⟨q0, a1, a2⟩ := key i q hq
    rw [← a2]
    exact hD.2 i q0 a1
theorem lx_wd_ad {ad : Nat → Nat} {a3 : ClassId × ClassId × ClassId} {Y : mm_Y} {ext ext' : va_W} {σ σ' : mm_S} (he : ext'.map (fun q => q.1) = ext.map (fun q => q.1)) : ∀ i : Nat, ((lx_wd ad a3 Y ext' σ')[i]?).map (fun q => q.1) = ((lx_wd ad a3 Y ext σ)[i]?).map (fun q => q.1) := by
  intro i
  rw [← List.getElem?_map, ← List.getElem?_map]
  unfold lx_wd mm_wd
  simp only [List.map_append, List.map_map, he]
  rfl
/-- behind a call: the callee's cells, and those beside, which stay -/
theorem lx_join {D : va_G} {cl : List vw_C} {A : Nat → Prop} {ad : Nat → Nat} {a3 : ClassId × ClassId × ClassId} {Y : mm_Y} {ext : va_W} {σ σ' : mm_S} {H H1 : Heap} (hP : va_P D cl (lx_wd ad a3 Y ext σ) H) (hD : va_D A (lx_wd ad a3 Y ext σ)) (hP1 : va_P D cl (mm_wd ad a3 Y σ') H1)
    (hk : ∀ q : Nat, q < H.size → ¬ va_A (mm_wd ad a3 Y σ) H.size q → H1[q]? = H[q]?) : va_P D cl (lx_wd ad a3 Y ext σ') H1 ∧ va_D A (lx_wd ad a3 Y ext σ') := by
  refine ⟨va_P.app hP1 (fun k q hq => ?_), lx_Dad (lx_wd_ad rfl) hD⟩
  have hin : (lx_wd ad a3 Y ext σ)[(mm_wd ad a3 Y σ).length + k]? = some q := by
    unfold lx_wd
    rw [List.getElem?_append_right (by omega)]
    rw [show (mm_wd ad a3 Y σ).length + k - (mm_wd ad a3 Y σ).length = k by omega]
    exact hq
  have h1 := hP _ q hin
  refine h1.kept (hk q.1 h1.lt (fun h => ?_))
  rcases h with ⟨j, e9, h9⟩ | h9
  · have hl := (List.getElem?_eq_some_iff.mp h9).1
    have h8 : (lx_wd ad a3 Y ext σ)[j]? = some (q.1, e9) := by
      unfold lx_wd
      rw [List.getElem?_append_left hl]
      exact h9
    have := hD.1 _ _ _ _ hin h8 rfl
    omega
  · have := h1.lt
    omega
section LXg
variable {p : Program} {l : Launch} {e : Env} {R : Room} {s : State} {m : MethodId} {args : Array Value} {below : List Frame} {meth : Method} {c : Code} {D : va_G} {cl : List vw_C} {A A1 : Nat → Prop} {ad : Nat → Nat} {a3 : ClassId × ClassId × ClassId} {Y : mm_Y} {Q' : mm_Q} {Qf : State → Prop} {tys : List (ClassId × FieldType)} {H : Heap} {locs : List Loc} {pc ce sl : Nat} {ls : Array Slot} {st0 rest : List Value} {arr : Array Value}
theorem lx_goon (hr : va_Run p l e R s m args below meth c H locs ce sl 0 0 (F0 m pc ls st0) rest (mm_Qc D cl tys A1 ad a3 Y Q' arr) A1) (hS : va_S A s.heap H locs) (hA1 : ∀ q, A1 q → A q)
    (kk : ∀ (v : Option Value) (σ' : mm_S) (H1 : Heap) (locs1 : List Loc), Q' v σ' → va_P D cl (mm_wd ad a3 Y σ') H1 → va_S A s.heap H1 locs1 → H.size ≤ H1.size → (∀ q : Nat, q < H.size → ¬ A1 q → H1[q]? = H[q]?) → W p l e R s m args below meth c H1 locs1 ce sl Qf (F0 m (pc + 3) ls ((v.map (mm_rho ad)).toList ++ rest))) :
    W p l e R s m args below meth c H locs ce sl Qf (F0 m pc ls st0) := by
  intro T hT X
  obtain ⟨v, st₀, t, T', L, h0, X', hL, e1, e2, ⟨⟨v', σ', hq, hv, hP1, hD1, hK1⟩, hz, hk⟩, st⟩ := hr T hT X
  cases hv
  rw [h0] at hz hk
  rw [← e1] at hP1 hz hk
  obtain ⟨t2, a1, b1⟩ := kk v' σ' T'.heap (locs ++ L) hq hP1
    ⟨Nat.le_trans hS.1 hz, fun q h1 h2 => by rw [hk q (Nat.lt_of_lt_of_le h1 hS.1) (fun z => h2 (hA1 q z))]; exact hS.2.1 q h1 h2, fun q hq => by
      rcases List.mem_append.mp hq with h | h
      · exact hS.2.2 q h
      · exact hA1 _ (hL q h)⟩ hz hk T' rfl X'
  exact ⟨t2, st t2 a1, b1⟩
end LXg
section LXh
variable {l : Launch} {Ts : List Cond} {nm : Nat → MethodName} {by_ : Nat → ByteArray} {mx : Nat → Nat} {D : va_G} {cl : List vw_C} {cI cZ cG : ClassId} {ad : Nat → Nat} {Y : mm_Y} {B : mm_C} {yM ym : Nat}
variable {p : Program} {e : Env} {R : Room} {s : State} {m : MethodId} {args : Array Value} {below : List Frame} {meth : Method} {c : Code} {cc : ByteArray} {own : String} {nL d : Nat} {M : mm_M} {Qf : State → Prop} {A : Nat → Prop} {ext : va_W} {ce sl : Nat}
set_option maxHeartbeats 4000000 in
theorem lx_hc1
    (hMn : nm yM = Lib.Math.max.name ∧ by_ yM = Lib.Math.max.code ∧ mx yM = 2 ∧ (mm_me Y yM).2.2.2.2 = 1 ∧ (mm_me Y yM).1 = []) (hmn : nm ym = Lib.Math.min.name ∧ by_ ym = Lib.Math.min.code ∧ mx ym = 2 ∧ (mm_me Y ym).2.2.2.2 = 1 ∧ (mm_me Y ym).1 = [])
    (hB : ∀ y as σ Q, B y as σ Q → (y ≠ yM ∧ y ≠ ym ∧ ∀ d, mm_T l Ts nm by_ mx D cl [(cI, .int), (cZ, .boolean), (cG, .array .int)] ad (cI, cZ, cG) Y d y as σ Q) ∨ (y = yM ∧ ∃ x z, as = [.int x, .int z] ∧ Q (some (.int (if x < z then z else x))) σ) ∨ (y ≠ yM ∧ y = ym ∧ ∃ x z, as = [.int x, .int z] ∧ Q (some (.int (if z < x then z else x))) σ))
    (hTT : ∀ y as σ Q, y ≠ yM → y ≠ ym → mm_D Y B mx d y as σ Q → mm_T l Ts nm by_ mx D cl [(cI, .int), (cZ, .boolean), (cG, .array .int)] ad (cI, cZ, cG) Y d y as σ Q)
    (hx : p.tables.exec = Jvm.exec) (hb : c.code = cc) (hml : c.maxLocals = nL) (hown : s.vm.findClass own = some m.cls) (hts : ∀ w ∈ Ts, w.before args s = true) (hK : va_K D cl [(cI, .int), (cZ, .boolean), (cG, .array .int)] s)
    (hG : ∀ y', Cond.code (nm y') (by_ y') (mx y') (mm_rty (mm_me Y y').2.2.2.2) ∈ Ts → GoodIn Ts (mm_ws Ts nm by_ mx Y y')) (hk : ∀ q ∈ M.2.2.2.1, mm_kok Ts nm by_ mx cl Y own q) (hRf : d + 1 ≤ R.frames) (hRl : 40 * (d + 1) ≤ R.locals) (hA : ∀ q, s.heap.size ≤ q → A q) (hce : ce ≤ R.cells) (hsl : sl ≤ R.slots) (hG0 : mm_G ad A s s.heap) :
    ∀ (pc idx : Nat) (L : List (Option Value)) (S : List Value) (σ1 : mm_S), decode cc pc = .ok (.invokevirtual idx, 3) → mm_call Y (mm_D Y B mx d) M idx 1 S σ1 (fun S' σ' => lx_V p l e R s m args below meth c D cl A ad (cI, cZ, cG) Y nL Qf ext ce sl (pc + 3) L S' σ') → lx_V p l e R s m args below meth c D cl A ad (cI, cZ, cG) Y nL Qf ext ce sl pc L S σ1 := by
  intro pc idx L S σ1 hdg hcall
  obtain ⟨y', n, ci, as', r, hlk, rfl, hln, hc8, hrc, hC⟩ := mm_call_el hcall
  obtain ⟨k, as2, fs, rfl, hkd, hci⟩ := mm_rcv_el hrc
  obtain ⟨hmx, hcode, hlink, hini, hd, -, hvir⟩ := hk _ (mm_look_mem hlk)
  obtain ⟨hinst, hsel, Tc, Nc, hclc⟩ := hvir hci
  obtain ⟨hr8, hrcat⟩ := mm_c1_el hc8
  have hnB : ∀ (Q9 : mm_Q), mm_D Y B mx d y' (.ref k :: as2) σ1 Q9 → y' ≠ yM ∧ y' ≠ ym := by
    intro Q9 h9
    have hbb : ∀ y9, (mm_me Y y9).1 = [] → mm_D Y B mx d y9 (.ref k :: as2) σ1 Q9 → B y9 (.ref k :: as2) σ1 Q9 := by
      intro y9 he h8
      cases d with
      | zero => exact h8
      | succ d => exact h8.elim id (fun h7 => (mm_W_nil he h7.2).elim)
    constructor
    · intro e9
      subst e9
      rcases hB _ _ _ _ (hbb _ hMn.2.2.2.2 h9) with ⟨h7, -⟩ | ⟨-, x, z, h7, -⟩ | ⟨h7, -⟩
      · exact h7 rfl
      · cases h7
      · exact h7 rfl
    · intro e9
      subst e9
      rcases hB _ _ _ _ (hbb _ hmn.2.2.2.2 h9) with ⟨-, h7, -⟩ | ⟨-, x, z, h7, -⟩ | ⟨-, -, x, z, h7, -⟩
      · exact h7 rfl
      · cases h7
      · cases h7
  have hT := hTT y' (.ref k :: as2) σ1 _ (hnB _ hC).1 (hnB _ hC).2 hC
  intro H locs ls hP1 hD1 hS1 hl1
  have hPm : va_P D cl (mm_wd ad (cI, cZ, cG) Y σ1) H := fun k q hk => hP1 k q (by unfold lx_wd; rw [List.getElem?_append_left (List.getElem?_eq_some_iff.mp hk).1]; exact hk)
  have hDm : va_D A (mm_wd ad (cI, cZ, cG) Y σ1) := ⟨fun i j x y hx hy => hD1.1 i j x y (by unfold lx_wd; rw [List.getElem?_append_left (List.getElem?_eq_some_iff.mp hx).1]; exact hx) (by unfold lx_wd; rw [List.getElem?_append_left (List.getElem?_eq_some_iff.mp hy).1]; exact hy), fun k q hk => hD1.2 k q (by unfold lx_wd; rw [List.getElem?_append_left (List.getElem?_eq_some_iff.mp hk).1]; exact hk)⟩
  have hA1 : ∀ q, va_A (mm_wd ad (cI, cZ, cG) Y σ1) H.size q → A q := fun q hq => by
    rcases hq with ⟨k9, e9, h9⟩ | h9
    · exact hDm.2 k9 (q, e9) h9
    · exact hA q (Nat.le_trans hS1.1 h9)
  have hM := hT H.size
  have he : (mm_wd ad (cI, cZ, cG) Y σ1)[k]? = some (ad k, .inr (ci, mm_fv ad (σ1 k) 0 fs)) := by
    rw [mm_wd_get (mm_kd_lt (by rw [hkd]; exact fun z => nomatch z))]; simp only [mm_ce, hkd]
  have hstk : ((Value.ref k :: as2).reverse ++ r).map (mm_rho ad) = (as2.map (mm_rho ad)).reverse ++ .ref (ad k) :: r.map (mm_rho ad) := by
    simp [mm_rho]
  rw [hstk]
  refine lx_goon (va_runV (C := (nm y').cls) (b := ad k) (As := as2.map (mm_rho ad)) (rest := r.map (mm_rho ad)) (n := n) ⟨hx, hb, hml, hown, hts⟩ hM ⟨callB_of n hts (hG y' hcode) rfl rfl rfl (hts _ hini) (hts _ hlink) hd ⟨hRf, by show 8 + (mx y' + 11) + 40 * d ≤ R.locals; have := hmx; dsimp only at this; omega⟩, hts _ hinst, hts _ hsel⟩
    ⟨fun a U g mk q => by obtain ⟨q0, q1, qP, qK, qD, qG⟩ := q; exact ⟨q0, q1, qP, va_K.moved (u := U) (U := U.calling g mk a) (Vm.Alike.refl U.vm) qK, qD, mm_G.moved (u := U) (U := U.calling g mk a) (Vm.Alike.refl U.vm) qG⟩, va_recv hK hPm hclc he, fun U hU hW => ⟨rfl, by rw [hU], by rw [hU]; exact hPm, va_K.moved hW.alike hK, hDm.weaken (fun _ _ _ _ => trivial), by rw [hU]; exact ((hG0.kept hS1.2.1).narrow hA1).moved hW.alike⟩⟩
    rfl (by rw [List.length_map]; simp only [List.length_cons] at hln; omega) hl1.1.1 rfl (lv_room (by rw [mm_cat_le ad r hrcat]; exact hr8)) hdg ⟨hce, hsl⟩) hS1 hA1 (fun v σ' H1 locs1 hq hP2 hS2 hgr hkeep => ?_)
  rw [mm_rho_toList]
  obtain ⟨hP3, hD3⟩ := lx_join hP1 hD1 hP2 hkeep
  exact hq H1 locs1 ls hP3 hD3 hS2 hl1
set_option maxHeartbeats 4000000 in
theorem lx_hc0
    (hMn : nm yM = Lib.Math.max.name ∧ by_ yM = Lib.Math.max.code ∧ mx yM = 2 ∧ (mm_me Y yM).2.2.2.2 = 1 ∧ (mm_me Y yM).1 = []) (hmn : nm ym = Lib.Math.min.name ∧ by_ ym = Lib.Math.min.code ∧ mx ym = 2 ∧ (mm_me Y ym).2.2.2.2 = 1 ∧ (mm_me Y ym).1 = [])
    (hB : ∀ y as σ Q, B y as σ Q → (y ≠ yM ∧ y ≠ ym ∧ ∀ d, mm_T l Ts nm by_ mx D cl [(cI, .int), (cZ, .boolean), (cG, .array .int)] ad (cI, cZ, cG) Y d y as σ Q) ∨ (y = yM ∧ ∃ x z, as = [.int x, .int z] ∧ Q (some (.int (if x < z then z else x))) σ) ∨ (y ≠ yM ∧ y = ym ∧ ∃ x z, as = [.int x, .int z] ∧ Q (some (.int (if z < x then z else x))) σ))
    (hTT : ∀ y as σ Q, y ≠ yM → y ≠ ym → mm_D Y B mx d y as σ Q → mm_T l Ts nm by_ mx D cl [(cI, .int), (cZ, .boolean), (cG, .array .int)] ad (cI, cZ, cG) Y d y as σ Q)
    (hx : p.tables.exec = Jvm.exec) (hb : c.code = cc) (hml : c.maxLocals = nL) (hown : s.vm.findClass own = some m.cls) (hts : ∀ w ∈ Ts, w.before args s = true) (hK : va_K D cl [(cI, .int), (cZ, .boolean), (cG, .array .int)] s)
    (hG : ∀ y', Cond.code (nm y') (by_ y') (mx y') (mm_rty (mm_me Y y').2.2.2.2) ∈ Ts → GoodIn Ts (mm_ws Ts nm by_ mx Y y')) (hk : ∀ q ∈ M.2.2.2.1, mm_kok Ts nm by_ mx cl Y own q) (hRf : d + 1 ≤ R.frames) (hRl : 40 * (d + 1) ≤ R.locals) (hA : ∀ q, s.heap.size ≤ q → A q) (hce : ce ≤ R.cells) (hsl : sl ≤ R.slots) (hG0 : mm_G ad A s s.heap) :
    ∀ (pc idx : Nat) (L : List (Option Value)) (S : List Value) (σ1 : mm_S), decode cc pc = .ok (.invokestatic idx, 3) → mm_call Y (mm_D Y B mx d) M idx 0 S σ1 (fun S' σ' => lx_V p l e R s m args below meth c D cl A ad (cI, cZ, cG) Y nL Qf ext ce sl (pc + 3) L S' σ') → lx_V p l e R s m args below meth c D cl A ad (cI, cZ, cG) Y nL Qf ext ce sl pc L S σ1 := by
  intro pc idx L S σ1 hdg hcall
  obtain ⟨y', n, ci, as', r, hlk, rfl, hln, hc8, hrc, hC⟩ := mm_call_el hcall
  obtain ⟨hmx, hcode, hlink, hini, hd, hst, -⟩ := hk _ (mm_look_mem hlk)
  obtain ⟨hr8, hrcat⟩ := mm_c1_el hc8
  have h99 : ci = 99 := Nat.eq_of_beq_eq_true hrc
  have hbb : ∀ y9 Q9, (mm_me Y y9).1 = [] → mm_D Y B mx d y9 as' σ1 Q9 → B y9 as' σ1 Q9 := by
    intro y9 Q9 he h8
    cases d with
    | zero => exact h8
    | succ d => exact h8.elim id (fun h7 => (mm_W_nil he h7.2).elim)
  by_cases hyM : y' = yM
  · subst hyM
    rcases hB _ _ _ _ (hbb _ _ hMn.2.2.2.2 hC) with ⟨h7, -⟩ | ⟨-, x, z, rfl, hq⟩ | ⟨h7, -⟩
    · exact absurd rfl h7
    · intro H locs ls hP1 hD1 hS1 hl1
      have hq' := hq H locs ls hP1 hD1 hS1 hl1
      have hst' := hts _ (hst h99)
      have hlink' := hts _ hlink
      have hini' := hts _ hini
      have hcode' := hts _ hcode
      dsimp only at hst' hlink' hini' hcode'
      rw [hMn.1] at hst' hlink' hini'
      rw [hMn.1, hMn.2.1, hMn.2.2.1, hMn.2.2.2.1] at hcode'
      exact va_mmax hx hb (hml.trans hl1.1.1.symm) hown hlink' hst' hini' hcode' (by omega) (by show ((r.map (mm_rho ad)).map fun v => v.category).sum + 13 ≤ R.locals; rw [mm_cat_le ad r hrcat]; omega) hce hsl hdg hq'
    · exact absurd rfl h7
  by_cases hym : y' = ym
  · subst hym
    rcases hB _ _ _ _ (hbb _ _ hmn.2.2.2.2 hC) with ⟨-, h7, -⟩ | ⟨h7, -⟩ | ⟨-, -, x, z, rfl, hq⟩
    · exact absurd rfl h7
    · exact absurd h7 hyM
    · intro H locs ls hP1 hD1 hS1 hl1
      have hq' := hq H locs ls hP1 hD1 hS1 hl1
      have hst' := hts _ (hst h99)
      have hlink' := hts _ hlink
      have hini' := hts _ hini
      have hcode' := hts _ hcode
      dsimp only at hst' hlink' hini' hcode'
      rw [hmn.1] at hst' hlink' hini'
      rw [hmn.1, hmn.2.1, hmn.2.2.1, hmn.2.2.2.1] at hcode'
      exact va_mmin hx hb (hml.trans hl1.1.1.symm) hown hlink' hst' hini' hcode' (by omega) (by show ((r.map (mm_rho ad)).map fun v => v.category).sum + 13 ≤ R.locals; rw [mm_cat_le ad r hrcat]; omega) hce hsl hdg hq'
  have hT := hTT y' as' σ1 _ hyM hym hC
  intro H locs ls hP1 hD1 hS1 hl1
  have hPm : va_P D cl (mm_wd ad (cI, cZ, cG) Y σ1) H := fun k q hk => hP1 k q (by unfold lx_wd; rw [List.getElem?_append_left (List.getElem?_eq_some_iff.mp hk).1]; exact hk)
  have hDm : va_D A (mm_wd ad (cI, cZ, cG) Y σ1) := ⟨fun i j x y hx hy => hD1.1 i j x y (by unfold lx_wd; rw [List.getElem?_append_left (List.getElem?_eq_some_iff.mp hx).1]; exact hx) (by unfold lx_wd; rw [List.getElem?_append_left (List.getElem?_eq_some_iff.mp hy).1]; exact hy), fun k q hk => hD1.2 k q (by unfold lx_wd; rw [List.getElem?_append_left (List.getElem?_eq_some_iff.mp hk).1]; exact hk)⟩
  have hA1 : ∀ q, va_A (mm_wd ad (cI, cZ, cG) Y σ1) H.size q → A q := fun q hq => by
    rcases hq with ⟨k9, e9, h9⟩ | h9
    · exact hDm.2 k9 (q, e9) h9
    · exact hA q (Nat.le_trans hS1.1 h9)
  have hM := hT H.size
  have hstk : (as'.reverse ++ r).map (mm_rho ad) = (as'.map (mm_rho ad)).reverse ++ r.map (mm_rho ad) := by simp
  rw [hstk]
  refine lx_goon (va_runS (As := as'.map (mm_rho ad)) (rest := r.map (mm_rho ad)) (n := n) ⟨hx, hb, hml, hown, hts⟩ hM ⟨callB_of n hts (hG y' hcode) rfl rfl rfl (hts _ hini) (hts _ hlink) hd ⟨hRf, by show 8 + (mx y' + 11) + 40 * d ≤ R.locals; have := hmx; dsimp only at this; omega⟩, hts _ (hst h99)⟩
    ⟨fun a U g mk q => by obtain ⟨q0, q1, qP, qK, qD, qG⟩ := q; exact ⟨q0, q1, qP, va_K.moved (u := U) (U := U.calling g mk a) (Vm.Alike.refl U.vm) qK, qD, mm_G.moved (u := U) (U := U.calling g mk a) (Vm.Alike.refl U.vm) qG⟩, fun U hU hW => ⟨rfl, by rw [hU], by rw [hU]; exact hPm, va_K.moved hW.alike hK, hDm.weaken (fun _ _ _ _ => trivial), by rw [hU]; exact ((hG0.kept hS1.2.1).narrow hA1).moved hW.alike⟩⟩
    rfl (by rw [List.length_map]; omega) hl1.1.1 rfl (lv_room (by rw [mm_cat_le ad r hrcat]; exact hr8)) hdg ⟨hce, hsl⟩) hS1 hA1 (fun v σ' H1 locs1 hq hP2 hS2 hgr hkeep => ?_)
  rw [mm_rho_toList]
  obtain ⟨hP3, hD3⟩ := lx_join hP1 hD1 hP2 hkeep
  exact hq H1 locs1 ls hP3 hD3 hS2 hl1
end LXh
end
section
/-! the law's helpers: a call that may throw, caught -/
def hx_e (qo : Nat) (cJ : ClassId) (f : Nat → Int64) : va_W := [(qo, .inl (cJ, 1, .inr (.inl f)))]
theorem hx_ncuse {C T : String} {s : State} {args : Array Value} (h : va_Nc C T s) : (Cond.not (.castable C T)).before args s = true := by
  obtain ⟨c, t, h1, h2, h3⟩ := h
  simp [Cond.before, Cond.holds, Cond.value, h1, h2, h3]
def hx_N (cs ns : List (String × String)) (U : State) : Prop := (∀ q ∈ cs, va_Nw (.castable q.1 q.2) U) ∧ ∀ q ∈ ns, va_Nc q.1 q.2 U
theorem hx_N.moved {cs ns : List (String × String)} {s U : State} (hW : s.WarmedH U.vm) (h : hx_N cs ns s) : hx_N cs ns U := ⟨fun q hq => va_Nw.warmC hW (h.1 q hq), fun q hq => (h.2 q hq).moved hW.alike⟩
def hx_Q (D : va_G) (cl : List vw_C) (ad : Nat → Nat) (a3 : ClassId × ClassId × ClassId) (Y : mm_Y) (qo : Nat) (cJ : ClassId) (A : Nat → Prop) (HQ : Int32 → mm_S → (Nat → Int64) → Prop) : Array Value → State → Outcome → State → Prop := fun _ st o t =>
  (∃ (k : Int32) (σ : mm_S) (f : Nat → Int64), o = .returned (some (.int k)) ∧ HQ k σ f ∧ va_P D cl (lx_wd ad a3 Y (hx_e qo cJ f) σ) t.heap) ∧ va_F A st t
/-- a handler: put the exception away, answer v -/
def hx_hc (cc : ByteArray) (nL h : Nat) (v : Int32) : Prop := ∃ (k len : Nat) (iv : Int), ((len = 2 ∧ decode cc h = .ok (.astore k, 2)) ∨ (len = 1 ∧ ∃ kf : Fin 4, kf.val = k ∧ decode cc h = .ok (.astore_n kf, 1))) ∧ k < nL ∧ decode cc (h + len) = .ok (.iconst iv, 1) ∧ Int32.ofInt iv = v ∧ decode cc (h + len + 1) = .ok (.ireturn, 1)
def hx_han (Ts : List Cond) (cs ns : List (String × String)) (own : String) (cc : ByteArray) (nL pcI : Nat) (tab : List ExceptionTableEntry) (E : String) (v : Int32) : Prop := ∃ (pre : List ExceptionTableEntry) (x : ExceptionTableEntry) (suf : List ExceptionTableEntry) (name : String), tab = pre ++ x :: suf ∧ (∀ z ∈ pre, z.catchType ≠ 0 ∧ ∃ nm : String, Cond.classLink own z.catchType nm ∈ Ts ∧ (E, nm) ∈ ns) ∧ covers x pcI = true ∧ x.catchType ≠ 0 ∧ Cond.classLink own x.catchType name ∈ Ts ∧ (E, name) ∈ cs ∧ hx_hc cc nL x.handlerPc v
section HX
variable {p : Program} {l : Launch} {e : Env} {R : Room} {s : State} {m : MethodId} {args : Array Value} {below : List Frame} {meth : Method} {c : Code} {H : Heap} {locs : List Loc} {cells slots : Nat} {D : va_G} {cl : List vw_C} {A : Nat → Prop} {ad : Nat → Nat} {a3 : ClassId × ClassId × ClassId} {Y : mm_Y} {qo : Nat} {cJ : ClassId} {f : Nat → Int64} {σ : mm_S} {HQ : Int32 → mm_S → (Nat → Int64) → Prop} {cc : ByteArray} {ls : Array Slot} {nL : Nat}
theorem hx_fin (hx : p.tables.exec = Jvm.exec) (hb : c.code = cc) (hr : meth.sig.returnType = some .int) (hlocks : meth.locks = false) {pc : Nat} {iv : Int} {v : Int32} (hv : Int32.ofInt iv = v) (d0 : decode cc pc = .ok (.iconst iv, 1)) (d1 : decode cc (pc + 1) = .ok (.ireturn, 1)) (hP : va_P D cl (lx_wd ad a3 Y (hx_e qo cJ f) σ) H) (hS : va_S A s.heap H locs) (hq : HQ v σ f) (h1 : cells ≤ 1) (h6 : slots ≤ 6) :
    W p l e R s m args below meth c H locs cells slots (MQ below (hx_Q D cl ad a3 Y qo cJ A HQ) args s 1 6 A) (F0 m pc ls []) :=
  lv_iconst hx hb d0 hv (W.widen h1 h6 (W.iret hx hb hr (fun t ht hW => ⟨⟨v, σ, f, rfl, hq, by rw [ht]; exact hP⟩, hS.F ht⟩) hS.2.2 d1 hlocks))
theorem hx_hand (hx : p.tables.exec = Jvm.exec) (hb : c.code = cc) (hr : meth.sig.returnType = some .int) (hlocks : meth.locks = false) {h : Nat} {v : Int32} (hh : hx_hc cc nL h v) {lv : List (Nat × Value)} (hlv : lv_has ls nL lv) {q : Nat} (hP : va_P D cl (lx_wd ad a3 Y (hx_e qo cJ f) σ) H) (hS : va_S A s.heap H locs) (hq : HQ v σ f) (h1 : cells ≤ 1) (h6 : slots ≤ 6) :
    W p l e R s m args below meth c H locs cells slots (MQ below (hx_Q D cl ad a3 Y qo cJ A HQ) args s 1 6 A) (F0 m h ls [.ref q]) := by
  obtain ⟨k, len, iv, hd, hk, d0, hv, d1⟩ := hh
  rcases hd with ⟨rfl, hd⟩ | ⟨rfl, kf, hkf, hd⟩
  · exact lv_astore hx hb hd hlv hk rfl (fun ls' _ => hx_fin hx hb hr hlocks hv d0 d1 hP hS hq h1 h6)
  · exact lv_astore_n hx hb hd hkf hlv hk rfl (fun ls' _ => hx_fin hx hb hr hlocks hv d0 d1 hP hS hq h1 h6)
def hx_rm (d : Nat) : Room := { frames := d + 9, cells := 1, slots := 6, locals := 40 * d + 240 }
set_option maxHeartbeats 1000000 in
theorem hx_call {own : String} {Ts : List Cond} {tys : List (ClassId × FieldType)} {nx : Nat → MethodName} {bx : Nat → ByteArray} {mxx : Nat → Nat} {dc : List MethodName} {st : mx_St} {sa : Nat → Nat} {exn : Nat → String} {cs ns : List (String × String)} {ret d y idx n pcI : Nat} {as : List Value} {Q : mm_Q} {XQ : Nat → mm_S → Prop} {fs : List (Option Nat)} {rest : List Value} {lv : List (Nat × Value)}
    (hx : p.tables.exec = Jvm.exec) (hb : c.code = cc) (hml : c.maxLocals = nL) (hown : s.vm.findClass own = some m.cls) (hts : ∀ w ∈ Ts, w.before args s = true) (hgood : ∀ w ∈ Ts, goodWord w = true) (hK : va_K D cl tys s) (hr : meth.sig.returnType = some .int) (hlocks : meth.locks = false)
    (hN : mx_N dc st sa (va_A (lx_wd ad a3 Y (hx_e qo cJ f) σ) s.heap.size) s s.heap) (hG0 : mm_G ad (va_A (lx_wd ad a3 Y (hx_e qo cJ f) σ) s.heap.size) s s.heap) (hC : hx_N cs ns s) (hP : va_P D cl (lx_wd ad a3 Y (hx_e qo cJ f) σ) s.heap) (hD : va_D (fun _ => True) (lx_wd ad a3 Y (hx_e qo cJ f) σ))
    (hT : mx_T l Ts nx bx mxx D cl tys ad a3 Y dc st sa exn ret d y (.ref 0 :: as) σ Q XQ) (hcode : Cond.code (nx y) (bx y) (mxx y) (mm_rty ret) ∈ Ts) (hmx : mxx y ≤ 21) (hlink : Cond.methodLink own idx (nx y) ∈ Ts) (hini : Cond.initialized (nx y).cls ∈ Ts)
    (hnm : (nx y).cls ≠ "java/lang/invoke/MethodHandle" ∧ (nx y).cls ≠ "java/lang/invoke/VarHandle") (hdesc : (parseMethodDescriptor (nx y).desc).map (fun d => d.parameters.length) = some n) (has : as.length = n) (hinst : Cond.instanceMethod (nx y) ∈ Ts) (hsel : Cond.selects (nx y).cls (nx y) (nx y) ∈ Ts)
    (hcl : ∃ T N, cl[0]? = some ((nx y).cls, T, N)) (hkd : mm_kd Y 0 = (0, 0, fs)) (hlv : lv_has ls nL lv) (hrest : (rest.map fun v => v.category).sum ≤ 8) (hdg : decode cc pcI = .ok (.invokevirtual idx, 3))
    (hX : ∀ E σ', XQ E σ' → ∃ v, hx_han Ts cs ns own cc nL pcI c.exceptionTable.toList (exn E) v ∧ HQ v σ' f)
    (kr : ∀ (v : Option Value) (σ' : mm_S) (H1 : Heap) (locs1 : List Loc), Q v σ' → va_P D cl (lx_wd ad a3 Y (hx_e qo cJ f) σ') H1 → va_D (va_A (lx_wd ad a3 Y (hx_e qo cJ f) σ) s.heap.size) (lx_wd ad a3 Y (hx_e qo cJ f) σ') → va_S (va_A (lx_wd ad a3 Y (hx_e qo cJ f) σ) s.heap.size) s.heap H1 locs1 →
      W p l e (hx_rm d) s m args below meth c H1 locs1 0 0 (MQ below (hx_Q D cl ad a3 Y qo cJ (va_A (lx_wd ad a3 Y (hx_e qo cJ f) σ) s.heap.size) HQ) args s 1 6 (va_A (lx_wd ad a3 Y (hx_e qo cJ f) σ) s.heap.size)) (F0 m (pcI + 3) ls ((v.map (mm_rho ad)).toList ++ rest))) :
    W p l e (hx_rm d) s m args below meth c s.heap [] 0 0 (MQ below (hx_Q D cl ad a3 Y qo cJ (va_A (lx_wd ad a3 Y (hx_e qo cJ f) σ) s.heap.size) HQ) args s 1 6 (va_A (lx_wd ad a3 Y (hx_e qo cJ f) σ) s.heap.size)) (F0 m pcI ls ((as.map (mm_rho ad)).reverse ++ .ref (ad 0) :: rest)) := by
  have hsub : ∀ (k : Nat) (q : Nat × va_E), (mm_wd ad a3 Y σ)[k]? = some q → (lx_wd ad a3 Y (hx_e qo cJ f) σ)[k]? = some q := fun k q hk => by
    unfold lx_wd; rw [List.getElem?_append_left (List.getElem?_eq_some_iff.mp hk).1]; exact hk
  have hPm : va_P D cl (mm_wd ad a3 Y σ) s.heap := fun k q hk => hP k q (hsub k q hk)
  have hDs := hD.self (sz := s.heap.size)
  have hDm : va_D (fun _ => True) (mm_wd ad a3 Y σ) := ⟨fun i j x y hx hy => hD.1 i j x y (hsub i x hx) (hsub j y hy), fun _ _ _ => trivial⟩
  have hA1 : ∀ q, va_A (mm_wd ad a3 Y σ) s.heap.size q → va_A (lx_wd ad a3 Y (hx_e qo cJ f) σ) s.heap.size q := fun q hq => by
    rcases hq with ⟨k9, e9, h9⟩ | h9
    · exact Or.inl ⟨k9, e9, hsub _ _ h9⟩
    · exact Or.inr h9
  have he : (mm_wd ad a3 Y σ)[0]? = some (ad 0, .inr (0, mm_fv ad (σ 0) 0 fs)) := by
    rw [mm_wd_get (mm_kd_lt (by rw [hkd]; exact fun z => nomatch z))]; simp only [mm_ce, hkd]
  obtain ⟨Tc, Nc, hclc⟩ := hcl
  have hws : ∀ w ∈ mx_ws Ts nx bx mxx ret y, ∀ (a' : Array Value) (U : State), s.WarmedH U.vm → w.before a' U = true := fun w hw a' U hW => by
    rcases List.mem_cons.mp hw with h9 | h9
    · subst h9
      exact word_at hW (good_of_word (hgood _ hcode)) (hts _ hcode)
    · exact word_at hW (good_of_word (hgood _ h9)) (hts _ h9)
  refine mx_callV (A1 := va_A (mm_wd ad a3 Y σ) s.heap.size) (A := va_A (lx_wd ad a3 Y (hx_e qo cJ f) σ) s.heap.size) (n := n) (b := ad 0) (As := as.map (mm_rho ad)) (rest := rest) (rm := mx_rm d) hx hb hown (hts _ hlink) (hts _ hinst) (hts _ hsel) (hts _ hcode) (fun a' U hW => word_at hW (good_of_word (hgood _ hini)) (hts _ hini)) hnm hdesc (by rw [List.length_map]; exact has) (hT s.heap.size) hws (va_recv hK hPm hclc he)
    (fun U g mk hU hW => ⟨rfl, ⟨by show U.heap.size = s.heap.size; rw [hU], by show va_P D cl _ U.heap; rw [hU]; exact hPm, va_K.moved (u := U) (U := U.calling g mk _) (Vm.Alike.refl U.vm) (va_K.moved hW.alike hK), hDm, mm_G.moved (u := U) (U := U.calling g mk _) (Vm.Alike.refl U.vm) (by show mm_G ad _ U U.heap; rw [hU]; exact (hG0.narrow hA1).moved hW.alike)⟩, by
      have h9 : mx_N dc st sa (va_A (mm_wd ad a3 Y σ) s.heap.size) U U.heap := by
        rw [hU]
        exact (hN.narrow (fun q hq h8 => hA1 q h8)).moved hW
      exact mx_N.same (u := U) rfl h9⟩)
    (hlv.1.trans hml.symm) hrest hdg (by show d + 8 + 1 ≤ d + 9; omega) (by show 8 + (mxx y + 11) + (40 * d + 200) ≤ 40 * d + 240; omega) (by show 0 + 1 ≤ 1; omega) (by show 0 + 6 ≤ 6; omega) va_S.rf hA1 ?_ ?_
  · intro v σ' H1 locs1 hq hP2 hD2 hS2 hgr hkeep
    obtain ⟨hP3, hD3⟩ := lx_join hP hDs hP2 hkeep
    exact kr v σ' H1 locs1 hq hP3 hD3 hS2
  · intro q E σ' ce H1 locs1 hxq hce hcv hcls hP2 hD2 hS2 hgr hkeep
    obtain ⟨hP3, hD3⟩ := lx_join hP hDs hP2 hkeep
    obtain ⟨v, ⟨pre, x, suf, name, hsplit, hpass, hcov, h0, hlk, hcs, hhc⟩, hHQ⟩ := hX E σ' hxq
    refine mx_catch hown pre x suf hsplit (fun z hz => ?_) hcov h0 (hts _ hlk) (va_Nw.use rfl (hC.1 _ hcs)) hce hcv hcls (hx_hand hx hb hr hlocks hhc hlv hP3 hS2 hHQ (by omega) (by omega))
    obtain ⟨hz0, nm, h1, h2⟩ := hpass z hz
    exact ⟨hz0, nm, hts _ h1, hx_ncuse (hC.2 _ h2)⟩
end HX
end
section
/-! the law's own walk: script, out, helpers, switch -/
theorem hx_blind {l : Launch} {D : va_G} {cl : List vw_C} {tys : List (ClassId × FieldType)} {ad : Nat → Nat} {a3 : ClassId × ClassId × ClassId} {Y : mm_Y} {qo : Nat} {cJ : ClassId} {f : Nat → Int64} {σ : mm_S} {dc : List MethodName} {st : mx_St} {sa : Nat → Nat} {cs ns : List (String × String)} {sz : Nat} {av : List Value} :
    FrameBlind (va_Pc av (fun U => U.heap.size = sz ∧ va_P D cl (lx_wd ad a3 Y (hx_e qo cJ f) σ) U.heap ∧ va_K D cl tys U ∧ va_K D cl [(cJ, .long)] U ∧ va_D (fun _ => True) (lx_wd ad a3 Y (hx_e qo cJ f) σ) ∧ mx_N dc st sa (va_A (lx_wd ad a3 Y (hx_e qo cJ f) σ) sz) U U.heap ∧ mm_G ad (va_A (lx_wd ad a3 Y (hx_e qo cJ f) σ) sz) U U.heap ∧ hx_N cs ns U)) := by
  intro a U g mk q
  obtain ⟨q0, q1, qP, qK, qJ, qD, qN, qG, qC⟩ := q
  exact ⟨q0, q1, qP, va_K.moved (u := U) (U := U.calling g mk a) (Vm.Alike.refl U.vm) qK, va_K.moved (u := U) (U := U.calling g mk a) (Vm.Alike.refl U.vm) qJ, qD, mx_N.same (u := U) (U := U.calling g mk a) rfl qN, mm_G.moved (u := U) (U := U.calling g mk a) (Vm.Alike.refl U.vm) qG, hx_N.moved (s := U) (U := U.calling g mk a) (State.WarmedH.refl U) qC⟩
abbrev hx_M : Type := Nat → MethodName × ByteArray × Nat × List (Nat × Nat × Nat × Nat) × Nat
def hx_T (l : Launch) (Ts : List Cond) (hm : hx_M) (D : va_G) (cl : List vw_C) (tys : List (ClassId × FieldType)) (ad : Nat → Nat) (a3 : ClassId × ClassId × ClassId) (Y : mm_Y) (cJ : ClassId) (dc : List MethodName) (st : mx_St) (sa : Nat → Nat) (cs ns : List (String × String)) (d y : Nat) (as : List Value) (σ : mm_S) (f : Nat → Int64) (HQ : Int32 → mm_S → (Nat → Int64) → Prop) : Prop :=
  ∀ sz, Met l (hm y).1 (Cond.codeWith (hm y).1 (hm y).2.1 (hm y).2.2.1 (some .int) (hm y).2.2.2.1 :: Ts) (hx_rm d) (va_Pc (as.map (mm_rho ad)) (fun U => U.heap.size = sz ∧ va_P D cl (lx_wd ad a3 Y (hx_e (ad 201) cJ f) σ) U.heap ∧ va_K D cl tys U ∧ va_K D cl [(cJ, .long)] U ∧ va_D (fun _ => True) (lx_wd ad a3 Y (hx_e (ad 201) cJ f) σ) ∧ mx_N dc st sa (va_A (lx_wd ad a3 Y (hx_e (ad 201) cJ f) σ) sz) U U.heap ∧ mm_G ad (va_A (lx_wd ad a3 Y (hx_e (ad 201) cJ f) σ) sz) U U.heap ∧ hx_N cs ns U))
    (hx_Q D cl ad a3 Y (ad 201) cJ (va_A (lx_wd ad a3 Y (hx_e (ad 201) cJ f) σ) sz) HQ) 1 6 (va_A (lx_wd ad a3 Y (hx_e (ad 201) cJ f) σ) sz)
theorem hx_rm_c (d : Nat) : (hx_rm d).cells = 1 := rfl
theorem hx_rm_f (d : Nat) : (hx_rm d).frames = d + 9 := rfl
theorem hx_rm_l (d : Nat) : (hx_rm d).locals = 40 * d + 240 := rfl
theorem hx_rm_ok1 {d R : Nat} (h : d + 10 ≤ R) : (hx_rm d).frames + 1 ≤ R := h
theorem hx_rm_ok {d a R : Nat} (h : 40 * d + 280 ≤ R) (ha : a ≤ 21) : 8 + (a + 11) + (hx_rm d).locals ≤ R := by rw [hx_rm_l]; omega
theorem hx_rm_s (d : Nat) : (hx_rm d).slots = 6 := rfl
section LXr
variable {p : Program} {l : Launch} {e : Env} {R : Room} {s : State} {m : MethodId} {args : Array Value} {below : List Frame} {meth : Method} {c : Code} {H : Heap} {locs : List Loc} {cells slots : Nat}
/-- a static call of a method with an exception table -/
theorem hx_runS {y : MethodName} {bytes cc : ByteArray} {maxL mc ms n index : Nat} {ret : Option FieldType} {hh : List (Nat × Nat × Nat × Nat)} {ws : List Cond} {rm : Room} {Pc : Array Value → State → Prop} {Qc : Array Value → State → Outcome → State → Prop} {free : Addr → Prop} {own : String} {As rest : List Value} {g : JFrame}
    (hx : p.tables.exec = Jvm.exec) (hb : c.code = cc) (ho : s.vm.findClass own = some m.cls) (hM : Met l y ws rm Pc Qc mc ms free) (hblind : FrameBlind Pc) (hrc : rm.cells = mc) (hrs : rm.slots = ms) (hfr : rm.frames + 1 ≤ R.frames) (hlo : 8 + (maxL + 11) + rm.locals ≤ R.locals)
    (hws : ∀ w ∈ ws, ∀ (a' : Array Value) (U : State), s.WarmedH U.vm → w.before a' U = true) (hcw : Cond.codeWith y bytes maxL ret hh ∈ ws) (hini : (Cond.initialized y.cls).before args s = true) (hl : (Cond.methodLink own index y).before args s = true) (hstt : (Cond.static y).before args s = true) (hy : y.cls ≠ "java/lang/invoke/MethodHandle" ∧ y.cls ≠ "java/lang/invoke/VarHandle")
    (hlen : (parseMethodDescriptor y.desc).map (fun d => d.parameters.length) = some n) (hPc : ∀ U : State, U.heap = H → s.WarmedH U.vm → Pc As.toArray U)
    (hg : g.method = m) (hn : As.length = n) (hsize : g.locals.size = c.maxLocals) (hstack : g.stack = As.reverse ++ rest) (hW : 2 * g.monitorRoom + (rest.map fun v => v.category).sum ≤ 8) (hdg : decode cc g.pc = .ok (.invokestatic index, 3)) (hf : cells + mc ≤ R.cells ∧ slots + ms ≤ R.slots) :
    va_Run p l e R s m args below meth c H locs cells slots mc ms g rest (Qc As.toArray) (free) := by
  have hK : Back l R p e below s args y 3 8 (PreOf R mc ms Pc) (PostOf Qc mc ms free) := va_backW (hh := hh) (bytes := bytes) (maxL := maxL) (ret := ret) hM hblind hrc hrs hfr hlo hws hcw (fun a' U hW => word_at hW (Or.inl (by first | rfl | simp [Cond.onTables, Cond.keeps, Cond.steady])) hini)
  intro T hT X
  have hcode : (Cond.codeWith y bytes maxL ret hh).before args s = true := hws _ hcw args s (State.WarmedH.refl s)
  obtain ⟨mk, methM, cM, hnamed, hmethM, -, -, -, -, -, -, hsigM⟩ := Cond.codeWith_spec hcode
  have hstatic : methM.isStatic = true := Cond.static_spec hnamed hmethM hstt
  obtain ⟨kP, hkP, -⟩ := className_of_methodNamed hnamed
  have hinitP : kP.init = .initialized := Cond.initialized_spec (findClass_of_methodNamed hnamed) hkP hini
  have hln : As.length = methM.sig.parameters.length := by
    rw [hsigM] at hlen
    have := Option.some.inj hlen
    rw [hn]; exact this.symm
  obtain ⟨vm₁, X₁, hstep₁⟩ := X.invokestatic hx ho hl hnamed hmethM hstatic hkP hinitP hy (g := g) hg (argsL := As) (rest := rest) hln hstack (by rw [hb]; exact hdg)
  obtain ⟨v, ⟨U', l2, c2, s2⟩, X', ⟨g', mk', t, L, e1, e2, hq, h1, hL, h2, h3⟩, hsteps⟩ := hK m meth c ⟨T.setVm vm₁, locs, cells, slots⟩ { g with stack := rest } (.invokestatic index) mk As.toArray X₁ hg hsize (by rw [hb]; exact hdg) hW (X₁.named hnamed) ⟨hf.1, hf.2, hPc (T.setVm vm₁) hT X₁.warmed⟩
  dsimp only [Pt.U, Pt.locs, Pt.cells, Pt.slots] at X' e1 e2 h1 h2 h3 hsteps
  subst h1; subst h2; subst h3
  exact ⟨v, (T.setVm vm₁).calling g' mk' As.toArray, t, U', L, hT, X', hL, e1, e2, hq, fun target h => hstep₁ _ fun acts => by rw [doInvoke_state]; exact hsteps.trans h⟩
variable {D : va_G} {cl : List vw_C} {A : Nat → Prop} {ad : Nat → Nat} {a3 : ClassId × ClassId × ClassId} {Y : mm_Y} {cJ : ClassId} {f : Nat → Int64} {σ : mm_S} {HQ : Int32 → mm_S → (Nat → Int64) → Prop} {cc : ByteArray} {ls : Array Slot} {Ts : List Cond} {own : String} {tys : List (ClassId × FieldType)} {dc : List MethodName} {st : mx_St} {sa : Nat → Nat} {cs ns : List (String × String)} {hm : hx_M}
/-- how the law calls helper y -/
def hx_ok (Ts : List Cond) (own : String) (cc : ByteArray) (hm : hx_M) (pc y : Nat) : Prop := ∃ idx : Nat, decode cc pc = .ok (.invokestatic idx, 3) ∧ (hm y).2.2.1 ≤ 21 ∧ Cond.codeWith (hm y).1 (hm y).2.1 (hm y).2.2.1 (some .int) (hm y).2.2.2.1 ∈ Ts ∧ Cond.methodLink own idx (hm y).1 ∈ Ts ∧ Cond.initialized (hm y).1.cls ∈ Ts ∧ Cond.static (hm y).1 ∈ Ts ∧
  ((hm y).1.cls ≠ "java/lang/invoke/MethodHandle" ∧ (hm y).1.cls ≠ "java/lang/invoke/VarHandle") ∧ (parseMethodDescriptor (hm y).1.desc).map (fun d => d.parameters.length) = some (hm y).2.2.2.2
set_option maxHeartbeats 1000000 in
theorem hx_help {d y pc : Nat} {as r : List Value} {Qf : State → Prop} (hx : p.tables.exec = Jvm.exec) (hb : c.code = cc) (hown : s.vm.findClass own = some m.cls) (hts : ∀ w ∈ Ts, w.before args s = true) (hgood : ∀ w ∈ Ts, goodWord w = true) (hK : va_K D cl tys s) (hJ : va_K D cl [(cJ, .long)] s)
    (hN : mx_N dc st sa A s s.heap) (hG0 : mm_G ad A s s.heap) (hC : hx_N cs ns s) (hP : va_P D cl (lx_wd ad a3 Y (hx_e (ad 201) cJ f) σ) H) (hD : va_D A (lx_wd ad a3 Y (hx_e (ad 201) cJ f) σ)) (hS : va_S A s.heap H locs) (hA : ∀ q, s.heap.size ≤ q → A q)
    (hT : hx_T l Ts hm D cl tys ad a3 Y cJ dc st sa cs ns d y as σ f HQ) (hok : hx_ok Ts own cc hm pc y) (has : as.length = (hm y).2.2.2.2) (hr8 : mm_c1 8 r = true) (hsize : ls.size = c.maxLocals) (hfr : d + 10 ≤ R.frames) (hlo : 40 * d + 280 ≤ R.locals) (hce : cells + 1 ≤ R.cells) (hsl : slots + 6 ≤ R.slots)
    (kk : ∀ (k : Int32) (σ' : mm_S) (f' : Nat → Int64) (H1 : Heap) (locs1 : List Loc), HQ k σ' f' → va_P D cl (lx_wd ad a3 Y (hx_e (ad 201) cJ f') σ') H1 → va_D A (lx_wd ad a3 Y (hx_e (ad 201) cJ f') σ') → va_S A s.heap H1 locs1 → W p l e R s m args below meth c H1 locs1 (cells + 1) (slots + 6) Qf (F0 m (pc + 3) ls ((.int k :: r).map (mm_rho ad)))) :
    W p l e R s m args below meth c H locs cells slots Qf (F0 m pc ls ((as.reverse ++ r).map (mm_rho ad))) := by
  obtain ⟨idx, hdg, hmx, hcode, hlink, hini, hst, hy, hdesc⟩ := hok
  obtain ⟨hr, hrcat⟩ := mm_c1_el hr8
  have hA1 : ∀ q, va_A (lx_wd ad a3 Y (hx_e (ad 201) cJ f) σ) H.size q → A q := fun q hq => by
    rcases hq with ⟨k9, e9, h9⟩ | h9
    · exact hD.2 k9 (q, e9) h9
    · exact hA q (Nat.le_trans hS.1 h9)
  have hstk : (as.reverse ++ r).map (mm_rho ad) = (as.map (mm_rho ad)).reverse ++ r.map (mm_rho ad) := by simp
  rw [hstk]
  have hrun := hx_runS (p := p) (l := l) (e := e) (R := R) (s := s) (m := m) (args := args) (below := below) (meth := meth) (c := c) (H := H) (locs := locs) (cells := cells) (slots := slots) (y := (hm y).1) (bytes := (hm y).2.1) (maxL := (hm y).2.2.1) (ret := some .int) (hh := (hm y).2.2.2.1) (rm := hx_rm d) (As := as.map (mm_rho ad)) (rest := r.map (mm_rho ad)) (g := F0 m pc ls ((as.map (mm_rho ad)).reverse ++ r.map (mm_rho ad))) hx hb hown (hT H.size) (hx_blind (l := l)) (hx_rm_c d) (hx_rm_s d) (hx_rm_ok1 hfr) (hx_rm_ok hlo hmx)
    (fun w hw a' U hW => by
      rcases List.mem_cons.mp hw with h9 | h9
      · subst h9
        exact word_at hW (good_of_word (hgood _ hcode)) (hts _ hcode)
      · exact word_at hW (good_of_word (hgood _ h9)) (hts _ h9)) List.mem_cons_self (hts _ hini) (hts _ hlink) (hts _ hst) hy hdesc
    (fun U hU hW => ⟨rfl, by rw [hU], by rw [hU]; exact hP, va_K.moved hW.alike hK, va_K.moved hW.alike hJ, hD.weaken (fun _ _ _ _ => trivial), by
      rw [hU]
      exact ((hN.kept hS.2.1).narrow (fun q hq h8 => hA1 q h8)).moved hW, by rw [hU]; exact ((hG0.kept hS.2.1).narrow hA1).moved hW.alike, hC.moved hW⟩)
    rfl (by rw [List.length_map]; exact has) hsize rfl (lv_room (by rw [mm_cat_le ad r hrcat]; exact hr)) hdg ⟨hce, hsl⟩
  intro T hT' X
  obtain ⟨v, st₀, t, T', L, h0, X', hL, e1, e2, ⟨⟨k, σ', f', hv, hq, hP1⟩, hz, hk⟩, stp⟩ := hrun T hT' X
  cases hv
  rw [h0] at hz hk
  rw [← e1] at hP1 hz hk
  obtain ⟨t2, a1, b1⟩ := kk k σ' f' T'.heap (locs ++ L) hq hP1 (lx_Dad (lx_wd_ad (ext' := hx_e (ad 201) cJ f') (ext := hx_e (ad 201) cJ f) (σ := σ) rfl) hD)
    ⟨Nat.le_trans hS.1 hz, fun q h1 h2 => by rw [hk q (Nat.lt_of_lt_of_le h1 hS.1) (fun z => h2 (hA1 q z))]; exact hS.2.1 q h1 h2, fun q hq => by
      rcases List.mem_append.mp hq with h | h
      · exact hS.2.2 q h
      · exact hA1 _ (hL q h)⟩ T' rfl X'
  exact ⟨t2, stp t2 a1, b1⟩
end LXr
end
section
/-! the law's machine -/
abbrev lx_X : Type := Nat → List (Option Value) → List Value → mm_S → (Nat → Int64) → Nat → Prop
abbrev lx_H : Type := Nat → List Value → mm_S → (Nat → Int64) → (Int32 → mm_S → (Nat → Int64) → Prop) → Prop
theorem lx_pop_el : ∀ (n : Nat) (acc S as r : List Value), mm_pop n acc S = some (as, r) → ∃ bs, as = bs ++ acc ∧ S = bs.reverse ++ r ∧ bs.length = n
  | 0, acc, S, as, r, h => by
    simp only [mm_pop, Option.some.injEq, Prod.mk.injEq] at h
    exact ⟨[], by simp [h.1], by simp [h.2], rfl⟩
  | n + 1, acc, v :: S, as, r, h => by
    simp only [mm_pop] at h
    obtain ⟨bs, h1, h2, h3⟩ := lx_pop_el n (v :: acc) S as r h
    exact ⟨bs ++ [v], by simp [h1], by simp [h2], by simp [h3]⟩
  | n + 1, acc, [], as, r, h => by simp [mm_pop] at h
def lx_ll (S : List Value) (K : Int64 → Int64 → List Value → Prop) : Prop := match S with
  | .long y :: .long x :: r => K y x r
  | _ => False
theorem lx_ll_el {S : List Value} {K : Int64 → Int64 → List Value → Prop} (h : lx_ll S K) : ∃ y x r, S = .long y :: .long x :: r ∧ K y x r := by
  unfold lx_ll at h; split at h
  · exact ⟨_, _, _, rfl, h⟩
  · exact h.elim
def lx_pp (n : Nat) (S : List Value) (K : List Value → List Value → Prop) : Prop := match mm_pop n [] S with
  | some (as, r) => K as r
  | none => False
theorem lx_pp_el {n : Nat} {S : List Value} {K : List Value → List Value → Prop} (h : lx_pp n S K) : ∃ as r, S = as.reverse ++ r ∧ as.length = n ∧ K as r := by
  unfold lx_pp at h; split at h
  · rename_i as r hpop
    obtain ⟨bs, e1, e2, e3⟩ := lx_pop_el _ _ _ _ _ hpop
    rw [List.append_nil] at e1
    subst e1
    exact ⟨_, _, e2, e3, h⟩
  · exact h.elim
/-- sp: what is special at which pc (0 script read, 1 its length, 2 out read, 3 i2l, 4 lcmp, 5 switch, 6 helper, 7 end); ar: a helper's number of arguments -/
def lx_one (Y : mm_Y) (C : mm_C) (HC : lx_H) (M : mm_M) (sp : List (Nat × Nat × Nat)) (ar : Nat → Nat) (sw : Int32 → Nat) (xs : Nat → Int32) (len T : Nat) (X : lx_X) : lx_X := fun pc L S σ f t => match mm_look sp pc with
  | some (0, _) => mm_ir S (fun i k r => k = 200 ∧ vp_in i len ∧ X (pc + 1) L (.int (xs i.toNatClampNeg) :: r) σ f t)
  | some (1, _) => mm_r S (fun k r => k = 200 ∧ X (pc + 1) L (.int (Int32.ofNat len) :: r) σ f t)
  | some (2, _) => mm_ir S (fun i k r => k = 201 ∧ i = 0 ∧ X (pc + 1) L (.long (f 0) :: r) σ f t)
  | some (3, _) => mm_1 S (fun x r => X (pc + 1) L (.long x.toInt64 :: r) σ f t)
  | some (4, _) => lx_ll S (fun y x r => X (pc + 1) L (.int (lg_cmp x y) :: r) σ f t)
  | some (5, _) => mm_1 S (fun x r => X (sw x) L r σ f t)
  | some (6, y) => lx_pp (ar y) S (fun as r => mm_c1 8 r = true ∧ t < T ∧ HC y as σ f (fun k σ' f' => X (pc + 3) L (.int k :: r) σ' f' (t + 1)))
  | some (7, _) => S = [.int 1]
  | some _ => False
  | none => mm_one Y C M (fun _ _ => False) (fun pc L S σ => X pc L S σ f t) pc L S σ
def lx_W (Y : mm_Y) (C : mm_C) (HC : lx_H) (M : mm_M) (sp : List (Nat × Nat × Nat)) (ar : Nat → Nat) (sw : Int32 → Nat) (xs : Nat → Int32) (len T : Nat) : lx_X := fun pc L S σ f t => ∀ X : lx_X, (∀ pc L S σ f t, lx_one Y C HC M sp ar sw xs len T X pc L S σ f t → X pc L S σ f t) → X pc L S σ f t
def lx_sok (Ts : List Cond) (own : String) (cc : ByteArray) (hm : hx_M) (sw : Int32 → Nat) (q : Nat × Nat × Nat) : Prop := match q.2.1 with
  | 0 => decode cc q.1 = .ok (.iaload, 1)
  | 1 => decode cc q.1 = .ok (.arraylength, 1)
  | 2 => decode cc q.1 = .ok (.laload, 1)
  | 3 => decode cc q.1 = .ok (.i2l, 1)
  | 4 => decode cc q.1 = .ok (.lcmp, 1)
  | 5 => ∃ (dflt lo hi : Int) (offs : Array Int) (len : Nat), decode cc q.1 = .ok (.tableswitch dflt lo hi offs, len) ∧ ∀ x : Int32, ((x.toInt < lo ∨ hi < x.toInt) ∧ (q.1 : Int) + dflt = (sw x : Int)) ∨ (¬ x.toInt < lo ∧ ¬ hi < x.toInt ∧ ∃ off, offs[(x.toInt - lo).toNat]? = some off ∧ (q.1 : Int) + off = (sw x : Int))
  | 6 => hx_ok Ts own cc hm q.1 q.2.2
  | 7 => decode cc q.1 = .ok (.ireturn, 1)
  | _ => False
section LXs
variable {l : Launch} {Ts : List Cond} {nm : Nat → MethodName} {by_ : Nat → ByteArray} {mx : Nat → Nat} {D : va_G} {cl : List vw_C} {cI cZ cG cJ : ClassId} {ad : Nat → Nat} {Y : mm_Y} {B : mm_C} {yM ym : Nat}
variable {p : Program} {e : Env} {R : Room} {s : State} {m : MethodId} {args : Array Value} {below : List Frame} {meth : Method} {c : Code} {cc : ByteArray} {own : String} {nL d : Nat} {M : mm_M} {Qf : State → Prop} {A : Nat → Prop} {c0 s0 : Nat}
variable {dc : List MethodName} {st : mx_St} {sa : Nat → Nat} {cs ns : List (String × String)} {hm : hx_M} {HC : lx_H} {sp : List (Nat × Nat × Nat)} {sw : Int32 → Nat} {xs : Nat → Int32} {len T : Nat}
set_option maxHeartbeats 4000000 in
theorem lx_sound (hBm : mm_mono B) (hgood : ∀ w ∈ Ts, goodWord w = true) (hret : M.2.2.2.2 = 7)
    (hMn : nm yM = Lib.Math.max.name ∧ by_ yM = Lib.Math.max.code ∧ mx yM = 2 ∧ (mm_me Y yM).2.2.2.2 = 1 ∧ (mm_me Y yM).1 = []) (hmn : nm ym = Lib.Math.min.name ∧ by_ ym = Lib.Math.min.code ∧ mx ym = 2 ∧ (mm_me Y ym).2.2.2.2 = 1 ∧ (mm_me Y ym).1 = [])
    (hB : ∀ y as σ Q, B y as σ Q → (y ≠ yM ∧ y ≠ ym ∧ ∀ d, mm_T l Ts nm by_ mx D cl [(cI, .int), (cZ, .boolean), (cG, .array .int)] ad (cI, cZ, cG) Y d y as σ Q) ∨ (y = yM ∧ ∃ x z, as = [.int x, .int z] ∧ Q (some (.int (if x < z then z else x))) σ) ∨ (y ≠ yM ∧ y = ym ∧ ∃ x z, as = [.int x, .int z] ∧ Q (some (.int (if z < x then z else x))) σ))
    (hTT : ∀ y as σ Q, y ≠ yM → y ≠ ym → mm_D Y B mx d y as σ Q → mm_T l Ts nm by_ mx D cl [(cI, .int), (cZ, .boolean), (cG, .array .int)] ad (cI, cZ, cG) Y d y as σ Q)
    (hHC : ∀ y as σ f HQ, HC y as σ f HQ → hx_T l Ts hm D cl [(cI, .int), (cZ, .boolean), (cG, .array .int)] ad (cI, cZ, cG) Y cJ dc st sa cs ns d y as σ f HQ)
    (hx : p.tables.exec = Jvm.exec) (hb : c.code = cc) (hml : c.maxLocals = nL) (hown : s.vm.findClass own = some m.cls) (hts : ∀ w ∈ Ts, w.before args s = true) (hK : va_K D cl [(cI, .int), (cZ, .boolean), (cG, .array .int)] s) (hJ : va_K D cl [(cJ, .long)] s)
    (hE : M.1.all (mm_okE cc) = true) (hg : ∀ q ∈ M.2.1, mm_gok cl Ts own q.1 q.2.1 q.2.2) (hp : ∀ q ∈ M.2.2.1, mm_pok Y cl Ts own q.1 q.2.1 q.2.2) (hk : ∀ q ∈ M.2.2.2.1, mm_kok Ts nm by_ mx cl Y own q) (hld : ∀ (pc idx len t : Nat) (v : Int32), mm_look M.1 pc = some (.ldc_w idx, len, t, v) → Cond.constant own idx v ∈ Ts)
    (hsp : ∀ q ∈ sp, lx_sok Ts own cc hm sw q) (hN : mx_N dc st sa A s s.heap) (hG0 : mm_G ad A s s.heap) (hC : hx_N cs ns s) (hXs : va_X (ad 200) len xs s s.heap) (hbl : ad 200 < s.heap.size) (hbA : ¬ A (ad 200)) (hA : ∀ q, s.heap.size ≤ q → A q)
    (hfr : d + 10 ≤ R.frames) (hlo : 40 * d + 280 ≤ R.locals) (hce : c0 + T ≤ R.cells) (hsl : s0 + 6 * T ≤ R.slots)
    (hfin : ∀ (pc : Nat) (H : Heap) (locs : List Loc) (ls : Array Slot) (t : Nat), t ≤ T → decode cc pc = .ok (.ireturn, 1) → va_S A s.heap H locs → W p l e R s m args below meth c H locs (c0 + t) (s0 + 6 * t) Qf (F0 m pc ls [.int 1]))
    {pc : Nat} {L : List (Option Value)} {S : List Value} {σ : mm_S} {f : Nat → Int64} {t : Nat} (ht : t ≤ T) (h : lx_W Y (mm_D Y B mx d) HC M sp (fun y => (hm y).2.2.2.2) sw xs len T pc L S σ f t) :
    lx_V p l e R s m args below meth c D cl A ad (cI, cZ, cG) Y nL Qf (hx_e (ad 201) cJ f) (c0 + t) (s0 + 6 * t) pc L S σ := by
  have hG : ∀ y', Cond.code (nm y') (by_ y') (mx y') (mm_rty (mm_me Y y').2.2.2.2) ∈ Ts → GoodIn Ts (mm_ws Ts nm by_ mx Y y') := fun y' hy' w hw => by
    rcases List.mem_cons.mp hw with h9 | h9
    · subst h9
      exact ⟨hy', good_of_word (hgood _ hy')⟩
    · exact ⟨h9, good_of_word (hgood _ h9)⟩
  refine h (fun pc L S σ f t => t ≤ T → lx_V p l e R s m args below meth c D cl A ad (cI, cZ, cG) Y nL Qf (hx_e (ad 201) cJ f) (c0 + t) (s0 + 6 * t) pc L S σ) ?_ ht
  intro pc L S σ f t hone htT
  have hout : (lx_wd ad (cI, cZ, cG) Y (hx_e (ad 201) cJ f) σ)[(mm_wd ad (cI, cZ, cG) Y σ).length]? = some (ad 201, .inl (cJ, 1, .inr (.inl f))) := by
    unfold lx_wd hx_e
    rw [List.getElem?_append_right (Nat.le_refl _), Nat.sub_self]
    rfl
  unfold lx_one at hone
  cases hq : mm_look sp pc with
  | none =>
    simp only [hq] at hone
    have h9 : mm_one Y (mm_D Y B mx d) M (fun _ _ => False) (lx_V p l e R s m args below meth c D cl A ad (cI, cZ, cG) Y nL Qf (hx_e (ad 201) cJ f) (c0 + t) (s0 + 6 * t)) pc L S σ := mm_one_mono (mm_D_mono hBm d) (fun _ _ z => z) (fun pc L S σ z => z htT) pc L S σ hone
    exact lx_mstep hret hx hb hown hts hK rfl rfl rfl hE (fun idx ci j hq => hg _ (mm_look_mem hq)) (fun idx ci j hq => hp _ (mm_look_mem hq)) hld
      (lx_hc1 hMn hmn hB hTT hx hb hml hown hts hK hG hk (by omega) (by omega) hA (by omega) (by omega) hG0)
      (lx_hc0 hMn hmn hB hTT hx hb hml hown hts hK hG hk (by omega) (by omega) hA (by omega) (by omega) hG0) pc L S σ h9
  | some q =>
    obtain ⟨k, y⟩ := q
    have hs := hsp _ (mm_look_mem hq)
    simp only [hq] at hone
    match k with
    | 0 =>
      replace hone := mm_ir_el hone
      obtain ⟨i, k, r, rfl, rfl, hin, hone⟩ := hone
      intro H locs ls hP hD hS hl
      exact va_sld hx hb hXs hbl hbA hS hin hs (hone htT H locs ls hP hD hS hl)
    | 1 =>
      replace hone := mm_r_el hone
      obtain ⟨k, r, rfl, rfl, hone⟩ := hone
      intro H locs ls hP hD hS hl
      exact va_slen hx hb hXs hbl hbA hS hs (hone htT H locs ls hP hD hS hl)
    | 2 =>
      replace hone := mm_ir_el hone
      obtain ⟨i, k, r, rfl, rfl, rfl, hone⟩ := hone
      intro H locs ls hP hD hS hl
      exact va_lald hx hb hJ hP _ 0 hout rfl (by unfold vp_in; decide) hs (hone htT H locs ls hP hD hS hl)
    | 3 =>
      replace hone := mm_1_el hone
      obtain ⟨x, r, rfl, hone⟩ := hone
      intro H locs ls hP hD hS hl
      exact lv_i2l hx hb hs rfl (hone htT H locs ls hP hD hS hl)
    | 4 =>
      replace hone := lx_ll_el hone
      obtain ⟨y, x, r, rfl, hone⟩ := hone
      intro H locs ls hP hD hS hl
      exact W.lcmp hx hb hs (hone htT H locs ls hP hD hS hl)
    | 5 =>
      replace hone := mm_1_el hone
      obtain ⟨x, r, rfl, hone⟩ := hone
      obtain ⟨dflt, lo, hi, offs, len9, hdg, hsw⟩ := hs
      intro H locs ls hP hD hS hl
      rcases hsw x with ⟨h1, h2⟩ | ⟨h1, h2, off, h3, h4⟩
      · exact lv_tableOut hx hb hdg h1 h2 (hone htT H locs ls hP hD hS hl)
      · exact lv_tableIn hx hb hdg h1 h2 h3 h4 (hone htT H locs ls hP hD hS hl)
    | 6 =>
      replace hone := lx_pp_el hone
      obtain ⟨as, r, rfl, e3, hr8, htl, hone⟩ := hone
      intro H locs ls hP hD hS hl
      refine hx_help hx hb hown hts hgood hK hJ hN hG0 hC hP hD hS hA (hHC _ _ _ _ _ hone) hs e3 hr8 (hl.1.1.trans hml.symm) hfr hlo (by omega) (by omega) (fun k σ' f' H1 locs1 hq hP1 hD1 hS1 => ?_)
      exact hq (by omega) H1 locs1 ls hP1 hD1 hS1 hl
    | 7 =>
      have hone' : S = [.int 1] := hone
      subst hone'
      intro H locs ls hP hD hS hl
      exact hfin pc H locs ls t htT hs hS
    | n + 8 => exact hone.elim
end LXs
end
section
/-! contracts of the law's helpers -/
theorem hx_set {ad : Nat → Nat} {a3 : ClassId × ClassId × ClassId} {Y : mm_Y} {qo : Nat} {cJ : ClassId} {f g : Nat → Int64} {σ : mm_S} : (lx_wd ad a3 Y (hx_e qo cJ f) σ).set (mm_wd ad a3 Y σ).length (qo, .inl (cJ, 1, .inr (.inl g))) = lx_wd ad a3 Y (hx_e qo cJ g) σ := by
  unfold lx_wd hx_e
  rw [List.set_append_right _ _ (Nat.le_refl _), Nat.sub_self]
  rfl
/-- loads, in order -/
def hx_lok (cc : ByteArray) (lv : List (Nat × Value)) : Nat → List Value → Nat → Prop
  | pc, [], pe => pc = pe
  | pc, .int x :: r, pe => ∃ i, (i, Value.int x) ∈ lv ∧ ((∃ kf : Fin 4, kf.val = i ∧ decode cc pc = .ok (.iload_n kf, 1) ∧ hx_lok cc lv (pc + 1) r pe) ∨ (decode cc pc = .ok (.iload i, 2) ∧ hx_lok cc lv (pc + 2) r pe))
  | pc, .ref x :: r, pe => ∃ i, (i, Value.ref x) ∈ lv ∧ ∃ kf : Fin 4, kf.val = i ∧ decode cc pc = .ok (.aload_n kf, 1) ∧ hx_lok cc lv (pc + 1) r pe
  | _, _ :: _, _ => False
section HX2
variable {p : Program} {l : Launch} {e : Env} {R : Room} {s : State} {m : MethodId} {args : Array Value} {below : List Frame} {meth : Method} {c : Code} {H : Heap} {locs : List Loc} {cells slots : Nat} {Qf : State → Prop} {cc : ByteArray} {ls : Array Slot} {nL : Nat}
theorem hx_load (hx : p.tables.exec = Jvm.exec) (hb : c.code = cc) {lv : List (Nat × Value)} (hlv : lv_has ls nL lv) {pe : Nat} : ∀ (vs : List Value) (pc : Nat) (S : List Value), hx_lok cc lv pc vs pe → W p l e R s m args below meth c H locs cells slots Qf (F0 m pe ls (vs.reverse ++ S)) → W p l e R s m args below meth c H locs cells slots Qf (F0 m pc ls S)
  | [], pc, S, h, k => by
    have h' : pc = pe := h
    subst h'
    exact k
  | .int x :: r, pc, S, h, k => by
    obtain ⟨i, hi, h⟩ := h
    have hl := hlv.2.2 _ hi
    rcases h with ⟨kf, hk, hd, h⟩ | ⟨hd, h⟩
    · exact lv_iload_n hx hb hd hk hl (hx_load hx hb hlv r (pc + 1) (.int x :: S) h (by rw [List.reverse_cons, List.append_assoc] at k; exact k))
    · exact lv_iload hx hb hd hl (hx_load hx hb hlv r (pc + 2) (.int x :: S) h (by rw [List.reverse_cons, List.append_assoc] at k; exact k))
  | .ref x :: r, pc, S, h, k => by
    obtain ⟨i, hi, kf, hk, hd, h⟩ := h
    have hl := hlv.2.2 _ hi
    exact lv_aload_n hx hb hd hk hl (hx_load hx hb hlv r (pc + 1) (.ref x :: S) h (by rw [List.reverse_cons, List.append_assoc] at k; exact k))
  | .long _ :: _, _, _, h, _ => h.elim
  | .float _ :: _, _, _, h, _ => h.elim
  | .double _ :: _, _, _, h, _ => h.elim
  | .null :: _, _, _, h, _ => h.elim
  | .retAddr _ :: _, _, _, h, _ => h.elim
end HX2
section HX3
variable {l : Launch} {Ts : List Cond} {hm : hx_M} {D : va_G} {cl : List vw_C} {tys : List (ClassId × FieldType)} {ad : Nat → Nat} {a3 : ClassId × ClassId × ClassId} {Y : mm_Y} {cJ : ClassId} {dc : List MethodName} {st : mx_St} {sa : Nat → Nat} {cs ns : List (String × String)} {exn : Nat → String} {nx : Nat → MethodName} {bx : Nat → ByteArray} {mxx : Nat → Nat}
/-- what a helper's call of the class's method y asks of the words -/
def hx_cok (Ts : List Cond) (cl : List vw_C) (nx : Nat → MethodName) (bx : Nat → ByteArray) (mxx : Nat → Nat) (own : String) (cc : ByteArray) (pcI y n ret : Nat) : Prop := ∃ idx : Nat, decode cc pcI = .ok (.invokevirtual idx, 3) ∧ mxx y ≤ 21 ∧ Cond.code (nx y) (bx y) (mxx y) (mm_rty ret) ∈ Ts ∧ Cond.methodLink own idx (nx y) ∈ Ts ∧ Cond.initialized (nx y).cls ∈ Ts ∧
  ((nx y).cls ≠ "java/lang/invoke/MethodHandle" ∧ (nx y).cls ≠ "java/lang/invoke/VarHandle") ∧ (parseMethodDescriptor (nx y).desc).map (fun d => d.parameters.length) = some n ∧ Cond.instanceMethod (nx y) ∈ Ts ∧ Cond.selects (nx y).cls (nx y) (nx y) ∈ Ts ∧ ∃ T N, cl[0]? = some ((nx y).cls, T, N)
set_option maxHeartbeats 1000000 in
theorem hx_void {h y d ret pcI pe : Nat} {as : List Value} {σ : mm_S} {f : Nat → Int64} {Q : mm_Q} {XQ : Nat → mm_S → Prop} {HQ : Int32 → mm_S → (Nat → Int64) → Prop} {fs : List (Option Nat)} {off : Int} (hgood : ∀ w ∈ Ts, goodWord w = true) (hkd : mm_kd Y 0 = (0, 0, fs)) (hpl : plainName (hm h).1.cls = true)
    (hT : mx_T l Ts nx bx mxx D cl tys ad a3 Y dc st sa exn ret d y (.ref 0 :: as) σ Q XQ) (hc1 : mm_c1 (hm h).2.2.1 (.ref 0 :: as) = true) (hok : hx_cok Ts cl nx bx mxx (hm h).1.cls (hm h).2.1 pcI y as.length ret)
    (hlo : hx_lok (hm h).2.1 (lv_args 0 ((Value.ref 0 :: as).map (mm_rho ad))) 0 ((Value.ref 0 :: as).map (mm_rho ad)) pcI) (hgo : decode (hm h).2.1 (pcI + 3) = .ok (.goto off, 3)) (hoff : ((pcI + 3 : Nat) : Int) + off = (pe : Int)) (d0 : decode (hm h).2.1 pe = .ok (.iconst 0, 1)) (d1 : decode (hm h).2.1 (pe + 1) = .ok (.ireturn, 1))
    (hQ : ∀ v σ', Q v σ' → v = none ∧ HQ 0 σ' f) (hX : ∀ E σ', XQ E σ' → ∃ v, hx_han Ts cs ns (hm h).1.cls (hm h).2.1 (hm h).2.2.1 pcI (tableOf (hm h).2.2.2.1) (exn E) v ∧ HQ v σ' f) :
    hx_T l Ts hm D cl tys ad a3 Y cJ dc st sa cs ns d h (.ref 0 :: as) σ f HQ := by
  intro sz
  refine va_MetW (hh := (hm h).2.2.2.1) hpl rfl ?_
  intro p e s m args below meth c s₁ B0 hml hv
  obtain ⟨rfl, hsz, hP, hK, hJ, hD, hN, hG0, hC⟩ := hv
  subst hsz
  have hts0 := atoms_spec (ws := Cond.codeWith (hm h).1 (hm h).2.1 (hm h).2.2.1 (some .int) (hm h).2.2.2.1 :: Ts) B0.pre
  have htab : c.exceptionTable.toList = tableOf (hm h).2.2.2.1 := by
    obtain ⟨m9, meth9, c9, hn9, h1, h2, -, -, h7, -⟩ := Cond.codeWith_spec (hts0 _ List.mem_cons_self)
    cases Option.some.inj (hn9.symm.trans B0.named)
    cases Option.some.inj (h1.symm.trans B0.method)
    cases Option.some.inj (h2.symm.trans (Stand.of_body B0).code)
    rw [← h7, table_eq]
  have hx := B0.exec
  have hb := B0.bytes
  have hr := B0.returns
  have hlocks := B0.notSynchronized
  have hts : ∀ w ∈ Ts, w.before ((Value.ref 0 :: as).map (mm_rho ad)).toArray s = true := fun w hw => hts0 w (List.mem_cons_of_mem _ hw)
  have hown : s.vm.findClass (hm h).1.cls = some m.cls := findClass_of_methodNamed B0.named
  obtain ⟨hlen, hcat⟩ := mm_c1_el hc1
  have hcat' : ∀ v ∈ (Value.ref 0 :: as).map (mm_rho ad), v.category = 1 := fun v hv => by
    obtain ⟨w, hw, rfl⟩ := List.mem_map.mp hv
    rw [mm_rho_cat]
    exact hcat w hw
  have hl0 := lv_entry ((Value.ref 0 :: as).map (mm_rho ad)) (n := (hm h).2.2.1) (by rw [mm_sl_len _ hcat', List.length_map]; exact hlen)
  rw [lg_entry_eq]
  generalize (lg_sl ((Value.ref 0 :: as).map (mm_rho ad)) ++ List.replicate ((hm h).2.2.1 - (lg_sl ((Value.ref 0 :: as).map (mm_rho ad))).length) Slot.unset).toArray = ls0 at hl0 ⊢
  obtain ⟨idx, hdg, hmx, hcode, hlink, hini, hnm, hdesc, hinst, hsel, hcl⟩ := hok
  refine hx_load hx hb hl0 _ 0 [] hlo ?_
  have hstk : ((Value.ref 0 :: as).map (mm_rho ad)).reverse ++ [] = (as.map (mm_rho ad)).reverse ++ .ref (ad 0) :: [] := by simp [mm_rho]
  rw [hstk]
  refine hx_call (rest := []) hx hb hml hown hts hgood hK hr hlocks hN hG0 hC hP hD hT hcode hmx hlink hini hnm hdesc rfl hinst hsel hcl hkd hl0 (by simp) hdg (fun E σ' hx9 => by rw [htab]; exact hX E σ' hx9) (fun v σ' H1 locs1 hq hP1 hD1 hS1 => ?_)
  obtain ⟨rfl, hq2⟩ := hQ v σ' hq
  exact lv_goto hx hb hgo hoff (hx_fin (v := 0) hx hb hr hlocks rfl d0 d1 hP1 hS1 hq2 (by omega) (by omega))
set_option maxHeartbeats 1000000 in
theorem hx_out {h y d ret pcI pe io : Nat} {as : List Value} {σ : mm_S} {f : Nat → Int64} {Q : mm_Q} {XQ : Nat → mm_S → Prop} {HQ : Int32 → mm_S → (Nat → Int64) → Prop} {fs : List (Option Nat)} {off : Int} {kf : Fin 4} (hgood : ∀ w ∈ Ts, goodWord w = true) (hkd : mm_kd Y 0 = (0, 0, fs)) (hpl : plainName (hm h).1.cls = true)
    (hT : mx_T l Ts nx bx mxx D cl tys ad a3 Y dc st sa exn ret d y (.ref 0 :: as) σ Q XQ) (hc1 : mm_c1 (hm h).2.2.1 (Value.ref 0 :: as ++ [Value.ref 201]) = true) (hok : hx_cok Ts cl nx bx mxx (hm h).1.cls (hm h).2.1 pcI y as.length ret)
    (hio : (io, Value.ref (ad 201)) ∈ lv_args 0 ((Value.ref 0 :: as ++ [Value.ref 201]).map (mm_rho ad))) (hkf : kf.val = io) (g0 : decode (hm h).2.1 0 = .ok (.aload_n kf, 1)) (g1 : decode (hm h).2.1 1 = .ok (.iconst 0, 1))
    (hlo : hx_lok (hm h).2.1 (lv_args 0 ((Value.ref 0 :: as ++ [Value.ref 201]).map (mm_rho ad))) 2 ((Value.ref 0 :: as).map (mm_rho ad)) pcI) (gi : decode (hm h).2.1 (pcI + 3) = .ok (.i2l, 1)) (gl : decode (hm h).2.1 (pcI + 4) = .ok (.lastore, 1)) (hgo : decode (hm h).2.1 (pcI + 5) = .ok (.goto off, 3)) (hoff : ((pcI + 5 : Nat) : Int) + off = (pe : Int)) (d0 : decode (hm h).2.1 pe = .ok (.iconst 0, 1)) (d1 : decode (hm h).2.1 (pe + 1) = .ok (.ireturn, 1))
    (hQ : ∀ v σ', Q v σ' → ∃ x : Int32, v = some (.int x) ∧ HQ 0 σ' (vp_updL f 0 x.toInt64)) (hX : ∀ E σ', XQ E σ' → ∃ v, hx_han Ts cs ns (hm h).1.cls (hm h).2.1 (hm h).2.2.1 pcI (tableOf (hm h).2.2.2.1) (exn E) v ∧ HQ v σ' f) :
    hx_T l Ts hm D cl tys ad a3 Y cJ dc st sa cs ns d h (Value.ref 0 :: as ++ [Value.ref 201]) σ f HQ := by
  intro sz
  refine va_MetW (hh := (hm h).2.2.2.1) hpl rfl ?_
  intro p e s m args below meth c s₁ B0 hml hv
  obtain ⟨rfl, hsz, hP, hK, hJ, hD, hN, hG0, hC⟩ := hv
  subst hsz
  have hts0 := atoms_spec (ws := Cond.codeWith (hm h).1 (hm h).2.1 (hm h).2.2.1 (some .int) (hm h).2.2.2.1 :: Ts) B0.pre
  have htab : c.exceptionTable.toList = tableOf (hm h).2.2.2.1 := by
    obtain ⟨m9, meth9, c9, hn9, h1, h2, -, -, h7, -⟩ := Cond.codeWith_spec (hts0 _ List.mem_cons_self)
    cases Option.some.inj (hn9.symm.trans B0.named)
    cases Option.some.inj (h1.symm.trans B0.method)
    cases Option.some.inj (h2.symm.trans (Stand.of_body B0).code)
    rw [← h7, table_eq]
  have hx := B0.exec
  have hb := B0.bytes
  have hr := B0.returns
  have hlocks := B0.notSynchronized
  have hts : ∀ w ∈ Ts, w.before ((Value.ref 0 :: as ++ [Value.ref 201]).map (mm_rho ad)).toArray s = true := fun w hw => hts0 w (List.mem_cons_of_mem _ hw)
  have hown : s.vm.findClass (hm h).1.cls = some m.cls := findClass_of_methodNamed B0.named
  obtain ⟨hlen, hcat⟩ := mm_c1_el hc1
  have hcat' : ∀ v ∈ (Value.ref 0 :: as ++ [Value.ref 201]).map (mm_rho ad), v.category = 1 := fun v hv => by
    obtain ⟨w, hw, rfl⟩ := List.mem_map.mp hv
    rw [mm_rho_cat]
    exact hcat w hw
  have hl0 := lv_entry ((Value.ref 0 :: as ++ [Value.ref 201]).map (mm_rho ad)) (n := (hm h).2.2.1) (by rw [mm_sl_len _ hcat', List.length_map]; exact hlen)
  rw [lg_entry_eq]
  generalize (lg_sl ((Value.ref 0 :: as ++ [Value.ref 201]).map (mm_rho ad)) ++ List.replicate ((hm h).2.2.1 - (lg_sl ((Value.ref 0 :: as ++ [Value.ref 201]).map (mm_rho ad))).length) Slot.unset).toArray = ls0 at hl0 ⊢
  obtain ⟨idx, hdg, hmx, hcode, hlink, hini, hnm, hdesc, hinst, hsel, hcl⟩ := hok
  refine lv_aload_n hx hb g0 hkf (hl0.2.2 _ hio) (lv_iconst hx hb g1 (v := 0) rfl ?_)
  refine hx_load hx hb hl0 _ 2 [.int 0, .ref (ad 201)] hlo ?_
  have hstk : ((Value.ref 0 :: as).map (mm_rho ad)).reverse ++ [.int 0, .ref (ad 201)] = (as.map (mm_rho ad)).reverse ++ .ref (ad 0) :: [.int 0, .ref (ad 201)] := by simp [mm_rho]
  rw [hstk]
  refine hx_call (rest := [.int 0, .ref (ad 201)]) hx hb hml hown hts hgood hK hr hlocks hN hG0 hC hP hD hT hcode hmx hlink hini hnm hdesc rfl hinst hsel hcl hkd hl0 (by show 1 + (1 + 0) ≤ 8; omega) hdg (fun E σ' hx9 => by rw [htab]; exact hX E σ' hx9) (fun v σ' H1 locs1 hq hP1 hD1 hS1 => ?_)
  obtain ⟨x, rfl, hq2⟩ := hQ v σ' hq
  have hout : (lx_wd ad a3 Y (hx_e (ad 201) cJ f) σ')[(mm_wd ad a3 Y σ').length]? = some (ad 201, .inl (cJ, 1, .inr (.inl f))) := by
    unfold lx_wd hx_e
    rw [List.getElem?_append_right (Nat.le_refl _), Nat.sub_self]
    rfl
  refine lv_i2l hx hb gi (v := x.toInt64) rfl ?_
  refine va_last hx hb hJ hP1 hD1 hS1 _ 0 hout rfl (by unfold vp_in; decide) gl (fun H2 locs2 hP2 hD2 hS2 => ?_)
  rw [hx_set] at hP2
  exact lv_goto hx hb hgo hoff (hx_fin (v := 0) hx hb hr hlocks rfl d0 d1 hP2 hS2 hq2 (by omega) (by omega))
end HX3
end
end
section
-- ===== PART A: goes FIRST, ahead of the names: the tables' words, and 'selects' of the private methods out of them =====
/-- a private method of a class that the tables say can be made, by its rows of tables_1 -/
def lw_okq (q : MethodName × Nat) : Prop := (q.1.cls ≠ "java/lang/invoke/MethodHandle" ∧ q.1.cls ≠ "java/lang/invoke/VarHandle") ∧ Cond.instantiable q.1.cls q.2 ∈ tables_1 ∧ Cond.privateMethod q.1 ∈ tables_1 ∧ Cond.instanceMethod q.1 ∈ tables_1
theorem lw_p0 : lw_okq (⟨"HouseDesk$Crossings", "findTwoJoins", "(LHouseDesk$Witness;)Z"⟩, 1) := ⟨⟨by decide +kernel, by decide +kernel⟩, List.mem_of_getElem? (i := 127) (by decide +kernel), List.mem_of_getElem? (i := 363) (by decide +kernel), List.mem_of_getElem? (i := 364) (by decide +kernel)⟩
theorem lw_p1 : lw_okq (⟨"HouseDesk$Crossings", "touches", "(II)Z"⟩, 1) := ⟨⟨by decide +kernel, by decide +kernel⟩, List.mem_of_getElem? (i := 127) (by decide +kernel), List.mem_of_getElem? (i := 367) (by decide +kernel), List.mem_of_getElem? (i := 368) (by decide +kernel)⟩
theorem lw_p2 : lw_okq (⟨"HouseDesk$Crossings", "liesOn", "(II)Z"⟩, 1) := ⟨⟨by decide +kernel, by decide +kernel⟩, List.mem_of_getElem? (i := 127) (by decide +kernel), List.mem_of_getElem? (i := 371) (by decide +kernel), List.mem_of_getElem? (i := 372) (by decide +kernel)⟩
theorem lw_p3 : lw_okq (⟨"HouseDesk$Crossings", "crosses", "(II)Z"⟩, 1) := ⟨⟨by decide +kernel, by decide +kernel⟩, List.mem_of_getElem? (i := 127) (by decide +kernel), List.mem_of_getElem? (i := 392) (by decide +kernel), List.mem_of_getElem? (i := 393) (by decide +kernel)⟩
theorem lw_p4 : lw_okq (⟨"HouseDesk$Crossings", "parts", "(II)Z"⟩, 1) := ⟨⟨by decide +kernel, by decide +kernel⟩, List.mem_of_getElem? (i := 127) (by decide +kernel), List.mem_of_getElem? (i := 396) (by decide +kernel), List.mem_of_getElem? (i := 397) (by decide +kernel)⟩
theorem lw_p5 : lw_okq (⟨"HouseDesk$Crossings", "findRoomOnJoin", "(LHouseDesk$Witness;)Z"⟩, 1) := ⟨⟨by decide +kernel, by decide +kernel⟩, List.mem_of_getElem? (i := 127) (by decide +kernel), List.mem_of_getElem? (i := 404) (by decide +kernel), List.mem_of_getElem? (i := 405) (by decide +kernel)⟩
theorem lw_p6 : lw_okq (⟨"HouseDesk$Walks", "orderJoins", "()V"⟩, 8) := ⟨⟨by decide +kernel, by decide +kernel⟩, List.mem_of_getElem? (i := 137) (by decide +kernel), List.mem_of_getElem? (i := 428) (by decide +kernel), List.mem_of_getElem? (i := 429) (by decide +kernel)⟩
theorem lw_p7 : lw_okq (⟨"HouseDesk$Walks", "nextClockwise", "(II)I"⟩, 8) := ⟨⟨by decide +kernel, by decide +kernel⟩, List.mem_of_getElem? (i := 137) (by decide +kernel), List.mem_of_getElem? (i := 432) (by decide +kernel), List.mem_of_getElem? (i := 433) (by decide +kernel)⟩
theorem lw_p8 : lw_okq (⟨"HouseDesk$Walks", "isSooner", "(IIII)Z"⟩, 8) := ⟨⟨by decide +kernel, by decide +kernel⟩, List.mem_of_getElem? (i := 137) (by decide +kernel), List.mem_of_getElem? (i := 440) (by decide +kernel), List.mem_of_getElem? (i := 441) (by decide +kernel)⟩
theorem lw_p9 : lw_okq (⟨"HouseDesk$Walks", "westmost", "()I"⟩, 8) := ⟨⟨by decide +kernel, by decide +kernel⟩, List.mem_of_getElem? (i := 137) (by decide +kernel), List.mem_of_getElem? (i := 445) (by decide +kernel), List.mem_of_getElem? (i := 446) (by decide +kernel)⟩
theorem lw_p10 : lw_okq (⟨"HouseDesk$Walks", "isFurtherWest", "(II)Z"⟩, 8) := ⟨⟨by decide +kernel, by decide +kernel⟩, List.mem_of_getElem? (i := 137) (by decide +kernel), List.mem_of_getElem? (i := 450) (by decide +kernel), List.mem_of_getElem? (i := 451) (by decide +kernel)⟩
theorem lw_p11 : lw_okq (⟨"HouseDesk$Walks", "northmostFrom", "(I)I"⟩, 8) := ⟨⟨by decide +kernel, by decide +kernel⟩, List.mem_of_getElem? (i := 137) (by decide +kernel), List.mem_of_getElem? (i := 454) (by decide +kernel), List.mem_of_getElem? (i := 455) (by decide +kernel)⟩
theorem lw_p12 : lw_okq (⟨"HouseDesk$Walks", "walkFace", "(II)V"⟩, 8) := ⟨⟨by decide +kernel, by decide +kernel⟩, List.mem_of_getElem? (i := 137) (by decide +kernel), List.mem_of_getElem? (i := 466) (by decide +kernel), List.mem_of_getElem? (i := 467) (by decide +kernel)⟩
theorem lw_p13 : lw_okq (⟨"HouseDesk$Sides", "stepsAlong", "(I)I"⟩, 3) := ⟨⟨by decide +kernel, by decide +kernel⟩, List.mem_of_getElem? (i := 182) (by decide +kernel), List.mem_of_getElem? (i := 497) (by decide +kernel), List.mem_of_getElem? (i := 498) (by decide +kernel)⟩
theorem lw_p14 : lw_okq (⟨"HouseDesk$Sides", "lastOf", "(I)I"⟩, 3) := ⟨⟨by decide +kernel, by decide +kernel⟩, List.mem_of_getElem? (i := 182) (by decide +kernel), List.mem_of_getElem? (i := 501) (by decide +kernel), List.mem_of_getElem? (i := 502) (by decide +kernel)⟩
theorem lw_p15 : lw_okq (⟨"HouseDesk$Sides", "looseThird", "(II)I"⟩, 3) := ⟨⟨by decide +kernel, by decide +kernel⟩, List.mem_of_getElem? (i := 182) (by decide +kernel), List.mem_of_getElem? (i := 525) (by decide +kernel), List.mem_of_getElem? (i := 526) (by decide +kernel)⟩
def lw_privs_1 : List (MethodName × Nat) := [(⟨"HouseDesk$Crossings", "findTwoJoins", "(LHouseDesk$Witness;)Z"⟩, 1), (⟨"HouseDesk$Crossings", "touches", "(II)Z"⟩, 1), (⟨"HouseDesk$Crossings", "liesOn", "(II)Z"⟩, 1), (⟨"HouseDesk$Crossings", "crosses", "(II)Z"⟩, 1), (⟨"HouseDesk$Crossings", "parts", "(II)Z"⟩, 1), (⟨"HouseDesk$Crossings", "findRoomOnJoin", "(LHouseDesk$Witness;)Z"⟩, 1), (⟨"HouseDesk$Walks", "orderJoins", "()V"⟩, 8), (⟨"HouseDesk$Walks", "nextClockwise", "(II)I"⟩, 8), (⟨"HouseDesk$Walks", "isSooner", "(IIII)Z"⟩, 8), (⟨"HouseDesk$Walks", "westmost", "()I"⟩, 8), (⟨"HouseDesk$Walks", "isFurtherWest", "(II)Z"⟩, 8), (⟨"HouseDesk$Walks", "northmostFrom", "(I)I"⟩, 8), (⟨"HouseDesk$Walks", "walkFace", "(II)V"⟩, 8), (⟨"HouseDesk$Sides", "stepsAlong", "(I)I"⟩, 3), (⟨"HouseDesk$Sides", "lastOf", "(I)I"⟩, 3), (⟨"HouseDesk$Sides", "looseThird", "(II)I"⟩, 3)]
theorem lw_r1 : ∀ q ∈ lw_privs_1, lw_okq q := List.forall_mem_cons.mpr ⟨lw_p0, List.forall_mem_cons.mpr ⟨lw_p1, List.forall_mem_cons.mpr ⟨lw_p2, List.forall_mem_cons.mpr ⟨lw_p3, List.forall_mem_cons.mpr ⟨lw_p4, List.forall_mem_cons.mpr ⟨lw_p5, List.forall_mem_cons.mpr ⟨lw_p6, List.forall_mem_cons.mpr ⟨lw_p7, List.forall_mem_cons.mpr ⟨lw_p8, List.forall_mem_cons.mpr ⟨lw_p9, List.forall_mem_cons.mpr ⟨lw_p10, List.forall_mem_cons.mpr ⟨lw_p11, List.forall_mem_cons.mpr ⟨lw_p12, List.forall_mem_cons.mpr ⟨lw_p13, List.forall_mem_cons.mpr ⟨lw_p14, List.forall_mem_cons.mpr ⟨lw_p15, fun _ h => absurd h List.not_mem_nil⟩⟩⟩⟩⟩⟩⟩⟩⟩⟩⟩⟩⟩⟩⟩⟩
theorem lw_p16 : lw_okq (⟨"HouseDesk$Sides", "boundsFace", "(III)Z"⟩, 3) := ⟨⟨by decide +kernel, by decide +kernel⟩, List.mem_of_getElem? (i := 182) (by decide +kernel), List.mem_of_getElem? (i := 529) (by decide +kernel), List.mem_of_getElem? (i := 530) (by decide +kernel)⟩
theorem lw_p17 : lw_okq (⟨"HouseDesk$Sides", "follows", "(III)Z"⟩, 3) := ⟨⟨by decide +kernel, by decide +kernel⟩, List.mem_of_getElem? (i := 182) (by decide +kernel), List.mem_of_getElem? (i := 537) (by decide +kernel), List.mem_of_getElem? (i := 538) (by decide +kernel)⟩
theorem lw_p18 : lw_okq (⟨"HouseDesk$Layout", "listRooms", "(I)V"⟩, 12) := ⟨⟨by decide +kernel, by decide +kernel⟩, List.mem_of_getElem? (i := 199) (by decide +kernel), List.mem_of_getElem? (i := 563) (by decide +kernel), List.mem_of_getElem? (i := 564) (by decide +kernel)⟩
theorem lw_p19 : lw_okq (⟨"HouseDesk$Layout", "shiftOpen", "(II)V"⟩, 12) := ⟨⟨by decide +kernel, by decide +kernel⟩, List.mem_of_getElem? (i := 199) (by decide +kernel), List.mem_of_getElem? (i := 569) (by decide +kernel), List.mem_of_getElem? (i := 570) (by decide +kernel)⟩
theorem lw_p20 : lw_okq (⟨"HouseDesk$Layout", "orderRooms", "()V"⟩, 12) := ⟨⟨by decide +kernel, by decide +kernel⟩, List.mem_of_getElem? (i := 199) (by decide +kernel), List.mem_of_getElem? (i := 573) (by decide +kernel), List.mem_of_getElem? (i := 574) (by decide +kernel)⟩
theorem lw_p21 : lw_okq (⟨"HouseDesk$Layout", "choose", "(I)V"⟩, 12) := ⟨⟨by decide +kernel, by decide +kernel⟩, List.mem_of_getElem? (i := 199) (by decide +kernel), List.mem_of_getElem? (i := 580) (by decide +kernel), List.mem_of_getElem? (i := 581) (by decide +kernel)⟩
theorem lw_p22 : lw_okq (⟨"HouseDesk$Layout", "weigh", "()V"⟩, 12) := ⟨⟨by decide +kernel, by decide +kernel⟩, List.mem_of_getElem? (i := 199) (by decide +kernel), List.mem_of_getElem? (i := 584) (by decide +kernel), List.mem_of_getElem? (i := 585) (by decide +kernel)⟩
theorem lw_p23 : lw_okq (⟨"HouseDesk$Layout", "lookAround", "(II)V"⟩, 12) := ⟨⟨by decide +kernel, by decide +kernel⟩, List.mem_of_getElem? (i := 199) (by decide +kernel), List.mem_of_getElem? (i := 588) (by decide +kernel), List.mem_of_getElem? (i := 589) (by decide +kernel)⟩
theorem lw_p24 : lw_okq (⟨"HouseDesk$Layout", "hasCorner", "(III)Z"⟩, 12) := ⟨⟨by decide +kernel, by decide +kernel⟩, List.mem_of_getElem? (i := 199) (by decide +kernel), List.mem_of_getElem? (i := 596) (by decide +kernel), List.mem_of_getElem? (i := 597) (by decide +kernel)⟩
theorem lw_p25 : lw_okq (⟨"HouseDesk$Layout", "isSooner", "()Z"⟩, 12) := ⟨⟨by decide +kernel, by decide +kernel⟩, List.mem_of_getElem? (i := 199) (by decide +kernel), List.mem_of_getElem? (i := 600) (by decide +kernel), List.mem_of_getElem? (i := 601) (by decide +kernel)⟩
theorem lw_p26 : lw_okq (⟨"HouseDesk$Layout", "directionOf", "(I)I"⟩, 12) := ⟨⟨by decide +kernel, by decide +kernel⟩, List.mem_of_getElem? (i := 199) (by decide +kernel), List.mem_of_getElem? (i := 604) (by decide +kernel), List.mem_of_getElem? (i := 605) (by decide +kernel)⟩
theorem lw_p27 : lw_okq (⟨"HouseDesk$Layout", "canBeMet", "(I)Z"⟩, 12) := ⟨⟨by decide +kernel, by decide +kernel⟩, List.mem_of_getElem? (i := 199) (by decide +kernel), List.mem_of_getElem? (i := 610) (by decide +kernel), List.mem_of_getElem? (i := 611) (by decide +kernel)⟩
theorem lw_p28 : lw_okq (⟨"HouseDesk$Places", "meet", "(I)V"⟩, 6) := ⟨⟨by decide +kernel, by decide +kernel⟩, List.mem_of_getElem? (i := 245) (by decide +kernel), List.mem_of_getElem? (i := 618) (by decide +kernel), List.mem_of_getElem? (i := 619) (by decide +kernel)⟩
theorem lw_p29 : lw_okq (⟨"HouseDesk$Places", "axisOf", "(I)I"⟩, 6) := ⟨⟨by decide +kernel, by decide +kernel⟩, List.mem_of_getElem? (i := 245) (by decide +kernel), List.mem_of_getElem? (i := 622) (by decide +kernel), List.mem_of_getElem? (i := 623) (by decide +kernel)⟩
theorem lw_p30 : lw_okq (⟨"HouseDesk$Places", "raise", "(III)V"⟩, 6) := ⟨⟨by decide +kernel, by decide +kernel⟩, List.mem_of_getElem? (i := 245) (by decide +kernel), List.mem_of_getElem? (i := 626) (by decide +kernel), List.mem_of_getElem? (i := 627) (by decide +kernel)⟩
theorem lw_p31 : lw_okq (⟨"HouseDesk$Places", "overlap", "(I)V"⟩, 6) := ⟨⟨by decide +kernel, by decide +kernel⟩, List.mem_of_getElem? (i := 245) (by decide +kernel), List.mem_of_getElem? (i := 630) (by decide +kernel), List.mem_of_getElem? (i := 631) (by decide +kernel)⟩
def lw_privs_2 : List (MethodName × Nat) := [(⟨"HouseDesk$Sides", "boundsFace", "(III)Z"⟩, 3), (⟨"HouseDesk$Sides", "follows", "(III)Z"⟩, 3), (⟨"HouseDesk$Layout", "listRooms", "(I)V"⟩, 12), (⟨"HouseDesk$Layout", "shiftOpen", "(II)V"⟩, 12), (⟨"HouseDesk$Layout", "orderRooms", "()V"⟩, 12), (⟨"HouseDesk$Layout", "choose", "(I)V"⟩, 12), (⟨"HouseDesk$Layout", "weigh", "()V"⟩, 12), (⟨"HouseDesk$Layout", "lookAround", "(II)V"⟩, 12), (⟨"HouseDesk$Layout", "hasCorner", "(III)Z"⟩, 12), (⟨"HouseDesk$Layout", "isSooner", "()Z"⟩, 12), (⟨"HouseDesk$Layout", "directionOf", "(I)I"⟩, 12), (⟨"HouseDesk$Layout", "canBeMet", "(I)Z"⟩, 12), (⟨"HouseDesk$Places", "meet", "(I)V"⟩, 6), (⟨"HouseDesk$Places", "axisOf", "(I)I"⟩, 6), (⟨"HouseDesk$Places", "raise", "(III)V"⟩, 6), (⟨"HouseDesk$Places", "overlap", "(I)V"⟩, 6)]
theorem lw_r2 : ∀ q ∈ lw_privs_2, lw_okq q := List.forall_mem_cons.mpr ⟨lw_p16, List.forall_mem_cons.mpr ⟨lw_p17, List.forall_mem_cons.mpr ⟨lw_p18, List.forall_mem_cons.mpr ⟨lw_p19, List.forall_mem_cons.mpr ⟨lw_p20, List.forall_mem_cons.mpr ⟨lw_p21, List.forall_mem_cons.mpr ⟨lw_p22, List.forall_mem_cons.mpr ⟨lw_p23, List.forall_mem_cons.mpr ⟨lw_p24, List.forall_mem_cons.mpr ⟨lw_p25, List.forall_mem_cons.mpr ⟨lw_p26, List.forall_mem_cons.mpr ⟨lw_p27, List.forall_mem_cons.mpr ⟨lw_p28, List.forall_mem_cons.mpr ⟨lw_p29, List.forall_mem_cons.mpr ⟨lw_p30, List.forall_mem_cons.mpr ⟨lw_p31, fun _ h => absurd h List.not_mem_nil⟩⟩⟩⟩⟩⟩⟩⟩⟩⟩⟩⟩⟩⟩⟩⟩
theorem lw_p32 : lw_okq (⟨"HouseDesk$Places", "reachOut", "(II)V"⟩, 6) := ⟨⟨by decide +kernel, by decide +kernel⟩, List.mem_of_getElem? (i := 245) (by decide +kernel), List.mem_of_getElem? (i := 640) (by decide +kernel), List.mem_of_getElem? (i := 641) (by decide +kernel)⟩
theorem lw_p33 : lw_okq (⟨"java/lang/Throwable", "fillInStackTrace", "(I)Ljava/lang/Throwable;"⟩, 6) := ⟨⟨by decide +kernel, by decide +kernel⟩, List.mem_of_getElem? (i := 712) (by decide +kernel), List.mem_of_getElem? (i := 710) (by decide +kernel), List.mem_of_getElem? (i := 711) (by decide +kernel)⟩
theorem lw_p34 : lw_okq (⟨"HouseDesk", "needPlan", "()V"⟩, 4) := ⟨⟨by decide +kernel, by decide +kernel⟩, List.mem_of_getElem? (i := 22) (by decide +kernel), List.mem_of_getElem? (i := 822) (by decide +kernel), List.mem_of_getElem? (i := 823) (by decide +kernel)⟩
theorem lw_p35 : lw_okq (⟨"HouseDesk$Way", "measure", "(I)V"⟩, 4) := ⟨⟨by decide +kernel, by decide +kernel⟩, List.mem_of_getElem? (i := 307) (by decide +kernel), List.mem_of_getElem? (i := 894) (by decide +kernel), List.mem_of_getElem? (i := 895) (by decide +kernel)⟩
theorem lw_p36 : lw_okq (⟨"HouseDesk$Way", "measureAround", "(I)V"⟩, 4) := ⟨⟨by decide +kernel, by decide +kernel⟩, List.mem_of_getElem? (i := 307) (by decide +kernel), List.mem_of_getElem? (i := 898) (by decide +kernel), List.mem_of_getElem? (i := 899) (by decide +kernel)⟩
theorem lw_p37 : lw_okq (⟨"HouseDesk$Way", "leastStep", "(I)I"⟩, 4) := ⟨⟨by decide +kernel, by decide +kernel⟩, List.mem_of_getElem? (i := 307) (by decide +kernel), List.mem_of_getElem? (i := 903) (by decide +kernel), List.mem_of_getElem? (i := 904) (by decide +kernel)⟩
theorem lw_p38 : lw_okq (⟨"HouseDeskModel", "isRoom", "(I)Z"⟩, 46) := ⟨⟨by decide +kernel, by decide +kernel⟩, List.mem_of_getElem? (i := 907) (by decide +kernel), List.mem_of_getElem? (i := 1068) (by decide +kernel), List.mem_of_getElem? (i := 1069) (by decide +kernel)⟩
theorem lw_p39 : lw_okq (⟨"HouseDeskModel", "joinOf", "(II)I"⟩, 46) := ⟨⟨by decide +kernel, by decide +kernel⟩, List.mem_of_getElem? (i := 907) (by decide +kernel), List.mem_of_getElem? (i := 1072) (by decide +kernel), List.mem_of_getElem? (i := 1073) (by decide +kernel)⟩
theorem lw_p40 : lw_okq (⟨"HouseDeskModel", "isCrossed", "()Z"⟩, 46) := ⟨⟨by decide +kernel, by decide +kernel⟩, List.mem_of_getElem? (i := 907) (by decide +kernel), List.mem_of_getElem? (i := 1096) (by decide +kernel), List.mem_of_getElem? (i := 1097) (by decide +kernel)⟩
theorem lw_p41 : lw_okq (⟨"HouseDeskModel", "cross", "(II)Z"⟩, 46) := ⟨⟨by decide +kernel, by decide +kernel⟩, List.mem_of_getElem? (i := 907) (by decide +kernel), List.mem_of_getElem? (i := 1100) (by decide +kernel), List.mem_of_getElem? (i := 1101) (by decide +kernel)⟩
theorem lw_p42 : lw_okq (⟨"HouseDeskModel", "isOn", "(II)Z"⟩, 46) := ⟨⟨by decide +kernel, by decide +kernel⟩, List.mem_of_getElem? (i := 907) (by decide +kernel), List.mem_of_getElem? (i := 1104) (by decide +kernel), List.mem_of_getElem? (i := 1105) (by decide +kernel)⟩
theorem lw_p43 : lw_okq (⟨"HouseDeskModel", "tell", "(IIII)V"⟩, 46) := ⟨⟨by decide +kernel, by decide +kernel⟩, List.mem_of_getElem? (i := 907) (by decide +kernel), List.mem_of_getElem? (i := 1111) (by decide +kernel), List.mem_of_getElem? (i := 1112) (by decide +kernel)⟩
theorem lw_p44 : lw_okq (⟨"HouseDeskModel", "answer", "(I)I"⟩, 46) := ⟨⟨by decide +kernel, by decide +kernel⟩, List.mem_of_getElem? (i := 907) (by decide +kernel), List.mem_of_getElem? (i := 1115) (by decide +kernel), List.mem_of_getElem? (i := 1116) (by decide +kernel)⟩
theorem lw_p45 : lw_okq (⟨"HouseDeskModel", "sortAround", "()V"⟩, 46) := ⟨⟨by decide +kernel, by decide +kernel⟩, List.mem_of_getElem? (i := 907) (by decide +kernel), List.mem_of_getElem? (i := 1119) (by decide +kernel), List.mem_of_getElem? (i := 1120) (by decide +kernel)⟩
theorem lw_p46 : lw_okq (⟨"HouseDeskModel", "isAhead", "(III)Z"⟩, 46) := ⟨⟨by decide +kernel, by decide +kernel⟩, List.mem_of_getElem? (i := 907) (by decide +kernel), List.mem_of_getElem? (i := 1123) (by decide +kernel), List.mem_of_getElem? (i := 1124) (by decide +kernel)⟩
theorem lw_p47 : lw_okq (⟨"HouseDeskModel", "other", "(II)I"⟩, 46) := ⟨⟨by decide +kernel, by decide +kernel⟩, List.mem_of_getElem? (i := 907) (by decide +kernel), List.mem_of_getElem? (i := 1127) (by decide +kernel), List.mem_of_getElem? (i := 1128) (by decide +kernel)⟩
def lw_privs_3 : List (MethodName × Nat) := [(⟨"HouseDesk$Places", "reachOut", "(II)V"⟩, 6), (⟨"java/lang/Throwable", "fillInStackTrace", "(I)Ljava/lang/Throwable;"⟩, 6), (⟨"HouseDesk", "needPlan", "()V"⟩, 4), (⟨"HouseDesk$Way", "measure", "(I)V"⟩, 4), (⟨"HouseDesk$Way", "measureAround", "(I)V"⟩, 4), (⟨"HouseDesk$Way", "leastStep", "(I)I"⟩, 4), (⟨"HouseDeskModel", "isRoom", "(I)Z"⟩, 46), (⟨"HouseDeskModel", "joinOf", "(II)I"⟩, 46), (⟨"HouseDeskModel", "isCrossed", "()Z"⟩, 46), (⟨"HouseDeskModel", "cross", "(II)Z"⟩, 46), (⟨"HouseDeskModel", "isOn", "(II)Z"⟩, 46), (⟨"HouseDeskModel", "tell", "(IIII)V"⟩, 46), (⟨"HouseDeskModel", "answer", "(I)I"⟩, 46), (⟨"HouseDeskModel", "sortAround", "()V"⟩, 46), (⟨"HouseDeskModel", "isAhead", "(III)Z"⟩, 46), (⟨"HouseDeskModel", "other", "(II)I"⟩, 46)]
theorem lw_r3 : ∀ q ∈ lw_privs_3, lw_okq q := List.forall_mem_cons.mpr ⟨lw_p32, List.forall_mem_cons.mpr ⟨lw_p33, List.forall_mem_cons.mpr ⟨lw_p34, List.forall_mem_cons.mpr ⟨lw_p35, List.forall_mem_cons.mpr ⟨lw_p36, List.forall_mem_cons.mpr ⟨lw_p37, List.forall_mem_cons.mpr ⟨lw_p38, List.forall_mem_cons.mpr ⟨lw_p39, List.forall_mem_cons.mpr ⟨lw_p40, List.forall_mem_cons.mpr ⟨lw_p41, List.forall_mem_cons.mpr ⟨lw_p42, List.forall_mem_cons.mpr ⟨lw_p43, List.forall_mem_cons.mpr ⟨lw_p44, List.forall_mem_cons.mpr ⟨lw_p45, List.forall_mem_cons.mpr ⟨lw_p46, List.forall_mem_cons.mpr ⟨lw_p47, fun _ h => absurd h List.not_mem_nil⟩⟩⟩⟩⟩⟩⟩⟩⟩⟩⟩⟩⟩⟩⟩⟩
theorem lw_p48 : lw_okq (⟨"HouseDeskModel", "roomCount", "()I"⟩, 46) := ⟨⟨by decide +kernel, by decide +kernel⟩, List.mem_of_getElem? (i := 907) (by decide +kernel), List.mem_of_getElem? (i := 1134) (by decide +kernel), List.mem_of_getElem? (i := 1135) (by decide +kernel)⟩
theorem lw_p49 : lw_okq (⟨"HouseDeskModel", "areTogether", "()Z"⟩, 46) := ⟨⟨by decide +kernel, by decide +kernel⟩, List.mem_of_getElem? (i := 907) (by decide +kernel), List.mem_of_getElem? (i := 1138) (by decide +kernel), List.mem_of_getElem? (i := 1139) (by decide +kernel)⟩
theorem lw_p50 : lw_okq (⟨"HouseDeskModel", "findOutline", "()Z"⟩, 46) := ⟨⟨by decide +kernel, by decide +kernel⟩, List.mem_of_getElem? (i := 907) (by decide +kernel), List.mem_of_getElem? (i := 1142) (by decide +kernel), List.mem_of_getElem? (i := 1143) (by decide +kernel)⟩
theorem lw_p51 : lw_okq (⟨"HouseDeskModel", "wayFrom", "(II)I"⟩, 46) := ⟨⟨by decide +kernel, by decide +kernel⟩, List.mem_of_getElem? (i := 907) (by decide +kernel), List.mem_of_getElem? (i := 1146) (by decide +kernel), List.mem_of_getElem? (i := 1147) (by decide +kernel)⟩
theorem lw_p52 : lw_okq (⟨"HouseDeskModel", "behind", "(II)I"⟩, 46) := ⟨⟨by decide +kernel, by decide +kernel⟩, List.mem_of_getElem? (i := 907) (by decide +kernel), List.mem_of_getElem? (i := 1150) (by decide +kernel), List.mem_of_getElem? (i := 1151) (by decide +kernel)⟩
theorem lw_p53 : lw_okq (⟨"HouseDeskModel", "findFaces", "()V"⟩, 46) := ⟨⟨by decide +kernel, by decide +kernel⟩, List.mem_of_getElem? (i := 907) (by decide +kernel), List.mem_of_getElem? (i := 1154) (by decide +kernel), List.mem_of_getElem? (i := 1155) (by decide +kernel)⟩
theorem lw_p54 : lw_okq (⟨"HouseDeskModel", "hasGreatFace", "()Z"⟩, 46) := ⟨⟨by decide +kernel, by decide +kernel⟩, List.mem_of_getElem? (i := 907) (by decide +kernel), List.mem_of_getElem? (i := 1158) (by decide +kernel), List.mem_of_getElem? (i := 1159) (by decide +kernel)⟩
theorem lw_p55 : lw_okq (⟨"HouseDeskModel", "tellSet", "(II)V"⟩, 46) := ⟨⟨by decide +kernel, by decide +kernel⟩, List.mem_of_getElem? (i := 907) (by decide +kernel), List.mem_of_getElem? (i := 1171) (by decide +kernel), List.mem_of_getElem? (i := 1172) (by decide +kernel)⟩
theorem lw_p56 : lw_okq (⟨"HouseDeskModel", "layCorners", "()Z"⟩, 46) := ⟨⟨by decide +kernel, by decide +kernel⟩, List.mem_of_getElem? (i := 907) (by decide +kernel), List.mem_of_getElem? (i := 1175) (by decide +kernel), List.mem_of_getElem? (i := 1176) (by decide +kernel)⟩
theorem lw_p57 : lw_okq (⟨"HouseDeskModel", "placeOf", "(I)I"⟩, 46) := ⟨⟨by decide +kernel, by decide +kernel⟩, List.mem_of_getElem? (i := 907) (by decide +kernel), List.mem_of_getElem? (i := 1179) (by decide +kernel), List.mem_of_getElem? (i := 1180) (by decide +kernel)⟩
theorem lw_p58 : lw_okq (⟨"HouseDeskModel", "linkAll", "()V"⟩, 46) := ⟨⟨by decide +kernel, by decide +kernel⟩, List.mem_of_getElem? (i := 907) (by decide +kernel), List.mem_of_getElem? (i := 1183) (by decide +kernel), List.mem_of_getElem? (i := 1184) (by decide +kernel)⟩
theorem lw_p59 : lw_okq (⟨"HouseDeskModel", "link", "(II)V"⟩, 46) := ⟨⟨by decide +kernel, by decide +kernel⟩, List.mem_of_getElem? (i := 907) (by decide +kernel), List.mem_of_getElem? (i := 1187) (by decide +kernel), List.mem_of_getElem? (i := 1188) (by decide +kernel)⟩
theorem lw_p60 : lw_okq (⟨"HouseDeskModel", "roomAt", "(I)I"⟩, 46) := ⟨⟨by decide +kernel, by decide +kernel⟩, List.mem_of_getElem? (i := 907) (by decide +kernel), List.mem_of_getElem? (i := 1191) (by decide +kernel), List.mem_of_getElem? (i := 1192) (by decide +kernel)⟩
theorem lw_p61 : lw_okq (⟨"HouseDeskModel", "hasTriangle", "()Z"⟩, 46) := ⟨⟨by decide +kernel, by decide +kernel⟩, List.mem_of_getElem? (i := 907) (by decide +kernel), List.mem_of_getElem? (i := 1195) (by decide +kernel), List.mem_of_getElem? (i := 1196) (by decide +kernel)⟩
theorem lw_p62 : lw_okq (⟨"HouseDeskModel", "isFace", "(I)Z"⟩, 46) := ⟨⟨by decide +kernel, by decide +kernel⟩, List.mem_of_getElem? (i := 907) (by decide +kernel), List.mem_of_getElem? (i := 1199) (by decide +kernel), List.mem_of_getElem? (i := 1200) (by decide +kernel)⟩
theorem lw_p63 : lw_okq (⟨"HouseDeskModel", "layRings", "()V"⟩, 46) := ⟨⟨by decide +kernel, by decide +kernel⟩, List.mem_of_getElem? (i := 907) (by decide +kernel), List.mem_of_getElem? (i := 1203) (by decide +kernel), List.mem_of_getElem? (i := 1204) (by decide +kernel)⟩
def lw_privs_4 : List (MethodName × Nat) := [(⟨"HouseDeskModel", "roomCount", "()I"⟩, 46), (⟨"HouseDeskModel", "areTogether", "()Z"⟩, 46), (⟨"HouseDeskModel", "findOutline", "()Z"⟩, 46), (⟨"HouseDeskModel", "wayFrom", "(II)I"⟩, 46), (⟨"HouseDeskModel", "behind", "(II)I"⟩, 46), (⟨"HouseDeskModel", "findFaces", "()V"⟩, 46), (⟨"HouseDeskModel", "hasGreatFace", "()Z"⟩, 46), (⟨"HouseDeskModel", "tellSet", "(II)V"⟩, 46), (⟨"HouseDeskModel", "layCorners", "()Z"⟩, 46), (⟨"HouseDeskModel", "placeOf", "(I)I"⟩, 46), (⟨"HouseDeskModel", "linkAll", "()V"⟩, 46), (⟨"HouseDeskModel", "link", "(II)V"⟩, 46), (⟨"HouseDeskModel", "roomAt", "(I)I"⟩, 46), (⟨"HouseDeskModel", "hasTriangle", "()Z"⟩, 46), (⟨"HouseDeskModel", "isFace", "(I)Z"⟩, 46), (⟨"HouseDeskModel", "layRings", "()V"⟩, 46)]
theorem lw_r4 : ∀ q ∈ lw_privs_4, lw_okq q := List.forall_mem_cons.mpr ⟨lw_p48, List.forall_mem_cons.mpr ⟨lw_p49, List.forall_mem_cons.mpr ⟨lw_p50, List.forall_mem_cons.mpr ⟨lw_p51, List.forall_mem_cons.mpr ⟨lw_p52, List.forall_mem_cons.mpr ⟨lw_p53, List.forall_mem_cons.mpr ⟨lw_p54, List.forall_mem_cons.mpr ⟨lw_p55, List.forall_mem_cons.mpr ⟨lw_p56, List.forall_mem_cons.mpr ⟨lw_p57, List.forall_mem_cons.mpr ⟨lw_p58, List.forall_mem_cons.mpr ⟨lw_p59, List.forall_mem_cons.mpr ⟨lw_p60, List.forall_mem_cons.mpr ⟨lw_p61, List.forall_mem_cons.mpr ⟨lw_p62, List.forall_mem_cons.mpr ⟨lw_p63, fun _ h => absurd h List.not_mem_nil⟩⟩⟩⟩⟩⟩⟩⟩⟩⟩⟩⟩⟩⟩⟩⟩
theorem lw_p64 : lw_okq (⟨"HouseDeskModel", "add", "(II)V"⟩, 46) := ⟨⟨by decide +kernel, by decide +kernel⟩, List.mem_of_getElem? (i := 907) (by decide +kernel), List.mem_of_getElem? (i := 1207) (by decide +kernel), List.mem_of_getElem? (i := 1208) (by decide +kernel)⟩
theorem lw_p65 : lw_okq (⟨"HouseDeskModel", "comesBy", "(I)I"⟩, 46) := ⟨⟨by decide +kernel, by decide +kernel⟩, List.mem_of_getElem? (i := 907) (by decide +kernel), List.mem_of_getElem? (i := 1211) (by decide +kernel), List.mem_of_getElem? (i := 1212) (by decide +kernel)⟩
theorem lw_p66 : lw_okq (⟨"HouseDeskModel", "addSides", "(I)V"⟩, 46) := ⟨⟨by decide +kernel, by decide +kernel⟩, List.mem_of_getElem? (i := 907) (by decide +kernel), List.mem_of_getElem? (i := 1215) (by decide +kernel), List.mem_of_getElem? (i := 1216) (by decide +kernel)⟩
theorem lw_p67 : lw_okq (⟨"HouseDeskModel", "search", "()V"⟩, 46) := ⟨⟨by decide +kernel, by decide +kernel⟩, List.mem_of_getElem? (i := 907) (by decide +kernel), List.mem_of_getElem? (i := 1219) (by decide +kernel), List.mem_of_getElem? (i := 1220) (by decide +kernel)⟩
theorem lw_p68 : lw_okq (⟨"HouseDeskModel", "takeBack", "(I)V"⟩, 46) := ⟨⟨by decide +kernel, by decide +kernel⟩, List.mem_of_getElem? (i := 907) (by decide +kernel), List.mem_of_getElem? (i := 1223) (by decide +kernel), List.mem_of_getElem? (i := 1224) (by decide +kernel)⟩
theorem lw_p69 : lw_okq (⟨"HouseDeskModel", "cutOn", "(I)Z"⟩, 46) := ⟨⟨by decide +kernel, by decide +kernel⟩, List.mem_of_getElem? (i := 907) (by decide +kernel), List.mem_of_getElem? (i := 1227) (by decide +kernel), List.mem_of_getElem? (i := 1228) (by decide +kernel)⟩
theorem lw_p70 : lw_okq (⟨"HouseDeskModel", "fits", "(I)Z"⟩, 46) := ⟨⟨by decide +kernel, by decide +kernel⟩, List.mem_of_getElem? (i := 907) (by decide +kernel), List.mem_of_getElem? (i := 1231) (by decide +kernel), List.mem_of_getElem? (i := 1232) (by decide +kernel)⟩
theorem lw_p71 : lw_okq (⟨"HouseDeskModel", "directionOf", "(III)I"⟩, 46) := ⟨⟨by decide +kernel, by decide +kernel⟩, List.mem_of_getElem? (i := 907) (by decide +kernel), List.mem_of_getElem? (i := 1238) (by decide +kernel), List.mem_of_getElem? (i := 1239) (by decide +kernel)⟩
theorem lw_p72 : lw_okq (⟨"HouseDeskModel", "mayBeLess", "()Z"⟩, 46) := ⟨⟨by decide +kernel, by decide +kernel⟩, List.mem_of_getElem? (i := 907) (by decide +kernel), List.mem_of_getElem? (i := 1242) (by decide +kernel), List.mem_of_getElem? (i := 1243) (by decide +kernel)⟩
theorem lw_p73 : lw_okq (⟨"HouseDeskModel", "keepIfLess", "()V"⟩, 46) := ⟨⟨by decide +kernel, by decide +kernel⟩, List.mem_of_getElem? (i := 907) (by decide +kernel), List.mem_of_getElem? (i := 1246) (by decide +kernel), List.mem_of_getElem? (i := 1247) (by decide +kernel)⟩
theorem lw_p74 : lw_okq (⟨"HouseDeskModel", "findPlaces", "()V"⟩, 46) := ⟨⟨by decide +kernel, by decide +kernel⟩, List.mem_of_getElem? (i := 907) (by decide +kernel), List.mem_of_getElem? (i := 1250) (by decide +kernel), List.mem_of_getElem? (i := 1251) (by decide +kernel)⟩
theorem lw_p75 : lw_okq (⟨"HouseDeskModel", "raiseRoom", "(I)V"⟩, 46) := ⟨⟨by decide +kernel, by decide +kernel⟩, List.mem_of_getElem? (i := 907) (by decide +kernel), List.mem_of_getElem? (i := 1254) (by decide +kernel), List.mem_of_getElem? (i := 1255) (by decide +kernel)⟩
theorem lw_p76 : lw_okq (⟨"HouseDeskModel", "raiseHigh", "(IZI)V"⟩, 46) := ⟨⟨by decide +kernel, by decide +kernel⟩, List.mem_of_getElem? (i := 907) (by decide +kernel), List.mem_of_getElem? (i := 1261) (by decide +kernel), List.mem_of_getElem? (i := 1262) (by decide +kernel)⟩
theorem lw_p77 : lw_okq (⟨"HouseDeskModel", "raiseJoin", "(I)V"⟩, 46) := ⟨⟨by decide +kernel, by decide +kernel⟩, List.mem_of_getElem? (i := 907) (by decide +kernel), List.mem_of_getElem? (i := 1265) (by decide +kernel), List.mem_of_getElem? (i := 1266) (by decide +kernel)⟩
theorem lw_p78 : lw_okq (⟨"HouseDeskModel", "raiseLow", "(IZI)V"⟩, 46) := ⟨⟨by decide +kernel, by decide +kernel⟩, List.mem_of_getElem? (i := 907) (by decide +kernel), List.mem_of_getElem? (i := 1269) (by decide +kernel), List.mem_of_getElem? (i := 1270) (by decide +kernel)⟩
def lw_privs_5 : List (MethodName × Nat) := [(⟨"HouseDeskModel", "add", "(II)V"⟩, 46), (⟨"HouseDeskModel", "comesBy", "(I)I"⟩, 46), (⟨"HouseDeskModel", "addSides", "(I)V"⟩, 46), (⟨"HouseDeskModel", "search", "()V"⟩, 46), (⟨"HouseDeskModel", "takeBack", "(I)V"⟩, 46), (⟨"HouseDeskModel", "cutOn", "(I)Z"⟩, 46), (⟨"HouseDeskModel", "fits", "(I)Z"⟩, 46), (⟨"HouseDeskModel", "directionOf", "(III)I"⟩, 46), (⟨"HouseDeskModel", "mayBeLess", "()Z"⟩, 46), (⟨"HouseDeskModel", "keepIfLess", "()V"⟩, 46), (⟨"HouseDeskModel", "findPlaces", "()V"⟩, 46), (⟨"HouseDeskModel", "raiseRoom", "(I)V"⟩, 46), (⟨"HouseDeskModel", "raiseHigh", "(IZI)V"⟩, 46), (⟨"HouseDeskModel", "raiseJoin", "(I)V"⟩, 46), (⟨"HouseDeskModel", "raiseLow", "(IZI)V"⟩, 46)]
theorem lw_r5 : ∀ q ∈ lw_privs_5, lw_okq q := List.forall_mem_cons.mpr ⟨lw_p64, List.forall_mem_cons.mpr ⟨lw_p65, List.forall_mem_cons.mpr ⟨lw_p66, List.forall_mem_cons.mpr ⟨lw_p67, List.forall_mem_cons.mpr ⟨lw_p68, List.forall_mem_cons.mpr ⟨lw_p69, List.forall_mem_cons.mpr ⟨lw_p70, List.forall_mem_cons.mpr ⟨lw_p71, List.forall_mem_cons.mpr ⟨lw_p72, List.forall_mem_cons.mpr ⟨lw_p73, List.forall_mem_cons.mpr ⟨lw_p74, List.forall_mem_cons.mpr ⟨lw_p75, List.forall_mem_cons.mpr ⟨lw_p76, List.forall_mem_cons.mpr ⟨lw_p77, List.forall_mem_cons.mpr ⟨lw_p78, fun _ h => absurd h List.not_mem_nil⟩⟩⟩⟩⟩⟩⟩⟩⟩⟩⟩⟩⟩⟩⟩
def lw_privs : List (MethodName × Nat) := lw_privs_1 ++ (lw_privs_2 ++ (lw_privs_3 ++ (lw_privs_4 ++ (lw_privs_5))))
def lw_tbl : List Cond := k2_sels lw_privs ++ tables_1
theorem lw_privs_ok : ∀ q ∈ lw_privs, lw_okq q := by
  show ∀ q ∈ lw_privs_1 ++ (lw_privs_2 ++ (lw_privs_3 ++ (lw_privs_4 ++ (lw_privs_5)))), lw_okq q
  exact List.forall_mem_append.mpr ⟨lw_r1, List.forall_mem_append.mpr ⟨lw_r2, List.forall_mem_append.mpr ⟨lw_r3, List.forall_mem_append.mpr ⟨lw_r4, lw_r5⟩⟩⟩⟩
end
section
/-! the words that hold at every call: those of the tables that a walk keeps -/
def gd : List Cond := lw_tbl.filter goodWord
theorem gd_in {w : Cond} (h : w ∈ lw_tbl) (g : goodWord w = true) : w ∈ gd := List.mem_filter.mpr ⟨h, g⟩
theorem gd_good : ∀ w ∈ gd, goodWord w = true := fun w h => (List.mem_filter.mp h).2
theorem gd_lw : ∀ w ∈ gd, w ∈ lw_tbl := fun w h => (List.mem_filter.mp h).1
theorem tm_1 (i : Nat) {w : Cond} (h0 : tables_1_1[i]? = some w) (g : goodWord w = true) : w ∈ gd := gd_in (have h : w ∈ tables_1_1 := List.mem_of_getElem? h0; (show w ∈ k2_sels lw_privs ++ tables_1 from List.mem_append_right _ (List.mem_append_left _ h))) g
theorem tm_2 (i : Nat) {w : Cond} (h0 : tables_1_2[i]? = some w) (g : goodWord w = true) : w ∈ gd := gd_in (have h : w ∈ tables_1_2 := List.mem_of_getElem? h0; (show w ∈ k2_sels lw_privs ++ tables_1 from List.mem_append_right _ (List.mem_append_right _ (List.mem_append_left _ h)))) g
theorem tm_3 (i : Nat) {w : Cond} (h0 : tables_1_3[i]? = some w) (g : goodWord w = true) : w ∈ gd := gd_in (have h : w ∈ tables_1_3 := List.mem_of_getElem? h0; (show w ∈ k2_sels lw_privs ++ tables_1 from List.mem_append_right _ (List.mem_append_right _ (List.mem_append_right _ (List.mem_append_left _ h))))) g
theorem tm_4 (i : Nat) {w : Cond} (h0 : tables_1_4[i]? = some w) (g : goodWord w = true) : w ∈ gd := gd_in (have h : w ∈ tables_1_4 := List.mem_of_getElem? h0; (show w ∈ k2_sels lw_privs ++ tables_1 from List.mem_append_right _ (List.mem_append_right _ (List.mem_append_right _ (List.mem_append_right _ (List.mem_append_left _ h)))))) g
theorem tm_5 (i : Nat) {w : Cond} (h0 : tables_1_5[i]? = some w) (g : goodWord w = true) : w ∈ gd := gd_in (have h : w ∈ tables_1_5 := List.mem_of_getElem? h0; (show w ∈ k2_sels lw_privs ++ tables_1 from List.mem_append_right _ (List.mem_append_right _ (List.mem_append_right _ (List.mem_append_right _ (List.mem_append_right _ (List.mem_append_left _ h))))))) g
theorem tm_6 (i : Nat) {w : Cond} (h0 : tables_1_6[i]? = some w) (g : goodWord w = true) : w ∈ gd := gd_in (have h : w ∈ tables_1_6 := List.mem_of_getElem? h0; (show w ∈ k2_sels lw_privs ++ tables_1 from List.mem_append_right _ (List.mem_append_right _ (List.mem_append_right _ (List.mem_append_right _ (List.mem_append_right _ (List.mem_append_right _ (h)))))))) g
theorem ts_p (i : Nat) {w : Cond} (h0 : (k2_sels lw_privs)[i]? = some w) (g : goodWord w = true) : w ∈ gd := gd_in (show w ∈ k2_sels lw_privs ++ tables_1 from List.mem_append_left _ (List.mem_of_getElem? h0)) g
/-- HouseDesk -/
def cT_0 : u_T := fun k => match k with
  | 0 => ("HouseDesk", "sketch", "LHouseDesk$Sketch;", true)
  | 1 => ("HouseDesk", "planner", "LHouseDesk$Planner;", true)
  | 2 => ("HouseDesk", "latestWay", "LHouseDesk$Way;", true)
  | _ => ("HouseDesk", "planned", "Z", false)
def cy_0 : Nat → FieldType := fun k => match k with
  | 0 => .object "HouseDesk$Sketch"
  | 1 => .object "HouseDesk$Planner"
  | 2 => .object "HouseDesk$Way"
  | _ => .boolean
theorem cn_0 : ∀ a, a < 4 → ∀ b, b < 4 → a ≠ b → (cT_0 a).2.1 ≠ (cT_0 b).2.1 := by decide +kernel
theorem ct_0 : ∀ k, k < 4 → parseFieldDescriptor (cT_0 k).2.2.1 = some (cy_0 k) := by decide +kernel
theorem cw_0 : ∀ w ∈ u_ws "HouseDesk" cT_0 4, w ∈ gd := List.forall_mem_cons.mpr ⟨(tm_2 89 rfl rfl), List.forall_mem_cons.mpr ⟨(tm_2 91 rfl rfl), List.forall_mem_cons.mpr ⟨(tm_2 93 rfl rfl), List.forall_mem_cons.mpr ⟨(tm_2 95 rfl rfl), fun _ h => absurd h List.not_mem_nil⟩⟩⟩⟩
/-- HouseDesk$Sketch -/
def cT_1 : u_T := fun k => match k with
  | 0 => ("HouseDesk$Sketch", "x", "[I", true)
  | 1 => ("HouseDesk$Sketch", "y", "[I", true)
  | 2 => ("HouseDesk$Sketch", "width", "[I", true)
  | 3 => ("HouseDesk$Sketch", "height", "[I", true)
  | 4 => ("HouseDesk$Sketch", "joined", "[I", true)
  | 5 => ("HouseDesk$Sketch", "first", "[I", true)
  | 6 => ("HouseDesk$Sketch", "second", "[I", true)
  | 7 => ("HouseDesk$Sketch", "wish", "[I", true)
  | 8 => ("HouseDesk$Sketch", "corner", "[I", true)
  | 9 => ("HouseDesk$Sketch", "cornersNamed", "Z", false)
  | 10 => ("HouseDesk$Sketch", "drawn", "I", false)
  | 11 => ("HouseDesk$Sketch", "rooms", "I", false)
  | _ => ("HouseDesk$Sketch", "joins", "I", false)
def cy_1 : Nat → FieldType := fun k => match k with
  | 0 => .array .int
  | 1 => .array .int
  | 2 => .array .int
  | 3 => .array .int
  | 4 => .array .int
  | 5 => .array .int
  | 6 => .array .int
  | 7 => .array .int
  | 8 => .array .int
  | 9 => .boolean
  | 10 => .int
  | 11 => .int
  | _ => .int
theorem cn_1 : ∀ a, a < 13 → ∀ b, b < 13 → a ≠ b → (cT_1 a).2.1 ≠ (cT_1 b).2.1 := by decide +kernel
theorem ct_1 : ∀ k, k < 13 → parseFieldDescriptor (cT_1 k).2.2.1 = some (cy_1 k) := by decide +kernel
theorem cw_1 : ∀ w ∈ u_ws "HouseDesk$Sketch" cT_1 13, w ∈ gd := List.forall_mem_cons.mpr ⟨(tm_1 79 rfl rfl), List.forall_mem_cons.mpr ⟨(tm_1 81 rfl rfl), List.forall_mem_cons.mpr ⟨(tm_1 83 rfl rfl), List.forall_mem_cons.mpr ⟨(tm_1 85 rfl rfl), List.forall_mem_cons.mpr ⟨(tm_1 87 rfl rfl), List.forall_mem_cons.mpr ⟨(tm_1 89 rfl rfl), List.forall_mem_cons.mpr ⟨(tm_1 91 rfl rfl), List.forall_mem_cons.mpr ⟨(tm_1 93 rfl rfl), List.forall_mem_cons.mpr ⟨(tm_1 95 rfl rfl), List.forall_mem_cons.mpr ⟨(tm_1 97 rfl rfl), List.forall_mem_cons.mpr ⟨(tm_1 99 rfl rfl), List.forall_mem_cons.mpr ⟨(tm_1 101 rfl rfl), List.forall_mem_cons.mpr ⟨(tm_1 103 rfl rfl), fun _ h => absurd h List.not_mem_nil⟩⟩⟩⟩⟩⟩⟩⟩⟩⟩⟩⟩⟩
/-- HouseDesk$Planner -/
def cT_2 : u_T := fun k => match k with
  | 0 => ("HouseDesk$Planner", "found", "LHouseDesk$Witness;", true)
  | 1 => ("HouseDesk$Planner", "sides", "LHouseDesk$Sides;", true)
  | 2 => ("HouseDesk$Planner", "layout", "LHouseDesk$Layout;", true)
  | 3 => ("HouseDesk$Planner", "places", "LHouseDesk$Places;", true)
  | 4 => ("HouseDesk$Planner", "outlineRooms", "I", false)
  | 5 => ("HouseDesk$Planner", "innerFaces", "I", false)
  | 6 => ("HouseDesk$Planner", "sketch", "LHouseDesk$Sketch;", true)
  | 7 => ("HouseDesk$Planner", "crossings", "LHouseDesk$Crossings;", true)
  | _ => ("HouseDesk$Planner", "walks", "LHouseDesk$Walks;", true)
def cy_2 : Nat → FieldType := fun k => match k with
  | 0 => .object "HouseDesk$Witness"
  | 1 => .object "HouseDesk$Sides"
  | 2 => .object "HouseDesk$Layout"
  | 3 => .object "HouseDesk$Places"
  | 4 => .int
  | 5 => .int
  | 6 => .object "HouseDesk$Sketch"
  | 7 => .object "HouseDesk$Crossings"
  | _ => .object "HouseDesk$Walks"
theorem cn_2 : ∀ a, a < 9 → ∀ b, b < 9 → a ≠ b → (cT_2 a).2.1 ≠ (cT_2 b).2.1 := by decide +kernel
theorem ct_2 : ∀ k, k < 9 → parseFieldDescriptor (cT_2 k).2.2.1 = some (cy_2 k) := by decide +kernel
theorem cw_2 : ∀ w ∈ u_ws "HouseDesk$Planner" cT_2 9, w ∈ gd := List.forall_mem_cons.mpr ⟨(tm_2 47 rfl rfl), List.forall_mem_cons.mpr ⟨(tm_2 49 rfl rfl), List.forall_mem_cons.mpr ⟨(tm_2 51 rfl rfl), List.forall_mem_cons.mpr ⟨(tm_2 53 rfl rfl), List.forall_mem_cons.mpr ⟨(tm_2 55 rfl rfl), List.forall_mem_cons.mpr ⟨(tm_2 57 rfl rfl), List.forall_mem_cons.mpr ⟨(tm_2 59 rfl rfl), List.forall_mem_cons.mpr ⟨(tm_2 61 rfl rfl), List.forall_mem_cons.mpr ⟨(tm_2 63 rfl rfl), fun _ h => absurd h List.not_mem_nil⟩⟩⟩⟩⟩⟩⟩⟩⟩
/-- HouseDesk$Witness -/
def cT_3 : u_T := fun k => match k with
  | 0 => ("HouseDesk$Witness", "number", "[I", true)
  | _ => ("HouseDesk$Witness", "size", "I", false)
def cy_3 : Nat → FieldType := fun k => match k with
  | 0 => .array .int
  | _ => .int
theorem cn_3 : ∀ a, a < 2 → ∀ b, b < 2 → a ≠ b → (cT_3 a).2.1 ≠ (cT_3 b).2.1 := by decide +kernel
theorem ct_3 : ∀ k, k < 2 → parseFieldDescriptor (cT_3 k).2.2.1 = some (cy_3 k) := by decide +kernel
theorem cw_3 : ∀ w ∈ u_ws "HouseDesk$Witness" cT_3 2, w ∈ gd := List.forall_mem_cons.mpr ⟨(tm_1 121 rfl rfl), List.forall_mem_cons.mpr ⟨(tm_1 123 rfl rfl), fun _ h => absurd h List.not_mem_nil⟩⟩
/-- HouseDesk$Crossings -/
def cT_4 : u_T := fun k => match k with
  | _ => ("HouseDesk$Crossings", "sketch", "LHouseDesk$Sketch;", true)
def cy_4 : Nat → FieldType := fun k => match k with
  | _ => .object "HouseDesk$Sketch"
theorem cn_4 : ∀ a, a < 1 → ∀ b, b < 1 → a ≠ b → (cT_4 a).2.1 ≠ (cT_4 b).2.1 := by decide +kernel
theorem ct_4 : ∀ k, k < 1 → parseFieldDescriptor (cT_4 k).2.2.1 = some (cy_4 k) := by decide +kernel
theorem cw_4 : ∀ w ∈ u_ws "HouseDesk$Crossings" cT_4 1, w ∈ gd := List.forall_mem_cons.mpr ⟨(tm_1 133 rfl rfl), fun _ h => absurd h List.not_mem_nil⟩
/-- HouseDesk$Walks -/
def cT_5 : u_T := fun k => match k with
  | 0 => ("HouseDesk$Walks", "behind", "[[I", true)
  | 1 => ("HouseDesk$Walks", "outline", "[I", true)
  | 2 => ("HouseDesk$Walks", "placeOf", "[I", true)
  | 3 => ("HouseDesk$Walks", "length", "I", false)
  | 4 => ("HouseDesk$Walks", "faceOf", "[[I", true)
  | 5 => ("HouseDesk$Walks", "faceRooms", "[I", true)
  | 6 => ("HouseDesk$Walks", "faces", "I", false)
  | _ => ("HouseDesk$Walks", "sketch", "LHouseDesk$Sketch;", true)
def cy_5 : Nat → FieldType := fun k => match k with
  | 0 => .array (.array .int)
  | 1 => .array .int
  | 2 => .array .int
  | 3 => .int
  | 4 => .array (.array .int)
  | 5 => .array .int
  | 6 => .int
  | _ => .object "HouseDesk$Sketch"
theorem cn_5 : ∀ a, a < 8 → ∀ b, b < 8 → a ≠ b → (cT_5 a).2.1 ≠ (cT_5 b).2.1 := by decide +kernel
theorem ct_5 : ∀ k, k < 8 → parseFieldDescriptor (cT_5 k).2.2.1 = some (cy_5 k) := by decide +kernel
theorem cw_5 : ∀ w ∈ u_ws "HouseDesk$Walks" cT_5 8, w ∈ gd := List.forall_mem_cons.mpr ⟨(tm_1 164 rfl rfl), List.forall_mem_cons.mpr ⟨(tm_1 166 rfl rfl), List.forall_mem_cons.mpr ⟨(tm_1 168 rfl rfl), List.forall_mem_cons.mpr ⟨(tm_1 170 rfl rfl), List.forall_mem_cons.mpr ⟨(tm_1 172 rfl rfl), List.forall_mem_cons.mpr ⟨(tm_1 174 rfl rfl), List.forall_mem_cons.mpr ⟨(tm_1 176 rfl rfl), List.forall_mem_cons.mpr ⟨(tm_1 178 rfl rfl), fun _ h => absurd h List.not_mem_nil⟩⟩⟩⟩⟩⟩⟩⟩
/-- HouseDesk$Sides -/
def cT_6 : u_T := fun k => match k with
  | 0 => ("HouseDesk$Sides", "near", "[I", true)
  | 1 => ("HouseDesk$Sides", "sketch", "LHouseDesk$Sketch;", true)
  | _ => ("HouseDesk$Sides", "walks", "LHouseDesk$Walks;", true)
def cy_6 : Nat → FieldType := fun k => match k with
  | 0 => .array .int
  | 1 => .object "HouseDesk$Sketch"
  | _ => .object "HouseDesk$Walks"
theorem cn_6 : ∀ a, a < 3 → ∀ b, b < 3 → a ≠ b → (cT_6 a).2.1 ≠ (cT_6 b).2.1 := by decide +kernel
theorem ct_6 : ∀ k, k < 3 → parseFieldDescriptor (cT_6 k).2.2.1 = some (cy_6 k) := by decide +kernel
theorem cw_6 : ∀ w ∈ u_ws "HouseDesk$Sides" cT_6 3, w ∈ gd := List.forall_mem_cons.mpr ⟨(tm_1 191 rfl rfl), List.forall_mem_cons.mpr ⟨(tm_1 193 rfl rfl), List.forall_mem_cons.mpr ⟨(tm_1 195 rfl rfl), fun _ h => absurd h List.not_mem_nil⟩⟩⟩
/-- HouseDesk$Layout -/
def cT_7 : u_T := fun k => match k with
  | 0 => ("HouseDesk$Layout", "direction", "[I", true)
  | 1 => ("HouseDesk$Layout", "bounding", "[I", true)
  | 2 => ("HouseDesk$Layout", "straight", "[I", true)
  | 3 => ("HouseDesk$Layout", "needed", "[I", true)
  | 4 => ("HouseDesk$Layout", "open", "[I", true)
  | 5 => ("HouseDesk$Layout", "bearing", "[[I", true)
  | 6 => ("HouseDesk$Layout", "order", "[I", true)
  | 7 => ("HouseDesk$Layout", "anchor", "[I", true)
  | 8 => ("HouseDesk$Layout", "found", "Z", false)
  | 9 => ("HouseDesk$Layout", "sketch", "LHouseDesk$Sketch;", true)
  | 10 => ("HouseDesk$Layout", "walks", "LHouseDesk$Walks;", true)
  | _ => ("HouseDesk$Layout", "sides", "LHouseDesk$Sides;", true)
def cy_7 : Nat → FieldType := fun k => match k with
  | 0 => .array .int
  | 1 => .array .int
  | 2 => .array .int
  | 3 => .array .int
  | 4 => .array .int
  | 5 => .array (.array .int)
  | 6 => .array .int
  | 7 => .array .int
  | 8 => .boolean
  | 9 => .object "HouseDesk$Sketch"
  | 10 => .object "HouseDesk$Walks"
  | _ => .object "HouseDesk$Sides"
theorem cn_7 : ∀ a, a < 12 → ∀ b, b < 12 → a ≠ b → (cT_7 a).2.1 ≠ (cT_7 b).2.1 := by decide +kernel
theorem ct_7 : ∀ k, k < 12 → parseFieldDescriptor (cT_7 k).2.2.1 = some (cy_7 k) := by decide +kernel
theorem cw_7 : ∀ w ∈ u_ws "HouseDesk$Layout" cT_7 12, w ∈ gd := List.forall_mem_cons.mpr ⟨(tm_1 219 rfl rfl), List.forall_mem_cons.mpr ⟨(tm_1 221 rfl rfl), List.forall_mem_cons.mpr ⟨(tm_1 223 rfl rfl), List.forall_mem_cons.mpr ⟨(tm_1 225 rfl rfl), List.forall_mem_cons.mpr ⟨(tm_1 227 rfl rfl), List.forall_mem_cons.mpr ⟨(tm_1 229 rfl rfl), List.forall_mem_cons.mpr ⟨(tm_1 231 rfl rfl), List.forall_mem_cons.mpr ⟨(tm_1 233 rfl rfl), List.forall_mem_cons.mpr ⟨(tm_1 235 rfl rfl), List.forall_mem_cons.mpr ⟨(tm_1 237 rfl rfl), List.forall_mem_cons.mpr ⟨(tm_1 239 rfl rfl), List.forall_mem_cons.mpr ⟨(tm_2 1 rfl rfl), fun _ h => absurd h List.not_mem_nil⟩⟩⟩⟩⟩⟩⟩⟩⟩⟩⟩⟩
/-- HouseDesk$Places -/
def cT_8 : u_T := fun k => match k with
  | 0 => ("HouseDesk$Places", "place", "[[I", true)
  | 1 => ("HouseDesk$Places", "size", "[I", true)
  | 2 => ("HouseDesk$Places", "raised", "Z", false)
  | 3 => ("HouseDesk$Places", "sketch", "LHouseDesk$Sketch;", true)
  | 4 => ("HouseDesk$Places", "sides", "LHouseDesk$Sides;", true)
  | _ => ("HouseDesk$Places", "layout", "LHouseDesk$Layout;", true)
def cy_8 : Nat → FieldType := fun k => match k with
  | 0 => .array (.array .int)
  | 1 => .array .int
  | 2 => .boolean
  | 3 => .object "HouseDesk$Sketch"
  | 4 => .object "HouseDesk$Sides"
  | _ => .object "HouseDesk$Layout"
theorem cn_8 : ∀ a, a < 6 → ∀ b, b < 6 → a ≠ b → (cT_8 a).2.1 ≠ (cT_8 b).2.1 := by decide +kernel
theorem ct_8 : ∀ k, k < 6 → parseFieldDescriptor (cT_8 k).2.2.1 = some (cy_8 k) := by decide +kernel
theorem cw_8 : ∀ w ∈ u_ws "HouseDesk$Places" cT_8 6, w ∈ gd := List.forall_mem_cons.mpr ⟨(tm_2 19 rfl rfl), List.forall_mem_cons.mpr ⟨(tm_2 21 rfl rfl), List.forall_mem_cons.mpr ⟨(tm_2 23 rfl rfl), List.forall_mem_cons.mpr ⟨(tm_2 25 rfl rfl), List.forall_mem_cons.mpr ⟨(tm_2 27 rfl rfl), List.forall_mem_cons.mpr ⟨(tm_2 29 rfl rfl), fun _ h => absurd h List.not_mem_nil⟩⟩⟩⟩⟩⟩
/-- HouseDesk$Way -/
def cT_9 : u_T := fun k => match k with
  | 0 => ("HouseDesk$Way", "room", "[I", true)
  | 1 => ("HouseDesk$Way", "size", "I", false)
  | 2 => ("HouseDesk$Way", "far", "[I", true)
  | _ => ("HouseDesk$Way", "sketch", "LHouseDesk$Sketch;", true)
def cy_9 : Nat → FieldType := fun k => match k with
  | 0 => .array .int
  | 1 => .int
  | 2 => .array .int
  | _ => .object "HouseDesk$Sketch"
theorem cn_9 : ∀ a, a < 4 → ∀ b, b < 4 → a ≠ b → (cT_9 a).2.1 ≠ (cT_9 b).2.1 := by decide +kernel
theorem ct_9 : ∀ k, k < 4 → parseFieldDescriptor (cT_9 k).2.2.1 = some (cy_9 k) := by decide +kernel
theorem cw_9 : ∀ w ∈ u_ws "HouseDesk$Way" cT_9 4, w ∈ gd := List.forall_mem_cons.mpr ⟨(tm_2 76 rfl rfl), List.forall_mem_cons.mpr ⟨(tm_2 78 rfl rfl), List.forall_mem_cons.mpr ⟨(tm_2 80 rfl rfl), List.forall_mem_cons.mpr ⟨(tm_2 82 rfl rfl), fun _ h => absurd h List.not_mem_nil⟩⟩⟩⟩
/-- HouseDeskModel -/
def cT_10 : u_T := fun k => match k with
  | 0 => ("HouseDeskModel", "code", "I", false)
  | 1 => ("HouseDeskModel", "drawn", "[Z", true)
  | 2 => ("HouseDeskModel", "x", "[I", true)
  | 3 => ("HouseDeskModel", "y", "[I", true)
  | 4 => ("HouseDeskModel", "width", "[I", true)
  | 5 => ("HouseDeskModel", "height", "[I", true)
  | 6 => ("HouseDeskModel", "joins", "I", false)
  | 7 => ("HouseDeskModel", "one", "[I", true)
  | 8 => ("HouseDeskModel", "two", "[I", true)
  | 9 => ("HouseDeskModel", "wall", "[I", true)
  | 10 => ("HouseDeskModel", "cornered", "Z", false)
  | 11 => ("HouseDeskModel", "corner", "[I", true)
  | 12 => ("HouseDeskModel", "planned", "Z", false)
  | 13 => ("HouseDeskModel", "kind", "I", false)
  | 14 => ("HouseDeskModel", "seen", "[I", true)
  | 15 => ("HouseDeskModel", "outlineCount", "I", false)
  | 16 => ("HouseDeskModel", "faceCount", "I", false)
  | 17 => ("HouseDeskModel", "outline", "[I", true)
  | 18 => ("HouseDeskModel", "faceRooms", "[I", true)
  | 19 => ("HouseDeskModel", "faces", "I", false)
  | 20 => ("HouseDeskModel", "degree", "[I", true)
  | 21 => ("HouseDeskModel", "around", "[I", true)
  | 22 => ("HouseDeskModel", "ringSize", "[I", true)
  | 23 => ("HouseDeskModel", "ring", "[I", true)
  | 24 => ("HouseDeskModel", "linked", "[I", true)
  | 25 => ("HouseDeskModel", "from", "[I", true)
  | 26 => ("HouseDeskModel", "to", "[I", true)
  | 27 => ("HouseDeskModel", "direction", "[I", true)
  | 28 => ("HouseDeskModel", "best", "[I", true)
  | 29 => ("HouseDeskModel", "found", "Z", false)
  | 30 => ("HouseDeskModel", "lows", "[I", true)
  | 31 => ("HouseDeskModel", "highs", "[I", true)
  | 32 => ("HouseDeskModel", "houseWidth", "I", false)
  | 33 => ("HouseDeskModel", "houseHeight", "I", false)
  | 34 => ("HouseDeskModel", "wayCount", "I", false)
  | 35 => ("HouseDeskModel", "wayRooms", "[I", true)
  | 36 => ("HouseDeskModel", "gone", "[Z", true)
  | 37 => ("HouseDeskModel", "levels", "I", false)
  | 38 => ("HouseDeskModel", "roomOf", "[I", true)
  | 39 => ("HouseDeskModel", "start", "[I", true)
  | 40 => ("HouseDeskModel", "above", "[I", true)
  | 41 => ("HouseDeskModel", "right", "[I", true)
  | 42 => ("HouseDeskModel", "under", "[I", true)
  | 43 => ("HouseDeskModel", "given", "[I", true)
  | 44 => ("HouseDeskModel", "raised", "Z", false)
  | _ => ("HouseDeskModel", "far", "[I", true)
def cy_10 : Nat → FieldType := fun k => match k with
  | 0 => .int
  | 1 => .array .boolean
  | 2 => .array .int
  | 3 => .array .int
  | 4 => .array .int
  | 5 => .array .int
  | 6 => .int
  | 7 => .array .int
  | 8 => .array .int
  | 9 => .array .int
  | 10 => .boolean
  | 11 => .array .int
  | 12 => .boolean
  | 13 => .int
  | 14 => .array .int
  | 15 => .int
  | 16 => .int
  | 17 => .array .int
  | 18 => .array .int
  | 19 => .int
  | 20 => .array .int
  | 21 => .array .int
  | 22 => .array .int
  | 23 => .array .int
  | 24 => .array .int
  | 25 => .array .int
  | 26 => .array .int
  | 27 => .array .int
  | 28 => .array .int
  | 29 => .boolean
  | 30 => .array .int
  | 31 => .array .int
  | 32 => .int
  | 33 => .int
  | 34 => .int
  | 35 => .array .int
  | 36 => .array .boolean
  | 37 => .int
  | 38 => .array .int
  | 39 => .array .int
  | 40 => .array .int
  | 41 => .array .int
  | 42 => .array .int
  | 43 => .array .int
  | 44 => .boolean
  | _ => .array .int
theorem cn_10 : ∀ a, a < 46 → ∀ b, b < 46 → a ≠ b → (cT_10 a).2.1 ≠ (cT_10 b).2.1 := by decide +kernel
theorem ct_10 : ∀ k, k < 46 → parseFieldDescriptor (cT_10 k).2.2.1 = some (cy_10 k) := by decide +kernel
theorem cw_10 : ∀ w ∈ u_ws "HouseDeskModel" cT_10 46, w ∈ gd := List.forall_mem_cons.mpr ⟨(tm_4 238 rfl rfl), List.forall_mem_cons.mpr ⟨(tm_5 0 rfl rfl), List.forall_mem_cons.mpr ⟨(tm_5 2 rfl rfl), List.forall_mem_cons.mpr ⟨(tm_5 4 rfl rfl), List.forall_mem_cons.mpr ⟨(tm_5 6 rfl rfl), List.forall_mem_cons.mpr ⟨(tm_5 8 rfl rfl), List.forall_mem_cons.mpr ⟨(tm_5 10 rfl rfl), List.forall_mem_cons.mpr ⟨(tm_5 12 rfl rfl), List.forall_mem_cons.mpr ⟨(tm_5 14 rfl rfl), List.forall_mem_cons.mpr ⟨(tm_5 16 rfl rfl), List.forall_mem_cons.mpr ⟨(tm_5 18 rfl rfl), List.forall_mem_cons.mpr ⟨(tm_5 20 rfl rfl), List.forall_mem_cons.mpr ⟨(tm_5 22 rfl rfl), List.forall_mem_cons.mpr ⟨(tm_5 24 rfl rfl), List.forall_mem_cons.mpr ⟨(tm_5 26 rfl rfl), List.forall_mem_cons.mpr ⟨(tm_5 28 rfl rfl), List.forall_mem_cons.mpr ⟨(tm_5 30 rfl rfl), List.forall_mem_cons.mpr ⟨(tm_5 32 rfl rfl), List.forall_mem_cons.mpr ⟨(tm_5 34 rfl rfl), List.forall_mem_cons.mpr ⟨(tm_5 36 rfl rfl), List.forall_mem_cons.mpr ⟨(tm_5 38 rfl rfl), List.forall_mem_cons.mpr ⟨(tm_5 40 rfl rfl), List.forall_mem_cons.mpr ⟨(tm_5 42 rfl rfl), List.forall_mem_cons.mpr ⟨(tm_5 44 rfl rfl), List.forall_mem_cons.mpr ⟨(tm_5 46 rfl rfl), List.forall_mem_cons.mpr ⟨(tm_5 48 rfl rfl), List.forall_mem_cons.mpr ⟨(tm_5 50 rfl rfl), List.forall_mem_cons.mpr ⟨(tm_5 52 rfl rfl), List.forall_mem_cons.mpr ⟨(tm_5 54 rfl rfl), List.forall_mem_cons.mpr ⟨(tm_5 56 rfl rfl), List.forall_mem_cons.mpr ⟨(tm_5 58 rfl rfl), List.forall_mem_cons.mpr ⟨(tm_5 60 rfl rfl), List.forall_mem_cons.mpr ⟨(tm_5 62 rfl rfl), List.forall_mem_cons.mpr ⟨(tm_5 64 rfl rfl), List.forall_mem_cons.mpr ⟨(tm_5 66 rfl rfl), List.forall_mem_cons.mpr ⟨(tm_5 68 rfl rfl), List.forall_mem_cons.mpr ⟨(tm_5 70 rfl rfl), List.forall_mem_cons.mpr ⟨(tm_5 72 rfl rfl), List.forall_mem_cons.mpr ⟨(tm_5 74 rfl rfl), List.forall_mem_cons.mpr ⟨(tm_5 76 rfl rfl), List.forall_mem_cons.mpr ⟨(tm_5 78 rfl rfl), List.forall_mem_cons.mpr ⟨(tm_5 80 rfl rfl), List.forall_mem_cons.mpr ⟨(tm_5 82 rfl rfl), List.forall_mem_cons.mpr ⟨(tm_5 84 rfl rfl), List.forall_mem_cons.mpr ⟨(tm_5 86 rfl rfl), List.forall_mem_cons.mpr ⟨(tm_5 88 rfl rfl), fun _ h => absurd h List.not_mem_nil⟩⟩⟩⟩⟩⟩⟩⟩⟩⟩⟩⟩⟩⟩⟩⟩⟩⟩⟩⟩⟩⟩⟩⟩⟩⟩⟩⟩⟩⟩⟩⟩⟩⟩⟩⟩⟩⟩⟩⟩⟩⟩⟩⟩⟩⟩
def cs_L : List vw_C := [("HouseDesk", cT_0, 4), ("HouseDesk$Sketch", cT_1, 13), ("HouseDesk$Planner", cT_2, 9), ("HouseDesk$Witness", cT_3, 2), ("HouseDesk$Crossings", cT_4, 1), ("HouseDesk$Walks", cT_5, 8), ("HouseDesk$Sides", cT_6, 3), ("HouseDesk$Layout", cT_7, 12), ("HouseDesk$Places", cT_8, 6), ("HouseDesk$Way", cT_9, 4), ("HouseDeskModel", cT_10, 46)]
/-- HouseDesk.clear -/
def mt_0 : mm_M := ([(0, (.aload_n 0, 1, 0, 0)), (1, (.getfield 12, 3, 0, 0)), (4, (.invokevirtual 98, 3, 0, 0)), (7, (.aload_n 0, 1, 0, 0)), (8, (.iconst (0), 1, 0, (0))), (9, (.putfield 32, 3, 0, 0)), (12, (.return_, 1, 0, 0))], [(12, 0, 0)], [(32, 0, 3)], [(98, 15, 0, 1)], 0)
/-- HouseDesk.plan -/
def mt_1 : mm_M := ([(0, (.aload_n 0, 1, 0, 0)), (1, (.getfield 21, 3, 0, 0)), (4, (.invokevirtual 101, 3, 0, 0)), (7, (.istore_n 1, 1, 0, 0)), (8, (.aload_n 0, 1, 0, 0)), (9, (.iload_n 1, 1, 0, 0)), (10, (.iconst (1), 1, 0, (1))), (11, (.if_icmp .ne (7), 3, 18, 0)), (14, (.iconst (1), 1, 0, (1))), (15, (.goto (4), 3, 19, 0)), (18, (.iconst (0), 1, 0, (0))), (19, (.putfield 32, 3, 0, 0)), (22, (.iload_n 1, 1, 0, 0)), (23, (.ireturn, 1, 0, 0))], [(21, 0, 1)], [(32, 0, 3)], [(101, 18, 0, 2)], 1)
/-- HouseDesk.witness -/
def mt_2 : mm_M := ([(0, (.aload_n 0, 1, 0, 0)), (1, (.getfield 21, 3, 0, 0)), (4, (.getfield 105, 3, 0, 0)), (7, (.iload_n 1, 1, 0, 0)), (8, (.invokevirtual 109, 3, 0, 0)), (11, (.ireturn, 1, 0, 0))], [(21, 0, 1), (105, 2, 0)], [], [(109, 22, 1, 3)], 1)
/-- HouseDesk.wayRoom -/
def mt_3 : mm_M := ([(0, (.aload_n 0, 1, 0, 0)), (1, (.getfield 28, 3, 0, 0)), (4, (.iload_n 1, 1, 0, 0)), (5, (.invokevirtual 175, 3, 0, 0)), (8, (.ireturn, 1, 0, 0))], [(28, 0, 2)], [], [(175, 85, 1, 9)], 1)
/-- HouseDesk$Bits.has -/
def mt_4 : mm_M := ([(0, (.iload_n 0, 1, 0, 0)), (1, (.iload_n 1, 1, 0, 0)), (2, (.ishr, 1, 0, 0)), (3, (.iconst (1), 1, 0, (1))), (4, (.iand, 1, 0, 0)), (5, (.iconst (1), 1, 0, (1))), (6, (.if_icmp .ne (7), 3, 13, 0)), (9, (.iconst (1), 1, 0, (1))), (10, (.goto (4), 3, 14, 0)), (13, (.iconst (0), 1, 0, (0))), (14, (.ireturn, 1, 0, 0))], [], [], [], 2)
/-- HouseDesk$Bits.lowest -/
def mt_5 : mm_M := ([(0, (.iconst (0), 1, 0, (0))), (1, (.istore_n 1, 1, 0, 0)), (2, (.iload_n 1, 1, 0, 0)), (3, (.bipush (13), 2, 0, (13))), (5, (.if_icmp .ge (17), 3, 22, 0)), (8, (.iload_n 0, 1, 0, 0)), (9, (.iload_n 1, 1, 0, 0)), (10, (.invokestatic 9, 3, 0, 0)), (13, (.ifCond .ne (9), 3, 22, 0)), (16, (.iinc 1 (1), 3, 0, (1))), (19, (.goto (-17), 3, 2, 0)), (22, (.iload_n 1, 1, 0, 0)), (23, (.ireturn, 1, 0, 0))], [], [], [(9, 4, 2, 99)], 1)
/-- HouseDesk$Bits.withoutLowest -/
def mt_6 : mm_M := ([(0, (.iload_n 0, 1, 0, 0)), (1, (.iload_n 0, 1, 0, 0)), (2, (.iconst (1), 1, 0, (1))), (3, (.isub, 1, 0, 0)), (4, (.iand, 1, 0, 0)), (5, (.ireturn, 1, 0, 0))], [], [], [], 1)
/-- HouseDesk$Sketch.isDrawn -/
def mt_7 : mm_M := ([(0, (.iload_n 1, 1, 0, 0)), (1, (.ifCond .lt (24), 3, 25, 0)), (4, (.iload_n 1, 1, 0, 0)), (5, (.bipush (9), 2, 0, (9))), (7, (.if_icmp .ge (18), 3, 25, 0)), (10, (.aload_n 0, 1, 0, 0)), (11, (.getfield 39, 3, 0, 0)), (14, (.iload_n 1, 1, 0, 0)), (15, (.invokestatic 43, 3, 0, 0)), (18, (.ifCond .eq (7), 3, 25, 0)), (21, (.iconst (1), 1, 0, (1))), (22, (.goto (4), 3, 26, 0)), (25, (.iconst (0), 1, 0, (0))), (26, (.ireturn, 1, 0, 0))], [(39, 1, 10)], [], [(43, 4, 2, 99)], 2)
/-- HouseDesk$Sketch.isTaken -/
def mt_8 : mm_M := ([(0, (.iconst (0), 1, 0, (0))), (1, (.istore_n 3, 1, 0, 0)), (2, (.iload_n 3, 1, 0, 0)), (3, (.bipush (9), 2, 0, (9))), (5, (.if_icmp .ge (39), 3, 44, 0)), (8, (.aload_n 0, 1, 0, 0)), (9, (.iload_n 3, 1, 0, 0)), (10, (.invokevirtual 49, 3, 0, 0)), (13, (.ifCond .eq (25), 3, 38, 0)), (16, (.aload_n 0, 1, 0, 0)), (17, (.getfield 9, 3, 0, 0)), (20, (.iload_n 3, 1, 0, 0)), (21, (.iaload, 1, 0, 0)), (22, (.iload_n 1, 1, 0, 0)), (23, (.if_icmp .ne (15), 3, 38, 0)), (26, (.aload_n 0, 1, 0, 0)), (27, (.getfield 15, 3, 0, 0)), (30, (.iload_n 3, 1, 0, 0)), (31, (.iaload, 1, 0, 0)), (32, (.iload_n 2, 1, 0, 0)), (33, (.if_icmp .ne (5), 3, 38, 0)), (36, (.iconst (1), 1, 0, (1))), (37, (.ireturn, 1, 0, 0)), (38, (.iinc 3 (1), 3, 0, (1))), (41, (.goto (-39), 3, 2, 0)), (44, (.iconst (0), 1, 0, (0))), (45, (.ireturn, 1, 0, 0))], [(9, 1, 0), (15, 1, 1)], [], [(49, 7, 1, 1)], 2)
/-- HouseDesk$Sketch.hasJoin -/
def mt_9 : mm_M := ([(0, (.iload_n 1, 1, 0, 0)), (1, (.ifCond .lt (15), 3, 16, 0)), (4, (.iload_n 1, 1, 0, 0)), (5, (.aload_n 0, 1, 0, 0)), (6, (.getfield 53, 3, 0, 0)), (9, (.if_icmp .ge (7), 3, 16, 0)), (12, (.iconst (1), 1, 0, (1))), (13, (.goto (4), 3, 17, 0)), (16, (.iconst (0), 1, 0, (0))), (17, (.ireturn, 1, 0, 0))], [(53, 1, 12)], [], [], 2)
/-- HouseDesk$Sketch.areJoined -/
def mt_10 : mm_M := ([(0, (.aload_n 0, 1, 0, 0)), (1, (.getfield 24, 3, 0, 0)), (4, (.iload_n 1, 1, 0, 0)), (5, (.iaload, 1, 0, 0)), (6, (.iload_n 2, 1, 0, 0)), (7, (.invokestatic 43, 3, 0, 0)), (10, (.ireturn, 1, 0, 0))], [(24, 1, 4)], [], [(43, 4, 2, 99)], 2)
/-- HouseDesk$Sketch.isEnd -/
def mt_11 : mm_M := ([(0, (.aload_n 0, 1, 0, 0)), (1, (.getfield 27, 3, 0, 0)), (4, (.iload_n 2, 1, 0, 0)), (5, (.iaload, 1, 0, 0)), (6, (.iload_n 1, 1, 0, 0)), (7, (.if_icmp .eq (13), 3, 20, 0)), (10, (.aload_n 0, 1, 0, 0)), (11, (.getfield 30, 3, 0, 0)), (14, (.iload_n 2, 1, 0, 0)), (15, (.iaload, 1, 0, 0)), (16, (.iload_n 1, 1, 0, 0)), (17, (.if_icmp .ne (7), 3, 24, 0)), (20, (.iconst (1), 1, 0, (1))), (21, (.goto (4), 3, 25, 0)), (24, (.iconst (0), 1, 0, (0))), (25, (.ireturn, 1, 0, 0))], [(27, 1, 5), (30, 1, 6)], [], [], 2)
/-- HouseDesk$Sketch.drawRoom -/
def mt_12 : mm_M := ([(0, (.aload_n 0, 1, 0, 0)), (1, (.getfield 9, 3, 0, 0)), (4, (.iload_n 1, 1, 0, 0)), (5, (.iload_n 2, 1, 0, 0)), (6, (.iastore, 1, 0, 0)), (7, (.aload_n 0, 1, 0, 0)), (8, (.getfield 15, 3, 0, 0)), (11, (.iload_n 1, 1, 0, 0)), (12, (.iload_n 3, 1, 0, 0)), (13, (.iastore, 1, 0, 0)), (14, (.aload_n 0, 1, 0, 0)), (15, (.getfield 18, 3, 0, 0)), (18, (.iload_n 1, 1, 0, 0)), (19, (.iconst (1), 1, 0, (1))), (20, (.iastore, 1, 0, 0)), (21, (.aload_n 0, 1, 0, 0)), (22, (.getfield 21, 3, 0, 0)), (25, (.iload_n 1, 1, 0, 0)), (26, (.iconst (1), 1, 0, (1))), (27, (.iastore, 1, 0, 0)), (28, (.aload_n 0, 1, 0, 0)), (29, (.getfield 24, 3, 0, 0)), (32, (.iload_n 1, 1, 0, 0)), (33, (.iconst (0), 1, 0, (0))), (34, (.iastore, 1, 0, 0)), (35, (.aload_n 0, 1, 0, 0)), (36, (.dup, 1, 0, 0)), (37, (.getfield 39, 3, 0, 0)), (40, (.iconst (1), 1, 0, (1))), (41, (.iload_n 1, 1, 0, 0)), (42, (.ishl, 1, 0, 0)), (43, (.ior, 1, 0, 0)), (44, (.putfield 39, 3, 0, 0)), (47, (.aload_n 0, 1, 0, 0)), (48, (.dup, 1, 0, 0)), (49, (.getfield 56, 3, 0, 0)), (52, (.iconst (1), 1, 0, (1))), (53, (.iadd, 1, 0, 0)), (54, (.putfield 56, 3, 0, 0)), (57, (.return_, 1, 0, 0))], [(9, 1, 0), (15, 1, 1), (18, 1, 2), (21, 1, 3), (24, 1, 4), (39, 1, 10), (56, 1, 11)], [(39, 1, 10), (56, 1, 11)], [], 0)
/-- HouseDesk$Sketch.drawJoin -/
def mt_13 : mm_M := ([(0, (.aload_n 0, 1, 0, 0)), (1, (.getfield 27, 3, 0, 0)), (4, (.aload_n 0, 1, 0, 0)), (5, (.getfield 53, 3, 0, 0)), (8, (.iload_n 1, 1, 0, 0)), (9, (.iastore, 1, 0, 0)), (10, (.aload_n 0, 1, 0, 0)), (11, (.getfield 30, 3, 0, 0)), (14, (.aload_n 0, 1, 0, 0)), (15, (.getfield 53, 3, 0, 0)), (18, (.iload_n 2, 1, 0, 0)), (19, (.iastore, 1, 0, 0)), (20, (.aload_n 0, 1, 0, 0)), (21, (.getfield 33, 3, 0, 0)), (24, (.aload_n 0, 1, 0, 0)), (25, (.getfield 53, 3, 0, 0)), (28, (.iconst (1), 1, 0, (1))), (29, (.iastore, 1, 0, 0)), (30, (.aload_n 0, 1, 0, 0)), (31, (.getfield 24, 3, 0, 0)), (34, (.iload_n 1, 1, 0, 0)), (35, (.dup2, 1, 0, 0)), (36, (.iaload, 1, 0, 0)), (37, (.iconst (1), 1, 0, (1))), (38, (.iload_n 2, 1, 0, 0)), (39, (.ishl, 1, 0, 0)), (40, (.ior, 1, 0, 0)), (41, (.iastore, 1, 0, 0)), (42, (.aload_n 0, 1, 0, 0)), (43, (.getfield 24, 3, 0, 0)), (46, (.iload_n 2, 1, 0, 0)), (47, (.dup2, 1, 0, 0)), (48, (.iaload, 1, 0, 0)), (49, (.iconst (1), 1, 0, (1))), (50, (.iload_n 1, 1, 0, 0)), (51, (.ishl, 1, 0, 0)), (52, (.ior, 1, 0, 0)), (53, (.iastore, 1, 0, 0)), (54, (.aload_n 0, 1, 0, 0)), (55, (.dup, 1, 0, 0)), (56, (.getfield 53, 3, 0, 0)), (59, (.iconst (1), 1, 0, (1))), (60, (.iadd, 1, 0, 0)), (61, (.putfield 53, 3, 0, 0)), (64, (.return_, 1, 0, 0))], [(27, 1, 5), (53, 1, 12), (30, 1, 6), (33, 1, 7), (24, 1, 4)], [(53, 1, 12)], [], 0)
/-- HouseDesk$Sketch.nameCorners -/
def mt_14 : mm_M := ([(0, (.aload_n 0, 1, 0, 0)), (1, (.getfield 36, 3, 0, 0)), (4, (.iconst (0), 1, 0, (0))), (5, (.iload_n 1, 1, 0, 0)), (6, (.iastore, 1, 0, 0)), (7, (.aload_n 0, 1, 0, 0)), (8, (.getfield 36, 3, 0, 0)), (11, (.iconst (1), 1, 0, (1))), (12, (.iload_n 2, 1, 0, 0)), (13, (.iastore, 1, 0, 0)), (14, (.aload_n 0, 1, 0, 0)), (15, (.getfield 36, 3, 0, 0)), (18, (.iconst (2), 1, 0, (2))), (19, (.iload_n 3, 1, 0, 0)), (20, (.iastore, 1, 0, 0)), (21, (.aload_n 0, 1, 0, 0)), (22, (.getfield 36, 3, 0, 0)), (25, (.iconst (3), 1, 0, (3))), (26, (.iload 4, 2, 0, 0)), (28, (.iastore, 1, 0, 0)), (29, (.aload_n 0, 1, 0, 0)), (30, (.iconst (1), 1, 0, (1))), (31, (.putfield 59, 3, 0, 0)), (34, (.return_, 1, 0, 0))], [(36, 1, 8)], [(59, 1, 9)], [], 0)
/-- HouseDesk$Sketch.wipe -/
def mt_15 : mm_M := ([(0, (.aload_n 0, 1, 0, 0)), (1, (.iconst (0), 1, 0, (0))), (2, (.putfield 39, 3, 0, 0)), (5, (.aload_n 0, 1, 0, 0)), (6, (.iconst (0), 1, 0, (0))), (7, (.putfield 56, 3, 0, 0)), (10, (.aload_n 0, 1, 0, 0)), (11, (.iconst (0), 1, 0, (0))), (12, (.putfield 53, 3, 0, 0)), (15, (.aload_n 0, 1, 0, 0)), (16, (.iconst (0), 1, 0, (0))), (17, (.putfield 59, 3, 0, 0)), (20, (.return_, 1, 0, 0))], [], [(39, 1, 10), (56, 1, 11), (53, 1, 12), (59, 1, 9)], [], 0)
/-- HouseDesk$Sketch.wishedArea -/
def mt_16 : mm_M := ([(0, (.iconst (0), 1, 0, (0))), (1, (.istore_n 1, 1, 0, 0)), (2, (.iconst (0), 1, 0, (0))), (3, (.istore_n 2, 1, 0, 0)), (4, (.iload_n 2, 1, 0, 0)), (5, (.bipush (9), 2, 0, (9))), (7, (.if_icmp .ge (33), 3, 40, 0)), (10, (.aload_n 0, 1, 0, 0)), (11, (.iload_n 2, 1, 0, 0)), (12, (.invokevirtual 49, 3, 0, 0)), (15, (.ifCond .eq (19), 3, 34, 0)), (18, (.iload_n 1, 1, 0, 0)), (19, (.aload_n 0, 1, 0, 0)), (20, (.getfield 18, 3, 0, 0)), (23, (.iload_n 2, 1, 0, 0)), (24, (.iaload, 1, 0, 0)), (25, (.aload_n 0, 1, 0, 0)), (26, (.getfield 21, 3, 0, 0)), (29, (.iload_n 2, 1, 0, 0)), (30, (.iaload, 1, 0, 0)), (31, (.imul, 1, 0, 0)), (32, (.iadd, 1, 0, 0)), (33, (.istore_n 1, 1, 0, 0)), (34, (.iinc 2 (1), 3, 0, (1))), (37, (.goto (-33), 3, 4, 0)), (40, (.iload_n 1, 1, 0, 0)), (41, (.ireturn, 1, 0, 0))], [(18, 1, 2), (21, 1, 3)], [], [(49, 7, 1, 1)], 1)
/-- HouseDesk$Sketch.turn -/
def mt_17 : mm_M := ([(0, (.aload_n 0, 1, 0, 0)), (1, (.getfield 9, 3, 0, 0)), (4, (.iload_n 2, 1, 0, 0)), (5, (.iaload, 1, 0, 0)), (6, (.aload_n 0, 1, 0, 0)), (7, (.getfield 9, 3, 0, 0)), (10, (.iload_n 1, 1, 0, 0)), (11, (.iaload, 1, 0, 0)), (12, (.isub, 1, 0, 0)), (13, (.aload_n 0, 1, 0, 0)), (14, (.getfield 15, 3, 0, 0)), (17, (.iload_n 3, 1, 0, 0)), (18, (.iaload, 1, 0, 0)), (19, (.aload_n 0, 1, 0, 0)), (20, (.getfield 15, 3, 0, 0)), (23, (.iload_n 1, 1, 0, 0)), (24, (.iaload, 1, 0, 0)), (25, (.isub, 1, 0, 0)), (26, (.imul, 1, 0, 0)), (27, (.aload_n 0, 1, 0, 0)), (28, (.getfield 15, 3, 0, 0)), (31, (.iload_n 2, 1, 0, 0)), (32, (.iaload, 1, 0, 0)), (33, (.aload_n 0, 1, 0, 0)), (34, (.getfield 15, 3, 0, 0)), (37, (.iload_n 1, 1, 0, 0)), (38, (.iaload, 1, 0, 0)), (39, (.isub, 1, 0, 0)), (40, (.aload_n 0, 1, 0, 0)), (41, (.getfield 9, 3, 0, 0)), (44, (.iload_n 3, 1, 0, 0)), (45, (.iaload, 1, 0, 0)), (46, (.aload_n 0, 1, 0, 0)), (47, (.getfield 9, 3, 0, 0)), (50, (.iload_n 1, 1, 0, 0)), (51, (.iaload, 1, 0, 0)), (52, (.isub, 1, 0, 0)), (53, (.imul, 1, 0, 0)), (54, (.isub, 1, 0, 0)), (55, (.ireturn, 1, 0, 0))], [(9, 1, 0), (15, 1, 1)], [], [], 1)
/-- HouseDesk$Planner.judge -/
def mt_18 : mm_M := ([(0, (.aload_n 0, 1, 0, 0)), (1, (.getfield 12, 3, 0, 0)), (4, (.invokevirtual 65, 3, 0, 0)), (7, (.aload_n 0, 1, 0, 0)), (8, (.iconst (0), 1, 0, (0))), (9, (.putfield 68, 3, 0, 0)), (12, (.aload_n 0, 1, 0, 0)), (13, (.iconst (0), 1, 0, (0))), (14, (.putfield 72, 3, 0, 0)), (17, (.aload_n 0, 1, 0, 0)), (18, (.getfield 27, 3, 0, 0)), (21, (.aload_n 0, 1, 0, 0)), (22, (.getfield 12, 3, 0, 0)), (25, (.invokevirtual 75, 3, 0, 0)), (28, (.ifCond .eq (5), 3, 33, 0)), (31, (.iconst (0), 1, 0, (0))), (32, (.ireturn, 1, 0, 0)), (33, (.aload_n 0, 1, 0, 0)), (34, (.getfield 18, 3, 0, 0)), (37, (.getfield 79, 3, 0, 0)), (40, (.iconst (3), 1, 0, (3))), (41, (.if_icmp .lt (23), 3, 64, 0)), (44, (.aload_n 0, 1, 0, 0)), (45, (.getfield 34, 3, 0, 0)), (48, (.invokevirtual 84, 3, 0, 0)), (51, (.ifCond .eq (13), 3, 64, 0)), (54, (.aload_n 0, 1, 0, 0)), (55, (.getfield 34, 3, 0, 0)), (58, (.invokevirtual 88, 3, 0, 0)), (61, (.ifCond .ne (5), 3, 66, 0)), (64, (.iconst (2), 1, 0, (2))), (65, (.ireturn, 1, 0, 0)), (66, (.aload_n 0, 1, 0, 0)), (67, (.getfield 34, 3, 0, 0)), (70, (.invokevirtual 91, 3, 0, 0)), (73, (.aload_n 0, 1, 0, 0)), (74, (.aload_n 0, 1, 0, 0)), (75, (.getfield 34, 3, 0, 0)), (78, (.getfield 94, 3, 0, 0)), (81, (.putfield 68, 3, 0, 0)), (84, (.aload_n 0, 1, 0, 0)), (85, (.aload_n 0, 1, 0, 0)), (86, (.getfield 34, 3, 0, 0)), (89, (.getfield 97, 3, 0, 0)), (92, (.putfield 72, 3, 0, 0)), (95, (.aload_n 0, 1, 0, 0)), (96, (.getfield 34, 3, 0, 0)), (99, (.aload_n 0, 1, 0, 0)), (100, (.getfield 12, 3, 0, 0)), (103, (.invokevirtual 100, 3, 0, 0)), (106, (.ifCond .eq (5), 3, 111, 0)), (109, (.iconst (3), 1, 0, (3))), (110, (.ireturn, 1, 0, 0)), (111, (.aload_n 0, 1, 0, 0)), (112, (.getfield 43, 3, 0, 0)), (115, (.invokevirtual 103, 3, 0, 0)), (118, (.ifCond .ne (5), 3, 123, 0)), (121, (.iconst (4), 1, 0, (4))), (122, (.ireturn, 1, 0, 0)), (123, (.aload_n 0, 1, 0, 0)), (124, (.getfield 43, 3, 0, 0)), (127, (.invokevirtual 106, 3, 0, 0)), (130, (.aload_n 0, 1, 0, 0)), (131, (.getfield 43, 3, 0, 0)), (134, (.aload_n 0, 1, 0, 0)), (135, (.getfield 12, 3, 0, 0)), (138, (.invokevirtual 109, 3, 0, 0)), (141, (.ifCond .eq (5), 3, 146, 0)), (144, (.iconst (5), 1, 0, (5))), (145, (.ireturn, 1, 0, 0)), (146, (.aload_n 0, 1, 0, 0)), (147, (.getfield 43, 3, 0, 0)), (150, (.invokevirtual 112, 3, 0, 0)), (153, (.aload_n 0, 1, 0, 0)), (154, (.getfield 52, 3, 0, 0)), (157, (.invokevirtual 115, 3, 0, 0)), (160, (.aload_n 0, 1, 0, 0)), (161, (.getfield 61, 3, 0, 0)), (164, (.invokevirtual 118, 3, 0, 0)), (167, (.iconst (1), 1, 0, (1))), (168, (.ireturn, 1, 0, 0))], [(12, 2, 0), (27, 2, 7), (18, 2, 6), (79, 1, 11), (34, 2, 8), (94, 5, 3), (97, 5, 6), (43, 2, 1), (52, 2, 2), (61, 2, 3)], [(68, 2, 4), (72, 2, 5)], [(65, 19, 0, 3), (75, 23, 1, 4), (84, 31, 0, 5), (88, 32, 0, 5), (91, 39, 0, 5), (100, 43, 1, 5), (103, 47, 0, 6), (106, 54, 0, 6), (109, 55, 1, 6), (112, 59, 0, 6), (115, 61, 0, 7), (118, 72, 0, 8)], 1)
/-- HouseDesk$Witness.forget -/
def mt_19 : mm_M := ([(0, (.aload_n 0, 1, 0, 0)), (1, (.iconst (0), 1, 0, (0))), (2, (.putfield 13, 3, 0, 0)), (5, (.return_, 1, 0, 0))], [], [(13, 3, 1)], [], 0)
/-- HouseDesk$Witness.tellTwo -/
def mt_20 : mm_M := ([(0, (.aload_n 0, 1, 0, 0)), (1, (.getfield 7, 3, 0, 0)), (4, (.iconst (0), 1, 0, (0))), (5, (.iload_n 1, 1, 0, 0)), (6, (.iastore, 1, 0, 0)), (7, (.aload_n 0, 1, 0, 0)), (8, (.getfield 7, 3, 0, 0)), (11, (.iconst (1), 1, 0, (1))), (12, (.iload_n 2, 1, 0, 0)), (13, (.iastore, 1, 0, 0)), (14, (.aload_n 0, 1, 0, 0)), (15, (.iconst (2), 1, 0, (2))), (16, (.putfield 13, 3, 0, 0)), (19, (.return_, 1, 0, 0))], [(7, 3, 0)], [(13, 3, 1)], [], 0)
/-- HouseDesk$Witness.tellThree -/
def mt_21 : mm_M := ([(0, (.aload_n 0, 1, 0, 0)), (1, (.getfield 7, 3, 0, 0)), (4, (.iconst (0), 1, 0, (0))), (5, (.iload_n 1, 1, 0, 0)), (6, (.iastore, 1, 0, 0)), (7, (.aload_n 0, 1, 0, 0)), (8, (.getfield 7, 3, 0, 0)), (11, (.iconst (1), 1, 0, (1))), (12, (.iload_n 2, 1, 0, 0)), (13, (.iastore, 1, 0, 0)), (14, (.aload_n 0, 1, 0, 0)), (15, (.getfield 7, 3, 0, 0)), (18, (.iconst (2), 1, 0, (2))), (19, (.iload_n 3, 1, 0, 0)), (20, (.iastore, 1, 0, 0)), (21, (.aload_n 0, 1, 0, 0)), (22, (.iconst (3), 1, 0, (3))), (23, (.putfield 13, 3, 0, 0)), (26, (.return_, 1, 0, 0))], [(7, 3, 0)], [(13, 3, 1)], [], 0)
/-- HouseDesk$Witness.at -/
def mt_22 : mm_M := ([(0, (.iload_n 1, 1, 0, 0)), (1, (.ifCond .lt (20), 3, 21, 0)), (4, (.iload_n 1, 1, 0, 0)), (5, (.aload_n 0, 1, 0, 0)), (6, (.getfield 13, 3, 0, 0)), (9, (.if_icmp .ge (12), 3, 21, 0)), (12, (.aload_n 0, 1, 0, 0)), (13, (.getfield 7, 3, 0, 0)), (16, (.iload_n 1, 1, 0, 0)), (17, (.iaload, 1, 0, 0)), (18, (.goto (4), 3, 22, 0)), (21, (.iconst (-1), 1, 0, (-1))), (22, (.ireturn, 1, 0, 0))], [(13, 3, 1), (7, 3, 0)], [], [], 1)
/-- HouseDesk$Crossings.findAny -/
def mt_23 : mm_M := ([(0, (.aload_n 0, 1, 0, 0)), (1, (.aload_n 1, 1, 0, 0)), (2, (.invokevirtual 15, 3, 0, 0)), (5, (.ifCond .ne (11), 3, 16, 0)), (8, (.aload_n 0, 1, 0, 0)), (9, (.aload_n 1, 1, 0, 0)), (10, (.invokevirtual 19, 3, 0, 0)), (13, (.ifCond .eq (7), 3, 20, 0)), (16, (.iconst (1), 1, 0, (1))), (17, (.goto (4), 3, 21, 0)), (20, (.iconst (0), 1, 0, (0))), (21, (.ireturn, 1, 0, 0))], [], [], [(15, 24, 1, 4), (19, 25, 1, 4)], 2)
/-- HouseDesk$Crossings.findTwoJoins -/
def mt_24 : mm_M := ([(0, (.iconst (0), 1, 0, (0))), (1, (.istore_n 2, 1, 0, 0)), (2, (.iload_n 2, 1, 0, 0)), (3, (.aload_n 0, 1, 0, 0)), (4, (.getfield 9, 3, 0, 0)), (7, (.getfield 22, 3, 0, 0)), (10, (.if_icmp .ge (65), 3, 75, 0)), (13, (.iload_n 2, 1, 0, 0)), (14, (.iconst (1), 1, 0, (1))), (15, (.iadd, 1, 0, 0)), (16, (.istore_n 3, 1, 0, 0)), (17, (.iload_n 3, 1, 0, 0)), (18, (.aload_n 0, 1, 0, 0)), (19, (.getfield 9, 3, 0, 0)), (22, (.getfield 22, 3, 0, 0)), (25, (.if_icmp .ge (44), 3, 69, 0)), (28, (.aload_n 0, 1, 0, 0)), (29, (.iload_n 2, 1, 0, 0)), (30, (.iload_n 3, 1, 0, 0)), (31, (.invokevirtual 28, 3, 0, 0)), (34, (.ifCond .ne (21), 3, 55, 0)), (37, (.aload_n 0, 1, 0, 0)), (38, (.iload_n 3, 1, 0, 0)), (39, (.iload_n 2, 1, 0, 0)), (40, (.invokevirtual 28, 3, 0, 0)), (43, (.ifCond .ne (12), 3, 55, 0)), (46, (.aload_n 0, 1, 0, 0)), (47, (.iload_n 2, 1, 0, 0)), (48, (.iload_n 3, 1, 0, 0)), (49, (.invokevirtual 32, 3, 0, 0)), (52, (.ifCond .eq (11), 3, 63, 0)), (55, (.aload_n 1, 1, 0, 0)), (56, (.iload_n 2, 1, 0, 0)), (57, (.iload_n 3, 1, 0, 0)), (58, (.invokevirtual 35, 3, 0, 0)), (61, (.iconst (1), 1, 0, (1))), (62, (.ireturn, 1, 0, 0)), (63, (.iinc 3 (1), 3, 0, (1))), (66, (.goto (-49), 3, 17, 0)), (69, (.iinc 2 (1), 3, 0, (1))), (72, (.goto (-70), 3, 2, 0)), (75, (.iconst (0), 1, 0, (0))), (76, (.ireturn, 1, 0, 0))], [(9, 4, 0), (22, 1, 12)], [], [(28, 26, 2, 4), (32, 29, 2, 4), (35, 20, 2, 3)], 2)
/-- HouseDesk$Crossings.findRoomOnJoin -/
def mt_25 : mm_M := ([(0, (.iconst (0), 1, 0, (0))), (1, (.istore_n 2, 1, 0, 0)), (2, (.iload_n 2, 1, 0, 0)), (3, (.aload_n 0, 1, 0, 0)), (4, (.getfield 9, 3, 0, 0)), (7, (.getfield 22, 3, 0, 0)), (10, (.if_icmp .ge (51), 3, 61, 0)), (13, (.iconst (0), 1, 0, (0))), (14, (.istore_n 3, 1, 0, 0)), (15, (.iload_n 3, 1, 0, 0)), (16, (.bipush (9), 2, 0, (9))), (18, (.if_icmp .ge (37), 3, 55, 0)), (21, (.aload_n 0, 1, 0, 0)), (22, (.getfield 9, 3, 0, 0)), (25, (.iload_n 3, 1, 0, 0)), (26, (.invokevirtual 41, 3, 0, 0)), (29, (.ifCond .eq (20), 3, 49, 0)), (32, (.aload_n 0, 1, 0, 0)), (33, (.iload_n 3, 1, 0, 0)), (34, (.iload_n 2, 1, 0, 0)), (35, (.invokevirtual 45, 3, 0, 0)), (38, (.ifCond .eq (11), 3, 49, 0)), (41, (.aload_n 1, 1, 0, 0)), (42, (.iload_n 2, 1, 0, 0)), (43, (.iload_n 3, 1, 0, 0)), (44, (.invokevirtual 35, 3, 0, 0)), (47, (.iconst (1), 1, 0, (1))), (48, (.ireturn, 1, 0, 0)), (49, (.iinc 3 (1), 3, 0, (1))), (52, (.goto (-37), 3, 15, 0)), (55, (.iinc 2 (1), 3, 0, (1))), (58, (.goto (-56), 3, 2, 0)), (61, (.iconst (0), 1, 0, (0))), (62, (.ireturn, 1, 0, 0))], [(9, 4, 0), (22, 1, 12)], [], [(41, 7, 1, 1), (45, 27, 2, 4), (35, 20, 2, 3)], 2)
/-- HouseDesk$Crossings.touches -/
def mt_26 : mm_M := ([(0, (.aload_n 0, 1, 0, 0)), (1, (.aload_n 0, 1, 0, 0)), (2, (.getfield 9, 3, 0, 0)), (5, (.getfield 48, 3, 0, 0)), (8, (.iload_n 1, 1, 0, 0)), (9, (.iaload, 1, 0, 0)), (10, (.iload_n 2, 1, 0, 0)), (11, (.invokevirtual 45, 3, 0, 0)), (14, (.ifCond .ne (20), 3, 34, 0)), (17, (.aload_n 0, 1, 0, 0)), (18, (.aload_n 0, 1, 0, 0)), (19, (.getfield 9, 3, 0, 0)), (22, (.getfield 52, 3, 0, 0)), (25, (.iload_n 1, 1, 0, 0)), (26, (.iaload, 1, 0, 0)), (27, (.iload_n 2, 1, 0, 0)), (28, (.invokevirtual 45, 3, 0, 0)), (31, (.ifCond .eq (7), 3, 38, 0)), (34, (.iconst (1), 1, 0, (1))), (35, (.goto (4), 3, 39, 0)), (38, (.iconst (0), 1, 0, (0))), (39, (.ireturn, 1, 0, 0))], [(9, 4, 0), (48, 1, 5), (52, 1, 6)], [], [(45, 27, 2, 4)], 2)
/-- HouseDesk$Crossings.liesOn -/
def mt_27 : mm_M := ([(0, (.aload_n 0, 1, 0, 0)), (1, (.getfield 9, 3, 0, 0)), (4, (.iload_n 1, 1, 0, 0)), (5, (.iload_n 2, 1, 0, 0)), (6, (.invokevirtual 55, 3, 0, 0)), (9, (.ifCond .eq (5), 3, 14, 0)), (12, (.iconst (0), 1, 0, (0))), (13, (.ireturn, 1, 0, 0)), (14, (.aload_n 0, 1, 0, 0)), (15, (.getfield 9, 3, 0, 0)), (18, (.getfield 48, 3, 0, 0)), (21, (.iload_n 2, 1, 0, 0)), (22, (.iaload, 1, 0, 0)), (23, (.istore_n 3, 1, 0, 0)), (24, (.aload_n 0, 1, 0, 0)), (25, (.getfield 9, 3, 0, 0)), (28, (.getfield 52, 3, 0, 0)), (31, (.iload_n 2, 1, 0, 0)), (32, (.iaload, 1, 0, 0)), (33, (.istore 4, 2, 0, 0)), (35, (.aload_n 0, 1, 0, 0)), (36, (.getfield 9, 3, 0, 0)), (39, (.iload_n 3, 1, 0, 0)), (40, (.iload 4, 2, 0, 0)), (42, (.iload_n 1, 1, 0, 0)), (43, (.invokevirtual 58, 3, 0, 0)), (46, (.ifCond .ne (75), 3, 121, 0)), (49, (.aload_n 0, 1, 0, 0)), (50, (.getfield 9, 3, 0, 0)), (53, (.getfield 62, 3, 0, 0)), (56, (.iload_n 1, 1, 0, 0)), (57, (.iaload, 1, 0, 0)), (58, (.aload_n 0, 1, 0, 0)), (59, (.getfield 9, 3, 0, 0)), (62, (.getfield 62, 3, 0, 0)), (65, (.iload_n 3, 1, 0, 0)), (66, (.iaload, 1, 0, 0)), (67, (.aload_n 0, 1, 0, 0)), (68, (.getfield 9, 3, 0, 0)), (71, (.getfield 62, 3, 0, 0)), (74, (.iload 4, 2, 0, 0)), (76, (.iaload, 1, 0, 0)), (77, (.invokestatic 65, 3, 0, 0)), (80, (.ifCond .eq (41), 3, 121, 0)), (83, (.aload_n 0, 1, 0, 0)), (84, (.getfield 9, 3, 0, 0)), (87, (.getfield 69, 3, 0, 0)), (90, (.iload_n 1, 1, 0, 0)), (91, (.iaload, 1, 0, 0)), (92, (.aload_n 0, 1, 0, 0)), (93, (.getfield 9, 3, 0, 0)), (96, (.getfield 69, 3, 0, 0)), (99, (.iload_n 3, 1, 0, 0)), (100, (.iaload, 1, 0, 0)), (101, (.aload_n 0, 1, 0, 0)), (102, (.getfield 9, 3, 0, 0)), (105, (.getfield 69, 3, 0, 0)), (108, (.iload 4, 2, 0, 0)), (110, (.iaload, 1, 0, 0)), (111, (.invokestatic 65, 3, 0, 0)), (114, (.ifCond .eq (7), 3, 121, 0)), (117, (.iconst (1), 1, 0, (1))), (118, (.goto (4), 3, 122, 0)), (121, (.iconst (0), 1, 0, (0))), (122, (.ireturn, 1, 0, 0))], [(9, 4, 0), (48, 1, 5), (52, 1, 6), (62, 1, 0), (69, 1, 1)], [], [(55, 11, 2, 1), (58, 17, 3, 1), (65, 28, 3, 99)], 2)
/-- HouseDesk$Crossings.isBetween -/
def mt_28 : mm_M := ([(0, (.iload_n 0, 1, 0, 0)), (1, (.iload_n 1, 1, 0, 0)), (2, (.iload_n 2, 1, 0, 0)), (3, (.invokestatic 72, 3, 0, 0)), (6, (.if_icmp .lt (16), 3, 22, 0)), (9, (.iload_n 0, 1, 0, 0)), (10, (.iload_n 1, 1, 0, 0)), (11, (.iload_n 2, 1, 0, 0)), (12, (.invokestatic 78, 3, 0, 0)), (15, (.if_icmp .gt (7), 3, 22, 0)), (18, (.iconst (1), 1, 0, (1))), (19, (.goto (4), 3, 23, 0)), (22, (.iconst (0), 1, 0, (0))), (23, (.ireturn, 1, 0, 0))], [], [], [(72, 152, 2, 99), (78, 151, 2, 99)], 2)
/-- HouseDesk$Crossings.crosses -/
def mt_29 : mm_M := ([(0, (.aload_n 0, 1, 0, 0)), (1, (.iload_n 1, 1, 0, 0)), (2, (.iload_n 2, 1, 0, 0)), (3, (.invokevirtual 81, 3, 0, 0)), (6, (.ifCond .eq (16), 3, 22, 0)), (9, (.aload_n 0, 1, 0, 0)), (10, (.iload_n 2, 1, 0, 0)), (11, (.iload_n 1, 1, 0, 0)), (12, (.invokevirtual 81, 3, 0, 0)), (15, (.ifCond .eq (7), 3, 22, 0)), (18, (.iconst (1), 1, 0, (1))), (19, (.goto (4), 3, 23, 0)), (22, (.iconst (0), 1, 0, (0))), (23, (.ireturn, 1, 0, 0))], [], [], [(81, 30, 2, 4)], 2)
/-- HouseDesk$Crossings.parts -/
def mt_30 : mm_M := ([(0, (.aload_n 0, 1, 0, 0)), (1, (.getfield 9, 3, 0, 0)), (4, (.getfield 48, 3, 0, 0)), (7, (.iload_n 1, 1, 0, 0)), (8, (.iaload, 1, 0, 0)), (9, (.istore_n 3, 1, 0, 0)), (10, (.aload_n 0, 1, 0, 0)), (11, (.getfield 9, 3, 0, 0)), (14, (.getfield 52, 3, 0, 0)), (17, (.iload_n 1, 1, 0, 0)), (18, (.iaload, 1, 0, 0)), (19, (.istore 4, 2, 0, 0)), (21, (.aload_n 0, 1, 0, 0)), (22, (.getfield 9, 3, 0, 0)), (25, (.iload_n 3, 1, 0, 0)), (26, (.iload 4, 2, 0, 0)), (28, (.aload_n 0, 1, 0, 0)), (29, (.getfield 9, 3, 0, 0)), (32, (.getfield 48, 3, 0, 0)), (35, (.iload_n 2, 1, 0, 0)), (36, (.iaload, 1, 0, 0)), (37, (.invokevirtual 58, 3, 0, 0)), (40, (.aload_n 0, 1, 0, 0)), (41, (.getfield 9, 3, 0, 0)), (44, (.iload_n 3, 1, 0, 0)), (45, (.iload 4, 2, 0, 0)), (47, (.aload_n 0, 1, 0, 0)), (48, (.getfield 9, 3, 0, 0)), (51, (.getfield 52, 3, 0, 0)), (54, (.iload_n 2, 1, 0, 0)), (55, (.iaload, 1, 0, 0)), (56, (.invokevirtual 58, 3, 0, 0)), (59, (.imul, 1, 0, 0)), (60, (.ifCond .ge (7), 3, 67, 0)), (63, (.iconst (1), 1, 0, (1))), (64, (.goto (4), 3, 68, 0)), (67, (.iconst (0), 1, 0, (0))), (68, (.ireturn, 1, 0, 0))], [(9, 4, 0), (48, 1, 5), (52, 1, 6)], [], [(58, 17, 3, 1)], 2)
/-- HouseDesk$Walks.reachAll -/
def mt_31 : mm_M := ([(0, (.iconst (1), 1, 0, (1))), (1, (.aload_n 0, 1, 0, 0)), (2, (.getfield 29, 3, 0, 0)), (5, (.getfield 33, 3, 0, 0)), (8, (.invokestatic 39, 3, 0, 0)), (11, (.ishl, 1, 0, 0)), (12, (.istore_n 1, 1, 0, 0)), (13, (.iconst (0), 1, 0, (0))), (14, (.istore_n 2, 1, 0, 0)), (15, (.iload_n 2, 1, 0, 0)), (16, (.bipush (9), 2, 0, (9))), (18, (.if_icmp .ge (43), 3, 61, 0)), (21, (.iconst (0), 1, 0, (0))), (22, (.istore_n 3, 1, 0, 0)), (23, (.iload_n 3, 1, 0, 0)), (24, (.bipush (9), 2, 0, (9))), (26, (.if_icmp .ge (29), 3, 55, 0)), (29, (.iload_n 1, 1, 0, 0)), (30, (.iload_n 3, 1, 0, 0)), (31, (.invokestatic 45, 3, 0, 0)), (34, (.ifCond .eq (15), 3, 49, 0)), (37, (.iload_n 1, 1, 0, 0)), (38, (.aload_n 0, 1, 0, 0)), (39, (.getfield 29, 3, 0, 0)), (42, (.getfield 49, 3, 0, 0)), (45, (.iload_n 3, 1, 0, 0)), (46, (.iaload, 1, 0, 0)), (47, (.ior, 1, 0, 0)), (48, (.istore_n 1, 1, 0, 0)), (49, (.iinc 3 (1), 3, 0, (1))), (52, (.goto (-29), 3, 23, 0)), (55, (.iinc 2 (1), 3, 0, (1))), (58, (.goto (-43), 3, 15, 0)), (61, (.iload_n 1, 1, 0, 0)), (62, (.aload_n 0, 1, 0, 0)), (63, (.getfield 29, 3, 0, 0)), (66, (.getfield 33, 3, 0, 0)), (69, (.if_icmp .ne (7), 3, 76, 0)), (72, (.iconst (1), 1, 0, (1))), (73, (.goto (4), 3, 77, 0)), (76, (.iconst (0), 1, 0, (0))), (77, (.ireturn, 1, 0, 0))], [(29, 5, 7), (33, 1, 10), (49, 1, 4)], [], [(39, 5, 1, 99), (45, 4, 2, 99)], 2)
/-- HouseDesk$Walks.goAround -/
def mt_32 : mm_M := ([(0, (.aload_n 0, 1, 0, 0)), (1, (.invokevirtual 52, 3, 0, 0)), (4, (.iconst (0), 1, 0, (0))), (5, (.istore_n 1, 1, 0, 0)), (6, (.iload_n 1, 1, 0, 0)), (7, (.bipush (9), 2, 0, (9))), (9, (.if_icmp .ge (16), 3, 25, 0)), (12, (.aload_n 0, 1, 0, 0)), (13, (.getfield 20, 3, 0, 0)), (16, (.iload_n 1, 1, 0, 0)), (17, (.iconst (-1), 1, 0, (-1))), (18, (.iastore, 1, 0, 0)), (19, (.iinc 1 (1), 3, 0, (1))), (22, (.goto (-16), 3, 6, 0)), (25, (.aload_n 0, 1, 0, 0)), (26, (.iconst (0), 1, 0, (0))), (27, (.putfield 55, 3, 0, 0)), (30, (.aload_n 0, 1, 0, 0)), (31, (.invokevirtual 58, 3, 0, 0)), (34, (.istore_n 1, 1, 0, 0)), (35, (.aload_n 0, 1, 0, 0)), (36, (.iload_n 1, 1, 0, 0)), (37, (.invokevirtual 62, 3, 0, 0)), (40, (.istore_n 2, 1, 0, 0)), (41, (.iload_n 1, 1, 0, 0)), (42, (.istore_n 3, 1, 0, 0)), (43, (.iload_n 2, 1, 0, 0)), (44, (.istore 4, 2, 0, 0)), (46, (.iconst (0), 1, 0, (0))), (47, (.istore 5, 2, 0, 0)), (49, (.iload 5, 2, 0, 0)), (51, (.bipush (9), 2, 0, (9))), (53, (.if_icmp .gt (83), 3, 136, 0)), (56, (.aload_n 0, 1, 0, 0)), (57, (.getfield 20, 3, 0, 0)), (60, (.iload_n 3, 1, 0, 0)), (61, (.iaload, 1, 0, 0)), (62, (.ifCond .lt (20), 3, 82, 0)), (65, (.iload_n 3, 1, 0, 0)), (66, (.iload_n 1, 1, 0, 0)), (67, (.if_icmp .ne (13), 3, 80, 0)), (70, (.iload 4, 2, 0, 0)), (72, (.iload_n 2, 1, 0, 0)), (73, (.if_icmp .ne (7), 3, 80, 0)), (76, (.iconst (1), 1, 0, (1))), (77, (.goto (4), 3, 81, 0)), (80, (.iconst (0), 1, 0, (0))), (81, (.ireturn, 1, 0, 0)), (82, (.aload_n 0, 1, 0, 0)), (83, (.getfield 20, 3, 0, 0)), (86, (.iload_n 3, 1, 0, 0)), (87, (.aload_n 0, 1, 0, 0)), (88, (.getfield 55, 3, 0, 0)), (91, (.iastore, 1, 0, 0)), (92, (.aload_n 0, 1, 0, 0)), (93, (.getfield 16, 3, 0, 0)), (96, (.aload_n 0, 1, 0, 0)), (97, (.getfield 55, 3, 0, 0)), (100, (.iload_n 3, 1, 0, 0)), (101, (.iastore, 1, 0, 0)), (102, (.aload_n 0, 1, 0, 0)), (103, (.dup, 1, 0, 0)), (104, (.getfield 55, 3, 0, 0)), (107, (.iconst (1), 1, 0, (1))), (108, (.iadd, 1, 0, 0)), (109, (.putfield 55, 3, 0, 0)), (112, (.aload_n 0, 1, 0, 0)), (113, (.getfield 11, 3, 0, 0)), (116, (.iload 4, 2, 0, 0)), (118, (.aaload, 1, 0, 0)), (119, (.iload_n 3, 1, 0, 0)), (120, (.iaload, 1, 0, 0)), (121, (.istore 6, 2, 0, 0)), (123, (.iload 4, 2, 0, 0)), (125, (.istore_n 3, 1, 0, 0)), (126, (.iload 6, 2, 0, 0)), (128, (.istore 4, 2, 0, 0)), (130, (.iinc 5 (1), 3, 0, (1))), (133, (.goto (-84), 3, 49, 0)), (136, (.iconst (0), 1, 0, (0))), (137, (.ireturn, 1, 0, 0))], [(20, 5, 2), (55, 5, 3), (16, 5, 1), (11, 5, 0)], [(55, 5, 3)], [(52, 33, 0, 5), (58, 36, 0, 5), (62, 38, 1, 5)], 2)
/-- HouseDesk$Walks.orderJoins -/
def mt_33 : mm_M := ([(0, (.iconst (0), 1, 0, (0))), (1, (.istore_n 1, 1, 0, 0)), (2, (.iload_n 1, 1, 0, 0)), (3, (.aload_n 0, 1, 0, 0)), (4, (.getfield 29, 3, 0, 0)), (7, (.getfield 65, 3, 0, 0)), (10, (.if_icmp .ge (57), 3, 67, 0)), (13, (.aload_n 0, 1, 0, 0)), (14, (.getfield 29, 3, 0, 0)), (17, (.getfield 68, 3, 0, 0)), (20, (.iload_n 1, 1, 0, 0)), (21, (.iaload, 1, 0, 0)), (22, (.istore_n 2, 1, 0, 0)), (23, (.aload_n 0, 1, 0, 0)), (24, (.getfield 29, 3, 0, 0)), (27, (.getfield 71, 3, 0, 0)), (30, (.iload_n 1, 1, 0, 0)), (31, (.iaload, 1, 0, 0)), (32, (.istore_n 3, 1, 0, 0)), (33, (.aload_n 0, 1, 0, 0)), (34, (.getfield 11, 3, 0, 0)), (37, (.iload_n 2, 1, 0, 0)), (38, (.aaload, 1, 0, 0)), (39, (.iload_n 3, 1, 0, 0)), (40, (.aload_n 0, 1, 0, 0)), (41, (.iload_n 2, 1, 0, 0)), (42, (.iload_n 3, 1, 0, 0)), (43, (.invokevirtual 74, 3, 0, 0)), (46, (.iastore, 1, 0, 0)), (47, (.aload_n 0, 1, 0, 0)), (48, (.getfield 11, 3, 0, 0)), (51, (.iload_n 3, 1, 0, 0)), (52, (.aaload, 1, 0, 0)), (53, (.iload_n 2, 1, 0, 0)), (54, (.aload_n 0, 1, 0, 0)), (55, (.iload_n 3, 1, 0, 0)), (56, (.iload_n 2, 1, 0, 0)), (57, (.invokevirtual 74, 3, 0, 0)), (60, (.iastore, 1, 0, 0)), (61, (.iinc 1 (1), 3, 0, (1))), (64, (.goto (-62), 3, 2, 0)), (67, (.return_, 1, 0, 0))], [(29, 5, 7), (65, 1, 12), (68, 1, 5), (71, 1, 6), (11, 5, 0)], [], [(74, 34, 2, 5)], 0)
/-- HouseDesk$Walks.nextClockwise -/
def mt_34 : mm_M := ([(0, (.iload_n 2, 1, 0, 0)), (1, (.istore_n 3, 1, 0, 0)), (2, (.iconst (0), 1, 0, (0))), (3, (.istore 4, 2, 0, 0)), (5, (.iload 4, 2, 0, 0)), (7, (.bipush (9), 2, 0, (9))), (9, (.if_icmp .ge (48), 3, 57, 0)), (12, (.iload 4, 2, 0, 0)), (14, (.iload_n 2, 1, 0, 0)), (15, (.if_icmp .eq (36), 3, 51, 0)), (18, (.aload_n 0, 1, 0, 0)), (19, (.getfield 29, 3, 0, 0)), (22, (.iload_n 1, 1, 0, 0)), (23, (.iload 4, 2, 0, 0)), (25, (.invokevirtual 78, 3, 0, 0)), (28, (.ifCond .eq (23), 3, 51, 0)), (31, (.iload_n 3, 1, 0, 0)), (32, (.iload_n 2, 1, 0, 0)), (33, (.if_icmp .eq (15), 3, 48, 0)), (36, (.aload_n 0, 1, 0, 0)), (37, (.iload_n 1, 1, 0, 0)), (38, (.iload_n 2, 1, 0, 0)), (39, (.iload 4, 2, 0, 0)), (41, (.iload_n 3, 1, 0, 0)), (42, (.invokevirtual 81, 3, 0, 0)), (45, (.ifCond .eq (6), 3, 51, 0)), (48, (.iload 4, 2, 0, 0)), (50, (.istore_n 3, 1, 0, 0)), (51, (.iinc 4 (1), 3, 0, (1))), (54, (.goto (-49), 3, 5, 0)), (57, (.iload_n 3, 1, 0, 0)), (58, (.ireturn, 1, 0, 0))], [(29, 5, 7)], [], [(78, 10, 2, 1), (81, 35, 4, 5)], 1)
/-- HouseDesk$Walks.isSooner -/
def mt_35 : mm_M := ([(0, (.aload_n 0, 1, 0, 0)), (1, (.getfield 29, 3, 0, 0)), (4, (.iload_n 1, 1, 0, 0)), (5, (.iload_n 2, 1, 0, 0)), (6, (.iload_n 3, 1, 0, 0)), (7, (.invokevirtual 85, 3, 0, 0)), (10, (.ifCond .ge (7), 3, 17, 0)), (13, (.iconst (1), 1, 0, (1))), (14, (.goto (4), 3, 18, 0)), (17, (.iconst (0), 1, 0, (0))), (18, (.istore 5, 2, 0, 0)), (20, (.aload_n 0, 1, 0, 0)), (21, (.getfield 29, 3, 0, 0)), (24, (.iload_n 1, 1, 0, 0)), (25, (.iload_n 2, 1, 0, 0)), (26, (.iload 4, 2, 0, 0)), (28, (.invokevirtual 85, 3, 0, 0)), (31, (.ifCond .ge (7), 3, 38, 0)), (34, (.iconst (1), 1, 0, (1))), (35, (.goto (4), 3, 39, 0)), (38, (.iconst (0), 1, 0, (0))), (39, (.istore 6, 2, 0, 0)), (41, (.iload 5, 2, 0, 0)), (43, (.iload 6, 2, 0, 0)), (45, (.if_icmp .eq (6), 3, 51, 0)), (48, (.iload 5, 2, 0, 0)), (50, (.ireturn, 1, 0, 0)), (51, (.aload_n 0, 1, 0, 0)), (52, (.getfield 29, 3, 0, 0)), (55, (.iload_n 1, 1, 0, 0)), (56, (.iload_n 3, 1, 0, 0)), (57, (.iload 4, 2, 0, 0)), (59, (.invokevirtual 85, 3, 0, 0)), (62, (.ifCond .ge (7), 3, 69, 0)), (65, (.iconst (1), 1, 0, (1))), (66, (.goto (4), 3, 70, 0)), (69, (.iconst (0), 1, 0, (0))), (70, (.ireturn, 1, 0, 0))], [(29, 5, 7)], [], [(85, 17, 3, 1)], 2)
/-- HouseDesk$Walks.westmost -/
def mt_36 : mm_M := ([(0, (.iconst (-1), 1, 0, (-1))), (1, (.istore_n 1, 1, 0, 0)), (2, (.iconst (0), 1, 0, (0))), (3, (.istore_n 2, 1, 0, 0)), (4, (.iload_n 2, 1, 0, 0)), (5, (.bipush (9), 2, 0, (9))), (7, (.if_icmp .ge (35), 3, 42, 0)), (10, (.aload_n 0, 1, 0, 0)), (11, (.getfield 29, 3, 0, 0)), (14, (.iload_n 2, 1, 0, 0)), (15, (.invokevirtual 89, 3, 0, 0)), (18, (.ifCond .eq (18), 3, 36, 0)), (21, (.iload_n 1, 1, 0, 0)), (22, (.ifCond .lt (12), 3, 34, 0)), (25, (.aload_n 0, 1, 0, 0)), (26, (.iload_n 2, 1, 0, 0)), (27, (.iload_n 1, 1, 0, 0)), (28, (.invokevirtual 93, 3, 0, 0)), (31, (.ifCond .eq (5), 3, 36, 0)), (34, (.iload_n 2, 1, 0, 0)), (35, (.istore_n 1, 1, 0, 0)), (36, (.iinc 2 (1), 3, 0, (1))), (39, (.goto (-35), 3, 4, 0)), (42, (.iload_n 1, 1, 0, 0)), (43, (.ireturn, 1, 0, 0))], [(29, 5, 7)], [], [(89, 7, 1, 1), (93, 37, 2, 5)], 1)
/-- HouseDesk$Walks.isFurtherWest -/
def mt_37 : mm_M := ([(0, (.aload_n 0, 1, 0, 0)), (1, (.getfield 29, 3, 0, 0)), (4, (.getfield 96, 3, 0, 0)), (7, (.iload_n 1, 1, 0, 0)), (8, (.iaload, 1, 0, 0)), (9, (.aload_n 0, 1, 0, 0)), (10, (.getfield 29, 3, 0, 0)), (13, (.getfield 96, 3, 0, 0)), (16, (.iload_n 2, 1, 0, 0)), (17, (.iaload, 1, 0, 0)), (18, (.if_icmp .lt (45), 3, 63, 0)), (21, (.aload_n 0, 1, 0, 0)), (22, (.getfield 29, 3, 0, 0)), (25, (.getfield 96, 3, 0, 0)), (28, (.iload_n 1, 1, 0, 0)), (29, (.iaload, 1, 0, 0)), (30, (.aload_n 0, 1, 0, 0)), (31, (.getfield 29, 3, 0, 0)), (34, (.getfield 96, 3, 0, 0)), (37, (.iload_n 2, 1, 0, 0)), (38, (.iaload, 1, 0, 0)), (39, (.if_icmp .ne (28), 3, 67, 0)), (42, (.aload_n 0, 1, 0, 0)), (43, (.getfield 29, 3, 0, 0)), (46, (.getfield 99, 3, 0, 0)), (49, (.iload_n 1, 1, 0, 0)), (50, (.iaload, 1, 0, 0)), (51, (.aload_n 0, 1, 0, 0)), (52, (.getfield 29, 3, 0, 0)), (55, (.getfield 99, 3, 0, 0)), (58, (.iload_n 2, 1, 0, 0)), (59, (.iaload, 1, 0, 0)), (60, (.if_icmp .ge (7), 3, 67, 0)), (63, (.iconst (1), 1, 0, (1))), (64, (.goto (4), 3, 68, 0)), (67, (.iconst (0), 1, 0, (0))), (68, (.ireturn, 1, 0, 0))], [(29, 5, 7), (96, 1, 0), (99, 1, 1)], [], [], 2)
/-- HouseDesk$Walks.northmostFrom -/
def mt_38 : mm_M := ([(0, (.iconst (-1), 1, 0, (-1))), (1, (.istore_n 2, 1, 0, 0)), (2, (.iconst (0), 1, 0, (0))), (3, (.istore_n 3, 1, 0, 0)), (4, (.iload_n 3, 1, 0, 0)), (5, (.bipush (9), 2, 0, (9))), (7, (.if_icmp .ge (40), 3, 47, 0)), (10, (.aload_n 0, 1, 0, 0)), (11, (.getfield 29, 3, 0, 0)), (14, (.iload_n 1, 1, 0, 0)), (15, (.iload_n 3, 1, 0, 0)), (16, (.invokevirtual 78, 3, 0, 0)), (19, (.ifCond .eq (22), 3, 41, 0)), (22, (.iload_n 2, 1, 0, 0)), (23, (.ifCond .lt (16), 3, 39, 0)), (26, (.aload_n 0, 1, 0, 0)), (27, (.getfield 29, 3, 0, 0)), (30, (.iload_n 1, 1, 0, 0)), (31, (.iload_n 3, 1, 0, 0)), (32, (.iload_n 2, 1, 0, 0)), (33, (.invokevirtual 85, 3, 0, 0)), (36, (.ifCond .ge (5), 3, 41, 0)), (39, (.iload_n 3, 1, 0, 0)), (40, (.istore_n 2, 1, 0, 0)), (41, (.iinc 3 (1), 3, 0, (1))), (44, (.goto (-40), 3, 4, 0)), (47, (.iload_n 2, 1, 0, 0)), (48, (.ireturn, 1, 0, 0))], [(29, 5, 7)], [], [(78, 10, 2, 1), (85, 17, 3, 1)], 1)
/-- HouseDesk$Walks.goInside -/
def mt_39 : mm_M := ([(0, (.aload_n 0, 1, 0, 0)), (1, (.iconst (0), 1, 0, (0))), (2, (.putfield 102, 3, 0, 0)), (5, (.iconst (0), 1, 0, (0))), (6, (.istore_n 1, 1, 0, 0)), (7, (.iload_n 1, 1, 0, 0)), (8, (.aload_n 0, 1, 0, 0)), (9, (.getfield 29, 3, 0, 0)), (12, (.getfield 65, 3, 0, 0)), (15, (.if_icmp .ge (61), 3, 76, 0)), (18, (.aload_n 0, 1, 0, 0)), (19, (.getfield 23, 3, 0, 0)), (22, (.aload_n 0, 1, 0, 0)), (23, (.getfield 29, 3, 0, 0)), (26, (.getfield 68, 3, 0, 0)), (29, (.iload_n 1, 1, 0, 0)), (30, (.iaload, 1, 0, 0)), (31, (.aaload, 1, 0, 0)), (32, (.aload_n 0, 1, 0, 0)), (33, (.getfield 29, 3, 0, 0)), (36, (.getfield 71, 3, 0, 0)), (39, (.iload_n 1, 1, 0, 0)), (40, (.iaload, 1, 0, 0)), (41, (.bipush (-2), 2, 0, (-2))), (43, (.iastore, 1, 0, 0)), (44, (.aload_n 0, 1, 0, 0)), (45, (.getfield 23, 3, 0, 0)), (48, (.aload_n 0, 1, 0, 0)), (49, (.getfield 29, 3, 0, 0)), (52, (.getfield 71, 3, 0, 0)), (55, (.iload_n 1, 1, 0, 0)), (56, (.iaload, 1, 0, 0)), (57, (.aaload, 1, 0, 0)), (58, (.aload_n 0, 1, 0, 0)), (59, (.getfield 29, 3, 0, 0)), (62, (.getfield 68, 3, 0, 0)), (65, (.iload_n 1, 1, 0, 0)), (66, (.iaload, 1, 0, 0)), (67, (.bipush (-2), 2, 0, (-2))), (69, (.iastore, 1, 0, 0)), (70, (.iinc 1 (1), 3, 0, (1))), (73, (.goto (-66), 3, 7, 0)), (76, (.iconst (0), 1, 0, (0))), (77, (.istore_n 1, 1, 0, 0)), (78, (.iload_n 1, 1, 0, 0)), (79, (.aload_n 0, 1, 0, 0)), (80, (.getfield 55, 3, 0, 0)), (83, (.if_icmp .ge (27), 3, 110, 0)), (86, (.aload_n 0, 1, 0, 0)), (87, (.getfield 23, 3, 0, 0)), (90, (.aload_n 0, 1, 0, 0)), (91, (.getfield 16, 3, 0, 0)), (94, (.iload_n 1, 1, 0, 0)), (95, (.iaload, 1, 0, 0)), (96, (.aaload, 1, 0, 0)), (97, (.aload_n 0, 1, 0, 0)), (98, (.iload_n 1, 1, 0, 0)), (99, (.invokevirtual 105, 3, 0, 0)), (102, (.iconst (-1), 1, 0, (-1))), (103, (.iastore, 1, 0, 0)), (104, (.iinc 1 (1), 3, 0, (1))), (107, (.goto (-29), 3, 78, 0)), (110, (.iconst (0), 1, 0, (0))), (111, (.istore_n 1, 1, 0, 0)), (112, (.iload_n 1, 1, 0, 0)), (113, (.aload_n 0, 1, 0, 0)), (114, (.getfield 29, 3, 0, 0)), (117, (.getfield 65, 3, 0, 0)), (120, (.if_icmp .ge (53), 3, 173, 0)), (123, (.aload_n 0, 1, 0, 0)), (124, (.aload_n 0, 1, 0, 0)), (125, (.getfield 29, 3, 0, 0)), (128, (.getfield 68, 3, 0, 0)), (131, (.iload_n 1, 1, 0, 0)), (132, (.iaload, 1, 0, 0)), (133, (.aload_n 0, 1, 0, 0)), (134, (.getfield 29, 3, 0, 0)), (137, (.getfield 71, 3, 0, 0)), (140, (.iload_n 1, 1, 0, 0)), (141, (.iaload, 1, 0, 0)), (142, (.invokevirtual 108, 3, 0, 0)), (145, (.aload_n 0, 1, 0, 0)), (146, (.aload_n 0, 1, 0, 0)), (147, (.getfield 29, 3, 0, 0)), (150, (.getfield 71, 3, 0, 0)), (153, (.iload_n 1, 1, 0, 0)), (154, (.iaload, 1, 0, 0)), (155, (.aload_n 0, 1, 0, 0)), (156, (.getfield 29, 3, 0, 0)), (159, (.getfield 68, 3, 0, 0)), (162, (.iload_n 1, 1, 0, 0)), (163, (.iaload, 1, 0, 0)), (164, (.invokevirtual 108, 3, 0, 0)), (167, (.iinc 1 (1), 3, 0, (1))), (170, (.goto (-58), 3, 112, 0)), (173, (.return_, 1, 0, 0))], [(29, 5, 7), (65, 1, 12), (23, 5, 4), (68, 1, 5), (71, 1, 6), (55, 5, 3), (16, 5, 1)], [(102, 5, 6)], [(105, 40, 1, 5), (108, 42, 2, 5)], 0)
/-- HouseDesk$Walks.roomBehind -/
def mt_40 : mm_M := ([(0, (.aload_n 0, 1, 0, 0)), (1, (.getfield 16, 3, 0, 0)), (4, (.iload_n 1, 1, 0, 0)), (5, (.iconst (1), 1, 0, (1))), (6, (.iadd, 1, 0, 0)), (7, (.aload_n 0, 1, 0, 0)), (8, (.getfield 55, 3, 0, 0)), (11, (.if_icmp .ge (9), 3, 20, 0)), (14, (.iload_n 1, 1, 0, 0)), (15, (.iconst (1), 1, 0, (1))), (16, (.iadd, 1, 0, 0)), (17, (.goto (4), 3, 21, 0)), (20, (.iconst (0), 1, 0, (0))), (21, (.iaload, 1, 0, 0)), (22, (.ireturn, 1, 0, 0))], [(16, 5, 1), (55, 5, 3)], [], [], 1)
/-- HouseDesk$Walks.roomBefore -/
def mt_41 : mm_M := ([(0, (.aload_n 0, 1, 0, 0)), (1, (.getfield 16, 3, 0, 0)), (4, (.iload_n 1, 1, 0, 0)), (5, (.ifCond .le (9), 3, 14, 0)), (8, (.iload_n 1, 1, 0, 0)), (9, (.iconst (1), 1, 0, (1))), (10, (.isub, 1, 0, 0)), (11, (.goto (9), 3, 20, 0)), (14, (.aload_n 0, 1, 0, 0)), (15, (.getfield 55, 3, 0, 0)), (18, (.iconst (1), 1, 0, (1))), (19, (.isub, 1, 0, 0)), (20, (.iaload, 1, 0, 0)), (21, (.ireturn, 1, 0, 0))], [(16, 5, 1), (55, 5, 3)], [], [], 1)
/-- HouseDesk$Walks.walkFace -/
def mt_42 : mm_M := ([(0, (.aload_n 0, 1, 0, 0)), (1, (.getfield 23, 3, 0, 0)), (4, (.iload_n 1, 1, 0, 0)), (5, (.aaload, 1, 0, 0)), (6, (.iload_n 2, 1, 0, 0)), (7, (.iaload, 1, 0, 0)), (8, (.bipush (-2), 2, 0, (-2))), (10, (.if_icmp .eq (4), 3, 14, 0)), (13, (.return_, 1, 0, 0)), (14, (.iload_n 1, 1, 0, 0)), (15, (.istore_n 3, 1, 0, 0)), (16, (.iload_n 2, 1, 0, 0)), (17, (.istore 4, 2, 0, 0)), (19, (.iconst (0), 1, 0, (0))), (20, (.istore 5, 2, 0, 0)), (22, (.iconst (0), 1, 0, (0))), (23, (.istore 6, 2, 0, 0)), (25, (.iload 6, 2, 0, 0)), (27, (.bipush (42), 2, 0, (42))), (29, (.if_icmp .ge (62), 3, 91, 0)), (32, (.aload_n 0, 1, 0, 0)), (33, (.getfield 23, 3, 0, 0)), (36, (.iload_n 3, 1, 0, 0)), (37, (.aaload, 1, 0, 0)), (38, (.iload 4, 2, 0, 0)), (40, (.iaload, 1, 0, 0)), (41, (.bipush (-2), 2, 0, (-2))), (43, (.if_icmp .ne (48), 3, 91, 0)), (46, (.aload_n 0, 1, 0, 0)), (47, (.getfield 23, 3, 0, 0)), (50, (.iload_n 3, 1, 0, 0)), (51, (.aaload, 1, 0, 0)), (52, (.iload 4, 2, 0, 0)), (54, (.aload_n 0, 1, 0, 0)), (55, (.getfield 102, 3, 0, 0)), (58, (.iastore, 1, 0, 0)), (59, (.iload 5, 2, 0, 0)), (61, (.iconst (1), 1, 0, (1))), (62, (.iload_n 3, 1, 0, 0)), (63, (.ishl, 1, 0, 0)), (64, (.ior, 1, 0, 0)), (65, (.istore 5, 2, 0, 0)), (67, (.aload_n 0, 1, 0, 0)), (68, (.getfield 11, 3, 0, 0)), (71, (.iload 4, 2, 0, 0)), (73, (.aaload, 1, 0, 0)), (74, (.iload_n 3, 1, 0, 0)), (75, (.iaload, 1, 0, 0)), (76, (.istore 7, 2, 0, 0)), (78, (.iload 4, 2, 0, 0)), (80, (.istore_n 3, 1, 0, 0)), (81, (.iload 7, 2, 0, 0)), (83, (.istore 4, 2, 0, 0)), (85, (.iinc 6 (1), 3, 0, (1))), (88, (.goto (-63), 3, 25, 0)), (91, (.aload_n 0, 1, 0, 0)), (92, (.getfield 26, 3, 0, 0)), (95, (.aload_n 0, 1, 0, 0)), (96, (.getfield 102, 3, 0, 0)), (99, (.iload 5, 2, 0, 0)), (101, (.iastore, 1, 0, 0)), (102, (.aload_n 0, 1, 0, 0)), (103, (.dup, 1, 0, 0)), (104, (.getfield 102, 3, 0, 0)), (107, (.iconst (1), 1, 0, (1))), (108, (.iadd, 1, 0, 0)), (109, (.putfield 102, 3, 0, 0)), (112, (.return_, 1, 0, 0))], [(23, 5, 4), (102, 5, 6), (11, 5, 0), (26, 5, 5)], [(102, 5, 6)], [], 0)
/-- HouseDesk$Walks.findWideFace -/
def mt_43 : mm_M := ([(0, (.iconst (0), 1, 0, (0))), (1, (.istore_n 2, 1, 0, 0)), (2, (.iconst (0), 1, 0, (0))), (3, (.istore_n 3, 1, 0, 0)), (4, (.iload_n 3, 1, 0, 0)), (5, (.aload_n 0, 1, 0, 0)), (6, (.getfield 102, 3, 0, 0)), (9, (.if_icmp .ge (49), 3, 58, 0)), (12, (.aload_n 0, 1, 0, 0)), (13, (.getfield 26, 3, 0, 0)), (16, (.iload_n 3, 1, 0, 0)), (17, (.iaload, 1, 0, 0)), (18, (.invokestatic 112, 3, 0, 0)), (21, (.iconst (3), 1, 0, (3))), (22, (.if_icmp .le (30), 3, 52, 0)), (25, (.aload_n 0, 1, 0, 0)), (26, (.getfield 26, 3, 0, 0)), (29, (.iload_n 3, 1, 0, 0)), (30, (.iaload, 1, 0, 0)), (31, (.invokestatic 117, 3, 0, 0)), (34, (.istore 4, 2, 0, 0)), (36, (.iload_n 2, 1, 0, 0)), (37, (.ifCond .eq (12), 3, 49, 0)), (40, (.iload 4, 2, 0, 0)), (42, (.iload_n 2, 1, 0, 0)), (43, (.invokestatic 120, 3, 0, 0)), (46, (.ifCond .eq (6), 3, 52, 0)), (49, (.iload 4, 2, 0, 0)), (51, (.istore_n 2, 1, 0, 0)), (52, (.iinc 3 (1), 3, 0, (1))), (55, (.goto (-51), 3, 4, 0)), (58, (.iload_n 2, 1, 0, 0)), (59, (.ifCond .eq (27), 3, 86, 0)), (62, (.iload_n 2, 1, 0, 0)), (63, (.invokestatic 123, 3, 0, 0)), (66, (.istore_n 3, 1, 0, 0)), (67, (.aload_n 1, 1, 0, 0)), (68, (.iload_n 2, 1, 0, 0)), (69, (.invokestatic 39, 3, 0, 0)), (72, (.iload_n 3, 1, 0, 0)), (73, (.invokestatic 39, 3, 0, 0)), (76, (.iload_n 3, 1, 0, 0)), (77, (.invokestatic 123, 3, 0, 0)), (80, (.invokestatic 39, 3, 0, 0)), (83, (.invokevirtual 126, 3, 0, 0)), (86, (.iload_n 2, 1, 0, 0)), (87, (.ifCond .eq (7), 3, 94, 0)), (90, (.iconst (1), 1, 0, (1))), (91, (.goto (4), 3, 95, 0)), (94, (.iconst (0), 1, 0, (0))), (95, (.ireturn, 1, 0, 0))], [(102, 5, 6), (26, 5, 5)], [], [(112, 153, 1, 99), (117, 44, 1, 99), (120, 45, 2, 99), (123, 6, 1, 99), (39, 5, 1, 99), (126, 21, 3, 3)], 2)
/-- HouseDesk$Walks.threeLeast -/
def mt_44 : mm_M := ([(0, (.iload_n 0, 1, 0, 0)), (1, (.invokestatic 123, 3, 0, 0)), (4, (.invokestatic 123, 3, 0, 0)), (7, (.invokestatic 123, 3, 0, 0)), (10, (.istore_n 1, 1, 0, 0)), (11, (.iload_n 0, 1, 0, 0)), (12, (.iload_n 1, 1, 0, 0)), (13, (.ixor, 1, 0, 0)), (14, (.ireturn, 1, 0, 0))], [], [], [(123, 6, 1, 99)], 1)
/-- HouseDesk$Walks.comesBefore -/
def mt_45 : mm_M := ([(0, (.iload_n 0, 1, 0, 0)), (1, (.iload_n 0, 1, 0, 0)), (2, (.iload_n 1, 1, 0, 0)), (3, (.ixor, 1, 0, 0)), (4, (.invokestatic 39, 3, 0, 0)), (7, (.invokestatic 45, 3, 0, 0)), (10, (.ireturn, 1, 0, 0))], [], [], [(39, 5, 1, 99), (45, 4, 2, 99)], 2)
/-- HouseDesk$Walks.isFace -/
def mt_46 : mm_M := ([(0, (.iconst (0), 1, 0, (0))), (1, (.istore_n 2, 1, 0, 0)), (2, (.iload_n 2, 1, 0, 0)), (3, (.aload_n 0, 1, 0, 0)), (4, (.getfield 102, 3, 0, 0)), (7, (.if_icmp .ge (21), 3, 28, 0)), (10, (.aload_n 0, 1, 0, 0)), (11, (.getfield 26, 3, 0, 0)), (14, (.iload_n 2, 1, 0, 0)), (15, (.iaload, 1, 0, 0)), (16, (.iload_n 1, 1, 0, 0)), (17, (.if_icmp .ne (5), 3, 22, 0)), (20, (.iconst (1), 1, 0, (1))), (21, (.ireturn, 1, 0, 0)), (22, (.iinc 2 (1), 3, 0, (1))), (25, (.goto (-23), 3, 2, 0)), (28, (.iconst (0), 1, 0, (0))), (29, (.ireturn, 1, 0, 0))], [(102, 5, 6), (26, 5, 5)], [], [], 2)
/-- HouseDesk$Sides.cornersFit -/
def mt_47 : mm_M := ([(0, (.aload_n 0, 1, 0, 0)), (1, (.getfield 15, 3, 0, 0)), (4, (.getfield 23, 3, 0, 0)), (7, (.ifCond .ne (5), 3, 12, 0)), (10, (.iconst (0), 1, 0, (0))), (11, (.ireturn, 1, 0, 0)), (12, (.iconst (0), 1, 0, (0))), (13, (.istore_n 1, 1, 0, 0)), (14, (.iconst (0), 1, 0, (0))), (15, (.istore_n 2, 1, 0, 0)), (16, (.iload_n 2, 1, 0, 0)), (17, (.iconst (4), 1, 0, (4))), (18, (.if_icmp .ge (39), 3, 57, 0)), (21, (.aload_n 0, 1, 0, 0)), (22, (.getfield 19, 3, 0, 0)), (25, (.getfield 29, 3, 0, 0)), (28, (.aload_n 0, 1, 0, 0)), (29, (.getfield 15, 3, 0, 0)), (32, (.getfield 34, 3, 0, 0)), (35, (.iload_n 2, 1, 0, 0)), (36, (.iaload, 1, 0, 0)), (37, (.iaload, 1, 0, 0)), (38, (.ifCond .ge (5), 3, 43, 0)), (41, (.iconst (0), 1, 0, (0))), (42, (.ireturn, 1, 0, 0)), (43, (.iload_n 1, 1, 0, 0)), (44, (.aload_n 0, 1, 0, 0)), (45, (.iload_n 2, 1, 0, 0)), (46, (.invokevirtual 37, 3, 0, 0)), (49, (.iadd, 1, 0, 0)), (50, (.istore_n 1, 1, 0, 0)), (51, (.iinc 2 (1), 3, 0, (1))), (54, (.goto (-38), 3, 16, 0)), (57, (.iload_n 1, 1, 0, 0)), (58, (.aload_n 0, 1, 0, 0)), (59, (.getfield 19, 3, 0, 0)), (62, (.getfield 41, 3, 0, 0)), (65, (.if_icmp .ne (7), 3, 72, 0)), (68, (.iconst (1), 1, 0, (1))), (69, (.goto (4), 3, 73, 0)), (72, (.iconst (0), 1, 0, (0))), (73, (.ireturn, 1, 0, 0))], [(15, 6, 1), (23, 1, 9), (19, 6, 2), (29, 5, 2), (34, 1, 8), (41, 5, 3)], [], [(37, 48, 1, 6)], 2)
/-- HouseDesk$Sides.stepsAlong -/
def mt_48 : mm_M := ([(0, (.aload_n 0, 1, 0, 0)), (1, (.getfield 19, 3, 0, 0)), (4, (.getfield 29, 3, 0, 0)), (7, (.aload_n 0, 1, 0, 0)), (8, (.iload_n 1, 1, 0, 0)), (9, (.invokevirtual 45, 3, 0, 0)), (12, (.iaload, 1, 0, 0)), (13, (.aload_n 0, 1, 0, 0)), (14, (.getfield 19, 3, 0, 0)), (17, (.getfield 29, 3, 0, 0)), (20, (.aload_n 0, 1, 0, 0)), (21, (.getfield 15, 3, 0, 0)), (24, (.getfield 34, 3, 0, 0)), (27, (.iload_n 1, 1, 0, 0)), (28, (.iaload, 1, 0, 0)), (29, (.iaload, 1, 0, 0)), (30, (.isub, 1, 0, 0)), (31, (.istore_n 2, 1, 0, 0)), (32, (.iload_n 2, 1, 0, 0)), (33, (.ifCond .ge (15), 3, 48, 0)), (36, (.iload_n 2, 1, 0, 0)), (37, (.aload_n 0, 1, 0, 0)), (38, (.getfield 19, 3, 0, 0)), (41, (.getfield 41, 3, 0, 0)), (44, (.iadd, 1, 0, 0)), (45, (.goto (4), 3, 49, 0)), (48, (.iload_n 2, 1, 0, 0)), (49, (.ireturn, 1, 0, 0))], [(19, 6, 2), (29, 5, 2), (15, 6, 1), (34, 1, 8), (41, 5, 3)], [], [(45, 49, 1, 6)], 1)
/-- HouseDesk$Sides.lastOf -/
def mt_49 : mm_M := ([(0, (.aload_n 0, 1, 0, 0)), (1, (.getfield 15, 3, 0, 0)), (4, (.getfield 34, 3, 0, 0)), (7, (.iload_n 1, 1, 0, 0)), (8, (.invokestatic 48, 3, 0, 0)), (11, (.iaload, 1, 0, 0)), (12, (.ireturn, 1, 0, 0))], [(15, 6, 1), (34, 1, 8)], [], [(48, 50, 1, 99)], 1)
/-- HouseDesk$Sides.sideBehind -/
def mt_50 : mm_M := ([(0, (.iload_n 0, 1, 0, 0)), (1, (.iconst (3), 1, 0, (3))), (2, (.if_icmp .ge (9), 3, 11, 0)), (5, (.iload_n 0, 1, 0, 0)), (6, (.iconst (1), 1, 0, (1))), (7, (.iadd, 1, 0, 0)), (8, (.goto (4), 3, 12, 0)), (11, (.iconst (0), 1, 0, (0))), (12, (.ireturn, 1, 0, 0))], [], [], [], 1)
/-- HouseDesk$Sides.sideBefore -/
def mt_51 : mm_M := ([(0, (.iload_n 0, 1, 0, 0)), (1, (.ifCond .le (9), 3, 10, 0)), (4, (.iload_n 0, 1, 0, 0)), (5, (.iconst (1), 1, 0, (1))), (6, (.isub, 1, 0, 0)), (7, (.goto (4), 3, 11, 0)), (10, (.iconst (3), 1, 0, (3))), (11, (.ireturn, 1, 0, 0))], [], [], [], 1)
/-- HouseDesk$Sides.bitOfSide -/
def mt_52 : mm_M := ([(0, (.iconst (1), 1, 0, (1))), (1, (.bipush (9), 2, 0, (9))), (3, (.iload_n 0, 1, 0, 0)), (4, (.iadd, 1, 0, 0)), (5, (.ishl, 1, 0, 0)), (6, (.ireturn, 1, 0, 0))], [], [], [], 1)
/-- HouseDesk$Sides.isOn -/
def mt_53 : mm_M := ([(0, (.aload_n 0, 1, 0, 0)), (1, (.getfield 9, 3, 0, 0)), (4, (.iload_n 1, 1, 0, 0)), (5, (.iaload, 1, 0, 0)), (6, (.iload_n 2, 1, 0, 0)), (7, (.invokestatic 51, 3, 0, 0)), (10, (.iand, 1, 0, 0)), (11, (.ifCond .eq (7), 3, 18, 0)), (14, (.iconst (1), 1, 0, (1))), (15, (.goto (4), 3, 19, 0)), (18, (.iconst (0), 1, 0, (0))), (19, (.ireturn, 1, 0, 0))], [(9, 6, 0)], [], [(51, 52, 1, 99)], 2)
/-- HouseDesk$Sides.joinOutline -/
def mt_54 : mm_M := ([(0, (.iconst (0), 1, 0, (0))), (1, (.istore_n 1, 1, 0, 0)), (2, (.iload_n 1, 1, 0, 0)), (3, (.bipush (9), 2, 0, (9))), (5, (.if_icmp .ge (39), 3, 44, 0)), (8, (.aload_n 0, 1, 0, 0)), (9, (.getfield 9, 3, 0, 0)), (12, (.iload_n 1, 1, 0, 0)), (13, (.aload_n 0, 1, 0, 0)), (14, (.getfield 15, 3, 0, 0)), (17, (.iload_n 1, 1, 0, 0)), (18, (.invokevirtual 54, 3, 0, 0)), (21, (.ifCond .eq (15), 3, 36, 0)), (24, (.aload_n 0, 1, 0, 0)), (25, (.getfield 15, 3, 0, 0)), (28, (.getfield 58, 3, 0, 0)), (31, (.iload_n 1, 1, 0, 0)), (32, (.iaload, 1, 0, 0)), (33, (.goto (4), 3, 37, 0)), (36, (.iconst (0), 1, 0, (0))), (37, (.iastore, 1, 0, 0)), (38, (.iinc 1 (1), 3, 0, (1))), (41, (.goto (-39), 3, 2, 0)), (44, (.iconst (0), 1, 0, (0))), (45, (.istore_n 1, 1, 0, 0)), (46, (.iload_n 1, 1, 0, 0)), (47, (.iconst (4), 1, 0, (4))), (48, (.if_icmp .ge (33), 3, 81, 0)), (51, (.aload_n 0, 1, 0, 0)), (52, (.getfield 9, 3, 0, 0)), (55, (.bipush (9), 2, 0, (9))), (57, (.iload_n 1, 1, 0, 0)), (58, (.iadd, 1, 0, 0)), (59, (.iload_n 1, 1, 0, 0)), (60, (.invokestatic 48, 3, 0, 0)), (63, (.invokestatic 51, 3, 0, 0)), (66, (.iload_n 1, 1, 0, 0)), (67, (.invokestatic 61, 3, 0, 0)), (70, (.invokestatic 51, 3, 0, 0)), (73, (.ior, 1, 0, 0)), (74, (.iastore, 1, 0, 0)), (75, (.iinc 1 (1), 3, 0, (1))), (78, (.goto (-32), 3, 46, 0)), (81, (.iconst (0), 1, 0, (0))), (82, (.istore_n 1, 1, 0, 0)), (83, (.iload_n 1, 1, 0, 0)), (84, (.iconst (4), 1, 0, (4))), (85, (.if_icmp .ge (85), 3, 170, 0)), (88, (.aload_n 0, 1, 0, 0)), (89, (.getfield 15, 3, 0, 0)), (92, (.getfield 34, 3, 0, 0)), (95, (.iload_n 1, 1, 0, 0)), (96, (.iaload, 1, 0, 0)), (97, (.istore_n 2, 1, 0, 0)), (98, (.aload_n 0, 1, 0, 0)), (99, (.iload_n 1, 1, 0, 0)), (100, (.invokevirtual 37, 3, 0, 0)), (103, (.istore_n 3, 1, 0, 0)), (104, (.iconst (0), 1, 0, (0))), (105, (.istore 4, 2, 0, 0)), (107, (.iload 4, 2, 0, 0)), (109, (.iload_n 3, 1, 0, 0)), (110, (.if_icmp .gt (54), 3, 164, 0)), (113, (.aload_n 0, 1, 0, 0)), (114, (.getfield 9, 3, 0, 0)), (117, (.bipush (9), 2, 0, (9))), (119, (.iload_n 1, 1, 0, 0)), (120, (.iadd, 1, 0, 0)), (121, (.dup2, 1, 0, 0)), (122, (.iaload, 1, 0, 0)), (123, (.iconst (1), 1, 0, (1))), (124, (.iload_n 2, 1, 0, 0)), (125, (.ishl, 1, 0, 0)), (126, (.ior, 1, 0, 0)), (127, (.iastore, 1, 0, 0)), (128, (.aload_n 0, 1, 0, 0)), (129, (.getfield 9, 3, 0, 0)), (132, (.iload_n 2, 1, 0, 0)), (133, (.dup2, 1, 0, 0)), (134, (.iaload, 1, 0, 0)), (135, (.iload_n 1, 1, 0, 0)), (136, (.invokestatic 51, 3, 0, 0)), (139, (.ior, 1, 0, 0)), (140, (.iastore, 1, 0, 0)), (141, (.aload_n 0, 1, 0, 0)), (142, (.getfield 19, 3, 0, 0)), (145, (.aload_n 0, 1, 0, 0)), (146, (.getfield 19, 3, 0, 0)), (149, (.getfield 29, 3, 0, 0)), (152, (.iload_n 2, 1, 0, 0)), (153, (.iaload, 1, 0, 0)), (154, (.invokevirtual 64, 3, 0, 0)), (157, (.istore_n 2, 1, 0, 0)), (158, (.iinc 4 (1), 3, 0, (1))), (161, (.goto (-54), 3, 107, 0)), (164, (.iinc 1 (1), 3, 0, (1))), (167, (.goto (-84), 3, 83, 0)), (170, (.return_, 1, 0, 0))], [(9, 6, 0), (15, 6, 1), (58, 1, 4), (34, 1, 8), (19, 6, 2), (29, 5, 2)], [], [(54, 7, 1, 1), (48, 50, 1, 99), (51, 52, 1, 99), (61, 51, 1, 99), (37, 48, 1, 6), (64, 40, 1, 5)], 0)
/-- HouseDesk$Sides.findLooseTriangle -/
def mt_55 : mm_M := ([(0, (.iconst (0), 1, 0, (0))), (1, (.istore_n 2, 1, 0, 0)), (2, (.iload_n 2, 1, 0, 0)), (3, (.bipush (13), 2, 0, (13))), (5, (.if_icmp .ge (65), 3, 70, 0)), (8, (.iload_n 2, 1, 0, 0)), (9, (.iconst (1), 1, 0, (1))), (10, (.iadd, 1, 0, 0)), (11, (.istore_n 3, 1, 0, 0)), (12, (.iload_n 3, 1, 0, 0)), (13, (.bipush (13), 2, 0, (13))), (15, (.if_icmp .ge (49), 3, 64, 0)), (18, (.aload_n 0, 1, 0, 0)), (19, (.getfield 9, 3, 0, 0)), (22, (.iload_n 2, 1, 0, 0)), (23, (.iaload, 1, 0, 0)), (24, (.iload_n 3, 1, 0, 0)), (25, (.invokestatic 67, 3, 0, 0)), (28, (.ifCond .eq (12), 3, 40, 0)), (31, (.aload_n 0, 1, 0, 0)), (32, (.iload_n 2, 1, 0, 0)), (33, (.iload_n 3, 1, 0, 0)), (34, (.invokevirtual 73, 3, 0, 0)), (37, (.goto (4), 3, 41, 0)), (40, (.iconst (-1), 1, 0, (-1))), (41, (.istore 4, 2, 0, 0)), (43, (.iload 4, 2, 0, 0)), (45, (.ifCond .lt (13), 3, 58, 0)), (48, (.aload_n 1, 1, 0, 0)), (49, (.iload_n 2, 1, 0, 0)), (50, (.iload_n 3, 1, 0, 0)), (51, (.iload 4, 2, 0, 0)), (53, (.invokevirtual 77, 3, 0, 0)), (56, (.iconst (1), 1, 0, (1))), (57, (.ireturn, 1, 0, 0)), (58, (.iinc 3 (1), 3, 0, (1))), (61, (.goto (-49), 3, 12, 0)), (64, (.iinc 2 (1), 3, 0, (1))), (67, (.goto (-65), 3, 2, 0)), (70, (.iconst (0), 1, 0, (0))), (71, (.ireturn, 1, 0, 0))], [(9, 6, 0)], [], [(67, 4, 2, 99), (73, 56, 2, 6), (77, 21, 3, 3)], 2)
/-- HouseDesk$Sides.looseThird -/
def mt_56 : mm_M := ([(0, (.aload_n 0, 1, 0, 0)), (1, (.getfield 9, 3, 0, 0)), (4, (.iload_n 1, 1, 0, 0)), (5, (.iaload, 1, 0, 0)), (6, (.aload_n 0, 1, 0, 0)), (7, (.getfield 9, 3, 0, 0)), (10, (.iload_n 2, 1, 0, 0)), (11, (.iaload, 1, 0, 0)), (12, (.iand, 1, 0, 0)), (13, (.istore_n 3, 1, 0, 0)), (14, (.iload_n 2, 1, 0, 0)), (15, (.iconst (1), 1, 0, (1))), (16, (.iadd, 1, 0, 0)), (17, (.istore 4, 2, 0, 0)), (19, (.iload 4, 2, 0, 0)), (21, (.bipush (13), 2, 0, (13))), (23, (.if_icmp .ge (32), 3, 55, 0)), (26, (.iload_n 3, 1, 0, 0)), (27, (.iload 4, 2, 0, 0)), (29, (.invokestatic 67, 3, 0, 0)), (32, (.ifCond .eq (17), 3, 49, 0)), (35, (.aload_n 0, 1, 0, 0)), (36, (.iload_n 1, 1, 0, 0)), (37, (.iload_n 2, 1, 0, 0)), (38, (.iload 4, 2, 0, 0)), (40, (.invokevirtual 83, 3, 0, 0)), (43, (.ifCond .ne (6), 3, 49, 0)), (46, (.iload 4, 2, 0, 0)), (48, (.ireturn, 1, 0, 0)), (49, (.iinc 4 (1), 3, 0, (1))), (52, (.goto (-33), 3, 19, 0)), (55, (.iconst (-1), 1, 0, (-1))), (56, (.ireturn, 1, 0, 0))], [(9, 6, 0)], [], [(67, 4, 2, 99), (83, 57, 3, 6)], 1)
/-- HouseDesk$Sides.boundsFace -/
def mt_57 : mm_M := ([(0, (.iload_n 3, 1, 0, 0)), (1, (.bipush (9), 2, 0, (9))), (3, (.if_icmp .ge (22), 3, 25, 0)), (6, (.aload_n 0, 1, 0, 0)), (7, (.getfield 19, 3, 0, 0)), (10, (.iconst (1), 1, 0, (1))), (11, (.iload_n 1, 1, 0, 0)), (12, (.ishl, 1, 0, 0)), (13, (.iconst (1), 1, 0, (1))), (14, (.iload_n 2, 1, 0, 0)), (15, (.ishl, 1, 0, 0)), (16, (.ior, 1, 0, 0)), (17, (.iconst (1), 1, 0, (1))), (18, (.iload_n 3, 1, 0, 0)), (19, (.ishl, 1, 0, 0)), (20, (.ior, 1, 0, 0)), (21, (.invokevirtual 87, 3, 0, 0)), (24, (.ireturn, 1, 0, 0)), (25, (.iload_n 2, 1, 0, 0)), (26, (.bipush (9), 2, 0, (9))), (28, (.if_icmp .ge (35), 3, 63, 0)), (31, (.aload_n 0, 1, 0, 0)), (32, (.iload_n 1, 1, 0, 0)), (33, (.iload_n 2, 1, 0, 0)), (34, (.iload_n 3, 1, 0, 0)), (35, (.bipush (9), 2, 0, (9))), (37, (.isub, 1, 0, 0)), (38, (.invokevirtual 90, 3, 0, 0)), (41, (.ifCond .ne (16), 3, 57, 0)), (44, (.aload_n 0, 1, 0, 0)), (45, (.iload_n 2, 1, 0, 0)), (46, (.iload_n 1, 1, 0, 0)), (47, (.iload_n 3, 1, 0, 0)), (48, (.bipush (9), 2, 0, (9))), (50, (.isub, 1, 0, 0)), (51, (.invokevirtual 90, 3, 0, 0)), (54, (.ifCond .eq (7), 3, 61, 0)), (57, (.iconst (1), 1, 0, (1))), (58, (.goto (4), 3, 62, 0)), (61, (.iconst (0), 1, 0, (0))), (62, (.ireturn, 1, 0, 0)), (63, (.iload_n 2, 1, 0, 0)), (64, (.bipush (9), 2, 0, (9))), (66, (.if_icmp .ne (13), 3, 79, 0)), (69, (.iload_n 3, 1, 0, 0)), (70, (.bipush (12), 2, 0, (12))), (72, (.if_icmp .ne (7), 3, 79, 0)), (75, (.iconst (1), 1, 0, (1))), (76, (.goto (4), 3, 80, 0)), (79, (.iconst (0), 1, 0, (0))), (80, (.istore 4, 2, 0, 0)), (82, (.iload_n 1, 1, 0, 0)), (83, (.bipush (9), 2, 0, (9))), (85, (.if_icmp .ge (32), 3, 117, 0)), (88, (.aload_n 0, 1, 0, 0)), (89, (.getfield 15, 3, 0, 0)), (92, (.getfield 34, 3, 0, 0)), (95, (.iload 4, 2, 0, 0)), (97, (.ifCond .eq (7), 3, 104, 0)), (100, (.iconst (0), 1, 0, (0))), (101, (.goto (7), 3, 108, 0)), (104, (.iload_n 3, 1, 0, 0)), (105, (.bipush (9), 2, 0, (9))), (107, (.isub, 1, 0, 0)), (108, (.iaload, 1, 0, 0)), (109, (.iload_n 1, 1, 0, 0)), (110, (.if_icmp .ne (7), 3, 117, 0)), (113, (.iconst (1), 1, 0, (1))), (114, (.goto (4), 3, 118, 0)), (117, (.iconst (0), 1, 0, (0))), (118, (.ireturn, 1, 0, 0))], [(19, 6, 2), (15, 6, 1), (34, 1, 8)], [], [(87, 46, 1, 5), (90, 58, 3, 6)], 2)
/-- HouseDesk$Sides.follows -/
def mt_58 : mm_M := ([(0, (.iload_n 1, 1, 0, 0)), (1, (.aload_n 0, 1, 0, 0)), (2, (.iload_n 3, 1, 0, 0)), (3, (.invokevirtual 45, 3, 0, 0)), (6, (.if_icmp .eq (27), 3, 33, 0)), (9, (.aload_n 0, 1, 0, 0)), (10, (.getfield 19, 3, 0, 0)), (13, (.aload_n 0, 1, 0, 0)), (14, (.getfield 19, 3, 0, 0)), (17, (.getfield 29, 3, 0, 0)), (20, (.iload_n 1, 1, 0, 0)), (21, (.iaload, 1, 0, 0)), (22, (.invokevirtual 64, 3, 0, 0)), (25, (.iload_n 2, 1, 0, 0)), (26, (.if_icmp .ne (7), 3, 33, 0)), (29, (.iconst (1), 1, 0, (1))), (30, (.goto (4), 3, 34, 0)), (33, (.iconst (0), 1, 0, (0))), (34, (.ireturn, 1, 0, 0))], [(19, 6, 2), (29, 5, 2)], [], [(45, 49, 1, 6), (64, 40, 1, 5)], 2)
/-- HouseDesk$Sides.takePlaces -/
def mt_59 : mm_M := ([(0, (.iconst (0), 1, 0, (0))), (1, (.istore_n 1, 1, 0, 0)), (2, (.iload_n 1, 1, 0, 0)), (3, (.aload_n 0, 1, 0, 0)), (4, (.getfield 19, 3, 0, 0)), (7, (.getfield 41, 3, 0, 0)), (10, (.if_icmp .ge (108), 3, 118, 0)), (13, (.aload_n 0, 1, 0, 0)), (14, (.getfield 19, 3, 0, 0)), (17, (.getfield 93, 3, 0, 0)), (20, (.iload_n 1, 1, 0, 0)), (21, (.iaload, 1, 0, 0)), (22, (.istore_n 2, 1, 0, 0)), (23, (.aload_n 0, 1, 0, 0)), (24, (.getfield 19, 3, 0, 0)), (27, (.iload_n 1, 1, 0, 0)), (28, (.invokevirtual 96, 3, 0, 0)), (31, (.istore_n 3, 1, 0, 0)), (32, (.aload_n 0, 1, 0, 0)), (33, (.iload_n 2, 1, 0, 0)), (34, (.invokevirtual 99, 3, 0, 0)), (37, (.istore 4, 2, 0, 0)), (39, (.iconst (0), 1, 0, (0))), (40, (.istore 5, 2, 0, 0)), (42, (.iload 5, 2, 0, 0)), (44, (.iconst (4), 1, 0, (4))), (45, (.if_icmp .ge (48), 3, 93, 0)), (48, (.aload_n 0, 1, 0, 0)), (49, (.iload_n 2, 1, 0, 0)), (50, (.iload 4, 2, 0, 0)), (52, (.invokevirtual 102, 3, 0, 0)), (55, (.ifCond .eq (38), 3, 93, 0)), (58, (.aload_n 0, 1, 0, 0)), (59, (.getfield 19, 3, 0, 0)), (62, (.getfield 105, 3, 0, 0)), (65, (.iload_n 2, 1, 0, 0)), (66, (.aaload, 1, 0, 0)), (67, (.iload_n 3, 1, 0, 0)), (68, (.bipush (9), 2, 0, (9))), (70, (.iload 4, 2, 0, 0)), (72, (.iadd, 1, 0, 0)), (73, (.iastore, 1, 0, 0)), (74, (.bipush (9), 2, 0, (9))), (76, (.iload 4, 2, 0, 0)), (78, (.iadd, 1, 0, 0)), (79, (.istore_n 3, 1, 0, 0)), (80, (.iload 4, 2, 0, 0)), (82, (.invokestatic 48, 3, 0, 0)), (85, (.istore 4, 2, 0, 0)), (87, (.iinc 5 (1), 3, 0, (1))), (90, (.goto (-48), 3, 42, 0)), (93, (.aload_n 0, 1, 0, 0)), (94, (.getfield 19, 3, 0, 0)), (97, (.getfield 105, 3, 0, 0)), (100, (.iload_n 2, 1, 0, 0)), (101, (.aaload, 1, 0, 0)), (102, (.iload_n 3, 1, 0, 0)), (103, (.aload_n 0, 1, 0, 0)), (104, (.getfield 19, 3, 0, 0)), (107, (.iload_n 1, 1, 0, 0)), (108, (.invokevirtual 64, 3, 0, 0)), (111, (.iastore, 1, 0, 0)), (112, (.iinc 1 (1), 3, 0, (1))), (115, (.goto (-113), 3, 2, 0)), (118, (.return_, 1, 0, 0))], [(19, 6, 2), (41, 5, 3), (93, 5, 1), (105, 5, 0)], [], [(96, 41, 1, 5), (99, 60, 1, 6), (102, 53, 2, 6), (48, 50, 1, 99), (64, 40, 1, 5)], 0)
/-- HouseDesk$Sides.firstSideOf -/
def mt_60 : mm_M := ([(0, (.iconst (0), 1, 0, (0))), (1, (.istore_n 2, 1, 0, 0)), (2, (.iload_n 2, 1, 0, 0)), (3, (.iconst (4), 1, 0, (4))), (4, (.if_icmp .ge (32), 3, 36, 0)), (7, (.aload_n 0, 1, 0, 0)), (8, (.iload_n 1, 1, 0, 0)), (9, (.iload_n 2, 1, 0, 0)), (10, (.invokevirtual 102, 3, 0, 0)), (13, (.ifCond .eq (17), 3, 30, 0)), (16, (.aload_n 0, 1, 0, 0)), (17, (.iload_n 1, 1, 0, 0)), (18, (.iload_n 2, 1, 0, 0)), (19, (.invokestatic 61, 3, 0, 0)), (22, (.invokevirtual 102, 3, 0, 0)), (25, (.ifCond .ne (5), 3, 30, 0)), (28, (.iload_n 2, 1, 0, 0)), (29, (.ireturn, 1, 0, 0)), (30, (.iinc 2 (1), 3, 0, (1))), (33, (.goto (-31), 3, 2, 0)), (36, (.iconst (0), 1, 0, (0))), (37, (.ireturn, 1, 0, 0))], [], [], [(102, 53, 2, 6), (61, 51, 1, 99)], 1)
/-- HouseDesk$Layout.findFirst -/
def mt_61 : mm_M := ([(0, (.aload_n 0, 1, 0, 0)), (1, (.iconst (0), 1, 0, (0))), (2, (.putfield 52, 3, 0, 0)), (5, (.iconst (0), 1, 0, (0))), (6, (.istore_n 1, 1, 0, 0)), (7, (.iload_n 1, 1, 0, 0)), (8, (.bipush (9), 2, 0, (9))), (10, (.if_icmp .ge (36), 3, 46, 0)), (13, (.aload_n 0, 1, 0, 0)), (14, (.getfield 23, 3, 0, 0)), (17, (.iload_n 1, 1, 0, 0)), (18, (.aload_n 0, 1, 0, 0)), (19, (.getfield 48, 3, 0, 0)), (22, (.getfield 56, 3, 0, 0)), (25, (.iload_n 1, 1, 0, 0)), (26, (.iaload, 1, 0, 0)), (27, (.invokestatic 61, 3, 0, 0)), (30, (.iconst (4), 1, 0, (4))), (31, (.isub, 1, 0, 0)), (32, (.iastore, 1, 0, 0)), (33, (.aload_n 0, 1, 0, 0)), (34, (.getfield 26, 3, 0, 0)), (37, (.iload_n 1, 1, 0, 0)), (38, (.iconst (0), 1, 0, (0))), (39, (.iastore, 1, 0, 0)), (40, (.iinc 1 (1), 3, 0, (1))), (43, (.goto (-36), 3, 7, 0)), (46, (.iconst (0), 1, 0, (0))), (47, (.istore_n 1, 1, 0, 0)), (48, (.iload_n 1, 1, 0, 0)), (49, (.aload_n 0, 1, 0, 0)), (50, (.getfield 44, 3, 0, 0)), (53, (.getfield 67, 3, 0, 0)), (56, (.if_icmp .ge (20), 3, 76, 0)), (59, (.aload_n 0, 1, 0, 0)), (60, (.iload_n 1, 1, 0, 0)), (61, (.invokevirtual 71, 3, 0, 0)), (64, (.aload_n 0, 1, 0, 0)), (65, (.iload_n 1, 1, 0, 0)), (66, (.iconst (1), 1, 0, (1))), (67, (.invokevirtual 75, 3, 0, 0)), (70, (.iinc 1 (1), 3, 0, (1))), (73, (.goto (-25), 3, 48, 0)), (76, (.aload_n 0, 1, 0, 0)), (77, (.invokevirtual 79, 3, 0, 0)), (80, (.aload_n 0, 1, 0, 0)), (81, (.iconst (0), 1, 0, (0))), (82, (.invokevirtual 82, 3, 0, 0)), (85, (.return_, 1, 0, 0))], [(23, 7, 3), (48, 7, 11), (56, 6, 0), (26, 7, 4), (44, 7, 10), (67, 5, 6)], [(52, 7, 8)], [(61, 153, 1, 99), (71, 62, 1, 7), (75, 65, 2, 7), (79, 63, 0, 7), (82, 64, 1, 7)], 0)
/-- HouseDesk$Layout.listRooms -/
def mt_62 : mm_M := ([(0, (.aload_n 0, 1, 0, 0)), (1, (.getfield 44, 3, 0, 0)), (4, (.getfield 85, 3, 0, 0)), (7, (.iload_n 1, 1, 0, 0)), (8, (.iaload, 1, 0, 0)), (9, (.istore_n 2, 1, 0, 0)), (10, (.iconst (3), 1, 0, (3))), (11, (.iload_n 1, 1, 0, 0)), (12, (.imul, 1, 0, 0)), (13, (.istore_n 3, 1, 0, 0)), (14, (.iload_n 3, 1, 0, 0)), (15, (.iconst (3), 1, 0, (3))), (16, (.iload_n 1, 1, 0, 0)), (17, (.imul, 1, 0, 0)), (18, (.iconst (3), 1, 0, (3))), (19, (.iadd, 1, 0, 0)), (20, (.if_icmp .ge (24), 3, 44, 0)), (23, (.aload_n 0, 1, 0, 0)), (24, (.getfield 17, 3, 0, 0)), (27, (.iload_n 3, 1, 0, 0)), (28, (.iload_n 2, 1, 0, 0)), (29, (.invokestatic 88, 3, 0, 0)), (32, (.iastore, 1, 0, 0)), (33, (.iload_n 2, 1, 0, 0)), (34, (.invokestatic 93, 3, 0, 0)), (37, (.istore_n 2, 1, 0, 0)), (38, (.iinc 3 (1), 3, 0, (1))), (41, (.goto (-27), 3, 14, 0)), (44, (.return_, 1, 0, 0))], [(44, 7, 10), (85, 5, 5), (17, 7, 1)], [], [(88, 5, 1, 99), (93, 6, 1, 99)], 0)
/-- HouseDesk$Layout.orderRooms -/
def mt_63 : mm_M := ([(0, (.iconst (0), 1, 0, (0))), (1, (.istore_n 1, 1, 0, 0)), (2, (.iconst (0), 1, 0, (0))), (3, (.istore_n 2, 1, 0, 0)), (4, (.iload_n 2, 1, 0, 0)), (5, (.aload_n 0, 1, 0, 0)), (6, (.getfield 44, 3, 0, 0)), (9, (.getfield 96, 3, 0, 0)), (12, (.if_icmp .ge (57), 3, 69, 0)), (15, (.aload_n 0, 1, 0, 0)), (16, (.getfield 34, 3, 0, 0)), (19, (.iload_n 2, 1, 0, 0)), (20, (.aload_n 0, 1, 0, 0)), (21, (.getfield 44, 3, 0, 0)), (24, (.getfield 99, 3, 0, 0)), (27, (.iload_n 2, 1, 0, 0)), (28, (.iaload, 1, 0, 0)), (29, (.iastore, 1, 0, 0)), (30, (.aload_n 0, 1, 0, 0)), (31, (.getfield 37, 3, 0, 0)), (34, (.iload_n 2, 1, 0, 0)), (35, (.bipush (9), 2, 0, (9))), (37, (.aload_n 0, 1, 0, 0)), (38, (.getfield 48, 3, 0, 0)), (41, (.aload_n 0, 1, 0, 0)), (42, (.getfield 34, 3, 0, 0)), (45, (.iload_n 2, 1, 0, 0)), (46, (.iaload, 1, 0, 0)), (47, (.invokevirtual 102, 3, 0, 0)), (50, (.iadd, 1, 0, 0)), (51, (.iastore, 1, 0, 0)), (52, (.iload_n 1, 1, 0, 0)), (53, (.iconst (1), 1, 0, (1))), (54, (.aload_n 0, 1, 0, 0)), (55, (.getfield 34, 3, 0, 0)), (58, (.iload_n 2, 1, 0, 0)), (59, (.iaload, 1, 0, 0)), (60, (.ishl, 1, 0, 0)), (61, (.ior, 1, 0, 0)), (62, (.istore_n 1, 1, 0, 0)), (63, (.iinc 2 (1), 3, 0, (1))), (66, (.goto (-62), 3, 4, 0)), (69, (.aload_n 0, 1, 0, 0)), (70, (.getfield 44, 3, 0, 0)), (73, (.getfield 96, 3, 0, 0)), (76, (.istore_n 2, 1, 0, 0)), (77, (.iconst (0), 1, 0, (0))), (78, (.istore_n 3, 1, 0, 0)), (79, (.iload_n 3, 1, 0, 0)), (80, (.iload_n 2, 1, 0, 0)), (81, (.if_icmp .ge (88), 3, 169, 0)), (84, (.iload_n 3, 1, 0, 0)), (85, (.bipush (9), 2, 0, (9))), (87, (.if_icmp .ge (82), 3, 169, 0)), (90, (.iconst (0), 1, 0, (0))), (91, (.istore 4, 2, 0, 0)), (93, (.iload 4, 2, 0, 0)), (95, (.bipush (9), 2, 0, (9))), (97, (.if_icmp .ge (66), 3, 163, 0)), (100, (.aload_n 0, 1, 0, 0)), (101, (.getfield 40, 3, 0, 0)), (104, (.aload_n 0, 1, 0, 0)), (105, (.getfield 34, 3, 0, 0)), (108, (.iload_n 3, 1, 0, 0)), (109, (.iaload, 1, 0, 0)), (110, (.iload 4, 2, 0, 0)), (112, (.invokevirtual 105, 3, 0, 0)), (115, (.ifCond .eq (42), 3, 157, 0)), (118, (.iload_n 1, 1, 0, 0)), (119, (.iload 4, 2, 0, 0)), (121, (.invokestatic 111, 3, 0, 0)), (124, (.ifCond .ne (33), 3, 157, 0)), (127, (.aload_n 0, 1, 0, 0)), (128, (.getfield 34, 3, 0, 0)), (131, (.iload_n 2, 1, 0, 0)), (132, (.iload 4, 2, 0, 0)), (134, (.iastore, 1, 0, 0)), (135, (.aload_n 0, 1, 0, 0)), (136, (.getfield 37, 3, 0, 0)), (139, (.iload_n 2, 1, 0, 0)), (140, (.aload_n 0, 1, 0, 0)), (141, (.getfield 34, 3, 0, 0)), (144, (.iload_n 3, 1, 0, 0)), (145, (.iaload, 1, 0, 0)), (146, (.iastore, 1, 0, 0)), (147, (.iload_n 1, 1, 0, 0)), (148, (.iconst (1), 1, 0, (1))), (149, (.iload 4, 2, 0, 0)), (151, (.ishl, 1, 0, 0)), (152, (.ior, 1, 0, 0)), (153, (.istore_n 1, 1, 0, 0)), (154, (.iinc 2 (1), 3, 0, (1))), (157, (.iinc 4 (1), 3, 0, (1))), (160, (.goto (-67), 3, 93, 0)), (163, (.iinc 3 (1), 3, 0, (1))), (166, (.goto (-87), 3, 79, 0)), (169, (.return_, 1, 0, 0))], [(44, 7, 10), (96, 5, 3), (34, 7, 6), (99, 5, 1), (37, 7, 7), (48, 7, 11), (40, 7, 9)], [], [(102, 60, 1, 6), (105, 10, 2, 1), (111, 4, 2, 99)], 0)
/-- HouseDesk$Layout.choose -/
def mt_64 : mm_M := ([(0, (.iload_n 1, 1, 0, 0)), (1, (.aload_n 0, 1, 0, 0)), (2, (.getfield 44, 3, 0, 0)), (5, (.getfield 67, 3, 0, 0)), (8, (.if_icmp .lt (8), 3, 16, 0)), (11, (.aload_n 0, 1, 0, 0)), (12, (.invokevirtual 114, 3, 0, 0)), (15, (.return_, 1, 0, 0)), (16, (.aload_n 0, 1, 0, 0)), (17, (.iload_n 1, 1, 0, 0)), (18, (.iconst (-1), 1, 0, (-1))), (19, (.invokevirtual 75, 3, 0, 0)), (22, (.iconst (3), 1, 0, (3))), (23, (.iload_n 1, 1, 0, 0)), (24, (.imul, 1, 0, 0)), (25, (.istore_n 2, 1, 0, 0)), (26, (.iload_n 2, 1, 0, 0)), (27, (.iconst (3), 1, 0, (3))), (28, (.iload_n 1, 1, 0, 0)), (29, (.imul, 1, 0, 0)), (30, (.iconst (3), 1, 0, (3))), (31, (.iadd, 1, 0, 0)), (32, (.if_icmp .ge (67), 3, 99, 0)), (35, (.aload_n 0, 1, 0, 0)), (36, (.getfield 17, 3, 0, 0)), (39, (.iload_n 2, 1, 0, 0)), (40, (.iaload, 1, 0, 0)), (41, (.istore_n 3, 1, 0, 0)), (42, (.aload_n 0, 1, 0, 0)), (43, (.getfield 20, 3, 0, 0)), (46, (.iload_n 1, 1, 0, 0)), (47, (.iload_n 3, 1, 0, 0)), (48, (.iastore, 1, 0, 0)), (49, (.aload_n 0, 1, 0, 0)), (50, (.getfield 23, 3, 0, 0)), (53, (.iload_n 3, 1, 0, 0)), (54, (.dup2, 1, 0, 0)), (55, (.iaload, 1, 0, 0)), (56, (.iconst (1), 1, 0, (1))), (57, (.isub, 1, 0, 0)), (58, (.iastore, 1, 0, 0)), (59, (.aload_n 0, 1, 0, 0)), (60, (.getfield 23, 3, 0, 0)), (63, (.iload_n 3, 1, 0, 0)), (64, (.iaload, 1, 0, 0)), (65, (.ifCond .lt (18), 3, 83, 0)), (68, (.aload_n 0, 1, 0, 0)), (69, (.iload_n 1, 1, 0, 0)), (70, (.invokevirtual 117, 3, 0, 0)), (73, (.ifCond .eq (10), 3, 83, 0)), (76, (.aload_n 0, 1, 0, 0)), (77, (.iload_n 1, 1, 0, 0)), (78, (.iconst (1), 1, 0, (1))), (79, (.iadd, 1, 0, 0)), (80, (.invokevirtual 82, 3, 0, 0)), (83, (.aload_n 0, 1, 0, 0)), (84, (.getfield 23, 3, 0, 0)), (87, (.iload_n 3, 1, 0, 0)), (88, (.dup2, 1, 0, 0)), (89, (.iaload, 1, 0, 0)), (90, (.iconst (1), 1, 0, (1))), (91, (.iadd, 1, 0, 0)), (92, (.iastore, 1, 0, 0)), (93, (.iinc 2 (1), 3, 0, (1))), (96, (.goto (-70), 3, 26, 0)), (99, (.aload_n 0, 1, 0, 0)), (100, (.iload_n 1, 1, 0, 0)), (101, (.iconst (1), 1, 0, (1))), (102, (.invokevirtual 75, 3, 0, 0)), (105, (.return_, 1, 0, 0))], [(44, 7, 10), (67, 5, 6), (17, 7, 1), (20, 7, 2), (23, 7, 3)], [], [(114, 67, 0, 7), (75, 65, 2, 7), (117, 66, 1, 7), (82, 64, 1, 7)], 0)
/-- HouseDesk$Layout.shiftOpen -/
def mt_65 : mm_M := ([(0, (.iconst (3), 1, 0, (3))), (1, (.iload_n 1, 1, 0, 0)), (2, (.imul, 1, 0, 0)), (3, (.istore_n 3, 1, 0, 0)), (4, (.iload_n 3, 1, 0, 0)), (5, (.iconst (3), 1, 0, (3))), (6, (.iload_n 1, 1, 0, 0)), (7, (.imul, 1, 0, 0)), (8, (.iconst (3), 1, 0, (3))), (9, (.iadd, 1, 0, 0)), (10, (.if_icmp .ge (24), 3, 34, 0)), (13, (.aload_n 0, 1, 0, 0)), (14, (.getfield 26, 3, 0, 0)), (17, (.aload_n 0, 1, 0, 0)), (18, (.getfield 17, 3, 0, 0)), (21, (.iload_n 3, 1, 0, 0)), (22, (.iaload, 1, 0, 0)), (23, (.dup2, 1, 0, 0)), (24, (.iaload, 1, 0, 0)), (25, (.iload_n 2, 1, 0, 0)), (26, (.iadd, 1, 0, 0)), (27, (.iastore, 1, 0, 0)), (28, (.iinc 3 (1), 3, 0, (1))), (31, (.goto (-27), 3, 4, 0)), (34, (.return_, 1, 0, 0))], [(26, 7, 4), (17, 7, 1)], [], [], 0)
/-- HouseDesk$Layout.canBeMet -/
def mt_66 : mm_M := ([(0, (.iconst (3), 1, 0, (3))), (1, (.iload_n 1, 1, 0, 0)), (2, (.imul, 1, 0, 0)), (3, (.istore_n 2, 1, 0, 0)), (4, (.iload_n 2, 1, 0, 0)), (5, (.iconst (3), 1, 0, (3))), (6, (.iload_n 1, 1, 0, 0)), (7, (.imul, 1, 0, 0)), (8, (.iconst (3), 1, 0, (3))), (9, (.iadd, 1, 0, 0)), (10, (.if_icmp .ge (36), 3, 46, 0)), (13, (.aload_n 0, 1, 0, 0)), (14, (.getfield 23, 3, 0, 0)), (17, (.aload_n 0, 1, 0, 0)), (18, (.getfield 17, 3, 0, 0)), (21, (.iload_n 2, 1, 0, 0)), (22, (.iaload, 1, 0, 0)), (23, (.iaload, 1, 0, 0)), (24, (.aload_n 0, 1, 0, 0)), (25, (.getfield 26, 3, 0, 0)), (28, (.aload_n 0, 1, 0, 0)), (29, (.getfield 17, 3, 0, 0)), (32, (.iload_n 2, 1, 0, 0)), (33, (.iaload, 1, 0, 0)), (34, (.iaload, 1, 0, 0)), (35, (.if_icmp .le (5), 3, 40, 0)), (38, (.iconst (0), 1, 0, (0))), (39, (.ireturn, 1, 0, 0)), (40, (.iinc 2 (1), 3, 0, (1))), (43, (.goto (-39), 3, 4, 0)), (46, (.iconst (1), 1, 0, (1))), (47, (.ireturn, 1, 0, 0))], [(23, 7, 3), (17, 7, 1), (26, 7, 4)], [], [], 2)
/-- HouseDesk$Layout.weigh -/
def mt_67 : mm_M := ([(0, (.iconst (0), 1, 0, (0))), (1, (.istore_n 1, 1, 0, 0)), (2, (.iload_n 1, 1, 0, 0)), (3, (.aload_n 0, 1, 0, 0)), (4, (.getfield 40, 3, 0, 0)), (7, (.getfield 121, 3, 0, 0)), (10, (.if_icmp .ge (25), 3, 35, 0)), (13, (.aload_n 0, 1, 0, 0)), (14, (.aload_n 0, 1, 0, 0)), (15, (.getfield 34, 3, 0, 0)), (18, (.iload_n 1, 1, 0, 0)), (19, (.iaload, 1, 0, 0)), (20, (.aload_n 0, 1, 0, 0)), (21, (.getfield 37, 3, 0, 0)), (24, (.iload_n 1, 1, 0, 0)), (25, (.iaload, 1, 0, 0)), (26, (.invokevirtual 124, 3, 0, 0)), (29, (.iinc 1 (1), 3, 0, (1))), (32, (.goto (-30), 3, 2, 0)), (35, (.aload_n 0, 1, 0, 0)), (36, (.getfield 52, 3, 0, 0)), (39, (.ifCond .eq (10), 3, 49, 0)), (42, (.aload_n 0, 1, 0, 0)), (43, (.invokevirtual 127, 3, 0, 0)), (46, (.ifCond .eq (38), 3, 84, 0)), (49, (.aload_n 0, 1, 0, 0)), (50, (.iconst (1), 1, 0, (1))), (51, (.putfield 52, 3, 0, 0)), (54, (.iconst (0), 1, 0, (0))), (55, (.istore_n 1, 1, 0, 0)), (56, (.iload_n 1, 1, 0, 0)), (57, (.aload_n 0, 1, 0, 0)), (58, (.getfield 40, 3, 0, 0)), (61, (.getfield 131, 3, 0, 0)), (64, (.if_icmp .ge (20), 3, 84, 0)), (67, (.aload_n 0, 1, 0, 0)), (68, (.getfield 9, 3, 0, 0)), (71, (.iload_n 1, 1, 0, 0)), (72, (.aload_n 0, 1, 0, 0)), (73, (.iload_n 1, 1, 0, 0)), (74, (.invokevirtual 134, 3, 0, 0)), (77, (.iastore, 1, 0, 0)), (78, (.iinc 1 (1), 3, 0, (1))), (81, (.goto (-25), 3, 56, 0)), (84, (.return_, 1, 0, 0))], [(40, 7, 9), (121, 1, 11), (34, 7, 6), (37, 7, 7), (52, 7, 8), (131, 1, 12), (9, 7, 0)], [(52, 7, 8)], [(124, 68, 2, 7), (127, 71, 0, 7), (134, 154, 1, 7)], 0)
/-- HouseDesk$Layout.lookAround -/
def mt_68 : mm_M := ([(0, (.iload_n 2, 1, 0, 0)), (1, (.bipush (9), 2, 0, (9))), (3, (.if_icmp .lt (10), 3, 13, 0)), (6, (.iload_n 2, 1, 0, 0)), (7, (.bipush (9), 2, 0, (9))), (9, (.isub, 1, 0, 0)), (10, (.goto (14), 3, 24, 0)), (13, (.aload_n 0, 1, 0, 0)), (14, (.getfield 31, 3, 0, 0)), (17, (.iload_n 2, 1, 0, 0)), (18, (.aaload, 1, 0, 0)), (19, (.iload_n 1, 1, 0, 0)), (20, (.iaload, 1, 0, 0)), (21, (.invokestatic 137, 3, 0, 0)), (24, (.istore_n 3, 1, 0, 0)), (25, (.iload_n 2, 1, 0, 0)), (26, (.istore 4, 2, 0, 0)), (28, (.aload_n 0, 1, 0, 0)), (29, (.getfield 48, 3, 0, 0)), (32, (.getfield 56, 3, 0, 0)), (35, (.iload_n 1, 1, 0, 0)), (36, (.iaload, 1, 0, 0)), (37, (.invokestatic 61, 3, 0, 0)), (40, (.istore 5, 2, 0, 0)), (42, (.iload 5, 2, 0, 0)), (44, (.ifCond .le (54), 3, 98, 0)), (47, (.aload_n 0, 1, 0, 0)), (48, (.getfield 31, 3, 0, 0)), (51, (.iload_n 1, 1, 0, 0)), (52, (.aaload, 1, 0, 0)), (53, (.iload 4, 2, 0, 0)), (55, (.iload_n 3, 1, 0, 0)), (56, (.iastore, 1, 0, 0)), (57, (.aload_n 0, 1, 0, 0)), (58, (.getfield 44, 3, 0, 0)), (61, (.getfield 140, 3, 0, 0)), (64, (.iload_n 1, 1, 0, 0)), (65, (.aaload, 1, 0, 0)), (66, (.iload 4, 2, 0, 0)), (68, (.iaload, 1, 0, 0)), (69, (.istore 6, 2, 0, 0)), (71, (.aload_n 0, 1, 0, 0)), (72, (.iload_n 1, 1, 0, 0)), (73, (.iload 4, 2, 0, 0)), (75, (.iload 6, 2, 0, 0)), (77, (.invokevirtual 143, 3, 0, 0)), (80, (.ifCond .eq (8), 3, 88, 0)), (83, (.iload_n 3, 1, 0, 0)), (84, (.invokestatic 147, 3, 0, 0)), (87, (.istore_n 3, 1, 0, 0)), (88, (.iload 6, 2, 0, 0)), (90, (.istore 4, 2, 0, 0)), (92, (.iinc 5 (-1), 3, 0, (-1))), (95, (.goto (-53), 3, 42, 0)), (98, (.return_, 1, 0, 0))], [(31, 7, 5), (48, 7, 11), (56, 6, 0), (44, 7, 10), (140, 5, 0)], [], [(137, 69, 1, 99), (61, 153, 1, 99), (143, 70, 3, 7), (147, 50, 1, 99)], 0)
/-- HouseDesk$Layout.opposite -/
def mt_69 : mm_M := ([(0, (.iload_n 0, 1, 0, 0)), (1, (.invokestatic 147, 3, 0, 0)), (4, (.invokestatic 147, 3, 0, 0)), (7, (.ireturn, 1, 0, 0))], [], [], [(147, 50, 1, 99)], 1)
/-- HouseDesk$Layout.hasCorner -/
def mt_70 : mm_M := ([(0, (.iload_n 2, 1, 0, 0)), (1, (.bipush (9), 2, 0, (9))), (3, (.if_icmp .ge (29), 3, 32, 0)), (6, (.iload_n 3, 1, 0, 0)), (7, (.bipush (9), 2, 0, (9))), (9, (.if_icmp .ge (23), 3, 32, 0)), (12, (.aload_n 0, 1, 0, 0)), (13, (.getfield 20, 3, 0, 0)), (16, (.aload_n 0, 1, 0, 0)), (17, (.getfield 44, 3, 0, 0)), (20, (.getfield 150, 3, 0, 0)), (23, (.iload_n 2, 1, 0, 0)), (24, (.aaload, 1, 0, 0)), (25, (.iload_n 1, 1, 0, 0)), (26, (.iaload, 1, 0, 0)), (27, (.iaload, 1, 0, 0)), (28, (.iload_n 1, 1, 0, 0)), (29, (.if_icmp .eq (7), 3, 36, 0)), (32, (.iconst (1), 1, 0, (1))), (33, (.goto (4), 3, 37, 0)), (36, (.iconst (0), 1, 0, (0))), (37, (.ireturn, 1, 0, 0))], [(20, 7, 2), (44, 7, 10), (150, 5, 4)], [], [], 2)
/-- HouseDesk$Layout.isSooner -/
def mt_71 : mm_M := ([(0, (.iconst (0), 1, 0, (0))), (1, (.istore_n 1, 1, 0, 0)), (2, (.iload_n 1, 1, 0, 0)), (3, (.aload_n 0, 1, 0, 0)), (4, (.getfield 40, 3, 0, 0)), (7, (.getfield 131, 3, 0, 0)), (10, (.if_icmp .ge (41), 3, 51, 0)), (13, (.aload_n 0, 1, 0, 0)), (14, (.iload_n 1, 1, 0, 0)), (15, (.invokevirtual 134, 3, 0, 0)), (18, (.istore_n 2, 1, 0, 0)), (19, (.iload_n 2, 1, 0, 0)), (20, (.aload_n 0, 1, 0, 0)), (21, (.getfield 9, 3, 0, 0)), (24, (.iload_n 1, 1, 0, 0)), (25, (.iaload, 1, 0, 0)), (26, (.if_icmp .eq (19), 3, 45, 0)), (29, (.iload_n 2, 1, 0, 0)), (30, (.aload_n 0, 1, 0, 0)), (31, (.getfield 9, 3, 0, 0)), (34, (.iload_n 1, 1, 0, 0)), (35, (.iaload, 1, 0, 0)), (36, (.if_icmp .ge (7), 3, 43, 0)), (39, (.iconst (1), 1, 0, (1))), (40, (.goto (4), 3, 44, 0)), (43, (.iconst (0), 1, 0, (0))), (44, (.ireturn, 1, 0, 0)), (45, (.iinc 1 (1), 3, 0, (1))), (48, (.goto (-46), 3, 2, 0)), (51, (.iconst (0), 1, 0, (0))), (52, (.ireturn, 1, 0, 0))], [(40, 7, 9), (131, 1, 12), (9, 7, 0)], [], [(134, 154, 1, 7)], 2)
/-- HouseDesk$Places.settle -/
def mt_72 : mm_M := ([(0, (.iconst (0), 1, 0, (0))), (1, (.istore_n 1, 1, 0, 0)), (2, (.iload_n 1, 1, 0, 0)), (3, (.bipush (9), 2, 0, (9))), (5, (.if_icmp .ge (31), 3, 36, 0)), (8, (.iconst (0), 1, 0, (0))), (9, (.istore_n 2, 1, 0, 0)), (10, (.iload_n 2, 1, 0, 0)), (11, (.iconst (4), 1, 0, (4))), (12, (.if_icmp .ge (18), 3, 30, 0)), (15, (.aload_n 0, 1, 0, 0)), (16, (.getfield 11, 3, 0, 0)), (19, (.iload_n 1, 1, 0, 0)), (20, (.aaload, 1, 0, 0)), (21, (.iload_n 2, 1, 0, 0)), (22, (.iconst (0), 1, 0, (0))), (23, (.iastore, 1, 0, 0)), (24, (.iinc 2 (1), 3, 0, (1))), (27, (.goto (-17), 3, 10, 0)), (30, (.iinc 1 (1), 3, 0, (1))), (33, (.goto (-31), 3, 2, 0)), (36, (.aload_n 0, 1, 0, 0)), (37, (.iconst (1), 1, 0, (1))), (38, (.putfield 32, 3, 0, 0)), (41, (.iconst (0), 1, 0, (0))), (42, (.istore_n 1, 1, 0, 0)), (43, (.iload_n 1, 1, 0, 0)), (44, (.bipush (100), 2, 0, (100))), (46, (.if_icmp .ge (135), 3, 181, 0)), (49, (.aload_n 0, 1, 0, 0)), (50, (.getfield 32, 3, 0, 0)), (53, (.ifCond .eq (128), 3, 181, 0)), (56, (.aload_n 0, 1, 0, 0)), (57, (.iconst (0), 1, 0, (0))), (58, (.putfield 32, 3, 0, 0)), (61, (.iconst (0), 1, 0, (0))), (62, (.istore_n 2, 1, 0, 0)), (63, (.iload_n 2, 1, 0, 0)), (64, (.aload_n 0, 1, 0, 0)), (65, (.getfield 20, 3, 0, 0)), (68, (.getfield 36, 3, 0, 0)), (71, (.if_icmp .ge (19), 3, 90, 0)), (74, (.aload_n 0, 1, 0, 0)), (75, (.iload_n 2, 1, 0, 0)), (76, (.invokevirtual 42, 3, 0, 0)), (79, (.aload_n 0, 1, 0, 0)), (80, (.iload_n 2, 1, 0, 0)), (81, (.invokevirtual 46, 3, 0, 0)), (84, (.iinc 2 (1), 3, 0, (1))), (87, (.goto (-24), 3, 63, 0)), (90, (.iconst (0), 1, 0, (0))), (91, (.istore_n 2, 1, 0, 0)), (92, (.iload_n 2, 1, 0, 0)), (93, (.bipush (9), 2, 0, (9))), (95, (.if_icmp .ge (68), 3, 163, 0)), (98, (.aload_n 0, 1, 0, 0)), (99, (.getfield 20, 3, 0, 0)), (102, (.iload_n 2, 1, 0, 0)), (103, (.invokevirtual 49, 3, 0, 0)), (106, (.ifCond .eq (51), 3, 157, 0)), (109, (.aload_n 0, 1, 0, 0)), (110, (.iload_n 2, 1, 0, 0)), (111, (.iconst (2), 1, 0, (2))), (112, (.aload_n 0, 1, 0, 0)), (113, (.getfield 11, 3, 0, 0)), (116, (.iload_n 2, 1, 0, 0)), (117, (.aaload, 1, 0, 0)), (118, (.iconst (0), 1, 0, (0))), (119, (.iaload, 1, 0, 0)), (120, (.aload_n 0, 1, 0, 0)), (121, (.getfield 20, 3, 0, 0)), (124, (.getfield 53, 3, 0, 0)), (127, (.iload_n 2, 1, 0, 0)), (128, (.iaload, 1, 0, 0)), (129, (.iadd, 1, 0, 0)), (130, (.invokevirtual 56, 3, 0, 0)), (133, (.aload_n 0, 1, 0, 0)), (134, (.iload_n 2, 1, 0, 0)), (135, (.iconst (3), 1, 0, (3))), (136, (.aload_n 0, 1, 0, 0)), (137, (.getfield 11, 3, 0, 0)), (140, (.iload_n 2, 1, 0, 0)), (141, (.aaload, 1, 0, 0)), (142, (.iconst (1), 1, 0, (1))), (143, (.iaload, 1, 0, 0)), (144, (.aload_n 0, 1, 0, 0)), (145, (.getfield 20, 3, 0, 0)), (148, (.getfield 60, 3, 0, 0)), (151, (.iload_n 2, 1, 0, 0)), (152, (.iaload, 1, 0, 0)), (153, (.iadd, 1, 0, 0)), (154, (.invokevirtual 56, 3, 0, 0)), (157, (.iinc 2 (1), 3, 0, (1))), (160, (.goto (-68), 3, 92, 0)), (163, (.aload_n 0, 1, 0, 0)), (164, (.iconst (0), 1, 0, (0))), (165, (.iconst (1), 1, 0, (1))), (166, (.invokevirtual 63, 3, 0, 0)), (169, (.aload_n 0, 1, 0, 0)), (170, (.iconst (1), 1, 0, (1))), (171, (.iconst (0), 1, 0, (0))), (172, (.invokevirtual 63, 3, 0, 0)), (175, (.iinc 1 (1), 3, 0, (1))), (178, (.goto (-135), 3, 43, 0)), (181, (.return_, 1, 0, 0))], [(11, 8, 0), (32, 8, 2), (20, 8, 3), (36, 1, 12), (53, 1, 2), (60, 1, 3)], [(32, 8, 2)], [(42, 75, 1, 8), (46, 76, 1, 8), (49, 7, 1, 1), (56, 73, 3, 8), (63, 77, 2, 8)], 0)
/-- HouseDesk$Places.raise -/
def mt_73 : mm_M := ([(0, (.aload_n 0, 1, 0, 0)), (1, (.getfield 11, 3, 0, 0)), (4, (.iload_n 1, 1, 0, 0)), (5, (.aaload, 1, 0, 0)), (6, (.iload_n 2, 1, 0, 0)), (7, (.iaload, 1, 0, 0)), (8, (.iload_n 3, 1, 0, 0)), (9, (.if_icmp .ge (17), 3, 26, 0)), (12, (.aload_n 0, 1, 0, 0)), (13, (.getfield 11, 3, 0, 0)), (16, (.iload_n 1, 1, 0, 0)), (17, (.aaload, 1, 0, 0)), (18, (.iload_n 2, 1, 0, 0)), (19, (.iload_n 3, 1, 0, 0)), (20, (.iastore, 1, 0, 0)), (21, (.aload_n 0, 1, 0, 0)), (22, (.iconst (1), 1, 0, (1))), (23, (.putfield 32, 3, 0, 0)), (26, (.return_, 1, 0, 0))], [(11, 8, 0)], [(32, 8, 2)], [], 0)
/-- HouseDesk$Places.axisOf -/
def mt_74 : mm_M := ([(0, (.aload_n 0, 1, 0, 0)), (1, (.getfield 28, 3, 0, 0)), (4, (.getfield 67, 3, 0, 0)), (7, (.iload_n 1, 1, 0, 0)), (8, (.iaload, 1, 0, 0)), (9, (.iconst (1), 1, 0, (1))), (10, (.ishr, 1, 0, 0)), (11, (.ireturn, 1, 0, 0))], [(28, 8, 5), (67, 7, 0)], [], [], 1)
/-- HouseDesk$Places.meet -/
def mt_75 : mm_M := ([(0, (.aload_n 0, 1, 0, 0)), (1, (.iload_n 1, 1, 0, 0)), (2, (.invokevirtual 72, 3, 0, 0)), (5, (.istore_n 2, 1, 0, 0)), (6, (.aload_n 0, 1, 0, 0)), (7, (.getfield 28, 3, 0, 0)), (10, (.getfield 67, 3, 0, 0)), (13, (.iload_n 1, 1, 0, 0)), (14, (.iaload, 1, 0, 0)), (15, (.iconst (1), 1, 0, (1))), (16, (.iand, 1, 0, 0)), (17, (.ifCond .ne (7), 3, 24, 0)), (20, (.iconst (1), 1, 0, (1))), (21, (.goto (4), 3, 25, 0)), (24, (.iconst (0), 1, 0, (0))), (25, (.istore_n 3, 1, 0, 0)), (26, (.iload_n 3, 1, 0, 0)), (27, (.ifCond .eq (15), 3, 42, 0)), (30, (.aload_n 0, 1, 0, 0)), (31, (.getfield 20, 3, 0, 0)), (34, (.getfield 76, 3, 0, 0)), (37, (.iload_n 1, 1, 0, 0)), (38, (.iaload, 1, 0, 0)), (39, (.goto (12), 3, 51, 0)), (42, (.aload_n 0, 1, 0, 0)), (43, (.getfield 20, 3, 0, 0)), (46, (.getfield 79, 3, 0, 0)), (49, (.iload_n 1, 1, 0, 0)), (50, (.iaload, 1, 0, 0)), (51, (.istore 4, 2, 0, 0)), (53, (.iload_n 3, 1, 0, 0)), (54, (.ifCond .eq (15), 3, 69, 0)), (57, (.aload_n 0, 1, 0, 0)), (58, (.getfield 20, 3, 0, 0)), (61, (.getfield 79, 3, 0, 0)), (64, (.iload_n 1, 1, 0, 0)), (65, (.iaload, 1, 0, 0)), (66, (.goto (12), 3, 78, 0)), (69, (.aload_n 0, 1, 0, 0)), (70, (.getfield 20, 3, 0, 0)), (73, (.getfield 76, 3, 0, 0)), (76, (.iload_n 1, 1, 0, 0)), (77, (.iaload, 1, 0, 0)), (78, (.istore 5, 2, 0, 0)), (80, (.aload_n 0, 1, 0, 0)), (81, (.iload 4, 2, 0, 0)), (83, (.iload_n 2, 1, 0, 0)), (84, (.iconst (2), 1, 0, (2))), (85, (.iadd, 1, 0, 0)), (86, (.aload_n 0, 1, 0, 0)), (87, (.getfield 11, 3, 0, 0)), (90, (.iload 5, 2, 0, 0)), (92, (.aaload, 1, 0, 0)), (93, (.iload_n 2, 1, 0, 0)), (94, (.iaload, 1, 0, 0)), (95, (.invokevirtual 56, 3, 0, 0)), (98, (.aload_n 0, 1, 0, 0)), (99, (.iload 5, 2, 0, 0)), (101, (.iload_n 2, 1, 0, 0)), (102, (.aload_n 0, 1, 0, 0)), (103, (.getfield 11, 3, 0, 0)), (106, (.iload 4, 2, 0, 0)), (108, (.aaload, 1, 0, 0)), (109, (.iload_n 2, 1, 0, 0)), (110, (.iconst (2), 1, 0, (2))), (111, (.iadd, 1, 0, 0)), (112, (.iaload, 1, 0, 0)), (113, (.invokevirtual 56, 3, 0, 0)), (116, (.return_, 1, 0, 0))], [(28, 8, 5), (67, 7, 0), (20, 8, 3), (76, 1, 5), (79, 1, 6), (11, 8, 0)], [], [(72, 74, 1, 8), (56, 73, 3, 8)], 0)
/-- HouseDesk$Places.overlap -/
def mt_76 : mm_M := ([(0, (.iconst (1), 1, 0, (1))), (1, (.aload_n 0, 1, 0, 0)), (2, (.iload_n 1, 1, 0, 0)), (3, (.invokevirtual 72, 3, 0, 0)), (6, (.isub, 1, 0, 0)), (7, (.istore_n 2, 1, 0, 0)), (8, (.aload_n 0, 1, 0, 0)), (9, (.iload_n 1, 1, 0, 0)), (10, (.invokevirtual 82, 3, 0, 0)), (13, (.aload_n 0, 1, 0, 0)), (14, (.getfield 20, 3, 0, 0)), (17, (.getfield 85, 3, 0, 0)), (20, (.iload_n 1, 1, 0, 0)), (21, (.iaload, 1, 0, 0)), (22, (.iadd, 1, 0, 0)), (23, (.istore_n 3, 1, 0, 0)), (24, (.aload_n 0, 1, 0, 0)), (25, (.aload_n 0, 1, 0, 0)), (26, (.getfield 20, 3, 0, 0)), (29, (.getfield 76, 3, 0, 0)), (32, (.iload_n 1, 1, 0, 0)), (33, (.iaload, 1, 0, 0)), (34, (.iload_n 2, 1, 0, 0)), (35, (.iconst (2), 1, 0, (2))), (36, (.iadd, 1, 0, 0)), (37, (.iload_n 3, 1, 0, 0)), (38, (.invokevirtual 56, 3, 0, 0)), (41, (.aload_n 0, 1, 0, 0)), (42, (.aload_n 0, 1, 0, 0)), (43, (.getfield 20, 3, 0, 0)), (46, (.getfield 79, 3, 0, 0)), (49, (.iload_n 1, 1, 0, 0)), (50, (.iaload, 1, 0, 0)), (51, (.iload_n 2, 1, 0, 0)), (52, (.iconst (2), 1, 0, (2))), (53, (.iadd, 1, 0, 0)), (54, (.iload_n 3, 1, 0, 0)), (55, (.invokevirtual 56, 3, 0, 0)), (58, (.return_, 1, 0, 0))], [(20, 8, 3), (85, 1, 7), (76, 1, 5), (79, 1, 6)], [], [(72, 74, 1, 8), (82, 78, 1, 8), (56, 73, 3, 8)], 0)
/-- HouseDesk$Places.reachOut -/
def mt_77 : mm_M := ([(0, (.iconst (0), 1, 0, (0))), (1, (.istore_n 3, 1, 0, 0)), (2, (.iconst (0), 1, 0, (0))), (3, (.istore 4, 2, 0, 0)), (5, (.iload 4, 2, 0, 0)), (7, (.bipush (9), 2, 0, (9))), (9, (.if_icmp .ge (38), 3, 47, 0)), (12, (.aload_n 0, 1, 0, 0)), (13, (.getfield 24, 3, 0, 0)), (16, (.iload 4, 2, 0, 0)), (18, (.iload_n 2, 1, 0, 0)), (19, (.invokevirtual 88, 3, 0, 0)), (22, (.ifCond .eq (19), 3, 41, 0)), (25, (.iload_n 3, 1, 0, 0)), (26, (.aload_n 0, 1, 0, 0)), (27, (.getfield 11, 3, 0, 0)), (30, (.iload 4, 2, 0, 0)), (32, (.aaload, 1, 0, 0)), (33, (.iload_n 1, 1, 0, 0)), (34, (.iconst (2), 1, 0, (2))), (35, (.iadd, 1, 0, 0)), (36, (.iaload, 1, 0, 0)), (37, (.invokestatic 94, 3, 0, 0)), (40, (.istore_n 3, 1, 0, 0)), (41, (.iinc 4 (1), 3, 0, (1))), (44, (.goto (-39), 3, 5, 0)), (47, (.iconst (0), 1, 0, (0))), (48, (.istore 4, 2, 0, 0)), (50, (.iload 4, 2, 0, 0)), (52, (.bipush (9), 2, 0, (9))), (54, (.if_icmp .ge (32), 3, 86, 0)), (57, (.aload_n 0, 1, 0, 0)), (58, (.getfield 24, 3, 0, 0)), (61, (.iload 4, 2, 0, 0)), (63, (.iload_n 2, 1, 0, 0)), (64, (.invokevirtual 88, 3, 0, 0)), (67, (.ifCond .eq (13), 3, 80, 0)), (70, (.aload_n 0, 1, 0, 0)), (71, (.iload 4, 2, 0, 0)), (73, (.iload_n 1, 1, 0, 0)), (74, (.iconst (2), 1, 0, (2))), (75, (.iadd, 1, 0, 0)), (76, (.iload_n 3, 1, 0, 0)), (77, (.invokevirtual 56, 3, 0, 0)), (80, (.iinc 4 (1), 3, 0, (1))), (83, (.goto (-33), 3, 50, 0)), (86, (.aload_n 0, 1, 0, 0)), (87, (.getfield 16, 3, 0, 0)), (90, (.iload_n 1, 1, 0, 0)), (91, (.iload_n 3, 1, 0, 0)), (92, (.iastore, 1, 0, 0)), (93, (.return_, 1, 0, 0))], [(24, 8, 4), (11, 8, 0), (16, 8, 1)], [], [(88, 53, 2, 6), (94, 151, 2, 99), (56, 73, 3, 8)], 0)
/-- HouseDesk$Places.wallBegin -/
def mt_78 : mm_M := ([(0, (.iconst (1), 1, 0, (1))), (1, (.aload_n 0, 1, 0, 0)), (2, (.iload_n 1, 1, 0, 0)), (3, (.invokevirtual 72, 3, 0, 0)), (6, (.isub, 1, 0, 0)), (7, (.istore_n 2, 1, 0, 0)), (8, (.aload_n 0, 1, 0, 0)), (9, (.getfield 11, 3, 0, 0)), (12, (.aload_n 0, 1, 0, 0)), (13, (.getfield 20, 3, 0, 0)), (16, (.getfield 76, 3, 0, 0)), (19, (.iload_n 1, 1, 0, 0)), (20, (.iaload, 1, 0, 0)), (21, (.aaload, 1, 0, 0)), (22, (.iload_n 2, 1, 0, 0)), (23, (.iaload, 1, 0, 0)), (24, (.aload_n 0, 1, 0, 0)), (25, (.getfield 11, 3, 0, 0)), (28, (.aload_n 0, 1, 0, 0)), (29, (.getfield 20, 3, 0, 0)), (32, (.getfield 79, 3, 0, 0)), (35, (.iload_n 1, 1, 0, 0)), (36, (.iaload, 1, 0, 0)), (37, (.aaload, 1, 0, 0)), (38, (.iload_n 2, 1, 0, 0)), (39, (.iaload, 1, 0, 0)), (40, (.invokestatic 94, 3, 0, 0)), (43, (.ireturn, 1, 0, 0))], [(11, 8, 0), (20, 8, 3), (76, 1, 5), (79, 1, 6)], [], [(72, 74, 1, 8), (94, 151, 2, 99)], 1)
/-- HouseDesk$Places.wallEnd -/
def mt_79 : mm_M := ([(0, (.iconst (1), 1, 0, (1))), (1, (.aload_n 0, 1, 0, 0)), (2, (.iload_n 1, 1, 0, 0)), (3, (.invokevirtual 72, 3, 0, 0)), (6, (.isub, 1, 0, 0)), (7, (.iconst (2), 1, 0, (2))), (8, (.iadd, 1, 0, 0)), (9, (.istore_n 2, 1, 0, 0)), (10, (.aload_n 0, 1, 0, 0)), (11, (.getfield 11, 3, 0, 0)), (14, (.aload_n 0, 1, 0, 0)), (15, (.getfield 20, 3, 0, 0)), (18, (.getfield 76, 3, 0, 0)), (21, (.iload_n 1, 1, 0, 0)), (22, (.iaload, 1, 0, 0)), (23, (.aaload, 1, 0, 0)), (24, (.iload_n 2, 1, 0, 0)), (25, (.iaload, 1, 0, 0)), (26, (.aload_n 0, 1, 0, 0)), (27, (.getfield 11, 3, 0, 0)), (30, (.aload_n 0, 1, 0, 0)), (31, (.getfield 20, 3, 0, 0)), (34, (.getfield 79, 3, 0, 0)), (37, (.iload_n 1, 1, 0, 0)), (38, (.iaload, 1, 0, 0)), (39, (.aaload, 1, 0, 0)), (40, (.iload_n 2, 1, 0, 0)), (41, (.iaload, 1, 0, 0)), (42, (.invokestatic 100, 3, 0, 0)), (45, (.ireturn, 1, 0, 0))], [(11, 8, 0), (20, 8, 3), (76, 1, 5), (79, 1, 6)], [], [(72, 74, 1, 8), (100, 152, 2, 99)], 1)
/-- HouseDesk$Places.lengthAt -/
def mt_80 : mm_M := ([(0, (.iload_n 2, 1, 0, 0)), (1, (.iconst (1), 1, 0, (1))), (2, (.iand, 1, 0, 0)), (3, (.istore_n 3, 1, 0, 0)), (4, (.aload_n 0, 1, 0, 0)), (5, (.getfield 11, 3, 0, 0)), (8, (.iload_n 1, 1, 0, 0)), (9, (.aaload, 1, 0, 0)), (10, (.iload_n 3, 1, 0, 0)), (11, (.iconst (2), 1, 0, (2))), (12, (.iadd, 1, 0, 0)), (13, (.iaload, 1, 0, 0)), (14, (.aload_n 0, 1, 0, 0)), (15, (.getfield 11, 3, 0, 0)), (18, (.iload_n 1, 1, 0, 0)), (19, (.aaload, 1, 0, 0)), (20, (.iload_n 3, 1, 0, 0)), (21, (.iaload, 1, 0, 0)), (22, (.isub, 1, 0, 0)), (23, (.ireturn, 1, 0, 0))], [(11, 8, 0)], [], [], 1)
/-- HouseDesk$Way.find -/
def mt_81 : mm_M := ([(0, (.aload_n 0, 1, 0, 0)), (1, (.iload_n 2, 1, 0, 0)), (2, (.invokevirtual 22, 3, 0, 0)), (5, (.aload_n 0, 1, 0, 0)), (6, (.aload_n 0, 1, 0, 0)), (7, (.getfield 15, 3, 0, 0)), (10, (.iload_n 1, 1, 0, 0)), (11, (.iaload, 1, 0, 0)), (12, (.putfield 26, 3, 0, 0)), (15, (.iload_n 1, 1, 0, 0)), (16, (.istore_n 3, 1, 0, 0)), (17, (.iconst (0), 1, 0, (0))), (18, (.istore 4, 2, 0, 0)), (20, (.iload 4, 2, 0, 0)), (22, (.aload_n 0, 1, 0, 0)), (23, (.getfield 26, 3, 0, 0)), (26, (.if_icmp .ge (23), 3, 49, 0)), (29, (.aload_n 0, 1, 0, 0)), (30, (.getfield 9, 3, 0, 0)), (33, (.iload 4, 2, 0, 0)), (35, (.iload_n 3, 1, 0, 0)), (36, (.iastore, 1, 0, 0)), (37, (.aload_n 0, 1, 0, 0)), (38, (.iload_n 3, 1, 0, 0)), (39, (.invokevirtual 30, 3, 0, 0)), (42, (.istore_n 3, 1, 0, 0)), (43, (.iinc 4 (1), 3, 0, (1))), (46, (.goto (-26), 3, 20, 0)), (49, (.aload_n 0, 1, 0, 0)), (50, (.getfield 26, 3, 0, 0)), (53, (.ireturn, 1, 0, 0))], [(15, 9, 2), (26, 9, 1), (9, 9, 0)], [(26, 9, 1)], [(22, 82, 1, 9), (30, 84, 1, 9)], 1)
/-- HouseDesk$Way.measure -/
def mt_82 : mm_M := ([(0, (.iconst (0), 1, 0, (0))), (1, (.istore_n 2, 1, 0, 0)), (2, (.iload_n 2, 1, 0, 0)), (3, (.bipush (9), 2, 0, (9))), (5, (.if_icmp .ge (16), 3, 21, 0)), (8, (.aload_n 0, 1, 0, 0)), (9, (.getfield 15, 3, 0, 0)), (12, (.iload_n 2, 1, 0, 0)), (13, (.iconst (0), 1, 0, (0))), (14, (.iastore, 1, 0, 0)), (15, (.iinc 2 (1), 3, 0, (1))), (18, (.goto (-16), 3, 2, 0)), (21, (.aload_n 0, 1, 0, 0)), (22, (.getfield 15, 3, 0, 0)), (25, (.iload_n 1, 1, 0, 0)), (26, (.iconst (1), 1, 0, (1))), (27, (.iastore, 1, 0, 0)), (28, (.iconst (1), 1, 0, (1))), (29, (.istore_n 2, 1, 0, 0)), (30, (.iload_n 2, 1, 0, 0)), (31, (.bipush (9), 2, 0, (9))), (33, (.if_icmp .ge (38), 3, 71, 0)), (36, (.iconst (0), 1, 0, (0))), (37, (.istore_n 3, 1, 0, 0)), (38, (.iload_n 3, 1, 0, 0)), (39, (.bipush (9), 2, 0, (9))), (41, (.if_icmp .ge (24), 3, 65, 0)), (44, (.aload_n 0, 1, 0, 0)), (45, (.getfield 15, 3, 0, 0)), (48, (.iload_n 3, 1, 0, 0)), (49, (.iaload, 1, 0, 0)), (50, (.iload_n 2, 1, 0, 0)), (51, (.if_icmp .ne (8), 3, 59, 0)), (54, (.aload_n 0, 1, 0, 0)), (55, (.iload_n 3, 1, 0, 0)), (56, (.invokevirtual 34, 3, 0, 0)), (59, (.iinc 3 (1), 3, 0, (1))), (62, (.goto (-24), 3, 38, 0)), (65, (.iinc 2 (1), 3, 0, (1))), (68, (.goto (-38), 3, 30, 0)), (71, (.return_, 1, 0, 0))], [(15, 9, 2)], [], [(34, 83, 1, 9)], 0)
/-- HouseDesk$Way.measureAround -/
def mt_83 : mm_M := ([(0, (.iconst (0), 1, 0, (0))), (1, (.istore_n 2, 1, 0, 0)), (2, (.iload_n 2, 1, 0, 0)), (3, (.bipush (9), 2, 0, (9))), (5, (.if_icmp .ge (44), 3, 49, 0)), (8, (.aload_n 0, 1, 0, 0)), (9, (.getfield 18, 3, 0, 0)), (12, (.iload_n 1, 1, 0, 0)), (13, (.iload_n 2, 1, 0, 0)), (14, (.invokevirtual 37, 3, 0, 0)), (17, (.ifCond .eq (26), 3, 43, 0)), (20, (.aload_n 0, 1, 0, 0)), (21, (.getfield 15, 3, 0, 0)), (24, (.iload_n 2, 1, 0, 0)), (25, (.iaload, 1, 0, 0)), (26, (.ifCond .ne (17), 3, 43, 0)), (29, (.aload_n 0, 1, 0, 0)), (30, (.getfield 15, 3, 0, 0)), (33, (.iload_n 2, 1, 0, 0)), (34, (.aload_n 0, 1, 0, 0)), (35, (.getfield 15, 3, 0, 0)), (38, (.iload_n 1, 1, 0, 0)), (39, (.iaload, 1, 0, 0)), (40, (.iconst (1), 1, 0, (1))), (41, (.iadd, 1, 0, 0)), (42, (.iastore, 1, 0, 0)), (43, (.iinc 2 (1), 3, 0, (1))), (46, (.goto (-44), 3, 2, 0)), (49, (.return_, 1, 0, 0))], [(18, 9, 3), (15, 9, 2)], [], [(37, 10, 2, 1)], 0)
/-- HouseDesk$Way.leastStep -/
def mt_84 : mm_M := ([(0, (.iconst (0), 1, 0, (0))), (1, (.istore_n 2, 1, 0, 0)), (2, (.iload_n 2, 1, 0, 0)), (3, (.bipush (9), 2, 0, (9))), (5, (.if_icmp .ge (40), 3, 45, 0)), (8, (.aload_n 0, 1, 0, 0)), (9, (.getfield 18, 3, 0, 0)), (12, (.iload_n 1, 1, 0, 0)), (13, (.iload_n 2, 1, 0, 0)), (14, (.invokevirtual 37, 3, 0, 0)), (17, (.ifCond .eq (22), 3, 39, 0)), (20, (.aload_n 0, 1, 0, 0)), (21, (.getfield 15, 3, 0, 0)), (24, (.iload_n 2, 1, 0, 0)), (25, (.iaload, 1, 0, 0)), (26, (.aload_n 0, 1, 0, 0)), (27, (.getfield 15, 3, 0, 0)), (30, (.iload_n 1, 1, 0, 0)), (31, (.iaload, 1, 0, 0)), (32, (.iconst (1), 1, 0, (1))), (33, (.isub, 1, 0, 0)), (34, (.if_icmp .ne (5), 3, 39, 0)), (37, (.iload_n 2, 1, 0, 0)), (38, (.ireturn, 1, 0, 0)), (39, (.iinc 2 (1), 3, 0, (1))), (42, (.goto (-40), 3, 2, 0)), (45, (.iload_n 1, 1, 0, 0)), (46, (.ireturn, 1, 0, 0))], [(18, 9, 3), (15, 9, 2)], [], [(37, 10, 2, 1)], 1)
/-- HouseDesk$Way.at -/
def mt_85 : mm_M := ([(0, (.iload_n 1, 1, 0, 0)), (1, (.ifCond .lt (20), 3, 21, 0)), (4, (.iload_n 1, 1, 0, 0)), (5, (.aload_n 0, 1, 0, 0)), (6, (.getfield 26, 3, 0, 0)), (9, (.if_icmp .ge (12), 3, 21, 0)), (12, (.aload_n 0, 1, 0, 0)), (13, (.getfield 9, 3, 0, 0)), (16, (.iload_n 1, 1, 0, 0)), (17, (.iaload, 1, 0, 0)), (18, (.goto (4), 3, 22, 0)), (21, (.iconst (-1), 1, 0, (-1))), (22, (.ireturn, 1, 0, 0))], [(26, 9, 1), (9, 9, 0)], [], [], 1)
/-- HouseDeskModel.thrown -/
def mt_86 : mm_M := ([(0, (.aload_n 0, 1, 0, 0)), (1, (.getfield 111, 3, 0, 0)), (4, (.ireturn, 1, 0, 0))], [(111, 10, 0)], [], [], 1)
/-- HouseDeskModel.in -/
def mt_87 : mm_M := ([(0, (.iload_n 0, 1, 0, 0)), (1, (.iload_n 1, 1, 0, 0)), (2, (.if_icmp .lt (12), 3, 14, 0)), (5, (.iload_n 0, 1, 0, 0)), (6, (.iload_n 2, 1, 0, 0)), (7, (.if_icmp .gt (7), 3, 14, 0)), (10, (.iconst (1), 1, 0, (1))), (11, (.goto (4), 3, 15, 0)), (14, (.iconst (0), 1, 0, (0))), (15, (.ireturn, 1, 0, 0))], [], [], [], 2)
/-- HouseDeskModel.isRoom -/
def mt_88 : mm_M := ([(0, (.iload_n 1, 1, 0, 0)), (1, (.iconst (0), 1, 0, (0))), (2, (.bipush (8), 2, 0, (8))), (4, (.invokestatic 114, 3, 0, 0)), (7, (.ifCond .eq (30), 3, 37, 0)), (10, (.aload_n 0, 1, 0, 0)), (11, (.getfield 7, 3, 0, 0)), (14, (.iload_n 1, 1, 0, 0)), (15, (.iconst (0), 1, 0, (0))), (16, (.bipush (8), 2, 0, (8))), (18, (.invokestatic 114, 3, 0, 0)), (21, (.ifCond .eq (7), 3, 28, 0)), (24, (.iload_n 1, 1, 0, 0)), (25, (.goto (4), 3, 29, 0)), (28, (.iconst (0), 1, 0, (0))), (29, (.baload, 1, 0, 0)), (30, (.ifCond .eq (7), 3, 37, 0)), (33, (.iconst (1), 1, 0, (1))), (34, (.goto (4), 3, 38, 0)), (37, (.iconst (0), 1, 0, (0))), (38, (.ireturn, 1, 0, 0))], [(7, 10, 1)], [], [(114, 87, 3, 99)], 2)
/-- HouseDeskModel.room -/
def mt_89 : mm_M := ([(0, (.iload_n 1, 1, 0, 0)), (1, (.iconst (0), 1, 0, (0))), (2, (.bipush (8), 2, 0, (8))), (4, (.invokestatic 114, 3, 0, 0)), (7, (.ifCond .eq (27), 3, 34, 0)), (10, (.iload_n 2, 1, 0, 0)), (11, (.iconst (0), 1, 0, (0))), (12, (.bipush (31), 2, 0, (31))), (14, (.invokestatic 114, 3, 0, 0)), (17, (.ifCond .eq (17), 3, 34, 0)), (20, (.iload_n 3, 1, 0, 0)), (21, (.iconst (0), 1, 0, (0))), (22, (.bipush (31), 2, 0, (31))), (24, (.invokestatic 114, 3, 0, 0)), (27, (.ifCond .eq (7), 3, 34, 0)), (30, (.iconst (1), 1, 0, (1))), (31, (.goto (4), 3, 35, 0)), (34, (.iconst (0), 1, 0, (0))), (35, (.istore 4, 2, 0, 0)), (37, (.iconst (0), 1, 0, (0))), (38, (.istore 5, 2, 0, 0)), (40, (.iconst (0), 1, 0, (0))), (41, (.istore 6, 2, 0, 0)), (43, (.iload 6, 2, 0, 0)), (45, (.bipush (9), 2, 0, (9))), (47, (.if_icmp .ge (59), 3, 106, 0)), (50, (.iload 5, 2, 0, 0)), (52, (.ifCond .ne (41), 3, 93, 0)), (55, (.aload_n 0, 1, 0, 0)), (56, (.getfield 7, 3, 0, 0)), (59, (.iload 6, 2, 0, 0)), (61, (.baload, 1, 0, 0)), (62, (.ifCond .eq (35), 3, 97, 0)), (65, (.iload 6, 2, 0, 0)), (67, (.iload_n 1, 1, 0, 0)), (68, (.if_icmp .eq (25), 3, 93, 0)), (71, (.aload_n 0, 1, 0, 0)), (72, (.getfield 13, 3, 0, 0)), (75, (.iload 6, 2, 0, 0)), (77, (.iaload, 1, 0, 0)), (78, (.iload_n 2, 1, 0, 0)), (79, (.if_icmp .ne (18), 3, 97, 0)), (82, (.aload_n 0, 1, 0, 0)), (83, (.getfield 17, 3, 0, 0)), (86, (.iload 6, 2, 0, 0)), (88, (.iaload, 1, 0, 0)), (89, (.iload_n 3, 1, 0, 0)), (90, (.if_icmp .ne (7), 3, 97, 0)), (93, (.iconst (1), 1, 0, (1))), (94, (.goto (4), 3, 98, 0)), (97, (.iconst (0), 1, 0, (0))), (98, (.istore 5, 2, 0, 0)), (100, (.iinc 6 (1), 3, 0, (1))), (103, (.goto (-60), 3, 43, 0)), (106, (.aload_n 0, 1, 0, 0)), (107, (.iload 4, 2, 0, 0)), (109, (.ifCond .ne (7), 3, 116, 0)), (112, (.iconst (1), 1, 0, (1))), (113, (.goto (13), 3, 126, 0)), (116, (.iload 5, 2, 0, 0)), (118, (.ifCond .eq (7), 3, 125, 0)), (121, (.iconst (2), 1, 0, (2))), (122, (.goto (4), 3, 126, 0)), (125, (.iconst (0), 1, 0, (0))), (126, (.putfield 111, 3, 0, 0)), (129, (.aload_n 0, 1, 0, 0)), (130, (.getfield 111, 3, 0, 0)), (133, (.ifCond .le (4), 3, 137, 0)), (136, (.return_, 1, 0, 0)), (137, (.aload_n 0, 1, 0, 0)), (138, (.getfield 7, 3, 0, 0)), (141, (.iload_n 1, 1, 0, 0)), (142, (.iconst (1), 1, 0, (1))), (143, (.bastore, 1, 0, 0)), (144, (.aload_n 0, 1, 0, 0)), (145, (.getfield 13, 3, 0, 0)), (148, (.iload_n 1, 1, 0, 0)), (149, (.iload_n 2, 1, 0, 0)), (150, (.iastore, 1, 0, 0)), (151, (.aload_n 0, 1, 0, 0)), (152, (.getfield 17, 3, 0, 0)), (155, (.iload_n 1, 1, 0, 0)), (156, (.iload_n 3, 1, 0, 0)), (157, (.iastore, 1, 0, 0)), (158, (.aload_n 0, 1, 0, 0)), (159, (.iconst (0), 1, 0, (0))), (160, (.putfield 118, 3, 0, 0)), (163, (.return_, 1, 0, 0))], [(7, 10, 1), (13, 10, 2), (17, 10, 3), (111, 10, 0)], [(111, 10, 0), (118, 10, 12)], [(114, 87, 3, 99)], 0)
/-- HouseDeskModel.joinOf -/
def mt_90 : mm_M := ([(0, (.iconst (0), 1, 0, (0))), (1, (.istore_n 3, 1, 0, 0)), (2, (.iload_n 3, 1, 0, 0)), (3, (.aload_n 0, 1, 0, 0)), (4, (.getfield 122, 3, 0, 0)), (7, (.if_icmp .ge (51), 3, 58, 0)), (10, (.aload_n 0, 1, 0, 0)), (11, (.getfield 26, 3, 0, 0)), (14, (.iload_n 3, 1, 0, 0)), (15, (.iaload, 1, 0, 0)), (16, (.iload_n 1, 1, 0, 0)), (17, (.if_icmp .ne (13), 3, 30, 0)), (20, (.aload_n 0, 1, 0, 0)), (21, (.getfield 29, 3, 0, 0)), (24, (.iload_n 3, 1, 0, 0)), (25, (.iaload, 1, 0, 0)), (26, (.iload_n 2, 1, 0, 0)), (27, (.if_icmp .eq (23), 3, 50, 0)), (30, (.aload_n 0, 1, 0, 0)), (31, (.getfield 26, 3, 0, 0)), (34, (.iload_n 3, 1, 0, 0)), (35, (.iaload, 1, 0, 0)), (36, (.iload_n 2, 1, 0, 0)), (37, (.if_icmp .ne (15), 3, 52, 0)), (40, (.aload_n 0, 1, 0, 0)), (41, (.getfield 29, 3, 0, 0)), (44, (.iload_n 3, 1, 0, 0)), (45, (.iaload, 1, 0, 0)), (46, (.iload_n 1, 1, 0, 0)), (47, (.if_icmp .ne (5), 3, 52, 0)), (50, (.iload_n 3, 1, 0, 0)), (51, (.ireturn, 1, 0, 0)), (52, (.iinc 3 (1), 3, 0, (1))), (55, (.goto (-53), 3, 2, 0)), (58, (.iconst (-1), 1, 0, (-1))), (59, (.ireturn, 1, 0, 0))], [(122, 10, 6), (26, 10, 7), (29, 10, 8)], [], [], 1)
/-- HouseDeskModel.join -/
def mt_91 : mm_M := ([(0, (.aload_n 0, 1, 0, 0)), (1, (.iload_n 1, 1, 0, 0)), (2, (.iload_n 2, 1, 0, 0)), (3, (.if_icmp .eq (19), 3, 22, 0)), (6, (.aload_n 0, 1, 0, 0)), (7, (.iload_n 1, 1, 0, 0)), (8, (.invokevirtual 125, 3, 0, 0)), (11, (.ifCond .eq (11), 3, 22, 0)), (14, (.aload_n 0, 1, 0, 0)), (15, (.iload_n 2, 1, 0, 0)), (16, (.invokevirtual 125, 3, 0, 0)), (19, (.ifCond .ne (7), 3, 26, 0)), (22, (.iconst (1), 1, 0, (1))), (23, (.goto (27), 3, 50, 0)), (26, (.aload_n 0, 1, 0, 0)), (27, (.iload_n 1, 1, 0, 0)), (28, (.iload_n 2, 1, 0, 0)), (29, (.invokevirtual 129, 3, 0, 0)), (32, (.iconst (-1), 1, 0, (-1))), (33, (.if_icmp .ne (12), 3, 45, 0)), (36, (.aload_n 0, 1, 0, 0)), (37, (.getfield 122, 3, 0, 0)), (40, (.bipush (21), 2, 0, (21))), (42, (.if_icmp .ne (7), 3, 49, 0)), (45, (.iconst (2), 1, 0, (2))), (46, (.goto (4), 3, 50, 0)), (49, (.iconst (0), 1, 0, (0))), (50, (.putfield 111, 3, 0, 0)), (53, (.aload_n 0, 1, 0, 0)), (54, (.getfield 111, 3, 0, 0)), (57, (.ifCond .le (5), 3, 62, 0)), (60, (.iconst (0), 1, 0, (0))), (61, (.ireturn, 1, 0, 0)), (62, (.aload_n 0, 1, 0, 0)), (63, (.getfield 26, 3, 0, 0)), (66, (.aload_n 0, 1, 0, 0)), (67, (.getfield 122, 3, 0, 0)), (70, (.iload_n 1, 1, 0, 0)), (71, (.iastore, 1, 0, 0)), (72, (.aload_n 0, 1, 0, 0)), (73, (.getfield 29, 3, 0, 0)), (76, (.aload_n 0, 1, 0, 0)), (77, (.getfield 122, 3, 0, 0)), (80, (.iload_n 2, 1, 0, 0)), (81, (.iastore, 1, 0, 0)), (82, (.aload_n 0, 1, 0, 0)), (83, (.getfield 32, 3, 0, 0)), (86, (.aload_n 0, 1, 0, 0)), (87, (.getfield 122, 3, 0, 0)), (90, (.iconst (1), 1, 0, (1))), (91, (.iastore, 1, 0, 0)), (92, (.aload_n 0, 1, 0, 0)), (93, (.dup, 1, 0, 0)), (94, (.getfield 122, 3, 0, 0)), (97, (.iconst (1), 1, 0, (1))), (98, (.iadd, 1, 0, 0)), (99, (.putfield 122, 3, 0, 0)), (102, (.aload_n 0, 1, 0, 0)), (103, (.iconst (0), 1, 0, (0))), (104, (.putfield 118, 3, 0, 0)), (107, (.aload_n 0, 1, 0, 0)), (108, (.getfield 122, 3, 0, 0)), (111, (.iconst (1), 1, 0, (1))), (112, (.isub, 1, 0, 0)), (113, (.ireturn, 1, 0, 0))], [(122, 10, 6), (111, 10, 0), (26, 10, 7), (29, 10, 8), (32, 10, 9)], [(111, 10, 0), (122, 10, 6), (118, 10, 12)], [(125, 88, 1, 10), (129, 90, 2, 10)], 1)
/-- HouseDeskModel.corners -/
def mt_92 : mm_M := ([(0, (.aload_n 0, 1, 0, 0)), (1, (.aload_n 0, 1, 0, 0)), (2, (.iload_n 1, 1, 0, 0)), (3, (.invokevirtual 125, 3, 0, 0)), (6, (.ifCond .eq (32), 3, 38, 0)), (9, (.aload_n 0, 1, 0, 0)), (10, (.iload_n 2, 1, 0, 0)), (11, (.invokevirtual 125, 3, 0, 0)), (14, (.ifCond .eq (24), 3, 38, 0)), (17, (.aload_n 0, 1, 0, 0)), (18, (.iload_n 3, 1, 0, 0)), (19, (.invokevirtual 125, 3, 0, 0)), (22, (.ifCond .eq (16), 3, 38, 0)), (25, (.aload_n 0, 1, 0, 0)), (26, (.iload 4, 2, 0, 0)), (28, (.invokevirtual 125, 3, 0, 0)), (31, (.ifCond .eq (7), 3, 38, 0)), (34, (.iconst (0), 1, 0, (0))), (35, (.goto (4), 3, 39, 0)), (38, (.iconst (1), 1, 0, (1))), (39, (.putfield 111, 3, 0, 0)), (42, (.aload_n 0, 1, 0, 0)), (43, (.getfield 111, 3, 0, 0)), (46, (.ifCond .le (4), 3, 50, 0)), (49, (.return_, 1, 0, 0)), (50, (.aload_n 0, 1, 0, 0)), (51, (.getfield 35, 3, 0, 0)), (54, (.iconst (0), 1, 0, (0))), (55, (.iload_n 1, 1, 0, 0)), (56, (.iastore, 1, 0, 0)), (57, (.aload_n 0, 1, 0, 0)), (58, (.getfield 35, 3, 0, 0)), (61, (.iconst (1), 1, 0, (1))), (62, (.iload_n 2, 1, 0, 0)), (63, (.iastore, 1, 0, 0)), (64, (.aload_n 0, 1, 0, 0)), (65, (.getfield 35, 3, 0, 0)), (68, (.iconst (2), 1, 0, (2))), (69, (.iload_n 3, 1, 0, 0)), (70, (.iastore, 1, 0, 0)), (71, (.aload_n 0, 1, 0, 0)), (72, (.getfield 35, 3, 0, 0)), (75, (.iconst (3), 1, 0, (3))), (76, (.iload 4, 2, 0, 0)), (78, (.iastore, 1, 0, 0)), (79, (.aload_n 0, 1, 0, 0)), (80, (.iconst (1), 1, 0, (1))), (81, (.putfield 133, 3, 0, 0)), (84, (.aload_n 0, 1, 0, 0)), (85, (.iconst (0), 1, 0, (0))), (86, (.putfield 118, 3, 0, 0)), (89, (.return_, 1, 0, 0))], [(111, 10, 0), (35, 10, 11)], [(111, 10, 0), (133, 10, 10), (118, 10, 12)], [(125, 88, 1, 10)], 0)
/-- HouseDeskModel.least -/
def mt_93 : mm_M := ([(0, (.aload_n 0, 1, 0, 0)), (1, (.aload_n 0, 1, 0, 0)), (2, (.iload_n 1, 1, 0, 0)), (3, (.invokevirtual 125, 3, 0, 0)), (6, (.ifCond .eq (27), 3, 33, 0)), (9, (.iload_n 2, 1, 0, 0)), (10, (.iconst (1), 1, 0, (1))), (11, (.bipush (50), 2, 0, (50))), (13, (.invokestatic 114, 3, 0, 0)), (16, (.ifCond .eq (17), 3, 33, 0)), (19, (.iload_n 3, 1, 0, 0)), (20, (.iconst (1), 1, 0, (1))), (21, (.bipush (50), 2, 0, (50))), (23, (.invokestatic 114, 3, 0, 0)), (26, (.ifCond .eq (7), 3, 33, 0)), (29, (.iconst (0), 1, 0, (0))), (30, (.goto (4), 3, 34, 0)), (33, (.iconst (1), 1, 0, (1))), (34, (.putfield 111, 3, 0, 0)), (37, (.aload_n 0, 1, 0, 0)), (38, (.getfield 111, 3, 0, 0)), (41, (.ifCond .le (4), 3, 45, 0)), (44, (.return_, 1, 0, 0)), (45, (.aload_n 0, 1, 0, 0)), (46, (.getfield 20, 3, 0, 0)), (49, (.iload_n 1, 1, 0, 0)), (50, (.iload_n 2, 1, 0, 0)), (51, (.iastore, 1, 0, 0)), (52, (.aload_n 0, 1, 0, 0)), (53, (.getfield 23, 3, 0, 0)), (56, (.iload_n 1, 1, 0, 0)), (57, (.iload_n 3, 1, 0, 0)), (58, (.iastore, 1, 0, 0)), (59, (.aload_n 0, 1, 0, 0)), (60, (.iconst (0), 1, 0, (0))), (61, (.putfield 118, 3, 0, 0)), (64, (.return_, 1, 0, 0))], [(111, 10, 0), (20, 10, 4), (23, 10, 5)], [(111, 10, 0), (118, 10, 12)], [(125, 88, 1, 10), (114, 87, 3, 99)], 0)
/-- HouseDeskModel.wall -/
def mt_94 : mm_M := ([(0, (.aload_n 0, 1, 0, 0)), (1, (.iload_n 1, 1, 0, 0)), (2, (.iconst (0), 1, 0, (0))), (3, (.aload_n 0, 1, 0, 0)), (4, (.getfield 122, 3, 0, 0)), (7, (.iconst (1), 1, 0, (1))), (8, (.isub, 1, 0, 0)), (9, (.invokestatic 114, 3, 0, 0)), (12, (.ifCond .eq (17), 3, 29, 0)), (15, (.iload_n 2, 1, 0, 0)), (16, (.iconst (1), 1, 0, (1))), (17, (.bipush (20), 2, 0, (20))), (19, (.invokestatic 114, 3, 0, 0)), (22, (.ifCond .eq (7), 3, 29, 0)), (25, (.iconst (0), 1, 0, (0))), (26, (.goto (4), 3, 30, 0)), (29, (.iconst (1), 1, 0, (1))), (30, (.putfield 111, 3, 0, 0)), (33, (.aload_n 0, 1, 0, 0)), (34, (.getfield 111, 3, 0, 0)), (37, (.ifCond .le (4), 3, 41, 0)), (40, (.return_, 1, 0, 0)), (41, (.aload_n 0, 1, 0, 0)), (42, (.getfield 32, 3, 0, 0)), (45, (.iload_n 1, 1, 0, 0)), (46, (.iload_n 2, 1, 0, 0)), (47, (.iastore, 1, 0, 0)), (48, (.aload_n 0, 1, 0, 0)), (49, (.iconst (0), 1, 0, (0))), (50, (.putfield 118, 3, 0, 0)), (53, (.return_, 1, 0, 0))], [(122, 10, 6), (111, 10, 0), (32, 10, 9)], [(111, 10, 0), (118, 10, 12)], [(114, 87, 3, 99)], 0)
/-- HouseDeskModel.clear -/
def mt_95 : mm_M := ([(0, (.aload_n 0, 1, 0, 0)), (1, (.iconst (0), 1, 0, (0))), (2, (.putfield 111, 3, 0, 0)), (5, (.iconst (0), 1, 0, (0))), (6, (.istore_n 1, 1, 0, 0)), (7, (.iload_n 1, 1, 0, 0)), (8, (.bipush (9), 2, 0, (9))), (10, (.if_icmp .ge (30), 3, 40, 0)), (13, (.aload_n 0, 1, 0, 0)), (14, (.getfield 7, 3, 0, 0)), (17, (.iload_n 1, 1, 0, 0)), (18, (.iconst (0), 1, 0, (0))), (19, (.bastore, 1, 0, 0)), (20, (.aload_n 0, 1, 0, 0)), (21, (.getfield 20, 3, 0, 0)), (24, (.iload_n 1, 1, 0, 0)), (25, (.iconst (1), 1, 0, (1))), (26, (.iastore, 1, 0, 0)), (27, (.aload_n 0, 1, 0, 0)), (28, (.getfield 23, 3, 0, 0)), (31, (.iload_n 1, 1, 0, 0)), (32, (.iconst (1), 1, 0, (1))), (33, (.iastore, 1, 0, 0)), (34, (.iinc 1 (1), 3, 0, (1))), (37, (.goto (-30), 3, 7, 0)), (40, (.aload_n 0, 1, 0, 0)), (41, (.iconst (0), 1, 0, (0))), (42, (.putfield 122, 3, 0, 0)), (45, (.aload_n 0, 1, 0, 0)), (46, (.iconst (0), 1, 0, (0))), (47, (.putfield 133, 3, 0, 0)), (50, (.aload_n 0, 1, 0, 0)), (51, (.iconst (0), 1, 0, (0))), (52, (.putfield 118, 3, 0, 0)), (55, (.return_, 1, 0, 0))], [(7, 10, 1), (20, 10, 4), (23, 10, 5)], [(111, 10, 0), (122, 10, 6), (133, 10, 10), (118, 10, 12)], [], 0)
/-- HouseDeskModel.turn -/
def mt_96 : mm_M := ([(0, (.iload_n 2, 1, 0, 0)), (1, (.iload_n 0, 1, 0, 0)), (2, (.isub, 1, 0, 0)), (3, (.iload 5, 2, 0, 0)), (5, (.iload_n 1, 1, 0, 0)), (6, (.isub, 1, 0, 0)), (7, (.imul, 1, 0, 0)), (8, (.iload_n 3, 1, 0, 0)), (9, (.iload_n 1, 1, 0, 0)), (10, (.isub, 1, 0, 0)), (11, (.iload 4, 2, 0, 0)), (13, (.iload_n 0, 1, 0, 0)), (14, (.isub, 1, 0, 0)), (15, (.imul, 1, 0, 0)), (16, (.isub, 1, 0, 0)), (17, (.istore 6, 2, 0, 0)), (19, (.iload 6, 2, 0, 0)), (21, (.ifCond .le (7), 3, 28, 0)), (24, (.iconst (1), 1, 0, (1))), (25, (.goto (13), 3, 38, 0)), (28, (.iload 6, 2, 0, 0)), (30, (.ifCond .ge (7), 3, 37, 0)), (33, (.iconst (-1), 1, 0, (-1))), (34, (.goto (4), 3, 38, 0)), (37, (.iconst (0), 1, 0, (0))), (38, (.ireturn, 1, 0, 0))], [], [], [], 1)
/-- HouseDeskModel.isOn -/
def mt_97 : mm_M := ([(0, (.aload_n 0, 1, 0, 0)), (1, (.getfield 26, 3, 0, 0)), (4, (.iload_n 2, 1, 0, 0)), (5, (.iaload, 1, 0, 0)), (6, (.istore_n 3, 1, 0, 0)), (7, (.aload_n 0, 1, 0, 0)), (8, (.getfield 29, 3, 0, 0)), (11, (.iload_n 2, 1, 0, 0)), (12, (.iaload, 1, 0, 0)), (13, (.istore 4, 2, 0, 0)), (15, (.iload_n 1, 1, 0, 0)), (16, (.iload_n 3, 1, 0, 0)), (17, (.if_icmp .eq (53), 3, 70, 0)), (20, (.iload_n 1, 1, 0, 0)), (21, (.iload 4, 2, 0, 0)), (23, (.if_icmp .eq (47), 3, 70, 0)), (26, (.aload_n 0, 1, 0, 0)), (27, (.getfield 13, 3, 0, 0)), (30, (.iload_n 3, 1, 0, 0)), (31, (.iaload, 1, 0, 0)), (32, (.aload_n 0, 1, 0, 0)), (33, (.getfield 17, 3, 0, 0)), (36, (.iload_n 3, 1, 0, 0)), (37, (.iaload, 1, 0, 0)), (38, (.aload_n 0, 1, 0, 0)), (39, (.getfield 13, 3, 0, 0)), (42, (.iload 4, 2, 0, 0)), (44, (.iaload, 1, 0, 0)), (45, (.aload_n 0, 1, 0, 0)), (46, (.getfield 17, 3, 0, 0)), (49, (.iload 4, 2, 0, 0)), (51, (.iaload, 1, 0, 0)), (52, (.aload_n 0, 1, 0, 0)), (53, (.getfield 13, 3, 0, 0)), (56, (.iload_n 1, 1, 0, 0)), (57, (.iaload, 1, 0, 0)), (58, (.aload_n 0, 1, 0, 0)), (59, (.getfield 17, 3, 0, 0)), (62, (.iload_n 1, 1, 0, 0)), (63, (.iaload, 1, 0, 0)), (64, (.invokestatic 136, 3, 0, 0)), (67, (.ifCond .eq (5), 3, 72, 0)), (70, (.iconst (0), 1, 0, (0))), (71, (.ireturn, 1, 0, 0)), (72, (.aload_n 0, 1, 0, 0)), (73, (.getfield 13, 3, 0, 0)), (76, (.iload_n 3, 1, 0, 0)), (77, (.iaload, 1, 0, 0)), (78, (.aload_n 0, 1, 0, 0)), (79, (.getfield 13, 3, 0, 0)), (82, (.iload 4, 2, 0, 0)), (84, (.iaload, 1, 0, 0)), (85, (.if_icmp .ge (12), 3, 97, 0)), (88, (.aload_n 0, 1, 0, 0)), (89, (.getfield 13, 3, 0, 0)), (92, (.iload_n 3, 1, 0, 0)), (93, (.iaload, 1, 0, 0)), (94, (.goto (10), 3, 104, 0)), (97, (.aload_n 0, 1, 0, 0)), (98, (.getfield 13, 3, 0, 0)), (101, (.iload 4, 2, 0, 0)), (103, (.iaload, 1, 0, 0)), (104, (.istore 5, 2, 0, 0)), (106, (.aload_n 0, 1, 0, 0)), (107, (.getfield 13, 3, 0, 0)), (110, (.iload_n 3, 1, 0, 0)), (111, (.iaload, 1, 0, 0)), (112, (.aload_n 0, 1, 0, 0)), (113, (.getfield 13, 3, 0, 0)), (116, (.iload 4, 2, 0, 0)), (118, (.iaload, 1, 0, 0)), (119, (.iadd, 1, 0, 0)), (120, (.iload 5, 2, 0, 0)), (122, (.isub, 1, 0, 0)), (123, (.istore 6, 2, 0, 0)), (125, (.aload_n 0, 1, 0, 0)), (126, (.getfield 17, 3, 0, 0)), (129, (.iload_n 3, 1, 0, 0)), (130, (.iaload, 1, 0, 0)), (131, (.aload_n 0, 1, 0, 0)), (132, (.getfield 17, 3, 0, 0)), (135, (.iload 4, 2, 0, 0)), (137, (.iaload, 1, 0, 0)), (138, (.if_icmp .ge (12), 3, 150, 0)), (141, (.aload_n 0, 1, 0, 0)), (142, (.getfield 17, 3, 0, 0)), (145, (.iload_n 3, 1, 0, 0)), (146, (.iaload, 1, 0, 0)), (147, (.goto (10), 3, 157, 0)), (150, (.aload_n 0, 1, 0, 0)), (151, (.getfield 17, 3, 0, 0)), (154, (.iload 4, 2, 0, 0)), (156, (.iaload, 1, 0, 0)), (157, (.istore 7, 2, 0, 0)), (159, (.aload_n 0, 1, 0, 0)), (160, (.getfield 17, 3, 0, 0)), (163, (.iload_n 3, 1, 0, 0)), (164, (.iaload, 1, 0, 0)), (165, (.aload_n 0, 1, 0, 0)), (166, (.getfield 17, 3, 0, 0)), (169, (.iload 4, 2, 0, 0)), (171, (.iaload, 1, 0, 0)), (172, (.iadd, 1, 0, 0)), (173, (.iload 7, 2, 0, 0)), (175, (.isub, 1, 0, 0)), (176, (.istore 8, 2, 0, 0)), (178, (.aload_n 0, 1, 0, 0)), (179, (.getfield 13, 3, 0, 0)), (182, (.iload_n 1, 1, 0, 0)), (183, (.iaload, 1, 0, 0)), (184, (.iload 5, 2, 0, 0)), (186, (.iload 6, 2, 0, 0)), (188, (.invokestatic 114, 3, 0, 0)), (191, (.ifCond .eq (23), 3, 214, 0)), (194, (.aload_n 0, 1, 0, 0)), (195, (.getfield 17, 3, 0, 0)), (198, (.iload_n 1, 1, 0, 0)), (199, (.iaload, 1, 0, 0)), (200, (.iload 7, 2, 0, 0)), (202, (.iload 8, 2, 0, 0)), (204, (.invokestatic 114, 3, 0, 0)), (207, (.ifCond .eq (7), 3, 214, 0)), (210, (.iconst (1), 1, 0, (1))), (211, (.goto (4), 3, 215, 0)), (214, (.iconst (0), 1, 0, (0))), (215, (.ireturn, 1, 0, 0))], [(26, 10, 7), (29, 10, 8), (13, 10, 2), (17, 10, 3)], [], [(136, 96, 6, 99), (114, 87, 3, 99)], 2)
/-- HouseDeskModel.cross -/
def mt_98 : mm_M := ([(0, (.aload_n 0, 1, 0, 0)), (1, (.aload_n 0, 1, 0, 0)), (2, (.getfield 26, 3, 0, 0)), (5, (.iload_n 2, 1, 0, 0)), (6, (.iaload, 1, 0, 0)), (7, (.iload_n 1, 1, 0, 0)), (8, (.invokevirtual 140, 3, 0, 0)), (11, (.ifCond .ne (45), 3, 56, 0)), (14, (.aload_n 0, 1, 0, 0)), (15, (.aload_n 0, 1, 0, 0)), (16, (.getfield 29, 3, 0, 0)), (19, (.iload_n 2, 1, 0, 0)), (20, (.iaload, 1, 0, 0)), (21, (.iload_n 1, 1, 0, 0)), (22, (.invokevirtual 140, 3, 0, 0)), (25, (.ifCond .ne (31), 3, 56, 0)), (28, (.aload_n 0, 1, 0, 0)), (29, (.aload_n 0, 1, 0, 0)), (30, (.getfield 26, 3, 0, 0)), (33, (.iload_n 1, 1, 0, 0)), (34, (.iaload, 1, 0, 0)), (35, (.iload_n 2, 1, 0, 0)), (36, (.invokevirtual 140, 3, 0, 0)), (39, (.ifCond .ne (17), 3, 56, 0)), (42, (.aload_n 0, 1, 0, 0)), (43, (.aload_n 0, 1, 0, 0)), (44, (.getfield 29, 3, 0, 0)), (47, (.iload_n 1, 1, 0, 0)), (48, (.iaload, 1, 0, 0)), (49, (.iload_n 2, 1, 0, 0)), (50, (.invokevirtual 140, 3, 0, 0)), (53, (.ifCond .eq (5), 3, 58, 0)), (56, (.iconst (1), 1, 0, (1))), (57, (.ireturn, 1, 0, 0)), (58, (.aload_n 0, 1, 0, 0)), (59, (.getfield 26, 3, 0, 0)), (62, (.iload_n 1, 1, 0, 0)), (63, (.iaload, 1, 0, 0)), (64, (.aload_n 0, 1, 0, 0)), (65, (.getfield 26, 3, 0, 0)), (68, (.iload_n 2, 1, 0, 0)), (69, (.iaload, 1, 0, 0)), (70, (.if_icmp .eq (48), 3, 118, 0)), (73, (.aload_n 0, 1, 0, 0)), (74, (.getfield 26, 3, 0, 0)), (77, (.iload_n 1, 1, 0, 0)), (78, (.iaload, 1, 0, 0)), (79, (.aload_n 0, 1, 0, 0)), (80, (.getfield 29, 3, 0, 0)), (83, (.iload_n 2, 1, 0, 0)), (84, (.iaload, 1, 0, 0)), (85, (.if_icmp .eq (33), 3, 118, 0)), (88, (.aload_n 0, 1, 0, 0)), (89, (.getfield 29, 3, 0, 0)), (92, (.iload_n 1, 1, 0, 0)), (93, (.iaload, 1, 0, 0)), (94, (.aload_n 0, 1, 0, 0)), (95, (.getfield 26, 3, 0, 0)), (98, (.iload_n 2, 1, 0, 0)), (99, (.iaload, 1, 0, 0)), (100, (.if_icmp .eq (18), 3, 118, 0)), (103, (.aload_n 0, 1, 0, 0)), (104, (.getfield 29, 3, 0, 0)), (107, (.iload_n 1, 1, 0, 0)), (108, (.iaload, 1, 0, 0)), (109, (.aload_n 0, 1, 0, 0)), (110, (.getfield 29, 3, 0, 0)), (113, (.iload_n 2, 1, 0, 0)), (114, (.iaload, 1, 0, 0)), (115, (.if_icmp .ne (5), 3, 120, 0)), (118, (.iconst (0), 1, 0, (0))), (119, (.ireturn, 1, 0, 0)), (120, (.aload_n 0, 1, 0, 0)), (121, (.getfield 13, 3, 0, 0)), (124, (.aload_n 0, 1, 0, 0)), (125, (.getfield 26, 3, 0, 0)), (128, (.iload_n 1, 1, 0, 0)), (129, (.iaload, 1, 0, 0)), (130, (.iaload, 1, 0, 0)), (131, (.aload_n 0, 1, 0, 0)), (132, (.getfield 17, 3, 0, 0)), (135, (.aload_n 0, 1, 0, 0)), (136, (.getfield 26, 3, 0, 0)), (139, (.iload_n 1, 1, 0, 0)), (140, (.iaload, 1, 0, 0)), (141, (.iaload, 1, 0, 0)), (142, (.aload_n 0, 1, 0, 0)), (143, (.getfield 13, 3, 0, 0)), (146, (.aload_n 0, 1, 0, 0)), (147, (.getfield 29, 3, 0, 0)), (150, (.iload_n 1, 1, 0, 0)), (151, (.iaload, 1, 0, 0)), (152, (.iaload, 1, 0, 0)), (153, (.aload_n 0, 1, 0, 0)), (154, (.getfield 17, 3, 0, 0)), (157, (.aload_n 0, 1, 0, 0)), (158, (.getfield 29, 3, 0, 0)), (161, (.iload_n 1, 1, 0, 0)), (162, (.iaload, 1, 0, 0)), (163, (.iaload, 1, 0, 0)), (164, (.aload_n 0, 1, 0, 0)), (165, (.getfield 13, 3, 0, 0)), (168, (.aload_n 0, 1, 0, 0)), (169, (.getfield 26, 3, 0, 0)), (172, (.iload_n 2, 1, 0, 0)), (173, (.iaload, 1, 0, 0)), (174, (.iaload, 1, 0, 0)), (175, (.aload_n 0, 1, 0, 0)), (176, (.getfield 17, 3, 0, 0)), (179, (.aload_n 0, 1, 0, 0)), (180, (.getfield 26, 3, 0, 0)), (183, (.iload_n 2, 1, 0, 0)), (184, (.iaload, 1, 0, 0)), (185, (.iaload, 1, 0, 0)), (186, (.invokestatic 136, 3, 0, 0)), (189, (.istore_n 3, 1, 0, 0)), (190, (.aload_n 0, 1, 0, 0)), (191, (.getfield 13, 3, 0, 0)), (194, (.aload_n 0, 1, 0, 0)), (195, (.getfield 26, 3, 0, 0)), (198, (.iload_n 1, 1, 0, 0)), (199, (.iaload, 1, 0, 0)), (200, (.iaload, 1, 0, 0)), (201, (.aload_n 0, 1, 0, 0)), (202, (.getfield 17, 3, 0, 0)), (205, (.aload_n 0, 1, 0, 0)), (206, (.getfield 26, 3, 0, 0)), (209, (.iload_n 1, 1, 0, 0)), (210, (.iaload, 1, 0, 0)), (211, (.iaload, 1, 0, 0)), (212, (.aload_n 0, 1, 0, 0)), (213, (.getfield 13, 3, 0, 0)), (216, (.aload_n 0, 1, 0, 0)), (217, (.getfield 29, 3, 0, 0)), (220, (.iload_n 1, 1, 0, 0)), (221, (.iaload, 1, 0, 0)), (222, (.iaload, 1, 0, 0)), (223, (.aload_n 0, 1, 0, 0)), (224, (.getfield 17, 3, 0, 0)), (227, (.aload_n 0, 1, 0, 0)), (228, (.getfield 29, 3, 0, 0)), (231, (.iload_n 1, 1, 0, 0)), (232, (.iaload, 1, 0, 0)), (233, (.iaload, 1, 0, 0)), (234, (.aload_n 0, 1, 0, 0)), (235, (.getfield 13, 3, 0, 0)), (238, (.aload_n 0, 1, 0, 0)), (239, (.getfield 29, 3, 0, 0)), (242, (.iload_n 2, 1, 0, 0)), (243, (.iaload, 1, 0, 0)), (244, (.iaload, 1, 0, 0)), (245, (.aload_n 0, 1, 0, 0)), (246, (.getfield 17, 3, 0, 0)), (249, (.aload_n 0, 1, 0, 0)), (250, (.getfield 29, 3, 0, 0)), (253, (.iload_n 2, 1, 0, 0)), (254, (.iaload, 1, 0, 0)), (255, (.iaload, 1, 0, 0)), (256, (.invokestatic 136, 3, 0, 0)), (259, (.istore 4, 2, 0, 0)), (261, (.aload_n 0, 1, 0, 0)), (262, (.getfield 13, 3, 0, 0)), (265, (.aload_n 0, 1, 0, 0)), (266, (.getfield 26, 3, 0, 0)), (269, (.iload_n 2, 1, 0, 0)), (270, (.iaload, 1, 0, 0)), (271, (.iaload, 1, 0, 0)), (272, (.aload_n 0, 1, 0, 0)), (273, (.getfield 17, 3, 0, 0)), (276, (.aload_n 0, 1, 0, 0)), (277, (.getfield 26, 3, 0, 0)), (280, (.iload_n 2, 1, 0, 0)), (281, (.iaload, 1, 0, 0)), (282, (.iaload, 1, 0, 0)), (283, (.aload_n 0, 1, 0, 0)), (284, (.getfield 13, 3, 0, 0)), (287, (.aload_n 0, 1, 0, 0)), (288, (.getfield 29, 3, 0, 0)), (291, (.iload_n 2, 1, 0, 0)), (292, (.iaload, 1, 0, 0)), (293, (.iaload, 1, 0, 0)), (294, (.aload_n 0, 1, 0, 0)), (295, (.getfield 17, 3, 0, 0)), (298, (.aload_n 0, 1, 0, 0)), (299, (.getfield 29, 3, 0, 0)), (302, (.iload_n 2, 1, 0, 0)), (303, (.iaload, 1, 0, 0)), (304, (.iaload, 1, 0, 0)), (305, (.aload_n 0, 1, 0, 0)), (306, (.getfield 13, 3, 0, 0)), (309, (.aload_n 0, 1, 0, 0)), (310, (.getfield 26, 3, 0, 0)), (313, (.iload_n 1, 1, 0, 0)), (314, (.iaload, 1, 0, 0)), (315, (.iaload, 1, 0, 0)), (316, (.aload_n 0, 1, 0, 0)), (317, (.getfield 17, 3, 0, 0)), (320, (.aload_n 0, 1, 0, 0)), (321, (.getfield 26, 3, 0, 0)), (324, (.iload_n 1, 1, 0, 0)), (325, (.iaload, 1, 0, 0)), (326, (.iaload, 1, 0, 0)), (327, (.invokestatic 136, 3, 0, 0)), (330, (.istore 5, 2, 0, 0)), (332, (.aload_n 0, 1, 0, 0)), (333, (.getfield 13, 3, 0, 0)), (336, (.aload_n 0, 1, 0, 0)), (337, (.getfield 26, 3, 0, 0)), (340, (.iload_n 2, 1, 0, 0)), (341, (.iaload, 1, 0, 0)), (342, (.iaload, 1, 0, 0)), (343, (.aload_n 0, 1, 0, 0)), (344, (.getfield 17, 3, 0, 0)), (347, (.aload_n 0, 1, 0, 0)), (348, (.getfield 26, 3, 0, 0)), (351, (.iload_n 2, 1, 0, 0)), (352, (.iaload, 1, 0, 0)), (353, (.iaload, 1, 0, 0)), (354, (.aload_n 0, 1, 0, 0)), (355, (.getfield 13, 3, 0, 0)), (358, (.aload_n 0, 1, 0, 0)), (359, (.getfield 29, 3, 0, 0)), (362, (.iload_n 2, 1, 0, 0)), (363, (.iaload, 1, 0, 0)), (364, (.iaload, 1, 0, 0)), (365, (.aload_n 0, 1, 0, 0)), (366, (.getfield 17, 3, 0, 0)), (369, (.aload_n 0, 1, 0, 0)), (370, (.getfield 29, 3, 0, 0)), (373, (.iload_n 2, 1, 0, 0)), (374, (.iaload, 1, 0, 0)), (375, (.iaload, 1, 0, 0)), (376, (.aload_n 0, 1, 0, 0)), (377, (.getfield 13, 3, 0, 0)), (380, (.aload_n 0, 1, 0, 0)), (381, (.getfield 29, 3, 0, 0)), (384, (.iload_n 1, 1, 0, 0)), (385, (.iaload, 1, 0, 0)), (386, (.iaload, 1, 0, 0)), (387, (.aload_n 0, 1, 0, 0)), (388, (.getfield 17, 3, 0, 0)), (391, (.aload_n 0, 1, 0, 0)), (392, (.getfield 29, 3, 0, 0)), (395, (.iload_n 1, 1, 0, 0)), (396, (.iaload, 1, 0, 0)), (397, (.iaload, 1, 0, 0)), (398, (.invokestatic 136, 3, 0, 0)), (401, (.istore 6, 2, 0, 0)), (403, (.iload_n 3, 1, 0, 0)), (404, (.iload 4, 2, 0, 0)), (406, (.imul, 1, 0, 0)), (407, (.ifCond .ge (15), 3, 422, 0)), (410, (.iload 5, 2, 0, 0)), (412, (.iload 6, 2, 0, 0)), (414, (.imul, 1, 0, 0)), (415, (.ifCond .ge (7), 3, 422, 0)), (418, (.iconst (1), 1, 0, (1))), (419, (.goto (4), 3, 423, 0)), (422, (.iconst (0), 1, 0, (0))), (423, (.ireturn, 1, 0, 0))], [(26, 10, 7), (29, 10, 8), (13, 10, 2), (17, 10, 3)], [], [(140, 97, 2, 10), (136, 96, 6, 99)], 2)
/-- HouseDeskModel.isCrossed -/
def mt_99 : mm_M := ([(0, (.iconst (0), 1, 0, (0))), (1, (.istore_n 1, 1, 0, 0)), (2, (.iload_n 1, 1, 0, 0)), (3, (.aload_n 0, 1, 0, 0)), (4, (.getfield 122, 3, 0, 0)), (7, (.if_icmp .ge (49), 3, 56, 0)), (10, (.iload_n 1, 1, 0, 0)), (11, (.iconst (1), 1, 0, (1))), (12, (.iadd, 1, 0, 0)), (13, (.istore_n 2, 1, 0, 0)), (14, (.iload_n 2, 1, 0, 0)), (15, (.aload_n 0, 1, 0, 0)), (16, (.getfield 122, 3, 0, 0)), (19, (.if_icmp .ge (31), 3, 50, 0)), (22, (.aload_n 0, 1, 0, 0)), (23, (.iload_n 1, 1, 0, 0)), (24, (.iload_n 2, 1, 0, 0)), (25, (.invokevirtual 144, 3, 0, 0)), (28, (.ifCond .ne (6), 3, 34, 0)), (31, (.goto (13), 3, 44, 0)), (34, (.aload_n 0, 1, 0, 0)), (35, (.iconst (0), 1, 0, (0))), (36, (.iload_n 1, 1, 0, 0)), (37, (.iload_n 2, 1, 0, 0)), (38, (.iconst (-1), 1, 0, (-1))), (39, (.invokevirtual 147, 3, 0, 0)), (42, (.iconst (1), 1, 0, (1))), (43, (.ireturn, 1, 0, 0)), (44, (.iinc 2 (1), 3, 0, (1))), (47, (.goto (-33), 3, 14, 0)), (50, (.iinc 1 (1), 3, 0, (1))), (53, (.goto (-51), 3, 2, 0)), (56, (.iconst (0), 1, 0, (0))), (57, (.istore_n 1, 1, 0, 0)), (58, (.iload_n 1, 1, 0, 0)), (59, (.aload_n 0, 1, 0, 0)), (60, (.getfield 122, 3, 0, 0)), (63, (.if_icmp .ge (54), 3, 117, 0)), (66, (.iconst (0), 1, 0, (0))), (67, (.istore_n 2, 1, 0, 0)), (68, (.iload_n 2, 1, 0, 0)), (69, (.bipush (9), 2, 0, (9))), (71, (.if_icmp .ge (40), 3, 111, 0)), (74, (.aload_n 0, 1, 0, 0)), (75, (.getfield 7, 3, 0, 0)), (78, (.iload_n 2, 1, 0, 0)), (79, (.baload, 1, 0, 0)), (80, (.ifCond .eq (25), 3, 105, 0)), (83, (.aload_n 0, 1, 0, 0)), (84, (.iload_n 2, 1, 0, 0)), (85, (.iload_n 1, 1, 0, 0)), (86, (.invokevirtual 140, 3, 0, 0)), (89, (.ifCond .ne (6), 3, 95, 0)), (92, (.goto (13), 3, 105, 0)), (95, (.aload_n 0, 1, 0, 0)), (96, (.iconst (0), 1, 0, (0))), (97, (.iload_n 1, 1, 0, 0)), (98, (.iload_n 2, 1, 0, 0)), (99, (.iconst (-1), 1, 0, (-1))), (100, (.invokevirtual 147, 3, 0, 0)), (103, (.iconst (1), 1, 0, (1))), (104, (.ireturn, 1, 0, 0)), (105, (.iinc 2 (1), 3, 0, (1))), (108, (.goto (-40), 3, 68, 0)), (111, (.iinc 1 (1), 3, 0, (1))), (114, (.goto (-56), 3, 58, 0)), (117, (.iconst (0), 1, 0, (0))), (118, (.ireturn, 1, 0, 0))], [(122, 10, 6), (7, 10, 1)], [], [(144, 98, 2, 10), (147, 100, 4, 10), (140, 97, 2, 10)], 2)
/-- HouseDeskModel.tell -/
def mt_100 : mm_M := ([(0, (.aload_n 0, 1, 0, 0)), (1, (.iload_n 1, 1, 0, 0)), (2, (.putfield 38, 3, 0, 0)), (5, (.aload_n 0, 1, 0, 0)), (6, (.getfield 42, 3, 0, 0)), (9, (.iconst (0), 1, 0, (0))), (10, (.iload_n 2, 1, 0, 0)), (11, (.iastore, 1, 0, 0)), (12, (.aload_n 0, 1, 0, 0)), (13, (.getfield 42, 3, 0, 0)), (16, (.iconst (1), 1, 0, (1))), (17, (.iload_n 3, 1, 0, 0)), (18, (.iastore, 1, 0, 0)), (19, (.aload_n 0, 1, 0, 0)), (20, (.getfield 42, 3, 0, 0)), (23, (.iconst (2), 1, 0, (2))), (24, (.iload 4, 2, 0, 0)), (26, (.iastore, 1, 0, 0)), (27, (.return_, 1, 0, 0))], [(42, 10, 14)], [(38, 10, 13)], [], 0)
/-- HouseDeskModel.other -/
def mt_101 : mm_M := ([(0, (.aload_n 0, 1, 0, 0)), (1, (.getfield 26, 3, 0, 0)), (4, (.iload_n 1, 1, 0, 0)), (5, (.iaload, 1, 0, 0)), (6, (.iload_n 2, 1, 0, 0)), (7, (.if_icmp .ne (12), 3, 19, 0)), (10, (.aload_n 0, 1, 0, 0)), (11, (.getfield 29, 3, 0, 0)), (14, (.iload_n 1, 1, 0, 0)), (15, (.iaload, 1, 0, 0)), (16, (.goto (9), 3, 25, 0)), (19, (.aload_n 0, 1, 0, 0)), (20, (.getfield 26, 3, 0, 0)), (23, (.iload_n 1, 1, 0, 0)), (24, (.iaload, 1, 0, 0)), (25, (.ireturn, 1, 0, 0))], [(26, 10, 7), (29, 10, 8)], [], [], 1)
/-- HouseDeskModel.part -/
def mt_102 : mm_M := ([(0, (.iload_n 0, 1, 0, 0)), (1, (.ifCond .ge (9), 3, 10, 0)), (4, (.iload_n 1, 1, 0, 0)), (5, (.ifCond .ne (5), 3, 10, 0)), (8, (.iconst (0), 1, 0, (0))), (9, (.ireturn, 1, 0, 0)), (10, (.iload_n 0, 1, 0, 0)), (11, (.ifCond .ge (9), 3, 20, 0)), (14, (.iload_n 1, 1, 0, 0)), (15, (.ifCond .le (5), 3, 20, 0)), (18, (.iconst (1), 1, 0, (1))), (19, (.ireturn, 1, 0, 0)), (20, (.iload_n 0, 1, 0, 0)), (21, (.ifCond .lt (9), 3, 30, 0)), (24, (.iload_n 1, 1, 0, 0)), (25, (.ifCond .le (5), 3, 30, 0)), (28, (.iconst (2), 1, 0, (2))), (29, (.ireturn, 1, 0, 0)), (30, (.iload_n 0, 1, 0, 0)), (31, (.ifCond .le (9), 3, 40, 0)), (34, (.iload_n 1, 1, 0, 0)), (35, (.ifCond .gt (5), 3, 40, 0)), (38, (.iconst (3), 1, 0, (3))), (39, (.ireturn, 1, 0, 0)), (40, (.iconst (4), 1, 0, (4))), (41, (.ireturn, 1, 0, 0))], [], [], [], 1)
/-- HouseDeskModel.isAhead -/
def mt_103 : mm_M := ([(0, (.aload_n 0, 1, 0, 0)), (1, (.getfield 13, 3, 0, 0)), (4, (.aload_n 0, 1, 0, 0)), (5, (.iload_n 1, 1, 0, 0)), (6, (.iload_n 3, 1, 0, 0)), (7, (.invokevirtual 151, 3, 0, 0)), (10, (.iaload, 1, 0, 0)), (11, (.aload_n 0, 1, 0, 0)), (12, (.getfield 13, 3, 0, 0)), (15, (.iload_n 3, 1, 0, 0)), (16, (.iaload, 1, 0, 0)), (17, (.isub, 1, 0, 0)), (18, (.istore 4, 2, 0, 0)), (20, (.aload_n 0, 1, 0, 0)), (21, (.getfield 17, 3, 0, 0)), (24, (.aload_n 0, 1, 0, 0)), (25, (.iload_n 1, 1, 0, 0)), (26, (.iload_n 3, 1, 0, 0)), (27, (.invokevirtual 151, 3, 0, 0)), (30, (.iaload, 1, 0, 0)), (31, (.aload_n 0, 1, 0, 0)), (32, (.getfield 17, 3, 0, 0)), (35, (.iload_n 3, 1, 0, 0)), (36, (.iaload, 1, 0, 0)), (37, (.isub, 1, 0, 0)), (38, (.istore 5, 2, 0, 0)), (40, (.aload_n 0, 1, 0, 0)), (41, (.getfield 13, 3, 0, 0)), (44, (.aload_n 0, 1, 0, 0)), (45, (.iload_n 2, 1, 0, 0)), (46, (.iload_n 3, 1, 0, 0)), (47, (.invokevirtual 151, 3, 0, 0)), (50, (.iaload, 1, 0, 0)), (51, (.aload_n 0, 1, 0, 0)), (52, (.getfield 13, 3, 0, 0)), (55, (.iload_n 3, 1, 0, 0)), (56, (.iaload, 1, 0, 0)), (57, (.isub, 1, 0, 0)), (58, (.istore 6, 2, 0, 0)), (60, (.aload_n 0, 1, 0, 0)), (61, (.getfield 17, 3, 0, 0)), (64, (.aload_n 0, 1, 0, 0)), (65, (.iload_n 2, 1, 0, 0)), (66, (.iload_n 3, 1, 0, 0)), (67, (.invokevirtual 151, 3, 0, 0)), (70, (.iaload, 1, 0, 0)), (71, (.aload_n 0, 1, 0, 0)), (72, (.getfield 17, 3, 0, 0)), (75, (.iload_n 3, 1, 0, 0)), (76, (.iaload, 1, 0, 0)), (77, (.isub, 1, 0, 0)), (78, (.istore 7, 2, 0, 0)), (80, (.iload 4, 2, 0, 0)), (82, (.iload 5, 2, 0, 0)), (84, (.invokestatic 154, 3, 0, 0)), (87, (.istore 8, 2, 0, 0)), (89, (.iload 6, 2, 0, 0)), (91, (.iload 7, 2, 0, 0)), (93, (.invokestatic 154, 3, 0, 0)), (96, (.istore 9, 2, 0, 0)), (98, (.iload 8, 2, 0, 0)), (100, (.iload 9, 2, 0, 0)), (102, (.if_icmp .eq (16), 3, 118, 0)), (105, (.iload 8, 2, 0, 0)), (107, (.iload 9, 2, 0, 0)), (109, (.if_icmp .ge (7), 3, 116, 0)), (112, (.iconst (1), 1, 0, (1))), (113, (.goto (4), 3, 117, 0)), (116, (.iconst (0), 1, 0, (0))), (117, (.ireturn, 1, 0, 0)), (118, (.iload 4, 2, 0, 0)), (120, (.iload 7, 2, 0, 0)), (122, (.imul, 1, 0, 0)), (123, (.iload 5, 2, 0, 0)), (125, (.iload 6, 2, 0, 0)), (127, (.imul, 1, 0, 0)), (128, (.isub, 1, 0, 0)), (129, (.ifCond .ge (7), 3, 136, 0)), (132, (.iconst (1), 1, 0, (1))), (133, (.goto (4), 3, 137, 0)), (136, (.iconst (0), 1, 0, (0))), (137, (.ireturn, 1, 0, 0))], [(13, 10, 2), (17, 10, 3)], [], [(151, 101, 2, 10), (154, 102, 2, 99)], 2)
/-- HouseDeskModel.sortAround -/
def mt_104 : mm_M := ([(0, (.iconst (0), 1, 0, (0))), (1, (.istore_n 1, 1, 0, 0)), (2, (.iload_n 1, 1, 0, 0)), (3, (.bipush (9), 2, 0, (9))), (5, (.if_icmp .ge (149), 3, 154, 0)), (8, (.aload_n 0, 1, 0, 0)), (9, (.getfield 51, 3, 0, 0)), (12, (.iload_n 1, 1, 0, 0)), (13, (.iconst (0), 1, 0, (0))), (14, (.iastore, 1, 0, 0)), (15, (.iconst (0), 1, 0, (0))), (16, (.istore_n 2, 1, 0, 0)), (17, (.iload_n 2, 1, 0, 0)), (18, (.aload_n 0, 1, 0, 0)), (19, (.getfield 122, 3, 0, 0)), (22, (.if_icmp .ge (126), 3, 148, 0)), (25, (.aload_n 0, 1, 0, 0)), (26, (.getfield 7, 3, 0, 0)), (29, (.iload_n 1, 1, 0, 0)), (30, (.baload, 1, 0, 0)), (31, (.ifCond .eq (117), 3, 148, 0)), (34, (.aload_n 0, 1, 0, 0)), (35, (.getfield 26, 3, 0, 0)), (38, (.iload_n 2, 1, 0, 0)), (39, (.iaload, 1, 0, 0)), (40, (.iload_n 1, 1, 0, 0)), (41, (.if_icmp .eq (16), 3, 57, 0)), (44, (.aload_n 0, 1, 0, 0)), (45, (.getfield 29, 3, 0, 0)), (48, (.iload_n 2, 1, 0, 0)), (49, (.iaload, 1, 0, 0)), (50, (.iload_n 1, 1, 0, 0)), (51, (.if_icmp .eq (6), 3, 57, 0)), (54, (.goto (88), 3, 142, 0)), (57, (.aload_n 0, 1, 0, 0)), (58, (.getfield 51, 3, 0, 0)), (61, (.iload_n 1, 1, 0, 0)), (62, (.iaload, 1, 0, 0)), (63, (.istore_n 3, 1, 0, 0)), (64, (.iload_n 3, 1, 0, 0)), (65, (.ifCond .le (55), 3, 120, 0)), (68, (.aload_n 0, 1, 0, 0)), (69, (.iload_n 2, 1, 0, 0)), (70, (.aload_n 0, 1, 0, 0)), (71, (.getfield 54, 3, 0, 0)), (74, (.bipush (16), 2, 0, (16))), (76, (.iload_n 1, 1, 0, 0)), (77, (.imul, 1, 0, 0)), (78, (.iload_n 3, 1, 0, 0)), (79, (.iadd, 1, 0, 0)), (80, (.iconst (1), 1, 0, (1))), (81, (.isub, 1, 0, 0)), (82, (.iaload, 1, 0, 0)), (83, (.iload_n 1, 1, 0, 0)), (84, (.invokevirtual 157, 3, 0, 0)), (87, (.ifCond .eq (33), 3, 120, 0)), (90, (.aload_n 0, 1, 0, 0)), (91, (.getfield 54, 3, 0, 0)), (94, (.bipush (16), 2, 0, (16))), (96, (.iload_n 1, 1, 0, 0)), (97, (.imul, 1, 0, 0)), (98, (.iload_n 3, 1, 0, 0)), (99, (.iadd, 1, 0, 0)), (100, (.aload_n 0, 1, 0, 0)), (101, (.getfield 54, 3, 0, 0)), (104, (.bipush (16), 2, 0, (16))), (106, (.iload_n 1, 1, 0, 0)), (107, (.imul, 1, 0, 0)), (108, (.iload_n 3, 1, 0, 0)), (109, (.iadd, 1, 0, 0)), (110, (.iconst (1), 1, 0, (1))), (111, (.isub, 1, 0, 0)), (112, (.iaload, 1, 0, 0)), (113, (.iastore, 1, 0, 0)), (114, (.iinc 3 (-1), 3, 0, (-1))), (117, (.goto (-53), 3, 64, 0)), (120, (.aload_n 0, 1, 0, 0)), (121, (.getfield 54, 3, 0, 0)), (124, (.bipush (16), 2, 0, (16))), (126, (.iload_n 1, 1, 0, 0)), (127, (.imul, 1, 0, 0)), (128, (.iload_n 3, 1, 0, 0)), (129, (.iadd, 1, 0, 0)), (130, (.iload_n 2, 1, 0, 0)), (131, (.iastore, 1, 0, 0)), (132, (.aload_n 0, 1, 0, 0)), (133, (.getfield 51, 3, 0, 0)), (136, (.iload_n 1, 1, 0, 0)), (137, (.dup2, 1, 0, 0)), (138, (.iaload, 1, 0, 0)), (139, (.iconst (1), 1, 0, (1))), (140, (.iadd, 1, 0, 0)), (141, (.iastore, 1, 0, 0)), (142, (.iinc 2 (1), 3, 0, (1))), (145, (.goto (-128), 3, 17, 0)), (148, (.iinc 1 (1), 3, 0, (1))), (151, (.goto (-149), 3, 2, 0)), (154, (.return_, 1, 0, 0))], [(51, 10, 20), (122, 10, 6), (7, 10, 1), (26, 10, 7), (29, 10, 8), (54, 10, 21)], [], [(157, 103, 3, 10)], 0)
/-- HouseDeskModel.behind -/
def mt_105 : mm_M := ([(0, (.iconst (0), 1, 0, (0))), (1, (.istore_n 3, 1, 0, 0)), (2, (.aload_n 0, 1, 0, 0)), (3, (.getfield 54, 3, 0, 0)), (6, (.bipush (16), 2, 0, (16))), (8, (.iload_n 2, 1, 0, 0)), (9, (.imul, 1, 0, 0)), (10, (.iload_n 3, 1, 0, 0)), (11, (.iadd, 1, 0, 0)), (12, (.iaload, 1, 0, 0)), (13, (.iload_n 1, 1, 0, 0)), (14, (.if_icmp .eq (9), 3, 23, 0)), (17, (.iinc 3 (1), 3, 0, (1))), (20, (.goto (-18), 3, 2, 0)), (23, (.aload_n 0, 1, 0, 0)), (24, (.getfield 54, 3, 0, 0)), (27, (.bipush (16), 2, 0, (16))), (29, (.iload_n 2, 1, 0, 0)), (30, (.imul, 1, 0, 0)), (31, (.iload_n 3, 1, 0, 0)), (32, (.iconst (1), 1, 0, (1))), (33, (.iadd, 1, 0, 0)), (34, (.aload_n 0, 1, 0, 0)), (35, (.getfield 51, 3, 0, 0)), (38, (.iload_n 2, 1, 0, 0)), (39, (.iaload, 1, 0, 0)), (40, (.irem, 1, 0, 0)), (41, (.iadd, 1, 0, 0)), (42, (.iaload, 1, 0, 0)), (43, (.ireturn, 1, 0, 0))], [(54, 10, 21), (51, 10, 20)], [], [], 1)
/-- HouseDeskModel.wayFrom -/
def mt_106 : mm_M := ([(0, (.iconst (2), 1, 0, (2))), (1, (.iload_n 1, 1, 0, 0)), (2, (.imul, 1, 0, 0)), (3, (.aload_n 0, 1, 0, 0)), (4, (.getfield 26, 3, 0, 0)), (7, (.iload_n 1, 1, 0, 0)), (8, (.iaload, 1, 0, 0)), (9, (.iload_n 2, 1, 0, 0)), (10, (.if_icmp .ne (7), 3, 17, 0)), (13, (.iconst (0), 1, 0, (0))), (14, (.goto (4), 3, 18, 0)), (17, (.iconst (1), 1, 0, (1))), (18, (.iadd, 1, 0, 0)), (19, (.ireturn, 1, 0, 0))], [(26, 10, 7)], [], [], 1)
/-- HouseDeskModel.areTogether -/
def mt_107 : mm_M := ([(0, (.iconst (0), 1, 0, (0))), (1, (.istore_n 1, 1, 0, 0)), (2, (.iconst (-1), 1, 0, (-1))), (3, (.istore_n 2, 1, 0, 0)), (4, (.iconst (0), 1, 0, (0))), (5, (.istore_n 3, 1, 0, 0)), (6, (.iload_n 3, 1, 0, 0)), (7, (.bipush (9), 2, 0, (9))), (9, (.if_icmp .ge (48), 3, 57, 0)), (12, (.iload_n 1, 1, 0, 0)), (13, (.aload_n 0, 1, 0, 0)), (14, (.getfield 7, 3, 0, 0)), (17, (.iload_n 3, 1, 0, 0)), (18, (.baload, 1, 0, 0)), (19, (.ifCond .eq (9), 3, 28, 0)), (22, (.iconst (1), 1, 0, (1))), (23, (.iload_n 3, 1, 0, 0)), (24, (.ishl, 1, 0, 0)), (25, (.goto (4), 3, 29, 0)), (28, (.iconst (0), 1, 0, (0))), (29, (.ior, 1, 0, 0)), (30, (.istore_n 1, 1, 0, 0)), (31, (.aload_n 0, 1, 0, 0)), (32, (.getfield 7, 3, 0, 0)), (35, (.iload_n 3, 1, 0, 0)), (36, (.baload, 1, 0, 0)), (37, (.ifCond .eq (12), 3, 49, 0)), (40, (.iload_n 2, 1, 0, 0)), (41, (.iconst (-1), 1, 0, (-1))), (42, (.if_icmp .ne (7), 3, 49, 0)), (45, (.iload_n 3, 1, 0, 0)), (46, (.goto (4), 3, 50, 0)), (49, (.iload_n 2, 1, 0, 0)), (50, (.istore_n 2, 1, 0, 0)), (51, (.iinc 3 (1), 3, 0, (1))), (54, (.goto (-48), 3, 6, 0)), (57, (.iconst (1), 1, 0, (1))), (58, (.iload_n 2, 1, 0, 0)), (59, (.ishl, 1, 0, 0)), (60, (.istore_n 3, 1, 0, 0)), (61, (.iconst (0), 1, 0, (0))), (62, (.istore 4, 2, 0, 0)), (64, (.iload 4, 2, 0, 0)), (66, (.bipush (9), 2, 0, (9))), (68, (.if_icmp .ge (60), 3, 128, 0)), (71, (.iconst (0), 1, 0, (0))), (72, (.istore 5, 2, 0, 0)), (74, (.iload 5, 2, 0, 0)), (76, (.aload_n 0, 1, 0, 0)), (77, (.getfield 122, 3, 0, 0)), (80, (.if_icmp .ge (42), 3, 122, 0)), (83, (.iconst (1), 1, 0, (1))), (84, (.aload_n 0, 1, 0, 0)), (85, (.getfield 26, 3, 0, 0)), (88, (.iload 5, 2, 0, 0)), (90, (.iaload, 1, 0, 0)), (91, (.ishl, 1, 0, 0)), (92, (.iconst (1), 1, 0, (1))), (93, (.aload_n 0, 1, 0, 0)), (94, (.getfield 29, 3, 0, 0)), (97, (.iload 5, 2, 0, 0)), (99, (.iaload, 1, 0, 0)), (100, (.ishl, 1, 0, 0)), (101, (.ior, 1, 0, 0)), (102, (.istore 6, 2, 0, 0)), (104, (.iload_n 3, 1, 0, 0)), (105, (.iload 6, 2, 0, 0)), (107, (.iand, 1, 0, 0)), (108, (.ifCond .eq (8), 3, 116, 0)), (111, (.iload_n 3, 1, 0, 0)), (112, (.iload 6, 2, 0, 0)), (114, (.ior, 1, 0, 0)), (115, (.istore_n 3, 1, 0, 0)), (116, (.iinc 5 (1), 3, 0, (1))), (119, (.goto (-45), 3, 74, 0)), (122, (.iinc 4 (1), 3, 0, (1))), (125, (.goto (-61), 3, 64, 0)), (128, (.iload_n 3, 1, 0, 0)), (129, (.iload_n 1, 1, 0, 0)), (130, (.if_icmp .ne (7), 3, 137, 0)), (133, (.iconst (1), 1, 0, (1))), (134, (.goto (4), 3, 138, 0)), (137, (.iconst (0), 1, 0, (0))), (138, (.ireturn, 1, 0, 0))], [(7, 10, 1), (122, 10, 6), (26, 10, 7), (29, 10, 8)], [], [], 2)
/-- HouseDeskModel.roomCount -/
def mt_108 : mm_M := ([(0, (.iconst (0), 1, 0, (0))), (1, (.istore_n 1, 1, 0, 0)), (2, (.iconst (0), 1, 0, (0))), (3, (.istore_n 2, 1, 0, 0)), (4, (.iload_n 2, 1, 0, 0)), (5, (.bipush (9), 2, 0, (9))), (7, (.if_icmp .ge (26), 3, 33, 0)), (10, (.iload_n 1, 1, 0, 0)), (11, (.aload_n 0, 1, 0, 0)), (12, (.getfield 7, 3, 0, 0)), (15, (.iload_n 2, 1, 0, 0)), (16, (.baload, 1, 0, 0)), (17, (.ifCond .eq (7), 3, 24, 0)), (20, (.iconst (1), 1, 0, (1))), (21, (.goto (4), 3, 25, 0)), (24, (.iconst (0), 1, 0, (0))), (25, (.iadd, 1, 0, 0)), (26, (.istore_n 1, 1, 0, 0)), (27, (.iinc 2 (1), 3, 0, (1))), (30, (.goto (-26), 3, 4, 0)), (33, (.iload_n 1, 1, 0, 0)), (34, (.ireturn, 1, 0, 0))], [(7, 10, 1)], [], [], 1)
/-- HouseDeskModel.findOutline -/
def mt_109 : mm_M := ([(0, (.iconst (-1), 1, 0, (-1))), (1, (.istore_n 1, 1, 0, 0)), (2, (.iconst (0), 1, 0, (0))), (3, (.istore_n 2, 1, 0, 0)), (4, (.iload_n 2, 1, 0, 0)), (5, (.bipush (9), 2, 0, (9))), (7, (.if_icmp .ge (70), 3, 77, 0)), (10, (.aload_n 0, 1, 0, 0)), (11, (.getfield 7, 3, 0, 0)), (14, (.iload_n 2, 1, 0, 0)), (15, (.baload, 1, 0, 0)), (16, (.ifCond .eq (55), 3, 71, 0)), (19, (.iload_n 1, 1, 0, 0)), (20, (.iconst (-1), 1, 0, (-1))), (21, (.if_icmp .eq (48), 3, 69, 0)), (24, (.aload_n 0, 1, 0, 0)), (25, (.getfield 13, 3, 0, 0)), (28, (.iload_n 2, 1, 0, 0)), (29, (.iaload, 1, 0, 0)), (30, (.aload_n 0, 1, 0, 0)), (31, (.getfield 13, 3, 0, 0)), (34, (.iload_n 1, 1, 0, 0)), (35, (.iaload, 1, 0, 0)), (36, (.if_icmp .lt (33), 3, 69, 0)), (39, (.aload_n 0, 1, 0, 0)), (40, (.getfield 13, 3, 0, 0)), (43, (.iload_n 2, 1, 0, 0)), (44, (.iaload, 1, 0, 0)), (45, (.aload_n 0, 1, 0, 0)), (46, (.getfield 13, 3, 0, 0)), (49, (.iload_n 1, 1, 0, 0)), (50, (.iaload, 1, 0, 0)), (51, (.if_icmp .ne (20), 3, 71, 0)), (54, (.aload_n 0, 1, 0, 0)), (55, (.getfield 17, 3, 0, 0)), (58, (.iload_n 2, 1, 0, 0)), (59, (.iaload, 1, 0, 0)), (60, (.aload_n 0, 1, 0, 0)), (61, (.getfield 17, 3, 0, 0)), (64, (.iload_n 1, 1, 0, 0)), (65, (.iaload, 1, 0, 0)), (66, (.if_icmp .ge (5), 3, 71, 0)), (69, (.iload_n 2, 1, 0, 0)), (70, (.istore_n 1, 1, 0, 0)), (71, (.iinc 2 (1), 3, 0, (1))), (74, (.goto (-70), 3, 4, 0)), (77, (.iconst (0), 1, 0, (0))), (78, (.istore_n 2, 1, 0, 0)), (79, (.iload_n 2, 1, 0, 0)), (80, (.bipush (42), 2, 0, (42))), (82, (.if_icmp .ge (16), 3, 98, 0)), (85, (.aload_n 0, 1, 0, 0)), (86, (.getfield 87, 3, 0, 0)), (89, (.iload_n 2, 1, 0, 0)), (90, (.iconst (0), 1, 0, (0))), (91, (.bastore, 1, 0, 0)), (92, (.iinc 2 (1), 3, 0, (1))), (95, (.goto (-16), 3, 79, 0)), (98, (.iconst (0), 1, 0, (0))), (99, (.istore_n 2, 1, 0, 0)), (100, (.iload_n 1, 1, 0, 0)), (101, (.istore_n 3, 1, 0, 0)), (102, (.aload_n 0, 1, 0, 0)), (103, (.getfield 54, 3, 0, 0)), (106, (.bipush (16), 2, 0, (16))), (108, (.iload_n 1, 1, 0, 0)), (109, (.imul, 1, 0, 0)), (110, (.iaload, 1, 0, 0)), (111, (.istore 4, 2, 0, 0)), (113, (.iconst (0), 1, 0, (0))), (114, (.istore 5, 2, 0, 0)), (116, (.iconst (0), 1, 0, (0))), (117, (.istore 6, 2, 0, 0)), (119, (.aload_n 0, 1, 0, 0)), (120, (.getfield 87, 3, 0, 0)), (123, (.aload_n 0, 1, 0, 0)), (124, (.iload 4, 2, 0, 0)), (126, (.iload_n 3, 1, 0, 0)), (127, (.invokevirtual 160, 3, 0, 0)), (130, (.baload, 1, 0, 0)), (131, (.ifCond .ne (76), 3, 207, 0)), (134, (.aload_n 0, 1, 0, 0)), (135, (.getfield 87, 3, 0, 0)), (138, (.aload_n 0, 1, 0, 0)), (139, (.iload 4, 2, 0, 0)), (141, (.iload_n 3, 1, 0, 0)), (142, (.invokevirtual 160, 3, 0, 0)), (145, (.iconst (1), 1, 0, (1))), (146, (.bastore, 1, 0, 0)), (147, (.iload 6, 2, 0, 0)), (149, (.ifCond .ne (13), 3, 162, 0)), (152, (.iload 5, 2, 0, 0)), (154, (.iload_n 3, 1, 0, 0)), (155, (.ishr, 1, 0, 0)), (156, (.iconst (1), 1, 0, (1))), (157, (.iand, 1, 0, 0)), (158, (.iconst (1), 1, 0, (1))), (159, (.if_icmp .ne (7), 3, 166, 0)), (162, (.iconst (1), 1, 0, (1))), (163, (.goto (4), 3, 167, 0)), (166, (.iconst (0), 1, 0, (0))), (167, (.istore 6, 2, 0, 0)), (169, (.iload 5, 2, 0, 0)), (171, (.iconst (1), 1, 0, (1))), (172, (.iload_n 3, 1, 0, 0)), (173, (.ishl, 1, 0, 0)), (174, (.ior, 1, 0, 0)), (175, (.istore 5, 2, 0, 0)), (177, (.aload_n 0, 1, 0, 0)), (178, (.getfield 45, 3, 0, 0)), (181, (.iload_n 2, 1, 0, 0)), (182, (.iload_n 3, 1, 0, 0)), (183, (.iastore, 1, 0, 0)), (184, (.iinc 2 (1), 3, 0, (1))), (187, (.aload_n 0, 1, 0, 0)), (188, (.iload 4, 2, 0, 0)), (190, (.iload_n 3, 1, 0, 0)), (191, (.invokevirtual 151, 3, 0, 0)), (194, (.istore_n 3, 1, 0, 0)), (195, (.aload_n 0, 1, 0, 0)), (196, (.iload 4, 2, 0, 0)), (198, (.iload_n 3, 1, 0, 0)), (199, (.invokevirtual 163, 3, 0, 0)), (202, (.istore 4, 2, 0, 0)), (204, (.goto (-85), 3, 119, 0)), (207, (.aload_n 0, 1, 0, 0)), (208, (.iload 6, 2, 0, 0)), (210, (.ifCond .eq (7), 3, 217, 0)), (213, (.iconst (0), 1, 0, (0))), (214, (.goto (4), 3, 218, 0)), (217, (.iload_n 2, 1, 0, 0)), (218, (.putfield 166, 3, 0, 0)), (221, (.iload 6, 2, 0, 0)), (223, (.ifCond .ne (7), 3, 230, 0)), (226, (.iconst (1), 1, 0, (1))), (227, (.goto (4), 3, 231, 0)), (230, (.iconst (0), 1, 0, (0))), (231, (.ireturn, 1, 0, 0))], [(7, 10, 1), (13, 10, 2), (17, 10, 3), (87, 10, 36), (54, 10, 21), (45, 10, 17)], [(166, 10, 15)], [(160, 106, 2, 10), (151, 101, 2, 10), (163, 105, 2, 10)], 2)
/-- HouseDeskModel.findFaces -/
def mt_110 : mm_M := ([(0, (.aload_n 0, 1, 0, 0)), (1, (.iconst (0), 1, 0, (0))), (2, (.putfield 169, 3, 0, 0)), (5, (.iconst (0), 1, 0, (0))), (6, (.istore_n 1, 1, 0, 0)), (7, (.iload_n 1, 1, 0, 0)), (8, (.iconst (2), 1, 0, (2))), (9, (.aload_n 0, 1, 0, 0)), (10, (.getfield 122, 3, 0, 0)), (13, (.imul, 1, 0, 0)), (14, (.if_icmp .ge (122), 3, 136, 0)), (17, (.aload_n 0, 1, 0, 0)), (18, (.getfield 87, 3, 0, 0)), (21, (.iload_n 1, 1, 0, 0)), (22, (.baload, 1, 0, 0)), (23, (.ifCond .eq (6), 3, 29, 0)), (26, (.goto (104), 3, 130, 0)), (29, (.iload_n 1, 1, 0, 0)), (30, (.iconst (2), 1, 0, (2))), (31, (.idiv, 1, 0, 0)), (32, (.istore_n 2, 1, 0, 0)), (33, (.iload_n 1, 1, 0, 0)), (34, (.iconst (2), 1, 0, (2))), (35, (.irem, 1, 0, 0)), (36, (.ifCond .ne (12), 3, 48, 0)), (39, (.aload_n 0, 1, 0, 0)), (40, (.getfield 26, 3, 0, 0)), (43, (.iload_n 2, 1, 0, 0)), (44, (.iaload, 1, 0, 0)), (45, (.goto (9), 3, 54, 0)), (48, (.aload_n 0, 1, 0, 0)), (49, (.getfield 29, 3, 0, 0)), (52, (.iload_n 2, 1, 0, 0)), (53, (.iaload, 1, 0, 0)), (54, (.istore_n 3, 1, 0, 0)), (55, (.iconst (0), 1, 0, (0))), (56, (.istore 4, 2, 0, 0)), (58, (.aload_n 0, 1, 0, 0)), (59, (.getfield 87, 3, 0, 0)), (62, (.aload_n 0, 1, 0, 0)), (63, (.iload_n 2, 1, 0, 0)), (64, (.iload_n 3, 1, 0, 0)), (65, (.invokevirtual 160, 3, 0, 0)), (68, (.baload, 1, 0, 0)), (69, (.ifCond .ne (40), 3, 109, 0)), (72, (.aload_n 0, 1, 0, 0)), (73, (.getfield 87, 3, 0, 0)), (76, (.aload_n 0, 1, 0, 0)), (77, (.iload_n 2, 1, 0, 0)), (78, (.iload_n 3, 1, 0, 0)), (79, (.invokevirtual 160, 3, 0, 0)), (82, (.iconst (1), 1, 0, (1))), (83, (.bastore, 1, 0, 0)), (84, (.iload 4, 2, 0, 0)), (86, (.iconst (1), 1, 0, (1))), (87, (.iload_n 3, 1, 0, 0)), (88, (.ishl, 1, 0, 0)), (89, (.ior, 1, 0, 0)), (90, (.istore 4, 2, 0, 0)), (92, (.aload_n 0, 1, 0, 0)), (93, (.iload_n 2, 1, 0, 0)), (94, (.iload_n 3, 1, 0, 0)), (95, (.invokevirtual 151, 3, 0, 0)), (98, (.istore_n 3, 1, 0, 0)), (99, (.aload_n 0, 1, 0, 0)), (100, (.iload_n 2, 1, 0, 0)), (101, (.iload_n 3, 1, 0, 0)), (102, (.invokevirtual 163, 3, 0, 0)), (105, (.istore_n 2, 1, 0, 0)), (106, (.goto (-48), 3, 58, 0)), (109, (.aload_n 0, 1, 0, 0)), (110, (.getfield 48, 3, 0, 0)), (113, (.aload_n 0, 1, 0, 0)), (114, (.getfield 169, 3, 0, 0)), (117, (.iload 4, 2, 0, 0)), (119, (.iastore, 1, 0, 0)), (120, (.aload_n 0, 1, 0, 0)), (121, (.dup, 1, 0, 0)), (122, (.getfield 169, 3, 0, 0)), (125, (.iconst (1), 1, 0, (1))), (126, (.iadd, 1, 0, 0)), (127, (.putfield 169, 3, 0, 0)), (130, (.iinc 1 (1), 3, 0, (1))), (133, (.goto (-126), 3, 7, 0)), (136, (.return_, 1, 0, 0))], [(122, 10, 6), (87, 10, 36), (26, 10, 7), (29, 10, 8), (48, 10, 18), (169, 10, 19)], [(169, 10, 19)], [(160, 106, 2, 10), (151, 101, 2, 10), (163, 105, 2, 10)], 0)
/-- HouseDeskModel.size -/
def mt_111 : mm_M := ([(0, (.iconst (0), 1, 0, (0))), (1, (.istore_n 1, 1, 0, 0)), (2, (.iconst (0), 1, 0, (0))), (3, (.istore_n 2, 1, 0, 0)), (4, (.iload_n 2, 1, 0, 0)), (5, (.bipush (13), 2, 0, (13))), (7, (.if_icmp .ge (17), 3, 24, 0)), (10, (.iload_n 1, 1, 0, 0)), (11, (.iload_n 0, 1, 0, 0)), (12, (.iload_n 2, 1, 0, 0)), (13, (.ishr, 1, 0, 0)), (14, (.iconst (1), 1, 0, (1))), (15, (.iand, 1, 0, 0)), (16, (.iadd, 1, 0, 0)), (17, (.istore_n 1, 1, 0, 0)), (18, (.iinc 2 (1), 3, 0, (1))), (21, (.goto (-17), 3, 4, 0)), (24, (.iload_n 1, 1, 0, 0)), (25, (.ireturn, 1, 0, 0))], [], [], [], 1)
/-- HouseDeskModel.nodeOf -/
def mt_112 : mm_M := ([(0, (.iload_n 1, 1, 0, 0)), (1, (.istore_n 2, 1, 0, 0)), (2, (.iconst (0), 1, 0, (0))), (3, (.istore_n 3, 1, 0, 0)), (4, (.iload_n 0, 1, 0, 0)), (5, (.iload_n 3, 1, 0, 0)), (6, (.ishr, 1, 0, 0)), (7, (.iconst (1), 1, 0, (1))), (8, (.iand, 1, 0, 0)), (9, (.ifCond .eq (7), 3, 16, 0)), (12, (.iload_n 2, 1, 0, 0)), (13, (.ifCond .le (17), 3, 30, 0)), (16, (.iload_n 2, 1, 0, 0)), (17, (.iload_n 0, 1, 0, 0)), (18, (.iload_n 3, 1, 0, 0)), (19, (.ishr, 1, 0, 0)), (20, (.iconst (1), 1, 0, (1))), (21, (.iand, 1, 0, 0)), (22, (.isub, 1, 0, 0)), (23, (.istore_n 2, 1, 0, 0)), (24, (.iinc 3 (1), 3, 0, (1))), (27, (.goto (-23), 3, 4, 0)), (30, (.iload_n 3, 1, 0, 0)), (31, (.ireturn, 1, 0, 0))], [], [], [], 1)
/-- HouseDeskModel.isLess -/
def mt_113 : mm_M := ([(0, (.iconst (0), 1, 0, (0))), (1, (.istore_n 2, 1, 0, 0)), (2, (.iload_n 2, 1, 0, 0)), (3, (.iconst (3), 1, 0, (3))), (4, (.if_icmp .ge (41), 3, 45, 0)), (7, (.iload_n 0, 1, 0, 0)), (8, (.iload_n 2, 1, 0, 0)), (9, (.invokestatic 172, 3, 0, 0)), (12, (.iload_n 1, 1, 0, 0)), (13, (.iload_n 2, 1, 0, 0)), (14, (.invokestatic 172, 3, 0, 0)), (17, (.if_icmp .eq (22), 3, 39, 0)), (20, (.iload_n 0, 1, 0, 0)), (21, (.iload_n 2, 1, 0, 0)), (22, (.invokestatic 172, 3, 0, 0)), (25, (.iload_n 1, 1, 0, 0)), (26, (.iload_n 2, 1, 0, 0)), (27, (.invokestatic 172, 3, 0, 0)), (30, (.if_icmp .ge (7), 3, 37, 0)), (33, (.iconst (1), 1, 0, (1))), (34, (.goto (4), 3, 38, 0)), (37, (.iconst (0), 1, 0, (0))), (38, (.ireturn, 1, 0, 0)), (39, (.iinc 2 (1), 3, 0, (1))), (42, (.goto (-40), 3, 2, 0)), (45, (.iconst (0), 1, 0, (0))), (46, (.ireturn, 1, 0, 0))], [], [], [(172, 112, 2, 99)], 2)
/-- HouseDeskModel.tellSet -/
def mt_114 : mm_M := ([(0, (.aload_n 0, 1, 0, 0)), (1, (.iload_n 1, 1, 0, 0)), (2, (.iload_n 2, 1, 0, 0)), (3, (.iconst (0), 1, 0, (0))), (4, (.invokestatic 172, 3, 0, 0)), (7, (.iload_n 2, 1, 0, 0)), (8, (.iconst (1), 1, 0, (1))), (9, (.invokestatic 172, 3, 0, 0)), (12, (.iload_n 2, 1, 0, 0)), (13, (.iconst (2), 1, 0, (2))), (14, (.invokestatic 172, 3, 0, 0)), (17, (.invokevirtual 147, 3, 0, 0)), (20, (.return_, 1, 0, 0))], [], [], [(172, 112, 2, 99), (147, 100, 4, 10)], 0)
/-- HouseDeskModel.hasGreatFace -/
def mt_115 : mm_M := ([(0, (.iconst (0), 1, 0, (0))), (1, (.istore_n 1, 1, 0, 0)), (2, (.iconst (0), 1, 0, (0))), (3, (.istore_n 2, 1, 0, 0)), (4, (.iload_n 2, 1, 0, 0)), (5, (.aload_n 0, 1, 0, 0)), (6, (.getfield 169, 3, 0, 0)), (9, (.if_icmp .ge (46), 3, 55, 0)), (12, (.aload_n 0, 1, 0, 0)), (13, (.getfield 48, 3, 0, 0)), (16, (.iload_n 2, 1, 0, 0)), (17, (.iaload, 1, 0, 0)), (18, (.invokestatic 175, 3, 0, 0)), (21, (.iconst (3), 1, 0, (3))), (22, (.if_icmp .le (27), 3, 49, 0)), (25, (.iload_n 1, 1, 0, 0)), (26, (.ifCond .eq (16), 3, 42, 0)), (29, (.aload_n 0, 1, 0, 0)), (30, (.getfield 48, 3, 0, 0)), (33, (.iload_n 2, 1, 0, 0)), (34, (.iaload, 1, 0, 0)), (35, (.iload_n 1, 1, 0, 0)), (36, (.invokestatic 179, 3, 0, 0)), (39, (.ifCond .eq (10), 3, 49, 0)), (42, (.aload_n 0, 1, 0, 0)), (43, (.getfield 48, 3, 0, 0)), (46, (.iload_n 2, 1, 0, 0)), (47, (.iaload, 1, 0, 0)), (48, (.istore_n 1, 1, 0, 0)), (49, (.iinc 2 (1), 3, 0, (1))), (52, (.goto (-48), 3, 4, 0)), (55, (.iload_n 1, 1, 0, 0)), (56, (.ifCond .eq (9), 3, 65, 0)), (59, (.aload_n 0, 1, 0, 0)), (60, (.iconst (3), 1, 0, (3))), (61, (.iload_n 1, 1, 0, 0)), (62, (.invokevirtual 182, 3, 0, 0)), (65, (.iload_n 1, 1, 0, 0)), (66, (.ifCond .eq (7), 3, 73, 0)), (69, (.iconst (1), 1, 0, (1))), (70, (.goto (4), 3, 74, 0)), (73, (.iconst (0), 1, 0, (0))), (74, (.ireturn, 1, 0, 0))], [(169, 10, 19), (48, 10, 18)], [], [(175, 111, 1, 99), (179, 113, 2, 99), (182, 114, 2, 10)], 2)
/-- HouseDeskModel.placeOf -/
def mt_116 : mm_M := ([(0, (.iconst (-1), 1, 0, (-1))), (1, (.istore_n 2, 1, 0, 0)), (2, (.iconst (-1), 1, 0, (-1))), (3, (.istore_n 3, 1, 0, 0)), (4, (.iconst (0), 1, 0, (0))), (5, (.istore 4, 2, 0, 0)), (7, (.iload 4, 2, 0, 0)), (9, (.aload_n 0, 1, 0, 0)), (10, (.getfield 166, 3, 0, 0)), (13, (.if_icmp .ge (50), 3, 63, 0)), (16, (.aload_n 0, 1, 0, 0)), (17, (.getfield 45, 3, 0, 0)), (20, (.iload 4, 2, 0, 0)), (22, (.iaload, 1, 0, 0)), (23, (.aload_n 0, 1, 0, 0)), (24, (.getfield 35, 3, 0, 0)), (27, (.iconst (0), 1, 0, (0))), (28, (.iaload, 1, 0, 0)), (29, (.if_icmp .ne (8), 3, 37, 0)), (32, (.iload 4, 2, 0, 0)), (34, (.goto (4), 3, 38, 0)), (37, (.iload_n 2, 1, 0, 0)), (38, (.istore_n 2, 1, 0, 0)), (39, (.aload_n 0, 1, 0, 0)), (40, (.getfield 45, 3, 0, 0)), (43, (.iload 4, 2, 0, 0)), (45, (.iaload, 1, 0, 0)), (46, (.iload_n 1, 1, 0, 0)), (47, (.if_icmp .ne (8), 3, 55, 0)), (50, (.iload 4, 2, 0, 0)), (52, (.goto (4), 3, 56, 0)), (55, (.iload_n 3, 1, 0, 0)), (56, (.istore_n 3, 1, 0, 0)), (57, (.iinc 4 (1), 3, 0, (1))), (60, (.goto (-53), 3, 7, 0)), (63, (.iload_n 2, 1, 0, 0)), (64, (.iconst (-1), 1, 0, (-1))), (65, (.if_icmp .eq (8), 3, 73, 0)), (68, (.iload_n 3, 1, 0, 0)), (69, (.iconst (-1), 1, 0, (-1))), (70, (.if_icmp .ne (7), 3, 77, 0)), (73, (.iconst (-1), 1, 0, (-1))), (74, (.goto (16), 3, 90, 0)), (77, (.iload_n 3, 1, 0, 0)), (78, (.iload_n 2, 1, 0, 0)), (79, (.isub, 1, 0, 0)), (80, (.aload_n 0, 1, 0, 0)), (81, (.getfield 166, 3, 0, 0)), (84, (.iadd, 1, 0, 0)), (85, (.aload_n 0, 1, 0, 0)), (86, (.getfield 166, 3, 0, 0)), (89, (.irem, 1, 0, 0)), (90, (.ireturn, 1, 0, 0))], [(166, 10, 15), (45, 10, 17), (35, 10, 11)], [], [], 1)
/-- HouseDeskModel.layCorners -/
def mt_117 : mm_M := ([(0, (.aload_n 0, 1, 0, 0)), (1, (.getfield 133, 3, 0, 0)), (4, (.ifCond .eq (48), 3, 52, 0)), (7, (.aload_n 0, 1, 0, 0)), (8, (.getfield 35, 3, 0, 0)), (11, (.iconst (0), 1, 0, (0))), (12, (.iaload, 1, 0, 0)), (13, (.aload_n 0, 1, 0, 0)), (14, (.getfield 35, 3, 0, 0)), (17, (.iconst (1), 1, 0, (1))), (18, (.iaload, 1, 0, 0)), (19, (.if_icmp .ne (35), 3, 54, 0)), (22, (.aload_n 0, 1, 0, 0)), (23, (.getfield 35, 3, 0, 0)), (26, (.iconst (1), 1, 0, (1))), (27, (.iaload, 1, 0, 0)), (28, (.aload_n 0, 1, 0, 0)), (29, (.getfield 35, 3, 0, 0)), (32, (.iconst (2), 1, 0, (2))), (33, (.iaload, 1, 0, 0)), (34, (.if_icmp .ne (20), 3, 54, 0)), (37, (.aload_n 0, 1, 0, 0)), (38, (.getfield 35, 3, 0, 0)), (41, (.iconst (2), 1, 0, (2))), (42, (.iaload, 1, 0, 0)), (43, (.aload_n 0, 1, 0, 0)), (44, (.getfield 35, 3, 0, 0)), (47, (.iconst (3), 1, 0, (3))), (48, (.iaload, 1, 0, 0)), (49, (.if_icmp .ne (5), 3, 54, 0)), (52, (.iconst (0), 1, 0, (0))), (53, (.ireturn, 1, 0, 0)), (54, (.iconst (0), 1, 0, (0))), (55, (.istore_n 1, 1, 0, 0)), (56, (.iconst (0), 1, 0, (0))), (57, (.istore_n 2, 1, 0, 0)), (58, (.iload_n 2, 1, 0, 0)), (59, (.iconst (4), 1, 0, (4))), (60, (.if_icmp .ge (57), 3, 117, 0)), (63, (.aload_n 0, 1, 0, 0)), (64, (.aload_n 0, 1, 0, 0)), (65, (.getfield 35, 3, 0, 0)), (68, (.iload_n 2, 1, 0, 0)), (69, (.iaload, 1, 0, 0)), (70, (.invokevirtual 186, 3, 0, 0)), (73, (.istore_n 3, 1, 0, 0)), (74, (.iload_n 3, 1, 0, 0)), (75, (.iconst (-1), 1, 0, (-1))), (76, (.if_icmp .ne (5), 3, 81, 0)), (79, (.iconst (0), 1, 0, (0))), (80, (.ireturn, 1, 0, 0)), (81, (.iload_n 3, 1, 0, 0)), (82, (.iload_n 1, 1, 0, 0)), (83, (.if_icmp .ge (12), 3, 95, 0)), (86, (.iload_n 3, 1, 0, 0)), (87, (.ifCond .ne (8), 3, 95, 0)), (90, (.aload_n 0, 1, 0, 0)), (91, (.getfield 166, 3, 0, 0)), (94, (.istore_n 3, 1, 0, 0)), (95, (.iload_n 3, 1, 0, 0)), (96, (.iload_n 1, 1, 0, 0)), (97, (.if_icmp .ge (5), 3, 102, 0)), (100, (.iconst (0), 1, 0, (0))), (101, (.ireturn, 1, 0, 0)), (102, (.aload_n 0, 1, 0, 0)), (103, (.getfield 66, 3, 0, 0)), (106, (.iload_n 2, 1, 0, 0)), (107, (.iload_n 3, 1, 0, 0)), (108, (.iastore, 1, 0, 0)), (109, (.iload_n 3, 1, 0, 0)), (110, (.istore_n 1, 1, 0, 0)), (111, (.iinc 2 (1), 3, 0, (1))), (114, (.goto (-56), 3, 58, 0)), (117, (.iconst (0), 1, 0, (0))), (118, (.istore_n 2, 1, 0, 0)), (119, (.iload_n 2, 1, 0, 0)), (120, (.iconst (4), 1, 0, (4))), (121, (.if_icmp .ge (35), 3, 156, 0)), (124, (.aload_n 0, 1, 0, 0)), (125, (.getfield 69, 3, 0, 0)), (128, (.iload_n 2, 1, 0, 0)), (129, (.iload_n 2, 1, 0, 0)), (130, (.iconst (3), 1, 0, (3))), (131, (.if_icmp .ge (14), 3, 145, 0)), (134, (.aload_n 0, 1, 0, 0)), (135, (.getfield 66, 3, 0, 0)), (138, (.iload_n 2, 1, 0, 0)), (139, (.iconst (1), 1, 0, (1))), (140, (.iadd, 1, 0, 0)), (141, (.iaload, 1, 0, 0)), (142, (.goto (7), 3, 149, 0)), (145, (.aload_n 0, 1, 0, 0)), (146, (.getfield 166, 3, 0, 0)), (149, (.iastore, 1, 0, 0)), (150, (.iinc 2 (1), 3, 0, (1))), (153, (.goto (-34), 3, 119, 0)), (156, (.iconst (1), 1, 0, (1))), (157, (.ireturn, 1, 0, 0))], [(133, 10, 10), (35, 10, 11), (166, 10, 15), (66, 10, 25), (69, 10, 26)], [], [(186, 116, 1, 10)], 2)
/-- HouseDeskModel.roomAt -/
def mt_118 : mm_M := ([(0, (.iconst (0), 1, 0, (0))), (1, (.istore_n 2, 1, 0, 0)), (2, (.aload_n 0, 1, 0, 0)), (3, (.getfield 45, 3, 0, 0)), (6, (.iload_n 2, 1, 0, 0)), (7, (.iaload, 1, 0, 0)), (8, (.aload_n 0, 1, 0, 0)), (9, (.getfield 35, 3, 0, 0)), (12, (.iconst (0), 1, 0, (0))), (13, (.iaload, 1, 0, 0)), (14, (.if_icmp .eq (9), 3, 23, 0)), (17, (.iinc 2 (1), 3, 0, (1))), (20, (.goto (-18), 3, 2, 0)), (23, (.aload_n 0, 1, 0, 0)), (24, (.getfield 45, 3, 0, 0)), (27, (.iload_n 2, 1, 0, 0)), (28, (.iload_n 1, 1, 0, 0)), (29, (.iadd, 1, 0, 0)), (30, (.aload_n 0, 1, 0, 0)), (31, (.getfield 166, 3, 0, 0)), (34, (.irem, 1, 0, 0)), (35, (.iaload, 1, 0, 0)), (36, (.ireturn, 1, 0, 0))], [(45, 10, 17), (35, 10, 11), (166, 10, 15)], [], [], 1)
/-- HouseDeskModel.link -/
def mt_119 : mm_M := ([(0, (.aload_n 0, 1, 0, 0)), (1, (.getfield 63, 3, 0, 0)), (4, (.iload_n 1, 1, 0, 0)), (5, (.dup2, 1, 0, 0)), (6, (.iaload, 1, 0, 0)), (7, (.iconst (1), 1, 0, (1))), (8, (.iload_n 2, 1, 0, 0)), (9, (.ishl, 1, 0, 0)), (10, (.ior, 1, 0, 0)), (11, (.iastore, 1, 0, 0)), (12, (.aload_n 0, 1, 0, 0)), (13, (.getfield 63, 3, 0, 0)), (16, (.iload_n 2, 1, 0, 0)), (17, (.dup2, 1, 0, 0)), (18, (.iaload, 1, 0, 0)), (19, (.iconst (1), 1, 0, (1))), (20, (.iload_n 1, 1, 0, 0)), (21, (.ishl, 1, 0, 0)), (22, (.ior, 1, 0, 0)), (23, (.iastore, 1, 0, 0)), (24, (.return_, 1, 0, 0))], [(63, 10, 24)], [], [], 0)
/-- HouseDeskModel.linkAll -/
def mt_120 : mm_M := ([(0, (.iconst (0), 1, 0, (0))), (1, (.istore_n 1, 1, 0, 0)), (2, (.iload_n 1, 1, 0, 0)), (3, (.bipush (13), 2, 0, (13))), (5, (.if_icmp .ge (16), 3, 21, 0)), (8, (.aload_n 0, 1, 0, 0)), (9, (.getfield 63, 3, 0, 0)), (12, (.iload_n 1, 1, 0, 0)), (13, (.iconst (0), 1, 0, (0))), (14, (.iastore, 1, 0, 0)), (15, (.iinc 1 (1), 3, 0, (1))), (18, (.goto (-16), 3, 2, 0)), (21, (.iconst (0), 1, 0, (0))), (22, (.istore_n 1, 1, 0, 0)), (23, (.iload_n 1, 1, 0, 0)), (24, (.aload_n 0, 1, 0, 0)), (25, (.getfield 122, 3, 0, 0)), (28, (.if_icmp .ge (25), 3, 53, 0)), (31, (.aload_n 0, 1, 0, 0)), (32, (.aload_n 0, 1, 0, 0)), (33, (.getfield 26, 3, 0, 0)), (36, (.iload_n 1, 1, 0, 0)), (37, (.iaload, 1, 0, 0)), (38, (.aload_n 0, 1, 0, 0)), (39, (.getfield 29, 3, 0, 0)), (42, (.iload_n 1, 1, 0, 0)), (43, (.iaload, 1, 0, 0)), (44, (.invokevirtual 189, 3, 0, 0)), (47, (.iinc 1 (1), 3, 0, (1))), (50, (.goto (-27), 3, 23, 0)), (53, (.iconst (0), 1, 0, (0))), (54, (.istore_n 1, 1, 0, 0)), (55, (.iload_n 1, 1, 0, 0)), (56, (.iconst (4), 1, 0, (4))), (57, (.if_icmp .ge (61), 3, 118, 0)), (60, (.aload_n 0, 1, 0, 0)), (61, (.getfield 66, 3, 0, 0)), (64, (.iload_n 1, 1, 0, 0)), (65, (.iaload, 1, 0, 0)), (66, (.istore_n 2, 1, 0, 0)), (67, (.iload_n 2, 1, 0, 0)), (68, (.aload_n 0, 1, 0, 0)), (69, (.getfield 69, 3, 0, 0)), (72, (.iload_n 1, 1, 0, 0)), (73, (.iaload, 1, 0, 0)), (74, (.if_icmp .gt (22), 3, 96, 0)), (77, (.aload_n 0, 1, 0, 0)), (78, (.bipush (9), 2, 0, (9))), (80, (.iload_n 1, 1, 0, 0)), (81, (.iadd, 1, 0, 0)), (82, (.aload_n 0, 1, 0, 0)), (83, (.iload_n 2, 1, 0, 0)), (84, (.invokevirtual 192, 3, 0, 0)), (87, (.invokevirtual 189, 3, 0, 0)), (90, (.iinc 2 (1), 3, 0, (1))), (93, (.goto (-26), 3, 67, 0)), (96, (.aload_n 0, 1, 0, 0)), (97, (.bipush (9), 2, 0, (9))), (99, (.iload_n 1, 1, 0, 0)), (100, (.iadd, 1, 0, 0)), (101, (.bipush (9), 2, 0, (9))), (103, (.iload_n 1, 1, 0, 0)), (104, (.iconst (1), 1, 0, (1))), (105, (.iadd, 1, 0, 0)), (106, (.iconst (4), 1, 0, (4))), (107, (.irem, 1, 0, 0)), (108, (.iadd, 1, 0, 0)), (109, (.invokevirtual 189, 3, 0, 0)), (112, (.iinc 1 (1), 3, 0, (1))), (115, (.goto (-60), 3, 55, 0)), (118, (.return_, 1, 0, 0))], [(63, 10, 24), (122, 10, 6), (26, 10, 7), (29, 10, 8), (66, 10, 25), (69, 10, 26)], [], [(189, 119, 2, 10), (192, 118, 1, 10)], 0)
/-- HouseDeskModel.isFace -/
def mt_121 : mm_M := ([(0, (.iconst (0), 1, 0, (0))), (1, (.istore_n 2, 1, 0, 0)), (2, (.iload_n 2, 1, 0, 0)), (3, (.aload_n 0, 1, 0, 0)), (4, (.getfield 169, 3, 0, 0)), (7, (.if_icmp .ge (21), 3, 28, 0)), (10, (.aload_n 0, 1, 0, 0)), (11, (.getfield 48, 3, 0, 0)), (14, (.iload_n 2, 1, 0, 0)), (15, (.iaload, 1, 0, 0)), (16, (.iload_n 1, 1, 0, 0)), (17, (.if_icmp .ne (5), 3, 22, 0)), (20, (.iconst (1), 1, 0, (1))), (21, (.ireturn, 1, 0, 0)), (22, (.iinc 2 (1), 3, 0, (1))), (25, (.goto (-23), 3, 2, 0)), (28, (.iconst (0), 1, 0, (0))), (29, (.istore_n 2, 1, 0, 0)), (30, (.iload_n 2, 1, 0, 0)), (31, (.iconst (4), 1, 0, (4))), (32, (.if_icmp .ge (98), 3, 130, 0)), (35, (.aload_n 0, 1, 0, 0)), (36, (.getfield 66, 3, 0, 0)), (39, (.iload_n 2, 1, 0, 0)), (40, (.iaload, 1, 0, 0)), (41, (.istore_n 3, 1, 0, 0)), (42, (.iload_n 3, 1, 0, 0)), (43, (.aload_n 0, 1, 0, 0)), (44, (.getfield 69, 3, 0, 0)), (47, (.iload_n 2, 1, 0, 0)), (48, (.iaload, 1, 0, 0)), (49, (.if_icmp .ge (39), 3, 88, 0)), (52, (.iload_n 1, 1, 0, 0)), (53, (.iconst (1), 1, 0, (1))), (54, (.bipush (9), 2, 0, (9))), (56, (.iload_n 2, 1, 0, 0)), (57, (.iadd, 1, 0, 0)), (58, (.ishl, 1, 0, 0)), (59, (.iconst (1), 1, 0, (1))), (60, (.aload_n 0, 1, 0, 0)), (61, (.iload_n 3, 1, 0, 0)), (62, (.invokevirtual 192, 3, 0, 0)), (65, (.ishl, 1, 0, 0)), (66, (.ior, 1, 0, 0)), (67, (.iconst (1), 1, 0, (1))), (68, (.aload_n 0, 1, 0, 0)), (69, (.iload_n 3, 1, 0, 0)), (70, (.iconst (1), 1, 0, (1))), (71, (.iadd, 1, 0, 0)), (72, (.invokevirtual 192, 3, 0, 0)), (75, (.ishl, 1, 0, 0)), (76, (.ior, 1, 0, 0)), (77, (.if_icmp .ne (5), 3, 82, 0)), (80, (.iconst (1), 1, 0, (1))), (81, (.ireturn, 1, 0, 0)), (82, (.iinc 3 (1), 3, 0, (1))), (85, (.goto (-43), 3, 42, 0)), (88, (.iload_n 1, 1, 0, 0)), (89, (.iconst (1), 1, 0, (1))), (90, (.bipush (9), 2, 0, (9))), (92, (.iload_n 2, 1, 0, 0)), (93, (.iadd, 1, 0, 0)), (94, (.ishl, 1, 0, 0)), (95, (.iconst (1), 1, 0, (1))), (96, (.bipush (9), 2, 0, (9))), (98, (.iload_n 2, 1, 0, 0)), (99, (.iconst (1), 1, 0, (1))), (100, (.iadd, 1, 0, 0)), (101, (.iconst (4), 1, 0, (4))), (102, (.irem, 1, 0, 0)), (103, (.iadd, 1, 0, 0)), (104, (.ishl, 1, 0, 0)), (105, (.ior, 1, 0, 0)), (106, (.iconst (1), 1, 0, (1))), (107, (.aload_n 0, 1, 0, 0)), (108, (.aload_n 0, 1, 0, 0)), (109, (.getfield 69, 3, 0, 0)), (112, (.iload_n 2, 1, 0, 0)), (113, (.iaload, 1, 0, 0)), (114, (.invokevirtual 192, 3, 0, 0)), (117, (.ishl, 1, 0, 0)), (118, (.ior, 1, 0, 0)), (119, (.if_icmp .ne (5), 3, 124, 0)), (122, (.iconst (1), 1, 0, (1))), (123, (.ireturn, 1, 0, 0)), (124, (.iinc 2 (1), 3, 0, (1))), (127, (.goto (-97), 3, 30, 0)), (130, (.iconst (0), 1, 0, (0))), (131, (.ireturn, 1, 0, 0))], [(169, 10, 19), (48, 10, 18), (66, 10, 25), (69, 10, 26)], [], [(192, 118, 1, 10)], 2)
/-- HouseDeskModel.hasTriangle -/
def mt_122 : mm_M := ([(0, (.iconst (0), 1, 0, (0))), (1, (.istore_n 1, 1, 0, 0)), (2, (.iload_n 1, 1, 0, 0)), (3, (.bipush (13), 2, 0, (13))), (5, (.if_icmp .ge (109), 3, 114, 0)), (8, (.iload_n 1, 1, 0, 0)), (9, (.iconst (1), 1, 0, (1))), (10, (.iadd, 1, 0, 0)), (11, (.istore_n 2, 1, 0, 0)), (12, (.iload_n 2, 1, 0, 0)), (13, (.bipush (13), 2, 0, (13))), (15, (.if_icmp .ge (93), 3, 108, 0)), (18, (.iload_n 2, 1, 0, 0)), (19, (.iconst (1), 1, 0, (1))), (20, (.iadd, 1, 0, 0)), (21, (.istore_n 3, 1, 0, 0)), (22, (.iload_n 3, 1, 0, 0)), (23, (.bipush (13), 2, 0, (13))), (25, (.if_icmp .ge (77), 3, 102, 0)), (28, (.aload_n 0, 1, 0, 0)), (29, (.getfield 63, 3, 0, 0)), (32, (.iload_n 1, 1, 0, 0)), (33, (.iaload, 1, 0, 0)), (34, (.iload_n 2, 1, 0, 0)), (35, (.ishr, 1, 0, 0)), (36, (.aload_n 0, 1, 0, 0)), (37, (.getfield 63, 3, 0, 0)), (40, (.iload_n 1, 1, 0, 0)), (41, (.iaload, 1, 0, 0)), (42, (.iload_n 3, 1, 0, 0)), (43, (.ishr, 1, 0, 0)), (44, (.iand, 1, 0, 0)), (45, (.aload_n 0, 1, 0, 0)), (46, (.getfield 63, 3, 0, 0)), (49, (.iload_n 2, 1, 0, 0)), (50, (.iaload, 1, 0, 0)), (51, (.iload_n 3, 1, 0, 0)), (52, (.ishr, 1, 0, 0)), (53, (.iand, 1, 0, 0)), (54, (.iconst (1), 1, 0, (1))), (55, (.iand, 1, 0, 0)), (56, (.ifCond .ne (6), 3, 62, 0)), (59, (.goto (37), 3, 96, 0)), (62, (.iconst (1), 1, 0, (1))), (63, (.iload_n 1, 1, 0, 0)), (64, (.ishl, 1, 0, 0)), (65, (.iconst (1), 1, 0, (1))), (66, (.iload_n 2, 1, 0, 0)), (67, (.ishl, 1, 0, 0)), (68, (.ior, 1, 0, 0)), (69, (.iconst (1), 1, 0, (1))), (70, (.iload_n 3, 1, 0, 0)), (71, (.ishl, 1, 0, 0)), (72, (.ior, 1, 0, 0)), (73, (.istore 4, 2, 0, 0)), (75, (.aload_n 0, 1, 0, 0)), (76, (.iload 4, 2, 0, 0)), (78, (.invokevirtual 195, 3, 0, 0)), (81, (.ifCond .eq (6), 3, 87, 0)), (84, (.goto (12), 3, 96, 0)), (87, (.aload_n 0, 1, 0, 0)), (88, (.iconst (5), 1, 0, (5))), (89, (.iload 4, 2, 0, 0)), (91, (.invokevirtual 182, 3, 0, 0)), (94, (.iconst (1), 1, 0, (1))), (95, (.ireturn, 1, 0, 0)), (96, (.iinc 3 (1), 3, 0, (1))), (99, (.goto (-77), 3, 22, 0)), (102, (.iinc 2 (1), 3, 0, (1))), (105, (.goto (-93), 3, 12, 0)), (108, (.iinc 1 (1), 3, 0, (1))), (111, (.goto (-109), 3, 2, 0)), (114, (.iconst (0), 1, 0, (0))), (115, (.ireturn, 1, 0, 0))], [(63, 10, 24)], [], [(195, 121, 1, 10), (182, 114, 2, 10)], 2)
/-- HouseDeskModel.layRings -/
def mt_123 : mm_M := ([(0, (.iconst (0), 1, 0, (0))), (1, (.istore_n 1, 1, 0, 0)), (2, (.iload_n 1, 1, 0, 0)), (3, (.bipush (9), 2, 0, (9))), (5, (.if_icmp .ge (66), 3, 71, 0)), (8, (.aload_n 0, 1, 0, 0)), (9, (.getfield 57, 3, 0, 0)), (12, (.iload_n 1, 1, 0, 0)), (13, (.iconst (0), 1, 0, (0))), (14, (.iastore, 1, 0, 0)), (15, (.iconst (0), 1, 0, (0))), (16, (.istore_n 2, 1, 0, 0)), (17, (.iload_n 2, 1, 0, 0)), (18, (.aload_n 0, 1, 0, 0)), (19, (.getfield 51, 3, 0, 0)), (22, (.iload_n 1, 1, 0, 0)), (23, (.iaload, 1, 0, 0)), (24, (.if_icmp .ge (41), 3, 65, 0)), (27, (.aload_n 0, 1, 0, 0)), (28, (.getfield 54, 3, 0, 0)), (31, (.bipush (16), 2, 0, (16))), (33, (.iload_n 1, 1, 0, 0)), (34, (.imul, 1, 0, 0)), (35, (.iload_n 2, 1, 0, 0)), (36, (.iadd, 1, 0, 0)), (37, (.iaload, 1, 0, 0)), (38, (.istore_n 3, 1, 0, 0)), (39, (.aload_n 0, 1, 0, 0)), (40, (.iload_n 1, 1, 0, 0)), (41, (.iload_n 3, 1, 0, 0)), (42, (.invokevirtual 198, 3, 0, 0)), (45, (.aload_n 0, 1, 0, 0)), (46, (.iload_n 1, 1, 0, 0)), (47, (.invokevirtual 201, 3, 0, 0)), (50, (.iload_n 3, 1, 0, 0)), (51, (.if_icmp .ne (8), 3, 59, 0)), (54, (.aload_n 0, 1, 0, 0)), (55, (.iload_n 1, 1, 0, 0)), (56, (.invokevirtual 204, 3, 0, 0)), (59, (.iinc 2 (1), 3, 0, (1))), (62, (.goto (-45), 3, 17, 0)), (65, (.iinc 1 (1), 3, 0, (1))), (68, (.goto (-66), 3, 2, 0)), (71, (.return_, 1, 0, 0))], [(57, 10, 22), (51, 10, 20), (54, 10, 21)], [], [(198, 124, 2, 10), (201, 125, 1, 10), (204, 126, 1, 10)], 0)
/-- HouseDeskModel.add -/
def mt_124 : mm_M := ([(0, (.aload_n 0, 1, 0, 0)), (1, (.getfield 60, 3, 0, 0)), (4, (.bipush (16), 2, 0, (16))), (6, (.iload_n 1, 1, 0, 0)), (7, (.imul, 1, 0, 0)), (8, (.aload_n 0, 1, 0, 0)), (9, (.getfield 57, 3, 0, 0)), (12, (.iload_n 1, 1, 0, 0)), (13, (.iaload, 1, 0, 0)), (14, (.iadd, 1, 0, 0)), (15, (.iload_n 2, 1, 0, 0)), (16, (.iastore, 1, 0, 0)), (17, (.aload_n 0, 1, 0, 0)), (18, (.getfield 57, 3, 0, 0)), (21, (.iload_n 1, 1, 0, 0)), (22, (.dup2, 1, 0, 0)), (23, (.iaload, 1, 0, 0)), (24, (.iconst (1), 1, 0, (1))), (25, (.iadd, 1, 0, 0)), (26, (.iastore, 1, 0, 0)), (27, (.return_, 1, 0, 0))], [(60, 10, 23), (57, 10, 22)], [], [], 0)
/-- HouseDeskModel.comesBy -/
def mt_125 : mm_M := ([(0, (.iconst (0), 1, 0, (0))), (1, (.istore_n 2, 1, 0, 0)), (2, (.iload_n 2, 1, 0, 0)), (3, (.aload_n 0, 1, 0, 0)), (4, (.getfield 166, 3, 0, 0)), (7, (.if_icmp .ge (43), 3, 50, 0)), (10, (.aload_n 0, 1, 0, 0)), (11, (.getfield 45, 3, 0, 0)), (14, (.iload_n 2, 1, 0, 0)), (15, (.iaload, 1, 0, 0)), (16, (.iload_n 1, 1, 0, 0)), (17, (.if_icmp .ne (27), 3, 44, 0)), (20, (.aload_n 0, 1, 0, 0)), (21, (.aload_n 0, 1, 0, 0)), (22, (.getfield 45, 3, 0, 0)), (25, (.iload_n 2, 1, 0, 0)), (26, (.aload_n 0, 1, 0, 0)), (27, (.getfield 166, 3, 0, 0)), (30, (.iadd, 1, 0, 0)), (31, (.iconst (1), 1, 0, (1))), (32, (.isub, 1, 0, 0)), (33, (.aload_n 0, 1, 0, 0)), (34, (.getfield 166, 3, 0, 0)), (37, (.irem, 1, 0, 0)), (38, (.iaload, 1, 0, 0)), (39, (.iload_n 1, 1, 0, 0)), (40, (.invokevirtual 129, 3, 0, 0)), (43, (.ireturn, 1, 0, 0)), (44, (.iinc 2 (1), 3, 0, (1))), (47, (.goto (-45), 3, 2, 0)), (50, (.iconst (-1), 1, 0, (-1))), (51, (.ireturn, 1, 0, 0))], [(166, 10, 15), (45, 10, 17)], [], [(129, 90, 2, 10)], 1)
/-- HouseDeskModel.addSides -/
def mt_126 : mm_M := ([(0, (.aload_n 0, 1, 0, 0)), (1, (.iload_n 1, 1, 0, 0)), (2, (.invokevirtual 186, 3, 0, 0)), (5, (.istore_n 2, 1, 0, 0)), (6, (.iconst (0), 1, 0, (0))), (7, (.istore_n 3, 1, 0, 0)), (8, (.iload_n 3, 1, 0, 0)), (9, (.iconst (4), 1, 0, (4))), (10, (.if_icmp .ge (35), 3, 45, 0)), (13, (.iload_n 2, 1, 0, 0)), (14, (.ifCond .ne (31), 3, 45, 0)), (17, (.aload_n 0, 1, 0, 0)), (18, (.getfield 69, 3, 0, 0)), (21, (.iload_n 3, 1, 0, 0)), (22, (.iaload, 1, 0, 0)), (23, (.aload_n 0, 1, 0, 0)), (24, (.getfield 166, 3, 0, 0)), (27, (.if_icmp .ne (12), 3, 39, 0)), (30, (.aload_n 0, 1, 0, 0)), (31, (.iload_n 1, 1, 0, 0)), (32, (.bipush (41), 2, 0, (41))), (34, (.iload_n 3, 1, 0, 0)), (35, (.iadd, 1, 0, 0)), (36, (.invokevirtual 198, 3, 0, 0)), (39, (.iinc 3 (1), 3, 0, (1))), (42, (.goto (-34), 3, 8, 0)), (45, (.iconst (0), 1, 0, (0))), (46, (.istore_n 3, 1, 0, 0)), (47, (.iload_n 3, 1, 0, 0)), (48, (.iconst (4), 1, 0, (4))), (49, (.if_icmp .ge (51), 3, 100, 0)), (52, (.aload_n 0, 1, 0, 0)), (53, (.getfield 66, 3, 0, 0)), (56, (.iload_n 3, 1, 0, 0)), (57, (.iaload, 1, 0, 0)), (58, (.iload_n 2, 1, 0, 0)), (59, (.if_icmp .gt (35), 3, 94, 0)), (62, (.aload_n 0, 1, 0, 0)), (63, (.getfield 69, 3, 0, 0)), (66, (.iload_n 3, 1, 0, 0)), (67, (.iaload, 1, 0, 0)), (68, (.iload_n 2, 1, 0, 0)), (69, (.if_icmp .lt (25), 3, 94, 0)), (72, (.aload_n 0, 1, 0, 0)), (73, (.getfield 66, 3, 0, 0)), (76, (.iload_n 3, 1, 0, 0)), (77, (.iaload, 1, 0, 0)), (78, (.aload_n 0, 1, 0, 0)), (79, (.getfield 166, 3, 0, 0)), (82, (.if_icmp .ge (12), 3, 94, 0)), (85, (.aload_n 0, 1, 0, 0)), (86, (.iload_n 1, 1, 0, 0)), (87, (.bipush (41), 2, 0, (41))), (89, (.iload_n 3, 1, 0, 0)), (90, (.iadd, 1, 0, 0)), (91, (.invokevirtual 198, 3, 0, 0)), (94, (.iinc 3 (1), 3, 0, (1))), (97, (.goto (-50), 3, 47, 0)), (100, (.return_, 1, 0, 0))], [(69, 10, 26), (166, 10, 15), (66, 10, 25)], [], [(186, 116, 1, 10), (198, 124, 2, 10)], 0)
/-- HouseDeskModel.sideOf -/
def mt_127 : mm_M := ([(0, (.iload_n 0, 1, 0, 0)), (1, (.bipush (20), 2, 0, (20))), (3, (.isub, 1, 0, 0)), (4, (.bipush (21), 2, 0, (21))), (6, (.isub, 1, 0, 0)), (7, (.ireturn, 1, 0, 0))], [], [], [], 1)
/-- HouseDeskModel.directionOf -/
def mt_128 : mm_M := ([(0, (.aload_n 0, 1, 0, 0)), (1, (.getfield 26, 3, 0, 0)), (4, (.iload_n 1, 1, 0, 0)), (5, (.iaload, 1, 0, 0)), (6, (.iload_n 2, 1, 0, 0)), (7, (.if_icmp .ne (7), 3, 14, 0)), (10, (.iconst (1), 1, 0, (1))), (11, (.goto (4), 3, 15, 0)), (14, (.iconst (0), 1, 0, (0))), (15, (.istore 4, 2, 0, 0)), (17, (.iload_n 3, 1, 0, 0)), (18, (.ifCond .ne (14), 3, 32, 0)), (21, (.iload 4, 2, 0, 0)), (23, (.ifCond .eq (7), 3, 30, 0)), (26, (.iconst (2), 1, 0, (2))), (27, (.goto (4), 3, 31, 0)), (30, (.iconst (3), 1, 0, (3))), (31, (.ireturn, 1, 0, 0)), (32, (.iload_n 3, 1, 0, 0)), (33, (.iconst (1), 1, 0, (1))), (34, (.if_icmp .ne (14), 3, 48, 0)), (37, (.iload 4, 2, 0, 0)), (39, (.ifCond .eq (7), 3, 46, 0)), (42, (.iconst (0), 1, 0, (0))), (43, (.goto (4), 3, 47, 0)), (46, (.iconst (1), 1, 0, (1))), (47, (.ireturn, 1, 0, 0)), (48, (.iload_n 3, 1, 0, 0)), (49, (.iconst (2), 1, 0, (2))), (50, (.if_icmp .ne (14), 3, 64, 0)), (53, (.iload 4, 2, 0, 0)), (55, (.ifCond .eq (7), 3, 62, 0)), (58, (.iconst (3), 1, 0, (3))), (59, (.goto (4), 3, 63, 0)), (62, (.iconst (2), 1, 0, (2))), (63, (.ireturn, 1, 0, 0)), (64, (.iload 4, 2, 0, 0)), (66, (.ifCond .eq (7), 3, 73, 0)), (69, (.iconst (1), 1, 0, (1))), (70, (.goto (4), 3, 74, 0)), (73, (.iconst (0), 1, 0, (0))), (74, (.ireturn, 1, 0, 0))], [(26, 10, 7)], [], [], 1)
/-- HouseDeskModel.cutOn -/
def mt_129 : mm_M := ([(0, (.aload_n 0, 1, 0, 0)), (1, (.getfield 57, 3, 0, 0)), (4, (.aload_n 0, 1, 0, 0)), (5, (.getfield 90, 3, 0, 0)), (8, (.iload_n 1, 1, 0, 0)), (9, (.iaload, 1, 0, 0)), (10, (.iaload, 1, 0, 0)), (11, (.istore_n 2, 1, 0, 0)), (12, (.iload_n 2, 1, 0, 0)), (13, (.iconst (4), 1, 0, (4))), (14, (.if_icmp .ge (5), 3, 19, 0)), (17, (.iconst (0), 1, 0, (0))), (18, (.ireturn, 1, 0, 0)), (19, (.aload_n 0, 1, 0, 0)), (20, (.getfield 93, 3, 0, 0)), (23, (.iload_n 1, 1, 0, 0)), (24, (.iaload, 1, 0, 0)), (25, (.iconst (-1), 1, 0, (-1))), (26, (.if_icmp .ne (33), 3, 59, 0)), (29, (.aload_n 0, 1, 0, 0)), (30, (.getfield 93, 3, 0, 0)), (33, (.iload_n 1, 1, 0, 0)), (34, (.iconst (0), 1, 0, (0))), (35, (.iastore, 1, 0, 0)), (36, (.aload_n 0, 1, 0, 0)), (37, (.getfield 96, 3, 0, 0)), (40, (.iload_n 1, 1, 0, 0)), (41, (.iconst (1), 1, 0, (1))), (42, (.iastore, 1, 0, 0)), (43, (.aload_n 0, 1, 0, 0)), (44, (.getfield 99, 3, 0, 0)), (47, (.iload_n 1, 1, 0, 0)), (48, (.iconst (1), 1, 0, (1))), (49, (.iastore, 1, 0, 0)), (50, (.aload_n 0, 1, 0, 0)), (51, (.getfield 102, 3, 0, 0)), (54, (.iload_n 1, 1, 0, 0)), (55, (.iconst (1), 1, 0, (1))), (56, (.iastore, 1, 0, 0)), (57, (.iconst (1), 1, 0, (1))), (58, (.ireturn, 1, 0, 0)), (59, (.aload_n 0, 1, 0, 0)), (60, (.getfield 102, 3, 0, 0)), (63, (.iload_n 1, 1, 0, 0)), (64, (.dup2, 1, 0, 0)), (65, (.iaload, 1, 0, 0)), (66, (.iconst (1), 1, 0, (1))), (67, (.iadd, 1, 0, 0)), (68, (.iastore, 1, 0, 0)), (69, (.aload_n 0, 1, 0, 0)), (70, (.getfield 102, 3, 0, 0)), (73, (.iload_n 1, 1, 0, 0)), (74, (.iaload, 1, 0, 0)), (75, (.iload_n 2, 1, 0, 0)), (76, (.iconst (1), 1, 0, (1))), (77, (.isub, 1, 0, 0)), (78, (.aload_n 0, 1, 0, 0)), (79, (.getfield 96, 3, 0, 0)), (82, (.iload_n 1, 1, 0, 0)), (83, (.iaload, 1, 0, 0)), (84, (.isub, 1, 0, 0)), (85, (.aload_n 0, 1, 0, 0)), (86, (.getfield 99, 3, 0, 0)), (89, (.iload_n 1, 1, 0, 0)), (90, (.iaload, 1, 0, 0)), (91, (.isub, 1, 0, 0)), (92, (.if_icmp .le (20), 3, 112, 0)), (95, (.aload_n 0, 1, 0, 0)), (96, (.getfield 102, 3, 0, 0)), (99, (.iload_n 1, 1, 0, 0)), (100, (.iconst (1), 1, 0, (1))), (101, (.iastore, 1, 0, 0)), (102, (.aload_n 0, 1, 0, 0)), (103, (.getfield 99, 3, 0, 0)), (106, (.iload_n 1, 1, 0, 0)), (107, (.dup2, 1, 0, 0)), (108, (.iaload, 1, 0, 0)), (109, (.iconst (1), 1, 0, (1))), (110, (.iadd, 1, 0, 0)), (111, (.iastore, 1, 0, 0)), (112, (.aload_n 0, 1, 0, 0)), (113, (.getfield 99, 3, 0, 0)), (116, (.iload_n 1, 1, 0, 0)), (117, (.iaload, 1, 0, 0)), (118, (.iload_n 2, 1, 0, 0)), (119, (.iconst (2), 1, 0, (2))), (120, (.isub, 1, 0, 0)), (121, (.aload_n 0, 1, 0, 0)), (122, (.getfield 96, 3, 0, 0)), (125, (.iload_n 1, 1, 0, 0)), (126, (.iaload, 1, 0, 0)), (127, (.isub, 1, 0, 0)), (128, (.if_icmp .le (20), 3, 148, 0)), (131, (.aload_n 0, 1, 0, 0)), (132, (.getfield 99, 3, 0, 0)), (135, (.iload_n 1, 1, 0, 0)), (136, (.iconst (1), 1, 0, (1))), (137, (.iastore, 1, 0, 0)), (138, (.aload_n 0, 1, 0, 0)), (139, (.getfield 96, 3, 0, 0)), (142, (.iload_n 1, 1, 0, 0)), (143, (.dup2, 1, 0, 0)), (144, (.iaload, 1, 0, 0)), (145, (.iconst (1), 1, 0, (1))), (146, (.iadd, 1, 0, 0)), (147, (.iastore, 1, 0, 0)), (148, (.aload_n 0, 1, 0, 0)), (149, (.getfield 96, 3, 0, 0)), (152, (.iload_n 1, 1, 0, 0)), (153, (.iaload, 1, 0, 0)), (154, (.iload_n 2, 1, 0, 0)), (155, (.iconst (3), 1, 0, (3))), (156, (.isub, 1, 0, 0)), (157, (.if_icmp .le (20), 3, 177, 0)), (160, (.aload_n 0, 1, 0, 0)), (161, (.getfield 96, 3, 0, 0)), (164, (.iload_n 1, 1, 0, 0)), (165, (.iconst (1), 1, 0, (1))), (166, (.iastore, 1, 0, 0)), (167, (.aload_n 0, 1, 0, 0)), (168, (.getfield 93, 3, 0, 0)), (171, (.iload_n 1, 1, 0, 0)), (172, (.dup2, 1, 0, 0)), (173, (.iaload, 1, 0, 0)), (174, (.iconst (1), 1, 0, (1))), (175, (.iadd, 1, 0, 0)), (176, (.iastore, 1, 0, 0)), (177, (.aload_n 0, 1, 0, 0)), (178, (.getfield 93, 3, 0, 0)), (181, (.iload_n 1, 1, 0, 0)), (182, (.iaload, 1, 0, 0)), (183, (.iload_n 2, 1, 0, 0)), (184, (.if_icmp .ge (7), 3, 191, 0)), (187, (.iconst (1), 1, 0, (1))), (188, (.goto (4), 3, 192, 0)), (191, (.iconst (0), 1, 0, (0))), (192, (.ireturn, 1, 0, 0))], [(57, 10, 22), (90, 10, 38), (93, 10, 39), (96, 10, 40), (99, 10, 41), (102, 10, 42)], [], [], 2)
/-- HouseDeskModel.takeBack -/
def mt_130 : mm_M := ([(0, (.iconst (0), 1, 0, (0))), (1, (.istore_n 2, 1, 0, 0)), (2, (.iload_n 2, 1, 0, 0)), (3, (.aload_n 0, 1, 0, 0)), (4, (.getfield 122, 3, 0, 0)), (7, (.if_icmp .ge (30), 3, 37, 0)), (10, (.aload_n 0, 1, 0, 0)), (11, (.getfield 105, 3, 0, 0)), (14, (.iload_n 1, 1, 0, 0)), (15, (.iaload, 1, 0, 0)), (16, (.iload_n 2, 1, 0, 0)), (17, (.ishr, 1, 0, 0)), (18, (.iconst (1), 1, 0, (1))), (19, (.iand, 1, 0, 0)), (20, (.iconst (1), 1, 0, (1))), (21, (.if_icmp .ne (10), 3, 31, 0)), (24, (.aload_n 0, 1, 0, 0)), (25, (.getfield 72, 3, 0, 0)), (28, (.iload_n 2, 1, 0, 0)), (29, (.iconst (-1), 1, 0, (-1))), (30, (.iastore, 1, 0, 0)), (31, (.iinc 2 (1), 3, 0, (1))), (34, (.goto (-32), 3, 2, 0)), (37, (.aload_n 0, 1, 0, 0)), (38, (.getfield 105, 3, 0, 0)), (41, (.iload_n 1, 1, 0, 0)), (42, (.iconst (0), 1, 0, (0))), (43, (.iastore, 1, 0, 0)), (44, (.return_, 1, 0, 0))], [(122, 10, 6), (105, 10, 43), (72, 10, 27)], [], [], 0)
/-- HouseDeskModel.search -/
def mt_131 : mm_M := ([(0, (.aload_n 0, 1, 0, 0)), (1, (.iconst (0), 1, 0, (0))), (2, (.putfield 208, 3, 0, 0)), (5, (.iconst (0), 1, 0, (0))), (6, (.istore_n 1, 1, 0, 0)), (7, (.iload_n 1, 1, 0, 0)), (8, (.bipush (9), 2, 0, (9))), (10, (.if_icmp .ge (51), 3, 61, 0)), (13, (.aload_n 0, 1, 0, 0)), (14, (.getfield 7, 3, 0, 0)), (17, (.iload_n 1, 1, 0, 0)), (18, (.baload, 1, 0, 0)), (19, (.ifCond .ne (6), 3, 25, 0)), (22, (.goto (33), 3, 55, 0)), (25, (.aload_n 0, 1, 0, 0)), (26, (.getfield 90, 3, 0, 0)), (29, (.aload_n 0, 1, 0, 0)), (30, (.getfield 208, 3, 0, 0)), (33, (.iload_n 1, 1, 0, 0)), (34, (.iastore, 1, 0, 0)), (35, (.aload_n 0, 1, 0, 0)), (36, (.getfield 105, 3, 0, 0)), (39, (.aload_n 0, 1, 0, 0)), (40, (.getfield 208, 3, 0, 0)), (43, (.iconst (0), 1, 0, (0))), (44, (.iastore, 1, 0, 0)), (45, (.aload_n 0, 1, 0, 0)), (46, (.dup, 1, 0, 0)), (47, (.getfield 208, 3, 0, 0)), (50, (.iconst (1), 1, 0, (1))), (51, (.iadd, 1, 0, 0)), (52, (.putfield 208, 3, 0, 0)), (55, (.iinc 1 (1), 3, 0, (1))), (58, (.goto (-51), 3, 7, 0)), (61, (.iconst (0), 1, 0, (0))), (62, (.istore_n 1, 1, 0, 0)), (63, (.aload_n 0, 1, 0, 0)), (64, (.getfield 93, 3, 0, 0)), (67, (.iconst (0), 1, 0, (0))), (68, (.iconst (-1), 1, 0, (-1))), (69, (.iastore, 1, 0, 0)), (70, (.iload_n 1, 1, 0, 0)), (71, (.ifCond .lt (67), 3, 138, 0)), (74, (.aload_n 0, 1, 0, 0)), (75, (.iload_n 1, 1, 0, 0)), (76, (.invokevirtual 211, 3, 0, 0)), (79, (.aload_n 0, 1, 0, 0)), (80, (.iload_n 1, 1, 0, 0)), (81, (.invokevirtual 214, 3, 0, 0)), (84, (.ifCond .ne (9), 3, 93, 0)), (87, (.iinc 1 (-1), 3, 0, (-1))), (90, (.goto (-20), 3, 70, 0)), (93, (.aload_n 0, 1, 0, 0)), (94, (.iload_n 1, 1, 0, 0)), (95, (.invokevirtual 217, 3, 0, 0)), (98, (.ifCond .eq (-28), 3, 70, 0)), (101, (.aload_n 0, 1, 0, 0)), (102, (.invokevirtual 220, 3, 0, 0)), (105, (.ifCond .eq (-35), 3, 70, 0)), (108, (.iload_n 1, 1, 0, 0)), (109, (.iconst (1), 1, 0, (1))), (110, (.iadd, 1, 0, 0)), (111, (.aload_n 0, 1, 0, 0)), (112, (.getfield 208, 3, 0, 0)), (115, (.if_icmp .ne (10), 3, 125, 0)), (118, (.aload_n 0, 1, 0, 0)), (119, (.invokevirtual 224, 3, 0, 0)), (122, (.goto (-52), 3, 70, 0)), (125, (.iinc 1 (1), 3, 0, (1))), (128, (.aload_n 0, 1, 0, 0)), (129, (.getfield 93, 3, 0, 0)), (132, (.iload_n 1, 1, 0, 0)), (133, (.iconst (-1), 1, 0, (-1))), (134, (.iastore, 1, 0, 0)), (135, (.goto (-65), 3, 70, 0)), (138, (.return_, 1, 0, 0))], [(7, 10, 1), (90, 10, 38), (208, 10, 37), (105, 10, 43), (93, 10, 39)], [(208, 10, 37)], [(211, 130, 1, 10), (214, 129, 1, 10), (217, 132, 1, 10), (220, 133, 0, 10), (224, 134, 0, 10)], 0)
/-- HouseDeskModel.fits -/
def mt_132 : mm_M := ([(0, (.aload_n 0, 1, 0, 0)), (1, (.getfield 90, 3, 0, 0)), (4, (.iload_n 1, 1, 0, 0)), (5, (.iaload, 1, 0, 0)), (6, (.istore_n 2, 1, 0, 0)), (7, (.aload_n 0, 1, 0, 0)), (8, (.getfield 57, 3, 0, 0)), (11, (.iload_n 2, 1, 0, 0)), (12, (.iaload, 1, 0, 0)), (13, (.istore_n 3, 1, 0, 0)), (14, (.iconst (0), 1, 0, (0))), (15, (.istore 4, 2, 0, 0)), (17, (.iload 4, 2, 0, 0)), (19, (.iload_n 3, 1, 0, 0)), (20, (.if_icmp .ge (178), 3, 198, 0)), (23, (.aload_n 0, 1, 0, 0)), (24, (.getfield 60, 3, 0, 0)), (27, (.bipush (16), 2, 0, (16))), (29, (.iload_n 2, 1, 0, 0)), (30, (.imul, 1, 0, 0)), (31, (.aload_n 0, 1, 0, 0)), (32, (.getfield 93, 3, 0, 0)), (35, (.iload_n 1, 1, 0, 0)), (36, (.iaload, 1, 0, 0)), (37, (.iload 4, 2, 0, 0)), (39, (.iadd, 1, 0, 0)), (40, (.iload_n 3, 1, 0, 0)), (41, (.irem, 1, 0, 0)), (42, (.iadd, 1, 0, 0)), (43, (.iaload, 1, 0, 0)), (44, (.istore 5, 2, 0, 0)), (46, (.iload 4, 2, 0, 0)), (48, (.aload_n 0, 1, 0, 0)), (49, (.getfield 96, 3, 0, 0)), (52, (.iload_n 1, 1, 0, 0)), (53, (.iaload, 1, 0, 0)), (54, (.if_icmp .ge (7), 3, 61, 0)), (57, (.iconst (0), 1, 0, (0))), (58, (.goto (55), 3, 113, 0)), (61, (.iload 4, 2, 0, 0)), (63, (.aload_n 0, 1, 0, 0)), (64, (.getfield 96, 3, 0, 0)), (67, (.iload_n 1, 1, 0, 0)), (68, (.iaload, 1, 0, 0)), (69, (.aload_n 0, 1, 0, 0)), (70, (.getfield 99, 3, 0, 0)), (73, (.iload_n 1, 1, 0, 0)), (74, (.iaload, 1, 0, 0)), (75, (.iadd, 1, 0, 0)), (76, (.if_icmp .ge (7), 3, 83, 0)), (79, (.iconst (1), 1, 0, (1))), (80, (.goto (33), 3, 113, 0)), (83, (.iload 4, 2, 0, 0)), (85, (.aload_n 0, 1, 0, 0)), (86, (.getfield 96, 3, 0, 0)), (89, (.iload_n 1, 1, 0, 0)), (90, (.iaload, 1, 0, 0)), (91, (.aload_n 0, 1, 0, 0)), (92, (.getfield 99, 3, 0, 0)), (95, (.iload_n 1, 1, 0, 0)), (96, (.iaload, 1, 0, 0)), (97, (.iadd, 1, 0, 0)), (98, (.aload_n 0, 1, 0, 0)), (99, (.getfield 102, 3, 0, 0)), (102, (.iload_n 1, 1, 0, 0)), (103, (.iaload, 1, 0, 0)), (104, (.iadd, 1, 0, 0)), (105, (.if_icmp .ge (7), 3, 112, 0)), (108, (.iconst (2), 1, 0, (2))), (109, (.goto (4), 3, 113, 0)), (112, (.iconst (3), 1, 0, (3))), (113, (.istore 6, 2, 0, 0)), (115, (.iload 5, 2, 0, 0)), (117, (.bipush (21), 2, 0, (21))), (119, (.if_icmp .lt (15), 3, 134, 0)), (122, (.iload 5, 2, 0, 0)), (124, (.invokestatic 227, 3, 0, 0)), (127, (.iload 6, 2, 0, 0)), (129, (.if_icmp .eq (63), 3, 192, 0)), (132, (.iconst (0), 1, 0, (0))), (133, (.ireturn, 1, 0, 0)), (134, (.aload_n 0, 1, 0, 0)), (135, (.iload 5, 2, 0, 0)), (137, (.iload_n 2, 1, 0, 0)), (138, (.iload 6, 2, 0, 0)), (140, (.invokevirtual 230, 3, 0, 0)), (143, (.istore 7, 2, 0, 0)), (145, (.aload_n 0, 1, 0, 0)), (146, (.getfield 72, 3, 0, 0)), (149, (.iload 5, 2, 0, 0)), (151, (.iaload, 1, 0, 0)), (152, (.iconst (-1), 1, 0, (-1))), (153, (.if_icmp .ne (25), 3, 178, 0)), (156, (.aload_n 0, 1, 0, 0)), (157, (.getfield 72, 3, 0, 0)), (160, (.iload 5, 2, 0, 0)), (162, (.iload 7, 2, 0, 0)), (164, (.iastore, 1, 0, 0)), (165, (.aload_n 0, 1, 0, 0)), (166, (.getfield 105, 3, 0, 0)), (169, (.iload_n 1, 1, 0, 0)), (170, (.dup2, 1, 0, 0)), (171, (.iaload, 1, 0, 0)), (172, (.iconst (1), 1, 0, (1))), (173, (.iload 5, 2, 0, 0)), (175, (.ishl, 1, 0, 0)), (176, (.ior, 1, 0, 0)), (177, (.iastore, 1, 0, 0)), (178, (.aload_n 0, 1, 0, 0)), (179, (.getfield 72, 3, 0, 0)), (182, (.iload 5, 2, 0, 0)), (184, (.iaload, 1, 0, 0)), (185, (.iload 7, 2, 0, 0)), (187, (.if_icmp .eq (5), 3, 192, 0)), (190, (.iconst (0), 1, 0, (0))), (191, (.ireturn, 1, 0, 0)), (192, (.iinc 4 (1), 3, 0, (1))), (195, (.goto (-178), 3, 17, 0)), (198, (.iconst (1), 1, 0, (1))), (199, (.ireturn, 1, 0, 0))], [(90, 10, 38), (57, 10, 22), (60, 10, 23), (93, 10, 39), (96, 10, 40), (99, 10, 41), (102, 10, 42), (72, 10, 27), (105, 10, 43)], [], [(227, 127, 1, 99), (230, 128, 3, 10)], 2)
/-- HouseDeskModel.mayBeLess -/
def mt_133 : mm_M := ([(0, (.iconst (0), 1, 0, (0))), (1, (.istore_n 1, 1, 0, 0)), (2, (.iload_n 1, 1, 0, 0)), (3, (.aload_n 0, 1, 0, 0)), (4, (.getfield 122, 3, 0, 0)), (7, (.if_icmp .ge (64), 3, 71, 0)), (10, (.aload_n 0, 1, 0, 0)), (11, (.getfield 234, 3, 0, 0)), (14, (.ifCond .eq (57), 3, 71, 0)), (17, (.aload_n 0, 1, 0, 0)), (18, (.getfield 72, 3, 0, 0)), (21, (.iload_n 1, 1, 0, 0)), (22, (.iaload, 1, 0, 0)), (23, (.iconst (-1), 1, 0, (-1))), (24, (.if_icmp .ne (5), 3, 29, 0)), (27, (.iconst (1), 1, 0, (1))), (28, (.ireturn, 1, 0, 0)), (29, (.aload_n 0, 1, 0, 0)), (30, (.getfield 72, 3, 0, 0)), (33, (.iload_n 1, 1, 0, 0)), (34, (.iaload, 1, 0, 0)), (35, (.aload_n 0, 1, 0, 0)), (36, (.getfield 75, 3, 0, 0)), (39, (.iload_n 1, 1, 0, 0)), (40, (.iaload, 1, 0, 0)), (41, (.if_icmp .eq (24), 3, 65, 0)), (44, (.aload_n 0, 1, 0, 0)), (45, (.getfield 72, 3, 0, 0)), (48, (.iload_n 1, 1, 0, 0)), (49, (.iaload, 1, 0, 0)), (50, (.aload_n 0, 1, 0, 0)), (51, (.getfield 75, 3, 0, 0)), (54, (.iload_n 1, 1, 0, 0)), (55, (.iaload, 1, 0, 0)), (56, (.if_icmp .ge (7), 3, 63, 0)), (59, (.iconst (1), 1, 0, (1))), (60, (.goto (4), 3, 64, 0)), (63, (.iconst (0), 1, 0, (0))), (64, (.ireturn, 1, 0, 0)), (65, (.iinc 1 (1), 3, 0, (1))), (68, (.goto (-66), 3, 2, 0)), (71, (.aload_n 0, 1, 0, 0)), (72, (.getfield 234, 3, 0, 0)), (75, (.ifCond .ne (7), 3, 82, 0)), (78, (.iconst (1), 1, 0, (1))), (79, (.goto (4), 3, 83, 0)), (82, (.iconst (0), 1, 0, (0))), (83, (.ireturn, 1, 0, 0))], [(122, 10, 6), (234, 10, 29), (72, 10, 27), (75, 10, 28)], [], [], 2)
/-- HouseDeskModel.keepIfLess -/
def mt_134 : mm_M := ([(0, (.aload_n 0, 1, 0, 0)), (1, (.invokevirtual 220, 3, 0, 0)), (4, (.ifCond .ne (4), 3, 8, 0)), (7, (.return_, 1, 0, 0)), (8, (.aload_n 0, 1, 0, 0)), (9, (.iconst (1), 1, 0, (1))), (10, (.putfield 234, 3, 0, 0)), (13, (.iconst (0), 1, 0, (0))), (14, (.istore_n 1, 1, 0, 0)), (15, (.iload_n 1, 1, 0, 0)), (16, (.aload_n 0, 1, 0, 0)), (17, (.getfield 122, 3, 0, 0)), (20, (.if_icmp .ge (21), 3, 41, 0)), (23, (.aload_n 0, 1, 0, 0)), (24, (.getfield 75, 3, 0, 0)), (27, (.iload_n 1, 1, 0, 0)), (28, (.aload_n 0, 1, 0, 0)), (29, (.getfield 72, 3, 0, 0)), (32, (.iload_n 1, 1, 0, 0)), (33, (.iaload, 1, 0, 0)), (34, (.iastore, 1, 0, 0)), (35, (.iinc 1 (1), 3, 0, (1))), (38, (.goto (-23), 3, 15, 0)), (41, (.return_, 1, 0, 0))], [(122, 10, 6), (75, 10, 28), (72, 10, 27)], [(234, 10, 29)], [(220, 133, 0, 10)], 0)
/-- HouseDeskModel.at -/
def mt_135 : mm_M := ([(0, (.iconst (2), 1, 0, (2))), (1, (.iload_n 0, 1, 0, 0)), (2, (.imul, 1, 0, 0)), (3, (.iload_n 1, 1, 0, 0)), (4, (.ifCond .eq (7), 3, 11, 0)), (7, (.iconst (1), 1, 0, (1))), (8, (.goto (4), 3, 12, 0)), (11, (.iconst (0), 1, 0, (0))), (12, (.iadd, 1, 0, 0)), (13, (.ireturn, 1, 0, 0))], [], [], [], 1)
/-- HouseDeskModel.raiseLow -/
def mt_136 : mm_M := ([(0, (.aload_n 0, 1, 0, 0)), (1, (.getfield 78, 3, 0, 0)), (4, (.iload_n 1, 1, 0, 0)), (5, (.iload_n 2, 1, 0, 0)), (6, (.invokestatic 237, 3, 0, 0)), (9, (.iaload, 1, 0, 0)), (10, (.iload_n 3, 1, 0, 0)), (11, (.if_icmp .lt (4), 3, 15, 0)), (14, (.return_, 1, 0, 0)), (15, (.aload_n 0, 1, 0, 0)), (16, (.getfield 78, 3, 0, 0)), (19, (.iload_n 1, 1, 0, 0)), (20, (.iload_n 2, 1, 0, 0)), (21, (.invokestatic 237, 3, 0, 0)), (24, (.iload_n 3, 1, 0, 0)), (25, (.iastore, 1, 0, 0)), (26, (.aload_n 0, 1, 0, 0)), (27, (.iconst (1), 1, 0, (1))), (28, (.putfield 241, 3, 0, 0)), (31, (.return_, 1, 0, 0))], [(78, 10, 30)], [(241, 10, 44)], [(237, 135, 2, 99)], 0)
/-- HouseDeskModel.raiseHigh -/
def mt_137 : mm_M := ([(0, (.aload_n 0, 1, 0, 0)), (1, (.getfield 81, 3, 0, 0)), (4, (.iload_n 1, 1, 0, 0)), (5, (.iload_n 2, 1, 0, 0)), (6, (.invokestatic 237, 3, 0, 0)), (9, (.iaload, 1, 0, 0)), (10, (.iload_n 3, 1, 0, 0)), (11, (.if_icmp .lt (4), 3, 15, 0)), (14, (.return_, 1, 0, 0)), (15, (.aload_n 0, 1, 0, 0)), (16, (.getfield 81, 3, 0, 0)), (19, (.iload_n 1, 1, 0, 0)), (20, (.iload_n 2, 1, 0, 0)), (21, (.invokestatic 237, 3, 0, 0)), (24, (.iload_n 3, 1, 0, 0)), (25, (.iastore, 1, 0, 0)), (26, (.aload_n 0, 1, 0, 0)), (27, (.iconst (1), 1, 0, (1))), (28, (.putfield 241, 3, 0, 0)), (31, (.return_, 1, 0, 0))], [(81, 10, 31)], [(241, 10, 44)], [(237, 135, 2, 99)], 0)
/-- HouseDeskModel.findPlaces -/
def mt_138 : mm_M := ([(0, (.iconst (0), 1, 0, (0))), (1, (.istore_n 1, 1, 0, 0)), (2, (.iload_n 1, 1, 0, 0)), (3, (.bipush (18), 2, 0, (18))), (5, (.if_icmp .ge (23), 3, 28, 0)), (8, (.aload_n 0, 1, 0, 0)), (9, (.getfield 78, 3, 0, 0)), (12, (.iload_n 1, 1, 0, 0)), (13, (.iconst (0), 1, 0, (0))), (14, (.iastore, 1, 0, 0)), (15, (.aload_n 0, 1, 0, 0)), (16, (.getfield 81, 3, 0, 0)), (19, (.iload_n 1, 1, 0, 0)), (20, (.iconst (0), 1, 0, (0))), (21, (.iastore, 1, 0, 0)), (22, (.iinc 1 (1), 3, 0, (1))), (25, (.goto (-23), 3, 2, 0)), (28, (.aload_n 0, 1, 0, 0)), (29, (.iconst (0), 1, 0, (0))), (30, (.putfield 244, 3, 0, 0)), (33, (.aload_n 0, 1, 0, 0)), (34, (.iconst (0), 1, 0, (0))), (35, (.putfield 247, 3, 0, 0)), (38, (.aload_n 0, 1, 0, 0)), (39, (.iconst (1), 1, 0, (1))), (40, (.putfield 241, 3, 0, 0)), (43, (.aload_n 0, 1, 0, 0)), (44, (.getfield 241, 3, 0, 0)), (47, (.ifCond .eq (60), 3, 107, 0)), (50, (.aload_n 0, 1, 0, 0)), (51, (.iconst (0), 1, 0, (0))), (52, (.putfield 241, 3, 0, 0)), (55, (.iconst (0), 1, 0, (0))), (56, (.istore_n 1, 1, 0, 0)), (57, (.iload_n 1, 1, 0, 0)), (58, (.bipush (9), 2, 0, (9))), (60, (.if_icmp .ge (23), 3, 83, 0)), (63, (.aload_n 0, 1, 0, 0)), (64, (.getfield 7, 3, 0, 0)), (67, (.iload_n 1, 1, 0, 0)), (68, (.baload, 1, 0, 0)), (69, (.ifCond .eq (8), 3, 77, 0)), (72, (.aload_n 0, 1, 0, 0)), (73, (.iload_n 1, 1, 0, 0)), (74, (.invokevirtual 250, 3, 0, 0)), (77, (.iinc 1 (1), 3, 0, (1))), (80, (.goto (-23), 3, 57, 0)), (83, (.iconst (0), 1, 0, (0))), (84, (.istore_n 1, 1, 0, 0)), (85, (.iload_n 1, 1, 0, 0)), (86, (.aload_n 0, 1, 0, 0)), (87, (.getfield 122, 3, 0, 0)), (90, (.if_icmp .ge (14), 3, 104, 0)), (93, (.aload_n 0, 1, 0, 0)), (94, (.iload_n 1, 1, 0, 0)), (95, (.invokevirtual 253, 3, 0, 0)), (98, (.iinc 1 (1), 3, 0, (1))), (101, (.goto (-16), 3, 85, 0)), (104, (.goto (-61), 3, 43, 0)), (107, (.return_, 1, 0, 0))], [(78, 10, 30), (81, 10, 31), (241, 10, 44), (7, 10, 1), (122, 10, 6)], [(244, 10, 32), (247, 10, 33), (241, 10, 44)], [(250, 139, 1, 10), (253, 140, 1, 10)], 0)
/-- HouseDeskModel.raiseRoom -/
def mt_139 : mm_M := ([(0, (.aload_n 0, 1, 0, 0)), (1, (.iload_n 1, 1, 0, 0)), (2, (.iconst (0), 1, 0, (0))), (3, (.aload_n 0, 1, 0, 0)), (4, (.getfield 78, 3, 0, 0)), (7, (.iload_n 1, 1, 0, 0)), (8, (.iconst (0), 1, 0, (0))), (9, (.invokestatic 237, 3, 0, 0)), (12, (.iaload, 1, 0, 0)), (13, (.aload_n 0, 1, 0, 0)), (14, (.getfield 20, 3, 0, 0)), (17, (.iload_n 1, 1, 0, 0)), (18, (.iaload, 1, 0, 0)), (19, (.iadd, 1, 0, 0)), (20, (.invokevirtual 256, 3, 0, 0)), (23, (.aload_n 0, 1, 0, 0)), (24, (.iload_n 1, 1, 0, 0)), (25, (.iconst (1), 1, 0, (1))), (26, (.aload_n 0, 1, 0, 0)), (27, (.getfield 78, 3, 0, 0)), (30, (.iload_n 1, 1, 0, 0)), (31, (.iconst (1), 1, 0, (1))), (32, (.invokestatic 237, 3, 0, 0)), (35, (.iaload, 1, 0, 0)), (36, (.aload_n 0, 1, 0, 0)), (37, (.getfield 23, 3, 0, 0)), (40, (.iload_n 1, 1, 0, 0)), (41, (.iaload, 1, 0, 0)), (42, (.iadd, 1, 0, 0)), (43, (.invokevirtual 256, 3, 0, 0)), (46, (.aload_n 0, 1, 0, 0)), (47, (.getfield 63, 3, 0, 0)), (50, (.bipush (10), 2, 0, (10))), (52, (.iaload, 1, 0, 0)), (53, (.iload_n 1, 1, 0, 0)), (54, (.ishr, 1, 0, 0)), (55, (.iconst (1), 1, 0, (1))), (56, (.iand, 1, 0, 0)), (57, (.iconst (1), 1, 0, (1))), (58, (.if_icmp .ne (73), 3, 131, 0)), (61, (.aload_n 0, 1, 0, 0)), (62, (.getfield 81, 3, 0, 0)), (65, (.iload_n 1, 1, 0, 0)), (66, (.iconst (0), 1, 0, (0))), (67, (.invokestatic 237, 3, 0, 0)), (70, (.iaload, 1, 0, 0)), (71, (.aload_n 0, 1, 0, 0)), (72, (.getfield 244, 3, 0, 0)), (75, (.if_icmp .le (8), 3, 83, 0)), (78, (.aload_n 0, 1, 0, 0)), (79, (.iconst (1), 1, 0, (1))), (80, (.putfield 241, 3, 0, 0)), (83, (.aload_n 0, 1, 0, 0)), (84, (.aload_n 0, 1, 0, 0)), (85, (.getfield 81, 3, 0, 0)), (88, (.iload_n 1, 1, 0, 0)), (89, (.iconst (0), 1, 0, (0))), (90, (.invokestatic 237, 3, 0, 0)), (93, (.iaload, 1, 0, 0)), (94, (.aload_n 0, 1, 0, 0)), (95, (.getfield 244, 3, 0, 0)), (98, (.if_icmp .le (16), 3, 114, 0)), (101, (.aload_n 0, 1, 0, 0)), (102, (.getfield 81, 3, 0, 0)), (105, (.iload_n 1, 1, 0, 0)), (106, (.iconst (0), 1, 0, (0))), (107, (.invokestatic 237, 3, 0, 0)), (110, (.iaload, 1, 0, 0)), (111, (.goto (7), 3, 118, 0)), (114, (.aload_n 0, 1, 0, 0)), (115, (.getfield 244, 3, 0, 0)), (118, (.putfield 244, 3, 0, 0)), (121, (.aload_n 0, 1, 0, 0)), (122, (.iload_n 1, 1, 0, 0)), (123, (.iconst (0), 1, 0, (0))), (124, (.aload_n 0, 1, 0, 0)), (125, (.getfield 244, 3, 0, 0)), (128, (.invokevirtual 256, 3, 0, 0)), (131, (.aload_n 0, 1, 0, 0)), (132, (.getfield 63, 3, 0, 0)), (135, (.bipush (9), 2, 0, (9))), (137, (.iaload, 1, 0, 0)), (138, (.iload_n 1, 1, 0, 0)), (139, (.ishr, 1, 0, 0)), (140, (.iconst (1), 1, 0, (1))), (141, (.iand, 1, 0, 0)), (142, (.iconst (1), 1, 0, (1))), (143, (.if_icmp .ne (73), 3, 216, 0)), (146, (.aload_n 0, 1, 0, 0)), (147, (.getfield 81, 3, 0, 0)), (150, (.iload_n 1, 1, 0, 0)), (151, (.iconst (1), 1, 0, (1))), (152, (.invokestatic 237, 3, 0, 0)), (155, (.iaload, 1, 0, 0)), (156, (.aload_n 0, 1, 0, 0)), (157, (.getfield 247, 3, 0, 0)), (160, (.if_icmp .le (8), 3, 168, 0)), (163, (.aload_n 0, 1, 0, 0)), (164, (.iconst (1), 1, 0, (1))), (165, (.putfield 241, 3, 0, 0)), (168, (.aload_n 0, 1, 0, 0)), (169, (.aload_n 0, 1, 0, 0)), (170, (.getfield 81, 3, 0, 0)), (173, (.iload_n 1, 1, 0, 0)), (174, (.iconst (1), 1, 0, (1))), (175, (.invokestatic 237, 3, 0, 0)), (178, (.iaload, 1, 0, 0)), (179, (.aload_n 0, 1, 0, 0)), (180, (.getfield 247, 3, 0, 0)), (183, (.if_icmp .le (16), 3, 199, 0)), (186, (.aload_n 0, 1, 0, 0)), (187, (.getfield 81, 3, 0, 0)), (190, (.iload_n 1, 1, 0, 0)), (191, (.iconst (1), 1, 0, (1))), (192, (.invokestatic 237, 3, 0, 0)), (195, (.iaload, 1, 0, 0)), (196, (.goto (7), 3, 203, 0)), (199, (.aload_n 0, 1, 0, 0)), (200, (.getfield 247, 3, 0, 0)), (203, (.putfield 247, 3, 0, 0)), (206, (.aload_n 0, 1, 0, 0)), (207, (.iload_n 1, 1, 0, 0)), (208, (.iconst (1), 1, 0, (1))), (209, (.aload_n 0, 1, 0, 0)), (210, (.getfield 247, 3, 0, 0)), (213, (.invokevirtual 256, 3, 0, 0)), (216, (.return_, 1, 0, 0))], [(78, 10, 30), (20, 10, 4), (23, 10, 5), (63, 10, 24), (81, 10, 31), (244, 10, 32), (247, 10, 33)], [(241, 10, 44), (244, 10, 32), (247, 10, 33)], [(237, 135, 2, 99), (256, 137, 3, 10)], 0)
/-- HouseDeskModel.raiseJoin -/
def mt_140 : mm_M := ([(0, (.aload_n 0, 1, 0, 0)), (1, (.getfield 75, 3, 0, 0)), (4, (.iload_n 1, 1, 0, 0)), (5, (.iaload, 1, 0, 0)), (6, (.ifCond .eq (13), 3, 19, 0)), (9, (.aload_n 0, 1, 0, 0)), (10, (.getfield 75, 3, 0, 0)), (13, (.iload_n 1, 1, 0, 0)), (14, (.iaload, 1, 0, 0)), (15, (.iconst (1), 1, 0, (1))), (16, (.if_icmp .ne (7), 3, 23, 0)), (19, (.iconst (1), 1, 0, (1))), (20, (.goto (4), 3, 24, 0)), (23, (.iconst (0), 1, 0, (0))), (24, (.istore_n 2, 1, 0, 0)), (25, (.aload_n 0, 1, 0, 0)), (26, (.getfield 75, 3, 0, 0)), (29, (.iload_n 1, 1, 0, 0)), (30, (.iaload, 1, 0, 0)), (31, (.ifCond .eq (13), 3, 44, 0)), (34, (.aload_n 0, 1, 0, 0)), (35, (.getfield 75, 3, 0, 0)), (38, (.iload_n 1, 1, 0, 0)), (39, (.iaload, 1, 0, 0)), (40, (.iconst (2), 1, 0, (2))), (41, (.if_icmp .ne (12), 3, 53, 0)), (44, (.aload_n 0, 1, 0, 0)), (45, (.getfield 26, 3, 0, 0)), (48, (.iload_n 1, 1, 0, 0)), (49, (.iaload, 1, 0, 0)), (50, (.goto (9), 3, 59, 0)), (53, (.aload_n 0, 1, 0, 0)), (54, (.getfield 29, 3, 0, 0)), (57, (.iload_n 1, 1, 0, 0)), (58, (.iaload, 1, 0, 0)), (59, (.istore_n 3, 1, 0, 0)), (60, (.aload_n 0, 1, 0, 0)), (61, (.iload_n 1, 1, 0, 0)), (62, (.iload_n 3, 1, 0, 0)), (63, (.invokevirtual 151, 3, 0, 0)), (66, (.istore 4, 2, 0, 0)), (68, (.aload_n 0, 1, 0, 0)), (69, (.getfield 81, 3, 0, 0)), (72, (.iload_n 3, 1, 0, 0)), (73, (.iload_n 2, 1, 0, 0)), (74, (.ifCond .ne (7), 3, 81, 0)), (77, (.iconst (1), 1, 0, (1))), (78, (.goto (4), 3, 82, 0)), (81, (.iconst (0), 1, 0, (0))), (82, (.invokestatic 237, 3, 0, 0)), (85, (.iaload, 1, 0, 0)), (86, (.aload_n 0, 1, 0, 0)), (87, (.getfield 78, 3, 0, 0)), (90, (.iload 4, 2, 0, 0)), (92, (.iload_n 2, 1, 0, 0)), (93, (.ifCond .ne (7), 3, 100, 0)), (96, (.iconst (1), 1, 0, (1))), (97, (.goto (4), 3, 101, 0)), (100, (.iconst (0), 1, 0, (0))), (101, (.invokestatic 237, 3, 0, 0)), (104, (.iaload, 1, 0, 0)), (105, (.if_icmp .le (24), 3, 129, 0)), (108, (.aload_n 0, 1, 0, 0)), (109, (.getfield 81, 3, 0, 0)), (112, (.iload_n 3, 1, 0, 0)), (113, (.iload_n 2, 1, 0, 0)), (114, (.ifCond .ne (7), 3, 121, 0)), (117, (.iconst (1), 1, 0, (1))), (118, (.goto (4), 3, 122, 0)), (121, (.iconst (0), 1, 0, (0))), (122, (.invokestatic 237, 3, 0, 0)), (125, (.iaload, 1, 0, 0)), (126, (.goto (22), 3, 148, 0)), (129, (.aload_n 0, 1, 0, 0)), (130, (.getfield 78, 3, 0, 0)), (133, (.iload 4, 2, 0, 0)), (135, (.iload_n 2, 1, 0, 0)), (136, (.ifCond .ne (7), 3, 143, 0)), (139, (.iconst (1), 1, 0, (1))), (140, (.goto (4), 3, 144, 0)), (143, (.iconst (0), 1, 0, (0))), (144, (.invokestatic 237, 3, 0, 0)), (147, (.iaload, 1, 0, 0)), (148, (.istore 5, 2, 0, 0)), (150, (.aload_n 0, 1, 0, 0)), (151, (.iload_n 3, 1, 0, 0)), (152, (.iload_n 2, 1, 0, 0)), (153, (.ifCond .ne (7), 3, 160, 0)), (156, (.iconst (1), 1, 0, (1))), (157, (.goto (4), 3, 161, 0)), (160, (.iconst (0), 1, 0, (0))), (161, (.iload 5, 2, 0, 0)), (163, (.invokevirtual 256, 3, 0, 0)), (166, (.aload_n 0, 1, 0, 0)), (167, (.iload 4, 2, 0, 0)), (169, (.iload_n 2, 1, 0, 0)), (170, (.ifCond .ne (7), 3, 177, 0)), (173, (.iconst (1), 1, 0, (1))), (174, (.goto (4), 3, 178, 0)), (177, (.iconst (0), 1, 0, (0))), (178, (.iload 5, 2, 0, 0)), (180, (.invokevirtual 260, 3, 0, 0)), (183, (.aload_n 0, 1, 0, 0)), (184, (.getfield 78, 3, 0, 0)), (187, (.iload_n 3, 1, 0, 0)), (188, (.iload_n 2, 1, 0, 0)), (189, (.invokestatic 237, 3, 0, 0)), (192, (.iaload, 1, 0, 0)), (193, (.aload_n 0, 1, 0, 0)), (194, (.getfield 78, 3, 0, 0)), (197, (.iload 4, 2, 0, 0)), (199, (.iload_n 2, 1, 0, 0)), (200, (.invokestatic 237, 3, 0, 0)), (203, (.iaload, 1, 0, 0)), (204, (.if_icmp .le (16), 3, 220, 0)), (207, (.aload_n 0, 1, 0, 0)), (208, (.getfield 78, 3, 0, 0)), (211, (.iload_n 3, 1, 0, 0)), (212, (.iload_n 2, 1, 0, 0)), (213, (.invokestatic 237, 3, 0, 0)), (216, (.iaload, 1, 0, 0)), (217, (.goto (14), 3, 231, 0)), (220, (.aload_n 0, 1, 0, 0)), (221, (.getfield 78, 3, 0, 0)), (224, (.iload 4, 2, 0, 0)), (226, (.iload_n 2, 1, 0, 0)), (227, (.invokestatic 237, 3, 0, 0)), (230, (.iaload, 1, 0, 0)), (231, (.istore 6, 2, 0, 0)), (233, (.aload_n 0, 1, 0, 0)), (234, (.iload_n 3, 1, 0, 0)), (235, (.iload_n 2, 1, 0, 0)), (236, (.iload 6, 2, 0, 0)), (238, (.aload_n 0, 1, 0, 0)), (239, (.getfield 32, 3, 0, 0)), (242, (.iload_n 1, 1, 0, 0)), (243, (.iaload, 1, 0, 0)), (244, (.iadd, 1, 0, 0)), (245, (.invokevirtual 256, 3, 0, 0)), (248, (.aload_n 0, 1, 0, 0)), (249, (.iload 4, 2, 0, 0)), (251, (.iload_n 2, 1, 0, 0)), (252, (.iload 6, 2, 0, 0)), (254, (.aload_n 0, 1, 0, 0)), (255, (.getfield 32, 3, 0, 0)), (258, (.iload_n 1, 1, 0, 0)), (259, (.iaload, 1, 0, 0)), (260, (.iadd, 1, 0, 0)), (261, (.invokevirtual 256, 3, 0, 0)), (264, (.return_, 1, 0, 0))], [(75, 10, 28), (26, 10, 7), (29, 10, 8), (81, 10, 31), (78, 10, 30), (32, 10, 9)], [], [(151, 101, 2, 10), (237, 135, 2, 99), (256, 137, 3, 10), (260, 136, 3, 10)], 0)
/-- HouseDeskModel.answer -/
def mt_141 : mm_M := ([(0, (.aload_n 0, 1, 0, 0)), (1, (.iload_n 1, 1, 0, 0)), (2, (.iconst (1), 1, 0, (1))), (3, (.if_icmp .ne (7), 3, 10, 0)), (6, (.iconst (1), 1, 0, (1))), (7, (.goto (4), 3, 11, 0)), (10, (.iconst (0), 1, 0, (0))), (11, (.putfield 118, 3, 0, 0)), (14, (.iload_n 1, 1, 0, 0)), (15, (.ireturn, 1, 0, 0))], [], [(118, 10, 12)], [], 1)
/-- HouseDeskModel.plan -/
def mt_142 : mm_M := ([(0, (.aload_n 0, 1, 0, 0)), (1, (.iconst (0), 1, 0, (0))), (2, (.putfield 111, 3, 0, 0)), (5, (.aload_n 0, 1, 0, 0)), (6, (.iconst (-1), 1, 0, (-1))), (7, (.putfield 38, 3, 0, 0)), (10, (.aload_n 0, 1, 0, 0)), (11, (.iconst (0), 1, 0, (0))), (12, (.putfield 166, 3, 0, 0)), (15, (.aload_n 0, 1, 0, 0)), (16, (.iconst (0), 1, 0, (0))), (17, (.putfield 263, 3, 0, 0)), (20, (.aload_n 0, 1, 0, 0)), (21, (.invokevirtual 266, 3, 0, 0)), (24, (.ifCond .eq (9), 3, 33, 0)), (27, (.aload_n 0, 1, 0, 0)), (28, (.iconst (0), 1, 0, (0))), (29, (.invokevirtual 269, 3, 0, 0)), (32, (.ireturn, 1, 0, 0)), (33, (.aload_n 0, 1, 0, 0)), (34, (.invokevirtual 272, 3, 0, 0)), (37, (.aload_n 0, 1, 0, 0)), (38, (.invokevirtual 275, 3, 0, 0)), (41, (.iconst (3), 1, 0, (3))), (42, (.if_icmp .lt (17), 3, 59, 0)), (45, (.aload_n 0, 1, 0, 0)), (46, (.invokevirtual 279, 3, 0, 0)), (49, (.ifCond .eq (10), 3, 59, 0)), (52, (.aload_n 0, 1, 0, 0)), (53, (.invokevirtual 282, 3, 0, 0)), (56, (.ifCond .ne (9), 3, 65, 0)), (59, (.aload_n 0, 1, 0, 0)), (60, (.iconst (2), 1, 0, (2))), (61, (.invokevirtual 269, 3, 0, 0)), (64, (.ireturn, 1, 0, 0)), (65, (.aload_n 0, 1, 0, 0)), (66, (.invokevirtual 285, 3, 0, 0)), (69, (.aload_n 0, 1, 0, 0)), (70, (.aload_n 0, 1, 0, 0)), (71, (.getfield 169, 3, 0, 0)), (74, (.putfield 263, 3, 0, 0)), (77, (.aload_n 0, 1, 0, 0)), (78, (.invokevirtual 288, 3, 0, 0)), (81, (.ifCond .eq (9), 3, 90, 0)), (84, (.aload_n 0, 1, 0, 0)), (85, (.iconst (3), 1, 0, (3))), (86, (.invokevirtual 269, 3, 0, 0)), (89, (.ireturn, 1, 0, 0)), (90, (.aload_n 0, 1, 0, 0)), (91, (.invokevirtual 291, 3, 0, 0)), (94, (.ifCond .ne (9), 3, 103, 0)), (97, (.aload_n 0, 1, 0, 0)), (98, (.iconst (4), 1, 0, (4))), (99, (.invokevirtual 269, 3, 0, 0)), (102, (.ireturn, 1, 0, 0)), (103, (.aload_n 0, 1, 0, 0)), (104, (.invokevirtual 294, 3, 0, 0)), (107, (.aload_n 0, 1, 0, 0)), (108, (.invokevirtual 297, 3, 0, 0)), (111, (.ifCond .eq (9), 3, 120, 0)), (114, (.aload_n 0, 1, 0, 0)), (115, (.iconst (5), 1, 0, (5))), (116, (.invokevirtual 269, 3, 0, 0)), (119, (.ireturn, 1, 0, 0)), (120, (.aload_n 0, 1, 0, 0)), (121, (.invokevirtual 300, 3, 0, 0)), (124, (.aload_n 0, 1, 0, 0)), (125, (.iconst (0), 1, 0, (0))), (126, (.putfield 234, 3, 0, 0)), (129, (.iconst (0), 1, 0, (0))), (130, (.istore_n 1, 1, 0, 0)), (131, (.iload_n 1, 1, 0, 0)), (132, (.bipush (21), 2, 0, (21))), (134, (.if_icmp .ge (16), 3, 150, 0)), (137, (.aload_n 0, 1, 0, 0)), (138, (.getfield 72, 3, 0, 0)), (141, (.iload_n 1, 1, 0, 0)), (142, (.iconst (-1), 1, 0, (-1))), (143, (.iastore, 1, 0, 0)), (144, (.iinc 1 (1), 3, 0, (1))), (147, (.goto (-16), 3, 131, 0)), (150, (.aload_n 0, 1, 0, 0)), (151, (.invokevirtual 303, 3, 0, 0)), (154, (.aload_n 0, 1, 0, 0)), (155, (.invokevirtual 306, 3, 0, 0)), (158, (.aload_n 0, 1, 0, 0)), (159, (.iconst (1), 1, 0, (1))), (160, (.invokevirtual 269, 3, 0, 0)), (163, (.ireturn, 1, 0, 0))], [(169, 10, 19), (72, 10, 27)], [(111, 10, 0), (38, 10, 13), (166, 10, 15), (263, 10, 16), (234, 10, 29)], [(266, 99, 0, 10), (269, 141, 1, 10), (272, 104, 0, 10), (275, 108, 0, 10), (279, 107, 0, 10), (282, 109, 0, 10), (285, 110, 0, 10), (288, 115, 0, 10), (291, 117, 0, 10), (294, 120, 0, 10), (297, 122, 0, 10), (300, 123, 0, 10), (303, 131, 0, 10), (306, 138, 0, 10)], 1)
/-- HouseDeskModel.witness -/
def mt_143 : mm_M := ([(0, (.aload_n 0, 1, 0, 0)), (1, (.iconst (0), 1, 0, (0))), (2, (.putfield 111, 3, 0, 0)), (5, (.aload_n 0, 1, 0, 0)), (6, (.getfield 38, 3, 0, 0)), (9, (.iconst (-1), 1, 0, (-1))), (10, (.if_icmp .eq (23), 3, 33, 0)), (13, (.iload_n 1, 1, 0, 0)), (14, (.iconst (0), 1, 0, (0))), (15, (.aload_n 0, 1, 0, 0)), (16, (.getfield 38, 3, 0, 0)), (19, (.ifCond .ne (7), 3, 26, 0)), (22, (.iconst (1), 1, 0, (1))), (23, (.goto (4), 3, 27, 0)), (26, (.iconst (2), 1, 0, (2))), (27, (.invokestatic 114, 3, 0, 0)), (30, (.ifCond .ne (7), 3, 37, 0)), (33, (.iconst (-1), 1, 0, (-1))), (34, (.goto (9), 3, 43, 0)), (37, (.aload_n 0, 1, 0, 0)), (38, (.getfield 42, 3, 0, 0)), (41, (.iload_n 1, 1, 0, 0)), (42, (.iaload, 1, 0, 0)), (43, (.ireturn, 1, 0, 0))], [(38, 10, 13), (42, 10, 14)], [(111, 10, 0)], [(114, 87, 3, 99)], 1)
/-- HouseDeskModel.rect -/
def mt_144 : mm_M := ([(0, (.aload_n 0, 1, 0, 0)), (1, (.aload_n 0, 1, 0, 0)), (2, (.getfield 118, 3, 0, 0)), (5, (.ifCond .ne (7), 3, 12, 0)), (8, (.iconst (1), 1, 0, (1))), (9, (.goto (25), 3, 34, 0)), (12, (.aload_n 0, 1, 0, 0)), (13, (.iload_n 1, 1, 0, 0)), (14, (.invokevirtual 125, 3, 0, 0)), (17, (.ifCond .eq (12), 3, 29, 0)), (20, (.iload_n 2, 1, 0, 0)), (21, (.iconst (0), 1, 0, (0))), (22, (.iconst (3), 1, 0, (3))), (23, (.invokestatic 114, 3, 0, 0)), (26, (.ifCond .ne (7), 3, 33, 0)), (29, (.iconst (2), 1, 0, (2))), (30, (.goto (4), 3, 34, 0)), (33, (.iconst (0), 1, 0, (0))), (34, (.putfield 111, 3, 0, 0)), (37, (.aload_n 0, 1, 0, 0)), (38, (.getfield 111, 3, 0, 0)), (41, (.ifCond .le (5), 3, 46, 0)), (44, (.iconst (0), 1, 0, (0))), (45, (.ireturn, 1, 0, 0)), (46, (.iload_n 2, 1, 0, 0)), (47, (.iconst (2), 1, 0, (2))), (48, (.if_icmp .ge (25), 3, 73, 0)), (51, (.aload_n 0, 1, 0, 0)), (52, (.getfield 78, 3, 0, 0)), (55, (.iload_n 1, 1, 0, 0)), (56, (.iload_n 2, 1, 0, 0)), (57, (.iconst (1), 1, 0, (1))), (58, (.if_icmp .ne (7), 3, 65, 0)), (61, (.iconst (1), 1, 0, (1))), (62, (.goto (4), 3, 66, 0)), (65, (.iconst (0), 1, 0, (0))), (66, (.invokestatic 237, 3, 0, 0)), (69, (.iaload, 1, 0, 0)), (70, (.goto (22), 3, 92, 0)), (73, (.aload_n 0, 1, 0, 0)), (74, (.getfield 81, 3, 0, 0)), (77, (.iload_n 1, 1, 0, 0)), (78, (.iload_n 2, 1, 0, 0)), (79, (.iconst (3), 1, 0, (3))), (80, (.if_icmp .ne (7), 3, 87, 0)), (83, (.iconst (1), 1, 0, (1))), (84, (.goto (4), 3, 88, 0)), (87, (.iconst (0), 1, 0, (0))), (88, (.invokestatic 237, 3, 0, 0)), (91, (.iaload, 1, 0, 0)), (92, (.ireturn, 1, 0, 0))], [(118, 10, 12), (111, 10, 0), (78, 10, 30), (81, 10, 31)], [(111, 10, 0)], [(125, 88, 1, 10), (114, 87, 3, 99), (237, 135, 2, 99)], 1)
/-- HouseDeskModel.house -/
def mt_145 : mm_M := ([(0, (.aload_n 0, 1, 0, 0)), (1, (.aload_n 0, 1, 0, 0)), (2, (.getfield 118, 3, 0, 0)), (5, (.ifCond .ne (7), 3, 12, 0)), (8, (.iconst (1), 1, 0, (1))), (9, (.goto (17), 3, 26, 0)), (12, (.iload_n 1, 1, 0, 0)), (13, (.iconst (0), 1, 0, (0))), (14, (.iconst (2), 1, 0, (2))), (15, (.invokestatic 114, 3, 0, 0)), (18, (.ifCond .ne (7), 3, 25, 0)), (21, (.iconst (2), 1, 0, (2))), (22, (.goto (4), 3, 26, 0)), (25, (.iconst (0), 1, 0, (0))), (26, (.putfield 111, 3, 0, 0)), (29, (.aload_n 0, 1, 0, 0)), (30, (.getfield 111, 3, 0, 0)), (33, (.ifCond .le (5), 3, 38, 0)), (36, (.iconst (0), 1, 0, (0))), (37, (.ireturn, 1, 0, 0)), (38, (.iconst (0), 1, 0, (0))), (39, (.istore_n 2, 1, 0, 0)), (40, (.iconst (0), 1, 0, (0))), (41, (.istore_n 3, 1, 0, 0)), (42, (.iload_n 3, 1, 0, 0)), (43, (.bipush (9), 2, 0, (9))), (45, (.if_icmp .ge (38), 3, 83, 0)), (48, (.iload_n 2, 1, 0, 0)), (49, (.aload_n 0, 1, 0, 0)), (50, (.getfield 7, 3, 0, 0)), (53, (.iload_n 3, 1, 0, 0)), (54, (.baload, 1, 0, 0)), (55, (.ifCond .eq (19), 3, 74, 0)), (58, (.aload_n 0, 1, 0, 0)), (59, (.getfield 20, 3, 0, 0)), (62, (.iload_n 3, 1, 0, 0)), (63, (.iaload, 1, 0, 0)), (64, (.aload_n 0, 1, 0, 0)), (65, (.getfield 23, 3, 0, 0)), (68, (.iload_n 3, 1, 0, 0)), (69, (.iaload, 1, 0, 0)), (70, (.imul, 1, 0, 0)), (71, (.goto (4), 3, 75, 0)), (74, (.iconst (0), 1, 0, (0))), (75, (.iadd, 1, 0, 0)), (76, (.istore_n 2, 1, 0, 0)), (77, (.iinc 3 (1), 3, 0, (1))), (80, (.goto (-38), 3, 42, 0)), (83, (.iload_n 1, 1, 0, 0)), (84, (.ifCond .ne (10), 3, 94, 0)), (87, (.aload_n 0, 1, 0, 0)), (88, (.getfield 244, 3, 0, 0)), (91, (.goto (26), 3, 117, 0)), (94, (.iload_n 1, 1, 0, 0)), (95, (.iconst (1), 1, 0, (1))), (96, (.if_icmp .ne (10), 3, 106, 0)), (99, (.aload_n 0, 1, 0, 0)), (100, (.getfield 247, 3, 0, 0)), (103, (.goto (14), 3, 117, 0)), (106, (.aload_n 0, 1, 0, 0)), (107, (.getfield 244, 3, 0, 0)), (110, (.aload_n 0, 1, 0, 0)), (111, (.getfield 247, 3, 0, 0)), (114, (.imul, 1, 0, 0)), (115, (.iload_n 2, 1, 0, 0)), (116, (.isub, 1, 0, 0)), (117, (.ireturn, 1, 0, 0))], [(118, 10, 12), (111, 10, 0), (7, 10, 1), (20, 10, 4), (23, 10, 5), (244, 10, 32), (247, 10, 33)], [(111, 10, 0)], [(114, 87, 3, 99)], 1)
/-- HouseDeskModel.wallOf -/
def mt_146 : mm_M := ([(0, (.aload_n 0, 1, 0, 0)), (1, (.aload_n 0, 1, 0, 0)), (2, (.getfield 118, 3, 0, 0)), (5, (.ifCond .ne (7), 3, 12, 0)), (8, (.iconst (1), 1, 0, (1))), (9, (.goto (31), 3, 40, 0)), (12, (.iload_n 1, 1, 0, 0)), (13, (.iconst (0), 1, 0, (0))), (14, (.aload_n 0, 1, 0, 0)), (15, (.getfield 122, 3, 0, 0)), (18, (.iconst (1), 1, 0, (1))), (19, (.isub, 1, 0, 0)), (20, (.invokestatic 114, 3, 0, 0)), (23, (.ifCond .eq (12), 3, 35, 0)), (26, (.iload_n 2, 1, 0, 0)), (27, (.iconst (0), 1, 0, (0))), (28, (.iconst (2), 1, 0, (2))), (29, (.invokestatic 114, 3, 0, 0)), (32, (.ifCond .ne (7), 3, 39, 0)), (35, (.iconst (2), 1, 0, (2))), (36, (.goto (4), 3, 40, 0)), (39, (.iconst (0), 1, 0, (0))), (40, (.putfield 111, 3, 0, 0)), (43, (.aload_n 0, 1, 0, 0)), (44, (.getfield 111, 3, 0, 0)), (47, (.ifCond .le (5), 3, 52, 0)), (50, (.iconst (0), 1, 0, (0))), (51, (.ireturn, 1, 0, 0)), (52, (.iload_n 2, 1, 0, 0)), (53, (.ifCond .ne (10), 3, 63, 0)), (56, (.aload_n 0, 1, 0, 0)), (57, (.getfield 75, 3, 0, 0)), (60, (.iload_n 1, 1, 0, 0)), (61, (.iaload, 1, 0, 0)), (62, (.ireturn, 1, 0, 0)), (63, (.aload_n 0, 1, 0, 0)), (64, (.getfield 75, 3, 0, 0)), (67, (.iload_n 1, 1, 0, 0)), (68, (.iaload, 1, 0, 0)), (69, (.ifCond .eq (13), 3, 82, 0)), (72, (.aload_n 0, 1, 0, 0)), (73, (.getfield 75, 3, 0, 0)), (76, (.iload_n 1, 1, 0, 0)), (77, (.iaload, 1, 0, 0)), (78, (.iconst (1), 1, 0, (1))), (79, (.if_icmp .ne (7), 3, 86, 0)), (82, (.iconst (1), 1, 0, (1))), (83, (.goto (4), 3, 87, 0)), (86, (.iconst (0), 1, 0, (0))), (87, (.istore_n 3, 1, 0, 0)), (88, (.aload_n 0, 1, 0, 0)), (89, (.getfield 26, 3, 0, 0)), (92, (.iload_n 1, 1, 0, 0)), (93, (.iaload, 1, 0, 0)), (94, (.iload_n 3, 1, 0, 0)), (95, (.invokestatic 237, 3, 0, 0)), (98, (.istore 4, 2, 0, 0)), (100, (.aload_n 0, 1, 0, 0)), (101, (.getfield 29, 3, 0, 0)), (104, (.iload_n 1, 1, 0, 0)), (105, (.iaload, 1, 0, 0)), (106, (.iload_n 3, 1, 0, 0)), (107, (.invokestatic 237, 3, 0, 0)), (110, (.istore 5, 2, 0, 0)), (112, (.iload_n 2, 1, 0, 0)), (113, (.iconst (1), 1, 0, (1))), (114, (.if_icmp .ne (38), 3, 152, 0)), (117, (.aload_n 0, 1, 0, 0)), (118, (.getfield 78, 3, 0, 0)), (121, (.iload 4, 2, 0, 0)), (123, (.iaload, 1, 0, 0)), (124, (.aload_n 0, 1, 0, 0)), (125, (.getfield 78, 3, 0, 0)), (128, (.iload 5, 2, 0, 0)), (130, (.iaload, 1, 0, 0)), (131, (.if_icmp .le (13), 3, 144, 0)), (134, (.aload_n 0, 1, 0, 0)), (135, (.getfield 78, 3, 0, 0)), (138, (.iload 4, 2, 0, 0)), (140, (.iaload, 1, 0, 0)), (141, (.goto (10), 3, 151, 0)), (144, (.aload_n 0, 1, 0, 0)), (145, (.getfield 78, 3, 0, 0)), (148, (.iload 5, 2, 0, 0)), (150, (.iaload, 1, 0, 0)), (151, (.ireturn, 1, 0, 0)), (152, (.aload_n 0, 1, 0, 0)), (153, (.getfield 81, 3, 0, 0)), (156, (.iload 4, 2, 0, 0)), (158, (.iaload, 1, 0, 0)), (159, (.aload_n 0, 1, 0, 0)), (160, (.getfield 81, 3, 0, 0)), (163, (.iload 5, 2, 0, 0)), (165, (.iaload, 1, 0, 0)), (166, (.if_icmp .ge (13), 3, 179, 0)), (169, (.aload_n 0, 1, 0, 0)), (170, (.getfield 81, 3, 0, 0)), (173, (.iload 4, 2, 0, 0)), (175, (.iaload, 1, 0, 0)), (176, (.goto (10), 3, 186, 0)), (179, (.aload_n 0, 1, 0, 0)), (180, (.getfield 81, 3, 0, 0)), (183, (.iload 5, 2, 0, 0)), (185, (.iaload, 1, 0, 0)), (186, (.ireturn, 1, 0, 0))], [(118, 10, 12), (122, 10, 6), (111, 10, 0), (75, 10, 28), (26, 10, 7), (29, 10, 8), (78, 10, 30), (81, 10, 31)], [(111, 10, 0)], [(114, 87, 3, 99), (237, 135, 2, 99)], 1)
/-- HouseDeskModel.side -/
def mt_147 : mm_M := ([(0, (.aload_n 0, 1, 0, 0)), (1, (.aload_n 0, 1, 0, 0)), (2, (.getfield 118, 3, 0, 0)), (5, (.ifCond .ne (7), 3, 12, 0)), (8, (.iconst (1), 1, 0, (1))), (9, (.goto (25), 3, 34, 0)), (12, (.aload_n 0, 1, 0, 0)), (13, (.iload_n 1, 1, 0, 0)), (14, (.invokevirtual 125, 3, 0, 0)), (17, (.ifCond .eq (12), 3, 29, 0)), (20, (.iload_n 2, 1, 0, 0)), (21, (.iconst (0), 1, 0, (0))), (22, (.iconst (3), 1, 0, (3))), (23, (.invokestatic 114, 3, 0, 0)), (26, (.ifCond .ne (7), 3, 33, 0)), (29, (.iconst (2), 1, 0, (2))), (30, (.goto (4), 3, 34, 0)), (33, (.iconst (0), 1, 0, (0))), (34, (.putfield 111, 3, 0, 0)), (37, (.aload_n 0, 1, 0, 0)), (38, (.getfield 111, 3, 0, 0)), (41, (.ifCond .gt (19), 3, 60, 0)), (44, (.aload_n 0, 1, 0, 0)), (45, (.getfield 63, 3, 0, 0)), (48, (.bipush (9), 2, 0, (9))), (50, (.iload_n 2, 1, 0, 0)), (51, (.iadd, 1, 0, 0)), (52, (.iaload, 1, 0, 0)), (53, (.iload_n 1, 1, 0, 0)), (54, (.ishr, 1, 0, 0)), (55, (.iconst (1), 1, 0, (1))), (56, (.iand, 1, 0, 0)), (57, (.ifCond .ne (5), 3, 62, 0)), (60, (.iconst (0), 1, 0, (0))), (61, (.ireturn, 1, 0, 0)), (62, (.iload_n 2, 1, 0, 0)), (63, (.iconst (1), 1, 0, (1))), (64, (.if_icmp .eq (8), 3, 72, 0)), (67, (.iload_n 2, 1, 0, 0)), (68, (.iconst (3), 1, 0, (3))), (69, (.if_icmp .ne (7), 3, 76, 0)), (72, (.iconst (1), 1, 0, (1))), (73, (.goto (4), 3, 77, 0)), (76, (.iconst (0), 1, 0, (0))), (77, (.istore_n 3, 1, 0, 0)), (78, (.aload_n 0, 1, 0, 0)), (79, (.getfield 81, 3, 0, 0)), (82, (.iload_n 1, 1, 0, 0)), (83, (.iload_n 3, 1, 0, 0)), (84, (.invokestatic 237, 3, 0, 0)), (87, (.iaload, 1, 0, 0)), (88, (.aload_n 0, 1, 0, 0)), (89, (.getfield 78, 3, 0, 0)), (92, (.iload_n 1, 1, 0, 0)), (93, (.iload_n 3, 1, 0, 0)), (94, (.invokestatic 237, 3, 0, 0)), (97, (.iaload, 1, 0, 0)), (98, (.isub, 1, 0, 0)), (99, (.ireturn, 1, 0, 0))], [(118, 10, 12), (111, 10, 0), (63, 10, 24), (81, 10, 31), (78, 10, 30)], [(111, 10, 0)], [(125, 88, 1, 10), (114, 87, 3, 99), (237, 135, 2, 99)], 1)
/-- HouseDeskModel.way -/
def mt_148 : mm_M := ([(0, (.aload_n 0, 1, 0, 0)), (1, (.aload_n 0, 1, 0, 0)), (2, (.iload_n 1, 1, 0, 0)), (3, (.invokevirtual 125, 3, 0, 0)), (6, (.ifCond .eq (15), 3, 21, 0)), (9, (.aload_n 0, 1, 0, 0)), (10, (.iload_n 2, 1, 0, 0)), (11, (.invokevirtual 125, 3, 0, 0)), (14, (.ifCond .eq (7), 3, 21, 0)), (17, (.iconst (0), 1, 0, (0))), (18, (.goto (4), 3, 22, 0)), (21, (.iconst (1), 1, 0, (1))), (22, (.putfield 111, 3, 0, 0)), (25, (.aload_n 0, 1, 0, 0)), (26, (.getfield 111, 3, 0, 0)), (29, (.ifCond .le (5), 3, 34, 0)), (32, (.iconst (0), 1, 0, (0))), (33, (.ireturn, 1, 0, 0)), (34, (.iconst (0), 1, 0, (0))), (35, (.istore_n 3, 1, 0, 0)), (36, (.iload_n 3, 1, 0, 0)), (37, (.bipush (9), 2, 0, (9))), (39, (.if_icmp .ge (26), 3, 65, 0)), (42, (.aload_n 0, 1, 0, 0)), (43, (.getfield 108, 3, 0, 0)), (46, (.iload_n 3, 1, 0, 0)), (47, (.iload_n 3, 1, 0, 0)), (48, (.iload_n 2, 1, 0, 0)), (49, (.if_icmp .ne (7), 3, 56, 0)), (52, (.iconst (0), 1, 0, (0))), (53, (.goto (5), 3, 58, 0)), (56, (.bipush (99), 2, 0, (99))), (58, (.iastore, 1, 0, 0)), (59, (.iinc 3 (1), 3, 0, (1))), (62, (.goto (-26), 3, 36, 0)), (65, (.iconst (0), 1, 0, (0))), (66, (.istore_n 3, 1, 0, 0)), (67, (.iload_n 3, 1, 0, 0)), (68, (.bipush (9), 2, 0, (9))), (70, (.if_icmp .ge (137), 3, 207, 0)), (73, (.iconst (0), 1, 0, (0))), (74, (.istore 4, 2, 0, 0)), (76, (.iload 4, 2, 0, 0)), (78, (.aload_n 0, 1, 0, 0)), (79, (.getfield 122, 3, 0, 0)), (82, (.if_icmp .ge (119), 3, 201, 0)), (85, (.aload_n 0, 1, 0, 0)), (86, (.getfield 108, 3, 0, 0)), (89, (.aload_n 0, 1, 0, 0)), (90, (.getfield 29, 3, 0, 0)), (93, (.iload 4, 2, 0, 0)), (95, (.iaload, 1, 0, 0)), (96, (.iaload, 1, 0, 0)), (97, (.iconst (1), 1, 0, (1))), (98, (.iadd, 1, 0, 0)), (99, (.aload_n 0, 1, 0, 0)), (100, (.getfield 108, 3, 0, 0)), (103, (.aload_n 0, 1, 0, 0)), (104, (.getfield 26, 3, 0, 0)), (107, (.iload 4, 2, 0, 0)), (109, (.iaload, 1, 0, 0)), (110, (.iaload, 1, 0, 0)), (111, (.if_icmp .ge (29), 3, 140, 0)), (114, (.aload_n 0, 1, 0, 0)), (115, (.getfield 108, 3, 0, 0)), (118, (.aload_n 0, 1, 0, 0)), (119, (.getfield 26, 3, 0, 0)), (122, (.iload 4, 2, 0, 0)), (124, (.iaload, 1, 0, 0)), (125, (.aload_n 0, 1, 0, 0)), (126, (.getfield 108, 3, 0, 0)), (129, (.aload_n 0, 1, 0, 0)), (130, (.getfield 29, 3, 0, 0)), (133, (.iload 4, 2, 0, 0)), (135, (.iaload, 1, 0, 0)), (136, (.iaload, 1, 0, 0)), (137, (.iconst (1), 1, 0, (1))), (138, (.iadd, 1, 0, 0)), (139, (.iastore, 1, 0, 0)), (140, (.aload_n 0, 1, 0, 0)), (141, (.getfield 108, 3, 0, 0)), (144, (.aload_n 0, 1, 0, 0)), (145, (.getfield 26, 3, 0, 0)), (148, (.iload 4, 2, 0, 0)), (150, (.iaload, 1, 0, 0)), (151, (.iaload, 1, 0, 0)), (152, (.iconst (1), 1, 0, (1))), (153, (.iadd, 1, 0, 0)), (154, (.aload_n 0, 1, 0, 0)), (155, (.getfield 108, 3, 0, 0)), (158, (.aload_n 0, 1, 0, 0)), (159, (.getfield 29, 3, 0, 0)), (162, (.iload 4, 2, 0, 0)), (164, (.iaload, 1, 0, 0)), (165, (.iaload, 1, 0, 0)), (166, (.if_icmp .ge (29), 3, 195, 0)), (169, (.aload_n 0, 1, 0, 0)), (170, (.getfield 108, 3, 0, 0)), (173, (.aload_n 0, 1, 0, 0)), (174, (.getfield 29, 3, 0, 0)), (177, (.iload 4, 2, 0, 0)), (179, (.iaload, 1, 0, 0)), (180, (.aload_n 0, 1, 0, 0)), (181, (.getfield 108, 3, 0, 0)), (184, (.aload_n 0, 1, 0, 0)), (185, (.getfield 26, 3, 0, 0)), (188, (.iload 4, 2, 0, 0)), (190, (.iaload, 1, 0, 0)), (191, (.iaload, 1, 0, 0)), (192, (.iconst (1), 1, 0, (1))), (193, (.iadd, 1, 0, 0)), (194, (.iastore, 1, 0, 0)), (195, (.iinc 4 (1), 3, 0, (1))), (198, (.goto (-122), 3, 76, 0)), (201, (.iinc 3 (1), 3, 0, (1))), (204, (.goto (-137), 3, 67, 0)), (207, (.aload_n 0, 1, 0, 0)), (208, (.iconst (0), 1, 0, (0))), (209, (.putfield 309, 3, 0, 0)), (212, (.aload_n 0, 1, 0, 0)), (213, (.getfield 108, 3, 0, 0)), (216, (.iload_n 1, 1, 0, 0)), (217, (.iaload, 1, 0, 0)), (218, (.bipush (99), 2, 0, (99))), (220, (.if_icmp .ne (5), 3, 225, 0)), (223, (.iconst (0), 1, 0, (0))), (224, (.ireturn, 1, 0, 0)), (225, (.iload_n 1, 1, 0, 0)), (226, (.istore_n 3, 1, 0, 0)), (227, (.aload_n 0, 1, 0, 0)), (228, (.getfield 84, 3, 0, 0)), (231, (.iconst (0), 1, 0, (0))), (232, (.iload_n 1, 1, 0, 0)), (233, (.iastore, 1, 0, 0)), (234, (.aload_n 0, 1, 0, 0)), (235, (.iconst (1), 1, 0, (1))), (236, (.putfield 309, 3, 0, 0)), (239, (.iload_n 3, 1, 0, 0)), (240, (.iload_n 2, 1, 0, 0)), (241, (.if_icmp .eq (80), 3, 321, 0)), (244, (.iconst (-1), 1, 0, (-1))), (245, (.istore 4, 2, 0, 0)), (247, (.bipush (8), 2, 0, (8))), (249, (.istore 5, 2, 0, 0)), (251, (.iload 5, 2, 0, 0)), (253, (.ifCond .lt (42), 3, 295, 0)), (256, (.aload_n 0, 1, 0, 0)), (257, (.getfield 108, 3, 0, 0)), (260, (.iload 5, 2, 0, 0)), (262, (.iaload, 1, 0, 0)), (263, (.aload_n 0, 1, 0, 0)), (264, (.getfield 108, 3, 0, 0)), (267, (.iload_n 3, 1, 0, 0)), (268, (.iaload, 1, 0, 0)), (269, (.iconst (1), 1, 0, (1))), (270, (.isub, 1, 0, 0)), (271, (.if_icmp .ne (18), 3, 289, 0)), (274, (.aload_n 0, 1, 0, 0)), (275, (.iload_n 3, 1, 0, 0)), (276, (.iload 5, 2, 0, 0)), (278, (.invokevirtual 129, 3, 0, 0)), (281, (.iconst (-1), 1, 0, (-1))), (282, (.if_icmp .eq (7), 3, 289, 0)), (285, (.iload 5, 2, 0, 0)), (287, (.istore 4, 2, 0, 0)), (289, (.iinc 5 (-1), 3, 0, (-1))), (292, (.goto (-41), 3, 251, 0)), (295, (.iload 4, 2, 0, 0)), (297, (.istore_n 3, 1, 0, 0)), (298, (.aload_n 0, 1, 0, 0)), (299, (.getfield 84, 3, 0, 0)), (302, (.aload_n 0, 1, 0, 0)), (303, (.getfield 309, 3, 0, 0)), (306, (.iload_n 3, 1, 0, 0)), (307, (.iastore, 1, 0, 0)), (308, (.aload_n 0, 1, 0, 0)), (309, (.dup, 1, 0, 0)), (310, (.getfield 309, 3, 0, 0)), (313, (.iconst (1), 1, 0, (1))), (314, (.iadd, 1, 0, 0)), (315, (.putfield 309, 3, 0, 0)), (318, (.goto (-79), 3, 239, 0)), (321, (.aload_n 0, 1, 0, 0)), (322, (.getfield 309, 3, 0, 0)), (325, (.ireturn, 1, 0, 0))], [(111, 10, 0), (108, 10, 45), (122, 10, 6), (29, 10, 8), (26, 10, 7), (84, 10, 35), (309, 10, 34)], [(111, 10, 0), (309, 10, 34)], [(125, 88, 1, 10), (129, 90, 2, 10)], 1)
/-- HouseDeskModel.wayRoom -/
def mt_149 : mm_M := ([(0, (.aload_n 0, 1, 0, 0)), (1, (.iconst (0), 1, 0, (0))), (2, (.putfield 111, 3, 0, 0)), (5, (.iload_n 1, 1, 0, 0)), (6, (.iconst (0), 1, 0, (0))), (7, (.aload_n 0, 1, 0, 0)), (8, (.getfield 309, 3, 0, 0)), (11, (.iconst (1), 1, 0, (1))), (12, (.isub, 1, 0, 0)), (13, (.invokestatic 114, 3, 0, 0)), (16, (.ifCond .eq (12), 3, 28, 0)), (19, (.aload_n 0, 1, 0, 0)), (20, (.getfield 84, 3, 0, 0)), (23, (.iload_n 1, 1, 0, 0)), (24, (.iaload, 1, 0, 0)), (25, (.goto (4), 3, 29, 0)), (28, (.iconst (-1), 1, 0, (-1))), (29, (.ireturn, 1, 0, 0))], [(309, 10, 34), (84, 10, 35)], [(111, 10, 0)], [(114, 87, 3, 99)], 1)
/-- HouseDeskModel.count -/
def mt_150 : mm_M := ([(0, (.aload_n 0, 1, 0, 0)), (1, (.iconst (0), 1, 0, (0))), (2, (.putfield 111, 3, 0, 0)), (5, (.iload_n 1, 1, 0, 0)), (6, (.ifCond .ne (8), 3, 14, 0)), (9, (.aload_n 0, 1, 0, 0)), (10, (.invokevirtual 275, 3, 0, 0)), (13, (.ireturn, 1, 0, 0)), (14, (.iload_n 1, 1, 0, 0)), (15, (.iconst (1), 1, 0, (1))), (16, (.if_icmp .ne (8), 3, 24, 0)), (19, (.aload_n 0, 1, 0, 0)), (20, (.getfield 122, 3, 0, 0)), (23, (.ireturn, 1, 0, 0)), (24, (.iload_n 1, 1, 0, 0)), (25, (.iconst (2), 1, 0, (2))), (26, (.if_icmp .ne (8), 3, 34, 0)), (29, (.aload_n 0, 1, 0, 0)), (30, (.getfield 166, 3, 0, 0)), (33, (.ireturn, 1, 0, 0)), (34, (.iload_n 1, 1, 0, 0)), (35, (.iconst (3), 1, 0, (3))), (36, (.if_icmp .ne (8), 3, 44, 0)), (39, (.aload_n 0, 1, 0, 0)), (40, (.getfield 263, 3, 0, 0)), (43, (.ireturn, 1, 0, 0)), (44, (.iload_n 1, 1, 0, 0)), (45, (.iconst (4), 1, 0, (4))), (46, (.if_icmp .ne (18), 3, 64, 0)), (49, (.aload_n 0, 1, 0, 0)), (50, (.getfield 118, 3, 0, 0)), (53, (.ifCond .eq (7), 3, 60, 0)), (56, (.iconst (1), 1, 0, (1))), (57, (.goto (8), 3, 65, 0)), (60, (.iconst (0), 1, 0, (0))), (61, (.goto (4), 3, 65, 0)), (64, (.iconst (-1), 1, 0, (-1))), (65, (.ireturn, 1, 0, 0))], [(122, 10, 6), (166, 10, 15), (263, 10, 16), (118, 10, 12)], [(111, 10, 0)], [(275, 108, 0, 10)], 1)
/-- java/lang/Math.max -/
def mt_151 : mm_M := ([], [], [], [], 1)
/-- java/lang/Math.min -/
def mt_152 : mm_M := ([], [], [], [], 1)
/-- java/lang/Integer.bitCount -/
def mt_153 : mm_M := ([(0, (.iload_n 0, 1, 0, 0)), (1, (.iload_n 0, 1, 0, 0)), (2, (.iconst (1), 1, 0, (1))), (3, (.iushr, 1, 0, 0)), (4, (.ldc_w 265, 3, 0, (1431655765))), (7, (.iand, 1, 0, 0)), (8, (.isub, 1, 0, 0)), (9, (.istore_n 0, 1, 0, 0)), (10, (.iload_n 0, 1, 0, 0)), (11, (.ldc_w 266, 3, 0, (858993459))), (14, (.iand, 1, 0, 0)), (15, (.iload_n 0, 1, 0, 0)), (16, (.iconst (2), 1, 0, (2))), (17, (.iushr, 1, 0, 0)), (18, (.ldc_w 266, 3, 0, (858993459))), (21, (.iand, 1, 0, 0)), (22, (.iadd, 1, 0, 0)), (23, (.istore_n 0, 1, 0, 0)), (24, (.iload_n 0, 1, 0, 0)), (25, (.iload_n 0, 1, 0, 0)), (26, (.iconst (4), 1, 0, (4))), (27, (.iushr, 1, 0, 0)), (28, (.iadd, 1, 0, 0)), (29, (.ldc_w 267, 3, 0, (252645135))), (32, (.iand, 1, 0, 0)), (33, (.istore_n 0, 1, 0, 0)), (34, (.iload_n 0, 1, 0, 0)), (35, (.iload_n 0, 1, 0, 0)), (36, (.bipush (8), 2, 0, (8))), (38, (.iushr, 1, 0, 0)), (39, (.iadd, 1, 0, 0)), (40, (.istore_n 0, 1, 0, 0)), (41, (.iload_n 0, 1, 0, 0)), (42, (.iload_n 0, 1, 0, 0)), (43, (.bipush (16), 2, 0, (16))), (45, (.iushr, 1, 0, 0)), (46, (.iadd, 1, 0, 0)), (47, (.istore_n 0, 1, 0, 0)), (48, (.iload_n 0, 1, 0, 0)), (49, (.bipush (63), 2, 0, (63))), (51, (.iand, 1, 0, 0)), (52, (.ireturn, 1, 0, 0))], [], [], [], 1)
/-- HouseDesk$Layout.directionOf -/
def mt_154 : mm_M := ([], [], [], [], 1)
/-- HouseDesk.count -/
def mt_155 : mm_M := ([(0, (.iload_n 1, 1, 0, 0)), (1, (.tableswitch (80) (0) (4) #[35, 43, 51, 59, 67], 35, 0, 0)), (36, (.aload_n 0, 1, 0, 0)), (37, (.getfield 12, 3, 0, 0)), (40, (.getfield 176, 3, 0, 0)), (43, (.ireturn, 1, 0, 0)), (44, (.aload_n 0, 1, 0, 0)), (45, (.getfield 12, 3, 0, 0)), (48, (.getfield 65, 3, 0, 0)), (51, (.ireturn, 1, 0, 0)), (52, (.aload_n 0, 1, 0, 0)), (53, (.getfield 21, 3, 0, 0)), (56, (.getfield 179, 3, 0, 0)), (59, (.ireturn, 1, 0, 0)), (60, (.aload_n 0, 1, 0, 0)), (61, (.getfield 21, 3, 0, 0)), (64, (.getfield 182, 3, 0, 0)), (67, (.ireturn, 1, 0, 0)), (68, (.aload_n 0, 1, 0, 0)), (69, (.getfield 32, 3, 0, 0)), (72, (.ifCond .eq (7), 3, 79, 0)), (75, (.iconst (1), 1, 0, (1))), (76, (.goto (4), 3, 80, 0)), (79, (.iconst (0), 1, 0, (0))), (80, (.ireturn, 1, 0, 0)), (81, (.iconst (-1), 1, 0, (-1))), (82, (.ireturn, 1, 0, 0))], [(12, 0, 0), (176, 1, 11), (65, 1, 12), (21, 0, 1), (179, 2, 4), (182, 2, 5), (32, 0, 3)], [], [], 1)
def ms_cells : List mm_K := [(0, 0, [some 1, some 2, some 9, none]), (0, 1, [some 11, some 12, some 13, some 14, some 15, some 16, some 17, some 18, some 19, none, none, none, none]), (0, 2, [some 3, some 6, some 7, some 8, none, none, some 1, some 4, some 5]), (0, 3, [some 20, none]), (0, 4, [some 1]), (0, 5, [some 21, some 31, some 32, none, some 33, some 43, none, some 1]), (0, 6, [some 44, some 1, some 5]), (0, 7, [some 45, some 46, some 47, some 48, some 49, some 50, some 60, some 61, none, some 1, some 5, some 6]), (0, 8, [some 62, some 72, none, some 1, some 6, some 7]), (0, 9, [some 73, none, some 74, some 1]), (0, 10, [none, some 75, some 76, some 77, some 78, some 79, none, some 80, some 81, some 82, none, some 83, none, none, some 84, none, none, some 85, some 86, none, some 87, some 88, some 89, some 90, some 91, some 92, some 93, some 94, some 95, none, some 96, some 97, none, none, none, some 98, some 99, none, some 100, some 101, some 102, some 103, some 104, some 105, none, some 106]), (1, 9, []), (1, 9, []), (1, 9, []), (1, 9, []), (1, 9, []), (1, 21, []), (1, 21, []), (1, 21, []), (1, 4, []), (1, 3, []), (3, 9, []), (1, 13, []), (1, 13, []), (1, 13, []), (1, 13, []), (1, 13, []), (1, 13, []), (1, 13, []), (1, 13, []), (1, 13, []), (1, 9, []), (1, 9, []), (3, 9, []), (1, 9, []), (1, 9, []), (1, 9, []), (1, 9, []), (1, 9, []), (1, 9, []), (1, 9, []), (1, 9, []), (1, 9, []), (1, 42, []), (1, 13, []), (1, 21, []), (1, 126, []), (1, 42, []), (1, 9, []), (1, 9, []), (3, 9, []), (1, 13, []), (1, 13, []), (1, 13, []), (1, 13, []), (1, 13, []), (1, 13, []), (1, 13, []), (1, 13, []), (1, 13, []), (1, 9, []), (1, 9, []), (3, 9, []), (1, 4, []), (1, 4, []), (1, 4, []), (1, 4, []), (1, 4, []), (1, 4, []), (1, 4, []), (1, 4, []), (1, 4, []), (1, 2, []), (1, 9, []), (1, 9, []), (2, 9, []), (1, 9, []), (1, 9, []), (1, 9, []), (1, 9, []), (1, 21, []), (1, 21, []), (1, 21, []), (1, 4, []), (1, 3, []), (1, 48, []), (1, 42, []), (1, 9, []), (1, 144, []), (1, 9, []), (1, 144, []), (1, 13, []), (1, 4, []), (1, 4, []), (1, 21, []), (1, 21, []), (1, 18, []), (1, 18, []), (1, 9, []), (2, 42, []), (1, 9, []), (1, 9, []), (1, 9, []), (1, 9, []), (1, 9, []), (1, 9, []), (1, 9, [])]
def ms_Z : List (Nat × Nat) := [(0, 3), (1, 9), (7, 8), (8, 2), (10, 10), (10, 12), (10, 29), (10, 44)]
def ms_Y : mm_Y := (ms_cells, ms_Z, [mt_0, mt_1, mt_2, mt_3, mt_4, mt_5, mt_6, mt_7, mt_8, mt_9, mt_10, mt_11, mt_12, mt_13, mt_14, mt_15, mt_16, mt_17, mt_18, mt_19, mt_20, mt_21, mt_22, mt_23, mt_24, mt_25, mt_26, mt_27, mt_28, mt_29, mt_30, mt_31, mt_32, mt_33, mt_34, mt_35, mt_36, mt_37, mt_38, mt_39, mt_40, mt_41, mt_42, mt_43, mt_44, mt_45, mt_46, mt_47, mt_48, mt_49, mt_50, mt_51, mt_52, mt_53, mt_54, mt_55, mt_56, mt_57, mt_58, mt_59, mt_60, mt_61, mt_62, mt_63, mt_64, mt_65, mt_66, mt_67, mt_68, mt_69, mt_70, mt_71, mt_72, mt_73, mt_74, mt_75, mt_76, mt_77, mt_78, mt_79, mt_80, mt_81, mt_82, mt_83, mt_84, mt_85, mt_86, mt_87, mt_88, mt_89, mt_90, mt_91, mt_92, mt_93, mt_94, mt_95, mt_96, mt_97, mt_98, mt_99, mt_100, mt_101, mt_102, mt_103, mt_104, mt_105, mt_106, mt_107, mt_108, mt_109, mt_110, mt_111, mt_112, mt_113, mt_114, mt_115, mt_116, mt_117, mt_118, mt_119, mt_120, mt_121, mt_122, mt_123, mt_124, mt_125, mt_126, mt_127, mt_128, mt_129, mt_130, mt_131, mt_132, mt_133, mt_134, mt_135, mt_136, mt_137, mt_138, mt_139, mt_140, mt_141, mt_142, mt_143, mt_144, mt_145, mt_146, mt_147, mt_148, mt_149, mt_150, mt_151, mt_152, mt_153, mt_154, mt_155])
def ms_mx (y : Nat) : Nat := (mm_nth [1, 2, 2, 2, 2, 2, 1, 2, 4, 2, 3, 3, 4, 3, 5, 1, 3, 4, 1, 1, 3, 4, 2, 2, 4, 4, 3, 5, 3, 3, 5, 4, 7, 4, 5, 7, 3, 3, 4, 2, 2, 2, 8, 5, 2, 2, 3, 3, 3, 2, 1, 1, 1, 3, 5, 5, 5, 5, 4, 6, 3, 2, 4, 5, 4, 4, 3, 2, 7, 1, 4, 3, 3, 4, 2, 6, 4, 5, 3, 3, 4, 5, 4, 3, 3, 2, 1, 3, 2, 7, 4, 3, 5, 4, 3, 2, 7, 9, 7, 3, 5, 3, 2, 10, 4, 4, 3, 7, 3, 7, 5, 3, 4, 3, 3, 3, 5, 4, 3, 3, 3, 4, 5, 4, 3, 3, 4, 1, 5, 3, 3, 2, 8, 2, 2, 2, 4, 4, 2, 2, 7, 2, 2, 2, 3, 4, 6, 4, 6, 2, 2, 2, 2, 1, 2, 2] y).getD 0
def ms_nmL : List MethodName := [⟨"HouseDesk", "clear", "()V"⟩, ⟨"HouseDesk", "plan", "()I"⟩, ⟨"HouseDesk", "witness", "(I)I"⟩, ⟨"HouseDesk", "wayRoom", "(I)I"⟩, ⟨"HouseDesk$Bits", "has", "(II)Z"⟩, ⟨"HouseDesk$Bits", "lowest", "(I)I"⟩, ⟨"HouseDesk$Bits", "withoutLowest", "(I)I"⟩, ⟨"HouseDesk$Sketch", "isDrawn", "(I)Z"⟩, ⟨"HouseDesk$Sketch", "isTaken", "(II)Z"⟩, ⟨"HouseDesk$Sketch", "hasJoin", "(I)Z"⟩, ⟨"HouseDesk$Sketch", "areJoined", "(II)Z"⟩, ⟨"HouseDesk$Sketch", "isEnd", "(II)Z"⟩, ⟨"HouseDesk$Sketch", "drawRoom", "(III)V"⟩, ⟨"HouseDesk$Sketch", "drawJoin", "(II)V"⟩, ⟨"HouseDesk$Sketch", "nameCorners", "(IIII)V"⟩, ⟨"HouseDesk$Sketch", "wipe", "()V"⟩, ⟨"HouseDesk$Sketch", "wishedArea", "()I"⟩, ⟨"HouseDesk$Sketch", "turn", "(III)I"⟩, ⟨"HouseDesk$Planner", "judge", "()I"⟩, ⟨"HouseDesk$Witness", "forget", "()V"⟩, ⟨"HouseDesk$Witness", "tellTwo", "(II)V"⟩, ⟨"HouseDesk$Witness", "tellThree", "(III)V"⟩, ⟨"HouseDesk$Witness", "at", "(I)I"⟩, ⟨"HouseDesk$Crossings", "findAny", "(LHouseDesk$Witness;)Z"⟩, ⟨"HouseDesk$Crossings", "findTwoJoins", "(LHouseDesk$Witness;)Z"⟩, ⟨"HouseDesk$Crossings", "findRoomOnJoin", "(LHouseDesk$Witness;)Z"⟩, ⟨"HouseDesk$Crossings", "touches", "(II)Z"⟩, ⟨"HouseDesk$Crossings", "liesOn", "(II)Z"⟩, ⟨"HouseDesk$Crossings", "isBetween", "(III)Z"⟩, ⟨"HouseDesk$Crossings", "crosses", "(II)Z"⟩, ⟨"HouseDesk$Crossings", "parts", "(II)Z"⟩, ⟨"HouseDesk$Walks", "reachAll", "()Z"⟩, ⟨"HouseDesk$Walks", "goAround", "()Z"⟩, ⟨"HouseDesk$Walks", "orderJoins", "()V"⟩, ⟨"HouseDesk$Walks", "nextClockwise", "(II)I"⟩, ⟨"HouseDesk$Walks", "isSooner", "(IIII)Z"⟩, ⟨"HouseDesk$Walks", "westmost", "()I"⟩, ⟨"HouseDesk$Walks", "isFurtherWest", "(II)Z"⟩, ⟨"HouseDesk$Walks", "northmostFrom", "(I)I"⟩, ⟨"HouseDesk$Walks", "goInside", "()V"⟩, ⟨"HouseDesk$Walks", "roomBehind", "(I)I"⟩, ⟨"HouseDesk$Walks", "roomBefore", "(I)I"⟩, ⟨"HouseDesk$Walks", "walkFace", "(II)V"⟩, ⟨"HouseDesk$Walks", "findWideFace", "(LHouseDesk$Witness;)Z"⟩, ⟨"HouseDesk$Walks", "threeLeast", "(I)I"⟩, ⟨"HouseDesk$Walks", "comesBefore", "(II)Z"⟩, ⟨"HouseDesk$Walks", "isFace", "(I)Z"⟩, ⟨"HouseDesk$Sides", "cornersFit", "()Z"⟩, ⟨"HouseDesk$Sides", "stepsAlong", "(I)I"⟩, ⟨"HouseDesk$Sides", "lastOf", "(I)I"⟩, ⟨"HouseDesk$Sides", "sideBehind", "(I)I"⟩, ⟨"HouseDesk$Sides", "sideBefore", "(I)I"⟩, ⟨"HouseDesk$Sides", "bitOfSide", "(I)I"⟩, ⟨"HouseDesk$Sides", "isOn", "(II)Z"⟩, ⟨"HouseDesk$Sides", "joinOutline", "()V"⟩, ⟨"HouseDesk$Sides", "findLooseTriangle", "(LHouseDesk$Witness;)Z"⟩, ⟨"HouseDesk$Sides", "looseThird", "(II)I"⟩, ⟨"HouseDesk$Sides", "boundsFace", "(III)Z"⟩, ⟨"HouseDesk$Sides", "follows", "(III)Z"⟩, ⟨"HouseDesk$Sides", "takePlaces", "()V"⟩, ⟨"HouseDesk$Sides", "firstSideOf", "(I)I"⟩, ⟨"HouseDesk$Layout", "findFirst", "()V"⟩, ⟨"HouseDesk$Layout", "listRooms", "(I)V"⟩, ⟨"HouseDesk$Layout", "orderRooms", "()V"⟩, ⟨"HouseDesk$Layout", "choose", "(I)V"⟩, ⟨"HouseDesk$Layout", "shiftOpen", "(II)V"⟩, ⟨"HouseDesk$Layout", "canBeMet", "(I)Z"⟩, ⟨"HouseDesk$Layout", "weigh", "()V"⟩, ⟨"HouseDesk$Layout", "lookAround", "(II)V"⟩, ⟨"HouseDesk$Layout", "opposite", "(I)I"⟩, ⟨"HouseDesk$Layout", "hasCorner", "(III)Z"⟩, ⟨"HouseDesk$Layout", "isSooner", "()Z"⟩, ⟨"HouseDesk$Places", "settle", "()V"⟩, ⟨"HouseDesk$Places", "raise", "(III)V"⟩, ⟨"HouseDesk$Places", "axisOf", "(I)I"⟩, ⟨"HouseDesk$Places", "meet", "(I)V"⟩, ⟨"HouseDesk$Places", "overlap", "(I)V"⟩, ⟨"HouseDesk$Places", "reachOut", "(II)V"⟩, ⟨"HouseDesk$Places", "wallBegin", "(I)I"⟩, ⟨"HouseDesk$Places", "wallEnd", "(I)I"⟩, ⟨"HouseDesk$Places", "lengthAt", "(II)I"⟩, ⟨"HouseDesk$Way", "find", "(II)I"⟩, ⟨"HouseDesk$Way", "measure", "(I)V"⟩, ⟨"HouseDesk$Way", "measureAround", "(I)V"⟩, ⟨"HouseDesk$Way", "leastStep", "(I)I"⟩, ⟨"HouseDesk$Way", "at", "(I)I"⟩, ⟨"HouseDeskModel", "thrown", "()I"⟩, ⟨"HouseDeskModel", "in", "(III)Z"⟩, ⟨"HouseDeskModel", "isRoom", "(I)Z"⟩, ⟨"HouseDeskModel", "room", "(III)V"⟩, ⟨"HouseDeskModel", "joinOf", "(II)I"⟩, ⟨"HouseDeskModel", "join", "(II)I"⟩, ⟨"HouseDeskModel", "corners", "(IIII)V"⟩, ⟨"HouseDeskModel", "least", "(III)V"⟩, ⟨"HouseDeskModel", "wall", "(II)V"⟩, ⟨"HouseDeskModel", "clear", "()V"⟩, ⟨"HouseDeskModel", "turn", "(IIIIII)I"⟩, ⟨"HouseDeskModel", "isOn", "(II)Z"⟩, ⟨"HouseDeskModel", "cross", "(II)Z"⟩, ⟨"HouseDeskModel", "isCrossed", "()Z"⟩, ⟨"HouseDeskModel", "tell", "(IIII)V"⟩, ⟨"HouseDeskModel", "other", "(II)I"⟩, ⟨"HouseDeskModel", "part", "(II)I"⟩, ⟨"HouseDeskModel", "isAhead", "(III)Z"⟩, ⟨"HouseDeskModel", "sortAround", "()V"⟩, ⟨"HouseDeskModel", "behind", "(II)I"⟩, ⟨"HouseDeskModel", "wayFrom", "(II)I"⟩, ⟨"HouseDeskModel", "areTogether", "()Z"⟩, ⟨"HouseDeskModel", "roomCount", "()I"⟩, ⟨"HouseDeskModel", "findOutline", "()Z"⟩, ⟨"HouseDeskModel", "findFaces", "()V"⟩, ⟨"HouseDeskModel", "size", "(I)I"⟩, ⟨"HouseDeskModel", "nodeOf", "(II)I"⟩, ⟨"HouseDeskModel", "isLess", "(II)Z"⟩, ⟨"HouseDeskModel", "tellSet", "(II)V"⟩, ⟨"HouseDeskModel", "hasGreatFace", "()Z"⟩, ⟨"HouseDeskModel", "placeOf", "(I)I"⟩, ⟨"HouseDeskModel", "layCorners", "()Z"⟩, ⟨"HouseDeskModel", "roomAt", "(I)I"⟩, ⟨"HouseDeskModel", "link", "(II)V"⟩, ⟨"HouseDeskModel", "linkAll", "()V"⟩, ⟨"HouseDeskModel", "isFace", "(I)Z"⟩, ⟨"HouseDeskModel", "hasTriangle", "()Z"⟩, ⟨"HouseDeskModel", "layRings", "()V"⟩, ⟨"HouseDeskModel", "add", "(II)V"⟩, ⟨"HouseDeskModel", "comesBy", "(I)I"⟩, ⟨"HouseDeskModel", "addSides", "(I)V"⟩, ⟨"HouseDeskModel", "sideOf", "(I)I"⟩, ⟨"HouseDeskModel", "directionOf", "(III)I"⟩, ⟨"HouseDeskModel", "cutOn", "(I)Z"⟩, ⟨"HouseDeskModel", "takeBack", "(I)V"⟩, ⟨"HouseDeskModel", "search", "()V"⟩, ⟨"HouseDeskModel", "fits", "(I)Z"⟩, ⟨"HouseDeskModel", "mayBeLess", "()Z"⟩, ⟨"HouseDeskModel", "keepIfLess", "()V"⟩, ⟨"HouseDeskModel", "at", "(IZ)I"⟩, ⟨"HouseDeskModel", "raiseLow", "(IZI)V"⟩, ⟨"HouseDeskModel", "raiseHigh", "(IZI)V"⟩, ⟨"HouseDeskModel", "findPlaces", "()V"⟩, ⟨"HouseDeskModel", "raiseRoom", "(I)V"⟩, ⟨"HouseDeskModel", "raiseJoin", "(I)V"⟩, ⟨"HouseDeskModel", "answer", "(I)I"⟩, ⟨"HouseDeskModel", "plan", "()I"⟩, ⟨"HouseDeskModel", "witness", "(I)I"⟩, ⟨"HouseDeskModel", "rect", "(II)I"⟩, ⟨"HouseDeskModel", "house", "(I)I"⟩, ⟨"HouseDeskModel", "wallOf", "(II)I"⟩, ⟨"HouseDeskModel", "side", "(II)I"⟩, ⟨"HouseDeskModel", "way", "(II)I"⟩, ⟨"HouseDeskModel", "wayRoom", "(I)I"⟩, ⟨"HouseDeskModel", "count", "(I)I"⟩, ⟨"java/lang/Math", "max", "(II)I"⟩, ⟨"java/lang/Math", "min", "(II)I"⟩, ⟨"java/lang/Integer", "bitCount", "(I)I"⟩, ⟨"HouseDesk$Layout", "directionOf", "(I)I"⟩, ⟨"HouseDesk", "count", "(I)I"⟩]
def ms_nm (y : Nat) : MethodName := (mm_nth ms_nmL y).getD ⟨"", "", ""⟩
def ms_byL : List ByteArray := [prog_1_method_7_code, prog_1_method_8_code, prog_1_method_9_code, prog_1_method_15_code, prog_2_method_2_code, prog_2_method_3_code, prog_2_method_4_code, prog_8_method_2_code, prog_8_method_3_code, prog_8_method_4_code, prog_8_method_5_code, prog_8_method_6_code, prog_8_method_7_code, prog_8_method_8_code, prog_8_method_9_code, prog_8_method_10_code, prog_8_method_11_code, prog_8_method_12_code, prog_6_method_2_code, prog_11_method_2_code, prog_11_method_3_code, prog_11_method_4_code, prog_11_method_5_code, prog_3_method_2_code, prog_3_method_3_code, prog_3_method_4_code, prog_3_method_5_code, prog_3_method_6_code, prog_3_method_7_code, prog_3_method_8_code, prog_3_method_9_code, prog_9_method_2_code, prog_9_method_3_code, prog_9_method_4_code, prog_9_method_5_code, prog_9_method_6_code, prog_9_method_7_code, prog_9_method_8_code, prog_9_method_9_code, prog_9_method_10_code, prog_9_method_11_code, prog_9_method_12_code, prog_9_method_13_code, prog_9_method_14_code, prog_9_method_15_code, prog_9_method_16_code, prog_9_method_17_code, prog_7_method_2_code, prog_7_method_3_code, prog_7_method_4_code, prog_7_method_5_code, prog_7_method_6_code, prog_7_method_7_code, prog_7_method_8_code, prog_7_method_9_code, prog_7_method_10_code, prog_7_method_11_code, prog_7_method_12_code, prog_7_method_13_code, prog_7_method_14_code, prog_7_method_15_code, prog_4_method_2_code, prog_4_method_3_code, prog_4_method_4_code, prog_4_method_5_code, prog_4_method_6_code, prog_4_method_7_code, prog_4_method_8_code, prog_4_method_9_code, prog_4_method_10_code, prog_4_method_11_code, prog_4_method_13_code, prog_5_method_2_code, prog_5_method_3_code, prog_5_method_4_code, prog_5_method_5_code, prog_5_method_6_code, prog_5_method_7_code, prog_5_method_8_code, prog_5_method_9_code, prog_5_method_10_code, prog_10_method_2_code, prog_10_method_3_code, prog_10_method_4_code, prog_10_method_5_code, prog_10_method_6_code, prog_13_method_2_code, prog_13_method_3_code, prog_13_method_4_code, prog_13_method_5_code, prog_13_method_6_code, prog_13_method_7_code, prog_13_method_8_code, prog_13_method_9_code, prog_13_method_10_code, prog_13_method_11_code, prog_13_method_12_code, prog_13_method_13_code, prog_13_method_14_code, prog_13_method_15_code, prog_13_method_16_code, prog_13_method_17_code, prog_13_method_18_code, prog_13_method_19_code, prog_13_method_20_code, prog_13_method_21_code, prog_13_method_22_code, prog_13_method_23_code, prog_13_method_24_code, prog_13_method_25_code, prog_13_method_26_code, prog_13_method_27_code, prog_13_method_28_code, prog_13_method_29_code, prog_13_method_30_code, prog_13_method_31_code, prog_13_method_32_code, prog_13_method_33_code, prog_13_method_34_code, prog_13_method_35_code, prog_13_method_36_code, prog_13_method_37_code, prog_13_method_38_code, prog_13_method_39_code, prog_13_method_40_code, prog_13_method_41_code, prog_13_method_42_code, prog_13_method_43_code, prog_13_method_44_code, prog_13_method_45_code, prog_13_method_46_code, prog_13_method_47_code, prog_13_method_48_code, prog_13_method_49_code, prog_13_method_50_code, prog_13_method_51_code, prog_13_method_52_code, prog_13_method_53_code, prog_13_method_54_code, prog_13_method_55_code, prog_13_method_56_code, prog_13_method_57_code, prog_13_method_58_code, prog_13_method_59_code, prog_13_method_60_code, prog_13_method_61_code, prog_13_method_62_code, prog_13_method_63_code, prog_13_method_64_code, prog_13_method_65_code, prog_13_method_66_code, prog_18_method_65_code, prog_18_method_69_code, prog_17_method_49_code, prog_4_method_12_code, prog_1_method_16_code]
def ms_by (y : Nat) : ByteArray := (mm_nth ms_byL y).getD ⟨#[]⟩
theorem ck_0 : Cond.code (ms_nm 0) (ms_by 0) (ms_mx 0) (mm_rty (mm_me ms_Y 0).2.2.2.2) ∈ gd := tm_2 101 rfl rfl
theorem ck_1 : Cond.code (ms_nm 1) (ms_by 1) (ms_mx 1) (mm_rty (mm_me ms_Y 1).2.2.2.2) ∈ gd := tm_2 109 rfl rfl
theorem ck_2 : Cond.code (ms_nm 2) (ms_by 2) (ms_mx 2) (mm_rty (mm_me ms_Y 2).2.2.2.2) ∈ gd := tm_3 167 rfl rfl
theorem ck_3 : Cond.code (ms_nm 3) (ms_by 3) (ms_mx 3) (mm_rty (mm_me ms_Y 3).2.2.2.2) ∈ gd := tm_3 175 rfl rfl
theorem ck_4 : Cond.code (ms_nm 4) (ms_by 4) (ms_mx 4) (mm_rty (mm_me ms_Y 4).2.2.2.2) ∈ gd := tm_2 173 rfl rfl
theorem ck_5 : Cond.code (ms_nm 5) (ms_by 5) (ms_mx 5) (mm_rty (mm_me ms_Y 5).2.2.2.2) ∈ gd := tm_2 180 rfl rfl
theorem ck_6 : Cond.code (ms_nm 6) (ms_by 6) (ms_mx 6) (mm_rty (mm_me ms_Y 6).2.2.2.2) ∈ gd := tm_3 4 rfl rfl
theorem ck_7 : Cond.code (ms_nm 7) (ms_by 7) (ms_mx 7) (mm_rty (mm_me ms_Y 7).2.2.2.2) ∈ gd := tm_2 170 rfl rfl
theorem ck_8 : Cond.code (ms_nm 8) (ms_by 8) (ms_mx 8) (mm_rty (mm_me ms_Y 8).2.2.2.2) ∈ gd := tm_4 25 rfl rfl
theorem ck_9 : Cond.code (ms_nm 9) (ms_by 9) (ms_mx 9) (mm_rty (mm_me ms_Y 9).2.2.2.2) ∈ gd := tm_4 91 rfl rfl
theorem ck_10 : Cond.code (ms_nm 10) (ms_by 10) (ms_mx 10) (mm_rty (mm_me ms_Y 10).2.2.2.2) ∈ gd := tm_2 198 rfl rfl
theorem ck_11 : Cond.code (ms_nm 11) (ms_by 11) (ms_mx 11) (mm_rty (mm_me ms_Y 11).2.2.2.2) ∈ gd := tm_2 137 rfl rfl
theorem ck_12 : Cond.code (ms_nm 12) (ms_by 12) (ms_mx 12) (mm_rty (mm_me ms_Y 12).2.2.2.2) ∈ gd := tm_4 46 rfl rfl
theorem ck_13 : Cond.code (ms_nm 13) (ms_by 13) (ms_mx 13) (mm_rty (mm_me ms_Y 13).2.2.2.2) ∈ gd := tm_4 60 rfl rfl
theorem ck_14 : Cond.code (ms_nm 14) (ms_by 14) (ms_mx 14) (mm_rty (mm_me ms_Y 14).2.2.2.2) ∈ gd := tm_4 72 rfl rfl
theorem ck_15 : Cond.code (ms_nm 15) (ms_by 15) (ms_mx 15) (mm_rty (mm_me ms_Y 15).2.2.2.2) ∈ gd := tm_2 105 rfl rfl
theorem ck_16 : Cond.code (ms_nm 16) (ms_by 16) (ms_mx 16) (mm_rty (mm_me ms_Y 16).2.2.2.2) ∈ gd := tm_4 133 rfl rfl
theorem ck_17 : Cond.code (ms_nm 17) (ms_by 17) (ms_mx 17) (mm_rty (mm_me ms_Y 17).2.2.2.2) ∈ gd := tm_2 141 rfl rfl
theorem ck_18 : Cond.code (ms_nm 18) (ms_by 18) (ms_mx 18) (mm_rty (mm_me ms_Y 18).2.2.2.2) ∈ gd := tm_2 113 rfl rfl
theorem ck_19 : Cond.code (ms_nm 19) (ms_by 19) (ms_mx 19) (mm_rty (mm_me ms_Y 19).2.2.2.2) ∈ gd := tm_2 117 rfl rfl
theorem ck_20 : Cond.code (ms_nm 20) (ms_by 20) (ms_mx 20) (mm_rty (mm_me ms_Y 20).2.2.2.2) ∈ gd := tm_2 162 rfl rfl
theorem ck_21 : Cond.code (ms_nm 21) (ms_by 21) (ms_mx 21) (mm_rty (mm_me ms_Y 21).2.2.2.2) ∈ gd := tm_3 11 rfl rfl
theorem ck_22 : Cond.code (ms_nm 22) (ms_by 22) (ms_mx 22) (mm_rty (mm_me ms_Y 22).2.2.2.2) ∈ gd := tm_3 171 rfl rfl
theorem ck_23 : Cond.code (ms_nm 23) (ms_by 23) (ms_mx 23) (mm_rty (mm_me ms_Y 23).2.2.2.2) ∈ gd := tm_2 121 rfl rfl
theorem ck_24 : Cond.code (ms_nm 24) (ms_by 24) (ms_mx 24) (mm_rty (mm_me ms_Y 24).2.2.2.2) ∈ gd := tm_2 125 rfl rfl
theorem ck_25 : Cond.code (ms_nm 25) (ms_by 25) (ms_mx 25) (mm_rty (mm_me ms_Y 25).2.2.2.2) ∈ gd := tm_2 166 rfl rfl
theorem ck_26 : Cond.code (ms_nm 26) (ms_by 26) (ms_mx 26) (mm_rty (mm_me ms_Y 26).2.2.2.2) ∈ gd := tm_2 129 rfl rfl
theorem ck_27 : Cond.code (ms_nm 27) (ms_by 27) (ms_mx 27) (mm_rty (mm_me ms_Y 27).2.2.2.2) ∈ gd := tm_2 133 rfl rfl
theorem ck_28 : Cond.code (ms_nm 28) (ms_by 28) (ms_mx 28) (mm_rty (mm_me ms_Y 28).2.2.2.2) ∈ gd := tm_2 144 rfl rfl
theorem ck_29 : Cond.code (ms_nm 29) (ms_by 29) (ms_mx 29) (mm_rty (mm_me ms_Y 29).2.2.2.2) ∈ gd := tm_2 154 rfl rfl
theorem ck_30 : Cond.code (ms_nm 30) (ms_by 30) (ms_mx 30) (mm_rty (mm_me ms_Y 30).2.2.2.2) ∈ gd := tm_2 158 rfl rfl
theorem ck_31 : Cond.code (ms_nm 31) (ms_by 31) (ms_mx 31) (mm_rty (mm_me ms_Y 31).2.2.2.2) ∈ gd := tm_2 177 rfl rfl
theorem ck_32 : Cond.code (ms_nm 32) (ms_by 32) (ms_mx 32) (mm_rty (mm_me ms_Y 32).2.2.2.2) ∈ gd := tm_2 186 rfl rfl
theorem ck_33 : Cond.code (ms_nm 33) (ms_by 33) (ms_mx 33) (mm_rty (mm_me ms_Y 33).2.2.2.2) ∈ gd := tm_2 190 rfl rfl
theorem ck_34 : Cond.code (ms_nm 34) (ms_by 34) (ms_mx 34) (mm_rty (mm_me ms_Y 34).2.2.2.2) ∈ gd := tm_2 194 rfl rfl
theorem ck_35 : Cond.code (ms_nm 35) (ms_by 35) (ms_mx 35) (mm_rty (mm_me ms_Y 35).2.2.2.2) ∈ gd := tm_2 202 rfl rfl
theorem ck_36 : Cond.code (ms_nm 36) (ms_by 36) (ms_mx 36) (mm_rty (mm_me ms_Y 36).2.2.2.2) ∈ gd := tm_2 207 rfl rfl
theorem ck_37 : Cond.code (ms_nm 37) (ms_by 37) (ms_mx 37) (mm_rty (mm_me ms_Y 37).2.2.2.2) ∈ gd := tm_2 212 rfl rfl
theorem ck_38 : Cond.code (ms_nm 38) (ms_by 38) (ms_mx 38) (mm_rty (mm_me ms_Y 38).2.2.2.2) ∈ gd := tm_2 216 rfl rfl
theorem ck_39 : Cond.code (ms_nm 39) (ms_by 39) (ms_mx 39) (mm_rty (mm_me ms_Y 39).2.2.2.2) ∈ gd := tm_2 220 rfl rfl
theorem ck_40 : Cond.code (ms_nm 40) (ms_by 40) (ms_mx 40) (mm_rty (mm_me ms_Y 40).2.2.2.2) ∈ gd := tm_2 224 rfl rfl
theorem ck_41 : Cond.code (ms_nm 41) (ms_by 41) (ms_mx 41) (mm_rty (mm_me ms_Y 41).2.2.2.2) ∈ gd := tm_3 68 rfl rfl
theorem ck_42 : Cond.code (ms_nm 42) (ms_by 42) (ms_mx 42) (mm_rty (mm_me ms_Y 42).2.2.2.2) ∈ gd := tm_2 228 rfl rfl
theorem ck_43 : Cond.code (ms_nm 43) (ms_by 43) (ms_mx 43) (mm_rty (mm_me ms_Y 43).2.2.2.2) ∈ gd := tm_2 232 rfl rfl
theorem ck_44 : Cond.code (ms_nm 44) (ms_by 44) (ms_mx 44) (mm_rty (mm_me ms_Y 44).2.2.2.2) ∈ gd := tm_3 1 rfl rfl
theorem ck_45 : Cond.code (ms_nm 45) (ms_by 45) (ms_mx 45) (mm_rty (mm_me ms_Y 45).2.2.2.2) ∈ gd := tm_3 7 rfl rfl
theorem ck_46 : Cond.code (ms_nm 46) (ms_by 46) (ms_mx 46) (mm_rty (mm_me ms_Y 46).2.2.2.2) ∈ gd := tm_3 55 rfl rfl
theorem ck_47 : Cond.code (ms_nm 47) (ms_by 47) (ms_mx 47) (mm_rty (mm_me ms_Y 47).2.2.2.2) ∈ gd := tm_3 15 rfl rfl
theorem ck_48 : Cond.code (ms_nm 48) (ms_by 48) (ms_mx 48) (mm_rty (mm_me ms_Y 48).2.2.2.2) ∈ gd := tm_3 19 rfl rfl
theorem ck_49 : Cond.code (ms_nm 49) (ms_by 49) (ms_mx 49) (mm_rty (mm_me ms_Y 49).2.2.2.2) ∈ gd := tm_3 23 rfl rfl
theorem ck_50 : Cond.code (ms_nm 50) (ms_by 50) (ms_mx 50) (mm_rty (mm_me ms_Y 50).2.2.2.2) ∈ gd := tm_3 26 rfl rfl
theorem ck_51 : Cond.code (ms_nm 51) (ms_by 51) (ms_mx 51) (mm_rty (mm_me ms_Y 51).2.2.2.2) ∈ gd := tm_3 37 rfl rfl
theorem ck_52 : Cond.code (ms_nm 52) (ms_by 52) (ms_mx 52) (mm_rty (mm_me ms_Y 52).2.2.2.2) ∈ gd := tm_3 34 rfl rfl
theorem ck_53 : Cond.code (ms_nm 53) (ms_by 53) (ms_mx 53) (mm_rty (mm_me ms_Y 53).2.2.2.2) ∈ gd := tm_3 76 rfl rfl
theorem ck_54 : Cond.code (ms_nm 54) (ms_by 54) (ms_mx 54) (mm_rty (mm_me ms_Y 54).2.2.2.2) ∈ gd := tm_3 30 rfl rfl
theorem ck_55 : Cond.code (ms_nm 55) (ms_by 55) (ms_mx 55) (mm_rty (mm_me ms_Y 55).2.2.2.2) ∈ gd := tm_3 42 rfl rfl
theorem ck_56 : Cond.code (ms_nm 56) (ms_by 56) (ms_mx 56) (mm_rty (mm_me ms_Y 56).2.2.2.2) ∈ gd := tm_3 47 rfl rfl
theorem ck_57 : Cond.code (ms_nm 57) (ms_by 57) (ms_mx 57) (mm_rty (mm_me ms_Y 57).2.2.2.2) ∈ gd := tm_3 51 rfl rfl
theorem ck_58 : Cond.code (ms_nm 58) (ms_by 58) (ms_mx 58) (mm_rty (mm_me ms_Y 58).2.2.2.2) ∈ gd := tm_3 59 rfl rfl
theorem ck_59 : Cond.code (ms_nm 59) (ms_by 59) (ms_mx 59) (mm_rty (mm_me ms_Y 59).2.2.2.2) ∈ gd := tm_3 64 rfl rfl
theorem ck_60 : Cond.code (ms_nm 60) (ms_by 60) (ms_mx 60) (mm_rty (mm_me ms_Y 60).2.2.2.2) ∈ gd := tm_3 72 rfl rfl
theorem ck_61 : Cond.code (ms_nm 61) (ms_by 61) (ms_mx 61) (mm_rty (mm_me ms_Y 61).2.2.2.2) ∈ gd := tm_3 80 rfl rfl
theorem ck_62 : Cond.code (ms_nm 62) (ms_by 62) (ms_mx 62) (mm_rty (mm_me ms_Y 62).2.2.2.2) ∈ gd := tm_3 85 rfl rfl
theorem ck_63 : Cond.code (ms_nm 63) (ms_by 63) (ms_mx 63) (mm_rty (mm_me ms_Y 63).2.2.2.2) ∈ gd := tm_3 95 rfl rfl
theorem ck_64 : Cond.code (ms_nm 64) (ms_by 64) (ms_mx 64) (mm_rty (mm_me ms_Y 64).2.2.2.2) ∈ gd := tm_3 102 rfl rfl
theorem ck_65 : Cond.code (ms_nm 65) (ms_by 65) (ms_mx 65) (mm_rty (mm_me ms_Y 65).2.2.2.2) ∈ gd := tm_3 91 rfl rfl
theorem ck_66 : Cond.code (ms_nm 66) (ms_by 66) (ms_mx 66) (mm_rty (mm_me ms_Y 66).2.2.2.2) ∈ gd := tm_3 132 rfl rfl
theorem ck_67 : Cond.code (ms_nm 67) (ms_by 67) (ms_mx 67) (mm_rty (mm_me ms_Y 67).2.2.2.2) ∈ gd := tm_3 106 rfl rfl
theorem ck_68 : Cond.code (ms_nm 68) (ms_by 68) (ms_mx 68) (mm_rty (mm_me ms_Y 68).2.2.2.2) ∈ gd := tm_3 110 rfl rfl
theorem ck_69 : Cond.code (ms_nm 69) (ms_by 69) (ms_mx 69) (mm_rty (mm_me ms_Y 69).2.2.2.2) ∈ gd := tm_3 113 rfl rfl
theorem ck_70 : Cond.code (ms_nm 70) (ms_by 70) (ms_mx 70) (mm_rty (mm_me ms_Y 70).2.2.2.2) ∈ gd := tm_3 118 rfl rfl
theorem ck_71 : Cond.code (ms_nm 71) (ms_by 71) (ms_mx 71) (mm_rty (mm_me ms_Y 71).2.2.2.2) ∈ gd := tm_3 122 rfl rfl
theorem ck_72 : Cond.code (ms_nm 72) (ms_by 72) (ms_mx 72) (mm_rty (mm_me ms_Y 72).2.2.2.2) ∈ gd := tm_3 136 rfl rfl
theorem ck_73 : Cond.code (ms_nm 73) (ms_by 73) (ms_mx 73) (mm_rty (mm_me ms_Y 73).2.2.2.2) ∈ gd := tm_3 148 rfl rfl
theorem ck_74 : Cond.code (ms_nm 74) (ms_by 74) (ms_mx 74) (mm_rty (mm_me ms_Y 74).2.2.2.2) ∈ gd := tm_3 144 rfl rfl
theorem ck_75 : Cond.code (ms_nm 75) (ms_by 75) (ms_mx 75) (mm_rty (mm_me ms_Y 75).2.2.2.2) ∈ gd := tm_3 140 rfl rfl
theorem ck_76 : Cond.code (ms_nm 76) (ms_by 76) (ms_mx 76) (mm_rty (mm_me ms_Y 76).2.2.2.2) ∈ gd := tm_3 152 rfl rfl
theorem ck_77 : Cond.code (ms_nm 77) (ms_by 77) (ms_mx 77) (mm_rty (mm_me ms_Y 77).2.2.2.2) ∈ gd := tm_3 162 rfl rfl
theorem ck_78 : Cond.code (ms_nm 78) (ms_by 78) (ms_mx 78) (mm_rty (mm_me ms_Y 78).2.2.2.2) ∈ gd := tm_3 156 rfl rfl
theorem ck_79 : Cond.code (ms_nm 79) (ms_by 79) (ms_mx 79) (mm_rty (mm_me ms_Y 79).2.2.2.2) ∈ gd := tm_4 146 rfl rfl
theorem ck_80 : Cond.code (ms_nm 80) (ms_by 80) (ms_mx 80) (mm_rty (mm_me ms_Y 80).2.2.2.2) ∈ gd := tm_4 160 rfl rfl
theorem ck_81 : Cond.code (ms_nm 81) (ms_by 81) (ms_mx 81) (mm_rty (mm_me ms_Y 81).2.2.2.2) ∈ gd := tm_4 172 rfl rfl
theorem ck_82 : Cond.code (ms_nm 82) (ms_by 82) (ms_mx 82) (mm_rty (mm_me ms_Y 82).2.2.2.2) ∈ gd := tm_4 176 rfl rfl
theorem ck_83 : Cond.code (ms_nm 83) (ms_by 83) (ms_mx 83) (mm_rty (mm_me ms_Y 83).2.2.2.2) ∈ gd := tm_4 180 rfl rfl
theorem ck_84 : Cond.code (ms_nm 84) (ms_by 84) (ms_mx 84) (mm_rty (mm_me ms_Y 84).2.2.2.2) ∈ gd := tm_4 185 rfl rfl
theorem ck_85 : Cond.code (ms_nm 85) (ms_by 85) (ms_mx 85) (mm_rty (mm_me ms_Y 85).2.2.2.2) ∈ gd := tm_3 179 rfl rfl
theorem ck_86 : Cond.code (ms_nm 86) (ms_by 86) (ms_mx 86) (mm_rty (mm_me ms_Y 86).2.2.2.2) ∈ gd := tm_5 95 rfl rfl
theorem ck_87 : Cond.code (ms_nm 87) (ms_by 87) (ms_mx 87) (mm_rty (mm_me ms_Y 87).2.2.2.2) ∈ gd := tm_5 102 rfl rfl
theorem ck_88 : Cond.code (ms_nm 88) (ms_by 88) (ms_mx 88) (mm_rty (mm_me ms_Y 88).2.2.2.2) ∈ gd := tm_5 110 rfl rfl
theorem ck_89 : Cond.code (ms_nm 89) (ms_by 89) (ms_mx 89) (mm_rty (mm_me ms_Y 89).2.2.2.2) ∈ gd := tm_5 99 rfl rfl
theorem ck_90 : Cond.code (ms_nm 90) (ms_by 90) (ms_mx 90) (mm_rty (mm_me ms_Y 90).2.2.2.2) ∈ gd := tm_5 114 rfl rfl
theorem ck_91 : Cond.code (ms_nm 91) (ms_by 91) (ms_mx 91) (mm_rty (mm_me ms_Y 91).2.2.2.2) ∈ gd := tm_5 106 rfl rfl
theorem ck_92 : Cond.code (ms_nm 92) (ms_by 92) (ms_mx 92) (mm_rty (mm_me ms_Y 92).2.2.2.2) ∈ gd := tm_5 118 rfl rfl
theorem ck_93 : Cond.code (ms_nm 93) (ms_by 93) (ms_mx 93) (mm_rty (mm_me ms_Y 93).2.2.2.2) ∈ gd := tm_5 122 rfl rfl
theorem ck_94 : Cond.code (ms_nm 94) (ms_by 94) (ms_mx 94) (mm_rty (mm_me ms_Y 94).2.2.2.2) ∈ gd := tm_5 126 rfl rfl
theorem ck_95 : Cond.code (ms_nm 95) (ms_by 95) (ms_mx 95) (mm_rty (mm_me ms_Y 95).2.2.2.2) ∈ gd := tm_5 130 rfl rfl
theorem ck_96 : Cond.code (ms_nm 96) (ms_by 96) (ms_mx 96) (mm_rty (mm_me ms_Y 96).2.2.2.2) ∈ gd := tm_5 149 rfl rfl
theorem ck_97 : Cond.code (ms_nm 97) (ms_by 97) (ms_mx 97) (mm_rty (mm_me ms_Y 97).2.2.2.2) ∈ gd := tm_5 146 rfl rfl
theorem ck_98 : Cond.code (ms_nm 98) (ms_by 98) (ms_mx 98) (mm_rty (mm_me ms_Y 98).2.2.2.2) ∈ gd := tm_5 142 rfl rfl
theorem ck_99 : Cond.code (ms_nm 99) (ms_by 99) (ms_mx 99) (mm_rty (mm_me ms_Y 99).2.2.2.2) ∈ gd := tm_5 138 rfl rfl
theorem ck_100 : Cond.code (ms_nm 100) (ms_by 100) (ms_mx 100) (mm_rty (mm_me ms_Y 100).2.2.2.2) ∈ gd := tm_5 153 rfl rfl
theorem ck_101 : Cond.code (ms_nm 101) (ms_by 101) (ms_mx 101) (mm_rty (mm_me ms_Y 101).2.2.2.2) ∈ gd := tm_5 169 rfl rfl
theorem ck_102 : Cond.code (ms_nm 102) (ms_by 102) (ms_mx 102) (mm_rty (mm_me ms_Y 102).2.2.2.2) ∈ gd := tm_5 172 rfl rfl
theorem ck_103 : Cond.code (ms_nm 103) (ms_by 103) (ms_mx 103) (mm_rty (mm_me ms_Y 103).2.2.2.2) ∈ gd := tm_5 165 rfl rfl
theorem ck_104 : Cond.code (ms_nm 104) (ms_by 104) (ms_mx 104) (mm_rty (mm_me ms_Y 104).2.2.2.2) ∈ gd := tm_5 161 rfl rfl
theorem ck_105 : Cond.code (ms_nm 105) (ms_by 105) (ms_mx 105) (mm_rty (mm_me ms_Y 105).2.2.2.2) ∈ gd := tm_5 192 rfl rfl
theorem ck_106 : Cond.code (ms_nm 106) (ms_by 106) (ms_mx 106) (mm_rty (mm_me ms_Y 106).2.2.2.2) ∈ gd := tm_5 188 rfl rfl
theorem ck_107 : Cond.code (ms_nm 107) (ms_by 107) (ms_mx 107) (mm_rty (mm_me ms_Y 107).2.2.2.2) ∈ gd := tm_5 180 rfl rfl
theorem ck_108 : Cond.code (ms_nm 108) (ms_by 108) (ms_mx 108) (mm_rty (mm_me ms_Y 108).2.2.2.2) ∈ gd := tm_5 176 rfl rfl
theorem ck_109 : Cond.code (ms_nm 109) (ms_by 109) (ms_mx 109) (mm_rty (mm_me ms_Y 109).2.2.2.2) ∈ gd := tm_5 184 rfl rfl
theorem ck_110 : Cond.code (ms_nm 110) (ms_by 110) (ms_mx 110) (mm_rty (mm_me ms_Y 110).2.2.2.2) ∈ gd := tm_5 196 rfl rfl
theorem ck_111 : Cond.code (ms_nm 111) (ms_by 111) (ms_mx 111) (mm_rty (mm_me ms_Y 111).2.2.2.2) ∈ gd := tm_5 203 rfl rfl
theorem ck_112 : Cond.code (ms_nm 112) (ms_by 112) (ms_mx 112) (mm_rty (mm_me ms_Y 112).2.2.2.2) ∈ gd := tm_5 209 rfl rfl
theorem ck_113 : Cond.code (ms_nm 113) (ms_by 113) (ms_mx 113) (mm_rty (mm_me ms_Y 113).2.2.2.2) ∈ gd := tm_5 206 rfl rfl
theorem ck_114 : Cond.code (ms_nm 114) (ms_by 114) (ms_mx 114) (mm_rty (mm_me ms_Y 114).2.2.2.2) ∈ gd := tm_5 213 rfl rfl
theorem ck_115 : Cond.code (ms_nm 115) (ms_by 115) (ms_mx 115) (mm_rty (mm_me ms_Y 115).2.2.2.2) ∈ gd := tm_5 200 rfl rfl
theorem ck_116 : Cond.code (ms_nm 116) (ms_by 116) (ms_mx 116) (mm_rty (mm_me ms_Y 116).2.2.2.2) ∈ gd := tm_5 221 rfl rfl
theorem ck_117 : Cond.code (ms_nm 117) (ms_by 117) (ms_mx 117) (mm_rty (mm_me ms_Y 117).2.2.2.2) ∈ gd := tm_5 217 rfl rfl
theorem ck_118 : Cond.code (ms_nm 118) (ms_by 118) (ms_mx 118) (mm_rty (mm_me ms_Y 118).2.2.2.2) ∈ gd := tm_5 233 rfl rfl
theorem ck_119 : Cond.code (ms_nm 119) (ms_by 119) (ms_mx 119) (mm_rty (mm_me ms_Y 119).2.2.2.2) ∈ gd := tm_5 229 rfl rfl
theorem ck_120 : Cond.code (ms_nm 120) (ms_by 120) (ms_mx 120) (mm_rty (mm_me ms_Y 120).2.2.2.2) ∈ gd := tm_5 225 rfl rfl
theorem ck_121 : Cond.code (ms_nm 121) (ms_by 121) (ms_mx 121) (mm_rty (mm_me ms_Y 121).2.2.2.2) ∈ gd := tm_6 1 rfl rfl
theorem ck_122 : Cond.code (ms_nm 122) (ms_by 122) (ms_mx 122) (mm_rty (mm_me ms_Y 122).2.2.2.2) ∈ gd := tm_5 237 rfl rfl
theorem ck_123 : Cond.code (ms_nm 123) (ms_by 123) (ms_mx 123) (mm_rty (mm_me ms_Y 123).2.2.2.2) ∈ gd := tm_6 5 rfl rfl
theorem ck_124 : Cond.code (ms_nm 124) (ms_by 124) (ms_mx 124) (mm_rty (mm_me ms_Y 124).2.2.2.2) ∈ gd := tm_6 9 rfl rfl
theorem ck_125 : Cond.code (ms_nm 125) (ms_by 125) (ms_mx 125) (mm_rty (mm_me ms_Y 125).2.2.2.2) ∈ gd := tm_6 13 rfl rfl
theorem ck_126 : Cond.code (ms_nm 126) (ms_by 126) (ms_mx 126) (mm_rty (mm_me ms_Y 126).2.2.2.2) ∈ gd := tm_6 17 rfl rfl
theorem ck_127 : Cond.code (ms_nm 127) (ms_by 127) (ms_mx 127) (mm_rty (mm_me ms_Y 127).2.2.2.2) ∈ gd := tm_6 36 rfl rfl
theorem ck_128 : Cond.code (ms_nm 128) (ms_by 128) (ms_mx 128) (mm_rty (mm_me ms_Y 128).2.2.2.2) ∈ gd := tm_6 40 rfl rfl
theorem ck_129 : Cond.code (ms_nm 129) (ms_by 129) (ms_mx 129) (mm_rty (mm_me ms_Y 129).2.2.2.2) ∈ gd := tm_6 29 rfl rfl
theorem ck_130 : Cond.code (ms_nm 130) (ms_by 130) (ms_mx 130) (mm_rty (mm_me ms_Y 130).2.2.2.2) ∈ gd := tm_6 25 rfl rfl
theorem ck_131 : Cond.code (ms_nm 131) (ms_by 131) (ms_mx 131) (mm_rty (mm_me ms_Y 131).2.2.2.2) ∈ gd := tm_6 21 rfl rfl
theorem ck_132 : Cond.code (ms_nm 132) (ms_by 132) (ms_mx 132) (mm_rty (mm_me ms_Y 132).2.2.2.2) ∈ gd := tm_6 33 rfl rfl
theorem ck_133 : Cond.code (ms_nm 133) (ms_by 133) (ms_mx 133) (mm_rty (mm_me ms_Y 133).2.2.2.2) ∈ gd := tm_6 44 rfl rfl
theorem ck_134 : Cond.code (ms_nm 134) (ms_by 134) (ms_mx 134) (mm_rty (mm_me ms_Y 134).2.2.2.2) ∈ gd := tm_6 48 rfl rfl
theorem ck_135 : Cond.code (ms_nm 135) (ms_by 135) (ms_mx 135) (mm_rty (mm_me ms_Y 135).2.2.2.2) ∈ gd := tm_6 59 rfl rfl
theorem ck_136 : Cond.code (ms_nm 136) (ms_by 136) (ms_mx 136) (mm_rty (mm_me ms_Y 136).2.2.2.2) ∈ gd := tm_6 71 rfl rfl
theorem ck_137 : Cond.code (ms_nm 137) (ms_by 137) (ms_mx 137) (mm_rty (mm_me ms_Y 137).2.2.2.2) ∈ gd := tm_6 63 rfl rfl
theorem ck_138 : Cond.code (ms_nm 138) (ms_by 138) (ms_mx 138) (mm_rty (mm_me ms_Y 138).2.2.2.2) ∈ gd := tm_6 52 rfl rfl
theorem ck_139 : Cond.code (ms_nm 139) (ms_by 139) (ms_mx 139) (mm_rty (mm_me ms_Y 139).2.2.2.2) ∈ gd := tm_6 56 rfl rfl
theorem ck_140 : Cond.code (ms_nm 140) (ms_by 140) (ms_mx 140) (mm_rty (mm_me ms_Y 140).2.2.2.2) ∈ gd := tm_6 67 rfl rfl
theorem ck_141 : Cond.code (ms_nm 141) (ms_by 141) (ms_mx 141) (mm_rty (mm_me ms_Y 141).2.2.2.2) ∈ gd := tm_5 157 rfl rfl
theorem ck_142 : Cond.code (ms_nm 142) (ms_by 142) (ms_mx 142) (mm_rty (mm_me ms_Y 142).2.2.2.2) ∈ gd := tm_5 134 rfl rfl
theorem ck_143 : Cond.code (ms_nm 143) (ms_by 143) (ms_mx 143) (mm_rty (mm_me ms_Y 143).2.2.2.2) ∈ gd := tm_6 75 rfl rfl
theorem ck_144 : Cond.code (ms_nm 144) (ms_by 144) (ms_mx 144) (mm_rty (mm_me ms_Y 144).2.2.2.2) ∈ gd := tm_6 79 rfl rfl
theorem ck_145 : Cond.code (ms_nm 145) (ms_by 145) (ms_mx 145) (mm_rty (mm_me ms_Y 145).2.2.2.2) ∈ gd := tm_6 83 rfl rfl
theorem ck_146 : Cond.code (ms_nm 146) (ms_by 146) (ms_mx 146) (mm_rty (mm_me ms_Y 146).2.2.2.2) ∈ gd := tm_6 87 rfl rfl
theorem ck_147 : Cond.code (ms_nm 147) (ms_by 147) (ms_mx 147) (mm_rty (mm_me ms_Y 147).2.2.2.2) ∈ gd := tm_6 91 rfl rfl
theorem ck_148 : Cond.code (ms_nm 148) (ms_by 148) (ms_mx 148) (mm_rty (mm_me ms_Y 148).2.2.2.2) ∈ gd := tm_6 95 rfl rfl
theorem ck_149 : Cond.code (ms_nm 149) (ms_by 149) (ms_mx 149) (mm_rty (mm_me ms_Y 149).2.2.2.2) ∈ gd := tm_6 99 rfl rfl
theorem ck_150 : Cond.code (ms_nm 150) (ms_by 150) (ms_mx 150) (mm_rty (mm_me ms_Y 150).2.2.2.2) ∈ gd := tm_6 103 rfl rfl
theorem ck_151 : Cond.code (ms_nm 151) (ms_by 151) (ms_mx 151) (mm_rty (mm_me ms_Y 151).2.2.2.2) ∈ gd := tm_2 150 rfl rfl
theorem ck_152 : Cond.code (ms_nm 152) (ms_by 152) (ms_mx 152) (mm_rty (mm_me ms_Y 152).2.2.2.2) ∈ gd := tm_2 147 rfl rfl
theorem ck_153 : Cond.code (ms_nm 153) (ms_by 153) (ms_mx 153) (mm_rty (mm_me ms_Y 153).2.2.2.2) ∈ gd := tm_2 235 rfl rfl
theorem ck_154 : Cond.code (ms_nm 154) (ms_by 154) (ms_mx 154) (mm_rty (mm_me ms_Y 154).2.2.2.2) ∈ gd := tm_3 126 rfl rfl
theorem ck_155 : Cond.code (ms_nm 155) (ms_by 155) (ms_mx 155) (mm_rty (mm_me ms_Y 155).2.2.2.2) ∈ gd := tm_3 183 rfl rfl
/-- the direction of line j -/
def ms_br (σ : mm_S) (j : Int32) : Int32 := σ (50 + 1 + (σ 16 j.toNatClampNeg).toNatClampNeg) (σ 17 j.toNatClampNeg).toNatClampNeg
def ms_dok (σ : mm_S) (j : Int32) : Prop := vp_in j 21 ∧ vp_in (σ 16 j.toNatClampNeg) 9 ∧ vp_in (σ 17 j.toNatClampNeg) 13 ∧ vp_in (ms_br σ j) 4
def ms_dir (σ : mm_S) (j : Int32) : Value := mm_tab (ms_br σ j).toNatClampNeg
/-- the calls that are known by other means: Math.max, Math.min, directionOf -/
def ms_B : mm_C := fun y as σ Q => match y, as with
  | 151, [.int x, .int z] => Q (some (.int (if x < z then z else x))) σ
  | 152, [.int x, .int z] => Q (some (.int (if z < x then z else x))) σ
  | 154, [.ref k, .int j] => (k = 7 ∧ ms_dok σ j) ∧ Q (some (ms_dir σ j)) σ
  | _, _ => False
theorem ms_Bm : mm_mono ms_B := by
  intro y as σ Q Q' h
  unfold ms_B
  split
  · exact h _ _
  · exact h _ _
  · exact fun z => ⟨z.1, h _ _ z.2⟩
  · exact id
abbrev mD (d : Nat) : mm_C := mm_D ms_Y ms_B ms_mx d
abbrev mw (d : Nat) (M : mm_M) (Q : mm_Q) : mm_X := mm_W ms_Y (mD d) M Q
theorem ms_mono (d : Nat) : mm_mono (mD d) := mm_D_mono ms_Bm d
theorem mr_21 {i j : Int32} (hi : vp_in i 9) (hj : vp_in j 13) : mm_ia ms_Y (21 + 1 + i.toNatClampNeg) j := by
  have hlt : i.toNatClampNeg < 9 := Nat.not_le.mp fun q => hi (Or.inr q)
  have h : ∀ n, n < 9 → mm_kd ms_Y (21 + 1 + n) = (1, 13, []) := by decide +kernel
  unfold mm_ia
  rw [h _ hlt]
  exact hj
theorem mr_33 {i j : Int32} (hi : vp_in i 9) (hj : vp_in j 9) : mm_ia ms_Y (33 + 1 + i.toNatClampNeg) j := by
  have hlt : i.toNatClampNeg < 9 := Nat.not_le.mp fun q => hi (Or.inr q)
  have h : ∀ n, n < 9 → mm_kd ms_Y (33 + 1 + n) = (1, 9, []) := by decide +kernel
  unfold mm_ia
  rw [h _ hlt]
  exact hj
theorem mr_50 {i j : Int32} (hi : vp_in i 9) (hj : vp_in j 13) : mm_ia ms_Y (50 + 1 + i.toNatClampNeg) j := by
  have hlt : i.toNatClampNeg < 9 := Nat.not_le.mp fun q => hi (Or.inr q)
  have h : ∀ n, n < 9 → mm_kd ms_Y (50 + 1 + n) = (1, 13, []) := by decide +kernel
  unfold mm_ia
  rw [h _ hlt]
  exact hj
theorem mr_62 {i j : Int32} (hi : vp_in i 9) (hj : vp_in j 4) : mm_ia ms_Y (62 + 1 + i.toNatClampNeg) j := by
  have hlt : i.toNatClampNeg < 9 := Nat.not_le.mp fun q => hi (Or.inr q)
  have h : ∀ n, n < 9 → mm_kd ms_Y (62 + 1 + n) = (1, 4, []) := by decide +kernel
  unfold mm_ia
  rw [h _ hlt]
  exact hj
end
section
theorem mm_nold {co : List (Nat × mm_E)} {own : String} {Ts : List Cond} (h : co.all (fun q => match q.2.1 with | .ldc_w _ => false | _ => true) = true) : ∀ (pc idx len t : Nat) (v : Int32), mm_look co pc = some (.ldc_w idx, len, t, v) → Cond.constant own idx v ∈ Ts := by
  intro pc idx len t v hq
  have h1 := List.all_eq_true.mp h _ (mm_look_mem hq)
  cases h1
theorem mo_bit : ∀ (pc idx len t : Nat) (v : Int32), mm_look (mm_me ms_Y 153).1 pc = some (.ldc_w idx, len, t, v) → Cond.constant (ms_nm 153).cls idx v ∈ gd := by
  intro pc idx len t v hq
  have h0 : (mm_me ms_Y 153).1.all (fun q => match q.2.1 with | .ldc_w i => decide ((i = 265 ∧ q.2.2.2.2 = 1431655765) ∨ (i = 266 ∧ q.2.2.2.2 = 858993459) ∨ (i = 267 ∧ q.2.2.2.2 = 252645135)) | _ => true) = true := by decide +kernel
  have h1 := of_decide_eq_true (List.all_eq_true.mp h0 _ (mm_look_mem hq))
  rcases h1 with ⟨h2, h3⟩ | ⟨h2, h3⟩ | ⟨h2, h3⟩
  · dsimp only at h2 h3; subst h2; subst h3; exact (tm_2 236 rfl rfl)
  · dsimp only at h2 h3; subst h2; subst h3; exact (tm_2 237 rfl rfl)
  · dsimp only at h2 h3; subst h2; subst h3; exact (tm_2 238 rfl rfl)
theorem gk_De_12 : mm_gok cs_L gd "HouseDesk" 12 0 0 := ⟨_, _, _, rfl, by decide, cw_0, (tm_2 85 rfl rfl)⟩
theorem kk_De_98 : mm_kok gd ms_nm ms_by ms_mx cs_L ms_Y "HouseDesk" (98, 15, 0, 1) := ⟨by decide, ck_15, (tm_2 102 rfl rfl), (tm_1 2 rfl rfl), ⟨by decide, by decide, by decide +kernel⟩, fun h => absurd h (by decide), fun _ => ⟨(tm_2 103 rfl rfl), (tm_2 104 rfl rfl), _, _, rfl⟩⟩
theorem qk_De_32 : mm_pok ms_Y cs_L gd "HouseDesk" 32 0 3 := ⟨_, _, _, cy_0, rfl, by decide, cw_0, (tm_2 88 rfl rfl), ct_0, cn_0, rfl, by decide +kernel⟩
theorem mo_0 : mm_ok gd ms_nm ms_by ms_mx cs_L ms_Y 0 := ⟨by decide +kernel, by decide +kernel, List.forall_mem_cons.mpr ⟨gk_De_12, fun _ h => absurd h List.not_mem_nil⟩, List.forall_mem_cons.mpr ⟨qk_De_32, fun _ h => absurd h List.not_mem_nil⟩, List.forall_mem_cons.mpr ⟨kk_De_98, fun _ h => absurd h List.not_mem_nil⟩, mm_nold (by decide +kernel)⟩
theorem gk_De_21 : mm_gok cs_L gd "HouseDesk" 21 0 1 := ⟨_, _, _, rfl, by decide, cw_0, (tm_2 86 rfl rfl)⟩
theorem kk_De_101 : mm_kok gd ms_nm ms_by ms_mx cs_L ms_Y "HouseDesk" (101, 18, 0, 2) := ⟨by decide, ck_18, (tm_2 110 rfl rfl), (tm_1 3 rfl rfl), ⟨by decide, by decide, by decide +kernel⟩, fun h => absurd h (by decide), fun _ => ⟨(tm_2 111 rfl rfl), (tm_2 112 rfl rfl), _, _, rfl⟩⟩
theorem mo_1 : mm_ok gd ms_nm ms_by ms_mx cs_L ms_Y 1 := ⟨by decide +kernel, by decide +kernel, List.forall_mem_cons.mpr ⟨gk_De_21, fun _ h => absurd h List.not_mem_nil⟩, List.forall_mem_cons.mpr ⟨qk_De_32, fun _ h => absurd h List.not_mem_nil⟩, List.forall_mem_cons.mpr ⟨kk_De_101, fun _ h => absurd h List.not_mem_nil⟩, mm_nold (by decide +kernel)⟩
theorem gk_De_105 : mm_gok cs_L gd "HouseDesk" 105 2 0 := ⟨_, _, _, rfl, by decide, cw_2, (tm_2 33 rfl rfl)⟩
theorem kk_De_109 : mm_kok gd ms_nm ms_by ms_mx cs_L ms_Y "HouseDesk" (109, 22, 1, 3) := ⟨by decide, ck_22, (tm_3 168 rfl rfl), (tm_1 4 rfl rfl), ⟨by decide, by decide, by decide +kernel⟩, fun h => absurd h (by decide), fun _ => ⟨(tm_3 169 rfl rfl), (tm_3 170 rfl rfl), _, _, rfl⟩⟩
theorem mo_2 : mm_ok gd ms_nm ms_by ms_mx cs_L ms_Y 2 := ⟨by decide +kernel, by decide +kernel, List.forall_mem_cons.mpr ⟨gk_De_21, List.forall_mem_cons.mpr ⟨gk_De_105, fun _ h => absurd h List.not_mem_nil⟩⟩, fun _ h => absurd h List.not_mem_nil, List.forall_mem_cons.mpr ⟨kk_De_109, fun _ h => absurd h List.not_mem_nil⟩, mm_nold (by decide +kernel)⟩
theorem gk_De_28 : mm_gok cs_L gd "HouseDesk" 28 0 2 := ⟨_, _, _, rfl, by decide, cw_0, (tm_2 87 rfl rfl)⟩
theorem kk_De_175 : mm_kok gd ms_nm ms_by ms_mx cs_L ms_Y "HouseDesk" (175, 85, 1, 9) := ⟨by decide, ck_85, (tm_3 176 rfl rfl), (tm_1 10 rfl rfl), ⟨by decide, by decide, by decide +kernel⟩, fun h => absurd h (by decide), fun _ => ⟨(tm_3 177 rfl rfl), (tm_3 178 rfl rfl), _, _, rfl⟩⟩
theorem mo_3 : mm_ok gd ms_nm ms_by ms_mx cs_L ms_Y 3 := ⟨by decide +kernel, by decide +kernel, List.forall_mem_cons.mpr ⟨gk_De_28, fun _ h => absurd h List.not_mem_nil⟩, fun _ h => absurd h List.not_mem_nil, List.forall_mem_cons.mpr ⟨kk_De_175, fun _ h => absurd h List.not_mem_nil⟩, mm_nold (by decide +kernel)⟩
theorem mo_4 : mm_ok gd ms_nm ms_by ms_mx cs_L ms_Y 4 := ⟨by decide +kernel, by decide +kernel, fun _ h => absurd h List.not_mem_nil, fun _ h => absurd h List.not_mem_nil, fun _ h => absurd h List.not_mem_nil, mm_nold (by decide +kernel)⟩
theorem kk_Bi_9 : mm_kok gd ms_nm ms_by ms_mx cs_L ms_Y "HouseDesk$Bits" (9, 4, 2, 99) := ⟨by decide, ck_4, (tm_2 181 rfl rfl), (tm_1 16 rfl rfl), ⟨by decide, by decide, by decide +kernel⟩, fun _ => (tm_2 172 rfl rfl), fun h => absurd rfl h⟩
theorem mo_5 : mm_ok gd ms_nm ms_by ms_mx cs_L ms_Y 5 := ⟨by decide +kernel, by decide +kernel, fun _ h => absurd h List.not_mem_nil, fun _ h => absurd h List.not_mem_nil, List.forall_mem_cons.mpr ⟨kk_Bi_9, fun _ h => absurd h List.not_mem_nil⟩, mm_nold (by decide +kernel)⟩
theorem mo_6 : mm_ok gd ms_nm ms_by ms_mx cs_L ms_Y 6 := ⟨by decide +kernel, by decide +kernel, fun _ h => absurd h List.not_mem_nil, fun _ h => absurd h List.not_mem_nil, fun _ h => absurd h List.not_mem_nil, mm_nold (by decide +kernel)⟩
theorem gk_Sk_39 : mm_gok cs_L gd "HouseDesk$Sketch" 39 1 10 := ⟨_, _, _, rfl, by decide, cw_1, (tm_1 68 rfl rfl)⟩
theorem kk_Sk_43 : mm_kok gd ms_nm ms_by ms_mx cs_L ms_Y "HouseDesk$Sketch" (43, 4, 2, 99) := ⟨by decide, ck_4, (tm_2 171 rfl rfl), (tm_1 16 rfl rfl), ⟨by decide, by decide, by decide +kernel⟩, fun _ => (tm_2 172 rfl rfl), fun h => absurd rfl h⟩
theorem mo_7 : mm_ok gd ms_nm ms_by ms_mx cs_L ms_Y 7 := ⟨by decide +kernel, by decide +kernel, List.forall_mem_cons.mpr ⟨gk_Sk_39, fun _ h => absurd h List.not_mem_nil⟩, fun _ h => absurd h List.not_mem_nil, List.forall_mem_cons.mpr ⟨kk_Sk_43, fun _ h => absurd h List.not_mem_nil⟩, mm_nold (by decide +kernel)⟩
theorem kk_Sk_49 : mm_kok gd ms_nm ms_by ms_mx cs_L ms_Y "HouseDesk$Sketch" (49, 7, 1, 1) := ⟨by decide, ck_7, (tm_4 26 rfl rfl), (tm_1 2 rfl rfl), ⟨by decide, by decide, by decide +kernel⟩, fun h => absurd h (by decide), fun _ => ⟨(tm_2 168 rfl rfl), (tm_2 169 rfl rfl), _, _, rfl⟩⟩
theorem gk_Sk_9 : mm_gok cs_L gd "HouseDesk$Sketch" 9 1 0 := ⟨_, _, _, rfl, by decide, cw_1, (tm_1 35 rfl rfl)⟩
theorem gk_Sk_15 : mm_gok cs_L gd "HouseDesk$Sketch" 15 1 1 := ⟨_, _, _, rfl, by decide, cw_1, (tm_1 38 rfl rfl)⟩
theorem mo_8 : mm_ok gd ms_nm ms_by ms_mx cs_L ms_Y 8 := ⟨by decide +kernel, by decide +kernel, List.forall_mem_cons.mpr ⟨gk_Sk_9, List.forall_mem_cons.mpr ⟨gk_Sk_15, fun _ h => absurd h List.not_mem_nil⟩⟩, fun _ h => absurd h List.not_mem_nil, List.forall_mem_cons.mpr ⟨kk_Sk_49, fun _ h => absurd h List.not_mem_nil⟩, mm_nold (by decide +kernel)⟩
theorem gk_Sk_53 : mm_gok cs_L gd "HouseDesk$Sketch" 53 1 12 := ⟨_, _, _, rfl, by decide, cw_1, (tm_1 76 rfl rfl)⟩
theorem mo_9 : mm_ok gd ms_nm ms_by ms_mx cs_L ms_Y 9 := ⟨by decide +kernel, by decide +kernel, List.forall_mem_cons.mpr ⟨gk_Sk_53, fun _ h => absurd h List.not_mem_nil⟩, fun _ h => absurd h List.not_mem_nil, fun _ h => absurd h List.not_mem_nil, mm_nold (by decide +kernel)⟩
theorem gk_Sk_24 : mm_gok cs_L gd "HouseDesk$Sketch" 24 1 4 := ⟨_, _, _, rfl, by decide, cw_1, (tm_1 47 rfl rfl)⟩
theorem mo_10 : mm_ok gd ms_nm ms_by ms_mx cs_L ms_Y 10 := ⟨by decide +kernel, by decide +kernel, List.forall_mem_cons.mpr ⟨gk_Sk_24, fun _ h => absurd h List.not_mem_nil⟩, fun _ h => absurd h List.not_mem_nil, List.forall_mem_cons.mpr ⟨kk_Sk_43, fun _ h => absurd h List.not_mem_nil⟩, mm_nold (by decide +kernel)⟩
theorem gk_Sk_27 : mm_gok cs_L gd "HouseDesk$Sketch" 27 1 5 := ⟨_, _, _, rfl, by decide, cw_1, (tm_1 50 rfl rfl)⟩
theorem gk_Sk_30 : mm_gok cs_L gd "HouseDesk$Sketch" 30 1 6 := ⟨_, _, _, rfl, by decide, cw_1, (tm_1 55 rfl rfl)⟩
theorem mo_11 : mm_ok gd ms_nm ms_by ms_mx cs_L ms_Y 11 := ⟨by decide +kernel, by decide +kernel, List.forall_mem_cons.mpr ⟨gk_Sk_27, List.forall_mem_cons.mpr ⟨gk_Sk_30, fun _ h => absurd h List.not_mem_nil⟩⟩, fun _ h => absurd h List.not_mem_nil, fun _ h => absurd h List.not_mem_nil, mm_nold (by decide +kernel)⟩
theorem gk_Sk_18 : mm_gok cs_L gd "HouseDesk$Sketch" 18 1 2 := ⟨_, _, _, rfl, by decide, cw_1, (tm_1 41 rfl rfl)⟩
theorem gk_Sk_21 : mm_gok cs_L gd "HouseDesk$Sketch" 21 1 3 := ⟨_, _, _, rfl, by decide, cw_1, (tm_1 44 rfl rfl)⟩
theorem qk_Sk_39 : mm_pok ms_Y cs_L gd "HouseDesk$Sketch" 39 1 10 := ⟨_, _, _, cy_1, rfl, by decide, cw_1, (tm_1 68 rfl rfl), ct_1, cn_1, rfl, by decide +kernel⟩
theorem gk_Sk_56 : mm_gok cs_L gd "HouseDesk$Sketch" 56 1 11 := ⟨_, _, _, rfl, by decide, cw_1, (tm_1 70 rfl rfl)⟩
theorem qk_Sk_56 : mm_pok ms_Y cs_L gd "HouseDesk$Sketch" 56 1 11 := ⟨_, _, _, cy_1, rfl, by decide, cw_1, (tm_1 70 rfl rfl), ct_1, cn_1, rfl, by decide +kernel⟩
theorem mo_12 : mm_ok gd ms_nm ms_by ms_mx cs_L ms_Y 12 := ⟨by decide +kernel, by decide +kernel, List.forall_mem_cons.mpr ⟨gk_Sk_9, List.forall_mem_cons.mpr ⟨gk_Sk_15, List.forall_mem_cons.mpr ⟨gk_Sk_18, List.forall_mem_cons.mpr ⟨gk_Sk_21, List.forall_mem_cons.mpr ⟨gk_Sk_24, List.forall_mem_cons.mpr ⟨gk_Sk_39, List.forall_mem_cons.mpr ⟨gk_Sk_56, fun _ h => absurd h List.not_mem_nil⟩⟩⟩⟩⟩⟩⟩, List.forall_mem_cons.mpr ⟨qk_Sk_39, List.forall_mem_cons.mpr ⟨qk_Sk_56, fun _ h => absurd h List.not_mem_nil⟩⟩, fun _ h => absurd h List.not_mem_nil, mm_nold (by decide +kernel)⟩
theorem gk_Sk_33 : mm_gok cs_L gd "HouseDesk$Sketch" 33 1 7 := ⟨_, _, _, rfl, by decide, cw_1, (tm_1 60 rfl rfl)⟩
theorem qk_Sk_53 : mm_pok ms_Y cs_L gd "HouseDesk$Sketch" 53 1 12 := ⟨_, _, _, cy_1, rfl, by decide, cw_1, (tm_1 76 rfl rfl), ct_1, cn_1, rfl, by decide +kernel⟩
theorem mo_13 : mm_ok gd ms_nm ms_by ms_mx cs_L ms_Y 13 := ⟨by decide +kernel, by decide +kernel, List.forall_mem_cons.mpr ⟨gk_Sk_27, List.forall_mem_cons.mpr ⟨gk_Sk_53, List.forall_mem_cons.mpr ⟨gk_Sk_30, List.forall_mem_cons.mpr ⟨gk_Sk_33, List.forall_mem_cons.mpr ⟨gk_Sk_24, fun _ h => absurd h List.not_mem_nil⟩⟩⟩⟩⟩, List.forall_mem_cons.mpr ⟨qk_Sk_53, fun _ h => absurd h List.not_mem_nil⟩, fun _ h => absurd h List.not_mem_nil, mm_nold (by decide +kernel)⟩
theorem gk_Sk_36 : mm_gok cs_L gd "HouseDesk$Sketch" 36 1 8 := ⟨_, _, _, rfl, by decide, cw_1, (tm_1 63 rfl rfl)⟩
theorem qk_Sk_59 : mm_pok ms_Y cs_L gd "HouseDesk$Sketch" 59 1 9 := ⟨_, _, _, cy_1, rfl, by decide, cw_1, (tm_1 66 rfl rfl), ct_1, cn_1, rfl, by decide +kernel⟩
theorem mo_14 : mm_ok gd ms_nm ms_by ms_mx cs_L ms_Y 14 := ⟨by decide +kernel, by decide +kernel, List.forall_mem_cons.mpr ⟨gk_Sk_36, fun _ h => absurd h List.not_mem_nil⟩, List.forall_mem_cons.mpr ⟨qk_Sk_59, fun _ h => absurd h List.not_mem_nil⟩, fun _ h => absurd h List.not_mem_nil, mm_nold (by decide +kernel)⟩
theorem mo_15 : mm_ok gd ms_nm ms_by ms_mx cs_L ms_Y 15 := ⟨by decide +kernel, by decide +kernel, fun _ h => absurd h List.not_mem_nil, List.forall_mem_cons.mpr ⟨qk_Sk_39, List.forall_mem_cons.mpr ⟨qk_Sk_56, List.forall_mem_cons.mpr ⟨qk_Sk_53, List.forall_mem_cons.mpr ⟨qk_Sk_59, fun _ h => absurd h List.not_mem_nil⟩⟩⟩⟩, fun _ h => absurd h List.not_mem_nil, mm_nold (by decide +kernel)⟩
theorem mo_16 : mm_ok gd ms_nm ms_by ms_mx cs_L ms_Y 16 := ⟨by decide +kernel, by decide +kernel, List.forall_mem_cons.mpr ⟨gk_Sk_18, List.forall_mem_cons.mpr ⟨gk_Sk_21, fun _ h => absurd h List.not_mem_nil⟩⟩, fun _ h => absurd h List.not_mem_nil, List.forall_mem_cons.mpr ⟨kk_Sk_49, fun _ h => absurd h List.not_mem_nil⟩, mm_nold (by decide +kernel)⟩
theorem mo_17 : mm_ok gd ms_nm ms_by ms_mx cs_L ms_Y 17 := ⟨by decide +kernel, by decide +kernel, List.forall_mem_cons.mpr ⟨gk_Sk_9, List.forall_mem_cons.mpr ⟨gk_Sk_15, fun _ h => absurd h List.not_mem_nil⟩⟩, fun _ h => absurd h List.not_mem_nil, fun _ h => absurd h List.not_mem_nil, mm_nold (by decide +kernel)⟩
theorem gk_Pn_12 : mm_gok cs_L gd "HouseDesk$Planner" 12 2 0 := ⟨_, _, _, rfl, by decide, cw_2, (tm_2 32 rfl rfl)⟩
theorem kk_Pn_65 : mm_kok gd ms_nm ms_by ms_mx cs_L ms_Y "HouseDesk$Planner" (65, 19, 0, 3) := ⟨by decide, ck_19, (tm_2 114 rfl rfl), (tm_1 4 rfl rfl), ⟨by decide, by decide, by decide +kernel⟩, fun h => absurd h (by decide), fun _ => ⟨(tm_2 115 rfl rfl), (tm_2 116 rfl rfl), _, _, rfl⟩⟩
theorem qk_Pn_68 : mm_pok ms_Y cs_L gd "HouseDesk$Planner" 68 2 4 := ⟨_, _, _, cy_2, rfl, by decide, cw_2, (tm_2 40 rfl rfl), ct_2, cn_2, rfl, by decide +kernel⟩
theorem qk_Pn_72 : mm_pok ms_Y cs_L gd "HouseDesk$Planner" 72 2 5 := ⟨_, _, _, cy_2, rfl, by decide, cw_2, (tm_2 42 rfl rfl), ct_2, cn_2, rfl, by decide +kernel⟩
theorem gk_Pn_27 : mm_gok cs_L gd "HouseDesk$Planner" 27 2 7 := ⟨_, _, _, rfl, by decide, cw_2, (tm_2 45 rfl rfl)⟩
theorem kk_Pn_75 : mm_kok gd ms_nm ms_by ms_mx cs_L ms_Y "HouseDesk$Planner" (75, 23, 1, 4) := ⟨by decide, ck_23, (tm_2 118 rfl rfl), (tm_1 5 rfl rfl), ⟨by decide, by decide, by decide +kernel⟩, fun h => absurd h (by decide), fun _ => ⟨(tm_2 119 rfl rfl), (tm_2 120 rfl rfl), _, _, rfl⟩⟩
theorem gk_Pn_18 : mm_gok cs_L gd "HouseDesk$Planner" 18 2 6 := ⟨_, _, _, rfl, by decide, cw_2, (tm_2 44 rfl rfl)⟩
theorem gk_Pn_79 : mm_gok cs_L gd "HouseDesk$Planner" 79 1 11 := ⟨_, _, _, rfl, by decide, cw_1, (tm_1 69 rfl rfl)⟩
theorem gk_Pn_34 : mm_gok cs_L gd "HouseDesk$Planner" 34 2 8 := ⟨_, _, _, rfl, by decide, cw_2, (tm_2 46 rfl rfl)⟩
theorem kk_Pn_84 : mm_kok gd ms_nm ms_by ms_mx cs_L ms_Y "HouseDesk$Planner" (84, 31, 0, 5) := ⟨by decide, ck_31, (tm_2 174 rfl rfl), (tm_1 6 rfl rfl), ⟨by decide, by decide, by decide +kernel⟩, fun h => absurd h (by decide), fun _ => ⟨(tm_2 175 rfl rfl), (tm_2 176 rfl rfl), _, _, rfl⟩⟩
theorem kk_Pn_88 : mm_kok gd ms_nm ms_by ms_mx cs_L ms_Y "HouseDesk$Planner" (88, 32, 0, 5) := ⟨by decide, ck_32, (tm_2 183 rfl rfl), (tm_1 6 rfl rfl), ⟨by decide, by decide, by decide +kernel⟩, fun h => absurd h (by decide), fun _ => ⟨(tm_2 184 rfl rfl), (tm_2 185 rfl rfl), _, _, rfl⟩⟩
theorem kk_Pn_91 : mm_kok gd ms_nm ms_by ms_mx cs_L ms_Y "HouseDesk$Planner" (91, 39, 0, 5) := ⟨by decide, ck_39, (tm_2 217 rfl rfl), (tm_1 6 rfl rfl), ⟨by decide, by decide, by decide +kernel⟩, fun h => absurd h (by decide), fun _ => ⟨(tm_2 218 rfl rfl), (tm_2 219 rfl rfl), _, _, rfl⟩⟩
theorem gk_Pn_94 : mm_gok cs_L gd "HouseDesk$Planner" 94 5 3 := ⟨_, _, _, rfl, by decide, cw_5, (tm_1 153 rfl rfl)⟩
theorem gk_Pn_97 : mm_gok cs_L gd "HouseDesk$Planner" 97 5 6 := ⟨_, _, _, rfl, by decide, cw_5, (tm_1 161 rfl rfl)⟩
theorem kk_Pn_100 : mm_kok gd ms_nm ms_by ms_mx cs_L ms_Y "HouseDesk$Planner" (100, 43, 1, 5) := ⟨by decide, ck_43, (tm_2 229 rfl rfl), (tm_1 6 rfl rfl), ⟨by decide, by decide, by decide +kernel⟩, fun h => absurd h (by decide), fun _ => ⟨(tm_2 230 rfl rfl), (tm_2 231 rfl rfl), _, _, rfl⟩⟩
theorem gk_Pn_43 : mm_gok cs_L gd "HouseDesk$Planner" 43 2 1 := ⟨_, _, _, rfl, by decide, cw_2, (tm_2 34 rfl rfl)⟩
theorem kk_Pn_103 : mm_kok gd ms_nm ms_by ms_mx cs_L ms_Y "HouseDesk$Planner" (103, 47, 0, 6) := ⟨by decide, ck_47, (tm_3 12 rfl rfl), (tm_1 7 rfl rfl), ⟨by decide, by decide, by decide +kernel⟩, fun h => absurd h (by decide), fun _ => ⟨(tm_3 13 rfl rfl), (tm_3 14 rfl rfl), _, _, rfl⟩⟩
theorem kk_Pn_106 : mm_kok gd ms_nm ms_by ms_mx cs_L ms_Y "HouseDesk$Planner" (106, 54, 0, 6) := ⟨by decide, ck_54, (tm_3 27 rfl rfl), (tm_1 7 rfl rfl), ⟨by decide, by decide, by decide +kernel⟩, fun h => absurd h (by decide), fun _ => ⟨(tm_3 28 rfl rfl), (tm_3 29 rfl rfl), _, _, rfl⟩⟩
theorem kk_Pn_109 : mm_kok gd ms_nm ms_by ms_mx cs_L ms_Y "HouseDesk$Planner" (109, 55, 1, 6) := ⟨by decide, ck_55, (tm_3 39 rfl rfl), (tm_1 7 rfl rfl), ⟨by decide, by decide, by decide +kernel⟩, fun h => absurd h (by decide), fun _ => ⟨(tm_3 40 rfl rfl), (tm_3 41 rfl rfl), _, _, rfl⟩⟩
theorem kk_Pn_112 : mm_kok gd ms_nm ms_by ms_mx cs_L ms_Y "HouseDesk$Planner" (112, 59, 0, 6) := ⟨by decide, ck_59, (tm_3 61 rfl rfl), (tm_1 7 rfl rfl), ⟨by decide, by decide, by decide +kernel⟩, fun h => absurd h (by decide), fun _ => ⟨(tm_3 62 rfl rfl), (tm_3 63 rfl rfl), _, _, rfl⟩⟩
theorem gk_Pn_52 : mm_gok cs_L gd "HouseDesk$Planner" 52 2 2 := ⟨_, _, _, rfl, by decide, cw_2, (tm_2 36 rfl rfl)⟩
theorem kk_Pn_115 : mm_kok gd ms_nm ms_by ms_mx cs_L ms_Y "HouseDesk$Planner" (115, 61, 0, 7) := ⟨by decide, ck_61, (tm_3 77 rfl rfl), (tm_1 8 rfl rfl), ⟨by decide, by decide, by decide +kernel⟩, fun h => absurd h (by decide), fun _ => ⟨(tm_3 78 rfl rfl), (tm_3 79 rfl rfl), _, _, rfl⟩⟩
theorem gk_Pn_61 : mm_gok cs_L gd "HouseDesk$Planner" 61 2 3 := ⟨_, _, _, rfl, by decide, cw_2, (tm_2 38 rfl rfl)⟩
theorem kk_Pn_118 : mm_kok gd ms_nm ms_by ms_mx cs_L ms_Y "HouseDesk$Planner" (118, 72, 0, 8) := ⟨by decide, ck_72, (tm_3 133 rfl rfl), (tm_1 9 rfl rfl), ⟨by decide, by decide, by decide +kernel⟩, fun h => absurd h (by decide), fun _ => ⟨(tm_3 134 rfl rfl), (tm_3 135 rfl rfl), _, _, rfl⟩⟩
theorem mo_18 : mm_ok gd ms_nm ms_by ms_mx cs_L ms_Y 18 := ⟨by decide +kernel, by decide +kernel, List.forall_mem_cons.mpr ⟨gk_Pn_12, List.forall_mem_cons.mpr ⟨gk_Pn_27, List.forall_mem_cons.mpr ⟨gk_Pn_18, List.forall_mem_cons.mpr ⟨gk_Pn_79, List.forall_mem_cons.mpr ⟨gk_Pn_34, List.forall_mem_cons.mpr ⟨gk_Pn_94, List.forall_mem_cons.mpr ⟨gk_Pn_97, List.forall_mem_cons.mpr ⟨gk_Pn_43, List.forall_mem_cons.mpr ⟨gk_Pn_52, List.forall_mem_cons.mpr ⟨gk_Pn_61, fun _ h => absurd h List.not_mem_nil⟩⟩⟩⟩⟩⟩⟩⟩⟩⟩, List.forall_mem_cons.mpr ⟨qk_Pn_68, List.forall_mem_cons.mpr ⟨qk_Pn_72, fun _ h => absurd h List.not_mem_nil⟩⟩, List.forall_mem_cons.mpr ⟨kk_Pn_65, List.forall_mem_cons.mpr ⟨kk_Pn_75, List.forall_mem_cons.mpr ⟨kk_Pn_84, List.forall_mem_cons.mpr ⟨kk_Pn_88, List.forall_mem_cons.mpr ⟨kk_Pn_91, List.forall_mem_cons.mpr ⟨kk_Pn_100, List.forall_mem_cons.mpr ⟨kk_Pn_103, List.forall_mem_cons.mpr ⟨kk_Pn_106, List.forall_mem_cons.mpr ⟨kk_Pn_109, List.forall_mem_cons.mpr ⟨kk_Pn_112, List.forall_mem_cons.mpr ⟨kk_Pn_115, List.forall_mem_cons.mpr ⟨kk_Pn_118, fun _ h => absurd h List.not_mem_nil⟩⟩⟩⟩⟩⟩⟩⟩⟩⟩⟩⟩, mm_nold (by decide +kernel)⟩
theorem qk_Wi_13 : mm_pok ms_Y cs_L gd "HouseDesk$Witness" 13 3 1 := ⟨_, _, _, cy_3, rfl, by decide, cw_3, (tm_1 120 rfl rfl), ct_3, cn_3, rfl, by decide +kernel⟩
theorem mo_19 : mm_ok gd ms_nm ms_by ms_mx cs_L ms_Y 19 := ⟨by decide +kernel, by decide +kernel, fun _ h => absurd h List.not_mem_nil, List.forall_mem_cons.mpr ⟨qk_Wi_13, fun _ h => absurd h List.not_mem_nil⟩, fun _ h => absurd h List.not_mem_nil, mm_nold (by decide +kernel)⟩
theorem gk_Wi_7 : mm_gok cs_L gd "HouseDesk$Witness" 7 3 0 := ⟨_, _, _, rfl, by decide, cw_3, (tm_1 119 rfl rfl)⟩
theorem mo_20 : mm_ok gd ms_nm ms_by ms_mx cs_L ms_Y 20 := ⟨by decide +kernel, by decide +kernel, List.forall_mem_cons.mpr ⟨gk_Wi_7, fun _ h => absurd h List.not_mem_nil⟩, List.forall_mem_cons.mpr ⟨qk_Wi_13, fun _ h => absurd h List.not_mem_nil⟩, fun _ h => absurd h List.not_mem_nil, mm_nold (by decide +kernel)⟩
theorem mo_21 : mm_ok gd ms_nm ms_by ms_mx cs_L ms_Y 21 := ⟨by decide +kernel, by decide +kernel, List.forall_mem_cons.mpr ⟨gk_Wi_7, fun _ h => absurd h List.not_mem_nil⟩, List.forall_mem_cons.mpr ⟨qk_Wi_13, fun _ h => absurd h List.not_mem_nil⟩, fun _ h => absurd h List.not_mem_nil, mm_nold (by decide +kernel)⟩
theorem gk_Wi_13 : mm_gok cs_L gd "HouseDesk$Witness" 13 3 1 := ⟨_, _, _, rfl, by decide, cw_3, (tm_1 120 rfl rfl)⟩
theorem mo_22 : mm_ok gd ms_nm ms_by ms_mx cs_L ms_Y 22 := ⟨by decide +kernel, by decide +kernel, List.forall_mem_cons.mpr ⟨gk_Wi_13, List.forall_mem_cons.mpr ⟨gk_Wi_7, fun _ h => absurd h List.not_mem_nil⟩⟩, fun _ h => absurd h List.not_mem_nil, fun _ h => absurd h List.not_mem_nil, mm_nold (by decide +kernel)⟩
theorem kk_Cr_15 : mm_kok gd ms_nm ms_by ms_mx cs_L ms_Y "HouseDesk$Crossings" (15, 24, 1, 4) := ⟨by decide, ck_24, (tm_2 122 rfl rfl), (tm_1 5 rfl rfl), ⟨by decide, by decide, by decide +kernel⟩, fun h => absurd h (by decide), fun _ => ⟨(tm_2 124 rfl rfl), (ts_p 0 rfl rfl), _, _, rfl⟩⟩
theorem kk_Cr_19 : mm_kok gd ms_nm ms_by ms_mx cs_L ms_Y "HouseDesk$Crossings" (19, 25, 1, 4) := ⟨by decide, ck_25, (tm_2 163 rfl rfl), (tm_1 5 rfl rfl), ⟨by decide, by decide, by decide +kernel⟩, fun h => absurd h (by decide), fun _ => ⟨(tm_2 165 rfl rfl), (ts_p 5 rfl rfl), _, _, rfl⟩⟩
theorem mo_23 : mm_ok gd ms_nm ms_by ms_mx cs_L ms_Y 23 := ⟨by decide +kernel, by decide +kernel, fun _ h => absurd h List.not_mem_nil, fun _ h => absurd h List.not_mem_nil, List.forall_mem_cons.mpr ⟨kk_Cr_15, List.forall_mem_cons.mpr ⟨kk_Cr_19, fun _ h => absurd h List.not_mem_nil⟩⟩, mm_nold (by decide +kernel)⟩
theorem gk_Cr_9 : mm_gok cs_L gd "HouseDesk$Crossings" 9 4 0 := ⟨_, _, _, rfl, by decide, cw_4, (tm_1 132 rfl rfl)⟩
theorem gk_Cr_22 : mm_gok cs_L gd "HouseDesk$Crossings" 22 1 12 := ⟨_, _, _, rfl, by decide, cw_1, (tm_1 74 rfl rfl)⟩
theorem kk_Cr_28 : mm_kok gd ms_nm ms_by ms_mx cs_L ms_Y "HouseDesk$Crossings" (28, 26, 2, 4) := ⟨by decide, ck_26, (tm_2 126 rfl rfl), (tm_1 5 rfl rfl), ⟨by decide, by decide, by decide +kernel⟩, fun h => absurd h (by decide), fun _ => ⟨(tm_2 128 rfl rfl), (ts_p 1 rfl rfl), _, _, rfl⟩⟩
theorem kk_Cr_32 : mm_kok gd ms_nm ms_by ms_mx cs_L ms_Y "HouseDesk$Crossings" (32, 29, 2, 4) := ⟨by decide, ck_29, (tm_2 151 rfl rfl), (tm_1 5 rfl rfl), ⟨by decide, by decide, by decide +kernel⟩, fun h => absurd h (by decide), fun _ => ⟨(tm_2 153 rfl rfl), (ts_p 3 rfl rfl), _, _, rfl⟩⟩
theorem kk_Cr_35 : mm_kok gd ms_nm ms_by ms_mx cs_L ms_Y "HouseDesk$Crossings" (35, 20, 2, 3) := ⟨by decide, ck_20, (tm_2 159 rfl rfl), (tm_1 4 rfl rfl), ⟨by decide, by decide, by decide +kernel⟩, fun h => absurd h (by decide), fun _ => ⟨(tm_2 160 rfl rfl), (tm_2 161 rfl rfl), _, _, rfl⟩⟩
theorem mo_24 : mm_ok gd ms_nm ms_by ms_mx cs_L ms_Y 24 := ⟨by decide +kernel, by decide +kernel, List.forall_mem_cons.mpr ⟨gk_Cr_9, List.forall_mem_cons.mpr ⟨gk_Cr_22, fun _ h => absurd h List.not_mem_nil⟩⟩, fun _ h => absurd h List.not_mem_nil, List.forall_mem_cons.mpr ⟨kk_Cr_28, List.forall_mem_cons.mpr ⟨kk_Cr_32, List.forall_mem_cons.mpr ⟨kk_Cr_35, fun _ h => absurd h List.not_mem_nil⟩⟩⟩, mm_nold (by decide +kernel)⟩
theorem kk_Cr_41 : mm_kok gd ms_nm ms_by ms_mx cs_L ms_Y "HouseDesk$Crossings" (41, 7, 1, 1) := ⟨by decide, ck_7, (tm_2 167 rfl rfl), (tm_1 2 rfl rfl), ⟨by decide, by decide, by decide +kernel⟩, fun h => absurd h (by decide), fun _ => ⟨(tm_2 168 rfl rfl), (tm_2 169 rfl rfl), _, _, rfl⟩⟩
theorem kk_Cr_45 : mm_kok gd ms_nm ms_by ms_mx cs_L ms_Y "HouseDesk$Crossings" (45, 27, 2, 4) := ⟨by decide, ck_27, (tm_2 130 rfl rfl), (tm_1 5 rfl rfl), ⟨by decide, by decide, by decide +kernel⟩, fun h => absurd h (by decide), fun _ => ⟨(tm_2 132 rfl rfl), (ts_p 2 rfl rfl), _, _, rfl⟩⟩
theorem mo_25 : mm_ok gd ms_nm ms_by ms_mx cs_L ms_Y 25 := ⟨by decide +kernel, by decide +kernel, List.forall_mem_cons.mpr ⟨gk_Cr_9, List.forall_mem_cons.mpr ⟨gk_Cr_22, fun _ h => absurd h List.not_mem_nil⟩⟩, fun _ h => absurd h List.not_mem_nil, List.forall_mem_cons.mpr ⟨kk_Cr_41, List.forall_mem_cons.mpr ⟨kk_Cr_45, List.forall_mem_cons.mpr ⟨kk_Cr_35, fun _ h => absurd h List.not_mem_nil⟩⟩⟩, mm_nold (by decide +kernel)⟩
theorem gk_Cr_48 : mm_gok cs_L gd "HouseDesk$Crossings" 48 1 5 := ⟨_, _, _, rfl, by decide, cw_1, (tm_1 52 rfl rfl)⟩
theorem gk_Cr_52 : mm_gok cs_L gd "HouseDesk$Crossings" 52 1 6 := ⟨_, _, _, rfl, by decide, cw_1, (tm_1 57 rfl rfl)⟩
theorem mo_26 : mm_ok gd ms_nm ms_by ms_mx cs_L ms_Y 26 := ⟨by decide +kernel, by decide +kernel, List.forall_mem_cons.mpr ⟨gk_Cr_9, List.forall_mem_cons.mpr ⟨gk_Cr_48, List.forall_mem_cons.mpr ⟨gk_Cr_52, fun _ h => absurd h List.not_mem_nil⟩⟩⟩, fun _ h => absurd h List.not_mem_nil, List.forall_mem_cons.mpr ⟨kk_Cr_45, fun _ h => absurd h List.not_mem_nil⟩, mm_nold (by decide +kernel)⟩
theorem kk_Cr_55 : mm_kok gd ms_nm ms_by ms_mx cs_L ms_Y "HouseDesk$Crossings" (55, 11, 2, 1) := ⟨by decide, ck_11, (tm_2 134 rfl rfl), (tm_1 2 rfl rfl), ⟨by decide, by decide, by decide +kernel⟩, fun h => absurd h (by decide), fun _ => ⟨(tm_2 135 rfl rfl), (tm_2 136 rfl rfl), _, _, rfl⟩⟩
theorem kk_Cr_58 : mm_kok gd ms_nm ms_by ms_mx cs_L ms_Y "HouseDesk$Crossings" (58, 17, 3, 1) := ⟨by decide, ck_17, (tm_2 138 rfl rfl), (tm_1 2 rfl rfl), ⟨by decide, by decide, by decide +kernel⟩, fun h => absurd h (by decide), fun _ => ⟨(tm_2 139 rfl rfl), (tm_2 140 rfl rfl), _, _, rfl⟩⟩
theorem gk_Cr_62 : mm_gok cs_L gd "HouseDesk$Crossings" 62 1 0 := ⟨_, _, _, rfl, by decide, cw_1, (tm_1 36 rfl rfl)⟩
theorem kk_Cr_65 : mm_kok gd ms_nm ms_by ms_mx cs_L ms_Y "HouseDesk$Crossings" (65, 28, 3, 99) := ⟨by decide, ck_28, (tm_2 142 rfl rfl), (tm_1 5 rfl rfl), ⟨by decide, by decide, by decide +kernel⟩, fun _ => (tm_2 143 rfl rfl), fun h => absurd rfl h⟩
theorem gk_Cr_69 : mm_gok cs_L gd "HouseDesk$Crossings" 69 1 1 := ⟨_, _, _, rfl, by decide, cw_1, (tm_1 39 rfl rfl)⟩
theorem mo_27 : mm_ok gd ms_nm ms_by ms_mx cs_L ms_Y 27 := ⟨by decide +kernel, by decide +kernel, List.forall_mem_cons.mpr ⟨gk_Cr_9, List.forall_mem_cons.mpr ⟨gk_Cr_48, List.forall_mem_cons.mpr ⟨gk_Cr_52, List.forall_mem_cons.mpr ⟨gk_Cr_62, List.forall_mem_cons.mpr ⟨gk_Cr_69, fun _ h => absurd h List.not_mem_nil⟩⟩⟩⟩⟩, fun _ h => absurd h List.not_mem_nil, List.forall_mem_cons.mpr ⟨kk_Cr_55, List.forall_mem_cons.mpr ⟨kk_Cr_58, List.forall_mem_cons.mpr ⟨kk_Cr_65, fun _ h => absurd h List.not_mem_nil⟩⟩⟩, mm_nold (by decide +kernel)⟩
theorem kk_Cr_72 : mm_kok gd ms_nm ms_by ms_mx cs_L ms_Y "HouseDesk$Crossings" (72, 152, 2, 99) := ⟨by decide, ck_152, (tm_2 145 rfl rfl), (tm_1 18 rfl rfl), ⟨by decide, by decide, by decide +kernel⟩, fun _ => (tm_2 146 rfl rfl), fun h => absurd rfl h⟩
theorem kk_Cr_78 : mm_kok gd ms_nm ms_by ms_mx cs_L ms_Y "HouseDesk$Crossings" (78, 151, 2, 99) := ⟨by decide, ck_151, (tm_2 148 rfl rfl), (tm_1 18 rfl rfl), ⟨by decide, by decide, by decide +kernel⟩, fun _ => (tm_2 149 rfl rfl), fun h => absurd rfl h⟩
theorem mo_28 : mm_ok gd ms_nm ms_by ms_mx cs_L ms_Y 28 := ⟨by decide +kernel, by decide +kernel, fun _ h => absurd h List.not_mem_nil, fun _ h => absurd h List.not_mem_nil, List.forall_mem_cons.mpr ⟨kk_Cr_72, List.forall_mem_cons.mpr ⟨kk_Cr_78, fun _ h => absurd h List.not_mem_nil⟩⟩, mm_nold (by decide +kernel)⟩
theorem kk_Cr_81 : mm_kok gd ms_nm ms_by ms_mx cs_L ms_Y "HouseDesk$Crossings" (81, 30, 2, 4) := ⟨by decide, ck_30, (tm_2 155 rfl rfl), (tm_1 5 rfl rfl), ⟨by decide, by decide, by decide +kernel⟩, fun h => absurd h (by decide), fun _ => ⟨(tm_2 157 rfl rfl), (ts_p 4 rfl rfl), _, _, rfl⟩⟩
theorem mo_29 : mm_ok gd ms_nm ms_by ms_mx cs_L ms_Y 29 := ⟨by decide +kernel, by decide +kernel, fun _ h => absurd h List.not_mem_nil, fun _ h => absurd h List.not_mem_nil, List.forall_mem_cons.mpr ⟨kk_Cr_81, fun _ h => absurd h List.not_mem_nil⟩, mm_nold (by decide +kernel)⟩
theorem mo_30 : mm_ok gd ms_nm ms_by ms_mx cs_L ms_Y 30 := ⟨by decide +kernel, by decide +kernel, List.forall_mem_cons.mpr ⟨gk_Cr_9, List.forall_mem_cons.mpr ⟨gk_Cr_48, List.forall_mem_cons.mpr ⟨gk_Cr_52, fun _ h => absurd h List.not_mem_nil⟩⟩⟩, fun _ h => absurd h List.not_mem_nil, List.forall_mem_cons.mpr ⟨kk_Cr_58, fun _ h => absurd h List.not_mem_nil⟩, mm_nold (by decide +kernel)⟩
theorem gk_Wa_29 : mm_gok cs_L gd "HouseDesk$Walks" 29 5 7 := ⟨_, _, _, rfl, by decide, cw_5, (tm_1 163 rfl rfl)⟩
theorem gk_Wa_33 : mm_gok cs_L gd "HouseDesk$Walks" 33 1 10 := ⟨_, _, _, rfl, by decide, cw_1, (tm_1 67 rfl rfl)⟩
theorem kk_Wa_39 : mm_kok gd ms_nm ms_by ms_mx cs_L ms_Y "HouseDesk$Walks" (39, 5, 1, 99) := ⟨by decide, ck_5, (tm_2 178 rfl rfl), (tm_1 16 rfl rfl), ⟨by decide, by decide, by decide +kernel⟩, fun _ => (tm_2 179 rfl rfl), fun h => absurd rfl h⟩
theorem kk_Wa_45 : mm_kok gd ms_nm ms_by ms_mx cs_L ms_Y "HouseDesk$Walks" (45, 4, 2, 99) := ⟨by decide, ck_4, (tm_2 182 rfl rfl), (tm_1 16 rfl rfl), ⟨by decide, by decide, by decide +kernel⟩, fun _ => (tm_2 172 rfl rfl), fun h => absurd rfl h⟩
theorem gk_Wa_49 : mm_gok cs_L gd "HouseDesk$Walks" 49 1 4 := ⟨_, _, _, rfl, by decide, cw_1, (tm_1 48 rfl rfl)⟩
theorem mo_31 : mm_ok gd ms_nm ms_by ms_mx cs_L ms_Y 31 := ⟨by decide +kernel, by decide +kernel, List.forall_mem_cons.mpr ⟨gk_Wa_29, List.forall_mem_cons.mpr ⟨gk_Wa_33, List.forall_mem_cons.mpr ⟨gk_Wa_49, fun _ h => absurd h List.not_mem_nil⟩⟩⟩, fun _ h => absurd h List.not_mem_nil, List.forall_mem_cons.mpr ⟨kk_Wa_39, List.forall_mem_cons.mpr ⟨kk_Wa_45, fun _ h => absurd h List.not_mem_nil⟩⟩, mm_nold (by decide +kernel)⟩
theorem kk_Wa_52 : mm_kok gd ms_nm ms_by ms_mx cs_L ms_Y "HouseDesk$Walks" (52, 33, 0, 5) := ⟨by decide, ck_33, (tm_2 187 rfl rfl), (tm_1 6 rfl rfl), ⟨by decide, by decide, by decide +kernel⟩, fun h => absurd h (by decide), fun _ => ⟨(tm_2 189 rfl rfl), (ts_p 6 rfl rfl), _, _, rfl⟩⟩
theorem gk_Wa_20 : mm_gok cs_L gd "HouseDesk$Walks" 20 5 2 := ⟨_, _, _, rfl, by decide, cw_5, (tm_1 150 rfl rfl)⟩
theorem qk_Wa_55 : mm_pok ms_Y cs_L gd "HouseDesk$Walks" 55 5 3 := ⟨_, _, _, cy_5, rfl, by decide, cw_5, (tm_1 154 rfl rfl), ct_5, cn_5, rfl, by decide +kernel⟩
theorem kk_Wa_58 : mm_kok gd ms_nm ms_by ms_mx cs_L ms_Y "HouseDesk$Walks" (58, 36, 0, 5) := ⟨by decide, ck_36, (tm_2 204 rfl rfl), (tm_1 6 rfl rfl), ⟨by decide, by decide, by decide +kernel⟩, fun h => absurd h (by decide), fun _ => ⟨(tm_2 206 rfl rfl), (ts_p 9 rfl rfl), _, _, rfl⟩⟩
theorem kk_Wa_62 : mm_kok gd ms_nm ms_by ms_mx cs_L ms_Y "HouseDesk$Walks" (62, 38, 1, 5) := ⟨by decide, ck_38, (tm_2 213 rfl rfl), (tm_1 6 rfl rfl), ⟨by decide, by decide, by decide +kernel⟩, fun h => absurd h (by decide), fun _ => ⟨(tm_2 215 rfl rfl), (ts_p 11 rfl rfl), _, _, rfl⟩⟩
theorem gk_Wa_55 : mm_gok cs_L gd "HouseDesk$Walks" 55 5 3 := ⟨_, _, _, rfl, by decide, cw_5, (tm_1 154 rfl rfl)⟩
theorem gk_Wa_16 : mm_gok cs_L gd "HouseDesk$Walks" 16 5 1 := ⟨_, _, _, rfl, by decide, cw_5, (tm_1 147 rfl rfl)⟩
theorem gk_Wa_11 : mm_gok cs_L gd "HouseDesk$Walks" 11 5 0 := ⟨_, _, _, rfl, by decide, cw_5, (tm_1 144 rfl rfl)⟩
theorem mo_32 : mm_ok gd ms_nm ms_by ms_mx cs_L ms_Y 32 := ⟨by decide +kernel, by decide +kernel, List.forall_mem_cons.mpr ⟨gk_Wa_20, List.forall_mem_cons.mpr ⟨gk_Wa_55, List.forall_mem_cons.mpr ⟨gk_Wa_16, List.forall_mem_cons.mpr ⟨gk_Wa_11, fun _ h => absurd h List.not_mem_nil⟩⟩⟩⟩, List.forall_mem_cons.mpr ⟨qk_Wa_55, fun _ h => absurd h List.not_mem_nil⟩, List.forall_mem_cons.mpr ⟨kk_Wa_52, List.forall_mem_cons.mpr ⟨kk_Wa_58, List.forall_mem_cons.mpr ⟨kk_Wa_62, fun _ h => absurd h List.not_mem_nil⟩⟩⟩, mm_nold (by decide +kernel)⟩
theorem gk_Wa_65 : mm_gok cs_L gd "HouseDesk$Walks" 65 1 12 := ⟨_, _, _, rfl, by decide, cw_1, (tm_1 77 rfl rfl)⟩
theorem gk_Wa_68 : mm_gok cs_L gd "HouseDesk$Walks" 68 1 5 := ⟨_, _, _, rfl, by decide, cw_1, (tm_1 51 rfl rfl)⟩
theorem gk_Wa_71 : mm_gok cs_L gd "HouseDesk$Walks" 71 1 6 := ⟨_, _, _, rfl, by decide, cw_1, (tm_1 56 rfl rfl)⟩
theorem kk_Wa_74 : mm_kok gd ms_nm ms_by ms_mx cs_L ms_Y "HouseDesk$Walks" (74, 34, 2, 5) := ⟨by decide, ck_34, (tm_2 191 rfl rfl), (tm_1 6 rfl rfl), ⟨by decide, by decide, by decide +kernel⟩, fun h => absurd h (by decide), fun _ => ⟨(tm_2 193 rfl rfl), (ts_p 7 rfl rfl), _, _, rfl⟩⟩
theorem mo_33 : mm_ok gd ms_nm ms_by ms_mx cs_L ms_Y 33 := ⟨by decide +kernel, by decide +kernel, List.forall_mem_cons.mpr ⟨gk_Wa_29, List.forall_mem_cons.mpr ⟨gk_Wa_65, List.forall_mem_cons.mpr ⟨gk_Wa_68, List.forall_mem_cons.mpr ⟨gk_Wa_71, List.forall_mem_cons.mpr ⟨gk_Wa_11, fun _ h => absurd h List.not_mem_nil⟩⟩⟩⟩⟩, fun _ h => absurd h List.not_mem_nil, List.forall_mem_cons.mpr ⟨kk_Wa_74, fun _ h => absurd h List.not_mem_nil⟩, mm_nold (by decide +kernel)⟩
theorem kk_Wa_78 : mm_kok gd ms_nm ms_by ms_mx cs_L ms_Y "HouseDesk$Walks" (78, 10, 2, 1) := ⟨by decide, ck_10, (tm_2 195 rfl rfl), (tm_1 2 rfl rfl), ⟨by decide, by decide, by decide +kernel⟩, fun h => absurd h (by decide), fun _ => ⟨(tm_2 196 rfl rfl), (tm_2 197 rfl rfl), _, _, rfl⟩⟩
theorem kk_Wa_81 : mm_kok gd ms_nm ms_by ms_mx cs_L ms_Y "HouseDesk$Walks" (81, 35, 4, 5) := ⟨by decide, ck_35, (tm_2 199 rfl rfl), (tm_1 6 rfl rfl), ⟨by decide, by decide, by decide +kernel⟩, fun h => absurd h (by decide), fun _ => ⟨(tm_2 201 rfl rfl), (ts_p 8 rfl rfl), _, _, rfl⟩⟩
theorem mo_34 : mm_ok gd ms_nm ms_by ms_mx cs_L ms_Y 34 := ⟨by decide +kernel, by decide +kernel, List.forall_mem_cons.mpr ⟨gk_Wa_29, fun _ h => absurd h List.not_mem_nil⟩, fun _ h => absurd h List.not_mem_nil, List.forall_mem_cons.mpr ⟨kk_Wa_78, List.forall_mem_cons.mpr ⟨kk_Wa_81, fun _ h => absurd h List.not_mem_nil⟩⟩, mm_nold (by decide +kernel)⟩
theorem kk_Wa_85 : mm_kok gd ms_nm ms_by ms_mx cs_L ms_Y "HouseDesk$Walks" (85, 17, 3, 1) := ⟨by decide, ck_17, (tm_2 203 rfl rfl), (tm_1 2 rfl rfl), ⟨by decide, by decide, by decide +kernel⟩, fun h => absurd h (by decide), fun _ => ⟨(tm_2 139 rfl rfl), (tm_2 140 rfl rfl), _, _, rfl⟩⟩
theorem mo_35 : mm_ok gd ms_nm ms_by ms_mx cs_L ms_Y 35 := ⟨by decide +kernel, by decide +kernel, List.forall_mem_cons.mpr ⟨gk_Wa_29, fun _ h => absurd h List.not_mem_nil⟩, fun _ h => absurd h List.not_mem_nil, List.forall_mem_cons.mpr ⟨kk_Wa_85, fun _ h => absurd h List.not_mem_nil⟩, mm_nold (by decide +kernel)⟩
theorem kk_Wa_89 : mm_kok gd ms_nm ms_by ms_mx cs_L ms_Y "HouseDesk$Walks" (89, 7, 1, 1) := ⟨by decide, ck_7, (tm_2 208 rfl rfl), (tm_1 2 rfl rfl), ⟨by decide, by decide, by decide +kernel⟩, fun h => absurd h (by decide), fun _ => ⟨(tm_2 168 rfl rfl), (tm_2 169 rfl rfl), _, _, rfl⟩⟩
theorem kk_Wa_93 : mm_kok gd ms_nm ms_by ms_mx cs_L ms_Y "HouseDesk$Walks" (93, 37, 2, 5) := ⟨by decide, ck_37, (tm_2 209 rfl rfl), (tm_1 6 rfl rfl), ⟨by decide, by decide, by decide +kernel⟩, fun h => absurd h (by decide), fun _ => ⟨(tm_2 211 rfl rfl), (ts_p 10 rfl rfl), _, _, rfl⟩⟩
theorem mo_36 : mm_ok gd ms_nm ms_by ms_mx cs_L ms_Y 36 := ⟨by decide +kernel, by decide +kernel, List.forall_mem_cons.mpr ⟨gk_Wa_29, fun _ h => absurd h List.not_mem_nil⟩, fun _ h => absurd h List.not_mem_nil, List.forall_mem_cons.mpr ⟨kk_Wa_89, List.forall_mem_cons.mpr ⟨kk_Wa_93, fun _ h => absurd h List.not_mem_nil⟩⟩, mm_nold (by decide +kernel)⟩
theorem gk_Wa_96 : mm_gok cs_L gd "HouseDesk$Walks" 96 1 0 := ⟨_, _, _, rfl, by decide, cw_1, (tm_1 37 rfl rfl)⟩
theorem gk_Wa_99 : mm_gok cs_L gd "HouseDesk$Walks" 99 1 1 := ⟨_, _, _, rfl, by decide, cw_1, (tm_1 40 rfl rfl)⟩
theorem mo_37 : mm_ok gd ms_nm ms_by ms_mx cs_L ms_Y 37 := ⟨by decide +kernel, by decide +kernel, List.forall_mem_cons.mpr ⟨gk_Wa_29, List.forall_mem_cons.mpr ⟨gk_Wa_96, List.forall_mem_cons.mpr ⟨gk_Wa_99, fun _ h => absurd h List.not_mem_nil⟩⟩⟩, fun _ h => absurd h List.not_mem_nil, fun _ h => absurd h List.not_mem_nil, mm_nold (by decide +kernel)⟩
theorem mo_38 : mm_ok gd ms_nm ms_by ms_mx cs_L ms_Y 38 := ⟨by decide +kernel, by decide +kernel, List.forall_mem_cons.mpr ⟨gk_Wa_29, fun _ h => absurd h List.not_mem_nil⟩, fun _ h => absurd h List.not_mem_nil, List.forall_mem_cons.mpr ⟨kk_Wa_78, List.forall_mem_cons.mpr ⟨kk_Wa_85, fun _ h => absurd h List.not_mem_nil⟩⟩, mm_nold (by decide +kernel)⟩
theorem qk_Wa_102 : mm_pok ms_Y cs_L gd "HouseDesk$Walks" 102 5 6 := ⟨_, _, _, cy_5, rfl, by decide, cw_5, (tm_1 162 rfl rfl), ct_5, cn_5, rfl, by decide +kernel⟩
theorem gk_Wa_23 : mm_gok cs_L gd "HouseDesk$Walks" 23 5 4 := ⟨_, _, _, rfl, by decide, cw_5, (tm_1 156 rfl rfl)⟩
theorem kk_Wa_105 : mm_kok gd ms_nm ms_by ms_mx cs_L ms_Y "HouseDesk$Walks" (105, 40, 1, 5) := ⟨by decide, ck_40, (tm_2 221 rfl rfl), (tm_1 6 rfl rfl), ⟨by decide, by decide, by decide +kernel⟩, fun h => absurd h (by decide), fun _ => ⟨(tm_2 222 rfl rfl), (tm_2 223 rfl rfl), _, _, rfl⟩⟩
theorem kk_Wa_108 : mm_kok gd ms_nm ms_by ms_mx cs_L ms_Y "HouseDesk$Walks" (108, 42, 2, 5) := ⟨by decide, ck_42, (tm_2 225 rfl rfl), (tm_1 6 rfl rfl), ⟨by decide, by decide, by decide +kernel⟩, fun h => absurd h (by decide), fun _ => ⟨(tm_2 227 rfl rfl), (ts_p 12 rfl rfl), _, _, rfl⟩⟩
theorem mo_39 : mm_ok gd ms_nm ms_by ms_mx cs_L ms_Y 39 := ⟨by decide +kernel, by decide +kernel, List.forall_mem_cons.mpr ⟨gk_Wa_29, List.forall_mem_cons.mpr ⟨gk_Wa_65, List.forall_mem_cons.mpr ⟨gk_Wa_23, List.forall_mem_cons.mpr ⟨gk_Wa_68, List.forall_mem_cons.mpr ⟨gk_Wa_71, List.forall_mem_cons.mpr ⟨gk_Wa_55, List.forall_mem_cons.mpr ⟨gk_Wa_16, fun _ h => absurd h List.not_mem_nil⟩⟩⟩⟩⟩⟩⟩, List.forall_mem_cons.mpr ⟨qk_Wa_102, fun _ h => absurd h List.not_mem_nil⟩, List.forall_mem_cons.mpr ⟨kk_Wa_105, List.forall_mem_cons.mpr ⟨kk_Wa_108, fun _ h => absurd h List.not_mem_nil⟩⟩, mm_nold (by decide +kernel)⟩
theorem mo_40 : mm_ok gd ms_nm ms_by ms_mx cs_L ms_Y 40 := ⟨by decide +kernel, by decide +kernel, List.forall_mem_cons.mpr ⟨gk_Wa_16, List.forall_mem_cons.mpr ⟨gk_Wa_55, fun _ h => absurd h List.not_mem_nil⟩⟩, fun _ h => absurd h List.not_mem_nil, fun _ h => absurd h List.not_mem_nil, mm_nold (by decide +kernel)⟩
theorem mo_41 : mm_ok gd ms_nm ms_by ms_mx cs_L ms_Y 41 := ⟨by decide +kernel, by decide +kernel, List.forall_mem_cons.mpr ⟨gk_Wa_16, List.forall_mem_cons.mpr ⟨gk_Wa_55, fun _ h => absurd h List.not_mem_nil⟩⟩, fun _ h => absurd h List.not_mem_nil, fun _ h => absurd h List.not_mem_nil, mm_nold (by decide +kernel)⟩
theorem gk_Wa_102 : mm_gok cs_L gd "HouseDesk$Walks" 102 5 6 := ⟨_, _, _, rfl, by decide, cw_5, (tm_1 162 rfl rfl)⟩
theorem gk_Wa_26 : mm_gok cs_L gd "HouseDesk$Walks" 26 5 5 := ⟨_, _, _, rfl, by decide, cw_5, (tm_1 158 rfl rfl)⟩
theorem mo_42 : mm_ok gd ms_nm ms_by ms_mx cs_L ms_Y 42 := ⟨by decide +kernel, by decide +kernel, List.forall_mem_cons.mpr ⟨gk_Wa_23, List.forall_mem_cons.mpr ⟨gk_Wa_102, List.forall_mem_cons.mpr ⟨gk_Wa_11, List.forall_mem_cons.mpr ⟨gk_Wa_26, fun _ h => absurd h List.not_mem_nil⟩⟩⟩⟩, List.forall_mem_cons.mpr ⟨qk_Wa_102, fun _ h => absurd h List.not_mem_nil⟩, fun _ h => absurd h List.not_mem_nil, mm_nold (by decide +kernel)⟩
theorem kk_Wa_112 : mm_kok gd ms_nm ms_by ms_mx cs_L ms_Y "HouseDesk$Walks" (112, 153, 1, 99) := ⟨by decide, ck_153, (tm_2 233 rfl rfl), (tm_1 19 rfl rfl), ⟨by decide, by decide, by decide +kernel⟩, fun _ => (tm_2 234 rfl rfl), fun h => absurd rfl h⟩
theorem kk_Wa_117 : mm_kok gd ms_nm ms_by ms_mx cs_L ms_Y "HouseDesk$Walks" (117, 44, 1, 99) := ⟨by decide, ck_44, (tm_2 239 rfl rfl), (tm_1 6 rfl rfl), ⟨by decide, by decide, by decide +kernel⟩, fun _ => (tm_3 0 rfl rfl), fun h => absurd rfl h⟩
theorem kk_Wa_120 : mm_kok gd ms_nm ms_by ms_mx cs_L ms_Y "HouseDesk$Walks" (120, 45, 2, 99) := ⟨by decide, ck_45, (tm_3 5 rfl rfl), (tm_1 6 rfl rfl), ⟨by decide, by decide, by decide +kernel⟩, fun _ => (tm_3 6 rfl rfl), fun h => absurd rfl h⟩
theorem kk_Wa_123 : mm_kok gd ms_nm ms_by ms_mx cs_L ms_Y "HouseDesk$Walks" (123, 6, 1, 99) := ⟨by decide, ck_6, (tm_3 2 rfl rfl), (tm_1 16 rfl rfl), ⟨by decide, by decide, by decide +kernel⟩, fun _ => (tm_3 3 rfl rfl), fun h => absurd rfl h⟩
theorem kk_Wa_126 : mm_kok gd ms_nm ms_by ms_mx cs_L ms_Y "HouseDesk$Walks" (126, 21, 3, 3) := ⟨by decide, ck_21, (tm_3 8 rfl rfl), (tm_1 4 rfl rfl), ⟨by decide, by decide, by decide +kernel⟩, fun h => absurd h (by decide), fun _ => ⟨(tm_3 9 rfl rfl), (tm_3 10 rfl rfl), _, _, rfl⟩⟩
theorem mo_43 : mm_ok gd ms_nm ms_by ms_mx cs_L ms_Y 43 := ⟨by decide +kernel, by decide +kernel, List.forall_mem_cons.mpr ⟨gk_Wa_102, List.forall_mem_cons.mpr ⟨gk_Wa_26, fun _ h => absurd h List.not_mem_nil⟩⟩, fun _ h => absurd h List.not_mem_nil, List.forall_mem_cons.mpr ⟨kk_Wa_112, List.forall_mem_cons.mpr ⟨kk_Wa_117, List.forall_mem_cons.mpr ⟨kk_Wa_120, List.forall_mem_cons.mpr ⟨kk_Wa_123, List.forall_mem_cons.mpr ⟨kk_Wa_39, List.forall_mem_cons.mpr ⟨kk_Wa_126, fun _ h => absurd h List.not_mem_nil⟩⟩⟩⟩⟩⟩, mm_nold (by decide +kernel)⟩
theorem mo_44 : mm_ok gd ms_nm ms_by ms_mx cs_L ms_Y 44 := ⟨by decide +kernel, by decide +kernel, fun _ h => absurd h List.not_mem_nil, fun _ h => absurd h List.not_mem_nil, List.forall_mem_cons.mpr ⟨kk_Wa_123, fun _ h => absurd h List.not_mem_nil⟩, mm_nold (by decide +kernel)⟩
theorem mo_45 : mm_ok gd ms_nm ms_by ms_mx cs_L ms_Y 45 := ⟨by decide +kernel, by decide +kernel, fun _ h => absurd h List.not_mem_nil, fun _ h => absurd h List.not_mem_nil, List.forall_mem_cons.mpr ⟨kk_Wa_39, List.forall_mem_cons.mpr ⟨kk_Wa_45, fun _ h => absurd h List.not_mem_nil⟩⟩, mm_nold (by decide +kernel)⟩
theorem mo_46 : mm_ok gd ms_nm ms_by ms_mx cs_L ms_Y 46 := ⟨by decide +kernel, by decide +kernel, List.forall_mem_cons.mpr ⟨gk_Wa_102, List.forall_mem_cons.mpr ⟨gk_Wa_26, fun _ h => absurd h List.not_mem_nil⟩⟩, fun _ h => absurd h List.not_mem_nil, fun _ h => absurd h List.not_mem_nil, mm_nold (by decide +kernel)⟩
theorem gk_Si_15 : mm_gok cs_L gd "HouseDesk$Sides" 15 6 1 := ⟨_, _, _, rfl, by decide, cw_6, (tm_1 189 rfl rfl)⟩
theorem gk_Si_23 : mm_gok cs_L gd "HouseDesk$Sides" 23 1 9 := ⟨_, _, _, rfl, by decide, cw_1, (tm_1 65 rfl rfl)⟩
theorem gk_Si_19 : mm_gok cs_L gd "HouseDesk$Sides" 19 6 2 := ⟨_, _, _, rfl, by decide, cw_6, (tm_1 190 rfl rfl)⟩
theorem gk_Si_29 : mm_gok cs_L gd "HouseDesk$Sides" 29 5 2 := ⟨_, _, _, rfl, by decide, cw_5, (tm_1 151 rfl rfl)⟩
theorem gk_Si_34 : mm_gok cs_L gd "HouseDesk$Sides" 34 1 8 := ⟨_, _, _, rfl, by decide, cw_1, (tm_1 64 rfl rfl)⟩
theorem kk_Si_37 : mm_kok gd ms_nm ms_by ms_mx cs_L ms_Y "HouseDesk$Sides" (37, 48, 1, 6) := ⟨by decide, ck_48, (tm_3 16 rfl rfl), (tm_1 7 rfl rfl), ⟨by decide, by decide, by decide +kernel⟩, fun h => absurd h (by decide), fun _ => ⟨(tm_3 18 rfl rfl), (ts_p 13 rfl rfl), _, _, rfl⟩⟩
theorem gk_Si_41 : mm_gok cs_L gd "HouseDesk$Sides" 41 5 3 := ⟨_, _, _, rfl, by decide, cw_5, (tm_1 152 rfl rfl)⟩
theorem mo_47 : mm_ok gd ms_nm ms_by ms_mx cs_L ms_Y 47 := ⟨by decide +kernel, by decide +kernel, List.forall_mem_cons.mpr ⟨gk_Si_15, List.forall_mem_cons.mpr ⟨gk_Si_23, List.forall_mem_cons.mpr ⟨gk_Si_19, List.forall_mem_cons.mpr ⟨gk_Si_29, List.forall_mem_cons.mpr ⟨gk_Si_34, List.forall_mem_cons.mpr ⟨gk_Si_41, fun _ h => absurd h List.not_mem_nil⟩⟩⟩⟩⟩⟩, fun _ h => absurd h List.not_mem_nil, List.forall_mem_cons.mpr ⟨kk_Si_37, fun _ h => absurd h List.not_mem_nil⟩, mm_nold (by decide +kernel)⟩
theorem kk_Si_45 : mm_kok gd ms_nm ms_by ms_mx cs_L ms_Y "HouseDesk$Sides" (45, 49, 1, 6) := ⟨by decide, ck_49, (tm_3 20 rfl rfl), (tm_1 7 rfl rfl), ⟨by decide, by decide, by decide +kernel⟩, fun h => absurd h (by decide), fun _ => ⟨(tm_3 22 rfl rfl), (ts_p 14 rfl rfl), _, _, rfl⟩⟩
theorem mo_48 : mm_ok gd ms_nm ms_by ms_mx cs_L ms_Y 48 := ⟨by decide +kernel, by decide +kernel, List.forall_mem_cons.mpr ⟨gk_Si_19, List.forall_mem_cons.mpr ⟨gk_Si_29, List.forall_mem_cons.mpr ⟨gk_Si_15, List.forall_mem_cons.mpr ⟨gk_Si_34, List.forall_mem_cons.mpr ⟨gk_Si_41, fun _ h => absurd h List.not_mem_nil⟩⟩⟩⟩⟩, fun _ h => absurd h List.not_mem_nil, List.forall_mem_cons.mpr ⟨kk_Si_45, fun _ h => absurd h List.not_mem_nil⟩, mm_nold (by decide +kernel)⟩
theorem kk_Si_48 : mm_kok gd ms_nm ms_by ms_mx cs_L ms_Y "HouseDesk$Sides" (48, 50, 1, 99) := ⟨by decide, ck_50, (tm_3 24 rfl rfl), (tm_1 7 rfl rfl), ⟨by decide, by decide, by decide +kernel⟩, fun _ => (tm_3 25 rfl rfl), fun h => absurd rfl h⟩
theorem mo_49 : mm_ok gd ms_nm ms_by ms_mx cs_L ms_Y 49 := ⟨by decide +kernel, by decide +kernel, List.forall_mem_cons.mpr ⟨gk_Si_15, List.forall_mem_cons.mpr ⟨gk_Si_34, fun _ h => absurd h List.not_mem_nil⟩⟩, fun _ h => absurd h List.not_mem_nil, List.forall_mem_cons.mpr ⟨kk_Si_48, fun _ h => absurd h List.not_mem_nil⟩, mm_nold (by decide +kernel)⟩
theorem mo_50 : mm_ok gd ms_nm ms_by ms_mx cs_L ms_Y 50 := ⟨by decide +kernel, by decide +kernel, fun _ h => absurd h List.not_mem_nil, fun _ h => absurd h List.not_mem_nil, fun _ h => absurd h List.not_mem_nil, mm_nold (by decide +kernel)⟩
theorem mo_51 : mm_ok gd ms_nm ms_by ms_mx cs_L ms_Y 51 := ⟨by decide +kernel, by decide +kernel, fun _ h => absurd h List.not_mem_nil, fun _ h => absurd h List.not_mem_nil, fun _ h => absurd h List.not_mem_nil, mm_nold (by decide +kernel)⟩
theorem mo_52 : mm_ok gd ms_nm ms_by ms_mx cs_L ms_Y 52 := ⟨by decide +kernel, by decide +kernel, fun _ h => absurd h List.not_mem_nil, fun _ h => absurd h List.not_mem_nil, fun _ h => absurd h List.not_mem_nil, mm_nold (by decide +kernel)⟩
theorem gk_Si_9 : mm_gok cs_L gd "HouseDesk$Sides" 9 6 0 := ⟨_, _, _, rfl, by decide, cw_6, (tm_1 187 rfl rfl)⟩
theorem kk_Si_51 : mm_kok gd ms_nm ms_by ms_mx cs_L ms_Y "HouseDesk$Sides" (51, 52, 1, 99) := ⟨by decide, ck_52, (tm_3 32 rfl rfl), (tm_1 7 rfl rfl), ⟨by decide, by decide, by decide +kernel⟩, fun _ => (tm_3 33 rfl rfl), fun h => absurd rfl h⟩
theorem mo_53 : mm_ok gd ms_nm ms_by ms_mx cs_L ms_Y 53 := ⟨by decide +kernel, by decide +kernel, List.forall_mem_cons.mpr ⟨gk_Si_9, fun _ h => absurd h List.not_mem_nil⟩, fun _ h => absurd h List.not_mem_nil, List.forall_mem_cons.mpr ⟨kk_Si_51, fun _ h => absurd h List.not_mem_nil⟩, mm_nold (by decide +kernel)⟩
theorem kk_Si_54 : mm_kok gd ms_nm ms_by ms_mx cs_L ms_Y "HouseDesk$Sides" (54, 7, 1, 1) := ⟨by decide, ck_7, (tm_3 31 rfl rfl), (tm_1 2 rfl rfl), ⟨by decide, by decide, by decide +kernel⟩, fun h => absurd h (by decide), fun _ => ⟨(tm_2 168 rfl rfl), (tm_2 169 rfl rfl), _, _, rfl⟩⟩
theorem gk_Si_58 : mm_gok cs_L gd "HouseDesk$Sides" 58 1 4 := ⟨_, _, _, rfl, by decide, cw_1, (tm_1 49 rfl rfl)⟩
theorem kk_Si_61 : mm_kok gd ms_nm ms_by ms_mx cs_L ms_Y "HouseDesk$Sides" (61, 51, 1, 99) := ⟨by decide, ck_51, (tm_3 35 rfl rfl), (tm_1 7 rfl rfl), ⟨by decide, by decide, by decide +kernel⟩, fun _ => (tm_3 36 rfl rfl), fun h => absurd rfl h⟩
theorem kk_Si_64 : mm_kok gd ms_nm ms_by ms_mx cs_L ms_Y "HouseDesk$Sides" (64, 40, 1, 5) := ⟨by decide, ck_40, (tm_3 38 rfl rfl), (tm_1 6 rfl rfl), ⟨by decide, by decide, by decide +kernel⟩, fun h => absurd h (by decide), fun _ => ⟨(tm_2 222 rfl rfl), (tm_2 223 rfl rfl), _, _, rfl⟩⟩
theorem mo_54 : mm_ok gd ms_nm ms_by ms_mx cs_L ms_Y 54 := ⟨by decide +kernel, by decide +kernel, List.forall_mem_cons.mpr ⟨gk_Si_9, List.forall_mem_cons.mpr ⟨gk_Si_15, List.forall_mem_cons.mpr ⟨gk_Si_58, List.forall_mem_cons.mpr ⟨gk_Si_34, List.forall_mem_cons.mpr ⟨gk_Si_19, List.forall_mem_cons.mpr ⟨gk_Si_29, fun _ h => absurd h List.not_mem_nil⟩⟩⟩⟩⟩⟩, fun _ h => absurd h List.not_mem_nil, List.forall_mem_cons.mpr ⟨kk_Si_54, List.forall_mem_cons.mpr ⟨kk_Si_48, List.forall_mem_cons.mpr ⟨kk_Si_51, List.forall_mem_cons.mpr ⟨kk_Si_61, List.forall_mem_cons.mpr ⟨kk_Si_37, List.forall_mem_cons.mpr ⟨kk_Si_64, fun _ h => absurd h List.not_mem_nil⟩⟩⟩⟩⟩⟩, mm_nold (by decide +kernel)⟩
theorem kk_Si_67 : mm_kok gd ms_nm ms_by ms_mx cs_L ms_Y "HouseDesk$Sides" (67, 4, 2, 99) := ⟨by decide, ck_4, (tm_3 43 rfl rfl), (tm_1 16 rfl rfl), ⟨by decide, by decide, by decide +kernel⟩, fun _ => (tm_2 172 rfl rfl), fun h => absurd rfl h⟩
theorem kk_Si_73 : mm_kok gd ms_nm ms_by ms_mx cs_L ms_Y "HouseDesk$Sides" (73, 56, 2, 6) := ⟨by decide, ck_56, (tm_3 44 rfl rfl), (tm_1 7 rfl rfl), ⟨by decide, by decide, by decide +kernel⟩, fun h => absurd h (by decide), fun _ => ⟨(tm_3 46 rfl rfl), (ts_p 15 rfl rfl), _, _, rfl⟩⟩
theorem kk_Si_77 : mm_kok gd ms_nm ms_by ms_mx cs_L ms_Y "HouseDesk$Sides" (77, 21, 3, 3) := ⟨by decide, ck_21, (tm_3 60 rfl rfl), (tm_1 4 rfl rfl), ⟨by decide, by decide, by decide +kernel⟩, fun h => absurd h (by decide), fun _ => ⟨(tm_3 9 rfl rfl), (tm_3 10 rfl rfl), _, _, rfl⟩⟩
theorem mo_55 : mm_ok gd ms_nm ms_by ms_mx cs_L ms_Y 55 := ⟨by decide +kernel, by decide +kernel, List.forall_mem_cons.mpr ⟨gk_Si_9, fun _ h => absurd h List.not_mem_nil⟩, fun _ h => absurd h List.not_mem_nil, List.forall_mem_cons.mpr ⟨kk_Si_67, List.forall_mem_cons.mpr ⟨kk_Si_73, List.forall_mem_cons.mpr ⟨kk_Si_77, fun _ h => absurd h List.not_mem_nil⟩⟩⟩, mm_nold (by decide +kernel)⟩
theorem kk_Si_83 : mm_kok gd ms_nm ms_by ms_mx cs_L ms_Y "HouseDesk$Sides" (83, 57, 3, 6) := ⟨by decide, ck_57, (tm_3 48 rfl rfl), (tm_1 7 rfl rfl), ⟨by decide, by decide, by decide +kernel⟩, fun h => absurd h (by decide), fun _ => ⟨(tm_3 50 rfl rfl), (ts_p 16 rfl rfl), _, _, rfl⟩⟩
theorem mo_56 : mm_ok gd ms_nm ms_by ms_mx cs_L ms_Y 56 := ⟨by decide +kernel, by decide +kernel, List.forall_mem_cons.mpr ⟨gk_Si_9, fun _ h => absurd h List.not_mem_nil⟩, fun _ h => absurd h List.not_mem_nil, List.forall_mem_cons.mpr ⟨kk_Si_67, List.forall_mem_cons.mpr ⟨kk_Si_83, fun _ h => absurd h List.not_mem_nil⟩⟩, mm_nold (by decide +kernel)⟩
theorem kk_Si_87 : mm_kok gd ms_nm ms_by ms_mx cs_L ms_Y "HouseDesk$Sides" (87, 46, 1, 5) := ⟨by decide, ck_46, (tm_3 52 rfl rfl), (tm_1 6 rfl rfl), ⟨by decide, by decide, by decide +kernel⟩, fun h => absurd h (by decide), fun _ => ⟨(tm_3 53 rfl rfl), (tm_3 54 rfl rfl), _, _, rfl⟩⟩
theorem kk_Si_90 : mm_kok gd ms_nm ms_by ms_mx cs_L ms_Y "HouseDesk$Sides" (90, 58, 3, 6) := ⟨by decide, ck_58, (tm_3 56 rfl rfl), (tm_1 7 rfl rfl), ⟨by decide, by decide, by decide +kernel⟩, fun h => absurd h (by decide), fun _ => ⟨(tm_3 58 rfl rfl), (ts_p 17 rfl rfl), _, _, rfl⟩⟩
theorem mo_57 : mm_ok gd ms_nm ms_by ms_mx cs_L ms_Y 57 := ⟨by decide +kernel, by decide +kernel, List.forall_mem_cons.mpr ⟨gk_Si_19, List.forall_mem_cons.mpr ⟨gk_Si_15, List.forall_mem_cons.mpr ⟨gk_Si_34, fun _ h => absurd h List.not_mem_nil⟩⟩⟩, fun _ h => absurd h List.not_mem_nil, List.forall_mem_cons.mpr ⟨kk_Si_87, List.forall_mem_cons.mpr ⟨kk_Si_90, fun _ h => absurd h List.not_mem_nil⟩⟩, mm_nold (by decide +kernel)⟩
theorem mo_58 : mm_ok gd ms_nm ms_by ms_mx cs_L ms_Y 58 := ⟨by decide +kernel, by decide +kernel, List.forall_mem_cons.mpr ⟨gk_Si_19, List.forall_mem_cons.mpr ⟨gk_Si_29, fun _ h => absurd h List.not_mem_nil⟩⟩, fun _ h => absurd h List.not_mem_nil, List.forall_mem_cons.mpr ⟨kk_Si_45, List.forall_mem_cons.mpr ⟨kk_Si_64, fun _ h => absurd h List.not_mem_nil⟩⟩, mm_nold (by decide +kernel)⟩
theorem gk_Si_93 : mm_gok cs_L gd "HouseDesk$Sides" 93 5 1 := ⟨_, _, _, rfl, by decide, cw_5, (tm_1 149 rfl rfl)⟩
theorem kk_Si_96 : mm_kok gd ms_nm ms_by ms_mx cs_L ms_Y "HouseDesk$Sides" (96, 41, 1, 5) := ⟨by decide, ck_41, (tm_3 65 rfl rfl), (tm_1 6 rfl rfl), ⟨by decide, by decide, by decide +kernel⟩, fun h => absurd h (by decide), fun _ => ⟨(tm_3 66 rfl rfl), (tm_3 67 rfl rfl), _, _, rfl⟩⟩
theorem kk_Si_99 : mm_kok gd ms_nm ms_by ms_mx cs_L ms_Y "HouseDesk$Sides" (99, 60, 1, 6) := ⟨by decide, ck_60, (tm_3 69 rfl rfl), (tm_1 7 rfl rfl), ⟨by decide, by decide, by decide +kernel⟩, fun h => absurd h (by decide), fun _ => ⟨(tm_3 70 rfl rfl), (tm_3 71 rfl rfl), _, _, rfl⟩⟩
theorem kk_Si_102 : mm_kok gd ms_nm ms_by ms_mx cs_L ms_Y "HouseDesk$Sides" (102, 53, 2, 6) := ⟨by decide, ck_53, (tm_3 73 rfl rfl), (tm_1 7 rfl rfl), ⟨by decide, by decide, by decide +kernel⟩, fun h => absurd h (by decide), fun _ => ⟨(tm_3 74 rfl rfl), (tm_3 75 rfl rfl), _, _, rfl⟩⟩
theorem gk_Si_105 : mm_gok cs_L gd "HouseDesk$Sides" 105 5 0 := ⟨_, _, _, rfl, by decide, cw_5, (tm_1 146 rfl rfl)⟩
theorem mo_59 : mm_ok gd ms_nm ms_by ms_mx cs_L ms_Y 59 := ⟨by decide +kernel, by decide +kernel, List.forall_mem_cons.mpr ⟨gk_Si_19, List.forall_mem_cons.mpr ⟨gk_Si_41, List.forall_mem_cons.mpr ⟨gk_Si_93, List.forall_mem_cons.mpr ⟨gk_Si_105, fun _ h => absurd h List.not_mem_nil⟩⟩⟩⟩, fun _ h => absurd h List.not_mem_nil, List.forall_mem_cons.mpr ⟨kk_Si_96, List.forall_mem_cons.mpr ⟨kk_Si_99, List.forall_mem_cons.mpr ⟨kk_Si_102, List.forall_mem_cons.mpr ⟨kk_Si_48, List.forall_mem_cons.mpr ⟨kk_Si_64, fun _ h => absurd h List.not_mem_nil⟩⟩⟩⟩⟩, mm_nold (by decide +kernel)⟩
theorem mo_60 : mm_ok gd ms_nm ms_by ms_mx cs_L ms_Y 60 := ⟨by decide +kernel, by decide +kernel, fun _ h => absurd h List.not_mem_nil, fun _ h => absurd h List.not_mem_nil, List.forall_mem_cons.mpr ⟨kk_Si_102, List.forall_mem_cons.mpr ⟨kk_Si_61, fun _ h => absurd h List.not_mem_nil⟩⟩, mm_nold (by decide +kernel)⟩
theorem qk_La_52 : mm_pok ms_Y cs_L gd "HouseDesk$Layout" 52 7 8 := ⟨_, _, _, cy_7, rfl, by decide, cw_7, (tm_1 215 rfl rfl), ct_7, cn_7, rfl, by decide +kernel⟩
theorem gk_La_23 : mm_gok cs_L gd "HouseDesk$Layout" 23 7 3 := ⟨_, _, _, rfl, by decide, cw_7, (tm_1 210 rfl rfl)⟩
theorem gk_La_48 : mm_gok cs_L gd "HouseDesk$Layout" 48 7 11 := ⟨_, _, _, rfl, by decide, cw_7, (tm_1 218 rfl rfl)⟩
theorem gk_La_56 : mm_gok cs_L gd "HouseDesk$Layout" 56 6 0 := ⟨_, _, _, rfl, by decide, cw_6, (tm_1 188 rfl rfl)⟩
theorem kk_La_61 : mm_kok gd ms_nm ms_by ms_mx cs_L ms_Y "HouseDesk$Layout" (61, 153, 1, 99) := ⟨by decide, ck_153, (tm_3 81 rfl rfl), (tm_1 19 rfl rfl), ⟨by decide, by decide, by decide +kernel⟩, fun _ => (tm_2 234 rfl rfl), fun h => absurd rfl h⟩
theorem gk_La_26 : mm_gok cs_L gd "HouseDesk$Layout" 26 7 4 := ⟨_, _, _, rfl, by decide, cw_7, (tm_1 211 rfl rfl)⟩
theorem gk_La_44 : mm_gok cs_L gd "HouseDesk$Layout" 44 7 10 := ⟨_, _, _, rfl, by decide, cw_7, (tm_1 217 rfl rfl)⟩
theorem gk_La_67 : mm_gok cs_L gd "HouseDesk$Layout" 67 5 6 := ⟨_, _, _, rfl, by decide, cw_5, (tm_1 160 rfl rfl)⟩
theorem kk_La_71 : mm_kok gd ms_nm ms_by ms_mx cs_L ms_Y "HouseDesk$Layout" (71, 62, 1, 7) := ⟨by decide, ck_62, (tm_3 82 rfl rfl), (tm_1 8 rfl rfl), ⟨by decide, by decide, by decide +kernel⟩, fun h => absurd h (by decide), fun _ => ⟨(tm_3 84 rfl rfl), (ts_p 18 rfl rfl), _, _, rfl⟩⟩
theorem kk_La_75 : mm_kok gd ms_nm ms_by ms_mx cs_L ms_Y "HouseDesk$Layout" (75, 65, 2, 7) := ⟨by decide, ck_65, (tm_3 88 rfl rfl), (tm_1 8 rfl rfl), ⟨by decide, by decide, by decide +kernel⟩, fun h => absurd h (by decide), fun _ => ⟨(tm_3 90 rfl rfl), (ts_p 19 rfl rfl), _, _, rfl⟩⟩
theorem kk_La_79 : mm_kok gd ms_nm ms_by ms_mx cs_L ms_Y "HouseDesk$Layout" (79, 63, 0, 7) := ⟨by decide, ck_63, (tm_3 92 rfl rfl), (tm_1 8 rfl rfl), ⟨by decide, by decide, by decide +kernel⟩, fun h => absurd h (by decide), fun _ => ⟨(tm_3 94 rfl rfl), (ts_p 20 rfl rfl), _, _, rfl⟩⟩
theorem kk_La_82 : mm_kok gd ms_nm ms_by ms_mx cs_L ms_Y "HouseDesk$Layout" (82, 64, 1, 7) := ⟨by decide, ck_64, (tm_3 99 rfl rfl), (tm_1 8 rfl rfl), ⟨by decide, by decide, by decide +kernel⟩, fun h => absurd h (by decide), fun _ => ⟨(tm_3 101 rfl rfl), (ts_p 21 rfl rfl), _, _, rfl⟩⟩
theorem mo_61 : mm_ok gd ms_nm ms_by ms_mx cs_L ms_Y 61 := ⟨by decide +kernel, by decide +kernel, List.forall_mem_cons.mpr ⟨gk_La_23, List.forall_mem_cons.mpr ⟨gk_La_48, List.forall_mem_cons.mpr ⟨gk_La_56, List.forall_mem_cons.mpr ⟨gk_La_26, List.forall_mem_cons.mpr ⟨gk_La_44, List.forall_mem_cons.mpr ⟨gk_La_67, fun _ h => absurd h List.not_mem_nil⟩⟩⟩⟩⟩⟩, List.forall_mem_cons.mpr ⟨qk_La_52, fun _ h => absurd h List.not_mem_nil⟩, List.forall_mem_cons.mpr ⟨kk_La_61, List.forall_mem_cons.mpr ⟨kk_La_71, List.forall_mem_cons.mpr ⟨kk_La_75, List.forall_mem_cons.mpr ⟨kk_La_79, List.forall_mem_cons.mpr ⟨kk_La_82, fun _ h => absurd h List.not_mem_nil⟩⟩⟩⟩⟩, mm_nold (by decide +kernel)⟩
theorem gk_La_85 : mm_gok cs_L gd "HouseDesk$Layout" 85 5 5 := ⟨_, _, _, rfl, by decide, cw_5, (tm_1 159 rfl rfl)⟩
theorem gk_La_17 : mm_gok cs_L gd "HouseDesk$Layout" 17 7 1 := ⟨_, _, _, rfl, by decide, cw_7, (tm_1 208 rfl rfl)⟩
theorem kk_La_88 : mm_kok gd ms_nm ms_by ms_mx cs_L ms_Y "HouseDesk$Layout" (88, 5, 1, 99) := ⟨by decide, ck_5, (tm_3 86 rfl rfl), (tm_1 16 rfl rfl), ⟨by decide, by decide, by decide +kernel⟩, fun _ => (tm_2 179 rfl rfl), fun h => absurd rfl h⟩
theorem kk_La_93 : mm_kok gd ms_nm ms_by ms_mx cs_L ms_Y "HouseDesk$Layout" (93, 6, 1, 99) := ⟨by decide, ck_6, (tm_3 87 rfl rfl), (tm_1 16 rfl rfl), ⟨by decide, by decide, by decide +kernel⟩, fun _ => (tm_3 3 rfl rfl), fun h => absurd rfl h⟩
theorem mo_62 : mm_ok gd ms_nm ms_by ms_mx cs_L ms_Y 62 := ⟨by decide +kernel, by decide +kernel, List.forall_mem_cons.mpr ⟨gk_La_44, List.forall_mem_cons.mpr ⟨gk_La_85, List.forall_mem_cons.mpr ⟨gk_La_17, fun _ h => absurd h List.not_mem_nil⟩⟩⟩, fun _ h => absurd h List.not_mem_nil, List.forall_mem_cons.mpr ⟨kk_La_88, List.forall_mem_cons.mpr ⟨kk_La_93, fun _ h => absurd h List.not_mem_nil⟩⟩, mm_nold (by decide +kernel)⟩
theorem gk_La_96 : mm_gok cs_L gd "HouseDesk$Layout" 96 5 3 := ⟨_, _, _, rfl, by decide, cw_5, (tm_1 155 rfl rfl)⟩
theorem gk_La_34 : mm_gok cs_L gd "HouseDesk$Layout" 34 7 6 := ⟨_, _, _, rfl, by decide, cw_7, (tm_1 213 rfl rfl)⟩
theorem gk_La_99 : mm_gok cs_L gd "HouseDesk$Layout" 99 5 1 := ⟨_, _, _, rfl, by decide, cw_5, (tm_1 148 rfl rfl)⟩
theorem gk_La_37 : mm_gok cs_L gd "HouseDesk$Layout" 37 7 7 := ⟨_, _, _, rfl, by decide, cw_7, (tm_1 214 rfl rfl)⟩
theorem kk_La_102 : mm_kok gd ms_nm ms_by ms_mx cs_L ms_Y "HouseDesk$Layout" (102, 60, 1, 6) := ⟨by decide, ck_60, (tm_3 96 rfl rfl), (tm_1 7 rfl rfl), ⟨by decide, by decide, by decide +kernel⟩, fun h => absurd h (by decide), fun _ => ⟨(tm_3 70 rfl rfl), (tm_3 71 rfl rfl), _, _, rfl⟩⟩
theorem gk_La_40 : mm_gok cs_L gd "HouseDesk$Layout" 40 7 9 := ⟨_, _, _, rfl, by decide, cw_7, (tm_1 216 rfl rfl)⟩
theorem kk_La_105 : mm_kok gd ms_nm ms_by ms_mx cs_L ms_Y "HouseDesk$Layout" (105, 10, 2, 1) := ⟨by decide, ck_10, (tm_3 97 rfl rfl), (tm_1 2 rfl rfl), ⟨by decide, by decide, by decide +kernel⟩, fun h => absurd h (by decide), fun _ => ⟨(tm_2 196 rfl rfl), (tm_2 197 rfl rfl), _, _, rfl⟩⟩
theorem kk_La_111 : mm_kok gd ms_nm ms_by ms_mx cs_L ms_Y "HouseDesk$Layout" (111, 4, 2, 99) := ⟨by decide, ck_4, (tm_3 98 rfl rfl), (tm_1 16 rfl rfl), ⟨by decide, by decide, by decide +kernel⟩, fun _ => (tm_2 172 rfl rfl), fun h => absurd rfl h⟩
theorem mo_63 : mm_ok gd ms_nm ms_by ms_mx cs_L ms_Y 63 := ⟨by decide +kernel, by decide +kernel, List.forall_mem_cons.mpr ⟨gk_La_44, List.forall_mem_cons.mpr ⟨gk_La_96, List.forall_mem_cons.mpr ⟨gk_La_34, List.forall_mem_cons.mpr ⟨gk_La_99, List.forall_mem_cons.mpr ⟨gk_La_37, List.forall_mem_cons.mpr ⟨gk_La_48, List.forall_mem_cons.mpr ⟨gk_La_40, fun _ h => absurd h List.not_mem_nil⟩⟩⟩⟩⟩⟩⟩, fun _ h => absurd h List.not_mem_nil, List.forall_mem_cons.mpr ⟨kk_La_102, List.forall_mem_cons.mpr ⟨kk_La_105, List.forall_mem_cons.mpr ⟨kk_La_111, fun _ h => absurd h List.not_mem_nil⟩⟩⟩, mm_nold (by decide +kernel)⟩
theorem kk_La_114 : mm_kok gd ms_nm ms_by ms_mx cs_L ms_Y "HouseDesk$Layout" (114, 67, 0, 7) := ⟨by decide, ck_67, (tm_3 103 rfl rfl), (tm_1 8 rfl rfl), ⟨by decide, by decide, by decide +kernel⟩, fun h => absurd h (by decide), fun _ => ⟨(tm_3 105 rfl rfl), (ts_p 22 rfl rfl), _, _, rfl⟩⟩
theorem gk_La_20 : mm_gok cs_L gd "HouseDesk$Layout" 20 7 2 := ⟨_, _, _, rfl, by decide, cw_7, (tm_1 209 rfl rfl)⟩
theorem kk_La_117 : mm_kok gd ms_nm ms_by ms_mx cs_L ms_Y "HouseDesk$Layout" (117, 66, 1, 7) := ⟨by decide, ck_66, (tm_3 129 rfl rfl), (tm_1 8 rfl rfl), ⟨by decide, by decide, by decide +kernel⟩, fun h => absurd h (by decide), fun _ => ⟨(tm_3 131 rfl rfl), (ts_p 27 rfl rfl), _, _, rfl⟩⟩
theorem mo_64 : mm_ok gd ms_nm ms_by ms_mx cs_L ms_Y 64 := ⟨by decide +kernel, by decide +kernel, List.forall_mem_cons.mpr ⟨gk_La_44, List.forall_mem_cons.mpr ⟨gk_La_67, List.forall_mem_cons.mpr ⟨gk_La_17, List.forall_mem_cons.mpr ⟨gk_La_20, List.forall_mem_cons.mpr ⟨gk_La_23, fun _ h => absurd h List.not_mem_nil⟩⟩⟩⟩⟩, fun _ h => absurd h List.not_mem_nil, List.forall_mem_cons.mpr ⟨kk_La_114, List.forall_mem_cons.mpr ⟨kk_La_75, List.forall_mem_cons.mpr ⟨kk_La_117, List.forall_mem_cons.mpr ⟨kk_La_82, fun _ h => absurd h List.not_mem_nil⟩⟩⟩⟩, mm_nold (by decide +kernel)⟩
theorem mo_65 : mm_ok gd ms_nm ms_by ms_mx cs_L ms_Y 65 := ⟨by decide +kernel, by decide +kernel, List.forall_mem_cons.mpr ⟨gk_La_26, List.forall_mem_cons.mpr ⟨gk_La_17, fun _ h => absurd h List.not_mem_nil⟩⟩, fun _ h => absurd h List.not_mem_nil, fun _ h => absurd h List.not_mem_nil, mm_nold (by decide +kernel)⟩
theorem mo_66 : mm_ok gd ms_nm ms_by ms_mx cs_L ms_Y 66 := ⟨by decide +kernel, by decide +kernel, List.forall_mem_cons.mpr ⟨gk_La_23, List.forall_mem_cons.mpr ⟨gk_La_17, List.forall_mem_cons.mpr ⟨gk_La_26, fun _ h => absurd h List.not_mem_nil⟩⟩⟩, fun _ h => absurd h List.not_mem_nil, fun _ h => absurd h List.not_mem_nil, mm_nold (by decide +kernel)⟩
theorem gk_La_121 : mm_gok cs_L gd "HouseDesk$Layout" 121 1 11 := ⟨_, _, _, rfl, by decide, cw_1, (tm_1 71 rfl rfl)⟩
theorem kk_La_124 : mm_kok gd ms_nm ms_by ms_mx cs_L ms_Y "HouseDesk$Layout" (124, 68, 2, 7) := ⟨by decide, ck_68, (tm_3 107 rfl rfl), (tm_1 8 rfl rfl), ⟨by decide, by decide, by decide +kernel⟩, fun h => absurd h (by decide), fun _ => ⟨(tm_3 109 rfl rfl), (ts_p 23 rfl rfl), _, _, rfl⟩⟩
theorem gk_La_52 : mm_gok cs_L gd "HouseDesk$Layout" 52 7 8 := ⟨_, _, _, rfl, by decide, cw_7, (tm_1 215 rfl rfl)⟩
theorem kk_La_127 : mm_kok gd ms_nm ms_by ms_mx cs_L ms_Y "HouseDesk$Layout" (127, 71, 0, 7) := ⟨by decide, ck_71, (tm_3 119 rfl rfl), (tm_1 8 rfl rfl), ⟨by decide, by decide, by decide +kernel⟩, fun h => absurd h (by decide), fun _ => ⟨(tm_3 121 rfl rfl), (ts_p 25 rfl rfl), _, _, rfl⟩⟩
theorem gk_La_131 : mm_gok cs_L gd "HouseDesk$Layout" 131 1 12 := ⟨_, _, _, rfl, by decide, cw_1, (tm_1 78 rfl rfl)⟩
theorem gk_La_9 : mm_gok cs_L gd "HouseDesk$Layout" 9 7 0 := ⟨_, _, _, rfl, by decide, cw_7, (tm_1 205 rfl rfl)⟩
theorem kk_La_134 : mm_kok gd ms_nm ms_by ms_mx cs_L ms_Y "HouseDesk$Layout" (134, 154, 1, 7) := ⟨by decide, ck_154, (tm_3 123 rfl rfl), (tm_1 8 rfl rfl), ⟨by decide, by decide, by decide +kernel⟩, fun h => absurd h (by decide), fun _ => ⟨(tm_3 125 rfl rfl), (ts_p 26 rfl rfl), _, _, rfl⟩⟩
theorem mo_67 : mm_ok gd ms_nm ms_by ms_mx cs_L ms_Y 67 := ⟨by decide +kernel, by decide +kernel, List.forall_mem_cons.mpr ⟨gk_La_40, List.forall_mem_cons.mpr ⟨gk_La_121, List.forall_mem_cons.mpr ⟨gk_La_34, List.forall_mem_cons.mpr ⟨gk_La_37, List.forall_mem_cons.mpr ⟨gk_La_52, List.forall_mem_cons.mpr ⟨gk_La_131, List.forall_mem_cons.mpr ⟨gk_La_9, fun _ h => absurd h List.not_mem_nil⟩⟩⟩⟩⟩⟩⟩, List.forall_mem_cons.mpr ⟨qk_La_52, fun _ h => absurd h List.not_mem_nil⟩, List.forall_mem_cons.mpr ⟨kk_La_124, List.forall_mem_cons.mpr ⟨kk_La_127, List.forall_mem_cons.mpr ⟨kk_La_134, fun _ h => absurd h List.not_mem_nil⟩⟩⟩, mm_nold (by decide +kernel)⟩
theorem gk_La_31 : mm_gok cs_L gd "HouseDesk$Layout" 31 7 5 := ⟨_, _, _, rfl, by decide, cw_7, (tm_1 212 rfl rfl)⟩
theorem kk_La_137 : mm_kok gd ms_nm ms_by ms_mx cs_L ms_Y "HouseDesk$Layout" (137, 69, 1, 99) := ⟨by decide, ck_69, (tm_3 111 rfl rfl), (tm_1 8 rfl rfl), ⟨by decide, by decide, by decide +kernel⟩, fun _ => (tm_3 112 rfl rfl), fun h => absurd rfl h⟩
theorem gk_La_140 : mm_gok cs_L gd "HouseDesk$Layout" 140 5 0 := ⟨_, _, _, rfl, by decide, cw_5, (tm_1 145 rfl rfl)⟩
theorem kk_La_143 : mm_kok gd ms_nm ms_by ms_mx cs_L ms_Y "HouseDesk$Layout" (143, 70, 3, 7) := ⟨by decide, ck_70, (tm_3 115 rfl rfl), (tm_1 8 rfl rfl), ⟨by decide, by decide, by decide +kernel⟩, fun h => absurd h (by decide), fun _ => ⟨(tm_3 117 rfl rfl), (ts_p 24 rfl rfl), _, _, rfl⟩⟩
theorem kk_La_147 : mm_kok gd ms_nm ms_by ms_mx cs_L ms_Y "HouseDesk$Layout" (147, 50, 1, 99) := ⟨by decide, ck_50, (tm_3 114 rfl rfl), (tm_1 7 rfl rfl), ⟨by decide, by decide, by decide +kernel⟩, fun _ => (tm_3 25 rfl rfl), fun h => absurd rfl h⟩
theorem mo_68 : mm_ok gd ms_nm ms_by ms_mx cs_L ms_Y 68 := ⟨by decide +kernel, by decide +kernel, List.forall_mem_cons.mpr ⟨gk_La_31, List.forall_mem_cons.mpr ⟨gk_La_48, List.forall_mem_cons.mpr ⟨gk_La_56, List.forall_mem_cons.mpr ⟨gk_La_44, List.forall_mem_cons.mpr ⟨gk_La_140, fun _ h => absurd h List.not_mem_nil⟩⟩⟩⟩⟩, fun _ h => absurd h List.not_mem_nil, List.forall_mem_cons.mpr ⟨kk_La_137, List.forall_mem_cons.mpr ⟨kk_La_61, List.forall_mem_cons.mpr ⟨kk_La_143, List.forall_mem_cons.mpr ⟨kk_La_147, fun _ h => absurd h List.not_mem_nil⟩⟩⟩⟩, mm_nold (by decide +kernel)⟩
theorem mo_69 : mm_ok gd ms_nm ms_by ms_mx cs_L ms_Y 69 := ⟨by decide +kernel, by decide +kernel, fun _ h => absurd h List.not_mem_nil, fun _ h => absurd h List.not_mem_nil, List.forall_mem_cons.mpr ⟨kk_La_147, fun _ h => absurd h List.not_mem_nil⟩, mm_nold (by decide +kernel)⟩
theorem gk_La_150 : mm_gok cs_L gd "HouseDesk$Layout" 150 5 4 := ⟨_, _, _, rfl, by decide, cw_5, (tm_1 157 rfl rfl)⟩
theorem mo_70 : mm_ok gd ms_nm ms_by ms_mx cs_L ms_Y 70 := ⟨by decide +kernel, by decide +kernel, List.forall_mem_cons.mpr ⟨gk_La_20, List.forall_mem_cons.mpr ⟨gk_La_44, List.forall_mem_cons.mpr ⟨gk_La_150, fun _ h => absurd h List.not_mem_nil⟩⟩⟩, fun _ h => absurd h List.not_mem_nil, fun _ h => absurd h List.not_mem_nil, mm_nold (by decide +kernel)⟩
theorem mo_71 : mm_ok gd ms_nm ms_by ms_mx cs_L ms_Y 71 := ⟨by decide +kernel, by decide +kernel, List.forall_mem_cons.mpr ⟨gk_La_40, List.forall_mem_cons.mpr ⟨gk_La_131, List.forall_mem_cons.mpr ⟨gk_La_9, fun _ h => absurd h List.not_mem_nil⟩⟩⟩, fun _ h => absurd h List.not_mem_nil, List.forall_mem_cons.mpr ⟨kk_La_134, fun _ h => absurd h List.not_mem_nil⟩, mm_nold (by decide +kernel)⟩
theorem gk_Pl_11 : mm_gok cs_L gd "HouseDesk$Places" 11 8 0 := ⟨_, _, _, rfl, by decide, cw_8, (tm_2 11 rfl rfl)⟩
theorem qk_Pl_32 : mm_pok ms_Y cs_L gd "HouseDesk$Places" 32 8 2 := ⟨_, _, _, cy_8, rfl, by decide, cw_8, (tm_2 15 rfl rfl), ct_8, cn_8, rfl, by decide +kernel⟩
theorem gk_Pl_32 : mm_gok cs_L gd "HouseDesk$Places" 32 8 2 := ⟨_, _, _, rfl, by decide, cw_8, (tm_2 15 rfl rfl)⟩
theorem gk_Pl_20 : mm_gok cs_L gd "HouseDesk$Places" 20 8 3 := ⟨_, _, _, rfl, by decide, cw_8, (tm_2 16 rfl rfl)⟩
theorem gk_Pl_36 : mm_gok cs_L gd "HouseDesk$Places" 36 1 12 := ⟨_, _, _, rfl, by decide, cw_1, (tm_1 73 rfl rfl)⟩
theorem kk_Pl_42 : mm_kok gd ms_nm ms_by ms_mx cs_L ms_Y "HouseDesk$Places" (42, 75, 1, 8) := ⟨by decide, ck_75, (tm_3 137 rfl rfl), (tm_1 9 rfl rfl), ⟨by decide, by decide, by decide +kernel⟩, fun h => absurd h (by decide), fun _ => ⟨(tm_3 139 rfl rfl), (ts_p 28 rfl rfl), _, _, rfl⟩⟩
theorem kk_Pl_46 : mm_kok gd ms_nm ms_by ms_mx cs_L ms_Y "HouseDesk$Places" (46, 76, 1, 8) := ⟨by decide, ck_76, (tm_3 149 rfl rfl), (tm_1 9 rfl rfl), ⟨by decide, by decide, by decide +kernel⟩, fun h => absurd h (by decide), fun _ => ⟨(tm_3 151 rfl rfl), (ts_p 31 rfl rfl), _, _, rfl⟩⟩
theorem kk_Pl_49 : mm_kok gd ms_nm ms_by ms_mx cs_L ms_Y "HouseDesk$Places" (49, 7, 1, 1) := ⟨by decide, ck_7, (tm_3 158 rfl rfl), (tm_1 2 rfl rfl), ⟨by decide, by decide, by decide +kernel⟩, fun h => absurd h (by decide), fun _ => ⟨(tm_2 168 rfl rfl), (tm_2 169 rfl rfl), _, _, rfl⟩⟩
theorem gk_Pl_53 : mm_gok cs_L gd "HouseDesk$Places" 53 1 2 := ⟨_, _, _, rfl, by decide, cw_1, (tm_1 42 rfl rfl)⟩
theorem kk_Pl_56 : mm_kok gd ms_nm ms_by ms_mx cs_L ms_Y "HouseDesk$Places" (56, 73, 3, 8) := ⟨by decide, ck_73, (tm_3 145 rfl rfl), (tm_1 9 rfl rfl), ⟨by decide, by decide, by decide +kernel⟩, fun h => absurd h (by decide), fun _ => ⟨(tm_3 147 rfl rfl), (ts_p 30 rfl rfl), _, _, rfl⟩⟩
theorem gk_Pl_60 : mm_gok cs_L gd "HouseDesk$Places" 60 1 3 := ⟨_, _, _, rfl, by decide, cw_1, (tm_1 45 rfl rfl)⟩
theorem kk_Pl_63 : mm_kok gd ms_nm ms_by ms_mx cs_L ms_Y "HouseDesk$Places" (63, 77, 2, 8) := ⟨by decide, ck_77, (tm_3 159 rfl rfl), (tm_1 9 rfl rfl), ⟨by decide, by decide, by decide +kernel⟩, fun h => absurd h (by decide), fun _ => ⟨(tm_3 161 rfl rfl), (ts_p 32 rfl rfl), _, _, rfl⟩⟩
theorem mo_72 : mm_ok gd ms_nm ms_by ms_mx cs_L ms_Y 72 := ⟨by decide +kernel, by decide +kernel, List.forall_mem_cons.mpr ⟨gk_Pl_11, List.forall_mem_cons.mpr ⟨gk_Pl_32, List.forall_mem_cons.mpr ⟨gk_Pl_20, List.forall_mem_cons.mpr ⟨gk_Pl_36, List.forall_mem_cons.mpr ⟨gk_Pl_53, List.forall_mem_cons.mpr ⟨gk_Pl_60, fun _ h => absurd h List.not_mem_nil⟩⟩⟩⟩⟩⟩, List.forall_mem_cons.mpr ⟨qk_Pl_32, fun _ h => absurd h List.not_mem_nil⟩, List.forall_mem_cons.mpr ⟨kk_Pl_42, List.forall_mem_cons.mpr ⟨kk_Pl_46, List.forall_mem_cons.mpr ⟨kk_Pl_49, List.forall_mem_cons.mpr ⟨kk_Pl_56, List.forall_mem_cons.mpr ⟨kk_Pl_63, fun _ h => absurd h List.not_mem_nil⟩⟩⟩⟩⟩, mm_nold (by decide +kernel)⟩
theorem mo_73 : mm_ok gd ms_nm ms_by ms_mx cs_L ms_Y 73 := ⟨by decide +kernel, by decide +kernel, List.forall_mem_cons.mpr ⟨gk_Pl_11, fun _ h => absurd h List.not_mem_nil⟩, List.forall_mem_cons.mpr ⟨qk_Pl_32, fun _ h => absurd h List.not_mem_nil⟩, fun _ h => absurd h List.not_mem_nil, mm_nold (by decide +kernel)⟩
theorem gk_Pl_28 : mm_gok cs_L gd "HouseDesk$Places" 28 8 5 := ⟨_, _, _, rfl, by decide, cw_8, (tm_2 18 rfl rfl)⟩
theorem gk_Pl_67 : mm_gok cs_L gd "HouseDesk$Places" 67 7 0 := ⟨_, _, _, rfl, by decide, cw_7, (tm_1 206 rfl rfl)⟩
theorem mo_74 : mm_ok gd ms_nm ms_by ms_mx cs_L ms_Y 74 := ⟨by decide +kernel, by decide +kernel, List.forall_mem_cons.mpr ⟨gk_Pl_28, List.forall_mem_cons.mpr ⟨gk_Pl_67, fun _ h => absurd h List.not_mem_nil⟩⟩, fun _ h => absurd h List.not_mem_nil, fun _ h => absurd h List.not_mem_nil, mm_nold (by decide +kernel)⟩
theorem kk_Pl_72 : mm_kok gd ms_nm ms_by ms_mx cs_L ms_Y "HouseDesk$Places" (72, 74, 1, 8) := ⟨by decide, ck_74, (tm_3 141 rfl rfl), (tm_1 9 rfl rfl), ⟨by decide, by decide, by decide +kernel⟩, fun h => absurd h (by decide), fun _ => ⟨(tm_3 143 rfl rfl), (ts_p 29 rfl rfl), _, _, rfl⟩⟩
theorem gk_Pl_76 : mm_gok cs_L gd "HouseDesk$Places" 76 1 5 := ⟨_, _, _, rfl, by decide, cw_1, (tm_1 53 rfl rfl)⟩
theorem gk_Pl_79 : mm_gok cs_L gd "HouseDesk$Places" 79 1 6 := ⟨_, _, _, rfl, by decide, cw_1, (tm_1 58 rfl rfl)⟩
theorem mo_75 : mm_ok gd ms_nm ms_by ms_mx cs_L ms_Y 75 := ⟨by decide +kernel, by decide +kernel, List.forall_mem_cons.mpr ⟨gk_Pl_28, List.forall_mem_cons.mpr ⟨gk_Pl_67, List.forall_mem_cons.mpr ⟨gk_Pl_20, List.forall_mem_cons.mpr ⟨gk_Pl_76, List.forall_mem_cons.mpr ⟨gk_Pl_79, List.forall_mem_cons.mpr ⟨gk_Pl_11, fun _ h => absurd h List.not_mem_nil⟩⟩⟩⟩⟩⟩, fun _ h => absurd h List.not_mem_nil, List.forall_mem_cons.mpr ⟨kk_Pl_72, List.forall_mem_cons.mpr ⟨kk_Pl_56, fun _ h => absurd h List.not_mem_nil⟩⟩, mm_nold (by decide +kernel)⟩
theorem kk_Pl_82 : mm_kok gd ms_nm ms_by ms_mx cs_L ms_Y "HouseDesk$Places" (82, 78, 1, 8) := ⟨by decide, ck_78, (tm_3 153 rfl rfl), (tm_1 9 rfl rfl), ⟨by decide, by decide, by decide +kernel⟩, fun h => absurd h (by decide), fun _ => ⟨(tm_3 154 rfl rfl), (tm_3 155 rfl rfl), _, _, rfl⟩⟩
theorem gk_Pl_85 : mm_gok cs_L gd "HouseDesk$Places" 85 1 7 := ⟨_, _, _, rfl, by decide, cw_1, (tm_1 61 rfl rfl)⟩
theorem mo_76 : mm_ok gd ms_nm ms_by ms_mx cs_L ms_Y 76 := ⟨by decide +kernel, by decide +kernel, List.forall_mem_cons.mpr ⟨gk_Pl_20, List.forall_mem_cons.mpr ⟨gk_Pl_85, List.forall_mem_cons.mpr ⟨gk_Pl_76, List.forall_mem_cons.mpr ⟨gk_Pl_79, fun _ h => absurd h List.not_mem_nil⟩⟩⟩⟩, fun _ h => absurd h List.not_mem_nil, List.forall_mem_cons.mpr ⟨kk_Pl_72, List.forall_mem_cons.mpr ⟨kk_Pl_82, List.forall_mem_cons.mpr ⟨kk_Pl_56, fun _ h => absurd h List.not_mem_nil⟩⟩⟩, mm_nold (by decide +kernel)⟩
theorem gk_Pl_24 : mm_gok cs_L gd "HouseDesk$Places" 24 8 4 := ⟨_, _, _, rfl, by decide, cw_8, (tm_2 17 rfl rfl)⟩
theorem kk_Pl_88 : mm_kok gd ms_nm ms_by ms_mx cs_L ms_Y "HouseDesk$Places" (88, 53, 2, 6) := ⟨by decide, ck_53, (tm_3 163 rfl rfl), (tm_1 7 rfl rfl), ⟨by decide, by decide, by decide +kernel⟩, fun h => absurd h (by decide), fun _ => ⟨(tm_3 74 rfl rfl), (tm_3 75 rfl rfl), _, _, rfl⟩⟩
theorem kk_Pl_94 : mm_kok gd ms_nm ms_by ms_mx cs_L ms_Y "HouseDesk$Places" (94, 151, 2, 99) := ⟨by decide, ck_151, (tm_3 157 rfl rfl), (tm_1 18 rfl rfl), ⟨by decide, by decide, by decide +kernel⟩, fun _ => (tm_2 149 rfl rfl), fun h => absurd rfl h⟩
theorem gk_Pl_16 : mm_gok cs_L gd "HouseDesk$Places" 16 8 1 := ⟨_, _, _, rfl, by decide, cw_8, (tm_2 13 rfl rfl)⟩
theorem mo_77 : mm_ok gd ms_nm ms_by ms_mx cs_L ms_Y 77 := ⟨by decide +kernel, by decide +kernel, List.forall_mem_cons.mpr ⟨gk_Pl_24, List.forall_mem_cons.mpr ⟨gk_Pl_11, List.forall_mem_cons.mpr ⟨gk_Pl_16, fun _ h => absurd h List.not_mem_nil⟩⟩⟩, fun _ h => absurd h List.not_mem_nil, List.forall_mem_cons.mpr ⟨kk_Pl_88, List.forall_mem_cons.mpr ⟨kk_Pl_94, List.forall_mem_cons.mpr ⟨kk_Pl_56, fun _ h => absurd h List.not_mem_nil⟩⟩⟩, mm_nold (by decide +kernel)⟩
theorem mo_78 : mm_ok gd ms_nm ms_by ms_mx cs_L ms_Y 78 := ⟨by decide +kernel, by decide +kernel, List.forall_mem_cons.mpr ⟨gk_Pl_11, List.forall_mem_cons.mpr ⟨gk_Pl_20, List.forall_mem_cons.mpr ⟨gk_Pl_76, List.forall_mem_cons.mpr ⟨gk_Pl_79, fun _ h => absurd h List.not_mem_nil⟩⟩⟩⟩, fun _ h => absurd h List.not_mem_nil, List.forall_mem_cons.mpr ⟨kk_Pl_72, List.forall_mem_cons.mpr ⟨kk_Pl_94, fun _ h => absurd h List.not_mem_nil⟩⟩, mm_nold (by decide +kernel)⟩
theorem kk_Pl_100 : mm_kok gd ms_nm ms_by ms_mx cs_L ms_Y "HouseDesk$Places" (100, 152, 2, 99) := ⟨by decide, ck_152, (tm_4 147 rfl rfl), (tm_1 18 rfl rfl), ⟨by decide, by decide, by decide +kernel⟩, fun _ => (tm_2 146 rfl rfl), fun h => absurd rfl h⟩
theorem mo_79 : mm_ok gd ms_nm ms_by ms_mx cs_L ms_Y 79 := ⟨by decide +kernel, by decide +kernel, List.forall_mem_cons.mpr ⟨gk_Pl_11, List.forall_mem_cons.mpr ⟨gk_Pl_20, List.forall_mem_cons.mpr ⟨gk_Pl_76, List.forall_mem_cons.mpr ⟨gk_Pl_79, fun _ h => absurd h List.not_mem_nil⟩⟩⟩⟩, fun _ h => absurd h List.not_mem_nil, List.forall_mem_cons.mpr ⟨kk_Pl_72, List.forall_mem_cons.mpr ⟨kk_Pl_100, fun _ h => absurd h List.not_mem_nil⟩⟩, mm_nold (by decide +kernel)⟩
theorem mo_80 : mm_ok gd ms_nm ms_by ms_mx cs_L ms_Y 80 := ⟨by decide +kernel, by decide +kernel, List.forall_mem_cons.mpr ⟨gk_Pl_11, fun _ h => absurd h List.not_mem_nil⟩, fun _ h => absurd h List.not_mem_nil, fun _ h => absurd h List.not_mem_nil, mm_nold (by decide +kernel)⟩
theorem kk_Wy_22 : mm_kok gd ms_nm ms_by ms_mx cs_L ms_Y "HouseDesk$Way" (22, 82, 1, 9) := ⟨by decide, ck_82, (tm_4 173 rfl rfl), (tm_1 10 rfl rfl), ⟨by decide, by decide, by decide +kernel⟩, fun h => absurd h (by decide), fun _ => ⟨(tm_4 175 rfl rfl), (ts_p 35 rfl rfl), _, _, rfl⟩⟩
theorem gk_Wy_15 : mm_gok cs_L gd "HouseDesk$Way" 15 9 2 := ⟨_, _, _, rfl, by decide, cw_9, (tm_2 74 rfl rfl)⟩
theorem qk_Wy_26 : mm_pok ms_Y cs_L gd "HouseDesk$Way" 26 9 1 := ⟨_, _, _, cy_9, rfl, by decide, cw_9, (tm_2 73 rfl rfl), ct_9, cn_9, rfl, by decide +kernel⟩
theorem gk_Wy_26 : mm_gok cs_L gd "HouseDesk$Way" 26 9 1 := ⟨_, _, _, rfl, by decide, cw_9, (tm_2 73 rfl rfl)⟩
theorem gk_Wy_9 : mm_gok cs_L gd "HouseDesk$Way" 9 9 0 := ⟨_, _, _, rfl, by decide, cw_9, (tm_2 72 rfl rfl)⟩
theorem kk_Wy_30 : mm_kok gd ms_nm ms_by ms_mx cs_L ms_Y "HouseDesk$Way" (30, 84, 1, 9) := ⟨by decide, ck_84, (tm_4 182 rfl rfl), (tm_1 10 rfl rfl), ⟨by decide, by decide, by decide +kernel⟩, fun h => absurd h (by decide), fun _ => ⟨(tm_4 184 rfl rfl), (ts_p 37 rfl rfl), _, _, rfl⟩⟩
theorem mo_81 : mm_ok gd ms_nm ms_by ms_mx cs_L ms_Y 81 := ⟨by decide +kernel, by decide +kernel, List.forall_mem_cons.mpr ⟨gk_Wy_15, List.forall_mem_cons.mpr ⟨gk_Wy_26, List.forall_mem_cons.mpr ⟨gk_Wy_9, fun _ h => absurd h List.not_mem_nil⟩⟩⟩, List.forall_mem_cons.mpr ⟨qk_Wy_26, fun _ h => absurd h List.not_mem_nil⟩, List.forall_mem_cons.mpr ⟨kk_Wy_22, List.forall_mem_cons.mpr ⟨kk_Wy_30, fun _ h => absurd h List.not_mem_nil⟩⟩, mm_nold (by decide +kernel)⟩
theorem kk_Wy_34 : mm_kok gd ms_nm ms_by ms_mx cs_L ms_Y "HouseDesk$Way" (34, 83, 1, 9) := ⟨by decide, ck_83, (tm_4 177 rfl rfl), (tm_1 10 rfl rfl), ⟨by decide, by decide, by decide +kernel⟩, fun h => absurd h (by decide), fun _ => ⟨(tm_4 179 rfl rfl), (ts_p 36 rfl rfl), _, _, rfl⟩⟩
theorem mo_82 : mm_ok gd ms_nm ms_by ms_mx cs_L ms_Y 82 := ⟨by decide +kernel, by decide +kernel, List.forall_mem_cons.mpr ⟨gk_Wy_15, fun _ h => absurd h List.not_mem_nil⟩, fun _ h => absurd h List.not_mem_nil, List.forall_mem_cons.mpr ⟨kk_Wy_34, fun _ h => absurd h List.not_mem_nil⟩, mm_nold (by decide +kernel)⟩
theorem gk_Wy_18 : mm_gok cs_L gd "HouseDesk$Way" 18 9 3 := ⟨_, _, _, rfl, by decide, cw_9, (tm_2 75 rfl rfl)⟩
theorem kk_Wy_37 : mm_kok gd ms_nm ms_by ms_mx cs_L ms_Y "HouseDesk$Way" (37, 10, 2, 1) := ⟨by decide, ck_10, (tm_4 181 rfl rfl), (tm_1 2 rfl rfl), ⟨by decide, by decide, by decide +kernel⟩, fun h => absurd h (by decide), fun _ => ⟨(tm_2 196 rfl rfl), (tm_2 197 rfl rfl), _, _, rfl⟩⟩
theorem mo_83 : mm_ok gd ms_nm ms_by ms_mx cs_L ms_Y 83 := ⟨by decide +kernel, by decide +kernel, List.forall_mem_cons.mpr ⟨gk_Wy_18, List.forall_mem_cons.mpr ⟨gk_Wy_15, fun _ h => absurd h List.not_mem_nil⟩⟩, fun _ h => absurd h List.not_mem_nil, List.forall_mem_cons.mpr ⟨kk_Wy_37, fun _ h => absurd h List.not_mem_nil⟩, mm_nold (by decide +kernel)⟩
theorem mo_84 : mm_ok gd ms_nm ms_by ms_mx cs_L ms_Y 84 := ⟨by decide +kernel, by decide +kernel, List.forall_mem_cons.mpr ⟨gk_Wy_18, List.forall_mem_cons.mpr ⟨gk_Wy_15, fun _ h => absurd h List.not_mem_nil⟩⟩, fun _ h => absurd h List.not_mem_nil, List.forall_mem_cons.mpr ⟨kk_Wy_37, fun _ h => absurd h List.not_mem_nil⟩, mm_nold (by decide +kernel)⟩
theorem mo_85 : mm_ok gd ms_nm ms_by ms_mx cs_L ms_Y 85 := ⟨by decide +kernel, by decide +kernel, List.forall_mem_cons.mpr ⟨gk_Wy_26, List.forall_mem_cons.mpr ⟨gk_Wy_9, fun _ h => absurd h List.not_mem_nil⟩⟩, fun _ h => absurd h List.not_mem_nil, fun _ h => absurd h List.not_mem_nil, mm_nold (by decide +kernel)⟩
theorem gk_Mo_111 : mm_gok cs_L gd "HouseDeskModel" 111 10 0 := ⟨_, _, _, rfl, by decide, cw_10, (tm_4 192 rfl rfl)⟩
theorem mo_86 : mm_ok gd ms_nm ms_by ms_mx cs_L ms_Y 86 := ⟨by decide +kernel, by decide +kernel, List.forall_mem_cons.mpr ⟨gk_Mo_111, fun _ h => absurd h List.not_mem_nil⟩, fun _ h => absurd h List.not_mem_nil, fun _ h => absurd h List.not_mem_nil, mm_nold (by decide +kernel)⟩
theorem mo_87 : mm_ok gd ms_nm ms_by ms_mx cs_L ms_Y 87 := ⟨by decide +kernel, by decide +kernel, fun _ h => absurd h List.not_mem_nil, fun _ h => absurd h List.not_mem_nil, fun _ h => absurd h List.not_mem_nil, mm_nold (by decide +kernel)⟩
theorem kk_Mo_114 : mm_kok gd ms_nm ms_by ms_mx cs_L ms_Y "HouseDeskModel" (114, 87, 3, 99) := ⟨by decide, ck_87, (tm_5 100 rfl rfl), (tm_1 11 rfl rfl), ⟨by decide, by decide, by decide +kernel⟩, fun _ => (tm_5 101 rfl rfl), fun h => absurd rfl h⟩
theorem gk_Mo_7 : mm_gok cs_L gd "HouseDeskModel" 7 10 1 := ⟨_, _, _, rfl, by decide, cw_10, (tm_4 193 rfl rfl)⟩
theorem mo_88 : mm_ok gd ms_nm ms_by ms_mx cs_L ms_Y 88 := ⟨by decide +kernel, by decide +kernel, List.forall_mem_cons.mpr ⟨gk_Mo_7, fun _ h => absurd h List.not_mem_nil⟩, fun _ h => absurd h List.not_mem_nil, List.forall_mem_cons.mpr ⟨kk_Mo_114, fun _ h => absurd h List.not_mem_nil⟩, mm_nold (by decide +kernel)⟩
theorem gk_Mo_13 : mm_gok cs_L gd "HouseDeskModel" 13 10 2 := ⟨_, _, _, rfl, by decide, cw_10, (tm_4 194 rfl rfl)⟩
theorem gk_Mo_17 : mm_gok cs_L gd "HouseDeskModel" 17 10 3 := ⟨_, _, _, rfl, by decide, cw_10, (tm_4 195 rfl rfl)⟩
theorem qk_Mo_111 : mm_pok ms_Y cs_L gd "HouseDeskModel" 111 10 0 := ⟨_, _, _, cy_10, rfl, by decide, cw_10, (tm_4 192 rfl rfl), ct_10, cn_10, rfl, by decide +kernel⟩
theorem qk_Mo_118 : mm_pok ms_Y cs_L gd "HouseDeskModel" 118 10 12 := ⟨_, _, _, cy_10, rfl, by decide, cw_10, (tm_4 204 rfl rfl), ct_10, cn_10, rfl, by decide +kernel⟩
theorem mo_89 : mm_ok gd ms_nm ms_by ms_mx cs_L ms_Y 89 := ⟨by decide +kernel, by decide +kernel, List.forall_mem_cons.mpr ⟨gk_Mo_7, List.forall_mem_cons.mpr ⟨gk_Mo_13, List.forall_mem_cons.mpr ⟨gk_Mo_17, List.forall_mem_cons.mpr ⟨gk_Mo_111, fun _ h => absurd h List.not_mem_nil⟩⟩⟩⟩, List.forall_mem_cons.mpr ⟨qk_Mo_111, List.forall_mem_cons.mpr ⟨qk_Mo_118, fun _ h => absurd h List.not_mem_nil⟩⟩, List.forall_mem_cons.mpr ⟨kk_Mo_114, fun _ h => absurd h List.not_mem_nil⟩, mm_nold (by decide +kernel)⟩
theorem gk_Mo_122 : mm_gok cs_L gd "HouseDeskModel" 122 10 6 := ⟨_, _, _, rfl, by decide, cw_10, (tm_4 198 rfl rfl)⟩
theorem gk_Mo_26 : mm_gok cs_L gd "HouseDeskModel" 26 10 7 := ⟨_, _, _, rfl, by decide, cw_10, (tm_4 199 rfl rfl)⟩
theorem gk_Mo_29 : mm_gok cs_L gd "HouseDeskModel" 29 10 8 := ⟨_, _, _, rfl, by decide, cw_10, (tm_4 200 rfl rfl)⟩
theorem mo_90 : mm_ok gd ms_nm ms_by ms_mx cs_L ms_Y 90 := ⟨by decide +kernel, by decide +kernel, List.forall_mem_cons.mpr ⟨gk_Mo_122, List.forall_mem_cons.mpr ⟨gk_Mo_26, List.forall_mem_cons.mpr ⟨gk_Mo_29, fun _ h => absurd h List.not_mem_nil⟩⟩⟩, fun _ h => absurd h List.not_mem_nil, fun _ h => absurd h List.not_mem_nil, mm_nold (by decide +kernel)⟩
theorem kk_Mo_125 : mm_kok gd ms_nm ms_by ms_mx cs_L ms_Y "HouseDeskModel" (125, 88, 1, 10) := ⟨by decide, ck_88, (tm_5 107 rfl rfl), (tm_1 11 rfl rfl), ⟨by decide, by decide, by decide +kernel⟩, fun h => absurd h (by decide), fun _ => ⟨(tm_5 109 rfl rfl), (ts_p 38 rfl rfl), _, _, rfl⟩⟩
theorem kk_Mo_129 : mm_kok gd ms_nm ms_by ms_mx cs_L ms_Y "HouseDeskModel" (129, 90, 2, 10) := ⟨by decide, ck_90, (tm_5 111 rfl rfl), (tm_1 11 rfl rfl), ⟨by decide, by decide, by decide +kernel⟩, fun h => absurd h (by decide), fun _ => ⟨(tm_5 113 rfl rfl), (ts_p 39 rfl rfl), _, _, rfl⟩⟩
theorem gk_Mo_32 : mm_gok cs_L gd "HouseDeskModel" 32 10 9 := ⟨_, _, _, rfl, by decide, cw_10, (tm_4 201 rfl rfl)⟩
theorem qk_Mo_122 : mm_pok ms_Y cs_L gd "HouseDeskModel" 122 10 6 := ⟨_, _, _, cy_10, rfl, by decide, cw_10, (tm_4 198 rfl rfl), ct_10, cn_10, rfl, by decide +kernel⟩
theorem mo_91 : mm_ok gd ms_nm ms_by ms_mx cs_L ms_Y 91 := ⟨by decide +kernel, by decide +kernel, List.forall_mem_cons.mpr ⟨gk_Mo_122, List.forall_mem_cons.mpr ⟨gk_Mo_111, List.forall_mem_cons.mpr ⟨gk_Mo_26, List.forall_mem_cons.mpr ⟨gk_Mo_29, List.forall_mem_cons.mpr ⟨gk_Mo_32, fun _ h => absurd h List.not_mem_nil⟩⟩⟩⟩⟩, List.forall_mem_cons.mpr ⟨qk_Mo_111, List.forall_mem_cons.mpr ⟨qk_Mo_122, List.forall_mem_cons.mpr ⟨qk_Mo_118, fun _ h => absurd h List.not_mem_nil⟩⟩⟩, List.forall_mem_cons.mpr ⟨kk_Mo_125, List.forall_mem_cons.mpr ⟨kk_Mo_129, fun _ h => absurd h List.not_mem_nil⟩⟩, mm_nold (by decide +kernel)⟩
theorem gk_Mo_35 : mm_gok cs_L gd "HouseDeskModel" 35 10 11 := ⟨_, _, _, rfl, by decide, cw_10, (tm_4 203 rfl rfl)⟩
theorem qk_Mo_133 : mm_pok ms_Y cs_L gd "HouseDeskModel" 133 10 10 := ⟨_, _, _, cy_10, rfl, by decide, cw_10, (tm_4 202 rfl rfl), ct_10, cn_10, rfl, by decide +kernel⟩
theorem mo_92 : mm_ok gd ms_nm ms_by ms_mx cs_L ms_Y 92 := ⟨by decide +kernel, by decide +kernel, List.forall_mem_cons.mpr ⟨gk_Mo_111, List.forall_mem_cons.mpr ⟨gk_Mo_35, fun _ h => absurd h List.not_mem_nil⟩⟩, List.forall_mem_cons.mpr ⟨qk_Mo_111, List.forall_mem_cons.mpr ⟨qk_Mo_133, List.forall_mem_cons.mpr ⟨qk_Mo_118, fun _ h => absurd h List.not_mem_nil⟩⟩⟩, List.forall_mem_cons.mpr ⟨kk_Mo_125, fun _ h => absurd h List.not_mem_nil⟩, mm_nold (by decide +kernel)⟩
theorem gk_Mo_20 : mm_gok cs_L gd "HouseDeskModel" 20 10 4 := ⟨_, _, _, rfl, by decide, cw_10, (tm_4 196 rfl rfl)⟩
theorem gk_Mo_23 : mm_gok cs_L gd "HouseDeskModel" 23 10 5 := ⟨_, _, _, rfl, by decide, cw_10, (tm_4 197 rfl rfl)⟩
theorem mo_93 : mm_ok gd ms_nm ms_by ms_mx cs_L ms_Y 93 := ⟨by decide +kernel, by decide +kernel, List.forall_mem_cons.mpr ⟨gk_Mo_111, List.forall_mem_cons.mpr ⟨gk_Mo_20, List.forall_mem_cons.mpr ⟨gk_Mo_23, fun _ h => absurd h List.not_mem_nil⟩⟩⟩, List.forall_mem_cons.mpr ⟨qk_Mo_111, List.forall_mem_cons.mpr ⟨qk_Mo_118, fun _ h => absurd h List.not_mem_nil⟩⟩, List.forall_mem_cons.mpr ⟨kk_Mo_125, List.forall_mem_cons.mpr ⟨kk_Mo_114, fun _ h => absurd h List.not_mem_nil⟩⟩, mm_nold (by decide +kernel)⟩
theorem mo_94 : mm_ok gd ms_nm ms_by ms_mx cs_L ms_Y 94 := ⟨by decide +kernel, by decide +kernel, List.forall_mem_cons.mpr ⟨gk_Mo_122, List.forall_mem_cons.mpr ⟨gk_Mo_111, List.forall_mem_cons.mpr ⟨gk_Mo_32, fun _ h => absurd h List.not_mem_nil⟩⟩⟩, List.forall_mem_cons.mpr ⟨qk_Mo_111, List.forall_mem_cons.mpr ⟨qk_Mo_118, fun _ h => absurd h List.not_mem_nil⟩⟩, List.forall_mem_cons.mpr ⟨kk_Mo_114, fun _ h => absurd h List.not_mem_nil⟩, mm_nold (by decide +kernel)⟩
theorem mo_95 : mm_ok gd ms_nm ms_by ms_mx cs_L ms_Y 95 := ⟨by decide +kernel, by decide +kernel, List.forall_mem_cons.mpr ⟨gk_Mo_7, List.forall_mem_cons.mpr ⟨gk_Mo_20, List.forall_mem_cons.mpr ⟨gk_Mo_23, fun _ h => absurd h List.not_mem_nil⟩⟩⟩, List.forall_mem_cons.mpr ⟨qk_Mo_111, List.forall_mem_cons.mpr ⟨qk_Mo_122, List.forall_mem_cons.mpr ⟨qk_Mo_133, List.forall_mem_cons.mpr ⟨qk_Mo_118, fun _ h => absurd h List.not_mem_nil⟩⟩⟩⟩, fun _ h => absurd h List.not_mem_nil, mm_nold (by decide +kernel)⟩
theorem mo_96 : mm_ok gd ms_nm ms_by ms_mx cs_L ms_Y 96 := ⟨by decide +kernel, by decide +kernel, fun _ h => absurd h List.not_mem_nil, fun _ h => absurd h List.not_mem_nil, fun _ h => absurd h List.not_mem_nil, mm_nold (by decide +kernel)⟩
theorem kk_Mo_136 : mm_kok gd ms_nm ms_by ms_mx cs_L ms_Y "HouseDeskModel" (136, 96, 6, 99) := ⟨by decide, ck_96, (tm_5 147 rfl rfl), (tm_1 11 rfl rfl), ⟨by decide, by decide, by decide +kernel⟩, fun _ => (tm_5 148 rfl rfl), fun h => absurd rfl h⟩
theorem mo_97 : mm_ok gd ms_nm ms_by ms_mx cs_L ms_Y 97 := ⟨by decide +kernel, by decide +kernel, List.forall_mem_cons.mpr ⟨gk_Mo_26, List.forall_mem_cons.mpr ⟨gk_Mo_29, List.forall_mem_cons.mpr ⟨gk_Mo_13, List.forall_mem_cons.mpr ⟨gk_Mo_17, fun _ h => absurd h List.not_mem_nil⟩⟩⟩⟩, fun _ h => absurd h List.not_mem_nil, List.forall_mem_cons.mpr ⟨kk_Mo_136, List.forall_mem_cons.mpr ⟨kk_Mo_114, fun _ h => absurd h List.not_mem_nil⟩⟩, mm_nold (by decide +kernel)⟩
theorem kk_Mo_140 : mm_kok gd ms_nm ms_by ms_mx cs_L ms_Y "HouseDeskModel" (140, 97, 2, 10) := ⟨by decide, ck_97, (tm_5 143 rfl rfl), (tm_1 11 rfl rfl), ⟨by decide, by decide, by decide +kernel⟩, fun h => absurd h (by decide), fun _ => ⟨(tm_5 145 rfl rfl), (ts_p 42 rfl rfl), _, _, rfl⟩⟩
theorem mo_98 : mm_ok gd ms_nm ms_by ms_mx cs_L ms_Y 98 := ⟨by decide +kernel, by decide +kernel, List.forall_mem_cons.mpr ⟨gk_Mo_26, List.forall_mem_cons.mpr ⟨gk_Mo_29, List.forall_mem_cons.mpr ⟨gk_Mo_13, List.forall_mem_cons.mpr ⟨gk_Mo_17, fun _ h => absurd h List.not_mem_nil⟩⟩⟩⟩, fun _ h => absurd h List.not_mem_nil, List.forall_mem_cons.mpr ⟨kk_Mo_140, List.forall_mem_cons.mpr ⟨kk_Mo_136, fun _ h => absurd h List.not_mem_nil⟩⟩, mm_nold (by decide +kernel)⟩
theorem kk_Mo_144 : mm_kok gd ms_nm ms_by ms_mx cs_L ms_Y "HouseDeskModel" (144, 98, 2, 10) := ⟨by decide, ck_98, (tm_5 139 rfl rfl), (tm_1 11 rfl rfl), ⟨by decide, by decide, by decide +kernel⟩, fun h => absurd h (by decide), fun _ => ⟨(tm_5 141 rfl rfl), (ts_p 41 rfl rfl), _, _, rfl⟩⟩
theorem kk_Mo_147 : mm_kok gd ms_nm ms_by ms_mx cs_L ms_Y "HouseDeskModel" (147, 100, 4, 10) := ⟨by decide, ck_100, (tm_5 150 rfl rfl), (tm_1 11 rfl rfl), ⟨by decide, by decide, by decide +kernel⟩, fun h => absurd h (by decide), fun _ => ⟨(tm_5 152 rfl rfl), (ts_p 43 rfl rfl), _, _, rfl⟩⟩
theorem mo_99 : mm_ok gd ms_nm ms_by ms_mx cs_L ms_Y 99 := ⟨by decide +kernel, by decide +kernel, List.forall_mem_cons.mpr ⟨gk_Mo_122, List.forall_mem_cons.mpr ⟨gk_Mo_7, fun _ h => absurd h List.not_mem_nil⟩⟩, fun _ h => absurd h List.not_mem_nil, List.forall_mem_cons.mpr ⟨kk_Mo_144, List.forall_mem_cons.mpr ⟨kk_Mo_147, List.forall_mem_cons.mpr ⟨kk_Mo_140, fun _ h => absurd h List.not_mem_nil⟩⟩⟩, mm_nold (by decide +kernel)⟩
theorem qk_Mo_38 : mm_pok ms_Y cs_L gd "HouseDeskModel" 38 10 13 := ⟨_, _, _, cy_10, rfl, by decide, cw_10, (tm_4 205 rfl rfl), ct_10, cn_10, rfl, by decide +kernel⟩
theorem gk_Mo_42 : mm_gok cs_L gd "HouseDeskModel" 42 10 14 := ⟨_, _, _, rfl, by decide, cw_10, (tm_4 206 rfl rfl)⟩
theorem mo_100 : mm_ok gd ms_nm ms_by ms_mx cs_L ms_Y 100 := ⟨by decide +kernel, by decide +kernel, List.forall_mem_cons.mpr ⟨gk_Mo_42, fun _ h => absurd h List.not_mem_nil⟩, List.forall_mem_cons.mpr ⟨qk_Mo_38, fun _ h => absurd h List.not_mem_nil⟩, fun _ h => absurd h List.not_mem_nil, mm_nold (by decide +kernel)⟩
theorem mo_101 : mm_ok gd ms_nm ms_by ms_mx cs_L ms_Y 101 := ⟨by decide +kernel, by decide +kernel, List.forall_mem_cons.mpr ⟨gk_Mo_26, List.forall_mem_cons.mpr ⟨gk_Mo_29, fun _ h => absurd h List.not_mem_nil⟩⟩, fun _ h => absurd h List.not_mem_nil, fun _ h => absurd h List.not_mem_nil, mm_nold (by decide +kernel)⟩
theorem mo_102 : mm_ok gd ms_nm ms_by ms_mx cs_L ms_Y 102 := ⟨by decide +kernel, by decide +kernel, fun _ h => absurd h List.not_mem_nil, fun _ h => absurd h List.not_mem_nil, fun _ h => absurd h List.not_mem_nil, mm_nold (by decide +kernel)⟩
theorem kk_Mo_151 : mm_kok gd ms_nm ms_by ms_mx cs_L ms_Y "HouseDeskModel" (151, 101, 2, 10) := ⟨by decide, ck_101, (tm_5 166 rfl rfl), (tm_1 11 rfl rfl), ⟨by decide, by decide, by decide +kernel⟩, fun h => absurd h (by decide), fun _ => ⟨(tm_5 168 rfl rfl), (ts_p 47 rfl rfl), _, _, rfl⟩⟩
theorem kk_Mo_154 : mm_kok gd ms_nm ms_by ms_mx cs_L ms_Y "HouseDeskModel" (154, 102, 2, 99) := ⟨by decide, ck_102, (tm_5 170 rfl rfl), (tm_1 11 rfl rfl), ⟨by decide, by decide, by decide +kernel⟩, fun _ => (tm_5 171 rfl rfl), fun h => absurd rfl h⟩
theorem mo_103 : mm_ok gd ms_nm ms_by ms_mx cs_L ms_Y 103 := ⟨by decide +kernel, by decide +kernel, List.forall_mem_cons.mpr ⟨gk_Mo_13, List.forall_mem_cons.mpr ⟨gk_Mo_17, fun _ h => absurd h List.not_mem_nil⟩⟩, fun _ h => absurd h List.not_mem_nil, List.forall_mem_cons.mpr ⟨kk_Mo_151, List.forall_mem_cons.mpr ⟨kk_Mo_154, fun _ h => absurd h List.not_mem_nil⟩⟩, mm_nold (by decide +kernel)⟩
theorem gk_Mo_51 : mm_gok cs_L gd "HouseDeskModel" 51 10 20 := ⟨_, _, _, rfl, by decide, cw_10, (tm_4 212 rfl rfl)⟩
theorem gk_Mo_54 : mm_gok cs_L gd "HouseDeskModel" 54 10 21 := ⟨_, _, _, rfl, by decide, cw_10, (tm_4 213 rfl rfl)⟩
theorem kk_Mo_157 : mm_kok gd ms_nm ms_by ms_mx cs_L ms_Y "HouseDeskModel" (157, 103, 3, 10) := ⟨by decide, ck_103, (tm_5 162 rfl rfl), (tm_1 11 rfl rfl), ⟨by decide, by decide, by decide +kernel⟩, fun h => absurd h (by decide), fun _ => ⟨(tm_5 164 rfl rfl), (ts_p 46 rfl rfl), _, _, rfl⟩⟩
theorem mo_104 : mm_ok gd ms_nm ms_by ms_mx cs_L ms_Y 104 := ⟨by decide +kernel, by decide +kernel, List.forall_mem_cons.mpr ⟨gk_Mo_51, List.forall_mem_cons.mpr ⟨gk_Mo_122, List.forall_mem_cons.mpr ⟨gk_Mo_7, List.forall_mem_cons.mpr ⟨gk_Mo_26, List.forall_mem_cons.mpr ⟨gk_Mo_29, List.forall_mem_cons.mpr ⟨gk_Mo_54, fun _ h => absurd h List.not_mem_nil⟩⟩⟩⟩⟩⟩, fun _ h => absurd h List.not_mem_nil, List.forall_mem_cons.mpr ⟨kk_Mo_157, fun _ h => absurd h List.not_mem_nil⟩, mm_nold (by decide +kernel)⟩
theorem mo_105 : mm_ok gd ms_nm ms_by ms_mx cs_L ms_Y 105 := ⟨by decide +kernel, by decide +kernel, List.forall_mem_cons.mpr ⟨gk_Mo_54, List.forall_mem_cons.mpr ⟨gk_Mo_51, fun _ h => absurd h List.not_mem_nil⟩⟩, fun _ h => absurd h List.not_mem_nil, fun _ h => absurd h List.not_mem_nil, mm_nold (by decide +kernel)⟩
theorem mo_106 : mm_ok gd ms_nm ms_by ms_mx cs_L ms_Y 106 := ⟨by decide +kernel, by decide +kernel, List.forall_mem_cons.mpr ⟨gk_Mo_26, fun _ h => absurd h List.not_mem_nil⟩, fun _ h => absurd h List.not_mem_nil, fun _ h => absurd h List.not_mem_nil, mm_nold (by decide +kernel)⟩
theorem mo_107 : mm_ok gd ms_nm ms_by ms_mx cs_L ms_Y 107 := ⟨by decide +kernel, by decide +kernel, List.forall_mem_cons.mpr ⟨gk_Mo_7, List.forall_mem_cons.mpr ⟨gk_Mo_122, List.forall_mem_cons.mpr ⟨gk_Mo_26, List.forall_mem_cons.mpr ⟨gk_Mo_29, fun _ h => absurd h List.not_mem_nil⟩⟩⟩⟩, fun _ h => absurd h List.not_mem_nil, fun _ h => absurd h List.not_mem_nil, mm_nold (by decide +kernel)⟩
theorem mo_108 : mm_ok gd ms_nm ms_by ms_mx cs_L ms_Y 108 := ⟨by decide +kernel, by decide +kernel, List.forall_mem_cons.mpr ⟨gk_Mo_7, fun _ h => absurd h List.not_mem_nil⟩, fun _ h => absurd h List.not_mem_nil, fun _ h => absurd h List.not_mem_nil, mm_nold (by decide +kernel)⟩
theorem gk_Mo_87 : mm_gok cs_L gd "HouseDeskModel" 87 10 36 := ⟨_, _, _, rfl, by decide, cw_10, (tm_4 228 rfl rfl)⟩
theorem kk_Mo_160 : mm_kok gd ms_nm ms_by ms_mx cs_L ms_Y "HouseDeskModel" (160, 106, 2, 10) := ⟨by decide, ck_106, (tm_5 185 rfl rfl), (tm_1 11 rfl rfl), ⟨by decide, by decide, by decide +kernel⟩, fun h => absurd h (by decide), fun _ => ⟨(tm_5 187 rfl rfl), (ts_p 51 rfl rfl), _, _, rfl⟩⟩
theorem gk_Mo_45 : mm_gok cs_L gd "HouseDeskModel" 45 10 17 := ⟨_, _, _, rfl, by decide, cw_10, (tm_4 209 rfl rfl)⟩
theorem kk_Mo_163 : mm_kok gd ms_nm ms_by ms_mx cs_L ms_Y "HouseDeskModel" (163, 105, 2, 10) := ⟨by decide, ck_105, (tm_5 189 rfl rfl), (tm_1 11 rfl rfl), ⟨by decide, by decide, by decide +kernel⟩, fun h => absurd h (by decide), fun _ => ⟨(tm_5 191 rfl rfl), (ts_p 52 rfl rfl), _, _, rfl⟩⟩
theorem qk_Mo_166 : mm_pok ms_Y cs_L gd "HouseDeskModel" 166 10 15 := ⟨_, _, _, cy_10, rfl, by decide, cw_10, (tm_4 207 rfl rfl), ct_10, cn_10, rfl, by decide +kernel⟩
theorem mo_109 : mm_ok gd ms_nm ms_by ms_mx cs_L ms_Y 109 := ⟨by decide +kernel, by decide +kernel, List.forall_mem_cons.mpr ⟨gk_Mo_7, List.forall_mem_cons.mpr ⟨gk_Mo_13, List.forall_mem_cons.mpr ⟨gk_Mo_17, List.forall_mem_cons.mpr ⟨gk_Mo_87, List.forall_mem_cons.mpr ⟨gk_Mo_54, List.forall_mem_cons.mpr ⟨gk_Mo_45, fun _ h => absurd h List.not_mem_nil⟩⟩⟩⟩⟩⟩, List.forall_mem_cons.mpr ⟨qk_Mo_166, fun _ h => absurd h List.not_mem_nil⟩, List.forall_mem_cons.mpr ⟨kk_Mo_160, List.forall_mem_cons.mpr ⟨kk_Mo_151, List.forall_mem_cons.mpr ⟨kk_Mo_163, fun _ h => absurd h List.not_mem_nil⟩⟩⟩, mm_nold (by decide +kernel)⟩
theorem qk_Mo_169 : mm_pok ms_Y cs_L gd "HouseDeskModel" 169 10 19 := ⟨_, _, _, cy_10, rfl, by decide, cw_10, (tm_4 211 rfl rfl), ct_10, cn_10, rfl, by decide +kernel⟩
theorem gk_Mo_48 : mm_gok cs_L gd "HouseDeskModel" 48 10 18 := ⟨_, _, _, rfl, by decide, cw_10, (tm_4 210 rfl rfl)⟩
theorem gk_Mo_169 : mm_gok cs_L gd "HouseDeskModel" 169 10 19 := ⟨_, _, _, rfl, by decide, cw_10, (tm_4 211 rfl rfl)⟩
theorem mo_110 : mm_ok gd ms_nm ms_by ms_mx cs_L ms_Y 110 := ⟨by decide +kernel, by decide +kernel, List.forall_mem_cons.mpr ⟨gk_Mo_122, List.forall_mem_cons.mpr ⟨gk_Mo_87, List.forall_mem_cons.mpr ⟨gk_Mo_26, List.forall_mem_cons.mpr ⟨gk_Mo_29, List.forall_mem_cons.mpr ⟨gk_Mo_48, List.forall_mem_cons.mpr ⟨gk_Mo_169, fun _ h => absurd h List.not_mem_nil⟩⟩⟩⟩⟩⟩, List.forall_mem_cons.mpr ⟨qk_Mo_169, fun _ h => absurd h List.not_mem_nil⟩, List.forall_mem_cons.mpr ⟨kk_Mo_160, List.forall_mem_cons.mpr ⟨kk_Mo_151, List.forall_mem_cons.mpr ⟨kk_Mo_163, fun _ h => absurd h List.not_mem_nil⟩⟩⟩, mm_nold (by decide +kernel)⟩
theorem mo_111 : mm_ok gd ms_nm ms_by ms_mx cs_L ms_Y 111 := ⟨by decide +kernel, by decide +kernel, fun _ h => absurd h List.not_mem_nil, fun _ h => absurd h List.not_mem_nil, fun _ h => absurd h List.not_mem_nil, mm_nold (by decide +kernel)⟩
theorem mo_112 : mm_ok gd ms_nm ms_by ms_mx cs_L ms_Y 112 := ⟨by decide +kernel, by decide +kernel, fun _ h => absurd h List.not_mem_nil, fun _ h => absurd h List.not_mem_nil, fun _ h => absurd h List.not_mem_nil, mm_nold (by decide +kernel)⟩
theorem kk_Mo_172 : mm_kok gd ms_nm ms_by ms_mx cs_L ms_Y "HouseDeskModel" (172, 112, 2, 99) := ⟨by decide, ck_112, (tm_5 207 rfl rfl), (tm_1 11 rfl rfl), ⟨by decide, by decide, by decide +kernel⟩, fun _ => (tm_5 208 rfl rfl), fun h => absurd rfl h⟩
theorem mo_113 : mm_ok gd ms_nm ms_by ms_mx cs_L ms_Y 113 := ⟨by decide +kernel, by decide +kernel, fun _ h => absurd h List.not_mem_nil, fun _ h => absurd h List.not_mem_nil, List.forall_mem_cons.mpr ⟨kk_Mo_172, fun _ h => absurd h List.not_mem_nil⟩, mm_nold (by decide +kernel)⟩
theorem mo_114 : mm_ok gd ms_nm ms_by ms_mx cs_L ms_Y 114 := ⟨by decide +kernel, by decide +kernel, fun _ h => absurd h List.not_mem_nil, fun _ h => absurd h List.not_mem_nil, List.forall_mem_cons.mpr ⟨kk_Mo_172, List.forall_mem_cons.mpr ⟨kk_Mo_147, fun _ h => absurd h List.not_mem_nil⟩⟩, mm_nold (by decide +kernel)⟩
theorem kk_Mo_175 : mm_kok gd ms_nm ms_by ms_mx cs_L ms_Y "HouseDeskModel" (175, 111, 1, 99) := ⟨by decide, ck_111, (tm_5 201 rfl rfl), (tm_1 11 rfl rfl), ⟨by decide, by decide, by decide +kernel⟩, fun _ => (tm_5 202 rfl rfl), fun h => absurd rfl h⟩
theorem kk_Mo_179 : mm_kok gd ms_nm ms_by ms_mx cs_L ms_Y "HouseDeskModel" (179, 113, 2, 99) := ⟨by decide, ck_113, (tm_5 204 rfl rfl), (tm_1 11 rfl rfl), ⟨by decide, by decide, by decide +kernel⟩, fun _ => (tm_5 205 rfl rfl), fun h => absurd rfl h⟩
theorem kk_Mo_182 : mm_kok gd ms_nm ms_by ms_mx cs_L ms_Y "HouseDeskModel" (182, 114, 2, 10) := ⟨by decide, ck_114, (tm_5 210 rfl rfl), (tm_1 11 rfl rfl), ⟨by decide, by decide, by decide +kernel⟩, fun h => absurd h (by decide), fun _ => ⟨(tm_5 212 rfl rfl), (ts_p 55 rfl rfl), _, _, rfl⟩⟩
theorem mo_115 : mm_ok gd ms_nm ms_by ms_mx cs_L ms_Y 115 := ⟨by decide +kernel, by decide +kernel, List.forall_mem_cons.mpr ⟨gk_Mo_169, List.forall_mem_cons.mpr ⟨gk_Mo_48, fun _ h => absurd h List.not_mem_nil⟩⟩, fun _ h => absurd h List.not_mem_nil, List.forall_mem_cons.mpr ⟨kk_Mo_175, List.forall_mem_cons.mpr ⟨kk_Mo_179, List.forall_mem_cons.mpr ⟨kk_Mo_182, fun _ h => absurd h List.not_mem_nil⟩⟩⟩, mm_nold (by decide +kernel)⟩
theorem gk_Mo_166 : mm_gok cs_L gd "HouseDeskModel" 166 10 15 := ⟨_, _, _, rfl, by decide, cw_10, (tm_4 207 rfl rfl)⟩
theorem mo_116 : mm_ok gd ms_nm ms_by ms_mx cs_L ms_Y 116 := ⟨by decide +kernel, by decide +kernel, List.forall_mem_cons.mpr ⟨gk_Mo_166, List.forall_mem_cons.mpr ⟨gk_Mo_45, List.forall_mem_cons.mpr ⟨gk_Mo_35, fun _ h => absurd h List.not_mem_nil⟩⟩⟩, fun _ h => absurd h List.not_mem_nil, fun _ h => absurd h List.not_mem_nil, mm_nold (by decide +kernel)⟩
theorem gk_Mo_133 : mm_gok cs_L gd "HouseDeskModel" 133 10 10 := ⟨_, _, _, rfl, by decide, cw_10, (tm_4 202 rfl rfl)⟩
theorem kk_Mo_186 : mm_kok gd ms_nm ms_by ms_mx cs_L ms_Y "HouseDeskModel" (186, 116, 1, 10) := ⟨by decide, ck_116, (tm_5 218 rfl rfl), (tm_1 11 rfl rfl), ⟨by decide, by decide, by decide +kernel⟩, fun h => absurd h (by decide), fun _ => ⟨(tm_5 220 rfl rfl), (ts_p 57 rfl rfl), _, _, rfl⟩⟩
theorem gk_Mo_66 : mm_gok cs_L gd "HouseDeskModel" 66 10 25 := ⟨_, _, _, rfl, by decide, cw_10, (tm_4 217 rfl rfl)⟩
theorem gk_Mo_69 : mm_gok cs_L gd "HouseDeskModel" 69 10 26 := ⟨_, _, _, rfl, by decide, cw_10, (tm_4 218 rfl rfl)⟩
theorem mo_117 : mm_ok gd ms_nm ms_by ms_mx cs_L ms_Y 117 := ⟨by decide +kernel, by decide +kernel, List.forall_mem_cons.mpr ⟨gk_Mo_133, List.forall_mem_cons.mpr ⟨gk_Mo_35, List.forall_mem_cons.mpr ⟨gk_Mo_166, List.forall_mem_cons.mpr ⟨gk_Mo_66, List.forall_mem_cons.mpr ⟨gk_Mo_69, fun _ h => absurd h List.not_mem_nil⟩⟩⟩⟩⟩, fun _ h => absurd h List.not_mem_nil, List.forall_mem_cons.mpr ⟨kk_Mo_186, fun _ h => absurd h List.not_mem_nil⟩, mm_nold (by decide +kernel)⟩
theorem mo_118 : mm_ok gd ms_nm ms_by ms_mx cs_L ms_Y 118 := ⟨by decide +kernel, by decide +kernel, List.forall_mem_cons.mpr ⟨gk_Mo_45, List.forall_mem_cons.mpr ⟨gk_Mo_35, List.forall_mem_cons.mpr ⟨gk_Mo_166, fun _ h => absurd h List.not_mem_nil⟩⟩⟩, fun _ h => absurd h List.not_mem_nil, fun _ h => absurd h List.not_mem_nil, mm_nold (by decide +kernel)⟩
theorem gk_Mo_63 : mm_gok cs_L gd "HouseDeskModel" 63 10 24 := ⟨_, _, _, rfl, by decide, cw_10, (tm_4 216 rfl rfl)⟩
theorem mo_119 : mm_ok gd ms_nm ms_by ms_mx cs_L ms_Y 119 := ⟨by decide +kernel, by decide +kernel, List.forall_mem_cons.mpr ⟨gk_Mo_63, fun _ h => absurd h List.not_mem_nil⟩, fun _ h => absurd h List.not_mem_nil, fun _ h => absurd h List.not_mem_nil, mm_nold (by decide +kernel)⟩
theorem kk_Mo_189 : mm_kok gd ms_nm ms_by ms_mx cs_L ms_Y "HouseDeskModel" (189, 119, 2, 10) := ⟨by decide, ck_119, (tm_5 226 rfl rfl), (tm_1 11 rfl rfl), ⟨by decide, by decide, by decide +kernel⟩, fun h => absurd h (by decide), fun _ => ⟨(tm_5 228 rfl rfl), (ts_p 59 rfl rfl), _, _, rfl⟩⟩
theorem kk_Mo_192 : mm_kok gd ms_nm ms_by ms_mx cs_L ms_Y "HouseDeskModel" (192, 118, 1, 10) := ⟨by decide, ck_118, (tm_5 230 rfl rfl), (tm_1 11 rfl rfl), ⟨by decide, by decide, by decide +kernel⟩, fun h => absurd h (by decide), fun _ => ⟨(tm_5 232 rfl rfl), (ts_p 60 rfl rfl), _, _, rfl⟩⟩
theorem mo_120 : mm_ok gd ms_nm ms_by ms_mx cs_L ms_Y 120 := ⟨by decide +kernel, by decide +kernel, List.forall_mem_cons.mpr ⟨gk_Mo_63, List.forall_mem_cons.mpr ⟨gk_Mo_122, List.forall_mem_cons.mpr ⟨gk_Mo_26, List.forall_mem_cons.mpr ⟨gk_Mo_29, List.forall_mem_cons.mpr ⟨gk_Mo_66, List.forall_mem_cons.mpr ⟨gk_Mo_69, fun _ h => absurd h List.not_mem_nil⟩⟩⟩⟩⟩⟩, fun _ h => absurd h List.not_mem_nil, List.forall_mem_cons.mpr ⟨kk_Mo_189, List.forall_mem_cons.mpr ⟨kk_Mo_192, fun _ h => absurd h List.not_mem_nil⟩⟩, mm_nold (by decide +kernel)⟩
theorem mo_121 : mm_ok gd ms_nm ms_by ms_mx cs_L ms_Y 121 := ⟨by decide +kernel, by decide +kernel, List.forall_mem_cons.mpr ⟨gk_Mo_169, List.forall_mem_cons.mpr ⟨gk_Mo_48, List.forall_mem_cons.mpr ⟨gk_Mo_66, List.forall_mem_cons.mpr ⟨gk_Mo_69, fun _ h => absurd h List.not_mem_nil⟩⟩⟩⟩, fun _ h => absurd h List.not_mem_nil, List.forall_mem_cons.mpr ⟨kk_Mo_192, fun _ h => absurd h List.not_mem_nil⟩, mm_nold (by decide +kernel)⟩
theorem kk_Mo_195 : mm_kok gd ms_nm ms_by ms_mx cs_L ms_Y "HouseDeskModel" (195, 121, 1, 10) := ⟨by decide, ck_121, (tm_5 238 rfl rfl), (tm_1 11 rfl rfl), ⟨by decide, by decide, by decide +kernel⟩, fun h => absurd h (by decide), fun _ => ⟨(tm_6 0 rfl rfl), (ts_p 62 rfl rfl), _, _, rfl⟩⟩
theorem mo_122 : mm_ok gd ms_nm ms_by ms_mx cs_L ms_Y 122 := ⟨by decide +kernel, by decide +kernel, List.forall_mem_cons.mpr ⟨gk_Mo_63, fun _ h => absurd h List.not_mem_nil⟩, fun _ h => absurd h List.not_mem_nil, List.forall_mem_cons.mpr ⟨kk_Mo_195, List.forall_mem_cons.mpr ⟨kk_Mo_182, fun _ h => absurd h List.not_mem_nil⟩⟩, mm_nold (by decide +kernel)⟩
theorem gk_Mo_57 : mm_gok cs_L gd "HouseDeskModel" 57 10 22 := ⟨_, _, _, rfl, by decide, cw_10, (tm_4 214 rfl rfl)⟩
theorem kk_Mo_198 : mm_kok gd ms_nm ms_by ms_mx cs_L ms_Y "HouseDeskModel" (198, 124, 2, 10) := ⟨by decide, ck_124, (tm_6 6 rfl rfl), (tm_1 11 rfl rfl), ⟨by decide, by decide, by decide +kernel⟩, fun h => absurd h (by decide), fun _ => ⟨(tm_6 8 rfl rfl), (ts_p 64 rfl rfl), _, _, rfl⟩⟩
theorem kk_Mo_201 : mm_kok gd ms_nm ms_by ms_mx cs_L ms_Y "HouseDeskModel" (201, 125, 1, 10) := ⟨by decide, ck_125, (tm_6 10 rfl rfl), (tm_1 11 rfl rfl), ⟨by decide, by decide, by decide +kernel⟩, fun h => absurd h (by decide), fun _ => ⟨(tm_6 12 rfl rfl), (ts_p 65 rfl rfl), _, _, rfl⟩⟩
theorem kk_Mo_204 : mm_kok gd ms_nm ms_by ms_mx cs_L ms_Y "HouseDeskModel" (204, 126, 1, 10) := ⟨by decide, ck_126, (tm_6 14 rfl rfl), (tm_1 11 rfl rfl), ⟨by decide, by decide, by decide +kernel⟩, fun h => absurd h (by decide), fun _ => ⟨(tm_6 16 rfl rfl), (ts_p 66 rfl rfl), _, _, rfl⟩⟩
theorem mo_123 : mm_ok gd ms_nm ms_by ms_mx cs_L ms_Y 123 := ⟨by decide +kernel, by decide +kernel, List.forall_mem_cons.mpr ⟨gk_Mo_57, List.forall_mem_cons.mpr ⟨gk_Mo_51, List.forall_mem_cons.mpr ⟨gk_Mo_54, fun _ h => absurd h List.not_mem_nil⟩⟩⟩, fun _ h => absurd h List.not_mem_nil, List.forall_mem_cons.mpr ⟨kk_Mo_198, List.forall_mem_cons.mpr ⟨kk_Mo_201, List.forall_mem_cons.mpr ⟨kk_Mo_204, fun _ h => absurd h List.not_mem_nil⟩⟩⟩, mm_nold (by decide +kernel)⟩
theorem gk_Mo_60 : mm_gok cs_L gd "HouseDeskModel" 60 10 23 := ⟨_, _, _, rfl, by decide, cw_10, (tm_4 215 rfl rfl)⟩
theorem mo_124 : mm_ok gd ms_nm ms_by ms_mx cs_L ms_Y 124 := ⟨by decide +kernel, by decide +kernel, List.forall_mem_cons.mpr ⟨gk_Mo_60, List.forall_mem_cons.mpr ⟨gk_Mo_57, fun _ h => absurd h List.not_mem_nil⟩⟩, fun _ h => absurd h List.not_mem_nil, fun _ h => absurd h List.not_mem_nil, mm_nold (by decide +kernel)⟩
theorem mo_125 : mm_ok gd ms_nm ms_by ms_mx cs_L ms_Y 125 := ⟨by decide +kernel, by decide +kernel, List.forall_mem_cons.mpr ⟨gk_Mo_166, List.forall_mem_cons.mpr ⟨gk_Mo_45, fun _ h => absurd h List.not_mem_nil⟩⟩, fun _ h => absurd h List.not_mem_nil, List.forall_mem_cons.mpr ⟨kk_Mo_129, fun _ h => absurd h List.not_mem_nil⟩, mm_nold (by decide +kernel)⟩
theorem mo_126 : mm_ok gd ms_nm ms_by ms_mx cs_L ms_Y 126 := ⟨by decide +kernel, by decide +kernel, List.forall_mem_cons.mpr ⟨gk_Mo_69, List.forall_mem_cons.mpr ⟨gk_Mo_166, List.forall_mem_cons.mpr ⟨gk_Mo_66, fun _ h => absurd h List.not_mem_nil⟩⟩⟩, fun _ h => absurd h List.not_mem_nil, List.forall_mem_cons.mpr ⟨kk_Mo_186, List.forall_mem_cons.mpr ⟨kk_Mo_198, fun _ h => absurd h List.not_mem_nil⟩⟩, mm_nold (by decide +kernel)⟩
theorem mo_127 : mm_ok gd ms_nm ms_by ms_mx cs_L ms_Y 127 := ⟨by decide +kernel, by decide +kernel, fun _ h => absurd h List.not_mem_nil, fun _ h => absurd h List.not_mem_nil, fun _ h => absurd h List.not_mem_nil, mm_nold (by decide +kernel)⟩
theorem mo_128 : mm_ok gd ms_nm ms_by ms_mx cs_L ms_Y 128 := ⟨by decide +kernel, by decide +kernel, List.forall_mem_cons.mpr ⟨gk_Mo_26, fun _ h => absurd h List.not_mem_nil⟩, fun _ h => absurd h List.not_mem_nil, fun _ h => absurd h List.not_mem_nil, mm_nold (by decide +kernel)⟩
theorem gk_Mo_90 : mm_gok cs_L gd "HouseDeskModel" 90 10 38 := ⟨_, _, _, rfl, by decide, cw_10, (tm_4 230 rfl rfl)⟩
theorem gk_Mo_93 : mm_gok cs_L gd "HouseDeskModel" 93 10 39 := ⟨_, _, _, rfl, by decide, cw_10, (tm_4 231 rfl rfl)⟩
theorem gk_Mo_96 : mm_gok cs_L gd "HouseDeskModel" 96 10 40 := ⟨_, _, _, rfl, by decide, cw_10, (tm_4 232 rfl rfl)⟩
theorem gk_Mo_99 : mm_gok cs_L gd "HouseDeskModel" 99 10 41 := ⟨_, _, _, rfl, by decide, cw_10, (tm_4 233 rfl rfl)⟩
theorem gk_Mo_102 : mm_gok cs_L gd "HouseDeskModel" 102 10 42 := ⟨_, _, _, rfl, by decide, cw_10, (tm_4 234 rfl rfl)⟩
theorem mo_129 : mm_ok gd ms_nm ms_by ms_mx cs_L ms_Y 129 := ⟨by decide +kernel, by decide +kernel, List.forall_mem_cons.mpr ⟨gk_Mo_57, List.forall_mem_cons.mpr ⟨gk_Mo_90, List.forall_mem_cons.mpr ⟨gk_Mo_93, List.forall_mem_cons.mpr ⟨gk_Mo_96, List.forall_mem_cons.mpr ⟨gk_Mo_99, List.forall_mem_cons.mpr ⟨gk_Mo_102, fun _ h => absurd h List.not_mem_nil⟩⟩⟩⟩⟩⟩, fun _ h => absurd h List.not_mem_nil, fun _ h => absurd h List.not_mem_nil, mm_nold (by decide +kernel)⟩
theorem gk_Mo_105 : mm_gok cs_L gd "HouseDeskModel" 105 10 43 := ⟨_, _, _, rfl, by decide, cw_10, (tm_4 235 rfl rfl)⟩
theorem gk_Mo_72 : mm_gok cs_L gd "HouseDeskModel" 72 10 27 := ⟨_, _, _, rfl, by decide, cw_10, (tm_4 219 rfl rfl)⟩
theorem mo_130 : mm_ok gd ms_nm ms_by ms_mx cs_L ms_Y 130 := ⟨by decide +kernel, by decide +kernel, List.forall_mem_cons.mpr ⟨gk_Mo_122, List.forall_mem_cons.mpr ⟨gk_Mo_105, List.forall_mem_cons.mpr ⟨gk_Mo_72, fun _ h => absurd h List.not_mem_nil⟩⟩⟩, fun _ h => absurd h List.not_mem_nil, fun _ h => absurd h List.not_mem_nil, mm_nold (by decide +kernel)⟩
theorem qk_Mo_208 : mm_pok ms_Y cs_L gd "HouseDeskModel" 208 10 37 := ⟨_, _, _, cy_10, rfl, by decide, cw_10, (tm_4 229 rfl rfl), ct_10, cn_10, rfl, by decide +kernel⟩
theorem gk_Mo_208 : mm_gok cs_L gd "HouseDeskModel" 208 10 37 := ⟨_, _, _, rfl, by decide, cw_10, (tm_4 229 rfl rfl)⟩
theorem kk_Mo_211 : mm_kok gd ms_nm ms_by ms_mx cs_L ms_Y "HouseDeskModel" (211, 130, 1, 10) := ⟨by decide, ck_130, (tm_6 22 rfl rfl), (tm_1 11 rfl rfl), ⟨by decide, by decide, by decide +kernel⟩, fun h => absurd h (by decide), fun _ => ⟨(tm_6 24 rfl rfl), (ts_p 68 rfl rfl), _, _, rfl⟩⟩
theorem kk_Mo_214 : mm_kok gd ms_nm ms_by ms_mx cs_L ms_Y "HouseDeskModel" (214, 129, 1, 10) := ⟨by decide, ck_129, (tm_6 26 rfl rfl), (tm_1 11 rfl rfl), ⟨by decide, by decide, by decide +kernel⟩, fun h => absurd h (by decide), fun _ => ⟨(tm_6 28 rfl rfl), (ts_p 69 rfl rfl), _, _, rfl⟩⟩
theorem kk_Mo_217 : mm_kok gd ms_nm ms_by ms_mx cs_L ms_Y "HouseDeskModel" (217, 132, 1, 10) := ⟨by decide, ck_132, (tm_6 30 rfl rfl), (tm_1 11 rfl rfl), ⟨by decide, by decide, by decide +kernel⟩, fun h => absurd h (by decide), fun _ => ⟨(tm_6 32 rfl rfl), (ts_p 70 rfl rfl), _, _, rfl⟩⟩
theorem kk_Mo_220 : mm_kok gd ms_nm ms_by ms_mx cs_L ms_Y "HouseDeskModel" (220, 133, 0, 10) := ⟨by decide, ck_133, (tm_6 41 rfl rfl), (tm_1 11 rfl rfl), ⟨by decide, by decide, by decide +kernel⟩, fun h => absurd h (by decide), fun _ => ⟨(tm_6 43 rfl rfl), (ts_p 72 rfl rfl), _, _, rfl⟩⟩
theorem kk_Mo_224 : mm_kok gd ms_nm ms_by ms_mx cs_L ms_Y "HouseDeskModel" (224, 134, 0, 10) := ⟨by decide, ck_134, (tm_6 45 rfl rfl), (tm_1 11 rfl rfl), ⟨by decide, by decide, by decide +kernel⟩, fun h => absurd h (by decide), fun _ => ⟨(tm_6 47 rfl rfl), (ts_p 73 rfl rfl), _, _, rfl⟩⟩
theorem mo_131 : mm_ok gd ms_nm ms_by ms_mx cs_L ms_Y 131 := ⟨by decide +kernel, by decide +kernel, List.forall_mem_cons.mpr ⟨gk_Mo_7, List.forall_mem_cons.mpr ⟨gk_Mo_90, List.forall_mem_cons.mpr ⟨gk_Mo_208, List.forall_mem_cons.mpr ⟨gk_Mo_105, List.forall_mem_cons.mpr ⟨gk_Mo_93, fun _ h => absurd h List.not_mem_nil⟩⟩⟩⟩⟩, List.forall_mem_cons.mpr ⟨qk_Mo_208, fun _ h => absurd h List.not_mem_nil⟩, List.forall_mem_cons.mpr ⟨kk_Mo_211, List.forall_mem_cons.mpr ⟨kk_Mo_214, List.forall_mem_cons.mpr ⟨kk_Mo_217, List.forall_mem_cons.mpr ⟨kk_Mo_220, List.forall_mem_cons.mpr ⟨kk_Mo_224, fun _ h => absurd h List.not_mem_nil⟩⟩⟩⟩⟩, mm_nold (by decide +kernel)⟩
theorem kk_Mo_227 : mm_kok gd ms_nm ms_by ms_mx cs_L ms_Y "HouseDeskModel" (227, 127, 1, 99) := ⟨by decide, ck_127, (tm_6 34 rfl rfl), (tm_1 11 rfl rfl), ⟨by decide, by decide, by decide +kernel⟩, fun _ => (tm_6 35 rfl rfl), fun h => absurd rfl h⟩
theorem kk_Mo_230 : mm_kok gd ms_nm ms_by ms_mx cs_L ms_Y "HouseDeskModel" (230, 128, 3, 10) := ⟨by decide, ck_128, (tm_6 37 rfl rfl), (tm_1 11 rfl rfl), ⟨by decide, by decide, by decide +kernel⟩, fun h => absurd h (by decide), fun _ => ⟨(tm_6 39 rfl rfl), (ts_p 71 rfl rfl), _, _, rfl⟩⟩
theorem mo_132 : mm_ok gd ms_nm ms_by ms_mx cs_L ms_Y 132 := ⟨by decide +kernel, by decide +kernel, List.forall_mem_cons.mpr ⟨gk_Mo_90, List.forall_mem_cons.mpr ⟨gk_Mo_57, List.forall_mem_cons.mpr ⟨gk_Mo_60, List.forall_mem_cons.mpr ⟨gk_Mo_93, List.forall_mem_cons.mpr ⟨gk_Mo_96, List.forall_mem_cons.mpr ⟨gk_Mo_99, List.forall_mem_cons.mpr ⟨gk_Mo_102, List.forall_mem_cons.mpr ⟨gk_Mo_72, List.forall_mem_cons.mpr ⟨gk_Mo_105, fun _ h => absurd h List.not_mem_nil⟩⟩⟩⟩⟩⟩⟩⟩⟩, fun _ h => absurd h List.not_mem_nil, List.forall_mem_cons.mpr ⟨kk_Mo_227, List.forall_mem_cons.mpr ⟨kk_Mo_230, fun _ h => absurd h List.not_mem_nil⟩⟩, mm_nold (by decide +kernel)⟩
theorem gk_Mo_234 : mm_gok cs_L gd "HouseDeskModel" 234 10 29 := ⟨_, _, _, rfl, by decide, cw_10, (tm_4 221 rfl rfl)⟩
theorem gk_Mo_75 : mm_gok cs_L gd "HouseDeskModel" 75 10 28 := ⟨_, _, _, rfl, by decide, cw_10, (tm_4 220 rfl rfl)⟩
theorem mo_133 : mm_ok gd ms_nm ms_by ms_mx cs_L ms_Y 133 := ⟨by decide +kernel, by decide +kernel, List.forall_mem_cons.mpr ⟨gk_Mo_122, List.forall_mem_cons.mpr ⟨gk_Mo_234, List.forall_mem_cons.mpr ⟨gk_Mo_72, List.forall_mem_cons.mpr ⟨gk_Mo_75, fun _ h => absurd h List.not_mem_nil⟩⟩⟩⟩, fun _ h => absurd h List.not_mem_nil, fun _ h => absurd h List.not_mem_nil, mm_nold (by decide +kernel)⟩
theorem qk_Mo_234 : mm_pok ms_Y cs_L gd "HouseDeskModel" 234 10 29 := ⟨_, _, _, cy_10, rfl, by decide, cw_10, (tm_4 221 rfl rfl), ct_10, cn_10, rfl, by decide +kernel⟩
theorem mo_134 : mm_ok gd ms_nm ms_by ms_mx cs_L ms_Y 134 := ⟨by decide +kernel, by decide +kernel, List.forall_mem_cons.mpr ⟨gk_Mo_122, List.forall_mem_cons.mpr ⟨gk_Mo_75, List.forall_mem_cons.mpr ⟨gk_Mo_72, fun _ h => absurd h List.not_mem_nil⟩⟩⟩, List.forall_mem_cons.mpr ⟨qk_Mo_234, fun _ h => absurd h List.not_mem_nil⟩, List.forall_mem_cons.mpr ⟨kk_Mo_220, fun _ h => absurd h List.not_mem_nil⟩, mm_nold (by decide +kernel)⟩
theorem mo_135 : mm_ok gd ms_nm ms_by ms_mx cs_L ms_Y 135 := ⟨by decide +kernel, by decide +kernel, fun _ h => absurd h List.not_mem_nil, fun _ h => absurd h List.not_mem_nil, fun _ h => absurd h List.not_mem_nil, mm_nold (by decide +kernel)⟩
theorem gk_Mo_78 : mm_gok cs_L gd "HouseDeskModel" 78 10 30 := ⟨_, _, _, rfl, by decide, cw_10, (tm_4 222 rfl rfl)⟩
theorem kk_Mo_237 : mm_kok gd ms_nm ms_by ms_mx cs_L ms_Y "HouseDeskModel" (237, 135, 2, 99) := ⟨by decide, ck_135, (tm_6 57 rfl rfl), (tm_1 11 rfl rfl), ⟨by decide, by decide, by decide +kernel⟩, fun _ => (tm_6 58 rfl rfl), fun h => absurd rfl h⟩
theorem qk_Mo_241 : mm_pok ms_Y cs_L gd "HouseDeskModel" 241 10 44 := ⟨_, _, _, cy_10, rfl, by decide, cw_10, (tm_4 236 rfl rfl), ct_10, cn_10, rfl, by decide +kernel⟩
theorem mo_136 : mm_ok gd ms_nm ms_by ms_mx cs_L ms_Y 136 := ⟨by decide +kernel, by decide +kernel, List.forall_mem_cons.mpr ⟨gk_Mo_78, fun _ h => absurd h List.not_mem_nil⟩, List.forall_mem_cons.mpr ⟨qk_Mo_241, fun _ h => absurd h List.not_mem_nil⟩, List.forall_mem_cons.mpr ⟨kk_Mo_237, fun _ h => absurd h List.not_mem_nil⟩, mm_nold (by decide +kernel)⟩
theorem gk_Mo_81 : mm_gok cs_L gd "HouseDeskModel" 81 10 31 := ⟨_, _, _, rfl, by decide, cw_10, (tm_4 223 rfl rfl)⟩
theorem mo_137 : mm_ok gd ms_nm ms_by ms_mx cs_L ms_Y 137 := ⟨by decide +kernel, by decide +kernel, List.forall_mem_cons.mpr ⟨gk_Mo_81, fun _ h => absurd h List.not_mem_nil⟩, List.forall_mem_cons.mpr ⟨qk_Mo_241, fun _ h => absurd h List.not_mem_nil⟩, List.forall_mem_cons.mpr ⟨kk_Mo_237, fun _ h => absurd h List.not_mem_nil⟩, mm_nold (by decide +kernel)⟩
theorem qk_Mo_244 : mm_pok ms_Y cs_L gd "HouseDeskModel" 244 10 32 := ⟨_, _, _, cy_10, rfl, by decide, cw_10, (tm_4 224 rfl rfl), ct_10, cn_10, rfl, by decide +kernel⟩
theorem qk_Mo_247 : mm_pok ms_Y cs_L gd "HouseDeskModel" 247 10 33 := ⟨_, _, _, cy_10, rfl, by decide, cw_10, (tm_4 225 rfl rfl), ct_10, cn_10, rfl, by decide +kernel⟩
theorem gk_Mo_241 : mm_gok cs_L gd "HouseDeskModel" 241 10 44 := ⟨_, _, _, rfl, by decide, cw_10, (tm_4 236 rfl rfl)⟩
theorem kk_Mo_250 : mm_kok gd ms_nm ms_by ms_mx cs_L ms_Y "HouseDeskModel" (250, 139, 1, 10) := ⟨by decide, ck_139, (tm_6 53 rfl rfl), (tm_1 11 rfl rfl), ⟨by decide, by decide, by decide +kernel⟩, fun h => absurd h (by decide), fun _ => ⟨(tm_6 55 rfl rfl), (ts_p 75 rfl rfl), _, _, rfl⟩⟩
theorem kk_Mo_253 : mm_kok gd ms_nm ms_by ms_mx cs_L ms_Y "HouseDeskModel" (253, 140, 1, 10) := ⟨by decide, ck_140, (tm_6 64 rfl rfl), (tm_1 11 rfl rfl), ⟨by decide, by decide, by decide +kernel⟩, fun h => absurd h (by decide), fun _ => ⟨(tm_6 66 rfl rfl), (ts_p 77 rfl rfl), _, _, rfl⟩⟩
theorem mo_138 : mm_ok gd ms_nm ms_by ms_mx cs_L ms_Y 138 := ⟨by decide +kernel, by decide +kernel, List.forall_mem_cons.mpr ⟨gk_Mo_78, List.forall_mem_cons.mpr ⟨gk_Mo_81, List.forall_mem_cons.mpr ⟨gk_Mo_241, List.forall_mem_cons.mpr ⟨gk_Mo_7, List.forall_mem_cons.mpr ⟨gk_Mo_122, fun _ h => absurd h List.not_mem_nil⟩⟩⟩⟩⟩, List.forall_mem_cons.mpr ⟨qk_Mo_244, List.forall_mem_cons.mpr ⟨qk_Mo_247, List.forall_mem_cons.mpr ⟨qk_Mo_241, fun _ h => absurd h List.not_mem_nil⟩⟩⟩, List.forall_mem_cons.mpr ⟨kk_Mo_250, List.forall_mem_cons.mpr ⟨kk_Mo_253, fun _ h => absurd h List.not_mem_nil⟩⟩, mm_nold (by decide +kernel)⟩
theorem kk_Mo_256 : mm_kok gd ms_nm ms_by ms_mx cs_L ms_Y "HouseDeskModel" (256, 137, 3, 10) := ⟨by decide, ck_137, (tm_6 60 rfl rfl), (tm_1 11 rfl rfl), ⟨by decide, by decide, by decide +kernel⟩, fun h => absurd h (by decide), fun _ => ⟨(tm_6 62 rfl rfl), (ts_p 76 rfl rfl), _, _, rfl⟩⟩
theorem gk_Mo_244 : mm_gok cs_L gd "HouseDeskModel" 244 10 32 := ⟨_, _, _, rfl, by decide, cw_10, (tm_4 224 rfl rfl)⟩
theorem gk_Mo_247 : mm_gok cs_L gd "HouseDeskModel" 247 10 33 := ⟨_, _, _, rfl, by decide, cw_10, (tm_4 225 rfl rfl)⟩
theorem mo_139 : mm_ok gd ms_nm ms_by ms_mx cs_L ms_Y 139 := ⟨by decide +kernel, by decide +kernel, List.forall_mem_cons.mpr ⟨gk_Mo_78, List.forall_mem_cons.mpr ⟨gk_Mo_20, List.forall_mem_cons.mpr ⟨gk_Mo_23, List.forall_mem_cons.mpr ⟨gk_Mo_63, List.forall_mem_cons.mpr ⟨gk_Mo_81, List.forall_mem_cons.mpr ⟨gk_Mo_244, List.forall_mem_cons.mpr ⟨gk_Mo_247, fun _ h => absurd h List.not_mem_nil⟩⟩⟩⟩⟩⟩⟩, List.forall_mem_cons.mpr ⟨qk_Mo_241, List.forall_mem_cons.mpr ⟨qk_Mo_244, List.forall_mem_cons.mpr ⟨qk_Mo_247, fun _ h => absurd h List.not_mem_nil⟩⟩⟩, List.forall_mem_cons.mpr ⟨kk_Mo_237, List.forall_mem_cons.mpr ⟨kk_Mo_256, fun _ h => absurd h List.not_mem_nil⟩⟩, mm_nold (by decide +kernel)⟩
theorem kk_Mo_260 : mm_kok gd ms_nm ms_by ms_mx cs_L ms_Y "HouseDeskModel" (260, 136, 3, 10) := ⟨by decide, ck_136, (tm_6 68 rfl rfl), (tm_1 11 rfl rfl), ⟨by decide, by decide, by decide +kernel⟩, fun h => absurd h (by decide), fun _ => ⟨(tm_6 70 rfl rfl), (ts_p 78 rfl rfl), _, _, rfl⟩⟩
theorem mo_140 : mm_ok gd ms_nm ms_by ms_mx cs_L ms_Y 140 := ⟨by decide +kernel, by decide +kernel, List.forall_mem_cons.mpr ⟨gk_Mo_75, List.forall_mem_cons.mpr ⟨gk_Mo_26, List.forall_mem_cons.mpr ⟨gk_Mo_29, List.forall_mem_cons.mpr ⟨gk_Mo_81, List.forall_mem_cons.mpr ⟨gk_Mo_78, List.forall_mem_cons.mpr ⟨gk_Mo_32, fun _ h => absurd h List.not_mem_nil⟩⟩⟩⟩⟩⟩, fun _ h => absurd h List.not_mem_nil, List.forall_mem_cons.mpr ⟨kk_Mo_151, List.forall_mem_cons.mpr ⟨kk_Mo_237, List.forall_mem_cons.mpr ⟨kk_Mo_256, List.forall_mem_cons.mpr ⟨kk_Mo_260, fun _ h => absurd h List.not_mem_nil⟩⟩⟩⟩, mm_nold (by decide +kernel)⟩
theorem mo_141 : mm_ok gd ms_nm ms_by ms_mx cs_L ms_Y 141 := ⟨by decide +kernel, by decide +kernel, fun _ h => absurd h List.not_mem_nil, List.forall_mem_cons.mpr ⟨qk_Mo_118, fun _ h => absurd h List.not_mem_nil⟩, fun _ h => absurd h List.not_mem_nil, mm_nold (by decide +kernel)⟩
theorem qk_Mo_263 : mm_pok ms_Y cs_L gd "HouseDeskModel" 263 10 16 := ⟨_, _, _, cy_10, rfl, by decide, cw_10, (tm_4 208 rfl rfl), ct_10, cn_10, rfl, by decide +kernel⟩
theorem kk_Mo_266 : mm_kok gd ms_nm ms_by ms_mx cs_L ms_Y "HouseDeskModel" (266, 99, 0, 10) := ⟨by decide, ck_99, (tm_5 135 rfl rfl), (tm_1 11 rfl rfl), ⟨by decide, by decide, by decide +kernel⟩, fun h => absurd h (by decide), fun _ => ⟨(tm_5 137 rfl rfl), (ts_p 40 rfl rfl), _, _, rfl⟩⟩
theorem kk_Mo_269 : mm_kok gd ms_nm ms_by ms_mx cs_L ms_Y "HouseDeskModel" (269, 141, 1, 10) := ⟨by decide, ck_141, (tm_5 154 rfl rfl), (tm_1 11 rfl rfl), ⟨by decide, by decide, by decide +kernel⟩, fun h => absurd h (by decide), fun _ => ⟨(tm_5 156 rfl rfl), (ts_p 44 rfl rfl), _, _, rfl⟩⟩
theorem kk_Mo_272 : mm_kok gd ms_nm ms_by ms_mx cs_L ms_Y "HouseDeskModel" (272, 104, 0, 10) := ⟨by decide, ck_104, (tm_5 158 rfl rfl), (tm_1 11 rfl rfl), ⟨by decide, by decide, by decide +kernel⟩, fun h => absurd h (by decide), fun _ => ⟨(tm_5 160 rfl rfl), (ts_p 45 rfl rfl), _, _, rfl⟩⟩
theorem kk_Mo_275 : mm_kok gd ms_nm ms_by ms_mx cs_L ms_Y "HouseDeskModel" (275, 108, 0, 10) := ⟨by decide, ck_108, (tm_5 173 rfl rfl), (tm_1 11 rfl rfl), ⟨by decide, by decide, by decide +kernel⟩, fun h => absurd h (by decide), fun _ => ⟨(tm_5 175 rfl rfl), (ts_p 48 rfl rfl), _, _, rfl⟩⟩
theorem kk_Mo_279 : mm_kok gd ms_nm ms_by ms_mx cs_L ms_Y "HouseDeskModel" (279, 107, 0, 10) := ⟨by decide, ck_107, (tm_5 177 rfl rfl), (tm_1 11 rfl rfl), ⟨by decide, by decide, by decide +kernel⟩, fun h => absurd h (by decide), fun _ => ⟨(tm_5 179 rfl rfl), (ts_p 49 rfl rfl), _, _, rfl⟩⟩
theorem kk_Mo_282 : mm_kok gd ms_nm ms_by ms_mx cs_L ms_Y "HouseDeskModel" (282, 109, 0, 10) := ⟨by decide, ck_109, (tm_5 181 rfl rfl), (tm_1 11 rfl rfl), ⟨by decide, by decide, by decide +kernel⟩, fun h => absurd h (by decide), fun _ => ⟨(tm_5 183 rfl rfl), (ts_p 50 rfl rfl), _, _, rfl⟩⟩
theorem kk_Mo_285 : mm_kok gd ms_nm ms_by ms_mx cs_L ms_Y "HouseDeskModel" (285, 110, 0, 10) := ⟨by decide, ck_110, (tm_5 193 rfl rfl), (tm_1 11 rfl rfl), ⟨by decide, by decide, by decide +kernel⟩, fun h => absurd h (by decide), fun _ => ⟨(tm_5 195 rfl rfl), (ts_p 53 rfl rfl), _, _, rfl⟩⟩
theorem kk_Mo_288 : mm_kok gd ms_nm ms_by ms_mx cs_L ms_Y "HouseDeskModel" (288, 115, 0, 10) := ⟨by decide, ck_115, (tm_5 197 rfl rfl), (tm_1 11 rfl rfl), ⟨by decide, by decide, by decide +kernel⟩, fun h => absurd h (by decide), fun _ => ⟨(tm_5 199 rfl rfl), (ts_p 54 rfl rfl), _, _, rfl⟩⟩
theorem kk_Mo_291 : mm_kok gd ms_nm ms_by ms_mx cs_L ms_Y "HouseDeskModel" (291, 117, 0, 10) := ⟨by decide, ck_117, (tm_5 214 rfl rfl), (tm_1 11 rfl rfl), ⟨by decide, by decide, by decide +kernel⟩, fun h => absurd h (by decide), fun _ => ⟨(tm_5 216 rfl rfl), (ts_p 56 rfl rfl), _, _, rfl⟩⟩
theorem kk_Mo_294 : mm_kok gd ms_nm ms_by ms_mx cs_L ms_Y "HouseDeskModel" (294, 120, 0, 10) := ⟨by decide, ck_120, (tm_5 222 rfl rfl), (tm_1 11 rfl rfl), ⟨by decide, by decide, by decide +kernel⟩, fun h => absurd h (by decide), fun _ => ⟨(tm_5 224 rfl rfl), (ts_p 58 rfl rfl), _, _, rfl⟩⟩
theorem kk_Mo_297 : mm_kok gd ms_nm ms_by ms_mx cs_L ms_Y "HouseDeskModel" (297, 122, 0, 10) := ⟨by decide, ck_122, (tm_5 234 rfl rfl), (tm_1 11 rfl rfl), ⟨by decide, by decide, by decide +kernel⟩, fun h => absurd h (by decide), fun _ => ⟨(tm_5 236 rfl rfl), (ts_p 61 rfl rfl), _, _, rfl⟩⟩
theorem kk_Mo_300 : mm_kok gd ms_nm ms_by ms_mx cs_L ms_Y "HouseDeskModel" (300, 123, 0, 10) := ⟨by decide, ck_123, (tm_6 2 rfl rfl), (tm_1 11 rfl rfl), ⟨by decide, by decide, by decide +kernel⟩, fun h => absurd h (by decide), fun _ => ⟨(tm_6 4 rfl rfl), (ts_p 63 rfl rfl), _, _, rfl⟩⟩
theorem kk_Mo_303 : mm_kok gd ms_nm ms_by ms_mx cs_L ms_Y "HouseDeskModel" (303, 131, 0, 10) := ⟨by decide, ck_131, (tm_6 18 rfl rfl), (tm_1 11 rfl rfl), ⟨by decide, by decide, by decide +kernel⟩, fun h => absurd h (by decide), fun _ => ⟨(tm_6 20 rfl rfl), (ts_p 67 rfl rfl), _, _, rfl⟩⟩
theorem kk_Mo_306 : mm_kok gd ms_nm ms_by ms_mx cs_L ms_Y "HouseDeskModel" (306, 138, 0, 10) := ⟨by decide, ck_138, (tm_6 49 rfl rfl), (tm_1 11 rfl rfl), ⟨by decide, by decide, by decide +kernel⟩, fun h => absurd h (by decide), fun _ => ⟨(tm_6 51 rfl rfl), (ts_p 74 rfl rfl), _, _, rfl⟩⟩
theorem mo_142 : mm_ok gd ms_nm ms_by ms_mx cs_L ms_Y 142 := ⟨by decide +kernel, by decide +kernel, List.forall_mem_cons.mpr ⟨gk_Mo_169, List.forall_mem_cons.mpr ⟨gk_Mo_72, fun _ h => absurd h List.not_mem_nil⟩⟩, List.forall_mem_cons.mpr ⟨qk_Mo_111, List.forall_mem_cons.mpr ⟨qk_Mo_38, List.forall_mem_cons.mpr ⟨qk_Mo_166, List.forall_mem_cons.mpr ⟨qk_Mo_263, List.forall_mem_cons.mpr ⟨qk_Mo_234, fun _ h => absurd h List.not_mem_nil⟩⟩⟩⟩⟩, List.forall_mem_cons.mpr ⟨kk_Mo_266, List.forall_mem_cons.mpr ⟨kk_Mo_269, List.forall_mem_cons.mpr ⟨kk_Mo_272, List.forall_mem_cons.mpr ⟨kk_Mo_275, List.forall_mem_cons.mpr ⟨kk_Mo_279, List.forall_mem_cons.mpr ⟨kk_Mo_282, List.forall_mem_cons.mpr ⟨kk_Mo_285, List.forall_mem_cons.mpr ⟨kk_Mo_288, List.forall_mem_cons.mpr ⟨kk_Mo_291, List.forall_mem_cons.mpr ⟨kk_Mo_294, List.forall_mem_cons.mpr ⟨kk_Mo_297, List.forall_mem_cons.mpr ⟨kk_Mo_300, List.forall_mem_cons.mpr ⟨kk_Mo_303, List.forall_mem_cons.mpr ⟨kk_Mo_306, fun _ h => absurd h List.not_mem_nil⟩⟩⟩⟩⟩⟩⟩⟩⟩⟩⟩⟩⟩⟩, mm_nold (by decide +kernel)⟩
theorem gk_Mo_38 : mm_gok cs_L gd "HouseDeskModel" 38 10 13 := ⟨_, _, _, rfl, by decide, cw_10, (tm_4 205 rfl rfl)⟩
theorem mo_143 : mm_ok gd ms_nm ms_by ms_mx cs_L ms_Y 143 := ⟨by decide +kernel, by decide +kernel, List.forall_mem_cons.mpr ⟨gk_Mo_38, List.forall_mem_cons.mpr ⟨gk_Mo_42, fun _ h => absurd h List.not_mem_nil⟩⟩, List.forall_mem_cons.mpr ⟨qk_Mo_111, fun _ h => absurd h List.not_mem_nil⟩, List.forall_mem_cons.mpr ⟨kk_Mo_114, fun _ h => absurd h List.not_mem_nil⟩, mm_nold (by decide +kernel)⟩
theorem gk_Mo_118 : mm_gok cs_L gd "HouseDeskModel" 118 10 12 := ⟨_, _, _, rfl, by decide, cw_10, (tm_4 204 rfl rfl)⟩
theorem mo_144 : mm_ok gd ms_nm ms_by ms_mx cs_L ms_Y 144 := ⟨by decide +kernel, by decide +kernel, List.forall_mem_cons.mpr ⟨gk_Mo_118, List.forall_mem_cons.mpr ⟨gk_Mo_111, List.forall_mem_cons.mpr ⟨gk_Mo_78, List.forall_mem_cons.mpr ⟨gk_Mo_81, fun _ h => absurd h List.not_mem_nil⟩⟩⟩⟩, List.forall_mem_cons.mpr ⟨qk_Mo_111, fun _ h => absurd h List.not_mem_nil⟩, List.forall_mem_cons.mpr ⟨kk_Mo_125, List.forall_mem_cons.mpr ⟨kk_Mo_114, List.forall_mem_cons.mpr ⟨kk_Mo_237, fun _ h => absurd h List.not_mem_nil⟩⟩⟩, mm_nold (by decide +kernel)⟩
theorem mo_145 : mm_ok gd ms_nm ms_by ms_mx cs_L ms_Y 145 := ⟨by decide +kernel, by decide +kernel, List.forall_mem_cons.mpr ⟨gk_Mo_118, List.forall_mem_cons.mpr ⟨gk_Mo_111, List.forall_mem_cons.mpr ⟨gk_Mo_7, List.forall_mem_cons.mpr ⟨gk_Mo_20, List.forall_mem_cons.mpr ⟨gk_Mo_23, List.forall_mem_cons.mpr ⟨gk_Mo_244, List.forall_mem_cons.mpr ⟨gk_Mo_247, fun _ h => absurd h List.not_mem_nil⟩⟩⟩⟩⟩⟩⟩, List.forall_mem_cons.mpr ⟨qk_Mo_111, fun _ h => absurd h List.not_mem_nil⟩, List.forall_mem_cons.mpr ⟨kk_Mo_114, fun _ h => absurd h List.not_mem_nil⟩, mm_nold (by decide +kernel)⟩
theorem mo_146 : mm_ok gd ms_nm ms_by ms_mx cs_L ms_Y 146 := ⟨by decide +kernel, by decide +kernel, List.forall_mem_cons.mpr ⟨gk_Mo_118, List.forall_mem_cons.mpr ⟨gk_Mo_122, List.forall_mem_cons.mpr ⟨gk_Mo_111, List.forall_mem_cons.mpr ⟨gk_Mo_75, List.forall_mem_cons.mpr ⟨gk_Mo_26, List.forall_mem_cons.mpr ⟨gk_Mo_29, List.forall_mem_cons.mpr ⟨gk_Mo_78, List.forall_mem_cons.mpr ⟨gk_Mo_81, fun _ h => absurd h List.not_mem_nil⟩⟩⟩⟩⟩⟩⟩⟩, List.forall_mem_cons.mpr ⟨qk_Mo_111, fun _ h => absurd h List.not_mem_nil⟩, List.forall_mem_cons.mpr ⟨kk_Mo_114, List.forall_mem_cons.mpr ⟨kk_Mo_237, fun _ h => absurd h List.not_mem_nil⟩⟩, mm_nold (by decide +kernel)⟩
theorem mo_147 : mm_ok gd ms_nm ms_by ms_mx cs_L ms_Y 147 := ⟨by decide +kernel, by decide +kernel, List.forall_mem_cons.mpr ⟨gk_Mo_118, List.forall_mem_cons.mpr ⟨gk_Mo_111, List.forall_mem_cons.mpr ⟨gk_Mo_63, List.forall_mem_cons.mpr ⟨gk_Mo_81, List.forall_mem_cons.mpr ⟨gk_Mo_78, fun _ h => absurd h List.not_mem_nil⟩⟩⟩⟩⟩, List.forall_mem_cons.mpr ⟨qk_Mo_111, fun _ h => absurd h List.not_mem_nil⟩, List.forall_mem_cons.mpr ⟨kk_Mo_125, List.forall_mem_cons.mpr ⟨kk_Mo_114, List.forall_mem_cons.mpr ⟨kk_Mo_237, fun _ h => absurd h List.not_mem_nil⟩⟩⟩, mm_nold (by decide +kernel)⟩
theorem gk_Mo_108 : mm_gok cs_L gd "HouseDeskModel" 108 10 45 := ⟨_, _, _, rfl, by decide, cw_10, (tm_4 237 rfl rfl)⟩
theorem qk_Mo_309 : mm_pok ms_Y cs_L gd "HouseDeskModel" 309 10 34 := ⟨_, _, _, cy_10, rfl, by decide, cw_10, (tm_4 226 rfl rfl), ct_10, cn_10, rfl, by decide +kernel⟩
theorem gk_Mo_84 : mm_gok cs_L gd "HouseDeskModel" 84 10 35 := ⟨_, _, _, rfl, by decide, cw_10, (tm_4 227 rfl rfl)⟩
theorem gk_Mo_309 : mm_gok cs_L gd "HouseDeskModel" 309 10 34 := ⟨_, _, _, rfl, by decide, cw_10, (tm_4 226 rfl rfl)⟩
theorem mo_148 : mm_ok gd ms_nm ms_by ms_mx cs_L ms_Y 148 := ⟨by decide +kernel, by decide +kernel, List.forall_mem_cons.mpr ⟨gk_Mo_111, List.forall_mem_cons.mpr ⟨gk_Mo_108, List.forall_mem_cons.mpr ⟨gk_Mo_122, List.forall_mem_cons.mpr ⟨gk_Mo_29, List.forall_mem_cons.mpr ⟨gk_Mo_26, List.forall_mem_cons.mpr ⟨gk_Mo_84, List.forall_mem_cons.mpr ⟨gk_Mo_309, fun _ h => absurd h List.not_mem_nil⟩⟩⟩⟩⟩⟩⟩, List.forall_mem_cons.mpr ⟨qk_Mo_111, List.forall_mem_cons.mpr ⟨qk_Mo_309, fun _ h => absurd h List.not_mem_nil⟩⟩, List.forall_mem_cons.mpr ⟨kk_Mo_125, List.forall_mem_cons.mpr ⟨kk_Mo_129, fun _ h => absurd h List.not_mem_nil⟩⟩, mm_nold (by decide +kernel)⟩
theorem mo_149 : mm_ok gd ms_nm ms_by ms_mx cs_L ms_Y 149 := ⟨by decide +kernel, by decide +kernel, List.forall_mem_cons.mpr ⟨gk_Mo_309, List.forall_mem_cons.mpr ⟨gk_Mo_84, fun _ h => absurd h List.not_mem_nil⟩⟩, List.forall_mem_cons.mpr ⟨qk_Mo_111, fun _ h => absurd h List.not_mem_nil⟩, List.forall_mem_cons.mpr ⟨kk_Mo_114, fun _ h => absurd h List.not_mem_nil⟩, mm_nold (by decide +kernel)⟩
theorem gk_Mo_263 : mm_gok cs_L gd "HouseDeskModel" 263 10 16 := ⟨_, _, _, rfl, by decide, cw_10, (tm_4 208 rfl rfl)⟩
theorem mo_150 : mm_ok gd ms_nm ms_by ms_mx cs_L ms_Y 150 := ⟨by decide +kernel, by decide +kernel, List.forall_mem_cons.mpr ⟨gk_Mo_122, List.forall_mem_cons.mpr ⟨gk_Mo_166, List.forall_mem_cons.mpr ⟨gk_Mo_263, List.forall_mem_cons.mpr ⟨gk_Mo_118, fun _ h => absurd h List.not_mem_nil⟩⟩⟩⟩, List.forall_mem_cons.mpr ⟨qk_Mo_111, fun _ h => absurd h List.not_mem_nil⟩, List.forall_mem_cons.mpr ⟨kk_Mo_275, fun _ h => absurd h List.not_mem_nil⟩, mm_nold (by decide +kernel)⟩
theorem mo_153 : mm_ok gd ms_nm ms_by ms_mx cs_L ms_Y 153 := ⟨by decide +kernel, by decide +kernel, fun _ h => absurd h List.not_mem_nil, fun _ h => absurd h List.not_mem_nil, fun _ h => absurd h List.not_mem_nil, mo_bit⟩
theorem gk_De_176 : mm_gok cs_L gd "HouseDesk" 176 1 11 := ⟨_, _, _, rfl, by decide, cw_1, (tm_1 72 rfl rfl)⟩
theorem gk_De_65 : mm_gok cs_L gd "HouseDesk" 65 1 12 := ⟨_, _, _, rfl, by decide, cw_1, (tm_1 75 rfl rfl)⟩
theorem gk_De_179 : mm_gok cs_L gd "HouseDesk" 179 2 4 := ⟨_, _, _, rfl, by decide, cw_2, (tm_2 41 rfl rfl)⟩
theorem gk_De_182 : mm_gok cs_L gd "HouseDesk" 182 2 5 := ⟨_, _, _, rfl, by decide, cw_2, (tm_2 43 rfl rfl)⟩
theorem gk_De_32 : mm_gok cs_L gd "HouseDesk" 32 0 3 := ⟨_, _, _, rfl, by decide, cw_0, (tm_2 88 rfl rfl)⟩
theorem mo_155 : mm_ok gd ms_nm ms_by ms_mx cs_L ms_Y 155 := ⟨by decide +kernel, by decide +kernel, List.forall_mem_cons.mpr ⟨gk_De_12, List.forall_mem_cons.mpr ⟨gk_De_176, List.forall_mem_cons.mpr ⟨gk_De_65, List.forall_mem_cons.mpr ⟨gk_De_21, List.forall_mem_cons.mpr ⟨gk_De_179, List.forall_mem_cons.mpr ⟨gk_De_182, List.forall_mem_cons.mpr ⟨gk_De_32, fun _ h => absurd h List.not_mem_nil⟩⟩⟩⟩⟩⟩⟩, fun _ h => absurd h List.not_mem_nil, fun _ h => absurd h List.not_mem_nil, mm_nold (by decide +kernel)⟩
set_option maxRecDepth 100000 in
theorem mo_list : ∀ y ∈ [0, 1, 2, 3, 4, 5, 6, 7, 8, 9, 10, 11, 12, 13, 14, 15, 16, 17, 18, 19, 20, 21, 22, 23, 24, 25, 26, 27, 28, 29, 30, 31, 32, 33, 34, 35, 36, 37, 38, 39, 40, 41, 42, 43, 44, 45, 46, 47, 48, 49, 50, 51, 52, 53, 54, 55, 56, 57, 58, 59, 60, 61, 62, 63, 64, 65, 66, 67, 68, 69, 70, 71, 72, 73, 74, 75, 76, 77, 78, 79, 80, 81, 82, 83, 84, 85, 86, 87, 88, 89, 90, 91, 92, 93, 94, 95, 96, 97, 98, 99, 100, 101, 102, 103, 104, 105, 106, 107, 108, 109, 110, 111, 112, 113, 114, 115, 116, 117, 118, 119, 120, 121, 122, 123, 124, 125, 126, 127, 128, 129, 130, 131, 132, 133, 134, 135, 136, 137, 138, 139, 140, 141, 142, 143, 144, 145, 146, 147, 148, 149, 150, 151, 152, 153, 154, 155], (mm_me ms_Y y).1 ≠ [] → mm_ok gd ms_nm ms_by ms_mx cs_L ms_Y y := List.forall_mem_cons.mpr ⟨fun _ => mo_0, List.forall_mem_cons.mpr ⟨fun _ => mo_1, List.forall_mem_cons.mpr ⟨fun _ => mo_2, List.forall_mem_cons.mpr ⟨fun _ => mo_3, List.forall_mem_cons.mpr ⟨fun _ => mo_4, List.forall_mem_cons.mpr ⟨fun _ => mo_5, List.forall_mem_cons.mpr ⟨fun _ => mo_6, List.forall_mem_cons.mpr ⟨fun _ => mo_7, List.forall_mem_cons.mpr ⟨fun _ => mo_8, List.forall_mem_cons.mpr ⟨fun _ => mo_9, List.forall_mem_cons.mpr ⟨fun _ => mo_10, List.forall_mem_cons.mpr ⟨fun _ => mo_11, List.forall_mem_cons.mpr ⟨fun _ => mo_12, List.forall_mem_cons.mpr ⟨fun _ => mo_13, List.forall_mem_cons.mpr ⟨fun _ => mo_14, List.forall_mem_cons.mpr ⟨fun _ => mo_15, List.forall_mem_cons.mpr ⟨fun _ => mo_16, List.forall_mem_cons.mpr ⟨fun _ => mo_17, List.forall_mem_cons.mpr ⟨fun _ => mo_18, List.forall_mem_cons.mpr ⟨fun _ => mo_19, List.forall_mem_cons.mpr ⟨fun _ => mo_20, List.forall_mem_cons.mpr ⟨fun _ => mo_21, List.forall_mem_cons.mpr ⟨fun _ => mo_22, List.forall_mem_cons.mpr ⟨fun _ => mo_23, List.forall_mem_cons.mpr ⟨fun _ => mo_24, List.forall_mem_cons.mpr ⟨fun _ => mo_25, List.forall_mem_cons.mpr ⟨fun _ => mo_26, List.forall_mem_cons.mpr ⟨fun _ => mo_27, List.forall_mem_cons.mpr ⟨fun _ => mo_28, List.forall_mem_cons.mpr ⟨fun _ => mo_29, List.forall_mem_cons.mpr ⟨fun _ => mo_30, List.forall_mem_cons.mpr ⟨fun _ => mo_31, List.forall_mem_cons.mpr ⟨fun _ => mo_32, List.forall_mem_cons.mpr ⟨fun _ => mo_33, List.forall_mem_cons.mpr ⟨fun _ => mo_34, List.forall_mem_cons.mpr ⟨fun _ => mo_35, List.forall_mem_cons.mpr ⟨fun _ => mo_36, List.forall_mem_cons.mpr ⟨fun _ => mo_37, List.forall_mem_cons.mpr ⟨fun _ => mo_38, List.forall_mem_cons.mpr ⟨fun _ => mo_39, List.forall_mem_cons.mpr ⟨fun _ => mo_40, List.forall_mem_cons.mpr ⟨fun _ => mo_41, List.forall_mem_cons.mpr ⟨fun _ => mo_42, List.forall_mem_cons.mpr ⟨fun _ => mo_43, List.forall_mem_cons.mpr ⟨fun _ => mo_44, List.forall_mem_cons.mpr ⟨fun _ => mo_45, List.forall_mem_cons.mpr ⟨fun _ => mo_46, List.forall_mem_cons.mpr ⟨fun _ => mo_47, List.forall_mem_cons.mpr ⟨fun _ => mo_48, List.forall_mem_cons.mpr ⟨fun _ => mo_49, List.forall_mem_cons.mpr ⟨fun _ => mo_50, List.forall_mem_cons.mpr ⟨fun _ => mo_51, List.forall_mem_cons.mpr ⟨fun _ => mo_52, List.forall_mem_cons.mpr ⟨fun _ => mo_53, List.forall_mem_cons.mpr ⟨fun _ => mo_54, List.forall_mem_cons.mpr ⟨fun _ => mo_55, List.forall_mem_cons.mpr ⟨fun _ => mo_56, List.forall_mem_cons.mpr ⟨fun _ => mo_57, List.forall_mem_cons.mpr ⟨fun _ => mo_58, List.forall_mem_cons.mpr ⟨fun _ => mo_59, List.forall_mem_cons.mpr ⟨fun _ => mo_60, List.forall_mem_cons.mpr ⟨fun _ => mo_61, List.forall_mem_cons.mpr ⟨fun _ => mo_62, List.forall_mem_cons.mpr ⟨fun _ => mo_63, List.forall_mem_cons.mpr ⟨fun _ => mo_64, List.forall_mem_cons.mpr ⟨fun _ => mo_65, List.forall_mem_cons.mpr ⟨fun _ => mo_66, List.forall_mem_cons.mpr ⟨fun _ => mo_67, List.forall_mem_cons.mpr ⟨fun _ => mo_68, List.forall_mem_cons.mpr ⟨fun _ => mo_69, List.forall_mem_cons.mpr ⟨fun _ => mo_70, List.forall_mem_cons.mpr ⟨fun _ => mo_71, List.forall_mem_cons.mpr ⟨fun _ => mo_72, List.forall_mem_cons.mpr ⟨fun _ => mo_73, List.forall_mem_cons.mpr ⟨fun _ => mo_74, List.forall_mem_cons.mpr ⟨fun _ => mo_75, List.forall_mem_cons.mpr ⟨fun _ => mo_76, List.forall_mem_cons.mpr ⟨fun _ => mo_77, List.forall_mem_cons.mpr ⟨fun _ => mo_78, List.forall_mem_cons.mpr ⟨fun _ => mo_79, List.forall_mem_cons.mpr ⟨fun _ => mo_80, List.forall_mem_cons.mpr ⟨fun _ => mo_81, List.forall_mem_cons.mpr ⟨fun _ => mo_82, List.forall_mem_cons.mpr ⟨fun _ => mo_83, List.forall_mem_cons.mpr ⟨fun _ => mo_84, List.forall_mem_cons.mpr ⟨fun _ => mo_85, List.forall_mem_cons.mpr ⟨fun _ => mo_86, List.forall_mem_cons.mpr ⟨fun _ => mo_87, List.forall_mem_cons.mpr ⟨fun _ => mo_88, List.forall_mem_cons.mpr ⟨fun _ => mo_89, List.forall_mem_cons.mpr ⟨fun _ => mo_90, List.forall_mem_cons.mpr ⟨fun _ => mo_91, List.forall_mem_cons.mpr ⟨fun _ => mo_92, List.forall_mem_cons.mpr ⟨fun _ => mo_93, List.forall_mem_cons.mpr ⟨fun _ => mo_94, List.forall_mem_cons.mpr ⟨fun _ => mo_95, List.forall_mem_cons.mpr ⟨fun _ => mo_96, List.forall_mem_cons.mpr ⟨fun _ => mo_97, List.forall_mem_cons.mpr ⟨fun _ => mo_98, List.forall_mem_cons.mpr ⟨fun _ => mo_99, List.forall_mem_cons.mpr ⟨fun _ => mo_100, List.forall_mem_cons.mpr ⟨fun _ => mo_101, List.forall_mem_cons.mpr ⟨fun _ => mo_102, List.forall_mem_cons.mpr ⟨fun _ => mo_103, List.forall_mem_cons.mpr ⟨fun _ => mo_104, List.forall_mem_cons.mpr ⟨fun _ => mo_105, List.forall_mem_cons.mpr ⟨fun _ => mo_106, List.forall_mem_cons.mpr ⟨fun _ => mo_107, List.forall_mem_cons.mpr ⟨fun _ => mo_108, List.forall_mem_cons.mpr ⟨fun _ => mo_109, List.forall_mem_cons.mpr ⟨fun _ => mo_110, List.forall_mem_cons.mpr ⟨fun _ => mo_111, List.forall_mem_cons.mpr ⟨fun _ => mo_112, List.forall_mem_cons.mpr ⟨fun _ => mo_113, List.forall_mem_cons.mpr ⟨fun _ => mo_114, List.forall_mem_cons.mpr ⟨fun _ => mo_115, List.forall_mem_cons.mpr ⟨fun _ => mo_116, List.forall_mem_cons.mpr ⟨fun _ => mo_117, List.forall_mem_cons.mpr ⟨fun _ => mo_118, List.forall_mem_cons.mpr ⟨fun _ => mo_119, List.forall_mem_cons.mpr ⟨fun _ => mo_120, List.forall_mem_cons.mpr ⟨fun _ => mo_121, List.forall_mem_cons.mpr ⟨fun _ => mo_122, List.forall_mem_cons.mpr ⟨fun _ => mo_123, List.forall_mem_cons.mpr ⟨fun _ => mo_124, List.forall_mem_cons.mpr ⟨fun _ => mo_125, List.forall_mem_cons.mpr ⟨fun _ => mo_126, List.forall_mem_cons.mpr ⟨fun _ => mo_127, List.forall_mem_cons.mpr ⟨fun _ => mo_128, List.forall_mem_cons.mpr ⟨fun _ => mo_129, List.forall_mem_cons.mpr ⟨fun _ => mo_130, List.forall_mem_cons.mpr ⟨fun _ => mo_131, List.forall_mem_cons.mpr ⟨fun _ => mo_132, List.forall_mem_cons.mpr ⟨fun _ => mo_133, List.forall_mem_cons.mpr ⟨fun _ => mo_134, List.forall_mem_cons.mpr ⟨fun _ => mo_135, List.forall_mem_cons.mpr ⟨fun _ => mo_136, List.forall_mem_cons.mpr ⟨fun _ => mo_137, List.forall_mem_cons.mpr ⟨fun _ => mo_138, List.forall_mem_cons.mpr ⟨fun _ => mo_139, List.forall_mem_cons.mpr ⟨fun _ => mo_140, List.forall_mem_cons.mpr ⟨fun _ => mo_141, List.forall_mem_cons.mpr ⟨fun _ => mo_142, List.forall_mem_cons.mpr ⟨fun _ => mo_143, List.forall_mem_cons.mpr ⟨fun _ => mo_144, List.forall_mem_cons.mpr ⟨fun _ => mo_145, List.forall_mem_cons.mpr ⟨fun _ => mo_146, List.forall_mem_cons.mpr ⟨fun _ => mo_147, List.forall_mem_cons.mpr ⟨fun _ => mo_148, List.forall_mem_cons.mpr ⟨fun _ => mo_149, List.forall_mem_cons.mpr ⟨fun _ => mo_150, List.forall_mem_cons.mpr ⟨fun h => absurd rfl h, List.forall_mem_cons.mpr ⟨fun h => absurd rfl h, List.forall_mem_cons.mpr ⟨fun _ => mo_153, List.forall_mem_cons.mpr ⟨fun h => absurd rfl h, List.forall_mem_cons.mpr ⟨fun _ => mo_155, fun _ h => absurd h List.not_mem_nil⟩⟩⟩⟩⟩⟩⟩⟩⟩⟩⟩⟩⟩⟩⟩⟩⟩⟩⟩⟩⟩⟩⟩⟩⟩⟩⟩⟩⟩⟩⟩⟩⟩⟩⟩⟩⟩⟩⟩⟩⟩⟩⟩⟩⟩⟩⟩⟩⟩⟩⟩⟩⟩⟩⟩⟩⟩⟩⟩⟩⟩⟩⟩⟩⟩⟩⟩⟩⟩⟩⟩⟩⟩⟩⟩⟩⟩⟩⟩⟩⟩⟩⟩⟩⟩⟩⟩⟩⟩⟩⟩⟩⟩⟩⟩⟩⟩⟩⟩⟩⟩⟩⟩⟩⟩⟩⟩⟩⟩⟩⟩⟩⟩⟩⟩⟩⟩⟩⟩⟩⟩⟩⟩⟩⟩⟩⟩⟩⟩⟩⟩⟩⟩⟩⟩⟩⟩⟩⟩⟩⟩⟩⟩⟩⟩⟩⟩⟩⟩⟩⟩⟩⟩⟩⟩⟩
end
section
set_option maxRecDepth 100000 in
theorem mo_all : ∀ y, y < ms_Y.2.2.length → (mm_me ms_Y y).1 ≠ [] → mm_ok gd ms_nm ms_by ms_mx cs_L ms_Y y := by
  intro y hy
  have e : List.range 156 = [0, 1, 2, 3, 4, 5, 6, 7, 8, 9, 10, 11, 12, 13, 14, 15, 16, 17, 18, 19, 20, 21, 22, 23, 24, 25, 26, 27, 28, 29, 30, 31, 32, 33, 34, 35, 36, 37, 38, 39, 40, 41, 42, 43, 44, 45, 46, 47, 48, 49, 50, 51, 52, 53, 54, 55, 56, 57, 58, 59, 60, 61, 62, 63, 64, 65, 66, 67, 68, 69, 70, 71, 72, 73, 74, 75, 76, 77, 78, 79, 80, 81, 82, 83, 84, 85, 86, 87, 88, 89, 90, 91, 92, 93, 94, 95, 96, 97, 98, 99, 100, 101, 102, 103, 104, 105, 106, 107, 108, 109, 110, 111, 112, 113, 114, 115, 116, 117, 118, 119, 120, 121, 122, 123, 124, 125, 126, 127, 128, 129, 130, 131, 132, 133, 134, 135, 136, 137, 138, 139, 140, 141, 142, 143, 144, 145, 146, 147, 148, 149, 150, 151, 152, 153, 154, 155] := by decide
  exact mo_list y (by rw [← e]; exact List.mem_range.mpr hy)
end

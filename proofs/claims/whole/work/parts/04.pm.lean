/-! THE PURE MACHINE: cells by numbers from 0 on (a cell of the heap: its number above the base n0), frames of locals and stack, one step of a method's code as a predicate transformer; what it says is carried over to the machine by ONE theorem (part 06). -/
abbrev pE : Type := (Nat × Nat × ((Nat → Int32) ⊕ (Nat → Int64))) ⊕ (Nat × List Value)
abbrev pS : Type := Nat × (Nat → pE)
abbrev pL : Type := List (Option Value)
abbrev pR : Type := Option Value ⊕ String
abbrev pQ : Type := pR → pS → Prop
abbrev pF : Type := Nat → pL → List Value → Nat → Nat → pS → Prop
abbrev pCall : Type := Nat → List Value → pS → pQ → Prop
/-- a value as the machine has it; a return address stands for a text constant -/
def pm_v (n0 : Nat) (sa : Nat → Nat) : Value → Value
  | .ref a => .ref (n0 + a)
  | .retAddr k => .ref (sa k)
  | v => v
def pm_e (n0 : Nat) (sa : Nat → Nat) (ck : Nat → ClassId) : pE → va_E
  | .inl (k, n, .inl f) => .inl (ck k, n, .inl f)
  | .inl (k, n, .inr f) => .inl (ck k, n, .inr (.inl f))
  | .inr (c, fs) => .inr (c, fs.map (pm_v n0 sa))
def pm_w (n0 : Nat) (sa : Nat → Nat) (ck : Nat → ClassId) (S : pS) : va_W := (List.range S.1).map (fun i => (n0 + i, pm_e n0 sa ck (S.2 i)))
/-- a method's own tables: code (with a branch's target), fields by pool number (class, place), methods by pool number (kind, number, how many arguments, class), constants, classes to be made (number, fields at first), texts thrown with (by the place of the new: the class), the answer's type, whether it is a constructor, its handlers (by place and class: it answers that; it goes on; unknown), the script that it reads -/
abbrev pC : Type := (Nat → Option (Instr × Nat)) × (Nat → Option (Nat × Nat)) × (Nat → Option (Nat × Nat × Nat × Nat)) × (Nat → Option Value) × (Nat → Option (Nat × List Value)) × (Nat → Option String) × Option FieldType × Bool × (Nat → String → Option (Option Int32)) × Option (Nat × (Nat → Int32))
abbrev pc_in (C : pC) : Nat → Option (Instr × Nat) := C.1
abbrev pc_fl (C : pC) : Nat → Option (Nat × Nat) := C.2.1
abbrev pc_ml (C : pC) : Nat → Option (Nat × Nat × Nat × Nat) := C.2.2.1
abbrev pc_kc (C : pC) : Nat → Option Value := C.2.2.2.1
abbrev pc_nw (C : pC) : Nat → Option (Nat × List Value) := C.2.2.2.2.1
abbrev pc_th (C : pC) : Nat → Option String := C.2.2.2.2.2.1
abbrev pc_rt (C : pC) : Option FieldType := C.2.2.2.2.2.2.1
abbrev pc_ini (C : pC) : Bool := C.2.2.2.2.2.2.2.1
abbrev pc_hd (C : pC) : Nat → String → Option (Option Int32) := C.2.2.2.2.2.2.2.2.1
abbrev pc_sc (C : pC) : Option (Nat × (Nat → Int32)) := C.2.2.2.2.2.2.2.2.2
def pm_o {α : Type} (o : Option α) (f : α → Prop) : Prop := match o with
  | some x => f x
  | none => False
def pm_get (ls : pL) (i : Nat) : Option Value := (ls[i]?).join
def pm_clr (ls : pL) (i : Nat) : pL := match i with
  | 0 => ls
  | j + 1 => match pm_get ls j with
    | some w => if w.category = 2 then ls.set j none else ls
    | none => ls
def pm_set (ls : pL) (i : Nat) (v : Value) : pL := if v.category = 2 then (((pm_clr ls i).set i (some v)).set (i + 1) none) else ((pm_clr ls i).set i (some v))
def pm_gi (ls : pL) (i : Nat) (f : Int32 → Prop) : Prop := match pm_get ls i with
  | some (.int x) => f x
  | _ => False
def pm_gl (ls : pL) (i : Nat) (f : Int64 → Prop) : Prop := match pm_get ls i with
  | some (.long x) => f x
  | _ => False
/-- a cell, or a text -/
def pm_isr (v : Value) : Bool := match v with
  | .ref _ => true
  | .retAddr _ => true
  | _ => false
def pm_ga (ls : pL) (i : Nat) (f : Value → Prop) : Prop := match pm_get ls i with
  | some v => pm_isr v = true ∧ f v
  | none => False
def pm_i (st : List Value) (f : Int32 → List Value → Prop) : Prop := match st with
  | .int x :: r => f x r
  | _ => False
def pm_l (st : List Value) (f : Int64 → List Value → Prop) : Prop := match st with
  | .long x :: r => f x r
  | _ => False
def pm_ii (st : List Value) (f : Int32 → Int32 → List Value → Prop) : Prop := match st with
  | .int y :: .int x :: r => f x y r
  | _ => False
def pm_ll (st : List Value) (f : Int64 → Int64 → List Value → Prop) : Prop := match st with
  | .long y :: .long x :: r => f x y r
  | _ => False
def pm_li (st : List Value) (f : Int64 → Int32 → List Value → Prop) : Prop := match st with
  | .int y :: .long x :: r => f x y r
  | _ => False
def pm_a (st : List Value) (f : Value → List Value → Prop) : Prop := match st with
  | v :: r => pm_isr v = true ∧ f v r
  | _ => False
def pm_r (st : List Value) (f : Nat → List Value → Prop) : Prop := match st with
  | .ref a :: r => f a r
  | _ => False
def pm_vr (st : List Value) (f : Value → Nat → List Value → Prop) : Prop := match st with
  | v :: .ref a :: r => f v a r
  | _ => False
def pm_ir (st : List Value) (f : Int32 → Nat → List Value → Prop) : Prop := match st with
  | .int i :: .ref a :: r => f i a r
  | _ => False
def pm_iir (st : List Value) (f : Int32 → Int32 → Nat → List Value → Prop) : Prop := match st with
  | .int x :: .int i :: .ref a :: r => f x i a r
  | _ => False
def pm_lir (st : List Value) (f : Int64 → Int32 → Nat → List Value → Prop) : Prop := match st with
  | .long x :: .int i :: .ref a :: r => f x i a r
  | _ => False
/-- an object of a class: its fields -/
def pm_ob (S : pS) (a ci : Nat) (f : List Value → Prop) : Prop := a < S.1 ∧ (match S.2 a with
  | .inr (c, fs) => c = ci ∧ f fs
  | .inl _ => False)
/-- an array of ints (of chars, of booleans), by its kind -/
def pm_ar (S : pS) (a kd : Nat) (f : Nat → (Nat → Int32) → Prop) : Prop := a < S.1 ∧ (match S.2 a with
  | .inl (k, n, .inl g) => k = kd ∧ f n g
  | _ => False)
def pm_aj (S : pS) (a : Nat) (f : Nat → (Nat → Int64) → Prop) : Prop := a < S.1 ∧ (match S.2 a with
  | .inl (k, n, .inr g) => k = 1 ∧ f n g
  | _ => False)
def pm_an (S : pS) (a : Nat) (f : Nat → Prop) : Prop := a < S.1 ∧ (match S.2 a with
  | .inl (k, n, .inl _) => k < 4 ∧ k ≠ 1 ∧ f n
  | .inl (k, n, .inr _) => k = 1 ∧ f n
  | .inr _ => False)
def pm_up (S : pS) (a : Nat) (e : pE) : pS := (S.1, va_up S.2 a e)
def pm_fit (ty : FieldType) (v : Value) : Bool := match ty, v with
  | .int, .int _ => true
  | .long, .long _ => true
  | .boolean, .int x => x == 0 || x == 1
  | .object _, .ref _ => true
  | .array _, .ref _ => true
  | _, _ => false
/-- a field's type, whether it is final -/
def pm_ft (ci k : Nat) : Option (FieldType × Bool) := match vwCl[ci]? with
  | some (_, T, N) => if k < N then (parseFieldDescriptor (T k).2.2.1).map (fun t => (t, (T k).2.2.2)) else none
  | none => none
def pm_sw (x lo hi : Int) (pc : Nat) (d : Int) (os : Array Int) (f : Nat → Prop) : Prop := if x < lo ∨ hi < x then 0 ≤ (pc : Int) + d ∧ f ((pc : Int) + d).toNat else pm_o (os[(x - lo).toNat]?) (fun o => 0 ≤ (pc : Int) + o ∧ f ((pc : Int) + o).toNat)
/-- a branch, by what the machine's own rows ask -/
def pm_cd (c : Jvm.ClassFile.Cond) (x y : Int32) (t f : Prop) : Prop := match c with
  | .eq => (x = y → t) ∧ (¬ x = y → f)
  | .ne => (¬ x = y → t) ∧ (x = y → f)
  | .lt => (x < y → t) ∧ (¬ x < y → f)
  | .ge => (y ≤ x → t) ∧ (¬ y ≤ x → f)
  | .gt => (y < x → t) ∧ (¬ y < x → f)
  | .le => (x ≤ y → t) ∧ (¬ x ≤ y → f)
def pm_ix (i : Int32) (n : Nat) (f : Prop) : Prop := ¬ (i < 0 ∨ n ≤ i.toNatClampNeg) ∧ f
def pm_ar1 (st : List Value) (n : Nat) (f : List Value → List Value → Prop) : Prop := n ≤ st.length ∧ f (st.take n).reverse (st.drop n)
/-- what a callee uses up where it returns: one that makes cells for good its whole budget, any other one nothing -/
def pm_nu (al : Bool) (u x : Nat) : Nat := match al with
  | true => u + x
  | false => u
def pm_po (C : pC) (cost : Nat → Nat × Nat × Bool × Bool) (ak : Bool × Bool) (Q : pQ) (k : pF) (pc : Nat) (ls : pL) (j : Nat) (r : List Value) (uc us : Nat) : pQ := fun o S1 => match o with
  | .inl v => k (pc + 3) ls (v.toList ++ r) (pm_nu (cost j).2.2.2 uc (cost j).1) (pm_nu (cost j).2.2.2 us (cost j).2.1) S1
  | .inr E => (match pc_hd C pc E with
    | some (some x) => ak.2 = true ∧ pc_rt C = some .int ∧ Q (.inl (some (.int x))) S1
    | some none => Q (.inr E) S1
    | none => False)
/-- a call, the budget of cells and slots that the callee may use up, what comes behind it -/
def pm_inv (C : pC) (call : pCall) (cost : Nat → Nat × Nat × Bool × Bool) (ak : Bool × Bool) (nxe mc ms : Nat) (Q : pQ) (k : pF) (pc : Nat) (ls : pL) (j : Nat) (as r : List Value) (uc us : Nat) (S : pS) : Prop :=
  r.length ≤ 4 ∧ uc + (cost j).1 ≤ mc ∧ us + (cost j).2.1 ≤ ms ∧ ((cost j).2.2.1 = true → ak.1 = true ∧ S.1 = nxe + uc) ∧ call j as S (pm_po C cost ak Q k pc ls j r uc us)
def pm_akd : ClassFile.ArrayType → Option Nat
  | .int => some 0
  | .long => some 1
  | .char => some 2
  | .boolean => some 3
  | _ => none
def pm_na (kd N : Nat) : pE := if kd = 1 then .inl (1, N, .inr (fun _ => 0)) else .inl (kd, N, .inl (fun _ => 0))
def pm_dup (st : List Value) (f : Value → List Value → Prop) : Prop := match st with
  | v :: r => v.category = 1 ∧ f v r
  | [] => False
def pm_dup2 (st : List Value) (f : Value → Value → List Value → Prop) : Prop := match st with
  | v :: w :: r => v.category = 1 ∧ w.category = 1 ∧ f v w r
  | _ => False
def pm_kl (o : Option Value) (f : Int64 → Prop) : Prop := match o with
  | some (.long x) => f x
  | _ => False
def pm_ki (o : Option Value) (f : Value → Prop) : Prop := match o with
  | some (.int x) => f (.int x)
  | some (.retAddr x) => f (.retAddr x)
  | _ => False
def pm_t (st : List Value) (f : Nat → List Value → Prop) : Prop := match st with
  | .retAddr a :: r => f a r
  | _ => False
/-- System.arraycopy of ints -/
def pm_cpy (S : pS) (st : List Value) (f : Nat → pE → List Value → Prop) : Prop := match st with
  | .int n :: .int dp :: .ref b :: .int sp :: .ref a :: r => pm_ar S a 0 (fun n0 g => pm_ar S b 0 (fun n1 h => ¬ sp < 0 ∧ ¬ dp < 0 ∧ ¬ n < 0 ∧ sp.toNatClampNeg + n.toNatClampNeg ≤ n0 ∧ dp.toNatClampNeg + n.toNatClampNeg ≤ n1 ∧ f b (.inl (0, n1, .inl (va_cpy g h sp.toNatClampNeg dp.toNatClampNeg n.toNatClampNeg))) r))
  | _ => False
/-- a load out of an array of ints, or out of the script -/
def pm_ia (C : pC) (S : pS) (st : List Value) (f : Int32 → List Value → Prop) : Prop := match st with
  | .int i :: .ref a :: r => pm_ar S a 0 (fun n g => pm_ix i n (f (g i.toNatClampNeg) r))
  | .int i :: .retAddr b :: r => b = 1000 ∧ pm_o (pc_sc C) (fun q => pm_ix i q.1 (f (q.2 i.toNatClampNeg) r))
  | _ => False
def pm_al (C : pC) (S : pS) (st : List Value) (f : Nat → List Value → Prop) : Prop := match st with
  | .ref a :: r => pm_an S a (fun n => f n r)
  | .retAddr b :: r => b = 1000 ∧ pm_o (pc_sc C) (fun q => f q.1 r)
  | _ => False
def pm_step (C : pC) (d : Nat) (call : pCall) (cost : Nat → Nat × Nat × Bool × Bool) (ak : Bool × Bool) (nxe mc ms : Nat) (Q : pQ) (k : pF) : pF := fun pc ls st uc us S =>
  match pc_in C pc with
  | none => False
  | some (ins, tg) => match ins with
    | .iconst n => k (pc + 1) ls (.int (Int32.ofInt n) :: st) uc us S
    | .bipush n => k (pc + 2) ls (.int (Int8.ofInt n).toInt32 :: st) uc us S
    | .sipush n => k (pc + 3) ls (.int (Int16.ofInt n).toInt32 :: st) uc us S
    | .lconst n => k (pc + 1) ls (.long (Int64.ofNat (n : Nat)) :: st) uc us S
    | .ldc i => pm_ki (pc_kc C i) (fun v => k (pc + 2) ls (v :: st) uc us S)
    | .ldc_w i => pm_ki (pc_kc C i) (fun v => k (pc + 3) ls (v :: st) uc us S)
    | .ldc2_w i => pm_kl (pc_kc C i) (fun x => k (pc + 3) ls (.long x :: st) uc us S)
    | .iload i => pm_gi ls i (fun x => k (pc + 2) ls (.int x :: st) uc us S)
    | .iload_n i => pm_gi ls i (fun x => k (pc + 1) ls (.int x :: st) uc us S)
    | .lload i => pm_gl ls i (fun x => k (pc + 2) ls (.long x :: st) uc us S)
    | .lload_n i => pm_gl ls i (fun x => k (pc + 1) ls (.long x :: st) uc us S)
    | .aload i => pm_ga ls i (fun v => k (pc + 2) ls (v :: st) uc us S)
    | .aload_n i => pm_ga ls i (fun v => k (pc + 1) ls (v :: st) uc us S)
    | .istore i => pm_i st (fun x r => i < ls.length ∧ k (pc + 2) (pm_set ls i (.int x)) r uc us S)
    | .istore_n i => pm_i st (fun x r => (i : Nat) < ls.length ∧ k (pc + 1) (pm_set ls i (.int x)) r uc us S)
    | .lstore i => pm_l st (fun x r => i + 1 < ls.length ∧ k (pc + 2) (pm_set ls i (.long x)) r uc us S)
    | .lstore_n i => pm_l st (fun x r => (i : Nat) + 1 < ls.length ∧ k (pc + 1) (pm_set ls i (.long x)) r uc us S)
    | .astore i => pm_a st (fun v r => i < ls.length ∧ k (pc + 2) (pm_set ls i v) r uc us S)
    | .astore_n i => pm_a st (fun v r => (i : Nat) < ls.length ∧ k (pc + 1) (pm_set ls i v) r uc us S)
    | .iinc i n => pm_gi ls i (fun x => i < ls.length ∧ k (pc + 3) (pm_set ls i (.int (x + Int32.ofInt n))) st uc us S)
    | .iadd => pm_ii st (fun x y r => k (pc + 1) ls (.int (x + y) :: r) uc us S)
    | .isub => pm_ii st (fun x y r => k (pc + 1) ls (.int (x - y) :: r) uc us S)
    | .imul => pm_ii st (fun x y r => k (pc + 1) ls (.int (x * y) :: r) uc us S)
    | .idiv => pm_ii st (fun x y r => ¬ y = 0 ∧ k (pc + 1) ls (.int (x / y) :: r) uc us S)
    | .irem => pm_ii st (fun x y r => ¬ y = 0 ∧ k (pc + 1) ls (.int (x - x / y * y) :: r) uc us S)
    | .iand => pm_ii st (fun x y r => k (pc + 1) ls (.int (x &&& y) :: r) uc us S)
    | .ior => pm_ii st (fun x y r => k (pc + 1) ls (.int (x ||| y) :: r) uc us S)
    | .ixor => pm_ii st (fun x y r => k (pc + 1) ls (.int (x ^^^ y) :: r) uc us S)
    | .ishl => pm_ii st (fun x y r => k (pc + 1) ls (.int (x <<< (y &&& 31)) :: r) uc us S)
    | .ishr => pm_ii st (fun x y r => k (pc + 1) ls (.int (x >>> (y &&& 31)) :: r) uc us S)
    | .iushr => pm_ii st (fun x y r => k (pc + 1) ls (.int (x.toUInt32 >>> (y.toUInt32 &&& Int32.toUInt32 31)).toInt32 :: r) uc us S)
    | .ladd => pm_ll st (fun x y r => k (pc + 1) ls (.long (x + y) :: r) uc us S)
    | .lsub => pm_ll st (fun x y r => k (pc + 1) ls (.long (x - y) :: r) uc us S)
    | .land => pm_ll st (fun x y r => k (pc + 1) ls (.long (x &&& y) :: r) uc us S)
    | .lor => pm_ll st (fun x y r => k (pc + 1) ls (.long (x ||| y) :: r) uc us S)
    | .lxor => pm_ll st (fun x y r => k (pc + 1) ls (.long (x ^^^ y) :: r) uc us S)
    | .lshl => pm_li st (fun x y r => k (pc + 1) ls (.long (x <<< (y.toInt64 &&& 63)) :: r) uc us S)
    | .lushr => pm_li st (fun x y r => k (pc + 1) ls (.long (x.toUInt64 >>> (y.toInt64.toUInt64 &&& Int64.toUInt64 63)).toInt64 :: r) uc us S)
    | .lcmp => pm_ll st (fun x y r => k (pc + 1) ls (.int (lg_cmp x y) :: r) uc us S)
    | .i2l => pm_i st (fun x r => k (pc + 1) ls (.long x.toInt64 :: r) uc us S)
    | .l2i => pm_l st (fun x r => k (pc + 1) ls (.int x.toInt32 :: r) uc us S)
    | .i2c => pm_i st (fun x r => k (pc + 1) ls (.int (x.toUInt32 % 65536).toInt32 :: r) uc us S)
    | .dup => pm_dup st (fun v r => k (pc + 1) ls (v :: v :: r) uc us S)
    | .pop => pm_dup st (fun _ r => k (pc + 1) ls r uc us S)
    | .dup2 => pm_dup2 st (fun v w r => k (pc + 1) ls (v :: w :: v :: w :: r) uc us S)
    | .goto _ => k tg ls st uc us S
    | .ifCond c _ => pm_i st (fun x r => pm_cd c x 0 (k tg ls r uc us S) (k (pc + 3) ls r uc us S))
    | .if_icmp c _ => pm_ii st (fun x y r => pm_cd c x y (k tg ls r uc us S) (k (pc + 3) ls r uc us S))
    | .tableswitch df lo hi os => pm_i st (fun x r => pm_sw x.toInt lo hi pc df os (fun t => k t ls r uc us S))
    | .getfield i => pm_o (pc_fl C i) (fun q => pm_r st (fun a r => pm_ob S a q.1 (fun fs => pm_o (fs[q.2]?) (fun v => k (pc + 3) ls (v :: r) uc us S))))
    | .putfield i => pm_o (pc_fl C i) (fun q => pm_vr st (fun v a r => pm_ob S a q.1 (fun fs => q.2 < fs.length ∧ pm_o (pm_ft q.1 q.2) (fun t => pm_fit t.1 v = true ∧ (t.2 = true → pc_ini C = true) ∧ k (pc + 3) ls r uc us (pm_up S a (.inr (q.1, fs.set q.2 v)))))))
    | .iaload => pm_ia C S st (fun x r => k (pc + 1) ls (.int x :: r) uc us S)
    | .caload => pm_ir st (fun i a r => pm_ar S a 2 (fun n f => pm_ix i n (k (pc + 1) ls (.int (f i.toNatClampNeg) :: r) uc us S)))
    | .baload => pm_ir st (fun i a r => pm_ar S a 3 (fun n f => pm_ix i n (k (pc + 1) ls (.int (f i.toNatClampNeg) :: r) uc us S)))
    | .laload => pm_ir st (fun i a r => pm_aj S a (fun n f => pm_ix i n (k (pc + 1) ls (.long (f i.toNatClampNeg) :: r) uc us S)))
    | .iastore => pm_iir st (fun x i a r => pm_ar S a 0 (fun n f => pm_ix i n (k (pc + 1) ls r uc us (pm_up S a (.inl (0, n, .inl (upd f i.toNatClampNeg x)))))))
    | .castore => pm_iir st (fun x i a r => pm_ar S a 2 (fun n f => pm_ix i n (k (pc + 1) ls r uc us (pm_up S a (.inl (2, n, .inl (upd f i.toNatClampNeg (vp_nar .char x))))))))
    | .bastore => pm_iir st (fun x i a r => pm_ar S a 3 (fun n f => pm_ix i n (k (pc + 1) ls r uc us (pm_up S a (.inl (3, n, .inl (upd f i.toNatClampNeg (vp_nar .boolean x))))))))
    | .lastore => pm_lir st (fun x i a r => pm_aj S a (fun n f => pm_ix i n (k (pc + 1) ls r uc us (pm_up S a (.inl (1, n, .inr (vp_updL f i.toNatClampNeg x)))))))
    | .arraylength => pm_al C S st (fun n r => k (pc + 1) ls (.int (Int32.ofNat n) :: r) uc us S)
    | .invokestatic i => pm_o (pc_ml C i) (fun q => match q.1 with
      | 0 => pm_ar1 st q.2.2.1 (fun as r => pm_inv C call cost ak nxe mc ms Q k pc ls q.2.1 as r uc us S)
      | 4 => 3 ≤ d ∧ pm_cpy S st (fun b e r => r.length ≤ 4 ∧ k (pc + 3) ls r uc us (pm_up S b e))
      | 7 => 2 ≤ d ∧ pm_ii st (fun x y r => r.length ≤ 4 ∧ k (pc + 3) ls (.int (if x < y then y else x) :: r) uc us S)
      | 8 => 2 ≤ d ∧ pm_ii st (fun x y r => r.length ≤ 4 ∧ k (pc + 3) ls (.int (if y < x then y else x) :: r) uc us S)
      | 9 => pm_ar1 st q.2.2.1 (fun as r => pm_inv C call cost ak nxe mc ms Q k pc ls q.2.1 as r uc us S)
      | _ => False)
    | .invokevirtual i => pm_o (pc_ml C i) (fun q => match q.1 with
      | 1 => pm_ar1 st q.2.2.1 (fun as r => pm_r r (fun b r => pm_ob S b q.2.2.2 (fun _ => True) ∧ pm_inv C call cost ak nxe mc ms Q k pc ls q.2.1 (.ref b :: as) r uc us S))
      | 6 => pm_ar1 st q.2.2.1 (fun as r => pm_t r (fun b r => b < 26 ∧ pm_inv C call cost ak nxe mc ms Q k pc ls q.2.1 (.retAddr b :: as) r uc us S))
      | _ => False)
    | .invokespecial i => pm_o (pc_ml C i) (fun q => match q.1 with
      | 2 => pm_ar1 st q.2.2.1 (fun as r => pm_r r (fun b r => pm_inv C call cost ak nxe mc ms (fun _ _ => False) k pc ls q.2.1 (.ref b :: as) r uc us S))
      | 3 => 2 ≤ d ∧ pm_r st (fun b r => pm_ob S b q.2.2.2 (fun _ => True) ∧ r = [] ∧ k (pc + 3) ls r uc us S)
      | 5 => pm_ar1 st q.2.2.1 (fun as r => pm_r r (fun b r => pm_inv C call cost ak nxe mc ms (fun _ _ => False) k pc ls q.2.1 (.ref b :: as) r uc us S))
      | _ => False)
    | .new i => (match pc_th C pc with
      | some E => 7 ≤ d ∧ st.length ≤ 4 ∧ uc + 1 ≤ mc ∧ us + 6 ≤ ms ∧ Q (.inr E) S
      | none => pm_o (pc_nw C i) (fun q => uc + 1 ≤ mc ∧ us + q.2.length ≤ ms ∧ (ak.1 = true ∧ S.1 = nxe + uc) ∧ k (pc + 3) ls (.ref S.1 :: st) (uc + 1) (us + q.2.length) (S.1 + 1, va_up S.2 S.1 (.inr q))))
    | .newarray t => pm_o (pm_akd t) (fun kd => pm_i st (fun n r => ¬ n < 0 ∧ n.toNatClampNeg ≤ 65536 ∧ uc + 1 ≤ mc ∧ us + n.toNatClampNeg ≤ ms ∧ (ak.1 = true ∧ S.1 = nxe + uc) ∧ k (pc + 2) ls (.ref S.1 :: r) (uc + 1) (us + n.toNatClampNeg) (S.1 + 1, va_up S.2 S.1 (pm_na kd n.toNatClampNeg))))
    | .ireturn => pm_i st (fun x r => r = [] ∧ pm_o (pc_rt C) (fun ty => pm_fit ty (.int x) = true ∧ (ak.2 = false → uc = 0 ∧ us = 0) ∧ Q (.inl (some (.int x))) S))
    | .lreturn => pm_l st (fun x r => r = [] ∧ pc_rt C = some .long ∧ (ak.2 = false → uc = 0 ∧ us = 0) ∧ Q (.inl (some (.long x))) S)
    | .return_ => st = [] ∧ pc_rt C = none ∧ (ak.2 = false → uc = 0 ∧ us = 0) ∧ Q (.inl none) S
    | _ => False
/-- the least predicate that is closed under the step -/
def pm_ev (C : pC) (d : Nat) (call : pCall) (cost : Nat → Nat × Nat × Bool × Bool) (ak : Bool × Bool) (nxe mc ms : Nat) (Q : pQ) : pF := fun pc ls st uc us S =>
  ∀ X : pF, (∀ pc ls st uc us S, pm_step C d call cost ak nxe mc ms Q X pc ls st uc us S → X pc ls st uc us S) → X pc ls st uc us S
def pm_sl (v : Value) : pL := if v.category = 2 then [some v, none] else [some v]
def pm_ent (maxL : Nat) (as : List Value) : pL := as.flatMap pm_sl ++ List.replicate (maxL - (as.flatMap pm_sl).length) none
/-- the methods: tables, locals; what isn't among them is told from outside -/
def pm_call (M : Nat → Option (pC × Nat)) (cost : Nat → Nat × Nat × Bool × Bool) (ext : pCall) : Nat → pCall
  | 0 => fun _ _ _ _ => False
  | d + 1 => fun j as S Q => match M j with
    | some q => (as.flatMap pm_sl).length ≤ q.2 ∧ pm_ev q.1 (d + 1) (pm_call M cost ext d) cost (cost j).2.2 S.1 (cost j).1 (cost j).2.1 Q 0 (pm_ent q.2 as) [] 0 0 S
    | none => 5 ≤ d ∧ ext j as S Q

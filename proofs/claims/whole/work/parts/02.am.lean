/-! The abstract machine: a method's body over a memory without addresses. A cell has a code (a number); its ints, references and longs stand in three functions of code and place.
A state: pc, locals, stack, the three functions, and how many throws are left to be paid for. 'am_sem' is one instruction as a weakest precondition: V: what is wanted of the next state; K: of the method's end; C: what a call of method j does. -/
abbrev am_V : Type := Int32 ⊕ (Int64 ⊕ Option Nat)
abbrev am_L : Type := List (Nat × am_V)
abbrev am_I : Type := Nat → Nat → Int32
abbrev am_P : Type := Nat → Nat → Option Nat
abbrev am_J : Type := Nat → Nat → Int64
abbrev am_O : Type := Option am_V ⊕ Nat
abbrev am_W : Type := Nat → am_L → List am_V → am_I → am_P → am_J → Nat → Prop
abbrev am_K : Type := am_O → am_I → am_P → am_J → Nat → Prop
abbrev am_T : Type := List am_V → am_I → am_P → am_J → Nat → am_K → Prop
abbrev am_S : Type := Nat × (Nat → Int32)
/-- a row: the instruction (of its family the plain one), the next pc, two numbers, a constant, a switch's cases, the handlers that stand over it -/
abbrev am_R : Type := Instr × Nat × Nat × Nat × Int32 × List (Int32 × Nat) × List (Nat × Nat)
def am_nop : am_R := (.nop, 0, 0, 0, 0, [], [])
def am_ld : am_L → Nat → (am_V → Prop) → Prop
  | [], _, _ => False
  | (j, v) :: r, i, k => match Nat.beq j i with
    | true => k v
    | false => am_ld r i k
def am_st : am_L → Nat → am_V → (am_L → Prop) → Prop
  | [], i, v, k => k [(i, v)]
  | (j, w) :: r, i, v, k => match Nat.beq j i with
    | true => k ((i, v) :: r)
    | false => am_st r i v (fun r' => k ((j, w) :: r'))
/-- the first n of a stack, the lowest first -/
def am_pop : Nat → List am_V → List am_V → (List am_V → List am_V → Prop) → Prop
  | 0, st, acc, k => k acc st
  | _ + 1, [], _, _ => False
  | n + 1, v :: st, acc, k => am_pop n st (v :: acc) k
/-- no long among them -/
def am_nol : List am_V → Bool
  | [] => true
  | .inr (.inl _) :: _ => false
  | _ :: r => am_nol r
def am_ui (I : am_I) (o a : Nat) (x : Int32) : am_I := fun q => match Nat.beq q o with
  | true => upd (I q) a x
  | false => I q
def am_up (P : am_P) (o a : Nat) (x : Option Nat) : am_P := fun q => match Nat.beq q o with
  | true => va_up (P q) a x
  | false => P q
def am_uj (J : am_J) (o a : Nat) (x : Int64) : am_J := fun q => match Nat.beq q o with
  | true => vp_updL (J q) a x
  | false => J q
def am_cp (I : am_I) (a d sp dp n : Nat) : am_I := fun q => match Nat.beq q d with
  | true => va_cpy (I a) (I q) sp dp n
  | false => I q
/-- kinds of cells: 0 n: n ints; 1 n: n booleans; 2 n: n longs; 3 n: n references to objects of class 7; 4 n: n references to rows of ints; 5 c: an object of class c; 9: none -/
def am_kd (k : Nat) : Nat × Nat := match Nat.ble k 21 with
  | true => match Nat.ble k 10 with
    | true => match Nat.ble k 4 with
      | true => match Nat.ble k 1 with
        | true => match Nat.ble k 0 with
          | true => (5, 0)
          | false => (5, 1)
        | false => match Nat.ble k 2 with
          | true => (0, 64)
          | false => match Nat.ble k 3 with
            | true => (0, 8)
            | false => (5, 2)
      | false => match Nat.ble k 7 with
        | true => match Nat.ble k 5 with
          | true => (0, 7)
          | false => match Nat.ble k 6 with
            | true => (1, 64)
            | false => (0, 64)
        | false => match Nat.ble k 8 with
          | true => (5, 3)
          | false => match Nat.ble k 9 with
            | true => (0, 8)
            | false => (0, 40)
    | false => match Nat.ble k 15 with
      | true => match Nat.ble k 12 with
        | true => match Nat.ble k 11 with
          | true => (0, 8)
          | false => (5, 4)
        | false => match Nat.ble k 13 with
          | true => (3, 8)
          | false => match Nat.ble k 14 with
            | true => (5, 5)
            | false => (5, 6)
      | false => match Nat.ble k 18 with
        | true => match Nat.ble k 17 with
          | true => (0, 20)
          | false => (0, 8)
        | false => match Nat.ble k 20 with
          | true => (4, 8)
          | false => (5, 8)
  | false => match Nat.ble k 38 with
    | true => match Nat.ble k 30 with
      | true => match Nat.ble k 25 with
        | true => match Nat.ble k 22 with
          | true => (0, 64)
          | false => match Nat.ble k 23 with
            | true => (0, 8)
            | false => (0, 4)
        | false => match Nat.ble k 27 with
          | true => match Nat.ble k 26 with
            | true => (0, 40)
            | false => (0, 8)
          | false => match Nat.ble k 28 with
            | true => (0, 15)
            | false => (0, 8)
      | false => match Nat.ble k 33 with
        | true => match Nat.ble k 32 with
          | true => (0, 8)
          | false => (0, 64)
        | false => match Nat.ble k 35 with
          | true => (0, 72)
          | false => match Nat.ble k 37 with
            | true => (0, 20)
            | false => (0, 8)
    | false => match Nat.ble k 39 with
      | true => (2, 1)
      | false => match Nat.ble k 47 with
        | true => (5, 7)
        | false => match Nat.ble k 71 with
          | true => (0, 9)
          | false => (9, 0)
def am_l0 : Nat × Nat → Nat
  | (0, n) => n
  | _ => 0
def am_l1 : Nat × Nat → Nat
  | (1, n) => n
  | _ => 0
def am_l2 : Nat × Nat → Nat
  | (2, n) => n
  | _ => 0
def am_l3 : Nat × Nat → Nat
  | (3, n) => n
  | (4, n) => n
  | _ => 0
def am_ai (o : Nat) : Nat := am_l0 (am_kd o)
def am_az (o : Nat) : Nat := am_l1 (am_kd o)
def am_aj (o : Nat) : Nat := am_l2 (am_kd o)
def am_ar (o : Nat) : Nat := am_l3 (am_kd o)
section SEM
variable (sc : am_S) (C : Nat → am_T) (V : am_W) (K : am_K) (nx a b : Nat) (ls : am_L) (st : List am_V) (I : am_I) (P : am_P) (J : am_J) (n : Nat)
def am_iload : Prop := am_ld ls a fun v => match v with
  | .inl z => V nx ls (.inl z :: st) I P J n
  | _ => False
def am_aload : Prop := am_ld ls a fun v => match v with
  | .inr (.inr z) => V nx ls (.inr (.inr z) :: st) I P J n
  | _ => False
def am_istore : Prop := match st with
  | .inl z :: st' => am_st ls a (.inl z) fun ls' => V nx ls' st' I P J n
  | _ => False
def am_astore : Prop := match st with
  | .inr (.inr z) :: st' => am_st ls a (.inr (.inr z)) fun ls' => V nx ls' st' I P J n
  | _ => False
def am_iinc (k : Int32) : Prop := am_ld ls a fun v => match v with
  | .inl z => am_st ls a (.inl (z + k)) fun ls' => V nx ls' st I P J n
  | _ => False
def am_bin (f : Int32 → Int32 → Int32) : Prop := match st with
  | .inl y :: .inl x :: st' => V nx ls (.inl (f x y) :: st') I P J n
  | _ => False
def am_div (f : Int32 → Int32 → Int32) : Prop := match st with
  | .inl y :: .inl x :: st' => (¬ y = 0) ∧ V nx ls (.inl (f x y) :: st') I P J n
  | _ => False
def am_dup : Prop := match st with
  | .inl x :: st' => V nx ls (.inl x :: .inl x :: st') I P J n
  | .inr (.inr x) :: st' => V nx ls (.inr (.inr x) :: .inr (.inr x) :: st') I P J n
  | _ => False
def am_dup2 : Prop := match st with
  | .inl x :: .inr (.inr r) :: st' => V nx ls (.inl x :: .inr (.inr r) :: .inl x :: .inr (.inr r) :: st') I P J n
  | _ => False
def am_if_eq : Prop := match st with
  | .inl x :: st' => (x = 0 → V a ls st' I P J n) ∧ (¬ x = 0 → V nx ls st' I P J n)
  | _ => False
def am_if_lt : Prop := match st with
  | .inl x :: st' => (x < 0 → V a ls st' I P J n) ∧ (¬ x < 0 → V nx ls st' I P J n)
  | _ => False
def am_if_ge : Prop := match st with
  | .inl x :: st' => (0 ≤ x → V a ls st' I P J n) ∧ (¬ 0 ≤ x → V nx ls st' I P J n)
  | _ => False
def am_if_gt : Prop := match st with
  | .inl x :: st' => (0 < x → V a ls st' I P J n) ∧ (¬ 0 < x → V nx ls st' I P J n)
  | _ => False
def am_if_le : Prop := match st with
  | .inl x :: st' => (x ≤ 0 → V a ls st' I P J n) ∧ (¬ x ≤ 0 → V nx ls st' I P J n)
  | _ => False
def am_cm_eq : Prop := match st with
  | .inl y :: .inl x :: st' => (x = y → V a ls st' I P J n) ∧ (¬ x = y → V nx ls st' I P J n)
  | _ => False
def am_cm_lt : Prop := match st with
  | .inl y :: .inl x :: st' => (x < y → V a ls st' I P J n) ∧ (¬ x < y → V nx ls st' I P J n)
  | _ => False
def am_cm_ge : Prop := match st with
  | .inl y :: .inl x :: st' => (y ≤ x → V a ls st' I P J n) ∧ (¬ y ≤ x → V nx ls st' I P J n)
  | _ => False
def am_cm_gt : Prop := match st with
  | .inl y :: .inl x :: st' => (y < x → V a ls st' I P J n) ∧ (¬ y < x → V nx ls st' I P J n)
  | _ => False
def am_cm_le : Prop := match st with
  | .inl y :: .inl x :: st' => (x ≤ y → V a ls st' I P J n) ∧ (¬ x ≤ y → V nx ls st' I P J n)
  | _ => False
def am_nonnull : Prop := match st with
  | .inr (.inr none) :: st' => V nx ls st' I P J n
  | .inr (.inr (some _)) :: st' => V a ls st' I P J n
  | _ => False
def am_cases (x : Int32) (st' : List am_V) : List (Int32 × Nat) → Prop
  | [] => V a ls st' I P J n
  | (v, t) :: r => (x = v → V t ls st' I P J n) ∧ (¬ x = v → am_cases x st' r)
def am_table (sw : List (Int32 × Nat)) : Prop := match st with
  | .inl x :: st' => am_cases V a ls I P J n x st' sw
  | _ => False
def am_geti : Prop := match st with
  | .inr (.inr (some o)) :: st' => am_kd o = (5, b) ∧ V nx ls (.inl (I o a) :: st') I P J n
  | _ => False
def am_getr : Prop := match st with
  | .inr (.inr (some o)) :: st' => am_kd o = (5, b) ∧ V nx ls (.inr (.inr (P o a)) :: st') I P J n
  | _ => False
def am_puti : Prop := match st with
  | .inl x :: .inr (.inr (some o)) :: st' => am_kd o = (5, b) ∧ V nx ls st' (am_ui I o a x) P J n
  | _ => False
def am_putr : Prop := match st with
  | .inr (.inr x) :: .inr (.inr (some o)) :: st' => am_kd o = (5, b) ∧ V nx ls st' I (am_up P o a x) J n
  | _ => False
def am_iald : Prop := match st with
  | .inl x :: .inr (.inr (some o)) :: st' => match Nat.beq o 900 with
    | true => vp_in x sc.1 ∧ V nx ls (.inl (sc.2 x.toNatClampNeg) :: st') I P J n
    | false => vp_in x (am_ai o) ∧ V nx ls (.inl (I o x.toNatClampNeg) :: st') I P J n
  | _ => False
def am_iast : Prop := match st with
  | .inl v :: .inl x :: .inr (.inr (some o)) :: st' => vp_in x (am_ai o) ∧ V nx ls st' (am_ui I o x.toNatClampNeg v) P J n
  | _ => False
def am_zald : Prop := match st with
  | .inl x :: .inr (.inr (some o)) :: st' => vp_in x (am_az o) ∧ V nx ls (.inl (I o x.toNatClampNeg) :: st') I P J n
  | _ => False
def am_zast : Prop := match st with
  | .inl v :: .inl x :: .inr (.inr (some o)) :: st' => vp_in x (am_az o) ∧ V nx ls st' (am_ui I o x.toNatClampNeg (vp_nar .boolean v)) P J n
  | _ => False
def am_aald : Prop := match st with
  | .inl x :: .inr (.inr (some o)) :: st' => vp_in x (am_ar o) ∧ V nx ls (.inr (.inr (P o x.toNatClampNeg)) :: st') I P J n
  | _ => False
def am_lald : Prop := match st with
  | .inl x :: .inr (.inr (some o)) :: st' => vp_in x (am_aj o) ∧ V nx ls (.inr (.inl (J o x.toNatClampNeg)) :: st') I P J n
  | _ => False
def am_last : Prop := match st with
  | .inr (.inl v) :: .inl x :: .inr (.inr (some o)) :: st' => vp_in x (am_aj o) ∧ V nx ls st' I P (am_uj J o x.toNatClampNeg v) n
  | _ => False
def am_alen : Prop := match st with
  | .inr (.inr (some o)) :: st' => o = 900 ∧ V nx ls (.inl (Int32.ofNat sc.1) :: st') I P J n
  | _ => False
def am_i2l : Prop := match st with
  | .inl x :: st' => V nx ls (.inr (.inl x.toInt64) :: st') I P J n
  | _ => False
def am_lcmp : Prop := match st with
  | .inr (.inl y) :: .inr (.inl x) :: st' => V nx ls (.inl (lg_cmp x y) :: st') I P J n
  | _ => False
/-- System.arraycopy between two rows of ints -/
def am_copy : Prop := match st with
  | [.inl k, .inl dp, .inr (.inr (some d)), .inl sp, .inr (.inr (some o))] =>
    (vp_in 0 (am_ai o) ∧ vp_in 0 (am_ai d) ∧ ¬ sp < 0 ∧ ¬ dp < 0 ∧ ¬ k < 0 ∧ sp.toNatClampNeg + k.toNatClampNeg ≤ am_ai o ∧ dp.toNatClampNeg + k.toNatClampNeg ≤ am_ai d) ∧
      V nx ls [] (am_cp I o d sp.toNatClampNeg dp.toNatClampNeg k.toNatClampNeg) P J n
  | _ => False
/-- a method's end: b = 1: a boolean -/
def am_iret : Prop := match st with
  | [.inl x] => match b with
    | 0 => K (.inl (some (.inl x))) I P J n
    | _ => (x = 0 ∨ x = 1) ∧ K (.inl (some (.inl x))) I P J n
  | _ => False
def am_aret : Prop := match st with
  | [.inr (.inr x)] => K (.inl (some (.inr (.inr x)))) I P J n
  | _ => False
def am_vret : Prop := match st with
  | [] => K (.inl none) I P J n
  | _ => False
def am_throw : Prop := match n, st with
  | k + 1, [] => K (.inr a) I P J k
  | _, _ => False
/-- the handlers over a call: the exception's number, the pc behind the handler's first instruction (which puts the exception away) -/
def am_hand (E : Nat) : List (Nat × Nat) → Prop
  | [] => K (.inr E) I P J n
  | (e, t) :: r => match Nat.beq e E with
    | true => V t [] [] I P J n
    | false => am_hand E r
/-- behind a call -/
def am_ret (st' : List am_V) (hs : List (Nat × Nat)) : am_K := fun o I' P' J' n' => match o with
  | .inl none => V nx ls st' I' P' J' n'
  | .inl (some v) => V nx ls (v :: st') I' P' J' n'
  | .inr E => am_hand V K I' P' J' n' E hs
/-- a call of the static method a with b arguments -/
def am_calls (hs : List (Nat × Nat)) : Prop := am_pop b st [] fun as st' => match Nat.ble st'.length 4 && am_nol as with
  | true => C a as I P J n (am_ret V K nx ls st' hs)
  | false => False
/-- a call of method a with b arguments, the receiver an object of class k -/
def am_callv (k : Nat) (hs : List (Nat × Nat)) : Prop := am_pop b st [] fun as st' => match as with
  | .inr (.inr (some o)) :: _ => am_kd o = (5, k) ∧ match Nat.ble st'.length 4 && am_nol as with
    | true => C a as I P J n (am_ret V K nx ls st' hs)
    | false => False
  | _ => False
end SEM
def am_shl (x y : Int32) : Int32 := x <<< (y &&& 31)
def am_shr (x y : Int32) : Int32 := x >>> (y &&& 31)
def am_ushr (x y : Int32) : Int32 := (x.toUInt32 >>> (y.toUInt32 &&& Int32.toUInt32 31)).toInt32
def am_rem (x y : Int32) : Int32 := x - x / y * y
def am_sem (sc : am_S) (C : Nat → am_T) (V : am_W) (K : am_K) (row : am_R) (ls : am_L) (st : List am_V) (I : am_I) (P : am_P) (J : am_J) (n : Nat) : Prop :=
  match row with
  | (i, nx, a, b, k, sw, hs) => match i with
    | .iconst _ => V nx ls (.inl k :: st) I P J n
    | .iload _ => am_iload V nx a ls st I P J n
    | .aload _ => am_aload V nx a ls st I P J n
    | .istore _ => am_istore V nx a ls st I P J n
    | .astore _ => am_astore V nx a ls st I P J n
    | .iinc _ _ => am_iinc V nx a ls st I P J n k
    | .iadd => am_bin V nx ls st I P J n HAdd.hAdd
    | .isub => am_bin V nx ls st I P J n HSub.hSub
    | .imul => am_bin V nx ls st I P J n HMul.hMul
    | .iand => am_bin V nx ls st I P J n HAnd.hAnd
    | .ior => am_bin V nx ls st I P J n HOr.hOr
    | .ixor => am_bin V nx ls st I P J n HXor.hXor
    | .ishl => am_bin V nx ls st I P J n am_shl
    | .ishr => am_bin V nx ls st I P J n am_shr
    | .iushr => am_bin V nx ls st I P J n am_ushr
    | .idiv => am_div V nx ls st I P J n HDiv.hDiv
    | .irem => am_div V nx ls st I P J n am_rem
    | .dup => am_dup V nx ls st I P J n
    | .dup2 => am_dup2 V nx ls st I P J n
    | .ifCond .eq _ => am_if_eq V nx a ls st I P J n
    | .ifCond .ne _ => am_if_eq V a nx ls st I P J n
    | .ifCond .lt _ => am_if_lt V nx a ls st I P J n
    | .ifCond .ge _ => am_if_ge V nx a ls st I P J n
    | .ifCond .gt _ => am_if_gt V nx a ls st I P J n
    | .ifCond .le _ => am_if_le V nx a ls st I P J n
    | .if_icmp .eq _ => am_cm_eq V nx a ls st I P J n
    | .if_icmp .ne _ => am_cm_eq V a nx ls st I P J n
    | .if_icmp .lt _ => am_cm_lt V nx a ls st I P J n
    | .if_icmp .ge _ => am_cm_ge V nx a ls st I P J n
    | .if_icmp .gt _ => am_cm_gt V nx a ls st I P J n
    | .if_icmp .le _ => am_cm_le V nx a ls st I P J n
    | .ifnonnull _ => am_nonnull V nx a ls st I P J n
    | .goto _ => V a ls st I P J n
    | .tableswitch _ _ _ _ => am_table V a ls st I P J n sw
    | .aconst_null => V nx ls (.inr (.inr none) :: st) I P J n
    | .getfield _ => match hs with
      | [] => am_geti V nx a b ls st I P J n
      | _ => am_getr V nx a b ls st I P J n
    | .putfield _ => match hs with
      | [] => am_puti V nx a b ls st I P J n
      | _ => am_putr V nx a b ls st I P J n
    | .iaload => am_iald sc V nx ls st I P J n
    | .iastore => am_iast V nx ls st I P J n
    | .baload => am_zald V nx ls st I P J n
    | .bastore => am_zast V nx ls st I P J n
    | .aaload => am_aald V nx ls st I P J n
    | .laload => am_lald V nx ls st I P J n
    | .lastore => am_last V nx ls st I P J n
    | .arraylength => am_alen sc V nx ls st I P J n
    | .i2l => am_i2l V nx ls st I P J n
    | .lcmp => am_lcmp V nx ls st I P J n
    | .swap => am_copy V nx ls st I P J n
    | .ireturn => am_iret K b st I P J n
    | .areturn => am_aret K st I P J n
    | .return_ => am_vret K st I P J n
    | .athrow => am_throw K a st I P J n
    | .invokevirtual _ => match sw with
      | (_, q) :: _ => am_callv C V K nx a b ls st I P J n q hs
      | [] => False
    | .invokestatic _ => am_calls C V K nx a b ls st I P J n hs
    | _ => False
/-- V holds wherever one instruction more brings it about -/
def am_closed (sc : am_S) (C : Nat → am_T) (tb : Nat → am_R) (V : am_W) (K : am_K) : Prop :=
  ∀ pc ls st I P J n, am_sem sc C V K (tb pc) ls st I P J n → V pc ls st I P J n
/-- the locals with which a method begins -/
def am_args : Nat → List am_V → am_L
  | _, [] => []
  | i, v :: vs => (i, v) :: am_args (i + 1) vs
/-- what holds with fewer locals known holds with more -/
def am_drop (V : am_W) : Prop := ∀ (k pc : Nat) (ls : am_L) (st : List am_V) (I : am_I) (P : am_P) (J : am_J) (n : Nat), V pc (ls.take k) st I P J n → V pc ls st I P J n
/-- a method's body does what T says -/
def am_ok (sc : am_S) (C : Nat → am_T) (tb : Nat → am_R) (T : am_T) : Prop :=
  ∀ as I P J n K, T as I P J n K → ∀ V : am_W, am_drop V → am_closed sc C tb V K → V 0 (am_args 0 as) [] I P J n

/-! THE ABSTRACT MACHINE: the instructions of these methods over numbered objects. An object's number is its place in the order of making; what it holds is read from three functions (ints, longs, references by number). am_run says what a method answers and what the store is then; that the real machine does so is shown once, in 05.sound. -/
abbrev am_Sh : Type := Nat ⊕ (FieldType × Nat)
abbrev am_S : Type := List am_Sh × (Nat → Nat → Int32) × (Nat → Nat → Int64) × (Nat → Nat → Option Nat)
abbrev am_L : Type := List (Option Value)
/-- the script: its length and its ints -/
abbrev am_X : Type := Nat × (Nat → Int32)
def am_u2 {α : Type} (f : Nat → Nat → α) (a k : Nat) (v : α) : Nat → Nat → α := fun x y => if x = a ∧ y = k then v else f x y
def am_N (ci : Nat) : Nat := match vwCl[ci]? with
  | some r => r.2.2
  | none => 0
def am_fT (ci : Nat) : u_T := match vwCl[ci]? with
  | some r => r.2.1
  | none => TX2
def am_nm (ci : Nat) : String := match vwCl[ci]? with
  | some r => r.1
  | none => RX6
def am_look {α : Type} (l : List (Nat × α)) (i : Nat) : Option α := match l with
  | [] => none
  | q :: r => if q.1 = i then some q.2 else am_look r i
def am_fl (o i : Nat) : Option (Nat × Nat) := am_look (am_flT o) i
def am_cl (o i : Nat) : Option Nat := am_look (am_clT o) i
def am_k32 (o i : Nat) : Option Int32 := am_look (am_k32T o) i
def am_k64 (o i : Nat) : Option Int64 := am_look (am_k64T o) i
def am_ct (o i : Nat) : Option (Nat × Nat × am_M) := am_look (am_ctT o) i
def am_rf (r : Option Nat) : Value := match r with
  | some y => .ref y
  | none => .null
/-- the value of a field -/
def am_fv (ty : FieldType) (σ : am_S) (a k : Nat) : Value := match ty with
  | .long => .long (σ.2.2.1 a k)
  | .object _ => am_rf (σ.2.2.2 a k)
  | .array _ => am_rf (σ.2.2.2 a k)
  | _ => .int (σ.2.1 a k)
/-- a field is written: its type must be that of the value -/
def am_fw (ty : FieldType) (σ : am_S) (a k : Nat) (v : Value) : Option am_S := match ty, v with
  | .int, .int x => some (σ.1, am_u2 σ.2.1 a k x, σ.2.2.1, σ.2.2.2)
  | .long, .long x => some (σ.1, σ.2.1, am_u2 σ.2.2.1 a k x, σ.2.2.2)
  | .object _, .ref y => some (σ.1, σ.2.1, σ.2.2.1, am_u2 σ.2.2.2 a k (some y))
  | .array _, .ref y => some (σ.1, σ.2.1, σ.2.2.1, am_u2 σ.2.2.2 a k (some y))
  | _, _ => none
def am_new (sh : am_Sh) (σ : am_S) : am_S := (σ.1 ++ [sh], (fun x k => if x = σ.1.length then 0 else σ.2.1 x k), (fun x k => if x = σ.1.length then 0 else σ.2.2.1 x k), (fun x k => if x = σ.1.length then none else σ.2.2.2 x k))
abbrev am_in (i : Int32) (n : Nat) : Prop := 0 ≤ i.toInt ∧ i.toInt < (n : Int)
/-- stack alone: how long the instruction is, the stack behind it -/
def am_alu : Instr → List Value → Option (Nat × List Value)
  | .iconst n, st => some (1, .int (Int32.ofInt n) :: st)
  | .bipush n, st => some (2, .int (Int8.ofInt n).toInt32 :: st)
  | .sipush n, st => some (3, .int (Int16.ofInt n).toInt32 :: st)
  | .lconst n, st => some (1, .long (Int64.ofNat (n : Nat)) :: st)
  | .aconst_null, st => some (1, .null :: st)
  | .iadd, .int y :: .int x :: st => some (1, .int (x + y) :: st)
  | .isub, .int y :: .int x :: st => some (1, .int (x - y) :: st)
  | .imul, .int y :: .int x :: st => some (1, .int (x * y) :: st)
  | .iand, .int y :: .int x :: st => some (1, .int (x &&& y) :: st)
  | .ior, .int y :: .int x :: st => some (1, .int (x ||| y) :: st)
  | .ixor, .int y :: .int x :: st => some (1, .int (x ^^^ y) :: st)
  | .idiv, .int y :: .int x :: st => if y = 0 then none else some (1, .int (x / y) :: st)
  | .irem, .int y :: .int x :: st => if y = 0 then none else some (1, .int (x - x / y * y) :: st)
  | .ineg, .int x :: st => some (1, .int (-x) :: st)
  | .ishl, .int y :: .int x :: st => some (1, .int (x <<< (y &&& 31)) :: st)
  | .ishr, .int y :: .int x :: st => some (1, .int (x >>> (y &&& 31)) :: st)
  | .iushr, .int y :: .int x :: st => some (1, .int (x.toUInt32 >>> (y.toUInt32 &&& Int32.toUInt32 31)).toInt32 :: st)
  | .ladd, .long y :: .long x :: st => some (1, .long (x + y) :: st)
  | .lmul, .long y :: .long x :: st => some (1, .long (x * y) :: st)
  | .lor, .long y :: .long x :: st => some (1, .long (x ||| y) :: st)
  | .lshl, .int y :: .long x :: st => some (1, .long (x <<< (y.toInt64 &&& 63)) :: st)
  | .lcmp, .long y :: .long x :: st => some (1, .int (lg_cmp x y) :: st)
  | .i2l, .int x :: st => some (1, .long x.toInt64 :: st)
  | .i2b, .int x :: st => some (1, .int x.toInt8.toInt32 :: st)
  | .i2c, .int x :: st => some (1, .int (x.toUInt32 % 65536).toInt32 :: st)
  | .dup, v :: st => if v.category = 1 then some (1, v :: v :: st) else none
  | .dup2, v :: w :: st => if v.category = 1 ∧ w.category = 1 then some (1, v :: w :: v :: w :: st) else none
  | .pop, v :: st => if v.category = 1 then some (1, st) else none
  | _, _ => none
def am_ld (L : am_L) (i : Nat) : Value := match L[i]? with
  | some (some v) => v
  | _ => .float 0
/-- a long that loses its second half is lost -/
def am_cut (L : am_L) : Nat → am_L
  | 0 => L
  | i + 1 => match L[i]? with
    | some (some v) => if v.category = 2 then L.set i none else L
    | _ => L
def am_st1 (L : am_L) (i : Nat) (v : Value) : am_L := (am_cut L i).set i (some v)
def am_st2 (L : am_L) (i : Nat) (v : Value) : am_L := ((am_cut L i).set i (some v)).set (i + 1) none
def am_ldI (L : am_L) (i len : Nat) (st : List Value) : Option (Nat × am_L × List Value) := match am_ld L i with
  | .int x => some (len, L, .int x :: st)
  | _ => none
def am_ldL (L : am_L) (i len : Nat) (st : List Value) : Option (Nat × am_L × List Value) := match am_ld L i with
  | .long x => some (len, L, .long x :: st)
  | _ => none
def am_ldA (L : am_L) (i len : Nat) (st : List Value) : Option (Nat × am_L × List Value) := match am_ld L i with
  | .ref x => some (len, L, .ref x :: st)
  | .retAddr x => some (len, L, .retAddr x :: st)
  | .null => some (len, L, .null :: st)
  | _ => none
def am_stI (L : am_L) (i len : Nat) : List Value → Option (Nat × am_L × List Value)
  | .int x :: st => if i < L.length then some (len, am_st1 L i (.int x), st) else none
  | _ => none
def am_stL (L : am_L) (i len : Nat) : List Value → Option (Nat × am_L × List Value)
  | .long x :: st => if i + 1 < L.length then some (len, am_st2 L i (.long x), st) else none
  | _ => none
def am_stA (L : am_L) (i len : Nat) : List Value → Option (Nat × am_L × List Value)
  | .ref x :: st => if i < L.length then some (len, am_st1 L i (.ref x), st) else none
  | .null :: st => if i < L.length then some (len, am_st1 L i .null, st) else none
  | _ => none
/-- locals and stack -/
def am_loc : Instr → am_L → List Value → Option (Nat × am_L × List Value)
  | .iload_n k, L, st => am_ldI L k 1 st
  | .iload i, L, st => am_ldI L i 2 st
  | .lload_n k, L, st => am_ldL L k 1 st
  | .lload i, L, st => am_ldL L i 2 st
  | .aload_n k, L, st => am_ldA L k 1 st
  | .aload i, L, st => am_ldA L i 2 st
  | .istore_n k, L, st => am_stI L k 1 st
  | .istore i, L, st => am_stI L i 2 st
  | .lstore_n k, L, st => am_stL L k 1 st
  | .lstore i, L, st => am_stL L i 2 st
  | .astore_n k, L, st => am_stA L k 1 st
  | .astore i, L, st => am_stA L i 2 st
  | .iinc i n, L, st => match am_ld L i with
    | .int x => if i < L.length then some (3, am_st1 L i (.int (x + Int32.ofInt n)), st) else none
    | _ => none
  | _, _, _ => none
def am_if (c : Prop) [Decidable c] (o : Int) (st : List Value) : Option (Bool × Int × List Value) := some (decide c, o, st)
/-- whether it jumps, how far, the stack behind it -/
def am_br : Instr → List Value → Option (Bool × Int × List Value)
  | .goto o, st => some (true, o, st)
  | .ifCond .eq o, .int x :: st => am_if (x = 0) o st
  | .ifCond .ne o, .int x :: st => am_if (¬ x = 0) o st
  | .ifCond .lt o, .int x :: st => am_if (x < 0) o st
  | .ifCond .ge o, .int x :: st => am_if (0 ≤ x) o st
  | .ifCond .gt o, .int x :: st => am_if (0 < x) o st
  | .ifCond .le o, .int x :: st => am_if (x ≤ 0) o st
  | .if_icmp .eq o, .int y :: .int x :: st => am_if (x = y) o st
  | .if_icmp .ne o, .int y :: .int x :: st => am_if (¬ x = y) o st
  | .if_icmp .lt o, .int y :: .int x :: st => am_if (x < y) o st
  | .if_icmp .ge o, .int y :: .int x :: st => am_if (y ≤ x) o st
  | .if_icmp .gt o, .int y :: .int x :: st => am_if (y < x) o st
  | .if_icmp .le o, .int y :: .int x :: st => am_if (x ≤ y) o st
  | .ifnull o, .null :: st => some (true, o, st)
  | .ifnull o, .ref _ :: st => some (false, o, st)
  | .ifnonnull o, .null :: st => some (false, o, st)
  | .ifnonnull o, .ref _ :: st => some (true, o, st)
  | _, _ => none
def am_sw : Instr → List Value → Option (Int × List Value)
  | .tableswitch d lo hi os, .int x :: st => if x.toInt < lo ∨ hi < x.toInt then some (d, st) else match os[(x.toInt - lo).toNat]? with
    | some o => some (o, st)
    | none => none
  | .lookupswitch d ps, .int x :: st => if (ps.toList.zip (ps.toList.drop 1)).all (fun (a, next) => a.1 < next.1) = true then some (Op.lookupswitch.offset ps.toList d x.toInt, st) else none
  | _, _ => none
def am_jmp (pc : Nat) (o : Int) : Option Nat := if 0 ≤ (pc : Int) + o then some ((pc : Int) + o).toNat else none
/-- an array of ints (bytes, flags) is read -/
def am_ar (a : Nat) (i : Int32) (st : List Value) (σ : am_S) (ty : FieldType → Bool) : Option (Nat × List Value × am_S) := match σ.1[a]? with
  | some (.inr (t, n)) => if ty t = true ∧ am_in i n then some (1, .int (σ.2.1 a i.toNatClampNeg) :: st, σ) else none
  | _ => none
def am_aw (a : Nat) (i x : Int32) (st : List Value) (σ : am_S) (ty : FieldType → Bool) : Option (Nat × List Value × am_S) := match σ.1[a]? with
  | some (.inr (t, n)) => if ty t = true ∧ am_in i n then some (1, st, (σ.1, am_u2 σ.2.1 a i.toNatClampNeg (vp_nar t x), σ.2.2.1, σ.2.2.2)) else none
  | _ => none
def am_tI : FieldType → Bool := fun t => match t with
  | .int => true
  | _ => false
def am_tB : FieldType → Bool := fun t => match t with
  | .byte => true
  | .boolean => true
  | _ => false
def am_newa : ArrayType → Option FieldType
  | .int => some .int
  | .long => some .long
  | .byte => some .byte
  | .boolean => some .boolean
  | _ => none
def am_tk : FieldType → Option Nat
  | .int => some 0
  | .long => some 1
  | .byte => some 2
  | .boolean => some 3
  | .object C => if C = RX7 then some 4 else none
  | _ => none
/-- the heap's instructions -/
def am_hp (X : am_X) (o : Nat) (ini : Bool) : Instr → List Value → am_S → Option (Nat × List Value × am_S)
  | .getfield i, .ref a :: st, σ => match am_fl o i with
    | some (ci, k) => if σ.1[a]? = some (.inl ci) then some (3, am_fv (am_ty ci k) σ a k :: st, σ) else none
    | none => none
  | .putfield i, v :: .ref a :: st, σ => match am_fl o i with
    | some (ci, k) => if σ.1[a]? = some (.inl ci) ∧ ((am_fT ci k).2.2.2 = false ∨ ini = true ∧ (am_fT ci k).1 = am_own o) then (am_fw (am_ty ci k) σ a k v).map (fun σ' => (3, st, σ')) else none
    | none => none
  | .iaload, .int i :: .ref a :: st, σ => am_ar a i st σ am_tI
  | .baload, .int i :: .ref a :: st, σ => am_ar a i st σ am_tB
  | .iaload, .int i :: .retAddr 0 :: st, σ => if am_in i X.1 then some (1, .int (X.2 i.toNatClampNeg) :: st, σ) else none
  | .laload, .int i :: .ref a :: st, σ => match σ.1[a]? with
    | some (.inr (.long, n)) => if am_in i n then some (1, .long (σ.2.2.1 a i.toNatClampNeg) :: st, σ) else none
    | _ => none
  | .aaload, .int i :: .ref a :: st, σ => match σ.1[a]? with
    | some (.inr (.object C, n)) => if C = RX7 ∧ am_in i n then some (1, am_rf (σ.2.2.2 a i.toNatClampNeg) :: st, σ) else none
    | _ => none
  | .iastore, .int x :: .int i :: .ref a :: st, σ => am_aw a i x st σ am_tI
  | .bastore, .int x :: .int i :: .ref a :: st, σ => am_aw a i x st σ am_tB
  | .lastore, .long x :: .int i :: .ref a :: st, σ => match σ.1[a]? with
    | some (.inr (.long, n)) => if am_in i n then some (1, st, (σ.1, σ.2.1, am_u2 σ.2.2.1 a i.toNatClampNeg x, σ.2.2.2)) else none
    | _ => none
  | .aastore, .ref y :: .int i :: .ref a :: st, σ => match σ.1[a]?, σ.1[y]? with
    | some (.inr (.object C, n)), some (.inl ci) => if C = RX7 ∧ ci = 6 ∧ am_in i n then some (1, st, (σ.1, σ.2.1, σ.2.2.1, am_u2 σ.2.2.2 a i.toNatClampNeg (some y))) else none
    | _, _ => none
  | .arraylength, .ref a :: st, σ => match σ.1[a]? with
    | some (.inr (ty, n)) => if (am_tk ty).isSome = true then some (1, .int (Int32.ofNat n) :: st, σ) else none
    | _ => none
  | .arraylength, .retAddr 0 :: st, σ => some (1, .int (Int32.ofNat X.1) :: st, σ)
  | .new i, st, σ => match am_cl o i with
    | some ci => some (3, .ref σ.1.length :: st, am_new (.inl ci) σ)
    | none => none
  | .newarray t, .int n :: st, σ => match am_newa t with
    | some ty => if 0 ≤ n.toInt ∧ n.toInt ≤ 60000 then some (2, .ref σ.1.length :: st, am_new (.inr (ty, n.toNatClampNeg)) σ) else none
    | none => none
  | .anewarray i, .int n :: st, σ => match am_cl o i with
    | some 6 => if 0 ≤ n.toInt ∧ n.toInt ≤ 60000 then some (3, .ref σ.1.length :: st, am_new (.inr (.object RX7, n.toNatClampNeg)) σ) else none
    | _ => none
  | .ldc i, st, σ => match am_k32 o i with
    | some v => some (2, .int v :: st, σ)
    | none => if o = 9 ∧ i = 39 then some (2, .retAddr 1 :: st, σ) else none
  | .ldc_w i, st, σ => match am_k32 o i with
    | some v => some (3, .int v :: st, σ)
    | none => none
  | .ldc2_w i, st, σ => match am_k64 o i with
    | some v => some (3, .long v :: st, σ)
    | none => none
  | _, _, _ => none
def am_args (as : List Value) : am_L := as.flatMap fun v => if v.category = 2 then [some v, none] else [some v]
def am_ent (as : List Value) (n : Nat) : am_L := am_args as ++ List.replicate (n - (am_args as).length) none
def am_cat (st : List Value) : Nat := (st.map fun v => v.category).sum
/-- the words of the text of Tape -/
def am_txt : String := "room holds trunk bulk at marks told brood pines tales draw or and not alike left many year "
def am_chr (i : Nat) : Int32 := match am_txt.toList[i]? with
  | some c => Int32.ofNat c.toNat
  | none => 0
/-- System.arraycopy between two arrays of ints -/
def am_cpy : List Value → am_S → Option (List Value × am_S)
  | .int n :: .int dp :: .ref y :: .int sp :: .ref x :: st, σ => match σ.1[x]?, σ.1[y]? with
    | some (.inr (.int, n0)), some (.inr (.int, n1)) => if 0 ≤ sp.toInt ∧ 0 ≤ dp.toInt ∧ 0 ≤ n.toInt ∧ sp.toInt + n.toInt ≤ n0 ∧ dp.toInt + n.toInt ≤ n1 ∧ x ≠ y then some (st, (σ.1, (fun a => if a = y then va_cpy (σ.2.1 x) (σ.2.1 y) sp.toNatClampNeg dp.toNatClampNeg n.toNatClampNeg else σ.2.1 a), σ.2.2.1, σ.2.2.2)) else none
    | _, _ => none
  | _, _ => none
/-- what a call's instruction is by its table: which kind, whose class, which method -/
def am_call (o : Nat) : Instr → Option (Nat × Nat × am_M)
  | .invokevirtual i => match am_ct o i with
    | some (0, r) => some (0, r)
    | some (6, r) => some (6, r)
    | some (7, r) => some (7, r)
    | _ => none
  | .invokestatic i => match am_ct o i with
    | some (1, r) => some (1, r)
    | some (4, r) => some (4, r)
    | some (8, r) => some (8, r)
    | some (9, r) => some (9, r)
    | _ => none
  | .invokespecial i => match am_ct o i with
    | some (2, r) => some (2, r)
    | some (3, r) => some (3, r)
    | some (5, r) => some (5, r)
    | _ => none
  | _ => none
/-- the answer that a return gives -/
def am_ret : Instr → Option FieldType → List Value → Option (Option Value)
  | .ireturn, some ty, [.int v] => if narrow ty (.int v) = .int v then some (some (.int v)) else none
  | .lreturn, some .long, [.long v] => some (some (.long v))
  | .areturn, some (.object _), [.ref a] => some (some (.ref a))
  | .areturn, some (.array _), [.ref a] => some (some (.ref a))
  | .return_, none, [] => some none
  | _, _, _ => none
/-- the call's own values: the arguments as the callee has them, the stack below them -/
def am_pop (κ rc : Nat) (m : am_M) (st : List Value) (σ : am_S) : Option (List Value × List Value) :=
  let n := m.2.2.2.2.2.1
  if n ≤ st.length then
    if κ = 1 then some ((st.take n).reverse, st.drop n)
    else match st.drop n with
      | .ref a :: rest => if κ = 0 then if σ.1[a]? = some (.inl rc) then some (.ref a :: (st.take n).reverse, rest) else none else some (.ref a :: (st.take n).reverse, rest)
      | _ => none
  else none
def am_run (X : am_X) : Nat → Nat → Nat → Bool → ByteArray → Option FieldType → Nat → am_L → List Value → am_S → Option (Option Value × am_S)
  | 0, _, _, _, _, _, _, _, _, _ => none
  | n + 1, d, o, ini, cc, ret, pc, L, st, σ => match decode cc pc with
    | .error _ => none
    | .ok (i, len) =>
      match am_ret i ret st with
      | some v => if len = 1 then some (v, σ) else none
      | none => match am_alu i st with
      | some (k, st') => if k = len then am_run X n d o ini cc ret (pc + k) L st' σ else none
      | none => match am_loc i L st with
      | some (k, L', st') => if k = len then am_run X n d o ini cc ret (pc + k) L' st' σ else none
      | none => match am_br i st with
      | some (t, off, st') => if len = 3 then match am_jmp pc off with
        | some q => am_run X n d o ini cc ret (if t = true then q else pc + 3) L st' σ
        | none => none
        else none
      | none => match am_sw i st with
      | some (off, st') => match am_jmp pc off with
        | some q => am_run X n d o ini cc ret q L st' σ
        | none => none
      | none => match am_hp X o ini i st σ with
      | some (k, st', σ') => if k = len then am_run X n d o ini cc ret (pc + k) L st' σ' else none
      | none => match am_call o i with
      | none => none
      | some (κ, rc, m) => if len = 3 then
        match d with
        | 0 => none
        | d' + 1 =>
          if κ = 3 then match st with
            | .ref _ :: rest => if am_cat rest ≤ 8 then am_run X n (d' + 1) o ini cc ret (pc + 3) L rest σ else none
            | _ => none
          else if κ = 4 then match am_cpy st σ with
            | some (rest, σ') => if am_cat rest ≤ 8 then am_run X n (d' + 1) o ini cc ret (pc + 3) L rest σ' else none
            | none => none
          else if κ = 6 then match st with
            | .retAddr 1 :: rest => if am_cat rest ≤ 8 ∧ 9 ≤ d' then am_run X n (d' + 1) o ini cc ret (pc + 3) L (.int 91 :: rest) σ else none
            | _ => none
          else if κ = 7 then match st with
            | .int j :: .retAddr 1 :: rest => if am_cat rest ≤ 8 ∧ 9 ≤ d' ∧ am_in j 91 then am_run X n (d' + 1) o ini cc ret (pc + 3) L (.int (am_chr j.toNatClampNeg) :: rest) σ else none
            | _ => none
          else if κ = 8 then match st with
            | .int y :: .int x :: rest => if am_cat rest ≤ 8 then am_run X n (d' + 1) o ini cc ret (pc + 3) L (.int (if x < y then y else x) :: rest) σ else none
            | _ => none
          else if κ = 9 then match st with
            | .int y :: .int x :: rest => if am_cat rest ≤ 8 then am_run X n (d' + 1) o ini cc ret (pc + 3) L (.int (if y < x then y else x) :: rest) σ else none
            | _ => none
          else match am_pop κ rc m st σ with
            | none => none
            | some (as, rest) => if am_cat rest ≤ 8 ∧ (am_args as).length ≤ m.2.2.1 then
              match am_run X n d' m.1 m.2.2.2.2.2.2 m.2.1 m.2.2.2.1 0 (am_ent as m.2.2.1) [] σ with
              | none => none
              | some (v, σ') => am_run X n (d' + 1) o ini cc ret (pc + 3) L (v.toList ++ rest) σ'
              else none
        else none
/-- the method runs to its end -/
def am_R (X : am_X) (d o : Nat) (ini : Bool) (cc : ByteArray) (ret : Option FieldType) (pc : Nat) (L : am_L) (st : List Value) (σ : am_S) (out : Option Value × am_S) : Prop := ∃ n, am_run X n d o ini cc ret pc L st σ = some out

/-! AN ABSTRACT MACHINE: the same instructions over a memory of numbered cells. Cells 0 .. 4 are old (read only): the script, three static arrays, the text constant. -/
abbrev am_Shp : Type := (Nat × Nat) ⊕ (Nat × List (Option Value))
abbrev am_I : Type := Nat → Nat → Int32
abbrev am_J : Type := Nat → Nat → Int64
abbrev am_Mem : Type := List am_Shp × am_I × am_J
abbrev am_Loc : Type := List (Option Value)
/-- a place of the code: pc, instruction, what its numbers mean -/
abbrev am_Ent : Type := Nat × Instr × List Nat
/-- a method: class, code, locals, answer, rank -/
abbrev am_Info : Type := Nat × List am_Ent × Nat × Option FieldType × Nat
def am_upd (I : am_I) (c k : Nat) (x : Int32) : am_I := fun c' k' => if c' = c ∧ k' = k then x else I c' k'
def am_updJ (J : am_J) (c k : Nat) (x : Int64) : am_J := fun c' k' => if c' = c ∧ k' = k then x else J c' k'
def am_zero (I : am_I) (c : Nat) : am_I := fun c' k' => if c' = c then 0 else I c' k'
def am_zeroJ (J : am_J) (c : Nat) : am_J := fun c' k' => if c' = c then 0 else J c' k'
def am_cpy (I : am_I) (c0 s c1 d n : Nat) : am_I := fun c' k' => if c' = c1 ∧ d ≤ k' ∧ k' < d + n then I c0 (s + (k' - d)) else I c' k'
def am_lit : Int → Int32
  | .ofNat k => Int32.ofNat k
  | .negSucc k => -(Int32.ofNat (k + 1))
def am_pv (L : am_Loc) (i : Nat) : Bool := match i with
  | 0 => false
  | j + 1 => match L[j]? with
    | some (some v) => Nat.beq v.category 2
    | _ => false
def am_st (L : am_Loc) (i : Nat) (v : Value) : am_Loc := (if am_pv L i then L.set (i - 1) none else L).set i (some v)
def am_cat (S : List Value) : Nat := (S.map fun v => v.category).sum
def am_sw {α : Type} (x : Int32) (lo : Int) (tgts : List Nat) (k : Nat → α) (d : α) : α := match tgts with
  | [] => d
  | t :: ts => if x = am_lit lo then k t else am_sw x (lo + 1) ts k d
def am_popi {α : Type} (S : List Value) (k : Int32 → List Value → α) (stuck : α) : α := match S with
  | .int x :: r => k x r
  | _ => stuck
def am_popii {α : Type} (S : List Value) (k : Int32 → Int32 → List Value → α) (stuck : α) : α := match S with
  | .int y :: .int x :: r => k x y r
  | _ => stuck
def am_popll {α : Type} (S : List Value) (k : Int64 → Int64 → List Value → α) (stuck : α) : α := match S with
  | .long y :: .long x :: r => k x y r
  | _ => stuck
def am_ld {α : Type} (L : am_Loc) (i : Nat) (k : Value → α) (stuck : α) : α := match L[i]? with
  | some (some v) => k v
  | _ => stuck
/-- an array's cell: its kind and length -/
def am_arr {α : Type} (Sh : List am_Shp) (a : Nat) (k : Nat → Nat → α) (stuck : α) : α := match Sh[a]? with
  | some (.inl (t, n)) => k t n
  | _ => stuck
def am_obj {α : Type} (Sh : List am_Shp) (a ci : Nat) (k : List (Option Value) → α) (stuck : α) : α := match Sh[a]? with
  | some (.inr (c, fl)) => if c = ci then k fl else stuck
  | _ => stuck
/-- a place in an array -/
def am_atC {α : Type} (i : Int32) (n : Nat) (k : Nat → α) (stuck : α) : α := if i < 0 ∨ n ≤ i.toNatClampNeg then stuck else k i.toNatClampNeg
/-- an element of an array -/
def am_ald {α : Type} (AT : Int32 → Nat → (Nat → α) → α → α) (Sh : List am_Shp) (I : am_I) (ty : Nat → Bool) (S : List Value) (k : Nat → Nat → List Value → α) (stuck : α) : α := match S with
  | .int i :: .ref a :: r => am_arr Sh a (fun t n => match ty t with
    | true => match Nat.beq t 12 with
      | true => AT i (I a 4096).toNatClampNeg (fun j => k a j r) stuck
      | false => AT i n (fun j => k a j r) stuck
    | false => stuck) stuck
  | _ => stuck
def am_ast {α : Type} (AT : Int32 → Nat → (Nat → α) → α → α) (Sh : List am_Shp) (S : List Value) (k : Nat → Nat → Nat → Int32 → List Value → α) (stuck : α) : α := match S with
  | .int x :: .int i :: .ref a :: r => am_arr Sh a (fun t n => AT i n (fun j => k t a j x r) stuck) stuck
  | _ => stuck
def am_astl {α : Type} (AT : Int32 → Nat → (Nat → α) → α → α) (Sh : List am_Shp) (S : List Value) (k : Nat → Nat → Nat → Int64 → List Value → α) (stuck : α) : α := match S with
  | .long x :: .int i :: .ref a :: r => am_arr Sh a (fun t n => AT i n (fun j => k t a j x r) stuck) stuck
  | _ => stuck
def am_len {α : Type} (Sh : List am_Shp) (I : am_I) (S : List Value) (k : Int32 → List Value → α) (stuck : α) : α := match S with
  | .ref a :: r => am_arr Sh a (fun t n => match Nat.beq t 12 with
    | true => k (I a 4096) r
    | false => match Nat.beq t 0 with
      | true => k (Int32.ofNat n) r
      | false => stuck) stuck
  | _ => stuck
def am_getf {α : Type} (μ : am_Mem) (ci j : Nat) (S : List Value) (k : Value → List Value → α) (stuck : α) : α := match S with
  | .ref a :: r => am_obj μ.1 a ci (fun fl => match fl[j]? with
    | some none => k (.int (μ.2.1 a j)) r
    | some (some v) => k v r
    | none => stuck) stuck
  | _ => stuck
/-- z: 0 an int, 1 a boolean, 2 a reference -/
def am_putf {α : Type} (B1 : Int32 → α → α → α) (μ : am_Mem) (ci j z : Nat) (S : List Value) (k : am_Mem → List Value → α) (stuck : α) : α := match S with
  | .int x :: .ref a :: r => if 5 ≤ a then am_obj μ.1 a ci (fun fl => match fl[j]? with
    | some none => match z with
      | 0 => k (μ.1, am_upd μ.2.1 a j x, μ.2.2) r
      | 1 => B1 x (k (μ.1, am_upd μ.2.1 a j x, μ.2.2) r) stuck
      | _ => stuck
    | _ => stuck) stuck else stuck
  | .ref q :: .ref a :: r => if 5 ≤ a then am_obj μ.1 a ci (fun fl => match fl[j]? with
    | some (some _) => match z with
      | 2 => k (μ.1.set a (.inr (ci, fl.set j (some (.ref q)))), μ.2) r
      | _ => stuck
    | _ => stuck) stuck else stuck
  | _ => stuck
/-- the fields of a class as they are born -/
def am_born (l : List Bool) : List (Option Value) := l.map fun b => if b then some .null else none
def am_ty : ArrayType → Option Nat
  | .int => some 0
  | .byte => some 1
  | .boolean => some 2
  | .long => some 3
  | _ => none
def am_mxC (x y : Int32) : Int32 := if x < y then y else x
def am_mnC (x y : Int32) : Int32 := if y < x then y else x
def am_abC (x : Int32) : Int32 := if 0 ≤ x then x else 0 - x
def am_b01C {α : Type} (x : Int32) (k stuck : α) : α := if x = 0 then k else if x = 1 then k else stuck
/-- the places of a copy -/
def am_cpcC {α : Type} (s d n : Int32) (n0 n1 : Nat) (k stuck : α) : α := if s < 0 ∨ d < 0 ∨ n < 0 ∨ n0 < s.toNatClampNeg + n.toNatClampNeg ∨ n1 < d.toNatClampNeg + n.toNatClampNeg then stuck else k
/-- System.arraycopy of ints -/
def am_copy {α : Type} (CP : Int32 → Int32 → Int32 → Nat → Nat → α → α → α) (μ : am_Mem) (S : List Value) (k : am_Mem → List Value → α) (stuck : α) : α := match S with
  | .int n :: .int d :: .ref b :: .int s :: .ref a :: r => am_arr μ.1 a (fun t0 n0 => am_arr μ.1 b (fun t1 n1 =>
      if t0 = 0 ∧ t1 = 0 ∧ 5 ≤ a ∧ 5 ≤ b ∧ am_cat r ≤ 8 then CP s d n n0 n1 (k (μ.1, am_cpy μ.2.1 a s.toNatClampNeg b d.toNatClampNeg n.toNatClampNeg, μ.2.2) r) stuck else stuck) stuck) stuck
  | _ => stuck
/-- what the machine's own methods answer -/
def am_blt {α : Type} (AT : Int32 → Nat → (Nat → α) → α → α) (CP : Int32 → Int32 → Int32 → Nat → Nat → α → α → α) (MX MN : Int32 → Int32 → Int32) (AB : Int32 → Int32) (b : Nat) (μ : am_Mem) (S : List Value) (k : List Value → am_Mem → α) (stuck : α) : α := match b with
  | 0 => match S with
    | .ref _ :: r => if am_cat r ≤ 8 then k r μ else stuck
    | _ => stuck
  | 1 => am_popii S (fun x y r => if am_cat r ≤ 8 then k (.int (MX x y) :: r) μ else stuck) stuck
  | 2 => am_popii S (fun x y r => if am_cat r ≤ 8 then k (.int (MN x y) :: r) μ else stuck) stuck
  | 3 => am_popi S (fun x r => if am_cat r ≤ 8 then k (.int (AB x) :: r) μ else stuck) stuck
  | 4 => am_copy CP μ S (fun μ' r => k r μ') stuck
  | 5 => match S with
    | .int i :: .ref a :: r => if a = 4 ∧ am_cat r ≤ 8 then AT i 136 (fun j => k (.int (μ.2.1 4 j) :: r) μ) stuck else stuck
    | _ => stuck
  | _ => stuck
/-- one step: next pc locals stack memory; call method args stack; fin answer -/
def am_stepG {α : Type} (AT : Int32 → Nat → (Nat → α) → α → α) (CP : Int32 → Int32 → Int32 → Nat → Nat → α → α → α) (B1 : Int32 → α → α → α) (MX MN : Int32 → Int32 → Int32) (AB : Int32 → Int32) (ret : Option FieldType) (pc : Nat) (ins : Instr) (aux : List Nat) (L : am_Loc) (S : List Value) (μ : am_Mem)
    (next : Nat → am_Loc → List Value → am_Mem → α) (call : Nat → List Value → List Value → α) (fin : Option Value → α) (stuck : α) : α := match ins with
  | .iconst n => next (pc + 1) L (.int (am_lit n) :: S) μ
  | .bipush n => next (pc + 2) L (.int (am_lit n) :: S) μ
  | .sipush n => next (pc + 3) L (.int (am_lit n) :: S) μ
  | .lconst n => next (pc + 1) L (.long (Int64.ofNat n.val) :: S) μ
  | .aconst_null => next (pc + 1) L (.null :: S) μ
  | .iload i => am_ld L i (fun v => match v with | .int x => next (pc + 2) L (.int x :: S) μ | _ => stuck) stuck
  | .iload_n i => am_ld L i.val (fun v => match v with | .int x => next (pc + 1) L (.int x :: S) μ | _ => stuck) stuck
  | .lload i => am_ld L i (fun v => match v with | .long x => next (pc + 2) L (.long x :: S) μ | _ => stuck) stuck
  | .lload_n i => am_ld L i.val (fun v => match v with | .long x => next (pc + 1) L (.long x :: S) μ | _ => stuck) stuck
  | .aload i => am_ld L i (fun v => match v with | .ref x => next (pc + 2) L (.ref x :: S) μ | _ => stuck) stuck
  | .aload_n i => am_ld L i.val (fun v => match v with | .ref x => next (pc + 1) L (.ref x :: S) μ | _ => stuck) stuck
  | .istore i => am_popi S (fun x r => next (pc + 2) (am_st L i (.int x)) r μ) stuck
  | .istore_n i => am_popi S (fun x r => next (pc + 1) (am_st L i.val (.int x)) r μ) stuck
  | .lstore i => match S with
    | .long x :: r => next (pc + 2) ((am_st L i (.long x)).set (i + 1) none) r μ
    | _ => stuck
  | .astore_n i => match S with
    | .ref x :: r => next (pc + 1) (am_st L i.val (.ref x)) r μ
    | _ => stuck
  | .iinc i n => am_ld L i (fun v => match v with | .int x => next (pc + 3) (am_st L i (.int (x + am_lit n))) S μ | _ => stuck) stuck
  | .iadd => am_popii S (fun x y r => next (pc + 1) L (.int (x + y) :: r) μ) stuck
  | .isub => am_popii S (fun x y r => next (pc + 1) L (.int (x - y) :: r) μ) stuck
  | .imul => am_popii S (fun x y r => next (pc + 1) L (.int (x * y) :: r) μ) stuck
  | .idiv => am_popii S (fun x y r => if y = 0 then stuck else next (pc + 1) L (.int (x / y) :: r) μ) stuck
  | .irem => am_popii S (fun x y r => if y = 0 then stuck else next (pc + 1) L (.int (x - x / y * y) :: r) μ) stuck
  | .ineg => am_popi S (fun x r => next (pc + 1) L (.int (-x) :: r) μ) stuck
  | .iand => am_popii S (fun x y r => next (pc + 1) L (.int (x &&& y) :: r) μ) stuck
  | .ior => am_popii S (fun x y r => next (pc + 1) L (.int (x ||| y) :: r) μ) stuck
  | .ixor => am_popii S (fun x y r => next (pc + 1) L (.int (x ^^^ y) :: r) μ) stuck
  | .ishl => am_popii S (fun x y r => next (pc + 1) L (.int (x <<< (y &&& 31)) :: r) μ) stuck
  | .ishr => am_popii S (fun x y r => next (pc + 1) L (.int (x >>> (y &&& 31)) :: r) μ) stuck
  | .iushr => am_popii S (fun x y r => next (pc + 1) L (.int (x.toUInt32 >>> (y.toUInt32 &&& Int32.toUInt32 31)).toInt32 :: r) μ) stuck
  | .ladd => am_popll S (fun x y r => next (pc + 1) L (.long (x + y) :: r) μ) stuck
  | .lmul => am_popll S (fun x y r => next (pc + 1) L (.long (x * y) :: r) μ) stuck
  | .lcmp => am_popll S (fun x y r => next (pc + 1) L (.int (lg_cmp x y) :: r) μ) stuck
  | .i2l => am_popi S (fun x r => next (pc + 1) L (.long x.toInt64 :: r) μ) stuck
  | .i2b => am_popi S (fun x r => next (pc + 1) L (.int x.toInt8.toInt32 :: r) μ) stuck
  | .dup => match S with
    | v :: r => if v.category = 1 then next (pc + 1) L (v :: v :: r) μ else stuck
    | _ => stuck
  | .dup2 => match S with
    | b :: a :: r => if a.category = 1 ∧ b.category = 1 then next (pc + 1) L (b :: a :: b :: a :: r) μ else stuck
    | _ => stuck
  | .pop => match S with
    | v :: r => if v.category = 1 then next (pc + 1) L r μ else stuck
    | _ => stuck
  | .goto _ => match aux with
    | [t] => next t L S μ
    | _ => stuck
  | .ifCond c _ => match aux with
    | [t] => am_popi S (fun x r => match c with
      | .eq => if x = 0 then next t L r μ else next (pc + 3) L r μ
      | .ne => if x = 0 then next (pc + 3) L r μ else next t L r μ
      | .lt => if x < 0 then next t L r μ else next (pc + 3) L r μ
      | .ge => if 0 ≤ x then next t L r μ else next (pc + 3) L r μ
      | .gt => if 0 < x then next t L r μ else next (pc + 3) L r μ
      | .le => if x ≤ 0 then next t L r μ else next (pc + 3) L r μ) stuck
    | _ => stuck
  | .if_icmp c _ => match aux with
    | [t] => am_popii S (fun x y r => match c with
      | .eq => if x = y then next t L r μ else next (pc + 3) L r μ
      | .ne => if x = y then next (pc + 3) L r μ else next t L r μ
      | .lt => if x < y then next t L r μ else next (pc + 3) L r μ
      | .ge => if y ≤ x then next t L r μ else next (pc + 3) L r μ
      | .gt => if y < x then next t L r μ else next (pc + 3) L r μ
      | .le => if x ≤ y then next t L r μ else next (pc + 3) L r μ) stuck
    | _ => stuck
  | .tableswitch _ lo _ _ => match aux with
    | d :: ts => am_popi S (fun x r => am_sw x lo ts (fun t => next t L r μ) (next d L r μ)) stuck
    | _ => stuck
  | .getfield _ => match aux with
    | [ci, j] => am_getf μ ci j S (fun v r => next (pc + 3) L (v :: r) μ) stuck
    | _ => stuck
  | .putfield _ => match aux with
    | [ci, j, z] => am_putf B1 μ ci j z S (fun μ' r => next (pc + 3) L r μ') stuck
    | _ => stuck
  | .getstatic _ => match aux with
    | [a] => next (pc + 3) L (.ref a :: S) μ
    | _ => stuck
  | .ldc _ => match aux with
    | [0, x] => next (pc + 2) L (.int (Int32.ofNat x) :: S) μ
    | [1, x] => next (pc + 2) L (.int (-(Int32.ofNat x)) :: S) μ
    | [2, a] => next (pc + 2) L (.ref a :: S) μ
    | _ => stuck
  | .ldc_w _ => match aux with
    | [0, x] => next (pc + 3) L (.int (Int32.ofNat x) :: S) μ
    | [1, x] => next (pc + 3) L (.int (-(Int32.ofNat x)) :: S) μ
    | _ => stuck
  | .ldc2_w _ => match aux with
    | [x] => next (pc + 3) L (.long (Int64.ofNat x) :: S) μ
    | _ => stuck
  | .iaload => am_ald AT μ.1 μ.2.1 (fun t => Nat.beq t 0 || Nat.beq t 10 || Nat.beq t 12) S (fun a j r => next (pc + 1) L (.int (μ.2.1 a j) :: r) μ) stuck
  | .baload => am_ald AT μ.1 μ.2.1 (fun t => Nat.beq t 1 || Nat.beq t 2) S (fun a j r => next (pc + 1) L (.int (μ.2.1 a j) :: r) μ) stuck
  | .laload => am_ald AT μ.1 μ.2.1 (fun t => Nat.beq t 3) S (fun a j r => next (pc + 1) L (.long (μ.2.2 a j) :: r) μ) stuck
  | .iastore => am_ast AT μ.1 S (fun t a j x r => if t = 0 then next (pc + 1) L r (μ.1, am_upd μ.2.1 a j x, μ.2.2) else stuck) stuck
  | .bastore => am_ast AT μ.1 S (fun t a j x r => if t = 1 then next (pc + 1) L r (μ.1, am_upd μ.2.1 a j x.toInt8.toInt32, μ.2.2) else if t = 2 then B1 x (next (pc + 1) L r (μ.1, am_upd μ.2.1 a j x, μ.2.2)) stuck else stuck) stuck
  | .lastore => am_astl AT μ.1 S (fun t a j x r => if t = 3 then next (pc + 1) L r (μ.1, μ.2.1, am_updJ μ.2.2 a j x) else stuck) stuck
  | .arraylength => am_len μ.1 μ.2.1 S (fun x r => next (pc + 1) L (.int x :: r) μ) stuck
  | .newarray t => match am_ty t with
    | some y => am_popi S (fun n r => if n < 0 ∨ 65536 < n.toNatClampNeg then stuck else next (pc + 2) L (.ref μ.1.length :: r) (μ.1 ++ [.inl (y, n.toNatClampNeg)], am_zero μ.2.1 μ.1.length, am_zeroJ μ.2.2 μ.1.length)) stuck
    | none => stuck
  | .new _ => match aux with
    | ci :: bs => next (pc + 3) L (.ref μ.1.length :: S) (μ.1 ++ [.inr (ci, am_born (bs.map fun b => b == 1))], am_zero μ.2.1 μ.1.length, am_zeroJ μ.2.2 μ.1.length)
    | _ => stuck
  | .invokevirtual _ => match aux with
    | [b] => am_blt AT CP MX MN AB b μ S (fun S' μ' => next (pc + 3) L S' μ') stuck
    | [y, n, ci] => match S.drop n with
      | .ref a :: r => am_obj μ.1 a ci (fun _ => if am_cat r ≤ 8 then call y (.ref a :: (S.take n).reverse) r else stuck) stuck
      | _ => stuck
    | _ => stuck
  | .invokespecial _ => match aux with
    | [b] => am_blt AT CP MX MN AB b μ S (fun S' μ' => next (pc + 3) L S' μ') stuck
    | [y, n, ci] => match S.drop n with
      | .ref a :: r => am_obj μ.1 a ci (fun _ => if am_cat r ≤ 8 then call y (.ref a :: (S.take n).reverse) r else stuck) stuck
      | _ => stuck
    | _ => stuck
  | .invokestatic _ => match aux with
    | [b] => am_blt AT CP MX MN AB b μ S (fun S' μ' => next (pc + 3) L S' μ') stuck
    | [y, n] => if am_cat (S.drop n) ≤ 8 ∧ n ≤ S.length then call y (S.take n).reverse (S.drop n) else stuck
    | _ => stuck
  | .ireturn => match S with
    | [.int x] => match ret with
      | some .int => fin (some (.int x))
      | some .boolean => B1 x (fin (some (.int x))) stuck
      | _ => stuck
    | _ => stuck
  | .lreturn => match S with
    | [.long x] => match ret with
      | some .long => fin (some (.long x))
      | _ => stuck
    | _ => stuck
  | .return_ => match S with
    | [] => match ret with
      | none => fin none
      | _ => stuck
    | _ => stuck
  | _ => stuck
def am_step {α : Type} (ret : Option FieldType) (pc : Nat) (ins : Instr) (aux : List Nat) (L : am_Loc) (S : List Value) (μ : am_Mem)
    (next : Nat → am_Loc → List Value → am_Mem → α) (call : Nat → List Value → List Value → α) (fin : Option Value → α) (stuck : α) : α :=
  am_stepG am_atC am_cpcC am_b01C am_mxC am_mnC am_abC ret pc ins aux L S μ next call fin stuck
def am_find (code : List am_Ent) (pc : Nat) : Option am_Ent := match code with
  | [] => none
  | e :: t => match Nat.beq e.1 pc with
    | true => some e
    | false => am_find t pc
/-- the locals at a method's entry -/
def am_args : List Value → am_Loc
  | [] => []
  | v :: t => match Nat.beq v.category 2 with
    | true => some v :: none :: am_args t
    | false => some v :: am_args t
def am_entry (n : Nat) (a : List Value) : am_Loc := am_args a ++ List.replicate (n - (am_args a).length) none
/-- the room that a call leaves: a rank less, or a level less -/
def am_lev (d r r' : Nat) : Option Nat := if r' < r then some d else match d with
  | 0 => none
  | d' + 1 => if r' ≤ r + 40 then some d' else none
/-- the level of a call, its arguments within its locals -/
def am_lev2 (d : Nat) (mi mj : am_Info) (a : List Value) : Option Nat := match Nat.ble (am_args a).length mj.2.2.1 with
  | true => am_lev d mi.2.2.2.2 mj.2.2.2.2
  | false => none
def am_run (MT : List am_Info) : Nat → Nat → am_Info → Nat → am_Loc → List Value → am_Mem → Option (Option Value × am_Mem)
  | 0, _, _, _, _, _, _ => none
  | n + 1, d, mi, pc, L, S, μ => match am_find mi.2.1 pc with
    | none => none
    | some (_, ins, aux) => am_step mi.2.2.2.1 pc ins aux L S μ (fun pc' L' S' μ' => am_run MT n d mi pc' L' S' μ')
      (fun y a r => match MT[y]? with
        | none => none
        | some mj => match am_lev2 d mi mj a with
          | none => none
          | some d' => match am_run MT n d' mj 0 (am_entry mj.2.2.1 a) [] μ with
            | none => none
            | some (v, μ') => am_run MT n d mi (pc + 3) L (v.toList ++ r) μ')
      (fun v => some (v, μ)) none

section
/-! AN ABSTRACT MACHINE: the same instructions over a memory of numbered cells. Cells 0 .. 4 are old (read only): the script, three static arrays, the text constant. -/
abbrev am_Shp : Type := (Nat × Nat) ⊕ (Nat × List (Option Value))
abbrev am_I : Type := Nat → Nat → Int32
abbrev am_J : Type := Nat → Nat → Int64
abbrev am_Mem : Type := List am_Shp × am_I × am_J
abbrev am_Loc : Type := List (Option Value)
/-- a place of the code: pc, instruction, what its numbers mean -/
abbrev am_Ent : Type := Nat × Instr × List Nat
/-- a method: class, code, locals, answer, rank -/
abbrev am_Info : Type := Nat × List am_Ent × Nat × Option FieldType × Nat
def am_upd (I : am_I) (c k : Nat) (x : Int32) : am_I := fun c' k' => if c' = c ∧ k' = k then x else I c' k'
def am_updJ (J : am_J) (c k : Nat) (x : Int64) : am_J := fun c' k' => if c' = c ∧ k' = k then x else J c' k'
def am_zero (I : am_I) (c : Nat) : am_I := fun c' k' => if c' = c then 0 else I c' k'
def am_zeroJ (J : am_J) (c : Nat) : am_J := fun c' k' => if c' = c then 0 else J c' k'
def am_cpy (I : am_I) (c0 s c1 d n : Nat) : am_I := fun c' k' => if c' = c1 ∧ d ≤ k' ∧ k' < d + n then I c0 (s + (k' - d)) else I c' k'
def am_lit : Int → Int32
  | .ofNat k => Int32.ofNat k
  | .negSucc k => -(Int32.ofNat (k + 1))
def am_pv (L : am_Loc) (i : Nat) : Bool := match i with
  | 0 => false
  | j + 1 => match L[j]? with
    | some (some v) => Nat.beq v.category 2
    | _ => false
def am_st (L : am_Loc) (i : Nat) (v : Value) : am_Loc := (if am_pv L i then L.set (i - 1) none else L).set i (some v)
def am_cat (S : List Value) : Nat := (S.map fun v => v.category).sum
def am_sw {α : Type} (x : Int32) (lo : Int) (tgts : List Nat) (k : Nat → α) (d : α) : α := match tgts with
  | [] => d
  | t :: ts => if x = am_lit lo then k t else am_sw x (lo + 1) ts k d
def am_popi {α : Type} (S : List Value) (k : Int32 → List Value → α) (stuck : α) : α := match S with
  | .int x :: r => k x r
  | _ => stuck
def am_popii {α : Type} (S : List Value) (k : Int32 → Int32 → List Value → α) (stuck : α) : α := match S with
  | .int y :: .int x :: r => k x y r
  | _ => stuck
def am_popll {α : Type} (S : List Value) (k : Int64 → Int64 → List Value → α) (stuck : α) : α := match S with
  | .long y :: .long x :: r => k x y r
  | _ => stuck
def am_ld {α : Type} (L : am_Loc) (i : Nat) (k : Value → α) (stuck : α) : α := match L[i]? with
  | some (some v) => k v
  | _ => stuck
/-- an array's cell: its kind and length -/
def am_arr {α : Type} (Sh : List am_Shp) (a : Nat) (k : Nat → Nat → α) (stuck : α) : α := match Sh[a]? with
  | some (.inl (t, n)) => k t n
  | _ => stuck
def am_obj {α : Type} (Sh : List am_Shp) (a ci : Nat) (k : List (Option Value) → α) (stuck : α) : α := match Sh[a]? with
  | some (.inr (c, fl)) => if c = ci then k fl else stuck
  | _ => stuck
/-- a place in an array -/
def am_atC {α : Type} (i : Int32) (n : Nat) (k : Nat → α) (stuck : α) : α := if i < 0 ∨ n ≤ i.toNatClampNeg then stuck else k i.toNatClampNeg
/-- an element of an array -/
def am_ald {α : Type} (AT : Int32 → Nat → (Nat → α) → α → α) (Sh : List am_Shp) (I : am_I) (ty : Nat → Bool) (S : List Value) (k : Nat → Nat → List Value → α) (stuck : α) : α := match S with
  | .int i :: .ref a :: r => am_arr Sh a (fun t n => match ty t with
    | true => match Nat.beq t 12 with
      | true => AT i (I a 4096).toNatClampNeg (fun j => k a j r) stuck
      | false => AT i n (fun j => k a j r) stuck
    | false => stuck) stuck
  | _ => stuck
def am_ast {α : Type} (AT : Int32 → Nat → (Nat → α) → α → α) (Sh : List am_Shp) (S : List Value) (k : Nat → Nat → Nat → Int32 → List Value → α) (stuck : α) : α := match S with
  | .int x :: .int i :: .ref a :: r => am_arr Sh a (fun t n => AT i n (fun j => k t a j x r) stuck) stuck
  | _ => stuck
def am_astl {α : Type} (AT : Int32 → Nat → (Nat → α) → α → α) (Sh : List am_Shp) (S : List Value) (k : Nat → Nat → Nat → Int64 → List Value → α) (stuck : α) : α := match S with
  | .long x :: .int i :: .ref a :: r => am_arr Sh a (fun t n => AT i n (fun j => k t a j x r) stuck) stuck
  | _ => stuck
def am_len {α : Type} (Sh : List am_Shp) (I : am_I) (S : List Value) (k : Int32 → List Value → α) (stuck : α) : α := match S with
  | .ref a :: r => am_arr Sh a (fun t n => match Nat.beq t 12 with
    | true => k (I a 4096) r
    | false => match Nat.beq t 0 with
      | true => k (Int32.ofNat n) r
      | false => stuck) stuck
  | _ => stuck
def am_getf {α : Type} (μ : am_Mem) (ci j : Nat) (S : List Value) (k : Value → List Value → α) (stuck : α) : α := match S with
  | .ref a :: r => am_obj μ.1 a ci (fun fl => match fl[j]? with
    | some none => k (.int (μ.2.1 a j)) r
    | some (some v) => k v r
    | none => stuck) stuck
  | _ => stuck
/-- z: 0 an int, 1 a boolean, 2 a reference -/
def am_putf {α : Type} (B1 : Int32 → α → α → α) (μ : am_Mem) (ci j z : Nat) (S : List Value) (k : am_Mem → List Value → α) (stuck : α) : α := match S with
  | .int x :: .ref a :: r => if 5 ≤ a then am_obj μ.1 a ci (fun fl => match fl[j]? with
    | some none => match z with
      | 0 => k (μ.1, am_upd μ.2.1 a j x, μ.2.2) r
      | 1 => B1 x (k (μ.1, am_upd μ.2.1 a j x, μ.2.2) r) stuck
      | _ => stuck
    | _ => stuck) stuck else stuck
  | .ref q :: .ref a :: r => if 5 ≤ a then am_obj μ.1 a ci (fun fl => match fl[j]? with
    | some (some _) => match z with
      | 2 => k (μ.1.set a (.inr (ci, fl.set j (some (.ref q)))), μ.2) r
      | _ => stuck
    | _ => stuck) stuck else stuck
  | _ => stuck
/-- the fields of a class as they are born -/
def am_born (l : List Bool) : List (Option Value) := l.map fun b => if b then some .null else none
def am_ty : ArrayType → Option Nat
  | .int => some 0
  | .byte => some 1
  | .boolean => some 2
  | .long => some 3
  | _ => none
def am_mxC (x y : Int32) : Int32 := if x < y then y else x
def am_mnC (x y : Int32) : Int32 := if y < x then y else x
def am_abC (x : Int32) : Int32 := if 0 ≤ x then x else 0 - x
def am_b01C {α : Type} (x : Int32) (k stuck : α) : α := if x = 0 then k else if x = 1 then k else stuck
/-- the places of a copy -/
def am_cpcC {α : Type} (s d n : Int32) (n0 n1 : Nat) (k stuck : α) : α := if s < 0 ∨ d < 0 ∨ n < 0 ∨ n0 < s.toNatClampNeg + n.toNatClampNeg ∨ n1 < d.toNatClampNeg + n.toNatClampNeg then stuck else k
/-- System.arraycopy of ints -/
def am_copy {α : Type} (CP : Int32 → Int32 → Int32 → Nat → Nat → α → α → α) (μ : am_Mem) (S : List Value) (k : am_Mem → List Value → α) (stuck : α) : α := match S with
  | .int n :: .int d :: .ref b :: .int s :: .ref a :: r => am_arr μ.1 a (fun t0 n0 => am_arr μ.1 b (fun t1 n1 =>
      if t0 = 0 ∧ t1 = 0 ∧ 5 ≤ a ∧ 5 ≤ b ∧ am_cat r ≤ 8 then CP s d n n0 n1 (k (μ.1, am_cpy μ.2.1 a s.toNatClampNeg b d.toNatClampNeg n.toNatClampNeg, μ.2.2) r) stuck else stuck) stuck) stuck
  | _ => stuck
/-- what the machine's own methods answer -/
def am_blt {α : Type} (AT : Int32 → Nat → (Nat → α) → α → α) (CP : Int32 → Int32 → Int32 → Nat → Nat → α → α → α) (MX MN : Int32 → Int32 → Int32) (AB : Int32 → Int32) (b : Nat) (μ : am_Mem) (S : List Value) (k : List Value → am_Mem → α) (stuck : α) : α := match b with
  | 0 => match S with
    | .ref _ :: r => if am_cat r ≤ 8 then k r μ else stuck
    | _ => stuck
  | 1 => am_popii S (fun x y r => if am_cat r ≤ 8 then k (.int (MX x y) :: r) μ else stuck) stuck
  | 2 => am_popii S (fun x y r => if am_cat r ≤ 8 then k (.int (MN x y) :: r) μ else stuck) stuck
  | 3 => am_popi S (fun x r => if am_cat r ≤ 8 then k (.int (AB x) :: r) μ else stuck) stuck
  | 4 => am_copy CP μ S (fun μ' r => k r μ') stuck
  | 5 => match S with
    | .int i :: .ref a :: r => if a = 4 ∧ am_cat r ≤ 8 then AT i 136 (fun j => k (.int (μ.2.1 4 j) :: r) μ) stuck else stuck
    | _ => stuck
  | _ => stuck
/-- one step: next pc locals stack memory; call method args stack; fin answer -/
def am_stepG {α : Type} (AT : Int32 → Nat → (Nat → α) → α → α) (CP : Int32 → Int32 → Int32 → Nat → Nat → α → α → α) (B1 : Int32 → α → α → α) (MX MN : Int32 → Int32 → Int32) (AB : Int32 → Int32) (ret : Option FieldType) (pc : Nat) (ins : Instr) (aux : List Nat) (L : am_Loc) (S : List Value) (μ : am_Mem)
    (next : Nat → am_Loc → List Value → am_Mem → α) (call : Nat → List Value → List Value → α) (fin : Option Value → α) (stuck : α) : α := match ins with
  | .iconst n => next (pc + 1) L (.int (am_lit n) :: S) μ
  | .bipush n => next (pc + 2) L (.int (am_lit n) :: S) μ
  | .sipush n => next (pc + 3) L (.int (am_lit n) :: S) μ
  | .lconst n => next (pc + 1) L (.long (Int64.ofNat n.val) :: S) μ
  | .aconst_null => next (pc + 1) L (.null :: S) μ
  | .iload i => am_ld L i (fun v => match v with | .int x => next (pc + 2) L (.int x :: S) μ | _ => stuck) stuck
  | .iload_n i => am_ld L i.val (fun v => match v with | .int x => next (pc + 1) L (.int x :: S) μ | _ => stuck) stuck
  | .lload i => am_ld L i (fun v => match v with | .long x => next (pc + 2) L (.long x :: S) μ | _ => stuck) stuck
  | .lload_n i => am_ld L i.val (fun v => match v with | .long x => next (pc + 1) L (.long x :: S) μ | _ => stuck) stuck
  | .aload i => am_ld L i (fun v => match v with | .ref x => next (pc + 2) L (.ref x :: S) μ | _ => stuck) stuck
  | .aload_n i => am_ld L i.val (fun v => match v with | .ref x => next (pc + 1) L (.ref x :: S) μ | _ => stuck) stuck
  | .istore i => am_popi S (fun x r => next (pc + 2) (am_st L i (.int x)) r μ) stuck
  | .istore_n i => am_popi S (fun x r => next (pc + 1) (am_st L i.val (.int x)) r μ) stuck
  | .lstore i => match S with
    | .long x :: r => next (pc + 2) ((am_st L i (.long x)).set (i + 1) none) r μ
    | _ => stuck
  | .astore_n i => match S with
    | .ref x :: r => next (pc + 1) (am_st L i.val (.ref x)) r μ
    | _ => stuck
  | .iinc i n => am_ld L i (fun v => match v with | .int x => next (pc + 3) (am_st L i (.int (x + am_lit n))) S μ | _ => stuck) stuck
  | .iadd => am_popii S (fun x y r => next (pc + 1) L (.int (x + y) :: r) μ) stuck
  | .isub => am_popii S (fun x y r => next (pc + 1) L (.int (x - y) :: r) μ) stuck
  | .imul => am_popii S (fun x y r => next (pc + 1) L (.int (x * y) :: r) μ) stuck
  | .idiv => am_popii S (fun x y r => if y = 0 then stuck else next (pc + 1) L (.int (x / y) :: r) μ) stuck
  | .irem => am_popii S (fun x y r => if y = 0 then stuck else next (pc + 1) L (.int (x - x / y * y) :: r) μ) stuck
  | .ineg => am_popi S (fun x r => next (pc + 1) L (.int (-x) :: r) μ) stuck
  | .iand => am_popii S (fun x y r => next (pc + 1) L (.int (x &&& y) :: r) μ) stuck
  | .ior => am_popii S (fun x y r => next (pc + 1) L (.int (x ||| y) :: r) μ) stuck
  | .ixor => am_popii S (fun x y r => next (pc + 1) L (.int (x ^^^ y) :: r) μ) stuck
  | .ishl => am_popii S (fun x y r => next (pc + 1) L (.int (x <<< (y &&& 31)) :: r) μ) stuck
  | .ishr => am_popii S (fun x y r => next (pc + 1) L (.int (x >>> (y &&& 31)) :: r) μ) stuck
  | .iushr => am_popii S (fun x y r => next (pc + 1) L (.int (x.toUInt32 >>> (y.toUInt32 &&& Int32.toUInt32 31)).toInt32 :: r) μ) stuck
  | .ladd => am_popll S (fun x y r => next (pc + 1) L (.long (x + y) :: r) μ) stuck
  | .lmul => am_popll S (fun x y r => next (pc + 1) L (.long (x * y) :: r) μ) stuck
  | .lcmp => am_popll S (fun x y r => next (pc + 1) L (.int (lg_cmp x y) :: r) μ) stuck
  | .i2l => am_popi S (fun x r => next (pc + 1) L (.long x.toInt64 :: r) μ) stuck
  | .i2b => am_popi S (fun x r => next (pc + 1) L (.int x.toInt8.toInt32 :: r) μ) stuck
  | .dup => match S with
    | v :: r => if v.category = 1 then next (pc + 1) L (v :: v :: r) μ else stuck
    | _ => stuck
  | .dup2 => match S with
    | b :: a :: r => if a.category = 1 ∧ b.category = 1 then next (pc + 1) L (b :: a :: b :: a :: r) μ else stuck
    | _ => stuck
  | .pop => match S with
    | v :: r => if v.category = 1 then next (pc + 1) L r μ else stuck
    | _ => stuck
  | .goto _ => match aux with
    | [t] => next t L S μ
    | _ => stuck
  | .ifCond c _ => match aux with
    | [t] => am_popi S (fun x r => match c with
      | .eq => if x = 0 then next t L r μ else next (pc + 3) L r μ
      | .ne => if x = 0 then next (pc + 3) L r μ else next t L r μ
      | .lt => if x < 0 then next t L r μ else next (pc + 3) L r μ
      | .ge => if 0 ≤ x then next t L r μ else next (pc + 3) L r μ
      | .gt => if 0 < x then next t L r μ else next (pc + 3) L r μ
      | .le => if x ≤ 0 then next t L r μ else next (pc + 3) L r μ) stuck
    | _ => stuck
  | .if_icmp c _ => match aux with
    | [t] => am_popii S (fun x y r => match c with
      | .eq => if x = y then next t L r μ else next (pc + 3) L r μ
      | .ne => if x = y then next (pc + 3) L r μ else next t L r μ
      | .lt => if x < y then next t L r μ else next (pc + 3) L r μ
      | .ge => if y ≤ x then next t L r μ else next (pc + 3) L r μ
      | .gt => if y < x then next t L r μ else next (pc + 3) L r μ
      | .le => if x ≤ y then next t L r μ else next (pc + 3) L r μ) stuck
    | _ => stuck
  | .tableswitch _ lo _ _ => match aux with
    | d :: ts => am_popi S (fun x r => am_sw x lo ts (fun t => next t L r μ) (next d L r μ)) stuck
    | _ => stuck
  | .getfield _ => match aux with
    | [ci, j] => am_getf μ ci j S (fun v r => next (pc + 3) L (v :: r) μ) stuck
    | _ => stuck
  | .putfield _ => match aux with
    | [ci, j, z] => am_putf B1 μ ci j z S (fun μ' r => next (pc + 3) L r μ') stuck
    | _ => stuck
  | .getstatic _ => match aux with
    | [a] => next (pc + 3) L (.ref a :: S) μ
    | _ => stuck
  | .ldc _ => match aux with
    | [0, x] => next (pc + 2) L (.int (Int32.ofNat x) :: S) μ
    | [1, x] => next (pc + 2) L (.int (-(Int32.ofNat x)) :: S) μ
    | [2, a] => next (pc + 2) L (.ref a :: S) μ
    | _ => stuck
  | .ldc_w _ => match aux with
    | [0, x] => next (pc + 3) L (.int (Int32.ofNat x) :: S) μ
    | [1, x] => next (pc + 3) L (.int (-(Int32.ofNat x)) :: S) μ
    | _ => stuck
  | .ldc2_w _ => match aux with
    | [x] => next (pc + 3) L (.long (Int64.ofNat x) :: S) μ
    | _ => stuck
  | .iaload => am_ald AT μ.1 μ.2.1 (fun t => Nat.beq t 0 || Nat.beq t 10 || Nat.beq t 12) S (fun a j r => next (pc + 1) L (.int (μ.2.1 a j) :: r) μ) stuck
  | .baload => am_ald AT μ.1 μ.2.1 (fun t => Nat.beq t 1 || Nat.beq t 2) S (fun a j r => next (pc + 1) L (.int (μ.2.1 a j) :: r) μ) stuck
  | .laload => am_ald AT μ.1 μ.2.1 (fun t => Nat.beq t 3) S (fun a j r => next (pc + 1) L (.long (μ.2.2 a j) :: r) μ) stuck
  | .iastore => am_ast AT μ.1 S (fun t a j x r => if t = 0 then next (pc + 1) L r (μ.1, am_upd μ.2.1 a j x, μ.2.2) else stuck) stuck
  | .bastore => am_ast AT μ.1 S (fun t a j x r => if t = 1 then next (pc + 1) L r (μ.1, am_upd μ.2.1 a j x.toInt8.toInt32, μ.2.2) else if t = 2 then B1 x (next (pc + 1) L r (μ.1, am_upd μ.2.1 a j x, μ.2.2)) stuck else stuck) stuck
  | .lastore => am_astl AT μ.1 S (fun t a j x r => if t = 3 then next (pc + 1) L r (μ.1, μ.2.1, am_updJ μ.2.2 a j x) else stuck) stuck
  | .arraylength => am_len μ.1 μ.2.1 S (fun x r => next (pc + 1) L (.int x :: r) μ) stuck
  | .newarray t => match am_ty t with
    | some y => am_popi S (fun n r => if n < 0 ∨ 65536 < n.toNatClampNeg then stuck else next (pc + 2) L (.ref μ.1.length :: r) (μ.1 ++ [.inl (y, n.toNatClampNeg)], am_zero μ.2.1 μ.1.length, am_zeroJ μ.2.2 μ.1.length)) stuck
    | none => stuck
  | .new _ => match aux with
    | ci :: bs => next (pc + 3) L (.ref μ.1.length :: S) (μ.1 ++ [.inr (ci, am_born (bs.map fun b => b == 1))], am_zero μ.2.1 μ.1.length, am_zeroJ μ.2.2 μ.1.length)
    | _ => stuck
  | .invokevirtual _ => match aux with
    | [b] => am_blt AT CP MX MN AB b μ S (fun S' μ' => next (pc + 3) L S' μ') stuck
    | [y, n, ci] => match S.drop n with
      | .ref a :: r => am_obj μ.1 a ci (fun _ => if am_cat r ≤ 8 then call y (.ref a :: (S.take n).reverse) r else stuck) stuck
      | _ => stuck
    | _ => stuck
  | .invokespecial _ => match aux with
    | [b] => am_blt AT CP MX MN AB b μ S (fun S' μ' => next (pc + 3) L S' μ') stuck
    | [y, n, ci] => match S.drop n with
      | .ref a :: r => am_obj μ.1 a ci (fun _ => if am_cat r ≤ 8 then call y (.ref a :: (S.take n).reverse) r else stuck) stuck
      | _ => stuck
    | _ => stuck
  | .invokestatic _ => match aux with
    | [b] => am_blt AT CP MX MN AB b μ S (fun S' μ' => next (pc + 3) L S' μ') stuck
    | [y, n] => if am_cat (S.drop n) ≤ 8 ∧ n ≤ S.length then call y (S.take n).reverse (S.drop n) else stuck
    | _ => stuck
  | .ireturn => match S with
    | [.int x] => match ret with
      | some .int => fin (some (.int x))
      | some .boolean => B1 x (fin (some (.int x))) stuck
      | _ => stuck
    | _ => stuck
  | .lreturn => match S with
    | [.long x] => match ret with
      | some .long => fin (some (.long x))
      | _ => stuck
    | _ => stuck
  | .return_ => match S with
    | [] => match ret with
      | none => fin none
      | _ => stuck
    | _ => stuck
  | _ => stuck
def am_step {α : Type} (ret : Option FieldType) (pc : Nat) (ins : Instr) (aux : List Nat) (L : am_Loc) (S : List Value) (μ : am_Mem)
    (next : Nat → am_Loc → List Value → am_Mem → α) (call : Nat → List Value → List Value → α) (fin : Option Value → α) (stuck : α) : α :=
  am_stepG am_atC am_cpcC am_b01C am_mxC am_mnC am_abC ret pc ins aux L S μ next call fin stuck
def am_find (code : List am_Ent) (pc : Nat) : Option am_Ent := match code with
  | [] => none
  | e :: t => match Nat.beq e.1 pc with
    | true => some e
    | false => am_find t pc
/-- the locals at a method's entry -/
def am_args : List Value → am_Loc
  | [] => []
  | v :: t => match Nat.beq v.category 2 with
    | true => some v :: none :: am_args t
    | false => some v :: am_args t
def am_entry (n : Nat) (a : List Value) : am_Loc := am_args a ++ List.replicate (n - (am_args a).length) none
/-- the room that a call leaves: a rank less, or a level less -/
def am_lev (d r r' : Nat) : Option Nat := if r' < r then some d else match d with
  | 0 => none
  | d' + 1 => if r' ≤ r + 40 then some d' else none
/-- the level of a call, its arguments within its locals -/
def am_lev2 (d : Nat) (mi mj : am_Info) (a : List Value) : Option Nat := match Nat.ble (am_args a).length mj.2.2.1 with
  | true => am_lev d mi.2.2.2.2 mj.2.2.2.2
  | false => none
def am_run (MT : List am_Info) : Nat → Nat → am_Info → Nat → am_Loc → List Value → am_Mem → Option (Option Value × am_Mem)
  | 0, _, _, _, _, _, _ => none
  | n + 1, d, mi, pc, L, S, μ => match am_find mi.2.1 pc with
    | none => none
    | some (_, ins, aux) => am_step mi.2.2.2.1 pc ins aux L S μ (fun pc' L' S' μ' => am_run MT n d mi pc' L' S' μ')
      (fun y a r => match MT[y]? with
        | none => none
        | some mj => match am_lev2 d mi mj a with
          | none => none
          | some d' => match am_run MT n d' mj 0 (am_entry mj.2.2.1 a) [] μ with
            | none => none
            | some (v, μ') => am_run MT n d mi (pc + 3) L (v.toList ++ r) μ')
      (fun v => some (v, μ)) none
end
section
/-! what the abstract machine's steps share -/
def am_leL (L L' : am_Loc) : Prop := L.length = L'.length ∧ ∀ (i : Nat) (v : Value), L[i]? = some (some v) → L'[i]? = some (some v)
theorem am_leL.rf (L : am_Loc) : am_leL L L := ⟨rfl, fun _ _ h => h⟩
theorem am_leL.tr {L L' L'' : am_Loc} (h : am_leL L L') (h' : am_leL L' L'') : am_leL L L'' := ⟨h.1.trans h'.1, fun i v q => h'.2 i v (h.2 i v q)⟩
theorem am_leL.setN {L L' : am_Loc} (h : am_leL L L') (i : Nat) : am_leL (L.set i none) (L'.set i none) := by
  refine ⟨by simp [h.1], fun j v q => ?_⟩
  rw [List.getElem?_set] at q ⊢
  by_cases hij : i = j
  · rw [if_pos hij] at q
    split at q <;> cases q
  · rw [if_neg hij] at q ⊢
    exact h.2 j v q
theorem am_leL.setN' {L L' : am_Loc} (h : am_leL L L') (i : Nat) (hn : ∀ v, L[i]? ≠ some (some v)) : am_leL L (L'.set i none) := by
  refine ⟨by simp [h.1], fun j v q => ?_⟩
  rw [List.getElem?_set]
  by_cases hij : i = j
  · subst hij
    exact absurd q (hn v)
  · rw [if_neg hij]
    exact h.2 j v q
theorem am_leL.setN2 {L L' : am_Loc} (h : am_leL L L') (i : Nat) : am_leL (L.set i none) L' := by
  refine ⟨by simp [h.1], fun j v q => ?_⟩
  rw [List.getElem?_set] at q
  by_cases hij : i = j
  · rw [if_pos hij] at q
    split at q <;> cases q
  · rw [if_neg hij] at q
    exact h.2 j v q
theorem am_leL.setV {L L' : am_Loc} (h : am_leL L L') (i : Nat) (w : Value) : am_leL (L.set i (some w)) (L'.set i (some w)) := by
  refine ⟨by simp [h.1], fun j v q => ?_⟩
  rw [List.getElem?_set] at q ⊢
  by_cases hij : i = j
  · rw [if_pos hij] at q ⊢
    rw [← h.1]
    exact q
  · rw [if_neg hij] at q ⊢
    exact h.2 j v q
theorem am_leL.st {L L' : am_Loc} (h : am_leL L L') (i : Nat) (w : Value) : am_leL (am_st L i w) (am_st L' i w) := by
  unfold am_st
  refine am_leL.setV ?_ i w
  cases hp : am_pv L i <;> cases hq : am_pv L' i
  · simpa using h
  · simp only [Bool.false_eq_true, if_false, if_true]
    refine h.setN' _ (fun v hv => ?_)
    cases i with
    | zero => simp [am_pv] at hq
    | succ j =>
      have hv : L[j]? = some (some v) := hv
      have h2 := h.2 j v hv
      simp only [am_pv] at hp hq
      rw [hv] at hp
      rw [h2] at hq
      rw [hq] at hp
      cases hp
  · simp only [Bool.false_eq_true, if_false, if_true]
    exact h.setN2 _
  · simp only [if_true]
    exact h.setN _
/-- related locals, equal ones where they come of equal ones -/
def am_lk (L L' L1 L1' : am_Loc) : Prop := am_leL L1 L1' ∧ (L = L' → L1 = L1')
theorem am_lk.st {L L' L1 L1' : am_Loc} (h : am_lk L L' L1 L1') (i : Nat) (w : Value) : am_lk L L' (am_st L1 i w) (am_st L1' i w) := ⟨h.1.st i w, fun e => by rw [h.2 e]⟩
theorem am_lk.setN {L L' L1 L1' : am_Loc} (h : am_lk L L' L1 L1') (i : Nat) : am_lk L L' (L1.set i none) (L1'.set i none) := ⟨h.1.setN i, fun e => by rw [h.2 e]⟩
section AMR
variable {α β : Type} (Rel : α → β → Prop)
theorem am_popi_rel {S : List Value} {k : Int32 → List Value → α} {k' : Int32 → List Value → β} {st : α} {st' : β} (hs : ∀ b, Rel st b) (hk : ∀ x r, Rel (k x r) (k' x r)) : Rel (am_popi S k st) (am_popi S k' st') := by
  unfold am_popi
  split
  · exact hk _ _
  · exact hs _
theorem am_popii_rel {S : List Value} {k : Int32 → Int32 → List Value → α} {k' : Int32 → Int32 → List Value → β} {st : α} {st' : β} (hs : ∀ b, Rel st b) (hk : ∀ x y r, Rel (k x y r) (k' x y r)) : Rel (am_popii S k st) (am_popii S k' st') := by
  unfold am_popii
  split
  · exact hk _ _ _
  · exact hs _
theorem am_popll_rel {S : List Value} {k : Int64 → Int64 → List Value → α} {k' : Int64 → Int64 → List Value → β} {st : α} {st' : β} (hs : ∀ b, Rel st b) (hk : ∀ x y r, Rel (k x y r) (k' x y r)) : Rel (am_popll S k st) (am_popll S k' st') := by
  unfold am_popll
  split
  · exact hk _ _ _
  · exact hs _
theorem am_ld_rel {L L' : am_Loc} (hL : am_leL L L') {i : Nat} {k : Value → α} {k' : Value → β} {st : α} {st' : β} (hs : ∀ b, Rel st b) (hk : ∀ x, Rel (k x) (k' x)) : Rel (am_ld L i k st) (am_ld L' i k' st') := by
  unfold am_ld
  split
  · rename_i v h
    rw [hL.2 _ _ h]
    exact hk _
  · exact hs _
theorem am_sw_rel {x : Int32} {ts : List Nat} {k : Nat → α} {k' : Nat → β} {st : α} {st' : β} (hs : Rel st st') (hk : ∀ x, Rel (k x) (k' x)) : ∀ lo : Int, Rel (am_sw x lo ts k st) (am_sw x lo ts k' st') := by
  induction ts with
  | nil => intro lo; exact hs
  | cons t ts ih =>
    intro lo
    unfold am_sw
    split
    · exact hk _
    · exact ih _
theorem am_arr_rel {Sh : List am_Shp} {a : Nat} {k : Nat → Nat → α} {k' : Nat → Nat → β} {st : α} {st' : β} (hs : ∀ b, Rel st b) (hk : ∀ t n, Rel (k t n) (k' t n)) : Rel (am_arr Sh a k st) (am_arr Sh a k' st') := by
  unfold am_arr
  split
  · exact hk _ _
  · exact hs _
theorem am_obj_rel {Sh : List am_Shp} {a ci : Nat} {k : List (Option Value) → α} {k' : List (Option Value) → β} {st : α} {st' : β} (hs : ∀ b, Rel st b) (hk : ∀ t, Rel (k t) (k' t)) : Rel (am_obj Sh a ci k st) (am_obj Sh a ci k' st') := by
  unfold am_obj
  split
  · split
    · exact hk _
    · exact hs _
  · exact hs _
theorem am_at_rel {i : Int32} {n : Nat} {k : Nat → α} {k' : Nat → β} {st : α} {st' : β} (hs : ∀ b, Rel st b) (hk : ∀ t, Rel (k t) (k' t)) : Rel (am_atC i n k st) (am_atC i n k' st') := by
  unfold am_atC
  split
  · exact hs _
  · exact hk _
theorem am_ald_rel {Sh : List am_Shp} {I : am_I} {ty : Nat → Bool} {S : List Value} {k : Nat → Nat → List Value → α} {k' : Nat → Nat → List Value → β} {st : α} {st' : β} (hs : ∀ b, Rel st b) (hk : ∀ a j r, Rel (k a j r) (k' a j r)) : Rel (am_ald am_atC Sh I ty S k st) (am_ald am_atC Sh I ty S k' st') := by
  unfold am_ald
  split
  · refine am_arr_rel Rel hs (fun t n => ?_)
    split
    · split
      · exact am_at_rel Rel hs (fun j => hk _ _ _)
      · exact am_at_rel Rel hs (fun j => hk _ _ _)
    · exact hs _
  · exact hs _
theorem am_ast_rel {Sh : List am_Shp} {S : List Value} {k : Nat → Nat → Nat → Int32 → List Value → α} {k' : Nat → Nat → Nat → Int32 → List Value → β} {st : α} {st' : β} (hs : ∀ b, Rel st b) (hk : ∀ t a j x r, Rel (k t a j x r) (k' t a j x r)) : Rel (am_ast am_atC Sh S k st) (am_ast am_atC Sh S k' st') := by
  unfold am_ast
  split
  · exact am_arr_rel Rel hs (fun t n => am_at_rel Rel hs (fun j => hk _ _ _ _ _))
  · exact hs _
theorem am_astl_rel {Sh : List am_Shp} {S : List Value} {k : Nat → Nat → Nat → Int64 → List Value → α} {k' : Nat → Nat → Nat → Int64 → List Value → β} {st : α} {st' : β} (hs : ∀ b, Rel st b) (hk : ∀ t a j x r, Rel (k t a j x r) (k' t a j x r)) : Rel (am_astl am_atC Sh S k st) (am_astl am_atC Sh S k' st') := by
  unfold am_astl
  split
  · exact am_arr_rel Rel hs (fun t n => am_at_rel Rel hs (fun j => hk _ _ _ _ _))
  · exact hs _
theorem am_len_rel {Sh : List am_Shp} {I : am_I} {S : List Value} {k : Int32 → List Value → α} {k' : Int32 → List Value → β} {st : α} {st' : β} (hs : ∀ b, Rel st b) (hk : ∀ n r, Rel (k n r) (k' n r)) : Rel (am_len Sh I S k st) (am_len Sh I S k' st') := by
  unfold am_len
  split
  · refine am_arr_rel Rel hs (fun t n => ?_)
    split
    · exact hk _ _
    · split
      · exact hk _ _
      · exact hs _
  · exact hs _
theorem am_b01_rel {x : Int32} {k : α} {k' : β} {st : α} {st' : β} (hs : ∀ b, Rel st b) (hk : Rel k k') : Rel (am_b01C x k st) (am_b01C x k' st') := by
  unfold am_b01C
  split
  · exact hk
  · split
    · exact hk
    · exact hs _
theorem am_getf_rel {μ : am_Mem} {ci j : Nat} {S : List Value} {k : Value → List Value → α} {k' : Value → List Value → β} {st : α} {st' : β} (hs : ∀ b, Rel st b) (hk : ∀ v r, Rel (k v r) (k' v r)) : Rel (am_getf μ ci j S k st) (am_getf μ ci j S k' st') := by
  unfold am_getf
  split
  · refine am_obj_rel Rel hs (fun fl => ?_)
    split
    · exact hk _ _
    · exact hk _ _
    · exact hs _
  · exact hs _
theorem am_putf_rel {μ : am_Mem} {ci j z : Nat} {S : List Value} {k : am_Mem → List Value → α} {k' : am_Mem → List Value → β} {st : α} {st' : β} (hs : ∀ b, Rel st b) (hk : ∀ (μ' : am_Mem) r, (¬ z = 2 → μ'.1 = μ.1) → Rel (k μ' r) (k' μ' r)) : Rel (am_putf am_b01C μ ci j z S k st) (am_putf am_b01C μ ci j z S k' st') := by
  unfold am_putf
  split
  · split
    · refine am_obj_rel Rel hs (fun fl => ?_)
      split
      · split
        · exact hk _ _ (fun _ => rfl)
        · exact am_b01_rel Rel hs (hk _ _ (fun _ => rfl))
        · exact hs _
      · exact hs _
    · exact hs _
  · split
    · refine am_obj_rel Rel hs (fun fl => ?_)
      split
      · split
        · exact hk _ _ (fun h => absurd rfl h)
        · exact hs _
      · exact hs _
    · exact hs _
  · exact hs _
theorem am_cpc_rel {s d n : Int32} {n0 n1 : Nat} {k : α} {k' : β} {st : α} {st' : β} (hs : ∀ b, Rel st b) (hk : Rel k k') : Rel (am_cpcC s d n n0 n1 k st) (am_cpcC s d n n0 n1 k' st') := by
  unfold am_cpcC
  split
  · exact hs _
  · exact hk
theorem am_copy_rel {μ : am_Mem} {S : List Value} {k : am_Mem → List Value → α} {k' : am_Mem → List Value → β} {st : α} {st' : β} (hs : ∀ b, Rel st b) (hk : ∀ (μ' : am_Mem) r, μ'.1 = μ.1 → Rel (k μ' r) (k' μ' r)) : Rel (am_copy am_cpcC μ S k st) (am_copy am_cpcC μ S k' st') := by
  unfold am_copy
  split
  · refine am_arr_rel Rel hs (fun t n => am_arr_rel Rel hs (fun t n => ?_))
    split
    · exact am_cpc_rel Rel hs (hk _ _ rfl)
    · exact hs _
  · exact hs _
theorem am_blt_rel {b : Nat} {μ : am_Mem} {S : List Value} {k : List Value → am_Mem → α} {k' : List Value → am_Mem → β} {st : α} {st' : β} (hs : ∀ b, Rel st b) (hk : ∀ r (μ' : am_Mem), μ'.1 = μ.1 → Rel (k r μ') (k' r μ')) : Rel (am_blt am_atC am_cpcC am_mxC am_mnC am_abC b μ S k st) (am_blt am_atC am_cpcC am_mxC am_mnC am_abC b μ S k' st') := by
  unfold am_blt
  split
  · split
    · split
      · exact hk _ _ rfl
      · exact hs _
    · exact hs _
  · refine am_popii_rel Rel hs (fun x y r => ?_)
    split
    · exact hk _ _ rfl
    · exact hs _
  · refine am_popii_rel Rel hs (fun x y r => ?_)
    split
    · exact hk _ _ rfl
    · exact hs _
  · refine am_popi_rel Rel hs (fun x r => ?_)
    split
    · exact hk _ _ rfl
    · exact hs _
  · exact am_copy_rel Rel hs (fun μ' r h => hk _ _ h)
  · split
    · split
      · exact am_at_rel Rel hs (fun j => hk _ _ rfl)
      · exact hs _
    · exact hs _
  · exact hs _
end AMR
/-- an instruction that makes no cell and writes no reference -/
def am_noal (ins : Instr) (aux : List Nat) : Bool := match ins with
  | .new _ => false
  | .newarray _ => false
  | .putfield _ => match aux with
    | [_, _, 2] => false
    | _ => true
  | _ => true
set_option maxHeartbeats 4000000 in
theorem am_step_rel {α β : Type} (Rel : α → β → Prop) {ret : Option FieldType} {pc : Nat} {ins : Instr} {aux : List Nat} {L L' : am_Loc} {S : List Value} {μ : am_Mem}
    {next : Nat → am_Loc → List Value → am_Mem → α} {call : Nat → List Value → List Value → α} {fin : Option Value → α} {stuck : α}
    {next' : Nat → am_Loc → List Value → am_Mem → β} {call' : Nat → List Value → List Value → β} {fin' : Option Value → β} {stuck' : β}
    (hL : am_leL L L') (hs : ∀ b, Rel stuck b) (hn : ∀ pc' L1 L1' S' μ', am_lk L L' L1 L1' → (am_noal ins aux = true → μ'.1 = μ.1) → Rel (next pc' L1 S' μ') (next' pc' L1' S' μ'))
    (hc : ∀ y a r, Rel (call y a r) (call' y a r)) (hf : ∀ v, Rel (fin v) (fin' v)) :
    Rel (am_step ret pc ins aux L S μ next call fin stuck) (am_step ret pc ins aux L' S μ next' call' fin' stuck') := by
  have hK : am_lk L L' L L' := ⟨hL, id⟩
  cases ins <;> simp only [am_step, am_stepG]
  all_goals (first
    | exact hs _
    | exact hn _ _ _ _ _ hK (fun _ => rfl)
    | (refine am_ld_rel Rel hL hs (fun v => ?_); cases v <;> (first | exact hs _ | exact hn _ _ _ _ _ hK (fun _ => rfl) | exact hn _ _ _ _ _ (hK.st _ _) (fun _ => rfl)))
    | exact am_popi_rel Rel hs (fun x r => hn _ _ _ _ _ hK (fun _ => rfl))
    | exact am_popi_rel Rel hs (fun x r => hn _ _ _ _ _ (hK.st _ _) (fun _ => rfl))
    | exact am_popii_rel Rel hs (fun x y r => hn _ _ _ _ _ hK (fun _ => rfl))
    | exact am_popll_rel Rel hs (fun x y r => hn _ _ _ _ _ hK (fun _ => rfl))
    | (refine am_popii_rel Rel hs (fun x y r => ?_); split <;> (first | exact hs _ | exact hn _ _ _ _ _ hK (fun _ => rfl)))
    | exact am_ald_rel Rel hs (fun a j r => hn _ _ _ _ _ hK (fun _ => rfl))
    | exact am_len_rel Rel hs (fun n r => hn _ _ _ _ _ hK (fun _ => rfl))
    | (refine am_ast_rel Rel hs (fun t a j x r => ?_); repeat' split
       all_goals (first | exact hs _ | exact hn _ _ _ _ _ hK (fun _ => rfl) | exact am_b01_rel Rel hs (hn _ _ _ _ _ hK (fun _ => rfl))))
    | (refine am_astl_rel Rel hs (fun t a j x r => ?_); repeat' split
       all_goals (first | exact hs _ | exact hn _ _ _ _ _ hK (fun _ => rfl)))
    | skip)
  all_goals (split <;> (first | exact hs _ | exact hn _ _ _ _ _ hK (fun _ => rfl) | exact hn _ _ _ _ _ (hK.st _ _) (fun _ => rfl) | exact hn _ _ _ _ _ ((hK.st _ _).setN _) (fun _ => rfl) | skip))
  all_goals (first
        | exact am_getf_rel Rel hs (fun v r => hn _ _ _ _ _ hK (fun _ => rfl))
        | exact am_popi_rel Rel hs (fun x r => am_sw_rel Rel (hn _ _ _ _ _ hK (fun _ => rfl)) (fun t => hn _ _ _ _ _ hK (fun _ => rfl)) _)
        | (refine am_putf_rel Rel hs (fun μ' r h => hn _ _ _ _ _ hK (fun q => h (fun z => ?_))); subst z; cases q; done)
        | exact am_blt_rel Rel hs (fun r μ' h => hn _ _ _ _ _ hK (fun _ => h))
        | exact hn _ _ _ _ _ hK (fun h => by cases h)
        | (refine am_popi_rel Rel hs (fun x r => ?_); repeat' split
           all_goals (first | exact hs _ | exact hn _ _ _ _ _ hK (fun _ => rfl) | exact hn _ _ _ _ _ hK (fun h => by cases h)); done)
        | (refine am_popii_rel Rel hs (fun x y r => ?_); repeat' split
           all_goals exact hn _ _ _ _ _ hK (fun _ => rfl); done)
        | skip)
  all_goals (split <;> (first | exact hs _ | exact hf _ | exact hc _ _ _ | exact hn _ _ _ _ _ hK (fun _ => rfl) | exact am_b01_rel Rel hs (hf _) | exact am_obj_rel Rel hs (fun fl => by split <;> (first | exact hs _ | exact hc _ _ _)) | (split <;> (first | exact hs _ | exact hf _ | exact am_b01_rel Rel hs (hf _)))))
end
section
/-! runs over a memory whose shape stays, and what they come to -/
abbrev am_Out : Type := Option (Option Value × am_I × am_J)
def am_le {α : Type} (x y : Option α) : Prop := ∀ r, x = some r → y = some r
theorem am_le.rf {α : Type} (x : Option α) : am_le x x := fun _ h => h
theorem am_le.tr {α : Type} {x y z : Option α} (h : am_le x y) (h' : am_le y z) : am_le x z := fun r q => h' r (h r q)
theorem am_le.no {α : Type} (y : Option α) : am_le none y := fun _ h => by cases h
def am_run2 (MT : List am_Info) (Sh : List am_Shp) : Nat → Nat → am_Info → Nat → am_Loc → List Value → am_I → am_J → am_Out
  | 0, _, _, _, _, _, _, _ => none
  | n + 1, d, mi, pc, L, S, I, J => match am_find mi.2.1 pc with
    | none => none
    | some (_, ins, aux) => match am_noal ins aux with
      | false => none
      | true => am_step mi.2.2.2.1 pc ins aux L S (Sh, I, J) (fun pc' L' S' μ' => am_run2 MT Sh n d mi pc' L' S' μ'.2.1 μ'.2.2)
        (fun y a r => match MT[y]? with
          | none => none
          | some mj => match am_lev2 d mi mj a with
            | none => none
            | some d' => match am_run2 MT Sh n d' mj 0 (am_entry mj.2.2.1 a) [] I J with
              | none => none
              | some (v, I', J') => am_run2 MT Sh n d mi (pc + 3) L (v.toList ++ r) I' J')
        (fun v => some (v, I, J)) none
theorem am_run2_mono (MT : List am_Info) (Sh : List am_Shp) : ∀ (n m d : Nat) (mi : am_Info) (pc : Nat) (L L' : am_Loc) (S : List Value) (I : am_I) (J : am_J), n ≤ m → am_leL L L' → am_le (am_run2 MT Sh n d mi pc L S I J) (am_run2 MT Sh m d mi pc L' S I J) := by
  intro n
  induction n with
  | zero => intro m d mi pc L L' S I J _ _ r h; cases h
  | succ n ih =>
    intro m d mi pc L L' S I J hm hL
    obtain ⟨m, rfl⟩ : ∃ k, m = k + 1 := ⟨m - 1, by omega⟩
    unfold am_run2
    split
    · exact am_le.no _
    · rename_i ins aux hf
      split
      · exact am_le.no _
      · refine am_step_rel am_le hL (fun b => am_le.no b) (fun pc' L1 L1' S' μ' h1 _ => ih m d mi pc' L1 L1' S' _ _ (by omega) h1.1) (fun y a r => ?_) (fun v => am_le.rf _)
        split
        · exact am_le.no _
        · split
          · exact am_le.no _
          · rename_i mj _ _ d' _
            have h2 := ih m d' mj 0 (am_entry mj.2.2.1 a) (am_entry mj.2.2.1 a) [] I J (by omega) (am_leL.rf _)
            split
            · exact am_le.no _
            · rename_i v I' J' hv
              rw [h2 _ hv]
              exact ih m d mi (pc + 3) L L' _ _ _ (by omega) hL
theorem am_run2_run (MT : List am_Info) (Sh : List am_Shp) : ∀ (n d : Nat) (mi : am_Info) (pc : Nat) (L : am_Loc) (S : List Value) (I : am_I) (J : am_J) (v : Option Value) (I' : am_I) (J' : am_J), am_run2 MT Sh n d mi pc L S I J = some (v, I', J') → am_run MT n d mi pc L S (Sh, I, J) = some (v, (Sh, I', J')) := by
  intro n
  induction n with
  | zero => intro d mi pc L S I J v I' J' h; cases h
  | succ n ih =>
    intro d mi pc L S I J v I' J' h
    unfold am_run2 at h
    unfold am_run
    have key : ∀ (x : am_Out) (y : Option (Option Value × am_Mem)), (∀ v I' J', x = some (v, I', J') → y = some (v, (Sh, I', J'))) → x = some (v, I', J') → y = some (v, (Sh, I', J')) := fun x y q e => q _ _ _ e
    split at h
    · cases h
    · rename_i ins aux hf
      rw [hf]
      split at h
      · cases h
      · rename_i hno
        refine am_step_rel (fun (x : am_Out) (y : Option (Option Value × am_Mem)) => ∀ v I' J', x = some (v, I', J') → y = some (v, (Sh, I', J'))) (am_leL.rf L) (fun b v I' J' q => by cases q) (fun pc' L1 L1' S' μ' hl hs v I' J' q => ?_) (fun y a r v I' J' q => ?_) (fun v v' I' J' q => ?_) v I' J' h
        · obtain ⟨Sh', I1, J1⟩ := μ'
          have hs : Sh' = Sh := hs hno
          subst hs
          exact ih _ _ _ _ _ _ _ _ _ _ (am_run2_mono MT Sh' n n d mi pc' L1 L1' S' I1 J1 (Nat.le_refl _) hl.1 _ q)
        · split at q
          · cases q
          · rename_i mj hmj
            rw [hmj]
            split at q
            · cases q
            · rename_i d' hd'
              simp only [hd']
              split at q
              · cases q
              · rename_i v1 I1 J1 h1
                have h2 := ih _ _ _ _ _ _ _ _ _ _ h1
                simp only [h2]
                exact ih _ _ _ _ _ _ _ _ _ _ q
        · cases q
          rfl
noncomputable def am_R (MT : List am_Info) (Sh : List am_Shp) (d : Nat) (mi : am_Info) (pc : Nat) (L : am_Loc) (S : List Value) (I : am_I) (J : am_J) : am_Out :=
  @dite am_Out (∃ r, ∃ n, am_run2 MT Sh n d mi pc L S I J = some r) (Classical.propDecidable _) (fun h => some (Classical.choose h)) (fun _ => none)
section AMX
variable {MT : List am_Info} {Sh : List am_Shp} {d : Nat} {mi : am_Info} {pc : Nat} {L L' : am_Loc} {S : List Value} {I : am_I} {J : am_J}
theorem am_R_of {n : Nat} {r : Option Value × am_I × am_J} (h : am_run2 MT Sh n d mi pc L S I J = some r) : am_R MT Sh d mi pc L S I J = some r := by
  have hx : ∃ r, ∃ n, am_run2 MT Sh n d mi pc L S I J = some r := ⟨r, n, h⟩
  unfold am_R
  rw [dif_pos hx]
  obtain ⟨m, hm⟩ := Classical.choose_spec hx
  have h1 := am_run2_mono MT Sh n (n + m) d mi pc L L S I J (by omega) (am_leL.rf _) _ h
  have h2 := am_run2_mono MT Sh m (n + m) d mi pc L L S I J (by omega) (am_leL.rf _) _ hm
  rw [h1] at h2
  exact h2.symm
theorem am_R_to {r : Option Value × am_I × am_J} (h : am_R MT Sh d mi pc L S I J = some r) : ∃ n, am_run2 MT Sh n d mi pc L S I J = some r := by
  unfold am_R at h
  by_cases hx : ∃ r, ∃ n, am_run2 MT Sh n d mi pc L S I J = some r
  · rw [dif_pos hx] at h
    obtain ⟨m, hm⟩ := Classical.choose_spec hx
    exact ⟨m, by rw [hm]; exact h⟩
  · rw [dif_neg hx] at h
    cases h
theorem am_R_mono (h : am_leL L L') : am_le (am_R MT Sh d mi pc L S I J) (am_R MT Sh d mi pc L' S I J) := by
  intro r q
  obtain ⟨n, hn⟩ := am_R_to q
  exact am_R_of (am_run2_mono MT Sh n n d mi pc L L' S I J (Nat.le_refl _) h _ hn)
/-- a step, told -/
abbrev am_Rei : Type := (Nat × am_Loc × List Value × am_Mem) ⊕ ((Nat × List Value × List Value) ⊕ (Option Value ⊕ Unit))
def am_ev {α : Type} (next : Nat → am_Loc → List Value → am_Mem → Option α) (call : Nat → List Value → List Value → Option α) (fin : Option Value → Option α) : am_Rei → Option α
  | .inl (pc, L, S, μ) => next pc L S μ
  | .inr (.inl (y, a, r)) => call y a r
  | .inr (.inr (.inl v)) => fin v
  | .inr (.inr (.inr _)) => none
def am_rei (ret : Option FieldType) (pc : Nat) (ins : Instr) (aux : List Nat) (L : am_Loc) (S : List Value) (μ : am_Mem) : am_Rei :=
  am_step ret pc ins aux L S μ (fun pc L S μ => .inl (pc, L, S, μ)) (fun y a r => .inr (.inl (y, a, r))) (fun v => .inr (.inr (.inl v))) (.inr (.inr (.inr ())))
/-- one step ahead -/
noncomputable def am_R1 (MT : List am_Info) (Sh : List am_Shp) (d : Nat) (mi : am_Info) (pc : Nat) (L : am_Loc) (S : List Value) (I : am_I) (J : am_J) : am_Out := match am_find mi.2.1 pc with
    | none => none
    | some (_, ins, aux) => match am_noal ins aux with
      | false => none
      | true => am_step mi.2.2.2.1 pc ins aux L S (Sh, I, J) (fun pc' L' S' μ' => am_R MT Sh d mi pc' L' S' μ'.2.1 μ'.2.2)
        (fun y a r => match MT[y]? with
          | none => none
          | some mj => match am_lev2 d mi mj a with
            | none => none
            | some d' => match am_R MT Sh d' mj 0 (am_entry mj.2.2.1 a) [] I J with
              | none => none
              | some (v, I', J') => am_R MT Sh d mi (pc + 3) L (v.toList ++ r) I' J')
        (fun v => some (v, I, J)) none
theorem am_ev_of {α : Type} {ret : Option FieldType} {ins : Instr} {aux : List Nat} {μ : am_Mem} {next : Nat → am_Loc → List Value → am_Mem → Option α} {call : Nat → List Value → List Value → Option α} {fin : Option Value → Option α} {r : α}
    (h : am_step ret pc ins aux L S μ next call fin none = some r) : am_ev next call fin (am_rei ret pc ins aux L S μ) = some r := by
  unfold am_rei
  refine am_step_rel (fun (x : Option α) (ρ : am_Rei) => ∀ r, x = some r → am_ev next call fin ρ = some r) (am_leL.rf L) (fun b r q => by cases q) (fun pc' L1 L1' S' μ' hl hs r q => ?_) (fun y a t r q => q) (fun v r q => q) r h
  rw [← hl.2 rfl]
  exact q
theorem am_ev_to {α : Type} {ret : Option FieldType} {ins : Instr} {aux : List Nat} {μ : am_Mem} {next : Nat → am_Loc → List Value → am_Mem → Option α} {call : Nat → List Value → List Value → Option α} {fin : Option Value → Option α} {r : α}
    (h : am_ev next call fin (am_rei ret pc ins aux L S μ) = some r) : am_step ret pc ins aux L S μ next call fin none = some r := by
  have key := am_step_rel (stuck := (.inr (.inr (.inr ())) : am_Rei)) (stuck' := (none : Option α)) (fun (ρ : am_Rei) (x : Option α) => (∀ u, ρ ≠ .inr (.inr (.inr u))) → am_ev next call fin ρ = x) (ret := ret) (pc := pc) (ins := ins) (aux := aux) (am_leL.rf L) (S := S) (μ := μ) (next := fun pc L S μ => .inl (pc, L, S, μ)) (call := fun y a r => .inr (.inl (y, a, r))) (fin := fun v => .inr (.inr (.inl v))) (next' := next) (call' := call) (fin' := fin) (fun b q => absurd rfl (q ())) (fun pc' L1 L1' S' μ' hl hs q => by rw [← hl.2 rfl]; rfl) (fun y a t q => rfl) (fun v q => rfl)
  rw [← key (fun u e => ?_)]
  · exact h
  · unfold am_rei at h
    rw [e] at h
    cases h
theorem am_R_step : am_le (am_R1 MT Sh d mi pc L S I J) (am_R MT Sh d mi pc L S I J) := by
  intro r h
  unfold am_R1 at h
  suffices hs : ∃ n, am_run2 MT Sh (n + 1) d mi pc L S I J = some r by
    obtain ⟨n, hn⟩ := hs
    exact am_R_of hn
  split at h
  · cases h
  · rename_i ins aux hf
    split at h
    · cases h
    · rename_i hno
      have h1 := am_ev_of h
      have up : ∀ {n m d mi pc L S I J} {r : Option Value × am_I × am_J}, n ≤ m → am_run2 MT Sh n d mi pc L S I J = some r → am_run2 MT Sh m d mi pc L S I J = some r := fun hm q => am_run2_mono MT Sh _ _ _ _ _ _ _ _ _ _ hm (am_leL.rf _) _ q
      suffices hs : ∃ n, am_ev (fun pc' L' S' (μ' : am_Mem) => am_run2 MT Sh n d mi pc' L' S' μ'.2.1 μ'.2.2)
        (fun y a r => match MT[y]? with
          | none => none
          | some mj => match am_lev2 d mi mj a with
            | none => none
            | some d' => match am_run2 MT Sh n d' mj 0 (am_entry mj.2.2.1 a) [] I J with
              | none => none
              | some (v, I', J') => am_run2 MT Sh n d mi (pc + 3) L (v.toList ++ r) I' J')
        (fun v => some (v, I, J)) (am_rei mi.2.2.2.1 pc ins aux L S (Sh, I, J)) = some r by
        obtain ⟨n, hn⟩ := hs
        refine ⟨n, ?_⟩
        unfold am_run2
        rw [hf]
        simp only [hno]
        exact am_ev_to hn
      cases hρ : am_rei mi.2.2.2.1 pc ins aux L S (Sh, I, J) with
      | inl q =>
        rw [hρ] at h1
        obtain ⟨pc', L', S', μ'⟩ := q
        obtain ⟨n, hn⟩ := am_R_to h1
        exact ⟨n, hn⟩
      | inr q =>
        rw [hρ] at h1
        cases q with
        | inl q =>
          obtain ⟨y, a, t⟩ := q
          simp only [am_ev] at h1 ⊢
          split at h1
          · cases h1
          · rename_i mj hmj
            split at h1
            · cases h1
            · rename_i d' hd'
              split at h1
              · cases h1
              · rename_i v I' J' hv
                obtain ⟨n1, hn1⟩ := am_R_to hv
                obtain ⟨n2, hn2⟩ := am_R_to h1
                refine ⟨n1 + n2, ?_⟩
                simp only [hmj, hd', up (Nat.le_add_right n1 n2) hn1]
                exact up (Nat.le_add_left n2 n1) hn2
        | inr q =>
          cases q with
          | inl v => exact ⟨0, h1⟩
          | inr u => cases h1
/-- what a call answers, by its kind -/
def am_bi (o : am_Out) (k : Int32 → am_I → am_J → am_Out) : am_Out := match o with
  | some (some (.int x), I, J) => k x I J
  | _ => none
def am_bl (o : am_Out) (k : Int64 → am_I → am_J → am_Out) : am_Out := match o with
  | some (some (.long x), I, J) => k x I J
  | _ => none
def am_bv (o : am_Out) (k : am_I → am_J → am_Out) : am_Out := match o with
  | some (none, I, J) => k I J
  | _ => none
/-- the primitives, hidden: nothing looks into them by computing -/
theorem am_hid {α : Type 1} (a : α) : ∃ b : α, b = a := ⟨a, rfl⟩
noncomputable def am_atH : (α : Type) → Int32 → Nat → (Nat → α) → α → α := Classical.choose (am_hid (fun (α : Type) => @am_atC α))
noncomputable def am_cpcH : (α : Type) → Int32 → Int32 → Int32 → Nat → Nat → α → α → α := Classical.choose (am_hid (fun (α : Type) => @am_cpcC α))
noncomputable def am_b01H : (α : Type) → Int32 → α → α → α := Classical.choose (am_hid (fun (α : Type) => @am_b01C α))
theorem am_hid0 {α : Type} (a : α) : ∃ b : α, b = a := ⟨a, rfl⟩
noncomputable def am_mx : Int32 → Int32 → Int32 := Classical.choose (am_hid0 am_mxC)
noncomputable def am_mn : Int32 → Int32 → Int32 := Classical.choose (am_hid0 am_mnC)
noncomputable def am_ab : Int32 → Int32 := Classical.choose (am_hid0 am_abC)
noncomputable def am_at (i : Int32) (n : Nat) (k : Nat → am_Out) (s : am_Out) : am_Out := am_atH am_Out i n k s
noncomputable def am_cpc (s d n : Int32) (n0 n1 : Nat) (k st : am_Out) : am_Out := am_cpcH am_Out s d n n0 n1 k st
noncomputable def am_b01 (x : Int32) (k st : am_Out) : am_Out := am_b01H am_Out x k st
theorem am_atH_eq : am_at = @am_atC am_Out := congrFun (Classical.choose_spec (am_hid (fun (α : Type) => @am_atC α))) am_Out
theorem am_cpcH_eq : am_cpc = @am_cpcC am_Out := congrFun (Classical.choose_spec (am_hid (fun (α : Type) => @am_cpcC α))) am_Out
theorem am_b01H_eq : am_b01 = @am_b01C am_Out := congrFun (Classical.choose_spec (am_hid (fun (α : Type) => @am_b01C α))) am_Out
theorem am_mx_eq : am_mx = am_mxC := Classical.choose_spec (am_hid0 am_mxC)
theorem am_mn_eq : am_mn = am_mnC := Classical.choose_spec (am_hid0 am_mnC)
theorem am_ab_eq : am_ab = am_abC := Classical.choose_spec (am_hid0 am_abC)
def am_mask : List Bool → am_Loc → am_Loc
  | b :: bs, x :: xs => (if b then x else none) :: am_mask bs xs
  | [], xs => xs
  | _, [] => []
theorem am_mask_le : ∀ (bs : List Bool) (L : am_Loc), am_leL (am_mask bs L) L := by
  intro bs
  induction bs with
  | nil => intro L; cases L <;> exact am_leL.rf _
  | cons b bs ih =>
    intro L
    cases L with
    | nil => exact am_leL.rf _
    | cons x xs =>
      have h := ih xs
      refine ⟨by simp [am_mask, h.1], fun i v q => ?_⟩
      cases i with
      | zero =>
        simp only [am_mask, List.getElem?_cons_zero] at q ⊢
        cases b
        · simp at q
        · simpa using q
      | succ i =>
        simp only [am_mask, List.getElem?_cons_succ] at q ⊢
        exact h.2 i v q
def am_stop (st : List (Nat × List Bool)) (pc : Nat) : Option (List Bool) := match st with
  | [] => none
  | e :: t => match Nat.beq e.1 pc with
    | true => some e.2
    | false => am_stop t pc
/-- a stretch of code up to the stops -/
noncomputable def am_ex (MT : List am_Info) (Sh : List am_Shp) (st : List (Nat × List Bool)) (d : Nat) (mi : am_Info) : Nat → Nat → am_Loc → List Value → am_I → am_J → am_Out
  | 0, pc, L, S, I, J => am_R MT Sh d mi pc L S I J
  | n + 1, pc, L, S, I, J => match am_find mi.2.1 pc with
    | none => none
    | some (_, ins, aux) => match am_noal ins aux with
      | false => none
      | true => am_stepG am_at am_cpc am_b01 am_mx am_mn am_ab mi.2.2.2.1 pc ins aux L S (Sh, I, J) (fun pc' L' S' μ' => match am_stop st pc' with
          | some b => am_R MT Sh d mi pc' (am_mask b L') S' μ'.2.1 μ'.2.2
          | none => am_ex MT Sh st d mi n pc' L' S' μ'.2.1 μ'.2.2)
        (fun y a r => match MT[y]? with
          | none => none
          | some mj => match am_lev2 d mi mj a with
            | none => none
            | some d' => match mj.2.2.2.1 with
              | none => am_bv (am_R MT Sh d' mj 0 (am_entry mj.2.2.1 a) [] I J) (fun I' J' => match am_stop st (pc + 3) with
                | some b => am_R MT Sh d mi (pc + 3) (am_mask b L) r I' J'
                | none => am_ex MT Sh st d mi n (pc + 3) L r I' J')
              | some .long => am_bl (am_R MT Sh d' mj 0 (am_entry mj.2.2.1 a) [] I J) (fun x I' J' => am_ex MT Sh st d mi n (pc + 3) L (.long x :: r) I' J')
              | some _ => am_bi (am_R MT Sh d' mj 0 (am_entry mj.2.2.1 a) [] I J) (fun x I' J' => am_ex MT Sh st d mi n (pc + 3) L (.int x :: r) I' J'))
        (fun v => some (v, I, J)) none
theorem am_ex_le (st : List (Nat × List Bool)) : ∀ (n pc : Nat) (L : am_Loc) (S : List Value) (I : am_I) (J : am_J), am_le (am_ex MT Sh st d mi n pc L S I J) (am_R MT Sh d mi pc L S I J) := by
  intro n
  induction n with
  | zero => intro pc L S I J; exact am_le.rf _
  | succ n ih =>
    intro pc L S I J
    refine am_le.tr ?_ am_R_step
    unfold am_ex am_R1
    split
    · exact am_le.no _
    · rename_i ins aux hf
      split
      · exact am_le.no _
      · rw [am_atH_eq, am_cpcH_eq, am_b01H_eq, am_mx_eq, am_mn_eq, am_ab_eq]
        refine am_step_rel am_le (am_leL.rf L) (fun b => am_le.no b) (fun pc' L1 L1' S' μ' h1 _ => ?_) (fun y a r => ?_) (fun v => am_le.rf _)
        · rw [← h1.2 rfl]
          split
          · exact am_R_mono (am_mask_le _ _)
          · exact ih _ _ _ _ _
        · split
          · exact am_le.no _
          · split
            · exact am_le.no _
            · rename_i mj _ _ d' _
              split
              · unfold am_bv
                intro q hq
                split at hq
                · rename_i I' J' hv
                  rw [hv]
                  revert q
                  split
                  · exact am_R_mono (am_mask_le _ _)
                  · exact ih _ _ _ _ _
                · cases hq
              · unfold am_bl
                intro q hq
                split at hq
                · rename_i x I' J' hv
                  rw [hv]
                  exact ih _ _ _ _ _ _ hq
                · cases hq
              · unfold am_bi
                intro q hq
                split at hq
                · rename_i x I' J' hv
                  rw [hv]
                  exact ih _ _ _ _ _ _ hq
                · cases hq
end AMX
end
section
/-! the code of the program, by program out of the printed rows -/
def am_c0 : List am_Ent := [(0, .aload_n 0, []), (1, .invokespecial 3, [0]), (4, .aload_n 0, []), (5, .sipush (.ofNat 400), []), (8, .newarray .int, []), (10, .putfield 9, [0, 0, 2]), (13, .aload_n 0, []), (14, .sipush (.ofNat 400), []), (17, .newarray .int, []), (19, .putfield 15, [0, 1, 2]), (22, .aload_n 0, []), (23, .bipush (.ofNat 6), []), (25, .newarray .int, []), (27, .putfield 18, [0, 2, 2]), (30, .aload_n 0, []), (31, .bipush (.ofNat 16), []), (33, .newarray .int, []), (35, .putfield 21, [0, 3, 2]), (38, .return_, [])]
/-- OneClock$Code.<init> -/
def am_m0 : am_Info := (0, am_c0, 1, none, 0)
def am_c1 : List am_Ent := [(0, .aload_n 0, []), (1, .getfield 24, [0, 4]), (4, .sipush (.ofNat 400), []), (7, .if_icmp .lt 5, [12]), (10, .iconst (.negSucc 0), []), (11, .ireturn, []), (12, .aload_n 0, []), (13, .getfield 9, [0, 0]), (16, .aload_n 0, []), (17, .getfield 24, [0, 4]), (20, .iload_n 1, []), (21, .iastore, []), (22, .aload_n 0, []), (23, .getfield 15, [0, 1]), (26, .aload_n 0, []), (27, .getfield 24, [0, 4]), (30, .iload_n 2, []), (31, .iastore, []), (32, .aload_n 0, []), (33, .dup, []), (34, .getfield 24, [0, 4]), (37, .iconst (.ofNat 1), []), (38, .iadd, []), (39, .putfield 24, [0, 4, 0]), (42, .aload_n 0, []), (43, .getfield 24, [0, 4]), (46, .iconst (.ofNat 1), []), (47, .isub, []), (48, .ireturn, [])]
/-- OneClock$Code.add -/
def am_m1 : am_Info := (0, am_c1, 3, some .int, 0)
def am_c2 : List am_Ent := [(0, .iload_n 1, []), (1, .ifCond .lt 21, [22]), (4, .iload_n 1, []), (5, .aload_n 0, []), (6, .getfield 24, [0, 4]), (9, .if_icmp .ge 13, [22]), (12, .aload_n 0, []), (13, .getfield 15, [0, 1]), (16, .iload_n 1, []), (17, .aload_n 0, []), (18, .getfield 24, [0, 4]), (21, .iastore, []), (22, .return_, [])]
/-- OneClock$Code.aimAtEnd -/
def am_m2 : am_Info := (0, am_c2, 2, none, 0)
def am_c3 : List am_Ent := [(0, .aload_n 1, []), (1, .getfield 9, [0, 0]), (4, .iconst (.ofNat 0), []), (5, .aload_n 0, []), (6, .getfield 9, [0, 0]), (9, .iconst (.ofNat 0), []), (10, .sipush (.ofNat 400), []), (13, .invokestatic 28, [4]), (16, .aload_n 1, []), (17, .getfield 15, [0, 1]), (20, .iconst (.ofNat 0), []), (21, .aload_n 0, []), (22, .getfield 15, [0, 1]), (25, .iconst (.ofNat 0), []), (26, .sipush (.ofNat 400), []), (29, .invokestatic 28, [4]), (32, .aload_n 0, []), (33, .aload_n 1, []), (34, .getfield 24, [0, 4]), (37, .putfield 24, [0, 4, 0]), (40, .return_, [])]
/-- OneClock$Code.copyFrom -/
def am_m3 : am_Info := (0, am_c3, 2, none, 0)
def am_c4 : List am_Ent := [(0, .aload_n 0, []), (1, .getfield 18, [0, 2]), (4, .iconst (.ofNat 0), []), (5, .iload_n 1, []), (6, .iastore, []), (7, .aload_n 0, []), (8, .getfield 18, [0, 2]), (11, .iconst (.ofNat 1), []), (12, .iload_n 2, []), (13, .iastore, []), (14, .aload_n 0, []), (15, .getfield 18, [0, 2]), (18, .iconst (.ofNat 2), []), (19, .iload_n 3, []), (20, .iastore, []), (21, .aload_n 0, []), (22, .getfield 18, [0, 2]), (25, .iconst (.ofNat 3), []), (26, .iload 4, []), (28, .iastore, []), (29, .aload_n 0, []), (30, .getfield 18, [0, 2]), (33, .iconst (.ofNat 4), []), (34, .iload 5, []), (36, .iastore, []), (37, .aload_n 0, []), (38, .getfield 18, [0, 2]), (41, .iconst (.ofNat 5), []), (42, .iload 6, []), (44, .iastore, []), (45, .return_, [])]
/-- OneClock$Code.setFacts -/
def am_m4 : am_Info := (0, am_c4, 7, none, 0)
def am_c5 : List am_Ent := [(0, .iconst (.ofNat 0), []), (1, .istore_n 2, []), (2, .iload_n 1, []), (3, .istore_n 3, []), (4, .iconst (.ofNat 0), []), (5, .istore 4, []), (7, .iload 4, []), (9, .sipush (.ofNat 400), []), (12, .if_icmp .ge 274, [286]), (15, .iload_n 3, []), (16, .ifCond .lt 270, [286]), (19, .iload_n 3, []), (20, .aload_n 0, []), (21, .getfield 24, [0, 4]), (24, .if_icmp .ge 262, [286]), (27, .aload_n 0, []), (28, .getfield 9, [0, 0]), (31, .iload_n 3, []), (32, .iaload, []), (33, .istore 5, []), (35, .aload_n 0, []), (36, .getfield 15, [0, 1]), (39, .iload_n 3, []), (40, .iaload, []), (41, .istore 6, []), (43, .iinc 3 (.ofNat 1), []), (46, .iload 5, []), (48, .bipush (.ofNat 7), []), (50, .if_icmp .ne 20, [70]), (53, .iload_n 2, []), (54, .ifCond .le 14, [68]), (57, .aload_n 0, []), (58, .getfield 21, [0, 3]), (61, .iload_n 2, []), (62, .iconst (.ofNat 1), []), (63, .isub, []), (64, .iaload, []), (65, .goto 4, [69]), (68, .iconst (.ofNat 0), []), (69, .ireturn, []), (70, .iload 5, []), (72, .iconst (.ofNat 1), []), (73, .if_icmp .gt 58, [131]), (76, .iload_n 2, []), (77, .bipush (.ofNat 16), []), (79, .if_icmp .ge 21, [100]), (82, .iload 6, []), (84, .ifCond .lt 16, [100]), (87, .iload 5, []), (89, .iconst (.ofNat 1), []), (90, .if_icmp .ne 12, [102]), (93, .iload 6, []), (95, .bipush (.ofNat 6), []), (97, .if_icmp .lt 5, [102]), (100, .iconst (.ofNat 0), []), (101, .ireturn, []), (102, .aload_n 0, []), (103, .getfield 21, [0, 3]), (106, .iload_n 2, []), (107, .iload 5, []), (109, .ifCond .ne 8, [117]), (112, .iload 6, []), (114, .goto 10, [124]), (117, .aload_n 0, []), (118, .getfield 18, [0, 2]), (121, .iload 6, []), (123, .iaload, []), (124, .iastore, []), (125, .iinc 2 (.ofNat 1), []), (128, .goto 152, [280]), (131, .iload_n 2, []), (132, .iconst (.ofNat 2), []), (133, .if_icmp .ge 5, [138]), (136, .iconst (.ofNat 0), []), (137, .ireturn, []), (138, .iinc 2 (.negSucc 0), []), (141, .aload_n 0, []), (142, .getfield 21, [0, 3]), (145, .iload_n 2, []), (146, .iconst (.ofNat 1), []), (147, .isub, []), (148, .iaload, []), (149, .istore 7, []), (151, .aload_n 0, []), (152, .getfield 21, [0, 3]), (155, .iload_n 2, []), (156, .iaload, []), (157, .istore 8, []), (159, .iload 5, []), (161, .tableswitch 102 (.ofNat 2) 5 #[31, 47, 63, 79], [263, 192, 208, 224, 240]), (192, .aload_n 0, []), (193, .getfield 21, [0, 3]), (196, .iload_n 2, []), (197, .iconst (.ofNat 1), []), (198, .isub, []), (199, .iload 7, []), (201, .iload 8, []), (203, .iadd, []), (204, .iastore, []), (205, .goto 75, [280]), (208, .aload_n 0, []), (209, .getfield 21, [0, 3]), (212, .iload_n 2, []), (213, .iconst (.ofNat 1), []), (214, .isub, []), (215, .iload 7, []), (217, .iload 8, []), (219, .isub, []), (220, .iastore, []), (221, .goto 59, [280]), (224, .aload_n 0, []), (225, .getfield 21, [0, 3]), (228, .iload_n 2, []), (229, .iconst (.ofNat 1), []), (230, .isub, []), (231, .iload 7, []), (233, .iload 8, []), (235, .imul, []), (236, .iastore, []), (237, .goto 43, [280]), (240, .iload 8, []), (242, .ifCond .ne 5, [247]), (245, .iconst (.ofNat 0), []), (246, .ireturn, []), (247, .aload_n 0, []), (248, .getfield 21, [0, 3]), (251, .iload_n 2, []), (252, .iconst (.ofNat 1), []), (253, .isub, []), (254, .iload 7, []), (256, .iload 8, []), (258, .idiv, []), (259, .iastore, []), (260, .goto 20, [280]), (263, .iinc 2 (.negSucc 0), []), (266, .iload 7, []), (268, .iload 8, []), (270, .if_icmp .ge 7, [277]), (273, .iload_n 3, []), (274, .goto 5, [279]), (277, .iload 6, []), (279, .istore_n 3, []), (280, .iinc 4 (.ofNat 1), []), (283, .goto (-276), [7]), (286, .iconst (.ofNat 0), []), (287, .ireturn, [])]
/-- OneClock$Code.valueOf -/
def am_m5 : am_Info := (0, am_c5, 9, some .int, 0)
def am_c6 : List am_Ent := [(0, .aload_n 0, []), (1, .invokespecial 3, [0]), (4, .aload_n 0, []), (5, .bipush (.ofNat 88), []), (7, .newarray .int, []), (9, .putfield 9, [1, 3, 2]), (12, .aload_n 0, []), (13, .iconst (.ofNat 4), []), (14, .newarray .int, []), (16, .putfield 15, [1, 4, 2]), (19, .aload_n 0, []), (20, .iconst (.ofNat 4), []), (21, .newarray .int, []), (23, .putfield 18, [1, 5, 2]), (26, .aload_n 0, []), (27, .bipush (.ofNat 6), []), (29, .newarray .int, []), (31, .putfield 21, [1, 10, 2]), (34, .aload_n 0, []), (35, .bipush (.ofNat 6), []), (37, .newarray .int, []), (39, .putfield 24, [1, 11, 2]), (42, .aload_n 0, []), (43, .bipush (.ofNat 64), []), (45, .newarray .int, []), (47, .putfield 27, [1, 14, 2]), (50, .aload_n 0, []), (51, .aload_n 1, []), (52, .putfield 30, [1, 0, 2]), (55, .aload_n 0, []), (56, .aload_n 2, []), (57, .putfield 34, [1, 1, 2]), (60, .aload_n 0, []), (61, .new 38, [4, 1, 1, 1, 1, 1, 1, 0, 0, 0, 0, 0]), (64, .dup, []), (65, .aload_n 1, []), (66, .invokespecial 40, [41, 1, 4]), (69, .putfield 43, [1, 2, 2]), (72, .aload_n 0, []), (73, .iconst (.negSucc 0), []), (74, .putfield 46, [1, 8, 0]), (77, .aload_n 0, []), (78, .iconst (.negSucc 0), []), (79, .putfield 50, [1, 13, 0]), (82, .return_, [])]
/-- OneClock$Guide.<init> -/
def am_m6 : am_Info := (1, am_c6, 3, none, 2)
def am_c7 : List am_Ent := [(0, .aload_n 0, []), (1, .iconst (.negSucc 0), []), (2, .putfield 46, [1, 8, 0]), (5, .return_, [])]
/-- OneClock$Guide.playChanges -/
def am_m7 : am_Info := (1, am_c7, 1, none, 0)
def am_c8 : List am_Ent := [(0, .aload_n 0, []), (1, .iconst (.negSucc 0), []), (2, .putfield 46, [1, 8, 0]), (5, .aload_n 0, []), (6, .iconst (.negSucc 0), []), (7, .putfield 50, [1, 13, 0]), (10, .return_, [])]
/-- OneClock$Guide.textChanges -/
def am_m8 : am_Info := (1, am_c8, 1, none, 0)
def am_c9 : List am_Ent := [(0, .aload_n 0, []), (1, .getfield 46, [1, 8]), (4, .iload_n 1, []), (5, .if_icmp .ne 4, [9]), (8, .return_, []), (9, .aload_n 0, []), (10, .getfield 43, [1, 2]), (13, .aload_n 0, []), (14, .getfield 34, [1, 1]), (17, .invokevirtual 53, [43, 1, 4]), (20, .aload_n 0, []), (21, .iload_n 1, []), (22, .putfield 57, [1, 9, 0]), (25, .aload_n 0, []), (26, .iconst (.ofNat 0), []), (27, .putfield 60, [1, 17, 1]), (30, .aload_n 0, []), (31, .iconst (.ofNat 0), []), (32, .invokevirtual 64, [10, 1, 1]), (35, .aload_n 0, []), (36, .iload_n 1, []), (37, .putfield 46, [1, 8, 0]), (40, .return_, [])]
/-- OneClock$Guide.findRow -/
def am_m9 : am_Info := (1, am_c9, 2, none, 6)
def am_c10 : List am_Ent := [(0, .iload_n 1, []), (1, .aload_n 0, []), (2, .getfield 57, [1, 9]), (5, .if_icmp .ge 18, [23]), (8, .iload_n 1, []), (9, .iconst (.ofNat 4), []), (10, .if_icmp .ge 13, [23]), (13, .aload_n 0, []), (14, .getfield 43, [1, 2]), (17, .invokevirtual 68, [48, 0, 4]), (20, .ifCond .eq 16, [36]), (23, .aload_n 0, []), (24, .iload_n 1, []), (25, .aload_n 0, []), (26, .getfield 43, [1, 2]), (29, .getfield 72, [4, 9]), (32, .invokevirtual 75, [12, 2, 1]), (35, .return_, []), (36, .aload_n 0, []), (37, .getfield 60, [1, 17]), (40, .ifCond .eq 29, [69]), (43, .aload_n 0, []), (44, .getfield 43, [1, 2]), (47, .getfield 72, [4, 9]), (50, .sipush (.ofNat 999), []), (53, .aload_n 0, []), (54, .getfield 57, [1, 9]), (57, .iload_n 1, []), (58, .isub, []), (59, .imul, []), (60, .iadd, []), (61, .aload_n 0, []), (62, .getfield 79, [1, 7]), (65, .if_icmp .gt 4, [69]), (68, .return_, []), (69, .aload_n 0, []), (70, .getfield 43, [1, 2]), (73, .aload_n 0, []), (74, .getfield 9, [1, 3]), (77, .iload_n 1, []), (78, .bipush (.ofNat 22), []), (80, .imul, []), (81, .invokevirtual 82, [44, 2, 4]), (84, .iconst (.ofNat 0), []), (85, .istore_n 2, []), (86, .iload_n 2, []), (87, .aload_n 0, []), (88, .getfield 30, [1, 0]), (91, .getfield 86, [3, 5]), (94, .if_icmp .ge 26, [120]), (97, .aload_n 0, []), (98, .getfield 43, [1, 2]), (101, .iload_n 2, []), (102, .invokevirtual 91, [46, 1, 4]), (105, .ifCond .eq 9, [114]), (108, .aload_n 0, []), (109, .iload_n 2, []), (110, .iload_n 1, []), (111, .invokevirtual 95, [11, 2, 1]), (114, .iinc 2 (.ofNat 1), []), (117, .goto (-31), [86]), (120, .return_, [])]
/-- OneClock$Guide.tryRows -/
def am_m10 : am_Info := (1, am_c10, 3, none, 5)
def am_c11 : List am_Ent := [(0, .iconst (.ofNat 0), []), (1, .istore_n 3, []), (2, .iload_n 3, []), (3, .aload_n 0, []), (4, .getfield 30, [1, 0]), (7, .getfield 98, [3, 6]), (10, .if_icmp .ge 115, [125]), (13, .aload_n 0, []), (14, .getfield 15, [1, 4]), (17, .iload_n 2, []), (18, .bipush (.ofNat 10), []), (20, .iload_n 1, []), (21, .imul, []), (22, .iload_n 3, []), (23, .iadd, []), (24, .iastore, []), (25, .iload_n 2, []), (26, .aload_n 0, []), (27, .getfield 57, [1, 9]), (30, .iconst (.ofNat 1), []), (31, .isub, []), (32, .if_icmp .ne 39, [71]), (35, .aload_n 0, []), (36, .aload_n 0, []), (37, .getfield 57, [1, 9]), (40, .aload_n 0, []), (41, .getfield 43, [1, 2]), (44, .getfield 72, [4, 9]), (47, .aload_n 0, []), (48, .getfield 43, [1, 2]), (51, .iload_n 1, []), (52, .aload_n 0, []), (53, .getfield 30, [1, 0]), (56, .getfield 101, [3, 2]), (59, .iload_n 3, []), (60, .iaload, []), (61, .invokevirtual 104, [53, 2, 4]), (64, .iadd, []), (65, .invokevirtual 75, [12, 2, 1]), (68, .goto 51, [119]), (71, .aload_n 0, []), (72, .getfield 43, [1, 2]), (75, .iload_n 1, []), (76, .aload_n 0, []), (77, .getfield 43, [1, 2]), (80, .iload_n 1, []), (81, .invokevirtual 108, [51, 1, 4]), (84, .aload_n 0, []), (85, .getfield 30, [1, 0]), (88, .getfield 101, [3, 2]), (91, .iload_n 3, []), (92, .iaload, []), (93, .invokevirtual 112, [54, 3, 4]), (96, .pop, []), (97, .aload_n 0, []), (98, .iload_n 2, []), (99, .iconst (.ofNat 1), []), (100, .iadd, []), (101, .invokevirtual 64, [10, 1, 1]), (104, .aload_n 0, []), (105, .getfield 43, [1, 2]), (108, .aload_n 0, []), (109, .getfield 9, [1, 3]), (112, .iload_n 2, []), (113, .bipush (.ofNat 22), []), (115, .imul, []), (116, .invokevirtual 116, [45, 2, 4]), (119, .iinc 3 (.ofNat 1), []), (122, .goto (-120), [2]), (125, .return_, [])]
/-- OneClock$Guide.tryMovesAt -/
def am_m11 : am_Info := (1, am_c11, 4, none, 4)
def am_c12 : List am_Ent := [(0, .aload_n 0, []), (1, .getfield 60, [1, 17]), (4, .ifCond .eq 12, [16]), (7, .iload_n 2, []), (8, .aload_n 0, []), (9, .getfield 79, [1, 7]), (12, .if_icmp .gt 4, [16]), (15, .return_, []), (16, .aload_n 0, []), (17, .iconst (.ofNat 1), []), (18, .putfield 60, [1, 17, 1]), (21, .aload_n 0, []), (22, .iload_n 2, []), (23, .putfield 79, [1, 7, 0]), (26, .aload_n 0, []), (27, .iload_n 1, []), (28, .putfield 119, [1, 6, 0]), (31, .aload_n 0, []), (32, .getfield 15, [1, 4]), (35, .iconst (.ofNat 0), []), (36, .aload_n 0, []), (37, .getfield 18, [1, 5]), (40, .iconst (.ofNat 0), []), (41, .iconst (.ofNat 4), []), (42, .invokestatic 122, [4]), (45, .return_, [])]
/-- OneClock$Guide.keepRow -/
def am_m12 : am_Info := (1, am_c12, 3, none, 0)
def am_c13 : List am_Ent := [(0, .aload_n 0, []), (1, .getfield 43, [1, 2]), (4, .aload_n 0, []), (5, .getfield 34, [1, 1]), (8, .invokevirtual 53, [43, 1, 4]), (11, .aload_n 0, []), (12, .iload_n 1, []), (13, .iload_n 2, []), (14, .invokevirtual 128, [29, 2, 1]), (17, .aload_n 0, []), (18, .aload_n 0, []), (19, .getfield 43, [1, 2]), (22, .getfield 72, [4, 9]), (25, .putfield 131, [1, 15, 0]), (28, .aload_n 0, []), (29, .aload_n 0, []), (30, .getfield 43, [1, 2]), (33, .getfield 132, [4, 7]), (36, .putfield 135, [1, 16, 0]), (39, .return_, [])]
/-- OneClock$Guide.findEnd -/
def am_m13 : am_Info := (1, am_c13, 3, none, 5)
def am_c14 : List am_Ent := [(0, .aload_n 0, []), (1, .iconst (.ofNat 0), []), (2, .putfield 60, [1, 17, 1]), (5, .iconst (.ofNat 0), []), (6, .istore_n 1, []), (7, .iload_n 1, []), (8, .iconst (.ofNat 4), []), (9, .if_icmp .ge 69, [78]), (12, .iconst (.ofNat 0), []), (13, .istore_n 2, []), (14, .iload_n 2, []), (15, .aload_n 0, []), (16, .getfield 30, [1, 0]), (19, .getfield 98, [3, 6]), (22, .if_icmp .ge 50, [72]), (25, .aload_n 0, []), (26, .getfield 43, [1, 2]), (29, .aload_n 0, []), (30, .getfield 34, [1, 1]), (33, .invokevirtual 53, [43, 1, 4]), (36, .aload_n 0, []), (37, .iload_n 1, []), (38, .aload_n 0, []), (39, .getfield 30, [1, 0]), (42, .getfield 101, [3, 2]), (45, .iload_n 2, []), (46, .iaload, []), (47, .invokevirtual 128, [29, 2, 1]), (50, .aload_n 0, []), (51, .aload_n 0, []), (52, .getfield 43, [1, 2]), (55, .getfield 72, [4, 9]), (58, .iload_n 1, []), (59, .iconst (.ofNat 4), []), (60, .imul, []), (61, .iload_n 2, []), (62, .iadd, []), (63, .invokevirtual 138, [28, 2, 1]), (66, .iinc 2 (.ofNat 1), []), (69, .goto (-55), [14]), (72, .iinc 1 (.ofNat 1), []), (75, .goto (-68), [7]), (78, .return_, [])]
/-- OneClock$Guide.findRule -/
def am_m14 : am_Info := (1, am_c14, 3, none, 5)
def am_c15 : List am_Ent := [(0, .aload_n 0, []), (1, .iconst (.ofNat 0), []), (2, .putfield 60, [1, 17, 1]), (5, .iconst (.ofNat 0), []), (6, .istore_n 3, []), (7, .iload_n 3, []), (8, .aload_n 0, []), (9, .getfield 30, [1, 0]), (12, .getfield 86, [3, 5]), (15, .if_icmp .gt 86, [101]), (18, .iconst (.ofNat 0), []), (19, .istore 4, []), (21, .iload 4, []), (23, .iconst (.ofNat 1), []), (24, .aload_n 0, []), (25, .getfield 30, [1, 0]), (28, .getfield 86, [3, 5]), (31, .ishl, []), (32, .if_icmp .ge 63, [95]), (35, .iload 4, []), (37, .invokestatic 141, [226, 1]), (40, .iload_n 3, []), (41, .if_icmp .ne 48, [89]), (44, .aload_n 0, []), (45, .iload 4, []), (47, .invokevirtual 146, [16, 1, 1]), (50, .ifCond .eq 39, [89]), (53, .aload_n 0, []), (54, .getfield 43, [1, 2]), (57, .aload_n 0, []), (58, .getfield 34, [1, 1]), (61, .invokevirtual 53, [43, 1, 4]), (64, .aload_n 0, []), (65, .iload 4, []), (67, .invokevirtual 149, [18, 1, 1]), (70, .aload_n 0, []), (71, .iload_n 1, []), (72, .iload_n 2, []), (73, .invokevirtual 128, [29, 2, 1]), (76, .aload_n 0, []), (77, .aload_n 0, []), (78, .getfield 43, [1, 2]), (81, .getfield 72, [4, 9]), (84, .iload 4, []), (86, .invokevirtual 138, [28, 2, 1]), (89, .iinc 4 (.ofNat 1), []), (92, .goto (-71), [21]), (95, .iinc 3 (.ofNat 1), []), (98, .goto (-91), [7]), (101, .return_, [])]
/-- OneClock$Guide.findDrops -/
def am_m15 : am_Info := (1, am_c15, 5, none, 5)
def am_c16 : List am_Ent := [(0, .iconst (.ofNat 0), []), (1, .istore_n 2, []), (2, .iload_n 2, []), (3, .aload_n 0, []), (4, .getfield 30, [1, 0]), (7, .getfield 86, [3, 5]), (10, .if_icmp .ge 31, [41]), (13, .aload_n 0, []), (14, .iload_n 2, []), (15, .iload_n 1, []), (16, .invokevirtual 152, [17, 2, 1]), (19, .ifCond .eq 16, [35]), (22, .aload_n 0, []), (23, .getfield 34, [1, 1]), (26, .iload_n 2, []), (27, .invokevirtual 91, [46, 1, 4]), (30, .ifCond .ne 5, [35]), (33, .iconst (.ofNat 0), []), (34, .ireturn, []), (35, .iinc 2 (.ofNat 1), []), (38, .goto (-36), [2]), (41, .iconst (.ofNat 1), []), (42, .ireturn, [])]
/-- OneClock$Guide.areOpen -/
def am_m16 : am_Info := (1, am_c16, 3, some .boolean, 1)
def am_c17 : List am_Ent := [(0, .iload_n 2, []), (1, .iload_n 1, []), (2, .ishr, []), (3, .iconst (.ofNat 1), []), (4, .iand, []), (5, .iconst (.ofNat 1), []), (6, .if_icmp .ne 7, [13]), (9, .iconst (.ofNat 1), []), (10, .goto 4, [14]), (13, .iconst (.ofNat 0), []), (14, .ireturn, [])]
/-- OneClock$Guide.isIn -/
def am_m17 : am_Info := (1, am_c17, 3, some .boolean, 0)
def am_c18 : List am_Ent := [(0, .iconst (.ofNat 0), []), (1, .istore_n 2, []), (2, .iload_n 2, []), (3, .aload_n 0, []), (4, .getfield 30, [1, 0]), (7, .getfield 86, [3, 5]), (10, .if_icmp .ge 26, [36]), (13, .aload_n 0, []), (14, .iload_n 2, []), (15, .iload_n 1, []), (16, .invokevirtual 152, [17, 2, 1]), (19, .ifCond .eq 11, [30]), (22, .aload_n 0, []), (23, .getfield 43, [1, 2]), (26, .iload_n 2, []), (27, .invokevirtual 156, [56, 1, 4]), (30, .iinc 2 (.ofNat 1), []), (33, .goto (-31), [2]), (36, .return_, [])]
/-- OneClock$Guide.letGoAll -/
def am_m18 : am_Info := (1, am_c18, 3, none, 1)
def am_c19 : List am_Ent := [(0, .aload_n 0, []), (1, .iconst (.ofNat 0), []), (2, .putfield 60, [1, 17, 1]), (5, .aload_n 0, []), (6, .getfield 43, [1, 2]), (9, .aload_n 0, []), (10, .getfield 34, [1, 1]), (13, .invokevirtual 53, [43, 1, 4]), (16, .aload_n 0, []), (17, .iload_n 1, []), (18, .iload_n 2, []), (19, .invokevirtual 128, [29, 2, 1]), (22, .aload_n 0, []), (23, .aload_n 0, []), (24, .getfield 43, [1, 2]), (27, .getfield 72, [4, 9]), (30, .bipush (.negSucc 1), []), (32, .invokevirtual 138, [28, 2, 1]), (35, .aload_n 0, []), (36, .getfield 34, [1, 1]), (39, .invokevirtual 68, [48, 0, 4]), (42, .ifCond .eq 4, [46]), (45, .return_, []), (46, .iconst (.ofNat 0), []), (47, .istore_n 3, []), (48, .iload_n 3, []), (49, .aload_n 0, []), (50, .getfield 30, [1, 0]), (53, .getfield 86, [3, 5]), (56, .if_icmp .ge 58, [114]), (59, .aload_n 0, []), (60, .getfield 34, [1, 1]), (63, .iload_n 3, []), (64, .invokevirtual 91, [46, 1, 4]), (67, .ifCond .eq 41, [108]), (70, .aload_n 0, []), (71, .getfield 43, [1, 2]), (74, .aload_n 0, []), (75, .getfield 34, [1, 1]), (78, .invokevirtual 53, [43, 1, 4]), (81, .aload_n 0, []), (82, .getfield 43, [1, 2]), (85, .iload_n 3, []), (86, .invokevirtual 159, [55, 1, 4]), (89, .pop, []), (90, .aload_n 0, []), (91, .iload_n 1, []), (92, .iload_n 2, []), (93, .invokevirtual 128, [29, 2, 1]), (96, .aload_n 0, []), (97, .aload_n 0, []), (98, .getfield 43, [1, 2]), (101, .getfield 72, [4, 9]), (104, .iload_n 3, []), (105, .invokevirtual 138, [28, 2, 1]), (108, .iinc 3 (.ofNat 1), []), (111, .goto (-63), [48]), (114, .return_, [])]
/-- OneClock$Guide.findOffer -/
def am_m19 : am_Info := (1, am_c19, 4, none, 5)
def am_c20 : List am_Ent := [(0, .aload_n 0, []), (1, .iload_n 2, []), (2, .iload_n 3, []), (3, .invokevirtual 162, [13, 2, 1]), (6, .aload_n 0, []), (7, .getfield 43, [1, 2]), (10, .aload_n 0, []), (11, .getfield 34, [1, 1]), (14, .invokevirtual 53, [43, 1, 4]), (17, .aload_n 0, []), (18, .getfield 43, [1, 2]), (21, .iload_n 1, []), (22, .putfield 165, [4, 6, 0]), (25, .aload_n 0, []), (26, .iload_n 2, []), (27, .iload_n 3, []), (28, .invokevirtual 128, [29, 2, 1]), (31, .aload_n 0, []), (32, .getfield 43, [1, 2]), (35, .getfield 72, [4, 9]), (38, .aload_n 0, []), (39, .getfield 131, [1, 15]), (42, .isub, []), (43, .ireturn, [])]
/-- OneClock$Guide.hasteOf -/
def am_m20 : am_Info := (1, am_c20, 4, some .int, 6)
def am_c21 : List am_Ent := [(0, .bipush (.ofNat 60), []), (2, .istore 4, []), (4, .iload 4, []), (6, .ifCond .lt 58, [64]), (9, .aload_n 0, []), (10, .getfield 43, [1, 2]), (13, .aload_n 0, []), (14, .getfield 34, [1, 1]), (17, .invokevirtual 53, [43, 1, 4]), (20, .aload_n 0, []), (21, .getfield 43, [1, 2]), (24, .iload_n 1, []), (25, .aload_n 0, []), (26, .getfield 43, [1, 2]), (29, .iload_n 1, []), (30, .invokevirtual 108, [51, 1, 4]), (33, .iload 4, []), (35, .invokevirtual 112, [54, 3, 4]), (38, .pop, []), (39, .aload_n 0, []), (40, .iload_n 2, []), (41, .iload_n 3, []), (42, .invokevirtual 128, [29, 2, 1]), (45, .aload_n 0, []), (46, .getfield 43, [1, 2]), (49, .getfield 168, [4, 10]), (52, .ifCond .ne 6, [58]), (55, .iload 4, []), (57, .ireturn, []), (58, .iinc 4 (.negSucc 0), []), (61, .goto (-57), [4]), (64, .bipush (.negSucc 1), []), (66, .ireturn, [])]
/-- OneClock$Guide.spareAt -/
def am_m21 : am_Info := (1, am_c21, 5, some .int, 5)
def am_c22 : List am_Ent := [(0, .aload_n 0, []), (1, .iconst (.ofNat 0), []), (2, .putfield 60, [1, 17, 1]), (5, .iconst (.ofNat 0), []), (6, .istore 5, []), (8, .iload 5, []), (10, .bipush (.ofNat 9), []), (12, .if_icmp .gt 85, [97]), (15, .iconst (.ofNat 0), []), (16, .istore 6, []), (18, .iload 6, []), (20, .bipush (.ofNat 9), []), (22, .if_icmp .gt 69, [91]), (25, .aload_n 0, []), (26, .getfield 43, [1, 2]), (29, .aload_n 0, []), (30, .getfield 34, [1, 1]), (33, .invokevirtual 53, [43, 1, 4]), (36, .aload_n 0, []), (37, .getfield 43, [1, 2]), (40, .getfield 171, [4, 5]), (43, .iload_n 1, []), (44, .iload 5, []), (46, .iastore, []), (47, .aload_n 0, []), (48, .getfield 43, [1, 2]), (51, .getfield 171, [4, 5]), (54, .iload_n 2, []), (55, .iload 6, []), (57, .iastore, []), (58, .aload_n 0, []), (59, .iload_n 3, []), (60, .iload 4, []), (62, .invokevirtual 128, [29, 2, 1]), (65, .aload_n 0, []), (66, .aload_n 0, []), (67, .getfield 43, [1, 2]), (70, .getfield 72, [4, 9]), (73, .ineg, []), (74, .bipush (.ofNat 10), []), (76, .iload 5, []), (78, .imul, []), (79, .iload 6, []), (81, .iadd, []), (82, .invokevirtual 138, [28, 2, 1]), (85, .iinc 6 (.ofNat 1), []), (88, .goto (-70), [18]), (91, .iinc 5 (.ofNat 1), []), (94, .goto (-86), [8]), (97, .aload_n 0, []), (98, .aload_n 0, []), (99, .getfield 131, [1, 15]), (102, .ineg, []), (103, .putfield 131, [1, 15, 0]), (106, .return_, [])]
/-- OneClock$Guide.findAgreed -/
def am_m22 : am_Info := (1, am_c22, 7, none, 5)
def am_c23 : List am_Ent := [(0, .iload_n 1, []), (1, .bipush (.ofNat 61), []), (3, .imul, []), (4, .iload_n 2, []), (5, .iadd, []), (6, .istore_n 3, []), (7, .aload_n 0, []), (8, .getfield 50, [1, 13]), (11, .iload_n 3, []), (12, .if_icmp .ne 4, [16]), (15, .return_, []), (16, .iconst (.ofNat 0), []), (17, .istore 4, []), (19, .iload 4, []), (21, .bipush (.ofNat 6), []), (23, .if_icmp .ge 18, [41]), (26, .aload_n 0, []), (27, .getfield 21, [1, 10]), (30, .iload 4, []), (32, .iload 4, []), (34, .iastore, []), (35, .iinc 4 (.ofNat 1), []), (38, .goto (-19), [19]), (41, .iconst (.ofNat 0), []), (42, .istore 4, []), (44, .iconst (.ofNat 0), []), (45, .istore 5, []), (47, .iload 5, []), (49, .sipush (.ofNat 720), []), (52, .if_icmp .ge 137, [189]), (55, .iload 4, []), (57, .ifCond .ne 132, [189]), (60, .aload_n 0, []), (61, .getfield 43, [1, 2]), (64, .invokevirtual 174, [42, 0, 4]), (67, .iconst (.ofNat 0), []), (68, .istore 6, []), (70, .iload 6, []), (72, .aload_n 0, []), (73, .getfield 30, [1, 0]), (76, .getfield 86, [3, 5]), (79, .if_icmp .ge 26, [105]), (82, .aload_n 0, []), (83, .getfield 43, [1, 2]), (86, .getfield 177, [4, 4]), (89, .aload_n 0, []), (90, .getfield 21, [1, 10]), (93, .iload 6, []), (95, .iaload, []), (96, .iload 6, []), (98, .iastore, []), (99, .iinc 6 (.ofNat 1), []), (102, .goto (-32), [70]), (105, .aload_n 0, []), (106, .getfield 43, [1, 2]), (109, .aload_n 0, []), (110, .getfield 21, [1, 10]), (113, .iconst (.ofNat 0), []), (114, .iaload, []), (115, .putfield 180, [4, 8, 0]), (118, .aload_n 0, []), (119, .iload_n 1, []), (120, .iload_n 2, []), (121, .invokevirtual 128, [29, 2, 1]), (124, .iload 5, []), (126, .ifCond .eq 17, [143]), (129, .aload_n 0, []), (130, .getfield 43, [1, 2]), (133, .getfield 72, [4, 9]), (136, .aload_n 0, []), (137, .getfield 183, [1, 12]), (140, .if_icmp .le 29, [169]), (143, .aload_n 0, []), (144, .aload_n 0, []), (145, .getfield 43, [1, 2]), (148, .getfield 72, [4, 9]), (151, .putfield 183, [1, 12, 0]), (154, .aload_n 0, []), (155, .getfield 21, [1, 10]), (158, .iconst (.ofNat 0), []), (159, .aload_n 0, []), (160, .getfield 24, [1, 11]), (163, .iconst (.ofNat 0), []), (164, .bipush (.ofNat 6), []), (166, .invokestatic 122, [4]), (169, .aload_n 0, []), (170, .invokevirtual 186, [24, 0, 1]), (173, .ifCond .ne 7, [180]), (176, .iconst (.ofNat 1), []), (177, .goto 4, [181]), (180, .iconst (.ofNat 0), []), (181, .istore 4, []), (183, .iinc 5 (.ofNat 1), []), (186, .goto (-139), [47]), (189, .aload_n 0, []), (190, .iload_n 3, []), (191, .putfield 50, [1, 13, 0]), (194, .return_, [])]
/-- OneClock$Guide.findSeats -/
def am_m23 : am_Info := (1, am_c23, 7, none, 5)
def am_c24 : List am_Ent := [(0, .aload_n 0, []), (1, .getfield 30, [1, 0]), (4, .getfield 86, [3, 5]), (7, .iconst (.ofNat 2), []), (8, .isub, []), (9, .istore_n 1, []), (10, .iload_n 1, []), (11, .ifCond .lt 26, [37]), (14, .aload_n 0, []), (15, .getfield 21, [1, 10]), (18, .iload_n 1, []), (19, .iaload, []), (20, .aload_n 0, []), (21, .getfield 21, [1, 10]), (24, .iload_n 1, []), (25, .iconst (.ofNat 1), []), (26, .iadd, []), (27, .iaload, []), (28, .if_icmp .le 9, [37]), (31, .iinc 1 (.negSucc 0), []), (34, .goto (-24), [10]), (37, .iload_n 1, []), (38, .ifCond .ge 5, [43]), (41, .iconst (.ofNat 0), []), (42, .ireturn, []), (43, .aload_n 0, []), (44, .getfield 30, [1, 0]), (47, .getfield 86, [3, 5]), (50, .iconst (.ofNat 1), []), (51, .isub, []), (52, .istore_n 2, []), (53, .iload_n 2, []), (54, .iload_n 1, []), (55, .iconst (.ofNat 1), []), (56, .iadd, []), (57, .if_icmp .le 24, [81]), (60, .aload_n 0, []), (61, .getfield 21, [1, 10]), (64, .iload_n 2, []), (65, .iaload, []), (66, .aload_n 0, []), (67, .getfield 21, [1, 10]), (70, .iload_n 1, []), (71, .iaload, []), (72, .if_icmp .ge 9, [81]), (75, .iinc 2 (.negSucc 0), []), (78, .goto (-25), [53]), (81, .aload_n 0, []), (82, .iload_n 1, []), (83, .iload_n 2, []), (84, .invokevirtual 189, [25, 2, 1]), (87, .iload_n 1, []), (88, .iconst (.ofNat 1), []), (89, .iadd, []), (90, .istore_n 3, []), (91, .aload_n 0, []), (92, .getfield 30, [1, 0]), (95, .getfield 86, [3, 5]), (98, .iconst (.ofNat 1), []), (99, .isub, []), (100, .istore 4, []), (102, .iload_n 3, []), (103, .iload 4, []), (105, .if_icmp .ge 19, [124]), (108, .aload_n 0, []), (109, .iload_n 3, []), (110, .iload 4, []), (112, .invokevirtual 189, [25, 2, 1]), (115, .iinc 3 (.ofNat 1), []), (118, .iinc 4 (.negSucc 0), []), (121, .goto (-19), [102]), (124, .iconst (.ofNat 1), []), (125, .ireturn, [])]
/-- OneClock$Guide.orderNext -/
def am_m24 : am_Info := (1, am_c24, 5, some .boolean, 1)
def am_c25 : List am_Ent := [(0, .aload_n 0, []), (1, .getfield 21, [1, 10]), (4, .iload_n 1, []), (5, .iaload, []), (6, .istore_n 3, []), (7, .aload_n 0, []), (8, .getfield 21, [1, 10]), (11, .iload_n 1, []), (12, .aload_n 0, []), (13, .getfield 21, [1, 10]), (16, .iload_n 2, []), (17, .iaload, []), (18, .iastore, []), (19, .aload_n 0, []), (20, .getfield 21, [1, 10]), (23, .iload_n 2, []), (24, .iload_n 3, []), (25, .iastore, []), (26, .return_, [])]
/-- OneClock$Guide.swapSeats -/
def am_m25 : am_Info := (1, am_c25, 4, none, 0)
def am_c26 : List am_Ent := [(0, .iconst (.ofNat 1), []), (1, .aload_n 0, []), (2, .getfield 30, [1, 0]), (5, .getfield 86, [3, 5]), (8, .ishl, []), (9, .iconst (.ofNat 1), []), (10, .isub, []), (11, .istore_n 3, []), (12, .iconst (.ofNat 0), []), (13, .istore 4, []), (15, .iload 4, []), (17, .iload_n 3, []), (18, .if_icmp .gt 24, [42]), (21, .aload_n 0, []), (22, .getfield 27, [1, 14]), (25, .iload 4, []), (27, .aload_n 0, []), (28, .iload 4, []), (30, .iload_n 1, []), (31, .iload_n 2, []), (32, .invokevirtual 192, [27, 3, 1]), (35, .iastore, []), (36, .iinc 4 (.ofNat 1), []), (39, .goto (-24), [15]), (42, .aload_n 0, []), (43, .iconst (.ofNat 0), []), (44, .putfield 60, [1, 17, 1]), (47, .iconst (.ofNat 0), []), (48, .istore 4, []), (50, .iload 4, []), (52, .iload_n 3, []), (53, .if_icmp .gt 32, [85]), (56, .aload_n 0, []), (57, .aload_n 0, []), (58, .getfield 27, [1, 14]), (61, .iload 4, []), (63, .iaload, []), (64, .aload_n 0, []), (65, .getfield 27, [1, 14]), (68, .iload_n 3, []), (69, .iload 4, []), (71, .isub, []), (72, .iaload, []), (73, .iadd, []), (74, .iload 4, []), (76, .invokevirtual 138, [28, 2, 1]), (79, .iinc 4 (.ofNat 1), []), (82, .goto (-32), [50]), (85, .return_, [])]
/-- OneClock$Guide.findShares -/
def am_m26 : am_Info := (1, am_c26, 5, none, 6)
def am_c27 : List am_Ent := [(0, .iload_n 1, []), (1, .ifCond .ne 5, [6]), (4, .iconst (.ofNat 0), []), (5, .ireturn, []), (6, .aload_n 0, []), (7, .getfield 43, [1, 2]), (10, .invokevirtual 174, [42, 0, 4]), (13, .aload_n 0, []), (14, .getfield 30, [1, 0]), (17, .getfield 86, [3, 5]), (20, .iconst (.ofNat 1), []), (21, .isub, []), (22, .istore 4, []), (24, .iload 4, []), (26, .ifCond .lt 42, [68]), (29, .aload_n 0, []), (30, .iload 4, []), (32, .iload_n 1, []), (33, .invokevirtual 152, [17, 2, 1]), (36, .ifCond .eq 15, [51]), (39, .aload_n 0, []), (40, .getfield 43, [1, 2]), (43, .iload 4, []), (45, .putfield 180, [4, 8, 0]), (48, .goto 14, [62]), (51, .aload_n 0, []), (52, .getfield 43, [1, 2]), (55, .getfield 195, [4, 3]), (58, .iload 4, []), (60, .iconst (.ofNat 3), []), (61, .iastore, []), (62, .iinc 4 (.negSucc 0), []), (65, .goto (-41), [24]), (68, .aload_n 0, []), (69, .iload_n 2, []), (70, .iload_n 3, []), (71, .invokevirtual 128, [29, 2, 1]), (74, .aload_n 0, []), (75, .getfield 43, [1, 2]), (78, .getfield 72, [4, 9]), (81, .ireturn, [])]
/-- OneClock$Guide.wonWith -/
def am_m27 : am_Info := (1, am_c27, 5, some .int, 5)
def am_c28 : List am_Ent := [(0, .aload_n 0, []), (1, .getfield 60, [1, 17]), (4, .ifCond .eq 11, [15]), (7, .iload_n 1, []), (8, .aload_n 0, []), (9, .getfield 131, [1, 15]), (12, .if_icmp .le 18, [30]), (15, .aload_n 0, []), (16, .iconst (.ofNat 1), []), (17, .putfield 60, [1, 17, 1]), (20, .aload_n 0, []), (21, .iload_n 1, []), (22, .putfield 131, [1, 15, 0]), (25, .aload_n 0, []), (26, .iload_n 2, []), (27, .putfield 135, [1, 16, 0]), (30, .return_, [])]
/-- OneClock$Guide.keepMost -/
def am_m28 : am_Info := (1, am_c28, 3, none, 0)
def am_c29 : List am_Ent := [(0, .iconst (.ofNat 0), []), (1, .istore_n 3, []), (2, .iload_n 3, []), (3, .bipush (.ofNat 54), []), (5, .if_icmp .gt 54, [59]), (8, .aload_n 0, []), (9, .getfield 43, [1, 2]), (12, .invokevirtual 68, [48, 0, 4]), (15, .ifCond .ne 44, [59]), (18, .aload_n 0, []), (19, .iload_n 1, []), (20, .iload_n 2, []), (21, .invokevirtual 198, [30, 2, 1]), (24, .istore 4, []), (26, .iload 4, []), (28, .iconst (.negSucc 0), []), (29, .if_icmp .ne 4, [33]), (32, .return_, []), (33, .aload_n 0, []), (34, .getfield 43, [1, 2]), (37, .iload 4, []), (39, .aload_n 0, []), (40, .getfield 43, [1, 2]), (43, .iload 4, []), (45, .invokevirtual 108, [51, 1, 4]), (48, .iload_n 2, []), (49, .invokevirtual 112, [54, 3, 4]), (52, .pop, []), (53, .iinc 3 (.ofNat 1), []), (56, .goto (-54), [2]), (59, .return_, [])]
/-- OneClock$Guide.follow -/
def am_m29 : am_Info := (1, am_c29, 5, none, 4)
def am_c30 : List am_Ent := [(0, .iconst (.negSucc 0), []), (1, .istore_n 3, []), (2, .iconst (.ofNat 0), []), (3, .istore 4, []), (5, .iconst (.ofNat 0), []), (6, .istore 5, []), (8, .iload 5, []), (10, .aload_n 0, []), (11, .getfield 30, [1, 0]), (14, .getfield 86, [3, 5]), (17, .if_icmp .ge 128, [145]), (20, .aload_n 0, []), (21, .getfield 43, [1, 2]), (24, .iload 5, []), (26, .invokevirtual 91, [46, 1, 4]), (29, .ifCond .ne 6, [35]), (32, .goto 107, [139]), (35, .iconst (.ofNat 0), []), (36, .istore 6, []), (38, .iload_n 1, []), (39, .ifCond .ne 18, [57]), (42, .aload_n 0, []), (43, .getfield 43, [1, 2]), (46, .iload 5, []), (48, .invokevirtual 108, [51, 1, 4]), (51, .ineg, []), (52, .istore 6, []), (54, .goto 66, [120]), (57, .iload_n 1, []), (58, .iconst (.ofNat 1), []), (59, .if_icmp .ne 18, [77]), (62, .aload_n 0, []), (63, .getfield 43, [1, 2]), (66, .getfield 201, [4, 1]), (69, .iload 5, []), (71, .iaload, []), (72, .istore 6, []), (74, .goto 46, [120]), (77, .iload_n 1, []), (78, .iconst (.ofNat 2), []), (79, .if_icmp .ne 19, [98]), (82, .aload_n 0, []), (83, .getfield 43, [1, 2]), (86, .getfield 204, [4, 2]), (89, .iload 5, []), (91, .iaload, []), (92, .ineg, []), (93, .istore 6, []), (95, .goto 25, [120]), (98, .aload_n 0, []), (99, .getfield 43, [1, 2]), (102, .iconst (.ofNat 0), []), (103, .iload 5, []), (105, .aload_n 0, []), (106, .getfield 43, [1, 2]), (109, .iload 5, []), (111, .invokevirtual 108, [51, 1, 4]), (114, .iload_n 2, []), (115, .invokevirtual 207, [52, 4, 4]), (118, .istore 6, []), (120, .iload_n 3, []), (121, .iconst (.negSucc 0), []), (122, .if_icmp .eq 10, [132]), (125, .iload 6, []), (127, .iload 4, []), (129, .if_icmp .le 10, [139]), (132, .iload 5, []), (134, .istore_n 3, []), (135, .iload 6, []), (137, .istore 4, []), (139, .iinc 5 (.ofNat 1), []), (142, .goto (-134), [8]), (145, .iload_n 3, []), (146, .ireturn, [])]
/-- OneClock$Guide.choose -/
def am_m30 : am_Info := (1, am_c30, 7, some .int, 3)
def am_c31 : List am_Ent := [(0, .aload_n 0, []), (1, .invokespecial 3, [0]), (4, .aload_n 0, []), (5, .sipush (.ofNat 1100), []), (8, .newarray .int, []), (10, .putfield 9, [2, 0, 2]), (13, .return_, [])]
/-- OneClock$Past.<init> -/
def am_m31 : am_Info := (2, am_c31, 1, none, 0)
def am_c32 : List am_Ent := [(0, .aload_n 1, []), (1, .aload_n 0, []), (2, .getfield 9, [2, 0]), (5, .aload_n 0, []), (6, .getfield 15, [2, 1]), (9, .bipush (.ofNat 22), []), (11, .imul, []), (12, .invokevirtual 19, [44, 2, 4]), (15, .aload_n 0, []), (16, .aload_n 0, []), (17, .getfield 15, [2, 1]), (20, .iconst (.ofNat 1), []), (21, .iadd, []), (22, .bipush (.ofNat 50), []), (24, .irem, []), (25, .putfield 15, [2, 1, 0]), (28, .aload_n 0, []), (29, .aload_n 0, []), (30, .getfield 25, [2, 2]), (33, .iconst (.ofNat 1), []), (34, .iadd, []), (35, .bipush (.ofNat 50), []), (37, .invokestatic 28, [2]), (40, .putfield 25, [2, 2, 0]), (43, .return_, [])]
/-- OneClock$Past.push -/
def am_m32 : am_Info := (2, am_c32, 2, none, 1)
def am_c33 : List am_Ent := [(0, .aload_n 0, []), (1, .getfield 25, [2, 2]), (4, .ifCond .ne 5, [9]), (7, .iconst (.ofNat 0), []), (8, .ireturn, []), (9, .aload_n 0, []), (10, .aload_n 0, []), (11, .getfield 15, [2, 1]), (14, .bipush (.ofNat 50), []), (16, .iadd, []), (17, .iconst (.ofNat 1), []), (18, .isub, []), (19, .bipush (.ofNat 50), []), (21, .irem, []), (22, .putfield 15, [2, 1, 0]), (25, .aload_n 0, []), (26, .dup, []), (27, .getfield 25, [2, 2]), (30, .iconst (.ofNat 1), []), (31, .isub, []), (32, .putfield 25, [2, 2, 0]), (35, .aload_n 1, []), (36, .aload_n 0, []), (37, .getfield 9, [2, 0]), (40, .aload_n 0, []), (41, .getfield 15, [2, 1]), (44, .bipush (.ofNat 22), []), (46, .imul, []), (47, .invokevirtual 34, [45, 2, 4]), (50, .iconst (.ofNat 1), []), (51, .ireturn, [])]
/-- OneClock$Past.pop -/
def am_m33 : am_Info := (2, am_c33, 2, some .boolean, 1)
def am_c34 : List am_Ent := [(0, .aload_n 0, []), (1, .iconst (.ofNat 0), []), (2, .putfield 15, [2, 1, 0]), (5, .aload_n 0, []), (6, .iconst (.ofNat 0), []), (7, .putfield 25, [2, 2, 0]), (10, .return_, [])]
/-- OneClock$Past.clear -/
def am_m34 : am_Info := (2, am_c34, 1, none, 0)
def am_c35 : List am_Ent := [(0, .aload_n 0, []), (1, .invokespecial 3, [0]), (4, .aload_n 0, []), (5, .bipush (.ofNat 6), []), (7, .newarray .int, []), (9, .putfield 9, [3, 0, 2]), (12, .aload_n 0, []), (13, .bipush (.ofNat 6), []), (15, .newarray .int, []), (17, .putfield 15, [3, 1, 2]), (20, .aload_n 0, []), (21, .iconst (.ofNat 4), []), (22, .newarray .int, []), (24, .putfield 18, [3, 2, 2]), (27, .aload_n 0, []), (28, .new 21, [0, 1, 1, 1, 1, 0]), (31, .dup, []), (32, .invokespecial 23, [0, 0, 0]), (35, .putfield 24, [3, 3, 2]), (38, .aload_n 0, []), (39, .bipush (.ofNat 18), []), (41, .newarray .int, []), (43, .putfield 28, [3, 4, 2]), (46, .aload_n 0, []), (47, .invokevirtual 31, [36, 0, 3]), (50, .return_, [])]
/-- OneClock$Plan.<init> -/
def am_m35 : am_Info := (3, am_c35, 1, none, 2)
def am_c36 : List am_Ent := [(0, .aload_n 0, []), (1, .iconst (.ofNat 0), []), (2, .putfield 34, [3, 5, 0]), (5, .aload_n 0, []), (6, .iconst (.ofNat 1), []), (7, .putfield 38, [3, 7, 0]), (10, .aload_n 0, []), (11, .bipush (.ofNat 120), []), (13, .putfield 41, [3, 8, 0]), (16, .aload_n 0, []), (17, .iconst (.ofNat 0), []), (18, .putfield 44, [3, 9, 0]), (21, .aload_n 0, []), (22, .getfield 24, [3, 3]), (25, .iconst (.ofNat 0), []), (26, .putfield 47, [0, 4, 0]), (29, .iconst (.ofNat 0), []), (30, .istore_n 1, []), (31, .iload_n 1, []), (32, .aload_n 0, []), (33, .getfield 28, [3, 4]), (36, .arraylength, []), (37, .if_icmp .ge 16, [53]), (40, .aload_n 0, []), (41, .getfield 28, [3, 4]), (44, .iload_n 1, []), (45, .iconst (.negSucc 0), []), (46, .iastore, []), (47, .iinc 1 (.ofNat 1), []), (50, .goto (-19), [31]), (53, .aload_n 0, []), (54, .invokevirtual 50, [37, 0, 3]), (57, .return_, [])]
/-- OneClock$Plan.clear -/
def am_m36 : am_Info := (3, am_c36, 2, none, 1)
def am_c37 : List am_Ent := [(0, .aload_n 0, []), (1, .iconst (.ofNat 1), []), (2, .putfield 53, [3, 6, 0]), (5, .aload_n 0, []), (6, .getfield 18, [3, 2]), (9, .iconst (.ofNat 0), []), (10, .iconst (.ofNat 1), []), (11, .iastore, []), (12, .return_, [])]
/-- OneClock$Plan.thinkOneMinute -/
def am_m37 : am_Info := (3, am_c37, 1, none, 0)
def am_c38 : List am_Ent := [(0, .iload_n 1, []), (1, .ifCond .lt 30, [31]), (4, .iload_n 1, []), (5, .iconst (.ofNat 3), []), (6, .if_icmp .ge 25, [31]), (9, .iload_n 2, []), (10, .ifCond .lt 21, [31]), (13, .iload_n 2, []), (14, .bipush (.ofNat 6), []), (16, .if_icmp .ge 15, [31]), (19, .aload_n 0, []), (20, .getfield 28, [3, 4]), (23, .iload_n 1, []), (24, .bipush (.ofNat 6), []), (26, .imul, []), (27, .iload_n 2, []), (28, .iadd, []), (29, .iload_n 3, []), (30, .iastore, []), (31, .return_, [])]
/-- OneClock$Plan.tellLaw -/
def am_m38 : am_Info := (3, am_c38, 4, none, 0)
def am_c39 : List am_Ent := [(0, .aload_n 0, []), (1, .aload_n 1, []), (2, .getfield 34, [3, 5]), (5, .putfield 34, [3, 5, 0]), (8, .aload_n 0, []), (9, .aload_n 1, []), (10, .getfield 53, [3, 6]), (13, .putfield 53, [3, 6, 0]), (16, .aload_n 0, []), (17, .aload_n 1, []), (18, .getfield 38, [3, 7]), (21, .putfield 38, [3, 7, 0]), (24, .aload_n 0, []), (25, .aload_n 1, []), (26, .getfield 41, [3, 8]), (29, .putfield 41, [3, 8, 0]), (32, .aload_n 0, []), (33, .aload_n 1, []), (34, .getfield 44, [3, 9]), (37, .putfield 44, [3, 9, 0]), (40, .aload_n 0, []), (41, .getfield 24, [3, 3]), (44, .aload_n 1, []), (45, .getfield 24, [3, 3]), (48, .invokevirtual 56, [3, 1, 0]), (51, .aload_n 1, []), (52, .getfield 9, [3, 0]), (55, .iconst (.ofNat 0), []), (56, .aload_n 0, []), (57, .getfield 9, [3, 0]), (60, .iconst (.ofNat 0), []), (61, .bipush (.ofNat 6), []), (63, .invokestatic 60, [4]), (66, .aload_n 1, []), (67, .getfield 15, [3, 1]), (70, .iconst (.ofNat 0), []), (71, .aload_n 0, []), (72, .getfield 15, [3, 1]), (75, .iconst (.ofNat 0), []), (76, .bipush (.ofNat 6), []), (78, .invokestatic 60, [4]), (81, .aload_n 1, []), (82, .getfield 18, [3, 2]), (85, .iconst (.ofNat 0), []), (86, .aload_n 0, []), (87, .getfield 18, [3, 2]), (90, .iconst (.ofNat 0), []), (91, .iconst (.ofNat 4), []), (92, .invokestatic 60, [4]), (95, .aload_n 1, []), (96, .getfield 28, [3, 4]), (99, .iconst (.ofNat 0), []), (100, .aload_n 0, []), (101, .getfield 28, [3, 4]), (104, .iconst (.ofNat 0), []), (105, .bipush (.ofNat 18), []), (107, .invokestatic 60, [4]), (110, .return_, [])]
/-- OneClock$Plan.copyFrom -/
def am_m39 : am_Info := (3, am_c39, 2, none, 1)
def am_c40 : List am_Ent := [(0, .aload_n 0, []), (1, .getfield 28, [3, 4]), (4, .iload_n 1, []), (5, .bipush (.ofNat 6), []), (7, .imul, []), (8, .iload_n 2, []), (9, .iadd, []), (10, .iaload, []), (11, .istore_n 3, []), (12, .iload_n 3, []), (13, .iconst (.negSucc 0), []), (14, .if_icmp .ne 11, [25]), (17, .getstatic 66, [1]), (20, .iload_n 1, []), (21, .iaload, []), (22, .goto 11, [33]), (25, .aload_n 0, []), (26, .getfield 24, [3, 3]), (29, .iload_n 3, []), (30, .invokevirtual 69, [5, 1, 0]), (33, .istore 4, []), (35, .getstatic 73, [2]), (38, .iload_n 1, []), (39, .iaload, []), (40, .getstatic 76, [3]), (43, .iload_n 1, []), (44, .iaload, []), (45, .iload 4, []), (47, .invokestatic 79, [2]), (50, .invokestatic 85, [1]), (53, .ireturn, [])]
/-- OneClock$Plan.ask -/
def am_m40 : am_Info := (3, am_c40, 5, some .int, 1)
def am_c41 : List am_Ent := [(0, .aload_n 0, []), (1, .invokespecial 3, [0]), (4, .aload_n 0, []), (5, .bipush (.ofNat 6), []), (7, .newarray .int, []), (9, .putfield 9, [4, 1, 2]), (12, .aload_n 0, []), (13, .bipush (.ofNat 6), []), (15, .newarray .int, []), (17, .putfield 15, [4, 2, 2]), (20, .aload_n 0, []), (21, .bipush (.ofNat 6), []), (23, .newarray .int, []), (25, .putfield 18, [4, 3, 2]), (28, .aload_n 0, []), (29, .bipush (.ofNat 6), []), (31, .newarray .int, []), (33, .putfield 21, [4, 4, 2]), (36, .aload_n 0, []), (37, .bipush (.ofNat 6), []), (39, .newarray .int, []), (41, .putfield 24, [4, 5, 2]), (44, .aload_n 0, []), (45, .aload_n 1, []), (46, .putfield 27, [4, 0, 2]), (49, .aload_n 0, []), (50, .invokevirtual 31, [42, 0, 4]), (53, .return_, [])]
/-- OneClock$Play.<init> -/
def am_m41 : am_Info := (4, am_c41, 2, none, 1)
def am_c42 : List am_Ent := [(0, .aload_n 0, []), (1, .iconst (.ofNat 0), []), (2, .putfield 34, [4, 7, 0]), (5, .aload_n 0, []), (6, .iconst (.ofNat 0), []), (7, .putfield 38, [4, 8, 0]), (10, .aload_n 0, []), (11, .iconst (.ofNat 0), []), (12, .putfield 41, [4, 9, 0]), (15, .aload_n 0, []), (16, .iconst (.ofNat 0), []), (17, .putfield 44, [4, 10, 1]), (20, .aload_n 0, []), (21, .iconst (.negSucc 0), []), (22, .putfield 48, [4, 6, 0]), (25, .iconst (.ofNat 0), []), (26, .istore_n 1, []), (27, .iload_n 1, []), (28, .bipush (.ofNat 6), []), (30, .if_icmp .ge 67, [97]), (33, .aload_n 0, []), (34, .getfield 9, [4, 1]), (37, .iload_n 1, []), (38, .iload_n 1, []), (39, .aload_n 0, []), (40, .getfield 27, [4, 0]), (43, .getfield 51, [3, 5]), (46, .if_icmp .ge 15, [61]), (49, .aload_n 0, []), (50, .getfield 27, [4, 0]), (53, .getfield 56, [3, 0]), (56, .iload_n 1, []), (57, .iaload, []), (58, .goto 4, [62]), (61, .iconst (.ofNat 0), []), (62, .iastore, []), (63, .aload_n 0, []), (64, .getfield 15, [4, 2]), (67, .iload_n 1, []), (68, .iconst (.ofNat 0), []), (69, .iastore, []), (70, .aload_n 0, []), (71, .getfield 18, [4, 3]), (74, .iload_n 1, []), (75, .iconst (.ofNat 0), []), (76, .iastore, []), (77, .aload_n 0, []), (78, .getfield 21, [4, 4]), (81, .iload_n 1, []), (82, .iload_n 1, []), (83, .iastore, []), (84, .aload_n 0, []), (85, .getfield 24, [4, 5]), (88, .iload_n 1, []), (89, .iconst (.ofNat 0), []), (90, .iastore, []), (91, .iinc 1 (.ofNat 1), []), (94, .goto (-67), [27]), (97, .return_, [])]
/-- OneClock$Play.setOut -/
def am_m42 : am_Info := (4, am_c42, 2, none, 0)
def am_c43 : List am_Ent := [(0, .aload_n 0, []), (1, .aload_n 1, []), (2, .getfield 34, [4, 7]), (5, .putfield 34, [4, 7, 0]), (8, .aload_n 0, []), (9, .aload_n 1, []), (10, .getfield 38, [4, 8]), (13, .putfield 38, [4, 8, 0]), (16, .aload_n 0, []), (17, .aload_n 1, []), (18, .getfield 41, [4, 9]), (21, .putfield 41, [4, 9, 0]), (24, .aload_n 0, []), (25, .aload_n 1, []), (26, .getfield 44, [4, 10]), (29, .putfield 44, [4, 10, 1]), (32, .aload_n 0, []), (33, .aload_n 1, []), (34, .getfield 48, [4, 6]), (37, .putfield 48, [4, 6, 0]), (40, .aload_n 1, []), (41, .getfield 9, [4, 1]), (44, .iconst (.ofNat 0), []), (45, .aload_n 0, []), (46, .getfield 9, [4, 1]), (49, .iconst (.ofNat 0), []), (50, .bipush (.ofNat 6), []), (52, .invokestatic 59, [4]), (55, .aload_n 1, []), (56, .getfield 15, [4, 2]), (59, .iconst (.ofNat 0), []), (60, .aload_n 0, []), (61, .getfield 15, [4, 2]), (64, .iconst (.ofNat 0), []), (65, .bipush (.ofNat 6), []), (67, .invokestatic 59, [4]), (70, .aload_n 1, []), (71, .getfield 18, [4, 3]), (74, .iconst (.ofNat 0), []), (75, .aload_n 0, []), (76, .getfield 18, [4, 3]), (79, .iconst (.ofNat 0), []), (80, .bipush (.ofNat 6), []), (82, .invokestatic 59, [4]), (85, .aload_n 1, []), (86, .getfield 21, [4, 4]), (89, .iconst (.ofNat 0), []), (90, .aload_n 0, []), (91, .getfield 21, [4, 4]), (94, .iconst (.ofNat 0), []), (95, .bipush (.ofNat 6), []), (97, .invokestatic 59, [4]), (100, .aload_n 1, []), (101, .getfield 24, [4, 5]), (104, .iconst (.ofNat 0), []), (105, .aload_n 0, []), (106, .getfield 24, [4, 5]), (109, .iconst (.ofNat 0), []), (110, .bipush (.ofNat 6), []), (112, .invokestatic 59, [4]), (115, .return_, [])]
/-- OneClock$Play.copyFrom -/
def am_m43 : am_Info := (4, am_c43, 2, none, 0)
def am_c44 : List am_Ent := [(0, .iload_n 2, []), (1, .ifCond .lt 12, [13]), (4, .iload_n 2, []), (5, .bipush (.ofNat 22), []), (7, .iadd, []), (8, .aload_n 1, []), (9, .arraylength, []), (10, .if_icmp .le 4, [14]), (13, .return_, []), (14, .aload_n 1, []), (15, .iload_n 2, []), (16, .aload_n 0, []), (17, .getfield 34, [4, 7]), (20, .iastore, []), (21, .aload_n 1, []), (22, .iload_n 2, []), (23, .iconst (.ofNat 1), []), (24, .iadd, []), (25, .aload_n 0, []), (26, .getfield 38, [4, 8]), (29, .iastore, []), (30, .aload_n 1, []), (31, .iload_n 2, []), (32, .iconst (.ofNat 2), []), (33, .iadd, []), (34, .aload_n 0, []), (35, .getfield 41, [4, 9]), (38, .iastore, []), (39, .aload_n 1, []), (40, .iload_n 2, []), (41, .iconst (.ofNat 3), []), (42, .iadd, []), (43, .aload_n 0, []), (44, .getfield 44, [4, 10]), (47, .ifCond .eq 7, [54]), (50, .iconst (.ofNat 1), []), (51, .goto 4, [55]), (54, .iconst (.ofNat 0), []), (55, .iastore, []), (56, .aload_n 0, []), (57, .getfield 9, [4, 1]), (60, .iconst (.ofNat 0), []), (61, .aload_n 1, []), (62, .iload_n 2, []), (63, .iconst (.ofNat 4), []), (64, .iadd, []), (65, .bipush (.ofNat 6), []), (67, .invokestatic 59, [4]), (70, .aload_n 0, []), (71, .getfield 15, [4, 2]), (74, .iconst (.ofNat 0), []), (75, .aload_n 1, []), (76, .iload_n 2, []), (77, .iconst (.ofNat 4), []), (78, .iadd, []), (79, .bipush (.ofNat 6), []), (81, .iadd, []), (82, .bipush (.ofNat 6), []), (84, .invokestatic 59, [4]), (87, .aload_n 0, []), (88, .getfield 18, [4, 3]), (91, .iconst (.ofNat 0), []), (92, .aload_n 1, []), (93, .iload_n 2, []), (94, .iconst (.ofNat 4), []), (95, .iadd, []), (96, .bipush (.ofNat 12), []), (98, .iadd, []), (99, .bipush (.ofNat 6), []), (101, .invokestatic 59, [4]), (104, .return_, [])]
/-- OneClock$Play.writeTo -/
def am_m44 : am_Info := (4, am_c44, 3, none, 0)
def am_c45 : List am_Ent := [(0, .iload_n 2, []), (1, .ifCond .lt 12, [13]), (4, .iload_n 2, []), (5, .bipush (.ofNat 22), []), (7, .iadd, []), (8, .aload_n 1, []), (9, .arraylength, []), (10, .if_icmp .le 4, [14]), (13, .return_, []), (14, .aload_n 0, []), (15, .aload_n 1, []), (16, .iload_n 2, []), (17, .iaload, []), (18, .putfield 34, [4, 7, 0]), (21, .aload_n 0, []), (22, .aload_n 1, []), (23, .iload_n 2, []), (24, .iconst (.ofNat 1), []), (25, .iadd, []), (26, .iaload, []), (27, .putfield 38, [4, 8, 0]), (30, .aload_n 0, []), (31, .aload_n 1, []), (32, .iload_n 2, []), (33, .iconst (.ofNat 2), []), (34, .iadd, []), (35, .iaload, []), (36, .putfield 41, [4, 9, 0]), (39, .aload_n 0, []), (40, .aload_n 1, []), (41, .iload_n 2, []), (42, .iconst (.ofNat 3), []), (43, .iadd, []), (44, .iaload, []), (45, .iconst (.ofNat 1), []), (46, .if_icmp .ne 7, [53]), (49, .iconst (.ofNat 1), []), (50, .goto 4, [54]), (53, .iconst (.ofNat 0), []), (54, .putfield 44, [4, 10, 1]), (57, .aload_n 1, []), (58, .iload_n 2, []), (59, .iconst (.ofNat 4), []), (60, .iadd, []), (61, .aload_n 0, []), (62, .getfield 9, [4, 1]), (65, .iconst (.ofNat 0), []), (66, .bipush (.ofNat 6), []), (68, .invokestatic 59, [4]), (71, .aload_n 1, []), (72, .iload_n 2, []), (73, .iconst (.ofNat 4), []), (74, .iadd, []), (75, .bipush (.ofNat 6), []), (77, .iadd, []), (78, .aload_n 0, []), (79, .getfield 15, [4, 2]), (82, .iconst (.ofNat 0), []), (83, .bipush (.ofNat 6), []), (85, .invokestatic 59, [4]), (88, .aload_n 1, []), (89, .iload_n 2, []), (90, .iconst (.ofNat 4), []), (91, .iadd, []), (92, .bipush (.ofNat 12), []), (94, .iadd, []), (95, .aload_n 0, []), (96, .getfield 18, [4, 3]), (99, .iconst (.ofNat 0), []), (100, .bipush (.ofNat 6), []), (102, .invokestatic 59, [4]), (105, .return_, [])]
/-- OneClock$Play.readFrom -/
def am_m45 : am_Info := (4, am_c45, 3, none, 0)
def am_c46 : List am_Ent := [(0, .aload_n 0, []), (1, .getfield 9, [4, 1]), (4, .iload_n 1, []), (5, .iaload, []), (6, .ifCond .le 16, [22]), (9, .aload_n 0, []), (10, .getfield 18, [4, 3]), (13, .iload_n 1, []), (14, .iaload, []), (15, .ifCond .ne 7, [22]), (18, .iconst (.ofNat 1), []), (19, .goto 4, [23]), (22, .iconst (.ofNat 0), []), (23, .ireturn, [])]
/-- OneClock$Play.isOpen -/
def am_m46 : am_Info := (4, am_c46, 2, some .boolean, 0)
def am_c47 : List am_Ent := [(0, .iconst (.ofNat 0), []), (1, .istore_n 1, []), (2, .iconst (.ofNat 0), []), (3, .istore_n 2, []), (4, .iload_n 2, []), (5, .aload_n 0, []), (6, .getfield 27, [4, 0]), (9, .getfield 51, [3, 5]), (12, .if_icmp .ge 25, [37]), (15, .iload_n 1, []), (16, .aload_n 0, []), (17, .iload_n 2, []), (18, .invokevirtual 65, [46, 1, 4]), (21, .ifCond .eq 7, [28]), (24, .iconst (.ofNat 1), []), (25, .goto 4, [29]), (28, .iconst (.ofNat 0), []), (29, .iadd, []), (30, .istore_n 1, []), (31, .iinc 2 (.ofNat 1), []), (34, .goto (-30), [4]), (37, .iload_n 1, []), (38, .ireturn, [])]
/-- OneClock$Play.openBoards -/
def am_m47 : am_Info := (4, am_c47, 3, some .int, 1)
def am_c48 : List am_Ent := [(0, .aload_n 0, []), (1, .getfield 44, [4, 10]), (4, .ifCond .ne 24, [28]), (7, .aload_n 0, []), (8, .getfield 34, [4, 7]), (11, .aload_n 0, []), (12, .getfield 27, [4, 0]), (15, .getfield 69, [3, 8]), (18, .if_icmp .ge 10, [28]), (21, .aload_n 0, []), (22, .invokevirtual 72, [47, 0, 4]), (25, .ifCond .ne 7, [32]), (28, .iconst (.ofNat 1), []), (29, .goto 4, [33]), (32, .iconst (.ofNat 0), []), (33, .ireturn, [])]
/-- OneClock$Play.isOver -/
def am_m48 : am_Info := (4, am_c48, 1, some .boolean, 2)
def am_c49 : List am_Ent := [(0, .aload_n 0, []), (1, .getfield 27, [4, 0]), (4, .getfield 56, [3, 0]), (7, .iload_n 1, []), (8, .iaload, []), (9, .aload_n 0, []), (10, .getfield 9, [4, 1]), (13, .iload_n 1, []), (14, .iaload, []), (15, .isub, []), (16, .ireturn, [])]
/-- OneClock$Play.made -/
def am_m49 : am_Info := (4, am_c49, 2, some .int, 0)
def am_c50 : List am_Ent := [(0, .aload_n 0, []), (1, .getfield 21, [4, 4]), (4, .iload_n 1, []), (5, .iaload, []), (6, .aload_n 0, []), (7, .getfield 21, [4, 4]), (10, .aload_n 0, []), (11, .getfield 38, [4, 8]), (14, .iaload, []), (15, .isub, []), (16, .invokestatic 76, [3]), (19, .istore_n 2, []), (20, .iload_n 2, []), (21, .aload_n 0, []), (22, .getfield 27, [4, 0]), (25, .getfield 51, [3, 5]), (28, .iload_n 2, []), (29, .isub, []), (30, .invokestatic 82, [2]), (33, .ireturn, [])]
/-- OneClock$Play.stepsTo -/
def am_m50 : am_Info := (4, am_c50, 3, some .int, 0)
def am_c51 : List am_Ent := [(0, .aload_n 0, []), (1, .getfield 34, [4, 7]), (4, .aload_n 0, []), (5, .getfield 27, [4, 0]), (8, .getfield 86, [3, 7]), (11, .aload_n 0, []), (12, .iload_n 1, []), (13, .invokevirtual 89, [50, 1, 4]), (16, .imul, []), (17, .iadd, []), (18, .aload_n 0, []), (19, .getfield 15, [4, 2]), (22, .iload_n 1, []), (23, .iaload, []), (24, .invokestatic 92, [1]), (27, .ireturn, [])]
/-- OneClock$Play.soonest -/
def am_m51 : am_Info := (4, am_c51, 2, some .int, 1)
def am_c52 : List am_Ent := [(0, .iload_n 3, []), (1, .aload_n 0, []), (2, .getfield 15, [4, 2]), (5, .iload_n 2, []), (6, .iaload, []), (7, .isub, []), (8, .istore 5, []), (10, .aload_n 0, []), (11, .getfield 27, [4, 0]), (14, .getfield 95, [3, 3]), (17, .iload 4, []), (19, .aload_n 0, []), (20, .iload_n 2, []), (21, .invokevirtual 99, [49, 1, 4]), (24, .iload_n 3, []), (25, .iload 5, []), (27, .aload_n 0, []), (28, .getfield 9, [4, 1]), (31, .iload_n 2, []), (32, .iaload, []), (33, .aload_n 0, []), (34, .getfield 41, [4, 9]), (37, .invokevirtual 102, [4, 6, 0]), (40, .aload_n 0, []), (41, .getfield 27, [4, 0]), (44, .iload_n 1, []), (45, .iload_n 2, []), (46, .invokevirtual 108, [40, 2, 3]), (49, .ireturn, [])]
/-- OneClock$Play.ask -/
def am_m52 : am_Info := (4, am_c52, 6, some .int, 2)
def am_c53 : List am_Ent := [(0, .aload_n 0, []), (1, .iload_n 1, []), (2, .invokevirtual 111, [51, 1, 4]), (5, .istore_n 3, []), (6, .iload_n 3, []), (7, .iload_n 2, []), (8, .iadd, []), (9, .aload_n 0, []), (10, .getfield 27, [4, 0]), (13, .getfield 69, [3, 8]), (16, .if_icmp .le 7, [23]), (19, .iconst (.ofNat 1), []), (20, .goto 4, [24]), (23, .iconst (.ofNat 0), []), (24, .istore 4, []), (26, .iload 4, []), (28, .ifCond .eq 14, [42]), (31, .aload_n 0, []), (32, .getfield 27, [4, 0]), (35, .getfield 114, [3, 9]), (38, .ineg, []), (39, .goto 11, [50]), (42, .aload_n 0, []), (43, .iconst (.ofNat 0), []), (44, .iload_n 1, []), (45, .iload_n 3, []), (46, .iload_n 2, []), (47, .invokevirtual 117, [52, 4, 4]), (50, .ireturn, [])]
/-- OneClock$Play.gainOf -/
def am_m53 : am_Info := (4, am_c53, 5, some .int, 3)
def am_c54 : List am_Ent := [(0, .iload_n 2, []), (1, .iload_n 3, []), (2, .iadd, []), (3, .istore 4, []), (5, .iload 4, []), (7, .aload_n 0, []), (8, .getfield 27, [4, 0]), (11, .getfield 69, [3, 8]), (14, .if_icmp .le 10, [24]), (17, .aload_n 0, []), (18, .iload_n 1, []), (19, .invokevirtual 120, [57, 1, 4]), (22, .iconst (.ofNat 1), []), (23, .ireturn, []), (24, .aload_n 0, []), (25, .iconst (.ofNat 0), []), (26, .iload_n 1, []), (27, .iload_n 2, []), (28, .iload_n 3, []), (29, .invokevirtual 117, [52, 4, 4]), (32, .istore 5, []), (34, .iload_n 1, []), (35, .aload_n 0, []), (36, .getfield 48, [4, 6]), (39, .if_icmp .ne 7, [46]), (42, .iconst (.ofNat 0), []), (43, .goto 11, [54]), (46, .aload_n 0, []), (47, .iconst (.ofNat 1), []), (48, .iload_n 1, []), (49, .iload_n 2, []), (50, .iload_n 3, []), (51, .invokevirtual 117, [52, 4, 4]), (54, .istore 6, []), (56, .aload_n 0, []), (57, .dup, []), (58, .getfield 41, [4, 9]), (61, .iload 5, []), (63, .iadd, []), (64, .putfield 41, [4, 9, 0]), (67, .aload_n 0, []), (68, .getfield 9, [4, 1]), (71, .iload_n 1, []), (72, .dup2, []), (73, .iaload, []), (74, .iconst (.ofNat 1), []), (75, .isub, []), (76, .iastore, []), (77, .aload_n 0, []), (78, .getfield 15, [4, 2]), (81, .iload_n 1, []), (82, .iload 4, []), (84, .iload 6, []), (86, .iadd, []), (87, .aload_n 0, []), (88, .getfield 24, [4, 5]), (91, .iload_n 1, []), (92, .iaload, []), (93, .iadd, []), (94, .iastore, []), (95, .aload_n 0, []), (96, .iload 4, []), (98, .putfield 34, [4, 7, 0]), (101, .aload_n 0, []), (102, .iload_n 1, []), (103, .putfield 38, [4, 8, 0]), (106, .iconst (.ofNat 0), []), (107, .ireturn, [])]
/-- OneClock$Play.makeMove -/
def am_m54 : am_Info := (4, am_c54, 7, some .int, 3)
def am_c55 : List am_Ent := [(0, .aload_n 0, []), (1, .iload_n 1, []), (2, .invokevirtual 111, [51, 1, 4]), (5, .istore_n 2, []), (6, .iload_n 2, []), (7, .aload_n 0, []), (8, .getfield 27, [4, 0]), (11, .getfield 69, [3, 8]), (14, .if_icmp .le 10, [24]), (17, .aload_n 0, []), (18, .iload_n 1, []), (19, .invokevirtual 120, [57, 1, 4]), (22, .iconst (.ofNat 2), []), (23, .ireturn, []), (24, .aload_n 0, []), (25, .iconst (.ofNat 2), []), (26, .iload_n 1, []), (27, .iload_n 2, []), (28, .iconst (.ofNat 0), []), (29, .invokevirtual 117, [52, 4, 4]), (32, .istore_n 3, []), (33, .aload_n 0, []), (34, .iload_n 1, []), (35, .putfield 38, [4, 8, 0]), (38, .iload_n 3, []), (39, .ifCond .le 27, [66]), (42, .aload_n 0, []), (43, .iload_n 2, []), (44, .putfield 34, [4, 7, 0]), (47, .aload_n 0, []), (48, .dup, []), (49, .getfield 41, [4, 9]), (52, .iload_n 3, []), (53, .iadd, []), (54, .putfield 41, [4, 9, 0]), (57, .aload_n 0, []), (58, .getfield 18, [4, 3]), (61, .iload_n 1, []), (62, .iconst (.ofNat 1), []), (63, .iastore, []), (64, .iconst (.ofNat 1), []), (65, .ireturn, []), (66, .aload_n 0, []), (67, .iload_n 2, []), (68, .iconst (.ofNat 1), []), (69, .iadd, []), (70, .aload_n 0, []), (71, .getfield 27, [4, 0]), (74, .getfield 69, [3, 8]), (77, .invokestatic 82, [2]), (80, .putfield 34, [4, 7, 0]), (83, .iconst (.ofNat 0), []), (84, .ireturn, [])]
/-- OneClock$Play.makeOffer -/
def am_m55 : am_Info := (4, am_c55, 4, some .int, 3)
def am_c56 : List am_Ent := [(0, .aload_n 0, []), (1, .dup, []), (2, .getfield 41, [4, 9]), (5, .aload_n 0, []), (6, .getfield 27, [4, 0]), (9, .getfield 124, [3, 1]), (12, .iload_n 1, []), (13, .iaload, []), (14, .isub, []), (15, .putfield 41, [4, 9, 0]), (18, .aload_n 0, []), (19, .getfield 18, [4, 3]), (22, .iload_n 1, []), (23, .iconst (.ofNat 2), []), (24, .iastore, []), (25, .return_, [])]
/-- OneClock$Play.letGo -/
def am_m56 : am_Info := (4, am_c56, 2, none, 0)
def am_c57 : List am_Ent := [(0, .aload_n 0, []), (1, .iconst (.ofNat 1), []), (2, .putfield 44, [4, 10, 1]), (5, .aload_n 0, []), (6, .aload_n 0, []), (7, .getfield 27, [4, 0]), (10, .getfield 69, [3, 8]), (13, .putfield 34, [4, 7, 0]), (16, .aload_n 0, []), (17, .iload_n 1, []), (18, .putfield 38, [4, 8, 0]), (21, .aload_n 0, []), (22, .dup, []), (23, .getfield 41, [4, 9]), (26, .aload_n 0, []), (27, .getfield 27, [4, 0]), (30, .getfield 114, [3, 9]), (33, .isub, []), (34, .putfield 41, [4, 9, 0]), (37, .return_, [])]
/-- OneClock$Play.dropFlag -/
def am_m57 : am_Info := (4, am_c57, 2, none, 0)
def am_c58 : List am_Ent := [(0, .aload_n 0, []), (1, .invokespecial 5, [0]), (4, .aload_n 0, []), (5, .bipush (.ofNat 6), []), (7, .newarray .int, []), (9, .putfield 11, [5, 2, 2]), (12, .aload_n 0, []), (13, .aload_n 1, []), (14, .putfield 17, [5, 0, 2]), (17, .aload_n 0, []), (18, .aload_n 2, []), (19, .putfield 21, [5, 1, 2]), (22, .aload_n 0, []), (23, .iconst (.negSucc 0), []), (24, .putfield 25, [5, 6, 0]), (27, .return_, [])]
/-- OneClock$Reader.<init> -/
def am_m58 : am_Info := (5, am_c58, 3, none, 0)
def am_c59 : List am_Ent := [(0, .aload_n 0, []), (1, .invokevirtual 29, [60, 0, 5]), (4, .iconst (.ofNat 0), []), (5, .istore_n 1, []), (6, .iload_n 1, []), (7, .sipush (.ofNat 400), []), (10, .if_icmp .gt 185, [195]), (13, .aload_n 0, []), (14, .getfield 32, [5, 5]), (17, .ifCond .ne 178, [195]), (20, .aload_n 0, []), (21, .getfield 35, [5, 4]), (24, .ifCond .eq 171, [195]), (27, .aload_n 0, []), (28, .getfield 35, [5, 4]), (31, .sipush (.ofNat 128), []), (34, .if_icmp .ne 10, [44]), (37, .aload_n 0, []), (38, .invokevirtual 38, [61, 0, 5]), (41, .goto 148, [189]), (44, .aload_n 0, []), (45, .getfield 35, [5, 4]), (48, .sipush (.ofNat 129), []), (51, .if_icmp .lt 24, [75]), (54, .aload_n 0, []), (55, .getfield 35, [5, 4]), (58, .sipush (.ofNat 131), []), (61, .if_icmp .gt 14, [75]), (64, .aload_n 0, []), (65, .aload_n 0, []), (66, .getfield 35, [5, 4]), (69, .invokevirtual 41, [64, 1, 5]), (72, .goto 117, [189]), (75, .aload_n 0, []), (76, .getfield 35, [5, 4]), (79, .sipush (.ofNat 132), []), (82, .if_icmp .ne 10, [92]), (85, .aload_n 0, []), (86, .invokevirtual 45, [63, 0, 5]), (89, .goto 100, [189]), (92, .aload_n 0, []), (93, .getfield 35, [5, 4]), (96, .sipush (.ofNat 133), []), (99, .if_icmp .ne 23, [122]), (102, .aload_n 0, []), (103, .getfield 21, [5, 1]), (106, .aload_n 0, []), (107, .sipush (.ofNat 133), []), (110, .iconst (.ofNat 0), []), (111, .bipush (.ofNat 9), []), (113, .invokevirtual 48, [62, 3, 5]), (116, .putfield 52, [3, 7, 0]), (119, .goto 70, [189]), (122, .aload_n 0, []), (123, .getfield 35, [5, 4]), (126, .sipush (.ofNat 134), []), (129, .if_icmp .ne 24, [153]), (132, .aload_n 0, []), (133, .getfield 21, [5, 1]), (136, .aload_n 0, []), (137, .sipush (.ofNat 134), []), (140, .iconst (.ofNat 1), []), (141, .sipush (.ofNat 500), []), (144, .invokevirtual 48, [62, 3, 5]), (147, .putfield 57, [3, 8, 0]), (150, .goto 39, [189]), (153, .aload_n 0, []), (154, .getfield 35, [5, 4]), (157, .sipush (.ofNat 135), []), (160, .if_icmp .ne 24, [184]), (163, .aload_n 0, []), (164, .getfield 21, [5, 1]), (167, .aload_n 0, []), (168, .sipush (.ofNat 135), []), (171, .iconst (.ofNat 0), []), (172, .sipush (.ofNat 999), []), (175, .invokevirtual 48, [62, 3, 5]), (178, .putfield 60, [3, 9, 0]), (181, .goto 8, [189]), (184, .aload_n 0, []), (185, .iconst (.ofNat 1), []), (186, .invokevirtual 63, [71, 1, 5]), (189, .iinc 1 (.ofNat 1), []), (192, .goto (-186), [6]), (195, .aload_n 0, []), (196, .getfield 32, [5, 5]), (199, .ifCond .ne 26, [225]), (202, .aload_n 0, []), (203, .getfield 66, [5, 7]), (206, .ifCond .eq 19, [225]), (209, .aload_n 0, []), (210, .aload_n 0, []), (211, .getfield 66, [5, 7]), (214, .putfield 32, [5, 5, 0]), (217, .aload_n 0, []), (218, .aload_n 0, []), (219, .getfield 69, [5, 8]), (222, .putfield 25, [5, 6, 0]), (225, .aload_n 0, []), (226, .getfield 32, [5, 5]), (229, .ireturn, [])]
/-- OneClock$Reader.readText -/
def am_m59 : am_Info := (5, am_c59, 2, some .int, 6)
def am_c60 : List am_Ent := [(0, .aload_n 0, []), (1, .getfield 21, [5, 1]), (4, .invokevirtual 72, [36, 0, 3]), (7, .aload_n 0, []), (8, .getfield 17, [5, 0]), (11, .invokevirtual 75, [80, 0, 7]), (14, .aload_n 0, []), (15, .iconst (.ofNat 0), []), (16, .putfield 78, [5, 3, 0]), (19, .aload_n 0, []), (20, .aload_n 0, []), (21, .getfield 17, [5, 0]), (24, .getfield 81, [7, 2]), (27, .iconst (.ofNat 0), []), (28, .iaload, []), (29, .putfield 35, [5, 4, 0]), (32, .aload_n 0, []), (33, .iconst (.ofNat 0), []), (34, .putfield 32, [5, 5, 0]), (37, .aload_n 0, []), (38, .iconst (.negSucc 0), []), (39, .putfield 25, [5, 6, 0]), (42, .aload_n 0, []), (43, .iconst (.ofNat 0), []), (44, .putfield 66, [5, 7, 0]), (47, .aload_n 0, []), (48, .iconst (.negSucc 0), []), (49, .putfield 69, [5, 8, 0]), (52, .return_, [])]
/-- OneClock$Reader.startAnew -/
def am_m60 : am_Info := (5, am_c60, 1, none, 3)
def am_c61 : List am_Ent := [(0, .aload_n 0, []), (1, .getfield 21, [5, 1]), (4, .getfield 84, [3, 5]), (7, .istore_n 1, []), (8, .iload_n 1, []), (9, .bipush (.ofNat 6), []), (11, .if_icmp .lt 9, [20]), (14, .aload_n 0, []), (15, .iconst (.ofNat 2), []), (16, .invokevirtual 63, [71, 1, 5]), (19, .return_, []), (20, .aload_n 0, []), (21, .sipush (.ofNat 128), []), (24, .invokevirtual 87, [70, 1, 5]), (27, .pop, []), (28, .aload_n 0, []), (29, .invokevirtual 91, [69, 0, 5]), (32, .iconst (.negSucc 0), []), (33, .if_icmp .eq 12, [45]), (36, .aload_n 0, []), (37, .iconst (.ofNat 3), []), (38, .aload_n 0, []), (39, .getfield 78, [5, 3]), (42, .invokevirtual 95, [72, 2, 5]), (45, .aload_n 0, []), (46, .getfield 11, [5, 2]), (49, .iload_n 1, []), (50, .aload_n 0, []), (51, .getfield 78, [5, 3]), (54, .iastore, []), (55, .aload_n 0, []), (56, .iconst (.ofNat 2), []), (57, .invokevirtual 87, [70, 1, 5]), (60, .pop, []), (61, .aload_n 0, []), (62, .getfield 21, [5, 1]), (65, .getfield 99, [3, 0]), (68, .iload_n 1, []), (69, .aload_n 0, []), (70, .iconst (.ofNat 0), []), (71, .bipush (.ofNat 9), []), (73, .invokevirtual 102, [68, 2, 5]), (76, .iastore, []), (77, .aload_n 0, []), (78, .getfield 21, [5, 1]), (81, .getfield 106, [3, 1]), (84, .iload_n 1, []), (85, .aload_n 0, []), (86, .iconst (.ofNat 0), []), (87, .sipush (.ofNat 999), []), (90, .invokevirtual 102, [68, 2, 5]), (93, .iastore, []), (94, .aload_n 0, []), (95, .bipush (.ofNat 59), []), (97, .invokevirtual 87, [70, 1, 5]), (100, .pop, []), (101, .aload_n 0, []), (102, .getfield 21, [5, 1]), (105, .dup, []), (106, .getfield 84, [3, 5]), (109, .iconst (.ofNat 1), []), (110, .iadd, []), (111, .putfield 84, [3, 5, 0]), (114, .return_, [])]
/-- OneClock$Reader.readBoard -/
def am_m61 : am_Info := (5, am_c61, 2, none, 3)
def am_c62 : List am_Ent := [(0, .aload_n 0, []), (1, .iload_n 1, []), (2, .invokevirtual 87, [70, 1, 5]), (5, .pop, []), (6, .aload_n 0, []), (7, .iload_n 2, []), (8, .iload_n 3, []), (9, .invokevirtual 102, [68, 2, 5]), (12, .istore 4, []), (14, .aload_n 0, []), (15, .bipush (.ofNat 59), []), (17, .invokevirtual 87, [70, 1, 5]), (20, .pop, []), (21, .iload 4, []), (23, .ireturn, [])]
/-- OneClock$Reader.readNumber -/
def am_m62 : am_Info := (5, am_c62, 5, some .int, 3)
def am_c63 : List am_Ent := [(0, .aload_n 0, []), (1, .sipush (.ofNat 132), []), (4, .invokevirtual 87, [70, 1, 5]), (7, .pop, []), (8, .iconst (.ofNat 0), []), (9, .istore_n 1, []), (10, .iconst (.ofNat 0), []), (11, .istore_n 2, []), (12, .iload_n 2, []), (13, .iconst (.ofNat 4), []), (14, .if_icmp .gt 54, [68]), (17, .aload_n 0, []), (18, .getfield 32, [5, 5]), (21, .ifCond .ne 47, [68]), (24, .aload_n 0, []), (25, .getfield 35, [5, 4]), (28, .iconst (.ofNat 3), []), (29, .if_icmp .ne 39, [68]), (32, .iload_n 1, []), (33, .iconst (.ofNat 4), []), (34, .if_icmp .lt 9, [43]), (37, .aload_n 0, []), (38, .iconst (.ofNat 2), []), (39, .invokevirtual 63, [71, 1, 5]), (42, .return_, []), (43, .aload_n 0, []), (44, .getfield 21, [5, 1]), (47, .getfield 109, [3, 2]), (50, .iload_n 1, []), (51, .aload_n 0, []), (52, .iconst (.ofNat 0), []), (53, .bipush (.ofNat 60), []), (55, .invokevirtual 102, [68, 2, 5]), (58, .iastore, []), (59, .iinc 1 (.ofNat 1), []), (62, .iinc 2 (.ofNat 1), []), (65, .goto (-53), [12]), (68, .aload_n 0, []), (69, .bipush (.ofNat 59), []), (71, .invokevirtual 87, [70, 1, 5]), (74, .pop, []), (75, .aload_n 0, []), (76, .getfield 21, [5, 1]), (79, .iload_n 1, []), (80, .putfield 112, [3, 6, 0]), (83, .iload_n 1, []), (84, .ifCond .ne 10, [94]), (87, .aload_n 0, []), (88, .getfield 21, [5, 1]), (91, .invokevirtual 115, [37, 0, 3]), (94, .return_, [])]
/-- OneClock$Reader.readThinks -/
def am_m63 : am_Info := (5, am_c63, 3, none, 3)
def am_c64 : List am_Ent := [(0, .aload_n 0, []), (1, .iload_n 1, []), (2, .invokevirtual 87, [70, 1, 5]), (5, .pop, []), (6, .aload_n 0, []), (7, .invokevirtual 91, [69, 0, 5]), (10, .istore_n 2, []), (11, .iload_n 2, []), (12, .iconst (.negSucc 0), []), (13, .if_icmp .ne 12, [25]), (16, .aload_n 0, []), (17, .iconst (.ofNat 4), []), (18, .aload_n 0, []), (19, .getfield 78, [5, 3]), (22, .invokevirtual 95, [72, 2, 5]), (25, .aload_n 0, []), (26, .iconst (.ofNat 2), []), (27, .invokevirtual 87, [70, 1, 5]), (30, .pop, []), (31, .aload_n 0, []), (32, .bipush (.ofNat 61), []), (34, .invokevirtual 87, [70, 1, 5]), (37, .pop, []), (38, .aload_n 0, []), (39, .getfield 21, [5, 1]), (42, .iload_n 1, []), (43, .sipush (.ofNat 129), []), (46, .isub, []), (47, .iload_n 2, []), (48, .aload_n 0, []), (49, .getfield 21, [5, 1]), (52, .getfield 118, [3, 3]), (55, .getfield 122, [0, 4]), (58, .invokevirtual 127, [38, 3, 3]), (61, .iconst (.ofNat 0), []), (62, .istore_n 3, []), (63, .iload_n 3, []), (64, .iconst (.ofNat 4), []), (65, .if_icmp .gt 124, [189]), (68, .aload_n 0, []), (69, .getfield 32, [5, 5]), (72, .ifCond .ne 117, [189]), (75, .aload_n 0, []), (76, .getfield 35, [5, 4]), (79, .sipush (.ofNat 136), []), (82, .if_icmp .ne 107, [189]), (85, .iload_n 3, []), (86, .iconst (.ofNat 4), []), (87, .if_icmp .lt 9, [96]), (90, .aload_n 0, []), (91, .iconst (.ofNat 2), []), (92, .invokevirtual 63, [71, 1, 5]), (95, .return_, []), (96, .aload_n 0, []), (97, .sipush (.ofNat 136), []), (100, .invokevirtual 87, [70, 1, 5]), (103, .pop, []), (104, .aload_n 0, []), (105, .iconst (.ofNat 1), []), (106, .invokevirtual 131, [65, 1, 5]), (109, .aload_n 0, []), (110, .bipush (.ofNat 60), []), (112, .invokevirtual 87, [70, 1, 5]), (115, .pop, []), (116, .aload_n 0, []), (117, .iconst (.ofNat 1), []), (118, .invokevirtual 131, [65, 1, 5]), (121, .aload_n 0, []), (122, .sipush (.ofNat 137), []), (125, .invokevirtual 87, [70, 1, 5]), (128, .pop, []), (129, .aload_n 0, []), (130, .getfield 21, [5, 1]), (133, .getfield 118, [3, 3]), (136, .bipush (.ofNat 6), []), (138, .iconst (.ofNat 0), []), (139, .invokevirtual 134, [1, 2, 0]), (142, .istore 4, []), (144, .aload_n 0, []), (145, .iconst (.ofNat 1), []), (146, .invokevirtual 131, [65, 1, 5]), (149, .aload_n 0, []), (150, .sipush (.ofNat 138), []), (153, .invokevirtual 87, [70, 1, 5]), (156, .pop, []), (157, .aload_n 0, []), (158, .getfield 21, [5, 1]), (161, .getfield 118, [3, 3]), (164, .bipush (.ofNat 7), []), (166, .iconst (.ofNat 0), []), (167, .invokevirtual 134, [1, 2, 0]), (170, .pop, []), (171, .aload_n 0, []), (172, .getfield 21, [5, 1]), (175, .getfield 118, [3, 3]), (178, .iload 4, []), (180, .invokevirtual 137, [2, 1, 0]), (183, .iinc 3 (.ofNat 1), []), (186, .goto (-123), [63]), (189, .aload_n 0, []), (190, .iconst (.ofNat 1), []), (191, .invokevirtual 131, [65, 1, 5]), (194, .aload_n 0, []), (195, .getfield 21, [5, 1]), (198, .getfield 118, [3, 3]), (201, .bipush (.ofNat 7), []), (203, .iconst (.ofNat 0), []), (204, .invokevirtual 134, [1, 2, 0]), (207, .pop, []), (208, .aload_n 0, []), (209, .bipush (.ofNat 59), []), (211, .invokevirtual 87, [70, 1, 5]), (214, .pop, []), (215, .return_, [])]
/-- OneClock$Reader.readLaw -/
def am_m64 : am_Info := (5, am_c64, 5, none, 5)
def am_c65 : List am_Ent := [(0, .aload_n 0, []), (1, .iload_n 1, []), (2, .invokevirtual 140, [66, 1, 5]), (5, .iconst (.ofNat 0), []), (6, .istore_n 2, []), (7, .iload_n 2, []), (8, .sipush (.ofNat 400), []), (11, .if_icmp .ge 76, [87]), (14, .aload_n 0, []), (15, .getfield 32, [5, 5]), (18, .ifCond .ne 69, [87]), (21, .aload_n 0, []), (22, .getfield 35, [5, 4]), (25, .bipush (.ofNat 43), []), (27, .if_icmp .eq 12, [39]), (30, .aload_n 0, []), (31, .getfield 35, [5, 4]), (34, .bipush (.ofNat 45), []), (36, .if_icmp .ne 51, [87]), (39, .aload_n 0, []), (40, .getfield 35, [5, 4]), (43, .bipush (.ofNat 43), []), (45, .if_icmp .ne 7, [52]), (48, .iconst (.ofNat 2), []), (49, .goto 4, [53]), (52, .iconst (.ofNat 3), []), (53, .istore_n 3, []), (54, .aload_n 0, []), (55, .aload_n 0, []), (56, .getfield 35, [5, 4]), (59, .invokevirtual 87, [70, 1, 5]), (62, .pop, []), (63, .aload_n 0, []), (64, .iload_n 1, []), (65, .invokevirtual 140, [66, 1, 5]), (68, .aload_n 0, []), (69, .getfield 21, [5, 1]), (72, .getfield 118, [3, 3]), (75, .iload_n 3, []), (76, .iconst (.ofNat 0), []), (77, .invokevirtual 134, [1, 2, 0]), (80, .pop, []), (81, .iinc 2 (.ofNat 1), []), (84, .goto (-77), [7]), (87, .return_, [])]
/-- OneClock$Reader.readSum -/
def am_m65 : am_Info := (5, am_c65, 4, none, 4)
def am_c66 : List am_Ent := [(0, .aload_n 0, []), (1, .iload_n 1, []), (2, .invokevirtual 143, [67, 1, 5]), (5, .iconst (.ofNat 0), []), (6, .istore_n 2, []), (7, .iload_n 2, []), (8, .sipush (.ofNat 400), []), (11, .if_icmp .ge 76, [87]), (14, .aload_n 0, []), (15, .getfield 32, [5, 5]), (18, .ifCond .ne 69, [87]), (21, .aload_n 0, []), (22, .getfield 35, [5, 4]), (25, .bipush (.ofNat 42), []), (27, .if_icmp .eq 12, [39]), (30, .aload_n 0, []), (31, .getfield 35, [5, 4]), (34, .bipush (.ofNat 47), []), (36, .if_icmp .ne 51, [87]), (39, .aload_n 0, []), (40, .getfield 35, [5, 4]), (43, .bipush (.ofNat 42), []), (45, .if_icmp .ne 7, [52]), (48, .iconst (.ofNat 4), []), (49, .goto 4, [53]), (52, .iconst (.ofNat 5), []), (53, .istore_n 3, []), (54, .aload_n 0, []), (55, .aload_n 0, []), (56, .getfield 35, [5, 4]), (59, .invokevirtual 87, [70, 1, 5]), (62, .pop, []), (63, .aload_n 0, []), (64, .iload_n 1, []), (65, .invokevirtual 143, [67, 1, 5]), (68, .aload_n 0, []), (69, .getfield 21, [5, 1]), (72, .getfield 118, [3, 3]), (75, .iload_n 3, []), (76, .iconst (.ofNat 0), []), (77, .invokevirtual 134, [1, 2, 0]), (80, .pop, []), (81, .iinc 2 (.ofNat 1), []), (84, .goto (-77), [7]), (87, .return_, [])]
/-- OneClock$Reader.readProduct -/
def am_m66 : am_Info := (5, am_c66, 4, none, 3)
def am_c67 : List am_Ent := [(0, .aload_n 0, []), (1, .getfield 35, [5, 4]), (4, .iconst (.ofNat 3), []), (5, .if_icmp .ne 39, [44]), (8, .aload_n 0, []), (9, .getfield 21, [5, 1]), (12, .getfield 118, [3, 3]), (15, .iconst (.ofNat 0), []), (16, .aload_n 0, []), (17, .getfield 17, [5, 0]), (20, .getfield 146, [7, 3]), (23, .aload_n 0, []), (24, .getfield 78, [5, 3]), (27, .iaload, []), (28, .invokevirtual 134, [1, 2, 0]), (31, .pop, []), (32, .aload_n 0, []), (33, .aload_n 0, []), (34, .getfield 35, [5, 4]), (37, .invokevirtual 87, [70, 1, 5]), (40, .pop, []), (41, .goto 109, [150]), (44, .aload_n 0, []), (45, .getfield 35, [5, 4]), (48, .sipush (.ofNat 139), []), (51, .if_icmp .lt 45, [96]), (54, .aload_n 0, []), (55, .getfield 35, [5, 4]), (58, .sipush (.ofNat 144), []), (61, .if_icmp .gt 35, [96]), (64, .aload_n 0, []), (65, .getfield 21, [5, 1]), (68, .getfield 118, [3, 3]), (71, .iconst (.ofNat 1), []), (72, .aload_n 0, []), (73, .getfield 35, [5, 4]), (76, .sipush (.ofNat 139), []), (79, .isub, []), (80, .invokevirtual 134, [1, 2, 0]), (83, .pop, []), (84, .aload_n 0, []), (85, .aload_n 0, []), (86, .getfield 35, [5, 4]), (89, .invokevirtual 87, [70, 1, 5]), (92, .pop, []), (93, .goto 57, [150]), (96, .aload_n 0, []), (97, .getfield 35, [5, 4]), (100, .bipush (.ofNat 40), []), (102, .if_icmp .eq 11, [113]), (105, .aload_n 0, []), (106, .iconst (.ofNat 1), []), (107, .invokevirtual 63, [71, 1, 5]), (110, .goto 40, [150]), (113, .iload_n 1, []), (114, .bipush (.ofNat 6), []), (116, .if_icmp .le 11, [127]), (119, .aload_n 0, []), (120, .iconst (.ofNat 2), []), (121, .invokevirtual 63, [71, 1, 5]), (124, .goto 26, [150]), (127, .aload_n 0, []), (128, .bipush (.ofNat 40), []), (130, .invokevirtual 87, [70, 1, 5]), (133, .ifCond .eq 17, [150]), (136, .aload_n 0, []), (137, .iload_n 1, []), (138, .iconst (.ofNat 1), []), (139, .iadd, []), (140, .invokevirtual 131, [65, 1, 5]), (143, .aload_n 0, []), (144, .bipush (.ofNat 41), []), (146, .invokevirtual 87, [70, 1, 5]), (149, .pop, []), (150, .return_, [])]
/-- OneClock$Reader.readUnit -/
def am_m67 : am_Info := (5, am_c67, 2, none, 2)
def am_c68 : List am_Ent := [(0, .aload_n 0, []), (1, .getfield 78, [5, 3]), (4, .istore_n 3, []), (5, .aload_n 0, []), (6, .iconst (.ofNat 3), []), (7, .invokevirtual 87, [70, 1, 5]), (10, .ifCond .ne 5, [15]), (13, .iload_n 1, []), (14, .ireturn, []), (15, .aload_n 0, []), (16, .getfield 17, [5, 0]), (19, .getfield 146, [7, 3]), (22, .iload_n 3, []), (23, .iaload, []), (24, .istore 4, []), (26, .iload 4, []), (28, .iload_n 1, []), (29, .if_icmp .lt 9, [38]), (32, .iload 4, []), (34, .iload_n 2, []), (35, .if_icmp .le 9, [44]), (38, .aload_n 0, []), (39, .iconst (.ofNat 5), []), (40, .iload_n 3, []), (41, .invokevirtual 95, [72, 2, 5]), (44, .iload 4, []), (46, .ireturn, [])]
/-- OneClock$Reader.readInt -/
def am_m68 : am_Info := (5, am_c68, 5, some .int, 2)
def am_c69 : List am_Ent := [(0, .iconst (.ofNat 0), []), (1, .istore_n 1, []), (2, .iload_n 1, []), (3, .aload_n 0, []), (4, .getfield 21, [5, 1]), (7, .getfield 84, [3, 5]), (10, .if_icmp .ge 37, [47]), (13, .iload_n 1, []), (14, .bipush (.ofNat 6), []), (16, .if_icmp .ge 31, [47]), (19, .aload_n 0, []), (20, .getfield 17, [5, 0]), (23, .aload_n 0, []), (24, .getfield 11, [5, 2]), (27, .iload_n 1, []), (28, .iaload, []), (29, .aload_n 0, []), (30, .getfield 78, [5, 3]), (33, .invokevirtual 149, [86, 2, 7]), (36, .ifCond .eq 5, [41]), (39, .iload_n 1, []), (40, .ireturn, []), (41, .iinc 1 (.ofNat 1), []), (44, .goto (-42), [2]), (47, .iconst (.negSucc 0), []), (48, .ireturn, [])]
/-- OneClock$Reader.findName -/
def am_m69 : am_Info := (5, am_c69, 2, some .int, 1)
def am_c70 : List am_Ent := [(0, .aload_n 0, []), (1, .getfield 32, [5, 5]), (4, .ifCond .ne 19, [23]), (7, .aload_n 0, []), (8, .getfield 35, [5, 4]), (11, .iload_n 1, []), (12, .if_icmp .eq 11, [23]), (15, .aload_n 0, []), (16, .iconst (.ofNat 1), []), (17, .invokevirtual 63, [71, 1, 5]), (20, .goto 18, [38]), (23, .aload_n 0, []), (24, .getfield 78, [5, 3]), (27, .sipush (.ofNat 400), []), (30, .if_icmp .lt 8, [38]), (33, .aload_n 0, []), (34, .iconst (.ofNat 2), []), (35, .invokevirtual 63, [71, 1, 5]), (38, .aload_n 0, []), (39, .getfield 32, [5, 5]), (42, .ifCond .eq 5, [47]), (45, .iconst (.ofNat 0), []), (46, .ireturn, []), (47, .aload_n 0, []), (48, .dup, []), (49, .getfield 78, [5, 3]), (52, .iconst (.ofNat 1), []), (53, .iadd, []), (54, .putfield 78, [5, 3, 0]), (57, .aload_n 0, []), (58, .aload_n 0, []), (59, .getfield 17, [5, 0]), (62, .getfield 81, [7, 2]), (65, .aload_n 0, []), (66, .getfield 78, [5, 3]), (69, .iaload, []), (70, .putfield 35, [5, 4, 0]), (73, .iconst (.ofNat 1), []), (74, .ireturn, [])]
/-- OneClock$Reader.pass -/
def am_m70 : am_Info := (5, am_c70, 2, some .boolean, 1)
def am_c71 : List am_Ent := [(0, .aload_n 0, []), (1, .getfield 32, [5, 5]), (4, .ifCond .ne 24, [28]), (7, .aload_n 0, []), (8, .iload_n 1, []), (9, .putfield 32, [5, 5, 0]), (12, .aload_n 0, []), (13, .aload_n 0, []), (14, .getfield 17, [5, 0]), (17, .getfield 153, [7, 4]), (20, .aload_n 0, []), (21, .getfield 78, [5, 3]), (24, .iaload, []), (25, .putfield 25, [5, 6, 0]), (28, .return_, [])]
/-- OneClock$Reader.fail -/
def am_m71 : am_Info := (5, am_c71, 2, none, 0)
def am_c72 : List am_Ent := [(0, .aload_n 0, []), (1, .getfield 66, [5, 7]), (4, .ifCond .ne 21, [25]), (7, .aload_n 0, []), (8, .iload_n 1, []), (9, .putfield 66, [5, 7, 0]), (12, .aload_n 0, []), (13, .aload_n 0, []), (14, .getfield 17, [5, 0]), (17, .getfield 153, [7, 4]), (20, .iload_n 2, []), (21, .iaload, []), (22, .putfield 69, [5, 8, 0]), (25, .return_, [])]
/-- OneClock$Reader.noteSlip -/
def am_m72 : am_Info := (5, am_c72, 3, none, 0)
def am_c73 : List am_Ent := [(0, .aload_n 0, []), (1, .invokespecial 3, [0]), (4, .aload_n 0, []), (5, .bipush (.ofNat 66), []), (7, .newarray .int, []), (9, .putfield 9, [6, 0, 2]), (12, .aload_n 0, []), (13, .iconst (.ofNat 3), []), (14, .newarray .boolean, []), (16, .putfield 15, [6, 1, 2]), (19, .return_, [])]
/-- OneClock$Slots.<init> -/
def am_m73 : am_Info := (6, am_c73, 1, none, 0)
def am_c74 : List am_Ent := [(0, .iload_n 1, []), (1, .ifCond .lt 27, [28]), (4, .iload_n 1, []), (5, .iconst (.ofNat 3), []), (6, .if_icmp .ge 22, [28]), (9, .aload_n 2, []), (10, .aload_n 0, []), (11, .getfield 9, [6, 0]), (14, .iload_n 1, []), (15, .bipush (.ofNat 22), []), (17, .imul, []), (18, .invokevirtual 19, [44, 2, 4]), (21, .aload_n 0, []), (22, .getfield 15, [6, 1]), (25, .iload_n 1, []), (26, .iconst (.ofNat 1), []), (27, .bastore, []), (28, .return_, [])]
/-- OneClock$Slots.put -/
def am_m74 : am_Info := (6, am_c74, 3, none, 1)
def am_c75 : List am_Ent := [(0, .aload_n 2, []), (1, .aload_n 0, []), (2, .getfield 9, [6, 0]), (5, .iload_n 1, []), (6, .bipush (.ofNat 22), []), (8, .imul, []), (9, .invokevirtual 25, [45, 2, 4]), (12, .return_, [])]
/-- OneClock$Slots.take -/
def am_m75 : am_Info := (6, am_c75, 3, none, 1)
def am_c76 : List am_Ent := [(0, .iconst (.ofNat 0), []), (1, .istore_n 1, []), (2, .iconst (.ofNat 0), []), (3, .istore_n 2, []), (4, .iload_n 2, []), (5, .iconst (.ofNat 3), []), (6, .if_icmp .ge 26, [32]), (9, .iload_n 1, []), (10, .aload_n 0, []), (11, .getfield 15, [6, 1]), (14, .iload_n 2, []), (15, .baload, []), (16, .ifCond .eq 7, [23]), (19, .iconst (.ofNat 1), []), (20, .goto 4, [24]), (23, .iconst (.ofNat 0), []), (24, .iadd, []), (25, .istore_n 1, []), (26, .iinc 2 (.ofNat 1), []), (29, .goto (-25), [4]), (32, .iload_n 1, []), (33, .ireturn, [])]
/-- OneClock$Slots.used -/
def am_m76 : am_Info := (6, am_c76, 3, some .int, 0)
def am_c77 : List am_Ent := [(0, .iconst (.ofNat 0), []), (1, .istore_n 1, []), (2, .iload_n 1, []), (3, .iconst (.ofNat 3), []), (4, .if_icmp .ge 16, [20]), (7, .aload_n 0, []), (8, .getfield 15, [6, 1]), (11, .iload_n 1, []), (12, .iconst (.ofNat 0), []), (13, .bastore, []), (14, .iinc 1 (.ofNat 1), []), (17, .goto (-15), [2]), (20, .return_, [])]
/-- OneClock$Slots.clear -/
def am_m77 : am_Info := (6, am_c77, 2, none, 0)
def am_c78 : List am_Ent := [(0, .aload_n 0, []), (1, .invokespecial 3, [0]), (4, .aload_n 0, []), (5, .sipush (.ofNat 2000), []), (8, .newarray .byte, []), (10, .putfield 9, [7, 0, 2]), (13, .aload_n 0, []), (14, .sipush (.ofNat 402), []), (17, .newarray .int, []), (19, .putfield 15, [7, 2, 2]), (22, .aload_n 0, []), (23, .sipush (.ofNat 402), []), (26, .newarray .int, []), (28, .putfield 19, [7, 3, 2]), (31, .aload_n 0, []), (32, .sipush (.ofNat 402), []), (35, .newarray .int, []), (37, .putfield 22, [7, 4, 2]), (40, .aload_n 0, []), (41, .sipush (.ofNat 402), []), (44, .newarray .int, []), (46, .putfield 25, [7, 5, 2]), (49, .return_, [])]
/-- OneClock$Tape.<init> -/
def am_m78 : am_Info := (7, am_c78, 1, none, 0)
def am_c79 : List am_Ent := [(0, .bipush (.ofNat 24), []), (2, .istore_n 2, []), (3, .iload_n 2, []), (4, .ifCond .lt 42, [46]), (7, .aload_n 0, []), (8, .getfield 28, [7, 1]), (11, .sipush (.ofNat 2000), []), (14, .if_icmp .ge 32, [46]), (17, .aload_n 0, []), (18, .getfield 9, [7, 0]), (21, .aload_n 0, []), (22, .getfield 28, [7, 1]), (25, .iload_n 1, []), (26, .iload_n 2, []), (27, .iushr, []), (28, .i2b, []), (29, .bastore, []), (30, .aload_n 0, []), (31, .dup, []), (32, .getfield 28, [7, 1]), (35, .iconst (.ofNat 1), []), (36, .iadd, []), (37, .putfield 28, [7, 1, 0]), (40, .iinc 2 (.negSucc 7), []), (43, .goto (-40), [3]), (46, .return_, [])]
/-- OneClock$Tape.addInt -/
def am_m79 : am_Info := (7, am_c79, 3, none, 0)
def am_c80 : List am_Ent := [(0, .aload_n 0, []), (1, .iconst (.ofNat 0), []), (2, .invokevirtual 32, [81, 1, 7]), (5, .istore_n 1, []), (6, .iconst (.ofNat 0), []), (7, .istore_n 2, []), (8, .iconst (.ofNat 0), []), (9, .istore_n 3, []), (10, .iload_n 3, []), (11, .sipush (.ofNat 400), []), (14, .if_icmp .gt 98, [112]), (17, .iload_n 1, []), (18, .aload_n 0, []), (19, .getfield 28, [7, 1]), (22, .if_icmp .ge 90, [112]), (25, .aload_n 0, []), (26, .getfield 22, [7, 4]), (29, .iload_n 3, []), (30, .iload_n 1, []), (31, .iastore, []), (32, .aload_n 0, []), (33, .getfield 25, [7, 5]), (36, .iload_n 3, []), (37, .aload_n 0, []), (38, .iload_n 1, []), (39, .invokevirtual 36, [82, 1, 7]), (42, .iastore, []), (43, .aload_n 0, []), (44, .getfield 15, [7, 2]), (47, .iload_n 3, []), (48, .aload_n 0, []), (49, .iload_n 1, []), (50, .aload_n 0, []), (51, .getfield 25, [7, 5]), (54, .iload_n 3, []), (55, .iaload, []), (56, .invokevirtual 39, [83, 2, 7]), (59, .iastore, []), (60, .aload_n 0, []), (61, .getfield 19, [7, 3]), (64, .iload_n 3, []), (65, .aload_n 0, []), (66, .getfield 15, [7, 2]), (69, .iload_n 3, []), (70, .iaload, []), (71, .iconst (.ofNat 3), []), (72, .if_icmp .ne 17, [89]), (75, .aload_n 0, []), (76, .iload_n 1, []), (77, .aload_n 0, []), (78, .getfield 25, [7, 5]), (81, .iload_n 3, []), (82, .iaload, []), (83, .invokevirtual 43, [85, 2, 7]), (86, .goto 4, [90]), (89, .iconst (.ofNat 0), []), (90, .iastore, []), (91, .aload_n 0, []), (92, .aload_n 0, []), (93, .getfield 25, [7, 5]), (96, .iload_n 3, []), (97, .iaload, []), (98, .invokevirtual 32, [81, 1, 7]), (101, .istore_n 1, []), (102, .iload_n 3, []), (103, .iconst (.ofNat 1), []), (104, .iadd, []), (105, .istore_n 2, []), (106, .iinc 3 (.ofNat 1), []), (109, .goto (-99), [10]), (112, .aload_n 0, []), (113, .getfield 22, [7, 4]), (116, .iload_n 2, []), (117, .aload_n 0, []), (118, .getfield 28, [7, 1]), (121, .iastore, []), (122, .aload_n 0, []), (123, .getfield 25, [7, 5]), (126, .iload_n 2, []), (127, .aload_n 0, []), (128, .getfield 28, [7, 1]), (131, .iastore, []), (132, .aload_n 0, []), (133, .getfield 15, [7, 2]), (136, .iload_n 2, []), (137, .iconst (.ofNat 0), []), (138, .iastore, []), (139, .return_, [])]
/-- OneClock$Tape.scan -/
def am_m80 : am_Info := (7, am_c80, 4, none, 2)
def am_c81 : List am_Ent := [(0, .iload_n 1, []), (1, .istore_n 2, []), (2, .iload_n 2, []), (3, .aload_n 0, []), (4, .getfield 28, [7, 1]), (7, .if_icmp .ge 22, [29]), (10, .aload_n 0, []), (11, .aload_n 0, []), (12, .getfield 9, [7, 0]), (15, .iload_n 2, []), (16, .baload, []), (17, .invokevirtual 46, [87, 1, 7]), (20, .ifCond .eq 9, [29]), (23, .iinc 2 (.ofNat 1), []), (26, .goto (-24), [2]), (29, .iload_n 2, []), (30, .ireturn, [])]
/-- OneClock$Tape.skipBlanks -/
def am_m81 : am_Info := (7, am_c81, 3, some .int, 1)
def am_c82 : List am_Ent := [(0, .iload_n 1, []), (1, .istore_n 2, []), (2, .aload_n 0, []), (3, .aload_n 0, []), (4, .getfield 9, [7, 0]), (7, .iload_n 1, []), (8, .baload, []), (9, .invokevirtual 50, [88, 1, 7]), (12, .ifCond .eq 30, [42]), (15, .iload_n 2, []), (16, .aload_n 0, []), (17, .getfield 28, [7, 1]), (20, .if_icmp .ge 49, [69]), (23, .aload_n 0, []), (24, .aload_n 0, []), (25, .getfield 9, [7, 0]), (28, .iload_n 2, []), (29, .baload, []), (30, .invokevirtual 50, [88, 1, 7]), (33, .ifCond .eq 36, [69]), (36, .iinc 2 (.ofNat 1), []), (39, .goto (-24), [15]), (42, .iload_n 2, []), (43, .aload_n 0, []), (44, .getfield 28, [7, 1]), (47, .if_icmp .ge 22, [69]), (50, .aload_n 0, []), (51, .aload_n 0, []), (52, .getfield 9, [7, 0]), (55, .iload_n 2, []), (56, .baload, []), (57, .invokevirtual 53, [89, 1, 7]), (60, .ifCond .eq 9, [69]), (63, .iinc 2 (.ofNat 1), []), (66, .goto (-24), [42]), (69, .iload_n 2, []), (70, .iload_n 1, []), (71, .iconst (.ofNat 1), []), (72, .iadd, []), (73, .invokestatic 56, [1]), (76, .ireturn, [])]
/-- OneClock$Tape.endOfThing -/
def am_m82 : am_Info := (7, am_c82, 3, some .int, 1)
def am_c83 : List am_Ent := [(0, .aload_n 0, []), (1, .getfield 9, [7, 0]), (4, .iload_n 1, []), (5, .baload, []), (6, .istore_n 3, []), (7, .aload_n 0, []), (8, .iload_n 3, []), (9, .invokevirtual 53, [89, 1, 7]), (12, .ifCond .eq 16, [28]), (15, .iload_n 2, []), (16, .iload_n 1, []), (17, .isub, []), (18, .iconst (.ofNat 4), []), (19, .if_icmp .le 7, [26]), (22, .iconst (.ofNat 1), []), (23, .goto 4, [27]), (26, .iconst (.ofNat 3), []), (27, .ireturn, []), (28, .aload_n 0, []), (29, .iload_n 3, []), (30, .invokevirtual 50, [88, 1, 7]), (33, .ifCond .ne 17, [50]), (36, .aload_n 0, []), (37, .iload_n 3, []), (38, .invokevirtual 61, [90, 1, 7]), (41, .ifCond .eq 7, [48]), (44, .iload_n 3, []), (45, .goto 4, [49]), (48, .iconst (.ofNat 1), []), (49, .ireturn, []), (50, .iload_n 2, []), (51, .iload_n 1, []), (52, .isub, []), (53, .bipush (.ofNat 8), []), (55, .if_icmp .le 5, [60]), (58, .iconst (.ofNat 1), []), (59, .ireturn, []), (60, .iconst (.ofNat 0), []), (61, .istore 4, []), (63, .iload 4, []), (65, .bipush (.ofNat 17), []), (67, .if_icmp .ge 27, [94]), (70, .aload_n 0, []), (71, .iload 4, []), (73, .iload_n 1, []), (74, .iload_n 2, []), (75, .invokevirtual 64, [84, 3, 7]), (78, .ifCond .eq 10, [88]), (81, .sipush (.ofNat 128), []), (84, .iload 4, []), (86, .iadd, []), (87, .ireturn, []), (88, .iinc 4 (.ofNat 1), []), (91, .goto (-28), [63]), (94, .iconst (.ofNat 2), []), (95, .ireturn, [])]
/-- OneClock$Tape.kindOfThing -/
def am_m83 : am_Info := (7, am_c83, 5, some .int, 1)
def am_c84 : List am_Ent := [(0, .iconst (.ofNat 0), []), (1, .istore 4, []), (3, .iload 4, []), (5, .bipush (.ofNat 8), []), (7, .if_icmp .ge 52, [59]), (10, .iload_n 2, []), (11, .iload 4, []), (13, .iadd, []), (14, .iload_n 3, []), (15, .if_icmp .ge 15, [30]), (18, .aload_n 0, []), (19, .getfield 9, [7, 0]), (22, .iload_n 2, []), (23, .iload 4, []), (25, .iadd, []), (26, .baload, []), (27, .goto 5, [32]), (30, .bipush (.ofNat 32), []), (32, .istore 5, []), (34, .ldc 68, [2, 4]), (36, .iload_n 1, []), (37, .bipush (.ofNat 8), []), (39, .imul, []), (40, .iload 4, []), (42, .iadd, []), (43, .invokevirtual 70, [5]), (46, .iload 5, []), (48, .if_icmp .eq 5, [53]), (51, .iconst (.ofNat 0), []), (52, .ireturn, []), (53, .iinc 4 (.ofNat 1), []), (56, .goto (-53), [3]), (59, .iconst (.ofNat 1), []), (60, .ireturn, [])]
/-- OneClock$Tape.isWord -/
def am_m84 : am_Info := (7, am_c84, 6, some .boolean, 0)
def am_c85 : List am_Ent := [(0, .iconst (.ofNat 0), []), (1, .istore_n 3, []), (2, .iload_n 1, []), (3, .istore 4, []), (5, .iload 4, []), (7, .iload_n 2, []), (8, .if_icmp .ge 34, [42]), (11, .iload 4, []), (13, .aload_n 0, []), (14, .getfield 28, [7, 1]), (17, .if_icmp .ge 25, [42]), (20, .iload_n 3, []), (21, .bipush (.ofNat 10), []), (23, .imul, []), (24, .aload_n 0, []), (25, .getfield 9, [7, 0]), (28, .iload 4, []), (30, .baload, []), (31, .iadd, []), (32, .bipush (.ofNat 48), []), (34, .isub, []), (35, .istore_n 3, []), (36, .iinc 4 (.ofNat 1), []), (39, .goto (-34), [5]), (42, .iload_n 3, []), (43, .ireturn, [])]
/-- OneClock$Tape.valueOfDigits -/
def am_m85 : am_Info := (7, am_c85, 5, some .int, 0)
def am_c86 : List am_Ent := [(0, .aload_n 0, []), (1, .getfield 25, [7, 5]), (4, .iload_n 1, []), (5, .iaload, []), (6, .aload_n 0, []), (7, .getfield 22, [7, 4]), (10, .iload_n 1, []), (11, .iaload, []), (12, .isub, []), (13, .istore_n 3, []), (14, .iload_n 3, []), (15, .aload_n 0, []), (16, .getfield 25, [7, 5]), (19, .iload_n 2, []), (20, .iaload, []), (21, .aload_n 0, []), (22, .getfield 22, [7, 4]), (25, .iload_n 2, []), (26, .iaload, []), (27, .isub, []), (28, .if_icmp .eq 5, [33]), (31, .iconst (.ofNat 0), []), (32, .ireturn, []), (33, .iconst (.ofNat 0), []), (34, .istore 4, []), (36, .iload 4, []), (38, .iload_n 3, []), (39, .if_icmp .ge 42, [81]), (42, .aload_n 0, []), (43, .getfield 9, [7, 0]), (46, .aload_n 0, []), (47, .getfield 22, [7, 4]), (50, .iload_n 1, []), (51, .iaload, []), (52, .iload 4, []), (54, .iadd, []), (55, .baload, []), (56, .aload_n 0, []), (57, .getfield 9, [7, 0]), (60, .aload_n 0, []), (61, .getfield 22, [7, 4]), (64, .iload_n 2, []), (65, .iaload, []), (66, .iload 4, []), (68, .iadd, []), (69, .baload, []), (70, .if_icmp .eq 5, [75]), (73, .iconst (.ofNat 0), []), (74, .ireturn, []), (75, .iinc 4 (.ofNat 1), []), (78, .goto (-42), [36]), (81, .iconst (.ofNat 1), []), (82, .ireturn, [])]
/-- OneClock$Tape.areSame -/
def am_m86 : am_Info := (7, am_c86, 5, some .boolean, 0)
def am_c87 : List am_Ent := [(0, .iload_n 1, []), (1, .bipush (.ofNat 9), []), (3, .if_icmp .eq 21, [24]), (6, .iload_n 1, []), (7, .bipush (.ofNat 10), []), (9, .if_icmp .eq 15, [24]), (12, .iload_n 1, []), (13, .bipush (.ofNat 13), []), (15, .if_icmp .eq 9, [24]), (18, .iload_n 1, []), (19, .bipush (.ofNat 32), []), (21, .if_icmp .ne 7, [28]), (24, .iconst (.ofNat 1), []), (25, .goto 4, [29]), (28, .iconst (.ofNat 0), []), (29, .ireturn, [])]
/-- OneClock$Tape.isBlank -/
def am_m87 : am_Info := (7, am_c87, 2, some .boolean, 0)
def am_c88 : List am_Ent := [(0, .iload_n 1, []), (1, .bipush (.ofNat 97), []), (3, .if_icmp .lt 13, [16]), (6, .iload_n 1, []), (7, .bipush (.ofNat 122), []), (9, .if_icmp .gt 7, [16]), (12, .iconst (.ofNat 1), []), (13, .goto 4, [17]), (16, .iconst (.ofNat 0), []), (17, .ireturn, [])]
/-- OneClock$Tape.isLetter -/
def am_m88 : am_Info := (7, am_c88, 2, some .boolean, 0)
def am_c89 : List am_Ent := [(0, .iload_n 1, []), (1, .bipush (.ofNat 48), []), (3, .if_icmp .lt 13, [16]), (6, .iload_n 1, []), (7, .bipush (.ofNat 57), []), (9, .if_icmp .gt 7, [16]), (12, .iconst (.ofNat 1), []), (13, .goto 4, [17]), (16, .iconst (.ofNat 0), []), (17, .ireturn, [])]
/-- OneClock$Tape.isDigit -/
def am_m89 : am_Info := (7, am_c89, 2, some .boolean, 0)
def am_c90 : List am_Ent := [(0, .iload_n 1, []), (1, .bipush (.ofNat 59), []), (3, .if_icmp .eq 51, [54]), (6, .iload_n 1, []), (7, .bipush (.ofNat 61), []), (9, .if_icmp .eq 45, [54]), (12, .iload_n 1, []), (13, .bipush (.ofNat 43), []), (15, .if_icmp .eq 39, [54]), (18, .iload_n 1, []), (19, .bipush (.ofNat 45), []), (21, .if_icmp .eq 33, [54]), (24, .iload_n 1, []), (25, .bipush (.ofNat 42), []), (27, .if_icmp .eq 27, [54]), (30, .iload_n 1, []), (31, .bipush (.ofNat 47), []), (33, .if_icmp .eq 21, [54]), (36, .iload_n 1, []), (37, .bipush (.ofNat 60), []), (39, .if_icmp .eq 15, [54]), (42, .iload_n 1, []), (43, .bipush (.ofNat 40), []), (45, .if_icmp .eq 9, [54]), (48, .iload_n 1, []), (49, .bipush (.ofNat 41), []), (51, .if_icmp .ne 7, [58]), (54, .iconst (.ofNat 1), []), (55, .goto 4, [59]), (58, .iconst (.ofNat 0), []), (59, .ireturn, [])]
/-- OneClock$Tape.isSign -/
def am_m90 : am_Info := (7, am_c90, 2, some .boolean, 0)
def am_c91 : List am_Ent := [(0, .aload_n 0, []), (1, .invokespecial 3, [0]), (4, .aload_n 0, []), (5, .iconst (.ofNat 4), []), (6, .newarray .int, []), (8, .putfield 9, [8, 2, 2]), (11, .aload_n 0, []), (12, .iconst (.ofNat 4), []), (13, .newarray .int, []), (15, .putfield 15, [8, 3, 2]), (18, .aload_n 0, []), (19, .bipush (.ofNat 88), []), (21, .newarray .int, []), (23, .putfield 18, [8, 4, 2]), (26, .aload_n 0, []), (27, .aload_n 1, []), (28, .putfield 21, [8, 0, 2]), (31, .aload_n 0, []), (32, .new 25, [4, 1, 1, 1, 1, 1, 1, 0, 0, 0, 0, 0]), (35, .dup, []), (36, .aload_n 1, []), (37, .invokespecial 27, [41, 1, 4]), (40, .putfield 30, [8, 1, 2]), (43, .return_, [])]
/-- OneClock$Witness.<init> -/
def am_m91 : am_Info := (8, am_c91, 2, none, 2)
def am_c92 : List am_Ent := [(0, .aload_n 0, []), (1, .getfield 34, [8, 5]), (4, .iconst (.ofNat 4), []), (5, .if_icmp .lt 5, [10]), (8, .iconst (.negSucc 0), []), (9, .ireturn, []), (10, .aload_n 0, []), (11, .getfield 9, [8, 2]), (14, .aload_n 0, []), (15, .getfield 34, [8, 5]), (18, .iload_n 1, []), (19, .iastore, []), (20, .aload_n 0, []), (21, .getfield 15, [8, 3]), (24, .aload_n 0, []), (25, .getfield 34, [8, 5]), (28, .iload_n 2, []), (29, .iastore, []), (30, .aload_n 0, []), (31, .dup, []), (32, .getfield 34, [8, 5]), (35, .iconst (.ofNat 1), []), (36, .iadd, []), (37, .putfield 34, [8, 5, 0]), (40, .aload_n 0, []), (41, .getfield 34, [8, 5]), (44, .iconst (.ofNat 1), []), (45, .isub, []), (46, .ireturn, [])]
/-- OneClock$Witness.add -/
def am_m92 : am_Info := (8, am_c92, 3, some .int, 0)
def am_c93 : List am_Ent := [(0, .aload_n 0, []), (1, .getfield 30, [8, 1]), (4, .invokevirtual 38, [42, 0, 4]), (7, .aload_n 0, []), (8, .iconst (.ofNat 0), []), (9, .iload_n 1, []), (10, .invokevirtual 41, [94, 2, 8]), (13, .ireturn, [])]
/-- OneClock$Witness.rowsThatFit -/
def am_m93 : am_Info := (8, am_c93, 2, some .int, 5)
def am_c94 : List am_Ent := [(0, .iload_n 1, []), (1, .iload_n 2, []), (2, .if_icmp .ge 8, [10]), (5, .iload_n 1, []), (6, .iconst (.ofNat 4), []), (7, .if_icmp .lt 5, [12]), (10, .iconst (.ofNat 1), []), (11, .ireturn, []), (12, .aload_n 0, []), (13, .getfield 9, [8, 2]), (16, .iload_n 1, []), (17, .iaload, []), (18, .istore_n 3, []), (19, .aload_n 0, []), (20, .getfield 30, [8, 1]), (23, .invokevirtual 45, [48, 0, 4]), (26, .ifCond .ne 14, [40]), (29, .aload_n 0, []), (30, .getfield 30, [8, 1]), (33, .iload_n 3, []), (34, .invokevirtual 49, [46, 1, 4]), (37, .ifCond .ne 5, [42]), (40, .iconst (.ofNat 0), []), (41, .ireturn, []), (42, .aload_n 0, []), (43, .getfield 30, [8, 1]), (46, .aload_n 0, []), (47, .getfield 18, [8, 4]), (50, .iload_n 1, []), (51, .bipush (.ofNat 22), []), (53, .imul, []), (54, .invokevirtual 53, [44, 2, 4]), (57, .iconst (.ofNat 0), []), (58, .istore 4, []), (60, .iconst (.ofNat 0), []), (61, .istore 5, []), (63, .iload 5, []), (65, .aload_n 0, []), (66, .getfield 21, [8, 0]), (69, .getfield 57, [3, 6]), (72, .if_icmp .ge 93, [165]), (75, .aload_n 0, []), (76, .getfield 15, [8, 3]), (79, .iload_n 1, []), (80, .iaload, []), (81, .aload_n 0, []), (82, .getfield 21, [8, 0]), (85, .getfield 62, [3, 2]), (88, .iload 5, []), (90, .iaload, []), (91, .isub, []), (92, .istore 6, []), (94, .aload_n 0, []), (95, .iload_n 3, []), (96, .iload 6, []), (98, .aload_n 0, []), (99, .getfield 15, [8, 3]), (102, .iload_n 1, []), (103, .iaload, []), (104, .invokevirtual 65, [95, 3, 8]), (107, .ifCond .eq 52, [159]), (110, .aload_n 0, []), (111, .getfield 30, [8, 1]), (114, .iload_n 3, []), (115, .iload 6, []), (117, .aload_n 0, []), (118, .getfield 21, [8, 0]), (121, .getfield 62, [3, 2]), (124, .iload 5, []), (126, .iaload, []), (127, .invokevirtual 69, [54, 3, 4]), (130, .pop, []), (131, .iload 4, []), (133, .aload_n 0, []), (134, .iload_n 1, []), (135, .iconst (.ofNat 1), []), (136, .iadd, []), (137, .iload_n 2, []), (138, .invokevirtual 41, [94, 2, 8]), (141, .iadd, []), (142, .istore 4, []), (144, .aload_n 0, []), (145, .getfield 30, [8, 1]), (148, .aload_n 0, []), (149, .getfield 18, [8, 4]), (152, .iload_n 1, []), (153, .bipush (.ofNat 22), []), (155, .imul, []), (156, .invokevirtual 73, [45, 2, 4]), (159, .iinc 5 (.ofNat 1), []), (162, .goto (-99), [63]), (165, .iload 4, []), (167, .ireturn, [])]
/-- OneClock$Witness.rowsFrom -/
def am_m94 : am_Info := (8, am_c94, 7, some .int, 4)
def am_c95 : List am_Ent := [(0, .aload_n 0, []), (1, .getfield 30, [8, 1]), (4, .iload_n 1, []), (5, .invokevirtual 76, [51, 1, 4]), (8, .istore 4, []), (10, .iload_n 2, []), (11, .iload 4, []), (13, .if_icmp .le 18, [31]), (16, .iload_n 2, []), (17, .aload_n 0, []), (18, .getfield 21, [8, 0]), (21, .getfield 80, [3, 8]), (24, .if_icmp .lt 7, [31]), (27, .iconst (.ofNat 1), []), (28, .goto 4, [32]), (31, .iconst (.ofNat 0), []), (32, .istore 5, []), (34, .iload_n 2, []), (35, .iload 4, []), (37, .if_icmp .lt 23, [60]), (40, .iload_n 3, []), (41, .aload_n 0, []), (42, .getfield 21, [8, 0]), (45, .getfield 80, [3, 8]), (48, .if_icmp .gt 12, [60]), (51, .iload 5, []), (53, .ifCond .ne 7, [60]), (56, .iconst (.ofNat 1), []), (57, .goto 4, [61]), (60, .iconst (.ofNat 0), []), (61, .ireturn, [])]
/-- OneClock$Witness.canThink -/
def am_m95 : am_Info := (8, am_c95, 6, some .boolean, 2)
def am_c96 : List am_Ent := [(0, .aload_n 0, []), (1, .invokespecial 3, [0]), (4, .aload_n 0, []), (5, .new 9, [7, 1, 0, 1, 1, 1, 1]), (8, .dup, []), (9, .invokespecial 11, [78, 0, 7]), (12, .putfield 12, [9, 0, 2]), (15, .aload_n 0, []), (16, .new 16, [3, 1, 1, 1, 1, 1, 0, 0, 0, 0, 0]), (19, .dup, []), (20, .invokespecial 18, [35, 0, 3]), (23, .putfield 19, [9, 1, 2]), (26, .aload_n 0, []), (27, .new 16, [3, 1, 1, 1, 1, 1, 0, 0, 0, 0, 0]), (30, .dup, []), (31, .invokespecial 18, [35, 0, 3]), (34, .putfield 23, [9, 2, 2]), (37, .aload_n 0, []), (38, .new 26, [5, 1, 1, 1, 0, 0, 0, 0, 0, 0]), (41, .dup, []), (42, .aload_n 0, []), (43, .getfield 12, [9, 0]), (46, .aload_n 0, []), (47, .getfield 23, [9, 2]), (50, .invokespecial 28, [58, 2, 5]), (53, .putfield 31, [9, 3, 2]), (56, .aload_n 0, []), (57, .new 35, [4, 1, 1, 1, 1, 1, 1, 0, 0, 0, 0, 0]), (60, .dup, []), (61, .aload_n 0, []), (62, .getfield 19, [9, 1]), (65, .invokespecial 37, [41, 1, 4]), (68, .putfield 40, [9, 4, 2]), (71, .aload_n 0, []), (72, .new 44, [1, 1, 1, 1, 1, 1, 1, 0, 0, 0, 0, 1, 1, 0, 0, 1, 0, 0, 0]), (75, .dup, []), (76, .aload_n 0, []), (77, .getfield 19, [9, 1]), (80, .aload_n 0, []), (81, .getfield 40, [9, 4]), (84, .invokespecial 46, [6, 2, 1]), (87, .putfield 49, [9, 5, 2]), (90, .aload_n 0, []), (91, .new 53, [8, 1, 1, 1, 1, 1, 0]), (94, .dup, []), (95, .aload_n 0, []), (96, .getfield 19, [9, 1]), (99, .invokespecial 55, [91, 1, 8]), (102, .putfield 56, [9, 6, 2]), (105, .aload_n 0, []), (106, .new 60, [2, 1, 0, 0]), (109, .dup, []), (110, .invokespecial 62, [31, 0, 2]), (113, .putfield 63, [9, 7, 2]), (116, .aload_n 0, []), (117, .new 67, [6, 1, 1]), (120, .dup, []), (121, .invokespecial 69, [73, 0, 6]), (124, .putfield 70, [9, 8, 2]), (127, .return_, [])]
/-- OneClock.<init> -/
def am_m96 : am_Info := (9, am_c96, 1, none, 3)
def am_c97 : List am_Ent := [(0, .aload_n 0, []), (1, .getfield 12, [9, 0]), (4, .getfield 74, [7, 1]), (7, .bipush (.ofNat 20), []), (9, .iadd, []), (10, .sipush (.ofNat 2000), []), (13, .if_icmp .le 5, [18]), (16, .iconst (.negSucc 0), []), (17, .ireturn, []), (18, .aload_n 0, []), (19, .getfield 12, [9, 0]), (22, .iload_n 1, []), (23, .invokevirtual 78, [79, 1, 7]), (26, .aload_n 0, []), (27, .getfield 12, [9, 0]), (30, .iload_n 2, []), (31, .invokevirtual 78, [79, 1, 7]), (34, .aload_n 0, []), (35, .getfield 12, [9, 0]), (38, .iload_n 3, []), (39, .invokevirtual 78, [79, 1, 7]), (42, .aload_n 0, []), (43, .getfield 12, [9, 0]), (46, .iload 4, []), (48, .invokevirtual 78, [79, 1, 7]), (51, .aload_n 0, []), (52, .getfield 12, [9, 0]), (55, .iload 5, []), (57, .invokevirtual 78, [79, 1, 7]), (60, .aload_n 0, []), (61, .getfield 12, [9, 0]), (64, .getfield 74, [7, 1]), (67, .ireturn, [])]
/-- OneClock.feed -/
def am_m97 : am_Info := (9, am_c97, 6, some .int, 1)
def am_c98 : List am_Ent := [(0, .iload_n 1, []), (1, .ifCond .lt 14, [15]), (4, .iload_n 1, []), (5, .aload_n 0, []), (6, .getfield 12, [9, 0]), (9, .getfield 74, [7, 1]), (12, .if_icmp .le 5, [17]), (15, .iconst (.negSucc 0), []), (16, .ireturn, []), (17, .aload_n 0, []), (18, .getfield 12, [9, 0]), (21, .dup, []), (22, .getfield 74, [7, 1]), (25, .iload_n 1, []), (26, .isub, []), (27, .putfield 74, [7, 1, 0]), (30, .aload_n 0, []), (31, .getfield 12, [9, 0]), (34, .getfield 74, [7, 1]), (37, .ireturn, [])]
/-- OneClock.back -/
def am_m98 : am_Info := (9, am_c98, 2, some .int, 0)
def am_c99 : List am_Ent := [(0, .aload_n 0, []), (1, .getfield 31, [9, 3]), (4, .invokevirtual 82, [59, 0, 5]), (7, .istore_n 1, []), (8, .aload_n 0, []), (9, .getfield 12, [9, 0]), (12, .iconst (.ofNat 0), []), (13, .putfield 74, [7, 1, 0]), (16, .iload_n 1, []), (17, .ifCond .ne 50, [67]), (20, .aload_n 0, []), (21, .getfield 19, [9, 1]), (24, .aload_n 0, []), (25, .getfield 23, [9, 2]), (28, .invokevirtual 86, [39, 1, 3]), (31, .aload_n 0, []), (32, .getfield 40, [9, 4]), (35, .invokevirtual 89, [42, 0, 4]), (38, .aload_n 0, []), (39, .getfield 49, [9, 5]), (42, .invokevirtual 92, [8, 0, 1]), (45, .aload_n 0, []), (46, .getfield 63, [9, 7]), (49, .invokevirtual 95, [34, 0, 2]), (52, .aload_n 0, []), (53, .getfield 70, [9, 8]), (56, .invokevirtual 98, [77, 0, 6]), (59, .aload_n 0, []), (60, .getfield 56, [9, 6]), (63, .iconst (.ofNat 0), []), (64, .putfield 99, [8, 5, 0]), (67, .iload_n 1, []), (68, .ireturn, [])]
/-- OneClock.read -/
def am_m99 : am_Info := (9, am_c99, 2, some .int, 7)
def am_c100 : List am_Ent := [(0, .aload_n 0, []), (1, .getfield 31, [9, 3]), (4, .getfield 102, [5, 6]), (7, .ireturn, [])]
/-- OneClock.place -/
def am_m100 : am_Info := (9, am_c100, 1, some .int, 0)
def am_c101 : List am_Ent := [(0, .aload_n 0, []), (1, .iload_n 1, []), (2, .invokevirtual 105, [127, 1, 9]), (5, .ifCond .ne 5, [10]), (8, .iconst (.negSucc 0), []), (9, .ireturn, []), (10, .iload_n 2, []), (11, .tableswitch 102 (.ofNat 0) 5 #[37, 47, 57, 66, 83, 92], [113, 48, 58, 68, 77, 94, 103]), (48, .aload_n 0, []), (49, .getfield 40, [9, 4]), (52, .getfield 109, [4, 1]), (55, .iload_n 1, []), (56, .iaload, []), (57, .ireturn, []), (58, .aload_n 0, []), (59, .getfield 40, [9, 4]), (62, .getfield 113, [4, 2]), (65, .iload_n 1, []), (66, .iaload, []), (67, .ireturn, []), (68, .aload_n 0, []), (69, .getfield 40, [9, 4]), (72, .iload_n 1, []), (73, .invokevirtual 116, [49, 1, 4]), (76, .ireturn, []), (77, .aload_n 0, []), (78, .getfield 40, [9, 4]), (81, .iload_n 1, []), (82, .invokevirtual 120, [46, 1, 4]), (85, .ifCond .eq 7, [92]), (88, .iconst (.ofNat 1), []), (89, .goto 4, [93]), (92, .iconst (.ofNat 0), []), (93, .ireturn, []), (94, .aload_n 0, []), (95, .getfield 40, [9, 4]), (98, .iload_n 1, []), (99, .invokevirtual 123, [50, 1, 4]), (102, .ireturn, []), (103, .aload_n 0, []), (104, .getfield 40, [9, 4]), (107, .getfield 126, [4, 3]), (110, .iload_n 1, []), (111, .iaload, []), (112, .ireturn, []), (113, .iconst (.negSucc 0), []), (114, .ireturn, [])]
/-- OneClock.board -/
def am_m101 : am_Info := (9, am_c101, 3, some .int, 1)
def am_c102 : List am_Ent := [(0, .aload_n 0, []), (1, .getfield 40, [9, 4]), (4, .getfield 129, [4, 9]), (7, .ireturn, [])]
/-- OneClock.sum -/
def am_m102 : am_Info := (9, am_c102, 1, some .int, 0)
def am_c103 : List am_Ent := [(0, .aload_n 0, []), (1, .iload_n 1, []), (2, .invokevirtual 105, [127, 1, 9]), (5, .ifCond .eq 11, [16]), (8, .aload_n 0, []), (9, .iload_n 2, []), (10, .invokevirtual 132, [128, 1, 9]), (13, .ifCond .ne 5, [18]), (16, .iconst (.negSucc 0), []), (17, .ireturn, []), (18, .aload_n 0, []), (19, .iload_n 1, []), (20, .invokevirtual 135, [133, 1, 9]), (23, .ifCond .ne 5, [28]), (26, .iconst (.ofNat 2), []), (27, .ireturn, []), (28, .aload_n 0, []), (29, .invokevirtual 138, [134, 0, 9]), (32, .aload_n 0, []), (33, .getfield 40, [9, 4]), (36, .iload_n 1, []), (37, .aload_n 0, []), (38, .getfield 40, [9, 4]), (41, .iload_n 1, []), (42, .invokevirtual 141, [51, 1, 4]), (45, .aload_n 0, []), (46, .getfield 19, [9, 1]), (49, .getfield 144, [3, 2]), (52, .iload_n 2, []), (53, .iaload, []), (54, .invokevirtual 147, [54, 3, 4]), (57, .ireturn, [])]
/-- OneClock.move -/
def am_m103 : am_Info := (9, am_c103, 3, some .int, 4)
def am_c104 : List am_Ent := [(0, .aload_n 0, []), (1, .iload_n 1, []), (2, .invokevirtual 105, [127, 1, 9]), (5, .ifCond .ne 5, [10]), (8, .iconst (.negSucc 0), []), (9, .ireturn, []), (10, .aload_n 0, []), (11, .iload_n 1, []), (12, .invokevirtual 135, [133, 1, 9]), (15, .ifCond .ne 5, [20]), (18, .iconst (.ofNat 3), []), (19, .ireturn, []), (20, .aload_n 0, []), (21, .invokevirtual 138, [134, 0, 9]), (24, .aload_n 0, []), (25, .getfield 40, [9, 4]), (28, .iload_n 1, []), (29, .invokevirtual 151, [55, 1, 4]), (32, .ireturn, [])]
/-- OneClock.offer -/
def am_m104 : am_Info := (9, am_c104, 2, some .int, 4)
def am_c105 : List am_Ent := [(0, .aload_n 0, []), (1, .iload_n 1, []), (2, .invokevirtual 105, [127, 1, 9]), (5, .ifCond .eq 11, [16]), (8, .aload_n 0, []), (9, .iload_n 1, []), (10, .invokevirtual 135, [133, 1, 9]), (13, .ifCond .ne 5, [18]), (16, .iconst (.ofNat 0), []), (17, .ireturn, []), (18, .aload_n 0, []), (19, .invokevirtual 138, [134, 0, 9]), (22, .aload_n 0, []), (23, .getfield 40, [9, 4]), (26, .iload_n 1, []), (27, .invokevirtual 154, [56, 1, 4]), (30, .iconst (.ofNat 1), []), (31, .ireturn, [])]
/-- OneClock.drop -/
def am_m105 : am_Info := (9, am_c105, 2, some .boolean, 4)
def am_c106 : List am_Ent := [(0, .iload_n 1, []), (1, .iconst (.ofNat 1), []), (2, .if_icmp .lt 20, [22]), (5, .iload_n 1, []), (6, .sipush (.ofNat 500), []), (9, .if_icmp .gt 13, [22]), (12, .aload_n 0, []), (13, .getfield 40, [9, 4]), (16, .invokevirtual 157, [48, 0, 4]), (19, .ifCond .eq 5, [24]), (22, .iconst (.negSucc 0), []), (23, .ireturn, []), (24, .aload_n 0, []), (25, .invokevirtual 138, [134, 0, 9]), (28, .aload_n 0, []), (29, .getfield 40, [9, 4]), (32, .aload_n 0, []), (33, .getfield 40, [9, 4]), (36, .getfield 161, [4, 7]), (39, .iload_n 1, []), (40, .iadd, []), (41, .aload_n 0, []), (42, .getfield 19, [9, 1]), (45, .getfield 164, [3, 8]), (48, .invokestatic 167, [2]), (51, .putfield 161, [4, 7, 0]), (54, .aload_n 0, []), (55, .getfield 40, [9, 4]), (58, .getfield 161, [4, 7]), (61, .ireturn, [])]
/-- OneClock.pause -/
def am_m106 : am_Info := (9, am_c106, 2, some .int, 3)
def am_c107 : List am_Ent := [(0, .aload_n 0, []), (1, .getfield 49, [9, 5]), (4, .invokevirtual 173, [7, 0, 1]), (7, .aload_n 0, []), (8, .getfield 63, [9, 7]), (11, .aload_n 0, []), (12, .getfield 40, [9, 4]), (15, .invokevirtual 176, [33, 1, 2]), (18, .ireturn, [])]
/-- OneClock.undo -/
def am_m107 : am_Info := (9, am_c107, 1, some .boolean, 2)
def am_c108 : List am_Ent := [(0, .aload_n 0, []), (1, .iload_n 1, []), (2, .invokevirtual 105, [127, 1, 9]), (5, .ifCond .ne 5, [10]), (8, .iconst (.negSucc 0), []), (9, .ireturn, []), (10, .aload_n 0, []), (11, .getfield 40, [9, 4]), (14, .iload_n 1, []), (15, .invokevirtual 120, [46, 1, 4]), (18, .ifCond .eq 14, [32]), (21, .aload_n 0, []), (22, .getfield 40, [9, 4]), (25, .iload_n 1, []), (26, .invokevirtual 141, [51, 1, 4]), (29, .goto 5, [34]), (32, .bipush (.negSucc 1), []), (34, .ireturn, [])]
/-- OneClock.begins -/
def am_m108 : am_Info := (9, am_c108, 2, some .int, 2)
def am_c109 : List am_Ent := [(0, .aload_n 0, []), (1, .iload_n 1, []), (2, .invokevirtual 180, [130, 1, 9]), (5, .ifCond .ne 6, [11]), (8, .ldc 183, [1, 1000000]), (10, .ireturn, []), (11, .aload_n 0, []), (12, .getfield 49, [9, 5]), (15, .iload_n 1, []), (16, .invokevirtual 184, [9, 1, 1]), (19, .aload_n 0, []), (20, .getfield 49, [9, 5]), (23, .getfield 187, [1, 7]), (26, .ireturn, [])]
/-- OneClock.best -/
def am_m109 : am_Info := (9, am_c109, 2, some .int, 7)
def am_c110 : List am_Ent := [(0, .aload_n 0, []), (1, .iload_n 1, []), (2, .invokevirtual 180, [130, 1, 9]), (5, .ifCond .eq 7, [12]), (8, .iload_n 2, []), (9, .ifCond .ge 5, [14]), (12, .iconst (.negSucc 0), []), (13, .ireturn, []), (14, .aload_n 0, []), (15, .getfield 49, [9, 5]), (18, .iload_n 1, []), (19, .invokevirtual 184, [9, 1, 1]), (22, .iload_n 2, []), (23, .aload_n 0, []), (24, .getfield 49, [9, 5]), (27, .getfield 190, [1, 6]), (30, .if_icmp .ge 15, [45]), (33, .aload_n 0, []), (34, .getfield 49, [9, 5]), (37, .getfield 193, [1, 5]), (40, .iload_n 2, []), (41, .iaload, []), (42, .goto 5, [47]), (45, .bipush (.negSucc 1), []), (47, .ireturn, [])]
/-- OneClock.bestAt -/
def am_m110 : am_Info := (9, am_c110, 3, some .int, 7)
def am_c111 : List am_Ent := [(0, .aload_n 0, []), (1, .iload_n 1, []), (2, .iload_n 2, []), (3, .invokevirtual 196, [129, 2, 9]), (6, .ifCond .eq 11, [17]), (9, .aload_n 0, []), (10, .iload_n 3, []), (11, .invokevirtual 200, [132, 1, 9]), (14, .ifCond .ne 6, [20]), (17, .ldc 183, [1, 1000000]), (19, .ireturn, []), (20, .aload_n 0, []), (21, .getfield 49, [9, 5]), (24, .iload_n 1, []), (25, .aload_n 0, []), (26, .getfield 19, [9, 1]), (29, .getfield 144, [3, 2]), (32, .iload_n 2, []), (33, .iaload, []), (34, .invokevirtual 203, [13, 2, 1]), (37, .iload_n 3, []), (38, .ifCond .ne 13, [51]), (41, .aload_n 0, []), (42, .getfield 49, [9, 5]), (45, .getfield 207, [1, 15]), (48, .goto 10, [58]), (51, .aload_n 0, []), (52, .getfield 49, [9, 5]), (55, .getfield 208, [1, 16]), (58, .ireturn, [])]
/-- OneClock.rule -/
def am_m111 : am_Info := (9, am_c111, 4, some .int, 6)
def am_c112 : List am_Ent := [(0, .iload_n 1, []), (1, .ifCond .lt 8, [9]), (4, .iload_n 1, []), (5, .iconst (.ofNat 2), []), (6, .if_icmp .le 6, [12]), (9, .ldc 183, [1, 1000000]), (11, .ireturn, []), (12, .aload_n 0, []), (13, .getfield 49, [9, 5]), (16, .invokevirtual 211, [14, 0, 1]), (19, .iload_n 1, []), (20, .iconst (.ofNat 2), []), (21, .if_icmp .ne 11, [32]), (24, .aload_n 0, []), (25, .getfield 49, [9, 5]), (28, .getfield 207, [1, 15]), (31, .ireturn, []), (32, .iload_n 1, []), (33, .ifCond .ne 15, [48]), (36, .aload_n 0, []), (37, .getfield 49, [9, 5]), (40, .getfield 208, [1, 16]), (43, .iconst (.ofNat 4), []), (44, .idiv, []), (45, .goto 12, [57]), (48, .aload_n 0, []), (49, .getfield 49, [9, 5]), (52, .getfield 208, [1, 16]), (55, .iconst (.ofNat 4), []), (56, .irem, []), (57, .ireturn, [])]
/-- OneClock.bestRule -/
def am_m112 : am_Info := (9, am_c112, 2, some .int, 6)
def am_c113 : List am_Ent := [(0, .aload_n 0, []), (1, .iload_n 1, []), (2, .iload_n 2, []), (3, .invokevirtual 196, [129, 2, 9]), (6, .ifCond .eq 11, [17]), (9, .aload_n 0, []), (10, .iload_n 3, []), (11, .invokevirtual 200, [132, 1, 9]), (14, .ifCond .ne 6, [20]), (17, .ldc 183, [1, 1000000]), (19, .ireturn, []), (20, .aload_n 0, []), (21, .getfield 49, [9, 5]), (24, .iload_n 1, []), (25, .aload_n 0, []), (26, .getfield 19, [9, 1]), (29, .getfield 144, [3, 2]), (32, .iload_n 2, []), (33, .iaload, []), (34, .invokevirtual 214, [15, 2, 1]), (37, .iload_n 3, []), (38, .ifCond .ne 13, [51]), (41, .aload_n 0, []), (42, .getfield 49, [9, 5]), (45, .getfield 207, [1, 15]), (48, .goto 10, [58]), (51, .aload_n 0, []), (52, .getfield 49, [9, 5]), (55, .getfield 208, [1, 16]), (58, .ireturn, [])]
/-- OneClock.dropBest -/
def am_m113 : am_Info := (9, am_c113, 4, some .int, 6)
def am_c114 : List am_Ent := [(0, .aload_n 0, []), (1, .iload_n 1, []), (2, .iload_n 2, []), (3, .invokevirtual 196, [129, 2, 9]), (6, .ifCond .eq 11, [17]), (9, .aload_n 0, []), (10, .iload_n 3, []), (11, .invokevirtual 200, [132, 1, 9]), (14, .ifCond .ne 6, [20]), (17, .ldc 183, [1, 1000000]), (19, .ireturn, []), (20, .aload_n 0, []), (21, .getfield 49, [9, 5]), (24, .iload_n 1, []), (25, .aload_n 0, []), (26, .getfield 19, [9, 1]), (29, .getfield 144, [3, 2]), (32, .iload_n 2, []), (33, .iaload, []), (34, .invokevirtual 217, [19, 2, 1]), (37, .iload_n 3, []), (38, .ifCond .ne 13, [51]), (41, .aload_n 0, []), (42, .getfield 49, [9, 5]), (45, .getfield 207, [1, 15]), (48, .goto 10, [58]), (51, .aload_n 0, []), (52, .getfield 49, [9, 5]), (55, .getfield 208, [1, 16]), (58, .ireturn, [])]
/-- OneClock.offerBest -/
def am_m114 : am_Info := (9, am_c114, 4, some .int, 6)
def am_c115 : List am_Ent := [(0, .aload_n 0, []), (1, .iload_n 1, []), (2, .invokevirtual 105, [127, 1, 9]), (5, .ifCond .eq 12, [17]), (8, .aload_n 0, []), (9, .iload_n 2, []), (10, .iload_n 3, []), (11, .invokevirtual 196, [129, 2, 9]), (14, .ifCond .ne 6, [20]), (17, .ldc 183, [1, 1000000]), (19, .ireturn, []), (20, .aload_n 0, []), (21, .getfield 49, [9, 5]), (24, .iload_n 1, []), (25, .iload_n 2, []), (26, .aload_n 0, []), (27, .getfield 19, [9, 1]), (30, .getfield 144, [3, 2]), (33, .iload_n 3, []), (34, .iaload, []), (35, .invokevirtual 220, [20, 3, 1]), (38, .ireturn, [])]
/-- OneClock.haste -/
def am_m115 : am_Info := (9, am_c115, 4, some .int, 7)
def am_c116 : List am_Ent := [(0, .aload_n 0, []), (1, .iload_n 1, []), (2, .invokevirtual 105, [127, 1, 9]), (5, .ifCond .eq 12, [17]), (8, .aload_n 0, []), (9, .iload_n 2, []), (10, .iload_n 3, []), (11, .invokevirtual 196, [129, 2, 9]), (14, .ifCond .ne 6, [20]), (17, .ldc 183, [1, 1000000]), (19, .ireturn, []), (20, .aload_n 0, []), (21, .iload_n 1, []), (22, .invokevirtual 135, [133, 1, 9]), (25, .ifCond .eq 24, [49]), (28, .aload_n 0, []), (29, .getfield 49, [9, 5]), (32, .iload_n 1, []), (33, .iload_n 2, []), (34, .aload_n 0, []), (35, .getfield 19, [9, 1]), (38, .getfield 144, [3, 2]), (41, .iload_n 3, []), (42, .iaload, []), (43, .invokevirtual 223, [21, 3, 1]), (46, .goto 5, [51]), (49, .bipush (.negSucc 1), []), (51, .ireturn, [])]
/-- OneClock.spare -/
def am_m116 : am_Info := (9, am_c116, 4, some .int, 6)
def am_c117 : List am_Ent := [(0, .aload_n 0, []), (1, .iload_n 1, []), (2, .invokevirtual 105, [127, 1, 9]), (5, .ifCond .eq 35, [40]), (8, .aload_n 0, []), (9, .iload_n 2, []), (10, .invokevirtual 105, [127, 1, 9]), (13, .ifCond .eq 27, [40]), (16, .iload_n 1, []), (17, .iload_n 2, []), (18, .if_icmp .eq 22, [40]), (21, .aload_n 0, []), (22, .iload_n 3, []), (23, .iload 4, []), (25, .invokevirtual 196, [129, 2, 9]), (28, .ifCond .eq 12, [40]), (31, .aload_n 0, []), (32, .iload 5, []), (34, .invokevirtual 200, [132, 1, 9]), (37, .ifCond .ne 6, [43]), (40, .ldc 183, [1, 1000000]), (42, .ireturn, []), (43, .aload_n 0, []), (44, .getfield 49, [9, 5]), (47, .iload_n 1, []), (48, .iload_n 2, []), (49, .iload_n 3, []), (50, .aload_n 0, []), (51, .getfield 19, [9, 1]), (54, .getfield 144, [3, 2]), (57, .iload 4, []), (59, .iaload, []), (60, .invokevirtual 226, [22, 4, 1]), (63, .iload 5, []), (65, .ifCond .ne 13, [78]), (68, .aload_n 0, []), (69, .getfield 49, [9, 5]), (72, .getfield 207, [1, 15]), (75, .goto 10, [85]), (78, .aload_n 0, []), (79, .getfield 49, [9, 5]), (82, .getfield 208, [1, 16]), (85, .ireturn, [])]
/-- OneClock.agreed -/
def am_m117 : am_Info := (9, am_c117, 6, some .int, 6)
def am_c118 : List am_Ent := [(0, .aload_n 0, []), (1, .iload_n 1, []), (2, .iload_n 2, []), (3, .invokevirtual 196, [129, 2, 9]), (6, .ifCond .eq 13, [19]), (9, .aload_n 0, []), (10, .getfield 19, [9, 1]), (13, .getfield 230, [3, 5]), (16, .ifCond .ne 6, [22]), (19, .ldc 183, [1, 1000000]), (21, .ireturn, []), (22, .aload_n 0, []), (23, .getfield 49, [9, 5]), (26, .iload_n 1, []), (27, .aload_n 0, []), (28, .getfield 19, [9, 1]), (31, .getfield 144, [3, 2]), (34, .iload_n 2, []), (35, .iaload, []), (36, .invokevirtual 233, [23, 2, 1]), (39, .aload_n 0, []), (40, .getfield 49, [9, 5]), (43, .getfield 236, [1, 12]), (46, .ireturn, [])]
/-- OneClock.seats -/
def am_m118 : am_Info := (9, am_c118, 3, some .int, 6)
def am_c119 : List am_Ent := [(0, .aload_n 0, []), (1, .iload_n 1, []), (2, .iload_n 2, []), (3, .invokevirtual 196, [129, 2, 9]), (6, .ifCond .eq 11, [17]), (9, .aload_n 0, []), (10, .iload_n 3, []), (11, .invokevirtual 105, [127, 1, 9]), (14, .ifCond .ne 5, [19]), (17, .iconst (.negSucc 0), []), (18, .ireturn, []), (19, .aload_n 0, []), (20, .getfield 49, [9, 5]), (23, .iload_n 1, []), (24, .aload_n 0, []), (25, .getfield 19, [9, 1]), (28, .getfield 144, [3, 2]), (31, .iload_n 2, []), (32, .iaload, []), (33, .invokevirtual 233, [23, 2, 1]), (36, .aload_n 0, []), (37, .getfield 49, [9, 5]), (40, .getfield 239, [1, 11]), (43, .iload_n 3, []), (44, .iaload, []), (45, .ireturn, [])]
/-- OneClock.seatAt -/
def am_m119 : am_Info := (9, am_c119, 4, some .int, 6)
def am_c120 : List am_Ent := [(0, .aload_n 0, []), (1, .iload_n 1, []), (2, .iload_n 2, []), (3, .invokevirtual 196, [129, 2, 9]), (6, .ifCond .eq 11, [17]), (9, .aload_n 0, []), (10, .iload_n 3, []), (11, .invokevirtual 200, [132, 1, 9]), (14, .ifCond .ne 6, [20]), (17, .ldc 183, [1, 1000000]), (19, .ireturn, []), (20, .aload_n 0, []), (21, .getfield 49, [9, 5]), (24, .iload_n 1, []), (25, .aload_n 0, []), (26, .getfield 19, [9, 1]), (29, .getfield 144, [3, 2]), (32, .iload_n 2, []), (33, .iaload, []), (34, .invokevirtual 242, [26, 2, 1]), (37, .iload_n 3, []), (38, .ifCond .ne 13, [51]), (41, .aload_n 0, []), (42, .getfield 49, [9, 5]), (45, .getfield 207, [1, 15]), (48, .goto 10, [58]), (51, .aload_n 0, []), (52, .getfield 49, [9, 5]), (55, .getfield 208, [1, 16]), (58, .ireturn, [])]
/-- OneClock.shared -/
def am_m120 : am_Info := (9, am_c120, 4, some .int, 7)
def am_c121 : List am_Ent := [(0, .aload_n 0, []), (1, .iload_n 1, []), (2, .invokevirtual 105, [127, 1, 9]), (5, .ifCond .eq 25, [30]), (8, .iload_n 2, []), (9, .ifCond .lt 21, [30]), (12, .iload_n 2, []), (13, .sipush (.ofNat 500), []), (16, .if_icmp .gt 14, [30]), (19, .aload_n 0, []), (20, .getfield 56, [9, 6]), (23, .getfield 99, [8, 5]), (26, .iconst (.ofNat 4), []), (27, .if_icmp .lt 5, [32]), (30, .iconst (.negSucc 0), []), (31, .ireturn, []), (32, .aload_n 0, []), (33, .getfield 56, [9, 6]), (36, .iload_n 1, []), (37, .iload_n 2, []), (38, .invokevirtual 245, [92, 2, 8]), (41, .ireturn, [])]
/-- OneClock.tell -/
def am_m121 : am_Info := (9, am_c121, 3, some .int, 1)
def am_c122 : List am_Ent := [(0, .aload_n 0, []), (1, .getfield 56, [9, 6]), (4, .getfield 99, [8, 5]), (7, .istore_n 1, []), (8, .aload_n 0, []), (9, .getfield 56, [9, 6]), (12, .iconst (.ofNat 0), []), (13, .putfield 99, [8, 5, 0]), (16, .iload_n 1, []), (17, .ireturn, [])]
/-- OneClock.forget -/
def am_m122 : am_Info := (9, am_c122, 2, some .int, 0)
def am_c123 : List am_Ent := [(0, .iload_n 1, []), (1, .ifCond .lt 14, [15]), (4, .iload_n 1, []), (5, .aload_n 0, []), (6, .getfield 56, [9, 6]), (9, .getfield 99, [8, 5]), (12, .if_icmp .le 5, [17]), (15, .iconst (.negSucc 0), []), (16, .ireturn, []), (17, .aload_n 0, []), (18, .getfield 56, [9, 6]), (21, .iload_n 1, []), (22, .invokevirtual 248, [93, 1, 8]), (25, .ireturn, [])]
/-- OneClock.fits -/
def am_m123 : am_Info := (9, am_c123, 2, some .int, 6)
def am_c124 : List am_Ent := [(0, .aload_n 0, []), (1, .iload_n 1, []), (2, .invokevirtual 251, [131, 1, 9]), (5, .ifCond .ne 5, [10]), (8, .iconst (.ofNat 0), []), (9, .ireturn, []), (10, .aload_n 0, []), (11, .getfield 70, [9, 8]), (14, .iload_n 1, []), (15, .aload_n 0, []), (16, .getfield 40, [9, 4]), (19, .invokevirtual 254, [74, 2, 6]), (22, .iconst (.ofNat 1), []), (23, .ireturn, [])]
/-- OneClock.hold -/
def am_m124 : am_Info := (9, am_c124, 2, some .boolean, 2)
def am_c125 : List am_Ent := [(0, .aload_n 0, []), (1, .iload_n 1, []), (2, .invokevirtual 251, [131, 1, 9]), (5, .ifCond .eq 15, [20]), (8, .aload_n 0, []), (9, .getfield 70, [9, 8]), (12, .getfield 258, [6, 1]), (15, .iload_n 1, []), (16, .baload, []), (17, .ifCond .ne 5, [22]), (20, .iconst (.ofNat 0), []), (21, .ireturn, []), (22, .aload_n 0, []), (23, .getfield 70, [9, 8]), (26, .iload_n 1, []), (27, .aload_n 0, []), (28, .getfield 40, [9, 4]), (31, .invokevirtual 262, [75, 2, 6]), (34, .aload_n 0, []), (35, .getfield 49, [9, 5]), (38, .invokevirtual 173, [7, 0, 1]), (41, .aload_n 0, []), (42, .getfield 63, [9, 7]), (45, .invokevirtual 95, [34, 0, 2]), (48, .iconst (.ofNat 1), []), (49, .ireturn, [])]
/-- OneClock.restore -/
def am_m125 : am_Info := (9, am_c125, 2, some .boolean, 2)
def am_c126 : List am_Ent := [(0, .iload_n 1, []), (1, .tableswitch 214 (.ofNat 0) 13 #[71, 79, 87, 110, 118, 126, 134, 142, 150, 166, 182, 190, 198, 206], [215, 72, 80, 88, 111, 119, 127, 135, 143, 151, 167, 183, 191, 199, 207]), (72, .aload_n 0, []), (73, .getfield 19, [9, 1]), (76, .getfield 230, [3, 5]), (79, .ireturn, []), (80, .aload_n 0, []), (81, .getfield 40, [9, 4]), (84, .getfield 161, [4, 7]), (87, .ireturn, []), (88, .aload_n 0, []), (89, .getfield 19, [9, 1]), (92, .getfield 230, [3, 5]), (95, .ifCond .ne 8, [103]), (98, .bipush (.negSucc 1), []), (100, .goto 10, [110]), (103, .aload_n 0, []), (104, .getfield 40, [9, 4]), (107, .getfield 265, [4, 8]), (110, .ireturn, []), (111, .aload_n 0, []), (112, .getfield 19, [9, 1]), (115, .getfield 164, [3, 8]), (118, .ireturn, []), (119, .aload_n 0, []), (120, .getfield 19, [9, 1]), (123, .getfield 268, [3, 7]), (126, .ireturn, []), (127, .aload_n 0, []), (128, .getfield 19, [9, 1]), (131, .getfield 271, [3, 9]), (134, .ireturn, []), (135, .aload_n 0, []), (136, .getfield 19, [9, 1]), (139, .getfield 274, [3, 6]), (142, .ireturn, []), (143, .aload_n 0, []), (144, .getfield 40, [9, 4]), (147, .invokevirtual 277, [47, 0, 4]), (150, .ireturn, []), (151, .aload_n 0, []), (152, .getfield 40, [9, 4]), (155, .invokevirtual 157, [48, 0, 4]), (158, .ifCond .eq 7, [165]), (161, .iconst (.ofNat 1), []), (162, .goto 4, [166]), (165, .iconst (.ofNat 0), []), (166, .ireturn, []), (167, .aload_n 0, []), (168, .getfield 40, [9, 4]), (171, .getfield 280, [4, 10]), (174, .ifCond .eq 7, [181]), (177, .iconst (.ofNat 1), []), (178, .goto 4, [182]), (181, .iconst (.ofNat 0), []), (182, .ireturn, []), (183, .aload_n 0, []), (184, .getfield 12, [9, 0]), (187, .getfield 74, [7, 1]), (190, .ireturn, []), (191, .aload_n 0, []), (192, .getfield 63, [9, 7]), (195, .getfield 284, [2, 2]), (198, .ireturn, []), (199, .aload_n 0, []), (200, .getfield 56, [9, 6]), (203, .getfield 99, [8, 5]), (206, .ireturn, []), (207, .aload_n 0, []), (208, .getfield 70, [9, 8]), (211, .invokevirtual 285, [76, 0, 6]), (214, .ireturn, []), (215, .iconst (.negSucc 0), []), (216, .ireturn, [])]
/-- OneClock.count -/
def am_m126 : am_Info := (9, am_c126, 2, some .int, 3)
def am_c127 : List am_Ent := [(0, .iload_n 1, []), (1, .ifCond .lt 18, [19]), (4, .iload_n 1, []), (5, .aload_n 0, []), (6, .getfield 19, [9, 1]), (9, .getfield 230, [3, 5]), (12, .if_icmp .ge 7, [19]), (15, .iconst (.ofNat 1), []), (16, .goto 4, [20]), (19, .iconst (.ofNat 0), []), (20, .ireturn, [])]
/-- OneClock.isBoard -/
def am_m127 : am_Info := (9, am_c127, 2, some .boolean, 0)
def am_c128 : List am_Ent := [(0, .iload_n 1, []), (1, .ifCond .lt 18, [19]), (4, .iload_n 1, []), (5, .aload_n 0, []), (6, .getfield 19, [9, 1]), (9, .getfield 274, [3, 6]), (12, .if_icmp .ge 7, [19]), (15, .iconst (.ofNat 1), []), (16, .goto 4, [20]), (19, .iconst (.ofNat 0), []), (20, .ireturn, [])]
/-- OneClock.isThink -/
def am_m128 : am_Info := (9, am_c128, 2, some .boolean, 0)
def am_c129 : List am_Ent := [(0, .iload_n 1, []), (1, .ifCond .lt 20, [21]), (4, .iload_n 1, []), (5, .iconst (.ofNat 4), []), (6, .if_icmp .ge 15, [21]), (9, .aload_n 0, []), (10, .iload_n 2, []), (11, .invokevirtual 132, [128, 1, 9]), (14, .ifCond .eq 7, [21]), (17, .iconst (.ofNat 1), []), (18, .goto 4, [22]), (21, .iconst (.ofNat 0), []), (22, .ireturn, [])]
/-- OneClock.isRule -/
def am_m129 : am_Info := (9, am_c129, 3, some .boolean, 1)
def am_c130 : List am_Ent := [(0, .iload_n 1, []), (1, .iconst (.ofNat 1), []), (2, .if_icmp .lt 12, [14]), (5, .iload_n 1, []), (6, .iconst (.ofNat 4), []), (7, .if_icmp .gt 7, [14]), (10, .iconst (.ofNat 1), []), (11, .goto 4, [15]), (14, .iconst (.ofNat 0), []), (15, .ireturn, [])]
/-- OneClock.isDepth -/
def am_m130 : am_Info := (9, am_c130, 2, some .boolean, 0)
def am_c131 : List am_Ent := [(0, .iload_n 1, []), (1, .ifCond .lt 12, [13]), (4, .iload_n 1, []), (5, .iconst (.ofNat 3), []), (6, .if_icmp .ge 7, [13]), (9, .iconst (.ofNat 1), []), (10, .goto 4, [14]), (13, .iconst (.ofNat 0), []), (14, .ireturn, [])]
/-- OneClock.isSlot -/
def am_m131 : am_Info := (9, am_c131, 2, some .boolean, 0)
def am_c132 : List am_Ent := [(0, .iload_n 1, []), (1, .ifCond .eq 8, [9]), (4, .iload_n 1, []), (5, .iconst (.ofNat 1), []), (6, .if_icmp .ne 7, [13]), (9, .iconst (.ofNat 1), []), (10, .goto 4, [14]), (13, .iconst (.ofNat 0), []), (14, .ireturn, [])]
/-- OneClock.isHalf -/
def am_m132 : am_Info := (9, am_c132, 2, some .boolean, 0)
def am_c133 : List am_Ent := [(0, .aload_n 0, []), (1, .getfield 40, [9, 4]), (4, .iload_n 1, []), (5, .invokevirtual 120, [46, 1, 4]), (8, .ifCond .eq 17, [25]), (11, .aload_n 0, []), (12, .getfield 40, [9, 4]), (15, .invokevirtual 157, [48, 0, 4]), (18, .ifCond .ne 7, [25]), (21, .iconst (.ofNat 1), []), (22, .goto 4, [26]), (25, .iconst (.ofNat 0), []), (26, .ireturn, [])]
/-- OneClock.canPlay -/
def am_m133 : am_Info := (9, am_c133, 2, some .boolean, 3)
def am_c134 : List am_Ent := [(0, .aload_n 0, []), (1, .getfield 63, [9, 7]), (4, .aload_n 0, []), (5, .getfield 40, [9, 4]), (8, .invokevirtual 288, [32, 1, 2]), (11, .aload_n 0, []), (12, .getfield 49, [9, 5]), (15, .invokevirtual 173, [7, 0, 1]), (18, .return_, [])]
/-- OneClock.noteWhatStands -/
def am_m134 : am_Info := (9, am_c134, 1, none, 2)
def am_c135 : List am_Ent := [(0, .aload_n 0, []), (1, .invokespecial 7, [0]), (4, .aload_n 0, []), (5, .sipush (.ofNat 2000), []), (8, .newarray .byte, []), (10, .putfield 13, [10, 1, 2]), (13, .aload_n 0, []), (14, .sipush (.ofNat 2000), []), (17, .newarray .byte, []), (19, .putfield 17, [10, 3, 2]), (22, .aload_n 0, []), (23, .sipush (.ofNat 403), []), (26, .newarray .int, []), (28, .putfield 20, [10, 5, 2]), (31, .aload_n 0, []), (32, .sipush (.ofNat 403), []), (35, .newarray .int, []), (37, .putfield 24, [10, 6, 2]), (40, .aload_n 0, []), (41, .sipush (.ofNat 403), []), (44, .newarray .int, []), (46, .putfield 27, [10, 7, 2]), (49, .aload_n 0, []), (50, .sipush (.ofNat 403), []), (53, .newarray .long, []), (55, .putfield 30, [10, 8, 2]), (58, .aload_n 0, []), (59, .bipush (.ofNat 17), []), (61, .newarray .long, []), (63, .putfield 34, [10, 9, 2]), (66, .aload_n 0, []), (67, .iconst (.negSucc 0), []), (68, .putfield 37, [10, 17, 0]), (71, .aload_n 0, []), (72, .bipush (.ofNat 6), []), (74, .newarray .long, []), (76, .putfield 40, [10, 21, 2]), (79, .aload_n 0, []), (80, .iconst (.ofNat 2), []), (81, .newarray .int, []), (83, .putfield 43, [10, 22, 2]), (86, .aload_n 0, []), (87, .bipush (.ofNat 12), []), (89, .newarray .int, []), (91, .putfield 46, [10, 23, 2]), (94, .aload_n 0, []), (95, .bipush (.ofNat 12), []), (97, .newarray .int, []), (99, .putfield 49, [10, 24, 2]), (102, .aload_n 0, []), (103, .iconst (.ofNat 2), []), (104, .newarray .int, []), (106, .putfield 52, [10, 25, 2]), (109, .aload_n 0, []), (110, .bipush (.ofNat 8), []), (112, .newarray .int, []), (114, .putfield 55, [10, 26, 2]), (117, .aload_n 0, []), (118, .iconst (.ofNat 2), []), (119, .newarray .int, []), (121, .putfield 58, [10, 27, 2]), (124, .aload_n 0, []), (125, .iconst (.ofNat 2), []), (126, .newarray .int, []), (128, .putfield 61, [10, 28, 2]), (131, .aload_n 0, []), (132, .iconst (.ofNat 2), []), (133, .newarray .int, []), (135, .putfield 64, [10, 29, 2]), (138, .aload_n 0, []), (139, .bipush (.ofNat 36), []), (141, .newarray .int, []), (143, .putfield 67, [10, 30, 2]), (146, .aload_n 0, []), (147, .bipush (.ofNat 36), []), (149, .newarray .int, []), (151, .putfield 70, [10, 31, 2]), (154, .aload_n 0, []), (155, .sipush (.ofNat 260), []), (158, .newarray .boolean, []), (160, .putfield 73, [10, 33, 2]), (163, .aload_n 0, []), (164, .sipush (.ofNat 260), []), (167, .newarray .int, []), (169, .putfield 77, [10, 34, 2]), (172, .aload_n 0, []), (173, .sipush (.ofNat 260), []), (176, .newarray .int, []), (178, .putfield 80, [10, 35, 2]), (181, .aload_n 0, []), (182, .sipush (.ofNat 260), []), (185, .newarray .int, []), (187, .putfield 83, [10, 36, 2]), (190, .aload_n 0, []), (191, .sipush (.ofNat 260), []), (194, .newarray .int, []), (196, .putfield 86, [10, 37, 2]), (199, .aload_n 0, []), (200, .sipush (.ofNat 840), []), (203, .newarray .int, []), (205, .putfield 89, [10, 39, 2]), (208, .aload_n 0, []), (209, .sipush (.ofNat 840), []), (212, .newarray .int, []), (214, .putfield 92, [10, 40, 2]), (217, .aload_n 0, []), (218, .bipush (.ofNat 64), []), (220, .newarray .int, []), (222, .putfield 95, [10, 41, 2]), (225, .aload_n 0, []), (226, .bipush (.ofNat 6), []), (228, .newarray .int, []), (230, .putfield 98, [10, 43, 2]), (233, .aload_n 0, []), (234, .sipush (.ofNat 400), []), (237, .newarray .int, []), (239, .putfield 101, [10, 44, 2]), (242, .aload_n 0, []), (243, .bipush (.ofNat 40), []), (245, .newarray .int, []), (247, .putfield 104, [10, 46, 2]), (250, .aload_n 0, []), (251, .bipush (.ofNat 40), []), (253, .newarray .int, []), (255, .putfield 107, [10, 47, 2]), (258, .aload_n 0, []), (259, .bipush (.ofNat 6), []), (261, .newarray .int, []), (263, .putfield 110, [10, 48, 2]), (266, .aload_n 0, []), (267, .sipush (.ofNat 2000), []), (270, .newarray .int, []), (272, .putfield 113, [10, 51, 2]), (275, .aload_n 0, []), (276, .iconst (.ofNat 4), []), (277, .newarray .int, []), (279, .putfield 116, [10, 52, 2]), (282, .aload_n 0, []), (283, .iconst (.ofNat 4), []), (284, .newarray .int, []), (286, .putfield 119, [10, 53, 2]), (289, .aload_n 0, []), (290, .iconst (.ofNat 4), []), (291, .newarray .int, []), (293, .putfield 122, [10, 54, 2]), (296, .aload_n 0, []), (297, .iconst (.ofNat 4), []), (298, .newarray .int, []), (300, .putfield 125, [10, 55, 2]), (303, .aload_n 0, []), (304, .sipush (.ofNat 160), []), (307, .newarray .int, []), (309, .putfield 128, [10, 56, 2]), (312, .aload_n 0, []), (313, .bipush (.ofNat 6), []), (315, .newarray .int, []), (317, .putfield 131, [10, 60, 2]), (320, .aload_n 0, []), (321, .bipush (.ofNat 6), []), (323, .newarray .int, []), (325, .putfield 134, [10, 61, 2]), (328, .aload_n 0, []), (329, .iconst (.ofNat 4), []), (330, .newarray .int, []), (332, .putfield 137, [10, 63, 2]), (335, .aload_n 0, []), (336, .iconst (.ofNat 4), []), (337, .newarray .int, []), (339, .putfield 140, [10, 64, 2]), (342, .aload_n 0, []), (343, .iconst (.ofNat 3), []), (344, .newarray .boolean, []), (346, .putfield 143, [10, 65, 2]), (349, .aload_n 0, []), (350, .bipush (.ofNat 120), []), (352, .newarray .int, []), (354, .putfield 146, [10, 66, 2]), (357, .aload_n 0, []), (358, .iconst (.ofNat 0), []), (359, .invokevirtual 149, [152, 1, 10]), (362, .aload_n 0, []), (363, .getfield 34, [10, 9]), (366, .iconst (.ofNat 0), []), (367, .bipush (.ofNat 98), []), (369, .bipush (.ofNat 111), []), (371, .bipush (.ofNat 97), []), (373, .bipush (.ofNat 114), []), (375, .bipush (.ofNat 100), []), (377, .iconst (.ofNat 0), []), (378, .iconst (.ofNat 0), []), (379, .invokestatic 153, [143, 7]), (382, .lastore, []), (383, .aload_n 0, []), (384, .getfield 34, [10, 9]), (387, .iconst (.ofNat 1), []), (388, .bipush (.ofNat 119), []), (390, .bipush (.ofNat 111), []), (392, .bipush (.ofNat 114), []), (394, .bipush (.ofNat 116), []), (396, .bipush (.ofNat 104), []), (398, .iconst (.ofNat 0), []), (399, .iconst (.ofNat 0), []), (400, .invokestatic 153, [143, 7]), (403, .lastore, []), (404, .aload_n 0, []), (405, .getfield 34, [10, 9]), (408, .iconst (.ofNat 2), []), (409, .bipush (.ofNat 97), []), (411, .bipush (.ofNat 110), []), (413, .bipush (.ofNat 115), []), (415, .bipush (.ofNat 119), []), (417, .bipush (.ofNat 101), []), (419, .bipush (.ofNat 114), []), (421, .iconst (.ofNat 0), []), (422, .invokestatic 153, [143, 7]), (425, .lastore, []), (426, .aload_n 0, []), (427, .getfield 34, [10, 9]), (430, .iconst (.ofNat 3), []), (431, .bipush (.ofNat 100), []), (433, .bipush (.ofNat 114), []), (435, .bipush (.ofNat 97), []), (437, .bipush (.ofNat 119), []), (439, .iconst (.ofNat 0), []), (440, .iconst (.ofNat 0), []), (441, .iconst (.ofNat 0), []), (442, .invokestatic 153, [143, 7]), (445, .lastore, []), (446, .aload_n 0, []), (447, .getfield 34, [10, 9]), (450, .iconst (.ofNat 4), []), (451, .bipush (.ofNat 116), []), (453, .bipush (.ofNat 104), []), (455, .bipush (.ofNat 105), []), (457, .bipush (.ofNat 110), []), (459, .bipush (.ofNat 107), []), (461, .bipush (.ofNat 115), []), (463, .iconst (.ofNat 0), []), (464, .invokestatic 153, [143, 7]), (467, .lastore, []), (468, .aload_n 0, []), (469, .getfield 34, [10, 9]), (472, .iconst (.ofNat 5), []), (473, .bipush (.ofNat 115), []), (475, .bipush (.ofNat 116), []), (477, .bipush (.ofNat 101), []), (479, .bipush (.ofNat 112), []), (481, .iconst (.ofNat 0), []), (482, .iconst (.ofNat 0), []), (483, .iconst (.ofNat 0), []), (484, .invokestatic 153, [143, 7]), (487, .lastore, []), (488, .aload_n 0, []), (489, .getfield 34, [10, 9]), (492, .bipush (.ofNat 6), []), (494, .bipush (.ofNat 99), []), (496, .bipush (.ofNat 108), []), (498, .bipush (.ofNat 111), []), (500, .bipush (.ofNat 99), []), (502, .bipush (.ofNat 107), []), (504, .iconst (.ofNat 0), []), (505, .iconst (.ofNat 0), []), (506, .invokestatic 153, [143, 7]), (509, .lastore, []), (510, .aload_n 0, []), (511, .getfield 34, [10, 9]), (514, .bipush (.ofNat 7), []), (516, .bipush (.ofNat 102), []), (518, .bipush (.ofNat 108), []), (520, .bipush (.ofNat 97), []), (522, .bipush (.ofNat 103), []), (524, .iconst (.ofNat 0), []), (525, .iconst (.ofNat 0), []), (526, .iconst (.ofNat 0), []), (527, .invokestatic 153, [143, 7]), (530, .lastore, []), (531, .aload_n 0, []), (532, .getfield 34, [10, 9]), (535, .bipush (.ofNat 8), []), (537, .bipush (.ofNat 105), []), (539, .bipush (.ofNat 102), []), (541, .iconst (.ofNat 0), []), (542, .iconst (.ofNat 0), []), (543, .iconst (.ofNat 0), []), (544, .iconst (.ofNat 0), []), (545, .iconst (.ofNat 0), []), (546, .invokestatic 153, [143, 7]), (549, .lastore, []), (550, .aload_n 0, []), (551, .getfield 34, [10, 9]), (554, .bipush (.ofNat 9), []), (556, .bipush (.ofNat 116), []), (558, .bipush (.ofNat 104), []), (560, .bipush (.ofNat 101), []), (562, .bipush (.ofNat 110), []), (564, .iconst (.ofNat 0), []), (565, .iconst (.ofNat 0), []), (566, .iconst (.ofNat 0), []), (567, .invokestatic 153, [143, 7]), (570, .lastore, []), (571, .aload_n 0, []), (572, .getfield 34, [10, 9]), (575, .bipush (.ofNat 10), []), (577, .bipush (.ofNat 101), []), (579, .bipush (.ofNat 108), []), (581, .bipush (.ofNat 115), []), (583, .bipush (.ofNat 101), []), (585, .iconst (.ofNat 0), []), (586, .iconst (.ofNat 0), []), (587, .iconst (.ofNat 0), []), (588, .invokestatic 153, [143, 7]), (591, .lastore, []), (592, .aload_n 0, []), (593, .getfield 34, [10, 9]), (596, .bipush (.ofNat 11), []), (598, .bipush (.ofNat 116), []), (600, .bipush (.ofNat 104), []), (602, .bipush (.ofNat 105), []), (604, .bipush (.ofNat 110), []), (606, .bipush (.ofNat 107), []), (608, .iconst (.ofNat 0), []), (609, .iconst (.ofNat 0), []), (610, .invokestatic 153, [143, 7]), (613, .lastore, []), (614, .aload_n 0, []), (615, .getfield 34, [10, 9]), (618, .bipush (.ofNat 12), []), (620, .bipush (.ofNat 109), []), (622, .bipush (.ofNat 111), []), (624, .bipush (.ofNat 118), []), (626, .bipush (.ofNat 101), []), (628, .iconst (.ofNat 0), []), (629, .iconst (.ofNat 0), []), (630, .iconst (.ofNat 0), []), (631, .invokestatic 153, [143, 7]), (634, .lastore, []), (635, .aload_n 0, []), (636, .getfield 34, [10, 9]), (639, .bipush (.ofNat 13), []), (641, .bipush (.ofNat 116), []), (643, .bipush (.ofNat 105), []), (645, .bipush (.ofNat 109), []), (647, .bipush (.ofNat 101), []), (649, .iconst (.ofNat 0), []), (650, .iconst (.ofNat 0), []), (651, .iconst (.ofNat 0), []), (652, .invokestatic 153, [143, 7]), (655, .lastore, []), (656, .aload_n 0, []), (657, .getfield 34, [10, 9]), (660, .bipush (.ofNat 14), []), (662, .bipush (.ofNat 105), []), (664, .bipush (.ofNat 100), []), (666, .bipush (.ofNat 108), []), (668, .bipush (.ofNat 101), []), (670, .iconst (.ofNat 0), []), (671, .iconst (.ofNat 0), []), (672, .iconst (.ofNat 0), []), (673, .invokestatic 153, [143, 7]), (676, .lastore, []), (677, .aload_n 0, []), (678, .getfield 34, [10, 9]), (681, .bipush (.ofNat 15), []), (683, .bipush (.ofNat 108), []), (685, .bipush (.ofNat 101), []), (687, .bipush (.ofNat 102), []), (689, .bipush (.ofNat 116), []), (691, .iconst (.ofNat 0), []), (692, .iconst (.ofNat 0), []), (693, .iconst (.ofNat 0), []), (694, .invokestatic 153, [143, 7]), (697, .lastore, []), (698, .aload_n 0, []), (699, .getfield 34, [10, 9]), (702, .bipush (.ofNat 16), []), (704, .bipush (.ofNat 115), []), (706, .bipush (.ofNat 117), []), (708, .bipush (.ofNat 109), []), (710, .iconst (.ofNat 0), []), (711, .iconst (.ofNat 0), []), (712, .iconst (.ofNat 0), []), (713, .iconst (.ofNat 0), []), (714, .invokestatic 153, [143, 7]), (717, .lastore, []), (718, .aload_n 0, []), (719, .bipush (.ofNat 63), []), (721, .invokevirtual 157, [169, 1, 10]), (724, .iconst (.ofNat 0), []), (725, .istore_n 1, []), (726, .iload_n 1, []), (727, .bipush (.ofNat 40), []), (729, .if_icmp .ge 21, [750]), (732, .aload_n 0, []), (733, .getfield 104, [10, 46]), (736, .iload_n 1, []), (737, .aload_n 0, []), (738, .getfield 107, [10, 47]), (741, .iload_n 1, []), (742, .iaload, []), (743, .iastore, []), (744, .iinc 1 (.ofNat 1), []), (747, .goto (-21), [726]), (750, .return_, [])]
/-- OneClockModel.<init> -/
def am_m135 : am_Info := (10, am_c135, 2, none, 2)
def am_c136 : List am_Ent := [(0, .aload_n 0, []), (1, .getfield 160, [10, 2]), (4, .bipush (.ofNat 20), []), (6, .iadd, []), (7, .sipush (.ofNat 2000), []), (10, .if_icmp .le 5, [15]), (13, .iconst (.negSucc 0), []), (14, .ireturn, []), (15, .aload_n 0, []), (16, .iload_n 1, []), (17, .invokevirtual 163, [137, 1, 10]), (20, .aload_n 0, []), (21, .iload_n 2, []), (22, .invokevirtual 163, [137, 1, 10]), (25, .aload_n 0, []), (26, .iload_n 3, []), (27, .invokevirtual 163, [137, 1, 10]), (30, .aload_n 0, []), (31, .iload 4, []), (33, .invokevirtual 163, [137, 1, 10]), (36, .aload_n 0, []), (37, .iload 5, []), (39, .invokevirtual 163, [137, 1, 10]), (42, .aload_n 0, []), (43, .getfield 160, [10, 2]), (46, .ireturn, [])]
/-- OneClockModel.feed -/
def am_m136 : am_Info := (10, am_c136, 6, some .int, 1)
def am_c137 : List am_Ent := [(0, .bipush (.ofNat 24), []), (2, .istore_n 2, []), (3, .iload_n 2, []), (4, .ifCond .lt 32, [36]), (7, .aload_n 0, []), (8, .getfield 13, [10, 1]), (11, .aload_n 0, []), (12, .getfield 160, [10, 2]), (15, .iload_n 1, []), (16, .iload_n 2, []), (17, .ishr, []), (18, .i2b, []), (19, .bastore, []), (20, .aload_n 0, []), (21, .dup, []), (22, .getfield 160, [10, 2]), (25, .iconst (.ofNat 1), []), (26, .iadd, []), (27, .putfield 160, [10, 2, 0]), (30, .iinc 2 (.negSucc 7), []), (33, .goto (-30), [3]), (36, .return_, [])]
/-- OneClockModel.put -/
def am_m137 : am_Info := (10, am_c137, 3, none, 0)
def am_c138 : List am_Ent := [(0, .iload_n 1, []), (1, .ifCond .lt 11, [12]), (4, .iload_n 1, []), (5, .aload_n 0, []), (6, .getfield 160, [10, 2]), (9, .if_icmp .le 5, [14]), (12, .iconst (.negSucc 0), []), (13, .ireturn, []), (14, .aload_n 0, []), (15, .dup, []), (16, .getfield 160, [10, 2]), (19, .iload_n 1, []), (20, .isub, []), (21, .putfield 160, [10, 2, 0]), (24, .aload_n 0, []), (25, .getfield 160, [10, 2]), (28, .ireturn, [])]
/-- OneClockModel.back -/
def am_m138 : am_Info := (10, am_c138, 2, some .int, 0)
def am_c139 : List am_Ent := [(0, .iload_n 1, []), (1, .aload_n 0, []), (2, .getfield 166, [10, 4]), (5, .if_icmp .ge 16, [21]), (8, .aload_n 0, []), (9, .getfield 17, [10, 3]), (12, .iload_n 1, []), (13, .baload, []), (14, .sipush (.ofNat 255), []), (17, .iand, []), (18, .goto 4, [22]), (21, .iconst (.ofNat 0), []), (22, .ireturn, [])]
/-- OneClockModel.byteAt -/
def am_m139 : am_Info := (10, am_c139, 2, some .int, 0)
def am_c140 : List am_Ent := [(0, .iload_n 0, []), (1, .bipush (.ofNat 48), []), (3, .if_icmp .lt 13, [16]), (6, .iload_n 0, []), (7, .bipush (.ofNat 57), []), (9, .if_icmp .gt 7, [16]), (12, .iconst (.ofNat 1), []), (13, .goto 4, [17]), (16, .iconst (.ofNat 0), []), (17, .ireturn, [])]
/-- OneClockModel.isDigit -/
def am_m140 : am_Info := (10, am_c140, 1, some .boolean, 0)
def am_c141 : List am_Ent := [(0, .iload_n 0, []), (1, .bipush (.ofNat 97), []), (3, .if_icmp .lt 13, [16]), (6, .iload_n 0, []), (7, .bipush (.ofNat 122), []), (9, .if_icmp .gt 7, [16]), (12, .iconst (.ofNat 1), []), (13, .goto 4, [17]), (16, .iconst (.ofNat 0), []), (17, .ireturn, [])]
/-- OneClockModel.isLetter -/
def am_m141 : am_Info := (10, am_c141, 1, some .boolean, 0)
def am_c142 : List am_Ent := [(0, .iload_n 2, []), (1, .ifCond .ne 7, [8]), (4, .lload_n 0, []), (5, .goto 16, [21]), (8, .ldc2_w 169, [27]), (11, .lload_n 0, []), (12, .lmul, []), (13, .iload_n 2, []), (14, .bipush (.ofNat 97), []), (16, .isub, []), (17, .iconst (.ofNat 1), []), (18, .iadd, []), (19, .i2l, []), (20, .ladd, []), (21, .lreturn, [])]
/-- OneClockModel.appends -/
def am_m142 : am_Info := (10, am_c142, 3, some .long, 0)
def am_c143 : List am_Ent := [(0, .lconst 0, []), (1, .iload_n 0, []), (2, .invokestatic 171, [142, 2]), (5, .iload_n 1, []), (6, .invokestatic 171, [142, 2]), (9, .iload_n 2, []), (10, .invokestatic 171, [142, 2]), (13, .iload_n 3, []), (14, .invokestatic 171, [142, 2]), (17, .iload 4, []), (19, .invokestatic 171, [142, 2]), (22, .iload 5, []), (24, .invokestatic 171, [142, 2]), (27, .iload 6, []), (29, .invokestatic 171, [142, 2]), (32, .lreturn, [])]
/-- OneClockModel.word -/
def am_m143 : am_Info := (10, am_c143, 7, some .long, 1)
def am_c144 : List am_Ent := [(0, .aload_n 0, []), (1, .getfield 20, [10, 5]), (4, .aload_n 0, []), (5, .getfield 175, [10, 10]), (8, .iload_n 1, []), (9, .iastore, []), (10, .aload_n 0, []), (11, .getfield 24, [10, 6]), (14, .aload_n 0, []), (15, .getfield 175, [10, 10]), (18, .iload_n 2, []), (19, .iastore, []), (20, .aload_n 0, []), (21, .getfield 27, [10, 7]), (24, .aload_n 0, []), (25, .getfield 175, [10, 10]), (28, .iload_n 3, []), (29, .iastore, []), (30, .aload_n 0, []), (31, .getfield 30, [10, 8]), (34, .aload_n 0, []), (35, .getfield 175, [10, 10]), (38, .lload 4, []), (40, .lastore, []), (41, .aload_n 0, []), (42, .dup, []), (43, .getfield 175, [10, 10]), (46, .iconst (.ofNat 1), []), (47, .iadd, []), (48, .putfield 175, [10, 10, 0]), (51, .return_, [])]
/-- OneClockModel.token -/
def am_m144 : am_Info := (10, am_c144, 6, none, 0)
def am_c145 : List am_Ent := [(0, .aload_n 0, []), (1, .iconst (.ofNat 0), []), (2, .putfield 175, [10, 10, 0]), (5, .iconst (.ofNat 0), []), (6, .istore_n 1, []), (7, .aload_n 0, []), (8, .getfield 175, [10, 10]), (11, .sipush (.ofNat 400), []), (14, .if_icmp .gt 280, [294]), (17, .aload_n 0, []), (18, .iload_n 1, []), (19, .invokevirtual 178, [139, 1, 10]), (22, .istore_n 2, []), (23, .iload_n 1, []), (24, .aload_n 0, []), (25, .getfield 166, [10, 4]), (28, .if_icmp .lt 15, [43]), (31, .aload_n 0, []), (32, .iconst (.ofNat 0), []), (33, .aload_n 0, []), (34, .getfield 166, [10, 4]), (37, .iconst (.ofNat 0), []), (38, .lconst 0, []), (39, .invokevirtual 182, [144, 4, 10]), (42, .return_, []), (43, .iload_n 2, []), (44, .bipush (.ofNat 9), []), (46, .if_icmp .eq 21, [67]), (49, .iload_n 2, []), (50, .bipush (.ofNat 10), []), (52, .if_icmp .eq 15, [67]), (55, .iload_n 2, []), (56, .bipush (.ofNat 13), []), (58, .if_icmp .eq 9, [67]), (61, .iload_n 2, []), (62, .bipush (.ofNat 32), []), (64, .if_icmp .ne 9, [73]), (67, .iinc 1 (.ofNat 1), []), (70, .goto 221, [291]), (73, .iload_n 2, []), (74, .invokestatic 186, [141, 1]), (77, .ifCond .eq 119, [196]), (80, .iconst (.ofNat 0), []), (81, .istore_n 3, []), (82, .lconst 0, []), (83, .lstore 4, []), (85, .aload_n 0, []), (86, .iload_n 1, []), (87, .iload_n 3, []), (88, .iadd, []), (89, .invokevirtual 178, [139, 1, 10]), (92, .invokestatic 186, [141, 1]), (95, .ifCond .eq 29, [124]), (98, .iload_n 3, []), (99, .bipush (.ofNat 8), []), (101, .if_icmp .ge 17, [118]), (104, .lload 4, []), (106, .aload_n 0, []), (107, .iload_n 1, []), (108, .iload_n 3, []), (109, .iadd, []), (110, .invokevirtual 178, [139, 1, 10]), (113, .invokestatic 171, [142, 2]), (116, .lstore 4, []), (118, .iinc 3 (.ofNat 1), []), (121, .goto (-36), [85]), (124, .iload_n 3, []), (125, .bipush (.ofNat 8), []), (127, .if_icmp .le 7, [134]), (130, .iconst (.ofNat 3), []), (131, .goto 4, [135]), (134, .iconst (.ofNat 1), []), (135, .istore 6, []), (137, .iload_n 3, []), (138, .bipush (.ofNat 7), []), (140, .if_icmp .gt 39, [179]), (143, .iconst (.ofNat 0), []), (144, .istore 7, []), (146, .iload 7, []), (148, .bipush (.ofNat 17), []), (150, .if_icmp .ge 29, [179]), (153, .aload_n 0, []), (154, .getfield 34, [10, 9]), (157, .iload 7, []), (159, .laload, []), (160, .lload 4, []), (162, .lcmp, []), (163, .ifCond .ne 10, [173]), (166, .bipush (.ofNat 20), []), (168, .iload 7, []), (170, .iadd, []), (171, .istore 6, []), (173, .iinc 7 (.ofNat 1), []), (176, .goto (-30), [146]), (179, .aload_n 0, []), (180, .iload 6, []), (182, .iload_n 1, []), (183, .iconst (.ofNat 0), []), (184, .lload 4, []), (186, .invokevirtual 182, [144, 4, 10]), (189, .iload_n 1, []), (190, .iload_n 3, []), (191, .iadd, []), (192, .istore_n 1, []), (193, .goto 98, [291]), (196, .iload_n 2, []), (197, .invokestatic 190, [140, 1]), (200, .ifCond .eq 75, [275]), (203, .iconst (.ofNat 0), []), (204, .istore_n 3, []), (205, .iconst (.ofNat 0), []), (206, .istore 4, []), (208, .aload_n 0, []), (209, .iload_n 1, []), (210, .iload_n 3, []), (211, .iadd, []), (212, .invokevirtual 178, [139, 1, 10]), (215, .invokestatic 190, [140, 1]), (218, .ifCond .eq 32, [250]), (221, .iload_n 3, []), (222, .iconst (.ofNat 4), []), (223, .if_icmp .ge 21, [244]), (226, .bipush (.ofNat 10), []), (228, .iload 4, []), (230, .imul, []), (231, .aload_n 0, []), (232, .iload_n 1, []), (233, .iload_n 3, []), (234, .iadd, []), (235, .invokevirtual 178, [139, 1, 10]), (238, .iadd, []), (239, .bipush (.ofNat 48), []), (241, .isub, []), (242, .istore 4, []), (244, .iinc 3 (.ofNat 1), []), (247, .goto (-39), [208]), (250, .aload_n 0, []), (251, .iload_n 3, []), (252, .iconst (.ofNat 4), []), (253, .if_icmp .le 7, [260]), (256, .iconst (.ofNat 3), []), (257, .goto 4, [261]), (260, .iconst (.ofNat 2), []), (261, .iload_n 1, []), (262, .iload 4, []), (264, .lconst 0, []), (265, .invokevirtual 182, [144, 4, 10]), (268, .iload_n 1, []), (269, .iload_n 3, []), (270, .iadd, []), (271, .istore_n 1, []), (272, .goto 19, [291]), (275, .iload_n 1, []), (276, .aload_n 0, []), (277, .iload_n 1, []), (278, .iload_n 2, []), (279, .aload_n 0, []), (280, .iload_n 1, []), (281, .iconst (.ofNat 1), []), (282, .iadd, []), (283, .invokevirtual 178, [139, 1, 10]), (286, .invokevirtual 193, [146, 3, 10]), (289, .iadd, []), (290, .istore_n 1, []), (291, .goto (-284), [7]), (294, .return_, [])]
/-- OneClockModel.cut -/
def am_m145 : am_Info := (10, am_c145, 8, none, 2)
def am_c146 : List am_Ent := [(0, .iload_n 2, []), (1, .bipush (.ofNat 59), []), (3, .if_icmp .ne 7, [10]), (6, .iconst (.ofNat 4), []), (7, .goto 36, [43]), (10, .iload_n 2, []), (11, .bipush (.ofNat 61), []), (13, .if_icmp .ne 7, [20]), (16, .iconst (.ofNat 5), []), (17, .goto 26, [43]), (20, .iload_n 2, []), (21, .bipush (.ofNat 40), []), (23, .if_icmp .ne 8, [31]), (26, .bipush (.ofNat 6), []), (28, .goto 15, [43]), (31, .iload_n 2, []), (32, .bipush (.ofNat 41), []), (34, .if_icmp .ne 8, [42]), (37, .bipush (.ofNat 7), []), (39, .goto 4, [43]), (42, .iconst (.ofNat 3), []), (43, .istore 4, []), (45, .iload_n 2, []), (46, .bipush (.ofNat 43), []), (48, .if_icmp .ne 7, [55]), (51, .bipush (.ofNat 8), []), (53, .istore 4, []), (55, .iload_n 2, []), (56, .bipush (.ofNat 45), []), (58, .if_icmp .ne 7, [65]), (61, .bipush (.ofNat 9), []), (63, .istore 4, []), (65, .iload_n 2, []), (66, .bipush (.ofNat 42), []), (68, .if_icmp .ne 7, [75]), (71, .bipush (.ofNat 10), []), (73, .istore 4, []), (75, .iload_n 2, []), (76, .bipush (.ofNat 47), []), (78, .if_icmp .ne 7, [85]), (81, .bipush (.ofNat 15), []), (83, .istore 4, []), (85, .iload_n 2, []), (86, .bipush (.ofNat 60), []), (88, .if_icmp .ne 7, [95]), (91, .bipush (.ofNat 13), []), (93, .istore 4, []), (95, .aload_n 0, []), (96, .iload 4, []), (98, .iload_n 1, []), (99, .iconst (.ofNat 0), []), (100, .lconst 0, []), (101, .invokevirtual 182, [144, 4, 10]), (104, .iconst (.ofNat 1), []), (105, .ireturn, [])]
/-- OneClockModel.sign -/
def am_m146 : am_Info := (10, am_c146, 5, some .int, 1)
def am_c147 : List am_Ent := [(0, .aload_n 0, []), (1, .getfield 197, [10, 13]), (4, .ifCond .ne 20, [24]), (7, .aload_n 0, []), (8, .getfield 20, [10, 5]), (11, .aload_n 0, []), (12, .getfield 200, [10, 11]), (15, .iaload, []), (16, .iload_n 1, []), (17, .if_icmp .ne 7, [24]), (20, .iconst (.ofNat 1), []), (21, .goto 4, [25]), (24, .iconst (.ofNat 0), []), (25, .ireturn, [])]
/-- OneClockModel.is -/
def am_m147 : am_Info := (10, am_c147, 2, some .boolean, 0)
def am_c148 : List am_Ent := [(0, .aload_n 0, []), (1, .getfield 197, [10, 13]), (4, .ifCond .le 4, [8]), (7, .return_, []), (8, .aload_n 0, []), (9, .iload_n 1, []), (10, .putfield 197, [10, 13, 0]), (13, .aload_n 0, []), (14, .aload_n 0, []), (15, .getfield 24, [10, 6]), (18, .aload_n 0, []), (19, .getfield 200, [10, 11]), (22, .iaload, []), (23, .putfield 203, [10, 14, 0]), (26, .return_, [])]
/-- OneClockModel.fail -/
def am_m148 : am_Info := (10, am_c148, 2, none, 0)
def am_c149 : List am_Ent := [(0, .aload_n 0, []), (1, .getfield 24, [10, 6]), (4, .iload_n 2, []), (5, .iaload, []), (6, .istore_n 3, []), (7, .aload_n 0, []), (8, .getfield 197, [10, 13]), (11, .ifCond .gt 34, [45]), (14, .aload_n 0, []), (15, .getfield 206, [10, 15]), (18, .ifCond .eq 28, [46]), (21, .iload_n 3, []), (22, .aload_n 0, []), (23, .getfield 209, [10, 16]), (26, .if_icmp .gt 19, [45]), (29, .iload_n 3, []), (30, .aload_n 0, []), (31, .getfield 209, [10, 16]), (34, .if_icmp .ne 12, [46]), (37, .iload_n 1, []), (38, .aload_n 0, []), (39, .getfield 206, [10, 15]), (42, .if_icmp .lt 4, [46]), (45, .return_, []), (46, .aload_n 0, []), (47, .iload_n 1, []), (48, .putfield 206, [10, 15, 0]), (51, .aload_n 0, []), (52, .iload_n 3, []), (53, .putfield 209, [10, 16, 0]), (56, .return_, [])]
/-- OneClockModel.wrong -/
def am_m149 : am_Info := (10, am_c149, 4, none, 0)
def am_c150 : List am_Ent := [(0, .aload_n 0, []), (1, .getfield 200, [10, 11]), (4, .sipush (.ofNat 400), []), (7, .if_icmp .ne 11, [18]), (10, .aload_n 0, []), (11, .iconst (.ofNat 2), []), (12, .invokevirtual 212, [148, 1, 10]), (15, .goto 13, [28]), (18, .aload_n 0, []), (19, .dup, []), (20, .getfield 200, [10, 11]), (23, .iconst (.ofNat 1), []), (24, .iadd, []), (25, .putfield 200, [10, 11, 0]), (28, .return_, [])]
/-- OneClockModel.goesOn -/
def am_m150 : am_Info := (10, am_c150, 1, none, 1)
def am_c151 : List am_Ent := [(0, .aload_n 0, []), (1, .iload_n 1, []), (2, .invokevirtual 215, [147, 1, 10]), (5, .ifCond .eq 10, [15]), (8, .aload_n 0, []), (9, .invokevirtual 218, [150, 0, 10]), (12, .goto 8, [20]), (15, .aload_n 0, []), (16, .iconst (.ofNat 1), []), (17, .invokevirtual 212, [148, 1, 10]), (20, .return_, [])]
/-- OneClockModel.must -/
def am_m151 : am_Info := (10, am_c151, 2, none, 2)
def am_c152 : List am_Ent := [(0, .aload_n 0, []), (1, .getfield 43, [10, 22]), (4, .iload_n 1, []), (5, .iconst (.ofNat 0), []), (6, .iastore, []), (7, .aload_n 0, []), (8, .getfield 52, [10, 25]), (11, .iload_n 1, []), (12, .iconst (.ofNat 1), []), (13, .iastore, []), (14, .aload_n 0, []), (15, .getfield 55, [10, 26]), (18, .iconst (.ofNat 4), []), (19, .iload_n 1, []), (20, .imul, []), (21, .iconst (.ofNat 1), []), (22, .iastore, []), (23, .aload_n 0, []), (24, .getfield 58, [10, 27]), (27, .iload_n 1, []), (28, .iconst (.ofNat 1), []), (29, .iastore, []), (30, .aload_n 0, []), (31, .getfield 61, [10, 28]), (34, .iload_n 1, []), (35, .bipush (.ofNat 120), []), (37, .iastore, []), (38, .aload_n 0, []), (39, .getfield 64, [10, 29]), (42, .iload_n 1, []), (43, .iconst (.ofNat 0), []), (44, .iastore, []), (45, .iconst (.ofNat 0), []), (46, .istore_n 2, []), (47, .iload_n 2, []), (48, .bipush (.ofNat 18), []), (50, .if_icmp .ge 33, [83]), (53, .aload_n 0, []), (54, .getfield 67, [10, 30]), (57, .bipush (.ofNat 18), []), (59, .iload_n 1, []), (60, .imul, []), (61, .iload_n 2, []), (62, .iadd, []), (63, .iconst (.ofNat 0), []), (64, .iastore, []), (65, .aload_n 0, []), (66, .getfield 70, [10, 31]), (69, .bipush (.ofNat 18), []), (71, .iload_n 1, []), (72, .imul, []), (73, .iload_n 2, []), (74, .iadd, []), (75, .iconst (.ofNat 0), []), (76, .iastore, []), (77, .iinc 2 (.ofNat 1), []), (80, .goto (-33), [47]), (83, .return_, [])]
/-- OneClockModel.plain -/
def am_m152 : am_Info := (10, am_c152, 3, none, 0)
def am_c153 : List am_Ent := [(0, .aload_n 0, []), (1, .aload_n 0, []), (2, .getfield 160, [10, 2]), (5, .putfield 166, [10, 4, 0]), (8, .iconst (.ofNat 0), []), (9, .istore_n 1, []), (10, .iload_n 1, []), (11, .aload_n 0, []), (12, .getfield 166, [10, 4]), (15, .if_icmp .ge 21, [36]), (18, .aload_n 0, []), (19, .getfield 17, [10, 3]), (22, .iload_n 1, []), (23, .aload_n 0, []), (24, .getfield 13, [10, 1]), (27, .iload_n 1, []), (28, .baload, []), (29, .bastore, []), (30, .iinc 1 (.ofNat 1), []), (33, .goto (-23), [10]), (36, .aload_n 0, []), (37, .iconst (.ofNat 0), []), (38, .putfield 160, [10, 2, 0]), (41, .aload_n 0, []), (42, .invokevirtual 221, [145, 0, 10]), (45, .aload_n 0, []), (46, .iconst (.ofNat 0), []), (47, .putfield 200, [10, 11, 0]), (50, .aload_n 0, []), (51, .iconst (.ofNat 0), []), (52, .putfield 224, [10, 12, 0]), (55, .aload_n 0, []), (56, .iconst (.ofNat 0), []), (57, .putfield 197, [10, 13, 0]), (60, .aload_n 0, []), (61, .iconst (.ofNat 0), []), (62, .putfield 206, [10, 15, 0]), (65, .aload_n 0, []), (66, .iconst (.ofNat 1), []), (67, .aload_n 0, []), (68, .getfield 227, [10, 18]), (71, .isub, []), (72, .putfield 230, [10, 19, 0]), (75, .aload_n 0, []), (76, .iconst (.ofNat 0), []), (77, .putfield 233, [10, 20, 0]), (80, .aload_n 0, []), (81, .aload_n 0, []), (82, .getfield 230, [10, 19]), (85, .invokevirtual 149, [152, 1, 10]), (88, .aload_n 0, []), (89, .sipush (.ofNat 130), []), (92, .aload_n 0, []), (93, .getfield 230, [10, 19]), (96, .imul, []), (97, .putfield 236, [10, 32, 0]), (100, .aload_n 0, []), (101, .sipush (.ofNat 420), []), (104, .aload_n 0, []), (105, .getfield 230, [10, 19]), (108, .imul, []), (109, .putfield 239, [10, 38, 0]), (112, .aload_n 0, []), (113, .getfield 197, [10, 13]), (116, .ifCond .ne 18, [134]), (119, .aload_n 0, []), (120, .iconst (.ofNat 0), []), (121, .invokevirtual 215, [147, 1, 10]), (124, .ifCond .ne 10, [134]), (127, .aload_n 0, []), (128, .invokevirtual 242, [155, 0, 10]), (131, .goto (-19), [112]), (134, .aload_n 0, []), (135, .aload_n 0, []), (136, .getfield 197, [10, 13]), (139, .ifCond .le 10, [149]), (142, .aload_n 0, []), (143, .getfield 203, [10, 14]), (146, .goto 18, [164]), (149, .aload_n 0, []), (150, .getfield 206, [10, 15]), (153, .ifCond .le 10, [163]), (156, .aload_n 0, []), (157, .getfield 209, [10, 16]), (160, .goto 4, [164]), (163, .iconst (.negSucc 0), []), (164, .putfield 37, [10, 17, 0]), (167, .aload_n 0, []), (168, .getfield 197, [10, 13]), (171, .ifCond .le 8, [179]), (174, .aload_n 0, []), (175, .getfield 197, [10, 13]), (178, .ireturn, []), (179, .aload_n 0, []), (180, .getfield 206, [10, 15]), (183, .ifCond .le 8, [191]), (186, .aload_n 0, []), (187, .getfield 206, [10, 15]), (190, .ireturn, []), (191, .aload_n 0, []), (192, .aload_n 0, []), (193, .getfield 230, [10, 19]), (196, .putfield 227, [10, 18, 0]), (199, .aload_n 0, []), (200, .bipush (.ofNat 63), []), (202, .invokevirtual 157, [169, 1, 10]), (205, .iconst (.ofNat 0), []), (206, .istore_n 1, []), (207, .iload_n 1, []), (208, .bipush (.ofNat 40), []), (210, .if_icmp .ge 21, [231]), (213, .aload_n 0, []), (214, .getfield 104, [10, 46]), (217, .iload_n 1, []), (218, .aload_n 0, []), (219, .getfield 107, [10, 47]), (222, .iload_n 1, []), (223, .iaload, []), (224, .iastore, []), (225, .iinc 1 (.ofNat 1), []), (228, .goto (-21), [207]), (231, .aload_n 0, []), (232, .iconst (.ofNat 0), []), (233, .putfield 245, [10, 50, 0]), (236, .aload_n 0, []), (237, .iconst (.ofNat 0), []), (238, .putfield 248, [10, 62, 0]), (241, .iconst (.ofNat 0), []), (242, .istore_n 1, []), (243, .iload_n 1, []), (244, .iconst (.ofNat 3), []), (245, .if_icmp .ge 16, [261]), (248, .aload_n 0, []), (249, .getfield 143, [10, 65]), (252, .iload_n 1, []), (253, .iconst (.ofNat 0), []), (254, .bastore, []), (255, .iinc 1 (.ofNat 1), []), (258, .goto (-15), [243]), (261, .iconst (.ofNat 0), []), (262, .ireturn, [])]
/-- OneClockModel.read -/
def am_m153 : am_Info := (10, am_c153, 2, some .int, 7)
def am_c154 : List am_Ent := [(0, .aload_n 0, []), (1, .getfield 37, [10, 17]), (4, .ireturn, [])]
/-- OneClockModel.place -/
def am_m154 : am_Info := (10, am_c154, 1, some .int, 0)
def am_c155 : List am_Ent := [(0, .aload_n 0, []), (1, .getfield 20, [10, 5]), (4, .aload_n 0, []), (5, .getfield 200, [10, 11]), (8, .iaload, []), (9, .tableswitch 220 (.ofNat 20) 27 #[47, 80, 80, 80, 123, 134, 162, 191], [229, 56, 89, 89, 89, 132, 143, 171, 200]), (56, .aload_n 0, []), (57, .getfield 43, [10, 22]), (60, .aload_n 0, []), (61, .getfield 230, [10, 19]), (64, .iaload, []), (65, .bipush (.ofNat 6), []), (67, .if_icmp .ne 8, [75]), (70, .aload_n 0, []), (71, .iconst (.ofNat 2), []), (72, .invokevirtual 212, [148, 1, 10]), (75, .aload_n 0, []), (76, .getfield 197, [10, 13]), (79, .ifCond .ne 155, [234]), (82, .aload_n 0, []), (83, .invokevirtual 251, [158, 0, 10]), (86, .goto 148, [234]), (89, .aload_n 0, []), (90, .getfield 20, [10, 5]), (93, .aload_n 0, []), (94, .getfield 200, [10, 11]), (97, .iaload, []), (98, .bipush (.ofNat 21), []), (100, .isub, []), (101, .istore_n 1, []), (102, .aload_n 0, []), (103, .invokevirtual 218, [150, 0, 10]), (106, .aload_n 0, []), (107, .invokevirtual 254, [156, 0, 10]), (110, .istore_n 2, []), (111, .aload_n 0, []), (112, .iload_n 2, []), (113, .ifCond .ge 7, [120]), (116, .iconst (.negSucc 0), []), (117, .goto 9, [126]), (120, .bipush (.ofNat 6), []), (122, .iload_n 1, []), (123, .imul, []), (124, .iload_n 2, []), (125, .iadd, []), (126, .invokevirtual 258, [160, 1, 10]), (129, .goto 105, [234]), (132, .aload_n 0, []), (133, .invokevirtual 218, [150, 0, 10]), (136, .aload_n 0, []), (137, .invokevirtual 261, [159, 0, 10]), (140, .goto 94, [234]), (143, .aload_n 0, []), (144, .invokevirtual 218, [150, 0, 10]), (147, .aload_n 0, []), (148, .getfield 58, [10, 27]), (151, .aload_n 0, []), (152, .getfield 230, [10, 19]), (155, .aload_n 0, []), (156, .iconst (.ofNat 0), []), (157, .bipush (.ofNat 9), []), (159, .invokevirtual 264, [157, 2, 10]), (162, .iastore, []), (163, .aload_n 0, []), (164, .iconst (.ofNat 4), []), (165, .invokevirtual 268, [151, 1, 10]), (168, .goto 66, [234]), (171, .aload_n 0, []), (172, .invokevirtual 218, [150, 0, 10]), (175, .aload_n 0, []), (176, .getfield 61, [10, 28]), (179, .aload_n 0, []), (180, .getfield 230, [10, 19]), (183, .aload_n 0, []), (184, .iconst (.ofNat 1), []), (185, .sipush (.ofNat 500), []), (188, .invokevirtual 264, [157, 2, 10]), (191, .iastore, []), (192, .aload_n 0, []), (193, .iconst (.ofNat 4), []), (194, .invokevirtual 268, [151, 1, 10]), (197, .goto 37, [234]), (200, .aload_n 0, []), (201, .invokevirtual 218, [150, 0, 10]), (204, .aload_n 0, []), (205, .getfield 64, [10, 29]), (208, .aload_n 0, []), (209, .getfield 230, [10, 19]), (212, .aload_n 0, []), (213, .iconst (.ofNat 0), []), (214, .sipush (.ofNat 999), []), (217, .invokevirtual 264, [157, 2, 10]), (220, .iastore, []), (221, .aload_n 0, []), (222, .iconst (.ofNat 4), []), (223, .invokevirtual 268, [151, 1, 10]), (226, .goto 8, [234]), (229, .aload_n 0, []), (230, .iconst (.ofNat 1), []), (231, .invokevirtual 212, [148, 1, 10]), (234, .return_, [])]
/-- OneClockModel.tell -/
def am_m155 : am_Info := (10, am_c155, 3, none, 6)
def am_c156 : List am_Ent := [(0, .aload_n 0, []), (1, .getfield 200, [10, 11]), (4, .istore_n 1, []), (5, .aload_n 0, []), (6, .iconst (.ofNat 1), []), (7, .invokevirtual 268, [151, 1, 10]), (10, .aload_n 0, []), (11, .getfield 197, [10, 13]), (14, .ifCond .le 5, [19]), (17, .iconst (.negSucc 0), []), (18, .ireturn, []), (19, .iconst (.ofNat 0), []), (20, .istore_n 2, []), (21, .iload_n 2, []), (22, .aload_n 0, []), (23, .getfield 233, [10, 20]), (26, .if_icmp .ge 27, [53]), (29, .aload_n 0, []), (30, .getfield 40, [10, 21]), (33, .iload_n 2, []), (34, .laload, []), (35, .aload_n 0, []), (36, .getfield 30, [10, 8]), (39, .iload_n 1, []), (40, .laload, []), (41, .lcmp, []), (42, .ifCond .ne 5, [47]), (45, .iload_n 2, []), (46, .ireturn, []), (47, .iinc 2 (.ofNat 1), []), (50, .goto (-29), [21]), (53, .aload_n 0, []), (54, .iconst (.ofNat 4), []), (55, .iload_n 1, []), (56, .invokevirtual 271, [149, 2, 10]), (59, .iconst (.negSucc 0), []), (60, .ireturn, [])]
/-- OneClockModel.known -/
def am_m156 : am_Info := (10, am_c156, 3, some .int, 3)
def am_c157 : List am_Ent := [(0, .aload_n 0, []), (1, .getfield 197, [10, 13]), (4, .ifCond .gt 11, [15]), (7, .aload_n 0, []), (8, .iconst (.ofNat 2), []), (9, .invokevirtual 215, [147, 1, 10]), (12, .ifCond .ne 10, [22]), (15, .aload_n 0, []), (16, .iconst (.ofNat 1), []), (17, .invokevirtual 212, [148, 1, 10]), (20, .iload_n 1, []), (21, .ireturn, []), (22, .aload_n 0, []), (23, .getfield 27, [10, 7]), (26, .aload_n 0, []), (27, .getfield 200, [10, 11]), (30, .iaload, []), (31, .istore_n 3, []), (32, .iload_n 3, []), (33, .iload_n 1, []), (34, .if_icmp .lt 8, [42]), (37, .iload_n 3, []), (38, .iload_n 2, []), (39, .if_icmp .le 12, [51]), (42, .aload_n 0, []), (43, .iconst (.ofNat 5), []), (44, .aload_n 0, []), (45, .getfield 200, [10, 11]), (48, .invokevirtual 271, [149, 2, 10]), (51, .aload_n 0, []), (52, .invokevirtual 218, [150, 0, 10]), (55, .iload_n 3, []), (56, .ireturn, [])]
/-- OneClockModel.bounded -/
def am_m157 : am_Info := (10, am_c157, 4, some .int, 2)
def am_c158 : List am_Ent := [(0, .aload_n 0, []), (1, .invokevirtual 218, [150, 0, 10]), (4, .bipush (.ofNat 6), []), (6, .aload_n 0, []), (7, .getfield 230, [10, 19]), (10, .imul, []), (11, .aload_n 0, []), (12, .getfield 43, [10, 22]), (15, .aload_n 0, []), (16, .getfield 230, [10, 19]), (19, .iaload, []), (20, .iadd, []), (21, .istore_n 1, []), (22, .aload_n 0, []), (23, .getfield 200, [10, 11]), (26, .istore_n 2, []), (27, .aload_n 0, []), (28, .iconst (.ofNat 1), []), (29, .invokevirtual 268, [151, 1, 10]), (32, .iconst (.ofNat 0), []), (33, .istore_n 3, []), (34, .iload_n 3, []), (35, .aload_n 0, []), (36, .getfield 233, [10, 20]), (39, .if_icmp .ge 38, [77]), (42, .aload_n 0, []), (43, .getfield 197, [10, 13]), (46, .ifCond .ne 31, [77]), (49, .aload_n 0, []), (50, .getfield 40, [10, 21]), (53, .iload_n 3, []), (54, .laload, []), (55, .aload_n 0, []), (56, .getfield 30, [10, 8]), (59, .iload_n 2, []), (60, .laload, []), (61, .lcmp, []), (62, .ifCond .ne 9, [71]), (65, .aload_n 0, []), (66, .iconst (.ofNat 3), []), (67, .iload_n 2, []), (68, .invokevirtual 271, [149, 2, 10]), (71, .iinc 3 (.ofNat 1), []), (74, .goto (-40), [34]), (77, .aload_n 0, []), (78, .getfield 46, [10, 23]), (81, .iload_n 1, []), (82, .aload_n 0, []), (83, .iconst (.ofNat 0), []), (84, .bipush (.ofNat 9), []), (86, .invokevirtual 264, [157, 2, 10]), (89, .iastore, []), (90, .aload_n 0, []), (91, .getfield 49, [10, 24]), (94, .iload_n 1, []), (95, .aload_n 0, []), (96, .iconst (.ofNat 0), []), (97, .sipush (.ofNat 999), []), (100, .invokevirtual 264, [157, 2, 10]), (103, .iastore, []), (104, .aload_n 0, []), (105, .iconst (.ofNat 4), []), (106, .invokevirtual 268, [151, 1, 10]), (109, .aload_n 0, []), (110, .getfield 197, [10, 13]), (113, .ifCond .le 4, [117]), (116, .return_, []), (117, .aload_n 0, []), (118, .getfield 40, [10, 21]), (121, .aload_n 0, []), (122, .getfield 233, [10, 20]), (125, .aload_n 0, []), (126, .getfield 30, [10, 8]), (129, .iload_n 2, []), (130, .laload, []), (131, .lastore, []), (132, .aload_n 0, []), (133, .dup, []), (134, .getfield 233, [10, 20]), (137, .iconst (.ofNat 1), []), (138, .iadd, []), (139, .putfield 233, [10, 20, 0]), (142, .aload_n 0, []), (143, .getfield 43, [10, 22]), (146, .aload_n 0, []), (147, .getfield 230, [10, 19]), (150, .dup2, []), (151, .iaload, []), (152, .iconst (.ofNat 1), []), (153, .iadd, []), (154, .iastore, []), (155, .return_, [])]
/-- OneClockModel.tellBoard -/
def am_m158 : am_Info := (10, am_c158, 4, none, 3)
def am_c159 : List am_Ent := [(0, .iconst (.ofNat 0), []), (1, .istore_n 1, []), (2, .aload_n 0, []), (3, .getfield 197, [10, 13]), (6, .ifCond .ne 55, [61]), (9, .aload_n 0, []), (10, .iconst (.ofNat 2), []), (11, .invokevirtual 215, [147, 1, 10]), (14, .ifCond .eq 47, [61]), (17, .iload_n 1, []), (18, .iconst (.ofNat 4), []), (19, .if_icmp .ne 8, [27]), (22, .aload_n 0, []), (23, .iconst (.ofNat 2), []), (24, .invokevirtual 212, [148, 1, 10]), (27, .aload_n 0, []), (28, .getfield 197, [10, 13]), (31, .ifCond .le 4, [35]), (34, .return_, []), (35, .aload_n 0, []), (36, .getfield 55, [10, 26]), (39, .iconst (.ofNat 4), []), (40, .aload_n 0, []), (41, .getfield 230, [10, 19]), (44, .imul, []), (45, .iload_n 1, []), (46, .iadd, []), (47, .aload_n 0, []), (48, .iconst (.ofNat 0), []), (49, .bipush (.ofNat 60), []), (51, .invokevirtual 264, [157, 2, 10]), (54, .iastore, []), (55, .iinc 1 (.ofNat 1), []), (58, .goto (-56), [2]), (61, .aload_n 0, []), (62, .iconst (.ofNat 4), []), (63, .invokevirtual 268, [151, 1, 10]), (66, .iload_n 1, []), (67, .ifCond .ne 17, [84]), (70, .aload_n 0, []), (71, .getfield 55, [10, 26]), (74, .iconst (.ofNat 4), []), (75, .aload_n 0, []), (76, .getfield 230, [10, 19]), (79, .imul, []), (80, .iconst (.ofNat 1), []), (81, .iastore, []), (82, .iconst (.ofNat 1), []), (83, .istore_n 1, []), (84, .aload_n 0, []), (85, .getfield 52, [10, 25]), (88, .aload_n 0, []), (89, .getfield 230, [10, 19]), (92, .iload_n 1, []), (93, .iastore, []), (94, .return_, [])]
/-- OneClockModel.tellThinks -/
def am_m159 : am_Info := (10, am_c159, 2, none, 3)
def am_c160 : List am_Ent := [(0, .aload_n 0, []), (1, .iconst (.ofNat 5), []), (2, .invokevirtual 268, [151, 1, 10]), (5, .aload_n 0, []), (6, .getfield 236, [10, 32]), (9, .istore_n 2, []), (10, .iconst (.ofNat 0), []), (11, .istore_n 3, []), (12, .aload_n 0, []), (13, .getfield 197, [10, 13]), (16, .ifCond .ne 113, [129]), (19, .aload_n 0, []), (20, .bipush (.ofNat 28), []), (22, .invokevirtual 215, [147, 1, 10]), (25, .ifCond .eq 104, [129]), (28, .iload_n 3, []), (29, .iconst (.ofNat 4), []), (30, .if_icmp .ne 8, [38]), (33, .aload_n 0, []), (34, .iconst (.ofNat 2), []), (35, .invokevirtual 212, [148, 1, 10]), (38, .aload_n 0, []), (39, .getfield 197, [10, 13]), (42, .ifCond .le 4, [46]), (45, .return_, []), (46, .iinc 3 (.ofNat 1), []), (49, .aload_n 0, []), (50, .invokevirtual 218, [150, 0, 10]), (53, .aload_n 0, []), (54, .getfield 73, [10, 33]), (57, .aload_n 0, []), (58, .getfield 236, [10, 32]), (61, .iconst (.ofNat 1), []), (62, .bastore, []), (63, .aload_n 0, []), (64, .getfield 77, [10, 34]), (67, .aload_n 0, []), (68, .getfield 236, [10, 32]), (71, .aload_n 0, []), (72, .getfield 239, [10, 38]), (75, .iastore, []), (76, .aload_n 0, []), (77, .invokevirtual 275, [164, 0, 10]), (80, .aload_n 0, []), (81, .bipush (.ofNat 13), []), (83, .invokevirtual 268, [151, 1, 10]), (86, .aload_n 0, []), (87, .getfield 80, [10, 35]), (90, .aload_n 0, []), (91, .getfield 236, [10, 32]), (94, .aload_n 0, []), (95, .getfield 239, [10, 38]), (98, .iastore, []), (99, .aload_n 0, []), (100, .getfield 197, [10, 13]), (103, .ifCond .ne 7, [110]), (106, .aload_n 0, []), (107, .invokevirtual 275, [164, 0, 10]), (110, .aload_n 0, []), (111, .bipush (.ofNat 29), []), (113, .invokevirtual 268, [151, 1, 10]), (116, .aload_n 0, []), (117, .invokevirtual 278, [161, 0, 10]), (120, .aload_n 0, []), (121, .bipush (.ofNat 30), []), (123, .invokevirtual 268, [151, 1, 10]), (126, .goto (-114), [12]), (129, .aload_n 0, []), (130, .getfield 73, [10, 33]), (133, .aload_n 0, []), (134, .getfield 236, [10, 32]), (137, .iconst (.ofNat 0), []), (138, .bastore, []), (139, .aload_n 0, []), (140, .invokevirtual 278, [161, 0, 10]), (143, .aload_n 0, []), (144, .iconst (.ofNat 4), []), (145, .invokevirtual 268, [151, 1, 10]), (148, .aload_n 0, []), (149, .getfield 197, [10, 13]), (152, .ifCond .gt 7, [159]), (155, .iload_n 1, []), (156, .ifCond .ge 4, [160]), (159, .return_, []), (160, .aload_n 0, []), (161, .getfield 67, [10, 30]), (164, .bipush (.ofNat 18), []), (166, .aload_n 0, []), (167, .getfield 230, [10, 19]), (170, .imul, []), (171, .iload_n 1, []), (172, .iadd, []), (173, .iload_n 2, []), (174, .iastore, []), (175, .aload_n 0, []), (176, .getfield 70, [10, 31]), (179, .bipush (.ofNat 18), []), (181, .aload_n 0, []), (182, .getfield 230, [10, 19]), (185, .imul, []), (186, .iload_n 1, []), (187, .iadd, []), (188, .aload_n 0, []), (189, .getfield 236, [10, 32]), (192, .iastore, []), (193, .return_, [])]
/-- OneClockModel.tellLaw -/
def am_m160 : am_Info := (10, am_c160, 4, none, 5)
def am_c161 : List am_Ent := [(0, .aload_n 0, []), (1, .getfield 83, [10, 36]), (4, .aload_n 0, []), (5, .getfield 236, [10, 32]), (8, .aload_n 0, []), (9, .getfield 239, [10, 38]), (12, .iastore, []), (13, .aload_n 0, []), (14, .getfield 197, [10, 13]), (17, .ifCond .ne 7, [24]), (20, .aload_n 0, []), (21, .invokevirtual 275, [164, 0, 10]), (24, .aload_n 0, []), (25, .getfield 86, [10, 37]), (28, .aload_n 0, []), (29, .getfield 236, [10, 32]), (32, .aload_n 0, []), (33, .getfield 239, [10, 38]), (36, .iastore, []), (37, .aload_n 0, []), (38, .dup, []), (39, .getfield 236, [10, 32]), (42, .iconst (.ofNat 1), []), (43, .iadd, []), (44, .putfield 236, [10, 32, 0]), (47, .return_, [])]
/-- OneClockModel.term -/
def am_m161 : am_Info := (10, am_c161, 1, none, 4)
def am_c162 : List am_Ent := [(0, .aload_n 0, []), (1, .getfield 89, [10, 39]), (4, .aload_n 0, []), (5, .getfield 239, [10, 38]), (8, .iload_n 1, []), (9, .iastore, []), (10, .aload_n 0, []), (11, .getfield 92, [10, 40]), (14, .aload_n 0, []), (15, .getfield 239, [10, 38]), (18, .iload_n 2, []), (19, .iastore, []), (20, .aload_n 0, []), (21, .dup, []), (22, .getfield 239, [10, 38]), (25, .iconst (.ofNat 1), []), (26, .iadd, []), (27, .putfield 239, [10, 38, 0]), (30, .return_, [])]
/-- OneClockModel.emit -/
def am_m162 : am_Info := (10, am_c162, 3, none, 0)
def am_c163 : List am_Ent := [(0, .aload_n 0, []), (1, .getfield 281, [10, 42]), (4, .ifCond .le 87, [91]), (7, .aload_n 0, []), (8, .getfield 95, [10, 41]), (11, .aload_n 0, []), (12, .getfield 281, [10, 42]), (15, .iconst (.ofNat 1), []), (16, .isub, []), (17, .iaload, []), (18, .istore_n 2, []), (19, .iload_n 2, []), (20, .bipush (.ofNat 6), []), (22, .if_icmp .eq 19, [41]), (25, .iload_n 1, []), (26, .ifCond .eq 16, [42]), (29, .iload_n 2, []), (30, .bipush (.ofNat 8), []), (32, .if_icmp .eq 9, [41]), (35, .iload_n 2, []), (36, .bipush (.ofNat 9), []), (38, .if_icmp .ne 4, [42]), (41, .return_, []), (42, .aload_n 0, []), (43, .dup, []), (44, .getfield 281, [10, 42]), (47, .iconst (.ofNat 1), []), (48, .isub, []), (49, .putfield 281, [10, 42, 0]), (52, .aload_n 0, []), (53, .iload_n 2, []), (54, .bipush (.ofNat 8), []), (56, .if_icmp .ne 7, [63]), (59, .iconst (.ofNat 2), []), (60, .goto 24, [84]), (63, .iload_n 2, []), (64, .bipush (.ofNat 9), []), (66, .if_icmp .ne 7, [73]), (69, .iconst (.ofNat 3), []), (70, .goto 14, [84]), (73, .iload_n 2, []), (74, .bipush (.ofNat 10), []), (76, .if_icmp .ne 7, [83]), (79, .iconst (.ofNat 4), []), (80, .goto 4, [84]), (83, .iconst (.ofNat 5), []), (84, .iconst (.ofNat 0), []), (85, .invokevirtual 284, [162, 2, 10]), (88, .goto (-88), [0]), (91, .return_, [])]
/-- OneClockModel.comesOut -/
def am_m163 : am_Info := (10, am_c163, 3, none, 1)
def am_c164 : List am_Ent := [(0, .aload_n 0, []), (1, .iconst (.ofNat 0), []), (2, .putfield 281, [10, 42, 0]), (5, .aload_n 0, []), (6, .getfield 224, [10, 12]), (9, .istore_n 1, []), (10, .iconst (.ofNat 1), []), (11, .istore_n 2, []), (12, .iload_n 2, []), (13, .ifCond .eq 259, [272]), (16, .aload_n 0, []), (17, .getfield 197, [10, 13]), (20, .ifCond .ne 252, [272]), (23, .aload_n 0, []), (24, .bipush (.ofNat 6), []), (26, .invokevirtual 215, [147, 1, 10]), (29, .ifCond .eq 55, [84]), (32, .aload_n 0, []), (33, .getfield 224, [10, 12]), (36, .bipush (.ofNat 6), []), (38, .if_icmp .ne 8, [46]), (41, .aload_n 0, []), (42, .iconst (.ofNat 2), []), (43, .invokevirtual 212, [148, 1, 10]), (46, .aload_n 0, []), (47, .dup, []), (48, .getfield 224, [10, 12]), (51, .iconst (.ofNat 1), []), (52, .iadd, []), (53, .putfield 224, [10, 12, 0]), (56, .aload_n 0, []), (57, .invokevirtual 218, [150, 0, 10]), (60, .aload_n 0, []), (61, .getfield 95, [10, 41]), (64, .aload_n 0, []), (65, .getfield 281, [10, 42]), (68, .bipush (.ofNat 6), []), (70, .iastore, []), (71, .aload_n 0, []), (72, .dup, []), (73, .getfield 281, [10, 42]), (76, .iconst (.ofNat 1), []), (77, .iadd, []), (78, .putfield 281, [10, 42, 0]), (81, .goto (-58), [23]), (84, .aload_n 0, []), (85, .invokevirtual 287, [165, 0, 10]), (88, .aload_n 0, []), (89, .getfield 197, [10, 13]), (92, .ifCond .le 4, [96]), (95, .return_, []), (96, .aload_n 0, []), (97, .bipush (.ofNat 7), []), (99, .invokevirtual 215, [147, 1, 10]), (102, .ifCond .eq 43, [145]), (105, .aload_n 0, []), (106, .getfield 224, [10, 12]), (109, .iload_n 1, []), (110, .if_icmp .le 35, [145]), (113, .aload_n 0, []), (114, .iconst (.ofNat 0), []), (115, .invokevirtual 290, [163, 1, 10]), (118, .aload_n 0, []), (119, .dup, []), (120, .getfield 281, [10, 42]), (123, .iconst (.ofNat 1), []), (124, .isub, []), (125, .putfield 281, [10, 42, 0]), (128, .aload_n 0, []), (129, .dup, []), (130, .getfield 224, [10, 12]), (133, .iconst (.ofNat 1), []), (134, .isub, []), (135, .putfield 224, [10, 12, 0]), (138, .aload_n 0, []), (139, .invokevirtual 218, [150, 0, 10]), (142, .goto (-46), [96]), (145, .aload_n 0, []), (146, .bipush (.ofNat 8), []), (148, .invokevirtual 215, [147, 1, 10]), (151, .ifCond .ne 30, [181]), (154, .aload_n 0, []), (155, .bipush (.ofNat 9), []), (157, .invokevirtual 215, [147, 1, 10]), (160, .ifCond .ne 21, [181]), (163, .aload_n 0, []), (164, .bipush (.ofNat 10), []), (166, .invokevirtual 215, [147, 1, 10]), (169, .ifCond .ne 12, [181]), (172, .aload_n 0, []), (173, .bipush (.ofNat 15), []), (175, .invokevirtual 215, [147, 1, 10]), (178, .ifCond .eq 7, [185]), (181, .iconst (.ofNat 1), []), (182, .goto 4, [186]), (185, .iconst (.ofNat 0), []), (186, .istore_n 2, []), (187, .iload_n 2, []), (188, .ifCond .ne 22, [210]), (191, .aload_n 0, []), (192, .getfield 224, [10, 12]), (195, .iload_n 1, []), (196, .if_icmp .le 8, [204]), (199, .aload_n 0, []), (200, .iconst (.ofNat 1), []), (201, .invokevirtual 212, [148, 1, 10]), (204, .aload_n 0, []), (205, .iconst (.ofNat 0), []), (206, .invokevirtual 290, [163, 1, 10]), (209, .return_, []), (210, .aload_n 0, []), (211, .aload_n 0, []), (212, .bipush (.ofNat 10), []), (214, .invokevirtual 215, [147, 1, 10]), (217, .ifCond .ne 12, [229]), (220, .aload_n 0, []), (221, .bipush (.ofNat 15), []), (223, .invokevirtual 215, [147, 1, 10]), (226, .ifCond .eq 7, [233]), (229, .iconst (.ofNat 1), []), (230, .goto 4, [234]), (233, .iconst (.ofNat 0), []), (234, .invokevirtual 290, [163, 1, 10]), (237, .aload_n 0, []), (238, .getfield 95, [10, 41]), (241, .aload_n 0, []), (242, .getfield 281, [10, 42]), (245, .aload_n 0, []), (246, .getfield 20, [10, 5]), (249, .aload_n 0, []), (250, .getfield 200, [10, 11]), (253, .iaload, []), (254, .iastore, []), (255, .aload_n 0, []), (256, .dup, []), (257, .getfield 281, [10, 42]), (260, .iconst (.ofNat 1), []), (261, .iadd, []), (262, .putfield 281, [10, 42, 0]), (265, .aload_n 0, []), (266, .invokevirtual 218, [150, 0, 10]), (269, .goto (-257), [12]), (272, .return_, [])]
/-- OneClockModel.expression -/
def am_m164 : am_Info := (10, am_c164, 3, none, 3)
def am_c165 : List am_Ent := [(0, .aload_n 0, []), (1, .iconst (.ofNat 2), []), (2, .invokevirtual 215, [147, 1, 10]), (5, .ifCond .eq 24, [29]), (8, .aload_n 0, []), (9, .iconst (.ofNat 0), []), (10, .aload_n 0, []), (11, .getfield 27, [10, 7]), (14, .aload_n 0, []), (15, .getfield 200, [10, 11]), (18, .iaload, []), (19, .invokevirtual 284, [162, 2, 10]), (22, .aload_n 0, []), (23, .invokevirtual 218, [150, 0, 10]), (26, .goto 67, [93]), (29, .aload_n 0, []), (30, .getfield 197, [10, 13]), (33, .ifCond .ne 55, [88]), (36, .aload_n 0, []), (37, .getfield 20, [10, 5]), (40, .aload_n 0, []), (41, .getfield 200, [10, 11]), (44, .iaload, []), (45, .bipush (.ofNat 31), []), (47, .if_icmp .lt 41, [88]), (50, .aload_n 0, []), (51, .getfield 20, [10, 5]), (54, .aload_n 0, []), (55, .getfield 200, [10, 11]), (58, .iaload, []), (59, .bipush (.ofNat 36), []), (61, .if_icmp .gt 27, [88]), (64, .aload_n 0, []), (65, .iconst (.ofNat 1), []), (66, .aload_n 0, []), (67, .getfield 20, [10, 5]), (70, .aload_n 0, []), (71, .getfield 200, [10, 11]), (74, .iaload, []), (75, .bipush (.ofNat 31), []), (77, .isub, []), (78, .invokevirtual 284, [162, 2, 10]), (81, .aload_n 0, []), (82, .invokevirtual 218, [150, 0, 10]), (85, .goto 8, [93]), (88, .aload_n 0, []), (89, .iconst (.ofNat 1), []), (90, .invokevirtual 212, [148, 1, 10]), (93, .return_, [])]
/-- OneClockModel.unit -/
def am_m165 : am_Info := (10, am_c165, 1, none, 2)
def am_c166 : List am_Ent := [(0, .iconst (.ofNat 0), []), (1, .istore_n 3, []), (2, .iload_n 1, []), (3, .istore 4, []), (5, .iload 4, []), (7, .iload_n 2, []), (8, .if_icmp .ge 157, [165]), (11, .aload_n 0, []), (12, .getfield 89, [10, 39]), (15, .iload 4, []), (17, .iaload, []), (18, .istore 5, []), (20, .iload 5, []), (22, .iconst (.ofNat 2), []), (23, .if_icmp .ge 42, [65]), (26, .aload_n 0, []), (27, .getfield 101, [10, 44]), (30, .iload_n 3, []), (31, .iload 5, []), (33, .ifCond .ne 13, [46]), (36, .aload_n 0, []), (37, .getfield 92, [10, 40]), (40, .iload 4, []), (42, .iaload, []), (43, .goto 15, [58]), (46, .aload_n 0, []), (47, .getfield 98, [10, 43]), (50, .aload_n 0, []), (51, .getfield 92, [10, 40]), (54, .iload 4, []), (56, .iaload, []), (57, .iaload, []), (58, .iastore, []), (59, .iinc 3 (.ofNat 1), []), (62, .goto 97, [159]), (65, .iinc 3 (.negSucc 0), []), (68, .aload_n 0, []), (69, .getfield 101, [10, 44]), (72, .iload_n 3, []), (73, .iconst (.ofNat 1), []), (74, .isub, []), (75, .iaload, []), (76, .istore 6, []), (78, .aload_n 0, []), (79, .getfield 101, [10, 44]), (82, .iload_n 3, []), (83, .iaload, []), (84, .istore 7, []), (86, .iload 5, []), (88, .iconst (.ofNat 5), []), (89, .if_icmp .ne 15, [104]), (92, .iload 7, []), (94, .ifCond .ne 10, [104]), (97, .aload_n 0, []), (98, .iconst (.ofNat 1), []), (99, .putfield 294, [10, 45, 1]), (102, .iconst (.ofNat 0), []), (103, .ireturn, []), (104, .aload_n 0, []), (105, .getfield 101, [10, 44]), (108, .iload_n 3, []), (109, .iconst (.ofNat 1), []), (110, .isub, []), (111, .iload 5, []), (113, .iconst (.ofNat 2), []), (114, .if_icmp .ne 11, [125]), (117, .iload 6, []), (119, .iload 7, []), (121, .iadd, []), (122, .goto 36, [158]), (125, .iload 5, []), (127, .iconst (.ofNat 3), []), (128, .if_icmp .ne 11, [139]), (131, .iload 6, []), (133, .iload 7, []), (135, .isub, []), (136, .goto 22, [158]), (139, .iload 5, []), (141, .iconst (.ofNat 4), []), (142, .if_icmp .ne 11, [153]), (145, .iload 6, []), (147, .iload 7, []), (149, .imul, []), (150, .goto 8, [158]), (153, .iload 6, []), (155, .iload 7, []), (157, .idiv, []), (158, .iastore, []), (159, .iinc 4 (.ofNat 1), []), (162, .goto (-157), [5]), (165, .aload_n 0, []), (166, .getfield 101, [10, 44]), (169, .iconst (.ofNat 0), []), (170, .iaload, []), (171, .ireturn, [])]
/-- OneClockModel.termOf -/
def am_m166 : am_Info := (10, am_c166, 8, some .int, 0)
def am_c167 : List am_Ent := [(0, .iload_n 0, []), (1, .iload_n 1, []), (2, .if_icmp .lt 12, [14]), (5, .iload_n 0, []), (6, .iload_n 2, []), (7, .if_icmp .gt 7, [14]), (10, .iconst (.ofNat 1), []), (11, .goto 4, [15]), (14, .iconst (.ofNat 0), []), (15, .ireturn, [])]
/-- OneClockModel.in -/
def am_m167 : am_Info := (10, am_c167, 3, some .boolean, 0)
def am_c168 : List am_Ent := [(0, .iload_n 1, []), (1, .iconst (.ofNat 0), []), (2, .aload_n 0, []), (3, .getfield 43, [10, 22]), (6, .aload_n 0, []), (7, .getfield 227, [10, 18]), (10, .iaload, []), (11, .iconst (.ofNat 1), []), (12, .isub, []), (13, .invokestatic 298, [167, 3]), (16, .ireturn, [])]
/-- OneClockModel.isBoard -/
def am_m168 : am_Info := (10, am_c168, 2, some .boolean, 1)
def am_c169 : List am_Ent := [(0, .iconst (.ofNat 0), []), (1, .istore_n 2, []), (2, .iload_n 2, []), (3, .bipush (.ofNat 40), []), (5, .if_icmp .ge 16, [21]), (8, .aload_n 0, []), (9, .getfield 107, [10, 47]), (12, .iload_n 2, []), (13, .iconst (.ofNat 0), []), (14, .iastore, []), (15, .iinc 2 (.ofNat 1), []), (18, .goto (-16), [2]), (21, .iconst (.ofNat 1), []), (22, .istore_n 2, []), (23, .iconst (.ofNat 0), []), (24, .istore_n 3, []), (25, .iload_n 3, []), (26, .bipush (.ofNat 6), []), (28, .if_icmp .ge 84, [112]), (31, .aload_n 0, []), (32, .getfield 107, [10, 47]), (35, .bipush (.ofNat 24), []), (37, .iload_n 3, []), (38, .iadd, []), (39, .iload_n 3, []), (40, .iastore, []), (41, .aload_n 0, []), (42, .getfield 110, [10, 48]), (45, .iload_n 3, []), (46, .iconst (.ofNat 0), []), (47, .iastore, []), (48, .iload_n 3, []), (49, .aload_n 0, []), (50, .getfield 43, [10, 22]), (53, .aload_n 0, []), (54, .getfield 227, [10, 18]), (57, .iaload, []), (58, .if_icmp .ge 48, [106]), (61, .iload_n 1, []), (62, .iload_n 3, []), (63, .ishr, []), (64, .iconst (.ofNat 1), []), (65, .iand, []), (66, .ifCond .ne 6, [72]), (69, .goto 37, [106]), (72, .aload_n 0, []), (73, .getfield 107, [10, 47]), (76, .iload_n 3, []), (77, .aload_n 0, []), (78, .getfield 46, [10, 23]), (81, .bipush (.ofNat 6), []), (83, .aload_n 0, []), (84, .getfield 227, [10, 18]), (87, .imul, []), (88, .iload_n 3, []), (89, .iadd, []), (90, .iaload, []), (91, .iastore, []), (92, .iload_n 2, []), (93, .ifCond .eq 11, [104]), (96, .aload_n 0, []), (97, .getfield 107, [10, 47]), (100, .bipush (.ofNat 31), []), (102, .iload_n 3, []), (103, .iastore, []), (104, .iconst (.ofNat 0), []), (105, .istore_n 2, []), (106, .iinc 3 (.ofNat 1), []), (109, .goto (-84), [25]), (112, .aload_n 0, []), (113, .iconst (.negSucc 0), []), (114, .putfield 302, [10, 49, 0]), (117, .return_, [])]
/-- OneClockModel.begins0 -/
def am_m169 : am_Info := (10, am_c169, 4, none, 0)
def am_c170 : List am_Ent := [(0, .iconst (.ofNat 0), []), (1, .istore_n 1, []), (2, .iload_n 1, []), (3, .bipush (.ofNat 40), []), (5, .if_icmp .ge 21, [26]), (8, .aload_n 0, []), (9, .getfield 107, [10, 47]), (12, .iload_n 1, []), (13, .aload_n 0, []), (14, .getfield 104, [10, 46]), (17, .iload_n 1, []), (18, .iaload, []), (19, .iastore, []), (20, .iinc 1 (.ofNat 1), []), (23, .goto (-21), [2]), (26, .iconst (.ofNat 0), []), (27, .istore_n 1, []), (28, .iload_n 1, []), (29, .bipush (.ofNat 6), []), (31, .if_icmp .ge 16, [47]), (34, .aload_n 0, []), (35, .getfield 110, [10, 48]), (38, .iload_n 1, []), (39, .iconst (.ofNat 0), []), (40, .iastore, []), (41, .iinc 1 (.ofNat 1), []), (44, .goto (-16), [28]), (47, .aload_n 0, []), (48, .iconst (.negSucc 0), []), (49, .putfield 302, [10, 49, 0]), (52, .return_, [])]
/-- OneClockModel.copies -/
def am_m170 : am_Info := (10, am_c170, 2, none, 0)
def am_c171 : List am_Ent := [(0, .aload_n 0, []), (1, .getfield 107, [10, 47]), (4, .iload_n 1, []), (5, .iaload, []), (6, .ifCond .le 19, [25]), (9, .aload_n 0, []), (10, .getfield 107, [10, 47]), (13, .bipush (.ofNat 18), []), (15, .iload_n 1, []), (16, .iadd, []), (17, .iaload, []), (18, .ifCond .ne 7, [25]), (21, .iconst (.ofNat 1), []), (22, .goto 4, [26]), (25, .iconst (.ofNat 0), []), (26, .ireturn, [])]
/-- OneClockModel.isOpen -/
def am_m171 : am_Info := (10, am_c171, 2, some .boolean, 0)
def am_c172 : List am_Ent := [(0, .iconst (.ofNat 0), []), (1, .istore_n 1, []), (2, .iconst (.ofNat 0), []), (3, .istore_n 2, []), (4, .iload_n 2, []), (5, .aload_n 0, []), (6, .getfield 43, [10, 22]), (9, .aload_n 0, []), (10, .getfield 227, [10, 18]), (13, .iaload, []), (14, .if_icmp .ge 20, [34]), (17, .aload_n 0, []), (18, .iload_n 2, []), (19, .invokevirtual 305, [171, 1, 10]), (22, .ifCond .eq 6, [28]), (25, .iinc 1 (.ofNat 1), []), (28, .iinc 2 (.ofNat 1), []), (31, .goto (-27), [4]), (34, .iload_n 1, []), (35, .ireturn, [])]
/-- OneClockModel.openAll -/
def am_m172 : am_Info := (10, am_c172, 3, some .int, 1)
def am_c173 : List am_Ent := [(0, .aload_n 0, []), (1, .getfield 107, [10, 47]), (4, .bipush (.ofNat 33), []), (6, .iaload, []), (7, .iconst (.ofNat 1), []), (8, .if_icmp .eq 29, [37]), (11, .aload_n 0, []), (12, .getfield 107, [10, 47]), (15, .bipush (.ofNat 30), []), (17, .iaload, []), (18, .aload_n 0, []), (19, .getfield 61, [10, 28]), (22, .aload_n 0, []), (23, .getfield 227, [10, 18]), (26, .iaload, []), (27, .if_icmp .eq 10, [37]), (30, .aload_n 0, []), (31, .invokevirtual 308, [172, 0, 10]), (34, .ifCond .ne 7, [41]), (37, .iconst (.ofNat 1), []), (38, .goto 4, [42]), (41, .iconst (.ofNat 0), []), (42, .ireturn, [])]
/-- OneClockModel.isOver -/
def am_m173 : am_Info := (10, am_c173, 1, some .boolean, 2)
def am_c174 : List am_Ent := [(0, .aload_n 0, []), (1, .getfield 107, [10, 47]), (4, .bipush (.ofNat 24), []), (6, .iload_n 1, []), (7, .iadd, []), (8, .iaload, []), (9, .aload_n 0, []), (10, .getfield 107, [10, 47]), (13, .bipush (.ofNat 24), []), (15, .aload_n 0, []), (16, .getfield 107, [10, 47]), (19, .bipush (.ofNat 31), []), (21, .iaload, []), (22, .iadd, []), (23, .iaload, []), (24, .isub, []), (25, .istore_n 2, []), (26, .iload_n 2, []), (27, .ifCond .ge 6, [33]), (30, .iload_n 2, []), (31, .ineg, []), (32, .istore_n 2, []), (33, .iload_n 2, []), (34, .aload_n 0, []), (35, .getfield 43, [10, 22]), (38, .aload_n 0, []), (39, .getfield 227, [10, 18]), (42, .iaload, []), (43, .iload_n 2, []), (44, .isub, []), (45, .if_icmp .ge 7, [52]), (48, .iload_n 2, []), (49, .goto 14, [63]), (52, .aload_n 0, []), (53, .getfield 43, [10, 22]), (56, .aload_n 0, []), (57, .getfield 227, [10, 18]), (60, .iaload, []), (61, .iload_n 2, []), (62, .isub, []), (63, .ireturn, [])]
/-- OneClockModel.stepsTo -/
def am_m174 : am_Info := (10, am_c174, 3, some .int, 0)
def am_c175 : List am_Ent := [(0, .aload_n 0, []), (1, .getfield 107, [10, 47]), (4, .bipush (.ofNat 30), []), (6, .iaload, []), (7, .aload_n 0, []), (8, .getfield 58, [10, 27]), (11, .aload_n 0, []), (12, .getfield 227, [10, 18]), (15, .iaload, []), (16, .aload_n 0, []), (17, .iload_n 1, []), (18, .invokevirtual 311, [174, 1, 10]), (21, .imul, []), (22, .iadd, []), (23, .istore_n 2, []), (24, .iload_n 2, []), (25, .aload_n 0, []), (26, .getfield 107, [10, 47]), (29, .bipush (.ofNat 6), []), (31, .iload_n 1, []), (32, .iadd, []), (33, .iaload, []), (34, .if_icmp .ge 15, [49]), (37, .aload_n 0, []), (38, .getfield 107, [10, 47]), (41, .bipush (.ofNat 6), []), (43, .iload_n 1, []), (44, .iadd, []), (45, .iaload, []), (46, .goto 4, [50]), (49, .iload_n 2, []), (50, .ireturn, [])]
/-- OneClockModel.beginsAt -/
def am_m175 : am_Info := (10, am_c175, 3, some .int, 1)
def am_c176 : List am_Ent := [(0, .aload_n 0, []), (1, .getfield 67, [10, 30]), (4, .iload_n 1, []), (5, .iaload, []), (6, .aload_n 0, []), (7, .getfield 70, [10, 31]), (10, .iload_n 1, []), (11, .iaload, []), (12, .if_icmp .ne 5, [17]), (15, .iload_n 2, []), (16, .ireturn, []), (17, .aload_n 0, []), (18, .iconst (.ofNat 0), []), (19, .putfield 294, [10, 45, 1]), (22, .aload_n 0, []), (23, .getfield 67, [10, 30]), (26, .iload_n 1, []), (27, .iaload, []), (28, .istore 5, []), (30, .iload 5, []), (32, .aload_n 0, []), (33, .getfield 70, [10, 31]), (36, .iload_n 1, []), (37, .iaload, []), (38, .if_icmp .ge 134, [172]), (41, .aload_n 0, []), (42, .getfield 73, [10, 33]), (45, .iload 5, []), (47, .baload, []), (48, .ifCond .eq 62, [110]), (51, .aload_n 0, []), (52, .aload_n 0, []), (53, .getfield 77, [10, 34]), (56, .iload 5, []), (58, .iaload, []), (59, .aload_n 0, []), (60, .getfield 80, [10, 35]), (63, .iload 5, []), (65, .iaload, []), (66, .invokevirtual 314, [166, 2, 10]), (69, .istore 6, []), (71, .aload_n 0, []), (72, .aload_n 0, []), (73, .getfield 80, [10, 35]), (76, .iload 5, []), (78, .iaload, []), (79, .aload_n 0, []), (80, .getfield 83, [10, 36]), (83, .iload 5, []), (85, .iaload, []), (86, .invokevirtual 314, [166, 2, 10]), (89, .istore 7, []), (91, .aload_n 0, []), (92, .getfield 294, [10, 45]), (95, .ifCond .eq 5, [100]), (98, .iconst (.ofNat 0), []), (99, .ireturn, []), (100, .iload 6, []), (102, .iload 7, []), (104, .if_icmp .lt 6, [110]), (107, .goto 59, [166]), (110, .aload_n 0, []), (111, .aload_n 0, []), (112, .getfield 83, [10, 36]), (115, .iload 5, []), (117, .iaload, []), (118, .aload_n 0, []), (119, .getfield 86, [10, 37]), (122, .iload 5, []), (124, .iaload, []), (125, .invokevirtual 314, [166, 2, 10]), (128, .istore 6, []), (130, .aload_n 0, []), (131, .getfield 294, [10, 45]), (134, .ifCond .eq 7, [141]), (137, .iconst (.ofNat 0), []), (138, .goto 27, [165]), (141, .iload 6, []), (143, .iload_n 3, []), (144, .if_icmp .ge 7, [151]), (147, .iload_n 3, []), (148, .goto 17, [165]), (151, .iload 6, []), (153, .iload 4, []), (155, .if_icmp .le 8, [163]), (158, .iload 4, []), (160, .goto 5, [165]), (163, .iload 6, []), (165, .ireturn, []), (166, .iinc 5 (.ofNat 1), []), (169, .goto (-139), [30]), (172, .iconst (.ofNat 0), []), (173, .ireturn, [])]
/-- OneClockModel.tells -/
def am_m176 : am_Info := (10, am_c176, 8, some .int, 1)
def am_c177 : List am_Ent := [(0, .aload_n 0, []), (1, .getfield 98, [10, 43]), (4, .iconst (.ofNat 0), []), (5, .iload_n 2, []), (6, .iastore, []), (7, .aload_n 0, []), (8, .getfield 98, [10, 43]), (11, .iconst (.ofNat 1), []), (12, .aload_n 0, []), (13, .getfield 107, [10, 47]), (16, .bipush (.ofNat 12), []), (18, .iload_n 1, []), (19, .iadd, []), (20, .iaload, []), (21, .iastore, []), (22, .aload_n 0, []), (23, .getfield 98, [10, 43]), (26, .iconst (.ofNat 2), []), (27, .iload_n 3, []), (28, .iastore, []), (29, .aload_n 0, []), (30, .getfield 98, [10, 43]), (33, .iconst (.ofNat 3), []), (34, .iload_n 3, []), (35, .aload_n 0, []), (36, .getfield 107, [10, 47]), (39, .bipush (.ofNat 6), []), (41, .iload_n 1, []), (42, .iadd, []), (43, .iaload, []), (44, .isub, []), (45, .iastore, []), (46, .aload_n 0, []), (47, .getfield 98, [10, 43]), (50, .iconst (.ofNat 4), []), (51, .aload_n 0, []), (52, .getfield 107, [10, 47]), (55, .iload_n 1, []), (56, .iaload, []), (57, .iastore, []), (58, .aload_n 0, []), (59, .getfield 98, [10, 43]), (62, .iconst (.ofNat 5), []), (63, .aload_n 0, []), (64, .getfield 107, [10, 47]), (67, .bipush (.ofNat 32), []), (69, .iaload, []), (70, .iastore, []), (71, .return_, [])]
/-- OneClockModel.setsOf -/
def am_m177 : am_Info := (10, am_c177, 4, none, 0)
def am_c178 : List am_Ent := [(0, .aload_n 0, []), (1, .iload_n 1, []), (2, .iload_n 2, []), (3, .iload_n 3, []), (4, .invokevirtual 317, [177, 3, 10]), (7, .aload_n 0, []), (8, .bipush (.ofNat 18), []), (10, .aload_n 0, []), (11, .getfield 227, [10, 18]), (14, .imul, []), (15, .iload_n 1, []), (16, .iadd, []), (17, .iconst (.ofNat 1), []), (18, .sipush (.negSucc 998), []), (21, .sipush (.ofNat 999), []), (24, .invokevirtual 321, [176, 4, 10]), (27, .ireturn, [])]
/-- OneClockModel.worthOf -/
def am_m178 : am_Info := (10, am_c178, 4, some .int, 2)
def am_c179 : List am_Ent := [(0, .aload_n 0, []), (1, .getfield 107, [10, 47]), (4, .bipush (.ofNat 30), []), (6, .aload_n 0, []), (7, .getfield 61, [10, 28]), (10, .aload_n 0, []), (11, .getfield 227, [10, 18]), (14, .iaload, []), (15, .iastore, []), (16, .aload_n 0, []), (17, .getfield 107, [10, 47]), (20, .bipush (.ofNat 31), []), (22, .iload_n 1, []), (23, .iastore, []), (24, .aload_n 0, []), (25, .getfield 107, [10, 47]), (28, .bipush (.ofNat 32), []), (30, .dup2, []), (31, .iaload, []), (32, .aload_n 0, []), (33, .getfield 64, [10, 29]), (36, .aload_n 0, []), (37, .getfield 227, [10, 18]), (40, .iaload, []), (41, .isub, []), (42, .iastore, []), (43, .aload_n 0, []), (44, .getfield 107, [10, 47]), (47, .bipush (.ofNat 33), []), (49, .iconst (.ofNat 1), []), (50, .iastore, []), (51, .return_, [])]
/-- OneClockModel.falls -/
def am_m179 : am_Info := (10, am_c179, 2, none, 0)
def am_c180 : List am_Ent := [(0, .iload_n 3, []), (1, .iload_n 2, []), (2, .iadd, []), (3, .aload_n 0, []), (4, .getfield 61, [10, 28]), (7, .aload_n 0, []), (8, .getfield 227, [10, 18]), (11, .iaload, []), (12, .if_icmp .le 10, [22]), (15, .aload_n 0, []), (16, .iload_n 1, []), (17, .invokevirtual 325, [179, 1, 10]), (20, .iconst (.ofNat 1), []), (21, .ireturn, []), (22, .aload_n 0, []), (23, .iload_n 1, []), (24, .iload_n 2, []), (25, .iload_n 3, []), (26, .invokevirtual 328, [178, 3, 10]), (29, .istore 4, []), (31, .aload_n 0, []), (32, .bipush (.ofNat 18), []), (34, .aload_n 0, []), (35, .getfield 227, [10, 18]), (38, .imul, []), (39, .bipush (.ofNat 6), []), (41, .iadd, []), (42, .iload_n 1, []), (43, .iadd, []), (44, .iconst (.ofNat 1), []), (45, .iconst (.ofNat 0), []), (46, .bipush (.ofNat 99), []), (48, .invokevirtual 321, [176, 4, 10]), (51, .istore 5, []), (53, .aload_n 0, []), (54, .getfield 107, [10, 47]), (57, .bipush (.ofNat 32), []), (59, .dup2, []), (60, .iaload, []), (61, .iload 4, []), (63, .iadd, []), (64, .iastore, []), (65, .aload_n 0, []), (66, .getfield 107, [10, 47]), (69, .iload_n 1, []), (70, .dup2, []), (71, .iaload, []), (72, .iconst (.ofNat 1), []), (73, .isub, []), (74, .iastore, []), (75, .aload_n 0, []), (76, .getfield 107, [10, 47]), (79, .bipush (.ofNat 12), []), (81, .iload_n 1, []), (82, .iadd, []), (83, .dup2, []), (84, .iaload, []), (85, .iconst (.ofNat 1), []), (86, .iadd, []), (87, .iastore, []), (88, .aload_n 0, []), (89, .getfield 107, [10, 47]), (92, .bipush (.ofNat 30), []), (94, .iload_n 3, []), (95, .iload_n 2, []), (96, .iadd, []), (97, .iastore, []), (98, .aload_n 0, []), (99, .getfield 107, [10, 47]), (102, .bipush (.ofNat 31), []), (104, .iload_n 1, []), (105, .iastore, []), (106, .aload_n 0, []), (107, .getfield 107, [10, 47]), (110, .bipush (.ofNat 6), []), (112, .iload_n 1, []), (113, .iadd, []), (114, .aload_n 0, []), (115, .getfield 107, [10, 47]), (118, .bipush (.ofNat 30), []), (120, .iaload, []), (121, .aload_n 0, []), (122, .getfield 302, [10, 49]), (125, .iload_n 1, []), (126, .if_icmp .ne 7, [133]), (129, .iconst (.ofNat 0), []), (130, .goto 12, [142]), (133, .iload 5, []), (135, .aload_n 0, []), (136, .getfield 110, [10, 48]), (139, .iload_n 1, []), (140, .iaload, []), (141, .iadd, []), (142, .iadd, []), (143, .iastore, []), (144, .iconst (.ofNat 0), []), (145, .ireturn, [])]
/-- OneClockModel.movesFrom -/
def am_m180 : am_Info := (10, am_c180, 6, some .int, 3)
def am_c181 : List am_Ent := [(0, .aload_n 0, []), (1, .iload_n 1, []), (2, .iload_n 2, []), (3, .aload_n 0, []), (4, .iload_n 1, []), (5, .invokevirtual 331, [175, 1, 10]), (8, .invokevirtual 334, [180, 3, 10]), (11, .ireturn, [])]
/-- OneClockModel.movesNow -/
def am_m181 : am_Info := (10, am_c181, 3, some .int, 4)
def am_c182 : List am_Ent := [(0, .aload_n 0, []), (1, .iload_n 1, []), (2, .invokevirtual 331, [175, 1, 10]), (5, .istore_n 2, []), (6, .iload_n 2, []), (7, .aload_n 0, []), (8, .getfield 61, [10, 28]), (11, .aload_n 0, []), (12, .getfield 227, [10, 18]), (15, .iaload, []), (16, .if_icmp .le 10, [26]), (19, .aload_n 0, []), (20, .iload_n 1, []), (21, .invokevirtual 325, [179, 1, 10]), (24, .iconst (.ofNat 2), []), (25, .ireturn, []), (26, .aload_n 0, []), (27, .iload_n 1, []), (28, .iconst (.ofNat 0), []), (29, .iload_n 2, []), (30, .invokevirtual 317, [177, 3, 10]), (33, .aload_n 0, []), (34, .bipush (.ofNat 18), []), (36, .aload_n 0, []), (37, .getfield 227, [10, 18]), (40, .imul, []), (41, .bipush (.ofNat 12), []), (43, .iadd, []), (44, .iload_n 1, []), (45, .iadd, []), (46, .iconst (.ofNat 0), []), (47, .sipush (.negSucc 998), []), (50, .sipush (.ofNat 999), []), (53, .invokevirtual 321, [176, 4, 10]), (56, .istore_n 3, []), (57, .aload_n 0, []), (58, .getfield 107, [10, 47]), (61, .bipush (.ofNat 30), []), (63, .iload_n 2, []), (64, .iastore, []), (65, .aload_n 0, []), (66, .getfield 107, [10, 47]), (69, .bipush (.ofNat 31), []), (71, .iload_n 1, []), (72, .iastore, []), (73, .iload_n 3, []), (74, .ifCond .le 26, [100]), (77, .aload_n 0, []), (78, .getfield 107, [10, 47]), (81, .bipush (.ofNat 32), []), (83, .dup2, []), (84, .iaload, []), (85, .iload_n 3, []), (86, .iadd, []), (87, .iastore, []), (88, .aload_n 0, []), (89, .getfield 107, [10, 47]), (92, .bipush (.ofNat 18), []), (94, .iload_n 1, []), (95, .iadd, []), (96, .iconst (.ofNat 1), []), (97, .iastore, []), (98, .iconst (.ofNat 1), []), (99, .ireturn, []), (100, .aload_n 0, []), (101, .getfield 107, [10, 47]), (104, .bipush (.ofNat 30), []), (106, .iaload, []), (107, .aload_n 0, []), (108, .getfield 61, [10, 28]), (111, .aload_n 0, []), (112, .getfield 227, [10, 18]), (115, .iaload, []), (116, .if_icmp .ge 14, [130]), (119, .aload_n 0, []), (120, .getfield 107, [10, 47]), (123, .bipush (.ofNat 30), []), (125, .dup2, []), (126, .iaload, []), (127, .iconst (.ofNat 1), []), (128, .iadd, []), (129, .iastore, []), (130, .iconst (.ofNat 0), []), (131, .ireturn, [])]
/-- OneClockModel.offersNow -/
def am_m182 : am_Info := (10, am_c182, 4, some .int, 2)
def am_c183 : List am_Ent := [(0, .aload_n 0, []), (1, .getfield 107, [10, 47]), (4, .bipush (.ofNat 32), []), (6, .dup2, []), (7, .iaload, []), (8, .aload_n 0, []), (9, .getfield 49, [10, 24]), (12, .bipush (.ofNat 6), []), (14, .aload_n 0, []), (15, .getfield 227, [10, 18]), (18, .imul, []), (19, .iload_n 1, []), (20, .iadd, []), (21, .iaload, []), (22, .isub, []), (23, .iastore, []), (24, .aload_n 0, []), (25, .getfield 107, [10, 47]), (28, .bipush (.ofNat 18), []), (30, .iload_n 1, []), (31, .iadd, []), (32, .iconst (.ofNat 2), []), (33, .iastore, []), (34, .return_, [])]
/-- OneClockModel.drops -/
def am_m183 : am_Info := (10, am_c183, 2, none, 0)
def am_c184 : List am_Ent := [(0, .aload_n 0, []), (1, .iload_n 1, []), (2, .invokevirtual 337, [168, 1, 10]), (5, .ifCond .ne 5, [10]), (8, .iconst (.negSucc 0), []), (9, .ireturn, []), (10, .aload_n 0, []), (11, .invokevirtual 340, [170, 0, 10]), (14, .iload_n 2, []), (15, .tableswitch 94 (.ofNat 0) 5 #[37, 44, 54, 64, 78, 84], [109, 52, 59, 69, 79, 93, 99]), (52, .aload_n 0, []), (53, .getfield 107, [10, 47]), (56, .iload_n 1, []), (57, .iaload, []), (58, .ireturn, []), (59, .aload_n 0, []), (60, .getfield 107, [10, 47]), (63, .bipush (.ofNat 6), []), (65, .iload_n 1, []), (66, .iadd, []), (67, .iaload, []), (68, .ireturn, []), (69, .aload_n 0, []), (70, .getfield 107, [10, 47]), (73, .bipush (.ofNat 12), []), (75, .iload_n 1, []), (76, .iadd, []), (77, .iaload, []), (78, .ireturn, []), (79, .aload_n 0, []), (80, .iload_n 1, []), (81, .invokevirtual 305, [171, 1, 10]), (84, .ifCond .eq 7, [91]), (87, .iconst (.ofNat 1), []), (88, .goto 4, [92]), (91, .iconst (.ofNat 0), []), (92, .ireturn, []), (93, .aload_n 0, []), (94, .iload_n 1, []), (95, .invokevirtual 311, [174, 1, 10]), (98, .ireturn, []), (99, .aload_n 0, []), (100, .getfield 107, [10, 47]), (103, .bipush (.ofNat 18), []), (105, .iload_n 1, []), (106, .iadd, []), (107, .iaload, []), (108, .ireturn, []), (109, .iconst (.negSucc 0), []), (110, .ireturn, [])]
/-- OneClockModel.board -/
def am_m184 : am_Info := (10, am_c184, 3, some .int, 2)
def am_c185 : List am_Ent := [(0, .aload_n 0, []), (1, .getfield 104, [10, 46]), (4, .bipush (.ofNat 32), []), (6, .iaload, []), (7, .ireturn, [])]
/-- OneClockModel.sum -/
def am_m185 : am_Info := (10, am_c185, 1, some .int, 0)
def am_c186 : List am_Ent := [(0, .aload_n 0, []), (1, .getfield 245, [10, 50]), (4, .bipush (.ofNat 50), []), (6, .if_icmp .ne 43, [49]), (9, .iconst (.ofNat 0), []), (10, .istore_n 1, []), (11, .iload_n 1, []), (12, .sipush (.ofNat 1960), []), (15, .if_icmp .ge 24, [39]), (18, .aload_n 0, []), (19, .getfield 113, [10, 51]), (22, .iload_n 1, []), (23, .aload_n 0, []), (24, .getfield 113, [10, 51]), (27, .iload_n 1, []), (28, .bipush (.ofNat 40), []), (30, .iadd, []), (31, .iaload, []), (32, .iastore, []), (33, .iinc 1 (.ofNat 1), []), (36, .goto (-25), [11]), (39, .aload_n 0, []), (40, .dup, []), (41, .getfield 245, [10, 50]), (44, .iconst (.ofNat 1), []), (45, .isub, []), (46, .putfield 245, [10, 50, 0]), (49, .iconst (.ofNat 0), []), (50, .istore_n 1, []), (51, .iload_n 1, []), (52, .bipush (.ofNat 40), []), (54, .if_icmp .ge 29, [83]), (57, .aload_n 0, []), (58, .getfield 113, [10, 51]), (61, .bipush (.ofNat 40), []), (63, .aload_n 0, []), (64, .getfield 245, [10, 50]), (67, .imul, []), (68, .iload_n 1, []), (69, .iadd, []), (70, .aload_n 0, []), (71, .getfield 104, [10, 46]), (74, .iload_n 1, []), (75, .iaload, []), (76, .iastore, []), (77, .iinc 1 (.ofNat 1), []), (80, .goto (-29), [51]), (83, .aload_n 0, []), (84, .dup, []), (85, .getfield 245, [10, 50]), (88, .iconst (.ofNat 1), []), (89, .iadd, []), (90, .putfield 245, [10, 50, 0]), (93, .iconst (.ofNat 0), []), (94, .istore_n 1, []), (95, .iload_n 1, []), (96, .bipush (.ofNat 40), []), (98, .if_icmp .ge 21, [119]), (101, .aload_n 0, []), (102, .getfield 104, [10, 46]), (105, .iload_n 1, []), (106, .aload_n 0, []), (107, .getfield 107, [10, 47]), (110, .iload_n 1, []), (111, .iaload, []), (112, .iastore, []), (113, .iinc 1 (.ofNat 1), []), (116, .goto (-21), [95]), (119, .return_, [])]
/-- OneClockModel.keeps -/
def am_m186 : am_Info := (10, am_c186, 2, none, 0)
def am_c187 : List am_Ent := [(0, .iload_n 1, []), (1, .iconst (.ofNat 0), []), (2, .aload_n 0, []), (3, .getfield 52, [10, 25]), (6, .aload_n 0, []), (7, .getfield 227, [10, 18]), (10, .iaload, []), (11, .iconst (.ofNat 1), []), (12, .isub, []), (13, .invokestatic 298, [167, 3]), (16, .ireturn, [])]
/-- OneClockModel.isThink -/
def am_m187 : am_Info := (10, am_c187, 2, some .boolean, 1)
def am_c188 : List am_Ent := [(0, .aload_n 0, []), (1, .getfield 55, [10, 26]), (4, .iconst (.ofNat 4), []), (5, .aload_n 0, []), (6, .getfield 227, [10, 18]), (9, .imul, []), (10, .iload_n 1, []), (11, .iadd, []), (12, .iaload, []), (13, .ireturn, [])]
/-- OneClockModel.think -/
def am_m188 : am_Info := (10, am_c188, 2, some .int, 0)
def am_c189 : List am_Ent := [(0, .aload_n 0, []), (1, .iload_n 1, []), (2, .invokevirtual 337, [168, 1, 10]), (5, .ifCond .eq 11, [16]), (8, .aload_n 0, []), (9, .iload_n 2, []), (10, .invokevirtual 343, [187, 1, 10]), (13, .ifCond .ne 5, [18]), (16, .iconst (.negSucc 0), []), (17, .ireturn, []), (18, .aload_n 0, []), (19, .invokevirtual 340, [170, 0, 10]), (22, .aload_n 0, []), (23, .iload_n 1, []), (24, .invokevirtual 305, [171, 1, 10]), (27, .ifCond .eq 10, [37]), (30, .aload_n 0, []), (31, .invokevirtual 346, [173, 0, 10]), (34, .ifCond .eq 5, [39]), (37, .iconst (.ofNat 2), []), (38, .ireturn, []), (39, .aload_n 0, []), (40, .iload_n 1, []), (41, .aload_n 0, []), (42, .iload_n 2, []), (43, .invokevirtual 350, [188, 1, 10]), (46, .invokevirtual 353, [181, 2, 10]), (49, .istore_n 3, []), (50, .aload_n 0, []), (51, .invokevirtual 356, [186, 0, 10]), (54, .iload_n 3, []), (55, .ireturn, [])]
/-- OneClockModel.move -/
def am_m189 : am_Info := (10, am_c189, 4, some .int, 5)
def am_c190 : List am_Ent := [(0, .aload_n 0, []), (1, .iload_n 1, []), (2, .invokevirtual 337, [168, 1, 10]), (5, .ifCond .ne 5, [10]), (8, .iconst (.negSucc 0), []), (9, .ireturn, []), (10, .aload_n 0, []), (11, .invokevirtual 340, [170, 0, 10]), (14, .aload_n 0, []), (15, .iload_n 1, []), (16, .invokevirtual 305, [171, 1, 10]), (19, .ifCond .eq 10, [29]), (22, .aload_n 0, []), (23, .invokevirtual 346, [173, 0, 10]), (26, .ifCond .eq 5, [31]), (29, .iconst (.ofNat 3), []), (30, .ireturn, []), (31, .aload_n 0, []), (32, .iload_n 1, []), (33, .invokevirtual 359, [182, 1, 10]), (36, .istore_n 2, []), (37, .aload_n 0, []), (38, .invokevirtual 356, [186, 0, 10]), (41, .iload_n 2, []), (42, .ireturn, [])]
/-- OneClockModel.offer -/
def am_m190 : am_Info := (10, am_c190, 3, some .int, 3)
def am_c191 : List am_Ent := [(0, .aload_n 0, []), (1, .iload_n 1, []), (2, .invokevirtual 337, [168, 1, 10]), (5, .ifCond .ne 5, [10]), (8, .iconst (.ofNat 0), []), (9, .ireturn, []), (10, .aload_n 0, []), (11, .invokevirtual 340, [170, 0, 10]), (14, .aload_n 0, []), (15, .iload_n 1, []), (16, .invokevirtual 305, [171, 1, 10]), (19, .ifCond .eq 10, [29]), (22, .aload_n 0, []), (23, .invokevirtual 346, [173, 0, 10]), (26, .ifCond .eq 5, [31]), (29, .iconst (.ofNat 0), []), (30, .ireturn, []), (31, .aload_n 0, []), (32, .iload_n 1, []), (33, .invokevirtual 362, [183, 1, 10]), (36, .aload_n 0, []), (37, .invokevirtual 356, [186, 0, 10]), (40, .iconst (.ofNat 1), []), (41, .ireturn, [])]
/-- OneClockModel.drop -/
def am_m191 : am_Info := (10, am_c191, 2, some .boolean, 3)
def am_c192 : List am_Ent := [(0, .aload_n 0, []), (1, .invokevirtual 340, [170, 0, 10]), (4, .iload_n 1, []), (5, .iconst (.ofNat 1), []), (6, .sipush (.ofNat 500), []), (9, .invokestatic 298, [167, 3]), (12, .ifCond .eq 10, [22]), (15, .aload_n 0, []), (16, .invokevirtual 346, [173, 0, 10]), (19, .ifCond .eq 5, [24]), (22, .iconst (.negSucc 0), []), (23, .ireturn, []), (24, .aload_n 0, []), (25, .getfield 107, [10, 47]), (28, .bipush (.ofNat 30), []), (30, .aload_n 0, []), (31, .getfield 107, [10, 47]), (34, .bipush (.ofNat 30), []), (36, .iaload, []), (37, .iload_n 1, []), (38, .iadd, []), (39, .aload_n 0, []), (40, .getfield 61, [10, 28]), (43, .aload_n 0, []), (44, .getfield 227, [10, 18]), (47, .iaload, []), (48, .if_icmp .ge 15, [63]), (51, .aload_n 0, []), (52, .getfield 107, [10, 47]), (55, .bipush (.ofNat 30), []), (57, .iaload, []), (58, .iload_n 1, []), (59, .iadd, []), (60, .goto 12, [72]), (63, .aload_n 0, []), (64, .getfield 61, [10, 28]), (67, .aload_n 0, []), (68, .getfield 227, [10, 18]), (71, .iaload, []), (72, .iastore, []), (73, .aload_n 0, []), (74, .invokevirtual 356, [186, 0, 10]), (77, .aload_n 0, []), (78, .getfield 104, [10, 46]), (81, .bipush (.ofNat 30), []), (83, .iaload, []), (84, .ireturn, [])]
/-- OneClockModel.pause -/
def am_m192 : am_Info := (10, am_c192, 2, some .int, 3)
def am_c193 : List am_Ent := [(0, .aload_n 0, []), (1, .getfield 245, [10, 50]), (4, .ifCond .ne 5, [9]), (7, .iconst (.ofNat 0), []), (8, .ireturn, []), (9, .aload_n 0, []), (10, .dup, []), (11, .getfield 245, [10, 50]), (14, .iconst (.ofNat 1), []), (15, .isub, []), (16, .putfield 245, [10, 50, 0]), (19, .iconst (.ofNat 0), []), (20, .istore_n 1, []), (21, .iload_n 1, []), (22, .bipush (.ofNat 40), []), (24, .if_icmp .ge 29, [53]), (27, .aload_n 0, []), (28, .getfield 104, [10, 46]), (31, .iload_n 1, []), (32, .aload_n 0, []), (33, .getfield 113, [10, 51]), (36, .bipush (.ofNat 40), []), (38, .aload_n 0, []), (39, .getfield 245, [10, 50]), (42, .imul, []), (43, .iload_n 1, []), (44, .iadd, []), (45, .iaload, []), (46, .iastore, []), (47, .iinc 1 (.ofNat 1), []), (50, .goto (-29), [21]), (53, .iconst (.ofNat 1), []), (54, .ireturn, [])]
/-- OneClockModel.undo -/
def am_m193 : am_Info := (10, am_c193, 2, some .boolean, 0)
def am_c194 : List am_Ent := [(0, .aload_n 0, []), (1, .iload_n 1, []), (2, .invokevirtual 337, [168, 1, 10]), (5, .ifCond .ne 5, [10]), (8, .iconst (.negSucc 0), []), (9, .ireturn, []), (10, .aload_n 0, []), (11, .invokevirtual 340, [170, 0, 10]), (14, .aload_n 0, []), (15, .iload_n 1, []), (16, .invokevirtual 305, [171, 1, 10]), (19, .ifCond .eq 11, [30]), (22, .aload_n 0, []), (23, .iload_n 1, []), (24, .invokevirtual 331, [175, 1, 10]), (27, .goto 5, [32]), (30, .bipush (.negSucc 1), []), (32, .ireturn, [])]
/-- OneClockModel.begins -/
def am_m194 : am_Info := (10, am_c194, 2, some .int, 2)
def am_c195 : List am_Ent := [(0, .aload_n 0, []), (1, .getfield 365, [10, 59]), (4, .ifCond .eq 18, [22]), (7, .aload_n 0, []), (8, .getfield 107, [10, 47]), (11, .bipush (.ofNat 32), []), (13, .iaload, []), (14, .aload_n 0, []), (15, .getfield 368, [10, 58]), (18, .if_icmp .gt 4, [22]), (21, .return_, []), (22, .aload_n 0, []), (23, .iconst (.ofNat 1), []), (24, .putfield 365, [10, 59, 1]), (27, .aload_n 0, []), (28, .aload_n 0, []), (29, .getfield 107, [10, 47]), (32, .bipush (.ofNat 32), []), (34, .iaload, []), (35, .putfield 368, [10, 58, 0]), (38, .aload_n 0, []), (39, .iload_n 1, []), (40, .putfield 371, [10, 57, 0]), (43, .iconst (.ofNat 0), []), (44, .istore_n 2, []), (45, .iload_n 2, []), (46, .iload_n 1, []), (47, .if_icmp .ge 33, [80]), (50, .aload_n 0, []), (51, .getfield 122, [10, 54]), (54, .iload_n 2, []), (55, .aload_n 0, []), (56, .getfield 116, [10, 52]), (59, .iload_n 2, []), (60, .iaload, []), (61, .iastore, []), (62, .aload_n 0, []), (63, .getfield 125, [10, 55]), (66, .iload_n 2, []), (67, .aload_n 0, []), (68, .getfield 119, [10, 53]), (71, .iload_n 2, []), (72, .iaload, []), (73, .iastore, []), (74, .iinc 2 (.ofNat 1), []), (77, .goto (-32), [45]), (80, .return_, [])]
/-- OneClockModel.notesRow -/
def am_m195 : am_Info := (10, am_c195, 3, none, 0)
def am_c196 : List am_Ent := [(0, .aload_n 0, []), (1, .getfield 119, [10, 53]), (4, .iload_n 1, []), (5, .dup2, []), (6, .iaload, []), (7, .iconst (.ofNat 1), []), (8, .iadd, []), (9, .iastore, []), (10, .aload_n 0, []), (11, .getfield 116, [10, 52]), (14, .iload_n 1, []), (15, .iaload, []), (16, .aload_n 0, []), (17, .getfield 43, [10, 22]), (20, .aload_n 0, []), (21, .getfield 227, [10, 18]), (24, .iaload, []), (25, .if_icmp .ge 82, [107]), (28, .aload_n 0, []), (29, .getfield 119, [10, 53]), (32, .iload_n 1, []), (33, .iaload, []), (34, .aload_n 0, []), (35, .getfield 52, [10, 25]), (38, .aload_n 0, []), (39, .getfield 227, [10, 18]), (42, .iaload, []), (43, .if_icmp .ge 44, [87]), (46, .aload_n 0, []), (47, .getfield 128, [10, 56]), (50, .bipush (.ofNat 40), []), (52, .iload_n 1, []), (53, .imul, []), (54, .aload_n 0, []), (55, .getfield 116, [10, 52]), (58, .iload_n 1, []), (59, .iaload, []), (60, .iadd, []), (61, .iaload, []), (62, .ifCond .eq 25, [87]), (65, .aload_n 0, []), (66, .getfield 128, [10, 56]), (69, .bipush (.ofNat 40), []), (71, .iload_n 1, []), (72, .imul, []), (73, .bipush (.ofNat 18), []), (75, .iadd, []), (76, .aload_n 0, []), (77, .getfield 116, [10, 52]), (80, .iload_n 1, []), (81, .iaload, []), (82, .iadd, []), (83, .iaload, []), (84, .ifCond .le 23, [107]), (87, .aload_n 0, []), (88, .getfield 116, [10, 52]), (91, .iload_n 1, []), (92, .dup2, []), (93, .iaload, []), (94, .iconst (.ofNat 1), []), (95, .iadd, []), (96, .iastore, []), (97, .aload_n 0, []), (98, .getfield 119, [10, 53]), (101, .iload_n 1, []), (102, .iconst (.ofNat 0), []), (103, .iastore, []), (104, .goto (-94), [10]), (107, .aload_n 0, []), (108, .getfield 116, [10, 52]), (111, .iload_n 1, []), (112, .iaload, []), (113, .aload_n 0, []), (114, .getfield 43, [10, 22]), (117, .aload_n 0, []), (118, .getfield 227, [10, 18]), (121, .iaload, []), (122, .if_icmp .ge 7, [129]), (125, .iconst (.ofNat 1), []), (126, .goto 4, [130]), (129, .iconst (.ofNat 0), []), (130, .ireturn, [])]
/-- OneClockModel.nextAt -/
def am_m196 : am_Info := (10, am_c196, 2, some .boolean, 0)
def am_c197 : List am_Ent := [(0, .iconst (.ofNat 0), []), (1, .istore_n 2, []), (2, .iload_n 2, []), (3, .bipush (.ofNat 40), []), (5, .if_icmp .ge 26, [31]), (8, .aload_n 0, []), (9, .getfield 128, [10, 56]), (12, .bipush (.ofNat 40), []), (14, .iload_n 1, []), (15, .imul, []), (16, .iload_n 2, []), (17, .iadd, []), (18, .aload_n 0, []), (19, .getfield 107, [10, 47]), (22, .iload_n 2, []), (23, .iaload, []), (24, .iastore, []), (25, .iinc 2 (.ofNat 1), []), (28, .goto (-26), [2]), (31, .aload_n 0, []), (32, .getfield 116, [10, 52]), (35, .iload_n 1, []), (36, .iconst (.ofNat 0), []), (37, .iastore, []), (38, .aload_n 0, []), (39, .getfield 119, [10, 53]), (42, .iload_n 1, []), (43, .iconst (.negSucc 0), []), (44, .iastore, []), (45, .return_, [])]
/-- OneClockModel.opens -/
def am_m197 : am_Info := (10, am_c197, 3, none, 0)
def am_c198 : List am_Ent := [(0, .aload_n 0, []), (1, .invokevirtual 340, [170, 0, 10]), (4, .aload_n 0, []), (5, .iconst (.ofNat 0), []), (6, .putfield 365, [10, 59, 1]), (9, .aload_n 0, []), (10, .invokevirtual 346, [173, 0, 10]), (13, .ifCond .eq 9, [22]), (16, .aload_n 0, []), (17, .iconst (.ofNat 0), []), (18, .invokevirtual 374, [195, 1, 10]), (21, .return_, []), (22, .iconst (.ofNat 0), []), (23, .istore_n 2, []), (24, .aload_n 0, []), (25, .iconst (.ofNat 0), []), (26, .invokevirtual 377, [197, 1, 10]), (29, .iload_n 2, []), (30, .ifCond .lt 104, [134]), (33, .aload_n 0, []), (34, .iload_n 2, []), (35, .invokevirtual 380, [196, 1, 10]), (38, .ifCond .ne 9, [47]), (41, .iinc 2 (.negSucc 0), []), (44, .goto (-15), [29]), (47, .iconst (.ofNat 0), []), (48, .istore_n 3, []), (49, .iload_n 3, []), (50, .bipush (.ofNat 40), []), (52, .if_icmp .ge 26, [78]), (55, .aload_n 0, []), (56, .getfield 107, [10, 47]), (59, .iload_n 3, []), (60, .aload_n 0, []), (61, .getfield 128, [10, 56]), (64, .bipush (.ofNat 40), []), (66, .iload_n 2, []), (67, .imul, []), (68, .iload_n 3, []), (69, .iadd, []), (70, .iaload, []), (71, .iastore, []), (72, .iinc 3 (.ofNat 1), []), (75, .goto (-26), [49]), (78, .aload_n 0, []), (79, .aload_n 0, []), (80, .getfield 116, [10, 52]), (83, .iload_n 2, []), (84, .iaload, []), (85, .aload_n 0, []), (86, .aload_n 0, []), (87, .getfield 119, [10, 53]), (90, .iload_n 2, []), (91, .iaload, []), (92, .invokevirtual 350, [188, 1, 10]), (95, .invokevirtual 353, [181, 2, 10]), (98, .pop, []), (99, .iload_n 2, []), (100, .iload_n 1, []), (101, .iconst (.ofNat 1), []), (102, .isub, []), (103, .if_icmp .eq 10, [113]), (106, .aload_n 0, []), (107, .invokevirtual 346, [173, 0, 10]), (110, .ifCond .eq 13, [123]), (113, .aload_n 0, []), (114, .iload_n 2, []), (115, .iconst (.ofNat 1), []), (116, .iadd, []), (117, .invokevirtual 374, [195, 1, 10]), (120, .goto (-91), [29]), (123, .iinc 2 (.ofNat 1), []), (126, .aload_n 0, []), (127, .iload_n 2, []), (128, .invokevirtual 377, [197, 1, 10]), (131, .goto (-102), [29]), (134, .return_, [])]
/-- OneClockModel.findsBest -/
def am_m198 : am_Info := (10, am_c198, 4, none, 5)
def am_c199 : List am_Ent := [(0, .iload_n 1, []), (1, .iconst (.ofNat 1), []), (2, .iconst (.ofNat 4), []), (3, .invokestatic 298, [167, 3]), (6, .ifCond .ne 7, [13]), (9, .ldc_w 383, [1, 1000000]), (12, .ireturn, []), (13, .aload_n 0, []), (14, .iload_n 1, []), (15, .invokevirtual 384, [198, 1, 10]), (18, .aload_n 0, []), (19, .getfield 368, [10, 58]), (22, .ireturn, [])]
/-- OneClockModel.best -/
def am_m199 : am_Info := (10, am_c199, 2, some .int, 6)
def am_c200 : List am_Ent := [(0, .iload_n 1, []), (1, .iconst (.ofNat 1), []), (2, .iconst (.ofNat 4), []), (3, .invokestatic 298, [167, 3]), (6, .ifCond .eq 7, [13]), (9, .iload_n 2, []), (10, .ifCond .ge 5, [15]), (13, .iconst (.negSucc 0), []), (14, .ireturn, []), (15, .aload_n 0, []), (16, .iload_n 1, []), (17, .invokevirtual 384, [198, 1, 10]), (20, .iload_n 2, []), (21, .aload_n 0, []), (22, .getfield 371, [10, 57]), (25, .if_icmp .ge 22, [47]), (28, .bipush (.ofNat 10), []), (30, .aload_n 0, []), (31, .getfield 122, [10, 54]), (34, .iload_n 2, []), (35, .iaload, []), (36, .imul, []), (37, .aload_n 0, []), (38, .getfield 125, [10, 55]), (41, .iload_n 2, []), (42, .iaload, []), (43, .iadd, []), (44, .goto 5, [49]), (47, .bipush (.negSucc 1), []), (49, .ireturn, [])]
/-- OneClockModel.bestAt -/
def am_m200 : am_Info := (10, am_c200, 3, some .int, 6)
def am_c201 : List am_Ent := [(0, .iconst (.negSucc 0), []), (1, .istore_n 3, []), (2, .iconst (.ofNat 0), []), (3, .istore 4, []), (5, .iconst (.ofNat 0), []), (6, .istore 5, []), (8, .iload 5, []), (10, .aload_n 0, []), (11, .getfield 43, [10, 22]), (14, .aload_n 0, []), (15, .getfield 227, [10, 18]), (18, .iaload, []), (19, .if_icmp .ge 105, [124]), (22, .aload_n 0, []), (23, .iload 5, []), (25, .invokevirtual 305, [171, 1, 10]), (28, .ifCond .ne 6, [34]), (31, .goto 87, [118]), (34, .iload_n 1, []), (35, .ifCond .ne 13, [48]), (38, .aload_n 0, []), (39, .iload 5, []), (41, .invokevirtual 331, [175, 1, 10]), (44, .ineg, []), (45, .goto 50, [95]), (48, .iload_n 1, []), (49, .iconst (.ofNat 1), []), (50, .if_icmp .ne 13, [63]), (53, .aload_n 0, []), (54, .getfield 107, [10, 47]), (57, .iload 5, []), (59, .iaload, []), (60, .goto 35, [95]), (63, .iload_n 1, []), (64, .iconst (.ofNat 2), []), (65, .if_icmp .ne 17, [82]), (68, .aload_n 0, []), (69, .getfield 107, [10, 47]), (72, .bipush (.ofNat 6), []), (74, .iload 5, []), (76, .iadd, []), (77, .iaload, []), (78, .ineg, []), (79, .goto 16, [95]), (82, .aload_n 0, []), (83, .iload 5, []), (85, .iload_n 2, []), (86, .aload_n 0, []), (87, .iload 5, []), (89, .invokevirtual 331, [175, 1, 10]), (92, .invokevirtual 328, [178, 3, 10]), (95, .istore 6, []), (97, .iload_n 3, []), (98, .ifCond .lt 13, [111]), (101, .iload 6, []), (103, .iload 4, []), (105, .if_icmp .gt 6, [111]), (108, .goto 10, [118]), (111, .iload 5, []), (113, .istore_n 3, []), (114, .iload 6, []), (116, .istore 4, []), (118, .iinc 5 (.ofNat 1), []), (121, .goto (-113), [8]), (124, .iload_n 3, []), (125, .ireturn, [])]
/-- OneClockModel.nextBy -/
def am_m201 : am_Info := (10, am_c201, 7, some .int, 3)
def am_c202 : List am_Ent := [(0, .aload_n 0, []), (1, .invokevirtual 346, [173, 0, 10]), (4, .ifCond .ne 26, [30]), (7, .aload_n 0, []), (8, .aload_n 0, []), (9, .iload_n 1, []), (10, .aload_n 0, []), (11, .iload_n 2, []), (12, .invokevirtual 350, [188, 1, 10]), (15, .invokevirtual 387, [201, 2, 10]), (18, .aload_n 0, []), (19, .iload_n 2, []), (20, .invokevirtual 350, [188, 1, 10]), (23, .invokevirtual 353, [181, 2, 10]), (26, .pop, []), (27, .goto (-27), [0]), (30, .aload_n 0, []), (31, .getfield 107, [10, 47]), (34, .bipush (.ofNat 32), []), (36, .iaload, []), (37, .ireturn, [])]
/-- OneClockModel.goesBy -/
def am_m202 : am_Info := (10, am_c202, 3, some .int, 5)
def am_c203 : List am_Ent := [(0, .iload_n 1, []), (1, .iconst (.ofNat 0), []), (2, .iconst (.ofNat 3), []), (3, .invokestatic 298, [167, 3]), (6, .ifCond .eq 15, [21]), (9, .aload_n 0, []), (10, .iload_n 2, []), (11, .invokevirtual 343, [187, 1, 10]), (14, .ifCond .eq 7, [21]), (17, .iconst (.ofNat 1), []), (18, .goto 4, [22]), (21, .iconst (.ofNat 0), []), (22, .ireturn, [])]
/-- OneClockModel.isRule -/
def am_m203 : am_Info := (10, am_c203, 3, some .boolean, 2)
def am_c204 : List am_Ent := [(0, .aload_n 0, []), (1, .iload_n 1, []), (2, .iload_n 2, []), (3, .invokevirtual 390, [203, 2, 10]), (6, .ifCond .eq 12, [18]), (9, .iload_n 3, []), (10, .iconst (.ofNat 0), []), (11, .iconst (.ofNat 1), []), (12, .invokestatic 298, [167, 3]), (15, .ifCond .ne 7, [22]), (18, .ldc_w 383, [1, 1000000]), (21, .ireturn, []), (22, .aload_n 0, []), (23, .invokevirtual 340, [170, 0, 10]), (26, .aload_n 0, []), (27, .iload_n 1, []), (28, .iload_n 2, []), (29, .invokevirtual 394, [202, 2, 10]), (32, .istore 4, []), (34, .iload_n 3, []), (35, .ifCond .ne 8, [43]), (38, .iload 4, []), (40, .goto 10, [50]), (43, .aload_n 0, []), (44, .getfield 107, [10, 47]), (47, .bipush (.ofNat 30), []), (49, .iaload, []), (50, .ireturn, [])]
/-- OneClockModel.rule -/
def am_m204 : am_Info := (10, am_c204, 5, some .int, 6)
def am_c205 : List am_Ent := [(0, .aload_n 0, []), (1, .invokevirtual 340, [170, 0, 10]), (4, .aload_n 0, []), (5, .iload_n 1, []), (6, .iload_n 2, []), (7, .invokevirtual 394, [202, 2, 10]), (10, .ireturn, [])]
/-- OneClockModel.wonBy -/
def am_m205 : am_Info := (10, am_c205, 3, some .int, 6)
def am_c206 : List am_Ent := [(0, .iload_n 1, []), (1, .iconst (.ofNat 0), []), (2, .iconst (.ofNat 2), []), (3, .invokestatic 298, [167, 3]), (6, .ifCond .ne 7, [13]), (9, .ldc_w 383, [1, 1000000]), (12, .ireturn, []), (13, .iconst (.ofNat 0), []), (14, .istore_n 2, []), (15, .iconst (.ofNat 0), []), (16, .istore_n 3, []), (17, .aload_n 0, []), (18, .iconst (.ofNat 0), []), (19, .iconst (.ofNat 0), []), (20, .invokevirtual 397, [205, 2, 10]), (23, .istore 4, []), (25, .iconst (.ofNat 0), []), (26, .istore 5, []), (28, .iload 5, []), (30, .iconst (.ofNat 4), []), (31, .if_icmp .ge 62, [93]), (34, .iconst (.ofNat 0), []), (35, .istore 6, []), (37, .iload 6, []), (39, .aload_n 0, []), (40, .getfield 52, [10, 25]), (43, .aload_n 0, []), (44, .getfield 227, [10, 18]), (47, .iaload, []), (48, .if_icmp .ge 39, [87]), (51, .aload_n 0, []), (52, .iload 5, []), (54, .iload 6, []), (56, .invokevirtual 397, [205, 2, 10]), (59, .istore 7, []), (61, .iload 7, []), (63, .iload 4, []), (65, .if_icmp .gt 6, [71]), (68, .goto 13, [81]), (71, .iload 5, []), (73, .istore_n 2, []), (74, .iload 6, []), (76, .istore_n 3, []), (77, .iload 7, []), (79, .istore 4, []), (81, .iinc 6 (.ofNat 1), []), (84, .goto (-47), [37]), (87, .iinc 5 (.ofNat 1), []), (90, .goto (-62), [28]), (93, .iload_n 1, []), (94, .ifCond .ne 7, [101]), (97, .iload_n 2, []), (98, .goto 14, [112]), (101, .iload_n 1, []), (102, .iconst (.ofNat 1), []), (103, .if_icmp .ne 7, [110]), (106, .iload_n 3, []), (107, .goto 5, [112]), (110, .iload 4, []), (112, .ireturn, [])]
/-- OneClockModel.bestRule -/
def am_m206 : am_Info := (10, am_c206, 8, some .int, 7)
def am_c207 : List am_Ent := [(0, .iconst (.ofNat 0), []), (1, .istore_n 1, []), (2, .iconst (.ofNat 0), []), (3, .istore_n 2, []), (4, .iload_n 2, []), (5, .bipush (.ofNat 6), []), (7, .if_icmp .ge 17, [24]), (10, .iload_n 1, []), (11, .iload_n 0, []), (12, .iload_n 2, []), (13, .ishr, []), (14, .iconst (.ofNat 1), []), (15, .iand, []), (16, .iadd, []), (17, .istore_n 1, []), (18, .iinc 2 (.ofNat 1), []), (21, .goto (-17), [4]), (24, .iload_n 1, []), (25, .ireturn, [])]
/-- OneClockModel.bits -/
def am_m207 : am_Info := (10, am_c207, 3, some .int, 0)
def am_c208 : List am_Ent := [(0, .iconst (.ofNat 0), []), (1, .istore_n 2, []), (2, .iload_n 2, []), (3, .aload_n 0, []), (4, .getfield 43, [10, 22]), (7, .aload_n 0, []), (8, .getfield 227, [10, 18]), (11, .iaload, []), (12, .if_icmp .ge 28, [40]), (15, .iload_n 1, []), (16, .iload_n 2, []), (17, .ishr, []), (18, .iconst (.ofNat 1), []), (19, .iand, []), (20, .iconst (.ofNat 1), []), (21, .if_icmp .ne 13, [34]), (24, .aload_n 0, []), (25, .iload_n 2, []), (26, .invokevirtual 305, [171, 1, 10]), (29, .ifCond .ne 5, [34]), (32, .iconst (.ofNat 0), []), (33, .ireturn, []), (34, .iinc 2 (.ofNat 1), []), (37, .goto (-35), [2]), (40, .iload_n 1, []), (41, .ifCond .eq 10, [51]), (44, .aload_n 0, []), (45, .invokevirtual 346, [173, 0, 10]), (48, .ifCond .ne 7, [55]), (51, .iconst (.ofNat 1), []), (52, .goto 4, [56]), (55, .iconst (.ofNat 0), []), (56, .ireturn, [])]
/-- OneClockModel.canDrop -/
def am_m208 : am_Info := (10, am_c208, 3, some .boolean, 3)
def am_c209 : List am_Ent := [(0, .aload_n 0, []), (1, .iload_n 1, []), (2, .iload_n 2, []), (3, .invokevirtual 390, [203, 2, 10]), (6, .ifCond .eq 12, [18]), (9, .iload_n 3, []), (10, .iconst (.ofNat 0), []), (11, .iconst (.ofNat 1), []), (12, .invokestatic 298, [167, 3]), (15, .ifCond .ne 7, [22]), (18, .ldc_w 383, [1, 1000000]), (21, .ireturn, []), (22, .iconst (.ofNat 0), []), (23, .istore 4, []), (25, .aload_n 0, []), (26, .iload_n 1, []), (27, .iload_n 2, []), (28, .invokevirtual 397, [205, 2, 10]), (31, .istore 5, []), (33, .iconst (.ofNat 1), []), (34, .istore 6, []), (36, .iload 6, []), (38, .iconst (.ofNat 1), []), (39, .aload_n 0, []), (40, .getfield 43, [10, 22]), (43, .aload_n 0, []), (44, .getfield 227, [10, 18]), (47, .iaload, []), (48, .ishl, []), (49, .if_icmp .ge 111, [160]), (52, .aload_n 0, []), (53, .invokevirtual 340, [170, 0, 10]), (56, .aload_n 0, []), (57, .iload 6, []), (59, .invokevirtual 400, [208, 1, 10]), (62, .ifCond .ne 6, [68]), (65, .goto 89, [154]), (68, .iconst (.ofNat 0), []), (69, .istore 7, []), (71, .iload 7, []), (73, .aload_n 0, []), (74, .getfield 43, [10, 22]), (77, .aload_n 0, []), (78, .getfield 227, [10, 18]), (81, .iaload, []), (82, .if_icmp .ge 26, [108]), (85, .iload 6, []), (87, .iload 7, []), (89, .ishr, []), (90, .iconst (.ofNat 1), []), (91, .iand, []), (92, .iconst (.ofNat 1), []), (93, .if_icmp .ne 9, [102]), (96, .aload_n 0, []), (97, .iload 7, []), (99, .invokevirtual 362, [183, 1, 10]), (102, .iinc 7 (.ofNat 1), []), (105, .goto (-34), [71]), (108, .aload_n 0, []), (109, .iload_n 1, []), (110, .iload_n 2, []), (111, .invokevirtual 394, [202, 2, 10]), (114, .istore 7, []), (116, .iload 7, []), (118, .iload 5, []), (120, .if_icmp .lt 34, [154]), (123, .iload 7, []), (125, .iload 5, []), (127, .if_icmp .ne 19, [146]), (130, .iload 6, []), (132, .invokestatic 403, [207, 1]), (135, .iload 4, []), (137, .invokestatic 403, [207, 1]), (140, .if_icmp .lt 6, [146]), (143, .goto 11, [154]), (146, .iload 6, []), (148, .istore 4, []), (150, .iload 7, []), (152, .istore 5, []), (154, .iinc 6 (.ofNat 1), []), (157, .goto (-121), [36]), (160, .iload_n 3, []), (161, .ifCond .ne 8, [169]), (164, .iload 5, []), (166, .goto 5, [171]), (169, .iload 4, []), (171, .ireturn, [])]
/-- OneClockModel.dropBest -/
def am_m209 : am_Info := (10, am_c209, 8, some .int, 7)
def am_c210 : List am_Ent := [(0, .aload_n 0, []), (1, .iload_n 1, []), (2, .iload_n 2, []), (3, .invokevirtual 390, [203, 2, 10]), (6, .ifCond .eq 12, [18]), (9, .iload_n 3, []), (10, .iconst (.ofNat 0), []), (11, .iconst (.ofNat 1), []), (12, .invokestatic 298, [167, 3]), (15, .ifCond .ne 7, [22]), (18, .ldc_w 383, [1, 1000000]), (21, .ireturn, []), (22, .bipush (.negSucc 1), []), (24, .istore 4, []), (26, .aload_n 0, []), (27, .iload_n 1, []), (28, .iload_n 2, []), (29, .invokevirtual 397, [205, 2, 10]), (32, .istore 5, []), (34, .iconst (.ofNat 0), []), (35, .istore 6, []), (37, .iload 6, []), (39, .aload_n 0, []), (40, .getfield 43, [10, 22]), (43, .aload_n 0, []), (44, .getfield 227, [10, 18]), (47, .iaload, []), (48, .if_icmp .ge 65, [113]), (51, .aload_n 0, []), (52, .invokevirtual 340, [170, 0, 10]), (55, .aload_n 0, []), (56, .iload 6, []), (58, .invokevirtual 305, [171, 1, 10]), (61, .ifCond .eq 46, [107]), (64, .aload_n 0, []), (65, .invokevirtual 346, [173, 0, 10]), (68, .ifCond .eq 6, [74]), (71, .goto 36, [107]), (74, .aload_n 0, []), (75, .iload 6, []), (77, .invokevirtual 359, [182, 1, 10]), (80, .pop, []), (81, .aload_n 0, []), (82, .iload_n 1, []), (83, .iload_n 2, []), (84, .invokevirtual 394, [202, 2, 10]), (87, .istore 7, []), (89, .iload 7, []), (91, .iload 5, []), (93, .if_icmp .gt 6, [99]), (96, .goto 11, [107]), (99, .iload 6, []), (101, .istore 4, []), (103, .iload 7, []), (105, .istore 5, []), (107, .iinc 6 (.ofNat 1), []), (110, .goto (-73), [37]), (113, .iload_n 3, []), (114, .ifCond .ne 8, [122]), (117, .iload 5, []), (119, .goto 5, [124]), (122, .iload 4, []), (124, .ireturn, [])]
/-- OneClockModel.offerBest -/
def am_m210 : am_Info := (10, am_c210, 8, some .int, 7)
def am_c211 : List am_Ent := [(0, .aload_n 0, []), (1, .iload_n 1, []), (2, .invokevirtual 337, [168, 1, 10]), (5, .ifCond .eq 12, [17]), (8, .aload_n 0, []), (9, .iload_n 2, []), (10, .iload_n 3, []), (11, .invokevirtual 390, [203, 2, 10]), (14, .ifCond .ne 7, [21]), (17, .ldc_w 383, [1, 1000000]), (20, .ireturn, []), (21, .aload_n 0, []), (22, .iload_n 2, []), (23, .iload_n 3, []), (24, .invokevirtual 397, [205, 2, 10]), (27, .istore 4, []), (29, .aload_n 0, []), (30, .invokevirtual 340, [170, 0, 10]), (33, .aload_n 0, []), (34, .iload_n 1, []), (35, .putfield 302, [10, 49, 0]), (38, .aload_n 0, []), (39, .iload_n 2, []), (40, .iload_n 3, []), (41, .invokevirtual 394, [202, 2, 10]), (44, .iload 4, []), (46, .isub, []), (47, .ireturn, [])]
/-- OneClockModel.haste -/
def am_m211 : am_Info := (10, am_c211, 5, some .int, 7)
def am_c212 : List am_Ent := [(0, .aload_n 0, []), (1, .iload_n 1, []), (2, .invokevirtual 337, [168, 1, 10]), (5, .ifCond .eq 12, [17]), (8, .aload_n 0, []), (9, .iload_n 2, []), (10, .iload_n 3, []), (11, .invokevirtual 390, [203, 2, 10]), (14, .ifCond .ne 7, [21]), (17, .ldc_w 383, [1, 1000000]), (20, .ireturn, []), (21, .bipush (.ofNat 60), []), (23, .istore 4, []), (25, .iload 4, []), (27, .ifCond .lt 59, [86]), (30, .aload_n 0, []), (31, .invokevirtual 340, [170, 0, 10]), (34, .aload_n 0, []), (35, .iload_n 1, []), (36, .invokevirtual 305, [171, 1, 10]), (39, .ifCond .eq 10, [49]), (42, .aload_n 0, []), (43, .invokevirtual 346, [173, 0, 10]), (46, .ifCond .eq 6, [52]), (49, .bipush (.negSucc 1), []), (51, .ireturn, []), (52, .aload_n 0, []), (53, .iload_n 1, []), (54, .iload 4, []), (56, .invokevirtual 353, [181, 2, 10]), (59, .pop, []), (60, .aload_n 0, []), (61, .iload_n 2, []), (62, .iload_n 3, []), (63, .invokevirtual 394, [202, 2, 10]), (66, .pop, []), (67, .aload_n 0, []), (68, .getfield 107, [10, 47]), (71, .bipush (.ofNat 33), []), (73, .iaload, []), (74, .ifCond .ne 6, [80]), (77, .iload 4, []), (79, .ireturn, []), (80, .iinc 4 (.negSucc 0), []), (83, .goto (-58), [25]), (86, .bipush (.negSucc 1), []), (88, .ireturn, [])]
/-- OneClockModel.spare -/
def am_m212 : am_Info := (10, am_c212, 5, some .int, 6)
def am_c213 : List am_Ent := [(0, .aload_n 0, []), (1, .iload_n 1, []), (2, .invokevirtual 337, [168, 1, 10]), (5, .ifCond .eq 36, [41]), (8, .aload_n 0, []), (9, .iload_n 2, []), (10, .invokevirtual 337, [168, 1, 10]), (13, .ifCond .eq 28, [41]), (16, .iload_n 1, []), (17, .iload_n 2, []), (18, .if_icmp .eq 23, [41]), (21, .aload_n 0, []), (22, .iload_n 3, []), (23, .iload 4, []), (25, .invokevirtual 390, [203, 2, 10]), (28, .ifCond .eq 13, [41]), (31, .iload 5, []), (33, .iconst (.ofNat 0), []), (34, .iconst (.ofNat 1), []), (35, .invokestatic 298, [167, 3]), (38, .ifCond .ne 7, [45]), (41, .ldc_w 383, [1, 1000000]), (44, .ireturn, []), (45, .iconst (.negSucc 0), []), (46, .istore 6, []), (48, .iconst (.ofNat 0), []), (49, .istore 7, []), (51, .iconst (.ofNat 0), []), (52, .istore 8, []), (54, .iload 8, []), (56, .bipush (.ofNat 10), []), (58, .if_icmp .ge 83, [141]), (61, .iconst (.ofNat 0), []), (62, .istore 9, []), (64, .iload 9, []), (66, .bipush (.ofNat 10), []), (68, .if_icmp .ge 67, [135]), (71, .aload_n 0, []), (72, .invokevirtual 340, [170, 0, 10]), (75, .aload_n 0, []), (76, .getfield 110, [10, 48]), (79, .iload_n 1, []), (80, .iload 8, []), (82, .iastore, []), (83, .aload_n 0, []), (84, .getfield 110, [10, 48]), (87, .iload_n 2, []), (88, .iload 9, []), (90, .iastore, []), (91, .aload_n 0, []), (92, .iload_n 3, []), (93, .iload 4, []), (95, .invokevirtual 394, [202, 2, 10]), (98, .istore 10, []), (100, .iload 6, []), (102, .ifCond .lt 13, [115]), (105, .iload 10, []), (107, .iload 7, []), (109, .if_icmp .lt 6, [115]), (112, .goto 17, [129]), (115, .bipush (.ofNat 10), []), (117, .iload 8, []), (119, .imul, []), (120, .iload 9, []), (122, .iadd, []), (123, .istore 6, []), (125, .iload 10, []), (127, .istore 7, []), (129, .iinc 9 (.ofNat 1), []), (132, .goto (-68), [64]), (135, .iinc 8 (.ofNat 1), []), (138, .goto (-84), [54]), (141, .iload 5, []), (143, .ifCond .ne 8, [151]), (146, .iload 7, []), (148, .goto 5, [153]), (151, .iload 6, []), (153, .ireturn, [])]
/-- OneClockModel.agreed -/
def am_m213 : am_Info := (10, am_c213, 11, some .int, 6)
def am_c214 : List am_Ent := [(0, .aload_n 0, []), (1, .getfield 43, [10, 22]), (4, .aload_n 0, []), (5, .getfield 227, [10, 18]), (8, .iaload, []), (9, .istore_n 1, []), (10, .iload_n 1, []), (11, .iconst (.ofNat 2), []), (12, .isub, []), (13, .istore_n 2, []), (14, .iload_n 2, []), (15, .ifCond .lt 26, [41]), (18, .aload_n 0, []), (19, .getfield 131, [10, 60]), (22, .iload_n 2, []), (23, .iaload, []), (24, .aload_n 0, []), (25, .getfield 131, [10, 60]), (28, .iload_n 2, []), (29, .iconst (.ofNat 1), []), (30, .iadd, []), (31, .iaload, []), (32, .if_icmp .le 9, [41]), (35, .iinc 2 (.negSucc 0), []), (38, .goto (-24), [14]), (41, .iload_n 2, []), (42, .ifCond .ge 5, [47]), (45, .iconst (.ofNat 0), []), (46, .ireturn, []), (47, .iload_n 1, []), (48, .iconst (.ofNat 1), []), (49, .isub, []), (50, .istore_n 3, []), (51, .aload_n 0, []), (52, .getfield 131, [10, 60]), (55, .iload_n 3, []), (56, .iaload, []), (57, .aload_n 0, []), (58, .getfield 131, [10, 60]), (61, .iload_n 2, []), (62, .iaload, []), (63, .if_icmp .ge 9, [72]), (66, .iinc 3 (.negSucc 0), []), (69, .goto (-18), [51]), (72, .aload_n 0, []), (73, .getfield 131, [10, 60]), (76, .iload_n 2, []), (77, .iaload, []), (78, .istore 4, []), (80, .aload_n 0, []), (81, .getfield 131, [10, 60]), (84, .iload_n 2, []), (85, .aload_n 0, []), (86, .getfield 131, [10, 60]), (89, .iload_n 3, []), (90, .iaload, []), (91, .iastore, []), (92, .aload_n 0, []), (93, .getfield 131, [10, 60]), (96, .iload_n 3, []), (97, .iload 4, []), (99, .iastore, []), (100, .iload_n 2, []), (101, .iconst (.ofNat 1), []), (102, .iadd, []), (103, .istore 5, []), (105, .iload_n 1, []), (106, .iconst (.ofNat 1), []), (107, .isub, []), (108, .istore 6, []), (110, .iload 5, []), (112, .iload 6, []), (114, .if_icmp .ge 44, [158]), (117, .aload_n 0, []), (118, .getfield 131, [10, 60]), (121, .iload 5, []), (123, .iaload, []), (124, .istore 4, []), (126, .aload_n 0, []), (127, .getfield 131, [10, 60]), (130, .iload 5, []), (132, .aload_n 0, []), (133, .getfield 131, [10, 60]), (136, .iload 6, []), (138, .iaload, []), (139, .iastore, []), (140, .aload_n 0, []), (141, .getfield 131, [10, 60]), (144, .iload 6, []), (146, .iload 4, []), (148, .iastore, []), (149, .iinc 5 (.ofNat 1), []), (152, .iinc 6 (.negSucc 0), []), (155, .goto (-45), [110]), (158, .iconst (.ofNat 1), []), (159, .ireturn, [])]
/-- OneClockModel.nextOrder -/
def am_m214 : am_Info := (10, am_c214, 7, some .boolean, 0)
def am_c215 : List am_Ent := [(0, .iconst (.ofNat 0), []), (1, .istore_n 3, []), (2, .iload_n 3, []), (3, .aload_n 0, []), (4, .getfield 43, [10, 22]), (7, .aload_n 0, []), (8, .getfield 227, [10, 18]), (11, .iaload, []), (12, .if_icmp .ge 16, [28]), (15, .aload_n 0, []), (16, .getfield 131, [10, 60]), (19, .iload_n 3, []), (20, .iload_n 3, []), (21, .iastore, []), (22, .iinc 3 (.ofNat 1), []), (25, .goto (-23), [2]), (28, .iconst (.ofNat 1), []), (29, .istore_n 3, []), (30, .iconst (.ofNat 1), []), (31, .istore 4, []), (33, .iconst (.ofNat 0), []), (34, .istore 5, []), (36, .iload 4, []), (38, .ifCond .eq 133, [171]), (41, .aload_n 0, []), (42, .bipush (.ofNat 63), []), (44, .invokevirtual 157, [169, 1, 10]), (47, .iconst (.ofNat 0), []), (48, .istore 6, []), (50, .iload 6, []), (52, .aload_n 0, []), (53, .getfield 43, [10, 22]), (56, .aload_n 0, []), (57, .getfield 227, [10, 18]), (60, .iaload, []), (61, .if_icmp .ge 26, [87]), (64, .aload_n 0, []), (65, .getfield 107, [10, 47]), (68, .bipush (.ofNat 24), []), (70, .aload_n 0, []), (71, .getfield 131, [10, 60]), (74, .iload 6, []), (76, .iaload, []), (77, .iadd, []), (78, .iload 6, []), (80, .iastore, []), (81, .iinc 6 (.ofNat 1), []), (84, .goto (-34), [50]), (87, .aload_n 0, []), (88, .getfield 107, [10, 47]), (91, .bipush (.ofNat 31), []), (93, .aload_n 0, []), (94, .getfield 131, [10, 60]), (97, .iconst (.ofNat 0), []), (98, .iaload, []), (99, .iastore, []), (100, .aload_n 0, []), (101, .iload_n 1, []), (102, .iload_n 2, []), (103, .invokevirtual 394, [202, 2, 10]), (106, .istore 6, []), (108, .iload_n 3, []), (109, .ifCond .ne 10, [119]), (112, .iload 6, []), (114, .iload 5, []), (116, .if_icmp .le 44, [160]), (119, .iload 6, []), (121, .istore 5, []), (123, .iconst (.ofNat 0), []), (124, .istore 7, []), (126, .iload 7, []), (128, .aload_n 0, []), (129, .getfield 43, [10, 22]), (132, .aload_n 0, []), (133, .getfield 227, [10, 18]), (136, .iaload, []), (137, .if_icmp .ge 23, [160]), (140, .aload_n 0, []), (141, .getfield 134, [10, 61]), (144, .iload 7, []), (146, .aload_n 0, []), (147, .getfield 131, [10, 60]), (150, .iload 7, []), (152, .iaload, []), (153, .iastore, []), (154, .iinc 7 (.ofNat 1), []), (157, .goto (-31), [126]), (160, .iconst (.ofNat 0), []), (161, .istore_n 3, []), (162, .aload_n 0, []), (163, .invokevirtual 406, [214, 0, 10]), (166, .istore 4, []), (168, .goto (-132), [36]), (171, .iload 5, []), (173, .ireturn, [])]
/-- OneClockModel.seatsBy -/
def am_m215 : am_Info := (10, am_c215, 8, some .int, 6)
def am_c216 : List am_Ent := [(0, .aload_n 0, []), (1, .iload_n 1, []), (2, .iload_n 2, []), (3, .invokevirtual 390, [203, 2, 10]), (6, .ifCond .eq 24, [30]), (9, .aload_n 0, []), (10, .getfield 43, [10, 22]), (13, .aload_n 0, []), (14, .getfield 227, [10, 18]), (17, .iaload, []), (18, .ifCond .le 12, [30]), (21, .aload_n 0, []), (22, .iload_n 1, []), (23, .iload_n 2, []), (24, .invokevirtual 409, [215, 2, 10]), (27, .goto 6, [33]), (30, .ldc_w 383, [1, 1000000]), (33, .ireturn, [])]
/-- OneClockModel.seats -/
def am_m216 : am_Info := (10, am_c216, 3, some .int, 7)
def am_c217 : List am_Ent := [(0, .aload_n 0, []), (1, .iload_n 1, []), (2, .iload_n 2, []), (3, .invokevirtual 390, [203, 2, 10]), (6, .ifCond .eq 11, [17]), (9, .aload_n 0, []), (10, .iload_n 3, []), (11, .invokevirtual 337, [168, 1, 10]), (14, .ifCond .ne 5, [19]), (17, .iconst (.negSucc 0), []), (18, .ireturn, []), (19, .aload_n 0, []), (20, .iload_n 1, []), (21, .iload_n 2, []), (22, .invokevirtual 409, [215, 2, 10]), (25, .ldc_w 412, [1, 999999]), (28, .if_icmp .ge 7, [35]), (31, .iconst (.negSucc 0), []), (32, .goto 9, [41]), (35, .aload_n 0, []), (36, .getfield 134, [10, 61]), (39, .iload_n 3, []), (40, .iaload, []), (41, .ireturn, [])]
/-- OneClockModel.seatAt -/
def am_m217 : am_Info := (10, am_c217, 4, some .int, 7)
def am_c218 : List am_Ent := [(0, .aload_n 0, []), (1, .iload_n 1, []), (2, .iload_n 2, []), (3, .invokevirtual 390, [203, 2, 10]), (6, .ifCond .eq 12, [18]), (9, .iload_n 3, []), (10, .iconst (.ofNat 0), []), (11, .iconst (.ofNat 1), []), (12, .invokestatic 298, [167, 3]), (15, .ifCond .ne 7, [22]), (18, .ldc_w 383, [1, 1000000]), (21, .ireturn, []), (22, .iconst (.ofNat 1), []), (23, .aload_n 0, []), (24, .getfield 43, [10, 22]), (27, .aload_n 0, []), (28, .getfield 227, [10, 18]), (31, .iaload, []), (32, .ishl, []), (33, .iconst (.ofNat 1), []), (34, .isub, []), (35, .istore 4, []), (37, .iconst (.negSucc 0), []), (38, .istore 5, []), (40, .iconst (.ofNat 0), []), (41, .istore 6, []), (43, .iconst (.ofNat 0), []), (44, .istore 7, []), (46, .iload 7, []), (48, .iload 4, []), (50, .if_icmp .gt 68, [118]), (53, .aload_n 0, []), (54, .iload 7, []), (56, .invokevirtual 157, [169, 1, 10]), (59, .aload_n 0, []), (60, .iload_n 1, []), (61, .iload_n 2, []), (62, .invokevirtual 394, [202, 2, 10]), (65, .istore 8, []), (67, .aload_n 0, []), (68, .iload 4, []), (70, .iload 7, []), (72, .iconst (.negSucc 0), []), (73, .ixor, []), (74, .iand, []), (75, .invokevirtual 157, [169, 1, 10]), (78, .iload 8, []), (80, .aload_n 0, []), (81, .iload_n 1, []), (82, .iload_n 2, []), (83, .invokevirtual 394, [202, 2, 10]), (86, .iadd, []), (87, .istore 8, []), (89, .iload 5, []), (91, .ifCond .lt 13, [104]), (94, .iload 8, []), (96, .iload 6, []), (98, .if_icmp .gt 6, [104]), (101, .goto 11, [112]), (104, .iload 7, []), (106, .istore 5, []), (108, .iload 8, []), (110, .istore 6, []), (112, .iinc 7 (.ofNat 1), []), (115, .goto (-69), [46]), (118, .iload_n 3, []), (119, .ifCond .ne 8, [127]), (122, .iload 6, []), (124, .goto 5, [129]), (127, .iload 5, []), (129, .ireturn, [])]
/-- OneClockModel.shared -/
def am_m218 : am_Info := (10, am_c218, 9, some .int, 6)
def am_c219 : List am_Ent := [(0, .aload_n 0, []), (1, .getfield 248, [10, 62]), (4, .iconst (.ofNat 4), []), (5, .if_icmp .eq 22, [27]), (8, .aload_n 0, []), (9, .iload_n 1, []), (10, .invokevirtual 337, [168, 1, 10]), (13, .ifCond .eq 14, [27]), (16, .iload_n 2, []), (17, .iconst (.ofNat 0), []), (18, .sipush (.ofNat 500), []), (21, .invokestatic 298, [167, 3]), (24, .ifCond .ne 5, [29]), (27, .iconst (.negSucc 0), []), (28, .ireturn, []), (29, .aload_n 0, []), (30, .getfield 137, [10, 63]), (33, .aload_n 0, []), (34, .getfield 248, [10, 62]), (37, .iload_n 1, []), (38, .iastore, []), (39, .aload_n 0, []), (40, .getfield 140, [10, 64]), (43, .aload_n 0, []), (44, .getfield 248, [10, 62]), (47, .iload_n 2, []), (48, .iastore, []), (49, .aload_n 0, []), (50, .dup, []), (51, .getfield 248, [10, 62]), (54, .iconst (.ofNat 1), []), (55, .iadd, []), (56, .putfield 248, [10, 62, 0]), (59, .aload_n 0, []), (60, .getfield 248, [10, 62]), (63, .iconst (.ofNat 1), []), (64, .isub, []), (65, .ireturn, [])]
/-- OneClockModel.tell -/
def am_m219 : am_Info := (10, am_c219, 3, some .int, 2)
def am_c220 : List am_Ent := [(0, .aload_n 0, []), (1, .getfield 248, [10, 62]), (4, .istore_n 1, []), (5, .aload_n 0, []), (6, .iconst (.ofNat 0), []), (7, .putfield 248, [10, 62, 0]), (10, .iload_n 1, []), (11, .ireturn, [])]
/-- OneClockModel.forget -/
def am_m220 : am_Info := (10, am_c220, 2, some .int, 0)
def am_c221 : List am_Ent := [(0, .aload_n 0, []), (1, .bipush (.ofNat 63), []), (3, .invokevirtual 157, [169, 1, 10]), (6, .iload_n 1, []), (7, .istore_n 3, []), (8, .iconst (.ofNat 0), []), (9, .istore 4, []), (11, .iload 4, []), (13, .iload_n 2, []), (14, .if_icmp .ge 145, [159]), (17, .aload_n 0, []), (18, .getfield 137, [10, 63]), (21, .iload 4, []), (23, .iaload, []), (24, .istore 5, []), (26, .aload_n 0, []), (27, .iload_n 3, []), (28, .aload_n 0, []), (29, .getfield 52, [10, 25]), (32, .aload_n 0, []), (33, .getfield 227, [10, 18]), (36, .iaload, []), (37, .irem, []), (38, .invokevirtual 350, [188, 1, 10]), (41, .istore 6, []), (43, .iload_n 3, []), (44, .aload_n 0, []), (45, .getfield 52, [10, 25]), (48, .aload_n 0, []), (49, .getfield 227, [10, 18]), (52, .iaload, []), (53, .idiv, []), (54, .istore_n 3, []), (55, .aload_n 0, []), (56, .invokevirtual 346, [173, 0, 10]), (59, .ifCond .ne 12, [71]), (62, .aload_n 0, []), (63, .iload 5, []), (65, .invokevirtual 305, [171, 1, 10]), (68, .ifCond .ne 5, [73]), (71, .iconst (.ofNat 0), []), (72, .ireturn, []), (73, .aload_n 0, []), (74, .getfield 140, [10, 64]), (77, .iload 4, []), (79, .iaload, []), (80, .iload 6, []), (82, .isub, []), (83, .istore 7, []), (85, .aload_n 0, []), (86, .iload 5, []), (88, .invokevirtual 331, [175, 1, 10]), (91, .istore 8, []), (93, .iload 7, []), (95, .iload 8, []), (97, .if_icmp .lt 43, [140]), (100, .aload_n 0, []), (101, .getfield 140, [10, 64]), (104, .iload 4, []), (106, .iaload, []), (107, .aload_n 0, []), (108, .getfield 61, [10, 28]), (111, .aload_n 0, []), (112, .getfield 227, [10, 18]), (115, .iaload, []), (116, .if_icmp .gt 24, [140]), (119, .iload 7, []), (121, .aload_n 0, []), (122, .getfield 61, [10, 28]), (125, .aload_n 0, []), (126, .getfield 227, [10, 18]), (129, .iaload, []), (130, .if_icmp .ne 12, [142]), (133, .iload 7, []), (135, .iload 8, []), (137, .if_icmp .le 5, [142]), (140, .iconst (.ofNat 0), []), (141, .ireturn, []), (142, .aload_n 0, []), (143, .iload 5, []), (145, .iload 6, []), (147, .iload 7, []), (149, .invokevirtual 334, [180, 3, 10]), (152, .pop, []), (153, .iinc 4 (.ofNat 1), []), (156, .goto (-145), [11]), (159, .iconst (.ofNat 1), []), (160, .ireturn, [])]
/-- OneClockModel.isSo -/
def am_m221 : am_Info := (10, am_c221, 9, some .boolean, 4)
def am_c222 : List am_Ent := [(0, .iload_n 1, []), (1, .iconst (.ofNat 0), []), (2, .aload_n 0, []), (3, .getfield 248, [10, 62]), (6, .invokestatic 298, [167, 3]), (9, .ifCond .ne 5, [14]), (12, .iconst (.negSucc 0), []), (13, .ireturn, []), (14, .iconst (.ofNat 1), []), (15, .istore_n 2, []), (16, .iconst (.ofNat 0), []), (17, .istore_n 3, []), (18, .iload_n 3, []), (19, .iload_n 1, []), (20, .if_icmp .ge 21, [41]), (23, .iload_n 2, []), (24, .aload_n 0, []), (25, .getfield 52, [10, 25]), (28, .aload_n 0, []), (29, .getfield 227, [10, 18]), (32, .iaload, []), (33, .imul, []), (34, .istore_n 2, []), (35, .iinc 3 (.ofNat 1), []), (38, .goto (-20), [18]), (41, .iconst (.ofNat 0), []), (42, .istore_n 3, []), (43, .iconst (.ofNat 0), []), (44, .istore 4, []), (46, .iload 4, []), (48, .iload_n 2, []), (49, .if_icmp .ge 22, [71]), (52, .aload_n 0, []), (53, .iload 4, []), (55, .iload_n 1, []), (56, .invokevirtual 413, [221, 2, 10]), (59, .ifCond .eq 6, [65]), (62, .iinc 3 (.ofNat 1), []), (65, .iinc 4 (.ofNat 1), []), (68, .goto (-22), [46]), (71, .iload_n 3, []), (72, .ireturn, [])]
/-- OneClockModel.fits -/
def am_m222 : am_Info := (10, am_c222, 5, some .int, 5)
def am_c223 : List am_Ent := [(0, .iload_n 1, []), (1, .iconst (.ofNat 0), []), (2, .iconst (.ofNat 2), []), (3, .invokestatic 298, [167, 3]), (6, .ifCond .ne 5, [11]), (9, .iconst (.ofNat 0), []), (10, .ireturn, []), (11, .aload_n 0, []), (12, .getfield 143, [10, 65]), (15, .iload_n 1, []), (16, .iconst (.ofNat 1), []), (17, .bastore, []), (18, .iconst (.ofNat 0), []), (19, .istore_n 2, []), (20, .iload_n 2, []), (21, .bipush (.ofNat 40), []), (23, .if_icmp .ge 26, [49]), (26, .aload_n 0, []), (27, .getfield 146, [10, 66]), (30, .bipush (.ofNat 40), []), (32, .iload_n 1, []), (33, .imul, []), (34, .iload_n 2, []), (35, .iadd, []), (36, .aload_n 0, []), (37, .getfield 104, [10, 46]), (40, .iload_n 2, []), (41, .iaload, []), (42, .iastore, []), (43, .iinc 2 (.ofNat 1), []), (46, .goto (-26), [20]), (49, .iconst (.ofNat 1), []), (50, .ireturn, [])]
/-- OneClockModel.hold -/
def am_m223 : am_Info := (10, am_c223, 3, some .boolean, 1)
def am_c224 : List am_Ent := [(0, .iload_n 1, []), (1, .iconst (.ofNat 0), []), (2, .iconst (.ofNat 2), []), (3, .invokestatic 298, [167, 3]), (6, .ifCond .eq 12, [18]), (9, .aload_n 0, []), (10, .getfield 143, [10, 65]), (13, .iload_n 1, []), (14, .baload, []), (15, .ifCond .ne 5, [20]), (18, .iconst (.ofNat 0), []), (19, .ireturn, []), (20, .iconst (.ofNat 0), []), (21, .istore_n 2, []), (22, .iload_n 2, []), (23, .bipush (.ofNat 40), []), (25, .if_icmp .ge 26, [51]), (28, .aload_n 0, []), (29, .getfield 104, [10, 46]), (32, .iload_n 2, []), (33, .aload_n 0, []), (34, .getfield 146, [10, 66]), (37, .bipush (.ofNat 40), []), (39, .iload_n 1, []), (40, .imul, []), (41, .iload_n 2, []), (42, .iadd, []), (43, .iaload, []), (44, .iastore, []), (45, .iinc 2 (.ofNat 1), []), (48, .goto (-26), [22]), (51, .aload_n 0, []), (52, .iconst (.ofNat 0), []), (53, .putfield 245, [10, 50, 0]), (56, .iconst (.ofNat 1), []), (57, .ireturn, [])]
/-- OneClockModel.restore -/
def am_m224 : am_Info := (10, am_c224, 3, some .boolean, 1)
def am_c225 : List am_Ent := [(0, .aload_n 0, []), (1, .invokevirtual 340, [170, 0, 10]), (4, .iload_n 1, []), (5, .tableswitch 240 (.ofNat 0) 13 #[71, 81, 89, 114, 124, 134, 144, 154, 159, 172, 180, 185, 190, 195], [245, 76, 86, 94, 119, 129, 139, 149, 159, 164, 177, 185, 190, 195, 200]), (76, .aload_n 0, []), (77, .getfield 43, [10, 22]), (80, .aload_n 0, []), (81, .getfield 227, [10, 18]), (84, .iaload, []), (85, .ireturn, []), (86, .aload_n 0, []), (87, .getfield 107, [10, 47]), (90, .bipush (.ofNat 30), []), (92, .iaload, []), (93, .ireturn, []), (94, .aload_n 0, []), (95, .getfield 43, [10, 22]), (98, .aload_n 0, []), (99, .getfield 227, [10, 18]), (102, .iaload, []), (103, .ifCond .ne 8, [111]), (106, .bipush (.negSucc 1), []), (108, .goto 10, [118]), (111, .aload_n 0, []), (112, .getfield 107, [10, 47]), (115, .bipush (.ofNat 31), []), (117, .iaload, []), (118, .ireturn, []), (119, .aload_n 0, []), (120, .getfield 61, [10, 28]), (123, .aload_n 0, []), (124, .getfield 227, [10, 18]), (127, .iaload, []), (128, .ireturn, []), (129, .aload_n 0, []), (130, .getfield 58, [10, 27]), (133, .aload_n 0, []), (134, .getfield 227, [10, 18]), (137, .iaload, []), (138, .ireturn, []), (139, .aload_n 0, []), (140, .getfield 64, [10, 29]), (143, .aload_n 0, []), (144, .getfield 227, [10, 18]), (147, .iaload, []), (148, .ireturn, []), (149, .aload_n 0, []), (150, .getfield 52, [10, 25]), (153, .aload_n 0, []), (154, .getfield 227, [10, 18]), (157, .iaload, []), (158, .ireturn, []), (159, .aload_n 0, []), (160, .invokevirtual 308, [172, 0, 10]), (163, .ireturn, []), (164, .aload_n 0, []), (165, .invokevirtual 346, [173, 0, 10]), (168, .ifCond .eq 7, [175]), (171, .iconst (.ofNat 1), []), (172, .goto 4, [176]), (175, .iconst (.ofNat 0), []), (176, .ireturn, []), (177, .aload_n 0, []), (178, .getfield 107, [10, 47]), (181, .bipush (.ofNat 33), []), (183, .iaload, []), (184, .ireturn, []), (185, .aload_n 0, []), (186, .getfield 160, [10, 2]), (189, .ireturn, []), (190, .aload_n 0, []), (191, .getfield 245, [10, 50]), (194, .ireturn, []), (195, .aload_n 0, []), (196, .getfield 248, [10, 62]), (199, .ireturn, []), (200, .aload_n 0, []), (201, .getfield 143, [10, 65]), (204, .iconst (.ofNat 0), []), (205, .baload, []), (206, .ifCond .eq 7, [213]), (209, .iconst (.ofNat 1), []), (210, .goto 4, [214]), (213, .iconst (.ofNat 0), []), (214, .aload_n 0, []), (215, .getfield 143, [10, 65]), (218, .iconst (.ofNat 1), []), (219, .baload, []), (220, .ifCond .eq 7, [227]), (223, .iconst (.ofNat 1), []), (224, .goto 4, [228]), (227, .iconst (.ofNat 0), []), (228, .iadd, []), (229, .aload_n 0, []), (230, .getfield 143, [10, 65]), (233, .iconst (.ofNat 2), []), (234, .baload, []), (235, .ifCond .eq 7, [242]), (238, .iconst (.ofNat 1), []), (239, .goto 4, [243]), (242, .iconst (.ofNat 0), []), (243, .iadd, []), (244, .ireturn, []), (245, .iconst (.negSucc 0), []), (246, .ireturn, [])]
/-- OneClockModel.count -/
def am_m225 : am_Info := (10, am_c225, 2, some .int, 3)
def am_c226 : List am_Ent := [(0, .iload_n 0, []), (1, .iload_n 0, []), (2, .iconst (.ofNat 1), []), (3, .iushr, []), (4, .ldc_w 265, [0, 1431655765]), (7, .iand, []), (8, .isub, []), (9, .istore_n 0, []), (10, .iload_n 0, []), (11, .ldc_w 266, [0, 858993459]), (14, .iand, []), (15, .iload_n 0, []), (16, .iconst (.ofNat 2), []), (17, .iushr, []), (18, .ldc_w 266, [0, 858993459]), (21, .iand, []), (22, .iadd, []), (23, .istore_n 0, []), (24, .iload_n 0, []), (25, .iload_n 0, []), (26, .iconst (.ofNat 4), []), (27, .iushr, []), (28, .iadd, []), (29, .ldc_w 267, [0, 252645135]), (32, .iand, []), (33, .istore_n 0, []), (34, .iload_n 0, []), (35, .iload_n 0, []), (36, .bipush (.ofNat 8), []), (38, .iushr, []), (39, .iadd, []), (40, .istore_n 0, []), (41, .iload_n 0, []), (42, .iload_n 0, []), (43, .bipush (.ofNat 16), []), (45, .iushr, []), (46, .iadd, []), (47, .istore_n 0, []), (48, .iload_n 0, []), (49, .bipush (.ofNat 63), []), (51, .iand, []), (52, .ireturn, [])]
/-- java/lang/Integer.bitCount -/
def am_m226 : am_Info := (12, am_c226, 1, some .int, 0)
def am_c227 : List am_Ent := [(0, .new 7, [9, 1, 1, 1, 1, 1, 1, 1, 1, 1]), (3, .dup, []), (4, .invokespecial 9, [96, 0, 9]), (7, .astore_n 1, []), (8, .new 10, [10, 0, 1, 0, 1, 0, 1, 1, 1, 1, 1, 0, 0, 0, 0, 0, 0, 0, 0, 0, 0, 0, 1, 1, 1, 1, 1, 1, 1, 1, 1, 1, 1, 0, 1, 1, 1, 1, 1, 0, 1, 1, 1, 0, 1, 1, 0, 1, 1, 1, 0, 0, 1, 1, 1, 1, 1, 1, 0, 0, 0, 1, 1, 0, 1, 1, 1, 1]), (11, .dup, []), (12, .invokespecial 12, [135, 0, 10]), (15, .astore_n 2, []), (16, .iconst (.ofNat 0), []), (17, .istore_n 3, []), (18, .iload_n 3, []), (19, .aload_n 0, []), (20, .arraylength, []), (21, .bipush (.ofNat 6), []), (23, .isub, []), (24, .if_icmp .gt 1060, [1084]), (27, .aload_n 0, []), (28, .iload_n 3, []), (29, .iaload, []), (30, .bipush (.ofNat 31), []), (32, .iand, []), (33, .tableswitch 1045 (.ofNat 0) 29 #[135, 198, 221, 234, 247, 280, 293, 326, 349, 372, 395, 408, 431, 454, 487, 530, 553, 596, 639, 682, 725, 788, 821, 864, 907, 940, 953, 976, 999, 1022], [1078, 168, 231, 254, 267, 280, 313, 326, 359, 382, 405, 428, 441, 464, 487, 520, 563, 586, 629, 672, 715, 758, 821, 854, 897, 940, 973, 986, 1009, 1032, 1055]), (168, .aload_n 1, []), (169, .aload_n 0, []), (170, .iload_n 3, []), (171, .iconst (.ofNat 1), []), (172, .iadd, []), (173, .iaload, []), (174, .aload_n 0, []), (175, .iload_n 3, []), (176, .iconst (.ofNat 2), []), (177, .iadd, []), (178, .iaload, []), (179, .aload_n 0, []), (180, .iload_n 3, []), (181, .iconst (.ofNat 3), []), (182, .iadd, []), (183, .iaload, []), (184, .aload_n 0, []), (185, .iload_n 3, []), (186, .iconst (.ofNat 4), []), (187, .iadd, []), (188, .iaload, []), (189, .aload_n 0, []), (190, .iload_n 3, []), (191, .iconst (.ofNat 5), []), (192, .iadd, []), (193, .iaload, []), (194, .invokevirtual 13, [97, 5, 9]), (197, .aload_n 2, []), (198, .aload_n 0, []), (199, .iload_n 3, []), (200, .iconst (.ofNat 1), []), (201, .iadd, []), (202, .iaload, []), (203, .aload_n 0, []), (204, .iload_n 3, []), (205, .iconst (.ofNat 2), []), (206, .iadd, []), (207, .iaload, []), (208, .aload_n 0, []), (209, .iload_n 3, []), (210, .iconst (.ofNat 3), []), (211, .iadd, []), (212, .iaload, []), (213, .aload_n 0, []), (214, .iload_n 3, []), (215, .iconst (.ofNat 4), []), (216, .iadd, []), (217, .iaload, []), (218, .aload_n 0, []), (219, .iload_n 3, []), (220, .iconst (.ofNat 5), []), (221, .iadd, []), (222, .iaload, []), (223, .invokevirtual 17, [136, 5, 10]), (226, .if_icmp .eq 852, [1078]), (229, .iconst (.ofNat 0), []), (230, .ireturn, []), (231, .aload_n 1, []), (232, .aload_n 0, []), (233, .iload_n 3, []), (234, .iconst (.ofNat 1), []), (235, .iadd, []), (236, .iaload, []), (237, .invokevirtual 18, [98, 1, 9]), (240, .aload_n 2, []), (241, .aload_n 0, []), (242, .iload_n 3, []), (243, .iconst (.ofNat 1), []), (244, .iadd, []), (245, .iaload, []), (246, .invokevirtual 22, [138, 1, 10]), (249, .if_icmp .eq 829, [1078]), (252, .iconst (.ofNat 0), []), (253, .ireturn, []), (254, .aload_n 1, []), (255, .invokevirtual 23, [99, 0, 9]), (258, .aload_n 2, []), (259, .invokevirtual 27, [153, 0, 10]), (262, .if_icmp .eq 816, [1078]), (265, .iconst (.ofNat 0), []), (266, .ireturn, []), (267, .aload_n 1, []), (268, .invokevirtual 28, [100, 0, 9]), (271, .aload_n 2, []), (272, .invokevirtual 31, [154, 0, 10]), (275, .if_icmp .eq 803, [1078]), (278, .iconst (.ofNat 0), []), (279, .ireturn, []), (280, .aload_n 1, []), (281, .aload_n 0, []), (282, .iload_n 3, []), (283, .iconst (.ofNat 1), []), (284, .iadd, []), (285, .iaload, []), (286, .aload_n 0, []), (287, .iload_n 3, []), (288, .iconst (.ofNat 2), []), (289, .iadd, []), (290, .iaload, []), (291, .invokevirtual 32, [101, 2, 9]), (294, .aload_n 2, []), (295, .aload_n 0, []), (296, .iload_n 3, []), (297, .iconst (.ofNat 1), []), (298, .iadd, []), (299, .iaload, []), (300, .aload_n 0, []), (301, .iload_n 3, []), (302, .iconst (.ofNat 2), []), (303, .iadd, []), (304, .iaload, []), (305, .invokevirtual 36, [184, 2, 10]), (308, .if_icmp .eq 770, [1078]), (311, .iconst (.ofNat 0), []), (312, .ireturn, []), (313, .aload_n 1, []), (314, .invokevirtual 37, [102, 0, 9]), (317, .aload_n 2, []), (318, .invokevirtual 40, [185, 0, 10]), (321, .if_icmp .eq 757, [1078]), (324, .iconst (.ofNat 0), []), (325, .ireturn, []), (326, .aload_n 1, []), (327, .aload_n 0, []), (328, .iload_n 3, []), (329, .iconst (.ofNat 1), []), (330, .iadd, []), (331, .iaload, []), (332, .aload_n 0, []), (333, .iload_n 3, []), (334, .iconst (.ofNat 2), []), (335, .iadd, []), (336, .iaload, []), (337, .invokevirtual 41, [103, 2, 9]), (340, .aload_n 2, []), (341, .aload_n 0, []), (342, .iload_n 3, []), (343, .iconst (.ofNat 1), []), (344, .iadd, []), (345, .iaload, []), (346, .aload_n 0, []), (347, .iload_n 3, []), (348, .iconst (.ofNat 2), []), (349, .iadd, []), (350, .iaload, []), (351, .invokevirtual 44, [189, 2, 10]), (354, .if_icmp .eq 724, [1078]), (357, .iconst (.ofNat 0), []), (358, .ireturn, []), (359, .aload_n 1, []), (360, .aload_n 0, []), (361, .iload_n 3, []), (362, .iconst (.ofNat 1), []), (363, .iadd, []), (364, .iaload, []), (365, .invokevirtual 45, [104, 1, 9]), (368, .aload_n 2, []), (369, .aload_n 0, []), (370, .iload_n 3, []), (371, .iconst (.ofNat 1), []), (372, .iadd, []), (373, .iaload, []), (374, .invokevirtual 48, [190, 1, 10]), (377, .if_icmp .eq 701, [1078]), (380, .iconst (.ofNat 0), []), (381, .ireturn, []), (382, .aload_n 1, []), (383, .aload_n 0, []), (384, .iload_n 3, []), (385, .iconst (.ofNat 1), []), (386, .iadd, []), (387, .iaload, []), (388, .invokevirtual 49, [105, 1, 9]), (391, .aload_n 2, []), (392, .aload_n 0, []), (393, .iload_n 3, []), (394, .iconst (.ofNat 1), []), (395, .iadd, []), (396, .iaload, []), (397, .invokevirtual 53, [191, 1, 10]), (400, .if_icmp .eq 678, [1078]), (403, .iconst (.ofNat 0), []), (404, .ireturn, []), (405, .aload_n 1, []), (406, .aload_n 0, []), (407, .iload_n 3, []), (408, .iconst (.ofNat 1), []), (409, .iadd, []), (410, .iaload, []), (411, .invokevirtual 54, [106, 1, 9]), (414, .aload_n 2, []), (415, .aload_n 0, []), (416, .iload_n 3, []), (417, .iconst (.ofNat 1), []), (418, .iadd, []), (419, .iaload, []), (420, .invokevirtual 57, [192, 1, 10]), (423, .if_icmp .eq 655, [1078]), (426, .iconst (.ofNat 0), []), (427, .ireturn, []), (428, .aload_n 1, []), (429, .invokevirtual 58, [107, 0, 9]), (432, .aload_n 2, []), (433, .invokevirtual 62, [193, 0, 10]), (436, .if_icmp .eq 642, [1078]), (439, .iconst (.ofNat 0), []), (440, .ireturn, []), (441, .aload_n 1, []), (442, .aload_n 0, []), (443, .iload_n 3, []), (444, .iconst (.ofNat 1), []), (445, .iadd, []), (446, .iaload, []), (447, .invokevirtual 63, [108, 1, 9]), (450, .aload_n 2, []), (451, .aload_n 0, []), (452, .iload_n 3, []), (453, .iconst (.ofNat 1), []), (454, .iadd, []), (455, .iaload, []), (456, .invokevirtual 66, [194, 1, 10]), (459, .if_icmp .eq 619, [1078]), (462, .iconst (.ofNat 0), []), (463, .ireturn, []), (464, .aload_n 1, []), (465, .aload_n 0, []), (466, .iload_n 3, []), (467, .iconst (.ofNat 1), []), (468, .iadd, []), (469, .iaload, []), (470, .invokevirtual 67, [109, 1, 9]), (473, .aload_n 2, []), (474, .aload_n 0, []), (475, .iload_n 3, []), (476, .iconst (.ofNat 1), []), (477, .iadd, []), (478, .iaload, []), (479, .invokevirtual 70, [199, 1, 10]), (482, .if_icmp .eq 596, [1078]), (485, .iconst (.ofNat 0), []), (486, .ireturn, []), (487, .aload_n 1, []), (488, .aload_n 0, []), (489, .iload_n 3, []), (490, .iconst (.ofNat 1), []), (491, .iadd, []), (492, .iaload, []), (493, .aload_n 0, []), (494, .iload_n 3, []), (495, .iconst (.ofNat 2), []), (496, .iadd, []), (497, .iaload, []), (498, .invokevirtual 71, [110, 2, 9]), (501, .aload_n 2, []), (502, .aload_n 0, []), (503, .iload_n 3, []), (504, .iconst (.ofNat 1), []), (505, .iadd, []), (506, .iaload, []), (507, .aload_n 0, []), (508, .iload_n 3, []), (509, .iconst (.ofNat 2), []), (510, .iadd, []), (511, .iaload, []), (512, .invokevirtual 74, [200, 2, 10]), (515, .if_icmp .eq 563, [1078]), (518, .iconst (.ofNat 0), []), (519, .ireturn, []), (520, .aload_n 1, []), (521, .aload_n 0, []), (522, .iload_n 3, []), (523, .iconst (.ofNat 1), []), (524, .iadd, []), (525, .iaload, []), (526, .aload_n 0, []), (527, .iload_n 3, []), (528, .iconst (.ofNat 2), []), (529, .iadd, []), (530, .iaload, []), (531, .aload_n 0, []), (532, .iload_n 3, []), (533, .iconst (.ofNat 3), []), (534, .iadd, []), (535, .iaload, []), (536, .invokevirtual 75, [111, 3, 9]), (539, .aload_n 2, []), (540, .aload_n 0, []), (541, .iload_n 3, []), (542, .iconst (.ofNat 1), []), (543, .iadd, []), (544, .iaload, []), (545, .aload_n 0, []), (546, .iload_n 3, []), (547, .iconst (.ofNat 2), []), (548, .iadd, []), (549, .iaload, []), (550, .aload_n 0, []), (551, .iload_n 3, []), (552, .iconst (.ofNat 3), []), (553, .iadd, []), (554, .iaload, []), (555, .invokevirtual 79, [204, 3, 10]), (558, .if_icmp .eq 520, [1078]), (561, .iconst (.ofNat 0), []), (562, .ireturn, []), (563, .aload_n 1, []), (564, .aload_n 0, []), (565, .iload_n 3, []), (566, .iconst (.ofNat 1), []), (567, .iadd, []), (568, .iaload, []), (569, .invokevirtual 80, [112, 1, 9]), (572, .aload_n 2, []), (573, .aload_n 0, []), (574, .iload_n 3, []), (575, .iconst (.ofNat 1), []), (576, .iadd, []), (577, .iaload, []), (578, .invokevirtual 83, [206, 1, 10]), (581, .if_icmp .eq 497, [1078]), (584, .iconst (.ofNat 0), []), (585, .ireturn, []), (586, .aload_n 1, []), (587, .aload_n 0, []), (588, .iload_n 3, []), (589, .iconst (.ofNat 1), []), (590, .iadd, []), (591, .iaload, []), (592, .aload_n 0, []), (593, .iload_n 3, []), (594, .iconst (.ofNat 2), []), (595, .iadd, []), (596, .iaload, []), (597, .aload_n 0, []), (598, .iload_n 3, []), (599, .iconst (.ofNat 3), []), (600, .iadd, []), (601, .iaload, []), (602, .invokevirtual 84, [113, 3, 9]), (605, .aload_n 2, []), (606, .aload_n 0, []), (607, .iload_n 3, []), (608, .iconst (.ofNat 1), []), (609, .iadd, []), (610, .iaload, []), (611, .aload_n 0, []), (612, .iload_n 3, []), (613, .iconst (.ofNat 2), []), (614, .iadd, []), (615, .iaload, []), (616, .aload_n 0, []), (617, .iload_n 3, []), (618, .iconst (.ofNat 3), []), (619, .iadd, []), (620, .iaload, []), (621, .invokevirtual 87, [209, 3, 10]), (624, .if_icmp .eq 454, [1078]), (627, .iconst (.ofNat 0), []), (628, .ireturn, []), (629, .aload_n 1, []), (630, .aload_n 0, []), (631, .iload_n 3, []), (632, .iconst (.ofNat 1), []), (633, .iadd, []), (634, .iaload, []), (635, .aload_n 0, []), (636, .iload_n 3, []), (637, .iconst (.ofNat 2), []), (638, .iadd, []), (639, .iaload, []), (640, .aload_n 0, []), (641, .iload_n 3, []), (642, .iconst (.ofNat 3), []), (643, .iadd, []), (644, .iaload, []), (645, .invokevirtual 88, [114, 3, 9]), (648, .aload_n 2, []), (649, .aload_n 0, []), (650, .iload_n 3, []), (651, .iconst (.ofNat 1), []), (652, .iadd, []), (653, .iaload, []), (654, .aload_n 0, []), (655, .iload_n 3, []), (656, .iconst (.ofNat 2), []), (657, .iadd, []), (658, .iaload, []), (659, .aload_n 0, []), (660, .iload_n 3, []), (661, .iconst (.ofNat 3), []), (662, .iadd, []), (663, .iaload, []), (664, .invokevirtual 91, [210, 3, 10]), (667, .if_icmp .eq 411, [1078]), (670, .iconst (.ofNat 0), []), (671, .ireturn, []), (672, .aload_n 1, []), (673, .aload_n 0, []), (674, .iload_n 3, []), (675, .iconst (.ofNat 1), []), (676, .iadd, []), (677, .iaload, []), (678, .aload_n 0, []), (679, .iload_n 3, []), (680, .iconst (.ofNat 2), []), (681, .iadd, []), (682, .iaload, []), (683, .aload_n 0, []), (684, .iload_n 3, []), (685, .iconst (.ofNat 3), []), (686, .iadd, []), (687, .iaload, []), (688, .invokevirtual 92, [115, 3, 9]), (691, .aload_n 2, []), (692, .aload_n 0, []), (693, .iload_n 3, []), (694, .iconst (.ofNat 1), []), (695, .iadd, []), (696, .iaload, []), (697, .aload_n 0, []), (698, .iload_n 3, []), (699, .iconst (.ofNat 2), []), (700, .iadd, []), (701, .iaload, []), (702, .aload_n 0, []), (703, .iload_n 3, []), (704, .iconst (.ofNat 3), []), (705, .iadd, []), (706, .iaload, []), (707, .invokevirtual 95, [211, 3, 10]), (710, .if_icmp .eq 368, [1078]), (713, .iconst (.ofNat 0), []), (714, .ireturn, []), (715, .aload_n 1, []), (716, .aload_n 0, []), (717, .iload_n 3, []), (718, .iconst (.ofNat 1), []), (719, .iadd, []), (720, .iaload, []), (721, .aload_n 0, []), (722, .iload_n 3, []), (723, .iconst (.ofNat 2), []), (724, .iadd, []), (725, .iaload, []), (726, .aload_n 0, []), (727, .iload_n 3, []), (728, .iconst (.ofNat 3), []), (729, .iadd, []), (730, .iaload, []), (731, .invokevirtual 96, [116, 3, 9]), (734, .aload_n 2, []), (735, .aload_n 0, []), (736, .iload_n 3, []), (737, .iconst (.ofNat 1), []), (738, .iadd, []), (739, .iaload, []), (740, .aload_n 0, []), (741, .iload_n 3, []), (742, .iconst (.ofNat 2), []), (743, .iadd, []), (744, .iaload, []), (745, .aload_n 0, []), (746, .iload_n 3, []), (747, .iconst (.ofNat 3), []), (748, .iadd, []), (749, .iaload, []), (750, .invokevirtual 99, [212, 3, 10]), (753, .if_icmp .eq 325, [1078]), (756, .iconst (.ofNat 0), []), (757, .ireturn, []), (758, .aload_n 1, []), (759, .aload_n 0, []), (760, .iload_n 3, []), (761, .iconst (.ofNat 1), []), (762, .iadd, []), (763, .iaload, []), (764, .aload_n 0, []), (765, .iload_n 3, []), (766, .iconst (.ofNat 2), []), (767, .iadd, []), (768, .iaload, []), (769, .aload_n 0, []), (770, .iload_n 3, []), (771, .iconst (.ofNat 3), []), (772, .iadd, []), (773, .iaload, []), (774, .aload_n 0, []), (775, .iload_n 3, []), (776, .iconst (.ofNat 4), []), (777, .iadd, []), (778, .iaload, []), (779, .aload_n 0, []), (780, .iload_n 3, []), (781, .iconst (.ofNat 5), []), (782, .iadd, []), (783, .iaload, []), (784, .invokevirtual 100, [117, 5, 9]), (787, .aload_n 2, []), (788, .aload_n 0, []), (789, .iload_n 3, []), (790, .iconst (.ofNat 1), []), (791, .iadd, []), (792, .iaload, []), (793, .aload_n 0, []), (794, .iload_n 3, []), (795, .iconst (.ofNat 2), []), (796, .iadd, []), (797, .iaload, []), (798, .aload_n 0, []), (799, .iload_n 3, []), (800, .iconst (.ofNat 3), []), (801, .iadd, []), (802, .iaload, []), (803, .aload_n 0, []), (804, .iload_n 3, []), (805, .iconst (.ofNat 4), []), (806, .iadd, []), (807, .iaload, []), (808, .aload_n 0, []), (809, .iload_n 3, []), (810, .iconst (.ofNat 5), []), (811, .iadd, []), (812, .iaload, []), (813, .invokevirtual 103, [213, 5, 10]), (816, .if_icmp .eq 262, [1078]), (819, .iconst (.ofNat 0), []), (820, .ireturn, []), (821, .aload_n 1, []), (822, .aload_n 0, []), (823, .iload_n 3, []), (824, .iconst (.ofNat 1), []), (825, .iadd, []), (826, .iaload, []), (827, .aload_n 0, []), (828, .iload_n 3, []), (829, .iconst (.ofNat 2), []), (830, .iadd, []), (831, .iaload, []), (832, .invokevirtual 104, [118, 2, 9]), (835, .aload_n 2, []), (836, .aload_n 0, []), (837, .iload_n 3, []), (838, .iconst (.ofNat 1), []), (839, .iadd, []), (840, .iaload, []), (841, .aload_n 0, []), (842, .iload_n 3, []), (843, .iconst (.ofNat 2), []), (844, .iadd, []), (845, .iaload, []), (846, .invokevirtual 107, [216, 2, 10]), (849, .if_icmp .eq 229, [1078]), (852, .iconst (.ofNat 0), []), (853, .ireturn, []), (854, .aload_n 1, []), (855, .aload_n 0, []), (856, .iload_n 3, []), (857, .iconst (.ofNat 1), []), (858, .iadd, []), (859, .iaload, []), (860, .aload_n 0, []), (861, .iload_n 3, []), (862, .iconst (.ofNat 2), []), (863, .iadd, []), (864, .iaload, []), (865, .aload_n 0, []), (866, .iload_n 3, []), (867, .iconst (.ofNat 3), []), (868, .iadd, []), (869, .iaload, []), (870, .invokevirtual 108, [119, 3, 9]), (873, .aload_n 2, []), (874, .aload_n 0, []), (875, .iload_n 3, []), (876, .iconst (.ofNat 1), []), (877, .iadd, []), (878, .iaload, []), (879, .aload_n 0, []), (880, .iload_n 3, []), (881, .iconst (.ofNat 2), []), (882, .iadd, []), (883, .iaload, []), (884, .aload_n 0, []), (885, .iload_n 3, []), (886, .iconst (.ofNat 3), []), (887, .iadd, []), (888, .iaload, []), (889, .invokevirtual 111, [217, 3, 10]), (892, .if_icmp .eq 186, [1078]), (895, .iconst (.ofNat 0), []), (896, .ireturn, []), (897, .aload_n 1, []), (898, .aload_n 0, []), (899, .iload_n 3, []), (900, .iconst (.ofNat 1), []), (901, .iadd, []), (902, .iaload, []), (903, .aload_n 0, []), (904, .iload_n 3, []), (905, .iconst (.ofNat 2), []), (906, .iadd, []), (907, .iaload, []), (908, .aload_n 0, []), (909, .iload_n 3, []), (910, .iconst (.ofNat 3), []), (911, .iadd, []), (912, .iaload, []), (913, .invokevirtual 112, [120, 3, 9]), (916, .aload_n 2, []), (917, .aload_n 0, []), (918, .iload_n 3, []), (919, .iconst (.ofNat 1), []), (920, .iadd, []), (921, .iaload, []), (922, .aload_n 0, []), (923, .iload_n 3, []), (924, .iconst (.ofNat 2), []), (925, .iadd, []), (926, .iaload, []), (927, .aload_n 0, []), (928, .iload_n 3, []), (929, .iconst (.ofNat 3), []), (930, .iadd, []), (931, .iaload, []), (932, .invokevirtual 115, [218, 3, 10]), (935, .if_icmp .eq 143, [1078]), (938, .iconst (.ofNat 0), []), (939, .ireturn, []), (940, .aload_n 1, []), (941, .aload_n 0, []), (942, .iload_n 3, []), (943, .iconst (.ofNat 1), []), (944, .iadd, []), (945, .iaload, []), (946, .aload_n 0, []), (947, .iload_n 3, []), (948, .iconst (.ofNat 2), []), (949, .iadd, []), (950, .iaload, []), (951, .invokevirtual 116, [121, 2, 9]), (954, .aload_n 2, []), (955, .aload_n 0, []), (956, .iload_n 3, []), (957, .iconst (.ofNat 1), []), (958, .iadd, []), (959, .iaload, []), (960, .aload_n 0, []), (961, .iload_n 3, []), (962, .iconst (.ofNat 2), []), (963, .iadd, []), (964, .iaload, []), (965, .invokevirtual 119, [219, 2, 10]), (968, .if_icmp .eq 110, [1078]), (971, .iconst (.ofNat 0), []), (972, .ireturn, []), (973, .aload_n 1, []), (974, .invokevirtual 120, [122, 0, 9]), (977, .aload_n 2, []), (978, .invokevirtual 123, [220, 0, 10]), (981, .if_icmp .eq 97, [1078]), (984, .iconst (.ofNat 0), []), (985, .ireturn, []), (986, .aload_n 1, []), (987, .aload_n 0, []), (988, .iload_n 3, []), (989, .iconst (.ofNat 1), []), (990, .iadd, []), (991, .iaload, []), (992, .invokevirtual 124, [123, 1, 9]), (995, .aload_n 2, []), (996, .aload_n 0, []), (997, .iload_n 3, []), (998, .iconst (.ofNat 1), []), (999, .iadd, []), (1000, .iaload, []), (1001, .invokevirtual 127, [222, 1, 10]), (1004, .if_icmp .eq 74, [1078]), (1007, .iconst (.ofNat 0), []), (1008, .ireturn, []), (1009, .aload_n 1, []), (1010, .aload_n 0, []), (1011, .iload_n 3, []), (1012, .iconst (.ofNat 1), []), (1013, .iadd, []), (1014, .iaload, []), (1015, .invokevirtual 128, [124, 1, 9]), (1018, .aload_n 2, []), (1019, .aload_n 0, []), (1020, .iload_n 3, []), (1021, .iconst (.ofNat 1), []), (1022, .iadd, []), (1023, .iaload, []), (1024, .invokevirtual 131, [223, 1, 10]), (1027, .if_icmp .eq 51, [1078]), (1030, .iconst (.ofNat 0), []), (1031, .ireturn, []), (1032, .aload_n 1, []), (1033, .aload_n 0, []), (1034, .iload_n 3, []), (1035, .iconst (.ofNat 1), []), (1036, .iadd, []), (1037, .iaload, []), (1038, .invokevirtual 132, [125, 1, 9]), (1041, .aload_n 2, []), (1042, .aload_n 0, []), (1043, .iload_n 3, []), (1044, .iconst (.ofNat 1), []), (1045, .iadd, []), (1046, .iaload, []), (1047, .invokevirtual 135, [224, 1, 10]), (1050, .if_icmp .eq 28, [1078]), (1053, .iconst (.ofNat 0), []), (1054, .ireturn, []), (1055, .aload_n 1, []), (1056, .aload_n 0, []), (1057, .iload_n 3, []), (1058, .iconst (.ofNat 1), []), (1059, .iadd, []), (1060, .iaload, []), (1061, .invokevirtual 136, [126, 1, 9]), (1064, .aload_n 2, []), (1065, .aload_n 0, []), (1066, .iload_n 3, []), (1067, .iconst (.ofNat 1), []), (1068, .iadd, []), (1069, .iaload, []), (1070, .invokevirtual 139, [225, 1, 10]), (1073, .if_icmp .eq 5, [1078]), (1076, .iconst (.ofNat 0), []), (1077, .ireturn, []), (1078, .iinc 3 (.ofNat 6), []), (1081, .goto (-1063), [18]), (1084, .iconst (.ofNat 1), []), (1085, .ireturn, [])]
/-- OneClockLaw.law -/
def am_m227 : am_Info := (11, am_c227, 4, some .boolean, 8)
def am_MT : List am_Info := [am_m0, am_m1, am_m2, am_m3, am_m4, am_m5, am_m6, am_m7, am_m8, am_m9, am_m10, am_m11, am_m12, am_m13, am_m14, am_m15, am_m16, am_m17, am_m18, am_m19, am_m20, am_m21, am_m22, am_m23, am_m24, am_m25, am_m26, am_m27, am_m28, am_m29, am_m30, am_m31, am_m32, am_m33, am_m34, am_m35, am_m36, am_m37, am_m38, am_m39, am_m40, am_m41, am_m42, am_m43, am_m44, am_m45, am_m46, am_m47, am_m48, am_m49, am_m50, am_m51, am_m52, am_m53, am_m54, am_m55, am_m56, am_m57, am_m58, am_m59, am_m60, am_m61, am_m62, am_m63, am_m64, am_m65, am_m66, am_m67, am_m68, am_m69, am_m70, am_m71, am_m72, am_m73, am_m74, am_m75, am_m76, am_m77, am_m78, am_m79, am_m80, am_m81, am_m82, am_m83, am_m84, am_m85, am_m86, am_m87, am_m88, am_m89, am_m90, am_m91, am_m92, am_m93, am_m94, am_m95, am_m96, am_m97, am_m98, am_m99, am_m100, am_m101, am_m102, am_m103, am_m104, am_m105, am_m106, am_m107, am_m108, am_m109, am_m110, am_m111, am_m112, am_m113, am_m114, am_m115, am_m116, am_m117, am_m118, am_m119, am_m120, am_m121, am_m122, am_m123, am_m124, am_m125, am_m126, am_m127, am_m128, am_m129, am_m130, am_m131, am_m132, am_m133, am_m134, am_m135, am_m136, am_m137, am_m138, am_m139, am_m140, am_m141, am_m142, am_m143, am_m144, am_m145, am_m146, am_m147, am_m148, am_m149, am_m150, am_m151, am_m152, am_m153, am_m154, am_m155, am_m156, am_m157, am_m158, am_m159, am_m160, am_m161, am_m162, am_m163, am_m164, am_m165, am_m166, am_m167, am_m168, am_m169, am_m170, am_m171, am_m172, am_m173, am_m174, am_m175, am_m176, am_m177, am_m178, am_m179, am_m180, am_m181, am_m182, am_m183, am_m184, am_m185, am_m186, am_m187, am_m188, am_m189, am_m190, am_m191, am_m192, am_m193, am_m194, am_m195, am_m196, am_m197, am_m198, am_m199, am_m200, am_m201, am_m202, am_m203, am_m204, am_m205, am_m206, am_m207, am_m208, am_m209, am_m210, am_m211, am_m212, am_m213, am_m214, am_m215, am_m216, am_m217, am_m218, am_m219, am_m220, am_m221, am_m222, am_m223, am_m224, am_m225, am_m226, am_m227]
/-- the shape of the memory once both objects are made -/
def am_SH : List am_Shp := [.inl (12, 3072), .inl (10, 3), .inl (10, 3), .inl (10, 3), .inl (11, 136), .inr (9, [some (.ref 6), some (.ref 12), some (.ref 22), some (.ref 32), some (.ref 34), some (.ref 40), some (.ref 53), some (.ref 63), some (.ref 65)]), .inr (7, [some (.ref 7), none, some (.ref 8), some (.ref 9), some (.ref 10), some (.ref 11)]), .inl (1, 2000), .inl (0, 402), .inl (0, 402), .inl (0, 402), .inl (0, 402), .inr (3, [some (.ref 13), some (.ref 14), some (.ref 15), some (.ref 16), some (.ref 21), none, none, none, none, none]), .inl (0, 6), .inl (0, 6), .inl (0, 4), .inr (0, [some (.ref 17), some (.ref 18), some (.ref 19), some (.ref 20), none]), .inl (0, 400), .inl (0, 400), .inl (0, 6), .inl (0, 16), .inl (0, 18), .inr (3, [some (.ref 23), some (.ref 24), some (.ref 25), some (.ref 26), some (.ref 31), none, none, none, none, none]), .inl (0, 6), .inl (0, 6), .inl (0, 4), .inr (0, [some (.ref 27), some (.ref 28), some (.ref 29), some (.ref 30), none]), .inl (0, 400), .inl (0, 400), .inl (0, 6), .inl (0, 16), .inl (0, 18), .inr (5, [some (.ref 6), some (.ref 22), some (.ref 33), none, none, none, none, none, none]), .inl (0, 6), .inr (4, [some (.ref 12), some (.ref 35), some (.ref 36), some (.ref 37), some (.ref 38), some (.ref 39), none, none, none, none, none]), .inl (0, 6), .inl (0, 6), .inl (0, 6), .inl (0, 6), .inl (0, 6), .inr (1, [some (.ref 12), some (.ref 34), some (.ref 47), some (.ref 41), some (.ref 42), some (.ref 43), none, none, none, none, some (.ref 44), some (.ref 45), none, none, some (.ref 46), none, none, none]), .inl (0, 88), .inl (0, 4), .inl (0, 4), .inl (0, 6), .inl (0, 6), .inl (0, 64), .inr (4, [some (.ref 12), some (.ref 48), some (.ref 49), some (.ref 50), some (.ref 51), some (.ref 52), none, none, none, none, none]), .inl (0, 6), .inl (0, 6), .inl (0, 6), .inl (0, 6), .inl (0, 6), .inr (8, [some (.ref 12), some (.ref 57), some (.ref 54), some (.ref 55), some (.ref 56), none]), .inl (0, 4), .inl (0, 4), .inl (0, 88), .inr (4, [some (.ref 12), some (.ref 58), some (.ref 59), some (.ref 60), some (.ref 61), some (.ref 62), none, none, none, none, none]), .inl (0, 6), .inl (0, 6), .inl (0, 6), .inl (0, 6), .inl (0, 6), .inr (2, [some (.ref 64), none, none]), .inl (0, 1100), .inr (6, [some (.ref 66), some (.ref 67)]), .inl (0, 66), .inl (2, 3), .inr (10, [none, some (.ref 69), none, some (.ref 70), none, some (.ref 71), some (.ref 72), some (.ref 73), some (.ref 74), some (.ref 75), none, none, none, none, none, none, none, none, none, none, none, some (.ref 76), some (.ref 77), some (.ref 78), some (.ref 79), some (.ref 80), some (.ref 81), some (.ref 82), some (.ref 83), some (.ref 84), some (.ref 85), some (.ref 86), none, some (.ref 87), some (.ref 88), some (.ref 89), some (.ref 90), some (.ref 91), none, some (.ref 92), some (.ref 93), some (.ref 94), none, some (.ref 95), some (.ref 96), none, some (.ref 97), some (.ref 98), some (.ref 99), none, none, some (.ref 100), some (.ref 101), some (.ref 102), some (.ref 103), some (.ref 104), some (.ref 105), none, none, none, some (.ref 106), some (.ref 107), none, some (.ref 108), some (.ref 109), some (.ref 110), some (.ref 111)]), .inl (1, 2000), .inl (1, 2000), .inl (0, 403), .inl (0, 403), .inl (0, 403), .inl (3, 403), .inl (3, 17), .inl (3, 6), .inl (0, 2), .inl (0, 12), .inl (0, 12), .inl (0, 2), .inl (0, 8), .inl (0, 2), .inl (0, 2), .inl (0, 2), .inl (0, 36), .inl (0, 36), .inl (2, 260), .inl (0, 260), .inl (0, 260), .inl (0, 260), .inl (0, 260), .inl (0, 840), .inl (0, 840), .inl (0, 64), .inl (0, 6), .inl (0, 400), .inl (0, 40), .inl (0, 40), .inl (0, 6), .inl (0, 2000), .inl (0, 4), .inl (0, 4), .inl (0, 4), .inl (0, 4), .inl (0, 160), .inl (0, 6), .inl (0, 6), .inl (0, 4), .inl (0, 4), .inl (2, 3), .inl (0, 120)]
end
section
-- ===== PART A: goes FIRST, ahead of the names: the tables' words, and 'selects' of the private methods out of them =====
/-- a private method of a class that the tables say can be made, by its rows of tables_1 -/
def lw_okq (q : MethodName × Nat) : Prop := (q.1.cls ≠ "java/lang/invoke/MethodHandle" ∧ q.1.cls ≠ "java/lang/invoke/VarHandle") ∧ Cond.instantiable q.1.cls q.2 ∈ tables_1 ∧ Cond.privateMethod q.1 ∈ tables_1 ∧ Cond.instanceMethod q.1 ∈ tables_1
theorem lw_p0 : lw_okq (⟨"OneClock$Reader", "startAnew", "()V"⟩, 9) := ⟨⟨by decide +kernel, by decide +kernel⟩, List.mem_of_getElem? (i := 156) (by decide +kernel), List.mem_of_getElem? (i := 430) (by decide +kernel), List.mem_of_getElem? (i := 431) (by decide +kernel)⟩
theorem lw_p1 : lw_okq (⟨"OneClock$Tape", "skipBlanks", "(I)I"⟩, 6) := ⟨⟨by decide +kernel, by decide +kernel⟩, List.mem_of_getElem? (i := 28) (by decide +kernel), List.mem_of_getElem? (i := 439) (by decide +kernel), List.mem_of_getElem? (i := 440) (by decide +kernel)⟩
theorem lw_p2 : lw_okq (⟨"OneClock$Tape", "isBlank", "(I)Z"⟩, 6) := ⟨⟨by decide +kernel, by decide +kernel⟩, List.mem_of_getElem? (i := 28) (by decide +kernel), List.mem_of_getElem? (i := 443) (by decide +kernel), List.mem_of_getElem? (i := 444) (by decide +kernel)⟩
theorem lw_p3 : lw_okq (⟨"OneClock$Tape", "endOfThing", "(I)I"⟩, 6) := ⟨⟨by decide +kernel, by decide +kernel⟩, List.mem_of_getElem? (i := 28) (by decide +kernel), List.mem_of_getElem? (i := 447) (by decide +kernel), List.mem_of_getElem? (i := 448) (by decide +kernel)⟩
theorem lw_p4 : lw_okq (⟨"OneClock$Tape", "isLetter", "(I)Z"⟩, 6) := ⟨⟨by decide +kernel, by decide +kernel⟩, List.mem_of_getElem? (i := 28) (by decide +kernel), List.mem_of_getElem? (i := 451) (by decide +kernel), List.mem_of_getElem? (i := 452) (by decide +kernel)⟩
theorem lw_p5 : lw_okq (⟨"OneClock$Tape", "isDigit", "(I)Z"⟩, 6) := ⟨⟨by decide +kernel, by decide +kernel⟩, List.mem_of_getElem? (i := 28) (by decide +kernel), List.mem_of_getElem? (i := 455) (by decide +kernel), List.mem_of_getElem? (i := 456) (by decide +kernel)⟩
theorem lw_p6 : lw_okq (⟨"OneClock$Tape", "kindOfThing", "(II)I"⟩, 6) := ⟨⟨by decide +kernel, by decide +kernel⟩, List.mem_of_getElem? (i := 28) (by decide +kernel), List.mem_of_getElem? (i := 462) (by decide +kernel), List.mem_of_getElem? (i := 463) (by decide +kernel)⟩
theorem lw_p7 : lw_okq (⟨"OneClock$Tape", "isSign", "(I)Z"⟩, 6) := ⟨⟨by decide +kernel, by decide +kernel⟩, List.mem_of_getElem? (i := 28) (by decide +kernel), List.mem_of_getElem? (i := 466) (by decide +kernel), List.mem_of_getElem? (i := 467) (by decide +kernel)⟩
theorem lw_p8 : lw_okq (⟨"OneClock$Tape", "isWord", "(III)Z"⟩, 6) := ⟨⟨by decide +kernel, by decide +kernel⟩, List.mem_of_getElem? (i := 28) (by decide +kernel), List.mem_of_getElem? (i := 470) (by decide +kernel), List.mem_of_getElem? (i := 471) (by decide +kernel)⟩
theorem lw_p9 : lw_okq (⟨"OneClock$Tape", "valueOfDigits", "(II)I"⟩, 6) := ⟨⟨by decide +kernel, by decide +kernel⟩, List.mem_of_getElem? (i := 28) (by decide +kernel), List.mem_of_getElem? (i := 515) (by decide +kernel), List.mem_of_getElem? (i := 516) (by decide +kernel)⟩
theorem lw_p10 : lw_okq (⟨"OneClock$Reader", "readBoard", "()V"⟩, 9) := ⟨⟨by decide +kernel, by decide +kernel⟩, List.mem_of_getElem? (i := 156) (by decide +kernel), List.mem_of_getElem? (i := 519) (by decide +kernel), List.mem_of_getElem? (i := 520) (by decide +kernel)⟩
theorem lw_p11 : lw_okq (⟨"OneClock$Reader", "fail", "(I)V"⟩, 9) := ⟨⟨by decide +kernel, by decide +kernel⟩, List.mem_of_getElem? (i := 156) (by decide +kernel), List.mem_of_getElem? (i := 523) (by decide +kernel), List.mem_of_getElem? (i := 524) (by decide +kernel)⟩
theorem lw_p12 : lw_okq (⟨"OneClock$Reader", "pass", "(I)Z"⟩, 9) := ⟨⟨by decide +kernel, by decide +kernel⟩, List.mem_of_getElem? (i := 156) (by decide +kernel), List.mem_of_getElem? (i := 527) (by decide +kernel), List.mem_of_getElem? (i := 528) (by decide +kernel)⟩
theorem lw_p13 : lw_okq (⟨"OneClock$Reader", "findName", "()I"⟩, 9) := ⟨⟨by decide +kernel, by decide +kernel⟩, List.mem_of_getElem? (i := 156) (by decide +kernel), List.mem_of_getElem? (i := 531) (by decide +kernel), List.mem_of_getElem? (i := 532) (by decide +kernel)⟩
theorem lw_p14 : lw_okq (⟨"OneClock$Reader", "noteSlip", "(II)V"⟩, 9) := ⟨⟨by decide +kernel, by decide +kernel⟩, List.mem_of_getElem? (i := 156) (by decide +kernel), List.mem_of_getElem? (i := 539) (by decide +kernel), List.mem_of_getElem? (i := 540) (by decide +kernel)⟩
theorem lw_p15 : lw_okq (⟨"OneClock$Reader", "readInt", "(II)I"⟩, 9) := ⟨⟨by decide +kernel, by decide +kernel⟩, List.mem_of_getElem? (i := 156) (by decide +kernel), List.mem_of_getElem? (i := 543) (by decide +kernel), List.mem_of_getElem? (i := 544) (by decide +kernel)⟩
def lw_privs_1 : List (MethodName × Nat) := [(⟨"OneClock$Reader", "startAnew", "()V"⟩, 9), (⟨"OneClock$Tape", "skipBlanks", "(I)I"⟩, 6), (⟨"OneClock$Tape", "isBlank", "(I)Z"⟩, 6), (⟨"OneClock$Tape", "endOfThing", "(I)I"⟩, 6), (⟨"OneClock$Tape", "isLetter", "(I)Z"⟩, 6), (⟨"OneClock$Tape", "isDigit", "(I)Z"⟩, 6), (⟨"OneClock$Tape", "kindOfThing", "(II)I"⟩, 6), (⟨"OneClock$Tape", "isSign", "(I)Z"⟩, 6), (⟨"OneClock$Tape", "isWord", "(III)Z"⟩, 6), (⟨"OneClock$Tape", "valueOfDigits", "(II)I"⟩, 6), (⟨"OneClock$Reader", "readBoard", "()V"⟩, 9), (⟨"OneClock$Reader", "fail", "(I)V"⟩, 9), (⟨"OneClock$Reader", "pass", "(I)Z"⟩, 9), (⟨"OneClock$Reader", "findName", "()I"⟩, 9), (⟨"OneClock$Reader", "noteSlip", "(II)V"⟩, 9), (⟨"OneClock$Reader", "readInt", "(II)I"⟩, 9)]
theorem lw_r1 : ∀ q ∈ lw_privs_1, lw_okq q := List.forall_mem_cons.mpr ⟨lw_p0, List.forall_mem_cons.mpr ⟨lw_p1, List.forall_mem_cons.mpr ⟨lw_p2, List.forall_mem_cons.mpr ⟨lw_p3, List.forall_mem_cons.mpr ⟨lw_p4, List.forall_mem_cons.mpr ⟨lw_p5, List.forall_mem_cons.mpr ⟨lw_p6, List.forall_mem_cons.mpr ⟨lw_p7, List.forall_mem_cons.mpr ⟨lw_p8, List.forall_mem_cons.mpr ⟨lw_p9, List.forall_mem_cons.mpr ⟨lw_p10, List.forall_mem_cons.mpr ⟨lw_p11, List.forall_mem_cons.mpr ⟨lw_p12, List.forall_mem_cons.mpr ⟨lw_p13, List.forall_mem_cons.mpr ⟨lw_p14, List.forall_mem_cons.mpr ⟨lw_p15, fun _ h => absurd h List.not_mem_nil⟩⟩⟩⟩⟩⟩⟩⟩⟩⟩⟩⟩⟩⟩⟩⟩
theorem lw_p16 : lw_okq (⟨"OneClock$Reader", "readLaw", "(I)V"⟩, 9) := ⟨⟨by decide +kernel, by decide +kernel⟩, List.mem_of_getElem? (i := 156) (by decide +kernel), List.mem_of_getElem? (i := 547) (by decide +kernel), List.mem_of_getElem? (i := 548) (by decide +kernel)⟩
theorem lw_p17 : lw_okq (⟨"OneClock$Reader", "readSum", "(I)V"⟩, 9) := ⟨⟨by decide +kernel, by decide +kernel⟩, List.mem_of_getElem? (i := 156) (by decide +kernel), List.mem_of_getElem? (i := 555) (by decide +kernel), List.mem_of_getElem? (i := 556) (by decide +kernel)⟩
theorem lw_p18 : lw_okq (⟨"OneClock$Reader", "readProduct", "(I)V"⟩, 9) := ⟨⟨by decide +kernel, by decide +kernel⟩, List.mem_of_getElem? (i := 156) (by decide +kernel), List.mem_of_getElem? (i := 559) (by decide +kernel), List.mem_of_getElem? (i := 560) (by decide +kernel)⟩
theorem lw_p19 : lw_okq (⟨"OneClock$Reader", "readUnit", "(I)V"⟩, 9) := ⟨⟨by decide +kernel, by decide +kernel⟩, List.mem_of_getElem? (i := 156) (by decide +kernel), List.mem_of_getElem? (i := 563) (by decide +kernel), List.mem_of_getElem? (i := 564) (by decide +kernel)⟩
theorem lw_p20 : lw_okq (⟨"OneClock$Reader", "readThinks", "()V"⟩, 9) := ⟨⟨by decide +kernel, by decide +kernel⟩, List.mem_of_getElem? (i := 156) (by decide +kernel), List.mem_of_getElem? (i := 575) (by decide +kernel), List.mem_of_getElem? (i := 576) (by decide +kernel)⟩
theorem lw_p21 : lw_okq (⟨"OneClock$Reader", "readNumber", "(III)I"⟩, 9) := ⟨⟨by decide +kernel, by decide +kernel⟩, List.mem_of_getElem? (i := 156) (by decide +kernel), List.mem_of_getElem? (i := 580) (by decide +kernel), List.mem_of_getElem? (i := 581) (by decide +kernel)⟩
theorem lw_p22 : lw_okq (⟨"OneClock", "isBoard", "(I)Z"⟩, 9) := ⟨⟨by decide +kernel, by decide +kernel⟩, List.mem_of_getElem? (i := 20) (by decide +kernel), List.mem_of_getElem? (i := 617) (by decide +kernel), List.mem_of_getElem? (i := 618) (by decide +kernel)⟩
theorem lw_p23 : lw_okq (⟨"OneClock", "isThink", "(I)Z"⟩, 9) := ⟨⟨by decide +kernel, by decide +kernel⟩, List.mem_of_getElem? (i := 20) (by decide +kernel), List.mem_of_getElem? (i := 647) (by decide +kernel), List.mem_of_getElem? (i := 648) (by decide +kernel)⟩
theorem lw_p24 : lw_okq (⟨"OneClock", "canPlay", "(I)Z"⟩, 9) := ⟨⟨by decide +kernel, by decide +kernel⟩, List.mem_of_getElem? (i := 20) (by decide +kernel), List.mem_of_getElem? (i := 651) (by decide +kernel), List.mem_of_getElem? (i := 652) (by decide +kernel)⟩
theorem lw_p25 : lw_okq (⟨"OneClock", "noteWhatStands", "()V"⟩, 9) := ⟨⟨by decide +kernel, by decide +kernel⟩, List.mem_of_getElem? (i := 20) (by decide +kernel), List.mem_of_getElem? (i := 664) (by decide +kernel), List.mem_of_getElem? (i := 665) (by decide +kernel)⟩
theorem lw_p26 : lw_okq (⟨"OneClock$Play", "dropFlag", "(I)V"⟩, 11) := ⟨⟨by decide +kernel, by decide +kernel⟩, List.mem_of_getElem? (i := 191) (by decide +kernel), List.mem_of_getElem? (i := 692) (by decide +kernel), List.mem_of_getElem? (i := 693) (by decide +kernel)⟩
theorem lw_p27 : lw_okq (⟨"OneClock", "isDepth", "(I)Z"⟩, 9) := ⟨⟨by decide +kernel, by decide +kernel⟩, List.mem_of_getElem? (i := 20) (by decide +kernel), List.mem_of_getElem? (i := 763) (by decide +kernel), List.mem_of_getElem? (i := 764) (by decide +kernel)⟩
theorem lw_p28 : lw_okq (⟨"OneClock$Guide", "tryRows", "(I)V"⟩, 18) := ⟨⟨by decide +kernel, by decide +kernel⟩, List.mem_of_getElem? (i := 252) (by decide +kernel), List.mem_of_getElem? (i := 776) (by decide +kernel), List.mem_of_getElem? (i := 777) (by decide +kernel)⟩
theorem lw_p29 : lw_okq (⟨"OneClock$Guide", "keepRow", "(II)V"⟩, 18) := ⟨⟨by decide +kernel, by decide +kernel⟩, List.mem_of_getElem? (i := 252) (by decide +kernel), List.mem_of_getElem? (i := 781) (by decide +kernel), List.mem_of_getElem? (i := 782) (by decide +kernel)⟩
theorem lw_p30 : lw_okq (⟨"OneClock$Guide", "tryMovesAt", "(II)V"⟩, 18) := ⟨⟨by decide +kernel, by decide +kernel⟩, List.mem_of_getElem? (i := 252) (by decide +kernel), List.mem_of_getElem? (i := 788) (by decide +kernel), List.mem_of_getElem? (i := 789) (by decide +kernel)⟩
theorem lw_p31 : lw_okq (⟨"OneClock", "isRule", "(II)Z"⟩, 9) := ⟨⟨by decide +kernel, by decide +kernel⟩, List.mem_of_getElem? (i := 20) (by decide +kernel), List.mem_of_getElem? (i := 807) (by decide +kernel), List.mem_of_getElem? (i := 808) (by decide +kernel)⟩
def lw_privs_2 : List (MethodName × Nat) := [(⟨"OneClock$Reader", "readLaw", "(I)V"⟩, 9), (⟨"OneClock$Reader", "readSum", "(I)V"⟩, 9), (⟨"OneClock$Reader", "readProduct", "(I)V"⟩, 9), (⟨"OneClock$Reader", "readUnit", "(I)V"⟩, 9), (⟨"OneClock$Reader", "readThinks", "()V"⟩, 9), (⟨"OneClock$Reader", "readNumber", "(III)I"⟩, 9), (⟨"OneClock", "isBoard", "(I)Z"⟩, 9), (⟨"OneClock", "isThink", "(I)Z"⟩, 9), (⟨"OneClock", "canPlay", "(I)Z"⟩, 9), (⟨"OneClock", "noteWhatStands", "()V"⟩, 9), (⟨"OneClock$Play", "dropFlag", "(I)V"⟩, 11), (⟨"OneClock", "isDepth", "(I)Z"⟩, 9), (⟨"OneClock$Guide", "tryRows", "(I)V"⟩, 18), (⟨"OneClock$Guide", "keepRow", "(II)V"⟩, 18), (⟨"OneClock$Guide", "tryMovesAt", "(II)V"⟩, 18), (⟨"OneClock", "isRule", "(II)Z"⟩, 9)]
theorem lw_r2 : ∀ q ∈ lw_privs_2, lw_okq q := List.forall_mem_cons.mpr ⟨lw_p16, List.forall_mem_cons.mpr ⟨lw_p17, List.forall_mem_cons.mpr ⟨lw_p18, List.forall_mem_cons.mpr ⟨lw_p19, List.forall_mem_cons.mpr ⟨lw_p20, List.forall_mem_cons.mpr ⟨lw_p21, List.forall_mem_cons.mpr ⟨lw_p22, List.forall_mem_cons.mpr ⟨lw_p23, List.forall_mem_cons.mpr ⟨lw_p24, List.forall_mem_cons.mpr ⟨lw_p25, List.forall_mem_cons.mpr ⟨lw_p26, List.forall_mem_cons.mpr ⟨lw_p27, List.forall_mem_cons.mpr ⟨lw_p28, List.forall_mem_cons.mpr ⟨lw_p29, List.forall_mem_cons.mpr ⟨lw_p30, List.forall_mem_cons.mpr ⟨lw_p31, fun _ h => absurd h List.not_mem_nil⟩⟩⟩⟩⟩⟩⟩⟩⟩⟩⟩⟩⟩⟩⟩⟩
theorem lw_p32 : lw_okq (⟨"OneClock", "isHalf", "(I)Z"⟩, 9) := ⟨⟨by decide +kernel, by decide +kernel⟩, List.mem_of_getElem? (i := 20) (by decide +kernel), List.mem_of_getElem? (i := 811) (by decide +kernel), List.mem_of_getElem? (i := 812) (by decide +kernel)⟩
theorem lw_p33 : lw_okq (⟨"OneClock$Guide", "follow", "(II)V"⟩, 18) := ⟨⟨by decide +kernel, by decide +kernel⟩, List.mem_of_getElem? (i := 252) (by decide +kernel), List.mem_of_getElem? (i := 819) (by decide +kernel), List.mem_of_getElem? (i := 820) (by decide +kernel)⟩
theorem lw_p34 : lw_okq (⟨"OneClock$Guide", "choose", "(II)I"⟩, 18) := ⟨⟨by decide +kernel, by decide +kernel⟩, List.mem_of_getElem? (i := 252) (by decide +kernel), List.mem_of_getElem? (i := 823) (by decide +kernel), List.mem_of_getElem? (i := 824) (by decide +kernel)⟩
theorem lw_p35 : lw_okq (⟨"OneClock$Guide", "keepMost", "(II)V"⟩, 18) := ⟨⟨by decide +kernel, by decide +kernel⟩, List.mem_of_getElem? (i := 252) (by decide +kernel), List.mem_of_getElem? (i := 836) (by decide +kernel), List.mem_of_getElem? (i := 837) (by decide +kernel)⟩
theorem lw_p36 : lw_okq (⟨"OneClock$Guide", "areOpen", "(I)Z"⟩, 18) := ⟨⟨by decide +kernel, by decide +kernel⟩, List.mem_of_getElem? (i := 252) (by decide +kernel), List.mem_of_getElem? (i := 854) (by decide +kernel), List.mem_of_getElem? (i := 855) (by decide +kernel)⟩
theorem lw_p37 : lw_okq (⟨"OneClock$Guide", "isIn", "(II)Z"⟩, 18) := ⟨⟨by decide +kernel, by decide +kernel⟩, List.mem_of_getElem? (i := 252) (by decide +kernel), List.mem_of_getElem? (i := 858) (by decide +kernel), List.mem_of_getElem? (i := 859) (by decide +kernel)⟩
theorem lw_p38 : lw_okq (⟨"OneClock$Guide", "letGoAll", "(I)V"⟩, 18) := ⟨⟨by decide +kernel, by decide +kernel⟩, List.mem_of_getElem? (i := 252) (by decide +kernel), List.mem_of_getElem? (i := 862) (by decide +kernel), List.mem_of_getElem? (i := 863) (by decide +kernel)⟩
theorem lw_p39 : lw_okq (⟨"OneClock$Guide", "orderNext", "()Z"⟩, 18) := ⟨⟨by decide +kernel, by decide +kernel⟩, List.mem_of_getElem? (i := 252) (by decide +kernel), List.mem_of_getElem? (i := 910) (by decide +kernel), List.mem_of_getElem? (i := 911) (by decide +kernel)⟩
theorem lw_p40 : lw_okq (⟨"OneClock$Guide", "swapSeats", "(II)V"⟩, 18) := ⟨⟨by decide +kernel, by decide +kernel⟩, List.mem_of_getElem? (i := 252) (by decide +kernel), List.mem_of_getElem? (i := 914) (by decide +kernel), List.mem_of_getElem? (i := 915) (by decide +kernel)⟩
theorem lw_p41 : lw_okq (⟨"OneClock$Guide", "wonWith", "(III)I"⟩, 18) := ⟨⟨by decide +kernel, by decide +kernel⟩, List.mem_of_getElem? (i := 252) (by decide +kernel), List.mem_of_getElem? (i := 930) (by decide +kernel), List.mem_of_getElem? (i := 931) (by decide +kernel)⟩
theorem lw_p42 : lw_okq (⟨"OneClock$Witness", "rowsFrom", "(II)I"⟩, 6) := ⟨⟨by decide +kernel, by decide +kernel⟩, List.mem_of_getElem? (i := 322) (by decide +kernel), List.mem_of_getElem? (i := 955) (by decide +kernel), List.mem_of_getElem? (i := 956) (by decide +kernel)⟩
theorem lw_p43 : lw_okq (⟨"OneClock$Witness", "canThink", "(III)Z"⟩, 6) := ⟨⟨by decide +kernel, by decide +kernel⟩, List.mem_of_getElem? (i := 322) (by decide +kernel), List.mem_of_getElem? (i := 962) (by decide +kernel), List.mem_of_getElem? (i := 963) (by decide +kernel)⟩
theorem lw_p44 : lw_okq (⟨"OneClock", "isSlot", "(I)Z"⟩, 9) := ⟨⟨by decide +kernel, by decide +kernel⟩, List.mem_of_getElem? (i := 20) (by decide +kernel), List.mem_of_getElem? (i := 973) (by decide +kernel), List.mem_of_getElem? (i := 974) (by decide +kernel)⟩
theorem lw_p45 : lw_okq (⟨"OneClockModel", "plain", "(I)V"⟩, 67) := ⟨⟨by decide +kernel, by decide +kernel⟩, List.mem_of_getElem? (i := 1000) (by decide +kernel), List.mem_of_getElem? (i := 1006) (by decide +kernel), List.mem_of_getElem? (i := 1007) (by decide +kernel)⟩
theorem lw_p46 : lw_okq (⟨"OneClockModel", "begins0", "(I)V"⟩, 67) := ⟨⟨by decide +kernel, by decide +kernel⟩, List.mem_of_getElem? (i := 1000) (by decide +kernel), List.mem_of_getElem? (i := 1017) (by decide +kernel), List.mem_of_getElem? (i := 1018) (by decide +kernel)⟩
theorem lw_p47 : lw_okq (⟨"OneClockModel", "put", "(I)V"⟩, 67) := ⟨⟨by decide +kernel, by decide +kernel⟩, List.mem_of_getElem? (i := 1000) (by decide +kernel), List.mem_of_getElem? (i := 1227) (by decide +kernel), List.mem_of_getElem? (i := 1228) (by decide +kernel)⟩
def lw_privs_3 : List (MethodName × Nat) := [(⟨"OneClock", "isHalf", "(I)Z"⟩, 9), (⟨"OneClock$Guide", "follow", "(II)V"⟩, 18), (⟨"OneClock$Guide", "choose", "(II)I"⟩, 18), (⟨"OneClock$Guide", "keepMost", "(II)V"⟩, 18), (⟨"OneClock$Guide", "areOpen", "(I)Z"⟩, 18), (⟨"OneClock$Guide", "isIn", "(II)Z"⟩, 18), (⟨"OneClock$Guide", "letGoAll", "(I)V"⟩, 18), (⟨"OneClock$Guide", "orderNext", "()Z"⟩, 18), (⟨"OneClock$Guide", "swapSeats", "(II)V"⟩, 18), (⟨"OneClock$Guide", "wonWith", "(III)I"⟩, 18), (⟨"OneClock$Witness", "rowsFrom", "(II)I"⟩, 6), (⟨"OneClock$Witness", "canThink", "(III)Z"⟩, 6), (⟨"OneClock", "isSlot", "(I)Z"⟩, 9), (⟨"OneClockModel", "plain", "(I)V"⟩, 67), (⟨"OneClockModel", "begins0", "(I)V"⟩, 67), (⟨"OneClockModel", "put", "(I)V"⟩, 67)]
theorem lw_r3 : ∀ q ∈ lw_privs_3, lw_okq q := List.forall_mem_cons.mpr ⟨lw_p32, List.forall_mem_cons.mpr ⟨lw_p33, List.forall_mem_cons.mpr ⟨lw_p34, List.forall_mem_cons.mpr ⟨lw_p35, List.forall_mem_cons.mpr ⟨lw_p36, List.forall_mem_cons.mpr ⟨lw_p37, List.forall_mem_cons.mpr ⟨lw_p38, List.forall_mem_cons.mpr ⟨lw_p39, List.forall_mem_cons.mpr ⟨lw_p40, List.forall_mem_cons.mpr ⟨lw_p41, List.forall_mem_cons.mpr ⟨lw_p42, List.forall_mem_cons.mpr ⟨lw_p43, List.forall_mem_cons.mpr ⟨lw_p44, List.forall_mem_cons.mpr ⟨lw_p45, List.forall_mem_cons.mpr ⟨lw_p46, List.forall_mem_cons.mpr ⟨lw_p47, fun _ h => absurd h List.not_mem_nil⟩⟩⟩⟩⟩⟩⟩⟩⟩⟩⟩⟩⟩⟩⟩⟩
theorem lw_p48 : lw_okq (⟨"OneClockModel", "cut", "()V"⟩, 67) := ⟨⟨by decide +kernel, by decide +kernel⟩, List.mem_of_getElem? (i := 1000) (by decide +kernel), List.mem_of_getElem? (i := 1239) (by decide +kernel), List.mem_of_getElem? (i := 1240) (by decide +kernel)⟩
theorem lw_p49 : lw_okq (⟨"OneClockModel", "byteAt", "(I)I"⟩, 67) := ⟨⟨by decide +kernel, by decide +kernel⟩, List.mem_of_getElem? (i := 1000) (by decide +kernel), List.mem_of_getElem? (i := 1243) (by decide +kernel), List.mem_of_getElem? (i := 1244) (by decide +kernel)⟩
theorem lw_p50 : lw_okq (⟨"OneClockModel", "token", "(IIIJ)V"⟩, 67) := ⟨⟨by decide +kernel, by decide +kernel⟩, List.mem_of_getElem? (i := 1000) (by decide +kernel), List.mem_of_getElem? (i := 1247) (by decide +kernel), List.mem_of_getElem? (i := 1248) (by decide +kernel)⟩
theorem lw_p51 : lw_okq (⟨"OneClockModel", "sign", "(III)I"⟩, 67) := ⟨⟨by decide +kernel, by decide +kernel⟩, List.mem_of_getElem? (i := 1000) (by decide +kernel), List.mem_of_getElem? (i := 1257) (by decide +kernel), List.mem_of_getElem? (i := 1258) (by decide +kernel)⟩
theorem lw_p52 : lw_okq (⟨"OneClockModel", "is", "(I)Z"⟩, 67) := ⟨⟨by decide +kernel, by decide +kernel⟩, List.mem_of_getElem? (i := 1000) (by decide +kernel), List.mem_of_getElem? (i := 1261) (by decide +kernel), List.mem_of_getElem? (i := 1262) (by decide +kernel)⟩
theorem lw_p53 : lw_okq (⟨"OneClockModel", "tell", "()V"⟩, 67) := ⟨⟨by decide +kernel, by decide +kernel⟩, List.mem_of_getElem? (i := 1000) (by decide +kernel), List.mem_of_getElem? (i := 1265) (by decide +kernel), List.mem_of_getElem? (i := 1266) (by decide +kernel)⟩
theorem lw_p54 : lw_okq (⟨"OneClockModel", "fail", "(I)V"⟩, 67) := ⟨⟨by decide +kernel, by decide +kernel⟩, List.mem_of_getElem? (i := 1000) (by decide +kernel), List.mem_of_getElem? (i := 1269) (by decide +kernel), List.mem_of_getElem? (i := 1270) (by decide +kernel)⟩
theorem lw_p55 : lw_okq (⟨"OneClockModel", "tellBoard", "()V"⟩, 67) := ⟨⟨by decide +kernel, by decide +kernel⟩, List.mem_of_getElem? (i := 1000) (by decide +kernel), List.mem_of_getElem? (i := 1273) (by decide +kernel), List.mem_of_getElem? (i := 1274) (by decide +kernel)⟩
theorem lw_p56 : lw_okq (⟨"OneClockModel", "goesOn", "()V"⟩, 67) := ⟨⟨by decide +kernel, by decide +kernel⟩, List.mem_of_getElem? (i := 1000) (by decide +kernel), List.mem_of_getElem? (i := 1277) (by decide +kernel), List.mem_of_getElem? (i := 1278) (by decide +kernel)⟩
theorem lw_p57 : lw_okq (⟨"OneClockModel", "must", "(I)V"⟩, 67) := ⟨⟨by decide +kernel, by decide +kernel⟩, List.mem_of_getElem? (i := 1000) (by decide +kernel), List.mem_of_getElem? (i := 1281) (by decide +kernel), List.mem_of_getElem? (i := 1282) (by decide +kernel)⟩
theorem lw_p58 : lw_okq (⟨"OneClockModel", "wrong", "(II)V"⟩, 67) := ⟨⟨by decide +kernel, by decide +kernel⟩, List.mem_of_getElem? (i := 1000) (by decide +kernel), List.mem_of_getElem? (i := 1285) (by decide +kernel), List.mem_of_getElem? (i := 1286) (by decide +kernel)⟩
theorem lw_p59 : lw_okq (⟨"OneClockModel", "bounded", "(II)I"⟩, 67) := ⟨⟨by decide +kernel, by decide +kernel⟩, List.mem_of_getElem? (i := 1000) (by decide +kernel), List.mem_of_getElem? (i := 1289) (by decide +kernel), List.mem_of_getElem? (i := 1290) (by decide +kernel)⟩
theorem lw_p60 : lw_okq (⟨"OneClockModel", "known", "()I"⟩, 67) := ⟨⟨by decide +kernel, by decide +kernel⟩, List.mem_of_getElem? (i := 1000) (by decide +kernel), List.mem_of_getElem? (i := 1293) (by decide +kernel), List.mem_of_getElem? (i := 1294) (by decide +kernel)⟩
theorem lw_p61 : lw_okq (⟨"OneClockModel", "tellLaw", "(I)V"⟩, 67) := ⟨⟨by decide +kernel, by decide +kernel⟩, List.mem_of_getElem? (i := 1000) (by decide +kernel), List.mem_of_getElem? (i := 1297) (by decide +kernel), List.mem_of_getElem? (i := 1298) (by decide +kernel)⟩
theorem lw_p62 : lw_okq (⟨"OneClockModel", "expression", "()V"⟩, 67) := ⟨⟨by decide +kernel, by decide +kernel⟩, List.mem_of_getElem? (i := 1000) (by decide +kernel), List.mem_of_getElem? (i := 1301) (by decide +kernel), List.mem_of_getElem? (i := 1302) (by decide +kernel)⟩
theorem lw_p63 : lw_okq (⟨"OneClockModel", "unit", "()V"⟩, 67) := ⟨⟨by decide +kernel, by decide +kernel⟩, List.mem_of_getElem? (i := 1000) (by decide +kernel), List.mem_of_getElem? (i := 1305) (by decide +kernel), List.mem_of_getElem? (i := 1306) (by decide +kernel)⟩
def lw_privs_4 : List (MethodName × Nat) := [(⟨"OneClockModel", "cut", "()V"⟩, 67), (⟨"OneClockModel", "byteAt", "(I)I"⟩, 67), (⟨"OneClockModel", "token", "(IIIJ)V"⟩, 67), (⟨"OneClockModel", "sign", "(III)I"⟩, 67), (⟨"OneClockModel", "is", "(I)Z"⟩, 67), (⟨"OneClockModel", "tell", "()V"⟩, 67), (⟨"OneClockModel", "fail", "(I)V"⟩, 67), (⟨"OneClockModel", "tellBoard", "()V"⟩, 67), (⟨"OneClockModel", "goesOn", "()V"⟩, 67), (⟨"OneClockModel", "must", "(I)V"⟩, 67), (⟨"OneClockModel", "wrong", "(II)V"⟩, 67), (⟨"OneClockModel", "bounded", "(II)I"⟩, 67), (⟨"OneClockModel", "known", "()I"⟩, 67), (⟨"OneClockModel", "tellLaw", "(I)V"⟩, 67), (⟨"OneClockModel", "expression", "()V"⟩, 67), (⟨"OneClockModel", "unit", "()V"⟩, 67)]
theorem lw_r4 : ∀ q ∈ lw_privs_4, lw_okq q := List.forall_mem_cons.mpr ⟨lw_p48, List.forall_mem_cons.mpr ⟨lw_p49, List.forall_mem_cons.mpr ⟨lw_p50, List.forall_mem_cons.mpr ⟨lw_p51, List.forall_mem_cons.mpr ⟨lw_p52, List.forall_mem_cons.mpr ⟨lw_p53, List.forall_mem_cons.mpr ⟨lw_p54, List.forall_mem_cons.mpr ⟨lw_p55, List.forall_mem_cons.mpr ⟨lw_p56, List.forall_mem_cons.mpr ⟨lw_p57, List.forall_mem_cons.mpr ⟨lw_p58, List.forall_mem_cons.mpr ⟨lw_p59, List.forall_mem_cons.mpr ⟨lw_p60, List.forall_mem_cons.mpr ⟨lw_p61, List.forall_mem_cons.mpr ⟨lw_p62, List.forall_mem_cons.mpr ⟨lw_p63, fun _ h => absurd h List.not_mem_nil⟩⟩⟩⟩⟩⟩⟩⟩⟩⟩⟩⟩⟩⟩⟩⟩
theorem lw_p64 : lw_okq (⟨"OneClockModel", "emit", "(II)V"⟩, 67) := ⟨⟨by decide +kernel, by decide +kernel⟩, List.mem_of_getElem? (i := 1000) (by decide +kernel), List.mem_of_getElem? (i := 1309) (by decide +kernel), List.mem_of_getElem? (i := 1310) (by decide +kernel)⟩
theorem lw_p65 : lw_okq (⟨"OneClockModel", "comesOut", "(Z)V"⟩, 67) := ⟨⟨by decide +kernel, by decide +kernel⟩, List.mem_of_getElem? (i := 1000) (by decide +kernel), List.mem_of_getElem? (i := 1313) (by decide +kernel), List.mem_of_getElem? (i := 1314) (by decide +kernel)⟩
theorem lw_p66 : lw_okq (⟨"OneClockModel", "term", "()V"⟩, 67) := ⟨⟨by decide +kernel, by decide +kernel⟩, List.mem_of_getElem? (i := 1000) (by decide +kernel), List.mem_of_getElem? (i := 1317) (by decide +kernel), List.mem_of_getElem? (i := 1318) (by decide +kernel)⟩
theorem lw_p67 : lw_okq (⟨"OneClockModel", "tellThinks", "()V"⟩, 67) := ⟨⟨by decide +kernel, by decide +kernel⟩, List.mem_of_getElem? (i := 1000) (by decide +kernel), List.mem_of_getElem? (i := 1321) (by decide +kernel), List.mem_of_getElem? (i := 1322) (by decide +kernel)⟩
theorem lw_p68 : lw_okq (⟨"OneClockModel", "isBoard", "(I)Z"⟩, 67) := ⟨⟨by decide +kernel, by decide +kernel⟩, List.mem_of_getElem? (i := 1000) (by decide +kernel), List.mem_of_getElem? (i := 1333) (by decide +kernel), List.mem_of_getElem? (i := 1334) (by decide +kernel)⟩
theorem lw_p69 : lw_okq (⟨"OneClockModel", "copies", "()V"⟩, 67) := ⟨⟨by decide +kernel, by decide +kernel⟩, List.mem_of_getElem? (i := 1000) (by decide +kernel), List.mem_of_getElem? (i := 1340) (by decide +kernel), List.mem_of_getElem? (i := 1341) (by decide +kernel)⟩
theorem lw_p70 : lw_okq (⟨"OneClockModel", "isOpen", "(I)Z"⟩, 67) := ⟨⟨by decide +kernel, by decide +kernel⟩, List.mem_of_getElem? (i := 1000) (by decide +kernel), List.mem_of_getElem? (i := 1344) (by decide +kernel), List.mem_of_getElem? (i := 1345) (by decide +kernel)⟩
theorem lw_p71 : lw_okq (⟨"OneClockModel", "stepsTo", "(I)I"⟩, 67) := ⟨⟨by decide +kernel, by decide +kernel⟩, List.mem_of_getElem? (i := 1000) (by decide +kernel), List.mem_of_getElem? (i := 1348) (by decide +kernel), List.mem_of_getElem? (i := 1349) (by decide +kernel)⟩
theorem lw_p72 : lw_okq (⟨"OneClockModel", "isThink", "(I)Z"⟩, 67) := ⟨⟨by decide +kernel, by decide +kernel⟩, List.mem_of_getElem? (i := 1000) (by decide +kernel), List.mem_of_getElem? (i := 1360) (by decide +kernel), List.mem_of_getElem? (i := 1361) (by decide +kernel)⟩
theorem lw_p73 : lw_okq (⟨"OneClockModel", "isOver", "()Z"⟩, 67) := ⟨⟨by decide +kernel, by decide +kernel⟩, List.mem_of_getElem? (i := 1000) (by decide +kernel), List.mem_of_getElem? (i := 1364) (by decide +kernel), List.mem_of_getElem? (i := 1365) (by decide +kernel)⟩
theorem lw_p74 : lw_okq (⟨"OneClockModel", "openAll", "()I"⟩, 67) := ⟨⟨by decide +kernel, by decide +kernel⟩, List.mem_of_getElem? (i := 1000) (by decide +kernel), List.mem_of_getElem? (i := 1368) (by decide +kernel), List.mem_of_getElem? (i := 1369) (by decide +kernel)⟩
theorem lw_p75 : lw_okq (⟨"OneClockModel", "think", "(I)I"⟩, 67) := ⟨⟨by decide +kernel, by decide +kernel⟩, List.mem_of_getElem? (i := 1000) (by decide +kernel), List.mem_of_getElem? (i := 1372) (by decide +kernel), List.mem_of_getElem? (i := 1373) (by decide +kernel)⟩
theorem lw_p76 : lw_okq (⟨"OneClockModel", "movesNow", "(II)I"⟩, 67) := ⟨⟨by decide +kernel, by decide +kernel⟩, List.mem_of_getElem? (i := 1000) (by decide +kernel), List.mem_of_getElem? (i := 1376) (by decide +kernel), List.mem_of_getElem? (i := 1377) (by decide +kernel)⟩
theorem lw_p77 : lw_okq (⟨"OneClockModel", "beginsAt", "(I)I"⟩, 67) := ⟨⟨by decide +kernel, by decide +kernel⟩, List.mem_of_getElem? (i := 1000) (by decide +kernel), List.mem_of_getElem? (i := 1380) (by decide +kernel), List.mem_of_getElem? (i := 1381) (by decide +kernel)⟩
theorem lw_p78 : lw_okq (⟨"OneClockModel", "movesFrom", "(III)I"⟩, 67) := ⟨⟨by decide +kernel, by decide +kernel⟩, List.mem_of_getElem? (i := 1000) (by decide +kernel), List.mem_of_getElem? (i := 1384) (by decide +kernel), List.mem_of_getElem? (i := 1385) (by decide +kernel)⟩
theorem lw_p79 : lw_okq (⟨"OneClockModel", "falls", "(I)V"⟩, 67) := ⟨⟨by decide +kernel, by decide +kernel⟩, List.mem_of_getElem? (i := 1000) (by decide +kernel), List.mem_of_getElem? (i := 1388) (by decide +kernel), List.mem_of_getElem? (i := 1389) (by decide +kernel)⟩
def lw_privs_5 : List (MethodName × Nat) := [(⟨"OneClockModel", "emit", "(II)V"⟩, 67), (⟨"OneClockModel", "comesOut", "(Z)V"⟩, 67), (⟨"OneClockModel", "term", "()V"⟩, 67), (⟨"OneClockModel", "tellThinks", "()V"⟩, 67), (⟨"OneClockModel", "isBoard", "(I)Z"⟩, 67), (⟨"OneClockModel", "copies", "()V"⟩, 67), (⟨"OneClockModel", "isOpen", "(I)Z"⟩, 67), (⟨"OneClockModel", "stepsTo", "(I)I"⟩, 67), (⟨"OneClockModel", "isThink", "(I)Z"⟩, 67), (⟨"OneClockModel", "isOver", "()Z"⟩, 67), (⟨"OneClockModel", "openAll", "()I"⟩, 67), (⟨"OneClockModel", "think", "(I)I"⟩, 67), (⟨"OneClockModel", "movesNow", "(II)I"⟩, 67), (⟨"OneClockModel", "beginsAt", "(I)I"⟩, 67), (⟨"OneClockModel", "movesFrom", "(III)I"⟩, 67), (⟨"OneClockModel", "falls", "(I)V"⟩, 67)]
theorem lw_r5 : ∀ q ∈ lw_privs_5, lw_okq q := List.forall_mem_cons.mpr ⟨lw_p64, List.forall_mem_cons.mpr ⟨lw_p65, List.forall_mem_cons.mpr ⟨lw_p66, List.forall_mem_cons.mpr ⟨lw_p67, List.forall_mem_cons.mpr ⟨lw_p68, List.forall_mem_cons.mpr ⟨lw_p69, List.forall_mem_cons.mpr ⟨lw_p70, List.forall_mem_cons.mpr ⟨lw_p71, List.forall_mem_cons.mpr ⟨lw_p72, List.forall_mem_cons.mpr ⟨lw_p73, List.forall_mem_cons.mpr ⟨lw_p74, List.forall_mem_cons.mpr ⟨lw_p75, List.forall_mem_cons.mpr ⟨lw_p76, List.forall_mem_cons.mpr ⟨lw_p77, List.forall_mem_cons.mpr ⟨lw_p78, List.forall_mem_cons.mpr ⟨lw_p79, fun _ h => absurd h List.not_mem_nil⟩⟩⟩⟩⟩⟩⟩⟩⟩⟩⟩⟩⟩⟩⟩⟩
theorem lw_p80 : lw_okq (⟨"OneClockModel", "worthOf", "(III)I"⟩, 67) := ⟨⟨by decide +kernel, by decide +kernel⟩, List.mem_of_getElem? (i := 1000) (by decide +kernel), List.mem_of_getElem? (i := 1392) (by decide +kernel), List.mem_of_getElem? (i := 1393) (by decide +kernel)⟩
theorem lw_p81 : lw_okq (⟨"OneClockModel", "setsOf", "(III)V"⟩, 67) := ⟨⟨by decide +kernel, by decide +kernel⟩, List.mem_of_getElem? (i := 1000) (by decide +kernel), List.mem_of_getElem? (i := 1396) (by decide +kernel), List.mem_of_getElem? (i := 1397) (by decide +kernel)⟩
theorem lw_p82 : lw_okq (⟨"OneClockModel", "tells", "(IIII)I"⟩, 67) := ⟨⟨by decide +kernel, by decide +kernel⟩, List.mem_of_getElem? (i := 1000) (by decide +kernel), List.mem_of_getElem? (i := 1400) (by decide +kernel), List.mem_of_getElem? (i := 1401) (by decide +kernel)⟩
theorem lw_p83 : lw_okq (⟨"OneClockModel", "termOf", "(II)I"⟩, 67) := ⟨⟨by decide +kernel, by decide +kernel⟩, List.mem_of_getElem? (i := 1000) (by decide +kernel), List.mem_of_getElem? (i := 1404) (by decide +kernel), List.mem_of_getElem? (i := 1405) (by decide +kernel)⟩
theorem lw_p84 : lw_okq (⟨"OneClockModel", "keeps", "()V"⟩, 67) := ⟨⟨by decide +kernel, by decide +kernel⟩, List.mem_of_getElem? (i := 1000) (by decide +kernel), List.mem_of_getElem? (i := 1408) (by decide +kernel), List.mem_of_getElem? (i := 1409) (by decide +kernel)⟩
theorem lw_p85 : lw_okq (⟨"OneClockModel", "offersNow", "(I)I"⟩, 67) := ⟨⟨by decide +kernel, by decide +kernel⟩, List.mem_of_getElem? (i := 1000) (by decide +kernel), List.mem_of_getElem? (i := 1416) (by decide +kernel), List.mem_of_getElem? (i := 1417) (by decide +kernel)⟩
theorem lw_p86 : lw_okq (⟨"OneClockModel", "drops", "(I)V"⟩, 67) := ⟨⟨by decide +kernel, by decide +kernel⟩, List.mem_of_getElem? (i := 1000) (by decide +kernel), List.mem_of_getElem? (i := 1424) (by decide +kernel), List.mem_of_getElem? (i := 1425) (by decide +kernel)⟩
theorem lw_p87 : lw_okq (⟨"OneClockModel", "findsBest", "(I)V"⟩, 67) := ⟨⟨by decide +kernel, by decide +kernel⟩, List.mem_of_getElem? (i := 1000) (by decide +kernel), List.mem_of_getElem? (i := 1445) (by decide +kernel), List.mem_of_getElem? (i := 1446) (by decide +kernel)⟩
theorem lw_p88 : lw_okq (⟨"OneClockModel", "notesRow", "(I)V"⟩, 67) := ⟨⟨by decide +kernel, by decide +kernel⟩, List.mem_of_getElem? (i := 1000) (by decide +kernel), List.mem_of_getElem? (i := 1449) (by decide +kernel), List.mem_of_getElem? (i := 1450) (by decide +kernel)⟩
theorem lw_p89 : lw_okq (⟨"OneClockModel", "opens", "(I)V"⟩, 67) := ⟨⟨by decide +kernel, by decide +kernel⟩, List.mem_of_getElem? (i := 1000) (by decide +kernel), List.mem_of_getElem? (i := 1453) (by decide +kernel), List.mem_of_getElem? (i := 1454) (by decide +kernel)⟩
theorem lw_p90 : lw_okq (⟨"OneClockModel", "nextAt", "(I)Z"⟩, 67) := ⟨⟨by decide +kernel, by decide +kernel⟩, List.mem_of_getElem? (i := 1000) (by decide +kernel), List.mem_of_getElem? (i := 1457) (by decide +kernel), List.mem_of_getElem? (i := 1458) (by decide +kernel)⟩
theorem lw_p91 : lw_okq (⟨"OneClockModel", "isRule", "(II)Z"⟩, 67) := ⟨⟨by decide +kernel, by decide +kernel⟩, List.mem_of_getElem? (i := 1000) (by decide +kernel), List.mem_of_getElem? (i := 1469) (by decide +kernel), List.mem_of_getElem? (i := 1470) (by decide +kernel)⟩
theorem lw_p92 : lw_okq (⟨"OneClockModel", "goesBy", "(II)I"⟩, 67) := ⟨⟨by decide +kernel, by decide +kernel⟩, List.mem_of_getElem? (i := 1000) (by decide +kernel), List.mem_of_getElem? (i := 1473) (by decide +kernel), List.mem_of_getElem? (i := 1474) (by decide +kernel)⟩
theorem lw_p93 : lw_okq (⟨"OneClockModel", "nextBy", "(II)I"⟩, 67) := ⟨⟨by decide +kernel, by decide +kernel⟩, List.mem_of_getElem? (i := 1000) (by decide +kernel), List.mem_of_getElem? (i := 1477) (by decide +kernel), List.mem_of_getElem? (i := 1478) (by decide +kernel)⟩
theorem lw_p94 : lw_okq (⟨"OneClockModel", "wonBy", "(II)I"⟩, 67) := ⟨⟨by decide +kernel, by decide +kernel⟩, List.mem_of_getElem? (i := 1000) (by decide +kernel), List.mem_of_getElem? (i := 1485) (by decide +kernel), List.mem_of_getElem? (i := 1486) (by decide +kernel)⟩
theorem lw_p95 : lw_okq (⟨"OneClockModel", "canDrop", "(I)Z"⟩, 67) := ⟨⟨by decide +kernel, by decide +kernel⟩, List.mem_of_getElem? (i := 1000) (by decide +kernel), List.mem_of_getElem? (i := 1493) (by decide +kernel), List.mem_of_getElem? (i := 1494) (by decide +kernel)⟩
def lw_privs_6 : List (MethodName × Nat) := [(⟨"OneClockModel", "worthOf", "(III)I"⟩, 67), (⟨"OneClockModel", "setsOf", "(III)V"⟩, 67), (⟨"OneClockModel", "tells", "(IIII)I"⟩, 67), (⟨"OneClockModel", "termOf", "(II)I"⟩, 67), (⟨"OneClockModel", "keeps", "()V"⟩, 67), (⟨"OneClockModel", "offersNow", "(I)I"⟩, 67), (⟨"OneClockModel", "drops", "(I)V"⟩, 67), (⟨"OneClockModel", "findsBest", "(I)V"⟩, 67), (⟨"OneClockModel", "notesRow", "(I)V"⟩, 67), (⟨"OneClockModel", "opens", "(I)V"⟩, 67), (⟨"OneClockModel", "nextAt", "(I)Z"⟩, 67), (⟨"OneClockModel", "isRule", "(II)Z"⟩, 67), (⟨"OneClockModel", "goesBy", "(II)I"⟩, 67), (⟨"OneClockModel", "nextBy", "(II)I"⟩, 67), (⟨"OneClockModel", "wonBy", "(II)I"⟩, 67), (⟨"OneClockModel", "canDrop", "(I)Z"⟩, 67)]
theorem lw_r6 : ∀ q ∈ lw_privs_6, lw_okq q := List.forall_mem_cons.mpr ⟨lw_p80, List.forall_mem_cons.mpr ⟨lw_p81, List.forall_mem_cons.mpr ⟨lw_p82, List.forall_mem_cons.mpr ⟨lw_p83, List.forall_mem_cons.mpr ⟨lw_p84, List.forall_mem_cons.mpr ⟨lw_p85, List.forall_mem_cons.mpr ⟨lw_p86, List.forall_mem_cons.mpr ⟨lw_p87, List.forall_mem_cons.mpr ⟨lw_p88, List.forall_mem_cons.mpr ⟨lw_p89, List.forall_mem_cons.mpr ⟨lw_p90, List.forall_mem_cons.mpr ⟨lw_p91, List.forall_mem_cons.mpr ⟨lw_p92, List.forall_mem_cons.mpr ⟨lw_p93, List.forall_mem_cons.mpr ⟨lw_p94, List.forall_mem_cons.mpr ⟨lw_p95, fun _ h => absurd h List.not_mem_nil⟩⟩⟩⟩⟩⟩⟩⟩⟩⟩⟩⟩⟩⟩⟩⟩
theorem lw_p96 : lw_okq (⟨"OneClockModel", "seatsBy", "(II)I"⟩, 67) := ⟨⟨by decide +kernel, by decide +kernel⟩, List.mem_of_getElem? (i := 1000) (by decide +kernel), List.mem_of_getElem? (i := 1520) (by decide +kernel), List.mem_of_getElem? (i := 1521) (by decide +kernel)⟩
theorem lw_p97 : lw_okq (⟨"OneClockModel", "nextOrder", "()Z"⟩, 67) := ⟨⟨by decide +kernel, by decide +kernel⟩, List.mem_of_getElem? (i := 1000) (by decide +kernel), List.mem_of_getElem? (i := 1524) (by decide +kernel), List.mem_of_getElem? (i := 1525) (by decide +kernel)⟩
theorem lw_p98 : lw_okq (⟨"OneClockModel", "isSo", "(II)Z"⟩, 67) := ⟨⟨by decide +kernel, by decide +kernel⟩, List.mem_of_getElem? (i := 1000) (by decide +kernel), List.mem_of_getElem? (i := 1549) (by decide +kernel), List.mem_of_getElem? (i := 1550) (by decide +kernel)⟩
def lw_privs_7 : List (MethodName × Nat) := [(⟨"OneClockModel", "seatsBy", "(II)I"⟩, 67), (⟨"OneClockModel", "nextOrder", "()Z"⟩, 67), (⟨"OneClockModel", "isSo", "(II)Z"⟩, 67)]
theorem lw_r7 : ∀ q ∈ lw_privs_7, lw_okq q := List.forall_mem_cons.mpr ⟨lw_p96, List.forall_mem_cons.mpr ⟨lw_p97, List.forall_mem_cons.mpr ⟨lw_p98, fun _ h => absurd h List.not_mem_nil⟩⟩⟩
def lw_privs : List (MethodName × Nat) := lw_privs_1 ++ (lw_privs_2 ++ (lw_privs_3 ++ (lw_privs_4 ++ (lw_privs_5 ++ (lw_privs_6 ++ (lw_privs_7))))))
def lw_tbl : List Cond := k2_sels lw_privs ++ tables_1
theorem lw_privs_ok : ∀ q ∈ lw_privs, lw_okq q := by
  show ∀ q ∈ lw_privs_1 ++ (lw_privs_2 ++ (lw_privs_3 ++ (lw_privs_4 ++ (lw_privs_5 ++ (lw_privs_6 ++ (lw_privs_7)))))), lw_okq q
  exact List.forall_mem_append.mpr ⟨lw_r1, List.forall_mem_append.mpr ⟨lw_r2, List.forall_mem_append.mpr ⟨lw_r3, List.forall_mem_append.mpr ⟨lw_r4, List.forall_mem_append.mpr ⟨lw_r5, List.forall_mem_append.mpr ⟨lw_r6, lw_r7⟩⟩⟩⟩⟩⟩
def RX0 : String := "OneClock$Code"
def TX0 : u_T := fun k => match k with
  | 0 => ("OneClock$Code", "steps", "[I", true)
  | 1 => ("OneClock$Code", "arguments", "[I", true)
  | 2 => ("OneClock$Code", "facts", "[I", true)
  | 3 => ("OneClock$Code", "stack", "[I", true)
  | _ => ("OneClock$Code", "size", "I", false)
def tyX0 : Nat → FieldType := fun k => match k with
  | 0 => .array .int
  | 1 => .array .int
  | 2 => .array .int
  | 3 => .array .int
  | _ => .int
theorem nmX0 : ∀ a, a < 5 → ∀ b, b < 5 → a ≠ b → (TX0 a).2.1 ≠ (TX0 b).2.1 := by decide +kernel
theorem tyX0_ok : ∀ k, k < 5 → parseFieldDescriptor (TX0 k).2.2.1 = some (tyX0 k) := by decide +kernel
def RX1 : String := "OneClock$Guide"
def TX1 : u_T := fun k => match k with
  | 0 => ("OneClock$Guide", "plan", "LOneClock$Plan;", true)
  | 1 => ("OneClock$Guide", "now", "LOneClock$Play;", true)
  | 2 => ("OneClock$Guide", "trial", "LOneClock$Play;", true)
  | 3 => ("OneClock$Guide", "saved", "[I", true)
  | 4 => ("OneClock$Guide", "row", "[I", true)
  | 5 => ("OneClock$Guide", "bestRow", "[I", true)
  | 6 => ("OneClock$Guide", "bestLength", "I", false)
  | 7 => ("OneClock$Guide", "bestRowWon", "I", false)
  | 8 => ("OneClock$Guide", "depthFound", "I", false)
  | 9 => ("OneClock$Guide", "wanted", "I", false)
  | 10 => ("OneClock$Guide", "order", "[I", true)
  | 11 => ("OneClock$Guide", "bestOrder", "[I", true)
  | 12 => ("OneClock$Guide", "bestOrderWon", "I", false)
  | 13 => ("OneClock$Guide", "seatsFound", "I", false)
  | 14 => ("OneClock$Guide", "shareWon", "[I", true)
  | 15 => ("OneClock$Guide", "won", "I", false)
  | 16 => ("OneClock$Guide", "which", "I", false)
  | _ => ("OneClock$Guide", "found", "Z", false)
def tyX1 : Nat → FieldType := fun k => match k with
  | 0 => .object "OneClock$Plan"
  | 1 => .object "OneClock$Play"
  | 2 => .object "OneClock$Play"
  | 3 => .array .int
  | 4 => .array .int
  | 5 => .array .int
  | 6 => .int
  | 7 => .int
  | 8 => .int
  | 9 => .int
  | 10 => .array .int
  | 11 => .array .int
  | 12 => .int
  | 13 => .int
  | 14 => .array .int
  | 15 => .int
  | 16 => .int
  | _ => .boolean
theorem nmX1 : ∀ a, a < 18 → ∀ b, b < 18 → a ≠ b → (TX1 a).2.1 ≠ (TX1 b).2.1 := by decide +kernel
theorem tyX1_ok : ∀ k, k < 18 → parseFieldDescriptor (TX1 k).2.2.1 = some (tyX1 k) := by decide +kernel
def RX2 : String := "OneClock$Past"
def TX2 : u_T := fun k => match k with
  | 0 => ("OneClock$Past", "rows", "[I", true)
  | 1 => ("OneClock$Past", "next", "I", false)
  | _ => ("OneClock$Past", "size", "I", false)
def tyX2 : Nat → FieldType := fun k => match k with
  | 0 => .array .int
  | 1 => .int
  | _ => .int
theorem nmX2 : ∀ a, a < 3 → ∀ b, b < 3 → a ≠ b → (TX2 a).2.1 ≠ (TX2 b).2.1 := by decide +kernel
theorem tyX2_ok : ∀ k, k < 3 → parseFieldDescriptor (TX2 k).2.2.1 = some (tyX2 k) := by decide +kernel
def RX3 : String := "OneClock$Plan"
def TX3 : u_T := fun k => match k with
  | 0 => ("OneClock$Plan", "moves", "[I", true)
  | 1 => ("OneClock$Plan", "lost", "[I", true)
  | 2 => ("OneClock$Plan", "thinks", "[I", true)
  | 3 => ("OneClock$Plan", "code", "LOneClock$Code;", true)
  | 4 => ("OneClock$Plan", "lawStart", "[I", true)
  | 5 => ("OneClock$Plan", "boards", "I", false)
  | 6 => ("OneClock$Plan", "thinkCount", "I", false)
  | 7 => ("OneClock$Plan", "step", "I", false)
  | 8 => ("OneClock$Plan", "clock", "I", false)
  | _ => ("OneClock$Plan", "flag", "I", false)
def tyX3 : Nat → FieldType := fun k => match k with
  | 0 => .array .int
  | 1 => .array .int
  | 2 => .array .int
  | 3 => .object "OneClock$Code"
  | 4 => .array .int
  | 5 => .int
  | 6 => .int
  | 7 => .int
  | 8 => .int
  | _ => .int
theorem nmX3 : ∀ a, a < 10 → ∀ b, b < 10 → a ≠ b → (TX3 a).2.1 ≠ (TX3 b).2.1 := by decide +kernel
theorem tyX3_ok : ∀ k, k < 10 → parseFieldDescriptor (TX3 k).2.2.1 = some (tyX3 k) := by decide +kernel
def RX4 : String := "OneClock$Play"
def TX4 : u_T := fun k => match k with
  | 0 => ("OneClock$Play", "plan", "LOneClock$Plan;", true)
  | 1 => ("OneClock$Play", "left", "[I", true)
  | 2 => ("OneClock$Play", "ready", "[I", true)
  | 3 => ("OneClock$Play", "ended", "[I", true)
  | 4 => ("OneClock$Play", "seat", "[I", true)
  | 5 => ("OneClock$Play", "later", "[I", true)
  | 6 => ("OneClock$Play", "hasty", "I", false)
  | 7 => ("OneClock$Play", "minute", "I", false)
  | 8 => ("OneClock$Play", "spot", "I", false)
  | 9 => ("OneClock$Play", "won", "I", false)
  | _ => ("OneClock$Play", "fell", "Z", false)
def tyX4 : Nat → FieldType := fun k => match k with
  | 0 => .object "OneClock$Plan"
  | 1 => .array .int
  | 2 => .array .int
  | 3 => .array .int
  | 4 => .array .int
  | 5 => .array .int
  | 6 => .int
  | 7 => .int
  | 8 => .int
  | 9 => .int
  | _ => .boolean
theorem nmX4 : ∀ a, a < 11 → ∀ b, b < 11 → a ≠ b → (TX4 a).2.1 ≠ (TX4 b).2.1 := by decide +kernel
theorem tyX4_ok : ∀ k, k < 11 → parseFieldDescriptor (TX4 k).2.2.1 = some (tyX4 k) := by decide +kernel
def RX5 : String := "OneClock$Reader"
def TX5 : u_T := fun k => match k with
  | 0 => ("OneClock$Reader", "tape", "LOneClock$Tape;", true)
  | 1 => ("OneClock$Reader", "plan", "LOneClock$Plan;", true)
  | 2 => ("OneClock$Reader", "names", "[I", true)
  | 3 => ("OneClock$Reader", "at", "I", false)
  | 4 => ("OneClock$Reader", "kind", "I", false)
  | 5 => ("OneClock$Reader", "fault", "I", false)
  | 6 => ("OneClock$Reader", "faultPlace", "I", false)
  | 7 => ("OneClock$Reader", "slip", "I", false)
  | _ => ("OneClock$Reader", "slipPlace", "I", false)
def tyX5 : Nat → FieldType := fun k => match k with
  | 0 => .object "OneClock$Tape"
  | 1 => .object "OneClock$Plan"
  | 2 => .array .int
  | 3 => .int
  | 4 => .int
  | 5 => .int
  | 6 => .int
  | 7 => .int
  | _ => .int
theorem nmX5 : ∀ a, a < 9 → ∀ b, b < 9 → a ≠ b → (TX5 a).2.1 ≠ (TX5 b).2.1 := by decide +kernel
theorem tyX5_ok : ∀ k, k < 9 → parseFieldDescriptor (TX5 k).2.2.1 = some (tyX5 k) := by decide +kernel
def RX6 : String := "OneClock$Slots"
def TX6 : u_T := fun k => match k with
  | 0 => ("OneClock$Slots", "rows", "[I", true)
  | _ => ("OneClock$Slots", "held", "[Z", true)
def tyX6 : Nat → FieldType := fun k => match k with
  | 0 => .array .int
  | _ => .array .boolean
theorem nmX6 : ∀ a, a < 2 → ∀ b, b < 2 → a ≠ b → (TX6 a).2.1 ≠ (TX6 b).2.1 := by decide +kernel
theorem tyX6_ok : ∀ k, k < 2 → parseFieldDescriptor (TX6 k).2.2.1 = some (tyX6 k) := by decide +kernel
def RX7 : String := "OneClock$Tape"
def TX7 : u_T := fun k => match k with
  | 0 => ("OneClock$Tape", "bytes", "[B", true)
  | 1 => ("OneClock$Tape", "length", "I", false)
  | 2 => ("OneClock$Tape", "kinds", "[I", true)
  | 3 => ("OneClock$Tape", "values", "[I", true)
  | 4 => ("OneClock$Tape", "starts", "[I", true)
  | _ => ("OneClock$Tape", "ends", "[I", true)
def tyX7 : Nat → FieldType := fun k => match k with
  | 0 => .array .byte
  | 1 => .int
  | 2 => .array .int
  | 3 => .array .int
  | 4 => .array .int
  | _ => .array .int
theorem nmX7 : ∀ a, a < 6 → ∀ b, b < 6 → a ≠ b → (TX7 a).2.1 ≠ (TX7 b).2.1 := by decide +kernel
theorem tyX7_ok : ∀ k, k < 6 → parseFieldDescriptor (TX7 k).2.2.1 = some (tyX7 k) := by decide +kernel
def RX8 : String := "OneClock$Witness"
def TX8 : u_T := fun k => match k with
  | 0 => ("OneClock$Witness", "plan", "LOneClock$Plan;", true)
  | 1 => ("OneClock$Witness", "trial", "LOneClock$Play;", true)
  | 2 => ("OneClock$Witness", "boards", "[I", true)
  | 3 => ("OneClock$Witness", "minutes", "[I", true)
  | 4 => ("OneClock$Witness", "saved", "[I", true)
  | _ => ("OneClock$Witness", "size", "I", false)
def tyX8 : Nat → FieldType := fun k => match k with
  | 0 => .object "OneClock$Plan"
  | 1 => .object "OneClock$Play"
  | 2 => .array .int
  | 3 => .array .int
  | 4 => .array .int
  | _ => .int
theorem nmX8 : ∀ a, a < 6 → ∀ b, b < 6 → a ≠ b → (TX8 a).2.1 ≠ (TX8 b).2.1 := by decide +kernel
theorem tyX8_ok : ∀ k, k < 6 → parseFieldDescriptor (TX8 k).2.2.1 = some (tyX8 k) := by decide +kernel
def RX9 : String := "OneClock"
def TX9 : u_T := fun k => match k with
  | 0 => ("OneClock", "tape", "LOneClock$Tape;", true)
  | 1 => ("OneClock", "plan", "LOneClock$Plan;", true)
  | 2 => ("OneClock", "next", "LOneClock$Plan;", true)
  | 3 => ("OneClock", "reader", "LOneClock$Reader;", true)
  | 4 => ("OneClock", "now", "LOneClock$Play;", true)
  | 5 => ("OneClock", "guide", "LOneClock$Guide;", true)
  | 6 => ("OneClock", "witness", "LOneClock$Witness;", true)
  | 7 => ("OneClock", "past", "LOneClock$Past;", true)
  | _ => ("OneClock", "slots", "LOneClock$Slots;", true)
def tyX9 : Nat → FieldType := fun k => match k with
  | 0 => .object "OneClock$Tape"
  | 1 => .object "OneClock$Plan"
  | 2 => .object "OneClock$Plan"
  | 3 => .object "OneClock$Reader"
  | 4 => .object "OneClock$Play"
  | 5 => .object "OneClock$Guide"
  | 6 => .object "OneClock$Witness"
  | 7 => .object "OneClock$Past"
  | _ => .object "OneClock$Slots"
theorem nmX9 : ∀ a, a < 9 → ∀ b, b < 9 → a ≠ b → (TX9 a).2.1 ≠ (TX9 b).2.1 := by decide +kernel
theorem tyX9_ok : ∀ k, k < 9 → parseFieldDescriptor (TX9 k).2.2.1 = some (tyX9 k) := by decide +kernel
def RX10 : String := "OneClockModel"
def TX10 : u_T := fun k => match k with
  | 0 => ("OneClockModel", "thrown", "I", false)
  | 1 => ("OneClockModel", "tape", "[B", true)
  | 2 => ("OneClockModel", "taped", "I", false)
  | 3 => ("OneClockModel", "text", "[B", true)
  | 4 => ("OneClockModel", "size", "I", false)
  | 5 => ("OneClockModel", "tKind", "[I", true)
  | 6 => ("OneClockModel", "tPlace", "[I", true)
  | 7 => ("OneClockModel", "tValue", "[I", true)
  | 8 => ("OneClockModel", "tName", "[J", true)
  | 9 => ("OneClockModel", "keys", "[J", true)
  | 10 => ("OneClockModel", "tokens", "I", false)
  | 11 => ("OneClockModel", "t", "I", false)
  | 12 => ("OneClockModel", "open", "I", false)
  | 13 => ("OneClockModel", "fault", "I", false)
  | 14 => ("OneClockModel", "faultPlace", "I", false)
  | 15 => ("OneClockModel", "worst", "I", false)
  | 16 => ("OneClockModel", "worstPlace", "I", false)
  | 17 => ("OneClockModel", "place", "I", false)
  | 18 => ("OneClockModel", "live", "I", false)
  | 19 => ("OneClockModel", "side", "I", false)
  | 20 => ("OneClockModel", "names", "I", false)
  | 21 => ("OneClockModel", "nameOf", "[J", true)
  | 22 => ("OneClockModel", "boards", "[I", true)
  | 23 => ("OneClockModel", "movesTold", "[I", true)
  | 24 => ("OneClockModel", "lostOf", "[I", true)
  | 25 => ("OneClockModel", "thinks", "[I", true)
  | 26 => ("OneClockModel", "thinkOf", "[I", true)
  | 27 => ("OneClockModel", "step", "[I", true)
  | 28 => ("OneClockModel", "clock", "[I", true)
  | 29 => ("OneClockModel", "flag", "[I", true)
  | 30 => ("OneClockModel", "lawFirst", "[I", true)
  | 31 => ("OneClockModel", "lawLast", "[I", true)
  | 32 => ("OneClockModel", "branches", "I", false)
  | 33 => ("OneClockModel", "hasTest", "[Z", true)
  | 34 => ("OneClockModel", "testFrom", "[I", true)
  | 35 => ("OneClockModel", "testMid", "[I", true)
  | 36 => ("OneClockModel", "testTo", "[I", true)
  | 37 => ("OneClockModel", "termTo", "[I", true)
  | 38 => ("OneClockModel", "codes", "I", false)
  | 39 => ("OneClockModel", "code", "[I", true)
  | 40 => ("OneClockModel", "codeInt", "[I", true)
  | 41 => ("OneClockModel", "waits", "[I", true)
  | 42 => ("OneClockModel", "waiting", "I", false)
  | 43 => ("OneClockModel", "variables", "[I", true)
  | 44 => ("OneClockModel", "pile", "[I", true)
  | 45 => ("OneClockModel", "isBroken", "Z", false)
  | 46 => ("OneClockModel", "now", "[I", true)
  | 47 => ("OneClockModel", "row", "[I", true)
  | 48 => ("OneClockModel", "later", "[I", true)
  | 49 => ("OneClockModel", "hasty", "I", false)
  | 50 => ("OneClockModel", "undos", "I", false)
  | 51 => ("OneClockModel", "history", "[I", true)
  | 52 => ("OneClockModel", "boardAt", "[I", true)
  | 53 => ("OneClockModel", "thinkAt", "[I", true)
  | 54 => ("OneClockModel", "bestBoard", "[I", true)
  | 55 => ("OneClockModel", "bestThink", "[I", true)
  | 56 => ("OneClockModel", "stood", "[I", true)
  | 57 => ("OneClockModel", "bestLong", "I", false)
  | 58 => ("OneClockModel", "bestSum", "I", false)
  | 59 => ("OneClockModel", "isFound", "Z", false)
  | 60 => ("OneClockModel", "order", "[I", true)
  | 61 => ("OneClockModel", "bestOrder", "[I", true)
  | 62 => ("OneClockModel", "told", "I", false)
  | 63 => ("OneClockModel", "toldBoard", "[I", true)
  | 64 => ("OneClockModel", "toldMinute", "[I", true)
  | 65 => ("OneClockModel", "isHeld", "[Z", true)
  | _ => ("OneClockModel", "held", "[I", true)
def tyX10 : Nat → FieldType := fun k => match k with
  | 0 => .int
  | 1 => .array .byte
  | 2 => .int
  | 3 => .array .byte
  | 4 => .int
  | 5 => .array .int
  | 6 => .array .int
  | 7 => .array .int
  | 8 => .array .long
  | 9 => .array .long
  | 10 => .int
  | 11 => .int
  | 12 => .int
  | 13 => .int
  | 14 => .int
  | 15 => .int
  | 16 => .int
  | 17 => .int
  | 18 => .int
  | 19 => .int
  | 20 => .int
  | 21 => .array .long
  | 22 => .array .int
  | 23 => .array .int
  | 24 => .array .int
  | 25 => .array .int
  | 26 => .array .int
  | 27 => .array .int
  | 28 => .array .int
  | 29 => .array .int
  | 30 => .array .int
  | 31 => .array .int
  | 32 => .int
  | 33 => .array .boolean
  | 34 => .array .int
  | 35 => .array .int
  | 36 => .array .int
  | 37 => .array .int
  | 38 => .int
  | 39 => .array .int
  | 40 => .array .int
  | 41 => .array .int
  | 42 => .int
  | 43 => .array .int
  | 44 => .array .int
  | 45 => .boolean
  | 46 => .array .int
  | 47 => .array .int
  | 48 => .array .int
  | 49 => .int
  | 50 => .int
  | 51 => .array .int
  | 52 => .array .int
  | 53 => .array .int
  | 54 => .array .int
  | 55 => .array .int
  | 56 => .array .int
  | 57 => .int
  | 58 => .int
  | 59 => .boolean
  | 60 => .array .int
  | 61 => .array .int
  | 62 => .int
  | 63 => .array .int
  | 64 => .array .int
  | 65 => .array .boolean
  | _ => .array .int
theorem nmX10 : ∀ a, a < 67 → ∀ b, b < 67 → a ≠ b → (TX10 a).2.1 ≠ (TX10 b).2.1 := by decide +kernel
theorem tyX10_ok : ∀ k, k < 67 → parseFieldDescriptor (TX10 k).2.2.1 = some (tyX10 k) := by decide +kernel
def RL : String := "OneClockLaw"
def RJ0 : String := "java/lang/String"
def RJ1 : String := "java/lang/StringLatin1"
def RJ3 : String := "jdk/internal/util/Preconditions"
def RJ6 : String := "java/lang/Integer"
abbrev vwCl : List vw_C := [(RX0, TX0, 5), (RX1, TX1, 18), (RX2, TX2, 3), (RX3, TX3, 10), (RX4, TX4, 11), (RX5, TX5, 9), (RX6, TX6, 2), (RX7, TX7, 6), (RX8, TX8, 6), (RX9, TX9, 9), (RX10, TX10, 67)]
abbrev cX0_init : ByteArray := prog_2_method_1_code
def yX0_init : MethodName := ⟨RX0, "<init>", "()V"⟩
abbrev cX0_add : ByteArray := prog_2_method_2_code
def yX0_add : MethodName := ⟨RX0, "add", "(II)I"⟩
abbrev cX0_aimAtEnd : ByteArray := prog_2_method_3_code
def yX0_aimAtEnd : MethodName := ⟨RX0, "aimAtEnd", "(I)V"⟩
abbrev cX0_copyFrom : ByteArray := prog_2_method_4_code
def yX0_copyFrom : MethodName := ⟨RX0, "copyFrom", "(LOneClock$Code;)V"⟩
abbrev cX0_setFacts : ByteArray := prog_2_method_5_code
def yX0_setFacts : MethodName := ⟨RX0, "setFacts", "(IIIIII)V"⟩
abbrev cX0_valueOf : ByteArray := prog_2_method_6_code
def yX0_valueOf : MethodName := ⟨RX0, "valueOf", "(I)I"⟩
abbrev cX1_init : ByteArray := prog_3_method_1_code
def yX1_init : MethodName := ⟨RX1, "<init>", "(LOneClock$Plan;LOneClock$Play;)V"⟩
abbrev cX1_playChanges : ByteArray := prog_3_method_2_code
def yX1_playChanges : MethodName := ⟨RX1, "playChanges", "()V"⟩
abbrev cX1_textChanges : ByteArray := prog_3_method_3_code
def yX1_textChanges : MethodName := ⟨RX1, "textChanges", "()V"⟩
abbrev cX1_findRow : ByteArray := prog_3_method_4_code
def yX1_findRow : MethodName := ⟨RX1, "findRow", "(I)V"⟩
abbrev cX1_tryRows : ByteArray := prog_3_method_5_code
def yX1_tryRows : MethodName := ⟨RX1, "tryRows", "(I)V"⟩
abbrev cX1_tryMovesAt : ByteArray := prog_3_method_6_code
def yX1_tryMovesAt : MethodName := ⟨RX1, "tryMovesAt", "(II)V"⟩
abbrev cX1_keepRow : ByteArray := prog_3_method_7_code
def yX1_keepRow : MethodName := ⟨RX1, "keepRow", "(II)V"⟩
abbrev cX1_findEnd : ByteArray := prog_3_method_8_code
def yX1_findEnd : MethodName := ⟨RX1, "findEnd", "(II)V"⟩
abbrev cX1_findRule : ByteArray := prog_3_method_9_code
def yX1_findRule : MethodName := ⟨RX1, "findRule", "()V"⟩
abbrev cX1_findDrops : ByteArray := prog_3_method_10_code
def yX1_findDrops : MethodName := ⟨RX1, "findDrops", "(II)V"⟩
abbrev cX1_areOpen : ByteArray := prog_3_method_11_code
def yX1_areOpen : MethodName := ⟨RX1, "areOpen", "(I)Z"⟩
abbrev cX1_isIn : ByteArray := prog_3_method_12_code
def yX1_isIn : MethodName := ⟨RX1, "isIn", "(II)Z"⟩
abbrev cX1_letGoAll : ByteArray := prog_3_method_13_code
def yX1_letGoAll : MethodName := ⟨RX1, "letGoAll", "(I)V"⟩
abbrev cX1_findOffer : ByteArray := prog_3_method_14_code
def yX1_findOffer : MethodName := ⟨RX1, "findOffer", "(II)V"⟩
abbrev cX1_hasteOf : ByteArray := prog_3_method_15_code
def yX1_hasteOf : MethodName := ⟨RX1, "hasteOf", "(III)I"⟩
abbrev cX1_spareAt : ByteArray := prog_3_method_16_code
def yX1_spareAt : MethodName := ⟨RX1, "spareAt", "(III)I"⟩
abbrev cX1_findAgreed : ByteArray := prog_3_method_17_code
def yX1_findAgreed : MethodName := ⟨RX1, "findAgreed", "(IIII)V"⟩
abbrev cX1_findSeats : ByteArray := prog_3_method_18_code
def yX1_findSeats : MethodName := ⟨RX1, "findSeats", "(II)V"⟩
abbrev cX1_orderNext : ByteArray := prog_3_method_19_code
def yX1_orderNext : MethodName := ⟨RX1, "orderNext", "()Z"⟩
abbrev cX1_swapSeats : ByteArray := prog_3_method_20_code
def yX1_swapSeats : MethodName := ⟨RX1, "swapSeats", "(II)V"⟩
abbrev cX1_findShares : ByteArray := prog_3_method_21_code
def yX1_findShares : MethodName := ⟨RX1, "findShares", "(II)V"⟩
abbrev cX1_wonWith : ByteArray := prog_3_method_22_code
def yX1_wonWith : MethodName := ⟨RX1, "wonWith", "(III)I"⟩
abbrev cX1_keepMost : ByteArray := prog_3_method_23_code
def yX1_keepMost : MethodName := ⟨RX1, "keepMost", "(II)V"⟩
abbrev cX1_follow : ByteArray := prog_3_method_24_code
def yX1_follow : MethodName := ⟨RX1, "follow", "(II)V"⟩
abbrev cX1_choose : ByteArray := prog_3_method_25_code
def yX1_choose : MethodName := ⟨RX1, "choose", "(II)I"⟩
abbrev cX2_init : ByteArray := prog_4_method_1_code
def yX2_init : MethodName := ⟨RX2, "<init>", "()V"⟩
abbrev cX2_push : ByteArray := prog_4_method_2_code
def yX2_push : MethodName := ⟨RX2, "push", "(LOneClock$Play;)V"⟩
abbrev cX2_pop : ByteArray := prog_4_method_3_code
def yX2_pop : MethodName := ⟨RX2, "pop", "(LOneClock$Play;)Z"⟩
abbrev cX2_clear : ByteArray := prog_4_method_4_code
def yX2_clear : MethodName := ⟨RX2, "clear", "()V"⟩
abbrev cX3_init : ByteArray := prog_5_method_1_code
def yX3_init : MethodName := ⟨RX3, "<init>", "()V"⟩
abbrev cX3_clear : ByteArray := prog_5_method_2_code
def yX3_clear : MethodName := ⟨RX3, "clear", "()V"⟩
abbrev cX3_thinkOneMinute : ByteArray := prog_5_method_3_code
def yX3_thinkOneMinute : MethodName := ⟨RX3, "thinkOneMinute", "()V"⟩
abbrev cX3_tellLaw : ByteArray := prog_5_method_4_code
def yX3_tellLaw : MethodName := ⟨RX3, "tellLaw", "(III)V"⟩
abbrev cX3_copyFrom : ByteArray := prog_5_method_5_code
def yX3_copyFrom : MethodName := ⟨RX3, "copyFrom", "(LOneClock$Plan;)V"⟩
abbrev cX3_ask : ByteArray := prog_5_method_6_code
def yX3_ask : MethodName := ⟨RX3, "ask", "(II)I"⟩
abbrev cX4_init : ByteArray := prog_6_method_1_code
def yX4_init : MethodName := ⟨RX4, "<init>", "(LOneClock$Plan;)V"⟩
abbrev cX4_setOut : ByteArray := prog_6_method_2_code
def yX4_setOut : MethodName := ⟨RX4, "setOut", "()V"⟩
abbrev cX4_copyFrom : ByteArray := prog_6_method_3_code
def yX4_copyFrom : MethodName := ⟨RX4, "copyFrom", "(LOneClock$Play;)V"⟩
abbrev cX4_writeTo : ByteArray := prog_6_method_4_code
def yX4_writeTo : MethodName := ⟨RX4, "writeTo", "([II)V"⟩
abbrev cX4_readFrom : ByteArray := prog_6_method_5_code
def yX4_readFrom : MethodName := ⟨RX4, "readFrom", "([II)V"⟩
abbrev cX4_isOpen : ByteArray := prog_6_method_6_code
def yX4_isOpen : MethodName := ⟨RX4, "isOpen", "(I)Z"⟩
abbrev cX4_openBoards : ByteArray := prog_6_method_7_code
def yX4_openBoards : MethodName := ⟨RX4, "openBoards", "()I"⟩
abbrev cX4_isOver : ByteArray := prog_6_method_8_code
def yX4_isOver : MethodName := ⟨RX4, "isOver", "()Z"⟩
abbrev cX4_made : ByteArray := prog_6_method_9_code
def yX4_made : MethodName := ⟨RX4, "made", "(I)I"⟩
abbrev cX4_stepsTo : ByteArray := prog_6_method_10_code
def yX4_stepsTo : MethodName := ⟨RX4, "stepsTo", "(I)I"⟩
abbrev cX4_soonest : ByteArray := prog_6_method_11_code
def yX4_soonest : MethodName := ⟨RX4, "soonest", "(I)I"⟩
abbrev cX4_ask : ByteArray := prog_6_method_12_code
def yX4_ask : MethodName := ⟨RX4, "ask", "(IIII)I"⟩
abbrev cX4_gainOf : ByteArray := prog_6_method_13_code
def yX4_gainOf : MethodName := ⟨RX4, "gainOf", "(II)I"⟩
abbrev cX4_makeMove : ByteArray := prog_6_method_14_code
def yX4_makeMove : MethodName := ⟨RX4, "makeMove", "(III)I"⟩
abbrev cX4_makeOffer : ByteArray := prog_6_method_15_code
def yX4_makeOffer : MethodName := ⟨RX4, "makeOffer", "(I)I"⟩
abbrev cX4_letGo : ByteArray := prog_6_method_16_code
def yX4_letGo : MethodName := ⟨RX4, "letGo", "(I)V"⟩
abbrev cX4_dropFlag : ByteArray := prog_6_method_17_code
def yX4_dropFlag : MethodName := ⟨RX4, "dropFlag", "(I)V"⟩
abbrev cX5_init : ByteArray := prog_7_method_1_code
def yX5_init : MethodName := ⟨RX5, "<init>", "(LOneClock$Tape;LOneClock$Plan;)V"⟩
abbrev cX5_readText : ByteArray := prog_7_method_2_code
def yX5_readText : MethodName := ⟨RX5, "readText", "()I"⟩
abbrev cX5_startAnew : ByteArray := prog_7_method_3_code
def yX5_startAnew : MethodName := ⟨RX5, "startAnew", "()V"⟩
abbrev cX5_readBoard : ByteArray := prog_7_method_4_code
def yX5_readBoard : MethodName := ⟨RX5, "readBoard", "()V"⟩
abbrev cX5_readNumber : ByteArray := prog_7_method_5_code
def yX5_readNumber : MethodName := ⟨RX5, "readNumber", "(III)I"⟩
abbrev cX5_readThinks : ByteArray := prog_7_method_6_code
def yX5_readThinks : MethodName := ⟨RX5, "readThinks", "()V"⟩
abbrev cX5_readLaw : ByteArray := prog_7_method_7_code
def yX5_readLaw : MethodName := ⟨RX5, "readLaw", "(I)V"⟩
abbrev cX5_readSum : ByteArray := prog_7_method_8_code
def yX5_readSum : MethodName := ⟨RX5, "readSum", "(I)V"⟩
abbrev cX5_readProduct : ByteArray := prog_7_method_9_code
def yX5_readProduct : MethodName := ⟨RX5, "readProduct", "(I)V"⟩
abbrev cX5_readUnit : ByteArray := prog_7_method_10_code
def yX5_readUnit : MethodName := ⟨RX5, "readUnit", "(I)V"⟩
abbrev cX5_readInt : ByteArray := prog_7_method_11_code
def yX5_readInt : MethodName := ⟨RX5, "readInt", "(II)I"⟩
abbrev cX5_findName : ByteArray := prog_7_method_12_code
def yX5_findName : MethodName := ⟨RX5, "findName", "()I"⟩
abbrev cX5_pass : ByteArray := prog_7_method_13_code
def yX5_pass : MethodName := ⟨RX5, "pass", "(I)Z"⟩
abbrev cX5_fail : ByteArray := prog_7_method_14_code
def yX5_fail : MethodName := ⟨RX5, "fail", "(I)V"⟩
abbrev cX5_noteSlip : ByteArray := prog_7_method_15_code
def yX5_noteSlip : MethodName := ⟨RX5, "noteSlip", "(II)V"⟩
abbrev cX6_init : ByteArray := prog_8_method_1_code
def yX6_init : MethodName := ⟨RX6, "<init>", "()V"⟩
abbrev cX6_put : ByteArray := prog_8_method_2_code
def yX6_put : MethodName := ⟨RX6, "put", "(ILOneClock$Play;)V"⟩
abbrev cX6_take : ByteArray := prog_8_method_3_code
def yX6_take : MethodName := ⟨RX6, "take", "(ILOneClock$Play;)V"⟩
abbrev cX6_used : ByteArray := prog_8_method_4_code
def yX6_used : MethodName := ⟨RX6, "used", "()I"⟩
abbrev cX6_clear : ByteArray := prog_8_method_5_code
def yX6_clear : MethodName := ⟨RX6, "clear", "()V"⟩
abbrev cX7_init : ByteArray := prog_9_method_1_code
def yX7_init : MethodName := ⟨RX7, "<init>", "()V"⟩
abbrev cX7_addInt : ByteArray := prog_9_method_2_code
def yX7_addInt : MethodName := ⟨RX7, "addInt", "(I)V"⟩
abbrev cX7_scan : ByteArray := prog_9_method_3_code
def yX7_scan : MethodName := ⟨RX7, "scan", "()V"⟩
abbrev cX7_skipBlanks : ByteArray := prog_9_method_4_code
def yX7_skipBlanks : MethodName := ⟨RX7, "skipBlanks", "(I)I"⟩
abbrev cX7_endOfThing : ByteArray := prog_9_method_5_code
def yX7_endOfThing : MethodName := ⟨RX7, "endOfThing", "(I)I"⟩
abbrev cX7_kindOfThing : ByteArray := prog_9_method_6_code
def yX7_kindOfThing : MethodName := ⟨RX7, "kindOfThing", "(II)I"⟩
abbrev cX7_isWord : ByteArray := prog_9_method_7_code
def yX7_isWord : MethodName := ⟨RX7, "isWord", "(III)Z"⟩
abbrev cX7_valueOfDigits : ByteArray := prog_9_method_8_code
def yX7_valueOfDigits : MethodName := ⟨RX7, "valueOfDigits", "(II)I"⟩
abbrev cX7_areSame : ByteArray := prog_9_method_9_code
def yX7_areSame : MethodName := ⟨RX7, "areSame", "(II)Z"⟩
abbrev cX7_isBlank : ByteArray := prog_9_method_10_code
def yX7_isBlank : MethodName := ⟨RX7, "isBlank", "(I)Z"⟩
abbrev cX7_isLetter : ByteArray := prog_9_method_11_code
def yX7_isLetter : MethodName := ⟨RX7, "isLetter", "(I)Z"⟩
abbrev cX7_isDigit : ByteArray := prog_9_method_12_code
def yX7_isDigit : MethodName := ⟨RX7, "isDigit", "(I)Z"⟩
abbrev cX7_isSign : ByteArray := prog_9_method_13_code
def yX7_isSign : MethodName := ⟨RX7, "isSign", "(I)Z"⟩
abbrev cX8_init : ByteArray := prog_10_method_1_code
def yX8_init : MethodName := ⟨RX8, "<init>", "(LOneClock$Plan;)V"⟩
abbrev cX8_add : ByteArray := prog_10_method_2_code
def yX8_add : MethodName := ⟨RX8, "add", "(II)I"⟩
abbrev cX8_rowsThatFit : ByteArray := prog_10_method_3_code
def yX8_rowsThatFit : MethodName := ⟨RX8, "rowsThatFit", "(I)I"⟩
abbrev cX8_rowsFrom : ByteArray := prog_10_method_4_code
def yX8_rowsFrom : MethodName := ⟨RX8, "rowsFrom", "(II)I"⟩
abbrev cX8_canThink : ByteArray := prog_10_method_5_code
def yX8_canThink : MethodName := ⟨RX8, "canThink", "(III)Z"⟩
abbrev cX9_init : ByteArray := prog_1_method_1_code
def yX9_init : MethodName := ⟨RX9, "<init>", "()V"⟩
abbrev cX9_feed : ByteArray := prog_1_method_2_code
def yX9_feed : MethodName := ⟨RX9, "feed", "(IIIII)I"⟩
abbrev cX9_back : ByteArray := prog_1_method_3_code
def yX9_back : MethodName := ⟨RX9, "back", "(I)I"⟩
abbrev cX9_read : ByteArray := prog_1_method_4_code
def yX9_read : MethodName := ⟨RX9, "read", "()I"⟩
abbrev cX9_place : ByteArray := prog_1_method_5_code
def yX9_place : MethodName := ⟨RX9, "place", "()I"⟩
abbrev cX9_board : ByteArray := prog_1_method_6_code
def yX9_board : MethodName := ⟨RX9, "board", "(II)I"⟩
abbrev cX9_sum : ByteArray := prog_1_method_7_code
def yX9_sum : MethodName := ⟨RX9, "sum", "()I"⟩
abbrev cX9_move : ByteArray := prog_1_method_8_code
def yX9_move : MethodName := ⟨RX9, "move", "(II)I"⟩
abbrev cX9_offer : ByteArray := prog_1_method_9_code
def yX9_offer : MethodName := ⟨RX9, "offer", "(I)I"⟩
abbrev cX9_drop : ByteArray := prog_1_method_10_code
def yX9_drop : MethodName := ⟨RX9, "drop", "(I)Z"⟩
abbrev cX9_pause : ByteArray := prog_1_method_11_code
def yX9_pause : MethodName := ⟨RX9, "pause", "(I)I"⟩
abbrev cX9_undo : ByteArray := prog_1_method_12_code
def yX9_undo : MethodName := ⟨RX9, "undo", "()Z"⟩
abbrev cX9_begins : ByteArray := prog_1_method_13_code
def yX9_begins : MethodName := ⟨RX9, "begins", "(I)I"⟩
abbrev cX9_best : ByteArray := prog_1_method_14_code
def yX9_best : MethodName := ⟨RX9, "best", "(I)I"⟩
abbrev cX9_bestAt : ByteArray := prog_1_method_15_code
def yX9_bestAt : MethodName := ⟨RX9, "bestAt", "(II)I"⟩
abbrev cX9_rule : ByteArray := prog_1_method_16_code
def yX9_rule : MethodName := ⟨RX9, "rule", "(III)I"⟩
abbrev cX9_bestRule : ByteArray := prog_1_method_17_code
def yX9_bestRule : MethodName := ⟨RX9, "bestRule", "(I)I"⟩
abbrev cX9_dropBest : ByteArray := prog_1_method_18_code
def yX9_dropBest : MethodName := ⟨RX9, "dropBest", "(III)I"⟩
abbrev cX9_offerBest : ByteArray := prog_1_method_19_code
def yX9_offerBest : MethodName := ⟨RX9, "offerBest", "(III)I"⟩
abbrev cX9_haste : ByteArray := prog_1_method_20_code
def yX9_haste : MethodName := ⟨RX9, "haste", "(III)I"⟩
abbrev cX9_spare : ByteArray := prog_1_method_21_code
def yX9_spare : MethodName := ⟨RX9, "spare", "(III)I"⟩
abbrev cX9_agreed : ByteArray := prog_1_method_22_code
def yX9_agreed : MethodName := ⟨RX9, "agreed", "(IIIII)I"⟩
abbrev cX9_seats : ByteArray := prog_1_method_23_code
def yX9_seats : MethodName := ⟨RX9, "seats", "(II)I"⟩
abbrev cX9_seatAt : ByteArray := prog_1_method_24_code
def yX9_seatAt : MethodName := ⟨RX9, "seatAt", "(III)I"⟩
abbrev cX9_shared : ByteArray := prog_1_method_25_code
def yX9_shared : MethodName := ⟨RX9, "shared", "(III)I"⟩
abbrev cX9_tell : ByteArray := prog_1_method_26_code
def yX9_tell : MethodName := ⟨RX9, "tell", "(II)I"⟩
abbrev cX9_forget : ByteArray := prog_1_method_27_code
def yX9_forget : MethodName := ⟨RX9, "forget", "()I"⟩
abbrev cX9_fits : ByteArray := prog_1_method_28_code
def yX9_fits : MethodName := ⟨RX9, "fits", "(I)I"⟩
abbrev cX9_hold : ByteArray := prog_1_method_29_code
def yX9_hold : MethodName := ⟨RX9, "hold", "(I)Z"⟩
abbrev cX9_restore : ByteArray := prog_1_method_30_code
def yX9_restore : MethodName := ⟨RX9, "restore", "(I)Z"⟩
abbrev cX9_count : ByteArray := prog_1_method_31_code
def yX9_count : MethodName := ⟨RX9, "count", "(I)I"⟩
abbrev cX9_isBoard : ByteArray := prog_1_method_32_code
def yX9_isBoard : MethodName := ⟨RX9, "isBoard", "(I)Z"⟩
abbrev cX9_isThink : ByteArray := prog_1_method_33_code
def yX9_isThink : MethodName := ⟨RX9, "isThink", "(I)Z"⟩
abbrev cX9_isRule : ByteArray := prog_1_method_34_code
def yX9_isRule : MethodName := ⟨RX9, "isRule", "(II)Z"⟩
abbrev cX9_isDepth : ByteArray := prog_1_method_35_code
def yX9_isDepth : MethodName := ⟨RX9, "isDepth", "(I)Z"⟩
abbrev cX9_isSlot : ByteArray := prog_1_method_36_code
def yX9_isSlot : MethodName := ⟨RX9, "isSlot", "(I)Z"⟩
abbrev cX9_isHalf : ByteArray := prog_1_method_37_code
def yX9_isHalf : MethodName := ⟨RX9, "isHalf", "(I)Z"⟩
abbrev cX9_canPlay : ByteArray := prog_1_method_38_code
def yX9_canPlay : MethodName := ⟨RX9, "canPlay", "(I)Z"⟩
abbrev cX9_noteWhatStands : ByteArray := prog_1_method_39_code
def yX9_noteWhatStands : MethodName := ⟨RX9, "noteWhatStands", "()V"⟩
abbrev cX10_init : ByteArray := prog_12_method_2_code
def yX10_init : MethodName := ⟨RX10, "<init>", "()V"⟩
abbrev cX10_feed : ByteArray := prog_12_method_3_code
def yX10_feed : MethodName := ⟨RX10, "feed", "(IIIII)I"⟩
abbrev cX10_put : ByteArray := prog_12_method_4_code
def yX10_put : MethodName := ⟨RX10, "put", "(I)V"⟩
abbrev cX10_back : ByteArray := prog_12_method_5_code
def yX10_back : MethodName := ⟨RX10, "back", "(I)I"⟩
abbrev cX10_byteAt : ByteArray := prog_12_method_6_code
def yX10_byteAt : MethodName := ⟨RX10, "byteAt", "(I)I"⟩
abbrev cX10_isDigit : ByteArray := prog_12_method_7_code
def yX10_isDigit : MethodName := ⟨RX10, "isDigit", "(I)Z"⟩
abbrev cX10_isLetter : ByteArray := prog_12_method_8_code
def yX10_isLetter : MethodName := ⟨RX10, "isLetter", "(I)Z"⟩
abbrev cX10_appends : ByteArray := prog_12_method_9_code
def yX10_appends : MethodName := ⟨RX10, "appends", "(JI)J"⟩
abbrev cX10_word : ByteArray := prog_12_method_10_code
def yX10_word : MethodName := ⟨RX10, "word", "(IIIIIII)J"⟩
abbrev cX10_token : ByteArray := prog_12_method_11_code
def yX10_token : MethodName := ⟨RX10, "token", "(IIIJ)V"⟩
abbrev cX10_cut : ByteArray := prog_12_method_12_code
def yX10_cut : MethodName := ⟨RX10, "cut", "()V"⟩
abbrev cX10_sign : ByteArray := prog_12_method_13_code
def yX10_sign : MethodName := ⟨RX10, "sign", "(III)I"⟩
abbrev cX10_is : ByteArray := prog_12_method_14_code
def yX10_is : MethodName := ⟨RX10, "is", "(I)Z"⟩
abbrev cX10_fail : ByteArray := prog_12_method_15_code
def yX10_fail : MethodName := ⟨RX10, "fail", "(I)V"⟩
abbrev cX10_wrong : ByteArray := prog_12_method_16_code
def yX10_wrong : MethodName := ⟨RX10, "wrong", "(II)V"⟩
abbrev cX10_goesOn : ByteArray := prog_12_method_17_code
def yX10_goesOn : MethodName := ⟨RX10, "goesOn", "()V"⟩
abbrev cX10_must : ByteArray := prog_12_method_18_code
def yX10_must : MethodName := ⟨RX10, "must", "(I)V"⟩
abbrev cX10_plain : ByteArray := prog_12_method_19_code
def yX10_plain : MethodName := ⟨RX10, "plain", "(I)V"⟩
abbrev cX10_read : ByteArray := prog_12_method_20_code
def yX10_read : MethodName := ⟨RX10, "read", "()I"⟩
abbrev cX10_place : ByteArray := prog_12_method_21_code
def yX10_place : MethodName := ⟨RX10, "place", "()I"⟩
abbrev cX10_tell : ByteArray := prog_12_method_22_code
def yX10_tell : MethodName := ⟨RX10, "tell", "()V"⟩
abbrev cX10_known : ByteArray := prog_12_method_23_code
def yX10_known : MethodName := ⟨RX10, "known", "()I"⟩
abbrev cX10_bounded : ByteArray := prog_12_method_24_code
def yX10_bounded : MethodName := ⟨RX10, "bounded", "(II)I"⟩
abbrev cX10_tellBoard : ByteArray := prog_12_method_25_code
def yX10_tellBoard : MethodName := ⟨RX10, "tellBoard", "()V"⟩
abbrev cX10_tellThinks : ByteArray := prog_12_method_26_code
def yX10_tellThinks : MethodName := ⟨RX10, "tellThinks", "()V"⟩
abbrev cX10_tellLaw : ByteArray := prog_12_method_27_code
def yX10_tellLaw : MethodName := ⟨RX10, "tellLaw", "(I)V"⟩
abbrev cX10_term : ByteArray := prog_12_method_28_code
def yX10_term : MethodName := ⟨RX10, "term", "()V"⟩
abbrev cX10_emit : ByteArray := prog_12_method_29_code
def yX10_emit : MethodName := ⟨RX10, "emit", "(II)V"⟩
abbrev cX10_comesOut : ByteArray := prog_12_method_30_code
def yX10_comesOut : MethodName := ⟨RX10, "comesOut", "(Z)V"⟩
abbrev cX10_expression : ByteArray := prog_12_method_31_code
def yX10_expression : MethodName := ⟨RX10, "expression", "()V"⟩
abbrev cX10_unit : ByteArray := prog_12_method_32_code
def yX10_unit : MethodName := ⟨RX10, "unit", "()V"⟩
abbrev cX10_termOf : ByteArray := prog_12_method_33_code
def yX10_termOf : MethodName := ⟨RX10, "termOf", "(II)I"⟩
abbrev cX10_in : ByteArray := prog_12_method_34_code
def yX10_in : MethodName := ⟨RX10, "in", "(III)Z"⟩
abbrev cX10_isBoard : ByteArray := prog_12_method_35_code
def yX10_isBoard : MethodName := ⟨RX10, "isBoard", "(I)Z"⟩
abbrev cX10_begins0 : ByteArray := prog_12_method_36_code
def yX10_begins0 : MethodName := ⟨RX10, "begins0", "(I)V"⟩
abbrev cX10_copies : ByteArray := prog_12_method_37_code
def yX10_copies : MethodName := ⟨RX10, "copies", "()V"⟩
abbrev cX10_isOpen : ByteArray := prog_12_method_38_code
def yX10_isOpen : MethodName := ⟨RX10, "isOpen", "(I)Z"⟩
abbrev cX10_openAll : ByteArray := prog_12_method_39_code
def yX10_openAll : MethodName := ⟨RX10, "openAll", "()I"⟩
abbrev cX10_isOver : ByteArray := prog_12_method_40_code
def yX10_isOver : MethodName := ⟨RX10, "isOver", "()Z"⟩
abbrev cX10_stepsTo : ByteArray := prog_12_method_41_code
def yX10_stepsTo : MethodName := ⟨RX10, "stepsTo", "(I)I"⟩
abbrev cX10_beginsAt : ByteArray := prog_12_method_42_code
def yX10_beginsAt : MethodName := ⟨RX10, "beginsAt", "(I)I"⟩
abbrev cX10_tells : ByteArray := prog_12_method_43_code
def yX10_tells : MethodName := ⟨RX10, "tells", "(IIII)I"⟩
abbrev cX10_setsOf : ByteArray := prog_12_method_44_code
def yX10_setsOf : MethodName := ⟨RX10, "setsOf", "(III)V"⟩
abbrev cX10_worthOf : ByteArray := prog_12_method_45_code
def yX10_worthOf : MethodName := ⟨RX10, "worthOf", "(III)I"⟩
abbrev cX10_falls : ByteArray := prog_12_method_46_code
def yX10_falls : MethodName := ⟨RX10, "falls", "(I)V"⟩
abbrev cX10_movesFrom : ByteArray := prog_12_method_47_code
def yX10_movesFrom : MethodName := ⟨RX10, "movesFrom", "(III)I"⟩
abbrev cX10_movesNow : ByteArray := prog_12_method_48_code
def yX10_movesNow : MethodName := ⟨RX10, "movesNow", "(II)I"⟩
abbrev cX10_offersNow : ByteArray := prog_12_method_49_code
def yX10_offersNow : MethodName := ⟨RX10, "offersNow", "(I)I"⟩
abbrev cX10_drops : ByteArray := prog_12_method_50_code
def yX10_drops : MethodName := ⟨RX10, "drops", "(I)V"⟩
abbrev cX10_board : ByteArray := prog_12_method_51_code
def yX10_board : MethodName := ⟨RX10, "board", "(II)I"⟩
abbrev cX10_sum : ByteArray := prog_12_method_52_code
def yX10_sum : MethodName := ⟨RX10, "sum", "()I"⟩
abbrev cX10_keeps : ByteArray := prog_12_method_53_code
def yX10_keeps : MethodName := ⟨RX10, "keeps", "()V"⟩
abbrev cX10_isThink : ByteArray := prog_12_method_54_code
def yX10_isThink : MethodName := ⟨RX10, "isThink", "(I)Z"⟩
abbrev cX10_think : ByteArray := prog_12_method_55_code
def yX10_think : MethodName := ⟨RX10, "think", "(I)I"⟩
abbrev cX10_move : ByteArray := prog_12_method_56_code
def yX10_move : MethodName := ⟨RX10, "move", "(II)I"⟩
abbrev cX10_offer : ByteArray := prog_12_method_57_code
def yX10_offer : MethodName := ⟨RX10, "offer", "(I)I"⟩
abbrev cX10_drop : ByteArray := prog_12_method_58_code
def yX10_drop : MethodName := ⟨RX10, "drop", "(I)Z"⟩
abbrev cX10_pause : ByteArray := prog_12_method_59_code
def yX10_pause : MethodName := ⟨RX10, "pause", "(I)I"⟩
abbrev cX10_undo : ByteArray := prog_12_method_60_code
def yX10_undo : MethodName := ⟨RX10, "undo", "()Z"⟩
abbrev cX10_begins : ByteArray := prog_12_method_61_code
def yX10_begins : MethodName := ⟨RX10, "begins", "(I)I"⟩
abbrev cX10_notesRow : ByteArray := prog_12_method_62_code
def yX10_notesRow : MethodName := ⟨RX10, "notesRow", "(I)V"⟩
abbrev cX10_nextAt : ByteArray := prog_12_method_63_code
def yX10_nextAt : MethodName := ⟨RX10, "nextAt", "(I)Z"⟩
abbrev cX10_opens : ByteArray := prog_12_method_64_code
def yX10_opens : MethodName := ⟨RX10, "opens", "(I)V"⟩
abbrev cX10_findsBest : ByteArray := prog_12_method_65_code
def yX10_findsBest : MethodName := ⟨RX10, "findsBest", "(I)V"⟩
abbrev cX10_best : ByteArray := prog_12_method_66_code
def yX10_best : MethodName := ⟨RX10, "best", "(I)I"⟩
abbrev cX10_bestAt : ByteArray := prog_12_method_67_code
def yX10_bestAt : MethodName := ⟨RX10, "bestAt", "(II)I"⟩
abbrev cX10_nextBy : ByteArray := prog_12_method_68_code
def yX10_nextBy : MethodName := ⟨RX10, "nextBy", "(II)I"⟩
abbrev cX10_goesBy : ByteArray := prog_12_method_69_code
def yX10_goesBy : MethodName := ⟨RX10, "goesBy", "(II)I"⟩
abbrev cX10_isRule : ByteArray := prog_12_method_70_code
def yX10_isRule : MethodName := ⟨RX10, "isRule", "(II)Z"⟩
abbrev cX10_rule : ByteArray := prog_12_method_71_code
def yX10_rule : MethodName := ⟨RX10, "rule", "(III)I"⟩
abbrev cX10_wonBy : ByteArray := prog_12_method_72_code
def yX10_wonBy : MethodName := ⟨RX10, "wonBy", "(II)I"⟩
abbrev cX10_bestRule : ByteArray := prog_12_method_73_code
def yX10_bestRule : MethodName := ⟨RX10, "bestRule", "(I)I"⟩
abbrev cX10_bits : ByteArray := prog_12_method_74_code
def yX10_bits : MethodName := ⟨RX10, "bits", "(I)I"⟩
abbrev cX10_canDrop : ByteArray := prog_12_method_75_code
def yX10_canDrop : MethodName := ⟨RX10, "canDrop", "(I)Z"⟩
abbrev cX10_dropBest : ByteArray := prog_12_method_76_code
def yX10_dropBest : MethodName := ⟨RX10, "dropBest", "(III)I"⟩
abbrev cX10_offerBest : ByteArray := prog_12_method_77_code
def yX10_offerBest : MethodName := ⟨RX10, "offerBest", "(III)I"⟩
abbrev cX10_haste : ByteArray := prog_12_method_78_code
def yX10_haste : MethodName := ⟨RX10, "haste", "(III)I"⟩
abbrev cX10_spare : ByteArray := prog_12_method_79_code
def yX10_spare : MethodName := ⟨RX10, "spare", "(III)I"⟩
abbrev cX10_agreed : ByteArray := prog_12_method_80_code
def yX10_agreed : MethodName := ⟨RX10, "agreed", "(IIIII)I"⟩
abbrev cX10_nextOrder : ByteArray := prog_12_method_81_code
def yX10_nextOrder : MethodName := ⟨RX10, "nextOrder", "()Z"⟩
abbrev cX10_seatsBy : ByteArray := prog_12_method_82_code
def yX10_seatsBy : MethodName := ⟨RX10, "seatsBy", "(II)I"⟩
abbrev cX10_seats : ByteArray := prog_12_method_83_code
def yX10_seats : MethodName := ⟨RX10, "seats", "(II)I"⟩
abbrev cX10_seatAt : ByteArray := prog_12_method_84_code
def yX10_seatAt : MethodName := ⟨RX10, "seatAt", "(III)I"⟩
abbrev cX10_shared : ByteArray := prog_12_method_85_code
def yX10_shared : MethodName := ⟨RX10, "shared", "(III)I"⟩
abbrev cX10_tell_ : ByteArray := prog_12_method_86_code
def yX10_tell_ : MethodName := ⟨RX10, "tell", "(II)I"⟩
abbrev cX10_forget : ByteArray := prog_12_method_87_code
def yX10_forget : MethodName := ⟨RX10, "forget", "()I"⟩
abbrev cX10_isSo : ByteArray := prog_12_method_88_code
def yX10_isSo : MethodName := ⟨RX10, "isSo", "(II)Z"⟩
abbrev cX10_fits : ByteArray := prog_12_method_89_code
def yX10_fits : MethodName := ⟨RX10, "fits", "(I)I"⟩
abbrev cX10_hold : ByteArray := prog_12_method_90_code
def yX10_hold : MethodName := ⟨RX10, "hold", "(I)Z"⟩
abbrev cX10_restore : ByteArray := prog_12_method_91_code
def yX10_restore : MethodName := ⟨RX10, "restore", "(I)Z"⟩
abbrev cX10_count : ByteArray := prog_12_method_92_code
def yX10_count : MethodName := ⟨RX10, "count", "(I)I"⟩
abbrev cJ6_bitCount_0f7a4 : ByteArray := prog_13_method_49_code
def yJ6_bitCount_0f7a4 : MethodName := ⟨RJ6, "bitCount", "(I)I"⟩
abbrev cL_law : ByteArray := code
def yL_law : MethodName := ⟨RL, "law", "([I)Z"⟩
abbrev cJ0_charAt_5068e : ByteArray := prog_15_method_56_code
def yJ0_charAt_5068e : MethodName := ⟨RJ0, "charAt", "(I)C"⟩
abbrev cJ0_isLatin1_aae02 : ByteArray := prog_15_method_154_code
def yJ0_isLatin1_aae02 : MethodName := ⟨RJ0, "isLatin1", "()Z"⟩
abbrev cJ0_checkIndex_df160 : ByteArray := prog_15_method_155_code
def yJ0_checkIndex_df160 : MethodName := ⟨RJ0, "checkIndex", "(II)V"⟩
abbrev cJ1_charAt_3b067 : ByteArray := prog_16_method_2_code
def yJ1_charAt_3b067 : MethodName := ⟨RJ1, "charAt", "([BI)C"⟩
abbrev cJ3_checkIndex_8e157 : ByteArray := prog_19_method_11_code
def yJ3_checkIndex_8e157 : MethodName := ⟨RJ3, "checkIndex", "(IILjava/util/function/BiFunction;)I"⟩
/-- the words that every method may use -/
def am_W : List Cond := lw_tbl.filter goodWord
theorem am_Wm {i : Nat} {w : Cond} (h : lw_tbl[i]? = some w) (g : goodWord w = true) : w ∈ am_W := List.mem_filter.mpr ⟨List.mem_of_getElem? h, g⟩
theorem am_Wg : ∀ w ∈ am_W, w ∈ am_W ∧ ((w.onTables && w.keeps) = true ∨ ∃ ty, w = .arrayClass ty) := fun w h => ⟨h, good_of_word (List.mem_filter.mp h).2⟩
def am_wok (i : Nat) (w : Cond) : Bool := decide (lw_tbl[i]? = some w) && goodWord w
theorem am_wok_m {i : Nat} {w : Cond} (h : am_wok i w = true) : w ∈ am_W := by
  unfold am_wok at h
  simp only [Bool.and_eq_true, decide_eq_true_eq] at h
  exact am_Wm h.1 h.2
def am_own (n : Nat) : String := (["OneClock$Code", "OneClock$Guide", "OneClock$Past", "OneClock$Plan", "OneClock$Play", "OneClock$Reader", "OneClock$Slots", "OneClock$Tape", "OneClock$Witness", "OneClock", "OneClockModel", "OneClockLaw", "java/lang/Integer"] : List String).getD n ""
def am_K0 : vw_C := (RX0, TX0, 5)
def am_cls (n : Nat) : vw_C := vwCl.getD n am_K0
def am_Y : List MethodName := [yX0_init, yX0_add, yX0_aimAtEnd, yX0_copyFrom, yX0_setFacts, yX0_valueOf, yX1_init, yX1_playChanges, yX1_textChanges, yX1_findRow, yX1_tryRows, yX1_tryMovesAt, yX1_keepRow, yX1_findEnd, yX1_findRule, yX1_findDrops, yX1_areOpen, yX1_isIn, yX1_letGoAll, yX1_findOffer, yX1_hasteOf, yX1_spareAt, yX1_findAgreed, yX1_findSeats, yX1_orderNext, yX1_swapSeats, yX1_findShares, yX1_wonWith, yX1_keepMost, yX1_follow, yX1_choose, yX2_init, yX2_push, yX2_pop, yX2_clear, yX3_init, yX3_clear, yX3_thinkOneMinute, yX3_tellLaw, yX3_copyFrom, yX3_ask, yX4_init, yX4_setOut, yX4_copyFrom, yX4_writeTo, yX4_readFrom, yX4_isOpen, yX4_openBoards, yX4_isOver, yX4_made, yX4_stepsTo, yX4_soonest, yX4_ask, yX4_gainOf, yX4_makeMove, yX4_makeOffer, yX4_letGo, yX4_dropFlag, yX5_init, yX5_readText, yX5_startAnew, yX5_readBoard, yX5_readNumber, yX5_readThinks, yX5_readLaw, yX5_readSum, yX5_readProduct, yX5_readUnit, yX5_readInt, yX5_findName, yX5_pass, yX5_fail, yX5_noteSlip, yX6_init, yX6_put, yX6_take, yX6_used, yX6_clear, yX7_init, yX7_addInt, yX7_scan, yX7_skipBlanks, yX7_endOfThing, yX7_kindOfThing, yX7_isWord, yX7_valueOfDigits, yX7_areSame, yX7_isBlank, yX7_isLetter, yX7_isDigit, yX7_isSign, yX8_init, yX8_add, yX8_rowsThatFit, yX8_rowsFrom, yX8_canThink, yX9_init, yX9_feed, yX9_back, yX9_read, yX9_place, yX9_board, yX9_sum, yX9_move, yX9_offer, yX9_drop, yX9_pause, yX9_undo, yX9_begins, yX9_best, yX9_bestAt, yX9_rule, yX9_bestRule, yX9_dropBest, yX9_offerBest, yX9_haste, yX9_spare, yX9_agreed, yX9_seats, yX9_seatAt, yX9_shared, yX9_tell, yX9_forget, yX9_fits, yX9_hold, yX9_restore, yX9_count, yX9_isBoard, yX9_isThink, yX9_isRule, yX9_isDepth, yX9_isSlot, yX9_isHalf, yX9_canPlay, yX9_noteWhatStands, yX10_init, yX10_feed, yX10_put, yX10_back, yX10_byteAt, yX10_isDigit, yX10_isLetter, yX10_appends, yX10_word, yX10_token, yX10_cut, yX10_sign, yX10_is, yX10_fail, yX10_wrong, yX10_goesOn, yX10_must, yX10_plain, yX10_read, yX10_place, yX10_tell, yX10_known, yX10_bounded, yX10_tellBoard, yX10_tellThinks, yX10_tellLaw, yX10_term, yX10_emit, yX10_comesOut, yX10_expression, yX10_unit, yX10_termOf, yX10_in, yX10_isBoard, yX10_begins0, yX10_copies, yX10_isOpen, yX10_openAll, yX10_isOver, yX10_stepsTo, yX10_beginsAt, yX10_tells, yX10_setsOf, yX10_worthOf, yX10_falls, yX10_movesFrom, yX10_movesNow, yX10_offersNow, yX10_drops, yX10_board, yX10_sum, yX10_keeps, yX10_isThink, yX10_think, yX10_move, yX10_offer, yX10_drop, yX10_pause, yX10_undo, yX10_begins, yX10_notesRow, yX10_nextAt, yX10_opens, yX10_findsBest, yX10_best, yX10_bestAt, yX10_nextBy, yX10_goesBy, yX10_isRule, yX10_rule, yX10_wonBy, yX10_bestRule, yX10_bits, yX10_canDrop, yX10_dropBest, yX10_offerBest, yX10_haste, yX10_spare, yX10_agreed, yX10_nextOrder, yX10_seatsBy, yX10_seats, yX10_seatAt, yX10_shared, yX10_tell_, yX10_forget, yX10_isSo, yX10_fits, yX10_hold, yX10_restore, yX10_count, yJ6_bitCount_0f7a4, yL_law]
def am_B : List ByteArray := [cX0_init, cX0_add, cX0_aimAtEnd, cX0_copyFrom, cX0_setFacts, cX0_valueOf, cX1_init, cX1_playChanges, cX1_textChanges, cX1_findRow, cX1_tryRows, cX1_tryMovesAt, cX1_keepRow, cX1_findEnd, cX1_findRule, cX1_findDrops, cX1_areOpen, cX1_isIn, cX1_letGoAll, cX1_findOffer, cX1_hasteOf, cX1_spareAt, cX1_findAgreed, cX1_findSeats, cX1_orderNext, cX1_swapSeats, cX1_findShares, cX1_wonWith, cX1_keepMost, cX1_follow, cX1_choose, cX2_init, cX2_push, cX2_pop, cX2_clear, cX3_init, cX3_clear, cX3_thinkOneMinute, cX3_tellLaw, cX3_copyFrom, cX3_ask, cX4_init, cX4_setOut, cX4_copyFrom, cX4_writeTo, cX4_readFrom, cX4_isOpen, cX4_openBoards, cX4_isOver, cX4_made, cX4_stepsTo, cX4_soonest, cX4_ask, cX4_gainOf, cX4_makeMove, cX4_makeOffer, cX4_letGo, cX4_dropFlag, cX5_init, cX5_readText, cX5_startAnew, cX5_readBoard, cX5_readNumber, cX5_readThinks, cX5_readLaw, cX5_readSum, cX5_readProduct, cX5_readUnit, cX5_readInt, cX5_findName, cX5_pass, cX5_fail, cX5_noteSlip, cX6_init, cX6_put, cX6_take, cX6_used, cX6_clear, cX7_init, cX7_addInt, cX7_scan, cX7_skipBlanks, cX7_endOfThing, cX7_kindOfThing, cX7_isWord, cX7_valueOfDigits, cX7_areSame, cX7_isBlank, cX7_isLetter, cX7_isDigit, cX7_isSign, cX8_init, cX8_add, cX8_rowsThatFit, cX8_rowsFrom, cX8_canThink, cX9_init, cX9_feed, cX9_back, cX9_read, cX9_place, cX9_board, cX9_sum, cX9_move, cX9_offer, cX9_drop, cX9_pause, cX9_undo, cX9_begins, cX9_best, cX9_bestAt, cX9_rule, cX9_bestRule, cX9_dropBest, cX9_offerBest, cX9_haste, cX9_spare, cX9_agreed, cX9_seats, cX9_seatAt, cX9_shared, cX9_tell, cX9_forget, cX9_fits, cX9_hold, cX9_restore, cX9_count, cX9_isBoard, cX9_isThink, cX9_isRule, cX9_isDepth, cX9_isSlot, cX9_isHalf, cX9_canPlay, cX9_noteWhatStands, cX10_init, cX10_feed, cX10_put, cX10_back, cX10_byteAt, cX10_isDigit, cX10_isLetter, cX10_appends, cX10_word, cX10_token, cX10_cut, cX10_sign, cX10_is, cX10_fail, cX10_wrong, cX10_goesOn, cX10_must, cX10_plain, cX10_read, cX10_place, cX10_tell, cX10_known, cX10_bounded, cX10_tellBoard, cX10_tellThinks, cX10_tellLaw, cX10_term, cX10_emit, cX10_comesOut, cX10_expression, cX10_unit, cX10_termOf, cX10_in, cX10_isBoard, cX10_begins0, cX10_copies, cX10_isOpen, cX10_openAll, cX10_isOver, cX10_stepsTo, cX10_beginsAt, cX10_tells, cX10_setsOf, cX10_worthOf, cX10_falls, cX10_movesFrom, cX10_movesNow, cX10_offersNow, cX10_drops, cX10_board, cX10_sum, cX10_keeps, cX10_isThink, cX10_think, cX10_move, cX10_offer, cX10_drop, cX10_pause, cX10_undo, cX10_begins, cX10_notesRow, cX10_nextAt, cX10_opens, cX10_findsBest, cX10_best, cX10_bestAt, cX10_nextBy, cX10_goesBy, cX10_isRule, cX10_rule, cX10_wonBy, cX10_bestRule, cX10_bits, cX10_canDrop, cX10_dropBest, cX10_offerBest, cX10_haste, cX10_spare, cX10_agreed, cX10_nextOrder, cX10_seatsBy, cX10_seats, cX10_seatAt, cX10_shared, cX10_tell_, cX10_forget, cX10_isSo, cX10_fits, cX10_hold, cX10_restore, cX10_count, cJ6_bitCount_0f7a4, cL_law]
end
section
/-! the words of the tables, each by its place -/
theorem am_tin {w : Cond} (h : w ∈ tables_1) (g : goodWord w = true) : w ∈ am_W := List.mem_filter.mpr ⟨List.mem_append_right _ h, g⟩
theorem am_w1 {i : Nat} {w : Cond} (h : tables_1_1[i]? = some w) (g : goodWord w = true) : w ∈ am_W := am_tin (List.mem_append_left _ (List.mem_of_getElem? h)) g
theorem am_w2 {i : Nat} {w : Cond} (h : tables_1_2[i]? = some w) (g : goodWord w = true) : w ∈ am_W := am_tin (List.mem_append_right _ (List.mem_append_left _ (List.mem_of_getElem? h))) g
theorem am_w3 {i : Nat} {w : Cond} (h : tables_1_3[i]? = some w) (g : goodWord w = true) : w ∈ am_W := am_tin (List.mem_append_right _ (List.mem_append_right _ (List.mem_append_left _ (List.mem_of_getElem? h)))) g
theorem am_w4 {i : Nat} {w : Cond} (h : tables_1_4[i]? = some w) (g : goodWord w = true) : w ∈ am_W := am_tin (List.mem_append_right _ (List.mem_append_right _ (List.mem_append_right _ (List.mem_append_left _ (List.mem_of_getElem? h))))) g
theorem am_w5 {i : Nat} {w : Cond} (h : tables_1_5[i]? = some w) (g : goodWord w = true) : w ∈ am_W := am_tin (List.mem_append_right _ (List.mem_append_right _ (List.mem_append_right _ (List.mem_append_right _ (List.mem_append_left _ (List.mem_of_getElem? h)))))) g
theorem am_w6 {i : Nat} {w : Cond} (h : tables_1_6[i]? = some w) (g : goodWord w = true) : w ∈ am_W := am_tin (List.mem_append_right _ (List.mem_append_right _ (List.mem_append_right _ (List.mem_append_right _ (List.mem_append_right _ (List.mem_append_left _ (List.mem_of_getElem? h))))))) g
theorem am_w7 {i : Nat} {w : Cond} (h : tables_1_7[i]? = some w) (g : goodWord w = true) : w ∈ am_W := am_tin (List.mem_append_right _ (List.mem_append_right _ (List.mem_append_right _ (List.mem_append_right _ (List.mem_append_right _ (List.mem_append_right _ (List.mem_of_getElem? h))))))) g
-- lw_privs_1 ++ (lw_privs_2 ++ (lw_privs_3 ++ (lw_privs_4 ++ (lw_privs_5 ++ (lw_privs_6 ++ (lw_privs_7))))))
theorem am_wp1 {i n : Nat} {y : MethodName} (h : lw_privs_1[i]? = some (y, n)) : Cond.selects y.cls y y ∈ am_W := List.mem_filter.mpr ⟨List.mem_append_left _ (List.mem_map.mpr ⟨(y, n), List.mem_append_left _ (List.mem_of_getElem? h), rfl⟩), rfl⟩
theorem am_wp2 {i n : Nat} {y : MethodName} (h : lw_privs_2[i]? = some (y, n)) : Cond.selects y.cls y y ∈ am_W := List.mem_filter.mpr ⟨List.mem_append_left _ (List.mem_map.mpr ⟨(y, n), List.mem_append_right _ (List.mem_append_left _ (List.mem_of_getElem? h)), rfl⟩), rfl⟩
theorem am_wp3 {i n : Nat} {y : MethodName} (h : lw_privs_3[i]? = some (y, n)) : Cond.selects y.cls y y ∈ am_W := List.mem_filter.mpr ⟨List.mem_append_left _ (List.mem_map.mpr ⟨(y, n), List.mem_append_right _ (List.mem_append_right _ (List.mem_append_left _ (List.mem_of_getElem? h))), rfl⟩), rfl⟩
theorem am_wp4 {i n : Nat} {y : MethodName} (h : lw_privs_4[i]? = some (y, n)) : Cond.selects y.cls y y ∈ am_W := List.mem_filter.mpr ⟨List.mem_append_left _ (List.mem_map.mpr ⟨(y, n), List.mem_append_right _ (List.mem_append_right _ (List.mem_append_right _ (List.mem_append_left _ (List.mem_of_getElem? h)))), rfl⟩), rfl⟩
theorem am_wp5 {i n : Nat} {y : MethodName} (h : lw_privs_5[i]? = some (y, n)) : Cond.selects y.cls y y ∈ am_W := List.mem_filter.mpr ⟨List.mem_append_left _ (List.mem_map.mpr ⟨(y, n), List.mem_append_right _ (List.mem_append_right _ (List.mem_append_right _ (List.mem_append_right _ (List.mem_append_left _ (List.mem_of_getElem? h))))), rfl⟩), rfl⟩
theorem am_wp6 {i n : Nat} {y : MethodName} (h : lw_privs_6[i]? = some (y, n)) : Cond.selects y.cls y y ∈ am_W := List.mem_filter.mpr ⟨List.mem_append_left _ (List.mem_map.mpr ⟨(y, n), List.mem_append_right _ (List.mem_append_right _ (List.mem_append_right _ (List.mem_append_right _ (List.mem_append_right _ (List.mem_append_left _ (List.mem_of_getElem? h)))))), rfl⟩), rfl⟩
theorem am_wp7 {i n : Nat} {y : MethodName} (h : lw_privs_7[i]? = some (y, n)) : Cond.selects y.cls y y ∈ am_W := List.mem_filter.mpr ⟨List.mem_append_left _ (List.mem_map.mpr ⟨(y, n), List.mem_append_right _ (List.mem_append_right _ (List.mem_append_right _ (List.mem_append_right _ (List.mem_append_right _ (List.mem_append_right _ (List.mem_of_getElem? h)))))), rfl⟩), rfl⟩
def am_tyf (c : Nat) : Nat → FieldType := ([tyX0, tyX1, tyX2, tyX3, tyX4, tyX5, tyX6, tyX7, tyX8, tyX9, tyX10] : List (Nat → FieldType)).getD c tyX0
def am_yn (y : Nat) : MethodName := am_Y.getD y yX0_init
def am_by (y : Nat) : ByteArray := am_B.getD y cX0_init
def am_mi (y : Nat) : am_Info := am_MT.getD y am_m0
/-- static methods -/
def am_sta (y : Nat) : Bool := ([140, 141, 142, 143, 167, 207, 226] : List Nat).contains y
def am_bn (b : Nat) : MethodName := ([Lib.objectInit, Lib.Math.max.name, Lib.Math.min.name, Lib.Math.abs.name, arraycopyName, yJ0_charAt_5068e] : List MethodName).getD b Lib.objectInit
def am_stn (a : Nat) : String := (["", "UNTOLD", "LEAST", "MOST"] : List String).getD a ""
theorem am_bw0 : Cond.instanceMethod Lib.objectInit ∈ am_W := am_w1 (i := 25) rfl rfl
theorem am_bw1 : Cond.code Lib.objectInit ⟨#[0xb1]⟩ 1 none ∈ am_W := am_w1 (i := 26) rfl rfl
theorem am_bw2 : Cond.initialized "java/lang/Math" ∈ am_W := am_w1 (i := 12) rfl rfl
theorem am_bw3 : Cond.initialized "java/lang/System" ∈ am_W := am_w1 (i := 17) rfl rfl
theorem am_bw4 : Cond.static Lib.Math.max.name ∈ am_W := am_w2 (i := 219) rfl rfl
theorem am_bw5 : Cond.code Lib.Math.max.name Lib.Math.max.code 2 (some .int) ∈ am_W := am_w2 (i := 220) rfl rfl
theorem am_bw6 : Cond.static Lib.Math.min.name ∈ am_W := am_w3 (i := 156) rfl rfl
theorem am_bw7 : Cond.code Lib.Math.min.name Lib.Math.min.code 2 (some .int) ∈ am_W := am_w3 (i := 157) rfl rfl
theorem am_bw8 : Cond.static Lib.Math.abs.name ∈ am_W := am_w3 (i := 153) rfl rfl
theorem am_bw9 : Cond.code Lib.Math.abs.name Lib.Math.abs.code 1 (some .int) ∈ am_W := am_w3 (i := 154) rfl rfl
theorem am_bw10 : Cond.native arraycopyName ∈ am_W := am_w3 (i := 113) rfl rfl
theorem am_bw11 : Cond.static arraycopyName ∈ am_W := am_w3 (i := 112) rfl rfl
theorem am_bw12 : Cond.arrayClass .int ∈ am_W := am_w1 (i := 57) rfl rfl
theorem am_bw13 : Cond.arrayClass .byte ∈ am_W := am_w1 (i := 56) rfl rfl
theorem am_bw14 : Cond.arrayClass .boolean ∈ am_W := am_w2 (i := 140) rfl rfl
theorem am_bw15 : Cond.arrayClass .long ∈ am_W := am_w6 (i := 21) rfl rfl
theorem am_lay0 : ∀ w ∈ u_ws RX0 TX0 5, w ∈ am_W := (List.forall_mem_cons.mpr ⟨am_w1 (i := 77) rfl rfl, (List.forall_mem_cons.mpr ⟨am_w1 (i := 79) rfl rfl, (List.forall_mem_cons.mpr ⟨am_w1 (i := 81) rfl rfl, (List.forall_mem_cons.mpr ⟨am_w1 (i := 83) rfl rfl, (List.forall_mem_cons.mpr ⟨am_w1 (i := 85) rfl rfl, (fun _ h => absurd h List.not_mem_nil)⟩)⟩)⟩)⟩)⟩)
set_option maxRecDepth 100000 in
theorem am_lay1 : ∀ w ∈ u_ws RX1 TX1 18, w ∈ am_W := (List.forall_mem_cons.mpr ⟨am_w2 (i := 44) rfl rfl, (List.forall_mem_cons.mpr ⟨am_w2 (i := 46) rfl rfl, (List.forall_mem_cons.mpr ⟨am_w2 (i := 48) rfl rfl, (List.forall_mem_cons.mpr ⟨am_w2 (i := 50) rfl rfl, (List.forall_mem_cons.mpr ⟨am_w2 (i := 52) rfl rfl, (List.forall_mem_cons.mpr ⟨am_w2 (i := 54) rfl rfl, (List.forall_mem_cons.mpr ⟨am_w2 (i := 56) rfl rfl, (List.forall_mem_cons.mpr ⟨am_w2 (i := 58) rfl rfl, (List.forall_mem_cons.mpr ⟨am_w2 (i := 60) rfl rfl, (List.forall_mem_cons.mpr ⟨am_w2 (i := 62) rfl rfl, (List.forall_mem_cons.mpr ⟨am_w2 (i := 64) rfl rfl, (List.forall_mem_cons.mpr ⟨am_w2 (i := 66) rfl rfl, (List.forall_mem_cons.mpr ⟨am_w2 (i := 68) rfl rfl, (List.forall_mem_cons.mpr ⟨am_w2 (i := 70) rfl rfl, (List.forall_mem_cons.mpr ⟨am_w2 (i := 72) rfl rfl, (List.forall_mem_cons.mpr ⟨am_w2 (i := 74) rfl rfl, (List.forall_mem_cons.mpr ⟨am_w2 (i := 76) rfl rfl, (List.forall_mem_cons.mpr ⟨am_w2 (i := 78) rfl rfl, (fun _ h => absurd h List.not_mem_nil)⟩)⟩)⟩)⟩)⟩)⟩)⟩)⟩)⟩)⟩)⟩)⟩)⟩)⟩)⟩)⟩)⟩)⟩)
theorem am_lay2 : ∀ w ∈ u_ws RX2 TX2 3, w ∈ am_W := (List.forall_mem_cons.mpr ⟨am_w2 (i := 119) rfl rfl, (List.forall_mem_cons.mpr ⟨am_w2 (i := 121) rfl rfl, (List.forall_mem_cons.mpr ⟨am_w2 (i := 123) rfl rfl, (fun _ h => absurd h List.not_mem_nil)⟩)⟩)⟩)
theorem am_lay3 : ∀ w ∈ u_ws RX3 TX3 10, w ∈ am_W := (List.forall_mem_cons.mpr ⟨am_w1 (i := 134) rfl rfl, (List.forall_mem_cons.mpr ⟨am_w1 (i := 136) rfl rfl, (List.forall_mem_cons.mpr ⟨am_w1 (i := 138) rfl rfl, (List.forall_mem_cons.mpr ⟨am_w1 (i := 140) rfl rfl, (List.forall_mem_cons.mpr ⟨am_w1 (i := 142) rfl rfl, (List.forall_mem_cons.mpr ⟨am_w1 (i := 144) rfl rfl, (List.forall_mem_cons.mpr ⟨am_w1 (i := 146) rfl rfl, (List.forall_mem_cons.mpr ⟨am_w1 (i := 148) rfl rfl, (List.forall_mem_cons.mpr ⟨am_w1 (i := 150) rfl rfl, (List.forall_mem_cons.mpr ⟨am_w1 (i := 152) rfl rfl, (fun _ h => absurd h List.not_mem_nil)⟩)⟩)⟩)⟩)⟩)⟩)⟩)⟩)⟩)⟩)
theorem am_lay4 : ∀ w ∈ u_ws RX4 TX4 11, w ∈ am_W := (List.forall_mem_cons.mpr ⟨am_w1 (i := 228) rfl rfl, (List.forall_mem_cons.mpr ⟨am_w1 (i := 230) rfl rfl, (List.forall_mem_cons.mpr ⟨am_w1 (i := 232) rfl rfl, (List.forall_mem_cons.mpr ⟨am_w1 (i := 234) rfl rfl, (List.forall_mem_cons.mpr ⟨am_w1 (i := 236) rfl rfl, (List.forall_mem_cons.mpr ⟨am_w1 (i := 238) rfl rfl, (List.forall_mem_cons.mpr ⟨am_w2 (i := 0) rfl rfl, (List.forall_mem_cons.mpr ⟨am_w2 (i := 2) rfl rfl, (List.forall_mem_cons.mpr ⟨am_w2 (i := 4) rfl rfl, (List.forall_mem_cons.mpr ⟨am_w2 (i := 6) rfl rfl, (List.forall_mem_cons.mpr ⟨am_w2 (i := 8) rfl rfl, (fun _ h => absurd h List.not_mem_nil)⟩)⟩)⟩)⟩)⟩)⟩)⟩)⟩)⟩)⟩)⟩)
theorem am_lay5 : ∀ w ∈ u_ws RX5 TX5 9, w ∈ am_W := (List.forall_mem_cons.mpr ⟨am_w1 (i := 171) rfl rfl, (List.forall_mem_cons.mpr ⟨am_w1 (i := 173) rfl rfl, (List.forall_mem_cons.mpr ⟨am_w1 (i := 175) rfl rfl, (List.forall_mem_cons.mpr ⟨am_w1 (i := 177) rfl rfl, (List.forall_mem_cons.mpr ⟨am_w1 (i := 179) rfl rfl, (List.forall_mem_cons.mpr ⟨am_w1 (i := 181) rfl rfl, (List.forall_mem_cons.mpr ⟨am_w1 (i := 183) rfl rfl, (List.forall_mem_cons.mpr ⟨am_w1 (i := 185) rfl rfl, (List.forall_mem_cons.mpr ⟨am_w1 (i := 187) rfl rfl, (fun _ h => absurd h List.not_mem_nil)⟩)⟩)⟩)⟩)⟩)⟩)⟩)⟩)⟩)
theorem am_lay6 : ∀ w ∈ u_ws RX6 TX6 2, w ∈ am_W := (List.forall_mem_cons.mpr ⟨am_w2 (i := 135) rfl rfl, (List.forall_mem_cons.mpr ⟨am_w2 (i := 137) rfl rfl, (fun _ h => absurd h List.not_mem_nil)⟩)⟩)
theorem am_lay7 : ∀ w ∈ u_ws RX7 TX7 6, w ∈ am_W := (List.forall_mem_cons.mpr ⟨am_w1 (i := 43) rfl rfl, (List.forall_mem_cons.mpr ⟨am_w1 (i := 45) rfl rfl, (List.forall_mem_cons.mpr ⟨am_w1 (i := 47) rfl rfl, (List.forall_mem_cons.mpr ⟨am_w1 (i := 49) rfl rfl, (List.forall_mem_cons.mpr ⟨am_w1 (i := 51) rfl rfl, (List.forall_mem_cons.mpr ⟨am_w1 (i := 53) rfl rfl, (fun _ h => absurd h List.not_mem_nil)⟩)⟩)⟩)⟩)⟩)⟩)
theorem am_lay8 : ∀ w ∈ u_ws RX8 TX8 6, w ∈ am_W := (List.forall_mem_cons.mpr ⟨am_w2 (i := 96) rfl rfl, (List.forall_mem_cons.mpr ⟨am_w2 (i := 98) rfl rfl, (List.forall_mem_cons.mpr ⟨am_w2 (i := 100) rfl rfl, (List.forall_mem_cons.mpr ⟨am_w2 (i := 102) rfl rfl, (List.forall_mem_cons.mpr ⟨am_w2 (i := 104) rfl rfl, (List.forall_mem_cons.mpr ⟨am_w2 (i := 106) rfl rfl, (fun _ h => absurd h List.not_mem_nil)⟩)⟩)⟩)⟩)⟩)⟩)
theorem am_lay9 : ∀ w ∈ u_ws RX9 TX9 9, w ∈ am_W := (List.forall_mem_cons.mpr ⟨am_w2 (i := 150) rfl rfl, (List.forall_mem_cons.mpr ⟨am_w2 (i := 152) rfl rfl, (List.forall_mem_cons.mpr ⟨am_w2 (i := 154) rfl rfl, (List.forall_mem_cons.mpr ⟨am_w2 (i := 156) rfl rfl, (List.forall_mem_cons.mpr ⟨am_w2 (i := 158) rfl rfl, (List.forall_mem_cons.mpr ⟨am_w2 (i := 160) rfl rfl, (List.forall_mem_cons.mpr ⟨am_w2 (i := 162) rfl rfl, (List.forall_mem_cons.mpr ⟨am_w2 (i := 164) rfl rfl, (List.forall_mem_cons.mpr ⟨am_w2 (i := 166) rfl rfl, (fun _ h => absurd h List.not_mem_nil)⟩)⟩)⟩)⟩)⟩)⟩)⟩)⟩)⟩)
set_option maxRecDepth 100000 in
theorem am_lay10 : ∀ w ∈ u_ws RX10 TX10 67, w ∈ am_W := (List.forall_mem_cons.mpr ⟨am_w5 (i := 126) rfl rfl, (List.forall_mem_cons.mpr ⟨am_w5 (i := 128) rfl rfl, (List.forall_mem_cons.mpr ⟨am_w5 (i := 130) rfl rfl, (List.forall_mem_cons.mpr ⟨am_w5 (i := 132) rfl rfl, (List.forall_mem_cons.mpr ⟨am_w5 (i := 134) rfl rfl, (List.forall_mem_cons.mpr ⟨am_w5 (i := 136) rfl rfl, (List.forall_mem_cons.mpr ⟨am_w5 (i := 138) rfl rfl, (List.forall_mem_cons.mpr ⟨am_w5 (i := 140) rfl rfl, (List.forall_mem_cons.mpr ⟨am_w5 (i := 142) rfl rfl, (List.forall_mem_cons.mpr ⟨am_w5 (i := 144) rfl rfl, (List.forall_mem_cons.mpr ⟨am_w5 (i := 146) rfl rfl, (List.forall_mem_cons.mpr ⟨am_w5 (i := 148) rfl rfl, (List.forall_mem_cons.mpr ⟨am_w5 (i := 150) rfl rfl, (List.forall_mem_cons.mpr ⟨am_w5 (i := 152) rfl rfl, (List.forall_mem_cons.mpr ⟨am_w5 (i := 154) rfl rfl, (List.forall_mem_cons.mpr ⟨am_w5 (i := 156) rfl rfl, (List.forall_mem_cons.mpr ⟨am_w5 (i := 158) rfl rfl, (List.forall_mem_cons.mpr ⟨am_w5 (i := 160) rfl rfl, (List.forall_mem_cons.mpr ⟨am_w5 (i := 162) rfl rfl, (List.forall_mem_cons.mpr ⟨am_w5 (i := 164) rfl rfl, (List.forall_mem_cons.mpr ⟨am_w5 (i := 166) rfl rfl, (List.forall_mem_cons.mpr ⟨am_w5 (i := 168) rfl rfl, (List.forall_mem_cons.mpr ⟨am_w5 (i := 170) rfl rfl, (List.forall_mem_cons.mpr ⟨am_w5 (i := 172) rfl rfl, (List.forall_mem_cons.mpr ⟨am_w5 (i := 174) rfl rfl, (List.forall_mem_cons.mpr ⟨am_w5 (i := 176) rfl rfl, (List.forall_mem_cons.mpr ⟨am_w5 (i := 178) rfl rfl, (List.forall_mem_cons.mpr ⟨am_w5 (i := 180) rfl rfl, (List.forall_mem_cons.mpr ⟨am_w5 (i := 182) rfl rfl, (List.forall_mem_cons.mpr ⟨am_w5 (i := 184) rfl rfl, (List.forall_mem_cons.mpr ⟨am_w5 (i := 186) rfl rfl, (List.forall_mem_cons.mpr ⟨am_w5 (i := 188) rfl rfl, (List.forall_mem_cons.mpr ⟨am_w5 (i := 190) rfl rfl, (List.forall_mem_cons.mpr ⟨am_w5 (i := 192) rfl rfl, (List.forall_mem_cons.mpr ⟨am_w5 (i := 194) rfl rfl, (List.forall_mem_cons.mpr ⟨am_w5 (i := 196) rfl rfl, (List.forall_mem_cons.mpr ⟨am_w5 (i := 198) rfl rfl, (List.forall_mem_cons.mpr ⟨am_w5 (i := 200) rfl rfl, (List.forall_mem_cons.mpr ⟨am_w5 (i := 202) rfl rfl, (List.forall_mem_cons.mpr ⟨am_w5 (i := 204) rfl rfl, (List.forall_mem_cons.mpr ⟨am_w5 (i := 206) rfl rfl, (List.forall_mem_cons.mpr ⟨am_w5 (i := 208) rfl rfl, (List.forall_mem_cons.mpr ⟨am_w5 (i := 210) rfl rfl, (List.forall_mem_cons.mpr ⟨am_w5 (i := 212) rfl rfl, (List.forall_mem_cons.mpr ⟨am_w5 (i := 214) rfl rfl, (List.forall_mem_cons.mpr ⟨am_w5 (i := 216) rfl rfl, (List.forall_mem_cons.mpr ⟨am_w5 (i := 218) rfl rfl, (List.forall_mem_cons.mpr ⟨am_w5 (i := 220) rfl rfl, (List.forall_mem_cons.mpr ⟨am_w5 (i := 222) rfl rfl, (List.forall_mem_cons.mpr ⟨am_w5 (i := 224) rfl rfl, (List.forall_mem_cons.mpr ⟨am_w5 (i := 226) rfl rfl, (List.forall_mem_cons.mpr ⟨am_w5 (i := 228) rfl rfl, (List.forall_mem_cons.mpr ⟨am_w5 (i := 230) rfl rfl, (List.forall_mem_cons.mpr ⟨am_w5 (i := 232) rfl rfl, (List.forall_mem_cons.mpr ⟨am_w5 (i := 234) rfl rfl, (List.forall_mem_cons.mpr ⟨am_w5 (i := 236) rfl rfl, (List.forall_mem_cons.mpr ⟨am_w5 (i := 238) rfl rfl, (List.forall_mem_cons.mpr ⟨am_w6 (i := 0) rfl rfl, (List.forall_mem_cons.mpr ⟨am_w6 (i := 2) rfl rfl, (List.forall_mem_cons.mpr ⟨am_w6 (i := 4) rfl rfl, (List.forall_mem_cons.mpr ⟨am_w6 (i := 6) rfl rfl, (List.forall_mem_cons.mpr ⟨am_w6 (i := 8) rfl rfl, (List.forall_mem_cons.mpr ⟨am_w6 (i := 10) rfl rfl, (List.forall_mem_cons.mpr ⟨am_w6 (i := 12) rfl rfl, (List.forall_mem_cons.mpr ⟨am_w6 (i := 14) rfl rfl, (List.forall_mem_cons.mpr ⟨am_w6 (i := 16) rfl rfl, (List.forall_mem_cons.mpr ⟨am_w6 (i := 18) rfl rfl, (fun _ h => absurd h List.not_mem_nil)⟩)⟩)⟩)⟩)⟩)⟩)⟩)⟩)⟩)⟩)⟩)⟩)⟩)⟩)⟩)⟩)⟩)⟩)⟩)⟩)⟩)⟩)⟩)⟩)⟩)⟩)⟩)⟩)⟩)⟩)⟩)⟩)⟩)⟩)⟩)⟩)⟩)⟩)⟩)⟩)⟩)⟩)⟩)⟩)⟩)⟩)⟩)⟩)⟩)⟩)⟩)⟩)⟩)⟩)⟩)⟩)⟩)⟩)⟩)⟩)⟩)⟩)⟩)⟩)⟩)⟩)⟩)
theorem am_lay : ∀ c, c < 11 → ∀ w ∈ u_ws (am_cls c).1 (am_cls c).2.1 (am_cls c).2.2, w ∈ am_W := by
  intro c hc
  rcases (show c = 0 ∨ c = 1 ∨ c = 2 ∨ c = 3 ∨ c = 4 ∨ c = 5 ∨ c = 6 ∨ c = 7 ∨ c = 8 ∨ c = 9 ∨ c = 10 by omega) with rfl | rfl | rfl | rfl | rfl | rfl | rfl | rfl | rfl | rfl | rfl <;> first | exact am_lay0 | exact am_lay1 | exact am_lay2 | exact am_lay3 | exact am_lay4 | exact am_lay5 | exact am_lay6 | exact am_lay7 | exact am_lay8 | exact am_lay9 | exact am_lay10 
theorem am_ini0 : Cond.initialized RX0 ∈ am_W ∧ Cond.instantiable RX0 5 ∈ am_W := ⟨am_w1 (i := 4) rfl rfl, am_w1 (i := 65) rfl rfl⟩
theorem am_ini1 : Cond.initialized RX1 ∈ am_W ∧ Cond.instantiable RX1 18 ∈ am_W := ⟨am_w1 (i := 7) rfl rfl, am_w2 (i := 12) rfl rfl⟩
theorem am_ini2 : Cond.initialized RX2 ∈ am_W ∧ Cond.instantiable RX2 3 ∈ am_W := ⟨am_w1 (i := 9) rfl rfl, am_w2 (i := 110) rfl rfl⟩
theorem am_ini3 : Cond.initialized RX3 ∈ am_W ∧ Cond.instantiable RX3 10 ∈ am_W := ⟨am_w1 (i := 3) rfl rfl, am_w1 (i := 59) rfl rfl⟩
theorem am_ini4 : Cond.initialized RX4 ∈ am_W ∧ Cond.instantiable RX4 11 ∈ am_W := ⟨am_w1 (i := 6) rfl rfl, am_w1 (i := 191) rfl rfl⟩
theorem am_ini5 : Cond.initialized RX5 ∈ am_W ∧ Cond.instantiable RX5 9 ∈ am_W := ⟨am_w1 (i := 5) rfl rfl, am_w1 (i := 156) rfl rfl⟩
theorem am_ini6 : Cond.initialized RX6 ∈ am_W ∧ Cond.instantiable RX6 2 ∈ am_W := ⟨am_w1 (i := 10) rfl rfl, am_w2 (i := 127) rfl rfl⟩
theorem am_ini7 : Cond.initialized RX7 ∈ am_W ∧ Cond.instantiable RX7 6 ∈ am_W := ⟨am_w1 (i := 2) rfl rfl, am_w1 (i := 28) rfl rfl⟩
theorem am_ini8 : Cond.initialized RX8 ∈ am_W ∧ Cond.instantiable RX8 6 ∈ am_W := ⟨am_w1 (i := 8) rfl rfl, am_w2 (i := 82) rfl rfl⟩
theorem am_ini9 : Cond.initialized RX9 ∈ am_W ∧ Cond.instantiable RX9 9 ∈ am_W := ⟨am_w1 (i := 1) rfl rfl, am_w1 (i := 20) rfl rfl⟩
theorem am_ini10 : Cond.initialized RX10 ∈ am_W ∧ Cond.instantiable RX10 67 ∈ am_W := ⟨am_w1 (i := 11) rfl rfl, am_w5 (i := 40) rfl rfl⟩
theorem am_ini : ∀ c, c < 11 → Cond.initialized (am_cls c).1 ∈ am_W ∧ Cond.instantiable (am_cls c).1 (am_cls c).2.2 ∈ am_W := by
  intro c hc
  rcases (show c = 0 ∨ c = 1 ∨ c = 2 ∨ c = 3 ∨ c = 4 ∨ c = 5 ∨ c = 6 ∨ c = 7 ∨ c = 8 ∨ c = 9 ∨ c = 10 by omega) with rfl | rfl | rfl | rfl | rfl | rfl | rfl | rfl | rfl | rfl | rfl <;> first | exact am_ini0 | exact am_ini1 | exact am_ini2 | exact am_ini3 | exact am_ini4 | exact am_ini5 | exact am_ini6 | exact am_ini7 | exact am_ini8 | exact am_ini9 | exact am_ini10 
theorem am_nm : ∀ c, c < 11 → ∀ a, a < (am_cls c).2.2 → ∀ b, b < (am_cls c).2.2 → a ≠ b → ((am_cls c).2.1 a).2.1 ≠ ((am_cls c).2.1 b).2.1 := by
  intro c hc
  rcases (show c = 0 ∨ c = 1 ∨ c = 2 ∨ c = 3 ∨ c = 4 ∨ c = 5 ∨ c = 6 ∨ c = 7 ∨ c = 8 ∨ c = 9 ∨ c = 10 by omega) with rfl | rfl | rfl | rfl | rfl | rfl | rfl | rfl | rfl | rfl | rfl <;> first | exact nmX0 | exact nmX1 | exact nmX2 | exact nmX3 | exact nmX4 | exact nmX5 | exact nmX6 | exact nmX7 | exact nmX8 | exact nmX9 | exact nmX10 
theorem am_typ : ∀ c, c < 11 → ∀ k, k < (am_cls c).2.2 → parseFieldDescriptor ((am_cls c).2.1 k).2.2.1 = some (am_tyf c k) := by
  intro c hc
  rcases (show c = 0 ∨ c = 1 ∨ c = 2 ∨ c = 3 ∨ c = 4 ∨ c = 5 ∨ c = 6 ∨ c = 7 ∨ c = 8 ∨ c = 9 ∨ c = 10 by omega) with rfl | rfl | rfl | rfl | rfl | rfl | rfl | rfl | rfl | rfl | rfl <;> first | exact tyX0_ok | exact tyX1_ok | exact tyX2_ok | exact tyX3_ok | exact tyX4_ok | exact tyX5_ok | exact tyX6_ok | exact tyX7_ok | exact tyX8_ok | exact tyX9_ok | exact tyX10_ok 
def am_fok (o ix ci j : Nat) : Prop := (ci < 11 ∧ j < (am_cls ci).2.2 ∧ ((am_cls ci).2.1 j).1 = (am_cls ci).1) ∧ Cond.fieldLink (am_own o) ix (am_cls ci).1 ((am_cls ci).2.1 j).2.1 ((am_cls ci).2.1 j).2.2.1 ∈ am_W
def am_FT (o : Nat) : List (Nat × Nat × Nat) := ([[(9, 0, 0), (15, 0, 1), (18, 0, 2), (21, 0, 3), (24, 0, 4)], [(101, 3, 2), (86, 3, 5), (98, 3, 6), (201, 4, 1), (204, 4, 2), (195, 4, 3), (177, 4, 4), (171, 4, 5), (165, 4, 6), (132, 4, 7), (180, 4, 8), (72, 4, 9), (168, 4, 10), (30, 1, 0), (34, 1, 1), (43, 1, 2), (9, 1, 3), (15, 1, 4), (18, 1, 5), (119, 1, 6), (79, 1, 7), (46, 1, 8), (57, 1, 9), (21, 1, 10), (24, 1, 11), (183, 1, 12), (50, 1, 13), (27, 1, 14), (131, 1, 15), (135, 1, 16), (60, 1, 17)], [(9, 2, 0), (15, 2, 1), (25, 2, 2)], [(47, 0, 4), (9, 3, 0), (15, 3, 1), (18, 3, 2), (24, 3, 3), (28, 3, 4), (34, 3, 5), (53, 3, 6), (38, 3, 7), (41, 3, 8), (44, 3, 9)], [(56, 3, 0), (124, 3, 1), (95, 3, 3), (51, 3, 5), (86, 3, 7), (69, 3, 8), (114, 3, 9), (27, 4, 0), (9, 4, 1), (15, 4, 2), (18, 4, 3), (21, 4, 4), (24, 4, 5), (48, 4, 6), (34, 4, 7), (38, 4, 8), (41, 4, 9), (44, 4, 10)], [(81, 7, 2), (146, 7, 3), (153, 7, 4), (122, 0, 4), (99, 3, 0), (106, 3, 1), (109, 3, 2), (118, 3, 3), (84, 3, 5), (112, 3, 6), (52, 3, 7), (57, 3, 8), (60, 3, 9), (17, 5, 0), (21, 5, 1), (11, 5, 2), (78, 5, 3), (35, 5, 4), (32, 5, 5), (25, 5, 6), (66, 5, 7), (69, 5, 8)], [(9, 6, 0), (15, 6, 1)], [(9, 7, 0), (28, 7, 1), (15, 7, 2), (19, 7, 3), (22, 7, 4), (25, 7, 5)], [(62, 3, 2), (57, 3, 6), (80, 3, 8), (21, 8, 0), (30, 8, 1), (9, 8, 2), (15, 8, 3), (18, 8, 4), (34, 8, 5)], [(74, 7, 1), (144, 3, 2), (230, 3, 5), (274, 3, 6), (268, 3, 7), (164, 3, 8), (271, 3, 9), (102, 5, 6), (109, 4, 1), (113, 4, 2), (126, 4, 3), (161, 4, 7), (265, 4, 8), (129, 4, 9), (280, 4, 10), (193, 1, 5), (190, 1, 6), (187, 1, 7), (239, 1, 11), (236, 1, 12), (207, 1, 15), (208, 1, 16), (99, 8, 5), (284, 2, 2), (258, 6, 1), (12, 9, 0), (19, 9, 1), (23, 9, 2), (31, 9, 3), (40, 9, 4), (49, 9, 5), (56, 9, 6), (63, 9, 7), (70, 9, 8)], [(13, 10, 1), (160, 10, 2), (17, 10, 3), (166, 10, 4), (20, 10, 5), (24, 10, 6), (27, 10, 7), (30, 10, 8), (34, 10, 9), (175, 10, 10), (200, 10, 11), (224, 10, 12), (197, 10, 13), (203, 10, 14), (206, 10, 15), (209, 10, 16), (37, 10, 17), (227, 10, 18), (230, 10, 19), (233, 10, 20), (40, 10, 21), (43, 10, 22), (46, 10, 23), (49, 10, 24), (52, 10, 25), (55, 10, 26), (58, 10, 27), (61, 10, 28), (64, 10, 29), (67, 10, 30), (70, 10, 31), (236, 10, 32), (73, 10, 33), (77, 10, 34), (80, 10, 35), (83, 10, 36), (86, 10, 37), (239, 10, 38), (89, 10, 39), (92, 10, 40), (95, 10, 41), (281, 10, 42), (98, 10, 43), (101, 10, 44), (294, 10, 45), (104, 10, 46), (107, 10, 47), (110, 10, 48), (302, 10, 49), (245, 10, 50), (113, 10, 51), (116, 10, 52), (119, 10, 53), (122, 10, 54), (125, 10, 55), (128, 10, 56), (371, 10, 57), (368, 10, 58), (365, 10, 59), (131, 10, 60), (134, 10, 61), (248, 10, 62), (137, 10, 63), (140, 10, 64), (143, 10, 65), (146, 10, 66)], [], []] : List (List (Nat × Nat × Nat))).getD o []
theorem am_FT_ok0 : ∀ q ∈ am_FT 0, am_fok 0 q.1 q.2.1 q.2.2 := (List.forall_mem_cons.mpr ⟨⟨⟨Nat.le_of_ble_eq_true rfl, Nat.le_of_ble_eq_true rfl, rfl⟩, am_w1 (i := 70) rfl rfl⟩, (List.forall_mem_cons.mpr ⟨⟨⟨Nat.le_of_ble_eq_true rfl, Nat.le_of_ble_eq_true rfl, rfl⟩, am_w1 (i := 71) rfl rfl⟩, (List.forall_mem_cons.mpr ⟨⟨⟨Nat.le_of_ble_eq_true rfl, Nat.le_of_ble_eq_true rfl, rfl⟩, am_w1 (i := 72) rfl rfl⟩, (List.forall_mem_cons.mpr ⟨⟨⟨Nat.le_of_ble_eq_true rfl, Nat.le_of_ble_eq_true rfl, rfl⟩, am_w1 (i := 73) rfl rfl⟩, (List.forall_mem_cons.mpr ⟨⟨⟨Nat.le_of_ble_eq_true rfl, Nat.le_of_ble_eq_true rfl, rfl⟩, am_w1 (i := 74) rfl rfl⟩, (fun _ h => absurd h List.not_mem_nil)⟩)⟩)⟩)⟩)⟩)
set_option maxRecDepth 100000 in
theorem am_FT_ok1 : ∀ q ∈ am_FT 1, am_fok 1 q.1 q.2.1 q.2.2 := (List.forall_mem_cons.mpr ⟨⟨⟨Nat.le_of_ble_eq_true rfl, Nat.le_of_ble_eq_true rfl, rfl⟩, am_w1 (i := 105) rfl rfl⟩, (List.forall_mem_cons.mpr ⟨⟨⟨Nat.le_of_ble_eq_true rfl, Nat.le_of_ble_eq_true rfl, rfl⟩, am_w1 (i := 114) rfl rfl⟩, (List.forall_mem_cons.mpr ⟨⟨⟨Nat.le_of_ble_eq_true rfl, Nat.le_of_ble_eq_true rfl, rfl⟩, am_w1 (i := 118) rfl rfl⟩, (List.forall_mem_cons.mpr ⟨⟨⟨Nat.le_of_ble_eq_true rfl, Nat.le_of_ble_eq_true rfl, rfl⟩, am_w1 (i := 203) rfl rfl⟩, (List.forall_mem_cons.mpr ⟨⟨⟨Nat.le_of_ble_eq_true rfl, Nat.le_of_ble_eq_true rfl, rfl⟩, am_w1 (i := 206) rfl rfl⟩, (List.forall_mem_cons.mpr ⟨⟨⟨Nat.le_of_ble_eq_true rfl, Nat.le_of_ble_eq_true rfl, rfl⟩, am_w1 (i := 209) rfl rfl⟩, (List.forall_mem_cons.mpr ⟨⟨⟨Nat.le_of_ble_eq_true rfl, Nat.le_of_ble_eq_true rfl, rfl⟩, am_w1 (i := 211) rfl rfl⟩, (List.forall_mem_cons.mpr ⟨⟨⟨Nat.le_of_ble_eq_true rfl, Nat.le_of_ble_eq_true rfl, rfl⟩, am_w1 (i := 213) rfl rfl⟩, (List.forall_mem_cons.mpr ⟨⟨⟨Nat.le_of_ble_eq_true rfl, Nat.le_of_ble_eq_true rfl, rfl⟩, am_w1 (i := 215) rfl rfl⟩, (List.forall_mem_cons.mpr ⟨⟨⟨Nat.le_of_ble_eq_true rfl, Nat.le_of_ble_eq_true rfl, rfl⟩, am_w1 (i := 217) rfl rfl⟩, (List.forall_mem_cons.mpr ⟨⟨⟨Nat.le_of_ble_eq_true rfl, Nat.le_of_ble_eq_true rfl, rfl⟩, am_w1 (i := 220) rfl rfl⟩, (List.forall_mem_cons.mpr ⟨⟨⟨Nat.le_of_ble_eq_true rfl, Nat.le_of_ble_eq_true rfl, rfl⟩, am_w1 (i := 223) rfl rfl⟩, (List.forall_mem_cons.mpr ⟨⟨⟨Nat.le_of_ble_eq_true rfl, Nat.le_of_ble_eq_true rfl, rfl⟩, am_w1 (i := 226) rfl rfl⟩, (List.forall_mem_cons.mpr ⟨⟨⟨Nat.le_of_ble_eq_true rfl, Nat.le_of_ble_eq_true rfl, rfl⟩, am_w2 (i := 19) rfl rfl⟩, (List.forall_mem_cons.mpr ⟨⟨⟨Nat.le_of_ble_eq_true rfl, Nat.le_of_ble_eq_true rfl, rfl⟩, am_w2 (i := 20) rfl rfl⟩, (List.forall_mem_cons.mpr ⟨⟨⟨Nat.le_of_ble_eq_true rfl, Nat.le_of_ble_eq_true rfl, rfl⟩, am_w2 (i := 21) rfl rfl⟩, (List.forall_mem_cons.mpr ⟨⟨⟨Nat.le_of_ble_eq_true rfl, Nat.le_of_ble_eq_true rfl, rfl⟩, am_w2 (i := 22) rfl rfl⟩, (List.forall_mem_cons.mpr ⟨⟨⟨Nat.le_of_ble_eq_true rfl, Nat.le_of_ble_eq_true rfl, rfl⟩, am_w2 (i := 23) rfl rfl⟩, (List.forall_mem_cons.mpr ⟨⟨⟨Nat.le_of_ble_eq_true rfl, Nat.le_of_ble_eq_true rfl, rfl⟩, am_w2 (i := 24) rfl rfl⟩, (List.forall_mem_cons.mpr ⟨⟨⟨Nat.le_of_ble_eq_true rfl, Nat.le_of_ble_eq_true rfl, rfl⟩, am_w2 (i := 26) rfl rfl⟩, (List.forall_mem_cons.mpr ⟨⟨⟨Nat.le_of_ble_eq_true rfl, Nat.le_of_ble_eq_true rfl, rfl⟩, am_w2 (i := 28) rfl rfl⟩, (List.forall_mem_cons.mpr ⟨⟨⟨Nat.le_of_ble_eq_true rfl, Nat.le_of_ble_eq_true rfl, rfl⟩, am_w2 (i := 30) rfl rfl⟩, (List.forall_mem_cons.mpr ⟨⟨⟨Nat.le_of_ble_eq_true rfl, Nat.le_of_ble_eq_true rfl, rfl⟩, am_w2 (i := 31) rfl rfl⟩, (List.forall_mem_cons.mpr ⟨⟨⟨Nat.le_of_ble_eq_true rfl, Nat.le_of_ble_eq_true rfl, rfl⟩, am_w2 (i := 32) rfl rfl⟩, (List.forall_mem_cons.mpr ⟨⟨⟨Nat.le_of_ble_eq_true rfl, Nat.le_of_ble_eq_true rfl, rfl⟩, am_w2 (i := 33) rfl rfl⟩, (List.forall_mem_cons.mpr ⟨⟨⟨Nat.le_of_ble_eq_true rfl, Nat.le_of_ble_eq_true rfl, rfl⟩, am_w2 (i := 35) rfl rfl⟩, (List.forall_mem_cons.mpr ⟨⟨⟨Nat.le_of_ble_eq_true rfl, Nat.le_of_ble_eq_true rfl, rfl⟩, am_w2 (i := 37) rfl rfl⟩, (List.forall_mem_cons.mpr ⟨⟨⟨Nat.le_of_ble_eq_true rfl, Nat.le_of_ble_eq_true rfl, rfl⟩, am_w2 (i := 38) rfl rfl⟩, (List.forall_mem_cons.mpr ⟨⟨⟨Nat.le_of_ble_eq_true rfl, Nat.le_of_ble_eq_true rfl, rfl⟩, am_w2 (i := 39) rfl rfl⟩, (List.forall_mem_cons.mpr ⟨⟨⟨Nat.le_of_ble_eq_true rfl, Nat.le_of_ble_eq_true rfl, rfl⟩, am_w2 (i := 41) rfl rfl⟩, (List.forall_mem_cons.mpr ⟨⟨⟨Nat.le_of_ble_eq_true rfl, Nat.le_of_ble_eq_true rfl, rfl⟩, am_w2 (i := 43) rfl rfl⟩, (fun _ h => absurd h List.not_mem_nil)⟩)⟩)⟩)⟩)⟩)⟩)⟩)⟩)⟩)⟩)⟩)⟩)⟩)⟩)⟩)⟩)⟩)⟩)⟩)⟩)⟩)⟩)⟩)⟩)⟩)⟩)⟩)⟩)⟩)⟩)⟩)
theorem am_FT_ok2 : ∀ q ∈ am_FT 2, am_fok 2 q.1 q.2.1 q.2.2 := (List.forall_mem_cons.mpr ⟨⟨⟨Nat.le_of_ble_eq_true rfl, Nat.le_of_ble_eq_true rfl, rfl⟩, am_w2 (i := 115) rfl rfl⟩, (List.forall_mem_cons.mpr ⟨⟨⟨Nat.le_of_ble_eq_true rfl, Nat.le_of_ble_eq_true rfl, rfl⟩, am_w2 (i := 116) rfl rfl⟩, (List.forall_mem_cons.mpr ⟨⟨⟨Nat.le_of_ble_eq_true rfl, Nat.le_of_ble_eq_true rfl, rfl⟩, am_w2 (i := 117) rfl rfl⟩, (fun _ h => absurd h List.not_mem_nil)⟩)⟩)⟩)
set_option maxRecDepth 100000 in
theorem am_FT_ok3 : ∀ q ∈ am_FT 3, am_fok 3 q.1 q.2.1 q.2.2 := (List.forall_mem_cons.mpr ⟨⟨⟨Nat.le_of_ble_eq_true rfl, Nat.le_of_ble_eq_true rfl, rfl⟩, am_w1 (i := 75) rfl rfl⟩, (List.forall_mem_cons.mpr ⟨⟨⟨Nat.le_of_ble_eq_true rfl, Nat.le_of_ble_eq_true rfl, rfl⟩, am_w1 (i := 96) rfl rfl⟩, (List.forall_mem_cons.mpr ⟨⟨⟨Nat.le_of_ble_eq_true rfl, Nat.le_of_ble_eq_true rfl, rfl⟩, am_w1 (i := 99) rfl rfl⟩, (List.forall_mem_cons.mpr ⟨⟨⟨Nat.le_of_ble_eq_true rfl, Nat.le_of_ble_eq_true rfl, rfl⟩, am_w1 (i := 102) rfl rfl⟩, (List.forall_mem_cons.mpr ⟨⟨⟨Nat.le_of_ble_eq_true rfl, Nat.le_of_ble_eq_true rfl, rfl⟩, am_w1 (i := 107) rfl rfl⟩, (List.forall_mem_cons.mpr ⟨⟨⟨Nat.le_of_ble_eq_true rfl, Nat.le_of_ble_eq_true rfl, rfl⟩, am_w1 (i := 110) rfl rfl⟩, (List.forall_mem_cons.mpr ⟨⟨⟨Nat.le_of_ble_eq_true rfl, Nat.le_of_ble_eq_true rfl, rfl⟩, am_w1 (i := 111) rfl rfl⟩, (List.forall_mem_cons.mpr ⟨⟨⟨Nat.le_of_ble_eq_true rfl, Nat.le_of_ble_eq_true rfl, rfl⟩, am_w1 (i := 116) rfl rfl⟩, (List.forall_mem_cons.mpr ⟨⟨⟨Nat.le_of_ble_eq_true rfl, Nat.le_of_ble_eq_true rfl, rfl⟩, am_w1 (i := 121) rfl rfl⟩, (List.forall_mem_cons.mpr ⟨⟨⟨Nat.le_of_ble_eq_true rfl, Nat.le_of_ble_eq_true rfl, rfl⟩, am_w1 (i := 125) rfl rfl⟩, (List.forall_mem_cons.mpr ⟨⟨⟨Nat.le_of_ble_eq_true rfl, Nat.le_of_ble_eq_true rfl, rfl⟩, am_w1 (i := 130) rfl rfl⟩, (fun _ h => absurd h List.not_mem_nil)⟩)⟩)⟩)⟩)⟩)⟩)⟩)⟩)⟩)⟩)⟩)
set_option maxRecDepth 100000 in
theorem am_FT_ok4 : ∀ q ∈ am_FT 4, am_fok 4 q.1 q.2.1 q.2.2 := (List.forall_mem_cons.mpr ⟨⟨⟨Nat.le_of_ble_eq_true rfl, Nat.le_of_ble_eq_true rfl, rfl⟩, am_w1 (i := 97) rfl rfl⟩, (List.forall_mem_cons.mpr ⟨⟨⟨Nat.le_of_ble_eq_true rfl, Nat.le_of_ble_eq_true rfl, rfl⟩, am_w1 (i := 101) rfl rfl⟩, (List.forall_mem_cons.mpr ⟨⟨⟨Nat.le_of_ble_eq_true rfl, Nat.le_of_ble_eq_true rfl, rfl⟩, am_w1 (i := 109) rfl rfl⟩, (List.forall_mem_cons.mpr ⟨⟨⟨Nat.le_of_ble_eq_true rfl, Nat.le_of_ble_eq_true rfl, rfl⟩, am_w1 (i := 112) rfl rfl⟩, (List.forall_mem_cons.mpr ⟨⟨⟨Nat.le_of_ble_eq_true rfl, Nat.le_of_ble_eq_true rfl, rfl⟩, am_w1 (i := 123) rfl rfl⟩, (List.forall_mem_cons.mpr ⟨⟨⟨Nat.le_of_ble_eq_true rfl, Nat.le_of_ble_eq_true rfl, rfl⟩, am_w1 (i := 128) rfl rfl⟩, (List.forall_mem_cons.mpr ⟨⟨⟨Nat.le_of_ble_eq_true rfl, Nat.le_of_ble_eq_true rfl, rfl⟩, am_w1 (i := 132) rfl rfl⟩, (List.forall_mem_cons.mpr ⟨⟨⟨Nat.le_of_ble_eq_true rfl, Nat.le_of_ble_eq_true rfl, rfl⟩, am_w1 (i := 200) rfl rfl⟩, (List.forall_mem_cons.mpr ⟨⟨⟨Nat.le_of_ble_eq_true rfl, Nat.le_of_ble_eq_true rfl, rfl⟩, am_w1 (i := 201) rfl rfl⟩, (List.forall_mem_cons.mpr ⟨⟨⟨Nat.le_of_ble_eq_true rfl, Nat.le_of_ble_eq_true rfl, rfl⟩, am_w1 (i := 204) rfl rfl⟩, (List.forall_mem_cons.mpr ⟨⟨⟨Nat.le_of_ble_eq_true rfl, Nat.le_of_ble_eq_true rfl, rfl⟩, am_w1 (i := 207) rfl rfl⟩, (List.forall_mem_cons.mpr ⟨⟨⟨Nat.le_of_ble_eq_true rfl, Nat.le_of_ble_eq_true rfl, rfl⟩, am_w1 (i := 210) rfl rfl⟩, (List.forall_mem_cons.mpr ⟨⟨⟨Nat.le_of_ble_eq_true rfl, Nat.le_of_ble_eq_true rfl, rfl⟩, am_w1 (i := 212) rfl rfl⟩, (List.forall_mem_cons.mpr ⟨⟨⟨Nat.le_of_ble_eq_true rfl, Nat.le_of_ble_eq_true rfl, rfl⟩, am_w1 (i := 214) rfl rfl⟩, (List.forall_mem_cons.mpr ⟨⟨⟨Nat.le_of_ble_eq_true rfl, Nat.le_of_ble_eq_true rfl, rfl⟩, am_w1 (i := 216) rfl rfl⟩, (List.forall_mem_cons.mpr ⟨⟨⟨Nat.le_of_ble_eq_true rfl, Nat.le_of_ble_eq_true rfl, rfl⟩, am_w1 (i := 219) rfl rfl⟩, (List.forall_mem_cons.mpr ⟨⟨⟨Nat.le_of_ble_eq_true rfl, Nat.le_of_ble_eq_true rfl, rfl⟩, am_w1 (i := 222) rfl rfl⟩, (List.forall_mem_cons.mpr ⟨⟨⟨Nat.le_of_ble_eq_true rfl, Nat.le_of_ble_eq_true rfl, rfl⟩, am_w1 (i := 225) rfl rfl⟩, (fun _ h => absurd h List.not_mem_nil)⟩)⟩)⟩)⟩)⟩)⟩)⟩)⟩)⟩)⟩)⟩)⟩)⟩)⟩)⟩)⟩)⟩)⟩)
set_option maxRecDepth 100000 in
theorem am_FT_ok5 : ∀ q ∈ am_FT 5, am_fok 5 q.1 q.2.1 q.2.2 := (List.forall_mem_cons.mpr ⟨⟨⟨Nat.le_of_ble_eq_true rfl, Nat.le_of_ble_eq_true rfl, rfl⟩, am_w1 (i := 37) rfl rfl⟩, (List.forall_mem_cons.mpr ⟨⟨⟨Nat.le_of_ble_eq_true rfl, Nat.le_of_ble_eq_true rfl, rfl⟩, am_w1 (i := 39) rfl rfl⟩, (List.forall_mem_cons.mpr ⟨⟨⟨Nat.le_of_ble_eq_true rfl, Nat.le_of_ble_eq_true rfl, rfl⟩, am_w1 (i := 41) rfl rfl⟩, (List.forall_mem_cons.mpr ⟨⟨⟨Nat.le_of_ble_eq_true rfl, Nat.le_of_ble_eq_true rfl, rfl⟩, am_w1 (i := 76) rfl rfl⟩, (List.forall_mem_cons.mpr ⟨⟨⟨Nat.le_of_ble_eq_true rfl, Nat.le_of_ble_eq_true rfl, rfl⟩, am_w1 (i := 98) rfl rfl⟩, (List.forall_mem_cons.mpr ⟨⟨⟨Nat.le_of_ble_eq_true rfl, Nat.le_of_ble_eq_true rfl, rfl⟩, am_w1 (i := 100) rfl rfl⟩, (List.forall_mem_cons.mpr ⟨⟨⟨Nat.le_of_ble_eq_true rfl, Nat.le_of_ble_eq_true rfl, rfl⟩, am_w1 (i := 104) rfl rfl⟩, (List.forall_mem_cons.mpr ⟨⟨⟨Nat.le_of_ble_eq_true rfl, Nat.le_of_ble_eq_true rfl, rfl⟩, am_w1 (i := 108) rfl rfl⟩, (List.forall_mem_cons.mpr ⟨⟨⟨Nat.le_of_ble_eq_true rfl, Nat.le_of_ble_eq_true rfl, rfl⟩, am_w1 (i := 113) rfl rfl⟩, (List.forall_mem_cons.mpr ⟨⟨⟨Nat.le_of_ble_eq_true rfl, Nat.le_of_ble_eq_true rfl, rfl⟩, am_w1 (i := 119) rfl rfl⟩, (List.forall_mem_cons.mpr ⟨⟨⟨Nat.le_of_ble_eq_true rfl, Nat.le_of_ble_eq_true rfl, rfl⟩, am_w1 (i := 122) rfl rfl⟩, (List.forall_mem_cons.mpr ⟨⟨⟨Nat.le_of_ble_eq_true rfl, Nat.le_of_ble_eq_true rfl, rfl⟩, am_w1 (i := 126) rfl rfl⟩, (List.forall_mem_cons.mpr ⟨⟨⟨Nat.le_of_ble_eq_true rfl, Nat.le_of_ble_eq_true rfl, rfl⟩, am_w1 (i := 131) rfl rfl⟩, (List.forall_mem_cons.mpr ⟨⟨⟨Nat.le_of_ble_eq_true rfl, Nat.le_of_ble_eq_true rfl, rfl⟩, am_w1 (i := 161) rfl rfl⟩, (List.forall_mem_cons.mpr ⟨⟨⟨Nat.le_of_ble_eq_true rfl, Nat.le_of_ble_eq_true rfl, rfl⟩, am_w1 (i := 162) rfl rfl⟩, (List.forall_mem_cons.mpr ⟨⟨⟨Nat.le_of_ble_eq_true rfl, Nat.le_of_ble_eq_true rfl, rfl⟩, am_w1 (i := 163) rfl rfl⟩, (List.forall_mem_cons.mpr ⟨⟨⟨Nat.le_of_ble_eq_true rfl, Nat.le_of_ble_eq_true rfl, rfl⟩, am_w1 (i := 164) rfl rfl⟩, (List.forall_mem_cons.mpr ⟨⟨⟨Nat.le_of_ble_eq_true rfl, Nat.le_of_ble_eq_true rfl, rfl⟩, am_w1 (i := 165) rfl rfl⟩, (List.forall_mem_cons.mpr ⟨⟨⟨Nat.le_of_ble_eq_true rfl, Nat.le_of_ble_eq_true rfl, rfl⟩, am_w1 (i := 166) rfl rfl⟩, (List.forall_mem_cons.mpr ⟨⟨⟨Nat.le_of_ble_eq_true rfl, Nat.le_of_ble_eq_true rfl, rfl⟩, am_w1 (i := 167) rfl rfl⟩, (List.forall_mem_cons.mpr ⟨⟨⟨Nat.le_of_ble_eq_true rfl, Nat.le_of_ble_eq_true rfl, rfl⟩, am_w1 (i := 169) rfl rfl⟩, (List.forall_mem_cons.mpr ⟨⟨⟨Nat.le_of_ble_eq_true rfl, Nat.le_of_ble_eq_true rfl, rfl⟩, am_w1 (i := 170) rfl rfl⟩, (fun _ h => absurd h List.not_mem_nil)⟩)⟩)⟩)⟩)⟩)⟩)⟩)⟩)⟩)⟩)⟩)⟩)⟩)⟩)⟩)⟩)⟩)⟩)⟩)⟩)⟩)⟩)
theorem am_FT_ok6 : ∀ q ∈ am_FT 6, am_fok 6 q.1 q.2.1 q.2.2 := (List.forall_mem_cons.mpr ⟨⟨⟨Nat.le_of_ble_eq_true rfl, Nat.le_of_ble_eq_true rfl, rfl⟩, am_w2 (i := 132) rfl rfl⟩, (List.forall_mem_cons.mpr ⟨⟨⟨Nat.le_of_ble_eq_true rfl, Nat.le_of_ble_eq_true rfl, rfl⟩, am_w2 (i := 133) rfl rfl⟩, (fun _ h => absurd h List.not_mem_nil)⟩)⟩)
theorem am_FT_ok7 : ∀ q ∈ am_FT 7, am_fok 7 q.1 q.2.1 q.2.2 := (List.forall_mem_cons.mpr ⟨⟨⟨Nat.le_of_ble_eq_true rfl, Nat.le_of_ble_eq_true rfl, rfl⟩, am_w1 (i := 33) rfl rfl⟩, (List.forall_mem_cons.mpr ⟨⟨⟨Nat.le_of_ble_eq_true rfl, Nat.le_of_ble_eq_true rfl, rfl⟩, am_w1 (i := 35) rfl rfl⟩, (List.forall_mem_cons.mpr ⟨⟨⟨Nat.le_of_ble_eq_true rfl, Nat.le_of_ble_eq_true rfl, rfl⟩, am_w1 (i := 36) rfl rfl⟩, (List.forall_mem_cons.mpr ⟨⟨⟨Nat.le_of_ble_eq_true rfl, Nat.le_of_ble_eq_true rfl, rfl⟩, am_w1 (i := 38) rfl rfl⟩, (List.forall_mem_cons.mpr ⟨⟨⟨Nat.le_of_ble_eq_true rfl, Nat.le_of_ble_eq_true rfl, rfl⟩, am_w1 (i := 40) rfl rfl⟩, (List.forall_mem_cons.mpr ⟨⟨⟨Nat.le_of_ble_eq_true rfl, Nat.le_of_ble_eq_true rfl, rfl⟩, am_w1 (i := 42) rfl rfl⟩, (fun _ h => absurd h List.not_mem_nil)⟩)⟩)⟩)⟩)⟩)⟩)
set_option maxRecDepth 100000 in
theorem am_FT_ok8 : ∀ q ∈ am_FT 8, am_fok 8 q.1 q.2.1 q.2.2 := (List.forall_mem_cons.mpr ⟨⟨⟨Nat.le_of_ble_eq_true rfl, Nat.le_of_ble_eq_true rfl, rfl⟩, am_w1 (i := 103) rfl rfl⟩, (List.forall_mem_cons.mpr ⟨⟨⟨Nat.le_of_ble_eq_true rfl, Nat.le_of_ble_eq_true rfl, rfl⟩, am_w1 (i := 117) rfl rfl⟩, (List.forall_mem_cons.mpr ⟨⟨⟨Nat.le_of_ble_eq_true rfl, Nat.le_of_ble_eq_true rfl, rfl⟩, am_w1 (i := 127) rfl rfl⟩, (List.forall_mem_cons.mpr ⟨⟨⟨Nat.le_of_ble_eq_true rfl, Nat.le_of_ble_eq_true rfl, rfl⟩, am_w2 (i := 89) rfl rfl⟩, (List.forall_mem_cons.mpr ⟨⟨⟨Nat.le_of_ble_eq_true rfl, Nat.le_of_ble_eq_true rfl, rfl⟩, am_w2 (i := 90) rfl rfl⟩, (List.forall_mem_cons.mpr ⟨⟨⟨Nat.le_of_ble_eq_true rfl, Nat.le_of_ble_eq_true rfl, rfl⟩, am_w2 (i := 91) rfl rfl⟩, (List.forall_mem_cons.mpr ⟨⟨⟨Nat.le_of_ble_eq_true rfl, Nat.le_of_ble_eq_true rfl, rfl⟩, am_w2 (i := 92) rfl rfl⟩, (List.forall_mem_cons.mpr ⟨⟨⟨Nat.le_of_ble_eq_true rfl, Nat.le_of_ble_eq_true rfl, rfl⟩, am_w2 (i := 93) rfl rfl⟩, (List.forall_mem_cons.mpr ⟨⟨⟨Nat.le_of_ble_eq_true rfl, Nat.le_of_ble_eq_true rfl, rfl⟩, am_w2 (i := 94) rfl rfl⟩, (fun _ h => absurd h List.not_mem_nil)⟩)⟩)⟩)⟩)⟩)⟩)⟩)⟩)⟩)
set_option maxRecDepth 100000 in
theorem am_FT_ok9 : ∀ q ∈ am_FT 9, am_fok 9 q.1 q.2.1 q.2.2 := (List.forall_mem_cons.mpr ⟨⟨⟨Nat.le_of_ble_eq_true rfl, Nat.le_of_ble_eq_true rfl, rfl⟩, am_w1 (i := 34) rfl rfl⟩, (List.forall_mem_cons.mpr ⟨⟨⟨Nat.le_of_ble_eq_true rfl, Nat.le_of_ble_eq_true rfl, rfl⟩, am_w1 (i := 106) rfl rfl⟩, (List.forall_mem_cons.mpr ⟨⟨⟨Nat.le_of_ble_eq_true rfl, Nat.le_of_ble_eq_true rfl, rfl⟩, am_w1 (i := 115) rfl rfl⟩, (List.forall_mem_cons.mpr ⟨⟨⟨Nat.le_of_ble_eq_true rfl, Nat.le_of_ble_eq_true rfl, rfl⟩, am_w1 (i := 120) rfl rfl⟩, (List.forall_mem_cons.mpr ⟨⟨⟨Nat.le_of_ble_eq_true rfl, Nat.le_of_ble_eq_true rfl, rfl⟩, am_w1 (i := 124) rfl rfl⟩, (List.forall_mem_cons.mpr ⟨⟨⟨Nat.le_of_ble_eq_true rfl, Nat.le_of_ble_eq_true rfl, rfl⟩, am_w1 (i := 129) rfl rfl⟩, (List.forall_mem_cons.mpr ⟨⟨⟨Nat.le_of_ble_eq_true rfl, Nat.le_of_ble_eq_true rfl, rfl⟩, am_w1 (i := 133) rfl rfl⟩, (List.forall_mem_cons.mpr ⟨⟨⟨Nat.le_of_ble_eq_true rfl, Nat.le_of_ble_eq_true rfl, rfl⟩, am_w1 (i := 168) rfl rfl⟩, (List.forall_mem_cons.mpr ⟨⟨⟨Nat.le_of_ble_eq_true rfl, Nat.le_of_ble_eq_true rfl, rfl⟩, am_w1 (i := 202) rfl rfl⟩, (List.forall_mem_cons.mpr ⟨⟨⟨Nat.le_of_ble_eq_true rfl, Nat.le_of_ble_eq_true rfl, rfl⟩, am_w1 (i := 205) rfl rfl⟩, (List.forall_mem_cons.mpr ⟨⟨⟨Nat.le_of_ble_eq_true rfl, Nat.le_of_ble_eq_true rfl, rfl⟩, am_w1 (i := 208) rfl rfl⟩, (List.forall_mem_cons.mpr ⟨⟨⟨Nat.le_of_ble_eq_true rfl, Nat.le_of_ble_eq_true rfl, rfl⟩, am_w1 (i := 218) rfl rfl⟩, (List.forall_mem_cons.mpr ⟨⟨⟨Nat.le_of_ble_eq_true rfl, Nat.le_of_ble_eq_true rfl, rfl⟩, am_w1 (i := 221) rfl rfl⟩, (List.forall_mem_cons.mpr ⟨⟨⟨Nat.le_of_ble_eq_true rfl, Nat.le_of_ble_eq_true rfl, rfl⟩, am_w1 (i := 224) rfl rfl⟩, (List.forall_mem_cons.mpr ⟨⟨⟨Nat.le_of_ble_eq_true rfl, Nat.le_of_ble_eq_true rfl, rfl⟩, am_w1 (i := 227) rfl rfl⟩, (List.forall_mem_cons.mpr ⟨⟨⟨Nat.le_of_ble_eq_true rfl, Nat.le_of_ble_eq_true rfl, rfl⟩, am_w2 (i := 25) rfl rfl⟩, (List.forall_mem_cons.mpr ⟨⟨⟨Nat.le_of_ble_eq_true rfl, Nat.le_of_ble_eq_true rfl, rfl⟩, am_w2 (i := 27) rfl rfl⟩, (List.forall_mem_cons.mpr ⟨⟨⟨Nat.le_of_ble_eq_true rfl, Nat.le_of_ble_eq_true rfl, rfl⟩, am_w2 (i := 29) rfl rfl⟩, (List.forall_mem_cons.mpr ⟨⟨⟨Nat.le_of_ble_eq_true rfl, Nat.le_of_ble_eq_true rfl, rfl⟩, am_w2 (i := 34) rfl rfl⟩, (List.forall_mem_cons.mpr ⟨⟨⟨Nat.le_of_ble_eq_true rfl, Nat.le_of_ble_eq_true rfl, rfl⟩, am_w2 (i := 36) rfl rfl⟩, (List.forall_mem_cons.mpr ⟨⟨⟨Nat.le_of_ble_eq_true rfl, Nat.le_of_ble_eq_true rfl, rfl⟩, am_w2 (i := 40) rfl rfl⟩, (List.forall_mem_cons.mpr ⟨⟨⟨Nat.le_of_ble_eq_true rfl, Nat.le_of_ble_eq_true rfl, rfl⟩, am_w2 (i := 42) rfl rfl⟩, (List.forall_mem_cons.mpr ⟨⟨⟨Nat.le_of_ble_eq_true rfl, Nat.le_of_ble_eq_true rfl, rfl⟩, am_w2 (i := 95) rfl rfl⟩, (List.forall_mem_cons.mpr ⟨⟨⟨Nat.le_of_ble_eq_true rfl, Nat.le_of_ble_eq_true rfl, rfl⟩, am_w2 (i := 118) rfl rfl⟩, (List.forall_mem_cons.mpr ⟨⟨⟨Nat.le_of_ble_eq_true rfl, Nat.le_of_ble_eq_true rfl, rfl⟩, am_w2 (i := 134) rfl rfl⟩, (List.forall_mem_cons.mpr ⟨⟨⟨Nat.le_of_ble_eq_true rfl, Nat.le_of_ble_eq_true rfl, rfl⟩, am_w2 (i := 141) rfl rfl⟩, (List.forall_mem_cons.mpr ⟨⟨⟨Nat.le_of_ble_eq_true rfl, Nat.le_of_ble_eq_true rfl, rfl⟩, am_w2 (i := 142) rfl rfl⟩, (List.forall_mem_cons.mpr ⟨⟨⟨Nat.le_of_ble_eq_true rfl, Nat.le_of_ble_eq_true rfl, rfl⟩, am_w2 (i := 143) rfl rfl⟩, (List.forall_mem_cons.mpr ⟨⟨⟨Nat.le_of_ble_eq_true rfl, Nat.le_of_ble_eq_true rfl, rfl⟩, am_w2 (i := 144) rfl rfl⟩, (List.forall_mem_cons.mpr ⟨⟨⟨Nat.le_of_ble_eq_true rfl, Nat.le_of_ble_eq_true rfl, rfl⟩, am_w2 (i := 145) rfl rfl⟩, (List.forall_mem_cons.mpr ⟨⟨⟨Nat.le_of_ble_eq_true rfl, Nat.le_of_ble_eq_true rfl, rfl⟩, am_w2 (i := 146) rfl rfl⟩, (List.forall_mem_cons.mpr ⟨⟨⟨Nat.le_of_ble_eq_true rfl, Nat.le_of_ble_eq_true rfl, rfl⟩, am_w2 (i := 147) rfl rfl⟩, (List.forall_mem_cons.mpr ⟨⟨⟨Nat.le_of_ble_eq_true rfl, Nat.le_of_ble_eq_true rfl, rfl⟩, am_w2 (i := 148) rfl rfl⟩, (List.forall_mem_cons.mpr ⟨⟨⟨Nat.le_of_ble_eq_true rfl, Nat.le_of_ble_eq_true rfl, rfl⟩, am_w2 (i := 149) rfl rfl⟩, (fun _ h => absurd h List.not_mem_nil)⟩)⟩)⟩)⟩)⟩)⟩)⟩)⟩)⟩)⟩)⟩)⟩)⟩)⟩)⟩)⟩)⟩)⟩)⟩)⟩)⟩)⟩)⟩)⟩)⟩)⟩)⟩)⟩)⟩)⟩)⟩)⟩)⟩)⟩)
set_option maxRecDepth 100000 in
theorem am_FT_ok10 : ∀ q ∈ am_FT 10, am_fok 10 q.1 q.2.1 q.2.2 := (List.forall_mem_cons.mpr ⟨⟨⟨Nat.le_of_ble_eq_true rfl, Nat.le_of_ble_eq_true rfl, rfl⟩, am_w5 (i := 60) rfl rfl⟩, (List.forall_mem_cons.mpr ⟨⟨⟨Nat.le_of_ble_eq_true rfl, Nat.le_of_ble_eq_true rfl, rfl⟩, am_w5 (i := 61) rfl rfl⟩, (List.forall_mem_cons.mpr ⟨⟨⟨Nat.le_of_ble_eq_true rfl, Nat.le_of_ble_eq_true rfl, rfl⟩, am_w5 (i := 62) rfl rfl⟩, (List.forall_mem_cons.mpr ⟨⟨⟨Nat.le_of_ble_eq_true rfl, Nat.le_of_ble_eq_true rfl, rfl⟩, am_w5 (i := 63) rfl rfl⟩, (List.forall_mem_cons.mpr ⟨⟨⟨Nat.le_of_ble_eq_true rfl, Nat.le_of_ble_eq_true rfl, rfl⟩, am_w5 (i := 64) rfl rfl⟩, (List.forall_mem_cons.mpr ⟨⟨⟨Nat.le_of_ble_eq_true rfl, Nat.le_of_ble_eq_true rfl, rfl⟩, am_w5 (i := 65) rfl rfl⟩, (List.forall_mem_cons.mpr ⟨⟨⟨Nat.le_of_ble_eq_true rfl, Nat.le_of_ble_eq_true rfl, rfl⟩, am_w5 (i := 66) rfl rfl⟩, (List.forall_mem_cons.mpr ⟨⟨⟨Nat.le_of_ble_eq_true rfl, Nat.le_of_ble_eq_true rfl, rfl⟩, am_w5 (i := 67) rfl rfl⟩, (List.forall_mem_cons.mpr ⟨⟨⟨Nat.le_of_ble_eq_true rfl, Nat.le_of_ble_eq_true rfl, rfl⟩, am_w5 (i := 68) rfl rfl⟩, (List.forall_mem_cons.mpr ⟨⟨⟨Nat.le_of_ble_eq_true rfl, Nat.le_of_ble_eq_true rfl, rfl⟩, am_w5 (i := 69) rfl rfl⟩, (List.forall_mem_cons.mpr ⟨⟨⟨Nat.le_of_ble_eq_true rfl, Nat.le_of_ble_eq_true rfl, rfl⟩, am_w5 (i := 70) rfl rfl⟩, (List.forall_mem_cons.mpr ⟨⟨⟨Nat.le_of_ble_eq_true rfl, Nat.le_of_ble_eq_true rfl, rfl⟩, am_w5 (i := 71) rfl rfl⟩, (List.forall_mem_cons.mpr ⟨⟨⟨Nat.le_of_ble_eq_true rfl, Nat.le_of_ble_eq_true rfl, rfl⟩, am_w5 (i := 72) rfl rfl⟩, (List.forall_mem_cons.mpr ⟨⟨⟨Nat.le_of_ble_eq_true rfl, Nat.le_of_ble_eq_true rfl, rfl⟩, am_w5 (i := 73) rfl rfl⟩, (List.forall_mem_cons.mpr ⟨⟨⟨Nat.le_of_ble_eq_true rfl, Nat.le_of_ble_eq_true rfl, rfl⟩, am_w5 (i := 74) rfl rfl⟩, (List.forall_mem_cons.mpr ⟨⟨⟨Nat.le_of_ble_eq_true rfl, Nat.le_of_ble_eq_true rfl, rfl⟩, am_w5 (i := 75) rfl rfl⟩, (List.forall_mem_cons.mpr ⟨⟨⟨Nat.le_of_ble_eq_true rfl, Nat.le_of_ble_eq_true rfl, rfl⟩, am_w5 (i := 76) rfl rfl⟩, (List.forall_mem_cons.mpr ⟨⟨⟨Nat.le_of_ble_eq_true rfl, Nat.le_of_ble_eq_true rfl, rfl⟩, am_w5 (i := 77) rfl rfl⟩, (List.forall_mem_cons.mpr ⟨⟨⟨Nat.le_of_ble_eq_true rfl, Nat.le_of_ble_eq_true rfl, rfl⟩, am_w5 (i := 78) rfl rfl⟩, (List.forall_mem_cons.mpr ⟨⟨⟨Nat.le_of_ble_eq_true rfl, Nat.le_of_ble_eq_true rfl, rfl⟩, am_w5 (i := 79) rfl rfl⟩, (List.forall_mem_cons.mpr ⟨⟨⟨Nat.le_of_ble_eq_true rfl, Nat.le_of_ble_eq_true rfl, rfl⟩, am_w5 (i := 80) rfl rfl⟩, (List.forall_mem_cons.mpr ⟨⟨⟨Nat.le_of_ble_eq_true rfl, Nat.le_of_ble_eq_true rfl, rfl⟩, am_w5 (i := 81) rfl rfl⟩, (List.forall_mem_cons.mpr ⟨⟨⟨Nat.le_of_ble_eq_true rfl, Nat.le_of_ble_eq_true rfl, rfl⟩, am_w5 (i := 82) rfl rfl⟩, (List.forall_mem_cons.mpr ⟨⟨⟨Nat.le_of_ble_eq_true rfl, Nat.le_of_ble_eq_true rfl, rfl⟩, am_w5 (i := 83) rfl rfl⟩, (List.forall_mem_cons.mpr ⟨⟨⟨Nat.le_of_ble_eq_true rfl, Nat.le_of_ble_eq_true rfl, rfl⟩, am_w5 (i := 84) rfl rfl⟩, (List.forall_mem_cons.mpr ⟨⟨⟨Nat.le_of_ble_eq_true rfl, Nat.le_of_ble_eq_true rfl, rfl⟩, am_w5 (i := 85) rfl rfl⟩, (List.forall_mem_cons.mpr ⟨⟨⟨Nat.le_of_ble_eq_true rfl, Nat.le_of_ble_eq_true rfl, rfl⟩, am_w5 (i := 86) rfl rfl⟩, (List.forall_mem_cons.mpr ⟨⟨⟨Nat.le_of_ble_eq_true rfl, Nat.le_of_ble_eq_true rfl, rfl⟩, am_w5 (i := 87) rfl rfl⟩, (List.forall_mem_cons.mpr ⟨⟨⟨Nat.le_of_ble_eq_true rfl, Nat.le_of_ble_eq_true rfl, rfl⟩, am_w5 (i := 88) rfl rfl⟩, (List.forall_mem_cons.mpr ⟨⟨⟨Nat.le_of_ble_eq_true rfl, Nat.le_of_ble_eq_true rfl, rfl⟩, am_w5 (i := 89) rfl rfl⟩, (List.forall_mem_cons.mpr ⟨⟨⟨Nat.le_of_ble_eq_true rfl, Nat.le_of_ble_eq_true rfl, rfl⟩, am_w5 (i := 90) rfl rfl⟩, (List.forall_mem_cons.mpr ⟨⟨⟨Nat.le_of_ble_eq_true rfl, Nat.le_of_ble_eq_true rfl, rfl⟩, am_w5 (i := 91) rfl rfl⟩, (List.forall_mem_cons.mpr ⟨⟨⟨Nat.le_of_ble_eq_true rfl, Nat.le_of_ble_eq_true rfl, rfl⟩, am_w5 (i := 92) rfl rfl⟩, (List.forall_mem_cons.mpr ⟨⟨⟨Nat.le_of_ble_eq_true rfl, Nat.le_of_ble_eq_true rfl, rfl⟩, am_w5 (i := 93) rfl rfl⟩, (List.forall_mem_cons.mpr ⟨⟨⟨Nat.le_of_ble_eq_true rfl, Nat.le_of_ble_eq_true rfl, rfl⟩, am_w5 (i := 94) rfl rfl⟩, (List.forall_mem_cons.mpr ⟨⟨⟨Nat.le_of_ble_eq_true rfl, Nat.le_of_ble_eq_true rfl, rfl⟩, am_w5 (i := 95) rfl rfl⟩, (List.forall_mem_cons.mpr ⟨⟨⟨Nat.le_of_ble_eq_true rfl, Nat.le_of_ble_eq_true rfl, rfl⟩, am_w5 (i := 96) rfl rfl⟩, (List.forall_mem_cons.mpr ⟨⟨⟨Nat.le_of_ble_eq_true rfl, Nat.le_of_ble_eq_true rfl, rfl⟩, am_w5 (i := 97) rfl rfl⟩, (List.forall_mem_cons.mpr ⟨⟨⟨Nat.le_of_ble_eq_true rfl, Nat.le_of_ble_eq_true rfl, rfl⟩, am_w5 (i := 98) rfl rfl⟩, (List.forall_mem_cons.mpr ⟨⟨⟨Nat.le_of_ble_eq_true rfl, Nat.le_of_ble_eq_true rfl, rfl⟩, am_w5 (i := 99) rfl rfl⟩, (List.forall_mem_cons.mpr ⟨⟨⟨Nat.le_of_ble_eq_true rfl, Nat.le_of_ble_eq_true rfl, rfl⟩, am_w5 (i := 100) rfl rfl⟩, (List.forall_mem_cons.mpr ⟨⟨⟨Nat.le_of_ble_eq_true rfl, Nat.le_of_ble_eq_true rfl, rfl⟩, am_w5 (i := 101) rfl rfl⟩, (List.forall_mem_cons.mpr ⟨⟨⟨Nat.le_of_ble_eq_true rfl, Nat.le_of_ble_eq_true rfl, rfl⟩, am_w5 (i := 102) rfl rfl⟩, (List.forall_mem_cons.mpr ⟨⟨⟨Nat.le_of_ble_eq_true rfl, Nat.le_of_ble_eq_true rfl, rfl⟩, am_w5 (i := 103) rfl rfl⟩, (List.forall_mem_cons.mpr ⟨⟨⟨Nat.le_of_ble_eq_true rfl, Nat.le_of_ble_eq_true rfl, rfl⟩, am_w5 (i := 104) rfl rfl⟩, (List.forall_mem_cons.mpr ⟨⟨⟨Nat.le_of_ble_eq_true rfl, Nat.le_of_ble_eq_true rfl, rfl⟩, am_w5 (i := 105) rfl rfl⟩, (List.forall_mem_cons.mpr ⟨⟨⟨Nat.le_of_ble_eq_true rfl, Nat.le_of_ble_eq_true rfl, rfl⟩, am_w5 (i := 106) rfl rfl⟩, (List.forall_mem_cons.mpr ⟨⟨⟨Nat.le_of_ble_eq_true rfl, Nat.le_of_ble_eq_true rfl, rfl⟩, am_w5 (i := 107) rfl rfl⟩, (List.forall_mem_cons.mpr ⟨⟨⟨Nat.le_of_ble_eq_true rfl, Nat.le_of_ble_eq_true rfl, rfl⟩, am_w5 (i := 108) rfl rfl⟩, (List.forall_mem_cons.mpr ⟨⟨⟨Nat.le_of_ble_eq_true rfl, Nat.le_of_ble_eq_true rfl, rfl⟩, am_w5 (i := 109) rfl rfl⟩, (List.forall_mem_cons.mpr ⟨⟨⟨Nat.le_of_ble_eq_true rfl, Nat.le_of_ble_eq_true rfl, rfl⟩, am_w5 (i := 110) rfl rfl⟩, (List.forall_mem_cons.mpr ⟨⟨⟨Nat.le_of_ble_eq_true rfl, Nat.le_of_ble_eq_true rfl, rfl⟩, am_w5 (i := 111) rfl rfl⟩, (List.forall_mem_cons.mpr ⟨⟨⟨Nat.le_of_ble_eq_true rfl, Nat.le_of_ble_eq_true rfl, rfl⟩, am_w5 (i := 112) rfl rfl⟩, (List.forall_mem_cons.mpr ⟨⟨⟨Nat.le_of_ble_eq_true rfl, Nat.le_of_ble_eq_true rfl, rfl⟩, am_w5 (i := 113) rfl rfl⟩, (List.forall_mem_cons.mpr ⟨⟨⟨Nat.le_of_ble_eq_true rfl, Nat.le_of_ble_eq_true rfl, rfl⟩, am_w5 (i := 114) rfl rfl⟩, (List.forall_mem_cons.mpr ⟨⟨⟨Nat.le_of_ble_eq_true rfl, Nat.le_of_ble_eq_true rfl, rfl⟩, am_w5 (i := 115) rfl rfl⟩, (List.forall_mem_cons.mpr ⟨⟨⟨Nat.le_of_ble_eq_true rfl, Nat.le_of_ble_eq_true rfl, rfl⟩, am_w5 (i := 116) rfl rfl⟩, (List.forall_mem_cons.mpr ⟨⟨⟨Nat.le_of_ble_eq_true rfl, Nat.le_of_ble_eq_true rfl, rfl⟩, am_w5 (i := 117) rfl rfl⟩, (List.forall_mem_cons.mpr ⟨⟨⟨Nat.le_of_ble_eq_true rfl, Nat.le_of_ble_eq_true rfl, rfl⟩, am_w5 (i := 118) rfl rfl⟩, (List.forall_mem_cons.mpr ⟨⟨⟨Nat.le_of_ble_eq_true rfl, Nat.le_of_ble_eq_true rfl, rfl⟩, am_w5 (i := 119) rfl rfl⟩, (List.forall_mem_cons.mpr ⟨⟨⟨Nat.le_of_ble_eq_true rfl, Nat.le_of_ble_eq_true rfl, rfl⟩, am_w5 (i := 120) rfl rfl⟩, (List.forall_mem_cons.mpr ⟨⟨⟨Nat.le_of_ble_eq_true rfl, Nat.le_of_ble_eq_true rfl, rfl⟩, am_w5 (i := 121) rfl rfl⟩, (List.forall_mem_cons.mpr ⟨⟨⟨Nat.le_of_ble_eq_true rfl, Nat.le_of_ble_eq_true rfl, rfl⟩, am_w5 (i := 122) rfl rfl⟩, (List.forall_mem_cons.mpr ⟨⟨⟨Nat.le_of_ble_eq_true rfl, Nat.le_of_ble_eq_true rfl, rfl⟩, am_w5 (i := 123) rfl rfl⟩, (List.forall_mem_cons.mpr ⟨⟨⟨Nat.le_of_ble_eq_true rfl, Nat.le_of_ble_eq_true rfl, rfl⟩, am_w5 (i := 124) rfl rfl⟩, (List.forall_mem_cons.mpr ⟨⟨⟨Nat.le_of_ble_eq_true rfl, Nat.le_of_ble_eq_true rfl, rfl⟩, am_w5 (i := 125) rfl rfl⟩, (fun _ h => absurd h List.not_mem_nil)⟩)⟩)⟩)⟩)⟩)⟩)⟩)⟩)⟩)⟩)⟩)⟩)⟩)⟩)⟩)⟩)⟩)⟩)⟩)⟩)⟩)⟩)⟩)⟩)⟩)⟩)⟩)⟩)⟩)⟩)⟩)⟩)⟩)⟩)⟩)⟩)⟩)⟩)⟩)⟩)⟩)⟩)⟩)⟩)⟩)⟩)⟩)⟩)⟩)⟩)⟩)⟩)⟩)⟩)⟩)⟩)⟩)⟩)⟩)⟩)⟩)⟩)⟩)⟩)⟩)⟩)
theorem am_FT_ok11 : ∀ q ∈ am_FT 11, am_fok 11 q.1 q.2.1 q.2.2 := (fun _ h => absurd h List.not_mem_nil)
theorem am_FT_ok12 : ∀ q ∈ am_FT 12, am_fok 12 q.1 q.2.1 q.2.2 := (fun _ h => absurd h List.not_mem_nil)
theorem am_FT_ok (o : Nat) : ∀ q ∈ am_FT o, am_fok o q.1 q.2.1 q.2.2 := by
  by_cases h : o < 13
  · rcases (show o = 0 ∨ o = 1 ∨ o = 2 ∨ o = 3 ∨ o = 4 ∨ o = 5 ∨ o = 6 ∨ o = 7 ∨ o = 8 ∨ o = 9 ∨ o = 10 ∨ o = 11 ∨ o = 12 by omega) with rfl | rfl | rfl | rfl | rfl | rfl | rfl | rfl | rfl | rfl | rfl | rfl | rfl <;> first | exact am_FT_ok0 | exact am_FT_ok1 | exact am_FT_ok2 | exact am_FT_ok3 | exact am_FT_ok4 | exact am_FT_ok5 | exact am_FT_ok6 | exact am_FT_ok7 | exact am_FT_ok8 | exact am_FT_ok9 | exact am_FT_ok10 | exact am_FT_ok11 | exact am_FT_ok12 
  · intro q hq
    unfold am_FT at hq
    rw [List.getD_eq_getElem?_getD, List.getElem?_eq_none (by simp; omega)] at hq
    cases hq
def am_SP (o : Nat) : List (Nat × Nat) := ([[], [], [], [(66, 1), (73, 2), (76, 3)], [], [], [], [], [], [], [], [], []] : List (List (Nat × Nat))).getD o []
theorem am_SP_ok0 : ∀ q ∈ am_SP 0, Cond.fieldLink (am_own 0) q.1 "OneClock$Plan" (am_stn q.2) "[I" ∈ am_W := (fun _ h => absurd h List.not_mem_nil)
theorem am_SP_ok1 : ∀ q ∈ am_SP 1, Cond.fieldLink (am_own 1) q.1 "OneClock$Plan" (am_stn q.2) "[I" ∈ am_W := (fun _ h => absurd h List.not_mem_nil)
theorem am_SP_ok2 : ∀ q ∈ am_SP 2, Cond.fieldLink (am_own 2) q.1 "OneClock$Plan" (am_stn q.2) "[I" ∈ am_W := (fun _ h => absurd h List.not_mem_nil)
theorem am_SP_ok3 : ∀ q ∈ am_SP 3, Cond.fieldLink (am_own 3) q.1 "OneClock$Plan" (am_stn q.2) "[I" ∈ am_W := (List.forall_mem_cons.mpr ⟨am_w3 (i := 228) rfl rfl, (List.forall_mem_cons.mpr ⟨am_w3 (i := 234) rfl rfl, (List.forall_mem_cons.mpr ⟨am_w3 (i := 236) rfl rfl, (fun _ h => absurd h List.not_mem_nil)⟩)⟩)⟩)
theorem am_SP_ok4 : ∀ q ∈ am_SP 4, Cond.fieldLink (am_own 4) q.1 "OneClock$Plan" (am_stn q.2) "[I" ∈ am_W := (fun _ h => absurd h List.not_mem_nil)
theorem am_SP_ok5 : ∀ q ∈ am_SP 5, Cond.fieldLink (am_own 5) q.1 "OneClock$Plan" (am_stn q.2) "[I" ∈ am_W := (fun _ h => absurd h List.not_mem_nil)
theorem am_SP_ok6 : ∀ q ∈ am_SP 6, Cond.fieldLink (am_own 6) q.1 "OneClock$Plan" (am_stn q.2) "[I" ∈ am_W := (fun _ h => absurd h List.not_mem_nil)
theorem am_SP_ok7 : ∀ q ∈ am_SP 7, Cond.fieldLink (am_own 7) q.1 "OneClock$Plan" (am_stn q.2) "[I" ∈ am_W := (fun _ h => absurd h List.not_mem_nil)
theorem am_SP_ok8 : ∀ q ∈ am_SP 8, Cond.fieldLink (am_own 8) q.1 "OneClock$Plan" (am_stn q.2) "[I" ∈ am_W := (fun _ h => absurd h List.not_mem_nil)
theorem am_SP_ok9 : ∀ q ∈ am_SP 9, Cond.fieldLink (am_own 9) q.1 "OneClock$Plan" (am_stn q.2) "[I" ∈ am_W := (fun _ h => absurd h List.not_mem_nil)
theorem am_SP_ok10 : ∀ q ∈ am_SP 10, Cond.fieldLink (am_own 10) q.1 "OneClock$Plan" (am_stn q.2) "[I" ∈ am_W := (fun _ h => absurd h List.not_mem_nil)
theorem am_SP_ok11 : ∀ q ∈ am_SP 11, Cond.fieldLink (am_own 11) q.1 "OneClock$Plan" (am_stn q.2) "[I" ∈ am_W := (fun _ h => absurd h List.not_mem_nil)
theorem am_SP_ok12 : ∀ q ∈ am_SP 12, Cond.fieldLink (am_own 12) q.1 "OneClock$Plan" (am_stn q.2) "[I" ∈ am_W := (fun _ h => absurd h List.not_mem_nil)
theorem am_SP_ok (o : Nat) : ∀ q ∈ am_SP o, Cond.fieldLink (am_own o) q.1 "OneClock$Plan" (am_stn q.2) "[I" ∈ am_W := by
  by_cases h : o < 13
  · rcases (show o = 0 ∨ o = 1 ∨ o = 2 ∨ o = 3 ∨ o = 4 ∨ o = 5 ∨ o = 6 ∨ o = 7 ∨ o = 8 ∨ o = 9 ∨ o = 10 ∨ o = 11 ∨ o = 12 by omega) with rfl | rfl | rfl | rfl | rfl | rfl | rfl | rfl | rfl | rfl | rfl | rfl | rfl <;> first | exact am_SP_ok0 | exact am_SP_ok1 | exact am_SP_ok2 | exact am_SP_ok3 | exact am_SP_ok4 | exact am_SP_ok5 | exact am_SP_ok6 | exact am_SP_ok7 | exact am_SP_ok8 | exact am_SP_ok9 | exact am_SP_ok10 | exact am_SP_ok11 | exact am_SP_ok12 
  · intro q hq
    unfold am_SP at hq
    rw [List.getD_eq_getElem?_getD, List.getElem?_eq_none (by simp; omega)] at hq
    cases hq
def am_BT (o : Nat) : List (Nat × Nat) := ([[(3, 0), (28, 4)], [(3, 0), (122, 4)], [(3, 0), (28, 2)], [(3, 0), (60, 4), (79, 2), (85, 1)], [(3, 0), (76, 3), (82, 2), (59, 4), (92, 1)], [(5, 0)], [(3, 0)], [(3, 0), (56, 1), (70, 5)], [(3, 0)], [(3, 0), (167, 2)], [(7, 0)], [], []] : List (List (Nat × Nat))).getD o []
theorem am_BT_ok0 : ∀ q ∈ am_BT 0, Cond.methodLink (am_own 0) q.1 (am_bn q.2) ∈ am_W := (List.forall_mem_cons.mpr ⟨am_w1 (i := 69) rfl rfl, (List.forall_mem_cons.mpr ⟨am_w3 (i := 111) rfl rfl, (fun _ h => absurd h List.not_mem_nil)⟩)⟩)
theorem am_BT_ok1 : ∀ q ∈ am_BT 1, Cond.methodLink (am_own 1) q.1 (am_bn q.2) ∈ am_W := (List.forall_mem_cons.mpr ⟨am_w2 (i := 16) rfl rfl, (List.forall_mem_cons.mpr ⟨am_w4 (i := 64) rfl rfl, (fun _ h => absurd h List.not_mem_nil)⟩)⟩)
theorem am_BT_ok2 : ∀ q ∈ am_BT 2, Cond.methodLink (am_own 2) q.1 (am_bn q.2) ∈ am_W := (List.forall_mem_cons.mpr ⟨am_w2 (i := 114) rfl rfl, (List.forall_mem_cons.mpr ⟨am_w3 (i := 196) rfl rfl, (fun _ h => absurd h List.not_mem_nil)⟩)⟩)
theorem am_BT_ok3 : ∀ q ∈ am_BT 3, Cond.methodLink (am_own 3) q.1 (am_bn q.2) ∈ am_W := (List.forall_mem_cons.mpr ⟨am_w1 (i := 63) rfl rfl, (List.forall_mem_cons.mpr ⟨am_w3 (i := 114) rfl rfl, (List.forall_mem_cons.mpr ⟨am_w3 (i := 238) rfl rfl, (List.forall_mem_cons.mpr ⟨am_w3 (i := 239) rfl rfl, (fun _ h => absurd h List.not_mem_nil)⟩)⟩)⟩)⟩)
theorem am_BT_ok4 : ∀ q ∈ am_BT 4, Cond.methodLink (am_own 4) q.1 (am_bn q.2) ∈ am_W := (List.forall_mem_cons.mpr ⟨am_w1 (i := 195) rfl rfl, (List.forall_mem_cons.mpr ⟨am_w3 (i := 152) rfl rfl, (List.forall_mem_cons.mpr ⟨am_w3 (i := 155) rfl rfl, (List.forall_mem_cons.mpr ⟨am_w3 (i := 195) rfl rfl, (List.forall_mem_cons.mpr ⟨am_w3 (i := 206) rfl rfl, (fun _ h => absurd h List.not_mem_nil)⟩)⟩)⟩)⟩)⟩)
theorem am_BT_ok5 : ∀ q ∈ am_BT 5, Cond.methodLink (am_own 5) q.1 (am_bn q.2) ∈ am_W := (List.forall_mem_cons.mpr ⟨am_w1 (i := 160) rfl rfl, (fun _ h => absurd h List.not_mem_nil)⟩)
theorem am_BT_ok6 : ∀ q ∈ am_BT 6, Cond.methodLink (am_own 6) q.1 (am_bn q.2) ∈ am_W := (List.forall_mem_cons.mpr ⟨am_w2 (i := 131) rfl rfl, (fun _ h => absurd h List.not_mem_nil)⟩)
theorem am_BT_ok7 : ∀ q ∈ am_BT 7, Cond.methodLink (am_own 7) q.1 (am_bn q.2) ∈ am_W := (List.forall_mem_cons.mpr ⟨am_w1 (i := 32) rfl rfl, (List.forall_mem_cons.mpr ⟨am_w2 (i := 218) rfl rfl, (List.forall_mem_cons.mpr ⟨am_w2 (i := 234) rfl rfl, (fun _ h => absurd h List.not_mem_nil)⟩)⟩)⟩)
theorem am_BT_ok8 : ∀ q ∈ am_BT 8, Cond.methodLink (am_own 8) q.1 (am_bn q.2) ∈ am_W := (List.forall_mem_cons.mpr ⟨am_w2 (i := 86) rfl rfl, (fun _ h => absurd h List.not_mem_nil)⟩)
theorem am_BT_ok9 : ∀ q ∈ am_BT 9, Cond.methodLink (am_own 9) q.1 (am_bn q.2) ∈ am_W := (List.forall_mem_cons.mpr ⟨am_w1 (i := 24) rfl rfl, (List.forall_mem_cons.mpr ⟨am_w4 (i := 21) rfl rfl, (fun _ h => absurd h List.not_mem_nil)⟩)⟩)
theorem am_BT_ok10 : ∀ q ∈ am_BT 10, Cond.methodLink (am_own 10) q.1 (am_bn q.2) ∈ am_W := (List.forall_mem_cons.mpr ⟨am_w5 (i := 44) rfl rfl, (fun _ h => absurd h List.not_mem_nil)⟩)
theorem am_BT_ok11 : ∀ q ∈ am_BT 11, Cond.methodLink (am_own 11) q.1 (am_bn q.2) ∈ am_W := (fun _ h => absurd h List.not_mem_nil)
theorem am_BT_ok12 : ∀ q ∈ am_BT 12, Cond.methodLink (am_own 12) q.1 (am_bn q.2) ∈ am_W := (fun _ h => absurd h List.not_mem_nil)
theorem am_BT_ok (o : Nat) : ∀ q ∈ am_BT o, Cond.methodLink (am_own o) q.1 (am_bn q.2) ∈ am_W := by
  by_cases h : o < 13
  · rcases (show o = 0 ∨ o = 1 ∨ o = 2 ∨ o = 3 ∨ o = 4 ∨ o = 5 ∨ o = 6 ∨ o = 7 ∨ o = 8 ∨ o = 9 ∨ o = 10 ∨ o = 11 ∨ o = 12 by omega) with rfl | rfl | rfl | rfl | rfl | rfl | rfl | rfl | rfl | rfl | rfl | rfl | rfl <;> first | exact am_BT_ok0 | exact am_BT_ok1 | exact am_BT_ok2 | exact am_BT_ok3 | exact am_BT_ok4 | exact am_BT_ok5 | exact am_BT_ok6 | exact am_BT_ok7 | exact am_BT_ok8 | exact am_BT_ok9 | exact am_BT_ok10 | exact am_BT_ok11 | exact am_BT_ok12 
  · intro q hq
    unfold am_BT at hq
    rw [List.getD_eq_getElem?_getD, List.getElem?_eq_none (by simp; omega)] at hq
    cases hq
def am_CT (o : Nat) : List (Nat × Nat) := ([[], [(40, 41), (53, 43), (64, 10), (68, 48), (75, 12), (82, 44), (91, 46), (95, 11), (104, 53), (108, 51), (112, 54), (116, 45), (128, 29), (198, 30), (207, 52), (138, 28), (141, 226), (146, 16), (152, 17), (149, 18), (156, 56), (159, 55), (162, 13), (174, 42), (186, 24), (189, 25), (192, 27)], [(19, 44), (34, 45)], [(31, 36), (50, 37), (56, 3), (69, 5)], [(31, 42), (72, 47), (65, 46), (89, 50), (120, 57), (117, 52), (99, 49), (102, 4), (108, 40), (111, 51)], [(29, 60), (72, 36), (75, 80), (38, 61), (63, 71), (87, 70), (91, 69), (149, 86), (95, 72), (102, 68), (41, 64), (127, 38), (131, 65), (140, 66), (143, 67), (134, 1), (137, 2), (45, 63), (115, 37), (48, 62)], [(19, 44), (25, 45)], [(32, 81), (46, 87), (36, 82), (50, 88), (53, 89), (39, 83), (61, 90), (64, 84), (43, 85)], [(27, 41), (38, 42), (41, 94), (45, 48), (49, 46), (53, 44), (65, 95), (76, 51), (69, 54), (73, 45)], [(18, 35), (28, 58), (37, 41), (46, 6), (55, 91), (78, 79), (82, 59), (86, 39), (89, 42), (92, 8), (95, 34), (98, 77), (105, 127), (116, 49), (120, 46), (123, 50), (132, 128), (135, 133), (157, 48), (138, 134), (288, 32), (173, 7), (141, 51), (147, 54), (151, 55), (154, 56), (176, 33), (180, 130), (184, 9), (196, 129), (200, 132), (203, 13), (211, 14), (214, 15), (217, 19), (220, 20), (223, 21), (226, 22), (233, 23), (242, 26), (245, 92), (248, 93), (251, 131), (254, 74), (262, 75), (277, 47), (285, 76)], [(149, 152), (153, 143), (171, 142), (157, 169), (163, 137), (221, 145), (178, 139), (182, 144), (186, 141), (190, 140), (193, 146), (215, 147), (242, 155), (212, 148), (251, 158), (218, 150), (268, 151), (271, 149), (264, 157), (254, 156), (258, 160), (275, 164), (287, 165), (284, 162), (290, 163), (278, 161), (261, 159), (337, 168), (298, 167), (340, 170), (305, 171), (311, 174), (343, 187), (346, 173), (308, 172), (350, 188), (353, 181), (331, 175), (334, 180), (325, 179), (328, 178), (317, 177), (321, 176), (314, 166), (356, 186), (359, 182), (362, 183), (384, 198), (374, 195), (377, 197), (380, 196), (390, 203), (394, 202), (387, 201), (397, 205), (400, 208), (403, 207), (409, 215), (406, 214), (413, 221)], [(9, 96), (13, 97), (18, 98), (23, 99), (28, 100), (32, 101), (37, 102), (41, 103), (45, 104), (49, 105), (54, 106), (58, 107), (63, 108), (67, 109), (71, 110), (75, 111), (80, 112), (84, 113), (88, 114), (92, 115), (96, 116), (100, 117), (104, 118), (108, 119), (112, 120), (116, 121), (120, 122), (124, 123), (128, 124), (132, 125), (136, 126), (12, 135), (17, 136), (22, 138), (27, 153), (31, 154), (36, 184), (40, 185), (44, 189), (48, 190), (53, 191), (57, 192), (62, 193), (66, 194), (70, 199), (74, 200), (79, 204), (83, 206), (87, 209), (91, 210), (95, 211), (99, 212), (103, 213), (107, 216), (111, 217), (115, 218), (119, 219), (123, 220), (127, 222), (131, 223), (135, 224), (139, 225)], []] : List (List (Nat × Nat))).getD o []
theorem am_CT_ok0 : ∀ q ∈ am_CT 0, Cond.methodLink (am_own 0) q.1 (am_yn q.2) ∈ am_W := (fun _ h => absurd h List.not_mem_nil)
set_option maxRecDepth 100000 in
theorem am_CT_ok1 : ∀ q ∈ am_CT 1, Cond.methodLink (am_own 1) q.1 (am_yn q.2) ∈ am_W := (List.forall_mem_cons.mpr ⟨am_w2 (i := 18) rfl rfl, (List.forall_mem_cons.mpr ⟨am_w4 (i := 51) rfl rfl, (List.forall_mem_cons.mpr ⟨am_w4 (i := 55) rfl rfl, (List.forall_mem_cons.mpr ⟨am_w4 (i := 59) rfl rfl, (List.forall_mem_cons.mpr ⟨am_w4 (i := 60) rfl rfl, (List.forall_mem_cons.mpr ⟨am_w4 (i := 65) rfl rfl, (List.forall_mem_cons.mpr ⟨am_w4 (i := 66) rfl rfl, (List.forall_mem_cons.mpr ⟨am_w4 (i := 67) rfl rfl, (List.forall_mem_cons.mpr ⟨am_w4 (i := 71) rfl rfl, (List.forall_mem_cons.mpr ⟨am_w4 (i := 75) rfl rfl, (List.forall_mem_cons.mpr ⟨am_w4 (i := 76) rfl rfl, (List.forall_mem_cons.mpr ⟨am_w4 (i := 77) rfl rfl, (List.forall_mem_cons.mpr ⟨am_w4 (i := 98) rfl rfl, (List.forall_mem_cons.mpr ⟨am_w4 (i := 102) rfl rfl, (List.forall_mem_cons.mpr ⟨am_w4 (i := 106) rfl rfl, (List.forall_mem_cons.mpr ⟨am_w4 (i := 115) rfl rfl, (List.forall_mem_cons.mpr ⟨am_w4 (i := 127) rfl rfl, (List.forall_mem_cons.mpr ⟨am_w4 (i := 133) rfl rfl, (List.forall_mem_cons.mpr ⟨am_w4 (i := 137) rfl rfl, (List.forall_mem_cons.mpr ⟨am_w4 (i := 141) rfl rfl, (List.forall_mem_cons.mpr ⟨am_w4 (i := 145) rfl rfl, (List.forall_mem_cons.mpr ⟨am_w4 (i := 154) rfl rfl, (List.forall_mem_cons.mpr ⟨am_w4 (i := 163) rfl rfl, (List.forall_mem_cons.mpr ⟨am_w4 (i := 188) rfl rfl, (List.forall_mem_cons.mpr ⟨am_w4 (i := 189) rfl rfl, (List.forall_mem_cons.mpr ⟨am_w4 (i := 193) rfl rfl, (List.forall_mem_cons.mpr ⟨am_w4 (i := 209) rfl rfl, (fun _ h => absurd h List.not_mem_nil)⟩)⟩)⟩)⟩)⟩)⟩)⟩)⟩)⟩)⟩)⟩)⟩)⟩)⟩)⟩)⟩)⟩)⟩)⟩)⟩)⟩)⟩)⟩)⟩)⟩)⟩)⟩)
theorem am_CT_ok2 : ∀ q ∈ am_CT 2, Cond.methodLink (am_own 2) q.1 (am_yn q.2) ∈ am_W := (List.forall_mem_cons.mpr ⟨am_w3 (i := 191) rfl rfl, (List.forall_mem_cons.mpr ⟨am_w4 (i := 30) rfl rfl, (fun _ h => absurd h List.not_mem_nil)⟩)⟩)
theorem am_CT_ok3 : ∀ q ∈ am_CT 3, Cond.methodLink (am_own 3) q.1 (am_yn q.2) ∈ am_W := (List.forall_mem_cons.mpr ⟨am_w1 (i := 88) rfl rfl, (List.forall_mem_cons.mpr ⟨am_w1 (i := 92) rfl rfl, (List.forall_mem_cons.mpr ⟨am_w3 (i := 107) rfl rfl, (List.forall_mem_cons.mpr ⟨am_w3 (i := 230) rfl rfl, (fun _ h => absurd h List.not_mem_nil)⟩)⟩)⟩)⟩)
theorem am_CT_ok4 : ∀ q ∈ am_CT 4, Cond.methodLink (am_own 4) q.1 (am_yn q.2) ∈ am_W := (List.forall_mem_cons.mpr ⟨am_w1 (i := 196) rfl rfl, (List.forall_mem_cons.mpr ⟨am_w3 (i := 178) rfl rfl, (List.forall_mem_cons.mpr ⟨am_w3 (i := 182) rfl rfl, (List.forall_mem_cons.mpr ⟨am_w3 (i := 205) rfl rfl, (List.forall_mem_cons.mpr ⟨am_w3 (i := 211) rfl rfl, (List.forall_mem_cons.mpr ⟨am_w3 (i := 215) rfl rfl, (List.forall_mem_cons.mpr ⟨am_w3 (i := 219) rfl rfl, (List.forall_mem_cons.mpr ⟨am_w3 (i := 220) rfl rfl, (List.forall_mem_cons.mpr ⟨am_w3 (i := 224) rfl rfl, (List.forall_mem_cons.mpr ⟨am_w4 (i := 8) rfl rfl, (fun _ h => absurd h List.not_mem_nil)⟩)⟩)⟩)⟩)⟩)⟩)⟩)⟩)⟩)⟩)
set_option maxRecDepth 100000 in
theorem am_CT_ok5 : ∀ q ∈ am_CT 5, Cond.methodLink (am_own 5) q.1 (am_yn q.2) ∈ am_W := (List.forall_mem_cons.mpr ⟨am_w2 (i := 189) rfl rfl, (List.forall_mem_cons.mpr ⟨am_w2 (i := 193) rfl rfl, (List.forall_mem_cons.mpr ⟨am_w2 (i := 194) rfl rfl, (List.forall_mem_cons.mpr ⟨am_w3 (i := 38) rfl rfl, (List.forall_mem_cons.mpr ⟨am_w3 (i := 42) rfl rfl, (List.forall_mem_cons.mpr ⟨am_w3 (i := 46) rfl rfl, (List.forall_mem_cons.mpr ⟨am_w3 (i := 50) rfl rfl, (List.forall_mem_cons.mpr ⟨am_w3 (i := 54) rfl rfl, (List.forall_mem_cons.mpr ⟨am_w3 (i := 58) rfl rfl, (List.forall_mem_cons.mpr ⟨am_w3 (i := 62) rfl rfl, (List.forall_mem_cons.mpr ⟨am_w3 (i := 66) rfl rfl, (List.forall_mem_cons.mpr ⟨am_w3 (i := 70) rfl rfl, (List.forall_mem_cons.mpr ⟨am_w3 (i := 74) rfl rfl, (List.forall_mem_cons.mpr ⟨am_w3 (i := 78) rfl rfl, (List.forall_mem_cons.mpr ⟨am_w3 (i := 82) rfl rfl, (List.forall_mem_cons.mpr ⟨am_w3 (i := 86) rfl rfl, (List.forall_mem_cons.mpr ⟨am_w3 (i := 90) rfl rfl, (List.forall_mem_cons.mpr ⟨am_w3 (i := 94) rfl rfl, (List.forall_mem_cons.mpr ⟨am_w3 (i := 98) rfl rfl, (List.forall_mem_cons.mpr ⟨am_w3 (i := 99) rfl rfl, (fun _ h => absurd h List.not_mem_nil)⟩)⟩)⟩)⟩)⟩)⟩)⟩)⟩)⟩)⟩)⟩)⟩)⟩)⟩)⟩)⟩)⟩)⟩)⟩)⟩)
theorem am_CT_ok6 : ∀ q ∈ am_CT 6, Cond.methodLink (am_own 6) q.1 (am_yn q.2) ∈ am_W := (List.forall_mem_cons.mpr ⟨am_w5 (i := 20) rfl rfl, (List.forall_mem_cons.mpr ⟨am_w5 (i := 29) rfl rfl, (fun _ h => absurd h List.not_mem_nil)⟩)⟩)
theorem am_CT_ok7 : ∀ q ∈ am_CT 7, Cond.methodLink (am_own 7) q.1 (am_yn q.2) ∈ am_W := (List.forall_mem_cons.mpr ⟨am_w2 (i := 198) rfl rfl, (List.forall_mem_cons.mpr ⟨am_w2 (i := 202) rfl rfl, (List.forall_mem_cons.mpr ⟨am_w2 (i := 206) rfl rfl, (List.forall_mem_cons.mpr ⟨am_w2 (i := 210) rfl rfl, (List.forall_mem_cons.mpr ⟨am_w2 (i := 214) rfl rfl, (List.forall_mem_cons.mpr ⟨am_w2 (i := 221) rfl rfl, (List.forall_mem_cons.mpr ⟨am_w2 (i := 225) rfl rfl, (List.forall_mem_cons.mpr ⟨am_w2 (i := 229) rfl rfl, (List.forall_mem_cons.mpr ⟨am_w3 (i := 34) rfl rfl, (fun _ h => absurd h List.not_mem_nil)⟩)⟩)⟩)⟩)⟩)⟩)⟩)⟩)⟩)
theorem am_CT_ok8 : ∀ q ∈ am_CT 8, Cond.methodLink (am_own 8) q.1 (am_yn q.2) ∈ am_W := (List.forall_mem_cons.mpr ⟨am_w2 (i := 88) rfl rfl, (List.forall_mem_cons.mpr ⟨am_w4 (i := 233) rfl rfl, (List.forall_mem_cons.mpr ⟨am_w4 (i := 234) rfl rfl, (List.forall_mem_cons.mpr ⟨am_w4 (i := 238) rfl rfl, (List.forall_mem_cons.mpr ⟨am_w4 (i := 239) rfl rfl, (List.forall_mem_cons.mpr ⟨am_w5 (i := 0) rfl rfl, (List.forall_mem_cons.mpr ⟨am_w5 (i := 1) rfl rfl, (List.forall_mem_cons.mpr ⟨am_w5 (i := 5) rfl rfl, (List.forall_mem_cons.mpr ⟨am_w5 (i := 6) rfl rfl, (List.forall_mem_cons.mpr ⟨am_w5 (i := 7) rfl rfl, (fun _ h => absurd h List.not_mem_nil)⟩)⟩)⟩)⟩)⟩)⟩)⟩)⟩)⟩)⟩)
set_option maxRecDepth 100000 in
theorem am_CT_ok9 : ∀ q ∈ am_CT 9, Cond.methodLink (am_own 9) q.1 (am_yn q.2) ∈ am_W := (List.forall_mem_cons.mpr ⟨am_w1 (i := 60) rfl rfl, (List.forall_mem_cons.mpr ⟨am_w1 (i := 157) rfl rfl, (List.forall_mem_cons.mpr ⟨am_w1 (i := 192) rfl rfl, (List.forall_mem_cons.mpr ⟨am_w2 (i := 13) rfl rfl, (List.forall_mem_cons.mpr ⟨am_w2 (i := 83) rfl rfl, (List.forall_mem_cons.mpr ⟨am_w2 (i := 173) rfl rfl, (List.forall_mem_cons.mpr ⟨am_w2 (i := 185) rfl rfl, (List.forall_mem_cons.mpr ⟨am_w3 (i := 103) rfl rfl, (List.forall_mem_cons.mpr ⟨am_w3 (i := 115) rfl rfl, (List.forall_mem_cons.mpr ⟨am_w3 (i := 116) rfl rfl, (List.forall_mem_cons.mpr ⟨am_w3 (i := 120) rfl rfl, (List.forall_mem_cons.mpr ⟨am_w3 (i := 124) rfl rfl, (List.forall_mem_cons.mpr ⟨am_w3 (i := 136) rfl rfl, (List.forall_mem_cons.mpr ⟨am_w3 (i := 140) rfl rfl, (List.forall_mem_cons.mpr ⟨am_w3 (i := 144) rfl rfl, (List.forall_mem_cons.mpr ⟨am_w3 (i := 148) rfl rfl, (List.forall_mem_cons.mpr ⟨am_w3 (i := 166) rfl rfl, (List.forall_mem_cons.mpr ⟨am_w3 (i := 170) rfl rfl, (List.forall_mem_cons.mpr ⟨am_w3 (i := 174) rfl rfl, (List.forall_mem_cons.mpr ⟨am_w3 (i := 183) rfl rfl, (List.forall_mem_cons.mpr ⟨am_w3 (i := 187) rfl rfl, (List.forall_mem_cons.mpr ⟨am_w3 (i := 197) rfl rfl, (List.forall_mem_cons.mpr ⟨am_w3 (i := 201) rfl rfl, (List.forall_mem_cons.mpr ⟨am_w3 (i := 207) rfl rfl, (List.forall_mem_cons.mpr ⟨am_w4 (i := 4) rfl rfl, (List.forall_mem_cons.mpr ⟨am_w4 (i := 13) rfl rfl, (List.forall_mem_cons.mpr ⟨am_w4 (i := 26) rfl rfl, (List.forall_mem_cons.mpr ⟨am_w4 (i := 42) rfl rfl, (List.forall_mem_cons.mpr ⟨am_w4 (i := 47) rfl rfl, (List.forall_mem_cons.mpr ⟨am_w4 (i := 86) rfl rfl, (List.forall_mem_cons.mpr ⟨am_w4 (i := 90) rfl rfl, (List.forall_mem_cons.mpr ⟨am_w4 (i := 94) rfl rfl, (List.forall_mem_cons.mpr ⟨am_w4 (i := 111) rfl rfl, (List.forall_mem_cons.mpr ⟨am_w4 (i := 123) rfl rfl, (List.forall_mem_cons.mpr ⟨am_w4 (i := 150) rfl rfl, (List.forall_mem_cons.mpr ⟨am_w4 (i := 159) rfl rfl, (List.forall_mem_cons.mpr ⟨am_w4 (i := 168) rfl rfl, (List.forall_mem_cons.mpr ⟨am_w4 (i := 176) rfl rfl, (List.forall_mem_cons.mpr ⟨am_w4 (i := 184) rfl rfl, (List.forall_mem_cons.mpr ⟨am_w4 (i := 205) rfl rfl, (List.forall_mem_cons.mpr ⟨am_w4 (i := 217) rfl rfl, (List.forall_mem_cons.mpr ⟨am_w4 (i := 229) rfl rfl, (List.forall_mem_cons.mpr ⟨am_w5 (i := 12) rfl rfl, (List.forall_mem_cons.mpr ⟨am_w5 (i := 16) rfl rfl, (List.forall_mem_cons.mpr ⟨am_w5 (i := 25) rfl rfl, (List.forall_mem_cons.mpr ⟨am_w5 (i := 34) rfl rfl, (List.forall_mem_cons.mpr ⟨am_w5 (i := 35) rfl rfl, (fun _ h => absurd h List.not_mem_nil)⟩)⟩)⟩)⟩)⟩)⟩)⟩)⟩)⟩)⟩)⟩)⟩)⟩)⟩)⟩)⟩)⟩)⟩)⟩)⟩)⟩)⟩)⟩)⟩)⟩)⟩)⟩)⟩)⟩)⟩)⟩)⟩)⟩)⟩)⟩)⟩)⟩)⟩)⟩)⟩)⟩)⟩)⟩)⟩)⟩)⟩)⟩)
set_option maxRecDepth 100000 in
theorem am_CT_ok10 : ∀ q ∈ am_CT 10, Cond.methodLink (am_own 10) q.1 (am_yn q.2) ∈ am_W := (List.forall_mem_cons.mpr ⟨am_w5 (i := 45) rfl rfl, (List.forall_mem_cons.mpr ⟨am_w5 (i := 49) rfl rfl, (List.forall_mem_cons.mpr ⟨am_w5 (i := 52) rfl rfl, (List.forall_mem_cons.mpr ⟨am_w5 (i := 56) rfl rfl, (List.forall_mem_cons.mpr ⟨am_w6 (i := 26) rfl rfl, (List.forall_mem_cons.mpr ⟨am_w6 (i := 38) rfl rfl, (List.forall_mem_cons.mpr ⟨am_w6 (i := 42) rfl rfl, (List.forall_mem_cons.mpr ⟨am_w6 (i := 46) rfl rfl, (List.forall_mem_cons.mpr ⟨am_w6 (i := 50) rfl rfl, (List.forall_mem_cons.mpr ⟨am_w6 (i := 53) rfl rfl, (List.forall_mem_cons.mpr ⟨am_w6 (i := 56) rfl rfl, (List.forall_mem_cons.mpr ⟨am_w6 (i := 60) rfl rfl, (List.forall_mem_cons.mpr ⟨am_w6 (i := 64) rfl rfl, (List.forall_mem_cons.mpr ⟨am_w6 (i := 68) rfl rfl, (List.forall_mem_cons.mpr ⟨am_w6 (i := 72) rfl rfl, (List.forall_mem_cons.mpr ⟨am_w6 (i := 76) rfl rfl, (List.forall_mem_cons.mpr ⟨am_w6 (i := 80) rfl rfl, (List.forall_mem_cons.mpr ⟨am_w6 (i := 84) rfl rfl, (List.forall_mem_cons.mpr ⟨am_w6 (i := 88) rfl rfl, (List.forall_mem_cons.mpr ⟨am_w6 (i := 92) rfl rfl, (List.forall_mem_cons.mpr ⟨am_w6 (i := 96) rfl rfl, (List.forall_mem_cons.mpr ⟨am_w6 (i := 100) rfl rfl, (List.forall_mem_cons.mpr ⟨am_w6 (i := 104) rfl rfl, (List.forall_mem_cons.mpr ⟨am_w6 (i := 108) rfl rfl, (List.forall_mem_cons.mpr ⟨am_w6 (i := 112) rfl rfl, (List.forall_mem_cons.mpr ⟨am_w6 (i := 116) rfl rfl, (List.forall_mem_cons.mpr ⟨am_w6 (i := 120) rfl rfl, (List.forall_mem_cons.mpr ⟨am_w6 (i := 132) rfl rfl, (List.forall_mem_cons.mpr ⟨am_w6 (i := 136) rfl rfl, (List.forall_mem_cons.mpr ⟨am_w6 (i := 139) rfl rfl, (List.forall_mem_cons.mpr ⟨am_w6 (i := 143) rfl rfl, (List.forall_mem_cons.mpr ⟨am_w6 (i := 147) rfl rfl, (List.forall_mem_cons.mpr ⟨am_w6 (i := 159) rfl rfl, (List.forall_mem_cons.mpr ⟨am_w6 (i := 163) rfl rfl, (List.forall_mem_cons.mpr ⟨am_w6 (i := 167) rfl rfl, (List.forall_mem_cons.mpr ⟨am_w6 (i := 171) rfl rfl, (List.forall_mem_cons.mpr ⟨am_w6 (i := 175) rfl rfl, (List.forall_mem_cons.mpr ⟨am_w6 (i := 179) rfl rfl, (List.forall_mem_cons.mpr ⟨am_w6 (i := 183) rfl rfl, (List.forall_mem_cons.mpr ⟨am_w6 (i := 187) rfl rfl, (List.forall_mem_cons.mpr ⟨am_w6 (i := 191) rfl rfl, (List.forall_mem_cons.mpr ⟨am_w6 (i := 195) rfl rfl, (List.forall_mem_cons.mpr ⟨am_w6 (i := 199) rfl rfl, (List.forall_mem_cons.mpr ⟨am_w6 (i := 203) rfl rfl, (List.forall_mem_cons.mpr ⟨am_w6 (i := 207) rfl rfl, (List.forall_mem_cons.mpr ⟨am_w6 (i := 215) rfl rfl, (List.forall_mem_cons.mpr ⟨am_w6 (i := 223) rfl rfl, (List.forall_mem_cons.mpr ⟨am_w7 (i := 4) rfl rfl, (List.forall_mem_cons.mpr ⟨am_w7 (i := 8) rfl rfl, (List.forall_mem_cons.mpr ⟨am_w7 (i := 12) rfl rfl, (List.forall_mem_cons.mpr ⟨am_w7 (i := 16) rfl rfl, (List.forall_mem_cons.mpr ⟨am_w7 (i := 28) rfl rfl, (List.forall_mem_cons.mpr ⟨am_w7 (i := 32) rfl rfl, (List.forall_mem_cons.mpr ⟨am_w7 (i := 36) rfl rfl, (List.forall_mem_cons.mpr ⟨am_w7 (i := 44) rfl rfl, (List.forall_mem_cons.mpr ⟨am_w7 (i := 52) rfl rfl, (List.forall_mem_cons.mpr ⟨am_w7 (i := 56) rfl rfl, (List.forall_mem_cons.mpr ⟨am_w7 (i := 79) rfl rfl, (List.forall_mem_cons.mpr ⟨am_w7 (i := 83) rfl rfl, (List.forall_mem_cons.mpr ⟨am_w7 (i := 108) rfl rfl, (fun _ h => absurd h List.not_mem_nil)⟩)⟩)⟩)⟩)⟩)⟩)⟩)⟩)⟩)⟩)⟩)⟩)⟩)⟩)⟩)⟩)⟩)⟩)⟩)⟩)⟩)⟩)⟩)⟩)⟩)⟩)⟩)⟩)⟩)⟩)⟩)⟩)⟩)⟩)⟩)⟩)⟩)⟩)⟩)⟩)⟩)⟩)⟩)⟩)⟩)⟩)⟩)⟩)⟩)⟩)⟩)⟩)⟩)⟩)⟩)⟩)⟩)⟩)⟩)⟩)
set_option maxRecDepth 100000 in
theorem am_CT_ok11 : ∀ q ∈ am_CT 11, Cond.methodLink (am_own 11) q.1 (am_yn q.2) ∈ am_W := (List.forall_mem_cons.mpr ⟨am_w1 (i := 21) rfl rfl, (List.forall_mem_cons.mpr ⟨am_w2 (i := 169) rfl rfl, (List.forall_mem_cons.mpr ⟨am_w2 (i := 177) rfl rfl, (List.forall_mem_cons.mpr ⟨am_w2 (i := 181) rfl rfl, (List.forall_mem_cons.mpr ⟨am_w3 (i := 128) rfl rfl, (List.forall_mem_cons.mpr ⟨am_w3 (i := 132) rfl rfl, (List.forall_mem_cons.mpr ⟨am_w3 (i := 158) rfl rfl, (List.forall_mem_cons.mpr ⟨am_w3 (i := 162) rfl rfl, (List.forall_mem_cons.mpr ⟨am_w4 (i := 0) rfl rfl, (List.forall_mem_cons.mpr ⟨am_w4 (i := 9) rfl rfl, (List.forall_mem_cons.mpr ⟨am_w4 (i := 17) rfl rfl, (List.forall_mem_cons.mpr ⟨am_w4 (i := 22) rfl rfl, (List.forall_mem_cons.mpr ⟨am_w4 (i := 34) rfl rfl, (List.forall_mem_cons.mpr ⟨am_w4 (i := 38) rfl rfl, (List.forall_mem_cons.mpr ⟨am_w4 (i := 78) rfl rfl, (List.forall_mem_cons.mpr ⟨am_w4 (i := 82) rfl rfl, (List.forall_mem_cons.mpr ⟨am_w4 (i := 107) rfl rfl, (List.forall_mem_cons.mpr ⟨am_w4 (i := 119) rfl rfl, (List.forall_mem_cons.mpr ⟨am_w4 (i := 146) rfl rfl, (List.forall_mem_cons.mpr ⟨am_w4 (i := 155) rfl rfl, (List.forall_mem_cons.mpr ⟨am_w4 (i := 164) rfl rfl, (List.forall_mem_cons.mpr ⟨am_w4 (i := 172) rfl rfl, (List.forall_mem_cons.mpr ⟨am_w4 (i := 180) rfl rfl, (List.forall_mem_cons.mpr ⟨am_w4 (i := 197) rfl rfl, (List.forall_mem_cons.mpr ⟨am_w4 (i := 201) rfl rfl, (List.forall_mem_cons.mpr ⟨am_w4 (i := 213) rfl rfl, (List.forall_mem_cons.mpr ⟨am_w4 (i := 221) rfl rfl, (List.forall_mem_cons.mpr ⟨am_w4 (i := 225) rfl rfl, (List.forall_mem_cons.mpr ⟨am_w5 (i := 8) rfl rfl, (List.forall_mem_cons.mpr ⟨am_w5 (i := 21) rfl rfl, (List.forall_mem_cons.mpr ⟨am_w5 (i := 30) rfl rfl, (List.forall_mem_cons.mpr ⟨am_w5 (i := 41) rfl rfl, (List.forall_mem_cons.mpr ⟨am_w6 (i := 22) rfl rfl, (List.forall_mem_cons.mpr ⟨am_w6 (i := 30) rfl rfl, (List.forall_mem_cons.mpr ⟨am_w6 (i := 34) rfl rfl, (List.forall_mem_cons.mpr ⟨am_w6 (i := 124) rfl rfl, (List.forall_mem_cons.mpr ⟨am_w6 (i := 128) rfl rfl, (List.forall_mem_cons.mpr ⟨am_w6 (i := 151) rfl rfl, (List.forall_mem_cons.mpr ⟨am_w6 (i := 155) rfl rfl, (List.forall_mem_cons.mpr ⟨am_w6 (i := 211) rfl rfl, (List.forall_mem_cons.mpr ⟨am_w6 (i := 219) rfl rfl, (List.forall_mem_cons.mpr ⟨am_w6 (i := 227) rfl rfl, (List.forall_mem_cons.mpr ⟨am_w6 (i := 231) rfl rfl, (List.forall_mem_cons.mpr ⟨am_w6 (i := 235) rfl rfl, (List.forall_mem_cons.mpr ⟨am_w6 (i := 239) rfl rfl, (List.forall_mem_cons.mpr ⟨am_w7 (i := 20) rfl rfl, (List.forall_mem_cons.mpr ⟨am_w7 (i := 24) rfl rfl, (List.forall_mem_cons.mpr ⟨am_w7 (i := 40) rfl rfl, (List.forall_mem_cons.mpr ⟨am_w7 (i := 48) rfl rfl, (List.forall_mem_cons.mpr ⟨am_w7 (i := 59) rfl rfl, (List.forall_mem_cons.mpr ⟨am_w7 (i := 63) rfl rfl, (List.forall_mem_cons.mpr ⟨am_w7 (i := 67) rfl rfl, (List.forall_mem_cons.mpr ⟨am_w7 (i := 71) rfl rfl, (List.forall_mem_cons.mpr ⟨am_w7 (i := 75) rfl rfl, (List.forall_mem_cons.mpr ⟨am_w7 (i := 87) rfl rfl, (List.forall_mem_cons.mpr ⟨am_w7 (i := 92) rfl rfl, (List.forall_mem_cons.mpr ⟨am_w7 (i := 96) rfl rfl, (List.forall_mem_cons.mpr ⟨am_w7 (i := 100) rfl rfl, (List.forall_mem_cons.mpr ⟨am_w7 (i := 104) rfl rfl, (List.forall_mem_cons.mpr ⟨am_w7 (i := 112) rfl rfl, (List.forall_mem_cons.mpr ⟨am_w7 (i := 116) rfl rfl, (List.forall_mem_cons.mpr ⟨am_w7 (i := 120) rfl rfl, (fun _ h => absurd h List.not_mem_nil)⟩)⟩)⟩)⟩)⟩)⟩)⟩)⟩)⟩)⟩)⟩)⟩)⟩)⟩)⟩)⟩)⟩)⟩)⟩)⟩)⟩)⟩)⟩)⟩)⟩)⟩)⟩)⟩)⟩)⟩)⟩)⟩)⟩)⟩)⟩)⟩)⟩)⟩)⟩)⟩)⟩)⟩)⟩)⟩)⟩)⟩)⟩)⟩)⟩)⟩)⟩)⟩)⟩)⟩)⟩)⟩)⟩)⟩)⟩)⟩)⟩)⟩)
theorem am_CT_ok12 : ∀ q ∈ am_CT 12, Cond.methodLink (am_own 12) q.1 (am_yn q.2) ∈ am_W := (fun _ h => absurd h List.not_mem_nil)
theorem am_CT_ok (o : Nat) : ∀ q ∈ am_CT o, Cond.methodLink (am_own o) q.1 (am_yn q.2) ∈ am_W := by
  by_cases h : o < 13
  · rcases (show o = 0 ∨ o = 1 ∨ o = 2 ∨ o = 3 ∨ o = 4 ∨ o = 5 ∨ o = 6 ∨ o = 7 ∨ o = 8 ∨ o = 9 ∨ o = 10 ∨ o = 11 ∨ o = 12 by omega) with rfl | rfl | rfl | rfl | rfl | rfl | rfl | rfl | rfl | rfl | rfl | rfl | rfl <;> first | exact am_CT_ok0 | exact am_CT_ok1 | exact am_CT_ok2 | exact am_CT_ok3 | exact am_CT_ok4 | exact am_CT_ok5 | exact am_CT_ok6 | exact am_CT_ok7 | exact am_CT_ok8 | exact am_CT_ok9 | exact am_CT_ok10 | exact am_CT_ok11 | exact am_CT_ok12 
  · intro q hq
    unfold am_CT at hq
    rw [List.getD_eq_getElem?_getD, List.getElem?_eq_none (by simp; omega)] at hq
    cases hq
def am_NT (o : Nat) : List (Nat × Nat) := ([[], [(38, 4)], [], [(21, 0)], [], [], [], [], [(25, 4)], [(9, 7), (16, 3), (26, 5), (35, 4), (44, 1), (53, 8), (60, 2), (67, 6)], [], [(7, 9), (10, 10)], []] : List (List (Nat × Nat))).getD o []
theorem am_NT_ok0 : ∀ q ∈ am_NT 0, (q.2 < 11 ∧ Cond.classLink (am_own 0) q.1 (am_cls q.2).1 ∈ am_W) := (fun _ h => absurd h List.not_mem_nil)
theorem am_NT_ok1 : ∀ q ∈ am_NT 1, (q.2 < 11 ∧ Cond.classLink (am_own 1) q.1 (am_cls q.2).1 ∈ am_W) := (List.forall_mem_cons.mpr ⟨⟨Nat.le_of_ble_eq_true rfl, am_w2 (i := 17) rfl rfl⟩, (fun _ h => absurd h List.not_mem_nil)⟩)
theorem am_NT_ok2 : ∀ q ∈ am_NT 2, (q.2 < 11 ∧ Cond.classLink (am_own 2) q.1 (am_cls q.2).1 ∈ am_W) := (fun _ h => absurd h List.not_mem_nil)
theorem am_NT_ok3 : ∀ q ∈ am_NT 3, (q.2 < 11 ∧ Cond.classLink (am_own 3) q.1 (am_cls q.2).1 ∈ am_W) := (List.forall_mem_cons.mpr ⟨⟨Nat.le_of_ble_eq_true rfl, am_w1 (i := 64) rfl rfl⟩, (fun _ h => absurd h List.not_mem_nil)⟩)
theorem am_NT_ok4 : ∀ q ∈ am_NT 4, (q.2 < 11 ∧ Cond.classLink (am_own 4) q.1 (am_cls q.2).1 ∈ am_W) := (fun _ h => absurd h List.not_mem_nil)
theorem am_NT_ok5 : ∀ q ∈ am_NT 5, (q.2 < 11 ∧ Cond.classLink (am_own 5) q.1 (am_cls q.2).1 ∈ am_W) := (fun _ h => absurd h List.not_mem_nil)
theorem am_NT_ok6 : ∀ q ∈ am_NT 6, (q.2 < 11 ∧ Cond.classLink (am_own 6) q.1 (am_cls q.2).1 ∈ am_W) := (fun _ h => absurd h List.not_mem_nil)
theorem am_NT_ok7 : ∀ q ∈ am_NT 7, (q.2 < 11 ∧ Cond.classLink (am_own 7) q.1 (am_cls q.2).1 ∈ am_W) := (fun _ h => absurd h List.not_mem_nil)
theorem am_NT_ok8 : ∀ q ∈ am_NT 8, (q.2 < 11 ∧ Cond.classLink (am_own 8) q.1 (am_cls q.2).1 ∈ am_W) := (List.forall_mem_cons.mpr ⟨⟨Nat.le_of_ble_eq_true rfl, am_w2 (i := 87) rfl rfl⟩, (fun _ h => absurd h List.not_mem_nil)⟩)
theorem am_NT_ok9 : ∀ q ∈ am_NT 9, (q.2 < 11 ∧ Cond.classLink (am_own 9) q.1 (am_cls q.2).1 ∈ am_W) := (List.forall_mem_cons.mpr ⟨⟨Nat.le_of_ble_eq_true rfl, am_w1 (i := 27) rfl rfl⟩, (List.forall_mem_cons.mpr ⟨⟨Nat.le_of_ble_eq_true rfl, am_w1 (i := 58) rfl rfl⟩, (List.forall_mem_cons.mpr ⟨⟨Nat.le_of_ble_eq_true rfl, am_w1 (i := 155) rfl rfl⟩, (List.forall_mem_cons.mpr ⟨⟨Nat.le_of_ble_eq_true rfl, am_w1 (i := 190) rfl rfl⟩, (List.forall_mem_cons.mpr ⟨⟨Nat.le_of_ble_eq_true rfl, am_w2 (i := 11) rfl rfl⟩, (List.forall_mem_cons.mpr ⟨⟨Nat.le_of_ble_eq_true rfl, am_w2 (i := 81) rfl rfl⟩, (List.forall_mem_cons.mpr ⟨⟨Nat.le_of_ble_eq_true rfl, am_w2 (i := 109) rfl rfl⟩, (List.forall_mem_cons.mpr ⟨⟨Nat.le_of_ble_eq_true rfl, am_w2 (i := 126) rfl rfl⟩, (fun _ h => absurd h List.not_mem_nil)⟩)⟩)⟩)⟩)⟩)⟩)⟩)⟩)
theorem am_NT_ok10 : ∀ q ∈ am_NT 10, (q.2 < 11 ∧ Cond.classLink (am_own 10) q.1 (am_cls q.2).1 ∈ am_W) := (fun _ h => absurd h List.not_mem_nil)
theorem am_NT_ok11 : ∀ q ∈ am_NT 11, (q.2 < 11 ∧ Cond.classLink (am_own 11) q.1 (am_cls q.2).1 ∈ am_W) := (List.forall_mem_cons.mpr ⟨⟨Nat.le_of_ble_eq_true rfl, am_w1 (i := 19) rfl rfl⟩, (List.forall_mem_cons.mpr ⟨⟨Nat.le_of_ble_eq_true rfl, am_w5 (i := 39) rfl rfl⟩, (fun _ h => absurd h List.not_mem_nil)⟩)⟩)
theorem am_NT_ok12 : ∀ q ∈ am_NT 12, (q.2 < 11 ∧ Cond.classLink (am_own 12) q.1 (am_cls q.2).1 ∈ am_W) := (fun _ h => absurd h List.not_mem_nil)
theorem am_NT_ok (o : Nat) : ∀ q ∈ am_NT o, (q.2 < 11 ∧ Cond.classLink (am_own o) q.1 (am_cls q.2).1 ∈ am_W) := by
  by_cases h : o < 13
  · rcases (show o = 0 ∨ o = 1 ∨ o = 2 ∨ o = 3 ∨ o = 4 ∨ o = 5 ∨ o = 6 ∨ o = 7 ∨ o = 8 ∨ o = 9 ∨ o = 10 ∨ o = 11 ∨ o = 12 by omega) with rfl | rfl | rfl | rfl | rfl | rfl | rfl | rfl | rfl | rfl | rfl | rfl | rfl <;> first | exact am_NT_ok0 | exact am_NT_ok1 | exact am_NT_ok2 | exact am_NT_ok3 | exact am_NT_ok4 | exact am_NT_ok5 | exact am_NT_ok6 | exact am_NT_ok7 | exact am_NT_ok8 | exact am_NT_ok9 | exact am_NT_ok10 | exact am_NT_ok11 | exact am_NT_ok12 
  · intro q hq
    unfold am_NT at hq
    rw [List.getD_eq_getElem?_getD, List.getElem?_eq_none (by simp; omega)] at hq
    cases hq
def am_kw (o : Nat) (q : Nat × Nat × Nat × Nat) : Cond := match q.2.2.2 with
  | 0 => Cond.constant (am_own o) q.1 (match q.2.1 with
    | 0 => Int32.ofNat q.2.2.1
    | _ => -(Int32.ofNat q.2.2.1))
  | _ => Cond.constantLong (am_own o) q.1 (Int64.ofNat q.2.2.1)
def am_KT (o : Nat) : List (Nat × Nat × Nat × Nat) := ([[], [], [], [], [], [], [], [], [], [(183, 1, 1000000, 0)], [(169, 0, 27, 1), (383, 1, 1000000, 0), (412, 1, 999999, 0)], [], [(265, 0, 1431655765, 0), (266, 0, 858993459, 0), (267, 0, 252645135, 0)]] : List (List (Nat × Nat × Nat × Nat))).getD o []
theorem am_KT_ok0 : ∀ q ∈ am_KT 0, am_kw 0 q ∈ am_W := (fun _ h => absurd h List.not_mem_nil)
theorem am_KT_ok1 : ∀ q ∈ am_KT 1, am_kw 1 q ∈ am_W := (fun _ h => absurd h List.not_mem_nil)
theorem am_KT_ok2 : ∀ q ∈ am_KT 2, am_kw 2 q ∈ am_W := (fun _ h => absurd h List.not_mem_nil)
theorem am_KT_ok3 : ∀ q ∈ am_KT 3, am_kw 3 q ∈ am_W := (fun _ h => absurd h List.not_mem_nil)
theorem am_KT_ok4 : ∀ q ∈ am_KT 4, am_kw 4 q ∈ am_W := (fun _ h => absurd h List.not_mem_nil)
theorem am_KT_ok5 : ∀ q ∈ am_KT 5, am_kw 5 q ∈ am_W := (fun _ h => absurd h List.not_mem_nil)
theorem am_KT_ok6 : ∀ q ∈ am_KT 6, am_kw 6 q ∈ am_W := (fun _ h => absurd h List.not_mem_nil)
theorem am_KT_ok7 : ∀ q ∈ am_KT 7, am_kw 7 q ∈ am_W := (fun _ h => absurd h List.not_mem_nil)
theorem am_KT_ok8 : ∀ q ∈ am_KT 8, am_kw 8 q ∈ am_W := (fun _ h => absurd h List.not_mem_nil)
theorem am_KT_ok9 : ∀ q ∈ am_KT 9, am_kw 9 q ∈ am_W := (List.forall_mem_cons.mpr ⟨am_w4 (i := 46) rfl rfl, (fun _ h => absurd h List.not_mem_nil)⟩)
theorem am_KT_ok10 : ∀ q ∈ am_KT 10, am_kw 10 q ∈ am_W := (List.forall_mem_cons.mpr ⟨am_w5 (i := 55) rfl rfl, (List.forall_mem_cons.mpr ⟨am_w7 (i := 3) rfl rfl, (List.forall_mem_cons.mpr ⟨am_w7 (i := 91) rfl rfl, (fun _ h => absurd h List.not_mem_nil)⟩)⟩)⟩)
theorem am_KT_ok11 : ∀ q ∈ am_KT 11, am_kw 11 q ∈ am_W := (fun _ h => absurd h List.not_mem_nil)
theorem am_KT_ok12 : ∀ q ∈ am_KT 12, am_kw 12 q ∈ am_W := (List.forall_mem_cons.mpr ⟨am_w4 (i := 130) rfl rfl, (List.forall_mem_cons.mpr ⟨am_w4 (i := 131) rfl rfl, (List.forall_mem_cons.mpr ⟨am_w4 (i := 132) rfl rfl, (fun _ h => absurd h List.not_mem_nil)⟩)⟩)⟩)
theorem am_KT_ok (o : Nat) : ∀ q ∈ am_KT o, am_kw o q ∈ am_W := by
  by_cases h : o < 13
  · rcases (show o = 0 ∨ o = 1 ∨ o = 2 ∨ o = 3 ∨ o = 4 ∨ o = 5 ∨ o = 6 ∨ o = 7 ∨ o = 8 ∨ o = 9 ∨ o = 10 ∨ o = 11 ∨ o = 12 by omega) with rfl | rfl | rfl | rfl | rfl | rfl | rfl | rfl | rfl | rfl | rfl | rfl | rfl <;> first | exact am_KT_ok0 | exact am_KT_ok1 | exact am_KT_ok2 | exact am_KT_ok3 | exact am_KT_ok4 | exact am_KT_ok5 | exact am_KT_ok6 | exact am_KT_ok7 | exact am_KT_ok8 | exact am_KT_ok9 | exact am_KT_ok10 | exact am_KT_ok11 | exact am_KT_ok12 
  · intro q hq
    unfold am_KT at hq
    rw [List.getD_eq_getElem?_getD, List.getElem?_eq_none (by simp; omega)] at hq
    cases hq
def am_CTN : List (Nat × Nat × Nat × String) := [(9, 11, 78, "OneClock"), (3, 23, 0, "OneClock"), (9, 62, 31, "OneClock"), (9, 69, 73, "OneClock")]
theorem am_nst0 : Cond.methodLinkNest (am_own 9) 11 (am_yn 78) "OneClock" ∈ tables_1 := List.mem_append_left _ (List.mem_of_getElem? (i := 29) rfl)
theorem am_nst1 : Cond.methodLinkNest (am_own 3) 23 (am_yn 0) "OneClock" ∈ tables_1 := List.mem_append_left _ (List.mem_of_getElem? (i := 66) rfl)
theorem am_nst2 : Cond.methodLinkNest (am_own 9) 62 (am_yn 31) "OneClock" ∈ tables_1 := List.mem_append_right _ (List.mem_append_left _ (List.mem_of_getElem? (i := 111) rfl))
theorem am_nst3 : Cond.methodLinkNest (am_own 9) 69 (am_yn 73) "OneClock" ∈ tables_1 := List.mem_append_right _ (List.mem_append_left _ (List.mem_of_getElem? (i := 128) rfl))
theorem am_nst : ∀ q ∈ am_CTN, Cond.methodLinkNest (am_own q.1) q.2.1 (am_yn q.2.2.1) q.2.2.2 ∈ tables_1 := (List.forall_mem_cons.mpr ⟨am_nst0, (List.forall_mem_cons.mpr ⟨am_nst1, (List.forall_mem_cons.mpr ⟨am_nst2, (List.forall_mem_cons.mpr ⟨am_nst3, (fun _ h => absurd h List.not_mem_nil)⟩)⟩)⟩)⟩)
def am_yok (k : Nat) : Prop := Cond.code (am_yn k) (am_by k) (am_mi k).2.2.1 (am_mi k).2.2.2.1 ∈ am_W ∧ Cond.initialized (am_yn k).cls ∈ am_W ∧ (am_sta k = false → Cond.instanceMethod (am_yn k) ∈ am_W ∧ ((am_yn k).name = "<init>" ∨ Cond.selects (am_yn k).cls (am_yn k) (am_yn k) ∈ am_W)) ∧ (am_sta k = true → Cond.static (am_yn k) ∈ am_W) ∧
  (plainName (am_yn k).cls = true ∧ ((am_yn k).cls ≠ "java/lang/invoke/MethodHandle" ∧ (am_yn k).cls ≠ "java/lang/invoke/VarHandle") ∧ (am_yn k).cls = am_own (am_mi k).1)
theorem am_pl (o : Nat) (h : o < 13) (h1 : o ≠ 11) : plainName (am_own o) = true ∧ (am_own o ≠ "java/lang/invoke/MethodHandle" ∧ am_own o ≠ "java/lang/invoke/VarHandle") := by
  have h2 : ∀ o, o < 13 → o ≠ 11 → plainName (am_own o) = true ∧ (am_own o ≠ "java/lang/invoke/MethodHandle" ∧ am_own o ≠ "java/lang/invoke/VarHandle") := by decide +kernel
  exact h2 o h h1
theorem am_plk {k o : Nat} (e : (am_yn k).cls = am_own o) (h : o < 13) (h1 : o ≠ 11) (e2 : (am_mi k).1 = o) : plainName (am_yn k).cls = true ∧ ((am_yn k).cls ≠ "java/lang/invoke/MethodHandle" ∧ (am_yn k).cls ≠ "java/lang/invoke/VarHandle") ∧ (am_yn k).cls = am_own (am_mi k).1 := by
  rw [e, e2]
  exact ⟨(am_pl o h h1).1, (am_pl o h h1).2, rfl⟩
theorem am_y0 : am_yok 0 := ⟨am_w1 (i := 68) rfl rfl, am_w1 (i := 4) rfl rfl, fun _ => ⟨am_w1 (i := 67) rfl rfl, Or.inl rfl⟩, fun h => Bool.noConfusion (h.symm.trans (rfl : am_sta 0 = false)), am_plk (o := 0) rfl (Nat.le_of_ble_eq_true rfl) (by decide) rfl⟩
theorem am_y1 : am_yok 1 := ⟨am_w3 (i := 89) rfl rfl, am_w1 (i := 4) rfl rfl, fun _ => ⟨am_w3 (i := 87) rfl rfl, Or.inr (am_w3 (i := 88) rfl rfl)⟩, fun h => Bool.noConfusion (h.symm.trans (rfl : am_sta 1 = false)), am_plk (o := 0) rfl (Nat.le_of_ble_eq_true rfl) (by decide) rfl⟩
theorem am_y2 : am_yok 2 := ⟨am_w3 (i := 93) rfl rfl, am_w1 (i := 4) rfl rfl, fun _ => ⟨am_w3 (i := 91) rfl rfl, Or.inr (am_w3 (i := 92) rfl rfl)⟩, fun h => Bool.noConfusion (h.symm.trans (rfl : am_sta 2 = false)), am_plk (o := 0) rfl (Nat.le_of_ble_eq_true rfl) (by decide) rfl⟩
theorem am_y3 : am_yok 3 := ⟨am_w3 (i := 110) rfl rfl, am_w1 (i := 4) rfl rfl, fun _ => ⟨am_w3 (i := 108) rfl rfl, Or.inr (am_w3 (i := 109) rfl rfl)⟩, fun h => Bool.noConfusion (h.symm.trans (rfl : am_sta 3 = false)), am_plk (o := 0) rfl (Nat.le_of_ble_eq_true rfl) (by decide) rfl⟩
theorem am_y4 : am_yok 4 := ⟨am_w3 (i := 223) rfl rfl, am_w1 (i := 4) rfl rfl, fun _ => ⟨am_w3 (i := 221) rfl rfl, Or.inr (am_w3 (i := 222) rfl rfl)⟩, fun h => Bool.noConfusion (h.symm.trans (rfl : am_sta 4 = false)), am_plk (o := 0) rfl (Nat.le_of_ble_eq_true rfl) (by decide) rfl⟩
theorem am_y5 : am_yok 5 := ⟨am_w3 (i := 233) rfl rfl, am_w1 (i := 4) rfl rfl, fun _ => ⟨am_w3 (i := 231) rfl rfl, Or.inr (am_w3 (i := 232) rfl rfl)⟩, fun h => Bool.noConfusion (h.symm.trans (rfl : am_sta 5 = false)), am_plk (o := 0) rfl (Nat.le_of_ble_eq_true rfl) (by decide) rfl⟩
theorem am_y6 : am_yok 6 := ⟨am_w2 (i := 15) rfl rfl, am_w1 (i := 7) rfl rfl, fun _ => ⟨am_w2 (i := 14) rfl rfl, Or.inl rfl⟩, fun h => Bool.noConfusion (h.symm.trans (rfl : am_sta 6 = false)), am_plk (o := 1) rfl (Nat.le_of_ble_eq_true rfl) (by decide) rfl⟩
theorem am_y7 : am_yok 7 := ⟨am_w3 (i := 200) rfl rfl, am_w1 (i := 7) rfl rfl, fun _ => ⟨am_w3 (i := 198) rfl rfl, Or.inr (am_w3 (i := 199) rfl rfl)⟩, fun h => Bool.noConfusion (h.symm.trans (rfl : am_sta 7 = false)), am_plk (o := 1) rfl (Nat.le_of_ble_eq_true rfl) (by decide) rfl⟩
theorem am_y8 : am_yok 8 := ⟨am_w3 (i := 119) rfl rfl, am_w1 (i := 7) rfl rfl, fun _ => ⟨am_w3 (i := 117) rfl rfl, Or.inr (am_w3 (i := 118) rfl rfl)⟩, fun h => Bool.noConfusion (h.symm.trans (rfl : am_sta 8 = false)), am_plk (o := 1) rfl (Nat.le_of_ble_eq_true rfl) (by decide) rfl⟩
theorem am_y9 : am_yok 9 := ⟨am_w4 (i := 50) rfl rfl, am_w1 (i := 7) rfl rfl, fun _ => ⟨am_w4 (i := 48) rfl rfl, Or.inr (am_w4 (i := 49) rfl rfl)⟩, fun h => Bool.noConfusion (h.symm.trans (rfl : am_sta 9 = false)), am_plk (o := 1) rfl (Nat.le_of_ble_eq_true rfl) (by decide) rfl⟩
theorem am_y10 : am_yok 10 := ⟨am_w4 (i := 58) rfl rfl, am_w1 (i := 7) rfl rfl, fun _ => ⟨am_w4 (i := 57) rfl rfl, Or.inr (am_wp2 (i := 12) rfl)⟩, fun h => Bool.noConfusion (h.symm.trans (rfl : am_sta 10 = false)), am_plk (o := 1) rfl (Nat.le_of_ble_eq_true rfl) (by decide) rfl⟩
theorem am_y11 : am_yok 11 := ⟨am_w4 (i := 70) rfl rfl, am_w1 (i := 7) rfl rfl, fun _ => ⟨am_w4 (i := 69) rfl rfl, Or.inr (am_wp2 (i := 14) rfl)⟩, fun h => Bool.noConfusion (h.symm.trans (rfl : am_sta 11 = false)), am_plk (o := 1) rfl (Nat.le_of_ble_eq_true rfl) (by decide) rfl⟩
theorem am_y12 : am_yok 12 := ⟨am_w4 (i := 63) rfl rfl, am_w1 (i := 7) rfl rfl, fun _ => ⟨am_w4 (i := 62) rfl rfl, Or.inr (am_wp2 (i := 13) rfl)⟩, fun h => Bool.noConfusion (h.symm.trans (rfl : am_sta 12 = false)), am_plk (o := 1) rfl (Nat.le_of_ble_eq_true rfl) (by decide) rfl⟩
theorem am_y13 : am_yok 13 := ⟨am_w4 (i := 97) rfl rfl, am_w1 (i := 7) rfl rfl, fun _ => ⟨am_w4 (i := 95) rfl rfl, Or.inr (am_w4 (i := 96) rfl rfl)⟩, fun h => Bool.noConfusion (h.symm.trans (rfl : am_sta 13 = false)), am_plk (o := 1) rfl (Nat.le_of_ble_eq_true rfl) (by decide) rfl⟩
theorem am_y14 : am_yok 14 := ⟨am_w4 (i := 114) rfl rfl, am_w1 (i := 7) rfl rfl, fun _ => ⟨am_w4 (i := 112) rfl rfl, Or.inr (am_w4 (i := 113) rfl rfl)⟩, fun h => Bool.noConfusion (h.symm.trans (rfl : am_sta 14 = false)), am_plk (o := 1) rfl (Nat.le_of_ble_eq_true rfl) (by decide) rfl⟩
theorem am_y15 : am_yok 15 := ⟨am_w4 (i := 126) rfl rfl, am_w1 (i := 7) rfl rfl, fun _ => ⟨am_w4 (i := 124) rfl rfl, Or.inr (am_w4 (i := 125) rfl rfl)⟩, fun h => Bool.noConfusion (h.symm.trans (rfl : am_sta 15 = false)), am_plk (o := 1) rfl (Nat.le_of_ble_eq_true rfl) (by decide) rfl⟩
theorem am_y16 : am_yok 16 := ⟨am_w4 (i := 136) rfl rfl, am_w1 (i := 7) rfl rfl, fun _ => ⟨am_w4 (i := 135) rfl rfl, Or.inr (am_wp3 (i := 4) rfl)⟩, fun h => Bool.noConfusion (h.symm.trans (rfl : am_sta 16 = false)), am_plk (o := 1) rfl (Nat.le_of_ble_eq_true rfl) (by decide) rfl⟩
theorem am_y17 : am_yok 17 := ⟨am_w4 (i := 140) rfl rfl, am_w1 (i := 7) rfl rfl, fun _ => ⟨am_w4 (i := 139) rfl rfl, Or.inr (am_wp3 (i := 5) rfl)⟩, fun h => Bool.noConfusion (h.symm.trans (rfl : am_sta 17 = false)), am_plk (o := 1) rfl (Nat.le_of_ble_eq_true rfl) (by decide) rfl⟩
theorem am_y18 : am_yok 18 := ⟨am_w4 (i := 144) rfl rfl, am_w1 (i := 7) rfl rfl, fun _ => ⟨am_w4 (i := 143) rfl rfl, Or.inr (am_wp3 (i := 6) rfl)⟩, fun h => Bool.noConfusion (h.symm.trans (rfl : am_sta 18 = false)), am_plk (o := 1) rfl (Nat.le_of_ble_eq_true rfl) (by decide) rfl⟩
theorem am_y19 : am_yok 19 := ⟨am_w4 (i := 153) rfl rfl, am_w1 (i := 7) rfl rfl, fun _ => ⟨am_w4 (i := 151) rfl rfl, Or.inr (am_w4 (i := 152) rfl rfl)⟩, fun h => Bool.noConfusion (h.symm.trans (rfl : am_sta 19 = false)), am_plk (o := 1) rfl (Nat.le_of_ble_eq_true rfl) (by decide) rfl⟩
theorem am_y20 : am_yok 20 := ⟨am_w4 (i := 162) rfl rfl, am_w1 (i := 7) rfl rfl, fun _ => ⟨am_w4 (i := 160) rfl rfl, Or.inr (am_w4 (i := 161) rfl rfl)⟩, fun h => Bool.noConfusion (h.symm.trans (rfl : am_sta 20 = false)), am_plk (o := 1) rfl (Nat.le_of_ble_eq_true rfl) (by decide) rfl⟩
theorem am_y21 : am_yok 21 := ⟨am_w4 (i := 171) rfl rfl, am_w1 (i := 7) rfl rfl, fun _ => ⟨am_w4 (i := 169) rfl rfl, Or.inr (am_w4 (i := 170) rfl rfl)⟩, fun h => Bool.noConfusion (h.symm.trans (rfl : am_sta 21 = false)), am_plk (o := 1) rfl (Nat.le_of_ble_eq_true rfl) (by decide) rfl⟩
theorem am_y22 : am_yok 22 := ⟨am_w4 (i := 179) rfl rfl, am_w1 (i := 7) rfl rfl, fun _ => ⟨am_w4 (i := 177) rfl rfl, Or.inr (am_w4 (i := 178) rfl rfl)⟩, fun h => Bool.noConfusion (h.symm.trans (rfl : am_sta 22 = false)), am_plk (o := 1) rfl (Nat.le_of_ble_eq_true rfl) (by decide) rfl⟩
theorem am_y23 : am_yok 23 := ⟨am_w4 (i := 187) rfl rfl, am_w1 (i := 7) rfl rfl, fun _ => ⟨am_w4 (i := 185) rfl rfl, Or.inr (am_w4 (i := 186) rfl rfl)⟩, fun h => Bool.noConfusion (h.symm.trans (rfl : am_sta 23 = false)), am_plk (o := 1) rfl (Nat.le_of_ble_eq_true rfl) (by decide) rfl⟩
theorem am_y24 : am_yok 24 := ⟨am_w4 (i := 192) rfl rfl, am_w1 (i := 7) rfl rfl, fun _ => ⟨am_w4 (i := 191) rfl rfl, Or.inr (am_wp3 (i := 7) rfl)⟩, fun h => Bool.noConfusion (h.symm.trans (rfl : am_sta 24 = false)), am_plk (o := 1) rfl (Nat.le_of_ble_eq_true rfl) (by decide) rfl⟩
theorem am_y25 : am_yok 25 := ⟨am_w4 (i := 196) rfl rfl, am_w1 (i := 7) rfl rfl, fun _ => ⟨am_w4 (i := 195) rfl rfl, Or.inr (am_wp3 (i := 8) rfl)⟩, fun h => Bool.noConfusion (h.symm.trans (rfl : am_sta 25 = false)), am_plk (o := 1) rfl (Nat.le_of_ble_eq_true rfl) (by decide) rfl⟩
theorem am_y26 : am_yok 26 := ⟨am_w4 (i := 208) rfl rfl, am_w1 (i := 7) rfl rfl, fun _ => ⟨am_w4 (i := 206) rfl rfl, Or.inr (am_w4 (i := 207) rfl rfl)⟩, fun h => Bool.noConfusion (h.symm.trans (rfl : am_sta 26 = false)), am_plk (o := 1) rfl (Nat.le_of_ble_eq_true rfl) (by decide) rfl⟩
theorem am_y27 : am_yok 27 := ⟨am_w4 (i := 212) rfl rfl, am_w1 (i := 7) rfl rfl, fun _ => ⟨am_w4 (i := 211) rfl rfl, Or.inr (am_wp3 (i := 9) rfl)⟩, fun h => Bool.noConfusion (h.symm.trans (rfl : am_sta 27 = false)), am_plk (o := 1) rfl (Nat.le_of_ble_eq_true rfl) (by decide) rfl⟩
theorem am_y28 : am_yok 28 := ⟨am_w4 (i := 118) rfl rfl, am_w1 (i := 7) rfl rfl, fun _ => ⟨am_w4 (i := 117) rfl rfl, Or.inr (am_wp3 (i := 3) rfl)⟩, fun h => Bool.noConfusion (h.symm.trans (rfl : am_sta 28 = false)), am_plk (o := 1) rfl (Nat.le_of_ble_eq_true rfl) (by decide) rfl⟩
theorem am_y29 : am_yok 29 := ⟨am_w4 (i := 101) rfl rfl, am_w1 (i := 7) rfl rfl, fun _ => ⟨am_w4 (i := 100) rfl rfl, Or.inr (am_wp3 (i := 1) rfl)⟩, fun h => Bool.noConfusion (h.symm.trans (rfl : am_sta 29 = false)), am_plk (o := 1) rfl (Nat.le_of_ble_eq_true rfl) (by decide) rfl⟩
theorem am_y30 : am_yok 30 := ⟨am_w4 (i := 105) rfl rfl, am_w1 (i := 7) rfl rfl, fun _ => ⟨am_w4 (i := 104) rfl rfl, Or.inr (am_wp3 (i := 2) rfl)⟩, fun h => Bool.noConfusion (h.symm.trans (rfl : am_sta 30 = false)), am_plk (o := 1) rfl (Nat.le_of_ble_eq_true rfl) (by decide) rfl⟩
theorem am_y31 : am_yok 31 := ⟨am_w2 (i := 113) rfl rfl, am_w1 (i := 9) rfl rfl, fun _ => ⟨am_w2 (i := 112) rfl rfl, Or.inl rfl⟩, fun h => Bool.noConfusion (h.symm.trans (rfl : am_sta 31 = false)), am_plk (o := 2) rfl (Nat.le_of_ble_eq_true rfl) (by decide) rfl⟩
theorem am_y32 : am_yok 32 := ⟨am_w3 (i := 190) rfl rfl, am_w1 (i := 9) rfl rfl, fun _ => ⟨am_w3 (i := 188) rfl rfl, Or.inr (am_w3 (i := 189) rfl rfl)⟩, fun h => Bool.noConfusion (h.symm.trans (rfl : am_sta 32 = false)), am_plk (o := 2) rfl (Nat.le_of_ble_eq_true rfl) (by decide) rfl⟩
theorem am_y33 : am_yok 33 := ⟨am_w4 (i := 29) rfl rfl, am_w1 (i := 9) rfl rfl, fun _ => ⟨am_w4 (i := 27) rfl rfl, Or.inr (am_w4 (i := 28) rfl rfl)⟩, fun h => Bool.noConfusion (h.symm.trans (rfl : am_sta 33 = false)), am_plk (o := 2) rfl (Nat.le_of_ble_eq_true rfl) (by decide) rfl⟩
theorem am_y34 : am_yok 34 := ⟨am_w3 (i := 123) rfl rfl, am_w1 (i := 9) rfl rfl, fun _ => ⟨am_w3 (i := 121) rfl rfl, Or.inr (am_w3 (i := 122) rfl rfl)⟩, fun h => Bool.noConfusion (h.symm.trans (rfl : am_sta 34 = false)), am_plk (o := 2) rfl (Nat.le_of_ble_eq_true rfl) (by decide) rfl⟩
theorem am_y35 : am_yok 35 := ⟨am_w1 (i := 62) rfl rfl, am_w1 (i := 3) rfl rfl, fun _ => ⟨am_w1 (i := 61) rfl rfl, Or.inl rfl⟩, fun h => Bool.noConfusion (h.symm.trans (rfl : am_sta 35 = false)), am_plk (o := 3) rfl (Nat.le_of_ble_eq_true rfl) (by decide) rfl⟩
theorem am_y36 : am_yok 36 := ⟨am_w1 (i := 91) rfl rfl, am_w1 (i := 3) rfl rfl, fun _ => ⟨am_w1 (i := 89) rfl rfl, Or.inr (am_w1 (i := 90) rfl rfl)⟩, fun h => Bool.noConfusion (h.symm.trans (rfl : am_sta 36 = false)), am_plk (o := 3) rfl (Nat.le_of_ble_eq_true rfl) (by decide) rfl⟩
theorem am_y37 : am_yok 37 := ⟨am_w1 (i := 95) rfl rfl, am_w1 (i := 3) rfl rfl, fun _ => ⟨am_w1 (i := 93) rfl rfl, Or.inr (am_w1 (i := 94) rfl rfl)⟩, fun h => Bool.noConfusion (h.symm.trans (rfl : am_sta 37 = false)), am_plk (o := 3) rfl (Nat.le_of_ble_eq_true rfl) (by decide) rfl⟩
theorem am_y38 : am_yok 38 := ⟨am_w3 (i := 73) rfl rfl, am_w1 (i := 3) rfl rfl, fun _ => ⟨am_w3 (i := 71) rfl rfl, Or.inr (am_w3 (i := 72) rfl rfl)⟩, fun h => Bool.noConfusion (h.symm.trans (rfl : am_sta 38 = false)), am_plk (o := 3) rfl (Nat.le_of_ble_eq_true rfl) (by decide) rfl⟩
theorem am_y39 : am_yok 39 := ⟨am_w3 (i := 106) rfl rfl, am_w1 (i := 3) rfl rfl, fun _ => ⟨am_w3 (i := 104) rfl rfl, Or.inr (am_w3 (i := 105) rfl rfl)⟩, fun h => Bool.noConfusion (h.symm.trans (rfl : am_sta 39 = false)), am_plk (o := 3) rfl (Nat.le_of_ble_eq_true rfl) (by decide) rfl⟩
theorem am_y40 : am_yok 40 := ⟨am_w3 (i := 227) rfl rfl, am_w1 (i := 3) rfl rfl, fun _ => ⟨am_w3 (i := 225) rfl rfl, Or.inr (am_w3 (i := 226) rfl rfl)⟩, fun h => Bool.noConfusion (h.symm.trans (rfl : am_sta 40 = false)), am_plk (o := 3) rfl (Nat.le_of_ble_eq_true rfl) (by decide) rfl⟩
theorem am_y41 : am_yok 41 := ⟨am_w1 (i := 194) rfl rfl, am_w1 (i := 6) rfl rfl, fun _ => ⟨am_w1 (i := 193) rfl rfl, Or.inl rfl⟩, fun h => Bool.noConfusion (h.symm.trans (rfl : am_sta 41 = false)), am_plk (o := 4) rfl (Nat.le_of_ble_eq_true rfl) (by decide) rfl⟩
theorem am_y42 : am_yok 42 := ⟨am_w1 (i := 199) rfl rfl, am_w1 (i := 6) rfl rfl, fun _ => ⟨am_w1 (i := 197) rfl rfl, Or.inr (am_w1 (i := 198) rfl rfl)⟩, fun h => Bool.noConfusion (h.symm.trans (rfl : am_sta 42 = false)), am_plk (o := 4) rfl (Nat.le_of_ble_eq_true rfl) (by decide) rfl⟩
theorem am_y43 : am_yok 43 := ⟨am_w4 (i := 54) rfl rfl, am_w1 (i := 6) rfl rfl, fun _ => ⟨am_w4 (i := 52) rfl rfl, Or.inr (am_w4 (i := 53) rfl rfl)⟩, fun h => Bool.noConfusion (h.symm.trans (rfl : am_sta 43 = false)), am_plk (o := 4) rfl (Nat.le_of_ble_eq_true rfl) (by decide) rfl⟩
theorem am_y44 : am_yok 44 := ⟨am_w3 (i := 194) rfl rfl, am_w1 (i := 6) rfl rfl, fun _ => ⟨am_w3 (i := 192) rfl rfl, Or.inr (am_w3 (i := 193) rfl rfl)⟩, fun h => Bool.noConfusion (h.symm.trans (rfl : am_sta 44 = false)), am_plk (o := 4) rfl (Nat.le_of_ble_eq_true rfl) (by decide) rfl⟩
theorem am_y45 : am_yok 45 := ⟨am_w4 (i := 33) rfl rfl, am_w1 (i := 6) rfl rfl, fun _ => ⟨am_w4 (i := 31) rfl rfl, Or.inr (am_w4 (i := 32) rfl rfl)⟩, fun h => Bool.noConfusion (h.symm.trans (rfl : am_sta 45 = false)), am_plk (o := 4) rfl (Nat.le_of_ble_eq_true rfl) (by decide) rfl⟩
theorem am_y46 : am_yok 46 := ⟨am_w3 (i := 147) rfl rfl, am_w1 (i := 6) rfl rfl, fun _ => ⟨am_w3 (i := 145) rfl rfl, Or.inr (am_w3 (i := 146) rfl rfl)⟩, fun h => Bool.noConfusion (h.symm.trans (rfl : am_sta 46 = false)), am_plk (o := 4) rfl (Nat.le_of_ble_eq_true rfl) (by decide) rfl⟩
theorem am_y47 : am_yok 47 := ⟨am_w3 (i := 181) rfl rfl, am_w1 (i := 6) rfl rfl, fun _ => ⟨am_w3 (i := 179) rfl rfl, Or.inr (am_w3 (i := 180) rfl rfl)⟩, fun h => Bool.noConfusion (h.symm.trans (rfl : am_sta 47 = false)), am_plk (o := 4) rfl (Nat.le_of_ble_eq_true rfl) (by decide) rfl⟩
theorem am_y48 : am_yok 48 := ⟨am_w3 (i := 177) rfl rfl, am_w1 (i := 6) rfl rfl, fun _ => ⟨am_w3 (i := 175) rfl rfl, Or.inr (am_w3 (i := 176) rfl rfl)⟩, fun h => Bool.noConfusion (h.symm.trans (rfl : am_sta 48 = false)), am_plk (o := 4) rfl (Nat.le_of_ble_eq_true rfl) (by decide) rfl⟩
theorem am_y49 : am_yok 49 := ⟨am_w3 (i := 143) rfl rfl, am_w1 (i := 6) rfl rfl, fun _ => ⟨am_w3 (i := 141) rfl rfl, Or.inr (am_w3 (i := 142) rfl rfl)⟩, fun h => Bool.noConfusion (h.symm.trans (rfl : am_sta 49 = false)), am_plk (o := 4) rfl (Nat.le_of_ble_eq_true rfl) (by decide) rfl⟩
theorem am_y50 : am_yok 50 := ⟨am_w3 (i := 151) rfl rfl, am_w1 (i := 6) rfl rfl, fun _ => ⟨am_w3 (i := 149) rfl rfl, Or.inr (am_w3 (i := 150) rfl rfl)⟩, fun h => Bool.noConfusion (h.symm.trans (rfl : am_sta 50 = false)), am_plk (o := 4) rfl (Nat.le_of_ble_eq_true rfl) (by decide) rfl⟩
theorem am_y51 : am_yok 51 := ⟨am_w3 (i := 204) rfl rfl, am_w1 (i := 6) rfl rfl, fun _ => ⟨am_w3 (i := 202) rfl rfl, Or.inr (am_w3 (i := 203) rfl rfl)⟩, fun h => Bool.noConfusion (h.symm.trans (rfl : am_sta 51 = false)), am_plk (o := 4) rfl (Nat.le_of_ble_eq_true rfl) (by decide) rfl⟩
theorem am_y52 : am_yok 52 := ⟨am_w3 (i := 218) rfl rfl, am_w1 (i := 6) rfl rfl, fun _ => ⟨am_w3 (i := 216) rfl rfl, Or.inr (am_w3 (i := 217) rfl rfl)⟩, fun h => Bool.noConfusion (h.symm.trans (rfl : am_sta 52 = false)), am_plk (o := 4) rfl (Nat.le_of_ble_eq_true rfl) (by decide) rfl⟩
theorem am_y53 : am_yok 53 := ⟨am_w4 (i := 74) rfl rfl, am_w1 (i := 6) rfl rfl, fun _ => ⟨am_w4 (i := 72) rfl rfl, Or.inr (am_w4 (i := 73) rfl rfl)⟩, fun h => Bool.noConfusion (h.symm.trans (rfl : am_sta 53 = false)), am_plk (o := 4) rfl (Nat.le_of_ble_eq_true rfl) (by decide) rfl⟩
theorem am_y54 : am_yok 54 := ⟨am_w3 (i := 210) rfl rfl, am_w1 (i := 6) rfl rfl, fun _ => ⟨am_w3 (i := 208) rfl rfl, Or.inr (am_w3 (i := 209) rfl rfl)⟩, fun h => Bool.noConfusion (h.symm.trans (rfl : am_sta 54 = false)), am_plk (o := 4) rfl (Nat.le_of_ble_eq_true rfl) (by decide) rfl⟩
theorem am_y55 : am_yok 55 := ⟨am_w4 (i := 7) rfl rfl, am_w1 (i := 6) rfl rfl, fun _ => ⟨am_w4 (i := 5) rfl rfl, Or.inr (am_w4 (i := 6) rfl rfl)⟩, fun h => Bool.noConfusion (h.symm.trans (rfl : am_sta 55 = false)), am_plk (o := 4) rfl (Nat.le_of_ble_eq_true rfl) (by decide) rfl⟩
theorem am_y56 : am_yok 56 := ⟨am_w4 (i := 16) rfl rfl, am_w1 (i := 6) rfl rfl, fun _ => ⟨am_w4 (i := 14) rfl rfl, Or.inr (am_w4 (i := 15) rfl rfl)⟩, fun h => Bool.noConfusion (h.symm.trans (rfl : am_sta 56 = false)), am_plk (o := 4) rfl (Nat.le_of_ble_eq_true rfl) (by decide) rfl⟩
theorem am_y57 : am_yok 57 := ⟨am_w3 (i := 214) rfl rfl, am_w1 (i := 6) rfl rfl, fun _ => ⟨am_w3 (i := 213) rfl rfl, Or.inr (am_wp2 (i := 10) rfl)⟩, fun h => Bool.noConfusion (h.symm.trans (rfl : am_sta 57 = false)), am_plk (o := 4) rfl (Nat.le_of_ble_eq_true rfl) (by decide) rfl⟩
theorem am_y58 : am_yok 58 := ⟨am_w1 (i := 159) rfl rfl, am_w1 (i := 5) rfl rfl, fun _ => ⟨am_w1 (i := 158) rfl rfl, Or.inl rfl⟩, fun h => Bool.noConfusion (h.symm.trans (rfl : am_sta 58 = false)), am_plk (o := 5) rfl (Nat.le_of_ble_eq_true rfl) (by decide) rfl⟩
theorem am_y59 : am_yok 59 := ⟨am_w2 (i := 188) rfl rfl, am_w1 (i := 5) rfl rfl, fun _ => ⟨am_w2 (i := 186) rfl rfl, Or.inr (am_w2 (i := 187) rfl rfl)⟩, fun h => Bool.noConfusion (h.symm.trans (rfl : am_sta 59 = false)), am_plk (o := 5) rfl (Nat.le_of_ble_eq_true rfl) (by decide) rfl⟩
theorem am_y60 : am_yok 60 := ⟨am_w2 (i := 192) rfl rfl, am_w1 (i := 5) rfl rfl, fun _ => ⟨am_w2 (i := 191) rfl rfl, Or.inr (am_wp1 (i := 0) rfl)⟩, fun h => Bool.noConfusion (h.symm.trans (rfl : am_sta 60 = false)), am_plk (o := 5) rfl (Nat.le_of_ble_eq_true rfl) (by decide) rfl⟩
theorem am_y61 : am_yok 61 := ⟨am_w3 (i := 41) rfl rfl, am_w1 (i := 5) rfl rfl, fun _ => ⟨am_w3 (i := 40) rfl rfl, Or.inr (am_wp1 (i := 10) rfl)⟩, fun h => Bool.noConfusion (h.symm.trans (rfl : am_sta 61 = false)), am_plk (o := 5) rfl (Nat.le_of_ble_eq_true rfl) (by decide) rfl⟩
theorem am_y62 : am_yok 62 := ⟨am_w3 (i := 102) rfl rfl, am_w1 (i := 5) rfl rfl, fun _ => ⟨am_w3 (i := 101) rfl rfl, Or.inr (am_wp2 (i := 5) rfl)⟩, fun h => Bool.noConfusion (h.symm.trans (rfl : am_sta 62 = false)), am_plk (o := 5) rfl (Nat.le_of_ble_eq_true rfl) (by decide) rfl⟩
theorem am_y63 : am_yok 63 := ⟨am_w3 (i := 97) rfl rfl, am_w1 (i := 5) rfl rfl, fun _ => ⟨am_w3 (i := 96) rfl rfl, Or.inr (am_wp2 (i := 4) rfl)⟩, fun h => Bool.noConfusion (h.symm.trans (rfl : am_sta 63 = false)), am_plk (o := 5) rfl (Nat.le_of_ble_eq_true rfl) (by decide) rfl⟩
theorem am_y64 : am_yok 64 := ⟨am_w3 (i := 69) rfl rfl, am_w1 (i := 5) rfl rfl, fun _ => ⟨am_w3 (i := 68) rfl rfl, Or.inr (am_wp2 (i := 0) rfl)⟩, fun h => Bool.noConfusion (h.symm.trans (rfl : am_sta 64 = false)), am_plk (o := 5) rfl (Nat.le_of_ble_eq_true rfl) (by decide) rfl⟩
theorem am_y65 : am_yok 65 := ⟨am_w3 (i := 77) rfl rfl, am_w1 (i := 5) rfl rfl, fun _ => ⟨am_w3 (i := 76) rfl rfl, Or.inr (am_wp2 (i := 1) rfl)⟩, fun h => Bool.noConfusion (h.symm.trans (rfl : am_sta 65 = false)), am_plk (o := 5) rfl (Nat.le_of_ble_eq_true rfl) (by decide) rfl⟩
theorem am_y66 : am_yok 66 := ⟨am_w3 (i := 81) rfl rfl, am_w1 (i := 5) rfl rfl, fun _ => ⟨am_w3 (i := 80) rfl rfl, Or.inr (am_wp2 (i := 2) rfl)⟩, fun h => Bool.noConfusion (h.symm.trans (rfl : am_sta 66 = false)), am_plk (o := 5) rfl (Nat.le_of_ble_eq_true rfl) (by decide) rfl⟩
theorem am_y67 : am_yok 67 := ⟨am_w3 (i := 85) rfl rfl, am_w1 (i := 5) rfl rfl, fun _ => ⟨am_w3 (i := 84) rfl rfl, Or.inr (am_wp2 (i := 3) rfl)⟩, fun h => Bool.noConfusion (h.symm.trans (rfl : am_sta 67 = false)), am_plk (o := 5) rfl (Nat.le_of_ble_eq_true rfl) (by decide) rfl⟩
theorem am_y68 : am_yok 68 := ⟨am_w3 (i := 65) rfl rfl, am_w1 (i := 5) rfl rfl, fun _ => ⟨am_w3 (i := 64) rfl rfl, Or.inr (am_wp1 (i := 15) rfl)⟩, fun h => Bool.noConfusion (h.symm.trans (rfl : am_sta 68 = false)), am_plk (o := 5) rfl (Nat.le_of_ble_eq_true rfl) (by decide) rfl⟩
theorem am_y69 : am_yok 69 := ⟨am_w3 (i := 53) rfl rfl, am_w1 (i := 5) rfl rfl, fun _ => ⟨am_w3 (i := 52) rfl rfl, Or.inr (am_wp1 (i := 13) rfl)⟩, fun h => Bool.noConfusion (h.symm.trans (rfl : am_sta 69 = false)), am_plk (o := 5) rfl (Nat.le_of_ble_eq_true rfl) (by decide) rfl⟩
theorem am_y70 : am_yok 70 := ⟨am_w3 (i := 49) rfl rfl, am_w1 (i := 5) rfl rfl, fun _ => ⟨am_w3 (i := 48) rfl rfl, Or.inr (am_wp1 (i := 12) rfl)⟩, fun h => Bool.noConfusion (h.symm.trans (rfl : am_sta 70 = false)), am_plk (o := 5) rfl (Nat.le_of_ble_eq_true rfl) (by decide) rfl⟩
theorem am_y71 : am_yok 71 := ⟨am_w3 (i := 45) rfl rfl, am_w1 (i := 5) rfl rfl, fun _ => ⟨am_w3 (i := 44) rfl rfl, Or.inr (am_wp1 (i := 11) rfl)⟩, fun h => Bool.noConfusion (h.symm.trans (rfl : am_sta 71 = false)), am_plk (o := 5) rfl (Nat.le_of_ble_eq_true rfl) (by decide) rfl⟩
theorem am_y72 : am_yok 72 := ⟨am_w3 (i := 61) rfl rfl, am_w1 (i := 5) rfl rfl, fun _ => ⟨am_w3 (i := 60) rfl rfl, Or.inr (am_wp1 (i := 14) rfl)⟩, fun h => Bool.noConfusion (h.symm.trans (rfl : am_sta 72 = false)), am_plk (o := 5) rfl (Nat.le_of_ble_eq_true rfl) (by decide) rfl⟩
theorem am_y73 : am_yok 73 := ⟨am_w2 (i := 130) rfl rfl, am_w1 (i := 10) rfl rfl, fun _ => ⟨am_w2 (i := 129) rfl rfl, Or.inl rfl⟩, fun h => Bool.noConfusion (h.symm.trans (rfl : am_sta 73 = false)), am_plk (o := 6) rfl (Nat.le_of_ble_eq_true rfl) (by decide) rfl⟩
theorem am_y74 : am_yok 74 := ⟨am_w5 (i := 19) rfl rfl, am_w1 (i := 10) rfl rfl, fun _ => ⟨am_w5 (i := 17) rfl rfl, Or.inr (am_w5 (i := 18) rfl rfl)⟩, fun h => Bool.noConfusion (h.symm.trans (rfl : am_sta 74 = false)), am_plk (o := 6) rfl (Nat.le_of_ble_eq_true rfl) (by decide) rfl⟩
theorem am_y75 : am_yok 75 := ⟨am_w5 (i := 28) rfl rfl, am_w1 (i := 10) rfl rfl, fun _ => ⟨am_w5 (i := 26) rfl rfl, Or.inr (am_w5 (i := 27) rfl rfl)⟩, fun h => Bool.noConfusion (h.symm.trans (rfl : am_sta 75 = false)), am_plk (o := 6) rfl (Nat.le_of_ble_eq_true rfl) (by decide) rfl⟩
theorem am_y76 : am_yok 76 := ⟨am_w5 (i := 38) rfl rfl, am_w1 (i := 10) rfl rfl, fun _ => ⟨am_w5 (i := 36) rfl rfl, Or.inr (am_w5 (i := 37) rfl rfl)⟩, fun h => Bool.noConfusion (h.symm.trans (rfl : am_sta 76 = false)), am_plk (o := 6) rfl (Nat.le_of_ble_eq_true rfl) (by decide) rfl⟩
theorem am_y77 : am_yok 77 := ⟨am_w3 (i := 127) rfl rfl, am_w1 (i := 10) rfl rfl, fun _ => ⟨am_w3 (i := 125) rfl rfl, Or.inr (am_w3 (i := 126) rfl rfl)⟩, fun h => Bool.noConfusion (h.symm.trans (rfl : am_sta 77 = false)), am_plk (o := 6) rfl (Nat.le_of_ble_eq_true rfl) (by decide) rfl⟩
theorem am_y78 : am_yok 78 := ⟨am_w1 (i := 31) rfl rfl, am_w1 (i := 2) rfl rfl, fun _ => ⟨am_w1 (i := 30) rfl rfl, Or.inl rfl⟩, fun h => Bool.noConfusion (h.symm.trans (rfl : am_sta 78 = false)), am_plk (o := 7) rfl (Nat.le_of_ble_eq_true rfl) (by decide) rfl⟩
theorem am_y79 : am_yok 79 := ⟨am_w2 (i := 176) rfl rfl, am_w1 (i := 2) rfl rfl, fun _ => ⟨am_w2 (i := 174) rfl rfl, Or.inr (am_w2 (i := 175) rfl rfl)⟩, fun h => Bool.noConfusion (h.symm.trans (rfl : am_sta 79 = false)), am_plk (o := 7) rfl (Nat.le_of_ble_eq_true rfl) (by decide) rfl⟩
theorem am_y80 : am_yok 80 := ⟨am_w2 (i := 197) rfl rfl, am_w1 (i := 2) rfl rfl, fun _ => ⟨am_w2 (i := 195) rfl rfl, Or.inr (am_w2 (i := 196) rfl rfl)⟩, fun h => Bool.noConfusion (h.symm.trans (rfl : am_sta 80 = false)), am_plk (o := 7) rfl (Nat.le_of_ble_eq_true rfl) (by decide) rfl⟩
theorem am_y81 : am_yok 81 := ⟨am_w2 (i := 201) rfl rfl, am_w1 (i := 2) rfl rfl, fun _ => ⟨am_w2 (i := 200) rfl rfl, Or.inr (am_wp1 (i := 1) rfl)⟩, fun h => Bool.noConfusion (h.symm.trans (rfl : am_sta 81 = false)), am_plk (o := 7) rfl (Nat.le_of_ble_eq_true rfl) (by decide) rfl⟩
theorem am_y82 : am_yok 82 := ⟨am_w2 (i := 209) rfl rfl, am_w1 (i := 2) rfl rfl, fun _ => ⟨am_w2 (i := 208) rfl rfl, Or.inr (am_wp1 (i := 3) rfl)⟩, fun h => Bool.noConfusion (h.symm.trans (rfl : am_sta 82 = false)), am_plk (o := 7) rfl (Nat.le_of_ble_eq_true rfl) (by decide) rfl⟩
theorem am_y83 : am_yok 83 := ⟨am_w2 (i := 224) rfl rfl, am_w1 (i := 2) rfl rfl, fun _ => ⟨am_w2 (i := 223) rfl rfl, Or.inr (am_wp1 (i := 6) rfl)⟩, fun h => Bool.noConfusion (h.symm.trans (rfl : am_sta 83 = false)), am_plk (o := 7) rfl (Nat.le_of_ble_eq_true rfl) (by decide) rfl⟩
theorem am_y84 : am_yok 84 := ⟨am_w2 (i := 232) rfl rfl, am_w1 (i := 2) rfl rfl, fun _ => ⟨am_w2 (i := 231) rfl rfl, Or.inr (am_wp1 (i := 8) rfl)⟩, fun h => Bool.noConfusion (h.symm.trans (rfl : am_sta 84 = false)), am_plk (o := 7) rfl (Nat.le_of_ble_eq_true rfl) (by decide) rfl⟩
theorem am_y85 : am_yok 85 := ⟨am_w3 (i := 37) rfl rfl, am_w1 (i := 2) rfl rfl, fun _ => ⟨am_w3 (i := 36) rfl rfl, Or.inr (am_wp1 (i := 9) rfl)⟩, fun h => Bool.noConfusion (h.symm.trans (rfl : am_sta 85 = false)), am_plk (o := 7) rfl (Nat.le_of_ble_eq_true rfl) (by decide) rfl⟩
theorem am_y86 : am_yok 86 := ⟨am_w3 (i := 57) rfl rfl, am_w1 (i := 2) rfl rfl, fun _ => ⟨am_w3 (i := 55) rfl rfl, Or.inr (am_w3 (i := 56) rfl rfl)⟩, fun h => Bool.noConfusion (h.symm.trans (rfl : am_sta 86 = false)), am_plk (o := 7) rfl (Nat.le_of_ble_eq_true rfl) (by decide) rfl⟩
theorem am_y87 : am_yok 87 := ⟨am_w2 (i := 205) rfl rfl, am_w1 (i := 2) rfl rfl, fun _ => ⟨am_w2 (i := 204) rfl rfl, Or.inr (am_wp1 (i := 2) rfl)⟩, fun h => Bool.noConfusion (h.symm.trans (rfl : am_sta 87 = false)), am_plk (o := 7) rfl (Nat.le_of_ble_eq_true rfl) (by decide) rfl⟩
theorem am_y88 : am_yok 88 := ⟨am_w2 (i := 213) rfl rfl, am_w1 (i := 2) rfl rfl, fun _ => ⟨am_w2 (i := 212) rfl rfl, Or.inr (am_wp1 (i := 4) rfl)⟩, fun h => Bool.noConfusion (h.symm.trans (rfl : am_sta 88 = false)), am_plk (o := 7) rfl (Nat.le_of_ble_eq_true rfl) (by decide) rfl⟩
theorem am_y89 : am_yok 89 := ⟨am_w2 (i := 217) rfl rfl, am_w1 (i := 2) rfl rfl, fun _ => ⟨am_w2 (i := 216) rfl rfl, Or.inr (am_wp1 (i := 5) rfl)⟩, fun h => Bool.noConfusion (h.symm.trans (rfl : am_sta 89 = false)), am_plk (o := 7) rfl (Nat.le_of_ble_eq_true rfl) (by decide) rfl⟩
theorem am_y90 : am_yok 90 := ⟨am_w2 (i := 228) rfl rfl, am_w1 (i := 2) rfl rfl, fun _ => ⟨am_w2 (i := 227) rfl rfl, Or.inr (am_wp1 (i := 7) rfl)⟩, fun h => Bool.noConfusion (h.symm.trans (rfl : am_sta 90 = false)), am_plk (o := 7) rfl (Nat.le_of_ble_eq_true rfl) (by decide) rfl⟩
theorem am_y91 : am_yok 91 := ⟨am_w2 (i := 85) rfl rfl, am_w1 (i := 8) rfl rfl, fun _ => ⟨am_w2 (i := 84) rfl rfl, Or.inl rfl⟩, fun h => Bool.noConfusion (h.symm.trans (rfl : am_sta 91 = false)), am_plk (o := 8) rfl (Nat.le_of_ble_eq_true rfl) (by decide) rfl⟩
theorem am_y92 : am_yok 92 := ⟨am_w4 (i := 220) rfl rfl, am_w1 (i := 8) rfl rfl, fun _ => ⟨am_w4 (i := 218) rfl rfl, Or.inr (am_w4 (i := 219) rfl rfl)⟩, fun h => Bool.noConfusion (h.symm.trans (rfl : am_sta 92 = false)), am_plk (o := 8) rfl (Nat.le_of_ble_eq_true rfl) (by decide) rfl⟩
theorem am_y93 : am_yok 93 := ⟨am_w4 (i := 232) rfl rfl, am_w1 (i := 8) rfl rfl, fun _ => ⟨am_w4 (i := 230) rfl rfl, Or.inr (am_w4 (i := 231) rfl rfl)⟩, fun h => Bool.noConfusion (h.symm.trans (rfl : am_sta 93 = false)), am_plk (o := 8) rfl (Nat.le_of_ble_eq_true rfl) (by decide) rfl⟩
theorem am_y94 : am_yok 94 := ⟨am_w4 (i := 237) rfl rfl, am_w1 (i := 8) rfl rfl, fun _ => ⟨am_w4 (i := 236) rfl rfl, Or.inr (am_wp3 (i := 10) rfl)⟩, fun h => Bool.noConfusion (h.symm.trans (rfl : am_sta 94 = false)), am_plk (o := 8) rfl (Nat.le_of_ble_eq_true rfl) (by decide) rfl⟩
theorem am_y95 : am_yok 95 := ⟨am_w5 (i := 4) rfl rfl, am_w1 (i := 8) rfl rfl, fun _ => ⟨am_w5 (i := 3) rfl rfl, Or.inr (am_wp3 (i := 11) rfl)⟩, fun h => Bool.noConfusion (h.symm.trans (rfl : am_sta 95 = false)), am_plk (o := 8) rfl (Nat.le_of_ble_eq_true rfl) (by decide) rfl⟩
theorem am_y96 : am_yok 96 := ⟨am_w1 (i := 23) rfl rfl, am_w1 (i := 1) rfl rfl, fun _ => ⟨am_w1 (i := 22) rfl rfl, Or.inl rfl⟩, fun h => Bool.noConfusion (h.symm.trans (rfl : am_sta 96 = false)), am_plk (o := 9) rfl (Nat.le_of_ble_eq_true rfl) (by decide) rfl⟩
theorem am_y97 : am_yok 97 := ⟨am_w2 (i := 172) rfl rfl, am_w1 (i := 1) rfl rfl, fun _ => ⟨am_w2 (i := 170) rfl rfl, Or.inr (am_w2 (i := 171) rfl rfl)⟩, fun h => Bool.noConfusion (h.symm.trans (rfl : am_sta 97 = false)), am_plk (o := 9) rfl (Nat.le_of_ble_eq_true rfl) (by decide) rfl⟩
theorem am_y98 : am_yok 98 := ⟨am_w2 (i := 180) rfl rfl, am_w1 (i := 1) rfl rfl, fun _ => ⟨am_w2 (i := 178) rfl rfl, Or.inr (am_w2 (i := 179) rfl rfl)⟩, fun h => Bool.noConfusion (h.symm.trans (rfl : am_sta 98 = false)), am_plk (o := 9) rfl (Nat.le_of_ble_eq_true rfl) (by decide) rfl⟩
theorem am_y99 : am_yok 99 := ⟨am_w2 (i := 184) rfl rfl, am_w1 (i := 1) rfl rfl, fun _ => ⟨am_w2 (i := 182) rfl rfl, Or.inr (am_w2 (i := 183) rfl rfl)⟩, fun h => Bool.noConfusion (h.symm.trans (rfl : am_sta 99 = false)), am_plk (o := 9) rfl (Nat.le_of_ble_eq_true rfl) (by decide) rfl⟩
theorem am_y100 : am_yok 100 := ⟨am_w3 (i := 131) rfl rfl, am_w1 (i := 1) rfl rfl, fun _ => ⟨am_w3 (i := 129) rfl rfl, Or.inr (am_w3 (i := 130) rfl rfl)⟩, fun h => Bool.noConfusion (h.symm.trans (rfl : am_sta 100 = false)), am_plk (o := 9) rfl (Nat.le_of_ble_eq_true rfl) (by decide) rfl⟩
theorem am_y101 : am_yok 101 := ⟨am_w3 (i := 135) rfl rfl, am_w1 (i := 1) rfl rfl, fun _ => ⟨am_w3 (i := 133) rfl rfl, Or.inr (am_w3 (i := 134) rfl rfl)⟩, fun h => Bool.noConfusion (h.symm.trans (rfl : am_sta 101 = false)), am_plk (o := 9) rfl (Nat.le_of_ble_eq_true rfl) (by decide) rfl⟩
theorem am_y102 : am_yok 102 := ⟨am_w3 (i := 161) rfl rfl, am_w1 (i := 1) rfl rfl, fun _ => ⟨am_w3 (i := 159) rfl rfl, Or.inr (am_w3 (i := 160) rfl rfl)⟩, fun h => Bool.noConfusion (h.symm.trans (rfl : am_sta 102 = false)), am_plk (o := 9) rfl (Nat.le_of_ble_eq_true rfl) (by decide) rfl⟩
theorem am_y103 : am_yok 103 := ⟨am_w3 (i := 165) rfl rfl, am_w1 (i := 1) rfl rfl, fun _ => ⟨am_w3 (i := 163) rfl rfl, Or.inr (am_w3 (i := 164) rfl rfl)⟩, fun h => Bool.noConfusion (h.symm.trans (rfl : am_sta 103 = false)), am_plk (o := 9) rfl (Nat.le_of_ble_eq_true rfl) (by decide) rfl⟩
theorem am_y104 : am_yok 104 := ⟨am_w4 (i := 3) rfl rfl, am_w1 (i := 1) rfl rfl, fun _ => ⟨am_w4 (i := 1) rfl rfl, Or.inr (am_w4 (i := 2) rfl rfl)⟩, fun h => Bool.noConfusion (h.symm.trans (rfl : am_sta 104 = false)), am_plk (o := 9) rfl (Nat.le_of_ble_eq_true rfl) (by decide) rfl⟩
theorem am_y105 : am_yok 105 := ⟨am_w4 (i := 12) rfl rfl, am_w1 (i := 1) rfl rfl, fun _ => ⟨am_w4 (i := 10) rfl rfl, Or.inr (am_w4 (i := 11) rfl rfl)⟩, fun h => Bool.noConfusion (h.symm.trans (rfl : am_sta 105 = false)), am_plk (o := 9) rfl (Nat.le_of_ble_eq_true rfl) (by decide) rfl⟩
theorem am_y106 : am_yok 106 := ⟨am_w4 (i := 20) rfl rfl, am_w1 (i := 1) rfl rfl, fun _ => ⟨am_w4 (i := 18) rfl rfl, Or.inr (am_w4 (i := 19) rfl rfl)⟩, fun h => Bool.noConfusion (h.symm.trans (rfl : am_sta 106 = false)), am_plk (o := 9) rfl (Nat.le_of_ble_eq_true rfl) (by decide) rfl⟩
theorem am_y107 : am_yok 107 := ⟨am_w4 (i := 25) rfl rfl, am_w1 (i := 1) rfl rfl, fun _ => ⟨am_w4 (i := 23) rfl rfl, Or.inr (am_w4 (i := 24) rfl rfl)⟩, fun h => Bool.noConfusion (h.symm.trans (rfl : am_sta 107 = false)), am_plk (o := 9) rfl (Nat.le_of_ble_eq_true rfl) (by decide) rfl⟩
theorem am_y108 : am_yok 108 := ⟨am_w4 (i := 37) rfl rfl, am_w1 (i := 1) rfl rfl, fun _ => ⟨am_w4 (i := 35) rfl rfl, Or.inr (am_w4 (i := 36) rfl rfl)⟩, fun h => Bool.noConfusion (h.symm.trans (rfl : am_sta 108 = false)), am_plk (o := 9) rfl (Nat.le_of_ble_eq_true rfl) (by decide) rfl⟩
theorem am_y109 : am_yok 109 := ⟨am_w4 (i := 41) rfl rfl, am_w1 (i := 1) rfl rfl, fun _ => ⟨am_w4 (i := 39) rfl rfl, Or.inr (am_w4 (i := 40) rfl rfl)⟩, fun h => Bool.noConfusion (h.symm.trans (rfl : am_sta 109 = false)), am_plk (o := 9) rfl (Nat.le_of_ble_eq_true rfl) (by decide) rfl⟩
theorem am_y110 : am_yok 110 := ⟨am_w4 (i := 81) rfl rfl, am_w1 (i := 1) rfl rfl, fun _ => ⟨am_w4 (i := 79) rfl rfl, Or.inr (am_w4 (i := 80) rfl rfl)⟩, fun h => Bool.noConfusion (h.symm.trans (rfl : am_sta 110 = false)), am_plk (o := 9) rfl (Nat.le_of_ble_eq_true rfl) (by decide) rfl⟩
theorem am_y111 : am_yok 111 := ⟨am_w4 (i := 85) rfl rfl, am_w1 (i := 1) rfl rfl, fun _ => ⟨am_w4 (i := 83) rfl rfl, Or.inr (am_w4 (i := 84) rfl rfl)⟩, fun h => Bool.noConfusion (h.symm.trans (rfl : am_sta 111 = false)), am_plk (o := 9) rfl (Nat.le_of_ble_eq_true rfl) (by decide) rfl⟩
theorem am_y112 : am_yok 112 := ⟨am_w4 (i := 110) rfl rfl, am_w1 (i := 1) rfl rfl, fun _ => ⟨am_w4 (i := 108) rfl rfl, Or.inr (am_w4 (i := 109) rfl rfl)⟩, fun h => Bool.noConfusion (h.symm.trans (rfl : am_sta 112 = false)), am_plk (o := 9) rfl (Nat.le_of_ble_eq_true rfl) (by decide) rfl⟩
theorem am_y113 : am_yok 113 := ⟨am_w4 (i := 122) rfl rfl, am_w1 (i := 1) rfl rfl, fun _ => ⟨am_w4 (i := 120) rfl rfl, Or.inr (am_w4 (i := 121) rfl rfl)⟩, fun h => Bool.noConfusion (h.symm.trans (rfl : am_sta 113 = false)), am_plk (o := 9) rfl (Nat.le_of_ble_eq_true rfl) (by decide) rfl⟩
theorem am_y114 : am_yok 114 := ⟨am_w4 (i := 149) rfl rfl, am_w1 (i := 1) rfl rfl, fun _ => ⟨am_w4 (i := 147) rfl rfl, Or.inr (am_w4 (i := 148) rfl rfl)⟩, fun h => Bool.noConfusion (h.symm.trans (rfl : am_sta 114 = false)), am_plk (o := 9) rfl (Nat.le_of_ble_eq_true rfl) (by decide) rfl⟩
theorem am_y115 : am_yok 115 := ⟨am_w4 (i := 158) rfl rfl, am_w1 (i := 1) rfl rfl, fun _ => ⟨am_w4 (i := 156) rfl rfl, Or.inr (am_w4 (i := 157) rfl rfl)⟩, fun h => Bool.noConfusion (h.symm.trans (rfl : am_sta 115 = false)), am_plk (o := 9) rfl (Nat.le_of_ble_eq_true rfl) (by decide) rfl⟩
theorem am_y116 : am_yok 116 := ⟨am_w4 (i := 167) rfl rfl, am_w1 (i := 1) rfl rfl, fun _ => ⟨am_w4 (i := 165) rfl rfl, Or.inr (am_w4 (i := 166) rfl rfl)⟩, fun h => Bool.noConfusion (h.symm.trans (rfl : am_sta 116 = false)), am_plk (o := 9) rfl (Nat.le_of_ble_eq_true rfl) (by decide) rfl⟩
theorem am_y117 : am_yok 117 := ⟨am_w4 (i := 175) rfl rfl, am_w1 (i := 1) rfl rfl, fun _ => ⟨am_w4 (i := 173) rfl rfl, Or.inr (am_w4 (i := 174) rfl rfl)⟩, fun h => Bool.noConfusion (h.symm.trans (rfl : am_sta 117 = false)), am_plk (o := 9) rfl (Nat.le_of_ble_eq_true rfl) (by decide) rfl⟩
theorem am_y118 : am_yok 118 := ⟨am_w4 (i := 183) rfl rfl, am_w1 (i := 1) rfl rfl, fun _ => ⟨am_w4 (i := 181) rfl rfl, Or.inr (am_w4 (i := 182) rfl rfl)⟩, fun h => Bool.noConfusion (h.symm.trans (rfl : am_sta 118 = false)), am_plk (o := 9) rfl (Nat.le_of_ble_eq_true rfl) (by decide) rfl⟩
theorem am_y119 : am_yok 119 := ⟨am_w4 (i := 200) rfl rfl, am_w1 (i := 1) rfl rfl, fun _ => ⟨am_w4 (i := 198) rfl rfl, Or.inr (am_w4 (i := 199) rfl rfl)⟩, fun h => Bool.noConfusion (h.symm.trans (rfl : am_sta 119 = false)), am_plk (o := 9) rfl (Nat.le_of_ble_eq_true rfl) (by decide) rfl⟩
theorem am_y120 : am_yok 120 := ⟨am_w4 (i := 204) rfl rfl, am_w1 (i := 1) rfl rfl, fun _ => ⟨am_w4 (i := 202) rfl rfl, Or.inr (am_w4 (i := 203) rfl rfl)⟩, fun h => Bool.noConfusion (h.symm.trans (rfl : am_sta 120 = false)), am_plk (o := 9) rfl (Nat.le_of_ble_eq_true rfl) (by decide) rfl⟩
theorem am_y121 : am_yok 121 := ⟨am_w4 (i := 216) rfl rfl, am_w1 (i := 1) rfl rfl, fun _ => ⟨am_w4 (i := 214) rfl rfl, Or.inr (am_w4 (i := 215) rfl rfl)⟩, fun h => Bool.noConfusion (h.symm.trans (rfl : am_sta 121 = false)), am_plk (o := 9) rfl (Nat.le_of_ble_eq_true rfl) (by decide) rfl⟩
theorem am_y122 : am_yok 122 := ⟨am_w4 (i := 224) rfl rfl, am_w1 (i := 1) rfl rfl, fun _ => ⟨am_w4 (i := 222) rfl rfl, Or.inr (am_w4 (i := 223) rfl rfl)⟩, fun h => Bool.noConfusion (h.symm.trans (rfl : am_sta 122 = false)), am_plk (o := 9) rfl (Nat.le_of_ble_eq_true rfl) (by decide) rfl⟩
theorem am_y123 : am_yok 123 := ⟨am_w4 (i := 228) rfl rfl, am_w1 (i := 1) rfl rfl, fun _ => ⟨am_w4 (i := 226) rfl rfl, Or.inr (am_w4 (i := 227) rfl rfl)⟩, fun h => Bool.noConfusion (h.symm.trans (rfl : am_sta 123 = false)), am_plk (o := 9) rfl (Nat.le_of_ble_eq_true rfl) (by decide) rfl⟩
theorem am_y124 : am_yok 124 := ⟨am_w5 (i := 11) rfl rfl, am_w1 (i := 1) rfl rfl, fun _ => ⟨am_w5 (i := 9) rfl rfl, Or.inr (am_w5 (i := 10) rfl rfl)⟩, fun h => Bool.noConfusion (h.symm.trans (rfl : am_sta 124 = false)), am_plk (o := 9) rfl (Nat.le_of_ble_eq_true rfl) (by decide) rfl⟩
theorem am_y125 : am_yok 125 := ⟨am_w5 (i := 24) rfl rfl, am_w1 (i := 1) rfl rfl, fun _ => ⟨am_w5 (i := 22) rfl rfl, Or.inr (am_w5 (i := 23) rfl rfl)⟩, fun h => Bool.noConfusion (h.symm.trans (rfl : am_sta 125 = false)), am_plk (o := 9) rfl (Nat.le_of_ble_eq_true rfl) (by decide) rfl⟩
theorem am_y126 : am_yok 126 := ⟨am_w5 (i := 33) rfl rfl, am_w1 (i := 1) rfl rfl, fun _ => ⟨am_w5 (i := 31) rfl rfl, Or.inr (am_w5 (i := 32) rfl rfl)⟩, fun h => Bool.noConfusion (h.symm.trans (rfl : am_sta 126 = false)), am_plk (o := 9) rfl (Nat.le_of_ble_eq_true rfl) (by decide) rfl⟩
theorem am_y127 : am_yok 127 := ⟨am_w3 (i := 139) rfl rfl, am_w1 (i := 1) rfl rfl, fun _ => ⟨am_w3 (i := 138) rfl rfl, Or.inr (am_wp2 (i := 6) rfl)⟩, fun h => Bool.noConfusion (h.symm.trans (rfl : am_sta 127 = false)), am_plk (o := 9) rfl (Nat.le_of_ble_eq_true rfl) (by decide) rfl⟩
theorem am_y128 : am_yok 128 := ⟨am_w3 (i := 169) rfl rfl, am_w1 (i := 1) rfl rfl, fun _ => ⟨am_w3 (i := 168) rfl rfl, Or.inr (am_wp2 (i := 7) rfl)⟩, fun h => Bool.noConfusion (h.symm.trans (rfl : am_sta 128 = false)), am_plk (o := 9) rfl (Nat.le_of_ble_eq_true rfl) (by decide) rfl⟩
theorem am_y129 : am_yok 129 := ⟨am_w4 (i := 89) rfl rfl, am_w1 (i := 1) rfl rfl, fun _ => ⟨am_w4 (i := 88) rfl rfl, Or.inr (am_wp2 (i := 15) rfl)⟩, fun h => Bool.noConfusion (h.symm.trans (rfl : am_sta 129 = false)), am_plk (o := 9) rfl (Nat.le_of_ble_eq_true rfl) (by decide) rfl⟩
theorem am_y130 : am_yok 130 := ⟨am_w4 (i := 45) rfl rfl, am_w1 (i := 1) rfl rfl, fun _ => ⟨am_w4 (i := 44) rfl rfl, Or.inr (am_wp2 (i := 11) rfl)⟩, fun h => Bool.noConfusion (h.symm.trans (rfl : am_sta 130 = false)), am_plk (o := 9) rfl (Nat.le_of_ble_eq_true rfl) (by decide) rfl⟩
theorem am_y131 : am_yok 131 := ⟨am_w5 (i := 15) rfl rfl, am_w1 (i := 1) rfl rfl, fun _ => ⟨am_w5 (i := 14) rfl rfl, Or.inr (am_wp3 (i := 12) rfl)⟩, fun h => Bool.noConfusion (h.symm.trans (rfl : am_sta 131 = false)), am_plk (o := 9) rfl (Nat.le_of_ble_eq_true rfl) (by decide) rfl⟩
theorem am_y132 : am_yok 132 := ⟨am_w4 (i := 93) rfl rfl, am_w1 (i := 1) rfl rfl, fun _ => ⟨am_w4 (i := 92) rfl rfl, Or.inr (am_wp3 (i := 0) rfl)⟩, fun h => Bool.noConfusion (h.symm.trans (rfl : am_sta 132 = false)), am_plk (o := 9) rfl (Nat.le_of_ble_eq_true rfl) (by decide) rfl⟩
theorem am_y133 : am_yok 133 := ⟨am_w3 (i := 173) rfl rfl, am_w1 (i := 1) rfl rfl, fun _ => ⟨am_w3 (i := 172) rfl rfl, Or.inr (am_wp2 (i := 8) rfl)⟩, fun h => Bool.noConfusion (h.symm.trans (rfl : am_sta 133 = false)), am_plk (o := 9) rfl (Nat.le_of_ble_eq_true rfl) (by decide) rfl⟩
theorem am_y134 : am_yok 134 := ⟨am_w3 (i := 186) rfl rfl, am_w1 (i := 1) rfl rfl, fun _ => ⟨am_w3 (i := 185) rfl rfl, Or.inr (am_wp2 (i := 9) rfl)⟩, fun h => Bool.noConfusion (h.symm.trans (rfl : am_sta 134 = false)), am_plk (o := 9) rfl (Nat.le_of_ble_eq_true rfl) (by decide) rfl⟩
theorem am_y135 : am_yok 135 := ⟨am_w5 (i := 43) rfl rfl, am_w1 (i := 11) rfl rfl, fun _ => ⟨am_w5 (i := 42) rfl rfl, Or.inl rfl⟩, fun h => Bool.noConfusion (h.symm.trans (rfl : am_sta 135 = false)), am_plk (o := 10) rfl (Nat.le_of_ble_eq_true rfl) (by decide) rfl⟩
theorem am_y136 : am_yok 136 := ⟨am_w6 (i := 25) rfl rfl, am_w1 (i := 11) rfl rfl, fun _ => ⟨am_w6 (i := 23) rfl rfl, Or.inr (am_w6 (i := 24) rfl rfl)⟩, fun h => Bool.noConfusion (h.symm.trans (rfl : am_sta 136 = false)), am_plk (o := 10) rfl (Nat.le_of_ble_eq_true rfl) (by decide) rfl⟩
theorem am_y137 : am_yok 137 := ⟨am_w6 (i := 29) rfl rfl, am_w1 (i := 11) rfl rfl, fun _ => ⟨am_w6 (i := 28) rfl rfl, Or.inr (am_wp3 (i := 15) rfl)⟩, fun h => Bool.noConfusion (h.symm.trans (rfl : am_sta 137 = false)), am_plk (o := 10) rfl (Nat.le_of_ble_eq_true rfl) (by decide) rfl⟩
theorem am_y138 : am_yok 138 := ⟨am_w6 (i := 33) rfl rfl, am_w1 (i := 11) rfl rfl, fun _ => ⟨am_w6 (i := 31) rfl rfl, Or.inr (am_w6 (i := 32) rfl rfl)⟩, fun h => Bool.noConfusion (h.symm.trans (rfl : am_sta 138 = false)), am_plk (o := 10) rfl (Nat.le_of_ble_eq_true rfl) (by decide) rfl⟩
theorem am_y139 : am_yok 139 := ⟨am_w6 (i := 45) rfl rfl, am_w1 (i := 11) rfl rfl, fun _ => ⟨am_w6 (i := 44) rfl rfl, Or.inr (am_wp4 (i := 1) rfl)⟩, fun h => Bool.noConfusion (h.symm.trans (rfl : am_sta 139 = false)), am_plk (o := 10) rfl (Nat.le_of_ble_eq_true rfl) (by decide) rfl⟩
theorem am_y140 : am_yok 140 := ⟨am_w6 (i := 55) rfl rfl, am_w1 (i := 11) rfl rfl, fun h => Bool.noConfusion (h.symm.trans (rfl : am_sta 140 = true)), fun _ => am_w6 (i := 54) rfl rfl, am_plk (o := 10) rfl (Nat.le_of_ble_eq_true rfl) (by decide) rfl⟩
theorem am_y141 : am_yok 141 := ⟨am_w6 (i := 52) rfl rfl, am_w1 (i := 11) rfl rfl, fun h => Bool.noConfusion (h.symm.trans (rfl : am_sta 141 = true)), fun _ => am_w6 (i := 51) rfl rfl, am_plk (o := 10) rfl (Nat.le_of_ble_eq_true rfl) (by decide) rfl⟩
theorem am_y142 : am_yok 142 := ⟨am_w5 (i := 54) rfl rfl, am_w1 (i := 11) rfl rfl, fun h => Bool.noConfusion (h.symm.trans (rfl : am_sta 142 = true)), fun _ => am_w5 (i := 53) rfl rfl, am_plk (o := 10) rfl (Nat.le_of_ble_eq_true rfl) (by decide) rfl⟩
theorem am_y143 : am_yok 143 := ⟨am_w5 (i := 51) rfl rfl, am_w1 (i := 11) rfl rfl, fun h => Bool.noConfusion (h.symm.trans (rfl : am_sta 143 = true)), fun _ => am_w5 (i := 50) rfl rfl, am_plk (o := 10) rfl (Nat.le_of_ble_eq_true rfl) (by decide) rfl⟩
theorem am_y144 : am_yok 144 := ⟨am_w6 (i := 49) rfl rfl, am_w1 (i := 11) rfl rfl, fun _ => ⟨am_w6 (i := 48) rfl rfl, Or.inr (am_wp4 (i := 2) rfl)⟩, fun h => Bool.noConfusion (h.symm.trans (rfl : am_sta 144 = false)), am_plk (o := 10) rfl (Nat.le_of_ble_eq_true rfl) (by decide) rfl⟩
theorem am_y145 : am_yok 145 := ⟨am_w6 (i := 41) rfl rfl, am_w1 (i := 11) rfl rfl, fun _ => ⟨am_w6 (i := 40) rfl rfl, Or.inr (am_wp4 (i := 0) rfl)⟩, fun h => Bool.noConfusion (h.symm.trans (rfl : am_sta 145 = false)), am_plk (o := 10) rfl (Nat.le_of_ble_eq_true rfl) (by decide) rfl⟩
theorem am_y146 : am_yok 146 := ⟨am_w6 (i := 59) rfl rfl, am_w1 (i := 11) rfl rfl, fun _ => ⟨am_w6 (i := 58) rfl rfl, Or.inr (am_wp4 (i := 3) rfl)⟩, fun h => Bool.noConfusion (h.symm.trans (rfl : am_sta 146 = false)), am_plk (o := 10) rfl (Nat.le_of_ble_eq_true rfl) (by decide) rfl⟩
theorem am_y147 : am_yok 147 := ⟨am_w6 (i := 63) rfl rfl, am_w1 (i := 11) rfl rfl, fun _ => ⟨am_w6 (i := 62) rfl rfl, Or.inr (am_wp4 (i := 4) rfl)⟩, fun h => Bool.noConfusion (h.symm.trans (rfl : am_sta 147 = false)), am_plk (o := 10) rfl (Nat.le_of_ble_eq_true rfl) (by decide) rfl⟩
theorem am_y148 : am_yok 148 := ⟨am_w6 (i := 71) rfl rfl, am_w1 (i := 11) rfl rfl, fun _ => ⟨am_w6 (i := 70) rfl rfl, Or.inr (am_wp4 (i := 6) rfl)⟩, fun h => Bool.noConfusion (h.symm.trans (rfl : am_sta 148 = false)), am_plk (o := 10) rfl (Nat.le_of_ble_eq_true rfl) (by decide) rfl⟩
theorem am_y149 : am_yok 149 := ⟨am_w6 (i := 87) rfl rfl, am_w1 (i := 11) rfl rfl, fun _ => ⟨am_w6 (i := 86) rfl rfl, Or.inr (am_wp4 (i := 10) rfl)⟩, fun h => Bool.noConfusion (h.symm.trans (rfl : am_sta 149 = false)), am_plk (o := 10) rfl (Nat.le_of_ble_eq_true rfl) (by decide) rfl⟩
theorem am_y150 : am_yok 150 := ⟨am_w6 (i := 79) rfl rfl, am_w1 (i := 11) rfl rfl, fun _ => ⟨am_w6 (i := 78) rfl rfl, Or.inr (am_wp4 (i := 8) rfl)⟩, fun h => Bool.noConfusion (h.symm.trans (rfl : am_sta 150 = false)), am_plk (o := 10) rfl (Nat.le_of_ble_eq_true rfl) (by decide) rfl⟩
theorem am_y151 : am_yok 151 := ⟨am_w6 (i := 83) rfl rfl, am_w1 (i := 11) rfl rfl, fun _ => ⟨am_w6 (i := 82) rfl rfl, Or.inr (am_wp4 (i := 9) rfl)⟩, fun h => Bool.noConfusion (h.symm.trans (rfl : am_sta 151 = false)), am_plk (o := 10) rfl (Nat.le_of_ble_eq_true rfl) (by decide) rfl⟩
theorem am_y152 : am_yok 152 := ⟨am_w5 (i := 48) rfl rfl, am_w1 (i := 11) rfl rfl, fun _ => ⟨am_w5 (i := 47) rfl rfl, Or.inr (am_wp3 (i := 13) rfl)⟩, fun h => Bool.noConfusion (h.symm.trans (rfl : am_sta 152 = false)), am_plk (o := 10) rfl (Nat.le_of_ble_eq_true rfl) (by decide) rfl⟩
theorem am_y153 : am_yok 153 := ⟨am_w6 (i := 37) rfl rfl, am_w1 (i := 11) rfl rfl, fun _ => ⟨am_w6 (i := 35) rfl rfl, Or.inr (am_w6 (i := 36) rfl rfl)⟩, fun h => Bool.noConfusion (h.symm.trans (rfl : am_sta 153 = false)), am_plk (o := 10) rfl (Nat.le_of_ble_eq_true rfl) (by decide) rfl⟩
theorem am_y154 : am_yok 154 := ⟨am_w6 (i := 127) rfl rfl, am_w1 (i := 11) rfl rfl, fun _ => ⟨am_w6 (i := 125) rfl rfl, Or.inr (am_w6 (i := 126) rfl rfl)⟩, fun h => Bool.noConfusion (h.symm.trans (rfl : am_sta 154 = false)), am_plk (o := 10) rfl (Nat.le_of_ble_eq_true rfl) (by decide) rfl⟩
theorem am_y155 : am_yok 155 := ⟨am_w6 (i := 67) rfl rfl, am_w1 (i := 11) rfl rfl, fun _ => ⟨am_w6 (i := 66) rfl rfl, Or.inr (am_wp4 (i := 5) rfl)⟩, fun h => Bool.noConfusion (h.symm.trans (rfl : am_sta 155 = false)), am_plk (o := 10) rfl (Nat.le_of_ble_eq_true rfl) (by decide) rfl⟩
theorem am_y156 : am_yok 156 := ⟨am_w6 (i := 95) rfl rfl, am_w1 (i := 11) rfl rfl, fun _ => ⟨am_w6 (i := 94) rfl rfl, Or.inr (am_wp4 (i := 12) rfl)⟩, fun h => Bool.noConfusion (h.symm.trans (rfl : am_sta 156 = false)), am_plk (o := 10) rfl (Nat.le_of_ble_eq_true rfl) (by decide) rfl⟩
theorem am_y157 : am_yok 157 := ⟨am_w6 (i := 91) rfl rfl, am_w1 (i := 11) rfl rfl, fun _ => ⟨am_w6 (i := 90) rfl rfl, Or.inr (am_wp4 (i := 11) rfl)⟩, fun h => Bool.noConfusion (h.symm.trans (rfl : am_sta 157 = false)), am_plk (o := 10) rfl (Nat.le_of_ble_eq_true rfl) (by decide) rfl⟩
theorem am_y158 : am_yok 158 := ⟨am_w6 (i := 75) rfl rfl, am_w1 (i := 11) rfl rfl, fun _ => ⟨am_w6 (i := 74) rfl rfl, Or.inr (am_wp4 (i := 7) rfl)⟩, fun h => Bool.noConfusion (h.symm.trans (rfl : am_sta 158 = false)), am_plk (o := 10) rfl (Nat.le_of_ble_eq_true rfl) (by decide) rfl⟩
theorem am_y159 : am_yok 159 := ⟨am_w6 (i := 123) rfl rfl, am_w1 (i := 11) rfl rfl, fun _ => ⟨am_w6 (i := 122) rfl rfl, Or.inr (am_wp5 (i := 3) rfl)⟩, fun h => Bool.noConfusion (h.symm.trans (rfl : am_sta 159 = false)), am_plk (o := 10) rfl (Nat.le_of_ble_eq_true rfl) (by decide) rfl⟩
theorem am_y160 : am_yok 160 := ⟨am_w6 (i := 99) rfl rfl, am_w1 (i := 11) rfl rfl, fun _ => ⟨am_w6 (i := 98) rfl rfl, Or.inr (am_wp4 (i := 13) rfl)⟩, fun h => Bool.noConfusion (h.symm.trans (rfl : am_sta 160 = false)), am_plk (o := 10) rfl (Nat.le_of_ble_eq_true rfl) (by decide) rfl⟩
theorem am_y161 : am_yok 161 := ⟨am_w6 (i := 119) rfl rfl, am_w1 (i := 11) rfl rfl, fun _ => ⟨am_w6 (i := 118) rfl rfl, Or.inr (am_wp5 (i := 2) rfl)⟩, fun h => Bool.noConfusion (h.symm.trans (rfl : am_sta 161 = false)), am_plk (o := 10) rfl (Nat.le_of_ble_eq_true rfl) (by decide) rfl⟩
theorem am_y162 : am_yok 162 := ⟨am_w6 (i := 111) rfl rfl, am_w1 (i := 11) rfl rfl, fun _ => ⟨am_w6 (i := 110) rfl rfl, Or.inr (am_wp5 (i := 0) rfl)⟩, fun h => Bool.noConfusion (h.symm.trans (rfl : am_sta 162 = false)), am_plk (o := 10) rfl (Nat.le_of_ble_eq_true rfl) (by decide) rfl⟩
theorem am_y163 : am_yok 163 := ⟨am_w6 (i := 115) rfl rfl, am_w1 (i := 11) rfl rfl, fun _ => ⟨am_w6 (i := 114) rfl rfl, Or.inr (am_wp5 (i := 1) rfl)⟩, fun h => Bool.noConfusion (h.symm.trans (rfl : am_sta 163 = false)), am_plk (o := 10) rfl (Nat.le_of_ble_eq_true rfl) (by decide) rfl⟩
theorem am_y164 : am_yok 164 := ⟨am_w6 (i := 103) rfl rfl, am_w1 (i := 11) rfl rfl, fun _ => ⟨am_w6 (i := 102) rfl rfl, Or.inr (am_wp4 (i := 14) rfl)⟩, fun h => Bool.noConfusion (h.symm.trans (rfl : am_sta 164 = false)), am_plk (o := 10) rfl (Nat.le_of_ble_eq_true rfl) (by decide) rfl⟩
theorem am_y165 : am_yok 165 := ⟨am_w6 (i := 107) rfl rfl, am_w1 (i := 11) rfl rfl, fun _ => ⟨am_w6 (i := 106) rfl rfl, Or.inr (am_wp4 (i := 15) rfl)⟩, fun h => Bool.noConfusion (h.symm.trans (rfl : am_sta 165 = false)), am_plk (o := 10) rfl (Nat.le_of_ble_eq_true rfl) (by decide) rfl⟩
theorem am_y166 : am_yok 166 := ⟨am_w6 (i := 206) rfl rfl, am_w1 (i := 11) rfl rfl, fun _ => ⟨am_w6 (i := 205) rfl rfl, Or.inr (am_wp6 (i := 3) rfl)⟩, fun h => Bool.noConfusion (h.symm.trans (rfl : am_sta 166 = false)), am_plk (o := 10) rfl (Nat.le_of_ble_eq_true rfl) (by decide) rfl⟩
theorem am_y167 : am_yok 167 := ⟨am_w6 (i := 138) rfl rfl, am_w1 (i := 11) rfl rfl, fun h => Bool.noConfusion (h.symm.trans (rfl : am_sta 167 = true)), fun _ => am_w6 (i := 137) rfl rfl, am_plk (o := 10) rfl (Nat.le_of_ble_eq_true rfl) (by decide) rfl⟩
theorem am_y168 : am_yok 168 := ⟨am_w6 (i := 135) rfl rfl, am_w1 (i := 11) rfl rfl, fun _ => ⟨am_w6 (i := 134) rfl rfl, Or.inr (am_wp5 (i := 4) rfl)⟩, fun h => Bool.noConfusion (h.symm.trans (rfl : am_sta 168 = false)), am_plk (o := 10) rfl (Nat.le_of_ble_eq_true rfl) (by decide) rfl⟩
theorem am_y169 : am_yok 169 := ⟨am_w5 (i := 59) rfl rfl, am_w1 (i := 11) rfl rfl, fun _ => ⟨am_w5 (i := 58) rfl rfl, Or.inr (am_wp3 (i := 14) rfl)⟩, fun h => Bool.noConfusion (h.symm.trans (rfl : am_sta 169 = false)), am_plk (o := 10) rfl (Nat.le_of_ble_eq_true rfl) (by decide) rfl⟩
theorem am_y170 : am_yok 170 := ⟨am_w6 (i := 142) rfl rfl, am_w1 (i := 11) rfl rfl, fun _ => ⟨am_w6 (i := 141) rfl rfl, Or.inr (am_wp5 (i := 5) rfl)⟩, fun h => Bool.noConfusion (h.symm.trans (rfl : am_sta 170 = false)), am_plk (o := 10) rfl (Nat.le_of_ble_eq_true rfl) (by decide) rfl⟩
theorem am_y171 : am_yok 171 := ⟨am_w6 (i := 146) rfl rfl, am_w1 (i := 11) rfl rfl, fun _ => ⟨am_w6 (i := 145) rfl rfl, Or.inr (am_wp5 (i := 6) rfl)⟩, fun h => Bool.noConfusion (h.symm.trans (rfl : am_sta 171 = false)), am_plk (o := 10) rfl (Nat.le_of_ble_eq_true rfl) (by decide) rfl⟩
theorem am_y172 : am_yok 172 := ⟨am_w6 (i := 170) rfl rfl, am_w1 (i := 11) rfl rfl, fun _ => ⟨am_w6 (i := 169) rfl rfl, Or.inr (am_wp5 (i := 10) rfl)⟩, fun h => Bool.noConfusion (h.symm.trans (rfl : am_sta 172 = false)), am_plk (o := 10) rfl (Nat.le_of_ble_eq_true rfl) (by decide) rfl⟩
theorem am_y173 : am_yok 173 := ⟨am_w6 (i := 166) rfl rfl, am_w1 (i := 11) rfl rfl, fun _ => ⟨am_w6 (i := 165) rfl rfl, Or.inr (am_wp5 (i := 9) rfl)⟩, fun h => Bool.noConfusion (h.symm.trans (rfl : am_sta 173 = false)), am_plk (o := 10) rfl (Nat.le_of_ble_eq_true rfl) (by decide) rfl⟩
theorem am_y174 : am_yok 174 := ⟨am_w6 (i := 150) rfl rfl, am_w1 (i := 11) rfl rfl, fun _ => ⟨am_w6 (i := 149) rfl rfl, Or.inr (am_wp5 (i := 7) rfl)⟩, fun h => Bool.noConfusion (h.symm.trans (rfl : am_sta 174 = false)), am_plk (o := 10) rfl (Nat.le_of_ble_eq_true rfl) (by decide) rfl⟩
theorem am_y175 : am_yok 175 := ⟨am_w6 (i := 182) rfl rfl, am_w1 (i := 11) rfl rfl, fun _ => ⟨am_w6 (i := 181) rfl rfl, Or.inr (am_wp5 (i := 13) rfl)⟩, fun h => Bool.noConfusion (h.symm.trans (rfl : am_sta 175 = false)), am_plk (o := 10) rfl (Nat.le_of_ble_eq_true rfl) (by decide) rfl⟩
theorem am_y176 : am_yok 176 := ⟨am_w6 (i := 202) rfl rfl, am_w1 (i := 11) rfl rfl, fun _ => ⟨am_w6 (i := 201) rfl rfl, Or.inr (am_wp6 (i := 2) rfl)⟩, fun h => Bool.noConfusion (h.symm.trans (rfl : am_sta 176 = false)), am_plk (o := 10) rfl (Nat.le_of_ble_eq_true rfl) (by decide) rfl⟩
theorem am_y177 : am_yok 177 := ⟨am_w6 (i := 198) rfl rfl, am_w1 (i := 11) rfl rfl, fun _ => ⟨am_w6 (i := 197) rfl rfl, Or.inr (am_wp6 (i := 1) rfl)⟩, fun h => Bool.noConfusion (h.symm.trans (rfl : am_sta 177 = false)), am_plk (o := 10) rfl (Nat.le_of_ble_eq_true rfl) (by decide) rfl⟩
theorem am_y178 : am_yok 178 := ⟨am_w6 (i := 194) rfl rfl, am_w1 (i := 11) rfl rfl, fun _ => ⟨am_w6 (i := 193) rfl rfl, Or.inr (am_wp6 (i := 0) rfl)⟩, fun h => Bool.noConfusion (h.symm.trans (rfl : am_sta 178 = false)), am_plk (o := 10) rfl (Nat.le_of_ble_eq_true rfl) (by decide) rfl⟩
theorem am_y179 : am_yok 179 := ⟨am_w6 (i := 190) rfl rfl, am_w1 (i := 11) rfl rfl, fun _ => ⟨am_w6 (i := 189) rfl rfl, Or.inr (am_wp5 (i := 15) rfl)⟩, fun h => Bool.noConfusion (h.symm.trans (rfl : am_sta 179 = false)), am_plk (o := 10) rfl (Nat.le_of_ble_eq_true rfl) (by decide) rfl⟩
theorem am_y180 : am_yok 180 := ⟨am_w6 (i := 186) rfl rfl, am_w1 (i := 11) rfl rfl, fun _ => ⟨am_w6 (i := 185) rfl rfl, Or.inr (am_wp5 (i := 14) rfl)⟩, fun h => Bool.noConfusion (h.symm.trans (rfl : am_sta 180 = false)), am_plk (o := 10) rfl (Nat.le_of_ble_eq_true rfl) (by decide) rfl⟩
theorem am_y181 : am_yok 181 := ⟨am_w6 (i := 178) rfl rfl, am_w1 (i := 11) rfl rfl, fun _ => ⟨am_w6 (i := 177) rfl rfl, Or.inr (am_wp5 (i := 12) rfl)⟩, fun h => Bool.noConfusion (h.symm.trans (rfl : am_sta 181 = false)), am_plk (o := 10) rfl (Nat.le_of_ble_eq_true rfl) (by decide) rfl⟩
theorem am_y182 : am_yok 182 := ⟨am_w6 (i := 218) rfl rfl, am_w1 (i := 11) rfl rfl, fun _ => ⟨am_w6 (i := 217) rfl rfl, Or.inr (am_wp6 (i := 5) rfl)⟩, fun h => Bool.noConfusion (h.symm.trans (rfl : am_sta 182 = false)), am_plk (o := 10) rfl (Nat.le_of_ble_eq_true rfl) (by decide) rfl⟩
theorem am_y183 : am_yok 183 := ⟨am_w6 (i := 226) rfl rfl, am_w1 (i := 11) rfl rfl, fun _ => ⟨am_w6 (i := 225) rfl rfl, Or.inr (am_wp6 (i := 6) rfl)⟩, fun h => Bool.noConfusion (h.symm.trans (rfl : am_sta 183 = false)), am_plk (o := 10) rfl (Nat.le_of_ble_eq_true rfl) (by decide) rfl⟩
theorem am_y184 : am_yok 184 := ⟨am_w6 (i := 131) rfl rfl, am_w1 (i := 11) rfl rfl, fun _ => ⟨am_w6 (i := 129) rfl rfl, Or.inr (am_w6 (i := 130) rfl rfl)⟩, fun h => Bool.noConfusion (h.symm.trans (rfl : am_sta 184 = false)), am_plk (o := 10) rfl (Nat.le_of_ble_eq_true rfl) (by decide) rfl⟩
theorem am_y185 : am_yok 185 := ⟨am_w6 (i := 154) rfl rfl, am_w1 (i := 11) rfl rfl, fun _ => ⟨am_w6 (i := 152) rfl rfl, Or.inr (am_w6 (i := 153) rfl rfl)⟩, fun h => Bool.noConfusion (h.symm.trans (rfl : am_sta 185 = false)), am_plk (o := 10) rfl (Nat.le_of_ble_eq_true rfl) (by decide) rfl⟩
theorem am_y186 : am_yok 186 := ⟨am_w6 (i := 210) rfl rfl, am_w1 (i := 11) rfl rfl, fun _ => ⟨am_w6 (i := 209) rfl rfl, Or.inr (am_wp6 (i := 4) rfl)⟩, fun h => Bool.noConfusion (h.symm.trans (rfl : am_sta 186 = false)), am_plk (o := 10) rfl (Nat.le_of_ble_eq_true rfl) (by decide) rfl⟩
theorem am_y187 : am_yok 187 := ⟨am_w6 (i := 162) rfl rfl, am_w1 (i := 11) rfl rfl, fun _ => ⟨am_w6 (i := 161) rfl rfl, Or.inr (am_wp5 (i := 8) rfl)⟩, fun h => Bool.noConfusion (h.symm.trans (rfl : am_sta 187 = false)), am_plk (o := 10) rfl (Nat.le_of_ble_eq_true rfl) (by decide) rfl⟩
theorem am_y188 : am_yok 188 := ⟨am_w6 (i := 174) rfl rfl, am_w1 (i := 11) rfl rfl, fun _ => ⟨am_w6 (i := 173) rfl rfl, Or.inr (am_wp5 (i := 11) rfl)⟩, fun h => Bool.noConfusion (h.symm.trans (rfl : am_sta 188 = false)), am_plk (o := 10) rfl (Nat.le_of_ble_eq_true rfl) (by decide) rfl⟩
theorem am_y189 : am_yok 189 := ⟨am_w6 (i := 158) rfl rfl, am_w1 (i := 11) rfl rfl, fun _ => ⟨am_w6 (i := 156) rfl rfl, Or.inr (am_w6 (i := 157) rfl rfl)⟩, fun h => Bool.noConfusion (h.symm.trans (rfl : am_sta 189 = false)), am_plk (o := 10) rfl (Nat.le_of_ble_eq_true rfl) (by decide) rfl⟩
theorem am_y190 : am_yok 190 := ⟨am_w6 (i := 214) rfl rfl, am_w1 (i := 11) rfl rfl, fun _ => ⟨am_w6 (i := 212) rfl rfl, Or.inr (am_w6 (i := 213) rfl rfl)⟩, fun h => Bool.noConfusion (h.symm.trans (rfl : am_sta 190 = false)), am_plk (o := 10) rfl (Nat.le_of_ble_eq_true rfl) (by decide) rfl⟩
theorem am_y191 : am_yok 191 := ⟨am_w6 (i := 222) rfl rfl, am_w1 (i := 11) rfl rfl, fun _ => ⟨am_w6 (i := 220) rfl rfl, Or.inr (am_w6 (i := 221) rfl rfl)⟩, fun h => Bool.noConfusion (h.symm.trans (rfl : am_sta 191 = false)), am_plk (o := 10) rfl (Nat.le_of_ble_eq_true rfl) (by decide) rfl⟩
theorem am_y192 : am_yok 192 := ⟨am_w6 (i := 230) rfl rfl, am_w1 (i := 11) rfl rfl, fun _ => ⟨am_w6 (i := 228) rfl rfl, Or.inr (am_w6 (i := 229) rfl rfl)⟩, fun h => Bool.noConfusion (h.symm.trans (rfl : am_sta 192 = false)), am_plk (o := 10) rfl (Nat.le_of_ble_eq_true rfl) (by decide) rfl⟩
theorem am_y193 : am_yok 193 := ⟨am_w6 (i := 234) rfl rfl, am_w1 (i := 11) rfl rfl, fun _ => ⟨am_w6 (i := 232) rfl rfl, Or.inr (am_w6 (i := 233) rfl rfl)⟩, fun h => Bool.noConfusion (h.symm.trans (rfl : am_sta 193 = false)), am_plk (o := 10) rfl (Nat.le_of_ble_eq_true rfl) (by decide) rfl⟩
theorem am_y194 : am_yok 194 := ⟨am_w6 (i := 238) rfl rfl, am_w1 (i := 11) rfl rfl, fun _ => ⟨am_w6 (i := 236) rfl rfl, Or.inr (am_w6 (i := 237) rfl rfl)⟩, fun h => Bool.noConfusion (h.symm.trans (rfl : am_sta 194 = false)), am_plk (o := 10) rfl (Nat.le_of_ble_eq_true rfl) (by decide) rfl⟩
theorem am_y195 : am_yok 195 := ⟨am_w7 (i := 11) rfl rfl, am_w1 (i := 11) rfl rfl, fun _ => ⟨am_w7 (i := 10) rfl rfl, Or.inr (am_wp6 (i := 8) rfl)⟩, fun h => Bool.noConfusion (h.symm.trans (rfl : am_sta 195 = false)), am_plk (o := 10) rfl (Nat.le_of_ble_eq_true rfl) (by decide) rfl⟩
theorem am_y196 : am_yok 196 := ⟨am_w7 (i := 19) rfl rfl, am_w1 (i := 11) rfl rfl, fun _ => ⟨am_w7 (i := 18) rfl rfl, Or.inr (am_wp6 (i := 10) rfl)⟩, fun h => Bool.noConfusion (h.symm.trans (rfl : am_sta 196 = false)), am_plk (o := 10) rfl (Nat.le_of_ble_eq_true rfl) (by decide) rfl⟩
theorem am_y197 : am_yok 197 := ⟨am_w7 (i := 15) rfl rfl, am_w1 (i := 11) rfl rfl, fun _ => ⟨am_w7 (i := 14) rfl rfl, Or.inr (am_wp6 (i := 9) rfl)⟩, fun h => Bool.noConfusion (h.symm.trans (rfl : am_sta 197 = false)), am_plk (o := 10) rfl (Nat.le_of_ble_eq_true rfl) (by decide) rfl⟩
theorem am_y198 : am_yok 198 := ⟨am_w7 (i := 7) rfl rfl, am_w1 (i := 11) rfl rfl, fun _ => ⟨am_w7 (i := 6) rfl rfl, Or.inr (am_wp6 (i := 7) rfl)⟩, fun h => Bool.noConfusion (h.symm.trans (rfl : am_sta 198 = false)), am_plk (o := 10) rfl (Nat.le_of_ble_eq_true rfl) (by decide) rfl⟩
theorem am_y199 : am_yok 199 := ⟨am_w7 (i := 2) rfl rfl, am_w1 (i := 11) rfl rfl, fun _ => ⟨am_w7 (i := 0) rfl rfl, Or.inr (am_w7 (i := 1) rfl rfl)⟩, fun h => Bool.noConfusion (h.symm.trans (rfl : am_sta 199 = false)), am_plk (o := 10) rfl (Nat.le_of_ble_eq_true rfl) (by decide) rfl⟩
theorem am_y200 : am_yok 200 := ⟨am_w7 (i := 23) rfl rfl, am_w1 (i := 11) rfl rfl, fun _ => ⟨am_w7 (i := 21) rfl rfl, Or.inr (am_w7 (i := 22) rfl rfl)⟩, fun h => Bool.noConfusion (h.symm.trans (rfl : am_sta 200 = false)), am_plk (o := 10) rfl (Nat.le_of_ble_eq_true rfl) (by decide) rfl⟩
theorem am_y201 : am_yok 201 := ⟨am_w7 (i := 39) rfl rfl, am_w1 (i := 11) rfl rfl, fun _ => ⟨am_w7 (i := 38) rfl rfl, Or.inr (am_wp6 (i := 13) rfl)⟩, fun h => Bool.noConfusion (h.symm.trans (rfl : am_sta 201 = false)), am_plk (o := 10) rfl (Nat.le_of_ble_eq_true rfl) (by decide) rfl⟩
theorem am_y202 : am_yok 202 := ⟨am_w7 (i := 35) rfl rfl, am_w1 (i := 11) rfl rfl, fun _ => ⟨am_w7 (i := 34) rfl rfl, Or.inr (am_wp6 (i := 12) rfl)⟩, fun h => Bool.noConfusion (h.symm.trans (rfl : am_sta 202 = false)), am_plk (o := 10) rfl (Nat.le_of_ble_eq_true rfl) (by decide) rfl⟩
theorem am_y203 : am_yok 203 := ⟨am_w7 (i := 31) rfl rfl, am_w1 (i := 11) rfl rfl, fun _ => ⟨am_w7 (i := 30) rfl rfl, Or.inr (am_wp6 (i := 11) rfl)⟩, fun h => Bool.noConfusion (h.symm.trans (rfl : am_sta 203 = false)), am_plk (o := 10) rfl (Nat.le_of_ble_eq_true rfl) (by decide) rfl⟩
theorem am_y204 : am_yok 204 := ⟨am_w7 (i := 27) rfl rfl, am_w1 (i := 11) rfl rfl, fun _ => ⟨am_w7 (i := 25) rfl rfl, Or.inr (am_w7 (i := 26) rfl rfl)⟩, fun h => Bool.noConfusion (h.symm.trans (rfl : am_sta 204 = false)), am_plk (o := 10) rfl (Nat.le_of_ble_eq_true rfl) (by decide) rfl⟩
theorem am_y205 : am_yok 205 := ⟨am_w7 (i := 47) rfl rfl, am_w1 (i := 11) rfl rfl, fun _ => ⟨am_w7 (i := 46) rfl rfl, Or.inr (am_wp6 (i := 14) rfl)⟩, fun h => Bool.noConfusion (h.symm.trans (rfl : am_sta 205 = false)), am_plk (o := 10) rfl (Nat.le_of_ble_eq_true rfl) (by decide) rfl⟩
theorem am_y206 : am_yok 206 := ⟨am_w7 (i := 43) rfl rfl, am_w1 (i := 11) rfl rfl, fun _ => ⟨am_w7 (i := 41) rfl rfl, Or.inr (am_w7 (i := 42) rfl rfl)⟩, fun h => Bool.noConfusion (h.symm.trans (rfl : am_sta 206 = false)), am_plk (o := 10) rfl (Nat.le_of_ble_eq_true rfl) (by decide) rfl⟩
theorem am_y207 : am_yok 207 := ⟨am_w7 (i := 58) rfl rfl, am_w1 (i := 11) rfl rfl, fun h => Bool.noConfusion (h.symm.trans (rfl : am_sta 207 = true)), fun _ => am_w7 (i := 57) rfl rfl, am_plk (o := 10) rfl (Nat.le_of_ble_eq_true rfl) (by decide) rfl⟩
theorem am_y208 : am_yok 208 := ⟨am_w7 (i := 55) rfl rfl, am_w1 (i := 11) rfl rfl, fun _ => ⟨am_w7 (i := 54) rfl rfl, Or.inr (am_wp6 (i := 15) rfl)⟩, fun h => Bool.noConfusion (h.symm.trans (rfl : am_sta 208 = false)), am_plk (o := 10) rfl (Nat.le_of_ble_eq_true rfl) (by decide) rfl⟩
theorem am_y209 : am_yok 209 := ⟨am_w7 (i := 51) rfl rfl, am_w1 (i := 11) rfl rfl, fun _ => ⟨am_w7 (i := 49) rfl rfl, Or.inr (am_w7 (i := 50) rfl rfl)⟩, fun h => Bool.noConfusion (h.symm.trans (rfl : am_sta 209 = false)), am_plk (o := 10) rfl (Nat.le_of_ble_eq_true rfl) (by decide) rfl⟩
theorem am_y210 : am_yok 210 := ⟨am_w7 (i := 62) rfl rfl, am_w1 (i := 11) rfl rfl, fun _ => ⟨am_w7 (i := 60) rfl rfl, Or.inr (am_w7 (i := 61) rfl rfl)⟩, fun h => Bool.noConfusion (h.symm.trans (rfl : am_sta 210 = false)), am_plk (o := 10) rfl (Nat.le_of_ble_eq_true rfl) (by decide) rfl⟩
theorem am_y211 : am_yok 211 := ⟨am_w7 (i := 66) rfl rfl, am_w1 (i := 11) rfl rfl, fun _ => ⟨am_w7 (i := 64) rfl rfl, Or.inr (am_w7 (i := 65) rfl rfl)⟩, fun h => Bool.noConfusion (h.symm.trans (rfl : am_sta 211 = false)), am_plk (o := 10) rfl (Nat.le_of_ble_eq_true rfl) (by decide) rfl⟩
theorem am_y212 : am_yok 212 := ⟨am_w7 (i := 70) rfl rfl, am_w1 (i := 11) rfl rfl, fun _ => ⟨am_w7 (i := 68) rfl rfl, Or.inr (am_w7 (i := 69) rfl rfl)⟩, fun h => Bool.noConfusion (h.symm.trans (rfl : am_sta 212 = false)), am_plk (o := 10) rfl (Nat.le_of_ble_eq_true rfl) (by decide) rfl⟩
theorem am_y213 : am_yok 213 := ⟨am_w7 (i := 74) rfl rfl, am_w1 (i := 11) rfl rfl, fun _ => ⟨am_w7 (i := 72) rfl rfl, Or.inr (am_w7 (i := 73) rfl rfl)⟩, fun h => Bool.noConfusion (h.symm.trans (rfl : am_sta 213 = false)), am_plk (o := 10) rfl (Nat.le_of_ble_eq_true rfl) (by decide) rfl⟩
theorem am_y214 : am_yok 214 := ⟨am_w7 (i := 86) rfl rfl, am_w1 (i := 11) rfl rfl, fun _ => ⟨am_w7 (i := 85) rfl rfl, Or.inr (am_wp7 (i := 1) rfl)⟩, fun h => Bool.noConfusion (h.symm.trans (rfl : am_sta 214 = false)), am_plk (o := 10) rfl (Nat.le_of_ble_eq_true rfl) (by decide) rfl⟩
theorem am_y215 : am_yok 215 := ⟨am_w7 (i := 82) rfl rfl, am_w1 (i := 11) rfl rfl, fun _ => ⟨am_w7 (i := 81) rfl rfl, Or.inr (am_wp7 (i := 0) rfl)⟩, fun h => Bool.noConfusion (h.symm.trans (rfl : am_sta 215 = false)), am_plk (o := 10) rfl (Nat.le_of_ble_eq_true rfl) (by decide) rfl⟩
theorem am_y216 : am_yok 216 := ⟨am_w7 (i := 78) rfl rfl, am_w1 (i := 11) rfl rfl, fun _ => ⟨am_w7 (i := 76) rfl rfl, Or.inr (am_w7 (i := 77) rfl rfl)⟩, fun h => Bool.noConfusion (h.symm.trans (rfl : am_sta 216 = false)), am_plk (o := 10) rfl (Nat.le_of_ble_eq_true rfl) (by decide) rfl⟩
theorem am_y217 : am_yok 217 := ⟨am_w7 (i := 90) rfl rfl, am_w1 (i := 11) rfl rfl, fun _ => ⟨am_w7 (i := 88) rfl rfl, Or.inr (am_w7 (i := 89) rfl rfl)⟩, fun h => Bool.noConfusion (h.symm.trans (rfl : am_sta 217 = false)), am_plk (o := 10) rfl (Nat.le_of_ble_eq_true rfl) (by decide) rfl⟩
theorem am_y218 : am_yok 218 := ⟨am_w7 (i := 95) rfl rfl, am_w1 (i := 11) rfl rfl, fun _ => ⟨am_w7 (i := 93) rfl rfl, Or.inr (am_w7 (i := 94) rfl rfl)⟩, fun h => Bool.noConfusion (h.symm.trans (rfl : am_sta 218 = false)), am_plk (o := 10) rfl (Nat.le_of_ble_eq_true rfl) (by decide) rfl⟩
theorem am_y219 : am_yok 219 := ⟨am_w7 (i := 99) rfl rfl, am_w1 (i := 11) rfl rfl, fun _ => ⟨am_w7 (i := 97) rfl rfl, Or.inr (am_w7 (i := 98) rfl rfl)⟩, fun h => Bool.noConfusion (h.symm.trans (rfl : am_sta 219 = false)), am_plk (o := 10) rfl (Nat.le_of_ble_eq_true rfl) (by decide) rfl⟩
theorem am_y220 : am_yok 220 := ⟨am_w7 (i := 103) rfl rfl, am_w1 (i := 11) rfl rfl, fun _ => ⟨am_w7 (i := 101) rfl rfl, Or.inr (am_w7 (i := 102) rfl rfl)⟩, fun h => Bool.noConfusion (h.symm.trans (rfl : am_sta 220 = false)), am_plk (o := 10) rfl (Nat.le_of_ble_eq_true rfl) (by decide) rfl⟩
theorem am_y221 : am_yok 221 := ⟨am_w7 (i := 111) rfl rfl, am_w1 (i := 11) rfl rfl, fun _ => ⟨am_w7 (i := 110) rfl rfl, Or.inr (am_wp7 (i := 2) rfl)⟩, fun h => Bool.noConfusion (h.symm.trans (rfl : am_sta 221 = false)), am_plk (o := 10) rfl (Nat.le_of_ble_eq_true rfl) (by decide) rfl⟩
theorem am_y222 : am_yok 222 := ⟨am_w7 (i := 107) rfl rfl, am_w1 (i := 11) rfl rfl, fun _ => ⟨am_w7 (i := 105) rfl rfl, Or.inr (am_w7 (i := 106) rfl rfl)⟩, fun h => Bool.noConfusion (h.symm.trans (rfl : am_sta 222 = false)), am_plk (o := 10) rfl (Nat.le_of_ble_eq_true rfl) (by decide) rfl⟩
theorem am_y223 : am_yok 223 := ⟨am_w7 (i := 115) rfl rfl, am_w1 (i := 11) rfl rfl, fun _ => ⟨am_w7 (i := 113) rfl rfl, Or.inr (am_w7 (i := 114) rfl rfl)⟩, fun h => Bool.noConfusion (h.symm.trans (rfl : am_sta 223 = false)), am_plk (o := 10) rfl (Nat.le_of_ble_eq_true rfl) (by decide) rfl⟩
theorem am_y224 : am_yok 224 := ⟨am_w7 (i := 119) rfl rfl, am_w1 (i := 11) rfl rfl, fun _ => ⟨am_w7 (i := 117) rfl rfl, Or.inr (am_w7 (i := 118) rfl rfl)⟩, fun h => Bool.noConfusion (h.symm.trans (rfl : am_sta 224 = false)), am_plk (o := 10) rfl (Nat.le_of_ble_eq_true rfl) (by decide) rfl⟩
theorem am_y225 : am_yok 225 := ⟨am_w7 (i := 123) rfl rfl, am_w1 (i := 11) rfl rfl, fun _ => ⟨am_w7 (i := 121) rfl rfl, Or.inr (am_w7 (i := 122) rfl rfl)⟩, fun h => Bool.noConfusion (h.symm.trans (rfl : am_sta 225 = false)), am_plk (o := 10) rfl (Nat.le_of_ble_eq_true rfl) (by decide) rfl⟩
theorem am_y226 : am_yok 226 := ⟨am_w4 (i := 129) rfl rfl, am_w1 (i := 18) rfl rfl, fun h => Bool.noConfusion (h.symm.trans (rfl : am_sta 226 = true)), fun _ => am_w4 (i := 128) rfl rfl, am_plk (o := 12) rfl (Nat.le_of_ble_eq_true rfl) (by decide) rfl⟩
theorem am_yk_0 : ∀ k ∈ ([0, 1, 2, 3, 4, 5, 6, 7, 8, 9, 10, 11, 12, 13, 14, 15, 16, 17, 18] : List Nat), am_yok k := (List.forall_mem_cons.mpr ⟨am_y0, (List.forall_mem_cons.mpr ⟨am_y1, (List.forall_mem_cons.mpr ⟨am_y2, (List.forall_mem_cons.mpr ⟨am_y3, (List.forall_mem_cons.mpr ⟨am_y4, (List.forall_mem_cons.mpr ⟨am_y5, (List.forall_mem_cons.mpr ⟨am_y6, (List.forall_mem_cons.mpr ⟨am_y7, (List.forall_mem_cons.mpr ⟨am_y8, (List.forall_mem_cons.mpr ⟨am_y9, (List.forall_mem_cons.mpr ⟨am_y10, (List.forall_mem_cons.mpr ⟨am_y11, (List.forall_mem_cons.mpr ⟨am_y12, (List.forall_mem_cons.mpr ⟨am_y13, (List.forall_mem_cons.mpr ⟨am_y14, (List.forall_mem_cons.mpr ⟨am_y15, (List.forall_mem_cons.mpr ⟨am_y16, (List.forall_mem_cons.mpr ⟨am_y17, (List.forall_mem_cons.mpr ⟨am_y18, (fun _ h => absurd h List.not_mem_nil)⟩)⟩)⟩)⟩)⟩)⟩)⟩)⟩)⟩)⟩)⟩)⟩)⟩)⟩)⟩)⟩)⟩)⟩)⟩)
theorem am_yk_1 : ∀ k ∈ ([19, 20, 21, 22, 23, 24, 25, 26, 27, 28, 29, 30, 31, 32, 33, 34, 35, 36, 37] : List Nat), am_yok k := (List.forall_mem_cons.mpr ⟨am_y19, (List.forall_mem_cons.mpr ⟨am_y20, (List.forall_mem_cons.mpr ⟨am_y21, (List.forall_mem_cons.mpr ⟨am_y22, (List.forall_mem_cons.mpr ⟨am_y23, (List.forall_mem_cons.mpr ⟨am_y24, (List.forall_mem_cons.mpr ⟨am_y25, (List.forall_mem_cons.mpr ⟨am_y26, (List.forall_mem_cons.mpr ⟨am_y27, (List.forall_mem_cons.mpr ⟨am_y28, (List.forall_mem_cons.mpr ⟨am_y29, (List.forall_mem_cons.mpr ⟨am_y30, (List.forall_mem_cons.mpr ⟨am_y31, (List.forall_mem_cons.mpr ⟨am_y32, (List.forall_mem_cons.mpr ⟨am_y33, (List.forall_mem_cons.mpr ⟨am_y34, (List.forall_mem_cons.mpr ⟨am_y35, (List.forall_mem_cons.mpr ⟨am_y36, (List.forall_mem_cons.mpr ⟨am_y37, (fun _ h => absurd h List.not_mem_nil)⟩)⟩)⟩)⟩)⟩)⟩)⟩)⟩)⟩)⟩)⟩)⟩)⟩)⟩)⟩)⟩)⟩)⟩)⟩)
theorem am_yk_2 : ∀ k ∈ ([38, 39, 40, 41, 42, 43, 44, 45, 46, 47, 48, 49, 50, 51, 52, 53, 54, 55, 56] : List Nat), am_yok k := (List.forall_mem_cons.mpr ⟨am_y38, (List.forall_mem_cons.mpr ⟨am_y39, (List.forall_mem_cons.mpr ⟨am_y40, (List.forall_mem_cons.mpr ⟨am_y41, (List.forall_mem_cons.mpr ⟨am_y42, (List.forall_mem_cons.mpr ⟨am_y43, (List.forall_mem_cons.mpr ⟨am_y44, (List.forall_mem_cons.mpr ⟨am_y45, (List.forall_mem_cons.mpr ⟨am_y46, (List.forall_mem_cons.mpr ⟨am_y47, (List.forall_mem_cons.mpr ⟨am_y48, (List.forall_mem_cons.mpr ⟨am_y49, (List.forall_mem_cons.mpr ⟨am_y50, (List.forall_mem_cons.mpr ⟨am_y51, (List.forall_mem_cons.mpr ⟨am_y52, (List.forall_mem_cons.mpr ⟨am_y53, (List.forall_mem_cons.mpr ⟨am_y54, (List.forall_mem_cons.mpr ⟨am_y55, (List.forall_mem_cons.mpr ⟨am_y56, (fun _ h => absurd h List.not_mem_nil)⟩)⟩)⟩)⟩)⟩)⟩)⟩)⟩)⟩)⟩)⟩)⟩)⟩)⟩)⟩)⟩)⟩)⟩)⟩)
theorem am_yk_3 : ∀ k ∈ ([57, 58, 59, 60, 61, 62, 63, 64, 65, 66, 67, 68, 69, 70, 71, 72, 73, 74, 75] : List Nat), am_yok k := (List.forall_mem_cons.mpr ⟨am_y57, (List.forall_mem_cons.mpr ⟨am_y58, (List.forall_mem_cons.mpr ⟨am_y59, (List.forall_mem_cons.mpr ⟨am_y60, (List.forall_mem_cons.mpr ⟨am_y61, (List.forall_mem_cons.mpr ⟨am_y62, (List.forall_mem_cons.mpr ⟨am_y63, (List.forall_mem_cons.mpr ⟨am_y64, (List.forall_mem_cons.mpr ⟨am_y65, (List.forall_mem_cons.mpr ⟨am_y66, (List.forall_mem_cons.mpr ⟨am_y67, (List.forall_mem_cons.mpr ⟨am_y68, (List.forall_mem_cons.mpr ⟨am_y69, (List.forall_mem_cons.mpr ⟨am_y70, (List.forall_mem_cons.mpr ⟨am_y71, (List.forall_mem_cons.mpr ⟨am_y72, (List.forall_mem_cons.mpr ⟨am_y73, (List.forall_mem_cons.mpr ⟨am_y74, (List.forall_mem_cons.mpr ⟨am_y75, (fun _ h => absurd h List.not_mem_nil)⟩)⟩)⟩)⟩)⟩)⟩)⟩)⟩)⟩)⟩)⟩)⟩)⟩)⟩)⟩)⟩)⟩)⟩)⟩)
theorem am_yk_4 : ∀ k ∈ ([76, 77, 78, 79, 80, 81, 82, 83, 84, 85, 86, 87, 88, 89, 90, 91, 92, 93, 94] : List Nat), am_yok k := (List.forall_mem_cons.mpr ⟨am_y76, (List.forall_mem_cons.mpr ⟨am_y77, (List.forall_mem_cons.mpr ⟨am_y78, (List.forall_mem_cons.mpr ⟨am_y79, (List.forall_mem_cons.mpr ⟨am_y80, (List.forall_mem_cons.mpr ⟨am_y81, (List.forall_mem_cons.mpr ⟨am_y82, (List.forall_mem_cons.mpr ⟨am_y83, (List.forall_mem_cons.mpr ⟨am_y84, (List.forall_mem_cons.mpr ⟨am_y85, (List.forall_mem_cons.mpr ⟨am_y86, (List.forall_mem_cons.mpr ⟨am_y87, (List.forall_mem_cons.mpr ⟨am_y88, (List.forall_mem_cons.mpr ⟨am_y89, (List.forall_mem_cons.mpr ⟨am_y90, (List.forall_mem_cons.mpr ⟨am_y91, (List.forall_mem_cons.mpr ⟨am_y92, (List.forall_mem_cons.mpr ⟨am_y93, (List.forall_mem_cons.mpr ⟨am_y94, (fun _ h => absurd h List.not_mem_nil)⟩)⟩)⟩)⟩)⟩)⟩)⟩)⟩)⟩)⟩)⟩)⟩)⟩)⟩)⟩)⟩)⟩)⟩)⟩)
theorem am_yk_5 : ∀ k ∈ ([95, 96, 97, 98, 99, 100, 101, 102, 103, 104, 105, 106, 107, 108, 109, 110, 111, 112, 113] : List Nat), am_yok k := (List.forall_mem_cons.mpr ⟨am_y95, (List.forall_mem_cons.mpr ⟨am_y96, (List.forall_mem_cons.mpr ⟨am_y97, (List.forall_mem_cons.mpr ⟨am_y98, (List.forall_mem_cons.mpr ⟨am_y99, (List.forall_mem_cons.mpr ⟨am_y100, (List.forall_mem_cons.mpr ⟨am_y101, (List.forall_mem_cons.mpr ⟨am_y102, (List.forall_mem_cons.mpr ⟨am_y103, (List.forall_mem_cons.mpr ⟨am_y104, (List.forall_mem_cons.mpr ⟨am_y105, (List.forall_mem_cons.mpr ⟨am_y106, (List.forall_mem_cons.mpr ⟨am_y107, (List.forall_mem_cons.mpr ⟨am_y108, (List.forall_mem_cons.mpr ⟨am_y109, (List.forall_mem_cons.mpr ⟨am_y110, (List.forall_mem_cons.mpr ⟨am_y111, (List.forall_mem_cons.mpr ⟨am_y112, (List.forall_mem_cons.mpr ⟨am_y113, (fun _ h => absurd h List.not_mem_nil)⟩)⟩)⟩)⟩)⟩)⟩)⟩)⟩)⟩)⟩)⟩)⟩)⟩)⟩)⟩)⟩)⟩)⟩)⟩)
set_option maxRecDepth 100000 in
theorem am_yk_6 : ∀ k ∈ ([114, 115, 116, 117, 118, 119, 120, 121, 122, 123, 124, 125, 126, 127, 128, 129, 130, 131, 132] : List Nat), am_yok k := (List.forall_mem_cons.mpr ⟨am_y114, (List.forall_mem_cons.mpr ⟨am_y115, (List.forall_mem_cons.mpr ⟨am_y116, (List.forall_mem_cons.mpr ⟨am_y117, (List.forall_mem_cons.mpr ⟨am_y118, (List.forall_mem_cons.mpr ⟨am_y119, (List.forall_mem_cons.mpr ⟨am_y120, (List.forall_mem_cons.mpr ⟨am_y121, (List.forall_mem_cons.mpr ⟨am_y122, (List.forall_mem_cons.mpr ⟨am_y123, (List.forall_mem_cons.mpr ⟨am_y124, (List.forall_mem_cons.mpr ⟨am_y125, (List.forall_mem_cons.mpr ⟨am_y126, (List.forall_mem_cons.mpr ⟨am_y127, (List.forall_mem_cons.mpr ⟨am_y128, (List.forall_mem_cons.mpr ⟨am_y129, (List.forall_mem_cons.mpr ⟨am_y130, (List.forall_mem_cons.mpr ⟨am_y131, (List.forall_mem_cons.mpr ⟨am_y132, (fun _ h => absurd h List.not_mem_nil)⟩)⟩)⟩)⟩)⟩)⟩)⟩)⟩)⟩)⟩)⟩)⟩)⟩)⟩)⟩)⟩)⟩)⟩)⟩)
set_option maxRecDepth 100000 in
theorem am_yk_7 : ∀ k ∈ ([133, 134, 135, 136, 137, 138, 139, 140, 141, 142, 143, 144, 145, 146, 147, 148, 149, 150, 151] : List Nat), am_yok k := (List.forall_mem_cons.mpr ⟨am_y133, (List.forall_mem_cons.mpr ⟨am_y134, (List.forall_mem_cons.mpr ⟨am_y135, (List.forall_mem_cons.mpr ⟨am_y136, (List.forall_mem_cons.mpr ⟨am_y137, (List.forall_mem_cons.mpr ⟨am_y138, (List.forall_mem_cons.mpr ⟨am_y139, (List.forall_mem_cons.mpr ⟨am_y140, (List.forall_mem_cons.mpr ⟨am_y141, (List.forall_mem_cons.mpr ⟨am_y142, (List.forall_mem_cons.mpr ⟨am_y143, (List.forall_mem_cons.mpr ⟨am_y144, (List.forall_mem_cons.mpr ⟨am_y145, (List.forall_mem_cons.mpr ⟨am_y146, (List.forall_mem_cons.mpr ⟨am_y147, (List.forall_mem_cons.mpr ⟨am_y148, (List.forall_mem_cons.mpr ⟨am_y149, (List.forall_mem_cons.mpr ⟨am_y150, (List.forall_mem_cons.mpr ⟨am_y151, (fun _ h => absurd h List.not_mem_nil)⟩)⟩)⟩)⟩)⟩)⟩)⟩)⟩)⟩)⟩)⟩)⟩)⟩)⟩)⟩)⟩)⟩)⟩)⟩)
set_option maxRecDepth 100000 in
theorem am_yk_8 : ∀ k ∈ ([152, 153, 154, 155, 156, 157, 158, 159, 160, 161, 162, 163, 164, 165, 166, 167, 168, 169, 170] : List Nat), am_yok k := (List.forall_mem_cons.mpr ⟨am_y152, (List.forall_mem_cons.mpr ⟨am_y153, (List.forall_mem_cons.mpr ⟨am_y154, (List.forall_mem_cons.mpr ⟨am_y155, (List.forall_mem_cons.mpr ⟨am_y156, (List.forall_mem_cons.mpr ⟨am_y157, (List.forall_mem_cons.mpr ⟨am_y158, (List.forall_mem_cons.mpr ⟨am_y159, (List.forall_mem_cons.mpr ⟨am_y160, (List.forall_mem_cons.mpr ⟨am_y161, (List.forall_mem_cons.mpr ⟨am_y162, (List.forall_mem_cons.mpr ⟨am_y163, (List.forall_mem_cons.mpr ⟨am_y164, (List.forall_mem_cons.mpr ⟨am_y165, (List.forall_mem_cons.mpr ⟨am_y166, (List.forall_mem_cons.mpr ⟨am_y167, (List.forall_mem_cons.mpr ⟨am_y168, (List.forall_mem_cons.mpr ⟨am_y169, (List.forall_mem_cons.mpr ⟨am_y170, (fun _ h => absurd h List.not_mem_nil)⟩)⟩)⟩)⟩)⟩)⟩)⟩)⟩)⟩)⟩)⟩)⟩)⟩)⟩)⟩)⟩)⟩)⟩)⟩)
set_option maxRecDepth 100000 in
theorem am_yk_9 : ∀ k ∈ ([171, 172, 173, 174, 175, 176, 177, 178, 179, 180, 181, 182, 183, 184, 185, 186, 187, 188, 189] : List Nat), am_yok k := (List.forall_mem_cons.mpr ⟨am_y171, (List.forall_mem_cons.mpr ⟨am_y172, (List.forall_mem_cons.mpr ⟨am_y173, (List.forall_mem_cons.mpr ⟨am_y174, (List.forall_mem_cons.mpr ⟨am_y175, (List.forall_mem_cons.mpr ⟨am_y176, (List.forall_mem_cons.mpr ⟨am_y177, (List.forall_mem_cons.mpr ⟨am_y178, (List.forall_mem_cons.mpr ⟨am_y179, (List.forall_mem_cons.mpr ⟨am_y180, (List.forall_mem_cons.mpr ⟨am_y181, (List.forall_mem_cons.mpr ⟨am_y182, (List.forall_mem_cons.mpr ⟨am_y183, (List.forall_mem_cons.mpr ⟨am_y184, (List.forall_mem_cons.mpr ⟨am_y185, (List.forall_mem_cons.mpr ⟨am_y186, (List.forall_mem_cons.mpr ⟨am_y187, (List.forall_mem_cons.mpr ⟨am_y188, (List.forall_mem_cons.mpr ⟨am_y189, (fun _ h => absurd h List.not_mem_nil)⟩)⟩)⟩)⟩)⟩)⟩)⟩)⟩)⟩)⟩)⟩)⟩)⟩)⟩)⟩)⟩)⟩)⟩)⟩)
set_option maxRecDepth 100000 in
theorem am_yk_10 : ∀ k ∈ ([190, 191, 192, 193, 194, 195, 196, 197, 198, 199, 200, 201, 202, 203, 204, 205, 206, 207, 208] : List Nat), am_yok k := (List.forall_mem_cons.mpr ⟨am_y190, (List.forall_mem_cons.mpr ⟨am_y191, (List.forall_mem_cons.mpr ⟨am_y192, (List.forall_mem_cons.mpr ⟨am_y193, (List.forall_mem_cons.mpr ⟨am_y194, (List.forall_mem_cons.mpr ⟨am_y195, (List.forall_mem_cons.mpr ⟨am_y196, (List.forall_mem_cons.mpr ⟨am_y197, (List.forall_mem_cons.mpr ⟨am_y198, (List.forall_mem_cons.mpr ⟨am_y199, (List.forall_mem_cons.mpr ⟨am_y200, (List.forall_mem_cons.mpr ⟨am_y201, (List.forall_mem_cons.mpr ⟨am_y202, (List.forall_mem_cons.mpr ⟨am_y203, (List.forall_mem_cons.mpr ⟨am_y204, (List.forall_mem_cons.mpr ⟨am_y205, (List.forall_mem_cons.mpr ⟨am_y206, (List.forall_mem_cons.mpr ⟨am_y207, (List.forall_mem_cons.mpr ⟨am_y208, (fun _ h => absurd h List.not_mem_nil)⟩)⟩)⟩)⟩)⟩)⟩)⟩)⟩)⟩)⟩)⟩)⟩)⟩)⟩)⟩)⟩)⟩)⟩)⟩)
theorem am_yk_11 : ∀ k ∈ ([209, 210, 211, 212, 213, 214, 215, 216, 217, 218, 219, 220, 221, 222, 223, 224, 225, 226] : List Nat), am_yok k := (List.forall_mem_cons.mpr ⟨am_y209, (List.forall_mem_cons.mpr ⟨am_y210, (List.forall_mem_cons.mpr ⟨am_y211, (List.forall_mem_cons.mpr ⟨am_y212, (List.forall_mem_cons.mpr ⟨am_y213, (List.forall_mem_cons.mpr ⟨am_y214, (List.forall_mem_cons.mpr ⟨am_y215, (List.forall_mem_cons.mpr ⟨am_y216, (List.forall_mem_cons.mpr ⟨am_y217, (List.forall_mem_cons.mpr ⟨am_y218, (List.forall_mem_cons.mpr ⟨am_y219, (List.forall_mem_cons.mpr ⟨am_y220, (List.forall_mem_cons.mpr ⟨am_y221, (List.forall_mem_cons.mpr ⟨am_y222, (List.forall_mem_cons.mpr ⟨am_y223, (List.forall_mem_cons.mpr ⟨am_y224, (List.forall_mem_cons.mpr ⟨am_y225, (List.forall_mem_cons.mpr ⟨am_y226, (fun _ h => absurd h List.not_mem_nil)⟩)⟩)⟩)⟩)⟩)⟩)⟩)⟩)⟩)⟩)⟩)⟩)⟩)⟩)⟩)⟩)⟩)⟩)
theorem am_yok_ok {k : Nat} (hk : k < 228) (hl : k ≠ 227) : am_yok k := by
  have h3 : ∀ k, k < 228 → k ≠ 227 → k ∈ ([0, 1, 2, 3, 4, 5, 6, 7, 8, 9, 10, 11, 12, 13, 14, 15, 16, 17, 18] ++ ([19, 20, 21, 22, 23, 24, 25, 26, 27, 28, 29, 30, 31, 32, 33, 34, 35, 36, 37] ++ ([38, 39, 40, 41, 42, 43, 44, 45, 46, 47, 48, 49, 50, 51, 52, 53, 54, 55, 56] ++ ([57, 58, 59, 60, 61, 62, 63, 64, 65, 66, 67, 68, 69, 70, 71, 72, 73, 74, 75] ++ ([76, 77, 78, 79, 80, 81, 82, 83, 84, 85, 86, 87, 88, 89, 90, 91, 92, 93, 94] ++ ([95, 96, 97, 98, 99, 100, 101, 102, 103, 104, 105, 106, 107, 108, 109, 110, 111, 112, 113] ++ ([114, 115, 116, 117, 118, 119, 120, 121, 122, 123, 124, 125, 126, 127, 128, 129, 130, 131, 132] ++ ([133, 134, 135, 136, 137, 138, 139, 140, 141, 142, 143, 144, 145, 146, 147, 148, 149, 150, 151] ++ ([152, 153, 154, 155, 156, 157, 158, 159, 160, 161, 162, 163, 164, 165, 166, 167, 168, 169, 170] ++ ([171, 172, 173, 174, 175, 176, 177, 178, 179, 180, 181, 182, 183, 184, 185, 186, 187, 188, 189] ++ ([190, 191, 192, 193, 194, 195, 196, 197, 198, 199, 200, 201, 202, 203, 204, 205, 206, 207, 208] ++ ([209, 210, 211, 212, 213, 214, 215, 216, 217, 218, 219, 220, 221, 222, 223, 224, 225, 226]))))))))))) : List Nat) := by decide +kernel
  have h := h3 k hk hl
  exact (List.mem_append.mp h).elim (fun h => am_yk_0 k h) (fun h => (List.mem_append.mp h).elim (fun h => am_yk_1 k h) (fun h => (List.mem_append.mp h).elim (fun h => am_yk_2 k h) (fun h => (List.mem_append.mp h).elim (fun h => am_yk_3 k h) (fun h => (List.mem_append.mp h).elim (fun h => am_yk_4 k h) (fun h => (List.mem_append.mp h).elim (fun h => am_yk_5 k h) (fun h => (List.mem_append.mp h).elim (fun h => am_yk_6 k h) (fun h => (List.mem_append.mp h).elim (fun h => am_yk_7 k h) (fun h => (List.mem_append.mp h).elim (fun h => am_yk_8 k h) (fun h => (List.mem_append.mp h).elim (fun h => am_yk_9 k h) (fun h => (List.mem_append.mp h).elim (fun h => am_yk_10 k h) (fun h => am_yk_11 k h)))))))))))
theorem am_mi_of {k : Nat} {mi : am_Info} (h : am_MT[k]? = some mi) : mi = am_mi k ∧ k < 228 := by
  refine ⟨?_, (List.getElem?_eq_some_iff.mp h).1⟩
  unfold am_mi
  rw [List.getD_eq_getElem?_getD, h]
  rfl
def am_LAW : Nat := 227
end
section
/-! the code, held against the bytes -/
def am_tgt (pc : Nat) (off : Int) (t : Nat) : Bool := decide ((pc : Int) + off = (t : Int))
/-- what an instruction's row must say -/
def am_ckI (own nL : Nat) (init : Bool) (pc len : Nat) (aux : List Nat) : Instr → Bool
  | .iconst n => Nat.beq len 1 && decide (Int32.ofInt n = am_lit n)
  | .bipush n => Nat.beq len 2 && decide ((Int8.ofInt n).toInt32 = am_lit n)
  | .sipush n => Nat.beq len 3 && decide ((Int16.ofInt n).toInt32 = am_lit n)
  | .lconst _ | .iload_n _ | .lload_n _ | .aload_n _ => Nat.beq len 1
  | .iload _ | .lload _ | .aload _ => Nat.beq len 2
  | .istore i => Nat.beq len 2 && Nat.blt i nL
  | .istore_n i => Nat.beq len 1 && Nat.blt i.val nL
  | .astore_n i => Nat.beq len 1 && Nat.blt i.val nL
  | .lstore i => Nat.beq len 2 && Nat.blt (i + 1) nL
  | .iinc i n => Nat.beq len 3 && Nat.blt i nL && decide (Int32.ofInt n = am_lit n)
  | .iadd | .isub | .imul | .idiv | .irem | .ineg | .iand | .ior | .ixor | .ishl | .ishr | .iushr | .ladd | .lmul | .lcmp | .i2l | .i2b | .dup | .dup2 | .pop => Nat.beq len 1
  | .iaload | .baload | .laload | .iastore | .bastore | .lastore | .arraylength | .ireturn | .lreturn | .return_ => Nat.beq len 1
  | .goto o => match aux with
    | [t] => Nat.beq len 3 && am_tgt pc o t
    | _ => false
  | .ifCond _ o => match aux with
    | [t] => Nat.beq len 3 && am_tgt pc o t
    | _ => false
  | .if_icmp _ o => match aux with
    | [t] => Nat.beq len 3 && am_tgt pc o t
    | _ => false
  | .tableswitch df lo hi offs => match aux with
    | d :: ts => am_tgt pc df d && decide (offs.toList.map (fun z => (pc : Int) + z) = ts.map Int.ofNat) && decide (hi = lo + ts.length - 1) && (List.range ts.length).all (fun i => decide ((am_lit (lo + i)).toInt = lo + i))
    | _ => false
  | .getfield ix => match aux with
    | [ci, j] => Nat.beq len 3 && (am_FT own).any (fun q => Nat.beq q.1 ix && Nat.beq q.2.1 ci && Nat.beq q.2.2 j)
    | _ => false
  | .putfield ix => match aux with
    | [ci, j, z] => Nat.beq len 3 && (am_FT own).any (fun q => Nat.beq q.1 ix && Nat.beq q.2.1 ci && Nat.beq q.2.2 j) && (match z with
      | 0 => !((am_cls ci).2.1 j).2.2.2 && decide (am_tyf ci j = .int)
      | 1 => !((am_cls ci).2.1 j).2.2.2 && decide (am_tyf ci j = .boolean)
      | 2 => ((am_cls ci).2.1 j).2.2.2 && Nat.beq ci own && init && (match am_tyf ci j with
        | .object _ => true
        | .array _ => true
        | _ => false)
      | _ => false)
    | _ => false
  | .getstatic ix => match aux with
    | [a] => Nat.beq len 3 && Nat.ble 1 a && Nat.ble a 3 && (am_SP own).any (fun q => Nat.beq q.1 ix && Nat.beq q.2 a)
    | _ => false
  | .ldc ix => match aux with
    | [0, x] => Nat.beq len 2 && (am_KT own).any (fun q => Nat.beq q.1 ix && Nat.beq q.2.1 0 && Nat.beq q.2.2.1 x && Nat.beq q.2.2.2 0)
    | [1, x] => Nat.beq len 2 && (am_KT own).any (fun q => Nat.beq q.1 ix && Nat.beq q.2.1 1 && Nat.beq q.2.2.1 x && Nat.beq q.2.2.2 0)
    | [2, a] => Nat.beq len 2 && Nat.beq own 7 && Nat.beq ix 68 && Nat.beq a 4
    | _ => false
  | .ldc_w ix => match aux with
    | [0, x] => Nat.beq len 3 && (am_KT own).any (fun q => Nat.beq q.1 ix && Nat.beq q.2.1 0 && Nat.beq q.2.2.1 x && Nat.beq q.2.2.2 0)
    | [1, x] => Nat.beq len 3 && (am_KT own).any (fun q => Nat.beq q.1 ix && Nat.beq q.2.1 1 && Nat.beq q.2.2.1 x && Nat.beq q.2.2.2 0)
    | _ => false
  | .ldc2_w ix => match aux with
    | [x] => Nat.beq len 3 && (am_KT own).any (fun q => Nat.beq q.1 ix && Nat.beq q.2.2.1 x && Nat.beq q.2.2.2 1)
    | _ => false
  | .newarray t => Nat.beq len 2 && (am_ty t).isSome
  | .new ix => match aux with
    | ci :: bs => Nat.beq len 3 && (am_NT own).any (fun q => Nat.beq q.1 ix && Nat.beq q.2 ci) && Nat.beq bs.length (am_cls ci).2.2 && (List.range bs.length).all (fun j => decide (defaultValue (am_tyf ci j) = if (bs.getD j 0 == 1) = true then .null else .int 0))
    | _ => false
  | .invokevirtual ix => match aux with
    | [b] => Nat.beq len 3 && Nat.beq b 5 && (am_BT own).any (fun q => Nat.beq q.1 ix && Nat.beq q.2 b)
    | [y, n, ci] => Nat.beq len 3 && (am_CT own).any (fun q => Nat.beq q.1 ix && Nat.beq q.2 y) && Nat.blt y 228 && !(Nat.beq y 227) && !(am_sta y) && Nat.beq ci (am_mi y).1 && Nat.blt ci 11 && decide ((parseMethodDescriptor (am_yn y).desc).map (fun d => d.parameters.length) = some n) && decide ((am_yn y).name ≠ "<init>")
    | _ => false
  | .invokespecial ix => match aux with
    | [b] => Nat.beq len 3 && Nat.beq b 0 && (am_BT own).any (fun q => Nat.beq q.1 ix && Nat.beq q.2 b)
    | [y, n, ci] => Nat.beq len 3 && ((am_CT own).any (fun q => Nat.beq q.1 ix && Nat.beq q.2 y) || am_CTN.any (fun q => Nat.beq q.1 own && Nat.beq q.2.1 ix && Nat.beq q.2.2.1 y)) && Nat.blt y 228 && !(Nat.beq y 227) && !(am_sta y) && Nat.beq ci (am_mi y).1 && Nat.blt ci 11 && decide ((parseMethodDescriptor (am_yn y).desc).map (fun d => d.parameters.length) = some n) && decide ((am_yn y).name = "<init>") && decide ((am_mi y).2.2.2.1 = none)
    | _ => false
  | .invokestatic ix => match aux with
    | [b] => Nat.beq len 3 && Nat.ble 1 b && Nat.ble b 4 && (am_BT own).any (fun q => Nat.beq q.1 ix && Nat.beq q.2 b)
    | [y, n] => Nat.beq len 3 && (am_CT own).any (fun q => Nat.beq q.1 ix && Nat.beq q.2 y) && Nat.blt y 228 && !(Nat.beq y 227) && am_sta y && decide ((parseMethodDescriptor (am_yn y).desc).map (fun d => d.parameters.length) = some n)
    | _ => false
  | _ => false
def am_ckE (own nL : Nat) (init : Bool) (b : ByteArray) (e : am_Ent) : Bool := match decode b e.1 with
  | .ok (i, len) => decide (i = e.2.1) && am_ckI own nL init e.1 len e.2.2 e.2.1
  | _ => false
def am_ckM (k : Nat) : Prop := (∀ e ∈ (am_mi k).2.1, am_ckE (am_mi k).1 (am_mi k).2.2.1 (decide ((am_yn k).name = "<init>")) (am_by k) e = true) ∧ (am_mi k).2.2.2.2 ≤ 20 ∧ (am_mi k).2.2.1 ≤ 20
theorem am_ckA {o nL : Nat} {init : Bool} {b : ByteArray} {l : List am_Ent} (h : l.all (am_ckE o nL init b) = true) : ∀ e ∈ l, am_ckE o nL init b e = true := List.all_eq_true.mp h
theorem am_ckM_ok {k : Nat} (hk : k < 228) : am_ckM k := sorry
end
section
/-! THE ABSTRACT MACHINE IS THE MACHINE -/
def am_val (ad : Nat → Nat) : Value → Value
  | .ref a => .ref (ad a)
  | v => v
theorem am_val_cat (ad : Nat → Nat) (v : Value) : (am_val ad v).category = v.category := by cases v <;> rfl
theorem am_cat_map (ad : Nat → Nat) (S : List Value) : am_cat (S.map (am_val ad)) = am_cat S := by
  unfold am_cat
  rw [List.map_map]
  congr 1
  refine List.map_congr_left (fun v _ => am_val_cat ad v)
def am_fl (ad : Nat → Nat) (I : am_I) (c : Nat) : Nat → List (Option Value) → List Value
  | _, [] => []
  | k, none :: t => .int (I c k) :: am_fl ad I c (k + 1) t
  | k, some v :: t => am_val ad v :: am_fl ad I c (k + 1) t
theorem am_fl_len (ad : Nat → Nat) (I : am_I) (c : Nat) : ∀ (fl : List (Option Value)) (k : Nat), (am_fl ad I c k fl).length = fl.length := by
  intro fl
  induction fl with
  | nil => intro k; rfl
  | cons x t ih => intro k; cases x <;> simp [am_fl, ih]
theorem am_fl_none (ad : Nat → Nat) (I : am_I) (c : Nat) : ∀ (fl : List (Option Value)) (k j : Nat), fl[j]? = some none → (am_fl ad I c k fl)[j]? = some (.int (I c (k + j))) := by
  intro fl
  induction fl with
  | nil => intro k j h; cases h
  | cons x t ih =>
    intro k j h
    cases j with
    | zero => cases x <;> simp_all [am_fl]
    | succ j =>
      have h2 : t[j]? = some none := h
      have h3 := ih (k + 1) j h2
      cases x <;> simp only [am_fl, List.getElem?_cons_succ, h3] <;> congr 3 <;> omega
theorem am_fl_some (ad : Nat → Nat) (I : am_I) (c : Nat) : ∀ (fl : List (Option Value)) (k j : Nat) (v : Value), fl[j]? = some (some v) → (am_fl ad I c k fl)[j]? = some (am_val ad v) := by
  intro fl
  induction fl with
  | nil => intro k j v h; cases h
  | cons x t ih =>
    intro k j v h
    cases j with
    | zero => cases x <;> simp_all [am_fl]
    | succ j =>
      have h2 : t[j]? = some (some v) := h
      have h3 := ih (k + 1) j v h2
      cases x <;> simp only [am_fl, List.getElem?_cons_succ, h3]
theorem am_fl_congr (ad : Nat → Nat) (I I' : am_I) (c : Nat) (h : ∀ k, I' c k = I c k) : ∀ (fl : List (Option Value)) (k : Nat), am_fl ad I' c k fl = am_fl ad I c k fl := by
  intro fl
  induction fl with
  | nil => intro k; rfl
  | cons x t ih => intro k; cases x <;> simp [am_fl, ih, h]
/-- an int field written -/
theorem am_fl_upd (ad : Nat → Nat) (I : am_I) (c j : Nat) (x : Int32) : ∀ (fl : List (Option Value)) (k : Nat), (∀ i, fl[i]? = some none → k + i = j → fl[j - k]? = some none) → (fl[j - k]? = some none) → k ≤ j → am_fl ad (am_upd I c j x) c k fl = (am_fl ad I c k fl).set (j - k) (.int x) := by
  intro fl k _ hn hk
  refine List.ext_getElem? (fun i => ?_)
  rw [List.getElem?_set, am_fl_len]
  have hlt : j - k < fl.length := (List.getElem?_eq_some_iff.mp hn).1
  by_cases hi : j - k = i
  · subst hi
    rw [if_pos rfl, if_pos hlt, am_fl_none _ _ _ _ _ _ hn]
    have : k + (j - k) = j := by omega
    rw [this]
    simp [am_upd]
  · rw [if_neg hi]
    cases hf : fl[i]? with
    | none =>
      have h1 : fl.length ≤ i := by simpa using hf
      have h2 : ∀ (I : am_I), (am_fl ad I c k fl)[i]? = none := fun I => by simp [am_fl_len]; omega
      rw [h2, h2]
    | some o =>
      cases o with
      | none =>
        rw [am_fl_none _ _ _ _ _ _ hf, am_fl_none _ _ _ _ _ _ hf]
        have hne : ¬ k + i = j := by omega
        simp [am_upd, hne]
      | some v => rw [am_fl_some _ _ _ _ _ _ _ hf, am_fl_some _ _ _ _ _ _ _ hf]
/-- a reference written -/
theorem am_fl_set (ad : Nat → Nat) (I : am_I) (c j : Nat) (v : Value) : ∀ (fl : List (Option Value)) (k : Nat), (∃ w, fl[j]? = some (some w)) → am_fl ad I c k (fl.set j (some v)) = (am_fl ad I c k fl).set j (am_val ad v) := by
  intro fl k ⟨w, hw⟩
  refine List.ext_getElem? (fun i => ?_)
  rw [List.getElem?_set, am_fl_len]
  have hlt : j < fl.length := (List.getElem?_eq_some_iff.mp hw).1
  by_cases hi : j = i
  · subst hi
    rw [if_pos rfl, if_pos hlt]
    exact am_fl_some _ _ _ _ _ _ _ (by simp [hlt])
  · rw [if_neg hi]
    have hs : (fl.set j (some v))[i]? = fl[i]? := by rw [List.getElem?_set, if_neg hi]
    cases hf : fl[i]? with
    | none =>
      have h1 : fl.length ≤ i := by simpa using hf
      have h2 : (am_fl ad I c k fl)[i]? = none := by simp [am_fl_len]; omega
      have h3 : (am_fl ad I c k (fl.set j (some v)))[i]? = none := by simp [am_fl_len]; omega
      rw [h2, h3]
    | some o =>
      rw [hf] at hs
      cases o with
      | none => rw [am_fl_none _ _ _ _ _ _ hf, am_fl_none _ _ _ _ _ _ hs]
      | some v => rw [am_fl_some _ _ _ _ _ _ _ hf, am_fl_some _ _ _ _ _ _ _ hs]
def am_cl (ad : Nat → Nat) (cid : Nat → ClassId) (I : am_I) (J : am_J) (c : Nat) : am_Shp → va_E
  | .inl (t, n) => .inl (cid t, n, match Nat.beq t 3 with
    | true => .inr (.inl (J c))
    | false => .inl (I c))
  | .inr (ci, fl) => .inr (ci, am_fl ad I c 0 fl)
theorem am_cl_congr {ad : Nat → Nat} {cid : Nat → ClassId} {I I' : am_I} {J J' : am_J} {c : Nat} (s : am_Shp) (h : I' c = I c) (hJ : J' c = J c) : am_cl ad cid I' J' c s = am_cl ad cid I J c s := by
  cases s with
  | inl q => obtain ⟨t, n⟩ := q; simp only [am_cl, h, hJ]
  | inr q => obtain ⟨ci, fl⟩ := q; simp only [am_cl]; rw [am_fl_congr ad I I' c (fun k => by rw [h])]
def am_s0 : am_Shp := .inl (0, 0)
def am_ws (ad : Nat → Nat) (cid : Nat → ClassId) (μ : am_Mem) : va_W := (List.range (μ.1.length - 5)).map fun j => (ad (j + 5), am_cl ad cid μ.2.1 μ.2.2 (j + 5) (μ.1.getD (j + 5) am_s0))
theorem am_ws_len (ad : Nat → Nat) (cid : Nat → ClassId) (μ : am_Mem) : (am_ws ad cid μ).length = μ.1.length - 5 := by simp [am_ws]
theorem am_ws_at (ad : Nat → Nat) (cid : Nat → ClassId) (μ : am_Mem) (j : Nat) : (am_ws ad cid μ)[j]? = if j < μ.1.length - 5 then some (ad (j + 5), am_cl ad cid μ.2.1 μ.2.2 (j + 5) (μ.1.getD (j + 5) am_s0)) else none := by
  unfold am_ws
  rw [List.getElem?_map]
  by_cases h : j < μ.1.length - 5
  · rw [if_pos h, List.getElem?_range h]
    rfl
  · rw [if_neg h, List.getElem?_eq_none (by simpa using h)]
    rfl
theorem am_ws_get {ad : Nat → Nat} {cid : Nat → ClassId} {μ : am_Mem} {a : Nat} {s : am_Shp} (h : μ.1[a]? = some s) (h5 : 5 ≤ a) : (am_ws ad cid μ)[a - 5]? = some (ad a, am_cl ad cid μ.2.1 μ.2.2 a s) := by
  have hlt : a < μ.1.length := (List.getElem?_eq_some_iff.mp h).1
  rw [am_ws_at, if_pos (by omega)]
  have e : a - 5 + 5 = a := by omega
  rw [e, List.getD_eq_getElem?_getD, h]
  rfl
theorem am_ws_set {ad : Nat → Nat} {cid : Nat → ClassId} {μ μ' : am_Mem} {a : Nat} {s' : am_Shp} (h5 : 5 ≤ a) (hlt : a < μ.1.length) (hl : μ'.1.length = μ.1.length) (hs : μ'.1[a]? = some s') (ho : ∀ c, c ≠ a → μ'.1[c]? = μ.1[c]? ∧ μ'.2.1 c = μ.2.1 c ∧ μ'.2.2 c = μ.2.2 c) :
    (am_ws ad cid μ).set (a - 5) (ad a, am_cl ad cid μ'.2.1 μ'.2.2 a s') = am_ws ad cid μ' := by
  refine List.ext_getElem? (fun j => ?_)
  rw [List.getElem?_set, am_ws_len]
  by_cases hj : a - 5 = j
  · subst hj
    rw [if_pos rfl, if_pos (by omega), am_ws_get hs h5]
  · rw [if_neg hj, am_ws_at, am_ws_at, hl]
    obtain ⟨h1, h2, h3⟩ := ho (j + 5) (by omega)
    by_cases hb : j < μ.1.length - 5
    · rw [if_pos hb, if_pos hb, List.getD_eq_getElem?_getD, List.getD_eq_getElem?_getD, h1, am_cl_congr _ h2 h3]
    · rw [if_neg hb, if_neg hb]
theorem am_ws_push {ad : Nat → Nat} {cid : Nat → ClassId} {μ μ' : am_Mem} {s : am_Shp} (h5 : 5 ≤ μ.1.length) (hs : μ'.1 = μ.1 ++ [s]) (ho : ∀ c, c ≠ μ.1.length → μ'.2.1 c = μ.2.1 c ∧ μ'.2.2 c = μ.2.2 c) :
    am_ws ad cid μ' = am_ws ad cid μ ++ [(ad μ.1.length, am_cl ad cid μ'.2.1 μ'.2.2 μ.1.length s)] := by
  have hl : μ'.1.length = μ.1.length + 1 := by rw [hs]; simp
  refine List.ext_getElem? (fun j => ?_)
  by_cases hj : j < μ.1.length - 5
  · rw [List.getElem?_append_left (by rw [am_ws_len]; exact hj), am_ws_at, am_ws_at, if_pos hj, if_pos (by omega)]
    obtain ⟨h2, h3⟩ := ho (j + 5) (by omega)
    have e : μ'.1[j + 5]? = μ.1[j + 5]? := by rw [hs, List.getElem?_append_left (by omega)]
    rw [List.getD_eq_getElem?_getD, List.getD_eq_getElem?_getD, e, am_cl_congr _ h2 h3]
  · by_cases hz : j = μ.1.length - 5
    · subst hz
      have hg : μ'.1[μ.1.length]? = some s := by rw [hs]; simp
      have := am_ws_get (ad := ad) (cid := cid) hg h5
      rw [this, List.getElem?_append_right (by rw [am_ws_len]; omega), am_ws_len]
      simp
    · rw [am_ws_at, if_neg (by omega), List.getElem?_append_right (by rw [am_ws_len]; omega), am_ws_len]
      rw [List.getElem?_eq_none (by simp; omega)]
def am_ad (o : Nat → Nat) (base : Nat) : Nat → Nat := fun c => if c < 5 then o c else base + (c - 5)
theorem am_ad_new {o : Nat → Nat} {base a : Nat} (h : 5 ≤ a) : am_ad o base a = base + (a - 5) := by unfold am_ad; rw [if_neg (by omega)]
theorem am_ad_old {o : Nat → Nat} {base a : Nat} (h : a < 5) : am_ad o base a = o a := by unfold am_ad; rw [if_pos h]
theorem am_ws_D (o : Nat → Nat) (base : Nat) (cid : Nat → ClassId) (μ : am_Mem) : va_D (fun q => base ≤ q) (am_ws (am_ad o base) cid μ) := by
  refine ⟨fun i j p q hi hj h => ?_, fun k q hk => ?_⟩
  · rw [am_ws_at] at hi hj
    split at hi
    · split at hj
      · cases hi
        cases hj
        simp only [am_ad_new (show 5 ≤ i + 5 by omega), am_ad_new (show 5 ≤ j + 5 by omega)] at h
        omega
      · cases hj
    · cases hi
  · rw [am_ws_at] at hk
    split at hk
    · cases hk
      simp only [am_ad_new (show 5 ≤ k + 5 by omega)]
      omega
    · cases hk
def am_olds : List am_Shp := [.inl (12, 3072), .inl (10, 3), .inl (10, 3), .inl (10, 3), .inl (11, 136)]
def am_wf (Sh : List am_Shp) : Prop := ∃ T : List am_Shp, Sh = am_olds ++ T ∧ ∀ s ∈ T, ∀ t n, s = .inl (t, n) → t ≤ 3
theorem am_wf.len {Sh : List am_Shp} (h : am_wf Sh) : 5 ≤ Sh.length := by
  obtain ⟨T, rfl, -⟩ := h
  simp [am_olds]
theorem am_wf.arr {Sh : List am_Shp} (h : am_wf Sh) {a t n : Nat} (ha : Sh[a]? = some (.inl (t, n))) : (5 ≤ a ∧ t ≤ 3) ∨ (a = 0 ∧ t = 12) ∨ (1 ≤ a ∧ a ≤ 3 ∧ t = 10 ∧ n = 3) ∨ (a = 4 ∧ t = 11) := by
  obtain ⟨T, rfl, hT⟩ := h
  by_cases h5 : 5 ≤ a
  · rw [List.getElem?_append_right (by simpa [am_olds] using h5)] at ha
    exact Or.inl ⟨h5, hT _ (List.mem_of_getElem? ha) t n rfl⟩
  · rw [List.getElem?_append_left (by simp [am_olds]; omega)] at ha
    right
    rcases (show a = 0 ∨ a = 1 ∨ a = 2 ∨ a = 3 ∨ a = 4 by omega) with rfl | rfl | rfl | rfl | rfl <;> simp [am_olds] at ha <;> omega
theorem am_wf.obj {Sh : List am_Shp} (h : am_wf Sh) {a ci : Nat} {fl : List (Option Value)} (ha : Sh[a]? = some (.inr (ci, fl))) : 5 ≤ a := by
  obtain ⟨T, rfl, hT⟩ := h
  by_cases h5 : 5 ≤ a
  · exact h5
  · rw [List.getElem?_append_left (by simp [am_olds]; omega)] at ha
    rcases (show a = 0 ∨ a = 1 ∨ a = 2 ∨ a = 3 ∨ a = 4 by omega) with rfl | rfl | rfl | rfl | rfl <;> simp [am_olds] at ha
theorem am_wf.set {Sh : List am_Shp} (h : am_wf Sh) {a ci : Nat} (h5 : 5 ≤ a) (fl : List (Option Value)) : am_wf (Sh.set a (.inr (ci, fl))) := by
  obtain ⟨T, rfl, hT⟩ := h
  refine ⟨T.set (a - 5) (.inr (ci, fl)), ?_, fun s hs t n e => ?_⟩
  · rw [List.set_append, if_neg (by simp [am_olds]; omega)]
    simp [am_olds]
  · rcases List.mem_or_eq_of_mem_set hs with h | h
    · exact hT s h t n e
    · rw [h] at e
      cases e
theorem am_wf.push {Sh : List am_Shp} (h : am_wf Sh) {s : am_Shp} (hs : ∀ t n, s = .inl (t, n) → t ≤ 3) : am_wf (Sh ++ [s]) := by
  obtain ⟨T, rfl, hT⟩ := h
  refine ⟨T ++ [s], by simp, fun s' hs' t n e => ?_⟩
  rcases List.mem_append.mp hs' with h | h
  · exact hT s' h t n e
  · rw [List.mem_singleton.mp h] at e
    exact hs t n e
def am_ssz : am_Shp → Nat
  | .inl (_, n) => n
  | .inr (_, fl) => fl.length
def am_sz (Sh : List am_Shp) : Nat := (Sh.map am_ssz).sum
theorem am_sz_push (Sh : List am_Shp) (s : am_Shp) : am_sz (Sh ++ [s]) = am_sz Sh + am_ssz s := by simp [am_sz]
theorem am_sz_set {Sh : List am_Shp} {a : Nat} {s s' : am_Shp} (h : Sh[a]? = some s) (hs : am_ssz s' = am_ssz s) : am_sz (Sh.set a s') = am_sz Sh := by
  have : (Sh.set a s').map am_ssz = Sh.map am_ssz := by
    refine List.ext_getElem? (fun j => ?_)
    rw [List.getElem?_map, List.getElem?_map, List.getElem?_set]
    by_cases hj : a = j
    · subst hj
      rw [if_pos rfl, if_pos (List.getElem?_eq_some_iff.mp h).1, h]
      simp [hs]
    · rw [if_neg hj]
  unfold am_sz
  rw [this]
/-- locals -/
def am_LR (ad : Nat → Nat) (nL : Nat) (ls : Array Slot) (L : am_Loc) : Prop := L.length = nL ∧ ls.size = nL ∧ lv_wf ls ∧ ∀ (i : Nat) (v : Value), L[i]? = some (some v) → ls[i]? = some (.val (am_val ad v))
def am_prs (ad : Nat → Nat) (L : am_Loc) : List (Nat × Value) := (List.range L.length).filterMap fun i => match L[i]? with
  | some (some v) => some (i, am_val ad v)
  | _ => none
theorem am_prs_mem {ad : Nat → Nat} {L : am_Loc} {q : Nat × Value} : q ∈ am_prs ad L ↔ ∃ v, L[q.1]? = some (some v) ∧ q.2 = am_val ad v := by
  unfold am_prs
  rw [List.mem_filterMap]
  constructor
  · rintro ⟨i, -, h⟩
    split at h
    · rename_i v hv
      cases h
      exact ⟨v, hv, rfl⟩
    · cases h
  · rintro ⟨v, hv, e⟩
    refine ⟨q.1, List.mem_range.mpr (List.getElem?_eq_some_iff.mp hv).1, ?_⟩
    rw [hv]
    simp only [← e]
theorem am_LR.has {ad : Nat → Nat} {nL : Nat} {ls : Array Slot} {L : am_Loc} (h : am_LR ad nL ls L) : lv_has ls nL (am_prs ad L) := by
  refine ⟨h.2.1, h.2.2.1, fun q hq => ?_⟩
  obtain ⟨v, hv, e⟩ := am_prs_mem.mp hq
  rw [e]
  exact h.2.2.2 _ _ hv
theorem am_LR.of1 {ad : Nat → Nat} {nL : Nat} {ls ls' : Array Slot} {L : am_Loc} {i : Nat} {v : Value} (h : am_LR ad nL ls L) (h' : lv_has ls' nL ((i, am_val ad v) :: (am_prs ad L).filter (fun q => !(q.1 == i) && !(q.1 + 1 == i && q.2.category == 2)))) : am_LR ad nL ls' (am_st L i v) := by
  refine ⟨by unfold am_st; rw [List.length_set]; split <;> simp [h.1], h'.1, h'.2.1, fun j w hw => ?_⟩
  unfold am_st at hw
  rw [List.getElem?_set] at hw
  by_cases hij : i = j
  · subst hij
    rw [if_pos rfl] at hw
    by_cases hb : i < (if am_pv L i = true then L.set (i - 1) none else L).length
    · rw [if_pos hb] at hw
      cases hw
      exact h'.2.2 _ List.mem_cons_self
    · rw [if_neg hb] at hw
      cases hw
  · rw [if_neg hij] at hw
    have hL : L[j]? = some (some w) ∧ ¬ (j + 1 = i ∧ w.category = 2) := by
      cases hp : am_pv L i
      · rw [hp] at hw
        simp only [Bool.false_eq_true, if_false] at hw
        refine ⟨hw, fun ⟨q1, q2⟩ => ?_⟩
        subst q1
        simp only [am_pv, hw] at hp
        rw [q2] at hp
        cases hp
      · rw [hp] at hw
        simp only [if_true] at hw
        rw [List.getElem?_set] at hw
        by_cases hq : i - 1 = j
        · rw [if_pos hq] at hw
          split at hw <;> cases hw
        · rw [if_neg hq] at hw
          exact ⟨hw, fun ⟨q1, _⟩ => hq (by omega)⟩
    refine h'.2.2 (j, am_val ad w) (List.mem_cons_of_mem _ (List.mem_filter.mpr ⟨am_prs_mem.mpr ⟨w, hL.1, rfl⟩, ?_⟩))
    have h2 := hL.2
    have n1 : ¬ j = i := fun e => hij e.symm
    simp only [am_val_cat]
    simp only [Bool.and_eq_true, Bool.not_eq_true', beq_eq_false_iff_ne, ne_eq, Bool.and_eq_false_imp, beq_iff_eq]
    exact ⟨n1, fun e => by simpa using fun q => h2 ⟨e, q⟩⟩
theorem am_LR.of2 {ad : Nat → Nat} {nL : Nat} {ls ls' : Array Slot} {L : am_Loc} {i : Nat} {v : Value} (h : am_LR ad nL ls L) (h' : lv_has ls' nL ((i, am_val ad v) :: (am_prs ad L).filter (fun q => !(q.1 == i) && (!(q.1 == i + 1) && !(q.1 + 1 == i && q.2.category == 2))))) : am_LR ad nL ls' ((am_st L i v).set (i + 1) none) := by
  refine ⟨by unfold am_st; rw [List.length_set, List.length_set]; split <;> simp [h.1], h'.1, h'.2.1, fun j w hw => ?_⟩
  rw [List.getElem?_set] at hw
  by_cases hi1 : i + 1 = j
  · rw [if_pos hi1] at hw
    split at hw <;> cases hw
  rw [if_neg hi1] at hw
  unfold am_st at hw
  rw [List.getElem?_set] at hw
  by_cases hij : i = j
  · subst hij
    rw [if_pos rfl] at hw
    by_cases hb : i < (if am_pv L i = true then L.set (i - 1) none else L).length
    · rw [if_pos hb] at hw
      cases hw
      exact h'.2.2 _ List.mem_cons_self
    · rw [if_neg hb] at hw
      cases hw
  · rw [if_neg hij] at hw
    have hL : L[j]? = some (some w) ∧ ¬ (j + 1 = i ∧ w.category = 2) := by
      cases hp : am_pv L i
      · rw [hp] at hw
        simp only [Bool.false_eq_true, if_false] at hw
        refine ⟨hw, fun ⟨q1, q2⟩ => ?_⟩
        subst q1
        simp only [am_pv, hw] at hp
        rw [q2] at hp
        cases hp
      · rw [hp] at hw
        simp only [if_true] at hw
        rw [List.getElem?_set] at hw
        by_cases hq : i - 1 = j
        · rw [if_pos hq] at hw
          split at hw <;> cases hw
        · rw [if_neg hq] at hw
          exact ⟨hw, fun ⟨q1, _⟩ => hq (by omega)⟩
    refine h'.2.2 (j, am_val ad w) (List.mem_cons_of_mem _ (List.mem_filter.mpr ⟨am_prs_mem.mpr ⟨w, hL.1, rfl⟩, ?_⟩))
    have h2 := hL.2
    have n1 : ¬ j = i := fun e => hij e.symm
    have n2 : ¬ j = i + 1 := fun e => hi1 e.symm
    simp only [am_val_cat]
    simp only [Bool.and_eq_true, Bool.not_eq_true', beq_eq_false_iff_ne, ne_eq, Bool.and_eq_false_imp, beq_iff_eq]
    exact ⟨n1, n2, fun e => by simpa using fun q => h2 ⟨e, q⟩⟩
theorem am_args_at (ad : Nat → Nat) : ∀ (a : List Value) (k i : Nat) (v : Value), (am_args a)[i]? = some (some v) → (k + i, am_val ad v) ∈ lv_args k (a.map (am_val ad)) := by
  intro a
  induction a with
  | nil => intro k i v h; simp [am_args] at h
  | cons w t ih =>
    intro k i v h
    simp only [am_args] at h
    simp only [List.map_cons, lv_args, am_val_cat]
    split at h
    · rename_i hc
      have hc : w.category = 2 := Nat.eq_of_beq_eq_true hc
      rw [if_pos hc]
      rcases i with _ | _ | i
      · cases h
        exact List.mem_cons_self
      · simp at h
      · simp only [List.getElem?_cons_succ] at h
        have h2 := ih (k + 2) i v h
        have e : k + 2 + i = k + (i + 1 + 1) := by omega
        rw [e] at h2
        exact List.mem_cons_of_mem _ h2
    · rename_i hc
      have hc : ¬ w.category = 2 := Nat.ne_of_beq_eq_false hc
      rw [if_neg hc]
      rcases i with _ | i
      · cases h
        exact List.mem_cons_self
      · simp only [List.getElem?_cons_succ] at h
        have h2 := ih (k + 1) i v h
        have e : k + 1 + i = k + (i + 1) := by omega
        rw [e] at h2
        exact List.mem_cons_of_mem _ h2
theorem am_args_len (ad : Nat → Nat) : ∀ (a : List Value), (am_args a).length = (lg_sl (a.map (am_val ad))).length := by
  intro a
  induction a with
  | nil => rfl
  | cons w t ih =>
    simp only [am_args, List.map_cons, lg_sl, List.flatMap_cons, am_val_cat, List.length_append] at ih ⊢
    split
    · rename_i hc
      have hc : w.category = 2 := Nat.eq_of_beq_eq_true hc
      rw [if_pos hc]
      simp only [List.length_cons, List.length_nil, ih]
      omega
    · rename_i hc
      have hc : ¬ w.category = 2 := Nat.ne_of_beq_eq_false hc
      rw [if_neg hc]
      simp only [List.length_cons, List.length_nil, ih]
      omega
theorem am_LR.entry (ad : Nat → Nat) {nL : Nat} (a : List Value) (h : (am_args a).length ≤ nL) : am_LR ad nL ((lg_sl (a.map (am_val ad)) ++ List.replicate (nL - (lg_sl (a.map (am_val ad))).length) Slot.unset).toArray) (am_entry nL a) := by
  have hh := lv_entry (a.map (am_val ad)) (n := nL) (by rw [← am_args_len ad]; exact h)
  refine ⟨by simp [am_entry]; omega, hh.1, hh.2.1, fun i v hv => ?_⟩
  refine hh.2.2 (i, am_val ad v) ?_
  unfold am_entry at hv
  by_cases hi : i < (am_args a).length
  · rw [List.getElem?_append_left hi] at hv
    have h2 := am_args_at ad a 0 i v hv
    simpa using h2
  · rw [List.getElem?_append_right (by omega), List.getElem?_replicate] at hv
    split at hv <;> cases hv
end
section
/-! the relation between the two machines -/
def am_A (base : Nat) : Nat → Prop := fun q => base ≤ q
def am_tys (cid : Nat → ClassId) : List (ClassId × FieldType) := [(cid 0, .int), (cid 1, .byte), (cid 2, .boolean), (cid 3, .long)]
def am_txt : List Int32 := [98, 111, 97, 114, 100, 32, 32, 32, 119, 111, 114, 116, 104, 32, 32, 32, 97, 110, 115, 119, 101, 114, 32, 32, 100, 114, 97, 119, 32, 32, 32, 32, 116, 104, 105, 110, 107, 115, 32, 32, 115, 116, 101, 112, 32, 32, 32, 32, 99, 108, 111, 99, 107, 32, 32, 32, 102, 108, 97, 103, 32, 32, 32, 32, 105, 102, 32, 32, 32, 32, 32, 32, 116, 104, 101, 110, 32, 32, 32, 32, 101, 108, 115, 101, 32, 32, 32, 32, 116, 104, 105, 110, 107, 32, 32, 32, 109, 111, 118, 101, 32, 32, 32, 32, 116, 105, 109, 101, 32, 32, 32, 32, 105, 100, 108, 101, 32, 32, 32, 32, 108, 101, 102, 116, 32, 32, 32, 32, 115, 117, 109, 32, 32, 32, 32, 32]
def am_str (o : Nat → Nat) (base vb : Nat) (OI : am_I) (U : State) (H : Heap) : Prop := vk_R "OneClock$Tape" 68 "board   worth   answer  draw    thinks  step    clock   flag    if      then    else    think   move    time    idle    left    sum     " (o 4) U ∧ vk_S 1 [136] [am_txt] (fun _ => o 4) (fun _ => vb) (am_A base) U H ∧ va_Z "java/lang/String" "COMPACT_STRINGS" "Z" (.int 1) (am_A base) U H ∧ va_Zq "jdk/internal/util/Preconditions" "SIOOBE_FORMATTER" "Ljava/util/function/BiFunction;" (am_A base) U H ∧ ∀ j, j < 136 → OI 4 j = am_txt.getD j 0
def am_old (o : Nat → Nat) (base vb : Nat) (OI : am_I) (U : State) (H : Heap) : Prop :=
  (∃ L, L < 2 ^ 31 ∧ OI 0 4096 = Int32.ofNat L ∧ va_X (o 0) L (OI 0) U H) ∧ (∀ c, 1 ≤ c → c ≤ 3 → va_T .int (o c) 3 (fun j => .int (OI c j)) (am_A base) U H ∧ va_Z "OneClock$Plan" (am_stn c) "[I" (.ref (o c)) (am_A base) U H) ∧ (∀ c, c < 5 → o c < base) ∧ am_str o base vb OI U H ∧ ∀ q ∈ am_CTN, va_Nw (.methodLinkNest (am_own q.1) q.2.1 (am_yn q.2.2.1) q.2.2.2) U
theorem am_old.blind {o : Nat → Nat} {base vb : Nat} {OI : am_I} {U : State} {H : Heap} (h : am_old o base vb OI U H) (g : JFrame) (mk : MethodId) (a : Array Value) : am_old o base vb OI (U.calling g mk a) H := by
  obtain ⟨⟨L, h1, h2, h3⟩, h4, h5, ⟨s1, s2, s3, s4, s5⟩, h6⟩ := h
  have al : U.vm.Alike (U.calling g mk a).vm := Vm.Alike.refl U.vm
  exact ⟨⟨L, h1, h2, h3.moved al⟩, fun c c1 c3 => ⟨va_T.moved al (h4 c c1 c3).1, va_Z.moved al (h4 c c1 c3).2⟩, h5, ⟨vk_R.same rfl s1, vk_S.moved al s2, va_Z.moved al s3, va_Zq.moved al s4, s5⟩, fun q hq => va_Nw.same rfl rfl (h6 q hq)⟩
theorem am_old.next {o : Nat → Nat} {base vb : Nat} {OI : am_I} {s U : State} {H : Heap} {locs : List Loc} (h : am_old o base vb OI s s.heap) (hW : s.WarmedH U.vm) (hS : va_S (am_A base) s.heap H locs) (hb : base ≤ s.heap.size) : am_old o base vb OI U H := by
  obtain ⟨⟨L, h1, h2, h3⟩, h4, h5, ⟨s1, s2, s3, s4, s5⟩, h6⟩ := h
  have al := hW.alike
  have kp : ∀ c, c < 5 → H[o c]? = s.heap[o c]? := fun c hc => hS.2.1 _ (Nat.lt_of_lt_of_le (h5 c hc) hb) (fun q => absurd (h5 c hc) (Nat.not_lt.mpr q))
  refine ⟨⟨L, h1, h2, (h3.kept (kp 0 (by omega))).moved al⟩, fun c c1 c3 => ⟨va_T.moved al ((h4 c c1 c3).1.kept hS.2.1), va_Z.moved al ((h4 c c1 c3).2.kept hS.2.1)⟩, h5, ⟨vk_R.warm hW s1, vk_S.moved al (s2.kept hS.2.1), va_Z.moved al (s3.kept hS.2.1), va_Zq.moved al (s4.kept hS.2.1), s5⟩, fun q hq => va_Nw.warmM hW (h6 q hq)⟩
def am_rel (D : va_G) (cid : Nat → ClassId) (o : Nat → Nat) (base : Nat) (OI : am_I) (μ : am_Mem) (H : Heap) : Prop := am_wf μ.1 ∧ va_P D vwCl (am_ws (am_ad o base) cid μ) H ∧ ∀ c k, c < 5 → μ.2.1 c k = OI c k
theorem am_low {D : va_G} {cid : Nat → ClassId} {o : Nat → Nat} {base : Nat} {OI : am_I} {μ : am_Mem} {H : Heap} (h : am_rel D cid o base OI μ H) (hb : base ≤ H.size) : base + (μ.1.length - 5) ≤ H.size := by
  have h5 := h.1.len
  by_cases hz : μ.1.length = 5
  · rw [hz]
    exact hb
  · have h1 := am_ws_at (am_ad o base) cid μ (μ.1.length - 6)
    rw [if_pos (by omega)] at h1
    have h2 := (h.2.1 _ _ h1).lt
    simp only [am_ad_new (show 5 ≤ μ.1.length - 6 + 5 by omega)] at h2
    omega
theorem am_cl_at {c : Nat} (h : c < 11) : vwCl[c]? = some ((am_cls c).1, (am_cls c).2.1, (am_cls c).2.2) := by
  have h2 : ∃ q, vwCl[c]? = some q := ⟨vwCl[c], List.getElem?_eq_getElem h⟩
  obtain ⟨q, hq⟩ := h2
  unfold am_cls
  rw [List.getD_eq_getElem?_getD, hq]
  rfl
theorem am_ty_at {cid : Nat → ClassId} {t : Nat} (h : t ≤ 3) : ∃ ty, (am_tys cid)[t]? = some (cid t, ty) ∧ (t = 0 → ty = .int) ∧ (t = 1 → ty = .byte) ∧ (t = 2 → ty = .boolean) ∧ (t = 3 → ty = .long) := by
  rcases (show t = 0 ∨ t = 1 ∨ t = 2 ∨ t = 3 by omega) with rfl | rfl | rfl | rfl
  · exact ⟨.int, rfl, fun _ => rfl, fun h => by omega, fun h => by omega, fun h => by omega⟩
  · exact ⟨.byte, rfl, fun h => by omega, fun _ => rfl, fun h => by omega, fun h => by omega⟩
  · exact ⟨.boolean, rfl, fun h => by omega, fun h => by omega, fun _ => rfl, fun h => by omega⟩
  · exact ⟨.long, rfl, fun h => by omega, fun h => by omega, fun h => by omega, fun _ => rfl⟩
theorem am_find_mem {code : List am_Ent} {pc : Nat} {e : am_Ent} (h : am_find code pc = some e) : e ∈ code ∧ e.1 = pc := by
  induction code with
  | nil => cases h
  | cons x t ih =>
    unfold am_find at h
    split at h
    · rename_i hb
      cases h
      exact ⟨List.mem_cons_self, Nat.eq_of_beq_eq_true hb⟩
    · exact ⟨List.mem_cons_of_mem _ (ih h).1, (ih h).2⟩
/-! what a step that goes on has found -/
section SOME
variable {β : Type} {r : β}
theorem am_popi_some {S : List Value} {k : Int32 → List Value → Option β} (h : am_popi S k none = some r) : ∃ x t, S = .int x :: t ∧ k x t = some r := by
  unfold am_popi at h
  split at h
  · exact ⟨_, _, rfl, h⟩
  · cases h
theorem am_popii_some {S : List Value} {k : Int32 → Int32 → List Value → Option β} (h : am_popii S k none = some r) : ∃ x y t, S = .int y :: .int x :: t ∧ k x y t = some r := by
  unfold am_popii at h
  split at h
  · exact ⟨_, _, _, rfl, h⟩
  · cases h
theorem am_popll_some {S : List Value} {k : Int64 → Int64 → List Value → Option β} (h : am_popll S k none = some r) : ∃ x y t, S = .long y :: .long x :: t ∧ k x y t = some r := by
  unfold am_popll at h
  split at h
  · exact ⟨_, _, _, rfl, h⟩
  · cases h
theorem am_ld_some {L : am_Loc} {i : Nat} {k : Value → Option β} (h : am_ld L i k none = some r) : ∃ v, L[i]? = some (some v) ∧ k v = some r := by
  unfold am_ld at h
  split at h
  · rename_i v hv
    exact ⟨v, hv, h⟩
  · cases h
theorem am_arr_some {Sh : List am_Shp} {a : Nat} {k : Nat → Nat → Option β} (h : am_arr Sh a k none = some r) : ∃ t n, Sh[a]? = some (.inl (t, n)) ∧ k t n = some r := by
  unfold am_arr at h
  split at h
  · rename_i t n hv
    exact ⟨t, n, hv, h⟩
  · cases h
theorem am_obj_some {Sh : List am_Shp} {a ci : Nat} {k : List (Option Value) → Option β} (h : am_obj Sh a ci k none = some r) : ∃ fl, Sh[a]? = some (.inr (ci, fl)) ∧ k fl = some r := by
  unfold am_obj at h
  split at h
  · rename_i c fl hv
    split at h
    · rename_i e
      subst e
      exact ⟨fl, hv, h⟩
    · cases h
  · cases h
theorem am_at_some {i : Int32} {n : Nat} {k : Nat → Option β} (h : am_atC i n k none = some r) : vp_in i n ∧ k i.toNatClampNeg = some r := by
  unfold am_atC at h
  split at h
  · cases h
  · rename_i hv
    exact ⟨hv, h⟩
theorem am_ald_some {Sh : List am_Shp} {I : am_I} {ty : Nat → Bool} {S : List Value} {k : Nat → Nat → List Value → Option β} (h : am_ald am_atC Sh I ty S k none = some r) : ∃ i a t ty' n, S = .int i :: .ref a :: t ∧ Sh[a]? = some (.inl (ty', n)) ∧ ty ty' = true ∧ k a i.toNatClampNeg t = some r ∧ ((ty' = 12 ∧ vp_in i (I a 4096).toNatClampNeg) ∨ (ty' ≠ 12 ∧ vp_in i n)) := by
  unfold am_ald at h
  split at h
  · obtain ⟨ty', n, h1, h⟩ := am_arr_some h
    split at h
    · rename_i ht
      split at h
      · rename_i hb
        obtain ⟨h2, h⟩ := am_at_some h
        exact ⟨_, _, _, ty', n, rfl, h1, ht, h, Or.inl ⟨Nat.eq_of_beq_eq_true hb, h2⟩⟩
      · rename_i hb
        obtain ⟨h2, h⟩ := am_at_some h
        exact ⟨_, _, _, ty', n, rfl, h1, ht, h, Or.inr ⟨Nat.ne_of_beq_eq_false hb, h2⟩⟩
    · cases h
  · cases h
theorem am_ast_some {Sh : List am_Shp} {S : List Value} {k : Nat → Nat → Nat → Int32 → List Value → Option β} (h : am_ast am_atC Sh S k none = some r) : ∃ x i a t ty n, S = .int x :: .int i :: .ref a :: t ∧ Sh[a]? = some (.inl (ty, n)) ∧ vp_in i n ∧ k ty a i.toNatClampNeg x t = some r := by
  unfold am_ast at h
  split at h
  · obtain ⟨ty', n, h1, h⟩ := am_arr_some h
    obtain ⟨h2, h⟩ := am_at_some h
    exact ⟨_, _, _, _, ty', n, rfl, h1, h2, h⟩
  · cases h
theorem am_astl_some {Sh : List am_Shp} {S : List Value} {k : Nat → Nat → Nat → Int64 → List Value → Option β} (h : am_astl am_atC Sh S k none = some r) : ∃ x i a t ty n, S = .long x :: .int i :: .ref a :: t ∧ Sh[a]? = some (.inl (ty, n)) ∧ vp_in i n ∧ k ty a i.toNatClampNeg x t = some r := by
  unfold am_astl at h
  split at h
  · obtain ⟨ty', n, h1, h⟩ := am_arr_some h
    obtain ⟨h2, h⟩ := am_at_some h
    exact ⟨_, _, _, _, ty', n, rfl, h1, h2, h⟩
  · cases h
theorem am_getf_some {μ : am_Mem} {ci j : Nat} {S : List Value} {k : Value → List Value → Option β} (h : am_getf μ ci j S k none = some r) : ∃ a t fl, S = .ref a :: t ∧ μ.1[a]? = some (.inr (ci, fl)) ∧ ((fl[j]? = some none ∧ k (.int (μ.2.1 a j)) t = some r) ∨ ∃ v, fl[j]? = some (some v) ∧ k v t = some r) := by
  unfold am_getf at h
  split at h
  · obtain ⟨fl, h1, h⟩ := am_obj_some h
    split at h
    · rename_i hf
      exact ⟨_, _, fl, rfl, h1, Or.inl ⟨hf, h⟩⟩
    · rename_i v hf
      exact ⟨_, _, fl, rfl, h1, Or.inr ⟨v, hf, h⟩⟩
    · cases h
  · cases h
theorem am_b01_some {x : Int32} {k : Option β} (h : am_b01C x k none = some r) : (x = 0 ∨ x = 1) ∧ k = some r := by
  unfold am_b01C at h
  split at h
  · rename_i hx
    exact ⟨Or.inl hx, h⟩
  · split at h
    · rename_i hx
      exact ⟨Or.inr hx, h⟩
    · cases h
theorem am_putf_some {μ : am_Mem} {ci j z : Nat} {S : List Value} {k : am_Mem → List Value → Option β} (h : am_putf am_b01C μ ci j z S k none = some r) : ∃ w a t fl, S = w :: .ref a :: t ∧ 5 ≤ a ∧ μ.1[a]? = some (.inr (ci, fl)) ∧
    ((∃ x, w = .int x ∧ fl[j]? = some none ∧ k (μ.1, am_upd μ.2.1 a j x, μ.2.2) t = some r ∧ (z = 0 ∨ (z = 1 ∧ (x = 0 ∨ x = 1)))) ∨ (∃ q v, w = .ref q ∧ fl[j]? = some (some v) ∧ z = 2 ∧ k (μ.1.set a (.inr (ci, fl.set j (some (.ref q)))), μ.2) t = some r)) := by
  unfold am_putf at h
  split at h
  · split at h
    · rename_i h5
      obtain ⟨fl, h1, h⟩ := am_obj_some h
      split at h
      · rename_i hf
        split at h
        · exact ⟨_, _, _, fl, rfl, h5, h1, Or.inl ⟨_, rfl, hf, h, Or.inl rfl⟩⟩
        · obtain ⟨hx, h⟩ := am_b01_some h
          exact ⟨_, _, _, fl, rfl, h5, h1, Or.inl ⟨_, rfl, hf, h, Or.inr ⟨rfl, hx⟩⟩⟩
        · cases h
      · cases h
    · cases h
  · split at h
    · rename_i h5
      obtain ⟨fl, h1, h⟩ := am_obj_some h
      split at h
      · rename_i v hf
        split at h
        · exact ⟨_, _, _, fl, rfl, h5, h1, Or.inr ⟨_, v, rfl, hf, rfl, h⟩⟩
        · cases h
      · cases h
    · cases h
  · cases h
theorem am_copy_some {μ : am_Mem} {S : List Value} {k : am_Mem → List Value → Option β} (h : am_copy am_cpcC μ S k none = some r) : ∃ n d b s a t n0 n1, S = .int n :: .int d :: .ref b :: .int s :: .ref a :: t ∧ μ.1[a]? = some (.inl (0, n0)) ∧ μ.1[b]? = some (.inl (0, n1)) ∧ 5 ≤ a ∧ 5 ≤ b ∧ am_cat t ≤ 8 ∧
    (¬ s < 0 ∧ ¬ d < 0 ∧ ¬ n < 0 ∧ s.toNatClampNeg + n.toNatClampNeg ≤ n0 ∧ d.toNatClampNeg + n.toNatClampNeg ≤ n1) ∧ k (μ.1, am_cpy μ.2.1 a s.toNatClampNeg b d.toNatClampNeg n.toNatClampNeg, μ.2.2) t = some r := by
  unfold am_copy at h
  split at h
  · obtain ⟨t0, n0, h1, h'⟩ := am_arr_some h
    obtain ⟨t1, n1, h2, h''⟩ := am_arr_some h'
    clear h h'
    split at h''
    · rename_i hc
      obtain ⟨e0, e1, ha, hb, hcat⟩ := hc
      subst e0
      subst e1
      unfold am_cpcC at h''
      split at h''
      · cases h''
      · rename_i hn
        simp only [not_or, Nat.not_lt] at hn
        exact ⟨_, _, _, _, _, _, n0, n1, rfl, h1, h2, ha, hb, hcat, hn, h''⟩
    · cases h''
  · cases h
theorem am_sw_some {x : Int32} {k : Nat → Option β} {d : Option β} : ∀ {ts : List Nat} {lo : Int}, am_sw x lo ts k d = some r → (∃ (i : Nat) (t : Nat), ts[i]? = some t ∧ x = am_lit (lo + i) ∧ k t = some r) ∨ ((∀ i : Nat, i < ts.length → x ≠ am_lit (lo + i)) ∧ d = some r) := by
  intro ts
  induction ts with
  | nil => intro lo h; exact Or.inr ⟨fun i hi => absurd hi (Nat.not_lt_zero _), h⟩
  | cons t ts ih =>
    intro lo h
    unfold am_sw at h
    split at h
    · rename_i hx
      exact Or.inl ⟨0, t, rfl, by simpa using hx, h⟩
    · rename_i hx
      rcases ih h with ⟨i, t', h1, h2, h3⟩ | ⟨h1, h2⟩
      · refine Or.inl ⟨i + 1, t', h1, ?_, h3⟩
        rw [h2]
        congr 1
        push_cast
        omega
      · refine Or.inr ⟨fun i hi => ?_, h2⟩
        cases i with
        | zero => simpa using hx
        | succ i =>
          have h3 := h1 i (by simpa using hi)
          have e : lo + ((i + 1 : Nat) : Int) = lo + 1 + (i : Int) := by push_cast; omega
          rw [e]
          exact h3
end SOME
/-- a step makes the memory no smaller -/
theorem am_rei_grow {ret : Option FieldType} {pc : Nat} {ins : Instr} {aux : List Nat} {L : am_Loc} {S : List Value} {μ : am_Mem} {pc' : Nat} {L' : am_Loc} {S' : List Value} {μ' : am_Mem} (h : am_rei ret pc ins aux L S μ = .inl (pc', L', S', μ')) : μ.1.length ≤ μ'.1.length ∧ am_sz μ.1 ≤ am_sz μ'.1 := by
  by_cases hno : am_noal ins aux = true
  · have key := am_step_rel (α := am_Rei) (β := am_Rei) (stuck := (.inr (.inr (.inr ())) : am_Rei)) (stuck' := (.inr (.inr (.inr ())) : am_Rei)) (fun (ρ : am_Rei) (_ : am_Rei) => ∀ pc' L' S' μ', ρ = .inl (pc', L', S', μ') → μ'.1 = μ.1) (ret := ret) (pc := pc) (ins := ins) (aux := aux) (am_leL.rf L) (S := S) (μ := μ) (next := fun pc L S μ => .inl (pc, L, S, μ)) (call := fun y a r => .inr (.inl (y, a, r))) (fin := fun v => .inr (.inr (.inl v))) (next' := fun pc L S μ => .inl (pc, L, S, μ)) (call' := fun y a r => .inr (.inl (y, a, r))) (fin' := fun v => .inr (.inr (.inl v)))
      (fun b pc' L' S' μ' q => by cases q) (fun pc1 L1 L1' S1 μ1 hl hs pc' L' S' μ' q => by cases q; exact hs hno) (fun y a t pc' L' S' μ' q => by cases q) (fun v pc' L' S' μ' q => by cases q)
    rw [key _ _ _ _ h]
    exact ⟨Nat.le_refl _, Nat.le_refl _⟩
  · unfold am_rei at h
    cases ins <;> first | exact absurd rfl hno | skip
    case new ix =>
      simp only [am_step, am_stepG] at h
      split at h
      · cases h
        exact ⟨by simp, by rw [am_sz_push]; omega⟩
      · cases h
    case newarray t =>
      simp only [am_step, am_stepG] at h
      split at h
      · unfold am_popi at h
        split at h
        · dsimp only at h
          split at h
          · cases h
          · cases h
            exact ⟨by simp, by rw [am_sz_push]; omega⟩
        · cases h
      · cases h
    case putfield ix =>
      simp only [am_step, am_stepG] at h
      split at h
      · rename_i ci j z
        rcases z with _ | _ | _ | z
        · exact absurd rfl hno
        · exact absurd rfl hno
        · unfold am_putf at h
          split at h
          · split at h
            · unfold am_obj at h
              split at h
              · split at h
                · dsimp only at h
                  split at h <;> cases h
                · cases h
              · cases h
            · cases h
          · split at h
            · unfold am_obj at h
              split at h
              · rename_i c fl hs
                split at h
                · dsimp only at h
                  split at h
                  · cases h
                    refine ⟨by simp, ?_⟩
                    rw [am_sz_set hs (by simp [am_ssz])]
                    exact Nat.le_refl _
                  · cases h
                · cases h
              · cases h
            · cases h
          · cases h
        · exact absurd rfl hno
      · cases h
/-- a run makes the memory no smaller -/
theorem am_run_grow : ∀ (n d : Nat) (mi : am_Info) (pc : Nat) (L : am_Loc) (S : List Value) (μ : am_Mem) (v : Option Value) (μf : am_Mem), am_run am_MT n d mi pc L S μ = some (v, μf) → μ.1.length ≤ μf.1.length ∧ am_sz μ.1 ≤ am_sz μf.1 := by
  intro n
  induction n with
  | zero => intro d mi pc L S μ v μf h; cases h
  | succ n ih =>
    intro d mi pc L S μ v μf h
    unfold am_run at h
    split at h
    · cases h
    · rename_i ins aux hf
      have h1 := am_ev_of h
      cases hρ : am_rei mi.2.2.2.1 pc ins aux L S μ with
      | inl q =>
        obtain ⟨pc', L', S', μ'⟩ := q
        rw [hρ] at h1
        have h2 := am_rei_grow hρ
        have h3 := ih _ _ _ _ _ _ _ _ h1
        omega
      | inr q =>
        rw [hρ] at h1
        cases q with
        | inl q =>
          obtain ⟨y, a, t⟩ := q
          simp only [am_ev] at h1
          split at h1
          · cases h1
          · split at h1
            · cases h1
            · split at h1
              · cases h1
              · rename_i v1 μ1 hv
                have h2 := ih _ _ _ _ _ _ _ _ hv
                have h3 := ih _ _ _ _ _ _ _ _ h1
                omega
        | inr q =>
          cases q with
          | inl v => cases h1; exact ⟨Nat.le_refl _, Nat.le_refl _⟩
          | inr u => cases h1
end
section
/-! every run of the abstract machine is a run of the machine -/
def am_fr (r d : Nat) : Nat := 10 + r + 42 * d
def am_lo (r d : Nat) : Nat := 300 + 60 * (r + 42 * d)
def am_rk (k : Nat) : Nat := (am_mi k).2.2.2.2
def am_nl (k : Nat) : Nat := (am_mi k).2.2.1
def am_rt (k : Nat) : Option FieldType := (am_mi k).2.2.2.1
def am_ws1 (k : Nat) : List Cond := Cond.code (am_yn k) (am_by k) (am_nl k) (am_rt k) :: am_W
def am_ctx (p : Program) (R : Room) (s : State) (m : MethodId) (args : Array Value) (meth : Method) (c : Code) (D : va_G) (cid : Nat → ClassId) (o : Nat → Nat) (base vb : Nat) (OI : am_I) (k d tc ts : Nat) : Prop :=
  (p.tables.exec = Jvm.exec ∧ c.code = am_by k ∧ c.maxLocals = am_nl k ∧ s.vm.findClass (am_own (am_mi k).1) = some m.cls ∧ ∀ w ∈ am_W, w.before args s = true) ∧ va_K D vwCl (am_tys cid) s ∧ am_old o base vb OI s s.heap ∧ base ≤ s.heap.size ∧ (am_fr (am_rk k) d ≤ R.frames ∧ am_lo (am_rk k) d ≤ R.locals ∧ tc ≤ R.cells ∧ ts ≤ R.slots) ∧ ((am_yn k).name = "<init>" → meth.name = "<init>")
def am_retw (k : Nat) (v : Option Value) (pc : Nat) : Prop :=
  (∃ x, v = some (.int x) ∧ decode (am_by k) pc = .ok (.ireturn, 1) ∧ (am_rt k = some .int ∨ (am_rt k = some .boolean ∧ (x = 0 ∨ x = 1)))) ∨ (∃ x, v = some (.long x) ∧ decode (am_by k) pc = .ok (.lreturn, 1) ∧ am_rt k = some .long) ∨ (v = none ∧ decode (am_by k) pc = .ok (.return_, 1) ∧ am_rt k = none)
def am_SimW (l : Launch) (D : va_G) (cid : Nat → ClassId) (o : Nat → Nat) (base vb : Nat) (OI : am_I) (n : Nat) : Prop :=
  ∀ (p : Program) (e : Env) (R : Room) (s : State) (m : MethodId) (args : Array Value) (below : List Frame) (meth : Method) (c : Code) (k d pc : Nat) (L : am_Loc) (S : List Value) (μ : am_Mem) (v : Option Value) (μf : am_Mem) (H : Heap) (locs : List Loc) (cells slots : Nat) (Q : State → Prop) (ls : Array Slot) (tc ts : Nat),
    k < 228 → am_ctx p R s m args meth c D cid o base vb OI k d tc ts → am_run am_MT n d (am_mi k) pc L S μ = some (v, μf) → am_rel D cid o base OI μ H → va_S (am_A base) s.heap H locs → am_LR (am_ad o base) (am_nl k) ls L →
    cells + (μf.1.length - μ.1.length) = tc → slots + (am_sz μf.1 - am_sz μ.1) = ts → s.heap.size + cells = base + (μ.1.length - 5) →
    (∀ (pc : Nat) (H1 : Heap) (locs1 : List Loc) (ls1 : Array Slot), am_retw k v pc → am_rel D cid o base OI μf H1 → va_S (am_A base) s.heap H1 locs1 → W p l e R s m args below meth c H1 locs1 tc ts Q (F0 m pc ls1 (v.toList.map (am_val (am_ad o base))))) →
    W p l e R s m args below meth c H locs cells slots Q (F0 m pc ls (S.map (am_val (am_ad o base))))
theorem am_sizeW {p : Program} {l : Launch} {e : Env} {R : Room} {s : State} {m : MethodId} {args : Array Value} {below : List Frame} {meth : Method} {c : Code} {H : Heap} {locs : List Loc} {cells slots : Nat} {Q : State → Prop} {g : JFrame}
    (k : H.size ≤ s.heap.size + cells → W p l e R s m args below meth c H locs cells slots Q g) : W p l e R s m args below meth c H locs cells slots Q g := fun T hT X => k (by rw [← hT]; exact X.heapSize) T hT X
def am_Pc (D : va_G) (cid : Nat → ClassId) (o : Nat → Nat) (base vb : Nat) (OI : am_I) (av : List Value) (μ : am_Mem) : Array Value → State → Prop := fun a U => a = (av.map (am_val (am_ad o base))).toArray ∧ base ≤ U.heap.size ∧ U.heap.size = base + (μ.1.length - 5) ∧ am_rel D cid o base OI μ U.heap ∧ va_K D vwCl (am_tys cid) U ∧ am_old o base vb OI U U.heap
def am_Qc (D : va_G) (cid : Nat → ClassId) (o : Nat → Nat) (base : Nat) (OI : am_I) (v : Option Value) (μf : am_Mem) : Array Value → State → Outcome → State → Prop := fun _ st oc t => oc = .returned (v.map (am_val (am_ad o base))) ∧ am_rel D cid o base OI μf t.heap ∧ st.heap.size ≤ t.heap.size ∧ ∀ q, q < st.heap.size → ¬ am_A base q → t.heap[q]? = st.heap[q]?
def am_rm (k d mc ms : Nat) : Room := { frames := am_fr (am_rk k) d, cells := mc, slots := ms, locals := am_lo (am_rk k) d }
set_option maxHeartbeats 4000000 in
theorem am_met {l : Launch} {D : va_G} {cid : Nat → ClassId} {o : Nat → Nat} {base vb : Nat} {OI : am_I} {n : Nat} (ih : am_SimW l D cid o base vb OI n) {k d : Nat} {av : List Value} {μ μf : am_Mem} {v : Option Value} (hk : k < 228) (hl : k ≠ 227)
    (hr : am_run am_MT n d (am_mi k) 0 (am_entry (am_nl k) av) [] μ = some (v, μf)) (ha : (am_args av).length ≤ am_nl k) :
    Met l (am_yn k) (am_ws1 k) (am_rm k d (μf.1.length - μ.1.length) (am_sz μf.1 - am_sz μ.1)) (am_Pc D cid o base vb OI av μ) (am_Qc D cid o base OI v μf) (μf.1.length - μ.1.length) (am_sz μf.1 - am_sz μ.1) (am_A base) := by
  obtain ⟨y1, y2, y3, y4, y5, y6, y7⟩ := am_yok_ok hk hl
  refine Met.ofW (cc := am_by k) (maxL := am_nl k) (ret := am_rt k) y5 rfl ?_
  intro p e s m args below meth c s₁ B hml hv
  obtain ⟨rfl, hb0, hsz, hrel, hK, hO⟩ := hv
  have hx := B.exec
  have hb := B.bytes
  have hr0 := B.returns
  have hts := atoms_spec (ws := am_ws1 k) B.pre
  have hown : s.vm.findClass (am_yn k).cls = some m.cls := findClass_of_methodNamed B.named
  have hlocks := B.notSynchronized
  have hnm : meth.name = (am_yn k).name := (name_of_methodNamed B.named B.method).1
  rw [lg_entry_eq]
  have hLR := am_LR.entry (am_ad o base) (nL := am_nl k) av ha
  refine ih p e _ s m _ below meth c k d 0 (am_entry (am_nl k) av) [] μ v μf s.heap [] 0 0 _ _ (μf.1.length - μ.1.length) (am_sz μf.1 - am_sz μ.1) hk ⟨⟨hx, hb, hml, by rw [← y7]; exact hown, fun w hw => hts w (List.mem_cons_of_mem _ hw)⟩, hK, hO, hb0, ⟨Nat.le_refl _, Nat.le_refl _, Nat.le_refl _, Nat.le_refl _⟩, fun h => hnm.trans h⟩ hr hrel va_S.rf hLR (Nat.zero_add _) (Nat.zero_add _) (by rw [hsz]; omega) ?_
  intro pc H1 locs1 ls1 hret hrel1 hS1
  have hfree : ∀ q ∈ locs1, am_A base q.base := hS1.2.2
  have hpost : ∀ t : State, t.heap = H1 → s.WarmedH t.vm → am_Qc D cid o base OI v μf (av.map (am_val (am_ad o base))).toArray s (.returned (v.map (am_val (am_ad o base)))) t := fun t ht _ => ⟨rfl, by rw [ht]; exact hrel1, by rw [ht]; exact hS1.1, fun q h1 h2 => by rw [ht]; exact hS1.2.1 q h1 h2⟩
  rcases hret with ⟨x, rfl, hdg, hrt | ⟨hrt, hx01⟩⟩ | ⟨x, rfl, hdg, hrt⟩ | ⟨rfl, hdg, hrt⟩
  · exact W.iret hx hb (hr0.trans hrt) hpost hfree hdg hlocks
  · refine W.zret hx hb (hr0.trans hrt) ?_ hpost hfree hdg hlocks
    rcases hx01 with rfl | rfl <;> rfl
  · exact W.lret hx hb (hr0.trans hrt) hpost hfree hdg hlocks
  · exact W.vret hx hb (hr0.trans hrt) hpost hfree hdg hlocks
end
section
/-! the text constant: what String.charAt answers of it -/
theorem am_j_c_ca : Cond.code yJ0_charAt_5068e cJ0_charAt_5068e 2 (some .char) ∈ am_W := am_w2 (i := 237) rfl rfl
theorem am_j_i_ca : Cond.instanceMethod yJ0_charAt_5068e ∈ am_W := am_w2 (i := 235) rfl rfl
theorem am_j_s_ca : Cond.selects "java/lang/String" yJ0_charAt_5068e yJ0_charAt_5068e ∈ am_W := am_w2 (i := 236) rfl rfl
theorem am_j_c_il : Cond.code yJ0_isLatin1_aae02 cJ0_isLatin1_aae02 1 (some .boolean) ∈ am_W := am_w3 (i := 1) rfl rfl
theorem am_j_i_il : Cond.instanceMethod yJ0_isLatin1_aae02 ∈ am_W := am_w2 (i := 239) rfl rfl
theorem am_j_s_il : Cond.selects "java/lang/String" yJ0_isLatin1_aae02 yJ0_isLatin1_aae02 ∈ am_W := am_w3 (i := 0) rfl rfl
theorem am_j_c_ci : Cond.code yJ0_checkIndex_df160 cJ0_checkIndex_df160 2 (none) ∈ am_W := am_w3 (i := 9) rfl rfl
theorem am_j_i_ci : Cond.static yJ0_checkIndex_df160 ∈ am_W := am_w3 (i := 8) rfl rfl
theorem am_j_c_lc : Cond.code yJ1_charAt_3b067 cJ1_charAt_3b067 2 (some .char) ∈ am_W := am_w3 (i := 6) rfl rfl
theorem am_j_i_lc : Cond.static yJ1_charAt_3b067 ∈ am_W := am_w3 (i := 5) rfl rfl
theorem am_j_c_pc : Cond.code yJ3_checkIndex_8e157 cJ3_checkIndex_8e157 3 (some .int) ∈ am_W := am_w3 (i := 14) rfl rfl
theorem am_j_i_pc : Cond.static yJ3_checkIndex_8e157 ∈ am_W := am_w3 (i := 13) rfl rfl
theorem am_j_n_S : Cond.initialized "java/lang/String" ∈ am_W := am_w1 (i := 13) rfl rfl
theorem am_j_n_L : Cond.initialized "java/lang/StringLatin1" ∈ am_W := am_w1 (i := 14) rfl rfl
theorem am_j_n_P : Cond.initialized "jdk/internal/util/Preconditions" ∈ am_W := am_w1 (i := 15) rfl rfl
theorem am_j_l_il : Cond.methodLink "java/lang/String" 492 yJ0_isLatin1_aae02 ∈ am_W := am_w2 (i := 238) rfl rfl
theorem am_j_l_lc : Cond.methodLink "java/lang/String" 495 yJ1_charAt_3b067 ∈ am_W := am_w3 (i := 4) rfl rfl
theorem am_j_l_ci : Cond.methodLink "java/lang/StringLatin1" 9 yJ0_checkIndex_df160 ∈ am_W := am_w3 (i := 7) rfl rfl
theorem am_j_l_pc : Cond.methodLink "java/lang/String" 1059 yJ3_checkIndex_8e157 ∈ am_W := am_w3 (i := 12) rfl rfl
theorem am_j_f_val : Cond.fieldLink "java/lang/String" 9 "java/lang/String" "value" "[B" ∈ am_W := am_w7 (i := 125) rfl rfl
theorem am_j_f_cs : Cond.fieldLink "java/lang/String" 38 "java/lang/String" "COMPACT_STRINGS" "Z" ∈ am_W := am_w3 (i := 2) rfl rfl
theorem am_j_f_cod : Cond.fieldLink "java/lang/String" 15 "java/lang/String" "coder" "B" ∈ am_W := am_w7 (i := 124) rfl rfl
theorem am_j_f_sf : Cond.fieldLink "java/lang/String" 1053 "jdk/internal/util/Preconditions" "SIOOBE_FORMATTER" "Ljava/util/function/BiFunction;" ∈ am_W := am_w3 (i := 10) rfl rfl
theorem dJ0_charAt_5068e_0 : decode cJ0_charAt_5068e 0 = .ok (.aload_n 0, 1) := by decide +kernel
theorem dJ0_charAt_5068e_1 : decode cJ0_charAt_5068e 1 = .ok (.invokevirtual 492, 3) := by decide +kernel
theorem dJ0_charAt_5068e_4 : decode cJ0_charAt_5068e 4 = .ok (.ifCond .eq 12, 3) := by decide +kernel
theorem dJ0_charAt_5068e_7 : decode cJ0_charAt_5068e 7 = .ok (.aload_n 0, 1) := by decide +kernel
theorem dJ0_charAt_5068e_8 : decode cJ0_charAt_5068e 8 = .ok (.getfield 9, 3) := by decide +kernel
theorem dJ0_charAt_5068e_11 : decode cJ0_charAt_5068e 11 = .ok (.iload_n 1, 1) := by decide +kernel
theorem dJ0_charAt_5068e_12 : decode cJ0_charAt_5068e 12 = .ok (.invokestatic 495, 3) := by decide +kernel
theorem dJ0_charAt_5068e_15 : decode cJ0_charAt_5068e 15 = .ok (.ireturn, 1) := by decide +kernel
theorem dJ0_charAt_5068e_16 : decode cJ0_charAt_5068e 16 = .ok (.aload_n 0, 1) := by decide +kernel
theorem dJ0_charAt_5068e_17 : decode cJ0_charAt_5068e 17 = .ok (.getfield 9, 3) := by decide +kernel
theorem dJ0_charAt_5068e_20 : decode cJ0_charAt_5068e 20 = .ok (.iload_n 1, 1) := by decide +kernel
theorem dJ0_charAt_5068e_21 : decode cJ0_charAt_5068e 21 = .ok (.invokestatic 498, 3) := by decide +kernel
theorem dJ0_charAt_5068e_24 : decode cJ0_charAt_5068e 24 = .ok (.ireturn, 1) := by decide +kernel
theorem dJ0_isLatin1_aae02_0 : decode cJ0_isLatin1_aae02 0 = .ok (.getstatic 38, 3) := by decide +kernel
theorem dJ0_isLatin1_aae02_3 : decode cJ0_isLatin1_aae02 3 = .ok (.ifCond .eq 14, 3) := by decide +kernel
theorem dJ0_isLatin1_aae02_6 : decode cJ0_isLatin1_aae02 6 = .ok (.aload_n 0, 1) := by decide +kernel
theorem dJ0_isLatin1_aae02_7 : decode cJ0_isLatin1_aae02 7 = .ok (.getfield 15, 3) := by decide +kernel
theorem dJ0_isLatin1_aae02_10 : decode cJ0_isLatin1_aae02 10 = .ok (.ifCond .ne 7, 3) := by decide +kernel
theorem dJ0_isLatin1_aae02_13 : decode cJ0_isLatin1_aae02 13 = .ok (.iconst 1, 1) := by decide +kernel
theorem dJ0_isLatin1_aae02_14 : decode cJ0_isLatin1_aae02 14 = .ok (.goto 4, 3) := by decide +kernel
theorem dJ0_isLatin1_aae02_17 : decode cJ0_isLatin1_aae02 17 = .ok (.iconst 0, 1) := by decide +kernel
theorem dJ0_isLatin1_aae02_18 : decode cJ0_isLatin1_aae02 18 = .ok (.ireturn, 1) := by decide +kernel
theorem dJ0_checkIndex_df160_0 : decode cJ0_checkIndex_df160 0 = .ok (.iload_n 0, 1) := by decide +kernel
theorem dJ0_checkIndex_df160_1 : decode cJ0_checkIndex_df160 1 = .ok (.iload_n 1, 1) := by decide +kernel
theorem dJ0_checkIndex_df160_2 : decode cJ0_checkIndex_df160 2 = .ok (.getstatic 1053, 3) := by decide +kernel
theorem dJ0_checkIndex_df160_5 : decode cJ0_checkIndex_df160 5 = .ok (.invokestatic 1059, 3) := by decide +kernel
theorem dJ0_checkIndex_df160_8 : decode cJ0_checkIndex_df160 8 = .ok (.pop, 1) := by decide +kernel
theorem dJ0_checkIndex_df160_9 : decode cJ0_checkIndex_df160 9 = .ok (.return_, 1) := by decide +kernel
theorem dJ1_charAt_3b067_0 : decode cJ1_charAt_3b067 0 = .ok (.iload_n 1, 1) := by decide +kernel
theorem dJ1_charAt_3b067_1 : decode cJ1_charAt_3b067 1 = .ok (.aload_n 0, 1) := by decide +kernel
theorem dJ1_charAt_3b067_2 : decode cJ1_charAt_3b067 2 = .ok (.arraylength, 1) := by decide +kernel
theorem dJ1_charAt_3b067_3 : decode cJ1_charAt_3b067 3 = .ok (.invokestatic 9, 3) := by decide +kernel
theorem dJ1_charAt_3b067_6 : decode cJ1_charAt_3b067 6 = .ok (.aload_n 0, 1) := by decide +kernel
theorem dJ1_charAt_3b067_7 : decode cJ1_charAt_3b067 7 = .ok (.iload_n 1, 1) := by decide +kernel
theorem dJ1_charAt_3b067_8 : decode cJ1_charAt_3b067 8 = .ok (.baload, 1) := by decide +kernel
theorem dJ1_charAt_3b067_9 : decode cJ1_charAt_3b067 9 = .ok (.sipush 255, 3) := by decide +kernel
theorem dJ1_charAt_3b067_12 : decode cJ1_charAt_3b067 12 = .ok (.iand, 1) := by decide +kernel
theorem dJ1_charAt_3b067_13 : decode cJ1_charAt_3b067 13 = .ok (.i2c, 1) := by decide +kernel
theorem dJ1_charAt_3b067_14 : decode cJ1_charAt_3b067 14 = .ok (.ireturn, 1) := by decide +kernel
theorem dJ3_checkIndex_8e157_0 : decode cJ3_checkIndex_8e157 0 = .ok (.iload_n 0, 1) := by decide +kernel
theorem dJ3_checkIndex_8e157_1 : decode cJ3_checkIndex_8e157 1 = .ok (.ifCond .lt 8, 3) := by decide +kernel
theorem dJ3_checkIndex_8e157_4 : decode cJ3_checkIndex_8e157 4 = .ok (.iload_n 0, 1) := by decide +kernel
theorem dJ3_checkIndex_8e157_5 : decode cJ3_checkIndex_8e157 5 = .ok (.iload_n 1, 1) := by decide +kernel
theorem dJ3_checkIndex_8e157_6 : decode cJ3_checkIndex_8e157 6 = .ok (.if_icmp .lt 10, 3) := by decide +kernel
theorem dJ3_checkIndex_8e157_9 : decode cJ3_checkIndex_8e157 9 = .ok (.aload_n 2, 1) := by decide +kernel
theorem dJ3_checkIndex_8e157_10 : decode cJ3_checkIndex_8e157 10 = .ok (.iload_n 0, 1) := by decide +kernel
theorem dJ3_checkIndex_8e157_11 : decode cJ3_checkIndex_8e157 11 = .ok (.iload_n 1, 1) := by decide +kernel
theorem dJ3_checkIndex_8e157_12 : decode cJ3_checkIndex_8e157 12 = .ok (.invokestatic 95, 3) := by decide +kernel
theorem dJ3_checkIndex_8e157_15 : decode cJ3_checkIndex_8e157 15 = .ok (.athrow, 1) := by decide +kernel
theorem dJ3_checkIndex_8e157_16 : decode cJ3_checkIndex_8e157 16 = .ok (.iload_n 0, 1) := by decide +kernel
theorem dJ3_checkIndex_8e157_17 : decode cJ3_checkIndex_8e157 17 = .ok (.ireturn, 1) := by decide +kernel
def am_QJ (v : Option Value) : Array Value → State → Outcome → State → Prop := fun _ st oc t => oc = .returned v ∧ t.heap = st.heap
theorem am_afterJ {p : Program} {l : Launch} {e : Env} {R : Room} {s : State} {m : MethodId} {args : Array Value} {below : List Frame} {meth : Method} {c : Code} {H : Heap} {locs : List Loc} {cells slots pc : Nat} {Q : State → Prop} {ls : Array Slot} {st0 rest : List Value} {base : Nat} {v : Option Value} {arr : Array Value}
    (hr : va_Run p l e R s m args below meth c H locs cells slots 0 0 (F0 m pc ls st0) rest (am_QJ v arr) (am_A base)) (hS : va_S (am_A base) s.heap H locs)
    (kk : ∀ locs1 : List Loc, va_S (am_A base) s.heap H locs1 → W p l e R s m args below meth c H locs1 cells slots Q (F0 m (pc + 3) ls (v.toList ++ rest))) :
    W p l e R s m args below meth c H locs cells slots Q (F0 m pc ls st0) := by
  intro T hT X
  obtain ⟨v', st₀, t, T', L', h0, X', hL', e1, e2, ⟨hv, hh⟩, st⟩ := hr T hT X
  cases hv
  have hH : T'.heap = H := by rw [e1, hh, h0]
  obtain ⟨t2, a1, b1⟩ := kk (locs ++ L') ⟨hS.1, hS.2.1, fun q hq => by
    rcases List.mem_append.mp hq with h | h
    · exact hS.2.2 q h
    · exact hL' q h⟩ T' hH X'
  exact ⟨t2, st t2 a1, b1⟩
def am_PJ (o : Nat → Nat) (base vb : Nat) (OI : am_I) (av : List Value) : Array Value → State → Prop := fun a U => a = av.toArray ∧ base ≤ U.heap.size ∧ am_old o base vb OI U U.heap
theorem am_PJ_blind {o : Nat → Nat} {base vb : Nat} {OI : am_I} {av : List Value} : FrameBlind (am_PJ o base vb OI av) := fun a U g mk ⟨q1, q2, q6⟩ => ⟨q1, q2, q6.blind g mk a⟩
theorem am_gI {w : Cond} (h : w ∈ am_W) : GoodIn am_W (w :: am_W) := fun x hx => by
  rcases List.mem_cons.mp hx with e0 | hx
  · rw [e0]; exact am_Wg _ h
  · exact am_Wg _ hx
set_option maxHeartbeats 4000000 in
theorem am_j3 (l : Launch) (o : Nat → Nat) (base vb : Nat) (OI : am_I) (i n : Int32) (w : Value) (hw : w = .null ∨ ∃ t, w = .ref t) (h0 : ¬ i < 0) (h1 : i < n) : Met l yJ3_checkIndex_8e157 (Cond.code yJ3_checkIndex_8e157 cJ3_checkIndex_8e157 3 (some .int) :: am_W) ({ frames := 1, cells := 0, slots := 0, locals := 20 }) (am_PJ o base vb OI [.int i, .int n, w]) (am_QJ (some (.int i))) 0 0 (am_A base) := by
  refine Met.ofW (cc := cJ3_checkIndex_8e157) (maxL := 3) (ret := some .int) (by decide) rfl ?_
  intro p e s m args below meth c s₁ B hml hv
  obtain ⟨rfl, hb0, hO⟩ := hv
  have hx := B.exec
  have hb := B.bytes
  have hr := B.returns
  have hlocks := B.notSynchronized
  have hS : va_S (am_A base) s.heap s.heap [] := va_S.rf
  have hl := lv_entry ([.int i, .int n, w]) (n := 3) (by rcases hw with rfl | ⟨t, rfl⟩ <;> exact Nat.le_of_ble_eq_true rfl)
  rw [lg_entry_eq]
  generalize (lg_sl ([.int i, .int n, w]) ++ List.replicate (3 - (lg_sl ([.int i, .int n, w])).length) Slot.unset).toArray = ls at hl ⊢
  have hl : lv_has ls 3 [(0, .int i), (1, .int n), (2, w)] := hl
  refine lv_iload_n hx hb dJ3_checkIndex_8e157_0 rfl (lv_at hl 0 rfl) ?_
  refine lv_if_lt (tgt := 9) hx hb dJ3_checkIndex_8e157_1 (by decide) (fun q => absurd q h0) (fun _ => ?_)
  refine lv_iload_n hx hb dJ3_checkIndex_8e157_4 rfl (lv_at hl 0 rfl) ?_
  refine lv_iload_n hx hb dJ3_checkIndex_8e157_5 rfl (lv_at hl 1 rfl) ?_
  refine lv_icmp_lt (tgt := 16) hx hb dJ3_checkIndex_8e157_6 (by decide) (fun _ => ?_) (fun q => absurd h1 q)
  refine lv_iload_n hx hb dJ3_checkIndex_8e157_16 rfl (lv_at hl 0 rfl) ?_
  exact W.iret hx hb hr (fun t ht _ => ⟨rfl, ht⟩) hS.2.2 dJ3_checkIndex_8e157_17 hlocks
set_option maxHeartbeats 4000000 in
theorem am_j0c (l : Launch) (o : Nat → Nat) (base vb : Nat) (OI : am_I) (i n : Int32) (h0 : ¬ i < 0) (h1 : i < n) : Met l yJ0_checkIndex_df160 (Cond.code yJ0_checkIndex_df160 cJ0_checkIndex_df160 2 none :: am_W) ({ frames := 2, cells := 0, slots := 0, locals := 50 }) (am_PJ o base vb OI [.int i, .int n]) (am_QJ none) 0 0 (am_A base) := by
  refine Met.ofW (cc := cJ0_checkIndex_df160) (maxL := 2) (ret := none) (by decide) rfl ?_
  intro p e s m args below meth c s₁ B hml hv
  obtain ⟨rfl, hb0, hO⟩ := hv
  have hx := B.exec
  have hb := B.bytes
  have hr := B.returns
  have hlocks := B.notSynchronized
  have hts0 := atoms_spec (ws := (Cond.code yJ0_checkIndex_df160 cJ0_checkIndex_df160 2 none :: am_W)) B.pre
  have hts : ∀ w ∈ am_W, w.before #[.int i, .int n] s = true := fun w hw => hts0 w (List.mem_cons_of_mem _ hw)
  have hown : s.vm.findClass "java/lang/String" = some m.cls := findClass_of_methodNamed B.named
  have hS : va_S (am_A base) s.heap s.heap [] := va_S.rf
  have hl := lv_entry ([.int i, .int n]) (n := 2) (Nat.le_of_ble_eq_true rfl)
  rw [lg_entry_eq]
  generalize (lg_sl ([.int i, .int n]) ++ List.replicate (2 - (lg_sl ([.int i, .int n])).length) Slot.unset).toArray = ls at hl ⊢
  have hl : lv_has ls 2 [(0, .int i), (1, .int n)] := hl
  refine lv_iload_n hx hb dJ0_checkIndex_df160_0 rfl (lv_at hl 0 rfl) ?_
  refine lv_iload_n hx hb dJ0_checkIndex_df160_1 rfl (lv_at hl 1 rfl) ?_
  have key : ∀ w : Value, (w = .null ∨ ∃ t, w = .ref t) → W p l e (headSpec (Cond.code yJ0_checkIndex_df160 cJ0_checkIndex_df160 2 none :: am_W) ({ frames := 2, cells := 0, slots := 0, locals := 50 })).room s m #[.int i, .int n] below meth c s.heap [] 0 0 (MQ below (am_QJ none) #[.int i, .int n] s 0 0 (am_A base)) (F0 m 5 ls [w, .int n, .int i]) := by
    intro w hw
    refine am_afterJ (va_runS (As := [.int i, .int n, w]) (rest := []) ⟨hx, hb, hml, hown, hts⟩ (am_j3 l o base vb OI i n w hw h0 h1) ⟨callB_of 3 hts (am_gI am_j_c_pc) rfl rfl rfl (hts _ am_j_n_P) (hts _ am_j_l_pc) (by decide +kernel) ⟨Nat.le_of_ble_eq_true rfl, Nat.le_of_ble_eq_true rfl⟩, hts _ am_j_i_pc⟩ ⟨am_PJ_blind, fun U hU hW => ⟨rfl, by rw [hU]; exact hb0, by rw [hU]; exact hO.next hW hS hb0⟩⟩ rfl rfl hl.1 rfl (lv_room (Nat.le_of_ble_eq_true rfl)) dJ0_checkIndex_df160_5 ⟨Nat.le_of_ble_eq_true rfl, Nat.le_of_ble_eq_true rfl⟩) hS (fun locs1 hS1 => ?_)
    refine lv_pop hx hb dJ0_checkIndex_df160_8 rfl ?_
    exact W.vret hx hb hr (fun t ht _ => ⟨rfl, ht⟩) hS1.2.2 dJ0_checkIndex_df160_9 hlocks
  rcases hO.2.2.2.1.2.2.2.1 with hz | ⟨t, hz⟩
  · exact va_gets hx hb hz hS hown (hts _ am_j_f_sf) (fun _ q => q) dJ0_checkIndex_df160_2 (key _ (Or.inl rfl))
  · exact va_gets hx hb hz hS hown (hts _ am_j_f_sf) (fun _ q => q) dJ0_checkIndex_df160_2 (key _ (Or.inr ⟨t, rfl⟩))
set_option maxHeartbeats 4000000 in
theorem am_j1 (l : Launch) (o : Nat → Nat) (base vb : Nat) (OI : am_I) (i : Int32) (hin : vp_in i 136) : Met l yJ1_charAt_3b067 (Cond.code yJ1_charAt_3b067 cJ1_charAt_3b067 2 (some .char) :: am_W) ({ frames := 3, cells := 0, slots := 0, locals := 80 }) (am_PJ o base vb OI [.ref vb, .int i]) (am_QJ (some (.int (OI 4 i.toNatClampNeg)))) 0 0 (am_A base) := by
  refine Met.ofW (cc := cJ1_charAt_3b067) (maxL := 2) (ret := some .char) (by decide) rfl ?_
  intro p e s m args below meth c s₁ B hml hv
  obtain ⟨rfl, hb0, hO⟩ := hv
  have hx := B.exec
  have hb := B.bytes
  have hr := B.returns
  have hlocks := B.notSynchronized
  have hts0 := atoms_spec (ws := (Cond.code yJ1_charAt_3b067 cJ1_charAt_3b067 2 (some .char) :: am_W)) B.pre
  have hts : ∀ w ∈ am_W, w.before #[.ref vb, .int i] s = true := fun w hw => hts0 w (List.mem_cons_of_mem _ hw)
  have hown : s.vm.findClass "java/lang/StringLatin1" = some m.cls := findClass_of_methodNamed B.named
  have hS : va_S (am_A base) s.heap s.heap [] := va_S.rf
  obtain ⟨j, hj, rfl⟩ := vp_in_of hin (by omega)
  have hT := (hO.2.2.2.1.2.1.1 0 (by omega)).2.2.2
  have hval := hO.2.2.2.1.2.2.2.2 j hj
  have hl := lv_entry ([.ref vb, .int (nI j)]) (n := 2) (Nat.le_of_ble_eq_true rfl)
  rw [lg_entry_eq]
  generalize (lg_sl ([.ref vb, .int (nI j)]) ++ List.replicate (2 - (lg_sl ([.ref vb, .int (nI j)])).length) Slot.unset).toArray = ls at hl ⊢
  have hl : lv_has ls 2 [(0, .ref vb), (1, .int (nI j))] := hl
  refine lv_iload_n hx hb dJ1_charAt_3b067_0 rfl (lv_at hl 1 rfl) ?_
  refine lv_aload_n hx hb dJ1_charAt_3b067_1 rfl (lv_at hl 0 rfl) ?_
  refine va_tlen (v := nI 136) hx hb hT hS rfl dJ1_charAt_3b067_2 ?_
  refine am_afterJ (va_runS (As := [.int (nI j), .int (nI 136)]) (rest := []) ⟨hx, hb, hml, hown, hts⟩ (am_j0c l o base vb OI (nI j) (nI 136) (nI_pos (by omega)) (nI_lt hj (by omega))) ⟨callB_of 2 hts (am_gI am_j_c_ci) rfl rfl rfl (hts _ am_j_n_S) (hts _ am_j_l_ci) (by decide +kernel) ⟨Nat.le_of_ble_eq_true rfl, Nat.le_of_ble_eq_true rfl⟩, hts _ am_j_i_ci⟩ ⟨am_PJ_blind, fun U hU hW => ⟨rfl, by rw [hU]; exact hb0, by rw [hU]; exact hO.next hW hS hb0⟩⟩ rfl rfl hl.1 rfl (lv_room (Nat.le_of_ble_eq_true rfl)) dJ1_charAt_3b067_3 ⟨Nat.le_of_ble_eq_true rfl, Nat.le_of_ble_eq_true rfl⟩) hS (fun locs1 hS1 => ?_)
  refine lv_aload_n hx hb dJ1_charAt_3b067_6 rfl (lv_at hl 0 rfl) ?_
  refine lv_iload_n hx hb dJ1_charAt_3b067_7 rfl (lv_at hl 1 rfl) ?_
  refine va_tb (v := .int (am_txt.getD j 0)) hx hb hT hS1 hin (by rw [nI_clamp (by omega)]; rfl) dJ1_charAt_3b067_8 ?_
  refine lv_sipush (v := 255) hx hb dJ1_charAt_3b067_9 (by decide) ?_
  refine lv_iand hx hb dJ1_charAt_3b067_12 ?_
  have hch : ∀ j, j < 136 → ((am_txt.getD j 0 &&& 255).toUInt32 % 65536).toInt32 = am_txt.getD j 0 ∧ narrow .char (.int (am_txt.getD j 0)) = .int (am_txt.getD j 0) := by decide +kernel
  refine lv_i2c (v := am_txt.getD j 0) hx hb dJ1_charAt_3b067_13 (hch j hj).1 ?_
  rw [nI_clamp (by omega), hval]
  exact W.zret hx hb hr (hch j hj).2 (fun t ht _ => ⟨rfl, ht⟩) hS1.2.2 dJ1_charAt_3b067_14 hlocks
set_option maxHeartbeats 4000000 in
theorem am_j0i (l : Launch) (o : Nat → Nat) (base vb : Nat) (OI : am_I) : Met l yJ0_isLatin1_aae02 (Cond.code yJ0_isLatin1_aae02 cJ0_isLatin1_aae02 1 (some .boolean) :: am_W) ({ frames := 1, cells := 0, slots := 0, locals := 20 }) (am_PJ o base vb OI [.ref (o 4)]) (am_QJ (some (.int 1))) 0 0 (am_A base) := by
  refine Met.ofW (cc := cJ0_isLatin1_aae02) (maxL := 1) (ret := some .boolean) (by decide) rfl ?_
  intro p e s m args below meth c s₁ B hml hv
  obtain ⟨rfl, hb0, hO⟩ := hv
  have hx := B.exec
  have hb := B.bytes
  have hr := B.returns
  have hlocks := B.notSynchronized
  have hts0 := atoms_spec (ws := (Cond.code yJ0_isLatin1_aae02 cJ0_isLatin1_aae02 1 (some .boolean) :: am_W)) B.pre
  have hts : ∀ w ∈ am_W, w.before #[.ref (o 4)] s = true := fun w hw => hts0 w (List.mem_cons_of_mem _ hw)
  have hown : s.vm.findClass "java/lang/String" = some m.cls := findClass_of_methodNamed B.named
  have hS : va_S (am_A base) s.heap s.heap [] := va_S.rf
  have hcod := (hO.2.2.2.1.2.1.1 0 (by omega)).2.1
  have hl := lv_entry ([.ref (o 4)]) (n := 1) (Nat.le_of_ble_eq_true rfl)
  rw [lg_entry_eq]
  generalize (lg_sl ([.ref (o 4)]) ++ List.replicate (1 - (lg_sl ([.ref (o 4)])).length) Slot.unset).toArray = ls at hl ⊢
  have hl : lv_has ls 1 [(0, .ref (o 4))] := hl
  refine va_gets hx hb hO.2.2.2.1.2.2.1 hS hown (hts _ am_j_f_cs) (fun _ q => q) dJ0_isLatin1_aae02_0 ?_
  refine lv_if_eq (tgt := 17) hx hb dJ0_isLatin1_aae02_3 (by decide) (fun q => by cases q) (fun _ => ?_)
  refine lv_aload_n hx hb dJ0_isLatin1_aae02_6 rfl (lv_at hl 0 rfl) ?_
  refine vk_getf hx hb hcod hS hown (hts _ am_j_f_cod) (fun _ q => q) dJ0_isLatin1_aae02_7 ?_
  refine lv_if_ne (tgt := 17) hx hb dJ0_isLatin1_aae02_10 (by decide) (fun q => absurd rfl q) (fun _ => ?_)
  refine lv_iconst (v := 1) hx hb dJ0_isLatin1_aae02_13 (by decide) ?_
  refine lv_goto (tgt := 18) hx hb dJ0_isLatin1_aae02_14 (by decide) ?_
  exact W.zret hx hb hr rfl (fun t ht _ => ⟨rfl, ht⟩) hS.2.2 dJ0_isLatin1_aae02_18 hlocks
set_option maxHeartbeats 4000000 in
theorem am_j0 (l : Launch) (o : Nat → Nat) (base vb : Nat) (OI : am_I) (i : Int32) (hin : vp_in i 136) : Met l yJ0_charAt_5068e (Cond.code yJ0_charAt_5068e cJ0_charAt_5068e 2 (some .char) :: am_W) ({ frames := 4, cells := 0, slots := 0, locals := 110 }) (am_PJ o base vb OI [.ref (o 4), .int i]) (am_QJ (some (.int (OI 4 i.toNatClampNeg)))) 0 0 (am_A base) := by
  refine Met.ofW (cc := cJ0_charAt_5068e) (maxL := 2) (ret := some .char) (by decide) rfl ?_
  intro p e s m args below meth c s₁ B hml hv
  obtain ⟨rfl, hb0, hO⟩ := hv
  have hx := B.exec
  have hb := B.bytes
  have hr := B.returns
  have hlocks := B.notSynchronized
  have hts0 := atoms_spec (ws := (Cond.code yJ0_charAt_5068e cJ0_charAt_5068e 2 (some .char) :: am_W)) B.pre
  have hts : ∀ w ∈ am_W, w.before #[.ref (o 4), .int i] s = true := fun w hw => hts0 w (List.mem_cons_of_mem _ hw)
  have hown : s.vm.findClass "java/lang/String" = some m.cls := findClass_of_methodNamed B.named
  have hS : va_S (am_A base) s.heap s.heap [] := va_S.rf
  have hvk := hO.2.2.2.1.2.1
  have hvf := (hvk.1 0 (by omega)).2.2.1
  have hl := lv_entry ([.ref (o 4), .int i]) (n := 2) (Nat.le_of_ble_eq_true rfl)
  rw [lg_entry_eq]
  generalize (lg_sl ([.ref (o 4), .int i]) ++ List.replicate (2 - (lg_sl ([.ref (o 4), .int i])).length) Slot.unset).toArray = ls at hl ⊢
  have hl : lv_has ls 2 [(0, .ref (o 4)), (1, .int i)] := hl
  refine lv_aload_n hx hb dJ0_charAt_5068e_0 rfl (lv_at hl 0 rfl) ?_
  refine am_afterJ (va_runV (C := "java/lang/String") (b := o 4) (As := []) (rest := []) ⟨hx, hb, hml, hown, hts⟩ (am_j0i l o base vb OI) ⟨callB_of 0 hts (am_gI am_j_c_il) rfl rfl rfl (hts _ am_j_n_S) (hts _ am_j_l_il) (by decide +kernel) ⟨Nat.le_of_ble_eq_true rfl, Nat.le_of_ble_eq_true rfl⟩, hts _ am_j_i_il, hts _ am_j_s_il⟩ ⟨am_PJ_blind, vk_recv hvk (i := 0) (by omega) hS, fun U hU hW => ⟨rfl, by rw [hU]; exact hb0, by rw [hU]; exact hO.next hW hS hb0⟩⟩ rfl rfl hl.1 rfl (lv_room (Nat.le_of_ble_eq_true rfl)) dJ0_charAt_5068e_1 ⟨Nat.le_of_ble_eq_true rfl, Nat.le_of_ble_eq_true rfl⟩) hS (fun locs1 hS1 => ?_)
  refine lv_if_eq (tgt := 16) hx hb dJ0_charAt_5068e_4 (by decide) (fun q => by cases q) (fun _ => ?_)
  refine lv_aload_n hx hb dJ0_charAt_5068e_7 rfl (lv_at hl 0 rfl) ?_
  refine vk_getf hx hb hvf hS1 hown (hts _ am_j_f_val) (fun _ q => q) dJ0_charAt_5068e_8 ?_
  refine lv_iload_n hx hb dJ0_charAt_5068e_11 rfl (lv_at hl 1 rfl) ?_
  refine am_afterJ (va_runS (As := [.ref vb, .int i]) (rest := []) ⟨hx, hb, hml, hown, hts⟩ (am_j1 l o base vb OI i hin) ⟨callB_of 2 hts (am_gI am_j_c_lc) rfl rfl rfl (hts _ am_j_n_L) (hts _ am_j_l_lc) (by decide +kernel) ⟨Nat.le_of_ble_eq_true rfl, Nat.le_of_ble_eq_true rfl⟩, hts _ am_j_i_lc⟩ ⟨am_PJ_blind, fun U hU hW => ⟨rfl, by rw [hU]; exact hb0, by rw [hU]; exact hO.next hW hS1 hb0⟩⟩ rfl rfl hl.1 rfl (lv_room (Nat.le_of_ble_eq_true rfl)) dJ0_charAt_5068e_12 ⟨Nat.le_of_ble_eq_true rfl, Nat.le_of_ble_eq_true rfl⟩) hS1 (fun locs2 hS2 => ?_)
  have hch : ∀ j, j < 136 → narrow .char (.int (am_txt.getD j 0)) = .int (am_txt.getD j 0) := by decide +kernel
  obtain ⟨j, hj, rfl⟩ := vp_in_of hin (by omega)
  have hval := hO.2.2.2.1.2.2.2.2 j hj
  rw [nI_clamp (by omega), hval]
  exact W.zret hx hb hr (hch j hj) (fun t ht _ => ⟨rfl, ht⟩) hS2.2.2 dJ0_charAt_5068e_15 hlocks
end
section
/-! a step of the abstract machine is a step of the machine -/
theorem am_b {a b : Nat} (h : Nat.beq a b = true) : a = b := Nat.eq_of_beq_eq_true h
theorem am_lt2 {a b : Nat} (h : Nat.blt a b = true) : a < b := Nat.le_of_ble_eq_true h
theorem am_FTin {own ix ci j : Nat} (h : (am_FT own).any (fun q => Nat.beq q.1 ix && Nat.beq q.2.1 ci && Nat.beq q.2.2 j) = true) : am_fok own ix ci j := by
  obtain ⟨q, hq, h⟩ := List.any_eq_true.mp h
  simp only [Bool.and_eq_true] at h
  have h1 := am_b h.1.1
  have h2 := am_b h.1.2
  have h3 := am_b h.2
  have h4 := am_FT_ok own q hq
  rw [h1, h2, h3] at h4
  exact h4
theorem am_2in {l : List (Nat × Nat)} {ix y : Nat} (h : l.any (fun q => Nat.beq q.1 ix && Nat.beq q.2 y) = true) : (ix, y) ∈ l := by
  obtain ⟨q, hq, h⟩ := List.any_eq_true.mp h
  simp only [Bool.and_eq_true] at h
  have h1 := am_b h.1
  have h2 := am_b h.2
  obtain ⟨a, b⟩ := q
  subst h1
  subst h2
  exact hq
theorem am_cls_own {c : Nat} (h : c < 11) : (am_cls c).1 = am_own c := by
  rcases (show c = 0 ∨ c = 1 ∨ c = 2 ∨ c = 3 ∨ c = 4 ∨ c = 5 ∨ c = 6 ∨ c = 7 ∨ c = 8 ∨ c = 9 ∨ c = 10 by omega) with rfl | rfl | rfl | rfl | rfl | rfl | rfl | rfl | rfl | rfl | rfl <;> rfl
theorem am_KTin {own ix z x y : Nat} (h : (am_KT own).any (fun q => Nat.beq q.1 ix && Nat.beq q.2.1 z && Nat.beq q.2.2.1 x && Nat.beq q.2.2.2 y) = true) : am_kw own (ix, z, x, y) ∈ am_W := by
  obtain ⟨q, hq, h⟩ := List.any_eq_true.mp h
  simp only [Bool.and_eq_true] at h
  have h1 := am_KT_ok _ q hq
  obtain ⟨q1, q2, q3, q4⟩ := q
  have e1 : q1 = ix := am_b h.1.1.1
  have e2 : q2 = z := am_b h.1.1.2
  have e3 : q3 = x := am_b h.1.2
  have e4 : q4 = y := am_b h.2
  subst e1
  subst e2
  subst e3
  subst e4
  exact h1
theorem am_KT2 {own ix x : Nat} (h : (am_KT own).any (fun q => Nat.beq q.1 ix && Nat.beq q.2.2.1 x && Nat.beq q.2.2.2 1) = true) : Cond.constantLong (am_own own) ix (Int64.ofNat x) ∈ am_W := by
  obtain ⟨q, hq, h⟩ := List.any_eq_true.mp h
  simp only [Bool.and_eq_true] at h
  have h1 := am_KT_ok _ q hq
  obtain ⟨q1, q2, q3, q4⟩ := q
  have e1 : q1 = ix := am_b h.1.1
  have e3 : q3 = x := am_b h.1.2
  have e4 : q4 = 1 := am_b h.2
  subst e1
  subst e3
  subst e4
  exact h1
theorem am_lev_some {d r r' d' : Nat} (h : am_lev d r r' = some d') : r' + 42 * d' + 1 ≤ r + 42 * d := by
  unfold am_lev at h
  split at h
  · cases h
    omega
  · split at h
    · cases h
    · split at h
      · cases h
        omega
      · cases h
/-- a call that goes on -/
theorem am_call_some {n d k y : Nat} {a r : List Value} {pc : Nat} {L : am_Loc} {μ μf : am_Mem} {v : Option Value} (h : (match am_MT[y]? with
        | none => none
        | some mj => match am_lev2 d (am_mi k) mj a with
          | none => none
          | some d' => match am_run am_MT n d' mj 0 (am_entry mj.2.2.1 a) [] μ with
            | none => none
            | some (v, μ') => am_run am_MT n d (am_mi k) (pc + 3) L (v.toList ++ r) μ') = some (v, μf)) :
    ∃ d' v1 μ1, y < 228 ∧ am_rk y + 42 * d' + 1 ≤ am_rk k + 42 * d ∧ (am_args a).length ≤ am_nl y ∧ am_run am_MT n d' (am_mi y) 0 (am_entry (am_nl y) a) [] μ = some (v1, μ1) ∧ am_run am_MT n d (am_mi k) (pc + 3) L (v1.toList ++ r) μ1 = some (v, μf) := by
  split at h
  · cases h
  · rename_i mj hmj
    obtain ⟨rfl, hy⟩ := am_mi_of hmj
    split at h
    · cases h
    · rename_i d' hd'
      split at h
      · cases h
      · rename_i v1 μ1 h1
        unfold am_lev2 at hd'
        split at hd'
        · rename_i hb
          exact ⟨d', v1, μ1, hy, am_lev_some hd', Nat.le_of_ble_eq_true hb, h1, h⟩
        · cases hd'
/-- behind a call -/
theorem am_after {p : Program} {l : Launch} {e : Env} {R : Room} {s : State} {m : MethodId} {args : Array Value} {below : List Frame} {meth : Method} {c : Code} {H : Heap} {locs : List Loc} {cells slots mc ms pc : Nat} {Q : State → Prop} {ls : Array Slot} {st0 : List Value} {D : va_G} {cid : Nat → ClassId} {o : Nat → Nat} {base : Nat} {OI : am_I} {v1 : Option Value} {μ1 : am_Mem} {r : List Value} {arr : Array Value}
    (hr : va_Run p l e R s m args below meth c H locs cells slots mc ms (F0 m pc ls st0) (r.map (am_val (am_ad o base))) (am_Qc D cid o base OI v1 μ1 arr) (am_A base)) (hS : va_S (am_A base) s.heap H locs)
    (kk : ∀ (H1 : Heap) (locs1 : List Loc), am_rel D cid o base OI μ1 H1 → va_S (am_A base) s.heap H1 locs1 → W p l e R s m args below meth c H1 locs1 (cells + mc) (slots + ms) Q (F0 m (pc + 3) ls ((v1.toList ++ r).map (am_val (am_ad o base))))) :
    W p l e R s m args below meth c H locs cells slots Q (F0 m pc ls st0) := by
  intro T hT X
  obtain ⟨v', st₀, t, T', L', h0, X', hL', e1, e2, hq, st⟩ := hr T hT X
  obtain ⟨hv, hrel1, hz1, hkeep⟩ := hq
  cases hv
  rw [h0] at hz1 hkeep
  have hS2 : va_S (am_A base) s.heap T'.heap (locs ++ L') := ⟨by rw [e1]; exact Nat.le_trans hS.1 hz1, fun q h1 h2 => by rw [e1, hkeep q (Nat.lt_of_lt_of_le h1 hS.1) h2]; exact hS.2.1 q h1 h2, fun q hq => by
    rcases List.mem_append.mp hq with h | h
    · exact hS.2.2 q h
    · exact hL' q h⟩
  obtain ⟨t2, a1, b1⟩ := kk T'.heap (locs ++ L') (by rw [e1]; exact hrel1) hS2 T' rfl X'
  refine ⟨t2, st t2 ?_, b1⟩
  have e3 : (v1.toList ++ r).map (am_val (am_ad o base)) = (v1.map (am_val (am_ad o base))).toList ++ r.map (am_val (am_ad o base)) := by cases v1 <;> rfl
  rw [e3] at a1
  exact a1
theorem am_newq {o : Nat → Nat} {base : Nat} {cid : Nat → ClassId} {μ : am_Mem} {q : Nat} {x : va_E} {D : va_G} {H1 : Heap} (h5 : 5 ≤ μ.1.length) (hP : va_P D vwCl (am_ws (am_ad o base) cid μ ++ [(q, x)]) H1) (hD : va_D (am_A base) (am_ws (am_ad o base) cid μ ++ [(q, x)])) (hz : H1.size ≤ base + (μ.1.length - 5) + 1) : q = am_ad o base μ.1.length := by
  have hlen := am_ws_len (am_ad o base) cid μ
  have hg : (am_ws (am_ad o base) cid μ ++ [(q, x)])[μ.1.length - 5]? = some (q, x) := by rw [List.getElem?_append_right (by omega), hlen]; simp
  have h1 : base ≤ q := hD.2 _ _ hg
  have h2 := (hP _ _ hg).lt
  simp only at h2
  rw [am_ad_new h5]
  by_cases hq : q = base + (μ.1.length - 5)
  · exact hq
  · exfalso
    have h3 := am_ws_at (am_ad o base) cid μ (q - base)
    rw [if_pos (by omega)] at h3
    have h4 : (am_ws (am_ad o base) cid μ ++ [(q, x)])[q - base]? = some (am_ad o base (q - base + 5), am_cl (am_ad o base) cid μ.2.1 μ.2.2 (q - base + 5) (μ.1.getD (q - base + 5) am_s0)) := by rw [List.getElem?_append_left (by omega)]; exact h3
    have h6 := hD.1 _ _ _ _ hg h4 (by simp only [am_ad_new (show 5 ≤ q - base + 5 by omega)]; omega)
    omega
/-- the machine's text: a sign of the constant -/
theorem am_charW {p : Program} {l : Launch} {e : Env} {R : Room} {s : State} {m : MethodId} {args : Array Value} {below : List Frame} {meth : Method} {c : Code} {H : Heap} {locs : List Loc} {cells slots k d tc ts pc ix : Nat} {Q : State → Prop} {ls : Array Slot} {D : va_G} {cid : Nat → ClassId} {o : Nat → Nat} {base vb : Nat} {OI : am_I} {i : Int32} {r : List Value}
    (hctx : am_ctx p R s m args meth c D cid o base vb OI k d tc ts) (hS : va_S (am_A base) s.heap H locs) (hsz : c.maxLocals = ls.size) (hin : vp_in i 136) (hcat : (r.map fun v => v.category).sum ≤ 8) (hlink : (Cond.methodLink (am_own (am_mi k).1) ix yJ0_charAt_5068e).before args s = true) (hc : cells ≤ R.cells) (hs : slots ≤ R.slots)
    (hdg : decode (am_by k) pc = .ok (.invokevirtual ix, 3)) (kk : ∀ (locs1 : List Loc) (H1 : Heap), H1.size = H.size → (∀ q : Nat, q < H.size → H1[q]? = H[q]?) → va_S (am_A base) s.heap H1 locs1 → W p l e R s m args below meth c H1 locs1 cells slots Q (F0 m (pc + 3) ls (.int (OI 4 i.toNatClampNeg) :: r))) :
    W p l e R s m args below meth c H locs cells slots Q (F0 m pc ls (.int i :: .ref (o 4) :: r)) := by
  obtain ⟨⟨hx, hb, hml, hown, hts⟩, hK, hO, hbz, ⟨hfr, hlo, hcc, hss⟩, hini⟩ := hctx
  have hfl : 5 ≤ R.frames ∧ 300 ≤ R.locals := by
    unfold am_fr at hfr
    unfold am_lo at hlo
    omega
  refine am_afterJ (va_runV (C := "java/lang/String") (b := o 4) (As := [.int i]) (rest := r) ⟨hx, hb, hml, hown, hts⟩ (am_j0 l o base vb OI i hin) ⟨callB_of 1 hts (am_gI am_j_c_ca) rfl rfl rfl (hts _ am_j_n_S) hlink (by decide +kernel) ⟨by show 4 + 1 ≤ _; omega, by show 8 + (2 + 11) + 110 ≤ _; omega⟩, hts _ am_j_i_ca, hts _ am_j_s_ca⟩ ⟨am_PJ_blind, vk_recv hO.2.2.2.1.2.1 (i := 0) (by omega) hS, fun U hU hW => ⟨rfl, by rw [hU]; exact Nat.le_trans hbz hS.1, by rw [hU]; exact hO.next hW hS hbz⟩⟩ rfl rfl (hsz.symm.trans hml) rfl (lv_room hcat) hdg ⟨hc, hs⟩) hS (fun locs1 hS1 => kk locs1 H rfl (fun _ _ => rfl) hS1)
theorem am_relU {D : va_G} {cid : Nat → ClassId} {o : Nat → Nat} {base : Nat} {OI : am_I} {μ μ' : am_Mem} {H H1 : Heap} {a : Nat} {s' : am_Shp} (hrel : am_rel D cid o base OI μ H) (h5 : 5 ≤ a) (hlt : a < μ.1.length) (hwf : am_wf μ'.1) (hl : μ'.1.length = μ.1.length) (hs : μ'.1[a]? = some s') (ho : ∀ c, c ≠ a → μ'.1[c]? = μ.1[c]? ∧ μ'.2.1 c = μ.2.1 c ∧ μ'.2.2 c = μ.2.2 c) {e : va_E} (he : e = am_cl (am_ad o base) cid μ'.2.1 μ'.2.2 a s')
    (hP : va_P D vwCl ((am_ws (am_ad o base) cid μ).set (a - 5) (am_ad o base a, e)) H1) : am_rel D cid o base OI μ' H1 := by
  subst he
  rw [am_ws_set h5 hlt hl hs ho] at hP
  refine ⟨hwf, hP, fun c k hc => ?_⟩
  rw [(ho c (by omega)).2.1]
  exact hrel.2.2 c k hc
set_option maxHeartbeats 40000000 in
set_option maxRecDepth 10000 in
theorem am_simS {l : Launch} {D : va_G} {cid : Nat → ClassId} {o : Nat → Nat} {base vb : Nat} {OI : am_I} {n : Nat} (ih : am_SimW l D cid o base vb OI n) : am_SimW l D cid o base vb OI (n + 1) := by
  intro p e R s m args below meth c k d pc L S μ v μf H locs cells slots Q ls tc ts hk hctx h hrel hS hL htc hts' hz hret
  have hctx0 := hctx
  obtain ⟨⟨hx, hb, hml, hown, hts⟩, hK, hO, hbz, ⟨hfr, hlo, hcc, hss⟩, hini⟩ := hctx
  have hgrow := am_run_grow _ _ _ _ _ _ _ _ _ h
  have hD := am_ws_D o base cid μ
  unfold am_run at h
  split at h
  · cases h
  · rename_i pc0 ins aux hf
    obtain ⟨hmem, hpc⟩ := am_find_mem hf
    have hck := (am_ckM_ok hk).1 _ hmem
    unfold am_ckE at hck
    split at hck
    · rename_i ins' len hdg
      simp only [Bool.and_eq_true, decide_eq_true_eq] at hck
      obtain ⟨hii, hck⟩ := hck
      simp only at hpc hii hdg hck
      have hii2 := hii.symm
      clear hii
      subst hii2
      subst hpc
      have go : ∀ (pc' : Nat) (L' : am_Loc) (S' : List Value) (μ' : am_Mem) (H' : Heap) (locs' : List Loc) (ls' : Array Slot), am_run am_MT n d (am_mi k) pc' L' S' μ' = some (v, μf) → am_rel D cid o base OI μ' H' → va_S (am_A base) s.heap H' locs' → am_LR (am_ad o base) (am_nl k) ls' L' → μ'.1.length = μ.1.length → am_sz μ'.1 = am_sz μ.1 → W p l e R s m args below meth c H' locs' cells slots Q (F0 m pc' ls' (S'.map (am_val (am_ad o base)))) := fun pc' L' S' μ' H' locs' ls' h1 h2 h3 h4 h5 h6 => ih p e R s m args below meth c k d pc' L' S' μ' v μf H' locs' cells slots Q ls' tc ts hk hctx0 h1 h2 h3 h4 (by rw [h5]; exact htc) (by rw [h6]; exact hts') (by rw [h5]; exact hz) hret
      have hA : ∀ q, s.heap.size ≤ q → am_A base q := fun q hq => Nat.le_trans hbz hq
      have hrd : 1 ≤ R.frames ∧ 300 ≤ R.locals := by
        unfold am_fr at hfr
        unfold am_lo at hlo
        omega
      have hcells : cells ≤ R.cells := by omega
      have hslots : slots ≤ R.slots := by omega
      have hsz : c.maxLocals = ls.size := hml.trans hL.2.1.symm
      have hcat : ∀ t : List Value, am_cat t ≤ 8 → ((t.map (am_val (am_ad o base))).map fun v => v.category).sum ≤ 8 := fun t ht => by have := am_cat_map (am_ad o base) t; unfold am_cat at this ht; rw [this]; exact ht
      cases ins
      case iconst z =>
        simp only [am_step, am_stepG] at h
        simp only [am_ckI, Bool.and_eq_true, decide_eq_true_eq] at hck
        have hlen := am_b hck.1
        subst hlen
        exact lv_iconst hx hb hdg hck.2 (go _ _ _ _ _ _ _ h hrel hS hL rfl rfl)
      case bipush z =>
        simp only [am_step, am_stepG] at h
        simp only [am_ckI, Bool.and_eq_true, decide_eq_true_eq] at hck
        have hlen := am_b hck.1
        subst hlen
        exact lv_bipush hx hb hdg hck.2 (go _ _ _ _ _ _ _ h hrel hS hL rfl rfl)
      case sipush z =>
        simp only [am_step, am_stepG] at h
        simp only [am_ckI, Bool.and_eq_true, decide_eq_true_eq] at hck
        have hlen := am_b hck.1
        subst hlen
        exact lv_sipush hx hb hdg hck.2 (go _ _ _ _ _ _ _ h hrel hS hL rfl rfl)
      case lconst z =>
        simp only [am_step, am_stepG] at h
        simp only [am_ckI, Bool.and_eq_true, decide_eq_true_eq] at hck
        have hlen := am_b hck
        subst hlen
        exact lv_lconst hx hb hdg rfl (go _ _ _ _ _ _ _ h hrel hS hL rfl rfl)
      case iload z =>
        simp only [am_step, am_stepG] at h
        simp only [am_ckI, Bool.and_eq_true, decide_eq_true_eq] at hck
        have hlen := am_b hck
        subst hlen
        replace h := am_ld_some h
        obtain ⟨w, hw, h⟩ := h
        cases w <;> first | (cases h; done) | skip
        exact lv_iload hx hb hdg (hL.2.2.2 _ _ hw) (go _ _ _ _ _ _ _ h hrel hS hL rfl rfl)
      case iload_n z =>
        simp only [am_step, am_stepG] at h
        simp only [am_ckI, Bool.and_eq_true, decide_eq_true_eq] at hck
        have hlen := am_b hck
        subst hlen
        replace h := am_ld_some h
        obtain ⟨w, hw, h⟩ := h
        cases w <;> first | (cases h; done) | skip
        exact lv_iload_n hx hb hdg rfl (hL.2.2.2 _ _ hw) (go _ _ _ _ _ _ _ h hrel hS hL rfl rfl)
      case lload z =>
        simp only [am_step, am_stepG] at h
        simp only [am_ckI, Bool.and_eq_true, decide_eq_true_eq] at hck
        have hlen := am_b hck
        subst hlen
        replace h := am_ld_some h
        obtain ⟨w, hw, h⟩ := h
        cases w <;> first | (cases h; done) | skip
        exact lv_lload hx hb hdg (hL.2.2.2 _ _ hw) (go _ _ _ _ _ _ _ h hrel hS hL rfl rfl)
      case lload_n z =>
        simp only [am_step, am_stepG] at h
        simp only [am_ckI, Bool.and_eq_true, decide_eq_true_eq] at hck
        have hlen := am_b hck
        subst hlen
        replace h := am_ld_some h
        obtain ⟨w, hw, h⟩ := h
        cases w <;> first | (cases h; done) | skip
        exact lv_lload_n hx hb hdg rfl (hL.2.2.2 _ _ hw) (go _ _ _ _ _ _ _ h hrel hS hL rfl rfl)
      case aload z =>
        simp only [am_step, am_stepG] at h
        simp only [am_ckI, Bool.and_eq_true, decide_eq_true_eq] at hck
        have hlen := am_b hck
        subst hlen
        replace h := am_ld_some h
        obtain ⟨w, hw, h⟩ := h
        cases w <;> first | (cases h; done) | skip
        exact lv_aload hx hb hdg (hL.2.2.2 _ _ hw) (go _ _ _ _ _ _ _ h hrel hS hL rfl rfl)
      case aload_n z =>
        simp only [am_step, am_stepG] at h
        simp only [am_ckI, Bool.and_eq_true, decide_eq_true_eq] at hck
        have hlen := am_b hck
        subst hlen
        replace h := am_ld_some h
        obtain ⟨w, hw, h⟩ := h
        cases w <;> first | (cases h; done) | skip
        exact lv_aload_n hx hb hdg rfl (hL.2.2.2 _ _ hw) (go _ _ _ _ _ _ _ h hrel hS hL rfl rfl)
      case istore z =>
        simp only [am_step, am_stepG] at h
        simp only [am_ckI, Bool.and_eq_true, decide_eq_true_eq] at hck
        have hlen := am_b hck.1
        subst hlen
        replace h := am_popi_some h
        obtain ⟨x, t, rfl, h⟩ := h
        exact lv_istore hx hb hdg hL.has (am_lt2 hck.2) rfl (fun ls1 h1 => go _ _ _ _ _ _ ls1 h hrel hS (hL.of1 (v := .int x) h1) rfl rfl)
      case istore_n z =>
        simp only [am_step, am_stepG] at h
        simp only [am_ckI, Bool.and_eq_true, decide_eq_true_eq] at hck
        have hlen := am_b hck.1
        subst hlen
        replace h := am_popi_some h
        obtain ⟨x, t, rfl, h⟩ := h
        exact lv_istore_n hx hb hdg rfl hL.has (am_lt2 hck.2) rfl (fun ls1 h1 => go _ _ _ _ _ _ ls1 h hrel hS (hL.of1 (v := .int x) h1) rfl rfl)
      case lstore z =>
        simp only [am_step, am_stepG] at h
        simp only [am_ckI, Bool.and_eq_true, decide_eq_true_eq] at hck
        have hlen := am_b hck.1
        subst hlen
        split at h
        · rename_i x t
          exact lv_lstore hx hb hdg hL.has (am_lt2 hck.2) rfl (fun ls1 h1 => go _ _ _ _ _ _ ls1 h hrel hS (hL.of2 (v := .long x) h1) rfl rfl)
        · cases h
      case astore_n z =>
        simp only [am_step, am_stepG] at h
        simp only [am_ckI, Bool.and_eq_true, decide_eq_true_eq] at hck
        have hlen := am_b hck.1
        subst hlen
        split at h
        · rename_i x t
          exact lv_astore_n hx hb hdg rfl hL.has (am_lt2 hck.2) rfl (fun ls1 h1 => go _ _ _ _ _ _ ls1 h hrel hS (hL.of1 (v := .ref x) h1) rfl rfl)
        · cases h
      case iinc z y =>
        simp only [am_step, am_stepG] at h
        simp only [am_ckI, Bool.and_eq_true, decide_eq_true_eq] at hck
        have hlen := am_b hck.1.1
        subst hlen
        replace h := am_ld_some h
        obtain ⟨w, hw, h⟩ := h
        cases w <;> first | (cases h; done) | skip
        rename_i x
        obtain ⟨q, hq⟩ := List.getElem?_of_mem (am_prs_mem (ad := am_ad o base) (q := (z, Value.int x)) |>.mpr ⟨_, hw, rfl⟩)
        exact lv_iinc hx hb hdg hL.has hq (by rw [hck.2]) (am_lt2 hck.1.2) rfl (fun ls1 h1 => go _ _ _ _ _ _ ls1 h hrel hS (hL.of1 (v := .int (x + am_lit y)) h1) rfl rfl)
      case iadd =>
        simp only [am_step, am_stepG] at h
        simp only [am_ckI, Bool.and_eq_true, decide_eq_true_eq] at hck
        have hlen := am_b hck
        subst hlen
        replace h := am_popii_some h
        obtain ⟨x, y, t, rfl, h⟩ := h
        exact lv_iadd hx hb hdg (go _ _ _ _ _ _ _ h hrel hS hL rfl rfl)
      case isub =>
        simp only [am_step, am_stepG] at h
        simp only [am_ckI, Bool.and_eq_true, decide_eq_true_eq] at hck
        have hlen := am_b hck
        subst hlen
        replace h := am_popii_some h
        obtain ⟨x, y, t, rfl, h⟩ := h
        exact lv_isub hx hb hdg (go _ _ _ _ _ _ _ h hrel hS hL rfl rfl)
      case imul =>
        simp only [am_step, am_stepG] at h
        simp only [am_ckI, Bool.and_eq_true, decide_eq_true_eq] at hck
        have hlen := am_b hck
        subst hlen
        replace h := am_popii_some h
        obtain ⟨x, y, t, rfl, h⟩ := h
        exact lv_imul hx hb hdg (go _ _ _ _ _ _ _ h hrel hS hL rfl rfl)
      case iand =>
        simp only [am_step, am_stepG] at h
        simp only [am_ckI, Bool.and_eq_true, decide_eq_true_eq] at hck
        have hlen := am_b hck
        subst hlen
        replace h := am_popii_some h
        obtain ⟨x, y, t, rfl, h⟩ := h
        exact lv_iand hx hb hdg (go _ _ _ _ _ _ _ h hrel hS hL rfl rfl)
      case ior =>
        simp only [am_step, am_stepG] at h
        simp only [am_ckI, Bool.and_eq_true, decide_eq_true_eq] at hck
        have hlen := am_b hck
        subst hlen
        replace h := am_popii_some h
        obtain ⟨x, y, t, rfl, h⟩ := h
        exact lv_ior hx hb hdg (go _ _ _ _ _ _ _ h hrel hS hL rfl rfl)
      case ixor =>
        simp only [am_step, am_stepG] at h
        simp only [am_ckI, Bool.and_eq_true, decide_eq_true_eq] at hck
        have hlen := am_b hck
        subst hlen
        replace h := am_popii_some h
        obtain ⟨x, y, t, rfl, h⟩ := h
        exact lv_ixor hx hb hdg (go _ _ _ _ _ _ _ h hrel hS hL rfl rfl)
      case ishl =>
        simp only [am_step, am_stepG] at h
        simp only [am_ckI, Bool.and_eq_true, decide_eq_true_eq] at hck
        have hlen := am_b hck
        subst hlen
        replace h := am_popii_some h
        obtain ⟨x, y, t, rfl, h⟩ := h
        exact lv_ishl hx hb hdg (go _ _ _ _ _ _ _ h hrel hS hL rfl rfl)
      case ishr =>
        simp only [am_step, am_stepG] at h
        simp only [am_ckI, Bool.and_eq_true, decide_eq_true_eq] at hck
        have hlen := am_b hck
        subst hlen
        replace h := am_popii_some h
        obtain ⟨x, y, t, rfl, h⟩ := h
        exact lv_ishr hx hb hdg (go _ _ _ _ _ _ _ h hrel hS hL rfl rfl)
      case iushr =>
        simp only [am_step, am_stepG] at h
        simp only [am_ckI, Bool.and_eq_true, decide_eq_true_eq] at hck
        have hlen := am_b hck
        subst hlen
        replace h := am_popii_some h
        obtain ⟨x, y, t, rfl, h⟩ := h
        exact lv_iushr hx hb hdg rfl (go _ _ _ _ _ _ _ h hrel hS hL rfl rfl)
      case idiv =>
        simp only [am_step, am_stepG] at h
        simp only [am_ckI, Bool.and_eq_true, decide_eq_true_eq] at hck
        have hlen := am_b hck
        subst hlen
        replace h := am_popii_some h
        obtain ⟨x, y, t, rfl, h⟩ := h
        split at h
        · cases h
        · rename_i hne
          exact lv_idiv hx hb hdg hne (go _ _ _ _ _ _ _ h hrel hS hL rfl rfl)
      case irem =>
        simp only [am_step, am_stepG] at h
        simp only [am_ckI, Bool.and_eq_true, decide_eq_true_eq] at hck
        have hlen := am_b hck
        subst hlen
        replace h := am_popii_some h
        obtain ⟨x, y, t, rfl, h⟩ := h
        split at h
        · cases h
        · rename_i hne
          exact lv_irem hx hb hdg hne (go _ _ _ _ _ _ _ h hrel hS hL rfl rfl)
      case ineg =>
        simp only [am_step, am_stepG] at h
        simp only [am_ckI, Bool.and_eq_true, decide_eq_true_eq] at hck
        have hlen := am_b hck
        subst hlen
        replace h := am_popi_some h
        obtain ⟨x, t, rfl, h⟩ := h
        exact lv_ineg hx hb hdg (go _ _ _ _ _ _ _ h hrel hS hL rfl rfl)
      case ladd =>
        simp only [am_step, am_stepG] at h
        simp only [am_ckI, Bool.and_eq_true, decide_eq_true_eq] at hck
        have hlen := am_b hck
        subst hlen
        replace h := am_popll_some h
        obtain ⟨x, y, t, rfl, h⟩ := h
        exact lv_ladd hx hb hdg (go _ _ _ _ _ _ _ h hrel hS hL rfl rfl)
      case lmul =>
        simp only [am_step, am_stepG] at h
        simp only [am_ckI, Bool.and_eq_true, decide_eq_true_eq] at hck
        have hlen := am_b hck
        subst hlen
        replace h := am_popll_some h
        obtain ⟨x, y, t, rfl, h⟩ := h
        exact lv_lmul hx hb hdg (go _ _ _ _ _ _ _ h hrel hS hL rfl rfl)
      case lcmp =>
        simp only [am_step, am_stepG] at h
        simp only [am_ckI, Bool.and_eq_true, decide_eq_true_eq] at hck
        have hlen := am_b hck
        subst hlen
        replace h := am_popll_some h
        obtain ⟨x, y, t, rfl, h⟩ := h
        exact W.lcmp hx hb hdg (go _ _ _ _ _ _ _ h hrel hS hL rfl rfl)
      case i2l =>
        simp only [am_step, am_stepG] at h
        simp only [am_ckI, Bool.and_eq_true, decide_eq_true_eq] at hck
        have hlen := am_b hck
        subst hlen
        replace h := am_popi_some h
        obtain ⟨x, t, rfl, h⟩ := h
        exact lv_i2l hx hb hdg rfl (go _ _ _ _ _ _ _ h hrel hS hL rfl rfl)
      case i2b =>
        simp only [am_step, am_stepG] at h
        simp only [am_ckI, Bool.and_eq_true, decide_eq_true_eq] at hck
        have hlen := am_b hck
        subst hlen
        replace h := am_popi_some h
        obtain ⟨x, t, rfl, h⟩ := h
        exact lv_i2b hx hb hdg rfl (go _ _ _ _ _ _ _ h hrel hS hL rfl rfl)
      case dup =>
        simp only [am_step, am_stepG] at h
        simp only [am_ckI, Bool.and_eq_true, decide_eq_true_eq] at hck
        have hlen := am_b hck
        subst hlen
        split at h
        · split at h
          · rename_i w t hc
            exact lv_dup hx hb hdg ((am_val_cat _ _).trans hc) (go _ _ _ _ _ _ _ h hrel hS hL rfl rfl)
          · cases h
        · cases h
      case dup2 =>
        simp only [am_step, am_stepG] at h
        simp only [am_ckI, Bool.and_eq_true, decide_eq_true_eq] at hck
        have hlen := am_b hck
        subst hlen
        split at h
        · split at h
          · rename_i w w2 t hc
            exact lv_dup2_11 hx hb hdg (by rw [am_val_cat]; first | exact hc.1 | exact hc.2) (by rw [am_val_cat]; first | exact hc.2 | exact hc.1) (go _ _ _ _ _ _ _ h hrel hS hL rfl rfl)
          · cases h
        · cases h
      case pop =>
        simp only [am_step, am_stepG] at h
        simp only [am_ckI, Bool.and_eq_true, decide_eq_true_eq] at hck
        have hlen := am_b hck
        subst hlen
        split at h
        · split at h
          · rename_i w t hc
            exact lv_pop hx hb hdg ((am_val_cat _ _).trans hc) (go _ _ _ _ _ _ _ h hrel hS hL rfl rfl)
          · cases h
        · cases h
      case goto z =>
        simp only [am_step, am_stepG] at h
        split at h
        · simp only [am_ckI, Bool.and_eq_true, decide_eq_true_eq] at hck
          have hlen := am_b hck.1
          subst hlen
          exact lv_goto hx hb hdg (of_decide_eq_true hck.2) (go _ _ _ _ _ _ _ h hrel hS hL rfl rfl)
        · cases h
      case ifCond q z =>
        simp only [am_step, am_stepG] at h
        split at h
        · simp only [am_ckI, Bool.and_eq_true, decide_eq_true_eq] at hck
          have hlen := am_b hck.1
          subst hlen
          replace h := am_popi_some h
          obtain ⟨x, t, rfl, h⟩ := h
          cases q
          · dsimp only at h
            exact lv_if_eq hx hb hdg (of_decide_eq_true hck.2) (fun hc => go _ _ _ _ _ _ _ (by rw [if_pos hc] at h; exact h) hrel hS hL rfl rfl) (fun hc => go _ _ _ _ _ _ _ (by rw [if_neg hc] at h; exact h) hrel hS hL rfl rfl)
          · dsimp only at h
            exact lv_if_ne hx hb hdg (of_decide_eq_true hck.2) (fun hc => go _ _ _ _ _ _ _ (by rw [if_neg hc] at h; exact h) hrel hS hL rfl rfl) (fun hc => go _ _ _ _ _ _ _ (by rw [if_pos hc] at h; exact h) hrel hS hL rfl rfl)
          · dsimp only at h
            exact lv_if_lt hx hb hdg (of_decide_eq_true hck.2) (fun hc => go _ _ _ _ _ _ _ (by rw [if_pos hc] at h; exact h) hrel hS hL rfl rfl) (fun hc => go _ _ _ _ _ _ _ (by rw [if_neg hc] at h; exact h) hrel hS hL rfl rfl)
          · dsimp only at h
            exact lv_if_ge hx hb hdg (of_decide_eq_true hck.2) (fun hc => go _ _ _ _ _ _ _ (by rw [if_pos hc] at h; exact h) hrel hS hL rfl rfl) (fun hc => go _ _ _ _ _ _ _ (by rw [if_neg hc] at h; exact h) hrel hS hL rfl rfl)
          · dsimp only at h
            exact lv_if_gt hx hb hdg (of_decide_eq_true hck.2) (fun hc => go _ _ _ _ _ _ _ (by rw [if_pos hc] at h; exact h) hrel hS hL rfl rfl) (fun hc => go _ _ _ _ _ _ _ (by rw [if_neg hc] at h; exact h) hrel hS hL rfl rfl)
          · dsimp only at h
            exact lv_if_le hx hb hdg (of_decide_eq_true hck.2) (fun hc => go _ _ _ _ _ _ _ (by rw [if_pos hc] at h; exact h) hrel hS hL rfl rfl) (fun hc => go _ _ _ _ _ _ _ (by rw [if_neg hc] at h; exact h) hrel hS hL rfl rfl)
        · cases h
      case if_icmp q z =>
        simp only [am_step, am_stepG] at h
        split at h
        · simp only [am_ckI, Bool.and_eq_true, decide_eq_true_eq] at hck
          have hlen := am_b hck.1
          subst hlen
          replace h := am_popii_some h
          obtain ⟨x, y, t, rfl, h⟩ := h
          cases q
          · dsimp only at h
            exact lv_icmp_eq hx hb hdg (of_decide_eq_true hck.2) (fun hc => go _ _ _ _ _ _ _ (by rw [if_pos hc] at h; exact h) hrel hS hL rfl rfl) (fun hc => go _ _ _ _ _ _ _ (by rw [if_neg hc] at h; exact h) hrel hS hL rfl rfl)
          · dsimp only at h
            exact lv_icmp_ne hx hb hdg (of_decide_eq_true hck.2) (fun hc => go _ _ _ _ _ _ _ (by rw [if_neg hc] at h; exact h) hrel hS hL rfl rfl) (fun hc => go _ _ _ _ _ _ _ (by rw [if_pos hc] at h; exact h) hrel hS hL rfl rfl)
          · dsimp only at h
            exact lv_icmp_lt hx hb hdg (of_decide_eq_true hck.2) (fun hc => go _ _ _ _ _ _ _ (by rw [if_pos hc] at h; exact h) hrel hS hL rfl rfl) (fun hc => go _ _ _ _ _ _ _ (by rw [if_neg hc] at h; exact h) hrel hS hL rfl rfl)
          · dsimp only at h
            exact lv_icmp_ge hx hb hdg (of_decide_eq_true hck.2) (fun hc => go _ _ _ _ _ _ _ (by rw [if_pos hc] at h; exact h) hrel hS hL rfl rfl) (fun hc => go _ _ _ _ _ _ _ (by rw [if_neg hc] at h; exact h) hrel hS hL rfl rfl)
          · dsimp only at h
            exact lv_icmp_gt hx hb hdg (of_decide_eq_true hck.2) (fun hc => go _ _ _ _ _ _ _ (by rw [if_pos hc] at h; exact h) hrel hS hL rfl rfl) (fun hc => go _ _ _ _ _ _ _ (by rw [if_neg hc] at h; exact h) hrel hS hL rfl rfl)
          · dsimp only at h
            exact lv_icmp_le hx hb hdg (of_decide_eq_true hck.2) (fun hc => go _ _ _ _ _ _ _ (by rw [if_pos hc] at h; exact h) hrel hS hL rfl rfl) (fun hc => go _ _ _ _ _ _ _ (by rw [if_neg hc] at h; exact h) hrel hS hL rfl rfl)
        · cases h
      case tableswitch df lo hi offs =>
        simp only [am_step, am_stepG] at h
        split at h
        · rename_i dd tg
          simp only [am_ckI, Bool.and_eq_true, decide_eq_true_eq] at hck
          obtain ⟨⟨⟨hd, hm⟩, hhi⟩, hall⟩ := hck
          have hlit : ∀ i, i < tg.length → (am_lit (lo + i)).toInt = lo + i := fun i hi => of_decide_eq_true (List.all_eq_true.mp hall i (List.mem_range.mpr hi))
          replace h := am_popi_some h
          obtain ⟨x, t, rfl, h⟩ := h
          rcases am_sw_some h with ⟨i, tt, h1, h2, h3⟩ | ⟨h1, h2⟩
          · have hi := (List.getElem?_eq_some_iff.mp h1).1
            have hx1 : x.toInt = lo + i := by rw [h2]; exact hlit i hi
            have ho := congrArg (fun q => q[i]?) hm
            simp only [List.getElem?_map, h1, Option.map_some] at ho
            cases hq : offs.toList[i]? with
            | none => rw [hq] at ho; cases ho
            | some off =>
              rw [hq] at ho
              have ho2 : ((pc0 : Nat) : Int) + off = Int.ofNat tt := Option.some.inj ho
              exact lv_tableIn hx hb hdg (off := off) (by omega) (by omega) (by rw [hx1, show (lo + (i : Int) - lo).toNat = i by omega, ← Array.getElem?_toList]; exact hq) ho2 (go _ _ _ _ _ _ _ h3 hrel hS hL rfl rfl)
          · refine lv_tableOut hx hb hdg ?_ (of_decide_eq_true hd) (go _ _ _ _ _ _ _ h2 hrel hS hL rfl rfl)
            by_cases hlo2 : x.toInt < lo
            · exact Or.inl hlo2
            · right
              refine Int.not_le.mp (fun hle => ?_)
              have hi : (x.toInt - lo).toNat < tg.length := by omega
              refine h1 _ hi (Int32.toInt_inj.mp ?_)
              rw [hlit _ hi]
              omega
        · cases h
      case getfield ix =>
        simp only [am_step, am_stepG] at h
        split at h
        · rename_i ci j
          simp only [am_ckI, Bool.and_eq_true, decide_eq_true_eq] at hck
          have hlen := am_b hck.1
          subst hlen
          obtain ⟨⟨hci, hj, hcn⟩, hw⟩ := am_FTin hck.2
          replace h := am_getf_some h
          obtain ⟨a, t, fl, rfl, hsh, h⟩ := h
          have h5 := hrel.1.obj hsh
          have he := am_ws_get (ad := am_ad o base) (cid := cid) hsh h5
          have hsame : ∀ x, s.fieldFound? ((am_cls ci).2.1 j).1 ((am_cls ci).2.1 j).2.1 ((am_cls ci).2.1 j).2.2.1 = some x → s.fieldFound? (am_cls ci).1 ((am_cls ci).2.1 j).2.1 ((am_cls ci).2.1 j).2.2.1 = some x := fun x hx => by rw [hcn] at hx; exact hx
          rcases h with ⟨hf, h⟩ | ⟨w, hf, h⟩
          · exact va_get hx hb hts (am_lay ci hci) hown hK hrel.2.1 (a - 5) he (am_cl_at hci) j hj (hts _ hw) hsame (by have := am_fl_none (am_ad o base) μ.2.1 a fl 0 j hf; rw [Nat.zero_add] at this; exact this) hdg (go _ _ _ _ _ _ _ h hrel hS hL rfl rfl)
          · exact va_get hx hb hts (am_lay ci hci) hown hK hrel.2.1 (a - 5) he (am_cl_at hci) j hj (hts _ hw) hsame (am_fl_some _ _ _ _ _ _ _ hf) hdg (go _ _ _ _ _ _ _ h hrel hS hL rfl rfl)
        · cases h
      case putfield ix =>
        simp only [am_step, am_stepG] at h
        split at h
        · rename_i ci j z
          simp only [am_ckI, Bool.and_eq_true, decide_eq_true_eq] at hck
          have hlen := am_b hck.1.1
          subst hlen
          obtain ⟨⟨hci, hj, hcn⟩, hw⟩ := am_FTin hck.1.2
          have hz2 := hck.2
          replace h := am_putf_some h
          obtain ⟨w, a, t, fl, rfl, h5, hsh, h⟩ := h
          have hlt : a < μ.1.length := (List.getElem?_eq_some_iff.mp hsh).1
          have he := am_ws_get (ad := am_ad o base) (cid := cid) hsh h5
          have hsame : ∀ x, s.fieldFound? ((am_cls ci).2.1 j).1 ((am_cls ci).2.1 j).2.1 ((am_cls ci).2.1 j).2.2.1 = some x → s.fieldFound? (am_cls ci).1 ((am_cls ci).2.1 j).2.1 ((am_cls ci).2.1 j).2.2.1 = some x := fun x hx => by rw [hcn] at hx; exact hx
          rcases h with ⟨x, rfl, hfj, h, hzz⟩ | ⟨q, w0, rfl, hfj, rfl, h⟩
          · have hup : ∀ c, c ≠ a → μ.1[c]? = μ.1[c]? ∧ am_upd μ.2.1 a j x c = μ.2.1 c ∧ μ.2.2 c = μ.2.2 c := fun c hc => ⟨rfl, by funext q; simp [am_upd, hc], rfl⟩
            have hnew : (Sum.inr (ci, (am_fl (am_ad o base) μ.2.1 a 0 fl).set j (.int x)) : va_E) = am_cl (am_ad o base) cid (am_upd μ.2.1 a j x) μ.2.2 a (.inr (ci, fl)) := by
              have := am_fl_upd (am_ad o base) μ.2.1 a j x fl 0 (fun _ _ _ => by simpa using hfj) (by simpa using hfj) (Nat.zero_le _)
              simp only [am_cl, this]
              rfl
            have hl3 : j < (am_fl (am_ad o base) μ.2.1 a 0 fl).length := by rw [am_fl_len]; exact (List.getElem?_eq_some_iff.mp hfj).1
            rcases hzz with rfl | ⟨rfl, hx01⟩
            · simp only [Bool.and_eq_true, Bool.not_eq_true', decide_eq_true_eq] at hz2
              exact va_put hx hb hts (am_lay ci hci) (am_tyf ci) (am_typ ci hci) (am_nm ci hci) hown hK hrel.2.1 hD hS (a - 5) he (am_cl_at hci) j hj (hts _ hw) hsame hz2.1 (am_typ ci hci j hj) (by rw [hz2.2]; rfl) (by rw [hz2.2]; rfl) hl3 hdg (fun H1 locs1 hP1 _ hS1 => go _ _ _ _ _ _ _ h (am_relU (μ' := (μ.1, am_upd μ.2.1 a j x, μ.2.2)) hrel h5 hlt hrel.1 rfl hsh hup hnew hP1) hS1 hL rfl rfl)
            · simp only [Bool.and_eq_true, Bool.not_eq_true', decide_eq_true_eq] at hz2
              exact va_put hx hb hts (am_lay ci hci) (am_tyf ci) (am_typ ci hci) (am_nm ci hci) hown hK hrel.2.1 hD hS (a - 5) he (am_cl_at hci) j hj (hts _ hw) hsame hz2.1 (am_typ ci hci j hj) (by rw [hz2.2]; rcases hx01 with rfl | rfl <;> rfl) (by rw [hz2.2]; rcases hx01 with rfl | rfl <;> rfl) hl3 hdg (fun H1 locs1 hP1 _ hS1 => go _ _ _ _ _ _ _ h (am_relU (μ' := (μ.1, am_upd μ.2.1 a j x, μ.2.2)) hrel h5 hlt hrel.1 rfl hsh hup hnew hP1) hS1 hL rfl rfl)
          · simp only [Bool.and_eq_true] at hz2
            obtain ⟨⟨⟨hfin, hco⟩, hin0⟩, hty⟩ := hz2
            have hco := am_b hco
            have hin1 : meth.name = "<init>" := hini (of_decide_eq_true hin0)
            have hl3 : j < (am_fl (am_ad o base) μ.2.1 a 0 fl).length := by rw [am_fl_len]; exact (List.getElem?_eq_some_iff.mp hfj).1
            have hnf : narrow (am_tyf ci j) (.ref (am_ad o base q)) = .ref (am_ad o base q) ∧ fits (am_tyf ci j) (.ref (am_ad o base q)) = true := by
              revert hty
              cases am_tyf ci j <;> intro hty <;> first | (cases hty; done) | exact ⟨rfl, rfl⟩
            have hs2 : (μ.1.set a (.inr (ci, fl.set j (some (.ref q)))))[a]? = some (.inr (ci, fl.set j (some (.ref q)))) := by simp [hlt]
            have hnew : (Sum.inr (ci, (am_fl (am_ad o base) μ.2.1 a 0 fl).set j (.ref (am_ad o base q))) : va_E) = am_cl (am_ad o base) cid μ.2.1 μ.2.2 a (.inr (ci, fl.set j (some (.ref q)))) := by
              have := am_fl_set (am_ad o base) μ.2.1 a j (.ref q) fl 0 ⟨w0, hfj⟩
              simp only [am_cl, this]
              rfl
            exact va_putF hx hb hts (am_lay ci hci) (am_tyf ci) (am_typ ci hci) (am_nm ci hci) hown hK hrel.2.1 hD hS (a - 5) he (am_cl_at hci) j hj (hts _ hw) hsame hfin hin1 (by rw [hcn, ← hco, am_cls_own hci]) (am_typ ci hci j hj) hnf.1 hnf.2 hl3 hdg (fun H1 locs1 hP1 _ hS1 => go _ _ _ _ _ _ _ h (am_relU (μ' := (μ.1.set a (.inr (ci, fl.set j (some (.ref q)))), μ.2)) hrel h5 hlt (hrel.1.set h5 _) (by simp) hs2 (fun c hc => ⟨by rw [List.getElem?_set, if_neg (fun e => hc e.symm)], rfl, rfl⟩) hnew hP1) hS1 hL (by simp) (am_sz_set hsh (by simp [am_ssz])))
        · cases h
      case getstatic ix =>
        simp only [am_step, am_stepG] at h
        split at h
        · rename_i a
          simp only [am_ckI, Bool.and_eq_true, decide_eq_true_eq] at hck
          obtain ⟨⟨⟨hl0, ha1⟩, ha3⟩, hw⟩ := hck
          have hlen := am_b hl0
          subst hlen
          have ha1 := Nat.le_of_ble_eq_true ha1
          have ha3 := Nat.le_of_ble_eq_true ha3
          have hw := am_SP_ok _ _ (am_2in hw)
          have e1 : am_ad o base a = o a := am_ad_old (by omega)
          refine va_gets hx hb (hO.2.1 a ha1 ha3).2 hS hown (hts _ hw) (fun _ q => q) hdg ?_
          rw [← e1]
          exact (go _ _ _ _ _ _ _ h hrel hS hL rfl rfl)
        · cases h
      case ldc2_w ix =>
        simp only [am_step, am_stepG] at h
        split at h
        · rename_i x
          simp only [am_ckI, Bool.and_eq_true, decide_eq_true_eq] at hck
          have hlen := am_b hck.1
          subst hlen
          have hq := am_KT2 hck.2
          exact lv_ldc2 hx hb hown (hts _ hq) hdg (go _ _ _ _ _ _ _ h hrel hS hL rfl rfl)
        · cases h
      case iaload =>
        simp only [am_step, am_stepG] at h
        simp only [am_ckI, Bool.and_eq_true, decide_eq_true_eq] at hck
        have hlen := am_b hck
        subst hlen
        replace h := am_ald_some h
        obtain ⟨i, a, t, ty, sz, rfl, hsh, hty, h, hin⟩ := h
        rcases hrel.1.arr hsh with ⟨h5, ht3⟩ | ⟨rfl, rfl⟩ | ⟨ha1, ha3, rfl, rfl⟩ | ⟨rfl, rfl⟩
        · have h0 : ty = 0 := by
            simp only [Bool.or_eq_true] at hty
            rcases hty with (q | q) | q
            · exact am_b q
            · have := am_b q; omega
            · have := am_b q; omega
          subst h0
          have he := am_ws_get (ad := am_ad o base) (cid := cid) hsh h5
          have hin : vp_in i sz := by
            rcases hin with ⟨q, _⟩ | ⟨_, q⟩
            · omega
            · exact q
          exact va_iald hx hb hK hrel.2.1 (a - 5) 0 he rfl hin hdg (go _ _ _ _ _ _ _ h hrel hS hL rfl rfl)
        · obtain ⟨Ls, hLs, hOL, hX⟩ := hO.1
          have hin : vp_in i Ls := by
            rcases hin with ⟨_, q⟩ | ⟨q, _⟩
            · rw [hrel.2.2 0 4096 (by omega), hOL] at q
              rw [show (Int32.ofNat Ls).toNatClampNeg = Ls from nI_clamp hLs] at q
              exact q
            · exact absurd rfl q
          have h0 := hO.2.2.1 0 (by omega)
          refine va_sld (b := o 0) hx hb hX (Nat.lt_of_lt_of_le h0 hbz) (Nat.not_le.mpr h0) hS hin hdg ?_
          rw [← hrel.2.2 0 _ (by omega)]
          exact (go _ _ _ _ _ _ _ h hrel hS hL rfl rfl)
        · have hin : vp_in i 3 := by
            rcases hin with ⟨q, _⟩ | ⟨_, q⟩
            · omega
            · exact q
          have h0 := hO.2.2.1 a (by omega)
          have e1 : am_ad o base a = o a := am_ad_old (by omega)
          show W p l e R s m args below meth c H locs cells slots Q (F0 m pc0 ls (.int i :: .ref (am_ad o base a) :: t.map (am_val (am_ad o base))))
          rw [e1]
          refine va_ti hx hb (hO.2.1 a ha1 ha3).1 hS hin rfl hdg ?_
          rw [← hrel.2.2 a _ (by omega)]
          exact (go _ _ _ _ _ _ _ h hrel hS hL rfl rfl)
        · cases hty
      case baload =>
        simp only [am_step, am_stepG] at h
        simp only [am_ckI, Bool.and_eq_true, decide_eq_true_eq] at hck
        have hlen := am_b hck
        subst hlen
        replace h := am_ald_some h
        obtain ⟨i, a, t, ty, sz, rfl, hsh, hty, h, hin⟩ := h
        rcases hrel.1.arr hsh with ⟨h5, ht3⟩ | ⟨rfl, rfl⟩ | ⟨ha1, ha3, rfl, rfl⟩ | ⟨rfl, rfl⟩
        rotate_left
        · cases hty
        · cases hty
        · cases hty
        · have he := am_ws_get (ad := am_ad o base) (cid := cid) hsh h5
          have hin2 : vp_in i sz := by
            rcases hin with ⟨q, _⟩ | ⟨_, q⟩
            · omega
            · exact q
          simp only [Bool.or_eq_true] at hty
          rcases hty with q | q
          · have h1 := am_b q
            subst h1
            exact va_bald hx hb hK hrel.2.1 (a - 5) 1 he rfl hin2 hdg (go _ _ _ _ _ _ _ h hrel hS hL rfl rfl)
          · have h1 := am_b q
            subst h1
            exact va_zald hx hb hK hrel.2.1 (a - 5) 2 he rfl hin2 hdg (go _ _ _ _ _ _ _ h hrel hS hL rfl rfl)
      case laload =>
        simp only [am_step, am_stepG] at h
        simp only [am_ckI, Bool.and_eq_true, decide_eq_true_eq] at hck
        have hlen := am_b hck
        subst hlen
        replace h := am_ald_some h
        obtain ⟨i, a, t, ty, sz, rfl, hsh, hty, h, hin⟩ := h
        have h1 := am_b hty
        subst h1
        rcases hrel.1.arr hsh with ⟨h5, ht3⟩ | ⟨_, q⟩ | ⟨_, _, q, _⟩ | ⟨_, q⟩
        · have he := am_ws_get (ad := am_ad o base) (cid := cid) hsh h5
          have hin : vp_in i sz := by
            rcases hin with ⟨q, _⟩ | ⟨_, q⟩
            · omega
            · exact q
          exact va_lald hx hb hK hrel.2.1 (a - 5) 3 he rfl hin hdg (go _ _ _ _ _ _ _ h hrel hS hL rfl rfl)
        all_goals omega
      case iastore =>
        simp only [am_step, am_stepG] at h
        simp only [am_ckI, Bool.and_eq_true, decide_eq_true_eq] at hck
        have hlen := am_b hck
        subst hlen
        replace h := am_ast_some h
        obtain ⟨x, i, a, t, ty, sz, rfl, hsh, hin, h⟩ := h
        split at h
        · rename_i hty
          subst hty
          rcases hrel.1.arr hsh with ⟨h5, ht3⟩ | ⟨_, q⟩ | ⟨_, _, q, _⟩ | ⟨_, q⟩
          · have hlt : a < μ.1.length := (List.getElem?_eq_some_iff.mp hsh).1
            have he := am_ws_get (ad := am_ad o base) (cid := cid) hsh h5
            have hup : ∀ c, c ≠ a → μ.1[c]? = μ.1[c]? ∧ am_upd μ.2.1 a i.toNatClampNeg x c = μ.2.1 c ∧ μ.2.2 c = μ.2.2 c := fun c hc => ⟨rfl, by funext q; simp [am_upd, hc], rfl⟩
            exact va_iast hx hb hK hrel.2.1 hD hS (a - 5) 0 he rfl hin hdg (fun H1 locs1 hP1 _ hS1 => go _ _ _ _ _ _ _ h (am_relU (μ' := (μ.1, am_upd μ.2.1 a i.toNatClampNeg x, μ.2.2)) hrel h5 hlt hrel.1 rfl hsh hup (by simp only [am_cl]; congr 4; funext q; simp [am_upd, upd]) hP1) hS1 hL rfl rfl)
          all_goals omega
        · cases h
      case bastore =>
        simp only [am_step, am_stepG] at h
        simp only [am_ckI, Bool.and_eq_true, decide_eq_true_eq] at hck
        have hlen := am_b hck
        subst hlen
        replace h := am_ast_some h
        obtain ⟨x, i, a, t, ty, sz, rfl, hsh, hin, h⟩ := h
        rcases hrel.1.arr hsh with ⟨h5, ht3⟩ | ⟨_, q⟩ | ⟨_, _, q, _⟩ | ⟨_, q⟩
        rotate_left
        · subst q; cases h
        · subst q; cases h
        · subst q; cases h
        · have hlt : a < μ.1.length := (List.getElem?_eq_some_iff.mp hsh).1
          have he := am_ws_get (ad := am_ad o base) (cid := cid) hsh h5
          split at h
          · rename_i hty
            subst hty
            have hup : ∀ c, c ≠ a → μ.1[c]? = μ.1[c]? ∧ am_upd μ.2.1 a i.toNatClampNeg x.toInt8.toInt32 c = μ.2.1 c ∧ μ.2.2 c = μ.2.2 c := fun c hc => ⟨rfl, by funext q; simp [am_upd, hc], rfl⟩
            exact va_bast hx hb hK hrel.2.1 hD hS (a - 5) 1 he rfl hin hdg (fun H1 locs1 hP1 _ hS1 => go _ _ _ _ _ _ _ h (am_relU (μ' := (μ.1, am_upd μ.2.1 a i.toNatClampNeg x.toInt8.toInt32, μ.2.2)) hrel h5 hlt hrel.1 rfl hsh hup (by simp only [am_cl]; congr 4; funext q; simp [am_upd, upd, vp_nar_byte]) hP1) hS1 hL rfl rfl)
          · split at h
            · rename_i hty
              subst hty
              replace h := am_b01_some h
              obtain ⟨hx01, h⟩ := h
              have hup : ∀ c, c ≠ a → μ.1[c]? = μ.1[c]? ∧ am_upd μ.2.1 a i.toNatClampNeg x c = μ.2.1 c ∧ μ.2.2 c = μ.2.2 c := fun c hc => ⟨rfl, by funext q; simp [am_upd, hc], rfl⟩
              have hnx : vp_nar .boolean x = x := by rcases hx01 with rfl | rfl <;> rfl
              exact va_zast hx hb hK hrel.2.1 hD hS (a - 5) 2 he rfl hin hdg (fun H1 locs1 hP1 _ hS1 => go _ _ _ _ _ _ _ h (am_relU (μ' := (μ.1, am_upd μ.2.1 a i.toNatClampNeg x, μ.2.2)) hrel h5 hlt hrel.1 rfl hsh hup (by simp only [am_cl]; congr 4; funext q; simp [am_upd, upd, hnx]) hP1) hS1 hL rfl rfl)
            · cases h
      case lastore =>
        simp only [am_step, am_stepG] at h
        simp only [am_ckI, Bool.and_eq_true, decide_eq_true_eq] at hck
        have hlen := am_b hck
        subst hlen
        replace h := am_astl_some h
        obtain ⟨x, i, a, t, ty, sz, rfl, hsh, hin, h⟩ := h
        split at h
        · rename_i hty
          subst hty
          rcases hrel.1.arr hsh with ⟨h5, ht3⟩ | ⟨_, q⟩ | ⟨_, _, q, _⟩ | ⟨_, q⟩
          · have hlt : a < μ.1.length := (List.getElem?_eq_some_iff.mp hsh).1
            have he := am_ws_get (ad := am_ad o base) (cid := cid) hsh h5
            have hup : ∀ c, c ≠ a → μ.1[c]? = μ.1[c]? ∧ μ.2.1 c = μ.2.1 c ∧ am_updJ μ.2.2 a i.toNatClampNeg x c = μ.2.2 c := fun c hc => ⟨rfl, rfl, by funext q; simp [am_updJ, hc]⟩
            exact va_last hx hb hK hrel.2.1 hD hS (a - 5) 3 he rfl hin hdg (fun H1 locs1 hP1 _ hS1 => go _ _ _ _ _ _ _ h (am_relU (μ' := (μ.1, μ.2.1, am_updJ μ.2.2 a i.toNatClampNeg x)) hrel h5 hlt hrel.1 rfl hsh hup (by simp only [am_cl]; congr 5; funext q; simp [am_updJ, vp_updL]) hP1) hS1 hL rfl rfl)
          all_goals omega
        · cases h
      case arraylength =>
        simp only [am_step, am_stepG] at h
        simp only [am_ckI, Bool.and_eq_true, decide_eq_true_eq] at hck
        have hlen := am_b hck
        subst hlen
        unfold am_len at h
        split at h
        · rename_i a t
          replace h := am_arr_some h
          obtain ⟨ty, sz, hsh, h⟩ := h
          rcases hrel.1.arr hsh with ⟨h5, ht3⟩ | ⟨rfl, rfl⟩ | ⟨_, _, rfl, _⟩ | ⟨_, rfl⟩
          · split at h
            · rename_i hb2
              have := am_b hb2
              omega
            · split at h
              · rename_i hb2
                have h0 := am_b hb2
                subst h0
                have he := am_ws_get (ad := am_ad o base) (cid := cid) hsh h5
                exact va_alen hx hb hK hrel.2.1 (a - 5) 0 he rfl rfl hdg (go _ _ _ _ _ _ _ h hrel hS hL rfl rfl)
              · cases h
          · obtain ⟨Ls, hLs, hOL, hX⟩ := hO.1
            have h0 := hO.2.2.1 0 (by omega)
            refine va_slen (b := o 0) hx hb hX (Nat.lt_of_lt_of_le h0 hbz) (Nat.not_le.mpr h0) hS hdg ?_
            rw [← hOL, ← hrel.2.2 0 _ (by omega)]
            exact (go _ _ _ _ _ _ _ h hrel hS hL rfl rfl)
          · cases h
          · cases h
        · cases h
      case ireturn =>
        simp only [am_step, am_stepG] at h
        simp only [am_ckI, Bool.and_eq_true, decide_eq_true_eq] at hck
        have hlen := am_b hck
        subst hlen
        split at h
        · split at h
          · rename_i hrt
            cases h
            have e1 : cells = tc := by simpa using htc
            have e2 : slots = ts := by simpa using hts'
            subst e1
            subst e2
            exact hret pc0 H locs ls (Or.inl ⟨_, rfl, hdg, Or.inl hrt⟩) hrel hS
          · rename_i hrt
            replace h := am_b01_some h
            obtain ⟨hx01, h⟩ := h
            cases h
            have e1 : cells = tc := by simpa using htc
            have e2 : slots = ts := by simpa using hts'
            subst e1
            subst e2
            exact hret pc0 H locs ls (Or.inl ⟨_, rfl, hdg, Or.inr ⟨hrt, hx01⟩⟩) hrel hS
          · cases h
        · cases h
      case lreturn =>
        simp only [am_step, am_stepG] at h
        simp only [am_ckI, Bool.and_eq_true, decide_eq_true_eq] at hck
        have hlen := am_b hck
        subst hlen
        split at h
        · split at h
          · rename_i hrt
            cases h
            have e1 : cells = tc := by simpa using htc
            have e2 : slots = ts := by simpa using hts'
            subst e1
            subst e2
            exact hret pc0 H locs ls (Or.inr (Or.inl ⟨_, rfl, hdg, hrt⟩)) hrel hS
          · cases h
        · cases h
      case return_ =>
        simp only [am_step, am_stepG] at h
        simp only [am_ckI, Bool.and_eq_true, decide_eq_true_eq] at hck
        have hlen := am_b hck
        subst hlen
        split at h
        · split at h
          · rename_i hrt
            cases h
            have e1 : cells = tc := by simpa using htc
            have e2 : slots = ts := by simpa using hts'
            subst e1
            subst e2
            exact hret pc0 H locs ls (Or.inr (Or.inr ⟨rfl, hdg, hrt⟩)) hrel hS
          · cases h
        · cases h
      case ldc ix =>
        simp only [am_step, am_stepG] at h
        split at h
        · rename_i x
          simp only [am_ckI, Bool.and_eq_true, decide_eq_true_eq] at hck
          have hlen := am_b hck.1
          subst hlen
          exact lv_ldc hx hb hown (hts _ (am_KTin hck.2)) hdg (go _ _ _ _ _ _ _ h hrel hS hL rfl rfl)
        · rename_i x
          simp only [am_ckI, Bool.and_eq_true, decide_eq_true_eq] at hck
          have hlen := am_b hck.1
          subst hlen
          exact lv_ldc hx hb hown (hts _ (am_KTin hck.2)) hdg (go _ _ _ _ _ _ _ h hrel hS hL rfl rfl)
        · rename_i a
          simp only [am_ckI, Bool.and_eq_true, decide_eq_true_eq] at hck
          obtain ⟨⟨⟨hl0, h7⟩, h68⟩, h4⟩ := hck
          have hlen := am_b hl0
          subst hlen
          have hix := am_b h68
          subst hix
          have h4 := am_b h4
          subst h4
          have how : am_own (am_mi k).1 = "OneClock$Tape" := by rw [am_b h7]; rfl
          rw [how] at hown
          exact va_ldcS hx hb hown hO.2.2.2.1.1 hdg (go _ _ _ _ _ _ _ h hrel hS hL rfl rfl)
        · cases h
      case ldc_w ix =>
        simp only [am_step, am_stepG] at h
        split at h
        · rename_i x
          simp only [am_ckI, Bool.and_eq_true, decide_eq_true_eq] at hck
          have hlen := am_b hck.1
          subst hlen
          exact lv_ldcw hx hb hown (hts _ (am_KTin hck.2)) hdg (go _ _ _ _ _ _ _ h hrel hS hL rfl rfl)
        · rename_i x
          simp only [am_ckI, Bool.and_eq_true, decide_eq_true_eq] at hck
          have hlen := am_b hck.1
          subst hlen
          exact lv_ldcw hx hb hown (hts _ (am_KTin hck.2)) hdg (go _ _ _ _ _ _ _ h hrel hS hL rfl rfl)
        · cases h
      case newarray at0 =>
        simp only [am_step, am_stepG] at h
        simp only [am_ckI, Bool.and_eq_true] at hck
        have hlen := am_b hck.1
        subst hlen
        have h5 := hrel.1.len
        split at h
        · rename_i y hy
          replace h := am_popi_some h
          obtain ⟨nn, t, rfl, h⟩ := h
          split at h
          · cases h
          · rename_i hn
            simp only [not_or, Nat.not_lt] at hn
            obtain ⟨hn1, hn2⟩ := hn
            have hg2 := am_run_grow _ _ _ _ _ _ _ _ _ h
            simp only [List.length_append, List.length_cons, List.length_nil, am_sz_push, am_ssz] at hg2
            have fin : ∀ (q : Nat) (cA : ClassId) (H1 : Heap) (x : vp_A), cA = cid y → ((cA, x) : ClassId × vp_A) = (match am_cl (am_ad o base) cid (am_zero μ.2.1 μ.1.length) (am_zeroJ μ.2.2 μ.1.length) μ.1.length (.inl (y, nn.toNatClampNeg)) with | .inl z => z | .inr _ => (cA, x)) → va_P D vwCl (am_ws (am_ad o base) cid μ ++ [(q, .inl (cA, x))]) H1 → va_D (am_A base) (am_ws (am_ad o base) cid μ ++ [(q, .inl (cA, x))]) → va_S (am_A base) s.heap H1 locs → y ≤ 3 → W p l e R s m args below meth c H1 locs (cells + 1) (slots + nn.toNatClampNeg) Q (F0 m (pc0 + 2) ls (.ref q :: t.map (am_val (am_ad o base)))) := by
              intro q cA H1 x hcA hcx hP1 hD1 hS1 hy3
              refine am_sizeW (fun hsz1 => ?_)
              have hq := am_newq h5 hP1 hD1 (by omega)
              subst hq
              have hP2 : va_P D vwCl (am_ws (am_ad o base) cid (μ.1 ++ [.inl (y, nn.toNatClampNeg)], am_zero μ.2.1 μ.1.length, am_zeroJ μ.2.2 μ.1.length)) H1 := by
                rw [am_ws_push (μ := μ) (s := .inl (y, nn.toNatClampNeg)) h5 rfl (fun c hc => ⟨by funext k; simp [am_zero, hc], by funext k; simp [am_zeroJ, hc]⟩)]
                have e0 : (Sum.inl (cA, x) : va_E) = am_cl (am_ad o base) cid (am_zero μ.2.1 μ.1.length) (am_zeroJ μ.2.2 μ.1.length) μ.1.length (.inl (y, nn.toNatClampNeg)) := by rw [hcx]; rfl
                rw [← e0]
                exact hP1
              exact ih p e R s m args below meth c k d _ _ _ _ v μf H1 locs _ _ Q ls tc ts hk hctx0 h ⟨hrel.1.push (fun t n e => by cases e; exact hy3), hP2, fun c k hc => by simp only [am_zero]; rw [if_neg (by omega)]; exact hrel.2.2 c k hc⟩ hS1 hL (by simp only [List.length_append, List.length_cons, List.length_nil]; omega) (by simp only [am_sz_push, am_ssz]; omega) (by simp only [List.length_append, List.length_cons, List.length_nil]; omega) hret
            have hc1 : cells + 1 ≤ R.cells := by omega
            have hs1 : slots + nn.toNatClampNeg ≤ R.slots := by omega
            cases at0
            all_goals first | (cases hy; done) | skip
            case boolean =>
              cases hy
              refine va_newa (atype := .boolean) (ty := .boolean) (N' := nn.toNatClampNeg) (a0 := (nn.toNatClampNeg, .inl (fun _ => 0))) hx hb (hts _ am_bw14) rfl hK hrel.2.1 hD hS hA (fun _ => rfl) hn1 rfl (by simp only [componentBytes]; omega) hc1 hs1 hdg (fun q cA H1 hK1 hP1 hD1 hS1 => ?_)
              have e1 := (hK1.2 4 (cA, .boolean) rfl).2
              have e2 := (hK.2 2 (cid 2, .boolean) rfl).2
              have e3 : cA = cid 2 := Option.some.inj (e1.symm.trans e2)
              refine fin q cA H1 _ e3 ?_ hP1 hD1 hS1 (by omega)
              rw [e3]
              simp only [am_cl]
              exact congrArg (fun f => ((cid 2, (nn.toNatClampNeg, f)) : ClassId × vp_A)) (by first | (refine congrArg Sum.inl ?_; funext k; simp [am_zero]; done) | (refine congrArg Sum.inr (congrArg Sum.inl ?_); funext k; simp [am_zeroJ]; done))
            case byte =>
              cases hy
              refine va_newa (atype := .byte) (ty := .byte) (N' := nn.toNatClampNeg) (a0 := (nn.toNatClampNeg, .inl (fun _ => 0))) hx hb (hts _ am_bw13) rfl hK hrel.2.1 hD hS hA (fun _ => rfl) hn1 rfl (by simp only [componentBytes]; omega) hc1 hs1 hdg (fun q cA H1 hK1 hP1 hD1 hS1 => ?_)
              have e1 := (hK1.2 4 (cA, .byte) rfl).2
              have e2 := (hK.2 1 (cid 1, .byte) rfl).2
              have e3 : cA = cid 1 := Option.some.inj (e1.symm.trans e2)
              refine fin q cA H1 _ e3 ?_ hP1 hD1 hS1 (by omega)
              rw [e3]
              simp only [am_cl]
              exact congrArg (fun f => ((cid 1, (nn.toNatClampNeg, f)) : ClassId × vp_A)) (by first | (refine congrArg Sum.inl ?_; funext k; simp [am_zero]; done) | (refine congrArg Sum.inr (congrArg Sum.inl ?_); funext k; simp [am_zeroJ]; done))
            case int =>
              cases hy
              refine va_newa (atype := .int) (ty := .int) (N' := nn.toNatClampNeg) (a0 := (nn.toNatClampNeg, .inl (fun _ => 0))) hx hb (hts _ am_bw12) rfl hK hrel.2.1 hD hS hA (fun _ => rfl) hn1 rfl (by simp only [componentBytes]; omega) hc1 hs1 hdg (fun q cA H1 hK1 hP1 hD1 hS1 => ?_)
              have e1 := (hK1.2 4 (cA, .int) rfl).2
              have e2 := (hK.2 0 (cid 0, .int) rfl).2
              have e3 : cA = cid 0 := Option.some.inj (e1.symm.trans e2)
              refine fin q cA H1 _ e3 ?_ hP1 hD1 hS1 (by omega)
              rw [e3]
              simp only [am_cl]
              exact congrArg (fun f => ((cid 0, (nn.toNatClampNeg, f)) : ClassId × vp_A)) (by first | (refine congrArg Sum.inl ?_; funext k; simp [am_zero]; done) | (refine congrArg Sum.inr (congrArg Sum.inl ?_); funext k; simp [am_zeroJ]; done))
            case long =>
              cases hy
              refine va_newa (atype := .long) (ty := .long) (N' := nn.toNatClampNeg) (a0 := (nn.toNatClampNeg, .inr (.inl (fun _ => 0)))) hx hb (hts _ am_bw15) rfl hK hrel.2.1 hD hS hA (fun _ => rfl) hn1 rfl (by simp only [componentBytes]; omega) hc1 hs1 hdg (fun q cA H1 hK1 hP1 hD1 hS1 => ?_)
              have e1 := (hK1.2 4 (cA, .long) rfl).2
              have e2 := (hK.2 3 (cid 3, .long) rfl).2
              have e3 : cA = cid 3 := Option.some.inj (e1.symm.trans e2)
              refine fin q cA H1 _ e3 ?_ hP1 hD1 hS1 (by omega)
              rw [e3]
              simp only [am_cl]
              exact congrArg (fun f => ((cid 3, (nn.toNatClampNeg, f)) : ClassId × vp_A)) (by first | (refine congrArg Sum.inl ?_; funext k; simp [am_zero]; done) | (refine congrArg Sum.inr (congrArg Sum.inl ?_); funext k; simp [am_zeroJ]; done))
        · cases h
      case new ix =>
        simp only [am_step, am_stepG] at h
        split at h
        · rename_i ci bs
          simp only [am_ckI, Bool.and_eq_true] at hck
          obtain ⟨⟨⟨hl0, hnt⟩, hbl⟩, hdf⟩ := hck
          have hlen := am_b hl0
          subst hlen
          have hbl := am_b hbl
          obtain ⟨hci, hcw⟩ := am_NT_ok _ _ (am_2in hnt)
          simp only at hci hcw
          have h5 := hrel.1.len
          have hg2 := am_run_grow _ _ _ _ _ _ _ _ _ h
          simp only [List.length_append, List.length_cons, List.length_nil, am_sz_push, am_ssz, am_born, List.length_map] at hg2
          have hfs : ∀ j, j < (am_cls ci).2.2 → defaultValue (am_tyf ci j) = vp_V (am_fl (am_ad o base) (am_zero μ.2.1 μ.1.length) μ.1.length 0 (am_born (bs.map fun b => b == 1))) j := by
            intro j hj
            have h1 := of_decide_eq_true (List.all_eq_true.mp hdf j (List.mem_range.mpr (by omega)))
            rw [h1]
            have e2 : ∀ (l : List Value) (w : Value), l[j]? = some w → vp_V l j = w := fun l w hw => by unfold vp_V; rw [List.getD_eq_getElem?_getD, hw]; rfl
            have hb1 : bs[j]? = some (bs.getD j 0) := by rw [List.getD_eq_getElem?_getD, List.getElem?_eq_getElem (by omega)]; rfl
            by_cases hq : (bs.getD j 0 == 1) = true
            · rw [if_pos hq]
              exact (e2 _ _ (am_fl_some _ _ _ _ _ _ .null (by simp only [am_born, List.getElem?_map, hb1, Option.map_some, hq, if_true]))).symm
            · rw [if_neg hq]
              have e3 := am_fl_none (am_ad o base) (am_zero μ.2.1 μ.1.length) μ.1.length (am_born (bs.map fun b => b == 1)) 0 j (by simp only [am_born, List.getElem?_map, hb1, Option.map_some]; rw [if_neg hq])
              rw [e2 _ _ e3]
              simp [am_zero]
          refine va_new hx hb hts (am_lay ci hci) (am_tyf ci) (am_typ ci hci) hown (hts _ hcw) (hts _ (am_ini ci hci).2) (hts _ (am_ini ci hci).1) hK hrel.2.1 hD hS hA (am_cl_at hci) hfs (by omega) (by omega) hdg (fun q H1 hP1 hD1 hS1 => am_sizeW (fun hsz1 => ?_))
          have hq := am_newq h5 hP1 hD1 (by omega)
          subst hq
          have hP2 : va_P D vwCl (am_ws (am_ad o base) cid (μ.1 ++ [.inr (ci, am_born (bs.map fun b => b == 1))], am_zero μ.2.1 μ.1.length, am_zeroJ μ.2.2 μ.1.length)) H1 := by
            rw [am_ws_push (μ := μ) (s := .inr (ci, am_born (bs.map fun b => b == 1))) h5 rfl (fun c hc => ⟨by funext k; simp [am_zero, hc], by funext k; simp [am_zeroJ, hc]⟩)]
            exact hP1
          have hbl2 : (am_born (bs.map fun b => b == 1)).length = (am_cls ci).2.2 := by simp only [am_born, List.length_map]; exact hbl
          exact ih p e R s m args below meth c k d _ _ _ _ v μf H1 locs _ _ Q ls tc ts hk hctx0 h ⟨hrel.1.push (fun t n e => by cases e), hP2, fun c k hc => by simp only [am_zero]; rw [if_neg (by omega)]; exact hrel.2.2 c k hc⟩ hS1 hL (by simp only [List.length_append, List.length_cons, List.length_nil]; omega) (by simp only [am_sz_push, am_ssz, hbl2]; omega) (by simp only [List.length_append, List.length_cons, List.length_nil]; omega) hret
        · cases h
      case invokevirtual ix =>
        simp only [am_step, am_stepG] at h
        split at h
        · rename_i b0
          simp only [am_ckI, Bool.and_eq_true, decide_eq_true_eq] at hck
          obtain ⟨⟨hl0, hb5⟩, hbt⟩ := hck
          have hlen := am_b hl0
          subst hlen
          have hb5 := am_b hb5
          subst hb5
          have hw := am_BT_ok _ _ (am_2in hbt)
          simp only [am_blt] at h
          split at h
          · rename_i i a t
            split at h
            · rename_i hc4
              obtain ⟨rfl, hc8⟩ := hc4
              replace h := am_at_some h
              obtain ⟨hin, h⟩ := h
              refine am_charW (o := o) hctx0 hS hsz hin (hcat t hc8) (hts _ hw) hcells hslots hdg (fun locs1 H1 hz1 hk1 hS1 => ?_)
              rw [← hrel.2.2 4 _ (by omega)]
              exact go _ _ _ _ _ _ _ h ⟨hrel.1, hrel.2.1.kept (fun k q hq => hk1 _ (hrel.2.1 k q hq).lt), hrel.2.2⟩ hS1 hL rfl rfl
            · cases h
          · cases h
        · rename_i y n0 ci
          simp only [am_ckI, Bool.and_eq_true, decide_eq_true_eq] at hck
          obtain ⟨⟨⟨⟨⟨⟨⟨⟨hl0, hct⟩, hy0⟩, hyl⟩, hst⟩, hci0⟩, hci⟩, hpar⟩, hnin⟩ := hck
          have hlen := am_b hl0
          subst hlen
          have hci0 := am_b hci0
          have hci := am_lt2 hci
          have hyl : y ≠ 227 := fun e => by subst e; cases hyl
          have hst : am_sta y = false := by simpa using hst
          have hw := am_CT_ok _ _ (am_2in hct)
          split at h
          · rename_i a t hdrop
            replace h := am_obj_some h
            obtain ⟨fl, hsh, h⟩ := h
            split at h
            · rename_i hcat8
              have hwl := hrel.1.len
              replace h := am_call_some h
              obtain ⟨d1, v1, μ1, hy, hlev, ha, h1, h2⟩ := h
              have hM := am_met ih hy hyl h1 ha
              have hg1 := am_run_grow _ _ _ _ _ _ _ _ _ h1
              have hg2 := am_run_grow _ _ _ _ _ _ _ _ _ h2
              obtain ⟨y1, y2, y3, y4, y5, y6, y7⟩ := am_yok_ok hy hyl
              have hR : (am_rm y d1 (μ1.1.length - μ.1.length) (am_sz μ1.1 - am_sz μ.1)).frames + 1 ≤ R.frames ∧ 8 + (am_nl y + 11) + (am_rm y d1 (μ1.1.length - μ.1.length) (am_sz μ1.1 - am_sz μ.1)).locals ≤ R.locals := by
                have h20 := (am_ckM_ok hy).2.2
                simp only [am_rm, am_fr, am_lo, am_nl] at hfr hlo h20 ⊢
                omega
              have hGi : GoodIn am_W (am_ws1 y) := fun w hw => by
                rcases List.mem_cons.mp hw with e0 | hw
                · rw [e0]; exact am_Wg _ y1
                · exact am_Wg _ hw
              refine am_sizeW (fun hsz1 => ?_)
              have hPre : ∀ U : State, U.heap = H → s.WarmedH U.vm → am_Pc D cid o base vb OI (.ref a :: (S.take n0).reverse) μ ((.ref a :: (S.take n0).reverse).map (am_val (am_ad o base))).toArray U := fun U hU hW => ⟨rfl, by rw [hU]; exact Nat.le_trans hbz hS.1, by rw [hU]; have := am_low hrel (Nat.le_trans hbz hS.1); omega, by rw [hU]; exact hrel, va_K.moved hW.alike hK, by rw [hU]; exact hO.next hW hS hbz⟩
              have hbl : FrameBlind (am_Pc D cid o base vb OI (.ref a :: (S.take n0).reverse) μ) := fun a U g mk ⟨q1, q2, q3, q4, q5, q6⟩ => ⟨q1, q2, q3, q4, va_K.moved (u := U) (U := U.calling g mk a) (Vm.Alike.refl U.vm) q5, q6.blind g mk a⟩
              have h5 := hrel.1.obj hsh
              have he := am_ws_get (ad := am_ad o base) (cid := cid) hsh h5
              have hnl : n0 < S.length := by
                have := congrArg List.length hdrop
                simp only [List.length_drop, List.length_cons] at this
                omega
              have hstk : S.map (am_val (am_ad o base)) = ((S.take n0).reverse.map (am_val (am_ad o base))).reverse ++ .ref (am_ad o base a) :: t.map (am_val (am_ad o base)) := by
                conv => lhs; rw [← List.take_append_drop n0 S, hdrop]
                simp [am_val]
              have hnlen : ((S.take n0).reverse.map (am_val (am_ad o base))).length = n0 := by simp; omega
              have hcl : (am_yn y).cls = (am_cls ci).1 := by rw [y7, ← hci0, am_cls_own hci]
              obtain ⟨z1, z2⟩ := y3 hst
              have z2 := z2.resolve_left hnin
              have hrec := va_recv hK hrel.2.1 (am_cl_at hci) he
              refine am_after (va_runV (C := (am_yn y).cls) (As := (S.take n0).reverse.map (am_val (am_ad o base))) ⟨hx, hb, hml, hown, hts⟩ hM ⟨callB_of n0 hts hGi rfl rfl rfl (hts _ y2) (hts _ hw) ⟨y6.1, y6.2, hpar⟩ hR, hts _ z1, hts _ z2⟩ ⟨hbl, by rw [hcl]; exact hrec, hPre⟩ rfl hnlen hL.2.1 hstk (lv_room (hcat t hcat8)) hdg ⟨by omega, by omega⟩) hS (fun H1 locs1 hrel1 hS1 => ih p e R s m args below meth c k d _ _ _ _ v μf H1 locs1 _ _ Q ls tc ts hk hctx0 h2 hrel1 hS1 hL (by omega) (by omega) (by omega) hret)
            · cases h
          · cases h
        · cases h
      case invokespecial ix =>
        simp only [am_step, am_stepG] at h
        split at h
        · rename_i b0
          simp only [am_ckI, Bool.and_eq_true, decide_eq_true_eq] at hck
          obtain ⟨⟨hl0, hb5⟩, hbt⟩ := hck
          have hlen := am_b hl0
          subst hlen
          have hb5 := am_b hb5
          subst hb5
          have hw := am_BT_ok _ _ (am_2in hbt)
          simp only [am_blt] at h
          split at h
          · rename_i a t
            split at h
            · rename_i hc8
              exact W.objInit hx hb hown (hts _ hw) (hts _ am_bw0) (hts _ am_bw1) rfl hsz.symm rfl hdg hrd.1 (by have := hcat t hc8; show 2 * 0 + _ + 12 ≤ _; omega) (go _ _ _ _ _ _ _ h hrel hS hL rfl rfl)
            · cases h
          · cases h
        · rename_i y n0 ci
          simp only [am_ckI, Bool.and_eq_true, decide_eq_true_eq] at hck
          obtain ⟨⟨⟨⟨⟨⟨⟨⟨⟨hl0, hct⟩, hy0⟩, hyl⟩, hst⟩, hci0⟩, hci⟩, hpar⟩, hnin⟩, hrn⟩ := hck
          have hlen := am_b hl0
          subst hlen
          have hci0 := am_b hci0
          have hci := am_lt2 hci
          have hyl : y ≠ 227 := fun e => by subst e; cases hyl
          have hst : am_sta y = false := by simpa using hst
          split at h
          · rename_i a t hdrop
            replace h := am_obj_some h
            obtain ⟨fl, hsh, h⟩ := h
            split at h
            · rename_i hcat8
              have hwl := hrel.1.len
              replace h := am_call_some h
              obtain ⟨d1, v1, μ1, hy, hlev, ha, h1, h2⟩ := h
              have hM := am_met ih hy hyl h1 ha
              have hg1 := am_run_grow _ _ _ _ _ _ _ _ _ h1
              have hg2 := am_run_grow _ _ _ _ _ _ _ _ _ h2
              obtain ⟨y1, y2, y3, y4, y5, y6, y7⟩ := am_yok_ok hy hyl
              have hR : (am_rm y d1 (μ1.1.length - μ.1.length) (am_sz μ1.1 - am_sz μ.1)).frames + 1 ≤ R.frames ∧ 8 + (am_nl y + 11) + (am_rm y d1 (μ1.1.length - μ.1.length) (am_sz μ1.1 - am_sz μ.1)).locals ≤ R.locals := by
                have h20 := (am_ckM_ok hy).2.2
                simp only [am_rm, am_fr, am_lo, am_nl] at hfr hlo h20 ⊢
                omega
              have hGi : GoodIn am_W (am_ws1 y) := fun w hw => by
                rcases List.mem_cons.mp hw with e0 | hw
                · rw [e0]; exact am_Wg _ y1
                · exact am_Wg _ hw
              refine am_sizeW (fun hsz1 => ?_)
              have hPre : ∀ U : State, U.heap = H → s.WarmedH U.vm → am_Pc D cid o base vb OI (.ref a :: (S.take n0).reverse) μ ((.ref a :: (S.take n0).reverse).map (am_val (am_ad o base))).toArray U := fun U hU hW => ⟨rfl, by rw [hU]; exact Nat.le_trans hbz hS.1, by rw [hU]; have := am_low hrel (Nat.le_trans hbz hS.1); omega, by rw [hU]; exact hrel, va_K.moved hW.alike hK, by rw [hU]; exact hO.next hW hS hbz⟩
              have hbl : FrameBlind (am_Pc D cid o base vb OI (.ref a :: (S.take n0).reverse) μ) := fun a U g mk ⟨q1, q2, q3, q4, q5, q6⟩ => ⟨q1, q2, q3, q4, va_K.moved (u := U) (U := U.calling g mk a) (Vm.Alike.refl U.vm) q5, q6.blind g mk a⟩
              have h5 := hrel.1.obj hsh
              have he := am_ws_get (ad := am_ad o base) (cid := cid) hsh h5
              have hnl : n0 < S.length := by
                have := congrArg List.length hdrop
                simp only [List.length_drop, List.length_cons] at this
                omega
              have hstk : S.map (am_val (am_ad o base)) = ((S.take n0).reverse.map (am_val (am_ad o base))).reverse ++ .ref (am_ad o base a) :: t.map (am_val (am_ad o base)) := by
                conv => lhs; rw [← List.take_append_drop n0 S, hdrop]
                simp [am_val]
              have hnlen : ((S.take n0).reverse.map (am_val (am_ad o base))).length = n0 := by simp; omega
              obtain ⟨z1, z2⟩ := y3 hst
              have hwsn : am_ws1 y = Cond.code (am_yn y) (am_by y) (am_nl y) none :: am_W := by unfold am_ws1 am_rt; rw [hrn]
              rcases (Bool.or_eq_true _ _).mp hct with hct | hct
              · have hw := am_CT_ok _ _ (am_2in hct)
                refine am_after (va_runI (As := (S.take n0).reverse.map (am_val (am_ad o base))) ⟨hx, hb, hml, hown, hts⟩ hM ⟨callB_of n0 hts hGi hwsn rfl rfl (hts _ y2) (hts _ hw) ⟨y6.1, y6.2, hpar⟩ hR, hnin, hts _ z1⟩ ⟨hbl, hPre⟩ rfl hnlen hL.2.1 hstk (lv_room (hcat t hcat8)) hdg ⟨by omega, by omega⟩) hS (fun H1 locs1 hrel1 hS1 => ih p e R s m args below meth c k d _ _ _ _ v μf H1 locs1 _ _ Q ls tc ts hk hctx0 h2 hrel1 hS1 hL (by omega) (by omega) (by omega) hret)
              · obtain ⟨q, hq, hh⟩ := List.any_eq_true.mp hct
                simp only [Bool.and_eq_true] at hh
                have hnw := hO.2.2.2.2 q hq
                rw [am_b hh.1.1, am_b hh.1.2, am_b hh.2] at hnw
                refine am_after (va_runIN (As := (S.take n0).reverse.map (am_val (am_ad o base))) ⟨hx, hb, hml, hown, hts⟩ hM ⟨va_cnB n0 hts hGi hwsn rfl rfl hnw (hts _ y2) ⟨y6.1, y6.2, hpar⟩ hR, hnin, hts _ z1⟩ ⟨hbl, hPre⟩ rfl hnlen hL.2.1 hstk (lv_room (hcat t hcat8)) hdg ⟨by omega, by omega⟩) hS (fun H1 locs1 hrel1 hS1 => ih p e R s m args below meth c k d _ _ _ _ v μf H1 locs1 _ _ Q ls tc ts hk hctx0 h2 hrel1 hS1 hL (by omega) (by omega) (by omega) hret)
            · cases h
          · cases h
        · cases h
      case invokestatic ix =>
        simp only [am_step, am_stepG] at h
        split at h
        · rename_i b0
          simp only [am_ckI, Bool.and_eq_true, decide_eq_true_eq] at hck
          obtain ⟨⟨⟨hl0, hb1⟩, hb4⟩, hbt⟩ := hck
          have hlen := am_b hl0
          subst hlen
          have hb1 := Nat.le_of_ble_eq_true hb1
          have hb4 := Nat.le_of_ble_eq_true hb4
          have hw := am_BT_ok _ _ (am_2in hbt)
          rcases (show b0 = 1 ∨ b0 = 2 ∨ b0 = 3 ∨ b0 = 4 by omega) with rfl | rfl | rfl | rfl
          · simp only [am_blt] at h
            replace h := am_popii_some h
            obtain ⟨x, y, t, rfl, h⟩ := h
            split at h
            · rename_i hc8
              exact va_mmax hx hb hsz hown (hts _ hw) (hts _ am_bw4) (hts _ am_bw2) (hts _ am_bw5) hrd.1 (by have := hcat t hc8; omega) hcells hslots hdg (go _ _ _ _ _ _ _ h hrel hS hL rfl rfl)
            · cases h
          · simp only [am_blt] at h
            replace h := am_popii_some h
            obtain ⟨x, y, t, rfl, h⟩ := h
            split at h
            · rename_i hc8
              exact va_mmin hx hb hsz hown (hts _ hw) (hts _ am_bw6) (hts _ am_bw2) (hts _ am_bw7) hrd.1 (by have := hcat t hc8; omega) hcells hslots hdg (go _ _ _ _ _ _ _ h hrel hS hL rfl rfl)
            · cases h
          · simp only [am_blt] at h
            replace h := am_popi_some h
            obtain ⟨x, t, rfl, h⟩ := h
            split at h
            · rename_i hc8
              exact va_mabs hx hb hsz hown (hts _ hw) (hts _ am_bw8) (hts _ am_bw2) (hts _ am_bw9) hrd.1 (by have := hcat t hc8; omega) hcells hslots hdg (go _ _ _ _ _ _ _ h hrel hS hL rfl rfl)
            · cases h
          · simp only [am_blt] at h
            replace h := am_copy_some h
            obtain ⟨nn, dd, b, ss, a, t, n0, n1, rfl, hsa, hsb, ha5, hb5, hc8, ⟨g1, g2, g3, g4, g5⟩, h⟩ := h
            have hea := am_ws_get (ad := am_ad o base) (cid := cid) hsa ha5
            have heb := am_ws_get (ad := am_ad o base) (cid := cid) hsb hb5
            have hlt : b < μ.1.length := (List.getElem?_eq_some_iff.mp hsb).1
            exact va_copyi hx hb hsz hown (hts _ hw) (hts _ am_bw10) (hts _ am_bw11) (hts _ am_bw3) hK hrel.2.1 hD hS (a - 5) (b - 5) 0 0 hea heb rfl rfl rfl g1 g2 g3 g4 g5 (fun _ _ => rfl) hrd.1 (by have := hcat t hc8; have h7 : nativeFrameWords "java/lang/System" "arraycopy" 5 ≤ 7 := (by decide +kernel); omega) hdg (fun H1 locs1 hP1 _ hS1 => go _ _ _ _ _ _ _ h (am_relU (μ' := (μ.1, am_cpy μ.2.1 a ss.toNatClampNeg b dd.toNatClampNeg nn.toNatClampNeg, μ.2.2)) hrel hb5 hlt hrel.1 rfl hsb (fun c hc => ⟨rfl, by funext q; simp [am_cpy, hc], rfl⟩) (by simp only [am_cl]; congr 4; funext q; simp [am_cpy, va_cpy]) hP1) hS1 hL rfl rfl)
        · rename_i y n0
          simp only [am_ckI, Bool.and_eq_true, decide_eq_true_eq] at hck
          obtain ⟨⟨⟨⟨⟨hl0, hct⟩, hy0⟩, hyl⟩, hst⟩, hpar⟩ := hck
          have hlen := am_b hl0
          subst hlen
          have hyl : y ≠ 227 := fun e => by subst e; cases hyl
          have hw := am_CT_ok _ _ (am_2in hct)
          split at h
          · rename_i hcn
            obtain ⟨hcat8, hnl⟩ := hcn
            have hwl := hrel.1.len
            replace h := am_call_some h
            obtain ⟨d1, v1, μ1, hy, hlev, ha, h1, h2⟩ := h
            have hM := am_met ih hy hyl h1 ha
            have hg1 := am_run_grow _ _ _ _ _ _ _ _ _ h1
            have hg2 := am_run_grow _ _ _ _ _ _ _ _ _ h2
            obtain ⟨y1, y2, y3, y4, y5, y6, y7⟩ := am_yok_ok hy hyl
            have hR : (am_rm y d1 (μ1.1.length - μ.1.length) (am_sz μ1.1 - am_sz μ.1)).frames + 1 ≤ R.frames ∧ 8 + (am_nl y + 11) + (am_rm y d1 (μ1.1.length - μ.1.length) (am_sz μ1.1 - am_sz μ.1)).locals ≤ R.locals := by
              have h20 := (am_ckM_ok hy).2.2
              simp only [am_rm, am_fr, am_lo, am_nl] at hfr hlo h20 ⊢
              omega
            have hGi : GoodIn am_W (am_ws1 y) := fun w hw => by
              rcases List.mem_cons.mp hw with e0 | hw
              · rw [e0]; exact am_Wg _ y1
              · exact am_Wg _ hw
            refine am_sizeW (fun hsz1 => ?_)
            have hPre : ∀ U : State, U.heap = H → s.WarmedH U.vm → am_Pc D cid o base vb OI ((S.take n0).reverse) μ (((S.take n0).reverse).map (am_val (am_ad o base))).toArray U := fun U hU hW => ⟨rfl, by rw [hU]; exact Nat.le_trans hbz hS.1, by rw [hU]; have := am_low hrel (Nat.le_trans hbz hS.1); omega, by rw [hU]; exact hrel, va_K.moved hW.alike hK, by rw [hU]; exact hO.next hW hS hbz⟩
            have hbl : FrameBlind (am_Pc D cid o base vb OI ((S.take n0).reverse) μ) := fun a U g mk ⟨q1, q2, q3, q4, q5, q6⟩ => ⟨q1, q2, q3, q4, va_K.moved (u := U) (U := U.calling g mk a) (Vm.Alike.refl U.vm) q5, q6.blind g mk a⟩
            have hstk : S.map (am_val (am_ad o base)) = ((S.take n0).reverse.map (am_val (am_ad o base))).reverse ++ (S.drop n0).map (am_val (am_ad o base)) := by
              conv => lhs; rw [← List.take_append_drop n0 S]
              simp
            have hnlen : ((S.take n0).reverse.map (am_val (am_ad o base))).length = n0 := by simp; omega
            refine am_after (va_runS (As := (S.take n0).reverse.map (am_val (am_ad o base))) ⟨hx, hb, hml, hown, hts⟩ hM ⟨callB_of n0 hts hGi rfl rfl rfl (hts _ y2) (hts _ hw) ⟨y6.1, y6.2, hpar⟩ hR, hts _ (y4 hst)⟩ ⟨hbl, hPre⟩ rfl hnlen hL.2.1 hstk (lv_room (hcat _ hcat8)) hdg ⟨by omega, by omega⟩) hS (fun H1 locs1 hrel1 hS1 => ih p e R s m args below meth c k d _ _ _ _ v μf H1 locs1 _ _ Q ls tc ts hk hctx0 h2 hrel1 hS1 hL (by omega) (by omega) (by omega) hret)
          · cases h
        · cases h
      all_goals (simp only [am_ckI] at hck; cases hck)
    · cases hck
theorem am_simAll (l : Launch) (D : va_G) (cid : Nat → ClassId) (o : Nat → Nat) (base vb : Nat) (OI : am_I) : ∀ n, am_SimW l D cid o base vb OI n := by
  intro n
  induction n with
  | zero => intro p e R s m args below meth c k d pc L S μ v μf H locs cells slots Q ls tc ts hk hctx h; cases h
  | succ n ih => exact am_simS ih
end
section
/-! THE CLAIM OUT OF ONE WALK OF THE LAW'S BODY. Your part is whole_start (and what it stands on); all else here is the same for every law, but numbers. -/
def R_law : String := "OneClockLaw"
def lw_P (b : Addr) (xs : List Int32) (args : Array Value) (s : State) : Prop := args = #[.ref b] ∧ s.IntsAt b xs ∧ xs.length ≤ 3072 ∧ (Jvm.Cond.and given_1 narrow_1).before args s = true
def lw_Q (_ : Array Value) (s : State) (o : Outcome) (t : State) : Prop := o = .returned (some (.int 1)) ∧ Framed s o t [] 600000 7302250
def lw_Z (below : List Frame) (a : Array Value) (s : State) : State → Prop := fun t => ∃ o, t.status = .running ∧ Ended t below o ∧ lw_Q a s o t
/-- the law's own end, with 1 on the stack, nothing written that was there before, its room as the claim has it -/
theorem lw_ret {p : Program} {l : Launch} {e : Env} {s : State} {m : MethodId} {below : List Frame} {meth : Method} {c : Code} {b : Nat} (hx : p.tables.exec = Jvm.exec) (hb : c.code = code) (hr : meth.sig.returnType = ret) (hlocks : meth.locks = false) {pc : Nat} {H : Heap} {ls : Array Slot} (hdg : decode code pc = .ok (.ireturn, 1)) : W p l e room_1 s m #[Value.ref b] below meth c H [] 600000 7302250 (lw_Z below #[Value.ref b] s) (F0 m pc ls [.int 1]) := by
  intro T hT X
  obtain ⟨fs, hret, hrun, hended, hW, hframe⟩ := X.leave (v := some (.int 1)) (hlocks := hlocks) (fun h => by rw [hr] at h; cases h)
  have hmeth' : T.vm.method? m = some meth := X.method'
  refine ⟨T.setFrames fs, ?_, .returned (some (.int 1)), hrun, hended, rfl, ⟨_, rfl⟩, hW, hframe⟩
  jvm_step X.here [X.here.top, hx, hb, hdg, hmeth', hr, ret, narrow_b1]
  (try refine ⟨rfl, ?_⟩); (try refine ⟨rfl, ?_⟩)
  first | (intro acts; rw [hret _ acts rfl rfl rfl]) | rw [hret _ _ rfl rfl rfl]
  exact Steps.refl _
/-- what holds at the law's entry: the machine, the code, the tables' words (any of lw_tbl by 'hts w (by decide +kernel)'), the script of L ints xs at the cell b, what the Statement gives of the start (any of its parts by flat_of_before) -/
def lw_At (p : Program) (s : State) (m : MethodId) (meth : Method) (c : Code) (b L : Nat) (xs : Nat → Int32) : Prop :=
  p.tables.exec = Jvm.exec ∧ c.code = code ∧ meth.sig.returnType = ret ∧ c.maxLocals = 4 ∧ s.vm.findClass R_law = some m.cls ∧ (∀ w ∈ lw_tbl, w.before #[Value.ref b] s = true) ∧ va_X b L xs s s.heap ∧ b < s.heap.size ∧ meth.locks = false ∧ (Jvm.Cond.and given_1 narrow_1).before #[Value.ref b] s = true
theorem am_ls_UNTOLD : Cond.laysStatic "OneClock$Plan" "UNTOLD" "[I" ∈ lw_tbl := List.mem_append_right _ (List.mem_append_right _ (List.mem_append_right _ (List.mem_append_left _ (List.mem_of_getElem? (i := 229) rfl))))
theorem am_ls_LEAST : Cond.laysStatic "OneClock$Plan" "LEAST" "[I" ∈ lw_tbl := List.mem_append_right _ (List.mem_append_right _ (List.mem_append_right _ (List.mem_append_left _ (List.mem_of_getElem? (i := 235) rfl))))
theorem am_ls_MOST : Cond.laysStatic "OneClock$Plan" "MOST" "[I" ∈ lw_tbl := List.mem_append_right _ (List.mem_append_right _ (List.mem_append_right _ (List.mem_append_left _ (List.mem_of_getElem? (i := 237) rfl))))
theorem am_ls_COMPACT_STRINGS : Cond.laysStatic "java/lang/String" "COMPACT_STRINGS" "Z" ∈ lw_tbl := List.mem_append_right _ (List.mem_append_right _ (List.mem_append_right _ (List.mem_append_left _ (List.mem_of_getElem? (i := 3) rfl))))
theorem am_ls_SIOOBE_FORMATTER : Cond.laysStatic "jdk/internal/util/Preconditions" "SIOOBE_FORMATTER" "Ljava/util/function/BiFunction;" ∈ lw_tbl := List.mem_append_right _ (List.mem_append_right _ (List.mem_append_right _ (List.mem_append_left _ (List.mem_of_getElem? (i := 11) rfl))))
theorem am_sref : Cond.stringRef "OneClock$Tape" 68 "board   worth   answer  draw    thinks  step    clock   flag    if      then    else    think   move    time    idle    left    sum     " ∈ lw_tbl := List.mem_append_right _ (List.mem_append_right _ (List.mem_append_left _ (List.mem_of_getElem? (i := 233) rfl)))
theorem am_Wl : ∀ w ∈ am_W, w ∈ lw_tbl := fun w h => (List.mem_filter.mp h).1
/-- the old cells' contents -/
def am_I0 (xs : Nat → Int32) (L : Nat) : am_I := fun c k => match c with
  | 0 => if k = 4096 then Int32.ofNat L else xs k
  | 1 => ([1, 1, 0] : List Int32).getD k 0
  | 2 => ([-999, 0, -999] : List Int32).getD k 0
  | 3 => ([999, 99, 999] : List Int32).getD k 0
  | 4 => am_txt.getD k 0
  | _ => 0
/-- what is left to show: the abstract machine runs the law to its end -/
def am_Goal : Prop := ∀ (L : Nat) (xs : Nat → Int32), L ≤ 3072 → ∃ (n : Nat) (μf : am_Mem), am_run am_MT n 12 (am_mi 227) 0 (am_entry 4 [.ref 0]) [] (am_olds, am_I0 xs L, fun _ _ => 0) = some (some (.int 1), μf) ∧ μf.1.length ≤ 600000 ∧ am_sz μf.1 ≤ 7302250
set_option maxRecDepth 100000 in
theorem am_nT : ∀ c, 1 ≤ c → c ≤ 3 → Cond.arrayOf (.static "OneClock$Plan" (am_stn c) "[I") .int ∈ flatC (Jvm.Cond.and given_1 narrow_1) ∧ Cond.eq (.length (.static "OneClock$Plan" (am_stn c) "[I")) (.int 3) ∈ flatC (Jvm.Cond.and given_1 narrow_1) ∧ ∀ j, j < 3 → Cond.eq (.elem (.static "OneClock$Plan" (am_stn c) "[I") (.int (Int32.ofNat j))) (.int (am_I0 (fun _ => 0) 0 c j)) ∈ flatC (Jvm.Cond.and given_1 narrow_1) := by
  intro c h1 h3
  rcases (show c = 1 ∨ c = 2 ∨ c = 3 by omega) with rfl | rfl | rfl
  · exact ⟨by decide +kernel, by decide +kernel, by decide +kernel⟩
  · exact ⟨by decide +kernel, by decide +kernel, by decide +kernel⟩
  · exact ⟨by decide +kernel, by decide +kernel, by decide +kernel⟩
theorem am_nS1 : Cond.exactly (.string "OneClock$Tape" 68) "java/lang/String" ∈ flatC (Jvm.Cond.and given_1 narrow_1) := by decide +kernel
theorem am_nS2 : Cond.eq (.field (.string "OneClock$Tape" 68) "java/lang/String" "coder" "B") (.int 0) ∈ flatC (Jvm.Cond.and given_1 narrow_1) := by decide +kernel
theorem am_nS3 : Cond.arrayOf (.field (.string "OneClock$Tape" 68) "java/lang/String" "value" "[B") .byte ∈ flatC (Jvm.Cond.and given_1 narrow_1) := by decide +kernel
theorem am_nS4 : Cond.eq (.length (.field (.string "OneClock$Tape" 68) "java/lang/String" "value" "[B")) (.int 136) ∈ flatC (Jvm.Cond.and given_1 narrow_1) := by decide +kernel
theorem am_nS5 : ∀ j, j < 136 → Cond.eq (.elem (.field (.string "OneClock$Tape" 68) "java/lang/String" "value" "[B") (.int (Int32.ofNat j))) (.int (am_txt.getD j 0)) ∈ flatC (Jvm.Cond.and given_1 narrow_1) := by decide +kernel
theorem am_nS6 : Cond.eq (.static "java/lang/String" "COMPACT_STRINGS" "Z") (.int 1) ∈ flatC (Jvm.Cond.and given_1 narrow_1) := by decide +kernel
theorem am_nS7 : Cond.isRef (.static "jdk/internal/util/Preconditions" "SIOOBE_FORMATTER" "Ljava/util/function/BiFunction;") ∈ flatC (Jvm.Cond.and given_1 narrow_1) := by decide +kernel
theorem am_clsK {s : State} {args : Array Value} (hts : ∀ w ∈ am_W, w.before args s = true) : ∃ D : va_G, ∀ (c : Nat) (q : vw_C), vwCl[c]? = some q → u_Kn s q.1 q.2.1 q.2.2 (D.1 c) (D.2 c) := by
  have h : ∀ c, ∃ r : ClassId × (Nat → Nat), c < 11 → u_Kn s (am_cls c).1 (am_cls c).2.1 (am_cls c).2.2 r.1 r.2 := by
    intro c
    by_cases hc : c < 11
    · obtain ⟨cC, iS, h⟩ := u_known hts (am_lay c hc) (hts _ (am_ini c hc).2)
      exact ⟨(cC, iS), fun _ => h⟩
    · exact ⟨(0, fun _ => 0), fun q => absurd q hc⟩
  refine ⟨(fun c => (Classical.choose (h c)).1, fun c => (Classical.choose (h c)).2), fun c q hq => ?_⟩
  have hc : c < 11 := (List.getElem?_eq_some_iff.mp hq).1
  have h1 := Classical.choose_spec (h c) hc
  have h2 := am_cl_at hc
  rw [hq] at h2
  have e := Option.some.inj h2
  rw [e]
  exact h1
theorem am_arrK {s : State} {args : Array Value} {ty : FieldType} (hty : ∀ n, ty ≠ .object n) (h : (Cond.arrayClass ty).before args s = true) : ∃ cA : ClassId, ArrOfT s cA ty ∧ va_RA s cA ty := by
  obtain ⟨c, k, comp, h1, h2, h3⟩ := Cond.arrayClass_spec (o := none) (idx := []) h
  refine ⟨c, fun n z => ⟨fun k h => (by cases h), k, h2, comp, h3⟩, ?_⟩
  cases ty <;> first | exact absurd rfl (hty _) | exact h1
set_option maxHeartbeats 4000000 in
theorem whole_start0 (goal : am_Goal) {p : Program} {e : Env} {s : State} {m : MethodId} {below : List Frame} {meth : Method} {c : Code} (l : Launch) (hflags : l.flags = flags0) {b L : Nat} {xs : Nat → Int32} (hL : L ≤ 3072) (C0 : lw_At p s m meth c b L xs) : W p l e room_1 s m #[Value.ref b] below meth c s.heap [] 0 0 (lw_Z below #[Value.ref b] s) (entryFrame m ([Value.ref b] : List Value).toArray 4) := by
  obtain ⟨hx, hb, hr, hml, hown, hts, hX, hbl, hlocks, hgv⟩ := C0
  have htw : ∀ w ∈ am_W, w.before #[Value.ref b] s = true := fun w h => hts w (am_Wl w h)
  have hs := flat_of_before _ hgv
  have hA : ∀ a : Nat, a < s.heap.size → ¬ am_A s.heap.size a := fun a h => Nat.not_le.mpr h
  obtain ⟨D, hD⟩ := am_clsK htw
  obtain ⟨c0, a0⟩ := am_arrK (ty := .int) (fun n h => by cases h) (htw _ am_bw12)
  obtain ⟨c1, a1⟩ := am_arrK (ty := .byte) (fun n h => by cases h) (htw _ am_bw13)
  obtain ⟨c2, a2⟩ := am_arrK (ty := .boolean) (fun n h => by cases h) (htw _ am_bw14)
  obtain ⟨c3, a3⟩ := am_arrK (ty := .long) (fun n h => by cases h) (htw _ am_bw15)
  obtain ⟨cid, hcid⟩ : ∃ cid : Nat → ClassId, cid 0 = c0 ∧ cid 1 = c1 ∧ cid 2 = c2 ∧ cid 3 = c3 := ⟨fun k => match k with
    | 0 => c0
    | 1 => c1
    | 2 => c2
    | _ => c3, rfl, rfl, rfl, rfl⟩
  have hK : va_K D vwCl (am_tys cid) s := by
    refine ⟨hD, fun k q hq => ?_⟩
    unfold am_tys at hq
    rcases k with _ | _ | _ | _ | k
    · cases hq; rw [hcid.1]; exact a0
    · cases hq; rw [hcid.2.1]; exact a1
    · cases hq; rw [hcid.2.2.1]; exact a2
    · cases hq; rw [hcid.2.2.2]; exact a3
    · simp at hq
  have hst : ∀ k, ∃ t : Nat, 1 ≤ k → k ≤ 3 → (Term.static "OneClock$Plan" (am_stn k) "[I").eval #[Value.ref b] s none [] s = some (.ref t) ∧ va_T .int t 3 (fun j => .int (am_I0 xs L k j)) (am_A s.heap.size) s s.heap := by
    intro k
    by_cases hk : 1 ≤ k ∧ k ≤ 3
    · obtain ⟨h1, h2, h3⟩ := am_nT k hk.1 hk.2
      have hI : ∀ j, am_I0 xs L k j = am_I0 (fun _ => 0) 0 k j := by
        intro j
        rcases (show k = 1 ∨ k = 2 ∨ k = 3 by omega) with rfl | rfl | rfl <;> rfl
      obtain ⟨t, ht, hT⟩ := va_Tof (N := 3) (f := fun j => .int (am_I0 xs L k j)) (A := am_A s.heap.size) (by omega) (hs _ h1) (va_eqt (hs _ h2)) (fun j hj => by rw [hI]; exact va_eqt (hs _ (h3 j hj))) hA
      exact ⟨t, fun _ _ => ⟨ht, hT⟩⟩
    · exact ⟨0, fun q1 q2 => absurd ⟨q1, q2⟩ hk⟩
  obtain ⟨adK, adV, hvk, hev⟩ := vk_Sof (N := 1) (tm := fun _ => .string "OneClock$Tape" 68) (len := [136]) (byt := [am_txt]) (A := am_A s.heap.size) (s := s) (args := #[Value.ref b]) (fun i hi => by rcases (show i = 0 by omega) with rfl; decide) (fun i hi => hs _ am_nS1) (fun i hi => hs _ am_nS2) (fun i hi => hs _ am_nS3)
    (fun i hi => by rcases (show i = 0 by omega) with rfl; exact hs _ am_nS4) (fun i hi j hj => by rcases (show i = 0 by omega) with rfl; exact hs _ (am_nS5 j hj)) (fun i j hi hj hne => absurd (by omega) hne) hA
  obtain ⟨o, ho⟩ : ∃ o : Nat → Nat, o 0 = b ∧ (∀ k, 1 ≤ k → k ≤ 3 → o k = Classical.choose (hst k)) ∧ o 4 = adK 0 := ⟨fun k => if k = 0 then b else if k = 4 then adK 0 else Classical.choose (hst k), rfl, fun k h1 h3 => by show (if k = 0 then b else if k = 4 then adK 0 else Classical.choose (hst k)) = _; rw [if_neg (by omega), if_neg (by omega)], rfl⟩
  have hoT : ∀ k, 1 ≤ k → k ≤ 3 → (Term.static "OneClock$Plan" (am_stn k) "[I").eval #[Value.ref b] s none [] s = some (.ref (o k)) ∧ va_T .int (o k) 3 (fun j => .int (am_I0 xs L k j)) (am_A s.heap.size) s s.heap := fun k h1 h3 => by rw [ho.2.1 k h1 h3]; exact Classical.choose_spec (hst k) h1 h3
  have hpc : ∀ k, 1 ≤ k → k ≤ 3 → Cond.laysStatic "OneClock$Plan" (am_stn k) "[I" ∈ lw_tbl := by
    intro k h1 h3
    rcases (show k = 1 ∨ k = 2 ∨ k = 3 by omega) with rfl | rfl | rfl
    · exact am_ls_UNTOLD
    · exact am_ls_LEAST
    · exact am_ls_MOST
  have hvs : vk_S 1 [136] [am_txt] (fun _ => o 4) (fun _ => adV 0) (am_A s.heap.size) s s.heap := by
    refine ⟨fun i hi => ?_, fun i j hi hj _ => by omega⟩
    rcases (show i = 0 by omega) with rfl
    rw [ho.2.2]
    exact hvk.1 0 hi
  have hold : am_old o s.heap.size (adV 0) (am_I0 xs L) s s.heap := by
    refine ⟨⟨L, by omega, rfl, ?_⟩, fun k h1 h3 => ⟨(hoT k h1 h3).2, va_Zref (hts _ (hpc k h1 h3)) (htw _ (am_ini 3 (by omega)).1) (hoT k h1 h3).1 hA⟩, fun k hk => ?_, ⟨vk_R.of (hts _ am_sref) (by rw [ho.2.2]; exact hev 0 (by omega)), hvs, va_Zof (hts _ am_ls_COMPACT_STRINGS) (htw _ am_j_n_S) (va_eqi (hs _ am_nS6)) hA, va_Zqof (hts _ am_ls_SIOOBE_FORMATTER) (htw _ am_j_n_P) (hs _ am_nS7) hA, fun j hj => rfl⟩, fun q hq => va_Nw.of rfl (hts _ (List.mem_append_right _ (am_nst q hq)))⟩
    · rw [ho.1]
      obtain ⟨scr, g1, g2, g3, g4, g5⟩ := hX
      exact ⟨scr, g1, g2, g3, g4, fun j hj => by rw [g5 j hj]; simp only [am_I0]; rw [if_neg (by omega)]⟩
    · rcases (show k = 0 ∨ (1 ≤ k ∧ k ≤ 3) ∨ k = 4 by omega) with rfl | ⟨h1, h3⟩ | rfl
      · rw [ho.1]; exact hbl
      · obtain ⟨cell, g1, -⟩ := (hoT k h1 h3).2
        exact (Array.getElem?_eq_some_iff.mp g1).1
      · rw [ho.2.2]
        obtain ⟨cell, g1, -⟩ := (hvk.1 0 (by omega)).1
        exact (Array.getElem?_eq_some_iff.mp g1).1
  obtain ⟨n, μf, hrun, hcells, hslots⟩ := goal L xs hL
  have hgrow := am_run_grow _ _ _ _ _ _ _ _ _ hrun
  have hL5 : am_olds.length = 5 := rfl
  rw [lg_entry_eq]
  have hLR := am_LR.entry (am_ad o s.heap.size) (nL := 4) [.ref 0] (Nat.le_of_ble_eq_true rfl)
  have e0 : ([.ref 0] : List Value).map (am_val (am_ad o s.heap.size)) = [.ref b] := by
    show [Value.ref (am_ad o s.heap.size 0)] = [.ref b]
    rw [am_ad_old (by omega), ho.1]
  rw [e0] at hLR
  refine am_simAll l D cid o s.heap.size (adV 0) (am_I0 xs L) n p e room_1 s m #[Value.ref b] below meth c 227 12 0 (am_entry 4 [.ref 0]) [] (am_olds, am_I0 xs L, fun _ _ => 0) (some (.int 1)) μf s.heap [] 0 0 _ _ (μf.1.length - am_olds.length) (am_sz μf.1 - am_sz am_olds) (by omega) ⟨⟨hx, hb, hml, hown, htw⟩, hK, hold, Nat.le_refl _, ⟨Nat.le_of_ble_eq_true rfl, Nat.le_of_ble_eq_true rfl, ?_, ?_⟩, fun h => ?_⟩ hrun ⟨⟨[], rfl, fun s hs => by cases hs⟩, fun k q hq => ?_, fun c k hc => rfl⟩ va_S.rf hLR (Nat.zero_add _) (Nat.zero_add _) rfl ?_
  · show _ ≤ 600000
    omega
  · show _ ≤ 7302250
    omega
  · exact absurd h (by decide)
  · rw [am_ws_at, if_neg (by simp only [hL5]; omega)] at hq
    cases hq
  · intro pc H1 locs1 ls1 hret hrel1 hS1
    rcases hret with ⟨z, hz, hdg, -⟩ | ⟨z, hz, -, -⟩ | ⟨hz, -, -⟩
    · cases hz
      refine va_forget hS1.2.2 ?_
      refine W.widen (k := 600000) (n := 7302250) (by omega) (by omega) ?_
      exact lw_ret hx hb hr hlocks hdg
    · cases hz
    · cases hz
theorem am_goal : am_Goal := by
  sorry
theorem whole_start {p : Program} {e : Env} {s : State} {m : MethodId} {below : List Frame} {meth : Method} {c : Code} (l : Launch) (hflags : l.flags = flags0) {b L : Nat} {xs : Nat → Int32} (hL : L ≤ 3072) (C0 : lw_At p s m meth c b L xs) : W p l e room_1 s m #[Value.ref b] below meth c s.heap [] 0 0 (lw_Z below #[Value.ref b] s) (entryFrame m ([Value.ref b] : List Value).toArray 4) := whole_start0 am_goal l hflags hL C0
-- ===== YOUR PART ENDS =====
set_option maxHeartbeats 4000000 in
theorem lw_walk (l : Launch) (hflags : l.flags = flags0) (b : Addr) (xs : List Int32) : MetFree l x (headSpec (Jvm.Cond.code x code maxLocals ret :: tables_1) room_1) (lw_P b xs) (fun _ _ _ _ _ => True) lw_Q := by
  refine MetFree.of_bodyS (code := code) (maxLocals := maxLocals) (ret := ret) (by decide) ?_ ?_
  · intro args s m h hn
    obtain ⟨meth, c, h1, h2, h3, h4, h5, h6, -, -⟩ := Cond.code_spec hn (atoms_spec (ws := Jvm.Cond.code x code maxLocals ret :: tables_1) h _ List.mem_cons_self)
    exact ⟨meth, c, h1, h2, h3, h4, h5, h6⟩
  · intro p e s m args below meth c s₁ B hml0 hP _
    obtain ⟨rfl, hx, hbd, hgv⟩ := hP
    obtain ⟨scr, harrAt, hlist, hof, hsmall⟩ := hx
    obtain ⟨hcb, hkn, -, -⟩ := State.arrayAt?_spec harrAt
    have hown : s.vm.findClass R_law = some m.cls := findClass_of_methodNamed B.named
    have hts0 : ∀ c ∈ (Jvm.Cond.code x code maxLocals ret :: tables_1), c.before #[Value.ref b] s = true := atoms_spec (ws := Jvm.Cond.code x code maxLocals ret :: tables_1) B.pre
    have hts : ∀ w ∈ lw_tbl, w.before #[Value.ref b] s = true := k2_hts_sels lw_privs (fun w hw => hts0 w (List.mem_cons_of_mem _ hw)) lw_privs_ok
    have hml : c.maxLocals = 4 := B.maxLocals_eq (hts0 _ List.mem_cons_self)
    have X₀ : Stand p l e room_1 s m #[Value.ref b] below meth c s₁ [] 0 0 := Stand.of_body B
    have hh0 : s₁.heap = s.heap := by rw [B.state]; rfl
    have hsz : scr.slots.size = xs.length := by rw [← Array.length_toList, hlist, List.length_map]
    have hval : ∀ j : Nat, j < xs.length → scr.slots[j]? = some (.int (xs.getD j 0)) := fun j hj => by
      rw [← Array.getElem?_toList, hlist]
      simp [hj]
    have hbl : b < s.heap.size := (Array.getElem?_eq_some_iff.mp hcb).1
    have hX : va_X b xs.length (fun j => xs.getD j 0) s s.heap := ⟨scr, hcb, hof, hkn, hsz, hval⟩
    have K : W p l e room_1 s m #[Value.ref b] below meth c s₁.heap [] 0 0 (lw_Z below #[Value.ref b] s) (entryFrame m ([Value.ref b] : List Value).toArray 4) := by
      rw [hh0]
      exact whole_start l hflags hbd ⟨B.exec, B.bytes, B.returns, hml, hown, hts, hX, hbl, B.notSynchronized, hgv⟩
    obtain ⟨t, a1, o, b1, b2, b3⟩ := K s₁ rfl X₀
    exact ⟨t, o, a1, b1, b2, b3⟩
theorem lw_pre_spec {args : Array Value} {s : State} (h : (Jvm.Cond.and given_1 narrow_1).before args s = true) (hr : rest_1_c.before args s = true) : ∃ (b : Addr) (xs : List Int32), lw_P b xs args s := by
  have hs := flat_of_before _ h
  have hq := flat_of_before _ hr
  have hc : (Cond.count 1).before args s = true := hs _ (by decide +kernel)
  have harr : (Cond.arrayOf (.arg 0) .int).before args s = true := hs _ (by decide +kernel)
  have hle : (Cond.le (.length (.arg 0)) (.int 3072)).before args s = true := hs _ (by decide +kernel)
  have hlen : (Cond.isInt (.length (.arg 0))).before args s = true := hq _ (by decide +kernel)
  have hall : (Cond.all (.arg 0) (.isInt (.elem (.arg 0) (.index 0)))).before args s = true := hq _ (by decide +kernel)
  obtain ⟨b, xs, hb, hx⟩ := State.ints_of_pre rfl harr hlen hall
  have hsm : xs.length < 2 ^ 31 := hx.choose_spec.2.2.2
  have hev : (Term.length (.arg 0)).eval args s none [] s = some (.int xs.length.toInt32) := hx.length_eval hb
  have hv := Cond.le_ints hev (show (Term.int 3072).eval args s none [] s = some (.int 3072) from rfl)
  have hd : xs.length.toInt32 ≤ 3072 := by
    simpa [Cond.before, Cond.holds, hv] using hle
  have hN : xs.length ≤ 3072 := (Int32.ofNat_le_ofNat hsm (by decide)).mp (show Int32.ofNat xs.length ≤ Int32.ofNat 3072 from hd)
  exact ⟨b, xs, Cond.one_arg hc (show args[0]? = some (.ref b) from hb), hx, hN, h⟩
theorem lw_comes (l : Launch) (hflags : l.flags = flags0) : Comes l x (Jvm.Cond.code x code maxLocals ret :: tables_1) room_1 (fun tb e args s => Calls_1 tb e args s ∧ rest_1 tb e args s ∧ Pre_1 tb e args s)
    (fun _ _ args s o t => lw_Q args s o t) := by
  intro p e ha hc hk s m args below hf hfit hheap happ hpre
  obtain ⟨b, xs, hP⟩ := lw_pre_spec hpre.2.2 hpre.2.1
  obtain ⟨k, o, h1, h2, h3, hQ⟩ := lw_walk l hflags b xs p e ha hc hk s m args below hf ((Spec.applies_iff_loose hf).mp happ).1 hP trivial
  exact ⟨k, o, h1, h2, h3, hQ⟩
theorem lw_frame {s t : State} {o : Outcome} {args : Array Value} (h : Framed s o t [] 600000 7302250) :
    Framed s o t (fieldLocs frame_1_writes args s ++ arrayLocs frame_1_arrays args s ++ staticLocs frame_1_statics s) 600000 7302250 := h
theorem lw_limb (L : Cond) (hL : ∀ (args : Array Value) (s t : State), L.after args s (.returned (some (.int 1))) t = true) :
    ArmFor flags0 classFile x code maxLocals ret World_1 tables_1 room_1 Calls_1 rest_1 Pre_1
      (fun tb e a s o t => postC L tb e a s o t ∧ Framed s o t (fieldLocs frame_1_writes a s ++ arrayLocs frame_1_arrays a s ++ staticLocs frame_1_statics s) 600000 7302250) := by
  intro l hflags _ _ p e ha hc hk s m args below hf hfit hheap happ hpre
  obtain ⟨k, o, h1, h2, h3, rfl, hF⟩ := lw_comes l hflags p e ha hc hk s m args below hf hfit hheap happ hpre
  exact ⟨k, _, h1, h2, h3, hL args s _, lw_frame hF⟩
theorem i_vc : Claimed_1_1 ∧ Claimed_1_2 := ⟨lw_limb limb_1_1 (fun args s t => by simp [limb_1_1, Cond.after, Cond.holds, Cond.value]), lw_limb limb_1_2 (fun args s t => Cond.after_iff.mpr (by
  first | (rw [show limb_1_2 = Cond.eq .result (.int 1) from rfl, Cond.eq_ints (x := 1) (y := 1) rfl rfl]; simp; done) | (simp [limb_1_2, Cond.value, Term.eval]; done)))⟩
end

/-! the code, held against the bytes -/
def am_tgt (pc : Nat) (off : Int) (t : Nat) : Bool := decide ((pc : Int) + off = (t : Int))
/-- what an instruction's row must say -/
def am_ckI (own nL : Nat) (init : Bool) (pc len : Nat) (aux : List Nat) : Instr → Bool
  | .iconst n => Nat.beq len 1 && decide (Int32.ofInt n = am_lit n)
  | .bipush n => Nat.beq len 2 && decide ((Int8.ofInt n).toInt32 = am_lit n)
  | .sipush n => Nat.beq len 3 && decide ((Int16.ofInt n).toInt32 = am_lit n)
  | .lconst _ | .iload_n _ | .lload_n _ | .aload_n _ => Nat.beq len 1
  | .iload _ | .lload _ | .aload _ => Nat.beq len 2
  | .istore i => Nat.beq len 2 && Nat.blt i nL
  | .istore_n i => Nat.beq len 1 && Nat.blt i.val nL
  | .astore_n i => Nat.beq len 1 && Nat.blt i.val nL
  | .lstore i => Nat.beq len 2 && Nat.blt (i + 1) nL
  | .iinc i n => Nat.beq len 3 && Nat.blt i nL && decide (Int32.ofInt n = am_lit n)
  | .iadd | .isub | .imul | .idiv | .irem | .ineg | .iand | .ior | .ixor | .ishl | .ishr | .iushr | .ladd | .lmul | .lcmp | .i2l | .i2b | .dup | .dup2 | .pop => Nat.beq len 1
  | .iaload | .baload | .laload | .iastore | .bastore | .lastore | .arraylength | .ireturn | .lreturn | .return_ => Nat.beq len 1
  | .goto o => match aux with
    | [t] => Nat.beq len 3 && am_tgt pc o t
    | _ => false
  | .ifCond _ o => match aux with
    | [t] => Nat.beq len 3 && am_tgt pc o t
    | _ => false
  | .if_icmp _ o => match aux with
    | [t] => Nat.beq len 3 && am_tgt pc o t
    | _ => false
  | .tableswitch df lo hi offs => match aux with
    | d :: ts => am_tgt pc df d && decide (offs.toList.map (fun z => (pc : Int) + z) = ts.map Int.ofNat) && decide (hi = lo + ts.length - 1) && (List.range ts.length).all (fun i => decide ((am_lit (lo + i)).toInt = lo + i))
    | _ => false
  | .getfield ix => match aux with
    | [ci, j] => Nat.beq len 3 && (am_FT own).any (fun q => Nat.beq q.1 ix && Nat.beq q.2.1 ci && Nat.beq q.2.2 j)
    | _ => false
  | .putfield ix => match aux with
    | [ci, j, z] => Nat.beq len 3 && (am_FT own).any (fun q => Nat.beq q.1 ix && Nat.beq q.2.1 ci && Nat.beq q.2.2 j) && (match z with
      | 0 => !((am_cls ci).2.1 j).2.2.2 && decide (am_tyf ci j = .int)
      | 1 => !((am_cls ci).2.1 j).2.2.2 && decide (am_tyf ci j = .boolean)
      | 2 => ((am_cls ci).2.1 j).2.2.2 && Nat.beq ci own && init && (match am_tyf ci j with
        | .object _ => true
        | .array _ => true
        | _ => false)
      | _ => false)
    | _ => false
  | .getstatic ix => match aux with
    | [a] => Nat.beq len 3 && Nat.ble 1 a && Nat.ble a 3 && (am_SP own).any (fun q => Nat.beq q.1 ix && Nat.beq q.2 a)
    | _ => false
  | .ldc ix => match aux with
    | [0, x] => Nat.beq len 2 && (am_KT own).any (fun q => Nat.beq q.1 ix && Nat.beq q.2.1 0 && Nat.beq q.2.2.1 x && Nat.beq q.2.2.2 0)
    | [1, x] => Nat.beq len 2 && (am_KT own).any (fun q => Nat.beq q.1 ix && Nat.beq q.2.1 1 && Nat.beq q.2.2.1 x && Nat.beq q.2.2.2 0)
    | [2, a] => Nat.beq len 2 && Nat.beq own 7 && Nat.beq ix 68 && Nat.beq a 4
    | _ => false
  | .ldc_w ix => match aux with
    | [0, x] => Nat.beq len 3 && (am_KT own).any (fun q => Nat.beq q.1 ix && Nat.beq q.2.1 0 && Nat.beq q.2.2.1 x && Nat.beq q.2.2.2 0)
    | [1, x] => Nat.beq len 3 && (am_KT own).any (fun q => Nat.beq q.1 ix && Nat.beq q.2.1 1 && Nat.beq q.2.2.1 x && Nat.beq q.2.2.2 0)
    | _ => false
  | .ldc2_w ix => match aux with
    | [x] => Nat.beq len 3 && (am_KT own).any (fun q => Nat.beq q.1 ix && Nat.beq q.2.2.1 x && Nat.beq q.2.2.2 1)
    | _ => false
  | .newarray t => Nat.beq len 2 && (am_ty t).isSome
  | .new ix => match aux with
    | ci :: bs => Nat.beq len 3 && (am_NT own).any (fun q => Nat.beq q.1 ix && Nat.beq q.2 ci) && Nat.beq bs.length (am_cls ci).2.2 && (List.range bs.length).all (fun j => decide (defaultValue (am_tyf ci j) = if (bs.getD j 0 == 1) = true then .null else .int 0))
    | _ => false
  | .invokevirtual ix => match aux with
    | [b] => Nat.beq len 3 && Nat.beq b 5 && (am_BT own).any (fun q => Nat.beq q.1 ix && Nat.beq q.2 b)
    | [y, n, ci] => Nat.beq len 3 && (am_CT own).any (fun q => Nat.beq q.1 ix && Nat.beq q.2 y) && Nat.blt y 228 && !(Nat.beq y 227) && !(am_sta y) && Nat.beq ci (am_mi y).1 && Nat.blt ci 11 && decide ((parseMethodDescriptor (am_yn y).desc).map (fun d => d.parameters.length) = some n) && decide ((am_yn y).name ≠ "<init>")
    | _ => false
  | .invokespecial ix => match aux with
    | [b] => Nat.beq len 3 && Nat.beq b 0 && (am_BT own).any (fun q => Nat.beq q.1 ix && Nat.beq q.2 b)
    | [y, n, ci] => Nat.beq len 3 && ((am_CT own).any (fun q => Nat.beq q.1 ix && Nat.beq q.2 y) || am_CTN.any (fun q => Nat.beq q.1 own && Nat.beq q.2.1 ix && Nat.beq q.2.2.1 y)) && Nat.blt y 228 && !(Nat.beq y 227) && !(am_sta y) && Nat.beq ci (am_mi y).1 && Nat.blt ci 11 && decide ((parseMethodDescriptor (am_yn y).desc).map (fun d => d.parameters.length) = some n) && decide ((am_yn y).name = "<init>") && decide ((am_mi y).2.2.2.1 = none)
    | _ => false
  | .invokestatic ix => match aux with
    | [b] => Nat.beq len 3 && Nat.ble 1 b && Nat.ble b 4 && (am_BT own).any (fun q => Nat.beq q.1 ix && Nat.beq q.2 b)
    | [y, n] => Nat.beq len 3 && (am_CT own).any (fun q => Nat.beq q.1 ix && Nat.beq q.2 y) && Nat.blt y 228 && !(Nat.beq y 227) && am_sta y && decide ((parseMethodDescriptor (am_yn y).desc).map (fun d => d.parameters.length) = some n)
    | _ => false
  | _ => false
def am_ckE (own nL : Nat) (init : Bool) (b : ByteArray) (e : am_Ent) : Bool := match decode b e.1 with
  | .ok (i, len) => decide (i = e.2.1) && am_ckI own nL init e.1 len e.2.2 e.2.1
  | _ => false
def am_ckM (k : Nat) : Prop := (∀ e ∈ (am_mi k).2.1, am_ckE (am_mi k).1 (am_mi k).2.2.1 (decide ((am_yn k).name = "<init>")) (am_by k) e = true) ∧ (am_mi k).2.2.2.2 ≤ 20 ∧ (am_mi k).2.2.1 ≤ 20
theorem am_ckA {o nL : Nat} {init : Bool} {b : ByteArray} {l : List am_Ent} (h : l.all (am_ckE o nL init b) = true) : ∀ e ∈ l, am_ckE o nL init b e = true := List.all_eq_true.mp h
theorem am_ckM_ok {k : Nat} (hk : k < 228) : am_ckM k := sorry

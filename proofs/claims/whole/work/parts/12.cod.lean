/-! the code, held against the bytes -/
def am_tgt (pc : Nat) (off : Int) (t : Nat) : Bool := decide ((pc : Int) + off = (t : Int))
/-- what an instruction's row must say -/
def am_ckI (own nL : Nat) (init : Bool) (pc len : Nat) (aux : List Nat) : Instr → Bool
  | .iconst n => Nat.beq len 1 && decide (Int32.ofInt n = am_lit n)
  | .bipush n => Nat.beq len 2 && decide ((Int8.ofInt n).toInt32 = am_lit n)
  | .sipush n => Nat.beq len 3 && decide ((Int16.ofInt n).toInt32 = am_lit n)
  | .lconst _ | .iload_n _ | .lload_n _ | .aload_n _ => Nat.beq len 1
  | .iload _ | .lload _ | .aload _ => Nat.beq len 2
  | .istore i => Nat.beq len 2 && Nat.blt i nL
  | .istore_n i => Nat.beq len 1 && Nat.blt i.val nL
  | .astore_n i => Nat.beq len 1 && Nat.blt i.val nL
  | .lstore i => Nat.beq len 2 && Nat.blt (i + 1) nL
  | .iinc i n => Nat.beq len 3 && Nat.blt i nL && decide (Int32.ofInt n = am_lit n)
  | .iadd | .isub | .imul | .idiv | .irem | .ineg | .iand | .ior | .ixor | .ishl | .ishr | .iushr | .ladd | .lmul | .lcmp | .i2l | .i2b | .dup | .dup2 | .pop => Nat.beq len 1
  | .iaload | .baload | .laload | .iastore | .bastore | .lastore | .arraylength | .ireturn | .lreturn | .return_ => Nat.beq len 1
  | .goto o => match aux with
    | [t] => Nat.beq len 3 && am_tgt pc o t
    | _ => false
  | .ifCond _ o => match aux with
    | [t] => Nat.beq len 3 && am_tgt pc o t
    | _ => false
  | .if_icmp _ o => match aux with
    | [t] => Nat.beq len 3 && am_tgt pc o t
    | _ => false
  | .tableswitch df lo hi offs => match aux with
    | d :: ts => am_tgt pc df d && decide (offs.toList.map (fun z => (pc : Int) + z) = ts.map Int.ofNat) && decide (hi = lo + ts.length - 1) && (List.range ts.length).all (fun i => decide ((am_lit (lo + i)).toInt = lo + i))
    | _ => false
  | .getfield ix => match aux with
    | [ci, j] => Nat.beq len 3 && (am_FT own).any (fun q => Nat.beq q.1 ix && Nat.beq q.2.1 ci && Nat.beq q.2.2 j)
    | _ => false
  | .putfield ix => match aux with
    | [ci, j, z] => Nat.beq len 3 && (am_FT own).any (fun q => Nat.beq q.1 ix && Nat.beq q.2.1 ci && Nat.beq q.2.2 j) && (match z with
      | 0 => !((am_cls ci).2.1 j).2.2.2 && decide (am_tyf ci j = .int)
      | 1 => !((am_cls ci).2.1 j).2.2.2 && decide (am_tyf ci j = .boolean)
      | 2 => ((am_cls ci).2.1 j).2.2.2 && Nat.beq ci own && init && (match am_tyf ci j with
        | .object _ => true
        | .array _ => true
        | _ => false)
      | _ => false)
    | _ => false
  | .getstatic ix => match aux with
    | [a] => Nat.beq len 3 && Nat.ble 1 a && Nat.ble a 3 && (am_SP own).any (fun q => Nat.beq q.1 ix && Nat.beq q.2 a)
    | _ => false
  | .ldc ix => match aux with
    | [0, x] => Nat.beq len 2 && (am_KT own).any (fun q => Nat.beq q.1 ix && Nat.beq q.2.1 0 && Nat.beq q.2.2.1 x && Nat.beq q.2.2.2 0)
    | [1, x] => Nat.beq len 2 && (am_KT own).any (fun q => Nat.beq q.1 ix && Nat.beq q.2.1 1 && Nat.beq q.2.2.1 x && Nat.beq q.2.2.2 0)
    | [2, a] => Nat.beq len 2 && Nat.beq own 7 && Nat.beq ix 68 && Nat.beq a 4
    | _ => false
  | .ldc_w ix => match aux with
    | [0, x] => Nat.beq len 3 && (am_KT own).any (fun q => Nat.beq q.1 ix && Nat.beq q.2.1 0 && Nat.beq q.2.2.1 x && Nat.beq q.2.2.2 0)
    | [1, x] => Nat.beq len 3 && (am_KT own).any (fun q => Nat.beq q.1 ix && Nat.beq q.2.1 1 && Nat.beq q.2.2.1 x && Nat.beq q.2.2.2 0)
    | _ => false
  | .ldc2_w ix => match aux with
    | [x] => Nat.beq len 3 && (am_KT own).any (fun q => Nat.beq q.1 ix && Nat.beq q.2.2.1 x && Nat.beq q.2.2.2 1)
    | _ => false
  | .newarray t => Nat.beq len 2 && (am_ty t).isSome
  | .new ix => match aux with
    | ci :: bs => Nat.beq len 3 && (am_NT own).any (fun q => Nat.beq q.1 ix && Nat.beq q.2 ci) && Nat.beq bs.length (am_cls ci).2.2 && (List.range bs.length).all (fun j => decide (defaultValue (am_tyf ci j) = if (bs.getD j 0 == 1) = true then .null else .int 0))
    | _ => false
  | .invokevirtual ix => match aux with
    | [b] => Nat.beq len 3 && Nat.beq b 5 && (am_BT own).any (fun q => Nat.beq q.1 ix && Nat.beq q.2 b)
    | [y, n, ci] => Nat.beq len 3 && (am_CT own).any (fun q => Nat.beq q.1 ix && Nat.beq q.2 y) && Nat.blt y 228 && !(Nat.beq y 227) && !(am_sta y) && Nat.beq ci (am_mi y).1 && Nat.blt ci 11 && decide ((parseMethodDescriptor (am_yn y).desc).map (fun d => d.parameters.length) = some n) && decide ((am_yn y).name ≠ "<init>")
    | _ => false
  | .invokespecial ix => match aux with
    | [b] => Nat.beq len 3 && Nat.beq b 0 && (am_BT own).any (fun q => Nat.beq q.1 ix && Nat.beq q.2 b)
    | [y, n, ci] => Nat.beq len 3 && ((am_CT own).any (fun q => Nat.beq q.1 ix && Nat.beq q.2 y) || am_CTN.any (fun q => Nat.beq q.1 own && Nat.beq q.2.1 ix && Nat.beq q.2.2.1 y)) && Nat.blt y 228 && !(Nat.beq y 227) && !(am_sta y) && Nat.beq ci (am_mi y).1 && Nat.blt ci 11 && decide ((parseMethodDescriptor (am_yn y).desc).map (fun d => d.parameters.length) = some n) && decide ((am_yn y).name = "<init>") && decide ((am_mi y).2.2.2.1 = none)
    | _ => false
  | .invokestatic ix => match aux with
    | [b] => Nat.beq len 3 && Nat.ble 1 b && Nat.ble b 4 && (am_BT own).any (fun q => Nat.beq q.1 ix && Nat.beq q.2 b)
    | [y, n] => Nat.beq len 3 && (am_CT own).any (fun q => Nat.beq q.1 ix && Nat.beq q.2 y) && Nat.blt y 228 && !(Nat.beq y 227) && am_sta y && decide ((parseMethodDescriptor (am_yn y).desc).map (fun d => d.parameters.length) = some n)
    | _ => false
  | _ => false
def am_ckE (own nL : Nat) (init : Bool) (b : ByteArray) (e : am_Ent) : Bool := match decode b e.1 with
  | .ok (i, len) => decide (i = e.2.1) && am_ckI own nL init e.1 len e.2.2 e.2.1
  | _ => false
def am_ckM (k : Nat) : Prop := (∀ e ∈ (am_mi k).2.1, am_ckE (am_mi k).1 (am_mi k).2.2.1 (decide ((am_yn k).name = "<init>")) (am_by k) e = true) ∧ (am_mi k).2.2.2.2 ≤ 20 ∧ (am_mi k).2.2.1 ≤ 20
theorem am_ckA {o nL : Nat} {init : Bool} {b : ByteArray} {l : List am_Ent} (h : l.all (am_ckE o nL init b) = true) : ∀ e ∈ l, am_ckE o nL init b e = true := List.all_eq_true.mp h
theorem am_cd0 : am_c0.all (am_ckE 0 1 true cX0_init) = true := by decide +kernel
theorem am_ck0 : am_ckM 0 := ⟨am_ckA am_cd0, Nat.le_of_ble_eq_true rfl, Nat.le_of_ble_eq_true rfl⟩
theorem am_cd1 : am_c1.all (am_ckE 0 3 false cX0_add) = true := by decide +kernel
theorem am_ck1 : am_ckM 1 := ⟨am_ckA am_cd1, Nat.le_of_ble_eq_true rfl, Nat.le_of_ble_eq_true rfl⟩
theorem am_cd2 : am_c2.all (am_ckE 0 2 false cX0_aimAtEnd) = true := by decide +kernel
theorem am_ck2 : am_ckM 2 := ⟨am_ckA am_cd2, Nat.le_of_ble_eq_true rfl, Nat.le_of_ble_eq_true rfl⟩
theorem am_cd3 : am_c3.all (am_ckE 0 2 false cX0_copyFrom) = true := by decide +kernel
theorem am_ck3 : am_ckM 3 := ⟨am_ckA am_cd3, Nat.le_of_ble_eq_true rfl, Nat.le_of_ble_eq_true rfl⟩
theorem am_cd4 : am_c4.all (am_ckE 0 7 false cX0_setFacts) = true := by decide +kernel
theorem am_ck4 : am_ckM 4 := ⟨am_ckA am_cd4, Nat.le_of_ble_eq_true rfl, Nat.le_of_ble_eq_true rfl⟩
theorem am_cd5 : am_c5.all (am_ckE 0 9 false cX0_valueOf) = true := by decide +kernel
theorem am_ck5 : am_ckM 5 := ⟨am_ckA am_cd5, Nat.le_of_ble_eq_true rfl, Nat.le_of_ble_eq_true rfl⟩
theorem am_cd6 : am_c6.all (am_ckE 1 3 true cX1_init) = true := by decide +kernel
theorem am_ck6 : am_ckM 6 := ⟨am_ckA am_cd6, Nat.le_of_ble_eq_true rfl, Nat.le_of_ble_eq_true rfl⟩
theorem am_cd7 : am_c7.all (am_ckE 1 1 false cX1_playChanges) = true := by decide +kernel
theorem am_ck7 : am_ckM 7 := ⟨am_ckA am_cd7, Nat.le_of_ble_eq_true rfl, Nat.le_of_ble_eq_true rfl⟩
theorem am_cd8 : am_c8.all (am_ckE 1 1 false cX1_textChanges) = true := by decide +kernel
theorem am_ck8 : am_ckM 8 := ⟨am_ckA am_cd8, Nat.le_of_ble_eq_true rfl, Nat.le_of_ble_eq_true rfl⟩
theorem am_cd9 : am_c9.all (am_ckE 1 2 false cX1_findRow) = true := by decide +kernel
theorem am_ck9 : am_ckM 9 := ⟨am_ckA am_cd9, Nat.le_of_ble_eq_true rfl, Nat.le_of_ble_eq_true rfl⟩
theorem am_cd10 : am_c10.all (am_ckE 1 3 false cX1_tryRows) = true := by decide +kernel
theorem am_ck10 : am_ckM 10 := ⟨am_ckA am_cd10, Nat.le_of_ble_eq_true rfl, Nat.le_of_ble_eq_true rfl⟩
theorem am_cd11 : am_c11.all (am_ckE 1 4 false cX1_tryMovesAt) = true := by decide +kernel
theorem am_ck11 : am_ckM 11 := ⟨am_ckA am_cd11, Nat.le_of_ble_eq_true rfl, Nat.le_of_ble_eq_true rfl⟩
theorem am_cd12 : am_c12.all (am_ckE 1 3 false cX1_keepRow) = true := by decide +kernel
theorem am_ck12 : am_ckM 12 := ⟨am_ckA am_cd12, Nat.le_of_ble_eq_true rfl, Nat.le_of_ble_eq_true rfl⟩
theorem am_cd13 : am_c13.all (am_ckE 1 3 false cX1_findEnd) = true := by decide +kernel
theorem am_ck13 : am_ckM 13 := ⟨am_ckA am_cd13, Nat.le_of_ble_eq_true rfl, Nat.le_of_ble_eq_true rfl⟩
theorem am_cd14 : am_c14.all (am_ckE 1 3 false cX1_findRule) = true := by decide +kernel
theorem am_ck14 : am_ckM 14 := ⟨am_ckA am_cd14, Nat.le_of_ble_eq_true rfl, Nat.le_of_ble_eq_true rfl⟩
theorem am_cd15 : am_c15.all (am_ckE 1 5 false cX1_findDrops) = true := by decide +kernel
theorem am_ck15 : am_ckM 15 := ⟨am_ckA am_cd15, Nat.le_of_ble_eq_true rfl, Nat.le_of_ble_eq_true rfl⟩
theorem am_cd16 : am_c16.all (am_ckE 1 3 false cX1_areOpen) = true := by decide +kernel
theorem am_ck16 : am_ckM 16 := ⟨am_ckA am_cd16, Nat.le_of_ble_eq_true rfl, Nat.le_of_ble_eq_true rfl⟩
theorem am_cd17 : am_c17.all (am_ckE 1 3 false cX1_isIn) = true := by decide +kernel
theorem am_ck17 : am_ckM 17 := ⟨am_ckA am_cd17, Nat.le_of_ble_eq_true rfl, Nat.le_of_ble_eq_true rfl⟩
theorem am_cd18 : am_c18.all (am_ckE 1 3 false cX1_letGoAll) = true := by decide +kernel
theorem am_ck18 : am_ckM 18 := ⟨am_ckA am_cd18, Nat.le_of_ble_eq_true rfl, Nat.le_of_ble_eq_true rfl⟩
theorem am_cd19 : am_c19.all (am_ckE 1 4 false cX1_findOffer) = true := by decide +kernel
theorem am_ck19 : am_ckM 19 := ⟨am_ckA am_cd19, Nat.le_of_ble_eq_true rfl, Nat.le_of_ble_eq_true rfl⟩
theorem am_cd20 : am_c20.all (am_ckE 1 4 false cX1_hasteOf) = true := by decide +kernel
theorem am_ck20 : am_ckM 20 := ⟨am_ckA am_cd20, Nat.le_of_ble_eq_true rfl, Nat.le_of_ble_eq_true rfl⟩
theorem am_cd21 : am_c21.all (am_ckE 1 5 false cX1_spareAt) = true := by decide +kernel
theorem am_ck21 : am_ckM 21 := ⟨am_ckA am_cd21, Nat.le_of_ble_eq_true rfl, Nat.le_of_ble_eq_true rfl⟩
theorem am_cd22 : am_c22.all (am_ckE 1 7 false cX1_findAgreed) = true := by decide +kernel
theorem am_ck22 : am_ckM 22 := ⟨am_ckA am_cd22, Nat.le_of_ble_eq_true rfl, Nat.le_of_ble_eq_true rfl⟩
theorem am_cd23 : am_c23.all (am_ckE 1 7 false cX1_findSeats) = true := by decide +kernel
theorem am_ck23 : am_ckM 23 := ⟨am_ckA am_cd23, Nat.le_of_ble_eq_true rfl, Nat.le_of_ble_eq_true rfl⟩
theorem am_cd24 : am_c24.all (am_ckE 1 5 false cX1_orderNext) = true := by decide +kernel
theorem am_ck24 : am_ckM 24 := ⟨am_ckA am_cd24, Nat.le_of_ble_eq_true rfl, Nat.le_of_ble_eq_true rfl⟩
theorem am_cd25 : am_c25.all (am_ckE 1 4 false cX1_swapSeats) = true := by decide +kernel
theorem am_ck25 : am_ckM 25 := ⟨am_ckA am_cd25, Nat.le_of_ble_eq_true rfl, Nat.le_of_ble_eq_true rfl⟩
theorem am_cd26 : am_c26.all (am_ckE 1 5 false cX1_findShares) = true := by decide +kernel
theorem am_ck26 : am_ckM 26 := ⟨am_ckA am_cd26, Nat.le_of_ble_eq_true rfl, Nat.le_of_ble_eq_true rfl⟩
theorem am_cd27 : am_c27.all (am_ckE 1 5 false cX1_wonWith) = true := by decide +kernel
theorem am_ck27 : am_ckM 27 := ⟨am_ckA am_cd27, Nat.le_of_ble_eq_true rfl, Nat.le_of_ble_eq_true rfl⟩
theorem am_cd28 : am_c28.all (am_ckE 1 3 false cX1_keepMost) = true := by decide +kernel
theorem am_ck28 : am_ckM 28 := ⟨am_ckA am_cd28, Nat.le_of_ble_eq_true rfl, Nat.le_of_ble_eq_true rfl⟩
theorem am_cd29 : am_c29.all (am_ckE 1 5 false cX1_follow) = true := by decide +kernel
theorem am_ck29 : am_ckM 29 := ⟨am_ckA am_cd29, Nat.le_of_ble_eq_true rfl, Nat.le_of_ble_eq_true rfl⟩
theorem am_cd30 : am_c30.all (am_ckE 1 7 false cX1_choose) = true := by decide +kernel
theorem am_ck30 : am_ckM 30 := ⟨am_ckA am_cd30, Nat.le_of_ble_eq_true rfl, Nat.le_of_ble_eq_true rfl⟩
theorem am_cd31 : am_c31.all (am_ckE 2 1 true cX2_init) = true := by decide +kernel
theorem am_ck31 : am_ckM 31 := ⟨am_ckA am_cd31, Nat.le_of_ble_eq_true rfl, Nat.le_of_ble_eq_true rfl⟩
theorem am_cd32 : am_c32.all (am_ckE 2 2 false cX2_push) = true := by decide +kernel
theorem am_ck32 : am_ckM 32 := ⟨am_ckA am_cd32, Nat.le_of_ble_eq_true rfl, Nat.le_of_ble_eq_true rfl⟩
theorem am_cd33 : am_c33.all (am_ckE 2 2 false cX2_pop) = true := by decide +kernel
theorem am_ck33 : am_ckM 33 := ⟨am_ckA am_cd33, Nat.le_of_ble_eq_true rfl, Nat.le_of_ble_eq_true rfl⟩
theorem am_cd34 : am_c34.all (am_ckE 2 1 false cX2_clear) = true := by decide +kernel
theorem am_ck34 : am_ckM 34 := ⟨am_ckA am_cd34, Nat.le_of_ble_eq_true rfl, Nat.le_of_ble_eq_true rfl⟩
theorem am_cd35 : am_c35.all (am_ckE 3 1 true cX3_init) = true := by decide +kernel
theorem am_ck35 : am_ckM 35 := ⟨am_ckA am_cd35, Nat.le_of_ble_eq_true rfl, Nat.le_of_ble_eq_true rfl⟩
theorem am_cd36 : am_c36.all (am_ckE 3 2 false cX3_clear) = true := by decide +kernel
theorem am_ck36 : am_ckM 36 := ⟨am_ckA am_cd36, Nat.le_of_ble_eq_true rfl, Nat.le_of_ble_eq_true rfl⟩
theorem am_cd37 : am_c37.all (am_ckE 3 1 false cX3_thinkOneMinute) = true := by decide +kernel
theorem am_ck37 : am_ckM 37 := ⟨am_ckA am_cd37, Nat.le_of_ble_eq_true rfl, Nat.le_of_ble_eq_true rfl⟩
theorem am_cd38 : am_c38.all (am_ckE 3 4 false cX3_tellLaw) = true := by decide +kernel
theorem am_ck38 : am_ckM 38 := ⟨am_ckA am_cd38, Nat.le_of_ble_eq_true rfl, Nat.le_of_ble_eq_true rfl⟩
theorem am_cd39 : am_c39.all (am_ckE 3 2 false cX3_copyFrom) = true := by decide +kernel
theorem am_ck39 : am_ckM 39 := ⟨am_ckA am_cd39, Nat.le_of_ble_eq_true rfl, Nat.le_of_ble_eq_true rfl⟩
theorem am_cd40 : am_c40.all (am_ckE 3 5 false cX3_ask) = true := by decide +kernel
theorem am_ck40 : am_ckM 40 := ⟨am_ckA am_cd40, Nat.le_of_ble_eq_true rfl, Nat.le_of_ble_eq_true rfl⟩
theorem am_cd41 : am_c41.all (am_ckE 4 2 true cX4_init) = true := by decide +kernel
theorem am_ck41 : am_ckM 41 := ⟨am_ckA am_cd41, Nat.le_of_ble_eq_true rfl, Nat.le_of_ble_eq_true rfl⟩
theorem am_cd42 : am_c42.all (am_ckE 4 2 false cX4_setOut) = true := by decide +kernel
theorem am_ck42 : am_ckM 42 := ⟨am_ckA am_cd42, Nat.le_of_ble_eq_true rfl, Nat.le_of_ble_eq_true rfl⟩
theorem am_cd43 : am_c43.all (am_ckE 4 2 false cX4_copyFrom) = true := by decide +kernel
theorem am_ck43 : am_ckM 43 := ⟨am_ckA am_cd43, Nat.le_of_ble_eq_true rfl, Nat.le_of_ble_eq_true rfl⟩
theorem am_cd44 : am_c44.all (am_ckE 4 3 false cX4_writeTo) = true := by decide +kernel
theorem am_ck44 : am_ckM 44 := ⟨am_ckA am_cd44, Nat.le_of_ble_eq_true rfl, Nat.le_of_ble_eq_true rfl⟩
theorem am_cd45 : am_c45.all (am_ckE 4 3 false cX4_readFrom) = true := by decide +kernel
theorem am_ck45 : am_ckM 45 := ⟨am_ckA am_cd45, Nat.le_of_ble_eq_true rfl, Nat.le_of_ble_eq_true rfl⟩
theorem am_cd46 : am_c46.all (am_ckE 4 2 false cX4_isOpen) = true := by decide +kernel
theorem am_ck46 : am_ckM 46 := ⟨am_ckA am_cd46, Nat.le_of_ble_eq_true rfl, Nat.le_of_ble_eq_true rfl⟩
theorem am_cd47 : am_c47.all (am_ckE 4 3 false cX4_openBoards) = true := by decide +kernel
theorem am_ck47 : am_ckM 47 := ⟨am_ckA am_cd47, Nat.le_of_ble_eq_true rfl, Nat.le_of_ble_eq_true rfl⟩
theorem am_cd48 : am_c48.all (am_ckE 4 1 false cX4_isOver) = true := by decide +kernel
theorem am_ck48 : am_ckM 48 := ⟨am_ckA am_cd48, Nat.le_of_ble_eq_true rfl, Nat.le_of_ble_eq_true rfl⟩
theorem am_cd49 : am_c49.all (am_ckE 4 2 false cX4_made) = true := by decide +kernel
theorem am_ck49 : am_ckM 49 := ⟨am_ckA am_cd49, Nat.le_of_ble_eq_true rfl, Nat.le_of_ble_eq_true rfl⟩
theorem am_cd50 : am_c50.all (am_ckE 4 3 false cX4_stepsTo) = true := by decide +kernel
theorem am_ck50 : am_ckM 50 := ⟨am_ckA am_cd50, Nat.le_of_ble_eq_true rfl, Nat.le_of_ble_eq_true rfl⟩
theorem am_cd51 : am_c51.all (am_ckE 4 2 false cX4_soonest) = true := by decide +kernel
theorem am_ck51 : am_ckM 51 := ⟨am_ckA am_cd51, Nat.le_of_ble_eq_true rfl, Nat.le_of_ble_eq_true rfl⟩
theorem am_cd52 : am_c52.all (am_ckE 4 6 false cX4_ask) = true := by decide +kernel
theorem am_ck52 : am_ckM 52 := ⟨am_ckA am_cd52, Nat.le_of_ble_eq_true rfl, Nat.le_of_ble_eq_true rfl⟩
theorem am_cd53 : am_c53.all (am_ckE 4 5 false cX4_gainOf) = true := by decide +kernel
theorem am_ck53 : am_ckM 53 := ⟨am_ckA am_cd53, Nat.le_of_ble_eq_true rfl, Nat.le_of_ble_eq_true rfl⟩
theorem am_cd54 : am_c54.all (am_ckE 4 7 false cX4_makeMove) = true := by decide +kernel
theorem am_ck54 : am_ckM 54 := ⟨am_ckA am_cd54, Nat.le_of_ble_eq_true rfl, Nat.le_of_ble_eq_true rfl⟩
theorem am_cd55 : am_c55.all (am_ckE 4 4 false cX4_makeOffer) = true := by decide +kernel
theorem am_ck55 : am_ckM 55 := ⟨am_ckA am_cd55, Nat.le_of_ble_eq_true rfl, Nat.le_of_ble_eq_true rfl⟩
theorem am_cd56 : am_c56.all (am_ckE 4 2 false cX4_letGo) = true := by decide +kernel
theorem am_ck56 : am_ckM 56 := ⟨am_ckA am_cd56, Nat.le_of_ble_eq_true rfl, Nat.le_of_ble_eq_true rfl⟩
theorem am_cd57 : am_c57.all (am_ckE 4 2 false cX4_dropFlag) = true := by decide +kernel
theorem am_ck57 : am_ckM 57 := ⟨am_ckA am_cd57, Nat.le_of_ble_eq_true rfl, Nat.le_of_ble_eq_true rfl⟩
theorem am_cd58 : am_c58.all (am_ckE 5 3 true cX5_init) = true := by decide +kernel
theorem am_ck58 : am_ckM 58 := ⟨am_ckA am_cd58, Nat.le_of_ble_eq_true rfl, Nat.le_of_ble_eq_true rfl⟩
theorem am_cd59 : am_c59.all (am_ckE 5 2 false cX5_readText) = true := by decide +kernel
theorem am_ck59 : am_ckM 59 := ⟨am_ckA am_cd59, Nat.le_of_ble_eq_true rfl, Nat.le_of_ble_eq_true rfl⟩
theorem am_cd60 : am_c60.all (am_ckE 5 1 false cX5_startAnew) = true := by decide +kernel
theorem am_ck60 : am_ckM 60 := ⟨am_ckA am_cd60, Nat.le_of_ble_eq_true rfl, Nat.le_of_ble_eq_true rfl⟩
theorem am_cd61 : am_c61.all (am_ckE 5 2 false cX5_readBoard) = true := by decide +kernel
theorem am_ck61 : am_ckM 61 := ⟨am_ckA am_cd61, Nat.le_of_ble_eq_true rfl, Nat.le_of_ble_eq_true rfl⟩
theorem am_cd62 : am_c62.all (am_ckE 5 5 false cX5_readNumber) = true := by decide +kernel
theorem am_ck62 : am_ckM 62 := ⟨am_ckA am_cd62, Nat.le_of_ble_eq_true rfl, Nat.le_of_ble_eq_true rfl⟩
theorem am_cd63 : am_c63.all (am_ckE 5 3 false cX5_readThinks) = true := by decide +kernel
theorem am_ck63 : am_ckM 63 := ⟨am_ckA am_cd63, Nat.le_of_ble_eq_true rfl, Nat.le_of_ble_eq_true rfl⟩
theorem am_cd64 : am_c64.all (am_ckE 5 5 false cX5_readLaw) = true := by decide +kernel
theorem am_ck64 : am_ckM 64 := ⟨am_ckA am_cd64, Nat.le_of_ble_eq_true rfl, Nat.le_of_ble_eq_true rfl⟩
theorem am_cd65 : am_c65.all (am_ckE 5 4 false cX5_readSum) = true := by decide +kernel
theorem am_ck65 : am_ckM 65 := ⟨am_ckA am_cd65, Nat.le_of_ble_eq_true rfl, Nat.le_of_ble_eq_true rfl⟩
theorem am_cd66 : am_c66.all (am_ckE 5 4 false cX5_readProduct) = true := by decide +kernel
theorem am_ck66 : am_ckM 66 := ⟨am_ckA am_cd66, Nat.le_of_ble_eq_true rfl, Nat.le_of_ble_eq_true rfl⟩
theorem am_cd67 : am_c67.all (am_ckE 5 2 false cX5_readUnit) = true := by decide +kernel
theorem am_ck67 : am_ckM 67 := ⟨am_ckA am_cd67, Nat.le_of_ble_eq_true rfl, Nat.le_of_ble_eq_true rfl⟩
theorem am_cd68 : am_c68.all (am_ckE 5 5 false cX5_readInt) = true := by decide +kernel
theorem am_ck68 : am_ckM 68 := ⟨am_ckA am_cd68, Nat.le_of_ble_eq_true rfl, Nat.le_of_ble_eq_true rfl⟩
theorem am_cd69 : am_c69.all (am_ckE 5 2 false cX5_findName) = true := by decide +kernel
theorem am_ck69 : am_ckM 69 := ⟨am_ckA am_cd69, Nat.le_of_ble_eq_true rfl, Nat.le_of_ble_eq_true rfl⟩
theorem am_cd70 : am_c70.all (am_ckE 5 2 false cX5_pass) = true := by decide +kernel
theorem am_ck70 : am_ckM 70 := ⟨am_ckA am_cd70, Nat.le_of_ble_eq_true rfl, Nat.le_of_ble_eq_true rfl⟩
theorem am_cd71 : am_c71.all (am_ckE 5 2 false cX5_fail) = true := by decide +kernel
theorem am_ck71 : am_ckM 71 := ⟨am_ckA am_cd71, Nat.le_of_ble_eq_true rfl, Nat.le_of_ble_eq_true rfl⟩
theorem am_cd72 : am_c72.all (am_ckE 5 3 false cX5_noteSlip) = true := by decide +kernel
theorem am_ck72 : am_ckM 72 := ⟨am_ckA am_cd72, Nat.le_of_ble_eq_true rfl, Nat.le_of_ble_eq_true rfl⟩
theorem am_cd73 : am_c73.all (am_ckE 6 1 true cX6_init) = true := by decide +kernel
theorem am_ck73 : am_ckM 73 := ⟨am_ckA am_cd73, Nat.le_of_ble_eq_true rfl, Nat.le_of_ble_eq_true rfl⟩
theorem am_cd74 : am_c74.all (am_ckE 6 3 false cX6_put) = true := by decide +kernel
theorem am_ck74 : am_ckM 74 := ⟨am_ckA am_cd74, Nat.le_of_ble_eq_true rfl, Nat.le_of_ble_eq_true rfl⟩
theorem am_cd75 : am_c75.all (am_ckE 6 3 false cX6_take) = true := by decide +kernel
theorem am_ck75 : am_ckM 75 := ⟨am_ckA am_cd75, Nat.le_of_ble_eq_true rfl, Nat.le_of_ble_eq_true rfl⟩
theorem am_cd76 : am_c76.all (am_ckE 6 3 false cX6_used) = true := by decide +kernel
theorem am_ck76 : am_ckM 76 := ⟨am_ckA am_cd76, Nat.le_of_ble_eq_true rfl, Nat.le_of_ble_eq_true rfl⟩
theorem am_cd77 : am_c77.all (am_ckE 6 2 false cX6_clear) = true := by decide +kernel
theorem am_ck77 : am_ckM 77 := ⟨am_ckA am_cd77, Nat.le_of_ble_eq_true rfl, Nat.le_of_ble_eq_true rfl⟩
theorem am_cd78 : am_c78.all (am_ckE 7 1 true cX7_init) = true := by decide +kernel
theorem am_ck78 : am_ckM 78 := ⟨am_ckA am_cd78, Nat.le_of_ble_eq_true rfl, Nat.le_of_ble_eq_true rfl⟩
theorem am_cd79 : am_c79.all (am_ckE 7 3 false cX7_addInt) = true := by decide +kernel
theorem am_ck79 : am_ckM 79 := ⟨am_ckA am_cd79, Nat.le_of_ble_eq_true rfl, Nat.le_of_ble_eq_true rfl⟩
theorem am_cd80 : am_c80.all (am_ckE 7 4 false cX7_scan) = true := by decide +kernel
theorem am_ck80 : am_ckM 80 := ⟨am_ckA am_cd80, Nat.le_of_ble_eq_true rfl, Nat.le_of_ble_eq_true rfl⟩
theorem am_cd81 : am_c81.all (am_ckE 7 3 false cX7_skipBlanks) = true := by decide +kernel
theorem am_ck81 : am_ckM 81 := ⟨am_ckA am_cd81, Nat.le_of_ble_eq_true rfl, Nat.le_of_ble_eq_true rfl⟩
theorem am_cd82 : am_c82.all (am_ckE 7 3 false cX7_endOfThing) = true := by decide +kernel
theorem am_ck82 : am_ckM 82 := ⟨am_ckA am_cd82, Nat.le_of_ble_eq_true rfl, Nat.le_of_ble_eq_true rfl⟩
theorem am_cd83 : am_c83.all (am_ckE 7 5 false cX7_kindOfThing) = true := by decide +kernel
theorem am_ck83 : am_ckM 83 := ⟨am_ckA am_cd83, Nat.le_of_ble_eq_true rfl, Nat.le_of_ble_eq_true rfl⟩
theorem am_cd84 : am_c84.all (am_ckE 7 6 false cX7_isWord) = true := by decide +kernel
theorem am_ck84 : am_ckM 84 := ⟨am_ckA am_cd84, Nat.le_of_ble_eq_true rfl, Nat.le_of_ble_eq_true rfl⟩
theorem am_cd85 : am_c85.all (am_ckE 7 5 false cX7_valueOfDigits) = true := by decide +kernel
theorem am_ck85 : am_ckM 85 := ⟨am_ckA am_cd85, Nat.le_of_ble_eq_true rfl, Nat.le_of_ble_eq_true rfl⟩
theorem am_cd86 : am_c86.all (am_ckE 7 5 false cX7_areSame) = true := by decide +kernel
theorem am_ck86 : am_ckM 86 := ⟨am_ckA am_cd86, Nat.le_of_ble_eq_true rfl, Nat.le_of_ble_eq_true rfl⟩
theorem am_cd87 : am_c87.all (am_ckE 7 2 false cX7_isBlank) = true := by decide +kernel
theorem am_ck87 : am_ckM 87 := ⟨am_ckA am_cd87, Nat.le_of_ble_eq_true rfl, Nat.le_of_ble_eq_true rfl⟩
theorem am_cd88 : am_c88.all (am_ckE 7 2 false cX7_isLetter) = true := by decide +kernel
theorem am_ck88 : am_ckM 88 := ⟨am_ckA am_cd88, Nat.le_of_ble_eq_true rfl, Nat.le_of_ble_eq_true rfl⟩
theorem am_cd89 : am_c89.all (am_ckE 7 2 false cX7_isDigit) = true := by decide +kernel
theorem am_ck89 : am_ckM 89 := ⟨am_ckA am_cd89, Nat.le_of_ble_eq_true rfl, Nat.le_of_ble_eq_true rfl⟩
theorem am_cd90 : am_c90.all (am_ckE 7 2 false cX7_isSign) = true := by decide +kernel
theorem am_ck90 : am_ckM 90 := ⟨am_ckA am_cd90, Nat.le_of_ble_eq_true rfl, Nat.le_of_ble_eq_true rfl⟩
theorem am_cd91 : am_c91.all (am_ckE 8 2 true cX8_init) = true := by decide +kernel
theorem am_ck91 : am_ckM 91 := ⟨am_ckA am_cd91, Nat.le_of_ble_eq_true rfl, Nat.le_of_ble_eq_true rfl⟩
theorem am_cd92 : am_c92.all (am_ckE 8 3 false cX8_add) = true := by decide +kernel
theorem am_ck92 : am_ckM 92 := ⟨am_ckA am_cd92, Nat.le_of_ble_eq_true rfl, Nat.le_of_ble_eq_true rfl⟩
theorem am_cd93 : am_c93.all (am_ckE 8 2 false cX8_rowsThatFit) = true := by decide +kernel
theorem am_ck93 : am_ckM 93 := ⟨am_ckA am_cd93, Nat.le_of_ble_eq_true rfl, Nat.le_of_ble_eq_true rfl⟩
theorem am_cd94 : am_c94.all (am_ckE 8 7 false cX8_rowsFrom) = true := by decide +kernel
theorem am_ck94 : am_ckM 94 := ⟨am_ckA am_cd94, Nat.le_of_ble_eq_true rfl, Nat.le_of_ble_eq_true rfl⟩
theorem am_cd95 : am_c95.all (am_ckE 8 6 false cX8_canThink) = true := by decide +kernel
theorem am_ck95 : am_ckM 95 := ⟨am_ckA am_cd95, Nat.le_of_ble_eq_true rfl, Nat.le_of_ble_eq_true rfl⟩
theorem am_cd96 : am_c96.all (am_ckE 9 1 true cX9_init) = true := by decide +kernel
theorem am_ck96 : am_ckM 96 := ⟨am_ckA am_cd96, Nat.le_of_ble_eq_true rfl, Nat.le_of_ble_eq_true rfl⟩
theorem am_cd97 : am_c97.all (am_ckE 9 6 false cX9_feed) = true := by decide +kernel
theorem am_ck97 : am_ckM 97 := ⟨am_ckA am_cd97, Nat.le_of_ble_eq_true rfl, Nat.le_of_ble_eq_true rfl⟩
theorem am_cd98 : am_c98.all (am_ckE 9 2 false cX9_back) = true := by decide +kernel
theorem am_ck98 : am_ckM 98 := ⟨am_ckA am_cd98, Nat.le_of_ble_eq_true rfl, Nat.le_of_ble_eq_true rfl⟩
theorem am_cd99 : am_c99.all (am_ckE 9 2 false cX9_read) = true := by decide +kernel
theorem am_ck99 : am_ckM 99 := ⟨am_ckA am_cd99, Nat.le_of_ble_eq_true rfl, Nat.le_of_ble_eq_true rfl⟩
theorem am_cd100 : am_c100.all (am_ckE 9 1 false cX9_place) = true := by decide +kernel
theorem am_ck100 : am_ckM 100 := ⟨am_ckA am_cd100, Nat.le_of_ble_eq_true rfl, Nat.le_of_ble_eq_true rfl⟩
theorem am_cd101 : am_c101.all (am_ckE 9 3 false cX9_board) = true := by decide +kernel
theorem am_ck101 : am_ckM 101 := ⟨am_ckA am_cd101, Nat.le_of_ble_eq_true rfl, Nat.le_of_ble_eq_true rfl⟩
theorem am_cd102 : am_c102.all (am_ckE 9 1 false cX9_sum) = true := by decide +kernel
theorem am_ck102 : am_ckM 102 := ⟨am_ckA am_cd102, Nat.le_of_ble_eq_true rfl, Nat.le_of_ble_eq_true rfl⟩
theorem am_cd103 : am_c103.all (am_ckE 9 3 false cX9_move) = true := by decide +kernel
theorem am_ck103 : am_ckM 103 := ⟨am_ckA am_cd103, Nat.le_of_ble_eq_true rfl, Nat.le_of_ble_eq_true rfl⟩
theorem am_cd104 : am_c104.all (am_ckE 9 2 false cX9_offer) = true := by decide +kernel
theorem am_ck104 : am_ckM 104 := ⟨am_ckA am_cd104, Nat.le_of_ble_eq_true rfl, Nat.le_of_ble_eq_true rfl⟩
theorem am_cd105 : am_c105.all (am_ckE 9 2 false cX9_drop) = true := by decide +kernel
theorem am_ck105 : am_ckM 105 := ⟨am_ckA am_cd105, Nat.le_of_ble_eq_true rfl, Nat.le_of_ble_eq_true rfl⟩
theorem am_cd106 : am_c106.all (am_ckE 9 2 false cX9_pause) = true := by decide +kernel
theorem am_ck106 : am_ckM 106 := ⟨am_ckA am_cd106, Nat.le_of_ble_eq_true rfl, Nat.le_of_ble_eq_true rfl⟩
theorem am_cd107 : am_c107.all (am_ckE 9 1 false cX9_undo) = true := by decide +kernel
theorem am_ck107 : am_ckM 107 := ⟨am_ckA am_cd107, Nat.le_of_ble_eq_true rfl, Nat.le_of_ble_eq_true rfl⟩
theorem am_cd108 : am_c108.all (am_ckE 9 2 false cX9_begins) = true := by decide +kernel
theorem am_ck108 : am_ckM 108 := ⟨am_ckA am_cd108, Nat.le_of_ble_eq_true rfl, Nat.le_of_ble_eq_true rfl⟩
theorem am_cd109 : am_c109.all (am_ckE 9 2 false cX9_best) = true := by decide +kernel
theorem am_ck109 : am_ckM 109 := ⟨am_ckA am_cd109, Nat.le_of_ble_eq_true rfl, Nat.le_of_ble_eq_true rfl⟩
theorem am_cd110 : am_c110.all (am_ckE 9 3 false cX9_bestAt) = true := by decide +kernel
theorem am_ck110 : am_ckM 110 := ⟨am_ckA am_cd110, Nat.le_of_ble_eq_true rfl, Nat.le_of_ble_eq_true rfl⟩
theorem am_cd111 : am_c111.all (am_ckE 9 4 false cX9_rule) = true := by decide +kernel
theorem am_ck111 : am_ckM 111 := ⟨am_ckA am_cd111, Nat.le_of_ble_eq_true rfl, Nat.le_of_ble_eq_true rfl⟩
theorem am_cd112 : am_c112.all (am_ckE 9 2 false cX9_bestRule) = true := by decide +kernel
theorem am_ck112 : am_ckM 112 := ⟨am_ckA am_cd112, Nat.le_of_ble_eq_true rfl, Nat.le_of_ble_eq_true rfl⟩
theorem am_cd113 : am_c113.all (am_ckE 9 4 false cX9_dropBest) = true := by decide +kernel
theorem am_ck113 : am_ckM 113 := ⟨am_ckA am_cd113, Nat.le_of_ble_eq_true rfl, Nat.le_of_ble_eq_true rfl⟩
theorem am_cd114 : am_c114.all (am_ckE 9 4 false cX9_offerBest) = true := by decide +kernel
theorem am_ck114 : am_ckM 114 := ⟨am_ckA am_cd114, Nat.le_of_ble_eq_true rfl, Nat.le_of_ble_eq_true rfl⟩
theorem am_cd115 : am_c115.all (am_ckE 9 4 false cX9_haste) = true := by decide +kernel
theorem am_ck115 : am_ckM 115 := ⟨am_ckA am_cd115, Nat.le_of_ble_eq_true rfl, Nat.le_of_ble_eq_true rfl⟩
theorem am_cd116 : am_c116.all (am_ckE 9 4 false cX9_spare) = true := by decide +kernel
theorem am_ck116 : am_ckM 116 := ⟨am_ckA am_cd116, Nat.le_of_ble_eq_true rfl, Nat.le_of_ble_eq_true rfl⟩
theorem am_cd117 : am_c117.all (am_ckE 9 6 false cX9_agreed) = true := by decide +kernel
theorem am_ck117 : am_ckM 117 := ⟨am_ckA am_cd117, Nat.le_of_ble_eq_true rfl, Nat.le_of_ble_eq_true rfl⟩
theorem am_cd118 : am_c118.all (am_ckE 9 3 false cX9_seats) = true := by decide +kernel
theorem am_ck118 : am_ckM 118 := ⟨am_ckA am_cd118, Nat.le_of_ble_eq_true rfl, Nat.le_of_ble_eq_true rfl⟩
theorem am_cd119 : am_c119.all (am_ckE 9 4 false cX9_seatAt) = true := by decide +kernel
theorem am_ck119 : am_ckM 119 := ⟨am_ckA am_cd119, Nat.le_of_ble_eq_true rfl, Nat.le_of_ble_eq_true rfl⟩
theorem am_cd120 : am_c120.all (am_ckE 9 4 false cX9_shared) = true := by decide +kernel
theorem am_ck120 : am_ckM 120 := ⟨am_ckA am_cd120, Nat.le_of_ble_eq_true rfl, Nat.le_of_ble_eq_true rfl⟩
theorem am_cd121 : am_c121.all (am_ckE 9 3 false cX9_tell) = true := by decide +kernel
theorem am_ck121 : am_ckM 121 := ⟨am_ckA am_cd121, Nat.le_of_ble_eq_true rfl, Nat.le_of_ble_eq_true rfl⟩
theorem am_cd122 : am_c122.all (am_ckE 9 2 false cX9_forget) = true := by decide +kernel
theorem am_ck122 : am_ckM 122 := ⟨am_ckA am_cd122, Nat.le_of_ble_eq_true rfl, Nat.le_of_ble_eq_true rfl⟩
theorem am_cd123 : am_c123.all (am_ckE 9 2 false cX9_fits) = true := by decide +kernel
theorem am_ck123 : am_ckM 123 := ⟨am_ckA am_cd123, Nat.le_of_ble_eq_true rfl, Nat.le_of_ble_eq_true rfl⟩
theorem am_cd124 : am_c124.all (am_ckE 9 2 false cX9_hold) = true := by decide +kernel
theorem am_ck124 : am_ckM 124 := ⟨am_ckA am_cd124, Nat.le_of_ble_eq_true rfl, Nat.le_of_ble_eq_true rfl⟩
theorem am_cd125 : am_c125.all (am_ckE 9 2 false cX9_restore) = true := by decide +kernel
theorem am_ck125 : am_ckM 125 := ⟨am_ckA am_cd125, Nat.le_of_ble_eq_true rfl, Nat.le_of_ble_eq_true rfl⟩
theorem am_cd126 : am_c126.all (am_ckE 9 2 false cX9_count) = true := by decide +kernel
theorem am_ck126 : am_ckM 126 := ⟨am_ckA am_cd126, Nat.le_of_ble_eq_true rfl, Nat.le_of_ble_eq_true rfl⟩
theorem am_cd127 : am_c127.all (am_ckE 9 2 false cX9_isBoard) = true := by decide +kernel
theorem am_ck127 : am_ckM 127 := ⟨am_ckA am_cd127, Nat.le_of_ble_eq_true rfl, Nat.le_of_ble_eq_true rfl⟩
theorem am_cd128 : am_c128.all (am_ckE 9 2 false cX9_isThink) = true := by decide +kernel
theorem am_ck128 : am_ckM 128 := ⟨am_ckA am_cd128, Nat.le_of_ble_eq_true rfl, Nat.le_of_ble_eq_true rfl⟩
theorem am_cd129 : am_c129.all (am_ckE 9 3 false cX9_isRule) = true := by decide +kernel
theorem am_ck129 : am_ckM 129 := ⟨am_ckA am_cd129, Nat.le_of_ble_eq_true rfl, Nat.le_of_ble_eq_true rfl⟩
theorem am_cd130 : am_c130.all (am_ckE 9 2 false cX9_isDepth) = true := by decide +kernel
theorem am_ck130 : am_ckM 130 := ⟨am_ckA am_cd130, Nat.le_of_ble_eq_true rfl, Nat.le_of_ble_eq_true rfl⟩
theorem am_cd131 : am_c131.all (am_ckE 9 2 false cX9_isSlot) = true := by decide +kernel
theorem am_ck131 : am_ckM 131 := ⟨am_ckA am_cd131, Nat.le_of_ble_eq_true rfl, Nat.le_of_ble_eq_true rfl⟩
theorem am_cd132 : am_c132.all (am_ckE 9 2 false cX9_isHalf) = true := by decide +kernel
theorem am_ck132 : am_ckM 132 := ⟨am_ckA am_cd132, Nat.le_of_ble_eq_true rfl, Nat.le_of_ble_eq_true rfl⟩
theorem am_cd133 : am_c133.all (am_ckE 9 2 false cX9_canPlay) = true := by decide +kernel
theorem am_ck133 : am_ckM 133 := ⟨am_ckA am_cd133, Nat.le_of_ble_eq_true rfl, Nat.le_of_ble_eq_true rfl⟩
theorem am_cd134 : am_c134.all (am_ckE 9 1 false cX9_noteWhatStands) = true := by decide +kernel
theorem am_ck134 : am_ckM 134 := ⟨am_ckA am_cd134, Nat.le_of_ble_eq_true rfl, Nat.le_of_ble_eq_true rfl⟩
theorem am_cd135 : am_c135.all (am_ckE 10 2 true cX10_init) = true := by decide +kernel
theorem am_ck135 : am_ckM 135 := ⟨am_ckA am_cd135, Nat.le_of_ble_eq_true rfl, Nat.le_of_ble_eq_true rfl⟩
theorem am_cd136 : am_c136.all (am_ckE 10 6 false cX10_feed) = true := by decide +kernel
theorem am_ck136 : am_ckM 136 := ⟨am_ckA am_cd136, Nat.le_of_ble_eq_true rfl, Nat.le_of_ble_eq_true rfl⟩
theorem am_cd137 : am_c137.all (am_ckE 10 3 false cX10_put) = true := by decide +kernel
theorem am_ck137 : am_ckM 137 := ⟨am_ckA am_cd137, Nat.le_of_ble_eq_true rfl, Nat.le_of_ble_eq_true rfl⟩
theorem am_cd138 : am_c138.all (am_ckE 10 2 false cX10_back) = true := by decide +kernel
theorem am_ck138 : am_ckM 138 := ⟨am_ckA am_cd138, Nat.le_of_ble_eq_true rfl, Nat.le_of_ble_eq_true rfl⟩
theorem am_cd139 : am_c139.all (am_ckE 10 2 false cX10_byteAt) = true := by decide +kernel
theorem am_ck139 : am_ckM 139 := ⟨am_ckA am_cd139, Nat.le_of_ble_eq_true rfl, Nat.le_of_ble_eq_true rfl⟩
theorem am_cd140 : am_c140.all (am_ckE 10 1 false cX10_isDigit) = true := by decide +kernel
theorem am_ck140 : am_ckM 140 := ⟨am_ckA am_cd140, Nat.le_of_ble_eq_true rfl, Nat.le_of_ble_eq_true rfl⟩
theorem am_cd141 : am_c141.all (am_ckE 10 1 false cX10_isLetter) = true := by decide +kernel
theorem am_ck141 : am_ckM 141 := ⟨am_ckA am_cd141, Nat.le_of_ble_eq_true rfl, Nat.le_of_ble_eq_true rfl⟩
theorem am_cd142 : am_c142.all (am_ckE 10 3 false cX10_appends) = true := by decide +kernel
theorem am_ck142 : am_ckM 142 := ⟨am_ckA am_cd142, Nat.le_of_ble_eq_true rfl, Nat.le_of_ble_eq_true rfl⟩
theorem am_cd143 : am_c143.all (am_ckE 10 7 false cX10_word) = true := by decide +kernel
theorem am_ck143 : am_ckM 143 := ⟨am_ckA am_cd143, Nat.le_of_ble_eq_true rfl, Nat.le_of_ble_eq_true rfl⟩
theorem am_cd144 : am_c144.all (am_ckE 10 6 false cX10_token) = true := by decide +kernel
theorem am_ck144 : am_ckM 144 := ⟨am_ckA am_cd144, Nat.le_of_ble_eq_true rfl, Nat.le_of_ble_eq_true rfl⟩
theorem am_cd145 : am_c145.all (am_ckE 10 8 false cX10_cut) = true := by decide +kernel
theorem am_ck145 : am_ckM 145 := ⟨am_ckA am_cd145, Nat.le_of_ble_eq_true rfl, Nat.le_of_ble_eq_true rfl⟩
theorem am_cd146 : am_c146.all (am_ckE 10 5 false cX10_sign) = true := by decide +kernel
theorem am_ck146 : am_ckM 146 := ⟨am_ckA am_cd146, Nat.le_of_ble_eq_true rfl, Nat.le_of_ble_eq_true rfl⟩
theorem am_cd147 : am_c147.all (am_ckE 10 2 false cX10_is) = true := by decide +kernel
theorem am_ck147 : am_ckM 147 := ⟨am_ckA am_cd147, Nat.le_of_ble_eq_true rfl, Nat.le_of_ble_eq_true rfl⟩
theorem am_cd148 : am_c148.all (am_ckE 10 2 false cX10_fail) = true := by decide +kernel
theorem am_ck148 : am_ckM 148 := ⟨am_ckA am_cd148, Nat.le_of_ble_eq_true rfl, Nat.le_of_ble_eq_true rfl⟩
theorem am_cd149 : am_c149.all (am_ckE 10 4 false cX10_wrong) = true := by decide +kernel
theorem am_ck149 : am_ckM 149 := ⟨am_ckA am_cd149, Nat.le_of_ble_eq_true rfl, Nat.le_of_ble_eq_true rfl⟩
theorem am_cd150 : am_c150.all (am_ckE 10 1 false cX10_goesOn) = true := by decide +kernel
theorem am_ck150 : am_ckM 150 := ⟨am_ckA am_cd150, Nat.le_of_ble_eq_true rfl, Nat.le_of_ble_eq_true rfl⟩
theorem am_cd151 : am_c151.all (am_ckE 10 2 false cX10_must) = true := by decide +kernel
theorem am_ck151 : am_ckM 151 := ⟨am_ckA am_cd151, Nat.le_of_ble_eq_true rfl, Nat.le_of_ble_eq_true rfl⟩
theorem am_cd152 : am_c152.all (am_ckE 10 3 false cX10_plain) = true := by decide +kernel
theorem am_ck152 : am_ckM 152 := ⟨am_ckA am_cd152, Nat.le_of_ble_eq_true rfl, Nat.le_of_ble_eq_true rfl⟩
theorem am_cd153 : am_c153.all (am_ckE 10 2 false cX10_read) = true := by decide +kernel
theorem am_ck153 : am_ckM 153 := ⟨am_ckA am_cd153, Nat.le_of_ble_eq_true rfl, Nat.le_of_ble_eq_true rfl⟩
theorem am_cd154 : am_c154.all (am_ckE 10 1 false cX10_place) = true := by decide +kernel
theorem am_ck154 : am_ckM 154 := ⟨am_ckA am_cd154, Nat.le_of_ble_eq_true rfl, Nat.le_of_ble_eq_true rfl⟩
theorem am_cd155 : am_c155.all (am_ckE 10 3 false cX10_tell) = true := by decide +kernel
theorem am_ck155 : am_ckM 155 := ⟨am_ckA am_cd155, Nat.le_of_ble_eq_true rfl, Nat.le_of_ble_eq_true rfl⟩
theorem am_cd156 : am_c156.all (am_ckE 10 3 false cX10_known) = true := by decide +kernel
theorem am_ck156 : am_ckM 156 := ⟨am_ckA am_cd156, Nat.le_of_ble_eq_true rfl, Nat.le_of_ble_eq_true rfl⟩
theorem am_cd157 : am_c157.all (am_ckE 10 4 false cX10_bounded) = true := by decide +kernel
theorem am_ck157 : am_ckM 157 := ⟨am_ckA am_cd157, Nat.le_of_ble_eq_true rfl, Nat.le_of_ble_eq_true rfl⟩
theorem am_cd158 : am_c158.all (am_ckE 10 4 false cX10_tellBoard) = true := by decide +kernel
theorem am_ck158 : am_ckM 158 := ⟨am_ckA am_cd158, Nat.le_of_ble_eq_true rfl, Nat.le_of_ble_eq_true rfl⟩
theorem am_cd159 : am_c159.all (am_ckE 10 2 false cX10_tellThinks) = true := by decide +kernel
theorem am_ck159 : am_ckM 159 := ⟨am_ckA am_cd159, Nat.le_of_ble_eq_true rfl, Nat.le_of_ble_eq_true rfl⟩
theorem am_cd160 : am_c160.all (am_ckE 10 4 false cX10_tellLaw) = true := by decide +kernel
theorem am_ck160 : am_ckM 160 := ⟨am_ckA am_cd160, Nat.le_of_ble_eq_true rfl, Nat.le_of_ble_eq_true rfl⟩
theorem am_cd161 : am_c161.all (am_ckE 10 1 false cX10_term) = true := by decide +kernel
theorem am_ck161 : am_ckM 161 := ⟨am_ckA am_cd161, Nat.le_of_ble_eq_true rfl, Nat.le_of_ble_eq_true rfl⟩
theorem am_cd162 : am_c162.all (am_ckE 10 3 false cX10_emit) = true := by decide +kernel
theorem am_ck162 : am_ckM 162 := ⟨am_ckA am_cd162, Nat.le_of_ble_eq_true rfl, Nat.le_of_ble_eq_true rfl⟩
theorem am_cd163 : am_c163.all (am_ckE 10 3 false cX10_comesOut) = true := by decide +kernel
theorem am_ck163 : am_ckM 163 := ⟨am_ckA am_cd163, Nat.le_of_ble_eq_true rfl, Nat.le_of_ble_eq_true rfl⟩
theorem am_cd164 : am_c164.all (am_ckE 10 3 false cX10_expression) = true := by decide +kernel
theorem am_ck164 : am_ckM 164 := ⟨am_ckA am_cd164, Nat.le_of_ble_eq_true rfl, Nat.le_of_ble_eq_true rfl⟩
theorem am_cd165 : am_c165.all (am_ckE 10 1 false cX10_unit) = true := by decide +kernel
theorem am_ck165 : am_ckM 165 := ⟨am_ckA am_cd165, Nat.le_of_ble_eq_true rfl, Nat.le_of_ble_eq_true rfl⟩
theorem am_cd166 : am_c166.all (am_ckE 10 8 false cX10_termOf) = true := by decide +kernel
theorem am_ck166 : am_ckM 166 := ⟨am_ckA am_cd166, Nat.le_of_ble_eq_true rfl, Nat.le_of_ble_eq_true rfl⟩
theorem am_cd167 : am_c167.all (am_ckE 10 3 false cX10_in) = true := by decide +kernel
theorem am_ck167 : am_ckM 167 := ⟨am_ckA am_cd167, Nat.le_of_ble_eq_true rfl, Nat.le_of_ble_eq_true rfl⟩
theorem am_cd168 : am_c168.all (am_ckE 10 2 false cX10_isBoard) = true := by decide +kernel
theorem am_ck168 : am_ckM 168 := ⟨am_ckA am_cd168, Nat.le_of_ble_eq_true rfl, Nat.le_of_ble_eq_true rfl⟩
theorem am_cd169 : am_c169.all (am_ckE 10 4 false cX10_begins0) = true := by decide +kernel
theorem am_ck169 : am_ckM 169 := ⟨am_ckA am_cd169, Nat.le_of_ble_eq_true rfl, Nat.le_of_ble_eq_true rfl⟩
theorem am_cd170 : am_c170.all (am_ckE 10 2 false cX10_copies) = true := by decide +kernel
theorem am_ck170 : am_ckM 170 := ⟨am_ckA am_cd170, Nat.le_of_ble_eq_true rfl, Nat.le_of_ble_eq_true rfl⟩
theorem am_cd171 : am_c171.all (am_ckE 10 2 false cX10_isOpen) = true := by decide +kernel
theorem am_ck171 : am_ckM 171 := ⟨am_ckA am_cd171, Nat.le_of_ble_eq_true rfl, Nat.le_of_ble_eq_true rfl⟩
theorem am_cd172 : am_c172.all (am_ckE 10 3 false cX10_openAll) = true := by decide +kernel
theorem am_ck172 : am_ckM 172 := ⟨am_ckA am_cd172, Nat.le_of_ble_eq_true rfl, Nat.le_of_ble_eq_true rfl⟩
theorem am_cd173 : am_c173.all (am_ckE 10 1 false cX10_isOver) = true := by decide +kernel
theorem am_ck173 : am_ckM 173 := ⟨am_ckA am_cd173, Nat.le_of_ble_eq_true rfl, Nat.le_of_ble_eq_true rfl⟩
theorem am_cd174 : am_c174.all (am_ckE 10 3 false cX10_stepsTo) = true := by decide +kernel
theorem am_ck174 : am_ckM 174 := ⟨am_ckA am_cd174, Nat.le_of_ble_eq_true rfl, Nat.le_of_ble_eq_true rfl⟩
theorem am_cd175 : am_c175.all (am_ckE 10 3 false cX10_beginsAt) = true := by decide +kernel
theorem am_ck175 : am_ckM 175 := ⟨am_ckA am_cd175, Nat.le_of_ble_eq_true rfl, Nat.le_of_ble_eq_true rfl⟩
theorem am_cd176 : am_c176.all (am_ckE 10 8 false cX10_tells) = true := by decide +kernel
theorem am_ck176 : am_ckM 176 := ⟨am_ckA am_cd176, Nat.le_of_ble_eq_true rfl, Nat.le_of_ble_eq_true rfl⟩
theorem am_cd177 : am_c177.all (am_ckE 10 4 false cX10_setsOf) = true := by decide +kernel
theorem am_ck177 : am_ckM 177 := ⟨am_ckA am_cd177, Nat.le_of_ble_eq_true rfl, Nat.le_of_ble_eq_true rfl⟩
theorem am_cd178 : am_c178.all (am_ckE 10 4 false cX10_worthOf) = true := by decide +kernel
theorem am_ck178 : am_ckM 178 := ⟨am_ckA am_cd178, Nat.le_of_ble_eq_true rfl, Nat.le_of_ble_eq_true rfl⟩
theorem am_cd179 : am_c179.all (am_ckE 10 2 false cX10_falls) = true := by decide +kernel
theorem am_ck179 : am_ckM 179 := ⟨am_ckA am_cd179, Nat.le_of_ble_eq_true rfl, Nat.le_of_ble_eq_true rfl⟩
theorem am_cd180 : am_c180.all (am_ckE 10 6 false cX10_movesFrom) = true := by decide +kernel
theorem am_ck180 : am_ckM 180 := ⟨am_ckA am_cd180, Nat.le_of_ble_eq_true rfl, Nat.le_of_ble_eq_true rfl⟩
theorem am_cd181 : am_c181.all (am_ckE 10 3 false cX10_movesNow) = true := by decide +kernel
theorem am_ck181 : am_ckM 181 := ⟨am_ckA am_cd181, Nat.le_of_ble_eq_true rfl, Nat.le_of_ble_eq_true rfl⟩
theorem am_cd182 : am_c182.all (am_ckE 10 4 false cX10_offersNow) = true := by decide +kernel
theorem am_ck182 : am_ckM 182 := ⟨am_ckA am_cd182, Nat.le_of_ble_eq_true rfl, Nat.le_of_ble_eq_true rfl⟩
theorem am_cd183 : am_c183.all (am_ckE 10 2 false cX10_drops) = true := by decide +kernel
theorem am_ck183 : am_ckM 183 := ⟨am_ckA am_cd183, Nat.le_of_ble_eq_true rfl, Nat.le_of_ble_eq_true rfl⟩
theorem am_cd184 : am_c184.all (am_ckE 10 3 false cX10_board) = true := by decide +kernel
theorem am_ck184 : am_ckM 184 := ⟨am_ckA am_cd184, Nat.le_of_ble_eq_true rfl, Nat.le_of_ble_eq_true rfl⟩
theorem am_cd185 : am_c185.all (am_ckE 10 1 false cX10_sum) = true := by decide +kernel
theorem am_ck185 : am_ckM 185 := ⟨am_ckA am_cd185, Nat.le_of_ble_eq_true rfl, Nat.le_of_ble_eq_true rfl⟩
theorem am_cd186 : am_c186.all (am_ckE 10 2 false cX10_keeps) = true := by decide +kernel
theorem am_ck186 : am_ckM 186 := ⟨am_ckA am_cd186, Nat.le_of_ble_eq_true rfl, Nat.le_of_ble_eq_true rfl⟩
theorem am_cd187 : am_c187.all (am_ckE 10 2 false cX10_isThink) = true := by decide +kernel
theorem am_ck187 : am_ckM 187 := ⟨am_ckA am_cd187, Nat.le_of_ble_eq_true rfl, Nat.le_of_ble_eq_true rfl⟩
theorem am_cd188 : am_c188.all (am_ckE 10 2 false cX10_think) = true := by decide +kernel
theorem am_ck188 : am_ckM 188 := ⟨am_ckA am_cd188, Nat.le_of_ble_eq_true rfl, Nat.le_of_ble_eq_true rfl⟩
theorem am_cd189 : am_c189.all (am_ckE 10 4 false cX10_move) = true := by decide +kernel
theorem am_ck189 : am_ckM 189 := ⟨am_ckA am_cd189, Nat.le_of_ble_eq_true rfl, Nat.le_of_ble_eq_true rfl⟩
theorem am_cd190 : am_c190.all (am_ckE 10 3 false cX10_offer) = true := by decide +kernel
theorem am_ck190 : am_ckM 190 := ⟨am_ckA am_cd190, Nat.le_of_ble_eq_true rfl, Nat.le_of_ble_eq_true rfl⟩
theorem am_cd191 : am_c191.all (am_ckE 10 2 false cX10_drop) = true := by decide +kernel
theorem am_ck191 : am_ckM 191 := ⟨am_ckA am_cd191, Nat.le_of_ble_eq_true rfl, Nat.le_of_ble_eq_true rfl⟩
theorem am_cd192 : am_c192.all (am_ckE 10 2 false cX10_pause) = true := by decide +kernel
theorem am_ck192 : am_ckM 192 := ⟨am_ckA am_cd192, Nat.le_of_ble_eq_true rfl, Nat.le_of_ble_eq_true rfl⟩
theorem am_cd193 : am_c193.all (am_ckE 10 2 false cX10_undo) = true := by decide +kernel
theorem am_ck193 : am_ckM 193 := ⟨am_ckA am_cd193, Nat.le_of_ble_eq_true rfl, Nat.le_of_ble_eq_true rfl⟩
theorem am_cd194 : am_c194.all (am_ckE 10 2 false cX10_begins) = true := by decide +kernel
theorem am_ck194 : am_ckM 194 := ⟨am_ckA am_cd194, Nat.le_of_ble_eq_true rfl, Nat.le_of_ble_eq_true rfl⟩
theorem am_cd195 : am_c195.all (am_ckE 10 3 false cX10_notesRow) = true := by decide +kernel
theorem am_ck195 : am_ckM 195 := ⟨am_ckA am_cd195, Nat.le_of_ble_eq_true rfl, Nat.le_of_ble_eq_true rfl⟩
theorem am_cd196 : am_c196.all (am_ckE 10 2 false cX10_nextAt) = true := by decide +kernel
theorem am_ck196 : am_ckM 196 := ⟨am_ckA am_cd196, Nat.le_of_ble_eq_true rfl, Nat.le_of_ble_eq_true rfl⟩
theorem am_cd197 : am_c197.all (am_ckE 10 3 false cX10_opens) = true := by decide +kernel
theorem am_ck197 : am_ckM 197 := ⟨am_ckA am_cd197, Nat.le_of_ble_eq_true rfl, Nat.le_of_ble_eq_true rfl⟩
theorem am_cd198 : am_c198.all (am_ckE 10 4 false cX10_findsBest) = true := by decide +kernel
theorem am_ck198 : am_ckM 198 := ⟨am_ckA am_cd198, Nat.le_of_ble_eq_true rfl, Nat.le_of_ble_eq_true rfl⟩
theorem am_cd199 : am_c199.all (am_ckE 10 2 false cX10_best) = true := by decide +kernel
theorem am_ck199 : am_ckM 199 := ⟨am_ckA am_cd199, Nat.le_of_ble_eq_true rfl, Nat.le_of_ble_eq_true rfl⟩
theorem am_cd200 : am_c200.all (am_ckE 10 3 false cX10_bestAt) = true := by decide +kernel
theorem am_ck200 : am_ckM 200 := ⟨am_ckA am_cd200, Nat.le_of_ble_eq_true rfl, Nat.le_of_ble_eq_true rfl⟩
theorem am_cd201 : am_c201.all (am_ckE 10 7 false cX10_nextBy) = true := by decide +kernel
theorem am_ck201 : am_ckM 201 := ⟨am_ckA am_cd201, Nat.le_of_ble_eq_true rfl, Nat.le_of_ble_eq_true rfl⟩
theorem am_cd202 : am_c202.all (am_ckE 10 3 false cX10_goesBy) = true := by decide +kernel
theorem am_ck202 : am_ckM 202 := ⟨am_ckA am_cd202, Nat.le_of_ble_eq_true rfl, Nat.le_of_ble_eq_true rfl⟩
theorem am_cd203 : am_c203.all (am_ckE 10 3 false cX10_isRule) = true := by decide +kernel
theorem am_ck203 : am_ckM 203 := ⟨am_ckA am_cd203, Nat.le_of_ble_eq_true rfl, Nat.le_of_ble_eq_true rfl⟩
theorem am_cd204 : am_c204.all (am_ckE 10 5 false cX10_rule) = true := by decide +kernel
theorem am_ck204 : am_ckM 204 := ⟨am_ckA am_cd204, Nat.le_of_ble_eq_true rfl, Nat.le_of_ble_eq_true rfl⟩
theorem am_cd205 : am_c205.all (am_ckE 10 3 false cX10_wonBy) = true := by decide +kernel
theorem am_ck205 : am_ckM 205 := ⟨am_ckA am_cd205, Nat.le_of_ble_eq_true rfl, Nat.le_of_ble_eq_true rfl⟩
theorem am_cd206 : am_c206.all (am_ckE 10 8 false cX10_bestRule) = true := by decide +kernel
theorem am_ck206 : am_ckM 206 := ⟨am_ckA am_cd206, Nat.le_of_ble_eq_true rfl, Nat.le_of_ble_eq_true rfl⟩
theorem am_cd207 : am_c207.all (am_ckE 10 3 false cX10_bits) = true := by decide +kernel
theorem am_ck207 : am_ckM 207 := ⟨am_ckA am_cd207, Nat.le_of_ble_eq_true rfl, Nat.le_of_ble_eq_true rfl⟩
theorem am_cd208 : am_c208.all (am_ckE 10 3 false cX10_canDrop) = true := by decide +kernel
theorem am_ck208 : am_ckM 208 := ⟨am_ckA am_cd208, Nat.le_of_ble_eq_true rfl, Nat.le_of_ble_eq_true rfl⟩
theorem am_cd209 : am_c209.all (am_ckE 10 8 false cX10_dropBest) = true := by decide +kernel
theorem am_ck209 : am_ckM 209 := ⟨am_ckA am_cd209, Nat.le_of_ble_eq_true rfl, Nat.le_of_ble_eq_true rfl⟩
theorem am_cd210 : am_c210.all (am_ckE 10 8 false cX10_offerBest) = true := by decide +kernel
theorem am_ck210 : am_ckM 210 := ⟨am_ckA am_cd210, Nat.le_of_ble_eq_true rfl, Nat.le_of_ble_eq_true rfl⟩
theorem am_cd211 : am_c211.all (am_ckE 10 5 false cX10_haste) = true := by decide +kernel
theorem am_ck211 : am_ckM 211 := ⟨am_ckA am_cd211, Nat.le_of_ble_eq_true rfl, Nat.le_of_ble_eq_true rfl⟩
theorem am_cd212 : am_c212.all (am_ckE 10 5 false cX10_spare) = true := by decide +kernel
theorem am_ck212 : am_ckM 212 := ⟨am_ckA am_cd212, Nat.le_of_ble_eq_true rfl, Nat.le_of_ble_eq_true rfl⟩
theorem am_cd213 : am_c213.all (am_ckE 10 11 false cX10_agreed) = true := by decide +kernel
theorem am_ck213 : am_ckM 213 := ⟨am_ckA am_cd213, Nat.le_of_ble_eq_true rfl, Nat.le_of_ble_eq_true rfl⟩
theorem am_cd214 : am_c214.all (am_ckE 10 7 false cX10_nextOrder) = true := by decide +kernel
theorem am_ck214 : am_ckM 214 := ⟨am_ckA am_cd214, Nat.le_of_ble_eq_true rfl, Nat.le_of_ble_eq_true rfl⟩
theorem am_cd215 : am_c215.all (am_ckE 10 8 false cX10_seatsBy) = true := by decide +kernel
theorem am_ck215 : am_ckM 215 := ⟨am_ckA am_cd215, Nat.le_of_ble_eq_true rfl, Nat.le_of_ble_eq_true rfl⟩
theorem am_cd216 : am_c216.all (am_ckE 10 3 false cX10_seats) = true := by decide +kernel
theorem am_ck216 : am_ckM 216 := ⟨am_ckA am_cd216, Nat.le_of_ble_eq_true rfl, Nat.le_of_ble_eq_true rfl⟩
theorem am_cd217 : am_c217.all (am_ckE 10 4 false cX10_seatAt) = true := by decide +kernel
theorem am_ck217 : am_ckM 217 := ⟨am_ckA am_cd217, Nat.le_of_ble_eq_true rfl, Nat.le_of_ble_eq_true rfl⟩
theorem am_cd218 : am_c218.all (am_ckE 10 9 false cX10_shared) = true := by decide +kernel
theorem am_ck218 : am_ckM 218 := ⟨am_ckA am_cd218, Nat.le_of_ble_eq_true rfl, Nat.le_of_ble_eq_true rfl⟩
theorem am_cd219 : am_c219.all (am_ckE 10 3 false cX10_tell_) = true := by decide +kernel
theorem am_ck219 : am_ckM 219 := ⟨am_ckA am_cd219, Nat.le_of_ble_eq_true rfl, Nat.le_of_ble_eq_true rfl⟩
theorem am_cd220 : am_c220.all (am_ckE 10 2 false cX10_forget) = true := by decide +kernel
theorem am_ck220 : am_ckM 220 := ⟨am_ckA am_cd220, Nat.le_of_ble_eq_true rfl, Nat.le_of_ble_eq_true rfl⟩
theorem am_cd221 : am_c221.all (am_ckE 10 9 false cX10_isSo) = true := by decide +kernel
theorem am_ck221 : am_ckM 221 := ⟨am_ckA am_cd221, Nat.le_of_ble_eq_true rfl, Nat.le_of_ble_eq_true rfl⟩
theorem am_cd222 : am_c222.all (am_ckE 10 5 false cX10_fits) = true := by decide +kernel
theorem am_ck222 : am_ckM 222 := ⟨am_ckA am_cd222, Nat.le_of_ble_eq_true rfl, Nat.le_of_ble_eq_true rfl⟩
theorem am_cd223 : am_c223.all (am_ckE 10 3 false cX10_hold) = true := by decide +kernel
theorem am_ck223 : am_ckM 223 := ⟨am_ckA am_cd223, Nat.le_of_ble_eq_true rfl, Nat.le_of_ble_eq_true rfl⟩
theorem am_cd224 : am_c224.all (am_ckE 10 3 false cX10_restore) = true := by decide +kernel
theorem am_ck224 : am_ckM 224 := ⟨am_ckA am_cd224, Nat.le_of_ble_eq_true rfl, Nat.le_of_ble_eq_true rfl⟩
theorem am_cd225 : am_c225.all (am_ckE 10 2 false cX10_count) = true := by decide +kernel
theorem am_ck225 : am_ckM 225 := ⟨am_ckA am_cd225, Nat.le_of_ble_eq_true rfl, Nat.le_of_ble_eq_true rfl⟩
theorem am_cd226 : am_c226.all (am_ckE 12 1 false cJ6_bitCount_0f7a4) = true := by decide +kernel
theorem am_ck226 : am_ckM 226 := ⟨am_ckA am_cd226, Nat.le_of_ble_eq_true rfl, Nat.le_of_ble_eq_true rfl⟩
theorem am_spl {l : List am_Ent} {f : am_Ent → Bool} (m n k : Nat) (hk : m + n = k) (h : ((l.drop m).take n).all f = true) (h2 : (l.drop k).all f = true) : (l.drop m).all f = true := by
  subst hk
  rw [← List.drop_drop] at h2
  rw [← List.take_append_drop n (l.drop m), List.all_append, h, h2]
  rfl
theorem am_cd227_0 : (List.take 60 (List.drop 0 am_c227)).all (am_ckE 11 4 false cL_law) = true := by decide +kernel
theorem am_cd227_1 : (List.take 60 (List.drop 60 am_c227)).all (am_ckE 11 4 false cL_law) = true := by decide +kernel
theorem am_cd227_2 : (List.take 60 (List.drop 120 am_c227)).all (am_ckE 11 4 false cL_law) = true := by decide +kernel
theorem am_cd227_3 : (List.take 60 (List.drop 180 am_c227)).all (am_ckE 11 4 false cL_law) = true := by decide +kernel
theorem am_cd227_4 : (List.take 60 (List.drop 240 am_c227)).all (am_ckE 11 4 false cL_law) = true := by decide +kernel
theorem am_cd227_5 : (List.take 60 (List.drop 300 am_c227)).all (am_ckE 11 4 false cL_law) = true := by decide +kernel
theorem am_cd227_6 : (List.take 60 (List.drop 360 am_c227)).all (am_ckE 11 4 false cL_law) = true := by decide +kernel
theorem am_cd227_7 : (List.take 60 (List.drop 420 am_c227)).all (am_ckE 11 4 false cL_law) = true := by decide +kernel
theorem am_cd227_8 : (List.take 60 (List.drop 480 am_c227)).all (am_ckE 11 4 false cL_law) = true := by decide +kernel
theorem am_cd227_9 : (List.take 60 (List.drop 540 am_c227)).all (am_ckE 11 4 false cL_law) = true := by decide +kernel
theorem am_cd227_10 : (List.take 60 (List.drop 600 am_c227)).all (am_ckE 11 4 false cL_law) = true := by decide +kernel
theorem am_cd227_11 : (List.take 60 (List.drop 660 am_c227)).all (am_ckE 11 4 false cL_law) = true := by decide +kernel
theorem am_cd227_12 : (List.take 60 (List.drop 720 am_c227)).all (am_ckE 11 4 false cL_law) = true := by decide +kernel
theorem am_cd227_z : (List.drop 780 am_c227).all (am_ckE 11 4 false cL_law) = true := by decide +kernel
theorem am_cd227 : am_c227.all (am_ckE 11 4 false cL_law) = true := am_spl 0 60 60 rfl am_cd227_0 (am_spl 60 60 120 rfl am_cd227_1 (am_spl 120 60 180 rfl am_cd227_2 (am_spl 180 60 240 rfl am_cd227_3 (am_spl 240 60 300 rfl am_cd227_4 (am_spl 300 60 360 rfl am_cd227_5 (am_spl 360 60 420 rfl am_cd227_6 (am_spl 420 60 480 rfl am_cd227_7 (am_spl 480 60 540 rfl am_cd227_8 (am_spl 540 60 600 rfl am_cd227_9 (am_spl 600 60 660 rfl am_cd227_10 (am_spl 660 60 720 rfl am_cd227_11 (am_spl 720 60 780 rfl am_cd227_12 (am_cd227_z)))))))))))))
theorem am_ck227 : am_ckM 227 := ⟨am_ckA am_cd227, Nat.le_of_ble_eq_true rfl, Nat.le_of_ble_eq_true rfl⟩
theorem am_ckk_0 : ∀ k ∈ ([0, 1, 2, 3, 4, 5, 6, 7, 8, 9, 10, 11, 12, 13, 14, 15, 16, 17, 18] : List Nat), am_ckM k := (List.forall_mem_cons.mpr ⟨am_ck0, (List.forall_mem_cons.mpr ⟨am_ck1, (List.forall_mem_cons.mpr ⟨am_ck2, (List.forall_mem_cons.mpr ⟨am_ck3, (List.forall_mem_cons.mpr ⟨am_ck4, (List.forall_mem_cons.mpr ⟨am_ck5, (List.forall_mem_cons.mpr ⟨am_ck6, (List.forall_mem_cons.mpr ⟨am_ck7, (List.forall_mem_cons.mpr ⟨am_ck8, (List.forall_mem_cons.mpr ⟨am_ck9, (List.forall_mem_cons.mpr ⟨am_ck10, (List.forall_mem_cons.mpr ⟨am_ck11, (List.forall_mem_cons.mpr ⟨am_ck12, (List.forall_mem_cons.mpr ⟨am_ck13, (List.forall_mem_cons.mpr ⟨am_ck14, (List.forall_mem_cons.mpr ⟨am_ck15, (List.forall_mem_cons.mpr ⟨am_ck16, (List.forall_mem_cons.mpr ⟨am_ck17, (List.forall_mem_cons.mpr ⟨am_ck18, (fun _ h => absurd h List.not_mem_nil)⟩)⟩)⟩)⟩)⟩)⟩)⟩)⟩)⟩)⟩)⟩)⟩)⟩)⟩)⟩)⟩)⟩)⟩)⟩)
theorem am_ckk_1 : ∀ k ∈ ([19, 20, 21, 22, 23, 24, 25, 26, 27, 28, 29, 30, 31, 32, 33, 34, 35, 36, 37] : List Nat), am_ckM k := (List.forall_mem_cons.mpr ⟨am_ck19, (List.forall_mem_cons.mpr ⟨am_ck20, (List.forall_mem_cons.mpr ⟨am_ck21, (List.forall_mem_cons.mpr ⟨am_ck22, (List.forall_mem_cons.mpr ⟨am_ck23, (List.forall_mem_cons.mpr ⟨am_ck24, (List.forall_mem_cons.mpr ⟨am_ck25, (List.forall_mem_cons.mpr ⟨am_ck26, (List.forall_mem_cons.mpr ⟨am_ck27, (List.forall_mem_cons.mpr ⟨am_ck28, (List.forall_mem_cons.mpr ⟨am_ck29, (List.forall_mem_cons.mpr ⟨am_ck30, (List.forall_mem_cons.mpr ⟨am_ck31, (List.forall_mem_cons.mpr ⟨am_ck32, (List.forall_mem_cons.mpr ⟨am_ck33, (List.forall_mem_cons.mpr ⟨am_ck34, (List.forall_mem_cons.mpr ⟨am_ck35, (List.forall_mem_cons.mpr ⟨am_ck36, (List.forall_mem_cons.mpr ⟨am_ck37, (fun _ h => absurd h List.not_mem_nil)⟩)⟩)⟩)⟩)⟩)⟩)⟩)⟩)⟩)⟩)⟩)⟩)⟩)⟩)⟩)⟩)⟩)⟩)⟩)
theorem am_ckk_2 : ∀ k ∈ ([38, 39, 40, 41, 42, 43, 44, 45, 46, 47, 48, 49, 50, 51, 52, 53, 54, 55, 56] : List Nat), am_ckM k := (List.forall_mem_cons.mpr ⟨am_ck38, (List.forall_mem_cons.mpr ⟨am_ck39, (List.forall_mem_cons.mpr ⟨am_ck40, (List.forall_mem_cons.mpr ⟨am_ck41, (List.forall_mem_cons.mpr ⟨am_ck42, (List.forall_mem_cons.mpr ⟨am_ck43, (List.forall_mem_cons.mpr ⟨am_ck44, (List.forall_mem_cons.mpr ⟨am_ck45, (List.forall_mem_cons.mpr ⟨am_ck46, (List.forall_mem_cons.mpr ⟨am_ck47, (List.forall_mem_cons.mpr ⟨am_ck48, (List.forall_mem_cons.mpr ⟨am_ck49, (List.forall_mem_cons.mpr ⟨am_ck50, (List.forall_mem_cons.mpr ⟨am_ck51, (List.forall_mem_cons.mpr ⟨am_ck52, (List.forall_mem_cons.mpr ⟨am_ck53, (List.forall_mem_cons.mpr ⟨am_ck54, (List.forall_mem_cons.mpr ⟨am_ck55, (List.forall_mem_cons.mpr ⟨am_ck56, (fun _ h => absurd h List.not_mem_nil)⟩)⟩)⟩)⟩)⟩)⟩)⟩)⟩)⟩)⟩)⟩)⟩)⟩)⟩)⟩)⟩)⟩)⟩)⟩)
theorem am_ckk_3 : ∀ k ∈ ([57, 58, 59, 60, 61, 62, 63, 64, 65, 66, 67, 68, 69, 70, 71, 72, 73, 74, 75] : List Nat), am_ckM k := (List.forall_mem_cons.mpr ⟨am_ck57, (List.forall_mem_cons.mpr ⟨am_ck58, (List.forall_mem_cons.mpr ⟨am_ck59, (List.forall_mem_cons.mpr ⟨am_ck60, (List.forall_mem_cons.mpr ⟨am_ck61, (List.forall_mem_cons.mpr ⟨am_ck62, (List.forall_mem_cons.mpr ⟨am_ck63, (List.forall_mem_cons.mpr ⟨am_ck64, (List.forall_mem_cons.mpr ⟨am_ck65, (List.forall_mem_cons.mpr ⟨am_ck66, (List.forall_mem_cons.mpr ⟨am_ck67, (List.forall_mem_cons.mpr ⟨am_ck68, (List.forall_mem_cons.mpr ⟨am_ck69, (List.forall_mem_cons.mpr ⟨am_ck70, (List.forall_mem_cons.mpr ⟨am_ck71, (List.forall_mem_cons.mpr ⟨am_ck72, (List.forall_mem_cons.mpr ⟨am_ck73, (List.forall_mem_cons.mpr ⟨am_ck74, (List.forall_mem_cons.mpr ⟨am_ck75, (fun _ h => absurd h List.not_mem_nil)⟩)⟩)⟩)⟩)⟩)⟩)⟩)⟩)⟩)⟩)⟩)⟩)⟩)⟩)⟩)⟩)⟩)⟩)⟩)
theorem am_ckk_4 : ∀ k ∈ ([76, 77, 78, 79, 80, 81, 82, 83, 84, 85, 86, 87, 88, 89, 90, 91, 92, 93, 94] : List Nat), am_ckM k := (List.forall_mem_cons.mpr ⟨am_ck76, (List.forall_mem_cons.mpr ⟨am_ck77, (List.forall_mem_cons.mpr ⟨am_ck78, (List.forall_mem_cons.mpr ⟨am_ck79, (List.forall_mem_cons.mpr ⟨am_ck80, (List.forall_mem_cons.mpr ⟨am_ck81, (List.forall_mem_cons.mpr ⟨am_ck82, (List.forall_mem_cons.mpr ⟨am_ck83, (List.forall_mem_cons.mpr ⟨am_ck84, (List.forall_mem_cons.mpr ⟨am_ck85, (List.forall_mem_cons.mpr ⟨am_ck86, (List.forall_mem_cons.mpr ⟨am_ck87, (List.forall_mem_cons.mpr ⟨am_ck88, (List.forall_mem_cons.mpr ⟨am_ck89, (List.forall_mem_cons.mpr ⟨am_ck90, (List.forall_mem_cons.mpr ⟨am_ck91, (List.forall_mem_cons.mpr ⟨am_ck92, (List.forall_mem_cons.mpr ⟨am_ck93, (List.forall_mem_cons.mpr ⟨am_ck94, (fun _ h => absurd h List.not_mem_nil)⟩)⟩)⟩)⟩)⟩)⟩)⟩)⟩)⟩)⟩)⟩)⟩)⟩)⟩)⟩)⟩)⟩)⟩)⟩)
set_option maxRecDepth 100000 in
theorem am_ckk_5 : ∀ k ∈ ([95, 96, 97, 98, 99, 100, 101, 102, 103, 104, 105, 106, 107, 108, 109, 110, 111, 112, 113] : List Nat), am_ckM k := (List.forall_mem_cons.mpr ⟨am_ck95, (List.forall_mem_cons.mpr ⟨am_ck96, (List.forall_mem_cons.mpr ⟨am_ck97, (List.forall_mem_cons.mpr ⟨am_ck98, (List.forall_mem_cons.mpr ⟨am_ck99, (List.forall_mem_cons.mpr ⟨am_ck100, (List.forall_mem_cons.mpr ⟨am_ck101, (List.forall_mem_cons.mpr ⟨am_ck102, (List.forall_mem_cons.mpr ⟨am_ck103, (List.forall_mem_cons.mpr ⟨am_ck104, (List.forall_mem_cons.mpr ⟨am_ck105, (List.forall_mem_cons.mpr ⟨am_ck106, (List.forall_mem_cons.mpr ⟨am_ck107, (List.forall_mem_cons.mpr ⟨am_ck108, (List.forall_mem_cons.mpr ⟨am_ck109, (List.forall_mem_cons.mpr ⟨am_ck110, (List.forall_mem_cons.mpr ⟨am_ck111, (List.forall_mem_cons.mpr ⟨am_ck112, (List.forall_mem_cons.mpr ⟨am_ck113, (fun _ h => absurd h List.not_mem_nil)⟩)⟩)⟩)⟩)⟩)⟩)⟩)⟩)⟩)⟩)⟩)⟩)⟩)⟩)⟩)⟩)⟩)⟩)⟩)
set_option maxRecDepth 100000 in
theorem am_ckk_6 : ∀ k ∈ ([114, 115, 116, 117, 118, 119, 120, 121, 122, 123, 124, 125, 126, 127, 128, 129, 130, 131, 132] : List Nat), am_ckM k := (List.forall_mem_cons.mpr ⟨am_ck114, (List.forall_mem_cons.mpr ⟨am_ck115, (List.forall_mem_cons.mpr ⟨am_ck116, (List.forall_mem_cons.mpr ⟨am_ck117, (List.forall_mem_cons.mpr ⟨am_ck118, (List.forall_mem_cons.mpr ⟨am_ck119, (List.forall_mem_cons.mpr ⟨am_ck120, (List.forall_mem_cons.mpr ⟨am_ck121, (List.forall_mem_cons.mpr ⟨am_ck122, (List.forall_mem_cons.mpr ⟨am_ck123, (List.forall_mem_cons.mpr ⟨am_ck124, (List.forall_mem_cons.mpr ⟨am_ck125, (List.forall_mem_cons.mpr ⟨am_ck126, (List.forall_mem_cons.mpr ⟨am_ck127, (List.forall_mem_cons.mpr ⟨am_ck128, (List.forall_mem_cons.mpr ⟨am_ck129, (List.forall_mem_cons.mpr ⟨am_ck130, (List.forall_mem_cons.mpr ⟨am_ck131, (List.forall_mem_cons.mpr ⟨am_ck132, (fun _ h => absurd h List.not_mem_nil)⟩)⟩)⟩)⟩)⟩)⟩)⟩)⟩)⟩)⟩)⟩)⟩)⟩)⟩)⟩)⟩)⟩)⟩)⟩)
set_option maxRecDepth 100000 in
theorem am_ckk_7 : ∀ k ∈ ([133, 134, 135, 136, 137, 138, 139, 140, 141, 142, 143, 144, 145, 146, 147, 148, 149, 150, 151] : List Nat), am_ckM k := (List.forall_mem_cons.mpr ⟨am_ck133, (List.forall_mem_cons.mpr ⟨am_ck134, (List.forall_mem_cons.mpr ⟨am_ck135, (List.forall_mem_cons.mpr ⟨am_ck136, (List.forall_mem_cons.mpr ⟨am_ck137, (List.forall_mem_cons.mpr ⟨am_ck138, (List.forall_mem_cons.mpr ⟨am_ck139, (List.forall_mem_cons.mpr ⟨am_ck140, (List.forall_mem_cons.mpr ⟨am_ck141, (List.forall_mem_cons.mpr ⟨am_ck142, (List.forall_mem_cons.mpr ⟨am_ck143, (List.forall_mem_cons.mpr ⟨am_ck144, (List.forall_mem_cons.mpr ⟨am_ck145, (List.forall_mem_cons.mpr ⟨am_ck146, (List.forall_mem_cons.mpr ⟨am_ck147, (List.forall_mem_cons.mpr ⟨am_ck148, (List.forall_mem_cons.mpr ⟨am_ck149, (List.forall_mem_cons.mpr ⟨am_ck150, (List.forall_mem_cons.mpr ⟨am_ck151, (fun _ h => absurd h List.not_mem_nil)⟩)⟩)⟩)⟩)⟩)⟩)⟩)⟩)⟩)⟩)⟩)⟩)⟩)⟩)⟩)⟩)⟩)⟩)⟩)
set_option maxRecDepth 100000 in
theorem am_ckk_8 : ∀ k ∈ ([152, 153, 154, 155, 156, 157, 158, 159, 160, 161, 162, 163, 164, 165, 166, 167, 168, 169, 170] : List Nat), am_ckM k := (List.forall_mem_cons.mpr ⟨am_ck152, (List.forall_mem_cons.mpr ⟨am_ck153, (List.forall_mem_cons.mpr ⟨am_ck154, (List.forall_mem_cons.mpr ⟨am_ck155, (List.forall_mem_cons.mpr ⟨am_ck156, (List.forall_mem_cons.mpr ⟨am_ck157, (List.forall_mem_cons.mpr ⟨am_ck158, (List.forall_mem_cons.mpr ⟨am_ck159, (List.forall_mem_cons.mpr ⟨am_ck160, (List.forall_mem_cons.mpr ⟨am_ck161, (List.forall_mem_cons.mpr ⟨am_ck162, (List.forall_mem_cons.mpr ⟨am_ck163, (List.forall_mem_cons.mpr ⟨am_ck164, (List.forall_mem_cons.mpr ⟨am_ck165, (List.forall_mem_cons.mpr ⟨am_ck166, (List.forall_mem_cons.mpr ⟨am_ck167, (List.forall_mem_cons.mpr ⟨am_ck168, (List.forall_mem_cons.mpr ⟨am_ck169, (List.forall_mem_cons.mpr ⟨am_ck170, (fun _ h => absurd h List.not_mem_nil)⟩)⟩)⟩)⟩)⟩)⟩)⟩)⟩)⟩)⟩)⟩)⟩)⟩)⟩)⟩)⟩)⟩)⟩)⟩)
set_option maxRecDepth 100000 in
theorem am_ckk_9 : ∀ k ∈ ([171, 172, 173, 174, 175, 176, 177, 178, 179, 180, 181, 182, 183, 184, 185, 186, 187, 188, 189] : List Nat), am_ckM k := (List.forall_mem_cons.mpr ⟨am_ck171, (List.forall_mem_cons.mpr ⟨am_ck172, (List.forall_mem_cons.mpr ⟨am_ck173, (List.forall_mem_cons.mpr ⟨am_ck174, (List.forall_mem_cons.mpr ⟨am_ck175, (List.forall_mem_cons.mpr ⟨am_ck176, (List.forall_mem_cons.mpr ⟨am_ck177, (List.forall_mem_cons.mpr ⟨am_ck178, (List.forall_mem_cons.mpr ⟨am_ck179, (List.forall_mem_cons.mpr ⟨am_ck180, (List.forall_mem_cons.mpr ⟨am_ck181, (List.forall_mem_cons.mpr ⟨am_ck182, (List.forall_mem_cons.mpr ⟨am_ck183, (List.forall_mem_cons.mpr ⟨am_ck184, (List.forall_mem_cons.mpr ⟨am_ck185, (List.forall_mem_cons.mpr ⟨am_ck186, (List.forall_mem_cons.mpr ⟨am_ck187, (List.forall_mem_cons.mpr ⟨am_ck188, (List.forall_mem_cons.mpr ⟨am_ck189, (fun _ h => absurd h List.not_mem_nil)⟩)⟩)⟩)⟩)⟩)⟩)⟩)⟩)⟩)⟩)⟩)⟩)⟩)⟩)⟩)⟩)⟩)⟩)⟩)
set_option maxRecDepth 100000 in
theorem am_ckk_10 : ∀ k ∈ ([190, 191, 192, 193, 194, 195, 196, 197, 198, 199, 200, 201, 202, 203, 204, 205, 206, 207, 208] : List Nat), am_ckM k := (List.forall_mem_cons.mpr ⟨am_ck190, (List.forall_mem_cons.mpr ⟨am_ck191, (List.forall_mem_cons.mpr ⟨am_ck192, (List.forall_mem_cons.mpr ⟨am_ck193, (List.forall_mem_cons.mpr ⟨am_ck194, (List.forall_mem_cons.mpr ⟨am_ck195, (List.forall_mem_cons.mpr ⟨am_ck196, (List.forall_mem_cons.mpr ⟨am_ck197, (List.forall_mem_cons.mpr ⟨am_ck198, (List.forall_mem_cons.mpr ⟨am_ck199, (List.forall_mem_cons.mpr ⟨am_ck200, (List.forall_mem_cons.mpr ⟨am_ck201, (List.forall_mem_cons.mpr ⟨am_ck202, (List.forall_mem_cons.mpr ⟨am_ck203, (List.forall_mem_cons.mpr ⟨am_ck204, (List.forall_mem_cons.mpr ⟨am_ck205, (List.forall_mem_cons.mpr ⟨am_ck206, (List.forall_mem_cons.mpr ⟨am_ck207, (List.forall_mem_cons.mpr ⟨am_ck208, (fun _ h => absurd h List.not_mem_nil)⟩)⟩)⟩)⟩)⟩)⟩)⟩)⟩)⟩)⟩)⟩)⟩)⟩)⟩)⟩)⟩)⟩)⟩)⟩)
set_option maxRecDepth 100000 in
theorem am_ckk_11 : ∀ k ∈ ([209, 210, 211, 212, 213, 214, 215, 216, 217, 218, 219, 220, 221, 222, 223, 224, 225, 226, 227] : List Nat), am_ckM k := (List.forall_mem_cons.mpr ⟨am_ck209, (List.forall_mem_cons.mpr ⟨am_ck210, (List.forall_mem_cons.mpr ⟨am_ck211, (List.forall_mem_cons.mpr ⟨am_ck212, (List.forall_mem_cons.mpr ⟨am_ck213, (List.forall_mem_cons.mpr ⟨am_ck214, (List.forall_mem_cons.mpr ⟨am_ck215, (List.forall_mem_cons.mpr ⟨am_ck216, (List.forall_mem_cons.mpr ⟨am_ck217, (List.forall_mem_cons.mpr ⟨am_ck218, (List.forall_mem_cons.mpr ⟨am_ck219, (List.forall_mem_cons.mpr ⟨am_ck220, (List.forall_mem_cons.mpr ⟨am_ck221, (List.forall_mem_cons.mpr ⟨am_ck222, (List.forall_mem_cons.mpr ⟨am_ck223, (List.forall_mem_cons.mpr ⟨am_ck224, (List.forall_mem_cons.mpr ⟨am_ck225, (List.forall_mem_cons.mpr ⟨am_ck226, (List.forall_mem_cons.mpr ⟨am_ck227, (fun _ h => absurd h List.not_mem_nil)⟩)⟩)⟩)⟩)⟩)⟩)⟩)⟩)⟩)⟩)⟩)⟩)⟩)⟩)⟩)⟩)⟩)⟩)⟩)
theorem am_ckM_ok {k : Nat} (hk : k < 228) : am_ckM k := by
  have h3 : ∀ k, k < 228 → k ∈ ([0, 1, 2, 3, 4, 5, 6, 7, 8, 9, 10, 11, 12, 13, 14, 15, 16, 17, 18] ++ ([19, 20, 21, 22, 23, 24, 25, 26, 27, 28, 29, 30, 31, 32, 33, 34, 35, 36, 37] ++ ([38, 39, 40, 41, 42, 43, 44, 45, 46, 47, 48, 49, 50, 51, 52, 53, 54, 55, 56] ++ ([57, 58, 59, 60, 61, 62, 63, 64, 65, 66, 67, 68, 69, 70, 71, 72, 73, 74, 75] ++ ([76, 77, 78, 79, 80, 81, 82, 83, 84, 85, 86, 87, 88, 89, 90, 91, 92, 93, 94] ++ ([95, 96, 97, 98, 99, 100, 101, 102, 103, 104, 105, 106, 107, 108, 109, 110, 111, 112, 113] ++ ([114, 115, 116, 117, 118, 119, 120, 121, 122, 123, 124, 125, 126, 127, 128, 129, 130, 131, 132] ++ ([133, 134, 135, 136, 137, 138, 139, 140, 141, 142, 143, 144, 145, 146, 147, 148, 149, 150, 151] ++ ([152, 153, 154, 155, 156, 157, 158, 159, 160, 161, 162, 163, 164, 165, 166, 167, 168, 169, 170] ++ ([171, 172, 173, 174, 175, 176, 177, 178, 179, 180, 181, 182, 183, 184, 185, 186, 187, 188, 189] ++ ([190, 191, 192, 193, 194, 195, 196, 197, 198, 199, 200, 201, 202, 203, 204, 205, 206, 207, 208] ++ ([209, 210, 211, 212, 213, 214, 215, 216, 217, 218, 219, 220, 221, 222, 223, 224, 225, 226, 227]))))))))))) : List Nat) := by decide +kernel
  have h := h3 k hk
  exact (List.mem_append.mp h).elim (fun h => am_ckk_0 k h) (fun h => (List.mem_append.mp h).elim (fun h => am_ckk_1 k h) (fun h => (List.mem_append.mp h).elim (fun h => am_ckk_2 k h) (fun h => (List.mem_append.mp h).elim (fun h => am_ckk_3 k h) (fun h => (List.mem_append.mp h).elim (fun h => am_ckk_4 k h) (fun h => (List.mem_append.mp h).elim (fun h => am_ckk_5 k h) (fun h => (List.mem_append.mp h).elim (fun h => am_ckk_6 k h) (fun h => (List.mem_append.mp h).elim (fun h => am_ckk_7 k h) (fun h => (List.mem_append.mp h).elim (fun h => am_ckk_8 k h) (fun h => (List.mem_append.mp h).elim (fun h => am_ckk_9 k h) (fun h => (List.mem_append.mp h).elim (fun h => am_ckk_10 k h) (fun h => am_ckk_11 k h)))))))))))

/-! the text constant: what String.charAt answers of it -/
theorem am_j_c_ca : Cond.code yJ0_charAt_5068e cJ0_charAt_5068e 2 (some .char) ∈ am_W := am_w2 (i := 237) rfl rfl
theorem am_j_i_ca : Cond.instanceMethod yJ0_charAt_5068e ∈ am_W := am_w2 (i := 235) rfl rfl
theorem am_j_s_ca : Cond.selects "java/lang/String" yJ0_charAt_5068e yJ0_charAt_5068e ∈ am_W := am_w2 (i := 236) rfl rfl
theorem am_j_c_il : Cond.code yJ0_isLatin1_aae02 cJ0_isLatin1_aae02 1 (some .boolean) ∈ am_W := am_w3 (i := 1) rfl rfl
theorem am_j_i_il : Cond.instanceMethod yJ0_isLatin1_aae02 ∈ am_W := am_w2 (i := 239) rfl rfl
theorem am_j_s_il : Cond.selects "java/lang/String" yJ0_isLatin1_aae02 yJ0_isLatin1_aae02 ∈ am_W := am_w3 (i := 0) rfl rfl
theorem am_j_c_ci : Cond.code yJ0_checkIndex_df160 cJ0_checkIndex_df160 2 (none) ∈ am_W := am_w3 (i := 9) rfl rfl
theorem am_j_i_ci : Cond.static yJ0_checkIndex_df160 ∈ am_W := am_w3 (i := 8) rfl rfl
theorem am_j_c_lc : Cond.code yJ1_charAt_3b067 cJ1_charAt_3b067 2 (some .char) ∈ am_W := am_w3 (i := 6) rfl rfl
theorem am_j_i_lc : Cond.static yJ1_charAt_3b067 ∈ am_W := am_w3 (i := 5) rfl rfl
theorem am_j_c_pc : Cond.code yJ3_checkIndex_8e157 cJ3_checkIndex_8e157 3 (some .int) ∈ am_W := am_w3 (i := 14) rfl rfl
theorem am_j_i_pc : Cond.static yJ3_checkIndex_8e157 ∈ am_W := am_w3 (i := 13) rfl rfl
theorem am_j_n_S : Cond.initialized "java/lang/String" ∈ am_W := am_w1 (i := 13) rfl rfl
theorem am_j_n_L : Cond.initialized "java/lang/StringLatin1" ∈ am_W := am_w1 (i := 14) rfl rfl
theorem am_j_n_P : Cond.initialized "jdk/internal/util/Preconditions" ∈ am_W := am_w1 (i := 15) rfl rfl
theorem am_j_l_il : Cond.methodLink "java/lang/String" 492 yJ0_isLatin1_aae02 ∈ am_W := am_w2 (i := 238) rfl rfl
theorem am_j_l_lc : Cond.methodLink "java/lang/String" 495 yJ1_charAt_3b067 ∈ am_W := am_w3 (i := 4) rfl rfl
theorem am_j_l_ci : Cond.methodLink "java/lang/StringLatin1" 9 yJ0_checkIndex_df160 ∈ am_W := am_w3 (i := 7) rfl rfl
theorem am_j_l_pc : Cond.methodLink "java/lang/String" 1059 yJ3_checkIndex_8e157 ∈ am_W := am_w3 (i := 12) rfl rfl
theorem am_j_f_val : Cond.fieldLink "java/lang/String" 9 "java/lang/String" "value" "[B" ∈ am_W := am_w7 (i := 125) rfl rfl
theorem am_j_f_cs : Cond.fieldLink "java/lang/String" 38 "java/lang/String" "COMPACT_STRINGS" "Z" ∈ am_W := am_w3 (i := 2) rfl rfl
theorem am_j_f_cod : Cond.fieldLink "java/lang/String" 15 "java/lang/String" "coder" "B" ∈ am_W := am_w7 (i := 124) rfl rfl
theorem am_j_f_sf : Cond.fieldLink "java/lang/String" 1053 "jdk/internal/util/Preconditions" "SIOOBE_FORMATTER" "Ljava/util/function/BiFunction;" ∈ am_W := am_w3 (i := 10) rfl rfl
theorem dJ0_charAt_5068e_0 : decode cJ0_charAt_5068e 0 = .ok (.aload_n 0, 1) := by decide +kernel
theorem dJ0_charAt_5068e_1 : decode cJ0_charAt_5068e 1 = .ok (.invokevirtual 492, 3) := by decide +kernel
theorem dJ0_charAt_5068e_4 : decode cJ0_charAt_5068e 4 = .ok (.ifCond .eq 12, 3) := by decide +kernel
theorem dJ0_charAt_5068e_7 : decode cJ0_charAt_5068e 7 = .ok (.aload_n 0, 1) := by decide +kernel
theorem dJ0_charAt_5068e_8 : decode cJ0_charAt_5068e 8 = .ok (.getfield 9, 3) := by decide +kernel
theorem dJ0_charAt_5068e_11 : decode cJ0_charAt_5068e 11 = .ok (.iload_n 1, 1) := by decide +kernel
theorem dJ0_charAt_5068e_12 : decode cJ0_charAt_5068e 12 = .ok (.invokestatic 495, 3) := by decide +kernel
theorem dJ0_charAt_5068e_15 : decode cJ0_charAt_5068e 15 = .ok (.ireturn, 1) := by decide +kernel
theorem dJ0_charAt_5068e_16 : decode cJ0_charAt_5068e 16 = .ok (.aload_n 0, 1) := by decide +kernel
theorem dJ0_charAt_5068e_17 : decode cJ0_charAt_5068e 17 = .ok (.getfield 9, 3) := by decide +kernel
theorem dJ0_charAt_5068e_20 : decode cJ0_charAt_5068e 20 = .ok (.iload_n 1, 1) := by decide +kernel
theorem dJ0_charAt_5068e_21 : decode cJ0_charAt_5068e 21 = .ok (.invokestatic 498, 3) := by decide +kernel
theorem dJ0_charAt_5068e_24 : decode cJ0_charAt_5068e 24 = .ok (.ireturn, 1) := by decide +kernel
theorem dJ0_isLatin1_aae02_0 : decode cJ0_isLatin1_aae02 0 = .ok (.getstatic 38, 3) := by decide +kernel
theorem dJ0_isLatin1_aae02_3 : decode cJ0_isLatin1_aae02 3 = .ok (.ifCond .eq 14, 3) := by decide +kernel
theorem dJ0_isLatin1_aae02_6 : decode cJ0_isLatin1_aae02 6 = .ok (.aload_n 0, 1) := by decide +kernel
theorem dJ0_isLatin1_aae02_7 : decode cJ0_isLatin1_aae02 7 = .ok (.getfield 15, 3) := by decide +kernel
theorem dJ0_isLatin1_aae02_10 : decode cJ0_isLatin1_aae02 10 = .ok (.ifCond .ne 7, 3) := by decide +kernel
theorem dJ0_isLatin1_aae02_13 : decode cJ0_isLatin1_aae02 13 = .ok (.iconst 1, 1) := by decide +kernel
theorem dJ0_isLatin1_aae02_14 : decode cJ0_isLatin1_aae02 14 = .ok (.goto 4, 3) := by decide +kernel
theorem dJ0_isLatin1_aae02_17 : decode cJ0_isLatin1_aae02 17 = .ok (.iconst 0, 1) := by decide +kernel
theorem dJ0_isLatin1_aae02_18 : decode cJ0_isLatin1_aae02 18 = .ok (.ireturn, 1) := by decide +kernel
theorem dJ0_checkIndex_df160_0 : decode cJ0_checkIndex_df160 0 = .ok (.iload_n 0, 1) := by decide +kernel
theorem dJ0_checkIndex_df160_1 : decode cJ0_checkIndex_df160 1 = .ok (.iload_n 1, 1) := by decide +kernel
theorem dJ0_checkIndex_df160_2 : decode cJ0_checkIndex_df160 2 = .ok (.getstatic 1053, 3) := by decide +kernel
theorem dJ0_checkIndex_df160_5 : decode cJ0_checkIndex_df160 5 = .ok (.invokestatic 1059, 3) := by decide +kernel
theorem dJ0_checkIndex_df160_8 : decode cJ0_checkIndex_df160 8 = .ok (.pop, 1) := by decide +kernel
theorem dJ0_checkIndex_df160_9 : decode cJ0_checkIndex_df160 9 = .ok (.return_, 1) := by decide +kernel
theorem dJ1_charAt_3b067_0 : decode cJ1_charAt_3b067 0 = .ok (.iload_n 1, 1) := by decide +kernel
theorem dJ1_charAt_3b067_1 : decode cJ1_charAt_3b067 1 = .ok (.aload_n 0, 1) := by decide +kernel
theorem dJ1_charAt_3b067_2 : decode cJ1_charAt_3b067 2 = .ok (.arraylength, 1) := by decide +kernel
theorem dJ1_charAt_3b067_3 : decode cJ1_charAt_3b067 3 = .ok (.invokestatic 9, 3) := by decide +kernel
theorem dJ1_charAt_3b067_6 : decode cJ1_charAt_3b067 6 = .ok (.aload_n 0, 1) := by decide +kernel
theorem dJ1_charAt_3b067_7 : decode cJ1_charAt_3b067 7 = .ok (.iload_n 1, 1) := by decide +kernel
theorem dJ1_charAt_3b067_8 : decode cJ1_charAt_3b067 8 = .ok (.baload, 1) := by decide +kernel
theorem dJ1_charAt_3b067_9 : decode cJ1_charAt_3b067 9 = .ok (.sipush 255, 3) := by decide +kernel
theorem dJ1_charAt_3b067_12 : decode cJ1_charAt_3b067 12 = .ok (.iand, 1) := by decide +kernel
theorem dJ1_charAt_3b067_13 : decode cJ1_charAt_3b067 13 = .ok (.i2c, 1) := by decide +kernel
theorem dJ1_charAt_3b067_14 : decode cJ1_charAt_3b067 14 = .ok (.ireturn, 1) := by decide +kernel
theorem dJ3_checkIndex_8e157_0 : decode cJ3_checkIndex_8e157 0 = .ok (.iload_n 0, 1) := by decide +kernel
theorem dJ3_checkIndex_8e157_1 : decode cJ3_checkIndex_8e157 1 = .ok (.ifCond .lt 8, 3) := by decide +kernel
theorem dJ3_checkIndex_8e157_4 : decode cJ3_checkIndex_8e157 4 = .ok (.iload_n 0, 1) := by decide +kernel
theorem dJ3_checkIndex_8e157_5 : decode cJ3_checkIndex_8e157 5 = .ok (.iload_n 1, 1) := by decide +kernel
theorem dJ3_checkIndex_8e157_6 : decode cJ3_checkIndex_8e157 6 = .ok (.if_icmp .lt 10, 3) := by decide +kernel
theorem dJ3_checkIndex_8e157_9 : decode cJ3_checkIndex_8e157 9 = .ok (.aload_n 2, 1) := by decide +kernel
theorem dJ3_checkIndex_8e157_10 : decode cJ3_checkIndex_8e157 10 = .ok (.iload_n 0, 1) := by decide +kernel
theorem dJ3_checkIndex_8e157_11 : decode cJ3_checkIndex_8e157 11 = .ok (.iload_n 1, 1) := by decide +kernel
theorem dJ3_checkIndex_8e157_12 : decode cJ3_checkIndex_8e157 12 = .ok (.invokestatic 95, 3) := by decide +kernel
theorem dJ3_checkIndex_8e157_15 : decode cJ3_checkIndex_8e157 15 = .ok (.athrow, 1) := by decide +kernel
theorem dJ3_checkIndex_8e157_16 : decode cJ3_checkIndex_8e157 16 = .ok (.iload_n 0, 1) := by decide +kernel
theorem dJ3_checkIndex_8e157_17 : decode cJ3_checkIndex_8e157 17 = .ok (.ireturn, 1) := by decide +kernel
def am_QJ (v : Option Value) : Array Value → State → Outcome → State → Prop := fun _ st oc t => oc = .returned v ∧ t.heap = st.heap
theorem am_afterJ {p : Program} {l : Launch} {e : Env} {R : Room} {s : State} {m : MethodId} {args : Array Value} {below : List Frame} {meth : Method} {c : Code} {H : Heap} {locs : List Loc} {cells slots pc : Nat} {Q : State → Prop} {ls : Array Slot} {st0 rest : List Value} {base : Nat} {v : Option Value} {arr : Array Value}
    (hr : va_Run p l e R s m args below meth c H locs cells slots 0 0 (F0 m pc ls st0) rest (am_QJ v arr) (am_A base)) (hS : va_S (am_A base) s.heap H locs)
    (kk : ∀ locs1 : List Loc, va_S (am_A base) s.heap H locs1 → W p l e R s m args below meth c H locs1 cells slots Q (F0 m (pc + 3) ls (v.toList ++ rest))) :
    W p l e R s m args below meth c H locs cells slots Q (F0 m pc ls st0) := by
  intro T hT X
  obtain ⟨v', st₀, t, T', L', h0, X', hL', e1, e2, ⟨hv, hh⟩, st⟩ := hr T hT X
  cases hv
  have hH : T'.heap = H := by rw [e1, hh, h0]
  obtain ⟨t2, a1, b1⟩ := kk (locs ++ L') ⟨hS.1, hS.2.1, fun q hq => by
    rcases List.mem_append.mp hq with h | h
    · exact hS.2.2 q h
    · exact hL' q h⟩ T' hH X'
  exact ⟨t2, st t2 a1, b1⟩
def am_PJ (o : Nat → Nat) (base vb : Nat) (OI : am_I) (av : List Value) : Array Value → State → Prop := fun a U => a = av.toArray ∧ base ≤ U.heap.size ∧ am_old o base vb OI U U.heap
theorem am_PJ_blind {o : Nat → Nat} {base vb : Nat} {OI : am_I} {av : List Value} : FrameBlind (am_PJ o base vb OI av) := fun a U g mk ⟨q1, q2, q6⟩ => ⟨q1, q2, q6.blind g mk a⟩
theorem am_gI {w : Cond} (h : w ∈ am_W) : GoodIn am_W (w :: am_W) := fun x hx => by
  rcases List.mem_cons.mp hx with e0 | hx
  · rw [e0]; exact am_Wg _ h
  · exact am_Wg _ hx
set_option maxHeartbeats 4000000 in
theorem am_j3 (l : Launch) (o : Nat → Nat) (base vb : Nat) (OI : am_I) (i n : Int32) (w : Value) (hw : w = .null ∨ ∃ t, w = .ref t) (h0 : ¬ i < 0) (h1 : i < n) : Met l yJ3_checkIndex_8e157 (Cond.code yJ3_checkIndex_8e157 cJ3_checkIndex_8e157 3 (some .int) :: am_W) ({ frames := 1, cells := 0, slots := 0, locals := 20 }) (am_PJ o base vb OI [.int i, .int n, w]) (am_QJ (some (.int i))) 0 0 (am_A base) := by
  refine Met.ofW (cc := cJ3_checkIndex_8e157) (maxL := 3) (ret := some .int) (by decide) rfl ?_
  intro p e s m args below meth c s₁ B hml hv
  obtain ⟨rfl, hb0, hO⟩ := hv
  have hx := B.exec
  have hb := B.bytes
  have hr := B.returns
  have hlocks := B.notSynchronized
  have hS : va_S (am_A base) s.heap s.heap [] := va_S.rf
  have hl := lv_entry ([.int i, .int n, w]) (n := 3) (by rcases hw with rfl | ⟨t, rfl⟩ <;> exact Nat.le_of_ble_eq_true rfl)
  rw [lg_entry_eq]
  generalize (lg_sl ([.int i, .int n, w]) ++ List.replicate (3 - (lg_sl ([.int i, .int n, w])).length) Slot.unset).toArray = ls at hl ⊢
  have hl : lv_has ls 3 [(0, .int i), (1, .int n), (2, w)] := hl
  refine lv_iload_n hx hb dJ3_checkIndex_8e157_0 rfl (lv_at hl 0 rfl) ?_
  refine lv_if_lt (tgt := 9) hx hb dJ3_checkIndex_8e157_1 (by decide) (fun q => absurd q h0) (fun _ => ?_)
  refine lv_iload_n hx hb dJ3_checkIndex_8e157_4 rfl (lv_at hl 0 rfl) ?_
  refine lv_iload_n hx hb dJ3_checkIndex_8e157_5 rfl (lv_at hl 1 rfl) ?_
  refine lv_icmp_lt (tgt := 16) hx hb dJ3_checkIndex_8e157_6 (by decide) (fun _ => ?_) (fun q => absurd h1 q)
  refine lv_iload_n hx hb dJ3_checkIndex_8e157_16 rfl (lv_at hl 0 rfl) ?_
  exact W.iret hx hb hr (fun t ht _ => ⟨rfl, ht⟩) hS.2.2 dJ3_checkIndex_8e157_17 hlocks
set_option maxHeartbeats 4000000 in
theorem am_j0c (l : Launch) (o : Nat → Nat) (base vb : Nat) (OI : am_I) (i n : Int32) (h0 : ¬ i < 0) (h1 : i < n) : Met l yJ0_checkIndex_df160 (Cond.code yJ0_checkIndex_df160 cJ0_checkIndex_df160 2 none :: am_W) ({ frames := 2, cells := 0, slots := 0, locals := 50 }) (am_PJ o base vb OI [.int i, .int n]) (am_QJ none) 0 0 (am_A base) := by
  refine Met.ofW (cc := cJ0_checkIndex_df160) (maxL := 2) (ret := none) (by decide) rfl ?_
  intro p e s m args below meth c s₁ B hml hv
  obtain ⟨rfl, hb0, hO⟩ := hv
  have hx := B.exec
  have hb := B.bytes
  have hr := B.returns
  have hlocks := B.notSynchronized
  have hts0 := atoms_spec (ws := (Cond.code yJ0_checkIndex_df160 cJ0_checkIndex_df160 2 none :: am_W)) B.pre
  have hts : ∀ w ∈ am_W, w.before #[.int i, .int n] s = true := fun w hw => hts0 w (List.mem_cons_of_mem _ hw)
  have hown : s.vm.findClass "java/lang/String" = some m.cls := findClass_of_methodNamed B.named
  have hS : va_S (am_A base) s.heap s.heap [] := va_S.rf
  have hl := lv_entry ([.int i, .int n]) (n := 2) (Nat.le_of_ble_eq_true rfl)
  rw [lg_entry_eq]
  generalize (lg_sl ([.int i, .int n]) ++ List.replicate (2 - (lg_sl ([.int i, .int n])).length) Slot.unset).toArray = ls at hl ⊢
  have hl : lv_has ls 2 [(0, .int i), (1, .int n)] := hl
  refine lv_iload_n hx hb dJ0_checkIndex_df160_0 rfl (lv_at hl 0 rfl) ?_
  refine lv_iload_n hx hb dJ0_checkIndex_df160_1 rfl (lv_at hl 1 rfl) ?_
  have key : ∀ w : Value, (w = .null ∨ ∃ t, w = .ref t) → W p l e (headSpec (Cond.code yJ0_checkIndex_df160 cJ0_checkIndex_df160 2 none :: am_W) ({ frames := 2, cells := 0, slots := 0, locals := 50 })).room s m #[.int i, .int n] below meth c s.heap [] 0 0 (MQ below (am_QJ none) #[.int i, .int n] s 0 0 (am_A base)) (F0 m 5 ls [w, .int n, .int i]) := by
    intro w hw
    refine am_afterJ (va_runS (As := [.int i, .int n, w]) (rest := []) ⟨hx, hb, hml, hown, hts⟩ (am_j3 l o base vb OI i n w hw h0 h1) ⟨callB_of 3 hts (am_gI am_j_c_pc) rfl rfl rfl (hts _ am_j_n_P) (hts _ am_j_l_pc) (by decide +kernel) ⟨Nat.le_of_ble_eq_true rfl, Nat.le_of_ble_eq_true rfl⟩, hts _ am_j_i_pc⟩ ⟨am_PJ_blind, fun U hU hW => ⟨rfl, by rw [hU]; exact hb0, by rw [hU]; exact hO.next hW hS hb0⟩⟩ rfl rfl hl.1 rfl (lv_room (Nat.le_of_ble_eq_true rfl)) dJ0_checkIndex_df160_5 ⟨Nat.le_of_ble_eq_true rfl, Nat.le_of_ble_eq_true rfl⟩) hS (fun locs1 hS1 => ?_)
    refine lv_pop hx hb dJ0_checkIndex_df160_8 rfl ?_
    exact W.vret hx hb hr (fun t ht _ => ⟨rfl, ht⟩) hS1.2.2 dJ0_checkIndex_df160_9 hlocks
  rcases hO.2.2.2.1.2.2.2.1 with hz | ⟨t, hz⟩
  · exact va_gets hx hb hz hS hown (hts _ am_j_f_sf) (fun _ q => q) dJ0_checkIndex_df160_2 (key _ (Or.inl rfl))
  · exact va_gets hx hb hz hS hown (hts _ am_j_f_sf) (fun _ q => q) dJ0_checkIndex_df160_2 (key _ (Or.inr ⟨t, rfl⟩))
set_option maxHeartbeats 4000000 in
theorem am_j1 (l : Launch) (o : Nat → Nat) (base vb : Nat) (OI : am_I) (i : Int32) (hin : vp_in i 136) : Met l yJ1_charAt_3b067 (Cond.code yJ1_charAt_3b067 cJ1_charAt_3b067 2 (some .char) :: am_W) ({ frames := 3, cells := 0, slots := 0, locals := 80 }) (am_PJ o base vb OI [.ref vb, .int i]) (am_QJ (some (.int (OI 4 i.toNatClampNeg)))) 0 0 (am_A base) := by
  refine Met.ofW (cc := cJ1_charAt_3b067) (maxL := 2) (ret := some .char) (by decide) rfl ?_
  intro p e s m args below meth c s₁ B hml hv
  obtain ⟨rfl, hb0, hO⟩ := hv
  have hx := B.exec
  have hb := B.bytes
  have hr := B.returns
  have hlocks := B.notSynchronized
  have hts0 := atoms_spec (ws := (Cond.code yJ1_charAt_3b067 cJ1_charAt_3b067 2 (some .char) :: am_W)) B.pre
  have hts : ∀ w ∈ am_W, w.before #[.ref vb, .int i] s = true := fun w hw => hts0 w (List.mem_cons_of_mem _ hw)
  have hown : s.vm.findClass "java/lang/StringLatin1" = some m.cls := findClass_of_methodNamed B.named
  have hS : va_S (am_A base) s.heap s.heap [] := va_S.rf
  obtain ⟨j, hj, rfl⟩ := vp_in_of hin (by omega)
  have hT := (hO.2.2.2.1.2.1.1 0 (by omega)).2.2.2
  have hval := hO.2.2.2.1.2.2.2.2 j hj
  have hl := lv_entry ([.ref vb, .int (nI j)]) (n := 2) (Nat.le_of_ble_eq_true rfl)
  rw [lg_entry_eq]
  generalize (lg_sl ([.ref vb, .int (nI j)]) ++ List.replicate (2 - (lg_sl ([.ref vb, .int (nI j)])).length) Slot.unset).toArray = ls at hl ⊢
  have hl : lv_has ls 2 [(0, .ref vb), (1, .int (nI j))] := hl
  refine lv_iload_n hx hb dJ1_charAt_3b067_0 rfl (lv_at hl 1 rfl) ?_
  refine lv_aload_n hx hb dJ1_charAt_3b067_1 rfl (lv_at hl 0 rfl) ?_
  refine va_tlen (v := nI 136) hx hb hT hS rfl dJ1_charAt_3b067_2 ?_
  refine am_afterJ (va_runS (As := [.int (nI j), .int (nI 136)]) (rest := []) ⟨hx, hb, hml, hown, hts⟩ (am_j0c l o base vb OI (nI j) (nI 136) (nI_pos (by omega)) (nI_lt hj (by omega))) ⟨callB_of 2 hts (am_gI am_j_c_ci) rfl rfl rfl (hts _ am_j_n_S) (hts _ am_j_l_ci) (by decide +kernel) ⟨Nat.le_of_ble_eq_true rfl, Nat.le_of_ble_eq_true rfl⟩, hts _ am_j_i_ci⟩ ⟨am_PJ_blind, fun U hU hW => ⟨rfl, by rw [hU]; exact hb0, by rw [hU]; exact hO.next hW hS hb0⟩⟩ rfl rfl hl.1 rfl (lv_room (Nat.le_of_ble_eq_true rfl)) dJ1_charAt_3b067_3 ⟨Nat.le_of_ble_eq_true rfl, Nat.le_of_ble_eq_true rfl⟩) hS (fun locs1 hS1 => ?_)
  refine lv_aload_n hx hb dJ1_charAt_3b067_6 rfl (lv_at hl 0 rfl) ?_
  refine lv_iload_n hx hb dJ1_charAt_3b067_7 rfl (lv_at hl 1 rfl) ?_
  refine va_tb (v := .int (am_txt.getD j 0)) hx hb hT hS1 hin (by rw [nI_clamp (by omega)]; rfl) dJ1_charAt_3b067_8 ?_
  refine lv_sipush (v := 255) hx hb dJ1_charAt_3b067_9 (by decide) ?_
  refine lv_iand hx hb dJ1_charAt_3b067_12 ?_
  have hch : ∀ j, j < 136 → ((am_txt.getD j 0 &&& 255).toUInt32 % 65536).toInt32 = am_txt.getD j 0 ∧ narrow .char (.int (am_txt.getD j 0)) = .int (am_txt.getD j 0) := by decide +kernel
  refine lv_i2c (v := am_txt.getD j 0) hx hb dJ1_charAt_3b067_13 (hch j hj).1 ?_
  rw [nI_clamp (by omega), hval]
  exact W.zret hx hb hr (hch j hj).2 (fun t ht _ => ⟨rfl, ht⟩) hS1.2.2 dJ1_charAt_3b067_14 hlocks
set_option maxHeartbeats 4000000 in
theorem am_j0i (l : Launch) (o : Nat → Nat) (base vb : Nat) (OI : am_I) : Met l yJ0_isLatin1_aae02 (Cond.code yJ0_isLatin1_aae02 cJ0_isLatin1_aae02 1 (some .boolean) :: am_W) ({ frames := 1, cells := 0, slots := 0, locals := 20 }) (am_PJ o base vb OI [.ref (o 4)]) (am_QJ (some (.int 1))) 0 0 (am_A base) := by
  refine Met.ofW (cc := cJ0_isLatin1_aae02) (maxL := 1) (ret := some .boolean) (by decide) rfl ?_
  intro p e s m args below meth c s₁ B hml hv
  obtain ⟨rfl, hb0, hO⟩ := hv
  have hx := B.exec
  have hb := B.bytes
  have hr := B.returns
  have hlocks := B.notSynchronized
  have hts0 := atoms_spec (ws := (Cond.code yJ0_isLatin1_aae02 cJ0_isLatin1_aae02 1 (some .boolean) :: am_W)) B.pre
  have hts : ∀ w ∈ am_W, w.before #[.ref (o 4)] s = true := fun w hw => hts0 w (List.mem_cons_of_mem _ hw)
  have hown : s.vm.findClass "java/lang/String" = some m.cls := findClass_of_methodNamed B.named
  have hS : va_S (am_A base) s.heap s.heap [] := va_S.rf
  have hcod := (hO.2.2.2.1.2.1.1 0 (by omega)).2.1
  have hl := lv_entry ([.ref (o 4)]) (n := 1) (Nat.le_of_ble_eq_true rfl)
  rw [lg_entry_eq]
  generalize (lg_sl ([.ref (o 4)]) ++ List.replicate (1 - (lg_sl ([.ref (o 4)])).length) Slot.unset).toArray = ls at hl ⊢
  have hl : lv_has ls 1 [(0, .ref (o 4))] := hl
  refine va_gets hx hb hO.2.2.2.1.2.2.1 hS hown (hts _ am_j_f_cs) (fun _ q => q) dJ0_isLatin1_aae02_0 ?_
  refine lv_if_eq (tgt := 17) hx hb dJ0_isLatin1_aae02_3 (by decide) (fun q => by cases q) (fun _ => ?_)
  refine lv_aload_n hx hb dJ0_isLatin1_aae02_6 rfl (lv_at hl 0 rfl) ?_
  refine vk_getf hx hb hcod hS hown (hts _ am_j_f_cod) (fun _ q => q) dJ0_isLatin1_aae02_7 ?_
  refine lv_if_ne (tgt := 17) hx hb dJ0_isLatin1_aae02_10 (by decide) (fun q => absurd rfl q) (fun _ => ?_)
  refine lv_iconst (v := 1) hx hb dJ0_isLatin1_aae02_13 (by decide) ?_
  refine lv_goto (tgt := 18) hx hb dJ0_isLatin1_aae02_14 (by decide) ?_
  exact W.zret hx hb hr rfl (fun t ht _ => ⟨rfl, ht⟩) hS.2.2 dJ0_isLatin1_aae02_18 hlocks
set_option maxHeartbeats 4000000 in
theorem am_j0 (l : Launch) (o : Nat → Nat) (base vb : Nat) (OI : am_I) (i : Int32) (hin : vp_in i 136) : Met l yJ0_charAt_5068e (Cond.code yJ0_charAt_5068e cJ0_charAt_5068e 2 (some .char) :: am_W) ({ frames := 4, cells := 0, slots := 0, locals := 110 }) (am_PJ o base vb OI [.ref (o 4), .int i]) (am_QJ (some (.int (OI 4 i.toNatClampNeg)))) 0 0 (am_A base) := by
  refine Met.ofW (cc := cJ0_charAt_5068e) (maxL := 2) (ret := some .char) (by decide) rfl ?_
  intro p e s m args below meth c s₁ B hml hv
  obtain ⟨rfl, hb0, hO⟩ := hv
  have hx := B.exec
  have hb := B.bytes
  have hr := B.returns
  have hlocks := B.notSynchronized
  have hts0 := atoms_spec (ws := (Cond.code yJ0_charAt_5068e cJ0_charAt_5068e 2 (some .char) :: am_W)) B.pre
  have hts : ∀ w ∈ am_W, w.before #[.ref (o 4), .int i] s = true := fun w hw => hts0 w (List.mem_cons_of_mem _ hw)
  have hown : s.vm.findClass "java/lang/String" = some m.cls := findClass_of_methodNamed B.named
  have hS : va_S (am_A base) s.heap s.heap [] := va_S.rf
  have hvk := hO.2.2.2.1.2.1
  have hvf := (hvk.1 0 (by omega)).2.2.1
  have hl := lv_entry ([.ref (o 4), .int i]) (n := 2) (Nat.le_of_ble_eq_true rfl)
  rw [lg_entry_eq]
  generalize (lg_sl ([.ref (o 4), .int i]) ++ List.replicate (2 - (lg_sl ([.ref (o 4), .int i])).length) Slot.unset).toArray = ls at hl ⊢
  have hl : lv_has ls 2 [(0, .ref (o 4)), (1, .int i)] := hl
  refine lv_aload_n hx hb dJ0_charAt_5068e_0 rfl (lv_at hl 0 rfl) ?_
  refine am_afterJ (va_runV (C := "java/lang/String") (b := o 4) (As := []) (rest := []) ⟨hx, hb, hml, hown, hts⟩ (am_j0i l o base vb OI) ⟨callB_of 0 hts (am_gI am_j_c_il) rfl rfl rfl (hts _ am_j_n_S) (hts _ am_j_l_il) (by decide +kernel) ⟨Nat.le_of_ble_eq_true rfl, Nat.le_of_ble_eq_true rfl⟩, hts _ am_j_i_il, hts _ am_j_s_il⟩ ⟨am_PJ_blind, vk_recv hvk (i := 0) (by omega) hS, fun U hU hW => ⟨rfl, by rw [hU]; exact hb0, by rw [hU]; exact hO.next hW hS hb0⟩⟩ rfl rfl hl.1 rfl (lv_room (Nat.le_of_ble_eq_true rfl)) dJ0_charAt_5068e_1 ⟨Nat.le_of_ble_eq_true rfl, Nat.le_of_ble_eq_true rfl⟩) hS (fun locs1 hS1 => ?_)
  refine lv_if_eq (tgt := 16) hx hb dJ0_charAt_5068e_4 (by decide) (fun q => by cases q) (fun _ => ?_)
  refine lv_aload_n hx hb dJ0_charAt_5068e_7 rfl (lv_at hl 0 rfl) ?_
  refine vk_getf hx hb hvf hS1 hown (hts _ am_j_f_val) (fun _ q => q) dJ0_charAt_5068e_8 ?_
  refine lv_iload_n hx hb dJ0_charAt_5068e_11 rfl (lv_at hl 1 rfl) ?_
  refine am_afterJ (va_runS (As := [.ref vb, .int i]) (rest := []) ⟨hx, hb, hml, hown, hts⟩ (am_j1 l o base vb OI i hin) ⟨callB_of 2 hts (am_gI am_j_c_lc) rfl rfl rfl (hts _ am_j_n_L) (hts _ am_j_l_lc) (by decide +kernel) ⟨Nat.le_of_ble_eq_true rfl, Nat.le_of_ble_eq_true rfl⟩, hts _ am_j_i_lc⟩ ⟨am_PJ_blind, fun U hU hW => ⟨rfl, by rw [hU]; exact hb0, by rw [hU]; exact hO.next hW hS1 hb0⟩⟩ rfl rfl hl.1 rfl (lv_room (Nat.le_of_ble_eq_true rfl)) dJ0_charAt_5068e_12 ⟨Nat.le_of_ble_eq_true rfl, Nat.le_of_ble_eq_true rfl⟩) hS1 (fun locs2 hS2 => ?_)
  have hch : ∀ j, j < 136 → narrow .char (.int (am_txt.getD j 0)) = .int (am_txt.getD j 0) := by decide +kernel
  obtain ⟨j, hj, rfl⟩ := vp_in_of hin (by omega)
  have hval := hO.2.2.2.1.2.2.2.2 j hj
  rw [nI_clamp (by omega), hval]
  exact W.zret hx hb hr (hch j hj) (fun t ht _ => ⟨rfl, ht⟩) hS2.2.2 dJ0_charAt_5068e_15 hlocks

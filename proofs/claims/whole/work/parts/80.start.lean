/-! THE CLAIM OUT OF ONE WALK OF THE LAW'S BODY. Your part is whole_start (and what it stands on); all else here is the same for every law, but numbers. -/
def R_law : String := "OneClockLaw"
def lw_P (b : Addr) (xs : List Int32) (args : Array Value) (s : State) : Prop := args = #[.ref b] ∧ s.IntsAt b xs ∧ xs.length ≤ 3072 ∧ (Jvm.Cond.and given_1 narrow_1).before args s = true
def lw_Q (_ : Array Value) (s : State) (o : Outcome) (t : State) : Prop := o = .returned (some (.int 1)) ∧ Framed s o t [] 600000 7302250
def lw_Z (below : List Frame) (a : Array Value) (s : State) : State → Prop := fun t => ∃ o, t.status = .running ∧ Ended t below o ∧ lw_Q a s o t
/-- the law's own end, with 1 on the stack, nothing written that was there before, its room as the claim has it -/
theorem lw_ret {p : Program} {l : Launch} {e : Env} {s : State} {m : MethodId} {below : List Frame} {meth : Method} {c : Code} {b : Nat} (hx : p.tables.exec = Jvm.exec) (hb : c.code = code) (hr : meth.sig.returnType = ret) (hlocks : meth.locks = false) {pc : Nat} {H : Heap} {ls : Array Slot} (hdg : decode code pc = .ok (.ireturn, 1)) : W p l e room_1 s m #[Value.ref b] below meth c H [] 600000 7302250 (lw_Z below #[Value.ref b] s) (F0 m pc ls [.int 1]) := by
  intro T hT X
  obtain ⟨fs, hret, hrun, hended, hW, hframe⟩ := X.leave (v := some (.int 1)) (hlocks := hlocks) (fun h => by rw [hr] at h; cases h)
  have hmeth' : T.vm.method? m = some meth := X.method'
  refine ⟨T.setFrames fs, ?_, .returned (some (.int 1)), hrun, hended, rfl, ⟨_, rfl⟩, hW, hframe⟩
  jvm_step X.here [X.here.top, hx, hb, hdg, hmeth', hr, ret, narrow_b1]
  (try refine ⟨rfl, ?_⟩); (try refine ⟨rfl, ?_⟩)
  first | (intro acts; rw [hret _ acts rfl rfl rfl]) | rw [hret _ _ rfl rfl rfl]
  exact Steps.refl _
/-- what holds at the law's entry: the machine, the code, the tables' words (any of lw_tbl by 'hts w (by decide +kernel)'), the script of L ints xs at the cell b, what the Statement gives of the start (any of its parts by flat_of_before) -/
def lw_At (p : Program) (s : State) (m : MethodId) (meth : Method) (c : Code) (b L : Nat) (xs : Nat → Int32) : Prop :=
  p.tables.exec = Jvm.exec ∧ c.code = code ∧ meth.sig.returnType = ret ∧ c.maxLocals = 4 ∧ s.vm.findClass R_law = some m.cls ∧ (∀ w ∈ lw_tbl, w.before #[Value.ref b] s = true) ∧ va_X b L xs s s.heap ∧ b < s.heap.size ∧ meth.locks = false ∧ (Jvm.Cond.and given_1 narrow_1).before #[Value.ref b] s = true
theorem am_ls_UNTOLD : Cond.laysStatic "OneClock$Plan" "UNTOLD" "[I" ∈ lw_tbl := List.mem_append_right _ (List.mem_append_right _ (List.mem_append_right _ (List.mem_append_left _ (List.mem_of_getElem? (i := 229) rfl))))
theorem am_ls_LEAST : Cond.laysStatic "OneClock$Plan" "LEAST" "[I" ∈ lw_tbl := List.mem_append_right _ (List.mem_append_right _ (List.mem_append_right _ (List.mem_append_left _ (List.mem_of_getElem? (i := 235) rfl))))
theorem am_ls_MOST : Cond.laysStatic "OneClock$Plan" "MOST" "[I" ∈ lw_tbl := List.mem_append_right _ (List.mem_append_right _ (List.mem_append_right _ (List.mem_append_left _ (List.mem_of_getElem? (i := 237) rfl))))
theorem am_ls_COMPACT_STRINGS : Cond.laysStatic "java/lang/String" "COMPACT_STRINGS" "Z" ∈ lw_tbl := List.mem_append_right _ (List.mem_append_right _ (List.mem_append_right _ (List.mem_append_left _ (List.mem_of_getElem? (i := 3) rfl))))
theorem am_ls_SIOOBE_FORMATTER : Cond.laysStatic "jdk/internal/util/Preconditions" "SIOOBE_FORMATTER" "Ljava/util/function/BiFunction;" ∈ lw_tbl := List.mem_append_right _ (List.mem_append_right _ (List.mem_append_right _ (List.mem_append_left _ (List.mem_of_getElem? (i := 11) rfl))))
theorem am_sref : Cond.stringRef "OneClock$Tape" 68 "board   worth   answer  draw    thinks  step    clock   flag    if      then    else    think   move    time    idle    left    sum     " ∈ lw_tbl := List.mem_append_right _ (List.mem_append_right _ (List.mem_append_left _ (List.mem_of_getElem? (i := 233) rfl)))
theorem am_Wl : ∀ w ∈ am_W, w ∈ lw_tbl := fun w h => (List.mem_filter.mp h).1
/-- the old cells' contents -/
def am_I0 (xs : Nat → Int32) (L : Nat) : am_I := fun c k => match c with
  | 0 => if k = 4096 then Int32.ofNat L else xs k
  | 1 => ([1, 1, 0] : List Int32).getD k 0
  | 2 => ([-999, 0, -999] : List Int32).getD k 0
  | 3 => ([999, 99, 999] : List Int32).getD k 0
  | 4 => am_txt.getD k 0
  | _ => 0
/-- what is left to show: the abstract machine runs the law to its end -/
def am_Goal : Prop := ∀ (L : Nat) (xs : Nat → Int32), L ≤ 3072 → ∃ (n : Nat) (μf : am_Mem), am_run am_MT n 12 (am_mi 227) 0 (am_entry 4 [.ref 0]) [] (am_olds, am_I0 xs L, fun _ _ => 0) = some (some (.int 1), μf) ∧ μf.1.length ≤ 600000 ∧ am_sz μf.1 ≤ 7302250
set_option maxRecDepth 100000 in
theorem am_nT : ∀ c, 1 ≤ c → c ≤ 3 → Cond.arrayOf (.static "OneClock$Plan" (am_stn c) "[I") .int ∈ flatC (Jvm.Cond.and given_1 narrow_1) ∧ Cond.eq (.length (.static "OneClock$Plan" (am_stn c) "[I")) (.int 3) ∈ flatC (Jvm.Cond.and given_1 narrow_1) ∧ ∀ j, j < 3 → Cond.eq (.elem (.static "OneClock$Plan" (am_stn c) "[I") (.int (Int32.ofNat j))) (.int (am_I0 (fun _ => 0) 0 c j)) ∈ flatC (Jvm.Cond.and given_1 narrow_1) := by
  intro c h1 h3
  rcases (show c = 1 ∨ c = 2 ∨ c = 3 by omega) with rfl | rfl | rfl
  · exact ⟨by decide +kernel, by decide +kernel, by decide +kernel⟩
  · exact ⟨by decide +kernel, by decide +kernel, by decide +kernel⟩
  · exact ⟨by decide +kernel, by decide +kernel, by decide +kernel⟩
theorem am_nS1 : Cond.exactly (.string "OneClock$Tape" 68) "java/lang/String" ∈ flatC (Jvm.Cond.and given_1 narrow_1) := by decide +kernel
theorem am_nS2 : Cond.eq (.field (.string "OneClock$Tape" 68) "java/lang/String" "coder" "B") (.int 0) ∈ flatC (Jvm.Cond.and given_1 narrow_1) := by decide +kernel
theorem am_nS3 : Cond.arrayOf (.field (.string "OneClock$Tape" 68) "java/lang/String" "value" "[B") .byte ∈ flatC (Jvm.Cond.and given_1 narrow_1) := by decide +kernel
theorem am_nS4 : Cond.eq (.length (.field (.string "OneClock$Tape" 68) "java/lang/String" "value" "[B")) (.int 136) ∈ flatC (Jvm.Cond.and given_1 narrow_1) := by decide +kernel
theorem am_nS5 : ∀ j, j < 136 → Cond.eq (.elem (.field (.string "OneClock$Tape" 68) "java/lang/String" "value" "[B") (.int (Int32.ofNat j))) (.int (am_txt.getD j 0)) ∈ flatC (Jvm.Cond.and given_1 narrow_1) := by decide +kernel
theorem am_nS6 : Cond.eq (.static "java/lang/String" "COMPACT_STRINGS" "Z") (.int 1) ∈ flatC (Jvm.Cond.and given_1 narrow_1) := by decide +kernel
theorem am_nS7 : Cond.isRef (.static "jdk/internal/util/Preconditions" "SIOOBE_FORMATTER" "Ljava/util/function/BiFunction;") ∈ flatC (Jvm.Cond.and given_1 narrow_1) := by decide +kernel
theorem am_clsK {s : State} {args : Array Value} (hts : ∀ w ∈ am_W, w.before args s = true) : ∃ D : va_G, ∀ (c : Nat) (q : vw_C), vwCl[c]? = some q → u_Kn s q.1 q.2.1 q.2.2 (D.1 c) (D.2 c) := by
  have h : ∀ c, ∃ r : ClassId × (Nat → Nat), c < 11 → u_Kn s (am_cls c).1 (am_cls c).2.1 (am_cls c).2.2 r.1 r.2 := by
    intro c
    by_cases hc : c < 11
    · obtain ⟨cC, iS, h⟩ := u_known hts (am_lay c hc) (hts _ (am_ini c hc).2)
      exact ⟨(cC, iS), fun _ => h⟩
    · exact ⟨(0, fun _ => 0), fun q => absurd q hc⟩
  refine ⟨(fun c => (Classical.choose (h c)).1, fun c => (Classical.choose (h c)).2), fun c q hq => ?_⟩
  have hc : c < 11 := (List.getElem?_eq_some_iff.mp hq).1
  have h1 := Classical.choose_spec (h c) hc
  have h2 := am_cl_at hc
  rw [hq] at h2
  have e := Option.some.inj h2
  rw [e]
  exact h1
theorem am_arrK {s : State} {args : Array Value} {ty : FieldType} (hty : ∀ n, ty ≠ .object n) (h : (Cond.arrayClass ty).before args s = true) : ∃ cA : ClassId, ArrOfT s cA ty ∧ va_RA s cA ty := by
  obtain ⟨c, k, comp, h1, h2, h3⟩ := Cond.arrayClass_spec (o := none) (idx := []) h
  refine ⟨c, fun n z => ⟨fun k h => (by cases h), k, h2, comp, h3⟩, ?_⟩
  cases ty <;> first | exact absurd rfl (hty _) | exact h1
set_option maxHeartbeats 4000000 in
theorem whole_start0 (goal : am_Goal) {p : Program} {e : Env} {s : State} {m : MethodId} {below : List Frame} {meth : Method} {c : Code} (l : Launch) (hflags : l.flags = flags0) {b L : Nat} {xs : Nat → Int32} (hL : L ≤ 3072) (C0 : lw_At p s m meth c b L xs) : W p l e room_1 s m #[Value.ref b] below meth c s.heap [] 0 0 (lw_Z below #[Value.ref b] s) (entryFrame m ([Value.ref b] : List Value).toArray 4) := by
  obtain ⟨hx, hb, hr, hml, hown, hts, hX, hbl, hlocks, hgv⟩ := C0
  have htw : ∀ w ∈ am_W, w.before #[Value.ref b] s = true := fun w h => hts w (am_Wl w h)
  have hs := flat_of_before _ hgv
  have hA : ∀ a : Nat, a < s.heap.size → ¬ am_A s.heap.size a := fun a h => Nat.not_le.mpr h
  obtain ⟨D, hD⟩ := am_clsK htw
  obtain ⟨c0, a0⟩ := am_arrK (ty := .int) (fun n h => by cases h) (htw _ am_bw12)
  obtain ⟨c1, a1⟩ := am_arrK (ty := .byte) (fun n h => by cases h) (htw _ am_bw13)
  obtain ⟨c2, a2⟩ := am_arrK (ty := .boolean) (fun n h => by cases h) (htw _ am_bw14)
  obtain ⟨c3, a3⟩ := am_arrK (ty := .long) (fun n h => by cases h) (htw _ am_bw15)
  obtain ⟨cid, hcid⟩ : ∃ cid : Nat → ClassId, cid 0 = c0 ∧ cid 1 = c1 ∧ cid 2 = c2 ∧ cid 3 = c3 := ⟨fun k => match k with
    | 0 => c0
    | 1 => c1
    | 2 => c2
    | _ => c3, rfl, rfl, rfl, rfl⟩
  have hK : va_K D vwCl (am_tys cid) s := by
    refine ⟨hD, fun k q hq => ?_⟩
    unfold am_tys at hq
    rcases k with _ | _ | _ | _ | k
    · cases hq; rw [hcid.1]; exact a0
    · cases hq; rw [hcid.2.1]; exact a1
    · cases hq; rw [hcid.2.2.1]; exact a2
    · cases hq; rw [hcid.2.2.2]; exact a3
    · simp at hq
  have hst : ∀ k, ∃ t : Nat, 1 ≤ k → k ≤ 3 → (Term.static "OneClock$Plan" (am_stn k) "[I").eval #[Value.ref b] s none [] s = some (.ref t) ∧ va_T .int t 3 (fun j => .int (am_I0 xs L k j)) (am_A s.heap.size) s s.heap := by
    intro k
    by_cases hk : 1 ≤ k ∧ k ≤ 3
    · obtain ⟨h1, h2, h3⟩ := am_nT k hk.1 hk.2
      have hI : ∀ j, am_I0 xs L k j = am_I0 (fun _ => 0) 0 k j := by
        intro j
        rcases (show k = 1 ∨ k = 2 ∨ k = 3 by omega) with rfl | rfl | rfl <;> rfl
      obtain ⟨t, ht, hT⟩ := va_Tof (N := 3) (f := fun j => .int (am_I0 xs L k j)) (A := am_A s.heap.size) (by omega) (hs _ h1) (va_eqt (hs _ h2)) (fun j hj => by rw [hI]; exact va_eqt (hs _ (h3 j hj))) hA
      exact ⟨t, fun _ _ => ⟨ht, hT⟩⟩
    · exact ⟨0, fun q1 q2 => absurd ⟨q1, q2⟩ hk⟩
  obtain ⟨adK, adV, hvk, hev⟩ := vk_Sof (N := 1) (tm := fun _ => .string "OneClock$Tape" 68) (len := [136]) (byt := [am_txt]) (A := am_A s.heap.size) (s := s) (args := #[Value.ref b]) (fun i hi => by rcases (show i = 0 by omega) with rfl; decide) (fun i hi => hs _ am_nS1) (fun i hi => hs _ am_nS2) (fun i hi => hs _ am_nS3)
    (fun i hi => by rcases (show i = 0 by omega) with rfl; exact hs _ am_nS4) (fun i hi j hj => by rcases (show i = 0 by omega) with rfl; exact hs _ (am_nS5 j hj)) (fun i j hi hj hne => absurd (by omega) hne) hA
  obtain ⟨o, ho⟩ : ∃ o : Nat → Nat, o 0 = b ∧ (∀ k, 1 ≤ k → k ≤ 3 → o k = Classical.choose (hst k)) ∧ o 4 = adK 0 := ⟨fun k => if k = 0 then b else if k = 4 then adK 0 else Classical.choose (hst k), rfl, fun k h1 h3 => by show (if k = 0 then b else if k = 4 then adK 0 else Classical.choose (hst k)) = _; rw [if_neg (by omega), if_neg (by omega)], rfl⟩
  have hoT : ∀ k, 1 ≤ k → k ≤ 3 → (Term.static "OneClock$Plan" (am_stn k) "[I").eval #[Value.ref b] s none [] s = some (.ref (o k)) ∧ va_T .int (o k) 3 (fun j => .int (am_I0 xs L k j)) (am_A s.heap.size) s s.heap := fun k h1 h3 => by rw [ho.2.1 k h1 h3]; exact Classical.choose_spec (hst k) h1 h3
  have hpc : ∀ k, 1 ≤ k → k ≤ 3 → Cond.laysStatic "OneClock$Plan" (am_stn k) "[I" ∈ lw_tbl := by
    intro k h1 h3
    rcases (show k = 1 ∨ k = 2 ∨ k = 3 by omega) with rfl | rfl | rfl
    · exact am_ls_UNTOLD
    · exact am_ls_LEAST
    · exact am_ls_MOST
  have hvs : vk_S 1 [136] [am_txt] (fun _ => o 4) (fun _ => adV 0) (am_A s.heap.size) s s.heap := by
    refine ⟨fun i hi => ?_, fun i j hi hj _ => by omega⟩
    rcases (show i = 0 by omega) with rfl
    rw [ho.2.2]
    exact hvk.1 0 hi
  have hold : am_old o s.heap.size (adV 0) (am_I0 xs L) s s.heap := by
    refine ⟨⟨L, by omega, rfl, ?_⟩, fun k h1 h3 => ⟨(hoT k h1 h3).2, va_Zref (hts _ (hpc k h1 h3)) (htw _ (am_ini 3 (by omega)).1) (hoT k h1 h3).1 hA⟩, fun k hk => ?_, ⟨vk_R.of (hts _ am_sref) (by rw [ho.2.2]; exact hev 0 (by omega)), hvs, va_Zof (hts _ am_ls_COMPACT_STRINGS) (htw _ am_j_n_S) (va_eqi (hs _ am_nS6)) hA, va_Zqof (hts _ am_ls_SIOOBE_FORMATTER) (htw _ am_j_n_P) (hs _ am_nS7) hA, fun j hj => rfl⟩, fun q hq => va_Nw.of rfl (hts _ (List.mem_append_right _ (am_nst q hq)))⟩
    · rw [ho.1]
      obtain ⟨scr, g1, g2, g3, g4, g5⟩ := hX
      exact ⟨scr, g1, g2, g3, g4, fun j hj => by rw [g5 j hj]; simp only [am_I0]; rw [if_neg (by omega)]⟩
    · rcases (show k = 0 ∨ (1 ≤ k ∧ k ≤ 3) ∨ k = 4 by omega) with rfl | ⟨h1, h3⟩ | rfl
      · rw [ho.1]; exact hbl
      · obtain ⟨cell, g1, -⟩ := (hoT k h1 h3).2
        exact (Array.getElem?_eq_some_iff.mp g1).1
      · rw [ho.2.2]
        obtain ⟨cell, g1, -⟩ := (hvk.1 0 (by omega)).1
        exact (Array.getElem?_eq_some_iff.mp g1).1
  obtain ⟨n, μf, hrun, hcells, hslots⟩ := goal L xs hL
  have hgrow := am_run_grow _ _ _ _ _ _ _ _ _ hrun
  have hL5 : am_olds.length = 5 := rfl
  rw [lg_entry_eq]
  have hLR := am_LR.entry (am_ad o s.heap.size) (nL := 4) [.ref 0] (Nat.le_of_ble_eq_true rfl)
  have e0 : ([.ref 0] : List Value).map (am_val (am_ad o s.heap.size)) = [.ref b] := by
    show [Value.ref (am_ad o s.heap.size 0)] = [.ref b]
    rw [am_ad_old (by omega), ho.1]
  rw [e0] at hLR
  refine am_simAll l D cid o s.heap.size (adV 0) (am_I0 xs L) n p e room_1 s m #[Value.ref b] below meth c 227 12 0 (am_entry 4 [.ref 0]) [] (am_olds, am_I0 xs L, fun _ _ => 0) (some (.int 1)) μf s.heap [] 0 0 _ _ (μf.1.length - am_olds.length) (am_sz μf.1 - am_sz am_olds) (by omega) ⟨⟨hx, hb, hml, hown, htw⟩, hK, hold, Nat.le_refl _, ⟨Nat.le_of_ble_eq_true rfl, Nat.le_of_ble_eq_true rfl, ?_, ?_⟩, fun h => ?_⟩ hrun ⟨⟨[], rfl, fun s hs => by cases hs⟩, fun k q hq => ?_, fun c k hc => rfl⟩ va_S.rf hLR (Nat.zero_add _) (Nat.zero_add _) rfl ?_
  · show _ ≤ 600000
    omega
  · show _ ≤ 7302250
    omega
  · exact absurd h (by decide)
  · rw [am_ws_at, if_neg (by simp only [hL5]; omega)] at hq
    cases hq
  · intro pc H1 locs1 ls1 hret hrel1 hS1
    rcases hret with ⟨z, hz, hdg, -⟩ | ⟨z, hz, -, -⟩ | ⟨hz, -, -⟩
    · cases hz
      refine va_forget hS1.2.2 ?_
      refine W.widen (k := 600000) (n := 7302250) (by omega) (by omega) ?_
      exact lw_ret hx hb hr hlocks hdg
    · cases hz
    · cases hz
def l_len (w : Nat) : Nat := ([5, 5, 6, 4, 6, 4, 5, 4, 2, 4, 4, 5, 4, 4, 4, 4, 3] : List Nat).getD w 0
theorem l_W17 : ∀ w, w < 17 → 1 ≤ l_len w ∧ l_len w ≤ 7 ∧ (∀ i, i < 8 → i < l_len w → x_lt (am_txt.getD (8 * w + i) 0) = true) ∧ (∀ i, i < 8 → l_len w ≤ i → am_txt.getD (8 * w + i) 0 = 32) ∧ l_J0 w = lN (x_key (fun k => am_txt.getD k 0) (8 * w) (l_len w)) := by decide +kernel
theorem l_W17i : ∀ w, w < 17 → ∀ w', w' < 17 → l_J0 w = l_J0 w' → w = w' := by decide +kernel
theorem l_W : x_W (fun k => am_txt.getD k 0) l_J0 := by
  refine ⟨fun w hw => ?_, fun w w' hw hw' e => l_W17i w hw w' hw' e⟩
  obtain ⟨h1, h2, h3, h4, h5⟩ := l_W17 w hw
  exact ⟨l_len w, h1, h2, fun i hi => h3 i (by omega) hi, fun i hi hi8 => h4 i hi8 hi, h5⟩
theorem l_szSH : am_SH.length ≤ 600000 ∧ am_sz am_SH ≤ 7302250 := by decide +kernel
theorem am_goal : am_Goal := by
  intro L xs hL
  obtain ⟨n, μf, h1, h2⟩ := l_goal hL (I0 := am_I0 xs L) (show (if (4096 : Nat) = 4096 then Int32.ofNat L else xs 4096) = nI L from if_pos rfl) ⟨⟨rfl, rfl, rfl⟩, ⟨rfl, rfl, rfl⟩, rfl, rfl, rfl⟩ l_W
  exact ⟨n, μf, h1, by rw [h2]; exact l_szSH.1, by rw [h2]; exact l_szSH.2⟩
theorem whole_start {p : Program} {e : Env} {s : State} {m : MethodId} {below : List Frame} {meth : Method} {c : Code} (l : Launch) (hflags : l.flags = flags0) {b L : Nat} {xs : Nat → Int32} (hL : L ≤ 3072) (C0 : lw_At p s m meth c b L xs) : W p l e room_1 s m #[Value.ref b] below meth c s.heap [] 0 0 (lw_Z below #[Value.ref b] s) (entryFrame m ([Value.ref b] : List Value).toArray 4) := whole_start0 am_goal l hflags hL C0
-- ===== YOUR PART ENDS =====
set_option maxHeartbeats 4000000 in
theorem lw_walk (l : Launch) (hflags : l.flags = flags0) (b : Addr) (xs : List Int32) : MetFree l x (headSpec (Jvm.Cond.code x code maxLocals ret :: tables_1) room_1) (lw_P b xs) (fun _ _ _ _ _ => True) lw_Q := by
  refine MetFree.of_bodyS (code := code) (maxLocals := maxLocals) (ret := ret) (by decide) ?_ ?_
  · intro args s m h hn
    obtain ⟨meth, c, h1, h2, h3, h4, h5, h6, -, -⟩ := Cond.code_spec hn (atoms_spec (ws := Jvm.Cond.code x code maxLocals ret :: tables_1) h _ List.mem_cons_self)
    exact ⟨meth, c, h1, h2, h3, h4, h5, h6⟩
  · intro p e s m args below meth c s₁ B hml0 hP _
    obtain ⟨rfl, hx, hbd, hgv⟩ := hP
    obtain ⟨scr, harrAt, hlist, hof, hsmall⟩ := hx
    obtain ⟨hcb, hkn, -, -⟩ := State.arrayAt?_spec harrAt
    have hown : s.vm.findClass R_law = some m.cls := findClass_of_methodNamed B.named
    have hts0 : ∀ c ∈ (Jvm.Cond.code x code maxLocals ret :: tables_1), c.before #[Value.ref b] s = true := atoms_spec (ws := Jvm.Cond.code x code maxLocals ret :: tables_1) B.pre
    have hts : ∀ w ∈ lw_tbl, w.before #[Value.ref b] s = true := k2_hts_sels lw_privs (fun w hw => hts0 w (List.mem_cons_of_mem _ hw)) lw_privs_ok
    have hml : c.maxLocals = 4 := B.maxLocals_eq (hts0 _ List.mem_cons_self)
    have X₀ : Stand p l e room_1 s m #[Value.ref b] below meth c s₁ [] 0 0 := Stand.of_body B
    have hh0 : s₁.heap = s.heap := by rw [B.state]; rfl
    have hsz : scr.slots.size = xs.length := by rw [← Array.length_toList, hlist, List.length_map]
    have hval : ∀ j : Nat, j < xs.length → scr.slots[j]? = some (.int (xs.getD j 0)) := fun j hj => by
      rw [← Array.getElem?_toList, hlist]
      simp [hj]
    have hbl : b < s.heap.size := (Array.getElem?_eq_some_iff.mp hcb).1
    have hX : va_X b xs.length (fun j => xs.getD j 0) s s.heap := ⟨scr, hcb, hof, hkn, hsz, hval⟩
    have K : W p l e room_1 s m #[Value.ref b] below meth c s₁.heap [] 0 0 (lw_Z below #[Value.ref b] s) (entryFrame m ([Value.ref b] : List Value).toArray 4) := by
      rw [hh0]
      exact whole_start l hflags hbd ⟨B.exec, B.bytes, B.returns, hml, hown, hts, hX, hbl, B.notSynchronized, hgv⟩
    obtain ⟨t, a1, o, b1, b2, b3⟩ := K s₁ rfl X₀
    exact ⟨t, o, a1, b1, b2, b3⟩
theorem lw_pre_spec {args : Array Value} {s : State} (h : (Jvm.Cond.and given_1 narrow_1).before args s = true) (hr : rest_1_c.before args s = true) : ∃ (b : Addr) (xs : List Int32), lw_P b xs args s := by
  have hs := flat_of_before _ h
  have hq := flat_of_before _ hr
  have hc : (Cond.count 1).before args s = true := hs _ (by decide +kernel)
  have harr : (Cond.arrayOf (.arg 0) .int).before args s = true := hs _ (by decide +kernel)
  have hle : (Cond.le (.length (.arg 0)) (.int 3072)).before args s = true := hs _ (by decide +kernel)
  have hlen : (Cond.isInt (.length (.arg 0))).before args s = true := hq _ (by decide +kernel)
  have hall : (Cond.all (.arg 0) (.isInt (.elem (.arg 0) (.index 0)))).before args s = true := hq _ (by decide +kernel)
  obtain ⟨b, xs, hb, hx⟩ := State.ints_of_pre rfl harr hlen hall
  have hsm : xs.length < 2 ^ 31 := hx.choose_spec.2.2.2
  have hev : (Term.length (.arg 0)).eval args s none [] s = some (.int xs.length.toInt32) := hx.length_eval hb
  have hv := Cond.le_ints hev (show (Term.int 3072).eval args s none [] s = some (.int 3072) from rfl)
  have hd : xs.length.toInt32 ≤ 3072 := by
    simpa [Cond.before, Cond.holds, hv] using hle
  have hN : xs.length ≤ 3072 := (Int32.ofNat_le_ofNat hsm (by decide)).mp (show Int32.ofNat xs.length ≤ Int32.ofNat 3072 from hd)
  exact ⟨b, xs, Cond.one_arg hc (show args[0]? = some (.ref b) from hb), hx, hN, h⟩
theorem lw_comes (l : Launch) (hflags : l.flags = flags0) : Comes l x (Jvm.Cond.code x code maxLocals ret :: tables_1) room_1 (fun tb e args s => Calls_1 tb e args s ∧ rest_1 tb e args s ∧ Pre_1 tb e args s)
    (fun _ _ args s o t => lw_Q args s o t) := by
  intro p e ha hc hk s m args below hf hfit hheap happ hpre
  obtain ⟨b, xs, hP⟩ := lw_pre_spec hpre.2.2 hpre.2.1
  obtain ⟨k, o, h1, h2, h3, hQ⟩ := lw_walk l hflags b xs p e ha hc hk s m args below hf ((Spec.applies_iff_loose hf).mp happ).1 hP trivial
  exact ⟨k, o, h1, h2, h3, hQ⟩
theorem lw_frame {s t : State} {o : Outcome} {args : Array Value} (h : Framed s o t [] 600000 7302250) :
    Framed s o t (fieldLocs frame_1_writes args s ++ arrayLocs frame_1_arrays args s ++ staticLocs frame_1_statics s) 600000 7302250 := h
theorem lw_limb (L : Cond) (hL : ∀ (args : Array Value) (s t : State), L.after args s (.returned (some (.int 1))) t = true) :
    ArmFor flags0 classFile x code maxLocals ret World_1 tables_1 room_1 Calls_1 rest_1 Pre_1
      (fun tb e a s o t => postC L tb e a s o t ∧ Framed s o t (fieldLocs frame_1_writes a s ++ arrayLocs frame_1_arrays a s ++ staticLocs frame_1_statics s) 600000 7302250) := by
  intro l hflags _ _ p e ha hc hk s m args below hf hfit hheap happ hpre
  obtain ⟨k, o, h1, h2, h3, rfl, hF⟩ := lw_comes l hflags p e ha hc hk s m args below hf hfit hheap happ hpre
  exact ⟨k, _, h1, h2, h3, hL args s _, lw_frame hF⟩
theorem i_vc : Claimed_1_1 ∧ Claimed_1_2 := ⟨lw_limb limb_1_1 (fun args s t => by simp [limb_1_1, Cond.after, Cond.holds, Cond.value]), lw_limb limb_1_2 (fun args s t => Cond.after_iff.mpr (by
  first | (rw [show limb_1_2 = Cond.eq .result (.int 1) from rfl, Cond.eq_ints (x := 1) (y := 1) rfl rfl]; simp; done) | (simp [limb_1_2, Cond.value, Term.eval]; done)))⟩

/-! a step of the abstract machine is a step of the machine -/
theorem am_b {a b : Nat} (h : Nat.beq a b = true) : a = b := Nat.eq_of_beq_eq_true h
theorem am_lt2 {a b : Nat} (h : Nat.blt a b = true) : a < b := Nat.le_of_ble_eq_true h
theorem am_FTin {own ix ci j : Nat} (h : (am_FT own).any (fun q => Nat.beq q.1 ix && Nat.beq q.2.1 ci && Nat.beq q.2.2 j) = true) : am_fok own ix ci j := by
  obtain ⟨q, hq, h⟩ := List.any_eq_true.mp h
  simp only [Bool.and_eq_true] at h
  have h1 := am_b h.1.1
  have h2 := am_b h.1.2
  have h3 := am_b h.2
  have h4 := am_FT_ok own q hq
  rw [h1, h2, h3] at h4
  exact h4
theorem am_2in {l : List (Nat × Nat)} {ix y : Nat} (h : l.any (fun q => Nat.beq q.1 ix && Nat.beq q.2 y) = true) : (ix, y) ∈ l := by
  obtain ⟨q, hq, h⟩ := List.any_eq_true.mp h
  simp only [Bool.and_eq_true] at h
  have h1 := am_b h.1
  have h2 := am_b h.2
  obtain ⟨a, b⟩ := q
  subst h1
  subst h2
  exact hq
theorem am_cls_own {c : Nat} (h : c < 11) : (am_cls c).1 = am_own c := by
  rcases (show c = 0 ∨ c = 1 ∨ c = 2 ∨ c = 3 ∨ c = 4 ∨ c = 5 ∨ c = 6 ∨ c = 7 ∨ c = 8 ∨ c = 9 ∨ c = 10 by omega) with rfl | rfl | rfl | rfl | rfl | rfl | rfl | rfl | rfl | rfl | rfl <;> rfl
theorem am_KTin {own ix z x y : Nat} (h : (am_KT own).any (fun q => Nat.beq q.1 ix && Nat.beq q.2.1 z && Nat.beq q.2.2.1 x && Nat.beq q.2.2.2 y) = true) : am_kw own (ix, z, x, y) ∈ am_W := by
  obtain ⟨q, hq, h⟩ := List.any_eq_true.mp h
  simp only [Bool.and_eq_true] at h
  have h1 := am_KT_ok _ q hq
  obtain ⟨q1, q2, q3, q4⟩ := q
  have e1 : q1 = ix := am_b h.1.1.1
  have e2 : q2 = z := am_b h.1.1.2
  have e3 : q3 = x := am_b h.1.2
  have e4 : q4 = y := am_b h.2
  subst e1
  subst e2
  subst e3
  subst e4
  exact h1
theorem am_KT2 {own ix x : Nat} (h : (am_KT own).any (fun q => Nat.beq q.1 ix && Nat.beq q.2.2.1 x && Nat.beq q.2.2.2 1) = true) : Cond.constantLong (am_own own) ix (Int64.ofNat x) ∈ am_W := by
  obtain ⟨q, hq, h⟩ := List.any_eq_true.mp h
  simp only [Bool.and_eq_true] at h
  have h1 := am_KT_ok _ q hq
  obtain ⟨q1, q2, q3, q4⟩ := q
  have e1 : q1 = ix := am_b h.1.1
  have e3 : q3 = x := am_b h.1.2
  have e4 : q4 = 1 := am_b h.2
  subst e1
  subst e3
  subst e4
  exact h1
theorem am_lev_some {d r r' d' : Nat} (h : am_lev d r r' = some d') : r' + 42 * d' + 1 ≤ r + 42 * d := by
  unfold am_lev at h
  split at h
  · cases h
    omega
  · split at h
    · cases h
    · split at h
      · cases h
        omega
      · cases h
/-- a call that goes on -/
theorem am_call_some {n d k y : Nat} {a r : List Value} {pc : Nat} {L : am_Loc} {μ μf : am_Mem} {v : Option Value} (h : (match am_MT[y]? with
        | none => none
        | some mj => match am_lev2 d (am_mi k) mj a with
          | none => none
          | some d' => match am_run am_MT n d' mj 0 (am_entry mj.2.2.1 a) [] μ with
            | none => none
            | some (v, μ') => am_run am_MT n d (am_mi k) (pc + 3) L (v.toList ++ r) μ') = some (v, μf)) :
    ∃ d' v1 μ1, y < 228 ∧ am_rk y + 42 * d' + 1 ≤ am_rk k + 42 * d ∧ (am_args a).length ≤ am_nl y ∧ am_run am_MT n d' (am_mi y) 0 (am_entry (am_nl y) a) [] μ = some (v1, μ1) ∧ am_run am_MT n d (am_mi k) (pc + 3) L (v1.toList ++ r) μ1 = some (v, μf) := by
  split at h
  · cases h
  · rename_i mj hmj
    obtain ⟨rfl, hy⟩ := am_mi_of hmj
    split at h
    · cases h
    · rename_i d' hd'
      split at h
      · cases h
      · rename_i v1 μ1 h1
        unfold am_lev2 at hd'
        split at hd'
        · rename_i hb
          exact ⟨d', v1, μ1, hy, am_lev_some hd', Nat.le_of_ble_eq_true hb, h1, h⟩
        · cases hd'
/-- behind a call -/
theorem am_after {p : Program} {l : Launch} {e : Env} {R : Room} {s : State} {m : MethodId} {args : Array Value} {below : List Frame} {meth : Method} {c : Code} {H : Heap} {locs : List Loc} {cells slots mc ms pc : Nat} {Q : State → Prop} {ls : Array Slot} {st0 : List Value} {D : va_G} {cid : Nat → ClassId} {o : Nat → Nat} {base : Nat} {OI : am_I} {v1 : Option Value} {μ1 : am_Mem} {r : List Value} {arr : Array Value}
    (hr : va_Run p l e R s m args below meth c H locs cells slots mc ms (F0 m pc ls st0) (r.map (am_val (am_ad o base))) (am_Qc D cid o base OI v1 μ1 arr) (am_A base)) (hS : va_S (am_A base) s.heap H locs)
    (kk : ∀ (H1 : Heap) (locs1 : List Loc), am_rel D cid o base OI μ1 H1 → va_S (am_A base) s.heap H1 locs1 → W p l e R s m args below meth c H1 locs1 (cells + mc) (slots + ms) Q (F0 m (pc + 3) ls ((v1.toList ++ r).map (am_val (am_ad o base))))) :
    W p l e R s m args below meth c H locs cells slots Q (F0 m pc ls st0) := by
  intro T hT X
  obtain ⟨v', st₀, t, T', L', h0, X', hL', e1, e2, hq, st⟩ := hr T hT X
  obtain ⟨hv, hrel1, hz1, hkeep⟩ := hq
  cases hv
  rw [h0] at hz1 hkeep
  have hS2 : va_S (am_A base) s.heap T'.heap (locs ++ L') := ⟨by rw [e1]; exact Nat.le_trans hS.1 hz1, fun q h1 h2 => by rw [e1, hkeep q (Nat.lt_of_lt_of_le h1 hS.1) h2]; exact hS.2.1 q h1 h2, fun q hq => by
    rcases List.mem_append.mp hq with h | h
    · exact hS.2.2 q h
    · exact hL' q h⟩
  obtain ⟨t2, a1, b1⟩ := kk T'.heap (locs ++ L') (by rw [e1]; exact hrel1) hS2 T' rfl X'
  refine ⟨t2, st t2 ?_, b1⟩
  have e3 : (v1.toList ++ r).map (am_val (am_ad o base)) = (v1.map (am_val (am_ad o base))).toList ++ r.map (am_val (am_ad o base)) := by cases v1 <;> rfl
  rw [e3] at a1
  exact a1
theorem am_newq {o : Nat → Nat} {base : Nat} {cid : Nat → ClassId} {μ : am_Mem} {q : Nat} {x : va_E} {D : va_G} {H1 : Heap} (h5 : 5 ≤ μ.1.length) (hP : va_P D vwCl (am_ws (am_ad o base) cid μ ++ [(q, x)]) H1) (hD : va_D (am_A base) (am_ws (am_ad o base) cid μ ++ [(q, x)])) (hz : H1.size ≤ base + (μ.1.length - 5) + 1) : q = am_ad o base μ.1.length := by
  have hlen := am_ws_len (am_ad o base) cid μ
  have hg : (am_ws (am_ad o base) cid μ ++ [(q, x)])[μ.1.length - 5]? = some (q, x) := by rw [List.getElem?_append_right (by omega), hlen]; simp
  have h1 : base ≤ q := hD.2 _ _ hg
  have h2 := (hP _ _ hg).lt
  simp only at h2
  rw [am_ad_new h5]
  by_cases hq : q = base + (μ.1.length - 5)
  · exact hq
  · exfalso
    have h3 := am_ws_at (am_ad o base) cid μ (q - base)
    rw [if_pos (by omega)] at h3
    have h4 : (am_ws (am_ad o base) cid μ ++ [(q, x)])[q - base]? = some (am_ad o base (q - base + 5), am_cl (am_ad o base) cid μ.2.1 μ.2.2 (q - base + 5) (μ.1.getD (q - base + 5) am_s0)) := by rw [List.getElem?_append_left (by omega)]; exact h3
    have h6 := hD.1 _ _ _ _ hg h4 (by simp only [am_ad_new (show 5 ≤ q - base + 5 by omega)]; omega)
    omega
/-- the machine's text: a sign of the constant -/
theorem am_charW {p : Program} {l : Launch} {e : Env} {R : Room} {s : State} {m : MethodId} {args : Array Value} {below : List Frame} {meth : Method} {c : Code} {H : Heap} {locs : List Loc} {cells slots k d tc ts pc ix : Nat} {Q : State → Prop} {ls : Array Slot} {D : va_G} {cid : Nat → ClassId} {o : Nat → Nat} {base vb : Nat} {OI : am_I} {i : Int32} {r : List Value}
    (hctx : am_ctx p R s m args meth c D cid o base vb OI k d tc ts) (hS : va_S (am_A base) s.heap H locs) (hsz : c.maxLocals = ls.size) (hin : vp_in i 136) (hcat : (r.map fun v => v.category).sum ≤ 8) (hlink : (Cond.methodLink (am_own (am_mi k).1) ix yJ0_charAt_5068e).before args s = true) (hc : cells ≤ R.cells) (hs : slots ≤ R.slots)
    (hdg : decode (am_by k) pc = .ok (.invokevirtual ix, 3)) (kk : ∀ (locs1 : List Loc) (H1 : Heap), H1.size = H.size → (∀ q : Nat, q < H.size → H1[q]? = H[q]?) → va_S (am_A base) s.heap H1 locs1 → W p l e R s m args below meth c H1 locs1 cells slots Q (F0 m (pc + 3) ls (.int (OI 4 i.toNatClampNeg) :: r))) :
    W p l e R s m args below meth c H locs cells slots Q (F0 m pc ls (.int i :: .ref (o 4) :: r)) := by
  obtain ⟨⟨hx, hb, hml, hown, hts⟩, hK, hO, hbz, ⟨hfr, hlo, hcc, hss⟩, hini⟩ := hctx
  have hfl : 5 ≤ R.frames ∧ 300 ≤ R.locals := by
    unfold am_fr at hfr
    unfold am_lo at hlo
    omega
  refine am_afterJ (va_runV (C := "java/lang/String") (b := o 4) (As := [.int i]) (rest := r) ⟨hx, hb, hml, hown, hts⟩ (am_j0 l o base vb OI i hin) ⟨callB_of 1 hts (am_gI am_j_c_ca) rfl rfl rfl (hts _ am_j_n_S) hlink (by decide +kernel) ⟨by show 4 + 1 ≤ _; omega, by show 8 + (2 + 11) + 110 ≤ _; omega⟩, hts _ am_j_i_ca, hts _ am_j_s_ca⟩ ⟨am_PJ_blind, vk_recv hO.2.2.2.1.2.1 (i := 0) (by omega) hS, fun U hU hW => ⟨rfl, by rw [hU]; exact Nat.le_trans hbz hS.1, by rw [hU]; exact hO.next hW hS hbz⟩⟩ rfl rfl (hsz.symm.trans hml) rfl (lv_room hcat) hdg ⟨hc, hs⟩) hS (fun locs1 hS1 => kk locs1 H rfl (fun _ _ => rfl) hS1)
theorem am_relU {D : va_G} {cid : Nat → ClassId} {o : Nat → Nat} {base : Nat} {OI : am_I} {μ μ' : am_Mem} {H H1 : Heap} {a : Nat} {s' : am_Shp} (hrel : am_rel D cid o base OI μ H) (h5 : 5 ≤ a) (hlt : a < μ.1.length) (hwf : am_wf μ'.1) (hl : μ'.1.length = μ.1.length) (hs : μ'.1[a]? = some s') (ho : ∀ c, c ≠ a → μ'.1[c]? = μ.1[c]? ∧ μ'.2.1 c = μ.2.1 c ∧ μ'.2.2 c = μ.2.2 c) {e : va_E} (he : e = am_cl (am_ad o base) cid μ'.2.1 μ'.2.2 a s')
    (hP : va_P D vwCl ((am_ws (am_ad o base) cid μ).set (a - 5) (am_ad o base a, e)) H1) : am_rel D cid o base OI μ' H1 := by
  subst he
  rw [am_ws_set h5 hlt hl hs ho] at hP
  refine ⟨hwf, hP, fun c k hc => ?_⟩
  rw [(ho c (by omega)).2.1]
  exact hrel.2.2 c k hc
set_option maxHeartbeats 40000000 in
set_option maxRecDepth 10000 in
theorem am_simS {l : Launch} {D : va_G} {cid : Nat → ClassId} {o : Nat → Nat} {base vb : Nat} {OI : am_I} {n : Nat} (ih : am_SimW l D cid o base vb OI n) : am_SimW l D cid o base vb OI (n + 1) := by
  intro p e R s m args below meth c k d pc L S μ v μf H locs cells slots Q ls tc ts hk hctx h hrel hS hL htc hts' hz hret
  have hctx0 := hctx
  obtain ⟨⟨hx, hb, hml, hown, hts⟩, hK, hO, hbz, ⟨hfr, hlo, hcc, hss⟩, hini⟩ := hctx
  have hgrow := am_run_grow _ _ _ _ _ _ _ _ _ h
  have hD := am_ws_D o base cid μ
  unfold am_run at h
  split at h
  · cases h
  · rename_i pc0 ins aux hf
    obtain ⟨hmem, hpc⟩ := am_find_mem hf
    have hck := (am_ckM_ok hk).1 _ hmem
    unfold am_ckE at hck
    split at hck
    · rename_i ins' len hdg
      simp only [Bool.and_eq_true, decide_eq_true_eq] at hck
      obtain ⟨hii, hck⟩ := hck
      simp only at hpc hii hdg hck
      have hii2 := hii.symm
      clear hii
      subst hii2
      subst hpc
      have go : ∀ (pc' : Nat) (L' : am_Loc) (S' : List Value) (μ' : am_Mem) (H' : Heap) (locs' : List Loc) (ls' : Array Slot), am_run am_MT n d (am_mi k) pc' L' S' μ' = some (v, μf) → am_rel D cid o base OI μ' H' → va_S (am_A base) s.heap H' locs' → am_LR (am_ad o base) (am_nl k) ls' L' → μ'.1.length = μ.1.length → am_sz μ'.1 = am_sz μ.1 → W p l e R s m args below meth c H' locs' cells slots Q (F0 m pc' ls' (S'.map (am_val (am_ad o base)))) := fun pc' L' S' μ' H' locs' ls' h1 h2 h3 h4 h5 h6 => ih p e R s m args below meth c k d pc' L' S' μ' v μf H' locs' cells slots Q ls' tc ts hk hctx0 h1 h2 h3 h4 (by rw [h5]; exact htc) (by rw [h6]; exact hts') (by rw [h5]; exact hz) hret
      have hA : ∀ q, s.heap.size ≤ q → am_A base q := fun q hq => Nat.le_trans hbz hq
      have hrd : 1 ≤ R.frames ∧ 300 ≤ R.locals := by
        unfold am_fr at hfr
        unfold am_lo at hlo
        omega
      have hcells : cells ≤ R.cells := by omega
      have hslots : slots ≤ R.slots := by omega
      have hsz : c.maxLocals = ls.size := hml.trans hL.2.1.symm
      have hcat : ∀ t : List Value, am_cat t ≤ 8 → ((t.map (am_val (am_ad o base))).map fun v => v.category).sum ≤ 8 := fun t ht => by have := am_cat_map (am_ad o base) t; unfold am_cat at this ht; rw [this]; exact ht
      cases ins
      case iconst z =>
        simp only [am_step, am_stepG] at h
        simp only [am_ckI, Bool.and_eq_true, decide_eq_true_eq] at hck
        have hlen := am_b hck.1
        subst hlen
        exact lv_iconst hx hb hdg hck.2 (go _ _ _ _ _ _ _ h hrel hS hL rfl rfl)
      case bipush z =>
        simp only [am_step, am_stepG] at h
        simp only [am_ckI, Bool.and_eq_true, decide_eq_true_eq] at hck
        have hlen := am_b hck.1
        subst hlen
        exact lv_bipush hx hb hdg hck.2 (go _ _ _ _ _ _ _ h hrel hS hL rfl rfl)
      case sipush z =>
        simp only [am_step, am_stepG] at h
        simp only [am_ckI, Bool.and_eq_true, decide_eq_true_eq] at hck
        have hlen := am_b hck.1
        subst hlen
        exact lv_sipush hx hb hdg hck.2 (go _ _ _ _ _ _ _ h hrel hS hL rfl rfl)
      case lconst z =>
        simp only [am_step, am_stepG] at h
        simp only [am_ckI, Bool.and_eq_true, decide_eq_true_eq] at hck
        have hlen := am_b hck
        subst hlen
        exact lv_lconst hx hb hdg rfl (go _ _ _ _ _ _ _ h hrel hS hL rfl rfl)
      case iload z =>
        simp only [am_step, am_stepG] at h
        simp only [am_ckI, Bool.and_eq_true, decide_eq_true_eq] at hck
        have hlen := am_b hck
        subst hlen
        replace h := am_ld_some h
        obtain ⟨w, hw, h⟩ := h
        cases w <;> first | (cases h; done) | skip
        exact lv_iload hx hb hdg (hL.2.2.2 _ _ hw) (go _ _ _ _ _ _ _ h hrel hS hL rfl rfl)
      case iload_n z =>
        simp only [am_step, am_stepG] at h
        simp only [am_ckI, Bool.and_eq_true, decide_eq_true_eq] at hck
        have hlen := am_b hck
        subst hlen
        replace h := am_ld_some h
        obtain ⟨w, hw, h⟩ := h
        cases w <;> first | (cases h; done) | skip
        exact lv_iload_n hx hb hdg rfl (hL.2.2.2 _ _ hw) (go _ _ _ _ _ _ _ h hrel hS hL rfl rfl)
      case lload z =>
        simp only [am_step, am_stepG] at h
        simp only [am_ckI, Bool.and_eq_true, decide_eq_true_eq] at hck
        have hlen := am_b hck
        subst hlen
        replace h := am_ld_some h
        obtain ⟨w, hw, h⟩ := h
        cases w <;> first | (cases h; done) | skip
        exact lv_lload hx hb hdg (hL.2.2.2 _ _ hw) (go _ _ _ _ _ _ _ h hrel hS hL rfl rfl)
      case lload_n z =>
        simp only [am_step, am_stepG] at h
        simp only [am_ckI, Bool.and_eq_true, decide_eq_true_eq] at hck
        have hlen := am_b hck
        subst hlen
        replace h := am_ld_some h
        obtain ⟨w, hw, h⟩ := h
        cases w <;> first | (cases h; done) | skip
        exact lv_lload_n hx hb hdg rfl (hL.2.2.2 _ _ hw) (go _ _ _ _ _ _ _ h hrel hS hL rfl rfl)
      case aload z =>
        simp only [am_step, am_stepG] at h
        simp only [am_ckI, Bool.and_eq_true, decide_eq_true_eq] at hck
        have hlen := am_b hck
        subst hlen
        replace h := am_ld_some h
        obtain ⟨w, hw, h⟩ := h
        cases w <;> first | (cases h; done) | skip
        exact lv_aload hx hb hdg (hL.2.2.2 _ _ hw) (go _ _ _ _ _ _ _ h hrel hS hL rfl rfl)
      case aload_n z =>
        simp only [am_step, am_stepG] at h
        simp only [am_ckI, Bool.and_eq_true, decide_eq_true_eq] at hck
        have hlen := am_b hck
        subst hlen
        replace h := am_ld_some h
        obtain ⟨w, hw, h⟩ := h
        cases w <;> first | (cases h; done) | skip
        exact lv_aload_n hx hb hdg rfl (hL.2.2.2 _ _ hw) (go _ _ _ _ _ _ _ h hrel hS hL rfl rfl)
      case istore z =>
        simp only [am_step, am_stepG] at h
        simp only [am_ckI, Bool.and_eq_true, decide_eq_true_eq] at hck
        have hlen := am_b hck.1
        subst hlen
        replace h := am_popi_some h
        obtain ⟨x, t, rfl, h⟩ := h
        exact lv_istore hx hb hdg hL.has (am_lt2 hck.2) rfl (fun ls1 h1 => go _ _ _ _ _ _ ls1 h hrel hS (hL.of1 (v := .int x) h1) rfl rfl)
      case istore_n z =>
        simp only [am_step, am_stepG] at h
        simp only [am_ckI, Bool.and_eq_true, decide_eq_true_eq] at hck
        have hlen := am_b hck.1
        subst hlen
        replace h := am_popi_some h
        obtain ⟨x, t, rfl, h⟩ := h
        exact lv_istore_n hx hb hdg rfl hL.has (am_lt2 hck.2) rfl (fun ls1 h1 => go _ _ _ _ _ _ ls1 h hrel hS (hL.of1 (v := .int x) h1) rfl rfl)
      case lstore z =>
        simp only [am_step, am_stepG] at h
        simp only [am_ckI, Bool.and_eq_true, decide_eq_true_eq] at hck
        have hlen := am_b hck.1
        subst hlen
        split at h
        · rename_i x t
          exact lv_lstore hx hb hdg hL.has (am_lt2 hck.2) rfl (fun ls1 h1 => go _ _ _ _ _ _ ls1 h hrel hS (hL.of2 (v := .long x) h1) rfl rfl)
        · cases h
      case astore_n z =>
        simp only [am_step, am_stepG] at h
        simp only [am_ckI, Bool.and_eq_true, decide_eq_true_eq] at hck
        have hlen := am_b hck.1
        subst hlen
        split at h
        · rename_i x t
          exact lv_astore_n hx hb hdg rfl hL.has (am_lt2 hck.2) rfl (fun ls1 h1 => go _ _ _ _ _ _ ls1 h hrel hS (hL.of1 (v := .ref x) h1) rfl rfl)
        · cases h
      case iinc z y =>
        simp only [am_step, am_stepG] at h
        simp only [am_ckI, Bool.and_eq_true, decide_eq_true_eq] at hck
        have hlen := am_b hck.1.1
        subst hlen
        replace h := am_ld_some h
        obtain ⟨w, hw, h⟩ := h
        cases w <;> first | (cases h; done) | skip
        rename_i x
        obtain ⟨q, hq⟩ := List.getElem?_of_mem (am_prs_mem (ad := am_ad o base) (q := (z, Value.int x)) |>.mpr ⟨_, hw, rfl⟩)
        exact lv_iinc hx hb hdg hL.has hq (by rw [hck.2]) (am_lt2 hck.1.2) rfl (fun ls1 h1 => go _ _ _ _ _ _ ls1 h hrel hS (hL.of1 (v := .int (x + am_lit y)) h1) rfl rfl)
      case iadd =>
        simp only [am_step, am_stepG] at h
        simp only [am_ckI, Bool.and_eq_true, decide_eq_true_eq] at hck
        have hlen := am_b hck
        subst hlen
        replace h := am_popii_some h
        obtain ⟨x, y, t, rfl, h⟩ := h
        exact lv_iadd hx hb hdg (go _ _ _ _ _ _ _ h hrel hS hL rfl rfl)
      case isub =>
        simp only [am_step, am_stepG] at h
        simp only [am_ckI, Bool.and_eq_true, decide_eq_true_eq] at hck
        have hlen := am_b hck
        subst hlen
        replace h := am_popii_some h
        obtain ⟨x, y, t, rfl, h⟩ := h
        exact lv_isub hx hb hdg (go _ _ _ _ _ _ _ h hrel hS hL rfl rfl)
      case imul =>
        simp only [am_step, am_stepG] at h
        simp only [am_ckI, Bool.and_eq_true, decide_eq_true_eq] at hck
        have hlen := am_b hck
        subst hlen
        replace h := am_popii_some h
        obtain ⟨x, y, t, rfl, h⟩ := h
        exact lv_imul hx hb hdg (go _ _ _ _ _ _ _ h hrel hS hL rfl rfl)
      case iand =>
        simp only [am_step, am_stepG] at h
        simp only [am_ckI, Bool.and_eq_true, decide_eq_true_eq] at hck
        have hlen := am_b hck
        subst hlen
        replace h := am_popii_some h
        obtain ⟨x, y, t, rfl, h⟩ := h
        exact lv_iand hx hb hdg (go _ _ _ _ _ _ _ h hrel hS hL rfl rfl)
      case ior =>
        simp only [am_step, am_stepG] at h
        simp only [am_ckI, Bool.and_eq_true, decide_eq_true_eq] at hck
        have hlen := am_b hck
        subst hlen
        replace h := am_popii_some h
        obtain ⟨x, y, t, rfl, h⟩ := h
        exact lv_ior hx hb hdg (go _ _ _ _ _ _ _ h hrel hS hL rfl rfl)
      case ixor =>
        simp only [am_step, am_stepG] at h
        simp only [am_ckI, Bool.and_eq_true, decide_eq_true_eq] at hck
        have hlen := am_b hck
        subst hlen
        replace h := am_popii_some h
        obtain ⟨x, y, t, rfl, h⟩ := h
        exact lv_ixor hx hb hdg (go _ _ _ _ _ _ _ h hrel hS hL rfl rfl)
      case ishl =>
        simp only [am_step, am_stepG] at h
        simp only [am_ckI, Bool.and_eq_true, decide_eq_true_eq] at hck
        have hlen := am_b hck
        subst hlen
        replace h := am_popii_some h
        obtain ⟨x, y, t, rfl, h⟩ := h
        exact lv_ishl hx hb hdg (go _ _ _ _ _ _ _ h hrel hS hL rfl rfl)
      case ishr =>
        simp only [am_step, am_stepG] at h
        simp only [am_ckI, Bool.and_eq_true, decide_eq_true_eq] at hck
        have hlen := am_b hck
        subst hlen
        replace h := am_popii_some h
        obtain ⟨x, y, t, rfl, h⟩ := h
        exact lv_ishr hx hb hdg (go _ _ _ _ _ _ _ h hrel hS hL rfl rfl)
      case iushr =>
        simp only [am_step, am_stepG] at h
        simp only [am_ckI, Bool.and_eq_true, decide_eq_true_eq] at hck
        have hlen := am_b hck
        subst hlen
        replace h := am_popii_some h
        obtain ⟨x, y, t, rfl, h⟩ := h
        exact lv_iushr hx hb hdg rfl (go _ _ _ _ _ _ _ h hrel hS hL rfl rfl)
      case idiv =>
        simp only [am_step, am_stepG] at h
        simp only [am_ckI, Bool.and_eq_true, decide_eq_true_eq] at hck
        have hlen := am_b hck
        subst hlen
        replace h := am_popii_some h
        obtain ⟨x, y, t, rfl, h⟩ := h
        split at h
        · cases h
        · rename_i hne
          exact lv_idiv hx hb hdg hne (go _ _ _ _ _ _ _ h hrel hS hL rfl rfl)
      case irem =>
        simp only [am_step, am_stepG] at h
        simp only [am_ckI, Bool.and_eq_true, decide_eq_true_eq] at hck
        have hlen := am_b hck
        subst hlen
        replace h := am_popii_some h
        obtain ⟨x, y, t, rfl, h⟩ := h
        split at h
        · cases h
        · rename_i hne
          exact lv_irem hx hb hdg hne (go _ _ _ _ _ _ _ h hrel hS hL rfl rfl)
      case ineg =>
        simp only [am_step, am_stepG] at h
        simp only [am_ckI, Bool.and_eq_true, decide_eq_true_eq] at hck
        have hlen := am_b hck
        subst hlen
        replace h := am_popi_some h
        obtain ⟨x, t, rfl, h⟩ := h
        exact lv_ineg hx hb hdg (go _ _ _ _ _ _ _ h hrel hS hL rfl rfl)
      case ladd =>
        simp only [am_step, am_stepG] at h
        simp only [am_ckI, Bool.and_eq_true, decide_eq_true_eq] at hck
        have hlen := am_b hck
        subst hlen
        replace h := am_popll_some h
        obtain ⟨x, y, t, rfl, h⟩ := h
        exact lv_ladd hx hb hdg (go _ _ _ _ _ _ _ h hrel hS hL rfl rfl)
      case lmul =>
        simp only [am_step, am_stepG] at h
        simp only [am_ckI, Bool.and_eq_true, decide_eq_true_eq] at hck
        have hlen := am_b hck
        subst hlen
        replace h := am_popll_some h
        obtain ⟨x, y, t, rfl, h⟩ := h
        exact lv_lmul hx hb hdg (go _ _ _ _ _ _ _ h hrel hS hL rfl rfl)
      case lcmp =>
        simp only [am_step, am_stepG] at h
        simp only [am_ckI, Bool.and_eq_true, decide_eq_true_eq] at hck
        have hlen := am_b hck
        subst hlen
        replace h := am_popll_some h
        obtain ⟨x, y, t, rfl, h⟩ := h
        exact W.lcmp hx hb hdg (go _ _ _ _ _ _ _ h hrel hS hL rfl rfl)
      case i2l =>
        simp only [am_step, am_stepG] at h
        simp only [am_ckI, Bool.and_eq_true, decide_eq_true_eq] at hck
        have hlen := am_b hck
        subst hlen
        replace h := am_popi_some h
        obtain ⟨x, t, rfl, h⟩ := h
        exact lv_i2l hx hb hdg rfl (go _ _ _ _ _ _ _ h hrel hS hL rfl rfl)
      case i2b =>
        simp only [am_step, am_stepG] at h
        simp only [am_ckI, Bool.and_eq_true, decide_eq_true_eq] at hck
        have hlen := am_b hck
        subst hlen
        replace h := am_popi_some h
        obtain ⟨x, t, rfl, h⟩ := h
        exact lv_i2b hx hb hdg rfl (go _ _ _ _ _ _ _ h hrel hS hL rfl rfl)
      case dup =>
        simp only [am_step, am_stepG] at h
        simp only [am_ckI, Bool.and_eq_true, decide_eq_true_eq] at hck
        have hlen := am_b hck
        subst hlen
        split at h
        · split at h
          · rename_i w t hc
            exact lv_dup hx hb hdg ((am_val_cat _ _).trans hc) (go _ _ _ _ _ _ _ h hrel hS hL rfl rfl)
          · cases h
        · cases h
      case dup2 =>
        simp only [am_step, am_stepG] at h
        simp only [am_ckI, Bool.and_eq_true, decide_eq_true_eq] at hck
        have hlen := am_b hck
        subst hlen
        split at h
        · split at h
          · rename_i w w2 t hc
            exact lv_dup2_11 hx hb hdg (by rw [am_val_cat]; first | exact hc.1 | exact hc.2) (by rw [am_val_cat]; first | exact hc.2 | exact hc.1) (go _ _ _ _ _ _ _ h hrel hS hL rfl rfl)
          · cases h
        · cases h
      case pop =>
        simp only [am_step, am_stepG] at h
        simp only [am_ckI, Bool.and_eq_true, decide_eq_true_eq] at hck
        have hlen := am_b hck
        subst hlen
        split at h
        · split at h
          · rename_i w t hc
            exact lv_pop hx hb hdg ((am_val_cat _ _).trans hc) (go _ _ _ _ _ _ _ h hrel hS hL rfl rfl)
          · cases h
        · cases h
      case goto z =>
        simp only [am_step, am_stepG] at h
        split at h
        · simp only [am_ckI, Bool.and_eq_true, decide_eq_true_eq] at hck
          have hlen := am_b hck.1
          subst hlen
          exact lv_goto hx hb hdg (of_decide_eq_true hck.2) (go _ _ _ _ _ _ _ h hrel hS hL rfl rfl)
        · cases h
      case ifCond q z =>
        simp only [am_step, am_stepG] at h
        split at h
        · simp only [am_ckI, Bool.and_eq_true, decide_eq_true_eq] at hck
          have hlen := am_b hck.1
          subst hlen
          replace h := am_popi_some h
          obtain ⟨x, t, rfl, h⟩ := h
          cases q
          · dsimp only at h
            exact lv_if_eq hx hb hdg (of_decide_eq_true hck.2) (fun hc => go _ _ _ _ _ _ _ (by rw [if_pos hc] at h; exact h) hrel hS hL rfl rfl) (fun hc => go _ _ _ _ _ _ _ (by rw [if_neg hc] at h; exact h) hrel hS hL rfl rfl)
          · dsimp only at h
            exact lv_if_ne hx hb hdg (of_decide_eq_true hck.2) (fun hc => go _ _ _ _ _ _ _ (by rw [if_neg hc] at h; exact h) hrel hS hL rfl rfl) (fun hc => go _ _ _ _ _ _ _ (by rw [if_pos hc] at h; exact h) hrel hS hL rfl rfl)
          · dsimp only at h
            exact lv_if_lt hx hb hdg (of_decide_eq_true hck.2) (fun hc => go _ _ _ _ _ _ _ (by rw [if_pos hc] at h; exact h) hrel hS hL rfl rfl) (fun hc => go _ _ _ _ _ _ _ (by rw [if_neg hc] at h; exact h) hrel hS hL rfl rfl)
          · dsimp only at h
            exact lv_if_ge hx hb hdg (of_decide_eq_true hck.2) (fun hc => go _ _ _ _ _ _ _ (by rw [if_pos hc] at h; exact h) hrel hS hL rfl rfl) (fun hc => go _ _ _ _ _ _ _ (by rw [if_neg hc] at h; exact h) hrel hS hL rfl rfl)
          · dsimp only at h
            exact lv_if_gt hx hb hdg (of_decide_eq_true hck.2) (fun hc => go _ _ _ _ _ _ _ (by rw [if_pos hc] at h; exact h) hrel hS hL rfl rfl) (fun hc => go _ _ _ _ _ _ _ (by rw [if_neg hc] at h; exact h) hrel hS hL rfl rfl)
          · dsimp only at h
            exact lv_if_le hx hb hdg (of_decide_eq_true hck.2) (fun hc => go _ _ _ _ _ _ _ (by rw [if_pos hc] at h; exact h) hrel hS hL rfl rfl) (fun hc => go _ _ _ _ _ _ _ (by rw [if_neg hc] at h; exact h) hrel hS hL rfl rfl)
        · cases h
      case if_icmp q z =>
        simp only [am_step, am_stepG] at h
        split at h
        · simp only [am_ckI, Bool.and_eq_true, decide_eq_true_eq] at hck
          have hlen := am_b hck.1
          subst hlen
          replace h := am_popii_some h
          obtain ⟨x, y, t, rfl, h⟩ := h
          cases q
          · dsimp only at h
            exact lv_icmp_eq hx hb hdg (of_decide_eq_true hck.2) (fun hc => go _ _ _ _ _ _ _ (by rw [if_pos hc] at h; exact h) hrel hS hL rfl rfl) (fun hc => go _ _ _ _ _ _ _ (by rw [if_neg hc] at h; exact h) hrel hS hL rfl rfl)
          · dsimp only at h
            exact lv_icmp_ne hx hb hdg (of_decide_eq_true hck.2) (fun hc => go _ _ _ _ _ _ _ (by rw [if_neg hc] at h; exact h) hrel hS hL rfl rfl) (fun hc => go _ _ _ _ _ _ _ (by rw [if_pos hc] at h; exact h) hrel hS hL rfl rfl)
          · dsimp only at h
            exact lv_icmp_lt hx hb hdg (of_decide_eq_true hck.2) (fun hc => go _ _ _ _ _ _ _ (by rw [if_pos hc] at h; exact h) hrel hS hL rfl rfl) (fun hc => go _ _ _ _ _ _ _ (by rw [if_neg hc] at h; exact h) hrel hS hL rfl rfl)
          · dsimp only at h
            exact lv_icmp_ge hx hb hdg (of_decide_eq_true hck.2) (fun hc => go _ _ _ _ _ _ _ (by rw [if_pos hc] at h; exact h) hrel hS hL rfl rfl) (fun hc => go _ _ _ _ _ _ _ (by rw [if_neg hc] at h; exact h) hrel hS hL rfl rfl)
          · dsimp only at h
            exact lv_icmp_gt hx hb hdg (of_decide_eq_true hck.2) (fun hc => go _ _ _ _ _ _ _ (by rw [if_pos hc] at h; exact h) hrel hS hL rfl rfl) (fun hc => go _ _ _ _ _ _ _ (by rw [if_neg hc] at h; exact h) hrel hS hL rfl rfl)
          · dsimp only at h
            exact lv_icmp_le hx hb hdg (of_decide_eq_true hck.2) (fun hc => go _ _ _ _ _ _ _ (by rw [if_pos hc] at h; exact h) hrel hS hL rfl rfl) (fun hc => go _ _ _ _ _ _ _ (by rw [if_neg hc] at h; exact h) hrel hS hL rfl rfl)
        · cases h
      case tableswitch df lo hi offs =>
        simp only [am_step, am_stepG] at h
        split at h
        · rename_i dd tg
          simp only [am_ckI, Bool.and_eq_true, decide_eq_true_eq] at hck
          obtain ⟨⟨⟨hd, hm⟩, hhi⟩, hall⟩ := hck
          have hlit : ∀ i, i < tg.length → (am_lit (lo + i)).toInt = lo + i := fun i hi => of_decide_eq_true (List.all_eq_true.mp hall i (List.mem_range.mpr hi))
          replace h := am_popi_some h
          obtain ⟨x, t, rfl, h⟩ := h
          rcases am_sw_some h with ⟨i, tt, h1, h2, h3⟩ | ⟨h1, h2⟩
          · have hi := (List.getElem?_eq_some_iff.mp h1).1
            have hx1 : x.toInt = lo + i := by rw [h2]; exact hlit i hi
            have ho := congrArg (fun q => q[i]?) hm
            simp only [List.getElem?_map, h1, Option.map_some] at ho
            cases hq : offs.toList[i]? with
            | none => rw [hq] at ho; cases ho
            | some off =>
              rw [hq] at ho
              have ho2 : ((pc0 : Nat) : Int) + off = Int.ofNat tt := Option.some.inj ho
              exact lv_tableIn hx hb hdg (off := off) (by omega) (by omega) (by rw [hx1, show (lo + (i : Int) - lo).toNat = i by omega, ← Array.getElem?_toList]; exact hq) ho2 (go _ _ _ _ _ _ _ h3 hrel hS hL rfl rfl)
          · refine lv_tableOut hx hb hdg ?_ (of_decide_eq_true hd) (go _ _ _ _ _ _ _ h2 hrel hS hL rfl rfl)
            by_cases hlo2 : x.toInt < lo
            · exact Or.inl hlo2
            · right
              refine Int.not_le.mp (fun hle => ?_)
              have hi : (x.toInt - lo).toNat < tg.length := by omega
              refine h1 _ hi (Int32.toInt_inj.mp ?_)
              rw [hlit _ hi]
              omega
        · cases h
      case getfield ix =>
        simp only [am_step, am_stepG] at h
        split at h
        · rename_i ci j
          simp only [am_ckI, Bool.and_eq_true, decide_eq_true_eq] at hck
          have hlen := am_b hck.1
          subst hlen
          obtain ⟨⟨hci, hj, hcn⟩, hw⟩ := am_FTin hck.2
          replace h := am_getf_some h
          obtain ⟨a, t, fl, rfl, hsh, h⟩ := h
          have h5 := hrel.1.obj hsh
          have he := am_ws_get (ad := am_ad o base) (cid := cid) hsh h5
          have hsame : ∀ x, s.fieldFound? ((am_cls ci).2.1 j).1 ((am_cls ci).2.1 j).2.1 ((am_cls ci).2.1 j).2.2.1 = some x → s.fieldFound? (am_cls ci).1 ((am_cls ci).2.1 j).2.1 ((am_cls ci).2.1 j).2.2.1 = some x := fun x hx => by rw [hcn] at hx; exact hx
          rcases h with ⟨hf, h⟩ | ⟨w, hf, h⟩
          · exact va_get hx hb hts (am_lay ci hci) hown hK hrel.2.1 (a - 5) he (am_cl_at hci) j hj (hts _ hw) hsame (by have := am_fl_none (am_ad o base) μ.2.1 a fl 0 j hf; rw [Nat.zero_add] at this; exact this) hdg (go _ _ _ _ _ _ _ h hrel hS hL rfl rfl)
          · exact va_get hx hb hts (am_lay ci hci) hown hK hrel.2.1 (a - 5) he (am_cl_at hci) j hj (hts _ hw) hsame (am_fl_some _ _ _ _ _ _ _ hf) hdg (go _ _ _ _ _ _ _ h hrel hS hL rfl rfl)
        · cases h
      case putfield ix =>
        simp only [am_step, am_stepG] at h
        split at h
        · rename_i ci j z
          simp only [am_ckI, Bool.and_eq_true, decide_eq_true_eq] at hck
          have hlen := am_b hck.1.1
          subst hlen
          obtain ⟨⟨hci, hj, hcn⟩, hw⟩ := am_FTin hck.1.2
          have hz2 := hck.2
          replace h := am_putf_some h
          obtain ⟨w, a, t, fl, rfl, h5, hsh, h⟩ := h
          have hlt : a < μ.1.length := (List.getElem?_eq_some_iff.mp hsh).1
          have he := am_ws_get (ad := am_ad o base) (cid := cid) hsh h5
          have hsame : ∀ x, s.fieldFound? ((am_cls ci).2.1 j).1 ((am_cls ci).2.1 j).2.1 ((am_cls ci).2.1 j).2.2.1 = some x → s.fieldFound? (am_cls ci).1 ((am_cls ci).2.1 j).2.1 ((am_cls ci).2.1 j).2.2.1 = some x := fun x hx => by rw [hcn] at hx; exact hx
          rcases h with ⟨x, rfl, hfj, h, hzz⟩ | ⟨q, w0, rfl, hfj, rfl, h⟩
          · have hup : ∀ c, c ≠ a → μ.1[c]? = μ.1[c]? ∧ am_upd μ.2.1 a j x c = μ.2.1 c ∧ μ.2.2 c = μ.2.2 c := fun c hc => ⟨rfl, by funext q; simp [am_upd, hc], rfl⟩
            have hnew : (Sum.inr (ci, (am_fl (am_ad o base) μ.2.1 a 0 fl).set j (.int x)) : va_E) = am_cl (am_ad o base) cid (am_upd μ.2.1 a j x) μ.2.2 a (.inr (ci, fl)) := by
              have := am_fl_upd (am_ad o base) μ.2.1 a j x fl 0 (fun _ _ _ => by simpa using hfj) (by simpa using hfj) (Nat.zero_le _)
              simp only [am_cl, this]
              rfl
            have hl3 : j < (am_fl (am_ad o base) μ.2.1 a 0 fl).length := by rw [am_fl_len]; exact (List.getElem?_eq_some_iff.mp hfj).1
            rcases hzz with rfl | ⟨rfl, hx01⟩
            · simp only [Bool.and_eq_true, Bool.not_eq_true', decide_eq_true_eq] at hz2
              exact va_put hx hb hts (am_lay ci hci) (am_tyf ci) (am_typ ci hci) (am_nm ci hci) hown hK hrel.2.1 hD hS (a - 5) he (am_cl_at hci) j hj (hts _ hw) hsame hz2.1 (am_typ ci hci j hj) (by rw [hz2.2]; rfl) (by rw [hz2.2]; rfl) hl3 hdg (fun H1 locs1 hP1 _ hS1 => go _ _ _ _ _ _ _ h (am_relU (μ' := (μ.1, am_upd μ.2.1 a j x, μ.2.2)) hrel h5 hlt hrel.1 rfl hsh hup hnew hP1) hS1 hL rfl rfl)
            · simp only [Bool.and_eq_true, Bool.not_eq_true', decide_eq_true_eq] at hz2
              exact va_put hx hb hts (am_lay ci hci) (am_tyf ci) (am_typ ci hci) (am_nm ci hci) hown hK hrel.2.1 hD hS (a - 5) he (am_cl_at hci) j hj (hts _ hw) hsame hz2.1 (am_typ ci hci j hj) (by rw [hz2.2]; rcases hx01 with rfl | rfl <;> rfl) (by rw [hz2.2]; rcases hx01 with rfl | rfl <;> rfl) hl3 hdg (fun H1 locs1 hP1 _ hS1 => go _ _ _ _ _ _ _ h (am_relU (μ' := (μ.1, am_upd μ.2.1 a j x, μ.2.2)) hrel h5 hlt hrel.1 rfl hsh hup hnew hP1) hS1 hL rfl rfl)
          · simp only [Bool.and_eq_true] at hz2
            obtain ⟨⟨⟨hfin, hco⟩, hin0⟩, hty⟩ := hz2
            have hco := am_b hco
            have hin1 : meth.name = "<init>" := hini (of_decide_eq_true hin0)
            have hl3 : j < (am_fl (am_ad o base) μ.2.1 a 0 fl).length := by rw [am_fl_len]; exact (List.getElem?_eq_some_iff.mp hfj).1
            have hnf : narrow (am_tyf ci j) (.ref (am_ad o base q)) = .ref (am_ad o base q) ∧ fits (am_tyf ci j) (.ref (am_ad o base q)) = true := by
              revert hty
              cases am_tyf ci j <;> intro hty <;> first | (cases hty; done) | exact ⟨rfl, rfl⟩
            have hs2 : (μ.1.set a (.inr (ci, fl.set j (some (.ref q)))))[a]? = some (.inr (ci, fl.set j (some (.ref q)))) := by simp [hlt]
            have hnew : (Sum.inr (ci, (am_fl (am_ad o base) μ.2.1 a 0 fl).set j (.ref (am_ad o base q))) : va_E) = am_cl (am_ad o base) cid μ.2.1 μ.2.2 a (.inr (ci, fl.set j (some (.ref q)))) := by
              have := am_fl_set (am_ad o base) μ.2.1 a j (.ref q) fl 0 ⟨w0, hfj⟩
              simp only [am_cl, this]
              rfl
            exact va_putF hx hb hts (am_lay ci hci) (am_tyf ci) (am_typ ci hci) (am_nm ci hci) hown hK hrel.2.1 hD hS (a - 5) he (am_cl_at hci) j hj (hts _ hw) hsame hfin hin1 (by rw [hcn, ← hco, am_cls_own hci]) (am_typ ci hci j hj) hnf.1 hnf.2 hl3 hdg (fun H1 locs1 hP1 _ hS1 => go _ _ _ _ _ _ _ h (am_relU (μ' := (μ.1.set a (.inr (ci, fl.set j (some (.ref q)))), μ.2)) hrel h5 hlt (hrel.1.set h5 _) (by simp) hs2 (fun c hc => ⟨by rw [List.getElem?_set, if_neg (fun e => hc e.symm)], rfl, rfl⟩) hnew hP1) hS1 hL (by simp) (am_sz_set hsh (by simp [am_ssz])))
        · cases h
      case getstatic ix =>
        simp only [am_step, am_stepG] at h
        split at h
        · rename_i a
          simp only [am_ckI, Bool.and_eq_true, decide_eq_true_eq] at hck
          obtain ⟨⟨⟨hl0, ha1⟩, ha3⟩, hw⟩ := hck
          have hlen := am_b hl0
          subst hlen
          have ha1 := Nat.le_of_ble_eq_true ha1
          have ha3 := Nat.le_of_ble_eq_true ha3
          have hw := am_SP_ok _ _ (am_2in hw)
          have e1 : am_ad o base a = o a := am_ad_old (by omega)
          refine va_gets hx hb (hO.2.1 a ha1 ha3).2 hS hown (hts _ hw) (fun _ q => q) hdg ?_
          rw [← e1]
          exact (go _ _ _ _ _ _ _ h hrel hS hL rfl rfl)
        · cases h
      case ldc2_w ix =>
        simp only [am_step, am_stepG] at h
        split at h
        · rename_i x
          simp only [am_ckI, Bool.and_eq_true, decide_eq_true_eq] at hck
          have hlen := am_b hck.1
          subst hlen
          have hq := am_KT2 hck.2
          exact lv_ldc2 hx hb hown (hts _ hq) hdg (go _ _ _ _ _ _ _ h hrel hS hL rfl rfl)
        · cases h
      case iaload =>
        simp only [am_step, am_stepG] at h
        simp only [am_ckI, Bool.and_eq_true, decide_eq_true_eq] at hck
        have hlen := am_b hck
        subst hlen
        replace h := am_ald_some h
        obtain ⟨i, a, t, ty, sz, rfl, hsh, hty, h, hin⟩ := h
        rcases hrel.1.arr hsh with ⟨h5, ht3⟩ | ⟨rfl, rfl⟩ | ⟨ha1, ha3, rfl, rfl⟩ | ⟨rfl, rfl⟩
        · have h0 : ty = 0 := by
            simp only [Bool.or_eq_true] at hty
            rcases hty with (q | q) | q
            · exact am_b q
            · have := am_b q; omega
            · have := am_b q; omega
          subst h0
          have he := am_ws_get (ad := am_ad o base) (cid := cid) hsh h5
          have hin : vp_in i sz := by
            rcases hin with ⟨q, _⟩ | ⟨_, q⟩
            · omega
            · exact q
          exact va_iald hx hb hK hrel.2.1 (a - 5) 0 he rfl hin hdg (go _ _ _ _ _ _ _ h hrel hS hL rfl rfl)
        · obtain ⟨Ls, hLs, hOL, hX⟩ := hO.1
          have hin : vp_in i Ls := by
            rcases hin with ⟨_, q⟩ | ⟨q, _⟩
            · rw [hrel.2.2 0 4096 (by omega), hOL] at q
              rw [show (Int32.ofNat Ls).toNatClampNeg = Ls from nI_clamp hLs] at q
              exact q
            · exact absurd rfl q
          have h0 := hO.2.2.1 0 (by omega)
          refine va_sld (b := o 0) hx hb hX (Nat.lt_of_lt_of_le h0 hbz) (Nat.not_le.mpr h0) hS hin hdg ?_
          rw [← hrel.2.2 0 _ (by omega)]
          exact (go _ _ _ _ _ _ _ h hrel hS hL rfl rfl)
        · have hin : vp_in i 3 := by
            rcases hin with ⟨q, _⟩ | ⟨_, q⟩
            · omega
            · exact q
          have h0 := hO.2.2.1 a (by omega)
          have e1 : am_ad o base a = o a := am_ad_old (by omega)
          show W p l e R s m args below meth c H locs cells slots Q (F0 m pc0 ls (.int i :: .ref (am_ad o base a) :: t.map (am_val (am_ad o base))))
          rw [e1]
          refine va_ti hx hb (hO.2.1 a ha1 ha3).1 hS hin rfl hdg ?_
          rw [← hrel.2.2 a _ (by omega)]
          exact (go _ _ _ _ _ _ _ h hrel hS hL rfl rfl)
        · cases hty
      case baload =>
        simp only [am_step, am_stepG] at h
        simp only [am_ckI, Bool.and_eq_true, decide_eq_true_eq] at hck
        have hlen := am_b hck
        subst hlen
        replace h := am_ald_some h
        obtain ⟨i, a, t, ty, sz, rfl, hsh, hty, h, hin⟩ := h
        rcases hrel.1.arr hsh with ⟨h5, ht3⟩ | ⟨rfl, rfl⟩ | ⟨ha1, ha3, rfl, rfl⟩ | ⟨rfl, rfl⟩
        rotate_left
        · cases hty
        · cases hty
        · cases hty
        · have he := am_ws_get (ad := am_ad o base) (cid := cid) hsh h5
          have hin2 : vp_in i sz := by
            rcases hin with ⟨q, _⟩ | ⟨_, q⟩
            · omega
            · exact q
          simp only [Bool.or_eq_true] at hty
          rcases hty with q | q
          · have h1 := am_b q
            subst h1
            exact va_bald hx hb hK hrel.2.1 (a - 5) 1 he rfl hin2 hdg (go _ _ _ _ _ _ _ h hrel hS hL rfl rfl)
          · have h1 := am_b q
            subst h1
            exact va_zald hx hb hK hrel.2.1 (a - 5) 2 he rfl hin2 hdg (go _ _ _ _ _ _ _ h hrel hS hL rfl rfl)
      case laload =>
        simp only [am_step, am_stepG] at h
        simp only [am_ckI, Bool.and_eq_true, decide_eq_true_eq] at hck
        have hlen := am_b hck
        subst hlen
        replace h := am_ald_some h
        obtain ⟨i, a, t, ty, sz, rfl, hsh, hty, h, hin⟩ := h
        have h1 := am_b hty
        subst h1
        rcases hrel.1.arr hsh with ⟨h5, ht3⟩ | ⟨_, q⟩ | ⟨_, _, q, _⟩ | ⟨_, q⟩
        · have he := am_ws_get (ad := am_ad o base) (cid := cid) hsh h5
          have hin : vp_in i sz := by
            rcases hin with ⟨q, _⟩ | ⟨_, q⟩
            · omega
            · exact q
          exact va_lald hx hb hK hrel.2.1 (a - 5) 3 he rfl hin hdg (go _ _ _ _ _ _ _ h hrel hS hL rfl rfl)
        all_goals omega
      case iastore =>
        simp only [am_step, am_stepG] at h
        simp only [am_ckI, Bool.and_eq_true, decide_eq_true_eq] at hck
        have hlen := am_b hck
        subst hlen
        replace h := am_ast_some h
        obtain ⟨x, i, a, t, ty, sz, rfl, hsh, hin, h⟩ := h
        split at h
        · rename_i hty
          subst hty
          rcases hrel.1.arr hsh with ⟨h5, ht3⟩ | ⟨_, q⟩ | ⟨_, _, q, _⟩ | ⟨_, q⟩
          · have hlt : a < μ.1.length := (List.getElem?_eq_some_iff.mp hsh).1
            have he := am_ws_get (ad := am_ad o base) (cid := cid) hsh h5
            have hup : ∀ c, c ≠ a → μ.1[c]? = μ.1[c]? ∧ am_upd μ.2.1 a i.toNatClampNeg x c = μ.2.1 c ∧ μ.2.2 c = μ.2.2 c := fun c hc => ⟨rfl, by funext q; simp [am_upd, hc], rfl⟩
            exact va_iast hx hb hK hrel.2.1 hD hS (a - 5) 0 he rfl hin hdg (fun H1 locs1 hP1 _ hS1 => go _ _ _ _ _ _ _ h (am_relU (μ' := (μ.1, am_upd μ.2.1 a i.toNatClampNeg x, μ.2.2)) hrel h5 hlt hrel.1 rfl hsh hup (by simp only [am_cl]; congr 4; funext q; simp [am_upd, upd]) hP1) hS1 hL rfl rfl)
          all_goals omega
        · cases h
      case bastore =>
        simp only [am_step, am_stepG] at h
        simp only [am_ckI, Bool.and_eq_true, decide_eq_true_eq] at hck
        have hlen := am_b hck
        subst hlen
        replace h := am_ast_some h
        obtain ⟨x, i, a, t, ty, sz, rfl, hsh, hin, h⟩ := h
        rcases hrel.1.arr hsh with ⟨h5, ht3⟩ | ⟨_, q⟩ | ⟨_, _, q, _⟩ | ⟨_, q⟩
        rotate_left
        · subst q; cases h
        · subst q; cases h
        · subst q; cases h
        · have hlt : a < μ.1.length := (List.getElem?_eq_some_iff.mp hsh).1
          have he := am_ws_get (ad := am_ad o base) (cid := cid) hsh h5
          split at h
          · rename_i hty
            subst hty
            have hup : ∀ c, c ≠ a → μ.1[c]? = μ.1[c]? ∧ am_upd μ.2.1 a i.toNatClampNeg x.toInt8.toInt32 c = μ.2.1 c ∧ μ.2.2 c = μ.2.2 c := fun c hc => ⟨rfl, by funext q; simp [am_upd, hc], rfl⟩
            exact va_bast hx hb hK hrel.2.1 hD hS (a - 5) 1 he rfl hin hdg (fun H1 locs1 hP1 _ hS1 => go _ _ _ _ _ _ _ h (am_relU (μ' := (μ.1, am_upd μ.2.1 a i.toNatClampNeg x.toInt8.toInt32, μ.2.2)) hrel h5 hlt hrel.1 rfl hsh hup (by simp only [am_cl]; congr 4; funext q; simp [am_upd, upd, vp_nar_byte]) hP1) hS1 hL rfl rfl)
          · split at h
            · rename_i hty
              subst hty
              replace h := am_b01_some h
              obtain ⟨hx01, h⟩ := h
              have hup : ∀ c, c ≠ a → μ.1[c]? = μ.1[c]? ∧ am_upd μ.2.1 a i.toNatClampNeg x c = μ.2.1 c ∧ μ.2.2 c = μ.2.2 c := fun c hc => ⟨rfl, by funext q; simp [am_upd, hc], rfl⟩
              have hnx : vp_nar .boolean x = x := by rcases hx01 with rfl | rfl <;> rfl
              exact va_zast hx hb hK hrel.2.1 hD hS (a - 5) 2 he rfl hin hdg (fun H1 locs1 hP1 _ hS1 => go _ _ _ _ _ _ _ h (am_relU (μ' := (μ.1, am_upd μ.2.1 a i.toNatClampNeg x, μ.2.2)) hrel h5 hlt hrel.1 rfl hsh hup (by simp only [am_cl]; congr 4; funext q; simp [am_upd, upd, hnx]) hP1) hS1 hL rfl rfl)
            · cases h
      case lastore =>
        simp only [am_step, am_stepG] at h
        simp only [am_ckI, Bool.and_eq_true, decide_eq_true_eq] at hck
        have hlen := am_b hck
        subst hlen
        replace h := am_astl_some h
        obtain ⟨x, i, a, t, ty, sz, rfl, hsh, hin, h⟩ := h
        split at h
        · rename_i hty
          subst hty
          rcases hrel.1.arr hsh with ⟨h5, ht3⟩ | ⟨_, q⟩ | ⟨_, _, q, _⟩ | ⟨_, q⟩
          · have hlt : a < μ.1.length := (List.getElem?_eq_some_iff.mp hsh).1
            have he := am_ws_get (ad := am_ad o base) (cid := cid) hsh h5
            have hup : ∀ c, c ≠ a → μ.1[c]? = μ.1[c]? ∧ μ.2.1 c = μ.2.1 c ∧ am_updJ μ.2.2 a i.toNatClampNeg x c = μ.2.2 c := fun c hc => ⟨rfl, rfl, by funext q; simp [am_updJ, hc]⟩
            exact va_last hx hb hK hrel.2.1 hD hS (a - 5) 3 he rfl hin hdg (fun H1 locs1 hP1 _ hS1 => go _ _ _ _ _ _ _ h (am_relU (μ' := (μ.1, μ.2.1, am_updJ μ.2.2 a i.toNatClampNeg x)) hrel h5 hlt hrel.1 rfl hsh hup (by simp only [am_cl]; congr 5; funext q; simp [am_updJ, vp_updL]) hP1) hS1 hL rfl rfl)
          all_goals omega
        · cases h
      case arraylength =>
        simp only [am_step, am_stepG] at h
        simp only [am_ckI, Bool.and_eq_true, decide_eq_true_eq] at hck
        have hlen := am_b hck
        subst hlen
        unfold am_len at h
        split at h
        · rename_i a t
          replace h := am_arr_some h
          obtain ⟨ty, sz, hsh, h⟩ := h
          rcases hrel.1.arr hsh with ⟨h5, ht3⟩ | ⟨rfl, rfl⟩ | ⟨_, _, rfl, _⟩ | ⟨_, rfl⟩
          · split at h
            · rename_i hb2
              have := am_b hb2
              omega
            · split at h
              · rename_i hb2
                have h0 := am_b hb2
                subst h0
                have he := am_ws_get (ad := am_ad o base) (cid := cid) hsh h5
                exact va_alen hx hb hK hrel.2.1 (a - 5) 0 he rfl rfl hdg (go _ _ _ _ _ _ _ h hrel hS hL rfl rfl)
              · cases h
          · obtain ⟨Ls, hLs, hOL, hX⟩ := hO.1
            have h0 := hO.2.2.1 0 (by omega)
            refine va_slen (b := o 0) hx hb hX (Nat.lt_of_lt_of_le h0 hbz) (Nat.not_le.mpr h0) hS hdg ?_
            rw [← hOL, ← hrel.2.2 0 _ (by omega)]
            exact (go _ _ _ _ _ _ _ h hrel hS hL rfl rfl)
          · cases h
          · cases h
        · cases h
      case ireturn =>
        simp only [am_step, am_stepG] at h
        simp only [am_ckI, Bool.and_eq_true, decide_eq_true_eq] at hck
        have hlen := am_b hck
        subst hlen
        split at h
        · split at h
          · rename_i hrt
            cases h
            have e1 : cells = tc := by simpa using htc
            have e2 : slots = ts := by simpa using hts'
            subst e1
            subst e2
            exact hret pc0 H locs ls (Or.inl ⟨_, rfl, hdg, Or.inl hrt⟩) hrel hS
          · rename_i hrt
            replace h := am_b01_some h
            obtain ⟨hx01, h⟩ := h
            cases h
            have e1 : cells = tc := by simpa using htc
            have e2 : slots = ts := by simpa using hts'
            subst e1
            subst e2
            exact hret pc0 H locs ls (Or.inl ⟨_, rfl, hdg, Or.inr ⟨hrt, hx01⟩⟩) hrel hS
          · cases h
        · cases h
      case lreturn =>
        simp only [am_step, am_stepG] at h
        simp only [am_ckI, Bool.and_eq_true, decide_eq_true_eq] at hck
        have hlen := am_b hck
        subst hlen
        split at h
        · split at h
          · rename_i hrt
            cases h
            have e1 : cells = tc := by simpa using htc
            have e2 : slots = ts := by simpa using hts'
            subst e1
            subst e2
            exact hret pc0 H locs ls (Or.inr (Or.inl ⟨_, rfl, hdg, hrt⟩)) hrel hS
          · cases h
        · cases h
      case return_ =>
        simp only [am_step, am_stepG] at h
        simp only [am_ckI, Bool.and_eq_true, decide_eq_true_eq] at hck
        have hlen := am_b hck
        subst hlen
        split at h
        · split at h
          · rename_i hrt
            cases h
            have e1 : cells = tc := by simpa using htc
            have e2 : slots = ts := by simpa using hts'
            subst e1
            subst e2
            exact hret pc0 H locs ls (Or.inr (Or.inr ⟨rfl, hdg, hrt⟩)) hrel hS
          · cases h
        · cases h
      case ldc ix =>
        simp only [am_step, am_stepG] at h
        split at h
        · rename_i x
          simp only [am_ckI, Bool.and_eq_true, decide_eq_true_eq] at hck
          have hlen := am_b hck.1
          subst hlen
          exact lv_ldc hx hb hown (hts _ (am_KTin hck.2)) hdg (go _ _ _ _ _ _ _ h hrel hS hL rfl rfl)
        · rename_i x
          simp only [am_ckI, Bool.and_eq_true, decide_eq_true_eq] at hck
          have hlen := am_b hck.1
          subst hlen
          exact lv_ldc hx hb hown (hts _ (am_KTin hck.2)) hdg (go _ _ _ _ _ _ _ h hrel hS hL rfl rfl)
        · rename_i a
          simp only [am_ckI, Bool.and_eq_true, decide_eq_true_eq] at hck
          obtain ⟨⟨⟨hl0, h7⟩, h68⟩, h4⟩ := hck
          have hlen := am_b hl0
          subst hlen
          have hix := am_b h68
          subst hix
          have h4 := am_b h4
          subst h4
          have how : am_own (am_mi k).1 = "OneClock$Tape" := by rw [am_b h7]; rfl
          rw [how] at hown
          exact va_ldcS hx hb hown hO.2.2.2.1.1 hdg (go _ _ _ _ _ _ _ h hrel hS hL rfl rfl)
        · cases h
      case ldc_w ix =>
        simp only [am_step, am_stepG] at h
        split at h
        · rename_i x
          simp only [am_ckI, Bool.and_eq_true, decide_eq_true_eq] at hck
          have hlen := am_b hck.1
          subst hlen
          exact lv_ldcw hx hb hown (hts _ (am_KTin hck.2)) hdg (go _ _ _ _ _ _ _ h hrel hS hL rfl rfl)
        · rename_i x
          simp only [am_ckI, Bool.and_eq_true, decide_eq_true_eq] at hck
          have hlen := am_b hck.1
          subst hlen
          exact lv_ldcw hx hb hown (hts _ (am_KTin hck.2)) hdg (go _ _ _ _ _ _ _ h hrel hS hL rfl rfl)
        · cases h
      case newarray at0 =>
        simp only [am_step, am_stepG] at h
        simp only [am_ckI, Bool.and_eq_true] at hck
        have hlen := am_b hck.1
        subst hlen
        have h5 := hrel.1.len
        split at h
        · rename_i y hy
          replace h := am_popi_some h
          obtain ⟨nn, t, rfl, h⟩ := h
          split at h
          · cases h
          · rename_i hn
            simp only [not_or, Nat.not_lt] at hn
            obtain ⟨hn1, hn2⟩ := hn
            have hg2 := am_run_grow _ _ _ _ _ _ _ _ _ h
            simp only [List.length_append, List.length_cons, List.length_nil, am_sz_push, am_ssz] at hg2
            have fin : ∀ (q : Nat) (cA : ClassId) (H1 : Heap) (x : vp_A), cA = cid y → ((cA, x) : ClassId × vp_A) = (match am_cl (am_ad o base) cid (am_zero μ.2.1 μ.1.length) (am_zeroJ μ.2.2 μ.1.length) μ.1.length (.inl (y, nn.toNatClampNeg)) with | .inl z => z | .inr _ => (cA, x)) → va_P D vwCl (am_ws (am_ad o base) cid μ ++ [(q, .inl (cA, x))]) H1 → va_D (am_A base) (am_ws (am_ad o base) cid μ ++ [(q, .inl (cA, x))]) → va_S (am_A base) s.heap H1 locs → y ≤ 3 → W p l e R s m args below meth c H1 locs (cells + 1) (slots + nn.toNatClampNeg) Q (F0 m (pc0 + 2) ls (.ref q :: t.map (am_val (am_ad o base)))) := by
              intro q cA H1 x hcA hcx hP1 hD1 hS1 hy3
              refine am_sizeW (fun hsz1 => ?_)
              have hq := am_newq h5 hP1 hD1 (by omega)
              subst hq
              have hP2 : va_P D vwCl (am_ws (am_ad o base) cid (μ.1 ++ [.inl (y, nn.toNatClampNeg)], am_zero μ.2.1 μ.1.length, am_zeroJ μ.2.2 μ.1.length)) H1 := by
                rw [am_ws_push (μ := μ) (s := .inl (y, nn.toNatClampNeg)) h5 rfl (fun c hc => ⟨by funext k; simp [am_zero, hc], by funext k; simp [am_zeroJ, hc]⟩)]
                have e0 : (Sum.inl (cA, x) : va_E) = am_cl (am_ad o base) cid (am_zero μ.2.1 μ.1.length) (am_zeroJ μ.2.2 μ.1.length) μ.1.length (.inl (y, nn.toNatClampNeg)) := by rw [hcx]; rfl
                rw [← e0]
                exact hP1
              exact ih p e R s m args below meth c k d _ _ _ _ v μf H1 locs _ _ Q ls tc ts hk hctx0 h ⟨hrel.1.push (fun t n e => by cases e; exact hy3), hP2, fun c k hc => by simp only [am_zero]; rw [if_neg (by omega)]; exact hrel.2.2 c k hc⟩ hS1 hL (by simp only [List.length_append, List.length_cons, List.length_nil]; omega) (by simp only [am_sz_push, am_ssz]; omega) (by simp only [List.length_append, List.length_cons, List.length_nil]; omega) hret
            have hc1 : cells + 1 ≤ R.cells := by omega
            have hs1 : slots + nn.toNatClampNeg ≤ R.slots := by omega
            cases at0
            all_goals first | (cases hy; done) | skip
            case boolean =>
              cases hy
              refine va_newa (atype := .boolean) (ty := .boolean) (N' := nn.toNatClampNeg) (a0 := (nn.toNatClampNeg, .inl (fun _ => 0))) hx hb (hts _ am_bw14) rfl hK hrel.2.1 hD hS hA (fun _ => rfl) hn1 rfl (by simp only [componentBytes]; omega) hc1 hs1 hdg (fun q cA H1 hK1 hP1 hD1 hS1 => ?_)
              have e1 := (hK1.2 4 (cA, .boolean) rfl).2
              have e2 := (hK.2 2 (cid 2, .boolean) rfl).2
              have e3 : cA = cid 2 := Option.some.inj (e1.symm.trans e2)
              refine fin q cA H1 _ e3 ?_ hP1 hD1 hS1 (by omega)
              rw [e3]
              simp only [am_cl]
              exact congrArg (fun f => ((cid 2, (nn.toNatClampNeg, f)) : ClassId × vp_A)) (by first | (refine congrArg Sum.inl ?_; funext k; simp [am_zero]; done) | (refine congrArg Sum.inr (congrArg Sum.inl ?_); funext k; simp [am_zeroJ]; done))
            case byte =>
              cases hy
              refine va_newa (atype := .byte) (ty := .byte) (N' := nn.toNatClampNeg) (a0 := (nn.toNatClampNeg, .inl (fun _ => 0))) hx hb (hts _ am_bw13) rfl hK hrel.2.1 hD hS hA (fun _ => rfl) hn1 rfl (by simp only [componentBytes]; omega) hc1 hs1 hdg (fun q cA H1 hK1 hP1 hD1 hS1 => ?_)
              have e1 := (hK1.2 4 (cA, .byte) rfl).2
              have e2 := (hK.2 1 (cid 1, .byte) rfl).2
              have e3 : cA = cid 1 := Option.some.inj (e1.symm.trans e2)
              refine fin q cA H1 _ e3 ?_ hP1 hD1 hS1 (by omega)
              rw [e3]
              simp only [am_cl]
              exact congrArg (fun f => ((cid 1, (nn.toNatClampNeg, f)) : ClassId × vp_A)) (by first | (refine congrArg Sum.inl ?_; funext k; simp [am_zero]; done) | (refine congrArg Sum.inr (congrArg Sum.inl ?_); funext k; simp [am_zeroJ]; done))
            case int =>
              cases hy
              refine va_newa (atype := .int) (ty := .int) (N' := nn.toNatClampNeg) (a0 := (nn.toNatClampNeg, .inl (fun _ => 0))) hx hb (hts _ am_bw12) rfl hK hrel.2.1 hD hS hA (fun _ => rfl) hn1 rfl (by simp only [componentBytes]; omega) hc1 hs1 hdg (fun q cA H1 hK1 hP1 hD1 hS1 => ?_)
              have e1 := (hK1.2 4 (cA, .int) rfl).2
              have e2 := (hK.2 0 (cid 0, .int) rfl).2
              have e3 : cA = cid 0 := Option.some.inj (e1.symm.trans e2)
              refine fin q cA H1 _ e3 ?_ hP1 hD1 hS1 (by omega)
              rw [e3]
              simp only [am_cl]
              exact congrArg (fun f => ((cid 0, (nn.toNatClampNeg, f)) : ClassId × vp_A)) (by first | (refine congrArg Sum.inl ?_; funext k; simp [am_zero]; done) | (refine congrArg Sum.inr (congrArg Sum.inl ?_); funext k; simp [am_zeroJ]; done))
            case long =>
              cases hy
              refine va_newa (atype := .long) (ty := .long) (N' := nn.toNatClampNeg) (a0 := (nn.toNatClampNeg, .inr (.inl (fun _ => 0)))) hx hb (hts _ am_bw15) rfl hK hrel.2.1 hD hS hA (fun _ => rfl) hn1 rfl (by simp only [componentBytes]; omega) hc1 hs1 hdg (fun q cA H1 hK1 hP1 hD1 hS1 => ?_)
              have e1 := (hK1.2 4 (cA, .long) rfl).2
              have e2 := (hK.2 3 (cid 3, .long) rfl).2
              have e3 : cA = cid 3 := Option.some.inj (e1.symm.trans e2)
              refine fin q cA H1 _ e3 ?_ hP1 hD1 hS1 (by omega)
              rw [e3]
              simp only [am_cl]
              exact congrArg (fun f => ((cid 3, (nn.toNatClampNeg, f)) : ClassId × vp_A)) (by first | (refine congrArg Sum.inl ?_; funext k; simp [am_zero]; done) | (refine congrArg Sum.inr (congrArg Sum.inl ?_); funext k; simp [am_zeroJ]; done))
        · cases h
      case new ix =>
        simp only [am_step, am_stepG] at h
        split at h
        · rename_i ci bs
          simp only [am_ckI, Bool.and_eq_true] at hck
          obtain ⟨⟨⟨hl0, hnt⟩, hbl⟩, hdf⟩ := hck
          have hlen := am_b hl0
          subst hlen
          have hbl := am_b hbl
          obtain ⟨hci, hcw⟩ := am_NT_ok _ _ (am_2in hnt)
          simp only at hci hcw
          have h5 := hrel.1.len
          have hg2 := am_run_grow _ _ _ _ _ _ _ _ _ h
          simp only [List.length_append, List.length_cons, List.length_nil, am_sz_push, am_ssz, am_born, List.length_map] at hg2
          have hfs : ∀ j, j < (am_cls ci).2.2 → defaultValue (am_tyf ci j) = vp_V (am_fl (am_ad o base) (am_zero μ.2.1 μ.1.length) μ.1.length 0 (am_born (bs.map fun b => b == 1))) j := by
            intro j hj
            have h1 := of_decide_eq_true (List.all_eq_true.mp hdf j (List.mem_range.mpr (by omega)))
            rw [h1]
            have e2 : ∀ (l : List Value) (w : Value), l[j]? = some w → vp_V l j = w := fun l w hw => by unfold vp_V; rw [List.getD_eq_getElem?_getD, hw]; rfl
            have hb1 : bs[j]? = some (bs.getD j 0) := by rw [List.getD_eq_getElem?_getD, List.getElem?_eq_getElem (by omega)]; rfl
            by_cases hq : (bs.getD j 0 == 1) = true
            · rw [if_pos hq]
              exact (e2 _ _ (am_fl_some _ _ _ _ _ _ .null (by simp only [am_born, List.getElem?_map, hb1, Option.map_some, hq, if_true]))).symm
            · rw [if_neg hq]
              have e3 := am_fl_none (am_ad o base) (am_zero μ.2.1 μ.1.length) μ.1.length (am_born (bs.map fun b => b == 1)) 0 j (by simp only [am_born, List.getElem?_map, hb1, Option.map_some]; rw [if_neg hq])
              rw [e2 _ _ e3]
              simp [am_zero]
          refine va_new hx hb hts (am_lay ci hci) (am_tyf ci) (am_typ ci hci) hown (hts _ hcw) (hts _ (am_ini ci hci).2) (hts _ (am_ini ci hci).1) hK hrel.2.1 hD hS hA (am_cl_at hci) hfs (by omega) (by omega) hdg (fun q H1 hP1 hD1 hS1 => am_sizeW (fun hsz1 => ?_))
          have hq := am_newq h5 hP1 hD1 (by omega)
          subst hq
          have hP2 : va_P D vwCl (am_ws (am_ad o base) cid (μ.1 ++ [.inr (ci, am_born (bs.map fun b => b == 1))], am_zero μ.2.1 μ.1.length, am_zeroJ μ.2.2 μ.1.length)) H1 := by
            rw [am_ws_push (μ := μ) (s := .inr (ci, am_born (bs.map fun b => b == 1))) h5 rfl (fun c hc => ⟨by funext k; simp [am_zero, hc], by funext k; simp [am_zeroJ, hc]⟩)]
            exact hP1
          have hbl2 : (am_born (bs.map fun b => b == 1)).length = (am_cls ci).2.2 := by simp only [am_born, List.length_map]; exact hbl
          exact ih p e R s m args below meth c k d _ _ _ _ v μf H1 locs _ _ Q ls tc ts hk hctx0 h ⟨hrel.1.push (fun t n e => by cases e), hP2, fun c k hc => by simp only [am_zero]; rw [if_neg (by omega)]; exact hrel.2.2 c k hc⟩ hS1 hL (by simp only [List.length_append, List.length_cons, List.length_nil]; omega) (by simp only [am_sz_push, am_ssz, hbl2]; omega) (by simp only [List.length_append, List.length_cons, List.length_nil]; omega) hret
        · cases h
      case invokevirtual ix =>
        simp only [am_step, am_stepG] at h
        split at h
        · rename_i b0
          simp only [am_ckI, Bool.and_eq_true, decide_eq_true_eq] at hck
          obtain ⟨⟨hl0, hb5⟩, hbt⟩ := hck
          have hlen := am_b hl0
          subst hlen
          have hb5 := am_b hb5
          subst hb5
          have hw := am_BT_ok _ _ (am_2in hbt)
          simp only [am_blt] at h
          split at h
          · rename_i i a t
            split at h
            · rename_i hc4
              obtain ⟨rfl, hc8⟩ := hc4
              replace h := am_at_some h
              obtain ⟨hin, h⟩ := h
              refine am_charW (o := o) hctx0 hS hsz hin (hcat t hc8) (hts _ hw) hcells hslots hdg (fun locs1 H1 hz1 hk1 hS1 => ?_)
              rw [← hrel.2.2 4 _ (by omega)]
              exact go _ _ _ _ _ _ _ h ⟨hrel.1, hrel.2.1.kept (fun k q hq => hk1 _ (hrel.2.1 k q hq).lt), hrel.2.2⟩ hS1 hL rfl rfl
            · cases h
          · cases h
        · rename_i y n0 ci
          simp only [am_ckI, Bool.and_eq_true, decide_eq_true_eq] at hck
          obtain ⟨⟨⟨⟨⟨⟨⟨⟨hl0, hct⟩, hy0⟩, hyl⟩, hst⟩, hci0⟩, hci⟩, hpar⟩, hnin⟩ := hck
          have hlen := am_b hl0
          subst hlen
          have hci0 := am_b hci0
          have hci := am_lt2 hci
          have hyl : y ≠ 227 := fun e => by subst e; cases hyl
          have hst : am_sta y = false := by simpa using hst
          have hw := am_CT_ok _ _ (am_2in hct)
          split at h
          · rename_i a t hdrop
            replace h := am_obj_some h
            obtain ⟨fl, hsh, h⟩ := h
            split at h
            · rename_i hcat8
              have hwl := hrel.1.len
              replace h := am_call_some h
              obtain ⟨d1, v1, μ1, hy, hlev, ha, h1, h2⟩ := h
              have hM := am_met ih hy hyl h1 ha
              have hg1 := am_run_grow _ _ _ _ _ _ _ _ _ h1
              have hg2 := am_run_grow _ _ _ _ _ _ _ _ _ h2
              obtain ⟨y1, y2, y3, y4, y5, y6, y7⟩ := am_yok_ok hy hyl
              have hR : (am_rm y d1 (μ1.1.length - μ.1.length) (am_sz μ1.1 - am_sz μ.1)).frames + 1 ≤ R.frames ∧ 8 + (am_nl y + 11) + (am_rm y d1 (μ1.1.length - μ.1.length) (am_sz μ1.1 - am_sz μ.1)).locals ≤ R.locals := by
                have h20 := (am_ckM_ok hy).2.2
                simp only [am_rm, am_fr, am_lo, am_nl] at hfr hlo h20 ⊢
                omega
              have hGi : GoodIn am_W (am_ws1 y) := fun w hw => by
                rcases List.mem_cons.mp hw with e0 | hw
                · rw [e0]; exact am_Wg _ y1
                · exact am_Wg _ hw
              refine am_sizeW (fun hsz1 => ?_)
              have hPre : ∀ U : State, U.heap = H → s.WarmedH U.vm → am_Pc D cid o base vb OI (.ref a :: (S.take n0).reverse) μ ((.ref a :: (S.take n0).reverse).map (am_val (am_ad o base))).toArray U := fun U hU hW => ⟨rfl, by rw [hU]; exact Nat.le_trans hbz hS.1, by rw [hU]; have := am_low hrel (Nat.le_trans hbz hS.1); omega, by rw [hU]; exact hrel, va_K.moved hW.alike hK, by rw [hU]; exact hO.next hW hS hbz⟩
              have hbl : FrameBlind (am_Pc D cid o base vb OI (.ref a :: (S.take n0).reverse) μ) := fun a U g mk ⟨q1, q2, q3, q4, q5, q6⟩ => ⟨q1, q2, q3, q4, va_K.moved (u := U) (U := U.calling g mk a) (Vm.Alike.refl U.vm) q5, q6.blind g mk a⟩
              have h5 := hrel.1.obj hsh
              have he := am_ws_get (ad := am_ad o base) (cid := cid) hsh h5
              have hnl : n0 < S.length := by
                have := congrArg List.length hdrop
                simp only [List.length_drop, List.length_cons] at this
                omega
              have hstk : S.map (am_val (am_ad o base)) = ((S.take n0).reverse.map (am_val (am_ad o base))).reverse ++ .ref (am_ad o base a) :: t.map (am_val (am_ad o base)) := by
                conv => lhs; rw [← List.take_append_drop n0 S, hdrop]
                simp [am_val]
              have hnlen : ((S.take n0).reverse.map (am_val (am_ad o base))).length = n0 := by simp; omega
              have hcl : (am_yn y).cls = (am_cls ci).1 := by rw [y7, ← hci0, am_cls_own hci]
              obtain ⟨z1, z2⟩ := y3 hst
              have z2 := z2.resolve_left hnin
              have hrec := va_recv hK hrel.2.1 (am_cl_at hci) he
              refine am_after (va_runV (C := (am_yn y).cls) (As := (S.take n0).reverse.map (am_val (am_ad o base))) ⟨hx, hb, hml, hown, hts⟩ hM ⟨callB_of n0 hts hGi rfl rfl rfl (hts _ y2) (hts _ hw) ⟨y6.1, y6.2, hpar⟩ hR, hts _ z1, hts _ z2⟩ ⟨hbl, by rw [hcl]; exact hrec, hPre⟩ rfl hnlen hL.2.1 hstk (lv_room (hcat t hcat8)) hdg ⟨by omega, by omega⟩) hS (fun H1 locs1 hrel1 hS1 => ih p e R s m args below meth c k d _ _ _ _ v μf H1 locs1 _ _ Q ls tc ts hk hctx0 h2 hrel1 hS1 hL (by omega) (by omega) (by omega) hret)
            · cases h
          · cases h
        · cases h
      case invokespecial ix =>
        simp only [am_step, am_stepG] at h
        split at h
        · rename_i b0
          simp only [am_ckI, Bool.and_eq_true, decide_eq_true_eq] at hck
          obtain ⟨⟨hl0, hb5⟩, hbt⟩ := hck
          have hlen := am_b hl0
          subst hlen
          have hb5 := am_b hb5
          subst hb5
          have hw := am_BT_ok _ _ (am_2in hbt)
          simp only [am_blt] at h
          split at h
          · rename_i a t
            split at h
            · rename_i hc8
              exact W.objInit hx hb hown (hts _ hw) (hts _ am_bw0) (hts _ am_bw1) rfl hsz.symm rfl hdg hrd.1 (by have := hcat t hc8; show 2 * 0 + _ + 12 ≤ _; omega) (go _ _ _ _ _ _ _ h hrel hS hL rfl rfl)
            · cases h
          · cases h
        · rename_i y n0 ci
          simp only [am_ckI, Bool.and_eq_true, decide_eq_true_eq] at hck
          obtain ⟨⟨⟨⟨⟨⟨⟨⟨⟨hl0, hct⟩, hy0⟩, hyl⟩, hst⟩, hci0⟩, hci⟩, hpar⟩, hnin⟩, hrn⟩ := hck
          have hlen := am_b hl0
          subst hlen
          have hci0 := am_b hci0
          have hci := am_lt2 hci
          have hyl : y ≠ 227 := fun e => by subst e; cases hyl
          have hst : am_sta y = false := by simpa using hst
          split at h
          · rename_i a t hdrop
            replace h := am_obj_some h
            obtain ⟨fl, hsh, h⟩ := h
            split at h
            · rename_i hcat8
              have hwl := hrel.1.len
              replace h := am_call_some h
              obtain ⟨d1, v1, μ1, hy, hlev, ha, h1, h2⟩ := h
              have hM := am_met ih hy hyl h1 ha
              have hg1 := am_run_grow _ _ _ _ _ _ _ _ _ h1
              have hg2 := am_run_grow _ _ _ _ _ _ _ _ _ h2
              obtain ⟨y1, y2, y3, y4, y5, y6, y7⟩ := am_yok_ok hy hyl
              have hR : (am_rm y d1 (μ1.1.length - μ.1.length) (am_sz μ1.1 - am_sz μ.1)).frames + 1 ≤ R.frames ∧ 8 + (am_nl y + 11) + (am_rm y d1 (μ1.1.length - μ.1.length) (am_sz μ1.1 - am_sz μ.1)).locals ≤ R.locals := by
                have h20 := (am_ckM_ok hy).2.2
                simp only [am_rm, am_fr, am_lo, am_nl] at hfr hlo h20 ⊢
                omega
              have hGi : GoodIn am_W (am_ws1 y) := fun w hw => by
                rcases List.mem_cons.mp hw with e0 | hw
                · rw [e0]; exact am_Wg _ y1
                · exact am_Wg _ hw
              refine am_sizeW (fun hsz1 => ?_)
              have hPre : ∀ U : State, U.heap = H → s.WarmedH U.vm → am_Pc D cid o base vb OI (.ref a :: (S.take n0).reverse) μ ((.ref a :: (S.take n0).reverse).map (am_val (am_ad o base))).toArray U := fun U hU hW => ⟨rfl, by rw [hU]; exact Nat.le_trans hbz hS.1, by rw [hU]; have := am_low hrel (Nat.le_trans hbz hS.1); omega, by rw [hU]; exact hrel, va_K.moved hW.alike hK, by rw [hU]; exact hO.next hW hS hbz⟩
              have hbl : FrameBlind (am_Pc D cid o base vb OI (.ref a :: (S.take n0).reverse) μ) := fun a U g mk ⟨q1, q2, q3, q4, q5, q6⟩ => ⟨q1, q2, q3, q4, va_K.moved (u := U) (U := U.calling g mk a) (Vm.Alike.refl U.vm) q5, q6.blind g mk a⟩
              have h5 := hrel.1.obj hsh
              have he := am_ws_get (ad := am_ad o base) (cid := cid) hsh h5
              have hnl : n0 < S.length := by
                have := congrArg List.length hdrop
                simp only [List.length_drop, List.length_cons] at this
                omega
              have hstk : S.map (am_val (am_ad o base)) = ((S.take n0).reverse.map (am_val (am_ad o base))).reverse ++ .ref (am_ad o base a) :: t.map (am_val (am_ad o base)) := by
                conv => lhs; rw [← List.take_append_drop n0 S, hdrop]
                simp [am_val]
              have hnlen : ((S.take n0).reverse.map (am_val (am_ad o base))).length = n0 := by simp; omega
              obtain ⟨z1, z2⟩ := y3 hst
              have hwsn : am_ws1 y = Cond.code (am_yn y) (am_by y) (am_nl y) none :: am_W := by unfold am_ws1 am_rt; rw [hrn]
              rcases (Bool.or_eq_true _ _).mp hct with hct | hct
              · have hw := am_CT_ok _ _ (am_2in hct)
                refine am_after (va_runI (As := (S.take n0).reverse.map (am_val (am_ad o base))) ⟨hx, hb, hml, hown, hts⟩ hM ⟨callB_of n0 hts hGi hwsn rfl rfl (hts _ y2) (hts _ hw) ⟨y6.1, y6.2, hpar⟩ hR, hnin, hts _ z1⟩ ⟨hbl, hPre⟩ rfl hnlen hL.2.1 hstk (lv_room (hcat t hcat8)) hdg ⟨by omega, by omega⟩) hS (fun H1 locs1 hrel1 hS1 => ih p e R s m args below meth c k d _ _ _ _ v μf H1 locs1 _ _ Q ls tc ts hk hctx0 h2 hrel1 hS1 hL (by omega) (by omega) (by omega) hret)
              · obtain ⟨q, hq, hh⟩ := List.any_eq_true.mp hct
                simp only [Bool.and_eq_true] at hh
                have hnw := hO.2.2.2.2 q hq
                rw [am_b hh.1.1, am_b hh.1.2, am_b hh.2] at hnw
                refine am_after (va_runIN (As := (S.take n0).reverse.map (am_val (am_ad o base))) ⟨hx, hb, hml, hown, hts⟩ hM ⟨va_cnB n0 hts hGi hwsn rfl rfl hnw (hts _ y2) ⟨y6.1, y6.2, hpar⟩ hR, hnin, hts _ z1⟩ ⟨hbl, hPre⟩ rfl hnlen hL.2.1 hstk (lv_room (hcat t hcat8)) hdg ⟨by omega, by omega⟩) hS (fun H1 locs1 hrel1 hS1 => ih p e R s m args below meth c k d _ _ _ _ v μf H1 locs1 _ _ Q ls tc ts hk hctx0 h2 hrel1 hS1 hL (by omega) (by omega) (by omega) hret)
            · cases h
          · cases h
        · cases h
      case invokestatic ix =>
        simp only [am_step, am_stepG] at h
        split at h
        · rename_i b0
          simp only [am_ckI, Bool.and_eq_true, decide_eq_true_eq] at hck
          obtain ⟨⟨⟨hl0, hb1⟩, hb4⟩, hbt⟩ := hck
          have hlen := am_b hl0
          subst hlen
          have hb1 := Nat.le_of_ble_eq_true hb1
          have hb4 := Nat.le_of_ble_eq_true hb4
          have hw := am_BT_ok _ _ (am_2in hbt)
          rcases (show b0 = 1 ∨ b0 = 2 ∨ b0 = 3 ∨ b0 = 4 by omega) with rfl | rfl | rfl | rfl
          · simp only [am_blt] at h
            replace h := am_popii_some h
            obtain ⟨x, y, t, rfl, h⟩ := h
            split at h
            · rename_i hc8
              exact va_mmax hx hb hsz hown (hts _ hw) (hts _ am_bw4) (hts _ am_bw2) (hts _ am_bw5) hrd.1 (by have := hcat t hc8; omega) hcells hslots hdg (go _ _ _ _ _ _ _ h hrel hS hL rfl rfl)
            · cases h
          · simp only [am_blt] at h
            replace h := am_popii_some h
            obtain ⟨x, y, t, rfl, h⟩ := h
            split at h
            · rename_i hc8
              exact va_mmin hx hb hsz hown (hts _ hw) (hts _ am_bw6) (hts _ am_bw2) (hts _ am_bw7) hrd.1 (by have := hcat t hc8; omega) hcells hslots hdg (go _ _ _ _ _ _ _ h hrel hS hL rfl rfl)
            · cases h
          · simp only [am_blt] at h
            replace h := am_popi_some h
            obtain ⟨x, t, rfl, h⟩ := h
            split at h
            · rename_i hc8
              exact va_mabs hx hb hsz hown (hts _ hw) (hts _ am_bw8) (hts _ am_bw2) (hts _ am_bw9) hrd.1 (by have := hcat t hc8; omega) hcells hslots hdg (go _ _ _ _ _ _ _ h hrel hS hL rfl rfl)
            · cases h
          · simp only [am_blt] at h
            replace h := am_copy_some h
            obtain ⟨nn, dd, b, ss, a, t, n0, n1, rfl, hsa, hsb, ha5, hb5, hc8, ⟨g1, g2, g3, g4, g5⟩, h⟩ := h
            have hea := am_ws_get (ad := am_ad o base) (cid := cid) hsa ha5
            have heb := am_ws_get (ad := am_ad o base) (cid := cid) hsb hb5
            have hlt : b < μ.1.length := (List.getElem?_eq_some_iff.mp hsb).1
            exact va_copyi hx hb hsz hown (hts _ hw) (hts _ am_bw10) (hts _ am_bw11) (hts _ am_bw3) hK hrel.2.1 hD hS (a - 5) (b - 5) 0 0 hea heb rfl rfl rfl g1 g2 g3 g4 g5 (fun _ _ => rfl) hrd.1 (by have := hcat t hc8; have h7 : nativeFrameWords "java/lang/System" "arraycopy" 5 ≤ 7 := (by decide +kernel); omega) hdg (fun H1 locs1 hP1 _ hS1 => go _ _ _ _ _ _ _ h (am_relU (μ' := (μ.1, am_cpy μ.2.1 a ss.toNatClampNeg b dd.toNatClampNeg nn.toNatClampNeg, μ.2.2)) hrel hb5 hlt hrel.1 rfl hsb (fun c hc => ⟨rfl, by funext q; simp [am_cpy, hc], rfl⟩) (by simp only [am_cl]; congr 4; funext q; simp [am_cpy, va_cpy]) hP1) hS1 hL rfl rfl)
        · rename_i y n0
          simp only [am_ckI, Bool.and_eq_true, decide_eq_true_eq] at hck
          obtain ⟨⟨⟨⟨⟨hl0, hct⟩, hy0⟩, hyl⟩, hst⟩, hpar⟩ := hck
          have hlen := am_b hl0
          subst hlen
          have hyl : y ≠ 227 := fun e => by subst e; cases hyl
          have hw := am_CT_ok _ _ (am_2in hct)
          split at h
          · rename_i hcn
            obtain ⟨hcat8, hnl⟩ := hcn
            have hwl := hrel.1.len
            replace h := am_call_some h
            obtain ⟨d1, v1, μ1, hy, hlev, ha, h1, h2⟩ := h
            have hM := am_met ih hy hyl h1 ha
            have hg1 := am_run_grow _ _ _ _ _ _ _ _ _ h1
            have hg2 := am_run_grow _ _ _ _ _ _ _ _ _ h2
            obtain ⟨y1, y2, y3, y4, y5, y6, y7⟩ := am_yok_ok hy hyl
            have hR : (am_rm y d1 (μ1.1.length - μ.1.length) (am_sz μ1.1 - am_sz μ.1)).frames + 1 ≤ R.frames ∧ 8 + (am_nl y + 11) + (am_rm y d1 (μ1.1.length - μ.1.length) (am_sz μ1.1 - am_sz μ.1)).locals ≤ R.locals := by
              have h20 := (am_ckM_ok hy).2.2
              simp only [am_rm, am_fr, am_lo, am_nl] at hfr hlo h20 ⊢
              omega
            have hGi : GoodIn am_W (am_ws1 y) := fun w hw => by
              rcases List.mem_cons.mp hw with e0 | hw
              · rw [e0]; exact am_Wg _ y1
              · exact am_Wg _ hw
            refine am_sizeW (fun hsz1 => ?_)
            have hPre : ∀ U : State, U.heap = H → s.WarmedH U.vm → am_Pc D cid o base vb OI ((S.take n0).reverse) μ (((S.take n0).reverse).map (am_val (am_ad o base))).toArray U := fun U hU hW => ⟨rfl, by rw [hU]; exact Nat.le_trans hbz hS.1, by rw [hU]; have := am_low hrel (Nat.le_trans hbz hS.1); omega, by rw [hU]; exact hrel, va_K.moved hW.alike hK, by rw [hU]; exact hO.next hW hS hbz⟩
            have hbl : FrameBlind (am_Pc D cid o base vb OI ((S.take n0).reverse) μ) := fun a U g mk ⟨q1, q2, q3, q4, q5, q6⟩ => ⟨q1, q2, q3, q4, va_K.moved (u := U) (U := U.calling g mk a) (Vm.Alike.refl U.vm) q5, q6.blind g mk a⟩
            have hstk : S.map (am_val (am_ad o base)) = ((S.take n0).reverse.map (am_val (am_ad o base))).reverse ++ (S.drop n0).map (am_val (am_ad o base)) := by
              conv => lhs; rw [← List.take_append_drop n0 S]
              simp
            have hnlen : ((S.take n0).reverse.map (am_val (am_ad o base))).length = n0 := by simp; omega
            refine am_after (va_runS (As := (S.take n0).reverse.map (am_val (am_ad o base))) ⟨hx, hb, hml, hown, hts⟩ hM ⟨callB_of n0 hts hGi rfl rfl rfl (hts _ y2) (hts _ hw) ⟨y6.1, y6.2, hpar⟩ hR, hts _ (y4 hst)⟩ ⟨hbl, hPre⟩ rfl hnlen hL.2.1 hstk (lv_room (hcat _ hcat8)) hdg ⟨by omega, by omega⟩) hS (fun H1 locs1 hrel1 hS1 => ih p e R s m args below meth c k d _ _ _ _ v μf H1 locs1 _ _ Q ls tc ts hk hctx0 h2 hrel1 hS1 hL (by omega) (by omega) (by omega) hret)
          · cases h
        · cases h
      all_goals (simp only [am_ckI] at hck; cases hck)
    · cases hck
theorem am_simAll (l : Launch) (D : va_G) (cid : Nat → ClassId) (o : Nat → Nat) (base vb : Nat) (OI : am_I) : ∀ n, am_SimW l D cid o base vb OI n := by
  intro n
  induction n with
  | zero => intro p e R s m args below meth c k d pc L S μ v μf H locs cells slots Q ls tc ts hk hctx h; cases h
  | succ n ih => exact am_simS ih

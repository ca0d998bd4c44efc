/-! the class tries rows of moves -/
noncomputable def g_F (p : g_Plan) (k d : Nat) : g_Row → (Nat → Nat) → g_S → g_S := fun r' path' s' => g_tr p k (d + 1) r' path' s'
/-- what is known of the tries from a depth on -/
def g_TR (p : g_Plan) (J : am_J) (W k : Nat) : Prop := ∀ (lev d : Nat) (r : g_Row) (path : Nat → Nat) (s : g_S) (I : am_I) (B : Int), d + k = W → k ≤ lev → g_tp p W d r path s I → g_bd r B → B + 999 * k ≤ 1000000000 → ∃ I', f_guide_tryRows_0 lev (nI d) I J = some (none, I', J) ∧ g_ks (g_tr p k d r path s) I' ∧ g_tf (22 * d) d I I'
theorem s_guide_tryMovesAt2 (p : g_Plan) (J : am_J) (W k d b lev : Nat) (r : g_Row) (path : Nat → Nat) (B : Int) (hW : W ≤ 4) (hk : d + (k + 1) = W) (hlev : k ≤ lev) (hb : b < pn p) (ih0 : g_TR p J W k) (hB : g_bd r B) (hB2 : B + 999 * (k + 1 : Nat) ≤ 1000000000) (hr33 : r 33 = 0 ∨ r 33 = 1) (hat : g_at r) : ∀ n t s (I : am_I), t + n = ptc p → g_tp p W d r path s I → g_sv I 41 (22 * d) r → ∃ I', f_guide_tryMovesAt_2 (lev + 1) (nI b) (nI d) (nI t) I J = some (none, I', J) ∧ g_ks (g_lt (g_F p k d) p r path d b n t s) I' ∧ g_row I' 47 = r ∧ g_tf (22 * (d + 1)) d I I' := by
  intro n
  induction n with
  | zero =>
    intro t s I ht hP hsv
    have htc := hP.1.1.2.2.2.2.2.2.2.2.2.2.1
    have base := b_guide_tryMovesAt_2 lev (nI b) (nI d) (nI t) I J
    rw [hP.1.2.2.2.2.2.2.2.1, if_pos (nI_le (by omega) (by omega))] at base
    exact ⟨I, base _ rfl, hP.2.2.2.2.2.2.2.2, hP.2.1, fun _ _ _ _ _ _ _ => rfl⟩
  | succ n ih =>
    intro t s I ht hP hsv
    obtain ⟨hC, hrow, -, -, h52, h6, hw, hpath, hs⟩ := hP
    have htc := hC.1.2.2.2.2.2.2.2.2.2.2.1
    have hn := hC.1.1
    have hb6 : b < 6 := by omega
    have base := b_guide_tryMovesAt_2 lev (nI b) (nI d) (nI t) I J
    obtain ⟨I1, e1⟩ : ∃ I1, I1 = am_upd I 42 d (nI (10 * b + t)) := ⟨_, rfl⟩
    have k1 : ∀ c k, (c ≠ 42 ∨ k ≠ d) → I1 c k = I c k := fun c k h => by
      rw [e1]
      rcases h with h | h
      · exact am_uc h
      · exact am_uk h
    have t1 : g_tf (22 * (d + 1)) d I I1 := fun c k _ _ _ _ h => k1 c k (h.imp id (fun q => by omega))
    have C1 : g_C p I1 := t1.C hC
    have row1 : g_row I1 47 = r := by
      rw [← hrow]
      exact g_rk_guide_trial (fun c k hc => k1 c k (Or.inl ((show ∀ c ∈ ([13, 47, 48, 49, 50, 51] : List Nat), c ≠ 42 by decide) c hc)))
    have path1 : ∀ j, j < d + 1 → I1 42 j = nI (g_pt path d (10 * b + t) j) := fun j hj => by
      unfold g_pt
      by_cases e : j = d
      · subst e; rw [e1, am_ue, if_pos rfl]
      · rw [k1 42 j (Or.inr e), if_neg e, hpath j (by omega)]
    have ks1 : g_ks s I1 := hs.keep (fun k _ => k1 40 k (Or.inl (by decide))) (fun k _ => k1 43 k (Or.inl (by decide)))
    have sv1 : g_sv I1 41 (22 * d) r := hsv.keep (fun j _ _ => k1 41 j (Or.inl (by decide)))
    have sn : g_soon p (g_row I1 47) b = g_soon p r b := by rw [row1]
    rw [am_i10, pk_mul, nI_add] at base
    rw [hC.2.2.2.2.2.2.2.1, if_neg (nI_ge (by omega) (by omega)), am_at_n (by omega) (by omega), ← e1, k1 40 9 (Or.inl (by decide)), hw, am_i1, pk_sub (by omega), nI_add] at base
    have hth : I1 15 t = pth p t := C1.2.2.2.2.2.2.2.2.1 t (by omega)
    unfold g_lt
    cases k with
    | zero =>
      obtain ⟨I2, a2, k2⟩ := s_guide_trial_gainOf (lev + 1) b p I1 J (pth p t) C1 hb (by rw [row1]; exact hat)
      rw [if_pos (show nI d = nI (W - 1) by rw [show W - 1 = d by omega]), am_at_n (by omega) (by omega), hth, a2, am_bi_i] at base
      have ew : I1 47 9 + (if g_soon p (g_row I1 47) b + pth p t ≤ pck p then g_ask p 0 (g_row I1 47) b (pth p t) (g_soon p (g_row I1 47) b) else -(pfl p)) = (g_mv p (fun _ => 0) (-1) r b (g_soon p r b) (pth p t)).2 32 := by
        rw [← g_row_32 (I := I1) (q := 47), row1, g_mv_32 _ _ _ _ _ _ _ hb6]
        split
        · rfl
        · exact (Int32.sub_eq_add_neg _ _).symm
      rw [ew] at base
      obtain ⟨I3, a3, s3, k3⟩ := s_guide_keepRow (lev + 1) W ((g_mv p (fun _ => 0) (-1) r b (g_soon p r b) (pth p t)).2 32) (g_pt path d (10 * b + t)) s I2 J hW (fun j hj => by rw [k2 42 j (by decide) (by decide)]; exact path1 j (by omega)) (ks1.keep (fun k _ => k2 40 k (by decide) (by decide)) (fun k _ => k2 43 k (by decide) (by decide)))
      rw [a3, am_bv_v] at base
      have t3 : g_tf (22 * (d + 1)) d I I3 := fun c k q1 q2 q3 q4 q5 => by
        have q2' := q2
        simp only [List.mem_cons, List.not_mem_nil, not_or] at q2'
        rw [k3 c k q2'.2.2.1 q3, k2 c k q2'.1 q2'.2.1, t1 c k q1 q2 q3 q4 q5]
      have row3 : g_row I3 47 = r := by
        rw [← row1]
        exact g_rk_guide_trial (fun c k hc => by rw [k3 c k ((show ∀ c ∈ ([13, 47, 48, 49, 50, 51] : List Nat), c ≠ 43 by decide) c hc) (Or.inl ((show ∀ c ∈ ([13, 47, 48, 49, 50, 51] : List Nat), c ≠ 40 by decide) c hc)), k2 c k ((show ∀ c ∈ ([13, 47, 48, 49, 50, 51] : List Nat), c ≠ 19 by decide) c hc) ((show ∀ c ∈ ([13, 47, 48, 49, 50, 51] : List Nat), c ≠ 20 by decide) c hc)])
      have e3 : g_F p 0 d (g_mv p (fun _ => 0) (-1) r b (g_soon p r b) (pth p t)).2 (g_pt path d (10 * b + t)) s = g_kr s W ((g_mv p (fun _ => 0) (-1) r b (g_soon p r b) (pth p t)).2 32) (g_pt path d (10 * b + t)) := by
        show g_kr s (d + 1) _ _ = _
        rw [show d + 1 = W by omega]
      obtain ⟨I', b1, b2, b3, b4⟩ := ih (t + 1) _ I3 (by omega) ⟨t3.C hC, row3, hat, hr33, fun j hj => by rw [t3.e (by decide)]; exact h52 j hj, by rw [t3 47 6 (Or.inr (Or.inl (by decide))) (by decide) (Or.inl (by decide)) (Or.inl (by decide)) (Or.inl (by decide))]; exact h6, by rw [t3 40 9 (Or.inl (by decide)) (by decide) (Or.inr (by decide)) (Or.inl (by decide)) (Or.inl (by decide))]; exact hw, fun j hj => by rw [t3 42 j (Or.inl (by decide)) (by decide) (Or.inl (by decide)) (Or.inl (by decide)) (Or.inr hj)]; exact hpath j hj, s3⟩ (hsv.keep (fun j _ q => t3 41 j (Or.inl (by decide)) (by decide) (Or.inl (by decide)) (Or.inr (by omega)) (Or.inl (by decide))))
      rw [e3]
      exact ⟨I', base _ b1, b2, b3, t3.tr b4 (Nat.le_refl _) (Nat.le_refl _)⟩
    | succ k =>
      rw [if_neg (show ¬ nI d = nI (W - 1) from fun q => by have := (nI_eq (by omega) (by omega)).mp q; omega), s_guide_trial_soonest (lev + 1) b p I1 J C1 hb6 (by rw [row1]; exact hat), am_bi_i, am_at_n (by omega) (by omega), hth, sn] at base
      have h52' : ∀ j, j < 6 → I1 52 j = 0 := fun j hj => by rw [k1 52 j (Or.inl (by decide))]; exact h52 j hj
      have h6' : I1 47 6 = -1 := (k1 47 6 (Or.inl (by decide))).trans h6
      obtain ⟨I2, a2, r2, k2⟩ := s_guide_trial_makeMove (lev + 1) b p I1 J (g_soon p r b) (pth p t) C1 hb (fun _ => h52' b hb6)
      have m2 : g_row I2 47 = (g_mv p (fun _ => 0) (-1) r b (g_soon p r b) (pth p t)).2 := by
        rw [r2, h6', row1]
        unfold g_mv
        rw [h52' b hb6]
      have t2 : g_tf (22 * (d + 1)) (d + 1) I1 I2 := fun c k q1 q2 q3 q4 q5 => by
        have q2' := q2
        simp only [List.mem_cons, List.not_mem_nil, not_or] at q2'
        exact k2 c k q1 q2'.2.2.2.1 q2'.2.2.2.2.1 q2'.1 q2'.2.1
      rw [a2, am_bi_i] at base
      have hB' := g_mv_bd hC.1 hB (by omega) (fun _ => 0) (-1) hb6 (g_soon p r b) (pth p t)
      obtain ⟨I3, a3, s3, t3⟩ := ih0 lev (d + 1) _ (g_pt path d (10 * b + t)) s I2 (B + 999) (by omega) hlev ⟨t2.C C1, m2, ⟨b, hb6, g_mv_31 p _ _ r b _ _ hb6⟩, g_mv_33 p _ _ r b _ _ hb6 hr33, fun j hj => by rw [t2.e (by decide)]; exact h52' j hj, by rw [t2 47 6 (Or.inr (Or.inl (by decide))) (by decide) (Or.inl (by decide)) (Or.inl (by decide)) (Or.inl (by decide))]; exact h6', by rw [t2 40 9 (Or.inl (by decide)) (by decide) (Or.inr (by decide)) (Or.inl (by decide)) (Or.inl (by decide)), k1 40 9 (Or.inl (by decide))]; exact hw, fun j hj => by rw [t2 42 j (Or.inl (by decide)) (by decide) (Or.inl (by decide)) (Or.inl (by decide)) (Or.inr hj)]; exact path1 j hj, ks1.keep (fun k _ => k2 40 k (Or.inl (by decide)) (by decide) (by decide) (by decide) (by decide)) (fun k _ => k2 43 k (Or.inl (by decide)) (by decide) (by decide) (by decide) (by decide))⟩ hB' (by omega)
      have t13 : g_tf (22 * (d + 1)) d I I3 := (t1.tr t2 (Nat.le_refl _) (by omega)).tr t3 (Nat.le_refl _) (by omega)
      have sv3 : g_sv I3 41 (22 * d) r := hsv.keep (fun j _ q => t13 41 j (Or.inl (by decide)) (by decide) (Or.inl (by decide)) (Or.inr (by omega)) (Or.inl (by decide)))
      have sh3 : g_shp I3 47 r := by
        have q := g_shp_of I 47
        rw [hrow] at q
        exact ⟨fun j hj => by rw [t13.e (by decide)]; exact q.1 j hj, fun j hj => by rw [t13.e (by decide)]; exact q.2.1 j hj, q.2.2⟩
      obtain ⟨I4, a4, r4, k4⟩ := g_back (lev + 1) (22 * d) I3 J r (by omega) sv3 hr33 sh3
      rw [nI_add, a3, am_bv_v, am_i22, pk_mul, Nat.mul_comm d 22, a4, am_bv_v] at base
      have t4 : g_tf (22 * (d + 1)) d I I4 := fun c k q1 q2 q3 q4 q5 => by
        have q2' := q2
        simp only [List.mem_cons, List.not_mem_nil, not_or] at q2'
        rw [k4 c k q1 q2'.2.2.2.1 q2'.2.2.2.2.1 q2'.2.2.2.2.2.1, t13 c k q1 q2 q3 q4 q5]
      obtain ⟨I', b1, b2, b3, b4⟩ := ih (t + 1) _ I4 (by omega) ⟨t4.C hC, r4, hat, hr33, fun j hj => by rw [t4.e (by decide)]; exact h52 j hj, by rw [t4 47 6 (Or.inr (Or.inl (by decide))) (by decide) (Or.inl (by decide)) (Or.inl (by decide)) (Or.inl (by decide))]; exact h6, by rw [t4 40 9 (Or.inl (by decide)) (by decide) (Or.inr (by decide)) (Or.inl (by decide)) (Or.inl (by decide))]; exact hw, fun j hj => by rw [t4 42 j (Or.inl (by decide)) (by decide) (Or.inl (by decide)) (Or.inl (by decide)) (Or.inr hj)]; exact hpath j hj, s3.keep (fun k _ => k4 40 k (Or.inl (by decide)) (by decide) (by decide) (by decide)) (fun k _ => k4 43 k (Or.inl (by decide)) (by decide) (by decide) (by decide))⟩ (hsv.keep (fun j _ q => t4 41 j (Or.inl (by decide)) (by decide) (Or.inl (by decide)) (Or.inr (by omega)) (Or.inl (by decide))))
      exact ⟨I', base _ b1, b2, b3, t4.tr b4 (Nat.le_refl _) (Nat.le_refl _)⟩
theorem s_guide_tryRows86 (p : g_Plan) (J : am_J) (W k d lev : Nat) (r : g_Row) (path : Nat → Nat) (B : Int) (hW : W ≤ 4) (hk : d + (k + 1) = W) (hlev : k + 1 ≤ lev) (ih0 : g_TR p J W k) (hB : g_bd r B) (hB2 : B + 999 * (k + 1 : Nat) ≤ 1000000000) (hr33 : r 33 = 0 ∨ r 33 = 1) (hat : g_at r) : ∀ n b s (I : am_I), b + n = pn p → g_tp p W d r path s I → g_sv I 41 (22 * d) r → ∃ I', f_guide_tryRows_86 lev (nI d) (nI b) I J = some (none, I', J) ∧ g_ks (g_lb (g_F p k d) p r path d n b s) I' ∧ g_tf (22 * (d + 1)) d I I' := by
  intro n
  induction n with
  | zero =>
    intro b s I hb hP hsv
    have hn := hP.1.1.1
    have base := b_guide_tryRows_86 lev (nI d) (nI b) I J
    rw [hP.1.2.1, if_pos (nI_le (by omega) (by omega))] at base
    exact ⟨I, base _ rfl, hP.2.2.2.2.2.2.2.2, fun _ _ _ _ _ _ _ => rfl⟩
  | succ n ih =>
    intro b s I hb hP hsv
    have hn := hP.1.1.1
    have hb6 : b < 6 := by omega
    have base := b_guide_tryRows_86 lev (nI d) (nI b) I J
    rw [hP.1.2.1, if_neg (nI_ge (by omega) (by omega)), s_guide_trial_isOpen lev b I J hb6, am_bi_i, nI_1] at base
    have e := g_row_opn (I := I) (q := 47) hb6
    rw [hP.2.1] at e
    unfold g_lb
    by_cases ho : g_opn I 47 b = true
    · obtain ⟨lev', rfl⟩ : ∃ l, lev = l + 1 := ⟨lev - 1, by omega⟩
      obtain ⟨I1, a1, s1, r1, t1⟩ := s_guide_tryMovesAt2 p J W k d b lev' r path B hW hk (by omega) (by omega) ih0 hB hB2 hr33 hat (ptc p) 0 s I (by omega) hP hsv
      have a0 : f_guide_tryMovesAt_0 (lev' + 1) (nI b) (nI d) I J = some (none, I1, J) := b_guide_tryMovesAt_0 lev' _ _ I J _ a1
      rw [if_neg (fun q => am_tf0.mp q ho), a0, am_bv_v] at base
      obtain ⟨hC, -, -, -, h52, h6, hw, hpath, -⟩ := hP
      obtain ⟨I', b1, b2, b3⟩ := ih (b + 1) _ I1 (by omega) ⟨t1.C hC, r1, hat, hr33, fun j hj => by rw [t1.e (by decide)]; exact h52 j hj, by rw [t1 47 6 (Or.inr (Or.inl (by decide))) (by decide) (Or.inl (by decide)) (Or.inl (by decide)) (Or.inl (by decide))]; exact h6, by rw [t1 40 9 (Or.inl (by decide)) (by decide) (Or.inr (by decide)) (Or.inl (by decide)) (Or.inl (by decide))]; exact hw, fun j hj => by rw [t1 42 j (Or.inl (by decide)) (by decide) (Or.inl (by decide)) (Or.inl (by decide)) (Or.inr hj)]; exact hpath j hj, s1⟩ (hsv.keep (fun j _ q => t1 41 j (Or.inl (by decide)) (by decide) (Or.inl (by decide)) (Or.inr (by omega)) (Or.inl (by decide))))
      rw [if_pos (e.trans ho)]
      exact ⟨I', base _ b1, b2, t1.tr b3 (Nat.le_refl _) (Nat.le_refl _)⟩
    · rw [if_pos (am_tf0.mpr ho)] at base
      obtain ⟨I', b1, b2, b3⟩ := ih (b + 1) s I (by omega) hP hsv
      rw [if_neg (fun q => ho (e.symm.trans q))]
      exact ⟨I', base _ b1, b2, b3⟩
theorem s_guide_tryRows (p : g_Plan) (J : am_J) (W : Nat) (hW : W ≤ 4) : ∀ k, k ≤ W → g_TR p J W k := by
  intro k
  induction k with
  | zero =>
    intro _ lev d r path s I B hd _ hP hB hB2
    have base := b_guide_tryRows_0 lev (nI d) I J
    obtain ⟨hC, hrow, hat, hr33, h52, h6, hw, hpath, hs⟩ := hP
    obtain ⟨I', a1, s1, k1⟩ := s_guide_keepRow lev d (I 47 9) path s I J (by omega) hpath hs
    rw [hw, if_pos (nI_le (by omega) (by omega)), a1, am_bv_v] at base
    have e : I 47 9 = r 32 := by rw [← hrow, g_row_32]
    rw [e] at s1
    exact ⟨I', base _ rfl, s1, fun c k q1 q2 q3 q4 q5 => k1 c k (by simp only [List.mem_cons, List.not_mem_nil, not_or] at q2; exact q2.2.2.1) q3⟩
  | succ k ih =>
    intro hkW lev d r path s I B hd hlev hP hB hB2
    have base := b_guide_tryRows_0 lev (nI d) I J
    have hP' := hP
    obtain ⟨hC, hrow, hat, hr33, h52, h6, hw, hpath, hs⟩ := hP
    have e9 : I 47 9 = r 32 := by rw [← hrow, g_row_32]
    have e10 : I 47 10 = r 33 := by rw [← hrow, g_row_33]
    rw [hw, if_neg (nI_ge (by omega) (by omega)), if_neg (show ¬ (4 : Int32) ≤ nI d from nI_ge (b := 4) (by omega) (by omega)), s_guide_trial_isOver lev p I J hC (by rw [e10]; exact hr33), am_bi_i, hrow, hw, e9] at base
    unfold g_tr
    by_cases ho : g_over p r = true
    · obtain ⟨I', a1, s1, k1⟩ := s_guide_keepRow lev d (r 32) path s I J (by omega) hpath hs
      rw [if_neg (fun q => am_tf0.mp q ho), a1, am_bv_v] at base
      rw [if_pos ho]
      exact ⟨I', base _ rfl, s1, fun c k q1 q2 q3 q4 q5 => k1 c k (by simp only [List.mem_cons, List.not_mem_nil, not_or] at q2; exact q2.2.2.1) q3⟩
    · rw [if_pos (am_tf0.mpr ho)] at base
      -- what follows where rows are tried
      have go : ∃ I', am_bv (f_guide_trial_writeTo_0 lev (nI d * 22) I J) (fun I8 J9 => f_guide_tryRows_86 lev (nI d) 0 I8 J9) = some (none, I', J) ∧ g_ks (g_lb (g_F p k d) p r path d (pn p) 0 s) I' ∧ g_tf (22 * d) d I I' := by
        obtain ⟨I1, a1, q1, k1⟩ := s_guide_trial_writeTo lev (22 * d) I J (by omega)
        have sv1 : g_sv I1 41 (22 * d) r := by
          have z := g_sv_of q1 (by rw [e10]; exact hr33)
          rw [hrow] at z
          exact z
        have t1 : g_tf (22 * d) d I I1 := fun c k z1 z2 z3 z4 z5 => k1 c k (z4.imp id (fun q => Or.inl q))
        have row1 : g_row I1 47 = r := by
          rw [← hrow]
          exact g_rk_guide_trial (fun c k hc => k1 c k (Or.inl ((show ∀ c ∈ ([13, 47, 48, 49, 50, 51] : List Nat), c ≠ 41 by decide) c hc)))
        obtain ⟨I', b1, b2, b3⟩ := s_guide_tryRows86 p J W k d lev r path B hW hd hlev (ih (by omega)) hB hB2 hr33 hat (pn p) 0 s I1 (by omega) ⟨t1.C hC, row1, hat, hr33, fun j hj => by rw [t1.e (by decide)]; exact h52 j hj, by rw [k1 47 6 (Or.inl (by decide))]; exact h6, by rw [k1 40 9 (Or.inl (by decide))]; exact hw, fun j hj => by rw [k1 42 j (Or.inl (by decide))]; exact hpath j hj, hs.keep (fun k _ => k1 40 k (Or.inl (by decide))) (fun k _ => k1 43 k (Or.inl (by decide)))⟩ sv1
        refine ⟨I', ?_, b2, t1.tr b3 (by omega) (Nat.le_refl _)⟩
        rw [am_i22, pk_mul, Nat.mul_comm d 22, a1, am_bv_v]
        exact b1
      rw [if_neg ho]
      obtain ⟨I', g1, g2, g3⟩ := go
      by_cases h0 : s.1 = 0
      · rw [if_pos (hs.1.trans h0)] at base
        exact ⟨I', base _ g1, g2, g3⟩
      · have hs1 := hs.2.resolve_left h0
        rw [if_neg (by rw [hs.1]; exact h0), hs1.2.1] at base
        by_cases hp : s.2.1 < r 32 + 999 * (nI W - nI d)
        · rw [if_pos hp] at base
          exact ⟨I', base _ g1, g2, g3⟩
        · rw [if_neg hp] at base
          refine ⟨I, base _ rfl, ?_, fun _ _ _ _ _ _ _ => rfl⟩
          have e : g_lb (g_F p k d) p r path d (pn p) 0 s = g_tr p (k + 1) d r path s := by
            conv => rhs; unfold g_tr
            rw [if_neg ho]
            rfl
          have ev : (r 32 + 999 * (nI W - nI d)).toInt = (r 32).toInt + 999 * ((k + 1 : Nat) : Int) := by
            have b1 := hB.1
            have b2 := hB.2
            rw [pk_sub (by omega), show (999 : Int32) = nI 999 from rfl, pk_mul, show W - d = k + 1 by omega, g_add32 (by rw [nI_toInt (by omega)]; omega) (by rw [nI_toInt (by omega)]; omega), nI_toInt (by omega)]
            omega
          show g_ks (g_lb (g_F p k d) p r path d (pn p) 0 s) I
          rw [e, g_tr_pr hC.1 (k + 1) d r path s B h0 hB hB2 (by
            have := Int32.le_iff_toInt_le.mp (Int32.not_lt.mp hp)
            rw [ev] at this
            exact this)]
          exact hs
theorem g_kr_1 {s : g_S} {len : Nat} {w : Int32} {path : Nat → Nat} (h : s.1 = 0 ∨ s.1 = 1) : (g_kr s len w path).1 = 1 := by
  unfold g_kr
  rcases h with h | h
  · rw [if_pos h]
  · rw [if_neg (by rw [h]; decide)]
    split
    · exact h
    · rfl
theorem g_lt_1 {F : g_Row → (Nat → Nat) → g_S → g_S} {p : g_Plan} {r : g_Row} {path : Nat → Nat} {d b : Nat} (hF : ∀ r' path' s', (s'.1 = 0 ∨ s'.1 = 1) → (F r' path' s').1 = 1) : ∀ n t s, (s.1 = 0 ∨ s.1 = 1) → (0 < n ∨ s.1 = 1) → (g_lt F p r path d b n t s).1 = 1 := by
  intro n
  induction n with
  | zero => intro t s _ h; exact h.resolve_left (by omega)
  | succ n ih => intro t s h _; exact ih _ _ (Or.inr (hF _ _ _ h)) (Or.inr (hF _ _ _ h))
theorem g_lb_1 {F : g_Row → (Nat → Nat) → g_S → g_S} {p : g_Plan} {r : g_Row} {path : Nat → Nat} {d : Nat} (ht : 1 ≤ ptc p) (hF : ∀ r' path' s', (s'.1 = 0 ∨ s'.1 = 1) → (F r' path' s').1 = 1) : ∀ n b s, (s.1 = 0 ∨ s.1 = 1) → ((∃ j, b ≤ j ∧ j < b + n ∧ g_open r j = true) ∨ s.1 = 1) → (g_lb F p r path d n b s).1 = 1 := by
  intro n
  induction n with
  | zero => intro b s _ h; exact h.resolve_left (fun ⟨j, h1, h2, _⟩ => by omega)
  | succ n ih =>
    intro b s h h2
    unfold g_lb
    by_cases ho : g_open r b = true
    · have e : (g_lt F p r path d b (ptc p) 0 s).1 = 1 := g_lt_1 hF (ptc p) 0 s h (Or.inl (by omega))
      rw [if_pos ho]
      exact ih _ _ (Or.inr e) (Or.inr e)
    · rw [if_neg ho]
      refine ih _ _ h (h2.imp (fun ⟨j, q1, q2, q3⟩ => ⟨j, ?_, by omega, q3⟩) id)
      by_cases e : j = b
      · subst e; exact absurd q3 ho
      · omega
theorem g_tr_1 {p : g_Plan} (ht : 1 ≤ ptc p) : ∀ k d r path s, (s.1 = 0 ∨ s.1 = 1) → (g_tr p k d r path s).1 = 1 := by
  intro k
  induction k with
  | zero => intro d r path s h; exact g_kr_1 h
  | succ k ih =>
    intro d r path s h
    unfold g_tr
    by_cases ho : g_over p r = true
    · rw [if_pos ho]; exact g_kr_1 h
    · rw [if_neg ho]
      refine g_lb_1 ht (fun r' path' s' h' => ih _ _ _ _ h') (pn p) 0 s h (Or.inl ?_)
      obtain ⟨j, h1, h2, -⟩ := g_choose_o 0 0 ho
      exact ⟨j, by omega, by omega, h2⟩
/-- the best row as the class keeps it -/
def g_kq (s : g_S) (I : am_I) : Prop := I 40 7 = s.2.1 ∧ I 40 6 = nI s.2.2.1 ∧ s.2.2.1 ≤ 4 ∧ ∀ k, k < s.2.2.1 → I 43 k = nI (s.2.2.2 k)
theorem g_ks.q {s : g_S} {I : am_I} (h : g_ks s I) (h1 : s.1 = 1) : g_kq s I := by
  rcases h.2 with q | q
  · rw [h1] at q; exact absurd q (by decide)
  · exact q.2
/-- what the class keeps of its best row is right -/
def g_BC (p : g_Plan) (r : g_Row) (I : am_I) : Prop := I 40 8 = -1 ∨ ∃ W, 1 ≤ W ∧ W ≤ 4 ∧ I 40 8 = nI W ∧ g_kq (g_tr p W 0 r (fun _ => 0) (0, 0, 0, fun _ => 0)) I
theorem s_guide_findRow (d W : Nat) (p : g_Plan) (I : am_I) (J : am_J) (hW : 1 ≤ W ∧ W ≤ 4) (hd : W ≤ d) (hC : g_C p I) (hN : g_NP I) (hB : g_bd (g_row I 34) 1000000) (hb : g_BC p (g_row I 34) I) : ∃ I', f_guide_findRow_0 d (nI W) I J = some (none, I', J) ∧ g_kq (g_tr p W 0 (g_row I 34) (fun _ => 0) (0, 0, 0, fun _ => 0)) I' ∧ g_BC p (g_row I 34) I' ∧ ∀ c k, c ∉ ([19, 20, 41, 42, 43, 47, 48, 49, 50, 51, 52] : List Nat) → (c ≠ 40 ∨ (k ≠ 6 ∧ k ≠ 7 ∧ k ≠ 8 ∧ k ≠ 9 ∧ k ≠ 17)) → I' c k = I c k := by
  have base := b_guide_findRow_0 d (nI W) I J
  by_cases he : I 40 8 = nI W
  · rw [if_pos he] at base
    rcases hb with h | ⟨W', h1, h2, h3, h4⟩
    · rw [he] at h
      exact absurd h (fun q => nI_pos (n := W) (by omega) (by rw [q]; decide))
    · obtain rfl : W = W' := (nI_eq (by omega) (by omega)).mp (he.symm.trans h3)
      exact ⟨I, base _ rfl, h4, Or.inr ⟨W, h1, h2, h3, h4⟩, fun _ _ _ _ => rfl⟩
  · rw [if_neg he] at base
    obtain ⟨I1, a1, r1, C1, N1, r34, f1, l1, h1, k1⟩ := s_guide_fresh d p I J hC hN
    obtain ⟨I2, e2⟩ : ∃ I2, I2 = am_upd (am_upd I1 40 9 (nI W)) 40 17 0 := ⟨_, rfl⟩
    have k2 : ∀ c k, (c ≠ 40 ∨ (k ≠ 9 ∧ k ≠ 17)) → I2 c k = I1 c k := fun c k h => by
      rw [e2]
      rcases h with h | h
      · rw [am_uc h, am_uc h]
      · rw [am_uk h.2, am_uk h.1]
    have row2 : g_row I2 47 = g_row I 34 := by
      rw [← r1]
      exact g_rk_guide_trial (fun c k hc => k2 c k (Or.inl ((show ∀ c ∈ ([13, 47, 48, 49, 50, 51] : List Nat), c ≠ 40 by decide) c hc)))
    obtain ⟨I3, a3, s3, t3⟩ := s_guide_tryRows p J W hW.2 W (Nat.le_refl _) d 0 (g_row I 34) (fun _ => 0) (0, 0, 0, fun _ => 0) I2 1000000 (by omega) hd ⟨C1.keep (fun c k hc => k2 c k (Or.inl ((show ∀ c ∈ ([1, 2, 3, 12, 13, 14, 15, 16, 17, 18, 21] : List Nat), c ≠ 40 by decide) c hc))), row2, hN.1, by rw [g_row_33]; exact hN.2.1, fun b hb => by rw [k2 52 b (Or.inl (by decide))]; exact l1 b hb, by rw [k2 47 6 (Or.inl (by decide))]; exact h1, by rw [e2, am_uk (by decide), am_ue], fun j hj => by omega, ⟨by rw [e2, am_ue], Or.inl rfl⟩⟩ hB (by omega)
    rw [a1, am_bv_v, am_b01_0, ← e2] at base
    have a3 : f_guide_tryRows_0 d 0 I2 J = some (none, I3, J) := a3
    rw [a3, am_bv_v] at base
    have s4 : g_kq (g_tr p W 0 (g_row I 34) (fun _ => 0) (0, 0, 0, fun _ => 0)) (am_upd I3 40 8 (nI W)) := g_ks.q (s3.keep (fun k h => am_uk (by omega)) (fun k _ => am_uc (by decide))) (g_tr_1 hC.1.2.2.2.2.2.2.2.2.2.2.1.1 W 0 _ _ _ (Or.inl rfl))
    refine ⟨_, base _ rfl, s4, Or.inr ⟨W, hW.1, hW.2, am_ue, s4⟩, fun c k h1 h2 => ?_⟩
    have h1' := h1
    simp only [List.mem_cons, List.not_mem_nil, not_or] at h1'
    have z : am_upd I3 40 8 (nI W) c k = I3 c k := by
      rcases h2 with h | h
      · exact am_uc h
      · exact am_uk h.2.2.1
    rw [z, t3 c k (Or.inl h1'.2.2.2.2.2.1) (by simp only [List.mem_cons, List.not_mem_nil, not_or]; exact ⟨h1'.1, h1'.2.1, h1'.2.2.2.2.1, h1'.2.2.2.2.2.2.1, h1'.2.2.2.2.2.2.2.1, h1'.2.2.2.2.2.2.2.2.1, not_false⟩) (h2.imp id (fun q => ⟨q.1, q.2.1, q.2.2.2.2⟩)) (Or.inl h1'.2.2.1) (Or.inl h1'.2.2.2.1), k2 c k (h2.imp id (fun q => ⟨q.2.2.2.1, q.2.2.2.2⟩)), k1 c k (fun q => h1 ((show ∀ c ∈ ([19, 20, 47, 48, 49, 50, 51, 52] : List Nat), c ∈ ([19, 20, 41, 42, 43, 47, 48, 49, 50, 51, 52] : List Nat) by decide) c q))]

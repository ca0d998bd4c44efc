/-! how many rows fit what was told: the class -/
def g_can (p : g_Plan) (r : g_Row) (b : Nat) (beg e : Int32) : Prop := ¬ beg < g_soon p r b ∧ ¬ pck p < e ∧ ¬ (g_soon p r b < beg ∧ pck p ≤ beg)
noncomputable def g_cn (p : g_Plan) (r : g_Row) (b : Nat) (beg e : Int32) : Bool := @decide (g_can p r b beg e) (Classical.propDecidable _)
theorem g_cn_t {p : g_Plan} {r : g_Row} {b : Nat} {beg e : Int32} : g_cn p r b beg e = true ↔ g_can p r b beg e := by
  unfold g_cn
  exact @decide_eq_true_iff _ (Classical.propDecidable _)
/-- a sum over the thinks -/
def g_sum (f : Nat → Nat) : Nat → Nat → Nat
  | 0, _ => 0
  | n + 1, t => f t + g_sum f n (t + 1)
theorem g_sum_c {f g : Nat → Nat} : ∀ n t, (∀ j, t ≤ j → j < t + n → f j = g j) → g_sum f n t = g_sum g n t := by
  intro n
  induction n with
  | zero => intro t _; rfl
  | succ n ih =>
    intro t h
    unfold g_sum
    rw [h t (by omega) (by omega), ih (t + 1) (fun j h1 h2 => h j (by omega) (by omega))]
theorem g_sum_le {f : Nat → Nat} {M : Nat} : ∀ n t, (∀ j, f j ≤ M) → g_sum f n t ≤ n * M := by
  intro n
  induction n with
  | zero => intro t _; exact Nat.zero_le _
  | succ n ih =>
    intro t h
    unfold g_sum
    have := ih (t + 1) h
    have := h t
    rw [Nat.succ_mul]
    omega
noncomputable def g_rf (p : g_Plan) (tb : Nat → Nat) (tm : Nat → Int32) : Nat → Nat → g_Row → Nat
  | 0, _, _ => 1
  | k + 1, i, r => if g_over p r = true ∨ ¬ g_open r (tb i) = true then 0 else g_sum (fun t => if g_cn p r (tb i) (tm i - pth p t) (tm i) = true then g_rf p tb tm k (i + 1) (g_mv p (fun _ => 0) (-1) r (tb i) (tm i - pth p t) (pth p t)).2 else 0) (ptc p) 0
theorem g_rf_le {p : g_Plan} (h : ptc p ≤ 4) (tb : Nat → Nat) (tm : Nat → Int32) : ∀ k i r, g_rf p tb tm k i r ≤ 4 ^ k := by
  intro k
  induction k with
  | zero => intro i r; exact Nat.le_refl 1
  | succ k ih =>
    intro i r
    unfold g_rf
    split
    · exact Nat.zero_le _
    · have q := g_sum_le (f := fun t => if g_cn p r (tb i) (tm i - pth p t) (tm i) = true then g_rf p tb tm k (i + 1) (g_mv p (fun _ => 0) (-1) r (tb i) (tm i - pth p t) (pth p t)).2 else 0) (M := 4 ^ k) (ptc p) 0 (fun j => by
        show (if _ then _ else 0) ≤ _
        split
        · exact ih _ _
        · exact Nat.zero_le _)
      refine Nat.le_trans q ?_
      rw [Nat.pow_succ, Nat.mul_comm (4 ^ k) 4]
      exact Nat.mul_le_mul_right _ h
theorem g_can_c {p : g_Plan} {r r' : g_Row} (h : g_hi r r') (hat : g_at r) {b : Nat} (hb : b < 6) (hs : g_same r r' b) (x y : Int32) : g_cn p r b x y = g_cn p r' b x y := by
  rw [Bool.eq_iff_iff, g_cn_t, g_cn_t]
  unfold g_can
  rw [g_soon_c h hat hb hs]
theorem g_rf_R {p : g_Plan} (hn : pn p ≤ 6) (tb : Nat → Nat) (tm : Nat → Int32) : ∀ k i r r', (∀ j, j < i + k → tb j < pn p) → g_at r → g_R p r r' → g_rf p tb tm k i r = g_rf p tb tm k i r' := by
  intro k
  induction k with
  | zero => intro i r r' _ _ _; rfl
  | succ k ih =>
    intro i r r' ht hat h
    have hb := ht i (by omega)
    have hs := h.same hn hb
    unfold g_rf
    rw [← (h.E hn).over, ← g_open_c hs]
    split
    · rfl
    · refine g_sum_c _ _ (fun t _ _ => ?_)
      show (if _ then _ else 0) = (if _ then _ else 0)
      rw [← g_can_c h.hi hat (by omega) hs]
      split
      · exact ih (i + 1) _ _ (fun j hj => ht j (by omega)) ⟨tb i, by omega, g_mv_31 p _ _ r (tb i) _ _ (by omega)⟩ (g_mv_R hn h _ _ hb _ _).2
      · rfl
theorem s_witness_canThink (d b : Nat) (p : g_Plan) (I : am_I) (J : am_J) (beg e : Int32) (hC : g_C p I) (hb : b < 6) (hat : g_at (g_row I 57)) : f_witness_canThink_0 d (nI b) beg e I J = some (some (.int (am_tf (g_cn p (g_row I 57) b beg e = true))), I, J) := by
  have base := b_witness_canThink_0 d (nI b) beg e I J
  rw [s_witness_trial_soonest d b p I J hC hb hat, am_bi_i, hC.2.2.2.1] at base
  simp only [am_b01_0, am_b01_1, if_true] at base
  refine base _ ?_
  have w : (g_cn p (g_row I 57) b beg e = true) ↔ _ := g_cn_t
  unfold g_can at w
  by_cases h1 : beg < g_soon p (g_row I 57) b
  · rw [am_tf_f (fun q => (w.mp q).1 h1)]
    by_cases h2 : beg ≤ g_soon p (g_row I 57) b
    · rw [if_pos h2, if_pos h1]
    · rw [if_neg h2]
      by_cases h3 : beg < pck p
      · rw [if_pos h3, if_pos h1]
      · rw [if_neg h3, if_pos h1]
  · by_cases h4 : pck p < e
    · rw [am_tf_f (fun q => (w.mp q).2.1 h4)]
      by_cases h2 : beg ≤ g_soon p (g_row I 57) b
      · rw [if_pos h2, if_neg h1, if_pos h4]
      · rw [if_neg h2]
        by_cases h3 : beg < pck p
        · rw [if_pos h3, if_neg h1, if_pos h4]
        · rw [if_neg h3, if_neg h1, if_pos h4]
    · by_cases h2 : beg ≤ g_soon p (g_row I 57) b
      · rw [if_pos h2, if_neg h1, if_neg h4, am_tf_t (w.mpr ⟨h1, h4, fun q => Int32.not_le.mpr q.1 h2⟩)]
      · rw [if_neg h2]
        by_cases h3 : beg < pck p
        · rw [if_pos h3, if_neg h1, if_neg h4, am_tf_t (w.mpr ⟨h1, h4, fun q => Int32.not_le.mpr h3 q.2⟩)]
        · rw [if_neg h3, if_neg h1, if_neg h4, if_neg (show ¬ (1 : Int32) = 0 by decide), am_tf_f (fun q => (w.mp q).2.2 ⟨Int32.not_le.mp h2, Int32.not_lt.mp h3⟩)]
theorem g_backW (d a : Nat) (I : am_I) (J : am_J) (r : g_Row) (ha : a + 22 ≤ 88) (hs : g_sv I 56 a r) (h33 : r 33 = 0 ∨ r 33 = 1) (sh : g_shp I 57 r) : ∃ I', f_witness_trial_readFrom_0 d (nI a) I J = some (none, I', J) ∧ g_row I' 57 = r ∧ ∀ c k, (c ≠ 57 ∨ k < 7 ∨ 10 < k) → c ≠ 58 → c ≠ 59 → c ≠ 60 → I' c k = I c k := by
  obtain ⟨I', a1, ⟨q7, q8, q9, q10, qb⟩, k1⟩ := s_witness_trial_readFrom d a I J ha
  refine ⟨I', a1, g_row_is ⟨fun b hb => ?_, fun b hb => ?_, sh.2.2⟩ (fun b hb => ?_) (q7.trans hs.1) (q8.trans hs.2.1) (q9.trans hs.2.2.1) ?_, k1⟩
  · rw [k1 61 b (Or.inl (by decide)) (by decide) (by decide) (by decide)]; exact sh.1 b hb
  · rw [k1 13 b (Or.inl (by decide)) (by decide) (by decide) (by decide)]; exact sh.2.1 b hb
  · have q := qb b hb
    have z := hs.2.2.2.2 b hb
    exact ⟨q.1.trans z.1, q.2.1.trans z.2.1, q.2.2.trans z.2.2⟩
  · rw [q10, hs.2.2.2.1]
    rcases h33 with e | e
    · rw [e, if_neg (by decide)]
    · rw [e, if_pos rfl]
def g_wf (a : Nat) (I I' : am_I) : Prop := ∀ c k, (c ≠ 57 ∨ k < 7 ∨ 10 < k) → c ∉ ([19, 20, 58, 59, 60] : List Nat) → (c ≠ 56 ∨ k < a) → I' c k = I c k
theorem g_wf.tr {a a' : Nat} {I I' I'' : am_I} (h : g_wf a I I') (h' : g_wf a' I' I'') (ha : a ≤ a') : g_wf a I I'' := fun c k h1 h2 h3 => (h' c k h1 h2 (h3.imp id (fun q => by omega))).trans (h c k h1 h2 h3)
theorem g_wf.e {a : Nat} {I I' : am_I} (h : g_wf a I I') {c k : Nat} (hc : c ∉ ([19, 20, 56, 57, 58, 59, 60] : List Nat)) : I' c k = I c k := by
  simp only [List.mem_cons, List.not_mem_nil, not_or] at hc
  refine h c k (Or.inl hc.2.2.2.1) ?_ (Or.inl hc.2.2.1)
  simp only [List.mem_cons, List.not_mem_nil, not_or]
  exact ⟨hc.1, hc.2.1, hc.2.2.2.2.1, hc.2.2.2.2.2.1, hc.2.2.2.2.2.2.1, not_false⟩
theorem g_wf.C {p : g_Plan} {a : Nat} {I I' : am_I} (h : g_wf a I I') (hC : g_C p I) : g_C p I' := hC.keep (fun c k hc => h.e ((show ∀ c ∈ ([1, 2, 3, 12, 13, 14, 15, 16, 17, 18, 21] : List Nat), c ∉ ([19, 20, 56, 57, 58, 59, 60] : List Nat) by decide) c hc))
/-- all is ready to count rows -/
def g_wp (p : g_Plan) (tb : Nat → Nat) (tm : Nat → Int32) (K : Nat) (r : g_Row) (I : am_I) : Prop := g_C p I ∧ g_row I 57 = r ∧ g_at r ∧ (r 33 = 0 ∨ r 33 = 1) ∧ (∀ b, b < 6 → I 62 b = 0) ∧ I 57 6 = -1 ∧ ∀ j, j < K → I 54 j = nI (tb j) ∧ tb j < pn p ∧ I 55 j = tm j
theorem g_wp.W {p : g_Plan} {tb : Nat → Nat} {tm : Nat → Int32} {K a : Nat} {r r' : g_Row} {I I' : am_I} (h : g_wp p tb tm K r I) (w : g_wf a I I') (hr : g_row I' 57 = r') (hat : g_at r') (h33 : r' 33 = 0 ∨ r' 33 = 1) : g_wp p tb tm K r' I' := ⟨w.C h.1, hr, hat, h33, fun b hb => by rw [w.e (by decide)]; exact h.2.2.2.2.1 b hb, by rw [w 57 6 (Or.inr (Or.inl (by decide))) (by decide) (Or.inl (by decide))]; exact h.2.2.2.2.2.1, fun j hj => by rw [w.e (c := 54) (by decide), w.e (c := 55) (by decide)]; exact h.2.2.2.2.2.2 j hj⟩
def g_WR (p : g_Plan) (J : am_J) (tb : Nat → Nat) (tm : Nat → Int32) (K k : Nat) : Prop := ∀ (lev i : Nat) (r : g_Row) (I : am_I), i + k = K → k ≤ lev → g_wp p tb tm K r I → ∃ I', f_witness_rowsFrom_0 (lev + 1) (nI i) (nI K) I J = some (some (.int (nI (g_rf p tb tm k i r))), I', J) ∧ g_wf (22 * i) I I'
theorem s_witness_rowsFrom63 (p : g_Plan) (J : am_J) (tb : Nat → Nat) (tm : Nat → Int32) (K k i lev : Nat) (r : g_Row) (hK : K ≤ 4) (hi : i + (k + 1) = K) (hlev : k ≤ lev) (ih0 : g_WR p J tb tm K k) (hat : g_at r) (h33 : r 33 = 0 ∨ r 33 = 1) : ∀ n t acc (I : am_I), t + n = ptc p → g_wp p tb tm K r I → g_sv I 56 (22 * i) r → ∃ I', f_witness_rowsFrom_63 (lev + 1 + 1) (nI i) (nI K) (nI (tb i)) (nI acc) (nI t) I J = some (some (.int (nI (acc + g_sum (fun t => if g_cn p r (tb i) (tm i - pth p t) (tm i) = true then g_rf p tb tm k (i + 1) (g_mv p (fun _ => 0) (-1) r (tb i) (tm i - pth p t) (pth p t)).2 else 0) n t))), I', J) ∧ g_wf (22 * i) I I' := by
  intro n
  induction n with
  | zero =>
    intro t acc I ht hP hsv
    have htc := hP.1.1.2.2.2.2.2.2.2.2.2.2.1
    have base := b_witness_rowsFrom_63 (lev + 1) (nI i) (nI K) (nI (tb i)) (nI acc) (nI t) I J
    rw [hP.1.2.2.2.2.2.2.2.1, if_pos (nI_le (by omega) (by omega))] at base
    exact ⟨I, base _ rfl, fun _ _ _ _ _ => rfl⟩
  | succ n ih =>
    intro t acc I ht hP hsv
    have htc := hP.1.1.2.2.2.2.2.2.2.2.2.2.1
    have hn := hP.1.1.1
    obtain ⟨e54, hb, e55⟩ := hP.2.2.2.2.2.2 i (by omega)
    have hb6 : tb i < 6 := by omega
    have hth : I 15 t = pth p t := hP.1.2.2.2.2.2.2.2.2.1 t (by omega)
    have base := b_witness_rowsFrom_63 (lev + 1) (nI i) (nI K) (nI (tb i)) (nI acc) (nI t) I J
    have hcan := s_witness_canThink (lev + 1 + 1) (tb i) p I J (tm i - pth p t) (tm i) hP.1 hb6 (by rw [hP.2.1]; exact hat)
    rw [hP.2.1] at hcan
    rw [hP.1.2.2.2.2.2.2.2.1, if_neg (nI_ge (by omega) (by omega)), am_at_n (by omega) (by omega), am_at_n (by omega) (by omega), am_at_n (by omega) (by omega), e55, hth, hcan, am_bi_i, am_at_n (by omega) (by omega), hth, nI_1] at base
    unfold g_sum
    by_cases hc : g_cn p r (tb i) (tm i - pth p t) (tm i) = true
    · rw [if_neg (fun q => am_tf0.mp q hc)] at base
      rw [if_pos hc]
      have h62 := hP.2.2.2.2.1
      have h6 := hP.2.2.2.2.2.1
      obtain ⟨I2, a2, r2, k2⟩ := s_witness_trial_makeMove (lev + 1 + 1) (tb i) p I J (tm i - pth p t) (pth p t) hP.1 hb (fun _ => h62 _ hb6)
      have m2 : g_row I2 57 = (g_mv p (fun _ => 0) (-1) r (tb i) (tm i - pth p t) (pth p t)).2 := by
        rw [r2, h6, hP.2.1]
        unfold g_mv
        rw [h62 _ hb6]
      have w2 : g_wf (22 * (i + 1)) I I2 := fun c k q1 q2 q3 => by
        simp only [List.mem_cons, List.not_mem_nil, not_or] at q2
        exact k2 c k q1 q2.2.2.1 q2.2.2.2.1 q2.1 q2.2.1
      have at2 : g_at (g_mv p (fun _ => 0) (-1) r (tb i) (tm i - pth p t) (pth p t)).2 := ⟨tb i, hb6, g_mv_31 p _ _ r _ _ _ hb6⟩
      have f2 := g_mv_33 p (fun _ => 0) (-1) r (tb i) (tm i - pth p t) (pth p t) hb6 h33
      obtain ⟨I3, a3, w3⟩ := ih0 lev (i + 1) _ I2 (by omega) hlev (hP.W w2 m2 at2 f2)
      have w13 : g_wf (22 * (i + 1)) I I3 := w2.tr w3 (Nat.le_refl _)
      have sv3 : g_sv I3 56 (22 * i) r := hsv.keep (fun j _ q => w13 56 j (Or.inl (by decide)) (by decide) (Or.inr (by omega)))
      have sh3 : g_shp I3 57 r := by
        have q := g_shp_of I 57
        rw [hP.2.1] at q
        exact ⟨fun j hj => by rw [w13.e (by decide)]; exact q.1 j hj, fun j hj => by rw [w13.e (by decide)]; exact q.2.1 j hj, q.2.2⟩
      obtain ⟨I4, a4, r4, k4⟩ := g_backW (lev + 1 + 1) (22 * i) I3 J r (by omega) sv3 h33 sh3
      rw [a2, am_bi_i, nI_1, a3, am_bi_i, am_i22, pk_mul, Nat.mul_comm i 22, a4, am_bv_v, nI_add] at base
      have w4 : g_wf (22 * (i + 1)) I I4 := fun c k q1 q2 q3 => by
        have q2' := q2
        simp only [List.mem_cons, List.not_mem_nil, not_or] at q2'
        rw [k4 c k q1 q2'.2.2.1 q2'.2.2.2.1 q2'.2.2.2.2.1, w13 c k q1 q2 q3]
      obtain ⟨I', b1, b2⟩ := ih (t + 1) (acc + g_rf p tb tm k (i + 1) (g_mv p (fun _ => 0) (-1) r (tb i) (tm i - pth p t) (pth p t)).2) I4 (by omega) (hP.W w4 r4 hat h33) (hsv.keep (fun j _ q => w4 56 j (Or.inl (by decide)) (by decide) (Or.inr (by omega))))
      rw [← Nat.add_assoc]
      exact ⟨I', base _ b1, fun c k q1 q2 q3 => (b2 c k q1 q2 q3).trans (w4 c k q1 q2 (q3.imp id (fun q => by omega)))⟩
    · rw [if_pos (am_tf0.mpr hc)] at base
      rw [if_neg hc, Nat.zero_add]
      obtain ⟨I', b1, b2⟩ := ih (t + 1) acc I (by omega) hP hsv
      exact ⟨I', base _ b1, b2⟩
theorem s_witness_rowsFrom (p : g_Plan) (J : am_J) (tb : Nat → Nat) (tm : Nat → Int32) (K : Nat) (hK : K ≤ 4) : ∀ k, k ≤ K → g_WR p J tb tm K k := by
  intro k
  induction k with
  | zero =>
    intro _ lev i r I hi _ hP
    have base := b_witness_rowsFrom_0 lev (nI i) (nI K) I J
    rw [if_pos (nI_le (by omega) (by omega))] at base
    exact ⟨I, base _ rfl, fun _ _ _ _ _ => rfl⟩
  | succ k ih =>
    intro hk lev i r I hi hlev hP
    obtain ⟨hC, hrow, hat, h33, h62, h6, htold⟩ := hP
    obtain ⟨lev', rfl⟩ : ∃ l, lev = l + 1 := ⟨lev - 1, by omega⟩
    have hn := hC.1.1
    obtain ⟨e54, hb, e55⟩ := htold i (by omega)
    have hb6 : tb i < 6 := by omega
    have base := b_witness_rowsFrom_0 (lev' + 1) (nI i) (nI K) I J
    have e10 : I 57 10 = r 33 := by rw [← hrow, g_row_33]
    have eo : g_open r (tb i) = g_opn I 57 (tb i) := by rw [← hrow, g_row_opn hb6]
    rw [if_neg (nI_ge (by omega) (by omega)), if_pos (show nI i < (4 : Int32) from nI_lt (b := 4) (by omega) (by omega)), am_at_n (by omega) (by omega), s_witness_trial_isOver (lev' + 1 + 1) p I J hC (by rw [e10]; exact h33), am_bi_i, hrow, e54, s_witness_trial_isOpen (lev' + 1 + 1) (tb i) I J hb6, am_bi_i, ← eo] at base
    unfold g_rf
    by_cases ho : g_over p r = true
    · rw [if_neg (fun q => am_tf0.mp q ho)] at base
      rw [if_pos (Or.inl ho)]
      exact ⟨I, base _ rfl, fun _ _ _ _ _ => rfl⟩
    · rw [if_pos (am_tf0.mpr ho)] at base
      by_cases hop : g_open r (tb i) = true
      · obtain ⟨I1, a1, q1, k1⟩ := s_witness_trial_writeTo (lev' + 1 + 1) (22 * i) I J (by omega)
        have sv1 : g_sv I1 56 (22 * i) r := by
          have z := g_sv_of q1 (by rw [e10]; exact h33)
          rw [hrow] at z
          exact z
        have w1 : g_wf (22 * i) I I1 := fun c k z1 z2 z3 => k1 c k (z3.imp id (fun q => Or.inl q))
        have row1 : g_row I1 57 = r := by
          rw [← hrow]
          exact g_rk_witness_trial (fun c k hc => k1 c k (Or.inl ((show ∀ c ∈ ([13, 57, 58, 59, 60, 61] : List Nat), c ≠ 56 by decide) c hc)))
        have hP : g_wp p tb tm K r I := ⟨hC, hrow, hat, h33, h62, h6, htold⟩
        obtain ⟨I', b1, b2⟩ := s_witness_rowsFrom63 p J tb tm K k i lev' r hK hi (by omega) (ih (by omega)) hat h33 (ptc p) 0 0 I1 (by omega) (hP.W w1 row1 hat h33) sv1
        rw [if_neg (fun q => am_tf0.mp q hop), am_i22, pk_mul, Nat.mul_comm i 22, a1, am_bv_v] at base
        rw [if_neg (by rintro (q | q); exact ho q; exact q hop)]
        rw [Nat.zero_add] at b1
        exact ⟨I', base _ b1, w1.tr b2 (Nat.le_refl _)⟩
      · rw [if_pos (am_tf0.mpr hop)] at base
        rw [if_pos (Or.inr hop)]
        exact ⟨I, base _ rfl, fun _ _ _ _ _ => rfl⟩
theorem s_witness_rowsThatFit (d K : Nat) (p : g_Plan) (I : am_I) (J : am_J) (tb : Nat → Nat) (tm : Nat → Int32) (hK : K ≤ 4) (hd : K ≤ d) (hC : g_C p I) (ht : ∀ j, j < K → I 54 j = nI (tb j) ∧ tb j < pn p ∧ I 55 j = tm j) : ∃ I', f_witness_rowsThatFit_0 (d + 1) (nI K) I J = some (some (.int (nI (g_rf p tb tm K 0 (g_out p)))), I', J) ∧ ∀ c k, c ∉ ([19, 20, 56, 57, 58, 59, 60, 61, 62] : List Nat) → I' c k = I c k := by
  have hn := hC.1.1
  have base := b_witness_rowsThatFit_0 (d + 1) (nI K) I J
  obtain ⟨I1, a1, r1, h6, h62, k1⟩ := s_witness_trial_setOut (d + 1) p I J hC
  have kk1 : ∀ a k, a ∉ ([57, 58, 59, 60, 61, 62] : List Nat) → I1 a k = I a k := fun a k ha => by
    simp only [List.mem_cons, List.not_mem_nil, not_or] at ha
    exact k1 a k (Or.inl ha.1) (Or.inr ⟨ha.2.1, ha.2.2.1, ha.2.2.2.1, ha.2.2.2.2.1, ha.2.2.2.2.2.1⟩)
  have C1 : g_C p I1 := hC.keep (fun a k ha => kk1 a k ((show ∀ a ∈ ([1, 2, 3, 12, 13, 14, 15, 16, 17, 18, 21] : List Nat), a ∉ ([57, 58, 59, 60, 61, 62] : List Nat) by decide) a ha))
  have R1 : g_R p (g_row I1 57) (g_out p) := fun k q1 q2 => r1 k q2 q1
  have z : ∀ k, 30 ≤ k → k < 34 → g_row I1 57 k = 0 := fun k q1 q2 => by
    rw [r1 k (by omega) q2]
    unfold g_out
    rw [if_neg (by omega), if_neg (by omega)]
  have at1 : g_at (g_row I1 57) := ⟨0, by decide, z 31 (by decide) (by decide)⟩
  obtain ⟨I', a2, w2⟩ := s_witness_rowsFrom p J tb tm K hK K (Nat.le_refl _) d 0 (g_row I1 57) I1 (by omega) hd ⟨C1, rfl, at1, Or.inl (z 33 (by decide) (by decide)), h62, h6, fun j hj => by rw [kk1 54 j (by decide), kk1 55 j (by decide)]; exact ht j hj⟩
  have a2 : f_witness_rowsFrom_0 (d + 1) 0 (nI K) I1 J = some (some (.int (nI (g_rf p tb tm K 0 (g_row I1 57)))), I', J) := a2
  rw [a1, am_bv_v, a2, am_bi_i, g_rf_R hn tb tm K 0 _ _ (fun j hj => (ht j (by omega)).2.1) at1 R1] at base
  refine ⟨I', base _ rfl, fun c k hc => ?_⟩
  rw [w2.e (fun q => hc ((show ∀ c ∈ ([19, 20, 56, 57, 58, 59, 60] : List Nat), c ∈ ([19, 20, 56, 57, 58, 59, 60, 61, 62] : List Nat) by decide) c q)), kk1 c k (fun q => hc ((show ∀ c ∈ ([57, 58, 59, 60, 61, 62] : List Nat), c ∈ ([19, 20, 56, 57, 58, 59, 60, 61, 62] : List Nat) by decide) c q))]

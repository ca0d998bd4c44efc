/-! pairs of calls: move, offer, drop, pause -/
theorem g_mv_cap {p : g_Plan} (hn : pn p ≤ 6) {r : g_Row} {b : Nat} (h : g_cap p r) (ho : g_open r b = true) (hb : b < pn p) (lt : g_Row) (ha beg x : Int32) : g_cap p (g_mv p lt ha r b beg x).2 := by
  intro j hj
  have h0 := h j hj
  by_cases q : beg + x ≤ pck p
  · by_cases e : j = b
    · subst e
      have e1 : (g_mv p lt ha r j beg x).2 j = r j - 1 := by
        unfold g_mv
        rw [if_pos q]
        show g_set _ (6 + j) _ j = _
        rw [g_set_n _ _ (by omega), g_set_n _ _ (by omega), g_set_n _ _ (by omega), g_set_n _ _ (by omega), g_set_e]
      rw [e1]
      have q0 : 0 < (r j).toInt := Int32.lt_iff_toInt_lt.mp (of_decide_eq_true ho).1
      have q3 := Int32.toInt_lt (r j)
      have e2 : (r j - 1).toInt = (r j).toInt - 1 := by
        rw [g_sub32 (by rw [show (1 : Int32).toInt = 1 from rfl]; omega) (by rw [show (1 : Int32).toInt = 1 from rfl]; omega), show (1 : Int32).toInt = 1 from rfl]
      show (r j - 1).toInt.toNat ≤ 9
      have h0 : (r j).toInt.toNat ≤ 9 := h0
      omega
    · have e1 : (g_mv p lt ha r b beg x).2 j = r j := by
        unfold g_mv
        rw [if_pos q]
        show g_set _ (6 + b) _ j = _
        rw [g_set_n _ _ (by omega), g_set_n _ _ (by omega), g_set_n _ _ (by omega), g_set_n _ _ (by omega), g_set_n _ _ e, g_set_n _ _ (by omega)]
      rw [e1]
      exact h0
  · have e1 : (g_mv p lt ha r b beg x).2 j = r j := by
      unfold g_mv
      rw [if_neg q]
      show g_fall p r b j = _
      unfold g_fall
      rw [g_set_n _ _ (by omega), g_set_n _ _ (by omega), g_set_n _ _ (by omega), g_set_n _ _ (by omega)]
    rw [e1]
    exact h0
theorem g_of_lo {p : g_Plan} (r : g_Row) {b : Nat} : ∀ j, j < 6 → (g_of p r b).2 j = r j := by
  intro j hj
  unfold g_of
  split
  · split
    · show g_set (g_set r 31 (nI b)) 30 _ j = r j
      rw [g_set_n _ _ (by omega), g_set_n _ _ (by omega)]
    · show g_set _ (18 + b) _ j = r j
      rw [g_set_n _ _ (by omega), g_set_n _ _ (by omega), g_set_n _ _ (by omega), g_set_n _ _ (by omega)]
  · show g_fall p r b j = r j
    unfold g_fall
    rw [g_set_n _ _ (by omega), g_set_n _ _ (by omega), g_set_n _ _ (by omega), g_set_n _ _ (by omega)]
theorem g_of_nn {p : g_Plan} (hn : pn p ≤ 6) {r : g_Row} (h : g_nn p r) {b : Nat} (hb : b < pn p) : g_nn p (g_of p r b).2 := by
  intro j hj
  rw [g_of_lo r j (by omega)]
  refine ⟨(h j hj).1, ?_⟩
  unfold g_of
  split
  · split
    · show 0 ≤ (g_set (g_set r 31 (nI b)) 30 (am_mn (g_soon p r b + 1) (pck p)) (18 + j)).toInt
      rw [g_set_n _ _ (by omega), g_set_n _ _ (by omega)]
      exact (h j hj).2
    · show 0 ≤ (g_set _ (18 + b) 1 (18 + j)).toInt
      by_cases e : j = b
      · subst e
        rw [g_set_e]
        decide
      · rw [g_set_n _ _ (by omega), g_set_n _ _ (by omega), g_set_n _ _ (by omega), g_set_n _ _ (by omega)]
        exact (h j hj).2
  · show 0 ≤ (g_fall p r b (18 + j)).toInt
    unfold g_fall
    rw [g_set_n _ _ (by omega), g_set_n _ _ (by omega), g_set_n _ _ (by omega), g_set_n _ _ (by omega)]
    exact (h j hj).2
theorem g_of_bd {p : g_Plan} (h0 : g_OK p) {r : g_Row} {B : Int} (hB : g_bd r B) (hB2 : B ≤ 1000000000) {b : Nat} (hb : b < 6) : g_bd (g_of p r b).2 (B + 999) := by
  have hB1 := hB.1
  have hB3 := hB.2
  unfold g_bd
  unfold g_of
  split
  · split
    · show -(B + 999) ≤ (g_set (g_set r 31 (nI b)) 30 (am_mn (g_soon p r b + 1) (pck p)) 32).toInt ∧ (g_set (g_set r 31 (nI b)) 30 (am_mn (g_soon p r b + 1) (pck p)) 32).toInt ≤ B + 999
      rw [g_set_n _ _ (by decide), g_set_n _ _ (by decide)]
      omega
    · show -(B + 999) ≤ (g_set _ (18 + b) _ 32).toInt ∧ (g_set _ (18 + b) _ 32).toInt ≤ B + 999
      rw [g_set_n _ _ (by omega), g_set_e]
      have := h0.2.2.2.2.2.2.2.1 b (g_fact r b 0 (g_soon p r b))
      unfold g_ask
      rw [g_add32 (by omega) (by omega)]
      omega
  · show -(B + 999) ≤ (g_fall p r b 32).toInt ∧ (g_fall p r b 32).toInt ≤ B + 999
    unfold g_fall
    have := h0.2.2.2.1
    rw [g_set_n _ _ (by decide), g_set_e, g_sub32 (by omega) (by omega)]
    omega
/-- the reference, asked to play at a board -/
theorem q_canp (d b : Nat) {p : g_Plan} {v : Nat} {r : g_Row} {I : am_I} {J : am_J} (mC : m_C p v I) (mN : m_N p r I) (hb : b < pn p) : ∃ I1, f_m_copies_0 d I J = some (none, I1, J) ∧ m_C p v I1 ∧ g_R p r (I1 98) ∧ g_cap p (I1 98) ∧ (∀ b, b < 6 → I1 99 b = 0) ∧ I1 68 49 = -1 ∧ (∀ c k, m_G c k → I1 c k = I c k) ∧ f_m_isOpen_0 d (nI b) I1 J = some (some (.int (am_tf (g_open r b = true))), I1, J) ∧ f_m_isOver_0 d I1 J = some (some (.int (am_tf (g_over p r = true))), I1, J) := by
  have hn := mC.1.1
  obtain ⟨I1, a1, C1, N1, R1, c1, l1, h1, k1⟩ := s_m_fresh d v p I J r mC mN
  have h30 : I1 98 30 ≤ pck p := by rw [← R1.hi 30 (by decide) (by decide)]; exact mN.2.2.1
  refine ⟨I1, a1, C1, R1, c1, l1, h1, k1, ?_, ?_⟩
  · rw [s_m_isOpen d b I1 J (by omega), g_open_c (R1.same hn hb)]
  · rw [s_m_isOver d v p I1 J C1 h30, (R1.E hn).over]
/-- the class's act has left the reference's cells alone -/
theorem q_far {p : g_Plan} {v : Nat} {r : g_Row} {B : Int} {I I2 : am_I} (hP : i_P p v r B I) (k : ∀ c j, 66 ≤ c → I2 c j = I c j) : m_C p v I2 ∧ m_N p r I2 := by
  refine ⟨hP.2.1.keep (k 68 18 (by decide)) (fun c j hc => k c j ((show ∀ c ∈ m_Cc, 66 ≤ c by decide) c hc)), ?_⟩
  obtain ⟨q1, q2⟩ := hP.N
  exact ⟨fun j z1 z2 => by rw [k 97 j (by decide)]; exact q1 j z1 z2, q2⟩
theorem p_move (d : Nat) (x y : Int32) : i_pair (f_oc_move_0 d x y) (f_m_move_0 d x y) := by
  intro I0 J0 B I J hB hB2 ⟨p, v, r, u, nx, w, n, hA⟩
  obtain ⟨hC, mC, hrow, hN, hGd, hR⟩ := hA.1
  have hn := hC.1.1
  have ht := hC.1.2.2.2.2.2.2.2.2.2.2.1
  have b1 := b_oc_move_0 d x y I J
  have b2' := fun X : am_I => b_m_move_0 d x y X J
  have same : ∀ (z : Int32) (I2 : am_I), f_oc_move_0 d x y I J = some (some (.int z), I, J) → f_m_move_0 d x y I J = some (some (.int z), I2, J) → (∀ c k, m_G c k → I2 c k = I c k) → ∃ y' I1 I2 J2, f_oc_move_0 d x y I J = some (some (.int y'), I1, J) ∧ f_m_move_0 d x y I1 J = some (some (.int y'), I2, J2) ∧ (∀ k, I1 0 k = I 0 k) ∧ i_I I0 J0 (B + 999) I2 J2 := fun z I2 e1 e2 k => ⟨z, I, I2, J, e1, e2, fun _ => rfl, p, v, r, u, nx, w, n, (hA.keep (fun c j hc => k c j (i_sup_mG hc)) (i_G.keep (fun c j hc => k c j (i_gd_mG hc)) hA.2.2.2.2.2.2.1)).up (by omega)⟩
  rcases q_ix x (n := pn p) (by omega) with hx | ⟨b, hb, rfl⟩
  · have b2 := b2' I
    rw [q_oc_B_n d hC hx, am_bi_i, if_pos rfl] at b1
    rw [q_m_B_n d mC hx, am_bi_i, if_pos rfl] at b2
    exact same _ I (b1 _ rfl) (b2 _ rfl) (fun _ _ _ => rfl)
  rw [q_oc_B_y d hC hb, am_bi_i, if_neg (show ¬ (1 : Int32) = 0 by decide)] at b1
  rcases q_ix y (n := ptc p) (by omega) with hx | ⟨i, hi, rfl⟩
  · have b2 := b2' I
    rw [q_oc_T_n d hC hx, am_bi_i, if_pos rfl] at b1
    rw [q_m_B_y d mC hb, am_bi_i, if_neg (show ¬ (1 : Int32) = 0 by decide), q_m_T_n d mC hx, am_bi_i, if_pos rfl] at b2
    exact same _ I (b1 _ rfl) (b2 _ rfl) (fun _ _ _ => rfl)
  have hb6 : b < 6 := by omega
  rw [q_oc_T_y d hC hi, am_bi_i, if_neg (show ¬ (1 : Int32) = 0 by decide), q_oc_P d hC hrow hN hb, am_bi_i] at b1
  by_cases hgo : g_open r b = true ∧ ¬ g_over p r = true
  · obtain ⟨I1, a1, h1⟩ := s_push d nx u r I J hrow hN.2.1 hA.2.1.2.2.1 hA.2.1.2.2.2.2.1 hA.2.1.1 hA.2.1.2.2.2.1
    have k1 : ∀ c k, c ∉ ([64] : List Nat) → (c, k) ∉ ([(63, 1), (63, 2), (40, 8)] : List (Nat × Nat)) → I1 c k = I c k := fun c k z1 z2 => h1.2.2.2.2 c k (Or.inl (n_c z1 64 (by decide))) (n_2 z2 63 1 2 (by decide) (by decide)) (n_1 z2 40 8 (by decide))
    have C1 : g_C p I1 := hC.keep (fun c k hc => k1 c k ((show ∀ c ∈ ([1, 2, 3, 12, 13, 14, 15, 16, 17, 18, 21] : List Nat), c ∉ ([64] : List Nat) by decide) c hc) (fun q => (show ∀ c ∈ ([1, 2, 3, 12, 13, 14, 15, 16, 17, 18, 21] : List Nat), ∀ q ∈ ([(63, 1), (63, 2), (40, 8)] : List (Nat × Nat)), q.1 ≠ c by decide) c hc _ q rfl))
    have r1 : g_row I1 34 = r := by
      rw [← hrow]
      exact g_rk_now (fun c k hc => k1 c k ((show ∀ c ∈ ([13, 34, 35, 36, 37, 38] : List Nat), c ∉ ([64] : List Nat) by decide) c hc) (fun q => (show ∀ c ∈ ([13, 34, 35, 36, 37, 38] : List Nat), ∀ q ∈ ([(63, 1), (63, 2), (40, 8)] : List (Nat × Nat)), q.1 ≠ c by decide) c hc _ q rfl))
    have l1 : I1 39 b = 0 := by rw [k1 39 b (by decide) (fun q => (show ∀ q ∈ ([(63, 1), (63, 2), (40, 8)] : List (Nat × Nat)), q.1 ≠ 39 by decide) _ q rfl)]; exact hN.2.2.2 b hb6
    have h6 : I1 34 6 = -1 := by rw [k1 34 6 (by decide) (by decide)]; exact hN.2.2.1
    obtain ⟨I2, a2, r2, k2⟩ := s_now_makeMove d b p I1 J (g_soon p r b) (pth p i) C1 hb (fun _ => l1)
    rw [h6, r1] at a2 r2
    have mvl : g_mv p (I1 39) (-1) r b (g_soon p r b) (pth p i) = g_mv p (fun _ => 0) (-1) r b (g_soon p r b) (pth p i) := by
      unfold g_mv
      rw [l1]
    rw [mvl] at a2 r2
    rw [if_neg (fun q => am_tf0.mp q hgo), a1, am_bv_v, s_now_soonest d b p I1 J C1 hb6 (by rw [r1]; exact hGd.1), am_bi_i, r1, am_at_n (by omega) (by omega), C1.2.2.2.2.2.2.2.2.1 i hi, a2, am_bi_i] at b1
    -- the reference
    have kI : ∀ c j, 66 ≤ c → I2 c j = I c j := fun c j hc => (k2 c j (Or.inl (by omega)) (by omega) (by omega) (by omega) (by omega)).trans (h1.2.2.2.2 c j (Or.inl (by omega)) (Or.inl (by omega)) (Or.inl (by omega)))
    obtain ⟨mC2, mN2⟩ := q_far hA.1 kI
    have b2 := b2' I2
    obtain ⟨I3, a3, C3, R3, c3, l3, h3, k3, o1, o2⟩ := q_canp d b (J := J) mC2 mN2 hb
    obtain ⟨I4, a4, r4, k4⟩ := s_m_movesNow d b v p I3 J (pth p i) C3 hb (g_at_c R3.hi hGd.1)
    have sn : g_soon p (I3 98) b = g_soon p r b := (g_soon_c R3.hi hGd.1 hb6 (R3.same hn hb)).symm
    have mv3 : g_mv p (I3 99) (I3 68 49) (I3 98) b (g_soon p (I3 98) b) (pth p i) = g_mv p (fun _ => 0) (-1) (I3 98) b (g_soon p r b) (pth p i) := by
      rw [h3, sn]
      unfold g_mv
      rw [l3 b hb6]
    rw [mv3] at a4 r4
    have RR := g_mv_R hn R3 (fun _ => 0) (-1) hb (g_soon p r b) (pth p i)
    obtain ⟨I5, a5, h5⟩ := s_m_keeps d u I4 J hA.2.1.2.2.1 (by rw [k4 68 50 ⟨by decide, Or.inr (by decide)⟩, k3 68 50 ⟨by decide, Or.inr (by decide)⟩, kI 68 50 (by decide)]; exact hA.2.1.2.1)
    rw [q_m_B_y d mC2 hb, am_bi_i, if_neg (show ¬ (1 : Int32) = 0 by decide), q_m_T_y d mC2 hi, am_bi_i, if_neg (show ¬ (1 : Int32) = 0 by decide), a3, am_bv_v, o1, am_bi_i, if_neg (fun q => am_tf0.mp q hgo.1), o2, am_bi_i, if_pos (am_tf0.mpr hgo.2), s_m_think d i v p I3 J C3 hi, am_bi_i, a4, am_bi_i, a5, am_bv_v, ← RR.1] at b2
    have gr : g_gr p r := ⟨hGd.1, hGd.2.1, hGd.2.2.2.2.1⟩
    have gr' := g_mv_gr hn gr hgo.1 hb (fun _ => 0) (-1) (g_soon p r b) (pth p i)
    exact ⟨_, I2, I5, J, b1 _ rfl, b2 _ rfl, fun k => by rw [k2 0 k (Or.inl (by decide)) (by decide) (by decide) (by decide) (by decide), k1 0 k (by decide) (fun q => (show ∀ q ∈ ([(63, 1), (63, 2), (40, 8)] : List (Nat × Nat)), q.1 ≠ 0 by decide) _ q rfl)], p, v, _, _, _, w, n, q_done hA h1 (fun c k z1 z2 => k2 c k z1 (n_c z2 35 (by decide)) (n_c z2 36 (by decide)) (n_c z2 19 (by decide)) (n_c z2 20 (by decide))) r2 (fun c k hc => (k4 c k hc.F).trans (k3 c k hc)) (by rw [r4]; exact RR.2) h5 ⟨gr'.1, gr'.2.1, g_mv_33 p _ _ r b _ _ hb6 hGd.2.2.1, g_mv_cap hn hGd.2.2.2.1 hgo.1 hb _ _ _ _, gr'.2.2, g_mv_bd hC.1 hGd.2.2.2.2.2.1 (by omega) _ _ hb6 _ _⟩⟩
  · have b2 := b2' I
    obtain ⟨I1, a1, C1, R1, c1, l1, h1, k1, o1, o2⟩ := q_canp d b (J := J) mC hA.1.N hb
    rw [if_pos (am_tf0.mpr hgo)] at b1
    rw [q_m_B_y d mC hb, am_bi_i, if_neg (show ¬ (1 : Int32) = 0 by decide), q_m_T_y d mC hi, am_bi_i, if_neg (show ¬ (1 : Int32) = 0 by decide), a1, am_bv_v, o1, am_bi_i, o2, am_bi_i] at b2
    refine same _ I1 (b1 _ rfl) (b2 _ ?_) k1
    by_cases ho : g_open r b = true
    · have hv : g_over p r = true := by
        by_cases q : g_over p r = true
        · exact q
        · exact absurd ⟨ho, q⟩ hgo
      rw [if_neg (fun q => am_tf0.mp q ho), if_neg (fun q => am_tf0.mp q hv)]
    · rw [if_pos (am_tf0.mpr ho)]
theorem p_offer (d : Nat) (x : Int32) : i_pair (f_oc_offer_0 d x) (f_m_offer_0 d x) := by
  intro I0 J0 B I J hB hB2 ⟨p, v, r, u, nx, w, n, hA⟩
  obtain ⟨hC, mC, hrow, hN, hGd, hR⟩ := hA.1
  have hn := hC.1.1
  have b1 := b_oc_offer_0 d x I J
  have b2' := fun X : am_I => b_m_offer_0 d x X J
  have same : ∀ (z : Int32) (I2 : am_I), f_oc_offer_0 d x I J = some (some (.int z), I, J) → f_m_offer_0 d x I J = some (some (.int z), I2, J) → (∀ c k, m_G c k → I2 c k = I c k) → ∃ y' I1 I2 J2, f_oc_offer_0 d x I J = some (some (.int y'), I1, J) ∧ f_m_offer_0 d x I1 J = some (some (.int y'), I2, J2) ∧ (∀ k, I1 0 k = I 0 k) ∧ i_I I0 J0 (B + 999) I2 J2 := fun z I2 e1 e2 k => ⟨z, I, I2, J, e1, e2, fun _ => rfl, p, v, r, u, nx, w, n, (hA.keep (fun c j hc => k c j (i_sup_mG hc)) (i_G.keep (fun c j hc => k c j (i_gd_mG hc)) hA.2.2.2.2.2.2.1)).up (by omega)⟩
  rcases q_ix x (n := pn p) (by omega) with hx | ⟨b, hb, rfl⟩
  · have b2 := b2' I
    rw [q_oc_B_n d hC hx, am_bi_i, if_pos rfl] at b1
    rw [q_m_B_n d mC hx, am_bi_i, if_pos rfl] at b2
    exact same _ I (b1 _ rfl) (b2 _ rfl) (fun _ _ _ => rfl)
  have hb6 : b < 6 := by omega
  rw [q_oc_B_y d hC hb, am_bi_i, if_neg (show ¬ (1 : Int32) = 0 by decide), q_oc_P d hC hrow hN hb, am_bi_i] at b1
  by_cases hgo : g_open r b = true ∧ ¬ g_over p r = true
  · obtain ⟨I1, a1, h1⟩ := s_push d nx u r I J hrow hN.2.1 hA.2.1.2.2.1 hA.2.1.2.2.2.2.1 hA.2.1.1 hA.2.1.2.2.2.1
    have k1 : ∀ c k, c ∉ ([64] : List Nat) → (c, k) ∉ ([(63, 1), (63, 2), (40, 8)] : List (Nat × Nat)) → I1 c k = I c k := fun c k z1 z2 => h1.2.2.2.2 c k (Or.inl (n_c z1 64 (by decide))) (n_2 z2 63 1 2 (by decide) (by decide)) (n_1 z2 40 8 (by decide))
    have C1 : g_C p I1 := hC.keep (fun c k hc => k1 c k ((show ∀ c ∈ ([1, 2, 3, 12, 13, 14, 15, 16, 17, 18, 21] : List Nat), c ∉ ([64] : List Nat) by decide) c hc) (fun q => (show ∀ c ∈ ([1, 2, 3, 12, 13, 14, 15, 16, 17, 18, 21] : List Nat), ∀ q ∈ ([(63, 1), (63, 2), (40, 8)] : List (Nat × Nat)), q.1 ≠ c by decide) c hc _ q rfl))
    have r1 : g_row I1 34 = r := by
      rw [← hrow]
      exact g_rk_now (fun c k hc => k1 c k ((show ∀ c ∈ ([13, 34, 35, 36, 37, 38] : List Nat), c ∉ ([64] : List Nat) by decide) c hc) (fun q => (show ∀ c ∈ ([13, 34, 35, 36, 37, 38] : List Nat), ∀ q ∈ ([(63, 1), (63, 2), (40, 8)] : List (Nat × Nat)), q.1 ≠ c by decide) c hc _ q rfl))
    obtain ⟨I2, a2, r2, k2⟩ := s_now_makeOffer d b p I1 J C1 hb (by rw [r1]; exact hGd.1)
    rw [r1] at a2 r2
    rw [if_neg (fun q => am_tf0.mp q hgo), a1, am_bv_v, a2, am_bi_i] at b1
    have kI : ∀ c j, 66 ≤ c → I2 c j = I c j := fun c j hc => (k2 c j (Or.inl (by omega)) (by omega) (by omega) (by omega)).trans (h1.2.2.2.2 c j (Or.inl (by omega)) (Or.inl (by omega)) (Or.inl (by omega)))
    obtain ⟨mC2, mN2⟩ := q_far hA.1 kI
    have b2 := b2' I2
    obtain ⟨I3, a3, C3, R3, c3, l3, h3, k3, o1, o2⟩ := q_canp d b (J := J) mC2 mN2 hb
    obtain ⟨I4, a4, r4, k4⟩ := s_m_offersNow d b v p I3 J C3 hb (g_at_c R3.hi hGd.1)
    have RR := g_of_R hn R3 hGd.1 hb
    obtain ⟨I5, a5, h5⟩ := s_m_keeps d u I4 J hA.2.1.2.2.1 (by rw [k4 68 50 ⟨by decide, Or.inr (by decide)⟩, k3 68 50 ⟨by decide, Or.inr (by decide)⟩, kI 68 50 (by decide)]; exact hA.2.1.2.1)
    rw [q_m_B_y d mC2 hb, am_bi_i, if_neg (show ¬ (1 : Int32) = 0 by decide), a3, am_bv_v, o1, am_bi_i, if_neg (fun q => am_tf0.mp q hgo.1), o2, am_bi_i, if_pos (am_tf0.mpr hgo.2), a4, am_bi_i, a5, am_bv_v, ← RR.1] at b2
    exact ⟨_, I2, I5, J, b1 _ rfl, b2 _ rfl, fun k => by rw [k2 0 k (Or.inl (by decide)) (by decide) (by decide) (by decide), k1 0 k (by decide) (fun q => (show ∀ q ∈ ([(63, 1), (63, 2), (40, 8)] : List (Nat × Nat)), q.1 ≠ 0 by decide) _ q rfl)], p, v, _, _, _, w, n, q_done hA h1 (fun c k z1 z2 => k2 c k z1 (n_c z2 37 (by decide)) (n_c z2 19 (by decide)) (n_c z2 20 (by decide))) r2 (fun c k hc => (k4 c k hc.F).trans (k3 c k hc)) (by rw [r4]; exact RR.2) h5 ⟨⟨b, hb6, g_of_31 p r b hb6⟩, g_of_30 hb6, g_of_33 p r b hb6 hGd.2.2.1, g_of_cap hb6 hGd.2.2.2.1 hn, g_of_nn hn hGd.2.2.2.2.1 hb, g_of_bd hC.1 hGd.2.2.2.2.2.1 (by omega) hb6⟩⟩
  · have b2 := b2' I
    obtain ⟨I1, a1, C1, R1, c1, l1, h1, k1, o1, o2⟩ := q_canp d b (J := J) mC hA.1.N hb
    rw [if_pos (am_tf0.mpr hgo)] at b1
    rw [q_m_B_y d mC hb, am_bi_i, if_neg (show ¬ (1 : Int32) = 0 by decide), a1, am_bv_v, o1, am_bi_i, o2, am_bi_i] at b2
    refine same _ I1 (b1 _ rfl) (b2 _ ?_) k1
    by_cases ho : g_open r b = true
    · have hv : g_over p r = true := by
        by_cases q : g_over p r = true
        · exact q
        · exact absurd ⟨ho, q⟩ hgo
      rw [if_neg (fun q => am_tf0.mp q ho), if_neg (fun q => am_tf0.mp q hv)]
    · rw [if_pos (am_tf0.mpr ho)]
theorem g_go_lo {p : g_Plan} (r : g_Row) {b : Nat} (hb : b < 6) : ∀ j, (j < 18 ∨ j = 30 ∨ j = 31 ∨ j = 33) → g_go p r b j = r j := by
  intro j hj
  unfold g_go
  rw [g_set_n _ _ (by omega), g_set_n _ _ (by omega)]
theorem p_drop (d : Nat) (x : Int32) : i_pair (f_oc_drop_0 d x) (f_m_drop_0 d x) := by
  intro I0 J0 B I J hB hB2 ⟨p, v, r, u, nx, w, n, hA⟩
  obtain ⟨hC, mC, hrow, hN, hGd, hR⟩ := hA.1
  have hn := hC.1.1
  have b1 := b_oc_drop_0 d x I J
  have b2' := fun X : am_I => b_m_drop_0 d x X J
  simp only [am_b01_0, am_b01_1] at b1 b2'
  have same : ∀ (z : Int32) (I2 : am_I), f_oc_drop_0 d x I J = some (some (.int z), I, J) → f_m_drop_0 d x I J = some (some (.int z), I2, J) → (∀ c k, m_G c k → I2 c k = I c k) → ∃ y' I1 I2 J2, f_oc_drop_0 d x I J = some (some (.int y'), I1, J) ∧ f_m_drop_0 d x I1 J = some (some (.int y'), I2, J2) ∧ (∀ k, I1 0 k = I 0 k) ∧ i_I I0 J0 (B + 999) I2 J2 := fun z I2 e1 e2 k => ⟨z, I, I2, J, e1, e2, fun _ => rfl, p, v, r, u, nx, w, n, (hA.keep (fun c j hc => k c j (i_sup_mG hc)) (i_G.keep (fun c j hc => k c j (i_gd_mG hc)) hA.2.2.2.2.2.2.1)).up (by omega)⟩
  rcases q_ix x (n := pn p) (by omega) with hx | ⟨b, hb, rfl⟩
  · have b2 := b2' I
    rw [q_oc_B_n d hC hx, am_bi_i, if_pos rfl] at b1
    rw [q_m_B_n d mC hx, am_bi_i, if_pos rfl] at b2
    exact same _ I (b1 _ rfl) (b2 _ rfl) (fun _ _ _ => rfl)
  have hb6 : b < 6 := by omega
  rw [q_oc_B_y d hC hb, am_bi_i, if_neg (show ¬ (1 : Int32) = 0 by decide), q_oc_P d hC hrow hN hb, am_bi_i] at b1
  by_cases hgo : g_open r b = true ∧ ¬ g_over p r = true
  · obtain ⟨I1, a1, h1⟩ := s_push d nx u r I J hrow hN.2.1 hA.2.1.2.2.1 hA.2.1.2.2.2.2.1 hA.2.1.1 hA.2.1.2.2.2.1
    have k1 : ∀ c k, c ∉ ([64] : List Nat) → (c, k) ∉ ([(63, 1), (63, 2), (40, 8)] : List (Nat × Nat)) → I1 c k = I c k := fun c k z1 z2 => h1.2.2.2.2 c k (Or.inl (n_c z1 64 (by decide))) (n_2 z2 63 1 2 (by decide) (by decide)) (n_1 z2 40 8 (by decide))
    have C1 : g_C p I1 := hC.keep (fun c k hc => k1 c k ((show ∀ c ∈ ([1, 2, 3, 12, 13, 14, 15, 16, 17, 18, 21] : List Nat), c ∉ ([64] : List Nat) by decide) c hc) (fun q => (show ∀ c ∈ ([1, 2, 3, 12, 13, 14, 15, 16, 17, 18, 21] : List Nat), ∀ q ∈ ([(63, 1), (63, 2), (40, 8)] : List (Nat × Nat)), q.1 ≠ c by decide) c hc _ q rfl))
    have r1 : g_row I1 34 = r := by
      rw [← hrow]
      exact g_rk_now (fun c k hc => k1 c k ((show ∀ c ∈ ([13, 34, 35, 36, 37, 38] : List Nat), c ∉ ([64] : List Nat) by decide) c hc) (fun q => (show ∀ c ∈ ([13, 34, 35, 36, 37, 38] : List Nat), ∀ q ∈ ([(63, 1), (63, 2), (40, 8)] : List (Nat × Nat)), q.1 ≠ c by decide) c hc _ q rfl))
    obtain ⟨I2, a2, r2, k2⟩ := s_now_letGo d b p I1 J C1 hb
    rw [r1] at r2
    rw [if_neg (fun q => am_tf0.mp q hgo), a1, am_bv_v, a2, am_bv_v] at b1
    have kI : ∀ c j, 66 ≤ c → I2 c j = I c j := fun c j hc => (k2 c j (Or.inl (by omega)) (by omega)).trans (h1.2.2.2.2 c j (Or.inl (by omega)) (Or.inl (by omega)) (Or.inl (by omega)))
    obtain ⟨mC2, mN2⟩ := q_far hA.1 kI
    have b2 := b2' I2
    obtain ⟨I3, a3, C3, R3, c3, l3, h3, k3, o1, o2⟩ := q_canp d b (J := J) mC2 mN2 hb
    obtain ⟨I4, a4, r4, k4⟩ := s_m_drops d b v p I3 J C3 hb
    obtain ⟨I5, a5, h5⟩ := s_m_keeps d u I4 J hA.2.1.2.2.1 (by rw [k4 68 50 (by decide), k3 68 50 ⟨by decide, Or.inr (by decide)⟩, kI 68 50 (by decide)]; exact hA.2.1.2.1)
    rw [q_m_B_y d mC2 hb, am_bi_i, if_neg (show ¬ (1 : Int32) = 0 by decide), a3, am_bv_v, o1, am_bi_i, if_neg (fun q => am_tf0.mp q hgo.1), o2, am_bi_i, if_pos (am_tf0.mpr hgo.2), a4, am_bv_v, a5, am_bv_v] at b2
    have hls := hC.1.2.2.2.2.2.2.2.2.2.1 b hb
    have hbd := hGd.2.2.2.2.2.1
    exact ⟨_, I2, I5, J, b1 _ rfl, b2 _ rfl, fun k => by rw [k2 0 k (Or.inl (by decide)) (by decide), k1 0 k (by decide) (fun q => (show ∀ q ∈ ([(63, 1), (63, 2), (40, 8)] : List (Nat × Nat)), q.1 ≠ 0 by decide) _ q rfl)], p, v, _, _, _, w, n, q_done hA h1 (fun c k z1 z2 => k2 c k z1 (n_c z2 37 (by decide))) r2 (fun c k hc => (k4 c k hc.c.1).trans (k3 c k hc)) (by rw [r4]; exact g_go_R R3 b) h5 ⟨by
      obtain ⟨s, hs, he⟩ := hGd.1
      exact ⟨s, hs, by rw [g_go_lo r hb6 31 (by omega)]; exact he⟩, by rw [g_go_lo r hb6 30 (by omega)]; exact hGd.2.1, by rw [g_go_lo r hb6 33 (by omega)]; exact hGd.2.2.1, fun j hj => by rw [g_go_lo r hb6 j (by omega)]; exact hGd.2.2.2.1 j hj, fun j hj => by
      rw [g_go_lo r hb6 j (by omega)]
      refine ⟨(hGd.2.2.2.2.1 j hj).1, ?_⟩
      unfold g_go
      by_cases e : j = b
      · subst e; rw [g_set_e]; decide
      · rw [g_set_n _ _ (by omega), g_set_n _ _ (by omega)]
        exact (hGd.2.2.2.2.1 j hj).2, by
      unfold g_bd g_go
      have q1 := hbd.1
      have q2 := hbd.2
      rw [g_set_n _ _ (by omega), g_set_e, g_sub32 (by omega) (by omega)]
      omega⟩⟩
  · have b2 := b2' I
    obtain ⟨I1, a1, C1, R1, c1, l1, h1, k1, o1, o2⟩ := q_canp d b (J := J) mC hA.1.N hb
    rw [if_pos (am_tf0.mpr hgo)] at b1
    rw [q_m_B_y d mC hb, am_bi_i, if_neg (show ¬ (1 : Int32) = 0 by decide), a1, am_bv_v, o1, am_bi_i, o2, am_bi_i] at b2
    refine same _ I1 (b1 _ rfl) (b2 _ ?_) k1
    by_cases ho : g_open r b = true
    · have hv : g_over p r = true := by
        by_cases q : g_over p r = true
        · exact q
        · exact absurd ⟨ho, q⟩ hgo
      rw [if_neg (fun q => am_tf0.mp q ho), if_neg (fun q => am_tf0.mp q hv)]
    · rw [if_pos (am_tf0.mpr ho)]

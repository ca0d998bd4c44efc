/-! the reference's play: its row is the cell 98 -/
theorem am_i10 : (10 : Int32) = nI 10 := rfl
theorem am_i18 : (18 : Int32) = nI 18 := rfl
theorem am_i24 : (24 : Int32) = nI 24 := rfl
theorem am_i30 : (30 : Int32) = nI 30 := rfl
theorem am_i31 : (31 : Int32) = nI 31 := rfl
theorem am_i32 : (32 : Int32) = nI 32 := rfl
theorem am_i33 : (33 : Int32) = nI 33 := rfl
theorem am_i40 : (40 : Int32) = nI 40 := rfl
theorem am_i60 : (60 : Int32) = nI 60 := rfl
theorem am_c {j n : Nat} {k : Nat → am_Out} {s : am_Out} (x : Int32) (h : x = nI j) (hj : j < n) (hn : n < 2 ^ 31) : am_at x n k s = k j := by rw [h]; exact am_at_n hj hn
theorem aq_30 {k : Nat → am_Out} {s : am_Out} : am_at 30 40 k s = k 30 := am_c 30 rfl (by decide) (by decide)
theorem aq_31 {k : Nat → am_Out} {s : am_Out} : am_at 31 40 k s = k 31 := am_c 31 rfl (by decide) (by decide)
theorem aq_32 {k : Nat → am_Out} {s : am_Out} : am_at 32 40 k s = k 32 := am_c 32 rfl (by decide) (by decide)
theorem aq_33 {k : Nat → am_Out} {s : am_Out} : am_at 33 40 k s = k 33 := am_c 33 rfl (by decide) (by decide)
theorem aq_06 {k : Nat → am_Out} {s : am_Out} : am_at 0 6 k s = k 0 := am_c 0 rfl (by decide) (by decide)
theorem aq_16 {k : Nat → am_Out} {s : am_Out} : am_at 1 6 k s = k 1 := am_c 1 rfl (by decide) (by decide)
theorem aq_26 {k : Nat → am_Out} {s : am_Out} : am_at 2 6 k s = k 2 := am_c 2 rfl (by decide) (by decide)
theorem aq_36 {k : Nat → am_Out} {s : am_Out} : am_at 3 6 k s = k 3 := am_c 3 rfl (by decide) (by decide)
theorem aq_46 {k : Nat → am_Out} {s : am_Out} : am_at 4 6 k s = k 4 := am_c 4 rfl (by decide) (by decide)
theorem aq_56 {k : Nat → am_Out} {s : am_Out} : am_at 5 6 k s = k 5 := am_c 5 rfl (by decide) (by decide)
theorem m_r (I : am_I) (c k : Nat) (v : Int32) : (am_upd I c k v) c = g_set (I c) k v := by
  funext j
  by_cases h : j = k
  · subst h; simp [am_upd, g_set]
  · simp [am_upd, g_set, h]
theorem m_rn (I : am_I) {c c' : Nat} (k : Nat) (v : Int32) (h : c' ≠ c) : (am_upd I c k v) c' = I c' := by
  funext j
  exact am_uc h
/-- where the reference's laws lie: v is the side that is live -/
def m_ls (v c k : Nat) : Prop := ((c = 85 ∨ c = 86) ∧ 18 * v ≤ k ∧ k < 18 * v + 18) ∨ ((c = 87 ∨ c = 88 ∨ c = 89 ∨ c = 90 ∨ c = 91) ∧ 130 * v ≤ k ∧ k < 130 * v + 130) ∨ ((c = 92 ∨ c = 93) ∧ 420 * v ≤ k ∧ k < 420 * v + 420)
theorem m_ls.c {v c k : Nat} (h : m_ls v c k) : c ∈ ([85, 86, 87, 88, 89, 90, 91, 92, 93] : List Nat) := by
  rcases h with ⟨rfl | rfl, _⟩ | ⟨rfl | rfl | rfl | rfl | rfl, _⟩ | ⟨rfl | rfl, _⟩ <;> decide
/-- the reference's laws -/
def m_CL (p : g_Plan) (v : Nat) (I : am_I) : Prop := ∀ I' : am_I, (∀ c k, m_ls v c k → I' c k = I c k) → ∀ (d : Nat) (J : am_J) (a b : Nat) (x y z : Int32), (a = 0 ∧ x = 1 ∧ y = -999 ∧ z = 999) ∨ (a = 1 ∧ x = 1 ∧ y = 0 ∧ z = 99) ∨ (a = 2 ∧ x = 0 ∧ y = -999 ∧ z = 999) → b < pn p → ∃ I'', f_m_tells_0 d (nI (18 * v + 6 * a + b)) x y z I' J = some (some (.int (plw p a b (I' 95))), I'', J) ∧ ∀ c k, c ≠ 96 → (c ≠ 68 ∨ k ≠ 45) → I'' c k = I' c k
def m_C (p : g_Plan) (v : Nat) (I : am_I) : Prop := g_OK p ∧ v < 2 ∧ I 68 18 = nI v ∧ I 77 v = nI (pn p) ∧ I 82 v = pst p ∧ I 83 v = pck p ∧ I 84 v = pfl p ∧ (∀ b, b < pn p → I 78 (6 * v + b) = pmv p b) ∧ (∀ b, b < pn p → I 79 (6 * v + b) = pls p b) ∧ I 80 v = nI (ptc p) ∧ (∀ i, i < ptc p → I 81 (4 * v + i) = pth p i) ∧ m_CL p v I
def m_Cc : List Nat := [77, 78, 79, 80, 81, 82, 83, 84, 85, 86, 87, 88, 89, 90, 91, 92, 93]
theorem m_C.keep {p : g_Plan} {v : Nat} {I I' : am_I} (h : m_C p v I) (e0 : I' 68 18 = I 68 18) (e : ∀ c k, c ∈ m_Cc → I' c k = I c k) : m_C p v I' := by
  obtain ⟨h0, h1, h2, h3, h4, h5, h6, h7, h8, h9, h10, h11⟩ := h
  refine ⟨h0, h1, e0.trans h2, (e 77 v (by decide)).trans h3, (e 82 v (by decide)).trans h4, (e 83 v (by decide)).trans h5, (e 84 v (by decide)).trans h6, fun b hb => (e 78 _ (by decide)).trans (h7 b hb), fun b hb => (e 79 _ (by decide)).trans (h8 b hb), (e 80 v (by decide)).trans h9, fun i hi => (e 81 _ (by decide)).trans (h10 i hi), fun I2 h2' => h11 I2 (fun c k hc => (h2' c k hc).trans (e c k ((show ∀ c ∈ ([85, 86, 87, 88, 89, 90, 91, 92, 93] : List Nat), c ∈ m_Cc by decide) c hc.c)))⟩
/-- all but the play's scratch: row, variables, pile, the mark of a broken law -/
def m_F (c k : Nat) : Prop := c ∉ ([95, 96, 98] : List Nat) ∧ (c ≠ 68 ∨ k ≠ 45)
theorem m_F.c {c k : Nat} (h : m_F c k) : c ≠ 95 ∧ c ≠ 96 ∧ c ≠ 98 := by
  have q := h.1
  simp only [List.mem_cons, List.not_mem_nil, not_or] at q
  exact ⟨q.1, q.2.1, q.2.2.1⟩
theorem m_C.F {p : g_Plan} {v : Nat} {I I' : am_I} (h : m_C p v I) (e : ∀ c k, m_F c k → I' c k = I c k) : m_C p v I' :=
  h.keep (e 68 18 ⟨by decide, Or.inr (by decide)⟩) (fun c k hc => e c k ⟨(show ∀ c ∈ m_Cc, c ∉ ([95, 96, 98] : List Nat) by decide) c hc, Or.inl ((show ∀ c ∈ m_Cc, c ≠ 68 by decide) c hc)⟩)
theorem s_m_in (d : Nat) (x a b : Int32) (I : am_I) (J : am_J) : f_m_in_0 d x a b I J = some (some (.int (am_tf (a ≤ x ∧ x ≤ b))), I, J) := by
  refine b_m_in_0 d x a b I J _ ?_
  rw [am_b01_0, am_b01_1]
  by_cases h1 : x < a
  · rw [if_pos h1, am_tf_f (fun q => Int32.not_le.mpr h1 q.1)]
  · rw [if_neg h1]
    by_cases h2 : b < x
    · rw [if_pos h2, am_tf_f (fun q => Int32.not_le.mpr h2 q.2)]
    · rw [if_neg h2, am_tf_t ⟨Int32.not_lt.mp h1, Int32.not_lt.mp h2⟩]
theorem s_m_isOpen (d b : Nat) (I : am_I) (J : am_J) (hb : b < 6) : f_m_isOpen_0 d (nI b) I J = some (some (.int (am_tf (g_open (I 98) b = true))), I, J) := by
  refine b_m_isOpen_0 d (nI b) I J _ ?_
  rw [am_i18, nI_add, am_at_n (by omega) (by omega), am_at_n (by omega) (by omega), am_b01_0, am_b01_1]
  have e : (g_open (I 98) b = true) ↔ (0 < I 98 b ∧ I 98 (18 + b) = 0) := decide_eq_true_iff
  by_cases h1 : 0 < I 98 b
  · rw [if_neg (fun q => am_le0.mp q h1)]
    by_cases h2 : I 98 (18 + b) = 0
    · rw [if_pos h2, am_tf_t (e.mpr ⟨h1, h2⟩)]
    · rw [if_neg h2, am_tf_f (fun q => h2 (e.mp q).2)]
  · rw [if_pos (am_le0.mpr h1), am_tf_f (fun q => h1 (e.mp q).1)]
theorem s_m_openAll4 (d v : Nat) (p : g_Plan) (I : am_I) (J : am_J) (hC : m_C p v I) : ∀ k b o, b + k = pn p → o ≤ b → f_m_openAll_4 d (nI o) (nI b) I J = some (some (.int (nI (o + am_cnt (g_open (I 98)) b k))), I, J) := by
  have hn : pn p ≤ 6 := hC.1.1
  have hv := hC.2.1
  intro k
  induction k with
  | zero =>
    intro b o hb ho
    refine b_m_openAll_4 d _ _ I J _ ?_
    rw [hC.2.2.1, am_at_n hv (by omega), hC.2.2.2.1, if_pos (nI_le (by omega) (by omega))]
    rfl
  | succ k ih =>
    intro b o hb ho
    refine b_m_openAll_4 d _ _ I J _ ?_
    rw [hC.2.2.1, am_at_n hv (by omega), hC.2.2.2.1, if_neg (nI_ge (by omega) (by omega)), s_m_isOpen d b I J (by omega), am_bi_i]
    by_cases h : g_open (I 98) b = true
    · rw [if_neg (fun q => am_tf0.mp q h), nI_1, nI_1, ih (b + 1) (o + 1) (by omega) (by omega)]
      rw [am_cnt_s, if_pos h]
      congr 5
      omega
    · rw [if_pos (am_tf0.mpr h), nI_1, ih (b + 1) o (by omega) (by omega)]
      rw [am_cnt_s, if_neg h]
      congr 5
      omega
theorem s_m_openAll (d v : Nat) (p : g_Plan) (I : am_I) (J : am_J) (hC : m_C p v I) : f_m_openAll_0 d I J = some (some (.int (nI (am_cnt (g_open (I 98)) 0 (pn p)))), I, J) := by
  refine b_m_openAll_0 d I J _ ?_
  have h := s_m_openAll4 d v p I J hC (pn p) 0 0 (by omega) (by omega)
  rw [Nat.zero_add] at h
  exact h
theorem s_m_isOver (d v : Nat) (p : g_Plan) (I : am_I) (J : am_J) (hC : m_C p v I) (h30 : I 98 30 ≤ pck p) : f_m_isOver_0 d I J = some (some (.int (am_tf (g_over p (I 98) = true))), I, J) := by
  have hn : pn p ≤ 6 := hC.1.1
  have hv := hC.2.1
  refine b_m_isOver_0 d I J _ ?_
  have e : (g_over p (I 98) = true) ↔ (I 98 33 = 1 ∨ pck p ≤ I 98 30 ∨ am_cnt (g_open (I 98)) 0 (pn p) = 0) := decide_eq_true_iff
  have e2 : (pck p ≤ I 98 30) ↔ (I 98 30 = pck p) := ⟨fun q => Int32.le_antisymm h30 q, fun q => by rw [q]; exact Int32.le_refl _⟩
  rw [aq_33, aq_30, hC.2.2.1, am_at_n hv (by omega), hC.2.2.2.2.2.1, s_m_openAll d v p I J hC, am_bi_i]
  simp only [am_b01_0, am_b01_1]
  by_cases h1 : I 98 33 = 1
  · rw [if_pos h1, am_tf_t (e.mpr (Or.inl h1))]
  · rw [if_neg h1]
    by_cases h2 : I 98 30 = pck p
    · rw [if_pos h2, am_tf_t (e.mpr (Or.inr (Or.inl (e2.mpr h2))))]
    · rw [if_neg h2]
      by_cases h : am_cnt (g_open (I 98)) 0 (pn p) = 0
      · rw [if_pos (by rw [h]; rfl), am_tf_t (e.mpr (Or.inr (Or.inr h)))]
      · have hle := am_cnt_le (g_open (I 98)) (pn p) 0
        rw [if_neg (nI_ne0 (by omega) (by omega)), am_tf_f (fun q => ?_)]
        rcases e.mp q with q | q | q
        · exact h1 q
        · exact h2 (e2.mp q)
        · exact h q
theorem s_m_stepsTo (d b v : Nat) (p : g_Plan) (I : am_I) (J : am_J) (hC : m_C p v I) (hb : b < 6) (hat : g_at (I 98)) : f_m_stepsTo_0 d (nI b) I J = some (some (.int (g_dist p (I 98) b)), I, J) := by
  have hv := hC.2.1
  obtain ⟨s, hs, he⟩ := hat
  refine b_m_stepsTo_0 d (nI b) I J _ ?_
  rw [am_i24, nI_add, am_at_n (by omega) (by omega), aq_31, he, nI_add, am_at_n (by omega) (by omega), hC.2.2.1]
  unfold g_dist
  rw [he, nI_clamp (by omega), am_mn_eq, am_ab_eq]
  unfold am_mnC am_abC
  simp only [am_at_n hv (show 2 < 2 ^ 31 by decide), hC.2.2.2.1, Int32.zero_sub]
  by_cases h : 0 ≤ I 98 (24 + b) - I 98 (24 + s)
  · simp only [if_pos h]
    by_cases h2 : nI (pn p) - (I 98 (24 + b) - I 98 (24 + s)) ≤ I 98 (24 + b) - I 98 (24 + s)
    · rw [if_pos h2]
      by_cases h3 : nI (pn p) - (I 98 (24 + b) - I 98 (24 + s)) < I 98 (24 + b) - I 98 (24 + s)
      · rw [if_pos h3]
      · rw [if_neg h3, Int32.le_antisymm h2 (Int32.not_lt.mp h3)]
    · rw [if_neg h2, if_neg (fun q => h2 (Int32.le_of_lt q))]
  · simp only [if_neg h]
    by_cases h2 : nI (pn p) - -(I 98 (24 + b) - I 98 (24 + s)) ≤ -(I 98 (24 + b) - I 98 (24 + s))
    · rw [if_pos h2]
      by_cases h3 : nI (pn p) - -(I 98 (24 + b) - I 98 (24 + s)) < -(I 98 (24 + b) - I 98 (24 + s))
      · rw [if_pos h3]
      · rw [if_neg h3, Int32.le_antisymm h2 (Int32.not_lt.mp h3)]
    · rw [if_neg h2, if_neg (fun q => h2 (Int32.le_of_lt q))]
theorem s_m_beginsAt (d b v : Nat) (p : g_Plan) (I : am_I) (J : am_J) (hC : m_C p v I) (hb : b < 6) (hat : g_at (I 98)) : f_m_beginsAt_0 d (nI b) I J = some (some (.int (g_soon p (I 98) b)), I, J) := by
  have hv := hC.2.1
  refine b_m_beginsAt_0 d (nI b) I J _ ?_
  rw [aq_30, hC.2.2.1, am_at_n hv (by omega), hC.2.2.2.2.1, s_m_stepsTo d b v p I J hC hb hat, am_bi_i, am_i6, nI_add, am_at_n (by omega) (by omega), am_at_n (by omega) (by omega)]
  unfold g_soon
  rw [am_mx_eq]
  unfold am_mxC
  by_cases h : I 98 (6 + b) ≤ I 98 30 + pst p * g_dist p (I 98) b
  · rw [if_pos h, if_neg (Int32.not_lt.mpr h)]
  · rw [if_neg h, if_pos (Int32.not_le.mp h)]
theorem s_m_think (d i v : Nat) (p : g_Plan) (I : am_I) (J : am_J) (hC : m_C p v I) (hi : i < ptc p) : f_m_think_0 d (nI i) I J = some (some (.int (pth p i)), I, J) := by
  have hv := hC.2.1
  have ht := hC.1.2.2.2.2.2.2.2.2.2.2.1
  refine b_m_think_0 d (nI i) I J _ ?_
  rw [hC.2.2.1, am_i4, pk_mul, nI_add, am_at_n (by omega) (by omega), hC.2.2.2.2.2.2.2.2.2.2.1 i hi]

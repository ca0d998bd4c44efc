/-! what both say of arguments -/
theorem q_ix (x : Int32) {n : Nat} (hn : n < 2 ^ 31) : (x < 0 ∨ nI n ≤ x) ∨ ∃ j, j < n ∧ x = nI j := by
  rcases pk_ix x hn with h | h | h
  · exact Or.inl (Or.inl h)
  · exact Or.inl (Or.inr h)
  · exact Or.inr h
theorem q_m_in_y (d n j : Nat) (I : am_I) (J : am_J) (hn : n < 2 ^ 31) (hj : j < n) : f_m_in_0 d (nI j) 0 (nI n - 1) I J = some (some (.int 1), I, J) := by
  rw [s_m_in, am_tf_t]
  obtain ⟨m, rfl⟩ : ∃ m, n = m + 1 := ⟨n - 1, by omega⟩
  rw [nI_pred]
  exact ⟨nI_pos' (by omega), nI_le (by omega) (by omega)⟩
theorem q_m_in_n (d n : Nat) (x : Int32) (I : am_I) (J : am_J) (hn : n < 2 ^ 31) (h : x < 0 ∨ nI n ≤ x) : f_m_in_0 d x 0 (nI n - 1) I J = some (some (.int 0), I, J) := by
  rw [s_m_in, am_tf_f]
  rintro ⟨q1, q2⟩
  rcases h with h | h
  · exact Int32.not_le.mpr h q1
  · have a := Int32.le_iff_toInt_le.mp h
    have b := Int32.le_iff_toInt_le.mp q2
    rw [nI_toInt hn] at a
    rw [g_sub32 (by rw [nI_toInt hn, show (1 : Int32).toInt = 1 from rfl]; omega) (by rw [nI_toInt hn, show (1 : Int32).toInt = 1 from rfl]; omega), nI_toInt hn, show (1 : Int32).toInt = 1 from rfl] at b
    omega
section QA
variable {p : g_Plan} {v : Nat} {I : am_I} {J : am_J} (d : Nat)
theorem q_oc_B_y (hC : g_C p I) {b : Nat} (hb : b < pn p) : f_oc_isBoard_0 d (nI b) I J = some (some (.int 1), I, J) := by
  have hn := hC.1.1
  refine b_oc_isBoard_0 d _ I J _ ?_
  rw [if_neg (nI_pos (by omega)), hC.2.1, if_neg (nI_ge hb (by omega)), am_b01_1]
theorem q_oc_B_n (hC : g_C p I) {x : Int32} (h : x < 0 ∨ nI (pn p) ≤ x) : f_oc_isBoard_0 d x I J = some (some (.int 0), I, J) := by
  refine b_oc_isBoard_0 d _ I J _ ?_
  rw [am_b01_0, hC.2.1]
  by_cases h1 : x < 0
  · rw [if_pos h1]
  · rw [if_neg h1, if_pos (h.resolve_left h1)]
theorem q_m_B_y (hC : m_C p v I) {b : Nat} (hb : b < pn p) : f_m_isBoard_0 d (nI b) I J = some (some (.int 1), I, J) := by
  have hn := hC.1.1
  refine b_m_isBoard_0 d _ I J _ ?_
  rw [hC.2.2.1, am_at_n hC.2.1 (by omega), hC.2.2.2.1, q_m_in_y d (pn p) b I J (by omega) hb, am_bi_i, am_b01_1]
theorem q_m_B_n (hC : m_C p v I) {x : Int32} (h : x < 0 ∨ nI (pn p) ≤ x) : f_m_isBoard_0 d x I J = some (some (.int 0), I, J) := by
  have hn := hC.1.1
  refine b_m_isBoard_0 d _ I J _ ?_
  rw [hC.2.2.1, am_at_n hC.2.1 (by omega), hC.2.2.2.1, q_m_in_n d (pn p) x I J (by omega) h, am_bi_i, am_b01_0]
theorem q_oc_T_y (hC : g_C p I) {i : Nat} (hi : i < ptc p) : f_oc_isThink_0 d (nI i) I J = some (some (.int 1), I, J) := by
  have ht := hC.1.2.2.2.2.2.2.2.2.2.2.1
  refine b_oc_isThink_0 d _ I J _ ?_
  rw [if_neg (nI_pos (by omega)), hC.2.2.2.2.2.2.2.1, if_neg (nI_ge hi (by omega)), am_b01_1]
theorem q_oc_T_n (hC : g_C p I) {x : Int32} (h : x < 0 ∨ nI (ptc p) ≤ x) : f_oc_isThink_0 d x I J = some (some (.int 0), I, J) := by
  refine b_oc_isThink_0 d _ I J _ ?_
  rw [am_b01_0, hC.2.2.2.2.2.2.2.1]
  by_cases h1 : x < 0
  · rw [if_pos h1]
  · rw [if_neg h1, if_pos (h.resolve_left h1)]
theorem q_m_T_y (hC : m_C p v I) {i : Nat} (hi : i < ptc p) : f_m_isThink_0 d (nI i) I J = some (some (.int 1), I, J) := by
  have ht := hC.1.2.2.2.2.2.2.2.2.2.2.1
  refine b_m_isThink_0 d _ I J _ ?_
  rw [hC.2.2.1, am_at_n hC.2.1 (by omega), hC.2.2.2.2.2.2.2.2.2.1, q_m_in_y d (ptc p) i I J (by omega) hi, am_bi_i, am_b01_1]
theorem q_m_T_n (hC : m_C p v I) {x : Int32} (h : x < 0 ∨ nI (ptc p) ≤ x) : f_m_isThink_0 d x I J = some (some (.int 0), I, J) := by
  have ht := hC.1.2.2.2.2.2.2.2.2.2.2.1
  refine b_m_isThink_0 d _ I J _ ?_
  rw [hC.2.2.1, am_at_n hC.2.1 (by omega), hC.2.2.2.2.2.2.2.2.2.1, q_m_in_n d (ptc p) x I J (by omega) h, am_bi_i, am_b01_0]
theorem q_oc_R_y (hC : g_C p I) {rule i : Nat} (hr : rule < 4) (hi : i < ptc p) : f_oc_isRule_0 d (nI rule) (nI i) I J = some (some (.int 1), I, J) := by
  refine b_oc_isRule_0 d _ _ I J _ ?_
  rw [if_neg (nI_pos (by omega)), if_neg (show ¬ (4 : Int32) ≤ nI rule from nI_ge (b := 4) (by omega) (by omega)), q_oc_T_y d hC hi, am_bi_i, if_neg (show ¬ (1 : Int32) = 0 by decide), am_b01_1]
theorem q_oc_R_n (hC : g_C p I) {x y : Int32} (h : (x < 0 ∨ (4 : Int32) ≤ x) ∨ (y < 0 ∨ nI (ptc p) ≤ y)) : f_oc_isRule_0 d x y I J = some (some (.int 0), I, J) := by
  refine b_oc_isRule_0 d _ _ I J _ ?_
  rw [am_b01_0]
  by_cases h1 : x < 0
  · rw [if_pos h1]
  · rw [if_neg h1]
    by_cases h2 : (4 : Int32) ≤ x
    · rw [if_pos h2]
    · rw [if_neg h2, q_oc_T_n d hC (h.resolve_left (by rintro (q | q); exact h1 q; exact h2 q)), am_bi_i, if_pos rfl, am_b01_0]
theorem q_m_R_y (hC : m_C p v I) {rule i : Nat} (hr : rule < 4) (hi : i < ptc p) : f_m_isRule_0 d (nI rule) (nI i) I J = some (some (.int 1), I, J) := by
  refine b_m_isRule_0 d _ _ I J _ ?_
  have q := q_m_in_y d 4 rule I J (by omega) hr
  rw [show nI 4 - 1 = (3 : Int32) from rfl] at q
  rw [q, am_bi_i, if_neg (show ¬ (1 : Int32) = 0 by decide), q_m_T_y d hC hi, am_bi_i, if_neg (show ¬ (1 : Int32) = 0 by decide), am_b01_1]
theorem q_m_R_n (hC : m_C p v I) {x y : Int32} (h : (x < 0 ∨ (4 : Int32) ≤ x) ∨ (y < 0 ∨ nI (ptc p) ≤ y)) : f_m_isRule_0 d x y I J = some (some (.int 0), I, J) := by
  refine b_m_isRule_0 d _ _ I J _ ?_
  rcases q_ix x (n := 4) (by decide) with h1 | ⟨rule, hr, rfl⟩
  · have q := q_m_in_n d 4 x I J (by omega) h1
    rw [show nI 4 - 1 = (3 : Int32) from rfl] at q
    rw [q, am_bi_i, if_pos rfl, am_b01_0]
  · have q := q_m_in_y d 4 rule I J (by omega) hr
    rw [show nI 4 - 1 = (3 : Int32) from rfl] at q
    have h2 := h.resolve_left (by
      rintro (z | z)
      · exact nI_pos (by omega) z
      · exact nI_ge (b := 4) (a := rule) (by omega) (by omega) z)
    rw [q, am_bi_i, if_neg (show ¬ (1 : Int32) = 0 by decide), q_m_T_n d hC h2, am_bi_i, if_pos rfl, am_b01_0]
theorem q_oc_H_y {x : Int32} (h : x = 0 ∨ x = 1) : f_oc_isHalf_0 d x I J = some (some (.int 1), I, J) := by
  refine b_oc_isHalf_0 d _ I J _ ?_
  rw [am_b01_1]
  rcases h with h | h
  · rw [if_pos h]
  · rw [if_neg (by rw [h]; decide), if_pos h]
theorem q_oc_H_n {x : Int32} (h : ¬ (x = 0 ∨ x = 1)) : f_oc_isHalf_0 d x I J = some (some (.int 0), I, J) := by
  refine b_oc_isHalf_0 d _ I J _ ?_
  rw [if_neg (fun q => h (Or.inl q)), if_neg (fun q => h (Or.inr q)), am_b01_0]
theorem q_half {x : Int32} : (x = 0 ∨ x = 1) ↔ (0 ≤ x ∧ x ≤ 1) := by
  rw [Int32.le_iff_toInt_le, Int32.le_iff_toInt_le, ← Int32.toInt_inj, ← Int32.toInt_inj, show (0 : Int32).toInt = 0 from rfl, show (1 : Int32).toInt = 1 from rfl]
  omega
theorem q_m_H_y {x : Int32} (h : x = 0 ∨ x = 1) : f_m_in_0 d x 0 1 I J = some (some (.int 1), I, J) := by
  rw [s_m_in, am_tf_t (q_half.mp h)]
theorem q_m_H_n {x : Int32} (h : ¬ (x = 0 ∨ x = 1)) : f_m_in_0 d x 0 1 I J = some (some (.int 0), I, J) := by
  rw [s_m_in, am_tf_f (fun q => h (q_half.mpr q))]
theorem q_dep {x : Int32} : (1 ≤ x ∧ x ≤ 4) ↔ ∃ W, (1 ≤ W ∧ W ≤ 4) ∧ x = nI W := by
  constructor
  · intro ⟨h1, h2⟩
    rw [Int32.le_iff_toInt_le, show (1 : Int32).toInt = 1 from rfl] at h1
    rw [Int32.le_iff_toInt_le, show (4 : Int32).toInt = 4 from rfl] at h2
    refine ⟨x.toInt.toNat, by omega, ?_⟩
    apply Int32.toInt_inj.mp
    rw [nI_toInt (by omega)]
    omega
  · rintro ⟨W, h, rfl⟩
    exact ⟨nI_le (a := 1) (by omega) (by omega), nI_le (b := 4) (by omega) (by omega)⟩
theorem q_oc_D_y {W : Nat} (h : 1 ≤ W ∧ W ≤ 4) : f_oc_isDepth_0 d (nI W) I J = some (some (.int 1), I, J) := by
  refine b_oc_isDepth_0 d _ I J _ ?_
  rw [if_neg (show ¬ nI W < (1 : Int32) from nI_nlt (b := 1) (by omega) (by omega)), if_neg (show ¬ (4 : Int32) < nI W from nI_nlt (a := 4) (by omega) (by omega)), am_b01_1]
theorem q_oc_D_n {x : Int32} (h : ¬ (1 ≤ x ∧ x ≤ 4)) : f_oc_isDepth_0 d x I J = some (some (.int 0), I, J) := by
  refine b_oc_isDepth_0 d _ I J _ ?_
  rw [am_b01_0]
  by_cases h1 : x < 1
  · rw [if_pos h1]
  · rw [if_neg h1, if_pos (Int32.not_le.mp (fun q => h ⟨Int32.not_lt.mp h1, q⟩))]
theorem q_oc_S_y {s : Nat} (h : s < 3) : f_oc_isSlot_0 d (nI s) I J = some (some (.int 1), I, J) := by
  refine b_oc_isSlot_0 d _ I J _ ?_
  rw [if_neg (nI_pos (by omega)), if_neg (show ¬ (3 : Int32) ≤ nI s from nI_ge (b := 3) (by omega) (by omega)), am_b01_1]
theorem q_oc_S_n {x : Int32} (h : x < 0 ∨ (3 : Int32) ≤ x) : f_oc_isSlot_0 d x I J = some (some (.int 0), I, J) := by
  refine b_oc_isSlot_0 d _ I J _ ?_
  rw [am_b01_0]
  by_cases h1 : x < 0
  · rw [if_pos h1]
  · rw [if_neg h1, if_pos (h.resolve_left h1)]
theorem q_m_S_y {s : Nat} (h : s < 3) : f_m_in_0 d (nI s) 0 2 I J = some (some (.int 1), I, J) := q_m_in_y d 3 s I J (by omega) h
theorem q_m_S_n {x : Int32} (h : x < 0 ∨ (3 : Int32) ≤ x) : f_m_in_0 d x 0 2 I J = some (some (.int 0), I, J) := q_m_in_n d 3 x I J (by omega) h
/-- can he play at a board: the class -/
theorem q_oc_P {r : g_Row} (hC : g_C p I) (hr : g_row I 34 = r) (hN : g_NP I) {b : Nat} (hb : b < pn p) : f_oc_canPlay_0 d (nI b) I J = some (some (.int (am_tf (g_open r b = true ∧ ¬ g_over p r = true))), I, J) := by
  have hn := hC.1.1
  refine b_oc_canPlay_0 d _ I J _ ?_
  have eo : g_open r b = g_opn I 34 b := by rw [← hr, g_row_opn (by omega)]
  rw [s_now_isOpen d b I J (by omega), am_bi_i, s_now_isOver d p I J hC hN.2.1, am_bi_i, hr, am_b01_0, am_b01_1, ← eo]
  by_cases h1 : g_open r b = true
  · rw [if_neg (fun q => am_tf0.mp q h1)]
    by_cases h2 : g_over p r = true
    · rw [if_neg (fun q => am_tf0.mp q h2), am_tf_f (fun q => q.2 h2)]
    · rw [if_pos (am_tf0.mpr h2), am_tf_t ⟨h1, h2⟩]
  · rw [if_pos (am_tf0.mpr h1), am_tf_f (fun q => h1 q.1)]
end QA

/-! the play's small methods -/
/-- is a board open in a play (the play's cell: p) -/
def g_opn (I : am_I) (p b : Nat) : Bool := decide (0 < I (p + 1) b ∧ I (p + 3) b = 0)
theorem s_now_isOpen (d b : Nat) (I : am_I) (J : am_J) (hb : b < 6) : f_now_isOpen_0 d (nI b) I J = some (some (.int (am_tf (g_opn I 34 b = true))), I, J) := by
  refine b_now_isOpen_0 d (nI b) I J _ ?_
  rw [am_at_n hb (by omega), am_at_n hb (by omega), am_b01_0, am_b01_1]
  have e : (g_opn I 34 b = true) ↔ (0 < I 35 b ∧ I 37 b = 0) := decide_eq_true_iff
  by_cases h1 : 0 < I 35 b
  · rw [if_neg (fun q => am_le0.mp q h1)]
    by_cases h2 : I 37 b = 0
    · rw [if_pos h2, am_tf_t (e.mpr ⟨h1, h2⟩)]
    · rw [if_neg h2, am_tf_f (fun q => h2 (e.mp q).2)]
  · rw [if_pos (am_le0.mpr h1), am_tf_f (fun q => h1 (e.mp q).1)]
theorem s_now_openBoards4 (d n : Nat) (I : am_I) (J : am_J) (hn : n ≤ 6) (hI : I 12 5 = nI n) : ∀ k b o, b + k = n → o ≤ b → f_now_openBoards_4 d (nI o) (nI b) I J = some (some (.int (nI (o + am_cnt (g_opn I 34) b k))), I, J) := by
  intro k
  induction k with
  | zero =>
    intro b o hb ho
    refine b_now_openBoards_4 d _ _ I J _ ?_
    rw [hI, if_pos (nI_le (by omega) (by omega))]
    rfl
  | succ k ih =>
    intro b o hb ho
    refine b_now_openBoards_4 d _ _ I J _ ?_
    rw [hI, if_neg (nI_ge (by omega) (by omega)), s_now_isOpen d b I J (by omega), am_bi_i]
    by_cases h : g_opn I 34 b = true
    · rw [if_neg (fun q => am_tf0.mp q h), nI_1, nI_1, ih (b + 1) (o + 1) (by omega) (by omega)]
      rw [am_cnt_s, if_pos h]
      congr 5
      omega
    · rw [if_pos (am_tf0.mpr h), nI_1, ← nI_0, nI_add, ih (b + 1) (o + 0) (by omega) (by omega)]
      rw [am_cnt_s, if_neg h]
      congr 5
      omega
theorem s_now_openBoards (d n : Nat) (I : am_I) (J : am_J) (hn : n ≤ 6) (hI : I 12 5 = nI n) : f_now_openBoards_0 d I J = some (some (.int (nI (am_cnt (g_opn I 34) 0 n))), I, J) := by
  refine b_now_openBoards_0 d I J _ ?_
  have h := s_now_openBoards4 d n I J hn hI n 0 0 (by omega) (by omega)
  rw [Nat.zero_add] at h
  exact h
theorem s_guide_trial_isOpen (d b : Nat) (I : am_I) (J : am_J) (hb : b < 6) : f_guide_trial_isOpen_0 d (nI b) I J = some (some (.int (am_tf (g_opn I 47 b = true))), I, J) := by
  refine b_guide_trial_isOpen_0 d (nI b) I J _ ?_
  rw [am_at_n hb (by omega), am_at_n hb (by omega), am_b01_0, am_b01_1]
  have e : (g_opn I 47 b = true) ↔ (0 < I 48 b ∧ I 50 b = 0) := decide_eq_true_iff
  by_cases h1 : 0 < I 48 b
  · rw [if_neg (fun q => am_le0.mp q h1)]
    by_cases h2 : I 50 b = 0
    · rw [if_pos h2, am_tf_t (e.mpr ⟨h1, h2⟩)]
    · rw [if_neg h2, am_tf_f (fun q => h2 (e.mp q).2)]
  · rw [if_pos (am_le0.mpr h1), am_tf_f (fun q => h1 (e.mp q).1)]
theorem s_guide_trial_openBoards4 (d n : Nat) (I : am_I) (J : am_J) (hn : n ≤ 6) (hI : I 12 5 = nI n) : ∀ k b o, b + k = n → o ≤ b → f_guide_trial_openBoards_4 d (nI o) (nI b) I J = some (some (.int (nI (o + am_cnt (g_opn I 47) b k))), I, J) := by
  intro k
  induction k with
  | zero =>
    intro b o hb ho
    refine b_guide_trial_openBoards_4 d _ _ I J _ ?_
    rw [hI, if_pos (nI_le (by omega) (by omega))]
    rfl
  | succ k ih =>
    intro b o hb ho
    refine b_guide_trial_openBoards_4 d _ _ I J _ ?_
    rw [hI, if_neg (nI_ge (by omega) (by omega)), s_guide_trial_isOpen d b I J (by omega), am_bi_i]
    by_cases h : g_opn I 47 b = true
    · rw [if_neg (fun q => am_tf0.mp q h), nI_1, nI_1, ih (b + 1) (o + 1) (by omega) (by omega)]
      rw [am_cnt_s, if_pos h]
      congr 5
      omega
    · rw [if_pos (am_tf0.mpr h), nI_1, ← nI_0, nI_add, ih (b + 1) (o + 0) (by omega) (by omega)]
      rw [am_cnt_s, if_neg h]
      congr 5
      omega
theorem s_guide_trial_openBoards (d n : Nat) (I : am_I) (J : am_J) (hn : n ≤ 6) (hI : I 12 5 = nI n) : f_guide_trial_openBoards_0 d I J = some (some (.int (nI (am_cnt (g_opn I 47) 0 n))), I, J) := by
  refine b_guide_trial_openBoards_0 d I J _ ?_
  have h := s_guide_trial_openBoards4 d n I J hn hI n 0 0 (by omega) (by omega)
  rw [Nat.zero_add] at h
  exact h
theorem s_witness_trial_isOpen (d b : Nat) (I : am_I) (J : am_J) (hb : b < 6) : f_witness_trial_isOpen_0 d (nI b) I J = some (some (.int (am_tf (g_opn I 57 b = true))), I, J) := by
  refine b_witness_trial_isOpen_0 d (nI b) I J _ ?_
  rw [am_at_n hb (by omega), am_at_n hb (by omega), am_b01_0, am_b01_1]
  have e : (g_opn I 57 b = true) ↔ (0 < I 58 b ∧ I 60 b = 0) := decide_eq_true_iff
  by_cases h1 : 0 < I 58 b
  · rw [if_neg (fun q => am_le0.mp q h1)]
    by_cases h2 : I 60 b = 0
    · rw [if_pos h2, am_tf_t (e.mpr ⟨h1, h2⟩)]
    · rw [if_neg h2, am_tf_f (fun q => h2 (e.mp q).2)]
  · rw [if_pos (am_le0.mpr h1), am_tf_f (fun q => h1 (e.mp q).1)]
theorem s_witness_trial_openBoards4 (d n : Nat) (I : am_I) (J : am_J) (hn : n ≤ 6) (hI : I 12 5 = nI n) : ∀ k b o, b + k = n → o ≤ b → f_witness_trial_openBoards_4 d (nI o) (nI b) I J = some (some (.int (nI (o + am_cnt (g_opn I 57) b k))), I, J) := by
  intro k
  induction k with
  | zero =>
    intro b o hb ho
    refine b_witness_trial_openBoards_4 d _ _ I J _ ?_
    rw [hI, if_pos (nI_le (by omega) (by omega))]
    rfl
  | succ k ih =>
    intro b o hb ho
    refine b_witness_trial_openBoards_4 d _ _ I J _ ?_
    rw [hI, if_neg (nI_ge (by omega) (by omega)), s_witness_trial_isOpen d b I J (by omega), am_bi_i]
    by_cases h : g_opn I 57 b = true
    · rw [if_neg (fun q => am_tf0.mp q h), nI_1, nI_1, ih (b + 1) (o + 1) (by omega) (by omega)]
      rw [am_cnt_s, if_pos h]
      congr 5
      omega
    · rw [if_pos (am_tf0.mpr h), nI_1, ← nI_0, nI_add, ih (b + 1) (o + 0) (by omega) (by omega)]
      rw [am_cnt_s, if_neg h]
      congr 5
      omega
theorem s_witness_trial_openBoards (d n : Nat) (I : am_I) (J : am_J) (hn : n ≤ 6) (hI : I 12 5 = nI n) : f_witness_trial_openBoards_0 d I J = some (some (.int (nI (am_cnt (g_opn I 57) 0 n))), I, J) := by
  refine b_witness_trial_openBoards_0 d I J _ ?_
  have h := s_witness_trial_openBoards4 d n I J hn hI n 0 0 (by omega) (by omega)
  rw [Nat.zero_add] at h
  exact h

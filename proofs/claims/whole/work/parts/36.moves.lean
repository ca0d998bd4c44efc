/-! what writing does to a play's row -/
theorem g_r7_now (I : am_I) (v : Int32) : g_row (am_upd I 34 7 v) 34 = g_set (g_row I 34) 30 v := by
  funext k
  by_cases h : k = 30
  · subst h; rfl
  · rw [g_set_n _ _ h]; simp [g_row, am_upd, h]
theorem g_r8_now (I : am_I) (v : Int32) : g_row (am_upd I 34 8 v) 34 = g_set (g_row I 34) 31 v := by
  funext k
  by_cases h : k = 31
  · subst h; rfl
  · rw [g_set_n _ _ h]; simp [g_row, am_upd, h]
theorem g_r9_now (I : am_I) (v : Int32) : g_row (am_upd I 34 9 v) 34 = g_set (g_row I 34) 32 v := by
  funext k
  by_cases h : k = 32
  · subst h; rfl
  · rw [g_set_n _ _ h]; simp [g_row, am_upd, h]
theorem g_r10_now (I : am_I) (v : Int32) : g_row (am_upd I 34 10 v) 34 = g_set (g_row I 34) 33 v := by
  funext k
  by_cases h : k = 33
  · subst h; rfl
  · rw [g_set_n _ _ h]; simp [g_row, am_upd, h]
theorem g_rl_now (I : am_I) (v : Int32) (b : Nat) (hb : b < 6) : g_row (am_upd I 35 b v) 34 = g_set (g_set (g_row I 34) b v) (12 + b) (I 13 b - v) := by
  funext k
  by_cases h : k = 12 + b
  · subst h
    rw [g_set_e, g_row_m hb, am_ue, am_uc (by decide)]
  · rw [g_set_n _ _ h]
    by_cases h2 : k = b
    · subst h2
      rw [g_set_e, g_row_l hb, am_ue]
    · rw [g_set_n _ _ h2]
      have h3 : ¬ k - 12 = b ∨ k < 12 := by omega
      unfold g_row
      by_cases c1 : k < 6
      · simp [c1, am_upd, h2]
      · by_cases c2 : k < 12
        · simp [c1, c2, am_upd]
        · have h4 : ¬ k - 12 = b := by omega
          simp [c1, c2, am_upd, h4]
theorem g_rr_now (I : am_I) (v : Int32) (b : Nat) (hb : b < 6) : g_row (am_upd I 36 b v) 34 = g_set (g_row I 34) (6 + b) v := by
  funext k
  by_cases h : k = 6 + b
  · subst h
    rw [g_set_e, g_row_r hb, am_ue]
  · rw [g_set_n _ _ h]
    unfold g_row
    by_cases c1 : k < 6
    · simp [c1, am_upd]
    · have h4 : ¬ k - 6 = b := by omega
      simp [c1, am_upd, h4]
theorem g_re_now (I : am_I) (v : Int32) (b : Nat) (hb : b < 6) : g_row (am_upd I 37 b v) 34 = g_set (g_row I 34) (18 + b) v := by
  funext k
  by_cases h : k = 18 + b
  · subst h
    rw [g_set_e, g_row_e hb, am_ue]
  · rw [g_set_n _ _ h]
    unfold g_row
    by_cases c1 : k < 18
    · simp [c1, am_upd]
    · have h4 : ¬ k - 18 = b := by omega
      simp [c1, am_upd, h4]
theorem g_rs_now (I : am_I) (v : Int32) (b : Nat) (hb : b < 6) : g_row (am_upd I 38 b v) 34 = g_set (g_row I 34) (24 + b) v := by
  funext k
  by_cases h : k = 24 + b
  · subst h
    rw [g_set_e, g_row_s hb, am_ue]
  · rw [g_set_n _ _ h]
    unfold g_row
    by_cases c1 : k < 24
    · simp [c1, am_upd]
    · have h4 : ¬ k - 24 = b := by omega
      simp [c1, am_upd, h4]
/-- a row depends on its own cells alone -/
theorem g_rk_now {I I' : am_I} (h : ∀ c k, c ∈ ([13, 34, 35, 36, 37, 38] : List Nat) → I' c k = I c k) : g_row I' 34 = g_row I 34 := by
  funext k
  simp only [g_row, h 13 _ (by decide), h 34 _ (by decide), h 35 _ (by decide), h 36 _ (by decide), h 37 _ (by decide), h 38 _ (by decide)]
theorem s_now_dropFlag (d b : Nat) (p : g_Plan) (I : am_I) (J : am_J) (hC : g_C p I) : ∃ I', f_now_dropFlag_0 d (nI b) I J = some (none, I', J) ∧ g_row I' 34 = g_fall p (g_row I 34) b ∧ ∀ c k, (c ≠ 34 ∨ k < 7 ∨ 10 < k) → I' c k = I c k := by
  obtain ⟨I1, e1⟩ : ∃ I1, I1 = am_upd (am_upd (am_upd (am_upd I 34 10 1) 34 7 (pck p)) 34 8 (nI b)) 34 9 (I 34 9 - pfl p) := ⟨_, rfl⟩
  refine ⟨I1, b_now_dropFlag_0 d (nI b) I J _ ?_, ?_, fun c k hc => ?_⟩
  · rw [am_b01_1]
    have x1 : ∀ v, am_upd I 34 10 v 12 8 = pck p := fun v => by rw [am_uc (by decide)]; exact hC.2.2.2.1
    have x2 : ∀ u v w, am_upd (am_upd (am_upd I 34 10 u) 34 7 v) 34 8 w 12 9 = pfl p := fun u v w => by rw [am_uc (by decide), am_uc (by decide), am_uc (by decide)]; exact hC.2.2.2.2.1
    have x3 : ∀ u v w, am_upd (am_upd (am_upd I 34 10 u) 34 7 v) 34 8 w 34 9 = I 34 9 := fun u v w => by rw [am_uk (by decide), am_uk (by decide), am_uk (by decide)]
    simp only [x1, x2, x3]
    rw [e1]
  · rw [e1, g_r9_now, g_r8_now, g_r7_now, g_r10_now]
    funext k
    unfold g_fall
    by_cases h9 : k = 32
    · subst h9; simp [g_set, g_row_32]
    · by_cases h10 : k = 33
      · subst h10; simp [g_set]
      · simp [g_set, h9, h10]
        try (by_cases h8 : k = 31 <;> by_cases h7 : k = 30 <;> simp [h7, h8])
  · rw [e1]
    by_cases e : c = 34
    · subst e
      have hc : k < 7 ∨ 10 < k := hc.resolve_left (fun q => q rfl)
      rw [am_uk (by omega), am_uk (by omega), am_uk (by omega), am_uk (by omega)]
    · rw [am_uc e, am_uc e, am_uc e, am_uc e]
theorem g_r7_guide_trial (I : am_I) (v : Int32) : g_row (am_upd I 47 7 v) 47 = g_set (g_row I 47) 30 v := by
  funext k
  by_cases h : k = 30
  · subst h; rfl
  · rw [g_set_n _ _ h]; simp [g_row, am_upd, h]
theorem g_r8_guide_trial (I : am_I) (v : Int32) : g_row (am_upd I 47 8 v) 47 = g_set (g_row I 47) 31 v := by
  funext k
  by_cases h : k = 31
  · subst h; rfl
  · rw [g_set_n _ _ h]; simp [g_row, am_upd, h]
theorem g_r9_guide_trial (I : am_I) (v : Int32) : g_row (am_upd I 47 9 v) 47 = g_set (g_row I 47) 32 v := by
  funext k
  by_cases h : k = 32
  · subst h; rfl
  · rw [g_set_n _ _ h]; simp [g_row, am_upd, h]
theorem g_r10_guide_trial (I : am_I) (v : Int32) : g_row (am_upd I 47 10 v) 47 = g_set (g_row I 47) 33 v := by
  funext k
  by_cases h : k = 33
  · subst h; rfl
  · rw [g_set_n _ _ h]; simp [g_row, am_upd, h]
theorem g_rl_guide_trial (I : am_I) (v : Int32) (b : Nat) (hb : b < 6) : g_row (am_upd I 48 b v) 47 = g_set (g_set (g_row I 47) b v) (12 + b) (I 13 b - v) := by
  funext k
  by_cases h : k = 12 + b
  · subst h
    rw [g_set_e, g_row_m hb, am_ue, am_uc (by decide)]
  · rw [g_set_n _ _ h]
    by_cases h2 : k = b
    · subst h2
      rw [g_set_e, g_row_l hb, am_ue]
    · rw [g_set_n _ _ h2]
      have h3 : ¬ k - 12 = b ∨ k < 12 := by omega
      unfold g_row
      by_cases c1 : k < 6
      · simp [c1, am_upd, h2]
      · by_cases c2 : k < 12
        · simp [c1, c2, am_upd]
        · have h4 : ¬ k - 12 = b := by omega
          simp [c1, c2, am_upd, h4]
theorem g_rr_guide_trial (I : am_I) (v : Int32) (b : Nat) (hb : b < 6) : g_row (am_upd I 49 b v) 47 = g_set (g_row I 47) (6 + b) v := by
  funext k
  by_cases h : k = 6 + b
  · subst h
    rw [g_set_e, g_row_r hb, am_ue]
  · rw [g_set_n _ _ h]
    unfold g_row
    by_cases c1 : k < 6
    · simp [c1, am_upd]
    · have h4 : ¬ k - 6 = b := by omega
      simp [c1, am_upd, h4]
theorem g_re_guide_trial (I : am_I) (v : Int32) (b : Nat) (hb : b < 6) : g_row (am_upd I 50 b v) 47 = g_set (g_row I 47) (18 + b) v := by
  funext k
  by_cases h : k = 18 + b
  · subst h
    rw [g_set_e, g_row_e hb, am_ue]
  · rw [g_set_n _ _ h]
    unfold g_row
    by_cases c1 : k < 18
    · simp [c1, am_upd]
    · have h4 : ¬ k - 18 = b := by omega
      simp [c1, am_upd, h4]
theorem g_rs_guide_trial (I : am_I) (v : Int32) (b : Nat) (hb : b < 6) : g_row (am_upd I 51 b v) 47 = g_set (g_row I 47) (24 + b) v := by
  funext k
  by_cases h : k = 24 + b
  · subst h
    rw [g_set_e, g_row_s hb, am_ue]
  · rw [g_set_n _ _ h]
    unfold g_row
    by_cases c1 : k < 24
    · simp [c1, am_upd]
    · have h4 : ¬ k - 24 = b := by omega
      simp [c1, am_upd, h4]
/-- a row depends on its own cells alone -/
theorem g_rk_guide_trial {I I' : am_I} (h : ∀ c k, c ∈ ([13, 47, 48, 49, 50, 51] : List Nat) → I' c k = I c k) : g_row I' 47 = g_row I 47 := by
  funext k
  simp only [g_row, h 13 _ (by decide), h 47 _ (by decide), h 48 _ (by decide), h 49 _ (by decide), h 50 _ (by decide), h 51 _ (by decide)]
theorem s_guide_trial_dropFlag (d b : Nat) (p : g_Plan) (I : am_I) (J : am_J) (hC : g_C p I) : ∃ I', f_guide_trial_dropFlag_0 d (nI b) I J = some (none, I', J) ∧ g_row I' 47 = g_fall p (g_row I 47) b ∧ ∀ c k, (c ≠ 47 ∨ k < 7 ∨ 10 < k) → I' c k = I c k := by
  obtain ⟨I1, e1⟩ : ∃ I1, I1 = am_upd (am_upd (am_upd (am_upd I 47 10 1) 47 7 (pck p)) 47 8 (nI b)) 47 9 (I 47 9 - pfl p) := ⟨_, rfl⟩
  refine ⟨I1, b_guide_trial_dropFlag_0 d (nI b) I J _ ?_, ?_, fun c k hc => ?_⟩
  · rw [am_b01_1]
    have x1 : ∀ v, am_upd I 47 10 v 12 8 = pck p := fun v => by rw [am_uc (by decide)]; exact hC.2.2.2.1
    have x2 : ∀ u v w, am_upd (am_upd (am_upd I 47 10 u) 47 7 v) 47 8 w 12 9 = pfl p := fun u v w => by rw [am_uc (by decide), am_uc (by decide), am_uc (by decide)]; exact hC.2.2.2.2.1
    have x3 : ∀ u v w, am_upd (am_upd (am_upd I 47 10 u) 47 7 v) 47 8 w 47 9 = I 47 9 := fun u v w => by rw [am_uk (by decide), am_uk (by decide), am_uk (by decide)]
    simp only [x1, x2, x3]
    rw [e1]
  · rw [e1, g_r9_guide_trial, g_r8_guide_trial, g_r7_guide_trial, g_r10_guide_trial]
    funext k
    unfold g_fall
    by_cases h9 : k = 32
    · subst h9; simp [g_set, g_row_32]
    · by_cases h10 : k = 33
      · subst h10; simp [g_set]
      · simp [g_set, h9, h10]
        try (by_cases h8 : k = 31 <;> by_cases h7 : k = 30 <;> simp [h7, h8])
  · rw [e1]
    by_cases e : c = 47
    · subst e
      have hc : k < 7 ∨ 10 < k := hc.resolve_left (fun q => q rfl)
      rw [am_uk (by omega), am_uk (by omega), am_uk (by omega), am_uk (by omega)]
    · rw [am_uc e, am_uc e, am_uc e, am_uc e]
theorem g_r7_witness_trial (I : am_I) (v : Int32) : g_row (am_upd I 57 7 v) 57 = g_set (g_row I 57) 30 v := by
  funext k
  by_cases h : k = 30
  · subst h; rfl
  · rw [g_set_n _ _ h]; simp [g_row, am_upd, h]
theorem g_r8_witness_trial (I : am_I) (v : Int32) : g_row (am_upd I 57 8 v) 57 = g_set (g_row I 57) 31 v := by
  funext k
  by_cases h : k = 31
  · subst h; rfl
  · rw [g_set_n _ _ h]; simp [g_row, am_upd, h]
theorem g_r9_witness_trial (I : am_I) (v : Int32) : g_row (am_upd I 57 9 v) 57 = g_set (g_row I 57) 32 v := by
  funext k
  by_cases h : k = 32
  · subst h; rfl
  · rw [g_set_n _ _ h]; simp [g_row, am_upd, h]
theorem g_r10_witness_trial (I : am_I) (v : Int32) : g_row (am_upd I 57 10 v) 57 = g_set (g_row I 57) 33 v := by
  funext k
  by_cases h : k = 33
  · subst h; rfl
  · rw [g_set_n _ _ h]; simp [g_row, am_upd, h]
theorem g_rl_witness_trial (I : am_I) (v : Int32) (b : Nat) (hb : b < 6) : g_row (am_upd I 58 b v) 57 = g_set (g_set (g_row I 57) b v) (12 + b) (I 13 b - v) := by
  funext k
  by_cases h : k = 12 + b
  · subst h
    rw [g_set_e, g_row_m hb, am_ue, am_uc (by decide)]
  · rw [g_set_n _ _ h]
    by_cases h2 : k = b
    · subst h2
      rw [g_set_e, g_row_l hb, am_ue]
    · rw [g_set_n _ _ h2]
      have h3 : ¬ k - 12 = b ∨ k < 12 := by omega
      unfold g_row
      by_cases c1 : k < 6
      · simp [c1, am_upd, h2]
      · by_cases c2 : k < 12
        · simp [c1, c2, am_upd]
        · have h4 : ¬ k - 12 = b := by omega
          simp [c1, c2, am_upd, h4]
theorem g_rr_witness_trial (I : am_I) (v : Int32) (b : Nat) (hb : b < 6) : g_row (am_upd I 59 b v) 57 = g_set (g_row I 57) (6 + b) v := by
  funext k
  by_cases h : k = 6 + b
  · subst h
    rw [g_set_e, g_row_r hb, am_ue]
  · rw [g_set_n _ _ h]
    unfold g_row
    by_cases c1 : k < 6
    · simp [c1, am_upd]
    · have h4 : ¬ k - 6 = b := by omega
      simp [c1, am_upd, h4]
theorem g_re_witness_trial (I : am_I) (v : Int32) (b : Nat) (hb : b < 6) : g_row (am_upd I 60 b v) 57 = g_set (g_row I 57) (18 + b) v := by
  funext k
  by_cases h : k = 18 + b
  · subst h
    rw [g_set_e, g_row_e hb, am_ue]
  · rw [g_set_n _ _ h]
    unfold g_row
    by_cases c1 : k < 18
    · simp [c1, am_upd]
    · have h4 : ¬ k - 18 = b := by omega
      simp [c1, am_upd, h4]
theorem g_rs_witness_trial (I : am_I) (v : Int32) (b : Nat) (hb : b < 6) : g_row (am_upd I 61 b v) 57 = g_set (g_row I 57) (24 + b) v := by
  funext k
  by_cases h : k = 24 + b
  · subst h
    rw [g_set_e, g_row_s hb, am_ue]
  · rw [g_set_n _ _ h]
    unfold g_row
    by_cases c1 : k < 24
    · simp [c1, am_upd]
    · have h4 : ¬ k - 24 = b := by omega
      simp [c1, am_upd, h4]
/-- a row depends on its own cells alone -/
theorem g_rk_witness_trial {I I' : am_I} (h : ∀ c k, c ∈ ([13, 57, 58, 59, 60, 61] : List Nat) → I' c k = I c k) : g_row I' 57 = g_row I 57 := by
  funext k
  simp only [g_row, h 13 _ (by decide), h 57 _ (by decide), h 58 _ (by decide), h 59 _ (by decide), h 60 _ (by decide), h 61 _ (by decide)]
theorem s_witness_trial_dropFlag (d b : Nat) (p : g_Plan) (I : am_I) (J : am_J) (hC : g_C p I) : ∃ I', f_witness_trial_dropFlag_0 d (nI b) I J = some (none, I', J) ∧ g_row I' 57 = g_fall p (g_row I 57) b ∧ ∀ c k, (c ≠ 57 ∨ k < 7 ∨ 10 < k) → I' c k = I c k := by
  obtain ⟨I1, e1⟩ : ∃ I1, I1 = am_upd (am_upd (am_upd (am_upd I 57 10 1) 57 7 (pck p)) 57 8 (nI b)) 57 9 (I 57 9 - pfl p) := ⟨_, rfl⟩
  refine ⟨I1, b_witness_trial_dropFlag_0 d (nI b) I J _ ?_, ?_, fun c k hc => ?_⟩
  · rw [am_b01_1]
    have x1 : ∀ v, am_upd I 57 10 v 12 8 = pck p := fun v => by rw [am_uc (by decide)]; exact hC.2.2.2.1
    have x2 : ∀ u v w, am_upd (am_upd (am_upd I 57 10 u) 57 7 v) 57 8 w 12 9 = pfl p := fun u v w => by rw [am_uc (by decide), am_uc (by decide), am_uc (by decide)]; exact hC.2.2.2.2.1
    have x3 : ∀ u v w, am_upd (am_upd (am_upd I 57 10 u) 57 7 v) 57 8 w 57 9 = I 57 9 := fun u v w => by rw [am_uk (by decide), am_uk (by decide), am_uk (by decide)]
    simp only [x1, x2, x3]
    rw [e1]
  · rw [e1, g_r9_witness_trial, g_r8_witness_trial, g_r7_witness_trial, g_r10_witness_trial]
    funext k
    unfold g_fall
    by_cases h9 : k = 32
    · subst h9; simp [g_set, g_row_32]
    · by_cases h10 : k = 33
      · subst h10; simp [g_set]
      · simp [g_set, h9, h10]
        try (by_cases h8 : k = 31 <;> by_cases h7 : k = 30 <;> simp [h7, h8])
  · rw [e1]
    by_cases e : c = 57
    · subst e
      have hc : k < 7 ∨ 10 < k := hc.resolve_left (fun q => q rfl)
      rw [am_uk (by omega), am_uk (by omega), am_uk (by omega), am_uk (by omega)]
    · rw [am_uc e, am_uc e, am_uc e, am_uc e]

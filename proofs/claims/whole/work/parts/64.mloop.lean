/-! loops that copy rows -/
theorem am_cpy_0 {I : am_I} {c0 s c1 d : Nat} : am_cpy I c0 s c1 d 0 = I := by
  funext c j
  unfold am_cpy
  rw [if_neg (by omega)]
theorem am_cpy_s {I : am_I} {c0 s c1 d n : Nat} (h : c0 ≠ c1 ∨ d < s) : am_cpy (am_upd I c1 d (I c0 s)) c0 (s + 1) c1 (d + 1) n = am_cpy I c0 s c1 d (n + 1) := by
  funext c j
  unfold am_cpy
  by_cases h1 : c = c1 ∧ d + 1 ≤ j ∧ j < d + 1 + n
  · obtain ⟨e, h2, h3⟩ := h1
    rw [if_pos ⟨e, h2, h3⟩, if_pos ⟨e, by omega, by omega⟩]
    have : s + 1 + (j - (d + 1)) = s + (j - d) := by omega
    rw [this]
    rcases h with h | h
    · exact am_uc h
    · by_cases e2 : c0 = c1
      · subst e2; exact am_uk (by omega)
      · exact am_uc e2
  · rw [if_neg h1]
    by_cases e : c = c1
    · subst e
      by_cases e2 : j = d
      · subst e2
        rw [am_ue, if_pos ⟨rfl, by omega, by omega⟩, Nat.sub_self, Nat.add_zero]
      · rw [am_uk e2, if_neg (by omega)]
    · rw [am_uc e, if_neg (fun q => e q.1)]
def am_fil (I : am_I) (c d n : Nat) (v : Int32) : am_I := fun c' k' => if c' = c ∧ d ≤ k' ∧ k' < d + n then v else I c' k'
theorem am_fil_0 {I : am_I} {c d : Nat} {v : Int32} : am_fil I c d 0 v = I := by
  funext c' j
  unfold am_fil
  rw [if_neg (by omega)]
theorem am_fil_s {I : am_I} {c d n : Nat} {v : Int32} : am_fil (am_upd I c d v) c (d + 1) n v = am_fil I c d (n + 1) v := by
  funext c' j
  unfold am_fil
  by_cases h1 : c' = c ∧ d + 1 ≤ j ∧ j < d + 1 + n
  · obtain ⟨e, h2, h3⟩ := h1
    rw [if_pos ⟨e, h2, h3⟩, if_pos ⟨e, by omega, by omega⟩]
  · rw [if_neg h1]
    by_cases e : c' = c
    · subst e
      by_cases e2 : j = d
      · subst e2
        rw [am_ue, if_pos ⟨rfl, by omega, by omega⟩]
      · rw [am_uk e2, if_neg (by omega)]
    · rw [am_uc e, if_neg (fun q => e q.1)]
theorem am_fe {I : am_I} {c d n k : Nat} {v : Int32} (h : d ≤ k) (h2 : k < d + n) : am_fil I c d n v c k = v := by
  unfold am_fil
  rw [if_pos ⟨rfl, h, h2⟩]
theorem am_fc {I : am_I} {c d n c' k : Nat} {v : Int32} (h : c' ≠ c) : am_fil I c d n v c' k = I c' k := by
  unfold am_fil
  rw [if_neg (fun q => h q.1)]
theorem am_fo {I : am_I} {c d n k : Nat} {v : Int32} (h : k < d ∨ d + n ≤ k) : am_fil I c d n v c k = I c k := by
  unfold am_fil
  rw [if_neg (by omega)]
theorem am_i1960 : (1960 : Int32) = nI 1960 := rfl
theorem lo_copies_2 (d : Nat) (J : am_J) (o : Option Value × am_I × am_J) : ∀ k x (I : am_I), x + k = 40 → f_m_copies_28 d 0 (am_cpy I 97 (x) 98 (x) k) J = some o → f_m_copies_2 d (nI x) I J = some o := by
  intro k
  induction k with
  | zero =>
    intro x I hx h
    rw [am_cpy_0] at h
    refine b_m_copies_2 d _ I J _ ?_
    rw [if_pos (show (40 : Int32) ≤ nI x from nI_le (a := 40) (by omega) (by omega))]
    exact h
  | succ k ih =>
    intro x I hx h
    refine b_m_copies_2 d _ I J _ ?_
    rw [if_neg (show ¬ (40 : Int32) ≤ nI x from nI_ge (b := 40) (by omega) (by omega)), am_at_n (by omega) (by omega), am_at_n (by omega) (by omega), nI_1]
    refine ih (x + 1) _ (by omega) ?_
    rw [am_cpy_s (by omega)]
    exact h
theorem lo_keeps_11 (d : Nat) (J : am_J) (o : Option Value × am_I × am_J) : ∀ k x (I : am_I), x + k = 1960 → f_m_keeps_51 d 0 (am_upd (am_cpy I 100 (40 + x) 100 (x) k) 68 50 ((am_cpy I 100 (40 + x) 100 (x) k) 68 50 - 1)) J = some o → f_m_keeps_11 d (nI x) I J = some o := by
  intro k
  induction k with
  | zero =>
    intro x I hx h
    rw [am_cpy_0] at h
    refine b_m_keeps_11 d _ I J _ ?_
    rw [if_pos (show (1960 : Int32) ≤ nI x from nI_le (a := 1960) (by omega) (by omega))]
    exact h
  | succ k ih =>
    intro x I hx h
    refine b_m_keeps_11 d _ I J _ ?_
    rw [if_neg (show ¬ (1960 : Int32) ≤ nI x from nI_ge (b := 1960) (by omega) (by omega)), am_i40, nI_add, Nat.add_comm x 40, am_at_n (by omega) (by omega), am_at_n (by omega) (by omega), nI_1]
    refine ih (x + 1) _ (by omega) ?_
    rw [show 40 + (x + 1) = 40 + x + 1 from rfl, am_cpy_s (by omega)]
    exact h
theorem lo_keeps_51 (d : Nat) (u : Nat) (hu : u < 50) (J : am_J) (o : Option Value × am_I × am_J) : ∀ k x (I : am_I), x + k = 40 → I 68 50 = nI u → f_m_keeps_95 d 0 (am_upd (am_cpy I 97 (x) 100 (40 * u + x) k) 68 50 ((am_cpy I 97 (x) 100 (40 * u + x) k) 68 50 + 1)) J = some o → f_m_keeps_51 d (nI x) I J = some o := by
  intro k
  induction k with
  | zero =>
    intro x I hx hh h
    rw [am_cpy_0] at h
    refine b_m_keeps_51 d _ I J _ ?_
    rw [if_pos (show (40 : Int32) ≤ nI x from nI_le (a := 40) (by omega) (by omega))]
    exact h
  | succ k ih =>
    intro x I hx hh h
    refine b_m_keeps_51 d _ I J _ ?_
    rw [if_neg (show ¬ (40 : Int32) ≤ nI x from nI_ge (b := 40) (by omega) (by omega)), hh, am_i40, pk_mul, nI_add, am_at_n (by omega) (by omega), am_at_n (by omega) (by omega), nI_1]
    refine ih (x + 1) _ (by omega) ?_ ?_
    · rw [am_uc (by decide)]; exact hh
    · rw [show 40 * u + (x + 1) = 40 * u + x + 1 from rfl, am_cpy_s (by omega)]
      exact h
theorem lo_keeps_95 (d : Nat) (J : am_J) (o : Option Value × am_I × am_J) : ∀ k x (I : am_I), x + k = 40 → (some (none, (am_cpy I 98 (x) 97 (x) k), J) : am_Out) = some o → f_m_keeps_95 d (nI x) I J = some o := by
  intro k
  induction k with
  | zero =>
    intro x I hx h
    rw [am_cpy_0] at h
    refine b_m_keeps_95 d _ I J _ ?_
    rw [if_pos (show (40 : Int32) ≤ nI x from nI_le (a := 40) (by omega) (by omega))]
    exact h
  | succ k ih =>
    intro x I hx h
    refine b_m_keeps_95 d _ I J _ ?_
    rw [if_neg (show ¬ (40 : Int32) ≤ nI x from nI_ge (b := 40) (by omega) (by omega)), am_at_n (by omega) (by omega), am_at_n (by omega) (by omega), nI_1]
    refine ih (x + 1) _ (by omega) ?_
    rw [am_cpy_s (by omega)]
    exact h
theorem lo_undo_21 (d : Nat) (u : Nat) (hu : u < 50) (J : am_J) (o : Option Value × am_I × am_J) : ∀ k x (I : am_I), x + k = 40 → I 68 50 = nI u → (some (some (.int 1), (am_cpy I 100 (40 * u + x) 97 (x) k), J) : am_Out) = some o → f_m_undo_21 d (nI x) I J = some o := by
  intro k
  induction k with
  | zero =>
    intro x I hx hh h
    rw [am_cpy_0] at h
    refine b_m_undo_21 d _ I J _ ?_
    rw [if_pos (show (40 : Int32) ≤ nI x from nI_le (a := 40) (by omega) (by omega))]
    exact (am_b01_1).trans h
  | succ k ih =>
    intro x I hx hh h
    refine b_m_undo_21 d _ I J _ ?_
    rw [if_neg (show ¬ (40 : Int32) ≤ nI x from nI_ge (b := 40) (by omega) (by omega)), hh, am_i40, pk_mul, nI_add, am_at_n (by omega) (by omega), am_at_n (by omega) (by omega), nI_1]
    refine ih (x + 1) _ (by omega) ?_ ?_
    · rw [am_uc (by decide)]; exact hh
    · rw [show 40 * u + (x + 1) = 40 * u + x + 1 from rfl, am_cpy_s (by omega)]
      exact h
theorem lo_hold_20 (d : Nat) (u : Nat) (hu : u < 3) (J : am_J) (o : Option Value × am_I × am_J) : ∀ k x (I : am_I), x + k = 40 → (some (some (.int 1), (am_cpy I 97 (x) 111 (40 * u + x) k), J) : am_Out) = some o → f_m_hold_20 d (nI u) (nI x) I J = some o := by
  intro k
  induction k with
  | zero =>
    intro x I hx h
    rw [am_cpy_0] at h
    refine b_m_hold_20 d (nI u) _ I J _ ?_
    rw [if_pos (show (40 : Int32) ≤ nI x from nI_le (a := 40) (by omega) (by omega))]
    exact (am_b01_1).trans h
  | succ k ih =>
    intro x I hx h
    refine b_m_hold_20 d (nI u) _ I J _ ?_
    rw [if_neg (show ¬ (40 : Int32) ≤ nI x from nI_ge (b := 40) (by omega) (by omega)), am_i40, pk_mul, nI_add, am_at_n (by omega) (by omega), am_at_n (by omega) (by omega), nI_1]
    refine ih (x + 1) _ (by omega) ?_
    rw [show 40 * u + (x + 1) = 40 * u + x + 1 from rfl, am_cpy_s (by omega)]
    exact h
theorem lo_restore_22 (d : Nat) (u : Nat) (hu : u < 3) (J : am_J) (o : Option Value × am_I × am_J) : ∀ k x (I : am_I), x + k = 40 → (some (some (.int 1), am_upd (am_cpy I 111 (40 * u + x) 97 (x) k) 68 50 0, J) : am_Out) = some o → f_m_restore_22 d (nI u) (nI x) I J = some o := by
  intro k
  induction k with
  | zero =>
    intro x I hx h
    rw [am_cpy_0] at h
    refine b_m_restore_22 d (nI u) _ I J _ ?_
    rw [if_pos (show (40 : Int32) ≤ nI x from nI_le (a := 40) (by omega) (by omega))]
    exact (am_b01_1).trans h
  | succ k ih =>
    intro x I hx h
    refine b_m_restore_22 d (nI u) _ I J _ ?_
    rw [if_neg (show ¬ (40 : Int32) ≤ nI x from nI_ge (b := 40) (by omega) (by omega)), am_i40, pk_mul, nI_add, am_at_n (by omega) (by omega), am_at_n (by omega) (by omega), nI_1]
    refine ih (x + 1) _ (by omega) ?_
    rw [show 40 * u + (x + 1) = 40 * u + x + 1 from rfl, am_cpy_s (by omega)]
    exact h
theorem lo_read_207 (d : Nat) (J : am_J) (o : Option Value × am_I × am_J) : ∀ k x (I : am_I), x + k = 40 → f_m_read_243 d 0 (am_upd (am_upd (am_cpy I 98 (x) 97 (x) k) 68 50 0) 68 62 0) J = some o → f_m_read_207 d (nI x) I J = some o := by
  intro k
  induction k with
  | zero =>
    intro x I hx h
    rw [am_cpy_0] at h
    refine b_m_read_207 d _ I J _ ?_
    rw [if_pos (show (40 : Int32) ≤ nI x from nI_le (a := 40) (by omega) (by omega))]
    exact h
  | succ k ih =>
    intro x I hx h
    refine b_m_read_207 d _ I J _ ?_
    rw [if_neg (show ¬ (40 : Int32) ≤ nI x from nI_ge (b := 40) (by omega) (by omega)), am_at_n (by omega) (by omega), am_at_n (by omega) (by omega), nI_1]
    refine ih (x + 1) _ (by omega) ?_
    rw [am_cpy_s (by omega)]
    exact h
theorem lo_opens_2 (d : Nat) (u : Nat) (hu : u < 4) (J : am_J) (o : Option Value × am_I × am_J) : ∀ k x (I : am_I), x + k = 40 → (some (none, am_upd (am_upd (am_cpy I 98 (x) 105 (40 * u + x) k) 101 u 0) 102 u (-1), J) : am_Out) = some o → f_m_opens_2 d (nI u) (nI x) I J = some o := by
  intro k
  induction k with
  | zero =>
    intro x I hx h
    rw [am_cpy_0] at h
    refine b_m_opens_2 d (nI u) _ I J _ ?_
    rw [if_pos (show (40 : Int32) ≤ nI x from nI_le (a := 40) (by omega) (by omega))]
    exact (am_at_n (by omega) (by omega)).trans ((am_at_n (by omega) (by omega)).trans h)
  | succ k ih =>
    intro x I hx h
    refine b_m_opens_2 d (nI u) _ I J _ ?_
    rw [if_neg (show ¬ (40 : Int32) ≤ nI x from nI_ge (b := 40) (by omega) (by omega)), am_i40, pk_mul, nI_add, am_at_n (by omega) (by omega), am_at_n (by omega) (by omega), nI_1]
    refine ih (x + 1) _ (by omega) ?_
    rw [show 40 * u + (x + 1) = 40 * u + x + 1 from rfl, am_cpy_s (by omega)]
    exact h

/-! boards by bits -/
def g_in (b : Nat) (m : Int32) : Bool := decide (((m >>> (nI b &&& 31)) &&& 1) = 1)
theorem s_guide_isIn (d b : Nat) (m : Int32) (I : am_I) (J : am_J) : f_guide_isIn_0 d (nI b) m I J = some (some (.int (am_tf (g_in b m = true))), I, J) := by
  refine b_guide_isIn_0 d (nI b) m I J _ ?_
  rw [am_b01_1, am_b01_0]
  by_cases h : ((m >>> (nI b &&& 31)) &&& 1) = 1
  · rw [if_pos h, am_tf_t (show g_in b m = true from decide_eq_true h)]
  · rw [if_neg h, am_tf_f (show ¬ g_in b m = true from fun q => h (of_decide_eq_true q))]
def g_aop (r : g_Row) (m : Int32) : Nat → Nat → Bool
  | 0, _ => true
  | k + 1, b => if g_in b m = true then (if g_open r b = true then g_aop r m k (b + 1) else false) else g_aop r m k (b + 1)
theorem s_guide_areOpen2 (d : Nat) (m : Int32) (p : g_Plan) (I : am_I) (J : am_J) (hC : g_C p I) : ∀ k b, b + k = pn p → f_guide_areOpen_2 d m (nI b) I J = some (some (.int (am_tf (g_aop (g_row I 34) m k b = true))), I, J) := by
  have hn := hC.1.1
  intro k
  induction k with
  | zero =>
    intro b hb
    refine b_guide_areOpen_2 d _ _ I J _ ?_
    rw [hC.2.1, if_pos (nI_le (by omega) (by omega)), am_b01_1]
    rfl
  | succ k ih =>
    intro b hb
    have hb6 : b < 6 := by omega
    refine b_guide_areOpen_2 d _ _ I J _ ?_
    rw [hC.2.1, if_neg (nI_ge (by omega) (by omega)), s_guide_isIn, am_bi_i, nI_1]
    unfold g_aop
    by_cases h : g_in b m = true
    · rw [if_neg (fun q => am_tf0.mp q h), s_now_isOpen d b I J hb6, am_bi_i, if_pos h]
      have e := g_row_opn (I := I) (q := 34) hb6
      by_cases ho : g_opn I 34 b = true
      · rw [if_neg (fun q => am_tf0.mp q ho), if_pos (e.trans ho), ih (b + 1) (by omega)]
      · rw [if_pos (am_tf0.mpr ho), if_neg (fun q => ho (e.symm.trans q)), am_b01_0, am_tf_f (by decide)]
    · rw [if_pos (am_tf0.mpr h), if_neg h, ih (b + 1) (by omega)]
noncomputable def g_lga (p : g_Plan) (m : Int32) : Nat → Nat → g_Row → g_Row
  | 0, _, r => r
  | k + 1, b, r => if g_in b m = true then g_lga p m k (b + 1) (g_go p r b) else g_lga p m k (b + 1) r
theorem s_guide_letGoAll2 (d : Nat) (m : Int32) (p : g_Plan) (J : am_J) : ∀ k b (I : am_I), b + k = pn p → g_C p I → ∃ I', f_guide_letGoAll_2 d m (nI b) I J = some (none, I', J) ∧ g_row I' 47 = g_lga p m k b (g_row I 47) ∧ ∀ c k, (c ≠ 47 ∨ k < 7 ∨ 10 < k) → c ≠ 50 → I' c k = I c k := by
  intro k
  induction k with
  | zero =>
    intro b I hb hC
    have hn := hC.1.1
    refine ⟨I, b_guide_letGoAll_2 d _ _ I J _ ?_, rfl, fun _ _ _ _ => rfl⟩
    rw [hC.2.1, if_pos (nI_le (by omega) (by omega))]
  | succ k ih =>
    intro b I hb hC
    have hn := hC.1.1
    have base := b_guide_letGoAll_2 d m (nI b) I J
    rw [hC.2.1, if_neg (nI_ge (by omega) (by omega)), s_guide_isIn, am_bi_i, nI_1] at base
    unfold g_lga
    by_cases h : g_in b m = true
    · obtain ⟨I1, a1, r1, k1⟩ := s_guide_trial_letGo d b p I J hC (by omega)
      rw [if_neg (fun q => am_tf0.mp q h), a1, am_bv_v] at base
      obtain ⟨I', a2, r2, k2⟩ := ih (b + 1) I1 (by omega) (hC.keep (fun c k hc => k1 c k (Or.inl (fun e => by subst e; revert hc; decide)) (fun e => by subst e; revert hc; decide)))
      exact ⟨I', base _ a2, by rw [if_pos h, r2, r1], fun c k h1 h2 => (k2 c k h1 h2).trans (k1 c k h1 h2)⟩
    · rw [if_pos (am_tf0.mpr h)] at base
      obtain ⟨I', a2, r2, k2⟩ := ih (b + 1) I (by omega) hC
      exact ⟨I', base _ a2, by rw [if_neg h, r2], k2⟩

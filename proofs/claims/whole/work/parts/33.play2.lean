/-! the play's methods over its row -/
theorem s_now_isOver (d : Nat) (p : g_Plan) (I : am_I) (J : am_J) (hC : g_C p I) (hf : I 34 10 = 0 ∨ I 34 10 = 1) : f_now_isOver_0 d I J = some (some (.int (am_tf (g_over p (g_row I 34) = true))), I, J) := by
  obtain ⟨h0, h1, h2, h3, -⟩ := hC
  have hn : pn p ≤ 6 := h0.1
  refine b_now_isOver_0 d I J _ ?_
  have e : (g_over p (g_row I 34) = true) ↔ (I 34 10 = 1 ∨ pck p ≤ I 34 7 ∨ am_cnt (g_opn I 34) 0 (pn p) = 0) := by
    unfold g_over
    rw [decide_eq_true_iff, g_row_33, g_row_30, am_cnt_congr (pn p) 0 (fun j _ hj => g_row_opn (I := I) (q := 34) (b := j) (by omega))]
  simp only [am_b01_1, am_b01_0]
  rw [h3]
  by_cases hz : I 34 10 = 0
  · rw [if_pos hz]
    by_cases hc : pck p ≤ I 34 7
    · rw [if_pos hc, am_tf_t (e.mpr (Or.inr (Or.inl hc)))]
    · rw [if_neg hc, s_now_openBoards d (pn p) I J hn h1, am_bi_i]
      by_cases h : am_cnt (g_opn I 34) 0 (pn p) = 0
      · rw [if_pos (by rw [h]; rfl), am_tf_t (e.mpr (Or.inr (Or.inr h)))]
      · have hle := am_cnt_le (g_opn I 34) (pn p) 0
        rw [if_neg (nI_ne0 (by omega) (by omega)), am_tf_f (fun q => ?_)]
        rcases e.mp q with q | q | q
        · rw [hz] at q; exact absurd q (by decide)
        · exact hc q
        · exact h q
  · rw [if_neg hz, am_tf_t (e.mpr (Or.inl (hf.resolve_left hz)))]
theorem s_now_stepsTo (d b : Nat) (p : g_Plan) (I : am_I) (J : am_J) (hC : g_C p I) (hb : b < 6) (hat : g_at (g_row I 34)) : f_now_stepsTo_0 d (nI b) I J = some (some (.int (g_dist p (g_row I 34) b)), I, J) := by
  obtain ⟨h0, h1, -⟩ := hC
  obtain ⟨s, hs, he⟩ := hat
  rw [g_row_31] at he
  refine b_now_stepsTo_0 d (nI b) I J _ ?_
  rw [am_at_n hb (by omega), he, am_at_n hs (by omega), h1]
  unfold g_dist
  rw [g_row_31, he, nI_clamp (by omega), g_row_s hb, g_row_s hs]
theorem s_now_soonest (d b : Nat) (p : g_Plan) (I : am_I) (J : am_J) (hC : g_C p I) (hb : b < 6) (hat : g_at (g_row I 34)) : f_now_soonest_0 d (nI b) I J = some (some (.int (g_soon p (g_row I 34) b)), I, J) := by
  refine b_now_soonest_0 d (nI b) I J _ ?_
  rw [s_now_stepsTo d b p I J hC hb hat, am_bi_i, am_at_n hb (by omega), hC.2.2.1]
  unfold g_soon
  rw [g_row_30, g_row_r hb]
theorem s_now_made (d b : Nat) (I : am_I) (J : am_J) (hb : b < 6) : f_now_made_0 d (nI b) I J = some (some (.int (g_row I 34 (12 + b))), I, J) := by
  refine b_now_made_0 d (nI b) I J _ ?_
  rw [am_at_n hb (by omega), am_at_n hb (by omega), g_row_m hb]
theorem s_guide_trial_isOver (d : Nat) (p : g_Plan) (I : am_I) (J : am_J) (hC : g_C p I) (hf : I 47 10 = 0 ∨ I 47 10 = 1) : f_guide_trial_isOver_0 d I J = some (some (.int (am_tf (g_over p (g_row I 47) = true))), I, J) := by
  obtain ⟨h0, h1, h2, h3, -⟩ := hC
  have hn : pn p ≤ 6 := h0.1
  refine b_guide_trial_isOver_0 d I J _ ?_
  have e : (g_over p (g_row I 47) = true) ↔ (I 47 10 = 1 ∨ pck p ≤ I 47 7 ∨ am_cnt (g_opn I 47) 0 (pn p) = 0) := by
    unfold g_over
    rw [decide_eq_true_iff, g_row_33, g_row_30, am_cnt_congr (pn p) 0 (fun j _ hj => g_row_opn (I := I) (q := 47) (b := j) (by omega))]
  simp only [am_b01_1, am_b01_0]
  rw [h3]
  by_cases hz : I 47 10 = 0
  · rw [if_pos hz]
    by_cases hc : pck p ≤ I 47 7
    · rw [if_pos hc, am_tf_t (e.mpr (Or.inr (Or.inl hc)))]
    · rw [if_neg hc, s_guide_trial_openBoards d (pn p) I J hn h1, am_bi_i]
      by_cases h : am_cnt (g_opn I 47) 0 (pn p) = 0
      · rw [if_pos (by rw [h]; rfl), am_tf_t (e.mpr (Or.inr (Or.inr h)))]
      · have hle := am_cnt_le (g_opn I 47) (pn p) 0
        rw [if_neg (nI_ne0 (by omega) (by omega)), am_tf_f (fun q => ?_)]
        rcases e.mp q with q | q | q
        · rw [hz] at q; exact absurd q (by decide)
        · exact hc q
        · exact h q
  · rw [if_neg hz, am_tf_t (e.mpr (Or.inl (hf.resolve_left hz)))]
theorem s_guide_trial_stepsTo (d b : Nat) (p : g_Plan) (I : am_I) (J : am_J) (hC : g_C p I) (hb : b < 6) (hat : g_at (g_row I 47)) : f_guide_trial_stepsTo_0 d (nI b) I J = some (some (.int (g_dist p (g_row I 47) b)), I, J) := by
  obtain ⟨h0, h1, -⟩ := hC
  obtain ⟨s, hs, he⟩ := hat
  rw [g_row_31] at he
  refine b_guide_trial_stepsTo_0 d (nI b) I J _ ?_
  rw [am_at_n hb (by omega), he, am_at_n hs (by omega), h1]
  unfold g_dist
  rw [g_row_31, he, nI_clamp (by omega), g_row_s hb, g_row_s hs]
theorem s_guide_trial_soonest (d b : Nat) (p : g_Plan) (I : am_I) (J : am_J) (hC : g_C p I) (hb : b < 6) (hat : g_at (g_row I 47)) : f_guide_trial_soonest_0 d (nI b) I J = some (some (.int (g_soon p (g_row I 47) b)), I, J) := by
  refine b_guide_trial_soonest_0 d (nI b) I J _ ?_
  rw [s_guide_trial_stepsTo d b p I J hC hb hat, am_bi_i, am_at_n hb (by omega), hC.2.2.1]
  unfold g_soon
  rw [g_row_30, g_row_r hb]
theorem s_guide_trial_made (d b : Nat) (I : am_I) (J : am_J) (hb : b < 6) : f_guide_trial_made_0 d (nI b) I J = some (some (.int (g_row I 47 (12 + b))), I, J) := by
  refine b_guide_trial_made_0 d (nI b) I J _ ?_
  rw [am_at_n hb (by omega), am_at_n hb (by omega), g_row_m hb]
theorem s_witness_trial_isOver (d : Nat) (p : g_Plan) (I : am_I) (J : am_J) (hC : g_C p I) (hf : I 57 10 = 0 ∨ I 57 10 = 1) : f_witness_trial_isOver_0 d I J = some (some (.int (am_tf (g_over p (g_row I 57) = true))), I, J) := by
  obtain ⟨h0, h1, h2, h3, -⟩ := hC
  have hn : pn p ≤ 6 := h0.1
  refine b_witness_trial_isOver_0 d I J _ ?_
  have e : (g_over p (g_row I 57) = true) ↔ (I 57 10 = 1 ∨ pck p ≤ I 57 7 ∨ am_cnt (g_opn I 57) 0 (pn p) = 0) := by
    unfold g_over
    rw [decide_eq_true_iff, g_row_33, g_row_30, am_cnt_congr (pn p) 0 (fun j _ hj => g_row_opn (I := I) (q := 57) (b := j) (by omega))]
  simp only [am_b01_1, am_b01_0]
  rw [h3]
  by_cases hz : I 57 10 = 0
  · rw [if_pos hz]
    by_cases hc : pck p ≤ I 57 7
    · rw [if_pos hc, am_tf_t (e.mpr (Or.inr (Or.inl hc)))]
    · rw [if_neg hc, s_witness_trial_openBoards d (pn p) I J hn h1, am_bi_i]
      by_cases h : am_cnt (g_opn I 57) 0 (pn p) = 0
      · rw [if_pos (by rw [h]; rfl), am_tf_t (e.mpr (Or.inr (Or.inr h)))]
      · have hle := am_cnt_le (g_opn I 57) (pn p) 0
        rw [if_neg (nI_ne0 (by omega) (by omega)), am_tf_f (fun q => ?_)]
        rcases e.mp q with q | q | q
        · rw [hz] at q; exact absurd q (by decide)
        · exact hc q
        · exact h q
  · rw [if_neg hz, am_tf_t (e.mpr (Or.inl (hf.resolve_left hz)))]
theorem s_witness_trial_stepsTo (d b : Nat) (p : g_Plan) (I : am_I) (J : am_J) (hC : g_C p I) (hb : b < 6) (hat : g_at (g_row I 57)) : f_witness_trial_stepsTo_0 d (nI b) I J = some (some (.int (g_dist p (g_row I 57) b)), I, J) := by
  obtain ⟨h0, h1, -⟩ := hC
  obtain ⟨s, hs, he⟩ := hat
  rw [g_row_31] at he
  refine b_witness_trial_stepsTo_0 d (nI b) I J _ ?_
  rw [am_at_n hb (by omega), he, am_at_n hs (by omega), h1]
  unfold g_dist
  rw [g_row_31, he, nI_clamp (by omega), g_row_s hb, g_row_s hs]
theorem s_witness_trial_soonest (d b : Nat) (p : g_Plan) (I : am_I) (J : am_J) (hC : g_C p I) (hb : b < 6) (hat : g_at (g_row I 57)) : f_witness_trial_soonest_0 d (nI b) I J = some (some (.int (g_soon p (g_row I 57) b)), I, J) := by
  refine b_witness_trial_soonest_0 d (nI b) I J _ ?_
  rw [s_witness_trial_stepsTo d b p I J hC hb hat, am_bi_i, am_at_n hb (by omega), hC.2.2.1]
  unfold g_soon
  rw [g_row_30, g_row_r hb]
theorem s_witness_trial_made (d b : Nat) (I : am_I) (J : am_J) (hb : b < 6) : f_witness_trial_made_0 d (nI b) I J = some (some (.int (g_row I 57 (12 + b))), I, J) := by
  refine b_witness_trial_made_0 d (nI b) I J _ ?_
  rw [am_at_n hb (by omega), am_at_n hb (by omega), g_row_m hb]
theorem s_now_ask (d a b : Nat) (p : g_Plan) (I : am_I) (J : am_J) (x think : Int32) (hC : g_C p I) (ha : a < 3) (hb : b < pn p) : ∃ I', f_now_ask_0 d (nI a) (nI b) x think I J = some (some (.int (g_ask p a (g_row I 34) b think x)), I', J) ∧ ∀ c k, c ≠ 19 → c ≠ 20 → I' c k = I c k := by
  have hb6 : b < 6 := Nat.lt_of_lt_of_le hb hC.1.1
  obtain ⟨I1, e1⟩ : ∃ I1, I1 = am_upd (am_upd (am_upd (am_upd (am_upd (am_upd I 19 0 think) 19 1 (g_row I 34 (12 + b))) 19 2 x) 19 3 (x - I 36 b)) 19 4 (I 35 b)) 19 5 (I 34 9) := ⟨_, rfl⟩
  have hk : ∀ c k, c ≠ 19 → I1 c k = I c k := fun c k hc => by rw [e1, am_uc hc, am_uc hc, am_uc hc, am_uc hc, am_uc hc, am_uc hc]
  obtain ⟨I2, h1, h2⟩ := hC.2.2.2.2.2.2.2.2.2 I1 (fun c k hc => hk c k (fun e => by subst e; exact absurd hc (by decide))) d J a b ha hb
  have hf : plw p a b (I1 19) = g_ask p a (g_row I 34) b think x := by
    refine hC.1.2.2.2.2.1 a b _ _ (fun k hk6 => ?_)
    have r1 := g_row_r (I := I) (q := 34) hb6
    have r2 := g_row_l (I := I) (q := 34) hb6
    rcases (show k = 0 ∨ k = 1 ∨ k = 2 ∨ k = 3 ∨ k = 4 ∨ k = 5 by omega) with rfl | rfl | rfl | rfl | rfl | rfl <;> simp [e1, am_upd, g_fact, r1, r2, g_row_32]
  rw [hf] at h1
  refine ⟨I2, b_now_ask_0 d (nI a) (nI b) x think I J _ ?_, fun c k h19 h20 => by rw [h2 c k h20, hk c k h19]⟩
  have hs : f_plan_code_setFacts_0 d think (g_row I 34 (12 + b)) x (x - I 36 b) (I 35 b) (I 34 9) I J = some (none, I1, J) := by
    refine b_plan_code_setFacts_0 d _ _ _ _ _ _ I J _ ?_
    rw [show (0 : Int32) = nI 0 from rfl, show (1 : Int32) = nI 1 from rfl, show (2 : Int32) = nI 2 from rfl, show (3 : Int32) = nI 3 from rfl, show (4 : Int32) = nI 4 from rfl, show (5 : Int32) = nI 5 from rfl]
    rw [am_at_n (by omega) (by omega), am_at_n (by omega) (by omega), am_at_n (by omega) (by omega), am_at_n (by omega) (by omega), am_at_n (by omega) (by omega), am_at_n (by omega) (by omega), e1]
  rw [am_at_n hb6 (by omega), s_now_made d b I J hb6, am_bi_i, am_at_n hb6 (by omega), hs, am_bv_v, h1, am_bi_i]
theorem s_guide_trial_ask (d a b : Nat) (p : g_Plan) (I : am_I) (J : am_J) (x think : Int32) (hC : g_C p I) (ha : a < 3) (hb : b < pn p) : ∃ I', f_guide_trial_ask_0 d (nI a) (nI b) x think I J = some (some (.int (g_ask p a (g_row I 47) b think x)), I', J) ∧ ∀ c k, c ≠ 19 → c ≠ 20 → I' c k = I c k := by
  have hb6 : b < 6 := Nat.lt_of_lt_of_le hb hC.1.1
  obtain ⟨I1, e1⟩ : ∃ I1, I1 = am_upd (am_upd (am_upd (am_upd (am_upd (am_upd I 19 0 think) 19 1 (g_row I 47 (12 + b))) 19 2 x) 19 3 (x - I 49 b)) 19 4 (I 48 b)) 19 5 (I 47 9) := ⟨_, rfl⟩
  have hk : ∀ c k, c ≠ 19 → I1 c k = I c k := fun c k hc => by rw [e1, am_uc hc, am_uc hc, am_uc hc, am_uc hc, am_uc hc, am_uc hc]
  obtain ⟨I2, h1, h2⟩ := hC.2.2.2.2.2.2.2.2.2 I1 (fun c k hc => hk c k (fun e => by subst e; exact absurd hc (by decide))) d J a b ha hb
  have hf : plw p a b (I1 19) = g_ask p a (g_row I 47) b think x := by
    refine hC.1.2.2.2.2.1 a b _ _ (fun k hk6 => ?_)
    have r1 := g_row_r (I := I) (q := 47) hb6
    have r2 := g_row_l (I := I) (q := 47) hb6
    rcases (show k = 0 ∨ k = 1 ∨ k = 2 ∨ k = 3 ∨ k = 4 ∨ k = 5 by omega) with rfl | rfl | rfl | rfl | rfl | rfl <;> simp [e1, am_upd, g_fact, r1, r2, g_row_32]
  rw [hf] at h1
  refine ⟨I2, b_guide_trial_ask_0 d (nI a) (nI b) x think I J _ ?_, fun c k h19 h20 => by rw [h2 c k h20, hk c k h19]⟩
  have hs : f_plan_code_setFacts_0 d think (g_row I 47 (12 + b)) x (x - I 49 b) (I 48 b) (I 47 9) I J = some (none, I1, J) := by
    refine b_plan_code_setFacts_0 d _ _ _ _ _ _ I J _ ?_
    rw [show (0 : Int32) = nI 0 from rfl, show (1 : Int32) = nI 1 from rfl, show (2 : Int32) = nI 2 from rfl, show (3 : Int32) = nI 3 from rfl, show (4 : Int32) = nI 4 from rfl, show (5 : Int32) = nI 5 from rfl]
    rw [am_at_n (by omega) (by omega), am_at_n (by omega) (by omega), am_at_n (by omega) (by omega), am_at_n (by omega) (by omega), am_at_n (by omega) (by omega), am_at_n (by omega) (by omega), e1]
  rw [am_at_n hb6 (by omega), s_guide_trial_made d b I J hb6, am_bi_i, am_at_n hb6 (by omega), hs, am_bv_v, h1, am_bi_i]
theorem s_witness_trial_ask (d a b : Nat) (p : g_Plan) (I : am_I) (J : am_J) (x think : Int32) (hC : g_C p I) (ha : a < 3) (hb : b < pn p) : ∃ I', f_witness_trial_ask_0 d (nI a) (nI b) x think I J = some (some (.int (g_ask p a (g_row I 57) b think x)), I', J) ∧ ∀ c k, c ≠ 19 → c ≠ 20 → I' c k = I c k := by
  have hb6 : b < 6 := Nat.lt_of_lt_of_le hb hC.1.1
  obtain ⟨I1, e1⟩ : ∃ I1, I1 = am_upd (am_upd (am_upd (am_upd (am_upd (am_upd I 19 0 think) 19 1 (g_row I 57 (12 + b))) 19 2 x) 19 3 (x - I 59 b)) 19 4 (I 58 b)) 19 5 (I 57 9) := ⟨_, rfl⟩
  have hk : ∀ c k, c ≠ 19 → I1 c k = I c k := fun c k hc => by rw [e1, am_uc hc, am_uc hc, am_uc hc, am_uc hc, am_uc hc, am_uc hc]
  obtain ⟨I2, h1, h2⟩ := hC.2.2.2.2.2.2.2.2.2 I1 (fun c k hc => hk c k (fun e => by subst e; exact absurd hc (by decide))) d J a b ha hb
  have hf : plw p a b (I1 19) = g_ask p a (g_row I 57) b think x := by
    refine hC.1.2.2.2.2.1 a b _ _ (fun k hk6 => ?_)
    have r1 := g_row_r (I := I) (q := 57) hb6
    have r2 := g_row_l (I := I) (q := 57) hb6
    rcases (show k = 0 ∨ k = 1 ∨ k = 2 ∨ k = 3 ∨ k = 4 ∨ k = 5 by omega) with rfl | rfl | rfl | rfl | rfl | rfl <;> simp [e1, am_upd, g_fact, r1, r2, g_row_32]
  rw [hf] at h1
  refine ⟨I2, b_witness_trial_ask_0 d (nI a) (nI b) x think I J _ ?_, fun c k h19 h20 => by rw [h2 c k h20, hk c k h19]⟩
  have hs : f_plan_code_setFacts_0 d think (g_row I 57 (12 + b)) x (x - I 59 b) (I 58 b) (I 57 9) I J = some (none, I1, J) := by
    refine b_plan_code_setFacts_0 d _ _ _ _ _ _ I J _ ?_
    rw [show (0 : Int32) = nI 0 from rfl, show (1 : Int32) = nI 1 from rfl, show (2 : Int32) = nI 2 from rfl, show (3 : Int32) = nI 3 from rfl, show (4 : Int32) = nI 4 from rfl, show (5 : Int32) = nI 5 from rfl]
    rw [am_at_n (by omega) (by omega), am_at_n (by omega) (by omega), am_at_n (by omega) (by omega), am_at_n (by omega) (by omega), am_at_n (by omega) (by omega), am_at_n (by omega) (by omega), e1]
  rw [am_at_n hb6 (by omega), s_witness_trial_made d b I J hb6, am_bi_i, am_at_n hb6 (by omega), hs, am_bv_v, h1, am_bi_i]

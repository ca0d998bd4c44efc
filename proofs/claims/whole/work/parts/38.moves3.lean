/-! what a move would bring; offers; boards let go; plays set out and copied -/
theorem s_guide_trial_gainOf (d b : Nat) (p : g_Plan) (I : am_I) (J : am_J) (think : Int32) (hC : g_C p I) (hb : b < pn p) (hat : g_at (g_row I 47)) : ∃ I', f_guide_trial_gainOf_0 d (nI b) think I J = some (some (.int (if g_soon p (g_row I 47) b + think ≤ pck p then g_ask p 0 (g_row I 47) b think (g_soon p (g_row I 47) b) else -(pfl p))), I', J) ∧ ∀ c k, c ≠ 19 → c ≠ 20 → I' c k = I c k := by
  have hb6 : b < 6 := Nat.lt_of_lt_of_le hb hC.1.1
  by_cases hend : g_soon p (g_row I 47) b + think ≤ pck p
  · obtain ⟨I1, a1, k1⟩ := s_guide_trial_ask d 0 b p I J (g_soon p (g_row I 47) b) think hC (by omega) hb
    refine ⟨I1, b_guide_trial_gainOf_0 d (nI b) think I J _ ?_, k1⟩
    rw [s_guide_trial_soonest d b p I J hC hb6 hat, am_bi_i, hC.2.2.2.1, if_pos hend, if_pos hend, if_pos rfl, show (0 : Int32) = nI 0 from rfl, a1, am_bi_i]
  · refine ⟨I, b_guide_trial_gainOf_0 d (nI b) think I J _ ?_, fun _ _ _ _ => rfl⟩
    rw [s_guide_trial_soonest d b p I J hC hb6 hat, am_bi_i, hC.2.2.2.1, if_neg hend, if_neg hend, if_neg (by decide), hC.2.2.2.2.1]
theorem s_now_makeOffer (d b : Nat) (p : g_Plan) (I : am_I) (J : am_J) (hC : g_C p I) (hb : b < pn p) (hat : g_at (g_row I 34)) : ∃ I', f_now_makeOffer_0 d (nI b) I J = some (some (.int (g_of p (g_row I 34) b).1), I', J) ∧ g_row I' 34 = (g_of p (g_row I 34) b).2 ∧ ∀ c k, (c ≠ 34 ∨ k < 7 ∨ 10 < k) → c ≠ 37 → c ≠ 19 → c ≠ 20 → I' c k = I c k := by
  have hb6 : b < 6 := Nat.lt_of_lt_of_le hb hC.1.1
  unfold g_of
  by_cases hend : g_soon p (g_row I 34) b ≤ pck p
  · rw [if_pos hend]
    obtain ⟨I1, a1, k1⟩ := s_now_ask d 2 b p I J (g_soon p (g_row I 34) b) 0 hC (by omega) hb
    have hrow1 : g_row I1 34 = g_row I 34 := g_rk_now (fun c k hc => k1 c k (fun e => by subst e; revert hc; decide) (fun e => by subst e; revert hc; decide))
    have hck1 : I1 12 8 = pck p := (k1 12 8 (by decide) (by decide)).trans hC.2.2.2.1
    by_cases hd : g_ask p 2 (g_row I 34) b 0 (g_soon p (g_row I 34) b) ≤ 0
    · rw [if_pos hd]
      obtain ⟨I', e1⟩ : ∃ I', I' = am_upd (am_upd I1 34 8 (nI b)) 34 7 (am_mn (g_soon p (g_row I 34) b + 1) (pck p)) := ⟨_, rfl⟩
      refine ⟨I', b_now_makeOffer_0 d (nI b) I J _ ?_, ?_, fun c k hc n3 n4 n5 => ?_⟩
      · rw [s_now_soonest d b p I J hC hb6 hat, am_bi_i, hC.2.2.2.1, if_pos hend, show (2 : Int32) = nI 2 from rfl, show f_now_ask_0 d (nI 2) (nI b) (g_soon p (g_row I 34) b) 0 I J = _ from a1, am_bi_i, if_pos hd, am_uc (show 12 ≠ 34 by decide), hck1, e1]
      · rw [e1, g_r7_now, g_r8_now, hrow1]
      · rw [e1]
        by_cases e : c = 34
        · subst e
          have hc : k < 7 ∨ 10 < k := hc.resolve_left (fun q => q rfl)
          rw [am_uk (by omega), am_uk (by omega), k1 _ _ n4 n5]
        · rw [am_uc e, am_uc e, k1 _ _ n4 n5]
    · rw [if_neg hd]
      obtain ⟨I', e1⟩ : ∃ I', I' = am_upd (am_upd (am_upd (am_upd I1 34 8 (nI b)) 34 7 (g_soon p (g_row I 34) b)) 34 9 (I1 34 9 + g_ask p 2 (g_row I 34) b 0 (g_soon p (g_row I 34) b))) 37 b 1 := ⟨_, rfl⟩
      refine ⟨I', b_now_makeOffer_0 d (nI b) I J _ ?_, ?_, fun c k hc n3 n4 n5 => ?_⟩
      · rw [s_now_soonest d b p I J hC hb6 hat, am_bi_i, hC.2.2.2.1, if_pos hend, show (2 : Int32) = nI 2 from rfl, show f_now_ask_0 d (nI 2) (nI b) (g_soon p (g_row I 34) b) 0 I J = _ from a1, am_bi_i, if_neg hd, am_at_n hb6 (by omega), am_uk (show 9 ≠ 7 by decide), am_uk (show 9 ≠ 8 by decide), e1]
      · rw [e1, g_re_now _ _ _ hb6, g_r9_now, g_r7_now, g_r8_now, hrow1, k1 _ _ (by decide) (by decide), g_row_32]
      · rw [e1]
        by_cases e : c = 34
        · subst e
          have hc : k < 7 ∨ 10 < k := hc.resolve_left (fun q => q rfl)
          rw [am_uc n3, am_uk (by omega), am_uk (by omega), am_uk (by omega), k1 _ _ n4 n5]
        · rw [am_uc n3, am_uc e, am_uc e, am_uc e, k1 _ _ n4 n5]
  · rw [if_neg hend]
    obtain ⟨I', a1, a2, a3⟩ := s_now_dropFlag d b p I J hC
    refine ⟨I', b_now_makeOffer_0 d (nI b) I J _ ?_, a2, fun c k hc _ _ _ => a3 c k hc⟩
    rw [s_now_soonest d b p I J hC hb6 hat, am_bi_i, hC.2.2.2.1, if_neg hend, a1, am_bv_v]
theorem s_now_letGo (d b : Nat) (p : g_Plan) (I : am_I) (J : am_J) (hC : g_C p I) (hb : b < pn p) : ∃ I', f_now_letGo_0 d (nI b) I J = some (none, I', J) ∧ g_row I' 34 = g_go p (g_row I 34) b ∧ ∀ c k, (c ≠ 34 ∨ k < 7 ∨ 10 < k) → c ≠ 37 → I' c k = I c k := by
  have hb6 : b < 6 := Nat.lt_of_lt_of_le hb hC.1.1
  obtain ⟨I', e1⟩ : ∃ I', I' = am_upd (am_upd I 34 9 (I 34 9 - pls p b)) 37 b 2 := ⟨_, rfl⟩
  refine ⟨I', b_now_letGo_0 d (nI b) I J _ ?_, ?_, fun c k hc n3 => ?_⟩
  · rw [am_at_n hb6 (by omega), am_at_n hb6 (by omega), hC.2.2.2.2.2.2.1 b hb, e1]
  · rw [e1, g_re_now _ _ _ hb6, g_r9_now]
    rfl
  · rw [e1]
    by_cases e : c = 34
    · subst e
      have hc : k < 7 ∨ 10 < k := hc.resolve_left (fun q => q rfl)
      rw [am_uc n3, am_uk (by omega)]
    · rw [am_uc n3, am_uc e]
theorem s_guide_trial_makeOffer (d b : Nat) (p : g_Plan) (I : am_I) (J : am_J) (hC : g_C p I) (hb : b < pn p) (hat : g_at (g_row I 47)) : ∃ I', f_guide_trial_makeOffer_0 d (nI b) I J = some (some (.int (g_of p (g_row I 47) b).1), I', J) ∧ g_row I' 47 = (g_of p (g_row I 47) b).2 ∧ ∀ c k, (c ≠ 47 ∨ k < 7 ∨ 10 < k) → c ≠ 50 → c ≠ 19 → c ≠ 20 → I' c k = I c k := by
  have hb6 : b < 6 := Nat.lt_of_lt_of_le hb hC.1.1
  unfold g_of
  by_cases hend : g_soon p (g_row I 47) b ≤ pck p
  · rw [if_pos hend]
    obtain ⟨I1, a1, k1⟩ := s_guide_trial_ask d 2 b p I J (g_soon p (g_row I 47) b) 0 hC (by omega) hb
    have hrow1 : g_row I1 47 = g_row I 47 := g_rk_guide_trial (fun c k hc => k1 c k (fun e => by subst e; revert hc; decide) (fun e => by subst e; revert hc; decide))
    have hck1 : I1 12 8 = pck p := (k1 12 8 (by decide) (by decide)).trans hC.2.2.2.1
    by_cases hd : g_ask p 2 (g_row I 47) b 0 (g_soon p (g_row I 47) b) ≤ 0
    · rw [if_pos hd]
      obtain ⟨I', e1⟩ : ∃ I', I' = am_upd (am_upd I1 47 8 (nI b)) 47 7 (am_mn (g_soon p (g_row I 47) b + 1) (pck p)) := ⟨_, rfl⟩
      refine ⟨I', b_guide_trial_makeOffer_0 d (nI b) I J _ ?_, ?_, fun c k hc n3 n4 n5 => ?_⟩
      · rw [s_guide_trial_soonest d b p I J hC hb6 hat, am_bi_i, hC.2.2.2.1, if_pos hend, show (2 : Int32) = nI 2 from rfl, show f_guide_trial_ask_0 d (nI 2) (nI b) (g_soon p (g_row I 47) b) 0 I J = _ from a1, am_bi_i, if_pos hd, am_uc (show 12 ≠ 47 by decide), hck1, e1]
      · rw [e1, g_r7_guide_trial, g_r8_guide_trial, hrow1]
      · rw [e1]
        by_cases e : c = 47
        · subst e
          have hc : k < 7 ∨ 10 < k := hc.resolve_left (fun q => q rfl)
          rw [am_uk (by omega), am_uk (by omega), k1 _ _ n4 n5]
        · rw [am_uc e, am_uc e, k1 _ _ n4 n5]
    · rw [if_neg hd]
      obtain ⟨I', e1⟩ : ∃ I', I' = am_upd (am_upd (am_upd (am_upd I1 47 8 (nI b)) 47 7 (g_soon p (g_row I 47) b)) 47 9 (I1 47 9 + g_ask p 2 (g_row I 47) b 0 (g_soon p (g_row I 47) b))) 50 b 1 := ⟨_, rfl⟩
      refine ⟨I', b_guide_trial_makeOffer_0 d (nI b) I J _ ?_, ?_, fun c k hc n3 n4 n5 => ?_⟩
      · rw [s_guide_trial_soonest d b p I J hC hb6 hat, am_bi_i, hC.2.2.2.1, if_pos hend, show (2 : Int32) = nI 2 from rfl, show f_guide_trial_ask_0 d (nI 2) (nI b) (g_soon p (g_row I 47) b) 0 I J = _ from a1, am_bi_i, if_neg hd, am_at_n hb6 (by omega), am_uk (show 9 ≠ 7 by decide), am_uk (show 9 ≠ 8 by decide), e1]
      · rw [e1, g_re_guide_trial _ _ _ hb6, g_r9_guide_trial, g_r7_guide_trial, g_r8_guide_trial, hrow1, k1 _ _ (by decide) (by decide), g_row_32]
      · rw [e1]
        by_cases e : c = 47
        · subst e
          have hc : k < 7 ∨ 10 < k := hc.resolve_left (fun q => q rfl)
          rw [am_uc n3, am_uk (by omega), am_uk (by omega), am_uk (by omega), k1 _ _ n4 n5]
        · rw [am_uc n3, am_uc e, am_uc e, am_uc e, k1 _ _ n4 n5]
  · rw [if_neg hend]
    obtain ⟨I', a1, a2, a3⟩ := s_guide_trial_dropFlag d b p I J hC
    refine ⟨I', b_guide_trial_makeOffer_0 d (nI b) I J _ ?_, a2, fun c k hc _ _ _ => a3 c k hc⟩
    rw [s_guide_trial_soonest d b p I J hC hb6 hat, am_bi_i, hC.2.2.2.1, if_neg hend, a1, am_bv_v]
theorem s_guide_trial_letGo (d b : Nat) (p : g_Plan) (I : am_I) (J : am_J) (hC : g_C p I) (hb : b < pn p) : ∃ I', f_guide_trial_letGo_0 d (nI b) I J = some (none, I', J) ∧ g_row I' 47 = g_go p (g_row I 47) b ∧ ∀ c k, (c ≠ 47 ∨ k < 7 ∨ 10 < k) → c ≠ 50 → I' c k = I c k := by
  have hb6 : b < 6 := Nat.lt_of_lt_of_le hb hC.1.1
  obtain ⟨I', e1⟩ : ∃ I', I' = am_upd (am_upd I 47 9 (I 47 9 - pls p b)) 50 b 2 := ⟨_, rfl⟩
  refine ⟨I', b_guide_trial_letGo_0 d (nI b) I J _ ?_, ?_, fun c k hc n3 => ?_⟩
  · rw [am_at_n hb6 (by omega), am_at_n hb6 (by omega), hC.2.2.2.2.2.2.1 b hb, e1]
  · rw [e1, g_re_guide_trial _ _ _ hb6, g_r9_guide_trial]
    rfl
  · rw [e1]
    by_cases e : c = 47
    · subst e
      have hc : k < 7 ∨ 10 < k := hc.resolve_left (fun q => q rfl)
      rw [am_uc n3, am_uk (by omega)]
    · rw [am_uc n3, am_uc e]

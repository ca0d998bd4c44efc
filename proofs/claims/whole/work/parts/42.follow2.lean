/-! a rule followed to its end -/
theorem g_mv_31 (p : g_Plan) (lt : g_Row) (ha : Int32) (r : g_Row) (b : Nat) (beg think : Int32) (hb : b < 6) : (g_mv p lt ha r b beg think).2 31 = nI b := by
  unfold g_mv
  split
  · show g_set _ (6 + b) _ 31 = nI b
    rw [g_set_n _ _ (by omega), g_set_e]
  · show g_fall p r b 31 = nI b
    unfold g_fall
    rw [g_set_n _ _ (by decide), g_set_n _ _ (by decide), g_set_e]
theorem g_mv_33 (p : g_Plan) (lt : g_Row) (ha : Int32) (r : g_Row) (b : Nat) (beg think : Int32) (hb : b < 6) (h : r 33 = 0 ∨ r 33 = 1) : (g_mv p lt ha r b beg think).2 33 = 0 ∨ (g_mv p lt ha r b beg think).2 33 = 1 := by
  unfold g_mv
  split
  · show g_set _ (6 + b) _ 33 = 0 ∨ g_set _ (6 + b) _ 33 = 1
    rw [g_set_n _ _ (by omega), g_set_n _ _ (by decide), g_set_n _ _ (by decide), g_set_n _ _ (by omega), g_set_n _ _ (by omega), g_set_n _ _ (by decide)]
    exact h
  · right
    show g_fall p r b 33 = 1
    unfold g_fall
    rw [g_set_e]
noncomputable def g_flw (p : g_Plan) (lt : g_Row) (ha : Int32) (rule : Nat) (think : Int32) : Nat → g_Row → g_Row
  | 0, r => r
  | k + 1, r => if g_over p r = true then r else if g_choose p rule think r = -1 then r else g_flw p lt ha rule think k (g_mv p lt ha r (g_choose p rule think r).toNatClampNeg (g_soon p r (g_choose p rule think r).toNatClampNeg) think).2
theorem s_guide_follow2 (d rule : Nat) (p : g_Plan) (J : am_J) (think : Int32) (lt : g_Row) (ha : Int32) (hr : rule < 4) (hlt : ∀ b, b < pn p → ha = nI b → lt b = 0) : ∀ k x (I : am_I), x + k = 55 → g_C p I → g_at (g_row I 47) → (I 47 10 = 0 ∨ I 47 10 = 1) → I 52 = lt → I 47 6 = ha → ∃ I', f_guide_follow_2 d (nI rule) think (nI x) I J = some (none, I', J) ∧ g_row I' 47 = g_flw p lt ha rule think k (g_row I 47) ∧ ∀ c k, (c ≠ 47 ∨ k < 7 ∨ 10 < k) → c ≠ 48 → c ≠ 49 → c ≠ 19 → c ≠ 20 → I' c k = I c k := by
  intro k
  induction k with
  | zero =>
    intro x I hx hC hat hf hl hh
    obtain rfl : x = 55 := by omega
    refine ⟨I, b_guide_follow_2 d _ _ _ I J _ ?_, rfl, fun _ _ _ _ _ _ _ => rfl⟩
    rw [if_pos (show (54 : Int32) < nI 55 by decide)]
  | succ k ih =>
    intro x I hx hC hat hf hl hh
    have base := b_guide_follow_2 d (nI rule) think (nI x) I J
    rw [if_neg (show ¬ (54 : Int32) < nI x from Int32.not_lt.mpr (show nI x ≤ nI 54 from nI_le (by omega) (by omega))), s_guide_trial_isOver d p I J hC hf, am_bi_i, nI_1] at base
    unfold g_flw
    by_cases ho : g_over p (g_row I 47) = true
    · rw [if_neg (fun q => am_tf0.mp q ho)] at base
      refine ⟨I, base _ rfl, ?_, fun _ _ _ _ _ _ _ => rfl⟩
      rw [if_pos ho]
    · rw [if_pos (am_tf0.mpr ho)] at base
      obtain ⟨I1, a1, k1⟩ := s_guide_choose d rule p I J think hr hC hat
      rw [a1, am_bi_i] at base
      have hC1 : g_C p I1 := hC.keep (fun c k hc => k1 c k (fun e => by subst e; revert hc; decide) (fun e => by subst e; revert hc; decide))
      have hrow1 : g_row I1 47 = g_row I 47 := g_rk_guide_trial (fun c k hc => k1 c k (fun e => by subst e; revert hc; decide) (fun e => by subst e; revert hc; decide))
      by_cases hm : g_choose p rule think (g_row I 47) = -1
      · rw [if_pos hm] at base
        refine ⟨I1, base _ rfl, ?_, fun c k _ _ _ n1 n2 => k1 c k n1 n2⟩
        rw [if_neg ho, if_pos hm, hrow1]
      · obtain ⟨b, hb, hbe⟩ := (g_chs_r p rule think (g_row I 47) (pn p) 0 (-1) 0 (by omega) (Or.inl rfl)).resolve_left hm
        have hbe : g_choose p rule think (g_row I 47) = nI b := hbe
        have hb6 : b < 6 := Nat.lt_of_lt_of_le hb hC.1.1
        rw [if_neg hm, hbe, s_guide_trial_soonest d b p I1 J hC1 hb6 (by rw [hrow1]; exact hat), am_bi_i] at base
        have l1 : I1 52 = lt := by
          funext j
          rw [k1 52 j (by decide) (by decide), hl]
        have h1 : I1 47 6 = ha := (k1 47 6 (by decide) (by decide)).trans hh
        obtain ⟨I2, a2, r2, k2⟩ := s_guide_trial_makeMove d b p I1 J (g_soon p (g_row I1 47) b) think hC1 hb (fun q => by rw [l1]; exact hlt b hb (h1.symm.trans q))
        rw [a2, am_bi_i] at base
        rw [l1, h1, hrow1] at r2
        have hC2 : g_C p I2 := hC1.keep (fun c k hc => k2 c k (Or.inl (fun e => by subst e; revert hc; decide)) (fun e => by subst e; revert hc; decide) (fun e => by subst e; revert hc; decide) (fun e => by subst e; revert hc; decide) (fun e => by subst e; revert hc; decide))
        have f2 : I2 47 10 = 0 ∨ I2 47 10 = 1 := by
          have q := g_mv_33 p lt ha (g_row I 47) b (g_soon p (g_row I 47) b) think hb6 hf
          rw [← r2] at q
          exact q
        obtain ⟨I3, a3, r3, k3⟩ := ih (x + 1) I2 (by omega) hC2 ⟨b, hb6, by rw [r2]; exact g_mv_31 p lt ha _ b _ think hb6⟩ f2 (by
          funext j
          rw [k2 52 j (Or.inl (by decide)) (by decide) (by decide) (by decide) (by decide), l1]) ((k2 47 6 (Or.inr (Or.inl (by decide))) (by decide) (by decide) (by decide) (by decide)).trans h1)
        refine ⟨I3, base _ a3, ?_, fun c k hc n1 n2 n3 n4 => by rw [k3 c k hc n1 n2 n3 n4, k2 c k hc n1 n2 n3 n4, k1 c k n3 n4]⟩
        rw [if_neg ho, if_neg hm, hbe, nI_clamp (by omega), r3, r2]
noncomputable def g_follow (p : g_Plan) (lt : g_Row) (ha : Int32) (rule : Nat) (think : Int32) (r : g_Row) : g_Row := g_flw p lt ha rule think 55 r
theorem s_guide_follow (d rule : Nat) (p : g_Plan) (I : am_I) (J : am_J) (think : Int32) (lt : g_Row) (ha : Int32) (hr : rule < 4) (hlt : ∀ b, b < pn p → ha = nI b → lt b = 0) (hC : g_C p I) (hat : g_at (g_row I 47)) (hf : I 47 10 = 0 ∨ I 47 10 = 1) (hl : I 52 = lt) (hh : I 47 6 = ha) : ∃ I', f_guide_follow_0 d (nI rule) think I J = some (none, I', J) ∧ g_row I' 47 = g_follow p lt ha rule think (g_row I 47) ∧ ∀ c k, (c ≠ 47 ∨ k < 7 ∨ 10 < k) → c ≠ 48 → c ≠ 49 → c ≠ 19 → c ≠ 20 → I' c k = I c k := by
  obtain ⟨I', a, r, k⟩ := s_guide_follow2 d rule p J think lt ha hr hlt 55 0 I (by omega) hC hat hf hl hh
  exact ⟨I', b_guide_follow_0 d _ _ I J _ a, r, k⟩

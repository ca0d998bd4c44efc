/-! which board a rule picks -/
noncomputable def g_sc (p : g_Plan) (rule : Nat) (think : Int32) (r : g_Row) (b : Nat) : Int32 := if rule = 0 then -(g_soon p r b) else if rule = 1 then r b else if rule = 2 then -(r (6 + b)) else g_ask p 0 r b think (g_soon p r b)
noncomputable def g_chs (p : g_Plan) (rule : Nat) (think : Int32) (r : g_Row) : Nat → Nat → Int32 → Int32 → Int32
  | 0, _, w, _ => w
  | k + 1, b, w, s => if g_open r b = true then (if w = -1 then g_chs p rule think r k (b + 1) (nI b) (g_sc p rule think r b) else if g_sc p rule think r b ≤ s then g_chs p rule think r k (b + 1) w s else g_chs p rule think r k (b + 1) (nI b) (g_sc p rule think r b)) else g_chs p rule think r k (b + 1) w s
noncomputable def g_choose (p : g_Plan) (rule : Nat) (think : Int32) (r : g_Row) : Int32 := g_chs p rule think r (pn p) 0 (-1) 0
theorem g_chs_r (p : g_Plan) (rule : Nat) (think : Int32) (r : g_Row) : ∀ k b w s, b + k = pn p → (w = -1 ∨ ∃ j, j < pn p ∧ w = nI j) → (g_chs p rule think r k b w s = -1 ∨ ∃ j, j < pn p ∧ g_chs p rule think r k b w s = nI j) := by
  intro k
  induction k with
  | zero => intro b w s _ h; exact h
  | succ k ih =>
    intro b w s hb h
    unfold g_chs
    have t := ih (b + 1) (nI b) (g_sc p rule think r b) (by omega) (Or.inr ⟨b, by omega, rfl⟩)
    have u := ih (b + 1) w s (by omega) h
    split
    · split
      · exact t
      · split
        · exact u
        · exact t
    · exact u
theorem s_guide_choose8 (d rule : Nat) (p : g_Plan) (J : am_J) (think : Int32) (hr : rule < 4) : ∀ k b w s (I : am_I), b + k = pn p → g_C p I → g_at (g_row I 47) → ∃ I', f_guide_choose_8 d (nI rule) think w s (nI b) I J = some (some (.int (g_chs p rule think (g_row I 47) k b w s)), I', J) ∧ ∀ c k, c ≠ 19 → c ≠ 20 → I' c k = I c k := by
  intro k
  induction k with
  | zero =>
    intro b w s I hb hC hat
    have hn := hC.1.1
    refine ⟨I, b_guide_choose_8 d _ _ _ _ _ I J _ ?_, fun _ _ _ _ => rfl⟩
    rw [hC.2.1, if_pos (nI_le (by omega) (by omega))]
    rfl
  | succ k ih =>
    intro b w s I hb hC hat
    have hn := hC.1.1
    have hb6 : b < 6 := by omega
    have hop : (g_open (g_row I 47) b = true) ↔ (g_opn I 47 b = true) := by rw [g_row_opn hb6]
    have kk : ∀ (I1 : am_I), (∀ c k, c ≠ 19 → c ≠ 20 → I1 c k = I c k) → g_C p I1 ∧ g_row I1 47 = g_row I 47 := fun I1 k1 => ⟨hC.keep (fun c k hc => k1 c k (fun e => by subst e; revert hc; decide) (fun e => by subst e; revert hc; decide)), g_rk_guide_trial (fun c k hc => k1 c k (fun e => by subst e; revert hc; decide) (fun e => by subst e; revert hc; decide))⟩
    have nx : ∀ (I1 : am_I), (∀ c k, c ≠ 19 → c ≠ 20 → I1 c k = I c k) → ∀ w s, ∃ I', f_guide_choose_8 d (nI rule) think w s (nI (b + 1)) I1 J = some (some (.int (g_chs p rule think (g_row I 47) k (b + 1) w s)), I', J) ∧ ∀ c k, c ≠ 19 → c ≠ 20 → I' c k = I c k := by
      intro I1 k1 w s
      obtain ⟨c1, r1⟩ := kk I1 k1
      obtain ⟨I', a, k2⟩ := ih (b + 1) w s I1 (by omega) c1 (by rw [r1]; exact hat)
      rw [r1] at a
      exact ⟨I', a, fun c k n1 n2 => (k2 c k n1 n2).trans (k1 c k n1 n2)⟩
    have base := b_guide_choose_8 d (nI rule) think w s (nI b) I J
    rw [hC.2.1, if_neg (nI_ge (by omega) (by omega)), s_guide_trial_isOpen d b I J hb6, am_bi_i, nI_1] at base
    unfold g_chs
    by_cases ho : g_opn I 47 b = true
    · rw [if_neg (fun q => am_tf0.mp q ho), s_guide_trial_soonest d b p I J hC hb6 hat, am_bi_i] at base
      rw [if_pos (hop.mpr ho)]
      have tail : ∀ (I1 : am_I) (v : Int32), v = g_sc p rule think (g_row I 47) b → (∀ c k, c ≠ 19 → c ≠ 20 → I1 c k = I c k) → ∃ I', (if w = -1 then f_guide_choose_8 d (nI rule) think (nI b) v (nI (b + 1)) I1 J else if v ≤ s then f_guide_choose_8 d (nI rule) think w s (nI (b + 1)) I1 J else f_guide_choose_8 d (nI rule) think (nI b) v (nI (b + 1)) I1 J) = some (some (.int (if w = -1 then g_chs p rule think (g_row I 47) k (b + 1) (nI b) (g_sc p rule think (g_row I 47) b) else if g_sc p rule think (g_row I 47) b ≤ s then g_chs p rule think (g_row I 47) k (b + 1) w s else g_chs p rule think (g_row I 47) k (b + 1) (nI b) (g_sc p rule think (g_row I 47) b))), I', J) ∧ ∀ c k, c ≠ 19 → c ≠ 20 → I' c k = I c k := by
        intro I1 v hv k1
        subst hv
        by_cases hw : w = -1
        · obtain ⟨I', a, k2⟩ := nx I1 k1 (nI b) (g_sc p rule think (g_row I 47) b)
          exact ⟨I', by rw [if_pos hw, if_pos hw]; exact a, k2⟩
        · by_cases hs : g_sc p rule think (g_row I 47) b ≤ s
          · obtain ⟨I', a, k2⟩ := nx I1 k1 w s
            exact ⟨I', by rw [if_neg hw, if_neg hw, if_pos hs, if_pos hs]; exact a, k2⟩
          · obtain ⟨I', a, k2⟩ := nx I1 k1 (nI b) (g_sc p rule think (g_row I 47) b)
            exact ⟨I', by rw [if_neg hw, if_neg hw, if_neg hs, if_neg hs]; exact a, k2⟩
      rcases (show rule = 0 ∨ rule = 1 ∨ rule = 2 ∨ rule = 3 by omega) with rfl | rfl | rfl | rfl
      · obtain ⟨I', a, k2⟩ := tail I (-(g_soon p (g_row I 47) b)) (by simp [g_sc]) (fun _ _ _ _ => rfl)
        refine ⟨I', base _ ?_, k2⟩
        rw [if_pos (show nI 0 = 0 from rfl)]
        exact a
      · obtain ⟨I', a, k2⟩ := tail I (I 48 b) (by simp [g_sc, g_row_l hb6]) (fun _ _ _ _ => rfl)
        refine ⟨I', base _ ?_, k2⟩
        rw [if_neg (show ¬ nI 1 = 0 by decide), if_pos (show nI 1 = 1 from rfl), am_at_n hb6 (by omega)]
        exact a
      · obtain ⟨I', a, k2⟩ := tail I (-(I 49 b)) (by simp [g_sc, g_row_r hb6]) (fun _ _ _ _ => rfl)
        refine ⟨I', base _ ?_, k2⟩
        rw [if_neg (show ¬ nI 2 = 0 by decide), if_neg (show ¬ nI 2 = 1 by decide), if_pos (show nI 2 = 2 from rfl), am_at_n hb6 (by omega)]
        exact a
      · obtain ⟨I1, a1, k1⟩ := s_guide_trial_ask d 0 b p I J (g_soon p (g_row I 47) b) think hC (by omega) (by omega)
        obtain ⟨I', a, k2⟩ := tail I1 (g_ask p 0 (g_row I 47) b think (g_soon p (g_row I 47) b)) (by simp [g_sc]) k1
        refine ⟨I', base _ ?_, k2⟩
        rw [if_neg (show ¬ nI 3 = 0 by decide), if_neg (show ¬ nI 3 = 1 by decide), if_neg (show ¬ nI 3 = 2 by decide), am_bi_i, show (0 : Int32) = nI 0 from rfl, a1, am_bi_i]
        exact a
    · rw [if_pos (am_tf0.mpr ho)] at base
      rw [if_neg (fun q => ho (hop.mp q))]
      obtain ⟨I', a, k2⟩ := nx I (fun _ _ _ _ => rfl) w s
      exact ⟨I', base _ a, k2⟩
theorem s_guide_choose (d rule : Nat) (p : g_Plan) (I : am_I) (J : am_J) (think : Int32) (hr : rule < 4) (hC : g_C p I) (hat : g_at (g_row I 47)) : ∃ I', f_guide_choose_0 d (nI rule) think I J = some (some (.int (g_choose p rule think (g_row I 47))), I', J) ∧ ∀ c k, c ≠ 19 → c ≠ 20 → I' c k = I c k := by
  obtain ⟨I', a, k⟩ := s_guide_choose8 d rule p J think hr (pn p) 0 (-1) 0 I (by omega) hC hat
  exact ⟨I', b_guide_choose_0 d _ _ I J _ a, k⟩

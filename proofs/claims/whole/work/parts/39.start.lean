/-! plays set out and copied -/
theorem s_now_setOut27 (d n : Nat) (J : am_J) (hn : n ≤ 6) : ∀ k b (I : am_I), b + k = 6 → I 12 5 = nI n → ∃ I', f_now_setOut_27 d (nI b) I J = some (none, I', J) ∧ (∀ j, b ≤ j → j < 6 → I' 35 j = (if j < n then I 13 j else 0) ∧ I' 36 j = 0 ∧ I' 37 j = 0 ∧ I' 38 j = nI j ∧ I' 39 j = 0) ∧ ∀ c k, (k < b ∨ 6 ≤ k ∨ (c ≠ 35 ∧ c ≠ 36 ∧ c ≠ 37 ∧ c ≠ 38 ∧ c ≠ 39)) → I' c k = I c k := by
  intro k
  induction k with
  | zero =>
    intro b I hb hI
    refine ⟨I, b_now_setOut_27 d _ I J _ ?_, fun j h1 h2 => by omega, fun _ _ _ => rfl⟩
    rw [am_i6, if_pos (nI_le (by omega) (by omega))]
  | succ k ih =>
    intro b I hb hI
    obtain ⟨I1, e1⟩ : ∃ I1, I1 = am_upd (am_upd (am_upd (am_upd (am_upd I 35 b (if b < n then I 13 b else 0)) 36 b 0) 37 b 0) 38 b (nI b)) 39 b 0 := ⟨_, rfl⟩
    have hk1 : ∀ c k, (k ≠ b ∨ (c ≠ 35 ∧ c ≠ 36 ∧ c ≠ 37 ∧ c ≠ 38 ∧ c ≠ 39)) → I1 c k = I c k := by
      intro c k h
      rw [e1]
      rcases h with h | ⟨n1, n2, n3, n4, n5⟩
      · rw [am_uk h, am_uk h, am_uk h, am_uk h, am_uk h]
      · rw [am_uc n5, am_uc n4, am_uc n3, am_uc n2, am_uc n1]
    obtain ⟨I', a1, a2, a3⟩ := ih (b + 1) I1 (by omega) ((hk1 12 5 (Or.inr (by decide))).trans hI)
    refine ⟨I', b_now_setOut_27 d _ I J _ ?_, fun j h1 h2 => ?_, fun c k h => ?_⟩
    · rw [am_i6, if_neg (nI_ge (by omega) (by omega)), hI]
      by_cases h : b < n
      · rw [if_neg (nI_ge (by omega) (by omega)), am_at_n (by omega) (by omega), am_at_n (by omega) (by omega), am_at_n (by omega) (by omega), am_at_n (by omega) (by omega), am_at_n (by omega) (by omega), am_at_n (by omega) (by omega), nI_1]
        rw [if_pos h] at e1
        rw [← e1]
        exact a1
      · rw [if_pos (nI_le (by omega) (by omega)), am_at_n (by omega) (by omega), am_at_n (by omega) (by omega), am_at_n (by omega) (by omega), am_at_n (by omega) (by omega), am_at_n (by omega) (by omega), nI_1]
        rw [if_neg h] at e1
        rw [← e1]
        exact a1
    · by_cases hj : j = b
      · subst hj
        rw [a3 35 j (Or.inl (by omega)), a3 36 j (Or.inl (by omega)), a3 37 j (Or.inl (by omega)), a3 38 j (Or.inl (by omega)), a3 39 j (Or.inl (by omega)), e1]
        refine ⟨?_, ?_, ?_, ?_, ?_⟩
        · rw [am_uc (by decide), am_uc (by decide), am_uc (by decide), am_uc (by decide), am_ue]
        · rw [am_uc (by decide), am_uc (by decide), am_uc (by decide), am_ue]
        · rw [am_uc (by decide), am_uc (by decide), am_ue]
        · rw [am_uc (by decide), am_ue]
        · rw [am_ue]
      · have q := a2 j (by omega) h2
        rw [hk1 13 j (Or.inr (by decide))] at q
        exact q
    · rw [a3 c k (by rcases h with h | h | h
                     · exact Or.inl (by omega)
                     · exact Or.inr (Or.inl h)
                     · exact Or.inr (Or.inr h)), hk1 c k (by rcases h with h | h | h
                                                             · exact Or.inl (by omega)
                                                             · exact Or.inl (by omega)
                                                             · exact Or.inr h)]
theorem s_now_setOut (d : Nat) (p : g_Plan) (I : am_I) (J : am_J) (hC : g_C p I) : ∃ I', f_now_setOut_0 d I J = some (none, I', J) ∧ (∀ k, ¬ (12 + pn p ≤ k ∧ k < 18) → k < 34 → g_row I' 34 k = g_out p k) ∧ I' 34 6 = -1 ∧ (∀ b, b < 6 → I' 39 b = 0) ∧ ∀ c k, (c ≠ 34 ∨ k < 6 ∨ 10 < k) → (6 ≤ k ∨ (c ≠ 35 ∧ c ≠ 36 ∧ c ≠ 37 ∧ c ≠ 38 ∧ c ≠ 39)) → I' c k = I c k := by
  obtain ⟨I1, e1⟩ : ∃ I1, I1 = am_upd (am_upd (am_upd (am_upd (am_upd I 34 7 0) 34 8 0) 34 9 0) 34 10 0) 34 6 (-1) := ⟨_, rfl⟩
  have hk1 : ∀ c k, (c ≠ 34 ∨ k < 6 ∨ 10 < k) → I1 c k = I c k := by
    intro c k hc
    rw [e1]
    by_cases e : c = 34
    · subst e
      have hc : k < 6 ∨ 10 < k := hc.resolve_left (fun q => q rfl)
      rw [am_uk (by omega), am_uk (by omega), am_uk (by omega), am_uk (by omega), am_uk (by omega)]
    · rw [am_uc e, am_uc e, am_uc e, am_uc e, am_uc e]
  have hn : pn p ≤ 6 := hC.1.1
  obtain ⟨I', a1, a2, a3⟩ := s_now_setOut27 d (pn p) J hn 6 0 I1 (by omega) ((hk1 12 5 (Or.inl (by decide))).trans hC.2.1)
  refine ⟨I', b_now_setOut_0 d I J _ ?_, fun k hk hk34 => ?_, ?_, fun b hb => (a2 b (by omega) hb).2.2.2.2, fun c k h1 h2 => ?_⟩
  · rw [am_b01_0, ← e1]
    exact a1
  · have hp : ∀ k, k = 7 ∨ k = 8 ∨ k = 9 ∨ k = 10 → I' 34 k = 0 := by
      intro k h
      rw [a3 34 k (Or.inr (Or.inr (by decide))), e1]
      rcases h with rfl | rfl | rfl | rfl <;> simp [am_upd]
    have h13 : ∀ b, b < pn p → I' 13 b = pmv p b := fun b hb => by
      rw [a3 13 b (Or.inr (Or.inr (by decide))), hk1 13 b (Or.inl (by decide))]
      exact hC.2.2.2.2.2.1 b hb
    have h13' : ∀ b, b < pn p → I1 13 b = pmv p b := fun b hb => by
      rw [hk1 13 b (Or.inl (by decide))]
      exact hC.2.2.2.2.2.1 b hb
    unfold g_out
    by_cases c1 : k < 6
    · rw [g_row_l c1, (a2 k (by omega) c1).1]
      by_cases c : k < pn p
      · rw [if_pos c, if_pos c, h13' k c]
      · rw [if_neg c, if_neg c, if_neg (by omega)]
    · rw [if_neg (show ¬ k < pn p by omega)]
      by_cases c2 : k < 12
      · obtain ⟨b, rfl⟩ : ∃ b, k = 6 + b := ⟨k - 6, by omega⟩
        rw [g_row_r (by omega), (a2 b (by omega) (by omega)).2.1, if_neg (by omega)]
      · by_cases c3 : k < 18
        · obtain ⟨b, rfl⟩ : ∃ b, k = 12 + b := ⟨k - 12, by omega⟩
          have hb : b < pn p := by omega
          rw [g_row_m (by omega), h13 b hb, (a2 b (by omega) (by omega)).1, if_pos hb, h13' b hb, if_neg (by omega), Int32.sub_self]
        · by_cases c4 : k < 24
          · obtain ⟨b, rfl⟩ : ∃ b, k = 18 + b := ⟨k - 18, by omega⟩
            rw [g_row_e (by omega), (a2 b (by omega) (by omega)).2.2.1, if_neg (by omega)]
          · by_cases c5 : k < 30
            · obtain ⟨b, rfl⟩ : ∃ b, k = 24 + b := ⟨k - 24, by omega⟩
              rw [g_row_s (by omega), (a2 b (by omega) (by omega)).2.2.2.1, if_pos (by omega), show 24 + b - 24 = b by omega]
            · rw [if_neg (by omega)]
              rcases (show k = 30 ∨ k = 31 ∨ k = 32 ∨ k = 33 by omega) with rfl | rfl | rfl | rfl
              · exact hp 7 (by decide)
              · exact hp 8 (by decide)
              · exact hp 9 (by decide)
              · exact hp 10 (by decide)
  · rw [a3 34 6 (Or.inr (Or.inl (by decide))), e1, am_ue]
  · rw [a3 c k (by rcases h2 with h | h
                   · exact Or.inr (Or.inl h)
                   · exact Or.inr (Or.inr h)), hk1 c k h1]
theorem s_guide_trial_setOut27 (d n : Nat) (J : am_J) (hn : n ≤ 6) : ∀ k b (I : am_I), b + k = 6 → I 12 5 = nI n → ∃ I', f_guide_trial_setOut_27 d (nI b) I J = some (none, I', J) ∧ (∀ j, b ≤ j → j < 6 → I' 48 j = (if j < n then I 13 j else 0) ∧ I' 49 j = 0 ∧ I' 50 j = 0 ∧ I' 51 j = nI j ∧ I' 52 j = 0) ∧ ∀ c k, (k < b ∨ 6 ≤ k ∨ (c ≠ 48 ∧ c ≠ 49 ∧ c ≠ 50 ∧ c ≠ 51 ∧ c ≠ 52)) → I' c k = I c k := by
  intro k
  induction k with
  | zero =>
    intro b I hb hI
    refine ⟨I, b_guide_trial_setOut_27 d _ I J _ ?_, fun j h1 h2 => by omega, fun _ _ _ => rfl⟩
    rw [am_i6, if_pos (nI_le (by omega) (by omega))]
  | succ k ih =>
    intro b I hb hI
    obtain ⟨I1, e1⟩ : ∃ I1, I1 = am_upd (am_upd (am_upd (am_upd (am_upd I 48 b (if b < n then I 13 b else 0)) 49 b 0) 50 b 0) 51 b (nI b)) 52 b 0 := ⟨_, rfl⟩
    have hk1 : ∀ c k, (k ≠ b ∨ (c ≠ 48 ∧ c ≠ 49 ∧ c ≠ 50 ∧ c ≠ 51 ∧ c ≠ 52)) → I1 c k = I c k := by
      intro c k h
      rw [e1]
      rcases h with h | ⟨n1, n2, n3, n4, n5⟩
      · rw [am_uk h, am_uk h, am_uk h, am_uk h, am_uk h]
      · rw [am_uc n5, am_uc n4, am_uc n3, am_uc n2, am_uc n1]
    obtain ⟨I', a1, a2, a3⟩ := ih (b + 1) I1 (by omega) ((hk1 12 5 (Or.inr (by decide))).trans hI)
    refine ⟨I', b_guide_trial_setOut_27 d _ I J _ ?_, fun j h1 h2 => ?_, fun c k h => ?_⟩
    · rw [am_i6, if_neg (nI_ge (by omega) (by omega)), hI]
      by_cases h : b < n
      · rw [if_neg (nI_ge (by omega) (by omega)), am_at_n (by omega) (by omega), am_at_n (by omega) (by omega), am_at_n (by omega) (by omega), am_at_n (by omega) (by omega), am_at_n (by omega) (by omega), am_at_n (by omega) (by omega), nI_1]
        rw [if_pos h] at e1
        rw [← e1]
        exact a1
      · rw [if_pos (nI_le (by omega) (by omega)), am_at_n (by omega) (by omega), am_at_n (by omega) (by omega), am_at_n (by omega) (by omega), am_at_n (by omega) (by omega), am_at_n (by omega) (by omega), nI_1]
        rw [if_neg h] at e1
        rw [← e1]
        exact a1
    · by_cases hj : j = b
      · subst hj
        rw [a3 48 j (Or.inl (by omega)), a3 49 j (Or.inl (by omega)), a3 50 j (Or.inl (by omega)), a3 51 j (Or.inl (by omega)), a3 52 j (Or.inl (by omega)), e1]
        refine ⟨?_, ?_, ?_, ?_, ?_⟩
        · rw [am_uc (by decide), am_uc (by decide), am_uc (by decide), am_uc (by decide), am_ue]
        · rw [am_uc (by decide), am_uc (by decide), am_uc (by decide), am_ue]
        · rw [am_uc (by decide), am_uc (by decide), am_ue]
        · rw [am_uc (by decide), am_ue]
        · rw [am_ue]
      · have q := a2 j (by omega) h2
        rw [hk1 13 j (Or.inr (by decide))] at q
        exact q
    · rw [a3 c k (by rcases h with h | h | h
                     · exact Or.inl (by omega)
                     · exact Or.inr (Or.inl h)
                     · exact Or.inr (Or.inr h)), hk1 c k (by rcases h with h | h | h
                                                             · exact Or.inl (by omega)
                                                             · exact Or.inl (by omega)
                                                             · exact Or.inr h)]
theorem s_guide_trial_setOut (d : Nat) (p : g_Plan) (I : am_I) (J : am_J) (hC : g_C p I) : ∃ I', f_guide_trial_setOut_0 d I J = some (none, I', J) ∧ (∀ k, ¬ (12 + pn p ≤ k ∧ k < 18) → k < 34 → g_row I' 47 k = g_out p k) ∧ I' 47 6 = -1 ∧ (∀ b, b < 6 → I' 52 b = 0) ∧ ∀ c k, (c ≠ 47 ∨ k < 6 ∨ 10 < k) → (6 ≤ k ∨ (c ≠ 48 ∧ c ≠ 49 ∧ c ≠ 50 ∧ c ≠ 51 ∧ c ≠ 52)) → I' c k = I c k := by
  obtain ⟨I1, e1⟩ : ∃ I1, I1 = am_upd (am_upd (am_upd (am_upd (am_upd I 47 7 0) 47 8 0) 47 9 0) 47 10 0) 47 6 (-1) := ⟨_, rfl⟩
  have hk1 : ∀ c k, (c ≠ 47 ∨ k < 6 ∨ 10 < k) → I1 c k = I c k := by
    intro c k hc
    rw [e1]
    by_cases e : c = 47
    · subst e
      have hc : k < 6 ∨ 10 < k := hc.resolve_left (fun q => q rfl)
      rw [am_uk (by omega), am_uk (by omega), am_uk (by omega), am_uk (by omega), am_uk (by omega)]
    · rw [am_uc e, am_uc e, am_uc e, am_uc e, am_uc e]
  have hn : pn p ≤ 6 := hC.1.1
  obtain ⟨I', a1, a2, a3⟩ := s_guide_trial_setOut27 d (pn p) J hn 6 0 I1 (by omega) ((hk1 12 5 (Or.inl (by decide))).trans hC.2.1)
  refine ⟨I', b_guide_trial_setOut_0 d I J _ ?_, fun k hk hk34 => ?_, ?_, fun b hb => (a2 b (by omega) hb).2.2.2.2, fun c k h1 h2 => ?_⟩
  · rw [am_b01_0, ← e1]
    exact a1
  · have hp : ∀ k, k = 7 ∨ k = 8 ∨ k = 9 ∨ k = 10 → I' 47 k = 0 := by
      intro k h
      rw [a3 47 k (Or.inr (Or.inr (by decide))), e1]
      rcases h with rfl | rfl | rfl | rfl <;> simp [am_upd]
    have h13 : ∀ b, b < pn p → I' 13 b = pmv p b := fun b hb => by
      rw [a3 13 b (Or.inr (Or.inr (by decide))), hk1 13 b (Or.inl (by decide))]
      exact hC.2.2.2.2.2.1 b hb
    have h13' : ∀ b, b < pn p → I1 13 b = pmv p b := fun b hb => by
      rw [hk1 13 b (Or.inl (by decide))]
      exact hC.2.2.2.2.2.1 b hb
    unfold g_out
    by_cases c1 : k < 6
    · rw [g_row_l c1, (a2 k (by omega) c1).1]
      by_cases c : k < pn p
      · rw [if_pos c, if_pos c, h13' k c]
      · rw [if_neg c, if_neg c, if_neg (by omega)]
    · rw [if_neg (show ¬ k < pn p by omega)]
      by_cases c2 : k < 12
      · obtain ⟨b, rfl⟩ : ∃ b, k = 6 + b := ⟨k - 6, by omega⟩
        rw [g_row_r (by omega), (a2 b (by omega) (by omega)).2.1, if_neg (by omega)]
      · by_cases c3 : k < 18
        · obtain ⟨b, rfl⟩ : ∃ b, k = 12 + b := ⟨k - 12, by omega⟩
          have hb : b < pn p := by omega
          rw [g_row_m (by omega), h13 b hb, (a2 b (by omega) (by omega)).1, if_pos hb, h13' b hb, if_neg (by omega), Int32.sub_self]
        · by_cases c4 : k < 24
          · obtain ⟨b, rfl⟩ : ∃ b, k = 18 + b := ⟨k - 18, by omega⟩
            rw [g_row_e (by omega), (a2 b (by omega) (by omega)).2.2.1, if_neg (by omega)]
          · by_cases c5 : k < 30
            · obtain ⟨b, rfl⟩ : ∃ b, k = 24 + b := ⟨k - 24, by omega⟩
              rw [g_row_s (by omega), (a2 b (by omega) (by omega)).2.2.2.1, if_pos (by omega), show 24 + b - 24 = b by omega]
            · rw [if_neg (by omega)]
              rcases (show k = 30 ∨ k = 31 ∨ k = 32 ∨ k = 33 by omega) with rfl | rfl | rfl | rfl
              · exact hp 7 (by decide)
              · exact hp 8 (by decide)
              · exact hp 9 (by decide)
              · exact hp 10 (by decide)
  · rw [a3 47 6 (Or.inr (Or.inl (by decide))), e1, am_ue]
  · rw [a3 c k (by rcases h2 with h | h
                   · exact Or.inr (Or.inl h)
                   · exact Or.inr (Or.inr h)), hk1 c k h1]
theorem s_witness_trial_setOut27 (d n : Nat) (J : am_J) (hn : n ≤ 6) : ∀ k b (I : am_I), b + k = 6 → I 12 5 = nI n → ∃ I', f_witness_trial_setOut_27 d (nI b) I J = some (none, I', J) ∧ (∀ j, b ≤ j → j < 6 → I' 58 j = (if j < n then I 13 j else 0) ∧ I' 59 j = 0 ∧ I' 60 j = 0 ∧ I' 61 j = nI j ∧ I' 62 j = 0) ∧ ∀ c k, (k < b ∨ 6 ≤ k ∨ (c ≠ 58 ∧ c ≠ 59 ∧ c ≠ 60 ∧ c ≠ 61 ∧ c ≠ 62)) → I' c k = I c k := by
  intro k
  induction k with
  | zero =>
    intro b I hb hI
    refine ⟨I, b_witness_trial_setOut_27 d _ I J _ ?_, fun j h1 h2 => by omega, fun _ _ _ => rfl⟩
    rw [am_i6, if_pos (nI_le (by omega) (by omega))]
  | succ k ih =>
    intro b I hb hI
    obtain ⟨I1, e1⟩ : ∃ I1, I1 = am_upd (am_upd (am_upd (am_upd (am_upd I 58 b (if b < n then I 13 b else 0)) 59 b 0) 60 b 0) 61 b (nI b)) 62 b 0 := ⟨_, rfl⟩
    have hk1 : ∀ c k, (k ≠ b ∨ (c ≠ 58 ∧ c ≠ 59 ∧ c ≠ 60 ∧ c ≠ 61 ∧ c ≠ 62)) → I1 c k = I c k := by
      intro c k h
      rw [e1]
      rcases h with h | ⟨n1, n2, n3, n4, n5⟩
      · rw [am_uk h, am_uk h, am_uk h, am_uk h, am_uk h]
      · rw [am_uc n5, am_uc n4, am_uc n3, am_uc n2, am_uc n1]
    obtain ⟨I', a1, a2, a3⟩ := ih (b + 1) I1 (by omega) ((hk1 12 5 (Or.inr (by decide))).trans hI)
    refine ⟨I', b_witness_trial_setOut_27 d _ I J _ ?_, fun j h1 h2 => ?_, fun c k h => ?_⟩
    · rw [am_i6, if_neg (nI_ge (by omega) (by omega)), hI]
      by_cases h : b < n
      · rw [if_neg (nI_ge (by omega) (by omega)), am_at_n (by omega) (by omega), am_at_n (by omega) (by omega), am_at_n (by omega) (by omega), am_at_n (by omega) (by omega), am_at_n (by omega) (by omega), am_at_n (by omega) (by omega), nI_1]
        rw [if_pos h] at e1
        rw [← e1]
        exact a1
      · rw [if_pos (nI_le (by omega) (by omega)), am_at_n (by omega) (by omega), am_at_n (by omega) (by omega), am_at_n (by omega) (by omega), am_at_n (by omega) (by omega), am_at_n (by omega) (by omega), nI_1]
        rw [if_neg h] at e1
        rw [← e1]
        exact a1
    · by_cases hj : j = b
      · subst hj
        rw [a3 58 j (Or.inl (by omega)), a3 59 j (Or.inl (by omega)), a3 60 j (Or.inl (by omega)), a3 61 j (Or.inl (by omega)), a3 62 j (Or.inl (by omega)), e1]
        refine ⟨?_, ?_, ?_, ?_, ?_⟩
        · rw [am_uc (by decide), am_uc (by decide), am_uc (by decide), am_uc (by decide), am_ue]
        · rw [am_uc (by decide), am_uc (by decide), am_uc (by decide), am_ue]
        · rw [am_uc (by decide), am_uc (by decide), am_ue]
        · rw [am_uc (by decide), am_ue]
        · rw [am_ue]
      · have q := a2 j (by omega) h2
        rw [hk1 13 j (Or.inr (by decide))] at q
        exact q
    · rw [a3 c k (by rcases h with h | h | h
                     · exact Or.inl (by omega)
                     · exact Or.inr (Or.inl h)
                     · exact Or.inr (Or.inr h)), hk1 c k (by rcases h with h | h | h
                                                             · exact Or.inl (by omega)
                                                             · exact Or.inl (by omega)
                                                             · exact Or.inr h)]
theorem s_witness_trial_setOut (d : Nat) (p : g_Plan) (I : am_I) (J : am_J) (hC : g_C p I) : ∃ I', f_witness_trial_setOut_0 d I J = some (none, I', J) ∧ (∀ k, ¬ (12 + pn p ≤ k ∧ k < 18) → k < 34 → g_row I' 57 k = g_out p k) ∧ I' 57 6 = -1 ∧ (∀ b, b < 6 → I' 62 b = 0) ∧ ∀ c k, (c ≠ 57 ∨ k < 6 ∨ 10 < k) → (6 ≤ k ∨ (c ≠ 58 ∧ c ≠ 59 ∧ c ≠ 60 ∧ c ≠ 61 ∧ c ≠ 62)) → I' c k = I c k := by
  obtain ⟨I1, e1⟩ : ∃ I1, I1 = am_upd (am_upd (am_upd (am_upd (am_upd I 57 7 0) 57 8 0) 57 9 0) 57 10 0) 57 6 (-1) := ⟨_, rfl⟩
  have hk1 : ∀ c k, (c ≠ 57 ∨ k < 6 ∨ 10 < k) → I1 c k = I c k := by
    intro c k hc
    rw [e1]
    by_cases e : c = 57
    · subst e
      have hc : k < 6 ∨ 10 < k := hc.resolve_left (fun q => q rfl)
      rw [am_uk (by omega), am_uk (by omega), am_uk (by omega), am_uk (by omega), am_uk (by omega)]
    · rw [am_uc e, am_uc e, am_uc e, am_uc e, am_uc e]
  have hn : pn p ≤ 6 := hC.1.1
  obtain ⟨I', a1, a2, a3⟩ := s_witness_trial_setOut27 d (pn p) J hn 6 0 I1 (by omega) ((hk1 12 5 (Or.inl (by decide))).trans hC.2.1)
  refine ⟨I', b_witness_trial_setOut_0 d I J _ ?_, fun k hk hk34 => ?_, ?_, fun b hb => (a2 b (by omega) hb).2.2.2.2, fun c k h1 h2 => ?_⟩
  · rw [am_b01_0, ← e1]
    exact a1
  · have hp : ∀ k, k = 7 ∨ k = 8 ∨ k = 9 ∨ k = 10 → I' 57 k = 0 := by
      intro k h
      rw [a3 57 k (Or.inr (Or.inr (by decide))), e1]
      rcases h with rfl | rfl | rfl | rfl <;> simp [am_upd]
    have h13 : ∀ b, b < pn p → I' 13 b = pmv p b := fun b hb => by
      rw [a3 13 b (Or.inr (Or.inr (by decide))), hk1 13 b (Or.inl (by decide))]
      exact hC.2.2.2.2.2.1 b hb
    have h13' : ∀ b, b < pn p → I1 13 b = pmv p b := fun b hb => by
      rw [hk1 13 b (Or.inl (by decide))]
      exact hC.2.2.2.2.2.1 b hb
    unfold g_out
    by_cases c1 : k < 6
    · rw [g_row_l c1, (a2 k (by omega) c1).1]
      by_cases c : k < pn p
      · rw [if_pos c, if_pos c, h13' k c]
      · rw [if_neg c, if_neg c, if_neg (by omega)]
    · rw [if_neg (show ¬ k < pn p by omega)]
      by_cases c2 : k < 12
      · obtain ⟨b, rfl⟩ : ∃ b, k = 6 + b := ⟨k - 6, by omega⟩
        rw [g_row_r (by omega), (a2 b (by omega) (by omega)).2.1, if_neg (by omega)]
      · by_cases c3 : k < 18
        · obtain ⟨b, rfl⟩ : ∃ b, k = 12 + b := ⟨k - 12, by omega⟩
          have hb : b < pn p := by omega
          rw [g_row_m (by omega), h13 b hb, (a2 b (by omega) (by omega)).1, if_pos hb, h13' b hb, if_neg (by omega), Int32.sub_self]
        · by_cases c4 : k < 24
          · obtain ⟨b, rfl⟩ : ∃ b, k = 18 + b := ⟨k - 18, by omega⟩
            rw [g_row_e (by omega), (a2 b (by omega) (by omega)).2.2.1, if_neg (by omega)]
          · by_cases c5 : k < 30
            · obtain ⟨b, rfl⟩ : ∃ b, k = 24 + b := ⟨k - 24, by omega⟩
              rw [g_row_s (by omega), (a2 b (by omega) (by omega)).2.2.2.1, if_pos (by omega), show 24 + b - 24 = b by omega]
            · rw [if_neg (by omega)]
              rcases (show k = 30 ∨ k = 31 ∨ k = 32 ∨ k = 33 by omega) with rfl | rfl | rfl | rfl
              · exact hp 7 (by decide)
              · exact hp 8 (by decide)
              · exact hp 9 (by decide)
              · exact hp 10 (by decide)
  · rw [a3 57 6 (Or.inr (Or.inl (by decide))), e1, am_ue]
  · rw [a3 c k (by rcases h2 with h | h
                   · exact Or.inr (Or.inl h)
                   · exact Or.inr (Or.inr h)), hk1 c k h1]

/-! a plain play followed: the guide's findEnd, keepMost, findRule -/
theorem g_flw_c (p : g_Plan) (lt lt' : g_Row) (ha : Int32) (rule : Nat) (think : Int32) (h : ∀ b, b < pn p → lt b = lt' b) : ∀ k r, g_flw p lt ha rule think k r = g_flw p lt' ha rule think k r := by
  intro k
  induction k with
  | zero => intro r; rfl
  | succ k ih =>
    intro r
    unfold g_flw
    by_cases ho : g_over p r = true
    · rw [if_pos ho, if_pos ho]
    · rw [if_neg ho, if_neg ho]
      by_cases hm : g_choose p rule think r = -1
      · rw [if_pos hm, if_pos hm]
      · rw [if_neg hm, if_neg hm, ih]
        obtain ⟨b, hb, hbe⟩ := (g_chs_r p rule think r (pn p) 0 (-1) 0 (by omega) (Or.inl rfl)).resolve_left hm
        by_cases hp : pn p < 2 ^ 31
        · have hbe : g_choose p rule think r = nI b := hbe
          rw [hbe, nI_clamp (by omega)]
          unfold g_mv
          rw [h b hb]
        · have z : lt = lt' ∨ True := Or.inr trivial
          have hlt : (g_choose p rule think r).toNatClampNeg < 2 ^ 31 := by
            have := Int32.toInt_lt (g_choose p rule think r)
            show (g_choose p rule think r).toInt.toNat < 2 ^ 31
            omega
          unfold g_mv
          rw [h _ (by omega)]
noncomputable def g_far (p : g_Plan) (rule : Nat) (think : Int32) (r : g_Row) : g_Row := g_follow p (fun _ => 0) (-1) rule think r
theorem s_guide_plain (d rule : Nat) (p : g_Plan) (I : am_I) (J : am_J) (think : Int32) (hr : rule < 4) (hC : g_C p I) (hat : g_at (g_row I 47)) (hf : I 47 10 = 0 ∨ I 47 10 = 1) (hl : ∀ b, b < 6 → I 52 b = 0) (hh : I 47 6 = -1) : ∃ I', f_guide_follow_0 d (nI rule) think I J = some (none, I', J) ∧ g_row I' 47 = g_far p rule think (g_row I 47) ∧ ∀ c k, (c ≠ 47 ∨ k < 7 ∨ 10 < k) → c ≠ 48 → c ≠ 49 → c ≠ 19 → c ≠ 20 → I' c k = I c k := by
  have hn := hC.1.1
  obtain ⟨I', a, r, k⟩ := s_guide_follow d rule p I J think (I 52) (-1) hr (fun b hb _ => hl b (by omega)) hC hat hf rfl hh
  refine ⟨I', a, ?_, k⟩
  rw [r]
  exact g_flw_c p _ _ _ _ _ (fun b hb => hl b (by omega)) _ _
/-- the play that goes is plain: no board of haste, none of delay -/
def g_NP (I : am_I) : Prop := g_at (g_row I 34) ∧ (I 34 10 = 0 ∨ I 34 10 = 1) ∧ I 34 6 = -1 ∧ ∀ b, b < 6 → I 39 b = 0
/-- all but the guide's own scratch -/
def g_G (c k : Nat) : Prop := c ∉ ([19, 20, 47, 48, 49, 50, 51, 52] : List Nat) ∧ (c ≠ 40 ∨ k < 15)
theorem s_guide_fresh (d : Nat) (p : g_Plan) (I : am_I) (J : am_J) (hC : g_C p I) (hN : g_NP I) : ∃ I', f_guide_trial_copyFrom_0 d I J = some (none, I', J) ∧ g_row I' 47 = g_row I 34 ∧ g_C p I' ∧ g_NP I' ∧ g_row I' 34 = g_row I 34 ∧ (I' 47 10 = 0 ∨ I' 47 10 = 1) ∧ (∀ b, b < 6 → I' 52 b = 0) ∧ I' 47 6 = -1 ∧ (∀ c k, c ∉ ([19, 20, 47, 48, 49, 50, 51, 52] : List Nat) → I' c k = I c k) := by
  obtain ⟨hat, hf, h6, h39⟩ := hN
  obtain ⟨I', a, r, e6, e52, e10, k⟩ := s_guide_trial_copyFrom d I J hf
  have kk : ∀ c k, c ∉ ([19, 20, 47, 48, 49, 50, 51, 52] : List Nat) → I' c k = I c k := fun c j hc => by
    simp only [List.mem_cons, List.not_mem_nil, not_or] at hc
    exact k c j (Or.inl hc.2.2.1) hc.2.2.2.1 hc.2.2.2.2.1 hc.2.2.2.2.2.1 hc.2.2.2.2.2.2.1 hc.2.2.2.2.2.2.2.1
  have r34 : g_row I' 34 = g_row I 34 := g_rk_now (fun c j hc => kk c j ((show ∀ c ∈ ([13, 34, 35, 36, 37, 38] : List Nat), c ∉ ([19, 20, 47, 48, 49, 50, 51, 52] : List Nat) by decide) c hc))
  refine ⟨I', a, r, hC.keep (fun c j hc => kk c j ((show ∀ c ∈ ([1, 2, 3, 12, 13, 14, 15, 16, 17, 18, 21] : List Nat), c ∉ ([19, 20, 47, 48, 49, 50, 51, 52] : List Nat) by decide) c hc)), ⟨by rw [r34]; exact hat, ?_, ?_, fun b hb => ?_⟩, r34, by rw [e10]; exact hf, fun b hb => by rw [e52 b hb]; exact h39 b hb, by rw [e6]; exact h6, kk⟩
  · rw [kk 34 10 (by decide)]; exact hf
  · rw [kk 34 6 (by decide)]; exact h6
  · rw [kk 39 b (by decide)]; exact h39 b hb
theorem s_guide_findEnd (d rule : Nat) (p : g_Plan) (I : am_I) (J : am_J) (think : Int32) (hr : rule < 4) (hC : g_C p I) (hN : g_NP I) : ∃ I', f_guide_findEnd_0 d (nI rule) think I J = some (none, I', J) ∧ I' 40 15 = g_far p rule think (g_row I 34) 32 ∧ I' 40 16 = g_far p rule think (g_row I 34) 30 ∧ ∀ c k, g_G c k → I' c k = I c k := by
  obtain ⟨I1, a1, r1, C1, N1, r34, f1, l1, h1, k1⟩ := s_guide_fresh d p I J hC hN
  obtain ⟨I2, a2, r2, k2⟩ := s_guide_plain d rule p I1 J think hr C1 (by rw [r1]; exact hN.1) f1 l1 h1
  rw [r1] at r2
  have base := b_guide_findEnd_0 d (nI rule) think I J
  rw [a1, am_bv_v, a2, am_bv_v] at base
  refine ⟨_, base _ rfl, ?_, ?_, fun c k hg => ?_⟩
  · rw [am_uk (by decide), am_ue, ← r2, g_row_32]
  · rw [am_ue, am_uc (by decide), ← r2, g_row_30]
  · obtain ⟨hc, hk⟩ := hg
    have n40 : ∀ v j, 15 ≤ j → ∀ X : am_I, am_upd X 40 j v c k = X c k := fun v j hj X => by
      rcases hk with h | h
      · exact am_uc h
      · exact am_uk (by omega)
    rw [n40 _ _ (by omega), n40 _ _ (by omega)]
    have hc' := hc
    simp only [List.mem_cons, List.not_mem_nil, not_or] at hc'
    rw [k2 c k (Or.inl hc'.2.2.1) hc'.2.2.2.1 hc'.2.2.2.2.1 hc'.1 hc'.2.1, k1 c k hc]
theorem s_guide_keepMost (d : Nat) (v w : Int32) (I : am_I) (J : am_J) : ∃ I', f_guide_keepMost_0 d v w I J = some (none, I', J) ∧ I' 40 17 = (if I 40 17 = 0 then 1 else if v ≤ I 40 15 then I 40 17 else 1) ∧ I' 40 15 = (if I 40 17 = 0 then v else if v ≤ I 40 15 then I 40 15 else v) ∧ I' 40 16 = (if I 40 17 = 0 then w else if v ≤ I 40 15 then I 40 16 else w) ∧ ∀ c k, (c ≠ 40 ∨ k < 15) → I' c k = I c k := by
  have base := b_guide_keepMost_0 d v w I J
  simp only [am_b01_1] at base
  have upd : ∀ c k, (c ≠ 40 ∨ k < 15) → am_upd (am_upd (am_upd I 40 17 1) 40 15 v) 40 16 w c k = I c k := by
    intro c k h
    rcases h with h | h
    · rw [am_uc h, am_uc h, am_uc h]
    · rw [am_uk (by omega), am_uk (by omega), am_uk (by omega)]
  have u17 : am_upd (am_upd (am_upd I 40 17 1) 40 15 v) 40 16 w 40 17 = 1 := by rw [am_uk (by decide), am_uk (by decide), am_ue]
  have u15 : am_upd (am_upd (am_upd I 40 17 1) 40 15 v) 40 16 w 40 15 = v := by rw [am_uk (by decide), am_ue]
  have u16 : am_upd (am_upd (am_upd I 40 17 1) 40 15 v) 40 16 w 40 16 = w := am_ue
  by_cases h0 : I 40 17 = 0
  · rw [if_pos h0] at base
    exact ⟨_, base _ rfl, by rw [if_pos h0, u17], by rw [if_pos h0, u15], by rw [if_pos h0, u16], upd⟩
  · rw [if_neg h0] at base
    by_cases h1 : v ≤ I 40 15
    · rw [if_pos h1] at base
      exact ⟨_, base _ rfl, by rw [if_neg h0, if_pos h1], by rw [if_neg h0, if_pos h1], by rw [if_neg h0, if_pos h1], fun _ _ _ => rfl⟩
    · rw [if_neg h1] at base
      exact ⟨_, base _ rfl, by rw [if_neg h0, if_neg h1, u17], by rw [if_neg h0, if_neg h1, u15], by rw [if_neg h0, if_neg h1, u16], upd⟩

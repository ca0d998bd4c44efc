/-! read -/
theorem x_W.k {W : Nat → Int32} {K K' : Nat → Int64} (h : x_W W K) (e : ∀ w, w < 17 → K' w = K w) : x_W W K' := by
  refine ⟨fun w hw => ?_, fun w w' hw hw' q => h.2 w w' hw hw' (by rw [← e w hw, ← e w' hw']; exact q)⟩
  obtain ⟨l, h1, h2, h3, h4, h5⟩ := h.1 w hw
  exact ⟨l, h1, h2, h3, h4, (e w hw).trans h5⟩
theorem r_held (d : Nat) (J : am_J) : ∀ k b (I : am_I), b + k = 3 → ∃ I', f_m_read_243 d (nI b) I J = some (some (.int 0), I', J) ∧ (∀ j, b ≤ j → j < 3 → I' 110 j = 0) ∧ ∀ c j, (c ≠ 110 ∨ j < b) → I' c j = I c j := by
  intro k
  induction k with
  | zero =>
    intro b I hb
    have e := b_m_read_243 d (nI b) I J
    rw [if_pos (show (3 : Int32) ≤ nI b from nI_le (a := 3) (by omega) (by omega))] at e
    exact ⟨I, e _ rfl, fun j h1 h2 => by omega, fun _ _ _ => rfl⟩
  | succ k ih =>
    intro b I hb
    have e := b_m_read_243 d (nI b) I J
    rw [if_neg (show ¬ (3 : Int32) ≤ nI b from nI_ge (b := 3) (by omega) (by omega)), am_at_n (by omega) (by omega), am_b01_0, nI_1] at e
    obtain ⟨I', a1, a2, a3⟩ := ih (b + 1) (am_upd I 110 b 0) (by omega)
    refine ⟨I', e _ a1, fun j h1 h2 => ?_, fun c j h => (a3 c j (by omega)).trans (show am_upd I 110 b 0 c j = I c j from h.elim am_uc (fun q => am_uk (by omega)))⟩
    by_cases q : j = b
    · rw [a3 110 j (Or.inr (by omega)), q, am_ue]
    · exact a2 j (by omega) h2
theorem c_held (d : Nat) (J : am_J) : ∀ k b (I : am_I), b + k = 3 → ∃ I', f_slots_clear_2 d (nI b) I J = some (none, I', J) ∧ (∀ j, b ≤ j → j < 3 → I' 67 j = 0) ∧ ∀ c j, (c ≠ 67 ∨ j < b) → I' c j = I c j := by
  intro k
  induction k with
  | zero =>
    intro b I hb
    have e := b_slots_clear_2 d (nI b) I J
    rw [if_pos (show (3 : Int32) ≤ nI b from nI_le (a := 3) (by omega) (by omega))] at e
    exact ⟨I, e _ rfl, fun j h1 h2 => by omega, fun _ _ _ => rfl⟩
  | succ k ih =>
    intro b I hb
    have e := b_slots_clear_2 d (nI b) I J
    rw [if_neg (show ¬ (3 : Int32) ≤ nI b from nI_ge (b := 3) (by omega) (by omega)), am_at_n (by omega) (by omega), am_b01_0, nI_1] at e
    obtain ⟨I', a1, a2, a3⟩ := ih (b + 1) (am_upd I 67 b 0) (by omega)
    refine ⟨I', e _ a1, fun j h1 h2 => ?_, fun c j h => (a3 c j (by omega)).trans (show am_upd I 67 b 0 c j = I c j from h.elim am_uc (fun q => am_uk (by omega)))⟩
    by_cases q : j = b
    · rw [a3 67 j (Or.inr (by omega)), q, am_ue]
    · exact a2 j (by omega) h2
/-- the class starts anew by a plan -/
theorem c_anew (d : Nat) (J : am_J) {S : x_S} {z : Nat} {I : am_I} (hV : x_VS S) (h0 : S.2.2.2.2.1 = 0) (hst : x_stc I) (hz : z ≤ 400) (h26 : I 26 4 = nI z) (hC : c_C S z I) : ∃ I', am_bv (f_plan_copyFrom_0 d I J) (fun I4 J5 => am_bv (f_now_setOut_0 d I4 J5) (fun I6 J7 => am_bv (f_guide_textChanges_0 d I6 J7) (fun I8 J9 => am_bv (f_past_clear_0 d I8 J9) (fun I10 J11 => am_bv (f_slots_clear_0 d I10 J11) (fun I12 J13 => some (some (.int (0 : Int32)), am_upd I12 53 5 (0 : Int32), J13)))))) = some (some (.int 0), I', J) ∧ g_C (x_pl S) I' ∧ (∀ k, ¬ (12 + pn (x_pl S) ≤ k ∧ k < 18) → k < 34 → g_row I' 34 k = g_out (x_pl S) k) ∧ I' 34 6 = -1 ∧ (∀ b, b < 6 → I' 39 b = 0) ∧ I' 40 8 = -1 ∧ I' 40 13 = -1 ∧ I' 63 1 = 0 ∧ I' 63 2 = 0 ∧ (∀ s, s < 3 → I' 67 s = 0) ∧ I' 53 5 = 0 ∧ ∀ c k, c ∉ ([12, 13, 14, 15, 16, 17, 18, 21, 34, 35, 36, 37, 38, 39, 40, 53, 63, 67] : List Nat) → I' c k = I c k := by
  obtain ⟨I1, a1, a2, a3⟩ := c_copy d J hV h0 hst hz h26 hC
  obtain ⟨I2, b1, b2, b3, b4, b5⟩ := s_now_setOut d (x_pl S) I1 J a2
  obtain ⟨I3, i3⟩ : ∃ I3, I3 = am_upd (am_upd I2 40 8 (-1)) 40 13 (-1) := ⟨_, rfl⟩
  have k3 : ∀ c k, c ≠ 40 → I3 c k = I2 c k := fun c k h => by rw [i3, am_uc h, am_uc h]
  have e3 : f_guide_textChanges_0 d I2 J = some (none, I3, J) := b_guide_textChanges_0 d I2 J _ (by rw [i3])
  obtain ⟨I4, i4⟩ : ∃ I4, I4 = am_upd (am_upd I3 63 1 0) 63 2 0 := ⟨_, rfl⟩
  have k4 : ∀ c k, c ≠ 63 → I4 c k = I3 c k := fun c k h => by rw [i4, am_uc h, am_uc h]
  have e4 : f_past_clear_0 d I3 J = some (none, I4, J) := b_past_clear_0 d I3 J _ (by rw [i4])
  obtain ⟨I5, f1, f2, f3⟩ := c_held d J 3 0 I4 rfl
  have e5 : f_slots_clear_0 d I4 J = some (none, I5, J) := b_slots_clear_0 d I4 J _ f1
  have k6 : ∀ c k, c ≠ 53 → am_upd I5 53 5 (0 : Int32) c k = I5 c k := fun c k h => am_uc h
  have g : ∀ c k, c ≠ 40 → c ≠ 63 → c ≠ 67 → c ≠ 53 → am_upd I5 53 5 (0 : Int32) c k = I2 c k := fun c k h1 h2 h3 h4 => by
    rw [k6 c k h4, f3 c k (Or.inl h3), k4 c k h2, k3 c k h1]
  have g2 : ∀ c k, c ∉ ([34, 35, 36, 37, 38, 39, 40, 53, 63, 67] : List Nat) → am_upd I5 53 5 (0 : Int32) c k = I1 c k := fun c k hc => by
    simp only [List.mem_cons, List.not_mem_nil, not_or] at hc
    rw [g c k (by omega) (by omega) (by omega) (by omega), b5 c k (by omega) (by omega)]
  refine ⟨_, by rw [a1, am_bv_v, b1, am_bv_v, e3, am_bv_v, e4, am_bv_v, e5, am_bv_v], a2.keep (fun c k hc => g2 c k ((show ∀ c ∈ ([1, 2, 3, 12, 13, 14, 15, 16, 17, 18, 21] : List Nat), c ∉ ([34, 35, 36, 37, 38, 39, 40, 53, 63, 67] : List Nat) by decide) c hc)), fun k h1 h2 => ?_, ?_, fun b hb => ?_, ?_, ?_, ?_, ?_, fun s hs => ?_, am_ue, fun c k hc => ?_⟩
  · rw [show g_row (am_upd I5 53 5 (0 : Int32)) 34 = g_row I2 34 from g_rk_now (fun c k hc => by
      have := (show ∀ c ∈ ([13, 34, 35, 36, 37, 38] : List Nat), c ≠ 40 ∧ c ≠ 63 ∧ c ≠ 67 ∧ c ≠ 53 by decide) c hc
      exact g c k this.1 this.2.1 this.2.2.1 this.2.2.2)]
    exact b2 k h1 h2
  · rw [g 34 6 (by decide) (by decide) (by decide) (by decide)]; exact b3
  · rw [g 39 b (by decide) (by decide) (by decide) (by decide)]; exact b4 b hb
  · rw [k6 40 8 (by decide), f3 40 8 (Or.inl (by decide)), k4 40 8 (by decide), i3, am_uk (by decide), am_ue]
  · rw [k6 40 13 (by decide), f3 40 13 (Or.inl (by decide)), k4 40 13 (by decide), i3, am_ue]
  · rw [k6 63 1 (by decide), f3 63 1 (Or.inl (by decide)), i4, am_uk (by decide), am_ue]
  · rw [k6 63 2 (by decide), f3 63 2 (Or.inl (by decide)), i4, am_ue]
  · rw [k6 67 s (by decide)]; exact f2 s (Nat.zero_le _) hs
  · have hc' := hc
    simp only [List.mem_cons, List.not_mem_nil, not_or] at hc'
    rw [g2 c k (by simp; omega), a3 c k (by simp; omega)]
/-- the reference starts anew -/
theorem r_anew (d : Nat) (J : am_J) {S : x_S} {sd z nb : Nat} {I : am_I} (hsd : sd < 2) (hV : x_VS S) (h0 : S.2.2.2.2.1 = 0) (hz : z ≤ 420 * sd + 400) (hnb : nb ≤ 130 * sd + 80) (hC : r_C sd S z nb I J) (h13 : I 68 13 = 0) (h15 : I 68 15 = 0) (h19 : I 68 19 = nI sd) : ∃ I', f_m_read_134 d I J = some (some (.int 0), I', J) ∧ m_C (x_pl S) sd I' ∧ g_R (x_pl S) (g_out (x_pl S)) (I' 97) ∧ I' 68 17 = -1 ∧ I' 68 50 = 0 ∧ I' 68 62 = 0 ∧ (∀ s, s < 3 → I' 110 s = 0) ∧ ∀ c k, c ∉ ([95, 96, 97, 98, 99, 110] : List Nat) → (c ≠ 68 ∨ k ∉ ([17, 18, 45, 49, 50, 62] : List Nat)) → I' c k = I c k := by
  obtain ⟨I1, i1⟩ : ∃ I1, I1 = am_upd (am_upd I 68 17 (-1 : Int32)) 68 18 (nI sd) := ⟨_, rfl⟩
  have k1 : ∀ c k, (c ≠ 68 ∨ (k ≠ 17 ∧ k ≠ 18)) → I1 c k = I c k := fun c k h => by
    have u : ∀ (I : am_I) k0 v, (c ≠ 68 ∨ k ≠ k0) → am_upd I 68 k0 v c k = I c k := fun I k0 v h => h.elim am_uc am_uk
    rw [i1, u _ _ _ (by omega), u _ _ _ (by omega)]
  have C1 : r_C sd S z nb I1 J := by
    obtain ⟨C1, ⟨C2, C3, C4⟩, C5, C6⟩ := hC
    exact ⟨C1.k (fun c k hc => k1 c k (by omega)), ⟨(k1 82 sd (by omega)).trans C2, (k1 83 sd (by omega)).trans C3, (k1 84 sd (by omega)).trans C4⟩, C5.k (fun c k hc => k1 c k (by omega)), C6.k (fun c k hc => k1 c k (by omega)) (fun c k hc _ => k1 c k (by omega)) (fun c k hc _ => k1 c k (by omega)) (Nat.le_refl _) (Nat.le_refl _)⟩
  have mC1 := r_MC hsd hV h0 hz hnb C1 (by rw [i1, am_ue])
  obtain ⟨I2, b1, b2, b3, b4, b5, b6⟩ := s_m_begins0 d sd (x_pl S) I1 J 63 mC1
  have hn := mC1.1.1
  obtain ⟨I3, i3⟩ : ∃ I3, I3 = am_upd (am_upd (am_cpy I2 98 0 97 0 40) 68 50 0) 68 62 0 := ⟨_, rfl⟩
  have k3 : ∀ c k, c ≠ 97 → (c ≠ 68 ∨ (k ≠ 50 ∧ k ≠ 62)) → I3 c k = I2 c k := fun c k h1 h2 => by
    have u : ∀ (I : am_I) k0 v, (c ≠ 68 ∨ k ≠ k0) → am_upd I 68 k0 v c k = I c k := fun I k0 v h => h.elim am_uc am_uk
    rw [i3, u _ _ _ (by omega), u _ _ _ (by omega), am_cc h1]
  obtain ⟨I4, d1, d2, d3⟩ := r_held d J 3 0 I3 rfl
  have run : f_m_read_134 d I J = some (some (.int 0), I4, J) := by
    refine b_m_read_134 d I J _ ?_
    rw [h13, h15, if_pos (show (0 : Int32) ≤ 0 by decide), if_pos (show (0 : Int32) ≤ 0 by decide), am_uk (show 13 ≠ 17 by decide), h13, if_pos (show (0 : Int32) ≤ 0 by decide), am_uk (show 15 ≠ 17 by decide), h15, if_pos (show (0 : Int32) ≤ 0 by decide), am_uk (show 19 ≠ 17 by decide), h19, ← i1, b1, am_bv_v]
    refine lo_read_207 d J _ 40 0 I2 rfl ?_
    rw [← i3]
    exact d1
  have k4 : ∀ c k, c ≠ 97 → c ≠ 110 → (c ≠ 68 ∨ (k ≠ 50 ∧ k ≠ 62)) → I4 c k = I2 c k := fun c k h1 h2 h3 => (d3 c k (Or.inl h2)).trans (k3 c k h1 h3)
  refine ⟨I4, run, b5.keep (k4 68 18 (by decide) (by decide) (Or.inr (by decide))) (fun c k hc => ?_), fun k h1 h2 => ?_, ?_, ?_, ?_, fun s hs => d2 s (Nat.zero_le _) hs, fun c k h1 h2 => ?_⟩
  · have := (show ∀ c ∈ m_Cc, c ≠ 97 ∧ c ≠ 110 ∧ c ≠ 68 by decide) c hc
    exact k4 c k this.1 this.2.1 (Or.inl this.2.2)
  · rw [d3 97 k (Or.inl (by decide)), i3, am_uc (by decide), am_uc (by decide), am_ce (Nat.zero_le _) (by omega), Nat.sub_zero, Nat.zero_add, b2 k h1, g_outS63 _ hn]
  · rw [k4 68 17 (by decide) (by decide) (Or.inr (by decide)), b6 68 17 ⟨by decide, Or.inr (by decide)⟩, i1, am_uk (by decide), am_ue]
  · rw [d3 68 50 (Or.inl (by decide)), i3, am_uk (by decide), am_ue]
  · rw [d3 68 62 (Or.inl (by decide)), i3, am_ue]
  · simp only [List.mem_cons, List.not_mem_nil, not_or] at h1 h2
    rw [k4 c k (by omega) (by omega) (by omega), b6 c k ⟨by simp; omega, by omega⟩, k1 c k (by omega)]

/-! the guide's play is the play that goes -/
theorem s_guide_trial_copyFrom (d : Nat) (I : am_I) (J : am_J) (hf : I 34 10 = 0 ∨ I 34 10 = 1) : ∃ I', f_guide_trial_copyFrom_0 d I J = some (none, I', J) ∧ g_row I' 47 = g_row I 34 ∧ I' 47 6 = I 34 6 ∧ (∀ b, b < 6 → I' 52 b = I 39 b) ∧ I' 47 10 = I 34 10 ∧ ∀ c k, (c ≠ 47 ∨ k < 6 ∨ 10 < k) → c ≠ 48 → c ≠ 49 → c ≠ 50 → c ≠ 51 → c ≠ 52 → I' c k = I c k := by
  obtain ⟨I0, e0⟩ : ∃ I0, I0 = am_upd (am_upd (am_upd (am_upd (am_upd I 47 7 (I 34 7)) 47 8 (I 34 8)) 47 9 (I 34 9)) 47 10 (I 34 10)) 47 6 (I 34 6) := ⟨_, rfl⟩
  have k0 : ∀ c k, c ≠ 47 ∨ k < 6 ∨ 10 < k → I0 c k = I c k := by
    intro c k hc
    rw [e0]
    by_cases e : c = 47
    · subst e
      have hc : k < 6 ∨ 10 < k := hc.resolve_left (fun q => q rfl)
      rw [am_uk (by omega), am_uk (by omega), am_uk (by omega), am_uk (by omega), am_uk (by omega)]
    · rw [am_uc e, am_uc e, am_uc e, am_uc e, am_uc e]
  have v0 : I0 47 7 = I 34 7 ∧ I0 47 8 = I 34 8 ∧ I0 47 9 = I 34 9 ∧ I0 47 10 = I 34 10 ∧ I0 47 6 = I 34 6 := by
    rw [e0]
    refine ⟨?_, ?_, ?_, ?_, ?_⟩ <;> simp [am_upd]
  obtain ⟨I', e1⟩ : ∃ I', I' = am_cpy (am_cpy (am_cpy (am_cpy (am_cpy I0 35 0 48 0 6) 36 0 49 0 6) 37 0 50 0 6) 38 0 51 0 6) 39 0 52 0 6 := ⟨_, rfl⟩
  have k1 : ∀ c k, c ≠ 48 → c ≠ 49 → c ≠ 50 → c ≠ 51 → c ≠ 52 → I' c k = I0 c k := by
    intro c k n1 n2 n3 n4 n5
    rw [e1, am_cc n5, am_cc n4, am_cc n3, am_cc n2, am_cc n1]
  have v1 : ∀ b, b < 6 → I' 48 b = I 35 b ∧ I' 49 b = I 36 b ∧ I' 50 b = I 37 b ∧ I' 51 b = I 38 b ∧ I' 52 b = I 39 b := by
    intro b hb
    have z : ∀ c, c ≠ 47 → I0 c (0 + (b - 0)) = I c b := fun c hc => by rw [k0 c _ (Or.inl hc)]; congr 1; omega
    rw [e1]
    refine ⟨?_, ?_, ?_, ?_, ?_⟩
    · rw [am_cc (by decide), am_cc (by decide), am_cc (by decide), am_cc (by decide), am_ce (by omega) (by omega), z _ (by decide)]
    · rw [am_cc (by decide), am_cc (by decide), am_cc (by decide), am_ce (by omega) (by omega), am_cc (by decide), z _ (by decide)]
    · rw [am_cc (by decide), am_cc (by decide), am_ce (by omega) (by omega), am_cc (by decide), am_cc (by decide), z _ (by decide)]
    · rw [am_cc (by decide), am_ce (by omega) (by omega), am_cc (by decide), am_cc (by decide), am_cc (by decide), z _ (by decide)]
    · rw [am_ce (by omega) (by omega), am_cc (by decide), am_cc (by decide), am_cc (by decide), am_cc (by decide), z _ (by decide)]
  refine ⟨I', b_guide_trial_copyFrom_0 d I J _ ?_, ?_, ?_, fun b hb => (v1 b hb).2.2.2.2, ?_, fun c k h1 n1 n2 n3 n4 n5 => by rw [k1 c k n1 n2 n3 n4 n5, k0 c k h1]⟩
  · have x8 : ∀ v, am_upd I 47 7 v 34 8 = I 34 8 := fun v => am_uc (by decide)
    have x9 : ∀ v w, am_upd (am_upd I 47 7 v) 47 8 w 34 9 = I 34 9 := fun v w => by rw [am_uc (by decide), am_uc (by decide)]
    have x10 : ∀ v w x, am_upd (am_upd (am_upd I 47 7 v) 47 8 w) 47 9 x 34 10 = I 34 10 := fun v w x => by rw [am_uc (by decide), am_uc (by decide), am_uc (by decide)]
    have x6 : ∀ v w x y, am_upd (am_upd (am_upd (am_upd I 47 7 v) 47 8 w) 47 9 x) 47 10 y 34 6 = I 34 6 := fun v w x y => by rw [am_uc (by decide), am_uc (by decide), am_uc (by decide), am_uc (by decide)]
    simp only [x8, x9, x10, x6]
    rw [show (0 : Int32).toNatClampNeg = 0 from rfl, show (6 : Int32).toNatClampNeg = 6 from rfl, ← e0, ← e1, am_i0, am_i6]
    have fin : ∀ k : am_Out, am_b01 (I 34 10) k none = k := fun k => by rcases hf with h | h <;> rw [h] <;> first | exact am_b01_0 | exact am_b01_1
    rw [fin, am_cpc_n (by omega) (by omega) (by omega) (by omega), am_cpc_n (by omega) (by omega) (by omega) (by omega), am_cpc_n (by omega) (by omega) (by omega) (by omega), am_cpc_n (by omega) (by omega) (by omega) (by omega), am_cpc_n (by omega) (by omega) (by omega) (by omega)]
  · have h47 : ∀ k, I' 47 k = I0 47 k := fun k => k1 47 k (by decide) (by decide) (by decide) (by decide) (by decide)
    have h13 : ∀ k, I' 13 k = I 13 k := fun k => (k1 13 k (by decide) (by decide) (by decide) (by decide) (by decide)).trans (k0 13 k (Or.inl (by decide)))
    funext k
    by_cases c1 : k < 6
    · rw [g_row_l c1, g_row_l c1]; exact (v1 k c1).1
    by_cases c2 : k < 12
    · obtain ⟨b, rfl⟩ : ∃ b, k = 6 + b := ⟨k - 6, by omega⟩
      rw [g_row_r (by omega), g_row_r (by omega)]; exact (v1 b (by omega)).2.1
    by_cases c3 : k < 18
    · obtain ⟨b, rfl⟩ : ∃ b, k = 12 + b := ⟨k - 12, by omega⟩
      rw [g_row_m (by omega), g_row_m (by omega), h13, (v1 b (by omega)).1]
    by_cases c4 : k < 24
    · obtain ⟨b, rfl⟩ : ∃ b, k = 18 + b := ⟨k - 18, by omega⟩
      rw [g_row_e (by omega), g_row_e (by omega)]; exact (v1 b (by omega)).2.2.1
    by_cases c5 : k < 30
    · obtain ⟨b, rfl⟩ : ∃ b, k = 24 + b := ⟨k - 24, by omega⟩
      rw [g_row_s (by omega), g_row_s (by omega)]; exact (v1 b (by omega)).2.2.2.1
    by_cases c6 : k < 34
    · rcases (show k = 30 ∨ k = 31 ∨ k = 32 ∨ k = 33 by omega) with rfl | rfl | rfl | rfl
      · rw [g_row_30, g_row_30, h47, v0.1]
      · rw [g_row_31, g_row_31, h47, v0.2.1]
      · rw [g_row_32, g_row_32, h47, v0.2.2.1]
      · rw [g_row_33, g_row_33, h47, v0.2.2.2.1]
    · unfold g_row
      rw [if_neg c1, if_neg c2, if_neg c3, if_neg c4, if_neg c5, if_neg (by omega), if_neg (by omega), if_neg (by omega), if_neg (by omega), if_neg c1, if_neg c2, if_neg c3, if_neg c4, if_neg c5, if_neg (by omega), if_neg (by omega), if_neg (by omega), if_neg (by omega)]
  · rw [k1 47 6 (by decide) (by decide) (by decide) (by decide) (by decide), v0.2.2.2.2]
  · rw [k1 47 10 (by decide) (by decide) (by decide) (by decide) (by decide), v0.2.2.2.1]

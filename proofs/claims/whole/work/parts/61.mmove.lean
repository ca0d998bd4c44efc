/-! the reference's moves -/
theorem s_m_setsOf (d b : Nat) (I : am_I) (J : am_J) (think beg : Int32) (hb : b < 6) : ∃ I', f_m_setsOf_0 d (nI b) think beg I J = some (none, I', J) ∧ (∀ k, k < 6 → I' 95 k = g_fact (I 98) b think beg k) ∧ ∀ c k, c ≠ 95 → I' c k = I c k := by
  obtain ⟨I1, e1⟩ : ∃ I1, I1 = am_upd (am_upd (am_upd (am_upd (am_upd (am_upd I 95 0 think) 95 1 (I 98 (12 + b))) 95 2 beg) 95 3 (beg - I 98 (6 + b))) 95 4 (I 98 b)) 95 5 (I 98 32) := ⟨_, rfl⟩
  refine ⟨I1, b_m_setsOf_0 d (nI b) think beg I J _ ?_, fun k hk => ?_, fun c k hc => ?_⟩
  · rw [am_i12, am_i6, nI_add, nI_add, aq_06, am_at_n (by omega) (by omega), aq_16, aq_26, am_at_n (by omega) (by omega), aq_36, am_at_n (by omega) (by omega), aq_46, aq_32, aq_56]
    have x : ∀ (X : am_I) (k : Nat) (w : Int32), (∀ j, X 98 j = I 98 j) → ∀ j, am_upd X 95 k w 98 j = I 98 j := fun X k w h j => by rw [am_uc (by decide)]; exact h j
    have x0 := x I 0 think (fun _ => rfl)
    rw [x0]
    have x1 := x _ 1 (I 98 (12 + b)) x0
    have x2 := x _ 2 beg x1
    rw [x2]
    have x3 := x _ 3 (beg - I 98 (6 + b)) x2
    rw [x3]
    have x4 := x _ 4 (I 98 b) x3
    rw [x4, e1]
  · rw [e1]
    rcases (show k = 0 ∨ k = 1 ∨ k = 2 ∨ k = 3 ∨ k = 4 ∨ k = 5 by omega) with rfl | rfl | rfl | rfl | rfl | rfl <;> simp [am_upd, g_fact]
  · rw [e1, am_uc hc, am_uc hc, am_uc hc, am_uc hc, am_uc hc, am_uc hc]
theorem m_tells (d a b v : Nat) (p : g_Plan) (I I1 : am_I) (J : am_J) (think beg x y z : Int32) (r : g_Row) (hC : m_C p v I) (h95 : ∀ k, k < 6 → I1 95 k = g_fact r b think beg k) (hk : ∀ c k, c ∉ ([95, 96] : List Nat) → (c ≠ 68 ∨ k ≠ 45) → I1 c k = I c k) (ha : (a = 0 ∧ x = 1 ∧ y = -999 ∧ z = 999) ∨ (a = 1 ∧ x = 1 ∧ y = 0 ∧ z = 99) ∨ (a = 2 ∧ x = 0 ∧ y = -999 ∧ z = 999)) (hb : b < pn p) : ∃ I', f_m_tells_0 d (nI (18 * v + 6 * a + b)) x y z I1 J = some (some (.int (g_ask p a r b think beg)), I', J) ∧ (∀ k, k < 6 → I' 95 k = g_fact r b think beg k) ∧ ∀ c k, c ∉ ([95, 96] : List Nat) → (c ≠ 68 ∨ k ≠ 45) → I' c k = I c k := by
  obtain ⟨I', a1, k1⟩ := hC.2.2.2.2.2.2.2.2.2.2.2 I1 (fun c k hc => hk c k ((show ∀ c ∈ ([85, 86, 87, 88, 89, 90, 91, 92, 93] : List Nat), c ∉ ([95, 96] : List Nat) by decide) c hc.c) (Or.inl ((show ∀ c ∈ ([85, 86, 87, 88, 89, 90, 91, 92, 93] : List Nat), c ≠ 68 by decide) c hc.c))) d J a b x y z ha hb
  refine ⟨I', ?_, fun k h6 => by rw [k1 95 k (by decide) (Or.inl (by decide))]; exact h95 k h6, fun c k hc h => ?_⟩
  · rw [a1, hC.1.2.2.2.2.1 a b (I1 95) (g_fact r b think beg) h95]
    rfl
  · have hc' := hc
    simp only [List.mem_cons, List.not_mem_nil, not_or] at hc'
    rw [k1 c k hc'.2.1 h, hk c k hc h]
theorem s_m_worthOf (d b v : Nat) (p : g_Plan) (I : am_I) (J : am_J) (think beg : Int32) (hC : m_C p v I) (hb : b < pn p) : ∃ I', f_m_worthOf_0 d (nI b) think beg I J = some (some (.int (g_ask p 0 (I 98) b think beg)), I', J) ∧ (∀ k, k < 6 → I' 95 k = g_fact (I 98) b think beg k) ∧ ∀ c k, c ∉ ([95, 96] : List Nat) → (c ≠ 68 ∨ k ≠ 45) → I' c k = I c k := by
  have hb6 : b < 6 := Nat.lt_of_lt_of_le hb hC.1.1
  obtain ⟨I1, a1, h1, k1⟩ := s_m_setsOf d b I J think beg hb6
  obtain ⟨I', a2, h2, k2⟩ := m_tells d 0 b v p I I1 J think beg 1 (-999) 999 (I 98) hC h1 (fun c k hc _ => by
    simp only [List.mem_cons, List.not_mem_nil, not_or] at hc
    exact k1 c k hc.1) (Or.inl ⟨rfl, rfl, rfl, rfl⟩) hb
  have base := b_m_worthOf_0 d (nI b) think beg I J
  have e : (18 : Int32) * I1 68 18 + nI b = nI (18 * v + 6 * 0 + b) := by
    rw [k1 68 18 (by decide), hC.2.2.1, am_i18, pk_mul, nI_add]
    rfl
  rw [a1, am_bv_v, e, a2, am_bi_i] at base
  exact ⟨I', base _ rfl, h2, k2⟩
theorem s_m_falls (d b v : Nat) (p : g_Plan) (I : am_I) (J : am_J) (hC : m_C p v I) : ∃ I', f_m_falls_0 d (nI b) I J = some (none, I', J) ∧ I' 98 = g_fall p (I 98) b ∧ ∀ c k, c ≠ 98 → I' c k = I c k := by
  have hv := hC.2.1
  obtain ⟨I1, e1⟩ : ∃ I1, I1 = am_upd (am_upd (am_upd (am_upd I 98 30 (pck p)) 98 31 (nI b)) 98 32 (I 98 32 - pfl p)) 98 33 1 := ⟨_, rfl⟩
  refine ⟨I1, b_m_falls_0 d (nI b) I J _ ?_, ?_, fun c k hc => ?_⟩
  · rw [hC.2.2.1, am_at_n hv (by omega), hC.2.2.2.2.2.1, aq_30, aq_31, aq_32]
    have x1 : ∀ u w, am_upd (am_upd I 98 30 u) 98 31 w 68 18 = nI v := fun u w => by rw [am_uc (by decide), am_uc (by decide), hC.2.2.1]
    have x2 : ∀ u w, am_upd (am_upd I 98 30 u) 98 31 w 84 v = pfl p := fun u w => by rw [am_uc (by decide), am_uc (by decide), hC.2.2.2.2.2.2.1]
    have x3 : ∀ u w, am_upd (am_upd I 98 30 u) 98 31 w 98 32 = I 98 32 := fun u w => by rw [am_uk (by decide), am_uk (by decide)]
    rw [x1, am_at_n hv (by omega), aq_32, aq_33, x2, x3, e1]
  · rw [e1, m_r, m_r, m_r, m_r]
    rfl
  · rw [e1, am_uc hc, am_uc hc, am_uc hc, am_uc hc]
theorem s_m_movesFrom (d b v : Nat) (p : g_Plan) (I : am_I) (J : am_J) (think beg : Int32) (hC : m_C p v I) (hb : b < pn p) : ∃ I', f_m_movesFrom_0 d (nI b) think beg I J = some (some (.int (g_mv p (I 99) (I 68 49) (I 98) b beg think).1), I', J) ∧ I' 98 = (g_mv p (I 99) (I 68 49) (I 98) b beg think).2 ∧ ∀ c k, m_F c k → I' c k = I c k := by
  have hb6 : b < 6 := Nat.lt_of_lt_of_le hb hC.1.1
  have hv := hC.2.1
  have base := b_m_movesFrom_0 d (nI b) think beg I J
  rw [hC.2.2.1, am_at_n hv (by omega), hC.2.2.2.2.2.1] at base
  unfold g_mv
  by_cases hend : beg + think ≤ pck p
  · rw [if_pos hend] at base
    rw [if_pos hend]
    obtain ⟨I1, a1, h1, k1⟩ := s_m_worthOf d b v p I J think beg hC hb
    obtain ⟨I2, a2, -, k2⟩ := m_tells d 1 b v p I I1 J think beg 1 0 99 (I 98) hC h1 k1 (Or.inr (Or.inl ⟨rfl, rfl, rfl, rfl⟩)) hb
    have e : (18 : Int32) * I1 68 18 + 6 + nI b = nI (18 * v + 6 * 1 + b) := by
      rw [k1 68 18 (by decide) (Or.inr (by decide)), hC.2.2.1, am_i18, pk_mul, am_i6, nI_add, nI_add]
    rw [a1, am_bi_i, e, a2, am_bi_i, aq_32, aq_32, am_i6, am_i12, nI_add, nI_add, am_at_n (by omega) (by omega), am_at_n (by omega) (by omega), am_at_n (by omega) (by omega), am_at_n (by omega) (by omega), aq_30, aq_31, aq_30, am_at_n (by omega) (by omega), am_at_n (by omega) (by omega), am_at_n (by omega) (by omega)] at base
    obtain ⟨I5, e5⟩ : ∃ I5, I5 = am_upd (am_upd (am_upd (am_upd (am_upd I2 98 32 (I2 98 32 + g_ask p 0 (I 98) b think beg)) 98 b (am_upd I2 98 32 (I2 98 32 + g_ask p 0 (I 98) b think beg) 98 b - 1)) 98 (12 + b) (am_upd (am_upd I2 98 32 (I2 98 32 + g_ask p 0 (I 98) b think beg)) 98 b (am_upd I2 98 32 (I2 98 32 + g_ask p 0 (I 98) b think beg) 98 b - 1) 98 (12 + b) + 1)) 98 30 (beg + think)) 98 31 (nI b) := ⟨_, rfl⟩
    rw [← e5] at base
    have r2 : I2 98 = I 98 := by
      funext k
      exact k2 98 k (by decide) (Or.inl (by decide))
    have k5 : ∀ c k, c ≠ 98 → I5 c k = I2 c k := fun c k hc => by rw [e5, am_uc hc, am_uc hc, am_uc hc, am_uc hc, am_uc hc]
    have r5 : I5 98 = g_set (g_set (g_set (g_set (g_set (I 98) 32 (I 98 32 + g_ask p 0 (I 98) b think beg)) b (I 98 b - 1)) (12 + b) (I 98 (12 + b) + 1)) 30 (beg + think)) 31 (nI b) := by
      rw [e5, m_r, m_r, m_r, m_r, m_r, g_set_n _ _ (show 12 + b ≠ b by omega), g_set_n _ _ (show b ≠ 32 by omega), g_set_n _ _ (show 12 + b ≠ 32 by omega), r2]
    have k6 : ∀ (w : Int32) c k, m_F c k → am_upd I5 98 (6 + b) w c k = I c k := fun w c k hc => by
      have hc3 := hc.c
      rw [am_uc hc3.2.2, k5 c k hc3.2.2]
      exact k2 c k (by simp only [List.mem_cons, List.not_mem_nil, not_or]; exact ⟨hc3.1, hc3.2.1, not_false⟩) hc.2
    have h49 : I5 68 49 = I 68 49 := by rw [k5 68 49 (by decide), k2 68 49 (by decide) (Or.inr (by decide))]
    have h99 : I5 99 b = I 99 b := by rw [k5 99 b (by decide), k2 99 b (by decide) (Or.inl (by decide))]
    have h30 : I5 98 30 = beg + think := by
      rw [r5, g_set_n _ _ (by decide), g_set_e]
    rw [h49, h30] at base
    by_cases hh : I 68 49 = nI b
    · rw [if_pos hh] at base
      refine ⟨_, base _ rfl, ?_, k6 _⟩
      rw [m_r, r5, if_pos hh]
    · rw [if_neg hh] at base
      refine ⟨_, base _ rfl, ?_, k6 _⟩
      rw [m_r, r5, if_neg hh, h99]
  · rw [if_neg hend] at base
    rw [if_neg hend]
    obtain ⟨I', a1, r1, k1⟩ := s_m_falls d b v p I J hC
    rw [a1, am_bv_v] at base
    exact ⟨I', base _ rfl, r1, fun c k hc => k1 c k hc.c.2.2⟩
theorem s_m_movesNow (d b v : Nat) (p : g_Plan) (I : am_I) (J : am_J) (think : Int32) (hC : m_C p v I) (hb : b < pn p) (hat : g_at (I 98)) : ∃ I', f_m_movesNow_0 d (nI b) think I J = some (some (.int (g_mv p (I 99) (I 68 49) (I 98) b (g_soon p (I 98) b) think).1), I', J) ∧ I' 98 = (g_mv p (I 99) (I 68 49) (I 98) b (g_soon p (I 98) b) think).2 ∧ ∀ c k, m_F c k → I' c k = I c k := by
  have hb6 : b < 6 := Nat.lt_of_lt_of_le hb hC.1.1
  obtain ⟨I', a1, r1, k1⟩ := s_m_movesFrom d b v p I J think (g_soon p (I 98) b) hC hb
  have base := b_m_movesNow_0 d (nI b) think I J
  rw [s_m_beginsAt d b v p I J hC hb6 hat, am_bi_i, a1, am_bi_i] at base
  exact ⟨I', base _ rfl, r1, k1⟩
theorem s_m_offersNow (d b v : Nat) (p : g_Plan) (I : am_I) (J : am_J) (hC : m_C p v I) (hb : b < pn p) (hat : g_at (I 98)) : ∃ I', f_m_offersNow_0 d (nI b) I J = some (some (.int (g_of p (I 98) b).1), I', J) ∧ I' 98 = (g_of p (I 98) b).2 ∧ ∀ c k, m_F c k → I' c k = I c k := by
  have hb6 : b < 6 := Nat.lt_of_lt_of_le hb hC.1.1
  have hv := hC.2.1
  have base := b_m_offersNow_0 d (nI b) I J
  rw [s_m_beginsAt d b v p I J hC hb6 hat, am_bi_i, hC.2.2.1, am_at_n hv (by omega), hC.2.2.2.2.2.1] at base
  unfold g_of
  by_cases hend : g_soon p (I 98) b ≤ pck p
  · rw [if_pos hend] at base
    rw [if_pos hend]
    obtain ⟨I1, a1, h1, k1⟩ := s_m_setsOf d b I J 0 (g_soon p (I 98) b) hb6
    obtain ⟨I2, a2, -, k2⟩ := m_tells d 2 b v p I I1 J 0 (g_soon p (I 98) b) 0 (-999) 999 (I 98) hC h1 (fun c k hc _ => by
      simp only [List.mem_cons, List.not_mem_nil, not_or] at hc
      exact k1 c k hc.1) (Or.inr (Or.inr ⟨rfl, rfl, rfl, rfl⟩)) hb
    have e : (18 : Int32) * I1 68 18 + 12 + nI b = nI (18 * v + 6 * 2 + b) := by
      rw [k1 68 18 (by decide), hC.2.2.1, am_i18, pk_mul, am_i12, nI_add, nI_add]
    have r2 : I2 98 = I 98 := by
      funext k
      exact k2 98 k (by decide) (Or.inl (by decide))
    rw [a1, am_bv_v, e, a2, am_bi_i, aq_30, aq_31] at base
    obtain ⟨I3, e3⟩ : ∃ I3, I3 = am_upd (am_upd I2 98 30 (g_soon p (I 98) b)) 98 31 (nI b) := ⟨_, rfl⟩
    rw [← e3] at base
    have r3 : I3 98 = g_set (g_set (I 98) 31 (nI b)) 30 (g_soon p (I 98) b) := by
      rw [e3, m_r, m_r, r2, g_set_c _ _ _ (by decide)]
    have k3 : ∀ c k, m_F c k → I3 c k = I c k := fun c k hc => by
      have hc3 := hc.c
      rw [e3, am_uc hc3.2.2, am_uc hc3.2.2]
      exact k2 c k (by simp only [List.mem_cons, List.not_mem_nil, not_or]; exact ⟨hc3.1, hc3.2.1, not_false⟩) hc.2
    have k4 : ∀ k w c j, m_F c j → am_upd I3 98 k w c j = I c j := fun k w c j hc => by rw [am_uc hc.c.2.2]; exact k3 c j hc
    by_cases hd : g_ask p 2 (I 98) b 0 (g_soon p (I 98) b) ≤ 0
    · rw [if_pos hd] at base
      rw [if_pos hd]
      have e68 : I3 68 18 = nI v := by rw [k3 68 18 ⟨by decide, Or.inr (by decide)⟩, hC.2.2.1]
      have e83 : I3 83 v = pck p := by rw [k3 83 v ⟨by decide, Or.inl (by decide)⟩, hC.2.2.2.2.2.1]
      have e30 : I3 98 30 = g_soon p (I 98) b := by rw [r3, g_set_e]
      rw [aq_30, e68, am_at_n hv (by omega), e83, e30, aq_30, aq_30] at base
      have hlt : g_soon p (I 98) b ≤ pck p := hend
      have hck := hC.1.2.2.1
      have hmn : am_mn (g_soon p (I 98) b + 1) (pck p) = if pck p ≤ g_soon p (I 98) b then pck p else g_soon p (I 98) b + 1 := by
        rw [am_mn_eq]
        unfold am_mnC
        have hs : (g_soon p (I 98) b).toInt ≤ 500 := by
          have := Int32.le_iff_toInt_le.mp hlt
          omega
        have hs1 := Int32.le_toInt (g_soon p (I 98) b)
        have e1 : (g_soon p (I 98) b + 1).toInt = (g_soon p (I 98) b).toInt + 1 := by
          rw [Int32.toInt_add, show (1 : Int32).toInt = 1 from rfl]
          apply Int.bmod_eq_of_le <;> omega
        by_cases h : pck p ≤ g_soon p (I 98) b
        · rw [if_pos h, if_pos (Int32.lt_iff_toInt_lt.mpr (by rw [e1]; have := Int32.le_iff_toInt_le.mp h; omega))]
        · rw [if_neg h, if_neg (fun q => h (Int32.le_iff_toInt_le.mpr (by have := Int32.lt_iff_toInt_lt.mp q; rw [e1] at this; omega)))]
      rw [hmn]
      by_cases h : pck p ≤ g_soon p (I 98) b
      · rw [if_pos h] at base
        refine ⟨I3, base _ rfl, ?_, k3⟩
        rw [if_pos h, r3, Int32.le_antisymm hlt h]
      · rw [if_neg h] at base
        refine ⟨_, base _ rfl, ?_, k4 _ _⟩
        rw [if_neg h, m_r, r3]
        funext k
        unfold g_set
        by_cases hk : k = 30 <;> simp [hk]
    · rw [if_neg hd] at base
      rw [if_neg hd]
      have e32 : I3 98 32 = I 98 32 := by rw [r3, g_set_n _ _ (by decide), g_set_n _ _ (by decide)]
      rw [aq_32, aq_32, am_i18, nI_add, am_at_n (by omega) (by omega), e32] at base
      refine ⟨_, base _ rfl, ?_, fun c k hc => by rw [am_uc hc.c.2.2]; exact k4 _ _ c k hc⟩
      rw [m_r, m_r, r3]
  · rw [if_neg hend] at base
    rw [if_neg hend]
    obtain ⟨I', a1, r1, k1⟩ := s_m_falls d b v p I J hC
    rw [a1, am_bv_v] at base
    exact ⟨I', base _ rfl, r1, fun c k hc => k1 c k hc.c.2.2⟩
theorem s_m_drops (d b v : Nat) (p : g_Plan) (I : am_I) (J : am_J) (hC : m_C p v I) (hb : b < pn p) : ∃ I', f_m_drops_0 d (nI b) I J = some (none, I', J) ∧ I' 98 = g_go p (I 98) b ∧ ∀ c k, c ≠ 98 → I' c k = I c k := by
  have hn : pn p ≤ 6 := hC.1.1
  have hv := hC.2.1
  have base := b_m_drops_0 d (nI b) I J
  rw [aq_32, hC.2.2.1, am_i6, am_i18, pk_mul, nI_add, nI_add, am_at_n (by omega) (by omega), aq_32, am_at_n (by omega) (by omega), hC.2.2.2.2.2.2.2.2.1 b hb] at base
  refine ⟨_, base _ rfl, ?_, fun c k hc => by rw [am_uc hc, am_uc hc]⟩
  rw [m_r, m_r]
  rfl

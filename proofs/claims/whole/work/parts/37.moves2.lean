/-! moves, offers, boards let go -/
theorem g_set_c (r : g_Row) {i j : Nat} (x y : Int32) (h : i ≠ j) : g_set (g_set r i x) j y = g_set (g_set r j y) i x := by
  funext k
  unfold g_set
  by_cases h1 : k = j
  · by_cases h2 : k = i
    · omega
    · simp [h1, show ¬ j = i by omega]
  · simp [h1]
theorem am_ring1 (x y : Int32) : x - (y - 1) = x - y + 1 := by grind
theorem s_now_makeMove (d b : Nat) (p : g_Plan) (I : am_I) (J : am_J) (beg think : Int32) (hC : g_C p I) (hb : b < pn p) (hlt : I 34 6 = nI b → I 39 b = 0) : ∃ I', f_now_makeMove_0 d (nI b) beg think I J = some (some (.int (g_mv p (I 39) (I 34 6) (g_row I 34) b beg think).1), I', J) ∧ g_row I' 34 = (g_mv p (I 39) (I 34 6) (g_row I 34) b beg think).2 ∧ ∀ c k, (c ≠ 34 ∨ k < 7 ∨ 10 < k) → c ≠ 35 → c ≠ 36 → c ≠ 19 → c ≠ 20 → I' c k = I c k := by
  have hb6 : b < 6 := Nat.lt_of_lt_of_le hb hC.1.1
  have h3 : I 12 8 = pck p := hC.2.2.2.1
  unfold g_mv
  by_cases hend : beg + think ≤ pck p
  · rw [if_pos hend]
    obtain ⟨I1, a1, k1⟩ := s_now_ask d 0 b p I J beg think hC (by omega) hb
    have hrow1 : g_row I1 34 = g_row I 34 := g_rk_now (fun c k hc => k1 c k (fun e => by subst e; revert hc; decide) (fun e => by subst e; revert hc; decide))
    have hC1 : g_C p I1 := hC.keep (fun c k hc => k1 c k (fun e => by subst e; revert hc; decide) (fun e => by subst e; revert hc; decide))
    have fin : ∀ (I4 : am_I) (rdy : Int32), (∀ c k, c ≠ 19 → c ≠ 20 → I4 c k = I c k) → ∃ I', I' = am_upd (am_upd (am_upd (am_upd (am_upd I4 34 9 (I4 34 9 + g_ask p 0 (g_row I 34) b think beg)) 35 b (am_upd I4 34 9 (I4 34 9 + g_ask p 0 (g_row I 34) b think beg) 35 b - 1)) 36 b rdy) 34 7 (beg + think)) 34 8 (nI b) ∧ g_row I' 34 = g_set (g_set (g_set (g_set (g_set (g_set (g_row I 34) 32 (g_row I 34 32 + g_ask p 0 (g_row I 34) b think beg)) b (g_row I 34 b - 1)) (12 + b) (g_row I 34 (12 + b) + 1)) 30 (beg + think)) 31 (nI b)) (6 + b) rdy ∧ ∀ c k, (c ≠ 34 ∨ k < 7 ∨ 10 < k) → c ≠ 35 → c ≠ 36 → c ≠ 19 → c ≠ 20 → I' c k = I c k := by
      intro I4 rdy k4
      refine ⟨_, rfl, ?_, fun c k hc n1 n2 n3 n4 => ?_⟩
      · have hrow4 : g_row I4 34 = g_row I 34 := g_rk_now (fun c k hc => k4 c k (fun e => by subst e; revert hc; decide) (fun e => by subst e; revert hc; decide))
        rw [g_r8_now, g_r7_now, g_rr_now _ _ _ hb6, g_rl_now _ _ _ hb6, g_r9_now, hrow4]
        rw [am_uc (by decide), am_uc (by decide), k4 _ _ (by decide) (by decide), k4 _ _ (by decide) (by decide), k4 _ _ (by decide) (by decide)]
        rw [am_ring1, g_row_l hb6, g_row_m hb6, g_row_32]
        rw [g_set_c _ rdy (beg + think) (show 6 + b ≠ 30 by omega), g_set_c _ rdy (nI b) (show 6 + b ≠ 31 by omega)]
      · by_cases e : c = 34
        · subst e
          have hc : k < 7 ∨ 10 < k := hc.resolve_left (fun q => q rfl)
          rw [am_uk (by omega), am_uk (by omega), am_uc (by decide), am_uc (by decide), am_uk (by omega), k4 _ _ n3 n4]
        · rw [am_uc e, am_uc e, am_uc n2, am_uc n1, am_uc e, k4 _ _ n3 n4]
    by_cases hh : I 34 6 = nI b
    · obtain ⟨I', e1, e2, e3⟩ := fin I1 (beg + think + (if I 34 6 = nI b then 0 else g_ask p 1 (g_row I 34) b think beg + I 39 b)) k1
      refine ⟨I', b_now_makeMove_0 d (nI b) beg think I J _ ?_, e2, e3⟩
      rw [h3, if_pos hend, show (0 : Int32) = nI 0 from rfl, a1, am_bi_i, k1 34 6 (by decide) (by decide), if_pos hh.symm, am_at_n hb6 (by omega), am_at_n hb6 (by omega), am_at_n hb6 (by omega), am_at_n hb6 (by omega)]
      rw [am_uc (show 39 ≠ 35 by decide), am_uc (show 39 ≠ 34 by decide), k1 39 b (by decide) (by decide), hlt hh]
      rw [if_pos hh] at e1
      rw [e1]
      have z : ∀ x : Int32, x + nI 0 + 0 = x + 0 := fun x => by rw [show nI 0 = (0 : Int32) from rfl, Int32.add_zero]
      rw [z]
    · obtain ⟨I4, a4, k4'⟩ := s_now_ask d 1 b p I1 J beg think hC1 (by omega) hb
      have k4 : ∀ c k, c ≠ 19 → c ≠ 20 → I4 c k = I c k := fun c k n1 n2 => (k4' c k n1 n2).trans (k1 c k n1 n2)
      obtain ⟨I', e1, e2, e3⟩ := fin I4 (beg + think + (if I 34 6 = nI b then 0 else g_ask p 1 (g_row I 34) b think beg + I 39 b)) k4
      refine ⟨I', b_now_makeMove_0 d (nI b) beg think I J _ ?_, e2, e3⟩
      rw [h3, if_pos hend, show (0 : Int32) = nI 0 from rfl, a1, am_bi_i, k1 34 6 (by decide) (by decide), if_neg (fun q => hh q.symm), show (1 : Int32) = nI 1 from rfl, a4, am_bi_i, am_at_n hb6 (by omega), am_at_n hb6 (by omega), am_at_n hb6 (by omega), am_at_n hb6 (by omega)]
      rw [am_uc (show 39 ≠ 35 by decide), am_uc (show 39 ≠ 34 by decide), k4 39 b (by decide) (by decide), hrow1]
      rw [if_neg hh] at e1
      rw [e1, Int32.add_assoc (beg + think)]
      rfl
  · rw [if_neg hend]
    obtain ⟨I', a1, a2, a3⟩ := s_now_dropFlag d b p I J hC
    refine ⟨I', b_now_makeMove_0 d (nI b) beg think I J _ ?_, a2, fun c k hc _ _ _ _ => a3 c k hc⟩
    rw [h3, if_neg hend, a1, am_bv_v]
theorem s_guide_trial_makeMove (d b : Nat) (p : g_Plan) (I : am_I) (J : am_J) (beg think : Int32) (hC : g_C p I) (hb : b < pn p) (hlt : I 47 6 = nI b → I 52 b = 0) : ∃ I', f_guide_trial_makeMove_0 d (nI b) beg think I J = some (some (.int (g_mv p (I 52) (I 47 6) (g_row I 47) b beg think).1), I', J) ∧ g_row I' 47 = (g_mv p (I 52) (I 47 6) (g_row I 47) b beg think).2 ∧ ∀ c k, (c ≠ 47 ∨ k < 7 ∨ 10 < k) → c ≠ 48 → c ≠ 49 → c ≠ 19 → c ≠ 20 → I' c k = I c k := by
  have hb6 : b < 6 := Nat.lt_of_lt_of_le hb hC.1.1
  have h3 : I 12 8 = pck p := hC.2.2.2.1
  unfold g_mv
  by_cases hend : beg + think ≤ pck p
  · rw [if_pos hend]
    obtain ⟨I1, a1, k1⟩ := s_guide_trial_ask d 0 b p I J beg think hC (by omega) hb
    have hrow1 : g_row I1 47 = g_row I 47 := g_rk_guide_trial (fun c k hc => k1 c k (fun e => by subst e; revert hc; decide) (fun e => by subst e; revert hc; decide))
    have hC1 : g_C p I1 := hC.keep (fun c k hc => k1 c k (fun e => by subst e; revert hc; decide) (fun e => by subst e; revert hc; decide))
    have fin : ∀ (I4 : am_I) (rdy : Int32), (∀ c k, c ≠ 19 → c ≠ 20 → I4 c k = I c k) → ∃ I', I' = am_upd (am_upd (am_upd (am_upd (am_upd I4 47 9 (I4 47 9 + g_ask p 0 (g_row I 47) b think beg)) 48 b (am_upd I4 47 9 (I4 47 9 + g_ask p 0 (g_row I 47) b think beg) 48 b - 1)) 49 b rdy) 47 7 (beg + think)) 47 8 (nI b) ∧ g_row I' 47 = g_set (g_set (g_set (g_set (g_set (g_set (g_row I 47) 32 (g_row I 47 32 + g_ask p 0 (g_row I 47) b think beg)) b (g_row I 47 b - 1)) (12 + b) (g_row I 47 (12 + b) + 1)) 30 (beg + think)) 31 (nI b)) (6 + b) rdy ∧ ∀ c k, (c ≠ 47 ∨ k < 7 ∨ 10 < k) → c ≠ 48 → c ≠ 49 → c ≠ 19 → c ≠ 20 → I' c k = I c k := by
      intro I4 rdy k4
      refine ⟨_, rfl, ?_, fun c k hc n1 n2 n3 n4 => ?_⟩
      · have hrow4 : g_row I4 47 = g_row I 47 := g_rk_guide_trial (fun c k hc => k4 c k (fun e => by subst e; revert hc; decide) (fun e => by subst e; revert hc; decide))
        rw [g_r8_guide_trial, g_r7_guide_trial, g_rr_guide_trial _ _ _ hb6, g_rl_guide_trial _ _ _ hb6, g_r9_guide_trial, hrow4]
        rw [am_uc (by decide), am_uc (by decide), k4 _ _ (by decide) (by decide), k4 _ _ (by decide) (by decide), k4 _ _ (by decide) (by decide)]
        rw [am_ring1, g_row_l hb6, g_row_m hb6, g_row_32]
        rw [g_set_c _ rdy (beg + think) (show 6 + b ≠ 30 by omega), g_set_c _ rdy (nI b) (show 6 + b ≠ 31 by omega)]
      · by_cases e : c = 47
        · subst e
          have hc : k < 7 ∨ 10 < k := hc.resolve_left (fun q => q rfl)
          rw [am_uk (by omega), am_uk (by omega), am_uc (by decide), am_uc (by decide), am_uk (by omega), k4 _ _ n3 n4]
        · rw [am_uc e, am_uc e, am_uc n2, am_uc n1, am_uc e, k4 _ _ n3 n4]
    by_cases hh : I 47 6 = nI b
    · obtain ⟨I', e1, e2, e3⟩ := fin I1 (beg + think + (if I 47 6 = nI b then 0 else g_ask p 1 (g_row I 47) b think beg + I 52 b)) k1
      refine ⟨I', b_guide_trial_makeMove_0 d (nI b) beg think I J _ ?_, e2, e3⟩
      rw [h3, if_pos hend, show (0 : Int32) = nI 0 from rfl, a1, am_bi_i, k1 47 6 (by decide) (by decide), if_pos hh.symm, am_at_n hb6 (by omega), am_at_n hb6 (by omega), am_at_n hb6 (by omega), am_at_n hb6 (by omega)]
      rw [am_uc (show 52 ≠ 48 by decide), am_uc (show 52 ≠ 47 by decide), k1 52 b (by decide) (by decide), hlt hh]
      rw [if_pos hh] at e1
      rw [e1]
      have z : ∀ x : Int32, x + nI 0 + 0 = x + 0 := fun x => by rw [show nI 0 = (0 : Int32) from rfl, Int32.add_zero]
      rw [z]
    · obtain ⟨I4, a4, k4'⟩ := s_guide_trial_ask d 1 b p I1 J beg think hC1 (by omega) hb
      have k4 : ∀ c k, c ≠ 19 → c ≠ 20 → I4 c k = I c k := fun c k n1 n2 => (k4' c k n1 n2).trans (k1 c k n1 n2)
      obtain ⟨I', e1, e2, e3⟩ := fin I4 (beg + think + (if I 47 6 = nI b then 0 else g_ask p 1 (g_row I 47) b think beg + I 52 b)) k4
      refine ⟨I', b_guide_trial_makeMove_0 d (nI b) beg think I J _ ?_, e2, e3⟩
      rw [h3, if_pos hend, show (0 : Int32) = nI 0 from rfl, a1, am_bi_i, k1 47 6 (by decide) (by decide), if_neg (fun q => hh q.symm), show (1 : Int32) = nI 1 from rfl, a4, am_bi_i, am_at_n hb6 (by omega), am_at_n hb6 (by omega), am_at_n hb6 (by omega), am_at_n hb6 (by omega)]
      rw [am_uc (show 52 ≠ 48 by decide), am_uc (show 52 ≠ 47 by decide), k4 52 b (by decide) (by decide), hrow1]
      rw [if_neg hh] at e1
      rw [e1, Int32.add_assoc (beg + think)]
      rfl
  · rw [if_neg hend]
    obtain ⟨I', a1, a2, a3⟩ := s_guide_trial_dropFlag d b p I J hC
    refine ⟨I', b_guide_trial_makeMove_0 d (nI b) beg think I J _ ?_, a2, fun c k hc _ _ _ _ => a3 c k hc⟩
    rw [h3, if_neg hend, a1, am_bv_v]
theorem s_witness_trial_makeMove (d b : Nat) (p : g_Plan) (I : am_I) (J : am_J) (beg think : Int32) (hC : g_C p I) (hb : b < pn p) (hlt : I 57 6 = nI b → I 62 b = 0) : ∃ I', f_witness_trial_makeMove_0 d (nI b) beg think I J = some (some (.int (g_mv p (I 62) (I 57 6) (g_row I 57) b beg think).1), I', J) ∧ g_row I' 57 = (g_mv p (I 62) (I 57 6) (g_row I 57) b beg think).2 ∧ ∀ c k, (c ≠ 57 ∨ k < 7 ∨ 10 < k) → c ≠ 58 → c ≠ 59 → c ≠ 19 → c ≠ 20 → I' c k = I c k := by
  have hb6 : b < 6 := Nat.lt_of_lt_of_le hb hC.1.1
  have h3 : I 12 8 = pck p := hC.2.2.2.1
  unfold g_mv
  by_cases hend : beg + think ≤ pck p
  · rw [if_pos hend]
    obtain ⟨I1, a1, k1⟩ := s_witness_trial_ask d 0 b p I J beg think hC (by omega) hb
    have hrow1 : g_row I1 57 = g_row I 57 := g_rk_witness_trial (fun c k hc => k1 c k (fun e => by subst e; revert hc; decide) (fun e => by subst e; revert hc; decide))
    have hC1 : g_C p I1 := hC.keep (fun c k hc => k1 c k (fun e => by subst e; revert hc; decide) (fun e => by subst e; revert hc; decide))
    have fin : ∀ (I4 : am_I) (rdy : Int32), (∀ c k, c ≠ 19 → c ≠ 20 → I4 c k = I c k) → ∃ I', I' = am_upd (am_upd (am_upd (am_upd (am_upd I4 57 9 (I4 57 9 + g_ask p 0 (g_row I 57) b think beg)) 58 b (am_upd I4 57 9 (I4 57 9 + g_ask p 0 (g_row I 57) b think beg) 58 b - 1)) 59 b rdy) 57 7 (beg + think)) 57 8 (nI b) ∧ g_row I' 57 = g_set (g_set (g_set (g_set (g_set (g_set (g_row I 57) 32 (g_row I 57 32 + g_ask p 0 (g_row I 57) b think beg)) b (g_row I 57 b - 1)) (12 + b) (g_row I 57 (12 + b) + 1)) 30 (beg + think)) 31 (nI b)) (6 + b) rdy ∧ ∀ c k, (c ≠ 57 ∨ k < 7 ∨ 10 < k) → c ≠ 58 → c ≠ 59 → c ≠ 19 → c ≠ 20 → I' c k = I c k := by
      intro I4 rdy k4
      refine ⟨_, rfl, ?_, fun c k hc n1 n2 n3 n4 => ?_⟩
      · have hrow4 : g_row I4 57 = g_row I 57 := g_rk_witness_trial (fun c k hc => k4 c k (fun e => by subst e; revert hc; decide) (fun e => by subst e; revert hc; decide))
        rw [g_r8_witness_trial, g_r7_witness_trial, g_rr_witness_trial _ _ _ hb6, g_rl_witness_trial _ _ _ hb6, g_r9_witness_trial, hrow4]
        rw [am_uc (by decide), am_uc (by decide), k4 _ _ (by decide) (by decide), k4 _ _ (by decide) (by decide), k4 _ _ (by decide) (by decide)]
        rw [am_ring1, g_row_l hb6, g_row_m hb6, g_row_32]
        rw [g_set_c _ rdy (beg + think) (show 6 + b ≠ 30 by omega), g_set_c _ rdy (nI b) (show 6 + b ≠ 31 by omega)]
      · by_cases e : c = 57
        · subst e
          have hc : k < 7 ∨ 10 < k := hc.resolve_left (fun q => q rfl)
          rw [am_uk (by omega), am_uk (by omega), am_uc (by decide), am_uc (by decide), am_uk (by omega), k4 _ _ n3 n4]
        · rw [am_uc e, am_uc e, am_uc n2, am_uc n1, am_uc e, k4 _ _ n3 n4]
    by_cases hh : I 57 6 = nI b
    · obtain ⟨I', e1, e2, e3⟩ := fin I1 (beg + think + (if I 57 6 = nI b then 0 else g_ask p 1 (g_row I 57) b think beg + I 62 b)) k1
      refine ⟨I', b_witness_trial_makeMove_0 d (nI b) beg think I J _ ?_, e2, e3⟩
      rw [h3, if_pos hend, show (0 : Int32) = nI 0 from rfl, a1, am_bi_i, k1 57 6 (by decide) (by decide), if_pos hh.symm, am_at_n hb6 (by omega), am_at_n hb6 (by omega), am_at_n hb6 (by omega), am_at_n hb6 (by omega)]
      rw [am_uc (show 62 ≠ 58 by decide), am_uc (show 62 ≠ 57 by decide), k1 62 b (by decide) (by decide), hlt hh]
      rw [if_pos hh] at e1
      rw [e1]
      have z : ∀ x : Int32, x + nI 0 + 0 = x + 0 := fun x => by rw [show nI 0 = (0 : Int32) from rfl, Int32.add_zero]
      rw [z]
    · obtain ⟨I4, a4, k4'⟩ := s_witness_trial_ask d 1 b p I1 J beg think hC1 (by omega) hb
      have k4 : ∀ c k, c ≠ 19 → c ≠ 20 → I4 c k = I c k := fun c k n1 n2 => (k4' c k n1 n2).trans (k1 c k n1 n2)
      obtain ⟨I', e1, e2, e3⟩ := fin I4 (beg + think + (if I 57 6 = nI b then 0 else g_ask p 1 (g_row I 57) b think beg + I 62 b)) k4
      refine ⟨I', b_witness_trial_makeMove_0 d (nI b) beg think I J _ ?_, e2, e3⟩
      rw [h3, if_pos hend, show (0 : Int32) = nI 0 from rfl, a1, am_bi_i, k1 57 6 (by decide) (by decide), if_neg (fun q => hh q.symm), show (1 : Int32) = nI 1 from rfl, a4, am_bi_i, am_at_n hb6 (by omega), am_at_n hb6 (by omega), am_at_n hb6 (by omega), am_at_n hb6 (by omega)]
      rw [am_uc (show 62 ≠ 58 by decide), am_uc (show 62 ≠ 57 by decide), k4 62 b (by decide) (by decide), hrow1]
      rw [if_neg hh] at e1
      rw [e1, Int32.add_assoc (beg + think)]
      rfl
  · rw [if_neg hend]
    obtain ⟨I', a1, a2, a3⟩ := s_witness_trial_dropFlag d b p I J hC
    refine ⟨I', b_witness_trial_makeMove_0 d (nI b) beg think I J _ ?_, a2, fun c k hc _ _ _ _ => a3 c k hc⟩
    rw [h3, if_neg hend, a1, am_bv_v]

/-! pairs of calls that ask -/
theorem g_R.hi' {p : g_Plan} {r r' : g_Row} (h : g_R p r r') {k : Nat} (h1 : 24 ≤ k) (h2 : k < 34) : r k = r' k := h.hi k h1 h2
theorem p_place (d : Nat) : i_pair (f_oc_place_0 d) (f_m_place_0 d) := by
  refine i_ask (fun p v r u w n nx B I0 J0 I J _ _ hA => ⟨I 32 6, I, I, b_oc_place_0 d I J _ rfl, b_m_place_0 d I J _ ?_, fun _ _ _ => rfl, hA.2.2.2.2.2.2.1, fun _ _ _ => rfl⟩)
  rw [hA.2.2.2.2.2.1]
theorem p_sum (d : Nat) : i_pair (f_oc_sum_0 d) (f_m_sum_0 d) := by
  refine i_ask (fun p v r u w n nx B I0 J0 I J _ _ hA => ⟨I 34 9, I, I, b_oc_sum_0 d I J _ rfl, b_m_sum_0 d I J _ ?_, fun _ _ _ => rfl, hA.2.2.2.2.2.2.1, fun _ _ _ => rfl⟩)
  have q : r 32 = I 97 32 := hA.1.2.2.2.2.2.hi' (by decide) (by decide)
  rw [← hA.1.2.2.1, g_row_32] at q
  rw [aq_32, q]
theorem p_board (d : Nat) (x y : Int32) : i_pair (f_oc_board_0 d x y) (f_m_board_0 d x y) := by
  refine i_ask (fun p v r u w n nx B I0 J0 I J _ _ hA => ?_)
  obtain ⟨hC, mC, hr, hN, hGd, hR⟩ := hA.1
  have hn := hC.1.1
  have b1 := b_oc_board_0 d x y I J
  have b2 := b_m_board_0 d x y I J
  rcases q_ix x (n := pn p) (by omega) with hx | ⟨b, hb, rfl⟩
  · rw [q_oc_B_n d hC hx, am_bi_i, if_pos rfl] at b1
    rw [q_m_B_n d mC hx, am_bi_i, if_pos rfl] at b2
    exact ⟨_, I, I, b1 _ rfl, b2 _ rfl, fun _ _ _ => rfl, hA.2.2.2.2.2.2.1, fun _ _ _ => rfl⟩
  · have hb6 : b < 6 := by omega
    obtain ⟨I1, a1, C1, N1, R1, c1, l1, h1, k1⟩ := s_m_fresh d v p I J r mC hA.1.N
    have hs := R1.same hn hb
    have hat : g_at (g_row I 34) := hN.1
    rw [q_oc_B_y d hC hb, am_bi_i, if_neg (show ¬ (1 : Int32) = 0 by decide)] at b1
    rw [q_m_B_y d mC hb, am_bi_i, if_neg (show ¬ (1 : Int32) = 0 by decide), a1, am_bv_v] at b2
    have fin : ∀ z : Int32, f_oc_board_0 d (nI b) y I J = some (some (.int z), I, J) → f_m_board_0 d (nI b) y I J = some (some (.int z), I1, J) → ∃ y' I1 I2, f_oc_board_0 d (nI b) y I J = some (some (.int y'), I1, J) ∧ f_m_board_0 d (nI b) y I1 J = some (some (.int y'), I2, J) ∧ (∀ c k, i_sup c k → I1 c k = I c k) ∧ i_G p r I1 ∧ (∀ c k, i_sup c k ∨ i_gd c k → I2 c k = I1 c k) := fun z e1 e2 => ⟨z, I, I1, e1, e2, fun _ _ _ => rfl, hA.2.2.2.2.2.2.1, fun c k hc => k1 c k (i_all_mG hc)⟩
    by_cases y0 : y = 0
    · rw [if_pos y0, am_at_n hb6 (by omega)] at b1
      rw [if_pos y0, am_at_n (by omega) (by omega)] at b2
      refine fin (I 35 b) (b1 _ rfl) (b2 _ ?_)
      rw [← hs.1, ← hr, g_row_l hb6]
    rw [if_neg y0] at b1 b2
    by_cases y1 : y = 1
    · rw [if_pos y1, am_at_n hb6 (by omega)] at b1
      rw [if_pos y1, am_i6, nI_add, am_at_n (by omega) (by omega)] at b2
      refine fin (I 36 b) (b1 _ rfl) (b2 _ ?_)
      rw [← hs.2.1, ← hr, g_row_r hb6]
    rw [if_neg y1] at b1 b2
    by_cases y2 : y = 2
    · rw [if_pos y2, s_now_made d b I J hb6, am_bi_i] at b1
      rw [if_pos y2, am_i12, nI_add, am_at_n (by omega) (by omega)] at b2
      refine fin _ (b1 _ rfl) (b2 _ ?_)
      rw [← hs.2.2.1, ← hr]
    rw [if_neg y2] at b1 b2
    by_cases y3 : y = 3
    · have eo : (g_opn I 34 b = true) ↔ (g_open (I1 98) b = true) := by rw [← g_open_c hs, ← hr, g_row_opn hb6]
      rw [if_pos y3, s_now_isOpen d b I J hb6, am_bi_i] at b1
      rw [if_pos y3, s_m_isOpen d b I1 J hb6, am_bi_i] at b2
      by_cases ho : g_opn I 34 b = true
      · rw [if_neg (fun q => am_tf0.mp q ho)] at b1
        rw [if_neg (fun q => am_tf0.mp q (eo.mp ho))] at b2
        exact fin 1 (b1 _ rfl) (b2 _ rfl)
      · rw [if_pos (am_tf0.mpr ho)] at b1
        rw [if_pos (am_tf0.mpr (fun q => ho (eo.mpr q)))] at b2
        exact fin 0 (b1 _ rfl) (b2 _ rfl)
    rw [if_neg y3] at b1 b2
    by_cases y4 : y = 4
    · rw [if_pos y4, s_now_stepsTo d b p I J hC hb6 hat, am_bi_i, hr] at b1
      rw [hr] at hat
      rw [if_pos y4, s_m_stepsTo d b v p I1 J C1 hb6 (g_at_c R1.hi hat), am_bi_i, ← g_dist_c R1.hi hat hb6] at b2
      exact fin _ (b1 _ rfl) (b2 _ rfl)
    rw [if_neg y4] at b1 b2
    by_cases y5 : y = 5
    · rw [if_pos y5, am_at_n hb6 (by omega)] at b1
      rw [if_pos y5, am_i18, nI_add, am_at_n (by omega) (by omega)] at b2
      refine fin (I 37 b) (b1 _ rfl) (b2 _ ?_)
      rw [← hs.2.2.2, ← hr, g_row_e hb6]
    rw [if_neg y5] at b1 b2
    exact fin _ (b1 _ rfl) (b2 _ rfl)
theorem p_begins (d : Nat) (x : Int32) : i_pair (f_oc_begins_0 d x) (f_m_begins_0 d x) := by
  refine i_ask (fun p v r u w n nx B I0 J0 I J _ _ hA => ?_)
  obtain ⟨hC, mC, hr, hN, hGd, hR⟩ := hA.1
  have hn := hC.1.1
  have b1 := b_oc_begins_0 d x I J
  have b2 := b_m_begins_0 d x I J
  rcases q_ix x (n := pn p) (by omega) with hx | ⟨b, hb, rfl⟩
  · rw [q_oc_B_n d hC hx, am_bi_i, if_pos rfl] at b1
    rw [q_m_B_n d mC hx, am_bi_i, if_pos rfl] at b2
    exact ⟨_, I, I, b1 _ rfl, b2 _ rfl, fun _ _ _ => rfl, hA.2.2.2.2.2.2.1, fun _ _ _ => rfl⟩
  · have hb6 : b < 6 := by omega
    obtain ⟨I1, a1, C1, N1, R1, c1, l1, h1, k1⟩ := s_m_fresh d v p I J r mC hA.1.N
    have hs := R1.same hn hb
    have hat : g_at (g_row I 34) := hN.1
    have eo : (g_opn I 34 b = true) ↔ (g_open (I1 98) b = true) := by rw [← g_open_c hs, ← hr, g_row_opn hb6]
    rw [q_oc_B_y d hC hb, am_bi_i, if_neg (show ¬ (1 : Int32) = 0 by decide), s_now_isOpen d b I J hb6, am_bi_i, s_now_soonest d b p I J hC hb6 hat, am_bi_i, hr] at b1
    rw [hr] at hat
    rw [q_m_B_y d mC hb, am_bi_i, if_neg (show ¬ (1 : Int32) = 0 by decide), a1, am_bv_v, s_m_isOpen d b I1 J hb6, am_bi_i, s_m_beginsAt d b v p I1 J C1 hb6 (g_at_c R1.hi hat), am_bi_i, ← g_soon_c R1.hi hat hb6 hs] at b2
    by_cases ho : g_opn I 34 b = true
    · rw [if_neg (fun q => am_tf0.mp q ho)] at b1
      rw [if_neg (fun q => am_tf0.mp q (eo.mp ho))] at b2
      exact ⟨_, I, I1, b1 _ rfl, b2 _ rfl, fun _ _ _ => rfl, hA.2.2.2.2.2.2.1, fun c k hc => k1 c k (i_all_mG hc)⟩
    · rw [if_pos (am_tf0.mpr ho)] at b1
      rw [if_pos (am_tf0.mpr (fun q => ho (eo.mpr q)))] at b2
      exact ⟨_, I, I1, b1 _ rfl, b2 _ rfl, fun _ _ _ => rfl, hA.2.2.2.2.2.2.1, fun c k hc => k1 c k (i_all_mG hc)⟩
/-- what both need of a rule and a think -/
theorem q_rule (x y : Int32) {p : g_Plan} (ht : ptc p ≤ 4) : ((x < 0 ∨ (4 : Int32) ≤ x) ∨ (y < 0 ∨ nI (ptc p) ≤ y)) ∨ ∃ rule i, rule < 4 ∧ i < ptc p ∧ x = nI rule ∧ y = nI i := by
  rcases q_ix x (n := 4) (by decide) with h1 | ⟨rule, hr, e1⟩
  · exact Or.inl (Or.inl h1)
  · rcases q_ix y (n := ptc p) (by omega) with h2 | ⟨i, hi, e2⟩
    · exact Or.inl (Or.inr h2)
    · exact Or.inr ⟨rule, i, hr, hi, e1, e2⟩
theorem g_Gd.B {p : g_Plan} {I : am_I} {B : Int} {r : g_Row} (h : g_Gd p I B r) (hB : B ≤ 900000) : g_bd r 1000000 := (h.up (B' := 1000000) (by omega)).2.2.2.2.2.1
/-- a pair that asks of a rule, a think, a half -/
theorem q_three {fo fm : Int32 → Int32 → Int32 → am_I → am_J → am_Out} (x y z : Int32)
    (hn1 : ∀ (p : g_Plan) (v : Nat) (I : am_I) (J : am_J), g_C p I → m_C p v I → (((x < 0 ∨ (4 : Int32) ≤ x) ∨ (y < 0 ∨ nI (ptc p) ≤ y)) ∨ ¬ (z = 0 ∨ z = 1)) → fo x y z I J = some (some (.int (-1000000)), I, J) ∧ fm x y z I J = some (some (.int (-1000000)), I, J))
    (hy : ∀ (p : g_Plan) (v : Nat) (r : g_Row) (B : Int) (I : am_I) (J : am_J) (rule i : Nat), B ≤ 900000 → i_P p v r B I → rule < 4 → i < ptc p → x = nI rule → y = nI i → (z = 0 ∨ z = 1) → ∃ w I1, fo x y z I J = some (some (.int w), I1, J) ∧ (∀ c k, i_sup c k ∨ i_gd c k → I1 c k = I c k) ∧ ∀ I1 : am_I, (∀ c k, i_sup c k ∨ i_gd c k → I1 c k = I c k) → ∃ I2, fm x y z I1 J = some (some (.int w), I2, J) ∧ ∀ c k, i_sup c k ∨ i_gd c k → I2 c k = I1 c k) : i_pair (fo x y z) (fm x y z) := by
  refine i_ask (fun p v r u w n nx B I0 J0 I J _ hB2 hA => ?_)
  obtain ⟨hC, mC, hr, hN, hGd, hR⟩ := hA.1
  have ht := hC.1.2.2.2.2.2.2.2.2.2.2.1
  have none' : (((x < 0 ∨ (4 : Int32) ≤ x) ∨ (y < 0 ∨ nI (ptc p) ≤ y)) ∨ ¬ (z = 0 ∨ z = 1)) → ∃ y' I1 I2, fo x y z I J = some (some (.int y'), I1, J) ∧ fm x y z I1 J = some (some (.int y'), I2, J) ∧ (∀ c k, i_sup c k → I1 c k = I c k) ∧ i_G p r I1 ∧ (∀ c k, i_sup c k ∨ i_gd c k → I2 c k = I1 c k) := fun h => ⟨_, I, I, (hn1 p v I J hC mC h).1, (hn1 p v I J hC mC h).2, fun _ _ _ => rfl, hA.2.2.2.2.2.2.1, fun _ _ _ => rfl⟩
  rcases q_rule x y ht.2 with h | ⟨rule, i, h1, h2, h3, h4⟩
  · exact none' (Or.inl h)
  · by_cases hz : z = 0 ∨ z = 1
    · obtain ⟨w', I1, e1, k1, e2⟩ := hy p v r B I J rule i hB2 hA.1 h1 h2 h3 h4 hz
      obtain ⟨I2, e3, k2⟩ := e2 I1 k1
      exact ⟨w', I1, I2, e1, e3, fun c k hc => k1 c k (Or.inl hc), i_G.keep (fun c k hc => k1 c k (Or.inr hc)) hA.2.2.2.2.2.2.1, k2⟩
    · exact none' (Or.inr hz)
theorem i_P.keep' {p : g_Plan} {v : Nat} {r : g_Row} {B : Int} {I I' : am_I} (h : i_P p v r B I) (e : ∀ c k, i_sup c k ∨ i_gd c k → I' c k = I c k) : i_P p v r B I' := i_P.keep (fun c k hc => e c k (Or.inl hc)) h
/-- the three-part heads of both, where the answer is none -/
theorem q_three_n (d : Nat) {p : g_Plan} {v : Nat} {I : am_I} {J : am_J} {x y z : Int32} (hC : g_C p I) (mC : m_C p v I) (h : ((x < 0 ∨ (4 : Int32) ≤ x) ∨ (y < 0 ∨ nI (ptc p) ≤ y)) ∨ ¬ (z = 0 ∨ z = 1)) (T U : Int32 → am_I → am_J → am_Out) : am_bi (f_oc_isRule_0 d x y I J) (fun y3 I1 J2 => if y3 = 0 then some (some (.int (-1000000)), I1, J2) else am_bi (f_oc_isHalf_0 d z I1 J2) (fun y6 I4 J5 => if y6 = 0 then some (some (.int (-1000000)), I4, J5) else T y6 I4 J5)) = some (some (.int (-1000000)), I, J) ∧ am_bi (f_m_isRule_0 d x y I J) (fun y3 I1 J2 => if y3 = 0 then some (some (.int (-1000000)), I1, J2) else am_bi (f_m_in_0 d z 0 1 I1 J2) (fun y6 I4 J5 => if y6 = 0 then some (some (.int (-1000000)), I4, J5) else U y6 I4 J5)) = some (some (.int (-1000000)), I, J) := by
  have ht := hC.1.2.2.2.2.2.2.2.2.2.2.1
  rcases q_rule x y ht.2 with h' | ⟨rule, i, h1, h2, rfl, rfl⟩
  · rw [q_oc_R_n d hC h', am_bi_i, if_pos rfl, q_m_R_n d mC h', am_bi_i, if_pos rfl]
    exact ⟨rfl, rfl⟩
  · have hz : ¬ (z = 0 ∨ z = 1) := h.resolve_left (by
      rintro ((q | q) | (q | q))
      · exact nI_pos (by omega) q
      · exact nI_ge (b := 4) (a := rule) (by omega) (by omega) q
      · exact nI_pos (by omega) q
      · exact nI_ge (b := ptc p) (a := i) (by omega) (by omega) q)
    rw [q_oc_R_y d hC h1 h2, am_bi_i, if_neg (show ¬ (1 : Int32) = 0 by decide), q_oc_H_n d hz, am_bi_i, if_pos rfl, q_m_R_y d mC h1 h2, am_bi_i, if_neg (show ¬ (1 : Int32) = 0 by decide), q_m_H_n d hz, am_bi_i, if_pos rfl]
    exact ⟨rfl, rfl⟩
theorem q_if {I : am_I} {J : am_J} {z a b : Int32} : (if z = 0 then (some (some (.int a), (I : am_I), (J : am_J)) : am_Out) else some (some (.int b), I, J)) = some (some (.int (if z = 0 then a else b)), I, J) := by
  split <;> rfl

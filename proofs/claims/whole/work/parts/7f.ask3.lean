/-! pairs of calls that ask: spare, agreed, seats, best rows, fits, counts -/
theorem p_spare (d : Nat) (x y z : Int32) : i_pair (f_oc_spare_0 d x y z) (f_m_spare_0 d x y z) := by
  refine i_ask (fun p v r u w n nx B I0 J0 I J _ hB2 hA => ?_)
  obtain ⟨hC, mC, hrow, hN, hGd, hR⟩ := hA.1
  have hn := hC.1.1
  have ht := hC.1.2.2.2.2.2.2.2.2.2.2.1
  have b1 := b_oc_spare_0 d x y z I J
  rcases q_ix x (n := pn p) (by omega) with hx | ⟨b, hb, rfl⟩
  · have b2 := b_m_spare_0 d x y z I J
    rw [q_oc_B_n d hC hx, am_bi_i, if_pos rfl] at b1
    rw [q_m_B_n d mC hx, am_bi_i, if_pos rfl] at b2
    exact ⟨_, I, I, b1 _ rfl, b2 _ rfl, fun _ _ _ => rfl, hA.2.2.2.2.2.2.1, fun _ _ _ => rfl⟩
  · rw [q_oc_B_y d hC hb, am_bi_i, if_neg (show ¬ (1 : Int32) = 0 by decide)] at b1
    rcases q_rule y z ht.2 with h | ⟨rule, i, hr, hi, rfl, rfl⟩
    · have b2 := b_m_spare_0 d (nI b) y z I J
      rw [q_oc_R_n d hC h, am_bi_i, if_pos rfl] at b1
      rw [q_m_B_y d mC hb, am_bi_i, if_neg (show ¬ (1 : Int32) = 0 by decide), q_m_R_n d mC h, am_bi_i, if_pos rfl] at b2
      exact ⟨_, I, I, b1 _ rfl, b2 _ rfl, fun _ _ _ => rfl, hA.2.2.2.2.2.2.1, fun _ _ _ => rfl⟩
    · rw [q_oc_R_y d hC hr hi, am_bi_i, if_neg (show ¬ (1 : Int32) = 0 by decide), q_oc_P d hC hrow hN hb, am_bi_i] at b1
      by_cases hgo : g_open r b = true ∧ ¬ g_over p r = true
      · obtain ⟨I1, a1, k1⟩ := s_guide_spareAt d rule b p I J (pth p i) hr hb hC hN
        rw [if_neg (fun q => am_tf0.mp q hgo), am_at_n (by omega) (by omega), hC.2.2.2.2.2.2.2.2.1 i hi, a1, am_bi_i, hrow] at b1
        have kk : ∀ c k, i_sup c k ∨ i_gd c k → I1 c k = I c k := fun c k hc => k1 c k (hc.elim i_sup_G i_gd_G)
        have hP' := i_P.keep' (I' := I1) hA.1 kk
        have mC' := hP'.2.1
        have b2 := b_m_spare_0 d (nI b) (nI rule) (nI i) I1 J
        obtain ⟨I2, a2, k2⟩ := s_m_spare25 d rule i b v p J r hr hi hb hgo 61 (by omega) I1 mC' hP'.N
        have a2 : f_m_spare_25 d (nI b) (nI rule) (nI i) 60 I1 J = some (some (.int (g_spr p b rule (pth p i) r 61)), I2, J) := a2
        rw [q_m_B_y d mC' hb, am_bi_i, if_neg (show ¬ (1 : Int32) = 0 by decide), q_m_R_y d mC' hr hi, am_bi_i, if_neg (show ¬ (1 : Int32) = 0 by decide)] at b2
        exact ⟨_, I1, I2, b1 _ rfl, b2 _ a2, fun c k hc => kk c k (Or.inl hc), i_G.keep (fun c k hc => kk c k (Or.inr hc)) hA.2.2.2.2.2.2.1, fun c k hc => k2 c k (i_all_mG hc)⟩
      · rw [if_pos (am_tf0.mpr hgo)] at b1
        have b2 := b_m_spare_0 d (nI b) (nI rule) (nI i) I J
        have b3 := b_m_spare_25 d (nI b) (nI rule) (nI i) 60 I J
        obtain ⟨I1, a1, C1, N1, R1, c1, l1, h1, k1⟩ := s_m_fresh d v p I J r mC hA.1.N
        have h30 : I1 98 30 ≤ pck p := by rw [← R1.hi 30 (by decide) (by decide)]; exact hGd.2.1
        have eo : g_open (I1 98) b = g_open r b := (g_open_c (R1.same hn hb)).symm
        have ev : g_over p (I1 98) = g_over p r := (R1.E hn).over.symm
        rw [if_neg (show ¬ (60 : Int32) < 0 by decide), a1, am_bv_v, s_m_isOpen d b I1 J (by omega), am_bi_i, s_m_isOver d v p I1 J C1 h30, am_bi_i, eo, ev] at b3
        have a3 : f_m_spare_25 d (nI b) (nI rule) (nI i) 60 I J = some (some (.int (-2)), I1, J) := by
          refine b3 _ ?_
          by_cases ho : g_open r b = true
          · have hv : g_over p r = true := by
              by_cases q : g_over p r = true
              · exact q
              · exact absurd ⟨ho, q⟩ hgo
            rw [if_neg (fun q => am_tf0.mp q ho), if_neg (fun q => am_tf0.mp q hv)]
          · rw [if_pos (am_tf0.mpr ho)]
        rw [q_m_B_y d mC hb, am_bi_i, if_neg (show ¬ (1 : Int32) = 0 by decide), q_m_R_y d mC hr hi, am_bi_i, if_neg (show ¬ (1 : Int32) = 0 by decide)] at b2
        exact ⟨_, I, I1, b1 _ rfl, b2 _ a3, fun _ _ _ => rfl, hA.2.2.2.2.2.2.1, fun c k hc => k1 c k (i_all_mG hc)⟩
theorem p_agreed (d : Nat) (x1 x2 x3 x4 x5 : Int32) : i_pair (f_oc_agreed_0 d x1 x2 x3 x4 x5) (f_m_agreed_0 d x1 x2 x3 x4 x5) := by
  refine i_ask (fun p v r u w n nx B I0 J0 I J _ hB2 hA => ?_)
  obtain ⟨hC, mC, hrow, hN, hGd, hR⟩ := hA.1
  have hn := hC.1.1
  have ht := hC.1.2.2.2.2.2.2.2.2.2.2.1
  have b1 := b_oc_agreed_0 d x1 x2 x3 x4 x5 I J
  have b2' := fun X : am_I => b_m_agreed_0 d x1 x2 x3 x4 x5 X J
  rcases q_ix x1 (n := pn p) (by omega) with hx | ⟨a, ha, rfl⟩
  · have b2 := b2' I
    rw [q_oc_B_n d hC hx, am_bi_i, if_pos rfl] at b1
    rw [q_m_B_n d mC hx, am_bi_i, if_pos rfl] at b2
    exact ⟨_, I, I, b1 _ rfl, b2 _ rfl, fun _ _ _ => rfl, hA.2.2.2.2.2.2.1, fun _ _ _ => rfl⟩
  rcases q_ix x2 (n := pn p) (by omega) with hx | ⟨b, hb, rfl⟩
  · have b2 := b2' I
    rw [q_oc_B_y d hC ha, am_bi_i, if_neg (show ¬ (1 : Int32) = 0 by decide), q_oc_B_n d hC hx, am_bi_i, if_pos rfl] at b1
    rw [q_m_B_y d mC ha, am_bi_i, if_neg (show ¬ (1 : Int32) = 0 by decide), q_m_B_n d mC hx, am_bi_i, if_pos rfl] at b2
    exact ⟨_, I, I, b1 _ rfl, b2 _ rfl, fun _ _ _ => rfl, hA.2.2.2.2.2.2.1, fun _ _ _ => rfl⟩
  rw [q_oc_B_y d hC ha, am_bi_i, if_neg (show ¬ (1 : Int32) = 0 by decide), q_oc_B_y d hC hb, am_bi_i, if_neg (show ¬ (1 : Int32) = 0 by decide)] at b1
  by_cases hab : nI a = nI b
  · have b2 := b2' I
    rw [if_pos hab] at b1
    rw [q_m_B_y d mC ha, am_bi_i, if_neg (show ¬ (1 : Int32) = 0 by decide), q_m_B_y d mC hb, am_bi_i, if_neg (show ¬ (1 : Int32) = 0 by decide), if_pos hab] at b2
    exact ⟨_, I, I, b1 _ rfl, b2 _ rfl, fun _ _ _ => rfl, hA.2.2.2.2.2.2.1, fun _ _ _ => rfl⟩
  rw [if_neg hab] at b1
  rcases q_rule x3 x4 ht.2 with h | ⟨rule, i, hr, hi, rfl, rfl⟩
  · have b2 := b2' I
    rw [q_oc_R_n d hC h, am_bi_i, if_pos rfl] at b1
    rw [q_m_B_y d mC ha, am_bi_i, if_neg (show ¬ (1 : Int32) = 0 by decide), q_m_B_y d mC hb, am_bi_i, if_neg (show ¬ (1 : Int32) = 0 by decide), if_neg hab, q_m_R_n d mC h, am_bi_i, if_pos rfl] at b2
    exact ⟨_, I, I, b1 _ rfl, b2 _ rfl, fun _ _ _ => rfl, hA.2.2.2.2.2.2.1, fun _ _ _ => rfl⟩
  rw [q_oc_R_y d hC hr hi, am_bi_i, if_neg (show ¬ (1 : Int32) = 0 by decide)] at b1
  by_cases hz : x5 = 0 ∨ x5 = 1
  · obtain ⟨I1, a1, e15, e16, k1⟩ := s_guide_findAgreed d rule a b p I J (pth p i) hr (by omega) (by omega) hC hN
    rw [hrow] at e15 e16
    have kk : ∀ c k, i_sup c k ∨ i_gd c k → I1 c k = I c k := fun c k hc => k1 c k (hc.elim i_sup_G i_gd_G)
    have hP' := i_P.keep' (I' := I1) hA.1 kk
    have mC' := hP'.2.1
    have b2 := b2' I1
    obtain ⟨best, least, I2, q1, q2, k2⟩ := s_m_agreed54 d rule i a b v p J r x5 hr hi (by omega) (by omega) (hGd.B hB2) 10 0 (-1) 0 (0, I 40 15, I 40 16) I1 (by omega) mC' hP'.N (Or.inl ⟨rfl, rfl⟩)
    have h1 := g_fa1_1 (p := p) (rule := rule) (think := pth p i) (r := r) (a := a) (b := b) 10 0 (0, I 40 15, I 40 16) (Or.inl rfl) (Or.inl (by omega))
    rcases q2 with ⟨z, -⟩ | ⟨-, z2, z3, -, -⟩
    · rw [h1] at z; exact absurd z (by decide)
    · rw [z2, Int32.neg_neg] at e15
      rw [z3] at e16
      rw [q_oc_H_y d hz, am_bi_i, if_neg (show ¬ (1 : Int32) = 0 by decide), am_at_n (by omega) (by omega), hC.2.2.2.2.2.2.2.2.1 i hi, a1, am_bv_v, e15, e16, q_if] at b1
      rw [q_m_B_y d mC' ha, am_bi_i, if_neg (show ¬ (1 : Int32) = 0 by decide), q_m_B_y d mC' hb, am_bi_i, if_neg (show ¬ (1 : Int32) = 0 by decide), if_neg hab, q_m_R_y d mC' hr hi, am_bi_i, if_neg (show ¬ (1 : Int32) = 0 by decide), q_m_H_y d hz, am_bi_i, if_neg (show ¬ (1 : Int32) = 0 by decide)] at b2
      exact ⟨_, I1, I2, b1 _ rfl, b2 _ q1, fun c k hc => kk c k (Or.inl hc), i_G.keep (fun c k hc => kk c k (Or.inr hc)) hA.2.2.2.2.2.2.1, fun c k hc => k2 c k (i_all_mG hc)⟩
  · have b2 := b2' I
    rw [q_oc_H_n d hz, am_bi_i, if_pos rfl] at b1
    rw [q_m_B_y d mC ha, am_bi_i, if_neg (show ¬ (1 : Int32) = 0 by decide), q_m_B_y d mC hb, am_bi_i, if_neg (show ¬ (1 : Int32) = 0 by decide), if_neg hab, q_m_R_y d mC hr hi, am_bi_i, if_neg (show ¬ (1 : Int32) = 0 by decide), q_m_H_n d hz, am_bi_i, if_pos rfl] at b2
    exact ⟨_, I, I, b1 _ rfl, b2 _ rfl, fun _ _ _ => rfl, hA.2.2.2.2.2.2.1, fun _ _ _ => rfl⟩
/-- what the seats' search leaves alone -/
theorem i_sup_S {c k : Nat} (h : i_sup c k) : c ∉ ([19, 20, 44, 45, 47, 48, 49, 50, 51, 52] : List Nat) ∧ (c ≠ 40 ∨ k < 12 ∨ 13 < k) := h.to (Q := fun c k => c ∉ ([19, 20, 44, 45, 47, 48, 49, 50, 51, 52] : List Nat) ∧ (c ≠ 40 ∨ k < 12 ∨ 13 < k)) (fun c hc _ => ⟨(show ∀ c ∈ i_cs, c ∉ ([19, 20, 44, 45, 47, 48, 49, 50, 51, 52] : List Nat) by decide) c hc, Or.inl ((show ∀ c ∈ i_cs, c ≠ 40 by decide) c hc)⟩) (fun q hq => ⟨(show ∀ q ∈ i_ps, q.1 ∉ ([19, 20, 44, 45, 47, 48, 49, 50, 51, 52] : List Nat) by decide) q hq, Or.inl ((show ∀ q ∈ i_ps, q.1 ≠ 40 by decide) q hq)⟩)
theorem g_BC.keep {p : g_Plan} {r : g_Row} {I I' : am_I} (h : g_BC p r I) (e : ∀ k, k = 6 ∨ k = 7 ∨ k = 8 → I' 40 k = I 40 k) (e2 : ∀ k, I' 43 k = I 43 k) : g_BC p r I' := by
  rcases h with q | ⟨W, q1, q2, q3, q4⟩
  · exact Or.inl ((e 8 (by omega)).trans q)
  · exact Or.inr ⟨W, q1, q2, (e 8 (by omega)).trans q3, (e 7 (by omega)).trans q4.1, (e 6 (by omega)).trans q4.2.1, q4.2.2.1, fun k hk => (e2 k).trans (q4.2.2.2 k hk)⟩
theorem g_SC.keep {p : g_Plan} {I I' : am_I} (h : g_SC p I) (e : ∀ k, k = 12 ∨ k = 13 → I' 40 k = I 40 k) (e2 : ∀ k, I' 45 k = I 45 k) : g_SC p I' := by
  rcases h with q | ⟨rule, i, q1, q2, q3, q4, q5, q6⟩
  · exact Or.inl ((e 13 (by omega)).trans q)
  · exact Or.inr ⟨rule, i, q1, q2, q3, (e 13 (by omega)).trans q4, (e 12 (by omega)).trans q5, fun k hk => (e2 k).trans (q6 k hk)⟩
theorem p_seats (d : Nat) (x y : Int32) : i_pair (f_oc_seats_0 d x y) (f_m_seats_0 d x y) := by
  refine i_ask (fun p v r u w n nx B I0 J0 I J _ hB2 hA => ?_)
  obtain ⟨hC, mC, hrow, hN, hGd, hR⟩ := hA.1
  have hn := hC.1.1
  have ht := hC.1.2.2.2.2.2.2.2.2.2.2.1
  have b1 := b_oc_seats_0 d x y I J
  have b2' := fun X : am_I => b_m_seats_0 d x y X J
  rcases q_rule x y ht.2 with h | ⟨rule, i, hr, hi, rfl, rfl⟩
  · have b2 := b2' I
    rw [q_oc_R_n d hC h, am_bi_i, if_pos rfl] at b1
    rw [q_m_R_n d mC h, am_bi_i, if_pos rfl] at b2
    exact ⟨_, I, I, b1 _ rfl, b2 _ rfl, fun _ _ _ => rfl, hA.2.2.2.2.2.2.1, fun _ _ _ => rfl⟩
  rw [q_oc_R_y d hC hr hi, am_bi_i, if_neg (show ¬ (1 : Int32) = 0 by decide), hC.2.1] at b1
  by_cases h0 : pn p = 0
  · have b2 := b2' I
    rw [if_pos (show nI (pn p) = 0 by rw [h0]; rfl)] at b1
    rw [q_m_R_y d mC hr hi, am_bi_i, if_neg (show ¬ (1 : Int32) = 0 by decide), mC.2.2.1, am_at_n mC.2.1 (by omega), mC.2.2.2.1, if_pos (show nI (pn p) ≤ 0 by rw [h0]; decide)] at b2
    exact ⟨_, I, I, b1 _ rfl, b2 _ rfl, fun _ _ _ => rfl, hA.2.2.2.2.2.2.1, fun _ _ _ => rfl⟩
  · obtain ⟨I1, a1, e12, e45, sc, k1⟩ := s_guide_findSeats d rule i p I J hr hi (by omega) hC hA.2.2.2.2.2.2.1.2
    rw [if_neg (nI_ne0 (by omega) (by omega)), am_at_n (by omega) (by omega), hC.2.2.2.2.2.2.2.2.1 i hi, a1, am_bv_v, e12] at b1
    have kk : ∀ c k, i_sup c k → I1 c k = I c k := fun c k hc => k1 c k (i_sup_S hc).1 (i_sup_S hc).2
    have hP' := i_P.keep (I' := I1) kk hA.1
    have mC' := hP'.2.1
    have b2 := b2' I1
    obtain ⟨I2, a2, -, k2⟩ := s_m_seatsBy d rule i v p I1 J hr hi (by omega) mC'
    rw [q_m_R_y d mC' hr hi, am_bi_i, if_neg (show ¬ (1 : Int32) = 0 by decide), mC'.2.2.1, am_at_n mC'.2.1 (by omega), mC'.2.2.2.1, if_neg (nI_nle (by omega) (by omega)), a2, am_bi_i] at b2
    exact ⟨_, I1, I2, b1 _ rfl, b2 _ rfl, kk, ⟨hA.2.2.2.2.2.2.1.1.keep (fun k hk => k1 40 k (by decide) (Or.inr (by omega))) (fun k => k1 43 k (by decide) (Or.inl (by decide))), sc⟩, fun c k hc => k2 c k (i_all_mG2 hc)⟩
theorem g_V_bd {p : g_Plan} (h0 : g_OK p) (rule : Nat) (x : Int32) (c : Nat) (hd : ∀ k, k < 6 → g_dg c k < 6) : -60000 ≤ (g_V p rule x c).toInt := by
  have hn := h0.1
  have e : g_seat p c 32 = 0 := by
    unfold g_seat
    rw [g_set_n _ _ (by decide), g_stl_hi _ _ _ _ (Or.inr (by decide)) (fun b hb => hd b (by omega))]
    unfold g_out
    rw [if_neg (by omega), if_neg (by omega)]
  have q := g_flw_bd h0 (fun _ => 0) (-1) rule x 55 (g_seat p c) 0 ⟨by rw [e]; decide, by rw [e]; decide⟩ (by omega)
  have := q.1
  unfold g_V g_far g_follow
  omega
theorem g_sf_bd {p : g_Plan} (h0 : g_OK p) (rule : Nat) (x : Int32) : ∀ f c first s, 0 < f → g_all (pn p) f c = true → (first = true ∨ -60000 ≤ s.1.toInt) → -60000 ≤ (g_sf p rule x f c first s).1.toInt := by
  intro f
  induction f with
  | zero => intro c first s h; omega
  | succ f ih =>
    intro c first s _ hall hs
    obtain ⟨hd, hnext⟩ := g_all_s hall
    have hV := g_V_bd h0 rule x c (fun k hk => (hd k hk).1)
    have h1 : -60000 ≤ (g_sf1 p rule x c first s).1.toInt := by
      unfold g_sf1
      by_cases q : first = true
      · rw [if_pos q]; exact hV
      · rw [if_neg q]
        by_cases q2 : g_V p rule x c ≤ s.1
        · rw [if_pos q2]; exact hs.resolve_left q
        · rw [if_neg q2]; exact hV
    unfold g_sf
    cases e : g_nc (pn p) c with
    | none => exact h1
    | some c' =>
      have hall' := hnext c' e
      have hf0 : 0 < f := by
        cases f with
        | zero => unfold g_all at hall'; cases hall'
        | succ f => omega
      exact ih c' false _ hf0 hall' (Or.inr h1)
theorem p_seatAt (d : Nat) (x y z : Int32) : i_pair (f_oc_seatAt_0 d x y z) (f_m_seatAt_0 d x y z) := by
  refine i_ask (fun p v r u w n nx B I0 J0 I J _ hB2 hA => ?_)
  obtain ⟨hC, mC, hrow, hN, hGd, hR⟩ := hA.1
  have hn := hC.1.1
  have ht := hC.1.2.2.2.2.2.2.2.2.2.2.1
  have b1 := b_oc_seatAt_0 d x y z I J
  have b2' := fun X : am_I => b_m_seatAt_0 d x y z X J
  rcases q_rule x y ht.2 with h | ⟨rule, i, hr, hi, rfl, rfl⟩
  · have b2 := b2' I
    rw [q_oc_R_n d hC h, am_bi_i, if_pos rfl] at b1
    rw [q_m_R_n d mC h, am_bi_i, if_pos rfl] at b2
    exact ⟨_, I, I, b1 _ rfl, b2 _ rfl, fun _ _ _ => rfl, hA.2.2.2.2.2.2.1, fun _ _ _ => rfl⟩
  rw [q_oc_R_y d hC hr hi, am_bi_i, if_neg (show ¬ (1 : Int32) = 0 by decide)] at b1
  rcases q_ix z (n := pn p) (by omega) with hx | ⟨b, hb, rfl⟩
  · have b2 := b2' I
    rw [q_oc_B_n d hC hx, am_bi_i, if_pos rfl] at b1
    rw [q_m_R_y d mC hr hi, am_bi_i, if_neg (show ¬ (1 : Int32) = 0 by decide), q_m_B_n d mC hx, am_bi_i, if_pos rfl] at b2
    exact ⟨_, I, I, b1 _ rfl, b2 _ rfl, fun _ _ _ => rfl, hA.2.2.2.2.2.2.1, fun _ _ _ => rfl⟩
  · obtain ⟨I1, a1, e12, e45, sc, k1⟩ := s_guide_findSeats d rule i p I J hr hi (by omega) hC hA.2.2.2.2.2.2.1.2
    rw [q_oc_B_y d hC hb, am_bi_i, if_neg (show ¬ (1 : Int32) = 0 by decide), am_at_n (by omega) (by omega), hC.2.2.2.2.2.2.2.2.1 i hi, a1, am_bv_v, am_at_n (by omega) (by omega), e45 b (by omega)] at b1
    have kk : ∀ c k, i_sup c k → I1 c k = I c k := fun c k hc => k1 c k (i_sup_S hc).1 (i_sup_S hc).2
    have hP' := i_P.keep (I' := I1) kk hA.1
    have mC' := hP'.2.1
    have b2 := b2' I1
    obtain ⟨I2, a2, e107, k2⟩ := s_m_seatsBy d rule i v p I1 J hr hi (by omega) mC'
    have hbd := g_sf_bd hC.1 rule (pth p i) 720 g_id true (0, 0) (by omega) (g_all_ok (pn p) (by omega)) (Or.inl rfl)
    rw [q_m_R_y d mC' hr hi, am_bi_i, if_neg (show ¬ (1 : Int32) = 0 by decide), q_m_B_y d mC' hb, am_bi_i, if_neg (show ¬ (1 : Int32) = 0 by decide), a2, am_bi_i, if_pos (Int32.le_iff_toInt_le.mpr (by rw [show (-999999 : Int32).toInt = -999999 from rfl]; omega)), am_at_n (by omega) (by omega), e107 b hb] at b2
    exact ⟨_, I1, I2, b1 _ rfl, b2 _ rfl, kk, ⟨hA.2.2.2.2.2.2.1.1.keep (fun k hk => k1 40 k (by decide) (Or.inr (by omega))) (fun k => k1 43 k (by decide) (Or.inl (by decide))), sc⟩, fun c k hc => k2 c k (i_all_mG2 hc)⟩
/-- what the best row's search leaves alone -/
theorem i_sup_B {c k : Nat} (h : i_sup c k) : c ∉ ([19, 20, 41, 42, 43, 47, 48, 49, 50, 51, 52] : List Nat) ∧ (c ≠ 40 ∨ (k ≠ 6 ∧ k ≠ 7 ∧ k ≠ 8 ∧ k ≠ 9 ∧ k ≠ 17)) := h.to (Q := fun c k => c ∉ ([19, 20, 41, 42, 43, 47, 48, 49, 50, 51, 52] : List Nat) ∧ (c ≠ 40 ∨ (k ≠ 6 ∧ k ≠ 7 ∧ k ≠ 8 ∧ k ≠ 9 ∧ k ≠ 17))) (fun c hc _ => ⟨(show ∀ c ∈ i_cs, c ∉ ([19, 20, 41, 42, 43, 47, 48, 49, 50, 51, 52] : List Nat) by decide) c hc, Or.inl ((show ∀ c ∈ i_cs, c ≠ 40 by decide) c hc)⟩) (fun q hq => ⟨(show ∀ q ∈ i_ps, q.1 ∉ ([19, 20, 41, 42, 43, 47, 48, 49, 50, 51, 52] : List Nat) by decide) q hq, Or.inl ((show ∀ q ∈ i_ps, q.1 ≠ 40 by decide) q hq)⟩)
/-- both find the best row -/
theorem q_best (d W : Nat) {p : g_Plan} {v : Nat} {r : g_Row} {B : Int} {I : am_I} {J : am_J} (hW : 1 ≤ W ∧ W ≤ 4) (hd : 4 ≤ d) (hB : B ≤ 900000) (hP : i_P p v r B I) (hG : i_G p r I) : ∃ I1 I2, f_guide_findRow_0 d (nI W) I J = some (none, I1, J) ∧ f_m_findsBest_0 d (nI W) I1 J = some (none, I2, J) ∧ g_kq (g_tr p W 0 r (fun _ => 0) (0, 0, 0, fun _ => 0)) I1 ∧ m_ks (g_tr p W 0 r (fun _ => 0) (0, 0, 0, fun _ => 0)) I2 ∧ (∀ c k, i_sup c k → I1 c k = I c k) ∧ i_G p r I1 ∧ (∀ c k, i_sup c k ∨ i_gd c k → I2 c k = I1 c k) := by
  obtain ⟨hC, mC, hrow, hN, hGd, hR⟩ := hP
  obtain ⟨I1, a1, q1, bc, k1⟩ := s_guide_findRow d W p I J hW (by omega) hC hN (by rw [hrow]; exact hGd.B hB) (by rw [hrow]; exact hG.1)
  rw [hrow] at q1 bc
  have kk : ∀ c k, i_sup c k → I1 c k = I c k := fun c k hc => k1 c k (i_sup_B hc).1 (i_sup_B hc).2
  have hP' := i_P.keep (I' := I1) (p := p) (v := v) (r := r) (B := B) kk ⟨hC, mC, hrow, hN, hGd, hR⟩
  obtain ⟨I2, a2, q2, k2⟩ := s_m_findsBest d W v p I1 J r hW hP'.2.1 hP'.N hGd.2.2.2.2.1
  exact ⟨I1, I2, a1, a2, q1, q2, kk, ⟨bc, hG.2.keep (fun k hk => k1 40 k (by decide) (Or.inr (by omega))) (fun k => k1 45 k (by decide) (Or.inl (by decide)))⟩, fun c k hc => k2 c k (i_all_mB hc)⟩
theorem m_ks.q {s : g_S} {I : am_I} (h : m_ks s I) (h1 : s.1 = 1) : I 68 58 = s.2.1 ∧ I 68 57 = nI s.2.2.1 ∧ s.2.2.1 ≤ 4 ∧ ∀ k, k < s.2.2.1 → I 103 k = nI (s.2.2.2 k / 10) ∧ I 104 k = nI (s.2.2.2 k % 10) := by
  rcases h.2 with q | q
  · rw [h1] at q; exact absurd q (by decide)
  · exact q.2
theorem p_best (d : Nat) (hd : 4 ≤ d) (x : Int32) : i_pair (f_oc_best_0 d x) (f_m_best_0 d x) := by
  refine i_ask (fun p v r u w n nx B I0 J0 I J _ hB2 hA => ?_)
  have ht := hA.1.1.1.2.2.2.2.2.2.2.2.2.2.1
  have b1 := b_oc_best_0 d x I J
  by_cases hx : 1 ≤ x ∧ x ≤ 4
  · obtain ⟨W, hW, rfl⟩ := q_dep.mp hx
    obtain ⟨I1, I2, a1, a2, q1, q2, k1, g1, k2⟩ := q_best d W hW hd hB2 hA.1 (J := J) hA.2.2.2.2.2.2.1
    have b2 := b_m_best_0 d (nI W) I1 J
    have q2 := q2.q (g_tr_1 ht.1 W 0 _ _ _ (Or.inl rfl))
    rw [q_oc_D_y d hW, am_bi_i, if_neg (show ¬ (1 : Int32) = 0 by decide), a1, am_bv_v, q1.1] at b1
    rw [s_m_in, am_tf_t hx, am_bi_i, if_neg (show ¬ (1 : Int32) = 0 by decide), a2, am_bv_v, q2.1] at b2
    exact ⟨_, I1, I2, b1 _ rfl, b2 _ rfl, k1, g1, k2⟩
  · have b2 := b_m_best_0 d x I J
    rw [q_oc_D_n d hx, am_bi_i, if_pos rfl] at b1
    rw [s_m_in, am_tf_f hx, am_bi_i, if_pos rfl] at b2
    exact ⟨_, I, I, b1 _ rfl, b2 _ rfl, fun _ _ _ => rfl, hA.2.2.2.2.2.2.1, fun _ _ _ => rfl⟩
theorem p_bestAt (d : Nat) (hd : 4 ≤ d) (x y : Int32) : i_pair (f_oc_bestAt_0 d x y) (f_m_bestAt_0 d x y) := by
  refine i_ask (fun p v r u w n nx B I0 J0 I J _ hB2 hA => ?_)
  have ht := hA.1.1.1.2.2.2.2.2.2.2.2.2.2.1
  have b1 := b_oc_bestAt_0 d x y I J
  by_cases hx : 1 ≤ x ∧ x ≤ 4
  · obtain ⟨W, hW, rfl⟩ := q_dep.mp hx
    rw [q_oc_D_y d hW, am_bi_i, if_neg (show ¬ (1 : Int32) = 0 by decide)] at b1
    by_cases hy : 0 ≤ y
    · obtain ⟨I1, I2, a1, a2, q1, q2, k1, g1, k2⟩ := q_best d W hW hd hB2 hA.1 (J := J) hA.2.2.2.2.2.2.1
      have b2 := b_m_bestAt_0 d (nI W) y I1 J
      have q2 := q2.q (g_tr_1 ht.1 W 0 _ _ _ (Or.inl rfl))
      obtain ⟨L, hL⟩ : ∃ L, L = (g_tr p W 0 r (fun _ => 0) (0, 0, 0, fun _ => 0)).2.2.1 := ⟨_, rfl⟩
      have e6 : I1 40 6 = nI L := by rw [q1.2.1, hL]
      have e57 : I2 68 57 = nI L := by rw [q2.2.1, hL]
      have hL4 : L ≤ 4 := by rw [hL]; exact q1.2.2.1
      rw [if_pos hy, a1, am_bv_v, e6] at b1
      rw [s_m_in, am_tf_t hx, am_bi_i, if_neg (show ¬ (1 : Int32) = 0 by decide), if_pos hy, a2, am_bv_v, e57] at b2
      rcases q_ix y (n := L) (by omega) with h | ⟨j, hj, rfl⟩
      · have h' : nI L ≤ y := h.resolve_left (fun q => Int32.not_le.mpr q hy)
        rw [if_pos h'] at b1 b2
        exact ⟨_, I1, I2, b1 _ rfl, b2 _ rfl, k1, g1, k2⟩
      · have z1 := q1.2.2.2 j (by rw [← hL]; exact hj)
        have z2 := q2.2.2.2 j (by rw [← hL]; exact hj)
        rw [if_neg (nI_ge hj (by omega)), am_at_n (by omega) (by omega), z1] at b1
        rw [if_neg (nI_ge hj (by omega)), am_at_n (by omega) (by omega), am_at_n (by omega) (by omega), z2.1, z2.2, am_i10, pk_mul, nI_add, Nat.div_add_mod] at b2
        exact ⟨_, I1, I2, b1 _ rfl, b2 _ rfl, k1, g1, k2⟩
    · have b2 := b_m_bestAt_0 d (nI W) y I J
      rw [if_neg hy] at b1
      rw [s_m_in, am_tf_t hx, am_bi_i, if_neg (show ¬ (1 : Int32) = 0 by decide), if_neg hy] at b2
      exact ⟨_, I, I, b1 _ rfl, b2 _ rfl, fun _ _ _ => rfl, hA.2.2.2.2.2.2.1, fun _ _ _ => rfl⟩
  · have b2 := b_m_bestAt_0 d x y I J
    rw [q_oc_D_n d hx, am_bi_i, if_pos rfl] at b1
    rw [s_m_in, am_tf_f hx, am_bi_i, if_pos rfl] at b2
    exact ⟨_, I, I, b1 _ rfl, b2 _ rfl, fun _ _ _ => rfl, hA.2.2.2.2.2.2.1, fun _ _ _ => rfl⟩

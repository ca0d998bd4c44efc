/-! pairs of calls that ask of rules -/
theorem p_rule (d : Nat) (x y z : Int32) : i_pair (f_oc_rule_0 d x y z) (f_m_rule_0 d x y z) := by
  refine q_three (fo := f_oc_rule_0 d) (fm := f_m_rule_0 d) x y z (fun p v I J hC mC h => ?_) (fun p v r B I J rule i hB hP hr hi ex ey hz => ?_)
  · have q := q_three_n d (J := J) hC mC h
    exact ⟨b_oc_rule_0 d x y z I J _ (q _ (fun _ _ _ => none)).1, b_m_rule_0 d x y z I J _ (q (fun _ _ _ => none) _).2⟩
  · subst ex ey
    obtain ⟨hC, mC, hrow, hN, hGd, hR⟩ := hP
    have hn := hC.1.1
    have ht := hC.1.2.2.2.2.2.2.2.2.2.2.1
    have b1 := b_oc_rule_0 d (nI rule) (nI i) z I J
    obtain ⟨I1, a1, e15, e16, k1⟩ := s_guide_findEnd d rule p I J (pth p i) hr hC hN
    rw [hrow] at e15 e16
    rw [q_oc_R_y d hC hr hi, am_bi_i, if_neg (show ¬ (1 : Int32) = 0 by decide), q_oc_H_y d hz, am_bi_i, if_neg (show ¬ (1 : Int32) = 0 by decide), am_at_n (by omega) (by omega), hC.2.2.2.2.2.2.2.2.1 i hi, a1, am_bv_v, e15, e16, q_if] at b1
    refine ⟨_, I1, b1 _ rfl, fun c k hc => k1 c k (hc.elim i_sup_G i_gd_G), fun I1 k1 => ?_⟩
    have hP' := i_P.keep' (I' := I1) (r := r) (B := B) ⟨hC, mC, hrow, hN, hGd, hR⟩ k1
    have b2 := b_m_rule_0 d (nI rule) (nI i) z I1 J
    obtain ⟨I2, a2, C2, N2, R2, c2, l2, h2, k2⟩ := s_m_fresh d v p I1 J r hP'.2.1 hP'.N
    obtain ⟨I3, a3, E3, k3⟩ := s_m_plain d rule i v p I2 J (fun _ => 0) (-1) r hr hi C2 (R2.E hn) N2.2.1 N2.2.2.1 c2 (fun b hb => l2 b (by omega)) h2
    rw [q_m_R_y d hP'.2.1 hr hi, am_bi_i, if_neg (show ¬ (1 : Int32) = 0 by decide), q_m_H_y d hz, am_bi_i, if_neg (show ¬ (1 : Int32) = 0 by decide), a2, am_bv_v, a3, am_bi_i, aq_30, ← E3.1 30 (by decide) (by decide), q_if] at b2
    exact ⟨I3, b2 _ rfl, fun c k hc => by rw [k3 c k (i_all_mG hc).F, k2 c k (i_all_mG hc)]⟩
theorem p_dropBest (d : Nat) (x y z : Int32) : i_pair (f_oc_dropBest_0 d x y z) (f_m_dropBest_0 d x y z) := by
  refine q_three (fo := f_oc_dropBest_0 d) (fm := f_m_dropBest_0 d) x y z (fun p v I J hC mC h => ?_) (fun p v r B I J rule i hB hP hr hi ex ey hz => ?_)
  · have q := q_three_n d (J := J) hC mC h
    exact ⟨b_oc_dropBest_0 d x y z I J _ (q _ (fun _ _ _ => none)).1, b_m_dropBest_0 d x y z I J _ (q (fun _ _ _ => none) _).2⟩
  · subst ex ey
    obtain ⟨hC, mC, hrow, hN, hGd, hR⟩ := hP
    have ht := hC.1.2.2.2.2.2.2.2.2.2.2.1
    have b1 := b_oc_dropBest_0 d (nI rule) (nI i) z I J
    obtain ⟨I1, a1, st, k1⟩ := s_guide_findDrops d rule p I J (pth p i) hr hC hN
    rw [hrow] at st
    have e15 : I1 40 15 = (g_fd1 p rule (pth p i) r (pn p + 1) 0 (0, I 40 15, I 40 16)).2.1 := by rw [← st]; rfl
    have e16 : I1 40 16 = (g_fd1 p rule (pth p i) r (pn p + 1) 0 (0, I 40 15, I 40 16)).2.2 := by rw [← st]; rfl
    rw [q_oc_R_y d hC hr hi, am_bi_i, if_neg (show ¬ (1 : Int32) = 0 by decide), q_oc_H_y d hz, am_bi_i, if_neg (show ¬ (1 : Int32) = 0 by decide), am_at_n (by omega) (by omega), hC.2.2.2.2.2.2.2.2.1 i hi, a1, am_bv_v, e15, e16, q_if] at b1
    refine ⟨_, I1, b1 _ rfl, fun c k hc => k1 c k (hc.elim i_sup_G i_gd_G), fun I1 k1 => ?_⟩
    have hP' := i_P.keep' (I' := I1) (r := r) (B := B) ⟨hC, mC, hrow, hN, hGd, hR⟩ k1
    have b2 := b_m_dropBest_0 d (nI rule) (nI i) z I1 J
    obtain ⟨I2, a2, k2⟩ := s_m_dropBest d rule i v p I1 J r z (I 40 15) (I 40 16) hr hi hP'.2.1 hP'.N (hGd.B hB)
    rw [q_m_R_y d hP'.2.1 hr hi, am_bi_i, if_neg (show ¬ (1 : Int32) = 0 by decide), q_m_H_y d hz, am_bi_i, if_neg (show ¬ (1 : Int32) = 0 by decide)] at b2
    exact ⟨I2, b2 _ a2, fun c k hc => k2 c k (i_all_mG hc)⟩
theorem p_offerBest (d : Nat) (x y z : Int32) : i_pair (f_oc_offerBest_0 d x y z) (f_m_offerBest_0 d x y z) := by
  refine q_three (fo := f_oc_offerBest_0 d) (fm := f_m_offerBest_0 d) x y z (fun p v I J hC mC h => ?_) (fun p v r B I J rule i hB hP hr hi ex ey hz => ?_)
  · have q := q_three_n d (J := J) hC mC h
    exact ⟨b_oc_offerBest_0 d x y z I J _ (q _ (fun _ _ _ => none)).1, b_m_offerBest_0 d x y z I J _ (q (fun _ _ _ => none) _).2⟩
  · subst ex ey
    obtain ⟨hC, mC, hrow, hN, hGd, hR⟩ := hP
    have ht := hC.1.2.2.2.2.2.2.2.2.2.2.1
    have b1 := b_oc_offerBest_0 d (nI rule) (nI i) z I J
    obtain ⟨I1, a1, st, k1⟩ := s_guide_findOffer d rule p I J (pth p i) hr hC hN
    rw [hrow] at st
    have e15 : I1 40 15 = (g_fo0 p rule (pth p i) r (g_st I)).2.1 := by rw [← st]; rfl
    have e16 : I1 40 16 = (g_fo0 p rule (pth p i) r (g_st I)).2.2 := by rw [← st]; rfl
    rw [q_oc_R_y d hC hr hi, am_bi_i, if_neg (show ¬ (1 : Int32) = 0 by decide), q_oc_H_y d hz, am_bi_i, if_neg (show ¬ (1 : Int32) = 0 by decide), am_at_n (by omega) (by omega), hC.2.2.2.2.2.2.2.2.1 i hi, a1, am_bv_v, e15, e16, q_if] at b1
    refine ⟨_, I1, b1 _ rfl, fun c k hc => k1 c k (hc.elim i_sup_G i_gd_G), fun I1 k1 => ?_⟩
    have hP' := i_P.keep' (I' := I1) (r := r) (B := B) ⟨hC, mC, hrow, hN, hGd, hR⟩ k1
    have b2 := b_m_offerBest_0 d (nI rule) (nI i) z I1 J
    obtain ⟨I2, a2, k2⟩ := s_m_offerBest d rule i v p I1 J r z (g_st I) hr hi hP'.2.1 hP'.N
    rw [q_m_R_y d hP'.2.1 hr hi, am_bi_i, if_neg (show ¬ (1 : Int32) = 0 by decide), q_m_H_y d hz, am_bi_i, if_neg (show ¬ (1 : Int32) = 0 by decide)] at b2
    exact ⟨I2, b2 _ a2, fun c k hc => k2 c k (i_all_mG hc)⟩
theorem i_all_46 {c k : Nat} (h : i_sup c k ∨ i_gd c k) : c ≠ 46 := by
  rcases h with h | h
  · exact h.to (Q := fun c _ => c ≠ 46) (fun c hc _ => (show ∀ c ∈ i_cs, c ≠ 46 by decide) c hc) (fun q hq => (show ∀ q ∈ i_ps, q.1 ≠ 46 by decide) q hq)
  · exact h.to (Q := fun c _ => c ≠ 46) (fun c hc _ => (show ∀ c ∈ ([43, 45] : List Nat), c ≠ 46 by decide) c hc) (fun q hq => (show ∀ q ∈ i_gp, q.1 ≠ 46 by decide) q hq)
theorem p_shared (d : Nat) (x y z : Int32) : i_pair (f_oc_shared_0 d x y z) (f_m_shared_0 d x y z) := by
  refine q_three (fo := f_oc_shared_0 d) (fm := f_m_shared_0 d) x y z (fun p v I J hC mC h => ?_) (fun p v r B I J rule i hB hP hr hi ex ey hz => ?_)
  · have q := q_three_n d (J := J) hC mC h
    exact ⟨b_oc_shared_0 d x y z I J _ (q _ (fun _ _ _ => none)).1, b_m_shared_0 d x y z I J _ (q (fun _ _ _ => none) _).2⟩
  · subst ex ey
    obtain ⟨hC, mC, hrow, hN, hGd, hR⟩ := hP
    have hn := hC.1.1
    have h1' : 1 ≤ 2 ^ pn p := Nat.one_le_two_pow
    have ht := hC.1.2.2.2.2.2.2.2.2.2.2.1
    have b1 := b_oc_shared_0 d (nI rule) (nI i) z I J
    obtain ⟨I1, a1, st, k1⟩ := s_guide_findShares d rule p I J (pth p i) hr hC
    have e15 : I1 40 15 = (g_fs p rule (pth p i) (2 ^ pn p) 0 (0, I 40 15, I 40 16)).2.1 := by rw [← st]; rfl
    have e16 : I1 40 16 = (g_fs p rule (pth p i) (2 ^ pn p) 0 (0, I 40 15, I 40 16)).2.2 := by rw [← st]; rfl
    rw [q_oc_R_y d hC hr hi, am_bi_i, if_neg (show ¬ (1 : Int32) = 0 by decide), q_oc_H_y d hz, am_bi_i, if_neg (show ¬ (1 : Int32) = 0 by decide), am_at_n (by omega) (by omega), hC.2.2.2.2.2.2.2.2.1 i hi, a1, am_bv_v, e15, e16, q_if] at b1
    refine ⟨_, I1, b1 _ rfl, fun c k hc => k1 c k (hc.elim i_sup_G i_gd_G) (i_all_46 hc), fun I1 k1 => ?_⟩
    have hP' := i_P.keep' (I' := I1) (r := r) (B := B) ⟨hC, mC, hrow, hN, hGd, hR⟩ k1
    have mC' := hP'.2.1
    have b2 := b_m_shared_0 d (nI rule) (nI i) z I1 J
    obtain ⟨I2, a2, k2⟩ := s_m_shared46 d rule i v p J z hr hi (2 ^ pn p) 0 (-1) 0 (0, I 40 15, I 40 16) I1 (by omega) mC' (Or.inl ⟨rfl, rfl⟩) (Or.inl (by omega))
    rw [q_m_R_y d mC' hr hi, am_bi_i, if_neg (show ¬ (1 : Int32) = 0 by decide), q_m_H_y d hz, am_bi_i, if_neg (show ¬ (1 : Int32) = 0 by decide), mC'.2.2.1, am_at_n mC'.2.1 (by omega), mC'.2.2.2.1, g_shl (pn p) (by omega), am_i1, pk_sub h1'] at b2
    exact ⟨I2, b2 _ a2, fun c k hc => k2 c k (i_all_mG hc)⟩
theorem p_bestRule (d : Nat) (x : Int32) : i_pair (f_oc_bestRule_0 d x) (f_m_bestRule_0 d x) := by
  refine i_ask (fun p v r u w n nx B I0 J0 I J _ hB2 hA => ?_)
  obtain ⟨hC, mC, hrow, hN, hGd, hR⟩ := hA.1
  have b1 := b_oc_bestRule_0 d x I J
  by_cases hx : 0 ≤ x ∧ x ≤ 2
  · obtain ⟨I1, a1, st, k1⟩ := s_guide_findRule d p I J hC hN
    rw [hrow] at st
    have kk : ∀ c k, i_sup c k ∨ i_gd c k → I1 c k = I c k := fun c k hc => k1 c k (hc.elim i_sup_G i_gd_G)
    have hP' := i_P.keep' (I' := I1) hA.1 kk
    have b2 := b_m_bestRule_0 d x I1 J
    obtain ⟨b', bi', most', I2, q1, q2, q3, q4, k2⟩ := s_m_bestRule d v p I1 J r x hP'.2.1 hP'.N (I 40 15) (I 40 16)
    rw [s_m_in, am_tf_t hx, am_bi_i, if_neg (show ¬ (1 : Int32) = 0 by decide)] at b2
    rw [q4] at st
    have e15 : I1 40 15 = most' := (Prod.mk.inj (Prod.mk.inj st).2).1
    have e16 : I1 40 16 = nI (b' * 4 + bi') := (Prod.mk.inj (Prod.mk.inj st).2).2
    rw [if_neg (Int32.not_lt.mpr hx.1), if_pos hx.2, a1, am_bv_v, e15, e16, if_neg (show ¬ (4 : Int32) = 0 by decide), show (4 : Int32) = nI 4 from rfl, pk_rem (by omega) (by omega) (by omega), pk_div (by omega) (by omega) (by omega), show (b' * 4 + bi') / 4 = b' by omega, show (b' * 4 + bi') % 4 = bi' by omega, if_neg (show ¬ nI 4 = 0 by decide)] at b1
    refine ⟨_, I1, I2, b1 _ ?_, b2 _ q3, fun c k hc => kk c k (Or.inl hc), i_G.keep (fun c k hc => kk c k (Or.inr hc)) hA.2.2.2.2.2.2.1, fun c k hc => k2 c k (i_all_mG hc)⟩
    by_cases x2 : x = 2
    · subst x2
      rw [if_pos rfl, if_neg (show ¬ (2 : Int32) = 0 by decide), if_neg (show ¬ (2 : Int32) = 1 by decide)]
    · rw [if_neg x2]
      by_cases x0 : x = 0
      · rw [if_pos x0, if_pos x0]
      · have x1 : x = 1 := by
          have z1 := Int32.le_iff_toInt_le.mp hx.1
          have z2 := Int32.le_iff_toInt_le.mp hx.2
          rw [← Int32.toInt_inj] at x0 x2 ⊢
          rw [show (0 : Int32).toInt = 0 from rfl] at z1 x0
          rw [show (2 : Int32).toInt = 2 from rfl] at z2 x2
          rw [show (1 : Int32).toInt = 1 from rfl]
          omega
        rw [if_neg x0, if_neg x0, if_pos x1]
  · have b2 := b_m_bestRule_0 d x I J
    rw [s_m_in, am_tf_f hx, am_bi_i, if_pos rfl] at b2
    refine ⟨_, I, I, b1 _ ?_, b2 _ rfl, fun _ _ _ => rfl, hA.2.2.2.2.2.2.1, fun _ _ _ => rfl⟩
    by_cases h0 : x < 0
    · rw [if_pos h0]
    · rw [if_neg h0, if_neg (fun q => hx ⟨Int32.not_lt.mp h0, q⟩)]
theorem p_haste (d : Nat) (x y z : Int32) : i_pair (f_oc_haste_0 d x y z) (f_m_haste_0 d x y z) := by
  refine i_ask (fun p v r u w n nx B I0 J0 I J _ hB2 hA => ?_)
  obtain ⟨hC, mC, hrow, hN, hGd, hR⟩ := hA.1
  have hn := hC.1.1
  have ht := hC.1.2.2.2.2.2.2.2.2.2.2.1
  have b1 := b_oc_haste_0 d x y z I J
  rcases q_ix x (n := pn p) (by omega) with hx | ⟨b, hb, rfl⟩
  · have b2 := b_m_haste_0 d x y z I J
    rw [q_oc_B_n d hC hx, am_bi_i, if_pos rfl] at b1
    rw [q_m_B_n d mC hx, am_bi_i, if_pos rfl] at b2
    exact ⟨_, I, I, b1 _ rfl, b2 _ rfl, fun _ _ _ => rfl, hA.2.2.2.2.2.2.1, fun _ _ _ => rfl⟩
  · rw [q_oc_B_y d hC hb, am_bi_i, if_neg (show ¬ (1 : Int32) = 0 by decide)] at b1
    rcases q_rule y z ht.2 with h | ⟨rule, i, hr, hi, rfl, rfl⟩
    · have b2 := b_m_haste_0 d (nI b) y z I J
      rw [q_oc_R_n d hC h, am_bi_i, if_pos rfl] at b1
      rw [q_m_B_y d mC hb, am_bi_i, if_neg (show ¬ (1 : Int32) = 0 by decide), q_m_R_n d mC h, am_bi_i, if_pos rfl] at b2
      exact ⟨_, I, I, b1 _ rfl, b2 _ rfl, fun _ _ _ => rfl, hA.2.2.2.2.2.2.1, fun _ _ _ => rfl⟩
    · obtain ⟨I1, a1, k1⟩ := s_guide_hasteOf d rule b p I J (pth p i) hr hC hN
      rw [q_oc_R_y d hC hr hi, am_bi_i, if_neg (show ¬ (1 : Int32) = 0 by decide), am_at_n (by omega) (by omega), hC.2.2.2.2.2.2.2.2.1 i hi, a1, am_bi_i, hrow] at b1
      have kk : ∀ c k, i_sup c k ∨ i_gd c k → I1 c k = I c k := fun c k hc => k1 c k (hc.elim i_sup_G i_gd_G)
      have hP' := i_P.keep' (I' := I1) hA.1 kk
      have mC' := hP'.2.1
      have b2 := b_m_haste_0 d (nI b) (nI rule) (nI i) I1 J
      obtain ⟨I2, a2, k2⟩ := s_m_wonBy d rule i v p I1 J r hr hi mC' hP'.N
      obtain ⟨I3, a3, C3, N3, R3, c3, l3, h3, k3⟩ := s_m_fresh d v p I2 J r (mC'.G k2) (hP'.N.keep k2)
      have k4 : ∀ c k, (c ≠ 68 ∨ k ≠ 49) → am_upd I3 68 49 (nI b) c k = I3 c k := fun c k h => by
        rcases h with h | h
        · exact am_uc h
        · exact am_uk h
      have r4 : (am_upd I3 68 49 (nI b)) 98 = I3 98 := by funext j; exact k4 98 j (Or.inl (by decide))
      obtain ⟨I5, a5, -, k5⟩ := s_m_plain d rule i v p (am_upd I3 68 49 (nI b)) J (fun _ => 0) (nI b) r hr hi (C3.keep (k4 68 18 (Or.inr (by decide))) (fun c k hc => k4 c k (Or.inl ((show ∀ c ∈ m_Cc, c ≠ 68 by decide) c hc)))) (by rw [r4]; exact R3.E hn) N3.2.1 N3.2.2.1 (by rw [r4]; exact c3) (fun j hj => by rw [k4 99 j (Or.inl (by decide))]; exact l3 j (by omega)) am_ue
      rw [q_m_B_y d mC' hb, am_bi_i, if_neg (show ¬ (1 : Int32) = 0 by decide), q_m_R_y d mC' hr hi, am_bi_i, if_neg (show ¬ (1 : Int32) = 0 by decide), a2, am_bi_i, a3, am_bv_v, a5, am_bi_i] at b2
      refine ⟨_, I1, I5, b1 _ rfl, b2 _ rfl, fun c k hc => kk c k (Or.inl hc), i_G.keep (fun c k hc => kk c k (Or.inr hc)) hA.2.2.2.2.2.2.1, fun c k hc => ?_⟩
      have g := i_all_mG hc
      rw [k5 c k g.F, k4 c k g.c.2.2, k3 c k g, k2 c k g]

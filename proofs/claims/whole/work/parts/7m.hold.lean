/-! hold and restore -/
/-- a row was held -/
theorem p_hold (d : Nat) (x : Int32) : i_pair (f_oc_hold_0 d x) (f_m_hold_0 d x) := by
  intro I0 J0 B I J hB hB2 ⟨p, v, r, u, nx, w, n, hA⟩
  have b1 := b_oc_hold_0 d x I J
  have b2' := fun I1 => b_m_hold_0 d x I1 J
  rcases q_ix x (show 3 < 2 ^ 31 by decide) with hx | ⟨s, hs, rfl⟩
  · have b2 := b2' I
    rw [q_oc_S_n d hx, am_bi_i, if_pos rfl, am_b01_0] at b1
    rw [q_m_S_n d hx, am_bi_i, if_pos rfl, am_b01_0] at b2
    exact ⟨_, I, I, J, b1 _ rfl, b2 _ rfl, fun _ => rfl, p, v, r, u, nx, w, n, hA.up (by omega)⟩
  · rw [q_oc_S_y d hs, am_bi_i, if_neg (show ¬ (1 : Int32) = 0 by decide)] at b1
    obtain ⟨I1, a1, v1, k1⟩ := s_now_writeTo d (22 * s) I J (by omega)
    obtain ⟨I2, e2⟩ : ∃ I2, I2 = am_upd I1 67 s 1 := ⟨_, rfl⟩
    have ep : f_slots_put_0 d (nI s) I J = some (none, I2, J) := by
      have b3 := b_slots_put_0 d (nI s) I J
      rw [am_i22, pk_mul, Nat.mul_comm s 22, a1, am_bv_v, am_at_n hs (by omega), am_b01_1, ← e2] at b3
      refine b3 _ ?_
      rw [if_neg (show ¬ nI s < 0 from (show ∀ s, s < 3 → ¬ nI s < 0 by decide) s hs), if_neg (show ¬ (3 : Int32) ≤ nI s from (show ∀ s, s < 3 → ¬ (3 : Int32) ≤ nI s by decide) s hs)]
    rw [ep, am_bv_v, am_b01_1] at b1
    have b2 := b2' I2
    rw [q_m_S_y d hs, am_bi_i, if_neg (show ¬ (1 : Int32) = 0 by decide), am_at_n hs (by omega), am_b01_1] at b2
    obtain ⟨I3, e3⟩ : ∃ I3, I3 = am_upd I2 110 s 1 := ⟨_, rfl⟩
    rw [← e3] at b2
    obtain ⟨I4, e4⟩ : ∃ I4, I4 = am_cpy I3 97 0 111 (40 * s + 0) 40 := ⟨_, rfl⟩
    have a4 := lo_hold_20 d s hs J (some (.int 1), I4, J) 40 0 I3 rfl (by rw [e4])
    have k2 : ∀ c k, (c ≠ 67 ∨ k ≠ s) → I2 c k = I1 c k := fun c k h => by
      rw [e2]
      rcases h with h | h
      · exact am_uc h
      · exact am_uk h
    have k3 : ∀ c k, (c ≠ 110 ∨ k ≠ s) → I3 c k = I2 c k := fun c k h => by
      rw [e3]
      rcases h with h | h
      · exact am_uc h
      · exact am_uk h
    have k4 : ∀ c k, (c ≠ 111 ∨ k < 40 * s ∨ 40 * s + 40 ≤ k) → I4 c k = I3 c k := fun c k h => by
      rw [e4]
      by_cases h1 : c = 111
      · rw [h1]
        exact am_co (by omega)
      · exact am_cc h1
    have e : ∀ c k, c ∉ ([66, 67, 110, 111] : List Nat) → (c, k) ∉ ([] : List (Nat × Nat)) → I4 c k = I c k := fun c k z1 _ => (k4 c k (Or.inl (n_c z1 111 (by decide)))).trans ((k3 c k (Or.inl (n_c z1 110 (by decide)))).trans ((k2 c k (Or.inl (n_c z1 67 (by decide)))).trans (k1 c k (Or.inl (n_c z1 66 (by decide))))))
    obtain ⟨hP, hU, hS, hW, hT, hF, hG, hK⟩ := hA
    obtain ⟨hC, mC, hrow, hN, hGd, hR⟩ := hP
    have gk : ∀ r', g_Gd p I B r' → g_Gd p I4 B r' := fun r' h => h.keep (fun c k hc => e c k ((show ∀ c ∈ ([13, 38] : List Nat), c ∉ ([66, 67, 110, 111] : List Nat) by decide) c hc) (fun q => by simp at q))
    refine ⟨_, I2, I4, J, b1 _ rfl, b2 _ a4, fun k => (k2 0 k (Or.inl (by decide))).trans (k1 0 k (Or.inl (by decide))), p, v, r, u, nx, w, n, i_A.up (B := B) ⟨i_P.k (i_of e (by decide)) ⟨hC, mC, hrow, hN, hGd, hR⟩, hU.k (i_of e (by decide)), fun t ht => ?_, hW.k (i_of e (by decide)), hT.k (i_of e (by decide)), by rw [e 32 6 (by decide) (by simp), e 68 17 (by decide) (by simp)]; exact hF, hG.keep (i_of e (by decide)), i_ofK e (by decide) (fun _ => rfl) hK⟩ (by omega)⟩
    by_cases hts : t = s
    · subst hts
      have c67 : I4 67 t = 1 := by rw [k4 67 t (Or.inl (by decide)), k3 67 t (Or.inl (by decide)), e2, am_ue]
      have c110 : I4 110 t = 1 := by rw [k4 110 t (Or.inl (by decide)), e3, am_ue]
      refine ⟨c67.trans c110.symm, Or.inr ⟨c67, r, gk r hGd, ?_, fun k z1 z2 => ?_⟩⟩
      · have q := g_sv_of v1 hN.2.1
        rw [hrow] at q
        exact q.keep (fun j _ _ => (k4 66 j (Or.inl (by decide))).trans ((k3 66 j (Or.inl (by decide))).trans (k2 66 j (Or.inl (by decide)))))
      · show r k = I4 111 (40 * t + k)
        rw [e4, am_ce (by omega) (by omega), k3 97 _ (Or.inl (by decide)), k2 97 _ (Or.inl (by decide)), k1 97 _ (Or.inl (by decide)), show 0 + (40 * t + k - (40 * t + 0)) = k by omega]
        exact hR k z1 z2
    · obtain ⟨q0, q1⟩ := hS t ht
      have c67 : I4 67 t = I 67 t := by rw [k4 67 t (Or.inl (by decide)), k3 67 t (Or.inl (by decide)), k2 67 t (Or.inr hts), k1 67 t (Or.inl (by decide))]
      have c110 : I4 110 t = I 110 t := by rw [k4 110 t (Or.inl (by decide)), k3 110 t (Or.inr hts), k2 110 t (Or.inl (by decide)), k1 110 t (Or.inl (by decide))]
      rw [c67, c110]
      refine ⟨q0, q1.imp id (fun ⟨z0, r', z1, z2, z3⟩ => ⟨z0, r', gk r' z1, z2.keep (fun j hj1 hj2 => ?_), fun k y1 y2 => ?_⟩)⟩
      · rw [k4 66 j (Or.inl (by decide)), k3 66 j (Or.inl (by decide)), k2 66 j (Or.inl (by decide)), k1 66 j (Or.inr (by omega))]
      · show r' k = I4 111 (40 * t + k)
        rw [k4 111 _ (Or.inr (by omega)), k3 111 _ (Or.inl (by decide)), k2 111 _ (Or.inl (by decide)), k1 111 _ (Or.inl (by decide))]
        exact z3 k y1 y2
/-- a held row was taken back -/
theorem p_restore (d : Nat) (x : Int32) : i_pair (f_oc_restore_0 d x) (f_m_restore_0 d x) := by
  intro I0 J0 B I J hB hB2 ⟨p, v, r, u, nx, w, n, hA⟩
  have b1 := b_oc_restore_0 d x I J
  have b2' := fun I1 => b_m_restore_0 d x I1 J
  rcases q_ix x (show 3 < 2 ^ 31 by decide) with hx | ⟨s, hs, rfl⟩
  · have b2 := b2' I
    rw [q_oc_S_n d hx, am_bi_i, if_pos rfl, am_b01_0] at b1
    rw [q_m_S_n d hx, am_bi_i, if_pos rfl, am_b01_0] at b2
    exact ⟨_, I, I, J, b1 _ rfl, b2 _ rfl, fun _ => rfl, p, v, r, u, nx, w, n, hA.up (by omega)⟩
  · rw [q_oc_S_y d hs, am_bi_i, if_neg (show ¬ (1 : Int32) = 0 by decide), am_at_n hs (by omega)] at b1
    obtain ⟨q0, q1⟩ := hA.2.2.1 s hs
    rcases q1 with q1 | ⟨q1, r0, g0, s0, v0⟩
    · have b2 := b2' I
      rw [q_m_S_y d hs, am_bi_i, if_neg (show ¬ (1 : Int32) = 0 by decide), am_at_n hs (by omega), ← q0, if_pos q1, am_b01_0] at b2
      rw [if_pos q1, am_b01_0] at b1
      exact ⟨_, I, I, J, b1 _ rfl, b2 _ rfl, fun _ => rfl, p, v, r, u, nx, w, n, hA.up (by omega)⟩
    · rw [if_neg (show ¬ I 67 s = 0 by rw [q1]; decide)] at b1
      obtain ⟨I1, a1, v1, k1⟩ := s_now_readFrom_slots_rows d (22 * s) I J (by omega)
      have ep : f_slots_take_0 d (nI s) I J = some (none, I1, J) := by
        have b3 := b_slots_take_0 d (nI s) I J
        rw [am_i22, pk_mul, Nat.mul_comm s 22, a1, am_bv_v] at b3
        exact b3 _ rfl
      obtain ⟨I2, e2⟩ : ∃ I2, I2 = am_upd I1 40 8 (-1) := ⟨_, rfl⟩
      have ec : f_guide_playChanges_0 d I1 J = some (none, I2, J) := b_guide_playChanges_0 d I1 J _ (by rw [e2])
      obtain ⟨I3, e3⟩ : ∃ I3, I3 = am_upd (am_upd I2 63 1 0) 63 2 0 := ⟨_, rfl⟩
      have ed : f_past_clear_0 d I2 J = some (none, I3, J) := b_past_clear_0 d I2 J _ (by rw [e3])
      rw [ep, am_bv_v, ec, am_bv_v, ed, am_bv_v, am_b01_1] at b1
      have k2 : ∀ c k, (c ≠ 40 ∨ k ≠ 8) → I2 c k = I1 c k := fun c k h => by
        rw [e2]
        rcases h with h | h
        · exact am_uc h
        · exact am_uk h
      have k3 : ∀ c k, (c ≠ 63 ∨ k ≠ 1) → (c ≠ 63 ∨ k ≠ 2) → I3 c k = I2 c k := fun c k z1 z2 => by rw [e3]; exact i_upd2 c k z1 z2
      have b2 := b2' I3
      have c110 : I3 110 s = 1 := by rw [k3 110 s (Or.inl (by decide)) (Or.inl (by decide)), k2 110 s (Or.inl (by decide)), k1 110 s (Or.inl (by decide)) (by decide) (by decide) (by decide), ← q0, q1]
      rw [q_m_S_y d hs, am_bi_i, if_neg (show ¬ (1 : Int32) = 0 by decide), am_at_n hs (by omega), if_neg (show ¬ I3 110 s = 0 by rw [c110]; decide)] at b2
      obtain ⟨I4, e4⟩ : ∃ I4, I4 = am_upd (am_cpy I3 111 (40 * s + 0) 97 0 40) 68 50 0 := ⟨_, rfl⟩
      have a4 := lo_restore_22 d s hs J (some (.int 1), I4, J) 40 0 I3 rfl (by rw [e4])
      have k4 : ∀ c k, c ≠ 97 → (c ≠ 68 ∨ k ≠ 50) → I4 c k = I3 c k := fun c k z1 z2 => by
        rw [e4]
        rcases z2 with h | h
        · rw [am_uc h, am_cc z1]
        · rw [am_uk h, am_cc z1]
      have g1 : g_row I1 34 = r0 := g_nowIs g0 s0 v1 k1
      have e : ∀ c k, c ∉ ([35, 36, 37, 97] : List Nat) → (c, k) ∉ ([(34, 7), (34, 8), (34, 9), (34, 10), (63, 1), (63, 2), (40, 8), (68, 50)] : List (Nat × Nat)) → I4 c k = I c k := fun c k z1 z2 => (k4 c k (n_c z1 97 (by decide)) (n_1 z2 68 50 (by decide))).trans ((k3 c k (n_1 z2 63 1 (by decide)) (n_1 z2 63 2 (by decide))).trans ((k2 c k (n_1 z2 40 8 (by decide))).trans (k1 c k (n_34 z2 (by decide)) (n_c z1 35 (by decide)) (n_c z1 36 (by decide)) (n_c z1 37 (by decide)))))
      have r4 : g_row I4 34 = r0 := by
        rw [← g1]
        exact g_rk_now (fun c k hc => (k4 c k ((show ∀ c ∈ ([13, 34, 35, 36, 37, 38] : List Nat), c ≠ 97 by decide) c hc) (Or.inl ((show ∀ c ∈ ([13, 34, 35, 36, 37, 38] : List Nat), c ≠ 68 by decide) c hc))).trans ((k3 c k (Or.inl ((show ∀ c ∈ ([13, 34, 35, 36, 37, 38] : List Nat), c ≠ 63 by decide) c hc)) (Or.inl ((show ∀ c ∈ ([13, 34, 35, 36, 37, 38] : List Nat), c ≠ 63 by decide) c hc))).trans (k2 c k (Or.inl ((show ∀ c ∈ ([13, 34, 35, 36, 37, 38] : List Nat), c ≠ 40 by decide) c hc)))))
      have v4 : g_R p r0 (I4 97) := fun k z1 z2 => by
        rw [v0 k z1 z2, e4, am_uc (by decide), am_ce (by omega) (by omega), k3 111 _ (Or.inl (by decide)) (Or.inl (by decide)), k2 111 _ (Or.inl (by decide)), k1 111 _ (Or.inl (by decide)) (by decide) (by decide) (by decide)]
        rfl
      refine ⟨_, I3, I4, J, b1 _ rfl, b2 _ a4, fun k => by rw [k3 0 k (Or.inl (by decide)) (Or.inl (by decide)), k2 0 k (Or.inl (by decide)), k1 0 k (Or.inl (by decide)) (by decide) (by decide) (by decide)], p, v, r0, 0, 0, w, n, (q_took hA e r4 v4 ?_ g0 ⟨?_, ?_, by omega, ?_, by omega, fun i hi => absurd hi (by omega)⟩).up (by omega)⟩
      · rw [k4 40 8 (by decide) (Or.inl (by decide)), k3 40 8 (Or.inl (by decide)) (Or.inl (by decide)), e2, am_ue]
      · rw [k4 63 2 (by decide) (Or.inl (by decide)), e3, am_ue]; rfl
      · rw [e4, am_ue]; rfl
      · rw [k4 63 1 (by decide) (Or.inl (by decide)), e3, am_uk (by decide), am_ue]; rfl

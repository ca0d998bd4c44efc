/-! pairs of calls: pause, undo, hold, restore -/
theorem q_pz {x : Int32} : (1 ≤ x ∧ x ≤ 500) ↔ ¬ (x < 1 ∨ 500 < x) := by
  constructor
  · rintro ⟨h1, h2⟩ (q | q)
    · exact Int32.not_le.mpr q h1
    · exact Int32.not_le.mpr q h2
  · intro h
    exact ⟨Int32.not_lt.mp (fun q => h (Or.inl q)), Int32.not_lt.mp (fun q => h (Or.inr q))⟩
theorem p_pause (d : Nat) (x : Int32) : i_pair (f_oc_pause_0 d x) (f_m_pause_0 d x) := by
  intro I0 J0 B I J hB hB2 ⟨p, v, r, u, nx, w, n, hA⟩
  obtain ⟨hC, mC, hrow, hN, hGd, hR⟩ := hA.1
  have hn := hC.1.1
  have b1 := b_oc_pause_0 d x I J
  have b2' := fun X : am_I => b_m_pause_0 d x X J
  have same : ∀ (z : Int32) (I2 : am_I), f_oc_pause_0 d x I J = some (some (.int z), I, J) → f_m_pause_0 d x I J = some (some (.int z), I2, J) → (∀ c k, m_G c k → I2 c k = I c k) → ∃ y' I1 I2 J2, f_oc_pause_0 d x I J = some (some (.int y'), I1, J) ∧ f_m_pause_0 d x I1 J = some (some (.int y'), I2, J2) ∧ (∀ k, I1 0 k = I 0 k) ∧ i_I I0 J0 (B + 999) I2 J2 := fun z I2 e1 e2 k => ⟨z, I, I2, J, e1, e2, fun _ => rfl, p, v, r, u, nx, w, n, (hA.keep (fun c j hc => k c j (i_sup_mG hc)) (i_G.keep (fun c j hc => k c j (i_gd_mG hc)) hA.2.2.2.2.2.2.1)).up (by omega)⟩
  have fresh : ∀ X : am_I, m_C p v X → m_N p r X → ∃ I1, f_m_copies_0 d X J = some (none, I1, J) ∧ m_C p v I1 ∧ g_R p r (I1 98) ∧ g_cap p (I1 98) ∧ (∀ c k, m_G c k → I1 c k = X c k) ∧ f_m_isOver_0 d I1 J = some (some (.int (am_tf (g_over p r = true))), I1, J) := by
    intro X mC mN
    obtain ⟨I1, a1, C1, N1, R1, c1, l1, h1, k1⟩ := s_m_fresh d v p X J r mC mN
    have h30 : I1 98 30 ≤ pck p := by rw [← R1.hi 30 (by decide) (by decide)]; exact mN.2.2.1
    exact ⟨I1, a1, C1, R1, c1, k1, by rw [s_m_isOver d v p I1 J C1 h30, (R1.E hn).over]⟩
  by_cases hx : 1 ≤ x ∧ x ≤ 500
  · have hx' := q_pz.mp hx
    rw [if_neg (fun q => hx' (Or.inl q)), if_neg (fun q => hx' (Or.inr q)), s_now_isOver d p I J hC hN.2.1, am_bi_i, hrow] at b1
    by_cases hov : g_over p r = true
    · obtain ⟨I1, a1, C1, R1, c1, k1, o2⟩ := fresh I mC hA.1.N
      have b2 := b2' I
      rw [if_neg (fun q => am_tf0.mp q hov)] at b1
      rw [a1, am_bv_v, s_m_in, am_tf_t hx, am_bi_i, if_neg (show ¬ (1 : Int32) = 0 by decide), o2, am_bi_i, if_neg (fun q => am_tf0.mp q hov)] at b2
      exact same _ I1 (b1 _ rfl) (b2 _ rfl) k1
    · obtain ⟨I1, a1, h1⟩ := s_push d nx u r I J hrow hN.2.1 hA.2.1.2.2.1 hA.2.1.2.2.2.2.1 hA.2.1.1 hA.2.1.2.2.2.1
      have k1 : ∀ c k, c ∉ ([64] : List Nat) → (c, k) ∉ ([(63, 1), (63, 2), (40, 8)] : List (Nat × Nat)) → I1 c k = I c k := fun c k z1 z2 => h1.2.2.2.2 c k (Or.inl (n_c z1 64 (by decide))) (n_2 z2 63 1 2 (by decide) (by decide)) (n_1 z2 40 8 (by decide))
      have r1 : g_row I1 34 = r := by
        rw [← hrow]
        exact g_rk_now (fun c k hc => k1 c k ((show ∀ c ∈ ([13, 34, 35, 36, 37, 38] : List Nat), c ∉ ([64] : List Nat) by decide) c hc) (fun q => (show ∀ c ∈ ([13, 34, 35, 36, 37, 38] : List Nat), ∀ q ∈ ([(63, 1), (63, 2), (40, 8)] : List (Nat × Nat)), q.1 ≠ c by decide) c hc _ q rfl))
      have e7 : I1 34 7 = r 30 := by rw [← r1, g_row_30]
      have e8 : I1 12 8 = pck p := by rw [k1 12 8 (by decide) (by decide)]; exact hC.2.2.2.1
      obtain ⟨m, hm⟩ : ∃ m, m = am_mn (r 30 + x) (pck p) := ⟨_, rfl⟩
      have hmle : m ≤ pck p := by
        rw [hm, am_mn_eq]
        unfold am_mnC
        split
        · exact Int32.le_refl _
        · rename_i q
          exact Int32.not_lt.mp q
      rw [if_pos (am_tf0.mpr hov), a1, am_bv_v, e7, e8, am_ue, ← hm] at b1
      obtain ⟨I2, e2⟩ : ∃ I2, I2 = am_upd I1 34 7 m := ⟨_, rfl⟩
      rw [← e2] at b1
      have k2 : ∀ c k, (c ≠ 34 ∨ k < 7 ∨ 10 < k) → c ∉ ([19, 20, 35, 36, 37] : List Nat) → I2 c k = I1 c k := fun c k z1 _ => by
        rw [e2]
        rcases z1 with h | h
        · exact am_uc h
        · exact am_uk (by omega)
      have r2 : g_row I2 34 = g_set r 30 m := by rw [e2, g_r7_now, r1]
      have kI : ∀ c j, 66 ≤ c → I2 c j = I c j := fun c j hc => by
        rw [e2, am_uc (by omega)]
        exact h1.2.2.2.2 c j (Or.inl (by omega)) (Or.inl (by omega)) (Or.inl (by omega))
      obtain ⟨mC2, mN2⟩ := q_far hA.1 kI
      have b2 := b2' I2
      obtain ⟨I3, a3, C3, R3, c3, k3, o2⟩ := fresh I2 mC2 mN2
      have e30 : I3 98 30 = r 30 := (R3.hi 30 (by decide) (by decide)).symm
      rw [a3, am_bv_v, s_m_in, am_tf_t hx, am_bi_i, if_neg (show ¬ (1 : Int32) = 0 by decide), o2, am_bi_i, if_pos (am_tf0.mpr hov)] at b2
      simp only [aq_30] at b2
      rw [C3.2.2.1, am_at_n C3.2.1 (by omega), C3.2.2.2.2.2.1, am_at_n C3.2.1 (by omega), e30] at b2
      obtain ⟨I4, e4⟩ : ∃ I4, I4 = am_upd I3 98 30 m := ⟨_, rfl⟩
      have k4 : ∀ c k, c ≠ 98 → I4 c k = I3 c k := fun c k hc => by rw [e4, am_uc hc]
      obtain ⟨I5, a5, h5⟩ := s_m_keeps d u I4 J hA.2.1.2.2.1 (by rw [k4 68 50 (by decide), k3 68 50 ⟨by decide, Or.inr (by decide)⟩, kI 68 50 (by decide)]; exact hA.2.1.2.1)
      have e97 : I5 97 30 = m := by rw [h5.2.1 30 (by decide), e4, am_ue]
      have a2 : f_m_pause_0 d x I2 J = some (some (.int m), I5, J) := by
        refine b2 _ ?_
        by_cases q : pck p ≤ r 30 + x
        · have em : m = pck p := by
            rw [hm, am_mn_eq]
            unfold am_mnC
            by_cases q2 : pck p < r 30 + x
            · rw [if_pos q2]
            · rw [if_neg q2]
              exact (Int32.le_antisymm q (Int32.not_lt.mp q2)).symm
          rw [if_pos q, C3.2.2.2.2.2.1, ← em, ← e4, a5, am_bv_v, e97]
        · have em : m = r 30 + x := by
            rw [hm, am_mn_eq]
            unfold am_mnC
            rw [if_neg (fun q2 => q (Int32.le_of_lt q2))]
          rw [if_neg q, ← em, ← e4, a5, am_bv_v, e97]
      have hbd := hGd.2.2.2.2.2.1
      exact ⟨_, I2, I5, J, b1 _ rfl, a2, fun k => by rw [k2 0 k (Or.inl (by decide)) (by decide), k1 0 k (by decide) (fun q => (show ∀ q ∈ ([(63, 1), (63, 2), (40, 8)] : List (Nat × Nat)), q.1 ≠ 0 by decide) _ q rfl)], p, v, _, _, _, w, n, q_done hA h1 k2 r2 (fun c k hc => (k4 c k hc.c.1).trans (k3 c k hc)) (by rw [e4, m_r]; exact R3.set 30 m) h5 ⟨by
        obtain ⟨s, hs, he⟩ := hGd.1
        exact ⟨s, hs, by rw [g_set_n _ _ (by decide)]; exact he⟩, by rw [g_set_e]; exact hmle, by rw [g_set_n _ _ (by decide)]; exact hGd.2.2.1, fun j hj => by rw [g_set_n _ _ (by omega)]; exact hGd.2.2.2.1 j hj, fun j hj => by rw [g_set_n _ _ (by omega), g_set_n _ _ (by omega)]; exact hGd.2.2.2.2.1 j hj, by
        unfold g_bd
        have q1 := hbd.1
        have q2 := hbd.2
        rw [g_set_n _ _ (by decide)]
        omega⟩⟩
  · obtain ⟨I1, a1, C1, R1, c1, k1, o2⟩ := fresh I mC hA.1.N
    have b2 := b2' I
    rw [a1, am_bv_v, s_m_in, am_tf_f hx, am_bi_i, if_pos rfl] at b2
    refine same _ I1 (b1 _ ?_) (b2 _ rfl) k1
    by_cases h0 : x < 1
    · rw [if_pos h0]
    · rw [if_neg h0, if_pos (Int32.not_le.mp (fun q => hx ⟨Int32.not_lt.mp h0, q⟩))]
/-- a row taken back into the play that goes -/
theorem g_nowIs {p : g_Plan} {B : Int} {I I' : am_I} {r : g_Row} {c a : Nat} (hG : g_Gd p I B r) (hs : g_sv I c a r) (h : I' 34 7 = I c a ∧ I' 34 8 = I c (a + 1) ∧ I' 34 9 = I c (a + 2) ∧ I' 34 10 = (if I c (a + 3) = 1 then 1 else 0) ∧ ∀ b, b < 6 → I' 35 b = I c (a + 4 + b) ∧ I' 36 b = I c (a + 10 + b) ∧ I' 37 b = I c (a + 16 + b)) (k : ∀ c k, (c ≠ 34 ∨ k < 7 ∨ 10 < k) → c ≠ 35 → c ≠ 36 → c ≠ 37 → I' c k = I c k) : g_row I' 34 = r := by
  have sh := hG.2.2.2.2.2.2
  refine g_row_is ⟨fun b hb => ?_, fun b hb => ?_, sh.2.2⟩ (fun b hb => ?_) (h.1.trans hs.1) (h.2.1.trans hs.2.1) (h.2.2.1.trans hs.2.2.1) ?_
  · rw [k 38 b (Or.inl (by decide)) (by decide) (by decide) (by decide)]; exact sh.1 b hb
  · rw [k 13 b (Or.inl (by decide)) (by decide) (by decide) (by decide)]; exact sh.2.1 b hb
  · have q := h.2.2.2.2 b hb
    have z := hs.2.2.2.2 b hb
    exact ⟨q.1.trans z.1, q.2.1.trans z.2.1, q.2.2.trans z.2.2⟩
  · rw [h.2.2.2.1, hs.2.2.2.1]
    rcases hG.2.2.1 with e | e
    · rw [e, if_neg (by decide)]
    · rw [e, if_pos rfl]
/-- a row was taken back: all stands alike again, but for what can be undone -/
theorem q_took {I0 : am_I} {J0 : Nat → Int64} {p : g_Plan} {v : Nat} {r r' : g_Row} {u nx w n u' nx' : Nat} {B : Int} {I I5 : am_I} {J : am_J} (hA : i_A I0 J0 p v r u nx w n B I J)
    (e : ∀ c k, c ∉ ([35, 36, 37, 97] : List Nat) → (c, k) ∉ ([(34, 7), (34, 8), (34, 9), (34, 10), (63, 1), (63, 2), (40, 8), (68, 50)] : List (Nat × Nat)) → I5 c k = I c k)
    (hr : g_row I5 34 = r') (h97 : g_R p r' (I5 97)) (h8 : I5 40 8 = -1) (hG' : g_Gd p I B r') (hU : i_U p u' nx' B I5) : i_A I0 J0 p v r' u' nx' w n B I5 J := by
  obtain ⟨⟨hC, mC, hrow, hN, hGd, hR⟩, hUo, hS, hW, hT, hF, hG, hK⟩ := hA
  have gk : g_Gd p I5 B r' := hG'.keep (fun c k hc => e c k ((show ∀ c ∈ ([13, 38] : List Nat), c ∉ ([35, 36, 37, 97] : List Nat) by decide) c hc) (fun q => (show ∀ c ∈ ([13, 38] : List Nat), ∀ q ∈ ([(34, 7), (34, 8), (34, 9), (34, 10), (63, 1), (63, 2), (40, 8), (68, 50)] : List (Nat × Nat)), q.1 ≠ c by decide) c hc _ q rfl))
  have f10 : I5 34 10 = 0 ∨ I5 34 10 = 1 := by
    have q := hG'.2.2.1
    rw [← hr, g_row_33] at q
    exact q
  exact ⟨⟨hC.keep (fun c k hc => e c k ((show ∀ c ∈ ([1, 2, 3, 12, 13, 14, 15, 16, 17, 18, 21] : List Nat), c ∉ ([35, 36, 37, 97] : List Nat) by decide) c hc) (fun q => (show ∀ c ∈ ([1, 2, 3, 12, 13, 14, 15, 16, 17, 18, 21] : List Nat), ∀ q ∈ ([(34, 7), (34, 8), (34, 9), (34, 10), (63, 1), (63, 2), (40, 8), (68, 50)] : List (Nat × Nat)), q.1 ≠ c by decide) c hc _ q rfl)), mC.keep (e 68 18 (by decide) (by decide)) (fun c k hc => e c k ((show ∀ c ∈ m_Cc, c ∉ ([35, 36, 37, 97] : List Nat) by decide) c hc) (fun q => (show ∀ c ∈ m_Cc, ∀ q ∈ ([(34, 7), (34, 8), (34, 9), (34, 10), (63, 1), (63, 2), (40, 8), (68, 50)] : List (Nat × Nat)), q.1 ≠ c by decide) c hc _ q rfl)), hr, ⟨by rw [hr]; exact hG'.1, f10, by rw [e 34 6 (by decide) (by decide)]; exact hN.2.2.1, fun b hb => by rw [e 39 b (by decide) (fun q => (show ∀ q ∈ ([(34, 7), (34, 8), (34, 9), (34, 10), (63, 1), (63, 2), (40, 8), (68, 50)] : List (Nat × Nat)), q.1 ≠ 39 by decide) _ q rfl)]; exact hN.2.2.2 b hb⟩, gk, h97⟩, hU, hS.k (i_of e (by decide)), hW.k (i_of e (by decide)), hT.k (i_of e (by decide)), by rw [e 32 6 (by decide) (by decide), e 68 17 (by decide) (by decide)]; exact hF, ⟨Or.inl h8, hG.2.keep (fun k hk => e 40 k (by decide) (by rcases hk with rfl | rfl <;> decide)) (fun k => e 45 k (by decide) (fun q => (show ∀ q ∈ ([(34, 7), (34, 8), (34, 9), (34, 10), (63, 1), (63, 2), (40, 8), (68, 50)] : List (Nat × Nat)), q.1 ≠ 45 by decide) _ q rfl))⟩, i_ofK e (by decide) (fun _ => rfl) hK⟩
theorem p_undo (d : Nat) : i_pair (f_oc_undo_0 d) (f_m_undo_0 d) := by
  intro I0 J0 B I J hB hB2 ⟨p, v, r, u, nx, w, n, hA⟩
  obtain ⟨u1, u2, u3, u4, u5, u6⟩ := hA.2.1
  have b1 := b_oc_undo_0 d I J
  obtain ⟨I1, e1⟩ : ∃ I1, I1 = am_upd I 40 8 (-1) := ⟨_, rfl⟩
  have ec : f_guide_playChanges_0 d I J = some (none, I1, J) := b_guide_playChanges_0 d I J _ (by rw [e1])
  have k1 : ∀ c k, (c ≠ 40 ∨ k ≠ 8) → I1 c k = I c k := fun c k h => by
    rw [e1]
    rcases h with h | h
    · exact am_uc h
    · exact am_uk h
  have b3 := b_past_pop_0 d I1 J
  rw [ec, am_bv_v] at b1
  rw [k1 63 2 (Or.inl (by decide)), u1, k1 63 1 (Or.inl (by decide)), u4] at b3
  by_cases h0 : u = 0
  · rw [if_pos (show nI u = 0 by rw [h0]; rfl), am_b01_0] at b3
    rw [b3 _ rfl, am_bi_i, am_b01_0] at b1
    have b2 := b_m_undo_0 d I1 J
    rw [k1 68 50 (Or.inl (by decide)), u2, if_pos (show nI u = 0 by rw [h0]; rfl), am_b01_0] at b2
    refine ⟨_, I1, I1, J, b1 _ rfl, b2 _ rfl, fun k => k1 0 k (Or.inl (by decide)), p, v, r, u, nx, w, n, (hA.keep (fun c k hc => k1 c k ?_) ⟨Or.inl (by rw [e1, am_ue]), hA.2.2.2.2.2.2.1.2.keep (fun k hk => k1 40 k (Or.inr (by omega))) (fun k => k1 45 k (Or.inl (by decide)))⟩).up (by omega)⟩
    exact Or.inl (hc.to (Q := fun c _ => c ≠ 40) (fun c hc _ => (show ∀ c ∈ i_cs, c ≠ 40 by decide) c hc) (fun q hq => (show ∀ q ∈ i_ps, q.1 ≠ 40 by decide) q hq))
  · obtain ⟨m, rfl⟩ : ∃ m, u = m + 1 := ⟨u - 1, by omega⟩
    obtain ⟨r0, g0, s0, q0⟩ := u6 m (by omega)
    obtain ⟨t, ht⟩ : ∃ t, t = (nx + 49) % 50 := ⟨_, rfl⟩
    have ht50 : t < 50 := by rw [ht]; exact Nat.mod_lt _ (by omega)
    have et : ((nI nx + 50) - 1) - ((nI nx + 50) - 1) / 50 * 50 = nI t := by
      rw [show (50 : Int32) = nI 50 from rfl, nI_add, am_i1, pk_sub (by omega), pk_rem (by omega) (by omega) (by omega), ht, show nx + 50 - 1 = nx + 49 by omega]
    rw [if_neg (nI_ne0 (by omega) (by omega)), if_neg (show ¬ (50 : Int32) = 0 by decide), et, am_uk (show 2 ≠ 1 by decide), k1 63 2 (Or.inl (by decide)), u1, nI_pred, am_uk (show 1 ≠ 2 by decide), am_ue, am_i22, pk_mul, Nat.mul_comm t 22] at b3
    obtain ⟨I2, e2⟩ : ∃ I2, I2 = am_upd (am_upd I1 63 1 (nI t)) 63 2 (nI m) := ⟨_, rfl⟩
    rw [← e2] at b3
    have k2 : ∀ c k, (c ≠ 63 ∨ k ≠ 1) → (c ≠ 63 ∨ k ≠ 2) → I2 c k = I1 c k := fun c k z1 z2 => by rw [e2]; exact i_upd2 c k z1 z2
    obtain ⟨I3, a3, v3, k3⟩ := s_now_readFrom d (22 * t) I2 J (by omega)
    rw [a3, am_bv_v, am_b01_1] at b3
    rw [b3 _ rfl, am_bi_i, am_b01_1] at b1
    have k02 : ∀ c k, (c ≠ 40 ∨ k ≠ 8) → (c ≠ 63 ∨ k ≠ 1) → (c ≠ 63 ∨ k ≠ 2) → I2 c k = I c k := fun c k z1 z2 z3 => (k2 c k z2 z3).trans (k1 c k z1)
    have es : (nx + 50 - (m + 1) + m) % 50 = t := by rw [ht]; congr 1; omega
    rw [es] at s0
    have g2 : g_Gd p I2 B r0 := g0.keep (fun c k hc => k02 c k (Or.inl ((show ∀ c ∈ ([13, 38] : List Nat), c ≠ 40 by decide) c hc)) (Or.inl ((show ∀ c ∈ ([13, 38] : List Nat), c ≠ 63 by decide) c hc)) (Or.inl ((show ∀ c ∈ ([13, 38] : List Nat), c ≠ 63 by decide) c hc)))
    have s2 : g_sv I2 64 (22 * t) r0 := s0.keep (fun j _ _ => k02 64 j (Or.inl (by decide)) (Or.inl (by decide)) (Or.inl (by decide)))
    have r3 : g_row I3 34 = r0 := g_nowIs g2 s2 v3 k3
    have kI : ∀ c j, 66 ≤ c → I3 c j = I c j := fun c j hc => (k3 c j (Or.inl (by omega)) (by omega) (by omega) (by omega)).trans (k02 c j (Or.inl (by omega)) (Or.inl (by omega)) (Or.inl (by omega)))
    have b2 := b_m_undo_0 d I3 J
    rw [kI 68 50 (by decide), u2, if_neg (nI_ne0 (by omega) (by omega)), nI_pred] at b2
    obtain ⟨I4, e4⟩ : ∃ I4, I4 = am_upd I3 68 50 (nI m) := ⟨_, rfl⟩
    rw [← e4] at b2
    have a5 := lo_undo_21 d m (by omega) J (some (.int 1), am_cpy I4 100 (40 * m + 0) 97 0 40, J) 40 0 I4 (by omega) (by rw [e4, am_ue]) rfl
    obtain ⟨I5, e5⟩ : ∃ I5, I5 = am_cpy I4 100 (40 * m + 0) 97 0 40 := ⟨_, rfl⟩
    rw [← e5] at a5
    have k5 : ∀ c k, c ≠ 97 → (c ≠ 68 ∨ k ≠ 50) → I5 c k = I3 c k := fun c k z1 z2 => by
      rw [e5, am_cc z1, e4]
      rcases z2 with h | h
      · exact am_uc h
      · exact am_uk h
    have e : ∀ c k, c ∉ ([35, 36, 37, 97] : List Nat) → (c, k) ∉ ([(34, 7), (34, 8), (34, 9), (34, 10), (63, 1), (63, 2), (40, 8), (68, 50)] : List (Nat × Nat)) → I5 c k = I c k := fun c k z1 z2 => (k5 c k (n_c z1 97 (by decide)) (n_1 z2 68 50 (by decide))).trans ((k3 c k (n_34 z2 (by decide)) (n_c z1 35 (by decide)) (n_c z1 36 (by decide)) (n_c z1 37 (by decide))).trans (k02 c k (n_1 z2 40 8 (by decide)) (n_1 z2 63 1 (by decide)) (n_1 z2 63 2 (by decide))))
    have v97 : g_R p r0 (I5 97) := fun k z1 z2 => by
      rw [q0 k z1 z2, e5, am_ce (by omega) (by omega), e4, am_uc (by decide), kI 100 _ (by decide)]
      congr 1
    have r5 : g_row I5 34 = r0 := by
      rw [← r3]
      exact g_rk_now (fun c k hc => k5 c k ((show ∀ c ∈ ([13, 34, 35, 36, 37, 38] : List Nat), c ≠ 97 by decide) c hc) (Or.inl ((show ∀ c ∈ ([13, 34, 35, 36, 37, 38] : List Nat), c ≠ 68 by decide) c hc)))
    refine ⟨_, I3, I5, J, b1 _ rfl, b2 _ a5, fun k => by rw [k3 0 k (Or.inl (by decide)) (by decide) (by decide) (by decide), k02 0 k (Or.inl (by decide)) (Or.inl (by decide)) (Or.inl (by decide))], p, v, r0, m, t, w, n, (q_took hA e r5 v97 ?_ g0 ⟨?_, ?_, by omega, ?_, ht50, fun i hi => ?_⟩).up (by omega)⟩
    · rw [k5 40 8 (by decide) (Or.inl (by decide)), k3 40 8 (Or.inl (by decide)) (by decide) (by decide) (by decide), k2 40 8 (Or.inl (by decide)) (Or.inl (by decide)), e1, am_ue]
    · rw [k5 63 2 (by decide) (Or.inl (by decide)), k3 63 2 (Or.inl (by decide)) (by decide) (by decide) (by decide), e2, am_ue]
    · rw [e5, am_cc (by decide), e4, am_ue]
    · rw [k5 63 1 (by decide) (Or.inl (by decide)), k3 63 1 (Or.inl (by decide)) (by decide) (by decide) (by decide), e2, am_uk (by decide), am_ue]
    · obtain ⟨r1, q1, q2, q3⟩ := u6 i (by omega)
      refine ⟨r1, q1.keep (fun c k hc => e c k ((show ∀ c ∈ ([13, 38] : List Nat), c ∉ ([35, 36, 37, 97] : List Nat) by decide) c hc) (fun q => (show ∀ c ∈ ([13, 38] : List Nat), ∀ q ∈ ([(34, 7), (34, 8), (34, 9), (34, 10), (63, 1), (63, 2), (40, 8), (68, 50)] : List (Nat × Nat)), q.1 ≠ c by decide) c hc _ q rfl)), ?_, fun k z1 z2 => ?_⟩
      · have es2 : (t + 50 - m + i) % 50 = (nx + 50 - (m + 1) + i) % 50 := by rw [ht]; omega
        rw [es2]
        exact q2.keep (fun j _ _ => e 64 j (by decide) (fun q => (show ∀ q ∈ ([(34, 7), (34, 8), (34, 9), (34, 10), (63, 1), (63, 2), (40, 8), (68, 50)] : List (Nat × Nat)), q.1 ≠ 64 by decide) _ q rfl))
      · show r1 k = I5 100 (40 * i + k)
        rw [e 100 _ (by decide) (fun q => (show ∀ q ∈ ([(34, 7), (34, 8), (34, 9), (34, 10), (63, 1), (63, 2), (40, 8), (68, 50)] : List (Nat × Nat)), q.1 ≠ 100 by decide) _ q rfl)]
        exact q3 k z1 z2

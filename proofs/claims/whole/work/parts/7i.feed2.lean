/-! pairs of calls: feed, tell; parts of the state that a change leaves alone -/
theorem i_of {I I' : am_I} {L DL : List Nat} {M DM : List (Nat × Nat)} (e : ∀ c k, c ∉ DL → (c, k) ∉ DM → I' c k = I c k) (h : (∀ c ∈ L, c ∉ DL ∧ ∀ q ∈ DM, q.1 ≠ c) ∧ ∀ q ∈ M, q.1 ∉ DL ∧ q ∉ DM) : ∀ c k, (c ∈ L ∨ (c, k) ∈ M) → I' c k = I c k := by
  intro c k hc
  rcases hc with hc | hc
  · exact e c k (h.1 c hc).1 (fun q => (h.1 c hc).2 _ q rfl)
  · exact e c k (h.2 _ hc).1 (h.2 _ hc).2
theorem i_ofK {I I' : am_I} {DL : List Nat} {DM : List (Nat × Nat)} {I0 : am_I} {J0 : Nat → Int64} {J J' : am_J} (e : ∀ c k, c ∉ DL → (c, k) ∉ DM → I' c k = I c k) (h : ∀ c ∈ ([0, 1, 2, 3, 4] : List Nat), c ∉ DL ∧ ∀ q ∈ DM, q.1 ≠ c) (e2 : ∀ k, J' 75 k = J 75 k) (hK : i_K I0 J0 I J) : i_K I0 J0 I' J' := by
  refine hK.k (fun c k hc => ?_) e2
  have hm : c ∈ ([0, 1, 2, 3, 4] : List Nat) := (show ∀ c, c ≤ 4 → c ∈ ([0, 1, 2, 3, 4] : List Nat) by decide) c hc
  exact e c k (h c hm).1 (fun q => (h c hm).2 _ q rfl)
theorem p_feed (d : Nat) (x0 x1 x2 x3 x4 : Int32) : i_pair (f_oc_feed_0 d x0 x1 x2 x3 x4) (f_m_feed_0 d x0 x1 x2 x3 x4) := by
  intro I0 J0 B I J hB hB2 ⟨p, v, r, u, nx, w, n, hA⟩
  obtain ⟨t1, t2, t3, t4⟩ := hA.2.2.2.2.1
  have b1 := b_oc_feed_0 d x0 x1 x2 x3 x4 I J
  have b2' := fun X : am_I => b_m_feed_0 d x0 x1 x2 x3 x4 X J
  rw [t1, show (20 : Int32) = nI 20 from rfl, nI_add] at b1
  by_cases hn : n + 20 ≤ 2000
  · obtain ⟨x, hx⟩ : ∃ x : Nat → Int32, x = fun j => match j with
      | 0 => x0
      | 1 => x1
      | 2 => x2
      | 3 => x3
      | _ => x4 := ⟨_, rfl⟩
    obtain ⟨I1, a1, a2, a3, a4⟩ := s_oc_feedN d n x J hn 5 0 I (by omega) t1
    have a1 := a1 _ rfl
    rw [hx] at a1
    rw [if_pos (show nI (n + 20) ≤ (2000 : Int32) from nI_le (b := 2000) hn (by omega))] at b1
    have e2 : I1 68 2 = nI n := by rw [a4 68 2 (Or.inl (by decide)) (Or.inl (by decide)), t2]
    have b2 := b2' I1
    obtain ⟨I2, c1, c2, c3, c4⟩ := s_m_feedN d n x J hn 5 0 I1 (by omega) e2
    have c1 := c1 _ rfl
    rw [hx] at c1
    rw [e2, show (20 : Int32) = nI 20 from rfl, nI_add, if_pos (show nI (n + 20) ≤ (2000 : Int32) from nI_le (b := 2000) hn (by omega))] at b2
    have e : ∀ c k, c ∉ ([7, 69] : List Nat) → (c, k) ∉ ([(6, 1), (68, 2)] : List (Nat × Nat)) → I2 c k = I c k := fun c k h1 h2 => by
      simp only [List.mem_cons, List.not_mem_nil, not_or] at h1
      simp only [List.mem_cons, List.not_mem_nil, not_or, Prod.mk.injEq] at h2
      rw [c4 c k (by omega) (Or.inl h1.2.1), a4 c k (by omega) (Or.inl h1.1)]
    refine ⟨nI (n + 20), I1, I2, J, b1 _ ?_, b2 _ ?_, fun k => a4 0 k (Or.inl (by decide)) (Or.inl (by decide)), p, v, r, u, nx, w, n + 20, ?_⟩
    · rw [a2] at a1; exact a1
    · rw [c2] at c1; exact c1
    · refine (show i_A I0 J0 p v r u nx w (n + 20) B I2 J from ⟨hA.1.k (i_of e (by decide)), hA.2.1.k (i_of e (by decide)), hA.2.2.1.k (i_of e (by decide)), hA.2.2.2.1.k (i_of e (by decide)), ⟨by rw [c4 6 1 (Or.inl (by decide)) (Or.inl (by decide)), a2], c2, hn, fun j hj => ?_⟩, by rw [e 32 6 (by decide) (by decide), e 68 17 (by decide) (by decide)]; exact hA.2.2.2.2.2.1, i_G.keep (i_of e (by decide)) hA.2.2.2.2.2.2.1, i_ofK e (by decide) (fun _ => rfl) hA.2.2.2.2.2.2.2⟩).up (by omega)
      by_cases hj2 : j < n
      · rw [c4 7 j (Or.inl (by decide)) (Or.inl (by decide)), a4 7 j (Or.inl (by decide)) (Or.inr (Or.inl (by omega))), c4 69 j (Or.inl (by decide)) (Or.inr (Or.inl (by omega))), a4 69 j (Or.inl (by decide)) (Or.inl (by decide))]
        exact t4 j hj2
      · obtain ⟨m, hm, rfl⟩ : ∃ m, m < 20 ∧ j = n + m := ⟨j - n, by omega, by omega⟩
        rw [c4 7 _ (Or.inl (by decide)) (Or.inl (by decide)), a3 m (by omega) hm, c3 m (by omega) hm]
        unfold q_b20
        exact ⟨q_bybm _ _ (by omega), q_bm8 _ _⟩
  · have b2 := b2' I
    rw [t2, show (20 : Int32) = nI 20 from rfl, nI_add, if_neg (show ¬ nI (n + 20) ≤ (2000 : Int32) from nI_ge (a := 2000) (by omega) (by omega))] at b2
    rw [if_neg (show ¬ nI (n + 20) ≤ (2000 : Int32) from nI_ge (a := 2000) (by omega) (by omega))] at b1
    exact ⟨_, I, I, J, b1 _ rfl, b2 _ rfl, fun _ => rfl, p, v, r, u, nx, w, n, hA.up (by omega)⟩
theorem q_m_min {y : Int32} : (0 ≤ y ∧ y ≤ 500) ↔ ¬ (y < 0 ∨ 500 < y) := by
  constructor
  · rintro ⟨h1, h2⟩ (q | q)
    · exact Int32.not_le.mpr q h1
    · exact Int32.not_le.mpr q h2
  · intro h
    exact ⟨Int32.not_lt.mp (fun q => h (Or.inl q)), Int32.not_lt.mp (fun q => h (Or.inr q))⟩
theorem p_tell (d : Nat) (x y : Int32) : i_pair (f_oc_tell_0 d x y) (f_m_tell__0 d x y) := by
  intro I0 J0 B I J hB hB2 ⟨p, v, r, u, nx, w, n, hA⟩
  obtain ⟨hC, mC, hrow, hN, hGd, hR⟩ := hA.1
  have hn := hC.1.1
  obtain ⟨w1, w2, w4, tb, tm, ht⟩ := hA.2.2.2.1
  have b1 := b_oc_tell_0 d x y I J
  have b2' := fun X : am_I => b_m_tell__0 d x y X J
  have none' : f_oc_tell_0 d x y I J = some (some (.int (-1)), I, J) → f_m_tell__0 d x y I J = some (some (.int (-1)), I, J) → ∃ y' I1 I2 J2, f_oc_tell_0 d x y I J = some (some (.int y'), I1, J) ∧ f_m_tell__0 d x y I1 J = some (some (.int y'), I2, J2) ∧ (∀ k, I1 0 k = I 0 k) ∧ i_I I0 J0 (B + 999) I2 J2 := fun e1 e2 => ⟨_, I, I, J, e1, e2, fun _ => rfl, p, v, r, u, nx, w, n, hA.up (by omega)⟩
  have b2 := b2' I
  rw [w2] at b2
  by_cases hw : w = 4
  · rw [if_pos (show nI w = 4 by rw [hw]; rfl)] at b2
    refine none' (b1 _ ?_) (b2 _ rfl)
    rcases q_ix x (n := pn p) (by omega) with hx | ⟨b, hb, rfl⟩
    · rw [q_oc_B_n d hC hx, am_bi_i, if_pos rfl]
    · rw [q_oc_B_y d hC hb, am_bi_i, if_neg (show ¬ (1 : Int32) = 0 by decide), w1, if_neg (show ¬ nI w < (4 : Int32) by rw [hw]; decide)]
      split
      · rfl
      · split <;> rfl
  · have hw4 : w < 4 := by omega
    rw [if_neg (show ¬ nI w = (4 : Int32) from fun q => by have := (nI_eq (b := 4) (by omega) (by omega)).mp q; omega)] at b2
    rcases q_ix x (n := pn p) (by omega) with hx | ⟨b, hb, rfl⟩
    · rw [q_oc_B_n d hC hx, am_bi_i, if_pos rfl] at b1
      rw [q_m_B_n d mC hx, am_bi_i, if_pos rfl] at b2
      exact none' (b1 _ rfl) (b2 _ rfl)
    · rw [q_oc_B_y d hC hb, am_bi_i, if_neg (show ¬ (1 : Int32) = 0 by decide)] at b1
      rw [q_m_B_y d mC hb, am_bi_i, if_neg (show ¬ (1 : Int32) = 0 by decide)] at b2
      by_cases hy : 0 ≤ y ∧ y ≤ 500
      · have hy' := q_m_min.mp hy
        have ha := b_witness_add_0 d (nI b) y I J
        have z1 : am_upd I 54 w (nI b) 53 5 = nI w := by rw [am_uc (by decide), w1]
        have z2 : am_upd (am_upd I 54 w (nI b)) 55 w y 53 5 = nI w := by rw [am_uc (by decide), z1]
        rw [w1, if_pos (show nI w < (4 : Int32) from nI_lt (b := 4) hw4 (by omega)), am_at_n hw4 (by omega), z1, am_at_n hw4 (by omega), z2, am_ue, nI_1, nI_pred] at ha
        obtain ⟨I1, e1⟩ : ∃ I1, I1 = am_upd (am_upd (am_upd I 54 w (nI b)) 55 w y) 53 5 (nI (w + 1)) := ⟨_, rfl⟩
        rw [← e1] at ha
        have k1 : ∀ c j, (c ≠ 54 ∨ j ≠ w) → (c ≠ 55 ∨ j ≠ w) → (c ≠ 53 ∨ j ≠ 5) → I1 c j = I c j := fun c j q1 q2 q3 => by
          rw [e1]
          have y1 : am_upd (am_upd (am_upd I 54 w (nI b)) 55 w y) 53 5 (nI (w + 1)) c j = am_upd (am_upd I 54 w (nI b)) 55 w y c j := by
            rcases q3 with h | h
            · exact am_uc h
            · exact am_uk h
          rw [y1]
          exact i_upd2 c j q1 q2
        have mC1 : m_C p v I1 := mC.keep (k1 68 18 (Or.inl (by decide)) (Or.inl (by decide)) (Or.inl (by decide))) (fun c j hc => k1 c j (Or.inl ((show ∀ c ∈ m_Cc, c ≠ 54 by decide) c hc)) (Or.inl ((show ∀ c ∈ m_Cc, c ≠ 55 by decide) c hc)) (Or.inl ((show ∀ c ∈ m_Cc, c ≠ 53 by decide) c hc)))
        have e62 : I1 68 62 = nI w := by rw [k1 68 62 (Or.inl (by decide)) (Or.inl (by decide)) (Or.inl (by decide)), w2]
        have b2 := b2' I1
        have x1 : am_upd I1 108 w (nI b) 68 62 = nI w := by rw [am_uc (by decide), e62]
        have x2 : am_upd (am_upd I1 108 w (nI b)) 109 w y 68 62 = nI w := by rw [am_uc (by decide), x1]
        rw [e62, if_neg (show ¬ nI w = (4 : Int32) from fun q => by have := (nI_eq (b := 4) (by omega) (by omega)).mp q; omega), q_m_B_y d mC1 hb, am_bi_i, if_neg (show ¬ (1 : Int32) = 0 by decide), s_m_in, am_tf_t hy, am_bi_i, if_neg (show ¬ (1 : Int32) = 0 by decide), e62, am_at_n hw4 (by omega), x1, am_at_n hw4 (by omega), x2, am_ue, nI_1, nI_pred] at b2
        rw [if_neg (fun q => hy' (Or.inl q)), if_neg (fun q => hy' (Or.inr q)), w1, if_pos (show nI w < (4 : Int32) from nI_lt (b := 4) hw4 (by omega)), ha _ rfl, am_bi_i] at b1
        obtain ⟨I2, e2⟩ : ∃ I2, I2 = am_upd (am_upd (am_upd I1 108 w (nI b)) 109 w y) 68 62 (nI (w + 1)) := ⟨_, rfl⟩
        rw [← e2] at b2
        have k2 : ∀ c j, (c ≠ 108 ∨ j ≠ w) → (c ≠ 109 ∨ j ≠ w) → (c ≠ 68 ∨ j ≠ 62) → I2 c j = I1 c j := fun c j q1 q2 q3 => by
          rw [e2]
          have y1 : am_upd (am_upd (am_upd I1 108 w (nI b)) 109 w y) 68 62 (nI (w + 1)) c j = am_upd (am_upd I1 108 w (nI b)) 109 w y c j := by
            rcases q3 with h | h
            · exact am_uc h
            · exact am_uk h
          rw [y1]
          exact i_upd2 c j q1 q2
        have e : ∀ c k, c ∉ ([54, 55, 108, 109] : List Nat) → (c, k) ∉ ([(53, 5), (68, 62)] : List (Nat × Nat)) → I2 c k = I c k := fun c k h1 h2 => by
          simp only [List.mem_cons, List.not_mem_nil, not_or] at h1
          simp only [List.mem_cons, List.not_mem_nil, not_or, Prod.mk.injEq] at h2
          rw [k2 c k (Or.inl h1.2.2.1) (Or.inl h1.2.2.2.1) (by omega), k1 c k (Or.inl h1.1) (Or.inl h1.2.1) (by omega)]
        refine ⟨_, I1, I2, J, b1 _ rfl, b2 _ rfl, fun k => k1 0 k (Or.inl (by decide)) (Or.inl (by decide)) (Or.inl (by decide)), p, v, r, u, nx, w + 1, n, ?_⟩
        refine (show i_A I0 J0 p v r u nx (w + 1) n B I2 J from ⟨hA.1.k (i_of e (by decide)), hA.2.1.k (i_of e (by decide)), hA.2.2.1.k (i_of e (by decide)), ⟨?_, by rw [e2, am_ue], by omega, fun j => if j = w then b else tb j, fun j => if j = w then y else tm j, fun j hj => ?_⟩, hA.2.2.2.2.1.k (i_of e (by decide)), by rw [e 32 6 (by decide) (by decide), e 68 17 (by decide) (by decide)]; exact hA.2.2.2.2.2.1, i_G.keep (i_of e (by decide)) hA.2.2.2.2.2.2.1, i_ofK e (by decide) (fun _ => rfl) hA.2.2.2.2.2.2.2⟩).up (by omega)
        · rw [k2 53 5 (Or.inl (by decide)) (Or.inl (by decide)) (Or.inl (by decide)), e1, am_ue]
        · by_cases ej : j = w
          · subst ej
            have v54 : I2 54 j = nI b := by rw [k2 54 j (Or.inl (by decide)) (Or.inl (by decide)) (Or.inl (by decide)), e1, am_uc (by decide), am_uc (by decide), am_ue]
            have v55 : I2 55 j = y := by rw [k2 55 j (Or.inl (by decide)) (Or.inl (by decide)) (Or.inl (by decide)), e1, am_uc (by decide), am_ue]
            have v108 : I2 108 j = nI b := by rw [e2, am_uc (by decide), am_uc (by decide), am_ue]
            have v109 : I2 109 j = y := by rw [e2, am_uc (by decide), am_ue]
            simp only [if_true]
            have y1 := Int32.le_iff_toInt_le.mp hy.1
            have y2 := Int32.le_iff_toInt_le.mp hy.2
            exact ⟨v54, v108, hb, v55, v109, y1, y2⟩
          · simp only [ej, if_false]
            rw [k2 54 j (Or.inl (by decide)) (Or.inl (by decide)) (Or.inl (by decide)), k1 54 j (Or.inr ej) (Or.inl (by decide)) (Or.inl (by decide)), k2 108 j (Or.inr ej) (Or.inl (by decide)) (Or.inl (by decide)), k1 108 j (Or.inl (by decide)) (Or.inl (by decide)) (Or.inl (by decide)), k2 55 j (Or.inl (by decide)) (Or.inl (by decide)) (Or.inl (by decide)), k1 55 j (Or.inl (by decide)) (Or.inr ej) (Or.inl (by decide)), k2 109 j (Or.inl (by decide)) (Or.inr ej) (Or.inl (by decide)), k1 109 j (Or.inl (by decide)) (Or.inl (by decide)) (Or.inl (by decide))]
            exact ht j (by omega)
      · have hy' : y < 0 ∨ 500 < y := by
          by_cases q : y < 0 ∨ 500 < y
          · exact q
          · exact absurd (q_m_min.mpr q) hy
        rw [s_m_in, am_tf_f hy, am_bi_i, if_pos rfl] at b2
        refine none' (b1 _ ?_) (b2 _ rfl)
        by_cases h0 : y < 0
        · rw [if_pos h0]
        · rw [if_neg h0, if_pos (hy'.resolve_left h0)]

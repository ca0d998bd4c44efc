/-! pairs of calls: fits, counts, what is told, the tape -/
theorem i_sup_W {c k : Nat} (h : i_sup c k ∨ i_gd c k) : c ∉ ([19, 20, 56, 57, 58, 59, 60, 61, 62] : List Nat) := by
  rcases h with h | h
  · exact h.to (Q := fun c _ => c ∉ ([19, 20, 56, 57, 58, 59, 60, 61, 62] : List Nat)) (fun c hc _ => (show ∀ c ∈ i_cs, c ∉ ([19, 20, 56, 57, 58, 59, 60, 61, 62] : List Nat) by decide) c hc) (fun q hq => (show ∀ q ∈ i_ps, q.1 ∉ ([19, 20, 56, 57, 58, 59, 60, 61, 62] : List Nat) by decide) q hq)
  · exact h.to (Q := fun c _ => c ∉ ([19, 20, 56, 57, 58, 59, 60, 61, 62] : List Nat)) (fun c hc _ => (show ∀ c ∈ ([43, 45] : List Nat), c ∉ ([19, 20, 56, 57, 58, 59, 60, 61, 62] : List Nat) by decide) c hc) (fun q hq => (show ∀ q ∈ i_gp, q.1 ∉ ([19, 20, 56, 57, 58, 59, 60, 61, 62] : List Nat) by decide) q hq)
theorem p_fits (d : Nat) (hd : 4 ≤ d) (x : Int32) : i_pair (f_oc_fits_0 (d + 1) x) (f_m_fits_0 (d + 1) x) := by
  refine i_ask (fun p v r u w n nx B I0 J0 I J _ hB2 hA => ?_)
  obtain ⟨hC, mC, hrow, hN, hGd, hR⟩ := hA.1
  obtain ⟨w1, w2, w4, tb, tm, ht⟩ := hA.2.2.2.1
  have b1 := b_oc_fits_0 (d + 1) x I J
  have b2' := fun X : am_I => b_m_fits_0 (d + 1) x X J
  rw [w1] at b1
  by_cases hx : 0 ≤ x ∧ x ≤ nI w
  · obtain ⟨K, hK, rfl⟩ : ∃ K, K ≤ w ∧ x = nI K := nI_of2 (M := nI w) (n := w) (nI_toInt (by omega)) (Int32.not_lt.mpr hx.1) hx.2
    obtain ⟨I1, a1, k1⟩ := s_witness_rowsThatFit d K p I J tb tm (by omega) (by omega) hC (fun j hj => ⟨(ht j (by omega)).1, (ht j (by omega)).2.2.1, (ht j (by omega)).2.2.2.1⟩)
    have kk : ∀ c k, i_sup c k ∨ i_gd c k → I1 c k = I c k := fun c k hc => k1 c k (i_sup_W hc)
    have hP' := i_P.keep' (I' := I1) hA.1 kk
    obtain ⟨I2, a2, k2⟩ := s_m_fitsK (d + 1) v K p I1 J tb tm (by omega) hP'.2.1 (fun j hj => by
      have q := ht j (by omega)
      rw [kk 108 j (Or.inl (Or.inl (by decide))), kk 109 j (Or.inl (Or.inl (by decide)))]
      exact ⟨q.2.1, q.2.2.1, q.2.2.2.2.1, q.2.2.2.2.2.1, q.2.2.2.2.2.2⟩)
    have b2 := b2' I1
    rw [kk 68 62 (Or.inl (Or.inr (by decide))), w2, s_m_in, am_tf_t hx, am_bi_i, if_neg (show ¬ (1 : Int32) = 0 by decide)] at b2
    rw [if_neg (nI_pos (by omega)), if_pos hx.2, a1, am_bi_i] at b1
    exact ⟨_, I1, I2, b1 _ rfl, b2 _ a2, fun c k hc => kk c k (Or.inl hc), i_G.keep (fun c k hc => kk c k (Or.inr hc)) hA.2.2.2.2.2.2.1, fun c k hc => k2 c k (i_all_mG hc)⟩
  · have b2 := b2' I
    rw [w2, s_m_in, am_tf_f hx, am_bi_i, if_pos rfl] at b2
    refine ⟨_, I, I, b1 _ ?_, b2 _ rfl, fun _ _ _ => rfl, hA.2.2.2.2.2.2.1, fun _ _ _ => rfl⟩
    by_cases h0 : x < 0
    · rw [if_pos h0]
    · rw [if_neg h0, if_neg (fun q => hx ⟨Int32.not_lt.mp h0, q⟩)]
theorem s_slots_used (d : Nat) (I : am_I) (J : am_J) : f_slots_used_0 d I J = some (some (.int ((if I 67 0 = 0 then 0 else 1) + (if I 67 1 = 0 then 0 else 1) + (if I 67 2 = 0 then 0 else 1))), I, J) := by
  refine b_slots_used_0 d I J _ ?_
  have st : ∀ (a : Int32) (s : Nat), s < 3 → am_le (if I 67 s = 0 then f_slots_used_4 d (a + 0) (nI (s + 1)) I J else f_slots_used_4 d (a + 1) (nI (s + 1)) I J) (f_slots_used_4 d a (nI s) I J) := by
    intro a s hs o h
    refine b_slots_used_4 d a (nI s) I J o ?_
    rw [if_neg (show ¬ (3 : Int32) ≤ nI s from nI_ge (b := 3) (by omega) (by omega)), am_at_n (by omega) (by omega), nI_1]
    exact h
  have en : ∀ a, f_slots_used_4 d a (nI 3) I J = some (some (.int a), I, J) := fun a => b_slots_used_4 d a (nI 3) I J _ (by rw [if_pos (show (3 : Int32) ≤ nI 3 by decide)])
  have s2 : ∀ a, f_slots_used_4 d a (nI 2) I J = some (some (.int (a + (if I 67 2 = 0 then 0 else 1))), I, J) := fun a => st a 2 (by omega) _ (by rw [en, en]; split <;> rfl)
  have s1 : ∀ a, f_slots_used_4 d a (nI 1) I J = some (some (.int (a + (if I 67 1 = 0 then 0 else 1) + (if I 67 2 = 0 then 0 else 1))), I, J) := fun a => st a 1 (by omega) _ (by rw [s2, s2]; split <;> rfl)
  exact st 0 0 (by omega) _ (by
    rw [s1, s1]
    by_cases h : I 67 0 = 0
    · rw [if_pos h, if_pos h]
      rfl
    · rw [if_neg h, if_neg h]
      rfl)
theorem p_count (d : Nat) (x : Int32) : i_pair (f_oc_count_0 d x) (f_m_count_0 d x) := by
  refine i_ask (fun p v r u w n nx B I0 J0 I J _ hB2 hA => ?_)
  obtain ⟨hC, mC, hrow, hN, hGd, hR⟩ := hA.1
  have hn := hC.1.1
  have ht := hC.1.2.2.2.2.2.2.2.2.2.2.1
  have b1 := b_oc_count_0 d x I J
  have b2 := b_m_count_0 d x I J
  obtain ⟨I1, a1, C1, N1, R1, c1, l1, h1, k1⟩ := s_m_fresh d v p I J r mC hA.1.N
  have h30 : I1 98 30 ≤ pck p := by rw [← R1.hi 30 (by decide) (by decide)]; exact hGd.2.1
  have e30 : I1 98 30 = I 34 7 := by rw [← R1.hi 30 (by decide) (by decide), ← hrow, g_row_30]
  have e31 : I1 98 31 = I 34 8 := by rw [← R1.hi 31 (by decide) (by decide), ← hrow, g_row_31]
  have e33 : I1 98 33 = I 34 10 := by rw [← R1.hi 33 (by decide) (by decide), ← hrow, g_row_33]
  have kk : ∀ c k, i_sup c k → I1 c k = I c k := fun c k hc => k1 c k (i_sup_mG hc)
  rw [a1, am_bv_v, C1.2.2.1] at b2
  simp only [am_at_n mC.2.1 (show 2 < 2 ^ 31 by decide), aq_30, aq_31, aq_33] at b2
  rw [C1.2.2.2.1, C1.2.2.2.2.1, C1.2.2.2.2.2.1, C1.2.2.2.2.2.2.1, C1.2.2.2.2.2.2.2.2.2.1, e30, e31, e33, s_m_openAll d v p I1 J C1, am_bi_i, s_m_isOver d v p I1 J C1 h30, am_bi_i, kk 68 2 (Or.inr (by decide)), kk 68 50 (Or.inr (by decide)), kk 68 62 (Or.inr (by decide)), hA.2.2.2.2.1.2.1, hA.2.1.2.1, hA.2.2.2.1.2.1] at b2
  rw [hC.2.1, hC.2.2.1, hC.2.2.2.1, hC.2.2.2.2.1, hC.2.2.2.2.2.2.2.1, s_now_openBoards d (pn p) I J hn hC.2.1, am_bi_i, s_now_isOver d p I J hC hN.2.1, am_bi_i, hA.2.2.2.2.1.1, hA.2.1.1, hA.2.2.2.1.1, s_slots_used d I J, am_bi_i] at b1
  have fin : ∀ z : Int32, f_oc_count_0 d x I J = some (some (.int z), I, J) → f_m_count_0 d x I J = some (some (.int z), I1, J) → ∃ y' I1 I2, f_oc_count_0 d x I J = some (some (.int y'), I1, J) ∧ f_m_count_0 d x I1 J = some (some (.int y'), I2, J) ∧ (∀ c k, i_sup c k → I1 c k = I c k) ∧ i_G p r I1 ∧ (∀ c k, i_sup c k ∨ i_gd c k → I2 c k = I1 c k) := fun z e1 e2 => ⟨z, I, I1, e1, e2, fun _ _ _ => rfl, hA.2.2.2.2.2.2.1, fun c k hc => k1 c k (i_all_mG hc)⟩
  by_cases h : x = 0
  · rw [if_pos h] at b1 b2; exact fin _ (b1 _ rfl) (b2 _ rfl)
  rw [if_neg h] at b1 b2
  by_cases h : x = 1
  · rw [if_pos h] at b1 b2; exact fin _ (b1 _ rfl) (b2 _ rfl)
  rw [if_neg h] at b1 b2
  by_cases h : x = 2
  · rw [if_pos h] at b1 b2
    by_cases h0 : nI (pn p) = 0
    · rw [if_pos h0] at b1 b2; exact fin _ (b1 _ rfl) (b2 _ rfl)
    · rw [if_neg h0] at b1 b2; exact fin _ (b1 _ rfl) (b2 _ rfl)
  rw [if_neg h] at b1 b2
  by_cases h : x = 3
  · rw [if_pos h] at b1 b2; exact fin _ (b1 _ rfl) (b2 _ rfl)
  rw [if_neg h] at b1 b2
  by_cases h : x = 4
  · rw [if_pos h] at b1 b2; exact fin _ (b1 _ rfl) (b2 _ rfl)
  rw [if_neg h] at b1 b2
  by_cases h : x = 5
  · rw [if_pos h] at b1 b2; exact fin _ (b1 _ rfl) (b2 _ rfl)
  rw [if_neg h] at b1 b2
  by_cases h : x = 6
  · rw [if_pos h] at b1 b2; exact fin _ (b1 _ rfl) (b2 _ rfl)
  rw [if_neg h] at b1 b2
  by_cases h : x = 7
  · rw [if_pos h] at b1 b2
    refine fin _ (b1 _ rfl) (b2 _ ?_)
    rw [am_cnt_congr (p := g_open (I1 98)) (q := g_opn I 34) (pn p) 0 (fun j _ hj => by rw [← g_open_c (R1.same hn (by omega)), ← hrow, g_row_opn (by omega)])]
  rw [if_neg h] at b1 b2
  by_cases h : x = 8
  · rw [if_pos h] at b1 b2
    have ev : g_over p (I1 98) = g_over p (g_row I 34) := by rw [hrow]; exact (R1.E hn).over.symm
    rw [ev] at b2
    by_cases ho : g_over p (g_row I 34) = true
    · rw [if_neg (fun q => am_tf0.mp q ho)] at b1 b2; exact fin _ (b1 _ rfl) (b2 _ rfl)
    · rw [if_pos (am_tf0.mpr ho)] at b1 b2; exact fin _ (b1 _ rfl) (b2 _ rfl)
  rw [if_neg h] at b1 b2
  by_cases h : x = 9
  · rw [if_pos h] at b1 b2
    rcases hN.2.1 with q | q
    · rw [if_pos q] at b1
      rw [q] at b2
      exact fin _ (b1 _ rfl) (b2 _ rfl)
    · rw [if_neg (by rw [q]; decide)] at b1
      rw [q] at b2
      exact fin _ (b1 _ rfl) (b2 _ rfl)
  rw [if_neg h] at b1 b2
  by_cases h : x = 10
  · rw [if_pos h] at b1 b2; exact fin _ (b1 _ rfl) (b2 _ rfl)
  rw [if_neg h] at b1 b2
  by_cases h : x = 11
  · rw [if_pos h] at b1 b2; exact fin _ (b1 _ rfl) (b2 _ rfl)
  rw [if_neg h] at b1 b2
  by_cases h : x = 12
  · rw [if_pos h] at b1 b2; exact fin _ (b1 _ rfl) (b2 _ rfl)
  rw [if_neg h] at b1 b2
  by_cases h : x = 13
  · rw [if_pos h] at b1 b2
    refine fin _ (b1 _ rfl) (b2 _ ?_)
    have z : ∀ s, s < 3 → I1 110 s = I 67 s := fun s hs => by rw [kk 110 s (Or.inl (by decide))]; exact (hA.2.2.1 s hs).1.symm
    have c0 : ∀ k s, am_at (0 : Int32) 3 k s = k 0 := fun k s => am_c 0 rfl (by decide) (by decide)
    have c1' : ∀ k s, am_at (1 : Int32) 3 k s = k 1 := fun k s => am_c 1 rfl (by decide) (by decide)
    have c2' : ∀ k s, am_at (2 : Int32) 3 k s = k 2 := fun k s => am_c 2 rfl (by decide) (by decide)
    simp only [c0, c1', c2', z 0 (by omega), z 1 (by omega), z 2 (by omega)]
    by_cases z0 : I 67 0 = 0 <;> by_cases z1 : I 67 1 = 0 <;> by_cases z2 : I 67 2 = 0 <;> simp only [z0, z1, z2, if_true, if_false]
  rw [if_neg h] at b1 b2
  exact fin _ (b1 _ rfl) (b2 _ rfl)
theorem i_K.k {I0 : am_I} {J0 : Nat → Int64} {I I' : am_I} {J J' : am_J} (e : ∀ c k, c ≤ 4 → I' c k = I c k) (e2 : ∀ k, J' 75 k = J 75 k) (h : i_K I0 J0 I J) : i_K I0 J0 I' J' := ⟨fun c k hc => (e c k hc).trans (h.1 c k hc), fun k hk => (e2 k).trans (h.2 k hk)⟩
theorem i_s.to {L : List Nat} {M : List (Nat × Nat)} {Q : Nat → Nat → Prop} {c k : Nat} (h : c ∈ L ∨ (c, k) ∈ M) (h1 : ∀ c ∈ L, ∀ k, Q c k) (h2 : ∀ q ∈ M, Q q.1 q.2) : Q c k := by
  rcases h with h | h
  · exact h1 c h k
  · exact h2 (c, k) h
/-- two slots changed, far from all but one part of the state -/
theorem i_A.two {I0 : am_I} {J0 : Nat → Int64} {p : g_Plan} {v : Nat} {r : g_Row} {u nx w n w' n' : Nat} {B : Int} {I I' : am_I} {J : am_J} (a b a' b' : Nat) (hA : i_A I0 J0 p v r u nx w n B I J) (e : ∀ c k, (c ≠ a ∨ k ≠ b) → (c ≠ a' ∨ k ≠ b') → I' c k = I c k) (hx : (a = 53 ∧ b = 5 ∧ a' = 68 ∧ b' = 62) ∨ (a = 6 ∧ b = 1 ∧ a' = 68 ∧ b' = 2)) (hW : i_W p w' I') (hT : i_T n' I') : i_A I0 J0 p v r u nx w' n' B I' J := by
  rcases hx with ⟨rfl, rfl, rfl, rfl⟩ | ⟨rfl, rfl, rfl, rfl⟩
  · exact ⟨hA.1.k (fun c k h => i_s.to (Q := fun c k => I' c k = I c k) h (fun c hc k => e c k (Or.inl ((show ∀ c ∈ ([1, 2, 3, 12, 13, 14, 15, 16, 17, 18, 21, 34, 35, 36, 37, 38, 39, 77, 78, 79, 80, 81, 82, 83, 84, 85, 86, 87, 88, 89, 90, 91, 92, 93, 97] : List Nat), c ≠ 53 by decide) c hc)) (Or.inl ((show ∀ c ∈ ([1, 2, 3, 12, 13, 14, 15, 16, 17, 18, 21, 34, 35, 36, 37, 38, 39, 77, 78, 79, 80, 81, 82, 83, 84, 85, 86, 87, 88, 89, 90, 91, 92, 93, 97] : List Nat), c ≠ 68 by decide) c hc))) (fun q hq => e _ _ ((show ∀ q ∈ ([(68, 18)] : List (Nat × Nat)), q.1 ≠ 53 ∨ q.2 ≠ 5 by decide) q hq) ((show ∀ q ∈ ([(68, 18)] : List (Nat × Nat)), q.1 ≠ 68 ∨ q.2 ≠ 62 by decide) q hq))),
      hA.2.1.k (fun c k h => i_s.to (Q := fun c k => I' c k = I c k) h (fun c hc k => e c k (Or.inl ((show ∀ c ∈ ([13, 38, 64, 100] : List Nat), c ≠ 53 by decide) c hc)) (Or.inl ((show ∀ c ∈ ([13, 38, 64, 100] : List Nat), c ≠ 68 by decide) c hc))) (fun q hq => e _ _ ((show ∀ q ∈ ([(63, 1), (63, 2), (68, 50)] : List (Nat × Nat)), q.1 ≠ 53 ∨ q.2 ≠ 5 by decide) q hq) ((show ∀ q ∈ ([(63, 1), (63, 2), (68, 50)] : List (Nat × Nat)), q.1 ≠ 68 ∨ q.2 ≠ 62 by decide) q hq))),
      hA.2.2.1.k (fun c k h => i_s.to (Q := fun c k => I' c k = I c k) h (fun c hc k => e c k (Or.inl ((show ∀ c ∈ ([13, 38, 66, 67, 110, 111] : List Nat), c ≠ 53 by decide) c hc)) (Or.inl ((show ∀ c ∈ ([13, 38, 66, 67, 110, 111] : List Nat), c ≠ 68 by decide) c hc))) (fun q hq => by cases hq)),
      hW, hT, by rw [e 32 6 (Or.inl (by decide)) (Or.inl (by decide)), e 68 17 (Or.inl (by decide)) (Or.inr (by decide))]; exact hA.2.2.2.2.2.1,
      i_G.keep (fun c k h => h.to (Q := fun c k => I' c k = I c k) (fun c hc k => e c k (Or.inl ((show ∀ c ∈ ([43, 45] : List Nat), c ≠ 53 by decide) c hc)) (Or.inl ((show ∀ c ∈ ([43, 45] : List Nat), c ≠ 68 by decide) c hc))) (fun q hq => e _ _ (Or.inl ((show ∀ q ∈ i_gp, q.1 ≠ 53 by decide) q hq)) (Or.inl ((show ∀ q ∈ i_gp, q.1 ≠ 68 by decide) q hq)))) hA.2.2.2.2.2.2.1,
      i_K.k (fun c k h => e c k (Or.inl (by omega)) (Or.inl (by omega))) (fun _ => rfl) hA.2.2.2.2.2.2.2⟩
  · exact ⟨hA.1.k (fun c k h => i_s.to (Q := fun c k => I' c k = I c k) h (fun c hc k => e c k (Or.inl ((show ∀ c ∈ ([1, 2, 3, 12, 13, 14, 15, 16, 17, 18, 21, 34, 35, 36, 37, 38, 39, 77, 78, 79, 80, 81, 82, 83, 84, 85, 86, 87, 88, 89, 90, 91, 92, 93, 97] : List Nat), c ≠ 6 by decide) c hc)) (Or.inl ((show ∀ c ∈ ([1, 2, 3, 12, 13, 14, 15, 16, 17, 18, 21, 34, 35, 36, 37, 38, 39, 77, 78, 79, 80, 81, 82, 83, 84, 85, 86, 87, 88, 89, 90, 91, 92, 93, 97] : List Nat), c ≠ 68 by decide) c hc))) (fun q hq => e _ _ ((show ∀ q ∈ ([(68, 18)] : List (Nat × Nat)), q.1 ≠ 6 ∨ q.2 ≠ 1 by decide) q hq) ((show ∀ q ∈ ([(68, 18)] : List (Nat × Nat)), q.1 ≠ 68 ∨ q.2 ≠ 2 by decide) q hq))),
      hA.2.1.k (fun c k h => i_s.to (Q := fun c k => I' c k = I c k) h (fun c hc k => e c k (Or.inl ((show ∀ c ∈ ([13, 38, 64, 100] : List Nat), c ≠ 6 by decide) c hc)) (Or.inl ((show ∀ c ∈ ([13, 38, 64, 100] : List Nat), c ≠ 68 by decide) c hc))) (fun q hq => e _ _ ((show ∀ q ∈ ([(63, 1), (63, 2), (68, 50)] : List (Nat × Nat)), q.1 ≠ 6 ∨ q.2 ≠ 1 by decide) q hq) ((show ∀ q ∈ ([(63, 1), (63, 2), (68, 50)] : List (Nat × Nat)), q.1 ≠ 68 ∨ q.2 ≠ 2 by decide) q hq))),
      hA.2.2.1.k (fun c k h => i_s.to (Q := fun c k => I' c k = I c k) h (fun c hc k => e c k (Or.inl ((show ∀ c ∈ ([13, 38, 66, 67, 110, 111] : List Nat), c ≠ 6 by decide) c hc)) (Or.inl ((show ∀ c ∈ ([13, 38, 66, 67, 110, 111] : List Nat), c ≠ 68 by decide) c hc))) (fun q hq => by cases hq)),
      hW, hT, by rw [e 32 6 (Or.inl (by decide)) (Or.inl (by decide)), e 68 17 (Or.inl (by decide)) (Or.inr (by decide))]; exact hA.2.2.2.2.2.1,
      i_G.keep (fun c k h => h.to (Q := fun c k => I' c k = I c k) (fun c hc k => e c k (Or.inl ((show ∀ c ∈ ([43, 45] : List Nat), c ≠ 6 by decide) c hc)) (Or.inl ((show ∀ c ∈ ([43, 45] : List Nat), c ≠ 68 by decide) c hc))) (fun q hq => e _ _ (Or.inl ((show ∀ q ∈ i_gp, q.1 ≠ 6 by decide) q hq)) (Or.inl ((show ∀ q ∈ i_gp, q.1 ≠ 68 by decide) q hq)))) hA.2.2.2.2.2.2.1,
      i_K.k (fun c k h => e c k (Or.inl (by omega)) (Or.inl (by omega))) (fun _ => rfl) hA.2.2.2.2.2.2.2⟩
theorem i_upd2 {I : am_I} {a b a' b' : Nat} {x y : Int32} : ∀ c k, (c ≠ a ∨ k ≠ b) → (c ≠ a' ∨ k ≠ b') → am_upd (am_upd I a b x) a' b' y c k = I c k := by
  intro c k h1 h2
  have z : am_upd (am_upd I a b x) a' b' y c k = am_upd I a b x c k := by
    rcases h2 with h | h
    · exact am_uc h
    · exact am_uk h
  rw [z]
  rcases h1 with h | h
  · exact am_uc h
  · exact am_uk h
theorem p_forget (d : Nat) : i_pair (f_oc_forget_0 d) (f_m_forget_0 d) := by
  intro I0 J0 B I J hB hB2 ⟨p, v, r, u, nx, w, n, hA⟩
  obtain ⟨w1, w2, w4, tb, tm, ht⟩ := hA.2.2.2.1
  have e1 : am_upd I 53 5 0 68 62 = nI w := by rw [am_uc (by decide), w2]
  refine ⟨nI w, am_upd I 53 5 0, am_upd (am_upd I 53 5 0) 68 62 0, J, b_oc_forget_0 d I J _ (by rw [w1]), b_m_forget_0 d _ J _ (by rw [e1]), fun k => am_uc (by decide), p, v, r, u, nx, 0, n, ?_⟩
  have k := i_upd2 (I := I) (a := 53) (b := 5) (a' := 68) (b' := 62) (x := 0) (y := 0)
  refine (i_A.two 53 5 68 62 hA k (Or.inl ⟨rfl, rfl, rfl, rfl⟩) ⟨?_, am_ue, Nat.zero_le _, tb, tm, fun j hj => absurd hj (Nat.not_lt_zero j)⟩ (hA.2.2.2.2.1.k (fun c k' h => i_s.to (Q := fun c k' => am_upd (am_upd I 53 5 0) 68 62 0 c k' = I c k') h (fun c hc k' => k c k' (Or.inl ((show ∀ c ∈ ([7, 69] : List Nat), c ≠ 53 by decide) c hc)) (Or.inl ((show ∀ c ∈ ([7, 69] : List Nat), c ≠ 68 by decide) c hc))) (fun q hq => k _ _ ((show ∀ q ∈ ([(6, 1), (68, 2)] : List (Nat × Nat)), q.1 ≠ 53 ∨ q.2 ≠ 5 by decide) q hq) ((show ∀ q ∈ ([(6, 1), (68, 2)] : List (Nat × Nat)), q.1 ≠ 68 ∨ q.2 ≠ 62 by decide) q hq))))).up (by omega)
  rw [am_uc (by decide), am_ue]
  rfl
theorem p_back (d : Nat) (x : Int32) : i_pair (f_oc_back_0 d x) (f_m_back_0 d x) := by
  intro I0 J0 B I J hB hB2 ⟨p, v, r, u, nx, w, n, hA⟩
  obtain ⟨t1, t2, t3, t4⟩ := hA.2.2.2.2.1
  have b1 := b_oc_back_0 d x I J
  rw [t1] at b1
  by_cases hx : 0 ≤ x ∧ x ≤ nI n
  · obtain ⟨K, hK, rfl⟩ : ∃ K, K ≤ n ∧ x = nI K := nI_of2 (M := nI n) (n := n) (nI_toInt (by omega)) (Int32.not_lt.mpr hx.1) hx.2
    rw [if_neg (nI_pos (by omega)), if_pos hx.2, am_ue, pk_sub hK] at b1
    have e1 : am_upd I 6 1 (nI (n - K)) 68 2 = nI n := by rw [am_uc (by decide), t2]
    have b2 := b_m_back_0 d (nI K) (am_upd I 6 1 (nI (n - K))) J
    rw [e1, if_neg (nI_pos (by omega)), if_pos hx.2, am_ue, pk_sub hK] at b2
    refine ⟨_, _, _, J, b1 _ rfl, b2 _ rfl, fun k => am_uc (by decide), p, v, r, u, nx, w, n - K, ?_⟩
    have k := i_upd2 (I := I) (a := 6) (b := 1) (a' := 68) (b' := 2) (x := nI (n - K)) (y := nI (n - K))
    refine (i_A.two 6 1 68 2 hA k (Or.inr ⟨rfl, rfl, rfl, rfl⟩) (hA.2.2.2.1.k (fun c k' h => i_s.to (Q := fun c k' => am_upd (am_upd I 6 1 (nI (n - K))) 68 2 (nI (n - K)) c k' = I c k') h (fun c hc k' => k c k' (Or.inl ((show ∀ c ∈ ([54, 55, 108, 109] : List Nat), c ≠ 6 by decide) c hc)) (Or.inl ((show ∀ c ∈ ([54, 55, 108, 109] : List Nat), c ≠ 68 by decide) c hc))) (fun q hq => k _ _ ((show ∀ q ∈ ([(53, 5), (68, 62)] : List (Nat × Nat)), q.1 ≠ 6 ∨ q.2 ≠ 1 by decide) q hq) ((show ∀ q ∈ ([(53, 5), (68, 62)] : List (Nat × Nat)), q.1 ≠ 68 ∨ q.2 ≠ 2 by decide) q hq)))) ⟨by rw [am_uc (by decide), am_ue], am_ue, by omega, fun j hj => by rw [k 7 j (Or.inl (by decide)) (Or.inl (by decide)), k 69 j (Or.inl (by decide)) (Or.inl (by decide))]; exact t4 j (by omega)⟩).up (by omega)
  · have b2 := b_m_back_0 d x I J
    rw [t2] at b2
    have w1 : ∀ z : am_Out, (if x < 0 then some (some (.int (-1)), I, J) else if x ≤ nI n then z else some (some (.int (-1)), I, J)) = some (some (.int (-1)), I, J) := by
      intro z
      by_cases h0 : x < 0
      · rw [if_pos h0]
      · rw [if_neg h0, if_neg (fun q => hx ⟨Int32.not_lt.mp h0, q⟩)]
    exact ⟨_, I, I, J, b1 _ (w1 _), b2 _ (w1 _), fun _ => rfl, p, v, r, u, nx, w, n, hA.up (by omega)⟩

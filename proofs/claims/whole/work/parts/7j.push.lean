/-! what can be undone grows -/
theorem s_m_keeps (d u : Nat) (I : am_I) (J : am_J) (hu : u ≤ 50) (h : I 68 50 = nI u) : ∃ I', f_m_keeps_0 d I J = some (none, I', J) ∧ I' 68 50 = nI (if u = 50 then 50 else u + 1) ∧ (∀ k, k < 40 → I' 97 k = I 98 k) ∧ (∀ i k, k < 40 → i < (if u = 50 then 50 else u + 1) → I' 100 (40 * i + k) = if i + 1 = (if u = 50 then 50 else u + 1) then I 97 k else I 100 (40 * (if u = 50 then i + 1 else i) + k)) ∧ ∀ c k, c ≠ 97 → c ≠ 100 → (c ≠ 68 ∨ k ≠ 50) → I' c k = I c k := by
  have base := b_m_keeps_0 d I J
  rw [h] at base
  have tail : ∀ (w : Nat) (X : am_I), w < 50 → X 68 50 = nI w → ∃ I', f_m_keeps_51 d 0 X J = some (none, I', J) ∧ I' 68 50 = nI (w + 1) ∧ (∀ k, k < 40 → I' 97 k = X 98 k) ∧ (∀ j, (j < 40 * w ∨ 40 * w + 40 ≤ j) → I' 100 j = X 100 j) ∧ (∀ k, k < 40 → I' 100 (40 * w + k) = X 97 k) ∧ ∀ c k, c ≠ 97 → c ≠ 100 → (c ≠ 68 ∨ k ≠ 50) → I' c k = X c k := by
    intro w X hw hX
    have e : am_cpy X 97 0 100 (40 * w + 0) 40 68 50 + 1 = nI (w + 1) := by rw [am_cc (by decide), hX, nI_1]
    refine ⟨am_cpy (am_upd (am_cpy X 97 0 100 (40 * w + 0) 40) 68 50 (nI (w + 1))) 98 0 97 0 40, ?_, ?_, fun k hk => ?_, fun j hj => ?_, fun k hk => ?_, fun c k q1 q2 q3 => ?_⟩
    · refine lo_keeps_51 d w hw J _ 40 0 X (by omega) hX ?_
      rw [e]
      exact lo_keeps_95 d J _ 40 0 _ (by omega) rfl
    · rw [am_cc (by decide), am_ue]
    · rw [am_ce (by omega) (by omega), am_uc (by decide), am_cc (by decide), Nat.zero_add, Nat.sub_zero]
    · rw [am_cc (by decide), am_uc (by decide), am_co (by omega)]
    · rw [am_cc (by decide), am_uc (by decide), am_ce (by omega) (by omega)]
      congr 1
      omega
    · rw [am_cc q1]
      have z : am_upd (am_cpy X 97 0 100 (40 * w + 0) 40) 68 50 (nI (w + 1)) c k = am_cpy X 97 0 100 (40 * w + 0) 40 c k := by
        rcases q3 with h | h
        · exact am_uc h
        · exact am_uk h
      rw [z, am_cc q2]
  by_cases h50 : u = 50
  · rw [if_pos (show nI u = (50 : Int32) by rw [h50]; rfl)] at base
    obtain ⟨X, eX⟩ : ∃ X, X = am_upd (am_cpy I 100 (40 + 0) 100 0 1960) 68 50 (nI 49) := ⟨_, rfl⟩
    have x68 : X 68 50 = nI 49 := by rw [eX, am_ue]
    have x100 : ∀ j, j < 1960 → X 100 j = I 100 (40 + j) := fun j hj => by
      rw [eX, am_uc (by decide), am_ce (by omega) (by omega)]
      congr 1
    have xk : ∀ c k, c ≠ 100 → (c ≠ 68 ∨ k ≠ 50) → X c k = I c k := fun c k q1 q2 => by
      rw [eX]
      have z : am_upd (am_cpy I 100 (40 + 0) 100 0 1960) 68 50 (nI 49) c k = am_cpy I 100 (40 + 0) 100 0 1960 c k := by
        rcases q2 with h | h
        · exact am_uc h
        · exact am_uk h
      rw [z, am_cc q1]
    obtain ⟨I', a1, a2, a3, a4, a5, a6⟩ := tail 49 X (by omega) x68
    simp only [h50, if_true]
    refine ⟨I', base _ ?_, a2, fun k hk => by rw [a3 k hk, xk 98 k (by decide) (Or.inl (by decide))], fun i k hk hi => ?_, fun c k q1 q2 q3 => by rw [a6 c k q1 q2 q3, xk c k q2 q3]⟩
    · refine lo_keeps_11 d J _ 1960 0 I (by omega) ?_
      have e : am_cpy I 100 (40 + 0) 100 0 1960 68 50 - 1 = nI 49 := by rw [am_cc (by decide), h, h50]; rfl
      rw [e, ← eX]
      exact a1
    · by_cases e : i + 1 = 50
      · obtain rfl : i = 49 := by omega
        rw [if_pos rfl, a5 k hk, xk 97 k (by decide) (Or.inl (by decide))]
      · rw [if_neg e, a4 _ (Or.inl (by omega)), x100 _ (by omega)]
        congr 1
        omega
  · rw [if_neg (show ¬ nI u = (50 : Int32) from fun q => h50 ((nI_eq (b := 50) (by omega) (by omega)).mp q))] at base
    obtain ⟨I', a1, a2, a3, a4, a5, a6⟩ := tail u I (by omega) h
    simp only [h50, if_false]
    refine ⟨I', base _ a1, a2, a3, fun i k hk hi => ?_, a6⟩
    by_cases e : i + 1 = u + 1
    · obtain rfl : i = u := by omega
      rw [if_pos rfl, a5 k hk]
    · rw [if_neg e, a4 _ (Or.inl (by omega))]
theorem s_push (d nx u : Nat) (r : g_Row) (I : am_I) (J : am_J) (hr : g_row I 34 = r) (hf : I 34 10 = 0 ∨ I 34 10 = 1) (hu : u ≤ 50) (hnx : nx < 50) (h2 : I 63 2 = nI u) (h1 : I 63 1 = nI nx) : ∃ I', f_oc_noteWhatStands_0 d I J = some (none, I', J) ∧ I' 63 2 = nI (if u = 50 then 50 else u + 1) ∧ I' 63 1 = nI ((nx + 1) % 50) ∧ g_sv I' 64 (22 * nx) r ∧ I' 40 8 = -1 ∧ ∀ c k, (c ≠ 64 ∨ k < 22 * nx ∨ 22 * nx + 22 ≤ k) → (c ≠ 63 ∨ (k ≠ 1 ∧ k ≠ 2)) → (c ≠ 40 ∨ k ≠ 8) → I' c k = I c k := by
  have base := b_oc_noteWhatStands_0 d I J
  have bp := b_past_push_0 d I J
  obtain ⟨I1, a1, q1, k1⟩ := s_now_writeTo_past_rows d (22 * nx) I J (by omega)
  have e1 : I1 63 1 = nI nx := by rw [k1 63 1 (Or.inl (by decide)), h1]
  have e2 : I1 63 2 = nI u := by rw [k1 63 2 (Or.inl (by decide)), h2]
  rw [h1, am_i22, pk_mul, Nat.mul_comm nx 22, a1, am_bv_v, if_neg (show ¬ (50 : Int32) = 0 by decide), e1, nI_1, show (50 : Int32) = nI 50 from rfl, pk_rem (by omega) (by omega) (by omega), am_uk (show 2 ≠ 1 by decide), e2, nI_1] at bp
  have em : am_mn (nI (u + 1)) (nI 50) = nI (if u = 50 then 50 else u + 1) := by
    rw [am_mn_eq]
    unfold am_mnC
    by_cases h : u = 50
    · rw [if_pos h, h, if_pos (show nI 50 < nI (50 + 1) by decide)]
    · rw [if_neg h, if_neg (nI_nlt (by omega) (by omega))]
  rw [em] at bp
  rw [bp _ rfl, am_bv_v, b_guide_playChanges_0 d _ J _ rfl, am_bv_v] at base
  have sv := g_sv_of q1 hf
  rw [hr] at sv
  have kk : ∀ c k, (c ≠ 63 ∨ (k ≠ 1 ∧ k ≠ 2)) → (c ≠ 40 ∨ k ≠ 8) → am_upd (am_upd (am_upd I1 63 1 (nI ((nx + 1) % 50))) 63 2 (nI (if u = 50 then 50 else u + 1))) 40 8 (-1) c k = I1 c k := fun c k z1 z2 => by
    have y1 : am_upd (am_upd (am_upd I1 63 1 (nI ((nx + 1) % 50))) 63 2 (nI (if u = 50 then 50 else u + 1))) 40 8 (-1) c k = am_upd (am_upd I1 63 1 (nI ((nx + 1) % 50))) 63 2 (nI (if u = 50 then 50 else u + 1)) c k := by
      rcases z2 with h | h
      · exact am_uc h
      · exact am_uk h
    rw [y1]
    exact i_upd2 c k (z1.imp id (fun q => q.1)) (z1.imp id (fun q => q.2))
  refine ⟨_, base _ rfl, ?_, ?_, sv.keep (fun j _ _ => kk 64 j (Or.inl (by decide)) (Or.inl (by decide))), am_ue, fun c k z1 z2 z3 => (kk c k z2 z3).trans (k1 c k z1)⟩
  · rw [am_uc (by decide), am_ue]
  · rw [am_uc (by decide), am_uk (by decide), am_ue]
theorem n_1 {c k : Nat} {M : List (Nat × Nat)} (h : (c, k) ∉ M) (a b : Nat) (hm : (a, b) ∈ M) : c ≠ a ∨ k ≠ b := by
  by_cases e : c = a
  · right
    intro e2
    rw [e, e2] at h
    exact h hm
  · exact Or.inl e
theorem n_2 {c k : Nat} {M : List (Nat × Nat)} (h : (c, k) ∉ M) (a b b' : Nat) (hm : (a, b) ∈ M) (hm' : (a, b') ∈ M) : c ≠ a ∨ (k ≠ b ∧ k ≠ b') := by
  rcases n_1 h a b hm with q | q
  · exact Or.inl q
  · rcases n_1 h a b' hm' with q' | q'
    · exact Or.inl q'
    · exact Or.inr ⟨q, q'⟩
theorem n_34 {c k : Nat} {M : List (Nat × Nat)} (h : (c, k) ∉ M) (hm : (34, 7) ∈ M ∧ (34, 8) ∈ M ∧ (34, 9) ∈ M ∧ (34, 10) ∈ M) : c ≠ 34 ∨ k < 7 ∨ 10 < k := by
  rcases n_1 h 34 7 hm.1 with q | q1
  · exact Or.inl q
  rcases n_1 h 34 8 hm.2.1 with q | q2
  · exact Or.inl q
  rcases n_1 h 34 9 hm.2.2.1 with q | q3
  · exact Or.inl q
  rcases n_1 h 34 10 hm.2.2.2 with q | q4
  · exact Or.inl q
  right
  omega
theorem n_c {c : Nat} {L : List Nat} (h : c ∉ L) (a : Nat) (ha : a ∈ L) : c ≠ a := fun e => h (by rw [e]; exact ha)
theorem n_s {c : Nat} {L L' : List Nat} (h : c ∉ L) (hs : ∀ a ∈ L', a ∈ L) : c ∉ L' := fun q => h (hs c q)
/-- something was done: all stands alike again -/
theorem q_done {I0 : am_I} {J0 : Nat → Int64} {p : g_Plan} {v : Nat} {r r' : g_Row} {u nx w n : Nat} {B : Int} {I I1 I2 I4 I5 : am_I} {J : am_J} (hA : i_A I0 J0 p v r u nx w n B I J)
    (h1 : I1 63 2 = nI (if u = 50 then 50 else u + 1) ∧ I1 63 1 = nI ((nx + 1) % 50) ∧ g_sv I1 64 (22 * nx) r ∧ I1 40 8 = -1 ∧ ∀ c k, (c ≠ 64 ∨ k < 22 * nx ∨ 22 * nx + 22 ≤ k) → (c ≠ 63 ∨ (k ≠ 1 ∧ k ≠ 2)) → (c ≠ 40 ∨ k ≠ 8) → I1 c k = I c k)
    (h2 : ∀ c k, (c ≠ 34 ∨ k < 7 ∨ 10 < k) → c ∉ ([19, 20, 35, 36, 37] : List Nat) → I2 c k = I1 c k) (h3 : g_row I2 34 = r') (h4 : ∀ c k, m_G c k → I4 c k = I2 c k) (h5 : g_R p r' (I4 98))
    (h6 : I5 68 50 = nI (if u = 50 then 50 else u + 1) ∧ (∀ k, k < 40 → I5 97 k = I4 98 k) ∧ (∀ i k, k < 40 → i < (if u = 50 then 50 else u + 1) → I5 100 (40 * i + k) = if i + 1 = (if u = 50 then 50 else u + 1) then I4 97 k else I4 100 (40 * (if u = 50 then i + 1 else i) + k)) ∧ ∀ c k, c ≠ 97 → c ≠ 100 → (c ≠ 68 ∨ k ≠ 50) → I5 c k = I4 c k)
    (h7 : g_at r' ∧ r' 30 ≤ pck p ∧ (r' 33 = 0 ∨ r' 33 = 1) ∧ g_cap p r' ∧ g_nn p r' ∧ g_bd r' (B + 999)) : i_A I0 J0 p v r' (if u = 50 then 50 else u + 1) ((nx + 1) % 50) w n (B + 999) I5 J := by
  have e2 : ∀ c k, c ∉ ([95, 96, 97, 98, 99, 100] : List Nat) → (c, k) ∉ ([(68, 45), (68, 49), (68, 50)] : List (Nat × Nat)) → I5 c k = I2 c k := fun c k z1 z2 =>
    (h6.2.2.2 c k (n_c z1 97 (by decide)) (n_c z1 100 (by decide)) (n_1 z2 68 50 (by decide))).trans (h4 c k ⟨n_s z1 (by decide), n_2 z2 68 45 49 (by decide) (by decide)⟩)
  have e1 : ∀ c k, c ∉ ([19, 20, 35, 36, 37, 95, 96, 97, 98, 99, 100] : List Nat) → (c, k) ∉ ([(34, 7), (34, 8), (34, 9), (34, 10), (68, 45), (68, 49), (68, 50)] : List (Nat × Nat)) → I5 c k = I1 c k := fun c k z1 z2 =>
    (e2 c k (n_s z1 (by decide)) (fun q => z2 ((show ∀ q ∈ ([(68, 45), (68, 49), (68, 50)] : List (Nat × Nat)), q ∈ ([(34, 7), (34, 8), (34, 9), (34, 10), (68, 45), (68, 49), (68, 50)] : List (Nat × Nat)) by decide) _ q))).trans (h2 c k (n_34 z2 (by decide)) (n_s z1 (by decide)))
  have e : ∀ c k, c ∉ ([19, 20, 35, 36, 37, 64, 95, 96, 97, 98, 99, 100] : List Nat) → (c, k) ∉ ([(34, 7), (34, 8), (34, 9), (34, 10), (63, 1), (63, 2), (40, 8), (68, 45), (68, 49), (68, 50)] : List (Nat × Nat)) → I5 c k = I c k := fun c k z1 z2 =>
    (e1 c k (n_s z1 (by decide)) (fun q => z2 ((show ∀ q ∈ ([(34, 7), (34, 8), (34, 9), (34, 10), (68, 45), (68, 49), (68, 50)] : List (Nat × Nat)), q ∈ ([(34, 7), (34, 8), (34, 9), (34, 10), (63, 1), (63, 2), (40, 8), (68, 45), (68, 49), (68, 50)] : List (Nat × Nat)) by decide) _ q))).trans (h1.2.2.2.2 c k (Or.inl (n_c z1 64 (by decide))) (n_2 z2 63 1 2 (by decide) (by decide)) (n_1 z2 40 8 (by decide)))
  obtain ⟨⟨hC, mC, hrow, hN, hGd, hR⟩, ⟨u1, u2, u3, u4, u5, u6⟩, hS, hW, hT, hF, hG, hK⟩ := hA
  have r34 : g_row I5 34 = r' := by
    rw [← h3]
    exact g_rk_now (fun c k hc => e2 c k ((show ∀ c ∈ ([13, 34, 35, 36, 37, 38] : List Nat), c ∉ ([95, 96, 97, 98, 99, 100] : List Nat) by decide) c hc) (fun q => (show ∀ c ∈ ([13, 34, 35, 36, 37, 38] : List Nat), ∀ q ∈ ([(68, 45), (68, 49), (68, 50)] : List (Nat × Nat)), q.1 ≠ c by decide) c hc _ q rfl))
  have c5 : g_C p I5 := hC.keep (fun c k hc => e c k ((show ∀ c ∈ ([1, 2, 3, 12, 13, 14, 15, 16, 17, 18, 21] : List Nat), c ∉ ([19, 20, 35, 36, 37, 64, 95, 96, 97, 98, 99, 100] : List Nat) by decide) c hc) (fun q => (show ∀ c ∈ ([1, 2, 3, 12, 13, 14, 15, 16, 17, 18, 21] : List Nat), ∀ q ∈ ([(34, 7), (34, 8), (34, 9), (34, 10), (63, 1), (63, 2), (40, 8), (68, 45), (68, 49), (68, 50)] : List (Nat × Nat)), q.1 ≠ c by decide) c hc _ q rfl))
  have mc5 : m_C p v I5 := mC.keep (e 68 18 (by decide) (by decide)) (fun c k hc => e c k ((show ∀ c ∈ m_Cc, c ∉ ([19, 20, 35, 36, 37, 64, 95, 96, 97, 98, 99, 100] : List Nat) by decide) c hc) (fun q => (show ∀ c ∈ m_Cc, ∀ q ∈ ([(34, 7), (34, 8), (34, 9), (34, 10), (63, 1), (63, 2), (40, 8), (68, 45), (68, 49), (68, 50)] : List (Nat × Nat)), q.1 ≠ c by decide) c hc _ q rfl))
  have gdk : ∀ r, g_Gd p I B r → g_Gd p I5 (B + 999) r := fun r h => (h.keep (fun c k hc => e c k ((show ∀ c ∈ ([13, 38] : List Nat), c ∉ ([19, 20, 35, 36, 37, 64, 95, 96, 97, 98, 99, 100] : List Nat) by decide) c hc) (fun q => (show ∀ c ∈ ([13, 38] : List Nat), ∀ q ∈ ([(34, 7), (34, 8), (34, 9), (34, 10), (63, 1), (63, 2), (40, 8), (68, 45), (68, 49), (68, 50)] : List (Nat × Nat)), q.1 ≠ c by decide) c hc _ q rfl))).up (by omega)
  have v64 : ∀ j, I5 64 j = I1 64 j := fun j => e1 64 j (by decide) (fun q => (show ∀ q ∈ ([(34, 7), (34, 8), (34, 9), (34, 10), (68, 45), (68, 49), (68, 50)] : List (Nat × Nat)), q.1 ≠ 64 by decide) _ q rfl)
  refine ⟨⟨c5, mc5, r34, ⟨by rw [r34]; exact h7.1, ?_, by rw [e 34 6 (by decide) (by decide)]; exact hN.2.2.1, fun b hb => by rw [e 39 b (by decide) (fun q => (show ∀ q ∈ ([(34, 7), (34, 8), (34, 9), (34, 10), (63, 1), (63, 2), (40, 8), (68, 45), (68, 49), (68, 50)] : List (Nat × Nat)), q.1 ≠ 39 by decide) _ q rfl)]; exact hN.2.2.2 b hb⟩, ⟨h7.1, h7.2.1, h7.2.2.1, h7.2.2.2.1, h7.2.2.2.2.1, h7.2.2.2.2.2, ?_⟩, fun k z1 z2 => ?_⟩, ⟨?_, h6.1, ?_, ?_, Nat.mod_lt _ (by omega), fun i hi => ?_⟩, ?_, hW.k (i_of e (by decide)), hT.k (i_of e (by decide)), ?_, ⟨Or.inl ?_, hG.2.keep (fun k hk => e 40 k (by decide) (by rcases hk with rfl | rfl <;> decide)) (fun k => e 45 k (by decide) (fun q => (show ∀ q ∈ ([(34, 7), (34, 8), (34, 9), (34, 10), (63, 1), (63, 2), (40, 8), (68, 45), (68, 49), (68, 50)] : List (Nat × Nat)), q.1 ≠ 45 by decide) _ q rfl))⟩, i_ofK e (by decide) (fun _ => rfl) hK⟩
  · have q := h7.2.2.1
    rw [← r34, g_row_33] at q
    exact q
  · have q := g_shp_of I5 34
    rw [r34] at q
    exact q
  · rw [h6.2.1 k (by omega)]
    exact h5 k z1 z2
  · rw [e1 63 2 (by decide) (by decide)]; exact h1.1
  · split <;> omega
  · rw [e1 63 1 (by decide) (by decide)]; exact h1.2.1
  · by_cases hl : i + 1 = (if u = 50 then 50 else u + 1)
    · -- the newest
      refine ⟨r, gdk r hGd, ?_, fun k z1 z2 => ?_⟩
      · have es : ((nx + 1) % 50 + 50 - (if u = 50 then 50 else u + 1) + i) % 50 = nx := by
          by_cases h50 : u = 50
          · rw [if_pos h50] at hl ⊢; omega
          · rw [if_neg h50] at hl ⊢; omega
        rw [es]
        exact h1.2.2.1.keep (fun j _ _ => v64 j)
      · show r k = I5 100 (40 * i + k)
        rw [h6.2.2.1 i k (by omega) hi, if_pos hl, h4 97 k ⟨by decide, Or.inl (by decide)⟩, h2 97 k (Or.inl (by decide)) (by decide), h1.2.2.2.2 97 k (Or.inl (by decide)) (Or.inl (by decide)) (Or.inl (by decide))]
        exact hR k z1 z2
    · obtain ⟨j, hj⟩ : ∃ j, j = if u = 50 then i + 1 else i := ⟨_, rfl⟩
      have hju : j < u := by
        rw [hj]
        by_cases h50 : u = 50
        · rw [if_pos h50] at hi hl ⊢; omega
        · rw [if_neg h50] at hi hl ⊢; omega
      obtain ⟨r0, q1, q2, q3⟩ := u6 j hju
      have es : ((nx + 1) % 50 + 50 - (if u = 50 then 50 else u + 1) + i) % 50 = (nx + 50 - u + j) % 50 := by
        rw [hj]
        by_cases h50 : u = 50
        · rw [if_pos h50, if_pos h50]; omega
        · rw [if_neg h50] at hi
          rw [if_neg h50, if_neg h50]; omega
      have ne : (nx + 50 - u + j) % 50 ≠ nx ∨ u = 50 ∧ j = 0 := by
        by_cases h50 : u = 50
        · rw [if_pos h50] at hj; omega
        · omega
      have hj0 : ¬ (u = 50 ∧ j = 0) := fun q => by rw [if_pos q.1] at hj; omega
      refine ⟨r0, gdk r0 q1, ?_, fun k z1 z2 => ?_⟩
      · rw [es]
        have nes := ne.resolve_right hj0
        exact q2.keep (fun t t1 t2 => by rw [v64 t]; exact h1.2.2.2.2 64 t (by omega) (Or.inl (by decide)) (Or.inl (by decide)))
      · show r0 k = I5 100 (40 * i + k)
        rw [h6.2.2.1 i k (by omega) hi, if_neg hl, ← hj, h4 100 _ ⟨by decide, Or.inl (by decide)⟩, h2 100 _ (Or.inl (by decide)) (by decide), h1.2.2.2.2 100 _ (Or.inl (by decide)) (Or.inl (by decide)) (Or.inl (by decide))]
        exact q3 k z1 z2
  · have q : i_S p B I5 := hS.k (i_of e (by decide))
    intro s hs
    obtain ⟨z0, z⟩ := q s hs
    exact ⟨z0, z.imp id (fun ⟨y0, r0, y1, y2, y3⟩ => ⟨y0, r0, y1.up (by omega), y2, y3⟩)⟩
  · rw [e 32 6 (by decide) (by decide), e 68 17 (by decide) (by decide)]; exact hF
  · rw [e1 40 8 (by decide) (by decide)]; exact h1.2.2.2.1

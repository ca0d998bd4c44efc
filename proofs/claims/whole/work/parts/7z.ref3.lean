/-! the reference's E: a sign between two -/
section YU
variable (d : Nat) (J : am_J) (u : Fin 841)
theorem s_m_push {W : List Int32} {I : am_I} {t z : Nat} (h : y_st t W z I) (hl : W.length < 64) (a : Int32) : y_st t (a :: W) z (am_upd (am_upd I 94 W.length a) 68 42 (nI (W.length + 1))) := by
  obtain ⟨h1, h2, h3, h4, h5⟩ := h
  refine ⟨?_, h2, ?_, am_ue, ?_, y_sk_keep W (fun j hj => ?_) h5⟩
  · rw [am_uk (by decide), am_uc (by decide)]; exact h1
  · rw [am_uk (by decide), am_uc (by decide)]; exact h3
  · rw [am_uc (by decide), am_ue]
  · rw [am_uc (by decide), am_uk (by omega)]
theorem s_m_op {P W : List Int32} {I : am_I} {t z : Nat} (h0 : I 68 13 = 0) (h : y_st t (P ++ W) z I) (hl : P.length + W.length + 1 ≤ 64) (hz : z + P.length ≤ u.val) {lv a : Int32} (ha : I 71 t = a) (hop : (lv = 0 ∧ (a = 8 ∨ a = 9)) ∨ (lv = 1 ∧ (a = 10 ∨ a = 15))) (hP : ∀ b ∈ P, b ≠ 6 ∧ (lv ≠ 0 → b ≠ 8 ∧ b ≠ 9)) (hW : W = [] ∨ ∃ b W', W = b :: W' ∧ (b = 6 ∨ (lv ≠ 0 ∧ (b = 8 ∨ b = 9)))) (x1 : Int32) : (t < 400 → ∃ I', y_st (t + 1) (a :: W) (z + P.length) I' ∧ y_cd z (y_em P) I' ∧ y_fr u z I I' ∧ I' 68 13 = 0 ∧ I' 68 12 = I 68 12 ∧ ∀ o, f_m_expression_23 d x1 I' J = some o → f_m_expression_96 d x1 I J = some o) ∧ (t = 400 → ∃ I', f_m_expression_96 d x1 I J = some (none, I', J) ∧ y_ft u 2 t z I I') := by
  have hle : (P ++ W).length = P.length + W.length := List.length_append
  obtain ⟨I1, a1, a2, a3, a4, a5, a6, a7⟩ := s_m_out d J u lv hW P I t z hP h (by omega) hz
  obtain ⟨g1, g2, g3, g4, g5⟩ := a2
  have k71 : I1 71 t = a := by rw [a4 71 t (by simp [y_fc]) (by decide) (Or.inl (by decide)) (Or.inl (by decide))]; exact ha
  obtain ⟨I3, e3⟩ : ∃ I3, I3 = am_upd (am_upd I1 94 W.length a) 68 42 (nI (W.length + 1)) := ⟨_, rfl⟩
  have st3 : y_st t (a :: W) (z + P.length) I3 := by rw [e3]; exact s_m_push ⟨g1, g2, g3, g4, g5⟩ (by omega) a
  have k3 : ∀ c k, (c ≠ 94) → (c ≠ 68 ∨ k ≠ 42) → I3 c k = I1 c k := fun c k q1 q2 => by
    rw [e3]
    rcases q2 with q | q
    · rw [am_uc q, am_uc q1]
    · rw [am_uk q, am_uc q1]
  have z3 : I3 68 13 = 0 := by rw [k3 68 13 (by decide) (Or.inr (by decide)), a5, h0]
  have hF : ∀ o, am_bv (f_m_goesOn_0 d I3 J) (fun I29 J30 => f_m_expression_12 d x1 1 I29 J30) = some o → f_m_expression_96 d x1 I J = some o := fun o ho => by
    have core : am_bv (f_m_comesOut_0 d lv I J) (fun I25 J26 => am_at (I25 68 11) 403 (fun j27 => am_at (I25 68 42) 64 (fun j28 => am_bv (f_m_goesOn_0 d (am_upd (am_upd I25 94 j28 (I25 71 j27)) 68 42 (((am_upd I25 94 j28 (I25 71 j27)) 68 42) + 1)) J26) (fun I29 J30 => f_m_expression_12 d x1 1 I29 J30)) none) none) = some o := by
      rw [a1, am_bv_v, g1, am_at_n (by omega) (by omega), g4, am_at_n (by omega) (by omega), k71, am_uc (show 68 ≠ 94 by decide), g4, nI_1, ← e3]
      exact ho
    have is := fun w (hw : a ≠ w) => show f_m_is_0 d w I J = some (some (.int 0), I, J) by rw [s_m_is d J h.1 h.2.1 h0, ha, am_tf_f hw]
    have isy := fun w (hw : a = w) => show f_m_is_0 d w I J = some (some (.int 1), I, J) by rw [s_m_is d J h.1 h.2.1 h0, ha, am_tf_t hw]
    have one : ¬ (1 : Int32) = 0 := by decide
    have r181 : f_m_expression_181 d x1 I J = some o := by
      refine b_m_expression_181 d x1 I J _ ?_
      rw [if_neg one]
      rcases hop with ⟨hl0, hh⟩ | ⟨hl0, hh⟩
      · rw [is 10 (by rcases hh with rfl | rfl <;> decide), am_bi_i, if_pos rfl, is 15 (by rcases hh with rfl | rfl <;> decide), am_bi_i, if_pos rfl, ← hl0]
        exact core
      · rcases hh with hh | hh
        · rw [isy 10 hh, am_bi_i, if_neg one]
          rw [hl0] at core
          exact core
        · rw [is 10 (by rw [hh]; decide), am_bi_i, if_pos rfl, isy 15 hh, am_bi_i, if_neg one]
          rw [hl0] at core
          exact core
    have r145 : f_m_expression_145 d x1 I J = some o := by
      refine b_m_expression_145 d x1 I J _ ?_
      rcases hop with ⟨_, hh | hh⟩ | ⟨_, hh | hh⟩
      · rw [isy 8 hh, am_bi_i, if_neg one]; exact r181
      · rw [is 8 (by rw [hh]; decide), am_bi_i, if_pos rfl, isy 9 hh, am_bi_i, if_neg one]; exact r181
      · rw [is 8 (by rw [hh]; decide), am_bi_i, if_pos rfl, is 9 (by rw [hh]; decide), am_bi_i, if_pos rfl, isy 10 hh, am_bi_i, if_neg one]; exact r181
      · rw [is 8 (by rw [hh]; decide), am_bi_i, if_pos rfl, is 9 (by rw [hh]; decide), am_bi_i, if_pos rfl, is 10 (by rw [hh]; decide), am_bi_i, if_pos rfl, isy 15 hh, am_bi_i, if_neg one]; exact r181
    refine b_m_expression_96 d x1 I J _ ?_
    rw [is 7 (by rcases hop with ⟨_, hh | hh⟩ | ⟨_, hh | hh⟩ <;> (rw [hh]; decide)), am_bi_i, if_pos rfl]
    exact r145
  have f3 : y_fr u z I I3 := a4.trans (z' := z) (fun c k q1 q2 _ _ => k3 c k q2 (n_1 q1 68 42 (by decide))) (Nat.le_refl _)
  refine ⟨fun ht => ?_, fun ht => ?_⟩
  · obtain ⟨I4, e4⟩ : ∃ I4, I4 = am_upd I3 68 11 (nI (t + 1)) := ⟨_, rfl⟩
    have k4 : ∀ c k, (c ≠ 68 ∨ k ≠ 11) → I4 c k = I3 c k := fun c k q => by
      rw [e4]
      rcases q with q | q
      · exact am_uc q
      · exact am_uk q
    obtain ⟨s1, s2, s3, s4, s5⟩ := st3
    refine ⟨I4, ⟨by rw [e4, am_ue], by omega, (k4 68 38 (Or.inr (by decide))).trans s3, (k4 68 42 (Or.inr (by decide))).trans s4, y_sk_keep _ (fun j _ => k4 94 j (Or.inl (by decide))) s5⟩, ?_, f3.trans (z' := z) (fun c k q1 _ _ _ => k4 c k (n_1 q1 68 11 (by decide))) (Nat.le_refl _), (k4 68 13 (Or.inr (by decide))).trans z3, ?_, fun o ho => hF o ?_⟩
    · refine y_fr.cd (u := u) (z' := z + P.length) (fun c k q1 q2 _ _ => (k4 c k (n_1 q1 68 11 (by decide))).trans (k3 c k q2 (n_1 q1 68 42 (by decide)))) a3 ?_
      rw [y_em_len]
      exact Nat.le_refl _
    · rw [k4 68 12 (Or.inr (by decide)), k3 68 12 (by decide) (Or.inr (by decide)), a7]
    · rw [s_m_goes_y d J s1 ht, am_bv_v, ← e4]
      refine b_m_expression_12 d x1 1 I4 J _ ?_
      rw [if_neg (show ¬ (1 : Int32) = 0 by decide), if_pos ((k4 68 13 (Or.inr (by decide))).trans z3)]
      exact ho
  · obtain ⟨I4, b1, b2, b3, b4⟩ := s_m_goes_n d J st3.1 ht z3
    have f4 : y_fr u z I3 I4 := fun c k q1 _ _ _ => b4 c k (n_1 q1 68 13 (by decide)) (n_1 q1 68 14 (by decide))
    refine ⟨I4, hF _ ?_, b2, ?_, ⟨t, st3.2.1, (b4 68 11 (Or.inr (by decide)) (Or.inr (by decide))).trans st3.1⟩, f3.trans f4 (Nat.le_refl _)⟩
    · rw [b1, am_bv_v]
      exact s_m_12_f d J (by rw [b2]; decide) x1 1
    · rw [b3, f3 72 t (by simp [y_fc]) (by decide) (Or.inl (by decide)) (Or.inl (by decide))]
end YU

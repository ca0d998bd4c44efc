/-! the reference's E: one step at a time -/
/-- the reference found a fault -/
def y_ft (u : Fin 841) (f : Int32) (a z : Nat) (I I' : am_I) : Prop := I' 68 13 = f ∧ I' 68 14 = I 72 a ∧ (∃ t, t ≤ 400 ∧ I' 68 11 = nI t) ∧ y_fr u z I I'
theorem y_split : ∀ W : List Int32, ∃ P W', W = P ++ W' ∧ (∀ a ∈ P, a ≠ 6) ∧ (W' = [] ∨ ∃ W'', W' = 6 :: W'') := by
  intro W
  induction W with
  | nil => exact ⟨[], [], rfl, by simp, Or.inl rfl⟩
  | cons a W ih =>
    by_cases q : a = 6
    · exact ⟨[], a :: W, rfl, by simp, Or.inr ⟨W, by rw [q]⟩⟩
    · obtain ⟨P, W', h1, h2, h3⟩ := ih
      refine ⟨a :: P, W', by rw [h1]; rfl, fun b hb => ?_, h3⟩
      rcases List.mem_cons.mp hb with rfl | hb
      · exact q
      · exact h2 b hb
section YT
variable (d : Nat) (J : am_J) (u : Fin 841)
theorem s_m_unit_f {I : am_I} (h : 0 < I 68 13) : f_m_unit_0 d I J = some (none, I, J) := by
  have hne : ¬ I 68 13 = 0 := fun q => by rw [q] at h; exact absurd h (by decide)
  refine b_m_unit_0 d I J _ ?_
  rw [s_m_is_f d J hne, am_bi_i, if_pos rfl, if_neg hne, s_m_fail2 d J h, am_bv_v]
theorem s_m_23_f {I : am_I} (h : 0 < I 68 13) (x1 : Int32) : f_m_expression_23 d x1 I J = some (none, I, J) := by
  have hne : ¬ I 68 13 = 0 := fun q => by rw [q] at h; exact absurd h (by decide)
  refine b_m_expression_23 d x1 I J _ ?_
  rw [s_m_is_f d J hne, am_bi_i, if_pos rfl, s_m_unit_f d J h, am_bv_v, if_neg (Int32.not_le.mpr h)]
theorem s_m_12_f {I : am_I} (h : 0 < I 68 13) (x1 x2 : Int32) : f_m_expression_12 d x1 x2 I J = some (none, I, J) := by
  have hne : ¬ I 68 13 = 0 := fun q => by rw [q] at h; exact absurd h (by decide)
  refine b_m_expression_12 d x1 x2 I J _ ?_
  by_cases q : x2 = 0
  · rw [if_pos q]
  · rw [if_neg q, if_neg hne]
/-- what waits comes out, to the next ( -/
theorem s_m_outs {W : List Int32} {I : am_I} {t z : Nat} (h : y_st t W z I) (hl : W.length ≤ 64) (hz : z + W.length ≤ u.val) : ∃ I', f_m_comesOut_0 d 0 I J = some (none, I', J) ∧ I' 68 11 = nI t ∧ y_fr u z I I' ∧ I' 68 13 = I 68 13 ∧ I' 68 14 = I 68 14 := by
  obtain ⟨P, W', h1, h2, h3⟩ := y_split W
  subst h1
  have e : (P ++ W').length = P.length + W'.length := List.length_append
  obtain ⟨I', a1, a2, a3, a4, a5, a6, a7⟩ := s_m_out d J u 0 (W := W') (h3.imp id (fun ⟨W'', q⟩ => ⟨6, W'', q, Or.inl rfl⟩)) P I t z (fun a ha => ⟨h2 a ha, fun q => absurd rfl q⟩) h hl (by omega)
  exact ⟨I', a1, a2.1, a4, a5, a6⟩
theorem s_m_96_f {W : List Int32} {I : am_I} {t z : Nat} (h0 : 0 < I 68 13) (h : y_st t W z I) (hl : W.length ≤ 64) (hz : z + W.length ≤ u.val) (x1 : Int32) : ∃ I', f_m_expression_96 d x1 I J = some (none, I', J) ∧ I' 68 11 = nI t ∧ y_fr u z I I' ∧ I' 68 13 = I 68 13 ∧ I' 68 14 = I 68 14 := by
  have hne : ¬ I 68 13 = 0 := fun q => by rw [q] at h0; exact absurd h0 (by decide)
  obtain ⟨I', a1, a2⟩ := s_m_outs d J u h hl hz
  refine ⟨I', b_m_expression_96 d x1 I J _ ?_, a2⟩
  rw [s_m_is_f d J hne, am_bi_i, if_pos rfl]
  refine b_m_expression_145 d x1 I J _ ?_
  rw [s_m_is_f d J hne, am_bi_i, if_pos rfl, s_m_is_f d J hne, am_bi_i, if_pos rfl, s_m_is_f d J hne, am_bi_i, if_pos rfl, s_m_is_f d J hne, am_bi_i, if_pos rfl, if_pos (show (0 : Int32) = 0 from rfl)]
  by_cases q : I 68 12 ≤ x1
  · rw [if_pos q, a1, am_bv_v]
  · rw [if_neg q, s_m_fail2 d J h0, am_bv_v, a1, am_bv_v]
/-- an E ends here, but a ( is open -/
theorem s_m_96_open {W : List Int32} {I : am_I} {t z : Nat} (h0 : I 68 13 = 0) (h : y_st t W z I) (hl : W.length ≤ 64) (hz : z + W.length ≤ u.val) {x1 : Int32} (ho : ¬ I 68 12 ≤ x1) (n7 : I 71 t ≠ 7) (n8 : I 71 t ≠ 8) (n9 : I 71 t ≠ 9) (n10 : I 71 t ≠ 10) (n15 : I 71 t ≠ 15) : ∃ I', f_m_expression_96 d x1 I J = some (none, I', J) ∧ y_ft u 1 t z I I' := by
  obtain ⟨h1, h2, h3, h4, h5⟩ := h
  obtain ⟨I1, a1, a2, a3, a4⟩ := s_m_fail1 d J h1 h2 h0 1
  have g : ∀ k, k ≠ 13 → k ≠ 14 → I1 68 k = I 68 k := fun k q1 q2 => a4 68 k (Or.inr q1) (Or.inr q2)
  obtain ⟨I', c1, c2, c3, c4, c5⟩ := s_m_outs d J u (I := I1) (W := W) (t := t) (z := z) ⟨(g 11 (by decide) (by decide)).trans h1, h2, (g 38 (by decide) (by decide)).trans h3, (g 42 (by decide) (by decide)).trans h4, y_sk_keep _ (fun j _ => a4 94 j (Or.inl (by decide)) (Or.inl (by decide))) h5⟩ hl hz
  refine ⟨I', b_m_expression_96 d x1 I J _ ?_, c4.trans a2, c5.trans a3, ⟨t, h2, c2⟩, y_fr.trans (z := z) (fun c k q1 _ _ _ => a4 c k (n_1 q1 68 13 (by decide)) (n_1 q1 68 14 (by decide))) c3 (Nat.le_refl _)⟩
  have is := fun w (hw : I 71 t ≠ w) => show f_m_is_0 d w I J = some (some (.int 0), I, J) by rw [s_m_is d J h1 h2 h0, am_tf_f hw]
  rw [is 7 n7, am_bi_i, if_pos rfl]
  refine b_m_expression_145 d x1 I J _ ?_
  rw [is 8 n8, am_bi_i, if_pos rfl, is 9 n9, am_bi_i, if_pos rfl, is 10 n10, am_bi_i, if_pos rfl, is 15 n15, am_bi_i, if_pos rfl, if_pos (show (0 : Int32) = 0 from rfl), if_neg ho, a1, am_bv_v, c1, am_bv_v]
/-- an E ends here -/
theorem s_m_96_end {P : List Int32} {I : am_I} {t z : Nat} (h0 : I 68 13 = 0) (h : y_st t P z I) (hl : P.length ≤ 64) (hz : z + P.length ≤ u.val) (hP : ∀ a ∈ P, a ≠ 6) {x1 : Int32} (ho : I 68 12 ≤ x1) (n8 : I 71 t ≠ 8) (n9 : I 71 t ≠ 9) (n10 : I 71 t ≠ 10) (n15 : I 71 t ≠ 15) : ∃ I', f_m_expression_96 d x1 I J = some (none, I', J) ∧ y_st t [] (z + P.length) I' ∧ y_cd z (y_em P) I' ∧ y_fr u z I I' ∧ I' 68 13 = I 68 13 ∧ I' 68 14 = I 68 14 ∧ I' 68 12 = I 68 12 := by
  have hh := h
  obtain ⟨h1, h2, h3, h4, h5⟩ := h
  have e : P ++ [] = P := List.append_nil P
  obtain ⟨I', a1, a2⟩ := s_m_out d J u 0 (W := []) (Or.inl rfl) P I t z (fun a ha => ⟨hP a ha, fun q => absurd rfl q⟩) (by rw [e]; exact hh) (by rw [e]; exact hl) hz
  refine ⟨I', b_m_expression_96 d x1 I J _ ?_, a2⟩
  have is := fun w (hw : I 71 t ≠ w) => show f_m_is_0 d w I J = some (some (.int 0), I, J) by rw [s_m_is d J h1 h2 h0, am_tf_f hw]
  have r : f_m_expression_145 d x1 I J = some (none, I', J) := by
    refine b_m_expression_145 d x1 I J _ ?_
    rw [is 8 n8, am_bi_i, if_pos rfl, is 9 n9, am_bi_i, if_pos rfl, is 10 n10, am_bi_i, if_pos rfl, is 15 n15, am_bi_i, if_pos rfl, if_pos (show (0 : Int32) = 0 from rfl), if_pos ho, a1, am_bv_v]
  rw [s_m_is d J h1 h2 h0, am_bi_i, r]
  by_cases q : I 71 t = 7
  · rw [am_tf_t q, if_neg (by decide), if_pos ho]
  · rw [am_tf_f q, if_pos rfl]
end YT

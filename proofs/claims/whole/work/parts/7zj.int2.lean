/-! a number within bounds: the reference's faults -/
section YJ
variable (d : Nat) (J : am_J)
theorem s_m_bnd_f {I : am_I} (h0 : 0 < I 68 13) (lo hi : Int32) : f_m_bounded_0 d lo hi I J = some (some (.int lo), I, J) := by
  refine b_m_bounded_0 d lo hi I J _ ?_
  rw [if_pos h0, s_m_fail2 d J h0, am_bv_v]
theorem s_m_bnd_n {I : am_I} {t : Nat} (h : I 68 11 = nI t) (ht : t ≤ 400) (h0 : I 68 13 = 0) (hK : I 71 t ≠ 2) (lo hi : Int32) : ∃ I', f_m_bounded_0 d lo hi I J = some (some (.int lo), I', J) ∧ I' 68 13 = 1 ∧ I' 68 14 = I 72 t ∧ ∀ c k, (c ≠ 68 ∨ k ≠ 13) → (c ≠ 68 ∨ k ≠ 14) → I' c k = I c k := by
  obtain ⟨I', a1, a2⟩ := s_m_fail1 d J h ht h0 1
  refine ⟨I', b_m_bounded_0 d lo hi I J _ ?_, a2⟩
  rw [if_neg (show ¬ 0 < I 68 13 by rw [h0]; decide), s_m_is d J h ht h0, am_tf_f hK, am_bi_i, if_pos rfl, a1, am_bv_v]
/-- at the last place that a text may have -/
theorem s_m_bnd_l {I : am_I} {t : Nat} (h : I 68 11 = nI t) (ht : t = 400) (h0 : I 68 13 = 0) (hK : I 71 t = 2) (hs : I 68 15 = 0 ∨ I 68 16 < I 72 t) (lo hi : Int32) : ∃ y I', f_m_bounded_0 d lo hi I J = some (some (.int y), I', J) ∧ I' 68 13 = 2 ∧ I' 68 14 = I 72 t ∧ ∀ c k, (c, k) ∉ ([(68, 13), (68, 14), (68, 15), (68, 16)] : List (Nat × Nat)) → I' c k = I c k := by
  have b := b_m_bounded_0 d lo hi I J
  obtain ⟨I1, c1, c2, c3, c4⟩ := s_m_wrong d J (I := I) (t := t) (by omega) h0 5 (hs.imp id Or.inl)
  have h11 : I1 68 11 = nI t := (c4 68 11 (Or.inr (by decide)) (Or.inr (by decide))).trans h
  have h13 : I1 68 13 = 0 := (c4 68 13 (Or.inr (by decide)) (Or.inr (by decide))).trans h0
  obtain ⟨I2, e1, e2, e3, e4⟩ := s_m_goes_n d J h11 ht h13
  obtain ⟨I3, g1, g2, g3, g4⟩ := s_m_goes_n d J h ht h0
  rw [if_neg (show ¬ 0 < I 68 13 by rw [h0]; decide), s_m_is d J h (by omega) h0, am_tf_t hK, am_bi_i, if_neg (show ¬ (1 : Int32) = 0 by decide), h, am_at_n (by omega) (by omega), c1, am_bv_v, e1, am_bv_v, g1, am_bv_v] at b
  by_cases q : x_bad (I 73 t) lo hi
  · refine ⟨I 73 t, I2, b _ ?_, e2, by rw [e3, c4 72 t (Or.inl (by decide)) (Or.inl (by decide))], fun c k hk => (e4 c k (n_1 hk 68 13 (by decide)) (n_1 hk 68 14 (by decide))).trans (c4 c k (n_1 hk 68 15 (by decide)) (n_1 hk 68 16 (by decide)))⟩
    by_cases q1 : I 73 t < lo
    · rw [if_pos q1]
    · rw [if_neg q1, if_neg (Int32.not_le.mpr (q.resolve_left q1))]
  · refine ⟨I 73 t, I3, b _ ?_, g2, g3, fun c k hk => g4 c k (n_1 hk 68 13 (by decide)) (n_1 hk 68 14 (by decide))⟩
    rw [if_neg (fun z => q (Or.inl z)), if_pos (Int32.not_lt.mp (fun z => q (Or.inr z)))]
end YJ

/-! a number within bounds -/
def x_bad (v lo hi : Int32) : Prop := v < lo ∨ hi < v
section YI
variable (d : Nat) (J : am_J)
theorem s_rint_y {I : am_I} {t z : Nat} (h : x_at t z I) (ht : t < 400) (hK : I 8 t = 3) (lo hi : Int32) : ∃ I', f_reader_readInt_0 d lo hi I J = some (some (.int (I 9 t)), I', J) ∧ x_at (t + 1) z I' ∧ ((x_bad (I 9 t) lo hi ∧ I 32 7 = 0 ∧ I' 32 7 = 5 ∧ I' 32 8 = I 10 t) ∨ (¬ (x_bad (I 9 t) lo hi ∧ I 32 7 = 0) ∧ I' 32 7 = I 32 7 ∧ I' 32 8 = I 32 8)) ∧ ∀ c k, (c, k) ∉ ([(32, 3), (32, 4), (32, 7), (32, 8)] : List (Nat × Nat)) → I' c k = I c k := by
  obtain ⟨I1, a1, a2, a3⟩ := s_pass_y d J h ht (w := 3) hK
  have e9 : I1 9 t = I 9 t := a3 9 t (fun q => by simp at q)
  have e10 : I1 10 t = I 10 t := a3 10 t (fun q => by simp at q)
  have e7 : I1 32 7 = I 32 7 := a3 32 7 (by decide)
  have e8 : I1 32 8 = I 32 8 := a3 32 8 (by decide)
  have b := b_reader_readInt_0 d lo hi I J
  obtain ⟨I2, c1, c2, c3, c4⟩ := s_slip d J (I := I1) (t := t) (by omega) 5
  rw [a1, am_bi_i, if_neg (show ¬ (1 : Int32) = 0 by decide), h.1, am_at_n (by omega) (by omega), e9, c1, am_bv_v] at b
  have at2 : x_at (t + 1) z I2 := by
    obtain ⟨x1, x2, x3, x4, x5, x6⟩ := a2
    have g : ∀ k, k ≠ 7 → k ≠ 8 → I2 32 k = I1 32 k := fun k q1 q2 => c4 32 k (Or.inr q1) (Or.inr q2)
    exact ⟨(g 3 (by decide) (by decide)).trans x1, by rw [g 4 (by decide) (by decide), c4 8 _ (Or.inl (by decide)) (Or.inl (by decide))]; exact x2, (g 5 (by decide) (by decide)).trans x3, (c4 26 4 (Or.inl (by decide)) (Or.inl (by decide))).trans x4, x5, x6.1, (g 6 (by decide) (by decide)).trans x6.2⟩
  have f1 : ∀ c k, (c, k) ∉ ([(32, 3), (32, 4), (32, 7), (32, 8)] : List (Nat × Nat)) → I1 c k = I c k := fun c k hk => a3 c k (fun q => hk ((show ∀ q ∈ ([(32, 3), (32, 4)] : List (Nat × Nat)), q ∈ ([(32, 3), (32, 4), (32, 7), (32, 8)] : List (Nat × Nat)) by decide) _ q))
  have f2 : ∀ c k, (c, k) ∉ ([(32, 3), (32, 4), (32, 7), (32, 8)] : List (Nat × Nat)) → I2 c k = I c k := fun c k hk => (c4 c k (n_1 hk 32 7 (by decide)) (n_1 hk 32 8 (by decide))).trans (f1 c k hk)
  rw [e7] at c2 c3
  by_cases q : x_bad (I 9 t) lo hi
  · refine ⟨I2, b _ ?_, at2, ?_, f2⟩
    · by_cases q1 : I 9 t < lo
      · rw [if_pos q1]
      · rw [if_neg q1, if_neg (Int32.not_le.mpr (q.resolve_left q1))]
    · by_cases q7 : I 32 7 = 0
      · rw [if_pos q7] at c2 c3
        exact Or.inl ⟨q, q7, c2, c3.trans e10⟩
      · rw [if_neg q7] at c2 c3
        exact Or.inr ⟨fun z => q7 z.2, c2, c3.trans e8⟩
  · refine ⟨I1, b _ ?_, a2, Or.inr ⟨fun z => q z.1, e7, e8⟩, f1⟩
    rw [if_neg (fun z => q (Or.inl z)), if_pos (Int32.not_lt.mp (fun z => q (Or.inr z)))]
theorem s_rint_n {I : am_I} {t z : Nat} (h : x_at t z I) (hK : I 8 t ≠ 3 ∨ t = 400) (lo hi : Int32) : ∃ I', f_reader_readInt_0 d lo hi I J = some (some (.int lo), I', J) ∧ x_ft (if I 8 t = 3 then 2 else 1) t z I I' ∧ (∀ c k, (c, k) ∉ ([(32, 5), (32, 6)] : List (Nat × Nat)) → I' c k = I c k) := by
  obtain ⟨I1, a1, a2, a3⟩ := s_pass_n d J h hK
  refine ⟨I1, b_reader_readInt_0 d lo hi I J _ ?_, a2, a3⟩
  rw [a1, am_bi_i, if_pos rfl]
theorem s_rint_f {I : am_I} (h : I 32 5 ≠ 0) (lo hi : Int32) : f_reader_readInt_0 d lo hi I J = some (some (.int lo), I, J) := by
  refine b_reader_readInt_0 d lo hi I J _ ?_
  rw [s_pass_f d J h, am_bi_i, if_pos rfl]
/-- the reference's -/
theorem s_m_bnd_y {I : am_I} {t : Nat} (h : I 68 11 = nI t) (ht : t < 400) (h0 : I 68 13 = 0) (hK : I 71 t = 2) (hs : I 68 15 = 0 ∨ I 68 16 < I 72 t) (lo hi : Int32) : ∃ I', f_m_bounded_0 d lo hi I J = some (some (.int (I 73 t)), I', J) ∧ I' 68 11 = nI (t + 1) ∧ ((x_bad (I 73 t) lo hi ∧ I 68 15 = 0 ∧ I' 68 15 = 5 ∧ I' 68 16 = I 72 t) ∨ (¬ (x_bad (I 73 t) lo hi ∧ I 68 15 = 0) ∧ I' 68 15 = I 68 15 ∧ I' 68 16 = I 68 16)) ∧ ∀ c k, (c, k) ∉ ([(68, 11), (68, 15), (68, 16)] : List (Nat × Nat)) → I' c k = I c k := by
  have b := b_m_bounded_0 d lo hi I J
  obtain ⟨I1, c1, c2, c3, c4⟩ := s_m_wrong d J (I := I) (t := t) (by omega) h0 5 (hs.imp id Or.inl)
  have h11 : I1 68 11 = nI t := (c4 68 11 (Or.inr (by decide)) (Or.inr (by decide))).trans h
  rw [if_neg (show ¬ 0 < I 68 13 by rw [h0]; decide), s_m_is d J h (by omega) h0, am_tf_t hK, am_bi_i, if_neg (show ¬ (1 : Int32) = 0 by decide), h, am_at_n (by omega) (by omega), c1, am_bv_v, s_m_goes_y d J h11 ht, am_bv_v, s_m_goes_y d J h ht, am_bv_v] at b
  have u : ∀ (I : am_I) c k, (c, k) ∉ ([(68, 11), (68, 15), (68, 16)] : List (Nat × Nat)) → am_upd I 68 11 (nI (t + 1)) c k = I c k := fun I c k hk => (n_1 hk 68 11 (by decide)).elim am_uc am_uk
  by_cases q : x_bad (I 73 t) lo hi
  · refine ⟨_, b _ ?_, am_ue, ?_, fun c k hk => (u I1 c k hk).trans (c4 c k (n_1 hk 68 15 (by decide)) (n_1 hk 68 16 (by decide)))⟩
    · by_cases q1 : I 73 t < lo
      · rw [if_pos q1]
      · rw [if_neg q1, if_neg (Int32.not_le.mpr (q.resolve_left q1))]
    · rw [am_uk (show 15 ≠ 11 by decide), am_uk (show 16 ≠ 11 by decide)]
      by_cases q7 : I 68 15 = 0
      · rw [if_pos q7] at c2 c3
        exact Or.inl ⟨q, q7, c2, c3⟩
      · rw [if_neg q7] at c2 c3
        exact Or.inr ⟨fun z => q7 z.2, c2, c3⟩
  · refine ⟨_, b _ ?_, am_ue, Or.inr ⟨fun z => q z.1, am_uk (by decide), am_uk (by decide)⟩, fun c k hk => u I c k hk⟩
    rw [if_neg (fun z => q (Or.inl z)), if_pos (Int32.not_lt.mp (fun z => q (Or.inr z)))]
end YI

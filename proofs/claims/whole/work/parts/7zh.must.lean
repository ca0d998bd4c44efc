/-! the reference's must, wrong; the class's slips -/
section YM
variable (d : Nat) (J : am_J)
theorem s_m_must_y {I : am_I} {t : Nat} (h : I 68 11 = nI t) (ht : t < 400) (h0 : I 68 13 = 0) {w : Int32} (hw : I 71 t = w) : f_m_must_0 d w I J = some (none, am_upd I 68 11 (nI (t + 1)), J) := by
  refine b_m_must_0 d w I J _ ?_
  rw [s_m_is d J h (by omega) h0, am_tf_t hw, am_bi_i, if_neg (by decide), s_m_goes_y d J h ht, am_bv_v]
theorem s_m_must_n {I : am_I} {t : Nat} (h : I 68 11 = nI t) (ht : t ≤ 400) (h0 : I 68 13 = 0) {w : Int32} (hw : I 71 t ≠ w ∨ t = 400) : ∃ I', f_m_must_0 d w I J = some (none, I', J) ∧ I' 68 13 = (if I 71 t = w then 2 else 1) ∧ I' 68 14 = I 72 t ∧ ∀ c k, (c ≠ 68 ∨ k ≠ 13) → (c ≠ 68 ∨ k ≠ 14) → I' c k = I c k := by
  have b := b_m_must_0 d w I J
  rw [s_m_is d J h ht h0, am_bi_i] at b
  by_cases q : I 71 t = w
  · obtain ⟨I', a1, a2, a3⟩ := s_m_goes_n d J h (hw.resolve_left (fun z => z q)) h0
    rw [am_tf_t q, if_neg (by decide), a1, am_bv_v] at b
    exact ⟨I', b _ rfl, by rw [if_pos q]; exact a2, a3⟩
  · obtain ⟨I', a1, a2, a3⟩ := s_m_fail1 d J h ht h0 1
    rw [am_tf_f q, if_pos rfl, a1, am_bv_v] at b
    exact ⟨I', b _ rfl, by rw [if_neg q]; exact a2, a3⟩
theorem s_m_must_f {I : am_I} (h0 : 0 < I 68 13) (w : Int32) : f_m_must_0 d w I J = some (none, I, J) := by
  have hne : ¬ I 68 13 = 0 := fun q => by rw [q] at h0; exact absurd h0 (by decide)
  refine b_m_must_0 d w I J _ ?_
  rw [s_m_is_f d J hne, am_bi_i, if_pos rfl, s_m_fail2 d J h0, am_bv_v]
/-- a slip is noted, the first stays -/
theorem s_m_wrong {I : am_I} {t : Nat} (ht : t ≤ 402) (h0 : I 68 13 = 0) (f : Int32) (hs : I 68 15 = 0 ∨ I 68 16 < I 72 t ∨ (I 68 16 = I 72 t ∧ ¬ f < I 68 15)) : ∃ I', f_m_wrong_0 d f (nI t) I J = some (none, I', J) ∧ I' 68 15 = (if I 68 15 = 0 then f else I 68 15) ∧ I' 68 16 = (if I 68 15 = 0 then I 72 t else I 68 16) ∧ ∀ c k, (c ≠ 68 ∨ k ≠ 15) → (c ≠ 68 ∨ k ≠ 16) → I' c k = I c k := by
  have b := b_m_wrong_0 d f (nI t) I J
  rw [am_at_n (by omega) (by omega), h0, if_neg (show ¬ (0 : Int32) < 0 by decide)] at b
  by_cases q : I 68 15 = 0
  · rw [if_pos q] at b
    exact ⟨_, b _ rfl, by rw [am_uk (by decide), am_ue, if_pos q], by rw [am_ue, if_pos q], fun c k z1 z2 => i_upd2 c k z1 z2⟩
  · rw [if_neg q] at b
    refine ⟨I, b _ ?_, by rw [if_neg q], by rw [if_neg q], fun _ _ _ _ => rfl⟩
    rcases hs with hs | hs | ⟨hs, hf⟩
    · exact absurd hs q
    · rw [if_pos hs]
    · rw [if_neg (show ¬ I 68 16 < I 72 t from fun z => absurd hs (Int32.ne_of_lt z)), if_pos hs.symm, if_neg hf]
theorem s_slip {I : am_I} {t : Nat} (ht : t ≤ 401) (f : Int32) : ∃ I', f_reader_noteSlip_0 d f (nI t) I J = some (none, I', J) ∧ I' 32 7 = (if I 32 7 = 0 then f else I 32 7) ∧ I' 32 8 = (if I 32 7 = 0 then I 10 t else I 32 8) ∧ ∀ c k, (c ≠ 32 ∨ k ≠ 7) → (c ≠ 32 ∨ k ≠ 8) → I' c k = I c k := by
  have b := b_reader_noteSlip_0 d f (nI t) I J
  rw [am_at_n (by omega) (by omega), am_uc (show 10 ≠ 32 by decide)] at b
  by_cases q : I 32 7 = 0
  · rw [if_pos q] at b
    exact ⟨_, b _ rfl, by rw [am_uk (by decide), am_ue, if_pos q], by rw [am_ue, if_pos q], fun c k z1 z2 => i_upd2 c k z1 z2⟩
  · rw [if_neg q] at b
    exact ⟨I, b _ rfl, by rw [if_neg q], by rw [if_neg q], fun _ _ _ _ => rfl⟩
end YM

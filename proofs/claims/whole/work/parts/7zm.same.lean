/-! the same name, the same key -/
theorem x_kd_2 {W B : Nat → Int32} {s e : Nat} (h : x_kd W B s e = 2) : x_lt (B s) = true ∧ e - s ≤ 8 := by
  unfold x_kd at h
  by_cases h1 : x_dg (B s) = true
  · rw [if_pos h1] at h
    by_cases h2 : e - s ≤ 4
    · rw [if_pos h2] at h; exact absurd h (by decide)
    · rw [if_neg h2] at h; exact absurd h (by decide)
  rw [if_neg h1] at h
  by_cases h2 : x_lt (B s) = true
  · rw [if_pos h2] at h
    by_cases h3 : e - s ≤ 8
    · exact ⟨h2, h3⟩
    · rw [if_neg h3] at h; exact absurd h (by decide)
  rw [if_neg h2] at h
  by_cases h3 : x_sg (B s) = true
  · rw [if_pos h3] at h
    rw [h] at h3
    exact absurd h3 (by decide)
  · rw [if_neg h3] at h; exact absurd h (by decide)
theorem x_keys {W B : Nat → Int32} {n i j : Nat} {I : am_I} {J : am_J} (hi : x_pos B n i < n) (hj : x_pos B n j < n) (mi : x_ml W B n I J i) (mj : x_ml W B n I J j) (ki : x_kd W B (x_pos B n i) (x_end B n (x_pos B n i)) = 2) (kj : x_kd W B (x_pos B n j) (x_end B n (x_pos B n j)) = 2) : J 74 i = J 74 j ↔ x_same B n i j := by
  obtain ⟨li, ei⟩ := x_kd_2 ki
  obtain ⟨lj, ej⟩ := x_kd_2 kj
  rw [mi.2.2.2 li, mj.2.2.2 lj, Nat.min_eq_left ei, Nat.min_eq_left ej]
  have ri := (x_end_lt hi li).1
  have rj := (x_end_lt hj lj).1
  have hi2 : ∀ k, k < x_end B n (x_pos B n i) - x_pos B n i → x_lt (B (x_pos B n i + k)) = true := fun k hk => ri _ (by omega) (by omega)
  have hj2 : ∀ k, k < x_end B n (x_pos B n j) - x_pos B n j → x_lt (B (x_pos B n j + k)) = true := fun k hk => rj _ (by omega) (by omega)
  rw [pk_lEQ (x_27 (x_key_lt _ hi2) ei) (x_27 (x_key_lt _ hj2) ej)]
  constructor
  · exact fun h => x_key_inj _ _ hi2 hj2 h
  · intro ⟨h1, h2⟩
    rw [← h1]
    exact x_key_same _ h2

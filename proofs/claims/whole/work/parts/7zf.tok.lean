/-! the things of both are the same -/
theorem x_wd_in {W B : Nat → Int32} {s e : Nat} : ∀ k w, w + k = 17 → x_wd W B s e k w = 2 ∨ ∃ v, v < 17 ∧ x_wd W B s e k w = 128 + nI v := by
  intro k
  induction k with
  | zero => intro w _; exact Or.inl rfl
  | succ k ih =>
    intro w hw
    unfold x_wd
    by_cases h : x_isw W B s e w
    · rw [if_pos h]; exact Or.inr ⟨w, by omega, rfl⟩
    · rw [if_neg h]; exact ih (w + 1) (by omega)
theorem x_w_ks : ∀ v, v < 17 → (128 + nI v : Int32) ∈ x_ks ∧ (128 + nI v : Int32) ≠ 3 := by decide +kernel
theorem x_kd_ks (W B : Nat → Int32) (s e : Nat) : x_kd W B s e ∈ x_ks ∧ (x_kd W B s e = 3 → x_dg (B s) = true ∧ e - s ≤ 4) := by
  unfold x_kd
  by_cases h1 : x_dg (B s) = true
  · rw [if_pos h1]
    by_cases h2 : e - s ≤ 4
    · rw [if_pos h2]; exact ⟨by decide, fun _ => ⟨h1, h2⟩⟩
    · rw [if_neg h2]; exact ⟨by decide, fun q => absurd q (by decide)⟩
  rw [if_neg h1]
  by_cases h2 : x_lt (B s) = true
  · rw [if_pos h2]
    by_cases h3 : e - s ≤ 8
    · rw [if_pos h3]
      rcases x_wd_in (W := W) (B := B) (s := s) (e := e) 17 0 rfl with q | ⟨v, hv, q⟩
      · rw [q]; exact ⟨by decide, fun q => absurd q (by decide)⟩
      · rw [q]; exact ⟨(x_w_ks v hv).1, fun q => absurd q (x_w_ks v hv).2⟩
    · rw [if_neg h3]; exact ⟨by decide, fun q => absurd q (by decide)⟩
  rw [if_neg h2]
  by_cases h3 : x_sg (B s) = true
  · rw [if_pos h3]
    rcases x_sg_all h3 with w | w | w | w | w | w | w | w | w <;> (rw [w]; exact ⟨by decide, fun q => absurd q (by decide)⟩)
  · rw [if_neg h3]; exact ⟨by decide, fun q => absurd q (by decide)⟩
/-- the class's things after its scan, the reference's after its cut -/
theorem y_tk_of {W B : Nat → Int32} {n N : Nat} {Ic Ir : am_I} {J : am_J} (hN : N ≤ 401) (hc : ∀ j, j < N → x_cl W B n Ic j) (h0 : Ic 8 N = 0) (hm : ∀ j, j < N → x_ml W B n Ir J j) (hm0 : N ≤ 400 → Ir 71 N = 0 ∧ Ir 72 N = nI n) : y_tk (Ic 8) (Ic 9) Ir := by
  intro t ht hr
  have tN : t ≤ N := by
    by_cases q : N < t
    · exact absurd h0 (hr N q)
    · omega
  by_cases q : t = N
  · subst q
    rw [h0, (hm0 ht).1]
    exact ⟨by decide, by decide, fun q => absurd q (by decide)⟩
  · obtain ⟨c1, c2, c3, c4⟩ := hc t (by omega)
    obtain ⟨m1, m2, m3, m4⟩ := hm t (by omega)
    obtain ⟨k1, k2⟩ := x_kd_ks W B (x_pos B n t) (x_end B n (x_pos B n t))
    refine ⟨by rw [c3]; exact k1, by rw [m1, c3], fun h3 => ?_⟩
    obtain ⟨d1, d2⟩ := k2 (by rw [← c3]; exact h3)
    rw [m3 d1, c4 h3, Nat.min_eq_left d2]
/-- the place of a thing is the same for both -/
theorem y_pl_of {W B : Nat → Int32} {n N : Nat} {Ic Ir : am_I} {J : am_J} (hc : ∀ j, j < N → x_cl W B n Ic j) (h10 : Ic 10 N = nI n) (h0 : Ic 8 N = 0) (hm : ∀ j, j < N → x_ml W B n Ir J j) (hm0 : N ≤ 400 → Ir 71 N = 0 ∧ Ir 72 N = nI n) : ∀ t, t ≤ 400 → x_rc (Ic 8) t → Ir 72 t = Ic 10 t := by
  intro t ht hr
  have tN : t ≤ N := by
    by_cases q : N < t
    · exact absurd h0 (hr N q)
    · omega
  by_cases q : t = N
  · subst q
    rw [(hm0 ht).2, h10]
  · rw [(hc t (by omega)).1, (hm t (by omega)).2.1]

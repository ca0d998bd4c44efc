/-! `w NUMBER ;`, the reference's -/
section YO
variable (d : Nat) (J : am_J)
theorem x_num_y {K V : Nat → Int32} {w lo hi v : Int32} {t t' : Nat} (hx : x_num K V w lo hi t = .inr (v, t')) : K t = w ∧ K (t + 1) = 3 ∧ K (t + 2) = 59 ∧ t + 2 < 400 ∧ v = V (t + 1) ∧ t' = t + 3 := by
  unfold x_num at hx
  by_cases q1 : K t ≠ w
  · rw [if_pos q1] at hx; exact absurd hx (by simp)
  rw [if_neg q1] at hx
  by_cases q2 : 400 ≤ t
  · rw [if_pos q2] at hx; exact absurd hx (by simp)
  rw [if_neg q2] at hx
  by_cases q3 : K (t + 1) ≠ 3
  · rw [if_pos q3] at hx; exact absurd hx (by simp)
  rw [if_neg q3] at hx
  by_cases q4 : 400 ≤ t + 1
  · rw [if_pos q4] at hx; exact absurd hx (by simp)
  rw [if_neg q4] at hx
  by_cases q5 : K (t + 2) ≠ 59
  · rw [if_pos q5] at hx; exact absurd hx (by simp)
  rw [if_neg q5] at hx
  by_cases q6 : 400 ≤ t + 2
  · rw [if_pos q6] at hx; exact absurd hx (by simp)
  rw [if_neg q6] at hx
  have e := Sum.inr.inj hx
  have ev : V (t + 1) = v := congrArg Prod.fst e
  have et : t + 3 = t' := congrArg Prod.snd e
  exact ⟨Decidable.not_not.mp q1, Decidable.not_not.mp q3, Decidable.not_not.mp q5, by omega, ev.symm, et.symm⟩
theorem s_m_number_y {K V : Nat → Int32} {I : am_I} {w lo hi v : Int32} {t t' : Nat} (hk : y_tk K V I) (hrc : x_rc K t) (hw : w ≠ 0) (h : I 68 11 = nI t) (h0 : I 68 13 = 0) (hs : I 68 15 = 0 ∨ I 68 16 < I 72 (t + 1)) (hx : x_num K V w lo hi t = .inr (v, t')) : ∃ I1 I2, f_m_goesOn_0 d I J = some (none, I1, J) ∧ f_m_bounded_0 d lo hi I1 J = some (some (.int v), I2, J) ∧ I1 68 19 = I 68 19 ∧ I2 68 11 = nI (t + 2) ∧ I2 68 13 = 0 ∧ I2 71 (t + 2) = 4 ∧ t + 2 < 400 ∧ t' = t + 3 ∧ x_slp (x_bad v lo hi) 5 (I 72 (t + 1)) (I 68 15) (I2 68 15) (I 68 16) (I2 68 16) ∧ ∀ c k, (c, k) ∉ ([(68, 11), (68, 15), (68, 16)] : List (Nat × Nat)) → I2 c k = I c k := by
  obtain ⟨x1, x2, x3, x4, x5, x6⟩ := x_num_y hx
  have r1 := hrc.s x1 hw
  have r2 := r1.s x2 (by decide)
  obtain ⟨_, t1, t2⟩ := hk (t + 1) (by omega) r1
  obtain ⟨_, u1, _⟩ := hk (t + 2) (by omega) r2
  obtain ⟨I1, e1⟩ : ∃ I1, I1 = am_upd I 68 11 (nI (t + 1)) := ⟨_, rfl⟩
  have g := s_m_goes_y d J h (show t < 400 by omega)
  rw [← e1] at g
  have k1 : ∀ c k, (c ≠ 68 ∨ k ≠ 11) → I1 c k = I c k := fun c k q => by
    rw [e1]
    exact q.elim am_uc am_uk
  obtain ⟨I2, b1, b2, b3, b4⟩ := s_m_bnd_y d J (I := I1) (t := t + 1) (by rw [e1, am_ue]) (by omega) ((k1 68 13 (Or.inr (by decide))).trans h0) (by rw [k1 71 _ (Or.inl (by decide)), t1, x2]; decide) (by rw [k1 68 15 (Or.inr (by decide)), k1 68 16 (Or.inr (by decide)), k1 72 _ (Or.inl (by decide))]; exact hs) lo hi
  have ev : I1 73 (t + 1) = v := by rw [k1 73 _ (Or.inl (by decide)), t2 x2, x5]
  rw [ev] at b1 b3
  rw [k1 68 15 (Or.inr (by decide)), k1 68 16 (Or.inr (by decide)), k1 72 _ (Or.inl (by decide))] at b3
  have f2 : ∀ c k, (c, k) ∉ ([(68, 11), (68, 15), (68, 16)] : List (Nat × Nat)) → I2 c k = I c k := fun c k hk => (b4 c k hk).trans (k1 c k (n_1 hk 68 11 (by decide)))
  refine ⟨I1, I2, g, b1, k1 68 19 (Or.inr (by decide)), b2, (f2 68 13 (by decide)).trans h0, ?_, x4, x6, b3, f2⟩
  rw [f2 71 _ (fun q => by simp at q), u1, x3]
  decide
end YO

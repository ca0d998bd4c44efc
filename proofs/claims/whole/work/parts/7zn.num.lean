/-! `w NUMBER ;`, pure -/
/-- the number's value and whether it lies without, and the next thing -/
def x_num (K V : Nat → Int32) (w lo hi : Int32) (t : Nat) : Sum (Int32 × Nat) (Int32 × Nat) :=
  if K t ≠ w then .inl (1, t) else if 400 ≤ t then .inl (2, t)
  else if K (t + 1) ≠ 3 then .inl (1, t + 1) else if 400 ≤ t + 1 then .inl (2, t + 1)
  else if K (t + 2) ≠ 59 then .inl (1, t + 2) else if 400 ≤ t + 2 then .inl (2, t + 2)
  else .inr (V (t + 1), t + 3)
/-- a slip noted, if there is none and b -/
def x_slp (b : Prop) (f pl : Int32) (s s' pl0 pl' : Int32) : Prop := (b ∧ s = 0 ∧ s' = f ∧ pl' = pl) ∨ (¬ (b ∧ s = 0) ∧ s' = s ∧ pl' = pl0)
section YN
variable (d : Nat) (J : am_J)
theorem s_number_y {I : am_I} {t z : Nat} {w lo hi v : Int32} {t' : Nat} (h : x_at t z I) (hx : x_num (I 8) (I 9) w lo hi t = .inr (v, t')) : ∃ I', f_reader_readNumber_0 d w lo hi I J = some (some (.int v), I', J) ∧ x_at t' z I' ∧ x_slp (x_bad v lo hi) 5 (I 10 (t + 1)) (I 32 7) (I' 32 7) (I 32 8) (I' 32 8) ∧ ∀ c k, (c, k) ∉ ([(32, 3), (32, 4), (32, 7), (32, 8)] : List (Nat × Nat)) → I' c k = I c k := by
  unfold x_num at hx
  by_cases q1 : I 8 t ≠ w
  · rw [if_pos q1] at hx; exact absurd hx (by simp)
  rw [if_neg q1] at hx
  by_cases q2 : 400 ≤ t
  · rw [if_pos q2] at hx; exact absurd hx (by simp)
  rw [if_neg q2] at hx
  by_cases q3 : I 8 (t + 1) ≠ 3
  · rw [if_pos q3] at hx; exact absurd hx (by simp)
  rw [if_neg q3] at hx
  by_cases q4 : 400 ≤ t + 1
  · rw [if_pos q4] at hx; exact absurd hx (by simp)
  rw [if_neg q4] at hx
  by_cases q5 : I 8 (t + 2) ≠ 59
  · rw [if_pos q5] at hx; exact absurd hx (by simp)
  rw [if_neg q5] at hx
  by_cases q6 : 400 ≤ t + 2
  · rw [if_pos q6] at hx; exact absurd hx (by simp)
  rw [if_neg q6] at hx
  have e := Sum.inr.inj hx
  have ev : I 9 (t + 1) = v := congrArg Prod.fst e
  have et : t + 3 = t' := congrArg Prod.snd e
  subst et
  obtain ⟨I1, a1, a2, a3⟩ := s_pass_y d J h (by omega) (w := w) (Decidable.not_not.mp q1)
  have k8 : I1 8 = I 8 := funext fun k => a3 8 k (fun q => by simp at q)
  have k9 : I1 9 = I 9 := funext fun k => a3 9 k (fun q => by simp at q)
  have k10 : I1 10 = I 10 := funext fun k => a3 10 k (fun q => by simp at q)
  obtain ⟨I2, b1, b2, b3, b4⟩ := s_rint_y d J a2 (by omega) (by rw [k8]; exact Decidable.not_not.mp q3) lo hi
  have k82 : I2 8 = I 8 := (funext fun k => b4 8 k (fun q => by simp at q)).trans k8
  obtain ⟨I3, c1, c2, c3⟩ := s_pass_y d J b2 (by omega) (w := 59) (by rw [k82]; exact Decidable.not_not.mp q5)
  rw [k9, ev] at b1 b3
  rw [k10, a3 32 7 (by decide), a3 32 8 (by decide)] at b3
  refine ⟨I3, b_reader_readNumber_0 d w lo hi I J _ ?_, c2, ?_, fun c k hk => (c3 c k (fun q => hk ((show ∀ q ∈ ([(32, 3), (32, 4)] : List (Nat × Nat)), q ∈ ([(32, 3), (32, 4), (32, 7), (32, 8)] : List (Nat × Nat)) by decide) _ q))).trans ((b4 c k hk).trans (a3 c k (fun q => hk ((show ∀ q ∈ ([(32, 3), (32, 4)] : List (Nat × Nat)), q ∈ ([(32, 3), (32, 4), (32, 7), (32, 8)] : List (Nat × Nat)) by decide) _ q))))⟩
  · rw [a1, am_bi_i, b1, am_bi_i, c1, am_bi_i]
  · rw [c3 32 7 (by decide), c3 32 8 (by decide)]
    exact b3
end YN

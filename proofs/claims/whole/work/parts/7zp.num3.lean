/-! `w NUMBER ;`: the class's faults -/
def x_n6 : List (Nat × Nat) := [(32, 3), (32, 4), (32, 5), (32, 6), (32, 7), (32, 8)]
section YP
variable (d : Nat) (J : am_J)
theorem s_number_f {I : am_I} (h : I 32 5 ≠ 0) (w lo hi : Int32) : f_reader_readNumber_0 d w lo hi I J = some (some (.int lo), I, J) := by
  refine b_reader_readNumber_0 d w lo hi I J _ ?_
  rw [s_pass_f d J h, am_bi_i, s_rint_f d J h, am_bi_i, s_pass_f d J h, am_bi_i]
theorem s_number_n {I : am_I} {t z a : Nat} {w lo hi f : Int32} (h : x_at t z I) (hx : x_num (I 8) (I 9) w lo hi t = .inl (f, a)) : ∃ y I', f_reader_readNumber_0 d w lo hi I J = some (some (.int y), I', J) ∧ f ≠ 0 ∧ x_ft f a z I I' ∧ ∀ c k, (c, k) ∉ x_n6 → I' c k = I c k := by
  have sub : ∀ L : List (Nat × Nat), (∀ q ∈ L, q ∈ x_n6) → ∀ c k, (c, k) ∉ x_n6 → (c, k) ∉ L := fun L hL c k hk q => hk (hL _ q)
  have b := b_reader_readNumber_0 d w lo hi I J
  by_cases p1 : I 8 t = w ∧ t < 400
  · obtain ⟨I1, a1, a2, a3⟩ := s_pass_y d J h p1.2 (w := w) p1.1
    have k8 : I1 8 = I 8 := funext fun k => a3 8 k (fun q => by simp at q)
    have k10 : I1 10 = I 10 := funext fun k => a3 10 k (fun q => by simp at q)
    rw [a1, am_bi_i] at b
    by_cases p2 : I 8 (t + 1) = 3 ∧ t + 1 < 400
    · obtain ⟨I2, b1, b2, b3, b4⟩ := s_rint_y d J a2 p2.2 (by rw [k8]; exact p2.1) lo hi
      have k82 : I2 8 = I 8 := (funext fun k => b4 8 k (fun q => by simp at q)).trans k8
      have k102 : I2 10 = I 10 := (funext fun k => b4 10 k (fun q => by simp at q)).trans k10
      rw [b1, am_bi_i] at b
      by_cases p3 : I 8 (t + 2) = 59 ∧ t + 2 < 400
      · exfalso
        unfold x_num at hx
        rw [if_neg (fun q => q p1.1), if_neg (by omega), if_neg (fun q => q p2.1), if_neg (by omega), if_neg (fun q => q p3.1), if_neg (by omega)] at hx
        exact absurd hx (by simp)
      · obtain ⟨I3, c1, c2, c3⟩ := s_pass_n d J b2 (w := 59) (by
          rw [k82]
          have := b2.2.2.2.2.1
          by_cases v : I 8 (t + 2) = 59
          · exact Or.inr (by have : ¬ t + 2 < 400 := fun z => p3 ⟨v, z⟩
                             omega)
          · exact Or.inl v)
        rw [c1, am_bi_i] at b
        have e : x_num (I 8) (I 9) w lo hi t = .inl (if I 8 (t + 2) = 59 then 2 else 1, t + 2) := by
          unfold x_num
          rw [if_neg (fun q => q p1.1), if_neg (by omega), if_neg (fun q => q p2.1), if_neg (by omega)]
          by_cases v : I 8 (t + 2) = 59
          · rw [if_neg (fun q => q v), if_pos (by have : ¬ t + 2 < 400 := fun z => p3 ⟨v, z⟩
                                                  omega), if_pos v]
          · rw [if_pos v, if_neg v]
        rw [e] at hx
        have e2 := Sum.inl.inj hx
        have ef : (if I 8 (t + 2) = 59 then (2 : Int32) else 1) = f := congrArg Prod.fst e2
        have ea : t + 2 = a := congrArg Prod.snd e2
        rw [k82, ef] at c2
        subst ea
        refine ⟨_, I3, b _ rfl, ?_, ⟨c2.1, by rw [c2.2.1, k102], c2.2.2⟩, fun c k hk => (c3 c k (sub _ (by decide) c k hk)).trans ((b4 c k (sub _ (by decide) c k hk)).trans (a3 c k (sub _ (by decide) c k hk)))⟩
        rw [← ef]
        by_cases v : I 8 (t + 2) = 59
        · rw [if_pos v]; decide
        · rw [if_neg v]; decide
    · obtain ⟨I2, b1, b2, b3⟩ := s_rint_n d J a2 (by
        rw [k8]
        have := a2.2.2.2.2.1
        by_cases v : I 8 (t + 1) = 3
        · exact Or.inr (by have : ¬ t + 1 < 400 := fun z => p2 ⟨v, z⟩
                           omega)
        · exact Or.inl v) lo hi
      have e : x_num (I 8) (I 9) w lo hi t = .inl (if I 8 (t + 1) = 3 then 2 else 1, t + 1) := by
        unfold x_num
        rw [if_neg (fun q => q p1.1), if_neg (by omega)]
        by_cases v : I 8 (t + 1) = 3
        · rw [if_neg (fun q => q v), if_pos (by have : ¬ t + 1 < 400 := fun z => p2 ⟨v, z⟩
                                                omega), if_pos v]
        · rw [if_pos v, if_neg v]
      rw [e] at hx
      have e2 := Sum.inl.inj hx
      have ef : (if I 8 (t + 1) = 3 then (2 : Int32) else 1) = f := congrArg Prod.fst e2
      have ea : t + 1 = a := congrArg Prod.snd e2
      rw [k8, ef] at b2
      subst ea
      have fn : f ≠ 0 := by
        rw [← ef]
        by_cases v : I 8 (t + 1) = 3
        · rw [if_pos v]; decide
        · rw [if_neg v]; decide
      rw [b1, am_bi_i, s_pass_f d J (by rw [b2.1]; exact fn), am_bi_i] at b
      exact ⟨_, I2, b _ rfl, fn, ⟨b2.1, by rw [b2.2.1, k10], b2.2.2⟩, fun c k hk => (b3 c k (sub _ (by decide) c k hk)).trans (a3 c k (sub _ (by decide) c k hk))⟩
  · obtain ⟨I1, a1, a2, a3⟩ := s_pass_n d J h (w := w) (by
      have := h.2.2.2.2.1
      by_cases v : I 8 t = w
      · exact Or.inr (by have : ¬ t < 400 := fun z => p1 ⟨v, z⟩
                         omega)
      · exact Or.inl v)
    have e : x_num (I 8) (I 9) w lo hi t = .inl (if I 8 t = w then 2 else 1, t) := by
      unfold x_num
      by_cases v : I 8 t = w
      · rw [if_neg (fun q => q v), if_pos (by have : ¬ t < 400 := fun z => p1 ⟨v, z⟩
                                              omega), if_pos v]
      · rw [if_pos v, if_neg v]
    rw [e] at hx
    have e2 := Sum.inl.inj hx
    have ef : (if I 8 t = w then (2 : Int32) else 1) = f := congrArg Prod.fst e2
    have ea : t = a := congrArg Prod.snd e2
    rw [ef] at a2
    subst ea
    have fn : f ≠ 0 := by
      rw [← ef]
      by_cases v : I 8 t = w
      · rw [if_pos v]; decide
      · rw [if_neg v]; decide
    have dd : I1 32 5 ≠ 0 := by rw [a2.1]; exact fn
    rw [a1, am_bi_i, s_rint_f d J dd, am_bi_i, s_pass_f d J dd, am_bi_i] at b
    exact ⟨_, I1, b _ rfl, fn, a2, fun c k hk => a3 c k (sub _ (by decide) c k hk)⟩
end YP

/-! expressions: a pure parser by descent; the class's -/
abbrev x_Cd : Type := List (Int32 × Int32)
abbrev x_Re : Type := Sum (Int32 × Nat) (x_Cd × Nat)
/-- on behind the thing t if it is a w -/
def x_go (K : Nat → Int32) (w : Int32) (t : Nat) (c : x_Cd) : x_Re := if K t = w then (if 400 ≤ t then .inl (2, t) else .inr (c, t + 1)) else .inl (1, t)
def x_unit (K V : Nat → Int32) (b : Bool) (S : Nat → x_Re) (t : Nat) : x_Re :=
  if K t = 3 then x_go K 3 t [(0, V t)]
  else if 139 ≤ K t ∧ K t ≤ 144 then x_go K (K t) t [(1, K t - 139)]
  else if K t = 40 then (if b then .inl (2, t) else if 400 ≤ t then .inl (2, t) else match S (t + 1) with
    | .inl f => .inl f
    | .inr (c, t') => x_go K 41 t' c)
  else .inl (1, t)
def x_tail (K : Nat → Int32) (w1 w2 o1 o2 : Int32) (U : Nat → x_Re) : Nat → x_Cd → Nat → x_Re
  | 0, c, t => .inr (c, t)
  | n + 1, c, t => if K t = w1 ∨ K t = w2 then (if 400 ≤ t then .inl (2, t) else match U (t + 1) with
    | .inl f => .inl f
    | .inr (c', t') => x_tail K w1 w2 o1 o2 U n (c ++ c' ++ [(if K t = w1 then o1 else o2, 0)]) t') else .inr (c, t)
def x_lv (K : Nat → Int32) (w1 w2 o1 o2 : Int32) (U : Nat → x_Re) (t : Nat) : x_Re := match U t with
  | .inl f => .inl f
  | .inr (c, t') => x_tail K w1 w2 o1 o2 U 400 c t'
/-- an E with k more ( allowed in it -/
def x_E (K V : Nat → Int32) : Nat → Nat → x_Re
  | 0 => x_lv K 43 45 2 3 (x_lv K 42 47 4 5 (x_unit K V true (fun t => .inl (2, t))))
  | k + 1 => x_lv K 43 45 2 3 (x_lv K 42 47 4 5 (x_unit K V false (x_E K V k)))
/-- the class reads: at the thing t, no fault, z steps written -/
def x_at (t z : Nat) (I : am_I) : Prop := I 32 3 = nI t ∧ I 32 4 = I 8 t ∧ I 32 5 = 0 ∧ I 26 4 = nI z ∧ t ≤ 400 ∧ z ≤ t ∧ I 32 6 = -1
def x_fc : List (Nat × Nat) := [(32, 3), (32, 4), (32, 5), (32, 6), (26, 4)]
/-- what an E may change, from the step z on -/
def x_fr (z : Nat) (I I' : am_I) : Prop := ∀ c k, (c, k) ∉ x_fc → (c ≠ 27 ∨ k < z) → (c ≠ 28 ∨ k < z) → I' c k = I c k
theorem x_fr.trans {z z' : Nat} {I I1 I2 : am_I} (h1 : x_fr z I I1) (h2 : x_fr z' I1 I2) (h : z ≤ z') : x_fr z I I2 := fun c k a b e => (h2 c k a (by omega) (by omega)).trans (h1 c k a b e)
theorem x_fr.refl (z : Nat) (I : am_I) : x_fr z I I := fun _ _ _ _ _ => rfl
/-- a fault was found -/
def x_ft (f : Int32) (a z : Nat) (I I' : am_I) : Prop := I' 32 5 = f ∧ I' 32 6 = I 10 a ∧ (∃ t, t ≤ 400 ∧ I' 32 3 = nI t) ∧ ∃ z', z ≤ z' ∧ z' ≤ 400 ∧ I' 26 4 = nI z'
/-- what came of reading -/
def x_out (z : Nat) (I I' : am_I) (r : x_Re) : Prop := match r with
  | .inl (f, a) => f ≠ 0 ∧ a ≤ 400 ∧ x_ft f a z I I' ∧ x_fr z I I'
  | .inr (c, t') => x_at t' (z + c.length) I' ∧ x_fr z I I' ∧ ∀ i q, c[i]? = some q → I' 27 (z + i) = q.1 ∧ I' 28 (z + i) = q.2
section XP
variable (d : Nat) (J : am_J)
/-- the first fault -/
theorem s_fail {t z : Nat} {I : am_I} (h : x_at t z I) (f : Int32) : ∃ I', f_reader_fail_0 d f I J = some (none, I', J) ∧ x_ft f t z I I' ∧ (∀ c k, (c, k) ∉ ([(32, 5), (32, 6)] : List (Nat × Nat)) → I' c k = I c k) := by
  obtain ⟨h1, h2, h3, h4, h5, h6⟩ := h
  have b := b_reader_fail_0 d f I J
  rw [if_pos h3, am_uk (show 3 ≠ 5 by decide), h1, am_at_n (by omega) (by omega), am_uc (show 10 ≠ 32 by decide)] at b
  refine ⟨_, b _ rfl, ⟨?_, am_ue, ⟨t, h5, ?_⟩, z, Nat.le_refl _, by omega, ?_⟩, fun c k hk => ?_⟩
  · rw [am_uk (by decide), am_ue]
  · rw [am_uk (by decide), am_uk (by decide), h1]
  · rw [am_uc (by decide), am_uc (by decide), h4]
  · have e1 := n_1 hk 32 5 (by decide)
    have e2 := n_1 hk 32 6 (by decide)
    exact i_upd2 c k e1 e2
/-- no second fault -/
theorem s_fail2 {I : am_I} (h : I 32 5 ≠ 0) (f : Int32) : f_reader_fail_0 d f I J = some (none, I, J) := b_reader_fail_0 d f I J _ (by rw [if_neg h])
/-- on: at a w -/
theorem s_pass_y {t z : Nat} {I : am_I} (h : x_at t z I) (ht : t < 400) {w : Int32} (hw : I 8 t = w) : ∃ I', f_reader_pass_0 d w I J = some (some (.int 1), I', J) ∧ x_at (t + 1) z I' ∧ (∀ c k, (c, k) ∉ ([(32, 3), (32, 4)] : List (Nat × Nat)) → I' c k = I c k) := by
  obtain ⟨h1, h2, h3, h4, h5, h6⟩ := h
  obtain ⟨I1, e1⟩ : ∃ I1, I1 = am_upd I 32 3 (nI (t + 1)) := ⟨_, rfl⟩
  obtain ⟨I2, e2⟩ : ∃ I2, I2 = am_upd I1 32 4 (I1 8 (t + 1)) := ⟨_, rfl⟩
  have b := b_reader_pass_23 d I J
  rw [h1, if_pos (show nI t < (400 : Int32) from nI_lt (b := 400) ht (by omega)), if_pos h3, nI_1, ← e1, show I1 32 3 = nI (t + 1) by rw [e1, am_ue], am_at_n (by omega) (by omega), am_b01_1, ← e2] at b
  have b2 := b_reader_pass_0 d w I J
  rw [if_pos h3, h2, if_pos hw] at b2
  have k2 : ∀ c k, (c, k) ∉ ([(32, 3), (32, 4)] : List (Nat × Nat)) → I2 c k = I c k := fun c k hk => by
    rw [e2, e1]
    exact i_upd2 c k (n_1 hk 32 3 (by decide)) (n_1 hk 32 4 (by decide))
  refine ⟨I2, b2 _ (b _ rfl), ⟨?_, ?_, ?_, ?_, by omega, by omega, ?_⟩, k2⟩
  · rw [e2, am_uk (by decide), e1, am_ue]
  · rw [k2 8 (t + 1) (fun q => by simp at q), e2, am_ue, e1, am_uc (by decide)]
  · rw [k2 32 5 (by decide)]; exact h3
  · rw [k2 26 4 (by decide)]; exact h4
  · rw [k2 32 6 (by decide)]; exact h6.2
/-- not on -/
theorem s_pass_n {t z : Nat} {I : am_I} (h : x_at t z I) {w : Int32} (hw : I 8 t ≠ w ∨ t = 400) : ∃ I', f_reader_pass_0 d w I J = some (some (.int 0), I', J) ∧ x_ft (if I 8 t = w then 2 else 1) t z I I' ∧ (∀ c k, (c, k) ∉ ([(32, 5), (32, 6)] : List (Nat × Nat)) → I' c k = I c k) := by
  obtain ⟨h1, h2, h3, h4, h5, h6⟩ := h
  have b2 := b_reader_pass_0 d w I J
  rw [if_pos h3, h2] at b2
  by_cases q : I 8 t = w
  · have ht : t = 400 := hw.resolve_left (fun z => z q)
    obtain ⟨I', a1, a2, a3⟩ := s_fail d J ⟨h1, h2, h3, h4, h5, h6⟩ 2
    have b := b_reader_pass_23 d I J
    rw [h1, if_neg (show ¬ nI t < (400 : Int32) by rw [ht]; decide), a1, am_bv_v, if_neg (show ¬ I' 32 5 = 0 by rw [a2.1]; decide), am_b01_0] at b
    rw [if_pos q] at b2
    exact ⟨I', b2 _ (b _ rfl), by rw [if_pos q]; exact a2, a3⟩
  · obtain ⟨I', a1, a2, a3⟩ := s_fail d J ⟨h1, h2, h3, h4, h5, h6⟩ 1
    rw [if_neg q, a1, am_bv_v, if_neg (show ¬ I' 32 5 = 0 by rw [a2.1]; decide), am_b01_0] at b2
    exact ⟨I', b2 _ rfl, by rw [if_neg q]; exact a2, a3⟩
/-- after a fault nobody goes on -/
theorem s_pass_f {I : am_I} (h : I 32 5 ≠ 0) (w : Int32) : f_reader_pass_0 d w I J = some (some (.int 0), I, J) := by
  have b := b_reader_pass_23 d I J
  have b2 := b_reader_pass_0 d w I J
  rw [if_neg h] at b2
  refine b2 _ (b _ ?_)
  rw [if_neg h, s_fail2 d J h, am_bv_v, if_neg h, am_b01_0]
  by_cases q : I 32 3 < 400
  · rw [if_pos q]
  · rw [if_neg q]
/-- a step written -/
theorem s_add {I : am_I} {z : Nat} (h : I 26 4 = nI z) (hz : z < 400) (o a : Int32) : ∃ I', f_next_code_add_0 d o a I J = some (some (.int (nI z)), I', J) ∧ I' 26 4 = nI (z + 1) ∧ I' 27 z = o ∧ I' 28 z = a ∧ (∀ c k, (c, k) ≠ (26, 4) → (c, k) ≠ (27, z) → (c, k) ≠ (28, z) → I' c k = I c k) := by
  have b := b_next_code_add_0 d o a I J
  obtain ⟨I1, e1⟩ : ∃ I1, I1 = am_upd I 27 z o := ⟨_, rfl⟩
  obtain ⟨I2, e2⟩ : ∃ I2, I2 = am_upd I1 28 z a := ⟨_, rfl⟩
  rw [h, if_pos (show nI z < (400 : Int32) from nI_lt (b := 400) hz (by omega)), am_at_n hz (by omega), ← e1, show I1 26 4 = nI z by rw [e1, am_uc (by decide), h], am_at_n hz (by omega), ← e2, show I2 26 4 = nI z by rw [e2, am_uc (by decide), e1, am_uc (by decide), h], nI_1, am_ue, nI_pred] at b
  refine ⟨_, b _ rfl, am_ue, ?_, ?_, fun c k h1 h2 h3 => ?_⟩
  · rw [am_uc (by decide), e2, am_uc (by decide), e1, am_ue]
  · rw [am_uc (by decide), e2, am_ue]
  · have u : ∀ (I : am_I) c0 k0 v, (c, k) ≠ (c0, k0) → am_upd I c0 k0 v c k = I c k := fun I c0 k0 v hh => by
      unfold am_upd
      rw [if_neg (fun z => hh (by rw [z.1, z.2]))]
    rw [u _ _ _ _ h1, e2, u _ _ _ _ h3, e1, u _ _ _ _ h2]
/-- a step written or not -/
theorem s_add2 {I : am_I} {z : Nat} (h : I 26 4 = nI z) (hz : z ≤ 400) (o a : Int32) : ∃ y I' z', f_next_code_add_0 d o a I J = some (some (.int y), I', J) ∧ z ≤ z' ∧ z' ≤ 400 ∧ I' 26 4 = nI z' ∧ (∀ c k, (c, k) ≠ (26, 4) → (c ≠ 27 ∨ k < z) → (c ≠ 28 ∨ k < z) → I' c k = I c k) := by
  by_cases q : z < 400
  · obtain ⟨I', a1, a2, a3, a4, a5⟩ := s_add d J h q o a
    refine ⟨_, I', z + 1, a1, by omega, by omega, a2, fun c k h1 h2 h3 => a5 c k h1 (fun e => ?_) (fun e => ?_)⟩
    · have := congrArg Prod.fst e
      have := congrArg Prod.snd e
      simp at *
      omega
    · have := congrArg Prod.fst e
      have := congrArg Prod.snd e
      simp at *
      omega
  · refine ⟨-1, I, z, b_next_code_add_0 d o a I J _ ?_, Nat.le_refl _, hz, h, fun _ _ _ _ _ => rfl⟩
    rw [h, if_neg (show ¬ nI z < (400 : Int32) from nI_nlt (b := 400) (by omega) (by omega))]
end XP

/-! the reference's small steps while it reads -/
def y_op (a : Int32) : Int32 := if a = 8 then 2 else if a = 9 then 3 else if a = 10 then 4 else 5
def y_em : List Int32 → x_Cd
  | [] => []
  | a :: P => (y_op a, 0) :: y_em P
/-- what waits, the top first -/
def y_sk (I : am_I) : List Int32 → Prop
  | [] => True
  | a :: W => I 94 W.length = a ∧ y_sk I W
theorem y_sk_keep {I I' : am_I} : ∀ W : List Int32, (∀ j, j < W.length → I' 94 j = I 94 j) → y_sk I W → y_sk I' W := by
  intro W
  induction W with
  | nil => intro _ _; trivial
  | cons a W ih =>
    intro e h
    exact ⟨(e W.length (by simp)).trans h.1, ih (fun j hj => e j (by simp; omega)) h.2⟩
theorem y_em_len : ∀ P, (y_em P).length = P.length := by
  intro P
  induction P with
  | nil => rfl
  | cons a P ih => show (y_em P).length + 1 = P.length + 1; rw [ih]
theorem y_em_app : ∀ P Q, y_em (P ++ Q) = y_em P ++ y_em Q := by
  intro P Q
  induction P with
  | nil => rfl
  | cons a P ih => show (y_op a, 0) :: y_em (P ++ Q) = (y_op a, 0) :: (y_em P ++ y_em Q); rw [ih]
def y_st (t : Nat) (W : List Int32) (z : Nat) (I : am_I) : Prop := I 68 11 = nI t ∧ t ≤ 400 ∧ I 68 38 = nI z ∧ I 68 42 = nI W.length ∧ y_sk I W
def y_cd (z : Nat) (c : x_Cd) (I : am_I) : Prop := ∀ i q, c[i]? = some q → I 92 (z + i) = q.1 ∧ I 93 (z + i) = q.2
def y_fc : List (Nat × Nat) := [(68, 11), (68, 12), (68, 13), (68, 14), (68, 38), (68, 42)]
/-- what the reference's E may change, from the step z on -/
def y_fr (u : Fin 841) (z : Nat) (I I' : am_I) : Prop := ∀ c k, (c, k) ∉ y_fc → c ≠ 94 → (c ≠ 92 ∨ k < z ∨ u.val ≤ k) → (c ≠ 93 ∨ k < z ∨ u.val ≤ k) → I' c k = I c k
theorem y_fr.trans {u : Fin 841} {z z' : Nat} {I I1 I2 : am_I} (h1 : y_fr u z I I1) (h2 : y_fr u z' I1 I2) (h : z ≤ z') : y_fr u z I I2 := fun c k a b e f => (h2 c k a b (by omega) (by omega)).trans (h1 c k a b e f)
theorem y_fr.refl {u : Fin 841} (z : Nat) (I : am_I) : y_fr u z I I := fun _ _ _ _ _ _ => rfl
theorem y_fr.cd {u : Fin 841} {z z' : Nat} {I I' : am_I} {c : x_Cd} (h : y_fr u z' I I') (hc : y_cd z c I) (hz : z + c.length ≤ z') : y_cd z c I' := fun i q hq => by
  have hi : i < c.length := (List.getElem?_eq_some_iff.mp hq).1
  rw [h 92 _ (by simp [y_fc]) (by decide) (Or.inr (by omega)) (Or.inl (by decide)), h 93 _ (by simp [y_fc]) (by decide) (Or.inl (by decide)) (Or.inr (by omega))]
  exact hc i q hq
theorem y_cd_app {z : Nat} {I : am_I} {c c' : x_Cd} (h : y_cd z c I) (h' : y_cd (z + c.length) c' I) : y_cd z (c ++ c') I := fun i q hq => by
  by_cases hi : i < c.length
  · rw [List.getElem?_append_left hi] at hq
    exact h i q hq
  · rw [List.getElem?_append_right (by omega)] at hq
    have := h' _ q hq
    rwa [show z + c.length + (i - c.length) = z + i by omega] at this
theorem y_cd_one {z : Nat} {I : am_I} {o a : Int32} (h1 : I 92 z = o) (h2 : I 93 z = a) : y_cd z [(o, a)] I := fun i q hq => by
  cases i with
  | zero =>
    have e : (o, a) = q := Option.some.inj hq
    rw [← e]
    exact ⟨h1, h2⟩
  | succ i => exact absurd hq (by simp)
section YS
variable (d : Nat) (J : am_J) (u : Fin 841)
theorem s_m_fail1 {I : am_I} {t : Nat} (h : I 68 11 = nI t) (ht : t ≤ 400) (h0 : I 68 13 = 0) (f : Int32) : ∃ I', f_m_fail_0 d f I J = some (none, I', J) ∧ I' 68 13 = f ∧ I' 68 14 = I 72 t ∧ ∀ c k, (c ≠ 68 ∨ k ≠ 13) → (c ≠ 68 ∨ k ≠ 14) → I' c k = I c k := by
  have b := b_m_fail_0 d f I J
  rw [h0, if_pos (show (0 : Int32) ≤ 0 by decide), am_uk (show 11 ≠ 13 by decide), h, am_at_n (by omega) (by omega), am_uc (show 72 ≠ 68 by decide)] at b
  exact ⟨_, b _ rfl, by rw [am_uk (by decide), am_ue], am_ue, fun c k z1 z2 => i_upd2 c k z1 z2⟩
theorem s_m_fail2 {I : am_I} (h : 0 < I 68 13) (f : Int32) : f_m_fail_0 d f I J = some (none, I, J) := b_m_fail_0 d f I J _ (by rw [if_neg (Int32.not_le.mpr h)])
theorem s_m_is {I : am_I} {t : Nat} (h : I 68 11 = nI t) (ht : t ≤ 400) (h0 : I 68 13 = 0) (w : Int32) : f_m_is_0 d w I J = some (some (.int (am_tf (I 71 t = w))), I, J) := by
  refine b_m_is_0 d w I J _ ?_
  rw [if_pos h0, h, am_at_n (by omega) (by omega), am_b01_0, am_b01_1]
  by_cases q : I 71 t = w
  · rw [if_pos q, am_tf_t q]
  · rw [if_neg q, am_tf_f q]
theorem s_m_is_f {I : am_I} (h : I 68 13 ≠ 0) (w : Int32) : f_m_is_0 d w I J = some (some (.int 0), I, J) := b_m_is_0 d w I J _ (by rw [if_neg h, am_b01_0])
theorem s_m_goes_y {I : am_I} {t : Nat} (h : I 68 11 = nI t) (ht : t < 400) : f_m_goesOn_0 d I J = some (none, am_upd I 68 11 (nI (t + 1)), J) := by
  refine b_m_goesOn_0 d I J _ ?_
  rw [h, if_neg (show ¬ nI t = (400 : Int32) from fun q => by
    have := (nI_eq (b := 400) (by omega) (by omega)).mp q
    omega), nI_1]
theorem s_m_goes_n {I : am_I} {t : Nat} (h : I 68 11 = nI t) (ht : t = 400) (h0 : I 68 13 = 0) : ∃ I', f_m_goesOn_0 d I J = some (none, I', J) ∧ I' 68 13 = 2 ∧ I' 68 14 = I 72 t ∧ ∀ c k, (c ≠ 68 ∨ k ≠ 13) → (c ≠ 68 ∨ k ≠ 14) → I' c k = I c k := by
  obtain ⟨I', a1, a2⟩ := s_m_fail1 d J h (by omega) h0 2
  refine ⟨I', b_m_goesOn_0 d I J _ ?_, a2⟩
  rw [h, if_pos (show nI t = (400 : Int32) by rw [ht]; rfl), a1, am_bv_v]
theorem s_m_goes_f {I : am_I} {t : Nat} (h : I 68 11 = nI t) (ht : t ≤ 400) (h0 : 0 < I 68 13) : ∃ I' t', f_m_goesOn_0 d I J = some (none, I', J) ∧ t' ≤ 400 ∧ I' 68 11 = nI t' ∧ ∀ c k, (c ≠ 68 ∨ k ≠ 11) → I' c k = I c k := by
  by_cases q : t < 400
  · refine ⟨_, t + 1, s_m_goes_y d J h q, by omega, am_ue, fun c k z => ?_⟩
    rcases z with z | z
    · exact am_uc z
    · exact am_uk z
  · refine ⟨I, t, b_m_goesOn_0 d I J _ ?_, ht, h, fun _ _ _ => rfl⟩
    rw [h, if_pos (show nI t = (400 : Int32) by rw [show t = 400 by omega]; rfl), s_m_fail2 d J h0, am_bv_v]
theorem s_m_emit {I : am_I} {z : Nat} (h : I 68 38 = nI z) (hz : z < 840) (o a : Int32) : ∃ I', f_m_emit_0 d o a I J = some (none, I', J) ∧ I' 68 38 = nI (z + 1) ∧ I' 92 z = o ∧ I' 93 z = a ∧ ∀ c k, (c ≠ 68 ∨ k ≠ 38) → (c ≠ 92 ∨ k ≠ z) → (c ≠ 93 ∨ k ≠ z) → I' c k = I c k := by
  obtain ⟨I1, e1⟩ : ∃ I1, I1 = am_upd I 92 z o := ⟨_, rfl⟩
  obtain ⟨I2, e2⟩ : ∃ I2, I2 = am_upd I1 93 z a := ⟨_, rfl⟩
  have b := b_m_emit_0 d o a I J
  rw [h, am_at_n hz (by omega), ← e1, show I1 68 38 = nI z by rw [e1, am_uc (by decide), h], am_at_n hz (by omega), ← e2, show I2 68 38 = nI z by rw [e2, am_uc (by decide), e1, am_uc (by decide), h], nI_1] at b
  refine ⟨_, b _ rfl, am_ue, ?_, ?_, fun c k z1 z2 z3 => ?_⟩
  · rw [am_uc (by decide), e2, am_uc (by decide), e1, am_ue]
  · rw [am_uc (by decide), e2, am_ue]
  · have e : am_upd I2 68 38 (nI (z + 1)) c k = I2 c k := by
      rcases z1 with q | q
      · exact am_uc q
      · exact am_uk q
    rw [e, e2, e1]
    exact i_upd2 c k z2 z3
/-- what waits comes out -/
theorem s_m_out (lv : Int32) {W : List Int32} (hW : W = [] ∨ ∃ a W', W = a :: W' ∧ (a = 6 ∨ (lv ≠ 0 ∧ (a = 8 ∨ a = 9)))) : ∀ (P : List Int32) (I : am_I) (t z : Nat), (∀ a ∈ P, a ≠ 6 ∧ (lv ≠ 0 → a ≠ 8 ∧ a ≠ 9)) → y_st t (P ++ W) z I → (P ++ W).length ≤ 64 → z + P.length ≤ u.val → ∃ I', f_m_comesOut_0 d lv I J = some (none, I', J) ∧ y_st t W (z + P.length) I' ∧ y_cd z (y_em P) I' ∧ y_fr u z I I' ∧ I' 68 13 = I 68 13 ∧ I' 68 14 = I 68 14 ∧ I' 68 12 = I 68 12 := by
  intro P
  induction P with
  | nil =>
    intro I t z _ h hl _
    obtain ⟨h1, h2, h3, h4, h5⟩ := h
    refine ⟨I, b_m_comesOut_0 d lv I J _ ?_, ⟨h1, h2, h3, h4, h5⟩, fun i q hq => absurd hq (by simp [y_em]), y_fr.refl _ _, rfl, rfl, rfl⟩
    rcases hW with rfl | ⟨a, W', rfl, ha⟩
    · have h4' : I 68 42 = nI 0 := h4
      rw [h4', if_pos (show nI 0 ≤ 0 by decide)]
    · have hl2 : W'.length < 64 := by
        have hl' : W'.length + 1 ≤ 64 := hl
        omega
      have hk : I 94 W'.length = a := h5.1
      have h4' : I 68 42 = nI (W'.length + 1) := h4
      rw [h4', if_neg (nI_nle (by omega) (by omega)), nI_pred, am_at_n hl2 (by omega), hk]
      rcases ha with rfl | ⟨hl0, ha⟩
      · rw [if_pos rfl]
      · rcases ha with rfl | rfl
        · rw [if_neg (show ¬ (8 : Int32) = 6 by decide), if_neg hl0, if_pos rfl]
        · rw [if_neg (show ¬ (9 : Int32) = 6 by decide), if_neg hl0, if_neg (show ¬ (9 : Int32) = 8 by decide), if_pos rfl]
  | cons a P ih =>
    intro I t z hP h hl hz
    obtain ⟨h1, h2, h3, h4, h5⟩ := h
    have hlen : (a :: P ++ W).length = (P ++ W).length + 1 := rfl
    have hz2 : (a :: P).length = P.length + 1 := rfl
    obtain ⟨ha6, ha8⟩ := hP a (by simp)
    have hk : I 94 (P ++ W).length = a := h5.1
    obtain ⟨I1, e1⟩ : ∃ I1, I1 = am_upd I 68 42 (nI (P ++ W).length) := ⟨_, rfl⟩
    have k1 : ∀ c k, (c ≠ 68 ∨ k ≠ 42) → I1 c k = I c k := fun c k q => by
      rw [e1]
      rcases q with q | q
      · exact am_uc q
      · exact am_uk q
    obtain ⟨I2, a1, a2, a3, a4, a5⟩ := s_m_emit d J (I := I1) (z := z) ((k1 68 38 (Or.inr (by decide))).trans h3) (by omega) (y_op a) 0
    obtain ⟨I3, c1, c2, c3, c4, c5, c6, c7⟩ := ih I2 t (z + 1) (fun b hb => hP b (by simp [hb])) ⟨by rw [a5 68 11 (Or.inr (by decide)) (Or.inl (by decide)) (Or.inl (by decide)), k1 68 11 (Or.inr (by decide))]; exact h1, h2, a2, by rw [a5 68 42 (Or.inr (by decide)) (Or.inl (by decide)) (Or.inl (by decide)), e1, am_ue], y_sk_keep _ (fun j _ => by rw [a5 94 j (Or.inl (by decide)) (Or.inl (by decide)) (Or.inl (by decide)), k1 94 j (Or.inl (by decide))]) h5.2⟩ (by omega) (by omega)
    have k2 : ∀ k, k ≠ 38 → k ≠ 42 → I2 68 k = I 68 k := fun k q1 q2 => (a5 68 k (Or.inr q1) (Or.inl (by decide)) (Or.inl (by decide))).trans (k1 68 k (Or.inr q2))
    have f2 : y_fr u z I I2 := fun c k q1 q2 q3 q4 => (a5 c k (n_1 q1 68 38 (by decide)) (by omega) (by omega)).trans (k1 c k (n_1 q1 68 42 (by decide)))
    have b := b_m_comesOut_0 d lv I J
    rw [h4, hlen, if_neg (nI_nle (by omega) (by omega)), nI_pred, am_at_n (by omega) (by omega), hk, if_neg ha6, ← e1] at b
    refine ⟨I3, b _ ?_, ?_, ?_, f2.trans c4 (by omega), c5.trans (k2 13 (by decide) (by decide)), c6.trans (k2 14 (by decide) (by decide)), c7.trans (k2 12 (by decide) (by decide))⟩
    · have core : ∀ o, o = y_op a → am_bv (f_m_emit_0 d o 0 I1 J) (fun I8 J9 => f_m_comesOut_0 d lv I8 J9) = some (none, I3, J) := fun o ho => by
        rw [ho, a1, am_bv_v]
        exact c1
      have g : ∀ x, (if lv = 0 then x else if a = 8 then some (none, I, J) else if a = 9 then some (none, I, J) else x : am_Out) = x := fun x => by
        by_cases q : lv = 0
        · rw [if_pos q]
        · rw [if_neg q, if_neg (ha8 q).1, if_neg (ha8 q).2]
      rw [g]
      unfold y_op at core
      by_cases q1 : a = 8
      · rw [if_pos q1]
        exact core 2 (by rw [if_pos q1])
      rw [if_neg q1]
      by_cases q2 : a = 9
      · rw [if_pos q2]
        exact core 3 (by rw [if_neg q1, if_pos q2])
      rw [if_neg q2]
      by_cases q3 : a = 10
      · rw [if_pos q3]
        exact core 4 (by rw [if_neg q1, if_neg q2, if_pos q3])
      rw [if_neg q3]
      exact core 5 (by rw [if_neg q1, if_neg q2, if_neg q3])
    · rw [hz2, show z + (P.length + 1) = z + 1 + P.length by omega]
      exact c2
    · have one : y_cd z [(y_op a, 0)] I3 := c4.cd (y_cd_one a3 a4) (by show z + 1 ≤ z + 1; omega)
      exact y_cd_app one c3
end YS

/-! the reference's E against the pure parser -/
def x_ks : List Int32 := [0, 1, 2, 3, 59, 61, 43, 45, 42, 47, 60, 40, 41, 128, 129, 130, 131, 132, 133, 134, 135, 136, 137, 138, 139, 140, 141, 142, 143, 144]
theorem x_ks_m : ∀ k ∈ x_ks, (m_kd k = 2 ↔ k = 3) ∧ (m_kd k = 6 ↔ k = 40) ∧ (m_kd k = 7 ↔ k = 41) ∧ (m_kd k = 8 ↔ k = 43) ∧ (m_kd k = 9 ↔ k = 45) ∧ (m_kd k = 10 ↔ k = 42) ∧ (m_kd k = 15 ↔ k = 47) ∧ ((31 ≤ m_kd k ∧ m_kd k ≤ 36) ↔ (139 ≤ k ∧ k ≤ 144)) ∧ (139 ≤ k → m_kd k - 31 = k - 139) := by decide +kernel
/-- before the thing t no end stands -/
def x_rc (K : Nat → Int32) (t : Nat) : Prop := ∀ j, j < t → K j ≠ 0
theorem x_rc.s {K : Nat → Int32} {t : Nat} (h : x_rc K t) {w : Int32} (h2 : K t = w) (hw : w ≠ 0) : x_rc K (t + 1) := fun j hj => by
  by_cases q : j = t
  · rw [q, h2]; exact hw
  · exact h j (by omega)
/-- the reference's things are K and V, to the end -/
def y_tk (K V : Nat → Int32) (I : am_I) : Prop := ∀ t, t ≤ 400 → x_rc K t → K t ∈ x_ks ∧ I 71 t = m_kd (K t) ∧ (K t = 3 → I 73 t = V t)
theorem y_tk.fr {u : Fin 841} {K V : Nat → Int32} {I I' : am_I} {z : Nat} (h : y_tk K V I) (f : y_fr u z I I') : y_tk K V I' := fun t ht hr => by
  have q := h t ht hr
  rw [f 71 t (by simp [y_fc]) (by decide) (Or.inl (by decide)) (Or.inl (by decide)), f 73 t (by simp [y_fc]) (by decide) (Or.inl (by decide)) (Or.inl (by decide))]
  exact q
/-- what came of it: a fault, or on behind it with P that waits -/
def y_R (u : Fin 841) (d : Nat) (J : am_J) (x1 : Int32) (W : List Int32) (z : Nat) (I : am_I) (pre : List Int32 → Prop) (r : x_Re) : Prop := match r with
  | .inl (f, a) => ∃ I', f_m_expression_23 d x1 I J = some (none, I', J) ∧ y_ft u f a z I I'
  | .inr (c, t') => ∃ (I' : am_I) (P : List Int32) (e : x_Cd), c = e ++ y_em P ∧ pre P ∧ y_st t' (P ++ W) (z + e.length) I' ∧ y_cd z e I' ∧ y_fr u z I I' ∧ I' 68 13 = 0 ∧ I' 68 12 = I 68 12 ∧ ∀ o, f_m_expression_96 d x1 I' J = some o → f_m_expression_23 d x1 I J = some o
section YV
variable (d : Nat) (J : am_J) (u : Fin 841)
/-- a thing that is a unit alone -/
theorem s_m_leaf {K V : Nat → Int32} {W : List Int32} {I : am_I} {t z : Nat} (hk : y_tk K V I) (h0 : I 68 13 = 0) (h : y_st t W z I) (hz : z < u.val) (x1 o a : Int32) (hu : ∀ r, am_bv (f_m_emit_0 d o a I J) (fun I18 J19 => am_bv (f_m_goesOn_0 d I18 J19) (fun I20 J21 => some (none, I20, J21))) = some r → f_m_unit_0 d I J = some r) (h6 : I 71 t ≠ 6) : y_R u d J x1 W z I (fun P => P = []) (x_go K (K t) t [(o, a)]) := by
  obtain ⟨h1, h2, h3, h4, h5⟩ := h
  obtain ⟨I1, a1, a2, a3, a4, a5⟩ := s_m_emit d J h3 (show z < 840 by omega) o a
  have k1 : ∀ k, k ≠ 38 → I1 68 k = I 68 k := fun k q => a5 68 k (Or.inr q) (Or.inl (by decide)) (Or.inl (by decide))
  have f1 : y_fr u z I I1 := fun c k q1 q2 q3 q4 => a5 c k (n_1 q1 68 38 (by decide)) (by omega) (by omega)
  have r23 : ∀ (I2 : am_I), f_m_goesOn_0 d I1 J = some (none, I2, J) → ∀ o, (if I2 68 13 ≤ 0 then f_m_expression_96 d x1 I2 J else some (none, I2, J)) = some o → f_m_expression_23 d x1 I J = some o := fun I2 hg o ho => by
    refine b_m_expression_23 d x1 I J _ ?_
    rw [s_m_is d J h1 h2 h0, am_tf_f h6, am_bi_i, if_pos rfl, hu (none, I2, J) (by rw [a1, am_bv_v, hg, am_bv_v]), am_bv_v]
    exact ho
  unfold x_go
  rw [if_pos rfl]
  by_cases ht : 400 ≤ t
  · rw [if_pos ht]
    obtain ⟨I2, b1, b2, b3, b4⟩ := s_m_goes_n d J (I := I1) ((k1 11 (by decide)).trans h1) (by omega) ((k1 13 (by decide)).trans h0)
    refine ⟨I2, r23 I2 b1 _ ?_, b2, ?_, ⟨t, h2, (b4 68 11 (Or.inr (by decide)) (Or.inr (by decide))).trans ((k1 11 (by decide)).trans h1)⟩, f1.trans (z' := z) (fun c k q1 _ _ _ => b4 c k (n_1 q1 68 13 (by decide)) (n_1 q1 68 14 (by decide))) (Nat.le_refl _)⟩
    · rw [b2, if_neg (by decide)]
    · rw [b3, f1 72 t (by simp [y_fc]) (by decide) (Or.inl (by decide)) (Or.inl (by decide))]
  · rw [if_neg ht]
    have g := s_m_goes_y d J (I := I1) ((k1 11 (by decide)).trans h1) (show t < 400 by omega)
    obtain ⟨I2, e2⟩ : ∃ I2, I2 = am_upd I1 68 11 (nI (t + 1)) := ⟨_, rfl⟩
    rw [← e2] at g
    have k2 : ∀ c k, (c ≠ 68 ∨ k ≠ 11) → I2 c k = I1 c k := fun c k q => by
      rw [e2]
      rcases q with q | q
      · exact am_uc q
      · exact am_uk q
    have z2 : I2 68 13 = 0 := (k2 68 13 (Or.inr (by decide))).trans ((k1 13 (by decide)).trans h0)
    have f2 : y_fr u (z + 1) I1 I2 := fun c k q1 _ _ _ => k2 c k (n_1 q1 68 11 (by decide))
    refine ⟨I2, [], [(o, a)], rfl, rfl, ⟨by rw [e2, am_ue], by omega, (k2 68 38 (Or.inr (by decide))).trans a2, (k2 68 42 (Or.inr (by decide))).trans ((k1 42 (by decide)).trans h4), y_sk_keep _ (fun j _ => (k2 94 j (Or.inl (by decide))).trans (a5 94 j (Or.inl (by decide)) (Or.inl (by decide)) (Or.inl (by decide)))) h5⟩, f2.cd (y_cd_one a3 a4) (Nat.le_refl _), f1.trans f2 (by omega), z2, (k2 68 12 (Or.inr (by decide))).trans (k1 12 (by decide)), fun o ho => r23 I2 g o ?_⟩
    rw [z2, if_pos (by decide)]
    exact ho
end YV

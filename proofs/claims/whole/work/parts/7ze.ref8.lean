/-! the reference's expression -/
def y_out (u : Fin 841) (z : Nat) (I I' : am_I) (r : x_Re) : Prop := match r with
  | .inl (f, a) => y_ft u f a z I I'
  | .inr (c, t') => I' 68 11 = nI t' ∧ t' ≤ 400 ∧ I' 68 38 = nI (z + c.length) ∧ y_cd z c I' ∧ y_fr u z I I' ∧ I' 68 13 = 0 ∧ I' 68 12 = 0
theorem s_m_expr_f (d : Nat) (J : am_J) {I : am_I} (h : 0 < I 68 13) : f_m_expression_0 d I J = some (none, am_upd I 68 42 0, J) := by
  refine b_m_expression_0 d I J _ ?_
  exact s_m_12_f d J (by rw [am_uk (by decide)]; exact h) _ 1
theorem s_m_expr (d : Nat) (J : am_J) (u : Fin 841) {K V : Nat → Int32} {I : am_I} {t z : Nat} (hk : y_tk K V I) (hrc : x_rc K t) (h0 : I 68 13 = 0) (h12 : I 68 12 = 0) (h11 : I 68 11 = nI t) (ht : t ≤ 400) (h38 : I 68 38 = nI z) (hz : z + 420 ≤ u.val + t) : ∃ I', f_m_expression_0 d I J = some (none, I', J) ∧ y_out u z I I' (x_E K V 6 t) := by
  obtain ⟨I1, e1⟩ : ∃ I1, I1 = am_upd I 68 42 0 := ⟨_, rfl⟩
  have k1 : ∀ c k, (c ≠ 68 ∨ k ≠ 42) → I1 c k = I c k := fun c k q => by
    rw [e1]
    rcases q with q | q
    · exact am_uc q
    · exact am_uk q
  have f1 : y_fr u z I I1 := fun c k q _ _ _ => k1 c k (n_1 q 68 42 (by decide))
  have z1 : I1 68 13 = 0 := (k1 68 13 (Or.inr (by decide))).trans h0
  have o1 : I1 68 12 = 0 := (k1 68 12 (Or.inr (by decide))).trans h12
  have run : ∀ o, f_m_expression_23 d 0 I1 J = some o → f_m_expression_0 d I J = some o := fun o ho => by
    refine b_m_expression_0 d I J _ ?_
    rw [← e1, o1]
    refine b_m_expression_12 d 0 1 I1 J _ ?_
    rw [if_neg (show ¬ (1 : Int32) = 0 by decide), if_pos z1]
    exact ho
  have r := s_m_E d J u (K := K) (V := V) 6 (Nat.le_refl _) [] (Or.inl rfl) (by decide) I1 t z (hk.fr f1) hrc z1 (by rw [o1]; rfl) ⟨(k1 68 11 (Or.inr (by decide))).trans h11, ht, (k1 68 38 (Or.inr (by decide))).trans h38, by rw [e1, am_ue]; rfl, trivial⟩ hz
  have eo := x_E_eo (K := K) (V := V) 6 t
  have sl := x_E_sl (K := K) (V := V) 6 t
  have pc := x_E_rc (K := K) (V := V) 6 t hrc
  cases hr : x_E K V 6 t with
  | inl p =>
    obtain ⟨fl, a⟩ := p
    rw [hr] at r
    obtain ⟨I', a1, a2, a3, a4, a5⟩ := r
    exact ⟨I', run _ a1, a2, by rw [a3, k1 72 a (Or.inl (by decide))], a4, f1.trans a5 (Nat.le_refl _)⟩
  | inr p =>
    obtain ⟨c, t'⟩ := p
    rw [hr] at r eo sl pc
    obtain ⟨I2, P, e, r1, r2, r3, r4, r5, r6, r7, r8⟩ := r
    obtain ⟨t4, n43, n45, n42, n47⟩ := eo
    have sl1 : t + c.length ≤ t' := sl.1
    have cl : c.length = e.length + P.length := by rw [r1, List.length_append, y_em_len]
    have pl : P.length ≤ 2 := r2.1
    have f2 : y_fr u z I I2 := f1.trans r5 (Nat.le_refl _)
    obtain ⟨kt', k71', _⟩ := hk.fr f2 t' t4 pc
    obtain ⟨_, _, w7, w8, w9, w10, w15, _, _⟩ := x_ks_m (K t') kt'
    rw [List.append_nil] at r3
    obtain ⟨I3, c1, c2, c3, c4, c5, c6, c7⟩ := s_m_96_end d J u (P := P) (I := I2) (t := t') (z := z + e.length) r6 r3 (by omega) (by omega) r2.2 (x1 := 0) (by rw [r7, o1]; decide) (by rw [k71']; exact fun w => n43 (w8.mp w)) (by rw [k71']; exact fun w => n45 (w9.mp w)) (by rw [k71']; exact fun w => n42 (w10.mp w)) (by rw [k71']; exact fun w => n47 (w15.mp w))
    refine ⟨I3, run _ (r8 _ c1), c2.1, t4, ?_, ?_, f2.trans c4 (by omega), c5.trans r6, c7.trans (r7.trans o1)⟩
    · rw [c2.2.2.1, cl, Nat.add_assoc]
    · rw [r1]
      exact y_cd_app (c4.cd r4 (Nat.le_refl _)) c3

/-! the reference's E: a unit -/
/-- where it ends, no sign goes on -/
def x_eo (K : Nat → Int32) (r : x_Re) : Prop := match r with
  | .inl _ => True
  | .inr (_, t') => t' ≤ 400 ∧ K t' ≠ 43 ∧ K t' ≠ 45 ∧ K t' ≠ 42 ∧ K t' ≠ 47
theorem x_go_rc {K : Nat → Int32} {w : Int32} {t : Nat} {c : x_Cd} (hw : w ≠ 0) (h : x_rc K t) : match x_go K w t c with | .inl _ => True | .inr (_, t') => x_rc K t' := by
  unfold x_go
  by_cases q : K t = w
  · rw [if_pos q]
    by_cases q2 : 400 ≤ t
    · rw [if_pos q2]; exact trivial
    · rw [if_neg q2]; exact h.s q hw
  · rw [if_neg q]; exact trivial
def x_pr (K : Nat → Int32) (r : x_Re) : Prop := match r with
  | .inl _ => True
  | .inr (_, t') => x_rc K t'
theorem x_unit_rc {K V : Nat → Int32} {b : Bool} {S : Nat → x_Re} (hS : ∀ t, x_rc K t → x_pr K (S t)) (t : Nat) (h : x_rc K t) : x_pr K (x_unit K V b S t) := by
  unfold x_unit
  by_cases h1 : K t = 3
  · rw [if_pos h1]; exact x_go_rc (by decide) h
  rw [if_neg h1]
  by_cases h2 : 139 ≤ K t ∧ K t ≤ 144
  · rw [if_pos h2]; exact x_go_rc (fun q => by rw [q] at h2; exact absurd h2.1 (by decide)) h
  rw [if_neg h2]
  by_cases h3 : K t = 40
  · rw [if_pos h3]
    by_cases h4 : b = true
    · rw [if_pos h4]; exact trivial
    rw [if_neg h4]
    by_cases h5 : 400 ≤ t
    · rw [if_pos h5]; exact trivial
    rw [if_neg h5]
    have q := hS (t + 1) (h.s h3 (by decide))
    cases hr : S (t + 1) with
    | inl f => exact trivial
    | inr p =>
      obtain ⟨c, t'⟩ := p
      rw [hr] at q
      exact x_go_rc (by decide) q
  · rw [if_neg h3]; exact trivial
theorem x_tail_rc {K : Nat → Int32} {w1 w2 o1 o2 : Int32} {U : Nat → x_Re} (h1 : w1 ≠ 0) (h2 : w2 ≠ 0) (hU : ∀ t, x_rc K t → x_pr K (U t)) : ∀ n c t, x_rc K t → x_pr K (x_tail K w1 w2 o1 o2 U n c t) := by
  intro n
  induction n with
  | zero => intro c t h; exact h
  | succ n ih =>
    intro c t h
    unfold x_tail
    by_cases q : K t = w1 ∨ K t = w2
    · rw [if_pos q]
      by_cases h5 : 400 ≤ t
      · rw [if_pos h5]; exact trivial
      rw [if_neg h5]
      have v := hU (t + 1) (q.elim (fun z => h.s z h1) (fun z => h.s z h2))
      cases hr : U (t + 1) with
      | inl f => exact trivial
      | inr p =>
        obtain ⟨c', t'⟩ := p
        rw [hr] at v
        exact ih _ t' v
    · rw [if_neg q]; exact h
theorem x_lv_rc {K : Nat → Int32} {w1 w2 o1 o2 : Int32} {U : Nat → x_Re} (h1 : w1 ≠ 0) (h2 : w2 ≠ 0) (hU : ∀ t, x_rc K t → x_pr K (U t)) (t : Nat) (h : x_rc K t) : x_pr K (x_lv K w1 w2 o1 o2 U t) := by
  unfold x_lv
  have v := hU t h
  cases hr : U t with
  | inl f => exact trivial
  | inr p =>
    obtain ⟨c, t'⟩ := p
    rw [hr] at v
    exact x_tail_rc h1 h2 hU 400 c t' v
theorem x_E_rc {K V : Nat → Int32} : ∀ k t, x_rc K t → x_pr K (x_E K V k t) := by
  intro k
  induction k with
  | zero => exact x_lv_rc (by decide) (by decide) (x_lv_rc (by decide) (by decide) (x_unit_rc (S := fun t => .inl (2, t)) (fun _ _ => trivial)))
  | succ k ih => exact x_lv_rc (by decide) (by decide) (x_lv_rc (by decide) (by decide) (x_unit_rc ih))
def y_pr (P : List Int32) : Prop := P.length ≤ 2 ∧ ∀ a ∈ P, a ≠ 6
section YW
variable (d : Nat) (J : am_J) (u : Fin 841)
theorem y_R.from {x1 : Int32} {W : List Int32} {z : Nat} {I I1 : am_I} {pre : List Int32 → Prop} {r : x_Re} (h : y_R u d J x1 W z I1 pre r) (f : y_fr u z I I1) (h12 : I1 68 12 = I 68 12) (hr : ∀ o, f_m_expression_23 d x1 I1 J = some o → f_m_expression_23 d x1 I J = some o) : y_R u d J x1 W z I pre r := by
  cases r with
  | inl p =>
    obtain ⟨g, a⟩ := p
    obtain ⟨I', a1, a2, a3, a4, a5⟩ := h
    exact ⟨I', hr _ a1, a2, by rw [a3, f 72 a (by simp [y_fc]) (by decide) (Or.inl (by decide)) (Or.inl (by decide))], a4, f.trans a5 (Nat.le_refl _)⟩
  | inr p =>
    obtain ⟨c, t'⟩ := p
    obtain ⟨I', P, e, a1, a2, a3, a4, a5, a6, a7, a8⟩ := h
    exact ⟨I', P, e, a1, a2, a3, a4, f.trans a5 (Nat.le_refl _), a6, a7.trans h12, fun o ho => hr o (a8 o ho)⟩
theorem s_m_uni {K V : Nat → Int32} {b : Bool} {S : Nat → x_Re} {n : Nat} {W : List Int32} (hWl : W.length ≤ 20)
    (hb : (b = true ∧ n = 6) ∨ (b = false ∧ n < 6 ∧ ∀ (I : am_I) (t z : Nat), y_tk K V I → x_rc K t → I 68 13 = 0 → I 68 12 = nI (n + 1) → y_st t (6 :: W) z I → z + 420 ≤ u.val + t → y_R u d J 0 (6 :: W) z I y_pr (S t))) (heo : ∀ t, x_eo K (S t)) (hsl : ∀ t, x_sl t (S t)) (hpc : ∀ t, x_rc K t → x_pr K (S t))
    {I : am_I} {t z : Nat} (hk : y_tk K V I) (hrc : x_rc K t) (h0 : I 68 13 = 0) (h12 : I 68 12 = nI n) (h : y_st t W z I) (hz : z + 420 ≤ u.val + t) : y_R u d J 0 W z I (fun P => P = []) (x_unit K V b S t) := by
  have hh := h
  obtain ⟨h1, h2, h3, h4, h5⟩ := h
  obtain ⟨kt, k71, k73⟩ := hk t h2 hrc
  obtain ⟨m2, m6, m7, m8, m9, m10, m15, mf, mg⟩ := x_ks_m (K t) kt
  have is := fun w (hw : ¬ m_kd (K t) = w) => show f_m_is_0 d w I J = some (some (.int 0), I, J) by rw [s_m_is d J h1 h2 h0, k71, am_tf_f hw]
  have isy := fun w (hw : m_kd (K t) = w) => show f_m_is_0 d w I J = some (some (.int 1), I, J) by rw [s_m_is d J h1 h2 h0, k71, am_tf_t hw]
  have one : ¬ (1 : Int32) = 0 := by decide
  unfold x_unit
  by_cases q1 : K t = 3
  · rw [if_pos q1]
    have lf := s_m_leaf d J u (W := W) hk h0 hh (show z < u.val by omega) 0 0 (V t) (fun r hr => by
      refine b_m_unit_0 d I J _ ?_
      rw [isy 2 (m2.mpr q1), am_bi_i, if_neg one, h1, am_at_n (by omega) (by omega), k73 q1]
      exact hr) (by rw [k71]; exact fun w => absurd ((m6.mp w).symm.trans q1) (by decide))
    rw [q1] at lf
    exact lf
  rw [if_neg q1]
  by_cases q2 : 139 ≤ K t ∧ K t ≤ 144
  · rw [if_pos q2]
    have q3 := mf.mpr q2
    exact s_m_leaf d J u (W := W) hk h0 hh (show z < u.val by omega) 0 1 (K t - 139) (fun r hr => by
      refine b_m_unit_0 d I J _ ?_
      rw [is 2 (fun w => q1 (m2.mp w)), am_bi_i, if_pos rfl, if_pos h0, h1, am_at_n (by omega) (by omega), k71, if_neg (Int32.not_lt.mpr q3.1), am_at_n (by omega) (by omega), k71, if_neg (Int32.not_lt.mpr q3.2), am_at_n (by omega) (by omega), k71, mg q2.1]
      exact hr) (by
      rw [k71]
      intro w
      have := m6.mp w
      rw [this] at q2
      exact absurd q2.1 (by decide))
  rw [if_neg q2]
  by_cases q4 : K t = 40
  · rw [if_pos q4]
    have is6 := isy 6 (m6.mpr q4)
    -- on behind the (
    have step : ∀ (I1 : am_I) (I2 : am_I), f_m_goesOn_0 d (am_upd I 68 12 (nI (n + 1))) J = some (none, I1, J) → n ≠ 6 → n ≤ 6 → I1 68 42 = nI W.length → I2 = am_upd (am_upd I1 94 W.length 6) 68 42 (nI (W.length + 1)) → ∀ o, f_m_expression_23 d 0 I2 J = some o → f_m_expression_23 d 0 I J = some o := fun I1 I2 hg hn hn2 h42 e2 o ho => by
      refine b_m_expression_23 d 0 I J _ ?_
      rw [is6, am_bi_i, if_neg one, if_neg (show ¬ I 68 12 = 6 by
        rw [h12]
        exact fun w => hn ((nI_eq (b := 6) (by omega) (by omega)).mp w)), h12, nI_1, hg, am_bv_v, h42, am_at_n (by omega) (by omega), am_uc (show 68 ≠ 94 by decide), h42, nI_1, ← e2]
      exact ho
    rcases hb with ⟨hb1, hb2⟩ | ⟨hb1, hb2, hb3⟩
    · rw [if_pos hb1]
      obtain ⟨I1, a1, a2, a3, a4⟩ := s_m_fail1 d J h1 h2 h0 2
      obtain ⟨I2, e2⟩ : ∃ I2, I2 = am_upd I1 68 12 (I1 68 12 + 1) := ⟨_, rfl⟩
      have k2 : ∀ c k, (c ≠ 68 ∨ k ≠ 12) → I2 c k = I1 c k := fun c k q => by
        rw [e2]
        rcases q with q | q
        · exact am_uc q
        · exact am_uk q
      have d2 : 0 < I2 68 13 := by rw [k2 68 13 (Or.inr (by decide)), a2]; decide
      obtain ⟨I3, t3, b1, b2, b3, b4⟩ := s_m_goes_f d J (I := I2) (t := t) ((k2 68 11 (Or.inr (by decide))).trans ((a4 68 11 (Or.inr (by decide)) (Or.inr (by decide))).trans h1)) h2 d2
      obtain ⟨I4, e4⟩ : ∃ I4, I4 = am_upd (am_upd I3 94 W.length 6) 68 42 (nI (W.length + 1)) := ⟨_, rfl⟩
      have k4 : ∀ c k, c ≠ 94 → (c ≠ 68 ∨ k ≠ 42) → I4 c k = I3 c k := fun c k z1 q => by
        rw [e4]
        rcases q with q | q
        · rw [am_uc q, am_uc z1]
        · rw [am_uk q, am_uc z1]
      have k3 : ∀ c k, c ≠ 94 → (c ≠ 68 ∨ k ≠ 42) → (c ≠ 68 ∨ k ≠ 11) → (c ≠ 68 ∨ k ≠ 12) → I4 c k = I1 c k := fun c k z1 z2 z3 z4 => (k4 c k z1 z2).trans ((b4 c k z3).trans (k2 c k z4))
      have d4 : I4 68 13 = 2 := (k3 68 13 (by decide) (Or.inr (by decide)) (Or.inr (by decide)) (Or.inr (by decide))).trans a2
      have i42 : I3 68 42 = nI W.length := (b4 68 42 (Or.inr (by decide))).trans ((k2 68 42 (Or.inr (by decide))).trans ((a4 68 42 (Or.inr (by decide)) (Or.inr (by decide))).trans h4))
      refine ⟨I4, b_m_expression_23 d 0 I J _ ?_, d4, (k3 68 14 (by decide) (Or.inr (by decide)) (Or.inr (by decide)) (Or.inr (by decide))).trans a3, ⟨t3, b2, (k4 68 11 (by decide) (Or.inr (by decide))).trans b3⟩, fun c k z1 z2 _ _ => (k3 c k z2 (n_1 z1 68 42 (by decide)) (n_1 z1 68 11 (by decide)) (n_1 z1 68 12 (by decide))).trans (a4 c k (n_1 z1 68 13 (by decide)) (n_1 z1 68 14 (by decide)))⟩
      rw [is6, am_bi_i, if_neg one, if_pos (show I 68 12 = 6 by rw [h12, hb2]; rfl), a1, am_bv_v, ← e2, b1, am_bv_v, i42, am_at_n (by omega) (by omega), am_uc (show 68 ≠ 94 by decide), i42, nI_1, ← e4]
      exact s_m_23_f d J (by rw [d4]; decide) 0
    · rw [if_neg (show ¬ b = true by rw [hb1]; decide)]
      obtain ⟨I1, e1⟩ : ∃ I1, I1 = am_upd I 68 12 (nI (n + 1)) := ⟨_, rfl⟩
      have k1 : ∀ c k, (c ≠ 68 ∨ k ≠ 12) → I1 c k = I c k := fun c k q => by
        rw [e1]
        rcases q with q | q
        · exact am_uc q
        · exact am_uk q
      rw [← e1] at step
      by_cases q5 : 400 ≤ t
      · rw [if_pos q5]
        obtain ⟨I2, b1, b2, b3, b4⟩ := s_m_goes_n d J (I := I1) (t := t) ((k1 68 11 (Or.inr (by decide))).trans h1) (by omega) ((k1 68 13 (Or.inr (by decide))).trans h0)
        obtain ⟨I3, e3⟩ : ∃ I3, I3 = am_upd (am_upd I2 94 W.length 6) 68 42 (nI (W.length + 1)) := ⟨_, rfl⟩
        have k3 : ∀ c k, c ≠ 94 → (c ≠ 68 ∨ k ≠ 42) → I3 c k = I2 c k := fun c k z1 q => by
          rw [e3]
          rcases q with q | q
          · rw [am_uc q, am_uc z1]
          · rw [am_uk q, am_uc z1]
        have d3 : I3 68 13 = 2 := (k3 68 13 (by decide) (Or.inr (by decide))).trans b2
        refine ⟨I3, step I2 I3 b1 (by omega) (by omega) ((b4 68 42 (Or.inr (by decide)) (Or.inr (by decide))).trans ((k1 68 42 (Or.inr (by decide))).trans h4)) e3 _ (s_m_23_f d J (by rw [d3]; decide) 0), d3, ?_, ⟨t, h2, ?_⟩, fun c k z1 z2 _ _ => (k3 c k z2 (n_1 z1 68 42 (by decide))).trans ((b4 c k (n_1 z1 68 13 (by decide)) (n_1 z1 68 14 (by decide))).trans (k1 c k (n_1 z1 68 12 (by decide))))⟩
        · rw [k3 68 14 (by decide) (Or.inr (by decide)), b3, k1 72 t (Or.inl (by decide))]
        · rw [k3 68 11 (by decide) (Or.inr (by decide)), b4 68 11 (Or.inr (by decide)) (Or.inr (by decide)), k1 68 11 (Or.inr (by decide)), h1]
      · rw [if_neg q5]
        have g := s_m_goes_y d J (I := I1) (t := t) ((k1 68 11 (Or.inr (by decide))).trans h1) (by omega)
        obtain ⟨I2, e2⟩ : ∃ I2, I2 = am_upd I1 68 11 (nI (t + 1)) := ⟨_, rfl⟩
        rw [← e2] at g
        have k2 : ∀ c k, (c ≠ 68 ∨ k ≠ 11) → I2 c k = I1 c k := fun c k q => by
          rw [e2]
          rcases q with q | q
          · exact am_uc q
          · exact am_uk q
        have st2 : y_st (t + 1) W z I2 := ⟨by rw [e2, am_ue], by omega, (k2 68 38 (Or.inr (by decide))).trans ((k1 68 38 (Or.inr (by decide))).trans h3), (k2 68 42 (Or.inr (by decide))).trans ((k1 68 42 (Or.inr (by decide))).trans h4), y_sk_keep _ (fun j _ => (k2 94 j (Or.inl (by decide))).trans (k1 94 j (Or.inl (by decide)))) h5⟩
        obtain ⟨I3, e3⟩ : ∃ I3, I3 = am_upd (am_upd I2 94 W.length 6) 68 42 (nI (W.length + 1)) := ⟨_, rfl⟩
        have st3 : y_st (t + 1) (6 :: W) z I3 := by rw [e3]; exact s_m_push st2 (by omega) 6
        have k3 : ∀ c k, c ≠ 94 → (c ≠ 68 ∨ k ≠ 42) → I3 c k = I2 c k := fun c k z1 q => by
          rw [e3]
          rcases q with q | q
          · rw [am_uc q, am_uc z1]
          · rw [am_uk q, am_uc z1]
        have f3 : y_fr u z I I3 := fun c k z1 z2 _ _ => (k3 c k z2 (n_1 z1 68 42 (by decide))).trans ((k2 c k (n_1 z1 68 11 (by decide))).trans (k1 c k (n_1 z1 68 12 (by decide))))
        have z3 : I3 68 13 = 0 := (k3 68 13 (by decide) (Or.inr (by decide))).trans ((k2 68 13 (Or.inr (by decide))).trans ((k1 68 13 (Or.inr (by decide))).trans h0))
        have o3 : I3 68 12 = nI (n + 1) := (k3 68 12 (by decide) (Or.inr (by decide))).trans ((k2 68 12 (Or.inr (by decide))).trans (by rw [e1, am_ue]))
        have stp := step I2 I3 g (by omega) (by omega) st2.2.2.2.1 e3
        have r := hb3 I3 (t + 1) z (hk.fr f3) (hrc.s q4 (by decide)) z3 o3 st3 (by omega)
        have eo := heo (t + 1)
        have sl := hsl (t + 1)
        have pc := hpc (t + 1) (hrc.s q4 (by decide))
        cases hr : S (t + 1) with
        | inl p =>
          obtain ⟨fl, a⟩ := p
          rw [hr] at r
          obtain ⟨I', a1, a2, a3, a4, a5⟩ := r
          exact ⟨I', stp _ a1, a2, by rw [a3, f3 72 a (by simp [y_fc]) (by decide) (Or.inl (by decide)) (Or.inl (by decide))], a4, f3.trans a5 (Nat.le_refl _)⟩
        | inr p =>
          obtain ⟨c, t'⟩ := p
          rw [hr] at r eo sl pc
          obtain ⟨I4, P, e, r1, r2, r3, r4, r5, r6, r7, r8⟩ := r
          obtain ⟨t4, n43, n45, n42, n47⟩ := eo
          have cl : c.length = e.length + P.length := by rw [r1, List.length_append, y_em_len]
          have sl1 : t + 1 + c.length ≤ t' := sl.1
          have f4 : y_fr u z I I4 := f3.trans r5 (Nat.le_refl _)
          obtain ⟨kt', k71', _⟩ := hk.fr f4 t' t4 pc
          obtain ⟨_, _, w7, w8, w9, w10, w15, _, _⟩ := x_ks_m (K t') kt'
          have pl : P.length ≤ 2 := r2.1
          have hlen : (P ++ 6 :: W).length = P.length + (W.length + 1) := List.length_append
          have ho : ¬ I4 68 12 ≤ 0 := by
            rw [r7, o3]
            exact nI_nle (by omega) (by omega)
          show y_R u d J 0 W z I (fun P => P = []) (x_go K 41 t' c)
          unfold x_go
          by_cases q6 : K t' = 41
          · rw [if_pos q6]
            obtain ⟨I5, c1, c2, c3, c4, c5, c6, c7⟩ := s_m_out d J u 0 (W := 6 :: W) (Or.inr ⟨6, W, rfl, Or.inl rfl⟩) P I4 t' (z + e.length) (fun a ha => ⟨r2.2 a ha, fun q => absurd rfl q⟩) r3 (by omega) (by omega)
            obtain ⟨I6, e6⟩ : ∃ I6, I6 = am_upd (am_upd I5 68 42 (nI W.length)) 68 12 (nI n) := ⟨_, rfl⟩
            have k6 : ∀ c k, (c ≠ 68 ∨ k ≠ 42) → (c ≠ 68 ∨ k ≠ 12) → I6 c k = I5 c k := fun c k z1 z2 => by rw [e6]; exact i_upd2 c k z1 z2
            have h96 : ∀ o, am_bv (f_m_goesOn_0 d I6 J) (fun I6 J7 => f_m_expression_96 d 0 I6 J7) = some o → f_m_expression_23 d 0 I J = some o := fun o hoo => stp o (r8 o (by
              refine b_m_expression_96 d 0 I4 J _ ?_
              rw [s_m_is d J r3.1 r3.2.1 r6, k71', am_tf_t (w7.mpr q6), am_bi_i, if_neg one, if_neg ho, c1, am_bv_v, c2.2.2.2.1, show (6 :: W).length = W.length + 1 from rfl, nI_pred, am_uk (show 12 ≠ 42 by decide), c7, r7, o3, nI_pred, ← e6]
              exact hoo))
            have st6 : y_st t' W (z + c.length) I6 := ⟨(k6 68 11 (Or.inr (by decide)) (Or.inr (by decide))).trans c2.1, t4, by rw [k6 68 38 (Or.inr (by decide)) (Or.inr (by decide)), c2.2.2.1, cl]; congr 1; omega, by rw [e6, am_uk (by decide), am_ue], y_sk_keep _ (fun j _ => k6 94 j (Or.inl (by decide)) (Or.inl (by decide))) c2.2.2.2.2.2⟩
            have z6 : I6 68 13 = 0 := (k6 68 13 (Or.inr (by decide)) (Or.inr (by decide))).trans (c5.trans r6)
            have f6 : y_fr u z I I6 := (f4.trans c4 (by omega)).trans (z' := z) (fun c k z1 _ _ _ => k6 c k (n_1 z1 68 42 (by decide)) (n_1 z1 68 12 (by decide))) (Nat.le_refl _)
            by_cases q7 : 400 ≤ t'
            · rw [if_pos q7]
              obtain ⟨I7, g1, g2, g3, g4⟩ := s_m_goes_n d J (I := I6) st6.1 (by omega) z6
              have f7 : y_fr u z I6 I7 := fun c k z1 _ _ _ => g4 c k (n_1 z1 68 13 (by decide)) (n_1 z1 68 14 (by decide))
              have st7 : y_st t' W (z + c.length) I7 := ⟨(g4 68 11 (Or.inr (by decide)) (Or.inr (by decide))).trans st6.1, t4, (g4 68 38 (Or.inr (by decide)) (Or.inr (by decide))).trans st6.2.2.1, (g4 68 42 (Or.inr (by decide)) (Or.inr (by decide))).trans st6.2.2.2.1, y_sk_keep _ (fun j _ => g4 94 j (Or.inl (by decide)) (Or.inl (by decide))) st6.2.2.2.2⟩
              obtain ⟨I8, j1, j2, j3, j4, j5⟩ := s_m_96_f d J u (I := I7) (by rw [g2]; decide) st7 (by omega) (by omega) 0
              refine ⟨I8, h96 _ (by rw [g1, am_bv_v]; exact j1), j4.trans g2, ?_, ⟨t', t4, j2⟩, (f6.trans f7 (Nat.le_refl _)).trans j3 (by omega)⟩
              rw [j5, g3, f6 72 t' (by simp [y_fc]) (by decide) (Or.inl (by decide)) (Or.inl (by decide))]
            · rw [if_neg q7]
              obtain ⟨I7, e7⟩ : ∃ I7, I7 = am_upd I6 68 11 (nI (t' + 1)) := ⟨_, rfl⟩
              have k7 : ∀ c k, (c ≠ 68 ∨ k ≠ 11) → I7 c k = I6 c k := fun c k q => by
                rw [e7]
                rcases q with q | q
                · exact am_uc q
                · exact am_uk q
              have f7 : ∀ z, y_fr u z I6 I7 := fun z c k z1 _ _ _ => k7 c k (n_1 z1 68 11 (by decide))
              have cd : y_cd z c I5 := by
                rw [r1]
                exact y_cd_app (c4.cd r4 (Nat.le_refl _)) c3
              have f67 : y_fr u (z + c.length) I5 I7 := fun c k z1 z2 z3 z4 => (k7 c k (n_1 z1 68 11 (by decide))).trans (k6 c k (n_1 z1 68 42 (by decide)) (n_1 z1 68 12 (by decide)))
              refine ⟨I7, [], c, (List.append_nil c).symm, rfl, ⟨by rw [e7, am_ue], by omega, (k7 68 38 (Or.inr (by decide))).trans st6.2.2.1, (k7 68 42 (Or.inr (by decide))).trans st6.2.2.2.1, y_sk_keep _ (fun j _ => k7 94 j (Or.inl (by decide))) st6.2.2.2.2⟩, f67.cd cd (Nat.le_refl _), f6.trans (f7 z) (Nat.le_refl _), (k7 68 13 (Or.inr (by decide))).trans z6, ?_, fun o hoo => h96 o ?_⟩
              · rw [k7 68 12 (Or.inr (by decide)), e6, am_ue, h12]
              · rw [s_m_goes_y d J st6.1 (by omega), am_bv_v, ← e7]
                exact hoo
          · rw [if_neg q6]
            obtain ⟨I5, c1, c2, c3, c4, c5⟩ := s_m_96_open d J u r6 r3 (by omega) (by omega) ho (by rw [k71']; exact fun w => q6 (w7.mp w)) (by rw [k71']; exact fun w => n43 (w8.mp w)) (by rw [k71']; exact fun w => n45 (w9.mp w)) (by rw [k71']; exact fun w => n42 (w10.mp w)) (by rw [k71']; exact fun w => n47 (w15.mp w))
            exact ⟨I5, stp _ (r8 _ c1), c2, by rw [c3, f4 72 t' (by simp [y_fc]) (by decide) (Or.inl (by decide)) (Or.inl (by decide))], c4, f4.trans c5 (by omega)⟩
  · rw [if_neg q4]
    obtain ⟨I1, a1, a2, a3, a4⟩ := s_m_fail1 d J h1 h2 h0 1
    refine ⟨I1, b_m_expression_23 d 0 I J _ ?_, a2, a3, ⟨t, h2, (a4 68 11 (Or.inr (by decide)) (Or.inr (by decide))).trans h1⟩, fun c k z1 _ _ _ => a4 c k (n_1 z1 68 13 (by decide)) (n_1 z1 68 14 (by decide))⟩
    have hun : f_m_unit_0 d I J = some (none, I1, J) := by
      refine b_m_unit_0 d I J _ ?_
      rw [is 2 (fun w => q1 (m2.mp w)), am_bi_i, if_pos rfl, if_pos h0, h1, am_at_n (by omega) (by omega), k71, am_at_n (by omega) (by omega), k71, a1, am_bv_v]
      by_cases q5 : m_kd (K t) < 31
      · rw [if_pos q5]
      · rw [if_neg q5, if_pos (Int32.not_le.mp (fun w => q2 (mf.mp ⟨Int32.not_lt.mp q5, w⟩)))]
    rw [is 6 (fun w => q4 (m6.mp w)), am_bi_i, if_pos rfl, hun, am_bv_v, a2, if_neg (by decide)]
end YW

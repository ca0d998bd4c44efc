/-! the reference's laws: branches -/
section ZY
variable (d : Nat) (J : am_J) {K V Pl : Nat → Int32} {sd : Nat}
theorem r_E2 (hsd : sd < 2) {st : x_St} {s : x_Sl} {z nb : Nat} {I : am_I} (h : r_at K V Pl sd st s z nb I) (hz : ∀ t, st = .inr t → z ≤ 420 * sd + t) : ∃ I', (∀ k : am_I → am_J → am_Out, (if I 68 13 = 0 then am_bv (f_m_expression_0 d I J) k else k I J) = k I' J) ∧ r_at K V Pl sd (x_rs (x_pe K V st)) s (z + (x_rk (x_pe K V st)).length) nb I' ∧ (∀ t, x_rs (x_pe K V st) = .inr t → y_cd z (x_rk (x_pe K V st)) I') ∧ r_lo sd z I I' ∧ ∀ c k, (c ≠ 68 ∨ k ∉ r_sl) → c ∉ ([92, 93, 94] : List Nat) → I' c k = I c k := by
  cases st with
  | inl f =>
    have d0 : ¬ I 68 13 = 0 := fun q => by have := h.dead; rw [q] at this; exact absurd this (by decide)
    exact ⟨I, fun k => if_neg d0, h, fun t w => absurd w (by simp [x_pe, x_rs]), fun _ _ _ _ => rfl, fun _ _ _ _ => rfl⟩
  | inr t =>
    obtain ⟨I', a1, a2⟩ := r_E d J hsd h hz
    exact ⟨I', fun k => by rw [if_pos h.2.2.2.2.2.2.1, a1, am_bv_v], a2⟩
theorem r_ifs_one {s : x_Sl} {z nb m t : Nat} {x1 x2 : Int32} {I : am_I} (hsd : sd < 2) (hnb : nb < 260) (h : r_at K V Pl sd (.inr t) s z nb I) (hz : z ≤ 420 * sd + t) (hz0 : 420 * sd ≤ z) (hm : m < 4) (hK : K t = 136) : ∃ I', (∀ r, f_m_tellLaw_12 d x1 x2 (nI (m + 1)) I' J = some r → f_m_tellLaw_12 d x1 x2 (nI m) I J = some r) ∧ r_at K V Pl sd (x_ps K 138 (x_rs (x_r3 K V t))) s (z + (x_br K V t).1.length + (x_br K V t).2.1.length + (x_br K V t).2.2.length) (nb + 1) I' ∧ (∀ t', x_ps K 138 (x_rs (x_r3 K V t)) = .inr t' → z + (x_br K V t).1.length + (x_br K V t).2.1.length + (x_br K V t).2.2.length ≤ 420 * sd + t' ∧ r_br sd nb (z + (x_br K V t).1.length + (x_br K V t).2.1.length + (x_br K V t).2.2.length) (x_br K V t) I') ∧ r_lo sd z I I' ∧ ∀ c k, r_lf nb 0 c k → I' c k = I c k := by
  show ∃ I', _ ∧ r_at K V Pl sd (x_ps K 138 (x_rs (x_r3 K V t))) s (z + (x_rk (x_r1 K V t)).length + (x_rk (x_r2 K V t)).length + (x_rk (x_r3 K V t)).length) (nb + 1) I' ∧ (∀ t', x_ps K 138 (x_rs (x_r3 K V t)) = .inr t' → z + (x_rk (x_r1 K V t)).length + (x_rk (x_r2 K V t)).length + (x_rk (x_r3 K V t)).length ≤ 420 * sd + t' ∧ r_br sd nb (z + (x_rk (x_r1 K V t)).length + (x_rk (x_r2 K V t)).length + (x_rk (x_r3 K V t)).length) (x_br K V t) I') ∧ r_lo sd z I I' ∧ ∀ c k, r_lf nb 0 c k → I' c k = I c k
  obtain ⟨I1, a1, a2, a3⟩ := r_goes d J h (w := 136) (by decide) hK
  have h32 : I1 68 32 = nI nb := a2.2.2.2.1
  obtain ⟨I2, i2⟩ : ∃ I2, I2 = am_upd I1 87 nb 1 := ⟨_, rfl⟩
  have k2 : ∀ c k, (c ≠ 87 ∨ k ≠ nb) → I2 c k = I1 c k := fun c k hk => by rw [i2]; exact hk.elim am_uc am_uk
  obtain ⟨I3, i3⟩ : ∃ I3, I3 = am_upd I2 88 nb (I2 68 38) := ⟨_, rfl⟩
  have k3 : ∀ c k, (c ≠ 88 ∨ k ≠ nb) → I3 c k = I2 c k := fun c k hk => by rw [i3]; exact hk.elim am_uc am_uk
  have c3 := a2.k (I' := I3) (fun c k hc _ => (k3 c k (Or.inl (by omega))).trans (k2 c k (Or.inl (by omega))))
  have z3 : ∀ t1, x_ps K 136 (.inr t) = .inr t1 → z ≤ 420 * sd + t1 := fun t1 e => by
    obtain ⟨t0, e0, _, _, m0⟩ := x_ps_y e
    have := Sum.inr.inj e0
    omega
  obtain ⟨I4, b1, b2, b3, b4, b5⟩ := r_E d J hsd c3 (fun t1 e => by have := z3 t1 e; omega)
  have b2 : r_at K V Pl sd (x_rs (x_r1 K V t)) s (z + (x_rk (x_r1 K V t)).length) nb I4 := b2
  have b3 : ∀ t2, x_rs (x_r1 K V t) = .inr t2 → y_cd z (x_rk (x_r1 K V t)) I4 := b3
  have z4 : ∀ t2, x_rs (x_r1 K V t) = .inr t2 → z + (x_rk (x_r1 K V t)).length ≤ 420 * sd + t2 := fun t2 e => by
    obtain ⟨t1, e1, _, l1, _⟩ := x_pe_y e
    have l1' : t1 + (x_rk (x_r1 K V t)).length ≤ t2 := l1
    have := z3 t1 e1
    omega
  obtain ⟨I5, d1, d2, d3⟩ := r_must d J b2 (w := 60) (w' := 13) (by decide) (by decide) (by decide)
  have h32' : I5 68 32 = nI nb := d2.2.2.2.1
  obtain ⟨I6, i6⟩ : ∃ I6, I6 = am_upd I5 89 nb (I5 68 38) := ⟨_, rfl⟩
  have k6 : ∀ c k, (c ≠ 89 ∨ k ≠ nb) → I6 c k = I5 c k := fun c k hk => by rw [i6]; exact hk.elim am_uc am_uk
  have c6 := d2.k (I' := I6) (fun c k hc _ => k6 c k (Or.inl (by omega)))
  have z6 : ∀ t3, x_ps K 60 (x_rs (x_r1 K V t)) = .inr t3 → z + (x_rk (x_r1 K V t)).length ≤ 420 * sd + t3 := fun t3 e => by
    obtain ⟨t2, e2, _, _, m2⟩ := x_ps_y e
    have := z4 t2 e2
    omega
  obtain ⟨I7, g1, g2, g3, g4, g5⟩ := r_E2 d J hsd c6 (fun t3 e => by have := z6 t3 e; omega)
  have g2 : r_at K V Pl sd (x_rs (x_r2 K V t)) s (z + (x_rk (x_r1 K V t)).length + (x_rk (x_r2 K V t)).length) nb I7 := g2
  have g3 : ∀ t4, x_rs (x_r2 K V t) = .inr t4 → y_cd (z + (x_rk (x_r1 K V t)).length) (x_rk (x_r2 K V t)) I7 := g3
  have z7 : ∀ t4, x_rs (x_r2 K V t) = .inr t4 → z + (x_rk (x_r1 K V t)).length + (x_rk (x_r2 K V t)).length ≤ 420 * sd + t4 := fun t4 e => by
    obtain ⟨t3, e3, _, l3, _⟩ := x_pe_y e
    have l3' : t3 + (x_rk (x_r2 K V t)).length ≤ t4 := l3
    have := z6 t3 e3
    omega
  obtain ⟨I8, n1, n2, n3⟩ := r_must d J g2 (w := 137) (w' := 29) (by decide) (by decide) (by decide)
  have z8 : ∀ t5, x_ps K 137 (x_rs (x_r2 K V t)) = .inr t5 → z + (x_rk (x_r1 K V t)).length + (x_rk (x_r2 K V t)).length ≤ 420 * sd + t5 := fun t5 e => by
    obtain ⟨t4, e4, _, _, m4⟩ := x_ps_y e
    have := z7 t4 e4
    omega
  obtain ⟨I9, p1, p2, p3, p4, p5⟩ := r_term d J hsd hnb n2 (fun t5 e => by have := z8 t5 e; omega)
  have p2 : r_at K V Pl sd (x_rs (x_r3 K V t)) s (z + (x_rk (x_r1 K V t)).length + (x_rk (x_r2 K V t)).length + (x_rk (x_r3 K V t)).length) (nb + 1) I9 := p2
  have z9 : ∀ t6, x_rs (x_r3 K V t) = .inr t6 → z + (x_rk (x_r1 K V t)).length + (x_rk (x_r2 K V t)).length + (x_rk (x_r3 K V t)).length ≤ 420 * sd + t6 := fun t6 e => by
    obtain ⟨t5, e5, _, l5, _⟩ := x_pe_y e
    have l5' : t5 + (x_rk (x_r3 K V t)).length ≤ t6 := l5
    have := z8 t5 e5
    omega
  obtain ⟨I10, u1, u2, u3⟩ := r_must d J p2 (w := 138) (w' := 30) (by decide) (by decide) (by decide)
  -- the frame from I6 on, and from I on
  have f6 : ∀ c k, (c ≠ 68 ∨ k ∉ r_sl) → c ∉ ([92, 93, 94] : List Nat) → ((c ≠ 90 ∧ c ≠ 91) ∨ k ≠ nb) → I10 c k = I6 c k := fun c k w1 w2 w3 => by
    rw [u3 c k w1, p5 c k w1 w2 w3, n3 c k w1, g5 c k w1 w2]
  have f3 : ∀ c k, (c ≠ 68 ∨ k ∉ r_sl) → c ∉ ([92, 93, 94] : List Nat) → ((c ≠ 89 ∧ c ≠ 90 ∧ c ≠ 91) ∨ k ≠ nb) → I10 c k = I3 c k := fun c k w1 w2 w3 => by
    rw [f6 c k w1 w2 (by omega), k6 c k (by omega), d3 c k w1, b5 c k w1 w2]
  have l34 : r_lo sd z I I3 := fun c k hc hk => by rw [k3 c k (Or.inl (by omega)), k2 c k (Or.inl (by omega)), a3.n (by omega)]
  have l56 : ∀ w, r_lo sd w I4 I6 := fun w c k hc hk => by rw [k6 c k (Or.inl (by omega)), d3.n (by omega)]
  have l78 : ∀ w, r_lo sd w I7 I8 := fun w c k hc hk => n3.n (by omega) k
  have l9 : ∀ w, r_lo sd w I9 I10 := fun w c k hc hk => u3.n (by omega) k
  refine ⟨I10, fun r hr => ?_, u2, fun t' ht => ?_, fun c k hc hk => ?_, fun c k hk => ?_⟩
  · have e38 : f_m_tellLaw_38 d x1 x2 (nI m) I J = some r := by
      refine b_m_tellLaw_38 d x1 x2 (nI m) I J _ ?_
      rw [if_pos (show I 68 13 ≤ 0 by rw [h.2.2.2.2.2.2.1]; decide), a1, am_bv_v, h32, am_at_n hnb (by omega), am_b01_1, ← i2, k2 68 32 (Or.inl (by decide)), h32, am_at_n hnb (by omega), ← i3, b1, am_bv_v, d1, am_bv_v, h32', am_at_n hnb (by omega), ← i6]
      refine (g1 (fun I16 J17 => am_bv (f_m_must_0 d 29 I16 J17) (fun I18 J19 => am_bv (f_m_term_0 d I18 J19) (fun I20 J21 => am_bv (f_m_must_0 d 30 I20 J21) (fun I22 J23 => f_m_tellLaw_12 d x1 x2 (nI m + 1) I22 J23))))).trans ?_
      rw [n1, am_bv_v, p1, am_bv_v, u1, am_bv_v, nI_1]
      exact hr
    refine b_m_tellLaw_12 d x1 x2 (nI m) I J _ ?_
    rw [if_pos h.2.2.2.2.2.2.1, r_is d J h (w := 136) (w' := 28) (by decide) (by decide), am_tf_t hK, am_bi_i, if_neg (by decide), if_neg (show ¬ nI m = 4 from fun x => by
      have := (nI_eq (b := 4) (by omega) (by omega)).mp x
      omega)]
    exact e38
  · obtain ⟨t6, e6, _, _, m6⟩ := x_ps_y ht
    obtain ⟨t5, e5, _⟩ := x_pe_y e6
    obtain ⟨t4, e4, _⟩ := x_ps_y e5
    obtain ⟨t3, e3, _⟩ := x_pe_y e4
    obtain ⟨t2, e2, _⟩ := x_ps_y e3
    obtain ⟨t1, e1, _⟩ := x_pe_y e2
    obtain ⟨q1, q2, q3⟩ := p3 t6 e6
    refine ⟨by have := z9 t6 e6; omega, ?_, z, ?_, ?_, ?_, ?_, Nat.le_refl _, hz0, ?_, ?_, ?_⟩
    · rw [f3 87 nb (Or.inl (by decide)) (by decide) (Or.inl (by decide)), k3 87 nb (Or.inl (by decide)), i2, am_ue]
    · rw [f3 88 nb (Or.inl (by decide)) (by decide) (Or.inl (by decide)), i3, am_ue, k2 68 38 (Or.inl (by decide)), a2.z e1]
    · show I10 89 nb = nI (z + (x_rk (x_r1 K V t)).length)
      rw [f6 89 nb (Or.inl (by decide)) (by decide) (Or.inl (by decide)), i6, am_ue, d2.z e3]
    · show I10 90 nb = nI (z + (x_rk (x_r1 K V t)).length + (x_rk (x_r2 K V t)).length)
      rw [u3.n (by decide), q1]
    · show I10 91 nb = nI (z + (x_rk (x_r1 K V t)).length + (x_rk (x_r2 K V t)).length + (x_rk (x_r3 K V t)).length)
      rw [u3.n (by decide), q2]
      rfl
    · show y_cd z (x_rk (x_r1 K V t)) I10
      exact (((((b3 t2 e2).lo (l56 _) (Nat.le_refl _)).lo g4 (Nat.le_refl _)).lo (l78 _) (Nat.le_refl _)).lo p4 (by omega)).lo (l9 _) (Nat.le_refl _)
    · show y_cd (z + (x_rk (x_r1 K V t)).length) (x_rk (x_r2 K V t)) I10
      exact (((g3 t4 e4).lo (l78 _) (Nat.le_refl _)).lo p4 (Nat.le_refl _)).lo (l9 _) (Nat.le_refl _)
    · show y_cd (z + (x_rk (x_r1 K V t)).length + (x_rk (x_r2 K V t)).length) (x_rk (x_r3 K V t)) I10
      have q3' : y_cd (z + (x_rk (x_r1 K V t)).length + (x_rk (x_r2 K V t)).length) (x_rk (x_r3 K V t)) I9 := q3
      exact q3'.lo (l9 _) (Nat.le_refl _)
  · have p4' : r_lo sd (z + (x_rk (x_r1 K V t)).length + (x_rk (x_r2 K V t)).length) I8 I9 := p4
    have g4' : r_lo sd (z + (x_rk (x_r1 K V t)).length) I6 I7 := g4
    rw [l9 (k + 1) c k hc (Or.inl (Nat.lt_succ_self k)), p4' c k hc (by omega), l78 (k + 1) c k hc (Or.inl (Nat.lt_succ_self k)), g4' c k hc (by omega), l56 (k + 1) c k hc (Or.inl (Nat.lt_succ_self k)), b4 c k hc hk, l34 c k hc hk]
  · rw [f3 c k hk.1 hk.2.1 (by have := hk.2.2; omega), k3 c k (by have := hk.2.2; omega), k2 c k (by have := hk.2.2; omega), a3 c k hk.1]
/-- the loop over branches -/
theorem r_ifsL (hsd : sd < 2) : ∀ (n m : Nat) (a : List x_Br) (nb0 nb z t : Nat) (s : x_Sl) (o : Option Nat) (I : am_I), n + m = 4 → (∀ i, o = some i → i < 18) → r_at K V Pl sd (.inr t) s z nb I → z ≤ 420 * sd + t → 420 * sd ≤ z → nb + n < 259 → nb = nb0 + a.length → (∀ j b, a[j]? = some b → r_br sd (nb0 + j) z b I) → ∃ I' z' nb', f_m_tellLaw_12 d (x_ix o) (nI nb0) (nI m) I J = some (none, I', J) ∧ r_at K V Pl sd (x_ifs K V n a t).1 s z' nb' I' ∧ nb' ≤ nb + n + 1 ∧ (∀ t', (x_ifs K V n a t).1 = .inr t' → z ≤ z' ∧ z' ≤ 420 * sd + t' ∧ nb' = nb0 + (x_ifs K V n a t).2.1.length + 1 ∧ r_lst sd (nb0 + (x_ifs K V n a t).2.1.length) z' (x_ifs K V n a t).2.2 I' ∧ (∀ j b, (x_ifs K V n a t).2.1[j]? = some b → r_br sd (nb0 + j) z' b I') ∧ ∀ i, I' 85 (18 * sd + i) = x_or o i (nI nb0) (I 85 (18 * sd + i)) ∧ I' 86 (18 * sd + i) = x_or o i (nI nb') (I 86 (18 * sd + i))) ∧ r_lo sd z I I' ∧ ∀ c k, r_lf nb n c k → ((c ≠ 85 ∧ c ≠ 86) ∨ k < 18 * sd ∨ 18 * sd + 18 ≤ k) → I' c k = I c k := by
  have fin : ∀ (n m : Nat) (a : List x_Br) (nb0 nb z t : Nat) (s : x_Sl) (o : Option Nat) (I : am_I), (∀ i, o = some i → i < 18) → r_at K V Pl sd (.inr t) s z nb I → z ≤ 420 * sd + t → 420 * sd ≤ z → nb + n < 259 → nb = nb0 + a.length → (∀ j b, a[j]? = some b → r_br sd (nb0 + j) z b I) → K t ≠ 136 → ∃ I' z' nb', f_m_tellLaw_12 d (x_ix o) (nI nb0) (nI m) I J = some (none, I', J) ∧ r_at K V Pl sd (x_ps K 59 (x_rs (x_E K V 6 t))) s z' nb' I' ∧ nb' ≤ nb + n + 1 ∧ (∀ t', x_ps K 59 (x_rs (x_E K V 6 t)) = .inr t' → z ≤ z' ∧ z' ≤ 420 * sd + t' ∧ nb' = nb0 + a.length + 1 ∧ r_lst sd (nb0 + a.length) z' (x_rk (x_E K V 6 t)) I' ∧ (∀ j b, a[j]? = some b → r_br sd (nb0 + j) z' b I') ∧ ∀ i, I' 85 (18 * sd + i) = x_or o i (nI nb0) (I 85 (18 * sd + i)) ∧ I' 86 (18 * sd + i) = x_or o i (nI nb') (I 86 (18 * sd + i))) ∧ r_lo sd z I I' ∧ ∀ c k, r_lf nb n c k → ((c ≠ 85 ∧ c ≠ 86) ∨ k < 18 * sd ∨ 18 * sd + 18 ≤ k) → I' c k = I c k := by
    intro n m a nb0 nb z t s o I ho h hz hz0 hnb enb hB q
    obtain ⟨I', a1, a2, a3, a4, a5⟩ := r_ifs_end d J (nb0 := nb0) (m := m) hsd (show nb < 260 by omega) ho h (fun t' e => by have := Sum.inr.inj e; omega) hz0 (Or.inr ⟨t, rfl, q⟩)
    refine ⟨I', z + (x_rk (x_E K V 6 t)).length, nb + 1, a1, a2, by omega, fun t' ht => ?_, a4, fun c k hk => a5 c k (hk.le (by omega) (by omega))⟩
    obtain ⟨b1, b2⟩ := a3 t' ht
    have hx := ht
    obtain ⟨t1, e1, _, _, m1⟩ := x_ps_y hx
    obtain ⟨t0, e0, _, l0, _⟩ := x_pe_y (K := K) (V := V) (st := .inr t) e1
    have e0' : t = t0 := Sum.inr.inj e0
    have l0' : t0 + (x_rk (x_E K V 6 t)).length ≤ t1 := l0
    refine ⟨by omega, by omega, by omega, by rw [← enb]; exact b1, fun j b hj => ?_, b2⟩
    have hl := (List.getElem?_eq_some_iff.mp hj).1
    exact (hB j b hj).k a4 (fun c k hc hk => a5 c k ⟨Or.inl (by omega), by simp; omega, Or.inr (Or.inl hk)⟩ (Or.inl (by omega))) (by omega) (by omega)
  intro n
  induction n with
  | zero =>
    intro m a nb0 nb z t s o I hm ho h hz hz0 hnb enb hB
    unfold x_ifs
    by_cases q : K t = 136
    · rw [if_pos q]
      obtain ⟨I', a1, a2, a3⟩ := r_fail d J h (f := 2) (Or.inr rfl)
      have b := b_m_tellLaw_12 d (x_ix o) (nI nb0) (nI m) I J
      have b38 := b_m_tellLaw_38 d (x_ix o) (nI nb0) (nI m) I' J
      rw [if_neg (Int32.not_le.mpr a2.dead)] at b38
      rw [if_pos h.2.2.2.2.2.2.1, r_is d J h (w := 136) (w' := 28) (by decide) (by decide), am_tf_t q, am_bi_i, if_neg (by decide), if_pos (show nI m = 4 by rw [show m = 4 by omega]; rfl), a1, am_bv_v] at b
      exact ⟨I', z, nb, b _ (b38 _ rfl), a2, by omega, fun t' w => absurd w (by simp), fun c k hc _ => a3.n (by omega) k, fun c k hk _ => a3 c k hk.1⟩
    · rw [if_neg q]
      exact fin 0 m a nb0 nb z t s o I ho h hz hz0 hnb enb hB q
  | succ n ih =>
    intro m a nb0 nb z t s o I hm ho h hz hz0 hnb enb hB
    unfold x_ifs
    by_cases q : K t = 136
    · rw [if_pos q]
      obtain ⟨I1, a1, a2, a3, a4, a5⟩ := r_ifs_one d J (x1 := x_ix o) (x2 := nI nb0) hsd (show nb < 260 by omega) h hz hz0 (show m < 4 by omega) q
      cases hx : x_ps K 138 (x_rs (x_r3 K V t)) with
      | inl f =>
        rw [hx] at a2
        obtain ⟨I2, b1, b2, b3, b4, b5⟩ := r_ifs_end d J (nb0 := nb0) (m := m + 1) hsd (show nb + 1 < 260 by omega) ho a2 (fun t w => absurd w (by simp)) (by omega) (Or.inl ⟨f, rfl⟩)
        exact ⟨I2, 0, nb + 1 + 1, a1 _ b1, b2, by omega, fun t' w => absurd w (by simp), fun c k hc hk => (b4 c k hc (by omega)).trans (a4 c k hc hk), fun c k hk hk2 => (b5 c k (hk.le (by omega) (by omega)) hk2).trans (a5 c k (hk.le (by omega) (by omega)))⟩
      | inr t' =>
        rw [hx] at a2
        obtain ⟨g1, g2⟩ := a3 t' hx
        have lf : ∀ c k, (c = 87 ∨ c = 88 ∨ c = 89 ∨ c = 90 ∨ c = 91) → k < nb → I1 c k = I c k := fun c k hc hk => a5 c k ⟨Or.inl (by omega), by simp; omega, Or.inr (Or.inl hk)⟩
        obtain ⟨I2, z', nb', b1, b2, b3, b4, b5, b6⟩ := ih (m + 1) (a ++ [x_br K V t]) nb0 (nb + 1) _ t' s o I1 (by omega) ho a2 g1 (by omega) (by omega) (by rw [List.length_append]; simp; omega) (fun j b hj => by
          by_cases hj2 : j < a.length
          · rw [List.getElem?_append_left hj2] at hj
            exact (hB j b hj).k a4 lf (by omega) (by omega)
          · rw [List.getElem?_append_right (by omega)] at hj
            have hl := (List.getElem?_eq_some_iff.mp hj).1
            have ej : j = a.length := by simp at hl; omega
            subst ej
            rw [Nat.sub_self] at hj
            rw [← Option.some.inj hj, ← enb]
            exact g2)
        refine ⟨I2, z', nb', a1 _ b1, b2, by omega, fun t'' w => ?_, fun c k hc hk => (b5 c k hc (by omega)).trans (a4 c k hc hk), fun c k hk hk2 => (b6 c k (hk.le (by omega) (by omega)) hk2).trans (a5 c k (hk.le (by omega) (by omega)))⟩
        obtain ⟨w1, w2, w3, w4, w5, w6⟩ := b4 t'' w
        have e85 : ∀ k, I1 85 k = I 85 k := fun k => a5 85 k ⟨Or.inl (by decide), by decide, Or.inl (by decide)⟩
        have e86 : ∀ k, I1 86 k = I 86 k := fun k => a5 86 k ⟨Or.inl (by decide), by decide, Or.inl (by decide)⟩
        refine ⟨by omega, w2, w3, w4, w5, fun i => ?_⟩
        have := w6 i
        rw [e85, e86] at this
        exact this
    · rw [if_neg q]
      exact fin (n + 1) m a nb0 nb z t s o I ho h hz hz0 hnb enb hB q
end ZY

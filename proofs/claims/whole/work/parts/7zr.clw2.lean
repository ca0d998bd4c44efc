/-! a law: the class's loop -/
section ZR
variable (J : am_J) {K V Pl : Nat → Int32}
/-- the last E of a law -/
theorem c_tail (e : Nat) {st : x_St} {s : x_Sl} {z : Nat} {I : am_I} (h : c_at K V Pl st s z I) (hz : ∀ t, st = .inr t → z < t) : ∃ I', am_bv (f_reader_readSum_0 (e + 7) 1 I J) (fun I1 J2 => am_bi (f_next_code_add_0 (e + 7) 7 0 I1 J2) (fun _ I3 J4 => am_bi (f_reader_pass_0 (e + 7) 59 I3 J4) (fun _ I6 J7 => some (none, I6, J7)))) = some (none, I', J) ∧ c_at K V Pl (x_ps K 59 (x_rs (x_pe K V st))) s (z + (x_rk (x_pe K V st)).length + 1) I' ∧ (∀ t', x_ps K 59 (x_rs (x_pe K V st)) = .inr t' → c_cd z (x_rk (x_pe K V st) ++ [(7, 0)]) I' ∧ c_lo z I I') ∧ ∀ c k, c ∉ ([26, 27, 28, 32] : List Nat) → I' c k = I c k := by
  obtain ⟨I1, a1, a2, a3, a4, a5⟩ := c_E J e h
  have hz1 : ∀ t, x_rs (x_pe K V st) = .inr t → z + (x_rk (x_pe K V st)).length < t := fun t ht => by
    obtain ⟨t0, q1, q2, q3, q4, q5⟩ := x_pe_y ht
    have := hz t0 q1
    omega
  obtain ⟨y, I2, b1, b2, b3, b4⟩ := c_add J (e + 7) a2 hz1 7 0
  obtain ⟨y3, I3, d1, d2, _, d4⟩ := c_pass (e + 7) J b2 59
  refine ⟨I3, by rw [a1, am_bv_v, b1, am_bi_i, d1, am_bi_i], d2, fun t' ht => ?_, fun c k hc => ?_⟩
  · obtain ⟨t, et, _⟩ := x_ps_y ht
    obtain ⟨_, b5, b6⟩ := b3 t et
    have l1 : c_lo (z + (x_rk (x_pe K V st)).length) I1 I3 := b6.trans (c_lo.of (z := z + (x_rk (x_pe K V st)).length) d4) (Nat.le_refl _)
    have l2 : c_lo (z + (x_rk (x_pe K V st)).length + 1) I2 I3 := c_lo.of d4
    exact ⟨(a3.k l1 (Nat.le_refl _)).app (b5.k l2 (by simp)), (a4 t et).trans l1 (by omega)⟩
  · have hc' := hc
    simp only [List.mem_cons, List.not_mem_nil, not_or] at hc'
    rw [d4 c k hc'.2.2.2.1, b4 c k (by simp; omega), a5 c k hc]
/-- the end of a law's loop -/
theorem c_ifs_end (e : Nat) {st : x_St} {s : x_Sl} {z m : Nat} {I : am_I} (h : c_at K V Pl st s z I) (hz : ∀ t, st = .inr t → z < t) (hm : m ≤ 4) (hc : I 32 5 ≠ 0 ∨ I 32 4 ≠ 136) : ∃ I', f_reader_readLaw_63 (e + 7) (nI m) I J = some (none, I', J) ∧ c_at K V Pl (x_ps K 59 (x_rs (x_pe K V st))) s (z + (x_rk (x_pe K V st)).length + 1) I' ∧ (∀ t', x_ps K 59 (x_rs (x_pe K V st)) = .inr t' → c_cd z (x_rk (x_pe K V st) ++ [(7, 0)]) I' ∧ c_lo z I I') ∧ ∀ c k, c ∉ ([26, 27, 28, 32] : List Nat) → I' c k = I c k := by
  obtain ⟨I', a1, a2⟩ := c_tail J e h hz
  refine ⟨I', b_reader_readLaw_63 (e + 7) (nI m) I J _ ?_, a2⟩
  rw [if_neg (show ¬ (4 : Int32) < nI m from nI_nlt (a := 4) hm (by omega))]
  by_cases q : I 32 5 = 0
  · rw [if_pos q, if_neg (hc.resolve_left (fun w => w q))]
    exact a1
  · rw [if_neg q]
    exact a1
theorem x_bl1_r (K V : Nat → Int32) (t : Nat) : x_bl1 (x_br K V t) = (x_rk (x_r1 K V t)).length + (x_rk (x_r2 K V t)).length + 1 + (x_rk (x_r3 K V t)).length + 1 := rfl
/-- one branch -/
theorem c_ifs_one (e : Nat) {s : x_Sl} {z m t : Nat} {I : am_I} (h : c_at K V Pl (.inr t) s z I) (hz : z < t) (hm : m < 4) (hK : K t = 136) : ∃ I', (∀ r, f_reader_readLaw_63 (e + 7) (nI (m + 1)) I' J = some r → f_reader_readLaw_63 (e + 7) (nI m) I J = some r) ∧ c_at K V Pl (x_ps K 138 (x_rs (x_r3 K V t))) s (z + x_bl1 (x_br K V t)) I' ∧ (∀ t', x_ps K 138 (x_rs (x_r3 K V t)) = .inr t' → z + x_bl1 (x_br K V t) < t' ∧ c_cd z (x_by1 z (x_br K V t)) I' ∧ c_lo z I I') ∧ ∀ c k, c ∉ ([26, 27, 28, 32] : List Nat) → I' c k = I c k := by
  have k4 : I 32 4 = K t := by rw [h.2.2.2.1.2.1, h.1]
  obtain ⟨y1, I1, a1, a2, _, a4⟩ := c_pass (e + 7) J h 136
  obtain ⟨I2, b1, b2, b3, b4, b5⟩ := c_E J e a2
  obtain ⟨y3, I3, d1, d2, _, d4⟩ := c_pass (e + 7) J b2 60
  obtain ⟨I4, g1, g2, g3, g4, g5⟩ := c_E J e d2
  obtain ⟨y5, I5, i1, i2, _, i4⟩ := c_pass (e + 7) J g2 137
  have hz5 : ∀ t5, x_ps K 137 (x_rs (x_r2 K V t)) = .inr t5 → z + (x_rk (x_r1 K V t)).length + (x_rk (x_r2 K V t)).length < t5 := fun t5 h5 => by
    obtain ⟨t4, e4, _, _, m4⟩ := x_ps_y h5
    obtain ⟨t3, e3, _, l3, _⟩ := x_pe_y e4
    obtain ⟨t2, e2, _, _, m2⟩ := x_ps_y e3
    obtain ⟨t1, e1, _, l1, _⟩ := x_pe_y e2
    obtain ⟨t0, e0, _, _, m0⟩ := x_ps_y e1
    have e0' : t = t0 := Sum.inr.inj e0
    have l1' : t1 + (x_rk (x_r1 K V t)).length ≤ t2 := l1
    have l3' : t3 + (x_rk (x_r2 K V t)).length ≤ t4 := l3
    omega
  obtain ⟨y6, I6, j1, j2, j3, j4⟩ := c_add J (e + 7) i2 hz5 6 0
  obtain ⟨I7, n1, n2, n3, n4, n5⟩ := c_E J e j2
  obtain ⟨y8, I8, p1, p2, _, p4⟩ := c_pass (e + 7) J n2 138
  have hz8 : ∀ t8, x_ps K 138 (x_rs (x_r3 K V t)) = .inr t8 → z + (x_rk (x_r1 K V t)).length + (x_rk (x_r2 K V t)).length + 1 + (x_rk (x_r3 K V t)).length + 1 < t8 := fun t8 h8 => by
    obtain ⟨t7, e7, _, _, m7⟩ := x_ps_y h8
    obtain ⟨t6, e6, _, l6, _⟩ := x_pe_y e7
    have l6' : t6 + (x_rk (x_r3 K V t)).length ≤ t7 := l6
    have := hz5 t6 e6
    obtain ⟨t4, e4, _, _, m4⟩ := x_ps_y e6
    obtain ⟨t3, e3, _, l3, l3b, _⟩ := x_pe_y e4
    obtain ⟨t2, e2, _, _, m2⟩ := x_ps_y e3
    obtain ⟨t1, e1, _, l1, l1b, _⟩ := x_pe_y e2
    obtain ⟨t0, e0, _, _, m0⟩ := x_ps_y e1
    have e0' : t = t0 := Sum.inr.inj e0
    have l1' : t1 + (x_rk (x_r1 K V t)).length ≤ t2 := l1
    have l3' : t3 + (x_rk (x_r2 K V t)).length ≤ t4 := l3
    omega
  obtain ⟨y9, I9, u1, u2, u3, u4⟩ := c_add J (e + 7) p2 (fun t8 h8 => by have := hz8 t8 h8; exact Nat.lt_of_succ_lt this) 7 0
  obtain ⟨I10, v1, v2, v3, v4⟩ := c_aim J (e + 7) u2 y6
  have eqz : z + x_bl1 (x_br K V t) = z + (x_rk (x_r1 K V t)).length + (x_rk (x_r2 K V t)).length + 1 + (x_rk (x_r3 K V t)).length + 1 := by rw [x_bl1_r]; omega
  refine ⟨I10, fun r hr => ?_, by rw [eqz]; exact v2, fun t' ht => ?_, fun c k hc => ?_⟩
  · refine b_reader_readLaw_63 (e + 7) (nI m) I J _ ?_
    rw [if_neg (show ¬ (4 : Int32) < nI m from nI_nlt (a := 4) (by omega) (by omega)), if_pos h.2.2.2.1.2.2.1, if_pos (k4.trans hK), if_pos (show nI m < (4 : Int32) from nI_lt (b := 4) (by omega) (by omega)), a1, am_bi_i, b1, am_bv_v, d1, am_bi_i, g1, am_bv_v, i1, am_bi_i, j1, am_bi_i, n1, am_bv_v, p1, am_bi_i, u1, am_bi_i, v1, am_bv_v, nI_1]
    exact hr
  · have hlt := hz8 t' ht
    obtain ⟨t7, e7, _, _, m7⟩ := x_ps_y ht
    obtain ⟨t6, e6, _⟩ := x_pe_y e7
    obtain ⟨t4, e4, _⟩ := x_ps_y e6
    obtain ⟨t3, e3, _⟩ := x_pe_y e4
    obtain ⟨t2, e2, _⟩ := x_ps_y e3
    obtain ⟨t1, e1, _⟩ := x_pe_y e2
    obtain ⟨y6e, j5, j6⟩ := j3 t6 e6
    obtain ⟨_, u5, u6⟩ := u3 t' ht
    obtain ⟨v5, v6⟩ := v3 t' _ ht y6e (by omega)
    have v6f : ∀ k, k ≠ z + (x_rk (x_r1 K V t)).length + (x_rk (x_r2 K V t)).length → I10 28 k = I9 28 k := v6
    have j6f : c_lo (z + (x_rk (x_r1 K V t)).length + (x_rk (x_r2 K V t)).length) I5 I6 := j6
    have g4f : c_lo (z + (x_rk (x_r1 K V t)).length) I3 I4 := g4 t4 e4
    have n4f : c_lo (z + (x_rk (x_r1 K V t)).length + (x_rk (x_r2 K V t)).length + 1) I6 I7 := n4 t7 e7
    have u6f : c_lo (z + (x_rk (x_r1 K V t)).length + (x_rk (x_r2 K V t)).length + 1 + (x_rk (x_r3 K V t)).length) I8 I9 := u6
    rw [eqz]
    refine ⟨hlt, ?_, ?_⟩
    · -- the code
      have hA : c_lo (z + (x_rk (x_r1 K V t)).length + (x_rk (x_r2 K V t)).length) I9 I10 := fun c k hc hk => by
        rcases hc with hc | hc
        · exact v4 c k (by omega)
        · subst hc; exact v6f k (by omega)
      have l9 : c_lo (z + (x_rk (x_r1 K V t)).length + (x_rk (x_r2 K V t)).length + 1 + (x_rk (x_r3 K V t)).length) I8 I9 := u6
      have l8 : ∀ w, c_lo w I7 I8 := fun w => c_lo.of p4
      have l7 : c_lo (z + (x_rk (x_r1 K V t)).length + (x_rk (x_r2 K V t)).length + 1) I6 I7 := n4 t7 e7
      have l6 : c_lo (z + (x_rk (x_r1 K V t)).length + (x_rk (x_r2 K V t)).length) I5 I6 := j6
      have l5 : ∀ w, c_lo w I4 I5 := fun w => c_lo.of i4
      have l4 : c_lo (z + (x_rk (x_r1 K V t)).length) I3 I4 := g4 t4 e4
      have l3 : ∀ w, c_lo w I2 I3 := fun w => c_lo.of d4
      -- from I4 on below z + l1 + l2
      have s4 : c_lo (z + (x_rk (x_r1 K V t)).length + (x_rk (x_r2 K V t)).length) I4 I10 := ((((((l5 _).trans l6 (Nat.le_refl _)).trans l7 (by omega)).trans (l8 _) (Nat.le_refl _)).trans l9 (by omega)).trans hA (Nat.le_refl _))
      have c1 : c_cd z (x_rk (x_r1 K V t)) I10 := (b3.k (l3 _) (Nat.le_refl _)).k (l4.trans s4 (by omega)) (Nat.le_refl _)
      have c2 : c_cd (z + (x_rk (x_r1 K V t)).length) (x_rk (x_r2 K V t)) I10 := g3.k s4 (Nat.le_refl _)
      have c3 : c_cd (z + (x_rk (x_r1 K V t)).length + (x_rk (x_r2 K V t)).length) [(6, nI (z + x_bl1 (x_br K V t)))] I10 := by
        refine c_cd.one ?_ ?_
        · have q := (j5 0 _ rfl).1
          rw [Nat.add_zero] at q
          rw [v4 27 _ (by decide), u6f 27 _ (by decide) (by omega), p4 27 _ (by decide), l7 27 _ (by decide) (by omega)]
          exact q
        · rw [eqz]; exact v5
      have c4 : c_cd (z + (x_rk (x_r1 K V t)).length + (x_rk (x_r2 K V t)).length + 1) (x_rk (x_r3 K V t)) I10 := by
        intro i q hq
        have hl := (List.getElem?_eq_some_iff.mp hq).1
        obtain ⟨w1, w2⟩ := n3 i q hq
        have w1' : I7 27 (z + (x_rk (x_r1 K V t)).length + (x_rk (x_r2 K V t)).length + 1 + i) = q.1 := w1
        have w2' : I7 28 (z + (x_rk (x_r1 K V t)).length + (x_rk (x_r2 K V t)).length + 1 + i) = q.2 := w2
        have v6' : ∀ k, k ≠ z + (x_rk (x_r1 K V t)).length + (x_rk (x_r2 K V t)).length → I10 28 k = I9 28 k := v6
        rw [v4 27 _ (by decide), l9 27 _ (by decide) (by omega), p4 27 _ (by decide), v6' _ (by omega), l9 28 _ (by decide) (by omega), p4 28 _ (by decide)]
        exact ⟨w1', w2'⟩
      have c5 : c_cd (z + (x_rk (x_r1 K V t)).length + (x_rk (x_r2 K V t)).length + 1 + (x_rk (x_r3 K V t)).length) [(7, 0)] I10 := by
        have v6' : ∀ k, k ≠ z + (x_rk (x_r1 K V t)).length + (x_rk (x_r2 K V t)).length → I10 28 k = I9 28 k := v6
        obtain ⟨w1, w2⟩ := u5 0 _ rfl
        rw [Nat.add_zero] at w1 w2
        refine c_cd.one ?_ ?_
        · rw [v4 27 _ (by decide)]
          exact w1
        · rw [v6' _ (by omega)]
          exact w2
      have := (((c1.app c2).app (c' := [(6, nI (z + x_bl1 (x_br K V t)))]) (by rw [List.length_append, ← Nat.add_assoc]; exact c3)).app (c' := x_rk (x_r3 K V t)) (by simp only [List.length_append, List.length_cons, List.length_nil]; rw [show z + ((x_rk (x_r1 K V t)).length + (x_rk (x_r2 K V t)).length + (0 + 1)) = z + (x_rk (x_r1 K V t)).length + (x_rk (x_r2 K V t)).length + 1 by omega]; exact c4)).app (c' := [(7, 0)]) (by simp only [List.length_append, List.length_cons, List.length_nil]; rw [show z + ((x_rk (x_r1 K V t)).length + (x_rk (x_r2 K V t)).length + (0 + 1) + (x_rk (x_r3 K V t)).length) = z + (x_rk (x_r1 K V t)).length + (x_rk (x_r2 K V t)).length + 1 + (x_rk (x_r3 K V t)).length by omega]; exact c5)
      exact this
    · have hA : c_lo z I9 I10 := fun c k hc hk => by
        rcases hc with hc | hc
        · exact v4 c k (by omega)
        · subst hc; exact v6f k (by omega)
      have o1 : c_lo z I I1 := c_lo.of a4
      have o2 : c_lo z I1 I2 := b4 t2 e2 |>.trans (c_lo.of (z := z) (fun c k _ => rfl)) (Nat.le_refl _)
      have o3 : c_lo z I2 I3 := c_lo.of d4
      have o4 : c_lo z I3 I4 := fun c k hc hk => g4f c k hc (by omega)
      have o5 : c_lo z I4 I5 := c_lo.of i4
      have o6 : c_lo z I5 I6 := fun c k hc hk => j6f c k hc (by omega)
      have o7 : c_lo z I6 I7 := fun c k hc hk => n4f c k hc (by omega)
      have o8 : c_lo z I7 I8 := c_lo.of p4
      have o9 : c_lo z I8 I9 := fun c k hc hk => u6f c k hc (by omega)
      exact fun c k hc hk => (hA c k hc hk).trans ((o9 c k hc hk).trans ((o8 c k hc hk).trans ((o7 c k hc hk).trans ((o6 c k hc hk).trans ((o5 c k hc hk).trans ((o4 c k hc hk).trans ((o3 c k hc hk).trans ((o2 c k hc hk).trans (o1 c k hc hk)))))))))
  · have hc' := hc
    simp only [List.mem_cons, List.not_mem_nil, not_or] at hc'
    rw [v4 c k hc'.2.2.1, u4 c k (by simp; omega), p4 c k hc'.2.2.2.1, n5 c k hc, j4 c k (by simp; omega), i4 c k hc'.2.2.2.1, g5 c k hc, d4 c k hc'.2.2.2.1, b5 c k hc, a4 c k hc'.2.2.2.1]
theorem c_ifsL (e : Nat) : ∀ (n m : Nat) (a : List x_Br) (z0 z t : Nat) (s : x_Sl) (I : am_I), n + m = 4 → c_at K V Pl (.inr t) s z I → z < t → z = z0 + x_bln a → c_cd z0 (x_lyb z0 a) I → ∃ I', f_reader_readLaw_63 (e + 7) (nI m) I J = some (none, I', J) ∧ c_at K V Pl (x_ifs K V n a t).1 s (z0 + (x_lay z0 (x_ifs K V n a t).2).length) I' ∧ (∀ t', (x_ifs K V n a t).1 = .inr t' → c_cd z0 (x_lay z0 (x_ifs K V n a t).2) I' ∧ c_lo z0 I I') ∧ ∀ c k, c ∉ ([26, 27, 28, 32] : List Nat) → I' c k = I c k := by
  have fin : ∀ (m : Nat) (a : List x_Br) (z0 z t : Nat) (s : x_Sl) (I : am_I), m ≤ 4 → c_at K V Pl (.inr t) s z I → z < t → z = z0 + x_bln a → c_cd z0 (x_lyb z0 a) I → K t ≠ 136 → ∃ I', f_reader_readLaw_63 (e + 7) (nI m) I J = some (none, I', J) ∧ c_at K V Pl (x_ps K 59 (x_rs (x_E K V 6 t))) s (z0 + (x_lay z0 (a, x_rk (x_E K V 6 t))).length) I' ∧ (∀ t', x_ps K 59 (x_rs (x_E K V 6 t)) = .inr t' → c_cd z0 (x_lay z0 (a, x_rk (x_E K V 6 t))) I' ∧ c_lo z0 I I') ∧ ∀ c k, c ∉ ([26, 27, 28, 32] : List Nat) → I' c k = I c k := by
    intro m a z0 z t s I hm h hz ez hC q
    have k4 : I 32 4 = K t := by rw [h.2.2.2.1.2.1, h.1]
    obtain ⟨I', a1, a2, a3, a4⟩ := c_ifs_end J e h (fun t' w => by have := Sum.inr.inj w; omega) hm (Or.inr (by rw [k4]; exact q))
    refine ⟨I', a1, ?_, fun t' ht => ?_, a4⟩
    · rw [x_lay_len, show z0 + (x_bln a + (x_rk (x_E K V 6 t)).length + 1) = z + (x_rk (x_E K V 6 t)).length + 1 by omega]
      exact a2
    · obtain ⟨d1, d2⟩ := a3 t' ht
      refine ⟨(hC.k d2 (by rw [x_lyb_len]; omega)).app ?_, fun c k hc hk => d2 c k hc (by omega)⟩
      rw [x_lyb_len, ← ez]
      exact d1
  intro n
  induction n with
  | zero =>
    intro m a z0 z t s I hm h hz ez hC
    have k4 : I 32 4 = K t := by rw [h.2.2.2.1.2.1, h.1]
    unfold x_ifs
    by_cases q : K t = 136
    · rw [if_pos q]
      obtain ⟨I', a1, a2, a3⟩ := c_fail (e + 7) J h (f := 2) (Or.inr rfl)
      have b := b_reader_readLaw_63 (e + 7) (nI m) I J
      rw [if_neg (show ¬ (4 : Int32) < nI m from nI_nlt (a := 4) (by omega) (by omega)), if_pos h.2.2.2.1.2.2.1, if_pos (k4.trans q), if_neg (show ¬ nI m < (4 : Int32) from nI_nlt (b := 4) (by omega) (by omega)), a1, am_bv_v] at b
      exact ⟨I', b _ rfl, a2, fun t' w => absurd w (by simp), fun c k hc => a3 c k (by simp at hc; omega)⟩
    · rw [if_neg q]
      exact fin m a z0 z t s I (by omega) h hz ez hC q
  | succ n ih =>
    intro m a z0 z t s I hm h hz ez hC
    unfold x_ifs
    by_cases q : K t = 136
    · rw [if_pos q]
      obtain ⟨I1, a1, a2, a3, a4⟩ := c_ifs_one J e h hz (show m < 4 by omega) q
      cases hx : x_ps K 138 (x_rs (x_r3 K V t)) with
      | inl f =>
        rw [hx] at a2
        obtain ⟨I2, b1, b2, b3, b4⟩ := c_ifs_end J e a2 (fun t w => absurd w (by simp)) (show m + 1 ≤ 4 by omega) (Or.inl a2.dead)
        exact ⟨I2, a1 _ b1, b2, fun t' w => absurd w (by simp), fun c k hc => (b4 c k hc).trans (a4 c k hc)⟩
      | inr t' =>
        rw [hx] at a2
        obtain ⟨g1, g2, g3⟩ := a3 t' hx
        obtain ⟨I2, b1, b2, b3, b4⟩ := ih (m + 1) (a ++ [x_br K V t]) z0 (z + x_bl1 (x_br K V t)) t' s I1 (by omega) a2 g1 (by rw [x_bln_app]; omega) (by
          rw [x_lyb_app]
          refine (hC.k g3 (by rw [x_lyb_len]; omega)).app ?_
          rw [x_lyb_len, ← ez]
          exact g2)
        exact ⟨I2, a1 _ b1, b2, fun t'' w => ⟨(b3 t'' w).1, fun c k hc hk => ((b3 t'' w).2 c k hc hk).trans (g3 c k hc (by omega))⟩, fun c k hc => (b4 c k hc).trans (a4 c k hc)⟩
    · rw [if_neg q]
      exact fin m a z0 z t s I (by omega) h hz ez hC q
end ZR

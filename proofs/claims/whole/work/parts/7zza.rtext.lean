/-! a text: the reference's -/
def r_C (sd : Nat) (S : x_S) (z nb : Nat) (I : am_I) (J : am_J) : Prop := r_bd sd S.1 I J ∧ (I 82 sd = S.2.1.1 ∧ I 83 sd = S.2.1.2.1 ∧ I 84 sd = S.2.1.2.2) ∧ r_th sd S.2.2.1 I ∧ r_lw sd S.2.2.2.1 z nb I
theorem r_th.k {sd : Nat} {l : List Int32} {I I' : am_I} (h : r_th sd l I) (e : ∀ c k, (c = 80 ∨ c = 81) → I' c k = I c k) : r_th sd l I' := ⟨(e 80 sd (Or.inl rfl)).trans h.1, fun j v hj => (e 81 _ (Or.inr rfl)).trans (h.2 j v hj)⟩
/-- names are names -/
theorem x_tell_k {K V : Nat → Int32} {Sm : Nat → Nat → Bool} {S : x_S} {t : Nat} (hn : ∀ q ∈ S.1, K q.1 = 2) {t' : Nat} (e : (x_tell K V Sm S t).1 = .inr t') : ∀ q ∈ (x_tell K V Sm S t).2.1, K q.1 = 2 := by
  unfold x_tell at e ⊢
  by_cases q0 : K t = 128
  · rw [if_pos q0] at e ⊢
    unfold x_board at e ⊢
    by_cases q : S.1.length = 6
    · rw [if_pos q] at e; exact absurd e (by simp)
    · rw [if_neg q] at e ⊢
      obtain ⟨k0, k1, _⟩ := x_bst_y e
      intro q hq
      rcases List.mem_append.mp hq with hq | hq
      · exact hn q hq
      · have : q = (t + 1, V (t + 2), V (t + 3)) := by simpa using hq
        rw [this]
        exact k1
  rw [if_neg q0] at e ⊢
  by_cases q1 : K t = 129
  · rw [if_pos q1]; exact hn
  rw [if_neg q1] at e ⊢
  by_cases q2 : K t = 130
  · rw [if_pos q2]; exact hn
  rw [if_neg q2] at e ⊢
  by_cases q3 : K t = 131
  · rw [if_pos q3]; exact hn
  rw [if_neg q3] at e ⊢
  by_cases q4 : K t = 132
  · rw [if_pos q4]; exact hn
  rw [if_neg q4] at e ⊢
  by_cases q5 : K t = 133
  · rw [if_pos q5]; exact hn
  rw [if_neg q5] at e ⊢
  by_cases q6 : K t = 134
  · rw [if_pos q6]; exact hn
  rw [if_neg q6] at e ⊢
  by_cases q7 : K t = 135
  · rw [if_pos q7]; exact hn
  rw [if_neg q7]
  exact hn
section ZA
variable (d : Nat) (J : am_J) {K V Pl : Nat → Int32} {Sm : Nat → Nat → Bool} {sd : Nat}
/-- `w NUMBER ;` -/
theorem r_num (hP : ∀ i j, i < j → j ≤ 400 → x_rc K j → Pl i < Pl j) (hsd : sd < 2) {s : x_Sl} {z nb t cl : Nat} {w lo hi : Int32} {I : am_I} (hcl : cl ≠ 68 ∧ cl ≠ 71 ∧ cl ≠ 72 ∧ cl ≠ 73) (hw0 : w ≠ 0) (hK : K t = w) (h : r_at K V Pl sd (.inr t) s z nb I) : ∃ I', am_bv (f_m_goesOn_0 d I J) (fun I1 J1 => am_bi (f_m_bounded_0 d lo hi I1 J1) (fun y I2 J2 => am_at (I1 68 19) 2 (fun j => am_bv (f_m_must_0 d 4 (am_upd I2 cl j y) J2) (fun I3 J3 => some (none, I3, J3))) none)) = some (none, I', J) ∧ r_at K V Pl sd (x_nst K w t) (x_nsl V lo hi s t) z nb I' ∧ (∀ t', x_nst K w t = .inr t' → I' cl sd = V (t + 1)) ∧ ∀ c k, (c ≠ 68 ∨ k ∉ r_sl) → (c ≠ cl ∨ k ≠ sd) → I' c k = I c k := by
  obtain ⟨I1, a1, a2, a3⟩ := r_goes d J h hw0 hK
  obtain ⟨y, I2, b1, b2, b3, b4⟩ := r_bnd d J hP a2 lo hi
  obtain ⟨I3, i3⟩ : ∃ I3, I3 = am_upd I2 cl sd y := ⟨_, rfl⟩
  have k3 : ∀ c k, (c ≠ cl ∨ k ≠ sd) → I3 c k = I2 c k := fun c k hk => by rw [i3]; exact hk.elim am_uc am_uk
  have c3 := b2.k (I' := I3) (fun c k hc _ => k3 c k (Or.inl (by omega)))
  obtain ⟨I4, d1, d2, d3⟩ := r_must d J c3 (w := 59) (w' := 4) (by decide) (by decide) (by decide)
  have h19 : I1 68 19 = nI sd := a2.2.2.1
  refine ⟨I4, by rw [a1, am_bv_v, b1, am_bi_i, h19, am_at_n hsd (by omega), ← i3, d1, am_bv_v], ?_, fun t' ht => ?_, fun c k g1 g2 => by rw [d3 c k g1, k3 c k g2, b4 c k g1, a3 c k g1]⟩
  · refine d2.sl (fun t' ht => ⟨?_, rfl⟩)
    obtain ⟨k0, k1, k2, k3', k5, w0, w1⟩ := x_nst_y ht
    rw [w0]
    rfl
  · obtain ⟨k0, k1, k2, k3', k5, w0, w1⟩ := x_nst_y ht
    rw [d3 cl sd (Or.inl hcl.1), i3, am_ue, b3 (t + 2) (by rw [w0, w1]), w0]
    rfl
/-- a statement -/
theorem r_tell (hP : ∀ i j, i < j → j ≤ 400 → x_rc K j → Pl i < Pl j) (hS : r_sm K Sm J) (hsd : sd < 2) {S : x_S} {z nb t : Nat} {I : am_I} (h : r_at K V Pl sd (.inr t) S.2.2.2.2 z nb I) (hC : r_C sd S z nb I J) (hn : ∀ q ∈ S.1, q.1 < t ∧ K q.1 = 2) (hz : z ≤ 420 * sd + t) (hz0 : 420 * sd ≤ z) (hnb : 130 * sd ≤ nb) (hnb2 : 5 * nb ≤ 650 * sd + t) : ∃ I' J' z' nb', f_m_tell_0 d I J = some (none, I', J') ∧ r_at K V Pl sd (x_tell K V Sm S t).1 (x_tell K V Sm S t).2.2.2.2.2 z' nb' I' ∧ (∀ t', (x_tell K V Sm S t).1 = .inr t' → r_C sd (x_tell K V Sm S t).2 z' nb' I' J' ∧ z' ≤ 420 * sd + t' ∧ 420 * sd ≤ z' ∧ 130 * sd ≤ nb' ∧ 5 * nb' ≤ 650 * sd + t') ∧ (∀ c k, c ≠ 76 → J' c k = J c k) ∧ ∀ c k, r_rf sd c k → I' c k = I c k := by
  obtain ⟨h1, h2, h3, h4, q1, q2, q3, q4, q5, q6⟩ := h
  have h := (⟨h1, h2, h3, h4, q1, q2, q3, q4, q5, q6⟩ : r_at K V Pl sd (.inr t) S.2.2.2.2 z nb I)
  obtain ⟨kk1, k71, _⟩ := h1 t q2 q5
  obtain ⟨C1, ⟨C2, C3, C4⟩, C5, C6⟩ := hC
  have inj : ∀ w w' : Int32, w ∈ x_ks → m_kd w = w' → (I 71 t = w' ↔ K t = w) := fun w w' hw hm => by rw [k71, ← hm]; exact x_ks_inj _ kk1 _ hw
  have b := b_m_tell_0 d I J
  rw [q1, am_at_n (by omega) (by omega)] at b
  have up : ∀ t', (x_tell K V Sm S t).1 = .inr t' → t ≤ t' := fun t' e => by
    have := (x_tell_g (V := V) (Sm := Sm) (S := S) q5 (fun q hq => (hn q hq).1) e).2.1
    omega
  have frk : ∀ {c k : Nat}, r_rf sd c k → c ≠ 68 ∨ k ∉ r_sl := fun hk => hk.sl
  -- laws
  have law : ∀ (kk : Nat) (w : Int32), kk < 3 → w = 129 + nI kk → K t = w → (∀ r, am_bv (f_m_goesOn_0 d I J) (fun I10 J11 => am_bi (f_m_known_0 d I10 J11) (fun y14 I12 J13 => if 0 ≤ y14 then am_bv (f_m_tellLaw_0 d ((6 * ((I 71 t) - 21)) + y14) I12 J13) (fun I15 J16 => some (none, I15, J16)) else am_bv (f_m_tellLaw_0 d (-1) I12 J13) (fun I17 J18 => some (none, I17, J18)))) = some r → f_m_tell_0 d I J = some r) → ∃ I' J' z' nb', f_m_tell_0 d I J = some (none, I', J') ∧ r_at K V Pl sd (x_tlaw K V Sm kk w S t).1 (x_tlaw K V Sm kk w S t).2.2.2.2.2 z' nb' I' ∧ (∀ t', (x_tlaw K V Sm kk w S t).1 = .inr t' → r_C sd (x_tlaw K V Sm kk w S t).2 z' nb' I' J' ∧ z' ≤ 420 * sd + t' ∧ 420 * sd ≤ z' ∧ 130 * sd ≤ nb' ∧ 5 * nb' ≤ 650 * sd + t') ∧ (∀ c k, c ≠ 76 → J' c k = J c k) ∧ ∀ c k, r_rf sd c k → I' c k = I c k := fun kk w hkk hw hK run => by
    obtain ⟨I', z', nb', a1, a2, a3, a5, a4⟩ := r_law d J hP hS hsd hw hkk hK h C1 hn C6 hz hz0 hnb hnb2
    have nl : ∀ c k, (c = 77 ∨ c = 78 ∨ c = 79 ∨ c = 80 ∨ c = 81 ∨ c = 82 ∨ c = 83 ∨ c = 84 ∨ (c = 68 ∧ k = 20)) → I' c k = I c k := fun c k hc => a5 c k (by
      by_cases w : c = 68
      · exact Or.inr (by rw [show k = 20 by omega]; decide)
      · exact Or.inl w) (by omega)
    refine ⟨I', J, z', nb', run _ a1, a2, fun t' ht => ?_, fun _ _ _ => rfl, a4⟩
    obtain ⟨g1, g2, g3, g4, g5⟩ := a3 t' ht
    exact ⟨⟨C1.k (fun c k hc => nl c k (by omega)), ⟨(nl 82 sd (by omega)).trans C2, (nl 83 sd (by omega)).trans C3, (nl 84 sd (by omega)).trans C4⟩, C5.k (fun c k hc => nl c k (by omega)), g1⟩, g2, g3, g4, g5⟩
  unfold x_tell at up ⊢
  by_cases p0 : K t = 128
  · rw [if_pos p0] at up ⊢
    rw [if_pos ((inj 128 20 (by decide) (by decide)).mpr p0), h3, am_at_n hsd (by omega), C1.2.1] at b
    by_cases p6 : S.1.length = 6
    · obtain ⟨I1, a1, a2, a3⟩ := r_fail d J h (f := 2) (Or.inr rfl)
      have d0 : ¬ I1 68 13 = 0 := fun q => by have := a2.dead; rw [q] at this; exact absurd this (by decide)
      rw [if_pos (show nI S.1.length = 6 by rw [p6]; rfl), a1, am_bv_v, if_neg d0] at b
      have e : x_board K V Sm S.1 S.2.2.2.2 t = (.inl (2, t), S.1, S.2.2.2.2) := by unfold x_board; rw [if_pos p6]
      rw [e]
      exact ⟨I1, J, z, nb, b _ rfl, a2, fun t' w => absurd w (by simp), fun _ _ _ => rfl, fun c k hk => a3 c k (frk hk)⟩
    · have h6 := C1.1
      obtain ⟨I1, J1, a1, a2, a3, a4, a5⟩ := r_board d J hP hS hsd (show S.1.length < 6 by omega) h p0 C1 hn
      rw [if_neg (show ¬ nI S.1.length = 6 from fun x => by
        have := (nI_eq (b := 6) (by omega) (by omega)).mp x
        omega), if_pos q3, a1, am_bv_v] at b
      have fr : ∀ c k, r_rf sd c k → I1 c k = I c k := fun c k hk => by
        obtain ⟨r1, r2, r3, r4, r5⟩ := hk
        exact a5 c k r1 (by omega) (by omega) (by omega)
      have frs : ∀ c k, c ≠ 68 → c ≠ 77 → c ≠ 78 → c ≠ 79 → I1 c k = I c k := fun c k g1 g2 g3 g4 => a5 c k (Or.inl g1) (Or.inl g2) (Or.inl g3) (Or.inl g4)
      refine ⟨I1, J1, z, nb, b _ rfl, a2, fun t' ht => ⟨⟨a3 t' ht, ⟨(frs 82 sd (by decide) (by decide) (by decide) (by decide)).trans C2, (frs 83 sd (by decide) (by decide) (by decide) (by decide)).trans C3, (frs 84 sd (by decide) (by decide) (by decide) (by decide)).trans C4⟩, C5.k (fun c k hc => frs c k (by omega) (by omega) (by omega) (by omega)), C6.k (fun c k hc => frs c k (by omega) (by omega) (by omega) (by omega)) (fun c k hc _ => frs c k (by omega) (by omega) (by omega) (by omega)) (fun c k hc _ => frs c k (by omega) (by omega) (by omega) (by omega)) (Nat.le_refl _) (Nat.le_refl _)⟩, by have := up t' ht; omega, hz0, hnb, by have := up t' ht; omega⟩, a4, fr⟩
  rw [if_neg p0] at up ⊢
  rw [if_neg (fun x => p0 ((inj 128 20 (by decide) (by decide)).mp x))] at b
  by_cases p1 : K t = 129
  · rw [if_pos p1]
    rw [if_pos ((inj 129 21 (by decide) (by decide)).mpr p1), am_at_n (by omega) (by omega)] at b
    exact law 0 129 (by omega) (by decide) p1 (fun r hr => b r hr)
  rw [if_neg p1] at up ⊢
  rw [if_neg (fun x => p1 ((inj 129 21 (by decide) (by decide)).mp x))] at b
  by_cases p2 : K t = 130
  · rw [if_pos p2]
    rw [if_pos ((inj 130 22 (by decide) (by decide)).mpr p2), am_at_n (by omega) (by omega)] at b
    exact law 1 130 (by omega) (by decide) p2 (fun r hr => b r hr)
  rw [if_neg p2] at up ⊢
  rw [if_neg (fun x => p2 ((inj 130 22 (by decide) (by decide)).mp x))] at b
  by_cases p3 : K t = 131
  · rw [if_pos p3]
    rw [if_pos ((inj 131 23 (by decide) (by decide)).mpr p3), am_at_n (by omega) (by omega)] at b
    exact law 2 131 (by omega) (by decide) p3 (fun r hr => b r hr)
  rw [if_neg p3] at up ⊢
  rw [if_neg (fun x => p3 ((inj 131 23 (by decide) (by decide)).mp x))] at b
  by_cases p4 : K t = 132
  · rw [if_pos p4] at up ⊢
    rw [if_pos ((inj 132 24 (by decide) (by decide)).mpr p4)] at b
    obtain ⟨I1, a1, a2, a3⟩ := r_goes d J h (w := 132) (by decide) p4
    rw [a1, am_bv_v] at b
    have res : ∃ I2, f_m_tellThinks_0 d I1 J = some (none, I2, J) ∧ r_at K V Pl sd (x_think K V S.2.2.2.2 t).1 (x_think K V S.2.2.2.2 t).2.2 z nb I2 ∧ (∀ t', (x_think K V S.2.2.2.2 t).1 = .inr t' → r_th sd (x_th1 (x_think K V S.2.2.2.2 t).2.1) I2) ∧ ∀ c k, r_tf sd c k → I2 c k = I1 c k := by
      unfold x_think
      cases hx : x_ps K 132 (.inr t) with
      | inl f =>
        rw [hx] at a2
        obtain ⟨I2, e1, e2, _, e4⟩ := r_th_end d J hsd a2 (m := 0) (by omega) (Or.inl ⟨f, rfl⟩) (a := []) rfl (fun t w => absurd w (by simp))
        exact ⟨I2, b_m_tellThinks_0 d I1 J _ e1, e2, fun t' w => absurd w (by simp), e4⟩
      | inr t' =>
        rw [hx] at a2
        obtain ⟨I2, e1, e2, e3, e4⟩ := r_thsL d J hP hsd 4 0 [] S.2.2.2.2 t' I1 rfl rfl a2 (fun j v w => absurd w (by simp))
        exact ⟨I2, b_m_tellThinks_0 d I1 J _ e1, e2, e3, e4⟩
    obtain ⟨I2, e1, e2, e3, e4⟩ := res
    rw [e1, am_bv_v] at b
    have frs : ∀ c k, (c ≠ 68 ∨ k ∉ r_sl) → c ≠ 80 → c ≠ 81 → I2 c k = I c k := fun c k g1 g2 g3 => (e4 c k ⟨g1, Or.inl g2, Or.inl g3⟩).trans (a3 c k g1)
    refine ⟨I2, J, z, nb, b _ rfl, e2, fun t' ht => ⟨⟨C1.k (fun c k hc => frs c k (by
      rcases hc with rfl | rfl | rfl | ⟨rfl, rfl⟩
      · exact Or.inl (by decide)
      · exact Or.inl (by decide)
      · exact Or.inl (by decide)
      · exact Or.inr (by decide)) (by omega) (by omega)), ⟨(frs 82 sd (Or.inl (by decide)) (by decide) (by decide)).trans C2, (frs 83 sd (Or.inl (by decide)) (by decide) (by decide)).trans C3, (frs 84 sd (Or.inl (by decide)) (by decide) (by decide)).trans C4⟩, e3 t' ht, C6.k (fun c k hc => frs c k (Or.inl (by omega)) (by omega) (by omega)) (fun c k hc _ => frs c k (Or.inl (by omega)) (by omega) (by omega)) (fun c k hc _ => frs c k (Or.inl (by omega)) (by omega) (by omega)) (Nat.le_refl _) (Nat.le_refl _)⟩, by have := up t' ht; omega, hz0, hnb, by have := up t' ht; omega⟩, fun _ _ _ => rfl, fun c k hk => ?_⟩
    obtain ⟨r1, r2, r3, r4, r5, r6⟩ := hk
    have r1' : c ≠ 68 ∨ k ∉ r_sl := r1.imp id (fun q w => q (List.mem_cons_of_mem _ w))
    exact (e4 c k ⟨r1', by omega, by omega⟩).trans (a3 c k r1')
  rw [if_neg p4] at up ⊢
  rw [if_neg (fun x => p4 ((inj 132 24 (by decide) (by decide)).mp x))] at b
  have num : ∀ (w lo hi : Int32) (cl : Nat), w ≠ 0 → K t = w → (cl = 82 ∨ cl = 83 ∨ cl = 84) → (∀ r, am_bv (f_m_goesOn_0 d I J) (fun I1 J1 => am_bi (f_m_bounded_0 d lo hi I1 J1) (fun y I2 J2 => am_at (I1 68 19) 2 (fun j => am_bv (f_m_must_0 d 4 (am_upd I2 cl j y) J2) (fun I3 J3 => some (none, I3, J3))) none)) = some r → f_m_tell_0 d I J = some r) → ∃ I', f_m_tell_0 d I J = some (none, I', J) ∧ r_at K V Pl sd (x_nst K w t) (x_nsl V lo hi S.2.2.2.2 t) z nb I' ∧ (∀ t', x_nst K w t = .inr t' → r_bd sd S.1 I' J ∧ (I' cl sd = V (t + 1) ∧ ∀ c, c ≠ cl → c ≠ 68 → I' c sd = I c sd) ∧ r_th sd S.2.2.1 I' ∧ r_lw sd S.2.2.2.1 z nb I' ∧ t ≤ t') ∧ ∀ c k, r_rf sd c k → I' c k = I c k := fun w lo hi cl hw0 hK hcl run => by
    obtain ⟨I', a1, a2, a3, a4⟩ := r_num d J hP hsd (cl := cl) (lo := lo) (hi := hi) (by omega) hw0 hK h
    refine ⟨I', run _ a1, a2, fun t' ht => ⟨C1.k (fun c k hc => a4 c k (by
      rcases hc with rfl | rfl | rfl | ⟨rfl, rfl⟩
      · exact Or.inl (by decide)
      · exact Or.inl (by decide)
      · exact Or.inl (by decide)
      · exact Or.inr (by decide)) (by omega)), ⟨a3 t' ht, fun c g1 g2 => a4 c sd (Or.inl g2) (Or.inl g1)⟩, C5.k (fun c k hc => a4 c k (Or.inl (by omega)) (by omega)), C6.k (fun c k hc => a4 c k (Or.inl (by omega)) (by omega)) (fun c k hc _ => a4 c k (Or.inl (by omega)) (by omega)) (fun c k hc _ => a4 c k (Or.inl (by omega)) (by omega)) (Nat.le_refl _) (Nat.le_refl _), ?_⟩, fun c k hk => ?_⟩
    · obtain ⟨k0, k1, k2, k3', _⟩ := x_nst_y ht
      omega
    · have := hk.2.2.1
      exact a4 c k hk.sl (by omega)
  by_cases p5 : K t = 133
  · rw [if_pos p5]
    rw [if_pos ((inj 133 25 (by decide) (by decide)).mpr p5)] at b
    obtain ⟨I', a1, a2, a3, a4⟩ := num 133 0 9 82 (by decide) p5 (by omega) (fun r hr => b r hr)
    exact ⟨I', J, z, nb, a1, a2, fun t' ht => by
      obtain ⟨g1, ⟨g2, g3⟩, g4, g5, g6⟩ := a3 t' ht
      exact ⟨⟨g1, ⟨g2, (g3 83 (by decide) (by decide)).trans C3, (g3 84 (by decide) (by decide)).trans C4⟩, g4, g5⟩, by omega, hz0, hnb, by omega⟩, fun _ _ _ => rfl, a4⟩
  rw [if_neg p5]
  rw [if_neg (fun x => p5 ((inj 133 25 (by decide) (by decide)).mp x))] at b
  by_cases p6 : K t = 134
  · rw [if_pos p6]
    rw [if_pos ((inj 134 26 (by decide) (by decide)).mpr p6)] at b
    obtain ⟨I', a1, a2, a3, a4⟩ := num 134 1 500 83 (by decide) p6 (by omega) (fun r hr => b r hr)
    exact ⟨I', J, z, nb, a1, a2, fun t' ht => by
      obtain ⟨g1, ⟨g2, g3⟩, g4, g5, g6⟩ := a3 t' ht
      exact ⟨⟨g1, ⟨(g3 82 (by decide) (by decide)).trans C2, g2, (g3 84 (by decide) (by decide)).trans C4⟩, g4, g5⟩, by omega, hz0, hnb, by omega⟩, fun _ _ _ => rfl, a4⟩
  rw [if_neg p6]
  rw [if_neg (fun x => p6 ((inj 134 26 (by decide) (by decide)).mp x))] at b
  by_cases p7 : K t = 135
  · rw [if_pos p7]
    rw [if_pos ((inj 135 27 (by decide) (by decide)).mpr p7)] at b
    obtain ⟨I', a1, a2, a3, a4⟩ := num 135 0 999 84 (by decide) p7 (by omega) (fun r hr => b r hr)
    exact ⟨I', J, z, nb, a1, a2, fun t' ht => by
      obtain ⟨g1, ⟨g2, g3⟩, g4, g5, g6⟩ := a3 t' ht
      exact ⟨⟨g1, ⟨(g3 82 (by decide) (by decide)).trans C2, (g3 83 (by decide) (by decide)).trans C3, g2⟩, g4, g5⟩, by omega, hz0, hnb, by omega⟩, fun _ _ _ => rfl, a4⟩
  rw [if_neg p7]
  rw [if_neg (fun x => p7 ((inj 135 27 (by decide) (by decide)).mp x))] at b
  obtain ⟨I', a1, a2, a3⟩ := r_fail d J h (f := 1) (Or.inl rfl)
  rw [a1, am_bv_v] at b
  exact ⟨I', J, z, nb, b _ rfl, a2, fun t' w => absurd w (by simp), fun _ _ _ => rfl, fun c k hk => a3 c k (frk hk)⟩
end ZA

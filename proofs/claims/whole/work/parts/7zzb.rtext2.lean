/-! a text: the reference's loop -/
def r_fin (Pl : Nat → Int32) (sd : Nat) (I : am_I) (J : am_J) : x_St × x_S → Prop
  | (.inl (f, a), _) => (f = 1 ∨ f = 2) ∧ I 68 13 = f ∧ I 68 14 = Pl a
  | (.inr _, S) => I 68 13 = 0 ∧ I 68 15 = S.2.2.2.2.1 ∧ (S.2.2.2.2.1 ≠ 0 → I 68 16 = Pl S.2.2.2.2.2) ∧ ∃ z nb, 420 * sd ≤ z ∧ z ≤ 420 * sd + 400 ∧ 130 * sd ≤ nb ∧ nb ≤ 130 * sd + 80 ∧ r_C sd S z nb I J
theorem r_textL (d : Nat) {K V Pl : Nat → Int32} {Sm : Nat → Nat → Bool} {sd : Nat} (hP : ∀ i j, i < j → j ≤ 400 → x_rc K j → Pl i < Pl j) (hsd : sd < 2) : ∀ (n : Nat) (S : x_S) (z nb t : Nat) (I : am_I) (J : am_J), 401 ≤ t + n → r_sm K Sm J → r_at K V Pl sd (.inr t) S.2.2.2.2 z nb I → r_C sd S z nb I J → (∀ q ∈ S.1, q.1 < t ∧ K q.1 = 2) → z ≤ 420 * sd + t → 420 * sd ≤ z → 130 * sd ≤ nb → 5 * nb ≤ 650 * sd + t → ∃ I' J', (∀ r, f_m_read_134 d I' J' = some r → f_m_read_112 d I J = some r) ∧ r_fin Pl sd I' J' (x_text K V Sm n S t) ∧ (∀ c k, c ≠ 76 → J' c k = J c k) ∧ ∀ c k, r_rf sd c k → I' c k = I c k := by
  intro n
  induction n with
  | zero =>
    intro S z nb t I J h1 _ h _ _ _ _ _ _
    have := h.2.2.2.2.2.1
    omega
  | succ n ih =>
    intro S z nb t I J h1 hS h hC hn hz hz0 hnb hnb2
    have ht := h.2.2.2.2.2.1
    have h13 : I 68 13 = 0 := h.2.2.2.2.2.2.1
    have b := b_m_read_112 d I J
    rw [if_pos h13, r_is d J h (w := 0) (w' := 0) (by decide) (by decide), am_bi_i] at b
    unfold x_text
    by_cases q : K t = 0
    · rw [if_pos q]
      rw [am_tf_t q, if_neg (by decide)] at b
      obtain ⟨_, _, _, _, _, _, _, _, _, q6, q7, _⟩ := h
      exact ⟨I, J, fun r hr => b _ hr, ⟨h13, q6, fun w => (q7 w).1, z, nb, hz0, by omega, hnb, by omega, hC⟩, fun _ _ _ => rfl, fun _ _ _ => rfl⟩
    · rw [if_neg q]
      rw [am_tf_f q, if_pos rfl] at b
      obtain ⟨I1, J1, z1, nb1, a1, a2, a3, a4, a5⟩ := r_tell d J hP hS hsd h hC hn hz hz0 hnb hnb2
      rw [a1, am_bv_v] at b
      cases hx : (x_tell K V Sm S t).1 with
      | inl f =>
        rw [hx] at a2
        have d0 : ¬ I1 68 13 = 0 := fun q => by have := a2.dead; rw [q] at this; exact absurd this (by decide)
        have b2 := b_m_read_112 d I1 J1
        rw [if_neg d0] at b2
        obtain ⟨f, a⟩ := f
        obtain ⟨_, _, _, _, g1, g2, g3, _⟩ := a2
        exact ⟨I1, J1, fun r hr => b _ (b2 _ hr), ⟨g1, g2, g3⟩, a4, a5⟩
      | inr t' =>
        obtain ⟨g1, g2, g3⟩ := x_tell_g h.2.2.2.2.2.2.2.2.1 (fun q hq => (hn q hq).1) hx
        have gk := x_tell_k (fun q hq => (hn q hq).2) hx
        rw [hx] at a2
        obtain ⟨c1, c2, c3, c4, c5⟩ := a3 t' hx
        obtain ⟨I2, J2, e1, e2, e3, e4⟩ := ih (x_tell K V Sm S t).2 z1 nb1 t' I1 J1 (by omega) (fun i j hi hj ri rj ki kj => by rw [a4 74 i (by decide), a4 74 j (by decide)]; exact hS i j hi hj ri rj ki kj) a2 c1 (fun q hq => ⟨g3 q hq, gk q hq⟩) c2 c3 c4 c5
        exact ⟨I2, J2, fun r hr => b _ (e1 r hr), e2, fun c k hc => (e3 c k hc).trans (a4 c k hc), fun c k hc => (e4 c k hc).trans (a5 c k hc)⟩

/-! the class's E -/
theorem x_fr.fn {z : Nat} {I I' : am_I} (h : x_fr z I I') {c : Nat} (hc : ∀ q ∈ x_fc, q.1 ≠ c) (h1 : c ≠ 27) (h2 : c ≠ 28) : I' c = I c := by
  funext k
  exact h c k (fun q => hc _ q rfl) (Or.inl h1) (Or.inl h2)
def x_sl (t : Nat) (r : x_Re) : Prop := match r with
  | .inl _ => True
  | .inr (c, t') => t + c.length ≤ t' ∧ t < t'
theorem x_go_sl {K : Nat → Int32} {w : Int32} {t t0 : Nat} {c : x_Cd} (h : t0 + c.length ≤ t + 1) (h2 : t0 ≤ t) : x_sl t0 (x_go K w t c) := by
  unfold x_go
  by_cases q : K t = w
  · rw [if_pos q]
    by_cases q2 : 400 ≤ t
    · rw [if_pos q2]; exact trivial
    · rw [if_neg q2]; exact ⟨h, by omega⟩
  · rw [if_neg q]; exact trivial
theorem x_unit_sl {K V : Nat → Int32} {b : Bool} {S : Nat → x_Re} (hS : ∀ t, x_sl t (S t)) (t : Nat) : x_sl t (x_unit K V b S t) := by
  unfold x_unit
  by_cases h1 : K t = 3
  · rw [if_pos h1]; exact x_go_sl (Nat.le_refl _) (Nat.le_refl _)
  rw [if_neg h1]
  by_cases h2 : 139 ≤ K t ∧ K t ≤ 144
  · rw [if_pos h2]; exact x_go_sl (Nat.le_refl _) (Nat.le_refl _)
  rw [if_neg h2]
  by_cases h3 : K t = 40
  · rw [if_pos h3]
    by_cases h4 : b = true
    · rw [if_pos h4]; exact trivial
    rw [if_neg h4]
    by_cases h5 : 400 ≤ t
    · rw [if_pos h5]; exact trivial
    rw [if_neg h5]
    have q := hS (t + 1)
    cases hr : S (t + 1) with
    | inl f => exact trivial
    | inr p =>
      obtain ⟨c, t'⟩ := p
      rw [hr] at q
      obtain ⟨q1, q2⟩ := q
      exact x_go_sl (by omega) (by omega)
  · rw [if_neg h3]; exact trivial
theorem x_tail_sl {K : Nat → Int32} {w1 w2 o1 o2 : Int32} {U : Nat → x_Re} (hU : ∀ t, x_sl t (U t)) (t0 : Nat) : ∀ n c t, t0 + c.length ≤ t → t0 < t → x_sl t0 (x_tail K w1 w2 o1 o2 U n c t) := by
  intro n
  induction n with
  | zero => intro c t h1 h2; exact ⟨h1, h2⟩
  | succ n ih =>
    intro c t h1 h2
    unfold x_tail
    by_cases q : K t = w1 ∨ K t = w2
    · rw [if_pos q]
      by_cases h5 : 400 ≤ t
      · rw [if_pos h5]; exact trivial
      rw [if_neg h5]
      have u := hU (t + 1)
      cases hr : U (t + 1) with
      | inl f => exact trivial
      | inr p =>
        obtain ⟨c', t'⟩ := p
        rw [hr] at u
        obtain ⟨u1, u2⟩ := u
        refine ih _ t' ?_ (by omega)
        rw [List.length_append, List.length_append]
        show t0 + (c.length + c'.length + 1) ≤ t'
        omega
    · rw [if_neg q]; exact ⟨h1, h2⟩
theorem x_lv_sl {K : Nat → Int32} {w1 w2 o1 o2 : Int32} {U : Nat → x_Re} (hU : ∀ t, x_sl t (U t)) (t : Nat) : x_sl t (x_lv K w1 w2 o1 o2 U t) := by
  unfold x_lv
  have u := hU t
  cases hr : U t with
  | inl f => exact trivial
  | inr p =>
    obtain ⟨c, t'⟩ := p
    rw [hr] at u
    exact x_tail_sl hU t 400 c t' u.1 u.2
theorem x_E_sl {K V : Nat → Int32} : ∀ k t, x_sl t (x_E K V k t) := by
  intro k
  induction k with
  | zero => exact x_lv_sl (x_lv_sl (x_unit_sl (fun _ => trivial)))
  | succ k ih => exact x_lv_sl (x_lv_sl (x_unit_sl ih))
/-- after a fault: what may change -/
def x_dd (z : Nat) (I I' : am_I) : Prop := (∃ z', z ≤ z' ∧ z' ≤ 400 ∧ I' 26 4 = nI z') ∧ ∀ c k, (c, k) ≠ (26, 4) → (c ≠ 27 ∨ k < z) → (c ≠ 28 ∨ k < z) → I' c k = I c k
theorem x_ne {c k a b : Nat} (h : c ≠ a) : (c, k) ≠ (a, b) := fun q => h (congrArg Prod.fst q)
theorem x_nk {c k a b : Nat} (h : k ≠ b) : (c, k) ≠ (a, b) := fun q => h (congrArg Prod.snd q)
theorem x_dd.fr {z : Nat} {I I' : am_I} (h : x_dd z I I') : x_fr z I I' := fun c k h1 h2 h3 => h.2 c k (fun q => h1 (by rw [q]; decide)) h2 h3
theorem x_dd.trans {z z' : Nat} {I I1 I2 : am_I} (h1 : x_dd z I I1) (h2 : x_dd z' I1 I2) (h : z ≤ z') : x_dd z I I2 := ⟨by
  obtain ⟨w, a, b, c⟩ := h2.1
  exact ⟨w, by omega, b, c⟩, fun c k e1 e2 e3 => (h2.2 c k e1 (by omega) (by omega)).trans (h1.2 c k e1 e2 e3)⟩
theorem x_dd.same {z : Nat} {I : am_I} (h : I 26 4 = nI z) (hz : z ≤ 400) : x_dd z I I := ⟨⟨z, Nat.le_refl _, hz, h⟩, fun _ _ _ _ _ => rfl⟩
/-- a fault stays the fault -/
theorem x_out.dead {z z1 : Nat} {I I1 I2 : am_I} {f : Int32 × Nat} (h : x_out z I I1 (.inl f)) (hd : x_dd z1 I1 I2) (hz : z ≤ z1) : x_out z I I2 (.inl f) := by
  obtain ⟨f, a⟩ := f
  obtain ⟨h1, h2, ⟨h3, h4, ⟨t, h5, h6⟩, h7⟩, h8⟩ := h
  obtain ⟨z', d1, d2, d3⟩ := hd.1
  exact ⟨h1, h2, ⟨(hd.2 32 5 (x_ne (by decide)) (Or.inl (by decide)) (Or.inl (by decide))).trans h3, (hd.2 32 6 (x_ne (by decide)) (Or.inl (by decide)) (Or.inl (by decide))).trans h4, ⟨t, h5, (hd.2 32 3 (x_ne (by decide)) (Or.inl (by decide)) (Or.inl (by decide))).trans h6⟩, z', by omega, d2, d3⟩, h8.trans hd.fr hz⟩
section XU
variable (d : Nat) (J : am_J)
theorem s_unit_f {I : am_I} {t z : Nat} (h5 : I 32 5 ≠ 0) (h3 : I 32 3 = nI t) (ht : t ≤ 400) (h26 : I 26 4 = nI z) (hz : z ≤ 400) (x1 : Int32) : ∃ I', f_reader_readUnit_0 (d + 1) x1 I J = some (none, I', J) ∧ x_dd z I I' := by
  have b := b_reader_readUnit_0 d x1 I J
  have add : ∀ o a, ∃ y I', f_next_code_add_0 (d + 1) o a I J = some (some (.int y), I', J) ∧ x_dd z I I' ∧ ∀ w, f_reader_pass_0 (d + 1) w I' J = some (some (.int 0), I', J) := fun o a => by
    obtain ⟨y, I', z', a1, a2, a3, a4, a5⟩ := s_add2 (d + 1) J h26 hz o a
    refine ⟨y, I', a1, ⟨⟨z', a2, a3, a4⟩, a5⟩, fun w => s_pass_f (d + 1) J ?_ w⟩
    rw [a5 32 5 (x_ne (by decide)) (Or.inl (by decide)) (Or.inl (by decide))]
    exact h5
  have nop : x_dd z I I := x_dd.same h26 hz
  by_cases q : I 32 4 = 3
  · obtain ⟨y, I', a1, a2, a3⟩ := add 0 (I 9 t)
    rw [if_pos q, h3, am_at_n (by omega) (by omega), a1, am_bi_i, a3, am_bi_i] at b
    exact ⟨I', b _ rfl, a2⟩
  rw [if_neg q] at b
  by_cases q1 : I 32 4 < 139
  · rw [if_pos q1, s_pass_f (d + 1) J h5, am_bi_i, if_pos rfl, s_fail2 (d + 1) J h5, am_bv_v, s_fail2 (d + 1) J h5, am_bv_v] at b
    refine ⟨I, b _ ?_, nop⟩
    by_cases q2 : I 32 4 = 40
    · rw [if_pos q2]
      by_cases q3 : x1 ≤ 6
      · rw [if_pos q3]
      · rw [if_neg q3]
    · rw [if_neg q2]
  rw [if_neg q1] at b
  by_cases q4 : 144 < I 32 4
  · rw [if_pos q4, s_pass_f (d + 1) J h5, am_bi_i, if_pos rfl, s_fail2 (d + 1) J h5, am_bv_v, s_fail2 (d + 1) J h5, am_bv_v] at b
    refine ⟨I, b _ ?_, nop⟩
    by_cases q2 : I 32 4 = 40
    · rw [if_pos q2]
      by_cases q3 : x1 ≤ 6
      · rw [if_pos q3]
      · rw [if_neg q3]
    · rw [if_neg q2]
  · rw [if_neg q4] at b
    obtain ⟨y, I', a1, a2, a3⟩ := add 1 (I 32 4 - 139)
    rw [a1, am_bi_i, a3, am_bi_i] at b
    exact ⟨I', b _ rfl, a2⟩
theorem s_prod7_f {I : am_I} (h5 : I 32 5 ≠ 0) (x1 x2 : Int32) : f_reader_readProduct_7 d x1 x2 I J = some (none, I, J) := by
  refine b_reader_readProduct_7 d x1 x2 I J _ ?_
  by_cases q : 400 ≤ x2
  · rw [if_pos q]
  · rw [if_neg q, if_neg h5]
theorem s_prod_f {I : am_I} {t z : Nat} (h5 : I 32 5 ≠ 0) (h3 : I 32 3 = nI t) (ht : t ≤ 400) (h26 : I 26 4 = nI z) (hz : z ≤ 400) (x1 : Int32) : ∃ I', f_reader_readProduct_0 (d + 1) x1 I J = some (none, I', J) ∧ x_dd z I I' := by
  obtain ⟨I', a1, a2⟩ := s_unit_f d J h5 h3 ht h26 hz x1
  refine ⟨I', b_reader_readProduct_0 (d + 1) x1 I J _ ?_, a2⟩
  rw [a1, am_bv_v]
  exact s_prod7_f (d + 1) J (by rw [a2.2 32 5 (x_ne (by decide)) (Or.inl (by decide)) (Or.inl (by decide))]; exact h5) x1 0
theorem s_sum7_f {I : am_I} (h5 : I 32 5 ≠ 0) (x1 x2 : Int32) : f_reader_readSum_7 d x1 x2 I J = some (none, I, J) := by
  refine b_reader_readSum_7 d x1 x2 I J _ ?_
  by_cases q : 400 ≤ x2
  · rw [if_pos q]
  · rw [if_neg q, if_neg h5]
theorem s_sum_f {I : am_I} {t z : Nat} (h5 : I 32 5 ≠ 0) (h3 : I 32 3 = nI t) (ht : t ≤ 400) (h26 : I 26 4 = nI z) (hz : z ≤ 400) (x1 : Int32) : ∃ I', f_reader_readSum_0 (d + 1) x1 I J = some (none, I', J) ∧ x_dd z I I' := by
  obtain ⟨I', a1, a2⟩ := s_prod_f d J h5 h3 ht h26 hz x1
  refine ⟨I', b_reader_readSum_0 (d + 1) x1 I J _ ?_, a2⟩
  rw [a1, am_bv_v]
  exact s_sum7_f (d + 1) J (by rw [a2.2 32 5 (x_ne (by decide)) (Or.inl (by decide)) (Or.inl (by decide))]; exact h5) x1 0
end XU

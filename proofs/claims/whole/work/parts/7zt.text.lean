/-! a text: pure -/
/-- boards; step, clock, flag; thinks; laws; slip -/
abbrev x_S : Type := List x_Bd × (Int32 × Int32 × Int32) × List Int32 × (Nat → Option x_Law) × x_Sl
def x_S0 : x_S := ([], (1, 120, 0), [1], fun _ => none, (0, 0))
def x_nst (K : Nat → Int32) (w : Int32) (t : Nat) : x_St := x_ps K 59 (x_ps K 3 (x_ps K w (.inr t)))
def x_nsl (V : Nat → Int32) (lo hi : Int32) (s : x_Sl) (t : Nat) : x_Sl := x_s1 (x_badb (V (t + 1)) lo hi) 5 (t + 1) s
def x_tlaw (K V : Nat → Int32) (Sm : Nat → Nat → Bool) (kk : Nat) (w : Int32) (S : x_S) (t : Nat) : x_St × x_S :=
  ((x_law K V Sm S.1 w S.2.2.2.2 t).1, (S.1, S.2.1, S.2.2.1, x_ins S.2.2.2.1 kk (x_law K V Sm S.1 w S.2.2.2.2 t).2.2.1 (x_law K V Sm S.1 w S.2.2.2.2 t).2.1, (x_law K V Sm S.1 w S.2.2.2.2 t).2.2.2))
/-- a statement -/
def x_tell (K V : Nat → Int32) (Sm : Nat → Nat → Bool) (S : x_S) (t : Nat) : x_St × x_S :=
  if K t = 128 then ((x_board K V Sm S.1 S.2.2.2.2 t).1, ((x_board K V Sm S.1 S.2.2.2.2 t).2.1, S.2.1, S.2.2.1, S.2.2.2.1, (x_board K V Sm S.1 S.2.2.2.2 t).2.2))
  else if K t = 129 then x_tlaw K V Sm 0 129 S t
  else if K t = 130 then x_tlaw K V Sm 1 130 S t
  else if K t = 131 then x_tlaw K V Sm 2 131 S t
  else if K t = 132 then ((x_think K V S.2.2.2.2 t).1, (S.1, S.2.1, x_th1 (x_think K V S.2.2.2.2 t).2.1, S.2.2.2.1, (x_think K V S.2.2.2.2 t).2.2))
  else if K t = 133 then (x_nst K 133 t, (S.1, (V (t + 1), S.2.1.2.1, S.2.1.2.2), S.2.2.1, S.2.2.2.1, x_nsl V 0 9 S.2.2.2.2 t))
  else if K t = 134 then (x_nst K 134 t, (S.1, (S.2.1.1, V (t + 1), S.2.1.2.2), S.2.2.1, S.2.2.2.1, x_nsl V 1 500 S.2.2.2.2 t))
  else if K t = 135 then (x_nst K 135 t, (S.1, (S.2.1.1, S.2.1.2.1, V (t + 1)), S.2.2.1, S.2.2.2.1, x_nsl V 0 999 S.2.2.2.2 t))
  else (.inl (1, t), S)
def x_text (K V : Nat → Int32) (Sm : Nat → Nat → Bool) : Nat → x_S → Nat → x_St × x_S
  | 0, S, t => (.inr t, S)
  | n + 1, S, t => if K t = 0 then (.inr t, S) else match (x_tell K V Sm S t).1 with
    | .inl f => (.inl f, (x_tell K V Sm S t).2)
    | .inr t' => x_text K V Sm n (x_tell K V Sm S t).2 t'
theorem x_nst_y {K : Nat → Int32} {w : Int32} {t t' : Nat} (h : x_nst K w t = .inr t') : K t = w ∧ K (t + 1) = 3 ∧ K (t + 2) = 59 ∧ t' = t + 3 ∧ t + 2 < 400 ∧ x_ps K w (.inr t) = .inr (t + 1) ∧ x_ps K 3 (.inr (t + 1)) = .inr (t + 2) := by
  unfold x_nst at h
  obtain ⟨t2, e2, k2, l2, m2⟩ := x_ps_y h
  obtain ⟨t1, e1, k1, l1, m1⟩ := x_ps_y e2
  obtain ⟨t0, e0, k0, l0, m0⟩ := x_ps_y e1
  have e0' : t = t0 := Sum.inr.inj e0
  subst e0' m0 m1
  exact ⟨k0, k1, k2, m2, l2, x_ps_i k0 l0, x_ps_i k1 l1⟩
/-- what a statement that is read leaves: on, within the things, names behind -/
theorem x_ths_g {K V : Nat → Int32} : ∀ (n : Nat) (a : List Int32) (s : x_Sl) (t : Nat), x_rc K t → x_ok K (x_ths K V n a s t).1 ∧ x_up (t + 1) (x_ths K V n a s t).1 := by
  intro n
  induction n with
  | zero =>
    intro a s t h
    unfold x_ths
    by_cases q : K t = 3
    · rw [if_pos q]; exact ⟨fun t w => absurd w (by simp), fun t w => absurd w (by simp)⟩
    · rw [if_neg q]; exact ⟨x_ps_ok (x_ok.i h) (by decide), x_ps_up (x_up.i t)⟩
  | succ n ih =>
    intro a s t h
    unfold x_ths
    by_cases q : K t = 3
    · rw [if_pos q]
      by_cases q2 : 400 ≤ t
      · rw [if_pos q2]; exact ⟨fun t w => absurd w (by simp), fun t w => absurd w (by simp)⟩
      · rw [if_neg q2]
        obtain ⟨h1, h2⟩ := ih (a ++ [V t]) (x_s1 (x_badb (V t) 0 60) 5 t s) (t + 1) (h.s q (by decide))
        exact ⟨h1, h2.le (by omega)⟩
    · rw [if_neg q]; exact ⟨x_ps_ok (x_ok.i h) (by decide), x_ps_up (x_up.i t)⟩
theorem x_ifs_g {K V : Nat → Int32} : ∀ (n : Nat) (a : List x_Br) (t : Nat), x_rc K t → x_ok K (x_ifs K V n a t).1 ∧ x_up (t + 1) (x_ifs K V n a t).1 := by
  have fin : ∀ (t : Nat), x_rc K t → x_ok K (x_ps K 59 (x_rs (x_E K V 6 t))) ∧ x_up (t + 1) (x_ps K 59 (x_rs (x_E K V 6 t))) := fun t h =>
    ⟨x_ps_ok (x_pe_ok (V := V) (x_ok.i h)) (by decide), (x_ps_up (x_pe_up (V := V) (K := K) (x_up.i t))).le (by omega)⟩
  intro n
  induction n with
  | zero =>
    intro a t h
    unfold x_ifs
    by_cases q : K t = 136
    · rw [if_pos q]; exact ⟨fun t w => absurd w (by simp), fun t w => absurd w (by simp)⟩
    · rw [if_neg q]; exact fin t h
  | succ n ih =>
    intro a t h
    unfold x_ifs
    by_cases q : K t = 136
    · rw [if_pos q]
      have o : x_ok K (x_ps K 138 (x_rs (x_r3 K V t))) := x_ps_ok (x_pe_ok (x_ps_ok (x_pe_ok (x_ps_ok (x_pe_ok (x_ps_ok (x_ok.i h) (by decide))) (by decide))) (by decide))) (by decide)
      have u : x_up (t + 1) (x_ps K 138 (x_rs (x_r3 K V t))) := (x_ps_up (x_pe_up (x_ps_up (x_pe_up (x_ps_up (x_pe_up (x_ps_up (x_up.i t)))))))).le (by omega)
      cases hx : x_ps K 138 (x_rs (x_r3 K V t)) with
      | inl f => exact ⟨fun t w => absurd w (by simp), fun t w => absurd w (by simp)⟩
      | inr t' =>
        obtain ⟨h1, h2⟩ := ih (a ++ [x_br K V t]) t' (o t' hx)
        have := u t' hx
        exact ⟨h1, h2.le (by omega)⟩
    · rw [if_neg q]; exact fin t h
theorem x_law_g {K V : Nat → Int32} {Sm : Nat → Nat → Bool} {bs : List x_Bd} {w : Int32} (hw : w ≠ 0) (s : x_Sl) {t : Nat} (h : x_rc K t) : x_ok K (x_law K V Sm bs w s t).1 ∧ x_up (t + 1) (x_law K V Sm bs w s t).1 := by
  have o : x_ok K (x_lst K w t) := x_ps_ok (x_ps_ok (x_ps_ok (x_ok.i h) hw) (by decide)) (by decide)
  have u : x_up (t + 3) (x_lst K w t) := x_ps_up (x_ps_up (x_ps_up (x_up.i t)))
  unfold x_law
  cases hx : x_lst K w t with
  | inl f => exact ⟨fun t w => absurd w (by simp), fun t w => absurd w (by simp)⟩
  | inr t' =>
    obtain ⟨h1, h2⟩ := x_ifs_g (K := K) (V := V) 4 [] t' (o t' hx)
    have := u t' hx
    exact ⟨h1, h2.le (by omega)⟩
theorem x_think_g {K V : Nat → Int32} (s : x_Sl) {t : Nat} (h : x_rc K t) : x_ok K (x_think K V s t).1 ∧ x_up (t + 1) (x_think K V s t).1 := by
  have o : x_ok K (x_ps K 132 (.inr t)) := x_ps_ok (x_ok.i h) (by decide)
  have u : x_up (t + 1) (x_ps K 132 (.inr t)) := x_ps_up (x_up.i t)
  unfold x_think
  cases hx : x_ps K 132 (.inr t) with
  | inl f => exact ⟨fun t w => absurd w (by simp), fun t w => absurd w (by simp)⟩
  | inr t' =>
    obtain ⟨h1, h2⟩ := x_ths_g (K := K) (V := V) 4 [] s t' (o t' hx)
    have := u t' hx
    exact ⟨h1, h2.le (by omega)⟩
theorem x_tell_g {K V : Nat → Int32} {Sm : Nat → Nat → Bool} {S : x_S} {t : Nat} (h : x_rc K t) (hn : ∀ q ∈ S.1, q.1 < t) {t' : Nat} (e : (x_tell K V Sm S t).1 = .inr t') : x_rc K t' ∧ t < t' ∧ ∀ q ∈ (x_tell K V Sm S t).2.1, q.1 < t' := by
  have law : ∀ (kk : Nat) (w : Int32), w ≠ 0 → (x_tlaw K V Sm kk w S t).1 = .inr t' → x_rc K t' ∧ t < t' ∧ ∀ q ∈ (x_tlaw K V Sm kk w S t).2.1, q.1 < t' := fun kk w hw e => by
    obtain ⟨g1, g2⟩ := x_law_g (K := K) (V := V) (Sm := Sm) (bs := S.1) hw S.2.2.2.2 h
    have l : t + 1 ≤ t' := g2 t' e
    exact ⟨g1 t' e, l, fun q hq => by have := hn q hq; omega⟩
  have num : ∀ (w : Int32), w ≠ 0 → x_nst K w t = .inr t' → x_rc K t' ∧ t < t' ∧ ∀ q ∈ S.1, q.1 < t' := fun w hw e => by
    obtain ⟨k0, k1, k2, k3, _⟩ := x_nst_y e
    subst k3
    exact ⟨((h.s k0 hw).s k1 (by decide)).s k2 (by decide), by omega, fun q hq => by have := hn q hq; omega⟩
  unfold x_tell at e ⊢
  by_cases q0 : K t = 128
  · rw [if_pos q0] at e ⊢
    unfold x_board at e ⊢
    by_cases q : S.1.length = 6
    · rw [if_pos q] at e; exact absurd e (by simp)
    · rw [if_neg q] at e ⊢
      obtain ⟨k0, k1, k2, k3, k4, k5, _⟩ := x_bst_y e
      subst k5
      refine ⟨((((h.s k0 (by decide)).s k1 (by decide)).s k2 (by decide)).s k3 (by decide)).s k4 (by decide), by omega, fun q hq => ?_⟩
      rcases List.mem_append.mp hq with hq | hq
      · have := hn q hq; omega
      · have : q = (t + 1, V (t + 2), V (t + 3)) := by simpa using hq
        rw [this]
        show t + 1 < t + 5
        omega
  rw [if_neg q0] at e ⊢
  by_cases q1 : K t = 129
  · rw [if_pos q1] at e ⊢; exact law 0 129 (by decide) e
  rw [if_neg q1] at e ⊢
  by_cases q2 : K t = 130
  · rw [if_pos q2] at e ⊢; exact law 1 130 (by decide) e
  rw [if_neg q2] at e ⊢
  by_cases q3 : K t = 131
  · rw [if_pos q3] at e ⊢; exact law 2 131 (by decide) e
  rw [if_neg q3] at e ⊢
  by_cases q4 : K t = 132
  · rw [if_pos q4] at e ⊢
    obtain ⟨g1, g2⟩ := x_think_g (K := K) (V := V) S.2.2.2.2 h
    have l : t + 1 ≤ t' := g2 t' e
    exact ⟨g1 t' e, l, fun q hq => by have := hn q hq; omega⟩
  rw [if_neg q4] at e ⊢
  by_cases q5 : K t = 133
  · rw [if_pos q5] at e ⊢; exact num 133 (by decide) e
  rw [if_neg q5] at e ⊢
  by_cases q6 : K t = 134
  · rw [if_pos q6] at e ⊢; exact num 134 (by decide) e
  rw [if_neg q6] at e ⊢
  by_cases q7 : K t = 135
  · rw [if_pos q7] at e ⊢; exact num 135 (by decide) e
  rw [if_neg q7] at e ⊢
  exact absurd e (by simp)

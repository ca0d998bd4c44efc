/-! the class's E, whole -/
theorem s_E (J : am_J) : ∀ k, k ≤ 6 → ∀ (e : Nat) (K V : Nat → Int32) (I : am_I) (t z : Nat), I 8 = K → I 9 = V → x_at t z I → ∃ I', f_reader_readSum_0 (e + k + 1) (nI (7 - k)) I J = some (none, I', J) ∧ x_out z I I' (x_E K V k t) := by
  intro k
  induction k with
  | zero =>
    intro _ e K V I t z hK hV h
    have hu := fun (I : am_I) (t z : Nat) (hK : I 8 = K) (hV : I 9 = V) (h : x_at t z I) => s_unit (b := true) (S := fun t => .inl (2, t)) (x1 := nI (7 - 0)) e J (Or.inl ⟨rfl, by decide⟩) hK hV h
    have hp := fun (I : am_I) (t z : Nat) (hK : I 8 = K) (hV : I 9 = V) (h : x_at t z I) => s_prod e J (x_unit_sl (S := fun t => .inl (2, t)) (fun _ => trivial)) hu (fun I t z h5 h3 ht h26 hz => s_unit_f e J h5 h3 ht h26 hz (nI (7 - 0))) hK hV h
    exact s_sum e J (x_lv_sl (x_unit_sl (S := fun t => .inl (2, t)) (fun _ => trivial))) hp (fun I t z h5 h3 ht h26 hz => s_prod_f e J h5 h3 ht h26 hz (nI (7 - 0))) hK hV h
  | succ k ih =>
    intro hk e K V I t z hK hV h
    have e1 : nI (7 - (k + 1)) + 1 = nI (7 - k) := by rw [nI_1]; congr 1; omega
    have hu := fun (I : am_I) (t z : Nat) (hK : I 8 = K) (hV : I 9 = V) (h : x_at t z I) => s_unit (b := false) (S := x_E K V k) (x1 := nI (7 - (k + 1))) (e + k + 1) J (Or.inr ⟨rfl, show nI (7 - (k + 1)) ≤ (6 : Int32) from nI_le (b := 6) (by omega) (by omega), fun I t z hK hV h => by
      rw [e1]
      exact ih (by omega) e K V I t z hK hV h⟩) hK hV h
    have hp := fun (I : am_I) (t z : Nat) (hK : I 8 = K) (hV : I 9 = V) (h : x_at t z I) => s_prod (e + k + 1) J (x_unit_sl (x_E_sl k)) hu (fun I t z h5 h3 ht h26 hz => s_unit_f (e + k + 1) J h5 h3 ht h26 hz (nI (7 - (k + 1)))) hK hV h
    exact s_sum (e + k + 1) J (x_lv_sl (x_unit_sl (x_E_sl k))) hp (fun I t z h5 h3 ht h26 hz => s_prod_f (e + k + 1) J h5 h3 ht h26 hz (nI (7 - (k + 1)))) hK hV h
/-- where an E ends no sign stands that goes on with it -/
def x_ed (K : Nat → Int32) (w1 w2 : Int32) (r : x_Re) : Prop := match r with
  | .inl _ => True
  | .inr (_, t') => t' ≤ 400 ∧ ¬ (K t' = w1 ∨ K t' = w2)
def x_to (r : x_Re) : Prop := match r with
  | .inl (f, a) => (f = 1 ∨ f = 2)
  | .inr (_, t') => t' ≤ 400
theorem x_go_to (K : Nat → Int32) (w : Int32) (t : Nat) (c : x_Cd) : x_to (x_go K w t c) := by
  unfold x_go
  by_cases q : K t = w
  · rw [if_pos q]
    by_cases q2 : 400 ≤ t
    · rw [if_pos q2]; exact Or.inr rfl
    · rw [if_neg q2]; show t + 1 ≤ 400; omega
  · rw [if_neg q]; exact Or.inl rfl
theorem x_unit_to {K V : Nat → Int32} {b : Bool} {S : Nat → x_Re} (hS : ∀ t, x_to (S t)) (t : Nat) : x_to (x_unit K V b S t) := by
  unfold x_unit
  by_cases h1 : K t = 3
  · rw [if_pos h1]; exact x_go_to _ _ _ _
  rw [if_neg h1]
  by_cases h2 : 139 ≤ K t ∧ K t ≤ 144
  · rw [if_pos h2]; exact x_go_to _ _ _ _
  rw [if_neg h2]
  by_cases h3 : K t = 40
  · rw [if_pos h3]
    by_cases h4 : b = true
    · rw [if_pos h4]; exact Or.inr rfl
    rw [if_neg h4]
    by_cases h5 : 400 ≤ t
    · rw [if_pos h5]; exact Or.inr rfl
    rw [if_neg h5]
    have q := hS (t + 1)
    cases hr : S (t + 1) with
    | inl f => rw [hr] at q; exact q
    | inr p =>
      obtain ⟨c, t'⟩ := p
      exact x_go_to _ _ _ _
  · rw [if_neg h3]; exact Or.inl rfl
theorem x_tail_ed {K : Nat → Int32} {w1 w2 o1 o2 : Int32} {U : Nat → x_Re} (hU : ∀ t, x_sl t (U t)) (hT : ∀ t, x_to (U t)) : ∀ n c t, t ≤ 400 → 401 ≤ t + n → x_ed K w1 w2 (x_tail K w1 w2 o1 o2 U n c t) ∧ x_to (x_tail K w1 w2 o1 o2 U n c t) := by
  intro n
  induction n with
  | zero => intro c t h1 h2; omega
  | succ n ih =>
    intro c t h1 h2
    unfold x_tail
    by_cases q : K t = w1 ∨ K t = w2
    · rw [if_pos q]
      by_cases h5 : 400 ≤ t
      · rw [if_pos h5]; exact ⟨trivial, Or.inr rfl⟩
      rw [if_neg h5]
      have u := hU (t + 1)
      have v := hT (t + 1)
      cases hr : U (t + 1) with
      | inl f => rw [hr] at v; exact ⟨trivial, v⟩
      | inr p =>
        obtain ⟨c', t'⟩ := p
        rw [hr] at u v
        have u2 : t + 1 < t' := u.2
        exact ih _ t' v (by omega)
    · rw [if_neg q]; exact ⟨⟨h1, q⟩, h1⟩
theorem x_lv_ed {K : Nat → Int32} {w1 w2 o1 o2 : Int32} {U : Nat → x_Re} (hU : ∀ t, x_sl t (U t)) (hT : ∀ t, x_to (U t)) (t : Nat) : x_ed K w1 w2 (x_lv K w1 w2 o1 o2 U t) ∧ x_to (x_lv K w1 w2 o1 o2 U t) := by
  unfold x_lv
  have u := hU t
  have v := hT t
  cases hr : U t with
  | inl f => rw [hr] at v; exact ⟨trivial, v⟩
  | inr p =>
    obtain ⟨c, t'⟩ := p
    rw [hr] at u v
    have u2 : t < t' := u.2
    exact x_tail_ed hU hT 400 c t' v (by omega)
theorem x_E_ed {K V : Nat → Int32} : ∀ k t, x_ed K 43 45 (x_E K V k t) ∧ x_to (x_E K V k t) := by
  intro k
  induction k with
  | zero => exact x_lv_ed (x_lv_sl (x_unit_sl (S := fun t => .inl (2, t)) (fun _ => trivial))) (fun t => (x_lv_ed (x_unit_sl (S := fun t => .inl (2, t)) (fun _ => trivial)) (x_unit_to (S := fun t => .inl (2, t)) (fun _ => Or.inr rfl)) t).2)
  | succ k ih => exact x_lv_ed (x_lv_sl (x_unit_sl (x_E_sl k))) (fun t => (x_lv_ed (x_unit_sl (x_E_sl k)) (x_unit_to (fun t => (ih t).2)) t).2)

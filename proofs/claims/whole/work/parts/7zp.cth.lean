/-! `thinks {INT} ;`: pure, the class's -/
def x_ths (K V : Nat → Int32) : Nat → List Int32 → x_Sl → Nat → x_St × List Int32 × x_Sl
  | 0, a, s, t => if K t = 3 then (.inl (2, t), a, s) else (x_ps K 59 (.inr t), a, s)
  | n + 1, a, s, t => if K t = 3 then (if 400 ≤ t then (.inl (2, t), a, s) else x_ths K V n (a ++ [V t]) (x_s1 (x_badb (V t) 0 60) 5 t s) (t + 1)) else (x_ps K 59 (.inr t), a, s)
def x_th1 (l : List Int32) : List Int32 := if l.length = 0 then [1] else l
def c_th (l : List Int32) (I : am_I) : Prop := I 22 6 = nI l.length ∧ ∀ j v, l[j]? = some v → I 25 j = v
section ZP
variable (d : Nat) (J : am_J) {K V Pl : Nat → Int32}
theorem s_one (I : am_I) : f_next_thinkOneMinute_0 d I J = some (none, am_upd (am_upd I 22 6 1) 25 0 1, J) := b_next_thinkOneMinute_0 d I J _ (by rw [show (0 : Int32) = nI 0 from rfl, am_at_n (by omega) (by omega)])
/-- the loop's end -/
theorem c_th_end {st : x_St} {s : x_Sl} {z m : Nat} {I : am_I} (h : c_at K V Pl st s z I) (hm : m ≤ 4) (hc : I 32 5 ≠ 0 ∨ I 32 4 ≠ 3) {a : List Int32} (ha : a.length = m) (hI : ∀ t, st = .inr t → ∀ j v, a[j]? = some v → I 25 j = v) : ∃ I', f_reader_readThinks_12 d (nI m) (nI m) I J = some (none, I', J) ∧ c_at K V Pl (x_ps K 59 st) s z I' ∧ (∀ t', x_ps K 59 st = .inr t' → c_th (x_th1 a) I') ∧ ∀ c k, c ∉ ([25, 32] : List Nat) → (c ≠ 22 ∨ k ≠ 6) → I' c k = I c k := by
  have b := b_reader_readThinks_12 d (nI m) (nI m) I J
  obtain ⟨y, I1, a1, a2, _, a4⟩ := c_pass d J h 59
  have fin : ∀ r, (if nI m = 0 then am_bv (f_next_thinkOneMinute_0 d (am_upd I1 22 6 (nI m)) J) (fun I4 J5 => some (none, I4, J5)) else some (none, am_upd I1 22 6 (nI m), J) : am_Out) = some r → f_reader_readThinks_12 d (nI m) (nI m) I J = some r := fun r hr => by
    refine b _ ?_
    rw [if_neg (show ¬ (4 : Int32) < nI m from nI_nlt (a := 4) hm (by omega)), a1, am_bi_i]
    by_cases q : I 32 5 = 0
    · rw [if_pos q, if_neg (hc.resolve_left (fun w => w q))]
      exact hr
    · rw [if_neg q]
      exact hr
  have aI : ∀ t', x_ps K 59 st = .inr t' → ∀ j v, a[j]? = some v → I1 25 j = v := fun t' ht j v hj => by
    obtain ⟨t, e, _⟩ := x_ps_y ht
    rw [a4 25 j (by decide)]
    exact hI t e j v hj
  by_cases hm0 : m = 0
  · subst hm0
    rw [if_pos (show nI 0 = 0 from rfl), s_one, am_bv_v] at fin
    refine ⟨_, fin _ rfl, ((a2.u (c0 := 22) (k0 := 6) (by decide)).u (c0 := 22) (k0 := 6) (by decide)).u (c0 := 25) (k0 := 0) (by decide), fun t' _ => ?_, fun c k h1 h2 => ?_⟩
    · have e : x_th1 a = [1] := by unfold x_th1; rw [if_pos (by omega)]
      rw [e]
      refine ⟨by rw [am_uc (by decide), am_ue]; rfl, fun j v hj => ?_⟩
      cases j with
      | zero => rw [am_ue]; exact Option.some.inj hj
      | succ j => exact absurd hj (by simp)
    · simp only [List.mem_cons, List.not_mem_nil, not_or] at h1
      rw [am_uc h1.1]
      rcases h2 with h2 | h2
      · rw [am_uc h2, am_uc h2]; exact a4 c k h1.2.1
      · rw [am_uk h2, am_uk h2]; exact a4 c k h1.2.1
  · rw [if_neg (nI_ne0 (by omega) (by omega))] at fin
    refine ⟨_, fin _ rfl, a2.u (by decide), fun t' ht => ?_, fun c k h1 h2 => ?_⟩
    · have e : x_th1 a = a := by unfold x_th1; rw [if_neg (by omega)]
      rw [e]
      exact ⟨by rw [am_ue, ha], fun j v hj => by rw [am_uc (by decide)]; exact aI t' ht j v hj⟩
    · simp only [List.mem_cons, List.not_mem_nil, not_or] at h1
      rw [h2.elim am_uc am_uk]
      exact a4 c k h1.2.1
theorem c_thsL {z : Nat} : ∀ (n m : Nat) (a : List Int32) (s : x_Sl) (t : Nat) (I : am_I), n + m = 4 → a.length = m → c_at K V Pl (.inr t) s z I → (∀ j v, a[j]? = some v → I 25 j = v) → ∃ I', f_reader_readThinks_12 d (nI m) (nI m) I J = some (none, I', J) ∧ c_at K V Pl (x_ths K V n a s t).1 (x_ths K V n a s t).2.2 z I' ∧ (∀ t', (x_ths K V n a s t).1 = .inr t' → c_th (x_th1 (x_ths K V n a s t).2.1) I') ∧ ∀ c k, c ∉ ([25, 32] : List Nat) → (c ≠ 22 ∨ k ≠ 6) → I' c k = I c k := by
  intro n
  induction n with
  | zero =>
    intro m a s t I hm ha h hI
    have k4 : I 32 4 = K t := by rw [h.2.2.2.1.2.1, h.1]
    unfold x_ths
    by_cases q : K t = 3
    · rw [if_pos q]
      obtain ⟨I', a1, a2, a3⟩ := c_fail d J h (f := 2) (Or.inr rfl)
      have b := b_reader_readThinks_12 d (nI m) (nI m) I J
      rw [if_neg (show ¬ (4 : Int32) < nI m from nI_nlt (a := 4) (by omega) (by omega)), if_pos h.2.2.2.1.2.2.1, if_pos (k4.trans q), if_neg (show ¬ nI m < (4 : Int32) from nI_nlt (b := 4) (by omega) (by omega)), a1, am_bv_v] at b
      exact ⟨I', b _ rfl, a2, fun t' w => absurd w (by simp), fun c k hc _ => a3 c k (by simp at hc; omega)⟩
    · rw [if_neg q]
      exact c_th_end d J h (by omega) (Or.inr (by rw [k4]; exact q)) ha (fun _ _ => hI)
  | succ n ih =>
    intro m a s t I hm ha h hI
    have k4 : I 32 4 = K t := by rw [h.2.2.2.1.2.1, h.1]
    unfold x_ths
    by_cases q : K t = 3
    · rw [if_pos q]
      obtain ⟨y, I1, a1, a2, a3, a4⟩ := c_rint d J h 0 60
      obtain ⟨I2, i2⟩ : ∃ I2, I2 = am_upd I1 25 m y := ⟨_, rfl⟩
      have c2 := a2.u (c0 := 25) (k0 := m) (v := y) (by decide)
      rw [← i2] at c2
      have b := b_reader_readThinks_12 d (nI m) (nI m) I J
      rw [if_neg (show ¬ (4 : Int32) < nI m from nI_nlt (a := 4) (by omega) (by omega)), if_pos h.2.2.2.1.2.2.1, if_pos (k4.trans q), if_pos (show nI m < (4 : Int32) from nI_lt (b := 4) (by omega) (by omega)), a1, am_bi_i, am_at_n (by omega) (by omega), nI_1, ← i2] at b
      have fr : ∀ c k, c ∉ ([25, 32] : List Nat) → I2 c k = I c k := fun c k hc => by
        simp only [List.mem_cons, List.not_mem_nil, not_or] at hc
        rw [i2, am_uc hc.1]
        exact a4 c k hc.2.1
      by_cases q4 : 400 ≤ t
      · rw [if_pos q4]
        have ht : t = 400 := by have := h.2.2.2.1.2.2.2.2.1; omega
        have e : x_ps K 3 (.inr t) = .inl (2, t) := by rw [x_ps_r, if_pos q, if_pos q4]
        rw [e] at c2
        obtain ⟨I3, e1, e2, _, e4⟩ := c_th_end d J c2 (m := m + 1) (by omega) (Or.inl c2.dead) (a := a ++ [y]) (by simp [ha]) (fun t w => absurd w (by simp))
        exact ⟨I3, b _ e1, e2, fun t' w => absurd w (by simp), fun c k hc hk => (e4 c k hc hk).trans (fr c k hc)⟩
      · rw [if_neg q4]
        have e : x_ps K 3 (.inr t) = .inr (t + 1) := x_ps_i q (by omega)
        have ey : y = V t := a3 _ e
        rw [e] at c2
        obtain ⟨I3, e1, e2, e3, e4⟩ := ih (m + 1) (a ++ [V t]) (x_s1 (x_badb (V t) 0 60) 5 t s) (t + 1) I2 (by omega) (by simp [ha]) c2 (fun j v hj => by
          by_cases hj2 : j < m
          · rw [List.getElem?_append_left (by omega)] at hj
            rw [i2, am_uk (by omega), a4 25 j (by decide)]
            exact hI j v hj
          · rw [List.getElem?_append_right (by omega)] at hj
            have hl := (List.getElem?_eq_some_iff.mp hj).1
            have ej : j = m := by simp at hl; omega
            subst ej
            rw [ha, Nat.sub_self] at hj
            rw [i2, am_ue, ey]
            exact Option.some.inj hj)
        exact ⟨I3, b _ e1, e2, e3, fun c k hc hk => (e4 c k hc hk).trans (fr c k hc)⟩
    · rw [if_neg q]
      exact c_th_end d J h (by omega) (Or.inr (by rw [k4]; exact q)) ha (fun _ _ => hI)
def x_think (K V : Nat → Int32) (s : x_Sl) (t : Nat) : x_St × List Int32 × x_Sl := match x_ps K 132 (.inr t) with
  | .inl f => (.inl f, [], s)
  | .inr t' => x_ths K V 4 [] s t'
theorem c_think {s : x_Sl} {z t : Nat} {I : am_I} (h : c_at K V Pl (.inr t) s z I) : ∃ I', f_reader_readThinks_0 d I J = some (none, I', J) ∧ c_at K V Pl (x_think K V s t).1 (x_think K V s t).2.2 z I' ∧ (∀ t', (x_think K V s t).1 = .inr t' → c_th (x_th1 (x_think K V s t).2.1) I') ∧ ∀ c k, c ∉ ([25, 32] : List Nat) → (c ≠ 22 ∨ k ≠ 6) → I' c k = I c k := by
  obtain ⟨y, I1, a1, a2, _, a4⟩ := c_pass d J h 132
  have b := b_reader_readThinks_0 d I J
  rw [a1, am_bi_i] at b
  unfold x_think
  have fr : ∀ c k, c ∉ ([25, 32] : List Nat) → I1 c k = I c k := fun c k hc => a4 c k (by simp at hc; omega)
  cases hx : x_ps K 132 (.inr t) with
  | inl f =>
    rw [hx] at a2
    obtain ⟨I2, e1, e2, _, e4⟩ := c_th_end d J a2 (m := 0) (by omega) (Or.inl a2.dead) (a := []) rfl (fun t w => absurd w (by simp))
    exact ⟨I2, b _ e1, e2, fun t' w => absurd w (by simp), fun c k hc hk => (e4 c k hc hk).trans (fr c k hc)⟩
  | inr t' =>
    rw [hx] at a2
    obtain ⟨I2, e1, e2, e3, e4⟩ := c_thsL d J 4 0 [] s t' I1 rfl rfl a2 (fun j v w => absurd w (by simp))
    exact ⟨I2, b _ e1, e2, e3, fun c k hc hk => (e4 c k hc hk).trans (fr c k hc)⟩
end ZP

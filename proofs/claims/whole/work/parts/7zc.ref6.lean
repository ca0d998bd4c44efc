/-! the reference's E: rows of products and of sums -/
def y_T (u : Fin 841) (d : Nat) (J : am_J) (W : List Int32) (z : Nat) (I : am_I) (pre : List Int32 → Prop) (r : x_Re) : Prop := match r with
  | .inl (f, a) => ∃ I', f_m_expression_96 d 0 I J = some (none, I', J) ∧ y_ft u f a z I I'
  | .inr (c, t') => ∃ (I' : am_I) (P : List Int32) (e : x_Cd), c = e ++ y_em P ∧ pre P ∧ y_st t' (P ++ W) (z + e.length) I' ∧ y_cd z e I' ∧ y_fr u z I I' ∧ I' 68 13 = 0 ∧ I' 68 12 = I 68 12 ∧ ∀ o, f_m_expression_96 d 0 I' J = some o → f_m_expression_96 d 0 I J = some o
section YX
variable (d : Nat) (J : am_J) (u : Fin 841)
theorem s_m_tail {K V : Nat → Int32} {U : Nat → x_Re} {lv w1 w2 o1 o2 a1 a2 : Int32} {preU pre : List Int32 → Prop} {W : List Int32} {n : Nat}
    (hop : (lv = 0 ∧ w1 = 43 ∧ w2 = 45 ∧ o1 = 2 ∧ o2 = 3 ∧ a1 = 8 ∧ a2 = 9) ∨ (lv = 1 ∧ w1 = 42 ∧ w2 = 47 ∧ o1 = 4 ∧ o2 = 5 ∧ a1 = 10 ∧ a2 = 15))
    (hW : W = [] ∨ ∃ b W', W = b :: W' ∧ (b = 6 ∨ (lv ≠ 0 ∧ (b = 8 ∨ b = 9)))) (hWl : W.length + 3 ≤ 64)
    (hU : ∀ a, (a = a1 ∨ a = a2) → ∀ (I : am_I) (t z : Nat), y_tk K V I → x_rc K t → I 68 13 = 0 → I 68 12 = nI n → y_st t (a :: W) z I → z + 420 ≤ u.val + t → y_R u d J 0 (a :: W) z I preU (U t)) (hsl : ∀ t, x_sl t (U t)) (hpc : ∀ t, x_rc K t → x_pr K (U t))
    (hpre : ∀ P, pre P → P.length ≤ 2 ∧ ∀ b ∈ P, b ≠ 6 ∧ (lv ≠ 0 → b ≠ 8 ∧ b ≠ 9)) (hpp : ∀ P a, preU P → (a = a1 ∨ a = a2) → pre (P ++ [a])) :
    ∀ (k : Nat) (I : am_I) (c e : x_Cd) (P : List Int32) (t z : Nat), y_tk K V I → x_rc K t → I 68 13 = 0 → I 68 12 = nI n → c = e ++ y_em P → pre P → y_st t (P ++ W) (z + e.length) I → y_cd z e I → z + c.length + 420 ≤ u.val + t → y_T u d J W z I pre (x_tail K w1 w2 o1 o2 U k c t) := by
  intro k
  induction k with
  | zero =>
    intro I c e P t z hk hrc h0 h12 hc hP h hcd hz
    exact ⟨I, P, e, hc, hP, h, hcd, y_fr.refl _ _, h0, rfl, fun o ho => ho⟩
  | succ k ih =>
    intro I c e P t z hk hrc h0 h12 hc hP h hcd hz
    have t4 := h.2.1
    obtain ⟨kt, k71, _⟩ := hk t t4 hrc
    have cl : c.length = e.length + P.length := by rw [hc, List.length_append, y_em_len]
    obtain ⟨pl, pb⟩ := hpre P hP
    unfold x_tail
    by_cases q : K t = w1 ∨ K t = w2
    · rw [if_pos q]
      obtain ⟨a, ha⟩ : ∃ a, a = (if K t = w1 then a1 else a2) := ⟨_, rfl⟩
      obtain ⟨o, ho⟩ : ∃ o, o = (if K t = w1 then o1 else o2) := ⟨_, rfl⟩
      have haa : a = a1 ∨ a = a2 := by
        by_cases w : K t = w1
        · rw [if_pos w] at ha; exact Or.inl ha
        · rw [if_neg w] at ha; exact Or.inr ha
      have facts : I 71 t = a ∧ y_op a = o ∧ ((lv = 0 ∧ (a = 8 ∨ a = 9)) ∨ (lv = 1 ∧ (a = 10 ∨ a = 15))) := by
        rw [k71]
        rcases hop with ⟨v0, v1, v2, v3, v4, v5, v6⟩ | ⟨v0, v1, v2, v3, v4, v5, v6⟩
        · by_cases w : K t = w1
          · rw [if_pos w] at ha ho
            rw [ha, ho, w, v1, v3, v5]
            exact ⟨by decide, by decide, Or.inl ⟨v0, Or.inl rfl⟩⟩
          · rw [if_neg w] at ha ho
            rw [ha, ho, q.resolve_left w, v2, v4, v6]
            exact ⟨by decide, by decide, Or.inl ⟨v0, Or.inr rfl⟩⟩
        · by_cases w : K t = w1
          · rw [if_pos w] at ha ho
            rw [ha, ho, w, v1, v3, v5]
            exact ⟨by decide, by decide, Or.inr ⟨v0, Or.inl rfl⟩⟩
          · rw [if_neg w] at ha ho
            rw [ha, ho, q.resolve_left w, v2, v4, v6]
            exact ⟨by decide, by decide, Or.inr ⟨v0, Or.inr rfl⟩⟩
      obtain ⟨f71, fop, flv⟩ := facts
      have hrs : x_rc K (t + 1) := by
        rcases hop with ⟨_, v1, v2, _⟩ | ⟨_, v1, v2, _⟩
        · exact q.elim (fun z => hrc.s (z.trans v1) (by decide)) (fun z => hrc.s (z.trans v2) (by decide))
        · exact q.elim (fun z => hrc.s (z.trans v1) (by decide)) (fun z => hrc.s (z.trans v2) (by decide))
      rw [← ho]
      obtain ⟨sy, sn⟩ := s_m_op d J u h0 h (by omega) (by omega) f71 flv pb hW 0
      by_cases q3 : 400 ≤ t
      · rw [if_pos q3]
        obtain ⟨I', x1, x2, x3, x4, x5⟩ := sn (by omega)
        exact ⟨I', x1, x2, x3, x4, y_fr.trans (y_fr.refl z I) x5 (by omega)⟩
      · rw [if_neg q3]
        obtain ⟨I1, b1, b2, b3, b4, b5, b6⟩ := sy (by omega)
        have f1 : y_fr u z I I1 := y_fr.trans (y_fr.refl z I) b3 (by omega)
        have cd1 : y_cd z c I1 := by
          rw [hc]
          exact y_cd_app (b3.cd hcd (Nat.le_refl _)) b2
        rw [show z + e.length + P.length = z + c.length by omega] at b1
        have r := hU a haa I1 (t + 1) (z + c.length) (hk.fr f1) hrs b4 (b5.trans h12) b1 (by omega)
        have sl := hsl (t + 1)
        have pc := hpc (t + 1) hrs
        cases hr : U (t + 1) with
        | inl p =>
          obtain ⟨fl, a'⟩ := p
          rw [hr] at r
          obtain ⟨I', x1, x2, x3, x4, x5⟩ := r
          exact ⟨I', b6 _ x1, x2, by rw [x3, f1 72 a' (by simp [y_fc]) (by decide) (Or.inl (by decide)) (Or.inl (by decide))], x4, f1.trans x5 (by omega)⟩
        | inr p =>
          obtain ⟨c', t'⟩ := p
          rw [hr] at r sl pc
          obtain ⟨I2, P', e', r1, r2, r3, r4, r5, r6, r7, r8⟩ := r
          have sl1 : t + 1 + c'.length ≤ t' := sl.1
          have f2 : y_fr u z I I2 := f1.trans r5 (by omega)
          have l2 : (c ++ c' ++ [(o, (0 : Int32))]).length = c.length + c'.length + 1 := by
            rw [List.length_append, List.length_append]
            rfl
          have l3 : (c ++ e').length = c.length + e'.length := List.length_append
          have res := ih I2 (c ++ c' ++ [(o, 0)]) (c ++ e') (P' ++ [a]) t' z (hk.fr f2) pc r6 (r7.trans (b5.trans h12)) (by
            rw [y_em_app, r1, show y_em [a] = [(y_op a, 0)] from rfl, fop]
            simp [List.append_assoc]) (hpp P' a r2 haa) (by
            rw [l3, List.append_assoc, show z + (c.length + e'.length) = z + c.length + e'.length by omega]
            exact r3) (y_cd_app (r5.cd cd1 (Nat.le_refl _)) r4) (by rw [l2]; omega)
          show y_T u d J W z I pre (x_tail K w1 w2 o1 o2 U k (c ++ c' ++ [(o, 0)]) t')
          cases hx : x_tail K w1 w2 o1 o2 U k (c ++ c' ++ [(o, 0)]) t' with
          | inl p =>
            obtain ⟨fl, a'⟩ := p
            rw [hx] at res
            obtain ⟨I', x1, x2, x3, x4, x5⟩ := res
            exact ⟨I', b6 _ (r8 _ x1), x2, by rw [x3, f2 72 a' (by simp [y_fc]) (by decide) (Or.inl (by decide)) (Or.inl (by decide))], x4, f2.trans x5 (Nat.le_refl _)⟩
          | inr p =>
            obtain ⟨c9, t9⟩ := p
            rw [hx] at res
            obtain ⟨I', P9, e9, x1, x2, x3, x4, x5, x6, x7, x8⟩ := res
            exact ⟨I', P9, e9, x1, x2, x3, x4, f2.trans x5 (Nat.le_refl _), x6, x7.trans (r7.trans b5), fun o ho => b6 o (r8 o (x8 o ho))⟩
    · rw [if_neg q]
      exact ⟨I, P, e, hc, hP, h, hcd, y_fr.refl _ _, h0, rfl, fun o ho => ho⟩
/-- a row of them -/
theorem s_m_lv {K V : Nat → Int32} {U : Nat → x_Re} {lv w1 w2 o1 o2 a1 a2 : Int32} {preU pre : List Int32 → Prop} {W : List Int32} {n : Nat}
    (hop : (lv = 0 ∧ w1 = 43 ∧ w2 = 45 ∧ o1 = 2 ∧ o2 = 3 ∧ a1 = 8 ∧ a2 = 9) ∨ (lv = 1 ∧ w1 = 42 ∧ w2 = 47 ∧ o1 = 4 ∧ o2 = 5 ∧ a1 = 10 ∧ a2 = 15))
    (hW : W = [] ∨ ∃ b W', W = b :: W' ∧ (b = 6 ∨ (lv ≠ 0 ∧ (b = 8 ∨ b = 9)))) (hWl : W.length + 3 ≤ 64)
    (hU : ∀ a, (a = a1 ∨ a = a2) → ∀ (I : am_I) (t z : Nat), y_tk K V I → x_rc K t → I 68 13 = 0 → I 68 12 = nI n → y_st t (a :: W) z I → z + 420 ≤ u.val + t → y_R u d J 0 (a :: W) z I preU (U t)) (hsl : ∀ t, x_sl t (U t)) (hpc : ∀ t, x_rc K t → x_pr K (U t))
    (hpre : ∀ P, pre P → P.length ≤ 2 ∧ ∀ b ∈ P, b ≠ 6 ∧ (lv ≠ 0 → b ≠ 8 ∧ b ≠ 9)) (hpp : ∀ P a, preU P → (a = a1 ∨ a = a2) → pre (P ++ [a])) (hp0 : ∀ P, preU P → pre P)
    (hU0 : ∀ (I : am_I) (t z : Nat), y_tk K V I → x_rc K t → I 68 13 = 0 → I 68 12 = nI n → y_st t W z I → z + 420 ≤ u.val + t → y_R u d J 0 W z I preU (U t))
    {I : am_I} {t z : Nat} (hk : y_tk K V I) (hrc : x_rc K t) (h0 : I 68 13 = 0) (h12 : I 68 12 = nI n) (h : y_st t W z I) (hz : z + 420 ≤ u.val + t) : y_R u d J 0 W z I pre (x_lv K w1 w2 o1 o2 U t) := by
  have r := hU0 I t z hk hrc h0 h12 h hz
  have sl := hsl t
  have pc := hpc t hrc
  unfold x_lv
  cases hr : U t with
  | inl p =>
    rw [hr] at r
    exact r
  | inr p =>
    obtain ⟨c, t'⟩ := p
    rw [hr] at r sl pc
    obtain ⟨I2, P, e, r1, r2, r3, r4, r5, r6, r7, r8⟩ := r
    have sl1 : t + c.length ≤ t' := sl.1
    have res := s_m_tail d J u hop hW hWl hU hsl hpc hpre hpp 400 I2 c e P t' z (hk.fr r5) pc r6 (r7.trans h12) r1 (hp0 P r2) r3 r4 (by omega)
    show y_R u d J 0 W z I pre (x_tail K w1 w2 o1 o2 U 400 c t')
    cases hx : x_tail K w1 w2 o1 o2 U 400 c t' with
    | inl p =>
      obtain ⟨fl, a'⟩ := p
      rw [hx] at res
      obtain ⟨I', x1, x2, x3, x4, x5⟩ := res
      exact ⟨I', r8 _ x1, x2, by rw [x3, r5 72 a' (by simp [y_fc]) (by decide) (Or.inl (by decide)) (Or.inl (by decide))], x4, r5.trans x5 (Nat.le_refl _)⟩
    | inr p =>
      obtain ⟨c9, t9⟩ := p
      rw [hx] at res
      obtain ⟨I', P9, e9, x1, x2, x3, x4, x5, x6, x7, x8⟩ := res
      exact ⟨I', P9, e9, x1, x2, x3, x4, r5.trans x5 (Nat.le_refl _), x6, x7.trans r7, fun o ho => r8 o (x8 o ho)⟩
end YX

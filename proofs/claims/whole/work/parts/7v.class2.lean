/-! the class's E, without a fault-/
theorem x_E_eq0 (K V : Nat → Int32) : x_E K V 0 = x_lv K 43 45 2 3 (x_lv K 42 47 4 5 (x_unit K V true (fun t => .inl (2, t)))) := rfl
theorem x_E_eqs (K V : Nat → Int32) (k : Nat) : x_E K V (k + 1) = x_lv K 43 45 2 3 (x_lv K 42 47 4 5 (x_unit K V false (x_E K V k))) := rfl
section XV
variable (d : Nat) (J : am_J)
theorem s_pass_0 {I : am_I} {t : Nat} (h3 : I 32 3 = nI t) (h4 : I 32 4 = I 8 t) (h5 : I 32 5 = 0) (ht : t ≤ 400) : ∃ y I', f_reader_pass_0 d (I 32 4) I J = some (some (.int y), I', J) ∧ (t < 400 → I' 32 3 = nI (t + 1) ∧ I' 32 4 = I 8 (t + 1) ∧ ∀ c k, (c, k) ∉ ([(32, 3), (32, 4)] : List (Nat × Nat)) → I' c k = I c k) ∧ (t = 400 → I' 32 5 = 2 ∧ I' 32 6 = I 10 t ∧ ∀ c k, (c, k) ∉ ([(32, 5), (32, 6)] : List (Nat × Nat)) → I' c k = I c k) := by
  have b2 := b_reader_pass_0 d (I 32 4) I J
  rw [if_pos h5, if_pos rfl] at b2
  have b := b_reader_pass_23 d I J
  by_cases q : t < 400
  · obtain ⟨I1, e1⟩ : ∃ I1, I1 = am_upd I 32 3 (nI (t + 1)) := ⟨_, rfl⟩
    rw [h3, if_pos (show nI t < (400 : Int32) from nI_lt (b := 400) q (by omega)), if_pos h5, nI_1, ← e1, show I1 32 3 = nI (t + 1) by rw [e1, am_ue], am_at_n (by omega) (by omega), am_b01_1] at b
    refine ⟨1, _, b2 _ (b _ rfl), fun _ => ⟨?_, ?_, fun c k hk => ?_⟩, fun z => absurd z (by omega)⟩
    · rw [am_uk (by decide), e1, am_ue]
    · rw [am_ue, e1, am_uc (by decide)]
    · rw [e1]
      exact i_upd2 c k (n_1 hk 32 3 (by decide)) (n_1 hk 32 4 (by decide))
  · have e : t = 400 := by omega
    have bf := b_reader_fail_0 d 2 I J
    rw [if_pos h5, am_uk (show 3 ≠ 5 by decide), h3, am_at_n (by omega) (by omega), am_uc (show 10 ≠ 32 by decide)] at bf
    obtain ⟨I1, e1⟩ : ∃ I1, I1 = am_upd (am_upd I 32 5 2) 32 6 (I 10 t) := ⟨_, rfl⟩
    rw [← e1] at bf
    have e5 : I1 32 5 = 2 := by rw [e1, am_uk (by decide), am_ue]
    rw [h3, if_neg (show ¬ nI t < (400 : Int32) from nI_nlt (b := 400) (by omega) (by omega)), bf _ rfl, am_bv_v, if_neg (show ¬ I1 32 5 = 0 by rw [e5]; decide), am_b01_0] at b
    refine ⟨0, I1, b2 _ (b _ rfl), fun z => absurd z q, fun _ => ⟨e5, by rw [e1, am_ue], fun c k hk => ?_⟩⟩
    rw [e1]
    exact i_upd2 c k (n_1 hk 32 5 (by decide)) (n_1 hk 32 6 (by decide))
theorem s_leaf {I : am_I} {t z : Nat} (h : x_at t z I) (o a : Int32) : ∃ y I1 y2 I2, f_next_code_add_0 d o a I J = some (some (.int y), I1, J) ∧ f_reader_pass_0 d (I1 32 4) I1 J = some (some (.int y2), I2, J) ∧ x_out z I I2 (x_go (I 8) (I 8 t) t [(o, a)]) := by
  obtain ⟨h1, h2, h3, h4, h5, h6⟩ := h
  by_cases q : t < 400
  · obtain ⟨I1, a1, a2, a3, a4, a5⟩ := s_add d J h4 (show z < 400 by omega) o a
    have g : ∀ c k, c ≠ 26 → c ≠ 27 → c ≠ 28 → I1 c k = I c k := fun c k x y w => a5 c k (x_ne x) (x_ne y) (x_ne w)
    obtain ⟨y2, I2, b1, b2, _⟩ := s_pass_0 d J (I := I1) (t := t) (by rw [g _ _ (by decide) (by decide) (by decide), h1]) (by rw [g _ _ (by decide) (by decide) (by decide), g _ _ (by decide) (by decide) (by decide), h2]) (by rw [g _ _ (by decide) (by decide) (by decide), h3]) h5
    obtain ⟨c1, c2, c3⟩ := b2 q
    refine ⟨_, I1, y2, I2, a1, b1, ?_⟩
    unfold x_go
    rw [if_pos rfl, if_neg (show ¬ 400 ≤ t by omega)]
    refine ⟨⟨c1, ?_, ?_, ?_, by omega, ?_⟩, fun c k k1 k2 k3 => ?_, fun i p hp => ?_⟩
    · rw [c2, c3 8 (t + 1) (fun q => by simp at q)]
    · rw [c3 32 5 (by decide), g _ _ (by decide) (by decide) (by decide), h3]
    · rw [c3 26 4 (by decide), a2]
      rfl
    · refine ⟨by show z + 1 ≤ t + 1; omega, ?_⟩
      rw [c3 32 6 (by decide), g _ _ (by decide) (by decide) (by decide)]
      exact h6.2
    · rw [c3 c k (fun q => k1 ((show ∀ q ∈ ([(32, 3), (32, 4)] : List (Nat × Nat)), q ∈ x_fc by decide) _ q)), a5 c k (fun q => k1 (by rw [q]; decide)) (fun q => ?_) (fun q => ?_)]
      · have e1 : c = 27 := congrArg Prod.fst q
        have e2 : k = z := congrArg Prod.snd q
        omega
      · have e1 : c = 28 := congrArg Prod.fst q
        have e2 : k = z := congrArg Prod.snd q
        omega
    · cases i with
      | zero =>
        have e : (o, a) = p := Option.some.inj hp
        rw [← e, c3 27 _ (fun q => by simp at q), c3 28 _ (fun q => by simp at q)]
        exact ⟨a3, a4⟩
      | succ i => exact absurd hp (by simp)
  · obtain ⟨y, I1, z', a1, a2, a3, a4, a5⟩ := s_add2 d J h4 (show z ≤ 400 by omega) o a
    have g : ∀ c k, c ≠ 26 → c ≠ 27 → c ≠ 28 → I1 c k = I c k := fun c k x y w => a5 c k (x_ne x) (Or.inl y) (Or.inl w)
    obtain ⟨y2, I2, b1, _, b2⟩ := s_pass_0 d J (I := I1) (t := t) (by rw [g _ _ (by decide) (by decide) (by decide), h1]) (by rw [g _ _ (by decide) (by decide) (by decide), g _ _ (by decide) (by decide) (by decide), h2]) (by rw [g _ _ (by decide) (by decide) (by decide), h3]) h5
    obtain ⟨c1, c2, c3⟩ := b2 (by omega)
    refine ⟨y, I1, y2, I2, a1, b1, ?_⟩
    unfold x_go
    rw [if_pos rfl, if_pos (show 400 ≤ t by omega)]
    refine ⟨by decide, h5, ⟨c1, ?_, ⟨t, h5, ?_⟩, z', a2, a3, ?_⟩, fun c k k1 k2 k3 => ?_⟩
    · rw [c2, g _ _ (by decide) (by decide) (by decide)]
    · rw [c3 32 3 (by decide), g _ _ (by decide) (by decide) (by decide), h1]
    · rw [c3 26 4 (by decide), a4]
    · rw [c3 c k (fun q => k1 ((show ∀ q ∈ ([(32, 5), (32, 6)] : List (Nat × Nat)), q ∈ x_fc by decide) _ q)), a5 c k (fun q => k1 (by rw [q]; decide)) k2 k3]
/-- a fault here -/
theorem s_fail_o {I : am_I} {t z : Nat} (h : x_at t z I) (f : Int32) (hf : f ≠ 0) : ∃ I', f_reader_fail_0 d f I J = some (none, I', J) ∧ x_out z I I' (.inl (f, t)) := by
  obtain ⟨I', a1, a2, a3⟩ := s_fail d J h f
  exact ⟨I', a1, hf, h.2.2.2.2.1, a2, fun c k k1 _ _ => a3 c k (fun q => k1 ((show ∀ q ∈ ([(32, 5), (32, 6)] : List (Nat × Nat)), q ∈ x_fc by decide) _ q))⟩
/-- what was found later holds from before -/
theorem x_out.from {z : Nat} {I I1 I2 : am_I} {r : x_Re} (h : x_out z I1 I2 r) (k : x_fr z I I1) : x_out z I I2 r := by
  cases r with
  | inl f =>
    obtain ⟨f, a⟩ := f
    obtain ⟨h1, h2, ⟨h3, h4, h5⟩, h6⟩ := h
    exact ⟨h1, h2, ⟨h3, by rw [h4, k.fn (c := 10) (by decide) (by decide) (by decide)], h5⟩, k.trans h6 (Nat.le_refl _)⟩
  | inr p =>
    obtain ⟨c, t'⟩ := p
    exact ⟨h.1, k.trans h.2.1 (Nat.le_refl _), h.2.2⟩
theorem x_fr34 {z : Nat} {I I1 : am_I} (h : ∀ c k, (c, k) ∉ ([(32, 3), (32, 4)] : List (Nat × Nat)) → I1 c k = I c k) : x_fr z I I1 := fun c k k1 _ _ => h c k (fun q => k1 ((show ∀ q ∈ ([(32, 3), (32, 4)] : List (Nat × Nat)), q ∈ x_fc by decide) _ q))
theorem s_unit {K V : Nat → Int32} {b : Bool} {S : Nat → x_Re} {x1 : Int32} (hb : (b = true ∧ ¬ x1 ≤ 6) ∨ (b = false ∧ x1 ≤ 6 ∧ ∀ (I : am_I) (t z : Nat), I 8 = K → I 9 = V → x_at t z I → ∃ I', f_reader_readSum_0 d (x1 + 1) I J = some (none, I', J) ∧ x_out z I I' (S t))) {I : am_I} {t z : Nat} (hK : I 8 = K) (hV : I 9 = V) (h : x_at t z I) : ∃ I', f_reader_readUnit_0 (d + 1) x1 I J = some (none, I', J) ∧ x_out z I I' (x_unit K V b S t) := by
  have bb := b_reader_readUnit_0 d x1 I J
  have h4 : I 32 4 = K t := by rw [← hK]; exact h.2.1
  unfold x_unit
  by_cases q : K t = 3
  · obtain ⟨y, I1, y2, I2, a1, a2, a3⟩ := s_leaf (d + 1) J h 0 (V t)
    rw [if_pos (h4.trans q), h.1, am_at_n (by have := h.2.2.2.2.1; omega) (by omega), hV, a1, am_bi_i, a2, am_bi_i] at bb
    rw [if_pos q]
    rw [hK, q] at a3
    exact ⟨I2, bb _ rfl, a3⟩
  rw [if_neg q]
  rw [if_neg (fun w => q (h4.symm.trans w))] at bb
  by_cases q1 : 139 ≤ K t ∧ K t ≤ 144
  · obtain ⟨y, I1, y2, I2, a1, a2, a3⟩ := s_leaf (d + 1) J h 1 (K t - 139)
    rw [h4, if_neg (Int32.not_lt.mpr q1.1), if_neg (Int32.not_lt.mpr q1.2), a1, am_bi_i, a2, am_bi_i] at bb
    rw [if_pos q1]
    rw [hK] at a3
    exact ⟨I2, bb _ rfl, a3⟩
  rw [if_neg q1]
  have rest : ∃ I', (if I 32 4 = 40 then (if x1 ≤ 6 then am_bi (f_reader_pass_0 (d + 1) 40 I J) (fun y3 I1 J2 => if y3 = 0 then some (none, I1, J2) else am_bv (f_reader_readSum_0 d (x1 + 1) I1 J2) (fun I4 J5 => am_bi (f_reader_pass_0 (d + 1) 41 I4 J5) (fun _ I6 J7 => some (none, I6, J7)))) else am_bv (f_reader_fail_0 (d + 1) 2 I J) (fun I9 J10 => some (none, I9, J10))) else am_bv (f_reader_fail_0 (d + 1) 1 I J) (fun I11 J12 => some (none, I11, J12)) : am_Out) = some (none, I', J) ∧ x_out z I I' (if K t = 40 then (if b then .inl (2, t) else if 400 ≤ t then .inl (2, t) else match S (t + 1) with
    | .inl f => .inl f
    | .inr (c, t') => x_go K 41 t' c)
    else .inl (1, t)) := by
    rw [h4]
    by_cases q2 : K t = 40
    · rw [if_pos q2, if_pos q2]
      rcases hb with ⟨hb1, hb2⟩ | ⟨hb1, hb2, hb3⟩
      · obtain ⟨I', a1, a2⟩ := s_fail_o (d + 1) J h 2 (by decide)
        rw [if_neg hb2, a1, am_bv_v, if_pos hb1]
        exact ⟨I', rfl, a2⟩
      · rw [if_pos hb2, if_neg (show ¬ b = true by rw [hb1]; decide)]
        by_cases q3 : 400 ≤ t
        · have ht : t = 400 := by have := h.2.2.2.2.1; omega
          obtain ⟨I', a1, a2, a3⟩ := s_pass_n (d + 1) J h (w := 40) (Or.inr ht)
          rw [a1, am_bi_i, if_pos rfl, if_pos q3]
          rw [hK, if_pos q2] at a2
          exact ⟨I', rfl, by decide, h.2.2.2.2.1, a2, fun c k k1 _ _ => a3 c k (fun q => k1 ((show ∀ q ∈ ([(32, 5), (32, 6)] : List (Nat × Nat)), q ∈ x_fc by decide) _ q))⟩
        · obtain ⟨I1, a1, a2, a3⟩ := s_pass_y (d + 1) J h (by omega) (w := 40) (by rw [hK]; exact q2)
          have f1 : x_fr z I I1 := x_fr34 a3
          have k8 : I1 8 = K := (f1.fn (c := 8) (by decide) (by decide) (by decide)).trans hK
          obtain ⟨I2, b1, b2⟩ := hb3 I1 (t + 1) z k8 ((f1.fn (c := 9) (by decide) (by decide) (by decide)).trans hV) a2
          rw [a1, am_bi_i, if_neg (show ¬ (1 : Int32) = 0 by decide), b1, am_bv_v, if_neg q3]
          cases hr : S (t + 1) with
          | inl f =>
            rw [hr] at b2
            have b3 := b2.from f1
            obtain ⟨f, a⟩ := f
            rw [s_pass_f (d + 1) J (by rw [b2.2.2.1.1]; exact b2.1), am_bi_i]
            exact ⟨I2, rfl, b3⟩
          | inr p =>
            obtain ⟨c, t'⟩ := p
            rw [hr] at b2
            obtain ⟨c1, c2, c3⟩ := b2
            have f2 : x_fr z I I2 := f1.trans c2 (Nat.le_refl _)
            have k82 : I2 8 = K := (c2.fn (c := 8) (by decide) (by decide) (by decide)).trans k8
            show ∃ I', _ ∧ x_out z I I' (x_go K 41 t' c)
            unfold x_go
            by_cases q4 : K t' = 41 ∧ t' < 400
            · obtain ⟨I3, d1, d2, d3⟩ := s_pass_y (d + 1) J c1 q4.2 (w := 41) (by rw [k82]; exact q4.1)
              rw [d1, am_bi_i, if_pos q4.1, if_neg (by omega)]
              refine ⟨I3, rfl, d2, f2.trans (x_fr34 d3) (Nat.le_refl _), fun i q hq => ?_⟩
              rw [d3 27 _ (fun q => by simp at q), d3 28 _ (fun q => by simp at q)]
              exact c3 i q hq
            · obtain ⟨I3, d1, d2, d3⟩ := s_pass_n (d + 1) J c1 (w := 41) (by
                rw [k82]
                have := c1.2.2.2.2.1
                by_cases w : K t' = 41
                · exact Or.inr (by have : ¬ t' < 400 := fun z => q4 ⟨w, z⟩
                                   omega)
                · exact Or.inl w)
              have f3 : x_fr (z + c.length) I2 I3 := fun c k k1 _ _ => d3 c k (fun q => k1 ((show ∀ q ∈ ([(32, 5), (32, 6)] : List (Nat × Nat)), q ∈ x_fc by decide) _ q))
              have f4 : x_fr z I I3 := f2.trans f3 (by omega)
              rw [d1, am_bi_i]
              rw [k82] at d2
              have e10 : I2 10 = I 10 := f2.fn (c := 10) (by decide) (by decide) (by decide)
              refine ⟨I3, rfl, ?_⟩
              have dd : ∀ f, f ≠ 0 → x_ft f t' (z + c.length) I2 I3 → x_out z I I3 (.inl (f, t')) := fun f hf hx => ⟨hf, c1.2.2.2.2.1, ⟨hx.1, by rw [hx.2.1, e10], hx.2.2.1, hx.2.2.2.imp (fun w q => ⟨Nat.le_trans (Nat.le_add_right _ _) q.1, q.2⟩)⟩, f4⟩
              by_cases w : K t' = 41
              · rw [if_pos w] at d2 ⊢
                rw [if_pos (by have : ¬ t' < 400 := fun z => q4 ⟨w, z⟩
                               omega)]
                exact dd 2 (by decide) d2
              · rw [if_neg w] at d2 ⊢
                exact dd 1 (by decide) d2
    · obtain ⟨I', a1, a2⟩ := s_fail_o (d + 1) J h 1 (by decide)
      rw [if_neg q2, if_neg q2, a1, am_bv_v]
      exact ⟨I', rfl, a2⟩
  obtain ⟨I', r1, r2⟩ := rest
  refine ⟨I', bb _ ?_, r2⟩
  by_cases q5 : I 32 4 < 139
  · rw [if_pos q5]; exact r1
  · rw [if_neg q5, if_pos (show 144 < I 32 4 from Int32.not_le.mp (fun w => q1 ⟨by rw [← h4]; exact Int32.not_lt.mp q5, by rw [← h4]; exact w⟩))]
    exact r1
theorem s_prod7 {K V : Nat → Int32} {U : Nat → x_Re} {x1 : Int32} (hsl : ∀ t, x_sl t (U t)) (hU : ∀ (I : am_I) (t z : Nat), I 8 = K → I 9 = V → x_at t z I → ∃ I', f_reader_readUnit_0 (d + 1) x1 I J = some (none, I', J) ∧ x_out z I I' (U t)) (hF : ∀ (I : am_I) (t z : Nat), I 32 5 ≠ 0 → I 32 3 = nI t → t ≤ 400 → I 26 4 = nI z → z ≤ 400 → ∃ I', f_reader_readUnit_0 (d + 1) x1 I J = some (none, I', J) ∧ x_dd z I I') {I0 : am_I} {z : Nat} : ∀ n, n ≤ 400 → ∀ (I : am_I) (c : x_Cd) (t : Nat), I 8 = K → I 9 = V → x_at t (z + c.length) I → x_fr z I0 I → (∀ i q, c[i]? = some q → I 27 (z + i) = q.1 ∧ I 28 (z + i) = q.2) → ∃ I', f_reader_readProduct_7 (d + 1) x1 (nI (400 - n)) I J = some (none, I', J) ∧ x_out z I0 I' (x_tail K 42 47 4 5 U n c t) := by
  intro n
  induction n with
  | zero =>
    intro _ I c t hK hV h hf hc
    refine ⟨I, b_reader_readProduct_7 (d + 1) x1 _ I J _ ?_, h, hf, hc⟩
    rw [if_pos (show (400 : Int32) ≤ nI (400 - 0) by decide)]
  | succ n ih =>
    intro hn I c t hK hV h hf hc
    have b1 := b_reader_readProduct_7 (d + 1) x1 (nI (400 - (n + 1))) I J
    have b2 := b_reader_readProduct_39 (d + 1) x1 (nI (400 - (n + 1))) I J
    have h4 : I 32 4 = K t := by rw [← hK]; exact h.2.1
    rw [if_neg (show ¬ (400 : Int32) ≤ nI (400 - (n + 1)) from nI_ge (b := 400) (by omega) (by omega)), if_pos h.2.2.1] at b1
    unfold x_tail
    by_cases q : K t = 42 ∨ K t = 47
    · have b3 : am_le (f_reader_readProduct_39 (d + 1) x1 (nI (400 - (n + 1))) I J) (f_reader_readProduct_7 (d + 1) x1 (nI (400 - (n + 1))) I J) := fun r hr => b1 r (by
        by_cases w : I 32 4 = 42
        · rw [if_pos w]; exact hr
        · rw [if_neg w, if_pos (h4.trans (q.resolve_left (fun v => w (h4.trans v))))]; exact hr)
      rw [nI_1, show 400 - (n + 1) + 1 = 400 - n by omega] at b2
      rw [if_pos q]
      have fin : ∀ o, (if K t = 42 then (4 : Int32) else 5) = o → am_le (am_bi (f_reader_pass_0 (d + 1) (I 32 4) I J) (fun _ I1 J2 => am_bv (f_reader_readUnit_0 (d + 1) x1 I1 J2) (fun I4 J5 => am_bi (f_next_code_add_0 (d + 1) o 0 I4 J5) (fun _ I6 J7 => f_reader_readProduct_7 (d + 1) x1 (nI (400 - n)) I6 J7)))) (f_reader_readProduct_39 (d + 1) x1 (nI (400 - (n + 1))) I J) := fun o ho r hr => b2 r (by
        by_cases w : I 32 4 = 42
        · rw [if_pos w]
          rw [if_pos (h4.symm.trans w)] at ho
          rw [ho]
          exact hr
        · rw [if_neg w]
          rw [if_neg (fun v => w (h4.trans v))] at ho
          rw [ho]
          exact hr)
      obtain ⟨o, ho⟩ : ∃ o, (if K t = 42 then (4 : Int32) else 5) = o := ⟨_, rfl⟩
      rw [ho]
      have fin := fin o ho
      -- after a fault
      have dead : ∀ (I2 : am_I) (f : Int32 × Nat), x_out z I0 I2 (.inl f) → (∃ z2, z ≤ z2 ∧ z2 ≤ 400 ∧ I2 26 4 = nI z2) → ∃ I', am_bi (f_next_code_add_0 (d + 1) o 0 I2 J) (fun _ I6 J7 => f_reader_readProduct_7 (d + 1) x1 (nI (400 - n)) I6 J7) = some (none, I', J) ∧ x_out z I0 I' (.inl f) := by
        intro I2 f hx ⟨z2, z3, z4, z5⟩
        obtain ⟨y, I', z', a1, a2, a3, a4, a5⟩ := s_add2 (d + 1) J z5 z4 o 0
        have e5 : I' 32 5 = I2 32 5 := a5 32 5 (x_ne (by decide)) (Or.inl (by decide)) (Or.inl (by decide))
        refine ⟨I', ?_, hx.dead ⟨⟨z', a2, a3, a4⟩, a5⟩ z3⟩
        rw [a1, am_bi_i, s_prod7_f (d + 1) J (by rw [e5, hx.2.2.1.1]; exact hx.1)]
      by_cases q3 : 400 ≤ t
      · have ht : t = 400 := by have := h.2.2.2.2.1; omega
        rw [if_pos q3]
        obtain ⟨y, I1, a1, _, a2⟩ := s_pass_0 (d + 1) J h.1 h.2.1 h.2.2.1 h.2.2.2.2.1
        obtain ⟨c1, c2, c3⟩ := a2 ht
        have k1 : x_fr (z + c.length) I I1 := fun c k k1 _ _ => c3 c k (fun q => k1 ((show ∀ q ∈ ([(32, 5), (32, 6)] : List (Nat × Nat)), q ∈ x_fc by decide) _ q))
        have e26 : I1 26 4 = nI (z + c.length) := (c3 26 4 (by decide)).trans h.2.2.2.1
        have zc : z + c.length ≤ 400 := by have := h.2.2.2.2.2; omega
        have x1' : x_out z I0 I1 (.inl (2, t)) := ⟨by decide, by omega, ⟨c1, by rw [c2, hf.fn (c := 10) (by decide) (by decide) (by decide)], ⟨t, by omega, (c3 32 3 (by decide)).trans h.1⟩, _, Nat.le_add_right _ _, zc, e26⟩, hf.trans k1 (by omega)⟩
        obtain ⟨I2, d1, d2⟩ := hF I1 t _ (by rw [c1]; decide) ((c3 32 3 (by decide)).trans h.1) (by omega) e26 zc
        obtain ⟨I3, g1, g2⟩ := dead I2 _ (x1'.dead d2 (by omega)) (by
          obtain ⟨z', w1, w2, w3⟩ := d2.1
          exact ⟨z', by omega, w2, w3⟩)
        refine ⟨I3, b3 _ (fin _ ?_), g2⟩
        rw [a1, am_bi_i, d1, am_bv_v]
        exact g1
      · rw [if_neg q3]
        obtain ⟨I1, a1, a2, a3⟩ := s_pass_y (d + 1) J h (by omega) (w := I 32 4) h.2.1.symm
        have k1 : x_fr (z + c.length) I I1 := x_fr34 a3
        have k8 : I1 8 = K := (k1.fn (c := 8) (by decide) (by decide) (by decide)).trans hK
        have k9 : I1 9 = V := (k1.fn (c := 9) (by decide) (by decide) (by decide)).trans hV
        obtain ⟨I2, d1, d2⟩ := hU I1 (t + 1) _ k8 k9 a2
        have sl := hsl (t + 1)
        have f1 : x_fr z I0 I1 := hf.trans k1 (by omega)
        cases hr : U (t + 1) with
        | inl f =>
          rw [hr] at d2
          obtain ⟨f, a⟩ := f
          obtain ⟨m1, m2, ⟨m3, m4, m5, z', m5', m6, m7⟩, m8⟩ := d2
          have x2' : x_out z I0 I2 (.inl (f, a)) := ⟨m1, m2, ⟨m3, by rw [m4, f1.fn (c := 10) (by decide) (by decide) (by decide)], m5, z', by omega, m6, m7⟩, f1.trans m8 (by omega)⟩
          obtain ⟨I3, g1, g2⟩ := dead I2 _ x2' ⟨z', by omega, m6, m7⟩
          refine ⟨I3, b3 _ (fin _ ?_), g2⟩
          rw [a1, am_bi_i, d1, am_bv_v]
          exact g1
        | inr p =>
          obtain ⟨c', t'⟩ := p
          rw [hr] at d2 sl
          obtain ⟨m1, m2, m3⟩ := d2
          obtain ⟨s1, s2⟩ := sl
          have zl : z + c.length ≤ t := h.2.2.2.2.2.1
          have t4 := m1.2.2.2.2.1
          obtain ⟨I3, g1, g2, g3, g4, g5⟩ := s_add (d + 1) J m1.2.2.2.1 (by omega) o 0
          have k3 : x_fr (z + c.length + c'.length) I2 I3 := fun c0 k e1 e2 e3 => g5 c0 k (fun q => e1 (by rw [q]; decide)) (fun q => by
            have u1 : c0 = 27 := congrArg Prod.fst q
            have u2 : k = z + c.length + c'.length := congrArg Prod.snd q
            omega) (fun q => by
            have u1 : c0 = 28 := congrArg Prod.fst q
            have u2 : k = z + c.length + c'.length := congrArg Prod.snd q
            omega)
          have f2 : x_fr z I0 I2 := f1.trans m2 (by omega)
          have f3 : x_fr z I0 I3 := f2.trans k3 (by omega)
          have g : ∀ c k, c ≠ 26 → c ≠ 27 → c ≠ 28 → I3 c k = I2 c k := fun c k x y w => g5 c k (x_ne x) (x_ne y) (x_ne w)
          have len : (c ++ c' ++ [(o, (0 : Int32))]).length = c.length + c'.length + 1 := by
            rw [List.length_append, List.length_append]
            rfl
          obtain ⟨I4, r1, r2⟩ := ih (by omega) I3 (c ++ c' ++ [(o, 0)]) t' (by rw [k3.fn (c := 8) (by decide) (by decide) (by decide), m2.fn (c := 8) (by decide) (by decide) (by decide), k8]) (by rw [k3.fn (c := 9) (by decide) (by decide) (by decide), m2.fn (c := 9) (by decide) (by decide) (by decide), k9]) ⟨by rw [g _ _ (by decide) (by decide) (by decide)]; exact m1.1, by rw [g _ _ (by decide) (by decide) (by decide), g _ _ (by decide) (by decide) (by decide)]; exact m1.2.1, by rw [g _ _ (by decide) (by decide) (by decide)]; exact m1.2.2.1, by rw [g2, len, show z + c.length + c'.length + 1 = z + (c.length + c'.length + 1) by omega], t4, by rw [len]; omega, by rw [g _ _ (by decide) (by decide) (by decide)]; exact m1.2.2.2.2.2.2⟩ f3 (fun i p hp => by
            rcases Nat.lt_trichotomy i (c.length + c'.length) with u | u | u
            · by_cases u2 : i < c.length
              · rw [List.append_assoc, List.getElem?_append_left u2] at hp
                rw [k3 27 _ (by simp [x_fc]) (Or.inr (by omega)) (Or.inl (by decide)), k3 28 _ (by simp [x_fc]) (Or.inl (by decide)) (Or.inr (by omega)), m2 27 _ (by simp [x_fc]) (Or.inr (by omega)) (Or.inl (by decide)), m2 28 _ (by simp [x_fc]) (Or.inl (by decide)) (Or.inr (by omega)), k1 27 _ (by simp [x_fc]) (Or.inr (by omega)) (Or.inl (by decide)), k1 28 _ (by simp [x_fc]) (Or.inl (by decide)) (Or.inr (by omega))]
                exact hc i p hp
              · rw [List.getElem?_append_left (by rw [List.length_append]; omega), List.getElem?_append_right (by omega)] at hp
                have v := m3 _ p hp
                rw [show z + c.length + (i - c.length) = z + i by omega] at v
                rw [k3 27 _ (by simp [x_fc]) (Or.inr (by omega)) (Or.inl (by decide)), k3 28 _ (by simp [x_fc]) (Or.inl (by decide)) (Or.inr (by omega))]
                exact v
            · rw [List.getElem?_append_right (by rw [List.length_append]; omega), show i - (c ++ c').length = 0 by rw [List.length_append]; omega] at hp
              have e : (o, (0 : Int32)) = p := Option.some.inj hp
              rw [← e, show z + i = z + c.length + c'.length by omega]
              exact ⟨g3, g4⟩
            · rw [List.getElem?_eq_none (by rw [len]; omega)] at hp
              exact absurd hp (by simp))
          refine ⟨I4, b3 _ (fin _ ?_), r2⟩
          rw [a1, am_bi_i, d1, am_bv_v, g1, am_bi_i]
          exact r1
    · rw [if_neg q]
      refine ⟨I, b1 _ ?_, h, hf, hc⟩
      rw [if_neg (fun w => q (Or.inl (h4.symm.trans w))), if_neg (fun w => q (Or.inr (h4.symm.trans w)))]
theorem s_prod {K V : Nat → Int32} {U : Nat → x_Re} {x1 : Int32} (hsl : ∀ t, x_sl t (U t)) (hU : ∀ (I : am_I) (t z : Nat), I 8 = K → I 9 = V → x_at t z I → ∃ I', f_reader_readUnit_0 (d + 1) x1 I J = some (none, I', J) ∧ x_out z I I' (U t)) (hF : ∀ (I : am_I) (t z : Nat), I 32 5 ≠ 0 → I 32 3 = nI t → t ≤ 400 → I 26 4 = nI z → z ≤ 400 → ∃ I', f_reader_readUnit_0 (d + 1) x1 I J = some (none, I', J) ∧ x_dd z I I') {I : am_I} {t z : Nat} (hK : I 8 = K) (hV : I 9 = V) (h : x_at t z I) : ∃ I', f_reader_readProduct_0 (d + 1) x1 I J = some (none, I', J) ∧ x_out z I I' (x_lv K 42 47 4 5 U t) := by
  obtain ⟨I1, a1, a2⟩ := hU I t z hK hV h
  have bb := b_reader_readProduct_0 (d + 1) x1 I J
  rw [a1, am_bv_v] at bb
  unfold x_lv
  cases hr : U t with
  | inl f =>
    rw [hr] at a2
    exact ⟨I1, bb _ (s_prod7_f (d + 1) J (by rw [a2.2.2.1.1]; exact a2.1) x1 0), a2⟩
  | inr p =>
    obtain ⟨c, t'⟩ := p
    rw [hr] at a2
    obtain ⟨c1, c2, c3⟩ := a2
    obtain ⟨I2, e1, e2⟩ := s_prod7 d J hsl hU hF (I0 := I) (z := z) 400 (Nat.le_refl _) I1 c t' ((c2.fn (c := 8) (by decide) (by decide) (by decide)).trans hK) ((c2.fn (c := 9) (by decide) (by decide) (by decide)).trans hV) c1 c2 c3
    exact ⟨I2, bb _ e1, e2⟩
theorem s_sum7 {K V : Nat → Int32} {U : Nat → x_Re} {x1 : Int32} (hsl : ∀ t, x_sl t (U t)) (hU : ∀ (I : am_I) (t z : Nat), I 8 = K → I 9 = V → x_at t z I → ∃ I', f_reader_readProduct_0 (d + 1) x1 I J = some (none, I', J) ∧ x_out z I I' (U t)) (hF : ∀ (I : am_I) (t z : Nat), I 32 5 ≠ 0 → I 32 3 = nI t → t ≤ 400 → I 26 4 = nI z → z ≤ 400 → ∃ I', f_reader_readProduct_0 (d + 1) x1 I J = some (none, I', J) ∧ x_dd z I I') {I0 : am_I} {z : Nat} : ∀ n, n ≤ 400 → ∀ (I : am_I) (c : x_Cd) (t : Nat), I 8 = K → I 9 = V → x_at t (z + c.length) I → x_fr z I0 I → (∀ i q, c[i]? = some q → I 27 (z + i) = q.1 ∧ I 28 (z + i) = q.2) → ∃ I', f_reader_readSum_7 (d + 1) x1 (nI (400 - n)) I J = some (none, I', J) ∧ x_out z I0 I' (x_tail K 43 45 2 3 U n c t) := by
  intro n
  induction n with
  | zero =>
    intro _ I c t hK hV h hf hc
    refine ⟨I, b_reader_readSum_7 (d + 1) x1 _ I J _ ?_, h, hf, hc⟩
    rw [if_pos (show (400 : Int32) ≤ nI (400 - 0) by decide)]
  | succ n ih =>
    intro hn I c t hK hV h hf hc
    have b1 := b_reader_readSum_7 (d + 1) x1 (nI (400 - (n + 1))) I J
    have b2 := b_reader_readSum_39 (d + 1) x1 (nI (400 - (n + 1))) I J
    have h4 : I 32 4 = K t := by rw [← hK]; exact h.2.1
    rw [if_neg (show ¬ (400 : Int32) ≤ nI (400 - (n + 1)) from nI_ge (b := 400) (by omega) (by omega)), if_pos h.2.2.1] at b1
    unfold x_tail
    by_cases q : K t = 43 ∨ K t = 45
    · have b3 : am_le (f_reader_readSum_39 (d + 1) x1 (nI (400 - (n + 1))) I J) (f_reader_readSum_7 (d + 1) x1 (nI (400 - (n + 1))) I J) := fun r hr => b1 r (by
        by_cases w : I 32 4 = 43
        · rw [if_pos w]; exact hr
        · rw [if_neg w, if_pos (h4.trans (q.resolve_left (fun v => w (h4.trans v))))]; exact hr)
      rw [nI_1, show 400 - (n + 1) + 1 = 400 - n by omega] at b2
      rw [if_pos q]
      have fin : ∀ o, (if K t = 43 then (2 : Int32) else 3) = o → am_le (am_bi (f_reader_pass_0 (d + 1) (I 32 4) I J) (fun _ I1 J2 => am_bv (f_reader_readProduct_0 (d + 1) x1 I1 J2) (fun I4 J5 => am_bi (f_next_code_add_0 (d + 1) o 0 I4 J5) (fun _ I6 J7 => f_reader_readSum_7 (d + 1) x1 (nI (400 - n)) I6 J7)))) (f_reader_readSum_39 (d + 1) x1 (nI (400 - (n + 1))) I J) := fun o ho r hr => b2 r (by
        by_cases w : I 32 4 = 43
        · rw [if_pos w]
          rw [if_pos (h4.symm.trans w)] at ho
          rw [ho]
          exact hr
        · rw [if_neg w]
          rw [if_neg (fun v => w (h4.trans v))] at ho
          rw [ho]
          exact hr)
      obtain ⟨o, ho⟩ : ∃ o, (if K t = 43 then (2 : Int32) else 3) = o := ⟨_, rfl⟩
      rw [ho]
      have fin := fin o ho
      -- after a fault
      have dead : ∀ (I2 : am_I) (f : Int32 × Nat), x_out z I0 I2 (.inl f) → (∃ z2, z ≤ z2 ∧ z2 ≤ 400 ∧ I2 26 4 = nI z2) → ∃ I', am_bi (f_next_code_add_0 (d + 1) o 0 I2 J) (fun _ I6 J7 => f_reader_readSum_7 (d + 1) x1 (nI (400 - n)) I6 J7) = some (none, I', J) ∧ x_out z I0 I' (.inl f) := by
        intro I2 f hx ⟨z2, z3, z4, z5⟩
        obtain ⟨y, I', z', a1, a2, a3, a4, a5⟩ := s_add2 (d + 1) J z5 z4 o 0
        have e5 : I' 32 5 = I2 32 5 := a5 32 5 (x_ne (by decide)) (Or.inl (by decide)) (Or.inl (by decide))
        refine ⟨I', ?_, hx.dead ⟨⟨z', a2, a3, a4⟩, a5⟩ z3⟩
        rw [a1, am_bi_i, s_sum7_f (d + 1) J (by rw [e5, hx.2.2.1.1]; exact hx.1)]
      by_cases q3 : 400 ≤ t
      · have ht : t = 400 := by have := h.2.2.2.2.1; omega
        rw [if_pos q3]
        obtain ⟨y, I1, a1, _, a2⟩ := s_pass_0 (d + 1) J h.1 h.2.1 h.2.2.1 h.2.2.2.2.1
        obtain ⟨c1, c2, c3⟩ := a2 ht
        have k1 : x_fr (z + c.length) I I1 := fun c k k1 _ _ => c3 c k (fun q => k1 ((show ∀ q ∈ ([(32, 5), (32, 6)] : List (Nat × Nat)), q ∈ x_fc by decide) _ q))
        have e26 : I1 26 4 = nI (z + c.length) := (c3 26 4 (by decide)).trans h.2.2.2.1
        have zc : z + c.length ≤ 400 := by have := h.2.2.2.2.2; omega
        have x1' : x_out z I0 I1 (.inl (2, t)) := ⟨by decide, by omega, ⟨c1, by rw [c2, hf.fn (c := 10) (by decide) (by decide) (by decide)], ⟨t, by omega, (c3 32 3 (by decide)).trans h.1⟩, _, Nat.le_add_right _ _, zc, e26⟩, hf.trans k1 (by omega)⟩
        obtain ⟨I2, d1, d2⟩ := hF I1 t _ (by rw [c1]; decide) ((c3 32 3 (by decide)).trans h.1) (by omega) e26 zc
        obtain ⟨I3, g1, g2⟩ := dead I2 _ (x1'.dead d2 (by omega)) (by
          obtain ⟨z', w1, w2, w3⟩ := d2.1
          exact ⟨z', by omega, w2, w3⟩)
        refine ⟨I3, b3 _ (fin _ ?_), g2⟩
        rw [a1, am_bi_i, d1, am_bv_v]
        exact g1
      · rw [if_neg q3]
        obtain ⟨I1, a1, a2, a3⟩ := s_pass_y (d + 1) J h (by omega) (w := I 32 4) h.2.1.symm
        have k1 : x_fr (z + c.length) I I1 := x_fr34 a3
        have k8 : I1 8 = K := (k1.fn (c := 8) (by decide) (by decide) (by decide)).trans hK
        have k9 : I1 9 = V := (k1.fn (c := 9) (by decide) (by decide) (by decide)).trans hV
        obtain ⟨I2, d1, d2⟩ := hU I1 (t + 1) _ k8 k9 a2
        have sl := hsl (t + 1)
        have f1 : x_fr z I0 I1 := hf.trans k1 (by omega)
        cases hr : U (t + 1) with
        | inl f =>
          rw [hr] at d2
          obtain ⟨f, a⟩ := f
          obtain ⟨m1, m2, ⟨m3, m4, m5, z', m5', m6, m7⟩, m8⟩ := d2
          have x2' : x_out z I0 I2 (.inl (f, a)) := ⟨m1, m2, ⟨m3, by rw [m4, f1.fn (c := 10) (by decide) (by decide) (by decide)], m5, z', by omega, m6, m7⟩, f1.trans m8 (by omega)⟩
          obtain ⟨I3, g1, g2⟩ := dead I2 _ x2' ⟨z', by omega, m6, m7⟩
          refine ⟨I3, b3 _ (fin _ ?_), g2⟩
          rw [a1, am_bi_i, d1, am_bv_v]
          exact g1
        | inr p =>
          obtain ⟨c', t'⟩ := p
          rw [hr] at d2 sl
          obtain ⟨m1, m2, m3⟩ := d2
          obtain ⟨s1, s2⟩ := sl
          have zl : z + c.length ≤ t := h.2.2.2.2.2.1
          have t4 := m1.2.2.2.2.1
          obtain ⟨I3, g1, g2, g3, g4, g5⟩ := s_add (d + 1) J m1.2.2.2.1 (by omega) o 0
          have k3 : x_fr (z + c.length + c'.length) I2 I3 := fun c0 k e1 e2 e3 => g5 c0 k (fun q => e1 (by rw [q]; decide)) (fun q => by
            have u1 : c0 = 27 := congrArg Prod.fst q
            have u2 : k = z + c.length + c'.length := congrArg Prod.snd q
            omega) (fun q => by
            have u1 : c0 = 28 := congrArg Prod.fst q
            have u2 : k = z + c.length + c'.length := congrArg Prod.snd q
            omega)
          have f2 : x_fr z I0 I2 := f1.trans m2 (by omega)
          have f3 : x_fr z I0 I3 := f2.trans k3 (by omega)
          have g : ∀ c k, c ≠ 26 → c ≠ 27 → c ≠ 28 → I3 c k = I2 c k := fun c k x y w => g5 c k (x_ne x) (x_ne y) (x_ne w)
          have len : (c ++ c' ++ [(o, (0 : Int32))]).length = c.length + c'.length + 1 := by
            rw [List.length_append, List.length_append]
            rfl
          obtain ⟨I4, r1, r2⟩ := ih (by omega) I3 (c ++ c' ++ [(o, 0)]) t' (by rw [k3.fn (c := 8) (by decide) (by decide) (by decide), m2.fn (c := 8) (by decide) (by decide) (by decide), k8]) (by rw [k3.fn (c := 9) (by decide) (by decide) (by decide), m2.fn (c := 9) (by decide) (by decide) (by decide), k9]) ⟨by rw [g _ _ (by decide) (by decide) (by decide)]; exact m1.1, by rw [g _ _ (by decide) (by decide) (by decide), g _ _ (by decide) (by decide) (by decide)]; exact m1.2.1, by rw [g _ _ (by decide) (by decide) (by decide)]; exact m1.2.2.1, by rw [g2, len, show z + c.length + c'.length + 1 = z + (c.length + c'.length + 1) by omega], t4, by rw [len]; omega, by rw [g _ _ (by decide) (by decide) (by decide)]; exact m1.2.2.2.2.2.2⟩ f3 (fun i p hp => by
            rcases Nat.lt_trichotomy i (c.length + c'.length) with u | u | u
            · by_cases u2 : i < c.length
              · rw [List.append_assoc, List.getElem?_append_left u2] at hp
                rw [k3 27 _ (by simp [x_fc]) (Or.inr (by omega)) (Or.inl (by decide)), k3 28 _ (by simp [x_fc]) (Or.inl (by decide)) (Or.inr (by omega)), m2 27 _ (by simp [x_fc]) (Or.inr (by omega)) (Or.inl (by decide)), m2 28 _ (by simp [x_fc]) (Or.inl (by decide)) (Or.inr (by omega)), k1 27 _ (by simp [x_fc]) (Or.inr (by omega)) (Or.inl (by decide)), k1 28 _ (by simp [x_fc]) (Or.inl (by decide)) (Or.inr (by omega))]
                exact hc i p hp
              · rw [List.getElem?_append_left (by rw [List.length_append]; omega), List.getElem?_append_right (by omega)] at hp
                have v := m3 _ p hp
                rw [show z + c.length + (i - c.length) = z + i by omega] at v
                rw [k3 27 _ (by simp [x_fc]) (Or.inr (by omega)) (Or.inl (by decide)), k3 28 _ (by simp [x_fc]) (Or.inl (by decide)) (Or.inr (by omega))]
                exact v
            · rw [List.getElem?_append_right (by rw [List.length_append]; omega), show i - (c ++ c').length = 0 by rw [List.length_append]; omega] at hp
              have e : (o, (0 : Int32)) = p := Option.some.inj hp
              rw [← e, show z + i = z + c.length + c'.length by omega]
              exact ⟨g3, g4⟩
            · rw [List.getElem?_eq_none (by rw [len]; omega)] at hp
              exact absurd hp (by simp))
          refine ⟨I4, b3 _ (fin _ ?_), r2⟩
          rw [a1, am_bi_i, d1, am_bv_v, g1, am_bi_i]
          exact r1
    · rw [if_neg q]
      refine ⟨I, b1 _ ?_, h, hf, hc⟩
      rw [if_neg (fun w => q (Or.inl (h4.symm.trans w))), if_neg (fun w => q (Or.inr (h4.symm.trans w)))]
theorem s_sum {K V : Nat → Int32} {U : Nat → x_Re} {x1 : Int32} (hsl : ∀ t, x_sl t (U t)) (hU : ∀ (I : am_I) (t z : Nat), I 8 = K → I 9 = V → x_at t z I → ∃ I', f_reader_readProduct_0 (d + 1) x1 I J = some (none, I', J) ∧ x_out z I I' (U t)) (hF : ∀ (I : am_I) (t z : Nat), I 32 5 ≠ 0 → I 32 3 = nI t → t ≤ 400 → I 26 4 = nI z → z ≤ 400 → ∃ I', f_reader_readProduct_0 (d + 1) x1 I J = some (none, I', J) ∧ x_dd z I I') {I : am_I} {t z : Nat} (hK : I 8 = K) (hV : I 9 = V) (h : x_at t z I) : ∃ I', f_reader_readSum_0 (d + 1) x1 I J = some (none, I', J) ∧ x_out z I I' (x_lv K 43 45 2 3 U t) := by
  obtain ⟨I1, a1, a2⟩ := hU I t z hK hV h
  have bb := b_reader_readSum_0 (d + 1) x1 I J
  rw [a1, am_bv_v] at bb
  unfold x_lv
  cases hr : U t with
  | inl f =>
    rw [hr] at a2
    exact ⟨I1, bb _ (s_sum7_f (d + 1) J (by rw [a2.2.2.1.1]; exact a2.1) x1 0), a2⟩
  | inr p =>
    obtain ⟨c, t'⟩ := p
    rw [hr] at a2
    obtain ⟨c1, c2, c3⟩ := a2
    obtain ⟨I2, e1, e2⟩ := s_sum7 d J hsl hU hF (I0 := I) (z := z) 400 (Nat.le_refl _) I1 c t' ((c2.fn (c := 8) (by decide) (by decide) (by decide)).trans hK) ((c2.fn (c := 9) (by decide) (by decide) (by decide)).trans hV) c1 c2 c3
    exact ⟨I2, bb _ e1, e2⟩
end XV

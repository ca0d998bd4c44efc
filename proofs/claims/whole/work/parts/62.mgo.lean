/-! the reference follows a rule -/
theorem g_chs_o (p : g_Plan) (rule : Nat) (think : Int32) (r : g_Row) : ∀ k b w s, (∃ j, b ≤ j ∧ j < b + k ∧ g_open r j = true ∧ g_chs p rule think r k b w s = nI j) ∨ (g_chs p rule think r k b w s = w ∧ (w = -1 → ∀ j, b ≤ j → j < b + k → g_open r j = false)) := by
  intro k
  induction k with
  | zero => intro b w s; exact Or.inr ⟨rfl, fun _ j h1 h2 => by omega⟩
  | succ k ih =>
    intro b w s
    unfold g_chs
    have nb : ∀ s, g_open r b = true → (∃ j, b ≤ j ∧ j < b + (k + 1) ∧ g_open r j = true ∧ g_chs p rule think r k (b + 1) (nI b) s = nI j) := by
      intro s ho
      rcases ih (b + 1) (nI b) s with ⟨j, h1, h2, h3, h4⟩ | ⟨h, -⟩
      · exact ⟨j, by omega, by omega, h3, h4⟩
      · exact ⟨b, by omega, by omega, ho, h⟩
    by_cases ho : g_open r b = true
    · rw [if_pos ho]
      by_cases hw : w = -1
      · rw [if_pos hw]
        exact Or.inl (nb _ ho)
      · rw [if_neg hw]
        by_cases hs : g_sc p rule think r b ≤ s
        · rw [if_pos hs]
          rcases ih (b + 1) w s with ⟨j, h1, h2, h3, h4⟩ | ⟨h, -⟩
          · exact Or.inl ⟨j, by omega, by omega, h3, h4⟩
          · exact Or.inr ⟨h, fun q => absurd q hw⟩
        · rw [if_neg hs]
          exact Or.inl (nb _ ho)
    · rw [if_neg ho]
      rcases ih (b + 1) w s with ⟨j, h1, h2, h3, h4⟩ | ⟨h, h'⟩
      · exact Or.inl ⟨j, by omega, by omega, h3, h4⟩
      · refine Or.inr ⟨h, fun q j h1 h2 => ?_⟩
        by_cases e : j = b
        · subst e
          exact Bool.eq_false_iff.mpr ho
        · exact h' q j (by omega) (by omega)
theorem g_over_no {p : g_Plan} {r : g_Row} (h : ¬ g_over p r = true) : r 33 ≠ 1 ∧ ¬ pck p ≤ r 30 ∧ am_cnt (g_open r) 0 (pn p) ≠ 0 := by
  have e : (g_over p r = true) ↔ (r 33 = 1 ∨ pck p ≤ r 30 ∨ am_cnt (g_open r) 0 (pn p) = 0) := decide_eq_true_iff
  exact ⟨fun q => h (e.mpr (Or.inl q)), fun q => h (e.mpr (Or.inr (Or.inl q))), fun q => h (e.mpr (Or.inr (Or.inr q)))⟩
theorem g_choose_o {p : g_Plan} {r : g_Row} (rule : Nat) (think : Int32) (h : ¬ g_over p r = true) : ∃ j, j < pn p ∧ g_open r j = true ∧ g_choose p rule think r = nI j := by
  rcases g_chs_o p rule think r (pn p) 0 (-1) 0 with ⟨j, h1, h2, h3, h4⟩ | ⟨h1, h2⟩
  · exact ⟨j, by omega, h3, h4⟩
  · exact absurd ((am_cnt_0 (g_open r) (pn p) 0).mpr (fun j a b => h2 rfl j a b)) (g_over_no h).2.2
def g_sm (r : g_Row) : Nat → Nat
  | 0 => 0
  | n + 1 => g_sm r n + (r n).toNatClampNeg
theorem g_sm_c {r r' : g_Row} : ∀ n, (∀ j, j < n → r' j = r j) → g_sm r' n = g_sm r n := by
  intro n
  induction n with
  | zero => intro _; rfl
  | succ n ih => intro h; unfold g_sm; rw [ih (fun j hj => h j (by omega)), h n (by omega)]
theorem g_sm_d {r r' : g_Row} {b : Nat} (hb : 0 < r b) (h1 : r' b = r b - 1) : ∀ n, b < n → (∀ j, j < n → j ≠ b → r' j = r j) → g_sm r' n + 1 = g_sm r n := by
  intro n
  induction n with
  | zero => intro h; omega
  | succ n ih =>
    intro h hj
    unfold g_sm
    by_cases e : n = b
    · subst e
      rw [g_sm_c n (fun j q => hj j (by omega) (by omega)), h1]
      have e1 : (r n - 1).toNatClampNeg + 1 = (r n).toNatClampNeg := by
        have h0 : 0 < (r n).toInt := Int32.lt_iff_toInt_lt.mp hb
        have h2 := Int32.toInt_lt (r n)
        have e2 : (r n - 1).toInt = (r n).toInt - 1 := by
          rw [Int32.toInt_sub, show (1 : Int32).toInt = 1 from rfl]
          apply Int.bmod_eq_of_le <;> omega
        show (r n - 1).toInt.toNat + 1 = (r n).toInt.toNat
        rw [e2]
        omega
      omega
    · have := ih (by omega) (fun j q => hj j (by omega))
      rw [hj n (by omega) e]
      omega
theorem g_mv_lo (p : g_Plan) (lt : g_Row) (ha : Int32) (r : g_Row) (b : Nat) (beg think : Int32) (hb : b < 6) : (g_mv p lt ha r b beg think).2 33 = 1 ∨ ((g_mv p lt ha r b beg think).2 b = r b - 1 ∧ ∀ j, j < 6 → j ≠ b → (g_mv p lt ha r b beg think).2 j = r j) := by
  unfold g_mv
  split
  · right
    refine ⟨?_, fun j hj hjb => ?_⟩
    · show g_set _ (6 + b) _ b = r b - 1
      rw [g_set_n _ _ (by omega), g_set_n _ _ (by omega), g_set_n _ _ (by omega), g_set_n _ _ (by omega), g_set_e]
    · show g_set _ (6 + b) _ j = r j
      rw [g_set_n _ _ (by omega), g_set_n _ _ (by omega), g_set_n _ _ (by omega), g_set_n _ _ (by omega), g_set_n _ _ hjb, g_set_n _ _ (by omega)]
  · left
    show g_fall p r b 33 = 1
    unfold g_fall
    rw [g_set_e]
theorem g_mv_30 (p : g_Plan) (lt : g_Row) (ha : Int32) (r : g_Row) (b : Nat) (beg think : Int32) (hb : b < 6) : (g_mv p lt ha r b beg think).2 30 ≤ pck p := by
  unfold g_mv
  split
  · rename_i h
    show g_set _ (6 + b) _ 30 ≤ pck p
    rw [g_set_n _ _ (by omega), g_set_n _ _ (by omega), g_set_e]
    exact h
  · show g_fall p r b 30 ≤ pck p
    unfold g_fall
    rw [g_set_n _ _ (by omega), g_set_n _ _ (by omega), g_set_n _ _ (by omega), g_set_e]
    exact Int32.le_refl _
theorem s_m_nextBy8 (d rule v : Nat) (p : g_Plan) (J : am_J) (think : Int32) (hr : rule < 4) : ∀ k b w s (I : am_I), b + k = pn p → m_C p v I → g_at (I 98) → (w = -1 ∨ ∃ j, j < 6 ∧ w = nI j) → ∃ I', f_m_nextBy_8 d (nI rule) think w s (nI b) I J = some (some (.int (g_chs p rule think (I 98) k b w s)), I', J) ∧ ∀ c k, c ∉ ([95, 96] : List Nat) → (c ≠ 68 ∨ k ≠ 45) → I' c k = I c k := by
  intro k
  induction k with
  | zero =>
    intro b w s I hb hC hat hw
    have hn := hC.1.1
    have hv := hC.2.1
    refine ⟨I, b_m_nextBy_8 d _ _ _ _ _ I J _ ?_, fun _ _ _ _ => rfl⟩
    rw [hC.2.2.1, am_at_n hv (by omega), hC.2.2.2.1, if_pos (nI_le (by omega) (by omega))]
    rfl
  | succ k ih =>
    intro b w s I hb hC hat hw
    have hn := hC.1.1
    have hv := hC.2.1
    have hb6 : b < 6 := by omega
    have kk : ∀ (I1 : am_I), (∀ c k, c ∉ ([95, 96] : List Nat) → (c ≠ 68 ∨ k ≠ 45) → I1 c k = I c k) → m_C p v I1 ∧ I1 98 = I 98 := fun I1 k1 => ⟨hC.F (fun c k hc => k1 c k (by have q := hc.c; simp only [List.mem_cons, List.not_mem_nil, not_or]; exact ⟨q.1, q.2.1, not_false⟩) hc.2), by funext j; exact k1 98 j (by decide) (Or.inl (by decide))⟩
    have nx : ∀ (I1 : am_I), (∀ c k, c ∉ ([95, 96] : List Nat) → (c ≠ 68 ∨ k ≠ 45) → I1 c k = I c k) → ∀ w s, (w = -1 ∨ ∃ j, j < 6 ∧ w = nI j) → ∃ I', f_m_nextBy_8 d (nI rule) think w s (nI (b + 1)) I1 J = some (some (.int (g_chs p rule think (I 98) k (b + 1) w s)), I', J) ∧ ∀ c k, c ∉ ([95, 96] : List Nat) → (c ≠ 68 ∨ k ≠ 45) → I' c k = I c k := by
      intro I1 k1 w s hw
      obtain ⟨c1, r1⟩ := kk I1 k1
      obtain ⟨I', a, k2⟩ := ih (b + 1) w s I1 (by omega) c1 (by rw [r1]; exact hat) hw
      rw [r1] at a
      exact ⟨I', a, fun c k n1 n2 => (k2 c k n1 n2).trans (k1 c k n1 n2)⟩
    have base := b_m_nextBy_8 d (nI rule) think w s (nI b) I J
    rw [hC.2.2.1, am_at_n hv (by omega), hC.2.2.2.1, if_neg (nI_ge (by omega) (by omega)), s_m_isOpen d b I J hb6, am_bi_i, nI_1] at base
    unfold g_chs
    by_cases ho : g_open (I 98) b = true
    · rw [if_neg (fun q => am_tf0.mp q ho), s_m_beginsAt d b v p I J hC hb6 hat, am_bi_i] at base
      rw [if_pos ho]
      have tail : ∀ (I1 : am_I) (u : Int32), u = g_sc p rule think (I 98) b → (∀ c k, c ∉ ([95, 96] : List Nat) → (c ≠ 68 ∨ k ≠ 45) → I1 c k = I c k) → ∃ I', (if w < 0 then f_m_nextBy_8 d (nI rule) think (nI b) u (nI (b + 1)) I1 J else if s < u then f_m_nextBy_8 d (nI rule) think (nI b) u (nI (b + 1)) I1 J else f_m_nextBy_8 d (nI rule) think w s (nI (b + 1)) I1 J) = some (some (.int (if w = -1 then g_chs p rule think (I 98) k (b + 1) (nI b) (g_sc p rule think (I 98) b) else if g_sc p rule think (I 98) b ≤ s then g_chs p rule think (I 98) k (b + 1) w s else g_chs p rule think (I 98) k (b + 1) (nI b) (g_sc p rule think (I 98) b))), I', J) ∧ ∀ c k, c ∉ ([95, 96] : List Nat) → (c ≠ 68 ∨ k ≠ 45) → I' c k = I c k := by
        intro I1 u hu k1
        subst hu
        rcases hw with hw | ⟨j, hj, hw⟩
        · obtain ⟨I', a, k2⟩ := nx I1 k1 (nI b) (g_sc p rule think (I 98) b) (Or.inr ⟨b, hb6, rfl⟩)
          exact ⟨I', by rw [if_pos (show w < 0 by rw [hw]; decide), if_pos hw]; exact a, k2⟩
        · have n1 : ¬ w < 0 := by rw [hw]; exact nI_pos (by omega)
          have n2 : ¬ w = -1 := fun q => n1 (by rw [q]; decide)
          by_cases hs : g_sc p rule think (I 98) b ≤ s
          · obtain ⟨I', a, k2⟩ := nx I1 k1 w s (Or.inr ⟨j, hj, hw⟩)
            exact ⟨I', by rw [if_neg n1, if_neg n2, if_neg (Int32.not_lt.mpr hs), if_pos hs]; exact a, k2⟩
          · obtain ⟨I', a, k2⟩ := nx I1 k1 (nI b) (g_sc p rule think (I 98) b) (Or.inr ⟨b, hb6, rfl⟩)
            exact ⟨I', by rw [if_neg n1, if_neg n2, if_pos (Int32.not_le.mp hs), if_neg hs]; exact a, k2⟩
      rcases (show rule = 0 ∨ rule = 1 ∨ rule = 2 ∨ rule = 3 by omega) with rfl | rfl | rfl | rfl
      · obtain ⟨I', a, k2⟩ := tail I (-(g_soon p (I 98) b)) (by simp [g_sc]) (fun _ _ _ _ => rfl)
        refine ⟨I', base _ ?_, k2⟩
        rw [if_pos (show nI 0 = 0 from rfl)]
        exact a
      · obtain ⟨I', a, k2⟩ := tail I (I 98 b) (by simp [g_sc]) (fun _ _ _ _ => rfl)
        refine ⟨I', base _ ?_, k2⟩
        rw [if_neg (show ¬ nI 1 = 0 by decide), if_pos (show nI 1 = 1 from rfl), am_at_n (by omega) (by omega)]
        exact a
      · obtain ⟨I', a, k2⟩ := tail I (-(I 98 (6 + b))) (by simp [g_sc]) (fun _ _ _ _ => rfl)
        refine ⟨I', base _ ?_, k2⟩
        rw [if_neg (show ¬ nI 2 = 0 by decide), if_neg (show ¬ nI 2 = 1 by decide), if_pos (show nI 2 = 2 from rfl), am_i6, nI_add, am_at_n (by omega) (by omega)]
        exact a
      · obtain ⟨I1, a1, -, k1⟩ := s_m_worthOf d b v p I J think (g_soon p (I 98) b) hC (by omega)
        obtain ⟨I', a, k2⟩ := tail I1 (g_ask p 0 (I 98) b think (g_soon p (I 98) b)) (by simp [g_sc]) k1
        refine ⟨I', base _ ?_, k2⟩
        rw [if_neg (show ¬ nI 3 = 0 by decide), if_neg (show ¬ nI 3 = 1 by decide), if_neg (show ¬ nI 3 = 2 by decide), am_bi_i, a1, am_bi_i]
        exact a
    · rw [if_pos (am_tf0.mpr ho)] at base
      rw [if_neg ho]
      obtain ⟨I', a, k2⟩ := nx I (fun _ _ _ _ => rfl) w s hw
      exact ⟨I', base _ a, k2⟩
theorem s_m_nextBy (d rule v : Nat) (p : g_Plan) (I : am_I) (J : am_J) (think : Int32) (hr : rule < 4) (hC : m_C p v I) (hat : g_at (I 98)) : ∃ I', f_m_nextBy_0 d (nI rule) think I J = some (some (.int (g_choose p rule think (I 98))), I', J) ∧ ∀ c k, c ∉ ([95, 96] : List Nat) → (c ≠ 68 ∨ k ≠ 45) → I' c k = I c k := by
  obtain ⟨I', a, k⟩ := s_m_nextBy8 d rule v p J think hr (pn p) 0 (-1) 0 I (by omega) hC hat (Or.inl rfl)
  exact ⟨I', b_m_nextBy_0 d _ _ I J _ a, k⟩
theorem s_m_goesBy (d rule i v : Nat) (p : g_Plan) (J : am_J) (lt : g_Row) (ha : Int32) (hr : rule < 4) (hi : i < ptc p) : ∀ k (I : am_I), m_C p v I → g_at (I 98) → I 98 30 ≤ pck p → I 99 = lt → I 68 49 = ha → (g_over p (I 98) = true ∨ g_sm (I 98) (pn p) < k) → ∃ I', f_m_goesBy_0 d (nI rule) (nI i) I J = some (some (.int (g_flw p lt ha rule (pth p i) k (I 98) 32)), I', J) ∧ I' 98 = g_flw p lt ha rule (pth p i) k (I 98) ∧ ∀ c k, m_F c k → I' c k = I c k := by
  have over : ∀ k (I : am_I), m_C p v I → I 98 30 ≤ pck p → g_over p (I 98) = true → ∃ I', f_m_goesBy_0 d (nI rule) (nI i) I J = some (some (.int (g_flw p lt ha rule (pth p i) k (I 98) 32)), I', J) ∧ I' 98 = g_flw p lt ha rule (pth p i) k (I 98) ∧ ∀ c k, m_F c k → I' c k = I c k := by
    intro k I hC h30 ho
    have e : g_flw p lt ha rule (pth p i) k (I 98) = I 98 := by
      cases k with
      | zero => rfl
      | succ k => unfold g_flw; rw [if_pos ho]
    have base := b_m_goesBy_0 d (nI rule) (nI i) I J
    rw [s_m_isOver d v p I J hC h30, am_bi_i, if_neg (fun q => am_tf0.mp q ho), aq_32] at base
    exact ⟨I, base _ (by rw [e]), e.symm, fun _ _ _ => rfl⟩
  intro k
  induction k with
  | zero =>
    intro I hC hat h30 hl hh hm
    exact over 0 I hC h30 (hm.resolve_right (by omega))
  | succ k ih =>
    intro I hC hat h30 hl hh hm
    by_cases ho : g_over p (I 98) = true
    · exact over (k + 1) I hC h30 ho
    · have hsm := hm.resolve_left ho
      have hn := hC.1.1
      have base := b_m_goesBy_0 d (nI rule) (nI i) I J
      obtain ⟨I1, a1, k1⟩ := s_m_nextBy d rule v p I J (pth p i) hr hC hat
      obtain ⟨b, hb, hbo, hbe⟩ := g_choose_o rule (pth p i) ho
      have hb6 : b < 6 := by omega
      have r1 : I1 98 = I 98 := by funext j; exact k1 98 j (by decide) (Or.inl (by decide))
      have kF1 : ∀ c k, m_F c k → I1 c k = I c k := fun c k hc => k1 c k (by have q := hc.c; simp only [List.mem_cons, List.not_mem_nil, not_or]; exact ⟨q.1, q.2.1, not_false⟩) hc.2
      have C1 : m_C p v I1 := hC.F kF1
      obtain ⟨I2, a2, r2, k2⟩ := s_m_movesNow d b v p I1 J (pth p i) C1 hb (by rw [r1]; exact hat)
      have l1 : I1 99 = lt := by funext j; rw [k1 99 j (by decide) (Or.inl (by decide)), hl]
      have h1 : I1 68 49 = ha := (k1 68 49 (by decide) (Or.inr (by decide))).trans hh
      rw [l1, h1, r1] at r2
      rw [s_m_isOver d v p I J hC h30, am_bi_i, if_pos (am_tf0.mpr ho), s_m_think d i v p I J hC hi, am_bi_i, a1, am_bi_i, s_m_think d i v p I1 J C1 hi, am_bi_i, hbe, a2, am_bi_i] at base
      have C2 : m_C p v I2 := C1.F k2
      obtain ⟨I', a3, r3, k3⟩ := ih I2 C2 ⟨b, hb6, by rw [r2]; exact g_mv_31 p lt ha _ b _ _ hb6⟩ (by rw [r2]; exact g_mv_30 p lt ha _ b _ _ hb6) (by
        funext j
        rw [k2 99 j ⟨by decide, Or.inl (by decide)⟩, l1]) ((k2 68 49 ⟨by decide, Or.inr (by decide)⟩).trans h1) (by
        rw [r2]
        rcases g_mv_lo p lt ha (I 98) b (g_soon p (I 98) b) (pth p i) hb6 with h | ⟨h, h'⟩
        · left
          exact decide_eq_true_iff.mpr (Or.inl h)
        · right
          have hpos : 0 < I 98 b := (of_decide_eq_true hbo).1
          have := g_sm_d (r := I 98) (r' := (g_mv p lt ha (I 98) b (g_soon p (I 98) b) (pth p i)).2) hpos h (pn p) hb (fun j hj hjb => h' j (by omega) hjb)
          omega)
      have e : g_flw p lt ha rule (pth p i) (k + 1) (I 98) = g_flw p lt ha rule (pth p i) k (I2 98) := by
        rw [r2]
        show (if g_over p (I 98) = true then I 98 else if g_choose p rule (pth p i) (I 98) = -1 then I 98 else g_flw p lt ha rule (pth p i) k (g_mv p lt ha (I 98) (g_choose p rule (pth p i) (I 98)).toNatClampNeg (g_soon p (I 98) (g_choose p rule (pth p i) (I 98)).toNatClampNeg) (pth p i)).2) = _
        rw [if_neg ho, hbe, if_neg (fun q => absurd q (fun q => nI_pos (n := b) (by omega) (by rw [q]; decide))), nI_clamp (by omega)]
      rw [e]
      exact ⟨I', base _ a3, r3, fun c k hc => by rw [k3 c k hc, k2 c k hc, kF1 c k hc]⟩

/-! the reference's next order, its seats -/
theorem s_m_nextOrder110 (d n : Nat) (J : am_J) (hn : n ≤ 6) : ∀ f a b (o : Nat → Nat) (I : am_I), b ≤ a + f → b < n → a < 7 → (∀ k, k < n → I 106 k = nI (o k)) → ∃ I', f_m_nextOrder_110 d (nI a) (nI b) I J = some (some (.int 1), I', J) ∧ (∀ k, k < n → I' 106 k = nI (g_rv f o a b k)) ∧ ∀ c k, c ≠ 106 → I' c k = I c k := by
  intro f
  induction f with
  | zero =>
    intro a b o I h hb ha hI
    refine ⟨I, b_m_nextOrder_110 d _ _ I J _ ?_, hI, fun _ _ _ => rfl⟩
    rw [if_pos (nI_le (by omega) (by omega)), am_b01_1]
  | succ f ih =>
    intro a b o I h hb ha hI
    have base := b_m_nextOrder_110 d (nI a) (nI b) I J
    unfold g_rv
    by_cases e : b ≤ a
    · rw [if_pos (nI_le e (by omega)), am_b01_1] at base
      rw [if_pos e]
      exact ⟨I, base _ rfl, hI, fun _ _ _ => rfl⟩
    · obtain ⟨b', rfl⟩ : ∃ b', b = b' + 1 := ⟨b - 1, by omega⟩
      rw [if_neg (nI_ge (by omega) (by omega)), am_at_n (by omega) (by omega), am_at_n (by omega) (by omega), am_at_n (by omega) (by omega), am_at_n (by omega) (by omega), nI_1, pk_m1] at base
      rw [if_neg e]
      obtain ⟨I', a2, r2, k2⟩ := ih (a + 1) b' (g_sw o a (b' + 1)) (am_upd (am_upd I 106 a (I 106 (b' + 1))) 106 (b' + 1) (I 106 a)) (by omega) (by omega) (by omega) (fun k hk => by
        unfold g_sw
        by_cases h1 : k = b' + 1
        · subst h1
          rw [am_ue, if_pos rfl, hI a (by omega)]
        · rw [am_uk h1, if_neg h1]
          by_cases h2 : k = a
          · subst h2
            rw [am_ue, if_pos rfl, hI _ hb]
          · rw [am_uk h2, if_neg h2, hI k hk])
      exact ⟨I', base _ a2, r2, fun c k hc => by rw [k2 c k hc, am_uc hc, am_uc hc]⟩
theorem s_m_nextOrder51 (d n i : Nat) (J : am_J) (o : Nat → Nat) (hn : n ≤ 6) (ho : ∀ k, k < 6 → o k < 8) (hio : o i ≤ o (i + 1)) : ∀ j (I : am_I), i + 1 ≤ j → j < n → (∀ k, k < n → I 106 k = nI (o k)) → ∃ I', f_m_nextOrder_51 d (nI n) (nI i) (nI j) I J = some (some (.int 1), I', J) ∧ (∀ k, k < n → I' 106 k = nI (g_rv 6 (g_sw o i (g_fj o i j)) (i + 1) (n - 1) k)) ∧ ∀ c k, c ≠ 106 → I' c k = I c k := by
  intro j
  induction j with
  | zero => intro I h; omega
  | succ j ih =>
    intro I hij hjn hI
    have base := b_m_nextOrder_51 d (nI n) (nI i) (nI (j + 1)) I J
    have o1 := ho i (by omega)
    have o2 := ho (j + 1) (by omega)
    rw [am_at_n (by omega) (by omega), am_at_n (by omega) (by omega), hI i (by omega), hI (j + 1) (by omega)] at base
    unfold g_fj
    by_cases e2 : o i ≤ o (j + 1)
    · rw [if_pos (nI_le e2 (by omega)), am_at_n (by omega) (by omega), am_at_n (by omega) (by omega), am_at_n (by omega) (by omega), am_at_n (by omega) (by omega), nI_1, am_i1, pk_sub (by omega)] at base
      have e3 : (if j + 1 ≤ i + 1 then j + 1 else if o i ≤ o (j + 1) then j + 1 else g_fj o i j) = j + 1 := by
        split
        · rfl
        · rfl
      rw [e3]
      obtain ⟨I', a2, r2, k2⟩ := s_m_nextOrder110 d n J hn 6 (i + 1) (n - 1) (g_sw o i (j + 1)) (am_upd (am_upd I 106 i (I 106 (j + 1))) 106 (j + 1) (I 106 i)) (by omega) (by omega) (by omega) (fun k hk => by
        unfold g_sw
        by_cases h1 : k = j + 1
        · subst h1
          rw [am_ue, if_pos rfl, hI i (by omega)]
        · rw [am_uk h1, if_neg h1]
          by_cases h2 : k = i
          · subst h2
            rw [am_ue, if_pos rfl, hI _ hjn]
          · rw [am_uk h2, if_neg h2, hI k hk])
      exact ⟨I', base _ a2, r2, fun c k hc => by rw [k2 c k hc, am_uc hc, am_uc hc]⟩
    · have hne : ¬ j + 1 ≤ i + 1 := fun q => e2 (by rw [show j = i by omega]; exact hio)
      rw [if_neg (nI_ge (by omega) (by omega)), pk_m1] at base
      rw [if_neg hne, if_neg e2]
      obtain ⟨I2, b1, b2, b3⟩ := ih I (by omega) (by omega) hI
      exact ⟨I2, base _ b1, b2, b3⟩
theorem s_m_nextOrder14 (d n : Nat) (J : am_J) (o : Nat → Nat) (hn : n ≤ 6) (ho : ∀ k, k < 6 → o k < 8) : ∀ k (I : am_I), k < n → (∀ k, k < n → I 106 k = nI (o k)) → ∃ I', f_m_nextOrder_14 d (nI n) (nI k - 1) I J = some (some (.int (match g_fi o k with | none => 0 | some _ => 1)), I', J) ∧ (∀ i, g_fi o k = some i → ∀ k, k < n → I' 106 k = nI (g_rv 6 (g_sw o i (g_fj o i (n - 1))) (i + 1) (n - 1) k)) ∧ ∀ c k, c ≠ 106 → I' c k = I c k := by
  intro k
  induction k with
  | zero =>
    intro I hk hI
    refine ⟨I, b_m_nextOrder_14 d _ _ I J _ ?_, fun i h => (by cases h), fun _ _ _ => rfl⟩
    rw [if_pos (show nI 0 - 1 < 0 by decide), if_neg (show ¬ (0 : Int32) ≤ nI 0 - 1 by decide), am_b01_0]
    rfl
  | succ k ih =>
    intro I hk hI
    rw [nI_pred]
    have base := b_m_nextOrder_14 d (nI n) (nI k) I J
    have o1 := ho k (by omega)
    have o2 := ho (k + 1) (by omega)
    rw [if_neg (nI_pos (by omega)), nI_1, am_at_n (by omega) (by omega), am_at_n (by omega) (by omega), hI k (by omega), hI (k + 1) (by omega), if_pos (nI_pos' (by omega)), am_i1, pk_sub (by omega)] at base
    by_cases e : o k ≤ o (k + 1)
    · obtain ⟨I', a1, r1, k1⟩ := s_m_nextOrder51 d n k J o hn ho e (n - 1) I (by omega) (by omega) hI
      rw [if_pos (nI_le e (by omega))] at base
      have hf : g_fi o (k + 1) = some k := by unfold g_fi; rw [if_pos e]
      rw [hf]
      exact ⟨I', base _ a1, fun i q => by cases q; exact r1, k1⟩
    · rw [if_neg (nI_ge (by omega) (by omega)), show nI k + -nI 1 = nI k - 1 from (Int32.sub_eq_add_neg _ _).symm] at base
      have hf : g_fi o (k + 1) = g_fi o k := by
        conv => lhs; unfold g_fi
        rw [if_neg e]
      rw [hf]
      obtain ⟨I', b1, b2, b3⟩ := ih I (by omega) hI
      exact ⟨I', base _ b1, b2, b3⟩
theorem s_m_nextOrder (d v : Nat) (p : g_Plan) (I : am_I) (J : am_J) (o : Nat → Nat) (hC : m_C p v I) (h1 : 1 ≤ pn p) (ho : ∀ k, k < 6 → o k < 8) (hI : ∀ k, k < pn p → I 106 k = nI (o k)) : ∃ I', f_m_nextOrder_0 d I J = some (some (.int (g_nxv (pn p) o)), I', J) ∧ (∀ o', g_nx (pn p) o = some o' → ∀ k, k < pn p → I' 106 k = nI (o' k)) ∧ ∀ c k, c ≠ 106 → I' c k = I c k := by
  have hn := hC.1.1
  obtain ⟨I', a1, r1, k1⟩ := s_m_nextOrder14 d (pn p) J o hn ho (pn p - 1) I (by omega) hI
  have e : nI (pn p) - 2 = nI (pn p - 1) - 1 := by
    obtain ⟨m, hm⟩ : ∃ m, pn p = m + 1 := ⟨pn p - 1, by omega⟩
    rw [hm, Nat.add_sub_cancel, nI_succ]
    grind
  refine ⟨I', b_m_nextOrder_0 d I J _ ?_, fun o' h => ?_, k1⟩
  · rw [hC.2.2.1, am_at_n hC.2.1 (by omega), hC.2.2.2.1, e, a1]
    unfold g_nxv g_nx
    cases g_fi o (pn p - 1) <;> rfl
  · unfold g_nx at h
    cases hf : g_fi o (pn p - 1) with
    | none => rw [hf] at h; cases h
    | some i =>
      rw [hf] at h
      cases h
      exact r1 i hf
/-- all but the reference's what-if and its orders -/
def m_G2 (c k : Nat) : Prop := m_G c k ∧ c ≠ 106 ∧ c ≠ 107
theorem m_C.G2 {p : g_Plan} {v : Nat} {I I' : am_I} (h : m_C p v I) (e : ∀ c k, m_G2 c k → I' c k = I c k) : m_C p v I' :=
  h.keep (e 68 18 ⟨⟨by decide, Or.inr (by decide)⟩, by decide, by decide⟩) (fun c k hc => e c k ⟨⟨(show ∀ c ∈ m_Cc, c ∉ ([95, 96, 98, 99] : List Nat) by decide) c hc, Or.inl ((show ∀ c ∈ m_Cc, c ≠ 68 by decide) c hc)⟩, (show ∀ c ∈ m_Cc, c ≠ 106 by decide) c hc, (show ∀ c ∈ m_Cc, c ≠ 107 by decide) c hc⟩)
theorem s_m_seatsBy126 (d rule i v : Nat) (p : g_Plan) (J : am_J) (w : Int32) : ∀ k x (I : am_I), x + k = pn p → m_C p v I → ∃ I' : am_I, (∀ j, x ≤ j → j < pn p → I' 107 j = I 106 j) ∧ (∀ c j, (c ≠ 107 ∨ j < x ∨ pn p ≤ j) → I' c j = I c j) ∧ ∀ o, am_bi (f_m_nextOrder_0 d I' J) (fun y4 I2 J3 => f_m_seatsBy_36 d (nI rule) (nI i) 0 y4 w I2 J3) = some o → f_m_seatsBy_126 d (nI rule) (nI i) w (nI x) I J = some o := by
  intro k
  induction k with
  | zero =>
    intro x I hx hC
    have hn := hC.1.1
    refine ⟨I, fun j h1 h2 => by omega, fun _ _ _ => rfl, fun o h => b_m_seatsBy_126 d _ _ _ _ I J _ ?_⟩
    rw [hC.2.2.1, am_at_n hC.2.1 (by omega), hC.2.2.2.1, if_pos (nI_le (by omega) (by omega))]
    exact h
  | succ k ih =>
    intro x I hx hC
    have hn := hC.1.1
    have k1 : ∀ c j, (c ≠ 107 ∨ j ≠ x) → am_upd I 107 x (I 106 x) c j = I c j := fun c j h => by
      rcases h with h | h
      · exact am_uc h
      · exact am_uk h
    obtain ⟨I', h1, h2, h3⟩ := ih (x + 1) (am_upd I 107 x (I 106 x)) (by omega) (hC.keep (k1 68 18 (Or.inl (by decide))) (fun c j hc => k1 c j (Or.inl ((show ∀ c ∈ m_Cc, c ≠ 107 by decide) c hc))))
    refine ⟨I', fun j q1 q2 => ?_, fun c j h => ?_, fun o h => b_m_seatsBy_126 d _ _ _ _ I J _ ?_⟩
    · by_cases e : j = x
      · subst e
        rw [h2 107 j (Or.inr (by omega)), am_ue]
      · rw [h1 j (by omega) q2, k1 106 j (Or.inl (by decide))]
    · rw [h2 c j (h.imp id (fun q => by omega)), k1 c j (h.imp id (fun q => by omega))]
    · rw [hC.2.2.1, am_at_n hC.2.1 (by omega), hC.2.2.2.1, if_neg (nI_ge (by omega) (by omega)), am_at_n (by omega) (by omega), am_at_n (by omega) (by omega), nI_1]
      exact h3 o h
theorem s_m_seatsBy50 (d rule i v c : Nat) (p : g_Plan) (J : am_J) (x3 x5 : Int32) (hd : ∀ k, k < 6 → g_dg c k < 6) : ∀ k j (I : am_I), j + k = pn p → m_C p v I → (∀ i, i < pn p → I 106 i = nI (g_dg c i)) → ∃ I' : am_I, I' 98 = g_stl c k j (I 98) ∧ (∀ a k, a ≠ 98 → I' a k = I a k) ∧ ∀ o, f_m_seatsBy_50 d (nI rule) (nI i) x3 x5 (nI (pn p)) I' J = some o → f_m_seatsBy_50 d (nI rule) (nI i) x3 x5 (nI j) I J = some o := by
  intro k
  induction k with
  | zero =>
    intro j I hj hC hI
    obtain rfl : j = pn p := by omega
    exact ⟨I, rfl, fun _ _ _ => rfl, fun o h => h⟩
  | succ k ih =>
    intro j I hj hC hI
    have hn := hC.1.1
    have hdj := hd j (by omega)
    have k1 : ∀ a k, a ≠ 98 → am_upd I 98 (24 + g_dg c j) (nI j) a k = I a k := fun a k ha => am_uc ha
    obtain ⟨I', h1, h2, h3⟩ := ih (j + 1) (am_upd I 98 (24 + g_dg c j) (nI j)) (by omega) (hC.keep (k1 68 18 (by decide)) (fun a k ha => k1 a k ((show ∀ c ∈ m_Cc, c ≠ 98 by decide) a ha))) (fun i hi => (k1 _ _ (by decide)).trans (hI i hi))
    refine ⟨I', ?_, fun a k ha => (h2 a k ha).trans (k1 a k ha), fun o h => b_m_seatsBy_50 d _ _ _ _ _ I J _ ?_⟩
    · rw [h1, m_r]
      rfl
    · rw [hC.2.2.1, am_at_n hC.2.1 (by omega), hC.2.2.2.1, if_neg (nI_ge (by omega) (by omega)), am_at_n (by omega) (by omega), hI j (by omega), am_i24, nI_add, am_at_n (by omega) (by omega), nI_1]
      exact h3 o h
theorem s_m_seatsBy2 (d rule i v : Nat) (p : g_Plan) (J : am_J) : ∀ k x (I : am_I), x + k = pn p → m_C p v I → (∀ j, j < x → I 106 j = nI j) → ∃ I' : am_I, (∀ j, j < pn p → I' 106 j = nI j) ∧ (∀ c k, c ≠ 106 → I' c k = I c k) ∧ ∀ o, f_m_seatsBy_36 d (nI rule) (nI i) 1 1 0 I' J = some o → f_m_seatsBy_2 d (nI rule) (nI i) (nI x) I J = some o := by
  intro k
  induction k with
  | zero =>
    intro x I hx hC hI
    have hn := hC.1.1
    refine ⟨I, fun j hj => hI j (by omega), fun _ _ _ => rfl, fun o h => b_m_seatsBy_2 d _ _ _ I J _ ?_⟩
    rw [hC.2.2.1, am_at_n hC.2.1 (by omega), hC.2.2.2.1, if_pos (nI_le (by omega) (by omega))]
    exact h
  | succ k ih =>
    intro x I hx hC hI
    have hn := hC.1.1
    obtain ⟨I', h1, h2, h3⟩ := ih (x + 1) (am_upd I 106 x (nI x)) (by omega) (hC.keep (am_uc (by decide)) (fun c j hc => am_uc ((show ∀ c ∈ m_Cc, c ≠ 106 by decide) c hc))) (fun j hj => by
      by_cases e : j = x
      · subst e; exact am_ue
      · rw [am_uk e]; exact hI j (by omega))
    refine ⟨I', h1, fun c k hc => (h2 c k hc).trans (am_uc hc), fun o h => b_m_seatsBy_2 d _ _ _ I J _ ?_⟩
    rw [hC.2.2.1, am_at_n hC.2.1 (by omega), hC.2.2.2.1, if_neg (nI_ge (by omega) (by omega)), am_at_n (by omega) (by omega), nI_1]
    exact h3 o h
theorem g_in63 : ∀ b, b < 6 → g_in b 63 = true := by decide
theorem g_outS63 (p : g_Plan) (hn : pn p ≤ 6) : ∀ k, g_outS p 63 k = g_out p k := by
  intro k
  unfold g_outS g_out
  by_cases h : k < pn p
  · rw [if_pos h, if_pos h, if_pos (g_in63 k (by omega))]
  · rw [if_neg h, if_neg h]
    by_cases h2 : 24 ≤ k ∧ k < 30
    · rw [if_pos h2, if_pos h2]
    · rw [if_neg h2, if_neg h2]
      by_cases h3 : k = 31
      · rw [if_pos h3]
        show (if 0 < pn p ∧ g_in 0 63 = true then nI 0 else g_f1 p 63 5 1 0) = 0
        by_cases h4 : 0 < pn p
        · rw [if_pos ⟨h4, by decide⟩]; rfl
        · rw [if_neg (fun q => h4 q.1), g_f1_w p 63 0 _ _ (by omega)]
      · rw [if_neg h3]
theorem g_capO (p : g_Plan) (r : g_Row) (h0 : g_OK p) (h : ∀ b, b < pn p → r b = pmv p b ∨ r b = 0) : g_cap p r := by
  intro b hb
  rcases h b hb with e | e
  · rw [e]
    have := h0.2.2.2.2.2.2.2.2.1 b hb
    show (pmv p b).toInt.toNat ≤ 9
    omega
  · rw [e]; decide

/-! the best offer -/
theorem g_of_31 (p : g_Plan) (r : g_Row) (b : Nat) (hb : b < 6) : (g_of p r b).2 31 = nI b := by
  unfold g_of
  split
  · split
    · show g_set (g_set r 31 (nI b)) 30 (am_mn (g_soon p r b + 1) (pck p)) 31 = nI b
      rw [g_set_n _ _ (by decide), g_set_e]
    · show g_set _ (18 + b) _ 31 = nI b
      rw [g_set_n _ _ (by omega), g_set_n _ _ (by decide), g_set_n _ _ (by decide), g_set_e]
  · show g_fall p r b 31 = nI b
    unfold g_fall
    rw [g_set_n _ _ (by decide), g_set_n _ _ (by decide), g_set_e]
theorem g_of_33 (p : g_Plan) (r : g_Row) (b : Nat) (hb : b < 6) (h : r 33 = 0 ∨ r 33 = 1) : (g_of p r b).2 33 = 0 ∨ (g_of p r b).2 33 = 1 := by
  unfold g_of
  split
  · split
    · show g_set (g_set r 31 (nI b)) 30 (am_mn (g_soon p r b + 1) (pck p)) 33 = 0 ∨ g_set (g_set r 31 (nI b)) 30 (am_mn (g_soon p r b + 1) (pck p)) 33 = 1
      rw [g_set_n _ _ (by decide), g_set_n _ _ (by decide)]
      exact h
    · show g_set _ (18 + b) _ 33 = 0 ∨ g_set _ (18 + b) _ 33 = 1
      rw [g_set_n _ _ (by omega), g_set_n _ _ (by decide), g_set_n _ _ (by decide), g_set_n _ _ (by decide)]
      exact h
  · right
    show g_fall p r b 33 = 1
    unfold g_fall
    rw [g_set_e]
noncomputable def g_fo (p : g_Plan) (rule : Nat) (think : Int32) (r : g_Row) : Nat → Nat → (Int32 × Int32 × Int32) → Int32 × Int32 × Int32
  | 0, _, s => s
  | k + 1, b, s => if g_open r b = true then g_fo p rule think r k (b + 1) (g_km s (g_far p rule think (g_of p r b).2 32) (nI b)) else g_fo p rule think r k (b + 1) s
theorem s_guide_findOffer48 (d rule : Nat) (p : g_Plan) (J : am_J) (think : Int32) (hr : rule < 4) : ∀ k b (I : am_I), b + k = pn p → g_C p I → g_NP I → ∃ I', f_guide_findOffer_48 d (nI rule) think (nI b) I J = some (none, I', J) ∧ g_st I' = g_fo p rule think (g_row I 34) k b (g_st I) ∧ ∀ c k, g_G c k → I' c k = I c k := by
  intro k
  induction k with
  | zero =>
    intro b I hb hC hN
    have hn := hC.1.1
    refine ⟨I, b_guide_findOffer_48 d _ _ _ I J _ ?_, rfl, fun _ _ _ => rfl⟩
    rw [hC.2.1, if_pos (nI_le (by omega) (by omega))]
  | succ k ih =>
    intro b I hb hC hN
    have hn := hC.1.1
    have hb6 : b < 6 := by omega
    have base := b_guide_findOffer_48 d (nI rule) think (nI b) I J
    rw [hC.2.1, if_neg (nI_ge (by omega) (by omega)), s_now_isOpen d b I J hb6, am_bi_i, nI_1] at base
    unfold g_fo
    by_cases ho : g_opn I 34 b = true
    · rw [if_neg (fun q => am_tf0.mp q ho)] at base
      rw [if_pos ((g_row_opn (I := I) (q := 34) hb6).trans ho)]
      obtain ⟨I1, a1, r1, C1, N1, r34, f1, l1, h1, k1⟩ := s_guide_fresh d p I J hC hN
      obtain ⟨I2, a2, m2, k2⟩ := s_guide_trial_makeOffer d b p I1 J C1 (by omega) (by rw [r1]; exact hN.1)
      rw [r1] at m2
      have C2 : g_C p I2 := C1.keep (fun c k hc => k2 c k (Or.inl (fun e => by subst e; revert hc; decide)) (fun e => by subst e; revert hc; decide) (fun e => by subst e; revert hc; decide) (fun e => by subst e; revert hc; decide))
      have f2 : I2 47 10 = 0 ∨ I2 47 10 = 1 := by
        have q := g_of_33 p (g_row I 34) b hb6 (by rw [← r1]; exact f1)
        rw [← m2] at q
        exact q
      obtain ⟨I3, a3, r3, k3⟩ := s_guide_plain d rule p I2 J think hr C2 ⟨b, hb6, by rw [m2]; exact g_of_31 p _ b hb6⟩ f2 (fun j hj => by
        rw [k2 52 j (Or.inl (by decide)) (by decide) (by decide) (by decide)]
        exact l1 j hj) (by
        rw [k2 47 6 (Or.inr (Or.inl (by decide))) (by decide) (by decide) (by decide)]
        exact h1)
      rw [m2] at r3
      obtain ⟨I4, a4, r4, k4⟩ := s_guide_keep d (I3 47 9) (nI b) I3 J
      rw [a1, am_bv_v, a2, am_bi_i, a3, am_bv_v, a4, am_bv_v] at base
      have kG : ∀ c k, g_G c k → I4 c k = I c k := by
        intro c k hg
        obtain ⟨hc, hk⟩ := hg
        have hc' := hc
        simp only [List.mem_cons, List.not_mem_nil, not_or] at hc'
        rw [k4 c k hk, k3 c k (Or.inl hc'.2.2.1) hc'.2.2.2.1 hc'.2.2.2.2.1 hc'.1 hc'.2.1, k2 c k (Or.inl hc'.2.2.1) hc'.2.2.2.2.2.1 hc'.1 hc'.2.1, k1 c k hc]
      obtain ⟨C4, N4, r44⟩ := g_G_keep hC hN kG
      obtain ⟨I', b1, b2, b3⟩ := ih (b + 1) I4 (by omega) C4 N4
      refine ⟨I', base _ b1, ?_, fun c k hg => (b3 c k hg).trans (kG c k hg)⟩
      have s3 : g_st I3 = g_st I := by
        have e : ∀ j, I3 40 j = I 40 j := fun j => by rw [k3 40 j (Or.inl (by decide)) (by decide) (by decide) (by decide) (by decide), k2 40 j (Or.inl (by decide)) (by decide) (by decide) (by decide), k1 40 j (by decide)]
        unfold g_st
        rw [e, e, e]
      rw [b2, r44, r4, s3, ← r3, g_row_32]
    · rw [if_pos (am_tf0.mpr ho)] at base
      rw [if_neg (fun q => ho ((g_row_opn (I := I) (q := 34) hb6).symm.trans q))]
      obtain ⟨I', b1, b2, b3⟩ := ih (b + 1) I (by omega) hC hN
      exact ⟨I', base _ b1, b2, b3⟩
noncomputable def g_fo0 (p : g_Plan) (rule : Nat) (think : Int32) (r : g_Row) (s : Int32 × Int32 × Int32) : Int32 × Int32 × Int32 := if g_over p r = true then g_km (0, s.2) (g_far p rule think r 32) (-2) else g_fo p rule think r (pn p) 0 (g_km (0, s.2) (g_far p rule think r 32) (-2))
theorem s_guide_findOffer (d rule : Nat) (p : g_Plan) (I : am_I) (J : am_J) (think : Int32) (hr : rule < 4) (hC : g_C p I) (hN : g_NP I) : ∃ I', f_guide_findOffer_0 d (nI rule) think I J = some (none, I', J) ∧ g_st I' = g_fo0 p rule think (g_row I 34) (g_st I) ∧ ∀ c k, g_G c k → I' c k = I c k := by
  have base := b_guide_findOffer_0 d (nI rule) think I J
  obtain ⟨I0, e0⟩ : ∃ I0, I0 = am_upd I 40 17 0 := ⟨_, rfl⟩
  have k0 : ∀ c k, g_G c k → I0 c k = I c k := fun c k hg => by
    rw [e0]
    rcases hg.2 with h | h
    · exact am_uc h
    · exact am_uk (by omega)
  obtain ⟨C0, N0, r0⟩ := g_G_keep hC hN k0
  obtain ⟨I1, a1, r1, C1, N1, r34, f1, l1, h1, k1⟩ := s_guide_fresh d p I0 J C0 N0
  obtain ⟨I3, a3, r3, k3⟩ := s_guide_plain d rule p I1 J think hr C1 (by rw [r1]; exact N0.1) f1 l1 h1
  obtain ⟨I4, a4, r4, k4⟩ := s_guide_keep d (I3 47 9) (-2) I3 J
  rw [← e0, am_b01_0, a1, am_bv_v, a3, am_bv_v, a4, am_bv_v] at base
  have kG : ∀ c k, g_G c k → I4 c k = I c k := by
    intro c k hg
    have hg' := hg
    obtain ⟨hc, hk⟩ := hg
    have hc' := hc
    simp only [List.mem_cons, List.not_mem_nil, not_or] at hc'
    rw [k4 c k hk, k3 c k (Or.inl hc'.2.2.1) hc'.2.2.2.1 hc'.2.2.2.2.1 hc'.1 hc'.2.1, k1 c k hc, k0 c k hg']
  obtain ⟨C4, N4, r44⟩ := g_G_keep hC hN kG
  have s3 : g_st I3 = (0, (g_st I).2) := by
    have e : ∀ j, I3 40 j = I0 40 j := fun j => by rw [k3 40 j (Or.inl (by decide)) (by decide) (by decide) (by decide) (by decide), k1 40 j (by decide)]
    unfold g_st
    rw [e, e, e, e0, am_ue, am_uk (by decide), am_uk (by decide)]
  have s4 : g_st I4 = g_km (0, (g_st I).2) (g_far p rule think (g_row I 34) 32) (-2) := by
    rw [r4, s3, ← r0, ← r1, ← r3, g_row_32]
  rw [s_now_isOver d p I4 J C4 N4.2.1, am_bi_i, r44] at base
  unfold g_fo0
  by_cases ho : g_over p (g_row I 34) = true
  · rw [if_neg (fun q => am_tf0.mp q ho)] at base
    exact ⟨I4, base _ rfl, by rw [if_pos ho, s4], kG⟩
  · rw [if_pos (am_tf0.mpr ho)] at base
    obtain ⟨I', b1, b2, b3⟩ := s_guide_findOffer48 d rule p J think hr (pn p) 0 I4 (by omega) C4 N4
    exact ⟨I', base _ b1, by rw [b2, r44, s4, if_neg ho], fun c k hg => (b3 c k hg).trans (kG c k hg)⟩

/-! spare minutes -/
noncomputable def g_spr (p : g_Plan) (a rule : Nat) (think : Int32) (r : g_Row) : Nat → Int32
  | 0 => -2
  | k + 1 => if g_far p rule think (g_mv p (fun _ => 0) (-1) r a (g_soon p r a) (nI k)).2 33 = 0 then nI k else g_spr p a rule think r k
theorem s_guide_spareAt4 (d rule a : Nat) (p : g_Plan) (J : am_J) (think : Int32) (hr : rule < 4) (ha : a < pn p) : ∀ k, k < 100 → ∀ (I : am_I), g_C p I → g_NP I → ∃ I', f_guide_spareAt_4 d (nI a) (nI rule) think (nI k + (-1)) I J = some (some (.int (g_spr p a rule think (g_row I 34) k)), I', J) ∧ ∀ c k, g_G c k → I' c k = I c k := by
  intro k
  induction k with
  | zero =>
    intro _ I hC hN
    refine ⟨I, b_guide_spareAt_4 d _ _ _ _ I J _ ?_, fun _ _ _ => rfl⟩
    rw [if_pos (show nI 0 + (-1) < 0 by decide)]
    rfl
  | succ k ih =>
    intro hk I hC hN
    have hn := hC.1.1
    have ha6 : a < 6 := by omega
    have ek : nI (k + 1) + (-1) = nI k := by
      rw [← nI_1]
      grind
    rw [ek]
    have base := b_guide_spareAt_4 d (nI a) (nI rule) think (nI k) I J
    obtain ⟨I1, a1, r1, C1, N1, r34, f1, l1, h1, k1⟩ := s_guide_fresh d p I J hC hN
    have at1 : g_at (g_row I1 47) := by rw [r1]; exact hN.1
    obtain ⟨I2, a2, r2, k2⟩ := s_guide_trial_makeMove d a p I1 J (g_soon p (g_row I1 47) a) (nI k) C1 ha (fun _ => l1 a ha6)
    have m2 : g_row I2 47 = (g_mv p (fun _ => 0) (-1) (g_row I 34) a (g_soon p (g_row I 34) a) (nI k)).2 := by
      rw [r2, h1, r1]
      unfold g_mv
      rw [l1 a ha6]
    have C2 : g_C p I2 := C1.keep (fun c k hc => k2 c k (Or.inl (fun e => by subst e; revert hc; decide)) (fun e => by subst e; revert hc; decide) (fun e => by subst e; revert hc; decide) (fun e => by subst e; revert hc; decide) (fun e => by subst e; revert hc; decide))
    have f2 : I2 47 10 = 0 ∨ I2 47 10 = 1 := by
      have q := g_mv_33 p (fun _ => 0) (-1) (g_row I 34) a (g_soon p (g_row I 34) a) (nI k) ha6 (by rw [← r1]; exact f1)
      rw [← m2] at q
      exact q
    obtain ⟨I3, a3, r3, k3⟩ := s_guide_plain d rule p I2 J think hr C2 ⟨a, ha6, by rw [m2]; exact g_mv_31 p _ _ _ a _ _ ha6⟩ f2 (fun b hb => by
      rw [k2 52 b (Or.inl (by decide)) (by decide) (by decide) (by decide) (by decide)]
      exact l1 b hb) (by
      rw [k2 47 6 (Or.inr (Or.inl (by decide))) (by decide) (by decide) (by decide) (by decide)]
      exact h1)
    rw [m2] at r3
    rw [if_neg (nI_pos (by omega)), a1, am_bv_v, s_guide_trial_soonest d a p I1 J C1 ha6 at1, am_bi_i, a2, am_bi_i, a3, am_bv_v] at base
    have kG : ∀ c k, g_G c k → I3 c k = I c k := by
      intro c k hg
      obtain ⟨hc, hk⟩ := hg
      have hc' := hc
      simp only [List.mem_cons, List.not_mem_nil, not_or] at hc'
      rw [k3 c k (Or.inl hc'.2.2.1) hc'.2.2.2.1 hc'.2.2.2.2.1 hc'.1 hc'.2.1, k2 c k (Or.inl hc'.2.2.1) hc'.2.2.2.1 hc'.2.2.2.2.1 hc'.1 hc'.2.1, k1 c k hc]
    have e10 : I3 47 10 = g_far p rule think (g_mv p (fun _ => 0) (-1) (g_row I 34) a (g_soon p (g_row I 34) a) (nI k)).2 33 := by rw [← r3, g_row_33]
    unfold g_spr
    by_cases h0 : I3 47 10 = 0
    · rw [if_pos h0] at base
      refine ⟨I3, base _ ?_, kG⟩
      rw [if_pos (e10.symm.trans h0)]
    · rw [if_neg h0] at base
      obtain ⟨C3, N3, r343⟩ := g_G_keep hC hN kG
      obtain ⟨I', b1, b2⟩ := ih (by omega) I3 C3 N3
      refine ⟨I', base _ ?_, fun c k hg => (b2 c k hg).trans (kG c k hg)⟩
      rw [b1, r343, if_neg (fun q => h0 (e10.trans q))]
theorem s_guide_spareAt (d rule a : Nat) (p : g_Plan) (I : am_I) (J : am_J) (think : Int32) (hr : rule < 4) (ha : a < pn p) (hC : g_C p I) (hN : g_NP I) : ∃ I', f_guide_spareAt_0 d (nI a) (nI rule) think I J = some (some (.int (g_spr p a rule think (g_row I 34) 61)), I', J) ∧ ∀ c k, g_G c k → I' c k = I c k := by
  obtain ⟨I', a1, a2⟩ := s_guide_spareAt4 d rule a p J think hr ha 61 (by omega) I hC hN
  exact ⟨I', b_guide_spareAt_0 d _ _ _ I J _ a1, a2⟩

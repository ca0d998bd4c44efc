/-! haste -/
theorem g_r6 (I : am_I) (v : Int32) : g_row (am_upd I 47 6 v) 47 = g_row I 47 := by
  funext k
  simp [g_row, am_upd]
theorem s_guide_hasteOf (d rule a : Nat) (p : g_Plan) (I : am_I) (J : am_J) (think : Int32) (hr : rule < 4) (hC : g_C p I) (hN : g_NP I) : ∃ I', f_guide_hasteOf_0 d (nI a) (nI rule) think I J = some (some (.int (g_follow p (fun _ => 0) (nI a) rule think (g_row I 34) 32 - g_far p rule think (g_row I 34) 32)), I', J) ∧ ∀ c k, g_G c k → I' c k = I c k := by
  have hn := hC.1.1
  obtain ⟨I1, a1, e15, e16, k1⟩ := s_guide_findEnd d rule p I J think hr hC hN
  obtain ⟨C1, N1, r1⟩ := g_G_keep hC hN k1
  obtain ⟨I3, a3, r3, C3, N3, r34, f3, l3, h3, k3⟩ := s_guide_fresh d p I1 J C1 N1
  obtain ⟨I4, e4⟩ : ∃ I4, I4 = am_upd I3 47 6 (nI a) := ⟨_, rfl⟩
  have k4 : ∀ c k, (c ≠ 47 ∨ k ≠ 6) → I4 c k = I3 c k := by
    intro c k h
    rw [e4]
    rcases h with h | h
    · exact am_uc h
    · exact am_uk h
  have C4 : g_C p I4 := C3.keep (fun c k hc => k4 c k (Or.inl (fun e => by subst e; revert hc; decide)))
  have r4 : g_row I4 47 = g_row I 34 := by rw [e4, g_r6, r3, r1]
  have l4 : ∀ b, b < 6 → I4 52 b = 0 := fun b hb => by rw [k4 52 b (Or.inl (by decide))]; exact l3 b hb
  obtain ⟨I5, a5, r5, k5⟩ := s_guide_follow d rule p I4 J think (I4 52) (nI a) hr (fun b hb _ => l4 b (by omega)) C4 (by rw [r4]; exact hN.1) (by rw [k4 47 10 (Or.inr (by decide))]; exact f3) rfl (by rw [e4, am_ue])
  have base := b_guide_hasteOf_0 d (nI a) (nI rule) think I J
  rw [a1, am_bv_v, a3, am_bv_v, ← e4, a5, am_bv_v] at base
  refine ⟨I5, base _ ?_, fun c k hg => ?_⟩
  · have w : I5 47 9 = g_follow p (fun _ => 0) (nI a) rule think (g_row I 34) 32 := by
      have q : g_row I5 47 32 = I5 47 9 := g_row_32
      rw [← q, r5, r4]
      unfold g_follow
      rw [g_flw_c p (I4 52) (fun _ => 0) (nI a) rule think (fun b hb => l4 b (by omega))]
    have v : I5 40 15 = g_far p rule think (g_row I 34) 32 := by
      rw [k5 40 15 (Or.inl (by decide)) (by decide) (by decide) (by decide) (by decide), k4 40 15 (Or.inl (by decide)), k3 40 15 (by decide), e15]
    rw [w, v]
  · have hg' := hg
    obtain ⟨hc, hk⟩ := hg
    have hc' := hc
    simp only [List.mem_cons, List.not_mem_nil, not_or] at hc'
    rw [k5 c k (Or.inl hc'.2.2.1) hc'.2.2.2.1 hc'.2.2.2.2.1 hc'.1 hc'.2.1, k4 c k (Or.inl hc'.2.2.1), k3 c k hc, k1 c k hg']

/-! the best boards to let go -/
theorem g_lga_31 (p : g_Plan) (m : Int32) : ∀ k b r, b + k ≤ 6 → g_lga p m k b r 31 = r 31 ∧ g_lga p m k b r 33 = r 33 := by
  intro k
  induction k with
  | zero => intro b r _; exact ⟨rfl, rfl⟩
  | succ k ih =>
    intro b r hb
    unfold g_lga
    have e : g_go p r b 31 = r 31 ∧ g_go p r b 33 = r 33 := by
      unfold g_go
      exact ⟨by rw [g_set_n _ _ (by omega), g_set_n _ _ (by decide)], by rw [g_set_n _ _ (by omega), g_set_n _ _ (by decide)]⟩
    split
    · have q := ih (b + 1) (g_go p r b) (by omega)
      exact ⟨q.1.trans e.1, q.2.trans e.2⟩
    · exact ih (b + 1) r (by omega)
noncomputable def g_fd2 (p : g_Plan) (rule : Nat) (think : Int32) (r : g_Row) (c : Nat) : Nat → Nat → (Int32 × Int32 × Int32) → Int32 × Int32 × Int32
  | 0, _, s => s
  | k + 1, m, s => if g_pc m = c ∧ g_aop r (nI m) (pn p) 0 = true then g_fd2 p rule think r c k (m + 1) (g_km s (g_far p rule think (g_lga p (nI m) (pn p) 0 r) 32) (nI m)) else g_fd2 p rule think r c k (m + 1) s
theorem s_guide_drop1 (d rule m : Nat) (p : g_Plan) (I : am_I) (J : am_J) (think : Int32) (hr : rule < 4) (hC : g_C p I) (hN : g_NP I) : ∃ I1 I2 I3 I4, f_guide_trial_copyFrom_0 d I J = some (none, I1, J) ∧ f_guide_letGoAll_0 d (nI m) I1 J = some (none, I2, J) ∧ f_guide_follow_0 d (nI rule) think I2 J = some (none, I3, J) ∧ f_guide_keepMost_0 d (I3 47 9) (nI m) I3 J = some (none, I4, J) ∧ g_st I4 = g_km (g_st I) (g_far p rule think (g_lga p (nI m) (pn p) 0 (g_row I 34)) 32) (nI m) ∧ ∀ c k, g_G c k → I4 c k = I c k := by
  have hn := hC.1.1
  obtain ⟨I1, a1, r1, C1, N1, r34, f1, l1, h1, k1⟩ := s_guide_fresh d p I J hC hN
  obtain ⟨I2, a2, m2, k2⟩ := s_guide_letGoAll d (nI m) p I1 J C1
  rw [r1] at m2
  have C2 : g_C p I2 := C1.keep (fun c k hc => k2 c k (Or.inl (fun e => by subst e; revert hc; decide)) (fun e => by subst e; revert hc; decide))
  have e31 := g_lga_31 p (nI m) (pn p) 0 (g_row I 34) (by omega)
  have at2 : g_at (g_row I2 47) := by
    obtain ⟨s, hs, he⟩ := hN.1
    exact ⟨s, hs, by rw [m2, e31.1, he]⟩
  have f2 : I2 47 10 = 0 ∨ I2 47 10 = 1 := by
    have q : g_row I2 47 33 = I2 47 10 := g_row_33
    rw [← q, m2, e31.2]
    exact hN.2.1
  obtain ⟨I3, a3, r3, k3⟩ := s_guide_plain d rule p I2 J think hr C2 at2 f2 (fun j hj => by
    rw [k2 52 j (Or.inl (by decide)) (by decide)]
    exact l1 j hj) (by
    rw [k2 47 6 (Or.inr (Or.inl (by decide))) (by decide)]
    exact h1)
  rw [m2] at r3
  obtain ⟨I4, a4, r4, k4⟩ := s_guide_keep d (I3 47 9) (nI m) I3 J
  refine ⟨I1, I2, I3, I4, a1, a2, a3, a4, ?_, fun c k hg => ?_⟩
  · have s3 : g_st I3 = g_st I := by
      have e : ∀ j, I3 40 j = I 40 j := fun j => by rw [k3 40 j (Or.inl (by decide)) (by decide) (by decide) (by decide) (by decide), k2 40 j (Or.inl (by decide)) (by decide), k1 40 j (by decide)]
      unfold g_st
      rw [e, e, e]
    rw [r4, s3, ← r3, g_row_32]
  · obtain ⟨hc, hk⟩ := hg
    have hc' := hc
    simp only [List.mem_cons, List.not_mem_nil, not_or] at hc'
    rw [k4 c k hk, k3 c k (Or.inl hc'.2.2.1) hc'.2.2.2.1 hc'.2.2.2.2.1 hc'.1 hc'.2.1, k2 c k (Or.inl hc'.2.2.1) hc'.2.2.2.2.2.1, k1 c k hc]

noncomputable def g_fd1 (p : g_Plan) (rule : Nat) (think : Int32) (r : g_Row) : Nat → Nat → (Int32 × Int32 × Int32) → Int32 × Int32 × Int32
  | 0, _, s => s
  | k + 1, c, s => g_fd1 p rule think r k (c + 1) (g_fd2 p rule think r c (2 ^ pn p) 0 s)
theorem s_guide_findDrops7 (d rule : Nat) (p : g_Plan) (J : am_J) (think : Int32) (hr : rule < 4) : ∀ k c (I : am_I), c + k = pn p + 1 → g_C p I → g_NP I → ∃ I', f_guide_findDrops_7 d (nI rule) think (nI c) I J = some (none, I', J) ∧ g_st I' = g_fd1 p rule think (g_row I 34) k c (g_st I) ∧ ∀ c k, g_G c k → I' c k = I c k := by
  intro k
  induction k with
  | zero =>
    intro c I hi hC hN
    have hn := hC.1.1
    refine ⟨I, b_guide_findDrops_7 d _ _ _ I J _ ?_, rfl, fun _ _ _ => rfl⟩
    rw [hC.2.1, if_pos (nI_lt (by omega) (by omega))]
  | succ k ih =>
    intro c I hi hC hN
    have hn := hC.1.1
    obtain ⟨I1, b1, b2, b3⟩ := s_guide_findDrops21 d rule c p J think hr (by omega) (2 ^ pn p) 0 I (by omega) hC hN
    obtain ⟨C1, N1, r1⟩ := g_G_keep hC hN b3
    obtain ⟨I', e1, e2, e3⟩ := ih (c + 1) I1 (by omega) C1 N1
    refine ⟨I', b_guide_findDrops_7 d _ _ _ I J _ ?_, ?_, fun c k hg => (e3 c k hg).trans (b3 c k hg)⟩
    · rw [hC.2.1, if_neg (Int32.not_lt.mpr (nI_le (by omega) (by omega)))]
      exact b1 _ e1
    · rw [e2, r1, b2]
      rfl
theorem s_guide_findDrops (d rule : Nat) (p : g_Plan) (I : am_I) (J : am_J) (think : Int32) (hr : rule < 4) (hC : g_C p I) (hN : g_NP I) : ∃ I', f_guide_findDrops_0 d (nI rule) think I J = some (none, I', J) ∧ g_st I' = g_fd1 p rule think (g_row I 34) (pn p + 1) 0 (0, I 40 15, I 40 16) ∧ ∀ c k, g_G c k → I' c k = I c k := by
  have k0 : ∀ c k, g_G c k → am_upd I 40 17 0 c k = I c k := fun c k hg => by
    rcases hg.2 with h | h
    · exact am_uc h
    · exact am_uk (by omega)
  obtain ⟨C0, N0, r0⟩ := g_G_keep hC hN k0
  obtain ⟨I', e1, e2, e3⟩ := s_guide_findDrops7 d rule p J think hr (pn p + 1) 0 (am_upd I 40 17 0) (by omega) C0 N0
  refine ⟨I', b_guide_findDrops_0 d _ _ I J _ ?_, ?_, fun c k hg => (e3 c k hg).trans (k0 c k hg)⟩
  · rw [am_b01_0]
    exact e1
  · have z : g_st (am_upd I 40 17 0) = (0, I 40 15, I 40 16) := by
      unfold g_st
      rw [am_ue, am_uk (by decide), am_uk (by decide)]
    rw [e2, r0, z]

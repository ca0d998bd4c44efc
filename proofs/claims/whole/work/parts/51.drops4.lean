theorem g_shl (n : Nat) (h : n < 7) : (1 : Int32) <<< (nI n &&& 31) = nI (2 ^ n) := by
  revert h
  revert n
  decide +kernel
theorem g_p64 (n : Nat) (h : n < 7) : 2 ^ n ≤ 64 := by
  revert h
  revert n
  decide
theorem s_guide_findDrops21 (d rule c : Nat) (p : g_Plan) (J : am_J) (think : Int32) (hr : rule < 4) (hc9 : c < 9) : ∀ k m (I : am_I), m + k = 2 ^ pn p → g_C p I → g_NP I → ∃ I', (∀ o, f_guide_findDrops_7 d (nI rule) think (nI (c + 1)) I' J = some o → f_guide_findDrops_21 d (nI rule) think (nI c) (nI m) I J = some o) ∧ g_st I' = g_fd2 p rule think (g_row I 34) c k m (g_st I) ∧ ∀ c k, g_G c k → I' c k = I c k := by
  intro k
  induction k with
  | zero =>
    intro m I hm hC hN
    have hn := hC.1.1
    have h64 := g_p64 (pn p) (by omega)
    have base := b_guide_findDrops_21 d (nI rule) think (nI c) (nI m) I J
    rw [hC.2.1, g_shl (pn p) (by omega), if_pos (nI_le (by omega) (by omega)), nI_1] at base
    exact ⟨I, fun o ho => base o ho, rfl, fun _ _ _ => rfl⟩
  | succ k ih =>
    intro m I hm hC hN
    have hn := hC.1.1
    have h64 := g_p64 (pn p) (by omega)
    have hpc : g_pc m ≤ 6 := by unfold g_pc; omega
    have base := b_guide_findDrops_21 d (nI rule) think (nI c) (nI m) I J
    rw [hC.2.1, g_shl (pn p) (by omega), if_neg (nI_ge (by omega) (by omega)), s_bitCount d m I J (by omega), am_bi_i, nI_1 m] at base
    unfold g_fd2
    by_cases h : g_pc m = c
    · rw [if_pos (by rw [h]), s_guide_areOpen d (nI m) p I J hC, am_bi_i] at base
      by_cases ho : g_aop (g_row I 34) (nI m) (pn p) 0 = true
      · obtain ⟨I1, I2, I3, I4, a1, a2, a3, a4, s4, k4⟩ := s_guide_drop1 d rule m p I J think hr hC hN
        rw [if_neg (fun q => am_tf0.mp q ho), a1, am_bv_v, a2, am_bv_v, a3, am_bv_v, a4, am_bv_v] at base
        obtain ⟨C4, N4, r4⟩ := g_G_keep hC hN k4
        obtain ⟨I', b1, b2, b3⟩ := ih (m + 1) I4 (by omega) C4 N4
        exact ⟨I', fun o q => base o (b1 o q), by rw [if_pos ⟨h, ho⟩, b2, r4, s4], fun c k hg => (b3 c k hg).trans (k4 c k hg)⟩
      · rw [if_pos (am_tf0.mpr ho)] at base
        obtain ⟨I', b1, b2, b3⟩ := ih (m + 1) I (by omega) hC hN
        exact ⟨I', fun o q => base o (b1 o q), by rw [if_neg (fun q => ho q.2), b2], b3⟩
    · rw [if_neg (fun q => h ((nI_eq (by omega) (by omega)).mp q))] at base
      obtain ⟨I', b1, b2, b3⟩ := ih (m + 1) I (by omega) hC hN
      exact ⟨I', fun o q => base o (b1 o q), by rw [if_neg (fun q => h q.1), b2], b3⟩

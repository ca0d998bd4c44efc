/-! two who agree to answer later -/
def g_lt2 (a x b y : Nat) : g_Row := g_set (g_set (fun _ => 0) a (nI x)) b (nI y)
noncomputable def g_fa2 (p : g_Plan) (rule : Nat) (think : Int32) (r : g_Row) (a b x : Nat) : Nat → Nat → (Int32 × Int32 × Int32) → Int32 × Int32 × Int32
  | 0, _, s => s
  | k + 1, y, s => g_fa2 p rule think r a b x k (y + 1) (g_km s (-(g_follow p (g_lt2 a x b y) (-1) rule think r 32)) (nI (10 * x + y)))
noncomputable def g_fa1 (p : g_Plan) (rule : Nat) (think : Int32) (r : g_Row) (a b : Nat) : Nat → Nat → (Int32 × Int32 × Int32) → Int32 × Int32 × Int32
  | 0, _, s => s
  | k + 1, x, s => g_fa1 p rule think r a b k (x + 1) (g_fa2 p rule think r a b x 10 0 s)
theorem g_m1 {b : Nat} (hb : b < 6) : ¬ (-1 : Int32) = nI b := fun q => nI_pos (n := b) (by omega) (by rw [← q]; decide)
theorem s_guide_findAgreed18 (d rule a b x : Nat) (p : g_Plan) (J : am_J) (think : Int32) (hr : rule < 4) (ha : a < 6) (hb : b < 6) (hx : x < 10) : ∀ k y (I : am_I), y + k = 10 → g_C p I → g_NP I → ∃ I', (∀ o, f_guide_findAgreed_8 d (nI a) (nI b) (nI rule) think (nI (x + 1)) I' J = some o → f_guide_findAgreed_18 d (nI a) (nI b) (nI rule) think (nI x) (nI y) I J = some o) ∧ g_st I' = g_fa2 p rule think (g_row I 34) a b x k y (g_st I) ∧ ∀ c k, g_G c k → I' c k = I c k := by
  intro k
  induction k with
  | zero =>
    intro y I hy hC hN
    have base := b_guide_findAgreed_18 d (nI a) (nI b) (nI rule) think (nI x) (nI y) I J
    rw [if_pos (show (9 : Int32) < nI y from nI_lt (a := 9) (by omega) (by omega)), nI_1] at base
    exact ⟨I, fun o h => base o h, rfl, fun _ _ _ => rfl⟩
  | succ k ih =>
    intro y I hy hC hN
    have hn := hC.1.1
    have base := b_guide_findAgreed_18 d (nI a) (nI b) (nI rule) think (nI x) (nI y) I J
    obtain ⟨I1, a1, r1, C1, N1, r34, f1, l1, h1, k1⟩ := s_guide_fresh d p I J hC hN
    obtain ⟨I2, e2⟩ : ∃ I2, I2 = am_upd (am_upd I1 52 a (nI x)) 52 b (nI y) := ⟨_, rfl⟩
    have k2 : ∀ c k, c ≠ 52 → I2 c k = I1 c k := fun c k hc => by rw [e2, am_uc hc, am_uc hc]
    have C2 : g_C p I2 := C1.keep (fun c k hc => k2 c k (fun e => by subst e; revert hc; decide))
    have r2 : g_row I2 47 = g_row I 34 := by
      rw [← r1]
      exact g_rk_guide_trial (fun c k hc => k2 c k (fun e => by subst e; revert hc; decide))
    have l2 : ∀ j, j < pn p → I2 52 j = g_lt2 a x b y j := by
      intro j hj
      rw [e2, m_r, m_r]
      exact g_set_c2 (g_set_c2 (l1 j (by omega)))
    obtain ⟨I3, a3, r3, k3⟩ := s_guide_follow d rule p I2 J think (I2 52) (-1) hr (fun j hj q => absurd q (g_m1 (by omega))) C2 (by rw [r2]; exact hN.1) (by rw [k2 47 10 (by decide)]; exact f1) rfl (by rw [k2 47 6 (by decide)]; exact h1)
    rw [r2] at r3
    have r3' : g_row I3 47 = g_follow p (g_lt2 a x b y) (-1) rule think (g_row I 34) := by
      rw [r3]
      exact g_flw_c p _ _ _ _ _ l2 _ _
    obtain ⟨I4, a4, r4, k4⟩ := s_guide_keep d (-(I3 47 9)) (10 * nI x + nI y) I3 J
    rw [if_neg (show ¬ (9 : Int32) < nI y from Int32.not_lt.mpr (nI_le (b := 9) (by omega) (by omega))), a1, am_bv_v, am_at_n ha (by omega), am_at_n hb (by omega), ← e2, a3, am_bv_v, a4, am_bv_v, nI_1] at base
    have kG : ∀ c k, g_G c k → I4 c k = I c k := by
      intro c k hg
      obtain ⟨hc, hk⟩ := hg
      have hc' := hc
      simp only [List.mem_cons, List.not_mem_nil, not_or] at hc'
      rw [k4 c k hk, k3 c k (Or.inl hc'.2.2.1) hc'.2.2.2.1 hc'.2.2.2.2.1 hc'.1 hc'.2.1, k2 c k hc'.2.2.2.2.2.2.2.1, k1 c k hc]
    obtain ⟨C4, N4, r44⟩ := g_G_keep hC hN kG
    obtain ⟨I', b1, b2, b3⟩ := ih (y + 1) I4 (by omega) C4 N4
    refine ⟨I', fun o q => base o (b1 o q), ?_, fun c k hg => (b3 c k hg).trans (kG c k hg)⟩
    have s3 : g_st I3 = g_st I := by
      have e : ∀ j, I3 40 j = I 40 j := fun j => by rw [k3 40 j (Or.inl (by decide)) (by decide) (by decide) (by decide) (by decide), k2 40 j (by decide), k1 40 j (by decide)]
      unfold g_st
      rw [e, e, e]
    have w : I3 47 9 = g_follow p (g_lt2 a x b y) (-1) rule think (g_row I 34) 32 := by rw [← r3', g_row_32]
    rw [b2, r44, r4, s3, w, am_i10, pk_mul, nI_add]
    rfl
theorem s_guide_findAgreed8 (d rule a b : Nat) (p : g_Plan) (J : am_J) (think : Int32) (hr : rule < 4) (ha : a < 6) (hb : b < 6) : ∀ k x (I : am_I), x + k = 10 → g_C p I → g_NP I → ∃ I', f_guide_findAgreed_8 d (nI a) (nI b) (nI rule) think (nI x) I J = some (none, am_upd I' 40 15 (-(I' 40 15)), J) ∧ g_st I' = g_fa1 p rule think (g_row I 34) a b k x (g_st I) ∧ ∀ c k, g_G c k → I' c k = I c k := by
  intro k
  induction k with
  | zero =>
    intro x I hx hC hN
    refine ⟨I, b_guide_findAgreed_8 d _ _ _ _ _ I J _ ?_, rfl, fun _ _ _ => rfl⟩
    rw [if_pos (show (9 : Int32) < nI x from nI_lt (a := 9) (by omega) (by omega))]
  | succ k ih =>
    intro x I hx hC hN
    obtain ⟨I1, b1, b2, b3⟩ := s_guide_findAgreed18 d rule a b x p J think hr ha hb (by omega) 10 0 I (by omega) hC hN
    obtain ⟨C1, N1, r1⟩ := g_G_keep hC hN b3
    obtain ⟨I', e1, e2, e3⟩ := ih (x + 1) I1 (by omega) C1 N1
    refine ⟨I', b_guide_findAgreed_8 d _ _ _ _ _ I J _ ?_, ?_, fun c k hg => (e3 c k hg).trans (b3 c k hg)⟩
    · rw [if_neg (show ¬ (9 : Int32) < nI x from Int32.not_lt.mpr (nI_le (b := 9) (by omega) (by omega)))]
      exact b1 _ e1
    · rw [e2, r1, b2]
      rfl
theorem s_guide_findAgreed (d rule a b : Nat) (p : g_Plan) (I : am_I) (J : am_J) (think : Int32) (hr : rule < 4) (ha : a < 6) (hb : b < 6) (hC : g_C p I) (hN : g_NP I) : ∃ I', f_guide_findAgreed_0 d (nI a) (nI b) (nI rule) think I J = some (none, I', J) ∧ I' 40 15 = -(g_fa1 p rule think (g_row I 34) a b 10 0 (0, I 40 15, I 40 16)).2.1 ∧ I' 40 16 = (g_fa1 p rule think (g_row I 34) a b 10 0 (0, I 40 15, I 40 16)).2.2 ∧ ∀ c k, g_G c k → I' c k = I c k := by
  have k0 : ∀ c k, g_G c k → am_upd I 40 17 0 c k = I c k := fun c k hg => by
    rcases hg.2 with h | h
    · exact am_uc h
    · exact am_uk (by omega)
  obtain ⟨C0, N0, r0⟩ := g_G_keep hC hN k0
  obtain ⟨I', e1, e2, e3⟩ := s_guide_findAgreed8 d rule a b p J think hr ha hb 10 0 (am_upd I 40 17 0) (by omega) C0 N0
  have z : g_st (am_upd I 40 17 0) = (0, I 40 15, I 40 16) := by
    unfold g_st
    rw [am_ue, am_uk (by decide), am_uk (by decide)]
  rw [r0, z] at e2
  refine ⟨am_upd I' 40 15 (-(I' 40 15)), b_guide_findAgreed_0 d _ _ _ _ I J _ ?_, ?_, ?_, fun c k hg => ?_⟩
  · rw [am_b01_0]
    exact e1
  · rw [am_ue, ← e2]
    rfl
  · rw [am_uk (by decide), ← e2]
    rfl
  · rw [show am_upd I' 40 15 (-(I' 40 15)) c k = I' c k from by
      rcases hg.2 with h | h
      · exact am_uc h
      · exact am_uk (by omega), e3 c k hg, k0 c k hg]

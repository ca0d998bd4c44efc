/-! the best so far; the best rule -/
def g_km (s : Int32 × Int32 × Int32) (v w : Int32) : Int32 × Int32 × Int32 := if s.1 = 0 then (1, v, w) else if v ≤ s.2.1 then s else (1, v, w)
def g_st (I : am_I) : Int32 × Int32 × Int32 := (I 40 17, I 40 15, I 40 16)
theorem s_guide_keep (d : Nat) (v w : Int32) (I : am_I) (J : am_J) : ∃ I', f_guide_keepMost_0 d v w I J = some (none, I', J) ∧ g_st I' = g_km (g_st I) v w ∧ ∀ c k, (c ≠ 40 ∨ k < 15) → I' c k = I c k := by
  obtain ⟨I', a, h17, h15, h16, k⟩ := s_guide_keepMost d v w I J
  refine ⟨I', a, ?_, k⟩
  unfold g_st g_km
  rw [h17, h15, h16]
  by_cases h0 : I 40 17 = 0
  · simp [h0]
  · by_cases h1 : v ≤ I 40 15 <;> simp [h0, h1]
theorem g_G_keep {p : g_Plan} {I I' : am_I} (hC : g_C p I) (hN : g_NP I) (h : ∀ c k, g_G c k → I' c k = I c k) : g_C p I' ∧ g_NP I' ∧ g_row I' 34 = g_row I 34 := by
  have g1 : ∀ c ∈ ([1, 2, 3, 12, 13, 14, 15, 16, 17, 18, 21, 34, 35, 36, 37, 38, 39] : List Nat), ∀ k, I' c k = I c k := fun c hc k => h c k ⟨(show ∀ c ∈ ([1, 2, 3, 12, 13, 14, 15, 16, 17, 18, 21, 34, 35, 36, 37, 38, 39] : List Nat), c ∉ ([19, 20, 47, 48, 49, 50, 51, 52] : List Nat) by decide) c hc, Or.inl ((show ∀ c ∈ ([1, 2, 3, 12, 13, 14, 15, 16, 17, 18, 21, 34, 35, 36, 37, 38, 39] : List Nat), c ≠ 40 by decide) c hc)⟩
  have r34 : g_row I' 34 = g_row I 34 := g_rk_now (fun c k hc => g1 c ((show ∀ c ∈ ([13, 34, 35, 36, 37, 38] : List Nat), c ∈ ([1, 2, 3, 12, 13, 14, 15, 16, 17, 18, 21, 34, 35, 36, 37, 38, 39] : List Nat) by decide) c hc) k)
  refine ⟨hC.keep (fun c k hc => g1 c ((show ∀ c ∈ ([1, 2, 3, 12, 13, 14, 15, 16, 17, 18, 21] : List Nat), c ∈ ([1, 2, 3, 12, 13, 14, 15, 16, 17, 18, 21, 34, 35, 36, 37, 38, 39] : List Nat) by decide) c hc) k), ⟨by rw [r34]; exact hN.1, ?_, ?_, fun b hb => ?_⟩, r34⟩
  · rw [g1 34 (by decide)]; exact hN.2.1
  · rw [g1 34 (by decide)]; exact hN.2.2.1
  · rw [g1 39 (by decide)]; exact hN.2.2.2 b hb
noncomputable def g_fr2 (p : g_Plan) (r : g_Row) (rule : Nat) : Nat → Nat → (Int32 × Int32 × Int32) → Int32 × Int32 × Int32
  | 0, _, s => s
  | k + 1, i, s => g_fr2 p r rule k (i + 1) (g_km s (g_far p rule (pth p i) r 32) (nI (rule * 4 + i)))
noncomputable def g_fr1 (p : g_Plan) (r : g_Row) : Nat → Nat → (Int32 × Int32 × Int32) → Int32 × Int32 × Int32
  | 0, _, s => s
  | k + 1, i, s => g_fr1 p r k (i + 1) (g_fr2 p r i (ptc p) 0 s)
theorem s_guide_findRule14 (d rule : Nat) (p : g_Plan) (J : am_J) (hr : rule < 4) : ∀ k i (I : am_I), i + k = ptc p → g_C p I → g_NP I → ∃ I', (∀ o, f_guide_findRule_7 d (nI (rule + 1)) I' J = some o → f_guide_findRule_14 d (nI rule) (nI i) I J = some o) ∧ g_st I' = g_fr2 p (g_row I 34) rule k i (g_st I) ∧ ∀ c k, g_G c k → I' c k = I c k := by
  intro k
  induction k with
  | zero =>
    intro i I hi hC hN
    have ht := hC.1.2.2.2.2.2.2.2.2.2.2.1
    have base := b_guide_findRule_14 d (nI rule) (nI i) I J
    rw [hC.2.2.2.2.2.2.2.1, if_pos (nI_le (by omega) (by omega)), nI_1] at base
    exact ⟨I, fun o ho => base o ho, rfl, fun _ _ _ => rfl⟩
  | succ k ih =>
    intro i I hi hC hN
    have ht := hC.1.2.2.2.2.2.2.2.2.2.2.1
    have base := b_guide_findRule_14 d (nI rule) (nI i) I J
    obtain ⟨I1, a1, r1, C1, N1, r34, f1, l1, h1, k1⟩ := s_guide_fresh d p I J hC hN
    obtain ⟨I2, a2, r2, k2⟩ := s_guide_plain d rule p I1 J (pth p i) hr C1 (by rw [r1]; exact hN.1) f1 l1 h1
    rw [r1] at r2
    obtain ⟨I3, a3, r3, k3⟩ := s_guide_keep d (I2 47 9) (nI rule * 4 + nI i) I2 J
    have hth : I1 15 i = pth p i := C1.2.2.2.2.2.2.2.2.1 i (by omega)
    rw [hC.2.2.2.2.2.2.2.1, if_neg (nI_ge (by omega) (by omega)), a1, am_bv_v, am_at_n (by omega) (by omega), hth, a2, am_bv_v, a3, am_bv_v, nI_1] at base
    have kG : ∀ c k, g_G c k → I3 c k = I c k := by
      intro c k hg
      obtain ⟨hc, hk⟩ := hg
      have hc' := hc
      simp only [List.mem_cons, List.not_mem_nil, not_or] at hc'
      rw [k3 c k hk, k2 c k (Or.inl hc'.2.2.1) hc'.2.2.2.1 hc'.2.2.2.2.1 hc'.1 hc'.2.1, k1 c k hc]
    obtain ⟨C3, N3, r343⟩ := g_G_keep hC hN kG
    obtain ⟨I', b1, b2, b3⟩ := ih (i + 1) I3 (by omega) C3 N3
    refine ⟨I', fun o ho => base o (b1 o ho), ?_, fun c k hg => (b3 c k hg).trans (kG c k hg)⟩
    have s2 : g_st I2 = g_st I := by
      unfold g_st
      rw [k2 40 17 (Or.inl (by decide)) (by decide) (by decide) (by decide) (by decide), k2 40 15 (Or.inl (by decide)) (by decide) (by decide) (by decide) (by decide), k2 40 16 (Or.inl (by decide)) (by decide) (by decide) (by decide) (by decide), k1 40 17 (by decide), k1 40 15 (by decide), k1 40 16 (by decide)]
    have v2 : I2 47 9 = g_far p rule (pth p i) (g_row I 34) 32 := by rw [← r2, g_row_32]
    have w2 : nI rule * 4 + nI i = nI (rule * 4 + i) := by
      rcases (show rule = 0 ∨ rule = 1 ∨ rule = 2 ∨ rule = 3 by omega) with rfl | rfl | rfl | rfl <;> rcases (show i = 0 ∨ i = 1 ∨ i = 2 ∨ i = 3 by omega) with rfl | rfl | rfl | rfl <;> rfl
    rw [b2, r343, r3, s2, v2, w2]
    rfl
theorem s_guide_findRule7 (d : Nat) (p : g_Plan) (J : am_J) : ∀ k rule (I : am_I), rule + k = 4 → g_C p I → g_NP I → ∃ I', f_guide_findRule_7 d (nI rule) I J = some (none, I', J) ∧ g_st I' = g_fr1 p (g_row I 34) k rule (g_st I) ∧ ∀ c k, g_G c k → I' c k = I c k := by
  intro k
  induction k with
  | zero =>
    intro rule I hi hC hN
    obtain rfl : rule = 4 := by omega
    refine ⟨I, b_guide_findRule_7 d _ I J _ ?_, rfl, fun _ _ _ => rfl⟩
    rw [if_pos (show (4 : Int32) ≤ nI 4 by decide)]
  | succ k ih =>
    intro rule I hi hC hN
    obtain ⟨I1, b1, b2, b3⟩ := s_guide_findRule14 d rule p J (by omega) (ptc p) 0 I (by omega) hC hN
    obtain ⟨C1, N1, r1⟩ := g_G_keep hC hN b3
    obtain ⟨I', e1, e2, e3⟩ := ih (rule + 1) I1 (by omega) C1 N1
    refine ⟨I', b_guide_findRule_7 d _ I J _ ?_, ?_, fun c k hg => (e3 c k hg).trans (b3 c k hg)⟩
    · rw [if_neg (show ¬ (4 : Int32) ≤ nI rule from nI_ge (a := rule) (b := 4) (by omega) (by omega))]
      exact b1 _ e1
    · rw [e2, r1, b2]
      rfl
theorem s_guide_findRule (d : Nat) (p : g_Plan) (I : am_I) (J : am_J) (hC : g_C p I) (hN : g_NP I) : ∃ I', f_guide_findRule_0 d I J = some (none, I', J) ∧ g_st I' = g_fr1 p (g_row I 34) 4 0 (0, I 40 15, I 40 16) ∧ ∀ c k, g_G c k → I' c k = I c k := by
  have k0 : ∀ c k, g_G c k → am_upd I 40 17 0 c k = I c k := fun c k hg => by
    rcases hg.2 with h | h
    · exact am_uc h
    · exact am_uk (by omega)
  obtain ⟨C0, N0, r0⟩ := g_G_keep hC hN k0
  obtain ⟨I', e1, e2, e3⟩ := s_guide_findRule7 d p J 4 0 (am_upd I 40 17 0) (by omega) C0 N0
  refine ⟨I', b_guide_findRule_0 d I J _ ?_, ?_, fun c k hg => (e3 c k hg).trans (k0 c k hg)⟩
  · rw [am_b01_0]
    exact e1
  · rw [e2, r0]
    have z : g_st (am_upd I 40 17 0) = (0, I 40 15, I 40 16) := by
      unfold g_st
      rw [am_ue, am_uk (by decide), am_uk (by decide)]
    rw [z]

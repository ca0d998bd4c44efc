/-! plays taken up, copied, set out -/
theorem g_cr3 (I0 : am_I) {R A B C a : Nat} (hA : A ≠ R) (hB : B ≠ R) (hC : C ≠ R) (hAB : A ≠ B) (hAC : A ≠ C) (hBC : B ≠ C) (I' : am_I) (h : I' = am_cpy (am_cpy (am_cpy I0 R (a + 4) A 0 6) R (a + 10) B 0 6) R (a + 16) C 0 6) :
    (∀ b, b < 6 → I' A b = I0 R (a + 4 + b) ∧ I' B b = I0 R (a + 10 + b) ∧ I' C b = I0 R (a + 16 + b)) ∧ (∀ c k, c ≠ A → c ≠ B → c ≠ C → I' c k = I0 c k) := by
  subst h
  refine ⟨fun b hb => ⟨?_, ?_, ?_⟩, fun c k h1 h2 h3 => ?_⟩
  · rw [am_cc hAC, am_cc hAB, am_ce (by omega) (by omega)]
    rfl
  · rw [am_cc hBC, am_ce (by omega) (by omega), am_cc (Ne.symm hA)]
    rfl
  · rw [am_ce (by omega) (by omega), am_cc (Ne.symm hB), am_cc (Ne.symm hA)]
    rfl
  · rw [am_cc h3, am_cc h2, am_cc h1]
theorem g_upP (I : am_I) {q : Nat} (x0 x1 x2 x3 : Int32) (I0 : am_I) (h : I0 = am_upd (am_upd (am_upd (am_upd I q 7 x0) q 8 x1) q 9 x2) q 10 x3) :
    I0 q 7 = x0 ∧ I0 q 8 = x1 ∧ I0 q 9 = x2 ∧ I0 q 10 = x3 ∧ ∀ c k, (c ≠ q ∨ k < 7 ∨ 10 < k) → I0 c k = I c k := by
  subst h
  refine ⟨?_, ?_, ?_, ?_, fun c k hc => ?_⟩
  · rw [am_uk (by omega), am_uk (by omega), am_uk (by omega), am_ue]
  · rw [am_uk (by omega), am_uk (by omega), am_ue]
  · rw [am_uk (by omega), am_ue]
  · rw [am_ue]
  · by_cases e : c = q
    · subst e
      have hc : k < 7 ∨ 10 < k := hc.resolve_left (fun q => q rfl)
      rw [am_uk (by omega), am_uk (by omega), am_uk (by omega), am_uk (by omega)]
    · rw [am_uc e, am_uc e, am_uc e, am_uc e]
theorem s_now_readFrom_slots_rows (d a : Nat) (I : am_I) (J : am_J) (ha : a + 22 ≤ 66) : ∃ I', f_now_readFrom_slots_rows_0 d (nI a) I J = some (none, I', J) ∧ (I' 34 7 = I 66 a ∧ I' 34 8 = I 66 (a + 1) ∧ I' 34 9 = I 66 (a + 2) ∧ I' 34 10 = (if I 66 (a + 3) = 1 then 1 else 0) ∧ ∀ b, b < 6 → I' 35 b = I 66 (a + 4 + b) ∧ I' 36 b = I 66 (a + 10 + b) ∧ I' 37 b = I 66 (a + 16 + b)) ∧ ∀ c k, (c ≠ 34 ∨ k < 7 ∨ 10 < k) → c ≠ 35 → c ≠ 36 → c ≠ 37 → I' c k = I c k := by
  obtain ⟨I0, e0⟩ : ∃ I0, I0 = am_upd (am_upd (am_upd (am_upd I 34 7 (I 66 a)) 34 8 (I 66 (a + 1))) 34 9 (I 66 (a + 2))) 34 10 (if I 66 (a + 3) = nI 1 then nI 1 else nI 0) := ⟨_, rfl⟩
  obtain ⟨I', e1⟩ : ∃ I', I' = am_cpy (am_cpy (am_cpy I0 66 (a + 4) 35 0 6) 66 (a + 10) 36 0 6) 66 (a + 16) 37 0 6 := ⟨_, rfl⟩
  obtain ⟨u0, u1, u2, u3, uk⟩ := g_upP I _ _ _ _ I0 e0
  obtain ⟨c1, ck⟩ := g_cr3 I0 (by decide) (by decide) (by decide) (by decide) (by decide) (by decide) I' e1
  refine ⟨I', b_now_readFrom_slots_rows_0 d (nI a) I J _ ?_, ⟨by rw [ck _ _ (by decide) (by decide) (by decide)]; exact u0, by rw [ck _ _ (by decide) (by decide) (by decide)]; exact u1, by rw [ck _ _ (by decide) (by decide) (by decide)]; exact u2, by rw [ck _ _ (by decide) (by decide) (by decide)]; exact u3, fun b hb => ?_⟩, fun c k hc h1 h2 h3 => by rw [ck c k h1 h2 h3, uk c k hc]⟩
  · rw [am_i0, am_i1, am_i2, am_i3, am_i4, am_i6, am_i12, am_i22, am_i66]
    simp only [nI_add]
    rw [if_neg (show ¬ nI a < nI 0 from nI_pos (by omega)), if_pos (nI_le (by omega) (by omega)), am_at_n (by omega) (by omega), am_at_n (by omega) (by omega), am_at_n (by omega) (by omega), am_at_n (by omega) (by omega)]
    have y1 : ∀ v j, am_upd I 34 7 v 66 j = I 66 j := fun v j => am_uc (by decide)
    have y2 : ∀ v w j, am_upd (am_upd I 34 7 v) 34 8 w 66 j = I 66 j := fun v w j => by rw [am_uc (by decide), am_uc (by decide)]
    have y3 : ∀ v w z j, am_upd (am_upd (am_upd I 34 7 v) 34 8 w) 34 9 z 66 j = I 66 j := fun v w z j => by rw [am_uc (by decide), am_uc (by decide), am_uc (by decide)]
    simp only [y1, y2, y3]
    have e10 : a + 4 + 6 = a + 10 := by omega
    have e16 : a + 4 + 12 = a + 16 := by omega
    rw [e10, e16]
    have fin : am_cpc (nI (a + 4)) (nI 0) (nI 6) 66 6 (am_cpc (nI (a + 10)) (nI 0) (nI 6) 66 6 (am_cpc (nI (a + 16)) (nI 0) (nI 6) 66 6 (some (none, am_cpy (am_cpy (am_cpy I0 66 (nI (a + 4)).toNatClampNeg 35 (nI 0).toNatClampNeg (nI 6).toNatClampNeg) 66 (nI (a + 10)).toNatClampNeg 36 (nI 0).toNatClampNeg (nI 6).toNatClampNeg) 66 (nI (a + 16)).toNatClampNeg 37 (nI 0).toNatClampNeg (nI 6).toNatClampNeg, J)) none) none) none = some (none, I', J) := by
      rw [am_cpc_n (by omega) (by omega) (by omega) (by omega), am_cpc_n (by omega) (by omega) (by omega) (by omega), am_cpc_n (by omega) (by omega) (by omega) (by omega), nI_clamp (by omega), nI_clamp (by omega), nI_clamp (by omega), nI_clamp (by omega), nI_clamp (by omega), e1]
    by_cases hz : I 66 (a + 3) = nI 1
    · rw [if_pos hz, show nI 1 = (1 : Int32) from rfl, am_b01_1]
      rw [if_pos hz] at e0
      rw [show (1 : Int32) = nI 1 from rfl, ← e0]
      exact fin
    · rw [if_neg hz]
      have hb0 : ∀ k s, am_b01 (nI 0) k s = k := fun k s => am_b01_0
      rw [hb0]
      rw [if_neg hz] at e0
      rw [← e0]
      exact fin
  · have h := c1 b hb
    exact ⟨h.1.trans (uk _ _ (Or.inl (by decide))), h.2.1.trans (uk _ _ (Or.inl (by decide))), h.2.2.trans (uk _ _ (Or.inl (by decide)))⟩
theorem s_now_readFrom (d a : Nat) (I : am_I) (J : am_J) (ha : a + 22 ≤ 1100) : ∃ I', f_now_readFrom_0 d (nI a) I J = some (none, I', J) ∧ (I' 34 7 = I 64 a ∧ I' 34 8 = I 64 (a + 1) ∧ I' 34 9 = I 64 (a + 2) ∧ I' 34 10 = (if I 64 (a + 3) = 1 then 1 else 0) ∧ ∀ b, b < 6 → I' 35 b = I 64 (a + 4 + b) ∧ I' 36 b = I 64 (a + 10 + b) ∧ I' 37 b = I 64 (a + 16 + b)) ∧ ∀ c k, (c ≠ 34 ∨ k < 7 ∨ 10 < k) → c ≠ 35 → c ≠ 36 → c ≠ 37 → I' c k = I c k := by
  obtain ⟨I0, e0⟩ : ∃ I0, I0 = am_upd (am_upd (am_upd (am_upd I 34 7 (I 64 a)) 34 8 (I 64 (a + 1))) 34 9 (I 64 (a + 2))) 34 10 (if I 64 (a + 3) = nI 1 then nI 1 else nI 0) := ⟨_, rfl⟩
  obtain ⟨I', e1⟩ : ∃ I', I' = am_cpy (am_cpy (am_cpy I0 64 (a + 4) 35 0 6) 64 (a + 10) 36 0 6) 64 (a + 16) 37 0 6 := ⟨_, rfl⟩
  obtain ⟨u0, u1, u2, u3, uk⟩ := g_upP I _ _ _ _ I0 e0
  obtain ⟨c1, ck⟩ := g_cr3 I0 (by decide) (by decide) (by decide) (by decide) (by decide) (by decide) I' e1
  refine ⟨I', b_now_readFrom_0 d (nI a) I J _ ?_, ⟨by rw [ck _ _ (by decide) (by decide) (by decide)]; exact u0, by rw [ck _ _ (by decide) (by decide) (by decide)]; exact u1, by rw [ck _ _ (by decide) (by decide) (by decide)]; exact u2, by rw [ck _ _ (by decide) (by decide) (by decide)]; exact u3, fun b hb => ?_⟩, fun c k hc h1 h2 h3 => by rw [ck c k h1 h2 h3, uk c k hc]⟩
  · rw [am_i0, am_i1, am_i2, am_i3, am_i4, am_i6, am_i12, am_i22, am_i1100]
    simp only [nI_add]
    rw [if_neg (show ¬ nI a < nI 0 from nI_pos (by omega)), if_pos (nI_le (by omega) (by omega)), am_at_n (by omega) (by omega), am_at_n (by omega) (by omega), am_at_n (by omega) (by omega), am_at_n (by omega) (by omega)]
    have y1 : ∀ v j, am_upd I 34 7 v 64 j = I 64 j := fun v j => am_uc (by decide)
    have y2 : ∀ v w j, am_upd (am_upd I 34 7 v) 34 8 w 64 j = I 64 j := fun v w j => by rw [am_uc (by decide), am_uc (by decide)]
    have y3 : ∀ v w z j, am_upd (am_upd (am_upd I 34 7 v) 34 8 w) 34 9 z 64 j = I 64 j := fun v w z j => by rw [am_uc (by decide), am_uc (by decide), am_uc (by decide)]
    simp only [y1, y2, y3]
    have e10 : a + 4 + 6 = a + 10 := by omega
    have e16 : a + 4 + 12 = a + 16 := by omega
    rw [e10, e16]
    have fin : am_cpc (nI (a + 4)) (nI 0) (nI 6) 1100 6 (am_cpc (nI (a + 10)) (nI 0) (nI 6) 1100 6 (am_cpc (nI (a + 16)) (nI 0) (nI 6) 1100 6 (some (none, am_cpy (am_cpy (am_cpy I0 64 (nI (a + 4)).toNatClampNeg 35 (nI 0).toNatClampNeg (nI 6).toNatClampNeg) 64 (nI (a + 10)).toNatClampNeg 36 (nI 0).toNatClampNeg (nI 6).toNatClampNeg) 64 (nI (a + 16)).toNatClampNeg 37 (nI 0).toNatClampNeg (nI 6).toNatClampNeg, J)) none) none) none = some (none, I', J) := by
      rw [am_cpc_n (by omega) (by omega) (by omega) (by omega), am_cpc_n (by omega) (by omega) (by omega) (by omega), am_cpc_n (by omega) (by omega) (by omega) (by omega), nI_clamp (by omega), nI_clamp (by omega), nI_clamp (by omega), nI_clamp (by omega), nI_clamp (by omega), e1]
    by_cases hz : I 64 (a + 3) = nI 1
    · rw [if_pos hz, show nI 1 = (1 : Int32) from rfl, am_b01_1]
      rw [if_pos hz] at e0
      rw [show (1 : Int32) = nI 1 from rfl, ← e0]
      exact fin
    · rw [if_neg hz]
      have hb0 : ∀ k s, am_b01 (nI 0) k s = k := fun k s => am_b01_0
      rw [hb0]
      rw [if_neg hz] at e0
      rw [← e0]
      exact fin
  · have h := c1 b hb
    exact ⟨h.1.trans (uk _ _ (Or.inl (by decide))), h.2.1.trans (uk _ _ (Or.inl (by decide))), h.2.2.trans (uk _ _ (Or.inl (by decide)))⟩
theorem s_guide_trial_readFrom (d a : Nat) (I : am_I) (J : am_J) (ha : a + 22 ≤ 88) : ∃ I', f_guide_trial_readFrom_0 d (nI a) I J = some (none, I', J) ∧ (I' 47 7 = I 41 a ∧ I' 47 8 = I 41 (a + 1) ∧ I' 47 9 = I 41 (a + 2) ∧ I' 47 10 = (if I 41 (a + 3) = 1 then 1 else 0) ∧ ∀ b, b < 6 → I' 48 b = I 41 (a + 4 + b) ∧ I' 49 b = I 41 (a + 10 + b) ∧ I' 50 b = I 41 (a + 16 + b)) ∧ ∀ c k, (c ≠ 47 ∨ k < 7 ∨ 10 < k) → c ≠ 48 → c ≠ 49 → c ≠ 50 → I' c k = I c k := by
  obtain ⟨I0, e0⟩ : ∃ I0, I0 = am_upd (am_upd (am_upd (am_upd I 47 7 (I 41 a)) 47 8 (I 41 (a + 1))) 47 9 (I 41 (a + 2))) 47 10 (if I 41 (a + 3) = nI 1 then nI 1 else nI 0) := ⟨_, rfl⟩
  obtain ⟨I', e1⟩ : ∃ I', I' = am_cpy (am_cpy (am_cpy I0 41 (a + 4) 48 0 6) 41 (a + 10) 49 0 6) 41 (a + 16) 50 0 6 := ⟨_, rfl⟩
  obtain ⟨u0, u1, u2, u3, uk⟩ := g_upP I _ _ _ _ I0 e0
  obtain ⟨c1, ck⟩ := g_cr3 I0 (by decide) (by decide) (by decide) (by decide) (by decide) (by decide) I' e1
  refine ⟨I', b_guide_trial_readFrom_0 d (nI a) I J _ ?_, ⟨by rw [ck _ _ (by decide) (by decide) (by decide)]; exact u0, by rw [ck _ _ (by decide) (by decide) (by decide)]; exact u1, by rw [ck _ _ (by decide) (by decide) (by decide)]; exact u2, by rw [ck _ _ (by decide) (by decide) (by decide)]; exact u3, fun b hb => ?_⟩, fun c k hc h1 h2 h3 => by rw [ck c k h1 h2 h3, uk c k hc]⟩
  · rw [am_i0, am_i1, am_i2, am_i3, am_i4, am_i6, am_i12, am_i22, am_i88]
    simp only [nI_add]
    rw [if_neg (show ¬ nI a < nI 0 from nI_pos (by omega)), if_pos (nI_le (by omega) (by omega)), am_at_n (by omega) (by omega), am_at_n (by omega) (by omega), am_at_n (by omega) (by omega), am_at_n (by omega) (by omega)]
    have y1 : ∀ v j, am_upd I 47 7 v 41 j = I 41 j := fun v j => am_uc (by decide)
    have y2 : ∀ v w j, am_upd (am_upd I 47 7 v) 47 8 w 41 j = I 41 j := fun v w j => by rw [am_uc (by decide), am_uc (by decide)]
    have y3 : ∀ v w z j, am_upd (am_upd (am_upd I 47 7 v) 47 8 w) 47 9 z 41 j = I 41 j := fun v w z j => by rw [am_uc (by decide), am_uc (by decide), am_uc (by decide)]
    simp only [y1, y2, y3]
    have e10 : a + 4 + 6 = a + 10 := by omega
    have e16 : a + 4 + 12 = a + 16 := by omega
    rw [e10, e16]
    have fin : am_cpc (nI (a + 4)) (nI 0) (nI 6) 88 6 (am_cpc (nI (a + 10)) (nI 0) (nI 6) 88 6 (am_cpc (nI (a + 16)) (nI 0) (nI 6) 88 6 (some (none, am_cpy (am_cpy (am_cpy I0 41 (nI (a + 4)).toNatClampNeg 48 (nI 0).toNatClampNeg (nI 6).toNatClampNeg) 41 (nI (a + 10)).toNatClampNeg 49 (nI 0).toNatClampNeg (nI 6).toNatClampNeg) 41 (nI (a + 16)).toNatClampNeg 50 (nI 0).toNatClampNeg (nI 6).toNatClampNeg, J)) none) none) none = some (none, I', J) := by
      rw [am_cpc_n (by omega) (by omega) (by omega) (by omega), am_cpc_n (by omega) (by omega) (by omega) (by omega), am_cpc_n (by omega) (by omega) (by omega) (by omega), nI_clamp (by omega), nI_clamp (by omega), nI_clamp (by omega), nI_clamp (by omega), nI_clamp (by omega), e1]
    by_cases hz : I 41 (a + 3) = nI 1
    · rw [if_pos hz, show nI 1 = (1 : Int32) from rfl, am_b01_1]
      rw [if_pos hz] at e0
      rw [show (1 : Int32) = nI 1 from rfl, ← e0]
      exact fin
    · rw [if_neg hz]
      have hb0 : ∀ k s, am_b01 (nI 0) k s = k := fun k s => am_b01_0
      rw [hb0]
      rw [if_neg hz] at e0
      rw [← e0]
      exact fin
  · have h := c1 b hb
    exact ⟨h.1.trans (uk _ _ (Or.inl (by decide))), h.2.1.trans (uk _ _ (Or.inl (by decide))), h.2.2.trans (uk _ _ (Or.inl (by decide)))⟩
theorem s_witness_trial_readFrom (d a : Nat) (I : am_I) (J : am_J) (ha : a + 22 ≤ 88) : ∃ I', f_witness_trial_readFrom_0 d (nI a) I J = some (none, I', J) ∧ (I' 57 7 = I 56 a ∧ I' 57 8 = I 56 (a + 1) ∧ I' 57 9 = I 56 (a + 2) ∧ I' 57 10 = (if I 56 (a + 3) = 1 then 1 else 0) ∧ ∀ b, b < 6 → I' 58 b = I 56 (a + 4 + b) ∧ I' 59 b = I 56 (a + 10 + b) ∧ I' 60 b = I 56 (a + 16 + b)) ∧ ∀ c k, (c ≠ 57 ∨ k < 7 ∨ 10 < k) → c ≠ 58 → c ≠ 59 → c ≠ 60 → I' c k = I c k := by
  obtain ⟨I0, e0⟩ : ∃ I0, I0 = am_upd (am_upd (am_upd (am_upd I 57 7 (I 56 a)) 57 8 (I 56 (a + 1))) 57 9 (I 56 (a + 2))) 57 10 (if I 56 (a + 3) = nI 1 then nI 1 else nI 0) := ⟨_, rfl⟩
  obtain ⟨I', e1⟩ : ∃ I', I' = am_cpy (am_cpy (am_cpy I0 56 (a + 4) 58 0 6) 56 (a + 10) 59 0 6) 56 (a + 16) 60 0 6 := ⟨_, rfl⟩
  obtain ⟨u0, u1, u2, u3, uk⟩ := g_upP I _ _ _ _ I0 e0
  obtain ⟨c1, ck⟩ := g_cr3 I0 (by decide) (by decide) (by decide) (by decide) (by decide) (by decide) I' e1
  refine ⟨I', b_witness_trial_readFrom_0 d (nI a) I J _ ?_, ⟨by rw [ck _ _ (by decide) (by decide) (by decide)]; exact u0, by rw [ck _ _ (by decide) (by decide) (by decide)]; exact u1, by rw [ck _ _ (by decide) (by decide) (by decide)]; exact u2, by rw [ck _ _ (by decide) (by decide) (by decide)]; exact u3, fun b hb => ?_⟩, fun c k hc h1 h2 h3 => by rw [ck c k h1 h2 h3, uk c k hc]⟩
  · rw [am_i0, am_i1, am_i2, am_i3, am_i4, am_i6, am_i12, am_i22, am_i88]
    simp only [nI_add]
    rw [if_neg (show ¬ nI a < nI 0 from nI_pos (by omega)), if_pos (nI_le (by omega) (by omega)), am_at_n (by omega) (by omega), am_at_n (by omega) (by omega), am_at_n (by omega) (by omega), am_at_n (by omega) (by omega)]
    have y1 : ∀ v j, am_upd I 57 7 v 56 j = I 56 j := fun v j => am_uc (by decide)
    have y2 : ∀ v w j, am_upd (am_upd I 57 7 v) 57 8 w 56 j = I 56 j := fun v w j => by rw [am_uc (by decide), am_uc (by decide)]
    have y3 : ∀ v w z j, am_upd (am_upd (am_upd I 57 7 v) 57 8 w) 57 9 z 56 j = I 56 j := fun v w z j => by rw [am_uc (by decide), am_uc (by decide), am_uc (by decide)]
    simp only [y1, y2, y3]
    have e10 : a + 4 + 6 = a + 10 := by omega
    have e16 : a + 4 + 12 = a + 16 := by omega
    rw [e10, e16]
    have fin : am_cpc (nI (a + 4)) (nI 0) (nI 6) 88 6 (am_cpc (nI (a + 10)) (nI 0) (nI 6) 88 6 (am_cpc (nI (a + 16)) (nI 0) (nI 6) 88 6 (some (none, am_cpy (am_cpy (am_cpy I0 56 (nI (a + 4)).toNatClampNeg 58 (nI 0).toNatClampNeg (nI 6).toNatClampNeg) 56 (nI (a + 10)).toNatClampNeg 59 (nI 0).toNatClampNeg (nI 6).toNatClampNeg) 56 (nI (a + 16)).toNatClampNeg 60 (nI 0).toNatClampNeg (nI 6).toNatClampNeg, J)) none) none) none = some (none, I', J) := by
      rw [am_cpc_n (by omega) (by omega) (by omega) (by omega), am_cpc_n (by omega) (by omega) (by omega) (by omega), am_cpc_n (by omega) (by omega) (by omega) (by omega), nI_clamp (by omega), nI_clamp (by omega), nI_clamp (by omega), nI_clamp (by omega), nI_clamp (by omega), e1]
    by_cases hz : I 56 (a + 3) = nI 1
    · rw [if_pos hz, show nI 1 = (1 : Int32) from rfl, am_b01_1]
      rw [if_pos hz] at e0
      rw [show (1 : Int32) = nI 1 from rfl, ← e0]
      exact fin
    · rw [if_neg hz]
      have hb0 : ∀ k s, am_b01 (nI 0) k s = k := fun k s => am_b01_0
      rw [hb0]
      rw [if_neg hz] at e0
      rw [← e0]
      exact fin
  · have h := c1 b hb
    exact ⟨h.1.trans (uk _ _ (Or.inl (by decide))), h.2.1.trans (uk _ _ (Or.inl (by decide))), h.2.2.trans (uk _ _ (Or.inl (by decide)))⟩

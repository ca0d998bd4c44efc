/-! plays written down and taken up again -/
/-- what is written of a play at the cell q -/
def g_w (I : am_I) (q : Nat) : Nat → Int32 := fun j => match j with
  | 0 => I q 7
  | 1 => I q 8
  | 2 => I q 9
  | 3 => if I q 10 = 0 then 0 else 1
  | j + 4 => if j < 6 then I (q + 1) j else if j < 12 then I (q + 2) (j - 6) else I (q + 3) (j - 12)
theorem g_cp3 (I0 : am_I) {R A B C a : Nat} (hA : A ≠ R) (hB : B ≠ R) (hC : C ≠ R) (I' : am_I) (h : I' = am_cpy (am_cpy (am_cpy I0 A 0 R (a + 4) 6) B 0 R (a + 10) 6) C 0 R (a + 16) 6) :
    (∀ b, b < 6 → I' R (a + 4 + b) = I0 A b ∧ I' R (a + 10 + b) = I0 B b ∧ I' R (a + 16 + b) = I0 C b) ∧ (∀ c k, (c ≠ R ∨ k < a + 4 ∨ a + 22 ≤ k) → I' c k = I0 c k) := by
  subst h
  refine ⟨fun b hb => ⟨?_, ?_, ?_⟩, fun c k hc => ?_⟩
  · rw [am_co (by omega), am_co (by omega), am_ce (by omega) (by omega)]
    congr 1
    omega
  · rw [am_co (by omega), am_ce (by omega) (by omega), am_cc hB]
    congr 1
    omega
  · rw [am_ce (by omega) (by omega), am_cc hC, am_cc hC]
    congr 1
    omega
  · by_cases e : c = R
    · subst e
      have hc : k < a + 4 ∨ a + 22 ≤ k := hc.resolve_left (fun q => q rfl)
      rw [am_co (by omega), am_co (by omega), am_co (by omega)]
    · rw [am_cc e, am_cc e, am_cc e]
theorem g_up4 (I : am_I) {R a : Nat} (x0 x1 x2 x3 : Int32) (I0 : am_I) (h : I0 = am_upd (am_upd (am_upd (am_upd I R a x0) R (a + 1) x1) R (a + 2) x2) R (a + 3) x3) :
    I0 R a = x0 ∧ I0 R (a + 1) = x1 ∧ I0 R (a + 2) = x2 ∧ I0 R (a + 3) = x3 ∧ ∀ c k, (c ≠ R ∨ k < a ∨ a + 4 ≤ k) → I0 c k = I c k := by
  subst h
  refine ⟨?_, ?_, ?_, ?_, fun c k hc => ?_⟩
  · rw [am_uk (by omega), am_uk (by omega), am_uk (by omega), am_ue]
  · rw [am_uk (by omega), am_uk (by omega), am_ue]
  · rw [am_uk (by omega), am_ue]
  · rw [am_ue]
  · by_cases e : c = R
    · subst e
      have hc : k < a ∨ a + 4 ≤ k := hc.resolve_left (fun q => q rfl)
      rw [am_uk (by omega), am_uk (by omega), am_uk (by omega), am_uk (by omega)]
    · rw [am_uc e, am_uc e, am_uc e, am_uc e]
theorem g_w_all {I I' : am_I} {R q a : Nat} (h0 : I' R a = I q 7) (h1 : I' R (a + 1) = I q 8) (h2 : I' R (a + 2) = I q 9) (h3 : I' R (a + 3) = if I q 10 = 0 then 0 else 1) (h : ∀ b, b < 6 → I' R (a + 4 + b) = I (q + 1) b ∧ I' R (a + 10 + b) = I (q + 2) b ∧ I' R (a + 16 + b) = I (q + 3) b) : ∀ j, j < 22 → I' R (a + j) = g_w I q j := by
  intro j hj
  rcases j with _ | _ | _ | _ | j
  · exact h0
  · exact h1
  · exact h2
  · exact h3
  · unfold g_w
    by_cases c1 : j < 6
    · simp only [c1, if_true]
      rw [← (h j c1).1]
      congr 1
      omega
    · by_cases c2 : j < 12
      · simp only [c1, c2, if_true, if_false]
        rw [← (h (j - 6) (by omega)).2.1]
        congr 1
        omega
      · simp only [c1, c2, if_false]
        rw [← (h (j - 12) (by omega)).2.2]
        congr 1
        omega
theorem am_lits : (2 : Int32) = nI 2 ∧ (3 : Int32) = nI 3 ∧ (4 : Int32) = nI 4 ∧ (6 : Int32) = nI 6 ∧ (12 : Int32) = nI 12 ∧ (22 : Int32) = nI 22 ∧ (66 : Int32) = nI 66 ∧ (88 : Int32) = nI 88 ∧ (1100 : Int32) = nI 1100 := ⟨rfl, rfl, rfl, rfl, rfl, rfl, rfl, rfl, rfl⟩
theorem am_i2 : (2 : Int32) = nI 2 := rfl
theorem am_i3 : (3 : Int32) = nI 3 := rfl
theorem am_i4 : (4 : Int32) = nI 4 := rfl
theorem am_i5 : (5 : Int32) = nI 5 := rfl
theorem am_i6 : (6 : Int32) = nI 6 := rfl
theorem am_i12 : (12 : Int32) = nI 12 := rfl
theorem am_i22 : (22 : Int32) = nI 22 := rfl
theorem am_i66 : (66 : Int32) = nI 66 := rfl
theorem am_i88 : (88 : Int32) = nI 88 := rfl
theorem am_i1100 : (1100 : Int32) = nI 1100 := rfl
theorem s_now_writeTo_past_rows (d a : Nat) (I : am_I) (J : am_J) (ha : a + 22 ≤ 1100) : ∃ I', f_now_writeTo_past_rows_0 d (nI a) I J = some (none, I', J) ∧ (∀ j, j < 22 → I' 64 (a + j) = g_w I 34 j) ∧ ∀ c k, (c ≠ 64 ∨ k < a ∨ a + 22 ≤ k) → I' c k = I c k := by
  obtain ⟨I0, e0⟩ : ∃ I0, I0 = am_upd (am_upd (am_upd (am_upd I 64 a (I 34 7)) 64 (a + 1) (I 34 8)) 64 (a + 2) (I 34 9)) 64 (a + 3) (if I 34 10 = nI 0 then nI 0 else nI 1) := ⟨_, rfl⟩
  obtain ⟨I', e1⟩ : ∃ I', I' = am_cpy (am_cpy (am_cpy I0 35 0 64 (a + 4) 6) 36 0 64 (a + 10) 6) 37 0 64 (a + 16) 6 := ⟨_, rfl⟩
  obtain ⟨u0, u1, u2, u3, uk⟩ := g_up4 I _ _ _ _ I0 e0
  obtain ⟨c1, ck⟩ := g_cp3 I0 (by decide) (by decide) (by decide) I' e1
  refine ⟨I', b_now_writeTo_past_rows_0 d (nI a) I J _ ?_, g_w_all (by rw [ck _ _ (by omega)]; exact u0) (by rw [ck _ _ (by omega)]; exact u1) (by rw [ck _ _ (by omega)]; exact u2) (by rw [ck _ _ (by omega)]; exact u3) (fun b hb => ?_), fun c k hc => by rw [ck c k (by omega), uk c k (by omega)]⟩
  · rw [am_i0, am_i1, am_i2, am_i3, am_i4, am_i6, am_i12, am_i22, am_i1100]
    simp only [nI_add]
    have x : ∀ v, am_upd (am_upd (am_upd I 64 a (I 34 7)) 64 (a + 1) (I 34 8)) 64 (a + 2) v 34 10 = I 34 10 := fun v => by rw [am_uc (by decide), am_uc (by decide), am_uc (by decide)]
    have y1 : ∀ v, am_upd I 64 a v 34 8 = I 34 8 := fun v => am_uc (by decide)
    have y2 : ∀ v w, am_upd (am_upd I 64 a v) 64 (a + 1) w 34 9 = I 34 9 := fun v w => by rw [am_uc (by decide), am_uc (by decide)]
    rw [if_neg (show ¬ nI a < nI 0 from nI_pos (by omega)), if_pos (nI_le (by omega) (by omega)), am_at_n (by omega) (by omega), am_at_n (by omega) (by omega), am_at_n (by omega) (by omega)]
    simp only [y1, y2, x]
    have e10 : a + 4 + 6 = a + 10 := by omega
    have e16 : a + 4 + 12 = a + 16 := by omega
    rw [e10, e16]
    have fin : am_cpc (nI 0) (nI (a + 4)) (nI 6) 6 1100 (am_cpc (nI 0) (nI (a + 10)) (nI 6) 6 1100 (am_cpc (nI 0) (nI (a + 16)) (nI 6) 6 1100 (some (none, am_cpy (am_cpy (am_cpy I0 35 (nI 0).toNatClampNeg 64 (nI (a + 4)).toNatClampNeg (nI 6).toNatClampNeg) 36 (nI 0).toNatClampNeg 64 (nI (a + 10)).toNatClampNeg (nI 6).toNatClampNeg) 37 (nI 0).toNatClampNeg 64 (nI (a + 16)).toNatClampNeg (nI 6).toNatClampNeg, J)) none) none) none = some (none, I', J) := by
      rw [am_cpc_n (by omega) (by omega) (by omega) (by omega), am_cpc_n (by omega) (by omega) (by omega) (by omega), am_cpc_n (by omega) (by omega) (by omega) (by omega), nI_clamp (by omega), nI_clamp (by omega), nI_clamp (by omega), nI_clamp (by omega), nI_clamp (by omega), e1]
    by_cases hz : I 34 10 = nI 0
    · rw [if_pos hz, am_at_n (by omega) (by omega)]
      rw [if_pos hz] at e0
      rw [← e0]
      exact fin
    · rw [if_neg hz, am_at_n (by omega) (by omega)]
      rw [if_neg hz] at e0
      rw [← e0]
      exact fin
  · have h := c1 b hb
    refine ⟨h.1.trans (uk _ _ (by omega)), h.2.1.trans (uk _ _ (by omega)), h.2.2.trans (uk _ _ (by omega))⟩
theorem s_now_writeTo (d a : Nat) (I : am_I) (J : am_J) (ha : a + 22 ≤ 66) : ∃ I', f_now_writeTo_0 d (nI a) I J = some (none, I', J) ∧ (∀ j, j < 22 → I' 66 (a + j) = g_w I 34 j) ∧ ∀ c k, (c ≠ 66 ∨ k < a ∨ a + 22 ≤ k) → I' c k = I c k := by
  obtain ⟨I0, e0⟩ : ∃ I0, I0 = am_upd (am_upd (am_upd (am_upd I 66 a (I 34 7)) 66 (a + 1) (I 34 8)) 66 (a + 2) (I 34 9)) 66 (a + 3) (if I 34 10 = nI 0 then nI 0 else nI 1) := ⟨_, rfl⟩
  obtain ⟨I', e1⟩ : ∃ I', I' = am_cpy (am_cpy (am_cpy I0 35 0 66 (a + 4) 6) 36 0 66 (a + 10) 6) 37 0 66 (a + 16) 6 := ⟨_, rfl⟩
  obtain ⟨u0, u1, u2, u3, uk⟩ := g_up4 I _ _ _ _ I0 e0
  obtain ⟨c1, ck⟩ := g_cp3 I0 (by decide) (by decide) (by decide) I' e1
  refine ⟨I', b_now_writeTo_0 d (nI a) I J _ ?_, g_w_all (by rw [ck _ _ (by omega)]; exact u0) (by rw [ck _ _ (by omega)]; exact u1) (by rw [ck _ _ (by omega)]; exact u2) (by rw [ck _ _ (by omega)]; exact u3) (fun b hb => ?_), fun c k hc => by rw [ck c k (by omega), uk c k (by omega)]⟩
  · rw [am_i0, am_i1, am_i2, am_i3, am_i4, am_i6, am_i12, am_i22, am_i66]
    simp only [nI_add]
    have x : ∀ v, am_upd (am_upd (am_upd I 66 a (I 34 7)) 66 (a + 1) (I 34 8)) 66 (a + 2) v 34 10 = I 34 10 := fun v => by rw [am_uc (by decide), am_uc (by decide), am_uc (by decide)]
    have y1 : ∀ v, am_upd I 66 a v 34 8 = I 34 8 := fun v => am_uc (by decide)
    have y2 : ∀ v w, am_upd (am_upd I 66 a v) 66 (a + 1) w 34 9 = I 34 9 := fun v w => by rw [am_uc (by decide), am_uc (by decide)]
    rw [if_neg (show ¬ nI a < nI 0 from nI_pos (by omega)), if_pos (nI_le (by omega) (by omega)), am_at_n (by omega) (by omega), am_at_n (by omega) (by omega), am_at_n (by omega) (by omega)]
    simp only [y1, y2, x]
    have e10 : a + 4 + 6 = a + 10 := by omega
    have e16 : a + 4 + 12 = a + 16 := by omega
    rw [e10, e16]
    have fin : am_cpc (nI 0) (nI (a + 4)) (nI 6) 6 66 (am_cpc (nI 0) (nI (a + 10)) (nI 6) 6 66 (am_cpc (nI 0) (nI (a + 16)) (nI 6) 6 66 (some (none, am_cpy (am_cpy (am_cpy I0 35 (nI 0).toNatClampNeg 66 (nI (a + 4)).toNatClampNeg (nI 6).toNatClampNeg) 36 (nI 0).toNatClampNeg 66 (nI (a + 10)).toNatClampNeg (nI 6).toNatClampNeg) 37 (nI 0).toNatClampNeg 66 (nI (a + 16)).toNatClampNeg (nI 6).toNatClampNeg, J)) none) none) none = some (none, I', J) := by
      rw [am_cpc_n (by omega) (by omega) (by omega) (by omega), am_cpc_n (by omega) (by omega) (by omega) (by omega), am_cpc_n (by omega) (by omega) (by omega) (by omega), nI_clamp (by omega), nI_clamp (by omega), nI_clamp (by omega), nI_clamp (by omega), nI_clamp (by omega), e1]
    by_cases hz : I 34 10 = nI 0
    · rw [if_pos hz, am_at_n (by omega) (by omega)]
      rw [if_pos hz] at e0
      rw [← e0]
      exact fin
    · rw [if_neg hz, am_at_n (by omega) (by omega)]
      rw [if_neg hz] at e0
      rw [← e0]
      exact fin
  · have h := c1 b hb
    refine ⟨h.1.trans (uk _ _ (by omega)), h.2.1.trans (uk _ _ (by omega)), h.2.2.trans (uk _ _ (by omega))⟩
theorem s_guide_trial_writeTo (d a : Nat) (I : am_I) (J : am_J) (ha : a + 22 ≤ 88) : ∃ I', f_guide_trial_writeTo_0 d (nI a) I J = some (none, I', J) ∧ (∀ j, j < 22 → I' 41 (a + j) = g_w I 47 j) ∧ ∀ c k, (c ≠ 41 ∨ k < a ∨ a + 22 ≤ k) → I' c k = I c k := by
  obtain ⟨I0, e0⟩ : ∃ I0, I0 = am_upd (am_upd (am_upd (am_upd I 41 a (I 47 7)) 41 (a + 1) (I 47 8)) 41 (a + 2) (I 47 9)) 41 (a + 3) (if I 47 10 = nI 0 then nI 0 else nI 1) := ⟨_, rfl⟩
  obtain ⟨I', e1⟩ : ∃ I', I' = am_cpy (am_cpy (am_cpy I0 48 0 41 (a + 4) 6) 49 0 41 (a + 10) 6) 50 0 41 (a + 16) 6 := ⟨_, rfl⟩
  obtain ⟨u0, u1, u2, u3, uk⟩ := g_up4 I _ _ _ _ I0 e0
  obtain ⟨c1, ck⟩ := g_cp3 I0 (by decide) (by decide) (by decide) I' e1
  refine ⟨I', b_guide_trial_writeTo_0 d (nI a) I J _ ?_, g_w_all (by rw [ck _ _ (by omega)]; exact u0) (by rw [ck _ _ (by omega)]; exact u1) (by rw [ck _ _ (by omega)]; exact u2) (by rw [ck _ _ (by omega)]; exact u3) (fun b hb => ?_), fun c k hc => by rw [ck c k (by omega), uk c k (by omega)]⟩
  · rw [am_i0, am_i1, am_i2, am_i3, am_i4, am_i6, am_i12, am_i22, am_i88]
    simp only [nI_add]
    have x : ∀ v, am_upd (am_upd (am_upd I 41 a (I 47 7)) 41 (a + 1) (I 47 8)) 41 (a + 2) v 47 10 = I 47 10 := fun v => by rw [am_uc (by decide), am_uc (by decide), am_uc (by decide)]
    have y1 : ∀ v, am_upd I 41 a v 47 8 = I 47 8 := fun v => am_uc (by decide)
    have y2 : ∀ v w, am_upd (am_upd I 41 a v) 41 (a + 1) w 47 9 = I 47 9 := fun v w => by rw [am_uc (by decide), am_uc (by decide)]
    rw [if_neg (show ¬ nI a < nI 0 from nI_pos (by omega)), if_pos (nI_le (by omega) (by omega)), am_at_n (by omega) (by omega), am_at_n (by omega) (by omega), am_at_n (by omega) (by omega)]
    simp only [y1, y2, x]
    have e10 : a + 4 + 6 = a + 10 := by omega
    have e16 : a + 4 + 12 = a + 16 := by omega
    rw [e10, e16]
    have fin : am_cpc (nI 0) (nI (a + 4)) (nI 6) 6 88 (am_cpc (nI 0) (nI (a + 10)) (nI 6) 6 88 (am_cpc (nI 0) (nI (a + 16)) (nI 6) 6 88 (some (none, am_cpy (am_cpy (am_cpy I0 48 (nI 0).toNatClampNeg 41 (nI (a + 4)).toNatClampNeg (nI 6).toNatClampNeg) 49 (nI 0).toNatClampNeg 41 (nI (a + 10)).toNatClampNeg (nI 6).toNatClampNeg) 50 (nI 0).toNatClampNeg 41 (nI (a + 16)).toNatClampNeg (nI 6).toNatClampNeg, J)) none) none) none = some (none, I', J) := by
      rw [am_cpc_n (by omega) (by omega) (by omega) (by omega), am_cpc_n (by omega) (by omega) (by omega) (by omega), am_cpc_n (by omega) (by omega) (by omega) (by omega), nI_clamp (by omega), nI_clamp (by omega), nI_clamp (by omega), nI_clamp (by omega), nI_clamp (by omega), e1]
    by_cases hz : I 47 10 = nI 0
    · rw [if_pos hz, am_at_n (by omega) (by omega)]
      rw [if_pos hz] at e0
      rw [← e0]
      exact fin
    · rw [if_neg hz, am_at_n (by omega) (by omega)]
      rw [if_neg hz] at e0
      rw [← e0]
      exact fin
  · have h := c1 b hb
    refine ⟨h.1.trans (uk _ _ (by omega)), h.2.1.trans (uk _ _ (by omega)), h.2.2.trans (uk _ _ (by omega))⟩
theorem s_witness_trial_writeTo (d a : Nat) (I : am_I) (J : am_J) (ha : a + 22 ≤ 88) : ∃ I', f_witness_trial_writeTo_0 d (nI a) I J = some (none, I', J) ∧ (∀ j, j < 22 → I' 56 (a + j) = g_w I 57 j) ∧ ∀ c k, (c ≠ 56 ∨ k < a ∨ a + 22 ≤ k) → I' c k = I c k := by
  obtain ⟨I0, e0⟩ : ∃ I0, I0 = am_upd (am_upd (am_upd (am_upd I 56 a (I 57 7)) 56 (a + 1) (I 57 8)) 56 (a + 2) (I 57 9)) 56 (a + 3) (if I 57 10 = nI 0 then nI 0 else nI 1) := ⟨_, rfl⟩
  obtain ⟨I', e1⟩ : ∃ I', I' = am_cpy (am_cpy (am_cpy I0 58 0 56 (a + 4) 6) 59 0 56 (a + 10) 6) 60 0 56 (a + 16) 6 := ⟨_, rfl⟩
  obtain ⟨u0, u1, u2, u3, uk⟩ := g_up4 I _ _ _ _ I0 e0
  obtain ⟨c1, ck⟩ := g_cp3 I0 (by decide) (by decide) (by decide) I' e1
  refine ⟨I', b_witness_trial_writeTo_0 d (nI a) I J _ ?_, g_w_all (by rw [ck _ _ (by omega)]; exact u0) (by rw [ck _ _ (by omega)]; exact u1) (by rw [ck _ _ (by omega)]; exact u2) (by rw [ck _ _ (by omega)]; exact u3) (fun b hb => ?_), fun c k hc => by rw [ck c k (by omega), uk c k (by omega)]⟩
  · rw [am_i0, am_i1, am_i2, am_i3, am_i4, am_i6, am_i12, am_i22, am_i88]
    simp only [nI_add]
    have x : ∀ v, am_upd (am_upd (am_upd I 56 a (I 57 7)) 56 (a + 1) (I 57 8)) 56 (a + 2) v 57 10 = I 57 10 := fun v => by rw [am_uc (by decide), am_uc (by decide), am_uc (by decide)]
    have y1 : ∀ v, am_upd I 56 a v 57 8 = I 57 8 := fun v => am_uc (by decide)
    have y2 : ∀ v w, am_upd (am_upd I 56 a v) 56 (a + 1) w 57 9 = I 57 9 := fun v w => by rw [am_uc (by decide), am_uc (by decide)]
    rw [if_neg (show ¬ nI a < nI 0 from nI_pos (by omega)), if_pos (nI_le (by omega) (by omega)), am_at_n (by omega) (by omega), am_at_n (by omega) (by omega), am_at_n (by omega) (by omega)]
    simp only [y1, y2, x]
    have e10 : a + 4 + 6 = a + 10 := by omega
    have e16 : a + 4 + 12 = a + 16 := by omega
    rw [e10, e16]
    have fin : am_cpc (nI 0) (nI (a + 4)) (nI 6) 6 88 (am_cpc (nI 0) (nI (a + 10)) (nI 6) 6 88 (am_cpc (nI 0) (nI (a + 16)) (nI 6) 6 88 (some (none, am_cpy (am_cpy (am_cpy I0 58 (nI 0).toNatClampNeg 56 (nI (a + 4)).toNatClampNeg (nI 6).toNatClampNeg) 59 (nI 0).toNatClampNeg 56 (nI (a + 10)).toNatClampNeg (nI 6).toNatClampNeg) 60 (nI 0).toNatClampNeg 56 (nI (a + 16)).toNatClampNeg (nI 6).toNatClampNeg, J)) none) none) none = some (none, I', J) := by
      rw [am_cpc_n (by omega) (by omega) (by omega) (by omega), am_cpc_n (by omega) (by omega) (by omega) (by omega), am_cpc_n (by omega) (by omega) (by omega) (by omega), nI_clamp (by omega), nI_clamp (by omega), nI_clamp (by omega), nI_clamp (by omega), nI_clamp (by omega), e1]
    by_cases hz : I 57 10 = nI 0
    · rw [if_pos hz, am_at_n (by omega) (by omega)]
      rw [if_pos hz] at e0
      rw [← e0]
      exact fin
    · rw [if_neg hz, am_at_n (by omega) (by omega)]
      rw [if_neg hz] at e0
      rw [← e0]
      exact fin
  · have h := c1 b hb
    refine ⟨h.1.trans (uk _ _ (by omega)), h.2.1.trans (uk _ _ (by omega)), h.2.2.trans (uk _ _ (by omega))⟩

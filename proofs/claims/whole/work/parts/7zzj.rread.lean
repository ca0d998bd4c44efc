/-! the reference reads a text -/
section ZJ
variable (d : Nat) (J : am_J)
theorem r_plain47 {sd : Nat} (hsd : sd < 2) : ∀ k b (I : am_I), b + k = 18 → ∃ I', f_m_plain_47 d (nI sd) (nI b) I J = some (none, I', J) ∧ (∀ j, b ≤ j → j < 18 → I' 85 (18 * sd + j) = 0 ∧ I' 86 (18 * sd + j) = 0) ∧ ∀ c j, ((c ≠ 85 ∧ c ≠ 86) ∨ j < 18 * sd + b ∨ 18 * sd + 18 ≤ j) → I' c j = I c j := by
  intro k
  induction k with
  | zero =>
    intro b I hb
    have e := b_m_plain_47 d (nI sd) (nI b) I J
    rw [if_pos (show (18 : Int32) ≤ nI b from nI_le (a := 18) (by omega) (by omega))] at e
    exact ⟨I, e _ rfl, fun j h1 h2 => by omega, fun _ _ _ => rfl⟩
  | succ k ih =>
    intro b I hb
    have e := b_m_plain_47 d (nI sd) (nI b) I J
    rw [if_neg (show ¬ (18 : Int32) ≤ nI b from nI_ge (b := 18) (by omega) (by omega)), show (18 : Int32) = nI 18 from rfl, pk_mul, nI_add, am_at_n (by omega) (by omega), am_at_n (by omega) (by omega), nI_1] at e
    obtain ⟨I', a1, a2, a3⟩ := ih (b + 1) (am_upd (am_upd I 85 (18 * sd + b) 0) 86 (18 * sd + b) 0) (by omega)
    refine ⟨I', e _ a1, fun j h1 h2 => ?_, fun c j h => ?_⟩
    · by_cases q : j = b
      · rw [a3 85 _ (Or.inr (by omega)), a3 86 _ (Or.inr (by omega)), q, am_ue, am_uc (by decide), am_ue]
        exact ⟨rfl, rfl⟩
      · exact a2 j (by omega) h2
    · rw [a3 c j (by omega)]
      rcases h with h | h
      · rw [am_uc h.2, am_uc h.1]
      · rw [am_uk (by omega), am_uk (by omega)]
theorem r_plain0 {sd : Nat} (hsd : sd < 2) (I : am_I) : ∃ I', f_m_plain_0 d (nI sd) I J = some (none, I', J) ∧ I' 77 sd = 0 ∧ I' 80 sd = 1 ∧ I' 81 (4 * sd) = 1 ∧ I' 82 sd = 1 ∧ I' 83 sd = 120 ∧ I' 84 sd = 0 ∧ (∀ j, j < 18 → I' 85 (18 * sd + j) = 0 ∧ I' 86 (18 * sd + j) = 0) ∧ ∀ c j, ((c ≠ 77 ∧ c ≠ 80 ∧ c ≠ 82 ∧ c ≠ 83 ∧ c ≠ 84) ∨ j ≠ sd) → (c ≠ 81 ∨ j ≠ 4 * sd) → ((c ≠ 85 ∧ c ≠ 86) ∨ j < 18 * sd ∨ 18 * sd + 18 ≤ j) → I' c j = I c j := by
  have b := b_m_plain_0 d (nI sd) I J
  rw [am_at_n hsd (by omega), am_at_n hsd (by omega), show (4 : Int32) = nI 4 from rfl, pk_mul, am_at_n (by omega) (by omega), am_at_n hsd (by omega), am_at_n hsd (by omega), am_at_n hsd (by omega)] at b
  obtain ⟨I1, i1⟩ : ∃ I1, I1 = am_upd (am_upd (am_upd (am_upd (am_upd (am_upd I 77 sd (0 : Int32)) 80 sd (1 : Int32)) 81 (4 * sd) (1 : Int32)) 82 sd (1 : Int32)) 83 sd (120 : Int32)) 84 sd (0 : Int32) := ⟨_, rfl⟩
  rw [← i1] at b
  obtain ⟨I', a1, a2, a3⟩ := r_plain47 d J hsd 18 0 I1 rfl
  have g : ∀ c j, c ≠ 85 → c ≠ 86 → I' c j = I1 c j := fun c j h1 h2 => a3 c j (Or.inl ⟨h1, h2⟩)
  refine ⟨I', b _ a1, ?_, ?_, ?_, ?_, ?_, ?_, fun j hj => a2 j (Nat.zero_le _) hj, fun c j h1 h2 h3 => ?_⟩
  · rw [g 77 _ (by decide) (by decide), i1, am_uc (by decide), am_uc (by decide), am_uc (by decide), am_uc (by decide), am_uc (by decide), am_ue]
  · rw [g 80 _ (by decide) (by decide), i1, am_uc (by decide), am_uc (by decide), am_uc (by decide), am_uc (by decide), am_ue]
  · rw [g 81 _ (by decide) (by decide), i1, am_uc (by decide), am_uc (by decide), am_uc (by decide), am_ue]
  · rw [g 82 _ (by decide) (by decide), i1, am_uc (by decide), am_uc (by decide), am_ue]
  · rw [g 83 _ (by decide) (by decide), i1, am_uc (by decide), am_ue]
  · rw [g 84 _ (by decide) (by decide), i1, am_ue]
  · rw [a3 c j (by omega), i1]
    have u : ∀ (I : am_I) c0 k0 v, (c ≠ c0 ∨ j ≠ k0) → am_upd I c0 k0 v c j = I c j := fun I c0 k0 v h => h.elim am_uc am_uk
    rw [u _ _ _ _ (by omega), u _ _ _ _ (by omega), u _ _ _ _ (by omega), u _ _ _ _ (by omega), u _ _ _ _ (by omega), u _ _ _ _ (by omega)]
/-- the tape's bytes are put by -/
theorem r_read10 {n : Nat} (hn : n ≤ 2000) {B : Nat → Int32} : ∀ k b (I : am_I) (o : Option Value × am_I × am_J), b + k = n → I 68 4 = nI n → (∀ j, j < n → I 69 j = B j ∧ (B j).toInt8.toInt32 = B j) → (∀ j, j < b → I 70 j = B j) → ∃ I', (f_m_read_10 d (nI n) I' J = some o → f_m_read_10 d (nI b) I J = some o) ∧ (∀ j, j < n → I' 70 j = B j) ∧ ∀ c k, c ≠ 70 → I' c k = I c k := by
  intro k
  induction k with
  | zero =>
    intro b I o hb h4 hB h70
    rw [show b = n by omega] at h70 ⊢
    exact ⟨I, fun h => h, h70, fun _ _ _ => rfl⟩
  | succ k ih =>
    intro b I o hb h4 hB h70
    have e := b_m_read_10 d (nI b) I J
    obtain ⟨g1, g2⟩ := hB b (by omega)
    rw [h4, if_neg (nI_ge (by omega) (by omega)), am_at_n (by omega) (by omega), am_at_n (by omega) (by omega), nI_1, g1, g2] at e
    obtain ⟨I', a1, a2, a3⟩ := ih (b + 1) (am_upd I 70 b (B b)) o (by omega) ((am_uc (by decide)).trans h4) (fun j hj => by rw [am_uc (by decide)]; exact hB j hj) (fun j hj => by
      by_cases q : j = b
      · rw [q, am_ue]
      · rw [am_uk q]; exact h70 j (by omega))
    exact ⟨I', fun h => e _ (a1 h), a2, fun c k hc => (a3 c k hc).trans (am_uc hc)⟩
end ZJ
def r_rs (sd c k : Nat) : Prop := c ∉ ([70, 71, 72, 73] : List Nat) ∧ (c ≠ 68 ∨ k ∉ 2 :: 4 :: 10 :: 19 :: 20 :: r_sl) ∧ r_rf sd c k
theorem r_readText (d : Nat) {n N v : Nat} (hn : n ≤ 2000) (hv : v < 2) {W B : Nat → Int32} {Ic I : am_I} {J : am_J} (h2 : I 68 2 = nI n) (h18 : I 68 18 = nI v) (hB : ∀ j, j < n → I 69 j = B j ∧ (B j).toInt8.toInt32 = B j) (hW : x_W W (J 75)) (hN : x_N B n N) (hc : ∀ j, j < N → x_cl W B n Ic j) (c8 : Ic 8 N = 0) (c10 : Ic 10 N = nI n) (c11 : Ic 11 N = nI n) : ∃ I' J', (∀ r, f_m_read_134 d I' J' = some r → f_m_read_0 d I J = some r) ∧ r_fin (Ic 10) (1 - v) I' J' (x_text (Ic 8) (Ic 9) (x_smb B n N) 401 x_S0 0) ∧ I' 68 2 = 0 ∧ I' 68 19 = nI (1 - v) ∧ (∀ c k, c ≠ 74 → c ≠ 76 → J' c k = J c k) ∧ ∀ c k, r_rs (1 - v) c k → I' c k = I c k := by
  have hsd : 1 - v < 2 := by omega
  obtain ⟨I1, i1⟩ : ∃ I1, I1 = am_upd I 68 4 (nI n) := ⟨_, rfl⟩
  have k1 : ∀ c k, (c ≠ 68 ∨ k ≠ 4) → I1 c k = I c k := fun c k h => by rw [i1]; exact h.elim am_uc am_uk
  have b0 := b_m_read_0 d I J
  rw [h2, ← i1] at b0
  have loop := fun o => r_read10 d J hn (B := B) n 0 I1 o (by omega) (by rw [i1, am_ue]) (fun j hj => by rw [k1 69 j (Or.inl (by decide))]; exact hB j hj) (fun j hj => absurd hj (by omega))
  obtain ⟨I2, -, a2, a3⟩ := loop (none, I1, J)
  have stepA : ∀ o, ∃ I2, (f_m_read_10 d (nI n) I2 J = some o → f_m_read_0 d I J = some o) ∧ (∀ j, j < n → I2 70 j = B j) ∧ ∀ c k, c ≠ 70 → I2 c k = I1 c k := fun o => by
    obtain ⟨I2, a1, a2, a3⟩ := loop o
    exact ⟨I2, fun h => b0 _ (a1 h), a2, a3⟩
  clear a2 a3 I2 loop
  -- one memory for all ends
  have stepB : ∃ I2, (∀ o, f_m_read_10 d (nI n) I2 J = some o → f_m_read_0 d I J = some o) ∧ (∀ j, j < n → I2 70 j = B j) ∧ ∀ c k, c ≠ 70 → I2 c k = I1 c k := by
    have : ∀ k b (I : am_I), b + k = n → I 68 4 = nI n → (∀ j, j < n → I 69 j = B j ∧ (B j).toInt8.toInt32 = B j) → (∀ j, j < b → I 70 j = B j) → ∃ I', (∀ o, f_m_read_10 d (nI n) I' J = some o → f_m_read_10 d (nI b) I J = some o) ∧ (∀ j, j < n → I' 70 j = B j) ∧ ∀ c k, c ≠ 70 → I' c k = I c k := by
      intro k
      induction k with
      | zero =>
        intro b I hb h4 hB h70
        rw [show b = n by omega] at h70 ⊢
        exact ⟨I, fun _ h => h, h70, fun _ _ _ => rfl⟩
      | succ k ih =>
        intro b I hb h4 hB h70
        have e := b_m_read_10 d (nI b) I J
        obtain ⟨g1, g2⟩ := hB b (by omega)
        rw [h4, if_neg (nI_ge (by omega) (by omega)), am_at_n (by omega) (by omega), am_at_n (by omega) (by omega), nI_1, g1, g2] at e
        obtain ⟨I', a1, a2, a3⟩ := ih (b + 1) (am_upd I 70 b (B b)) (by omega) ((am_uc (by decide)).trans h4) (fun j hj => by rw [am_uc (by decide)]; exact hB j hj) (fun j hj => by
          by_cases q : j = b
          · rw [q, am_ue]
          · rw [am_uk q]; exact h70 j (by omega))
        exact ⟨I', fun o h => e _ (a1 o h), a2, fun c k hc => (a3 c k hc).trans (am_uc hc)⟩
    obtain ⟨I2, a1, a2, a3⟩ := this n 0 I1 (by omega) (by rw [i1, am_ue]) (fun j hj => by rw [k1 69 j (Or.inl (by decide))]; exact hB j hj) (fun j hj => absurd hj (by omega))
    exact ⟨I2, fun o h => b0 _ (a1 o h), a2, a3⟩
  clear stepA
  obtain ⟨I2, a1, a2, a3⟩ := stepB
  have h24 : I2 68 4 = nI n := (a3 68 4 (by decide)).trans (by rw [i1, am_ue])
  obtain ⟨I3, i3⟩ : ∃ I3, I3 = am_upd I2 68 2 (0 : Int32) := ⟨_, rfl⟩
  have k3 : ∀ c k, (c ≠ 68 ∨ k ≠ 2) → I3 c k = I2 c k := fun c k h => by rw [i3]; exact h.elim am_uc am_uk
  obtain ⟨I4, J4, N', d1, d2, d3, d4, d5, d6⟩ := s_m_cut (d := d) hn (fun j hj => (hB j hj).2) I3 J ⟨(k3 68 4 (Or.inr (by decide))).trans h24, fun j hj => (k3 70 j (Or.inl (by decide))).trans (a2 j hj)⟩ hW
  have eN : N' = N := x_N_one d2 hN
  subst eN
  have e4 : ∀ c k, c ∉ ([70, 71, 72, 73] : List Nat) → (c ≠ 68 ∨ (k ≠ 2 ∧ k ≠ 4 ∧ k ≠ 10)) → I4 c k = I c k := fun c k h1 h2 => by
    simp only [List.mem_cons, List.not_mem_nil, not_or] at h1
    rw [d5 c k (by simp; omega) (by omega), k3 c k (by omega), a3 c k h1.1, k1 c k (by omega)]
  have e18 : I4 68 18 = nI v := (e4 68 18 (by decide) (Or.inr (by decide))).trans h18
  have sv : (1 : Int32) - nI v = nI (1 - v) := by rcases (show v = 0 ∨ v = 1 by omega) with rfl | rfl <;> decide
  obtain ⟨I5, i5⟩ : ∃ I5, I5 = am_upd (am_upd (am_upd (am_upd (am_upd (am_upd I4 68 11 (0 : Int32)) 68 12 (0 : Int32)) 68 13 (0 : Int32)) 68 15 (0 : Int32)) 68 19 (nI (1 - v))) 68 20 (0 : Int32) := ⟨_, rfl⟩
  have k5 : ∀ c k, (c ≠ 68 ∨ (k ≠ 11 ∧ k ≠ 12 ∧ k ≠ 13 ∧ k ≠ 15 ∧ k ≠ 19 ∧ k ≠ 20)) → I5 c k = I4 c k := fun c k h => by
    have u : ∀ (I : am_I) k0 v, (c ≠ 68 ∨ k ≠ k0) → am_upd I 68 k0 v c k = I c k := fun I k0 v h => h.elim am_uc am_uk
    rw [i5, u _ _ _ (by omega), u _ _ _ (by omega), u _ _ _ (by omega), u _ _ _ (by omega), u _ _ _ (by omega), u _ _ _ (by omega)]
  have q11 : I5 68 11 = 0 := by rw [i5, am_uk (by decide), am_uk (by decide), am_uk (by decide), am_uk (by decide), am_uk (by decide), am_ue]
  have q12 : I5 68 12 = 0 := by rw [i5, am_uk (by decide), am_uk (by decide), am_uk (by decide), am_uk (by decide), am_ue]
  have q13 : I5 68 13 = 0 := by rw [i5, am_uk (by decide), am_uk (by decide), am_uk (by decide), am_ue]
  have q15 : I5 68 15 = 0 := by rw [i5, am_uk (by decide), am_uk (by decide), am_ue]
  have q19 : I5 68 19 = nI (1 - v) := by rw [i5, am_uk (by decide), am_ue]
  have q20 : I5 68 20 = 0 := by rw [i5, am_ue]
  obtain ⟨I6, f1, f2, f3, f4, f5, f6, f7, f8, f9⟩ := r_plain0 d J4 hsd I5
  have k6 : ∀ c k, c ∉ ([77, 80, 81, 82, 83, 84, 85, 86] : List Nat) → I6 c k = I5 c k := fun c k h => by
    simp only [List.mem_cons, List.not_mem_nil, not_or] at h
    exact f9 c k (by omega) (by omega) (by omega)
  obtain ⟨I7, i7⟩ : ∃ I7, I7 = am_upd (am_upd I6 68 32 (nI (130 * (1 - v)))) 68 38 (nI (420 * (1 - v))) := ⟨_, rfl⟩
  have k7 : ∀ c k, (c ≠ 68 ∨ (k ≠ 32 ∧ k ≠ 38)) → I7 c k = I6 c k := fun c k h => by
    have u : ∀ (I : am_I) k0 v, (c ≠ 68 ∨ k ≠ k0) → am_upd I 68 k0 v c k = I c k := fun I k0 v h => h.elim am_uc am_uk
    rw [i7, u _ _ _ (by omega), u _ _ _ (by omega)]
  have k67 : ∀ k, k ≠ 32 → k ≠ 38 → I7 68 k = I5 68 k := fun k h1 h2 => (k7 68 k (Or.inr ⟨h1, h2⟩)).trans (k6 68 k (by decide))
  have run : ∀ r, f_m_read_112 d I7 J4 = some r → f_m_read_0 d I J = some r := fun r hr => by
    refine a1 _ ?_
    refine b_m_read_10 d (nI n) I2 J _ ?_
    rw [h24, if_pos (Int32.le_refl _), ← i3, d1, am_bv_v]
    have sd1 : am_upd (am_upd (am_upd (am_upd (am_upd (am_upd I4 68 11 (0 : Int32)) 68 12 (0 : Int32)) 68 13 (0 : Int32)) 68 15 (0 : Int32)) 68 19 ((1 : Int32) - ((am_upd (am_upd (am_upd (am_upd I4 68 11 (0 : Int32)) 68 12 (0 : Int32)) 68 13 (0 : Int32)) 68 15 (0 : Int32)) 68 18))) 68 20 (0 : Int32) = I5 := by
      rw [am_uk (show 18 ≠ 15 by decide), am_uk (show 18 ≠ 13 by decide), am_uk (show 18 ≠ 12 by decide), am_uk (show 18 ≠ 11 by decide), e18, sv, i5]
    rw [sd1, q19, f1, am_bv_v]
    have h619 : I6 68 19 = nI (1 - v) := (k6 68 19 (by decide)).trans q19
    rw [h619, show (130 : Int32) = nI 130 from rfl, pk_mul, am_uk (show 19 ≠ 32 by decide), h619, show (420 : Int32) = nI 420 from rfl, pk_mul, ← i7]
    exact hr
  have e7 : ∀ c k, c ∉ ([77, 80, 81, 82, 83, 84, 85, 86] : List Nat) → c ≠ 68 → I7 c k = I4 c k := fun c k h1 h2 => by
    rw [k7 c k (Or.inl h2), k6 c k h1, k5 c k (Or.inl h2)]
  have m7 : ∀ j, j < N' → x_ml W B n I7 J4 j := fun j hj => by
    obtain ⟨m1, m2, m3, m4⟩ := d3 j hj
    exact ⟨(e7 71 j (by decide) (by decide)).trans m1, (e7 72 j (by decide) (by decide)).trans m2, fun q => (e7 73 j (by decide) (by decide)).trans (m3 q), m4⟩
  have mN : N' ≤ 400 → I7 71 N' = 0 ∧ I7 72 N' = nI n := fun q => ⟨(e7 71 N' (by decide) (by decide)).trans (d4 q).1, (e7 72 N' (by decide) (by decide)).trans (d4 q).2⟩
  have at0 : r_at (Ic 8) (Ic 9) (Ic 10) (1 - v) (.inr 0) (0, 0) (420 * (1 - v)) (130 * (1 - v)) I7 := ⟨y_tk_of hN.1 hc c8 m7 mN, y_pl_of hc c10 c8 m7 mN, (k67 19 (by decide) (by decide)).trans q19, by rw [i7, am_uk (by decide), am_ue], (k67 11 (by decide) (by decide)).trans q11, Nat.zero_le _, (k67 13 (by decide) (by decide)).trans q13, (k67 12 (by decide) (by decide)).trans q12, fun j hj => absurd hj (by omega), (k67 15 (by decide) (by decide)).trans q15, fun w => absurd rfl w, 420 * (1 - v), rfl, by rw [i7, am_ue]⟩
  have C0 : r_C (1 - v) x_S0 (420 * (1 - v)) (130 * (1 - v)) I7 J4 := by
    have g : ∀ c k, c ≠ 68 → I7 c k = I6 c k := fun c k h => k7 c k (Or.inl h)
    refine ⟨⟨Nat.zero_le _, (g 77 _ (by decide)).trans f2, (k67 20 (by decide) (by decide)).trans q20, fun b q hq => absurd hq (by simp [x_S0])⟩, ⟨(g 82 _ (by decide)).trans f5, (g 83 _ (by decide)).trans f6, (g 84 _ (by decide)).trans f7⟩, ⟨(g 80 _ (by decide)).trans f3, fun j w hj => ?_⟩, fun i hi => ?_⟩
    · cases j with
      | zero => rw [g 81 _ (by decide), Nat.add_zero, f4]; exact Option.some.inj hj
      | succ j => exact absurd hj (by simp [x_S0])
    · show I7 85 (18 * (1 - v) + i) = I7 86 (18 * (1 - v) + i)
      rw [g 85 _ (by decide), g 86 _ (by decide), (f8 i hi).1, (f8 i hi).2]
  obtain ⟨I8, J8, g1, g2, g3, g4⟩ := r_textL d (x_Pl_lt hn hN.2.1 hc c8 c10) hsd 401 x_S0 (420 * (1 - v)) (130 * (1 - v)) 0 I7 J4 (by omega) (r_sm_of hN.2.1 hc c8 m7) at0 C0 (fun q hq => absurd hq (by simp [x_S0])) (by omega) (Nat.le_refl _) (Nat.le_refl _) (by omega)
  refine ⟨I8, J8, fun r hr => run _ (g1 r hr), g2, ?_, ?_, fun c k h1 h2 => (g3 c k h2).trans (d6 c k h1), fun c k hk => ?_⟩
  · rw [g4 68 2 (by unfold r_rf; exact ⟨Or.inr (by decide), by decide, Or.inl (by decide), Or.inl (by decide), Or.inl (by decide), Or.inl (by decide), Or.inl (by decide), Or.inl (by decide)⟩), k67 2 (by decide) (by decide), k5 68 2 (Or.inr (by decide)), d5 68 2 (by decide) (Or.inr (by decide)), i3, am_ue]
  · rw [g4 68 19 (by unfold r_rf; exact ⟨Or.inr (by decide), by decide, Or.inl (by decide), Or.inl (by decide), Or.inl (by decide), Or.inl (by decide), Or.inl (by decide), Or.inl (by decide)⟩), k67 19 (by decide) (by decide), q19]
  · obtain ⟨h1, h2, h3⟩ := hk
    have h3' := h3
    obtain ⟨r1, r2, r3, r4, r5, r6, r7, r8⟩ := h3
    rw [g4 c k h3']
    by_cases hc : c = 68
    · subst hc
      have hk := h2.resolve_left (fun w => w rfl)
      simp only [r_sl, List.mem_cons, List.not_mem_nil, not_or] at hk
      rw [k67 k (by omega) (by omega), k5 68 k (by omega), e4 68 k (by decide) (by omega)]
    · rw [k7 c k (Or.inl hc), f9 c k r3 (by omega) r6, k5 c k (Or.inl hc), e4 c k h1 (Or.inl hc)]

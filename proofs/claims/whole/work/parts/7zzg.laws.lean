/-! both ask the laws alike -/
theorem x_clip {lo hi v : Int32} (h : lo ≤ hi) : am_mx lo (am_mn hi v) = x_cl3 lo hi v := by
  rw [am_mx_eq, am_mn_eq]
  unfold am_mxC am_mnC x_cl3
  by_cases q1 : v < hi
  · rw [if_pos q1]
    by_cases q2 : lo < v
    · rw [if_pos q2, if_pos (Int32.le_of_lt q2), if_pos (Int32.le_of_lt q1)]
    · rw [if_neg q2]
      by_cases q3 : lo ≤ v
      · rw [if_pos q3, if_pos (Int32.le_of_lt q1)]
        exact Int32.le_antisymm q3 (Int32.not_lt.mp q2)
      · rw [if_neg q3]
  · rw [if_neg q1]
    have hv : hi ≤ v := Int32.not_lt.mp q1
    rw [if_pos (Int32.le_trans h hv)]
    by_cases q3 : v ≤ hi
    · have e : v = hi := Int32.le_antisymm q3 hv
      rw [if_pos q3, e]
      by_cases q2 : lo < hi
      · rw [if_pos q2]
      · rw [if_neg q2]; exact Int32.le_antisymm h (Int32.not_lt.mp q2)
    · rw [if_neg q3]
      by_cases q2 : lo < hi
      · rw [if_pos q2]
      · rw [if_neg q2]; exact Int32.le_antisymm h (Int32.not_lt.mp q2)
/-- the class's static numbers -/
def x_stc (I : am_I) : Prop := (I 1 0 = 1 ∧ I 1 1 = 1 ∧ I 1 2 = 0) ∧ (I 2 0 = -999 ∧ I 2 1 = 0 ∧ I 2 2 = -999) ∧ (I 3 0 = 999 ∧ I 3 1 = 99 ∧ I 3 2 = 999)
theorem c_CL {S : x_S} {z : Nat} {I : am_I} (hV : x_VS S) (hst : x_stc I) (h16 : I 16 4 = nI z) (hz : z ≤ 400) (hl : ∀ i, i < 18 → match S.2.2.2.1 i with
    | none => I 21 i = -1
    | some L => ∃ s0, I 21 i = nI s0 ∧ s0 + (x_lay s0 L).length ≤ z ∧ x_in 17 18 s0 (x_lay s0 L) I) : g_CL (x_pl S) I := by
  intro I' e d J a b ha hb
  have hb6 : b < 6 := by have h1 := hV.1; have h2 : b < S.1.length := hb; omega
  have q := hl (6 * a + b) (by omega)
  have e' : ∀ c k, c ∈ ([1, 2, 3, 12, 13, 14, 15, 16, 17, 18, 21] : List Nat) → I' c k = I c k := e
  obtain ⟨⟨s1, s2, s3⟩, ⟨s4, s5, s6⟩, s7, s8, s9⟩ := hst
  have bl := b_plan_ask_0 d (nI a) (nI b) I' J
  rw [show (6 : Int32) = nI 6 from rfl, pk_mul, nI_add, show a * 6 + b = 6 * a + b by omega, am_at_n (by omega) (by omega), e' 21 _ (by decide)] at bl
  have cl : ∀ v : Int32, am_mx (I 2 a) (am_mn (I 3 a) v) = (if a = 1 then x_cl3 0 99 v else x_cl3 (-999) 999 v) := fun v => by
    rcases (show a = 0 ∨ a = 1 ∨ a = 2 by omega) with rfl | rfl | rfl
    · rw [s4, s7, if_neg (by decide), x_clip (by decide)]
    · rw [s5, s8, if_pos rfl, x_clip (by decide)]
    · rw [s6, s9, if_neg (by decide), x_clip (by decide)]
  show ∃ I'', f_plan_ask_0 d (nI a) (nI b) I' J = some (some (Value.int (x_plw S.2.2.2.1 a b (I' 19))), I'', J) ∧ ∀ c k, c ≠ 20 → I'' c k = I' c k
  unfold x_plw
  cases hL : S.2.2.2.1 (6 * a + b) with
  | none =>
    rw [hL] at q
    rw [if_pos (show I 21 (6 * a + b) = -1 from q), am_at_n ha (by omega), am_at_n ha (by omega), am_at_n ha (by omega), e' 2 _ (by decide), e' 3 _ (by decide), e' 1 _ (by decide), cl] at bl
    refine ⟨I', bl _ ?_, fun _ _ _ => rfl⟩
    rcases (show a = 0 ∨ a = 1 ∨ a = 2 by omega) with rfl | rfl | rfl
    · rw [s1, if_neg (by decide)]
      rfl
    · rw [s2, if_pos rfl]
      rfl
    · rw [s3, if_neg (by decide)]
      rfl
  | some L =>
    rw [hL] at q
    obtain ⟨s0, q1, q2, q3⟩ := q
    have wl := hV.2.2.1 _ _ hL
    have lp : 0 < (x_lay s0 L).length := by rw [x_lay_len]; omega
    obtain ⟨I1, a1, a2⟩ := c_evL d J (f := I' 19) hz L.1 L.2 s0 0 I' wl (q3.k (fun k => ⟨e' 17 k (by decide), e' 18 k (by decide)⟩)) (fun _ _ => rfl) ((e' 16 4 (by decide)).trans h16) q2 (Nat.zero_le _)
    have b0 := b_plan_code_valueOf_0 d (nI s0) I' J
    rw [show (0 : Int32) = nI 0 from rfl] at b0
    have ev := b0 _ a1
    rw [q1, if_neg (show ¬ nI s0 = -1 from fun w => (nI_pos (n := s0) (by omega)) (by rw [w]; decide)), ev, am_bi_i, am_at_n ha (by omega), am_at_n ha (by omega), a2 2 _ (by decide), a2 3 _ (by decide), e' 2 _ (by decide), e' 3 _ (by decide), cl] at bl
    exact ⟨I1, bl _ rfl, a2⟩
theorem y_cd.m {sd z : Nat} {c : x_Cd} {I I' : am_I} (e : ∀ c k, m_ls sd c k → I' c k = I c k) (h : y_cd z c I) (h1 : 420 * sd ≤ z) (h2 : z + c.length ≤ 420 * sd + 420) : y_cd z c I' := fun i q hq => by
  have hl := (List.getElem?_eq_some_iff.mp hq).1
  rw [e 92 _ (Or.inr (Or.inr ⟨Or.inl rfl, by omega, by omega⟩)), e 93 _ (Or.inr (Or.inr ⟨Or.inr rfl, by omega, by omega⟩))]
  exact h i q hq
theorem r_lst.m {sd j z : Nat} {c : x_Cd} {I I' : am_I} (e : ∀ c k, m_ls sd c k → I' c k = I c k) (h : r_lst sd j z c I) (h1 : 130 * sd ≤ j) (h2 : j < 130 * sd + 130) (h3 : z ≤ 420 * sd + 420) : r_lst sd j z c I' := by
  obtain ⟨g1, z1, g2, g3, g4, g5, g6⟩ := h
  have e1 : ∀ c, (c = 87 ∨ c = 88 ∨ c = 89 ∨ c = 90 ∨ c = 91) → I' c j = I c j := fun c hc => e c j (Or.inr (Or.inl ⟨hc, h1, h2⟩))
  exact ⟨(e1 87 (by omega)).trans g1, z1, (e1 90 (by omega)).trans g2, (e1 91 (by omega)).trans g3, g4, g5, y_cd.m e g6 g5 (by omega)⟩
theorem r_br.m {sd j z : Nat} {c : x_Br} {I I' : am_I} (e : ∀ c k, m_ls sd c k → I' c k = I c k) (h : r_br sd j z c I) (h1 : 130 * sd ≤ j) (h2 : j < 130 * sd + 130) (h3 : z ≤ 420 * sd + 420) : r_br sd j z c I' := by
  obtain ⟨g1, z1, g2, g3, g4, g5, g6, g7, g8, g9, g10⟩ := h
  have e1 : ∀ c, (c = 87 ∨ c = 88 ∨ c = 89 ∨ c = 90 ∨ c = 91) → I' c j = I c j := fun c hc => e c j (Or.inr (Or.inl ⟨hc, h1, h2⟩))
  exact ⟨(e1 87 (by omega)).trans g1, z1, (e1 88 (by omega)).trans g2, (e1 89 (by omega)).trans g3, (e1 90 (by omega)).trans g4, (e1 91 (by omega)).trans g5, g6, g7, y_cd.m e g8 g7 (by omega), y_cd.m e g9 (by omega) (by omega), y_cd.m e g10 (by omega) (by omega)⟩
theorem r_CL {S : x_S} {sd z nb : Nat} {I : am_I} (hsd : sd < 2) (hV : x_VS S) (hz : z ≤ 420 * sd + 400) (hnb : nb ≤ 130 * sd + 80) (hl : r_lw sd S.2.2.2.1 z nb I) : m_CL (x_pl S) sd I := by
  intro I' e d J a b x y zz ha hb
  have hb6 : b < 6 := by have h1 := hV.1; have h2 : b < S.1.length := hb; omega
  have ha3 : a < 3 := by omega
  have q := hl (6 * a + b) (by omega)
  have bl := b_m_tells_0 d (nI (18 * sd + 6 * a + b)) x y zz I' J
  have i85 : I' 85 (18 * sd + 6 * a + b) = I 85 (18 * sd + (6 * a + b)) := by
    rw [show 18 * sd + 6 * a + b = 18 * sd + (6 * a + b) by omega]
    exact e 85 _ (Or.inl ⟨Or.inl rfl, by omega, by omega⟩)
  have i86 : I' 86 (18 * sd + 6 * a + b) = I 86 (18 * sd + (6 * a + b)) := by
    rw [show 18 * sd + 6 * a + b = 18 * sd + (6 * a + b) by omega]
    exact e 86 _ (Or.inl ⟨Or.inr rfl, by omega, by omega⟩)
  rw [am_at_n (by omega) (by omega), am_at_n (by omega) (by omega), i85, i86] at bl
  show ∃ I'', f_m_tells_0 d (nI (18 * sd + 6 * a + b)) x y zz I' J = some (some (Value.int (x_plw S.2.2.2.1 a b (I' 95))), I'', J) ∧ ∀ c k, c ≠ 96 → (c ≠ 68 ∨ k ≠ 45) → I'' c k = I' c k
  unfold x_plw
  cases hL : S.2.2.2.1 (6 * a + b) with
  | none =>
    rw [hL] at q
    rw [if_pos (show I 85 (18 * sd + (6 * a + b)) = I 86 (18 * sd + (6 * a + b)) from q)] at bl
    refine ⟨I', bl _ ?_, fun _ _ _ _ => rfl⟩
    rcases ha with ⟨rfl, rfl, _⟩ | ⟨rfl, rfl, _⟩ | ⟨rfl, rfl, _⟩ <;> rfl
  | some L =>
    rw [hL] at q
    obtain ⟨nb0, q1, q2, q3, q4, q5, q6⟩ := q
    have wl := hV.2.2.1 _ _ hL
    obtain ⟨I1, i1⟩ : ∃ I1, I1 = am_upd I' 68 45 0 := ⟨_, rfl⟩
    have k1 : ∀ c k, (c ≠ 68 ∨ k ≠ 45) → I1 c k = I' c k := fun c k h => by rw [i1]; exact h.elim am_uc am_uk
    have e1 : ∀ c k, m_ls sd c k → I1 c k = I c k := fun c k h => (k1 c k (Or.inl (fun w => by
      have := h.c
      rw [w] at this
      exact absurd this (by decide)))).trans (e c k h)
    rw [q1, q2, if_neg (fun w => by
      have := (nI_eq (by omega) (by omega)).mp w
      omega), am_b01_0, am_at_n (by omega) (by omega), ← i1, k1 85 _ (Or.inl (by decide)), i85, q1] at bl
    have lohi : y ≤ 0 ∧ 0 ≤ zz := by
      rcases ha with ⟨_, _, rfl, rfl⟩ | ⟨_, _, rfl, rfl⟩ | ⟨_, _, rfl, rfl⟩ <;> decide
    obtain ⟨I2, a1, a2⟩ := r_evL d J (f := I' 95) (sd := sd) (k0 := 18 * sd + 6 * a + b) (nb0 := nb0) (n := nb0 + L.1.length) (lo := y) (hi := zz) (by omega) (by omega) lohi.1 lohi.2 L.1 L.2 nb0 z I1 wl (by rw [k1 86 _ (Or.inl (by decide)), i86, q2]) rfl (by omega) (fun i b' hb' => (q5 i b' hb').m e1 (by omega) (by have := (List.getElem?_eq_some_iff.mp hb').1; omega) (by omega)) (q6.m e1 (by omega) (by omega) (by omega)) (fun k _ => k1 95 k (Or.inl (by decide))) (by rw [i1, am_ue])
    refine ⟨I2, bl _ ?_, fun c k h1 h2 => (a2 c k h1 h2).trans (k1 c k h2)⟩
    rw [a1]
    rcases ha with ⟨rfl, _, rfl, rfl⟩ | ⟨rfl, _, rfl, rfl⟩ | ⟨rfl, _, rfl, rfl⟩
    · rfl
    · rfl
    · rfl

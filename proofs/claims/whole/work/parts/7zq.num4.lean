/-! `w NUMBER ;`: the reference's statement -/
/-- the reference's fault, whatever else was written in the cells L -/
def y_fo (f : Int32) (a : Nat) (I I' : am_I) (cl : Nat) : Prop := I' 68 13 = f ∧ I' 68 14 = I 72 a ∧ ∀ c k, c ≠ cl → (c, k) ∉ ([(68, 11), (68, 13), (68, 14), (68, 15), (68, 16)] : List (Nat × Nat)) → I' c k = I c k
section YQ
variable (d : Nat) (J : am_J)
theorem s_m_stmt {K V : Nat → Int32} {I : am_I} {w lo hi : Int32} {t sd cl : Nat} (hcl : cl ≠ 68 ∧ cl ≠ 71 ∧ cl ≠ 72) (hk : y_tk K V I) (hrc : x_rc K t) (hw : w ≠ 0) (hKw : K t = w) (ht : t ≤ 400) (hsd : sd < 2) (h : I 68 11 = nI t) (h0 : I 68 13 = 0) (h19 : I 68 19 = nI sd) (hs : I 68 15 = 0 ∨ I 68 16 < I 72 (t + 1)) : ∃ I', am_bv (f_m_goesOn_0 d I J) (fun I1 J1 => am_bi (f_m_bounded_0 d lo hi I1 J1) (fun y I2 J2 => am_at (I1 68 19) 2 (fun j => am_bv (f_m_must_0 d 4 (am_upd I2 cl j y) J2) (fun I3 J3 => some (none, I3, J3))) none)) = some (none, I', J) ∧ (match x_num K V w lo hi t with
    | .inl (f, a) => 0 < f ∧ y_fo f a I I' cl
    | .inr (v, t') => I' 68 11 = nI t' ∧ I' cl sd = v ∧ x_slp (x_bad v lo hi) 5 (I 72 (t + 1)) (I 68 15) (I' 68 15) (I 68 16) (I' 68 16) ∧ ∀ c k, (c ≠ cl ∨ k ≠ sd) → (c, k) ∉ ([(68, 11), (68, 15), (68, 16)] : List (Nat × Nat)) → I' c k = I c k) := by
  have dead : ∀ (I1 I2 : am_I) (y : Int32), f_m_bounded_0 d lo hi I1 J = some (some (.int y), I2, J) → I1 68 19 = nI sd → 0 < I2 68 13 → am_bi (f_m_bounded_0 d lo hi I1 J) (fun y I2 J2 => am_at (I1 68 19) 2 (fun j => am_bv (f_m_must_0 d 4 (am_upd I2 cl j y) J2) (fun I3 J3 => some (none, I3, J3))) none) = some (none, am_upd I2 cl sd y, J) := fun I1 I2 y e1 e2 e3 => by
    rw [e1, am_bi_i, e2, am_at_n hsd (by omega), s_m_must_f d J (by rw [am_uc (Ne.symm hcl.1)]; exact e3), am_bv_v]
  have sub : ∀ L : List (Nat × Nat), (∀ q ∈ L, q ∈ ([(68, 11), (68, 13), (68, 14), (68, 15), (68, 16)] : List (Nat × Nat))) → ∀ c k, (c, k) ∉ ([(68, 11), (68, 13), (68, 14), (68, 15), (68, 16)] : List (Nat × Nat)) → (c, k) ∉ L := fun L hL c k hk q => hk (hL _ q)
  unfold x_num
  rw [if_neg (fun q => q hKw)]
  by_cases q2 : 400 ≤ t
  · rw [if_pos q2]
    obtain ⟨I1, a1, a2, a3, a4⟩ := s_m_goes_n d J h (by omega) h0
    have p : 0 < I1 68 13 := by rw [a2]; decide
    have r := dead I1 I1 lo (s_m_bnd_f d J p lo hi) ((a4 68 19 (Or.inr (by decide)) (Or.inr (by decide))).trans h19) p
    refine ⟨_, by rw [a1, am_bv_v]; exact r, by decide, (am_uc (Ne.symm hcl.1)).trans a2, (am_uc (Ne.symm hcl.1)).trans a3, fun c k h1 h2 => (am_uc h1).trans (a4 c k (n_1 h2 68 13 (by decide)) (n_1 h2 68 14 (by decide)))⟩
  rw [if_neg q2]
  have r1 := hrc.s hKw hw
  obtain ⟨kk1, t1, t2⟩ := hk (t + 1) (by omega) r1
  obtain ⟨I1, e1⟩ : ∃ I1, I1 = am_upd I 68 11 (nI (t + 1)) := ⟨_, rfl⟩
  have g := s_m_goes_y d J h (show t < 400 by omega)
  rw [← e1] at g
  have k1 : ∀ c k, (c ≠ 68 ∨ k ≠ 11) → I1 c k = I c k := fun c k q => by
    rw [e1]
    exact q.elim am_uc am_uk
  have h11 : I1 68 11 = nI (t + 1) := by rw [e1, am_ue]
  have h13 : I1 68 13 = 0 := (k1 68 13 (Or.inr (by decide))).trans h0
  have h19' : I1 68 19 = nI sd := (k1 68 19 (Or.inr (by decide))).trans h19
  have hs1 : I1 68 15 = 0 ∨ I1 68 16 < I1 72 (t + 1) := by rw [k1 68 15 (Or.inr (by decide)), k1 68 16 (Or.inr (by decide)), k1 72 _ (Or.inl (by decide))]; exact hs
  have e71 : I1 71 (t + 1) = m_kd (K (t + 1)) := (k1 71 _ (Or.inl (by decide))).trans t1
  rw [g, am_bv_v]
  by_cases q3 : K (t + 1) ≠ 3
  · rw [if_pos q3]
    obtain ⟨I2, b1, b2, b3, b4⟩ := s_m_bnd_n d J h11 (by omega) h13 (by rw [e71]; exact fun z => q3 ((x_ks_m _ kk1).1.mp z)) lo hi
    have r := dead I1 I2 lo b1 h19' (by rw [b2]; decide)
    exact ⟨_, r, by decide, (am_uc (Ne.symm hcl.1)).trans b2, (am_uc (Ne.symm hcl.1)).trans (b3.trans (k1 72 _ (Or.inl (by decide)))), fun c k x1 x2 => (am_uc x1).trans ((b4 c k (n_1 x2 68 13 (by decide)) (n_1 x2 68 14 (by decide))).trans (k1 c k (n_1 x2 68 11 (by decide))))⟩
  rw [if_neg q3]
  have q3' : K (t + 1) = 3 := Decidable.not_not.mp q3
  have e72 : I1 71 (t + 1) = 2 := by rw [e71, q3']; decide
  by_cases q4 : 400 ≤ t + 1
  · rw [if_pos q4]
    obtain ⟨y, I2, b1, b2, b3, b4⟩ := s_m_bnd_l d J h11 (by omega) h13 e72 hs1 lo hi
    have r := dead I1 I2 y b1 h19' (by rw [b2]; decide)
    exact ⟨_, r, by decide, (am_uc (Ne.symm hcl.1)).trans b2, (am_uc (Ne.symm hcl.1)).trans (b3.trans (k1 72 _ (Or.inl (by decide)))), fun c k x1 x2 => (am_uc x1).trans ((b4 c k (sub _ (by decide) c k x2)).trans (k1 c k (n_1 x2 68 11 (by decide))))⟩
  rw [if_neg q4]
  have r2 := r1.s q3' (by decide)
  obtain ⟨kk2, u1, _⟩ := hk (t + 2) (by omega) r2
  obtain ⟨I2, b1, b2, b3, b4⟩ := s_m_bnd_y d J h11 (by omega) h13 e72 hs1 lo hi
  have ev : I1 73 (t + 1) = V (t + 1) := (k1 73 _ (Or.inl (by decide))).trans (t2 q3')
  rw [ev] at b1 b3
  rw [k1 68 15 (Or.inr (by decide)), k1 68 16 (Or.inr (by decide)), k1 72 _ (Or.inl (by decide))] at b3
  obtain ⟨I3, e3⟩ : ∃ I3, I3 = am_upd I2 cl sd (V (t + 1)) := ⟨_, rfl⟩
  have k3 : ∀ c k, (c ≠ cl ∨ k ≠ sd) → I3 c k = I2 c k := fun c k q => by
    rw [e3]
    exact q.elim am_uc am_uk
  have g11 : I3 68 11 = nI (t + 2) := (k3 68 11 (Or.inl (Ne.symm hcl.1))).trans b2
  have g13 : I3 68 13 = 0 := (k3 68 13 (Or.inl (Ne.symm hcl.1))).trans ((b4 68 13 (by decide)).trans h13)
  have g71 : I3 71 (t + 2) = m_kd (K (t + 2)) := by rw [k3 71 _ (Or.inl (Ne.symm hcl.2.1)), b4 71 _ (fun q => by simp at q), k1 71 _ (Or.inl (by decide)), u1]
  rw [b1, am_bi_i, h19', am_at_n hsd (by omega), ← e3]
  have f3 : ∀ c k, (c ≠ cl ∨ k ≠ sd) → (c, k) ∉ ([(68, 11), (68, 15), (68, 16)] : List (Nat × Nat)) → I3 c k = I c k := fun c k x1 x2 => (k3 c k x1).trans ((b4 c k x2).trans (k1 c k (n_1 x2 68 11 (by decide))))
  have m4 : m_kd (K (t + 2)) = 4 ↔ K (t + 2) = 59 := (show ∀ k ∈ x_ks, m_kd k = 4 ↔ k = 59 by decide +kernel) _ kk2
  by_cases q5 : K (t + 2) = 59 ∧ t + 2 < 400
  · rw [if_neg (fun q => q q5.1), if_neg (by omega), s_m_must_y d J g11 q5.2 g13 (by rw [g71]; exact m4.mpr q5.1), am_bv_v]
    refine ⟨_, rfl, am_ue, ?_, ?_, fun c k x1 x2 => ?_⟩
    · rw [am_uc hcl.1, e3, am_ue]
    · rw [am_uk (show 15 ≠ 11 by decide), am_uk (show 16 ≠ 11 by decide), k3 68 15 (Or.inl (Ne.symm hcl.1)), k3 68 16 (Or.inl (Ne.symm hcl.1))]
      exact b3
    · exact ((n_1 x2 68 11 (by decide)).elim am_uc am_uk).trans (f3 c k x1 x2)
  · obtain ⟨I4, c1, c2, c3, c4⟩ := s_m_must_n d J g11 (by omega) g13 (w := 4) (by
      rw [g71]
      by_cases v : K (t + 2) = 59
      · exact Or.inr (by have : ¬ t + 2 < 400 := fun z => q5 ⟨v, z⟩
                         omega)
      · exact Or.inl (fun z => v (m4.mp z)))
    rw [c1, am_bv_v]
    have c72 : I4 68 14 = I 72 (t + 2) := by rw [c3, k3 72 _ (Or.inl (Ne.symm hcl.2.2)), b4 72 _ (fun q => by simp at q), k1 72 _ (Or.inl (by decide))]
    have fr : ∀ c k, c ≠ cl → (c, k) ∉ ([(68, 11), (68, 13), (68, 14), (68, 15), (68, 16)] : List (Nat × Nat)) → I4 c k = I c k := fun c k x1 x2 => (c4 c k (n_1 x2 68 13 (by decide)) (n_1 x2 68 14 (by decide))).trans (f3 c k (Or.inl x1) (sub _ (by decide) c k x2))
    refine ⟨I4, rfl, ?_⟩
    rw [g71] at c2
    by_cases v : K (t + 2) = 59
    · rw [if_pos (m4.mpr v)] at c2
      rw [if_neg (fun q => q v), if_pos (by have : ¬ t + 2 < 400 := fun z => q5 ⟨v, z⟩
                                            omega)]
      exact ⟨by decide, c2, c72, fr⟩
    · rw [if_neg (fun z => v (m4.mp z))] at c2
      rw [if_pos v]
      exact ⟨by decide, c2, c72, fr⟩
end YQ

/-! what holds of the things of a text -/
theorem x_pos_s {B : Nat → Int32} {n i : Nat} (h : x_pos B n i < n) : x_pos B n i < x_pos B n (i + 1) := by
  have h1 := x_end_ge B h
  have h2 := (x_run_ge x_bl B (n - x_end B n (x_pos B n i)) (x_end B n (x_pos B n i))).1
  show x_pos B n i < x_run x_bl B (n - x_end B n (x_pos B n i)) (x_end B n (x_pos B n i))
  omega
theorem x_pos_mono {B : Nat → Int32} {n N : Nat} (hN : ∀ j, j < N → x_pos B n j < n) : ∀ k i, i + k < N → x_pos B n i ≤ x_pos B n (i + k) := by
  intro k
  induction k with
  | zero => intro i _; exact Nat.le_refl _
  | succ k ih =>
    intro i h
    have h1 := ih i (by omega)
    have h2 := x_pos_s (hN (i + k) (by omega))
    rw [show i + (k + 1) = i + k + 1 by omega]
    omega
theorem x_rc_N {K : Nat → Int32} {N t : Nat} (h0 : K N = 0) (h : x_rc K t) : t ≤ N := by
  by_cases q : N < t
  · exact absurd h0 (h N q)
  · omega
theorem x_Pl_lt {W B : Nat → Int32} {n N : Nat} {I : am_I} (hn : n ≤ 2000) (hN : ∀ j, j < N → x_pos B n j < n) (hc : ∀ j, j < N → x_cl W B n I j) (h8 : I 8 N = 0) (h10 : I 10 N = nI n) : ∀ i j, i < j → j ≤ 400 → x_rc (I 8) j → I 10 i < I 10 j := fun i j hij _ hr => by
  have hj := x_rc_N h8 hr
  have pi := hN i (by omega)
  rw [(hc i (by omega)).1]
  by_cases q : j = N
  · rw [q, h10]
    exact nI_lt (by omega) (by omega)
  · rw [(hc j (by omega)).1]
    have pj := hN j (by omega)
    have h1 := x_pos_s pi
    have h2 := x_pos_mono hN (j - (i + 1)) (i + 1) (by omega)
    rw [show i + 1 + (j - (i + 1)) = j by omega] at h2
    exact nI_lt (by omega) (by omega)
theorem x_dg_n {x : Int32} (h : x_dg x = true) : ∃ a, a < 10 ∧ x = nI (48 + a) := by
  unfold x_dg at h
  obtain ⟨h1, h2⟩ := x_and.mp h
  have a1 : (48 : Int) ≤ x.toInt := Int32.le_iff_toInt_le.mp h1
  have a2 : x.toInt ≤ 57 := Int32.le_iff_toInt_le.mp h2
  obtain ⟨j, j0, rfl⟩ := nI_of (x := x) (fun q => by
    have : x.toInt < 0 := Int32.lt_iff_toInt_lt.mp q
    omega)
  rw [nI_toInt j0] at a1 a2
  exact ⟨j - 48, by omega, by rw [show 48 + (j - 48) = j by omega]⟩
theorem x_val_nn {B : Nat → Int32} : ∀ k j m, (∀ i, j ≤ i → i < j + k → x_dg (B i) = true) → ∃ m', m' < (m + 1) * 10 ^ k ∧ x_val B k j (nI m) = nI m' := by
  intro k
  induction k with
  | zero => intro j m _; exact ⟨m, by omega, rfl⟩
  | succ k ih =>
    intro j m h
    obtain ⟨a, a1, a2⟩ := x_dg_n (h j (Nat.le_refl _) (by omega))
    obtain ⟨m', q1, q2⟩ := ih (j + 1) (m * 10 + a) (fun i h1 h2 => h i (by omega) (by omega))
    refine ⟨m', ?_, ?_⟩
    · have : (m * 10 + a + 1) * 10 ^ k ≤ ((m + 1) * 10) * 10 ^ k := Nat.mul_le_mul_right _ (by omega)
      rw [Nat.pow_succ, Nat.mul_comm (10 ^ k) 10, ← Nat.mul_assoc]
      omega
    · show x_val B k (j + 1) (nI m * 10 + B j - 48) = nI m'
      rw [a2, show (10 : Int32) = nI 10 from rfl, pk_mul, nI_add, show (48 : Int32) = nI 48 from rfl, pk_sub (by omega), show m * 10 + (48 + a) - 48 = m * 10 + a by omega]
      exact q2
theorem x_V_nn {W B : Nat → Int32} {n N : Nat} {I : am_I} (hN : ∀ j, j < N → x_pos B n j < n) (hc : ∀ j, j < N → x_cl W B n I j) (h8 : I 8 N = 0) : ∀ t, t ≤ 400 → x_rc (I 8) t → I 8 t = 3 → 0 ≤ I 9 t := fun t _ hr h3 => by
  have ht := x_rc_N h8 hr
  have tN : t < N := by
    by_cases q : t = N
    · rw [q, h8] at h3; exact absurd h3 (by decide)
    · omega
  obtain ⟨c1, c2, c3, c4⟩ := hc t tN
  have kd := (x_kd_ks W B (x_pos B n t) (x_end B n (x_pos B n t))).2 (by rw [← c3]; exact h3)
  have dg := (x_end_dg (hN t tN) kd.1).1
  have ge := x_end_ge B (hN t tN)
  obtain ⟨m, m1, m2⟩ := x_val_nn (B := B) (x_end B n (x_pos B n t) - x_pos B n t) (x_pos B n t) 0 (fun i h1 h2 => dg i h1 (by omega))
  rw [c4 h3, show (0 : Int32) = nI 0 from rfl, m2]
  have : 10 ^ (x_end B n (x_pos B n t) - x_pos B n t) ≤ 10 ^ 4 := Nat.pow_le_pow_right (by omega) kd.2
  exact nI_le (Nat.zero_le _) (by omega)
/-- where a thing begins and ends, the end's too -/
def x_sN (B : Nat → Int32) (n N j : Nat) : Nat := if j < N then x_pos B n j else n
def x_eN (B : Nat → Int32) (n N j : Nat) : Nat := if j < N then x_end B n (x_pos B n j) else n
noncomputable def x_smb (B : Nat → Int32) (n N i j : Nat) : Bool := @decide (x_eN B n N i - x_sN B n N i = x_eN B n N j - x_sN B n N j ∧ ∀ m, m < x_eN B n N i - x_sN B n N i → B (x_sN B n N i + m) = B (x_sN B n N j + m)) (Classical.propDecidable _)
theorem x_smb_iff {B : Nat → Int32} {n N i j : Nat} : x_smb B n N i j = true ↔ (x_eN B n N i - x_sN B n N i = x_eN B n N j - x_sN B n N j ∧ ∀ m, m < x_eN B n N i - x_sN B n N i → B (x_sN B n N i + m) = B (x_sN B n N j + m)) := by
  unfold x_smb
  exact @decide_eq_true_iff _ (Classical.propDecidable _)
theorem x_smb_same {B : Nat → Int32} {n N i j : Nat} (hi : i < N) (hj : j < N) : x_smb B n N i j = true ↔ x_same B n i j := by
  rw [x_smb_iff]
  unfold x_eN x_sN x_same
  rw [if_pos hi, if_pos hi, if_pos hj, if_pos hj]
theorem c_sm_of {W B : Nat → Int32} {n N : Nat} {I : am_I} (hn : n ≤ 2000) (hN : ∀ j, j < N → x_pos B n j < n) (hN1 : N ≤ 401) (hc : ∀ j, j < N → x_cl W B n I j) (h8 : I 8 N = 0) (h10 : I 10 N = nI n) (h11 : I 11 N = nI n) : c_sm B (I 10) (I 11) (I 8) (x_smb B n N) := by
  intro d I' J e7 e10 e11 i j hi hj ri rj
  have si : ∀ t, t ≤ N → I 10 t = nI (x_sN B n N t) ∧ I 11 t = nI (x_eN B n N t) ∧ x_sN B n N t ≤ x_eN B n N t ∧ x_eN B n N t ≤ n := fun t ht => by
    unfold x_sN x_eN
    by_cases q : t < N
    · rw [if_pos q, if_pos q]
      have := x_end_ge B (hN t q)
      exact ⟨(hc t q).1, (hc t q).2.1, by omega, this.2⟩
    · have e : t = N := by omega
      rw [if_neg q, if_neg q, e]
      exact ⟨h10, h11, Nat.le_refl _, Nat.le_refl _⟩
  obtain ⟨a1, a2, a3, a4⟩ := si i (x_rc_N h8 ri)
  obtain ⟨b1, b2, b3, b4⟩ := si j (x_rc_N h8 rj)
  obtain ⟨y, y1, y2, y3⟩ := s_same d I' J (n := n) (show i < 402 by omega) (show j < 402 by omega) (by rw [e10]; exact a1) (by rw [e10]; exact b1) (by rw [e11]; exact a2) (by rw [e11]; exact b2) hn a3 a4 b3 b4
  rw [y1]
  rw [e7] at y3
  have iff : y = 1 ↔ x_smb B n N i j = true := y3.trans x_smb_iff.symm
  rcases y2 with h | h
  · rw [am_tf_t (iff.mp h), h]
  · rw [am_tf_f (fun q => by rw [iff.mpr q] at h; exact absurd h (by decide)), h]
theorem r_sm_of {W B : Nat → Int32} {n N : Nat} {I I' : am_I} {J : am_J} (hN : ∀ j, j < N → x_pos B n j < n) (hc : ∀ j, j < N → x_cl W B n I j) (h8 : I 8 N = 0) (hm : ∀ j, j < N → x_ml W B n I' J j) : r_sm (I 8) (x_smb B n N) J := by
  intro i j hi hj ri rj ki kj
  have lt : ∀ t, x_rc (I 8) t → I 8 t = 2 → t < N := fun t hr hk => by
    have := x_rc_N h8 hr
    by_cases q : t = N
    · rw [q, h8] at hk; exact absurd hk (by decide)
    · omega
  have iN := lt i ri ki
  have jN := lt j rj kj
  rw [x_smb_same iN jN]
  exact x_keys (hN i iN) (hN j jN) (hm i iN) (hm j jN) (by rw [← (hc i iN).2.2.1]; exact ki) (by rw [← (hc j jN).2.2.1]; exact kj)

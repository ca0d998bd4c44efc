/-! the tape scanned -/
/-- the last thing's number -/
def x_N (B : Nat → Int32) (n N : Nat) : Prop := N ≤ 401 ∧ (∀ j, j < N → x_pos B n j < n) ∧ (N = 401 ∨ n ≤ x_pos B n N)
theorem x_N_one {B : Nat → Int32} {n N N' : Nat} (h : x_N B n N) (h' : x_N B n N') : N = N' := by
  obtain ⟨a1, a2, a3⟩ := h
  obtain ⟨b1, b2, b3⟩ := h'
  rcases Nat.lt_trichotomy N N' with q | q | q
  · have := b2 N q
    omega
  · exact q
  · have := a2 N' q
    omega
/-- what the class knows of the thing j -/
def x_cl (W B : Nat → Int32) (n : Nat) (I : am_I) (j : Nat) : Prop := I 10 j = nI (x_pos B n j) ∧ I 11 j = nI (x_end B n (x_pos B n j)) ∧ I 8 j = x_kd W B (x_pos B n j) (x_end B n (x_pos B n j)) ∧ (I 8 j = 3 → I 9 j = x_val B (x_end B n (x_pos B n j) - x_pos B n j) (x_pos B n j) 0)
theorem s_scan10 (d n : Nat) (hn : n ≤ 2000) (J : am_J) : ∀ k i (I : am_I), i + k = 401 → I 6 1 = nI n → (∀ j, j < i → x_pos (I 7) n j < n) → ∃ I' N, i ≤ N ∧ f_tape_scan_10 d (nI (x_pos (I 7) n i)) (nI i) (nI i) I J = some (none, I', J) ∧ x_N (I 7) n N ∧ (∀ j, i ≤ j → j < N → x_cl (I 4) (I 7) n I' j) ∧ I' 8 N = 0 ∧ I' 10 N = nI n ∧ I' 11 N = nI n ∧ (∀ c k, c ∉ ([8, 9, 10, 11] : List Nat) → I' c k = I c k) ∧ (∀ c j, j < i → I' c j = I c j) := by
  intro k
  induction k with
  | zero =>
    intro i I hi h6 hp
    have : i = 401 := by omega
    subst this
    refine ⟨am_upd (am_upd (am_upd I 10 401 (I 6 1)) 11 401 (I 6 1)) 8 401 0, 401, Nat.le_refl _, b_tape_scan_10 d _ _ _ I J _ ?_, ⟨Nat.le_refl _, hp, Or.inl rfl⟩, fun j h1 h2 => absurd h2 (by omega), am_ue, ?_, ?_, fun c k hc => ?_, fun c j hj => ?_⟩
    · rw [if_pos (show (400 : Int32) < nI 401 by decide), am_at_n (by omega) (by omega), am_at_n (by omega) (by omega), am_at_n (by omega) (by omega), am_uc (show 6 ≠ 10 by decide)]
    · rw [am_uc (by decide), am_uc (by decide), am_ue, h6]
    · rw [am_uc (by decide), am_ue, h6]
    · rw [am_uc (n_c hc 8 (by decide)), am_uc (n_c hc 11 (by decide)), am_uc (n_c hc 10 (by decide))]
    · rw [am_uk (by omega), am_uk (by omega), am_uk (by omega)]
  | succ k ih =>
    intro i I hi h6 hp
    have hb := b_tape_scan_10 d (nI (x_pos (I 7) n i)) (nI i) (nI i) I J
    have hpos : x_pos (I 7) n i ≤ n := by
      cases i with
      | zero => exact Nat.le_trans (x_run_ge x_bl (I 7) n 0).2 (by omega)
      | succ m =>
        have h1 := x_end_ge (I 7) (hp m (by omega))
        have h2 := (x_run_ge x_bl (I 7) (n - x_end (I 7) n (x_pos (I 7) n m)) (x_end (I 7) n (x_pos (I 7) n m))).2
        show x_run x_bl (I 7) (n - x_end (I 7) n (x_pos (I 7) n m)) (x_end (I 7) n (x_pos (I 7) n m)) ≤ n
        omega
    rw [if_neg (show ¬ (400 : Int32) < nI i from nI_nlt (a := 400) (by omega) (by omega)), h6] at hb
    by_cases hend : n ≤ x_pos (I 7) n i
    · rw [if_pos (nI_le hend (by omega)), am_at_n (by omega) (by omega), am_at_n (by omega) (by omega), am_at_n (by omega) (by omega), am_uc (show 6 ≠ 10 by decide), h6] at hb
      refine ⟨_, i, Nat.le_refl _, hb _ rfl, ⟨by omega, hp, Or.inr hend⟩, fun j h1 h2 => absurd h2 (by omega), am_ue, ?_, ?_, fun c k hc => ?_, fun c j hj => ?_⟩
      · rw [am_uc (by decide), am_uc (by decide), am_ue]
      · rw [am_uc (by decide), am_ue]
      · rw [am_uc (n_c hc 8 (by decide)), am_uc (n_c hc 11 (by decide)), am_uc (n_c hc 10 (by decide))]
      · rw [am_uk (by omega), am_uk (by omega), am_uk (by omega)]
    · obtain ⟨s, hs⟩ : ∃ s, s = x_pos (I 7) n i := ⟨_, rfl⟩
      obtain ⟨e, he⟩ : ∃ e, e = x_end (I 7) n s := ⟨_, rfl⟩
      have hsn : s < n := by omega
      have hse := x_end_ge (I 7) hsn
      rw [← he] at hse
      obtain ⟨I1, e1⟩ : ∃ I1, I1 = am_upd I 10 i (nI s) := ⟨_, rfl⟩
      have k1 : ∀ c, c ≠ 10 → I1 c = I c := fun c hc => by rw [e1]; funext j; exact am_uc hc
      obtain ⟨I2, e2⟩ : ∃ I2, I2 = am_upd I1 11 i (nI e) := ⟨_, rfl⟩
      have k2 : ∀ c, c ≠ 11 → I2 c = I1 c := fun c hc => by rw [e2]; funext j; exact am_uc hc
      obtain ⟨t, ht⟩ : ∃ t, t = x_kd (I 4) (I 7) s e := ⟨_, rfl⟩
      obtain ⟨I3, e3⟩ : ∃ I3, I3 = am_upd I2 8 i t := ⟨_, rfl⟩
      have k3 : ∀ c, c ≠ 8 → I3 c = I2 c := fun c hc => by rw [e3]; funext j; exact am_uc hc
      have i2 : I2 7 = I 7 := by rw [k2 7 (by decide), k1 7 (by decide)]
      have i24 : I2 4 = I 4 := by rw [k2 4 (by decide), k1 4 (by decide)]
      have i3 : I3 7 = I 7 := by rw [k3 7 (by decide), i2]
      have n1 : I1 6 1 = nI n := by rw [k1 6 (by decide), h6]
      have n2 : I2 6 1 = nI n := by rw [k2 6 (by decide), n1]
      have n3 : I3 6 1 = nI n := by rw [k3 6 (by decide), n2]
      have ee := s_endOf d I1 J n hn n1 (s := s) hsn
      rw [k1 7 (by decide), ← he] at ee
      have ek := s_kindOf d I2 J n hn n2 (s := s) (e := e) hsn (by omega) hse.2
      rw [i2, i24, ← ht] at ek
      rw [← hs] at hb
      rw [if_neg (nI_ge hsn (by omega)), am_at_n (by omega) (by omega), ← e1, ee, am_bi_i, am_at_n (by omega) (by omega), am_at_n (by omega) (by omega), ← e2, show I2 11 i = nI e by rw [e2, am_ue], ek, am_bi_i, am_at_n (by omega) (by omega), am_at_n (by omega) (by omega), ← e3, show I3 8 i = t by rw [e3, am_ue]] at hb
      have hpi : ∀ j, j < i + 1 → x_pos (I 7) n j < n := fun j hj => by
        by_cases q : j = i
        · rw [q]; omega
        · exact hp j (by omega)
      have hnext : x_pos (I 7) n (i + 1) = x_run x_bl (I 7) (n - e) e := by
        rw [he, hs]
        rfl
      have fin : ∀ x, (t = 3 → x = x_val (I 7) (e - s) s 0) → (∀ o, f_tape_scan_10 d (nI (x_pos (I 7) n (i + 1))) (nI (i + 1)) (nI (i + 1)) (am_upd I3 9 i x) J = some o → f_tape_scan_10 d (nI s) (nI i) (nI i) I J = some o) → ∃ I' N, i ≤ N ∧ f_tape_scan_10 d (nI s) (nI i) (nI i) I J = some (none, I', J) ∧ x_N (I 7) n N ∧ (∀ j, i ≤ j → j < N → x_cl (I 4) (I 7) n I' j) ∧ I' 8 N = 0 ∧ I' 10 N = nI n ∧ I' 11 N = nI n ∧ (∀ c k, c ∉ ([8, 9, 10, 11] : List Nat) → I' c k = I c k) ∧ (∀ c j, j < i → I' c j = I c j) := by
        intro x hx hstep
        obtain ⟨I4, e4⟩ : ∃ I4, I4 = am_upd I3 9 i x := ⟨_, rfl⟩
        have k4 : ∀ c, c ≠ 9 → I4 c = I3 c := fun c hc => by rw [e4]; funext j; exact am_uc hc
        have kI : ∀ c, c ∉ ([8, 9, 10, 11] : List Nat) → I4 c = I c := fun c hc => by rw [k4 c (n_c hc 9 (by decide)), k3 c (n_c hc 8 (by decide)), k2 c (n_c hc 11 (by decide)), k1 c (n_c hc 10 (by decide))]
        obtain ⟨I', N, c1, c2, c3, c4, c5, c6, c7, c8, c9⟩ := ih (i + 1) I4 (by omega) (by rw [kI 6 (by decide), h6]) (by rw [kI 7 (by decide)]; exact hpi)
        rw [kI 7 (by decide)] at c2 c3 c4
        rw [kI 4 (by decide)] at c4
        rw [← e4] at hstep
        refine ⟨I', N, by omega, hstep _ c2, c3, fun j z1 z2 => ?_, c5, c6, c7, fun c k hc => (c8 c k hc).trans (by rw [kI c hc]), fun c j hj => ?_⟩
        · by_cases q : j = i
          · subst q
            unfold x_cl
            rw [← hs, ← he, ← ht, c9 10 j (by omega), c9 11 j (by omega), c9 8 j (by omega), c9 9 j (by omega)]
            refine ⟨?_, ?_, ?_, fun q => ?_⟩
            · rw [k4 10 (by decide), k3 10 (by decide), k2 10 (by decide), e1, am_ue]
            · rw [k4 11 (by decide), k3 11 (by decide), e2, am_ue]
            · rw [k4 8 (by decide), e3, am_ue]
            · rw [e4, am_ue]
              exact hx (by rw [← q, k4 8 (by decide), e3, am_ue])
          · exact c4 j (by omega) z2
        · rw [c9 c j (by omega), e4, am_uk (by omega), e3, am_uk (by omega), e2, am_uk (by omega), e1, am_uk (by omega)]
      by_cases ht3 : t = 3
      · have ev := b_tape_valueOfDigits_0 d (nI s) (nI e) I3 J _ (s_value d I3 J n hn n3 hse.2 (e - s) s 0 (by omega))
        rw [i3] at ev
        obtain ⟨x, hx⟩ : ∃ x, x = x_val (I 7) (e - s) s 0 := ⟨_, rfl⟩
        rw [← hx] at ev
        rw [if_pos ht3, am_at_n (by omega) (by omega), show I3 11 i = nI e by rw [k3 11 (by decide), e2, am_ue], ev, am_bi_i, am_at_n (by omega) (by omega), am_at_n (by omega) (by omega), am_uc (show 11 ≠ 9 by decide), show I3 11 i = nI e by rw [k3 11 (by decide), e2, am_ue], s_skip0 d _ J n hn (by rw [am_uc (by decide)]; exact n3) hse.2, am_bi_i, nI_1] at hb
        rw [show (am_upd I3 9 i x) 7 = I 7 from (funext fun j => am_uc (show 7 ≠ 9 by decide)).trans i3, ← hnext] at hb
        rw [← hs]
        exact fin x (fun _ => hx) hb
      · rw [if_neg ht3, am_at_n (by omega) (by omega), am_at_n (by omega) (by omega), am_uc (show 11 ≠ 9 by decide), show I3 11 i = nI e by rw [k3 11 (by decide), e2, am_ue], s_skip0 d _ J n hn (by rw [am_uc (by decide)]; exact n3) hse.2, am_bi_i, nI_1] at hb
        rw [show (am_upd I3 9 i 0) 7 = I 7 from (funext fun j => am_uc (show 7 ≠ 9 by decide)).trans i3, ← hnext] at hb
        rw [← hs]
        exact fin 0 (fun q => absurd q ht3) hb
theorem s_scan (d n : Nat) (hn : n ≤ 2000) (I : am_I) (J : am_J) (h6 : I 6 1 = nI n) : ∃ I' N, f_tape_scan_0 d I J = some (none, I', J) ∧ x_N (I 7) n N ∧ (∀ j, j < N → x_cl (I 4) (I 7) n I' j) ∧ I' 8 N = 0 ∧ I' 10 N = nI n ∧ I' 11 N = nI n ∧ (∀ c k, c ∉ ([8, 9, 10, 11] : List Nat) → I' c k = I c k) := by
  obtain ⟨I', N, c1, c2, c3, c4, c5, c6, c7, c8, c9⟩ := s_scan10 d n hn J 401 0 I rfl h6 (fun j hj => absurd hj (by omega))
  refine ⟨I', N, b_tape_scan_0 d I J _ ?_, c3, fun j hj => c4 j (by omega) hj, c5, c6, c7, c8⟩
  rw [show f_tape_skipBlanks_0 d 0 I J = _ from s_skip0 d I J n hn h6 (j := 0) (by omega), am_bi_i]
  exact c2

/-! the reference's cut, its loop -/
/-- what the reference knows of the thing j -/
def x_ml (W B : Nat → Int32) (n : Nat) (I : am_I) (J : am_J) (j : Nat) : Prop := I 71 j = m_kd (x_kd W B (x_pos B n j) (x_end B n (x_pos B n j))) ∧ I 72 j = nI (x_pos B n j) ∧ (x_dg (B (x_pos B n j)) = true → I 73 j = x_val B (min (x_end B n (x_pos B n j) - x_pos B n j) 4) (x_pos B n j) 0) ∧ (x_lt (B (x_pos B n j)) = true → J 74 j = lN (x_key B (x_pos B n j) (min (x_end B n (x_pos B n j) - x_pos B n j) 8)))
theorem x_pos_nb {B : Nat → Int32} {n i : Nat} (hp : ∀ j, j < i → x_pos B n j < n) (h : x_pos B n i < n) : x_bl (B (x_pos B n i)) = false := by
  cases i with
  | zero => exact x_run_out x_bl B n 0 (by show x_pos B n 0 < 0 + n; omega)
  | succ m =>
    have h1 := x_end_ge B (hp m (by omega))
    exact x_run_out x_bl B (n - x_end B n (x_pos B n m)) (x_end B n (x_pos B n m)) (by show x_pos B n (m + 1) < _; omega)
theorem x_pos_le {B : Nat → Int32} {n i : Nat} (hp : ∀ j, j < i → x_pos B n j < n) : x_pos B n i ≤ n := by
  cases i with
  | zero => exact Nat.le_trans (x_run_ge x_bl B n 0).2 (by omega)
  | succ m =>
    have h1 := x_end_ge B (hp m (by omega))
    have h2 := (x_run_ge x_bl B (n - x_end B n (x_pos B n m)) (x_end B n (x_pos B n m))).2
    show x_run x_bl B (n - x_end B n (x_pos B n m)) (x_end B n (x_pos B n m)) ≤ n
    omega
section MC3
variable {n : Nat} {B W : Nat → Int32} (d : Nat)
theorem s_m_skip2 {I : am_I} {J : am_J} (hn : n ≤ 2000) (hB : ∀ j, j < n → (B j).toInt8.toInt32 = B j) (h : x_st n B I) {i : Nat} (hi : i ≤ 401) (hI : I 68 10 = nI i) {o : Option Value × am_I × am_J} {k j : Nat} (hj : j + k = n) (q : f_m_cut_7 d (nI (x_run x_bl B k j)) I J = some o) : f_m_cut_7 d (nI j) I J = some o := by
  by_cases h4 : i ≤ 400
  · exact s_m_skip d hn hB h h4 hI o k j hj q
  · have hi2 : i = 401 := by omega
    subst hi2
    have e : ∀ x, f_m_cut_7 d x I J = some (none, I, J) := fun x => b_m_cut_7 d x I J _ (by rw [hI, if_pos (show (400 : Int32) < nI 401 by decide)])
    rw [e] at q ⊢
    exact q
theorem s_m_cutL (hn : n ≤ 2000) (hB : ∀ j, j < n → (B j).toInt8.toInt32 = B j) : ∀ k i (I : am_I) (J : am_J), i + k = 401 → x_st n B I → I 68 10 = nI i → x_W W (J 75) → (∀ j, j < i → x_pos B n j < n) → ∃ I' J' N, i ≤ N ∧ f_m_cut_7 d (nI (x_pos B n i)) I J = some (none, I', J') ∧ x_N B n N ∧ (∀ j, i ≤ j → j < N → x_ml W B n I' J' j) ∧ (N ≤ 400 → I' 71 N = 0 ∧ I' 72 N = nI n) ∧ (∀ c k, c ∉ ([71, 72, 73] : List Nat) → (c ≠ 68 ∨ k ≠ 10) → I' c k = I c k) ∧ (∀ c j, c ≠ 68 → j < i → I' c j = I c j) ∧ (∀ c k, c ≠ 74 → J' c k = J c k) ∧ (∀ j, j < i → J' 74 j = J 74 j) := by
  intro k
  induction k with
  | zero =>
    intro i I J hi hst hI hW hp
    have : i = 401 := by omega
    subst this
    exact ⟨I, J, 401, Nat.le_refl _, b_m_cut_7 d _ I J _ (by rw [hI, if_pos (show (400 : Int32) < nI 401 by decide)]), ⟨Nat.le_refl _, hp, Or.inl rfl⟩, fun j h1 h2 => absurd h2 (by omega), fun h => absurd h (by omega), fun _ _ _ _ => rfl, fun _ _ _ _ => rfl, fun _ _ _ => rfl, fun _ _ => rfl⟩
  | succ k ih =>
    intro i I J hi hst hI hW hp
    have hpos := x_pos_le hp
    have put : ∀ a b c, (∀ c' k', c' ∉ ([71, 72, 73] : List Nat) → (c' ≠ 68 ∨ k' ≠ 10) → x_put I i a b c c' k' = I c' k') ∧ (∀ c' j, c' ≠ 68 → j < i → x_put I i a b c c' j = I c' j) ∧ x_put I i a b c 71 i = a ∧ x_put I i a b c 72 i = b ∧ x_put I i a b c 73 i = c ∧ x_put I i a b c 68 10 = nI (i + 1) := by
      intro a b c
      unfold x_put
      refine ⟨fun c' k' h1 h2 => ?_, fun c' j h1 h2 => ?_, ?_, ?_, ?_, am_ue⟩
      · have e : am_upd (am_upd (am_upd (am_upd I 71 i a) 72 i b) 73 i c) 68 10 (nI (i + 1)) c' k' = am_upd (am_upd (am_upd I 71 i a) 72 i b) 73 i c c' k' := by
          rcases h2 with h | h
          · exact am_uc h
          · exact am_uk h
        rw [e, am_uc (n_c h1 73 (by decide)), am_uc (n_c h1 72 (by decide)), am_uc (n_c h1 71 (by decide))]
      · rw [am_uc h1, am_uk (by omega), am_uk (by omega), am_uk (by omega)]
      · rw [am_uc (by decide), am_uc (by decide), am_uc (by decide), am_ue]
      · rw [am_uc (by decide), am_uc (by decide), am_ue]
      · rw [am_uc (by decide), am_ue]
    have hb := b_m_cut_7 d (nI (x_pos B n i)) I J
    rw [hI, if_neg (show ¬ (400 : Int32) < nI i from nI_nlt (a := 400) (by omega) (by omega)), s_m_byte d J hn hst (by omega), am_bi_i, hst.1] at hb
    by_cases hend : n ≤ x_pos B n i
    · rw [if_neg (nI_nlt hend (by omega)), s_m_token d (show i ≤ 402 by omega) hI, am_bv_v] at hb
      obtain ⟨p1, p2, p3, p4, p5, p6⟩ := put 0 (nI n) 0
      exact ⟨_, _, i, Nat.le_refl _, hb _ rfl, ⟨by omega, hp, Or.inr hend⟩, fun j h1 h2 => absurd h2 (by omega), fun _ => ⟨p3, p4⟩, p1, p2, fun c k hc => am_ucJ hc, fun j hj => am_ukJ (by omega)⟩
    · obtain ⟨s, hs⟩ : ∃ s, s = x_pos B n i := ⟨_, rfl⟩
      obtain ⟨e, he⟩ : ∃ e, e = x_end B n s := ⟨_, rfl⟩
      have hsn : s < n := by omega
      have hse := x_end_ge B hsn
      rw [← he] at hse
      have hnb := x_pos_nb hp (by omega)
      rw [← hs] at hnb hb hend
      have hby := hB s hsn
      have nb : ∀ c, x_bl c = true → 0 ≤ c → c < 128 → ¬ B s &&& 255 = c := fun c hc z1 z2 q => by
        rw [(x_u_eq hby z1 z2).mp q, hc] at hnb
        exact absurd hnb (by decide)
      rw [if_pos (nI_lt hsn (by omega)), if_neg (show ¬ n ≤ s by omega), if_neg (nb 9 (by decide) (by decide) (by decide)), if_neg (nb 10 (by decide) (by decide) (by decide)), if_neg (nb 13 (by decide) (by decide) (by decide)), if_neg (nb 32 (by decide) (by decide) (by decide)), s_m_isLetter, am_bi_i, x_u_lt hby] at hb
      have hpi : ∀ j, j < i + 1 → x_pos B n j < n := fun j hj => by
        by_cases q : j = i
        · rw [q]; omega
        · exact hp j (by omega)
      have hnext : x_pos B n (i + 1) = x_run x_bl B (n - e) e := by
        rw [he, hs]
        rfl
      have fin : ∀ (v : Int32) (y : Int64), (x_dg (B s) = true → v = x_val B (min (e - s) 4) s 0) → (x_lt (B s) = true → y = lN (x_key B s (min (e - s) 8))) → (∀ o, f_m_cut_7 d (nI e) (x_put I i (m_kd (x_kd W B s e)) (nI s) v) (am_updJ J 74 i y) = some o → f_m_cut_7 d (nI s) I J = some o) → ∃ I' J' N, i ≤ N ∧ f_m_cut_7 d (nI s) I J = some (none, I', J') ∧ x_N B n N ∧ (∀ j, i ≤ j → j < N → x_ml W B n I' J' j) ∧ (N ≤ 400 → I' 71 N = 0 ∧ I' 72 N = nI n) ∧ (∀ c k, c ∉ ([71, 72, 73] : List Nat) → (c ≠ 68 ∨ k ≠ 10) → I' c k = I c k) ∧ (∀ c j, c ≠ 68 → j < i → I' c j = I c j) ∧ (∀ c k, c ≠ 74 → J' c k = J c k) ∧ (∀ j, j < i → J' 74 j = J 74 j) := by
        intro v y hv hy hstep
        obtain ⟨p1, p2, p3, p4, p5, p6⟩ := put (m_kd (x_kd W B s e)) (nI s) v
        obtain ⟨I4, e4⟩ : ∃ I4, I4 = x_put I i (m_kd (x_kd W B s e)) (nI s) v := ⟨_, rfl⟩
        rw [← e4] at hstep p1 p2 p3 p4 p5 p6
        have st4 : x_st n B I4 := ⟨by rw [p1 68 4 (by decide) (Or.inr (by decide))]; exact hst.1, fun j hj => by rw [p1 70 j (by decide) (Or.inl (by decide))]; exact hst.2 j hj⟩
        obtain ⟨I', J', N, c1, c2, c3, c4, c5, c6, c7, c8, c9⟩ := ih (i + 1) I4 (am_updJ J 74 i y) (by omega) st4 p6 (by rw [show (am_updJ J 74 i y) 75 = J 75 from funext fun k => am_ucJ (by decide)]; exact hW) hpi
        rw [hnext] at c2
        refine ⟨I', J', N, by omega, hstep _ (s_m_skip2 d hn hB st4 (show i + 1 ≤ 401 by omega) p6 (show e + (n - e) = n by omega) c2), c3, fun j z1 z2 => ?_, c5, fun c k h1 h2 => (c6 c k h1 h2).trans (p1 c k h1 h2), fun c j h1 h2 => (c7 c j h1 (by omega)).trans (p2 c j h1 h2), fun c k hc => (c8 c k hc).trans (am_ucJ hc), fun j hj => (c9 j (by omega)).trans (am_ukJ (by omega))⟩
        by_cases q : j = i
        · subst q
          unfold x_ml
          rw [← hs, ← he, c7 71 j (by decide) (by omega), c7 72 j (by decide) (by omega), c7 73 j (by decide) (by omega), c9 j (by omega), p3, p4, p5, am_ueJ]
          exact ⟨rfl, rfl, hv, hy⟩
        · exact c4 j (by omega) z2
      rw [← hs]
      by_cases q1 : x_lt (B s) = true
      · rw [if_neg (show ¬ am_tf (x_lt (B s) = true) = 0 from fun z => am_tf0.mp z q1)] at hb
        refine fin 0 (lN (x_key B s (min (e - s) 8))) (fun z => ?_) (fun _ => rfl) (fun o ho => hb o (s_m_name d hW hn hB hst hsn q1 o ?_))
        · rw [x_dg_lt z] at q1
          exact absurd q1 (by decide)
        · rw [← he, s_m_token d (show i ≤ 402 by omega) hI, am_bv_v]
          exact ho
      · rw [if_pos (am_tf0.mpr q1), s_m_isDigit, am_bi_i, x_u_dg hby] at hb
        by_cases q2 : x_dg (B s) = true
        · rw [if_neg (show ¬ am_tf (x_dg (B s) = true) = 0 from fun z => am_tf0.mp z q2)] at hb
          refine fin (x_val B (min (e - s) 4) s 0) 0 (fun _ => rfl) (fun z => absurd z q1) (fun o ho => hb o (s_m_int (W := W) d hn hB hst hsn q2 o ?_))
          rw [← he, s_m_token d (show i ≤ 402 by omega) hI, am_bv_v]
          exact ho
        · rw [if_pos (am_tf0.mpr q2), nI_1, s_m_byte d J hn hst (by omega), am_bi_i, s_m_sgn d W B hby (Bool.eq_false_iff.mpr q1) (Bool.eq_false_iff.mpr q2) (nI s) _ I J _ (s_m_token d (show i ≤ 402 by omega) hI (m_kd (x_kd W B s e)) (nI s) 0 0), am_bi_i, nI_1] at hb
          refine fin 0 0 (fun z => absurd z q2) (fun z => absurd z q1) (fun o ho => hb o ?_)
          rw [show s + 1 = e by rw [he]; exact (x_end_one hsn (Bool.eq_false_iff.mpr q1) (Bool.eq_false_iff.mpr q2)).symm]
          exact ho
theorem s_m_cut (hn : n ≤ 2000) (hB : ∀ j, j < n → (B j).toInt8.toInt32 = B j) (I : am_I) (J : am_J) (hst : x_st n B I) (hW : x_W W (J 75)) : ∃ I' J' N, f_m_cut_0 d I J = some (none, I', J') ∧ x_N B n N ∧ (∀ j, j < N → x_ml W B n I' J' j) ∧ (N ≤ 400 → I' 71 N = 0 ∧ I' 72 N = nI n) ∧ (∀ c k, c ∉ ([71, 72, 73] : List Nat) → (c ≠ 68 ∨ k ≠ 10) → I' c k = I c k) ∧ (∀ c k, c ≠ 74 → J' c k = J c k) := by
  obtain ⟨I1, e1⟩ : ∃ I1, I1 = am_upd I 68 10 0 := ⟨_, rfl⟩
  have st1 : x_st n B I1 := ⟨by rw [e1, am_uk (by decide)]; exact hst.1, fun j hj => by rw [e1, am_uc (by decide)]; exact hst.2 j hj⟩
  have h10 : I1 68 10 = nI 0 := by rw [e1, am_ue]; rfl
  obtain ⟨I', J', N, c1, c2, c3, c4, c5, c6, c7, c8, c9⟩ := s_m_cutL (W := W) d hn hB 401 0 I1 J rfl st1 h10 hW (fun j hj => absurd hj (by omega))
  refine ⟨I', J', N, b_m_cut_0 d I J _ ?_, c3, fun j hj => c4 j (by omega) hj, c5, fun c k h1 h2 => (c6 c k h1 h2).trans ?_, c8⟩
  · rw [← e1]
    exact s_m_skip2 d hn hB st1 (show 0 ≤ 401 by omega) h10 (show 0 + n = n by omega) c2
  · rw [e1]
    rcases h2 with h | h
    · exact am_uc h
    · exact am_uk h
end MC3

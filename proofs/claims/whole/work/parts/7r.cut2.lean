/-! the reference's cut, its pieces -/
theorem x_val_s (B : Nat → Int32) : ∀ k j a, x_val B (k + 1) j a = x_val B k j a * 10 + B (j + k) - 48 := by
  intro k
  induction k with
  | zero => intro j a; rfl
  | succ k ih =>
    intro j a
    show x_val B (k + 1) (j + 1) (a * 10 + B j - 48) = x_val B k (j + 1) (a * 10 + B j - 48) * 10 + B (j + (k + 1)) - 48
    rw [ih (j + 1), show j + 1 + k = j + (k + 1) by omega]
theorem x_dg_0 : x_dg 0 = false := by decide
theorem x_lt_0 : x_lt 0 = false := by decide
section MS
variable (d : Nat) (x1 x3 : Int32) (I : am_I) (J : am_J) (r : am_I × am_J)
theorem s_m_sign_59 (h : f_m_token_0 d 4 x1 0 0 I J = some (none, r)) : f_m_sign_0 d x1 59 x3 I J = some (some (.int 1), r) := by
  refine b_m_sign_0 d x1 59 x3 I J _ ?_
  repeat (first | rw [if_pos rfl] | rw [if_neg (by decide)])
  refine b_m_sign_75 d x1 _ _ I J _ ?_
  repeat (first | rw [if_pos rfl] | rw [if_neg (by decide)])
  rw [h]
  rfl
theorem s_m_sign_61 (h : f_m_token_0 d 5 x1 0 0 I J = some (none, r)) : f_m_sign_0 d x1 61 x3 I J = some (some (.int 1), r) := by
  refine b_m_sign_0 d x1 61 x3 I J _ ?_
  repeat (first | rw [if_pos rfl] | rw [if_neg (by decide)])
  refine b_m_sign_75 d x1 _ _ I J _ ?_
  repeat (first | rw [if_pos rfl] | rw [if_neg (by decide)])
  rw [h]
  rfl
theorem s_m_sign_40 (h : f_m_token_0 d 6 x1 0 0 I J = some (none, r)) : f_m_sign_0 d x1 40 x3 I J = some (some (.int 1), r) := by
  refine b_m_sign_0 d x1 40 x3 I J _ ?_
  repeat (first | rw [if_pos rfl] | rw [if_neg (by decide)])
  refine b_m_sign_75 d x1 _ _ I J _ ?_
  repeat (first | rw [if_pos rfl] | rw [if_neg (by decide)])
  rw [h]
  rfl
theorem s_m_sign_41 (h : f_m_token_0 d 7 x1 0 0 I J = some (none, r)) : f_m_sign_0 d x1 41 x3 I J = some (some (.int 1), r) := by
  refine b_m_sign_0 d x1 41 x3 I J _ ?_
  repeat (first | rw [if_pos rfl] | rw [if_neg (by decide)])
  refine b_m_sign_75 d x1 _ _ I J _ ?_
  repeat (first | rw [if_pos rfl] | rw [if_neg (by decide)])
  rw [h]
  rfl
theorem s_m_sign_43 (h : f_m_token_0 d 8 x1 0 0 I J = some (none, r)) : f_m_sign_0 d x1 43 x3 I J = some (some (.int 1), r) := by
  refine b_m_sign_0 d x1 43 x3 I J _ ?_
  repeat (first | rw [if_pos rfl] | rw [if_neg (by decide)])
  refine b_m_sign_75 d x1 _ _ I J _ ?_
  repeat (first | rw [if_pos rfl] | rw [if_neg (by decide)])
  rw [h]
  rfl
theorem s_m_sign_45 (h : f_m_token_0 d 9 x1 0 0 I J = some (none, r)) : f_m_sign_0 d x1 45 x3 I J = some (some (.int 1), r) := by
  refine b_m_sign_0 d x1 45 x3 I J _ ?_
  repeat (first | rw [if_pos rfl] | rw [if_neg (by decide)])
  refine b_m_sign_75 d x1 _ _ I J _ ?_
  repeat (first | rw [if_pos rfl] | rw [if_neg (by decide)])
  rw [h]
  rfl
theorem s_m_sign_42 (h : f_m_token_0 d 10 x1 0 0 I J = some (none, r)) : f_m_sign_0 d x1 42 x3 I J = some (some (.int 1), r) := by
  refine b_m_sign_0 d x1 42 x3 I J _ ?_
  repeat (first | rw [if_pos rfl] | rw [if_neg (by decide)])
  refine b_m_sign_75 d x1 _ _ I J _ ?_
  repeat (first | rw [if_pos rfl] | rw [if_neg (by decide)])
  rw [h]
  rfl
theorem s_m_sign_47 (h : f_m_token_0 d 15 x1 0 0 I J = some (none, r)) : f_m_sign_0 d x1 47 x3 I J = some (some (.int 1), r) := by
  refine b_m_sign_0 d x1 47 x3 I J _ ?_
  repeat (first | rw [if_pos rfl] | rw [if_neg (by decide)])
  refine b_m_sign_75 d x1 _ _ I J _ ?_
  repeat (first | rw [if_pos rfl] | rw [if_neg (by decide)])
  rw [h]
  rfl
theorem s_m_sign_60 (h : f_m_token_0 d 13 x1 0 0 I J = some (none, r)) : f_m_sign_0 d x1 60 x3 I J = some (some (.int 1), r) := by
  refine b_m_sign_0 d x1 60 x3 I J _ ?_
  repeat (first | rw [if_pos rfl] | rw [if_neg (by decide)])
  refine b_m_sign_75 d x1 _ _ I J _ ?_
  repeat (first | rw [if_pos rfl] | rw [if_neg (by decide)])
  rw [h]
  rfl
theorem s_m_sign_n {x2 : Int32} (q : x_sg x2 = false) (h : f_m_token_0 d 3 x1 0 0 I J = some (none, r)) : f_m_sign_0 d x1 x2 x3 I J = some (some (.int 1), r) := by
  have n : ∀ c, x_sg c = true → ¬ x2 = c := fun c hc e => by rw [e, hc] at q; exact absurd q (by decide)
  refine b_m_sign_0 d x1 x2 x3 I J _ ?_
  rw [if_neg (n 59 (by decide)), if_neg (n 61 (by decide)), if_neg (n 40 (by decide)), if_neg (n 41 (by decide)), if_neg (n 43 (by decide)), if_neg (n 45 (by decide)), if_neg (n 42 (by decide))]
  refine b_m_sign_75 d x1 _ _ I J _ ?_
  rw [if_neg (n 47 (by decide)), if_neg (n 60 (by decide)), h]
  rfl
end MS
theorem x_u_sg {x : Int32} (h : x.toInt8.toInt32 = x) : x_sg (x &&& 255) = x_sg x := by
  unfold x_sg
  congr 1
  · exact decide_eq_decide.mpr (x_u_eq h (by decide) (by decide))
  congr 1
  · exact decide_eq_decide.mpr (x_u_eq h (by decide) (by decide))
  congr 1
  · exact decide_eq_decide.mpr (x_u_eq h (by decide) (by decide))
  congr 1
  · exact decide_eq_decide.mpr (x_u_eq h (by decide) (by decide))
  congr 1
  · exact decide_eq_decide.mpr (x_u_eq h (by decide) (by decide))
  congr 1
  · exact decide_eq_decide.mpr (x_u_eq h (by decide) (by decide))
  congr 1
  · exact decide_eq_decide.mpr (x_u_eq h (by decide) (by decide))
  congr 1
  · exact decide_eq_decide.mpr (x_u_eq h (by decide) (by decide))
  · exact decide_eq_decide.mpr (x_u_eq h (by decide) (by decide))
theorem x_sg_all {x : Int32} (h : x_sg x = true) : x = 59 ∨ x = 61 ∨ x = 43 ∨ x = 45 ∨ x = 42 ∨ x = 47 ∨ x = 60 ∨ x = 40 ∨ x = 41 := by
  unfold x_sg at h
  rw [Bool.or_eq_true, Bool.or_eq_true, Bool.or_eq_true, Bool.or_eq_true, Bool.or_eq_true, Bool.or_eq_true, Bool.or_eq_true, Bool.or_eq_true, decide_eq_true_iff, decide_eq_true_iff, decide_eq_true_iff, decide_eq_true_iff, decide_eq_true_iff, decide_eq_true_iff, decide_eq_true_iff, decide_eq_true_iff, decide_eq_true_iff] at h
  exact h
/-- a sign's token -/
theorem s_m_sgn (d : Nat) (W B : Nat → Int32) {s e : Nat} (hs : (B s).toInt8.toInt32 = B s) (h1 : x_lt (B s) = false) (h2 : x_dg (B s) = false) (x1 x3 : Int32) (I : am_I) (J : am_J) (r : am_I × am_J) (h : f_m_token_0 d (m_kd (x_kd W B s e)) x1 0 0 I J = some (none, r)) : f_m_sign_0 d x1 (B s &&& 255) x3 I J = some (some (.int 1), r) := by
  unfold x_kd at h
  rw [h1, h2, if_neg (by decide), if_neg (by decide)] at h
  by_cases q : x_sg (B s) = true
  · rw [if_pos q] at h
    have u : ∀ c, B s = c → 0 ≤ c → c < 128 → B s &&& 255 = c := fun c hc z1 z2 => (x_u_eq hs z1 z2).mpr hc
    rcases x_sg_all q with w | w | w | w | w | w | w | w | w
    · rw [u _ w (by decide) (by decide)]
      rw [w] at h
      exact s_m_sign_59 d x1 x3 I J r h
    · rw [u _ w (by decide) (by decide)]
      rw [w] at h
      exact s_m_sign_61 d x1 x3 I J r h
    · rw [u _ w (by decide) (by decide)]
      rw [w] at h
      exact s_m_sign_43 d x1 x3 I J r h
    · rw [u _ w (by decide) (by decide)]
      rw [w] at h
      exact s_m_sign_45 d x1 x3 I J r h
    · rw [u _ w (by decide) (by decide)]
      rw [w] at h
      exact s_m_sign_42 d x1 x3 I J r h
    · rw [u _ w (by decide) (by decide)]
      rw [w] at h
      exact s_m_sign_47 d x1 x3 I J r h
    · rw [u _ w (by decide) (by decide)]
      rw [w] at h
      exact s_m_sign_60 d x1 x3 I J r h
    · rw [u _ w (by decide) (by decide)]
      rw [w] at h
      exact s_m_sign_40 d x1 x3 I J r h
    · rw [u _ w (by decide) (by decide)]
      rw [w] at h
      exact s_m_sign_41 d x1 x3 I J r h
  · rw [if_neg q] at h
    exact s_m_sign_n d x1 x3 I J r (by rw [x_u_sg hs]; exact Bool.eq_false_iff.mpr q) h
section MD
variable {n : Nat} {B : Nat → Int32} (d : Nat)
theorem s_m_208 {I : am_I} {J : am_J} (hn : n ≤ 2000) (hB : ∀ j, j < n → (B j).toInt8.toInt32 = B j) (h : x_st n B I) {s L : Nat} (hL : s + L ≤ n) (hd : ∀ i, i < L → x_dg (B (s + i)) = true) (o : Option Value × am_I × am_J) : ∀ k l, l + k = L → f_m_cut_208 d (nI s) (nI L) (x_val B (min L 4) s 0) I J = some o → f_m_cut_208 d (nI s) (nI l) (x_val B (min l 4) s 0) I J = some o := by
  intro k
  induction k with
  | zero => intro l hl q; rw [show l = L by omega]; exact q
  | succ k ih =>
    intro l hl q
    have z := hd l (by omega)
    have u := x_lt_u (hB (s + l) (by omega)) (Or.inr z)
    have q2 := ih (l + 1) (by omega) q
    refine b_m_cut_208 d _ _ _ I J _ ?_
    rw [nI_add, s_m_byte d J hn h (by omega), am_bi_i, if_neg (show ¬ n ≤ s + l by omega), s_m_isDigit, am_bi_i, u, if_neg (show ¬ am_tf (x_dg (B (s + l)) = true) = 0 from fun q => am_tf0.mp q z), nI_1]
    by_cases h4 : 4 ≤ l
    · rw [if_pos (show (4 : Int32) ≤ nI l from nI_le (a := 4) h4 (by omega))]
      rw [Nat.min_eq_right (show 4 ≤ l + 1 by omega)] at q2
      rw [Nat.min_eq_right h4]
      exact q2
    · rw [if_neg (show ¬ (4 : Int32) ≤ nI l from nI_ge (b := 4) (by omega) (by omega)), s_m_byte d J hn h (by omega), am_bi_i, if_neg (show ¬ n ≤ s + l by omega), u, Int32.mul_comm 10]
      rw [Nat.min_eq_left (show l + 1 ≤ 4 by omega), x_val_s] at q2
      rw [Nat.min_eq_left (show l ≤ 4 by omega)]
      exact q2
theorem s_m_85 {I : am_I} {J : am_J} (hn : n ≤ 2000) (hB : ∀ j, j < n → (B j).toInt8.toInt32 = B j) (h : x_st n B I) {s L : Nat} (hL : s + L ≤ n) (hd : ∀ i, i < L → x_lt (B (s + i)) = true) (o : Option Value × am_I × am_J) : ∀ k l, l + k = L → f_m_cut_85 d (nI s) (nI L) (lN (x_key B s (min L 8))) I J = some o → f_m_cut_85 d (nI s) (nI l) (lN (x_key B s (min l 8))) I J = some o := by
  intro k
  induction k with
  | zero => intro l hl q; rw [show l = L by omega]; exact q
  | succ k ih =>
    intro l hl q
    have z := hd l (by omega)
    have u := x_lt_u (hB (s + l) (by omega)) (Or.inl z)
    have q2 := ih (l + 1) (by omega) q
    refine b_m_cut_85 d _ _ _ I J _ ?_
    rw [nI_add, s_m_byte d J hn h (by omega), am_bi_i, if_neg (show ¬ n ≤ s + l by omega), s_m_isLetter, am_bi_i, u, if_neg (show ¬ am_tf (x_lt (B (s + l)) = true) = 0 from fun q => am_tf0.mp q z), nI_1]
    by_cases h4 : 8 ≤ l
    · rw [if_pos (show (8 : Int32) ≤ nI l from nI_le (a := 8) h4 (by omega))]
      rw [Nat.min_eq_right (show 8 ≤ l + 1 by omega)] at q2
      rw [Nat.min_eq_right h4]
      exact q2
    · obtain ⟨a, a1, a2, a3, a4⟩ := x_letter z
      have ha : f_m_appends_0 d (lN (x_key B s l)) (B (s + l)) I J = some (some (.long (lN (x_key B s (l + 1)))), I, J) := by
        refine b_m_appends_0 d _ _ I J _ ?_
        rw [show x_key B s (l + 1) = 27 * x_key B s l + ((B (s + l)).toInt.toNat - 96) from rfl, a4, a3, if_neg (nI_ne0 (by omega) (by omega)), show (97 : Int32) = nI 97 from rfl, pk_sub (by omega), nI_1, nI_l (by omega), show (27 : Int64) = lN 27 from rfl, lN_mul, lN_add, show a - 97 + 1 = a - 96 by omega]
      rw [if_neg (show ¬ (8 : Int32) ≤ nI l from nI_ge (b := 8) (by omega) (by omega)), s_m_byte d J hn h (by omega), am_bi_i, if_neg (show ¬ n ≤ s + l by omega), u, Nat.min_eq_left (show l ≤ 8 by omega), ha, am_bl_l]
      rw [Nat.min_eq_left (show l + 1 ≤ 8 by omega)] at q2
      exact q2
theorem s_m_int {I : am_I} {J : am_J} {W : Nat → Int32} (hn : n ≤ 2000) (hB : ∀ j, j < n → (B j).toInt8.toInt32 = B j) (h : x_st n B I) {s : Nat} (hs : s < n) (hd : x_dg (B s) = true) (o : Option Value × am_I × am_J) (q : am_bv (f_m_token_0 d (m_kd (x_kd W B s (x_end B n s))) (nI s) (x_val B (min (x_end B n s - s) 4) s 0) 0 I J) (fun I1 J2 => f_m_cut_7 d (nI (x_end B n s)) I1 J2) = some o) : f_m_cut_208 d (nI s) 0 0 I J = some o := by
  obtain ⟨e, he⟩ : ∃ e, e = x_end B n s := ⟨_, rfl⟩
  have hg := x_end_ge B hs
  obtain ⟨h1, h2⟩ := x_end_dg hs hd
  rw [← he] at q hg h1 h2
  have y := x_kd
  unfold x_kd at q
  rw [if_pos hd] at q
  refine s_m_208 d hn hB h (s := s) (L := e - s) (by omega) (fun i hi => h1 (s + i) (by omega) (by omega)) o (e - s) 0 (by omega) ?_
  refine b_m_cut_208 d _ _ _ I J _ ?_
  have hout : x_dg (if n ≤ e then 0 else B e &&& 255) = false := by
    by_cases z : n ≤ e
    · rw [if_pos z]; exact x_dg_0
    · rw [if_neg z, x_u_dg (hB e (by omega))]
      exact h2 (by omega)
  rw [nI_add, show s + (e - s) = e by omega, s_m_byte d J hn h (by omega), am_bi_i, s_m_isDigit, am_bi_i, hout, am_tf_f (by decide), if_pos rfl]
  by_cases z : e - s ≤ 4
  · rw [if_pos (show nI (e - s) ≤ (4 : Int32) from nI_le (b := 4) z (by omega))]
    rw [if_pos z] at q
    exact q
  · rw [if_neg (show ¬ nI (e - s) ≤ (4 : Int32) from nI_ge (a := 4) (by omega) (by omega))]
    rw [if_neg z] at q
    exact q
theorem s_m_name {I : am_I} {J : am_J} {W : Nat → Int32} (hW : x_W W (J 75)) (hn : n ≤ 2000) (hB : ∀ j, j < n → (B j).toInt8.toInt32 = B j) (h : x_st n B I) {s : Nat} (hs : s < n) (hd : x_lt (B s) = true) (o : Option Value × am_I × am_J) (q : am_bv (f_m_token_0 d (m_kd (x_kd W B s (x_end B n s))) (nI s) 0 (lN (x_key B s (min (x_end B n s - s) 8))) I J) (fun I1 J2 => f_m_cut_7 d (nI (x_end B n s)) I1 J2) = some o) : f_m_cut_85 d (nI s) 0 0 I J = some o := by
  obtain ⟨e, he⟩ : ∃ e, e = x_end B n s := ⟨_, rfl⟩
  have hg := x_end_ge B hs
  obtain ⟨h1, h2⟩ := x_end_lt hs hd
  rw [← he] at q hg h1 h2
  have nd : x_dg (B s) = false := by
    by_cases z : x_dg (B s) = true
    · rw [x_dg_lt z] at hd
      exact absurd hd (by decide)
    · exact Bool.eq_false_iff.mpr z
  unfold x_kd at q
  rw [nd, if_neg (by decide), if_pos hd] at q
  have hl : ∀ i, i < e - s → x_lt (B (s + i)) = true := fun i hi => h1 (s + i) (by omega) (by omega)
  refine s_m_85 d hn hB h (s := s) (L := e - s) (by omega) hl o (e - s) 0 (by omega) ?_
  refine b_m_cut_85 d _ _ _ I J _ ?_
  have hout : x_lt (if n ≤ e then 0 else B e &&& 255) = false := by
    by_cases z : n ≤ e
    · rw [if_pos z]; exact x_lt_0
    · rw [if_neg z, x_u_lt (hB e (by omega))]
      exact h2 (by omega)
  rw [nI_add, show s + (e - s) = e by omega, s_m_byte d J hn h (by omega), am_bi_i, s_m_isLetter, am_bi_i, hout, am_tf_f (by decide), if_pos rfl]
  have ee : s + (e - s) = e := by omega
  by_cases z : e - s ≤ 8
  · rw [if_pos (show nI (e - s) ≤ (8 : Int32) from nI_le (b := 8) z (by omega))]
    rw [if_pos z, Nat.min_eq_left z] at q
    rw [Nat.min_eq_left z]
    by_cases z7 : 7 < e - s
    · rw [if_pos (show (7 : Int32) < nI (e - s) from nI_lt (a := 7) z7 (by omega))]
      rw [x_wd_no 17 0 (fun w h3 h4 h5 => by
        rw [← ee] at h5
        have k1 := (x_isw_key hW (by omega) z hl).mp h5
        obtain ⟨l, l1, l2, l3, l4, l5⟩ := hW.1 w (by omega)
        rw [l5] at k1
        have k2 := (x_key_inj l (e - s) l3 hl ((pk_lEQ (x_27 (x_key_lt l l3) (by omega)) (x_27 (x_key_lt _ hl) z)).mp k1)).1
        omega)] at q
      exact q
    · rw [if_neg (show ¬ (7 : Int32) < nI (e - s) from nI_nlt (a := 7) (by omega) (by omega))]
      refine s_m_word d hW z hl o 17 0 1 rfl ?_
      rw [ee, nI_add, ee]
      by_cases k : x_wd W B s e 17 0 = 2
      · rw [if_pos k]
        rw [k] at q
        exact q
      · rw [if_neg k]
        exact q
  · rw [if_neg (show ¬ nI (e - s) ≤ (8 : Int32) from nI_ge (a := 8) (by omega) (by omega)), if_pos (show (7 : Int32) < nI (e - s) from nI_lt (a := 7) (by omega) (by omega))]
    rw [if_neg z] at q
    exact q
end MD

/-! the reference's cut, but for its loop -/
/-- the words of the class and their keys -/
def x_W (W : Nat → Int32) (K : Nat → Int64) : Prop := (∀ w, w < 17 → ∃ l, 1 ≤ l ∧ l ≤ 7 ∧ (∀ i, i < l → x_lt (W (8 * w + i)) = true) ∧ (∀ i, l ≤ i → i < 8 → W (8 * w + i) = 32) ∧ K w = lN (x_key W (8 * w) l)) ∧ ∀ w w', w < 17 → w' < 17 → K w = K w' → w = w'
theorem x_27 {k l : Nat} (h : k < 27 ^ l) (hl : l ≤ 8) : k < 2 ^ 63 := by
  have : 27 ^ l ≤ 27 ^ 8 := Nat.pow_le_pow_right (by omega) hl
  have e : (27 : Nat) ^ 8 < 2 ^ 63 := by decide
  omega
theorem x_isw_key {W B : Nat → Int32} {K : Nat → Int64} (hW : x_W W K) {s L w : Nat} (hw : w < 17) (hL : L ≤ 8) (hB : ∀ i, i < L → x_lt (B (s + i)) = true) : x_isw W B s (s + L) w ↔ K w = lN (x_key B s L) := by
  obtain ⟨l, l1, l2, l3, l4, l5⟩ := hW.1 w hw
  have h32 : x_lt 32 = false := by decide
  constructor
  · intro h
    have hi := (x_isb_iff W B s (s + L) w 8 0).mp h
    have hLl : L = l := by
      rcases Nat.lt_trichotomy L l with q | q | q
      · have z := hi L (by omega) (by omega)
        rw [if_neg (by omega)] at z
        have z2 := l3 L q
        rw [z, h32] at z2
        exact absurd z2 (by decide)
      · exact q
      · have z := hi l (by omega) (by omega)
        rw [if_pos (by omega), l4 l (Nat.le_refl _) (by omega)] at z
        have z2 := hB l q
        rw [← z, h32] at z2
        exact absurd z2 (by decide)
    subst hLl
    rw [l5]
    congr 1
    exact x_key_same L (fun i hi2 => by
      have z := hi i (by omega) (by omega)
      rwa [if_pos (by omega)] at z)
  · intro h
    rw [l5] at h
    have e := (pk_lEQ (x_27 (x_key_lt l l3) (by omega)) (x_27 (x_key_lt L hB) hL)).mp h
    obtain ⟨e1, e2⟩ := x_key_inj l L l3 hB e
    subst e1
    refine (x_isb_iff W B s (s + l) w 8 0).mpr (fun i h1 h2 => ?_)
    by_cases q : i < l
    · rw [if_pos (by omega)]
      exact e2 i q
    · rw [if_neg (by omega)]
      exact l4 i (by omega) (by omega)
/-- a kind of the class, as the reference numbers it -/
def m_kd (k : Int32) : Int32 := if k = 0 then 0 else if k = 1 then 3 else if k = 2 then 1 else if k = 3 then 2 else if k = 59 then 4 else if k = 61 then 5 else if k = 40 then 6 else if k = 41 then 7 else if k = 43 then 8 else if k = 45 then 9 else if k = 42 then 10 else if k = 47 then 15 else if k = 60 then 13 else k - 108
theorem m_kd_w : ∀ w, w < 17 → m_kd (128 + nI w) = 20 + nI w ∧ (128 + nI w : Int32) ≠ 2 := by decide +kernel
theorem x_wd_no {W B : Nat → Int32} {s e : Nat} : ∀ k w, (∀ w', w ≤ w' → w' < w + k → ¬ x_isw W B s e w') → x_wd W B s e k w = 2 := by
  intro k
  induction k with
  | zero => intro w _; rfl
  | succ k ih =>
    intro w h
    unfold x_wd
    rw [if_neg (h w (Nat.le_refl _) (by omega))]
    exact ih (w + 1) (fun w' h1 h2 => h w' (by omega) (by omega))
/-- the state of the reference while it cuts -/
def x_st (n : Nat) (B : Nat → Int32) (I : am_I) : Prop := I 68 4 = nI n ∧ ∀ j, j < n → I 70 j = B j
section MC
variable {n : Nat} {B : Nat → Int32} (d : Nat)
theorem s_m_byte {I : am_I} (J : am_J) (hn : n ≤ 2000) (h : x_st n B I) {j : Nat} (hj : j < 4000) : f_m_byteAt_0 d (nI j) I J = some (some (.int (if n ≤ j then 0 else B j &&& 255)), I, J) := by
  refine b_m_byteAt_0 d _ I J _ ?_
  rw [h.1]
  by_cases q : n ≤ j
  · rw [if_pos (nI_le q (by omega)), if_pos q]
  · rw [if_neg (nI_ge (by omega) (by omega)), if_neg q, am_at_n (by omega) (by omega), h.2 j (by omega)]
theorem s_m_isLetter (I : am_I) (J : am_J) (x : Int32) : f_m_isLetter_0 d x I J = some (some (.int (am_tf (x_lt x = true))), I, J) := by
  refine b_m_isLetter_0 d x I J _ ?_
  rw [am_b01_0, am_b01_1]
  by_cases h1 : x < 97
  · rw [if_pos h1, am_tf_f (P := x_lt x = true) (fun q => Int32.not_le.mpr h1 (x_and.mp q).1)]
  · rw [if_neg h1]
    by_cases h2 : 122 < x
    · rw [if_pos h2, am_tf_f (P := x_lt x = true) (fun q => Int32.not_le.mpr h2 (x_and.mp q).2)]
    · rw [if_neg h2, am_tf_t (P := x_lt x = true) (x_and.mpr ⟨Int32.not_lt.mp h1, Int32.not_lt.mp h2⟩)]
theorem s_m_isDigit (I : am_I) (J : am_J) (x : Int32) : f_m_isDigit_0 d x I J = some (some (.int (am_tf (x_dg x = true))), I, J) := by
  refine b_m_isDigit_0 d x I J _ ?_
  rw [am_b01_0, am_b01_1]
  by_cases h1 : x < 48
  · rw [if_pos h1, am_tf_f (P := x_dg x = true) (fun q => Int32.not_le.mpr h1 (x_and.mp q).1)]
  · rw [if_neg h1]
    by_cases h2 : 57 < x
    · rw [if_pos h2, am_tf_f (P := x_dg x = true) (fun q => Int32.not_le.mpr h2 (x_and.mp q).2)]
    · rw [if_neg h2, am_tf_t (P := x_dg x = true) (x_and.mpr ⟨Int32.not_lt.mp h1, Int32.not_lt.mp h2⟩)]
/-- a token written -/
def x_put (I : am_I) (i : Nat) (a b c : Int32) : am_I := am_upd (am_upd (am_upd (am_upd I 71 i a) 72 i b) 73 i c) 68 10 (nI (i + 1))
theorem s_m_token {I : am_I} {J : am_J} {i : Nat} (hi : i ≤ 402) (h : I 68 10 = nI i) (a b c : Int32) (y : Int64) : f_m_token_0 d a b c y I J = some (none, x_put I i a b c, am_updJ J 74 i y) := by
  refine b_m_token_0 d a b c y I J _ ?_
  rw [h, am_at_n (by omega) (by omega), am_uc (show 68 ≠ 71 by decide), h, am_at_n (by omega) (by omega), am_uc (show 68 ≠ 72 by decide), am_uc (show 68 ≠ 71 by decide), h, am_at_n (by omega) (by omega), am_uc (show 68 ≠ 73 by decide), am_uc (show 68 ≠ 72 by decide), am_uc (show 68 ≠ 71 by decide), h, am_at_n (by omega) (by omega), nI_1]
  rfl
/-- blanks are passed over -/
theorem s_m_skip {I : am_I} {J : am_J} (hn : n ≤ 2000) (hB : ∀ j, j < n → (B j).toInt8.toInt32 = B j) (h : x_st n B I) {i : Nat} (hi : i ≤ 400) (hI : I 68 10 = nI i) (o : Option Value × am_I × am_J) : ∀ k j, j + k = n → f_m_cut_7 d (nI (x_run x_bl B k j)) I J = some o → f_m_cut_7 d (nI j) I J = some o := by
  intro k
  induction k with
  | zero => intro j hj q; exact q
  | succ k ih =>
    intro j hj q
    unfold x_run at q
    by_cases hb : x_bl (B j) = true
    · rw [if_pos hb] at q
      have q2 := ih (j + 1) (by omega) q
      refine b_m_cut_7 d (nI j) I J _ ?_
      rw [hI, if_neg (show ¬ (400 : Int32) < nI i from nI_nlt (a := 400) (by omega) (by omega)), s_m_byte d J hn h (by omega), am_bi_i, if_neg (show ¬ n ≤ j by omega), h.1, if_pos (nI_lt (show j < n by omega) (by omega)), nI_1]
      have hs := hB j (by omega)
      unfold x_bl at hb
      by_cases h1 : B j = 9
      · rw [if_pos ((x_u_eq hs (by decide) (by decide)).mpr h1)]; exact q2
      rw [if_neg (fun z => h1 ((x_u_eq hs (by decide) (by decide)).mp z))]
      by_cases h2 : B j = 10
      · rw [if_pos ((x_u_eq hs (by decide) (by decide)).mpr h2)]; exact q2
      rw [if_neg (fun z => h2 ((x_u_eq hs (by decide) (by decide)).mp z))]
      by_cases h3 : B j = 13
      · rw [if_pos ((x_u_eq hs (by decide) (by decide)).mpr h3)]; exact q2
      rw [if_neg (fun z => h3 ((x_u_eq hs (by decide) (by decide)).mp z))]
      by_cases h4 : B j = 32
      · rw [if_pos ((x_u_eq hs (by decide) (by decide)).mpr h4)]; exact q2
      rw [decide_eq_false h1, decide_eq_false h2, decide_eq_false h3, decide_eq_false h4] at hb
      exact absurd hb (by decide)
    · rw [if_neg hb] at q
      exact q
theorem s_m_word {J : am_J} {W : Nat → Int32} (hW : x_W W (J 75)) {s L : Nat} (hL : L ≤ 8) (hB : ∀ i, i < L → x_lt (B (s + i)) = true) {I : am_I} (o : Option Value × am_I × am_J) : ∀ k w a, w + k = 17 → am_bv (f_m_token_0 d (if x_wd W B s (s + L) k w = 2 then a else m_kd (x_wd W B s (s + L) k w)) (nI s) 0 (lN (x_key B s L)) I J) (fun I1 J2 => f_m_cut_7 d (nI s + nI L) I1 J2) = some o → f_m_cut_146 d (nI s) (nI L) (lN (x_key B s L)) a (nI w) I J = some o := by
  intro k
  induction k with
  | zero =>
    intro w a hw q
    have : w = 17 := by omega
    subst this
    refine b_m_cut_146 d _ _ _ _ _ I J _ ?_
    rw [if_pos (show (17 : Int32) ≤ nI 17 by decide)]
    unfold x_wd at q
    rw [if_pos rfl] at q
    exact q
  | succ k ih =>
    intro w a hw q
    refine b_m_cut_146 d _ _ _ _ _ I J _ ?_
    rw [if_neg (show ¬ (17 : Int32) ≤ nI w from nI_ge (b := 17) (by omega) (by omega)), am_at_n (by omega) (by omega), nI_1]
    unfold x_wd at q
    by_cases h : x_isw W B s (s + L) w
    · have hk := (x_isw_key hW (by omega) hL hB).mp h
      rw [if_pos ((lg_cmp_eq _ _).mpr hk)]
      refine ih (w + 1) _ (by omega) ?_
      rw [x_wd_no k (w + 1) (fun w' h1 h2 z => by
        have := hW.2 w w' (by omega) (by omega) (hk.trans ((x_isw_key hW (by omega) hL hB).mp z).symm)
        omega), if_pos rfl]
      rw [if_pos h, if_neg (m_kd_w w (by omega)).2, (m_kd_w w (by omega)).1] at q
      exact q
    · rw [if_neg (fun z => h ((x_isw_key hW (by omega) hL hB).mpr ((lg_cmp_eq _ _).mp z)))]
      rw [if_neg h] at q
      exact ih (w + 1) a (by omega) q
end MC

/-! the things that a tape is made of -/
def x_lt (x : Int32) : Bool := decide (97 ≤ x) && decide (x ≤ 122)
def x_dg (x : Int32) : Bool := decide (48 ≤ x) && decide (x ≤ 57)
def x_bl (x : Int32) : Bool := decide (x = 9) || (decide (x = 10) || (decide (x = 13) || decide (x = 32)))
def x_sg (x : Int32) : Bool := decide (x = 59) || (decide (x = 61) || (decide (x = 43) || (decide (x = 45) || (decide (x = 42) || (decide (x = 47) || (decide (x = 60) || (decide (x = 40) || decide (x = 41))))))))
def x_run (P : Int32 → Bool) (B : Nat → Int32) : Nat → Nat → Nat
  | 0, j => j
  | k + 1, j => if P (B j) then x_run P B k (j + 1) else j
def x_end (B : Nat → Int32) (n s : Nat) : Nat := if x_lt (B s) then max (x_run x_lt B (n - s) s) (s + 1) else max (x_run x_dg B (n - s) s) (s + 1)
/-- the word w stands from s to e -/
def x_isb (W B : Nat → Int32) (s e w : Nat) : Nat → Nat → Bool
  | 0, _ => true
  | k + 1, j => decide (W (8 * w + j) = (if s + j < e then B (s + j) else 32)) && x_isb W B s e w k (j + 1)
abbrev x_isw (W B : Nat → Int32) (s e w : Nat) : Prop := x_isb W B s e w 8 0 = true
theorem x_isb_iff (W B : Nat → Int32) (s e w : Nat) : ∀ k j, x_isb W B s e w k j = true ↔ ∀ i, j ≤ i → i < j + k → W (8 * w + i) = (if s + i < e then B (s + i) else 32) := by
  intro k
  induction k with
  | zero => intro j; exact ⟨fun _ i h1 h2 => absurd h2 (by omega), fun _ => rfl⟩
  | succ k ih =>
    intro j
    unfold x_isb
    rw [Bool.and_eq_true, decide_eq_true_iff, ih (j + 1)]
    constructor
    · intro ⟨h1, h2⟩ i z1 z2
      by_cases hi : i = j
      · subst hi; exact h1
      · exact h2 i (by omega) (by omega)
    · intro h
      exact ⟨h j (Nat.le_refl _) (by omega), fun i z1 z2 => h i (by omega) (by omega)⟩
def x_wd (W B : Nat → Int32) (s e : Nat) : Nat → Nat → Int32
  | 0, _ => 2
  | f + 1, w => if x_isw W B s e w then 128 + nI w else x_wd W B s e f (w + 1)
def x_kd (W B : Nat → Int32) (s e : Nat) : Int32 := if x_dg (B s) then (if e - s ≤ 4 then 3 else 1) else if x_lt (B s) then (if e - s ≤ 8 then x_wd W B s e 17 0 else 1) else if x_sg (B s) then B s else 1
def x_val (B : Nat → Int32) : Nat → Nat → Int32 → Int32
  | 0, _, a => a
  | k + 1, j, a => x_val B k (j + 1) (a * 10 + B j - 48)
def x_pos (B : Nat → Int32) (n : Nat) : Nat → Nat
  | 0 => x_run x_bl B n 0
  | i + 1 => x_run x_bl B (n - x_end B n (x_pos B n i)) (x_end B n (x_pos B n i))
theorem x_run_ge (P : Int32 → Bool) (B : Nat → Int32) : ∀ k j, j ≤ x_run P B k j ∧ x_run P B k j ≤ j + k := by
  intro k
  induction k with
  | zero => intro j; exact ⟨Nat.le_refl _, Nat.le_refl _⟩
  | succ k ih =>
    intro j
    unfold x_run
    by_cases h : P (B j) = true
    · rw [if_pos h]
      have := ih (j + 1)
      omega
    · rw [if_neg h]
      omega
theorem x_end_ge (B : Nat → Int32) {n s : Nat} (h : s < n) : s + 1 ≤ x_end B n s ∧ x_end B n s ≤ n := by
  have h1 := x_run_ge x_lt B (n - s) s
  have h2 := x_run_ge x_dg B (n - s) s
  unfold x_end
  by_cases q : x_lt (B s) = true
  · rw [if_pos q]; omega
  · rw [if_neg q]; omega
theorem x_and {P Q : Prop} [Decidable P] [Decidable Q] : ((decide P && decide Q) = true) ↔ (P ∧ Q) := by
  rw [Bool.and_eq_true, decide_eq_true_iff, decide_eq_true_iff]
section LX
variable (d : Nat) (I : am_I) (J : am_J)
theorem s_isLetter (x : Int32) : f_tape_isLetter_0 d x I J = some (some (.int (am_tf (x_lt x = true))), I, J) := by
  refine b_tape_isLetter_0 d x I J _ ?_
  rw [am_b01_0, am_b01_1]
  by_cases h1 : x < 97
  · rw [if_pos h1, am_tf_f (P := x_lt x = true) (fun q => Int32.not_le.mpr h1 (x_and.mp q).1)]
  · rw [if_neg h1]
    by_cases h2 : 122 < x
    · rw [if_pos h2, am_tf_f (P := x_lt x = true) (fun q => Int32.not_le.mpr h2 (x_and.mp q).2)]
    · rw [if_neg h2, am_tf_t (P := x_lt x = true) (x_and.mpr ⟨Int32.not_lt.mp h1, Int32.not_lt.mp h2⟩)]
theorem s_isDigit (x : Int32) : f_tape_isDigit_0 d x I J = some (some (.int (am_tf (x_dg x = true))), I, J) := by
  refine b_tape_isDigit_0 d x I J _ ?_
  rw [am_b01_0, am_b01_1]
  by_cases h1 : x < 48
  · rw [if_pos h1, am_tf_f (P := x_dg x = true) (fun q => Int32.not_le.mpr h1 (x_and.mp q).1)]
  · rw [if_neg h1]
    by_cases h2 : 57 < x
    · rw [if_pos h2, am_tf_f (P := x_dg x = true) (fun q => Int32.not_le.mpr h2 (x_and.mp q).2)]
    · rw [if_neg h2, am_tf_t (P := x_dg x = true) (x_and.mpr ⟨Int32.not_lt.mp h1, Int32.not_lt.mp h2⟩)]
theorem s_isBlank (x : Int32) : f_tape_isBlank_0 d x I J = some (some (.int (am_tf (x_bl x = true))), I, J) := by
  refine b_tape_isBlank_0 d x I J _ ?_
  rw [am_b01_0, am_b01_1]
  unfold x_bl
  by_cases h1 : x = 9
  · rw [if_pos h1, decide_eq_true h1]; rfl
  rw [if_neg h1, decide_eq_false h1, Bool.false_or]
  by_cases h2 : x = 10
  · rw [if_pos h2, decide_eq_true h2]; rfl
  rw [if_neg h2, decide_eq_false h2, Bool.false_or]
  by_cases h3 : x = 13
  · rw [if_pos h3, decide_eq_true h3]; rfl
  rw [if_neg h3, decide_eq_false h3, Bool.false_or]
  by_cases h4 : x = 32
  · rw [if_pos h4, decide_eq_true h4]; rfl
  rw [if_neg h4, decide_eq_false h4]; rfl
theorem s_isSign (x : Int32) : f_tape_isSign_0 d x I J = some (some (.int (am_tf (x_sg x = true))), I, J) := by
  refine b_tape_isSign_0 d x I J _ ?_
  rw [am_b01_0, am_b01_1]
  unfold x_sg
  by_cases h1 : x = 59
  · rw [if_pos h1, decide_eq_true h1]; rfl
  rw [if_neg h1, decide_eq_false h1, Bool.false_or]
  by_cases h2 : x = 61
  · rw [if_pos h2, decide_eq_true h2]; rfl
  rw [if_neg h2, decide_eq_false h2, Bool.false_or]
  by_cases h3 : x = 43
  · rw [if_pos h3, decide_eq_true h3]; rfl
  rw [if_neg h3, decide_eq_false h3, Bool.false_or]
  by_cases h4 : x = 45
  · rw [if_pos h4, decide_eq_true h4]; rfl
  rw [if_neg h4, decide_eq_false h4, Bool.false_or]
  by_cases h5 : x = 42
  · rw [if_pos h5, decide_eq_true h5]; rfl
  rw [if_neg h5, decide_eq_false h5, Bool.false_or]
  by_cases h6 : x = 47
  · rw [if_pos h6, decide_eq_true h6]; rfl
  rw [if_neg h6, decide_eq_false h6, Bool.false_or]
  by_cases h7 : x = 60
  · rw [if_pos h7, decide_eq_true h7]; rfl
  rw [if_neg h7, decide_eq_false h7, Bool.false_or]
  by_cases h8 : x = 40
  · rw [if_pos h8, decide_eq_true h8]; rfl
  rw [if_neg h8, decide_eq_false h8, Bool.false_or]
  by_cases h9 : x = 41
  · rw [if_pos h9, decide_eq_true h9]; rfl
  rw [if_neg h9, decide_eq_false h9]; rfl
theorem s_skip (n : Nat) (hn : n ≤ 2000) (h6 : I 6 1 = nI n) : ∀ k j, j + k = n → f_tape_skipBlanks_2 d (nI j) I J = some (some (.int (nI (x_run x_bl (I 7) k j))), I, J) := by
  intro k
  induction k with
  | zero =>
    intro j hj
    refine b_tape_skipBlanks_2 d _ I J _ ?_
    rw [h6, if_pos (nI_le (by omega) (by omega))]
    rfl
  | succ k ih =>
    intro j hj
    refine b_tape_skipBlanks_2 d _ I J _ ?_
    rw [h6, if_neg (nI_ge (by omega) (by omega)), am_at_n (by omega) (by omega), s_isBlank, am_bi_i]
    unfold x_run
    by_cases q : x_bl (I 7 j) = true
    · rw [if_neg (show ¬ am_tf (x_bl (I 7 j) = true) = 0 from fun z => am_tf0.mp z q), if_pos q, nI_1]
      exact ih (j + 1) (by omega)
    · rw [if_pos (am_tf0.mpr q), if_neg q]
theorem s_skip0 (n : Nat) (hn : n ≤ 2000) (h6 : I 6 1 = nI n) {j : Nat} (hj : j ≤ n) : f_tape_skipBlanks_0 d (nI j) I J = some (some (.int (nI (x_run x_bl (I 7) (n - j) j))), I, J) := b_tape_skipBlanks_0 d _ I J _ (s_skip d I J n hn h6 (n - j) j (by omega))
theorem x_mx {a b : Nat} (ha : a < 2 ^ 31) (hb : b < 2 ^ 31) : am_mx (nI a) (nI b) = nI (max a b) := by
  rw [am_mx_eq]
  unfold am_mxC
  by_cases h : b ≤ a
  · rw [Nat.max_eq_left h]
    by_cases h2 : a = b
    · subst h2; simp
    · rw [if_neg (nI_nlt h (by omega))]
  · rw [if_pos (nI_lt (by omega) (by omega)), Nat.max_eq_right (by omega)]
theorem s_end15 (n : Nat) (hn : n ≤ 2000) (h6 : I 6 1 = nI n) (s : Nat) : ∀ k j, j + k = n → s + 1 ≤ 2000 → f_tape_endOfThing_15 d (nI s) (nI j) I J = some (some (.int (nI (max (x_run x_lt (I 7) k j) (s + 1)))), I, J) := by
  intro k
  induction k with
  | zero =>
    intro j hj hs
    refine b_tape_endOfThing_15 d _ _ I J _ ?_
    rw [h6, if_pos (nI_le (by omega) (by omega)), nI_1, x_mx (by omega) (by omega)]
    rfl
  | succ k ih =>
    intro j hj hs
    refine b_tape_endOfThing_15 d _ _ I J _ ?_
    rw [h6, if_neg (nI_ge (by omega) (by omega)), am_at_n (by omega) (by omega), s_isLetter, am_bi_i]
    unfold x_run
    by_cases q : x_lt (I 7 j) = true
    · rw [if_neg (show ¬ am_tf (x_lt (I 7 j) = true) = 0 from fun z => am_tf0.mp z q), if_pos q, nI_1 j]
      exact ih (j + 1) (by omega) hs
    · rw [if_pos (am_tf0.mpr q), if_neg q, nI_1, x_mx (by omega) (by omega)]
theorem s_end42 (n : Nat) (hn : n ≤ 2000) (h6 : I 6 1 = nI n) (s : Nat) : ∀ k j, j + k = n → s + 1 ≤ 2000 → f_tape_endOfThing_42 d (nI s) (nI j) I J = some (some (.int (nI (max (x_run x_dg (I 7) k j) (s + 1)))), I, J) := by
  intro k
  induction k with
  | zero =>
    intro j hj hs
    refine b_tape_endOfThing_42 d _ _ I J _ ?_
    rw [h6, if_pos (nI_le (by omega) (by omega)), nI_1, x_mx (by omega) (by omega)]
    rfl
  | succ k ih =>
    intro j hj hs
    refine b_tape_endOfThing_42 d _ _ I J _ ?_
    rw [h6, if_neg (nI_ge (by omega) (by omega)), am_at_n (by omega) (by omega), s_isDigit, am_bi_i]
    unfold x_run
    by_cases q : x_dg (I 7 j) = true
    · rw [if_neg (show ¬ am_tf (x_dg (I 7 j) = true) = 0 from fun z => am_tf0.mp z q), if_pos q, nI_1 j]
      exact ih (j + 1) (by omega) hs
    · rw [if_pos (am_tf0.mpr q), if_neg q, nI_1, x_mx (by omega) (by omega)]
theorem s_endOf (n : Nat) (hn : n ≤ 2000) (h6 : I 6 1 = nI n) {s : Nat} (hs : s < n) : f_tape_endOfThing_0 d (nI s) I J = some (some (.int (nI (x_end (I 7) n s))), I, J) := by
  refine b_tape_endOfThing_0 d _ I J _ ?_
  rw [am_at_n (by omega) (by omega), s_isLetter, am_bi_i]
  unfold x_end
  by_cases q : x_lt (I 7 s) = true
  · rw [if_neg (show ¬ am_tf (x_lt (I 7 s) = true) = 0 from fun z => am_tf0.mp z q), if_pos q]
    exact s_end15 d I J n hn h6 s (n - s) s (by omega) (by omega)
  · rw [if_pos (am_tf0.mpr q), if_neg q]
    exact s_end42 d I J n hn h6 s (n - s) s (by omega) (by omega)
theorem s_value (n : Nat) (hn : n ≤ 2000) (h6 : I 6 1 = nI n) {e : Nat} (he : e ≤ n) : ∀ k j a, j + k = e → f_tape_valueOfDigits_5 d (nI e) a (nI j) I J = some (some (.int (x_val (I 7) k j a)), I, J) := by
  intro k
  induction k with
  | zero =>
    intro j a hj
    refine b_tape_valueOfDigits_5 d _ _ _ I J _ ?_
    rw [if_pos (nI_le (by omega) (by omega))]
    rfl
  | succ k ih =>
    intro j a hj
    refine b_tape_valueOfDigits_5 d _ _ _ I J _ ?_
    rw [if_neg (nI_ge (by omega) (by omega)), h6, if_neg (nI_ge (by omega) (by omega)), am_at_n (by omega) (by omega), nI_1]
    exact ih (j + 1) _ (by omega)
theorem s_isw (n : Nat) (hn : n ≤ 2000) (h6 : I 6 1 = nI n) {s e w : Nat} (hs : s ≤ 2000) (he : e ≤ n) (hw : w < 17) : ∀ k j, j + k = 8 → f_tape_isWord_3 d (nI w) (nI s) (nI e) (nI j) I J = some (some (.int (am_tf (x_isb (I 4) (I 7) s e w k j = true))), I, J) := by
  intro k
  induction k with
  | zero =>
    intro j hj
    have : j = 8 := by omega
    subst this
    refine b_tape_isWord_3 d _ _ _ _ I J _ ?_
    rw [if_pos (show (8 : Int32) ≤ nI 8 by decide), am_b01_1]
    rfl
  | succ k ih =>
    intro j hj
    have hj8 : j < 8 := by omega
    refine b_tape_isWord_3 d _ _ _ _ I J _ ?_
    rw [if_neg (show ¬ (8 : Int32) ≤ nI j from nI_ge (b := 8) (by omega) (by omega)), am_b01_0, nI_add, show (8 : Int32) = nI 8 from rfl, pk_mul, nI_add, Nat.mul_comm w 8, nI_1, am_at_n (by omega) (by omega)]
    unfold x_isb
    by_cases h1 : s + j < e
    · rw [if_neg (nI_ge h1 (by omega)), am_at_n (by omega) (by omega), am_at_n (by omega) (by omega), if_pos h1]
      by_cases h2 : I 4 (8 * w + j) = I 7 (s + j)
      · rw [if_pos h2, ih (j + 1) (by omega), decide_eq_true h2, Bool.true_and]
      · rw [if_neg h2, decide_eq_false h2]
        rfl
    · rw [if_pos (nI_le (by omega) (by omega)), if_neg h1]
      by_cases h2 : I 4 (8 * w + j) = 32
      · rw [if_pos h2, ih (j + 1) (by omega), decide_eq_true h2, Bool.true_and]
      · rw [if_neg h2, decide_eq_false h2]
        rfl
theorem s_kind63 (n : Nat) (hn : n ≤ 2000) (h6 : I 6 1 = nI n) {s e : Nat} (hs : s ≤ 2000) (he : e ≤ n) : ∀ k w, w + k = 17 → f_tape_kindOfThing_63 d (nI s) (nI e) (nI w) I J = some (some (.int (x_wd (I 4) (I 7) s e k w)), I, J) := by
  intro k
  induction k with
  | zero =>
    intro w hw
    have : w = 17 := by omega
    subst this
    refine b_tape_kindOfThing_63 d _ _ _ I J _ ?_
    rw [if_pos (show (17 : Int32) ≤ nI 17 by decide)]
    rfl
  | succ k ih =>
    intro w hw
    refine b_tape_kindOfThing_63 d _ _ _ I J _ ?_
    rw [if_neg (show ¬ (17 : Int32) ≤ nI w from nI_ge (b := 17) (by omega) (by omega)), b_tape_isWord_0 d _ _ _ I J _ (s_isw d I J n hn h6 hs he (by omega) 8 0 rfl), am_bi_i]
    unfold x_wd
    by_cases q : x_isw (I 4) (I 7) s e w
    · rw [if_neg (show ¬ am_tf (x_isb (I 4) (I 7) s e w 8 0 = true) = 0 from fun z => am_tf0.mp z q), if_pos q]
    · rw [if_pos (am_tf0.mpr q), if_neg q, nI_1]
      exact ih (w + 1) (by omega)
theorem s_kindOf (n : Nat) (hn : n ≤ 2000) (h6 : I 6 1 = nI n) {s e : Nat} (hs : s < n) (hse : s ≤ e) (he : e ≤ n) : f_tape_kindOfThing_0 d (nI s) (nI e) I J = some (some (.int (x_kd (I 4) (I 7) s e)), I, J) := by
  refine b_tape_kindOfThing_0 d _ _ I J _ ?_
  have es : nI e - nI s = nI (e - s) := pk_sub hse
  rw [am_at_n (by omega) (by omega), s_isDigit, am_bi_i, es]
  unfold x_kd
  by_cases q : x_dg (I 7 s) = true
  · rw [if_neg (show ¬ am_tf (x_dg (I 7 s) = true) = 0 from fun z => am_tf0.mp z q), if_pos q]
    by_cases h : e - s ≤ 4
    · rw [if_pos (show nI (e - s) ≤ (4 : Int32) from nI_le (b := 4) h (by omega)), if_pos h]
    · rw [if_neg (show ¬ nI (e - s) ≤ (4 : Int32) from nI_ge (a := 4) (by omega) (by omega)), if_neg h]
  · rw [if_pos (am_tf0.mpr q), if_neg q, s_isLetter, am_bi_i]
    by_cases q2 : x_lt (I 7 s) = true
    · rw [if_neg (show ¬ am_tf (x_lt (I 7 s) = true) = 0 from fun z => am_tf0.mp z q2), if_pos q2]
      by_cases h : e - s ≤ 8
      · rw [if_pos (show nI (e - s) ≤ (8 : Int32) from nI_le (b := 8) h (by omega)), if_pos h]
        exact s_kind63 d I J n hn h6 (by omega) he 17 0 rfl
      · rw [if_neg (show ¬ nI (e - s) ≤ (8 : Int32) from nI_ge (a := 8) (by omega) (by omega)), if_neg h]
    · rw [if_pos (am_tf0.mpr q2), if_neg q2, s_isSign, am_bi_i]
      by_cases q3 : x_sg (I 7 s) = true
      · rw [if_neg (show ¬ am_tf (x_sg (I 7 s) = true) = 0 from fun z => am_tf0.mp z q3), if_pos q3]
      · rw [if_pos (am_tf0.mpr q3), if_neg q3]
end LX

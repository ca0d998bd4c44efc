/-! the reference's bytes and keys -/
theorem x_by : ∀ k : Fin 256, (0 ≤ (Int8.ofBitVec ⟨k⟩).toInt32 ∧ (Int8.ofBitVec ⟨k⟩).toInt32 &&& 255 = (Int8.ofBitVec ⟨k⟩).toInt32) ∨ ((Int8.ofBitVec ⟨k⟩).toInt32 < 0 ∧ 128 ≤ (Int8.ofBitVec ⟨k⟩).toInt32 &&& 255) := by decide +kernel
theorem x_byte {x : Int32} (h : x.toInt8.toInt32 = x) : (0 ≤ x ∧ x &&& 255 = x) ∨ (x < 0 ∧ 128 ≤ x &&& 255) := by
  have q := x_by x.toInt8.toBitVec.toFin
  rw [show (Int8.ofBitVec ⟨x.toInt8.toBitVec.toFin⟩) = x.toInt8 from rfl, h] at q
  exact q
theorem x_u_lt {x : Int32} (h : x.toInt8.toInt32 = x) : x_lt (x &&& 255) = x_lt x := by
  rcases x_byte h with ⟨_, q⟩ | ⟨q1, q2⟩
  · rw [q]
  · unfold x_lt
    rw [decide_eq_false (show ¬ (x &&& 255) ≤ 122 from fun z => Int32.not_lt.mpr (Int32.le_trans q2 z) (by decide)), decide_eq_false (show ¬ (97 : Int32) ≤ x from fun z => Int32.not_lt.mpr (Int32.le_trans (show (0 : Int32) ≤ 97 by decide) z) q1), Bool.and_false, Bool.false_and]
theorem x_u_dg {x : Int32} (h : x.toInt8.toInt32 = x) : x_dg (x &&& 255) = x_dg x := by
  rcases x_byte h with ⟨_, q⟩ | ⟨q1, q2⟩
  · rw [q]
  · unfold x_dg
    rw [decide_eq_false (show ¬ (x &&& 255) ≤ 57 from fun z => Int32.not_lt.mpr (Int32.le_trans q2 z) (by decide)), decide_eq_false (show ¬ (48 : Int32) ≤ x from fun z => Int32.not_lt.mpr (Int32.le_trans (show (0 : Int32) ≤ 48 by decide) z) q1), Bool.and_false, Bool.false_and]
/-- a byte under 128 is itself -/
theorem x_u_eq {x a : Int32} (h : x.toInt8.toInt32 = x) (ha : 0 ≤ a) (h2 : a < 128) : (x &&& 255 = a) ↔ x = a := by
  rcases x_byte h with ⟨_, q⟩ | ⟨q1, q2⟩
  · rw [q]
  · constructor
    · intro z
      rw [z] at q2
      exact absurd h2 (Int32.not_lt.mpr q2)
    · intro z
      rw [z] at q1
      exact absurd q1 (Int32.not_lt.mpr ha)
theorem x_lt_u {x : Int32} (h : x.toInt8.toInt32 = x) (q : x_lt x = true ∨ x_dg x = true) : x &&& 255 = x := by
  rcases x_byte h with ⟨_, z⟩ | ⟨q1, _⟩
  · exact z
  · rcases q with q | q
    · exact absurd q1 (Int32.not_lt.mpr (Int32.le_trans (show (0 : Int32) ≤ 97 by decide) (x_and.mp q).1))
    · exact absurd q1 (Int32.not_lt.mpr (Int32.le_trans (show (0 : Int32) ≤ 48 by decide) (x_and.mp q).1))
/-- the key of the letters from s on -/
def x_key (B : Nat → Int32) (s : Nat) : Nat → Nat
  | 0 => 0
  | l + 1 => 27 * x_key B s l + ((B (s + l)).toInt.toNat - 96)
theorem x_letter {x : Int32} (h : x_lt x = true) : ∃ a, a < 123 ∧ 97 ≤ a ∧ x = nI a ∧ x.toInt.toNat = a := by
  obtain ⟨h1, h2⟩ := x_and.mp h
  obtain ⟨a, ha, rfl⟩ := nI_of2 (x := x) (M := 122) (n := 122) (by decide) (Int32.not_lt.mpr (Int32.le_trans (show (0 : Int32) ≤ 97 by decide) h1)) h2
  have t := nI_toInt (n := a) (by omega)
  refine ⟨a, by omega, ?_, rfl, by rw [t]; rfl⟩
  exact (nI_leI (a := 97) (b := a) (by omega) (by omega)).mp h1
theorem x_key_lt {B : Nat → Int32} {s : Nat} : ∀ l, (∀ i, i < l → x_lt (B (s + i)) = true) → x_key B s l < 27 ^ l := by
  intro l
  induction l with
  | zero => intro _; exact Nat.one_pos
  | succ l ih =>
    intro h
    have := ih (fun i hi => h i (by omega))
    obtain ⟨a, h1, h2, h3, h4⟩ := x_letter (h l (by omega))
    unfold x_key
    rw [h4, Nat.pow_succ]
    omega
theorem x_key_inj {B B' : Nat → Int32} {s s' : Nat} : ∀ l l', (∀ i, i < l → x_lt (B (s + i)) = true) → (∀ i, i < l' → x_lt (B' (s' + i)) = true) → x_key B s l = x_key B' s' l' → l = l' ∧ ∀ i, i < l → B (s + i) = B' (s' + i) := by
  intro l
  induction l with
  | zero =>
    intro l' h h' e
    cases l' with
    | zero => exact ⟨rfl, fun i hi => absurd hi (by omega)⟩
    | succ l' =>
      obtain ⟨a, h1, h2, h3, h4⟩ := x_letter (h' l' (by omega))
      unfold x_key at e
      rw [h4] at e
      omega
  | succ l ih =>
    intro l' h h' e
    obtain ⟨a, h1, h2, h3, h4⟩ := x_letter (h l (by omega))
    cases l' with
    | zero =>
      unfold x_key at e
      rw [h4] at e
      omega
    | succ l' =>
      obtain ⟨a', h1', h2', h3', h4'⟩ := x_letter (h' l' (by omega))
      unfold x_key at e
      rw [h4, h4'] at e
      obtain ⟨q1, q2⟩ := ih l' (fun i hi => h i (by omega)) (fun i hi => h' i (by omega)) (by omega)
      refine ⟨by omega, fun i hi => ?_⟩
      by_cases z : i = l
      · subst z
        rw [h3, show s' + i = s' + l' by omega, h3']
        congr 1
        omega
      · exact q2 i (by omega)
theorem x_key_same {B B' : Nat → Int32} {s s' : Nat} : ∀ l, (∀ i, i < l → B (s + i) = B' (s' + i)) → x_key B s l = x_key B' s' l := by
  intro l
  induction l with
  | zero => intro _; rfl
  | succ l ih =>
    intro h
    unfold x_key
    rw [ih (fun i hi => h i (by omega)), h l (by omega)]
/-- a run is over letters -/
theorem x_run_in (P : Int32 → Bool) (B : Nat → Int32) : ∀ k j i, j ≤ i → i < x_run P B k j → P (B i) = true := by
  intro k
  induction k with
  | zero => intro j i h1 h2; exact absurd h2 (by show ¬ i < j; omega)
  | succ k ih =>
    intro j i h1 h2
    unfold x_run at h2
    by_cases q : P (B j) = true
    · rw [if_pos q] at h2
      by_cases z : i = j
      · rw [z]; exact q
      · exact ih (j + 1) i (by omega) h2
    · rw [if_neg q] at h2
      omega
theorem x_run_out (P : Int32 → Bool) (B : Nat → Int32) : ∀ k j, x_run P B k j < j + k → P (B (x_run P B k j)) = false := by
  intro k
  induction k with
  | zero => intro j h; exact absurd h (by show ¬ j < j + 0; omega)
  | succ k ih =>
    intro j h
    unfold x_run at h ⊢
    by_cases q : P (B j) = true
    · rw [if_pos q] at h ⊢
      exact ih (j + 1) (by omega)
    · rw [if_neg q]
      exact Bool.eq_false_iff.mpr q
/-- where a run of letters that starts at s ends -/
theorem x_end_lt {B : Nat → Int32} {n s : Nat} (hs : s < n) (h : x_lt (B s) = true) : (∀ i, s ≤ i → i < x_end B n s → x_lt (B i) = true) ∧ (x_end B n s < n → x_lt (B (x_end B n s)) = false) := by
  have hg := x_run_ge x_lt B (n - s) s
  have h1 : s + 1 ≤ x_run x_lt B (n - s) s := by
    rw [show n - s = (n - s - 1) + 1 by omega]
    unfold x_run
    rw [if_pos h]
    exact (x_run_ge x_lt B (n - s - 1) (s + 1)).1
  have e : x_end B n s = x_run x_lt B (n - s) s := by
    unfold x_end
    rw [if_pos h, Nat.max_eq_left h1]
  rw [e]
  exact ⟨fun i z1 z2 => x_run_in x_lt B (n - s) s i z1 z2, fun z => x_run_out x_lt B (n - s) s (by omega)⟩
theorem x_dg_lt {x : Int32} (h : x_dg x = true) : x_lt x = false := by
  unfold x_lt
  have := (x_and.mp h).2
  rw [decide_eq_false (show ¬ (97 : Int32) ≤ x from fun z => absurd (Int32.le_trans z this) (by decide)), Bool.false_and]
theorem x_end_dg {B : Nat → Int32} {n s : Nat} (hs : s < n) (h : x_dg (B s) = true) : (∀ i, s ≤ i → i < x_end B n s → x_dg (B i) = true) ∧ (x_end B n s < n → x_dg (B (x_end B n s)) = false) := by
  have hg := x_run_ge x_dg B (n - s) s
  have h1 : s + 1 ≤ x_run x_dg B (n - s) s := by
    rw [show n - s = (n - s - 1) + 1 by omega]
    unfold x_run
    rw [if_pos h]
    exact (x_run_ge x_dg B (n - s - 1) (s + 1)).1
  have e : x_end B n s = x_run x_dg B (n - s) s := by
    unfold x_end
    rw [x_dg_lt h, if_neg (by decide), Nat.max_eq_left h1]
  rw [e]
  exact ⟨fun i z1 z2 => x_run_in x_dg B (n - s) s i z1 z2, fun z => x_run_out x_dg B (n - s) s (by omega)⟩
theorem x_end_one {B : Nat → Int32} {n s : Nat} (hs : s < n) (h : x_lt (B s) = false) (h2 : x_dg (B s) = false) : x_end B n s = s + 1 := by
  unfold x_end
  rw [h, if_neg (by decide), show n - s = (n - s - 1) + 1 by omega]
  unfold x_run
  rw [h2, if_neg (by decide), Nat.max_eq_right (by omega)]

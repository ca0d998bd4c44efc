/-! names: byte by byte against keys -/
/-- the things i and j are the same text -/
def x_same (B : Nat → Int32) (n i j : Nat) : Prop := x_end B n (x_pos B n i) - x_pos B n i = x_end B n (x_pos B n j) - x_pos B n j ∧ ∀ k, k < x_end B n (x_pos B n i) - x_pos B n i → B (x_pos B n i + k) = B (x_pos B n j + k)
theorem s_same36 (d : Nat) (I : am_I) (J : am_J) {i j a b L : Nat} (hi : i < 402) (hj : j < 402) (h1 : I 10 i = nI a) (h2 : I 10 j = nI b) (ha : a + L ≤ 2000) (hb : b + L ≤ 2000) : ∀ k l, l + k = L → ∃ y, f_tape_areSame_36 d (nI i) (nI j) (nI L) (nI l) I J = some (some (.int y), I, J) ∧ (y = 1 ∨ y = 0) ∧ (y = 1 ↔ ∀ m, l ≤ m → m < L → I 7 (a + m) = I 7 (b + m)) := by
  intro k
  induction k with
  | zero =>
    intro l hl
    have e := b_tape_areSame_36 d (nI i) (nI j) (nI L) (nI l) I J
    rw [if_pos (nI_le (by omega) (by omega)), am_b01_1] at e
    exact ⟨1, e _ rfl, Or.inl rfl, fun _ m q1 q2 => absurd q2 (by omega), fun _ => rfl⟩
  | succ k ih =>
    intro l hl
    have e := b_tape_areSame_36 d (nI i) (nI j) (nI L) (nI l) I J
    rw [if_neg (nI_ge (by omega) (by omega)), am_at_n hi (by omega), h1, nI_add, am_at_n (by omega) (by omega), am_at_n hj (by omega), h2, nI_add, am_at_n (by omega) (by omega), nI_1] at e
    by_cases q : I 7 (a + l) = I 7 (b + l)
    · rw [if_pos q] at e
      obtain ⟨y, y1, y2, y3⟩ := ih (l + 1) (by omega)
      refine ⟨y, e _ y1, y2, y3.trans ⟨fun h m q1 q2 => ?_, fun h m q1 q2 => h m (by omega) q2⟩⟩
      by_cases w : m = l
      · rw [w]; exact q
      · exact h m (by omega) q2
    · rw [if_neg q, am_b01_0] at e
      exact ⟨0, e _ rfl, Or.inr rfl, fun z => absurd z (by decide), fun h => absurd (h l (Nat.le_refl _) (by omega)) q⟩
theorem s_same (d : Nat) (I : am_I) (J : am_J) {n i j a b c e : Nat} (hi : i < 402) (hj : j < 402) (h1 : I 10 i = nI a) (h2 : I 10 j = nI b) (h3 : I 11 i = nI c) (h4 : I 11 j = nI e) (hn : n ≤ 2000) (hac : a ≤ c) (hcn : c ≤ n) (hbe : b ≤ e) (hen : e ≤ n) : ∃ y, f_tape_areSame_0 d (nI i) (nI j) I J = some (some (.int y), I, J) ∧ (y = 1 ∨ y = 0) ∧ (y = 1 ↔ (c - a = e - b ∧ ∀ m, m < c - a → I 7 (a + m) = I 7 (b + m))) := by
  have q := b_tape_areSame_0 d (nI i) (nI j) I J
  rw [am_at_n hi (by omega), am_at_n hi (by omega), am_at_n hj (by omega), am_at_n hj (by omega), h1, h2, h3, h4, pk_sub hac, pk_sub hbe] at q
  by_cases w : c - a = e - b
  · rw [if_pos (by rw [w])] at q
    obtain ⟨y, y1, y2, y3⟩ := s_same36 d I J (L := c - a) hi hj h1 h2 (by omega) (by omega) (c - a) 0 (by omega)
    refine ⟨y, q _ y1, y2, y3.trans ⟨fun h => ⟨w, fun m hm => h m (by omega) hm⟩, fun h m _ hm => h.2 m hm⟩⟩
  · rw [if_neg (fun z => w ((nI_eq (by omega) (by omega)).mp z)), am_b01_0] at q
    exact ⟨0, q _ rfl, Or.inr rfl, fun z => absurd z (by decide), fun z => absurd z.1 w⟩

/-! the board that has the name in hand -/
theorem s_find2 (d : Nat) (I : am_I) (J : am_J) {bs t : Nat} {nm : Nat → Nat} {P : Nat → Prop} (hb : bs ≤ 6) (h5 : I 22 5 = nI bs) (h3 : I 32 3 = nI t) (hn : ∀ b, b < bs → I 33 b = nI (nm b)) (hS : ∀ b, b < bs → ∃ y, f_tape_areSame_0 d (nI (nm b)) (nI t) I J = some (some (.int y), I, J) ∧ (y = 1 ∨ y = 0) ∧ (y = 1 ↔ P b)) : ∀ k b, b + k = bs → ∃ y, f_reader_findName_2 d (nI b) I J = some (some (.int y), I, J) ∧ ((∃ c, b ≤ c ∧ c < bs ∧ y = nI c ∧ P c ∧ ∀ c', b ≤ c' → c' < c → ¬ P c') ∨ (y = -1 ∧ ∀ c, b ≤ c → c < bs → ¬ P c)) := by
  intro k
  induction k with
  | zero =>
    intro b hk
    refine ⟨-1, b_reader_findName_2 d _ I J _ ?_, Or.inr ⟨rfl, fun c h1 h2 => absurd h2 (by omega)⟩⟩
    rw [h5, if_pos (nI_le (by omega) (by omega))]
  | succ k ih =>
    intro b hk
    have e := b_reader_findName_2 d (nI b) I J
    obtain ⟨y, y1, y2, y3⟩ := hS b (by omega)
    rw [h5, if_neg (nI_ge (by omega) (by omega)), if_neg (show ¬ (6 : Int32) ≤ nI b from nI_ge (b := 6) (by omega) (by omega)), am_at_n (by omega) (by omega), hn b (by omega), h3, y1, am_bi_i, nI_1] at e
    rcases y2 with y2 | y2
    · rw [y2, if_neg (by decide)] at e
      exact ⟨_, e _ rfl, Or.inl ⟨b, Nat.le_refl _, by omega, rfl, y3.mp y2, fun c h1 h2 => absurd h2 (by omega)⟩⟩
    · rw [y2, if_pos rfl] at e
      have nP : ¬ P b := fun q => by
        have := y3.mpr q
        rw [y2] at this
        exact absurd this (by decide)
      obtain ⟨v, v1, v2⟩ := ih (b + 1) (by omega)
      refine ⟨v, e _ v1, ?_⟩
      rcases v2 with ⟨c, c1, c2, c3, c4, c5⟩ | ⟨c1, c2⟩
      · refine Or.inl ⟨c, by omega, c2, c3, c4, fun c' z1 z2 => ?_⟩
        by_cases w : c' = b
        · rw [w]; exact nP
        · exact c5 c' (by omega) z2
      · refine Or.inr ⟨c1, fun c z1 z2 => ?_⟩
        by_cases w : c = b
        · rw [w]; exact nP
        · exact c2 c (by omega) z2

/-! the reference's board that has the name -/
theorem s_m_known21 (d : Nat) (I : am_I) (J : am_J) {bs t : Nat} {P : Nat → Prop} (hb : bs ≤ 6) (ht : t ≤ 402) (h5 : I 68 20 = nI bs) (hS : ∀ b, b < bs → (J 76 b = J 74 t ↔ P b)) : ∀ k b, b + k = bs → (∃ c, b ≤ c ∧ c < bs ∧ P c ∧ (∀ c', b ≤ c' → c' < c → ¬ P c') ∧ f_m_known_21 d (nI t) (nI b) I J = some (some (.int (nI c)), I, J)) ∨ ((∀ c, b ≤ c → c < bs → ¬ P c) ∧ ∀ I', f_m_wrong_0 d 4 (nI t) I J = some (none, I', J) → f_m_known_21 d (nI t) (nI b) I J = some (some (.int (-1)), I', J)) := by
  intro k
  induction k with
  | zero =>
    intro b hk
    refine Or.inr ⟨fun c h1 h2 => absurd h2 (by omega), fun I' h => b_m_known_21 d _ _ I J _ ?_⟩
    rw [h5, if_pos (nI_le (by omega) (by omega)), h, am_bv_v]
  | succ k ih =>
    intro b hk
    have e := b_m_known_21 d (nI t) (nI b) I J
    rw [h5, if_neg (nI_ge (by omega) (by omega)), am_at_n (by omega) (by omega), am_at_n (by omega) (by omega), nI_1] at e
    by_cases q : P b
    · rw [if_pos ((lg_cmp_eq _ _).mpr ((hS b (by omega)).mpr q))] at e
      exact Or.inl ⟨b, Nat.le_refl _, by omega, q, fun c h1 h2 => absurd h2 (by omega), e _ rfl⟩
    · rw [if_neg (fun z => q ((hS b (by omega)).mp ((lg_cmp_eq _ _).mp z)))] at e
      rcases ih (b + 1) (by omega) with ⟨c, c1, c2, c3, c4, c5⟩ | ⟨c1, c2⟩
      · refine Or.inl ⟨c, by omega, c2, c3, fun c' z1 z2 => ?_, e _ c5⟩
        by_cases w : c' = b
        · rw [w]; exact q
        · exact c4 c' (by omega) z2
      · refine Or.inr ⟨fun c z1 z2 => ?_, fun I' h => e _ (c2 I' h)⟩
        by_cases w : c = b
        · rw [w]; exact q
        · exact c1 c (by omega) z2

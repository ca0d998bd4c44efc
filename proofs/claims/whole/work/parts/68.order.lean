/-! orders of boards in seats -/
def g_sw (o : Nat → Nat) (i j : Nat) : Nat → Nat := fun k => if k = j then o i else if k = i then o j else o k
def g_rv : Nat → (Nat → Nat) → Nat → Nat → (Nat → Nat)
  | 0, o, _, _ => o
  | f + 1, o, a, b => if b ≤ a then o else g_rv f (g_sw o a b) (a + 1) (b - 1)
def g_fi (o : Nat → Nat) : Nat → Option Nat
  | 0 => none
  | i + 1 => if o i ≤ o (i + 1) then some i else g_fi o i
def g_fj (o : Nat → Nat) (i : Nat) : Nat → Nat
  | 0 => 0
  | j + 1 => if j + 1 ≤ i + 1 then j + 1 else if o i ≤ o (j + 1) then j + 1 else g_fj o i j
def g_nx (n : Nat) (o : Nat → Nat) : Option (Nat → Nat) := match g_fi o (n - 1) with
  | none => none
  | some i => some (g_rv 6 (g_sw o i (g_fj o i (n - 1))) (i + 1) (n - 1))
def g_dg (c k : Nat) : Nat := c / 8 ^ k % 8
def g_en (o : Nat → Nat) : Nat := o 0 + 8 * (o 1 + 8 * (o 2 + 8 * (o 3 + 8 * (o 4 + 8 * o 5))))
theorem g_dg_en (o : Nat → Nat) (h : ∀ k, k < 6 → o k < 8) : ∀ k, k < 6 → g_dg (g_en o) k = o k := by
  have h0 := h 0 (by decide)
  have h1 := h 1 (by decide)
  have h2 := h 2 (by decide)
  have h3 := h 3 (by decide)
  have h4 := h 4 (by decide)
  have h5 := h 5 (by decide)
  intro k hk
  rcases (show k = 0 ∨ k = 1 ∨ k = 2 ∨ k = 3 ∨ k = 4 ∨ k = 5 by omega) with rfl | rfl | rfl | rfl | rfl | rfl <;> (unfold g_dg g_en; simp only [Nat.reducePow]; omega)
def g_nc (n c : Nat) : Option Nat := (g_nx n (g_dg c)).map g_en
/-- all orders from c on are told within so many steps, each an order of the boards below n -/
def g_all (n : Nat) : Nat → Nat → Bool
  | 0, _ => false
  | f + 1, c => (List.range 6).all (fun k => decide (g_dg c k < 6 ∧ (k < n → g_dg c k < n))) && (match g_nc n c with
    | none => true
    | some c' => g_all n f c')
def g_id : Nat := g_en (fun k => k)
set_option maxRecDepth 100000 in
theorem g_all_ok : ∀ n, n < 7 → g_all n 720 g_id = true := by decide +kernel
theorem g_sw_lt {o : Nat → Nat} {M i j : Nat} (h : ∀ k, k < 6 → o k < M) (hi : i < 6) (hj : j < 6) : ∀ k, k < 6 → g_sw o i j k < M := by
  intro k hk
  unfold g_sw
  split
  · exact h i hi
  · split
    · exact h j hj
    · exact h k hk
theorem g_rv_lt {M : Nat} : ∀ f (o : Nat → Nat) a b, (∀ k, k < 6 → o k < M) → b < 6 → ∀ k, k < 6 → g_rv f o a b k < M := by
  intro f
  induction f with
  | zero => intro o a b h _; exact h
  | succ f ih =>
    intro o a b h hb
    unfold g_rv
    by_cases e : b ≤ a
    · rw [if_pos e]; exact h
    · rw [if_neg e]
      exact ih _ _ _ (g_sw_lt h (by omega) hb) (by omega)
theorem g_fi_s {o : Nat → Nat} : ∀ k i, g_fi o k = some i → i < k ∧ o i ≤ o (i + 1) := by
  intro k
  induction k with
  | zero => intro i h; cases h
  | succ k ih =>
    intro i h
    unfold g_fi at h
    by_cases e : o k ≤ o (k + 1)
    · rw [if_pos e] at h
      cases h
      exact ⟨by omega, e⟩
    · rw [if_neg e] at h
      have := ih i h
      exact ⟨by omega, this.2⟩
theorem g_fj_s {o : Nat → Nat} {i : Nat} : ∀ j, i + 1 ≤ j → i + 1 ≤ g_fj o i j ∧ g_fj o i j ≤ j := by
  intro j
  induction j with
  | zero => intro h; omega
  | succ j ih =>
    intro h
    unfold g_fj
    by_cases e : j + 1 ≤ i + 1
    · rw [if_pos e]; omega
    · rw [if_neg e]
      by_cases e2 : o i ≤ o (j + 1)
      · rw [if_pos e2]; omega
      · rw [if_neg e2]
        have := ih (by omega)
        omega
theorem g_nx_lt {n M : Nat} {o o' : Nat → Nat} (hn : n ≤ 6) (h : ∀ k, k < 6 → o k < M) (e : g_nx n o = some o') : ∀ k, k < 6 → o' k < M := by
  unfold g_nx at e
  cases hf : g_fi o (n - 1) with
  | none => rw [hf] at e; cases e
  | some i =>
    rw [hf] at e
    cases e
    have h1 := g_fi_s _ _ hf
    have h2 := g_fj_s (o := o) (i := i) (n - 1) (by omega)
    exact g_rv_lt _ _ _ _ (g_sw_lt h (by omega) (by omega)) (by omega)
/-! the class's next order -/
theorem s_guide_swapSeats (d i j : Nat) (I : am_I) (J : am_J) (o : Nat → Nat) (hi : i < 6) (hj : j < 6) (hI : ∀ k, k < 6 → I 44 k = nI (o k)) : ∃ I', f_guide_swapSeats_0 d (nI i) (nI j) I J = some (none, I', J) ∧ (∀ k, k < 6 → I' 44 k = nI (g_sw o i j k)) ∧ ∀ c k, c ≠ 44 → I' c k = I c k := by
  have base := b_guide_swapSeats_0 d (nI i) (nI j) I J
  rw [am_at_n hi (by omega), am_at_n hj (by omega), am_at_n hi (by omega), am_at_n hj (by omega)] at base
  refine ⟨_, base _ rfl, fun k hk => ?_, fun c k hc => by rw [am_uc hc, am_uc hc]⟩
  unfold g_sw
  by_cases h1 : k = j
  · subst h1
    rw [am_ue, if_pos rfl, hI i hi]
  · rw [am_uk h1, if_neg h1]
    by_cases h2 : k = i
    · subst h2
      rw [am_ue, if_pos rfl, hI j hj]
    · rw [am_uk h2, if_neg h2, hI k hk]
theorem s_guide_orderNext102 (d : Nat) (J : am_J) : ∀ f a b (o : Nat → Nat) (I : am_I), b ≤ a + f → b < 6 → a < 7 → (∀ k, k < 6 → I 44 k = nI (o k)) → ∃ I', f_guide_orderNext_102 d (nI a) (nI b) I J = some (some (.int 1), I', J) ∧ (∀ k, k < 6 → I' 44 k = nI (g_rv f o a b k)) ∧ ∀ c k, c ≠ 44 → I' c k = I c k := by
  intro f
  induction f with
  | zero =>
    intro a b o I h hb ha hI
    refine ⟨I, b_guide_orderNext_102 d _ _ I J _ ?_, hI, fun _ _ _ => rfl⟩
    rw [if_pos (nI_le (by omega) (by omega)), am_b01_1]
  | succ f ih =>
    intro a b o I h hb ha hI
    have base := b_guide_orderNext_102 d (nI a) (nI b) I J
    unfold g_rv
    by_cases e : b ≤ a
    · rw [if_pos (nI_le e (by omega)), am_b01_1] at base
      rw [if_pos e]
      exact ⟨I, base _ rfl, hI, fun _ _ _ => rfl⟩
    · obtain ⟨I1, a1, r1, k1⟩ := s_guide_swapSeats d a b I J o (by omega) hb hI
      obtain ⟨b', rfl⟩ : ∃ b', b = b' + 1 := ⟨b - 1, by omega⟩
      rw [if_neg (nI_ge (by omega) (by omega)), a1, am_bv_v, nI_1, pk_m1] at base
      rw [if_neg e]
      obtain ⟨I', a2, r2, k2⟩ := ih (a + 1) b' _ I1 (by omega) (by omega) (by omega) r1
      exact ⟨I', base _ a2, r2, fun c k hc => (k2 c k hc).trans (k1 c k hc)⟩
theorem s_guide_orderNext53 (d n i : Nat) (J : am_J) (o : Nat → Nat) (hn : n ≤ 6) (ho : ∀ k, k < 6 → o k < 8) : ∀ j (I : am_I), i + 1 ≤ j → j < n → I 12 5 = nI n → (∀ k, k < 6 → I 44 k = nI (o k)) → ∃ I', f_guide_orderNext_53 d (nI i) (nI j) I J = some (some (.int 1), I', J) ∧ (∀ k, k < 6 → I' 44 k = nI (g_rv 6 (g_sw o i (g_fj o i j)) (i + 1) (n - 1) k)) ∧ ∀ c k, c ≠ 44 → I' c k = I c k := by
  intro j
  induction j with
  | zero => intro I h; omega
  | succ j ih =>
    intro I hij hjn h12 hI
    have base := b_guide_orderNext_53 d (nI i) (nI (j + 1)) I J
    rw [nI_1] at base
    have go : ∀ I1 : am_I, (∀ k, k < 6 → I1 44 k = nI (g_sw o i (j + 1) k)) → (∀ c k, c ≠ 44 → I1 c k = I c k) → ∃ I', f_guide_orderNext_102 d (nI (i + 1)) (I1 12 5 - 1) I1 J = some (some (.int 1), I', J) ∧ (∀ k, k < 6 → I' 44 k = nI (g_rv 6 (g_sw o i (j + 1)) (i + 1) (n - 1) k)) ∧ ∀ c k, c ≠ 44 → I' c k = I c k := by
      intro I1 r1 k1
      rw [k1 12 5 (by decide), h12, am_i1, pk_sub (by omega)]
      obtain ⟨I', a2, r2, k2⟩ := s_guide_orderNext102 d J 6 (i + 1) (n - 1) _ I1 (by omega) (by omega) (by omega) r1
      exact ⟨I', a2, r2, fun c k hc => (k2 c k hc).trans (k1 c k hc)⟩
    obtain ⟨I1, a1, r1, k1⟩ := s_guide_swapSeats d i (j + 1) I J o (by omega) (by omega) hI
    obtain ⟨I', a2, r2, k2⟩ := go I1 r1 k1
    unfold g_fj
    by_cases e : j + 1 ≤ i + 1
    · rw [if_pos (nI_le e (by omega)), a1, am_bv_v] at base
      rw [if_pos e]
      exact ⟨I', base _ a2, r2, k2⟩
    · rw [if_neg (nI_ge (by omega) (by omega)), am_at_n (by omega) (by omega), am_at_n (by omega) (by omega), hI i (by omega), hI (j + 1) (by omega)] at base
      have o1 := ho i (by omega)
      have o2 := ho (j + 1) (by omega)
      rw [if_neg e]
      by_cases e2 : o i ≤ o (j + 1)
      · rw [if_pos (nI_le e2 (by omega)), a1, am_bv_v] at base
        rw [if_pos e2]
        exact ⟨I', base _ a2, r2, k2⟩
      · rw [if_neg (nI_ge (by omega) (by omega)), pk_m1] at base
        rw [if_neg e2]
        obtain ⟨I2, b1, b2, b3⟩ := ih I (by omega) (by omega) h12 hI
        exact ⟨I2, base _ b1, b2, b3⟩
def g_nxv (n : Nat) (o : Nat → Nat) : Int32 := match g_nx n o with
  | none => 0
  | some _ => 1
theorem s_guide_orderNext10 (d n : Nat) (J : am_J) (o : Nat → Nat) (hn : n ≤ 6) (ho : ∀ k, k < 6 → o k < 8) : ∀ k (I : am_I), k < n → I 12 5 = nI n → (∀ k, k < 6 → I 44 k = nI (o k)) → ∃ I', f_guide_orderNext_10 d (nI k - 1) I J = some (some (.int (match g_fi o k with | none => 0 | some _ => 1)), I', J) ∧ (∀ i, g_fi o k = some i → ∀ k, k < 6 → I' 44 k = nI (g_rv 6 (g_sw o i (g_fj o i (n - 1))) (i + 1) (n - 1) k)) ∧ ∀ c k, c ≠ 44 → I' c k = I c k := by
  intro k
  induction k with
  | zero =>
    intro I hk h12 hI
    refine ⟨I, b_guide_orderNext_10 d _ I J _ ?_, fun i h => (by cases h), fun _ _ _ => rfl⟩
    rw [if_pos (show nI 0 - 1 < 0 by decide), if_neg (show ¬ (0 : Int32) ≤ nI 0 - 1 by decide), am_b01_0]
    rfl
  | succ k ih =>
    intro I hk h12 hI
    rw [nI_pred]
    have base := b_guide_orderNext_10 d (nI k) I J
    have o1 := ho k (by omega)
    have o2 := ho (k + 1) (by omega)
    rw [if_neg (nI_pos (by omega)), nI_1, am_at_n (by omega) (by omega), am_at_n (by omega) (by omega), hI k (by omega), hI (k + 1) (by omega), if_pos (nI_pos' (by omega)), h12, am_i1, pk_sub (by omega)] at base
    by_cases e : o k ≤ o (k + 1)
    · obtain ⟨I', a1, r1, k1⟩ := s_guide_orderNext53 d n k J o hn ho (n - 1) I (by omega) (by omega) h12 hI
      rw [if_pos (nI_le e (by omega))] at base
      have hf : g_fi o (k + 1) = some k := by unfold g_fi; rw [if_pos e]
      rw [hf]
      exact ⟨I', base _ a1, fun i q => by cases q; exact r1, k1⟩
    · rw [if_neg (nI_ge (by omega) (by omega)), show nI k + -nI 1 = nI k - 1 from (Int32.sub_eq_add_neg _ _).symm] at base
      have hf : g_fi o (k + 1) = g_fi o k := by
        conv => lhs; unfold g_fi
        rw [if_neg e]
      rw [hf]
      obtain ⟨I', b1, b2, b3⟩ := ih I (by omega) h12 hI
      exact ⟨I', base _ b1, b2, b3⟩
theorem s_guide_orderNext (d n : Nat) (I : am_I) (J : am_J) (o : Nat → Nat) (h1 : 1 ≤ n) (hn : n ≤ 6) (ho : ∀ k, k < 6 → o k < 8) (h12 : I 12 5 = nI n) (hI : ∀ k, k < 6 → I 44 k = nI (o k)) : ∃ I', f_guide_orderNext_0 d I J = some (some (.int (g_nxv n o)), I', J) ∧ (∀ o', g_nx n o = some o' → ∀ k, k < 6 → I' 44 k = nI (o' k)) ∧ ∀ c k, c ≠ 44 → I' c k = I c k := by
  obtain ⟨I', a1, r1, k1⟩ := s_guide_orderNext10 d n J o hn ho (n - 1) I (by omega) h12 hI
  have e : nI n - 2 = nI (n - 1) - 1 := by
    obtain ⟨m, rfl⟩ : ∃ m, n = m + 1 := ⟨n - 1, by omega⟩
    rw [Nat.add_sub_cancel, nI_succ]
    grind
  refine ⟨I', b_guide_orderNext_0 d I J _ ?_, fun o' h => ?_, k1⟩
  · rw [h12, e, a1]
    unfold g_nxv g_nx
    cases g_fi o (n - 1) <;> rfl
  · unfold g_nx at h
    cases hf : g_fi o (n - 1) with
    | none => rw [hf] at h; cases h
    | some i =>
      rw [hf] at h
      cases h
      exact r1 i hf

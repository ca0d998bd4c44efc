/-! two masters who share -/
theorem g_f1_w (p : g_Plan) (m w : Int32) : ∀ k b, pn p ≤ b → g_f1 p m k b w = w := by
  intro k
  induction k with
  | zero => intro b _; rfl
  | succ k ih =>
    intro b h
    unfold g_f1
    rw [if_neg (by omega), ih (b + 1) (by omega)]
theorem g_f1_e (p : g_Plan) (m w : Int32) (e : Nat) : ∀ k b, pn p ≤ b + k → g_f1 p m (k + e) b w = g_f1 p m k b w := by
  intro k
  induction k with
  | zero =>
    intro b h
    rw [g_f1_w p m w _ b (by omega)]
    rfl
  | succ k ih =>
    intro b h
    rw [show k + 1 + e = (k + e) + 1 by omega]
    unfold g_f1
    rw [ih (b + 1) (by omega)]
theorem g_f1_at (p : g_Plan) (hn : pn p ≤ 6) (m : Int32) : ∀ k b, ∃ s, s < 6 ∧ g_f1 p m k b 0 = nI s := by
  intro k
  induction k with
  | zero => intro b; exact ⟨0, by decide, rfl⟩
  | succ k ih =>
    intro b
    unfold g_f1
    by_cases h : b < pn p ∧ g_in b m = true
    · rw [if_pos h]; exact ⟨b, by omega, rfl⟩
    · rw [if_neg h]; exact ih (b + 1)
theorem g_outS_lo (p : g_Plan) (m : Int32) {b : Nat} (hb : b < pn p) : g_outS p m b = if g_in b m = true then pmv p b else 0 := by
  unfold g_outS
  rw [if_pos hb]
theorem g_outS_mid (p : g_Plan) (m : Int32) {k : Nat} (h1 : pn p ≤ k) (h2 : k < 24) : g_outS p m k = 0 := by
  unfold g_outS
  rw [if_neg (by omega), if_neg (by omega), if_neg (by omega)]
theorem g_outS_at (p : g_Plan) (hn : pn p ≤ 6) (m : Int32) : g_at (g_outS p m) := by
  obtain ⟨s, h1, h2⟩ := g_f1_at p hn m 6 0
  refine ⟨s, h1, ?_⟩
  unfold g_outS
  rw [if_neg (by omega), if_neg (by omega), if_pos rfl, h2]
theorem g_outS_30 (p : g_Plan) (hn : pn p ≤ 6) (m : Int32) : g_outS p m 30 = 0 ∧ g_outS p m 32 = 0 ∧ g_outS p m 33 = 0 := by
  unfold g_outS
  refine ⟨?_, ?_, ?_⟩
  · rw [if_neg (by omega), if_neg (by omega), if_neg (by decide)]
  · rw [if_neg (by omega), if_neg (by omega), if_neg (by decide)]
  · rw [if_neg (by omega), if_neg (by omega), if_neg (by decide)]
/-- what a master wins who has these boards alone -/
noncomputable def g_W (p : g_Plan) (rule : Nat) (think : Int32) (m : Int32) : Int32 := g_far p rule think (g_outS p m) 32
theorem g_over_0 (p : g_Plan) : g_over p (g_outS p 0) = true := by
  refine decide_eq_true_iff.mpr (Or.inr (Or.inr ((am_cnt_0 _ _ _).mpr (fun j _ hj => ?_))))
  unfold g_open
  refine decide_eq_false (fun q => ?_)
  have q := q.1
  unfold g_outS at q
  have h0 : ¬ g_in j 0 = true := by
    unfold g_in
    rw [decide_eq_true_iff]
    simp
  rw [if_pos (by omega), if_neg h0] at q
  exact absurd q (by decide)
theorem g_W_0 (p : g_Plan) (hn : pn p ≤ 6) (rule : Nat) (think : Int32) : g_W p rule think 0 = 0 := by
  unfold g_W g_far g_follow g_flw
  rw [if_pos (g_over_0 p)]
  exact (g_outS_30 p hn 0).2.1
def g_ww (p : g_Plan) (m : Int32) (j : Nat) (I : am_I) : Prop := I 47 7 = 0 ∧ I 47 9 = 0 ∧ I 47 10 = 0 ∧ I 47 8 = g_f1 p m (pn p - j) j 0 ∧ (∀ b, b < 6 → I 51 b = nI b) ∧ (∀ b, b < 6 → I 52 b = 0) ∧ I 47 6 = -1 ∧ ∀ b, b < pn p → I 48 b = pmv p b ∧ I 49 b = 0 ∧ I 50 b = if b < j ∨ g_in b m = true then 0 else 3
theorem s_guide_wonWith24 (d rule : Nat) (p : g_Plan) (J : am_J) (think m : Int32) (hr : rule < 4) : ∀ j (I : am_I), j ≤ pn p → g_C p I → g_ww p m j I → ∃ I', f_guide_wonWith_24 d m (nI rule) think (nI j - 1) I J = some (some (.int (g_W p rule think m)), I', J) ∧ ∀ c k, c ∉ ([19, 20, 47, 48, 49, 50] : List Nat) → I' c k = I c k := by
  intro j
  induction j with
  | zero =>
    intro I _ hC hw
    have hn := hC.1.1
    obtain ⟨w7, w9, w10, w8, w51, w52, w6, wb⟩ := hw
    have base := b_guide_wonWith_24 d m (nI rule) think (nI 0 - 1) I J
    rw [if_pos (show nI 0 - 1 < 0 by decide)] at base
    have hat : g_at (g_row I 47) := by
      obtain ⟨s, h1, h2⟩ := g_f1_at p hn m (pn p - 0) 0
      exact ⟨s, h1, by rw [g_row_31, w8, h2]⟩
    have hE : g_E p (g_row I 47) (g_outS p m) := by
      refine ⟨fun k h1 h2 => ?_, fun b hb => ?_⟩
      · unfold g_outS
        rw [if_neg (show ¬ k < pn p by omega)]
        by_cases c : k < 30
        · obtain ⟨b, rfl⟩ : ∃ b, k = 24 + b := ⟨k - 24, by omega⟩
          rw [if_pos ⟨h1, c⟩, g_row_s (by omega), w51 b (by omega), show 24 + b - 24 = b by omega]
        · rw [if_neg (by omega)]
          rcases (show k = 30 ∨ k = 31 ∨ k = 32 ∨ k = 33 by omega) with rfl | rfl | rfl | rfl
          · rw [g_row_30, w7, if_neg (by decide)]
          · rw [g_row_31, w8, if_pos rfl]
            have e := g_f1_e p m 0 (6 - pn p) (pn p) 0 (by omega)
            rw [show pn p + (6 - pn p) = 6 by omega] at e
            rw [e]
            rfl
          · rw [g_row_32, w9, if_neg (by decide)]
          · rw [g_row_33, w10, if_neg (by decide)]
      · obtain ⟨q1, q2, q3⟩ := wb b hb
        by_cases hin : g_in b m = true
        · left
          refine ⟨?_, ?_, ?_, ?_⟩
          · rw [g_outS_lo p m hb, if_pos hin, g_row_l (by omega), q1]
          · rw [g_outS_mid p m (by omega) (by omega), g_row_r (by omega), q2]
          · rw [g_outS_mid p m (by omega) (by omega), g_row_m (by omega), q1, hC.2.2.2.2.2.1 b hb, Int32.sub_self]
          · rw [g_outS_mid p m (by omega) (by omega), g_row_e (by omega), q3, if_pos (Or.inr hin)]
        · right
          constructor
          · unfold g_open
            refine decide_eq_false (fun q => ?_)
            have q := q.2
            rw [g_row_e (by omega), q3, if_neg (by rintro (q | q); exact absurd q (by omega); exact hin q)] at q
            exact absurd q (by decide)
          · unfold g_open
            refine decide_eq_false (fun q => ?_)
            have q := q.1
            rw [g_outS_lo p m hb, if_neg hin] at q
            exact absurd q (by decide)
    obtain ⟨I', a1, r1, k1⟩ := s_guide_plain d rule p I J think hr hC hat (Or.inl w10) w52 w6
    rw [a1, am_bv_v] at base
    refine ⟨I', base _ ?_, fun c k hc => ?_⟩
    · have e := (g_flw_E hn (fun _ => 0) (-1) rule think 55 _ _ hat hE).1 32 (by decide) (by decide)
      have q : I' 47 9 = g_W p rule think m := by
        rw [← g_row_32 (I := I') (q := 47), r1]
        exact e
      rw [q]
    · simp only [List.mem_cons, List.not_mem_nil, not_or] at hc
      exact k1 c k (Or.inl hc.2.2.1) hc.2.2.2.1 hc.2.2.2.2.1 hc.1 hc.2.1
  | succ j ih =>
    intro I hj hC hw
    have hn := hC.1.1
    obtain ⟨w7, w9, w10, w8, w51, w52, w6, wb⟩ := hw
    have base := b_guide_wonWith_24 d m (nI rule) think (nI (j + 1) - 1) I J
    have en : nI j + (-1) = nI j - 1 := (Int32.sub_eq_add_neg _ _).symm
    rw [nI_pred]
    rw [nI_pred, if_neg (nI_pos (by omega)), s_guide_isIn, am_bi_i, en] at base
    by_cases hin : g_in j m = true
    · rw [if_neg (fun q => am_tf0.mp q hin)] at base
      have k1 : ∀ c k, (c ≠ 47 ∨ k ≠ 8) → am_upd I 47 8 (nI j) c k = I c k := fun c k h => by
        rcases h with h | h
        · exact am_uc h
        · exact am_uk h
      obtain ⟨I', a1, a2⟩ := ih (am_upd I 47 8 (nI j)) (by omega) (hC.keep (fun c k hc => k1 c k (Or.inl (fun e => by subst e; revert hc; decide)))) ⟨(k1 _ _ (Or.inr (by decide))).trans w7, (k1 _ _ (Or.inr (by decide))).trans w9, (k1 _ _ (Or.inr (by decide))).trans w10, by
        rw [am_ue, show pn p - j = (pn p - (j + 1)) + 1 by omega]
        unfold g_f1
        rw [if_pos ⟨by omega, hin⟩], fun b hb => (k1 _ _ (Or.inl (by decide))).trans (w51 b hb), fun b hb => (k1 _ _ (Or.inl (by decide))).trans (w52 b hb), (k1 _ _ (Or.inr (by decide))).trans w6, fun b hb => by
        obtain ⟨q1, q2, q3⟩ := wb b hb
        refine ⟨(k1 _ _ (Or.inl (by decide))).trans q1, (k1 _ _ (Or.inl (by decide))).trans q2, (k1 _ _ (Or.inl (by decide))).trans (q3.trans ?_)⟩
        by_cases e : b = j
        · subst e
          rw [if_pos (Or.inr hin), if_pos (Or.inr hin)]
        · by_cases e2 : b < j
          · rw [if_pos (Or.inl (by omega)), if_pos (Or.inl e2)]
          · by_cases e3 : g_in b m = true
            · rw [if_pos (Or.inr e3), if_pos (Or.inr e3)]
            · rw [if_neg (by rintro (q | q); omega; exact e3 q), if_neg (by rintro (q | q); omega; exact e3 q)]⟩
      refine ⟨I', base _ a1, fun c k hc => (a2 c k hc).trans (k1 c k (Or.inl (fun e => by subst e; revert hc; decide)))⟩
    · rw [if_pos (am_tf0.mpr hin), am_at_n (by omega) (by omega)] at base
      have k1 : ∀ c k, (c ≠ 50 ∨ k ≠ j) → am_upd I 50 j 3 c k = I c k := fun c k h => by
        rcases h with h | h
        · exact am_uc h
        · exact am_uk h
      obtain ⟨I', a1, a2⟩ := ih (am_upd I 50 j 3) (by omega) (hC.keep (fun c k hc => k1 c k (Or.inl (fun e => by subst e; revert hc; decide)))) ⟨(k1 _ _ (Or.inl (by decide))).trans w7, (k1 _ _ (Or.inl (by decide))).trans w9, (k1 _ _ (Or.inl (by decide))).trans w10, by
        rw [k1 _ _ (Or.inl (by decide)), w8, show pn p - j = (pn p - (j + 1)) + 1 by omega]
        conv => rhs; unfold g_f1
        rw [if_neg (fun q => hin q.2)], fun b hb => (k1 _ _ (Or.inl (by decide))).trans (w51 b hb), fun b hb => (k1 _ _ (Or.inl (by decide))).trans (w52 b hb), (k1 _ _ (Or.inl (by decide))).trans w6, fun b hb => by
        obtain ⟨q1, q2, q3⟩ := wb b hb
        refine ⟨(k1 _ _ (Or.inl (by decide))).trans q1, (k1 _ _ (Or.inl (by decide))).trans q2, ?_⟩
        by_cases e : b = j
        · subst e
          rw [am_ue, if_neg (by rintro (q | q); omega; exact hin q)]
        · rw [k1 _ _ (Or.inr e), q3]
          by_cases e2 : b < j
          · rw [if_pos (Or.inl (by omega)), if_pos (Or.inl e2)]
          · by_cases e3 : g_in b m = true
            · rw [if_pos (Or.inr e3), if_pos (Or.inr e3)]
            · rw [if_neg (by rintro (q | q); omega; exact e3 q), if_neg (by rintro (q | q); omega; exact e3 q)]⟩
      refine ⟨I', base _ a1, fun c k hc => (a2 c k hc).trans (k1 c k (Or.inl (fun e => by subst e; revert hc; decide)))⟩
theorem s_guide_wonWith (d rule : Nat) (p : g_Plan) (I : am_I) (J : am_J) (think m : Int32) (hr : rule < 4) (hC : g_C p I) : ∃ I', f_guide_wonWith_0 d m (nI rule) think I J = some (some (.int (g_W p rule think m)), I', J) ∧ ∀ c k, c ∉ ([19, 20, 47, 48, 49, 50, 51, 52] : List Nat) → I' c k = I c k := by
  have hn := hC.1.1
  have base := b_guide_wonWith_0 d m (nI rule) think I J
  by_cases h0 : m = 0
  · rw [if_pos h0] at base
    exact ⟨I, base _ (by rw [h0, g_W_0 p hn]), fun _ _ _ => rfl⟩
  · rw [if_neg h0] at base
    obtain ⟨I1, a1, r1, h6, h52, k1⟩ := s_guide_trial_setOut d p I J hC
    have kk : ∀ c k, c ∉ ([47, 48, 49, 50, 51, 52] : List Nat) → I1 c k = I c k := fun c k hc => by
      simp only [List.mem_cons, List.not_mem_nil, not_or] at hc
      exact k1 c k (Or.inl hc.1) (Or.inr ⟨hc.2.1, hc.2.2.1, hc.2.2.2.1, hc.2.2.2.2.1, hc.2.2.2.2.2.1⟩)
    have C1 : g_C p I1 := hC.keep (fun c k hc => kk c k ((show ∀ c ∈ ([1, 2, 3, 12, 13, 14, 15, 16, 17, 18, 21] : List Nat), c ∉ ([47, 48, 49, 50, 51, 52] : List Nat) by decide) c hc))
    rw [a1, am_bv_v, C1.2.1] at base
    have g : ∀ k, ¬ (12 + pn p ≤ k ∧ k < 18) → k < 34 → g_row I1 47 k = g_out p k := r1
    have z : ∀ k, 30 ≤ k → k < 34 → g_row I1 47 k = 0 := fun k q1 q2 => by
      rw [g k (by omega) q2]
      unfold g_out
      rw [if_neg (by omega), if_neg (by omega)]
    obtain ⟨I', a2, k2⟩ := s_guide_wonWith24 d rule p J think m hr (pn p) I1 (Nat.le_refl _) C1 ⟨by have q := z 30 (by decide) (by decide); exact q, by have q := z 32 (by decide) (by decide); exact q, by have q := z 33 (by decide) (by decide); exact q, by
      have q := z 31 (by decide) (by decide)
      rw [Nat.sub_self]
      exact q, fun b hb => by
      rw [← g_row_s (I := I1) (q := 47) hb, g _ (by omega) (by omega)]
      unfold g_out
      rw [if_neg (by omega), if_pos (by omega), show 24 + b - 24 = b by omega], h52, h6, fun b hb => by
      refine ⟨?_, ?_, ?_⟩
      · rw [← g_row_l (I := I1) (q := 47) (by omega), g _ (by omega) (by omega)]
        unfold g_out
        rw [if_pos hb]
      · rw [← g_row_r (I := I1) (q := 47) (by omega), g _ (by omega) (by omega)]
        unfold g_out
        rw [if_neg (by omega), if_neg (by omega)]
      · rw [← g_row_e (I := I1) (q := 47) (by omega), g _ (by omega) (by omega), if_pos (Or.inl hb)]
        unfold g_out
        rw [if_neg (by omega), if_neg (by omega)]⟩
    refine ⟨I', base _ a2, fun c k hc => ?_⟩
    rw [k2 c k (fun q => hc ((show ∀ c ∈ ([19, 20, 47, 48, 49, 50] : List Nat), c ∈ ([19, 20, 47, 48, 49, 50, 51, 52] : List Nat) by decide) c q)), kk c k (fun q => hc ((show ∀ c ∈ ([47, 48, 49, 50, 51, 52] : List Nat), c ∈ ([19, 20, 47, 48, 49, 50, 51, 52] : List Nat) by decide) c q))]
noncomputable def g_fs (p : g_Plan) (rule : Nat) (think : Int32) : Nat → Nat → (Int32 × Int32 × Int32) → Int32 × Int32 × Int32
  | 0, _, s => s
  | k + 1, m, s => g_fs p rule think k (m + 1) (g_km s (g_W p rule think (nI m) + g_W p rule think (nI (2 ^ pn p - 1 - m))) (nI m))
theorem s_guide_findShares50 (d rule : Nat) (p : g_Plan) (J : am_J) (think : Int32) (hn : pn p ≤ 6) : ∀ k m (I : am_I), m + k = 2 ^ pn p → (∀ j, j < 2 ^ pn p → I 46 j = g_W p rule think (nI j)) → ∃ I', f_guide_findShares_50 d (nI (2 ^ pn p - 1)) (nI m) I J = some (none, I', J) ∧ g_st I' = g_fs p rule think k m (g_st I) ∧ ∀ c k, (c ≠ 40 ∨ k < 15) → I' c k = I c k := by
  have h64 := g_p64 (pn p) (by omega)
  have h1 : 1 ≤ 2 ^ pn p := Nat.one_le_two_pow
  intro k
  induction k with
  | zero =>
    intro m I hm hW
    refine ⟨I, b_guide_findShares_50 d _ _ I J _ ?_, rfl, fun _ _ _ => rfl⟩
    rw [if_pos (nI_lt (by omega) (by omega))]
  | succ k ih =>
    intro m I hm hW
    have base := b_guide_findShares_50 d (nI (2 ^ pn p - 1)) (nI m) I J
    obtain ⟨I1, a1, r1, k1⟩ := s_guide_keep d (I 46 m + I 46 (2 ^ pn p - 1 - m)) (nI m) I J
    rw [if_neg (Int32.not_lt.mpr (nI_le (by omega) (by omega))), am_at_n (by omega) (by omega), pk_sub (by omega), am_at_n (by omega) (by omega), a1, am_bv_v, nI_1] at base
    obtain ⟨I', b1, b2, b3⟩ := ih (m + 1) I1 (by omega) (fun j hj => (k1 46 j (Or.inl (by decide))).trans (hW j hj))
    refine ⟨I', base _ b1, ?_, fun c k hc => (b3 c k hc).trans (k1 c k hc)⟩
    rw [b2, r1, hW m (by omega), hW (2 ^ pn p - 1 - m) (by omega)]
    rfl
theorem s_guide_findShares15 (d rule : Nat) (p : g_Plan) (J : am_J) (think : Int32) (hr : rule < 4) : ∀ k m (I : am_I), m + k = 2 ^ pn p → g_C p I → (∀ j, j < m → I 46 j = g_W p rule think (nI j)) → ∃ I', (∀ o, f_guide_findShares_50 d (nI (2 ^ pn p - 1)) 0 (am_upd I' 40 17 0) J = some o → f_guide_findShares_15 d (nI rule) think (nI (2 ^ pn p - 1)) (nI m) I J = some o) ∧ (∀ j, j < 2 ^ pn p → I' 46 j = g_W p rule think (nI j)) ∧ ∀ c k, c ∉ ([19, 20, 46, 47, 48, 49, 50, 51, 52] : List Nat) → I' c k = I c k := by
  intro k
  induction k with
  | zero =>
    intro m I hm hC hW
    have hn := hC.1.1
    have h64 := g_p64 (pn p) (by omega)
    have h1 : 1 ≤ 2 ^ pn p := Nat.one_le_two_pow
    have base := b_guide_findShares_15 d (nI rule) think (nI (2 ^ pn p - 1)) (nI m) I J
    rw [if_pos (nI_lt (by omega) (by omega)), am_b01_0] at base
    exact ⟨I, fun o q => base o q, fun j hj => hW j (by omega), fun _ _ _ => rfl⟩
  | succ k ih =>
    intro m I hm hC hW
    have hn := hC.1.1
    have h64 := g_p64 (pn p) (by omega)
    have base := b_guide_findShares_15 d (nI rule) think (nI (2 ^ pn p - 1)) (nI m) I J
    obtain ⟨I1, a1, k1⟩ := s_guide_wonWith d rule p I J think (nI m) hr hC
    rw [if_neg (Int32.not_lt.mpr (nI_le (by omega) (by omega))), a1, am_bi_i, am_at_n (by omega) (by omega), nI_1] at base
    have k2 : ∀ c k, c ∉ ([19, 20, 46, 47, 48, 49, 50, 51, 52] : List Nat) → am_upd I1 46 m (g_W p rule think (nI m)) c k = I c k := fun c k hc => by
      have hc' := hc
      simp only [List.mem_cons, List.not_mem_nil, not_or] at hc'
      rw [am_uc hc'.2.2.1, k1 c k (fun q => hc ((show ∀ c ∈ ([19, 20, 47, 48, 49, 50, 51, 52] : List Nat), c ∈ ([19, 20, 46, 47, 48, 49, 50, 51, 52] : List Nat) by decide) c q))]
    obtain ⟨I', b1, b2, b3⟩ := ih (m + 1) _ (by omega) (hC.keep (fun c k hc => k2 c k ((show ∀ c ∈ ([1, 2, 3, 12, 13, 14, 15, 16, 17, 18, 21] : List Nat), c ∉ ([19, 20, 46, 47, 48, 49, 50, 51, 52] : List Nat) by decide) c hc))) (fun j hj => by
      by_cases e : j = m
      · subst e; exact am_ue
      · rw [am_uk e, k1 46 j (by decide), hW j (by omega)])
    exact ⟨I', fun o q => base o (b1 o q), b2, fun c k hc => (b3 c k hc).trans (k2 c k hc)⟩
theorem s_guide_findShares (d rule : Nat) (p : g_Plan) (I : am_I) (J : am_J) (think : Int32) (hr : rule < 4) (hC : g_C p I) : ∃ I', f_guide_findShares_0 d (nI rule) think I J = some (none, I', J) ∧ g_st I' = g_fs p rule think (2 ^ pn p) 0 (0, I 40 15, I 40 16) ∧ ∀ c k, g_G c k → c ≠ 46 → I' c k = I c k := by
  have hn := hC.1.1
  have h64 := g_p64 (pn p) (by omega)
  have h1 : 1 ≤ 2 ^ pn p := Nat.one_le_two_pow
  obtain ⟨I1, b1, b2, b3⟩ := s_guide_findShares15 d rule p J think hr (2 ^ pn p) 0 I (by omega) hC (fun j hj => by omega)
  obtain ⟨I2, c1, c2, c3⟩ := s_guide_findShares50 d rule p J think hn (2 ^ pn p) 0 (am_upd I1 40 17 0) (by omega) (fun j hj => (am_uc (by decide)).trans (b2 j hj))
  have base := b_guide_findShares_0 d (nI rule) think I J
  rw [hC.2.1, g_shl (pn p) (by omega), am_i1, pk_sub h1] at base
  refine ⟨I2, base _ (b1 _ c1), ?_, fun c k hg h46 => ?_⟩
  · rw [c2]
    unfold g_st
    rw [am_ue, am_uk (by decide), am_uk (by decide), b3 40 15 (by decide), b3 40 16 (by decide)]
  · obtain ⟨hc, hk⟩ := hg
    have hc' := hc
    simp only [List.mem_cons, List.not_mem_nil, not_or] at hc'
    rw [c3 c k hk, show am_upd I1 40 17 0 c k = I1 c k from by
      rcases hk with h | h
      · exact am_uc h
      · exact am_uk (by omega), b3 c k (by simp only [List.mem_cons, List.not_mem_nil, not_or]; exact ⟨hc'.1, hc'.2.1, h46, hc'.2.2.1, hc'.2.2.2.1, hc'.2.2.2.2.1, hc'.2.2.2.2.2.1, hc'.2.2.2.2.2.2.1, hc'.2.2.2.2.2.2.2.1, not_false⟩)]

/-! the best seats, by the class -/
noncomputable def g_stl (c : Nat) : Nat → Nat → g_Row → g_Row
  | 0, _, r => r
  | k + 1, j, r => g_stl c k (j + 1) (g_set r (24 + g_dg c j) (nI j))
noncomputable def g_seat (p : g_Plan) (c : Nat) : g_Row := g_set (g_stl c (pn p) 0 (g_out p)) 31 (nI (g_dg c 0))
noncomputable def g_V (p : g_Plan) (rule : Nat) (think : Int32) (c : Nat) : Int32 := g_far p rule think (g_seat p c) 32
/-- the best so far: what it brings, the order -/
noncomputable def g_sf1 (p : g_Plan) (rule : Nat) (think : Int32) (c : Nat) (first : Bool) (s : Int32 × Nat) : Int32 × Nat := if first = true then (g_V p rule think c, c) else if g_V p rule think c ≤ s.1 then s else (g_V p rule think c, c)
noncomputable def g_sf (p : g_Plan) (rule : Nat) (think : Int32) : Nat → Nat → Bool → (Int32 × Nat) → Int32 × Nat
  | 0, _, _, s => s
  | f + 1, c, first, s => match g_nc (pn p) c with
    | none => g_sf1 p rule think c first s
    | some c' => g_sf p rule think f c' false (g_sf1 p rule think c first s)
theorem g_stl_R {p : g_Plan} (c : Nat) : ∀ k j r r', g_R p r r' → g_R p (g_stl c k j r) (g_stl c k j r') := by
  intro k
  induction k with
  | zero => intro j r r' h; exact h
  | succ k ih => intro j r r' h; exact ih _ _ _ (h.set _ _)
theorem g_stl_hi {c : Nat} : ∀ k j r i, (i < 24 ∨ 30 ≤ i) → (∀ b, b < j + k → g_dg c b < 6) → g_stl c k j r i = r i := by
  intro k
  induction k with
  | zero => intro j r i _ _; rfl
  | succ k ih =>
    intro j r i h hd
    unfold g_stl
    have := hd j (by omega)
    rw [ih _ _ _ h (fun b hb => hd b (by omega)), g_set_n _ _ (by omega)]
theorem g_all_s {n f c : Nat} (h : g_all n (f + 1) c = true) : (∀ k, k < 6 → g_dg c k < 6 ∧ (k < n → g_dg c k < n)) ∧ ∀ c', g_nc n c = some c' → g_all n f c' = true := by
  unfold g_all at h
  rw [Bool.and_eq_true] at h
  refine ⟨fun k hk => ?_, fun c' q => ?_⟩
  · have q := List.all_eq_true.mp h.1 k (List.mem_range.mpr hk)
    exact of_decide_eq_true q
  · have h2 := h.2
    rw [q] at h2
    exact h2
theorem s_guide_findSeats19 (d rule : Nat) (J : am_J) (think x3 : Int32) : ∀ k x (I : am_I), x + k = 6 → (∀ j, j < x → I 44 j = nI j) → ∃ I' : am_I, (∀ j, j < 6 → I' 44 j = nI j) ∧ (∀ c k, c ≠ 44 → I' c k = I c k) ∧ ∀ o, f_guide_findSeats_47 d (nI rule) think x3 0 0 I' J = some o → f_guide_findSeats_19 d (nI rule) think x3 (nI x) I J = some o := by
  intro k
  induction k with
  | zero =>
    intro x I hx hI
    refine ⟨I, fun j hj => hI j (by omega), fun _ _ _ => rfl, fun o h => b_guide_findSeats_19 d _ _ _ _ I J _ ?_⟩
    rw [if_pos (show (6 : Int32) ≤ nI x from nI_le (a := 6) (by omega) (by omega))]
    exact h
  | succ k ih =>
    intro x I hx hI
    obtain ⟨I', h1, h2, h3⟩ := ih (x + 1) (am_upd I 44 x (nI x)) (by omega) (fun j hj => by
      by_cases e : j = x
      · subst e; exact am_ue
      · rw [am_uk e]; exact hI j (by omega))
    refine ⟨I', h1, fun c k hc => (h2 c k hc).trans (am_uc hc), fun o h => b_guide_findSeats_19 d _ _ _ _ I J _ ?_⟩
    rw [if_neg (show ¬ (6 : Int32) ≤ nI x from nI_ge (b := 6) (by omega) (by omega)), am_at_n (by omega) (by omega), nI_1]
    exact h3 o h
/-- the seats are put as the order says -/
theorem s_guide_findSeats70 (d rule c : Nat) (p : g_Plan) (J : am_J) (think x3 x5 : Int32) (hd : ∀ k, k < 6 → g_dg c k < 6) : ∀ k j (I : am_I), j + k = pn p → g_C p I → (∀ i, i < 6 → I 44 i = nI (g_dg c i)) → ∃ I' : am_I, g_row I' 47 = g_stl c k j (g_row I 47) ∧ (∀ a k, a ≠ 51 → I' a k = I a k) ∧ ∀ o, f_guide_findSeats_70 d (nI rule) think x3 x5 (nI (pn p)) I' J = some o → f_guide_findSeats_70 d (nI rule) think x3 x5 (nI j) I J = some o := by
  intro k
  induction k with
  | zero =>
    intro j I hj hC hI
    obtain rfl : j = pn p := by omega
    exact ⟨I, rfl, fun _ _ _ => rfl, fun o h => h⟩
  | succ k ih =>
    intro j I hj hC hI
    have hn := hC.1.1
    have k1 : ∀ a k, a ≠ 51 → am_upd I 51 (g_dg c j) (nI j) a k = I a k := fun a k ha => am_uc ha
    obtain ⟨I', h1, h2, h3⟩ := ih (j + 1) (am_upd I 51 (g_dg c j) (nI j)) (by omega) (hC.keep (fun a k ha => k1 a k (fun e => by subst e; revert ha; decide))) (fun i hi => (k1 _ _ (by decide)).trans (hI i hi))
    refine ⟨I', ?_, fun a k ha => (h2 a k ha).trans (k1 a k ha), fun o h => b_guide_findSeats_70 d _ _ _ _ _ I J _ ?_⟩
    · rw [h1, g_rs_guide_trial _ _ _ (hd j (by omega))]
      rfl
    · rw [hC.2.1, if_neg (nI_ge (by omega) (by omega)), am_at_n (by omega) (by omega), hI j (by omega), am_at_n (hd j (by omega)) (by omega), nI_1]
      exact h3 o h
theorem s_guide_findSeats47 (d rule : Nat) (p : g_Plan) (J : am_J) (think x3 : Int32) (hr : rule < 4) (h1 : 1 ≤ pn p) : ∀ f n c bc (I : am_I), n + f = 720 → 0 < f → g_C p I → g_all (pn p) f c = true → (∀ i, i < 6 → I 44 i = nI (g_dg c i)) → (n ≠ 0 → ∀ i, i < 6 → I 45 i = nI (g_dg bc i)) → ∃ I', f_guide_findSeats_47 d (nI rule) think x3 0 (nI n) I J = some (none, I', J) ∧ I' 40 12 = (g_sf p rule think f c (decide (n = 0)) (I 40 12, bc)).1 ∧ I' 40 13 = x3 ∧ (∀ i, i < 6 → I' 45 i = nI (g_dg (g_sf p rule think f c (decide (n = 0)) (I 40 12, bc)).2 i)) ∧ ∀ a k, a ∉ ([19, 20, 44, 45, 47, 48, 49, 50, 51, 52] : List Nat) → (a ≠ 40 ∨ k < 12 ∨ 13 < k) → I' a k = I a k := by
  intro f
  induction f with
  | zero => intro n c bc I _ h0; omega
  | succ f ih =>
    intro n c bc I hf _ hC hall hI hbc
    have hn := hC.1.1
    obtain ⟨hd, hnext⟩ := g_all_s hall
    have hd6 : ∀ k, k < 6 → g_dg c k < 6 := fun k hk => (hd k hk).1
    have base := b_guide_findSeats_47 d (nI rule) think x3 0 (nI n) I J
    obtain ⟨I1, a1, r1, h6, h52, k1⟩ := s_guide_trial_setOut d p I J hC
    have kk1 : ∀ a k, a ∉ ([47, 48, 49, 50, 51, 52] : List Nat) → I1 a k = I a k := fun a k ha => by
      simp only [List.mem_cons, List.not_mem_nil, not_or] at ha
      exact k1 a k (Or.inl ha.1) (Or.inr ⟨ha.2.1, ha.2.2.1, ha.2.2.2.1, ha.2.2.2.2.1, ha.2.2.2.2.2.1⟩)
    have C1 : g_C p I1 := hC.keep (fun a k ha => kk1 a k ((show ∀ a ∈ ([1, 2, 3, 12, 13, 14, 15, 16, 17, 18, 21] : List Nat), a ∉ ([47, 48, 49, 50, 51, 52] : List Nat) by decide) a ha))
    rw [if_neg (show ¬ (720 : Int32) ≤ nI n from nI_ge (b := 720) (by omega) (by omega)), if_pos rfl, a1, am_bv_v] at base
    -- the play set out by the order
    have R1 : g_R p (g_row I1 47) (g_out p) := fun k q1 q2 => r1 k q2 q1
    -- the rest, from a memory whose seats are put
    have rest : ∀ I2 : am_I, g_row I2 47 = g_stl c (pn p) 0 (g_row I1 47) → (∀ a k, a ≠ 51 → I2 a k = I1 a k) → ∃ I', f_guide_findSeats_70 d (nI rule) think x3 (nI n) (nI (pn p)) I2 J = some (none, I', J) ∧ I' 40 12 = (g_sf p rule think (f + 1) c (decide (n = 0)) (I 40 12, bc)).1 ∧ I' 40 13 = x3 ∧ (∀ i, i < 6 → I' 45 i = nI (g_dg (g_sf p rule think (f + 1) c (decide (n = 0)) (I 40 12, bc)).2 i)) ∧ ∀ a k, a ∉ ([19, 20, 44, 45, 47, 48, 49, 50, 51, 52] : List Nat) → (a ≠ 40 ∨ k < 12 ∨ 13 < k) → I' a k = I a k := by
      intro I2 r2 k2
      have C2 : g_C p I2 := C1.keep (fun a k ha => k2 a k (fun e => by subst e; revert ha; decide))
      have base2 := b_guide_findSeats_70 d (nI rule) think x3 (nI n) (nI (pn p)) I2 J
      have hI2 : ∀ i, i < 6 → I2 44 i = nI (g_dg c i) := fun i hi => by rw [k2 44 i (by decide), kk1 44 i (by decide), hI i hi]
      rw [C2.2.1, if_pos (nI_le (Nat.le_refl _) (by omega)), aq_06, hI2 0 (by decide)] at base2
      obtain ⟨I3, e3⟩ : ∃ I3, I3 = am_upd I2 47 8 (nI (g_dg c 0)) := ⟨_, rfl⟩
      rw [← e3] at base2
      have k3 : ∀ a k, (a ≠ 47 ∨ k ≠ 8) → I3 a k = I2 a k := fun a k h => by
        rw [e3]
        rcases h with h | h
        · exact am_uc h
        · exact am_uk h
      have C3 : g_C p I3 := C2.keep (fun a k ha => k3 a k (Or.inl (fun e => by subst e; revert ha; decide)))
      have r3 : g_R p (g_row I3 47) (g_seat p c) := by
        rw [e3, g_r8_guide_trial, r2]
        exact (g_stl_R c _ _ _ _ R1).set _ _
      have at3 : g_at (g_row I3 47) := ⟨g_dg c 0, hd6 0 (by decide), by rw [g_row_31, e3, am_ue]⟩
      have f3 : I3 47 10 = 0 := by
        have q : g_row I3 47 33 = I3 47 10 := g_row_33
        rw [← q, r3 33 (by decide) (by omega)]
        unfold g_seat
        rw [g_set_n _ _ (by decide), g_stl_hi _ _ _ _ (Or.inr (by decide)) (fun b hb => hd6 b (by omega))]
        unfold g_out
        rw [if_neg (by omega), if_neg (by omega)]
      obtain ⟨I4, a4, r4, k4⟩ := s_guide_plain d rule p I3 J think hr C3 at3 (Or.inl f3) (fun b hb => by rw [k3 52 b (Or.inl (by decide)), k2 52 b (by decide)]; exact h52 b hb) (by rw [k3 47 6 (Or.inr (by decide)), k2 47 6 (by decide)]; exact h6)
      have v4 : I4 47 9 = g_V p rule think c := by
        have q : g_row I4 47 32 = I4 47 9 := g_row_32
        rw [← q, r4]
        exact (g_flw_E hn (fun _ => 0) (-1) rule think 55 _ _ at3 (r3.E hn)).1 32 (by decide) (by decide)
      have kk4 : ∀ a k, a ∉ ([19, 20, 47, 48, 49, 50, 51, 52] : List Nat) → I4 a k = I a k := fun a k ha => by
        have ha' := ha
        simp only [List.mem_cons, List.not_mem_nil, not_or] at ha'
        rw [k4 a k (Or.inl ha'.2.2.1) ha'.2.2.2.1 ha'.2.2.2.2.1 ha'.1 ha'.2.1, k3 a k (Or.inl ha'.2.2.1), k2 a k ha'.2.2.2.2.2.2.1, kk1 a k (fun q => ha ((show ∀ a ∈ ([47, 48, 49, 50, 51, 52] : List Nat), a ∈ ([19, 20, 47, 48, 49, 50, 51, 52] : List Nat) by decide) a q))]
      rw [a4, am_bv_v, v4] at base2
      -- behind the keeping
      have next : ∀ (I5 : am_I) (s : Int32 × Nat), s = g_sf1 p rule think c (decide (n = 0)) (I 40 12, bc) → I5 40 12 = s.1 → (∀ i, i < 6 → I5 45 i = nI (g_dg s.2 i)) → (∀ a k, a ≠ 45 → (a ≠ 40 ∨ k ≠ 12) → I5 a k = I4 a k) → ∃ I', am_bi (f_guide_orderNext_0 d I5 J) (fun y6 I4 J5 => if y6 = 0 then f_guide_findSeats_47 d (nI rule) think x3 1 (nI n + 1) I4 J5 else f_guide_findSeats_47 d (nI rule) think x3 0 (nI n + 1) I4 J5) = some (none, I', J) ∧ I' 40 12 = (g_sf p rule think (f + 1) c (decide (n = 0)) (I 40 12, bc)).1 ∧ I' 40 13 = x3 ∧ (∀ i, i < 6 → I' 45 i = nI (g_dg (g_sf p rule think (f + 1) c (decide (n = 0)) (I 40 12, bc)).2 i)) ∧ ∀ a k, a ∉ ([19, 20, 44, 45, 47, 48, 49, 50, 51, 52] : List Nat) → (a ≠ 40 ∨ k < 12 ∨ 13 < k) → I' a k = I a k := by
        intro I5 s hs h12 h45 k5
        have hI5 : ∀ i, i < 6 → I5 44 i = nI (g_dg c i) := fun i hi => by rw [k5 44 i (by decide) (Or.inl (by decide)), kk4 44 i (by decide), hI i hi]
        have h125 : I5 12 5 = nI (pn p) := by rw [k5 12 5 (by decide) (Or.inl (by decide)), kk4 12 5 (by decide), hC.2.1]
        obtain ⟨I6, a6, r6, k6⟩ := s_guide_orderNext d (pn p) I5 J (g_dg c) h1 hn (fun k hk => by have := hd6 k hk; omega) h125 hI5
        rw [a6, am_bi_i, nI_1]
        have kk6 : ∀ a k, a ∉ ([19, 20, 44, 45, 47, 48, 49, 50, 51, 52] : List Nat) → (a ≠ 40 ∨ k ≠ 12) → I6 a k = I a k := fun a k ha h => by
          have ha' := ha
          simp only [List.mem_cons, List.not_mem_nil, not_or] at ha'
          rw [k6 a k ha'.2.2.1, k5 a k ha'.2.2.2.1 h, kk4 a k (fun q => ha ((show ∀ a ∈ ([19, 20, 47, 48, 49, 50, 51, 52] : List Nat), a ∈ ([19, 20, 44, 45, 47, 48, 49, 50, 51, 52] : List Nat) by decide) a q))]
        cases hnx : g_nx (pn p) (g_dg c) with
        | none =>
          have e1 : g_nxv (pn p) (g_dg c) = 0 := by unfold g_nxv; rw [hnx]
          have e2 : g_sf p rule think (f + 1) c (decide (n = 0)) (I 40 12, bc) = s := by
            unfold g_sf g_nc
            rw [hnx, hs]
            rfl
          have base3 := b_guide_findSeats_47 d (nI rule) think x3 1 (nI (n + 1)) I6 J
          refine ⟨am_upd I6 40 13 x3, ?_, ?_, am_ue, fun i hi => ?_, fun a k ha h => ?_⟩
          · rw [e1, if_pos rfl]
            refine base3 _ ?_
            rw [if_neg (show ¬ (1 : Int32) = 0 by decide)]
            by_cases q : (720 : Int32) ≤ nI (n + 1)
            · rw [if_pos q]
            · rw [if_neg q]
          · rw [e2, am_uk (by decide), k6 40 12 (by decide), h12]
          · rw [e2, am_uc (by decide), k6 45 i (by decide), h45 i hi]
          · rw [show am_upd I6 40 13 x3 a k = I6 a k from by
              rcases h with h | h
              · exact am_uc h
              · exact am_uk (by omega), kk6 a k ha (h.imp id (fun q => by omega))]
        | some o' =>
          have e1 : g_nxv (pn p) (g_dg c) = 1 := by unfold g_nxv; rw [hnx]
          have e0 : g_nc (pn p) c = some (g_en o') := by unfold g_nc; rw [hnx]; rfl
          have e2 : g_sf p rule think (f + 1) c (decide (n = 0)) (I 40 12, bc) = g_sf p rule think f (g_en o') false s := by
            rw [hs]
            conv => lhs; unfold g_sf
            rw [e0]
          have hall' := hnext _ e0
          have hf0 : 0 < f := by
            cases f with
            | zero => unfold g_all at hall'; cases hall'
            | succ f => omega
          have ho' : ∀ k, k < 6 → o' k < 8 := g_nx_lt hn (fun k hk => by have := hd6 k hk; omega) hnx
          have C6 : g_C p I6 := hC.keep (fun a k ha => kk6 a k ((show ∀ a ∈ ([1, 2, 3, 12, 13, 14, 15, 16, 17, 18, 21] : List Nat), a ∉ ([19, 20, 44, 45, 47, 48, 49, 50, 51, 52] : List Nat) by decide) a ha) (Or.inl ((show ∀ a ∈ ([1, 2, 3, 12, 13, 14, 15, 16, 17, 18, 21] : List Nat), a ≠ 40 by decide) a ha)))
          obtain ⟨I', b1, b2, b3, b4, b5⟩ := ih (n + 1) (g_en o') s.2 I6 (by omega) hf0 C6 hall' (fun i hi => by rw [r6 o' hnx i hi, g_dg_en o' ho' i hi]) (fun _ i hi => by rw [k6 45 i (by decide), h45 i hi])
          have e12 : I6 40 12 = s.1 := by rw [k6 40 12 (by decide), h12]
          rw [e12, show decide (n + 1 = 0) = false from decide_eq_false (by omega)] at b2 b4
          refine ⟨I', ?_, ?_, b3, fun i hi => ?_, fun a k ha h => ?_⟩
          · rw [e1, if_neg (by decide)]
            exact b1
          · rw [e2, b2]
          · rw [e2, b4 i hi]
          · rw [b5 a k ha h, kk6 a k ha (h.imp id (fun q => by omega))]
      have cp : ∀ X : am_I, am_cpc 0 0 6 6 6 = am_cpc (nI 0) (nI 0) (nI 6) 6 6 := fun _ => rfl
      have kept : ∀ I5 : am_I, I5 = am_cpy (am_upd I4 40 12 (g_V p rule think c)) 44 0 45 0 6 → I5 40 12 = g_V p rule think c ∧ (∀ i, i < 6 → I5 45 i = nI (g_dg c i)) ∧ ∀ a k, a ≠ 45 → (a ≠ 40 ∨ k ≠ 12) → I5 a k = I4 a k := by
        intro I5 e5
        rw [e5]
        refine ⟨by rw [am_cc (by decide), am_ue], fun i hi => ?_, fun a k ha h => ?_⟩
        · rw [am_ce (by omega) (by omega), am_uc (by decide), kk4 44 _ (by decide), Nat.zero_add, Nat.sub_zero, hI i hi]
        · rw [am_cc ha]
          rcases h with h | h
          · exact am_uc h
          · exact am_uk h
      have kept' := kept _ rfl
      by_cases hn0 : n = 0
      · obtain ⟨I', q1, q2⟩ := next _ (g_V p rule think c, c) (by unfold g_sf1; rw [if_pos (decide_eq_true hn0)]) kept'.1 kept'.2.1 kept'.2.2
        refine ⟨I', base2 _ ?_, q2⟩
        rw [if_pos (show nI n = 0 by rw [hn0]; rfl), cp I, am_cpc_n (by omega) (by omega) (by omega) (by omega)]
        exact q1
      · have n0 : ¬ nI n = 0 := nI_ne0 (by omega) (by omega)
        have e12 : I4 40 12 = I 40 12 := kk4 40 12 (by decide)
        rw [if_neg n0, e12] at base2
        by_cases hle : g_V p rule think c ≤ I 40 12
        · obtain ⟨I', q1, q2⟩ := next I4 (I 40 12, bc) (by unfold g_sf1; rw [if_neg (fun q => hn0 (of_decide_eq_true q)), if_pos hle]) e12 (fun i hi => by rw [kk4 45 i (by decide)]; exact hbc hn0 i hi) (fun _ _ _ _ => rfl)
          rw [if_pos hle] at base2
          exact ⟨I', base2 _ q1, q2⟩
        · obtain ⟨I', q1, q2⟩ := next _ (g_V p rule think c, c) (by unfold g_sf1; rw [if_neg (fun q => hn0 (of_decide_eq_true q)), if_neg hle]) kept'.1 kept'.2.1 kept'.2.2
          rw [if_neg hle, cp I, am_cpc_n (by omega) (by omega) (by omega) (by omega)] at base2
          exact ⟨I', base2 _ q1, q2⟩
    -- into the seats
    obtain ⟨I2, r2, k2⟩ : ∃ I2 : am_I, g_row I2 47 = g_stl c (pn p) 0 (g_row I1 47) ∧ (∀ a k, a ≠ 51 → I2 a k = I1 a k) ∧ ∀ o, f_guide_findSeats_70 d (nI rule) think x3 (nI n) (nI (pn p)) I2 J = some o → f_guide_findSeats_70 d (nI rule) think x3 (nI n) (nI 0) I1 J = some o := by
      exact s_guide_findSeats70 d rule c p J think x3 (nI n) hd6 (pn p) 0 I1 (by omega) C1 (fun i hi => by rw [kk1 44 i (by decide), hI i hi])
    obtain ⟨I', q1, q2⟩ := rest I2 r2 k2.1
    exact ⟨I', base _ (k2.2 _ q1), q2⟩
def g_sk (rule : Nat) (think : Int32) : Int32 := nI rule * 61 + think
/-- what the class keeps of its seats is right: not found yet, or by this rule and think -/
def g_SC (p : g_Plan) (I : am_I) : Prop := I 40 13 = -1 ∨ ∃ rule i, rule < 4 ∧ i < ptc p ∧ 1 ≤ pn p ∧ I 40 13 = g_sk rule (pth p i) ∧ I 40 12 = (g_sf p rule (pth p i) 720 g_id true (0, 0)).1 ∧ ∀ k, k < 6 → I 45 k = nI (g_dg (g_sf p rule (pth p i) 720 g_id true (0, 0)).2 k)
theorem g_sf_first {p : g_Plan} {rule : Nat} {think : Int32} {c : Nat} (f : Nat) (s s' : Int32 × Nat) : g_sf p rule think (f + 1) c true s = g_sf p rule think (f + 1) c true s' := by
  have e : g_sf1 p rule think c true s = g_sf1 p rule think c true s' := by
    unfold g_sf1
    rw [if_pos rfl, if_pos rfl]
  unfold g_sf
  rw [e]
theorem g_sk_inj {r r' : Nat} {t t' : Int32} (hr : r < 4) (hr' : r' < 4) (ht : 0 ≤ t.toInt ∧ t.toInt ≤ 60) (ht' : 0 ≤ t'.toInt ∧ t'.toInt ≤ 60) (h : g_sk r t = g_sk r' t') : r = r' ∧ t = t' := by
  have e : ∀ (r : Nat) (t : Int32), r < 4 → 0 ≤ t.toInt ∧ t.toInt ≤ 60 → (g_sk r t).toInt = 61 * r + t.toInt := by
    intro r t hr ht
    obtain ⟨m, hm, rfl⟩ : ∃ m : Nat, m ≤ 60 ∧ t = nI m := by
      refine ⟨t.toInt.toNat, by omega, ?_⟩
      apply Int32.toInt_inj.mp
      rw [nI_toInt (by omega)]
      omega
    unfold g_sk
    rw [show (61 : Int32) = nI 61 from rfl, pk_mul, nI_add, nI_toInt (by omega), nI_toInt (by omega)]
    omega
  have h1 := e r t hr ht
  have h2 := e r' t' hr' ht'
  rw [h, h2] at h1
  refine ⟨by omega, Int32.toInt_inj.mp (by omega)⟩
theorem s_guide_findSeats (d rule i : Nat) (p : g_Plan) (I : am_I) (J : am_J) (hr : rule < 4) (hi : i < ptc p) (h1 : 1 ≤ pn p) (hC : g_C p I) (hS : g_SC p I) : ∃ I', f_guide_findSeats_0 d (nI rule) (pth p i) I J = some (none, I', J) ∧ I' 40 12 = (g_sf p rule (pth p i) 720 g_id true (0, 0)).1 ∧ (∀ k, k < 6 → I' 45 k = nI (g_dg (g_sf p rule (pth p i) 720 g_id true (0, 0)).2 k)) ∧ g_SC p I' ∧ ∀ a k, a ∉ ([19, 20, 44, 45, 47, 48, 49, 50, 51, 52] : List Nat) → (a ≠ 40 ∨ k < 12 ∨ 13 < k) → I' a k = I a k := by
  have base := b_guide_findSeats_0 d (nI rule) (pth p i) I J
  have hth := hC.1.2.2.2.2.2.2.2.2.2.2.2
  by_cases he : I 40 13 = nI rule * 61 + pth p i
  · rw [if_pos he] at base
    rcases hS with h | ⟨r', i', q1, q2, q3, q4, q5, q6⟩
    · have h0 := hth i hi
      exfalso
      have : (g_sk rule (pth p i)).toInt = 61 * rule + (pth p i).toInt := by
        obtain ⟨m, hm, e⟩ : ∃ m : Nat, m ≤ 60 ∧ pth p i = nI m := by
          refine ⟨(pth p i).toInt.toNat, by omega, ?_⟩
          apply Int32.toInt_inj.mp
          rw [nI_toInt (by omega)]
          omega
        unfold g_sk
        rw [e, show (61 : Int32) = nI 61 from rfl, pk_mul, nI_add, nI_toInt (by omega), nI_toInt (by omega)]
        omega
      unfold g_sk at this
      rw [← he, h, show (-1 : Int32).toInt = -1 from rfl] at this
      omega
    · obtain ⟨e1, e2⟩ := g_sk_inj hr q1 (hth i hi) (hth i' q2) (he.symm.trans q4)
      subst e1
      rw [← e2] at q5 q6
      exact ⟨I, base _ rfl, q5, q6, Or.inr ⟨rule, i, hr, hi, h1, he, q5, q6⟩, fun _ _ _ _ => rfl⟩
  · rw [if_neg he] at base
    have hn := hC.1.1
    obtain ⟨I1, c1, c2, c3⟩ := s_guide_findSeats19 d rule J (pth p i) (nI rule * 61 + pth p i) 6 0 I (by omega) (fun j hj => by omega)
    have C1 : g_C p I1 := hC.keep (fun a k ha => c2 a k (fun e => by subst e; revert ha; decide))
    have hid : ∀ k, k < 6 → g_dg g_id k = k := g_dg_en (fun k => k) (fun k hk => by omega)
    obtain ⟨I', b1, b2, b3, b4, b5⟩ := s_guide_findSeats47 d rule p J (pth p i) (nI rule * 61 + pth p i) hr h1 720 0 g_id 0 I1 (by omega) (by omega) C1 (g_all_ok (pn p) (by omega)) (fun k hk => by rw [hid k hk, c1 k hk]) (fun q => absurd rfl q)
    rw [show decide (0 = 0) = true from rfl, g_sf_first (s' := (0, 0))] at b2 b4
    have kk : ∀ a k, a ∉ ([19, 20, 44, 45, 47, 48, 49, 50, 51, 52] : List Nat) → (a ≠ 40 ∨ k < 12 ∨ 13 < k) → I' a k = I a k := fun a k ha h => by
      have ha' := ha
      simp only [List.mem_cons, List.not_mem_nil, not_or] at ha'
      rw [b5 a k ha h, c2 a k ha'.2.2.1]
    exact ⟨I', base _ (c3 _ b1), b2, b4, Or.inr ⟨rule, i, hr, hi, h1, b3, b2, b4⟩, kk⟩

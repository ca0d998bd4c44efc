/-! the reference's fresh rows -/
theorem lo_copies_28 (d : Nat) (J : am_J) (o : Option Value × am_I × am_J) : ∀ k x (I : am_I), x + k = 6 → (some (none, am_upd (am_fil I 99 x k 0) 68 49 (-1), J) : am_Out) = some o → f_m_copies_28 d (nI x) I J = some o := by
  intro k
  induction k with
  | zero =>
    intro x I hx h
    rw [am_fil_0] at h
    refine b_m_copies_28 d _ I J _ ?_
    rw [if_pos (show (6 : Int32) ≤ nI x from nI_le (a := 6) (by omega) (by omega))]
    exact h
  | succ k ih =>
    intro x I hx h
    refine b_m_copies_28 d _ I J _ ?_
    rw [if_neg (show ¬ (6 : Int32) ≤ nI x from nI_ge (b := 6) (by omega) (by omega)), am_at_n (by omega) (by omega), nI_1]
    refine ih (x + 1) _ (by omega) ?_
    rw [am_fil_s]
    exact h
/-- all but the reference's own what-if -/
def m_G (c k : Nat) : Prop := c ∉ ([95, 96, 98, 99] : List Nat) ∧ (c ≠ 68 ∨ (k ≠ 45 ∧ k ≠ 49))
theorem m_G.F {c k : Nat} (h : m_G c k) : m_F c k := by
  obtain ⟨h1, h2⟩ := h
  simp only [List.mem_cons, List.not_mem_nil, not_or] at h1
  refine ⟨?_, ?_⟩
  · simp only [List.mem_cons, List.not_mem_nil, not_or]
    exact ⟨h1.1, h1.2.1, h1.2.2.1, not_false⟩
  · rcases h2 with h | h
    · exact Or.inl h
    · exact Or.inr h.1
theorem m_G.c {c k : Nat} (h : m_G c k) : c ≠ 98 ∧ c ≠ 99 ∧ (c ≠ 68 ∨ k ≠ 49) := by
  obtain ⟨h1, h2⟩ := h
  simp only [List.mem_cons, List.not_mem_nil, not_or] at h1
  exact ⟨h1.2.2.1, h1.2.2.2.1, h2.imp id (fun q => q.2)⟩
theorem m_C.G {p : g_Plan} {v : Nat} {I I' : am_I} (h : m_C p v I) (e : ∀ c k, m_G c k → I' c k = I c k) : m_C p v I' :=
  h.keep (e 68 18 ⟨by decide, Or.inr (by decide)⟩) (fun c k hc => e c k ⟨(show ∀ c ∈ m_Cc, c ∉ ([95, 96, 98, 99] : List Nat) by decide) c hc, Or.inl ((show ∀ c ∈ m_Cc, c ≠ 68 by decide) c hc)⟩)
theorem s_m_copies (d : Nat) (I : am_I) (J : am_J) : ∃ I', f_m_copies_0 d I J = some (none, I', J) ∧ (∀ k, k < 40 → I' 98 k = I 97 k) ∧ (∀ b, b < 6 → I' 99 b = 0) ∧ I' 68 49 = -1 ∧ ∀ c k, m_G c k → I' c k = I c k := by
  refine ⟨am_upd (am_fil (am_cpy I 97 0 98 0 40) 99 0 6 0) 68 49 (-1), b_m_copies_0 d I J _ ?_, fun k hk => ?_, fun b hb => ?_, am_ue, fun c k hc => ?_⟩
  · exact lo_copies_2 d J _ 40 0 I (by omega) (lo_copies_28 d J _ 6 0 _ (by omega) rfl)
  · rw [am_uc (by decide), am_fc (by decide), am_ce (by omega) (by omega), Nat.zero_add, Nat.sub_zero]
  · rw [am_uc (by decide), am_fe (by omega) (by omega)]
  · have q := hc.c
    rw [show am_upd (am_fil (am_cpy I 97 0 98 0 40) 99 0 6 0) 68 49 (-1) c k = am_fil (am_cpy I 97 0 98 0 40) 99 0 6 0 c k from by
      rcases q.2.2 with h | h
      · exact am_uc h
      · exact am_uk h, am_fc q.2.1, am_cc q.1]
theorem g_sm_le {r : g_Row} : ∀ n, (∀ j, j < n → (r j).toNatClampNeg ≤ 9) → g_sm r n ≤ 9 * n := by
  intro n
  induction n with
  | zero => intro _; exact Nat.le_refl 0
  | succ n ih =>
    intro h
    have h1 := ih (fun j hj => h j (by omega))
    have h2 := h n (by omega)
    unfold g_sm
    omega
/-- no more than nine moves are left anywhere -/
def g_cap (p : g_Plan) (r : g_Row) : Prop := ∀ b, b < pn p → (r b).toNatClampNeg ≤ 9
/-- a rule followed by the reference, from a row that is alike -/
theorem s_m_plain (d rule i v : Nat) (p : g_Plan) (I : am_I) (J : am_J) (lt : g_Row) (ha : Int32) (r : g_Row) (hr : rule < 4) (hi : i < ptc p) (hC : m_C p v I) (hE : g_E p r (I 98)) (hat : g_at r) (h30 : r 30 ≤ pck p) (hcap : g_cap p (I 98)) (hlt : ∀ b, b < pn p → I 99 b = lt b) (hh : I 68 49 = ha) : ∃ I', f_m_goesBy_0 d (nI rule) (nI i) I J = some (some (.int (g_follow p lt ha rule (pth p i) r 32)), I', J) ∧ g_E p (g_follow p lt ha rule (pth p i) r) (I' 98) ∧ ∀ c k, m_F c k → I' c k = I c k := by
  have hn := hC.1.1
  obtain ⟨I', a1, r1, k1⟩ := s_m_goesBy d rule i v p J (I 99) ha hr hi 55 I hC (g_at_c hE.1 hat) (by rw [← hE.1 30 (by decide) (by decide)]; exact h30) rfl hh (Or.inr (by have := g_sm_le (pn p) hcap; omega))
  have e := g_flw_E hn (I 99) ha rule (pth p i) 55 r (I 98) hat hE
  rw [g_flw_c p (I 99) lt ha rule (pth p i) hlt 55 r, g_flw_c p (I 99) lt ha rule (pth p i) hlt 55 (I 98)] at e
  rw [g_flw_c p (I 99) lt ha rule (pth p i) hlt] at a1 r1
  refine ⟨I', ?_, ?_, k1⟩
  · rw [a1, ← e.1 32 (by decide) (by decide)]
    rfl
  · rw [r1]
    exact e
/-- the play that goes, at the reference: the row r, in the cell 97 -/
def m_N (p : g_Plan) (r : g_Row) (I : am_I) : Prop := g_R p r (I 97) ∧ g_at r ∧ r 30 ≤ pck p ∧ (r 33 = 0 ∨ r 33 = 1) ∧ g_cap p r
theorem m_N.keep {p : g_Plan} {r : g_Row} {I I' : am_I} (h : m_N p r I) (e : ∀ c k, m_G c k → I' c k = I c k) : m_N p r I' := by
  refine ⟨?_, h.2⟩
  intro k h1 h2
  rw [h.1 k h1 h2, e 97 k ⟨by decide, Or.inl (by decide)⟩]
theorem g_cap_c {p : g_Plan} {r r' : g_Row} (hn : pn p ≤ 6) (h : g_R p r r') (hc : g_cap p r) : g_cap p r' := fun b hb => by rw [← h b (by omega) (by omega)]; exact hc b hb
theorem s_m_fresh (d v : Nat) (p : g_Plan) (I : am_I) (J : am_J) (r : g_Row) (hC : m_C p v I) (hN : m_N p r I) : ∃ I', f_m_copies_0 d I J = some (none, I', J) ∧ m_C p v I' ∧ m_N p r I' ∧ g_R p r (I' 98) ∧ g_cap p (I' 98) ∧ (∀ b, b < 6 → I' 99 b = 0) ∧ I' 68 49 = -1 ∧ ∀ c k, m_G c k → I' c k = I c k := by
  obtain ⟨I', a1, r1, l1, h1, k1⟩ := s_m_copies d I J
  have hR : g_R p r (I' 98) := fun k q1 q2 => by rw [r1 k (by omega)]; exact hN.1 k q1 q2
  exact ⟨I', a1, hC.G k1, hN.keep k1, hR, g_cap_c hC.1.1 hR hN.2.2.2.2, l1, h1, k1⟩
theorem s_m_wonBy (d rule i v : Nat) (p : g_Plan) (I : am_I) (J : am_J) (r : g_Row) (hr : rule < 4) (hi : i < ptc p) (hC : m_C p v I) (hN : m_N p r I) : ∃ I', f_m_wonBy_0 d (nI rule) (nI i) I J = some (some (.int (g_far p rule (pth p i) r 32)), I', J) ∧ ∀ c k, m_G c k → I' c k = I c k := by
  have hn := hC.1.1
  obtain ⟨I1, a1, C1, N1, R1, c1, l1, h1, k1⟩ := s_m_fresh d v p I J r hC hN
  obtain ⟨I2, a2, -, k2⟩ := s_m_plain d rule i v p I1 J (fun _ => 0) (-1) r hr hi C1 (R1.E hn) hN.2.1 hN.2.2.1 c1 (fun b hb => l1 b (by omega)) h1
  have base := b_m_wonBy_0 d (nI rule) (nI i) I J
  rw [a1, am_bv_v, a2, am_bi_i] at base
  exact ⟨I2, base _ rfl, fun c k hc => (k2 c k hc.F).trans (k1 c k hc)⟩
/-! the start, with the boards of a set -/
noncomputable def g_f1 (p : g_Plan) (m : Int32) : Nat → Nat → Int32 → Int32
  | 0, _, w => w
  | k + 1, b, w => if b < pn p ∧ g_in b m = true then nI b else g_f1 p m k (b + 1) w
noncomputable def g_outS (p : g_Plan) (m : Int32) : g_Row := fun k => if k < pn p then (if g_in k m = true then pmv p k else 0) else if 24 ≤ k ∧ k < 30 then nI (k - 24) else if k = 31 then g_f1 p m 6 0 0 else 0
theorem g_in_0 {b : Nat} {m : Int32} : (((m >>> (nI b &&& 31)) &&& 1) = 0) ↔ ¬ g_in b m = true := by
  obtain ⟨j, hj, e⟩ := pk_andE (m >>> (nI b &&& 31)) (m := 1) 1 rfl
  unfold g_in
  rw [decide_eq_true_iff, e]
  rcases (show j = 0 ∨ j = 1 by omega) with rfl | rfl <;> decide
theorem s_m_begins25 (d v : Nat) (p : g_Plan) (J : am_J) (m : Int32) : ∀ k b f (I : am_I), b + k = 6 → m_C p v I → (f = 0 ∨ f = 1) → ∃ I', f_m_begins0_25 d m f (nI b) I J = some (none, I', J) ∧ (∀ j, b ≤ j → j < 6 → I' 98 (24 + j) = nI j ∧ I' 99 j = 0 ∧ I' 98 j = if j < pn p ∧ g_in j m = true then pmv p j else I 98 j) ∧ I' 98 31 = (if f = 0 then I 98 31 else g_f1 p m k b (I 98 31)) ∧ I' 68 49 = -1 ∧ ∀ c j, (c ≠ 98 ∨ ((j < b ∨ 6 ≤ j) ∧ (j < 24 + b ∨ 30 ≤ j) ∧ j ≠ 31)) → (c ≠ 99 ∨ j < b ∨ 6 ≤ j) → (c ≠ 68 ∨ j ≠ 49) → I' c j = I c j := by
  intro k
  induction k with
  | zero =>
    intro b f I hb hC hf
    obtain rfl : b = 6 := by omega
    refine ⟨am_upd I 68 49 (-1), b_m_begins0_25 d m f _ I J _ ?_, fun j h1 h2 => by omega, ?_, am_ue, fun c j _ _ h => ?_⟩
    · rw [if_pos (show (6 : Int32) ≤ nI 6 by decide)]
    · rw [am_uc (by decide)]
      unfold g_f1
      split <;> rfl
    · rcases h with h | h
      · exact am_uc h
      · exact am_uk h
  | succ k ih =>
    intro b f I hb hC hf
    have hn := hC.1.1
    have hv := hC.2.1
    have base := b_m_begins0_25 d m f (nI b) I J
    rw [if_neg (show ¬ (6 : Int32) ≤ nI b from nI_ge (b := 6) (by omega) (by omega)), am_i24, nI_add, am_at_n (by omega) (by omega), am_at_n (by omega) (by omega)] at base
    obtain ⟨I1, e1⟩ : ∃ I1, I1 = am_upd (am_upd I 98 (24 + b) (nI b)) 99 b 0 := ⟨_, rfl⟩
    rw [← e1] at base
    have k1 : ∀ c j, (c ≠ 98 ∨ j ≠ 24 + b) → (c ≠ 99 ∨ j ≠ b) → I1 c j = I c j := by
      intro c j h1 h2
      rw [e1]
      have z : am_upd (am_upd I 98 (24 + b) (nI b)) 99 b 0 c j = am_upd I 98 (24 + b) (nI b) c j := by
        rcases h2 with h | h
        · exact am_uc h
        · exact am_uk h
      rw [z]
      rcases h1 with h | h
      · exact am_uc h
      · exact am_uk h
    have C1 : m_C p v I1 := hC.keep (k1 68 18 (Or.inl (by decide)) (Or.inl (by decide))) (fun c j hc => k1 c j (Or.inl ((show ∀ c ∈ m_Cc, c ≠ 98 by decide) c hc)) (Or.inl ((show ∀ c ∈ m_Cc, c ≠ 99 by decide) c hc)))
    have v1 : I1 98 (24 + b) = nI b := by rw [e1, am_uc (by decide), am_ue]
    have v2 : I1 99 b = 0 := by rw [e1, am_ue]
    rw [C1.2.2.1, am_at_n hv (by omega), C1.2.2.2.1] at base
    -- what follows from the next memory
    have key : ∀ (I2 : am_I) (f2 : Int32), (f2 = 0 ∨ f2 = 1) → (∀ c j, (c ≠ 98 ∨ (j ≠ b ∧ j ≠ 31)) → I2 c j = I1 c j) → (I2 98 b = if b < pn p ∧ g_in b m = true then pmv p b else I 98 b) → ((if f2 = 0 then I2 98 31 else g_f1 p m k (b + 1) (I2 98 31)) = (if f = 0 then I 98 31 else g_f1 p m (k + 1) b (I 98 31))) → (∀ o, f_m_begins0_25 d m f2 (nI (b + 1)) I2 J = some o → f_m_begins0_25 d m f (nI b) I J = some o) → ∃ I', f_m_begins0_25 d m f (nI b) I J = some (none, I', J) ∧ (∀ j, b ≤ j → j < 6 → I' 98 (24 + j) = nI j ∧ I' 99 j = 0 ∧ I' 98 j = if j < pn p ∧ g_in j m = true then pmv p j else I 98 j) ∧ I' 98 31 = (if f = 0 then I 98 31 else g_f1 p m (k + 1) b (I 98 31)) ∧ I' 68 49 = -1 ∧ ∀ c j, (c ≠ 98 ∨ ((j < b ∨ 6 ≤ j) ∧ (j < 24 + b ∨ 30 ≤ j) ∧ j ≠ 31)) → (c ≠ 99 ∨ j < b ∨ 6 ≤ j) → (c ≠ 68 ∨ j ≠ 49) → I' c j = I c j := by
      intro I2 f2 hf2 k2 w1 w2 step
      have C2 : m_C p v I2 := C1.keep (k2 68 18 (Or.inl (by decide))) (fun c j hc => k2 c j (Or.inl ((show ∀ c ∈ m_Cc, c ≠ 98 by decide) c hc)))
      obtain ⟨I', a1, a2, a3, a4, a5⟩ := ih (b + 1) f2 I2 (by omega) C2 hf2
      refine ⟨I', step _ a1, fun j h1 h2 => ?_, a3.trans w2, a4, fun c j h1 h2 h3 => ?_⟩
      · by_cases e : j = b
        · subst e
          refine ⟨?_, ?_, ?_⟩
          · rw [a5 98 (24 + j) (Or.inr (by omega)) (Or.inl (by decide)) (Or.inl (by decide)), k2 98 (24 + j) (Or.inr (by omega)), v1]
          · rw [a5 99 j (Or.inl (by decide)) (Or.inr (by omega)) (Or.inl (by decide)), k2 99 j (Or.inl (by decide)), v2]
          · rw [a5 98 j (Or.inr (by omega)) (Or.inl (by decide)) (Or.inl (by decide)), w1]
        · obtain ⟨q1, q2, q3⟩ := a2 j (by omega) h2
          refine ⟨q1, q2, ?_⟩
          rw [q3, k2 98 j (Or.inr (by omega)), k1 98 j (Or.inr (by omega)) (Or.inl (by decide))]
      · rw [a5 c j (h1.imp id (fun q => by omega)) (h2.imp id (fun q => by omega)) h3, k2 c j (h1.imp id (fun q => by omega)), k1 c j (h1.imp id (fun q => by omega)) (h2.imp id (fun q => by omega))]
    by_cases hp : pn p ≤ b
    · rw [if_pos (nI_le hp (by omega)), nI_1] at base
      refine key I1 f hf (fun _ _ _ => rfl) ?_ ?_ base
      · rw [if_neg (by omega), k1 98 b (Or.inr (by omega)) (Or.inl (by decide))]
      · rw [k1 98 31 (Or.inr (by omega)) (Or.inl (by decide))]
        rcases hf with hf | hf
        · rw [if_pos hf, if_pos hf]
        · rw [hf, if_neg (by decide), if_neg (by decide)]
          show _ = (if b < pn p ∧ g_in b m = true then nI b else g_f1 p m k (b + 1) (I 98 31))
          rw [if_neg (by omega)]
    · have hbp : b < pn p := by omega
      rw [if_neg (nI_ge hbp (by omega))] at base
      by_cases hin : g_in b m = true
      · rw [if_neg (fun q => g_in_0.mp q hin), am_i6, pk_mul, nI_add, am_at_n (by omega) (by omega), am_at_n (by omega) (by omega), C1.2.2.2.2.2.2.2.1 b hbp] at base
        rcases hf with hf | hf
        · rw [if_pos hf, nI_1] at base
          refine key _ 0 (Or.inl rfl) (fun c j h => ?_) ?_ ?_ base
          · rcases h with h | h
            · exact am_uc h
            · exact am_uk h.1
          · rw [am_ue, if_pos ⟨hbp, hin⟩]
          · rw [am_uk (by omega), k1 98 31 (Or.inr (by omega)) (Or.inl (by decide)), if_pos rfl, if_pos hf]
        · rw [if_neg (by rw [hf]; decide), aq_31, nI_1] at base
          refine key _ 0 (Or.inl rfl) (fun c j h => ?_) ?_ ?_ base
          · rcases h with h | h
            · rw [am_uc h, am_uc h]
            · rw [am_uk h.2, am_uk h.1]
          · rw [am_uk (by omega), am_ue, if_pos ⟨hbp, hin⟩]
          · rw [am_ue, if_pos rfl, hf, if_neg (by decide)]
            show _ = (if b < pn p ∧ g_in b m = true then nI b else g_f1 p m k (b + 1) (I 98 31))
            rw [if_pos ⟨hbp, hin⟩]
      · rw [if_pos (g_in_0.mpr hin), nI_1] at base
        refine key I1 f hf (fun _ _ _ => rfl) ?_ ?_ base
        · rw [if_neg (fun q => hin q.2), k1 98 b (Or.inr (by omega)) (Or.inl (by decide))]
        · rw [k1 98 31 (Or.inr (by omega)) (Or.inl (by decide))]
          rcases hf with hf | hf
          · rw [if_pos hf, if_pos hf]
          · rw [hf, if_neg (by decide), if_neg (by decide)]
            show _ = (if b < pn p ∧ g_in b m = true then nI b else g_f1 p m k (b + 1) (I 98 31))
            rw [if_neg (fun q => hin q.2)]
theorem lo_begins0_2 (d : Nat) (m : Int32) (J : am_J) (o : Option Value × am_I × am_J) : ∀ k x (I : am_I), x + k = 40 → f_m_begins0_25 d m 1 0 (am_fil I 98 x k 0) J = some o → f_m_begins0_2 d m (nI x) I J = some o := by
  intro k
  induction k with
  | zero =>
    intro x I hx h
    rw [am_fil_0] at h
    refine b_m_begins0_2 d _ _ I J _ ?_
    rw [if_pos (show (40 : Int32) ≤ nI x from nI_le (a := 40) (by omega) (by omega))]
    exact h
  | succ k ih =>
    intro x I hx h
    refine b_m_begins0_2 d _ _ I J _ ?_
    rw [if_neg (show ¬ (40 : Int32) ≤ nI x from nI_ge (b := 40) (by omega) (by omega)), am_at_n (by omega) (by omega), nI_1]
    refine ih (x + 1) _ (by omega) ?_
    rw [am_fil_s]
    exact h
theorem s_m_begins0 (d v : Nat) (p : g_Plan) (I : am_I) (J : am_J) (m : Int32) (hC : m_C p v I) : ∃ I', f_m_begins0_0 d m I J = some (none, I', J) ∧ (∀ k, k < 34 → I' 98 k = g_outS p m k) ∧ (∀ b, b < 6 → I' 99 b = 0) ∧ I' 68 49 = -1 ∧ m_C p v I' ∧ ∀ c k, m_G c k → I' c k = I c k := by
  have hn := hC.1.1
  have kf : ∀ c k, c ≠ 98 → am_fil I 98 0 40 0 c k = I c k := fun c k hc => am_fc hc
  have C0 : m_C p v (am_fil I 98 0 40 0) := hC.keep (kf 68 18 (by decide)) (fun c k hc => kf c k ((show ∀ c ∈ m_Cc, c ≠ 98 by decide) c hc))
  obtain ⟨I', a1, a2, a3, a4, a5⟩ := s_m_begins25 d v p J m 6 0 1 (am_fil I 98 0 40 0) (by omega) C0 (Or.inr rfl)
  have kG : ∀ c k, m_G c k → I' c k = I c k := fun c k hc => by
    have q := hc.c
    rw [a5 c k (Or.inl q.1) (Or.inl q.2.1) q.2.2, kf c k q.1]
  refine ⟨I', b_m_begins0_0 d m I J _ (lo_begins0_2 d m J _ 40 0 I (by omega) a1), fun k hk => ?_, fun b hb => (a2 b (by omega) hb).2.1, a4, hC.G kG, kG⟩
  unfold g_outS
  have f0 : ∀ j, j < 40 → am_fil I 98 0 40 0 98 j = 0 := fun j hj => am_fe (by omega) (by omega)
  by_cases c1 : k < 6
  · rw [(a2 k (by omega) c1).2.2, f0 k (by omega)]
    by_cases c2 : k < pn p
    · rw [if_pos c2]
      by_cases c3 : g_in k m = true
      · rw [if_pos ⟨c2, c3⟩, if_pos c3]
      · rw [if_neg (fun q => c3 q.2), if_neg c3]
    · rw [if_neg c2, if_neg (fun q => c2 q.1), if_neg (by omega), if_neg (by omega)]
  · rw [if_neg (show ¬ k < pn p by omega)]
    by_cases c4 : 24 ≤ k ∧ k < 30
    · obtain ⟨b, rfl⟩ : ∃ b, k = 24 + b := ⟨k - 24, by omega⟩
      rw [if_pos c4, (a2 b (by omega) (by omega)).1, show 24 + b - 24 = b by omega]
    · rw [if_neg c4]
      by_cases c5 : k = 31
      · subst c5
        rw [if_pos rfl, a3, if_neg (by decide), f0 31 (by decide)]
      · rw [if_neg c5, a5 98 k (Or.inr ⟨by omega, by omega, c5⟩) (Or.inl (by decide)) (Or.inl (by decide)), f0 k (by omega)]

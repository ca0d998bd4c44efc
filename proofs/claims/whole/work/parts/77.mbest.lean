/-! the best rows of moves, by the reference -/
def g_na (p : g_Plan) (r : g_Row) : Nat → Nat → Nat → Option (Nat × Nat)
  | 0, _, _ => none
  | k + 1, b, t => if g_open r b = true ∧ t < ptc p then some (b, t) else g_na p r k (b + 1) 0
noncomputable def g_rem (F : g_Row → (Nat → Nat) → g_S → g_S) (p : g_Plan) (r : g_Row) (path : Nat → Nat) (d : Nat) : Nat → Nat → Nat → g_S → g_S
  | 0, _, _, s => s
  | k + 1, b, t, s => g_lb F p r path d k (b + 1) (if g_open r b = true then g_lt F p r path d b (ptc p - t) t s else s)
theorem g_rem_s (F : g_Row → (Nat → Nat) → g_S → g_S) (p : g_Plan) (r : g_Row) (path : Nat → Nat) (d k b t : Nat) (s : g_S) : g_rem F p r path d (k + 1) b t s = g_lb F p r path d k (b + 1) (if g_open r b = true then g_lt F p r path d b (ptc p - t) t s else s) := rfl
theorem g_lb_rem (F : g_Row → (Nat → Nat) → g_S → g_S) (p : g_Plan) (r : g_Row) (path : Nat → Nat) (d : Nat) : ∀ k b s, g_lb F p r path d k b s = g_rem F p r path d k b 0 s := by
  intro k b s
  cases k with
  | zero => rfl
  | succ k =>
    rw [g_rem_s, Nat.sub_zero]
    rfl
theorem g_na_none {F : g_Row → (Nat → Nat) → g_S → g_S} {p : g_Plan} {r : g_Row} {path : Nat → Nat} {d : Nat} : ∀ k b t s, t ≤ ptc p → g_na p r k b t = none → g_rem F p r path d k b t s = s := by
  intro k
  induction k with
  | zero => intro b t s _ _; rfl
  | succ k ih =>
    intro b t s ht h
    unfold g_na at h
    rw [g_rem_s]
    by_cases c : g_open r b = true ∧ t < ptc p
    · rw [if_pos c] at h; cases h
    · rw [if_neg c] at h
      have e : (if g_open r b = true then g_lt F p r path d b (ptc p - t) t s else s) = s := by
        by_cases ho : g_open r b = true
        · have : ptc p - t = 0 := by
            by_cases q : t < ptc p
            · exact absurd ⟨ho, q⟩ c
            · omega
          rw [if_pos ho, this]
          rfl
        · rw [if_neg ho]
      rw [e, g_lb_rem]
      exact ih (b + 1) 0 s (by omega) h
theorem g_na_some {F : g_Row → (Nat → Nat) → g_S → g_S} {p : g_Plan} {r : g_Row} {path : Nat → Nat} {d : Nat} : ∀ k b t s b' t', b + k = pn p → t ≤ ptc p → g_na p r k b t = some (b', t') → (b' < pn p ∧ t' < ptc p ∧ g_open r b' = true ∧ (b < b' ∨ (b = b' ∧ t ≤ t'))) ∧ g_rem F p r path d k b t s = g_rem F p r path d (pn p - b') b' (t' + 1) (F (g_mv p (fun _ => 0) (-1) r b' (g_soon p r b') (pth p t')).2 (g_pt path d (10 * b' + t')) s) := by
  intro k
  induction k with
  | zero => intro b t s b' t' _ _ h; cases h
  | succ k ih =>
    intro b t s b' t' hb ht h
    unfold g_na at h
    by_cases c : g_open r b = true ∧ t < ptc p
    · rw [if_pos c] at h
      cases h
      refine ⟨⟨by omega, c.2, c.1, Or.inr ⟨rfl, Nat.le_refl _⟩⟩, ?_⟩
      rw [show pn p - b = k + 1 by omega]
      rw [g_rem_s, g_rem_s, if_pos c.1, if_pos c.1, show ptc p - t = (ptc p - (t + 1)) + 1 by omega]
      rfl
    · rw [if_neg c] at h
      obtain ⟨⟨q1, q2, q3, q4⟩, q5⟩ := ih (b + 1) 0 s b' t' (by omega) (by omega) h
      refine ⟨⟨q1, q2, q3, by omega⟩, ?_⟩
      rw [← q5]
      rw [g_rem_s]
      have e : (if g_open r b = true then g_lt F p r path d b (ptc p - t) t s else s) = s := by
        by_cases ho : g_open r b = true
        · have : ptc p - t = 0 := by
            by_cases q : t < ptc p
            · exact absurd ⟨ho, q⟩ c
            · omega
          rw [if_pos ho, this]
          rfl
        · rw [if_neg ho]
      rw [e, g_lb_rem]
/-- no number of moves, no end's mark is below 0 -/
def g_nn (p : g_Plan) (r : g_Row) : Prop := ∀ b, b < pn p → 0 ≤ (r b).toInt ∧ 0 ≤ (r (18 + b)).toInt
theorem g_nn_c {p : g_Plan} {r r' : g_Row} (hn : pn p ≤ 6) (h : g_R p r r') (hc : g_nn p r) : g_nn p r' := fun b hb => by
  have q := h.same hn hb
  rw [← q.1, ← q.2.2.2]
  exact hc b hb
theorem g_nn_o {p : g_Plan} {r : g_Row} (h : g_nn p r) {b : Nat} (hb : b < pn p) : (g_open r b = true) ↔ (¬ r b = 0 ∧ r (18 + b) ≤ 0) := by
  have q := h b hb
  have e : (g_open r b = true) ↔ (0 < r b ∧ r (18 + b) = 0) := decide_eq_true_iff
  rw [e, Int32.lt_iff_toInt_lt, Int32.le_iff_toInt_le, ← Int32.toInt_inj, ← Int32.toInt_inj, show (0 : Int32).toInt = 0 from rfl]
  omega
theorem g_mv_nn {p : g_Plan} (hn : pn p ≤ 6) {r : g_Row} {b : Nat} (h : g_nn p r) (ho : g_open r b = true) (hb : b < pn p) (lt : g_Row) (ha beg x : Int32) : g_nn p (g_mv p lt ha r b beg x).2 := by
  intro j hj
  have e18 : (g_mv p lt ha r b beg x).2 (18 + j) = r (18 + j) := by
    unfold g_mv
    split
    · show g_set _ (6 + b) _ (18 + j) = _
      rw [g_set_n _ _ (by omega), g_set_n _ _ (by omega), g_set_n _ _ (by omega), g_set_n _ _ (by omega), g_set_n _ _ (by omega), g_set_n _ _ (by omega)]
    · show g_fall p r b (18 + j) = _
      unfold g_fall
      rw [g_set_n _ _ (by omega), g_set_n _ _ (by omega), g_set_n _ _ (by omega), g_set_n _ _ (by omega)]
  rw [e18]
  refine ⟨?_, (h j hj).2⟩
  by_cases q : beg + x ≤ pck p
  · by_cases e : j = b
    · subst e
      have e1 : (g_mv p lt ha r j beg x).2 j = r j - 1 := by
        unfold g_mv
        rw [if_pos q]
        show g_set _ (6 + j) _ j = _
        rw [g_set_n _ _ (by omega), g_set_n _ _ (by omega), g_set_n _ _ (by omega), g_set_n _ _ (by omega), g_set_e]
      rw [e1]
      have q0 : 0 < (r j).toInt := Int32.lt_iff_toInt_lt.mp (of_decide_eq_true ho).1
      have q3 := Int32.toInt_lt (r j)
      rw [g_sub32 (by rw [show (1 : Int32).toInt = 1 from rfl]; omega) (by rw [show (1 : Int32).toInt = 1 from rfl]; omega), show (1 : Int32).toInt = 1 from rfl]
      omega
    · have e1 : (g_mv p lt ha r b beg x).2 j = r j := by
        unfold g_mv
        rw [if_pos q]
        show g_set _ (6 + b) _ j = _
        rw [g_set_n _ _ (by omega), g_set_n _ _ (by omega), g_set_n _ _ (by omega), g_set_n _ _ (by omega), g_set_n _ _ e, g_set_n _ _ (by omega)]
      rw [e1]
      exact (h j hj).1
  · have e1 : (g_mv p lt ha r b beg x).2 j = r j := by
      unfold g_mv
      rw [if_neg q]
      show g_fall p r b j = _
      unfold g_fall
      rw [g_set_n _ _ (by omega), g_set_n _ _ (by omega), g_set_n _ _ (by omega), g_set_n _ _ (by omega)]
    rw [e1]
    exact (h j hj).1
/-- the row that stood at a depth -/
def m_sr (I : am_I) (d : Nat) : g_Row := fun k => I 105 (40 * d + k)
theorem s_m_nextAt10 (lv d v : Nat) (p : g_Plan) (J : am_J) (r : g_Row) (hd : d < 4) : ∀ k b t (I : am_I), b + k = pn p → t ≤ ptc p → m_C p v I → g_R p r (m_sr I d) → g_nn p r → I 101 d = nI b → I 102 d = nI t → ∃ I', f_m_nextAt_10 lv (nI d) I J = some (some (.int (match g_na p r k b t with | none => 0 | some _ => 1)), I', J) ∧ (∀ b' t', g_na p r k b t = some (b', t') → I' 101 d = nI b' ∧ I' 102 d = nI t') ∧ ∀ c j, (c ≠ 101 ∨ j ≠ d) → (c ≠ 102 ∨ j ≠ d) → I' c j = I c j := by
  intro k
  induction k with
  | zero =>
    intro b t I hb ht hC hR hnn h101 h102
    have hn := hC.1.1
    have base := b_m_nextAt_10 lv (nI d) I J
    rw [am_at_n hd (by omega), hC.2.2.1, am_at_n hC.2.1 (by omega), hC.2.2.2.1, h101, if_pos (nI_le (by omega) (by omega)), am_at_n hd (by omega), am_at_n hC.2.1 (by omega), hC.2.2.2.1, h101, if_pos (nI_le (by omega) (by omega)), am_b01_0] at base
    exact ⟨I, base _ rfl, fun b' t' h => (by cases h), fun _ _ _ _ => rfl⟩
  | succ k ih =>
    intro b t I hb ht hC hR hnn h101 h102
    have hn := hC.1.1
    have htc := hC.1.2.2.2.2.2.2.2.2.2.2.1
    have hbp : b < pn p := by omega
    have base := b_m_nextAt_10 lv (nI d) I J
    have q := hR.same hn hbp
    have e1 : I 105 (40 * d + b) = r b := q.1.symm
    have e2 : I 105 (40 * d + 18 + b) = r (18 + b) := by rw [q.2.2.2]; show I 105 (40 * d + 18 + b) = I 105 (40 * d + (18 + b)); congr 1; omega
    rw [am_at_n hd (by omega), hC.2.2.1, am_at_n hC.2.1 (by omega), hC.2.2.2.1, h101, if_neg (nI_ge (by omega) (by omega)), am_at_n hd (by omega), am_at_n hC.2.1 (by omega), hC.2.2.2.2.2.2.2.2.2.1, h102] at base
    -- on to the next board
    have nx : ∃ I', f_m_nextAt_10 lv (nI d) (am_upd (am_upd I 101 d (nI (b + 1))) 102 d 0) J = some (some (.int (match g_na p r k (b + 1) 0 with | none => 0 | some _ => 1)), I', J) ∧ (∀ b' t', g_na p r k (b + 1) 0 = some (b', t') → I' 101 d = nI b' ∧ I' 102 d = nI t') ∧ ∀ c j, (c ≠ 101 ∨ j ≠ d) → (c ≠ 102 ∨ j ≠ d) → I' c j = I c j := by
      have k1 : ∀ c j, (c ≠ 101 ∨ j ≠ d) → (c ≠ 102 ∨ j ≠ d) → am_upd (am_upd I 101 d (nI (b + 1))) 102 d 0 c j = I c j := by
        intro c j h1 h2
        have z : am_upd (am_upd I 101 d (nI (b + 1))) 102 d 0 c j = am_upd I 101 d (nI (b + 1)) c j := by
          rcases h2 with h | h
          · exact am_uc h
          · exact am_uk h
        rw [z]
        rcases h1 with h | h
        · exact am_uc h
        · exact am_uk h
      obtain ⟨I', a1, a2, a3⟩ := ih (b + 1) 0 _ (by omega) (by omega) (hC.keep (k1 68 18 (Or.inl (by decide)) (Or.inl (by decide))) (fun c j hc => k1 c j (Or.inl ((show ∀ c ∈ m_Cc, c ≠ 101 by decide) c hc)) (Or.inl ((show ∀ c ∈ m_Cc, c ≠ 102 by decide) c hc)))) (fun j h1 h2 => by
        show r j = am_upd (am_upd I 101 d (nI (b + 1))) 102 d 0 105 (40 * d + j)
        rw [k1 105 _ (Or.inl (by decide)) (Or.inl (by decide))]
        exact hR j h1 h2) hnn (by rw [am_uc (by decide), am_ue]) am_ue
      exact ⟨I', a1, a2, fun c j h1 h2 => (a3 c j h1 h2).trans (k1 c j h1 h2)⟩
    unfold g_na
    by_cases ht2 : t < ptc p
    · rw [if_neg (nI_ge ht2 (by omega)), am_at_n hd (by omega), h101, am_i40, pk_mul, nI_add, am_at_n (by omega) (by omega), e1] at base
      by_cases hz : r b = 0
      · rw [if_pos hz, am_at_n hd (by omega), am_at_n hd (by omega), am_at_n hd (by omega), h101, nI_1] at base
        rw [if_neg (fun q => ((g_nn_o hnn hbp).mp q.1).1 hz)]
        obtain ⟨I', a1, a2, a3⟩ := nx
        exact ⟨I', base _ a1, a2, a3⟩
      · rw [if_neg hz, am_at_n hd (by omega), h101, am_i18, nI_add, nI_add, am_at_n (by omega) (by omega), e2] at base
        by_cases hle : r (18 + b) ≤ 0
        · have ho : g_open r b = true := (g_nn_o hnn hbp).mpr ⟨hz, hle⟩
          rw [if_pos hle, am_at_n hd (by omega), am_at_n hC.2.1 (by omega), hC.2.2.2.1, h101, if_neg (nI_ge (by omega) (by omega)), am_b01_1] at base
          rw [if_pos ⟨ho, ht2⟩]
          exact ⟨I, base _ rfl, fun b' t' h => by cases h; exact ⟨h101, h102⟩, fun _ _ _ _ => rfl⟩
        · rw [if_neg hle, am_at_n hd (by omega), am_at_n hd (by omega), am_at_n hd (by omega), h101, nI_1] at base
          rw [if_neg (fun q => hle ((g_nn_o hnn hbp).mp q.1).2)]
          obtain ⟨I', a1, a2, a3⟩ := nx
          exact ⟨I', base _ a1, a2, a3⟩
    · rw [if_pos (nI_le (by omega) (by omega)), am_at_n hd (by omega), am_at_n hd (by omega), am_at_n hd (by omega), h101, nI_1] at base
      rw [if_neg (fun q => ht2 q.2)]
      obtain ⟨I', a1, a2, a3⟩ := nx
      exact ⟨I', base _ a1, a2, a3⟩
/-- the best so far, at the reference -/
def m_ks (s : g_S) (I : am_I) : Prop := I 68 59 = s.1 ∧ (s.1 = 0 ∨ (s.1 = 1 ∧ I 68 58 = s.2.1 ∧ I 68 57 = nI s.2.2.1 ∧ s.2.2.1 ≤ 4 ∧ ∀ k, k < s.2.2.1 → I 103 k = nI (s.2.2.2 k / 10) ∧ I 104 k = nI (s.2.2.2 k % 10)))
theorem m_ks.keep {s : g_S} {I I' : am_I} (h : m_ks s I) (e : ∀ k, k = 57 ∨ k = 58 ∨ k = 59 → I' 68 k = I 68 k) (e2 : ∀ k, k < 4 → I' 103 k = I 103 k ∧ I' 104 k = I 104 k) : m_ks s I' := by
  refine ⟨(e 59 (by omega)).trans h.1, h.2.imp id (fun q => ⟨q.1, (e 58 (by omega)).trans q.2.1, (e 57 (by omega)).trans q.2.2.1, q.2.2.2.1, fun k hk => ⟨(e2 k (by omega)).1.trans (q.2.2.2.2 k hk).1, (e2 k (by omega)).2.trans (q.2.2.2.2 k hk).2⟩⟩)⟩
theorem s_m_notesRow45 (lv len : Nat) (J : am_J) (path : Nat → Nat) (hl : len ≤ 4) : ∀ k x (I : am_I), x + k = len → (∀ j, j < len → I 101 j = nI (path j / 10) ∧ I 102 j = nI (path j % 10)) → (∀ j, j < x → I 103 j = nI (path j / 10) ∧ I 104 j = nI (path j % 10)) → ∃ I', f_m_notesRow_45 lv (nI len) (nI x) I J = some (none, I', J) ∧ (∀ j, j < len → I' 103 j = nI (path j / 10) ∧ I' 104 j = nI (path j % 10)) ∧ ∀ c j, c ≠ 103 → c ≠ 104 → I' c j = I c j := by
  intro k
  induction k with
  | zero =>
    intro x I hx h1 h2
    refine ⟨I, b_m_notesRow_45 lv _ _ I J _ ?_, fun j hj => h2 j (by omega), fun _ _ _ _ => rfl⟩
    rw [if_pos (nI_le (by omega) (by omega))]
  | succ k ih =>
    intro x I hx h1 h2
    have base := b_m_notesRow_45 lv (nI len) (nI x) I J
    rw [if_neg (nI_ge (by omega) (by omega)), am_at_n (by omega) (by omega), am_at_n (by omega) (by omega), am_at_n (by omega) (by omega), am_at_n (by omega) (by omega), am_uc (show 102 ≠ 103 by decide), nI_1] at base
    obtain ⟨I', a1, a2, a3⟩ := ih (x + 1) (am_upd (am_upd I 103 x (I 101 x)) 104 x (I 102 x)) (by omega) (fun j hj => by rw [am_uc (by decide), am_uc (by decide), am_uc (by decide), am_uc (by decide)]; exact h1 j hj) (fun j hj => by
      by_cases e : j = x
      · subst e
        rw [am_uc (by decide), am_ue, am_ue]
        exact h1 j (by omega)
      · rw [am_uc (by decide), am_uk e, am_uk e, am_uc (by decide)]
        exact h2 j (by omega))
    exact ⟨I', base _ a1, a2, fun c j q1 q2 => by rw [a3 c j q1 q2, am_uc q2, am_uc q1]⟩
theorem s_m_notesRow (lv len : Nat) (path : Nat → Nat) (s : g_S) (w : Int32) (I : am_I) (J : am_J) (hl : len ≤ 4) (hw : I 98 32 = w) (hp : ∀ j, j < len → I 101 j = nI (path j / 10) ∧ I 102 j = nI (path j % 10)) (hs : m_ks s I) : ∃ I', f_m_notesRow_0 lv (nI len) I J = some (none, I', J) ∧ m_ks (g_kr s len w path) I' ∧ ∀ c j, c ≠ 103 → c ≠ 104 → (c ≠ 68 ∨ (j ≠ 57 ∧ j ≠ 58 ∧ j ≠ 59)) → I' c j = I c j := by
  have base := b_m_notesRow_0 lv (nI len) I J
  obtain ⟨I1, e1⟩ : ∃ I1, I1 = am_upd (am_upd (am_upd I 68 59 1) 68 58 w) 68 57 (nI len) := ⟨_, rfl⟩
  have k1 : ∀ c j, (c ≠ 68 ∨ (j ≠ 57 ∧ j ≠ 58 ∧ j ≠ 59)) → I1 c j = I c j := fun c j h => by
    rw [e1]
    rcases h with h | h
    · rw [am_uc h, am_uc h, am_uc h]
    · rw [am_uk h.1, am_uk h.2.1, am_uk h.2.2]
  have x1 : ∀ u, am_upd I 68 59 u 98 32 = w := fun u => by rw [am_uc (by decide), hw]
  rw [aq_32, aq_32, x1, ← e1, hw, am_b01_1] at base
  obtain ⟨I2, a2, p2, k2⟩ := s_m_notesRow45 lv len J path hl len 0 I1 (by omega) (fun j hj => by rw [k1 101 j (Or.inl (by decide)), k1 102 j (Or.inl (by decide))]; exact hp j hj) (fun j hj => by omega)
  have a2 : f_m_notesRow_45 lv (nI len) 0 I1 J = some (none, I2, J) := a2
  have take : m_ks (1, w, len, path) I2 ∧ ∀ c j, c ≠ 103 → c ≠ 104 → (c ≠ 68 ∨ (j ≠ 57 ∧ j ≠ 58 ∧ j ≠ 59)) → I2 c j = I c j := by
    refine ⟨⟨?_, Or.inr ⟨rfl, ?_, ?_, hl, p2⟩⟩, fun c j h1 h2 h3 => (k2 c j h1 h2).trans (k1 c j h3)⟩
    · rw [k2 68 59 (by decide) (by decide), e1, am_uk (by decide), am_uk (by decide), am_ue]
    · rw [k2 68 58 (by decide) (by decide), e1, am_uk (by decide), am_ue]
    · rw [k2 68 57 (by decide) (by decide), e1, am_ue]
  unfold g_kr
  by_cases h0 : s.1 = 0
  · rw [if_pos (hs.1.trans h0)] at base
    rw [if_pos h0]
    exact ⟨I2, base _ a2, take⟩
  · have hs1 := hs.2.resolve_left h0
    rw [if_neg (by rw [hs.1]; exact h0), hs1.2.1] at base
    rw [if_neg h0]
    by_cases h1 : s.2.1 < w
    · rw [if_pos h1] at base
      rw [if_neg (Int32.not_le.mpr h1)]
      exact ⟨I2, base _ a2, take⟩
    · rw [if_neg h1] at base
      rw [if_pos (Int32.not_lt.mp h1)]
      exact ⟨I, base _ rfl, hs, fun _ _ _ _ _ => rfl⟩

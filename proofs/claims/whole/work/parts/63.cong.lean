/-! rows that are alike: the same but for what nobody looks at -/
def g_same (r r' : g_Row) (b : Nat) : Prop := r b = r' b ∧ r (6 + b) = r' (6 + b) ∧ r (12 + b) = r' (12 + b) ∧ r (18 + b) = r' (18 + b)
def g_hi (r r' : g_Row) : Prop := ∀ k, 24 ≤ k → k < 34 → r k = r' k
/-- alike to the eye of a rule: closed boards may differ -/
def g_E (p : g_Plan) (r r' : g_Row) : Prop := g_hi r r' ∧ ∀ b, b < pn p → g_same r r' b ∨ (g_open r b = false ∧ g_open r' b = false)
/-- alike but for moves made at boards that are none -/
def g_R (p : g_Plan) (r r' : g_Row) : Prop := ∀ k, k < 34 → ¬ (12 + pn p ≤ k ∧ k < 18) → r k = r' k
theorem g_R.hi {p : g_Plan} {r r' : g_Row} (h : g_R p r r') : g_hi r r' := fun k h1 h2 => h k h2 (by omega)
theorem g_R.same {p : g_Plan} {r r' : g_Row} (h : g_R p r r') (hn : pn p ≤ 6) {b : Nat} (hb : b < pn p) : g_same r r' b := ⟨h _ (by omega) (by omega), h _ (by omega) (by omega), h _ (by omega) (by omega), h _ (by omega) (by omega)⟩
theorem g_R.E {p : g_Plan} {r r' : g_Row} (h : g_R p r r') (hn : pn p ≤ 6) : g_E p r r' := ⟨h.hi, fun _ hb => Or.inl (h.same hn hb)⟩
theorem g_R.sy {p : g_Plan} {r r' : g_Row} (h : g_R p r r') : g_R p r' r := fun k h1 h2 => (h k h1 h2).symm
theorem g_R.tr {p : g_Plan} {r r' r'' : g_Row} (h : g_R p r r') (h' : g_R p r' r'') : g_R p r r'' := fun k h1 h2 => (h k h1 h2).trans (h' k h1 h2)
theorem g_R.rf (p : g_Plan) (r : g_Row) : g_R p r r := fun _ _ _ => rfl
theorem g_open_c {r r' : g_Row} {b : Nat} (h : g_same r r' b) : g_open r b = g_open r' b := by
  unfold g_open
  rw [h.1, h.2.2.2]
theorem g_E.op {p : g_Plan} {r r' : g_Row} (h : g_E p r r') {b : Nat} (hb : b < pn p) : g_open r b = g_open r' b := by
  rcases h.2 b hb with q | ⟨q1, q2⟩
  · exact g_open_c q
  · rw [q1, q2]
theorem g_E.sm {p : g_Plan} {r r' : g_Row} (h : g_E p r r') {b : Nat} (hb : b < pn p) (ho : g_open r b = true) : g_same r r' b := by
  rcases h.2 b hb with q | ⟨q1, q2⟩
  · exact q
  · rw [q1] at ho; cases ho
theorem g_E.over {p : g_Plan} {r r' : g_Row} (h : g_E p r r') : g_over p r = g_over p r' := by
  unfold g_over
  rw [h.1 33 (by decide) (by decide), h.1 30 (by decide) (by decide), am_cnt_congr (pn p) 0 (fun j _ hj => h.op (by omega))]
theorem g_at_c {r r' : g_Row} (h : g_hi r r') (hat : g_at r) : g_at r' := by
  obtain ⟨s, hs, he⟩ := hat
  exact ⟨s, hs, by rw [← h 31 (by decide) (by decide), he]⟩
theorem g_dist_c {p : g_Plan} {r r' : g_Row} (h : g_hi r r') (hat : g_at r) {b : Nat} (hb : b < 6) : g_dist p r b = g_dist p r' b := by
  obtain ⟨s, hs, he⟩ := hat
  unfold g_dist
  rw [← h 31 (by decide) (by decide), he, nI_clamp (by omega), h (24 + b) (by omega) (by omega), h (24 + s) (by omega) (by omega)]
theorem g_soon_c {p : g_Plan} {r r' : g_Row} (h : g_hi r r') (hat : g_at r) {b : Nat} (hb : b < 6) (hs : g_same r r' b) : g_soon p r b = g_soon p r' b := by
  unfold g_soon
  rw [g_dist_c h hat hb, h 30 (by decide) (by decide), hs.2.1]
theorem g_fact_c {r r' : g_Row} (h : g_hi r r') {b : Nat} (hs : g_same r r' b) (x y : Int32) : g_fact r b x y = g_fact r' b x y := by
  funext k
  unfold g_fact
  rw [hs.1, hs.2.1, hs.2.2.1, h 32 (by decide) (by decide)]
theorem g_ask_c {p : g_Plan} {r r' : g_Row} (h : g_hi r r') (a : Nat) {b : Nat} (hs : g_same r r' b) (x y : Int32) : g_ask p a r b x y = g_ask p a r' b x y := by
  unfold g_ask
  rw [g_fact_c h hs]
theorem g_sc_c {p : g_Plan} {r r' : g_Row} (h : g_hi r r') (hat : g_at r) (rule : Nat) (x : Int32) {b : Nat} (hb : b < 6) (hs : g_same r r' b) : g_sc p rule x r b = g_sc p rule x r' b := by
  unfold g_sc
  rw [g_soon_c h hat hb hs, g_ask_c h 0 hs, hs.1, hs.2.1]
theorem g_chs_c {p : g_Plan} {r r' : g_Row} (hn : pn p ≤ 6) (h : g_E p r r') (hat : g_at r) (rule : Nat) (x : Int32) : ∀ k b w s, b + k = pn p → g_chs p rule x r k b w s = g_chs p rule x r' k b w s := by
  intro k
  induction k with
  | zero => intro b w s _; rfl
  | succ k ih =>
    intro b w s hb
    unfold g_chs
    rw [← h.op (b := b) (by omega), ih (b + 1) w s (by omega)]
    by_cases ho : g_open r b = true
    · rw [← g_sc_c h.1 hat rule x (b := b) (by omega) (h.sm (by omega) ho), ih (b + 1) (nI b) _ (by omega)]
    · rw [if_neg ho, if_neg ho]
theorem g_choose_c {p : g_Plan} {r r' : g_Row} (hn : pn p ≤ 6) (h : g_E p r r') (hat : g_at r) (rule : Nat) (x : Int32) : g_choose p rule x r = g_choose p rule x r' := g_chs_c hn h hat rule x _ _ _ _ (by omega)
theorem g_set_c2 {r r' : g_Row} {k j : Nat} {v : Int32} (h : r j = r' j) : g_set r k v j = g_set r' k v j := by
  unfold g_set
  rw [h]
theorem g_hi.set {r r' : g_Row} (h : g_hi r r') (k : Nat) (v : Int32) : g_hi (g_set r k v) (g_set r' k v) := fun j h1 h2 => g_set_c2 (h j h1 h2)
theorem g_R.set {p : g_Plan} {r r' : g_Row} (h : g_R p r r') (k : Nat) (v : Int32) : g_R p (g_set r k v) (g_set r' k v) := fun j h1 h2 => g_set_c2 (h j h1 h2)
theorem g_open_n {r : g_Row} {k b : Nat} {v : Int32} (h1 : k ≠ b) (h2 : k ≠ 18 + b) : g_open (g_set r k v) b = g_open r b := by
  unfold g_open
  rw [g_set_n _ _ (Ne.symm h1), g_set_n _ _ (Ne.symm h2)]
theorem g_same.set {r r' : g_Row} {b : Nat} (h : g_same r r' b) (k : Nat) (v : Int32) : g_same (g_set r k v) (g_set r' k v) b := ⟨g_set_c2 h.1, g_set_c2 h.2.1, g_set_c2 h.2.2.1, g_set_c2 h.2.2.2⟩
theorem g_E.up {p : g_Plan} {r r' : g_Row} (h : g_E p r r') (hn : pn p ≤ 6) (k : Nat) (hk : 24 ≤ k) (v : Int32) : g_E p (g_set r k v) (g_set r' k v) := by
  refine ⟨h.1.set k v, fun b hb => ?_⟩
  rcases h.2 b hb with q | ⟨q1, q2⟩
  · exact Or.inl (q.set k v)
  · exact Or.inr ⟨by rw [g_open_n (by omega) (by omega)]; exact q1, by rw [g_open_n (by omega) (by omega)]; exact q2⟩
theorem g_E.lo {p : g_Plan} {r r' : g_Row} (h : g_E p r r') (hn : pn p ≤ 6) {b : Nat} (hb : b < pn p) (hs : g_same r r' b) (k : Nat) (hk : k = b ∨ k = 6 + b ∨ k = 12 + b ∨ k = 18 + b) (v : Int32) : g_E p (g_set r k v) (g_set r' k v) ∧ g_same (g_set r k v) (g_set r' k v) b := by
  refine ⟨⟨h.1.set k v, fun j hj => ?_⟩, hs.set k v⟩
  by_cases e : j = b
  · subst e; exact Or.inl (hs.set k v)
  · rcases h.2 j hj with q | ⟨q1, q2⟩
    · exact Or.inl (q.set k v)
    · exact Or.inr ⟨by rw [g_open_n (by omega) (by omega)]; exact q1, by rw [g_open_n (by omega) (by omega)]; exact q2⟩
theorem g_fall_E {p : g_Plan} {r r' : g_Row} (hn : pn p ≤ 6) (h : g_E p r r') (b : Nat) : g_E p (g_fall p r b) (g_fall p r' b) := by
  unfold g_fall
  rw [h.1 32 (by decide) (by decide)]
  exact (((h.up hn 30 (by decide) _).up hn 31 (by decide) _).up hn 32 (by decide) _).up hn 33 (by decide) _
theorem g_mv_E {p : g_Plan} {r r' : g_Row} (hn : pn p ≤ 6) (h : g_E p r r') (lt : g_Row) (ha : Int32) {b : Nat} (hb : b < pn p) (hs : g_same r r' b) (beg x : Int32) : (g_mv p lt ha r b beg x).1 = (g_mv p lt ha r' b beg x).1 ∧ g_E p (g_mv p lt ha r b beg x).2 (g_mv p lt ha r' b beg x).2 := by
  unfold g_mv
  by_cases he : beg + x ≤ pck p
  · rw [if_pos he, if_pos he]
    refine ⟨rfl, ?_⟩
    show g_E p (g_set _ (6 + b) _) (g_set _ (6 + b) _)
    rw [g_ask_c h.1 0 hs, g_ask_c h.1 1 hs, h.1 32 (by decide) (by decide), hs.1, hs.2.2.1]
    have h1 := h.up hn 32 (by decide) (r' 32 + g_ask p 0 r' b x beg)
    have s1 := hs.set 32 (r' 32 + g_ask p 0 r' b x beg)
    have h2 := h1.lo hn hb s1 b (by omega) (r' b - 1)
    have h3 := h2.1.lo hn hb h2.2 (12 + b) (by omega) (r' (12 + b) + 1)
    have h4 := h3.1.up hn 30 (by decide) (beg + x)
    have s4 := h3.2.set 30 (beg + x)
    have h5 := h4.up hn 31 (by decide) (nI b)
    have s5 := s4.set 31 (nI b)
    exact (h5.lo hn hb s5 (6 + b) (by omega) _).1
  · rw [if_neg he, if_neg he]
    exact ⟨rfl, g_fall_E hn h b⟩
theorem g_flw_E {p : g_Plan} (hn : pn p ≤ 6) (lt : g_Row) (ha : Int32) (rule : Nat) (x : Int32) : ∀ k r r', g_at r → g_E p r r' → g_E p (g_flw p lt ha rule x k r) (g_flw p lt ha rule x k r') := by
  intro k
  induction k with
  | zero => intro r r' _ h; exact h
  | succ k ih =>
    intro r r' hat h
    unfold g_flw
    rw [← h.over, ← g_choose_c hn h hat]
    by_cases ho : g_over p r = true
    · rw [if_pos ho, if_pos ho]; exact h
    · rw [if_neg ho, if_neg ho]
      obtain ⟨b, hb, hbo, hbe⟩ := g_choose_o rule x ho
      rw [hbe, nI_clamp (by omega)]
      by_cases hm : nI b = -1
      · rw [if_pos hm, if_pos hm]; exact h
      · rw [if_neg hm, if_neg hm]
        have hs := h.sm hb hbo
        rw [← g_soon_c h.1 hat (by omega) hs]
        exact ih _ _ ⟨b, by omega, g_mv_31 p lt ha r b _ x (by omega)⟩ (g_mv_E hn h lt ha hb hs _ x).2
theorem g_fall_R {p : g_Plan} {r r' : g_Row} (h : g_R p r r') (b : Nat) : g_R p (g_fall p r b) (g_fall p r' b) := by
  unfold g_fall
  rw [h.hi 32 (by decide) (by decide)]
  exact (((h.set 30 _).set 31 _).set 32 _).set 33 _
theorem g_mv_R {p : g_Plan} {r r' : g_Row} (hn : pn p ≤ 6) (h : g_R p r r') (lt : g_Row) (ha : Int32) {b : Nat} (hb : b < pn p) (beg x : Int32) : (g_mv p lt ha r b beg x).1 = (g_mv p lt ha r' b beg x).1 ∧ g_R p (g_mv p lt ha r b beg x).2 (g_mv p lt ha r' b beg x).2 := by
  have hs := h.same hn hb
  unfold g_mv
  by_cases he : beg + x ≤ pck p
  · rw [if_pos he, if_pos he]
    refine ⟨rfl, ?_⟩
    show g_R p (g_set _ (6 + b) _) (g_set _ (6 + b) _)
    rw [g_ask_c h.hi 0 hs, g_ask_c h.hi 1 hs, h.hi 32 (by decide) (by decide), hs.1, hs.2.2.1]
    exact (((((h.set _ _).set _ _).set _ _).set _ _).set _ _).set _ _
  · rw [if_neg he, if_neg he]
    exact ⟨rfl, g_fall_R h b⟩
theorem g_of_E {p : g_Plan} {r r' : g_Row} (hn : pn p ≤ 6) (h : g_E p r r') (hat : g_at r) {b : Nat} (hb : b < pn p) (hs : g_same r r' b) : (g_of p r b).1 = (g_of p r' b).1 ∧ g_E p (g_of p r b).2 (g_of p r' b).2 := by
  unfold g_of
  rw [g_soon_c h.1 hat (by omega) hs, g_ask_c h.1 2 hs, h.1 32 (by decide) (by decide)]
  by_cases he : g_soon p r' b ≤ pck p
  · rw [if_pos he, if_pos he]
    by_cases hd : g_ask p 2 r' b 0 (g_soon p r' b) ≤ 0
    · rw [if_pos hd, if_pos hd]
      exact ⟨rfl, (h.up hn 31 (by decide) _).up hn 30 (by decide) _⟩
    · rw [if_neg hd, if_neg hd]
      have s3 := ((hs.set 31 (nI b)).set 30 (g_soon p r' b)).set 32 (r' 32 + g_ask p 2 r' b 0 (g_soon p r' b))
      exact ⟨rfl, ((((h.up hn 31 (by decide) _).up hn 30 (by decide) _).up hn 32 (by decide) _).lo hn hb s3 (18 + b) (by omega) _).1⟩
  · rw [if_neg he, if_neg he]
    exact ⟨rfl, g_fall_E hn h b⟩
theorem g_of_R {p : g_Plan} {r r' : g_Row} (hn : pn p ≤ 6) (h : g_R p r r') (hat : g_at r) {b : Nat} (hb : b < pn p) : (g_of p r b).1 = (g_of p r' b).1 ∧ g_R p (g_of p r b).2 (g_of p r' b).2 := by
  have hs := h.same hn hb
  unfold g_of
  rw [g_soon_c h.hi hat (by omega) hs, g_ask_c h.hi 2 hs, h.hi 32 (by decide) (by decide)]
  by_cases he : g_soon p r' b ≤ pck p
  · rw [if_pos he, if_pos he]
    by_cases hd : g_ask p 2 r' b 0 (g_soon p r' b) ≤ 0
    · rw [if_pos hd, if_pos hd]
      exact ⟨rfl, (h.set _ _).set _ _⟩
    · rw [if_neg hd, if_neg hd]
      exact ⟨rfl, (((h.set _ _).set _ _).set _ _).set _ _⟩
  · rw [if_neg he, if_neg he]
    exact ⟨rfl, g_fall_R h b⟩
theorem g_go_R {p : g_Plan} {r r' : g_Row} (h : g_R p r r') (b : Nat) : g_R p (g_go p r b) (g_go p r' b) := by
  unfold g_go
  rw [h.hi 32 (by decide) (by decide)]
  exact (h.set _ _).set _ _

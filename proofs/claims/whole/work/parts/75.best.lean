/-! the best rows of moves, by the class -/
abbrev g_S : Type := Int32 × Int32 × Nat × (Nat → Nat)
def g_kr (s : g_S) (len : Nat) (w : Int32) (path : Nat → Nat) : g_S := if s.1 = 0 then (1, w, len, path) else if w ≤ s.2.1 then s else (1, w, len, path)
def g_pt (path : Nat → Nat) (d c : Nat) : Nat → Nat := fun k => if k = d then c else path k
noncomputable def g_lt (F : g_Row → (Nat → Nat) → g_S → g_S) (p : g_Plan) (r : g_Row) (path : Nat → Nat) (d b : Nat) : Nat → Nat → g_S → g_S
  | 0, _, s => s
  | n + 1, t, s => g_lt F p r path d b n (t + 1) (F (g_mv p (fun _ => 0) (-1) r b (g_soon p r b) (pth p t)).2 (g_pt path d (10 * b + t)) s)
noncomputable def g_lb (F : g_Row → (Nat → Nat) → g_S → g_S) (p : g_Plan) (r : g_Row) (path : Nat → Nat) (d : Nat) : Nat → Nat → g_S → g_S
  | 0, _, s => s
  | n + 1, b, s => g_lb F p r path d n (b + 1) (if g_open r b = true then g_lt F p r path d b (ptc p) 0 s else s)
noncomputable def g_tr (p : g_Plan) : Nat → Nat → g_Row → (Nat → Nat) → g_S → g_S
  | 0, d, r, path, s => g_kr s d (r 32) path
  | k + 1, d, r, path, s => if g_over p r = true then g_kr s d (r 32) path else g_lb (fun r' path' s' => g_tr p k (d + 1) r' path' s') p r path d (pn p) 0 s
theorem g_lt_id {F : g_Row → (Nat → Nat) → g_S → g_S} {p : g_Plan} {r : g_Row} {path : Nat → Nat} {d b : Nat} {s : g_S} (h : ∀ t path', t < ptc p → F (g_mv p (fun _ => 0) (-1) r b (g_soon p r b) (pth p t)).2 path' s = s) : ∀ n t, t + n = ptc p → g_lt F p r path d b n t s = s := by
  intro n
  induction n with
  | zero => intro t _; rfl
  | succ n ih =>
    intro t ht
    unfold g_lt
    rw [h t _ (by omega)]
    exact ih (t + 1) (by omega)
theorem g_lb_id {F : g_Row → (Nat → Nat) → g_S → g_S} {p : g_Plan} {r : g_Row} {path : Nat → Nat} {d : Nat} {s : g_S} (h : ∀ b t path', b < pn p → t < ptc p → F (g_mv p (fun _ => 0) (-1) r b (g_soon p r b) (pth p t)).2 path' s = s) : ∀ n b, b + n = pn p → g_lb F p r path d n b s = s := by
  intro n
  induction n with
  | zero => intro b _; rfl
  | succ n ih =>
    intro b hb
    unfold g_lb
    have e : (if g_open r b = true then g_lt F p r path d b (ptc p) 0 s else s) = s := by
      split
      · exact g_lt_id (fun t path' ht => h b t path' (by omega) ht) (ptc p) 0 (by omega)
      · rfl
    rw [e]
    exact ih (b + 1) (by omega)
/-- what can't bring more needn't be looked at -/
theorem g_tr_pr {p : g_Plan} (h0 : g_OK p) : ∀ (k d : Nat) (r : g_Row) (path : Nat → Nat) (s : g_S) (B : Int), s.1 ≠ 0 → g_bd r B → B + 999 * k ≤ 1000000000 → (r 32).toInt + 999 * k ≤ s.2.1.toInt → g_tr p k d r path s = s := by
  have hn := h0.1
  have leaf : ∀ (d : Nat) (r : g_Row) (path : Nat → Nat) (s : g_S), s.1 ≠ 0 → (r 32).toInt ≤ s.2.1.toInt → g_kr s d (r 32) path = s := by
    intro d r path s hs h
    unfold g_kr
    rw [if_neg hs, if_pos (Int32.le_iff_toInt_le.mpr h)]
  intro k
  induction k with
  | zero => intro d r path s B hs _ _ h; exact leaf d r path s hs (by omega)
  | succ k ih =>
    intro d r path s B hs hB hB2 h
    unfold g_tr
    split
    · exact leaf d r path s hs (by omega)
    · refine g_lb_id (fun b t path' hb ht => ?_) (pn p) 0 (by omega)
      have hb6 : b < 6 := by omega
      refine ih (d + 1) _ path' s (B + 999) hs (g_mv_bd h0 hB (by omega) _ _ hb6 _ _) (by omega) ?_
      have hq : ((g_mv p (fun _ => 0) (-1) r b (g_soon p r b) (pth p t)).2 32).toInt ≤ (r 32).toInt + 999 := by
        have hB1 := hB.1
        have hB3 := hB.2
        rw [g_mv_32 _ _ _ _ _ _ _ hb6]
        split
        · have := h0.2.2.2.2.2.1 b (g_fact r b (pth p t) (g_soon p r b))
          unfold g_ask
          rw [g_add32 (by omega) (by omega)]
          omega
        · have := h0.2.2.2.1
          rw [g_sub32 (by omega) (by omega)]
          omega
      omega
/-! the memory: rows saved and taken back -/
theorem g_row_ext {I I' : am_I} {q q' : Nat} (h13 : ∀ b, b < 6 → I' 13 b = I 13 b) (h : ∀ b, b < 6 → I' (q' + 1) b = I (q + 1) b ∧ I' (q' + 2) b = I (q + 2) b ∧ I' (q' + 3) b = I (q + 3) b ∧ I' (q' + 4) b = I (q + 4) b) (h7 : I' q' 7 = I q 7) (h8 : I' q' 8 = I q 8) (h9 : I' q' 9 = I q 9) (h10 : I' q' 10 = I q 10) : g_row I' q' = g_row I q := by
  funext k
  by_cases c1 : k < 6
  · rw [g_row_l c1, g_row_l c1]; exact (h k c1).1
  by_cases c2 : k < 12
  · obtain ⟨b, rfl⟩ : ∃ b, k = 6 + b := ⟨k - 6, by omega⟩
    rw [g_row_r (by omega), g_row_r (by omega)]; exact (h b (by omega)).2.1
  by_cases c3 : k < 18
  · obtain ⟨b, rfl⟩ : ∃ b, k = 12 + b := ⟨k - 12, by omega⟩
    rw [g_row_m (by omega), g_row_m (by omega), h13 b (by omega), (h b (by omega)).1]
  by_cases c4 : k < 24
  · obtain ⟨b, rfl⟩ : ∃ b, k = 18 + b := ⟨k - 18, by omega⟩
    rw [g_row_e (by omega), g_row_e (by omega)]; exact (h b (by omega)).2.2.1
  by_cases c5 : k < 30
  · obtain ⟨b, rfl⟩ : ∃ b, k = 24 + b := ⟨k - 24, by omega⟩
    rw [g_row_s (by omega), g_row_s (by omega)]; exact (h b (by omega)).2.2.2
  by_cases c6 : k < 34
  · rcases (show k = 30 ∨ k = 31 ∨ k = 32 ∨ k = 33 by omega) with rfl | rfl | rfl | rfl
    · rw [g_row_30, g_row_30, h7]
    · rw [g_row_31, g_row_31, h8]
    · rw [g_row_32, g_row_32, h9]
    · rw [g_row_33, g_row_33, h10]
  · unfold g_row
    rw [if_neg c1, if_neg c2, if_neg c3, if_neg c4, if_neg c5, if_neg (by omega), if_neg (by omega), if_neg (by omega), if_neg (by omega), if_neg c1, if_neg c2, if_neg c3, if_neg c4, if_neg c5, if_neg (by omega), if_neg (by omega), if_neg (by omega), if_neg (by omega)]
/-- a row saved in the cell c from a on -/
def g_sv (I : am_I) (c a : Nat) (r : g_Row) : Prop := I c a = r 30 ∧ I c (a + 1) = r 31 ∧ I c (a + 2) = r 32 ∧ I c (a + 3) = r 33 ∧ ∀ b, b < 6 → I c (a + 4 + b) = r b ∧ I c (a + 10 + b) = r (6 + b) ∧ I c (a + 16 + b) = r (18 + b)
theorem g_sv_of {I I' : am_I} {c a q : Nat} (h : ∀ j, j < 22 → I' c (a + j) = g_w I q j) (hf : I q 10 = 0 ∨ I q 10 = 1) : g_sv I' c a (g_row I q) := by
  refine ⟨h 0 (by decide), h 1 (by decide), h 2 (by decide), ?_, fun b hb => ⟨?_, ?_, ?_⟩⟩
  · rw [h 3 (by decide), g_row_33]
    show (if I q 10 = 0 then 0 else 1) = I q 10
    rcases hf with e | e
    · rw [if_pos e, e]
    · rw [if_neg (by rw [e]; decide), e]
  · rw [show a + 4 + b = a + (b + 4) by omega, h _ (by omega), g_row_l hb]
    show (if b < 6 then I (q + 1) b else _) = _
    rw [if_pos hb]
  · rw [show a + 10 + b = a + ((6 + b) + 4) by omega, h _ (by omega), g_row_r hb]
    show (if 6 + b < 6 then _ else if 6 + b < 12 then I (q + 2) (6 + b - 6) else _) = _
    rw [if_neg (by omega), if_pos (by omega), show 6 + b - 6 = b by omega]
  · rw [show a + 16 + b = a + ((12 + b) + 4) by omega, h _ (by omega), g_row_e hb]
    show (if 12 + b < 6 then _ else if 12 + b < 12 then _ else I (q + 3) (12 + b - 12)) = _
    rw [if_neg (by omega), if_neg (by omega), show 12 + b - 12 = b by omega]
theorem g_sv.keep {I I' : am_I} {c a : Nat} {r : g_Row} (h : g_sv I c a r) (e : ∀ j, a ≤ j → j < a + 22 → I' c j = I c j) : g_sv I' c a r := ⟨(e _ (by omega) (by omega)).trans h.1, (e _ (by omega) (by omega)).trans h.2.1, (e _ (by omega) (by omega)).trans h.2.2.1, (e _ (by omega) (by omega)).trans h.2.2.2.1, fun b hb => ⟨(e _ (by omega) (by omega)).trans (h.2.2.2.2 b hb).1, (e _ (by omega) (by omega)).trans (h.2.2.2.2 b hb).2.1, (e _ (by omega) (by omega)).trans (h.2.2.2.2 b hb).2.2⟩⟩
/-- what of a row isn't saved: seats, moves told -/
def g_shp (I : am_I) (q : Nat) (r : g_Row) : Prop := (∀ b, b < 6 → I (q + 4) b = r (24 + b)) ∧ (∀ b, b < 6 → r (12 + b) = I 13 b - r b) ∧ ∀ k, 34 ≤ k → r k = 0
theorem g_shp_of (I : am_I) (q : Nat) : g_shp I q (g_row I q) := by
  refine ⟨fun b hb => (g_row_s hb).symm, fun b hb => by rw [g_row_m hb, g_row_l hb], fun k hk => ?_⟩
  unfold g_row
  rw [if_neg (by omega), if_neg (by omega), if_neg (by omega), if_neg (by omega), if_neg (by omega), if_neg (by omega), if_neg (by omega), if_neg (by omega), if_neg (by omega)]
theorem g_row_is {I : am_I} {q : Nat} {r : g_Row} (h : g_shp I q r) (h1 : ∀ b, b < 6 → I (q + 1) b = r b ∧ I (q + 2) b = r (6 + b) ∧ I (q + 3) b = r (18 + b)) (h7 : I q 7 = r 30) (h8 : I q 8 = r 31) (h9 : I q 9 = r 32) (h10 : I q 10 = r 33) : g_row I q = r := by
  funext k
  by_cases c1 : k < 6
  · rw [g_row_l c1]; exact (h1 k c1).1
  by_cases c2 : k < 12
  · obtain ⟨b, rfl⟩ : ∃ b, k = 6 + b := ⟨k - 6, by omega⟩
    rw [g_row_r (by omega)]; exact (h1 b (by omega)).2.1
  by_cases c3 : k < 18
  · obtain ⟨b, rfl⟩ : ∃ b, k = 12 + b := ⟨k - 12, by omega⟩
    rw [g_row_m (by omega), h.2.1 b (by omega), (h1 b (by omega)).1]
  by_cases c4 : k < 24
  · obtain ⟨b, rfl⟩ : ∃ b, k = 18 + b := ⟨k - 18, by omega⟩
    rw [g_row_e (by omega)]; exact (h1 b (by omega)).2.2
  by_cases c5 : k < 30
  · obtain ⟨b, rfl⟩ : ∃ b, k = 24 + b := ⟨k - 24, by omega⟩
    rw [g_row_s (by omega)]; exact h.1 b (by omega)
  by_cases c6 : k < 34
  · rcases (show k = 30 ∨ k = 31 ∨ k = 32 ∨ k = 33 by omega) with rfl | rfl | rfl | rfl
    · rw [g_row_30, h7]
    · rw [g_row_31, h8]
    · rw [g_row_32, h9]
    · rw [g_row_33, h10]
  · rw [h.2.2 k (by omega)]
    exact (g_shp_of I q).2.2 k (by omega)
theorem g_back (d a : Nat) (I : am_I) (J : am_J) (r : g_Row) (ha : a + 22 ≤ 88) (hs : g_sv I 41 a r) (h33 : r 33 = 0 ∨ r 33 = 1) (sh : g_shp I 47 r) : ∃ I', f_guide_trial_readFrom_0 d (nI a) I J = some (none, I', J) ∧ g_row I' 47 = r ∧ ∀ c k, (c ≠ 47 ∨ k < 7 ∨ 10 < k) → c ≠ 48 → c ≠ 49 → c ≠ 50 → I' c k = I c k := by
  obtain ⟨I', a1, ⟨q7, q8, q9, q10, qb⟩, k1⟩ := s_guide_trial_readFrom d a I J ha
  refine ⟨I', a1, g_row_is ⟨fun b hb => ?_, fun b hb => ?_, sh.2.2⟩ (fun b hb => ?_) (q7.trans hs.1) (q8.trans hs.2.1) (q9.trans hs.2.2.1) ?_, k1⟩
  · rw [k1 51 b (Or.inl (by decide)) (by decide) (by decide) (by decide)]; exact sh.1 b hb
  · rw [k1 13 b (Or.inl (by decide)) (by decide) (by decide) (by decide)]; exact sh.2.1 b hb
  · have q := qb b hb
    have z := hs.2.2.2.2 b hb
    exact ⟨q.1.trans z.1, q.2.1.trans z.2.1, q.2.2.trans z.2.2⟩
  · rw [q10, hs.2.2.2.1]
    rcases h33 with e | e
    · rw [e, if_neg (by decide)]
    · rw [e, if_pos rfl]
/-- the best so far, in the class -/
def g_ks (s : g_S) (I : am_I) : Prop := I 40 17 = s.1 ∧ (s.1 = 0 ∨ (s.1 = 1 ∧ I 40 7 = s.2.1 ∧ I 40 6 = nI s.2.2.1 ∧ s.2.2.1 ≤ 4 ∧ ∀ k, k < s.2.2.1 → I 43 k = nI (s.2.2.2 k)))
theorem g_ks.keep {s : g_S} {I I' : am_I} (h : g_ks s I) (e : ∀ k, k = 6 ∨ k = 7 ∨ k = 17 → I' 40 k = I 40 k) (e2 : ∀ k, k < 4 → I' 43 k = I 43 k) : g_ks s I' := by
  refine ⟨(e 17 (by omega)).trans h.1, h.2.imp id (fun q => ⟨q.1, (e 7 (by omega)).trans q.2.1, (e 6 (by omega)).trans q.2.2.1, q.2.2.2.1, fun k hk => (e2 k (by omega)).trans (q.2.2.2.2 k hk)⟩)⟩
theorem s_guide_keepRow (d len : Nat) (w : Int32) (path : Nat → Nat) (s : g_S) (I : am_I) (J : am_J) (hl : len ≤ 4) (hp : ∀ j, j < len → I 42 j = nI (path j)) (hs : g_ks s I) : ∃ I', f_guide_keepRow_0 d (nI len) w I J = some (none, I', J) ∧ g_ks (g_kr s len w path) I' ∧ ∀ c k, c ≠ 43 → (c ≠ 40 ∨ (k ≠ 6 ∧ k ≠ 7 ∧ k ≠ 17)) → I' c k = I c k := by
  have base := b_guide_keepRow_0 d (nI len) w I J
  obtain ⟨I1, e1⟩ : ∃ I1, I1 = am_cpy (am_upd (am_upd (am_upd I 40 17 1) 40 7 w) 40 6 (nI len)) 42 0 43 0 4 := ⟨_, rfl⟩
  have take : g_ks (1, w, len, path) I1 ∧ ∀ c k, c ≠ 43 → (c ≠ 40 ∨ (k ≠ 6 ∧ k ≠ 7 ∧ k ≠ 17)) → I1 c k = I c k := by
    rw [e1]
    refine ⟨⟨?_, Or.inr ⟨rfl, ?_, ?_, hl, fun k hk => ?_⟩⟩, fun c k h1 h2 => ?_⟩
    · rw [am_cc (by decide), am_uk (by decide), am_uk (by decide), am_ue]
    · rw [am_cc (by decide), am_uk (by decide), am_ue]
    · rw [am_cc (by decide), am_ue]
    · have hk : k < len := hk
      rw [am_ce (by omega) (by omega), am_uc (by decide), am_uc (by decide), am_uc (by decide), Nat.zero_add, Nat.sub_zero]
      exact hp k hk
    · rw [am_cc h1]
      rcases h2 with h | h
      · rw [am_uc h, am_uc h, am_uc h]
      · rw [am_uk h.1, am_uk h.2.1, am_uk h.2.2]
  have fin : ∀ k : am_Out, am_b01 1 (am_cpc 0 0 4 4 4 k none) none = k := fun k => by
    rw [am_b01_1]
    exact am_cpc_n (s := 0) (d := 0) (n := 4) (by omega) (by omega) (by omega) (by omega)
  rw [fin, show (0 : Int32).toNatClampNeg = 0 from rfl, show (4 : Int32).toNatClampNeg = 4 from rfl, ← e1] at base
  unfold g_kr
  by_cases h0 : s.1 = 0
  · rw [if_pos (hs.1.trans h0)] at base
    rw [if_pos h0]
    exact ⟨I1, base _ rfl, take⟩
  · have hs1 := hs.2.resolve_left h0
    rw [if_neg (by rw [hs.1]; exact h0), hs1.2.1] at base
    rw [if_neg h0]
    by_cases h1 : s.2.1 < w
    · rw [if_pos h1] at base
      rw [if_neg (Int32.not_le.mpr h1)]
      exact ⟨I1, base _ rfl, take⟩
    · rw [if_neg h1] at base
      rw [if_pos (Int32.not_lt.mp h1)]
      exact ⟨I, base _ rfl, hs, fun _ _ _ _ => rfl⟩
/-- all is ready to try rows from the depth d on -/
def g_tp (p : g_Plan) (W d : Nat) (r : g_Row) (path : Nat → Nat) (s : g_S) (I : am_I) : Prop := g_C p I ∧ g_row I 47 = r ∧ g_at r ∧ (r 33 = 0 ∨ r 33 = 1) ∧ (∀ b, b < 6 → I 52 b = 0) ∧ I 47 6 = -1 ∧ I 40 9 = nI W ∧ (∀ j, j < d → I 42 j = nI (path j)) ∧ g_ks s I
def g_tf (a d : Nat) (I I' : am_I) : Prop := ∀ c k, (c ≠ 47 ∨ k < 7 ∨ 10 < k) → c ∉ ([19, 20, 43, 48, 49, 50] : List Nat) → (c ≠ 40 ∨ (k ≠ 6 ∧ k ≠ 7 ∧ k ≠ 17)) → (c ≠ 41 ∨ k < a) → (c ≠ 42 ∨ k < d) → I' c k = I c k
theorem g_tf.tr {a a' d d' : Nat} {I I' I'' : am_I} (h : g_tf a d I I') (h' : g_tf a' d' I' I'') (ha : a ≤ a') (hd : d ≤ d') : g_tf a d I I'' := fun c k h1 h2 h3 h4 h5 => (h' c k h1 h2 h3 (h4.imp id (fun q => by omega)) (h5.imp id (fun q => by omega))).trans (h c k h1 h2 h3 h4 h5)
theorem g_tf.C {p : g_Plan} {a d : Nat} {I I' : am_I} (h : g_tf a d I I') (hC : g_C p I) : g_C p I' := hC.keep (fun c k hc => h c k (Or.inl ((show ∀ c ∈ ([1, 2, 3, 12, 13, 14, 15, 16, 17, 18, 21] : List Nat), c ≠ 47 by decide) c hc)) ((show ∀ c ∈ ([1, 2, 3, 12, 13, 14, 15, 16, 17, 18, 21] : List Nat), c ∉ ([19, 20, 43, 48, 49, 50] : List Nat) by decide) c hc) (Or.inl ((show ∀ c ∈ ([1, 2, 3, 12, 13, 14, 15, 16, 17, 18, 21] : List Nat), c ≠ 40 by decide) c hc)) (Or.inl ((show ∀ c ∈ ([1, 2, 3, 12, 13, 14, 15, 16, 17, 18, 21] : List Nat), c ≠ 41 by decide) c hc)) (Or.inl ((show ∀ c ∈ ([1, 2, 3, 12, 13, 14, 15, 16, 17, 18, 21] : List Nat), c ≠ 42 by decide) c hc)))
theorem g_tf.e {a d : Nat} {I I' : am_I} (h : g_tf a d I I') {c k : Nat} (hc : c ∉ ([19, 20, 40, 41, 42, 43, 47, 48, 49, 50] : List Nat)) : I' c k = I c k := by
  simp only [List.mem_cons, List.not_mem_nil, not_or] at hc
  refine h c k (Or.inl hc.2.2.2.2.2.2.1) ?_ (Or.inl hc.2.2.1) (Or.inl hc.2.2.2.1) (Or.inl hc.2.2.2.2.1)
  simp only [List.mem_cons, List.not_mem_nil, not_or]
  exact ⟨hc.1, hc.2.1, hc.2.2.2.2.2.1, hc.2.2.2.2.2.2.2.1, hc.2.2.2.2.2.2.2.2.1, hc.2.2.2.2.2.2.2.2.2.1, not_false⟩

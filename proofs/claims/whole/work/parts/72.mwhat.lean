/-! what the reference says of rules: shared, agreed, spare, best rule, best offer -/
theorem g_allN : ∀ n, n < 7 → ∀ m, m < 2 ^ n → nI (2 ^ n - 1) &&& (nI m ^^^ (-1)) = nI (2 ^ n - 1 - m) := by decide +kernel
/-- the best so far, class and reference -/
def g_ms (s : Int32 × Int32 × Int32) (best most : Int32) : Prop := (s.1 = 0 ∧ best = -1) ∨ (s.1 = 1 ∧ s.2.1 = most ∧ s.2.2 = best ∧ ¬ best < 0)
theorem g_ms_km {s : Int32 × Int32 × Int32} {best most v w : Int32} (h : g_ms s best most) (hw : ¬ w < 0) : if best < 0 ∨ most < v then g_ms (g_km s v w) w v else g_ms (g_km s v w) best most := by
  unfold g_km
  rcases h with ⟨h1, h2⟩ | ⟨h1, h2, h3, h4⟩
  · rw [if_pos (Or.inl (by rw [h2]; decide)), if_pos h1]
    exact Or.inr ⟨rfl, rfl, rfl, hw⟩
  · rw [if_neg (show ¬ s.1 = 0 by rw [h1]; decide), h2]
    by_cases q : most < v
    · rw [if_pos (Or.inr q), if_neg (Int32.not_le.mpr q)]
      exact Or.inr ⟨rfl, rfl, rfl, hw⟩
    · rw [if_neg (by rintro (q' | q'); exact h4 q'; exact q q'), if_pos (Int32.not_lt.mp q)]
      exact Or.inr ⟨h1, h2, h3, h4⟩
/-- what a master wins with a set, at the reference -/
theorem s_m_won (d rule i v : Nat) (p : g_Plan) (I : am_I) (J : am_J) (m : Int32) (hr : rule < 4) (hi : i < ptc p) (hC : m_C p v I) : ∃ I1 I2, f_m_begins0_0 d m I J = some (none, I1, J) ∧ f_m_goesBy_0 d (nI rule) (nI i) I1 J = some (some (.int (g_W p rule (pth p i) m)), I2, J) ∧ m_C p v I2 ∧ ∀ a k, m_G a k → I2 a k = I a k := by
  have hn := hC.1.1
  obtain ⟨I1, a1, r1, l1, h49, C1, k1⟩ := s_m_begins0 d v p I J m hC
  have R1 : g_R p (g_outS p m) (I1 98) := fun k q1 _ => (r1 k q1).symm
  have s30 := g_outS_30 p hn m
  obtain ⟨I2, a2, -, k2⟩ := s_m_plain d rule i v p I1 J (fun _ => 0) (-1) (g_outS p m) hr hi C1 (R1.E hn) (g_outS_at p hn m) (by rw [s30.1]; exact g_0ck hC.1) (g_capO p _ hC.1 (fun b hb => by
    rw [r1 b (by omega), g_outS_lo p m hb]
    split
    · exact Or.inl rfl
    · exact Or.inr rfl)) (fun b hb => l1 b (by omega)) h49
  have kk : ∀ a k, m_G a k → I2 a k = I a k := fun a k ha => by rw [k2 a k ha.F, k1 a k ha]
  exact ⟨I1, I2, a1, a2, hC.G kk, kk⟩
theorem s_m_shared46 (d rule i v : Nat) (p : g_Plan) (J : am_J) (x3 : Int32) (hr : rule < 4) (hi : i < ptc p) : ∀ k m best most s (I : am_I), m + k = 2 ^ pn p → m_C p v I → g_ms s best most → (0 < k ∨ s.1 = 1) → ∃ I', f_m_shared_46 d (nI rule) (nI i) x3 (nI (2 ^ pn p - 1)) best most (nI m) I J = some (some (.int (if x3 = 0 then (g_fs p rule (pth p i) k m s).2.1 else (g_fs p rule (pth p i) k m s).2.2)), I', J) ∧ ∀ a k, m_G a k → I' a k = I a k := by
  intro k
  induction k with
  | zero =>
    intro m best most s I hm hC hs h1
    have hn := hC.1.1
    have h64 := g_p64 (pn p) (by omega)
    have h1' : 1 ≤ 2 ^ pn p := Nat.one_le_two_pow
    have base := b_m_shared_46 d (nI rule) (nI i) x3 (nI (2 ^ pn p - 1)) best most (nI m) I J
    rw [if_pos (nI_lt (by omega) (by omega))] at base
    have h1 := h1.resolve_left (by omega)
    rcases hs with ⟨q, -⟩ | ⟨-, q2, q3, -⟩
    · rw [h1] at q; exact absurd q (by decide)
    · refine ⟨I, base _ ?_, fun _ _ _ => rfl⟩
      unfold g_fs
      rw [q2, q3]
      by_cases hx : x3 = 0
      · rw [if_pos hx, if_pos hx]
      · rw [if_neg hx, if_neg hx]
  | succ k ih =>
    intro m best most s I hm hC hs h1
    have hn := hC.1.1
    have h64 := g_p64 (pn p) (by omega)
    have base := b_m_shared_46 d (nI rule) (nI i) x3 (nI (2 ^ pn p - 1)) best most (nI m) I J
    obtain ⟨I1, I2, a1, a2, C2, k2⟩ := s_m_won d rule i v p I J (nI m) hr hi hC
    obtain ⟨I3, I4, a3, a4, C4, k4⟩ := s_m_won d rule i v p I2 J (nI (2 ^ pn p - 1 - m)) hr hi C2
    rw [if_neg (Int32.not_lt.mpr (nI_le (by omega) (by omega))), a1, am_bv_v, a2, am_bi_i, g_allN (pn p) (by omega) m (by omega), a3, am_bv_v, a4, am_bi_i, nI_1] at base
    have kk : ∀ a k, m_G a k → I4 a k = I a k := fun a k ha => (k4 a k ha).trans (k2 a k ha)
    have q := g_ms_km (v := g_W p rule (pth p i) (nI m) + g_W p rule (pth p i) (nI (2 ^ pn p - 1 - m))) hs (show ¬ nI m < 0 from nI_pos (by omega))
    have hs1 : (g_km s (g_W p rule (pth p i) (nI m) + g_W p rule (pth p i) (nI (2 ^ pn p - 1 - m))) (nI m)).1 = 1 := by
      unfold g_km
      rcases hs with ⟨q1, -⟩ | ⟨q1, -, -, -⟩
      · rw [if_pos q1]
      · rw [if_neg (show ¬ s.1 = 0 by rw [q1]; decide)]
        split
        · exact q1
        · rfl
    by_cases hb : best < 0
    · rw [if_pos hb] at base
      rw [if_pos (Or.inl hb)] at q
      obtain ⟨I', b1, b2⟩ := ih (m + 1) _ _ _ I4 (by omega) C4 q (Or.inr hs1)
      exact ⟨I', base _ b1, fun a k ha => (b2 a k ha).trans (kk a k ha)⟩
    · rw [if_neg hb] at base
      by_cases hv : most < g_W p rule (pth p i) (nI m) + g_W p rule (pth p i) (nI (2 ^ pn p - 1 - m))
      · rw [if_pos hv] at base
        rw [if_pos (Or.inr hv)] at q
        obtain ⟨I', b1, b2⟩ := ih (m + 1) _ _ _ I4 (by omega) C4 q (Or.inr hs1)
        exact ⟨I', base _ b1, fun a k ha => (b2 a k ha).trans (kk a k ha)⟩
      · rw [if_neg hv] at base
        rw [if_neg (by rintro (q' | q'); exact hb q'; exact hv q')] at q
        obtain ⟨I', b1, b2⟩ := ih (m + 1) _ _ _ I4 (by omega) C4 q (Or.inr hs1)
        exact ⟨I', base _ b1, fun a k ha => (b2 a k ha).trans (kk a k ha)⟩
theorem g_fs_first {p : g_Plan} {rule : Nat} {think : Int32} {k m : Nat} (a b a' b' : Int32) : g_fs p rule think (k + 1) m (0, a, b) = g_fs p rule think (k + 1) m (0, a', b') := by
  unfold g_fs g_km
  rw [if_pos rfl, if_pos rfl]
/-! bounds of what is won -/
def g_bd (r : g_Row) (B : Int) : Prop := -B ≤ (r 32).toInt ∧ (r 32).toInt ≤ B
theorem g_add32 {x y : Int32} (h : -2147483648 ≤ x.toInt + y.toInt) (h' : x.toInt + y.toInt ≤ 2147483647) : (x + y).toInt = x.toInt + y.toInt := by
  rw [Int32.toInt_add]
  apply Int.bmod_eq_of_le <;> omega
theorem g_sub32 {x y : Int32} (h : -2147483648 ≤ x.toInt - y.toInt) (h' : x.toInt - y.toInt ≤ 2147483647) : (x - y).toInt = x.toInt - y.toInt := by
  rw [Int32.toInt_sub]
  apply Int.bmod_eq_of_le <;> omega
theorem g_neg32 {x : Int32} (h : -2147483648 < x.toInt) : (-x).toInt = -x.toInt := by
  have := Int32.toInt_lt x
  rw [Int32.toInt_neg]
  apply Int.bmod_eq_of_le <;> omega
theorem g_mv_32 (p : g_Plan) (lt : g_Row) (ha : Int32) (r : g_Row) (b : Nat) (beg x : Int32) (hb : b < 6) : (g_mv p lt ha r b beg x).2 32 = if beg + x ≤ pck p then r 32 + g_ask p 0 r b x beg else r 32 - pfl p := by
  unfold g_mv
  split
  · show g_set _ (6 + b) _ 32 = _
    rw [g_set_n _ _ (by omega), g_set_n _ _ (by omega), g_set_n _ _ (by omega), g_set_n _ _ (by omega), g_set_n _ _ (by omega), g_set_e]
  · show g_fall p r b 32 = _
    unfold g_fall
    rw [g_set_n _ _ (by decide), g_set_e]
theorem g_mv_bd {p : g_Plan} (h0 : g_OK p) {r : g_Row} {B : Int} (hB : g_bd r B) (hB2 : B ≤ 1000000000) (lt : g_Row) (ha : Int32) {b : Nat} (hb : b < 6) (beg x : Int32) : g_bd (g_mv p lt ha r b beg x).2 (B + 999) := by
  unfold g_bd at hB ⊢
  rw [g_mv_32 p lt ha r b beg x hb]
  split
  · have := h0.2.2.2.2.2.1 b (g_fact r b x beg)
    unfold g_ask
    rw [g_add32 (by omega) (by omega)]
    omega
  · have := h0.2.2.2.1
    rw [g_sub32 (by omega) (by omega)]
    omega
theorem g_flw_bd {p : g_Plan} (h0 : g_OK p) (lt : g_Row) (ha : Int32) (rule : Nat) (x : Int32) : ∀ (k : Nat) (r : g_Row) (B : Int), g_bd r B → B + 999 * k ≤ 1000000000 → g_bd (g_flw p lt ha rule x k r) (B + 999 * k) := by
  have hn := h0.1
  intro k
  induction k with
  | zero => intro r B h _; simpa [g_flw] using h
  | succ k ih =>
    intro r B h hB
    have wk : g_bd r (B + 999 * (k + 1 : Nat)) := ⟨by have := h.1; omega, by have := h.2; omega⟩
    unfold g_flw
    by_cases ho : g_over p r = true
    · rw [if_pos ho]; exact wk
    · rw [if_neg ho]
      obtain ⟨b, hb, hbo, hbe⟩ := g_choose_o rule x ho
      rw [hbe, nI_clamp (by omega)]
      split
      · exact wk
      · have q := ih (g_mv p lt ha r b (g_soon p r b) x).2 (B + 999) (g_mv_bd h0 h (by omega) lt ha (by omega) _ x) (by omega)
        have e : B + 999 + 999 * (k : Int) = B + 999 * ((k + 1 : Nat) : Int) := by omega
        rw [e] at q
        exact q
/-! agreed -/
def g_ma (s : Int32 × Int32 × Int32) (best least : Int32) : Prop := (s.1 = 0 ∧ best = -1) ∨ (s.1 = 1 ∧ s.2.1 = -least ∧ s.2.2 = best ∧ ¬ best < 0 ∧ -2147483648 < least.toInt)
theorem g_ma_km {s : Int32 × Int32 × Int32} {best least v w : Int32} (h : g_ma s best least) (hw : ¬ w < 0) (hv : -2147483648 < v.toInt) : if best < 0 ∨ v < least then g_ma (g_km s (-v) w) w v else g_ma (g_km s (-v) w) best least := by
  unfold g_km
  rcases h with ⟨h1, h2⟩ | ⟨h1, h2, h3, h4, h5⟩
  · rw [if_pos (Or.inl (by rw [h2]; decide)), if_pos h1]
    exact Or.inr ⟨rfl, rfl, rfl, hw, hv⟩
  · rw [if_neg (show ¬ s.1 = 0 by rw [h1]; decide), h2]
    have e : (-v ≤ -least) ↔ ¬ v < least := by
      rw [Int32.le_iff_toInt_le, Int32.lt_iff_toInt_lt, g_neg32 hv, g_neg32 h5]
      omega
    by_cases q : v < least
    · rw [if_pos (Or.inr q), if_neg (fun z => e.mp z q)]
      exact Or.inr ⟨rfl, rfl, rfl, hw, hv⟩
    · rw [if_neg (by rintro (q' | q'); exact h4 q'; exact q q'), if_pos (e.mpr q)]
      exact Or.inr ⟨h1, h2, h3, h4, h5⟩
theorem g_km_1 {s : Int32 × Int32 × Int32} {v w : Int32} (h : s.1 = 0 ∨ s.1 = 1) : (g_km s v w).1 = 1 := by
  unfold g_km
  rcases h with h | h
  · rw [if_pos h]
  · rw [if_neg (by rw [h]; decide)]
    split
    · exact h
    · rfl
theorem s_m_agreed64 (d rule i a b x v : Nat) (p : g_Plan) (J : am_J) (r : g_Row) (x5 : Int32) (hr : rule < 4) (hi : i < ptc p) (ha : a < 6) (hb : b < 6) (hx : x < 10) (hB : g_bd r 1000000) : ∀ k y best least s (I : am_I), y + k = 10 → m_C p v I → m_N p r I → g_ma s best least → ∃ best' least' I', (∀ o, f_m_agreed_54 d (nI a) (nI b) (nI rule) (nI i) x5 best' least' (nI (x + 1)) I' J = some o → f_m_agreed_64 d (nI a) (nI b) (nI rule) (nI i) x5 best least (nI x) (nI y) I J = some o) ∧ g_ma (g_fa2 p rule (pth p i) r a b x k y s) best' least' ∧ m_C p v I' ∧ m_N p r I' ∧ ∀ c k, m_G c k → I' c k = I c k := by
  intro k
  induction k with
  | zero =>
    intro y best least s I hy hC hN hs
    have base := b_m_agreed_64 d (nI a) (nI b) (nI rule) (nI i) x5 best least (nI x) (nI y) I J
    rw [if_pos (show (10 : Int32) ≤ nI y from nI_le (a := 10) (by omega) (by omega)), nI_1] at base
    exact ⟨best, least, I, fun o h => base o h, hs, hC, hN, fun _ _ _ => rfl⟩
  | succ k ih =>
    intro y best least s I hy hC hN hs
    have hn := hC.1.1
    have base := b_m_agreed_64 d (nI a) (nI b) (nI rule) (nI i) x5 best least (nI x) (nI y) I J
    obtain ⟨I1, a1, C1, N1, R1, c1, l1, h1, k1⟩ := s_m_fresh d v p I J r hC hN
    obtain ⟨I2, e2⟩ : ∃ I2, I2 = am_upd (am_upd I1 99 a (nI x)) 99 b (nI y) := ⟨_, rfl⟩
    have k2 : ∀ c k, c ≠ 99 → I2 c k = I1 c k := fun c k hc => by rw [e2, am_uc hc, am_uc hc]
    have C2 : m_C p v I2 := C1.keep (k2 68 18 (by decide)) (fun c k hc => k2 c k ((show ∀ c ∈ m_Cc, c ≠ 99 by decide) c hc))
    have r2 : I2 98 = I1 98 := by funext j; exact k2 98 j (by decide)
    have l2 : ∀ j, j < pn p → I2 99 j = g_lt2 a x b y j := by
      intro j hj
      rw [e2, m_r, m_r]
      exact g_set_c2 (g_set_c2 (l1 j (by omega)))
    obtain ⟨I3, a3, -, k3⟩ := s_m_plain d rule i v p I2 J (g_lt2 a x b y) (-1) r hr hi C2 (by rw [r2]; exact R1.E hn) hN.2.1 hN.2.2.1 (by rw [r2]; exact c1) l2 (by rw [k2 68 49 (by decide)]; exact h1)
    rw [if_neg (show ¬ (10 : Int32) ≤ nI y from nI_ge (b := 10) (by omega) (by omega)), a1, am_bv_v, am_at_n ha (by omega), am_at_n hb (by omega), ← e2, a3, am_bi_i, nI_1, am_i10, pk_mul, nI_add] at base
    have kk : ∀ c k, m_G c k → I3 c k = I c k := fun c k hc => by rw [k3 c k hc.F, k2 c k hc.c.2.1, k1 c k hc]
    have C3 : m_C p v I3 := hC.G kk
    have N3 : m_N p r I3 := hN.keep kk
    have hbd := g_flw_bd hC.1 (g_lt2 a x b y) (-1) rule (pth p i) 55 r 1000000 hB (by omega)
    have hv : -2147483648 < (g_follow p (g_lt2 a x b y) (-1) rule (pth p i) r 32).toInt := by
      have := hbd.1
      unfold g_follow
      omega
    have q := g_ma_km hs (show ¬ nI (10 * x + y) < 0 from nI_pos (by omega)) hv
    by_cases hb0 : best < 0
    · rw [if_pos hb0] at base
      rw [if_pos (Or.inl hb0)] at q
      obtain ⟨b', l', I', b1, b2, b3, b4, b5⟩ := ih (y + 1) _ _ _ I3 (by omega) C3 N3 q
      exact ⟨b', l', I', fun o h => base o (b1 o h), b2, b3, b4, fun c k hc => (b5 c k hc).trans (kk c k hc)⟩
    · rw [if_neg hb0] at base
      by_cases hv2 : g_follow p (g_lt2 a x b y) (-1) rule (pth p i) r 32 < least
      · rw [if_pos hv2] at base
        rw [if_pos (Or.inr hv2)] at q
        obtain ⟨b', l', I', b1, b2, b3, b4, b5⟩ := ih (y + 1) _ _ _ I3 (by omega) C3 N3 q
        exact ⟨b', l', I', fun o h => base o (b1 o h), b2, b3, b4, fun c k hc => (b5 c k hc).trans (kk c k hc)⟩
      · rw [if_neg hv2] at base
        rw [if_neg (by rintro (q' | q'); exact hb0 q'; exact hv2 q')] at q
        obtain ⟨b', l', I', b1, b2, b3, b4, b5⟩ := ih (y + 1) _ _ _ I3 (by omega) C3 N3 q
        exact ⟨b', l', I', fun o h => base o (b1 o h), b2, b3, b4, fun c k hc => (b5 c k hc).trans (kk c k hc)⟩
theorem s_m_agreed54 (d rule i a b v : Nat) (p : g_Plan) (J : am_J) (r : g_Row) (x5 : Int32) (hr : rule < 4) (hi : i < ptc p) (ha : a < 6) (hb : b < 6) (hB : g_bd r 1000000) : ∀ k x best least s (I : am_I), x + k = 10 → m_C p v I → m_N p r I → g_ma s best least → ∃ best' least' I', f_m_agreed_54 d (nI a) (nI b) (nI rule) (nI i) x5 best least (nI x) I J = some (some (.int (if x5 = 0 then least' else best')), I', J) ∧ g_ma (g_fa1 p rule (pth p i) r a b k x s) best' least' ∧ ∀ c k, m_G c k → I' c k = I c k := by
  intro k
  induction k with
  | zero =>
    intro x best least s I hx hC hN hs
    have base := b_m_agreed_54 d (nI a) (nI b) (nI rule) (nI i) x5 best least (nI x) I J
    rw [if_pos (show (10 : Int32) ≤ nI x from nI_le (a := 10) (by omega) (by omega))] at base
    refine ⟨best, least, I, base _ ?_, hs, fun _ _ _ => rfl⟩
    by_cases h5 : x5 = 0
    · rw [if_pos h5, if_pos h5]
    · rw [if_neg h5, if_neg h5]
  | succ k ih =>
    intro x best least s I hx hC hN hs
    have base := b_m_agreed_54 d (nI a) (nI b) (nI rule) (nI i) x5 best least (nI x) I J
    rw [if_neg (show ¬ (10 : Int32) ≤ nI x from nI_ge (b := 10) (by omega) (by omega))] at base
    obtain ⟨b1, l1, I1, c1, c2, c3, c4, c5⟩ := s_m_agreed64 d rule i a b x v p J r x5 hr hi ha hb (by omega) hB 10 0 best least s I (by omega) hC hN hs
    obtain ⟨b2, l2, I2, d1, d2, d3⟩ := ih (x + 1) b1 l1 _ I1 (by omega) c3 c4 c2
    exact ⟨b2, l2, I2, base _ (c1 _ d1), d2, fun c k hc => (d3 c k hc).trans (c5 c k hc)⟩
theorem g_fa2_1 {p : g_Plan} {rule : Nat} {think : Int32} {r : g_Row} {a b x : Nat} : ∀ k y s, (s.1 = 0 ∨ s.1 = 1) → (0 < k ∨ s.1 = 1) → (g_fa2 p rule think r a b x k y s).1 = 1 := by
  intro k
  induction k with
  | zero => intro y s _ h; exact h.resolve_left (by omega)
  | succ k ih =>
    intro y s h _
    exact ih _ _ (Or.inr (g_km_1 h)) (Or.inr (g_km_1 h))
theorem g_fa1_1 {p : g_Plan} {rule : Nat} {think : Int32} {r : g_Row} {a b : Nat} : ∀ k x s, (s.1 = 0 ∨ s.1 = 1) → (0 < k ∨ s.1 = 1) → (g_fa1 p rule think r a b k x s).1 = 1 := by
  intro k
  induction k with
  | zero => intro y s _ h; exact h.resolve_left (by omega)
  | succ k ih =>
    intro y s h _
    exact ih _ _ (Or.inr (g_fa2_1 10 0 s h (Or.inl (by omega)))) (Or.inr (g_fa2_1 10 0 s h (Or.inl (by omega))))
/-! spare -/
theorem g_far_E {p : g_Plan} (hn : pn p ≤ 6) {r r' : g_Row} (rule : Nat) (x : Int32) (hat : g_at r) (h : g_E p r r') : g_E p (g_far p rule x r) (g_far p rule x r') := g_flw_E hn _ _ rule x 55 r r' hat h
theorem s_m_spare25 (d rule i a v : Nat) (p : g_Plan) (J : am_J) (r : g_Row) (hr : rule < 4) (hi : i < ptc p) (ha : a < pn p) (hgo : g_open r a = true ∧ ¬ g_over p r = true) : ∀ k, k < 100 → ∀ (I : am_I), m_C p v I → m_N p r I → ∃ I', f_m_spare_25 d (nI a) (nI rule) (nI i) (nI k + (-1)) I J = some (some (.int (g_spr p a rule (pth p i) r k)), I', J) ∧ ∀ c k, m_G c k → I' c k = I c k := by
  intro k
  induction k with
  | zero =>
    intro _ I hC hN
    refine ⟨I, b_m_spare_25 d _ _ _ _ I J _ ?_, fun _ _ _ => rfl⟩
    rw [if_pos (show nI 0 + (-1) < 0 by decide)]
    rfl
  | succ k ih =>
    intro hk I hC hN
    have hn := hC.1.1
    have ha6 : a < 6 := by omega
    rw [pk_m1]
    have base := b_m_spare_25 d (nI a) (nI rule) (nI i) (nI k) I J
    obtain ⟨I1, a1, C1, N1, R1, c1, l1, h1, k1⟩ := s_m_fresh d v p I J r hC hN
    have at1 : g_at (I1 98) := g_at_c R1.hi hN.2.1
    have h30 : I1 98 30 ≤ pck p := by rw [← R1.hi 30 (by decide) (by decide)]; exact hN.2.2.1
    have op1 : g_open (I1 98) a = true := by rw [← g_open_c (R1.same hn ha)]; exact hgo.1
    have ov1 : ¬ g_over p (I1 98) = true := by rw [← (R1.E hn).over]; exact hgo.2
    obtain ⟨I2, a2, r2, k2⟩ := s_m_movesNow d a v p I1 J (nI k) C1 ha at1
    have C2 : m_C p v I2 := C1.F k2
    have sn : g_soon p r a = g_soon p (I1 98) a := g_soon_c R1.hi hN.2.1 ha6 (R1.same hn ha)
    have R2 : g_R p (g_mv p (fun _ => 0) (-1) r a (g_soon p r a) (nI k)).2 (I2 98) := by
      rw [r2, sn]
      have q := (g_mv_R hn R1 (fun _ => 0) (-1) ha (g_soon p (I1 98) a) (nI k)).2
      have e : (g_mv p (I1 99) (I1 68 49) (I1 98) a (g_soon p (I1 98) a) (nI k)).2 = (g_mv p (fun _ => 0) (-1) (I1 98) a (g_soon p (I1 98) a) (nI k)).2 := by
        rw [h1]
        unfold g_mv
        rw [l1 a ha6]
      rw [e]
      exact q
    have at2 : g_at (g_mv p (fun _ => 0) (-1) r a (g_soon p r a) (nI k)).2 := ⟨a, ha6, g_mv_31 p _ _ r a _ _ ha6⟩
    have cap2 : g_cap p (I2 98) := by
      rw [r2]
      intro j hj
      rcases g_mv_lo p (I1 99) (I1 68 49) (I1 98) a (g_soon p (I1 98) a) (nI k) ha6 with q | ⟨q1, q2⟩
      · have e : (g_mv p (I1 99) (I1 68 49) (I1 98) a (g_soon p (I1 98) a) (nI k)).2 j = I1 98 j ∨ (g_mv p (I1 99) (I1 68 49) (I1 98) a (g_soon p (I1 98) a) (nI k)).2 j = I1 98 j - 1 ∧ 0 < I1 98 j := by
          unfold g_mv
          split
          · rw [show ((0 : Int32), g_set (g_set (g_set (g_set (g_set (g_set (I1 98) 32 (I1 98 32 + g_ask p 0 (I1 98) a (nI k) (g_soon p (I1 98) a))) a (I1 98 a - 1)) (12 + a) (I1 98 (12 + a) + 1)) 30 (g_soon p (I1 98) a + nI k)) 31 (nI a)) (6 + a) (g_soon p (I1 98) a + nI k + (if I1 68 49 = nI a then 0 else g_ask p 1 (I1 98) a (nI k) (g_soon p (I1 98) a) + I1 99 a))).2 j = g_set (g_set (I1 98) 32 (I1 98 32 + g_ask p 0 (I1 98) a (nI k) (g_soon p (I1 98) a))) a (I1 98 a - 1) j from by
              show g_set _ (6 + a) _ j = _
              rw [g_set_n _ _ (by omega), g_set_n _ _ (by omega), g_set_n _ _ (by omega), g_set_n _ _ (by omega)]]
            by_cases e : j = a
            · subst e
              right
              exact ⟨g_set_e _ _ _, (of_decide_eq_true op1).1⟩
            · left
              rw [g_set_n _ _ e, g_set_n _ _ (by omega)]
          · left
            show g_fall p (I1 98) a j = I1 98 j
            unfold g_fall
            rw [g_set_n _ _ (by omega), g_set_n _ _ (by omega), g_set_n _ _ (by omega), g_set_n _ _ (by omega)]
        have cj := c1 j hj
        rcases e with e | ⟨e, e'⟩
        · rw [e]; exact cj
        · rw [e]
          have q0 : 0 < (I1 98 j).toInt := Int32.lt_iff_toInt_lt.mp e'
          have q3 := Int32.toInt_lt (I1 98 j)
          have q4 : (I1 98 j - 1).toInt = (I1 98 j).toInt - 1 := by
            rw [g_sub32 (by rw [show (1 : Int32).toInt = 1 from rfl]; omega) (by rw [show (1 : Int32).toInt = 1 from rfl]; omega), show (1 : Int32).toInt = 1 from rfl]
          show (I1 98 j - 1).toInt.toNat ≤ 9
          have cj : (I1 98 j).toInt.toNat ≤ 9 := cj
          omega
      · have cj := c1 j hj
        by_cases e : j = a
        · subst e
          rw [q1]
          have q0 : 0 < (I1 98 j).toInt := Int32.lt_iff_toInt_lt.mp (of_decide_eq_true op1).1
          have q3 := Int32.toInt_lt (I1 98 j)
          have q4 : (I1 98 j - 1).toInt = (I1 98 j).toInt - 1 := by
            rw [g_sub32 (by rw [show (1 : Int32).toInt = 1 from rfl]; omega) (by rw [show (1 : Int32).toInt = 1 from rfl]; omega), show (1 : Int32).toInt = 1 from rfl]
          show (I1 98 j - 1).toInt.toNat ≤ 9
          have cj : (I1 98 j).toInt.toNat ≤ 9 := cj
          omega
        · rw [q2 j (by omega) e]; exact cj
    obtain ⟨I3, a3, E3, k3⟩ := s_m_plain d rule i v p I2 J (fun _ => 0) (-1) _ hr hi C2 (R2.E hn) at2 (g_mv_30 p _ _ r a _ _ ha6) cap2 (fun b hb => by rw [k2 99 b ⟨by decide, Or.inl (by decide)⟩]; exact l1 b (by omega)) (by rw [k2 68 49 ⟨by decide, Or.inr (by decide)⟩]; exact h1)
    rw [if_neg (nI_pos (by omega)), a1, am_bv_v, s_m_isOpen d a I1 J ha6, am_bi_i, if_neg (fun q => am_tf0.mp q op1), s_m_isOver d v p I1 J C1 h30, am_bi_i, if_pos (am_tf0.mpr ov1), a2, am_bi_i, a3, am_bi_i, aq_33] at base
    have kk : ∀ c k, m_G c k → I3 c k = I c k := fun c k hc => by rw [k3 c k hc.F, k2 c k hc.F, k1 c k hc]
    have e33 : I3 98 33 = g_far p rule (pth p i) (g_mv p (fun _ => 0) (-1) r a (g_soon p r a) (nI k)).2 33 := (E3.1 33 (by decide) (by decide)).symm
    unfold g_spr
    by_cases h0 : I3 98 33 = 0
    · rw [if_pos h0] at base
      refine ⟨I3, base _ ?_, kk⟩
      rw [if_pos (e33.symm.trans h0)]
    · rw [if_neg h0] at base
      obtain ⟨I', b1, b2⟩ := ih (by omega) I3 (hC.G kk) (hN.keep kk)
      refine ⟨I', base _ ?_, fun c k hc => (b2 c k hc).trans (kk c k hc)⟩
      rw [b1, if_neg (fun q => h0 (e33.trans q))]

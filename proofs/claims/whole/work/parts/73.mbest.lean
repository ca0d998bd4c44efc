/-! the reference's best rule and best offer -/
def g_s1 (s : Int32 × Int32 × Int32) (most w : Int32) : Prop := s = (1, most, w)
theorem g_s1_km {most w v u : Int32} : g_km (1, most, w) v u = if v ≤ most then (1, most, w) else (1, v, u) := by
  unfold g_km
  rw [if_neg (show ¬ (1 : Int32) = 0 by decide)]
theorem s_m_bestRule37 (d rule v : Nat) (p : g_Plan) (J : am_J) (r : g_Row) (x1 : Int32) (hr : rule < 4) : ∀ k i (b bi : Nat) (most : Int32) (I : am_I), i + k = ptc p → m_C p v I → m_N p r I → b < 4 → bi < 4 → ∃ (b' bi' : Nat) (most' : Int32) (I' : am_I), b' < 4 ∧ bi' < 4 ∧ (∀ o, f_m_bestRule_28 d x1 (nI b') (nI bi') most' (nI (rule + 1)) I' J = some o → f_m_bestRule_37 d x1 (nI b) (nI bi) most (nI rule) (nI i) I J = some o) ∧ g_fr2 p r rule k i (1, most, nI (b * 4 + bi)) = (1, most', nI (b' * 4 + bi')) ∧ m_C p v I' ∧ m_N p r I' ∧ ∀ c k, m_G c k → I' c k = I c k := by
  intro k
  induction k with
  | zero =>
    intro i b bi most I hi hC hN hb hbi
    have ht := hC.1.2.2.2.2.2.2.2.2.2.2.1
    have base := b_m_bestRule_37 d x1 (nI b) (nI bi) most (nI rule) (nI i) I J
    rw [hC.2.2.1, am_at_n hC.2.1 (by omega), hC.2.2.2.2.2.2.2.2.2.1, if_pos (nI_le (by omega) (by omega)), nI_1] at base
    exact ⟨b, bi, most, I, hb, hbi, fun o h => base o h, rfl, hC, hN, fun _ _ _ => rfl⟩
  | succ k ih =>
    intro i b bi most I hi hC hN hb hbi
    have ht := hC.1.2.2.2.2.2.2.2.2.2.2.1
    have base := b_m_bestRule_37 d x1 (nI b) (nI bi) most (nI rule) (nI i) I J
    obtain ⟨I1, a1, k1⟩ := s_m_wonBy d rule i v p I J r hr (by omega) hC hN
    rw [hC.2.2.1, am_at_n hC.2.1 (by omega), hC.2.2.2.2.2.2.2.2.2.1, if_neg (nI_ge (by omega) (by omega)), a1, am_bi_i, nI_1] at base
    have C1 := hC.G k1
    have N1 := hN.keep k1
    unfold g_fr2
    rw [g_s1_km]
    by_cases h : most < g_far p rule (pth p i) r 32
    · rw [if_pos h] at base
      obtain ⟨b', bi', most', I', q1, q2, q3, q4, q5, q6, q7⟩ := ih (i + 1) rule i (g_far p rule (pth p i) r 32) I1 (by omega) C1 N1 hr (by omega)
      exact ⟨b', bi', most', I', q1, q2, fun o ho => base o (q3 o ho), by rw [if_neg (Int32.not_le.mpr h)]; exact q4, q5, q6, fun c k hc => (q7 c k hc).trans (k1 c k hc)⟩
    · rw [if_neg h] at base
      obtain ⟨b', bi', most', I', q1, q2, q3, q4, q5, q6, q7⟩ := ih (i + 1) b bi most I1 (by omega) C1 N1 hb hbi
      exact ⟨b', bi', most', I', q1, q2, fun o ho => base o (q3 o ho), by rw [if_pos (Int32.not_lt.mp h)]; exact q4, q5, q6, fun c k hc => (q7 c k hc).trans (k1 c k hc)⟩
theorem s_m_bestRule28 (d v : Nat) (p : g_Plan) (J : am_J) (r : g_Row) (x1 : Int32) : ∀ k rule (b bi : Nat) (most : Int32) (I : am_I), rule + k = 4 → m_C p v I → m_N p r I → b < 4 → bi < 4 → ∃ (b' bi' : Nat) (most' : Int32) (I' : am_I), b' < 4 ∧ bi' < 4 ∧ f_m_bestRule_28 d x1 (nI b) (nI bi) most (nI rule) I J = some (some (.int (if x1 = 0 then nI b' else if x1 = 1 then nI bi' else most')), I', J) ∧ g_fr1 p r k rule (1, most, nI (b * 4 + bi)) = (1, most', nI (b' * 4 + bi')) ∧ ∀ c k, m_G c k → I' c k = I c k := by
  intro k
  induction k with
  | zero =>
    intro rule b bi most I hi hC hN hb hbi
    obtain rfl : rule = 4 := by omega
    have base := b_m_bestRule_28 d x1 (nI b) (nI bi) most (nI 4) I J
    rw [if_pos (show (4 : Int32) ≤ nI 4 by decide)] at base
    refine ⟨b, bi, most, I, hb, hbi, base _ ?_, rfl, fun _ _ _ => rfl⟩
    by_cases h0 : x1 = 0
    · rw [if_pos h0, if_pos h0]
    · rw [if_neg h0, if_neg h0]
      by_cases h1 : x1 = 1
      · rw [if_pos h1, if_pos h1]
      · rw [if_neg h1, if_neg h1]
  | succ k ih =>
    intro rule b bi most I hi hC hN hb hbi
    have base := b_m_bestRule_28 d x1 (nI b) (nI bi) most (nI rule) I J
    rw [if_neg (show ¬ (4 : Int32) ≤ nI rule from nI_ge (b := 4) (by omega) (by omega))] at base
    obtain ⟨b1, bi1, m1, I1, q1, q2, q3, q4, q5, q6, q7⟩ := s_m_bestRule37 d rule v p J r x1 (by omega) (ptc p) 0 b bi most I (by omega) hC hN hb hbi
    obtain ⟨b2, bi2, m2, I2, e1, e2, e3, e4, e5⟩ := ih (rule + 1) b1 bi1 m1 I1 (by omega) q5 q6 q1 q2
    refine ⟨b2, bi2, m2, I2, e1, e2, base _ (q3 _ e3), ?_, fun c k hc => (e5 c k hc).trans (q7 c k hc)⟩
    unfold g_fr1
    rw [q4]
    exact e4
theorem g_fr1_first (p : g_Plan) (r : g_Row) (ht : 1 ≤ ptc p) (a b : Int32) : g_fr1 p r 4 0 (0, a, b) = g_fr1 p r 4 0 (1, g_far p 0 (pth p 0) r 32, nI (0 * 4 + 0)) := by
  have e : ∀ s, g_fr1 p r 4 0 s = g_fr1 p r 3 1 (g_fr2 p r 0 (ptc p) 0 s) := fun _ => rfl
  rw [e, e]
  congr 1
  obtain ⟨t, ht'⟩ : ∃ t, ptc p = t + 1 := ⟨ptc p - 1, by omega⟩
  rw [ht']
  unfold g_fr2
  congr 1
  rw [g_s1_km, if_pos (Int32.le_refl _)]
  unfold g_km
  rw [if_pos rfl]
theorem s_m_bestRule (d v : Nat) (p : g_Plan) (I : am_I) (J : am_J) (r : g_Row) (x1 : Int32) (hC : m_C p v I) (hN : m_N p r I) (a b : Int32) : ∃ (b' bi' : Nat) (most' : Int32) (I' : am_I), b' < 4 ∧ bi' < 4 ∧ am_bi (f_m_wonBy_0 d 0 0 I J) (fun y6 I4 J5 => f_m_bestRule_28 d x1 0 0 y6 0 I4 J5) = some (some (.int (if x1 = 0 then nI b' else if x1 = 1 then nI bi' else most')), I', J) ∧ g_fr1 p r 4 0 (0, a, b) = (1, most', nI (b' * 4 + bi')) ∧ ∀ c k, m_G c k → I' c k = I c k := by
  have ht := hC.1.2.2.2.2.2.2.2.2.2.2.1
  obtain ⟨I1, a1, k1⟩ := s_m_wonBy d 0 0 v p I J r (by omega) (by omega) hC hN
  obtain ⟨b', bi', most', I', q1, q2, q3, q4, q5⟩ := s_m_bestRule28 d v p J r x1 4 0 0 0 (g_far p 0 (pth p 0) r 32) I1 (by omega) (hC.G k1) (hN.keep k1) (by omega) (by omega)
  refine ⟨b', bi', most', I', q1, q2, ?_, (g_fr1_first p r ht.1 a b).trans q4, fun c k hc => (q5 c k hc).trans (k1 c k hc)⟩
  have a1 : f_m_wonBy_0 d 0 0 I J = some (some (.int (g_far p 0 (pth p 0) r 32)), I1, J) := a1
  rw [a1, am_bi_i]
  exact q3
theorem g_of_cap {p : g_Plan} {r : g_Row} {b : Nat} (hb : b < 6) (h : g_cap p r) (hn : pn p ≤ 6) : g_cap p (g_of p r b).2 := by
  intro j hj
  have e : (g_of p r b).2 j = r j := by
    unfold g_of
    split
    · split
      · show g_set _ 30 _ j = r j
        rw [g_set_n _ _ (by omega), g_set_n _ _ (by omega)]
      · show g_set _ (18 + b) _ j = r j
        rw [g_set_n _ _ (by omega), g_set_n _ _ (by omega), g_set_n _ _ (by omega), g_set_n _ _ (by omega)]
    · show g_fall p r b j = r j
      unfold g_fall
      rw [g_set_n _ _ (by omega), g_set_n _ _ (by omega), g_set_n _ _ (by omega), g_set_n _ _ (by omega)]
  rw [e]
  exact h j hj
theorem g_of_30 {p : g_Plan} {r : g_Row} {b : Nat} (hb : b < 6) : (g_of p r b).2 30 ≤ pck p := by
  unfold g_of
  split
  · rename_i h
    split
    · show g_set (g_set r 31 (nI b)) 30 (am_mn (g_soon p r b + 1) (pck p)) 30 ≤ pck p
      rw [g_set_e, am_mn_eq]
      unfold am_mnC
      split
      · exact Int32.le_refl _
      · rename_i q
        exact Int32.not_lt.mp q
    · show g_set _ (18 + b) _ 30 ≤ pck p
      rw [g_set_n _ _ (by omega), g_set_n _ _ (by omega), g_set_e]
      exact h
  · show g_fall p r b 30 ≤ pck p
    unfold g_fall
    rw [g_set_n _ _ (by omega), g_set_n _ _ (by omega), g_set_n _ _ (by omega), g_set_e]
    exact Int32.le_refl _
theorem s_m_offerBest37 (d rule i v : Nat) (p : g_Plan) (J : am_J) (r : g_Row) (x3 : Int32) (hr : rule < 4) (hi : i < ptc p) : ∀ k b best most (I : am_I), b + k = pn p → m_C p v I → m_N p r I → ∃ best' most' I', f_m_offerBest_37 d (nI rule) (nI i) x3 best most (nI b) I J = some (some (.int (if x3 = 0 then most' else best')), I', J) ∧ (if g_over p r = true then (1, most, best) else g_fo p rule (pth p i) r k b (1, most, best)) = (1, most', best') ∧ ∀ c k, m_G c k → I' c k = I c k := by
  intro k
  induction k with
  | zero =>
    intro b best most I hb hC hN
    have hn := hC.1.1
    have base := b_m_offerBest_37 d (nI rule) (nI i) x3 best most (nI b) I J
    rw [hC.2.2.1, am_at_n hC.2.1 (by omega), hC.2.2.2.1, if_pos (nI_le (by omega) (by omega))] at base
    refine ⟨best, most, I, base _ ?_, ?_, fun _ _ _ => rfl⟩
    · by_cases h : x3 = 0
      · rw [if_pos h, if_pos h]
      · rw [if_neg h, if_neg h]
    · split <;> rfl
  | succ k ih =>
    intro b best most I hb hC hN
    have hn := hC.1.1
    have hb6 : b < 6 := by omega
    have hbp : b < pn p := by omega
    have base := b_m_offerBest_37 d (nI rule) (nI i) x3 best most (nI b) I J
    obtain ⟨I1, a1, C1, N1, R1, c1, l1, h1, k1⟩ := s_m_fresh d v p I J r hC hN
    have at1 : g_at (I1 98) := g_at_c R1.hi hN.2.1
    have h30 : I1 98 30 ≤ pck p := by rw [← R1.hi 30 (by decide) (by decide)]; exact hN.2.2.1
    have ov1 : g_over p (I1 98) = g_over p r := (R1.E hn).over.symm
    have op1 : g_open (I1 98) b = g_open r b := (g_open_c (R1.same hn hbp)).symm
    rw [hC.2.2.1, am_at_n hC.2.1 (by omega), hC.2.2.2.1, if_neg (nI_ge (by omega) (by omega)), a1, am_bv_v, s_m_isOpen d b I1 J hb6, am_bi_i, s_m_isOver d v p I1 J C1 h30, am_bi_i, nI_1, op1, ov1] at base
    have skip := ih (b + 1) best most I1 (by omega) C1 N1
    by_cases ho : g_open r b = true
    · rw [if_neg (fun q => am_tf0.mp q ho)] at base
      by_cases hov : g_over p r = true
      · rw [if_neg (fun q => am_tf0.mp q hov)] at base
        obtain ⟨b', m', I', q1, q2, q3⟩ := skip
        refine ⟨b', m', I', base _ q1, ?_, fun c k hc => (q3 c k hc).trans (k1 c k hc)⟩
        rw [if_pos hov] at q2 ⊢
        exact q2
      · rw [if_pos (am_tf0.mpr hov)] at base
        obtain ⟨I2, a2, r2, k2⟩ := s_m_offersNow d b v p I1 J C1 hbp at1
        have C2 : m_C p v I2 := C1.F k2
        have R2 : g_R p (g_of p r b).2 (I2 98) := by
          rw [r2]
          exact (g_of_R hn R1 hN.2.1 hbp).2
        obtain ⟨I3, a3, -, k3⟩ := s_m_plain d rule i v p I2 J (fun _ => 0) (-1) (g_of p r b).2 hr hi C2 (R2.E hn) ⟨b, hb6, g_of_31 p r b hb6⟩ (g_of_30 hb6) (by rw [r2]; exact g_of_cap hb6 c1 hn) (fun j hj => by rw [k2 99 j ⟨by decide, Or.inl (by decide)⟩]; exact l1 j (by omega)) (by rw [k2 68 49 ⟨by decide, Or.inr (by decide)⟩]; exact h1)
        have kk : ∀ c k, m_G c k → I3 c k = I c k := fun c k hc => by rw [k3 c k hc.F, k2 c k hc.F, k1 c k hc]
        rw [a2, am_bi_i, a3, am_bi_i] at base
        rw [if_neg hov] at skip ⊢
        unfold g_fo
        rw [if_pos ho, g_s1_km]
        by_cases hv : most < g_far p rule (pth p i) (g_of p r b).2 32
        · rw [if_pos (show most < g_follow p (fun _ => 0) (-1) rule (pth p i) (g_of p r b).2 32 from hv)] at base
          obtain ⟨b', m', I', q1, q2, q3⟩ := ih (b + 1) (nI b) (g_far p rule (pth p i) (g_of p r b).2 32) I3 (by omega) (hC.G kk) (hN.keep kk)
          rw [if_neg hov] at q2
          rw [if_neg (Int32.not_le.mpr hv)]
          exact ⟨b', m', I', base _ q1, q2, fun c k hc => (q3 c k hc).trans (kk c k hc)⟩
        · rw [if_neg (show ¬ most < g_follow p (fun _ => 0) (-1) rule (pth p i) (g_of p r b).2 32 from hv)] at base
          obtain ⟨b', m', I', q1, q2, q3⟩ := ih (b + 1) best most I3 (by omega) (hC.G kk) (hN.keep kk)
          rw [if_neg hov] at q2
          rw [if_pos (Int32.not_lt.mp hv)]
          exact ⟨b', m', I', base _ q1, q2, fun c k hc => (q3 c k hc).trans (kk c k hc)⟩
    · rw [if_pos (am_tf0.mpr ho)] at base
      obtain ⟨b', m', I', q1, q2, q3⟩ := skip
      refine ⟨b', m', I', base _ q1, ?_, fun c k hc => (q3 c k hc).trans (k1 c k hc)⟩
      by_cases hov : g_over p r = true
      · rw [if_pos hov] at q2 ⊢
        exact q2
      · rw [if_neg hov] at q2 ⊢
        unfold g_fo
        rw [if_neg ho]
        exact q2
theorem s_m_offerBest (d rule i v : Nat) (p : g_Plan) (I : am_I) (J : am_J) (r : g_Row) (x3 : Int32) (s : Int32 × Int32 × Int32) (hr : rule < 4) (hi : i < ptc p) (hC : m_C p v I) (hN : m_N p r I) : ∃ I', am_bi (f_m_wonBy_0 d (nI rule) (nI i) I J) (fun y9 I7 J8 => f_m_offerBest_37 d (nI rule) (nI i) x3 (-2) y9 0 I7 J8) = some (some (.int (if x3 = 0 then (g_fo0 p rule (pth p i) r s).2.1 else (g_fo0 p rule (pth p i) r s).2.2)), I', J) ∧ ∀ c k, m_G c k → I' c k = I c k := by
  obtain ⟨I1, a1, k1⟩ := s_m_wonBy d rule i v p I J r hr hi hC hN
  obtain ⟨b', m', I', q1, q2, q3⟩ := s_m_offerBest37 d rule i v p J r x3 hr hi (pn p) 0 (-2) (g_far p rule (pth p i) r 32) I1 (by omega) (hC.G k1) (hN.keep k1)
  refine ⟨I', ?_, fun c k hc => (q3 c k hc).trans (k1 c k hc)⟩
  rw [a1, am_bi_i]
  have e : g_fo0 p rule (pth p i) r s = (1, m', b') := by
    rw [← q2]
    unfold g_fo0 g_km
    rw [if_pos rfl]
  rw [e]
  exact q1

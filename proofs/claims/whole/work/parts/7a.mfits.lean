/-! how many rows fit what was told: the reference -/
noncomputable def g_so (p : g_Plan) (tb : Nat → Nat) (tm : Nat → Int32) : Nat → Nat → g_Row → Nat → Bool
  | 0, _, _, _ => true
  | k + 1, i, r, w => if g_over p r = true ∨ ¬ g_open r (tb i) = true then false else if g_cn p r (tb i) (tm i - pth p (w % ptc p)) (tm i) = true then g_so p tb tm k (i + 1) (g_mv p (fun _ => 0) (-1) r (tb i) (tm i - pth p (w % ptc p)) (pth p (w % ptc p))).2 (w / ptc p) else false
theorem am_cnt_add (P : Nat → Bool) : ∀ n m b, am_cnt P b (n + m) = am_cnt P b n + am_cnt P (b + n) m := by
  intro n
  induction n with
  | zero => intro m b; simp [am_cnt]
  | succ n ih =>
    intro m b
    rw [show n + 1 + m = (n + m) + 1 by omega, am_cnt_s, am_cnt_s, ih m (b + 1), show b + 1 + n = b + (n + 1) by omega]
    omega
theorem am_cnt_no (P : Nat → Bool) (n b : Nat) (h : ∀ j, P j = false) : am_cnt P b n = 0 := (am_cnt_0 P n b).mpr (fun j _ _ => h j)
theorem am_cnt_f (n b : Nat) : am_cnt (fun _ => false) b n = 0 := am_cnt_no _ _ _ (fun _ => rfl)
theorem g_sum_s (f : Nat → Nat) (n t : Nat) : g_sum f (n + 1) t = f t + g_sum f n (t + 1) := rfl
/-- a block of tc numbers that share their quotient -/
theorem g_blk (tc : Nat) (P : Nat → Nat → Bool) (M : Nat) : ∀ n t, t + n = tc → am_cnt (fun w => P (w % tc) (w / tc)) (tc * M + t) n = g_sum (fun t => if P t M = true then 1 else 0) n t := by
  intro n
  induction n with
  | zero => intro t _; rfl
  | succ n ih =>
    intro t ht
    rw [am_cnt_s, show tc * M + t + 1 = tc * M + (t + 1) by omega, ih (t + 1) (by omega), g_sum_s]
    have h1 : (tc * M + t) % tc = t := by rw [Nat.mul_add_mod, Nat.mod_eq_of_lt (by omega)]
    have h2 : (tc * M + t) / tc = M := by rw [Nat.mul_add_div (by omega), Nat.div_eq_of_lt (by omega), Nat.add_zero]
    show (if P ((tc * M + t) % tc) ((tc * M + t) / tc) = true then 1 else 0) + _ = _
    rw [h1, h2]
theorem g_sum_add (f g : Nat → Nat) : ∀ n t, g_sum (fun t => f t + g t) n t = g_sum f n t + g_sum g n t := by
  intro n
  induction n with
  | zero => intro t; rfl
  | succ n ih =>
    intro t
    unfold g_sum
    rw [ih (t + 1)]
    omega
theorem g_sum_0 : ∀ n t, g_sum (fun _ => 0) n t = 0 := by
  intro n
  induction n with
  | zero => intro t; rfl
  | succ n ih => intro t; unfold g_sum; rw [ih (t + 1)]
theorem g_split (tc : Nat) (P : Nat → Nat → Bool) : ∀ M, am_cnt (fun w => P (w % tc) (w / tc)) 0 (tc * M) = g_sum (fun t => am_cnt (P t) 0 M) tc 0 := by
  intro M
  induction M with
  | zero =>
    rw [Nat.mul_zero]
    show 0 = g_sum (fun t => 0) tc 0
    rw [g_sum_0]
  | succ M ih =>
    rw [Nat.mul_succ, am_cnt_add, ih, Nat.zero_add]
    have q := g_blk tc P M tc 0 (by omega)
    rw [Nat.add_zero] at q
    rw [q, ← g_sum_add]
    refine g_sum_c _ _ (fun t _ _ => ?_)
    show am_cnt (P t) 0 M + (if P t M = true then 1 else 0) = am_cnt (P t) 0 (M + 1)
    rw [am_cnt_add, Nat.zero_add]
    show _ = am_cnt (P t) 0 M + ((if P t M = true then 1 else 0) + 0)
    omega
theorem g_so_cnt (p : g_Plan) (tb : Nat → Nat) (tm : Nat → Int32) : ∀ k i r, am_cnt (g_so p tb tm k i r) 0 (ptc p ^ k) = g_rf p tb tm k i r := by
  intro k
  induction k with
  | zero => intro i r; rfl
  | succ k ih =>
    intro i r
    unfold g_rf
    by_cases h : g_over p r = true ∨ ¬ g_open r (tb i) = true
    · rw [if_pos h]
      refine am_cnt_no _ _ _ (fun j => ?_)
      unfold g_so
      rw [if_pos h]
    · rw [if_neg h, Nat.pow_succ, Nat.mul_comm]
      have e : g_so p tb tm (k + 1) i r = fun w => (fun t q => if g_cn p r (tb i) (tm i - pth p t) (tm i) = true then g_so p tb tm k (i + 1) (g_mv p (fun _ => 0) (-1) r (tb i) (tm i - pth p t) (pth p t)).2 q else false) (w % ptc p) (w / ptc p) := by
        funext w
        conv => lhs; unfold g_so
        rw [if_neg h]
      rw [e, g_split (ptc p) (fun t q => if g_cn p r (tb i) (tm i - pth p t) (tm i) = true then g_so p tb tm k (i + 1) (g_mv p (fun _ => 0) (-1) r (tb i) (tm i - pth p t) (pth p t)).2 q else false)]
      refine g_sum_c _ _ (fun t _ _ => ?_)
      by_cases hc : g_cn p r (tb i) (tm i - pth p t) (tm i) = true
      · simp only [hc, if_true]
        exact ih _ _
      · simp only [hc, if_false]
        exact am_cnt_f _ _
/-- what was told, at the reference -/
def m_T (p : g_Plan) (tb : Nat → Nat) (tm : Nat → Int32) (K : Nat) (I : am_I) : Prop := ∀ j, j < K → I 108 j = nI (tb j) ∧ tb j < pn p ∧ I 109 j = tm j ∧ 0 ≤ (tm j).toInt ∧ (tm j).toInt ≤ 500
theorem m_T.keep {p : g_Plan} {tb : Nat → Nat} {tm : Nat → Int32} {K : Nat} {I I' : am_I} (h : m_T p tb tm K I) (e : ∀ c k, m_G c k → I' c k = I c k) : m_T p tb tm K I' := fun j hj => by rw [e 108 j ⟨by decide, Or.inl (by decide)⟩, e 109 j ⟨by decide, Or.inl (by decide)⟩]; exact h j hj
theorem s_m_isSo11 (d v K : Nat) (p : g_Plan) (J : am_J) (tb : Nat → Nat) (tm : Nat → Int32) (hK : K ≤ 4) : ∀ k i w (r : g_Row) (I : am_I), i + k = K → w < 2 ^ 30 → m_C p v I → m_T p tb tm K I → g_R p r (I 98) → g_at r → r 30 ≤ pck p → (∀ b, b < 6 → I 99 b = 0) → I 68 49 = -1 → ∃ I', f_m_isSo_11 d (nI K) (nI w) (nI i) I J = some (some (.int (am_tf (g_so p tb tm k i r w = true))), I', J) ∧ ∀ c j, m_F c j → I' c j = I c j := by
  intro k
  induction k with
  | zero =>
    intro i w r I hi hw hC hT hR hat h30 h99 h49
    have base := b_m_isSo_11 d (nI K) (nI w) (nI i) I J
    rw [if_pos (nI_le (by omega) (by omega)), am_b01_1] at base
    exact ⟨I, base _ rfl, fun _ _ _ => rfl⟩
  | succ k ih =>
    intro i w r I hi hw hC hT hR hat h30 h99 h49
    have hn := hC.1.1
    have htc := hC.1.2.2.2.2.2.2.2.2.2.2.1
    obtain ⟨e108, hb, e109, t0, t500⟩ := hT i (by omega)
    have hb6 : tb i < 6 := by omega
    have hmod : w % ptc p < ptc p := Nat.mod_lt _ (by omega)
    have hth := hC.1.2.2.2.2.2.2.2.2.2.2.2 (w % ptc p) hmod
    have hs := hR.same hn hb
    have hE := hR.E hn
    have h30' : I 98 30 ≤ pck p := by rw [← hR.hi 30 (by decide) (by decide)]; exact h30
    have base := b_m_isSo_11 d (nI K) (nI w) (nI i) I J
    rw [if_neg (nI_ge (by omega) (by omega)), am_at_n (by omega) (by omega), hC.2.2.1, am_at_n hC.2.1 (by omega), hC.2.2.2.2.2.2.2.2.2.1, if_neg (nI_ne0 (by omega) (by omega)), pk_rem (by omega) (by omega) (by omega), s_m_think d (w % ptc p) v p I J hC hmod, am_bi_i, hC.2.2.1, am_at_n hC.2.1 (by omega), hC.2.2.2.2.2.2.2.2.2.1, if_neg (nI_ne0 (by omega) (by omega)), s_m_isOver d v p I J hC h30', am_bi_i, e108, s_m_isOpen d (tb i) I J hb6, am_bi_i, am_at_n (by omega) (by omega), e109, pk_div (by omega) (by omega) (by omega), ← hE.over, ← g_open_c hs] at base
    simp only [am_b01_0] at base
    unfold g_so
    by_cases ho : g_over p r = true
    · rw [if_neg (fun q => am_tf0.mp q ho)] at base
      rw [if_pos (Or.inl ho)]
      exact ⟨I, base _ rfl, fun _ _ _ => rfl⟩
    · rw [if_pos (am_tf0.mpr ho)] at base
      by_cases hop : g_open r (tb i) = true
      · rw [if_neg (fun q => am_tf0.mp q hop)] at base
        rw [if_neg (by rintro (q | q); exact ho q; exact q hop)]
        obtain ⟨x, hx⟩ : ∃ x, x = pth p (w % ptc p) := ⟨_, rfl⟩
        rw [← hx] at base hth ⊢
        have base2 := b_m_isSo_85 d (nI K) (nI (w / ptc p)) (nI i) (nI (tb i)) x (tm i - x) I J
        have sn : g_soon p (I 98) (tb i) = g_soon p r (tb i) := (g_soon_c hR.hi hat hb6 hs).symm
        rw [s_m_beginsAt d (tb i) v p I J hC hb6 (g_at_c hR.hi hat), am_bi_i, sn, am_at_n (by omega) (by omega), hC.2.2.1, am_at_n hC.2.1 (by omega), hC.2.2.2.2.2.1, e109, am_at_n hC.2.1 (by omega), hC.2.2.2.2.2.1] at base2
        simp only [am_b01_0] at base2
        have cn : (g_cn p r (tb i) (tm i - x) (tm i) = true) ↔ (¬ tm i - x < g_soon p r (tb i) ∧ ¬ pck p < tm i ∧ ¬ (g_soon p r (tb i) < tm i - x ∧ pck p ≤ tm i - x)) := g_cn_t
        have eb : (tm i - x).toInt = (tm i).toInt - x.toInt := g_sub32 (by omega) (by omega)
        -- the move itself
        have go : g_cn p r (tb i) (tm i - x) (tm i) = true → ∃ I', am_bi (f_m_movesFrom_0 d (nI (tb i)) x (tm i - x) I J) (fun y12 I10 J11 => f_m_isSo_11 d (nI K) (nI (w / ptc p)) (nI i + 1) I10 J11) = some (some (.int (am_tf (g_so p tb tm k (i + 1) (g_mv p (fun _ => 0) (-1) r (tb i) (tm i - x) x).2 (w / ptc p) = true))), I', J) ∧ ∀ c j, m_F c j → I' c j = I c j := by
          intro _
          obtain ⟨I1, a1, r1, k1⟩ := s_m_movesFrom d (tb i) v p I J x (tm i - x) hC hb
          have R1 : g_R p (g_mv p (fun _ => 0) (-1) r (tb i) (tm i - x) x).2 (I1 98) := by
            rw [r1]
            have e : (g_mv p (I 99) (I 68 49) (I 98) (tb i) (tm i - x) x).2 = (g_mv p (fun _ => 0) (-1) (I 98) (tb i) (tm i - x) x).2 := by
              rw [h49]
              unfold g_mv
              rw [h99 _ hb6]
            rw [e]
            exact (g_mv_R hn hR _ _ hb _ _).2
          obtain ⟨I', a2, k2⟩ := ih (i + 1) (w / ptc p) _ I1 (by omega) (Nat.lt_of_le_of_lt (Nat.div_le_self _ _) hw) (hC.F k1) (fun j hj => by rw [k1 108 j ⟨by decide, Or.inl (by decide)⟩, k1 109 j ⟨by decide, Or.inl (by decide)⟩]; exact hT j hj) R1 ⟨tb i, hb6, g_mv_31 p _ _ r _ _ _ hb6⟩ (g_mv_30 p _ _ r _ _ _ hb6) (fun b hb => by rw [k1 99 b ⟨by decide, Or.inl (by decide)⟩]; exact h99 b hb) (by rw [k1 68 49 ⟨by decide, Or.inr (by decide)⟩]; exact h49)
          rw [a1, am_bi_i, nI_1]
          exact ⟨I', a2, fun c j hc => (k2 c j hc).trans (k1 c j hc)⟩
        by_cases c1 : tm i - x < g_soon p r (tb i)
        · rw [if_pos c1] at base2
          rw [if_neg (fun q => (cn.mp q).1 c1)]
          exact ⟨I, base _ (base2 _ rfl), fun _ _ _ => rfl⟩
        · rw [if_neg c1] at base2
          by_cases c2 : pck p < tm i
          · rw [if_pos c2] at base2
            rw [if_neg (fun q => (cn.mp q).2.1 c2)]
            exact ⟨I, base _ (base2 _ rfl), fun _ _ _ => rfl⟩
          · rw [if_neg c2] at base2
            have c2' := Int32.le_iff_toInt_le.mp (Int32.not_lt.mp c2)
            by_cases c3 : tm i - x = pck p
            · rw [if_pos c3] at base2
              by_cases c4 : tm i - x ≤ g_soon p r (tb i)
              · have hc : g_cn p r (tb i) (tm i - x) (tm i) = true := cn.mpr ⟨c1, c2, fun q => Int32.not_le.mpr q.1 c4⟩
                rw [if_pos c4] at base2
                rw [if_pos hc]
                obtain ⟨I', q1, q2⟩ := go hc
                exact ⟨I', base _ (base2 _ q1), q2⟩
              · rw [if_neg c4] at base2
                rw [if_neg (fun q => (cn.mp q).2.2 ⟨Int32.not_le.mp c4, by rw [c3]; exact Int32.le_refl _⟩)]
                exact ⟨I, base _ (base2 _ rfl), fun _ _ _ => rfl⟩
            · have hc : g_cn p r (tb i) (tm i - x) (tm i) = true := cn.mpr ⟨c1, c2, fun q => c3 (by
                have q2 := Int32.le_iff_toInt_le.mp q.2
                apply Int32.toInt_inj.mp
                omega)⟩
              rw [if_neg c3] at base2
              rw [if_pos hc]
              obtain ⟨I', q1, q2⟩ := go hc
              exact ⟨I', base _ (base2 _ q1), q2⟩
      · rw [if_pos (am_tf0.mpr hop)] at base
        rw [if_pos (Or.inr hop)]
        exact ⟨I, base _ rfl, fun _ _ _ => rfl⟩
theorem s_m_isSo (d v K w : Nat) (p : g_Plan) (I : am_I) (J : am_J) (tb : Nat → Nat) (tm : Nat → Int32) (hK : K ≤ 4) (hw : w < 2 ^ 30) (hC : m_C p v I) (hT : m_T p tb tm K I) : ∃ I', f_m_isSo_0 d (nI w) (nI K) I J = some (some (.int (am_tf (g_so p tb tm K 0 (g_out p) w = true))), I', J) ∧ ∀ c j, m_G c j → I' c j = I c j := by
  have hn := hC.1.1
  obtain ⟨I1, a1, r1, l1, h49, C1, k1⟩ := s_m_begins0 d v p I J 63 hC
  have base := b_m_isSo_0 d (nI w) (nI K) I J
  have z : ∀ k, 30 ≤ k → g_out p k = 0 := fun k q1 => by
    unfold g_out
    rw [if_neg (by omega), if_neg (by omega)]
  obtain ⟨I', a2, k2⟩ := s_m_isSo11 d v K p J tb tm hK K 0 w (g_out p) I1 (by omega) hw C1 (hT.keep k1) (fun k q1 _ => by rw [r1 k q1, g_outS63 p hn]) ⟨0, by decide, z 31 (by decide)⟩ (by rw [z 30 (by decide)]; exact g_0ck hC.1) l1 h49
  rw [a1, am_bv_v] at base
  exact ⟨I', base _ a2, fun c j hc => (k2 c j hc.F).trans (k1 c j hc)⟩
theorem s_m_fits46 (d v K : Nat) (p : g_Plan) (J : am_J) (tb : Nat → Nat) (tm : Nat → Int32) (hK : K ≤ 4) : ∀ k w acc (I : am_I), w + k = ptc p ^ K → acc ≤ w → m_C p v I → m_T p tb tm K I → ∃ I', f_m_fits_46 d (nI K) (nI (ptc p ^ K)) (nI acc) (nI w) I J = some (some (.int (nI (acc + am_cnt (g_so p tb tm K 0 (g_out p)) w k))), I', J) ∧ ∀ c j, m_G c j → I' c j = I c j := by
  have h256 : ∀ p : g_Plan, ptc p ≤ 4 → ptc p ^ K ≤ 256 := fun p h => Nat.le_trans (Nat.pow_le_pow_left h K) (Nat.le_trans (Nat.pow_le_pow_right (by decide) hK) (by decide))
  intro k
  induction k with
  | zero =>
    intro w acc I hw ha hC hT
    have htc := hC.1.2.2.2.2.2.2.2.2.2.2.1
    have := h256 p htc.2
    have base := b_m_fits_46 d (nI K) (nI (ptc p ^ K)) (nI acc) (nI w) I J
    rw [if_pos (nI_le (by omega) (by omega))] at base
    exact ⟨I, base _ rfl, fun _ _ _ => rfl⟩
  | succ k ih =>
    intro w acc I hw ha hC hT
    have htc := hC.1.2.2.2.2.2.2.2.2.2.2.1
    have := h256 p htc.2
    have base := b_m_fits_46 d (nI K) (nI (ptc p ^ K)) (nI acc) (nI w) I J
    obtain ⟨I1, a1, k1⟩ := s_m_isSo d v K w p I J tb tm hK (by omega) hC hT
    rw [if_neg (nI_ge (by omega) (by omega)), a1, am_bi_i, nI_1, nI_1] at base
    rw [am_cnt_s]
    by_cases h : g_so p tb tm K 0 (g_out p) w = true
    · rw [if_neg (fun q => am_tf0.mp q h)] at base
      obtain ⟨I', b1, b2⟩ := ih (w + 1) (acc + 1) I1 (by omega) (by omega) (hC.G k1) (hT.keep k1)
      rw [if_pos h, ← Nat.add_assoc]
      exact ⟨I', base _ b1, fun c j hc => (b2 c j hc).trans (k1 c j hc)⟩
    · rw [if_pos (am_tf0.mpr h)] at base
      obtain ⟨I', b1, b2⟩ := ih (w + 1) acc I1 (by omega) (by omega) (hC.G k1) (hT.keep k1)
      rw [if_neg h, Nat.zero_add]
      exact ⟨I', base _ b1, fun c j hc => (b2 c j hc).trans (k1 c j hc)⟩
theorem s_m_fits18 (d v K : Nat) (p : g_Plan) (I : am_I) (J : am_J) (hK : K ≤ 4) (hC : m_C p v I) (o : Option Value × am_I × am_J) (h : f_m_fits_46 d (nI K) (nI (ptc p ^ K)) 0 0 I J = some o) : ∀ k i, i + k = K → f_m_fits_18 d (nI K) (nI (ptc p ^ i)) (nI i) I J = some o := by
  intro k
  induction k with
  | zero =>
    intro i hi
    obtain rfl : i = K := by omega
    refine b_m_fits_18 d _ _ _ I J _ ?_
    rw [if_pos (nI_le (Nat.le_refl _) (by omega))]
    exact h
  | succ k ih =>
    intro i hi
    refine b_m_fits_18 d _ _ _ I J _ ?_
    rw [if_neg (nI_ge (by omega) (by omega)), hC.2.2.1, am_at_n hC.2.1 (by omega), hC.2.2.2.2.2.2.2.2.2.1, pk_mul, nI_1, ← Nat.pow_succ]
    exact ih (i + 1) (by omega)
theorem s_m_fitsK (d v K : Nat) (p : g_Plan) (I : am_I) (J : am_J) (tb : Nat → Nat) (tm : Nat → Int32) (hK : K ≤ 4) (hC : m_C p v I) (hT : m_T p tb tm K I) : ∃ I', f_m_fits_18 d (nI K) 1 0 I J = some (some (.int (nI (g_rf p tb tm K 0 (g_out p)))), I', J) ∧ ∀ c j, m_G c j → I' c j = I c j := by
  obtain ⟨I', a1, k1⟩ := s_m_fits46 d v K p J tb tm hK (ptc p ^ K) 0 0 I (by omega) (by omega) hC hT
  rw [Nat.zero_add, g_so_cnt] at a1
  refine ⟨I', ?_, k1⟩
  have q := s_m_fits18 d v K p I J hK hC _ a1 K 0 (by omega)
  rw [Nat.pow_zero] at q
  exact q

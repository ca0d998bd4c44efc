/-! the best boards to let go: class and reference agree -/
def g_opt (P : Nat → Prop) (u : Nat → Int32) (q : Nat) : Prop := P q ∧ ∀ m, P m → u m < u q ∨ (u m = u q ∧ (g_pc q < g_pc m ∨ (g_pc q = g_pc m ∧ q ≤ m)))
theorem g_opt_u {P : Nat → Prop} {u : Nat → Int32} {q q' : Nat} (h : g_opt P u q) (h' : g_opt P u q') : q = q' := by
  have a := h.2 q' h'.1
  have b := h'.2 q h.1
  rcases a with a | ⟨a1, a2⟩
  · rcases b with b | ⟨b1, -⟩
    · exact absurd (Int32.lt_iff_toInt_lt.mp a) (by have := Int32.lt_iff_toInt_lt.mp b; omega)
    · rw [b1] at a; exact (Int32.lt_irrefl a).elim
  · rcases b with b | ⟨-, b2⟩
    · rw [a1] at b; exact (Int32.lt_irrefl b).elim
    · omega
theorem g_opt_iff {P P' : Nat → Prop} {u : Nat → Int32} {q : Nat} (e : ∀ m, P m ↔ P' m) (h : g_opt P u q) : g_opt P' u q := ⟨(e q).mp h.1, fun m hm => h.2 m ((e m).mpr hm)⟩
def g_stt (P : Nat → Prop) (u : Nat → Int32) (s : Int32 × Int32 × Int32) : Prop := (s.1 = 0 ∧ ∀ m, ¬ P m) ∨ ∃ q, s = (1, u q, nI q) ∧ g_opt P u q
theorem g_stt_iff {P P' : Nat → Prop} {u : Nat → Int32} {s : Int32 × Int32 × Int32} (e : ∀ m, P m ↔ P' m) (h : g_stt P u s) : g_stt P' u s := by
  rcases h with ⟨h1, h2⟩ | ⟨q, h1, h2⟩
  · exact Or.inl ⟨h1, fun m q => h2 m ((e m).mpr q)⟩
  · exact Or.inr ⟨q, h1, g_opt_iff e h2⟩
theorem g_stt_add {P : Nat → Prop} {u : Nat → Int32} {s : Int32 × Int32 × Int32} {m : Nat} (h : g_stt P u s) (hb : ∀ j, P j → g_pc j < g_pc m ∨ (g_pc j = g_pc m ∧ j ≤ m)) : g_stt (fun j => P j ∨ j = m) u (g_km s (u m) (nI m)) := by
  unfold g_km
  rcases h with ⟨h1, h2⟩ | ⟨q, h1, h2⟩
  · rw [if_pos h1]
    refine Or.inr ⟨m, rfl, Or.inr rfl, fun j hj => ?_⟩
    rcases hj with hj | rfl
    · exact absurd hj (h2 j)
    · exact Or.inr ⟨rfl, Or.inr ⟨rfl, Nat.le_refl _⟩⟩
  · subst h1
    rw [if_neg (show ¬ (1 : Int32) = 0 by decide)]
    by_cases hv : u m ≤ u q
    · rw [if_pos hv]
      refine Or.inr ⟨q, rfl, Or.inl h2.1, fun j hj => ?_⟩
      rcases hj with hj | rfl
      · exact h2.2 j hj
      · by_cases e : u j = u q
        · exact Or.inr ⟨e, hb q h2.1⟩
        · left
          rw [Int32.lt_iff_toInt_lt]
          have := Int32.le_iff_toInt_le.mp hv
          have : (u j).toInt ≠ (u q).toInt := fun z => e (Int32.toInt_inj.mp z)
          omega
    · rw [if_neg hv]
      refine Or.inr ⟨m, rfl, Or.inr rfl, fun j hj => ?_⟩
      have hlt := Int32.lt_iff_toInt_lt.mp (Int32.not_le.mp hv)
      rcases hj with hj | rfl
      · left
        rw [Int32.lt_iff_toInt_lt]
        rcases h2.2 j hj with z | ⟨z, -⟩
        · have := Int32.lt_iff_toInt_lt.mp z
          omega
        · rw [z]; exact hlt
      · exact Or.inr ⟨rfl, Or.inr ⟨rfl, Nat.le_refl _⟩⟩
noncomputable def g_u (p : g_Plan) (rule : Nat) (think : Int32) (r : g_Row) (m : Nat) : Int32 := g_far p rule think (g_lga p (nI m) (pn p) 0 r) 32
def g_vd (p : g_Plan) (r : g_Row) (m : Nat) : Prop := m < 2 ^ pn p ∧ g_aop r (nI m) (pn p) 0 = true
theorem g_fd2_st (p : g_Plan) (rule : Nat) (think : Int32) (r : g_Row) (c : Nat) : ∀ k m s, m + k = 2 ^ pn p → g_stt (fun j => g_vd p r j ∧ (g_pc j < c ∨ (g_pc j = c ∧ j < m))) (g_u p rule think r) s → g_stt (fun j => g_vd p r j ∧ g_pc j < c + 1) (g_u p rule think r) (g_fd2 p rule think r c k m s) := by
  intro k
  induction k with
  | zero =>
    intro m s hm h
    refine g_stt_iff (fun j => ⟨fun q => ⟨q.1, by have := q.2; omega⟩, fun q => ⟨q.1, by have := q.1.1; have := q.2; omega⟩⟩) h
  | succ k ih =>
    intro m s hm h
    unfold g_fd2
    by_cases hv : g_pc m = c ∧ g_aop r (nI m) (pn p) 0 = true
    · rw [if_pos hv]
      refine ih (m + 1) _ (by omega) (g_stt_iff (fun j => ?_) (g_stt_add (m := m) h (fun j q => by have := q.2; omega)))
      constructor
      · rintro (q | rfl)
        · exact ⟨q.1, by have := q.2; omega⟩
        · exact ⟨⟨by omega, hv.2⟩, Or.inr ⟨hv.1, by omega⟩⟩
      · intro q
        by_cases e : j = m
        · exact Or.inr e
        · exact Or.inl ⟨q.1, by have := q.2; omega⟩
    · rw [if_neg hv]
      refine ih (m + 1) _ (by omega) (g_stt_iff (fun j => ?_) h)
      constructor
      · intro q
        exact ⟨q.1, by have := q.2; omega⟩
      · intro q
        refine ⟨q.1, ?_⟩
        have h2 := q.2
        by_cases e : j = m
        · subst e
          rcases h2 with z | z
          · exact Or.inl z
          · exact absurd ⟨z.1, q.1.2⟩ hv
        · omega
theorem g_fd1_st (p : g_Plan) (rule : Nat) (think : Int32) (r : g_Row) : ∀ k c s, g_stt (fun j => g_vd p r j ∧ g_pc j < c) (g_u p rule think r) s → g_stt (fun j => g_vd p r j ∧ g_pc j < c + k) (g_u p rule think r) (g_fd1 p rule think r k c s) := by
  intro k
  induction k with
  | zero => intro c s h; exact h
  | succ k ih =>
    intro c s h
    have q := ih (c + 1) _ (g_fd2_st p rule think r c (2 ^ pn p) 0 s (by omega) (g_stt_iff (fun j => ⟨fun q => ⟨q.1, Or.inl q.2⟩, fun q => ⟨q.1, by have := q.2; omega⟩⟩) h))
    refine g_stt_iff (fun j => ?_) q
    rw [show c + 1 + k = c + (k + 1) by omega]
theorem g_pc_le : ∀ n, n < 7 → ∀ m, m < 2 ^ n → g_pc m ≤ n := by decide +kernel
theorem g_in00 : ∀ b, b < 6 → ¬ g_in b (nI 0) = true := by decide
theorem g_aop_s {r : g_Row} {m : Int32} : ∀ k b, g_aop r m k b = true ↔ ∀ j, b ≤ j → j < b + k → g_in j m = true → g_open r j = true := by
  intro k
  induction k with
  | zero => intro b; exact ⟨fun _ j h1 h2 => by omega, fun _ => rfl⟩
  | succ k ih =>
    intro b
    unfold g_aop
    by_cases h : g_in b m = true
    · rw [if_pos h]
      by_cases ho : g_open r b = true
      · rw [if_pos ho, ih]
        refine ⟨fun q j h1 h2 h3 => ?_, fun q j h1 h2 h3 => q j (by omega) (by omega) h3⟩
        by_cases e : j = b
        · subst e; exact ho
        · exact q j (by omega) (by omega) h3
      · rw [if_neg ho]
        exact ⟨fun q => (by cases q), fun q => absurd (q b (by omega) (by omega) h) ho⟩
    · rw [if_neg h, ih]
      refine ⟨fun q j h1 h2 h3 => ?_, fun q j h1 h2 h3 => q j (by omega) (by omega) h3⟩
      by_cases e : j = b
      · subst e; exact absurd h3 h
      · exact q j (by omega) (by omega) h3
theorem g_vd_0 (p : g_Plan) (hn : pn p ≤ 6) (r : g_Row) : g_vd p r 0 := ⟨Nat.pow_pos (by decide), (g_aop_s _ _).mpr (fun j _ h2 h3 => absurd h3 (g_in00 j (by omega)))⟩
/-- the class's answer: the best in this sense -/
theorem g_fd1_q (p : g_Plan) (hn : pn p ≤ 6) (rule : Nat) (think : Int32) (r : g_Row) (a b : Int32) : ∃ q, g_fd1 p rule think r (pn p + 1) 0 (0, a, b) = (1, g_u p rule think r q, nI q) ∧ g_opt (g_vd p r) (g_u p rule think r) q := by
  have h := g_fd1_st p rule think r (pn p + 1) 0 (0, a, b) (Or.inl ⟨rfl, fun m q => by have := q.2; omega⟩)
  have e : ∀ m, (g_vd p r m ∧ g_pc m < 0 + (pn p + 1)) ↔ g_vd p r m := fun m => ⟨fun q => q.1, fun q => ⟨q, by have := g_pc_le (pn p) (by omega) m q.1; omega⟩⟩
  have h := g_stt_iff e h
  rcases h with ⟨-, h⟩ | ⟨q, h1, h2⟩
  · exact absurd (g_vd_0 p hn r) (h 0)
  · exact ⟨q, h1, h2⟩
theorem g_lga_0 {p : g_Plan} (r : g_Row) : ∀ k b, b + k ≤ 6 → g_lga p (nI 0) k b r = r := by
  intro k
  induction k with
  | zero => intro b _; rfl
  | succ k ih =>
    intro b h
    unfold g_lga
    rw [if_neg (g_in00 b (by omega)), ih (b + 1) (by omega)]
theorem g_lga_32 {p : g_Plan} (h0 : g_OK p) (m : Int32) : ∀ k b r, b + k = pn p → -2000000 + 999 * (k : Int) ≤ (r 32).toInt → (r 32).toInt ≤ 2000000 → (r 32).toInt - 999 * (k : Int) ≤ (g_lga p m k b r 32).toInt ∧ (g_lga p m k b r 32).toInt ≤ (r 32).toInt := by
  intro k
  induction k with
  | zero => intro b r _ _ _; exact ⟨by show (r 32).toInt - _ ≤ (r 32).toInt; omega, Int.le_refl _⟩
  | succ k ih =>
    intro b r hb h1 h2
    have hn := h0.1
    unfold g_lga
    by_cases h : g_in b m = true
    · rw [if_pos h]
      have hl := h0.2.2.2.2.2.2.2.2.2.1 b (by omega)
      have e : (g_go p r b 32).toInt = (r 32).toInt - (pls p b).toInt := by
        unfold g_go
        rw [g_set_n _ _ (by omega), g_set_e, g_sub32 (by omega) (by omega)]
      have q := ih (b + 1) (g_go p r b) (by omega) (by omega) (by omega)
      rw [e] at q
      omega
    · rw [if_neg h]
      have q := ih (b + 1) r (by omega) (by omega) (by omega)
      omega
theorem g_bit : ∀ n, n < 7 → ∀ m, m < 2 ^ n → m ≠ 0 → ∃ b, b < n ∧ g_in b (nI m) = true := by decide +kernel
theorem g_pc0 : ∀ m, m < 64 → m ≠ 0 → 0 < g_pc m := by decide +kernel
theorem g_far_over {p : g_Plan} {r : g_Row} (rule : Nat) (x : Int32) (h : g_over p r = true) : g_far p rule x r = r := by
  unfold g_far g_follow g_flw
  rw [if_pos h]
/-- where all is over nothing is let go -/
theorem g_opt_over {p : g_Plan} (h0 : g_OK p) {r : g_Row} (rule : Nat) (x : Int32) (hB : g_bd r 1000000) (ho : g_over p r = true) : g_opt (g_vd p r) (g_u p rule x r) 0 := by
  have hn := h0.1
  refine ⟨g_vd_0 p hn r, fun m hm => ?_⟩
  have h64 := g_p64 (pn p) (by omega)
  have u0 : g_u p rule x r 0 = r 32 := by
    unfold g_u
    rw [g_lga_0 r _ _ (by omega), g_far_over rule x ho]
  by_cases e : m = 0
  · subst e; exact Or.inr ⟨rfl, Or.inr ⟨rfl, Nat.le_refl _⟩⟩
  · have e31 := g_lga_31 p (nI m) (pn p) 0 r (by omega)
    have e30 : ∀ k b r, b + k ≤ 6 → g_lga p (nI m) k b r 30 = r 30 := by
      intro k
      induction k with
      | zero => intro b r _; rfl
      | succ k ih =>
        intro b r hb
        unfold g_lga
        split
        · rw [ih (b + 1) _ (by omega)]
          unfold g_go
          rw [g_set_n _ _ (by omega), g_set_n _ _ (by decide)]
        · rw [ih (b + 1) _ (by omega)]
    have ho' : g_over p (g_lga p (nI m) (pn p) 0 r) = true := by
      rcases of_decide_eq_true ho with z | z | z
      · exact decide_eq_true (Or.inl (by rw [e31.2]; exact z))
      · exact decide_eq_true (Or.inr (Or.inl (by rw [e30 _ _ _ (by omega)]; exact z)))
      · obtain ⟨b, hb, hin⟩ := g_bit (pn p) (by omega) m hm.1 e
        have := (g_aop_s _ _).mp hm.2 b (by omega) (by omega) hin
        rw [(am_cnt_0 _ _ _).mp z b (by omega) (by omega)] at this
        cases this
    have um : g_u p rule x r m = g_lga p (nI m) (pn p) 0 r 32 := by
      unfold g_u
      rw [g_far_over rule x ho']
    have q := g_lga_32 h0 (nI m) (pn p) 0 r (by omega) (by have := hB.1; omega) (by have := hB.2; omega)
    rw [u0, um]
    by_cases e2 : g_lga p (nI m) (pn p) 0 r 32 = r 32
    · exact Or.inr ⟨e2, Or.inl (by have := g_pc0 m (by have := hm.1; omega) e; show g_pc 0 < g_pc m; exact this)⟩
    · left
      rw [Int32.lt_iff_toInt_lt]
      have : (g_lga p (nI m) (pn p) 0 r 32).toInt ≠ (r 32).toInt := fun z => e2 (Int32.toInt_inj.mp z)
      omega
/-! the reference's way -/
def g_bs (m : Nat) : Nat → Nat → Int32 → Int32
  | 0, _, a => a
  | k + 1, x, a => g_bs m k (x + 1) (a + ((nI m >>> (nI x &&& 31)) &&& 1))
theorem g_bs_ok : ∀ m, m < 64 → g_bs m 6 0 0 = nI (g_pc m) := by decide +kernel
theorem s_m_bits4 (d m : Nat) (I : am_I) (J : am_J) : ∀ k x a, x + k = 6 → f_m_bits_4 d (nI m) a (nI x) I J = some (some (.int (g_bs m k x a)), I, J) := by
  intro k
  induction k with
  | zero =>
    intro x a hx
    refine b_m_bits_4 d _ _ _ I J _ ?_
    rw [if_pos (show (6 : Int32) ≤ nI x from nI_le (a := 6) (by omega) (by omega))]
    rfl
  | succ k ih =>
    intro x a hx
    refine b_m_bits_4 d _ _ _ I J _ ?_
    rw [if_neg (show ¬ (6 : Int32) ≤ nI x from nI_ge (b := 6) (by omega) (by omega)), nI_1, ih (x + 1) _ (by omega)]
    rfl
theorem s_m_bits (d m : Nat) (I : am_I) (J : am_J) (hm : m < 64) : f_m_bits_0 d (nI m) I J = some (some (.int (nI (g_pc m))), I, J) := by
  refine b_m_bits_0 d _ I J _ ?_
  have h := s_m_bits4 d m I J 6 0 0 (by omega)
  rw [g_bs_ok m hm] at h
  exact h
theorem s_m_canDrop2 (d v m : Nat) (p : g_Plan) (I : am_I) (J : am_J) (hm : m < 64) (hm0 : m ≠ 0) (hC : m_C p v I) (h30 : I 98 30 ≤ pck p) : ∀ k b, b + k = pn p → f_m_canDrop_2 d (nI m) (nI b) I J = some (some (.int (am_tf (g_aop (I 98) (nI m) k b = true ∧ ¬ g_over p (I 98) = true))), I, J) := by
  have hn := hC.1.1
  intro k
  induction k with
  | zero =>
    intro b hb
    refine b_m_canDrop_2 d _ _ I J _ ?_
    rw [hC.2.2.1, am_at_n hC.2.1 (by omega), hC.2.2.2.1, if_pos (nI_le (by omega) (by omega)), if_neg (nI_ne0 (by omega) (by omega)), s_m_isOver d v p I J hC h30, am_bi_i]
    by_cases ho : g_over p (I 98) = true
    · rw [if_neg (fun q => am_tf0.mp q ho), am_b01_0, am_tf_f (fun q => q.2 ho)]
    · rw [if_pos (am_tf0.mpr ho), am_b01_1, am_tf_t ⟨rfl, ho⟩]
  | succ k ih =>
    intro b hb
    refine b_m_canDrop_2 d _ _ I J _ ?_
    rw [hC.2.2.1, am_at_n hC.2.1 (by omega), hC.2.2.2.1, if_neg (nI_ge (by omega) (by omega)), nI_1]
    unfold g_aop
    by_cases h : g_in b (nI m) = true
    · rw [if_pos (of_decide_eq_true h), s_m_isOpen d b I J (by omega), am_bi_i, if_pos h]
      by_cases ho : g_open (I 98) b = true
      · rw [if_neg (fun q => am_tf0.mp q ho), if_pos ho, ih (b + 1) (by omega)]
      · rw [if_pos (am_tf0.mpr ho), am_b01_0, am_tf_f (fun q => ?_)]
        have q1 := q.1
        rw [if_neg ho] at q1
        cases q1
    · rw [if_neg (fun q => h (decide_eq_true q)), if_neg h, ih (b + 1) (by omega)]
theorem s_m_dropBest71 (d rule i v m : Nat) (p : g_Plan) (J : am_J) (x3 x4 x5 : Int32) : ∀ k b (I : am_I), b + k = pn p → m_C p v I → ∃ I' : am_I, I' 98 = g_lga p (nI m) k b (I 98) ∧ (∀ a k, a ≠ 98 → I' a k = I a k) ∧ ∀ o, f_m_dropBest_71 d (nI rule) (nI i) x3 x4 x5 (nI m) (nI (pn p)) I' J = some o → f_m_dropBest_71 d (nI rule) (nI i) x3 x4 x5 (nI m) (nI b) I J = some o := by
  intro k
  induction k with
  | zero =>
    intro b I hb hC
    obtain rfl : b = pn p := by omega
    exact ⟨I, rfl, fun _ _ _ => rfl, fun o h => h⟩
  | succ k ih =>
    intro b I hb hC
    have hn := hC.1.1
    have base := fun o => b_m_dropBest_71 d (nI rule) (nI i) x3 x4 x5 (nI m) (nI b) I J o
    rw [hC.2.2.1, am_at_n hC.2.1 (by omega), hC.2.2.2.1, if_neg (nI_ge (by omega) (by omega)), nI_1] at base
    unfold g_lga
    by_cases h : g_in b (nI m) = true
    · obtain ⟨I1, a1, r1, k1⟩ := s_m_drops d b v p I J hC (by omega)
      rw [if_pos (of_decide_eq_true h), a1, am_bv_v] at base
      obtain ⟨I', e1, e2, e3⟩ := ih (b + 1) I1 (by omega) (hC.keep (k1 68 18 (by decide)) (fun a k ha => k1 a k ((show ∀ c ∈ m_Cc, c ≠ 98 by decide) a ha)))
      exact ⟨I', by rw [if_pos h, e1, r1], fun a k ha => (e2 a k ha).trans (k1 a k ha), fun o q => base o (e3 o q)⟩
    · rw [if_neg (fun q => h (decide_eq_true q))] at base
      obtain ⟨I', e1, e2, e3⟩ := ih (b + 1) I (by omega) hC
      exact ⟨I', by rw [if_neg h, e1], e2, fun o q => base o (e3 o q)⟩
theorem g_lga_R {p : g_Plan} (m : Int32) : ∀ k b r r', g_R p r r' → g_R p (g_lga p m k b r) (g_lga p m k b r') := by
  intro k
  induction k with
  | zero => intro b r r' h; exact h
  | succ k ih =>
    intro b r r' h
    unfold g_lga
    split
    · exact ih _ _ _ (g_go_R h b)
    · exact ih _ _ _ h
theorem g_lga_lo {p : g_Plan} (hn : pn p ≤ 6) (m : Int32) : ∀ k b r j, b + k ≤ pn p → (j < 6 ∨ j = 30) → g_lga p m k b r j = r j := by
  intro k
  induction k with
  | zero => intro b r j _ _; rfl
  | succ k ih =>
    intro b r j hb hj
    unfold g_lga
    split
    · rw [ih (b + 1) _ j (by omega) hj]
      unfold g_go
      rw [g_set_n _ _ (by omega), g_set_n _ _ (by omega)]
    · exact ih (b + 1) r j (by omega) hj
theorem g_aop_R {p : g_Plan} (hn : pn p ≤ 6) {r r' : g_Row} (h : g_R p r r') (m : Int32) : g_aop r m (pn p) 0 = g_aop r' m (pn p) 0 := by
  rw [Bool.eq_iff_iff, g_aop_s, g_aop_s]
  constructor
  · intro q j h1 h2 h3
    rw [← g_open_c (h.same hn (by omega))]
    exact q j h1 h2 h3
  · intro q j h1 h2 h3
    rw [g_open_c (h.same hn (by omega))]
    exact q j h1 h2 h3
/-- what the reference looks at up to a set -/
def g_vm (p : g_Plan) (r : g_Row) (m j : Nat) : Prop := j < m ∧ g_aop r (nI j) (pn p) 0 = true ∧ (j = 0 ∨ ¬ g_over p r = true)
theorem s_m_dropBest36 (d rule i v : Nat) (p : g_Plan) (J : am_J) (r : g_Row) (x3 : Int32) (hr : rule < 4) (hi : i < ptc p) : ∀ k m q (I : am_I), m + k = 2 ^ pn p → 0 < m → m_C p v I → m_N p r I → g_opt (g_vm p r m) (g_u p rule (pth p i) r) q → ∃ q' I', f_m_dropBest_36 d (nI rule) (nI i) x3 (nI q) (g_u p rule (pth p i) r q) (nI m) I J = some (some (.int (if x3 = 0 then g_u p rule (pth p i) r q' else nI q')), I', J) ∧ g_opt (g_vm p r (2 ^ pn p)) (g_u p rule (pth p i) r) q' ∧ ∀ c k, m_G c k → I' c k = I c k := by
  intro k
  induction k with
  | zero =>
    intro m q I hm hm0 hC hN ho
    have hn := hC.1.1
    have h64 := g_p64 (pn p) (by omega)
    obtain rfl : m = 2 ^ pn p := by omega
    have base := b_m_dropBest_36 d (nI rule) (nI i) x3 (nI q) (g_u p rule (pth p i) r q) (nI (2 ^ pn p)) I J
    rw [hC.2.2.1, am_at_n hC.2.1 (by omega), hC.2.2.2.1, g_shl (pn p) (by omega), if_pos (nI_le (by omega) (by omega))] at base
    refine ⟨q, I, base _ ?_, ho, fun _ _ _ => rfl⟩
    by_cases h : x3 = 0
    · rw [if_pos h, if_pos h]
    · rw [if_neg h, if_neg h]
  | succ k ih =>
    intro m q I hm hm0 hC hN ho
    have hn := hC.1.1
    have h64 := g_p64 (pn p) (by omega)
    have base := b_m_dropBest_36 d (nI rule) (nI i) x3 (nI q) (g_u p rule (pth p i) r q) (nI m) I J
    obtain ⟨I1, a1, C1, N1, R1, c1, l1, h1, k1⟩ := s_m_fresh d v p I J r hC hN
    have h30 : I1 98 30 ≤ pck p := by rw [← R1.hi 30 (by decide) (by decide)]; exact hN.2.2.1
    have hcd : f_m_canDrop_0 d (nI m) I1 J = some (some (.int (am_tf (g_aop r (nI m) (pn p) 0 = true ∧ ¬ g_over p r = true))), I1, J) := by
      refine b_m_canDrop_0 d _ I1 J _ ?_
      have q := s_m_canDrop2 d v m p I1 J (by omega) (by omega) C1 h30 (pn p) 0 (by omega)
      rw [← g_aop_R hn R1, ← (R1.E hn).over] at q
      exact q
    rw [hC.2.2.1, am_at_n hC.2.1 (by omega), hC.2.2.2.1, g_shl (pn p) (by omega), if_neg (nI_ge (by omega) (by omega)), a1, am_bv_v, hcd, am_bi_i, nI_1] at base
    have hq := ho.1.1
    by_cases hv : g_aop r (nI m) (pn p) 0 = true ∧ ¬ g_over p r = true
    · rw [if_neg (fun z => am_tf0.mp z hv)] at base
      obtain ⟨I2, r2, k2, go2⟩ := s_m_dropBest71 d rule i v m p J x3 (nI q) (g_u p rule (pth p i) r q) (pn p) 0 I1 (by omega) C1
      have C2 : m_C p v I2 := C1.keep (k2 68 18 (by decide)) (fun a k ha => k2 a k ((show ∀ c ∈ m_Cc, c ≠ 98 by decide) a ha))
      have base2 := b_m_dropBest_71 d (nI rule) (nI i) x3 (nI q) (g_u p rule (pth p i) r q) (nI m) (nI (pn p)) I2 J
      have R2 : g_R p (g_lga p (nI m) (pn p) 0 r) (I2 98) := by rw [r2]; exact g_lga_R (nI m) _ _ _ _ R1
      have at2 : g_at (g_lga p (nI m) (pn p) 0 r) := by
        obtain ⟨s, hs, he⟩ := hN.2.1
        exact ⟨s, hs, by rw [(g_lga_31 p (nI m) (pn p) 0 r (by omega)).1, he]⟩
      obtain ⟨I3, a3, -, k3⟩ := s_m_plain d rule i v p I2 J (fun _ => 0) (-1) _ hr hi C2 (R2.E hn) at2 (by rw [g_lga_lo hn _ _ _ _ _ (by omega) (Or.inr rfl)]; exact hN.2.2.1) (by
        intro b hb
        rw [r2, g_lga_lo hn _ _ _ _ _ (by omega) (Or.inl (by omega))]
        exact c1 b hb) (fun b hb => by rw [k2 99 b (by decide)]; exact l1 b (by omega)) (by rw [k2 68 49 (by decide)]; exact h1)
      have a3 : f_m_goesBy_0 d (nI rule) (nI i) I2 J = some (some (.int (g_u p rule (pth p i) r m)), I3, J) := a3
      have kk : ∀ a k, m_G a k → I3 a k = I a k := fun a k ha => by rw [k3 a k ha.F, k2 a k ha.c.1, k1 a k ha]
      have C3 := hC.G kk
      have N3 := hN.keep kk
      rw [C2.2.2.1, am_at_n C2.2.1 (by omega), C2.2.2.2.1, if_pos (nI_le (Nat.le_refl _) (by omega)), a3, am_bi_i, s_m_bits d m I3 J (by omega), am_bi_i, s_m_bits d q I3 J (by omega), am_bi_i, nI_1] at base2
      have vm : g_vm p r (m + 1) m := ⟨by omega, hv.1, Or.inr hv.2⟩
      have up : ∀ j, g_vm p r (m + 1) j → g_vm p r m j ∨ j = m := fun j z => by
        by_cases e : j = m
        · exact Or.inr e
        · exact Or.inl ⟨by have := z.1; omega, z.2⟩
      have stay : (g_u p rule (pth p i) r m < g_u p rule (pth p i) r q ∨ (g_u p rule (pth p i) r m = g_u p rule (pth p i) r q ∧ ¬ g_pc m < g_pc q)) → g_opt (g_vm p r (m + 1)) (g_u p rule (pth p i) r) q := by
        intro z
        refine ⟨⟨by omega, ho.1.2⟩, fun j hj => ?_⟩
        rcases up j hj with y | rfl
        · exact ho.2 j y
        · rcases z with z | ⟨z1, z2⟩
          · exact Or.inl z
          · exact Or.inr ⟨z1, by omega⟩
      have go : (g_u p rule (pth p i) r q < g_u p rule (pth p i) r m ∨ (g_u p rule (pth p i) r m = g_u p rule (pth p i) r q ∧ g_pc m < g_pc q)) → g_opt (g_vm p r (m + 1)) (g_u p rule (pth p i) r) m := by
        intro z
        refine ⟨vm, fun j hj => ?_⟩
        rcases up j hj with y | rfl
        · rcases ho.2 j y with x | ⟨x1, x2⟩
          · left
            rcases z with z | ⟨z1, -⟩
            · rw [Int32.lt_iff_toInt_lt] at x z ⊢; omega
            · rw [z1]; exact x
          · rcases z with z | ⟨z1, z2⟩
            · left; rw [x1]; exact z
            · right; exact ⟨x1.trans z1.symm, by omega⟩
        · exact Or.inr ⟨rfl, Or.inr ⟨rfl, Nat.le_refl _⟩⟩
      have hpm : g_pc m ≤ 6 := by unfold g_pc; omega
      have hpq : g_pc q ≤ 6 := by unfold g_pc; omega
      by_cases z1 : g_u p rule (pth p i) r m < g_u p rule (pth p i) r q
      · rw [if_pos z1] at base2
        obtain ⟨q', I', e1, e2, e3⟩ := ih (m + 1) q I3 (by omega) (by omega) C3 N3 (stay (Or.inl z1))
        exact ⟨q', I', base _ (go2 _ (base2 _ e1)), e2, fun c k hc => (e3 c k hc).trans (kk c k hc)⟩
      · rw [if_neg z1] at base2
        by_cases z2 : g_u p rule (pth p i) r m = g_u p rule (pth p i) r q
        · rw [if_pos z2] at base2
          by_cases z3 : g_pc m < g_pc q
          · rw [if_pos (nI_lt z3 (by omega))] at base2
            obtain ⟨q', I', e1, e2, e3⟩ := ih (m + 1) m I3 (by omega) (by omega) C3 N3 (go (Or.inr ⟨z2, z3⟩))
            exact ⟨q', I', base _ (go2 _ (base2 _ e1)), e2, fun c k hc => (e3 c k hc).trans (kk c k hc)⟩
          · rw [if_neg (nI_nlt (by omega) (by omega))] at base2
            obtain ⟨q', I', e1, e2, e3⟩ := ih (m + 1) q I3 (by omega) (by omega) C3 N3 (stay (Or.inr ⟨z2, z3⟩))
            exact ⟨q', I', base _ (go2 _ (base2 _ e1)), e2, fun c k hc => (e3 c k hc).trans (kk c k hc)⟩
        · rw [if_neg z2] at base2
          have z4 : g_u p rule (pth p i) r q < g_u p rule (pth p i) r m := by
            rw [Int32.lt_iff_toInt_lt] at z1 ⊢
            have : (g_u p rule (pth p i) r m).toInt ≠ (g_u p rule (pth p i) r q).toInt := fun y => z2 (Int32.toInt_inj.mp y)
            omega
          obtain ⟨q', I', e1, e2, e3⟩ := ih (m + 1) m I3 (by omega) (by omega) C3 N3 (go (Or.inl z4))
          exact ⟨q', I', base _ (go2 _ (base2 _ e1)), e2, fun c k hc => (e3 c k hc).trans (kk c k hc)⟩
    · rw [if_pos (am_tf0.mpr hv)] at base
      obtain ⟨q', I', e1, e2, e3⟩ := ih (m + 1) q I1 (by omega) (by omega) C1 N1 (g_opt_iff (fun j => ⟨fun z => ⟨by have := z.1; omega, z.2⟩, fun z => ⟨by
        by_cases e : j = m
        · subst e
          exact absurd ⟨z.2.1, z.2.2.resolve_left (by omega)⟩ hv
        · have := z.1; omega, z.2⟩⟩) ho)
      exact ⟨q', I', base _ e1, e2, fun c k hc => (e3 c k hc).trans (k1 c k hc)⟩
theorem s_m_dropBest (d rule i v : Nat) (p : g_Plan) (I : am_I) (J : am_J) (r : g_Row) (x3 a b : Int32) (hr : rule < 4) (hi : i < ptc p) (hC : m_C p v I) (hN : m_N p r I) (hB : g_bd r 1000000) : ∃ I', am_bi (f_m_wonBy_0 d (nI rule) (nI i) I J) (fun y9 I7 J8 => f_m_dropBest_36 d (nI rule) (nI i) x3 0 y9 1 I7 J8) = some (some (.int (if x3 = 0 then (g_fd1 p rule (pth p i) r (pn p + 1) 0 (0, a, b)).2.1 else (g_fd1 p rule (pth p i) r (pn p + 1) 0 (0, a, b)).2.2)), I', J) ∧ ∀ c k, m_G c k → I' c k = I c k := by
  have hn := hC.1.1
  have h1' : 1 ≤ 2 ^ pn p := Nat.one_le_two_pow
  obtain ⟨I1, a1, k1⟩ := s_m_wonBy d rule i v p I J r hr hi hC hN
  have u0 : g_u p rule (pth p i) r 0 = g_far p rule (pth p i) r 32 := by
    unfold g_u
    rw [g_lga_0 r _ _ (by omega)]
  obtain ⟨q', I', e1, e2, e3⟩ := s_m_dropBest36 d rule i v p J r x3 hr hi (2 ^ pn p - 1) 1 0 I1 (by omega) (by omega) (hC.G k1) (hN.keep k1) ⟨⟨by omega, (g_vd_0 p hn r).2, Or.inl rfl⟩, fun m hm => by
    obtain rfl : m = 0 := by have := hm.1; omega
    exact Or.inr ⟨rfl, Or.inr ⟨rfl, Nat.le_refl _⟩⟩⟩
  obtain ⟨q, c1, c2⟩ := g_fd1_q p hn rule (pth p i) r a b
  have eq : q' = q := by
    by_cases ho : g_over p r = true
    · have h0 : q' = 0 := by
        rcases e2.1.2.2 with z | z
        · exact z
        · exact absurd ho z
      rw [h0]
      exact g_opt_u (g_opt_over hC.1 rule (pth p i) hB ho) c2
    · exact g_opt_u (g_opt_iff (fun j => ⟨fun z => ⟨z.1, z.2.1⟩, fun z => ⟨z.1, z.2, Or.inr ho⟩⟩) e2) c2
  refine ⟨I', ?_, fun c k hc => (e3 c k hc).trans (k1 c k hc)⟩
  rw [a1, am_bi_i, c1, ← u0, ← eq]
  exact e1

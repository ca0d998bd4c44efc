/-! the reference tries rows of moves -/
/-- the numbers of cells that the search writes, from a depth on -/
def m_tf (d : Nat) (I I' : am_I) : Prop := ∀ c k, c ∉ ([95, 96, 98, 103, 104] : List Nat) → (c ≠ 68 ∨ (k ≠ 45 ∧ k ≠ 57 ∧ k ≠ 58 ∧ k ≠ 59)) → (c ≠ 105 ∨ k < 40 * d) → (c ≠ 101 ∨ k < d) → (c ≠ 102 ∨ k < d) → I' c k = I c k
theorem m_tf.tr {d d' : Nat} {I I' I'' : am_I} (h : m_tf d I I') (h' : m_tf d' I' I'') (hd : d ≤ d') : m_tf d I I'' := fun c k h1 h2 h3 h4 h5 => (h' c k h1 h2 (h3.imp id (fun q => by omega)) (h4.imp id (fun q => by omega)) (h5.imp id (fun q => by omega))).trans (h c k h1 h2 h3 h4 h5)
theorem m_tf.lo {d d' : Nat} {I I' : am_I} (h : m_tf d' I I') (hd : d ≤ d') : m_tf d I I' := fun c k h1 h2 h3 h4 h5 => h c k h1 h2 (h3.imp id (fun q => by omega)) (h4.imp id (fun q => by omega)) (h5.imp id (fun q => by omega))
theorem m_tf.e {d : Nat} {I I' : am_I} (h : m_tf d I I') {c k : Nat} (hc : c ∉ ([68, 95, 96, 98, 101, 102, 103, 104, 105] : List Nat)) : I' c k = I c k := by
  simp only [List.mem_cons, List.not_mem_nil, not_or] at hc
  refine h c k ?_ (Or.inl hc.1) (Or.inl hc.2.2.2.2.2.2.2.2.1) (Or.inl hc.2.2.2.2.1) (Or.inl hc.2.2.2.2.2.1)
  simp only [List.mem_cons, List.not_mem_nil, not_or]
  exact ⟨hc.2.1, hc.2.2.1, hc.2.2.2.1, hc.2.2.2.2.2.2.1, hc.2.2.2.2.2.2.2.1, not_false⟩
theorem m_tf.C {p : g_Plan} {v d : Nat} {I I' : am_I} (h : m_tf d I I') (hC : m_C p v I) : m_C p v I' := hC.keep (h 68 18 (by decide) (Or.inr (by decide)) (Or.inl (by decide)) (Or.inl (by decide)) (Or.inl (by decide))) (fun c k hc => h.e ((show ∀ c ∈ m_Cc, c ∉ ([68, 95, 96, 98, 101, 102, 103, 104, 105] : List Nat) by decide) c hc))
theorem m_tf.F {d : Nat} {I I' : am_I} (h : ∀ c k, m_F c k → I' c k = I c k) : m_tf d I I' := fun c k h1 h2 _ _ _ => h c k ⟨fun q => h1 ((show ∀ c ∈ ([95, 96, 98] : List Nat), c ∈ ([95, 96, 98, 103, 104] : List Nat) by decide) c q), h2.imp id (fun q => q.1)⟩
/-- all is ready to try rows at a depth, from the board b and the think t on -/
def m_tp (p : g_Plan) (v d : Nat) (r : g_Row) (path : Nat → Nat) (s : g_S) (I : am_I) : Prop := m_C p v I ∧ (∀ b, b < 6 → I 99 b = 0) ∧ I 68 49 = -1 ∧ g_R p r (m_sr I d) ∧ (∀ j, j < d → I 101 j = nI (path j / 10) ∧ I 102 j = nI (path j % 10)) ∧ m_ks s I
/-- what holds of a row that is gone on from -/
def g_gr (p : g_Plan) (r : g_Row) : Prop := g_at r ∧ r 30 ≤ pck p ∧ g_nn p r
theorem g_mv_gr {p : g_Plan} (hn : pn p ≤ 6) {r : g_Row} {b : Nat} (h : g_gr p r) (ho : g_open r b = true) (hb : b < pn p) (lt : g_Row) (ha beg x : Int32) : g_gr p (g_mv p lt ha r b beg x).2 := ⟨⟨b, by omega, g_mv_31 p lt ha r b beg x (by omega)⟩, g_mv_30 p lt ha r b beg x (by omega), g_mv_nn hn h.2.2 ho hb lt ha beg x⟩
theorem lo_findsBest_49 (lv W d : Nat) (J : am_J) (hd : d < 4) : ∀ k x (I : am_I), x + k = 40 → ∀ o, f_m_findsBest_49 lv (nI W) (nI d) (nI 40) (am_cpy I 105 (40 * d + x) 98 x k) J = some o → f_m_findsBest_49 lv (nI W) (nI d) (nI x) I J = some o := by
  intro k
  induction k with
  | zero =>
    intro x I hx o h
    obtain rfl : x = 40 := by omega
    rw [am_cpy_0] at h
    exact h
  | succ k ih =>
    intro x I hx o h
    refine b_m_findsBest_49 lv _ _ _ I J _ ?_
    rw [if_neg (show ¬ (40 : Int32) ≤ nI x from nI_ge (b := 40) (by omega) (by omega)), am_i40, pk_mul, nI_add, am_at_n (by omega) (by omega), am_at_n (by omega) (by omega), nI_1]
    refine ih (x + 1) _ (by omega) o ?_
    rw [show 40 * d + (x + 1) = 40 * d + x + 1 from rfl, am_cpy_s (by omega)]
    exact h
/-- what is known of the search from a depth on: it comes back to the depth ahead with the best -/
def m_TR (p : g_Plan) (v : Nat) (J : am_J) (W k : Nat) : Prop := ∀ (lv d : Nat) (r : g_Row) (path : Nat → Nat) (N b t : Nat) (s : g_S) (I : am_I), d + (k + 1) = W → (pn p - b) * 5 + 5 - t ≤ N → b ≤ pn p → t ≤ ptc p → g_gr p r → m_tp p v d r path s I → I 101 d = nI b → I 102 d + 1 = nI t → ∃ I', (∀ o, f_m_findsBest_29 lv (nI W) (nI d + (-1)) I' J = some o → f_m_findsBest_29 lv (nI W) (nI d) I J = some o) ∧ m_ks (g_rem (g_F p k d) p r path d (pn p - b) b t s) I' ∧ m_tf d I I'
theorem s_m_fbStep (p : g_Plan) (v : Nat) (J : am_J) (W : Nat) (hW : W ≤ 4) (k : Nat) (ihk : ∀ k', k = k' + 1 → m_TR p v J W k') : m_TR p v J W k := by
  intro lv d r path N
  induction N with
  | zero => intro b t s I hd hN hb ht _ hP; have := hP.1.1.2.2.2.2.2.2.2.2.2.2.1; omega
  | succ N ihN =>
    intro b t s I hd hN hb ht hgr hP h101 h102
    obtain ⟨hC, h99, h49, hR, hpath, hs⟩ := hP
    have hn := hC.1.1
    have htc := hC.1.2.2.2.2.2.2.2.2.2.2.1
    have hd4 : d < 4 := by omega
    have base := b_m_findsBest_29 lv (nI W) (nI d) I J
    -- on to the next move to try
    obtain ⟨I0, e0⟩ : ∃ I0, I0 = am_upd I 102 d (nI t) := ⟨_, rfl⟩
    have k0 : ∀ c j, (c ≠ 102 ∨ j ≠ d) → I0 c j = I c j := fun c j h => by
      rw [e0]
      rcases h with h | h
      · exact am_uc h
      · exact am_uk h
    have C0 : m_C p v I0 := hC.keep (k0 68 18 (Or.inl (by decide))) (fun c j hc => k0 c j (Or.inl ((show ∀ c ∈ m_Cc, c ≠ 102 by decide) c hc)))
    obtain ⟨I1, a1, v1, k1'⟩ := s_m_nextAt10 lv d v p J r hd4 (pn p - b) b t I0 (by omega) ht C0 (fun j q1 q2 => by
      show r j = I0 105 (40 * d + j)
      rw [k0 105 _ (Or.inl (by decide))]
      exact hR j q1 q2) hgr.2.2 (by rw [k0 101 d (Or.inl (by decide))]; exact h101) (by rw [e0, am_ue])
    have k1 : ∀ c j, (c ≠ 101 ∨ j ≠ d) → (c ≠ 102 ∨ j ≠ d) → I1 c j = I c j := fun c j q1 q2 => (k1' c j q1 q2).trans (k0 c j q2)
    have a0 : f_m_nextAt_0 lv (nI d) I J = some (some (.int (match g_na p r (pn p - b) b t with | none => 0 | some _ => 1)), I1, J) := by
      refine b_m_nextAt_0 lv (nI d) I J _ ?_
      rw [am_at_n hd4 (by omega), am_at_n hd4 (by omega), h102, ← e0]
      exact a1
    have t1 : m_tf d I I1 := fun c j _ _ _ q4 q5 => k1 c j (q4.imp id (fun q => by omega)) (q5.imp id (fun q => by omega))
    have C1 := t1.C hC
    have ks1 : m_ks s I1 := hs.keep (fun j _ => k1 68 j (Or.inl (by decide)) (Or.inl (by decide))) (fun j _ => ⟨k1 103 j (Or.inl (by decide)) (Or.inl (by decide)), k1 104 j (Or.inl (by decide)) (Or.inl (by decide))⟩)
    rw [if_neg (nI_pos (by omega)), a0, am_bi_i] at base
    cases hna : g_na p r (pn p - b) b t with
    | none =>
      rw [hna, if_pos rfl] at base
      refine ⟨I1, fun o h => base o h, ?_, t1⟩
      rw [g_na_none _ _ _ _ ht hna]
      exact ks1
    | some q =>
      obtain ⟨b', t'⟩ := q
      obtain ⟨⟨hb', ht', ho, hord⟩, erem⟩ := g_na_some (F := g_F p k d) (path := path) (d := d) (pn p - b) b t s b' t' (by omega) ht hna
      obtain ⟨w1, w2⟩ := v1 b' t' hna
      rw [hna, if_neg (show ¬ (1 : Int32) = 0 by decide)] at base
      have hb6 : b' < 6 := by omega
      -- the row that stood
      obtain ⟨I2, e2⟩ : ∃ I2, I2 = am_cpy I1 105 (40 * d + 0) 98 0 40 := ⟨_, rfl⟩
      have k2 : ∀ c j, c ≠ 98 → I2 c j = I1 c j := fun c j h => by rw [e2, am_cc h]
      have C2 : m_C p v I2 := C1.keep (k2 68 18 (by decide)) (fun c j hc => k2 c j ((show ∀ c ∈ m_Cc, c ≠ 98 by decide) c hc))
      have R2 : g_R p r (I2 98) := fun j q1 q2 => by
        rw [e2, am_ce (by omega) (by omega), k1 105 _ (Or.inl (by decide)) (Or.inl (by decide)), hR j q1 q2]
        show I 105 (40 * d + j) = I 105 (40 * d + 0 + (j - 0))
        congr 1
      have base2 := b_m_findsBest_49 lv (nI W) (nI d) (nI 40) I2 J
      have at2 : g_at (I2 98) := g_at_c R2.hi hgr.1
      obtain ⟨I3, a3, r3, k3⟩ := s_m_movesNow lv b' v p I2 J (pth p t') C2 hb' at2
      have ha2 : I2 68 49 = -1 := by rw [k2 68 49 (by decide), k1 68 49 (Or.inl (by decide)) (Or.inl (by decide))]; exact h49
      have hl2 : I2 99 b' = 0 := by rw [k2 99 b' (by decide), k1 99 b' (Or.inl (by decide)) (Or.inl (by decide))]; exact h99 b' hb6
      obtain ⟨r', er'⟩ : ∃ r', r' = (g_mv p (fun _ => 0) (-1) r b' (g_soon p r b') (pth p t')).2 := ⟨_, rfl⟩
      have sn : g_soon p r b' = g_soon p (I2 98) b' := g_soon_c R2.hi hgr.1 hb6 (R2.same hn hb')
      have R3 : g_R p r' (I3 98) := by
        rw [r3, er', sn]
        have q := (g_mv_R hn R2 (fun _ => 0) (-1) hb' (g_soon p (I2 98) b') (pth p t')).2
        have e : (g_mv p (I2 99) (I2 68 49) (I2 98) b' (g_soon p (I2 98) b') (pth p t')).2 = (g_mv p (fun _ => 0) (-1) (I2 98) b' (g_soon p (I2 98) b') (pth p t')).2 := by
          rw [ha2]
          unfold g_mv
          rw [hl2]
        rw [e]
        exact q
      have gr3 : g_gr p r' := by rw [er']; exact g_mv_gr hn hgr ho hb' _ _ _ _
      have t3 : m_tf (d + 1) I1 I3 := fun c j q1 q2 q3 q4 q5 => by
        have q1' := q1
        simp only [List.mem_cons, List.not_mem_nil, not_or] at q1'
        rw [k3 c j ⟨fun q => q1 ((show ∀ c ∈ ([95, 96, 98] : List Nat), c ∈ ([95, 96, 98, 103, 104] : List Nat) by decide) c q), q2.imp id (fun q => q.1)⟩, k2 c j q1'.2.2.1]
      have C3 := t3.C C1
      obtain ⟨path', ep⟩ : ∃ path', path' = g_pt path d (10 * b' + t') := ⟨_, rfl⟩
      have p3 : ∀ j, j < d + 1 → I3 101 j = nI (path' j / 10) ∧ I3 102 j = nI (path' j % 10) := fun j hj => by
        have z1 : I3 101 j = I1 101 j := t3 101 j (by decide) (Or.inl (by decide)) (Or.inl (by decide)) (Or.inr hj) (Or.inl (by decide))
        have z2 : I3 102 j = I1 102 j := t3 102 j (by decide) (Or.inl (by decide)) (Or.inl (by decide)) (Or.inl (by decide)) (Or.inr hj)
        rw [z1, z2, ep]
        unfold g_pt
        by_cases e : j = d
        · subst e
          rw [if_pos rfl, w1, w2, show (10 * b' + t') / 10 = b' by omega, show (10 * b' + t') % 10 = t' by omega]
          exact ⟨rfl, rfl⟩
        · rw [if_neg e, k1 101 j (Or.inr e) (Or.inl (by decide)), k1 102 j (Or.inl (by decide)) (Or.inr e)]
          exact hpath j (by omega)
      have ks3 : m_ks s I3 := ks1.keep (fun j q => by
        have : j ≠ 45 := by omega
        rw [k3 68 j ⟨by decide, Or.inr this⟩, k2 68 j (by decide)]) (fun j _ => ⟨by rw [k3 103 j ⟨by decide, Or.inl (by decide)⟩, k2 103 j (by decide)], by rw [k3 104 j ⟨by decide, Or.inl (by decide)⟩, k2 104 j (by decide)]⟩)
      have z101 : I2 101 d = nI b' := by rw [k2 101 d (by decide)]; exact w1
      have z102 : I2 102 d = nI t' := by rw [k2 102 d (by decide)]; exact w2
      rw [if_pos (show (40 : Int32) ≤ nI 40 by decide), am_at_n hd4 (by omega), am_at_n hd4 (by omega), z102, s_m_think lv t' v p I2 J C2 ht', am_bi_i, z101, a3, am_bi_i, am_i1, pk_sub (by omega), nI_add] at base2
      have go49 : ∀ o, f_m_findsBest_49 lv (nI W) (nI d) (nI 40) I2 J = some o → f_m_findsBest_29 lv (nI W) (nI d) I J = some o := fun o h => base o (lo_findsBest_49 lv W d J hd4 40 0 I1 (by omega) o (by rw [e2] at h; exact h))
      -- behind the noting
      have next : ∀ (I5 : am_I), m_ks (g_F p k d r' path' s) I5 → m_tf (d + 1) I1 I5 → ∃ I', (∀ o, f_m_findsBest_29 lv (nI W) (nI d + (-1)) I' J = some o → f_m_findsBest_29 lv (nI W) (nI d) I5 J = some o) ∧ m_ks (g_rem (g_F p k d) p r path d (pn p - b) b t s) I' ∧ m_tf d I I' := by
        intro I5 ks5 t5
        have t15 : m_tf d I I5 := t1.tr t5 (by omega)
        obtain ⟨I', q1, q2, q3⟩ := ihN b' (t' + 1) (g_F p k d r' path' s) I5 hd (by omega) (by omega) (by omega) hgr ⟨t15.C hC, fun j hj => by rw [t15.e (by decide)]; exact h99 j hj, by rw [t15 68 49 (by decide) (Or.inr (by decide)) (Or.inl (by decide)) (Or.inl (by decide)) (Or.inl (by decide))]; exact h49, fun j z1 z2 => by
          show r j = I5 105 (40 * d + j)
          rw [t5 105 _ (by decide) (Or.inl (by decide)) (Or.inr (by omega)) (Or.inl (by decide)) (Or.inl (by decide)), k1 105 _ (Or.inl (by decide)) (Or.inl (by decide))]
          exact hR j z1 z2, fun j hj => by
          rw [t15 101 j (by decide) (Or.inl (by decide)) (Or.inl (by decide)) (Or.inr hj) (Or.inl (by decide)), t15 102 j (by decide) (Or.inl (by decide)) (Or.inl (by decide)) (Or.inl (by decide)) (Or.inr hj)]
          exact hpath j hj, ks5⟩ (by rw [t5 101 d (by decide) (Or.inl (by decide)) (Or.inl (by decide)) (Or.inr (by omega)) (Or.inl (by decide))]; exact w1) (by rw [t5 102 d (by decide) (Or.inl (by decide)) (Or.inl (by decide)) (Or.inl (by decide)) (Or.inr (by omega)), w2, nI_1])
        refine ⟨I', q1, ?_, t15.tr q3 (Nat.le_refl _)⟩
        rw [erem, ← er', ← ep]
        exact q2
      have noted : ∃ I4, f_m_notesRow_0 lv (nI (d + 1)) I3 J = some (none, I4, J) ∧ m_ks (g_kr s (d + 1) (r' 32) path') I4 ∧ m_tf (d + 1) I1 I4 := by
        obtain ⟨I4, a4, s4, k4⟩ := s_m_notesRow lv (d + 1) path' s (r' 32) I3 J (by omega) (R3.hi 32 (by decide) (by decide)).symm p3 ks3
        refine ⟨I4, a4, s4, t3.tr (fun c j q1 q2 _ _ _ => ?_) (Nat.le_refl _)⟩
        simp only [List.mem_cons, List.not_mem_nil, not_or] at q1
        exact k4 c j q1.2.2.2.1 q1.2.2.2.2.1 (q2.imp id (fun q => q.2))
      cases k with
      | zero =>
        rw [if_pos (show nI d = nI (W - 1) by rw [show W - 1 = d by omega])] at base2
        obtain ⟨I4, a4, s4, t4⟩ := noted
        rw [a4, am_bv_v] at base2
        obtain ⟨I', q1, q2, q3⟩ := next I4 s4 t4
        exact ⟨I', fun o h => go49 o (base2 o (q1 o h)), q2, q3⟩
      | succ k =>
        have h30 : I3 98 30 ≤ pck p := by rw [← R3.hi 30 (by decide) (by decide)]; exact gr3.2.1
        rw [if_neg (show ¬ nI d = nI (W - 1) from fun q => by have := (nI_eq (by omega) (by omega)).mp q; omega), s_m_isOver lv v p I3 J C3 h30, am_bi_i, ← (R3.E hn).over] at base2
        by_cases hov : g_over p r' = true
        · rw [if_neg (fun q => am_tf0.mp q hov)] at base2
          obtain ⟨I4, a4, s4, t4⟩ := noted
          rw [a4, am_bv_v] at base2
          obtain ⟨I', q1, q2, q3⟩ := next I4 (by
            show m_ks (g_tr p (k + 1) (d + 1) r' path' s) I4
            unfold g_tr
            rw [if_pos hov]
            exact s4) t4
          exact ⟨I', fun o h => go49 o (base2 o (q1 o h)), q2, q3⟩
        · rw [if_pos (am_tf0.mpr hov)] at base2
          obtain ⟨I4, e4⟩ : ∃ I4, I4 = am_upd (am_upd (am_cpy I3 98 0 105 (40 * (d + 1) + 0) 40) 101 (d + 1) 0) 102 (d + 1) (-1) := ⟨_, rfl⟩
          have a4 : f_m_opens_0 lv (nI (d + 1)) I3 J = some (none, I4, J) := by
            refine b_m_opens_0 lv _ I3 J _ ?_
            exact lo_opens_2 lv (d + 1) (by omega) J _ 40 0 I3 (by omega) (by rw [e4])
          have k4 : ∀ c j, (c ≠ 105 ∨ j < 40 * (d + 1)) → (c ≠ 101 ∨ j ≠ d + 1) → (c ≠ 102 ∨ j ≠ d + 1) → I4 c j = I3 c j := fun c j q1 q2 q3 => by
            rw [e4]
            have z1 : am_upd (am_upd (am_cpy I3 98 0 105 (40 * (d + 1) + 0) 40) 101 (d + 1) 0) 102 (d + 1) (-1) c j = am_upd (am_cpy I3 98 0 105 (40 * (d + 1) + 0) 40) 101 (d + 1) 0 c j := by
              rcases q3 with h | h
              · exact am_uc h
              · exact am_uk h
            have z2 : am_upd (am_cpy I3 98 0 105 (40 * (d + 1) + 0) 40) 101 (d + 1) 0 c j = am_cpy I3 98 0 105 (40 * (d + 1) + 0) 40 c j := by
              rcases q2 with h | h
              · exact am_uc h
              · exact am_uk h
            rw [z1, z2]
            by_cases e : c = 105
            · subst e
              exact am_co (Or.inl (by have := q1.resolve_left (fun q => q rfl); omega))
            · exact am_cc e
          have t4 : m_tf (d + 1) I3 I4 := fun c j _ _ q3 q4 q5 => k4 c j q3 (q4.imp id (fun q => by omega)) (q5.imp id (fun q => by omega))
          have t14 : m_tf (d + 1) I1 I4 := t3.tr t4 (Nat.le_refl _)
          obtain ⟨I5, g5, s5, t5⟩ := ihk k rfl lv (d + 1) r' path' ((pn p - 0) * 5 + 5 - 0) 0 0 s I4 (by omega) (Nat.le_refl _) (by omega) (by omega) gr3 ⟨t14.C C1, fun j hj => by rw [t14.e (by decide), t1.e (by decide)]; exact h99 j hj, by
            rw [t14 68 49 (by decide) (Or.inr (by decide)) (Or.inl (by decide)) (Or.inl (by decide)) (Or.inl (by decide)), t1 68 49 (by decide) (Or.inr (by decide)) (Or.inl (by decide)) (Or.inl (by decide)) (Or.inl (by decide))]
            exact h49, fun j z1 z2 => by
            show r' j = I4 105 (40 * (d + 1) + j)
            rw [e4, am_uc (by decide), am_uc (by decide), am_ce (by omega) (by omega), R3 j z1 z2]
            congr 1
            omega, fun j hj => by
            rw [k4 101 j (Or.inl (by decide)) (Or.inr (by omega)) (Or.inl (by decide)), k4 102 j (Or.inl (by decide)) (Or.inl (by decide)) (Or.inr (by omega))]
            exact p3 j hj, ks3.keep (fun j _ => k4 68 j (Or.inl (by decide)) (Or.inl (by decide)) (Or.inl (by decide))) (fun j _ => ⟨k4 103 j (Or.inl (by decide)) (Or.inl (by decide)) (Or.inl (by decide)), k4 104 j (Or.inl (by decide)) (Or.inl (by decide)) (Or.inl (by decide))⟩)⟩ (by rw [e4, am_uc (by decide), am_ue]; rfl) (by rw [e4, am_ue]; decide)
          rw [a4, am_bv_v] at base2
          rw [pk_m1] at g5
          have e5 : g_rem (g_F p k (d + 1)) p r' path' (d + 1) (pn p - 0) 0 0 s = g_F p (k + 1) d r' path' s := by
            show _ = g_tr p (k + 1) (d + 1) r' path' s
            conv => rhs; unfold g_tr
            rw [if_neg hov, g_lb_rem]
            rfl
          rw [e5] at s5
          obtain ⟨I', q1, q2, q3⟩ := next I5 s5 (t14.tr t5 (Nat.le_refl _))
          exact ⟨I', fun o h => go49 o (base2 o (g5 o (q1 o h))), q2, q3⟩
theorem s_m_fbAll (p : g_Plan) (v : Nat) (J : am_J) (W : Nat) (hW : W ≤ 4) : ∀ k, m_TR p v J W k := by
  intro k
  induction k with
  | zero => exact s_m_fbStep p v J W hW 0 (fun k' e => by omega)
  | succ k ih => exact s_m_fbStep p v J W hW (k + 1) (fun k' e => by cases e; exact ih)
/-- all but what the reference's search writes -/
def m_B (c k : Nat) : Prop := m_G c k ∧ c ∉ ([101, 102, 103, 104, 105] : List Nat) ∧ (c ≠ 68 ∨ (k ≠ 57 ∧ k ≠ 58 ∧ k ≠ 59))
theorem s_m_findsBest (lv W v : Nat) (p : g_Plan) (I : am_I) (J : am_J) (r : g_Row) (hW : 1 ≤ W ∧ W ≤ 4) (hC : m_C p v I) (hN : m_N p r I) (hnn : g_nn p r) : ∃ I', f_m_findsBest_0 lv (nI W) I J = some (none, I', J) ∧ m_ks (g_tr p W 0 r (fun _ => 0) (0, 0, 0, fun _ => 0)) I' ∧ ∀ c k, m_B c k → I' c k = I c k := by
  have hn := hC.1.1
  have base := b_m_findsBest_0 lv (nI W) I J
  obtain ⟨I1, a1, C1, N1, R1, c1, l1, h1, k1⟩ := s_m_fresh lv v p I J r hC hN
  obtain ⟨I2, e2⟩ : ∃ I2, I2 = am_upd I1 68 59 0 := ⟨_, rfl⟩
  have k2 : ∀ c k, (c ≠ 68 ∨ k ≠ 59) → I2 c k = I1 c k := fun c k h => by
    rw [e2]
    rcases h with h | h
    · exact am_uc h
    · exact am_uk h
  have C2 : m_C p v I2 := C1.keep (k2 68 18 (Or.inr (by decide))) (fun c k hc => k2 c k (Or.inl ((show ∀ c ∈ m_Cc, c ≠ 68 by decide) c hc)))
  have r2 : I2 98 = I1 98 := by funext j; exact k2 98 j (Or.inl (by decide))
  have h30 : I2 98 30 ≤ pck p := by rw [r2, ← R1.hi 30 (by decide) (by decide)]; exact hN.2.2.1
  have ks2 : m_ks (0, 0, 0, fun _ => 0) I2 := ⟨by rw [e2, am_ue], Or.inl rfl⟩
  rw [a1, am_bv_v, ← e2, s_m_isOver lv v p I2 J C2 h30, am_bi_i, r2, ← (R1.E hn).over, am_b01_0] at base
  have ko : ∀ (I3 : am_I), m_tf 0 I2 I3 → ∀ c k, m_B c k → I3 c k = I c k := fun I3 t3 c k hc => by
    obtain ⟨hG, h5, h68⟩ := hc
    have h5' := h5
    simp only [List.mem_cons, List.not_mem_nil, not_or] at h5'
    have g1 := hG.1
    simp only [List.mem_cons, List.not_mem_nil, not_or] at g1
    rw [t3 c k (by simp only [List.mem_cons, List.not_mem_nil, not_or]; exact ⟨g1.1, g1.2.1, g1.2.2.1, h5'.2.2.1, h5'.2.2.2.1, not_false⟩) (by
      rcases h68 with h | h
      · exact Or.inl h
      · rcases hG.2 with h' | h'
        · exact Or.inl h'
        · exact Or.inr ⟨h'.1, h⟩) (Or.inl h5'.2.2.2.2.1) (Or.inl h5'.1) (Or.inl h5'.2.1), k2 c k (h68.imp id (fun q => q.2.2)), k1 c k hG]
  obtain ⟨W', rfl⟩ : ∃ W', W = W' + 1 := ⟨W - 1, by omega⟩
  unfold g_tr
  by_cases hov : g_over p r = true
  · rw [if_neg (fun q => am_tf0.mp q hov)] at base
    obtain ⟨I3, a3, s3, k3⟩ := s_m_notesRow lv 0 (fun _ => 0) (0, 0, 0, fun _ => 0) (r 32) I2 J (by omega) (by rw [r2]; exact (R1.hi 32 (by decide) (by decide)).symm) (fun j hj => by omega) ks2
    have a3 : f_m_notesRow_0 lv 0 I2 J = some (none, I3, J) := a3
    rw [a3, am_bv_v] at base
    rw [if_pos hov]
    exact ⟨I3, base _ rfl, s3, ko I3 (fun c k q1 q2 _ _ _ => by
      simp only [List.mem_cons, List.not_mem_nil, not_or] at q1
      exact k3 c k q1.2.2.2.1 q1.2.2.2.2.1 (q2.imp id (fun q => q.2)))⟩
  · rw [if_pos (am_tf0.mpr hov)] at base
    obtain ⟨I4, e4⟩ : ∃ I4, I4 = am_upd (am_upd (am_cpy I2 98 0 105 (40 * 0 + 0) 40) 101 0 0) 102 0 (-1) := ⟨_, rfl⟩
    have a4 : f_m_opens_0 lv 0 I2 J = some (none, I4, J) := by
      refine b_m_opens_0 lv 0 I2 J _ ?_
      exact lo_opens_2 lv 0 (by omega) J _ 40 0 I2 (by omega) (by rw [e4])
    have k4 : ∀ c j, c ≠ 105 → c ≠ 101 → c ≠ 102 → I4 c j = I2 c j := fun c j q1 q2 q3 => by rw [e4, am_uc q3, am_uc q2, am_cc q1]
    have t4 : m_tf 0 I2 I4 := fun c j _ _ q3 q4 q5 => k4 c j (q3.resolve_right (by omega)) (q4.resolve_right (by omega)) (q5.resolve_right (by omega))
    obtain ⟨I5, g5, s5, t5⟩ := s_m_fbAll p v J (W' + 1) hW.2 W' lv 0 r (fun _ => 0) ((pn p - 0) * 5 + 5 - 0) 0 0 (0, 0, 0, fun _ => 0) I4 (by omega) (Nat.le_refl _) (by omega) (by omega) ⟨hN.2.1, hN.2.2.1, hnn⟩ ⟨t4.C C2, fun j hj => by rw [k4 99 j (by decide) (by decide) (by decide), k2 99 j (Or.inl (by decide))]; exact l1 j hj, by rw [k4 68 49 (by decide) (by decide) (by decide), k2 68 49 (Or.inr (by decide))]; exact h1, fun j z1 z2 => by
      show r j = I4 105 (40 * 0 + j)
      rw [e4, am_uc (by decide), am_uc (by decide), am_ce (by omega) (by omega), r2, R1 j z1 z2]
      congr 1
      omega, fun j hj => by omega, ks2.keep (fun j _ => k4 68 j (by decide) (by decide) (by decide)) (fun j _ => ⟨k4 103 j (by decide) (by decide) (by decide), k4 104 j (by decide) (by decide) (by decide)⟩)⟩ (by rw [e4, am_uc (by decide), am_ue]; rfl) (by rw [e4, am_ue]; decide)
    rw [a4, am_bv_v] at base
    have hend : f_m_findsBest_29 lv (nI (W' + 1)) (nI 0 + (-1)) I5 J = some (none, I5, J) := by
      refine b_m_findsBest_29 lv _ _ I5 J _ ?_
      rw [if_pos (show nI 0 + (-1) < 0 by decide)]
    have e5 : g_rem (g_F p W' 0) p r (fun _ => 0) 0 (pn p - 0) 0 0 (0, 0, 0, fun _ => 0) = g_lb (fun r' path' s' => g_tr p W' (0 + 1) r' path' s') p r (fun _ => 0) 0 (pn p) 0 (0, 0, 0, fun _ => 0) := by
      rw [g_lb_rem]
      rfl
    rw [e5] at s5
    rw [if_neg hov]
    exact ⟨I5, base _ (g5 _ hend), s5, ko I5 (t4.tr t5 (Nat.le_refl _))⟩

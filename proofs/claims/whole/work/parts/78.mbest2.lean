/-! the reference tries rows of moves -/
/-- the numbers of cells that the search writes, from a depth on -/
def m_tf (d : Nat) (I I' : am_I) : Prop := ∀ c k, c ∉ ([95, 96, 98, 103, 104] : List Nat) → (c ≠ 68 ∨ (k ≠ 45 ∧ k ≠ 57 ∧ k ≠ 58 ∧ k ≠ 59)) → (c ≠ 105 ∨ k < 40 * d) → (c ≠ 101 ∨ k < d) → (c ≠ 102 ∨ k < d) → I' c k = I c k
theorem m_tf.tr {d d' : Nat} {I I' I'' : am_I} (h : m_tf d I I') (h' : m_tf d' I' I'') (hd : d ≤ d') : m_tf d I I'' := fun c k h1 h2 h3 h4 h5 => (h' c k h1 h2 (h3.imp id (fun q => by omega)) (h4.imp id (fun q => by omega)) (h5.imp id (fun q => by omega))).trans (h c k h1 h2 h3 h4 h5)
theorem m_tf.lo {d d' : Nat} {I I' : am_I} (h : m_tf d' I I') (hd : d ≤ d') : m_tf d I I' := fun c k h1 h2 h3 h4 h5 => h c k h1 h2 (h3.imp id (fun q => by omega)) (h4.imp id (fun q => by omega)) (h5.imp id (fun q => by omega))
theorem m_tf.e {d : Nat} {I I' : am_I} (h : m_tf d I I') {c k : Nat} (hc : c ∉ ([68, 95, 96, 98, 101, 102, 103, 104, 105] : List Nat)) : I' c k = I c k := by
  simp only [List.mem_cons, List.not_mem_nil, not_or] at hc
  refine h c k ?_ (Or.inl hc.1) (Or.inl hc.2.2.2.2.2.2.2.2.1) (Or.inl hc.2.2.2.2.1) (Or.inl hc.2.2.2.2.2.1)
  simp only [List.mem_cons, List.not_mem_nil, not_or]
  exact ⟨hc.2.1, hc.2.2.1, hc.2.2.2.1, hc.2.2.2.2.2.2.1, hc.2.2.2.2.2.2.2.1, not_false⟩
theorem m_tf.C {p : g_Plan} {v d : Nat} {I I' : am_I} (h : m_tf d I I') (hC : m_C p v I) : m_C p v I' := hC.keep (h 68 18 (by decide) (Or.inr (by decide)) (Or.inl (by decide)) (Or.inl (by decide)) (Or.inl (by decide))) (fun c k hc => h.e ((show ∀ c ∈ m_Cc, c ∉ ([68, 95, 96, 98, 101, 102, 103, 104, 105] : List Nat) by decide) c hc))
theorem m_tf.F {d : Nat} {I I' : am_I} (h : ∀ c k, m_F c k → I' c k = I c k) : m_tf d I I' := fun c k h1 h2 _ _ _ => h c k ⟨fun q => h1 ((show ∀ c ∈ ([95, 96, 98] : List Nat), c ∈ ([95, 96, 98, 103, 104] : List Nat) by decide) c q), h2.imp id (fun q => q.1)⟩
/-- all is ready to try rows at a depth, from the board b and the think t on -/
def m_tp (p : g_Plan) (v d : Nat) (r : g_Row) (path : Nat → Nat) (s : g_S) (I : am_I) : Prop := m_C p v I ∧ (∀ b, b < 6 → I 99 b = 0) ∧ I 68 49 = -1 ∧ g_R p r (m_sr I d) ∧ (∀ j, j < d → I 101 j = nI (path j / 10) ∧ I 102 j = nI (path j % 10)) ∧ m_ks s I
/-- what holds of a row that is gone on from -/
def g_gr (p : g_Plan) (r : g_Row) : Prop := g_at r ∧ r 30 ≤ pck p ∧ g_nn p r
theorem g_mv_gr {p : g_Plan} (hn : pn p ≤ 6) {r : g_Row} {b : Nat} (h : g_gr p r) (ho : g_open r b = true) (hb : b < pn p) (lt : g_Row) (ha beg x : Int32) : g_gr p (g_mv p lt ha r b beg x).2 := ⟨⟨b, by omega, g_mv_31 p lt ha r b beg x (by omega)⟩, g_mv_30 p lt ha r b beg x (by omega), g_mv_nn hn h.2.2 ho hb lt ha beg x⟩
theorem lo_findsBest_49 (lv W d : Nat) (J : am_J) (hd : d < 4) : ∀ k x (I : am_I), x + k = 40 → ∀ o, f_m_findsBest_49 lv (nI W) (nI d) (nI 40) (am_cpy I 105 (40 * d + x) 98 x k) J = some o → f_m_findsBest_49 lv (nI W) (nI d) (nI x) I J = some o := by
  intro k
  induction k with
  | zero =>
    intro x I hx o h
    obtain rfl : x = 40 := by omega
    rw [am_cpy_0] at h
    exact h
  | succ k ih =>
    intro x I hx o h
    refine b_m_findsBest_49 lv _ _ _ I J _ ?_
    rw [if_neg (show ¬ (40 : Int32) ≤ nI x from nI_ge (b := 40) (by omega) (by omega)), am_i40, pk_mul, nI_add, am_at_n (by omega) (by omega), am_at_n (by omega) (by omega), nI_1]
    refine ih (x + 1) _ (by omega) o ?_
    rw [show 40 * d + (x + 1) = 40 * d + x + 1 from rfl, am_cpy_s (by omega)]
    exact h
/-- what is known of the search from a depth on: it comes back to the depth ahead with the best -/
def m_TR (p : g_Plan) (v : Nat) (J : am_J) (W k : Nat) : Prop := ∀ (lv d : Nat) (r : g_Row) (path : Nat → Nat) (N b t : Nat) (s : g_S) (I : am_I), d + (k + 1) = W → (pn p - b) * 5 + 5 - t ≤ N → b ≤ pn p → t ≤ ptc p → g_gr p r → m_tp p v d r path s I → I 101 d = nI b → I 102 d + 1 = nI t → ∃ I', (∀ o, f_m_findsBest_29 lv (nI W) (nI d + (-1)) I' J = some o → f_m_findsBest_29 lv (nI W) (nI d) I J = some o) ∧ m_ks (g_rem (g_F p k d) p r path d (pn p - b) b t s) I' ∧ m_tf d I I'
theorem s_m_findsBest (p : g_Plan) (v : Nat) (J : am_J) (W : Nat) (hW : W ≤ 4) : ∀ k, m_TR p v J W k := by
  intro k
  induction k with
  | zero =>
    intro lv d r path N
    induction N with
    | zero => intro b t s I hd hN hb ht; intro _ hP; have := hP.1.1.2.2.2.2.2.2.2.2.2.2.1; omega
    | succ N ihN =>
      intro b t s I hd hN hb ht hgr hP h101 h102
      obtain ⟨hC, h99, h49, hR, hpath, hs⟩ := hP
      have hn := hC.1.1
      have htc := hC.1.2.2.2.2.2.2.2.2.2.2.1
      sorry
  | succ k ih => sorry

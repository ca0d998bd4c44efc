/-! what holds between two calls: class and reference stand alike -/
/-- a row of the class that play can go on from -/
def g_Gd (p : g_Plan) (I : am_I) (B : Int) (r : g_Row) : Prop := g_at r ∧ r 30 ≤ pck p ∧ (r 33 = 0 ∨ r 33 = 1) ∧ g_cap p r ∧ g_nn p r ∧ g_bd r B ∧ g_shp I 34 r
theorem g_Gd.up {p : g_Plan} {I : am_I} {B B' : Int} {r : g_Row} (h : g_Gd p I B r) (hB : B ≤ B') : g_Gd p I B' r := ⟨h.1, h.2.1, h.2.2.1, h.2.2.2.1, h.2.2.2.2.1, ⟨by have := h.2.2.2.2.2.1.1; omega, by have := h.2.2.2.2.2.1.2; omega⟩, h.2.2.2.2.2.2⟩
theorem g_Gd.keep {p : g_Plan} {I I' : am_I} {B : Int} {r : g_Row} (h : g_Gd p I B r) (e : ∀ c k, c ∈ ([13, 38] : List Nat) → I' c k = I c k) : g_Gd p I' B r := ⟨h.1, h.2.1, h.2.2.1, h.2.2.2.1, h.2.2.2.2.1, h.2.2.2.2.2.1, fun b hb => by rw [e 38 b (by decide)]; exact h.2.2.2.2.2.2.1 b hb, fun b hb => by rw [e 13 b (by decide)]; exact h.2.2.2.2.2.2.2.1 b hb, h.2.2.2.2.2.2.2.2⟩
/-- the plan, the play -/
def i_P (p : g_Plan) (v : Nat) (r : g_Row) (B : Int) (I : am_I) : Prop := g_C p I ∧ m_C p v I ∧ g_row I 34 = r ∧ g_NP I ∧ g_Gd p I B r ∧ g_R p r (I 97)
/-- what can be undone -/
def i_U (p : g_Plan) (u nx : Nat) (B : Int) (I : am_I) : Prop := I 63 2 = nI u ∧ I 68 50 = nI u ∧ u ≤ 50 ∧ I 63 1 = nI nx ∧ nx < 50 ∧ ∀ i, i < u → ∃ r, g_Gd p I B r ∧ g_sv I 64 (22 * ((nx + 50 - u + i) % 50)) r ∧ g_R p r (fun k => I 100 (40 * i + k))
/-- what is held -/
def i_S (p : g_Plan) (B : Int) (I : am_I) : Prop := ∀ s, s < 3 → I 67 s = I 110 s ∧ (I 67 s = 0 ∨ (I 67 s = 1 ∧ ∃ r, g_Gd p I B r ∧ g_sv I 66 (22 * s) r ∧ g_R p r (fun k => I 111 (40 * s + k))))
/-- what was told -/
def i_W (p : g_Plan) (w : Nat) (I : am_I) : Prop := I 53 5 = nI w ∧ I 68 62 = nI w ∧ w ≤ 4 ∧ ∃ (tb : Nat → Nat) (tm : Nat → Int32), ∀ j, j < w → I 54 j = nI (tb j) ∧ I 108 j = nI (tb j) ∧ tb j < pn p ∧ I 55 j = tm j ∧ I 109 j = tm j ∧ 0 ≤ (tm j).toInt ∧ (tm j).toInt ≤ 500
/-- the tape -/
def i_T (n : Nat) (I : am_I) : Prop := I 6 1 = nI n ∧ I 68 2 = nI n ∧ n ≤ 2000 ∧ ∀ j, j < n → I 7 j = I 69 j ∧ (I 69 j).toInt8.toInt32 = I 69 j
/-- what the class keeps of dear answers -/
def i_G (p : g_Plan) (r : g_Row) (I : am_I) : Prop := g_BC p r I ∧ g_SC p I
/-- what never changes: the old cells (script, static arrays, text), the reference's words -/
def i_K (I0 : am_I) (J0 : Nat → Int64) (I : am_I) (J : am_J) : Prop := (∀ c k, c ≤ 4 → I c k = I0 c k) ∧ ∀ k, k < 17 → J 75 k = J0 k
def i_A (I0 : am_I) (J0 : Nat → Int64) (p : g_Plan) (v : Nat) (r : g_Row) (u nx w n : Nat) (B : Int) (I : am_I) (J : am_J) : Prop := i_P p v r B I ∧ i_U p u nx B I ∧ i_S p B I ∧ i_W p w I ∧ i_T n I ∧ I 32 6 = I 68 17 ∧ i_G p r I ∧ i_K I0 J0 I J
def i_cs : List Nat := [0, 1, 2, 3, 4, 7, 12, 13, 14, 15, 16, 17, 18, 21, 34, 35, 36, 37, 38, 39, 54, 55, 64, 66, 67, 69, 77, 78, 79, 80, 81, 82, 83, 84, 85, 86, 87, 88, 89, 90, 91, 92, 93, 97, 100, 108, 109, 110, 111]
def i_ps : List (Nat × Nat) := [(6, 1), (32, 6), (53, 5), (63, 1), (63, 2), (68, 2), (68, 17), (68, 18), (68, 50), (68, 62)]
def i_sup (c k : Nat) : Prop := c ∈ i_cs ∨ (c, k) ∈ i_ps
def i_gp : List (Nat × Nat) := [(40, 6), (40, 7), (40, 8), (40, 12), (40, 13)]
def i_gd (c k : Nat) : Prop := c ∈ ([43, 45] : List Nat) ∨ (c, k) ∈ i_gp
theorem i_sup.to {Q : Nat → Nat → Prop} (h1 : ∀ c ∈ i_cs, ∀ k, Q c k) (h2 : ∀ q ∈ i_ps, Q q.1 q.2) {c k : Nat} (h : i_sup c k) : Q c k := by
  rcases h with h | h
  · exact h1 c h k
  · exact h2 (c, k) h
theorem i_gd.to {Q : Nat → Nat → Prop} (h1 : ∀ c ∈ ([43, 45] : List Nat), ∀ k, Q c k) (h2 : ∀ q ∈ i_gp, Q q.1 q.2) {c k : Nat} (h : i_gd c k) : Q c k := by
  rcases h with h | h
  · exact h1 c h k
  · exact h2 (c, k) h
section IK
variable {I I' : am_I}
theorem i_c (e : ∀ c k, i_sup c k → I' c k = I c k) (L : List Nat) (hL : ∀ c ∈ L, c ∈ i_cs) : ∀ c k, c ∈ L → I' c k = I c k := fun c k hc => e c k (Or.inl (hL c hc))
theorem i_P.keep {p : g_Plan} {v : Nat} {r : g_Row} {B : Int} (e : ∀ c k, i_sup c k → I' c k = I c k) (h : i_P p v r B I) : i_P p v r B I' := by
  obtain ⟨h1, h2, h3, h4, h5, h6⟩ := h
  have r34 : g_row I' 34 = g_row I 34 := g_rk_now (i_c e _ (by decide))
  refine ⟨h1.keep (i_c e _ (by decide)), h2.keep (e 68 18 (Or.inr (by decide))) (i_c e _ (by decide)), r34.trans h3, ⟨by rw [r34]; exact h4.1, by rw [e 34 10 (Or.inl (by decide))]; exact h4.2.1, by rw [e 34 6 (Or.inl (by decide))]; exact h4.2.2.1, fun b hb => by rw [e 39 b (Or.inl (by decide))]; exact h4.2.2.2 b hb⟩, h5.keep (i_c e _ (by decide)), ?_⟩
  intro k q1 q2
  rw [e 97 k (Or.inl (by decide))]
  exact h6 k q1 q2
theorem i_U.keep {p : g_Plan} {u nx : Nat} {B : Int} (e : ∀ c k, i_sup c k → I' c k = I c k) (h : i_U p u nx B I) : i_U p u nx B I' := by
  obtain ⟨h1, h2, h3, h4, h5, h6⟩ := h
  refine ⟨(e 63 2 (Or.inr (by decide))).trans h1, (e 68 50 (Or.inr (by decide))).trans h2, h3, (e 63 1 (Or.inr (by decide))).trans h4, h5, fun i hi => ?_⟩
  obtain ⟨r, q1, q2, q3⟩ := h6 i hi
  refine ⟨r, q1.keep (i_c e _ (by decide)), q2.keep (fun j _ _ => e 64 j (Or.inl (by decide))), fun k z1 z2 => ?_⟩
  show r k = I' 100 (40 * i + k)
  rw [e 100 _ (Or.inl (by decide))]
  exact q3 k z1 z2
theorem i_S.keep {p : g_Plan} {B : Int} (e : ∀ c k, i_sup c k → I' c k = I c k) (h : i_S p B I) : i_S p B I' := by
  intro s hs
  obtain ⟨h1, h2⟩ := h s hs
  rw [e 67 s (Or.inl (by decide)), e 110 s (Or.inl (by decide))]
  refine ⟨h1, h2.imp id (fun ⟨q0, r, q1, q2, q3⟩ => ⟨q0, r, q1.keep (i_c e _ (by decide)), q2.keep (fun j _ _ => e 66 j (Or.inl (by decide))), fun k z1 z2 => ?_⟩)⟩
  show r k = I' 111 (40 * s + k)
  rw [e 111 _ (Or.inl (by decide))]
  exact q3 k z1 z2
theorem i_W.keep {p : g_Plan} {w : Nat} (e : ∀ c k, i_sup c k → I' c k = I c k) (h : i_W p w I) : i_W p w I' := by
  obtain ⟨h1, h2, h3, tb, tm, h4⟩ := h
  refine ⟨(e 53 5 (Or.inr (by decide))).trans h1, (e 68 62 (Or.inr (by decide))).trans h2, h3, tb, tm, fun j hj => ?_⟩
  rw [e 54 j (Or.inl (by decide)), e 108 j (Or.inl (by decide)), e 55 j (Or.inl (by decide)), e 109 j (Or.inl (by decide))]
  exact h4 j hj
theorem i_T.keep {n : Nat} (e : ∀ c k, i_sup c k → I' c k = I c k) (h : i_T n I) : i_T n I' := by
  obtain ⟨h1, h2, h3, h4⟩ := h
  refine ⟨(e 6 1 (Or.inr (by decide))).trans h1, (e 68 2 (Or.inr (by decide))).trans h2, h3, fun j hj => ?_⟩
  rw [e 7 j (Or.inl (by decide)), e 69 j (Or.inl (by decide))]
  exact h4 j hj
theorem i_K.keep {I0 : am_I} {J0 : Nat → Int64} {J : am_J} (e : ∀ c k, i_sup c k → I' c k = I c k) (h : i_K I0 J0 I J) : i_K I0 J0 I' J := by
  refine ⟨fun c k hc => ?_, h.2⟩
  have : c ∈ i_cs := (show ∀ c, c ≤ 4 → c ∈ i_cs by decide) c hc
  rw [e c k (Or.inl this)]
  exact h.1 c k hc
theorem i_G.keep {p : g_Plan} {r : g_Row} (e : ∀ c k, i_gd c k → I' c k = I c k) (h : i_G p r I) : i_G p r I' := by
  have g : ∀ k, k = 6 ∨ k = 7 ∨ k = 8 ∨ k = 12 ∨ k = 13 → I' 40 k = I 40 k := fun k hk => e 40 k (Or.inr (by rcases hk with rfl | rfl | rfl | rfl | rfl <;> decide))
  refine ⟨?_, ?_⟩
  · rcases h.1 with q | ⟨W, q1, q2, q3, q4⟩
    · exact Or.inl ((g 8 (by omega)).trans q)
    · exact Or.inr ⟨W, q1, q2, (g 8 (by omega)).trans q3, (g 7 (by omega)).trans q4.1, (g 6 (by omega)).trans q4.2.1, q4.2.2.1, fun k hk => (e 43 k (Or.inl (by decide))).trans (q4.2.2.2 k hk)⟩
  · rcases h.2 with q | ⟨rule, i, q1, q2, q3, q4, q5, q6⟩
    · exact Or.inl ((g 13 (by omega)).trans q)
    · exact Or.inr ⟨rule, i, q1, q2, q3, (g 13 (by omega)).trans q4, (g 12 (by omega)).trans q5, fun k hk => (e 45 k (Or.inl (by decide))).trans (q6 k hk)⟩
end IK
theorem i_A.keep {I0 : am_I} {J0 : Nat → Int64} {p : g_Plan} {v : Nat} {r : g_Row} {u nx w n : Nat} {B : Int} {I I' : am_I} {J : am_J} (h : i_A I0 J0 p v r u nx w n B I J) (e : ∀ c k, i_sup c k → I' c k = I c k) (hG : i_G p r I') : i_A I0 J0 p v r u nx w n B I' J :=
  ⟨h.1.keep e, h.2.1.keep e, h.2.2.1.keep e, h.2.2.2.1.keep e, h.2.2.2.2.1.keep e, by rw [e 32 6 (Or.inr (by decide)), e 68 17 (Or.inr (by decide))]; exact h.2.2.2.2.2.1, hG, h.2.2.2.2.2.2.2.keep e⟩
theorem i_A.up {I0 : am_I} {J0 : Nat → Int64} {p : g_Plan} {v : Nat} {r : g_Row} {u nx w n : Nat} {B B' : Int} {I : am_I} {J : am_J} (h : i_A I0 J0 p v r u nx w n B I J) (hB : B ≤ B') : i_A I0 J0 p v r u nx w n B' I J := by
  obtain ⟨⟨a1, a2, a3, a4, a5, a6⟩, ⟨b1, b2, b3, b4, b5, b6⟩, c, rest⟩ := h
  refine ⟨⟨a1, a2, a3, a4, a5.up hB, a6⟩, ⟨b1, b2, b3, b4, b5, fun i hi => ?_⟩, fun s hs => ?_, rest⟩
  · obtain ⟨r', q1, q2, q3⟩ := b6 i hi
    exact ⟨r', q1.up hB, q2, q3⟩
  · obtain ⟨q0, q⟩ := c s hs
    exact ⟨q0, q.imp id (fun ⟨z0, r', q1, q2, q3⟩ => ⟨z0, r', q1.up hB, q2, q3⟩)⟩
def i_I (I0 : am_I) (J0 : Nat → Int64) (B : Int) (I : am_I) (J : am_J) : Prop := ∃ p v r u nx w n, i_A I0 J0 p v r u nx w n B I J
/-- a call of both: the same answer, and they stand alike again -/
def i_pair (fo fm : am_I → am_J → am_Out) : Prop := ∀ (I0 : am_I) (J0 : Nat → Int64) (B : Int) (I : am_I) (J : am_J), 0 ≤ B → B ≤ 900000 → i_I I0 J0 B I J → ∃ y I1 I2 J2, fo I J = some (some (.int y), I1, J) ∧ fm I1 J = some (some (.int y), I2, J2) ∧ (∀ k, I1 0 k = I 0 k) ∧ i_I I0 J0 (B + 999) I2 J2
/-- both ask alone -/
theorem i_ask {fo fm : am_I → am_J → am_Out} (h : ∀ (p : g_Plan) (v : Nat) (r : g_Row) (u w n nx : Nat) (B : Int) (I0 : am_I) (J0 : Nat → Int64) (I : am_I) (J : am_J), 0 ≤ B → B ≤ 900000 → i_A I0 J0 p v r u nx w n B I J → ∃ y I1 I2, fo I J = some (some (.int y), I1, J) ∧ fm I1 J = some (some (.int y), I2, J) ∧ (∀ c k, i_sup c k → I1 c k = I c k) ∧ i_G p r I1 ∧ (∀ c k, i_sup c k ∨ i_gd c k → I2 c k = I1 c k)) : i_pair fo fm := by
  intro I0 J0 B I J hB hB2 ⟨p, v, r, u, nx, w, n, hA⟩
  obtain ⟨y, I1, I2, a1, a2, k1, g1, k2⟩ := h p v r u w n nx B I0 J0 I J hB hB2 hA
  refine ⟨y, I1, I2, J, a1, a2, fun k => k1 0 k (Or.inl (by decide)), p, v, r, u, nx, w, n, ?_⟩
  exact ((hA.keep k1 g1).keep (fun c k hc => k2 c k (Or.inl hc)) (i_G.keep (fun c k hc => k2 c k (Or.inr hc)) g1)).up (by omega)
theorem i_sup_G {c k : Nat} (h : i_sup c k) : g_G c k := h.to (Q := g_G) (fun c hc k => ⟨(show ∀ c ∈ i_cs, c ∉ ([19, 20, 47, 48, 49, 50, 51, 52] : List Nat) by decide) c hc, Or.inl ((show ∀ c ∈ i_cs, c ≠ 40 by decide) c hc)⟩) (fun q hq => ⟨(show ∀ q ∈ i_ps, q.1 ∉ ([19, 20, 47, 48, 49, 50, 51, 52] : List Nat) by decide) q hq, Or.inl ((show ∀ q ∈ i_ps, q.1 ≠ 40 by decide) q hq)⟩)
theorem i_gd_G {c k : Nat} (h : i_gd c k) : g_G c k := h.to (Q := g_G) (fun c hc k => ⟨(show ∀ c ∈ ([43, 45] : List Nat), c ∉ ([19, 20, 47, 48, 49, 50, 51, 52] : List Nat) by decide) c hc, Or.inl ((show ∀ c ∈ ([43, 45] : List Nat), c ≠ 40 by decide) c hc)⟩) (fun q hq => ⟨(show ∀ q ∈ i_gp, q.1 ∉ ([19, 20, 47, 48, 49, 50, 51, 52] : List Nat) by decide) q hq, Or.inr ((show ∀ q ∈ i_gp, q.2 < 15 by decide) q hq)⟩)
theorem i_sup_mG {c k : Nat} (h : i_sup c k) : m_G c k := h.to (Q := m_G) (fun c hc k => ⟨(show ∀ c ∈ i_cs, c ∉ ([95, 96, 98, 99] : List Nat) by decide) c hc, Or.inl ((show ∀ c ∈ i_cs, c ≠ 68 by decide) c hc)⟩) (fun q hq => ⟨(show ∀ q ∈ i_ps, q.1 ∉ ([95, 96, 98, 99] : List Nat) by decide) q hq, (show ∀ q ∈ i_ps, q.1 ≠ 68 ∨ (q.2 ≠ 45 ∧ q.2 ≠ 49) by decide) q hq⟩)
theorem i_gd_mG {c k : Nat} (h : i_gd c k) : m_G c k := h.to (Q := m_G) (fun c hc k => ⟨(show ∀ c ∈ ([43, 45] : List Nat), c ∉ ([95, 96, 98, 99] : List Nat) by decide) c hc, Or.inl ((show ∀ c ∈ ([43, 45] : List Nat), c ≠ 68 by decide) c hc)⟩) (fun q hq => ⟨(show ∀ q ∈ i_gp, q.1 ∉ ([95, 96, 98, 99] : List Nat) by decide) q hq, Or.inl ((show ∀ q ∈ i_gp, q.1 ≠ 68 by decide) q hq)⟩)
theorem i_all_mG {c k : Nat} (h : i_sup c k ∨ i_gd c k) : m_G c k := h.elim i_sup_mG i_gd_mG
theorem i_all_mG2 {c k : Nat} (h : i_sup c k ∨ i_gd c k) : m_G2 c k := by
  refine ⟨i_all_mG h, ?_⟩
  rcases h with h | h
  · exact h.to (Q := fun c _ => c ≠ 106 ∧ c ≠ 107) (fun c hc _ => (show ∀ c ∈ i_cs, c ≠ 106 ∧ c ≠ 107 by decide) c hc) (fun q hq => (show ∀ q ∈ i_ps, q.1 ≠ 106 ∧ q.1 ≠ 107 by decide) q hq)
  · exact h.to (Q := fun c _ => c ≠ 106 ∧ c ≠ 107) (fun c hc _ => (show ∀ c ∈ ([43, 45] : List Nat), c ≠ 106 ∧ c ≠ 107 by decide) c hc) (fun q hq => (show ∀ q ∈ i_gp, q.1 ≠ 106 ∧ q.1 ≠ 107 by decide) q hq)
theorem i_all_mB {c k : Nat} (h : i_sup c k ∨ i_gd c k) : m_B c k := by
  refine ⟨i_all_mG h, ?_⟩
  rcases h with h | h
  · exact h.to (Q := fun c k => c ∉ ([101, 102, 103, 104, 105] : List Nat) ∧ (c ≠ 68 ∨ (k ≠ 57 ∧ k ≠ 58 ∧ k ≠ 59))) (fun c hc _ => ⟨(show ∀ c ∈ i_cs, c ∉ ([101, 102, 103, 104, 105] : List Nat) by decide) c hc, Or.inl ((show ∀ c ∈ i_cs, c ≠ 68 by decide) c hc)⟩) (fun q hq => ⟨(show ∀ q ∈ i_ps, q.1 ∉ ([101, 102, 103, 104, 105] : List Nat) by decide) q hq, (show ∀ q ∈ i_ps, q.1 ≠ 68 ∨ (q.2 ≠ 57 ∧ q.2 ≠ 58 ∧ q.2 ≠ 59) by decide) q hq⟩)
  · exact h.to (Q := fun c k => c ∉ ([101, 102, 103, 104, 105] : List Nat) ∧ (c ≠ 68 ∨ (k ≠ 57 ∧ k ≠ 58 ∧ k ≠ 59))) (fun c hc _ => ⟨(show ∀ c ∈ ([43, 45] : List Nat), c ∉ ([101, 102, 103, 104, 105] : List Nat) by decide) c hc, Or.inl ((show ∀ c ∈ ([43, 45] : List Nat), c ≠ 68 by decide) c hc)⟩) (fun q hq => ⟨(show ∀ q ∈ i_gp, q.1 ∉ ([101, 102, 103, 104, 105] : List Nat) by decide) q hq, Or.inl ((show ∀ q ∈ i_gp, q.1 ≠ 68 by decide) q hq)⟩)
theorem i_P.N {p : g_Plan} {v : Nat} {r : g_Row} {B : Int} {I : am_I} (h : i_P p v r B I) : m_N p r I := ⟨h.2.2.2.2.2, h.2.2.2.2.1.1, h.2.2.2.2.1.2.1, h.2.2.2.2.1.2.2.1, h.2.2.2.2.1.2.2.2.1⟩

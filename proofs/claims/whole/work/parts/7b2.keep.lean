/-! what each part of the state rests on -/
def i_sp (L : List Nat) (M : List (Nat × Nat)) (c k : Nat) : Prop := c ∈ L ∨ (c, k) ∈ M
def i_sP (c k : Nat) : Prop := c ∈ ([1, 2, 3, 12, 13, 14, 15, 16, 17, 18, 21, 34, 35, 36, 37, 38, 39, 77, 78, 79, 80, 81, 82, 83, 84, 85, 86, 87, 88, 89, 90, 91, 92, 93, 97] : List Nat) ∨ (c, k) ∈ ([(68, 18)] : List (Nat × Nat))
def i_sU (c k : Nat) : Prop := c ∈ ([13, 38, 64, 100] : List Nat) ∨ (c, k) ∈ ([(63, 1), (63, 2), (68, 50)] : List (Nat × Nat))
def i_sS (c k : Nat) : Prop := c ∈ ([13, 38, 66, 67, 110, 111] : List Nat) ∨ (c, k) ∈ ([] : List (Nat × Nat))
def i_sW (c k : Nat) : Prop := c ∈ ([54, 55, 108, 109] : List Nat) ∨ (c, k) ∈ ([(53, 5), (68, 62)] : List (Nat × Nat))
def i_sT (c k : Nat) : Prop := c ∈ ([7, 69] : List Nat) ∨ (c, k) ∈ ([(6, 1), (68, 2)] : List (Nat × Nat))
section IK2
variable {I I' : am_I}
theorem i_cP (e : ∀ c k, i_sP c k → I' c k = I c k) (L : List Nat) (hL : ∀ c ∈ L, c ∈ ([1, 2, 3, 12, 13, 14, 15, 16, 17, 18, 21, 34, 35, 36, 37, 38, 39, 77, 78, 79, 80, 81, 82, 83, 84, 85, 86, 87, 88, 89, 90, 91, 92, 93, 97] : List Nat)) : ∀ c k, c ∈ L → I' c k = I c k := fun c k hc => e c k (Or.inl (hL c hc))
theorem i_P.k {p : g_Plan} {v : Nat} {r : g_Row} {B : Int} (e : ∀ c k, i_sP c k → I' c k = I c k) (h : i_P p v r B I) : i_P p v r B I' := by
  obtain ⟨h1, h2, h3, h4, h5, h6⟩ := h
  have r34 : g_row I' 34 = g_row I 34 := g_rk_now (i_cP e _ (by decide))
  refine ⟨h1.keep (i_cP e _ (by decide)), h2.keep (e 68 18 (Or.inr (by decide))) (i_cP e _ (by decide)), r34.trans h3, ⟨by rw [r34]; exact h4.1, by rw [e 34 10 (Or.inl (by decide))]; exact h4.2.1, by rw [e 34 6 (Or.inl (by decide))]; exact h4.2.2.1, fun b hb => by rw [e 39 b (Or.inl (by decide))]; exact h4.2.2.2 b hb⟩, h5.keep (i_cP e _ (by decide)), ?_⟩
  intro k q1 q2
  rw [e 97 k (Or.inl (by decide))]
  exact h6 k q1 q2
theorem i_cU (e : ∀ c k, i_sU c k → I' c k = I c k) (L : List Nat) (hL : ∀ c ∈ L, c ∈ ([13, 38, 64, 100] : List Nat)) : ∀ c k, c ∈ L → I' c k = I c k := fun c k hc => e c k (Or.inl (hL c hc))
theorem i_U.k {p : g_Plan} {u nx : Nat} {B : Int} (e : ∀ c k, i_sU c k → I' c k = I c k) (h : i_U p u nx B I) : i_U p u nx B I' := by
  obtain ⟨h1, h2, h3, h4, h5, h6⟩ := h
  refine ⟨(e 63 2 (Or.inr (by decide))).trans h1, (e 68 50 (Or.inr (by decide))).trans h2, h3, (e 63 1 (Or.inr (by decide))).trans h4, h5, fun i hi => ?_⟩
  obtain ⟨r, q1, q2, q3⟩ := h6 i hi
  refine ⟨r, q1.keep (i_cU e _ (by decide)), q2.keep (fun j _ _ => e 64 j (Or.inl (by decide))), fun k z1 z2 => ?_⟩
  show r k = I' 100 (40 * i + k)
  rw [e 100 _ (Or.inl (by decide))]
  exact q3 k z1 z2
theorem i_cS (e : ∀ c k, i_sS c k → I' c k = I c k) (L : List Nat) (hL : ∀ c ∈ L, c ∈ ([13, 38, 66, 67, 110, 111] : List Nat)) : ∀ c k, c ∈ L → I' c k = I c k := fun c k hc => e c k (Or.inl (hL c hc))
theorem i_S.k {p : g_Plan} {B : Int} (e : ∀ c k, i_sS c k → I' c k = I c k) (h : i_S p B I) : i_S p B I' := by
  intro s hs
  obtain ⟨h1, h2⟩ := h s hs
  rw [e 67 s (Or.inl (by decide)), e 110 s (Or.inl (by decide))]
  refine ⟨h1, h2.imp id (fun ⟨q0, r, q1, q2, q3⟩ => ⟨q0, r, q1.keep (i_cS e _ (by decide)), q2.keep (fun j _ _ => e 66 j (Or.inl (by decide))), fun k z1 z2 => ?_⟩)⟩
  show r k = I' 111 (40 * s + k)
  rw [e 111 _ (Or.inl (by decide))]
  exact q3 k z1 z2
theorem i_cW (e : ∀ c k, i_sW c k → I' c k = I c k) (L : List Nat) (hL : ∀ c ∈ L, c ∈ ([54, 55, 108, 109] : List Nat)) : ∀ c k, c ∈ L → I' c k = I c k := fun c k hc => e c k (Or.inl (hL c hc))
theorem i_W.k {p : g_Plan} {w : Nat} (e : ∀ c k, i_sW c k → I' c k = I c k) (h : i_W p w I) : i_W p w I' := by
  obtain ⟨h1, h2, h3, tb, tm, h4⟩ := h
  refine ⟨(e 53 5 (Or.inr (by decide))).trans h1, (e 68 62 (Or.inr (by decide))).trans h2, h3, tb, tm, fun j hj => ?_⟩
  rw [e 54 j (Or.inl (by decide)), e 108 j (Or.inl (by decide)), e 55 j (Or.inl (by decide)), e 109 j (Or.inl (by decide))]
  exact h4 j hj
theorem i_cT (e : ∀ c k, i_sT c k → I' c k = I c k) (L : List Nat) (hL : ∀ c ∈ L, c ∈ ([7, 69] : List Nat)) : ∀ c k, c ∈ L → I' c k = I c k := fun c k hc => e c k (Or.inl (hL c hc))
theorem i_T.k {n : Nat} (e : ∀ c k, i_sT c k → I' c k = I c k) (h : i_T n I) : i_T n I' := by
  obtain ⟨h1, h2, h3, h4⟩ := h
  refine ⟨(e 6 1 (Or.inr (by decide))).trans h1, (e 68 2 (Or.inr (by decide))).trans h2, h3, fun j hj => ?_⟩
  rw [e 7 j (Or.inl (by decide)), e 69 j (Or.inl (by decide))]
  exact h4 j hj
end IK2

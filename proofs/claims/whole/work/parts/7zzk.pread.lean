/-! read: what stays at a fault -/
theorem x_s1_P {b : Bool} {f : Int32} {tok : Nat} {s : x_Sl} (hf : 0 < f) (h : s.1 = 0 ∨ 0 < s.1) : (x_s1 b f tok s).1 = 0 ∨ 0 < (x_s1 b f tok s).1 := by
  unfold x_s1
  by_cases q : b = true ∧ s.1 = 0
  · rw [if_pos q]; exact Or.inr hf
  · rw [if_neg q]; exact h
theorem x_ths_P {K V : Nat → Int32} : ∀ (n : Nat) (a : List Int32) (s : x_Sl) (t : Nat), (s.1 = 0 ∨ 0 < s.1) → ((x_ths K V n a s t).2.2.1 = 0 ∨ 0 < (x_ths K V n a s t).2.2.1) := by
  intro n
  induction n with
  | zero =>
    intro a s t h
    unfold x_ths
    by_cases q : K t = 3
    · rw [if_pos q]; exact h
    · rw [if_neg q]; exact h
  | succ n ih =>
    intro a s t h
    unfold x_ths
    by_cases q : K t = 3
    · rw [if_pos q]
      by_cases q2 : 400 ≤ t
      · rw [if_pos q2]; exact h
      · rw [if_neg q2]; exact ih _ _ _ (x_s1_P (by decide) h)
    · rw [if_neg q]; exact h
theorem x_tell_P {K V : Nat → Int32} {Sm : Nat → Nat → Bool} {S : x_S} {t : Nat} (h : S.2.2.2.2.1 = 0 ∨ 0 < S.2.2.2.2.1) : (x_tell K V Sm S t).2.2.2.2.2.1 = 0 ∨ 0 < (x_tell K V Sm S t).2.2.2.2.2.1 := by
  have law : ∀ (kk : Nat) (w : Int32), (x_tlaw K V Sm kk w S t).2.2.2.2.2.1 = 0 ∨ 0 < (x_tlaw K V Sm kk w S t).2.2.2.2.2.1 := fun kk w => by
    show (x_law K V Sm S.1 w S.2.2.2.2 t).2.2.2.1 = 0 ∨ 0 < (x_law K V Sm S.1 w S.2.2.2.2 t).2.2.2.1
    unfold x_law
    cases x_lst K w t with
    | inl f => exact h
    | inr t' => exact x_s1_P (by decide) h
  unfold x_tell
  by_cases q0 : K t = 128
  · rw [if_pos q0]
    show (x_board K V Sm S.1 S.2.2.2.2 t).2.2.1 = 0 ∨ 0 < (x_board K V Sm S.1 S.2.2.2.2 t).2.2.1
    unfold x_board
    by_cases q : S.1.length = 6
    · rw [if_pos q]; exact h
    · rw [if_neg q]; exact x_s1_P (by decide) (x_s1_P (by decide) (x_s1_P (by decide) h))
  rw [if_neg q0]
  by_cases q1 : K t = 129
  · rw [if_pos q1]; exact law 0 129
  rw [if_neg q1]
  by_cases q2 : K t = 130
  · rw [if_pos q2]; exact law 1 130
  rw [if_neg q2]
  by_cases q3 : K t = 131
  · rw [if_pos q3]; exact law 2 131
  rw [if_neg q3]
  by_cases q4 : K t = 132
  · rw [if_pos q4]
    show (x_think K V S.2.2.2.2 t).2.2.1 = 0 ∨ 0 < (x_think K V S.2.2.2.2 t).2.2.1
    unfold x_think
    cases x_ps K 132 (.inr t) with
    | inl f => exact h
    | inr t' => exact x_ths_P 4 [] _ t' h
  rw [if_neg q4]
  by_cases q5 : K t = 133
  · rw [if_pos q5]; exact x_s1_P (by decide) h
  rw [if_neg q5]
  by_cases q6 : K t = 134
  · rw [if_pos q6]; exact x_s1_P (by decide) h
  rw [if_neg q6]
  by_cases q7 : K t = 135
  · rw [if_pos q7]; exact x_s1_P (by decide) h
  rw [if_neg q7]
  exact h
theorem x_text_P {K V : Nat → Int32} {Sm : Nat → Nat → Bool} : ∀ (n : Nat) (S : x_S) (t : Nat), (S.2.2.2.2.1 = 0 ∨ 0 < S.2.2.2.2.1) → ((x_text K V Sm n S t).2.2.2.2.2.1 = 0 ∨ 0 < (x_text K V Sm n S t).2.2.2.2.2.1) := by
  intro n
  induction n with
  | zero => intro S t h; exact h
  | succ n ih =>
    intro S t h
    unfold x_text
    by_cases q : K t = 0
    · rw [if_pos q]; exact h
    · rw [if_neg q]
      cases hx : (x_tell K V Sm S t).1 with
      | inl f => exact x_tell_P h
      | inr t' => exact ih _ t' (x_tell_P h)
def q_L : List Nat := [8, 9, 10, 11, 22, 23, 24, 25, 26, 27, 28, 31, 32, 33, 70, 71, 72, 73, 94]
def q_ff (sd c k : Nat) : Prop := c ∉ q_L ∧ (c ≠ 6 ∨ k ≠ 1) ∧ (c ≠ 68 ∨ k ∉ 17 :: 2 :: 4 :: 10 :: 19 :: 20 :: r_sl) ∧ r_rf sd c k
theorem q_rf {sd c k : Nat} (h : c < 68 ∨ 94 < c) : r_rf sd c k := ⟨Or.inl (by omega), by omega, Or.inl (by omega), Or.inl (by omega), Or.inl (by omega), Or.inl (by omega), Or.inl (by omega), Or.inl (by omega)⟩
theorem q_ff.L {sd c k : Nat} {L : List Nat} (hL : ∀ c ∈ L, c ∉ q_L ∧ c ≠ 6 ∧ c ≠ 68 ∧ (c < 68 ∨ 94 < c)) (hc : c ∈ L) : q_ff sd c k := by
  obtain ⟨h1, h2, h3, h4⟩ := hL c hc
  exact ⟨h1, Or.inl h2, Or.inl h3, q_rf h4⟩
theorem q_ff.p {sd k : Nat} (hk : k ∉ 17 :: 2 :: 4 :: 10 :: 19 :: 20 :: r_sl) : q_ff sd 68 k := by
  refine ⟨by decide, Or.inl (by decide), Or.inr hk, Or.inr (fun q => hk ?_), by decide, Or.inl (by decide), Or.inl (by decide), Or.inl (by decide), Or.inl (by decide), Or.inl (by decide), Or.inl (by decide)⟩
  rcases List.mem_cons.mp q with q | q
  · rw [q]; decide
  · exact List.mem_cons_of_mem _ (List.mem_cons_of_mem _ (List.mem_cons_of_mem _ (List.mem_cons_of_mem _ (List.mem_cons_of_mem _ (List.mem_cons_of_mem _ q)))))
theorem q_side {v c k : Nat} (hv : v < 2) (h : (c = 77 ∧ k = v) ∨ (c = 80 ∧ k = v) ∨ (c = 82 ∧ k = v) ∨ (c = 83 ∧ k = v) ∨ (c = 84 ∧ k = v) ∨ ((c = 78 ∨ c = 79) ∧ 6 * v ≤ k ∧ k < 6 * v + 6) ∨ (c = 81 ∧ 4 * v ≤ k ∧ k < 4 * v + 4) ∨ m_ls v c k) : q_ff (1 - v) c k := by
  have hc : c ≠ 68 ∧ c ≠ 6 ∧ c ≠ 94 ∧ 74 < c ∧ c < 94 := by
    rcases h with h | h | h | h | h | h | h | h
    · omega
    · omega
    · omega
    · omega
    · omega
    · omega
    · omega
    · have := h.c
      simp only [List.mem_cons, List.not_mem_nil, or_false] at this
      omega
  refine ⟨?_, Or.inl hc.2.1, Or.inl hc.1, Or.inl hc.1, hc.2.2.1, ?_⟩
  · exact fun q => by
      have := (show ∀ c ∈ q_L, c < 74 ∨ c = 94 by decide) c q
      omega
  · unfold m_ls at h
    refine ⟨by omega, by omega, by omega, by omega, by omega, by omega⟩
theorem m_C.ff {p : g_Plan} {v : Nat} {I I' : am_I} (h : m_C p v I) (e : ∀ c k, q_ff (1 - v) c k → I' c k = I c k) : m_C p v I' := by
  obtain ⟨h0, h1, h2, h3, h4, h5, h6, h7, h8, h9, h10, h11⟩ := h
  have hn := h0.1
  have ht := h0.2.2.2.2.2.2.2.2.2.2.1
  exact ⟨h0, h1, (e 68 18 (q_ff.p (by decide))).trans h2, (e 77 v (q_side h1 (by omega))).trans h3, (e 82 v (q_side h1 (by omega))).trans h4, (e 83 v (q_side h1 (by omega))).trans h5, (e 84 v (q_side h1 (by omega))).trans h6, fun b hb => (e 78 _ (q_side h1 (by omega))).trans (h7 b hb), fun b hb => (e 79 _ (q_side h1 (by omega))).trans (h8 b hb), (e 80 v (q_side h1 (by omega))).trans h9, fun i hi => (e 81 _ (q_side h1 (by omega))).trans (h10 i hi), fun I2 h2' => h11 I2 (fun c k hc => (h2' c k hc).trans (e c k (q_side h1 (Or.inr (Or.inr (Or.inr (Or.inr (Or.inr (Or.inr (Or.inr hc))))))))))⟩
theorem q_faulted {I0 : am_I} {J0 : Nat → Int64} {p : g_Plan} {v : Nat} {r : g_Row} {u nx w n : Nat} {B : Int} {I I' : am_I} {J J' : am_J} (hA : i_A I0 J0 p v r u nx w n B I J) (e : ∀ c k, q_ff (1 - v) c k → I' c k = I c k) (eJ : ∀ k, J' 75 k = J 75 k) (e61 : I' 6 1 = 0) (e2 : I' 68 2 = 0) (ep : I' 32 6 = I' 68 17) : i_A I0 J0 p v r u nx w 0 B I' J' := by
  obtain ⟨⟨hC, mC, hrow, hN, hGd, hR⟩, hU, hS, hW, hT, hF, hG, hK⟩ := hA
  have eL : ∀ (L : List Nat), (∀ c ∈ L, c ∉ q_L ∧ c ≠ 6 ∧ c ≠ 68 ∧ (c < 68 ∨ 94 < c)) → ∀ c k, c ∈ L → I' c k = I c k := fun L hL c k hc => e c k (q_ff.L hL hc)
  have r34 : g_row I' 34 = g_row I 34 := g_rk_now (eL _ (by decide))
  refine ⟨⟨hC.keep (eL _ (by decide)), mC.ff e, r34.trans hrow, ⟨by rw [r34]; exact hN.1, by rw [eL [34] (by decide) 34 10 (by decide)]; exact hN.2.1, by rw [eL [34] (by decide) 34 6 (by decide)]; exact hN.2.2.1, fun b hb => by rw [eL [39] (by decide) 39 b (by decide)]; exact hN.2.2.2 b hb⟩, hGd.keep (eL _ (by decide)), fun k q1 q2 => by rw [eL [97] (by decide) 97 k (by decide)]; exact hR k q1 q2⟩, hU.k (fun c k h => ?_), hS.k (fun c k h => ?_), hW.k (fun c k h => ?_), ⟨e61, e2, Nat.zero_le _, fun j hj => absurd hj (by omega)⟩, ep, hG.keep (fun c k h => ?_), fun c k hc => (e c k ?_).trans (hK.1 c k hc), fun k hk => (eJ k).trans (hK.2 k hk)⟩
  · rcases h with h | h
    · exact eL _ (by decide) c k h
    · rcases (show (c = 63 ∧ k = 1) ∨ (c = 63 ∧ k = 2) ∨ (c = 68 ∧ k = 50) by simpa using h) with ⟨rfl, rfl⟩ | ⟨rfl, rfl⟩ | ⟨rfl, rfl⟩
      · exact eL [63] (by decide) 63 1 (by decide)
      · exact eL [63] (by decide) 63 2 (by decide)
      · exact e 68 50 (q_ff.p (by decide))
  · rcases h with h | h
    · exact eL _ (by decide) c k h
    · exact absurd h (by simp)
  · rcases h with h | h
    · exact eL _ (by decide) c k h
    · rcases (show (c = 53 ∧ k = 5) ∨ (c = 68 ∧ k = 62) by simpa using h) with ⟨rfl, rfl⟩ | ⟨rfl, rfl⟩
      · exact eL [53] (by decide) 53 5 (by decide)
      · exact e 68 62 (q_ff.p (by decide))
  · rcases h with h | h
    · exact eL _ (by decide) c k h
    · have : c = 40 := (show ∀ q ∈ i_gp, q.1 = 40 by decide) _ h
      rw [this]
      exact eL [40] (by decide) 40 k (by decide)
  · refine q_ff.L (L := [0, 1, 2, 3, 4]) (by decide) ?_
    simp only [List.mem_cons, List.not_mem_nil, or_false]
    omega
/-- the reference's plan out of what was told -/
theorem r_MC {S : x_S} {sd z nb : Nat} {I : am_I} {J : am_J} (hsd : sd < 2) (hV : x_VS S) (h0 : S.2.2.2.2.1 = 0) (hz : z ≤ 420 * sd + 400) (hnb : nb ≤ 130 * sd + 80) (hC : r_C sd S z nb I J) (h18 : I 68 18 = nI sd) : m_C (x_pl S) sd I := by
  obtain ⟨⟨C1, C2, C3, C4⟩, ⟨C5, C6, C7⟩, ⟨C8, C9⟩, C10⟩ := hC
  refine ⟨x_pl_OK hV h0, hsd, h18, C2, C5, C6, C7, fun b hb => ?_, fun b hb => ?_, C8, fun i hi => ?_, r_CL hsd hV hz hnb C10⟩
  · have hb' : b < S.1.length := hb
    show I 78 (6 * sd + b) = (S.1[b]?.map (fun q : x_Bd => q.2.1)).getD 0
    rw [List.getElem?_eq_getElem hb']
    exact (C4 b _ (List.getElem?_eq_getElem hb')).2.1
  · have hb' : b < S.1.length := hb
    show I 79 (6 * sd + b) = (S.1[b]?.map (fun q : x_Bd => q.2.2)).getD 0
    rw [List.getElem?_eq_getElem hb']
    exact (C4 b _ (List.getElem?_eq_getElem hb')).2.2
  · have hi' : i < S.2.2.1.length := hi
    show I 81 (4 * sd + i) = (S.2.2.1[i]?).getD 0
    rw [List.getElem?_eq_getElem hi']
    exact C9 i _ (List.getElem?_eq_getElem hi')

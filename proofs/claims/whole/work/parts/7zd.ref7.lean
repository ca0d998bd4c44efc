/-! the reference's E, whole -/
def x_pt (Q : Nat → Prop) (r : x_Re) : Prop := match r with
  | .inl _ => True
  | .inr (_, t') => Q t'
theorem x_tail_pt {K : Nat → Int32} {w1 w2 o1 o2 : Int32} {U : Nat → x_Re} {Q : Nat → Prop} (hU : ∀ t, x_pt Q (U t)) : ∀ n c t, Q t → x_pt Q (x_tail K w1 w2 o1 o2 U n c t) := by
  intro n
  induction n with
  | zero => intro c t h; exact h
  | succ n ih =>
    intro c t h
    unfold x_tail
    by_cases q : K t = w1 ∨ K t = w2
    · rw [if_pos q]
      by_cases h5 : 400 ≤ t
      · rw [if_pos h5]; exact trivial
      rw [if_neg h5]
      have v := hU (t + 1)
      cases hr : U (t + 1) with
      | inl f => exact trivial
      | inr p =>
        obtain ⟨c', t'⟩ := p
        rw [hr] at v
        exact ih _ t' v
    · rw [if_neg q]; exact h
theorem x_lv_pt {K : Nat → Int32} {w1 w2 o1 o2 : Int32} {U : Nat → x_Re} {Q : Nat → Prop} (hU : ∀ t, x_pt Q (U t)) (t : Nat) : x_pt Q (x_lv K w1 w2 o1 o2 U t) := by
  unfold x_lv
  have v := hU t
  cases hr : U t with
  | inl f => exact trivial
  | inr p =>
    obtain ⟨c, t'⟩ := p
    rw [hr] at v
    exact x_tail_pt hU 400 c t' v
theorem x_ed_pt {K : Nat → Int32} {w1 w2 : Int32} {r : x_Re} (h : x_ed K w1 w2 r) : x_pt (fun t => ¬ (K t = w1 ∨ K t = w2)) r := by
  cases r with
  | inl f => exact trivial
  | inr p => exact h.2
theorem x_eo_of {K : Nat → Int32} {r : x_Re} (h : x_ed K 43 45 r) (h2 : x_pt (fun t => ¬ (K t = 42 ∨ K t = 47)) r) : x_eo K r := by
  cases r with
  | inl f => exact trivial
  | inr p =>
    obtain ⟨c, t'⟩ := p
    exact ⟨h.1, fun q => h.2 (Or.inl q), fun q => h.2 (Or.inr q), fun q => h2 (Or.inl q), fun q => h2 (Or.inr q)⟩
theorem x_E_eo {K V : Nat → Int32} : ∀ k t, x_eo K (x_E K V k t) := by
  intro k t
  refine x_eo_of (x_E_ed k t).1 ?_
  cases k with
  | zero => exact x_lv_pt (fun t => x_ed_pt (x_lv_ed (x_unit_sl (S := fun t => .inl (2, t)) (fun _ => trivial)) (x_unit_to (S := fun t => .inl (2, t)) (fun _ => Or.inr rfl)) t).1) t
  | succ k => exact x_lv_pt (fun t => x_ed_pt (x_lv_ed (x_unit_sl (x_E_sl k)) (x_unit_to (fun t => (x_E_ed k t).2)) t).1) t
/-- what may wait behind a product -/
def y_pp (P : List Int32) : Prop := P = [] ∨ P = [10] ∨ P = [15]
theorem s_m_sum (d : Nat) (J : am_J) (u : Fin 841) {K V : Nat → Int32} {b : Bool} {S : Nat → x_Re} {n : Nat} {W : List Int32} (hW : W = [] ∨ ∃ W', W = 6 :: W') (hWl : W.length ≤ 18)
    (hb : ∀ W2 : List Int32, W2.length ≤ W.length + 2 → (b = true ∧ n = 6) ∨ (b = false ∧ n < 6 ∧ ∀ (I : am_I) (t z : Nat), y_tk K V I → x_rc K t → I 68 13 = 0 → I 68 12 = nI (n + 1) → y_st t (6 :: W2) z I → z + 420 ≤ u.val + t → y_R u d J 0 (6 :: W2) z I y_pr (S t))) (heo : ∀ t, x_eo K (S t)) (hsl : ∀ t, x_sl t (S t)) (hpc : ∀ t, x_rc K t → x_pr K (S t))
    {I : am_I} {t z : Nat} (hk : y_tk K V I) (hrc : x_rc K t) (h0 : I 68 13 = 0) (h12 : I 68 12 = nI n) (h : y_st t W z I) (hz : z + 420 ≤ u.val + t) : y_R u d J 0 W z I y_pr (x_lv K 43 45 2 3 (x_lv K 42 47 4 5 (x_unit K V b S)) t) := by
  have unit := fun (W2 : List Int32) (hl : W2.length ≤ W.length + 2) (I : am_I) (t z : Nat) (hk : y_tk K V I) (hrc : x_rc K t) (h0 : I 68 13 = 0) (h12 : I 68 12 = nI n) (h : y_st t W2 z I) (hz : z + 420 ≤ u.val + t) => s_m_uni d J u (by omega) (hb W2 hl) heo hsl hpc hk hrc h0 h12 h hz
  have ppp : ∀ P, y_pp P → P.length ≤ 2 ∧ ∀ b ∈ P, b ≠ 6 ∧ ((1 : Int32) ≠ 0 → b ≠ 8 ∧ b ≠ 9) := fun P hP => by
    rcases hP with rfl | rfl | rfl
    · exact ⟨by decide, by simp⟩
    · refine ⟨by decide, fun b hb => ?_⟩
      rw [List.mem_singleton.mp hb]
      exact ⟨by decide, fun _ => ⟨by decide, by decide⟩⟩
    · refine ⟨by decide, fun b hb => ?_⟩
      rw [List.mem_singleton.mp hb]
      exact ⟨by decide, fun _ => ⟨by decide, by decide⟩⟩
  have prod := fun (W2 : List Int32) (hl : W2.length ≤ W.length + 1) (hs : W2 = [] ∨ ∃ b W', W2 = b :: W' ∧ (b = 6 ∨ ((1 : Int32) ≠ 0 ∧ (b = 8 ∨ b = 9)))) (I : am_I) (t z : Nat) (hk : y_tk K V I) (hrc : x_rc K t) (h0 : I 68 13 = 0) (h12 : I 68 12 = nI n) (h : y_st t W2 z I) (hz : z + 420 ≤ u.val + t) => s_m_lv (W := W2) (preU := fun P => P = []) (pre := y_pp) d J u (Or.inr ⟨rfl, rfl, rfl, rfl, rfl, rfl, rfl⟩) hs (by omega) (fun a _ I t z hk hrc h0 h12 h hz => unit (a :: W2) (by show W2.length + 1 ≤ _; omega) I t z hk hrc h0 h12 h hz) (x_unit_sl hsl) (x_unit_rc hpc) ppp (fun P a hP ha => by
    rw [hP]
    rcases ha with rfl | rfl
    · exact Or.inr (Or.inl rfl)
    · exact Or.inr (Or.inr rfl)) (fun P hP => Or.inl hP) (fun I t z hk hrc h0 h12 h hz => unit W2 (by omega) I t z hk hrc h0 h12 h hz) hk hrc h0 h12 h hz
  refine s_m_lv (preU := y_pp) (pre := y_pr) d J u (lv := 0) (a1 := 8) (a2 := 9) (Or.inl ⟨rfl, rfl, rfl, rfl, rfl, rfl, rfl⟩) (hW.imp id (fun ⟨W', q⟩ => ⟨6, W', q, Or.inl rfl⟩)) (by omega) (fun a ha I t z hk hrc h0 h12 h hz => prod (a :: W) (Nat.le_refl _) (Or.inr ⟨a, W, rfl, Or.inr ⟨by decide, ha⟩⟩) I t z hk hrc h0 h12 h hz) (x_lv_sl (x_unit_sl hsl)) (x_lv_rc (by decide) (by decide) (x_unit_rc hpc)) (fun P hP => ⟨hP.1, fun b hb => ⟨hP.2 b hb, fun q => absurd rfl q⟩⟩) (fun P a hP ha => ?_) (fun P hP => ⟨(ppp P hP).1, fun b hb => ((ppp P hP).2 b hb).1⟩) (fun I t z hk hrc h0 h12 h hz => prod W (by omega) (hW.imp id (fun ⟨W', q⟩ => ⟨6, W', q, Or.inl rfl⟩)) I t z hk hrc h0 h12 h hz) hk hrc h0 h12 h hz
  refine ⟨?_, fun b hb => ?_⟩
  · rw [List.length_append]
    rcases hP with rfl | rfl | rfl <;> (show _ + 1 ≤ 2; decide)
  · rcases List.mem_append.mp hb with q | q
    · exact ((ppp P hP).2 b q).1
    · rw [List.mem_singleton.mp q]
      rcases ha with rfl | rfl <;> decide
theorem s_m_E (d : Nat) (J : am_J) (u : Fin 841) {K V : Nat → Int32} : ∀ k, k ≤ 6 → ∀ (W : List Int32), (W = [] ∨ ∃ W', W = 6 :: W') → W.length + 3 * k ≤ 18 → ∀ (I : am_I) (t z : Nat), y_tk K V I → x_rc K t → I 68 13 = 0 → I 68 12 = nI (6 - k) → y_st t W z I → z + 420 ≤ u.val + t → y_R u d J 0 W z I y_pr (x_E K V k t) := by
  intro k
  induction k with
  | zero =>
    intro _ W hW hl I t z hk hrc h0 h12 h hz
    exact s_m_sum d J u (b := true) (S := fun t => .inl (2, t)) (n := 6) hW (by omega) (fun _ _ => Or.inl ⟨rfl, rfl⟩) (fun _ => trivial) (fun _ => trivial) (fun _ _ => trivial) hk hrc h0 h12 h hz
  | succ k ih =>
    intro hk6 W hW hl I t z hk hrc h0 h12 h hz
    refine s_m_sum d J u (b := false) (S := x_E K V k) (n := 6 - (k + 1)) hW (by omega) (fun W2 hl2 => Or.inr ⟨rfl, by omega, fun I t z hk hrc h0 h12 h hz => ?_⟩) (x_E_eo k) (x_E_sl k) (x_E_rc k) hk hrc h0 h12 h hz
    exact ih (by omega) (6 :: W2) (Or.inr ⟨W2, rfl⟩) (by show W2.length + 1 + 3 * k ≤ 18; omega) I t z hk hrc h0 (by rw [h12]; congr 1; omega) h hz

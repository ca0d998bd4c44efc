/-! the reference's statements: boards, thinks, numbers -/
def r_sm (K : Nat → Int32) (Sm : Nat → Nat → Bool) (J : am_J) : Prop := ∀ i j, i ≤ 400 → j ≤ 400 → x_rc K i → x_rc K j → K i = 2 → K j = 2 → (J 74 i = J 74 j ↔ Sm i j = true)
def r_bd (sd : Nat) (bs : List x_Bd) (I : am_I) (J : am_J) : Prop := bs.length ≤ 6 ∧ I 77 sd = nI bs.length ∧ I 68 20 = nI bs.length ∧ ∀ b q, bs[b]? = some q → J 76 b = J 74 q.1 ∧ I 78 (6 * sd + b) = q.2.1 ∧ I 79 (6 * sd + b) = q.2.2
theorem r_bd.k {sd : Nat} {bs : List x_Bd} {I I' : am_I} {J : am_J} (h : r_bd sd bs I J) (e : ∀ c k, (c = 77 ∨ c = 78 ∨ c = 79 ∨ (c = 68 ∧ k = 20)) → I' c k = I c k) : r_bd sd bs I' J := ⟨h.1, (e 77 sd (by omega)).trans h.2.1, (e 68 20 (by omega)).trans h.2.2.1, fun b q hq => by
  rw [e 78 _ (by omega), e 79 _ (by omega)]
  exact h.2.2.2 b q hq⟩
theorem r_fr.bd {sd : Nat} {bs : List x_Bd} {I I' : am_I} {J : am_J} (f : r_fr I I') (h : r_bd sd bs I J) : r_bd sd bs I' J := h.k (fun c k hc => f c k (by
  rcases hc with rfl | rfl | rfl | ⟨rfl, rfl⟩
  · exact Or.inl (by decide)
  · exact Or.inl (by decide)
  · exact Or.inl (by decide)
  · exact Or.inr (by decide)))
theorem x_s1_2 {b : Bool} {f : Int32} {tok : Nat} {s : x_Sl} (hf : f ≠ 0) : x_s1 b f tok (x_s1 true f tok s) = x_s1 true f tok s := by
  have h : (x_s1 true f tok s).1 ≠ 0 := by
    unfold x_s1
    by_cases v : s.1 = 0
    · rw [if_pos ⟨rfl, v⟩]; exact hf
    · rw [if_neg (fun x => v x.2)]; exact v
  generalize x_s1 true f tok s = u at h ⊢
  unfold x_s1
  exact if_neg (fun x => h x.2)
section ZW
variable (d : Nat) (J : am_J) {K V Pl : Nat → Int32} {Sm : Nat → Nat → Bool} {sd : Nat} {bs : List x_Bd}
/-- the names told already -/
theorem r_dup (hP : ∀ i j, i < j → j ≤ 400 → x_rc K j → Pl i < Pl j) (hS : r_sm K Sm J) {z nb tok : Nat} (hn : ∀ q ∈ bs, q.1 < tok ∧ K q.1 = 2) (hK : K tok = 2) (x1 : Int32) : ∀ (l pre : List x_Bd) (s : x_Sl) (I : am_I), pre ++ l = bs → r_at K V Pl sd (.inr (tok + 1)) s z nb I → r_bd sd bs I J → (s.1 = 0 ∨ s.2 < tok ∨ s = (3, tok)) → ∃ I', (∀ r, f_m_tellBoard_77 d x1 (nI tok) I' J = some r → f_m_tellBoard_34 d x1 (nI tok) (nI pre.length) I J = some r) ∧ r_at K V Pl sd (.inr (tok + 1)) (x_s1 (x_fd Sm tok l pre.length).isSome 3 tok s) z nb I' ∧ r_fr I I' := by
  intro l
  induction l with
  | nil =>
    intro pre s I hp h hb hs
    rw [List.append_nil] at hp
    refine ⟨I, fun r hr => b_m_tellBoard_34 d _ _ _ I J _ ?_, ?_, r_fr.refl I⟩
    · rw [hb.2.2.1, hp, if_pos (Int32.le_refl _)]
      exact hr
    · unfold x_s1 x_fd
      rw [if_neg (fun q => absurd q.1 (by simp))]
      exact h
  | cons q l ih =>
    intro pre s I hp h hb hs
    have hl : pre.length + (l.length + 1) = bs.length := by rw [← hp, List.length_append, List.length_cons]
    have h6 := hb.1
    have hq : bs[pre.length]? = some q := by rw [← hp]; simp
    have hm : q ∈ bs := by rw [← hp]; simp
    obtain ⟨hn1, hn2⟩ := hn q hm
    obtain ⟨h1, h2, h3, h4, q1, q2, q3, q4, q5, q6⟩ := h
    have h := (⟨h1, h2, h3, h4, q1, q2, q3, q4, q5, q6⟩ : r_at K V Pl sd (.inr (tok + 1)) s z nb I)
    have iff := hS q.1 tok (by omega) (by omega) (q5.le (by omega)) (q5.le (by omega)) hn2 hK
    have e := b_m_tellBoard_34 d x1 (nI tok) (nI pre.length) I J
    rw [hb.2.2.1, if_neg (nI_ge (by omega) (by omega)), if_pos q3, am_at_n (by omega) (by omega), am_at_n (by omega) (by omega), (hb.2.2.2 _ _ hq).1, nI_1] at e
    have len : pre.length + 1 = (pre ++ [q]).length := by simp
    by_cases w : Sm q.1 tok = true
    · rw [if_pos ((lg_cmp_eq _ _).mpr (iff.mpr w))] at e
      obtain ⟨I1, a1, a2, a3⟩ := r_wrong d J hP h (f := 3) (by decide) (Nat.lt_succ_self tok) hs
      rw [a1, am_bv_v, len] at e
      have hs2 : (x_s1 true 3 tok s).1 = 0 ∨ (x_s1 true 3 tok s).2 < tok ∨ x_s1 true 3 tok s = (3, tok) := by
        unfold x_s1
        by_cases v : s.1 = 0
        · rw [if_pos ⟨rfl, v⟩]; exact Or.inr (Or.inr rfl)
        · rw [if_neg (fun x => v x.2)]; exact hs
      obtain ⟨I2, b1, b2, b3⟩ := ih (pre ++ [q]) _ I1 (by rw [List.append_assoc]; exact hp) a2 (a3.bd hb) hs2
      refine ⟨I2, fun r hr => e _ (b1 r hr), ?_, a3.trans b3⟩
      have fin : x_s1 (x_fd Sm tok l (pre ++ [q]).length).isSome 3 tok (x_s1 true 3 tok s) = x_s1 (x_fd Sm tok (q :: l) pre.length).isSome 3 tok s := by
        have e2 : (x_fd Sm tok (q :: l) pre.length).isSome = true := by unfold x_fd; rw [if_pos w]; rfl
        rw [e2]
        exact x_s1_2 (by decide)
      rw [← fin]
      exact b2
    · rw [if_neg (fun x => w (iff.mp ((lg_cmp_eq _ _).mp x))), len] at e
      obtain ⟨I2, b1, b2, b3⟩ := ih (pre ++ [q]) s I (by rw [List.append_assoc]; exact hp) h hb hs
      refine ⟨I2, fun r hr => e _ (b1 r hr), ?_, b3⟩
      have e2 : x_fd Sm tok (q :: l) pre.length = x_fd Sm tok l (pre ++ [q]).length := by
        rw [← len]
        show (if Sm q.1 tok = true then some pre.length else x_fd Sm tok l (pre.length + 1)) = _
        rw [if_neg w]
      rw [e2]
      exact b2
/-- the numbers of a board and its end -/
theorem r_board77 (hP : ∀ i j, i < j → j ≤ 400 → x_rc K j → Pl i < Pl j) {st : x_St} {s : x_Sl} {z nb tok : Nat} {I : am_I} (hsd : sd < 2) (hb6 : bs.length < 6) (htok : ∀ t, st = .inr t → tok ≤ 400) (h : r_at K V Pl sd st s z nb I) (hb : r_bd sd bs I J) : ∃ I' J', f_m_tellBoard_77 d (nI (6 * sd + bs.length)) (nI tok) I J = some (none, I', J') ∧ r_at K V Pl sd (x_ps K 59 (x_ps K 3 (x_ps K 3 st))) (x_s1 (x_badb (V (x_tn (x_ps K 3 st))) 0 999) 5 (x_tn (x_ps K 3 st)) (x_s1 (x_badb (V (x_tn st)) 0 9) 5 (x_tn st) s)) z nb I' ∧ (∀ t', x_ps K 59 (x_ps K 3 (x_ps K 3 st)) = .inr t' → r_bd sd (bs ++ [(tok, V (x_tn st), V (x_tn (x_ps K 3 st)))]) I' J') ∧ (∀ c k, c ≠ 76 → J' c k = J c k) ∧ ∀ c k, (c ≠ 68 ∨ k ∉ 20 :: r_sl) → (c ≠ 77 ∨ k ≠ sd) → (c ≠ 78 ∨ k ≠ 6 * sd + bs.length) → (c ≠ 79 ∨ k ≠ 6 * sd + bs.length) → I' c k = I c k := by
  have b := b_m_tellBoard_77 d (nI (6 * sd + bs.length)) (nI tok) I J
  obtain ⟨y1, I1, a1, a2, a3, a4⟩ := r_bnd d J hP h 0 9
  obtain ⟨I2, i2⟩ : ∃ I2, I2 = am_upd I1 78 (6 * sd + bs.length) y1 := ⟨_, rfl⟩
  have k2 : ∀ c k, (c ≠ 78 ∨ k ≠ 6 * sd + bs.length) → I2 c k = I1 c k := fun c k hk => by rw [i2]; exact hk.elim am_uc am_uk
  have c2 := a2.k (I' := I2) (fun c k hc _ => k2 c k (Or.inl (by omega)))
  obtain ⟨y3, I3, d1, d2, d3, d4⟩ := r_bnd d J hP c2 0 999
  obtain ⟨I4, i4⟩ : ∃ I4, I4 = am_upd I3 79 (6 * sd + bs.length) y3 := ⟨_, rfl⟩
  have k4 : ∀ c k, (c ≠ 79 ∨ k ≠ 6 * sd + bs.length) → I4 c k = I3 c k := fun c k hk => by rw [i4]; exact hk.elim am_uc am_uk
  have c4 := d2.k (I' := I4) (fun c k hc _ => k4 c k (Or.inl (by omega)))
  obtain ⟨I5, e1, e2, e3⟩ := r_must d J c4 (w := 59) (w' := 4) (by decide) (by decide) (by decide)
  rw [a1, am_bi_i, am_at_n (by omega) (by omega), ← i2, d1, am_bi_i, am_at_n (by omega) (by omega), ← i4, e1, am_bv_v] at b
  have fr : ∀ c k, (c ≠ 68 ∨ k ∉ r_sl) → (c ≠ 78 ∨ k ≠ 6 * sd + bs.length) → (c ≠ 79 ∨ k ≠ 6 * sd + bs.length) → I5 c k = I c k := fun c k g1 g2 g3 => by
    rw [e3 c k g1, k4 c k g3, d4 c k g1, k2 c k g2, a4 c k g1]
  have h77 : I5 77 sd = nI bs.length := (fr 77 sd (Or.inl (by decide)) (Or.inl (by decide)) (Or.inl (by decide))).trans hb.2.1
  have h20 : I5 68 20 = nI bs.length := (fr 68 20 (Or.inr (by decide)) (Or.inl (by decide)) (Or.inl (by decide))).trans hb.2.2.1
  have h19 : I5 68 19 = nI sd := e2.2.2.1
  cases hx : x_ps K 59 (x_ps K 3 (x_ps K 3 st)) with
  | inl f =>
    rw [hx] at e2
    rw [if_neg (Int32.not_le.mpr e2.dead)] at b
    exact ⟨I5, J, b _ rfl, e2, fun t' w => absurd w (by simp), fun _ _ _ => rfl, fun c k g1 g2 g3 g4 => fr c k (g1.imp id (fun q w => q (List.mem_cons_of_mem _ w))) g3 g4⟩
  | inr t' =>
    rw [hx] at e2
    obtain ⟨t2, u2, v2, w2, z2⟩ := x_ps_y hx
    obtain ⟨t1, u1, v1, w1, z1⟩ := x_ps_y u2
    obtain ⟨t0, u0, v0, w0, z0⟩ := x_ps_y u1
    have ht := htok t0 u0
    obtain ⟨I6, i6⟩ : ∃ I6, I6 = am_upd I5 68 20 (nI (bs.length + 1)) := ⟨_, rfl⟩
    have k6 : ∀ c k, (c ≠ 68 ∨ k ≠ 20) → I6 c k = I5 c k := fun c k hk => by rw [i6]; exact hk.elim am_uc am_uk
    rw [if_pos (show I5 68 13 ≤ 0 by rw [e2.2.2.2.2.2.2.1]; decide), am_at_n (by omega) (by omega), h20, am_at_n hb6 (by omega), nI_1, ← i6, k6 68 19 (Or.inr (by decide)), h19, am_at_n hsd (by omega), am_at_n hsd (by omega), k6 77 sd (Or.inl (by decide)), h77, nI_1] at b
    have k7 : ∀ c k, (c ≠ 68 ∨ k ≠ 20) → (c ≠ 77 ∨ k ≠ sd) → am_upd I6 77 sd (nI (bs.length + 1)) c k = I5 c k := fun c k g1 g2 => (g2.elim am_uc am_uk).trans (k6 c k g1)
    refine ⟨_, _, b _ rfl, e2.k (fun c k hc hk => k7 c k (hk.imp id (fun q w => by rw [w] at q; exact absurd q (by decide))) (Or.inl (by omega))), fun _ _ => ⟨by rw [List.length_append]; simp; omega, by rw [am_ue, List.length_append]; rfl, by rw [am_uc (by decide), i6, am_ue, List.length_append]; rfl, fun c q hq => ?_⟩, fun c k hc => am_ucJ hc, fun c k g1 g2 g3 g4 => (k7 c k (g1.imp id (fun q w => q (by rw [w]; decide))) g2).trans (fr c k (g1.imp id (fun q w => q (List.mem_cons_of_mem _ w))) g3 g4)⟩
    rw [k7 78 _ (Or.inl (by decide)) (Or.inl (by decide)), k7 79 _ (Or.inl (by decide)) (Or.inl (by decide)), am_ucJ (show 74 ≠ 76 by decide)]
    by_cases hc : c < bs.length
    · rw [List.getElem?_append_left hc] at hq
      obtain ⟨o1, o2, o3⟩ := hb.2.2.2 c q hq
      rw [am_ukJ (by omega), fr 78 _ (Or.inl (by decide)) (Or.inr (by omega)) (Or.inl (by decide)), fr 79 _ (Or.inl (by decide)) (Or.inl (by decide)) (Or.inr (by omega))]
      exact ⟨o1, o2, o3⟩
    · rw [List.getElem?_append_right (by omega)] at hq
      have hc2 : c = bs.length := by
        have hl := (List.getElem?_eq_some_iff.mp hq).1
        simp at hl
        omega
      subst hc2
      rw [Nat.sub_self] at hq
      have eq : (tok, V (x_tn st), V (x_tn (x_ps K 3 st))) = q := Option.some.inj hq
      rw [← eq, am_ueJ]
      refine ⟨rfl, ?_, ?_⟩
      · rw [e3 78 _ (Or.inl (by decide)), k4 78 _ (Or.inl (by decide)), d4 78 _ (Or.inl (by decide)), i2, am_ue]
        exact a3 t1 u1
      · rw [e3 79 _ (Or.inl (by decide)), i4, am_ue]
        exact d3 t2 u2
/-- `board ..` behind its first check -/
theorem r_board (hP : ∀ i j, i < j → j ≤ 400 → x_rc K j → Pl i < Pl j) (hS : r_sm K Sm J) {s : x_Sl} {z nb t : Nat} {I : am_I} (hsd : sd < 2) (hb6 : bs.length < 6) (h : r_at K V Pl sd (.inr t) s z nb I) (hK : K t = 128) (hb : r_bd sd bs I J) (hn : ∀ q ∈ bs, q.1 < t ∧ K q.1 = 2) : ∃ I' J', f_m_tellBoard_0 d I J = some (none, I', J') ∧ r_at K V Pl sd (x_board K V Sm bs s t).1 (x_board K V Sm bs s t).2.2 z nb I' ∧ (∀ t', (x_board K V Sm bs s t).1 = .inr t' → r_bd sd (x_board K V Sm bs s t).2.1 I' J') ∧ (∀ c k, c ≠ 76 → J' c k = J c k) ∧ ∀ c k, (c ≠ 68 ∨ k ∉ 20 :: r_sl) → (c ≠ 77 ∨ k ≠ sd) → (c ≠ 78 ∨ k ≠ 6 * sd + bs.length) → (c ≠ 79 ∨ k ≠ 6 * sd + bs.length) → I' c k = I c k := by
  have b := b_m_tellBoard_0 d I J
  have ht := h.2.2.2.2.2.1
  obtain ⟨I1, a1, a2, a3⟩ := r_goes d J h (w := 128) (by decide) hK
  obtain ⟨I2, b1, b2, b3⟩ := r_must d J a2 (w := 2) (w' := 1) (by decide) (by decide) (by decide)
  have h19 : I1 68 19 = nI sd := a2.2.2.1
  have h77 : I1 77 sd = nI bs.length := (a3.n (by decide) sd).trans hb.2.1
  rw [a1, am_bv_v, h19, am_at_n hsd (by omega), b1, am_bv_v, h77, show (6 : Int32) = nI 6 from rfl, pk_mul, nI_add] at b
  have fr12 : r_fr I I2 := a3.trans b3
  have hb2 := fr12.bd hb
  unfold x_board
  rw [if_neg (by omega)]
  cases hx : x_ps K 2 (x_ps K 128 (.inr t)) with
  | inl f =>
    rw [hx] at b2
    -- the token is wherever the reference stands; nothing is noted
    obtain ⟨tok, tk1, tk2⟩ : ∃ tok, tok ≤ 400 ∧ I1 68 11 = nI tok := by
      cases hy : x_ps K 128 (.inr t) with
      | inl g =>
        rw [hy] at a2
        obtain ⟨g1, g2⟩ := g
        obtain ⟨tk, w1, w2⟩ := a2.2.2.2.2.2.2.2
        exact ⟨tk, w1, w2⟩
      | inr t' =>
        rw [hy] at a2
        exact ⟨t', a2.2.2.2.2.2.1, a2.2.2.2.2.1⟩
    obtain ⟨I3, J3, c1, c2, c3, c4, c5⟩ := r_board77 d J hP hsd hb6 (tok := tok) (fun t w => absurd w (by simp)) b2 hb2
    have d0 : ¬ I2 68 13 = 0 := fun q => by have := b2.dead; rw [q] at this; exact absurd this (by decide)
    have e34 : f_m_tellBoard_34 d (nI (6 * sd + bs.length)) (nI tok) 0 I2 J = some (none, I3, J3) := by
      refine b_m_tellBoard_34 d _ _ _ I2 J _ ?_
      by_cases w : I2 68 20 ≤ 0
      · rw [if_pos w]; exact c1
      · rw [if_neg w, if_neg d0]; exact c1
    rw [tk2] at b
    have ex : x_bst K t = .inl f := by unfold x_bst; rw [hx]; rfl
    rw [ex]
    have ey : x_ps K 59 (x_ps K 3 (x_ps K 3 (.inl f))) = .inl f := rfl
    rw [ey] at c2
    exact ⟨I3, J3, b _ e34, c2.sl (fun t w => absurd w (by simp)), fun t' w => absurd w (by simp), c4, fun c k g1 g2 g3 g4 => (c5 c k g1 g2 g3 g4).trans (fr12 c k (g1.imp id (fun q w => q (List.mem_cons_of_mem _ w))))⟩
  | inr t2 =>
    obtain ⟨t1, u1, v1, w1, z1⟩ := x_ps_y hx
    obtain ⟨t0, u0, v0, w0, z0⟩ := x_ps_y u1
    have e0 : t = t0 := Sum.inr.inj u0
    subst e0
    subst z0
    rw [hx, z1] at b2
    rw [u1] at a2
    have h11 : I1 68 11 = nI (t + 1) := a2.2.2.2.2.1
    rw [h11] at b
    have hsl : s.1 = 0 ∨ s.2 < t + 1 ∨ s = (3, t + 1) := by
      by_cases w : s.1 = 0
      · exact Or.inl w
      · have := (h.2.2.2.2.2.2.2.2.2.2.1 w).2
        exact Or.inr (Or.inl (by omega))
    obtain ⟨I3, c1, c2, c3⟩ := r_dup d J hP hS (tok := t + 1) (fun q hq => ⟨by have := (hn q hq).1; omega, (hn q hq).2⟩) v1 (nI (6 * sd + bs.length)) bs [] s I2 rfl b2 hb2 hsl
    obtain ⟨I4, J4, d1, d2, d3, d4, d5⟩ := r_board77 d J hP hsd hb6 (tok := t + 1) (fun _ _ => by omega) c2 (c3.bd hb2)
    have ex : x_ps K 59 (x_ps K 3 (x_ps K 3 (.inr (t + 1 + 1)))) = x_bst K t := by unfold x_bst; rw [hx, z1]
    rw [ex] at d2 d3
    refine ⟨I4, J4, b _ (c1 _ d1), d2.sl (fun t' w => ⟨?_, rfl⟩), fun t' w => ?_, d4, fun c k g1 g2 g3 g4 => (d5 c k g1 g2 g3 g4).trans ((c3 c k (g1.imp id (fun q w => q (List.mem_cons_of_mem _ w)))).trans (fr12 c k (g1.imp id (fun q w => q (List.mem_cons_of_mem _ w)))))⟩
    · obtain ⟨k0, k1, k2', k3, k4, k5, k6, o0, o1, o2, o3⟩ := x_bst_y w
      have e3 : x_ps K 3 (.inr (t + 1 + 1)) = .inr (t + 3) := by rw [show t + 1 + 1 = t + 2 from rfl]; exact o2
      rw [e3]
      rfl
    · obtain ⟨k0, k1, k2', k3, k4, k5, k6, o0, o1, o2, o3⟩ := x_bst_y w
      have := d3 t' w
      have e3 : x_ps K 3 (.inr (t + 1 + 1)) = .inr (t + 3) := by rw [show t + 1 + 1 = t + 2 from rfl]; exact o2
      rw [e3] at this
      exact this
/-- thinks -/
def r_th (sd : Nat) (l : List Int32) (I : am_I) : Prop := I 80 sd = nI l.length ∧ ∀ j v, l[j]? = some v → I 81 (4 * sd + j) = v
/-- a side's thinks -/
def r_tf (sd c k : Nat) : Prop := (c ≠ 68 ∨ k ∉ r_sl) ∧ (c ≠ 80 ∨ k ≠ sd) ∧ (c ≠ 81 ∨ k < 4 * sd ∨ 4 * sd + 4 ≤ k)
theorem r_th_end {st : x_St} {s : x_Sl} {z nb m : Nat} {I : am_I} (hsd : sd < 2) (h : r_at K V Pl sd st s z nb I) (hm : m ≤ 4) (hc : (∃ f, st = .inl f) ∨ (∃ t, st = .inr t ∧ K t ≠ 3)) {a : List Int32} (ha : a.length = m) (hI : ∀ t, st = .inr t → ∀ j v, a[j]? = some v → I 81 (4 * sd + j) = v) : ∃ I', f_m_tellThinks_2 d (nI m) I J = some (none, I', J) ∧ r_at K V Pl sd (x_ps K 59 st) s z nb I' ∧ (∀ t', x_ps K 59 st = .inr t' → r_th sd (x_th1 a) I') ∧ ∀ c k, r_tf sd c k → I' c k = I c k := by
  obtain ⟨I1, a1, a2, a3⟩ := r_must d J h (w := 59) (w' := 4) (by decide) (by decide) (by decide)
  have h19 : I1 68 19 = nI sd := a2.2.2.1
  have run : ∀ r, (if nI m = 0 then am_at (4 * I1 68 19) 8 (fun j4 => am_at (am_upd I1 81 j4 1 68 19) 2 (fun j5 => some (none, am_upd (am_upd I1 81 j4 1) 80 j5 1, J)) none) none else am_at (I1 68 19) 2 (fun j3 => some (none, am_upd I1 80 j3 (nI m), J)) none : am_Out) = some r → f_m_tellThinks_2 d (nI m) I J = some r := fun r hr => by
    refine b_m_tellThinks_2 d (nI m) I J _ ?_
    rcases hc with ⟨f, rfl⟩ | ⟨t, rfl, hK⟩
    · rw [if_neg (fun q => by have := h.dead; rw [q] at this; exact absurd this (by decide)), a1, am_bv_v]
      exact hr
    · rw [if_pos h.2.2.2.2.2.2.1, r_is d J h (w := 3) (w' := 2) (by decide) (by decide), am_tf_f hK, am_bi_i, if_pos rfl, a1, am_bv_v]
      exact hr
  rw [h19] at run
  by_cases hm0 : m = 0
  · subst hm0
    rw [if_pos (show nI 0 = 0 from rfl), show (4 : Int32) = nI 4 from rfl, pk_mul, am_at_n (by omega) (by omega), am_uc (show 68 ≠ 81 by decide), h19, am_at_n hsd (by omega)] at run
    have k1 : ∀ c k, (c ≠ 80 ∨ k ≠ sd) → (c ≠ 81 ∨ k ≠ 4 * sd) → am_upd (am_upd I1 81 (4 * sd) 1) 80 sd 1 c k = I1 c k := fun c k g1 g2 => (g1.elim am_uc am_uk).trans (g2.elim am_uc am_uk)
    refine ⟨_, run _ rfl, a2.k (fun c k hc _ => k1 c k (Or.inl (by omega)) (Or.inl (by omega))), fun t' _ => ?_, fun c k hk => (k1 c k hk.2.1 (by have := hk.2.2; omega)).trans (a3 c k hk.1)⟩
    have e : x_th1 a = [1] := by unfold x_th1; rw [if_pos (by omega)]
    rw [e]
    refine ⟨by rw [am_ue]; rfl, fun j v hj => ?_⟩
    cases j with
    | zero => rw [am_uc (by decide), Nat.add_zero, am_ue]; exact Option.some.inj hj
    | succ j => exact absurd hj (by simp)
  · rw [if_neg (nI_ne0 (by omega) (by omega)), am_at_n hsd (by omega)] at run
    have k1 : ∀ c k, (c ≠ 80 ∨ k ≠ sd) → am_upd I1 80 sd (nI m) c k = I1 c k := fun c k g1 => g1.elim am_uc am_uk
    refine ⟨_, run _ rfl, a2.k (fun c k hc _ => k1 c k (Or.inl (by omega))), fun t' ht => ?_, fun c k hk => (k1 c k hk.2.1).trans (a3 c k hk.1)⟩
    have e : x_th1 a = a := by unfold x_th1; rw [if_neg (by omega)]
    rw [e]
    obtain ⟨t, e2, _⟩ := x_ps_y ht
    exact ⟨by rw [am_ue, ha], fun j v hj => by rw [am_uc (by decide), a3.n (by decide)]; exact hI t e2 j v hj⟩
theorem r_thsL (hP : ∀ i j, i < j → j ≤ 400 → x_rc K j → Pl i < Pl j) (hsd : sd < 2) {z nb : Nat} : ∀ (n m : Nat) (a : List Int32) (s : x_Sl) (t : Nat) (I : am_I), n + m = 4 → a.length = m → r_at K V Pl sd (.inr t) s z nb I → (∀ j v, a[j]? = some v → I 81 (4 * sd + j) = v) → ∃ I', f_m_tellThinks_2 d (nI m) I J = some (none, I', J) ∧ r_at K V Pl sd (x_ths K V n a s t).1 (x_ths K V n a s t).2.2 z nb I' ∧ (∀ t', (x_ths K V n a s t).1 = .inr t' → r_th sd (x_th1 (x_ths K V n a s t).2.1) I') ∧ ∀ c k, r_tf sd c k → I' c k = I c k := by
  intro n
  induction n with
  | zero =>
    intro m a s t I hm ha h hI
    unfold x_ths
    by_cases q : K t = 3
    · rw [if_pos q]
      obtain ⟨I', a1, a2, a3⟩ := r_fail d J h (f := 2) (Or.inr rfl)
      have b := b_m_tellThinks_2 d (nI m) I J
      rw [if_pos h.2.2.2.2.2.2.1, r_is d J h (w := 3) (w' := 2) (by decide) (by decide), am_tf_t q, am_bi_i, if_neg (by decide), if_pos (show nI m = 4 by rw [show m = 4 by omega]; rfl), a1, am_bv_v, if_neg (Int32.not_le.mpr a2.dead)] at b
      exact ⟨I', b _ rfl, a2, fun t' w => absurd w (by simp), fun c k hk => a3 c k hk.1⟩
    · rw [if_neg q]
      exact r_th_end d J hsd h (by omega) (Or.inr ⟨t, rfl, q⟩) ha (fun _ _ => hI)
  | succ n ih =>
    intro m a s t I hm ha h hI
    unfold x_ths
    by_cases q : K t = 3
    · rw [if_pos q]
      obtain ⟨y, I1, a1, a2, a3, a4⟩ := r_bnd d J hP h 0 60
      obtain ⟨I2, i2⟩ : ∃ I2, I2 = am_upd I1 81 (4 * sd + m) y := ⟨_, rfl⟩
      have k2 : ∀ c k, (c ≠ 81 ∨ k ≠ 4 * sd + m) → I2 c k = I1 c k := fun c k hk => by rw [i2]; exact hk.elim am_uc am_uk
      have c2 := a2.k (I' := I2) (fun c k hc _ => k2 c k (Or.inl (by omega)))
      have h13 : I 68 13 = 0 := h.2.2.2.2.2.2.1
      have b := b_m_tellThinks_2 d (nI m) I J
      rw [if_pos h13, r_is d J h (w := 3) (w' := 2) (by decide) (by decide), am_tf_t q, am_bi_i, if_neg (by decide), if_neg (show ¬ nI m = 4 from fun x => by
        have := (nI_eq (b := 4) (by omega) (by omega)).mp x
        omega), if_pos (show I 68 13 ≤ 0 by rw [h13]; decide), a1, am_bi_i, h.2.2.1, show (4 : Int32) = nI 4 from rfl, pk_mul, nI_add, am_at_n (by omega) (by omega), nI_1, ← i2] at b
      have fr : ∀ c k, r_tf sd c k → I2 c k = I c k := fun c k hk => (k2 c k (by have := hk.2.2; omega)).trans (a4 c k hk.1)
      by_cases q4 : 400 ≤ t
      · rw [if_pos q4]
        have e : x_ps K 3 (.inr t) = .inl (2, t) := by rw [x_ps_r, if_pos q, if_pos q4]
        rw [e] at c2
        obtain ⟨I3, e1, e2, _, e4⟩ := r_th_end d J hsd c2 (m := m + 1) (by omega) (Or.inl ⟨_, rfl⟩) (a := a ++ [y]) (by simp [ha]) (fun t w => absurd w (by simp))
        exact ⟨I3, b _ e1, e2, fun t' w => absurd w (by simp), fun c k hk => (e4 c k hk).trans (fr c k hk)⟩
      · rw [if_neg q4]
        have e : x_ps K 3 (.inr t) = .inr (t + 1) := x_ps_i q (by omega)
        have ey : y = V t := a3 _ e
        rw [e] at c2
        obtain ⟨I3, e1, e2, e3, e4⟩ := ih (m + 1) (a ++ [V t]) (x_s1 (x_badb (V t) 0 60) 5 t s) (t + 1) I2 (by omega) (by simp [ha]) c2 (fun j v hj => by
          by_cases hj2 : j < m
          · rw [List.getElem?_append_left (by omega)] at hj
            rw [k2 81 _ (Or.inr (by omega)), a4.n (by decide)]
            exact hI j v hj
          · rw [List.getElem?_append_right (by omega)] at hj
            have hl := (List.getElem?_eq_some_iff.mp hj).1
            have ej : j = m := by simp at hl; omega
            subst ej
            rw [ha, Nat.sub_self] at hj
            rw [i2, am_ue, ey]
            exact Option.some.inj hj)
        exact ⟨I3, b _ e1, e2, e3, fun c k hk => (e4 c k hk).trans (fr c k hk)⟩
    · rw [if_neg q]
      exact r_th_end d J hsd h (by omega) (Or.inr ⟨t, rfl, q⟩) ha (fun _ _ => hI)
end ZW

/-! the reference reads, by status -/
/-- a fault lies at a thing of the text -/
def x_pf (K : Nat → Int32) (r : x_Re) : Prop := match r with
  | .inl (_, a) => x_rc K a ∧ a ≤ 400
  | .inr (_, t') => x_rc K t' ∧ t' ≤ 400
theorem x_go_pf {K : Nat → Int32} {w : Int32} {t : Nat} {c : x_Cd} (hw : w ≠ 0) (h : x_rc K t) (ht : t ≤ 400) : x_pf K (x_go K w t c) := by
  unfold x_go
  by_cases q : K t = w
  · rw [if_pos q]
    by_cases q2 : 400 ≤ t
    · rw [if_pos q2]; exact ⟨h, ht⟩
    · rw [if_neg q2]; exact ⟨h.s q hw, by omega⟩
  · rw [if_neg q]; exact ⟨h, ht⟩
theorem x_unit_pf {K V : Nat → Int32} {b : Bool} {S : Nat → x_Re} (hS : ∀ t, x_rc K t → t ≤ 400 → x_pf K (S t)) (t : Nat) (h : x_rc K t) (ht : t ≤ 400) : x_pf K (x_unit K V b S t) := by
  unfold x_unit
  by_cases h1 : K t = 3
  · rw [if_pos h1]; exact x_go_pf (by decide) h ht
  rw [if_neg h1]
  by_cases h2 : 139 ≤ K t ∧ K t ≤ 144
  · rw [if_pos h2]; exact x_go_pf (fun q => by rw [q] at h2; exact absurd h2.1 (by decide)) h ht
  rw [if_neg h2]
  by_cases h3 : K t = 40
  · rw [if_pos h3]
    by_cases h4 : b = true
    · rw [if_pos h4]; exact ⟨h, ht⟩
    rw [if_neg h4]
    by_cases h5 : 400 ≤ t
    · rw [if_pos h5]; exact ⟨h, ht⟩
    rw [if_neg h5]
    have q := hS (t + 1) (h.s h3 (by decide)) (by omega)
    cases hr : S (t + 1) with
    | inl f => rw [hr] at q; exact q
    | inr p =>
      obtain ⟨c, t'⟩ := p
      rw [hr] at q
      exact x_go_pf (by decide) q.1 q.2
  · rw [if_neg h3]; exact ⟨h, ht⟩
theorem x_tail_pf {K : Nat → Int32} {w1 w2 o1 o2 : Int32} {U : Nat → x_Re} (h1 : w1 ≠ 0) (h2 : w2 ≠ 0) (hU : ∀ t, x_rc K t → t ≤ 400 → x_pf K (U t)) : ∀ n c t, x_rc K t → t ≤ 400 → x_pf K (x_tail K w1 w2 o1 o2 U n c t) := by
  intro n
  induction n with
  | zero => intro c t h ht; exact ⟨h, ht⟩
  | succ n ih =>
    intro c t h ht
    unfold x_tail
    by_cases q : K t = w1 ∨ K t = w2
    · rw [if_pos q]
      by_cases h5 : 400 ≤ t
      · rw [if_pos h5]; exact ⟨h, ht⟩
      rw [if_neg h5]
      have v := hU (t + 1) (q.elim (fun z => h.s z h1) (fun z => h.s z h2)) (by omega)
      cases hr : U (t + 1) with
      | inl f => rw [hr] at v; exact v
      | inr p =>
        obtain ⟨c', t'⟩ := p
        rw [hr] at v
        exact ih _ t' v.1 v.2
    · rw [if_neg q]; exact ⟨h, ht⟩
theorem x_lv_pf {K : Nat → Int32} {w1 w2 o1 o2 : Int32} {U : Nat → x_Re} (h1 : w1 ≠ 0) (h2 : w2 ≠ 0) (hU : ∀ t, x_rc K t → t ≤ 400 → x_pf K (U t)) (t : Nat) (h : x_rc K t) (ht : t ≤ 400) : x_pf K (x_lv K w1 w2 o1 o2 U t) := by
  unfold x_lv
  have v := hU t h ht
  cases hr : U t with
  | inl f => rw [hr] at v; exact v
  | inr p =>
    obtain ⟨c, t'⟩ := p
    rw [hr] at v
    exact x_tail_pf h1 h2 hU 400 c t' v.1 v.2
theorem x_E_pf {K V : Nat → Int32} : ∀ k t, x_rc K t → t ≤ 400 → x_pf K (x_E K V k t) := by
  intro k
  induction k with
  | zero => exact x_lv_pf (by decide) (by decide) (x_lv_pf (by decide) (by decide) (x_unit_pf (S := fun t => .inl (2, t)) (fun t h ht => ⟨h, ht⟩)))
  | succ k ih => exact x_lv_pf (by decide) (by decide) (x_lv_pf (by decide) (by decide) (x_unit_pf ih))
/-- the slots of 68 that reading changes -/
def r_sl : List Nat := [11, 12, 13, 14, 15, 16, 32, 38, 42]
def r_ss (K Pl : Nat → Int32) (s : x_Sl) (z : Nat) (I : am_I) : x_St → Prop
  | .inl (f, a) => (f = 1 ∨ f = 2) ∧ I 68 13 = f ∧ I 68 14 = Pl a ∧ ∃ t, t ≤ 400 ∧ I 68 11 = nI t
  | .inr t => I 68 11 = nI t ∧ t ≤ 400 ∧ I 68 13 = 0 ∧ I 68 12 = 0 ∧ x_rc K t ∧ I 68 15 = s.1 ∧ (s.1 ≠ 0 → I 68 16 = Pl s.2 ∧ s.2 < t) ∧ ∃ z0, z = z0 + 0 ∧ I 68 38 = nI z0
/-- the reference reads: kinds, values, places, side; status, slip, codes, branches -/
def r_at (K V Pl : Nat → Int32) (sd : Nat) (st : x_St) (s : x_Sl) (z nb : Nat) (I : am_I) : Prop := y_tk K V I ∧ (∀ t, t ≤ 400 → x_rc K t → I 72 t = Pl t) ∧ I 68 19 = nI sd ∧ I 68 32 = nI nb ∧ r_ss K Pl s z I st
theorem y_tk.k {K V : Nat → Int32} {I I' : am_I} (h : y_tk K V I) (e : ∀ c k, (c = 71 ∨ c = 73) → I' c k = I c k) : y_tk K V I' := fun t ht hr => by
  obtain ⟨h1, h2, h3⟩ := h t ht hr
  exact ⟨h1, (e 71 t (Or.inl rfl)).trans h2, fun q => (e 73 t (Or.inr rfl)).trans (h3 q)⟩
theorem r_at.k {K V Pl : Nat → Int32} {sd : Nat} {st : x_St} {s : x_Sl} {z nb : Nat} {I I' : am_I} (h : r_at K V Pl sd st s z nb I) (e : ∀ c k, (c = 68 ∨ c = 71 ∨ c = 72 ∨ c = 73) → (c ≠ 68 ∨ k ∈ 19 :: r_sl) → I' c k = I c k) : r_at K V Pl sd st s z nb I' := by
  obtain ⟨h1, h2, h3, h4, h5⟩ := h
  have e0 : ∀ k, k ∈ 19 :: r_sl → I' 68 k = I 68 k := fun k hk => e 68 k (Or.inl rfl) (Or.inr hk)
  refine ⟨h1.k (fun c k hc => e c k (by omega) (Or.inl (by omega))), fun t ht hr => (e 72 t (by omega) (Or.inl (by decide))).trans (h2 t ht hr), (e0 19 (by decide)).trans h3, (e0 32 (by decide)).trans h4, ?_⟩
  cases st with
  | inl f =>
    obtain ⟨f, a⟩ := f
    obtain ⟨q1, q2, q3, q4⟩ := h5
    exact ⟨q1, (e0 13 (by decide)).trans q2, (e0 14 (by decide)).trans q3, by rw [e0 11 (by decide)]; exact q4⟩
  | inr t =>
    obtain ⟨q1, q2, q3, q4, q5, q6, q7, q8⟩ := h5
    exact ⟨(e0 11 (by decide)).trans q1, q2, (e0 13 (by decide)).trans q3, (e0 12 (by decide)).trans q4, q5, (e0 15 (by decide)).trans q6, fun q => ⟨(e0 16 (by decide)).trans (q7 q).1, (q7 q).2⟩, by rw [e0 38 (by decide)]; exact q8⟩
theorem r_at.dead {K V Pl : Nat → Int32} {sd : Nat} {f : Int32 × Nat} {s : x_Sl} {z nb : Nat} {I : am_I} (h : r_at K V Pl sd (.inl f) s z nb I) : 0 < I 68 13 := by
  obtain ⟨_, _, _, _, q1, q2, _⟩ := h
  rw [q2]
  rcases q1 with q | q <;> rw [q] <;> decide
theorem r_at.sl {K V Pl : Nat → Int32} {sd : Nat} {st : x_St} {s s' : x_Sl} {z z' nb : Nat} {I : am_I} (h : r_at K V Pl sd st s z nb I) (e : ∀ t, st = .inr t → s = s' ∧ z = z') : r_at K V Pl sd st s' z' nb I := by
  cases st with
  | inl f => exact h
  | inr t =>
    obtain ⟨e1, e2⟩ := e t rfl
    rw [← e1, ← e2]
    exact h
/-- a step's frame -/
def r_fr (I I' : am_I) : Prop := ∀ c k, (c ≠ 68 ∨ k ∉ r_sl) → I' c k = I c k
theorem r_fr.refl (I : am_I) : r_fr I I := fun _ _ _ => rfl
theorem r_fr.trans {I I1 I2 : am_I} (h1 : r_fr I I1) (h2 : r_fr I1 I2) : r_fr I I2 := fun c k h => (h2 c k h).trans (h1 c k h)
theorem r_fr.n {I I' : am_I} (h : r_fr I I') {c : Nat} (hc : c ≠ 68) (k : Nat) : I' c k = I c k := h c k (Or.inl hc)
theorem r_fr.of2 {I I' : am_I} {a b : Nat} (ha : a ∈ r_sl) (hb : b ∈ r_sl) (h : ∀ c k, (c ≠ 68 ∨ k ≠ a) → (c ≠ 68 ∨ k ≠ b) → I' c k = I c k) : r_fr I I' := fun c k hk => h c k (hk.imp id (fun q w => q (by rw [w]; exact ha))) (hk.imp id (fun q w => q (by rw [w]; exact hb)))
theorem r_fr.ofL {I I' : am_I} {L : List (Nat × Nat)} (hL : ∀ q ∈ L, q.1 = 68 ∧ q.2 ∈ r_sl) (h : ∀ c k, (c, k) ∉ L → I' c k = I c k) : r_fr I I' := fun c k hk => h c k (fun q => by
  obtain ⟨h1, h2⟩ := hL _ q
  rcases hk with w | w
  · exact w h1
  · exact w h2)
theorem x_ks_inj : ∀ k ∈ x_ks, ∀ w ∈ x_ks, (m_kd k = m_kd w ↔ k = w) := by decide +kernel
theorem r_go {K V Pl : Nat → Int32} {sd : Nat} {s : x_Sl} {z nb t : Nat} {w : Int32} {I I' : am_I} (h : r_at K V Pl sd (.inr t) s z nb I) (hK : K t = w) (hw : w ≠ 0) (ht : t < 400) (e : I' 68 11 = nI (t + 1)) (g : ∀ c k, (c ≠ 68 ∨ k ≠ 11) → I' c k = I c k) : r_at K V Pl sd (.inr (t + 1)) s z nb I' := by
  obtain ⟨h1, h2, h3, h4, q1, q2, q3, q4, q5, q6, q7, q8⟩ := h
  have g0 : ∀ k, k ≠ 11 → I' 68 k = I 68 k := fun k hk => g 68 k (Or.inr hk)
  exact ⟨h1.k (fun c k hc => g c k (Or.inl (by omega))), fun t ht hr => (g 72 t (Or.inl (by decide))).trans (h2 t ht hr), (g0 19 (by decide)).trans h3, (g0 32 (by decide)).trans h4, e, by omega, (g0 13 (by decide)).trans q3, (g0 12 (by decide)).trans q4, q5.s hK hw, (g0 15 (by decide)).trans q6, fun q => ⟨(g0 16 (by decide)).trans (q7 q).1, by have := (q7 q).2; omega⟩, by rw [g0 38 (by decide)]; exact q8⟩
theorem r_die {K V Pl : Nat → Int32} {sd : Nat} {s : x_Sl} {z nb t : Nat} {f : Int32} {I I' : am_I} (h : r_at K V Pl sd (.inr t) s z nb I) (hf : f = 1 ∨ f = 2) (e1 : I' 68 13 = f) (e2 : I' 68 14 = I 72 t) (g : ∀ c k, (c ≠ 68 ∨ k ≠ 13) → (c ≠ 68 ∨ k ≠ 14) → I' c k = I c k) : r_at K V Pl sd (.inl (f, t)) s z nb I' := by
  obtain ⟨h1, h2, h3, h4, q1, q2, q3, q4, q5, q6, q7, q8⟩ := h
  exact ⟨h1.k (fun c k hc => g c k (Or.inl (by omega)) (Or.inl (by omega))), fun t ht hr => (g 72 t (Or.inl (by decide)) (Or.inl (by decide))).trans (h2 t ht hr), (g 68 19 (Or.inr (by decide)) (Or.inr (by decide))).trans h3, (g 68 32 (Or.inr (by decide)) (Or.inr (by decide))).trans h4, hf, e1, by rw [e2, h2 t q2 q5], t, q2, (g 68 11 (Or.inr (by decide)) (Or.inr (by decide))).trans q1⟩
section ZV
variable (d : Nat) (J : am_J) {K V Pl : Nat → Int32} {sd : Nat} {st : x_St} {s : x_Sl} {z nb : Nat} {I : am_I}
theorem r_must (h : r_at K V Pl sd st s z nb I) {w w' : Int32} (hw : w ∈ x_ks) (hw0 : w ≠ 0) (hm : m_kd w = w') : ∃ I', f_m_must_0 d w' I J = some (none, I', J) ∧ r_at K V Pl sd (x_ps K w st) s z nb I' ∧ r_fr I I' := by
  cases st with
  | inl f => exact ⟨I, s_m_must_f d J h.dead w', h, r_fr.refl I⟩
  | inr t =>
    obtain ⟨h1, h2, h3, h4, q1, q2, q3, q4, q5, q6⟩ := h
    have h := (⟨h1, h2, h3, h4, q1, q2, q3, q4, q5, q6⟩ : r_at K V Pl sd (.inr t) s z nb I)
    obtain ⟨k1, k2, _⟩ := h1 t q2 q5
    have inj : I 71 t = w' ↔ K t = w := by rw [k2, ← hm]; exact x_ks_inj _ k1 _ hw
    by_cases p : K t = w ∧ t < 400
    · rw [x_ps_i p.1 p.2]
      have g : ∀ c k, (c ≠ 68 ∨ k ≠ 11) → am_upd I 68 11 (nI (t + 1)) c k = I c k := fun c k hk => hk.elim am_uc am_uk
      exact ⟨_, s_m_must_y d J q1 p.2 q3 (inj.mpr p.1), r_go h p.1 hw0 p.2 am_ue g, r_fr.of2 (a := 11) (b := 11) (by decide) (by decide) (fun c k hk _ => g c k hk)⟩
    · have p' : K t ≠ w ∨ t = 400 := by
        by_cases v : K t = w
        · exact Or.inr (by have : ¬ t < 400 := fun z => p ⟨v, z⟩
                           omega)
        · exact Or.inl v
      rw [x_ps_n p' q2]
      obtain ⟨I', a1, a2, a3, a4⟩ := s_m_must_n d J q1 q2 q3 (w := w') (p'.imp (fun v x => v (inj.mp x)) id)
      refine ⟨I', a1, r_die h ?_ ?_ a3 a4, r_fr.of2 (by decide) (by decide) a4⟩
      · by_cases v : K t = w
        · rw [if_pos v]; exact Or.inr rfl
        · rw [if_neg v]; exact Or.inl rfl
      · rw [a2]
        by_cases v : K t = w
        · rw [if_pos v, if_pos (inj.mpr v)]
        · rw [if_neg v, if_neg (fun x => v (inj.mp x))]
/-- behind a thing that is known -/
theorem r_goes {t : Nat} (h : r_at K V Pl sd (.inr t) s z nb I) {w : Int32} (hw0 : w ≠ 0) (hK : K t = w) : ∃ I', f_m_goesOn_0 d I J = some (none, I', J) ∧ r_at K V Pl sd (x_ps K w (.inr t)) s z nb I' ∧ r_fr I I' := by
  obtain ⟨h1, h2, h3, h4, q1, q2, q3, q4, q5, q6⟩ := h
  have h := (⟨h1, h2, h3, h4, q1, q2, q3, q4, q5, q6⟩ : r_at K V Pl sd (.inr t) s z nb I)
  by_cases p : t < 400
  · rw [x_ps_i hK p]
    have g : ∀ c k, (c ≠ 68 ∨ k ≠ 11) → am_upd I 68 11 (nI (t + 1)) c k = I c k := fun c k hk => hk.elim am_uc am_uk
    exact ⟨_, s_m_goes_y d J q1 p, r_go h hK hw0 p am_ue g, r_fr.of2 (a := 11) (b := 11) (by decide) (by decide) (fun c k hk _ => g c k hk)⟩
  · have e : t = 400 := by omega
    rw [x_ps_n (Or.inr e) q2, if_pos hK]
    obtain ⟨I', a1, a2, a3, a4⟩ := s_m_goes_n d J q1 e q3
    exact ⟨I', a1, r_die h (Or.inr rfl) a2 a3 a4, r_fr.of2 (by decide) (by decide) a4⟩
theorem r_fail {t : Nat} (h : r_at K V Pl sd (.inr t) s z nb I) {f : Int32} (hf : f = 1 ∨ f = 2) : ∃ I', f_m_fail_0 d f I J = some (none, I', J) ∧ r_at K V Pl sd (.inl (f, t)) s z nb I' ∧ r_fr I I' := by
  obtain ⟨h1, h2, h3, h4, q1, q2, q3, q4, q5, q6⟩ := h
  obtain ⟨I', a1, a2, a3, a4⟩ := s_m_fail1 d J q1 q2 q3 f
  exact ⟨I', a1, r_die ⟨h1, h2, h3, h4, q1, q2, q3, q4, q5, q6⟩ hf a2 a3 a4, r_fr.of2 (by decide) (by decide) a4⟩
/-- is this a w -/
theorem r_is {t : Nat} (h : r_at K V Pl sd (.inr t) s z nb I) {w w' : Int32} (hw : w ∈ x_ks) (hm : m_kd w = w') : f_m_is_0 d w' I J = some (some (.int (am_tf (K t = w))), I, J) := by
  obtain ⟨h1, h2, h3, h4, q1, q2, q3, q4, q5, q6⟩ := h
  obtain ⟨k1, k2, _⟩ := h1 t q2 q5
  rw [s_m_is d J q1 q2 q3 w']
  have inj : I 71 t = w' ↔ K t = w := by rw [k2, ← hm]; exact x_ks_inj _ k1 _ hw
  by_cases v : K t = w
  · rw [am_tf_t v, am_tf_t (inj.mpr v)]
  · rw [am_tf_f v, am_tf_f (fun x => v (inj.mp x))]
/-- a slip -/
theorem r_wrong (hP : ∀ i j, i < j → j ≤ 400 → x_rc K j → Pl i < Pl j) {t tok : Nat} (h : r_at K V Pl sd (.inr t) s z nb I) {f : Int32} (hf : f ≠ 0) (htok : tok < t) (hs : s.1 = 0 ∨ s.2 < tok ∨ s = (f, tok)) : ∃ I', f_m_wrong_0 d f (nI tok) I J = some (none, I', J) ∧ r_at K V Pl sd (.inr t) (x_s1 true f tok s) z nb I' ∧ r_fr I I' := by
  obtain ⟨h1, h2, h3, h4, q1, q2, q3, q4, q5, q6, q7, q8⟩ := h
  have etok := h2 tok (by omega) (q5.le (by omega))
  obtain ⟨I', a1, a2, a3, a4⟩ := s_m_wrong d J (I := I) (t := tok) (by omega) q3 f (by
    by_cases w : s.1 = 0
    · exact Or.inl (q6.trans w)
    · obtain ⟨w1, w2⟩ := q7 w
      rw [w1, etok, q6]
      rcases hs with hs | hs | hs
      · exact absurd hs w
      · exact Or.inr (Or.inl (hP _ _ hs (by omega) (q5.le (by omega))))
      · rw [hs]
        exact Or.inr (Or.inr ⟨rfl, fun x => Int32.lt_irrefl x⟩))
  have fr : r_fr I I' := r_fr.of2 (by decide) (by decide) a4
  have g0 : ∀ k, k ≠ 15 → k ≠ 16 → I' 68 k = I 68 k := fun k x y => a4 68 k (Or.inr x) (Or.inr y)
  refine ⟨I', a1, ⟨h1.k (fun c k hc => fr.n (by omega) k), fun t ht hr => (fr.n (by decide) t).trans (h2 t ht hr), (g0 19 (by decide) (by decide)).trans h3, (g0 32 (by decide) (by decide)).trans h4, (g0 11 (by decide) (by decide)).trans q1, q2, (g0 13 (by decide) (by decide)).trans q3, (g0 12 (by decide) (by decide)).trans q4, q5, ?_, ?_, by rw [g0 38 (by decide) (by decide)]; exact q8⟩, fr⟩
  · rw [a2, q6]
    unfold x_s1
    by_cases w : s.1 = 0
    · rw [if_pos w, if_pos ⟨rfl, w⟩]
    · rw [if_neg w, if_neg (fun x => w x.2)]
  · rw [a3, q6, etok]
    unfold x_s1
    by_cases w : s.1 = 0
    · rw [if_pos w, if_pos ⟨rfl, w⟩]
      exact fun _ => ⟨rfl, htok⟩
    · rw [if_neg w, if_neg (fun x => w x.2)]
      exact q7
theorem r_bnd (hP : ∀ i j, i < j → j ≤ 400 → x_rc K j → Pl i < Pl j) (h : r_at K V Pl sd st s z nb I) (lo hi : Int32) : ∃ y I', f_m_bounded_0 d lo hi I J = some (some (.int y), I', J) ∧ r_at K V Pl sd (x_ps K 3 st) (x_s1 (x_badb (V (x_tn st)) lo hi) 5 (x_tn st) s) z nb I' ∧ (∀ t', x_ps K 3 st = .inr t' → y = V (x_tn st)) ∧ r_fr I I' := by
  cases st with
  | inl f => exact ⟨lo, I, s_m_bnd_f d J h.dead lo hi, h, fun t' q => absurd q (by simp [x_ps]), r_fr.refl I⟩
  | inr t =>
    obtain ⟨h1, h2, h3, h4, q1, q2, q3, q4, q5, q6, q7, q8⟩ := h
    have h := (⟨h1, h2, h3, h4, q1, q2, q3, q4, q5, q6, q7, q8⟩ : r_at K V Pl sd (.inr t) s z nb I)
    obtain ⟨k1, k2, k3⟩ := h1 t q2 q5
    have inj : I 71 t = 2 ↔ K t = 3 := by rw [k2]; exact x_ks_inj _ k1 3 (by decide)
    have hs : I 68 15 = 0 ∨ I 68 16 < I 72 t := by
      by_cases w : s.1 = 0
      · exact Or.inl (q6.trans w)
      · obtain ⟨w1, w2⟩ := q7 w
        exact Or.inr (by rw [w1, h2 t q2 q5]; exact hP _ _ w2 q2 q5)
    by_cases p : K t = 3
    · by_cases p2 : t < 400
      · obtain ⟨I', a1, a2, a3, a4⟩ := s_m_bnd_y d J q1 p2 q3 (inj.mpr p) hs lo hi
        have fr : r_fr I I' := r_fr.ofL (by decide) a4
        have g0 : ∀ k, (68, k) ∉ ([(68, 11), (68, 15), (68, 16)] : List (Nat × Nat)) → I' 68 k = I 68 k := fun k x => a4 68 k x
        refine ⟨_, I', a1, ?_, fun t' _ => k3 p, fr⟩
        rw [x_ps_i p p2]
        rw [k3 p, h2 t q2 q5, q6] at a3
        refine ⟨h1.k (fun c k hc => fr.n (by omega) k), fun t ht hr => (fr.n (by decide) t).trans (h2 t ht hr), (g0 19 (by decide)).trans h3, (g0 32 (by decide)).trans h4, a2, by omega, (g0 13 (by decide)).trans q3, (g0 12 (by decide)).trans q4, q5.s p (by decide), ?_⟩
        show I' 68 15 = (x_s1 (x_badb (V t) lo hi) 5 t s).1 ∧ ((x_s1 (x_badb (V t) lo hi) 5 t s).1 ≠ 0 → I' 68 16 = Pl (x_s1 (x_badb (V t) lo hi) 5 t s).2 ∧ (x_s1 (x_badb (V t) lo hi) 5 t s).2 < t + 1) ∧ _
        unfold x_s1
        rcases a3 with ⟨b1, b2, b3, b4⟩ | ⟨b1, b3, b4⟩
        · rw [if_pos ⟨x_badb_iff.mpr b1, b2⟩]
          exact ⟨b3, fun _ => ⟨b4, Nat.lt_succ_self t⟩, by rw [g0 38 (by decide)]; exact q8⟩
        · rw [if_neg (fun q => b1 ⟨x_badb_iff.mp q.1, q.2⟩)]
          exact ⟨b3, fun q => ⟨b4.trans (q7 q).1, by have := (q7 q).2; omega⟩, by rw [g0 38 (by decide)]; exact q8⟩
      · have e : t = 400 := by omega
        obtain ⟨y, I', a1, a2, a3, a4⟩ := s_m_bnd_l d J q1 e q3 (inj.mpr p) hs lo hi
        have fr : r_fr I I' := r_fr.ofL (by decide) a4
        have g0 : ∀ k, (68, k) ∉ ([(68, 13), (68, 14), (68, 15), (68, 16)] : List (Nat × Nat)) → I' 68 k = I 68 k := fun k x => a4 68 k x
        have ex : x_ps K 3 (.inr t) = .inl (2, t) := by rw [x_ps_n (Or.inr e) q2, if_pos p]
        rw [ex]
        exact ⟨y, I', a1, ⟨h1.k (fun c k hc => fr.n (by omega) k), fun t ht hr => (fr.n (by decide) t).trans (h2 t ht hr), (g0 19 (by decide)).trans h3, (g0 32 (by decide)).trans h4, Or.inr rfl, a2, by rw [a3, h2 t q2 q5], t, q2, (g0 11 (by decide)).trans q1⟩, fun t' q => absurd q (by simp), fr⟩
    · obtain ⟨I', a1, a2, a3, a4⟩ := s_m_bnd_n d J q1 q2 q3 (fun x => p (inj.mp x)) lo hi
      have ex : x_ps K 3 (.inr t) = .inl (1, t) := by rw [x_ps_n (Or.inl p) q2, if_neg p]
      rw [ex]
      exact ⟨lo, I', a1, r_die (s := s) h (Or.inl rfl) a2 a3 a4, fun t' q => absurd q (by simp), r_fr.of2 (by decide) (by decide) a4⟩
/-- an E -/
def r_lo (sd z : Nat) (I I' : am_I) : Prop := ∀ c k, (c = 92 ∨ c = 93) → (k < z ∨ 420 * sd + 420 ≤ k) → I' c k = I c k
theorem r_E (hsd : sd < 2) (h : r_at K V Pl sd st s z nb I) (hz : ∀ t, st = .inr t → z ≤ 420 * sd + t) : ∃ I', f_m_expression_0 d I J = some (none, I', J) ∧ r_at K V Pl sd (x_rs (x_pe K V st)) s (z + (x_rk (x_pe K V st)).length) nb I' ∧ (∀ t, x_rs (x_pe K V st) = .inr t → y_cd z (x_rk (x_pe K V st)) I') ∧ r_lo sd z I I' ∧ ∀ c k, (c ≠ 68 ∨ k ∉ r_sl) → c ∉ ([92, 93, 94] : List Nat) → I' c k = I c k := by
  cases st with
  | inl f =>
    have g : ∀ c k, (c ≠ 68 ∨ k ≠ 42) → am_upd I 68 42 0 c k = I c k := fun c k hk => hk.elim am_uc am_uk
    refine ⟨_, s_m_expr_f d J h.dead, ?_, fun t w => absurd w (by simp [x_pe, x_rs]), fun c k hc _ => g c k (Or.inl (by omega)), fun c k hk _ => g c k (hk.imp id (fun q w => q (by rw [w]; decide)))⟩
    obtain ⟨f, a⟩ := f
    obtain ⟨h1, h2, h3, h4, q1, q2, q3, q4⟩ := h
    exact ⟨h1.k (fun c k hc => g c k (Or.inl (by omega))), fun t ht hr => (g 72 t (Or.inl (by decide))).trans (h2 t ht hr), (g 68 19 (Or.inr (by decide))).trans h3, (g 68 32 (Or.inr (by decide))).trans h4, q1, (g 68 13 (Or.inr (by decide))).trans q2, (g 68 14 (Or.inr (by decide))).trans q3, by rw [g 68 11 (Or.inr (by decide))]; exact q4⟩
  | inr t =>
    obtain ⟨h1, h2, h3, h4, q1, q2, q3, q4, q5, q6, q7, z0, q8, q9⟩ := h
    obtain ⟨I', a1, a2⟩ := s_m_expr d J ⟨420 * sd + 420, by omega⟩ h1 q5 q3 q4 q1 q2 (z := z) (by rw [q9, q8]; rfl) (by have := hz t rfl; show z + 420 ≤ 420 * sd + 420 + t; omega)
    have to := (x_E_ed (K := K) (V := V) 6 t).2
    have pf := x_E_pf (K := K) (V := V) 6 t q5 q2
    refine ⟨I', a1, ?_⟩
    show r_at K V Pl sd (x_rs (x_E K V 6 t)) s (z + (x_rk (x_E K V 6 t)).length) nb I' ∧ (∀ t', x_rs (x_E K V 6 t) = .inr t' → y_cd z (x_rk (x_E K V 6 t)) I') ∧ _
    have nfc : ∀ {c k : Nat}, (c ≠ 68 ∨ k ∉ r_sl) → (c, k) ∉ y_fc := fun {c k} hk q => by
      obtain ⟨w1, w2⟩ := (show ∀ q ∈ y_fc, q.1 = 68 ∧ q.2 ∈ r_sl by decide) _ q
      rcases hk with hk | hk
      · exact hk w1
      · exact hk w2
    have fin : y_fr ⟨420 * sd + 420, by omega⟩ z I I' → r_lo sd z I I' ∧ (∀ c k, (c ≠ 68 ∨ k ∉ r_sl) → c ∉ ([92, 93, 94] : List Nat) → I' c k = I c k) ∧ (∀ k, (68, k) ∉ y_fc → I' 68 k = I 68 k) ∧ ∀ c k, (c = 71 ∨ c = 72 ∨ c = 73) → I' c k = I c k := fun f => ⟨fun c k hc hk => f c k (nfc (Or.inl (by omega))) (by omega) (Or.inr hk) (Or.inr hk), fun c k hk hc => by
      simp only [List.mem_cons, List.not_mem_nil, not_or] at hc
      exact f c k (nfc hk) hc.2.2.1 (Or.inl hc.1) (Or.inl hc.2.1), fun k hk => f 68 k hk (by decide) (Or.inl (by decide)) (Or.inl (by decide)), fun c k hc => f c k (nfc (Or.inl (by omega))) (by omega) (Or.inl (by omega)) (Or.inl (by omega))⟩
    cases hr : x_E K V 6 t with
    | inl p =>
      obtain ⟨f, a⟩ := p
      rw [hr] at a2 to pf
      obtain ⟨b1, b2, b3, b4⟩ := a2
      obtain ⟨f1, f2, f3, f4⟩ := fin b4
      exact ⟨⟨h1.k (fun c k hc => f4 c k (by omega)), fun t ht hr => (f4 72 t (by omega)).trans (h2 t ht hr), (f3 19 (by decide)).trans h3, (f3 32 (by decide)).trans h4, to, b1, by rw [b2, h2 a pf.2 pf.1], b3⟩, fun t w => absurd w (by simp [x_rs]), f1, f2⟩
    | inr p =>
      obtain ⟨c, t'⟩ := p
      rw [hr] at a2 pf
      obtain ⟨b1, b2, b3, b4, b5, b6, b7⟩ := a2
      obtain ⟨f1, f2, f3, f4⟩ := fin b5
      have sl := x_E_sl (K := K) (V := V) 6 t
      rw [hr] at sl
      have sl2 : t < t' := sl.2
      exact ⟨⟨h1.k (fun c k hc => f4 c k (by omega)), fun t ht hr => (f4 72 t (by omega)).trans (h2 t ht hr), (f3 19 (by decide)).trans h3, (f3 32 (by decide)).trans h4, b1, b2, b6, b7, pf.1, (f3 15 (by decide)).trans q6, fun q => ⟨(f3 16 (by decide)).trans (q7 q).1, by have := (q7 q).2; omega⟩, z + c.length, rfl, b3⟩, fun _ _ => b4, f1, f2⟩
end ZV

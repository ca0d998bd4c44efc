/-! reading by status: .inl a fault and its thing, .inr the thing in hand -/
abbrev x_St : Type := Sum (Int32 × Nat) Nat
/-- the first slip: its number (0: none) and its thing -/
abbrev x_Sl : Type := Int32 × Nat
def x_ps (K : Nat → Int32) (w : Int32) : x_St → x_St
  | .inl f => .inl f
  | .inr t => if K t = w then (if 400 ≤ t then .inl (2, t) else .inr (t + 1)) else .inl (1, t)
def x_pe (K V : Nat → Int32) : x_St → x_Re
  | .inl f => .inl f
  | .inr t => x_E K V 6 t
def x_rs : x_Re → x_St
  | .inl f => .inl f
  | .inr (_, t) => .inr t
def x_rk : x_Re → x_Cd
  | .inl _ => []
  | .inr (c, _) => c
def x_tn : x_St → Nat
  | .inl _ => 0
  | .inr t => t
def x_s1 (b : Bool) (f : Int32) (tok : Nat) (s : x_Sl) : x_Sl := if b = true ∧ s.1 = 0 then (f, tok) else s
def x_badb (v lo hi : Int32) : Bool := decide (v < lo) || decide (hi < v)
theorem x_badb_iff {v lo hi : Int32} : x_badb v lo hi = true ↔ x_bad v lo hi := by
  unfold x_badb x_bad
  rw [Bool.or_eq_true, decide_eq_true_iff, decide_eq_true_iff]
theorem x_ps_r (K : Nat → Int32) (w : Int32) (t : Nat) : x_ps K w (.inr t) = if K t = w then (if 400 ≤ t then .inl (2, t) else .inr (t + 1)) else .inl (1, t) := rfl
theorem x_ps_y {K : Nat → Int32} {w : Int32} {st : x_St} {t' : Nat} (h : x_ps K w st = .inr t') : ∃ t, st = .inr t ∧ K t = w ∧ t < 400 ∧ t' = t + 1 := by
  cases st with
  | inl f => exact absurd h (by simp [x_ps])
  | inr t =>
    refine ⟨t, rfl, ?_⟩
    rw [x_ps_r] at h
    by_cases q : K t = w
    · rw [if_pos q] at h
      by_cases q2 : 400 ≤ t
      · rw [if_pos q2] at h; exact absurd h (by simp)
      · rw [if_neg q2] at h; exact ⟨q, by omega, (Sum.inr.inj h).symm⟩
    · rw [if_neg q] at h; exact absurd h (by simp)
theorem x_ps_i {K : Nat → Int32} {w : Int32} {t : Nat} (h : K t = w) (h2 : t < 400) : x_ps K w (.inr t) = .inr (t + 1) := by
  rw [x_ps_r, if_pos h, if_neg (by omega)]
theorem x_ps_n {K : Nat → Int32} {w : Int32} {t : Nat} (h : K t ≠ w ∨ t = 400) (ht : t ≤ 400) : x_ps K w (.inr t) = .inl (if K t = w then 2 else 1, t) := by
  rw [x_ps_r]
  by_cases q : K t = w
  · rw [if_pos q, if_pos q, if_pos (by have := h.resolve_left (fun z => z q); omega)]
  · rw [if_neg q, if_neg q]
/-- what a status says of the reader's cells -/
def c_ss (Pl : Nat → Int32) (s : x_Sl) (z : Nat) (I : am_I) : x_St → Prop
  | .inl (f, a) => (f = 1 ∨ f = 2) ∧ I 32 5 = f ∧ I 32 6 = Pl a ∧ (∃ t, t ≤ 400 ∧ I 32 3 = nI t) ∧ ∃ z', z' ≤ 400 ∧ I 26 4 = nI z'
  | .inr t => x_at t z I ∧ I 32 7 = s.1 ∧ (s.1 ≠ 0 → I 32 8 = Pl s.2)
/-- the class reads: kinds, values, places; status, slip, steps written -/
def c_at (K V Pl : Nat → Int32) (st : x_St) (s : x_Sl) (z : Nat) (I : am_I) : Prop := I 8 = K ∧ I 9 = V ∧ I 10 = Pl ∧ c_ss Pl s z I st
theorem x_at.k {t z : Nat} {I I' : am_I} (h : x_at t z I) (e : ∀ c k, (c = 8 ∨ c = 26 ∨ c = 32) → I' c k = I c k) : x_at t z I' := by
  obtain ⟨h1, h2, h3, h4, h5, h6⟩ := h
  exact ⟨(e 32 3 (by decide)).trans h1, by rw [e 32 4 (by decide), e 8 t (by decide)]; exact h2, (e 32 5 (by decide)).trans h3, (e 26 4 (by decide)).trans h4, h5, h6.1, (e 32 6 (by decide)).trans h6.2⟩
theorem c_at.k {K V Pl : Nat → Int32} {st : x_St} {s : x_Sl} {z : Nat} {I I' : am_I} (h : c_at K V Pl st s z I) (e : ∀ c k, (c = 8 ∨ c = 9 ∨ c = 10 ∨ c = 26 ∨ c = 32) → I' c k = I c k) : c_at K V Pl st s z I' := by
  obtain ⟨h1, h2, h3, h4⟩ := h
  refine ⟨(funext fun k => e 8 k (by decide)).trans h1, (funext fun k => e 9 k (by decide)).trans h2, (funext fun k => e 10 k (by decide)).trans h3, ?_⟩
  cases st with
  | inl f =>
    obtain ⟨f, a⟩ := f
    obtain ⟨q1, q2, q3, q4, q5⟩ := h4
    exact ⟨q1, (e 32 5 (by decide)).trans q2, (e 32 6 (by decide)).trans q3, by rw [e 32 3 (by decide)]; exact q4, by rw [e 26 4 (by decide)]; exact q5⟩
  | inr t =>
    obtain ⟨q1, q2, q3⟩ := h4
    exact ⟨q1.k (fun c k hc => e c k (by omega)), (e 32 7 (by decide)).trans q2, fun q => (e 32 8 (by decide)).trans (q3 q)⟩
theorem c_at.u {K V Pl : Nat → Int32} {st : x_St} {s : x_Sl} {z : Nat} {I : am_I} (h : c_at K V Pl st s z I) {c0 k0 : Nat} {v : Int32} (hc : c0 ≠ 8 ∧ c0 ≠ 9 ∧ c0 ≠ 10 ∧ c0 ≠ 26 ∧ c0 ≠ 32) : c_at K V Pl st s z (am_upd I c0 k0 v) := h.k (fun c k q => am_uc (by omega))
theorem c_at.dead {K V Pl : Nat → Int32} {f : Int32 × Nat} {s : x_Sl} {z : Nat} {I : am_I} (h : c_at K V Pl (.inl f) s z I) : I 32 5 ≠ 0 := by
  obtain ⟨_, _, _, q1, q2, _⟩ := h
  rw [q2]
  rcases q1 with q | q <;> rw [q] <;> decide
theorem x_ft_c {K V Pl : Nat → Int32} {f : Int32} {a t z : Nat} {s : x_Sl} {I I' : am_I} (h : c_at K V Pl (.inr t) s z I) (hf : f = 1 ∨ f = 2) (x : x_ft f a z I I') (e : ∀ c k, c ≠ 32 → I' c k = I c k) : c_at K V Pl (.inl (f, a)) s z I' := by
  obtain ⟨h1, h2, h3, h4⟩ := h
  obtain ⟨x1, x2, x3, z', _, x4, x5⟩ := x
  exact ⟨(funext fun k => e 8 k (by decide)).trans h1, (funext fun k => e 9 k (by decide)).trans h2, (funext fun k => e 10 k (by decide)).trans h3, hf, x1, by rw [x2, h3], x3, z', x4, x5⟩
theorem n_32 {c k : Nat} (h : c ≠ 32) (L : List (Nat × Nat)) (hL : ∀ q ∈ L, q.1 = 32) : (c, k) ∉ L := fun q => h (hL _ q)
section ZN
variable (d : Nat) (J : am_J) {K V Pl : Nat → Int32} {st : x_St} {s : x_Sl} {z : Nat} {I : am_I}
theorem c_pass (h : c_at K V Pl st s z I) (w : Int32) : ∃ y I', f_reader_pass_0 d w I J = some (some (.int y), I', J) ∧ c_at K V Pl (x_ps K w st) s z I' ∧ (∀ f, x_ps K w st = .inl f → I' 32 3 = I 32 3) ∧ ∀ c k, c ≠ 32 → I' c k = I c k := by
  cases st with
  | inl f => exact ⟨0, I, s_pass_f d J h.dead w, h, fun _ _ => rfl, fun _ _ _ => rfl⟩
  | inr t =>
    have hx := h.2.2.2.1
    have ht := hx.2.2.2.2.1
    by_cases p : K t = w ∧ t < 400
    · obtain ⟨I', a1, a2, a3⟩ := s_pass_y d J hx p.2 (w := w) (by rw [h.1]; exact p.1)
      have e : ∀ c k, c ≠ 32 → I' c k = I c k := fun c k hc => a3 c k (n_32 hc _ (by decide))
      refine ⟨1, I', a1, ?_, fun f q => absurd q (by rw [x_ps_i p.1 p.2]; simp), e⟩
      rw [x_ps_i p.1 p.2]
      exact ⟨(funext fun k => e 8 k (by decide)).trans h.1, (funext fun k => e 9 k (by decide)).trans h.2.1, (funext fun k => e 10 k (by decide)).trans h.2.2.1, a2, (a3 32 7 (by decide)).trans h.2.2.2.2.1, fun q => (a3 32 8 (by decide)).trans (h.2.2.2.2.2 q)⟩
    · have p' : K t ≠ w ∨ t = 400 := by
        by_cases v : K t = w
        · exact Or.inr (by have : ¬ t < 400 := fun z => p ⟨v, z⟩
                           omega)
        · exact Or.inl v
      obtain ⟨I', a1, a2, a3⟩ := s_pass_n d J hx (w := w) (by rw [h.1]; exact p')
      have e : ∀ c k, c ≠ 32 → I' c k = I c k := fun c k hc => a3 c k (n_32 hc _ (by decide))
      refine ⟨0, I', a1, ?_, fun _ _ => a3 32 3 (by decide), e⟩
      rw [x_ps_n p' ht]
      rw [h.1] at a2
      refine x_ft_c h ?_ a2 e
      by_cases v : K t = w
      · rw [if_pos v]; exact Or.inr rfl
      · rw [if_neg v]; exact Or.inl rfl
theorem c_fail {t : Nat} (h : c_at K V Pl (.inr t) s z I) {f : Int32} (hf : f = 1 ∨ f = 2) : ∃ I', f_reader_fail_0 d f I J = some (none, I', J) ∧ c_at K V Pl (.inl (f, t)) s z I' ∧ ∀ c k, c ≠ 32 → I' c k = I c k := by
  obtain ⟨I', a1, a2, a3⟩ := s_fail d J h.2.2.2.1 f
  have e : ∀ c k, c ≠ 32 → I' c k = I c k := fun c k hc => a3 c k (n_32 hc _ (by decide))
  exact ⟨I', a1, x_ft_c h hf a2 e, e⟩
theorem c_slip (h : c_at K V Pl st s z I) {f : Int32} {tok : Nat} (ht : tok ≤ 401) (hf : f ≠ 0) : ∃ I', f_reader_noteSlip_0 d f (nI tok) I J = some (none, I', J) ∧ c_at K V Pl st (x_s1 true f tok s) z I' ∧ ∀ c k, c ≠ 32 → I' c k = I c k := by
  obtain ⟨I', a1, a2, a3, a4⟩ := s_slip d J (I := I) ht f
  have e : ∀ c k, c ≠ 32 → I' c k = I c k := fun c k hc => a4 c k (Or.inl hc) (Or.inl hc)
  have g : ∀ k, k ≠ 7 → k ≠ 8 → I' 32 k = I 32 k := fun k q1 q2 => a4 32 k (Or.inr q1) (Or.inr q2)
  obtain ⟨h1, h2, h3, h4⟩ := h
  refine ⟨I', a1, ⟨(funext fun k => e 8 k (by decide)).trans h1, (funext fun k => e 9 k (by decide)).trans h2, (funext fun k => e 10 k (by decide)).trans h3, ?_⟩, e⟩
  cases st with
  | inl q =>
    obtain ⟨q, a⟩ := q
    obtain ⟨q1, q2, q3, q4, q5⟩ := h4
    exact ⟨q1, (g 5 (by decide) (by decide)).trans q2, (g 6 (by decide) (by decide)).trans q3, by rw [g 3 (by decide) (by decide)]; exact q4, by rw [e 26 4 (by decide)]; exact q5⟩
  | inr t =>
    obtain ⟨⟨x1, x2, x3, x4, x5, x6⟩, q2, q3⟩ := h4
    refine ⟨⟨(g 3 (by decide) (by decide)).trans x1, by rw [g 4 (by decide) (by decide), e 8 _ (by decide)]; exact x2, (g 5 (by decide) (by decide)).trans x3, (e 26 4 (by decide)).trans x4, x5, x6.1, (g 6 (by decide) (by decide)).trans x6.2⟩, ?_, ?_⟩
    · rw [a2, q2]
      unfold x_s1
      by_cases w : s.1 = 0
      · rw [if_pos w, if_pos ⟨rfl, w⟩]
      · rw [if_neg w, if_neg (fun q => w q.2)]
    · rw [a3, q2, h3]
      unfold x_s1
      by_cases w : s.1 = 0
      · rw [if_pos w, if_pos ⟨rfl, w⟩]
        exact fun _ => rfl
      · rw [if_neg w, if_neg (fun q => w q.2)]
        exact q3
theorem c_rint (h : c_at K V Pl st s z I) (lo hi : Int32) : ∃ y I', f_reader_readInt_0 d lo hi I J = some (some (.int y), I', J) ∧ c_at K V Pl (x_ps K 3 st) (x_s1 (x_badb (V (x_tn st)) lo hi) 5 (x_tn st) s) z I' ∧ (∀ t', x_ps K 3 st = .inr t' → y = V (x_tn st)) ∧ ∀ c k, c ≠ 32 → I' c k = I c k := by
  cases st with
  | inl f => exact ⟨lo, I, s_rint_f d J h.dead lo hi, h, fun t' q => absurd q (by simp [x_ps]), fun _ _ _ => rfl⟩
  | inr t =>
    have hx := h.2.2.2.1
    have ht := hx.2.2.2.2.1
    by_cases p : K t = 3 ∧ t < 400
    · obtain ⟨I', a1, a2, a3, a4⟩ := s_rint_y d J hx p.2 (by rw [h.1]; exact p.1) lo hi
      have e : ∀ c k, c ≠ 32 → I' c k = I c k := fun c k hc => a4 c k (n_32 hc _ (by decide))
      refine ⟨_, I', a1, ?_, fun t' _ => by rw [h.2.1]; rfl, e⟩
      rw [x_ps_i p.1 p.2]
      rw [h.2.1, h.2.2.1] at a3
      refine ⟨(funext fun k => e 8 k (by decide)).trans h.1, (funext fun k => e 9 k (by decide)).trans h.2.1, (funext fun k => e 10 k (by decide)).trans h.2.2.1, a2, ?_⟩
      obtain ⟨_, q2, q3⟩ := h.2.2.2
      show I' 32 7 = (x_s1 (x_badb (V t) lo hi) 5 t s).1 ∧ ((x_s1 (x_badb (V t) lo hi) 5 t s).1 ≠ 0 → I' 32 8 = Pl (x_s1 (x_badb (V t) lo hi) 5 t s).2)
      unfold x_s1
      rw [q2] at a3
      rcases a3 with ⟨b1, b2, b3, b4⟩ | ⟨b1, b3, b4⟩
      · rw [if_pos ⟨x_badb_iff.mpr b1, b2⟩]
        exact ⟨b3, fun _ => b4⟩
      · rw [if_neg (fun q => b1 ⟨x_badb_iff.mp q.1, q.2⟩)]
        exact ⟨b3, fun q => b4.trans (q3 q)⟩
    · have p' : K t ≠ 3 ∨ t = 400 := by
        by_cases v : K t = 3
        · exact Or.inr (by have : ¬ t < 400 := fun z => p ⟨v, z⟩
                           omega)
        · exact Or.inl v
      obtain ⟨I', a1, a2, a3⟩ := s_rint_n d J hx (by rw [h.1]; exact p') lo hi
      have e : ∀ c k, c ≠ 32 → I' c k = I c k := fun c k hc => a3 c k (n_32 hc _ (by decide))
      refine ⟨lo, I', a1, ?_, fun t' q => ?_, e⟩
      · rw [x_ps_n p' ht]
        rw [h.1] at a2
        refine x_ft_c (s := s) h ?_ a2 e
        by_cases v : K t = 3
        · rw [if_pos v]; exact Or.inr rfl
        · rw [if_neg v]; exact Or.inl rfl
      · rw [x_ps_n p' ht] at q
        exact absurd q (by simp)
/-- `w NUMBER ;` -/
theorem c_number (h : c_at K V Pl st s z I) (w lo hi : Int32) : ∃ y I', f_reader_readNumber_0 d w lo hi I J = some (some (.int y), I', J) ∧ c_at K V Pl (x_ps K 59 (x_ps K 3 (x_ps K w st))) (x_s1 (x_badb (V (x_tn (x_ps K w st))) lo hi) 5 (x_tn (x_ps K w st)) s) z I' ∧ (∀ t', x_ps K 3 (x_ps K w st) = .inr t' → y = V (x_tn (x_ps K w st))) ∧ ∀ c k, c ≠ 32 → I' c k = I c k := by
  obtain ⟨y1, I1, a1, a2, _, a3⟩ := c_pass d J h w
  obtain ⟨y2, I2, b1, b2, b3, b4⟩ := c_rint d J a2 lo hi
  obtain ⟨y3, I3, e1, e2, _, e3⟩ := c_pass d J b2 59
  exact ⟨y2, I3, b_reader_readNumber_0 d w lo hi I J _ (by rw [a1, am_bi_i, b1, am_bi_i, e1, am_bi_i]), e2, b3, fun c k hc => (e3 c k hc).trans ((b4 c k hc).trans (a3 c k hc))⟩
end ZN

/-! a law: pure, the class's -/
/-- one `if E < E then E else`: three codes -/
abbrev x_Br : Type := x_Cd × x_Cd × x_Cd
/-- a law: its branches, the last E -/
abbrev x_Law : Type := List x_Br × x_Cd
def x_r1 (K V : Nat → Int32) (t : Nat) : x_Re := x_pe K V (x_ps K 136 (.inr t))
def x_r2 (K V : Nat → Int32) (t : Nat) : x_Re := x_pe K V (x_ps K 60 (x_rs (x_r1 K V t)))
def x_r3 (K V : Nat → Int32) (t : Nat) : x_Re := x_pe K V (x_ps K 137 (x_rs (x_r2 K V t)))
def x_br (K V : Nat → Int32) (t : Nat) : x_Br := (x_rk (x_r1 K V t), x_rk (x_r2 K V t), x_rk (x_r3 K V t))
def x_ifs (K V : Nat → Int32) : Nat → List x_Br → Nat → x_St × x_Law
  | 0, a, t => if K t = 136 then (.inl (2, t), a, []) else (x_ps K 59 (x_rs (x_E K V 6 t)), a, x_rk (x_E K V 6 t))
  | n + 1, a, t => if K t = 136 then (match x_ps K 138 (x_rs (x_r3 K V t)) with
      | .inl f => (.inl f, a, [])
      | .inr t' => x_ifs K V n (a ++ [x_br K V t]) t') else (x_ps K 59 (x_rs (x_E K V 6 t)), a, x_rk (x_E K V 6 t))
/-- the class's steps of a branch that begins at the step z -/
def x_bl1 (b : x_Br) : Nat := b.1.length + b.2.1.length + 1 + b.2.2.length + 1
def x_by1 (z : Nat) (b : x_Br) : x_Cd := b.1 ++ b.2.1 ++ [(6, nI (z + x_bl1 b))] ++ b.2.2 ++ [(7, 0)]
def x_lyb (z : Nat) : List x_Br → x_Cd
  | [] => []
  | b :: l => x_by1 z b ++ x_lyb (z + x_bl1 b) l
def x_bln : List x_Br → Nat
  | [] => 0
  | b :: l => x_bl1 b + x_bln l
def x_lay (z : Nat) (L : x_Law) : x_Cd := x_lyb z L.1 ++ (L.2 ++ [(7, 0)])
theorem x_by1_len (z : Nat) (b : x_Br) : (x_by1 z b).length = x_bl1 b := by
  unfold x_by1 x_bl1
  simp only [List.length_append, List.length_cons, List.length_nil]
theorem x_lyb_len : ∀ (l : List x_Br) (z : Nat), (x_lyb z l).length = x_bln l := by
  intro l
  induction l with
  | nil => intro z; rfl
  | cons b l ih => intro z; unfold x_lyb x_bln; rw [List.length_append, x_by1_len, ih]
theorem x_lyb_app : ∀ (l : List x_Br) (z : Nat) (b : x_Br), x_lyb z (l ++ [b]) = x_lyb z l ++ x_by1 (z + x_bln l) b := by
  intro l
  induction l with
  | nil => intro z b; simp [x_lyb, x_bln]
  | cons q l ih => intro z b; rw [List.cons_append]; unfold x_lyb x_bln; rw [ih, List.append_assoc, Nat.add_assoc]
theorem x_bln_app : ∀ (l : List x_Br) (b : x_Br), x_bln (l ++ [b]) = x_bln l + x_bl1 b := by
  intro l
  induction l with
  | nil => intro b; simp [x_bln]
  | cons q l ih => intro b; rw [List.cons_append]; unfold x_bln; rw [ih]; omega
theorem x_lay_len (z : Nat) (L : x_Law) : (x_lay z L).length = x_bln L.1 + L.2.length + 1 := by
  unfold x_lay
  rw [List.length_append, x_lyb_len, List.length_append]
  rfl
/-- the class's steps from z on -/
def c_cd (z : Nat) (c : x_Cd) (I : am_I) : Prop := ∀ i q, c[i]? = some q → I 27 (z + i) = q.1 ∧ I 28 (z + i) = q.2
/-- the steps below z stay -/
def c_lo (z : Nat) (I I' : am_I) : Prop := ∀ c k, (c = 27 ∨ c = 28) → k < z → I' c k = I c k
theorem c_cd.k {z z' : Nat} {c : x_Cd} {I I' : am_I} (h : c_cd z c I) (e : c_lo z' I I') (hz : z + c.length ≤ z') : c_cd z c I' := fun i q hq => by
  have hl := (List.getElem?_eq_some_iff.mp hq).1
  rw [e 27 _ (by decide) (by omega), e 28 _ (by decide) (by omega)]
  exact h i q hq
theorem c_cd.app {z : Nat} {c c' : x_Cd} {I : am_I} (h : c_cd z c I) (h' : c_cd (z + c.length) c' I) : c_cd z (c ++ c') I := fun i q hq => by
  by_cases hi : i < c.length
  · rw [List.getElem?_append_left hi] at hq
    exact h i q hq
  · rw [List.getElem?_append_right (by omega)] at hq
    have := h' _ q hq
    rwa [show z + c.length + (i - c.length) = z + i by omega] at this
theorem c_cd.one {z : Nat} {I : am_I} {o a : Int32} (h1 : I 27 z = o) (h2 : I 28 z = a) : c_cd z [(o, a)] I := fun i q hq => by
  cases i with
  | zero =>
    have e : (o, a) = q := Option.some.inj hq
    rw [← e]
    exact ⟨h1, h2⟩
  | succ i => exact absurd hq (by simp)
theorem c_lo.trans {z z' : Nat} {I I1 I2 : am_I} (h1 : c_lo z I I1) (h2 : c_lo z' I1 I2) (h : z ≤ z') : c_lo z I I2 := fun c k a b => (h2 c k a (by omega)).trans (h1 c k a b)
theorem c_lo.of {z : Nat} {I I' : am_I} (h : ∀ c k, c ≠ 32 → I' c k = I c k) : c_lo z I I' := fun c k a _ => h c k (by omega)
theorem x_rs_y {r : x_Re} {t : Nat} (h : x_rs r = .inr t) : r = .inr (x_rk r, t) := by
  cases r with
  | inl f => exact absurd h (by simp [x_rs])
  | inr p => obtain ⟨c, t'⟩ := p; rw [show t = t' from (Sum.inr.inj h).symm]; rfl
theorem x_pe_y {K V : Nat → Int32} {st : x_St} {t' : Nat} (h : x_rs (x_pe K V st) = .inr t') : ∃ t, st = .inr t ∧ x_E K V 6 t = .inr (x_rk (x_pe K V st), t') ∧ t + (x_rk (x_pe K V st)).length ≤ t' ∧ t < t' ∧ t' ≤ 400 := by
  cases st with
  | inl f => exact absurd h (by simp [x_pe, x_rs])
  | inr t =>
    have e := x_rs_y h
    have sl := x_E_sl (K := K) (V := V) 6 t
    have to := (x_E_ed (K := K) (V := V) 6 t).2
    have e' : x_E K V 6 t = .inr (x_rk (x_pe K V (.inr t)), t') := e
    rw [e'] at sl to
    exact ⟨t, rfl, e', sl.1, sl.2, to⟩
section ZQ
variable (J : am_J) {K V Pl : Nat → Int32}
theorem c_E (e : Nat) {st : x_St} {s : x_Sl} {z : Nat} {I : am_I} (h : c_at K V Pl st s z I) : ∃ I', f_reader_readSum_0 (e + 7) 1 I J = some (none, I', J) ∧ c_at K V Pl (x_rs (x_pe K V st)) s (z + (x_rk (x_pe K V st)).length) I' ∧ c_cd z (x_rk (x_pe K V st)) I' ∧ (∀ t, x_rs (x_pe K V st) = .inr t → c_lo z I I') ∧ ∀ c k, c ∉ ([26, 27, 28, 32] : List Nat) → I' c k = I c k := by
  cases st with
  | inl f =>
    obtain ⟨f, a⟩ := f
    obtain ⟨h1, h2, h3, q1, q2, q3, ⟨t, q4, q5⟩, z', q6, q7⟩ := h
    have h5 : I 32 5 ≠ 0 := by rw [q2]; rcases q1 with q | q <;> rw [q] <;> decide
    obtain ⟨I', a1, ⟨w, w1, w2, w3⟩, a3⟩ := s_sum_f (e + 6) J h5 q5 q4 q7 q6 1
    have g : ∀ c k, c ≠ 26 → c ≠ 27 → c ≠ 28 → I' c k = I c k := fun c k g1 g2 g3 => a3 c k (x_ne g1) (Or.inl g2) (Or.inl g3)
    refine ⟨I', a1, ⟨(funext fun k => g 8 k (by decide) (by decide) (by decide)).trans h1, (funext fun k => g 9 k (by decide) (by decide) (by decide)).trans h2, (funext fun k => g 10 k (by decide) (by decide) (by decide)).trans h3, q1, (g 32 5 (by decide) (by decide) (by decide)).trans q2, (g 32 6 (by decide) (by decide) (by decide)).trans q3, ⟨t, q4, (g 32 3 (by decide) (by decide) (by decide)).trans q5⟩, w, w2, w3⟩, fun i q hq => absurd hq (by simp [x_pe, x_rk]), fun t w => absurd w (by simp [x_pe, x_rs]), fun c k hc => ?_⟩
    simp only [List.mem_cons, List.not_mem_nil, not_or] at hc
    exact g c k hc.1 hc.2.1 hc.2.2.1
  | inr t =>
    obtain ⟨h1, h2, h3, hx, q2, q3⟩ := h
    obtain ⟨I', a1, a2⟩ := s_E J 6 (Nat.le_refl _) e K V I t z h1 h2 hx
    have to := (x_E_ed (K := K) (V := V) 6 t).2
    refine ⟨I', a1, ?_⟩
    show c_at K V Pl (x_rs (x_E K V 6 t)) s (z + (x_rk (x_E K V 6 t)).length) I' ∧ c_cd z (x_rk (x_E K V 6 t)) I' ∧ (∀ t', x_rs (x_E K V 6 t) = .inr t' → c_lo z I I') ∧ _
    cases hr : x_E K V 6 t with
    | inl f =>
      obtain ⟨f, a⟩ := f
      rw [hr] at a2 to
      obtain ⟨b1, b2, ⟨c1, c2, c3, z', c4, c5, c6⟩, b4⟩ := a2
      have g : ∀ c k, c ∉ ([26, 27, 28, 32] : List Nat) → I' c k = I c k := fun c k hc => by
        simp only [List.mem_cons, List.not_mem_nil, not_or] at hc
        refine b4 c k (fun q => ?_) (Or.inl hc.2.1) (Or.inl hc.2.2.1)
        have := (show ∀ q ∈ x_fc, q.1 = 32 ∨ q.1 = 26 by decide) _ q
        rcases this with w | w
        · exact hc.2.2.2.1 w
        · exact hc.1 w
      exact ⟨⟨(funext fun k => g 8 k (by decide)).trans h1, (funext fun k => g 9 k (by decide)).trans h2, (funext fun k => g 10 k (by decide)).trans h3, to, c1, by rw [c2, h3], c3, z', c5, c6⟩, fun i q hq => absurd hq (by simp [x_rk]), fun t w => absurd w (by simp [x_rs]), g⟩
    | inr p =>
      obtain ⟨c, t'⟩ := p
      rw [hr] at a2
      obtain ⟨b1, b2, b3⟩ := a2
      have g : ∀ c k, c ∉ ([26, 27, 28, 32] : List Nat) → I' c k = I c k := fun c k hc => by
        simp only [List.mem_cons, List.not_mem_nil, not_or] at hc
        refine b2 c k (fun q => ?_) (Or.inl hc.2.1) (Or.inl hc.2.2.1)
        have := (show ∀ q ∈ x_fc, q.1 = 32 ∨ q.1 = 26 by decide) _ q
        rcases this with w | w
        · exact hc.2.2.2.1 w
        · exact hc.1 w
      refine ⟨⟨(funext fun k => g 8 k (by decide)).trans h1, (funext fun k => g 9 k (by decide)).trans h2, (funext fun k => g 10 k (by decide)).trans h3, b1, (b2 32 7 (by decide) (Or.inl (by decide)) (Or.inl (by decide))).trans q2, fun q => (b2 32 8 (by decide) (Or.inl (by decide)) (Or.inl (by decide))).trans (q3 q)⟩, b3, fun _ _ c k hc hk => b2 c k (fun q => ?_) (Or.inr hk) (Or.inr hk), g⟩
      have := (show ∀ q ∈ x_fc, q.1 = 32 ∨ q.1 = 26 by decide) _ q
      have w : c = 32 ∨ c = 26 := this
      omega
/-- a step written -/
theorem c_add (d : Nat) {st : x_St} {s : x_Sl} {z : Nat} {I : am_I} (h : c_at K V Pl st s z I) (hz : ∀ t, st = .inr t → z < t) (o a : Int32) : ∃ y I', f_next_code_add_0 d o a I J = some (some (.int y), I', J) ∧ c_at K V Pl st s (z + 1) I' ∧ (∀ t, st = .inr t → y = nI z ∧ c_cd z [(o, a)] I' ∧ c_lo z I I') ∧ ∀ c k, c ∉ ([26, 27, 28] : List Nat) → I' c k = I c k := by
  cases st with
  | inl f =>
    obtain ⟨f, b⟩ := f
    obtain ⟨h1, h2, h3, q1, q2, q3, q4, z', q6, q7⟩ := h
    obtain ⟨y, I', w, a1, w1, w2, w3, a3⟩ := s_add2 d J q7 q6 o a
    have e1 : f_next_code_add_0 d o a I J = some (some (.int y), I', J) := a1
    have g : ∀ c k, c ∉ ([26, 27, 28] : List Nat) → I' c k = I c k := fun c k hc => by
      simp only [List.mem_cons, List.not_mem_nil, not_or] at hc
      exact a3 c k (x_ne hc.1) (Or.inl hc.2.1) (Or.inl hc.2.2.1)
    exact ⟨y, I', e1, ⟨(funext fun k => g 8 k (by decide)).trans h1, (funext fun k => g 9 k (by decide)).trans h2, (funext fun k => g 10 k (by decide)).trans h3, q1, (g 32 5 (by decide)).trans q2, (g 32 6 (by decide)).trans q3, by rw [g 32 3 (by decide)]; exact q4, w, w2, w3⟩, fun t q => absurd q (by simp), g⟩
  | inr t =>
    have hz' := hz t rfl
    obtain ⟨h1, h2, h3, ⟨x1, x2, x3, x4, x5, x6⟩, q2, q3⟩ := h
    obtain ⟨I', a1, a2, a3, a4, a5⟩ := s_add d J x4 (show z < 400 by omega) o a
    have g : ∀ c k, c ∉ ([26, 27, 28] : List Nat) → I' c k = I c k := fun c k hc => by
      simp only [List.mem_cons, List.not_mem_nil, not_or] at hc
      exact a5 c k (x_ne hc.1) (x_ne hc.2.1) (x_ne hc.2.2.1)
    refine ⟨nI z, I', a1, ⟨(funext fun k => g 8 k (by decide)).trans h1, (funext fun k => g 9 k (by decide)).trans h2, (funext fun k => g 10 k (by decide)).trans h3, ⟨(g 32 3 (by decide)).trans x1, by rw [g 32 4 (by decide), g 8 t (by decide)]; exact x2, (g 32 5 (by decide)).trans x3, a2, x5, by omega, (g 32 6 (by decide)).trans x6.2⟩, (g 32 7 (by decide)).trans q2, fun q => (g 32 8 (by decide)).trans (q3 q)⟩, fun t' _ => ⟨rfl, c_cd.one a3 a4, fun c k hc hk => a5 c k (x_ne (by omega)) (fun q => ?_) (fun q => ?_)⟩, g⟩
    · have := congrArg Prod.snd q
      simp at this
      omega
    · have := congrArg Prod.snd q
      simp at this
      omega
/-- a jump aimed -/
theorem c_aim (d : Nat) {st : x_St} {s : x_Sl} {z : Nat} {I : am_I} (h : c_at K V Pl st s z I) (y : Int32) : ∃ I', f_next_code_aimAtEnd_0 d y I J = some (none, I', J) ∧ c_at K V Pl st s z I' ∧ (∀ t j, st = .inr t → y = nI j → j < z → I' 28 j = nI z ∧ ∀ k, k ≠ j → I' 28 k = I 28 k) ∧ ∀ c k, c ≠ 28 → I' c k = I c k := by
  obtain ⟨z', hz', h4⟩ : ∃ z', z' ≤ 400 ∧ I 26 4 = nI z' := by
    cases st with
    | inl f => obtain ⟨f, a⟩ := f; exact h.2.2.2.2.2.2.2
    | inr t => exact ⟨z, by have := h.2.2.2.1.2.2.2.2.2.1; have := h.2.2.2.1.2.2.2.2.1; omega, h.2.2.2.1.2.2.2.1⟩
  have b := b_next_code_aimAtEnd_0 d y I J
  by_cases q1 : y < 0
  · rw [if_pos q1] at b
    refine ⟨I, b _ rfl, h, fun t j e1 e2 e3 => ?_, fun _ _ _ => rfl⟩
    rw [e1] at h
    have := h.2.2.2.1.2.2.2.2.2.1
    have := h.2.2.2.1.2.2.2.2.1
    rw [e2] at q1
    exact absurd q1 (nI_pos (by omega))
  rw [if_neg q1] at b
  by_cases q2 : I 26 4 ≤ y
  · rw [if_pos q2] at b
    refine ⟨I, b _ rfl, h, fun t j e1 e2 e3 => ?_, fun _ _ _ => rfl⟩
    rw [e1] at h
    have := h.2.2.2.1.2.2.2.2.2.1
    have := h.2.2.2.1.2.2.2.2.1
    rw [e2, h.2.2.2.1.2.2.2.1] at q2
    exact absurd q2 (nI_ge (by omega) (by omega))
  · rw [if_neg q2] at b
    obtain ⟨j, j0, j2⟩ := nI_of q1
    have j1 : j < z' := by
      by_cases w : j < z'
      · exact w
      · exact absurd (show I 26 4 ≤ y by rw [h4, j2]; exact nI_le (by omega) j0) q2
    rw [j2, am_at_n (by omega) (by omega), ← j2] at b
    have u : ∀ c k, c ≠ 28 → (am_upd I 28 j (I 26 4)) c k = I c k := fun c k hc => am_uc hc
    refine ⟨_, b _ rfl, h.k (fun c k hc => u c k (by omega)), fun t i e1 e2 e3 => ?_, u⟩
    rw [e1] at h
    have l1 := h.2.2.2.1.2.2.2.2.2.1
    have l2 := h.2.2.2.1.2.2.2.2.1
    have ij : i = j := (nI_eq (by omega) (by omega)).mp (e2.symm.trans j2)
    subst ij
    exact ⟨by rw [am_ue]; exact h.2.2.2.1.2.2.2.1, fun k hk => am_uk hk⟩
end ZQ

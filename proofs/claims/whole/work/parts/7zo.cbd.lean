/-! the class's statements: names, boards, thinks -/
/-- a board as told: its name's thing, moves, lost -/
abbrev x_Bd : Type := Nat × Int32 × Int32
def x_fd (Sm : Nat → Nat → Bool) (t : Nat) : List x_Bd → Nat → Option Nat
  | [], _ => none
  | q :: l, b => if Sm q.1 t = true then some b else x_fd Sm t l (b + 1)
def x_fv : Option Nat → Int32
  | none => -1
  | some b => nI b
theorem x_fd_lt {Sm : Nat → Nat → Bool} {t : Nat} : ∀ (l : List x_Bd) (b c : Nat), x_fd Sm t l b = some c → b ≤ c ∧ c < b + l.length := by
  intro l
  induction l with
  | nil => intro b c h; exact absurd h (by simp [x_fd])
  | cons q l ih =>
    intro b c h
    unfold x_fd at h
    rw [List.length_cons]
    by_cases w : Sm q.1 t = true
    · rw [if_pos w] at h
      have := Option.some.inj h
      omega
    · rw [if_neg w] at h
      have := ih (b + 1) c h
      omega
/-- the class says whether two things are the same -/
def c_sm (B Pl En K : Nat → Int32) (Sm : Nat → Nat → Bool) : Prop := ∀ (d : Nat) (I : am_I) (J : am_J), I 7 = B → I 10 = Pl → I 11 = En → ∀ i j, i ≤ 400 → j ≤ 400 → x_rc K i → x_rc K j → f_tape_areSame_0 d (nI i) (nI j) I J = some (some (.int (am_tf (Sm i j = true))), I, J)
def c_bd (bs : List x_Bd) (I : am_I) : Prop := bs.length ≤ 6 ∧ I 22 5 = nI bs.length ∧ ∀ b q, bs[b]? = some q → I 33 b = nI q.1 ∧ I 23 b = q.2.1 ∧ I 24 b = q.2.2
theorem c_bd.k {bs : List x_Bd} {I I' : am_I} (h : c_bd bs I) (e : ∀ c k, (c = 33 ∨ c = 23 ∨ c = 24 ∨ (c = 22 ∧ k = 5)) → I' c k = I c k) : c_bd bs I' := ⟨h.1, (e 22 5 (by decide)).trans h.2.1, fun b q hq => by
  rw [e 33 b (Or.inl rfl), e 23 b (Or.inr (Or.inl rfl)), e 24 b (Or.inr (Or.inr (Or.inl rfl)))]
  exact h.2.2 b q hq⟩
theorem x_rc.le {K : Nat → Int32} {t t' : Nat} (h : x_rc K t) (h2 : t' ≤ t) : x_rc K t' := fun j hj => h j (by omega)
section ZO
variable (d : Nat) (J : am_J) {K V Pl B En : Nat → Int32} {Sm : Nat → Nat → Bool} {bs : List x_Bd}
theorem c_find2 {I : am_I} {t : Nat} (hS : c_sm B Pl En K Sm) (h7 : I 7 = B) (h10 : I 10 = Pl) (h11 : I 11 = En) (hb : c_bd bs I) (hn : ∀ q ∈ bs, q.1 ≤ 400 ∧ x_rc K q.1) (ht : t ≤ 400) (hrc : x_rc K t) (h3 : I 32 3 = nI t) : ∀ (l pre : List x_Bd), pre ++ l = bs → f_reader_findName_2 d (nI pre.length) I J = some (some (.int (x_fv (x_fd Sm t l pre.length))), I, J) := by
  intro l
  induction l with
  | nil =>
    intro pre hp
    refine b_reader_findName_2 d _ I J _ ?_
    rw [List.append_nil] at hp
    rw [hb.2.1, hp, if_pos (Int32.le_refl _)]
    rfl
  | cons q l ih =>
    intro pre hp
    have hl : pre.length + (l.length + 1) = bs.length := by rw [← hp, List.length_append, List.length_cons]
    have h6 := hb.1
    have hq : bs[pre.length]? = some q := by rw [← hp]; simp
    have hm : q ∈ bs := by rw [← hp]; simp
    obtain ⟨q1, q2⟩ := hn q hm
    have e := b_reader_findName_2 d (nI pre.length) I J
    rw [hb.2.1, if_neg (nI_ge (by omega) (by omega)), if_neg (show ¬ (6 : Int32) ≤ nI pre.length from nI_ge (b := 6) (by omega) (by omega)), am_at_n (by omega) (by omega), (hb.2.2 _ _ hq).1, h3, hS d I J h7 h10 h11 q.1 t q1 ht q2 hrc, am_bi_i, nI_1] at e
    unfold x_fd
    by_cases w : Sm q.1 t = true
    · rw [if_neg (fun z => am_tf0.mp z w)] at e
      rw [if_pos w]
      exact e _ rfl
    · rw [if_pos (am_tf0.mpr w)] at e
      rw [if_neg w]
      have := ih (pre ++ [q]) (by rw [List.append_assoc]; exact hp)
      rw [List.length_append] at this
      exact e _ this
theorem c_find {I : am_I} {t : Nat} (hS : c_sm B Pl En K Sm) (h7 : I 7 = B) (h10 : I 10 = Pl) (h11 : I 11 = En) (hb : c_bd bs I) (hn : ∀ q ∈ bs, q.1 ≤ 400 ∧ x_rc K q.1) (ht : t ≤ 400) (hrc : x_rc K t) (h3 : I 32 3 = nI t) : f_reader_findName_0 d I J = some (some (.int (x_fv (x_fd Sm t bs 0))), I, J) :=
  b_reader_findName_0 d I J _ (c_find2 d J hS h7 h10 h11 hb hn ht hrc h3 bs [] rfl)
/-- the thing in hand behind a first word -/
theorem c_t1 {st : x_St} {s : x_Sl} {z t : Nat} {I I1 : am_I} {w : Int32} (hw : w ≠ 0) (h : c_at K V Pl (.inr t) s z I) (hrc : x_rc K t) (a2 : c_at K V Pl (x_ps K w (.inr t)) s z I1) (a3 : ∀ f, x_ps K w (.inr t) = .inl f → I1 32 3 = I 32 3) : ∃ t1, t1 ≤ 400 ∧ x_rc K t1 ∧ I1 32 3 = nI t1 ∧ ∀ t', x_ps K w (.inr t) = .inr t' → t' = t + 1 ∧ t1 = t + 1 := by
  cases hx : x_ps K w (.inr t) with
  | inl f =>
    have hx2 := h.2.2.2.1
    exact ⟨t, hx2.2.2.2.2.1, hrc, (a3 f hx).trans hx2.1, fun t' q => absurd q (by simp)⟩
  | inr t' =>
    obtain ⟨t0, e0, e1, e2, e3⟩ := x_ps_y hx
    have e0' : t = t0 := Sum.inr.inj e0
    subst e0'
    rw [hx] at a2
    refine ⟨t + 1, by omega, hrc.s e1 hw, ?_, fun t'' q => ?_⟩
    · rw [a2.2.2.2.1.1, e3]
    · have := Sum.inr.inj q
      omega
theorem c_at.sl {st : x_St} {s s' : x_Sl} {z z' : Nat} {I : am_I} (h : c_at K V Pl st s z I) (e : ∀ t, st = .inr t → s = s' ∧ z = z') : c_at K V Pl st s' z' I := by
  cases st with
  | inl f => exact h
  | inr t =>
    obtain ⟨e1, e2⟩ := e t rfl
    rw [← e1, ← e2]
    exact h
/-- `board NAME INT INT ;` -/
def x_bst (K : Nat → Int32) (t : Nat) : x_St := x_ps K 59 (x_ps K 3 (x_ps K 3 (x_ps K 2 (x_ps K 128 (.inr t)))))
theorem x_bst_y {K : Nat → Int32} {t t' : Nat} (h : x_bst K t = .inr t') : K t = 128 ∧ K (t + 1) = 2 ∧ K (t + 2) = 3 ∧ K (t + 3) = 3 ∧ K (t + 4) = 59 ∧ t' = t + 5 ∧ t + 4 < 400 ∧ x_ps K 128 (.inr t) = .inr (t + 1) ∧ x_ps K 2 (.inr (t + 1)) = .inr (t + 2) ∧ x_ps K 3 (.inr (t + 2)) = .inr (t + 3) ∧ x_ps K 3 (.inr (t + 3)) = .inr (t + 4) := by
  unfold x_bst at h
  obtain ⟨t4, e4, k4, l4, m4⟩ := x_ps_y h
  obtain ⟨t3, e3, k3, l3, m3⟩ := x_ps_y e4
  obtain ⟨t2, e2, k2, l2, m2⟩ := x_ps_y e3
  obtain ⟨t1, e1, k1, l1, m1⟩ := x_ps_y e2
  obtain ⟨t0, e0, k0, l0, m0⟩ := x_ps_y e1
  have e0' : t = t0 := Sum.inr.inj e0
  subst e0' m0 m1 m2 m3
  exact ⟨k0, k1, k2, k3, k4, m4, l4, x_ps_i k0 l0, x_ps_i k1 l1, x_ps_i k2 l2, x_ps_i k3 l3⟩
def x_board (K V : Nat → Int32) (Sm : Nat → Nat → Bool) (bs : List x_Bd) (s : x_Sl) (t : Nat) : x_St × List x_Bd × x_Sl :=
  if bs.length = 6 then (.inl (2, t), bs, s) else (x_bst K t, bs ++ [(t + 1, V (t + 2), V (t + 3))], x_s1 (x_badb (V (t + 3)) 0 999) 5 (t + 3) (x_s1 (x_badb (V (t + 2)) 0 9) 5 (t + 2) (x_s1 (x_fd Sm (t + 1) bs 0).isSome 3 (t + 1) s)))
theorem c_board {s : x_Sl} {z t : Nat} {I : am_I} (h : c_at K V Pl (.inr t) s z I) (hrc : x_rc K t) (hS : c_sm B Pl En K Sm) (h7 : I 7 = B) (h11 : I 11 = En) (hb : c_bd bs I) (hn : ∀ q ∈ bs, q.1 < t) : ∃ I', f_reader_readBoard_0 d I J = some (none, I', J) ∧ c_at K V Pl (x_board K V Sm bs s t).1 (x_board K V Sm bs s t).2.2 z I' ∧ (∀ t', (x_board K V Sm bs s t).1 = .inr t' → c_bd (x_board K V Sm bs s t).2.1 I') ∧ ∀ c k, c ∉ ([23, 24, 32, 33] : List Nat) → (c ≠ 22 ∨ k ≠ 5) → I' c k = I c k := by
  have ht : t ≤ 400 := h.2.2.2.1.2.2.2.2.1
  have h6 := hb.1
  have b := b_reader_readBoard_0 d I J
  unfold x_board
  by_cases q6 : bs.length = 6
  · rw [if_pos q6]
    obtain ⟨I', a1, a2, a3⟩ := c_fail d J h (f := 2) (Or.inr rfl)
    rw [hb.2.1, if_neg (show ¬ nI bs.length < (6 : Int32) by rw [q6]; decide), a1, am_bv_v] at b
    exact ⟨I', b _ rfl, a2, fun t' q => absurd q (by simp), fun c k hc _ => a3 c k (by simp at hc; omega)⟩
  rw [if_neg q6]
  obtain ⟨y1, I1, a1, a2, a3, a4⟩ := c_pass d J h 128
  obtain ⟨t1, g1, g2, g3, g4⟩ := c_t1 (st := .inr t) (by decide) h hrc a2 a3
  have hb1 : c_bd bs I1 := hb.k (fun c k hc => a4 c k (by omega))
  have hn' : ∀ q ∈ bs, q.1 ≤ 400 ∧ x_rc K q.1 := fun q hq => ⟨by have := hn q hq; omega, hrc.le (by have := hn q hq; omega)⟩
  have f1 := c_find d J hS ((funext fun k => a4 7 k (by decide)).trans h7) a2.2.2.1 ((funext fun k => a4 11 k (by decide)).trans h11) hb1 hn' g1 g2 g3
  rw [hb.2.1, if_pos (show nI bs.length < (6 : Int32) from nI_lt (b := 6) (by omega) (by omega)), a1, am_bi_i, f1, am_bi_i] at b
  -- the slip
  have step2 : ∃ I2, (∀ k : am_I → am_Out, (if x_fv (x_fd Sm t1 bs 0) = -1 then k I1 else am_bv (f_reader_noteSlip_0 d 3 (I1 32 3) I1 J) (fun I _ => k I)) = k I2) ∧ c_at K V Pl (x_ps K 128 (.inr t)) (x_s1 (x_fd Sm t1 bs 0).isSome 3 t1 s) z I2 ∧ ∀ c k, c ≠ 32 → I2 c k = I1 c k := by
    cases hf : x_fd Sm t1 bs 0 with
    | none =>
      refine ⟨I1, fun k => if_pos rfl, ?_, fun _ _ _ => rfl⟩
      unfold x_s1
      rw [if_neg (fun q => absurd q.1 (by simp))]
      exact a2
    | some c =>
      have hc := x_fd_lt _ _ _ hf
      obtain ⟨I2, e1, e2, e3⟩ := c_slip d J a2 (f := 3) (tok := t1) (by omega) (by decide)
      refine ⟨I2, fun k => ?_, e2, e3⟩
      rw [if_neg (show ¬ x_fv (some c) = -1 from fun q => (nI_pos (n := c) (by omega)) (by rw [show nI c = -1 from q]; decide)), g3, e1, am_bv_v]
  obtain ⟨I2, k2, e2, e3⟩ := step2
  obtain ⟨I3, i3⟩ : ∃ I3, I3 = am_upd I2 33 bs.length (I2 32 3) := ⟨_, rfl⟩
  have c3 : c_at K V Pl (x_ps K 128 (.inr t)) (x_s1 (x_fd Sm t1 bs 0).isSome 3 t1 s) z I3 := by rw [i3]; exact e2.u (by decide)
  obtain ⟨y4, I4, p1, p2, _, p3⟩ := c_pass d J c3 2
  obtain ⟨y5, I5, r1, r2, r3, r4⟩ := c_rint d J p2 0 9
  obtain ⟨I6, i6⟩ : ∃ I6, I6 = am_upd I5 23 bs.length y5 := ⟨_, rfl⟩
  have c6 := r2.u (c0 := 23) (k0 := bs.length) (v := y5) (by decide)
  rw [← i6] at c6
  obtain ⟨y7, I7, u1, u2, u3, u4⟩ := c_rint d J c6 0 999
  obtain ⟨I8, i8⟩ : ∃ I8, I8 = am_upd I7 24 bs.length y7 := ⟨_, rfl⟩
  have c8 := u2.u (c0 := 24) (k0 := bs.length) (v := y7) (by decide)
  rw [← i8] at c8
  obtain ⟨y9, I9, v1, v2, _, v3⟩ := c_pass d J c8 59
  have fr : ∀ c k, c ∉ ([23, 24, 32, 33] : List Nat) → I9 c k = I c k := fun c k hc => by
    simp only [List.mem_cons, List.not_mem_nil, not_or] at hc
    rw [v3 c k hc.2.2.1, i8, am_uc hc.2.1, u4 c k hc.2.2.1, i6, am_uc hc.1, r4 c k hc.2.2.1, p3 c k hc.2.2.1, i3, am_uc hc.2.2.2.1, e3 c k hc.2.2.1, a4 c k hc.2.2.1]
  have h5 : I9 22 5 = nI bs.length := (fr 22 5 (by decide)).trans hb.2.1
  have run : f_reader_readBoard_0 d I J = some (none, am_upd I9 22 5 (nI (bs.length + 1)), J) := by
    refine b _ ?_
    have := k2 (fun I => am_at (nI bs.length) 6 (fun j7 => am_bi (f_reader_pass_0 d 2 (am_upd I 33 j7 (I 32 3)) J) (fun y10 I8 J9 => am_bi (f_reader_readInt_0 d 0 9 I8 J9) (fun y13 I11 J12 => am_at (nI bs.length) 6 (fun j14 => am_bi (f_reader_readInt_0 d 0 999 (am_upd I11 23 j14 y13) J12) (fun y17 I15 J16 => am_at (nI bs.length) 6 (fun j18 => am_bi (f_reader_pass_0 d 59 (am_upd I15 24 j18 y17) J16) (fun y21 I19 J20 => some (none, am_upd I19 22 5 ((I19 22 5) + 1), J20))) none)) none))) none)
    have e0 : ∀ (I4 : am_I), am_bv (f_reader_noteSlip_0 d 3 (I1 32 3) I1 J) (fun I22 J23 => am_at (nI bs.length) 6 (fun j7 => am_bi (f_reader_pass_0 d 2 (am_upd I22 33 j7 (I22 32 3)) J23) (fun y10 I8 J9 => am_bi (f_reader_readInt_0 d 0 9 I8 J9) (fun y13 I11 J12 => am_at (nI bs.length) 6 (fun j14 => am_bi (f_reader_readInt_0 d 0 999 (am_upd I11 23 j14 y13) J12) (fun y17 I15 J16 => am_at (nI bs.length) 6 (fun j18 => am_bi (f_reader_pass_0 d 59 (am_upd I15 24 j18 y17) J16) (fun y21 I19 J20 => some (none, am_upd I19 22 5 ((I19 22 5) + 1), J20))) none)) none))) none) = am_bv (f_reader_noteSlip_0 d 3 (I1 32 3) I1 J) (fun I22 _ => am_at (nI bs.length) 6 (fun j7 => am_bi (f_reader_pass_0 d 2 (am_upd I22 33 j7 (I22 32 3)) J) (fun y10 I8 J9 => am_bi (f_reader_readInt_0 d 0 9 I8 J9) (fun y13 I11 J12 => am_at (nI bs.length) 6 (fun j14 => am_bi (f_reader_readInt_0 d 0 999 (am_upd I11 23 j14 y13) J12) (fun y17 I15 J16 => am_at (nI bs.length) 6 (fun j18 => am_bi (f_reader_pass_0 d 59 (am_upd I15 24 j18 y17) J16) (fun y21 I19 J20 => some (none, am_upd I19 22 5 ((I19 22 5) + 1), J20))) none)) none))) none) := fun _ => by
      rw [g3]
      obtain ⟨Is, s1, _, _⟩ := c_slip d J a2 (f := 3) (tok := t1) (by omega) (by decide)
      rw [s1, am_bv_v, am_bv_v]
    rw [e0 I1]
    refine this.trans ?_
    show am_at (nI bs.length) 6 _ none = _
    rw [am_at_n (by omega) (by omega), ← i3, p1, am_bi_i, r1, am_bi_i, am_at_n (by omega) (by omega), ← i6, u1, am_bi_i, am_at_n (by omega) (by omega), ← i8, v1, am_bi_i, h5, nI_1]
  refine ⟨_, run, ?_, fun t' hx => ?_, fun c k hc h2 => ?_⟩
  · refine (v2.u (c0 := 22) (k0 := 5) (by decide)).sl (fun t' hx => ⟨?_, rfl⟩)
    obtain ⟨k0, k1, k2', k3, k4, k5, k6, w0, w1, w2, w3⟩ := x_bst_y hx
    have := (g4 _ w0).2
    rw [w0, w1, w2]
    simp only [x_tn]
    rw [this]
  · obtain ⟨k0, k1, k2', k3, k4, k5, k6, w0, w1, w2, w3⟩ := x_bst_y hx
    have e5 : y5 = V (t + 2) := by
      have := r3 (t + 3) (by rw [w0, w1, w2])
      rw [this, w0, w1]
      rfl
    have e7 : y7 = V (t + 3) := by
      have := u3 (t + 4) (by rw [w0, w1, w2, w3])
      rw [this, w0, w1, w2]
      rfl
    have e33 : I2 32 3 = nI (t + 1) := by
      rw [w0] at e2
      exact e2.2.2.2.1.1
    refine ⟨by rw [List.length_append]; simp; omega, by rw [am_ue, List.length_append]; rfl, fun c q hq => ?_⟩
    rw [am_uc (by decide), am_uc (by decide), am_uc (by decide), v3 33 c (by decide), v3 23 c (by decide), v3 24 c (by decide)]
    by_cases hc : c < bs.length
    · rw [List.getElem?_append_left hc] at hq
      have o := hb.2.2 c q hq
      have nc : c ≠ bs.length := by omega
      rw [i8, am_uc (by decide), am_uc (by decide), am_uk nc, u4 33 c (by decide), u4 23 c (by decide), u4 24 c (by decide), i6, am_uc (by decide), am_uk nc, am_uc (by decide), r4 33 c (by decide), r4 23 c (by decide), r4 24 c (by decide), p3 33 c (by decide), p3 23 c (by decide), p3 24 c (by decide), i3, am_uk nc, am_uc (by decide), am_uc (by decide), e3 33 c (by decide), e3 23 c (by decide), e3 24 c (by decide), a4 33 c (by decide), a4 23 c (by decide), a4 24 c (by decide)]
      exact o
    · rw [List.getElem?_append_right (by omega)] at hq
      have hc2 : c = bs.length := by
        have hl := (List.getElem?_eq_some_iff.mp hq).1
        simp at hl
        omega
      subst hc2
      rw [Nat.sub_self] at hq
      have eq : (t + 1, V (t + 2), V (t + 3)) = q := Option.some.inj hq
      rw [← eq]
      refine ⟨?_, ?_, ?_⟩
      · rw [i8, am_uc (by decide), u4 33 _ (by decide), i6, am_uc (by decide), r4 33 _ (by decide), p3 33 _ (by decide), i3, am_ue, e33]
      · rw [i8, am_uc (by decide), u4 23 _ (by decide), i6, am_ue, e5]
      · rw [i8, am_ue, e7]
  · rw [show am_upd I9 22 5 (nI (bs.length + 1)) c k = I9 c k from h2.elim am_uc am_uk]
    exact fr c k hc
end ZO

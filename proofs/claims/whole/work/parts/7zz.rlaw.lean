/-! the reference's `worth NAME LAW ;` -/
def r_lw (sd : Nat) (laws : Nat → Option x_Law) (z nb : Nat) (I : am_I) : Prop := ∀ i, i < 18 → match laws i with
  | none => I 85 (18 * sd + i) = I 86 (18 * sd + i)
  | some L => ∃ nb0, I 85 (18 * sd + i) = nI nb0 ∧ I 86 (18 * sd + i) = nI (nb0 + L.1.length + 1) ∧ 130 * sd ≤ nb0 ∧ nb0 + L.1.length + 1 ≤ nb ∧ (∀ j b, L.1[j]? = some b → r_br sd (nb0 + j) z b I) ∧ r_lst sd (nb0 + L.1.length) z L.2 I
theorem r_lw.k {sd : Nat} {laws : Nat → Option x_Law} {z z' nb nb' : Nat} {I I' : am_I} (h : r_lw sd laws z nb I) (e : ∀ c k, (c = 85 ∨ c = 86) → I' c k = I c k) (l : r_lo sd z I I') (b : r_bl nb I I') (hz : z ≤ z') (hb : nb ≤ nb') : r_lw sd laws z' nb' I' := fun i hi => by
  have q := h i hi
  cases hl : laws i with
  | none => rw [hl] at q; exact (e 85 _ (Or.inl rfl)).trans (q.trans (e 86 _ (Or.inr rfl)).symm)
  | some L =>
    rw [hl] at q
    obtain ⟨nb0, q1, q2, q3, q4, q5, q6⟩ := q
    exact ⟨nb0, (e 85 _ (Or.inl rfl)).trans q1, (e 86 _ (Or.inr rfl)).trans q2, q3, Nat.le_trans q4 hb, fun j b' hj => (q5 j b' hj).k l b (by have := (List.getElem?_eq_some_iff.mp hj).1; omega) hz, q6.k l b (by omega) hz⟩
theorem x_ifs_len {K V : Nat → Int32} : ∀ (n : Nat) (a : List x_Br) (t t' : Nat), (x_ifs K V n a t).1 = .inr t' → t + 7 * (x_ifs K V n a t).2.1.length + 2 ≤ t' + 7 * a.length := by
  have fin : ∀ (t t' : Nat), x_ps K 59 (x_rs (x_E K V 6 t)) = .inr t' → t + 2 ≤ t' := fun t t' h => (x_ps_up (x_pe_up (V := V) (K := K) (x_up.i t))) t' h
  intro n
  induction n with
  | zero =>
    intro a t t' h
    unfold x_ifs at h ⊢
    by_cases q : K t = 136
    · rw [if_pos q] at h; exact absurd h (by simp)
    · rw [if_neg q] at h ⊢
      have := fin t t' h
      show t + 7 * a.length + 2 ≤ t' + 7 * a.length
      omega
  | succ n ih =>
    intro a t t' h
    unfold x_ifs at h ⊢
    by_cases q : K t = 136
    · rw [if_pos q] at h ⊢
      have u : x_up (t + 7) (x_ps K 138 (x_rs (x_r3 K V t))) := x_ps_up (x_pe_up (x_ps_up (x_pe_up (x_ps_up (x_pe_up (x_ps_up (x_up.i t)))))))
      cases hx : x_ps K 138 (x_rs (x_r3 K V t)) with
      | inl f => rw [hx] at h; exact absurd h (by simp)
      | inr t1 =>
        rw [hx] at h
        have h1 := ih (a ++ [x_br K V t]) t1 t' h
        rw [List.length_append] at h1
        have h2 := u t1 hx
        simp only [List.length_cons, List.length_nil] at h1
        show t + 7 * (x_ifs K V n (a ++ [x_br K V t]) t1).2.1.length + 2 ≤ t' + 7 * a.length
        omega
    · rw [if_neg q] at h ⊢
      have := fin t t' h
      show t + 7 * a.length + 2 ≤ t' + 7 * a.length
      omega
section ZZ
variable (d : Nat) (J : am_J) {K V Pl : Nat → Int32} {Sm : Nat → Nat → Bool} {sd : Nat} {bs : List x_Bd}
theorem r_known21 (hP : ∀ i j, i < j → j ≤ 400 → x_rc K j → Pl i < Pl j) (hS : r_sm K Sm J) {z nb tok : Nat} {s : x_Sl} {I : am_I} (hn : ∀ q ∈ bs, q.1 < tok ∧ K q.1 = 2) (hK : K tok = 2) (h : r_at K V Pl sd (.inr (tok + 1)) s z nb I) (hb : r_bd sd bs I J) (hs : s.1 = 0 ∨ s.2 < tok) : ∀ (l pre : List x_Bd), pre ++ l = bs → ∃ I', f_m_known_21 d (nI tok) (nI pre.length) I J = some (some (.int (x_fv (x_fd Sm tok l pre.length))), I', J) ∧ r_at K V Pl sd (.inr (tok + 1)) (x_s1 (x_fd Sm tok l pre.length).isNone 4 tok s) z nb I' ∧ r_fr I I' := by
  intro l
  induction l with
  | nil =>
    intro pre hp
    rw [List.append_nil] at hp
    obtain ⟨I1, a1, a2, a3⟩ := r_wrong d J hP h (f := 4) (by decide) (Nat.lt_succ_self tok) (hs.imp id Or.inl)
    refine ⟨I1, b_m_known_21 d _ _ I J _ ?_, a2, a3⟩
    rw [hb.2.2.1, hp, if_pos (Int32.le_refl _), a1, am_bv_v]
    rfl
  | cons q l ih =>
    intro pre hp
    have hl : pre.length + (l.length + 1) = bs.length := by rw [← hp, List.length_append, List.length_cons]
    have h6 := hb.1
    have hq : bs[pre.length]? = some q := by rw [← hp]; simp
    have hm : q ∈ bs := by rw [← hp]; simp
    obtain ⟨hn1, hn2⟩ := hn q hm
    have q2 := h.2.2.2.2.2.1
    have q5 := h.2.2.2.2.2.2.2.2.1
    have iff := hS q.1 tok (by omega) (by omega) (q5.le (by omega)) (q5.le (by omega)) hn2 hK
    have e := b_m_known_21 d (nI tok) (nI pre.length) I J
    rw [hb.2.2.1, if_neg (nI_ge (by omega) (by omega)), am_at_n (by omega) (by omega), am_at_n (by omega) (by omega), (hb.2.2.2 _ _ hq).1, nI_1] at e
    by_cases w : Sm q.1 tok = true
    · rw [if_pos ((lg_cmp_eq _ _).mpr (iff.mpr w))] at e
      have e2 : x_fd Sm tok (q :: l) pre.length = some pre.length := by unfold x_fd; rw [if_pos w]
      rw [e2]
      refine ⟨I, e _ rfl, ?_, r_fr.refl I⟩
      unfold x_s1
      rw [if_neg (fun q => absurd q.1 (by simp))]
      exact h
    · rw [if_neg (fun x => w (iff.mp ((lg_cmp_eq _ _).mp x)))] at e
      obtain ⟨I2, b1, b2⟩ := ih (pre ++ [q]) (by rw [List.append_assoc]; exact hp)
      have len : (pre ++ [q]).length = pre.length + 1 := by simp
      rw [len] at b1 b2
      have e2 : x_fd Sm tok (q :: l) pre.length = x_fd Sm tok l (pre.length + 1) := by
        show (if Sm q.1 tok = true then some pre.length else x_fd Sm tok l (pre.length + 1)) = _
        rw [if_neg w]
      rw [e2]
      exact ⟨I2, e _ b1, b2⟩
theorem r_known (hP : ∀ i j, i < j → j ≤ 400 → x_rc K j → Pl i < Pl j) (hS : r_sm K Sm J) {z nb t : Nat} {s : x_Sl} {I0 I : am_I} {w : Int32} (hn : ∀ q ∈ bs, q.1 < t ∧ K q.1 = 2) (h0 : r_at K V Pl sd (.inr t) s z nb I0) (h : r_at K V Pl sd (x_ps K w (.inr t)) s z nb I) (hb : r_bd sd bs I J) : ∃ y I', f_m_known_0 d I J = some (some (.int y), I', J) ∧ r_at K V Pl sd (x_ps K 2 (x_ps K w (.inr t))) (x_s1 (x_fd Sm (t + 1) bs 0).isNone 4 (t + 1) s) z nb I' ∧ (∀ t', x_ps K 2 (x_ps K w (.inr t)) = .inr t' → y = x_fv (x_fd Sm (t + 1) bs 0)) ∧ (∀ f, x_ps K 2 (x_ps K w (.inr t)) = .inl f → y = -1) ∧ r_fr I I' := by
  obtain ⟨I1, a1, a2, a3⟩ := r_must d J h (w := 2) (w' := 1) (by decide) (by decide) (by decide)
  have b := b_m_known_0 d I J
  rw [a1, am_bv_v] at b
  cases hx : x_ps K 2 (x_ps K w (.inr t)) with
  | inl f =>
    rw [hx] at a2
    rw [if_neg (Int32.not_le.mpr a2.dead)] at b
    exact ⟨-1, I1, b _ rfl, a2.sl (fun t w => absurd w (by simp)), fun t' w => absurd w (by simp), fun _ _ => rfl, a3⟩
  | inr t2 =>
    obtain ⟨t1, u1, v1, w1, z1⟩ := x_ps_y hx
    obtain ⟨t0, u0, v0, w0, z0⟩ := x_ps_y u1
    have e0 : t = t0 := Sum.inr.inj u0
    subst e0
    subst z0
    rw [hx, z1] at a2
    rw [u1] at h
    rw [if_pos (show I1 68 13 ≤ 0 by rw [a2.2.2.2.2.2.2.1]; decide), h.2.2.2.2.1] at b
    obtain ⟨I2, c1, c2, c3⟩ := r_known21 d J hP hS (fun q hq => ⟨by have := (hn q hq).1; omega, (hn q hq).2⟩) v1 a2 (a3.bd hb) (by
      by_cases w : s.1 = 0
      · exact Or.inl w
      · have := (h0.2.2.2.2.2.2.2.2.2.2.1 w).2
        exact Or.inr (by omega)) bs [] rfl
    rw [z1]
    exact ⟨_, I2, b _ c1, c2, fun _ _ => rfl, fun f w => absurd w (by simp), a3.trans c3⟩
/-- the law's own part -/
theorem r_tellLaw (hsd : sd < 2) {st : x_St} {s : x_Sl} {z nb : Nat} {o : Option Nat} {I : am_I} (ho : ∀ i, o = some i → i < 18) (h : r_at K V Pl sd st s z nb I) (hz : ∀ t, st = .inr t → z ≤ 420 * sd + t) (hz0 : 420 * sd ≤ z) (hnb : nb < 255) : ∃ I' z' nb', f_m_tellLaw_0 d (x_ix o) I J = some (none, I', J) ∧ (∀ f, x_ps K 61 st = .inl f → r_at K V Pl sd (.inl f) s z' nb' I') ∧ (∀ t1, x_ps K 61 st = .inr t1 → r_at K V Pl sd (x_ifs K V 4 [] t1).1 s z' nb' I' ∧ ∀ t', (x_ifs K V 4 [] t1).1 = .inr t' → z ≤ z' ∧ z' ≤ 420 * sd + t' ∧ nb' = nb + (x_ifs K V 4 [] t1).2.1.length + 1 ∧ r_lst sd (nb + (x_ifs K V 4 [] t1).2.1.length) z' (x_ifs K V 4 [] t1).2.2 I' ∧ (∀ j b, (x_ifs K V 4 [] t1).2.1[j]? = some b → r_br sd (nb + j) z' b I') ∧ ∀ i, I' 85 (18 * sd + i) = x_or o i (nI nb) (I 85 (18 * sd + i)) ∧ I' 86 (18 * sd + i) = x_or o i (nI nb') (I 86 (18 * sd + i))) ∧ nb' ≤ nb + 5 ∧ r_lo sd z I I' ∧ ∀ c k, r_lf nb 4 c k → ((c ≠ 85 ∧ c ≠ 86) ∨ k < 18 * sd ∨ 18 * sd + 18 ≤ k) → I' c k = I c k := by
  obtain ⟨I1, a1, a2, a3⟩ := r_must d J h (w := 61) (w' := 5) (by decide) (by decide) (by decide)
  have b := b_m_tellLaw_0 d (x_ix o) I J
  have h32 : I1 68 32 = nI nb := a2.2.2.2.1
  rw [a1, am_bv_v, h32] at b
  cases hx : x_ps K 61 st with
  | inl f =>
    rw [hx] at a2
    obtain ⟨I2, b1, b2, b3, b4, b5⟩ := r_ifs_end d J (nb0 := nb) (m := 0) hsd (show nb < 260 by omega) ho a2 (fun t w => absurd w (by simp)) hz0 (Or.inl ⟨f, rfl⟩)
    refine ⟨I2, z, nb + 1, b _ b1, fun g e => ?_, fun t1 w => absurd w (by simp), by omega, fun c k hc hk => (b4 c k hc hk).trans (a3.n (by omega) k), fun c k hk hk2 => (b5 c k (hk.le (by omega) (by omega)) hk2).trans (a3 c k hk.1)⟩
    rw [← Sum.inl.inj e]
    have b2' : r_at K V Pl sd (.inl f) s (z + (x_rk (x_pe K V (.inl f))).length) (nb + 1) I2 := b2
    exact b2'.sl (fun t w => absurd w (by simp))
  | inr t1 =>
    rw [hx] at a2
    obtain ⟨t0, e0, _, _, m0⟩ := x_ps_y hx
    have := hz t0 e0
    obtain ⟨I2, z', nb', b1, b2, b3, b4, b5, b6⟩ := r_ifsL d J hsd 4 0 [] nb nb z t1 s o I1 rfl ho a2 (by omega) hz0 (by omega) rfl (fun j b hj => absurd hj (by simp))
    have e85 : ∀ k, I1 85 k = I 85 k := fun k => a3.n (by decide) k
    have e86 : ∀ k, I1 86 k = I 86 k := fun k => a3.n (by decide) k
    refine ⟨I2, z', nb', b _ b1, fun f w => absurd w (by simp), fun t1' e => ?_, by omega, fun c k hc hk => (b5 c k hc hk).trans (a3.n (by omega) k), fun c k hk hk2 => (b6 c k hk hk2).trans (a3 c k hk.1)⟩
    rw [← Sum.inr.inj e]
    refine ⟨b2, fun t' ht => ?_⟩
    obtain ⟨w1, w2, w3, w4, w5, w6⟩ := b4 t' ht
    refine ⟨w1, w2, w3, w4, w5, fun i => ?_⟩
    have := w6 i
    rw [e85, e86] at this
    exact this
def r_rf (sd c k : Nat) : Prop := (c ≠ 68 ∨ k ∉ 20 :: r_sl) ∧ c ≠ 94 ∧ ((c ≠ 77 ∧ c ≠ 80 ∧ c ≠ 82 ∧ c ≠ 83 ∧ c ≠ 84) ∨ k ≠ sd) ∧ ((c ≠ 78 ∧ c ≠ 79) ∨ k < 6 * sd ∨ 6 * sd + 6 ≤ k) ∧ (c ≠ 81 ∨ k < 4 * sd ∨ 4 * sd + 4 ≤ k) ∧ ((c ≠ 85 ∧ c ≠ 86) ∨ k < 18 * sd ∨ 18 * sd + 18 ≤ k) ∧ ((c ≠ 87 ∧ c ≠ 88 ∧ c ≠ 89 ∧ c ≠ 90 ∧ c ≠ 91) ∨ k < 130 * sd ∨ 130 * sd + 130 ≤ k) ∧ ((c ≠ 92 ∧ c ≠ 93) ∨ k < 420 * sd ∨ 420 * sd + 420 ≤ k)
theorem r_rf.sl {sd c k : Nat} (h : r_rf sd c k) : c ≠ 68 ∨ k ∉ r_sl := h.1.imp id (fun q w => q (List.mem_cons_of_mem _ w))
/-- `worth NAME LAW ;` -/
theorem r_law (hP : ∀ i j, i < j → j ≤ 400 → x_rc K j → Pl i < Pl j) (hS : r_sm K Sm J) (hsd : sd < 2) {s : x_Sl} {z nb t kk : Nat} {w : Int32} {I : am_I} {laws : Nat → Option x_Law} (hw : w = 129 + nI kk) (hkk : kk < 3) (hK : K t = w) (h : r_at K V Pl sd (.inr t) s z nb I) (hb : r_bd sd bs I J) (hn : ∀ q ∈ bs, q.1 < t ∧ K q.1 = 2) (hl : r_lw sd laws z nb I) (hz : z ≤ 420 * sd + t) (hz0 : 420 * sd ≤ z) (hnb : 130 * sd ≤ nb) (hnb2 : 5 * nb ≤ 650 * sd + t) : ∃ I' z' nb', am_bv (f_m_goesOn_0 d I J) (fun I10 J11 => am_bi (f_m_known_0 d I10 J11) (fun y14 I12 J13 => if 0 ≤ y14 then am_bv (f_m_tellLaw_0 d ((6 * ((I 71 t) - 21)) + y14) I12 J13) (fun I15 J16 => some (none, I15, J16)) else am_bv (f_m_tellLaw_0 d (-1) I12 J13) (fun I17 J18 => some (none, I17, J18)))) = some (none, I', J) ∧ r_at K V Pl sd (x_law K V Sm bs w s t).1 (x_law K V Sm bs w s t).2.2.2 z' nb' I' ∧ (∀ t', (x_law K V Sm bs w s t).1 = .inr t' → r_lw sd (x_ins laws kk (x_law K V Sm bs w s t).2.2.1 (x_law K V Sm bs w s t).2.1) z' nb' I' ∧ z' ≤ 420 * sd + t' ∧ 420 * sd ≤ z' ∧ 130 * sd ≤ nb' ∧ 5 * nb' ≤ 650 * sd + t') ∧ (∀ c k, (c ≠ 68 ∨ k ∉ r_sl) → (c < 85 ∨ 94 < c) → I' c k = I c k) ∧ ∀ c k, r_rf sd c k → I' c k = I c k := by
  have ht := h.2.2.2.2.2.1
  have hw0 : w ≠ 0 ∧ w ∈ x_ks ∧ 6 * (m_kd w - 21) = nI (6 * kk) := by
    rw [hw]
    rcases (show kk = 0 ∨ kk = 1 ∨ kk = 2 by omega) with rfl | rfl | rfl <;> decide
  obtain ⟨_, k71, _⟩ := h.1 t ht h.2.2.2.2.2.2.2.2.1
  obtain ⟨I1, a1, a2, a3⟩ := r_goes d J h hw0.1 hK
  obtain ⟨y, I2, b1, b2, b3, b4, b5⟩ := r_known d J hP hS hn h a2 (a3.bd hb)
  have frA : ∀ c k, (c ≠ 68 ∨ k ∉ r_sl) → I2 c k = I c k := fun c k hk => (b5 c k hk).trans (a3 c k hk)
  have hsl := hb.1
  obtain ⟨o, ho, hix, hoi⟩ : ∃ o : Option Nat, (∀ i, o = some i → i < 18) ∧ (∀ r, f_m_tellLaw_0 d (x_ix o) I2 J = some (none, r) → (if 0 ≤ y then am_bv (f_m_tellLaw_0 d ((6 * ((I 71 t) - 21)) + y) I2 J) (fun I15 J16 => some (none, I15, J16)) else am_bv (f_m_tellLaw_0 d (-1) I2 J) (fun I17 J18 => some (none, I17, J18)) : am_Out) = some (none, r)) ∧ ∀ t', x_ps K 2 (x_ps K w (.inr t)) = .inr t' → o = (x_fd Sm (t + 1) bs 0).map (fun b => 6 * kk + b) := by
    have no : ∀ r, y = -1 → f_m_tellLaw_0 d (x_ix none) I2 J = some (none, r) → (if 0 ≤ y then am_bv (f_m_tellLaw_0 d ((6 * ((I 71 t) - 21)) + y) I2 J) (fun I15 J16 => some (none, I15, J16)) else am_bv (f_m_tellLaw_0 d (-1) I2 J) (fun I17 J18 => some (none, I17, J18)) : am_Out) = some (none, r) := fun r hy hr => by
      have hr' : f_m_tellLaw_0 d (-1) I2 J = some (none, r) := hr
      rw [hy, if_neg (by decide), hr']
      obtain ⟨r1, r2⟩ := r
      rw [am_bv_v]
    cases hx : x_ps K 2 (x_ps K w (.inr t)) with
    | inl f => exact ⟨none, fun i q => absurd q (by simp), fun r hr => no r (b4 f hx) hr, fun t' q => absurd q (by simp)⟩
    | inr t2 =>
      have hy := b3 t2 hx
      cases hf : x_fd Sm (t + 1) bs 0 with
      | none =>
        rw [hf] at hy
        exact ⟨none, fun i q => absurd q (by simp), fun r hr => no r hy hr, fun _ _ => rfl⟩
      | some c =>
        rw [hf] at hy
        have hc := x_fd_lt _ _ _ hf
        refine ⟨some (6 * kk + c), fun i q => by have := Option.some.inj q; omega, fun r hr => ?_, fun _ _ => rfl⟩
        have hr' : f_m_tellLaw_0 d (nI (6 * kk + c)) I2 J = some (none, r) := hr
        rw [show y = nI c from hy, if_pos (nI_pos' (by omega)), k71, hK, hw0.2.2, nI_add, hr']
        obtain ⟨r1, r2⟩ := r
        rw [am_bv_v]
  have hz2 : ∀ t2, x_ps K 2 (x_ps K w (.inr t)) = .inr t2 → z ≤ 420 * sd + t2 := fun t2 e => by
    have := x_ps_up (x_ps_up (K := K) (w := w) (x_up.i t)) (w := 2) (K := K) t2 e
    omega
  obtain ⟨I3, z', nb', c1, c2, c3, c4, c5, c6⟩ := r_tellLaw d J hsd ho b2 hz2 hz0 (show nb < 255 by omega)
  have frame : ∀ c k, r_rf sd c k → I3 c k = I c k := fun c k hk => by
    obtain ⟨r1, r2, r3, r4, r5, r6, r7, r8⟩ := hk
    have hk' : r_rf sd c k := ⟨r1, r2, r3, r4, r5, r6, r7, r8⟩
    by_cases hc : c = 92 ∨ c = 93
    · rw [c5 c k hc (by omega)]
      exact frA c k hk'.sl
    · rw [c6 c k ⟨hk'.sl, by simp; omega, by omega⟩ (by omega)]
      exact frA c k hk'.sl
  have frame2 : ∀ c k, (c ≠ 68 ∨ k ∉ r_sl) → (c < 85 ∨ 94 < c) → I3 c k = I c k := fun c k g1 g2 => (c6 c k ⟨g1, by simp; omega, by omega⟩ (by omega)).trans (frA c k g1)
  refine ⟨I3, z', nb', by rw [a1, am_bv_v, b1, am_bi_i]; exact hix _ c1, ?_⟩
  unfold x_law
  have hst : x_lst K w t = x_ps K 61 (x_ps K 2 (x_ps K w (.inr t))) := rfl
  cases hx : x_lst K w t with
  | inl f =>
    rw [hst] at hx
    exact ⟨(c2 f hx).sl (fun t w => absurd w (by simp)), fun t' w => absurd w (by simp), frame2, frame⟩
  | inr t3 =>
    rw [hst] at hx
    obtain ⟨c31, c32⟩ := c3 t3 hx
    have hx' := hx
    obtain ⟨t2, u2, _, _, m2⟩ := x_ps_y hx
    have hoo := hoi t2 u2
    obtain ⟨t1, u1, _, _, m1⟩ := x_ps_y u2
    obtain ⟨t0, u0, _, _, m0⟩ := x_ps_y u1
    have e0 : t = t0 := Sum.inr.inj u0
    refine ⟨c31, fun t' ht' => ?_, frame2, frame⟩
    obtain ⟨w1, w2, w3, w4, w5, w6⟩ := c32 t' ht'
    have len := x_ifs_len 4 [] t3 t' ht'
    have len0 : t3 + 7 * (x_ifs K V 4 [] t3).2.1.length + 2 ≤ t' := len
    refine ⟨fun i hi => ?_, w2, by omega, by omega, by omega⟩
    have ho : match laws i with
      | none => I 85 (18 * sd + i) = I 86 (18 * sd + i)
      | some L => ∃ nb0, I 85 (18 * sd + i) = nI nb0 ∧ I 86 (18 * sd + i) = nI (nb0 + L.1.length + 1) ∧ 130 * sd ≤ nb0 ∧ nb0 + L.1.length + 1 ≤ nb ∧ (∀ j b, L.1[j]? = some b → r_br sd (nb0 + j) z b I) ∧ r_lst sd (nb0 + L.1.length) z L.2 I := hl i hi
    have lo : r_lo sd z I I3 := fun c k hc hk => (c5 c k hc hk).trans (frA c k (Or.inl (by omega)))
    have bl : r_bl nb I I3 := fun c k hc hk => (c6 c k ⟨Or.inl (by omega), by simp; omega, Or.inr (Or.inl hk)⟩ (Or.inl (by omega))).trans (frA c k (Or.inl (by omega)))
    have old : I3 85 (18 * sd + i) = I 85 (18 * sd + i) → I3 86 (18 * sd + i) = I 86 (18 * sd + i) → match laws i with
      | none => I3 85 (18 * sd + i) = I3 86 (18 * sd + i)
      | some L => ∃ nb0, I3 85 (18 * sd + i) = nI nb0 ∧ I3 86 (18 * sd + i) = nI (nb0 + L.1.length + 1) ∧ 130 * sd ≤ nb0 ∧ nb0 + L.1.length + 1 ≤ nb' ∧ (∀ j b, L.1[j]? = some b → r_br sd (nb0 + j) z' b I3) ∧ r_lst sd (nb0 + L.1.length) z' L.2 I3 := fun o1 o2 => by
      cases hli : laws i with
      | none => rw [hli] at ho; exact o1.trans (ho.trans o2.symm)
      | some L =>
        rw [hli] at ho
        obtain ⟨nb0, q1, q2, q3, q4, q5, q6⟩ := ho
        exact ⟨nb0, o1.trans q1, o2.trans q2, q3, by omega, fun j b' hj => (q5 j b' hj).k lo bl (by have := (List.getElem?_eq_some_iff.mp hj).1; omega) w1, q6.k lo bl (by omega) w1⟩
    obtain ⟨x85, x86⟩ := w6 i
    rw [frA 85 _ (Or.inl (by decide))] at x85
    rw [frA 86 _ (Or.inl (by decide))] at x86
    show match x_ins laws kk (x_fd Sm (t + 1) bs 0) (x_ifs K V 4 [] t3).2 i with
      | none => I3 85 (18 * sd + i) = I3 86 (18 * sd + i)
      | some L => ∃ nb0, I3 85 (18 * sd + i) = nI nb0 ∧ I3 86 (18 * sd + i) = nI (nb0 + L.1.length + 1) ∧ 130 * sd ≤ nb0 ∧ nb0 + L.1.length + 1 ≤ nb' ∧ (∀ j b, L.1[j]? = some b → r_br sd (nb0 + j) z' b I3) ∧ r_lst sd (nb0 + L.1.length) z' L.2 I3
    cases hf : x_fd Sm (t + 1) bs 0 with
    | none =>
      rw [hoo, hf] at x85 x86
      exact old x85 x86
    | some c =>
      rw [hoo, hf] at x85 x86
      unfold x_ins
      show match (if i = 6 * kk + c then some (x_ifs K V 4 [] t3).2 else laws i) with
        | none => I3 85 (18 * sd + i) = I3 86 (18 * sd + i)
        | some L => ∃ nb0, I3 85 (18 * sd + i) = nI nb0 ∧ I3 86 (18 * sd + i) = nI (nb0 + L.1.length + 1) ∧ 130 * sd ≤ nb0 ∧ nb0 + L.1.length + 1 ≤ nb' ∧ (∀ j b, L.1[j]? = some b → r_br sd (nb0 + j) z' b I3) ∧ r_lst sd (nb0 + L.1.length) z' L.2 I3
      by_cases hi2 : i = 6 * kk + c
      · rw [if_pos hi2]
        have y85 : I3 85 (18 * sd + i) = nI nb := x85.trans (if_pos hi2)
        have y86 : I3 86 (18 * sd + i) = nI nb' := x86.trans (if_pos hi2)
        exact ⟨nb, y85, by rw [y86, w3], hnb, by omega, w5, w4⟩
      · rw [if_neg hi2]
        exact old (x85.trans (if_neg hi2)) (x86.trans (if_neg hi2))
end ZZ

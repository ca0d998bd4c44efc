/-! the reference's laws -/
def r_lst (sd j z : Nat) (c : x_Cd) (I : am_I) : Prop := I 87 j = 0 ∧ ∃ z1, I 90 j = nI z1 ∧ I 91 j = nI (z1 + c.length) ∧ z1 + c.length ≤ z ∧ 420 * sd ≤ z1 ∧ y_cd z1 c I
def r_br (sd j z : Nat) (b : x_Br) (I : am_I) : Prop := I 87 j = 1 ∧ ∃ z1, I 88 j = nI z1 ∧ I 89 j = nI (z1 + b.1.length) ∧ I 90 j = nI (z1 + b.1.length + b.2.1.length) ∧ I 91 j = nI (z1 + b.1.length + b.2.1.length + b.2.2.length) ∧ z1 + b.1.length + b.2.1.length + b.2.2.length ≤ z ∧ 420 * sd ≤ z1 ∧ y_cd z1 b.1 I ∧ y_cd (z1 + b.1.length) b.2.1 I ∧ y_cd (z1 + b.1.length + b.2.1.length) b.2.2 I
/-- branches and codes below stay -/
def r_bl (nb : Nat) (I I' : am_I) : Prop := ∀ c k, (c = 87 ∨ c = 88 ∨ c = 89 ∨ c = 90 ∨ c = 91) → k < nb → I' c k = I c k
theorem y_cd.lo {sd z z' : Nat} {c : x_Cd} {I I' : am_I} (h : y_cd z c I) (l : r_lo sd z' I I') (hz : z + c.length ≤ z') : y_cd z c I' := fun i q hq => by
  have hl := (List.getElem?_eq_some_iff.mp hq).1
  rw [l 92 _ (Or.inl rfl) (by omega), l 93 _ (Or.inr rfl) (by omega)]
  exact h i q hq
theorem r_lst.k {sd j z z' nb : Nat} {c : x_Cd} {I I' : am_I} (h : r_lst sd j z c I) (l : r_lo sd z I I') (b : r_bl nb I I') (hj : j < nb) (hz : z ≤ z') : r_lst sd j z' c I' := by
  obtain ⟨h1, z1, h2, h3, h4, h5, h6⟩ := h
  exact ⟨(b 87 j (by decide) hj).trans h1, z1, (b 90 j (by decide) hj).trans h2, (b 91 j (by decide) hj).trans h3, Nat.le_trans h4 hz, h5, h6.lo l h4⟩
theorem r_br.k {sd j z z' nb : Nat} {c : x_Br} {I I' : am_I} (h : r_br sd j z c I) (l : r_lo sd z I I') (b : r_bl nb I I') (hj : j < nb) (hz : z ≤ z') : r_br sd j z' c I' := by
  obtain ⟨h1, z1, h2, h3, h4, h5, h6, h7, h8, h9, h10⟩ := h
  exact ⟨(b 87 j (by decide) hj).trans h1, z1, (b 88 j (by decide) hj).trans h2, (b 89 j (by decide) hj).trans h3, (b 90 j (by decide) hj).trans h4, (b 91 j (by decide) hj).trans h5, Nat.le_trans h6 hz, h7, h8.lo l (by omega), h9.lo l (by omega), h10.lo l h6⟩
/-- the frame of a law that begins at the branch nb -/
def r_lf (nb n c k : Nat) : Prop := (c ≠ 68 ∨ k ∉ r_sl) ∧ c ∉ ([92, 93, 94] : List Nat) ∧ ((c ≠ 87 ∧ c ≠ 88 ∧ c ≠ 89 ∧ c ≠ 90 ∧ c ≠ 91) ∨ k < nb ∨ nb + n + 1 ≤ k)
theorem r_lf.le {nb nb' n n' c k : Nat} (h : r_lf nb n c k) (hn : nb ≤ nb') (hn2 : nb' + n' ≤ nb + n) : r_lf nb' n' c k := ⟨h.1, h.2.1, by have := h.2.2; omega⟩
section ZX
variable (d : Nat) (J : am_J) {K V Pl : Nat → Int32} {sd : Nat}
theorem r_at.z {K V Pl : Nat → Int32} {sd : Nat} {st : x_St} {s : x_Sl} {z nb t : Nat} {I : am_I} (h : r_at K V Pl sd st s z nb I) (e : st = .inr t) : I 68 38 = nI z := by
  rw [e] at h
  obtain ⟨_, _, _, _, _, _, _, _, _, _, _, z0, q8, q9⟩ := h
  rw [q9, q8]
  rfl
theorem r_term (hsd : sd < 2) {st : x_St} {s : x_Sl} {z nb : Nat} {I : am_I} (hnb : nb < 260) (h : r_at K V Pl sd st s z nb I) (hz : ∀ t, st = .inr t → z ≤ 420 * sd + t) : ∃ I', f_m_term_0 d I J = some (none, I', J) ∧ r_at K V Pl sd (x_rs (x_pe K V st)) s (z + (x_rk (x_pe K V st)).length) (nb + 1) I' ∧ (∀ t, x_rs (x_pe K V st) = .inr t → I' 90 nb = nI z ∧ I' 91 nb = nI (z + (x_rk (x_pe K V st)).length) ∧ y_cd z (x_rk (x_pe K V st)) I') ∧ r_lo sd z I I' ∧ ∀ c k, (c ≠ 68 ∨ k ∉ r_sl) → c ∉ ([92, 93, 94] : List Nat) → ((c ≠ 90 ∧ c ≠ 91) ∨ k ≠ nb) → I' c k = I c k := by
  have b := b_m_term_0 d I J
  have h32 := h.2.2.2.1
  obtain ⟨I1, i1⟩ : ∃ I1, I1 = am_upd I 90 nb (I 68 38) := ⟨_, rfl⟩
  have k1 : ∀ c k, (c ≠ 90 ∨ k ≠ nb) → I1 c k = I c k := fun c k hk => by rw [i1]; exact hk.elim am_uc am_uk
  have c1 := h.k (I' := I1) (fun c k hc _ => k1 c k (Or.inl (by omega)))
  rw [h32, am_at_n hnb (by omega), ← i1] at b
  have fin : ∀ (I3 : am_I), r_at K V Pl sd (x_rs (x_pe K V st)) s (z + (x_rk (x_pe K V st)).length) nb I3 → r_at K V Pl sd (x_rs (x_pe K V st)) s (z + (x_rk (x_pe K V st)).length) (nb + 1) (am_upd (am_upd I3 91 nb (I3 68 38)) 68 32 (nI (nb + 1))) := fun I3 h3 => by
    have u : ∀ c k, (c ≠ 68 ∨ k ≠ 32) → c ≠ 91 → am_upd (am_upd I3 91 nb (I3 68 38)) 68 32 (nI (nb + 1)) c k = I3 c k := fun c k g1 g2 => (g1.elim am_uc am_uk).trans (am_uc g2)
    obtain ⟨h1, h2, h3', h4, h5⟩ := h3
    have e0 : ∀ k, k ≠ 32 → am_upd (am_upd I3 91 nb (I3 68 38)) 68 32 (nI (nb + 1)) 68 k = I3 68 k := fun k hk => u 68 k (Or.inr hk) (by decide)
    refine ⟨h1.k (fun c k hc => u c k (Or.inl (by omega)) (by omega)), fun t ht hr => (u 72 t (Or.inl (by decide)) (by decide)).trans (h2 t ht hr), (e0 19 (by decide)).trans h3', am_ue, ?_⟩
    generalize x_rs (x_pe K V st) = st' at h5 ⊢
    cases st' with
    | inl f =>
      obtain ⟨f, a⟩ := f
      obtain ⟨q1, q2, q3, q4⟩ := h5
      exact ⟨q1, (e0 13 (by decide)).trans q2, (e0 14 (by decide)).trans q3, by rw [e0 11 (by decide)]; exact q4⟩
    | inr t =>
      obtain ⟨q1, q2, q3, q4, q5, q6, q7, q8⟩ := h5
      exact ⟨(e0 11 (by decide)).trans q1, q2, (e0 13 (by decide)).trans q3, (e0 12 (by decide)).trans q4, q5, (e0 15 (by decide)).trans q6, fun q => ⟨(e0 16 (by decide)).trans (q7 q).1, (q7 q).2⟩, by rw [e0 38 (by decide)]; exact q8⟩
  have frk : ∀ (I3 : am_I) c k, (c ≠ 68 ∨ k ∉ r_sl) → ((c ≠ 90 ∧ c ≠ 91) ∨ k ≠ nb) → am_upd (am_upd I3 91 nb (I3 68 38)) 68 32 (nI (nb + 1)) c k = I3 c k := fun I3 c k g1 g2 => by
    rw [show am_upd (am_upd I3 91 nb (I3 68 38)) 68 32 (nI (nb + 1)) c k = am_upd I3 91 nb (I3 68 38) c k from g1.elim am_uc (fun q => am_uk (fun w => q (by rw [w]; decide)))]
    rcases g2 with g2 | g2
    · exact am_uc g2.2
    · exact am_uk g2
  obtain ⟨I3, a1, a2, a3, a4, a5⟩ := r_E d J hsd c1 hz
  have e32 : I3 68 32 = nI nb := a2.2.2.2.1
  have fr3 : ∀ c k, (c ≠ 68 ∨ k ∉ r_sl) → c ∉ ([92, 93, 94] : List Nat) → ((c ≠ 90 ∧ c ≠ 91) ∨ k ≠ nb) → am_upd (am_upd I3 91 nb (I3 68 38)) 68 32 (nI (nb + 1)) c k = I c k := fun c k g1 g2 g3 => by
    rw [frk I3 c k g1 g3, a5 c k g1 g2, k1 c k (by omega)]
  have lo3 : r_lo sd z I (am_upd (am_upd I3 91 nb (I3 68 38)) 68 32 (nI (nb + 1))) := fun c k hc hk => by
    rw [frk I3 c k (Or.inl (by omega)) (Or.inl (by omega)), a4 c k hc hk, k1 c k (Or.inl (by omega))]
  cases st with
  | inl f =>
    -- no E: the same cells
    have d0 : ¬ I1 68 13 = 0 := fun q => by have := c1.dead; rw [q] at this; exact absurd this (by decide)
    rw [if_neg d0, c1.2.2.2.1, am_at_n hnb (by omega)] at b
    have e : am_upd I1 91 nb (I1 68 38) 68 32 = nI nb := (am_uc (by decide)).trans c1.2.2.2.1
    rw [e, nI_1] at b
    exact ⟨_, b _ rfl, fin I1 c1, fun t w => absurd w (by simp [x_pe, x_rs]), fun c k hc hk => by rw [frk I1 c k (Or.inl (by omega)) (Or.inl (by omega)), k1 c k (Or.inl (by omega))], fun c k g1 g2 g3 => by rw [frk I1 c k g1 g3, k1 c k (by omega)]⟩
  | inr t =>
    rw [if_pos c1.2.2.2.2.2.2.1, a1, am_bv_v, e32, am_at_n hnb (by omega)] at b
    have e : am_upd I3 91 nb (I3 68 38) 68 32 = nI nb := (am_uc (by decide)).trans e32
    rw [e, nI_1] at b
    refine ⟨_, b _ rfl, fin I3 a2, fun t' ht => ⟨?_, ?_, ?_⟩, lo3, fr3⟩
    · rw [am_uc (by decide), am_uc (by decide), a5 90 nb (Or.inl (by decide)) (by decide), i1, am_ue, h.z rfl]
    · rw [am_uc (by decide), am_ue, a2.z ht]
    · have := a3 t' ht
      exact fun i q hq => by
        rw [am_uc (by decide), am_uc (by decide), am_uc (by decide), am_uc (by decide)]
        exact this i q hq
def x_ix : Option Nat → Int32
  | none => -1
  | some i => nI i
def x_or (o : Option Nat) (i : Nat) (v w : Int32) : Int32 := match o with
  | none => w
  | some b => if i = b then v else w
/-- the end of a law -/
theorem r_ifs_end {st : x_St} {s : x_Sl} {z nb nb0 m : Nat} {o : Option Nat} {I : am_I} (hsd : sd < 2) (hnb : nb < 260) (ho : ∀ i, o = some i → i < 18) (h : r_at K V Pl sd st s z nb I) (hz : ∀ t, st = .inr t → z ≤ 420 * sd + t) (hz0 : 420 * sd ≤ z) (hc : (∃ f, st = .inl f) ∨ (∃ t, st = .inr t ∧ K t ≠ 136)) : ∃ I', f_m_tellLaw_12 d (x_ix o) (nI nb0) (nI m) I J = some (none, I', J) ∧ r_at K V Pl sd (x_ps K 59 (x_rs (x_pe K V st))) s (z + (x_rk (x_pe K V st)).length) (nb + 1) I' ∧ (∀ t', x_ps K 59 (x_rs (x_pe K V st)) = .inr t' → r_lst sd nb (z + (x_rk (x_pe K V st)).length) (x_rk (x_pe K V st)) I' ∧ ∀ i, I' 85 (18 * sd + i) = x_or o i (nI nb0) (I 85 (18 * sd + i)) ∧ I' 86 (18 * sd + i) = x_or o i (nI (nb + 1)) (I 86 (18 * sd + i))) ∧ r_lo sd z I I' ∧ ∀ c k, r_lf nb 0 c k → ((c ≠ 85 ∧ c ≠ 86) ∨ k < 18 * sd ∨ 18 * sd + 18 ≤ k) → I' c k = I c k := by
  have hz' : ∀ t, st = .inr t → z ≤ 420 * sd + t := hz
  obtain ⟨I1, i1⟩ : ∃ I1, I1 = am_upd I 87 nb 0 := ⟨_, rfl⟩
  have k1 : ∀ c k, (c ≠ 87 ∨ k ≠ nb) → I1 c k = I c k := fun c k hk => by rw [i1]; exact hk.elim am_uc am_uk
  have c1 := h.k (I' := I1) (fun c k hc _ => k1 c k (Or.inl (by omega)))
  obtain ⟨I2, a1, a2, a3, a4, a5⟩ := r_term d J hsd hnb c1 hz'
  obtain ⟨I3, b1, b2, b3⟩ := r_must d J a2 (w := 59) (w' := 4) (by decide) (by decide) (by decide)
  have run : ∀ r, (if 0 < I3 68 13 then some (none, I3, J) else if 0 ≤ x_ix o then am_at (18 * I3 68 19 + x_ix o) 36 (fun j16 => am_at (18 * am_upd I3 85 j16 (nI nb0) 68 19 + x_ix o) 36 (fun j17 => some (none, am_upd (am_upd I3 85 j16 (nI nb0)) 86 j17 (am_upd I3 85 j16 (nI nb0) 68 32), J)) none) none else some (none, I3, J) : am_Out) = some r → f_m_tellLaw_12 d (x_ix o) (nI nb0) (nI m) I J = some r := fun r hr => by
    refine b_m_tellLaw_12 d _ _ _ I J _ ?_
    rcases hc with ⟨f, rfl⟩ | ⟨t, rfl, hK⟩
    · rw [if_neg (fun q => by have := h.dead; rw [q] at this; exact absurd this (by decide)), h.2.2.2.1, am_at_n hnb (by omega), am_b01_0, ← i1, a1, am_bv_v, b1, am_bv_v]
      exact hr
    · rw [if_pos h.2.2.2.2.2.2.1, r_is d J h (w := 136) (w' := 28) (by decide) (by decide), am_tf_f hK, am_bi_i, if_pos rfl, h.2.2.2.1, am_at_n hnb (by omega), am_b01_0, ← i1, a1, am_bv_v, b1, am_bv_v]
      exact hr
  have frA : ∀ c k, (c ≠ 68 ∨ k ∉ r_sl) → c ∉ ([92, 93, 94] : List Nat) → ((c ≠ 87 ∧ c ≠ 90 ∧ c ≠ 91) ∨ k ≠ nb) → I3 c k = I c k := fun c k g1 g2 g3 => by
    rw [b3 c k g1, a5 c k g1 g2 (by omega), k1 c k (by omega)]
  have lo : r_lo sd z I I3 := fun c k hc hk => by
    rw [b3 c k (Or.inl (by omega)), a4 c k hc hk, k1 c k (Or.inl (by omega))]
  cases hx : x_ps K 59 (x_rs (x_pe K V st)) with
  | inl f =>
    rw [hx] at b2
    rw [if_pos b2.dead] at run
    exact ⟨I3, run _ rfl, b2, fun t' w => absurd w (by simp), lo, fun c k hk _ => frA c k hk.1 hk.2.1 (by have := hk.2.2; omega)⟩
  | inr t' =>
    rw [hx] at b2
    obtain ⟨t1, e1, _⟩ := x_ps_y hx
    obtain ⟨d1, d2, d3⟩ := a3 t1 e1
    have h13 : I3 68 13 = 0 := b2.2.2.2.2.2.2.1
    rw [if_neg (show ¬ 0 < I3 68 13 by rw [h13]; decide)] at run
    have lst : r_lst sd nb (z + (x_rk (x_pe K V st)).length) (x_rk (x_pe K V st)) I3 := ⟨by rw [b3 87 nb (Or.inl (by decide)), a5 87 nb (Or.inl (by decide)) (by decide) (Or.inl (by decide)), i1, am_ue], z, (b3.n (by decide) nb).trans d1, (b3.n (by decide) nb).trans d2, Nat.le_refl _, hz0, fun i q hq => by
      rw [b3.n (by decide), b3.n (by decide)]
      exact d3 i q hq⟩
    cases o with
    | none =>
      rw [if_neg (show ¬ (0 : Int32) ≤ x_ix none by decide)] at run
      exact ⟨I3, run _ rfl, b2, fun _ _ => ⟨lst, fun i => ⟨frA 85 _ (Or.inl (by decide)) (by decide) (Or.inl (by decide)), frA 86 _ (Or.inl (by decide)) (by decide) (Or.inl (by decide))⟩⟩, lo, fun c k hk _ => frA c k hk.1 hk.2.1 (by have := hk.2.2; omega)⟩
    | some j =>
      have hj := ho j rfl
      have h19 : I3 68 19 = nI sd := b2.2.2.1
      have h32 : I3 68 32 = nI (nb + 1) := b2.2.2.2.1
      rw [show x_ix (some j) = nI j from rfl, if_pos (nI_pos' (by omega)), h19, show (18 : Int32) = nI 18 from rfl, pk_mul, nI_add, am_at_n (by omega) (by omega), am_uc (show 68 ≠ 85 by decide), h19, pk_mul, nI_add, am_at_n (by omega) (by omega), am_uc (show 68 ≠ 85 by decide), h32] at run
      have k4 : ∀ c k, (c ≠ 85 ∧ c ≠ 86) → am_upd (am_upd I3 85 (18 * sd + j) (nI nb0)) 86 (18 * sd + j) (nI (nb + 1)) c k = I3 c k := fun c k g => (am_uc g.2).trans (am_uc g.1)
      refine ⟨_, run _ rfl, b2.k (fun c k hc _ => k4 c k (by omega)), fun _ _ => ⟨?_, fun i => ⟨?_, ?_⟩⟩, fun c k hc hk => (k4 c k (by omega)).trans (lo c k hc hk), fun c k hk hk2 => ?_⟩
      · exact lst.k (nb := nb + 1) (fun c k hc _ => k4 c k (by omega)) (fun c k hc _ => k4 c k (by omega)) (Nat.lt_succ_self _) (Nat.le_refl _)
      · show _ = if i = j then nI nb0 else I 85 (18 * sd + i)
        rw [am_uc (by decide)]
        by_cases w : i = j
        · rw [if_pos w, w, am_ue]
        · rw [if_neg w, am_uk (by omega)]
          exact frA 85 _ (Or.inl (by decide)) (by decide) (Or.inl (by decide))
      · show _ = if i = j then nI (nb + 1) else I 86 (18 * sd + i)
        by_cases w : i = j
        · rw [if_pos w, w, am_ue]
        · rw [if_neg w, am_uk (by omega), am_uc (by decide)]
          exact frA 86 _ (Or.inl (by decide)) (by decide) (Or.inl (by decide))
      · have e : am_upd (am_upd I3 85 (18 * sd + j) (nI nb0)) 86 (18 * sd + j) (nI (nb + 1)) c k = I3 c k := by
          rcases hk2 with g | g
          · exact k4 c k g
          · rw [am_uk (by omega), am_uk (by omega)]
        rw [e]
        exact frA c k hk.1 hk.2.1 (by have := hk.2.2; omega)
end ZX

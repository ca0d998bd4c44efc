/-! `worth NAME LAW ;`: pure, the class's -/
def x_ok (K : Nat → Int32) (st : x_St) : Prop := ∀ t, st = .inr t → x_rc K t
theorem x_ps_ok {K : Nat → Int32} {w : Int32} {st : x_St} (h : x_ok K st) (hw : w ≠ 0) : x_ok K (x_ps K w st) := fun t' ht => by
  obtain ⟨t, e, k, _, m⟩ := x_ps_y ht
  rw [m]
  exact (h t e).s k hw
theorem x_pe_ok {K V : Nat → Int32} {st : x_St} (h : x_ok K st) : x_ok K (x_rs (x_pe K V st)) := fun t' ht => by
  obtain ⟨t, e, q, _⟩ := x_pe_y ht
  have := x_E_rc (K := K) (V := V) 6 t (h t e)
  rw [q] at this
  exact this
theorem x_ok.i {K : Nat → Int32} {t : Nat} (h : x_rc K t) : x_ok K (.inr t) := fun t' e => by rw [← Sum.inr.inj e]; exact h
/-- statuses only go on -/
def x_up (t : Nat) (st : x_St) : Prop := ∀ t', st = .inr t' → t ≤ t'
theorem x_ps_up {K : Nat → Int32} {w : Int32} {st : x_St} {t : Nat} (h : x_up t st) : x_up (t + 1) (x_ps K w st) := fun t' ht => by
  obtain ⟨t0, e, _, _, m⟩ := x_ps_y ht
  have := h t0 e
  omega
theorem x_pe_up {K V : Nat → Int32} {st : x_St} {t : Nat} (h : x_up t st) : x_up (t + 1) (x_rs (x_pe K V st)) := fun t' ht => by
  obtain ⟨t0, e, _, _, m, _⟩ := x_pe_y ht
  have := h t0 e
  omega
theorem x_up.le {st : x_St} {t t' : Nat} (h : x_up t st) (q : t' ≤ t) : x_up t' st := fun t2 e => Nat.le_trans q (h t2 e)
theorem x_up.i (t : Nat) : x_up t (.inr t) := fun t' e => by rw [← Sum.inr.inj e]; exact Nat.le_refl _
def x_lst (K : Nat → Int32) (w : Int32) (t : Nat) : x_St := x_ps K 61 (x_ps K 2 (x_ps K w (.inr t)))
/-- the law at the thing t: status, law, board, slip -/
def x_law (K V : Nat → Int32) (Sm : Nat → Nat → Bool) (bs : List x_Bd) (w : Int32) (s : x_Sl) (t : Nat) : x_St × x_Law × Option Nat × x_Sl := match x_lst K w t with
  | .inl f => (.inl f, ([], []), none, s)
  | .inr t' => ((x_ifs K V 4 [] t').1, (x_ifs K V 4 [] t').2, x_fd Sm (t + 1) bs 0, x_s1 (x_fd Sm (t + 1) bs 0).isNone 4 (t + 1) s)
def x_ins (laws : Nat → Option x_Law) (k : Nat) (b : Option Nat) (L : x_Law) : Nat → Option x_Law := match b with
  | none => laws
  | some b => fun i => if i = 6 * k + b then some L else laws i
def c_lw (laws : Nat → Option x_Law) (z : Nat) (I : am_I) : Prop := ∀ i, i < 18 → match laws i with
  | none => I 31 i = -1
  | some L => ∃ s0, I 31 i = nI s0 ∧ s0 + (x_lay s0 L).length ≤ z ∧ c_cd s0 (x_lay s0 L) I
theorem c_lw.k {laws : Nat → Option x_Law} {z z' : Nat} {I I' : am_I} (h : c_lw laws z I) (e : ∀ k, I' 31 k = I 31 k) (l : c_lo z I I') (hz : z ≤ z') : c_lw laws z' I' := fun i hi => by
  have q := h i hi
  cases hl : laws i with
  | none => rw [hl] at q; exact (e i).trans q
  | some L =>
    rw [hl] at q
    obtain ⟨s0, q1, q2, q3⟩ := q
    exact ⟨s0, (e i).trans q1, Nat.le_trans q2 hz, q3.k l q2⟩
section ZS
variable (J : am_J) {K V Pl B En : Nat → Int32} {Sm : Nat → Nat → Bool} {bs : List x_Bd}
theorem c_law (e : Nat) {s : x_Sl} {z t kk : Nat} {w : Int32} {I : am_I} {laws : Nat → Option x_Law} (h : c_at K V Pl (.inr t) s z I) (hrc : x_rc K t) (hkk : kk < 3) (hw : w = 129 + nI kk) (hS : c_sm B Pl En K Sm) (h7 : I 7 = B) (h11 : I 11 = En) (hb : c_bd bs I) (hn : ∀ q ∈ bs, q.1 < t) (hl : c_lw laws z I) : ∃ I' z', f_reader_readLaw_0 (e + 7) w I J = some (none, I', J) ∧ c_at K V Pl (x_law K V Sm bs w s t).1 (x_law K V Sm bs w s t).2.2.2 z' I' ∧ (∀ t', (x_law K V Sm bs w s t).1 = .inr t' → c_lw (x_ins laws kk (x_law K V Sm bs w s t).2.2.1 (x_law K V Sm bs w s t).2.1) z' I') ∧ ∀ c k, c ∉ ([26, 27, 28, 31, 32] : List Nat) → I' c k = I c k := by
  have ht : t ≤ 400 := h.2.2.2.1.2.2.2.2.1
  have h6 := hb.1
  have hw0 : w ≠ 0 := by
    rw [hw]
    rcases (show kk = 0 ∨ kk = 1 ∨ kk = 2 by omega) with rfl | rfl | rfl <;> decide
  have hwk : w - 129 = nI kk := by
    rw [hw]
    rcases (show kk = 0 ∨ kk = 1 ∨ kk = 2 by omega) with rfl | rfl | rfl <;> decide
  have b := b_reader_readLaw_0 (e + 7) w I J
  obtain ⟨y1, I1, a1, a2, a3, a4⟩ := c_pass (e + 7) J h w
  obtain ⟨t1, g1, g2, g3, g4⟩ := c_t1 (st := .inr t) hw0 h hrc a2 a3
  have hb1 : c_bd bs I1 := hb.k (fun c k hc => a4 c k (by omega))
  have hn' : ∀ q ∈ bs, q.1 ≤ 400 ∧ x_rc K q.1 := fun q hq => ⟨by have := hn q hq; omega, hrc.le (by have := hn q hq; omega)⟩
  have f1 := c_find (e + 7) J hS ((funext fun k => a4 7 k (by decide)).trans h7) a2.2.2.1 ((funext fun k => a4 11 k (by decide)).trans h11) hb1 hn' g1 g2 g3
  rw [a1, am_bi_i, f1, am_bi_i] at b
  -- the slip
  have step2 : ∃ I2, (x_fv (x_fd Sm t1 bs 0) = -1 → f_reader_noteSlip_0 (e + 7) 4 (I1 32 3) I1 J = some (none, I2, J)) ∧ (x_fv (x_fd Sm t1 bs 0) ≠ -1 → I2 = I1) ∧ c_at K V Pl (x_ps K w (.inr t)) (x_s1 (x_fd Sm t1 bs 0).isNone 4 t1 s) z I2 ∧ ∀ c k, c ≠ 32 → I2 c k = I1 c k := by
    cases hf : x_fd Sm t1 bs 0 with
    | none =>
      obtain ⟨I2, e1, e2, e3⟩ := c_slip (e + 7) J a2 (f := 4) (tok := t1) (by omega) (by decide)
      exact ⟨I2, fun _ => by rw [g3]; exact e1, fun q => absurd rfl q, e2, e3⟩
    | some c =>
      have hc := x_fd_lt _ _ _ hf
      refine ⟨I1, fun q => absurd (show nI c = -1 from q) (fun q => (nI_pos (n := c) (by omega)) (by rw [q]; decide)), fun _ => rfl, ?_, fun _ _ _ => rfl⟩
      unfold x_s1
      rw [if_neg (fun q => absurd q.1 (by simp))]
      exact a2
  obtain ⟨I2, k1, k2, e2, e3⟩ := step2
  obtain ⟨y3, I3, p1, p2, _, p3⟩ := c_pass (e + 7) J e2 2
  obtain ⟨y4, I4, q1, q2, _, q3⟩ := c_pass (e + 7) J p2 61
  have fr4 : ∀ c k, c ≠ 32 → I4 c k = I c k := fun c k hc => (q3 c k hc).trans ((p3 c k hc).trans ((e3 c k hc).trans (a4 c k hc)))
  have hst : x_ps K 61 (x_ps K 2 (x_ps K w (.inr t))) = x_lst K w t := rfl
  rw [hst] at q2
  -- the law's row
  have tl : ∃ I5, f_next_tellLaw_0 (e + 7) (nI kk) (x_fv (x_fd Sm t1 bs 0)) (I4 26 4) I4 J = some (none, I5, J) ∧ (∀ c k, c ≠ 31 → I5 c k = I4 c k) ∧ ∀ i, I5 31 i = (match x_fd Sm t1 bs 0 with
      | none => I4 31 i
      | some c => if i = 6 * kk + c then I4 26 4 else I4 31 i) := by
    have bt := b_next_tellLaw_0 (e + 7) (nI kk) (x_fv (x_fd Sm t1 bs 0)) (I4 26 4) I4 J
    rw [if_neg (nI_pos (by omega)), if_neg (show ¬ (3 : Int32) ≤ nI kk from nI_ge (b := 3) hkk (by omega))] at bt
    cases hf : x_fd Sm t1 bs 0 with
    | none =>
      rw [hf, if_pos (show x_fv none < 0 by decide)] at bt
      exact ⟨I4, bt _ rfl, fun _ _ _ => rfl, fun _ => rfl⟩
    | some c =>
      have hc := x_fd_lt _ _ _ hf
      rw [hf, show x_fv (some c) = nI c from rfl, if_neg (nI_pos (by omega)), if_neg (show ¬ (6 : Int32) ≤ nI c from nI_ge (b := 6) (by omega) (by omega)), show (6 : Int32) = nI 6 from rfl, pk_mul, nI_add, am_at_n (by omega) (by omega)] at bt
      refine ⟨_, bt _ rfl, fun c' k hc' => am_uc hc', fun i => ?_⟩
      show am_upd I4 31 (kk * 6 + c) (I4 26 4) 31 i = if i = 6 * kk + c then I4 26 4 else I4 31 i
      rw [show kk * 6 + c = 6 * kk + c by omega]
      by_cases hi : i = 6 * kk + c
      · rw [if_pos hi, hi, am_ue]
      · rw [if_neg hi, am_uk hi]
  obtain ⟨I5, u1, u2, u3⟩ := tl
  have c5 : c_at K V Pl (x_lst K w t) (x_s1 (x_fd Sm t1 bs 0).isNone 4 t1 s) z I5 := q2.k (fun c k hc => u2 c k (by omega))
  have fr5 : ∀ c k, c ∉ ([31, 32] : List Nat) → I5 c k = I c k := fun c k hc => by
    simp only [List.mem_cons, List.not_mem_nil, not_or] at hc
    exact (u2 c k hc.1).trans (fr4 c k hc.2.1)
  have run : ∀ I', f_reader_readLaw_63 (e + 7) 0 I5 J = some (none, I', J) → f_reader_readLaw_0 (e + 7) w I J = some (none, I', J) := fun I' hr => by
    refine b _ ?_
    by_cases hf : x_fv (x_fd Sm t1 bs 0) = -1
    · rw [if_pos hf, k1 hf, am_bv_v, p1, am_bi_i, q1, am_bi_i, hwk, u1, am_bv_v]
      exact hr
    · have := k2 hf
      rw [this] at p1
      rw [if_neg hf, p1, am_bi_i, q1, am_bi_i, hwk, u1, am_bv_v]
      exact hr
  unfold x_law
  cases hx : x_lst K w t with
  | inl f =>
    rw [hx] at c5
    obtain ⟨I', v1, v2, v3, v4⟩ := c_ifs_end J e c5 (fun t w => absurd w (by simp)) (show 0 ≤ 4 by omega) (Or.inl c5.dead)
    refine ⟨I', z, run I' v1, v2, fun t' q => absurd q (by simp), fun c k hc => ?_⟩
    simp only [List.mem_cons, List.not_mem_nil, not_or] at hc
    rw [v4 c k (by simp; omega), fr5 c k (by simp; omega)]
  | inr t' =>
    have hx' := hx
    rw [hx] at c5
    unfold x_lst at hx
    obtain ⟨t3, e3', _, _, m3⟩ := x_ps_y hx
    obtain ⟨t2, e2', _, _, m2⟩ := x_ps_y e3'
    obtain ⟨gg1, gg2⟩ := g4 t2 e2'
    obtain ⟨I', v1, v2, v3, v4⟩ := c_ifsL J e 4 0 [] z z t' (x_s1 (x_fd Sm t1 bs 0).isNone 4 t1 s) I5 rfl c5 (by have := h.2.2.2.1.2.2.2.2.2.1; omega) rfl (fun i q hq => absurd hq (by simp [x_lyb]))
    rw [gg2] at v2 u3
    refine ⟨I', _, run I' v1, v2, fun t'' q => ?_, fun c k hc => ?_⟩
    · obtain ⟨w1, w2⟩ := v3 t'' q
      have lo : c_lo z I I' := fun c k hc hk => (w2 c k hc hk).trans (fr5 c k (by simp; omega))
      have e31 : ∀ i, I' 31 i = I5 31 i := fun i => v4 31 i (by decide)
      have e264 : I4 26 4 = nI z := (fr4 26 4 (by decide)).trans h.2.2.2.1.2.2.2.1
      intro i hi
      have ho : match laws i with
        | none => I 31 i = -1
        | some L => ∃ s0, I 31 i = nI s0 ∧ s0 + (x_lay s0 L).length ≤ z ∧ c_cd s0 (x_lay s0 L) I := hl i hi
      have old : I' 31 i = I 31 i → match laws i with
        | none => I' 31 i = -1
        | some L => ∃ s0, I' 31 i = nI s0 ∧ s0 + (x_lay s0 L).length ≤ z + (x_lay z (x_ifs K V 4 [] t').2).length ∧ c_cd s0 (x_lay s0 L) I' := fun hq => by
        cases hli : laws i with
        | none => rw [hli] at ho; exact hq.trans ho
        | some L =>
          rw [hli] at ho
          obtain ⟨s0, o1, o2, o3⟩ := ho
          exact ⟨s0, hq.trans o1, by omega, o3.k lo o2⟩
      have u3i := u3 i
      show match x_ins laws kk (x_fd Sm (t + 1) bs 0) (x_ifs K V 4 [] t').2 i with
        | none => I' 31 i = -1
        | some L => ∃ s0, I' 31 i = nI s0 ∧ s0 + (x_lay s0 L).length ≤ z + (x_lay z (x_ifs K V 4 [] t').2).length ∧ c_cd s0 (x_lay s0 L) I'
      cases hf : x_fd Sm (t + 1) bs 0 with
      | none =>
        rw [hf] at u3i
        exact old (by rw [e31, u3i, fr4 31 i (by decide)])
      | some c =>
        rw [hf] at u3i
        have u3j : I5 31 i = if i = 6 * kk + c then I4 26 4 else I4 31 i := u3i
        unfold x_ins
        show match (if i = 6 * kk + c then some (x_ifs K V 4 [] t').2 else laws i) with
          | none => I' 31 i = -1
          | some L => ∃ s0, I' 31 i = nI s0 ∧ s0 + (x_lay s0 L).length ≤ z + (x_lay z (x_ifs K V 4 [] t').2).length ∧ c_cd s0 (x_lay s0 L) I'
        by_cases hi2 : i = 6 * kk + c
        · rw [if_pos hi2]
          rw [if_pos hi2] at u3j
          exact ⟨z, by rw [e31, u3j, e264], Nat.le_refl _, w1⟩
        · rw [if_neg hi2]
          rw [if_neg hi2] at u3j
          exact old (by rw [e31, u3j, fr4 31 i (by decide)])
    · simp only [List.mem_cons, List.not_mem_nil, not_or] at hc
      rw [v4 c k (by simp; omega), fr5 c k (by simp; omega)]
end ZS

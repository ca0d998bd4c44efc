/-! what a law says: the reference's -/
section ZE
variable (d : Nat) (J : am_J)
theorem r_ev1 {f : Nat → Int32} {e : Nat} (he : e ≤ 840) : ∀ (c : x_Cd) (S : List Int32) (z h' : Nat) (I : am_I), S.length ≤ 16 → x_ht 16 c S.length = some h' → x_in 92 93 z c I → x_sk 96 I S → (∀ k, k < 6 → I 95 k = f k) → z + c.length ≤ e → match x_run2 f c S with
    | none => ∃ I', f_m_termOf_5 d (nI e) (nI S.length) (nI z) I J = some (some (.int 0), I', J) ∧ I' 68 45 = 1 ∧ ∀ c k, c ≠ 96 → (c ≠ 68 ∨ k ≠ 45) → I' c k = I c k
    | some S' => ∃ I', (∀ r, f_m_termOf_5 d (nI e) (nI S'.length) (nI (z + c.length)) I' J = some r → f_m_termOf_5 d (nI e) (nI S.length) (nI z) I J = some r) ∧ x_sk 96 I' S' ∧ ∀ c k, c ≠ 96 → I' c k = I c k := by
  intro c
  induction c with
  | nil =>
    intro S z h' I _ _ _ hs _ _
    exact ⟨I, fun r hr => hr, hs, fun _ _ _ => rfl⟩
  | cons q c ih =>
    intro S z h' I hS16 ht hin hs hf hz
    obtain ⟨o, a⟩ := q
    obtain ⟨e17, e18⟩ := hin.hd
    have hl : ((o, a) :: c).length = c.length + 1 := rfl
    rw [hl] at hz
    have b := b_m_termOf_5 d (nI e) (nI S.length) (nI z) I J
    rw [if_neg (nI_ge (by omega) (by omega)), am_at_n (by omega) (by omega), e17] at b
    rw [x_ht_c] at ht
    unfold x_run2
    have lift : ∀ (S1 : List Int32) (I1 : am_I), (∀ r, f_m_termOf_5 d (nI e) (nI S1.length) (nI (z + 1)) I1 J = some r → f_m_termOf_5 d (nI e) (nI S.length) (nI z) I J = some r) → S1.length ≤ 16 → x_ht 16 c S1.length = some h' → x_sk 96 I1 S1 → (∀ c k, c ≠ 96 → I1 c k = I c k) → match x_run2 f c S1 with
        | none => ∃ I', f_m_termOf_5 d (nI e) (nI S.length) (nI z) I J = some (some (.int 0), I', J) ∧ I' 68 45 = 1 ∧ ∀ c k, c ≠ 96 → (c ≠ 68 ∨ k ≠ 45) → I' c k = I c k
        | some S' => ∃ I', (∀ r, f_m_termOf_5 d (nI e) (nI S'.length) (nI (z + (c.length + 1))) I' J = some r → f_m_termOf_5 d (nI e) (nI S.length) (nI z) I J = some r) ∧ x_sk 96 I' S' ∧ ∀ c k, c ≠ 96 → I' c k = I c k := fun S1 I1 hr hl1 ht1 hs1 hk1 => by
      have q := ih S1 (z + 1) h' I1 hl1 ht1 (hin.tl.k (fun k => ⟨hk1 92 k (by decide), hk1 93 k (by decide)⟩)) hs1 (fun k hk => (hk1 95 k (by decide)).trans (hf k hk)) (by omega)
      cases hx : x_run2 f c S1 with
      | none =>
        rw [hx] at q
        obtain ⟨I', a1, a2, a3⟩ := q
        exact ⟨I', hr _ a1, a2, fun c k hc hk => (a3 c k hc hk).trans (hk1 c k hc)⟩
      | some S' =>
        rw [hx] at q
        obtain ⟨I', a2, a3, a4⟩ := q
        refine ⟨I', fun r h => hr _ (a2 r ?_), a3, fun c k hc => (a4 c k hc).trans (hk1 c k hc)⟩
        rw [show z + 1 + c.length = z + (c.length + 1) by omega]
        exact h
    have sk1 : ∀ v, x_sk 96 (am_upd I 96 S.length v) (v :: S) := fun v => ⟨am_ue, x_sk_keep S (fun j hj => am_uk (by omega)) hs⟩
    rw [show ((o, a) :: c).length = c.length + 1 from rfl]
    by_cases q0 : o = 0
    · rw [if_pos q0] at ht ⊢
      by_cases q1 : 0 ≤ a ∧ S.length < 16
      · rw [if_pos q1] at ht
        rw [q0, if_neg (by decide), if_pos rfl, am_at_n (by omega) (by omega), am_at_n (by omega) (by omega), e18, nI_1, nI_1] at b
        exact lift (a :: S) _ (fun r hr => b _ hr) (by rw [List.length_cons]; omega) ht (sk1 a) (fun c k hc => am_uc hc)
      · rw [if_neg q1] at ht; exact absurd ht (by simp)
    rw [if_neg q0] at ht ⊢
    by_cases q1 : o = 1
    · rw [if_pos q1] at ht ⊢
      by_cases q2 : 0 ≤ a ∧ a < 6 ∧ S.length < 16
      · rw [if_pos q2] at ht
        obtain ⟨j, j0, j1⟩ := nI_of (Int32.not_lt.mpr q2.1)
        have j6 : j < 6 := by
          have := q2.2.1
          rw [j1] at this
          by_cases w : j < 6
          · exact w
          · exact absurd this (nI_nlt (b := 6) (by omega) j0)
        rw [q1, if_neg (by decide), if_neg (by decide), am_at_n (by omega) (by omega), e18, j1, am_at_n j6 (by omega), am_at_n (by omega) (by omega), nI_1, nI_1, hf j j6] at b
        have ej : f (a.toNatClampNeg % 6) = f j := by rw [j1, nI_clamp j0, Nat.mod_eq_of_lt j6]
        rw [ej]
        exact lift (f j :: S) _ (fun r hr => b _ hr) (by rw [List.length_cons]; omega) ht (sk1 (f j)) (fun c k hc => am_uc hc)
      · rw [if_neg q2] at ht; exact absurd ht (by simp)
    rw [if_neg q1] at ht ⊢
    by_cases q2 : o = 2 ∨ o = 3 ∨ o = 4 ∨ o = 5
    · rw [if_pos q2] at ht
      by_cases q3 : 2 ≤ S.length
      · rw [if_pos q3] at ht
        have o7 : (2 : Int32) ≤ o := by rcases q2 with rfl | rfl | rfl | rfl <;> decide
        obtain ⟨y, x, S', eS⟩ : ∃ y x S', S = y :: x :: S' := by
          rcases S with _ | ⟨y, _ | ⟨x, S'⟩⟩
          · exact absurd q3 (by simp)
          · exact absurd q3 (by simp)
          · exact ⟨y, x, S', rfl⟩
        subst eS
        have l2 : (y :: x :: S').length = S'.length + 1 + 1 := rfl
        rw [l2] at b hS16
        rw [if_pos o7, nI_pm, nI_pred, am_at_n (by omega) (by omega), am_at_n (by omega) (by omega), show I 96 S'.length = x from hs.2.1, show I 96 (S'.length + 1) = y from hs.1] at b
        have b104 := b_m_termOf_104 d (nI e) (nI (S'.length + 1)) (nI z) o x y I J
        rw [nI_pred, am_at_n (by omega) (by omega), am_at_n (by omega) (by omega), am_at_n (by omega) (by omega), am_at_n (by omega) (by omega), nI_1] at b104
        have sk2 : ∀ v, x_sk 96 (am_upd I 96 S'.length v) (v :: S') := fun v => ⟨am_ue, x_sk_keep S' (fun j hj => am_uk (by omega)) hs.2.2⟩
        have hb : ¬ (o = 5 ∧ y = 0) → ∀ r, f_m_termOf_104 d (nI e) (nI (S'.length + 1)) (nI z) o x y I J = some r → f_m_termOf_5 d (nI e) (nI (S'.length + 1 + 1)) (nI z) I J = some r := fun w r hr => b _ (by
          by_cases w1 : o = 5
          · rw [if_pos w1, if_neg (fun w2 => w ⟨w1, w2⟩)]; exact hr
          · rw [if_neg w1]; exact hr)
        have go : ∀ v, ¬ (o = 5 ∧ y = 0) → (∀ r, f_m_termOf_5 d (nI e) (nI (S'.length + 1)) (nI (z + 1)) (am_upd I 96 S'.length v) J = some r → f_m_termOf_104 d (nI e) (nI (S'.length + 1)) (nI z) o x y I J = some r) → match x_run2 f c (v :: S') with
            | none => ∃ I', f_m_termOf_5 d (nI e) (nI (y :: x :: S').length) (nI z) I J = some (some (.int 0), I', J) ∧ I' 68 45 = 1 ∧ ∀ c k, c ≠ 96 → (c ≠ 68 ∨ k ≠ 45) → I' c k = I c k
            | some S2 => ∃ I', (∀ r, f_m_termOf_5 d (nI e) (nI S2.length) (nI (z + (c.length + 1))) I' J = some r → f_m_termOf_5 d (nI e) (nI (y :: x :: S').length) (nI z) I J = some r) ∧ x_sk 96 I' S2 ∧ ∀ c k, c ≠ 96 → I' c k = I c k := fun v w hv =>
          lift (v :: S') _ (fun r hr => hb w _ (hv r hr)) (by rw [List.length_cons]; omega) ht (sk2 v) (fun c k hc => am_uc hc)
        show match (match x_opv o x y with | none => none | some v => x_run2 f c (v :: S')) with
          | none => _
          | some S2 => _
        rcases q2 with rfl | rfl | rfl | rfl
        · exact go (x + y) (fun w => absurd w.1 (by decide)) (fun r hr => b104 _ (by rw [if_pos rfl]; exact hr))
        · exact go (x - y) (fun w => absurd w.1 (by decide)) (fun r hr => b104 _ (by rw [if_neg (by decide), if_pos rfl]; exact hr))
        · exact go (x * y) (fun w => absurd w.1 (by decide)) (fun r hr => b104 _ (by rw [if_neg (by decide), if_neg (by decide), if_pos rfl]; exact hr))
        · by_cases w : y = 0
          · rw [show x_opv 5 x y = none by unfold x_opv; rw [if_neg (by decide), if_neg (by decide), if_neg (by decide), if_pos w]]
            rw [if_pos rfl, if_pos w, am_b01_1] at b
            exact ⟨_, b _ rfl, am_ue, fun c k _ hk => hk.elim am_uc am_uk⟩
          · rw [show x_opv 5 x y = some (x / y) by unfold x_opv; rw [if_neg (by decide), if_neg (by decide), if_neg (by decide), if_neg w]]
            exact go (x / y) (fun z => w z.2) (fun r hr => b104 _ (by rw [if_neg (by decide), if_neg (by decide), if_neg (by decide), if_neg w]; exact hr))
      · rw [if_neg q3] at ht; exact absurd ht (by simp)
    · rw [if_neg q2] at ht; exact absurd ht (by simp)
/-- an E -/
theorem r_evE {f : Nat → Int32} {c : x_Cd} (hc : x_we c) {z : Nat} {I : am_I} (hz : z + c.length ≤ 840) (hin : x_in 92 93 z c I) (hf : ∀ k, k < 6 → I 95 k = f k) : ∃ I', f_m_termOf_0 d (nI z) (nI (z + c.length)) I J = some (some (.int ((x_ev f c).getD 0)), I', J) ∧ (x_ev f c = none → I' 68 45 = 1) ∧ (x_ev f c ≠ none → I' 68 45 = I 68 45) ∧ ∀ c k, c ≠ 96 → (c ≠ 68 ∨ k ≠ 45) → I' c k = I c k := by
  have q := r_ev1 d J (f := f) hz c [] z 1 I (by simp) (hc 16 0 (by omega)) hin trivial hf (Nat.le_refl _)
  have b := b_m_termOf_0 d (nI z) (nI (z + c.length)) I J
  rw [x_we_run hc f []] at q
  cases hx : x_ev f c with
  | none =>
    rw [hx] at q
    obtain ⟨I', a1, a2, a3⟩ := q
    exact ⟨I', b _ a1, fun _ => a2, fun w => absurd rfl w, a3⟩
  | some v =>
    rw [hx] at q
    obtain ⟨I', a1, a2, a3⟩ := q
    have b5 := b_m_termOf_5 d (nI (z + c.length)) (nI 1) (nI (z + c.length)) I' J
    rw [if_pos (Int32.le_refl _), show (0 : Int32) = nI 0 from rfl, am_at_n (by decide) (by omega), show I' 96 0 = v from a2.1] at b5
    exact ⟨I', b _ (a1 _ (b5 _ rfl)), fun w => absurd w (by simp), fun _ => a3 68 45 (by decide), fun c k hc _ => a3 c k hc⟩
def x_cl3 (lo hi v : Int32) : Int32 := if lo ≤ v then (if v ≤ hi then v else hi) else lo
theorem y_in {z : Nat} {c : x_Cd} {I : am_I} (h : y_cd z c I) : x_in 92 93 z c I := h
/-- the branches of a law from one on -/
theorem r_evL {f : Nat → Int32} {sd k0 nb0 n : Nat} {lo hi : Int32} (hk0 : k0 < 36) (hn : n ≤ 259) (hlo : lo ≤ 0) (hhi : 0 ≤ hi) : ∀ (l : List x_Br) (c : x_Cd) (j z : Nat) (I : am_I), x_wl (l, c) → I 86 k0 = nI (n + 1) → j + l.length = n → z ≤ 840 → (∀ i b, l[i]? = some b → r_br sd (j + i) z b I) → r_lst sd n z c I → (∀ k, k < 6 → I 95 k = f k) → I 68 45 = 0 → ∃ I', f_m_tells_30 d (nI k0) lo hi (nI j) I J = some (some (.int (x_cl3 lo hi (x_lwv f l c))), I', J) ∧ ∀ c k, c ≠ 96 → (c ≠ 68 ∨ k ≠ 45) → I' c k = I c k := by
  have fin0 : x_cl3 lo hi 0 = 0 := by unfold x_cl3; rw [if_pos hlo, if_pos hhi]
  intro l
  induction l with
  | nil =>
    intro c j z I hw h86 hj hz hB hL hf h45
    obtain ⟨g1, z1, g2, g3, g4, g5, g6⟩ := hL
    have ej : j = n := by simpa using hj
    subst ej
    obtain ⟨I1, a1, a2, a3, a4⟩ := r_evE d J hw.2 (show z1 + c.length ≤ 840 by omega) (y_in g6) hf
    have b := b_m_tells_30 d (nI k0) lo hi (nI j) I J
    rw [am_at_n hk0 (by omega), h86, if_neg (nI_ge (by omega) (by omega)), am_at_n (by omega) (by omega), g1, if_pos rfl, am_at_n (by omega) (by omega), am_at_n (by omega) (by omega), g2, g3, a1, am_bi_i] at b
    unfold x_lwv
    refine ⟨I1, b _ ?_, a4⟩
    cases hx : x_ev f c with
    | none =>
      rw [if_neg (show ¬ I1 68 45 = 0 by rw [a2 hx]; decide)]
      rw [show (none : Option Int32).getD 0 = 0 from rfl, fin0]
    | some v =>
      rw [hx] at a3
      rw [if_pos (show I1 68 45 = 0 by rw [a3 (by simp), h45])]
      show (if lo ≤ v then if v ≤ hi then some (some (Value.int v), I1, J) else some (some (Value.int hi), I1, J) else some (some (Value.int lo), I1, J)) = some (some (Value.int (x_cl3 lo hi v)), I1, J)
      unfold x_cl3
      by_cases w1 : lo ≤ v
      · rw [if_pos w1, if_pos w1]
        by_cases w2 : v ≤ hi
        · rw [if_pos w2, if_pos w2]
        · rw [if_neg w2, if_neg w2]
      · rw [if_neg w1, if_neg w1]
  | cons q l ih =>
    intro c j z I hw h86 hj hz hB hL hf h45
    rw [List.length_cons] at hj
    obtain ⟨g1, z1, g2, g3, g4, g5, g6, g7, g8, g9, g10⟩ := hB 0 q rfl
    rw [Nat.add_zero] at g1 g2 g3 g4 g5
    obtain ⟨w1, w2, w3⟩ := hw.1 q (by simp)
    obtain ⟨I1, a1, a2, a3, a4⟩ := r_evE d J w1 (show z1 + q.1.length ≤ 840 by omega) (y_in g8) hf
    have k1 : ∀ c k, c ≠ 96 → c ≠ 68 → I1 c k = I c k := fun c k h1 h2 => a4 c k h1 (Or.inl h2)
    obtain ⟨I2, e1, e2, e3, e4⟩ := r_evE d J w2 (I := I1) (show z1 + q.1.length + q.2.1.length ≤ 840 by omega) ((y_in g9).k (fun k => ⟨k1 92 k (by decide) (by decide), k1 93 k (by decide) (by decide)⟩)) (fun k hk => (k1 95 k (by decide) (by decide)).trans (hf k hk))
    have k2 : ∀ c k, c ≠ 96 → c ≠ 68 → I2 c k = I c k := fun c k h1 h2 => (e4 c k h1 (Or.inl h2)).trans (k1 c k h1 h2)
    have fr2 : ∀ c k, c ≠ 96 → (c ≠ 68 ∨ k ≠ 45) → I2 c k = I c k := fun c k h1 h2 => (e4 c k h1 h2).trans (a4 c k h1 h2)
    have b := b_m_tells_30 d (nI k0) lo hi (nI j) I J
    rw [am_at_n hk0 (by omega), h86, if_neg (nI_ge (by omega) (by omega)), am_at_n (by omega) (by omega), g1, if_neg (by decide), am_at_n (by omega) (by omega), am_at_n (by omega) (by omega), g2, g3, a1, am_bi_i, am_at_n (by omega) (by omega), am_at_n (by omega) (by omega), k1 89 j (by decide) (by decide), k1 90 j (by decide) (by decide), g3, g4, e1, am_bi_i] at b
    by_cases hbr : x_ev f q.1 = none ∨ x_ev f q.2.1 = none
    · have h452 : I2 68 45 = 1 := by
        rcases hbr with h | h
        · by_cases h2 : x_ev f q.2.1 = none
          · exact e2 h2
          · rw [e3 h2, a2 h]
        · exact e2 h
      rw [if_neg (show ¬ I2 68 45 = 0 by rw [h452]; decide)] at b
      have ez : x_lwv f (q :: l) c = 0 := by
        unfold x_lwv
        rcases hbr with h | h
        · rw [h]
        · rw [h]
          cases x_ev f q.1 <;> rfl
      rw [ez, fin0]
      exact ⟨I2, b _ rfl, fr2⟩
    · cases hx1 : x_ev f q.1 with
      | none => exact absurd (Or.inl hx1) hbr
      | some u =>
        cases hx2 : x_ev f q.2.1 with
        | none => exact absurd (Or.inr hx2) hbr
        | some v =>
          rw [hx1] at a3 b
          rw [hx2] at e3 b
          have h452 : I2 68 45 = 0 := by rw [e3 (by simp), a3 (by simp), h45]
          rw [if_pos h452] at b
          have b' : am_le (if u < v then am_at (nI j) 260 (fun j18 => am_at (nI j) 260 (fun j19 => am_bi (f_m_termOf_0 d (I2 90 j18) (I2 91 j19) I2 J) (fun y22 I20 J21 => if (I20 68 45) = 0 then if lo ≤ y22 then if y22 ≤ hi then some (some (.int y22), I20, J21) else some (some (.int hi), I20, J21) else some (some (.int lo), I20, J21) else some (some (.int (0 : Int32)), I20, J21))) none) none else f_m_tells_30 d (nI k0) lo hi (nI j + (1 : Int32)) I2 J) (f_m_tells_30 d (nI k0) lo hi (nI j) I J) := b
          rw [show x_lwv f (q :: l) c = if u < v then (x_ev f q.2.2).getD 0 else x_lwv f l c by
            show (match x_ev f q.1, x_ev f q.2.1 with
              | some u, some v => if u < v then (x_ev f q.2.2).getD 0 else x_lwv f l c
              | _, _ => 0) = _
            rw [hx1, hx2]]
          show ∃ I' : am_I, f_m_tells_30 d (nI k0) lo hi (nI j) I J = some (some (Value.int (x_cl3 lo hi (if u < v then (x_ev f q.2.2).getD 0 else x_lwv f l c))), I', J) ∧ ∀ c k, c ≠ 96 → (c ≠ 68 ∨ k ≠ 45) → I' c k = I c k
          by_cases hlt : u < v
          · obtain ⟨I3, t1, t2, t3, t4⟩ := r_evE d J w3 (I := I2) (show z1 + q.1.length + q.2.1.length + q.2.2.length ≤ 840 by omega) ((y_in g10).k (fun k => ⟨k2 92 k (by decide) (by decide), k2 93 k (by decide) (by decide)⟩)) (fun k hk => (k2 95 k (by decide) (by decide)).trans (hf k hk))
            rw [if_pos hlt]
            rw [if_pos hlt, am_at_n (by omega) (by omega), am_at_n (by omega) (by omega), k2 90 j (by decide) (by decide), k2 91 j (by decide) (by decide), g4, g5, t1, am_bi_i] at b'
            refine ⟨I3, b' _ ?_, fun c k h1 h2 => (t4 c k h1 h2).trans (fr2 c k h1 h2)⟩
            cases hx : x_ev f q.2.2 with
            | none =>
              rw [if_neg (show ¬ I3 68 45 = 0 by rw [t2 hx]; decide)]
              rw [show (none : Option Int32).getD 0 = 0 from rfl, fin0]
            | some v =>
              rw [hx] at t3
              rw [if_pos (show I3 68 45 = 0 by rw [t3 (by simp), h452])]
              show (if lo ≤ v then if v ≤ hi then some (some (Value.int v), I3, J) else some (some (Value.int hi), I3, J) else some (some (Value.int lo), I3, J)) = some (some (Value.int (x_cl3 lo hi v)), I3, J)
              unfold x_cl3
              by_cases w1 : lo ≤ v
              · rw [if_pos w1, if_pos w1]
                by_cases w2 : v ≤ hi
                · rw [if_pos w2, if_pos w2]
                · rw [if_neg w2, if_neg w2]
              · rw [if_neg w1, if_neg w1]
          · rw [if_neg hlt]
            rw [if_neg hlt, nI_1] at b'
            have lok : r_lo sd z I I2 := fun c k hc _ => k2 c k (by omega) (by omega)
            have blk : ∀ m, r_bl m I I2 := fun m c k hc _ => k2 c k (by omega) (by omega)
            obtain ⟨I3, t1, t2⟩ := ih c (j + 1) z I2 ⟨fun b' hb' => hw.1 b' (by simp [hb']), hw.2⟩ ((k2 86 k0 (by decide) (by decide)).trans h86) (by omega) hz (fun i b' hb' => by
              have := hB (i + 1) b' (by rw [List.getElem?_cons_succ]; exact hb')
              rw [show j + (i + 1) = j + 1 + i by omega] at this
              exact this.k lok (blk _) (Nat.lt_succ_self _) (Nat.le_refl _)) (hL.k lok (blk _) (Nat.lt_succ_self _) (Nat.le_refl _)) (fun k hk => (k2 95 k (by decide) (by decide)).trans (hf k hk)) h452
            exact ⟨I3, b' _ t1, fun c k h1 h2 => (t2 c k h1 h2).trans (fr2 c k h1 h2)⟩
end ZE

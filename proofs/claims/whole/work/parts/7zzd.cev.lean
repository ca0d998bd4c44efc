/-! what a law says: the class's -/
theorem nI_pm (k : Nat) : nI (k + 1) + (-1 : Int32) = nI k := (Int32.sub_eq_add_neg _ _).symm.trans (nI_pred k)
def x_sk (q : Nat) (I : am_I) : List Int32 → Prop
  | [] => True
  | a :: W => I q W.length = a ∧ x_sk q I W
theorem x_sk_keep {q : Nat} {I I' : am_I} : ∀ W : List Int32, (∀ j, j < W.length → I' q j = I q j) → x_sk q I W → x_sk q I' W := by
  intro W
  induction W with
  | nil => intro _ _; trivial
  | cons a W ih =>
    intro e h
    exact ⟨(e W.length (by simp)).trans h.1, ih (fun j hj => e j (by simp; omega)) h.2⟩
/-- a code in two cells -/
def x_in (p q z : Nat) (c : x_Cd) (I : am_I) : Prop := ∀ i w, c[i]? = some w → I p (z + i) = w.1 ∧ I q (z + i) = w.2
theorem x_in.hd {p q z : Nat} {o a : Int32} {c : x_Cd} {I : am_I} (h : x_in p q z ((o, a) :: c) I) : I p z = o ∧ I q z = a := h 0 _ rfl
theorem x_in.tl {p q z : Nat} {w : Int32 × Int32} {c : x_Cd} {I : am_I} (h : x_in p q z (w :: c) I) : x_in p q (z + 1) c I := fun i v hv => by
  have := h (i + 1) v hv
  rwa [show z + (i + 1) = z + 1 + i by omega] at this
theorem x_in.k {p q z : Nat} {c : x_Cd} {I I' : am_I} (h : x_in p q z c I) (e : ∀ k, I' p k = I p k ∧ I' q k = I q k) : x_in p q z c I' := fun i w hw => by
  rw [(e _).1, (e _).2]
  exact h i w hw
theorem x_in.l {p q z : Nat} {c c' : x_Cd} {I : am_I} (h : x_in p q z (c ++ c') I) : x_in p q z c I := fun i w hw => h i w (by
  have hl := (List.getElem?_eq_some_iff.mp hw).1
  rw [List.getElem?_append_left hl]
  exact hw)
theorem x_in.r {p q z : Nat} {c c' : x_Cd} {I : am_I} (h : x_in p q z (c ++ c') I) : x_in p q (z + c.length) c' I := fun i w hw => by
  have := h (c.length + i) w (by
    rw [List.getElem?_append_right (by omega), show c.length + i - c.length = i by omega]
    exact hw)
  rwa [← Nat.add_assoc] at this
section ZD
variable (d : Nat) (J : am_J)
theorem c_ev1 {f : Nat → Int32} {sz : Nat} (hsz : sz ≤ 400) : ∀ (c : x_Cd) (S : List Int32) (z n h' : Nat) (I : am_I), S.length ≤ 16 → x_ht 16 c S.length = some h' → x_in 17 18 z c I → x_sk 20 I S → (∀ k, k < 6 → I 19 k = f k) → I 16 4 = nI sz → z + c.length < sz → n ≤ z → match x_run2 f c S with
    | none => ∃ I', f_plan_code_valueOf_7 d (nI S.length) (nI z) (nI n) I J = some (some (.int 0), I', J) ∧ ∀ c k, c ≠ 20 → I' c k = I c k
    | some S' => ∃ I' n', n' ≤ z + c.length ∧ (∀ r, f_plan_code_valueOf_7 d (nI S'.length) (nI (z + c.length)) (nI n') I' J = some r → f_plan_code_valueOf_7 d (nI S.length) (nI z) (nI n) I J = some r) ∧ x_sk 20 I' S' ∧ ∀ c k, c ≠ 20 → I' c k = I c k := by
  intro c
  induction c with
  | nil =>
    intro S z n h' I _ _ _ hs _ _ _ hn
    exact ⟨I, n, hn, fun r hr => hr, hs, fun _ _ _ => rfl⟩
  | cons q c ih =>
    intro S z n h' I hS16 ht hin hs hf h4 hz hn
    obtain ⟨o, a⟩ := q
    obtain ⟨e17, e18⟩ := hin.hd
    have hl : ((o, a) :: c).length = c.length + 1 := rfl
    rw [hl] at hz
    have b := b_plan_code_valueOf_7 d (nI S.length) (nI z) (nI n) I J
    rw [if_neg (show ¬ (400 : Int32) ≤ nI n from nI_ge (b := 400) (by omega) (by omega)), if_neg (nI_pos (by omega)), h4, if_neg (nI_ge (by omega) (by omega)), am_at_n (by omega) (by omega), am_at_n (by omega) (by omega), e17, e18] at b
    rw [x_ht_c] at ht
    unfold x_run2
    have lift : ∀ (S1 : List Int32) (n1 : Nat) (I1 : am_I), (∀ r, f_plan_code_valueOf_7 d (nI S1.length) (nI (z + 1)) (nI n1) I1 J = some r → f_plan_code_valueOf_7 d (nI S.length) (nI z) (nI n) I J = some r) → n1 ≤ z + 1 → S1.length ≤ 16 → x_ht 16 c S1.length = some h' → x_sk 20 I1 S1 → (∀ c k, c ≠ 20 → I1 c k = I c k) → match x_run2 f c S1 with
        | none => ∃ I', f_plan_code_valueOf_7 d (nI S.length) (nI z) (nI n) I J = some (some (.int 0), I', J) ∧ ∀ c k, c ≠ 20 → I' c k = I c k
        | some S' => ∃ I' n', n' ≤ z + (c.length + 1) ∧ (∀ r, f_plan_code_valueOf_7 d (nI S'.length) (nI (z + (c.length + 1))) (nI n') I' J = some r → f_plan_code_valueOf_7 d (nI S.length) (nI z) (nI n) I J = some r) ∧ x_sk 20 I' S' ∧ ∀ c k, c ≠ 20 → I' c k = I c k := fun S1 n1 I1 hr hn1 hl1 ht1 hs1 hk1 => by
      have q := ih S1 (z + 1) n1 h' I1 hl1 ht1 (hin.tl.k (fun k => ⟨hk1 17 k (by decide), hk1 18 k (by decide)⟩)) hs1 (fun k hk => (hk1 19 k (by decide)).trans (hf k hk)) ((hk1 16 4 (by decide)).trans h4) (by omega) hn1
      cases hx : x_run2 f c S1 with
      | none =>
        rw [hx] at q
        obtain ⟨I', a1, a2⟩ := q
        exact ⟨I', hr _ a1, fun c k hc => (a2 c k hc).trans (hk1 c k hc)⟩
      | some S' =>
        rw [hx] at q
        obtain ⟨I', n', a1, a2, a3, a4⟩ := q
        refine ⟨I', n', by omega, fun r h => hr _ (a2 r ?_), a3, fun c k hc => (a4 c k hc).trans (hk1 c k hc)⟩
        rw [show z + 1 + c.length = z + (c.length + 1) by omega]
        exact h
    have sk1 : ∀ v, x_sk 20 (am_upd I 20 S.length v) (v :: S) := fun v => ⟨am_ue, x_sk_keep S (fun j hj => am_uk (by omega)) hs⟩
    rw [show ((o, a) :: c).length = c.length + 1 from rfl]
    by_cases q0 : o = 0
    · rw [if_pos q0] at ht ⊢
      by_cases q1 : 0 ≤ a ∧ S.length < 16
      · rw [if_pos q1] at ht
        rw [q0, if_neg (by decide), if_neg (by decide), if_neg (show ¬ (16 : Int32) ≤ nI S.length from nI_ge (b := 16) q1.2 (by omega)), if_neg (Int32.not_lt.mpr q1.1), if_neg (by decide), if_pos rfl, am_at_n q1.2 (by omega), nI_1, nI_1, nI_1] at b
        exact lift (a :: S) (n + 1) _ (fun r hr => b _ hr) (by omega) (by rw [List.length_cons]; omega) ht (sk1 a) (fun c k hc => am_uc hc)
      · rw [if_neg q1] at ht; exact absurd ht (by simp)
    rw [if_neg q0] at ht ⊢
    by_cases q1 : o = 1
    · rw [if_pos q1] at ht ⊢
      by_cases q2 : 0 ≤ a ∧ a < 6 ∧ S.length < 16
      · rw [if_pos q2] at ht
        obtain ⟨j, j0, j1⟩ := nI_of (Int32.not_lt.mpr q2.1)
        have j6 : j < 6 := by
          have := q2.2.1
          rw [j1] at this
          by_cases w : j < 6
          · exact w
          · exact absurd this (nI_nlt (b := 6) (by omega) j0)
        rw [q1, if_neg (by decide), if_neg (by decide), if_neg (show ¬ (16 : Int32) ≤ nI S.length from nI_ge (b := 16) q2.2.2 (by omega)), if_neg (Int32.not_lt.mpr q2.1), if_pos rfl, if_pos q2.2.1, if_neg (by decide), j1, am_at_n j6 (by omega), am_at_n q2.2.2 (by omega), nI_1, nI_1, nI_1, hf j j6] at b
        have ej : f (a.toNatClampNeg % 6) = f j := by rw [j1, nI_clamp j0, Nat.mod_eq_of_lt j6]
        rw [ej]
        exact lift (f j :: S) (n + 1) _ (fun r hr => b _ hr) (by omega) (by rw [List.length_cons]; omega) ht (sk1 (f j)) (fun c k hc => am_uc hc)
      · rw [if_neg q2] at ht; exact absurd ht (by simp)
    rw [if_neg q1] at ht ⊢
    by_cases q2 : o = 2 ∨ o = 3 ∨ o = 4 ∨ o = 5
    · rw [if_pos q2] at ht
      by_cases q3 : 2 ≤ S.length
      · rw [if_pos q3] at ht
        have o7 : o ≠ 7 ∧ 1 < o := by rcases q2 with rfl | rfl | rfl | rfl <;> decide
        match S, q3, ht, hs, b, lift, hS16 with
        | y :: x :: S', _, ht, hs, b, lift, hS16 =>
          have l2 : (y :: x :: S').length = S'.length + 1 + 1 := rfl
          have h16 : S'.length + 1 < 16 := by rw [l2] at hS16; omega
          have b131 := b_plan_code_valueOf_131 d (nI (y :: x :: S').length) (nI (z + 1)) (nI n) o a I J
          rw [l2] at b131
          rw [if_pos (show (2 : Int32) ≤ nI (S'.length + 1 + 1) from nI_le (a := 2) (by omega) (by omega)), nI_pm, nI_pred, am_at_n (by omega) (by omega), am_at_n h16 (by omega), show I 20 S'.length = x from hs.2.1, show I 20 (S'.length + 1) = y from hs.1] at b131
          rw [if_neg o7.1, if_pos o7.2, nI_1] at b
          have b159 := b_plan_code_valueOf_159 d (nI (S'.length + 1)) (nI (z + 1)) (nI n) o a x y I J
          rw [nI_pred, am_at_n (by omega) (by omega), am_at_n (by omega) (by omega), am_at_n (by omega) (by omega), am_at_n (by omega) (by omega), nI_1] at b159
          have sk2 : ∀ v, x_sk 20 (am_upd I 20 S'.length v) (v :: S') := fun v => ⟨am_ue, x_sk_keep S' (fun j hj => am_uk (by omega)) hs.2.2⟩
          have go : ∀ v, (∀ r, f_plan_code_valueOf_7 d (nI (S'.length + 1)) (nI (z + 1)) (nI (n + 1)) (am_upd I 20 S'.length v) J = some r → f_plan_code_valueOf_159 d (nI (S'.length + 1)) (nI (z + 1)) (nI n) o a x y I J = some r) → match x_run2 f c (v :: S') with
              | none => ∃ I', f_plan_code_valueOf_7 d (nI (y :: x :: S').length) (nI z) (nI n) I J = some (some (.int 0), I', J) ∧ ∀ c k, c ≠ 20 → I' c k = I c k
              | some S2 => ∃ I' n', n' ≤ z + (c.length + 1) ∧ (∀ r, f_plan_code_valueOf_7 d (nI S2.length) (nI (z + (c.length + 1))) (nI n') I' J = some r → f_plan_code_valueOf_7 d (nI (y :: x :: S').length) (nI z) (nI n) I J = some r) ∧ x_sk 20 I' S2 ∧ ∀ c k, c ≠ 20 → I' c k = I c k := fun v hv =>
            lift (v :: S') (n + 1) _ (fun r hr => b _ (b131 _ (hv r hr))) (by omega) (by rw [List.length_cons]; omega) ht (sk2 v) (fun c k hc => am_uc hc)
          show match (match x_opv o x y with | none => none | some v => x_run2 f c (v :: S')) with
            | none => _
            | some S2 => _
          rcases q2 with rfl | rfl | rfl | rfl
          · exact go (x + y) (fun r hr => b159 _ (by rw [if_pos rfl]; exact hr))
          · exact go (x - y) (fun r hr => b159 _ (by rw [if_neg (by decide), if_pos rfl]; exact hr))
          · exact go (x * y) (fun r hr => b159 _ (by rw [if_neg (by decide), if_neg (by decide), if_pos rfl]; exact hr))
          · by_cases w : y = 0
            · rw [show x_opv 5 x y = none by unfold x_opv; rw [if_neg (by decide), if_neg (by decide), if_neg (by decide), if_pos w]]
              rw [if_neg (by decide), if_neg (by decide), if_neg (by decide), if_pos rfl, if_pos w] at b159
              exact ⟨I, b _ (b131 _ (b159 _ rfl)), fun _ _ _ => rfl⟩
            · rw [show x_opv 5 x y = some (x / y) by unfold x_opv; rw [if_neg (by decide), if_neg (by decide), if_neg (by decide), if_neg w]]
              exact go (x / y) (fun r hr => b159 _ (by rw [if_neg (by decide), if_neg (by decide), if_neg (by decide), if_pos rfl, if_neg w, if_neg w]; exact hr))
      · rw [if_neg q3] at ht; exact absurd ht (by simp)
    · rw [if_neg q2] at ht; exact absurd ht (by simp)
/-- an E over what waits -/
theorem c_evE {f : Nat → Int32} {sz : Nat} (hsz : sz ≤ 400) {c : x_Cd} (hc : x_we c) {S : List Int32} {z n : Nat} {I : am_I} (hS : S.length ≤ 1) (hin : x_in 17 18 z c I) (hs : x_sk 20 I S) (hf : ∀ k, k < 6 → I 19 k = f k) (h4 : I 16 4 = nI sz) (hz : z + c.length < sz) (hn : n ≤ z) : match x_ev f c with
    | none => ∃ I', f_plan_code_valueOf_7 d (nI S.length) (nI z) (nI n) I J = some (some (.int 0), I', J) ∧ ∀ c k, c ≠ 20 → I' c k = I c k
    | some v => ∃ I' n', n' ≤ z + c.length ∧ (∀ r, f_plan_code_valueOf_7 d (nI (S.length + 1)) (nI (z + c.length)) (nI n') I' J = some r → f_plan_code_valueOf_7 d (nI S.length) (nI z) (nI n) I J = some r) ∧ x_sk 20 I' (v :: S) ∧ ∀ c k, c ≠ 20 → I' c k = I c k := by
  have q := c_ev1 d J (f := f) hsz c S z n (S.length + 1) I (by omega) (hc 16 S.length (by omega)) hin hs hf h4 hz hn
  rw [x_we_run hc f S] at q
  cases hx : x_ev f c with
  | none => rw [hx] at q; exact q
  | some v => rw [hx] at q; exact q
theorem x_lay_c (z : Nat) (b : x_Br) (l : List x_Br) (c : x_Cd) : x_lay z (b :: l, c) = b.1 ++ (b.2.1 ++ ((6, nI (z + x_bl1 b)) :: (b.2.2 ++ ((7, 0) :: x_lay (z + x_bl1 b) (l, c))))) := by
  unfold x_lay
  show (x_by1 z b ++ x_lyb (z + x_bl1 b) l) ++ (c ++ [(7, 0)]) = _
  unfold x_by1
  simp only [List.append_assoc, List.cons_append, List.nil_append]
/-- a law -/
theorem c_evL {f : Nat → Int32} {sz : Nat} (hsz : sz ≤ 400) : ∀ (l : List x_Br) (c : x_Cd) (z n : Nat) (I : am_I), x_wl (l, c) → x_in 17 18 z (x_lay z (l, c)) I → (∀ k, k < 6 → I 19 k = f k) → I 16 4 = nI sz → z + (x_lay z (l, c)).length ≤ sz → n ≤ z → ∃ I', f_plan_code_valueOf_7 d 0 (nI z) (nI n) I J = some (some (.int (x_lwv f l c)), I', J) ∧ ∀ c k, c ≠ 20 → I' c k = I c k := by
  have ans : ∀ (c : x_Cd) (z n : Nat) (I : am_I), x_we c → x_in 17 18 z c I → I 17 (z + c.length) = 7 → (∀ k, k < 6 → I 19 k = f k) → I 16 4 = nI sz → z + c.length < sz → n ≤ z → ∃ I', f_plan_code_valueOf_7 d 0 (nI z) (nI n) I J = some (some (.int ((x_ev f c).getD 0)), I', J) ∧ ∀ c k, c ≠ 20 → I' c k = I c k := by
    intro c z n I hc hin h7 hf h4 hz hn
    have q := c_evE d J (f := f) hsz hc (S := []) (Nat.zero_le _) hin trivial hf h4 hz hn
    cases hx : x_ev f c with
    | none => rw [hx] at q; exact q
    | some v =>
      rw [hx] at q
      obtain ⟨I', n', a1, a2, a3, a4⟩ := q
      have b := b_plan_code_valueOf_7 d (nI 1) (nI (z + c.length)) (nI n') I' J
      rw [if_neg (show ¬ (400 : Int32) ≤ nI n' from nI_ge (b := 400) (by omega) (by omega)), if_neg (nI_pos (by omega)), a4 16 4 (by decide), h4, if_neg (nI_ge (by omega) (by omega)), am_at_n (by omega) (by omega), am_at_n (by omega) (by omega), a4 17 _ (by decide), h7, if_pos rfl, if_neg (show ¬ nI 1 ≤ 0 by decide), show nI 1 - 1 = nI 0 by decide, am_at_n (by decide) (by omega), show I' 20 0 = v from a3.1] at b
      exact ⟨I', a2 _ (b _ rfl), a4⟩
  intro l
  induction l with
  | nil =>
    intro c z n I hw hin hf h4 hz hn
    have hin' : x_in 17 18 z (c ++ [(7, 0)]) I := hin
    have len : (x_lay z ([], c)).length = c.length + 1 := by rw [x_lay_len]; show 0 + c.length + 1 = _; omega
    rw [len] at hz
    exact ans c z n I hw.2 hin'.l hin'.r.hd.1 hf h4 (by omega) hn
  | cons b l ih =>
    intro c z n I hw hin hf h4 hz hn
    obtain ⟨w1, w2, w3⟩ := hw.1 b (by simp)
    rw [x_lay_c] at hin hz
    simp only [List.length_append, List.length_cons] at hz
    have i1 := hin.l
    have i2 := hin.r.l
    have i3 := hin.r.r
    have i4 := i3.tl.l
    have i5 := i3.tl.r
    have hb1 : x_bl1 b = b.1.length + b.2.1.length + 1 + b.2.2.length + 1 := rfl
    unfold x_lwv
    have q := c_evE d J (f := f) hsz w1 (S := []) (Nat.zero_le _) i1 trivial hf h4 (by omega) hn
    cases hx1 : x_ev f b.1 with
    | none => rw [hx1] at q; exact q
    | some u =>
      rw [hx1] at q
      obtain ⟨I1, n1, a1, a2, a3, a4⟩ := q
      have k1 : ∀ k, I1 17 k = I 17 k ∧ I1 18 k = I 18 k := fun k => ⟨a4 17 k (by decide), a4 18 k (by decide)⟩
      have q2 := c_evE d J (f := f) hsz w2 (S := [u]) (Nat.le_refl _) (i2.k k1) a3 (fun k hk => (a4 19 k (by decide)).trans (hf k hk)) ((a4 16 4 (by decide)).trans h4) (by omega) a1
      cases hx2 : x_ev f b.2.1 with
      | none =>
        rw [hx2] at q2
        obtain ⟨I2, e1, e2⟩ := q2
        exact ⟨I2, a2 _ e1, fun c k hc => (e2 c k hc).trans (a4 c k hc)⟩
      | some v =>
        rw [hx2] at q2
        obtain ⟨I2, n2, e1, e2, e3, e4⟩ := q2
        have k2 : ∀ k, I2 17 k = I 17 k ∧ I2 18 k = I 18 k := fun k => ⟨(e4 17 k (by decide)).trans (k1 k).1, (e4 18 k (by decide)).trans (k1 k).2⟩
        have h42 : I2 16 4 = nI sz := (e4 16 4 (by decide)).trans ((a4 16 4 (by decide)).trans h4)
        have hf2 : ∀ k, k < 6 → I2 19 k = f k := fun k hk => (e4 19 k (by decide)).trans ((a4 19 k (by decide)).trans (hf k hk))
        obtain ⟨g17, g18⟩ := i3.hd
        -- the jump
        have b7 := b_plan_code_valueOf_7 d (nI 2) (nI (z + b.1.length + b.2.1.length)) (nI n2) I2 J
        rw [if_neg (show ¬ (400 : Int32) ≤ nI n2 from nI_ge (b := 400) (by omega) (by omega)), if_neg (nI_pos (by omega)), h42, if_neg (nI_ge (by omega) (by omega)), am_at_n (by omega) (by omega), am_at_n (by omega) (by omega), (k2 _).1, (k2 _).2, g17, g18, if_neg (by decide), if_pos (by decide), nI_1] at b7
        have b131 := b_plan_code_valueOf_131 d (nI 2) (nI (z + b.1.length + b.2.1.length + 1)) (nI n2) 6 (nI (z + x_bl1 b)) I2 J
        rw [if_pos (by decide), show nI 2 + (-1 : Int32) = nI 1 by decide, show nI 1 - 1 = nI 0 by decide, am_at_n (by decide) (by omega), am_at_n (by decide) (by omega), show I2 20 0 = u from e3.2.1, show I2 20 1 = v from e3.1] at b131
        have b159 := b_plan_code_valueOf_159 d (nI 1) (nI (z + b.1.length + b.2.1.length + 1)) (nI n2) 6 (nI (z + x_bl1 b)) u v I2 J
        rw [if_neg (by decide), if_neg (by decide), if_neg (by decide), if_neg (by decide), show nI 1 + (-1 : Int32) = 0 by decide, nI_1] at b159
        show ∃ I' : am_I, f_plan_code_valueOf_7 d 0 (nI z) (nI n) I J = some (some (Value.int (if u < v then (x_ev f b.2.2).getD 0 else x_lwv f l c)), I', J) ∧ ∀ c k, c ≠ 20 → I' c k = I c k
        by_cases hlt : u < v
        · rw [if_pos hlt]
          rw [if_neg (Int32.not_le.mpr hlt)] at b159
          have i4' : x_in 17 18 (z + b.1.length + b.2.1.length + 1) b.2.2 I2 := i4.k k2
          obtain ⟨I3, t1, t2⟩ := ans b.2.2 (z + b.1.length + b.2.1.length + 1) (n2 + 1) I2 w3 i4' (by rw [(k2 _).1]; exact i5.hd.1) hf2 h42 (by omega) (by omega)
          exact ⟨I3, a2 _ (e2 _ (b7 _ (b131 _ (b159 _ t1)))), fun c k hc => (t2 c k hc).trans ((e4 c k hc).trans (a4 c k hc))⟩
        · rw [if_neg hlt]
          rw [if_pos (Int32.not_lt.mp hlt)] at b159
          have i6 : x_in 17 18 (z + x_bl1 b) (x_lay (z + x_bl1 b) (l, c)) I2 := by
            have := i5.tl.k k2
            rwa [show z + b.1.length + b.2.1.length + 1 + b.2.2.length + 1 = z + x_bl1 b by omega] at this
          obtain ⟨I3, t1, t2⟩ := ih c (z + x_bl1 b) (n2 + 1) I2 ⟨fun b' hb' => hw.1 b' (by simp [hb']), hw.2⟩ i6 hf2 h42 (by omega) (by omega)
          exact ⟨I3, a2 _ (e2 _ (b7 _ (b131 _ (b159 _ t1)))), fun c k hc => (t2 c k hc).trans ((e4 c k hc).trans (a4 c k hc))⟩
end ZD

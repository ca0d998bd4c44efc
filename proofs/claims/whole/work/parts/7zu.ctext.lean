/-! a text: the class's -/
/-- what the reader has told of -/
def c_C (S : x_S) (z : Nat) (I : am_I) : Prop := c_bd S.1 I ∧ (I 22 7 = S.2.1.1 ∧ I 22 8 = S.2.1.2.1 ∧ I 22 9 = S.2.1.2.2) ∧ c_th S.2.2.1 I ∧ c_lw S.2.2.2.1 z I
/-- what comes of a text -/
def c_fin (Pl : Nat → Int32) (y : Int32) (I : am_I) : x_St × x_S → Prop
  | (.inl (f, a), _) => y = f ∧ (f = 1 ∨ f = 2) ∧ I 32 6 = Pl a
  | (.inr _, S) => y = S.2.2.2.2.1 ∧ I 32 6 = (if S.2.2.2.2.1 = 0 then -1 else Pl S.2.2.2.2.2) ∧ ∃ z, z ≤ 400 ∧ I 26 4 = nI z ∧ c_C S z I
theorem c_th.k {l : List Int32} {I I' : am_I} (h : c_th l I) (e : ∀ c k, (c = 25 ∨ (c = 22 ∧ k = 6)) → I' c k = I c k) : c_th l I' := ⟨(e 22 6 (Or.inr ⟨rfl, rfl⟩)).trans h.1, fun j v hj => (e 25 j (Or.inl rfl)).trans (h.2 j v hj)⟩
theorem x_129 {k : Int32} (h1 : k ≠ 129) (h2 : k ≠ 130) (h3 : k ≠ 131) : k < 129 ∨ 131 < k := by
  by_cases a : k < 129
  · exact Or.inl a
  by_cases b : 131 < k
  · exact Or.inr b
  exfalso
  have a1 := Int32.le_iff_toInt_le.mp (Int32.not_lt.mp a)
  have b1 := Int32.le_iff_toInt_le.mp (Int32.not_lt.mp b)
  have a2 : (129 : Int) ≤ k.toInt := a1
  have b2 : k.toInt ≤ 131 := b1
  rcases (show k.toInt = 129 ∨ k.toInt = 130 ∨ k.toInt = 131 by omega) with q | q | q
  · exact h1 (Int32.toInt_inj.mp q)
  · exact h2 (Int32.toInt_inj.mp q)
  · exact h3 (Int32.toInt_inj.mp q)
def c_tf (c k : Nat) : Prop := c ∉ ([22, 23, 24, 25, 26, 27, 28, 31, 32, 33] : List Nat)
section ZU
variable (J : am_J) {K V Pl B En : Nat → Int32} {Sm : Nat → Nat → Bool}
theorem c_text_end {st : x_St} {S : x_S} {z n1 d : Nat} {I : am_I} (h : c_at K V Pl st S.2.2.2.2 z I) (hc : ∀ t, st = .inr t → c_C S z I) (hq : (∃ f, st = .inl f) ∨ (∃ t, st = .inr t ∧ K t = 0 ∧ n1 ≤ 400)) : ∃ y I', f_reader_readText_6 d (nI n1) I J = some (some (.int y), I', J) ∧ c_fin Pl y I' (st, S) ∧ ∀ c k, c_tf c k → I' c k = I c k := by
  have b := b_reader_readText_6 d (nI n1) I J
  rcases hq with ⟨f, rfl⟩ | ⟨t, rfl, hK, hn⟩
  · obtain ⟨f, a⟩ := f
    have h5 := h.dead
    obtain ⟨_, _, _, q1, q2, q3, _⟩ := h
    refine ⟨I 32 5, I, b _ ?_, ⟨q2, q1, q3⟩, fun _ _ _ => rfl⟩
    by_cases w : (400 : Int32) < nI n1
    · rw [if_pos w, if_neg h5]
    · rw [if_neg w, if_neg h5, if_neg h5]
  · obtain ⟨h1, h2, h3, ⟨x1, x2, x3, x4, x5, x6, x7⟩, q2, q3⟩ := h
    have k4 : I 32 4 = 0 := by rw [x2, h1, hK]
    rw [if_neg (show ¬ (400 : Int32) < nI n1 from nI_nlt (a := 400) hn (by omega)), if_pos x3, if_pos k4, if_pos x3] at b
    have C := hc t rfl
    by_cases w : I 32 7 = 0
    · rw [if_pos w] at b
      have s0 : S.2.2.2.2.1 = 0 := by rw [← q2]; exact w
      exact ⟨I 32 5, I, b _ rfl, ⟨by rw [x3, s0], by rw [if_pos s0]; exact x7, z, by omega, x4, C⟩, fun _ _ _ => rfl⟩
    · rw [if_neg w] at b
      have s0 : S.2.2.2.2.1 ≠ 0 := by rw [← q2]; exact w
      have e : ∀ c k, c ≠ 32 → am_upd (am_upd I 32 5 (I 32 7)) 32 6 (am_upd I 32 5 (I 32 7) 32 8) c k = I c k := fun c k hc => by rw [am_uc hc, am_uc hc]
      obtain ⟨C1, ⟨C2, C3, C4⟩, C5, C6⟩ := C
      refine ⟨_, _, b _ rfl, ⟨?_, ?_, z, by omega, (e 26 4 (by decide)).trans x4, C1.k (fun c k hc => e c k (by omega)), ⟨(e 22 7 (by decide)).trans C2, (e 22 8 (by decide)).trans C3, (e 22 9 (by decide)).trans C4⟩, C5.k (fun c k hc => e c k (by omega)), C6.k (fun k => e 31 k (by decide)) (fun c k hc _ => e c k (by omega)) (Nat.le_refl _)⟩, fun c k hc => e c k (fun q => by rw [q] at hc; exact hc (by decide))⟩
      · rw [am_uk (by decide), am_ue, q2]
      · rw [am_ue, if_neg s0, am_uk (by decide), q3 s0]
/-- a statement -/
theorem c_tell (e : Nat) {S : x_S} {z t n1 : Nat} {I : am_I} (h : c_at K V Pl (.inr t) S.2.2.2.2 z I) (hC : c_C S z I) (hrc : x_rc K t) (hS : c_sm B Pl En K Sm) (h7 : I 7 = B) (h11 : I 11 = En) (hn : ∀ q ∈ S.1, q.1 < t) (hn1 : n1 ≤ 400) (hK : K t ≠ 0) : ∃ I' z', (∀ r, f_reader_readText_6 (e + 7) (nI (n1 + 1)) I' J = some r → f_reader_readText_6 (e + 7) (nI n1) I J = some r) ∧ c_at K V Pl (x_tell K V Sm S t).1 (x_tell K V Sm S t).2.2.2.2.2 z' I' ∧ (∀ t', (x_tell K V Sm S t).1 = .inr t' → c_C (x_tell K V Sm S t).2 z' I') ∧ ∀ c k, c_tf c k → I' c k = I c k := by
  have k4 : I 32 4 = K t := by rw [h.2.2.2.1.2.1, h.1]
  have h5 := h.2.2.2.1.2.2.1
  obtain ⟨C1, ⟨C2, C3, C4⟩, C5, C6⟩ := hC
  have b := b_reader_readText_6 (e + 7) (nI n1) I J
  rw [if_neg (show ¬ (400 : Int32) < nI n1 from nI_nlt (a := 400) hn1 (by omega)), if_pos h5, k4, if_neg hK] at b
  have tf : ∀ {c k : Nat} (L : List Nat), (∀ x ∈ L, x ∈ ([22, 23, 24, 25, 26, 27, 28, 31, 32, 33] : List Nat)) → c_tf c k → c ∉ L := fun L hL hc q => hc (hL _ q)
  have law : ∀ (kk : Nat) (w : Int32), kk < 3 → w = 129 + nI kk → K t = w → ∃ I' z', (∀ r, f_reader_readText_6 (e + 7) (nI (n1 + 1)) I' J = some r → f_reader_readText_6 (e + 7) (nI n1) I J = some r) ∧ c_at K V Pl (x_tlaw K V Sm kk w S t).1 (x_tlaw K V Sm kk w S t).2.2.2.2.2 z' I' ∧ (∀ t', (x_tlaw K V Sm kk w S t).1 = .inr t' → c_C (x_tlaw K V Sm kk w S t).2 z' I') ∧ ∀ c k, c_tf c k → I' c k = I c k := fun kk w hkk hw hq => by
    obtain ⟨I', z', a1, a2, a3, a4⟩ := c_law J e h hrc hkk hw hS h7 h11 C1 hn C6
    refine ⟨I', z', fun r hr => b _ ?_, a2, fun t' ht => ⟨C1.k (fun c k hc => a4 c k (by simp; omega)), ⟨(a4 22 7 (by decide)).trans C2, (a4 22 8 (by decide)).trans C3, (a4 22 9 (by decide)).trans C4⟩, C5.k (fun c k hc => a4 c k (by simp; omega)), a3 t' ht⟩, fun c k hc => a4 c k (tf _ (by decide) hc)⟩
    have hw2 : w ≠ 128 ∧ ¬ w < 129 ∧ ¬ 131 < w := by
      rw [hw]
      rcases (show kk = 0 ∨ kk = 1 ∨ kk = 2 by omega) with rfl | rfl | rfl <;> decide
    rw [hq, if_neg hw2.1, if_neg hw2.2.1, if_neg hw2.2.2, a1, am_bv_v, nI_1]
    exact hr
  unfold x_tell
  by_cases q0 : K t = 128
  · rw [if_pos q0]
    obtain ⟨I', a1, a2, a3, a4⟩ := c_board (e + 7) J h hrc hS h7 h11 C1 hn
    refine ⟨I', z, fun r hr => b _ ?_, a2, fun t' ht => ⟨a3 t' ht, ⟨(a4 22 7 (by decide) (by decide)).trans C2, (a4 22 8 (by decide) (by decide)).trans C3, (a4 22 9 (by decide) (by decide)).trans C4⟩, C5.k (fun c k hc => a4 c k (by simp; omega) (by omega)), C6.k (fun k => a4 31 k (by decide) (by omega)) (fun c k hc _ => a4 c k (by simp; omega) (by omega)) (Nat.le_refl _)⟩, fun c k hc => a4 c k (tf _ (by decide) hc) (Or.inl (fun q => hc (by rw [q]; decide)))⟩
    rw [if_pos q0, a1, am_bv_v, nI_1]
    exact hr
  rw [if_neg q0]
  rw [if_neg q0] at b
  by_cases q1 : K t = 129
  · rw [if_pos q1]; exact law 0 129 (by omega) (by decide) q1
  rw [if_neg q1]
  by_cases q2 : K t = 130
  · rw [if_pos q2]; exact law 1 130 (by omega) (by decide) q2
  rw [if_neg q2]
  by_cases q3 : K t = 131
  · rw [if_pos q3]; exact law 2 131 (by omega) (by decide) q3
  rw [if_neg q3]
  have b75 : ∀ r, f_reader_readText_75 (e + 7) (nI n1) I J = some r → f_reader_readText_6 (e + 7) (nI n1) I J = some r := fun r hr => b _ (by
    by_cases w : K t < 129
    · rw [if_pos w]; exact hr
    · rw [if_neg w, if_pos ((x_129 q1 q2 q3).resolve_left w)]; exact hr)
  have b2 := b_reader_readText_75 (e + 7) (nI n1) I J
  rw [k4] at b2
  by_cases q4 : K t = 132
  · rw [if_pos q4]
    obtain ⟨I', a1, a2, a3, a4⟩ := c_think (e + 7) J h
    refine ⟨I', z, fun r hr => b75 _ (b2 _ ?_), a2, fun t' ht => ⟨C1.k (fun c k hc => a4 c k (by simp; omega) (by omega)), ⟨(a4 22 7 (by decide) (by decide)).trans C2, (a4 22 8 (by decide) (by decide)).trans C3, (a4 22 9 (by decide) (by decide)).trans C4⟩, a3 t' ht, C6.k (fun k => a4 31 k (by decide) (by omega)) (fun c k hc _ => a4 c k (by simp; omega) (by omega)) (Nat.le_refl _)⟩, fun c k hc => a4 c k (tf _ (by decide) hc) (Or.inl (fun q => hc (by rw [q]; decide)))⟩
    rw [if_pos q4, a1, am_bv_v, nI_1]
    exact hr
  rw [if_neg q4]
  rw [if_neg q4] at b2
  have num : ∀ (w lo hi : Int32) (j : Nat), j ≠ 5 → j ≠ 6 → (∀ y I1 r, f_reader_readNumber_0 (e + 7) w lo hi I J = some (some (.int y), I1, J) → f_reader_readText_6 (e + 7) (nI (n1 + 1)) (am_upd I1 22 j y) J = some r → f_reader_readText_6 (e + 7) (nI n1) I J = some r) → ∃ I', (∀ r, f_reader_readText_6 (e + 7) (nI (n1 + 1)) I' J = some r → f_reader_readText_6 (e + 7) (nI n1) I J = some r) ∧ c_at K V Pl (x_nst K w t) (x_nsl V lo hi S.2.2.2.2 t) z I' ∧ (∀ t', x_nst K w t = .inr t' → c_bd S.1 I' ∧ (I' 22 j = V (t + 1) ∧ ∀ i, i ≠ j → I' 22 i = I 22 i) ∧ c_th S.2.2.1 I' ∧ c_lw S.2.2.2.1 z I') ∧ ∀ c k, c_tf c k → I' c k = I c k := fun w lo hi j hj5 hj6 run => by
    obtain ⟨y, I1, a1, a2, a3, a4⟩ := c_number (e + 7) J h w lo hi
    have u : ∀ c k, (c ≠ 22 ∨ k ≠ j) → c ≠ 32 → am_upd I1 22 j y c k = I c k := fun c k g1 g2 => (g1.elim am_uc am_uk).trans (a4 c k g2)
    refine ⟨_, fun r hr => run y I1 r a1 hr, ?_, fun t' ht => ⟨C1.k (fun c k hc => u c k (by omega) (by omega)), ⟨?_, fun i hi => u 22 i (Or.inr hi) (by decide)⟩, C5.k (fun c k hc => u c k (by omega) (by omega)), C6.k (fun k => u 31 k (Or.inl (by decide)) (by decide)) (fun c k hc _ => u c k (by omega) (by omega)) (Nat.le_refl _)⟩, fun c k hc => u c k (Or.inl (fun q => hc (by rw [q]; decide))) (fun q => hc (by rw [q]; decide))⟩
    · refine (a2.u (c0 := 22) (k0 := j) (v := y) (by decide)).sl (fun t' ht => ⟨?_, rfl⟩)
      obtain ⟨k0, k1, k2, k3, k5, w0, w1⟩ := x_nst_y ht
      rw [w0]
      rfl
    · obtain ⟨k0, k1, k2, k3, k5, w0, w1⟩ := x_nst_y ht
      rw [am_ue, a3 (t + 2) (by rw [w0, w1]), w0]
      rfl
  by_cases q5 : K t = 133
  · rw [if_pos q5]
    obtain ⟨I', a1, a2, a3, a4⟩ := num 133 0 9 7 (by decide) (by decide) (fun y I1 r h1 h2 => b75 _ (b2 _ (by rw [if_pos q5, h1, am_bi_i, nI_1]; exact h2)))
    exact ⟨I', z, a1, a2, fun t' ht => by
      obtain ⟨d1, ⟨d2, d3⟩, d4, d5⟩ := a3 t' ht
      exact ⟨d1, ⟨d2, (d3 8 (by decide)).trans C3, (d3 9 (by decide)).trans C4⟩, d4, d5⟩, a4⟩
  rw [if_neg q5]
  rw [if_neg q5] at b2
  by_cases q6 : K t = 134
  · rw [if_pos q6]
    obtain ⟨I', a1, a2, a3, a4⟩ := num 134 1 500 8 (by decide) (by decide) (fun y I1 r h1 h2 => b75 _ (b2 _ (by rw [if_pos q6, h1, am_bi_i, nI_1]; exact h2)))
    exact ⟨I', z, a1, a2, fun t' ht => by
      obtain ⟨d1, ⟨d2, d3⟩, d4, d5⟩ := a3 t' ht
      exact ⟨d1, ⟨(d3 7 (by decide)).trans C2, d2, (d3 9 (by decide)).trans C4⟩, d4, d5⟩, a4⟩
  rw [if_neg q6]
  rw [if_neg q6] at b2
  by_cases q7 : K t = 135
  · rw [if_pos q7]
    obtain ⟨I', a1, a2, a3, a4⟩ := num 135 0 999 9 (by decide) (by decide) (fun y I1 r h1 h2 => b75 _ (b2 _ (by rw [if_pos q7, h1, am_bi_i, nI_1]; exact h2)))
    exact ⟨I', z, a1, a2, fun t' ht => by
      obtain ⟨d1, ⟨d2, d3⟩, d4, d5⟩ := a3 t' ht
      exact ⟨d1, ⟨(d3 7 (by decide)).trans C2, (d3 8 (by decide)).trans C3, d2⟩, d4, d5⟩, a4⟩
  rw [if_neg q7]
  rw [if_neg q7] at b2
  obtain ⟨I', a1, a2, a3⟩ := c_fail (e + 7) J h (f := 1) (Or.inl rfl)
  exact ⟨I', z, fun r hr => b75 _ (b2 _ (by rw [a1, am_bv_v, nI_1]; exact hr)), a2, fun t' w => absurd w (by simp), fun c k hc => a3 c k (fun q => hc (by rw [q]; decide))⟩
theorem c_textL (e : Nat) (hS : c_sm B Pl En K Sm) : ∀ (n : Nat) (S : x_S) (z t n1 : Nat) (I : am_I), 401 ≤ t + n → n1 ≤ t → c_at K V Pl (.inr t) S.2.2.2.2 z I → c_C S z I → x_rc K t → I 7 = B → I 11 = En → (∀ q ∈ S.1, q.1 < t) → ∃ y I', f_reader_readText_6 (e + 7) (nI n1) I J = some (some (.int y), I', J) ∧ c_fin Pl y I' (x_text K V Sm n S t) ∧ ∀ c k, c_tf c k → I' c k = I c k := by
  intro n
  induction n with
  | zero =>
    intro S z t n1 I h1 h2 h _ _ _ _ _
    have := h.2.2.2.1.2.2.2.2.1
    omega
  | succ n ih =>
    intro S z t n1 I h1 h2 h hC hrc h7 h11 hn
    have ht := h.2.2.2.1.2.2.2.2.1
    unfold x_text
    by_cases q : K t = 0
    · rw [if_pos q]
      exact c_text_end J h (fun _ _ => hC) (Or.inr ⟨t, rfl, q, by omega⟩)
    · rw [if_neg q]
      obtain ⟨I1, z1, a1, a2, a3, a4⟩ := c_tell J e h hC hrc hS h7 h11 hn (n1 := n1) (by omega) q
      cases hx : (x_tell K V Sm S t).1 with
      | inl f =>
        rw [hx] at a2
        obtain ⟨y, I2, b1, b2, b3⟩ := c_text_end (d := e + 7) (n1 := n1 + 1) J a2 (fun t w => absurd w (by simp)) (Or.inl ⟨f, rfl⟩)
        exact ⟨y, I2, a1 _ b1, b2, fun c k hc => (b3 c k hc).trans (a4 c k hc)⟩
      | inr t' =>
        obtain ⟨g1, g2, g3⟩ := x_tell_g hrc hn hx
        have a3' := a3 t' hx
        rw [hx] at a2
        obtain ⟨y, I2, b1, b2, b3⟩ := ih (x_tell K V Sm S t).2 z1 t' (n1 + 1) I1 (by omega) (by omega) a2 a3' g1 ((funext fun k => a4 7 k (by unfold c_tf; decide)).trans h7) ((funext fun k => a4 11 k (by unfold c_tf; decide)).trans h11) g3
        exact ⟨y, I2, a1 _ b1, b2, fun c k hc => (b3 c k hc).trans (a4 c k hc)⟩
end ZU

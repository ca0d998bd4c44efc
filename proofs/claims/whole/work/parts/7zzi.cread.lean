/-! the class reads a text -/
section ZI
variable (d : Nat) (J : am_J)
theorem c_clear31 : ∀ k b (I : am_I), b + k = 18 → ∃ I', f_next_clear_31 d (nI b) I J = some (none, I', J) ∧ (∀ j, b ≤ j → j < 18 → I' 31 j = -1) ∧ I' 22 6 = 1 ∧ I' 25 0 = 1 ∧ ∀ c j, (c ≠ 31 ∨ j < b) → (c ≠ 22 ∨ j ≠ 6) → (c ≠ 25 ∨ j ≠ 0) → I' c j = I c j := by
  intro k
  induction k with
  | zero =>
    intro b I hb
    have e := b_next_clear_31 d (nI b) I J
    rw [if_pos (show (18 : Int32) ≤ nI b from nI_le (a := 18) (by omega) (by omega)), s_one, am_bv_v] at e
    exact ⟨_, e _ rfl, fun j h1 h2 => by omega, by rw [am_uc (by decide), am_ue], am_ue, fun c j _ h2 h3 => (h3.elim am_uc am_uk).trans (h2.elim am_uc am_uk)⟩
  | succ k ih =>
    intro b I hb
    have e := b_next_clear_31 d (nI b) I J
    rw [if_neg (show ¬ (18 : Int32) ≤ nI b from nI_ge (b := 18) (by omega) (by omega)), am_at_n (by omega) (by omega), nI_1] at e
    obtain ⟨I', a1, a2, a3, a4, a5⟩ := ih (b + 1) (am_upd I 31 b (-1)) (by omega)
    refine ⟨I', e _ a1, fun j h1 h2 => ?_, a3, a4, fun c j h1 h2 h3 => (a5 c j (by omega) h2 h3).trans (show am_upd I 31 b (-1) c j = I c j from h1.elim am_uc (fun q => am_uk (by omega)))⟩
    by_cases q : j = b
    · rw [a5 31 j (Or.inr (by omega)) (Or.inl (by decide)) (Or.inl (by decide)), q, am_ue]
    · exact a2 j (by omega) h2
theorem c_clear (I : am_I) : ∃ I', f_next_clear_0 d I J = some (none, I', J) ∧ (∀ j, j < 18 → I' 31 j = -1) ∧ I' 22 5 = 0 ∧ I' 22 6 = 1 ∧ I' 22 7 = 1 ∧ I' 22 8 = 120 ∧ I' 22 9 = 0 ∧ I' 25 0 = 1 ∧ I' 26 4 = 0 ∧ ∀ c k, c ∉ ([22, 25, 26, 31] : List Nat) → I' c k = I c k := by
  obtain ⟨I1, i1⟩ : ∃ I1, I1 = am_upd (am_upd (am_upd (am_upd (am_upd I 22 5 (0 : Int32)) 22 7 (1 : Int32)) 22 8 (120 : Int32)) 22 9 (0 : Int32)) 26 4 (0 : Int32) := ⟨_, rfl⟩
  have e := b_next_clear_0 d I J
  rw [← i1] at e
  obtain ⟨I', a1, a2, a3, a4, a5⟩ := c_clear31 d J 18 0 I1 rfl
  have g : ∀ j, j ≠ 6 → I' 22 j = I1 22 j := fun j hj => a5 22 j (Or.inl (by decide)) (Or.inr hj) (Or.inl (by decide))
  refine ⟨I', e _ a1, fun j hj => a2 j (Nat.zero_le _) hj, ?_, a3, ?_, ?_, ?_, a4, ?_, fun c k hc => ?_⟩
  · rw [g 5 (by decide), i1, am_uc (by decide), am_uk (by decide), am_uk (by decide), am_uk (by decide), am_ue]
  · rw [g 7 (by decide), i1, am_uc (by decide), am_uk (by decide), am_uk (by decide), am_ue]
  · rw [g 8 (by decide), i1, am_uc (by decide), am_uk (by decide), am_ue]
  · rw [g 9 (by decide), i1, am_uc (by decide), am_ue]
  · rw [a5 26 4 (Or.inl (by decide)) (Or.inl (by decide)) (Or.inl (by decide)), i1, am_ue]
  · simp only [List.mem_cons, List.not_mem_nil, not_or] at hc
    rw [a5 c k (Or.inl hc.2.2.2.1) (Or.inl hc.1) (Or.inl hc.2.1), i1, am_uc hc.2.2.1, am_uc hc.1, am_uc hc.1, am_uc hc.1, am_uc hc.1]
end ZI
theorem c_readText (e n : Nat) (hn : n ≤ 2000) (I : am_I) (J : am_J) (h6 : I 6 1 = nI n) : ∃ N y Ia I', f_reader_readText_0 (e + 7) I J = some (some (.int y), I', J) ∧ x_N (I 7) n N ∧ (∀ j, j < N → x_cl (I 4) (I 7) n Ia j) ∧ Ia 8 N = 0 ∧ Ia 10 N = nI n ∧ Ia 11 N = nI n ∧ c_fin (Ia 10) y I' (x_text (Ia 8) (Ia 9) (x_smb (I 7) n N) 401 x_S0 0) ∧ ∀ c k, c ∉ ([8, 9, 10, 11, 22, 23, 24, 25, 26, 27, 28, 31, 32, 33] : List Nat) → I' c k = I c k := by
  obtain ⟨I1, a1, a2, a3, a4, a5, a6, a7, a8, a9, a10⟩ := c_clear (e + 7) J I
  obtain ⟨I2, N, b1, b2, b3, b4, b5, b6, b7⟩ := s_scan (e + 7) n hn I1 J ((a10 6 1 (by decide)).trans h6)
  have e7 : I1 7 = I 7 := funext fun k => a10 7 k (by decide)
  have e4 : I1 4 = I 4 := funext fun k => a10 4 k (by decide)
  rw [e7] at b2 b3
  rw [e4] at b3
  obtain ⟨I3, i3⟩ : ∃ I3, I3 = am_upd (am_upd (am_upd (am_upd (am_upd (am_upd I2 32 3 (0 : Int32)) 32 4 (I2 8 0)) 32 5 (0 : Int32)) 32 6 (-1 : Int32)) 32 7 (0 : Int32)) 32 8 (-1 : Int32) := ⟨_, rfl⟩
  have k3 : ∀ c k, c ≠ 32 → I3 c k = I2 c k := fun c k h => by rw [i3, am_uc h, am_uc h, am_uc h, am_uc h, am_uc h, am_uc h]
  have sa : f_reader_startAnew_0 (e + 7) I J = some (none, I3, J) := by
    refine b_reader_startAnew_0 (e + 7) I J _ ?_
    rw [a1, am_bv_v, b1, am_bv_v, show (0 : Int32) = nI 0 from rfl, am_at_n (by decide) (by omega)]
    rw [show am_upd I2 32 3 (nI 0) 8 0 = I2 8 0 from am_uc (by decide), i3]
    rfl
  have f8 : I3 8 = I2 8 := funext fun k => k3 8 k (by decide)
  have f9 : I3 9 = I2 9 := funext fun k => k3 9 k (by decide)
  have f10 : I3 10 = I2 10 := funext fun k => k3 10 k (by decide)
  have f11 : I3 11 = I2 11 := funext fun k => k3 11 k (by decide)
  have fr : ∀ c k, c ∉ ([8, 9, 10, 11, 22, 25, 26, 31, 32] : List Nat) → I3 c k = I c k := fun c k hc => by
    simp only [List.mem_cons, List.not_mem_nil, not_or] at hc
    rw [k3 c k (by omega), b7 c k (by simp; omega), a10 c k (by simp; omega)]
  have z2 : ∀ c k, c ∉ ([8, 9, 10, 11] : List Nat) → c ≠ 32 → I3 c k = I1 c k := fun c k h1 h2 => (k3 c k h2).trans (b7 c k h1)
  have at0 : c_at (I2 8) (I2 9) (I2 10) (.inr 0) (0, 0) 0 I3 := by
    refine ⟨f8, f9, f10, ⟨?_, ?_, ?_, ?_, Nat.zero_le _, Nat.le_refl _, ?_⟩, ?_, fun w => absurd rfl w⟩
    · rw [i3, am_uk (by decide), am_uk (by decide), am_uk (by decide), am_uk (by decide), am_uk (by decide), am_ue]; rfl
    · rw [f8, i3, am_uk (by decide), am_uk (by decide), am_uk (by decide), am_uk (by decide), am_ue]
    · rw [i3, am_uk (by decide), am_uk (by decide), am_uk (by decide), am_ue]
    · rw [z2 26 4 (by decide) (by decide), a9]; rfl
    · rw [i3, am_uk (by decide), am_uk (by decide), am_ue]
    · rw [i3, am_uk (by decide), am_ue]
  have C0 : c_C x_S0 0 I3 := by
    refine ⟨⟨Nat.zero_le _, ?_, fun b q hq => absurd hq (by simp [x_S0])⟩, ⟨?_, ?_, ?_⟩, ⟨?_, fun j v hj => ?_⟩, fun i hi => ?_⟩
    · rw [z2 22 5 (by decide) (by decide), a3]; rfl
    · rw [z2 22 7 (by decide) (by decide), a5]; rfl
    · rw [z2 22 8 (by decide) (by decide), a6]; rfl
    · rw [z2 22 9 (by decide) (by decide), a7]; rfl
    · rw [z2 22 6 (by decide) (by decide), a4]; rfl
    · cases j with
      | zero => rw [z2 25 0 (by decide) (by decide), a8]; exact Option.some.inj hj
      | succ j => exact absurd hj (by simp [x_S0])
    · show I3 31 i = -1
      rw [z2 31 i (by decide) (by decide)]
      exact a2 i hi
  have hS := c_sm_of hn b2.2.1 b2.1 b3 b4 b5 b6
  obtain ⟨y, I4, t1, t2, t3⟩ := c_textL J e hS 401 x_S0 0 0 0 I3 (by omega) (Nat.le_refl _) at0 C0 (fun j hj => absurd hj (by omega)) (funext fun k => fr 7 k (by decide)) f11 (fun q hq => absurd hq (by simp [x_S0]))
  refine ⟨N, y, I2, I4, ?_, b2, b3, b4, b5, b6, t2, fun c k hc => ?_⟩
  · refine b_reader_readText_0 (e + 7) I J _ ?_
    rw [sa, am_bv_v]
    exact t1
  · simp only [List.mem_cons, List.not_mem_nil, not_or] at hc
    rw [t3 c k (by unfold c_tf; simp; omega), fr c k (by simp; omega)]
/-- the plan is taken over -/
theorem c_copy (d : Nat) (J : am_J) {S : x_S} {z : Nat} {I : am_I} (hV : x_VS S) (h0 : S.2.2.2.2.1 = 0) (hst : x_stc I) (hz : z ≤ 400) (h26 : I 26 4 = nI z) (hC : c_C S z I) : ∃ I', f_plan_copyFrom_0 d I J = some (none, I', J) ∧ g_C (x_pl S) I' ∧ ∀ c k, c ∉ ([12, 13, 14, 15, 16, 17, 18, 21] : List Nat) → I' c k = I c k := by
  obtain ⟨⟨C1, C2, C3⟩, ⟨C4, C5, C6⟩, ⟨C7, C8⟩, C9⟩ := hC
  obtain ⟨I1, i1⟩ : ∃ I1, I1 = am_upd (am_upd (am_upd (am_upd (am_upd I 12 5 (I 22 5)) 12 6 (I 22 6)) 12 7 (I 22 7)) 12 8 (I 22 8)) 12 9 (I 22 9) := ⟨_, rfl⟩
  have k1 : ∀ c k, c ≠ 12 → I1 c k = I c k := fun c k h => by rw [i1, am_uc h, am_uc h, am_uc h, am_uc h, am_uc h]
  obtain ⟨I2, i2⟩ : ∃ I2, I2 = am_upd (am_cpy (am_cpy I1 27 0 17 0 400) 28 0 18 0 400) 16 4 (I1 26 4) := ⟨_, rfl⟩
  have k2 : ∀ c k, c ≠ 16 → c ≠ 17 → c ≠ 18 → I2 c k = I1 c k := fun c k h1 h2 h3 => by rw [i2, am_uc h1, am_cc h3, am_cc h2]
  obtain ⟨I3, i3⟩ : ∃ I3, I3 = am_cpy (am_cpy (am_cpy (am_cpy I2 23 0 13 0 6) 24 0 14 0 6) 25 0 15 0 4) 31 0 21 0 18 := ⟨_, rfl⟩
  have k3 : ∀ c k, c ≠ 13 → c ≠ 14 → c ≠ 15 → c ≠ 21 → I3 c k = I2 c k := fun c k h1 h2 h3 h4 => by rw [i3, am_cc h4, am_cc h3, am_cc h2, am_cc h1]
  have run : f_plan_copyFrom_0 d I J = some (none, I3, J) := by
    have bc := b_plan_code_copyFrom_0 d I1 J
    rw [show am_cpy (am_cpy I1 27 (0 : Int32).toNatClampNeg 17 (0 : Int32).toNatClampNeg (400 : Int32).toNatClampNeg) 28 (0 : Int32).toNatClampNeg 18 (0 : Int32).toNatClampNeg (400 : Int32).toNatClampNeg = am_cpy (am_cpy I1 27 0 17 0 400) 28 0 18 0 400 from rfl] at bc
    have c4 : ∀ k : am_Out, am_cpc 0 0 400 400 400 k none = k := fun k => am_cpc_n (s := 0) (d := 0) (n := 400) (by omega) (by omega) (by omega) (by omega)
    have c6 : ∀ k : am_Out, am_cpc 0 0 6 6 6 k none = k := fun k => am_cpc_n (s := 0) (d := 0) (n := 6) (by omega) (by omega) (by omega) (by omega)
    have c44 : ∀ k : am_Out, am_cpc 0 0 4 4 4 k none = k := fun k => am_cpc_n (s := 0) (d := 0) (n := 4) (by omega) (by omega) (by omega) (by omega)
    have c18 : ∀ k : am_Out, am_cpc 0 0 18 18 18 k none = k := fun k => am_cpc_n (s := 0) (d := 0) (n := 18) (by omega) (by omega) (by omega) (by omega)
    rw [c4, c4, am_cc (show 26 ≠ 18 by decide), am_cc (show 26 ≠ 17 by decide), ← i2] at bc
    have b := b_plan_copyFrom_0 d I J
    rw [am_uc (show 22 ≠ 12 by decide), am_uc (show 22 ≠ 12 by decide), am_uc (show 22 ≠ 12 by decide), am_uc (show 22 ≠ 12 by decide), am_uc (show 22 ≠ 12 by decide), am_uc (show 22 ≠ 12 by decide), am_uc (show 22 ≠ 12 by decide), am_uc (show 22 ≠ 12 by decide), am_uc (show 22 ≠ 12 by decide), am_uc (show 22 ≠ 12 by decide), ← i1, bc _ rfl, am_bv_v, c6, c6, c44, c18] at b
    exact b _ (by rw [i3]; rfl)
  have fr : ∀ c k, c ∉ ([12, 13, 14, 15, 16, 17, 18, 21] : List Nat) → I3 c k = I c k := fun c k hc => by
    simp only [List.mem_cons, List.not_mem_nil, not_or] at hc
    rw [k3 c k (by omega) (by omega) (by omega) (by omega), k2 c k (by omega) (by omega) (by omega), k1 c k (by omega)]
  have e12 : ∀ k, I3 12 k = I1 12 k := fun k => (k3 12 k (by decide) (by decide) (by decide) (by decide)).trans (k2 12 k (by decide) (by decide) (by decide))
  have e16 : I3 16 4 = nI z := by
    rw [k3 16 4 (by decide) (by decide) (by decide) (by decide), i2, am_ue, k1 26 4 (by decide), h26]
  have e17 : ∀ k, k < 400 → I3 17 k = I 27 k := fun k hk => by
    rw [k3 17 k (by decide) (by decide) (by decide) (by decide), i2, am_uc (by decide), am_cc (by decide), am_ce (Nat.zero_le _) (by omega), k1 27 _ (by decide), Nat.sub_zero, Nat.zero_add]
  have e18 : ∀ k, k < 400 → I3 18 k = I 28 k := fun k hk => by
    rw [k3 18 k (by decide) (by decide) (by decide) (by decide), i2, am_uc (by decide), am_ce (Nat.zero_le _) (by omega), am_cc (by decide), k1 28 _ (by decide), Nat.sub_zero, Nat.zero_add]
  have e21 : ∀ k, k < 18 → I3 21 k = I 31 k := fun k hk => by
    rw [i3, am_ce (Nat.zero_le _) (by omega), am_cc (by decide), am_cc (by decide), am_cc (by decide), k2 31 _ (by decide) (by decide) (by decide), k1 31 _ (by decide), Nat.sub_zero, Nat.zero_add]
  have e13 : ∀ k, k < 6 → I3 13 k = I 23 k := fun k hk => by
    rw [i3, am_cc (by decide), am_cc (by decide), am_cc (by decide), am_ce (Nat.zero_le _) (by omega), k2 23 _ (by decide) (by decide) (by decide), k1 23 _ (by decide), Nat.sub_zero, Nat.zero_add]
  have e14 : ∀ k, k < 6 → I3 14 k = I 24 k := fun k hk => by
    rw [i3, am_cc (by decide), am_cc (by decide), am_ce (Nat.zero_le _) (by omega), am_cc (by decide), k2 24 _ (by decide) (by decide) (by decide), k1 24 _ (by decide), Nat.sub_zero, Nat.zero_add]
  have e15 : ∀ k, k < 4 → I3 15 k = I 25 k := fun k hk => by
    rw [i3, am_cc (by decide), am_ce (Nat.zero_le _) (by omega), am_cc (by decide), am_cc (by decide), k2 25 _ (by decide) (by decide) (by decide), k1 25 _ (by decide), Nat.sub_zero, Nat.zero_add]
  have st3 : x_stc I3 := by
    obtain ⟨⟨s1, s2, s3⟩, ⟨s4, s5, s6⟩, s7, s8, s9⟩ := hst
    exact ⟨⟨(fr 1 0 (by decide)).trans s1, (fr 1 1 (by decide)).trans s2, (fr 1 2 (by decide)).trans s3⟩, ⟨(fr 2 0 (by decide)).trans s4, (fr 2 1 (by decide)).trans s5, (fr 2 2 (by decide)).trans s6⟩, (fr 3 0 (by decide)).trans s7, (fr 3 1 (by decide)).trans s8, (fr 3 2 (by decide)).trans s9⟩
  refine ⟨I3, run, ⟨x_pl_OK hV h0, ?_, ?_, ?_, ?_, fun b hb => ?_, fun b hb => ?_, ?_, fun i hi => ?_, ?_⟩, fr⟩
  · rw [e12, i1, am_uk (by decide), am_uk (by decide), am_uk (by decide), am_uk (by decide), am_ue, C2]; rfl
  · rw [e12, i1, am_uk (by decide), am_uk (by decide), am_ue, C4]; rfl
  · rw [e12, i1, am_uk (by decide), am_ue, C5]; rfl
  · rw [e12, i1, am_ue, C6]; rfl
  · have hb' : b < S.1.length := hb
    rw [e13 b (by omega)]
    show I 23 b = (S.1[b]?.map (fun q : x_Bd => q.2.1)).getD 0
    rw [List.getElem?_eq_getElem hb']
    exact (C3 b _ (List.getElem?_eq_getElem hb')).2.1
  · have hb' : b < S.1.length := hb
    rw [e14 b (by omega)]
    show I 24 b = (S.1[b]?.map (fun q : x_Bd => q.2.2)).getD 0
    rw [List.getElem?_eq_getElem hb']
    exact (C3 b _ (List.getElem?_eq_getElem hb')).2.2
  · rw [e12, i1, am_uk (by decide), am_uk (by decide), am_uk (by decide), am_ue, C7]; rfl
  · have hi' : i < S.2.2.1.length := hi
    have := hV.2.1.2
    rw [e15 i (by omega)]
    show I 25 i = (S.2.2.1[i]?).getD 0
    rw [List.getElem?_eq_getElem hi']
    exact C8 i _ (List.getElem?_eq_getElem hi')
  · refine c_CL hV st3 e16 hz (fun i hi => ?_)
    have q := C9 i hi
    cases hL : S.2.2.2.1 i with
    | none => rw [hL] at q; exact (e21 i hi).trans q
    | some L =>
      rw [hL] at q
      obtain ⟨s0, q1, q2, q3⟩ := q
      exact ⟨s0, (e21 i hi).trans q1, q2, fun j w hw => by
        have hl := (List.getElem?_eq_some_iff.mp hw).1
        rw [e17 _ (by omega), e18 _ (by omega)]
        exact q3 j w hw⟩

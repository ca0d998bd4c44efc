/-! the law's loop -/
theorem l_at {i L j : Nat} {k : Nat → am_Out} {s : am_Out} (c : Int32) (hc : c = nI j) (h : i + j < L) (hL : L < 2 ^ 31) : am_at (nI i + c) (nI L).toNatClampNeg k s = k (i + j) := by
  rw [hc, nI_add, nI_clamp hL, am_at_n h hL]
theorem l_at0 {i L : Nat} {k : Nat → am_Out} {s : am_Out} (h : i < L) (hL : L < 2 ^ 31) : am_at (nI i) (nI L).toNatClampNeg k s = k i := by
  rw [nI_clamp hL, am_at_n h hL]
theorem l_sub {L : Nat} (hL : L ≤ 3072) : (nI L - 6).toInt = (L : Int) - 6 := by
  rw [Int32.toInt_sub, nI_toInt (by omega), show (6 : Int32).toInt = 6 from rfl]
  apply Int.bmod_eq_of_le <;> omega
theorem l_lt {L i : Nat} (hL : L ≤ 3072) (hi : i < 2 ^ 31) : (nI L - 6 < nI i) ↔ L < i + 6 := by
  rw [Int32.lt_iff_toInt_lt, l_sub hL, nI_toInt hi]
  omega
set_option maxHeartbeats 4000000 in
theorem l_step {I0 : am_I} {J0 : Nat → Int64} (hst0 : x_stc I0) (hW0 : x_W (I0 4) J0) {L : Nat} (hL : L ≤ 3072) (h0 : I0 0 4096 = nI L) {B : Int} {I : am_I} {J : am_J} (hB : 0 ≤ B) (hB2 : B ≤ 900000) (h : i_I I0 J0 B I J) {i : Nat} (hi : i + 6 ≤ L) : ∃ I2 J2, (∀ r, f_law_18 12 (nI (i + 6)) I2 J2 = some r → f_law_18 12 (nI i) I J = some r) ∧ i_I I0 J0 (B + 999) I2 J2 := by
  have hs : I 0 4096 = nI L := by
    obtain ⟨p, v, r, u, nx, w, n, hA⟩ := h
    rw [hA.2.2.2.2.2.2.2.1 0 4096 (by omega)]
    exact h0
  have h31 : L < 2 ^ 31 := by omega
  have s6 : nI i + 6 = nI (i + 6) := nI_add i 6
  have b := b_law_18 12 (nI i) I J
  rw [hs, if_neg (fun q => by have := (l_lt hL (by omega)).mp q; omega), l_at0 (by omega) h31] at b
  by_cases q0 : I 0 i &&& 31 = 0
  · rw [if_pos q0] at b
    obtain ⟨y, I1, I2, J2, a1, a2, a3, a4⟩ := (p_feed 12 (I 0 (i + 1)) (I 0 (i + 2)) (I 0 (i + 3)) (I 0 (i + 4)) (I 0 (i + 5))).to I0 J0 B I J hB hB2 h
    have hs1 : I1 0 4096 = nI L := (a3 4096).trans hs
    rw [l_at 1 rfl (show i + 1 < L by omega) h31, l_at 2 rfl (show i + 2 < L by omega) h31, l_at 3 rfl (show i + 3 < L by omega) h31, l_at 4 rfl (show i + 4 < L by omega) h31, l_at 5 rfl (show i + 5 < L by omega) h31, a1, am_bi_i, hs1, l_at 1 rfl (show i + 1 < L by omega) h31, l_at 2 rfl (show i + 2 < L by omega) h31, l_at 3 rfl (show i + 3 < L by omega) h31, l_at 4 rfl (show i + 4 < L by omega) h31, l_at 5 rfl (show i + 5 < L by omega) h31, a3 (i + 1), a3 (i + 2), a3 (i + 3), a3 (i + 4), a3 (i + 5), a2, am_bi_i, if_pos rfl, s6] at b
    exact ⟨I2, J2, fun r hr => b _ hr, a4⟩
  rw [if_neg q0] at b
  by_cases q1 : I 0 i &&& 31 = 1
  · rw [if_pos q1] at b
    obtain ⟨y, I1, I2, J2, a1, a2, a3, a4⟩ := (p_back 12 (I 0 (i + 1))).to I0 J0 B I J hB hB2 h
    have hs1 : I1 0 4096 = nI L := (a3 4096).trans hs
    rw [l_at 1 rfl (show i + 1 < L by omega) h31, a1, am_bi_i, hs1, l_at 1 rfl (show i + 1 < L by omega) h31, a3 (i + 1), a2, am_bi_i, if_pos rfl, s6] at b
    exact ⟨I2, J2, fun r hr => b _ hr, a4⟩
  rw [if_neg q1] at b
  by_cases q2 : I 0 i &&& 31 = 2
  · rw [if_pos q2] at b
    obtain ⟨y, I1, I2, J2, a1, a2, a3, a4⟩ := p_read 5 hst0 hW0 B I J hB hB2 h
    rw [a1, am_bi_i, a2, am_bi_i, if_pos rfl, s6] at b
    exact ⟨I2, J2, fun r hr => b _ hr, a4⟩
  rw [if_neg q2] at b
  by_cases q3 : I 0 i &&& 31 = 3
  · rw [if_pos q3] at b
    obtain ⟨y, I1, I2, J2, a1, a2, a3, a4⟩ := (p_place 12 ).to I0 J0 B I J hB hB2 h
    rw [a1, am_bi_i, a2, am_bi_i, if_pos rfl, s6] at b
    exact ⟨I2, J2, fun r hr => b _ hr, a4⟩
  rw [if_neg q3] at b
  by_cases q4 : I 0 i &&& 31 = 4
  · rw [if_pos q4] at b
    obtain ⟨y, I1, I2, J2, a1, a2, a3, a4⟩ := (p_board 12 (I 0 (i + 1)) (I 0 (i + 2))).to I0 J0 B I J hB hB2 h
    have hs1 : I1 0 4096 = nI L := (a3 4096).trans hs
    rw [l_at 1 rfl (show i + 1 < L by omega) h31, l_at 2 rfl (show i + 2 < L by omega) h31, a1, am_bi_i, hs1, l_at 1 rfl (show i + 1 < L by omega) h31, l_at 2 rfl (show i + 2 < L by omega) h31, a3 (i + 1), a3 (i + 2), a2, am_bi_i, if_pos rfl, s6] at b
    exact ⟨I2, J2, fun r hr => b _ hr, a4⟩
  rw [if_neg q4] at b
  by_cases q5 : I 0 i &&& 31 = 5
  · rw [if_pos q5] at b
    obtain ⟨y, I1, I2, J2, a1, a2, a3, a4⟩ := (p_sum 12 ).to I0 J0 B I J hB hB2 h
    rw [a1, am_bi_i, a2, am_bi_i, if_pos rfl, s6] at b
    exact ⟨I2, J2, fun r hr => b _ hr, a4⟩
  rw [if_neg q5] at b
  by_cases q6 : I 0 i &&& 31 = 6
  · rw [if_pos q6] at b
    obtain ⟨y, I1, I2, J2, a1, a2, a3, a4⟩ := (p_move 12 (I 0 (i + 1)) (I 0 (i + 2))).to I0 J0 B I J hB hB2 h
    have hs1 : I1 0 4096 = nI L := (a3 4096).trans hs
    rw [l_at 1 rfl (show i + 1 < L by omega) h31, l_at 2 rfl (show i + 2 < L by omega) h31, a1, am_bi_i, hs1, l_at 1 rfl (show i + 1 < L by omega) h31, l_at 2 rfl (show i + 2 < L by omega) h31, a3 (i + 1), a3 (i + 2), a2, am_bi_i, if_pos rfl, s6] at b
    exact ⟨I2, J2, fun r hr => b _ hr, a4⟩
  rw [if_neg q6] at b
  by_cases q7 : I 0 i &&& 31 = 7
  · rw [if_pos q7] at b
    obtain ⟨y, I1, I2, J2, a1, a2, a3, a4⟩ := (p_offer 12 (I 0 (i + 1))).to I0 J0 B I J hB hB2 h
    have hs1 : I1 0 4096 = nI L := (a3 4096).trans hs
    rw [l_at 1 rfl (show i + 1 < L by omega) h31, a1, am_bi_i, hs1, l_at 1 rfl (show i + 1 < L by omega) h31, a3 (i + 1), a2, am_bi_i, if_pos rfl, s6] at b
    exact ⟨I2, J2, fun r hr => b _ hr, a4⟩
  rw [if_neg q7] at b
  by_cases q8 : I 0 i &&& 31 = 8
  · rw [if_pos q8] at b
    obtain ⟨y, I1, I2, J2, a1, a2, a3, a4⟩ := (p_drop 12 (I 0 (i + 1))).to I0 J0 B I J hB hB2 h
    have hs1 : I1 0 4096 = nI L := (a3 4096).trans hs
    rw [l_at 1 rfl (show i + 1 < L by omega) h31, a1, am_bi_i, hs1, l_at 1 rfl (show i + 1 < L by omega) h31, a3 (i + 1), a2, am_bi_i, if_pos rfl, s6] at b
    exact ⟨I2, J2, fun r hr => b _ hr, a4⟩
  rw [if_neg q8] at b
  by_cases q9 : I 0 i &&& 31 = 9
  · rw [if_pos q9] at b
    obtain ⟨y, I1, I2, J2, a1, a2, a3, a4⟩ := (p_pause 12 (I 0 (i + 1))).to I0 J0 B I J hB hB2 h
    have hs1 : I1 0 4096 = nI L := (a3 4096).trans hs
    rw [l_at 1 rfl (show i + 1 < L by omega) h31, a1, am_bi_i, hs1, l_at 1 rfl (show i + 1 < L by omega) h31, a3 (i + 1), a2, am_bi_i, if_pos rfl, s6] at b
    exact ⟨I2, J2, fun r hr => b _ hr, a4⟩
  rw [if_neg q9] at b
  by_cases q10 : I 0 i &&& 31 = 10
  · rw [if_pos q10] at b
    obtain ⟨y, I1, I2, J2, a1, a2, a3, a4⟩ := (p_undo 12 ).to I0 J0 B I J hB hB2 h
    rw [a1, am_bi_i, a2, am_bi_i, if_pos rfl, s6] at b
    exact ⟨I2, J2, fun r hr => b _ hr, a4⟩
  rw [if_neg q10] at b
  by_cases q11 : I 0 i &&& 31 = 11
  · rw [if_pos q11] at b
    obtain ⟨y, I1, I2, J2, a1, a2, a3, a4⟩ := (p_begins 12 (I 0 (i + 1))).to I0 J0 B I J hB hB2 h
    have hs1 : I1 0 4096 = nI L := (a3 4096).trans hs
    rw [l_at 1 rfl (show i + 1 < L by omega) h31, a1, am_bi_i, hs1, l_at 1 rfl (show i + 1 < L by omega) h31, a3 (i + 1), a2, am_bi_i, if_pos rfl, s6] at b
    exact ⟨I2, J2, fun r hr => b _ hr, a4⟩
  rw [if_neg q11] at b
  by_cases q12 : I 0 i &&& 31 = 12
  · rw [if_pos q12] at b
    obtain ⟨y, I1, I2, J2, a1, a2, a3, a4⟩ := (p_best 12 (by decide) (I 0 (i + 1))).to I0 J0 B I J hB hB2 h
    have hs1 : I1 0 4096 = nI L := (a3 4096).trans hs
    rw [l_at 1 rfl (show i + 1 < L by omega) h31, a1, am_bi_i, hs1, l_at 1 rfl (show i + 1 < L by omega) h31, a3 (i + 1), a2, am_bi_i, if_pos rfl, s6] at b
    exact ⟨I2, J2, fun r hr => b _ hr, a4⟩
  rw [if_neg q12] at b
  by_cases q13 : I 0 i &&& 31 = 13
  · rw [if_pos q13] at b
    obtain ⟨y, I1, I2, J2, a1, a2, a3, a4⟩ := (p_bestAt 12 (by decide) (I 0 (i + 1)) (I 0 (i + 2))).to I0 J0 B I J hB hB2 h
    have hs1 : I1 0 4096 = nI L := (a3 4096).trans hs
    rw [l_at 1 rfl (show i + 1 < L by omega) h31, l_at 2 rfl (show i + 2 < L by omega) h31, a1, am_bi_i, hs1, l_at 1 rfl (show i + 1 < L by omega) h31, l_at 2 rfl (show i + 2 < L by omega) h31, a3 (i + 1), a3 (i + 2), a2, am_bi_i, if_pos rfl, s6] at b
    exact ⟨I2, J2, fun r hr => b _ hr, a4⟩
  rw [if_neg q13] at b
  by_cases q14 : I 0 i &&& 31 = 14
  · rw [if_pos q14] at b
    obtain ⟨y, I1, I2, J2, a1, a2, a3, a4⟩ := (p_rule 12 (I 0 (i + 1)) (I 0 (i + 2)) (I 0 (i + 3))).to I0 J0 B I J hB hB2 h
    have hs1 : I1 0 4096 = nI L := (a3 4096).trans hs
    rw [l_at 1 rfl (show i + 1 < L by omega) h31, l_at 2 rfl (show i + 2 < L by omega) h31, l_at 3 rfl (show i + 3 < L by omega) h31, a1, am_bi_i, hs1, l_at 1 rfl (show i + 1 < L by omega) h31, l_at 2 rfl (show i + 2 < L by omega) h31, l_at 3 rfl (show i + 3 < L by omega) h31, a3 (i + 1), a3 (i + 2), a3 (i + 3), a2, am_bi_i, if_pos rfl, s6] at b
    exact ⟨I2, J2, fun r hr => b _ hr, a4⟩
  rw [if_neg q14] at b
  by_cases q15 : I 0 i &&& 31 = 15
  · rw [if_pos q15] at b
    obtain ⟨y, I1, I2, J2, a1, a2, a3, a4⟩ := (p_bestRule 12 (I 0 (i + 1))).to I0 J0 B I J hB hB2 h
    have hs1 : I1 0 4096 = nI L := (a3 4096).trans hs
    rw [l_at 1 rfl (show i + 1 < L by omega) h31, a1, am_bi_i, hs1, l_at 1 rfl (show i + 1 < L by omega) h31, a3 (i + 1), a2, am_bi_i, if_pos rfl, s6] at b
    exact ⟨I2, J2, fun r hr => b _ hr, a4⟩
  rw [if_neg q15] at b
  by_cases q16 : I 0 i &&& 31 = 16
  · rw [if_pos q16] at b
    obtain ⟨y, I1, I2, J2, a1, a2, a3, a4⟩ := (p_dropBest 12 (I 0 (i + 1)) (I 0 (i + 2)) (I 0 (i + 3))).to I0 J0 B I J hB hB2 h
    have hs1 : I1 0 4096 = nI L := (a3 4096).trans hs
    rw [l_at 1 rfl (show i + 1 < L by omega) h31, l_at 2 rfl (show i + 2 < L by omega) h31, l_at 3 rfl (show i + 3 < L by omega) h31, a1, am_bi_i, hs1, l_at 1 rfl (show i + 1 < L by omega) h31, l_at 2 rfl (show i + 2 < L by omega) h31, l_at 3 rfl (show i + 3 < L by omega) h31, a3 (i + 1), a3 (i + 2), a3 (i + 3), a2, am_bi_i, if_pos rfl, s6] at b
    exact ⟨I2, J2, fun r hr => b _ hr, a4⟩
  rw [if_neg q16] at b
  by_cases q17 : I 0 i &&& 31 = 17
  · rw [if_pos q17] at b
    obtain ⟨y, I1, I2, J2, a1, a2, a3, a4⟩ := (p_offerBest 12 (I 0 (i + 1)) (I 0 (i + 2)) (I 0 (i + 3))).to I0 J0 B I J hB hB2 h
    have hs1 : I1 0 4096 = nI L := (a3 4096).trans hs
    rw [l_at 1 rfl (show i + 1 < L by omega) h31, l_at 2 rfl (show i + 2 < L by omega) h31, l_at 3 rfl (show i + 3 < L by omega) h31, a1, am_bi_i, hs1, l_at 1 rfl (show i + 1 < L by omega) h31, l_at 2 rfl (show i + 2 < L by omega) h31, l_at 3 rfl (show i + 3 < L by omega) h31, a3 (i + 1), a3 (i + 2), a3 (i + 3), a2, am_bi_i, if_pos rfl, s6] at b
    exact ⟨I2, J2, fun r hr => b _ hr, a4⟩
  rw [if_neg q17] at b
  by_cases q18 : I 0 i &&& 31 = 18
  · rw [if_pos q18] at b
    obtain ⟨y, I1, I2, J2, a1, a2, a3, a4⟩ := (p_haste 12 (I 0 (i + 1)) (I 0 (i + 2)) (I 0 (i + 3))).to I0 J0 B I J hB hB2 h
    have hs1 : I1 0 4096 = nI L := (a3 4096).trans hs
    rw [l_at 1 rfl (show i + 1 < L by omega) h31, l_at 2 rfl (show i + 2 < L by omega) h31, l_at 3 rfl (show i + 3 < L by omega) h31, a1, am_bi_i, hs1, l_at 1 rfl (show i + 1 < L by omega) h31, l_at 2 rfl (show i + 2 < L by omega) h31, l_at 3 rfl (show i + 3 < L by omega) h31, a3 (i + 1), a3 (i + 2), a3 (i + 3), a2, am_bi_i, if_pos rfl, s6] at b
    exact ⟨I2, J2, fun r hr => b _ hr, a4⟩
  rw [if_neg q18] at b
  by_cases q19 : I 0 i &&& 31 = 19
  · rw [if_pos q19] at b
    obtain ⟨y, I1, I2, J2, a1, a2, a3, a4⟩ := (p_spare 12 (I 0 (i + 1)) (I 0 (i + 2)) (I 0 (i + 3))).to I0 J0 B I J hB hB2 h
    have hs1 : I1 0 4096 = nI L := (a3 4096).trans hs
    rw [l_at 1 rfl (show i + 1 < L by omega) h31, l_at 2 rfl (show i + 2 < L by omega) h31, l_at 3 rfl (show i + 3 < L by omega) h31, a1, am_bi_i, hs1, l_at 1 rfl (show i + 1 < L by omega) h31, l_at 2 rfl (show i + 2 < L by omega) h31, l_at 3 rfl (show i + 3 < L by omega) h31, a3 (i + 1), a3 (i + 2), a3 (i + 3), a2, am_bi_i, if_pos rfl, s6] at b
    exact ⟨I2, J2, fun r hr => b _ hr, a4⟩
  rw [if_neg q19] at b
  by_cases q20 : I 0 i &&& 31 = 20
  · rw [if_pos q20] at b
    obtain ⟨y, I1, I2, J2, a1, a2, a3, a4⟩ := (p_agreed 12 (I 0 (i + 1)) (I 0 (i + 2)) (I 0 (i + 3)) (I 0 (i + 4)) (I 0 (i + 5))).to I0 J0 B I J hB hB2 h
    have hs1 : I1 0 4096 = nI L := (a3 4096).trans hs
    rw [l_at 1 rfl (show i + 1 < L by omega) h31, l_at 2 rfl (show i + 2 < L by omega) h31, l_at 3 rfl (show i + 3 < L by omega) h31, l_at 4 rfl (show i + 4 < L by omega) h31, l_at 5 rfl (show i + 5 < L by omega) h31, a1, am_bi_i, hs1, l_at 1 rfl (show i + 1 < L by omega) h31, l_at 2 rfl (show i + 2 < L by omega) h31, l_at 3 rfl (show i + 3 < L by omega) h31, l_at 4 rfl (show i + 4 < L by omega) h31, l_at 5 rfl (show i + 5 < L by omega) h31, a3 (i + 1), a3 (i + 2), a3 (i + 3), a3 (i + 4), a3 (i + 5), a2, am_bi_i, if_pos rfl, s6] at b
    exact ⟨I2, J2, fun r hr => b _ hr, a4⟩
  rw [if_neg q20] at b
  by_cases q21 : I 0 i &&& 31 = 21
  · rw [if_pos q21] at b
    obtain ⟨y, I1, I2, J2, a1, a2, a3, a4⟩ := (p_seats 12 (I 0 (i + 1)) (I 0 (i + 2))).to I0 J0 B I J hB hB2 h
    have hs1 : I1 0 4096 = nI L := (a3 4096).trans hs
    rw [l_at 1 rfl (show i + 1 < L by omega) h31, l_at 2 rfl (show i + 2 < L by omega) h31, a1, am_bi_i, hs1, l_at 1 rfl (show i + 1 < L by omega) h31, l_at 2 rfl (show i + 2 < L by omega) h31, a3 (i + 1), a3 (i + 2), a2, am_bi_i, if_pos rfl, s6] at b
    exact ⟨I2, J2, fun r hr => b _ hr, a4⟩
  rw [if_neg q21] at b
  by_cases q22 : I 0 i &&& 31 = 22
  · rw [if_pos q22] at b
    obtain ⟨y, I1, I2, J2, a1, a2, a3, a4⟩ := (p_seatAt 12 (I 0 (i + 1)) (I 0 (i + 2)) (I 0 (i + 3))).to I0 J0 B I J hB hB2 h
    have hs1 : I1 0 4096 = nI L := (a3 4096).trans hs
    rw [l_at 1 rfl (show i + 1 < L by omega) h31, l_at 2 rfl (show i + 2 < L by omega) h31, l_at 3 rfl (show i + 3 < L by omega) h31, a1, am_bi_i, hs1, l_at 1 rfl (show i + 1 < L by omega) h31, l_at 2 rfl (show i + 2 < L by omega) h31, l_at 3 rfl (show i + 3 < L by omega) h31, a3 (i + 1), a3 (i + 2), a3 (i + 3), a2, am_bi_i, if_pos rfl, s6] at b
    exact ⟨I2, J2, fun r hr => b _ hr, a4⟩
  rw [if_neg q22] at b
  by_cases q23 : I 0 i &&& 31 = 23
  · rw [if_pos q23] at b
    obtain ⟨y, I1, I2, J2, a1, a2, a3, a4⟩ := (p_shared 12 (I 0 (i + 1)) (I 0 (i + 2)) (I 0 (i + 3))).to I0 J0 B I J hB hB2 h
    have hs1 : I1 0 4096 = nI L := (a3 4096).trans hs
    rw [l_at 1 rfl (show i + 1 < L by omega) h31, l_at 2 rfl (show i + 2 < L by omega) h31, l_at 3 rfl (show i + 3 < L by omega) h31, a1, am_bi_i, hs1, l_at 1 rfl (show i + 1 < L by omega) h31, l_at 2 rfl (show i + 2 < L by omega) h31, l_at 3 rfl (show i + 3 < L by omega) h31, a3 (i + 1), a3 (i + 2), a3 (i + 3), a2, am_bi_i, if_pos rfl, s6] at b
    exact ⟨I2, J2, fun r hr => b _ hr, a4⟩
  rw [if_neg q23] at b
  by_cases q24 : I 0 i &&& 31 = 24
  · rw [if_pos q24] at b
    obtain ⟨y, I1, I2, J2, a1, a2, a3, a4⟩ := (p_tell 12 (I 0 (i + 1)) (I 0 (i + 2))).to I0 J0 B I J hB hB2 h
    have hs1 : I1 0 4096 = nI L := (a3 4096).trans hs
    rw [l_at 1 rfl (show i + 1 < L by omega) h31, l_at 2 rfl (show i + 2 < L by omega) h31, a1, am_bi_i, hs1, l_at 1 rfl (show i + 1 < L by omega) h31, l_at 2 rfl (show i + 2 < L by omega) h31, a3 (i + 1), a3 (i + 2), a2, am_bi_i, if_pos rfl, s6] at b
    exact ⟨I2, J2, fun r hr => b _ hr, a4⟩
  rw [if_neg q24] at b
  by_cases q25 : I 0 i &&& 31 = 25
  · rw [if_pos q25] at b
    obtain ⟨y, I1, I2, J2, a1, a2, a3, a4⟩ := (p_forget 12 ).to I0 J0 B I J hB hB2 h
    rw [a1, am_bi_i, a2, am_bi_i, if_pos rfl, s6] at b
    exact ⟨I2, J2, fun r hr => b _ hr, a4⟩
  rw [if_neg q25] at b
  by_cases q26 : I 0 i &&& 31 = 26
  · rw [if_pos q26] at b
    obtain ⟨y, I1, I2, J2, a1, a2, a3, a4⟩ := (p_fits 11 (by decide) (I 0 (i + 1))).to I0 J0 B I J hB hB2 h
    have hs1 : I1 0 4096 = nI L := (a3 4096).trans hs
    rw [l_at 1 rfl (show i + 1 < L by omega) h31, a1, am_bi_i, hs1, l_at 1 rfl (show i + 1 < L by omega) h31, a3 (i + 1), a2, am_bi_i, if_pos rfl, s6] at b
    exact ⟨I2, J2, fun r hr => b _ hr, a4⟩
  rw [if_neg q26] at b
  by_cases q27 : I 0 i &&& 31 = 27
  · rw [if_pos q27] at b
    obtain ⟨y, I1, I2, J2, a1, a2, a3, a4⟩ := (p_hold 12 (I 0 (i + 1))).to I0 J0 B I J hB hB2 h
    have hs1 : I1 0 4096 = nI L := (a3 4096).trans hs
    rw [l_at 1 rfl (show i + 1 < L by omega) h31, a1, am_bi_i, hs1, l_at 1 rfl (show i + 1 < L by omega) h31, a3 (i + 1), a2, am_bi_i, if_pos rfl, s6] at b
    exact ⟨I2, J2, fun r hr => b _ hr, a4⟩
  rw [if_neg q27] at b
  by_cases q28 : I 0 i &&& 31 = 28
  · rw [if_pos q28] at b
    obtain ⟨y, I1, I2, J2, a1, a2, a3, a4⟩ := (p_restore 12 (I 0 (i + 1))).to I0 J0 B I J hB hB2 h
    have hs1 : I1 0 4096 = nI L := (a3 4096).trans hs
    rw [l_at 1 rfl (show i + 1 < L by omega) h31, a1, am_bi_i, hs1, l_at 1 rfl (show i + 1 < L by omega) h31, a3 (i + 1), a2, am_bi_i, if_pos rfl, s6] at b
    exact ⟨I2, J2, fun r hr => b _ hr, a4⟩
  rw [if_neg q28] at b
  by_cases q29 : I 0 i &&& 31 = 29
  · rw [if_pos q29] at b
    obtain ⟨y, I1, I2, J2, a1, a2, a3, a4⟩ := (p_count 12 (I 0 (i + 1))).to I0 J0 B I J hB hB2 h
    have hs1 : I1 0 4096 = nI L := (a3 4096).trans hs
    rw [l_at 1 rfl (show i + 1 < L by omega) h31, a1, am_bi_i, hs1, l_at 1 rfl (show i + 1 < L by omega) h31, a3 (i + 1), a2, am_bi_i, if_pos rfl, s6] at b
    exact ⟨I2, J2, fun r hr => b _ hr, a4⟩
  rw [if_neg q29] at b
  rw [s6] at b
  obtain ⟨p, v, r, u, nx, w, n, hA⟩ := h
  exact ⟨I, J, fun r hr => b _ hr, p, v, r, u, nx, w, n, hA.up (by omega)⟩
theorem l_loop {I0 : am_I} {J0 : Nat → Int64} (hst0 : x_stc I0) (hW0 : x_W (I0 4) J0) {L : Nat} (hL : L ≤ 3072) (h0 : I0 0 4096 = nI L) : ∀ (k i : Nat) (B : Int) (I : am_I) (J : am_J), 0 ≤ B → B + 999 * k ≤ 900000 → i_I I0 J0 B I J → L < i + 6 * k + 6 → i ≤ 4000 → ∃ I' J', f_law_18 12 (nI i) I J = some (some (.int 1), I', J') := by
  have out : ∀ (i : Nat) (B : Int) (I : am_I) (J : am_J), i_I I0 J0 B I J → L < i + 6 → i ≤ 4000 → ∃ I' J', f_law_18 12 (nI i) I J = some (some (.int 1), I', J') := fun i B I J h hi hi2 => by
    have hs : I 0 4096 = nI L := by
      obtain ⟨p, v, r, u, nx, w, n, hA⟩ := h
      rw [hA.2.2.2.2.2.2.2.1 0 4096 (by omega)]
      exact h0
    have b := b_law_18 12 (nI i) I J
    rw [hs, if_pos ((l_lt hL (by omega)).mpr hi), am_b01_1] at b
    exact ⟨I, J, b _ rfl⟩
  intro k
  induction k with
  | zero => intro i B I J h1 h2 h3 h4 h5; exact out i B I J h3 (by omega) h5
  | succ k ih =>
    intro i B I J h1 h2 h3 h4 h5
    by_cases q : i + 6 ≤ L
    · obtain ⟨I2, J2, a1, a2⟩ := l_step hst0 hW0 hL h0 h1 (by omega) h3 q
      obtain ⟨I', J', b1⟩ := ih (i + 6) (B + 999) I2 J2 (by omega) (by omega) a2 (by omega) (by omega)
      exact ⟨I', J', a1 _ b1⟩
    · exact out i B I J h3 (by omega) h5

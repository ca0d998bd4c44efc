/-! pairs of calls: feed, tell -/
def q_by (x : Int32) (s : Nat) : Int32 := (((x.toUInt32 >>> ((nI s).toUInt32 &&& Int32.toUInt32 31)).toInt32).toInt8.toInt32).toInt8.toInt32
def q_bm (x : Int32) (s : Nat) : Int32 := (((x >>> (nI s &&& 31))).toInt8.toInt32).toInt8.toInt32
theorem q_low {a b : Int32} (h : a.toInt % 256 = b.toInt % 256) : a.toInt8 = b.toInt8 := by
  apply Int8.toInt_inj.mp
  rw [Int32.toInt_toInt8, Int32.toInt_toInt8]
  unfold Int.bmod
  have h' : a.toInt % ((2 ^ 8 : Nat) : Int) = b.toInt % ((2 ^ 8 : Nat) : Int) := h
  rw [h']
theorem q_u32 (y : Int32) : y.toInt % 256 = ((y.toBitVec.toNat : Nat) : Int) % 256 := by
  have h : y.toInt = (y.toBitVec.toNat : Int).bmod (2 ^ 32) := by
    show y.toBitVec.toInt = _
    rw [BitVec.toInt_eq_toNat_bmod]
  rw [h, Int.bmod_def]
  split <;> omega
theorem q_i32 (x : Int32) : ∃ c : Int, ((x.toBitVec.toNat : Nat) : Int) = x.toInt + 4294967296 * c := by
  have h : x.toInt = (x.toBitVec.toNat : Int).bmod (2 ^ 32) := by
    show x.toBitVec.toInt = _
    rw [BitVec.toInt_eq_toNat_bmod]
  have hl := x.toBitVec.isLt
  rw [h, Int.bmod_def]
  split
  · exact ⟨0, by omega⟩
  · exact ⟨1, by omega⟩
theorem q_key {x a b : Int32} (P : Nat) (hP : P = 1 ∨ P = 256 ∨ P = 65536 ∨ P = 16777216) (h1 : a.toBitVec.toNat = x.toBitVec.toNat / P) (h2 : b.toInt = x.toInt / (P : Int)) : a.toInt8 = b.toInt8 := by
  apply q_low
  rw [q_u32, h1, h2]
  obtain ⟨c, hc⟩ := q_i32 x
  rcases hP with rfl | rfl | rfl | rfl <;> omega
theorem q_bybm (x : Int32) (s : Nat) (hs : s = 0 ∨ s = 8 ∨ s = 16 ∨ s = 24) : q_by x s = q_bm x s := by
  unfold q_by q_bm
  rcases hs with rfl | rfl | rfl | rfl
  · rw [q_key (x := x) 1 (by omega) (pk_ushr x _ 0 rfl) ((pk_shr x (nI 0 &&& 31) 0 rfl).trans (Int.shiftRight_eq_div_pow _ _))]
  · rw [q_key (x := x) 256 (by omega) (pk_ushr x _ 8 rfl) ((pk_shr x (nI 8 &&& 31) 8 rfl).trans (Int.shiftRight_eq_div_pow _ _))]
  · rw [q_key (x := x) 65536 (by omega) (pk_ushr x _ 16 rfl) ((pk_shr x (nI 16 &&& 31) 16 rfl).trans (Int.shiftRight_eq_div_pow _ _))]
  · rw [q_key (x := x) 16777216 (by omega) (pk_ushr x _ 24 rfl) ((pk_shr x (nI 24 &&& 31) 24 rfl).trans (Int.shiftRight_eq_div_pow _ _))]
theorem q_bm8 (x : Int32) (s : Nat) : (q_bm x s).toInt8.toInt32 = q_bm x s := by
  unfold q_bm
  rw [Int8.toInt8_toInt32, Int8.toInt8_toInt32]
theorem s_tape_add3 (d : Nat) (x : Int32) (J : am_J) : ∀ k n (I : am_I), k ≤ 4 → I 6 1 = nI n → n + k ≤ 2000 → ∃ I', f_tape_addInt_3 d x (nI (8 * k) + (-8)) I J = some (none, I', J) ∧ I' 6 1 = nI (n + k) ∧ (∀ j, j < k → I' 7 (n + j) = q_by x (8 * (k - 1 - j))) ∧ ∀ c j, (c ≠ 6 ∨ j ≠ 1) → (c ≠ 7 ∨ j < n ∨ n + k ≤ j) → I' c j = I c j := by
  intro k
  induction k with
  | zero =>
    intro n I _ h1 hn
    refine ⟨I, b_tape_addInt_3 d x _ I J _ ?_, h1, fun j hj => by omega, fun _ _ _ _ => rfl⟩
    rw [if_pos (show nI (8 * 0) + (-8) < 0 by decide)]
  | succ k ih =>
    intro n I hk h1 hn
    have e : nI (8 * (k + 1)) + (-8) = nI (8 * k) := by
      rw [show 8 * (k + 1) = 8 * k + 8 by omega, ← nI_add]
      show nI (8 * k) + 8 + -8 = nI (8 * k)
      grind
    rw [e]
    have base := b_tape_addInt_3 d x (nI (8 * k)) I J
    have z : ∀ w, am_upd I 7 n w 6 1 = nI n := fun w => by rw [am_uc (by decide), h1]
    rw [if_neg (nI_pos (by omega)), h1, if_neg (show ¬ (2000 : Int32) ≤ nI n from nI_ge (b := 2000) (by omega) (by omega)), am_at_n (by omega) (by omega), z, nI_1] at base
    obtain ⟨I', a1, a2, a3, a4⟩ := ih (n + 1) (am_upd (am_upd I 7 n (q_by x (8 * k))) 6 1 (nI (n + 1))) (by omega) am_ue (by omega)
    refine ⟨I', base _ a1, by rw [a2, show n + 1 + k = n + (k + 1) by omega], fun j hj => ?_, fun c j q1 q2 => ?_⟩
    · cases j with
      | zero => rw [a4 7 (n + 0) (Or.inl (by decide)) (Or.inr (by omega)), am_uc (by decide), Nat.add_zero, am_ue]; rfl
      | succ j => rw [show n + (j + 1) = n + 1 + j by omega, a3 j (by omega), show k + 1 - 1 - (j + 1) = k - 1 - j by omega]
    · rw [a4 c j q1 (q2.imp id (fun q => by omega))]
      exact i_upd2 c j (q2.imp id (fun q => by omega)) q1
theorem s_m_put3 (d : Nat) (x : Int32) (J : am_J) : ∀ k n (I : am_I), k ≤ 4 → I 68 2 = nI n → n + k ≤ 2000 → ∃ I', f_m_put_3 d x (nI (8 * k) + (-8)) I J = some (none, I', J) ∧ I' 68 2 = nI (n + k) ∧ (∀ j, j < k → I' 69 (n + j) = q_bm x (8 * (k - 1 - j))) ∧ ∀ c j, (c ≠ 68 ∨ j ≠ 2) → (c ≠ 69 ∨ j < n ∨ n + k ≤ j) → I' c j = I c j := by
  intro k
  induction k with
  | zero =>
    intro n I _ h1 hn
    refine ⟨I, b_m_put_3 d x _ I J _ ?_, h1, fun j hj => by omega, fun _ _ _ _ => rfl⟩
    rw [if_pos (show nI (8 * 0) + (-8) < 0 by decide)]
  | succ k ih =>
    intro n I hk h1 hn
    have e : nI (8 * (k + 1)) + (-8) = nI (8 * k) := by
      rw [show 8 * (k + 1) = 8 * k + 8 by omega, ← nI_add]
      show nI (8 * k) + 8 + -8 = nI (8 * k)
      grind
    rw [e]
    have base := b_m_put_3 d x (nI (8 * k)) I J
    have z : ∀ w, am_upd I 69 n w 68 2 = nI n := fun w => by rw [am_uc (by decide), h1]
    rw [if_neg (nI_pos (by omega)), h1, am_at_n (by omega) (by omega), z, nI_1] at base
    obtain ⟨I', a1, a2, a3, a4⟩ := ih (n + 1) (am_upd (am_upd I 69 n (q_bm x (8 * k))) 68 2 (nI (n + 1))) (by omega) am_ue (by omega)
    refine ⟨I', base _ a1, by rw [a2, show n + 1 + k = n + (k + 1) by omega], fun j hj => ?_, fun c j q1 q2 => ?_⟩
    · cases j with
      | zero => rw [a4 69 (n + 0) (Or.inl (by decide)) (Or.inr (by omega)), am_uc (by decide), Nat.add_zero, am_ue]; rfl
      | succ j => rw [show n + (j + 1) = n + 1 + j by omega, a3 j (by omega), show k + 1 - 1 - (j + 1) = k - 1 - j by omega]
    · rw [a4 c j q1 (q2.imp id (fun q => by omega))]
      exact i_upd2 c j (q2.imp id (fun q => by omega)) q1
/-- an int put on both tapes -/
def q_tp (n : Nat) (I : am_I) : Prop := ∀ j, j < n → I 7 j = I 69 j ∧ (I 69 j).toInt8.toInt32 = I 69 j
theorem s_tape_add (d n : Nat) (x : Int32) (I : am_I) (J : am_J) (h1 : I 6 1 = nI n) (hn : n + 4 ≤ 2000) : ∃ I', f_tape_addInt_0 d x I J = some (none, I', J) ∧ I' 6 1 = nI (n + 4) ∧ (∀ j, j < 4 → I' 7 (n + j) = q_by x (8 * (3 - j))) ∧ ∀ c j, (c ≠ 6 ∨ j ≠ 1) → (c ≠ 7 ∨ j < n ∨ n + 4 ≤ j) → I' c j = I c j := by
  obtain ⟨I', a1, a2, a3, a4⟩ := s_tape_add3 d x J 4 n I (by omega) h1 hn
  exact ⟨I', b_tape_addInt_0 d x I J _ a1, a2, fun j hj => by rw [a3 j hj], a4⟩
theorem s_m_put (d n : Nat) (x : Int32) (I : am_I) (J : am_J) (h1 : I 68 2 = nI n) (hn : n + 4 ≤ 2000) : ∃ I', f_m_put_0 d x I J = some (none, I', J) ∧ I' 68 2 = nI (n + 4) ∧ (∀ j, j < 4 → I' 69 (n + j) = q_bm x (8 * (3 - j))) ∧ ∀ c j, (c ≠ 68 ∨ j ≠ 2) → (c ≠ 69 ∨ j < n ∨ n + 4 ≤ j) → I' c j = I c j := by
  obtain ⟨I', a1, a2, a3, a4⟩ := s_m_put3 d x J 4 n I (by omega) h1 hn
  exact ⟨I', b_m_put_0 d x I J _ a1, a2, fun j hj => by rw [a3 j hj], a4⟩
/-- the byte j of five ints -/
def q_b20 (f : Int32 → Nat → Int32) (x : Nat → Int32) (j : Nat) : Int32 := f (x (j / 4)) (8 * (3 - j % 4))
theorem s_oc_feedN (d n : Nat) (x : Nat → Int32) (J : am_J) (hn : n + 20 ≤ 2000) : ∀ k i (I : am_I), i + k = 5 → I 6 1 = nI (n + 4 * i) → ∃ I', (∀ o, (some (some (.int (I' 6 1)), I', J) : am_Out) = some o → (match k with
    | 0 => (some (some (.int (I 6 1)), I, J) : am_Out)
    | 1 => am_bv (f_tape_addInt_0 d (x 4) I J) (fun I9 J10 => some (some (.int (I9 6 1)), I9, J10))
    | 2 => am_bv (f_tape_addInt_0 d (x 3) I J) (fun I J => am_bv (f_tape_addInt_0 d (x 4) I J) (fun I9 J10 => some (some (.int (I9 6 1)), I9, J10)))
    | 3 => am_bv (f_tape_addInt_0 d (x 2) I J) (fun I J => am_bv (f_tape_addInt_0 d (x 3) I J) (fun I J => am_bv (f_tape_addInt_0 d (x 4) I J) (fun I9 J10 => some (some (.int (I9 6 1)), I9, J10))))
    | 4 => am_bv (f_tape_addInt_0 d (x 1) I J) (fun I J => am_bv (f_tape_addInt_0 d (x 2) I J) (fun I J => am_bv (f_tape_addInt_0 d (x 3) I J) (fun I J => am_bv (f_tape_addInt_0 d (x 4) I J) (fun I9 J10 => some (some (.int (I9 6 1)), I9, J10)))))
    | _ => am_bv (f_tape_addInt_0 d (x 0) I J) (fun I J => am_bv (f_tape_addInt_0 d (x 1) I J) (fun I J => am_bv (f_tape_addInt_0 d (x 2) I J) (fun I J => am_bv (f_tape_addInt_0 d (x 3) I J) (fun I J => am_bv (f_tape_addInt_0 d (x 4) I J) (fun I9 J10 => some (some (.int (I9 6 1)), I9, J10))))))) = some o) ∧ I' 6 1 = nI (n + 20) ∧ (∀ j, 4 * i ≤ j → j < 20 → I' 7 (n + j) = q_b20 q_by x j) ∧ ∀ c j, (c ≠ 6 ∨ j ≠ 1) → (c ≠ 7 ∨ j < n + 4 * i ∨ n + 20 ≤ j) → I' c j = I c j := by
  intro k
  induction k with
  | zero =>
    intro i I hi h1
    obtain rfl : i = 5 := by omega
    exact ⟨I, fun o h => h, h1, fun j q1 q2 => by omega, fun _ _ _ _ => rfl⟩
  | succ k ih =>
    intro i I hi h1
    obtain ⟨I1, a1, a2, a3, a4⟩ := s_tape_add d (n + 4 * i) (x i) I J h1 (by omega)
    obtain ⟨I', b1, b2, b3, b4⟩ := ih (i + 1) I1 (by omega) (by rw [a2, show n + 4 * i + 4 = n + 4 * (i + 1) by omega])
    refine ⟨I', fun o h => ?_, b2, fun j q1 q2 => ?_, fun c j q1 q2 => ?_⟩
    · have q := b1 o h
      rcases (show (k = 0 ∧ i = 4) ∨ (k = 1 ∧ i = 3) ∨ (k = 2 ∧ i = 2) ∨ (k = 3 ∧ i = 1) ∨ (k = 4 ∧ i = 0) by omega) with ⟨rfl, rfl⟩ | ⟨rfl, rfl⟩ | ⟨rfl, rfl⟩ | ⟨rfl, rfl⟩ | ⟨rfl, rfl⟩ <;> (show am_bv _ _ = some o; rw [a1]; exact q)
    · by_cases e : j < 4 * (i + 1)
      · obtain ⟨m, hm, rfl⟩ : ∃ m, m < 4 ∧ j = 4 * i + m := ⟨j - 4 * i, by omega, by omega⟩
        rw [b4 7 _ (Or.inl (by decide)) (Or.inr (by omega)), show n + (4 * i + m) = n + 4 * i + m by omega, a3 m hm]
        unfold q_b20
        rw [show (4 * i + m) / 4 = i by omega, show (4 * i + m) % 4 = m by omega]
      · exact b3 j (by omega) q2
    · rw [b4 c j q1 (q2.imp id (fun q => by omega)), a4 c j q1 (q2.imp id (fun q => by omega))]
theorem s_m_feedN (d n : Nat) (x : Nat → Int32) (J : am_J) (hn : n + 20 ≤ 2000) : ∀ k i (I : am_I), i + k = 5 → I 68 2 = nI (n + 4 * i) → ∃ I', (∀ o, (some (some (.int (I' 68 2)), I', J) : am_Out) = some o → (match k with
    | 0 => (some (some (.int (I 68 2)), I, J) : am_Out)
    | 1 => am_bv (f_m_put_0 d (x 4) I J) (fun I9 J10 => some (some (.int (I9 68 2)), I9, J10))
    | 2 => am_bv (f_m_put_0 d (x 3) I J) (fun I J => am_bv (f_m_put_0 d (x 4) I J) (fun I9 J10 => some (some (.int (I9 68 2)), I9, J10)))
    | 3 => am_bv (f_m_put_0 d (x 2) I J) (fun I J => am_bv (f_m_put_0 d (x 3) I J) (fun I J => am_bv (f_m_put_0 d (x 4) I J) (fun I9 J10 => some (some (.int (I9 68 2)), I9, J10))))
    | 4 => am_bv (f_m_put_0 d (x 1) I J) (fun I J => am_bv (f_m_put_0 d (x 2) I J) (fun I J => am_bv (f_m_put_0 d (x 3) I J) (fun I J => am_bv (f_m_put_0 d (x 4) I J) (fun I9 J10 => some (some (.int (I9 68 2)), I9, J10)))))
    | _ => am_bv (f_m_put_0 d (x 0) I J) (fun I J => am_bv (f_m_put_0 d (x 1) I J) (fun I J => am_bv (f_m_put_0 d (x 2) I J) (fun I J => am_bv (f_m_put_0 d (x 3) I J) (fun I J => am_bv (f_m_put_0 d (x 4) I J) (fun I9 J10 => some (some (.int (I9 68 2)), I9, J10))))))) = some o) ∧ I' 68 2 = nI (n + 20) ∧ (∀ j, 4 * i ≤ j → j < 20 → I' 69 (n + j) = q_b20 q_bm x j) ∧ ∀ c j, (c ≠ 68 ∨ j ≠ 2) → (c ≠ 69 ∨ j < n + 4 * i ∨ n + 20 ≤ j) → I' c j = I c j := by
  intro k
  induction k with
  | zero =>
    intro i I hi h1
    obtain rfl : i = 5 := by omega
    exact ⟨I, fun o h => h, h1, fun j q1 q2 => by omega, fun _ _ _ _ => rfl⟩
  | succ k ih =>
    intro i I hi h1
    obtain ⟨I1, a1, a2, a3, a4⟩ := s_m_put d (n + 4 * i) (x i) I J h1 (by omega)
    obtain ⟨I', b1, b2, b3, b4⟩ := ih (i + 1) I1 (by omega) (by rw [a2, show n + 4 * i + 4 = n + 4 * (i + 1) by omega])
    refine ⟨I', fun o h => ?_, b2, fun j q1 q2 => ?_, fun c j q1 q2 => ?_⟩
    · have q := b1 o h
      rcases (show (k = 0 ∧ i = 4) ∨ (k = 1 ∧ i = 3) ∨ (k = 2 ∧ i = 2) ∨ (k = 3 ∧ i = 1) ∨ (k = 4 ∧ i = 0) by omega) with ⟨rfl, rfl⟩ | ⟨rfl, rfl⟩ | ⟨rfl, rfl⟩ | ⟨rfl, rfl⟩ | ⟨rfl, rfl⟩ <;> (show am_bv _ _ = some o; rw [a1]; exact q)
    · by_cases e : j < 4 * (i + 1)
      · obtain ⟨m, hm, rfl⟩ : ∃ m, m < 4 ∧ j = 4 * i + m := ⟨j - 4 * i, by omega, by omega⟩
        rw [b4 69 _ (Or.inl (by decide)) (Or.inr (by omega)), show n + (4 * i + m) = n + 4 * i + m by omega, a3 m hm]
        unfold q_b20
        rw [show (4 * i + m) / 4 = i by omega, show (4 * i + m) % 4 = m by omega]
      · exact b3 j (by omega) q2
    · rw [b4 c j q1 (q2.imp id (fun q => by omega)), a4 c j q1 (q2.imp id (fun q => by omega))]

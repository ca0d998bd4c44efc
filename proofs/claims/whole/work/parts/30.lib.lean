/-! small rows for runs over the memory -/
def am_tf (P : Prop) [Decidable P] : Int32 := if P then 1 else 0
theorem am_tf_t {P : Prop} [Decidable P] (h : P) : am_tf P = 1 := if_pos h
theorem am_tf_f {P : Prop} [Decidable P] (h : ¬ P) : am_tf P = 0 := if_neg h
theorem am_tf0 {P : Prop} [Decidable P] : (am_tf P = 0) ↔ ¬ P := by
  unfold am_tf
  by_cases h : P <;> simp [h]
theorem am_tf1 {P : Prop} [Decidable P] : (am_tf P = 1) ↔ P := by
  unfold am_tf
  by_cases h : P <;> simp [h]
theorem am_at_n {j n : Nat} {k : Nat → am_Out} {s : am_Out} (hj : j < n) (hn : n < 2 ^ 31) : am_at (nI j) n k s = k j := by
  rw [am_atH_eq]
  unfold am_atC
  rw [if_neg (nI_in hj hn), nI_clamp (by omega)]
theorem am_at_no {x : Int32} {n : Nat} {k : Nat → am_Out} {s : am_Out} (h : x < 0 ∨ n ≤ x.toNatClampNeg) : am_at x n k s = s := by
  rw [am_atH_eq]
  unfold am_atC
  rw [if_pos h]
theorem am_b01_0 {k s : am_Out} : am_b01 0 k s = k := by
  rw [am_b01H_eq]
  rfl
theorem am_b01_1 {k s : am_Out} : am_b01 1 k s = k := by
  rw [am_b01H_eq]
  rfl
theorem am_b01_tf {P : Prop} [Decidable P] {k s : am_Out} : am_b01 (am_tf P) k s = k := by
  by_cases h : P
  · rw [am_tf_t h, am_b01_1]
  · rw [am_tf_f h, am_b01_0]
theorem am_bi_i {x : Int32} {I : am_I} {J : am_J} {k : Int32 → am_I → am_J → am_Out} : am_bi (some (some (.int x), I, J)) k = k x I J := rfl
theorem am_bl_l {x : Int64} {I : am_I} {J : am_J} {k : Int64 → am_I → am_J → am_Out} : am_bl (some (some (.long x), I, J)) k = k x I J := rfl
theorem am_bv_v {I : am_I} {J : am_J} {k : am_I → am_J → am_Out} : am_bv (some (none, I, J)) k = k I J := rfl
theorem am_ue {I : am_I} {c k : Nat} {x : Int32} : am_upd I c k x c k = x := by simp [am_upd]
theorem am_uc {I : am_I} {c k c' k' : Nat} {x : Int32} (h : c' ≠ c) : am_upd I c k x c' k' = I c' k' := by simp [am_upd, h]
theorem am_uk {I : am_I} {c k c' k' : Nat} {x : Int32} (h : k' ≠ k) : am_upd I c k x c' k' = I c' k' := by simp [am_upd, h]
theorem am_ueJ {I : am_J} {c k : Nat} {x : Int64} : am_updJ I c k x c k = x := by simp [am_updJ]
theorem am_ucJ {I : am_J} {c k c' k' : Nat} {x : Int64} (h : c' ≠ c) : am_updJ I c k x c' k' = I c' k' := by simp [am_updJ, h]
theorem am_ukJ {I : am_J} {c k c' k' : Nat} {x : Int64} (h : k' ≠ k) : am_updJ I c k x c' k' = I c' k' := by simp [am_updJ, h]
theorem am_cpc_ok {s d n : Int32} {n0 n1 : Nat} {k st : am_Out} (h : ¬ (s < 0 ∨ d < 0 ∨ n < 0 ∨ n0 < s.toNatClampNeg + n.toNatClampNeg ∨ n1 < d.toNatClampNeg + n.toNatClampNeg)) : am_cpc s d n n0 n1 k st = k := by
  rw [am_cpcH_eq]
  unfold am_cpcC
  rw [if_neg h]
theorem am_cpc_n {s d n n0 n1 : Nat} {k st : am_Out} (h0 : s + n ≤ n0) (h1 : d + n ≤ n1) (h2 : n0 < 2 ^ 31) (h3 : n1 < 2 ^ 31) : am_cpc (nI s) (nI d) (nI n) n0 n1 k st = k := by
  refine am_cpc_ok ?_
  rw [nI_clamp (by omega), nI_clamp (by omega), nI_clamp (by omega)]
  have a := nI_pos (n := s) (by omega)
  have b := nI_pos (n := d) (by omega)
  have c := nI_pos (n := n) (by omega)
  rintro (h | h | h | h | h)
  · exact a h
  · exact b h
  · exact c h
  · omega
  · omega
theorem am_cc {I : am_I} {c0 s c1 d n c k : Nat} (h : c ≠ c1) : am_cpy I c0 s c1 d n c k = I c k := by simp [am_cpy, h]
theorem am_ce {I : am_I} {c0 s c1 d n k : Nat} (h : d ≤ k) (h2 : k < d + n) : am_cpy I c0 s c1 d n c1 k = I c0 (s + (k - d)) := by simp [am_cpy, h, h2]
theorem am_co {I : am_I} {c0 s c1 d n k : Nat} (h : k < d ∨ d + n ≤ k) : am_cpy I c0 s c1 d n c1 k = I c1 k := by
  unfold am_cpy
  rw [if_neg (by omega)]
theorem am_i0 : (0 : Int32) = nI 0 := rfl
theorem am_i1 : (1 : Int32) = nI 1 := rfl
theorem am_le0 {x : Int32} : x ≤ 0 ↔ ¬ 0 < x := Int32.not_lt.symm
/-- a loop that counts up to n: from each place b it comes to out b -/
def am_cnt (p : Nat → Bool) : Nat → Nat → Nat
  | _, 0 => 0
  | b, k + 1 => (if p b then 1 else 0) + am_cnt p (b + 1) k
theorem am_cnt_s (p : Nat → Bool) (b k : Nat) : am_cnt p b (k + 1) = (if p b then 1 else 0) + am_cnt p (b + 1) k := rfl
theorem am_cnt_le (p : Nat → Bool) : ∀ k b, am_cnt p b k ≤ k := by
  intro k
  induction k with
  | zero => intro b; exact Nat.le_refl 0
  | succ k ih =>
    intro b
    have := ih (b + 1)
    rw [am_cnt_s]
    split <;> omega
theorem am_cnt_0 (p : Nat → Bool) : ∀ k b, am_cnt p b k = 0 ↔ ∀ j, b ≤ j → j < b + k → p j = false := by
  intro k
  induction k with
  | zero => intro b; exact ⟨fun _ j h1 h2 => by omega, fun _ => rfl⟩
  | succ k ih =>
    intro b
    rw [am_cnt_s]
    have := ih (b + 1)
    constructor
    · intro h j h1 h2
      by_cases hj : j = b
      · subst hj
        cases hp : p j
        · rfl
        · rw [hp] at h; simp at h
      · exact (this.mp (by omega)) j (by omega) (by omega)
    · intro h
      have h1 := this.mpr (fun j q1 q2 => h j (by omega) (by omega))
      have h2 := h b (by omega) (by omega)
      rw [h1, h2]
      rfl

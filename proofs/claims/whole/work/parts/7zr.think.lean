/-! `thinks ... ;`, pure, the class's -/
/-- the first slip stays -/
def x_s1 (b : Bool) (f pl : Int32) (s : Int32 × Int32) : Int32 × Int32 := if b = true ∧ s.1 = 0 then (f, pl) else s
def x_badb (v lo hi : Int32) : Bool := decide (v < lo) || decide (hi < v)
theorem x_badb_iff {v lo hi : Int32} : x_badb v lo hi = true ↔ x_bad v lo hi := by
  unfold x_badb x_bad
  rw [Bool.or_eq_true, decide_eq_true_iff, decide_eq_true_iff]
theorem x_slp_s1 {v lo hi f pl s s' p p' : Int32} (h : x_slp (x_bad v lo hi) f pl s s' p p') : (s', p') = x_s1 (x_badb v lo hi) f pl (s, p) := by
  unfold x_s1
  rcases h with ⟨h1, h2, h3, h4⟩ | ⟨h1, h3, h4⟩
  · rw [if_pos ⟨x_badb_iff.mpr h1, h2⟩, h3, h4]
  · rw [if_neg (fun q => h1 ⟨x_badb_iff.mp q.1, q.2⟩), h3, h4]
/-- the numbers, the slip, the next thing -/
def x_ths (K V Pl : Nat → Int32) : Nat → List Int32 → Int32 × Int32 → Nat → Sum (Int32 × Nat) (List Int32 × (Int32 × Int32) × Nat)
  | 0, _, _, t => .inl (2, t)
  | n + 1, a, s, t => if K t = 3 then (if n = 0 then .inl (2, t) else if 400 ≤ t then .inl (2, t) else x_ths K V Pl n (a ++ [V t]) (x_s1 (x_badb (V t) 0 60) 5 (Pl t) s) (t + 1))
    else if K t = 59 then (if 400 ≤ t then .inl (2, t) else .inr (a, s, t + 1)) else .inl (1, t)

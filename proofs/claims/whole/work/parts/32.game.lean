/-! the game, without a machine: a row r of 34 numbers (0.. moves left, 6.. ready, 12.. made, 18.. ended, 24.. seat, 30 minute, 31 where he is, 32 won, 33 the flag) -/
abbrev g_Row : Type := Nat → Int32
abbrev g_Law : Type := Nat → Nat → g_Row → Int32
/-- a plan: boards, step, clock, flag, laws, moves, lost, how many thinks, thinks -/
abbrev g_Plan : Type := Nat × Int32 × Int32 × Int32 × g_Law × g_Row × g_Row × Nat × g_Row
def pn (p : g_Plan) : Nat := p.1
def pst (p : g_Plan) : Int32 := p.2.1
def pck (p : g_Plan) : Int32 := p.2.2.1
def pfl (p : g_Plan) : Int32 := p.2.2.2.1
def plw (p : g_Plan) : g_Law := p.2.2.2.2.1
def pmv (p : g_Plan) : g_Row := p.2.2.2.2.2.1
def pls (p : g_Plan) : g_Row := p.2.2.2.2.2.2.1
def ptc (p : g_Plan) : Nat := p.2.2.2.2.2.2.2.1
def pth (p : g_Plan) : g_Row := p.2.2.2.2.2.2.2.2
/-- what every plan that was read is like -/
def g_OK (p : g_Plan) : Prop := pn p ≤ 6 ∧ (0 ≤ (pst p).toInt ∧ (pst p).toInt ≤ 9) ∧ (1 ≤ (pck p).toInt ∧ (pck p).toInt ≤ 500) ∧ (0 ≤ (pfl p).toInt ∧ (pfl p).toInt ≤ 999) ∧
  (∀ a b f g, (∀ k, k < 6 → f k = g k) → plw p a b f = plw p a b g) ∧ (∀ b f, -999 ≤ (plw p 0 b f).toInt ∧ (plw p 0 b f).toInt ≤ 999) ∧ (∀ b f, 0 ≤ (plw p 1 b f).toInt ∧ (plw p 1 b f).toInt ≤ 99) ∧ (∀ b f, -999 ≤ (plw p 2 b f).toInt ∧ (plw p 2 b f).toInt ≤ 999) ∧
  (∀ b, b < pn p → 0 ≤ (pmv p b).toInt ∧ (pmv p b).toInt ≤ 9) ∧ (∀ b, b < pn p → 0 ≤ (pls p b).toInt ∧ (pls p b).toInt ≤ 999) ∧ (1 ≤ ptc p ∧ ptc p ≤ 4) ∧ (∀ i, i < ptc p → 0 ≤ (pth p i).toInt ∧ (pth p i).toInt ≤ 60)
def g_set (r : g_Row) (k : Nat) (v : Int32) : g_Row := fun j => if j = k then v else r j
theorem g_set_e (r : g_Row) (k : Nat) (v : Int32) : g_set r k v k = v := by simp [g_set]
theorem g_set_n (r : g_Row) {k j : Nat} (v : Int32) (h : j ≠ k) : g_set r k v j = r j := by simp [g_set, h]
def g_open (r : g_Row) (b : Nat) : Bool := decide (0 < r b ∧ r (18 + b) = 0)
noncomputable def g_dist (p : g_Plan) (r : g_Row) (b : Nat) : Int32 := am_mn (am_ab (r (24 + b) - r (24 + (r 31).toNatClampNeg))) (nI (pn p) - am_ab (r (24 + b) - r (24 + (r 31).toNatClampNeg)))
noncomputable def g_soon (p : g_Plan) (r : g_Row) (b : Nat) : Int32 := am_mx (r 30 + pst p * g_dist p r b) (r (6 + b))
def g_fact (r : g_Row) (b : Nat) (think beg : Int32) : g_Row := fun k => match k with
  | 0 => think
  | 1 => r (12 + b)
  | 2 => beg
  | 3 => beg - r (6 + b)
  | 4 => r b
  | _ => r 32
def g_ask (p : g_Plan) (a : Nat) (r : g_Row) (b : Nat) (think beg : Int32) : Int32 := plw p a b (g_fact r b think beg)
def g_fall (p : g_Plan) (r : g_Row) (b : Nat) : g_Row := g_set (g_set (g_set (g_set r 30 (pck p)) 31 (nI b)) 32 (r 32 - pfl p)) 33 1
/-- a move: 0 done, 1 the flag fell; how the row stands behind it -/
def g_mv (p : g_Plan) (lt : g_Row) (ha : Int32) (r : g_Row) (b : Nat) (beg think : Int32) : Int32 × g_Row :=
  if beg + think ≤ pck p then (0, g_set (g_set (g_set (g_set (g_set (g_set r 32 (r 32 + g_ask p 0 r b think beg)) b (r b - 1)) (12 + b) (r (12 + b) + 1)) 30 (beg + think)) 31 (nI b)) (6 + b) (beg + think + (if ha = nI b then 0 else g_ask p 1 r b think beg + lt b)))
  else (1, g_fall p r b)
noncomputable def g_of (p : g_Plan) (r : g_Row) (b : Nat) : Int32 × g_Row :=
  if g_soon p r b ≤ pck p then (if g_ask p 2 r b 0 (g_soon p r b) ≤ 0 then (0, g_set (g_set r 31 (nI b)) 30 (am_mn (g_soon p r b + 1) (pck p)))
    else (1, g_set (g_set (g_set (g_set r 31 (nI b)) 30 (g_soon p r b)) 32 (r 32 + g_ask p 2 r b 0 (g_soon p r b))) (18 + b) 1))
  else (2, g_fall p r b)
def g_go (p : g_Plan) (r : g_Row) (b : Nat) : g_Row := g_set (g_set r 32 (r 32 - pls p b)) (18 + b) 2
def g_over (p : g_Plan) (r : g_Row) : Bool := decide (r 33 = 1 ∨ pck p ≤ r 30 ∨ am_cnt (g_open r) 0 (pn p) = 0)
/-- the start, with these boards alone -/
def g_out (p : g_Plan) : g_Row := fun k => if k < pn p then pmv p k else if 24 ≤ k ∧ k < 30 then nI (k - 24) else 0
/-- where he stands is a board's number -/
def g_at (r : g_Row) : Prop := ∃ s, s < 6 ∧ r 31 = nI s
/-! the class's play at the cell q as a row -/
def g_row (I : am_I) (q : Nat) : g_Row := fun k => if k < 6 then I (q + 1) k else if k < 12 then I (q + 2) (k - 6) else if k < 18 then I 13 (k - 12) - I (q + 1) (k - 12) else if k < 24 then I (q + 3) (k - 18) else if k < 30 then I (q + 4) (k - 24) else if k = 30 then I q 7 else if k = 31 then I q 8 else if k = 32 then I q 9 else if k = 33 then I q 10 else 0
theorem g_row_l {I : am_I} {q b : Nat} (h : b < 6) : g_row I q b = I (q + 1) b := by unfold g_row; rw [if_pos h]
theorem g_row_r {I : am_I} {q b : Nat} (h : b < 6) : g_row I q (6 + b) = I (q + 2) b := by unfold g_row; rw [if_neg (by omega), if_pos (by omega)]; congr 1; omega
theorem g_row_m {I : am_I} {q b : Nat} (h : b < 6) : g_row I q (12 + b) = I 13 b - I (q + 1) b := by unfold g_row; rw [if_neg (by omega), if_neg (by omega), if_pos (by omega), show 12 + b - 12 = b by omega]
theorem g_row_e {I : am_I} {q b : Nat} (h : b < 6) : g_row I q (18 + b) = I (q + 3) b := by unfold g_row; rw [if_neg (by omega), if_neg (by omega), if_neg (by omega), if_pos (by omega)]; congr 1; omega
theorem g_row_s {I : am_I} {q b : Nat} (h : b < 6) : g_row I q (24 + b) = I (q + 4) b := by unfold g_row; rw [if_neg (by omega), if_neg (by omega), if_neg (by omega), if_neg (by omega), if_pos (by omega)]; congr 1; omega
theorem g_row_30 {I : am_I} {q : Nat} : g_row I q 30 = I q 7 := rfl
theorem g_row_31 {I : am_I} {q : Nat} : g_row I q 31 = I q 8 := rfl
theorem g_row_32 {I : am_I} {q : Nat} : g_row I q 32 = I q 9 := rfl
theorem g_row_33 {I : am_I} {q : Nat} : g_row I q 33 = I q 10 := rfl
theorem g_row_opn {I : am_I} {q b : Nat} (h : b < 6) : g_open (g_row I q) b = g_opn I q b := by unfold g_open g_opn; rw [g_row_l h, g_row_e h]
theorem am_cnt_congr {p q : Nat → Bool} : ∀ (k b : Nat), (∀ j, b ≤ j → j < b + k → p j = q j) → am_cnt p b k = am_cnt q b k := by
  intro k
  induction k with
  | zero => intro b _; rfl
  | succ k ih =>
    intro b h
    rw [am_cnt_s, am_cnt_s, h b (by omega) (by omega), ih (b + 1) (fun j h1 h2 => h j (by omega) (by omega))]
/-- the class's plan in the memory is p -/
def g_CL (p : g_Plan) (I : am_I) : Prop := ∀ I' : am_I, (∀ c k, c ∈ ([1, 2, 3, 12, 13, 14, 15, 16, 17, 18, 21] : List Nat) → I' c k = I c k) → ∀ (d : Nat) (J : am_J) (a b : Nat), a < 3 → b < pn p → ∃ I'', f_plan_ask_0 d (nI a) (nI b) I' J = some (some (.int (plw p a b (I' 19))), I'', J) ∧ ∀ c k, c ≠ 20 → I'' c k = I' c k
def g_C (p : g_Plan) (I : am_I) : Prop := g_OK p ∧ I 12 5 = nI (pn p) ∧ I 12 7 = pst p ∧ I 12 8 = pck p ∧ I 12 9 = pfl p ∧ (∀ b, b < pn p → I 13 b = pmv p b) ∧ (∀ b, b < pn p → I 14 b = pls p b) ∧ I 12 6 = nI (ptc p) ∧ (∀ i, i < ptc p → I 15 i = pth p i) ∧ g_CL p I
theorem g_C.keep {p : g_Plan} {I I' : am_I} (h : g_C p I) (hk : ∀ c k, c ∈ ([1, 2, 3, 12, 13, 14, 15, 16, 17, 18, 21] : List Nat) → I' c k = I c k) : g_C p I' := by
  obtain ⟨h0, h1, h2, h3, h4, h5, h6, h7, h8, h9⟩ := h
  have e : ∀ c k, c ∈ ([1, 2, 3, 12, 13, 14, 15, 16, 17, 18, 21] : List Nat) → I' c k = I c k := hk
  refine ⟨h0, by rw [e 12 5 (by decide)]; exact h1, by rw [e 12 7 (by decide)]; exact h2, by rw [e 12 8 (by decide)]; exact h3, by rw [e 12 9 (by decide)]; exact h4, fun b hb => by rw [e 13 b (by decide)]; exact h5 b hb, fun b hb => by rw [e 14 b (by decide)]; exact h6 b hb, by rw [e 12 6 (by decide)]; exact h7, fun i hi => by rw [e 15 i (by decide)]; exact h8 i hi, fun I2 h2' => h9 I2 (fun c k hc => (h2' c k hc).trans (e c k hc))⟩

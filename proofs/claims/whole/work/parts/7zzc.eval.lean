/-! what an E says: pure -/
/-- the height of the stack over a code; none: too high, too low, no such step -/
def x_ht (m : Nat) : x_Cd → Nat → Option Nat
  | [], h => some h
  | (o, a) :: c, h => if o = 0 then (if 0 ≤ a ∧ h < m then x_ht m c (h + 1) else none)
    else if o = 1 then (if 0 ≤ a ∧ a < 6 ∧ h < m then x_ht m c (h + 1) else none)
    else if o = 2 ∨ o = 3 ∨ o = 4 ∨ o = 5 then (if 2 ≤ h then x_ht m c (h - 1) else none) else none
def x_opv (o a b : Int32) : Option Int32 := if o = 2 then some (a + b) else if o = 3 then some (a - b) else if o = 4 then some (a * b) else if b = 0 then none else some (a / b)
/-- a code over a stack, the top first; none: a division by 0 -/
def x_run2 (f : Nat → Int32) : x_Cd → List Int32 → Option (List Int32)
  | [], S => some S
  | (o, a) :: c, S => if o = 0 then x_run2 f c (a :: S) else if o = 1 then x_run2 f c (f (a.toNatClampNeg % 6) :: S) else match S with
    | b :: a' :: S' => (match x_opv o a' b with
      | none => none
      | some v => x_run2 f c (v :: S'))
    | _ => none
theorem x_ht_c (m : Nat) (o a : Int32) (c : x_Cd) (h : Nat) : x_ht m ((o, a) :: c) h = if o = 0 then (if 0 ≤ a ∧ h < m then x_ht m c (h + 1) else none)
    else if o = 1 then (if 0 ≤ a ∧ a < 6 ∧ h < m then x_ht m c (h + 1) else none)
    else if o = 2 ∨ o = 3 ∨ o = 4 ∨ o = 5 then (if 2 ≤ h then x_ht m c (h - 1) else none) else none := rfl
theorem x_ht_app (m : Nat) : ∀ (c c' : x_Cd) (h h1 : Nat), x_ht m c h = some h1 → x_ht m (c ++ c') h = x_ht m c' h1 := by
  intro c
  induction c with
  | nil => intro c' h h1 e; rw [Option.some.inj (show some h = some h1 from e)]; rfl
  | cons q c ih =>
    intro c' h h1 e
    obtain ⟨o, a⟩ := q
    rw [List.cons_append]
    rw [x_ht_c] at e ⊢
    by_cases q0 : o = 0
    · rw [if_pos q0] at e ⊢
      by_cases q1 : 0 ≤ a ∧ h < m
      · rw [if_pos q1] at e ⊢; exact ih c' _ h1 e
      · rw [if_neg q1] at e; exact absurd e (by simp)
    rw [if_neg q0] at e ⊢
    by_cases q1 : o = 1
    · rw [if_pos q1] at e ⊢
      by_cases q2 : 0 ≤ a ∧ a < 6 ∧ h < m
      · rw [if_pos q2] at e ⊢; exact ih c' _ h1 e
      · rw [if_neg q2] at e; exact absurd e (by simp)
    rw [if_neg q1] at e ⊢
    by_cases q2 : o = 2 ∨ o = 3 ∨ o = 4 ∨ o = 5
    · rw [if_pos q2] at e ⊢
      by_cases q3 : 2 ≤ h
      · rw [if_pos q3] at e ⊢; exact ih c' _ h1 e
      · rw [if_neg q3] at e; exact absurd e (by simp)
    · rw [if_neg q2] at e; exact absurd e (by simp)
/-- a result whose code needs u places -/
def x_hr (K : Nat → Int32) (u : Nat) (r : x_Re) : Prop := match r with
  | .inl _ => True
  | .inr (c, t') => x_rc K t' ∧ t' ≤ 400 ∧ ∀ m h, h + u ≤ m → x_ht m c h = some (h + 1)
theorem x_go_hr {K : Nat → Int32} {w : Int32} {t u : Nat} {c : x_Cd} (hw : w ≠ 0) (h : x_rc K t) (hc : ∀ m h, h + u ≤ m → x_ht m c h = some (h + 1)) : x_hr K u (x_go K w t c) := by
  unfold x_go
  by_cases q : K t = w
  · rw [if_pos q]
    by_cases q2 : 400 ≤ t
    · rw [if_pos q2]; exact trivial
    · rw [if_neg q2]; exact ⟨h.s q hw, by omega, hc⟩
  · rw [if_neg q]; exact trivial
theorem x_fact6 : ∀ k ∈ ([139, 140, 141, 142, 143, 144] : List Int32), 0 ≤ k - 139 ∧ k - 139 < 6 := by decide +kernel
theorem x_fact_in {k : Int32} (h1 : 139 ≤ k) (h2 : k ≤ 144) : k ∈ ([139, 140, 141, 142, 143, 144] : List Int32) := by
  have a1 : (139 : Int) ≤ k.toInt := Int32.le_iff_toInt_le.mp h1
  have a2 : k.toInt ≤ 144 := Int32.le_iff_toInt_le.mp h2
  rcases (show k.toInt = 139 ∨ k.toInt = 140 ∨ k.toInt = 141 ∨ k.toInt = 142 ∨ k.toInt = 143 ∨ k.toInt = 144 by omega) with q | q | q | q | q | q
  · rw [show k = 139 from Int32.toInt_inj.mp q]; decide
  · rw [show k = 140 from Int32.toInt_inj.mp q]; decide
  · rw [show k = 141 from Int32.toInt_inj.mp q]; decide
  · rw [show k = 142 from Int32.toInt_inj.mp q]; decide
  · rw [show k = 143 from Int32.toInt_inj.mp q]; decide
  · rw [show k = 144 from Int32.toInt_inj.mp q]; decide
theorem x_unit_hr {K V : Nat → Int32} (hV : ∀ t, t ≤ 400 → x_rc K t → K t = 3 → 0 ≤ V t) {b : Bool} {S : Nat → x_Re} {u : Nat} (hu : 1 ≤ u) (hS : ∀ t, x_rc K t → t ≤ 400 → x_hr K u (S t)) (t : Nat) (h : x_rc K t) (ht : t ≤ 400) : x_hr K u (x_unit K V b S t) := by
  unfold x_unit
  by_cases h1 : K t = 3
  · rw [if_pos h1]
    refine x_go_hr (by decide) h (fun m k hk => ?_)
    unfold x_ht
    rw [if_pos rfl, if_pos ⟨hV t ht h h1, by omega⟩]
    rfl
  rw [if_neg h1]
  by_cases h2 : 139 ≤ K t ∧ K t ≤ 144
  · rw [if_pos h2]
    refine x_go_hr (fun q => by rw [q] at h2; exact absurd h2.1 (by decide)) h (fun m k hk => ?_)
    obtain ⟨g1, g2⟩ := x_fact6 _ (x_fact_in h2.1 h2.2)
    unfold x_ht
    rw [if_neg (by decide), if_pos rfl, if_pos ⟨g1, g2, by omega⟩]
    rfl
  rw [if_neg h2]
  by_cases h3 : K t = 40
  · rw [if_pos h3]
    by_cases h4 : b = true
    · rw [if_pos h4]; exact trivial
    rw [if_neg h4]
    by_cases h5 : 400 ≤ t
    · rw [if_pos h5]; exact trivial
    rw [if_neg h5]
    have q := hS (t + 1) (h.s h3 (by decide)) (by omega)
    cases hr : S (t + 1) with
    | inl f => exact trivial
    | inr p =>
      obtain ⟨c, t'⟩ := p
      rw [hr] at q
      exact x_go_hr (by decide) q.1 q.2.2
  · rw [if_neg h3]; exact trivial
theorem x_tail_hr {K : Nat → Int32} {w1 w2 o1 o2 : Int32} {U : Nat → x_Re} {u : Nat} (h1 : w1 ≠ 0) (h2 : w2 ≠ 0) (ho : (o1 = 2 ∧ o2 = 3) ∨ (o1 = 4 ∧ o2 = 5)) (hU : ∀ t, x_rc K t → t ≤ 400 → x_hr K u (U t)) : ∀ n c t, x_rc K t → t ≤ 400 → (∀ m h, h + (u + 1) ≤ m → x_ht m c h = some (h + 1)) → x_hr K (u + 1) (x_tail K w1 w2 o1 o2 U n c t) := by
  intro n
  induction n with
  | zero => intro c t h ht hc; exact ⟨h, ht, hc⟩
  | succ n ih =>
    intro c t h ht hc
    unfold x_tail
    by_cases q : K t = w1 ∨ K t = w2
    · rw [if_pos q]
      by_cases h5 : 400 ≤ t
      · rw [if_pos h5]; exact trivial
      rw [if_neg h5]
      have v := hU (t + 1) (q.elim (fun z => h.s z h1) (fun z => h.s z h2)) (by omega)
      cases hr : U (t + 1) with
      | inl f => exact trivial
      | inr p =>
        obtain ⟨c', t'⟩ := p
        rw [hr] at v
        refine ih _ t' v.1 v.2.1 (fun m k hk => ?_)
        rw [List.append_assoc, x_ht_app m c _ k (k + 1) (hc m k hk), x_ht_app m c' _ (k + 1) (k + 2) (v.2.2 m (k + 1) (by omega))]
        have ev : (if K t = w1 then o1 else o2) = 2 ∨ (if K t = w1 then o1 else o2) = 3 ∨ (if K t = w1 then o1 else o2) = 4 ∨ (if K t = w1 then o1 else o2) = 5 := by
          rcases ho with ⟨rfl, rfl⟩ | ⟨rfl, rfl⟩
          · by_cases w : K t = w1
            · rw [if_pos w]; exact Or.inl rfl
            · rw [if_neg w]; exact Or.inr (Or.inl rfl)
          · by_cases w : K t = w1
            · rw [if_pos w]; exact Or.inr (Or.inr (Or.inl rfl))
            · rw [if_neg w]; exact Or.inr (Or.inr (Or.inr rfl))
        generalize (if K t = w1 then o1 else o2) = o at ev
        have n0 : o ≠ 0 ∧ o ≠ 1 := by rcases ev with rfl | rfl | rfl | rfl <;> decide
        unfold x_ht
        rw [if_neg n0.1, if_neg n0.2, if_pos ev, if_pos (by omega)]
        rfl
    · rw [if_neg q]; exact ⟨h, ht, hc⟩
theorem x_lv_hr {K : Nat → Int32} {w1 w2 o1 o2 : Int32} {U : Nat → x_Re} {u : Nat} (h1 : w1 ≠ 0) (h2 : w2 ≠ 0) (ho : (o1 = 2 ∧ o2 = 3) ∨ (o1 = 4 ∧ o2 = 5)) (hU : ∀ t, x_rc K t → t ≤ 400 → x_hr K u (U t)) (t : Nat) (h : x_rc K t) (ht : t ≤ 400) : x_hr K (u + 1) (x_lv K w1 w2 o1 o2 U t) := by
  unfold x_lv
  have v := hU t h ht
  cases hr : U t with
  | inl f => exact trivial
  | inr p =>
    obtain ⟨c, t'⟩ := p
    rw [hr] at v
    exact x_tail_hr h1 h2 ho hU 400 c t' v.1 v.2.1 (fun m k hk => v.2.2 m k (by omega))
theorem x_E_hr {K V : Nat → Int32} (hV : ∀ t, t ≤ 400 → x_rc K t → K t = 3 → 0 ≤ V t) : ∀ k t, x_rc K t → t ≤ 400 → x_hr K (2 * k + 3) (x_E K V k t) := by
  intro k
  induction k with
  | zero => exact x_lv_hr (by decide) (by decide) (Or.inl ⟨rfl, rfl⟩) (x_lv_hr (by decide) (by decide) (Or.inr ⟨rfl, rfl⟩) (x_unit_hr hV (S := fun t => .inl (2, t)) (Nat.le_refl 1) (fun _ _ _ => trivial)))
  | succ k ih =>
    rw [show 2 * (k + 1) + 3 = 2 * k + 3 + 1 + 1 by omega]
    exact x_lv_hr (by decide) (by decide) (Or.inl ⟨rfl, rfl⟩) (x_lv_hr (by decide) (by decide) (Or.inr ⟨rfl, rfl⟩) (x_unit_hr hV (by omega) ih))
/-- a code that is an E's -/
def x_we (c : x_Cd) : Prop := ∀ m h, h + 15 ≤ m → x_ht m c h = some (h + 1)
theorem x_pe_we {K V : Nat → Int32} (hV : ∀ t, t ≤ 400 → x_rc K t → K t = 3 → 0 ≤ V t) {st : x_St} (ho : x_ok K st) {t' : Nat} (h : x_rs (x_pe K V st) = .inr t') : x_we (x_rk (x_pe K V st)) := by
  obtain ⟨t, e1, e2, e3, e4, e5⟩ := x_pe_y h
  have := x_E_hr hV 6 t (ho t e1) (by omega)
  rw [e2] at this
  exact this.2.2
/-- what lies below isn't touched -/
theorem x_run2_app (f : Nat → Int32) (m : Nat) (T : List Int32) : ∀ (c : x_Cd) (S : List Int32) (h' : Nat), x_ht m c S.length = some h' → x_run2 f c (S ++ T) = (x_run2 f c S).map (· ++ T) ∧ ∀ S', x_run2 f c S = some S' → S'.length = h' := by
  intro c
  induction c with
  | nil =>
    intro S h' e
    refine ⟨rfl, fun S' q => ?_⟩
    rw [← Option.some.inj (show some S = some S' from q)]
    exact Option.some.inj (show some S.length = some h' from e)
  | cons q c ih =>
    intro S h' e
    obtain ⟨o, a⟩ := q
    unfold x_ht at e
    unfold x_run2
    by_cases q0 : o = 0
    · rw [if_pos q0] at e
      rw [if_pos q0, if_pos q0]
      by_cases q1 : 0 ≤ a ∧ S.length < m
      · rw [if_pos q1] at e
        exact ih (a :: S) h' e
      · rw [if_neg q1] at e; exact absurd e (by simp)
    rw [if_neg q0] at e
    rw [if_neg q0, if_neg q0]
    by_cases q1 : o = 1
    · rw [if_pos q1] at e
      rw [if_pos q1, if_pos q1]
      by_cases q2 : 0 ≤ a ∧ a < 6 ∧ S.length < m
      · rw [if_pos q2] at e
        exact ih (f (a.toNatClampNeg % 6) :: S) h' e
      · rw [if_neg q2] at e; exact absurd e (by simp)
    rw [if_neg q1] at e
    rw [if_neg q1, if_neg q1]
    by_cases q2 : o = 2 ∨ o = 3 ∨ o = 4 ∨ o = 5
    · rw [if_pos q2] at e
      by_cases q3 : 2 ≤ S.length
      · rw [if_pos q3] at e
        match S, q3, e with
        | b :: a' :: S', _, e =>
          show (match x_opv o a' b with | none => none | some v => x_run2 f c (v :: (S' ++ T))) = Option.map (· ++ T) (match x_opv o a' b with | none => none | some v => x_run2 f c (v :: S')) ∧ ∀ S2, (match x_opv o a' b with | none => none | some v => x_run2 f c (v :: S')) = some S2 → S2.length = h'
          cases x_opv o a' b with
          | none => exact ⟨rfl, fun S2 q => absurd q (by simp)⟩
          | some v => exact ih (v :: S') h' e
      · rw [if_neg q3] at e; exact absurd e (by simp)
    · rw [if_neg q2] at e; exact absurd e (by simp)
/-- an E's value; none: a division by 0 -/
def x_ev (f : Nat → Int32) (c : x_Cd) : Option Int32 := match x_run2 f c [] with
  | some (v :: _) => some v
  | _ => none
theorem x_we_run {c : x_Cd} (h : x_we c) (f : Nat → Int32) (T : List Int32) : x_run2 f c T = (x_ev f c).map (fun v => v :: T) := by
  obtain ⟨h1, h2⟩ := x_run2_app f 15 T c [] 1 (h 15 0 (by omega))
  rw [List.nil_append] at h1
  rw [h1]
  unfold x_ev
  cases hr : x_run2 f c [] with
  | none => rfl
  | some S' =>
    have := h2 S' hr
    match S', this with
    | [v], _ => rfl
/-- a law's value, unbounded; broken: 0 -/
def x_lwv (f : Nat → Int32) : List x_Br → x_Cd → Int32
  | [], c => (x_ev f c).getD 0
  | b :: l, c => match x_ev f b.1, x_ev f b.2.1 with
    | some u, some v => if u < v then (x_ev f b.2.2).getD 0 else x_lwv f l c
    | _, _ => 0
def x_wl (L : x_Law) : Prop := (∀ b ∈ L.1, x_we b.1 ∧ x_we b.2.1 ∧ x_we b.2.2) ∧ x_we L.2
theorem x_run2_cg {f g : Nat → Int32} (e : ∀ k, k < 6 → f k = g k) : ∀ (c : x_Cd) (S : List Int32), x_run2 f c S = x_run2 g c S := by
  intro c
  induction c with
  | nil => intro S; rfl
  | cons q c ih =>
    intro S
    obtain ⟨o, a⟩ := q
    unfold x_run2
    rw [e _ (Nat.mod_lt _ (by omega)), ih, ih]
    by_cases q0 : o = 0
    · rw [if_pos q0, if_pos q0]
    rw [if_neg q0, if_neg q0]
    by_cases q1 : o = 1
    · rw [if_pos q1, if_pos q1]
    rw [if_neg q1, if_neg q1]
    match S with
    | [] => rfl
    | [b] => rfl
    | b :: a' :: S' =>
      show (match x_opv o a' b with | none => none | some v => x_run2 f c (v :: S')) = (match x_opv o a' b with | none => none | some v => x_run2 g c (v :: S'))
      cases x_opv o a' b with
      | none => rfl
      | some v => exact ih _
theorem x_ev_cg {f g : Nat → Int32} (e : ∀ k, k < 6 → f k = g k) (c : x_Cd) : x_ev f c = x_ev g c := by
  unfold x_ev
  rw [x_run2_cg e]
theorem x_lwv_cg {f g : Nat → Int32} (e : ∀ k, k < 6 → f k = g k) : ∀ (l : List x_Br) (c : x_Cd), x_lwv f l c = x_lwv g l c := by
  intro l
  induction l with
  | nil => intro c; unfold x_lwv; rw [x_ev_cg e]
  | cons b l ih =>
    intro c
    unfold x_lwv
    rw [x_ev_cg e, x_ev_cg e, x_ev_cg e, ih]

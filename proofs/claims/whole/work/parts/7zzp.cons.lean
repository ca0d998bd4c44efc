/-! the law's start, by computing -/
def l_b9 : List (Option Value) := am_born (([1, 1, 1, 1, 1, 1, 1, 1, 1] : List Nat).map fun b => b == 1)
def l_b10 : List (Option Value) := am_born (([0, 1, 0, 1, 0, 1, 1, 1, 1, 1, 0, 0, 0, 0, 0, 0, 0, 0, 0, 0, 0, 1, 1, 1, 1, 1, 1, 1, 1, 1, 1, 1, 0, 1, 1, 1, 1, 1, 0, 1, 1, 1, 0, 1, 1, 0, 1, 1, 1, 0, 0, 1, 1, 1, 1, 1, 1, 0, 0, 0, 1, 1, 0, 1, 1, 1, 1] : List Nat).map fun b => b == 1)
def l_ma (I0 : am_I) : am_Mem := (am_olds ++ [.inr (9, l_b9)], am_zero I0 5, am_zeroJ (fun _ _ => 0) 5)
def l_mb (μ : am_Mem) : am_Mem := (μ.1 ++ [.inr (10, l_b10)], am_zero μ.2.1 μ.1.length, am_zeroJ μ.2.2 μ.1.length)
def l_r1 (I0 : am_I) : Option (Option Value × am_Mem) := am_run am_MT 2000 12 am_m96 0 (am_entry 1 [.ref 5]) [] (l_ma I0)
def l_r2 (μ : am_Mem) : Option (Option Value × am_Mem) := am_run am_MT 2000 12 am_m135 0 (am_entry 2 [.ref 68]) [] (l_mb μ)
def l_ints : List (Nat × Nat × Int32) := [(12, 5, 0), (12, 6, 1), (12, 7, 1), (12, 8, 120), (12, 9, 0), (15, 0, 1), (68, 18, 0), (77, 0, 0), (82, 0, 1), (83, 0, 120), (84, 0, 0), (80, 0, 1), (81, 0, 1), (34, 6, -1), (34, 7, 0), (34, 8, 0), (34, 9, 0), (34, 10, 0), (35, 0, 0), (35, 1, 0), (35, 2, 0), (35, 3, 0), (35, 4, 0), (35, 5, 0), (36, 0, 0), (36, 1, 0), (36, 2, 0), (36, 3, 0), (36, 4, 0), (36, 5, 0), (37, 0, 0), (37, 1, 0), (37, 2, 0), (37, 3, 0), (37, 4, 0), (37, 5, 0), (38, 0, 0), (38, 1, 1), (38, 2, 2), (38, 3, 3), (38, 4, 4), (38, 5, 5), (39, 0, 0), (39, 1, 0), (39, 2, 0), (39, 3, 0), (39, 4, 0), (39, 5, 0), (97, 0, 0), (97, 1, 0), (97, 2, 0), (97, 3, 0), (97, 4, 0), (97, 5, 0), (97, 6, 0), (97, 7, 0), (97, 8, 0), (97, 9, 0), (97, 10, 0), (97, 11, 0), (97, 12, 0), (97, 13, 0), (97, 14, 0), (97, 15, 0), (97, 16, 0), (97, 17, 0), (97, 18, 0), (97, 19, 0), (97, 20, 0), (97, 21, 0), (97, 22, 0), (97, 23, 0), (97, 24, 0), (97, 25, 1), (97, 26, 2), (97, 27, 3), (97, 28, 4), (97, 29, 5), (97, 30, 0), (97, 31, 0), (97, 32, 0), (97, 33, 0), (63, 1, 0), (63, 2, 0), (68, 50, 0), (67, 0, 0), (67, 1, 0), (67, 2, 0), (110, 0, 0), (110, 1, 0), (110, 2, 0), (53, 5, 0), (68, 62, 0), (6, 1, 0), (68, 2, 0), (32, 6, -1), (68, 17, -1), (40, 8, -1), (40, 13, -1)]
def l_words : List Int64 := [1359346, 12532058, 22179978, 91904, 291417337, 388708, 1841546, 126880, 249, 399641, 107681, 10793234, 267413, 400577, 180392, 240023, 14431]
def l_sv : Option Value → Option Value → Bool
  | none, none => true
  | some (.ref a), some (.ref b) => Nat.beq a b
  | _, _ => false
def l_sf : List (Option Value) → List (Option Value) → Bool
  | [], [] => true
  | a :: l, b :: m => l_sv a b && l_sf l m
  | _, _ => false
def l_s : am_Shp → am_Shp → Bool
  | .inl (t, n), .inl (t', n') => Nat.beq t t' && Nat.beq n n'
  | .inr (c, l), .inr (c', l') => Nat.beq c c' && l_sf l l'
  | _, _ => false
def l_sl : List am_Shp → List am_Shp → Bool
  | [], [] => true
  | a :: l, b :: m => l_s a b && l_sl l m
  | _, _ => false
theorem l_sv_s {a b : Option Value} (h : l_sv a b = true) : a = b := by
  unfold l_sv at h
  split at h
  · rfl
  · rw [Nat.eq_of_beq_eq_true h]
  · cases h
theorem l_sf_s : ∀ (a b : List (Option Value)), l_sf a b = true → a = b := by
  intro a
  induction a with
  | nil => intro b h; cases b with
    | nil => rfl
    | cons x y => cases h
  | cons x l ih => intro b h; cases b with
    | nil => cases h
    | cons y m =>
      obtain ⟨h1, h2⟩ := (Bool.and_eq_true _ _).mp h
      rw [l_sv_s h1, ih m h2]
theorem l_s_s {a b : am_Shp} (h : l_s a b = true) : a = b := by
  unfold l_s at h
  split at h
  · obtain ⟨h1, h2⟩ := (Bool.and_eq_true _ _).mp h
    rw [Nat.eq_of_beq_eq_true h1, Nat.eq_of_beq_eq_true h2]
  · obtain ⟨h1, h2⟩ := (Bool.and_eq_true _ _).mp h
    rw [Nat.eq_of_beq_eq_true h1, l_sf_s _ _ h2]
  · cases h
theorem l_sl_s : ∀ (a b : List am_Shp), l_sl a b = true → a = b := by
  intro a
  induction a with
  | nil => intro b h; cases b with
    | nil => rfl
    | cons x y => cases h
  | cons x l ih => intro b h; cases b with
    | nil => cases h
    | cons y m =>
      obtain ⟨h1, h2⟩ := (Bool.and_eq_true _ _).mp h
      rw [l_s_s h1, ih m h2]
def l_longs (J : am_J) : Nat → List Int64 → Bool
  | _, [] => true
  | w, y :: l => decide (J 75 w = y) && l_longs J (w + 1) l
def l_ok2 (μ : am_Mem) : Bool := l_sl μ.1 am_SH && (l_ints.all (fun q => decide (μ.2.1 q.1 q.2.1 = q.2.2)) && l_longs μ.2.2 0 l_words)
def l_ok (I0 : am_I) : Bool := match l_r1 I0 with
  | some (none, μ) => l_sl μ.1 (am_SH.take 68) && (match l_r2 μ with
    | some (none, μ2) => l_ok2 μ2
    | _ => false)
  | _ => false
noncomputable def l_ie : am_I := Classical.epsilon (fun I => l_ok I = false)
set_option maxRecDepth 100000 in
theorem l_ok_e : l_ok l_ie = true := by decide +kernel
theorem l_ok_all (I0 : am_I) : l_ok I0 = true := by
  cases h : l_ok I0 with
  | true => rfl
  | false =>
    have q : l_ok l_ie = false := Classical.epsilon_spec (p := fun I => l_ok I = false) ⟨I0, h⟩
    rw [l_ok_e] at q
    cases q

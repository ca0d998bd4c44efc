/-! a text without a fault is a plan -/
def x_bd (v : Int32) (lo hi : Int) : Prop := lo ≤ v.toInt ∧ v.toInt ≤ hi
theorem x_badb_no {v lo hi : Int32} (h : x_badb v lo hi = false) : x_bd v lo.toInt hi.toInt := by
  have n : ¬ x_bad v lo hi := fun q => by rw [x_badb_iff.mpr q] at h; exact absurd h (by decide)
  exact ⟨Int32.le_iff_toInt_le.mp (Int32.not_lt.mp (fun q => n (Or.inl q))), Int32.le_iff_toInt_le.mp (Int32.not_lt.mp (fun q => n (Or.inr q)))⟩
theorem x_s1_0 {b : Bool} {f : Int32} {tok : Nat} {s : x_Sl} (hf : f ≠ 0) (h : (x_s1 b f tok s).1 = 0) : s.1 = 0 ∧ b = false := by
  unfold x_s1 at h
  by_cases q : b = true ∧ s.1 = 0
  · rw [if_pos q] at h; exact absurd h hf
  · rw [if_neg q] at h
    refine ⟨h, ?_⟩
    cases b
    · rfl
    · exact absurd ⟨rfl, h⟩ q
/-- the numbers of a text without a slip -/
def x_ok5 (S : x_S) : Prop := (∀ q ∈ S.1, x_bd q.2.1 0 9 ∧ x_bd q.2.2 0 999) ∧ x_bd S.2.1.1 0 9 ∧ x_bd S.2.1.2.1 1 500 ∧ x_bd S.2.1.2.2 0 999 ∧ ∀ v ∈ S.2.2.1, x_bd v 0 60
def x_VS (S : x_S) : Prop := S.1.length ≤ 6 ∧ (1 ≤ S.2.2.1.length ∧ S.2.2.1.length ≤ 4) ∧ (∀ i L, S.2.2.2.1 i = some L → x_wl L) ∧ (S.2.2.2.2.1 = 0 → x_ok5 S)
theorem x_ths_V {K V : Nat → Int32} : ∀ (n : Nat) (a : List Int32) (s : x_Sl) (t : Nat), (x_ths K V n a s t).2.1.length ≤ a.length + n ∧ ((x_ths K V n a s t).2.2.1 = 0 → s.1 = 0 ∧ ((∀ v ∈ a, x_bd v 0 60) → ∀ v ∈ (x_ths K V n a s t).2.1, x_bd v 0 60)) := by
  intro n
  induction n with
  | zero =>
    intro a s t
    unfold x_ths
    by_cases q : K t = 3
    · rw [if_pos q]; exact ⟨Nat.le_refl _, fun h => ⟨h, fun h => h⟩⟩
    · rw [if_neg q]; exact ⟨Nat.le_refl _, fun h => ⟨h, fun h => h⟩⟩
  | succ n ih =>
    intro a s t
    unfold x_ths
    by_cases q : K t = 3
    · rw [if_pos q]
      by_cases q2 : 400 ≤ t
      · rw [if_pos q2]; exact ⟨Nat.le_add_right _ _, fun h => ⟨h, fun h => h⟩⟩
      · rw [if_neg q2]
        obtain ⟨h1, h2⟩ := ih (a ++ [V t]) (x_s1 (x_badb (V t) 0 60) 5 t s) (t + 1)
        rw [List.length_append] at h1
        simp only [List.length_cons, List.length_nil] at h1
        refine ⟨by omega, fun h => ?_⟩
        obtain ⟨g1, g2⟩ := h2 h
        obtain ⟨g3, g4⟩ := x_s1_0 (by decide) g1
        refine ⟨g3, fun ha => g2 (fun v hv => ?_)⟩
        rcases List.mem_append.mp hv with hv | hv
        · exact ha v hv
        · have : v = V t := by simpa using hv
          rw [this]
          exact x_badb_no g4
    · rw [if_neg q]; exact ⟨Nat.le_add_right _ _, fun h => ⟨h, fun h => h⟩⟩
theorem x_think_V {K V : Nat → Int32} {s : x_Sl} {t : Nat} : (1 ≤ (x_th1 (x_think K V s t).2.1).length ∧ (x_th1 (x_think K V s t).2.1).length ≤ 4) ∧ ((x_think K V s t).2.2.1 = 0 → s.1 = 0 ∧ ∀ v ∈ x_th1 (x_think K V s t).2.1, x_bd v 0 60) := by
  have one : ∀ l : List Int32, l.length ≤ 4 → (1 ≤ (x_th1 l).length ∧ (x_th1 l).length ≤ 4) ∧ ((∀ v ∈ l, x_bd v 0 60) → ∀ v ∈ x_th1 l, x_bd v 0 60) := fun l hl => by
    unfold x_th1
    by_cases q : l.length = 0
    · rw [if_pos q]
      refine ⟨by decide, fun _ v hv => ?_⟩
      have : v = 1 := by simpa using hv
      rw [this]
      unfold x_bd
      decide
    · rw [if_neg q]; exact ⟨⟨by omega, hl⟩, fun h => h⟩
  unfold x_think
  cases hx : x_ps K 132 (.inr t) with
  | inl f => exact ⟨(one [] (by simp)).1, fun h => ⟨h, (one [] (by simp)).2 (fun v hv => absurd hv (by simp))⟩⟩
  | inr t' =>
    obtain ⟨h1, h2⟩ := x_ths_V (K := K) (V := V) 4 [] s t'
    obtain ⟨o1, o2⟩ := one (x_ths K V 4 [] s t').2.1 (by simpa using h1)
    exact ⟨o1, fun h => ⟨(h2 h).1, o2 ((h2 h).2 (fun v hv => absurd hv (by simp)))⟩⟩
theorem x_ifs_V {K V : Nat → Int32} (hV : ∀ t, t ≤ 400 → x_rc K t → K t = 3 → 0 ≤ V t) : ∀ (n : Nat) (a : List x_Br) (t : Nat), x_rc K t → (∀ b ∈ a, x_we b.1 ∧ x_we b.2.1 ∧ x_we b.2.2) → ∀ t', (x_ifs K V n a t).1 = .inr t' → x_wl (x_ifs K V n a t).2 := by
  have fin : ∀ (a : List x_Br) (t : Nat), x_rc K t → (∀ b ∈ a, x_we b.1 ∧ x_we b.2.1 ∧ x_we b.2.2) → ∀ t', x_ps K 59 (x_rs (x_E K V 6 t)) = .inr t' → x_wl (a, x_rk (x_E K V 6 t)) := fun a t h ha t' e => by
    obtain ⟨t1, e1, _⟩ := x_ps_y e
    exact ⟨ha, x_pe_we hV (st := .inr t) (x_ok.i h) e1⟩
  intro n
  induction n with
  | zero =>
    intro a t h ha t' e
    unfold x_ifs at e ⊢
    by_cases q : K t = 136
    · rw [if_pos q] at e; exact absurd e (by simp)
    · rw [if_neg q] at e ⊢; exact fin a t h ha t' e
  | succ n ih =>
    intro a t h ha t' e
    unfold x_ifs at e ⊢
    by_cases q : K t = 136
    · rw [if_pos q] at e ⊢
      have o1 : x_ok K (x_ps K 136 (.inr t)) := x_ps_ok (x_ok.i h) (by decide)
      have o2 : x_ok K (x_ps K 60 (x_rs (x_r1 K V t))) := x_ps_ok (x_pe_ok o1) (by decide)
      have o3 : x_ok K (x_ps K 137 (x_rs (x_r2 K V t))) := x_ps_ok (x_pe_ok o2) (by decide)
      have o4 : x_ok K (x_ps K 138 (x_rs (x_r3 K V t))) := x_ps_ok (x_pe_ok o3) (by decide)
      cases hx : x_ps K 138 (x_rs (x_r3 K V t)) with
      | inl f => rw [hx] at e; exact absurd e (by simp)
      | inr t1 =>
        rw [hx] at e
        obtain ⟨t6, e6, _⟩ := x_ps_y hx
        obtain ⟨t5, e5, _⟩ := x_pe_y e6
        obtain ⟨t4, e4, _⟩ := x_ps_y e5
        obtain ⟨t3, e3, _⟩ := x_pe_y e4
        obtain ⟨t2, e2, _⟩ := x_ps_y e3
        refine ih (a ++ [x_br K V t]) t1 (o4 t1 hx) (fun b hb => ?_) t' e
        rcases List.mem_append.mp hb with hb | hb
        · exact ha b hb
        · have : b = x_br K V t := by simpa using hb
          rw [this]
          exact ⟨x_pe_we hV o1 e2, x_pe_we hV o2 e4, x_pe_we hV o3 e6⟩
    · rw [if_neg q] at e ⊢; exact fin a t h ha t' e
theorem x_tell_V {K V : Nat → Int32} {Sm : Nat → Nat → Bool} (hV : ∀ t, t ≤ 400 → x_rc K t → K t = 3 → 0 ≤ V t) {S : x_S} {t : Nat} (h : x_rc K t) (hS : x_VS S) {t' : Nat} (e : (x_tell K V Sm S t).1 = .inr t') : x_VS (x_tell K V Sm S t).2 := by
  obtain ⟨h1, h2, h3, h4⟩ := hS
  have law : ∀ (kk : Nat) (w : Int32), w ≠ 0 → (x_tlaw K V Sm kk w S t).1 = .inr t' → x_VS (x_tlaw K V Sm kk w S t).2 := fun kk w hw e => by
    have o : x_ok K (x_lst K w t) := x_ps_ok (x_ps_ok (x_ps_ok (x_ok.i h) hw) (by decide)) (by decide)
    unfold x_tlaw x_law at e ⊢
    cases hx : x_lst K w t with
    | inl f => rw [hx] at e; exact absurd e (by simp)
    | inr t1 =>
      rw [hx] at e
      have wl := x_ifs_V hV 4 [] t1 (o t1 hx) (fun b hb => absurd hb (by simp)) t' e
      refine ⟨h1, h2, fun i L hL => ?_, fun h0 => ?_⟩
      · have hL' : x_ins S.2.2.2.1 kk (x_fd Sm (t + 1) S.1 0) (x_ifs K V 4 [] t1).2 i = some L := hL
        unfold x_ins at hL'
        cases hf : x_fd Sm (t + 1) S.1 0 with
        | none => rw [hf] at hL'; exact h3 i L hL'
        | some c =>
          rw [hf] at hL'
          have hL2 : (if i = 6 * kk + c then some (x_ifs K V 4 [] t1).2 else S.2.2.2.1 i) = some L := hL'
          by_cases q : i = 6 * kk + c
          · rw [if_pos q] at hL2
            rw [← Option.some.inj hL2]
            exact wl
          · rw [if_neg q] at hL2; exact h3 i L hL2
      · have h0' : (x_s1 (x_fd Sm (t + 1) S.1 0).isNone 4 (t + 1) S.2.2.2.2).1 = 0 := h0
        exact h4 (x_s1_0 (by decide) h0').1
  unfold x_tell at e ⊢
  by_cases q0 : K t = 128
  · rw [if_pos q0] at e ⊢
    unfold x_board at e ⊢
    by_cases q : S.1.length = 6
    · rw [if_pos q] at e; exact absurd e (by simp)
    · rw [if_neg q] at e ⊢
      refine ⟨by show (S.1 ++ [_]).length ≤ 6; rw [List.length_append]; simp; omega, h2, h3, fun h0 => ?_⟩
      have h0' : (x_s1 (x_badb (V (t + 3)) 0 999) 5 (t + 3) (x_s1 (x_badb (V (t + 2)) 0 9) 5 (t + 2) (x_s1 (x_fd Sm (t + 1) S.1 0).isSome 3 (t + 1) S.2.2.2.2))).1 = 0 := h0
      obtain ⟨g1, g2⟩ := x_s1_0 (by decide) h0'
      obtain ⟨g3, g4⟩ := x_s1_0 (by decide) g1
      obtain ⟨g5, g6⟩ := x_s1_0 (by decide) g3
      obtain ⟨w1, w2⟩ := h4 g5
      refine ⟨fun q hq => ?_, w2⟩
      have hq' : q ∈ S.1 ++ [(t + 1, V (t + 2), V (t + 3))] := hq
      rcases List.mem_append.mp hq' with hq | hq
      · exact w1 q hq
      · have : q = (t + 1, V (t + 2), V (t + 3)) := by simpa using hq
        rw [this]
        exact ⟨x_badb_no g4, x_badb_no g2⟩
  rw [if_neg q0] at e ⊢
  by_cases q1 : K t = 129
  · rw [if_pos q1] at e ⊢; exact law 0 129 (by decide) e
  rw [if_neg q1] at e ⊢
  by_cases q2 : K t = 130
  · rw [if_pos q2] at e ⊢; exact law 1 130 (by decide) e
  rw [if_neg q2] at e ⊢
  by_cases q3 : K t = 131
  · rw [if_pos q3] at e ⊢; exact law 2 131 (by decide) e
  rw [if_neg q3] at e ⊢
  by_cases q4 : K t = 132
  · rw [if_pos q4]
    obtain ⟨g1, g2⟩ := x_think_V (K := K) (V := V) (s := S.2.2.2.2) (t := t)
    refine ⟨h1, g1, h3, fun h0 => ?_⟩
    obtain ⟨g3, g4⟩ := g2 h0
    obtain ⟨w1, w2, w3, w4, w5⟩ := h4 g3
    exact ⟨w1, w2, w3, w4, g4⟩
  rw [if_neg q4] at e ⊢
  by_cases q5 : K t = 133
  · rw [if_pos q5]
    refine ⟨h1, h2, h3, fun h0 => ?_⟩
    obtain ⟨g1, g2⟩ := x_s1_0 (by decide) (show (x_s1 (x_badb (V (t + 1)) 0 9) 5 (t + 1) S.2.2.2.2).1 = 0 from h0)
    obtain ⟨w1, w2, w3, w4, w5⟩ := h4 g1
    exact ⟨w1, x_badb_no g2, w3, w4, w5⟩
  rw [if_neg q5] at e ⊢
  by_cases q6 : K t = 134
  · rw [if_pos q6]
    refine ⟨h1, h2, h3, fun h0 => ?_⟩
    obtain ⟨g1, g2⟩ := x_s1_0 (by decide) (show (x_s1 (x_badb (V (t + 1)) 1 500) 5 (t + 1) S.2.2.2.2).1 = 0 from h0)
    obtain ⟨w1, w2, w3, w4, w5⟩ := h4 g1
    exact ⟨w1, w2, x_badb_no g2, w4, w5⟩
  rw [if_neg q6] at e ⊢
  by_cases q7 : K t = 135
  · rw [if_pos q7]
    refine ⟨h1, h2, h3, fun h0 => ?_⟩
    obtain ⟨g1, g2⟩ := x_s1_0 (by decide) (show (x_s1 (x_badb (V (t + 1)) 0 999) 5 (t + 1) S.2.2.2.2).1 = 0 from h0)
    obtain ⟨w1, w2, w3, w4, w5⟩ := h4 g1
    exact ⟨w1, w2, w3, x_badb_no g2, w5⟩
  rw [if_neg q7] at e
  exact absurd e (by simp)
theorem x_S0_V : x_VS x_S0 := ⟨by decide, by decide, fun i L h => absurd h (by simp [x_S0]), fun _ => ⟨fun q hq => absurd hq (by simp [x_S0]), by unfold x_bd; decide, by unfold x_bd; decide, by unfold x_bd; decide, fun v hv => by
  have : v = 1 := by simpa [x_S0] using hv
  rw [this]
  unfold x_bd
  decide⟩⟩
theorem x_text_V {K V : Nat → Int32} {Sm : Nat → Nat → Bool} (hV : ∀ t, t ≤ 400 → x_rc K t → K t = 3 → 0 ≤ V t) : ∀ (n : Nat) (S : x_S) (t t' : Nat), x_rc K t → (∀ q ∈ S.1, q.1 < t) → x_VS S → (x_text K V Sm n S t).1 = .inr t' → x_VS (x_text K V Sm n S t).2 := by
  intro n
  induction n with
  | zero => intro S t t' _ _ hS _; exact hS
  | succ n ih =>
    intro S t t' h hn hS e
    unfold x_text at e ⊢
    by_cases q : K t = 0
    · rw [if_pos q]; exact hS
    · rw [if_neg q] at e ⊢
      cases hx : (x_tell K V Sm S t).1 with
      | inl f => rw [hx] at e; exact absurd e (by simp)
      | inr t1 =>
        rw [hx] at e
        obtain ⟨g1, g2, g3⟩ := x_tell_g h hn hx
        exact ih (x_tell K V Sm S t).2 t1 t' g1 g3 (x_tell_V hV h hS hx) e
/-- what a law says within its bounds -/
def x_plw (laws : Nat → Option x_Law) : g_Law := fun a b f => match laws (6 * a + b) with
  | none => if a = 2 then 0 else 1
  | some L => if a = 1 then x_cl3 0 99 (x_lwv f L.1 L.2) else x_cl3 (-999) 999 (x_lwv f L.1 L.2)
def x_pl (S : x_S) : g_Plan := (S.1.length, S.2.1.1, S.2.1.2.1, S.2.1.2.2, x_plw S.2.2.2.1, fun b => (S.1[b]?.map (fun q : x_Bd => q.2.1)).getD 0, fun b => (S.1[b]?.map (fun q : x_Bd => q.2.2)).getD 0, S.2.2.1.length, fun i => (S.2.2.1[i]?).getD 0)
theorem x_cl3_bd {lo hi v : Int32} {l h : Int} (e1 : lo.toInt = l) (e2 : hi.toInt = h) (hlh : l ≤ h) : l ≤ (x_cl3 lo hi v).toInt ∧ (x_cl3 lo hi v).toInt ≤ h := by
  unfold x_cl3
  by_cases q1 : lo ≤ v
  · rw [if_pos q1]
    by_cases q2 : v ≤ hi
    · rw [if_pos q2]
      have a1 := Int32.le_iff_toInt_le.mp q1
      have a2 := Int32.le_iff_toInt_le.mp q2
      omega
    · rw [if_neg q2]; omega
  · rw [if_neg q1]; omega
theorem x_pl_OK {S : x_S} (h : x_VS S) (h0 : S.2.2.2.2.1 = 0) : g_OK (x_pl S) := by
  obtain ⟨h1, h2, h3, h4⟩ := h
  obtain ⟨w1, w2, w3, w4, w5⟩ := h4 h0
  have bd : ∀ a b f, (a ≠ 1 → -999 ≤ (x_plw S.2.2.2.1 a b f).toInt ∧ (x_plw S.2.2.2.1 a b f).toInt ≤ 999) ∧ (a = 1 → 0 ≤ (x_plw S.2.2.2.1 a b f).toInt ∧ (x_plw S.2.2.2.1 a b f).toInt ≤ 99) := fun a b f => by
    unfold x_plw
    cases S.2.2.2.1 (6 * a + b) with
    | none =>
      show (a ≠ 1 → -999 ≤ (if a = 2 then (0 : Int32) else 1).toInt ∧ (if a = 2 then (0 : Int32) else 1).toInt ≤ 999) ∧ (a = 1 → 0 ≤ (if a = 2 then (0 : Int32) else 1).toInt ∧ (if a = 2 then (0 : Int32) else 1).toInt ≤ 99)
      by_cases q : a = 2
      · rw [if_pos q]; exact ⟨fun _ => by decide, fun _ => by decide⟩
      · rw [if_neg q]; exact ⟨fun _ => by decide, fun _ => by decide⟩
    | some L =>
      refine ⟨fun q => ?_, fun q => ?_⟩
      · rw [show (match (some L : Option x_Law) with | none => (if a = 2 then (0 : Int32) else 1) | some L => if a = 1 then x_cl3 0 99 (x_lwv f L.1 L.2) else x_cl3 (-999) 999 (x_lwv f L.1 L.2)) = x_cl3 (-999) 999 (x_lwv f L.1 L.2) from if_neg q]
        exact x_cl3_bd (by decide) (by decide) (by decide)
      · rw [show (match (some L : Option x_Law) with | none => (if a = 2 then (0 : Int32) else 1) | some L => if a = 1 then x_cl3 0 99 (x_lwv f L.1 L.2) else x_cl3 (-999) 999 (x_lwv f L.1 L.2)) = x_cl3 0 99 (x_lwv f L.1 L.2) from if_pos q]
        exact x_cl3_bd (by decide) (by decide) (by decide)
  refine ⟨h1, w2, w3, w4, fun a b f g e => ?_, fun b f => (bd 0 b f).1 (by decide), fun b f => (bd 1 b f).2 rfl, fun b f => (bd 2 b f).1 (by decide), fun b hb => ?_, fun b hb => ?_, h2, fun i hi => ?_⟩
  · show x_plw S.2.2.2.1 a b f = x_plw S.2.2.2.1 a b g
    unfold x_plw
    cases S.2.2.2.1 (6 * a + b) with
    | none => rfl
    | some L =>
      show (if a = 1 then x_cl3 0 99 (x_lwv f L.1 L.2) else x_cl3 (-999) 999 (x_lwv f L.1 L.2)) = (if a = 1 then x_cl3 0 99 (x_lwv g L.1 L.2) else x_cl3 (-999) 999 (x_lwv g L.1 L.2))
      rw [x_lwv_cg e]
  · have hb' : b < S.1.length := hb
    show 0 ≤ ((S.1[b]?.map (fun q : x_Bd => q.2.1)).getD 0).toInt ∧ ((S.1[b]?.map (fun q : x_Bd => q.2.1)).getD 0).toInt ≤ 9
    rw [List.getElem?_eq_getElem hb']
    exact (w1 _ (List.getElem_mem hb')).1
  · have hb' : b < S.1.length := hb
    show 0 ≤ ((S.1[b]?.map (fun q : x_Bd => q.2.2)).getD 0).toInt ∧ ((S.1[b]?.map (fun q : x_Bd => q.2.2)).getD 0).toInt ≤ 999
    rw [List.getElem?_eq_getElem hb']
    exact (w1 _ (List.getElem_mem hb')).2
  · have hi' : i < S.2.2.1.length := hi
    show 0 ≤ ((S.2.2.1[i]?).getD 0).toInt ∧ ((S.2.2.1[i]?).getD 0).toInt ≤ 60
    rw [List.getElem?_eq_getElem hi']
    exact w5 _ (List.getElem_mem hi')

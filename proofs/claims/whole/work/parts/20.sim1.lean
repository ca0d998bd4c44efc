/-! THE ABSTRACT MACHINE IS THE MACHINE -/
def am_val (ad : Nat → Nat) : Value → Value
  | .ref a => .ref (ad a)
  | v => v
theorem am_val_cat (ad : Nat → Nat) (v : Value) : (am_val ad v).category = v.category := by cases v <;> rfl
theorem am_cat_map (ad : Nat → Nat) (S : List Value) : am_cat (S.map (am_val ad)) = am_cat S := by
  unfold am_cat
  rw [List.map_map]
  congr 1
  refine List.map_congr_left (fun v _ => am_val_cat ad v)
def am_fl (ad : Nat → Nat) (I : am_I) (c : Nat) : Nat → List (Option Value) → List Value
  | _, [] => []
  | k, none :: t => .int (I c k) :: am_fl ad I c (k + 1) t
  | k, some v :: t => am_val ad v :: am_fl ad I c (k + 1) t
theorem am_fl_len (ad : Nat → Nat) (I : am_I) (c : Nat) : ∀ (fl : List (Option Value)) (k : Nat), (am_fl ad I c k fl).length = fl.length := by
  intro fl
  induction fl with
  | nil => intro k; rfl
  | cons x t ih => intro k; cases x <;> simp [am_fl, ih]
theorem am_fl_none (ad : Nat → Nat) (I : am_I) (c : Nat) : ∀ (fl : List (Option Value)) (k j : Nat), fl[j]? = some none → (am_fl ad I c k fl)[j]? = some (.int (I c (k + j))) := by
  intro fl
  induction fl with
  | nil => intro k j h; cases h
  | cons x t ih =>
    intro k j h
    cases j with
    | zero => cases x <;> simp_all [am_fl]
    | succ j =>
      have h2 : t[j]? = some none := h
      have h3 := ih (k + 1) j h2
      cases x <;> simp only [am_fl, List.getElem?_cons_succ, h3] <;> congr 3 <;> omega
theorem am_fl_some (ad : Nat → Nat) (I : am_I) (c : Nat) : ∀ (fl : List (Option Value)) (k j : Nat) (v : Value), fl[j]? = some (some v) → (am_fl ad I c k fl)[j]? = some (am_val ad v) := by
  intro fl
  induction fl with
  | nil => intro k j v h; cases h
  | cons x t ih =>
    intro k j v h
    cases j with
    | zero => cases x <;> simp_all [am_fl]
    | succ j =>
      have h2 : t[j]? = some (some v) := h
      have h3 := ih (k + 1) j v h2
      cases x <;> simp only [am_fl, List.getElem?_cons_succ, h3]
theorem am_fl_congr (ad : Nat → Nat) (I I' : am_I) (c : Nat) (h : ∀ k, I' c k = I c k) : ∀ (fl : List (Option Value)) (k : Nat), am_fl ad I' c k fl = am_fl ad I c k fl := by
  intro fl
  induction fl with
  | nil => intro k; rfl
  | cons x t ih => intro k; cases x <;> simp [am_fl, ih, h]
/-- an int field written -/
theorem am_fl_upd (ad : Nat → Nat) (I : am_I) (c j : Nat) (x : Int32) : ∀ (fl : List (Option Value)) (k : Nat), (∀ i, fl[i]? = some none → k + i = j → fl[j - k]? = some none) → (fl[j - k]? = some none) → k ≤ j → am_fl ad (am_upd I c j x) c k fl = (am_fl ad I c k fl).set (j - k) (.int x) := by
  intro fl k _ hn hk
  refine List.ext_getElem? (fun i => ?_)
  rw [List.getElem?_set, am_fl_len]
  have hlt : j - k < fl.length := (List.getElem?_eq_some_iff.mp hn).1
  by_cases hi : j - k = i
  · subst hi
    rw [if_pos rfl, if_pos hlt, am_fl_none _ _ _ _ _ _ hn]
    have : k + (j - k) = j := by omega
    rw [this]
    simp [am_upd]
  · rw [if_neg hi]
    cases hf : fl[i]? with
    | none =>
      have h1 : fl.length ≤ i := by simpa using hf
      have h2 : ∀ (I : am_I), (am_fl ad I c k fl)[i]? = none := fun I => by simp [am_fl_len]; omega
      rw [h2, h2]
    | some o =>
      cases o with
      | none =>
        rw [am_fl_none _ _ _ _ _ _ hf, am_fl_none _ _ _ _ _ _ hf]
        have hne : ¬ k + i = j := by omega
        simp [am_upd, hne]
      | some v => rw [am_fl_some _ _ _ _ _ _ _ hf, am_fl_some _ _ _ _ _ _ _ hf]
/-- a reference written -/
theorem am_fl_set (ad : Nat → Nat) (I : am_I) (c j : Nat) (v : Value) : ∀ (fl : List (Option Value)) (k : Nat), (∃ w, fl[j]? = some (some w)) → am_fl ad I c k (fl.set j (some v)) = (am_fl ad I c k fl).set j (am_val ad v) := by
  intro fl k ⟨w, hw⟩
  refine List.ext_getElem? (fun i => ?_)
  rw [List.getElem?_set, am_fl_len]
  have hlt : j < fl.length := (List.getElem?_eq_some_iff.mp hw).1
  by_cases hi : j = i
  · subst hi
    rw [if_pos rfl, if_pos hlt]
    exact am_fl_some _ _ _ _ _ _ _ (by simp [hlt])
  · rw [if_neg hi]
    have hs : (fl.set j (some v))[i]? = fl[i]? := by rw [List.getElem?_set, if_neg hi]
    cases hf : fl[i]? with
    | none =>
      have h1 : fl.length ≤ i := by simpa using hf
      have h2 : (am_fl ad I c k fl)[i]? = none := by simp [am_fl_len]; omega
      have h3 : (am_fl ad I c k (fl.set j (some v)))[i]? = none := by simp [am_fl_len]; omega
      rw [h2, h3]
    | some o =>
      rw [hf] at hs
      cases o with
      | none => rw [am_fl_none _ _ _ _ _ _ hf, am_fl_none _ _ _ _ _ _ hs]
      | some v => rw [am_fl_some _ _ _ _ _ _ _ hf, am_fl_some _ _ _ _ _ _ _ hs]
def am_cl (ad : Nat → Nat) (cid : Nat → ClassId) (I : am_I) (J : am_J) (c : Nat) : am_Shp → va_E
  | .inl (t, n) => .inl (cid t, n, match Nat.beq t 3 with
    | true => .inr (.inl (J c))
    | false => .inl (I c))
  | .inr (ci, fl) => .inr (ci, am_fl ad I c 0 fl)
theorem am_cl_congr {ad : Nat → Nat} {cid : Nat → ClassId} {I I' : am_I} {J J' : am_J} {c : Nat} (s : am_Shp) (h : I' c = I c) (hJ : J' c = J c) : am_cl ad cid I' J' c s = am_cl ad cid I J c s := by
  cases s with
  | inl q => obtain ⟨t, n⟩ := q; simp only [am_cl, h, hJ]
  | inr q => obtain ⟨ci, fl⟩ := q; simp only [am_cl]; rw [am_fl_congr ad I I' c (fun k => by rw [h])]
def am_s0 : am_Shp := .inl (0, 0)
def am_ws (ad : Nat → Nat) (cid : Nat → ClassId) (μ : am_Mem) : va_W := (List.range (μ.1.length - 5)).map fun j => (ad (j + 5), am_cl ad cid μ.2.1 μ.2.2 (j + 5) (μ.1.getD (j + 5) am_s0))
theorem am_ws_len (ad : Nat → Nat) (cid : Nat → ClassId) (μ : am_Mem) : (am_ws ad cid μ).length = μ.1.length - 5 := by simp [am_ws]
theorem am_ws_at (ad : Nat → Nat) (cid : Nat → ClassId) (μ : am_Mem) (j : Nat) : (am_ws ad cid μ)[j]? = if j < μ.1.length - 5 then some (ad (j + 5), am_cl ad cid μ.2.1 μ.2.2 (j + 5) (μ.1.getD (j + 5) am_s0)) else none := by
  unfold am_ws
  rw [List.getElem?_map]
  by_cases h : j < μ.1.length - 5
  · rw [if_pos h, List.getElem?_range h]
    rfl
  · rw [if_neg h, List.getElem?_eq_none (by simpa using h)]
    rfl
theorem am_ws_get {ad : Nat → Nat} {cid : Nat → ClassId} {μ : am_Mem} {a : Nat} {s : am_Shp} (h : μ.1[a]? = some s) (h5 : 5 ≤ a) : (am_ws ad cid μ)[a - 5]? = some (ad a, am_cl ad cid μ.2.1 μ.2.2 a s) := by
  have hlt : a < μ.1.length := (List.getElem?_eq_some_iff.mp h).1
  rw [am_ws_at, if_pos (by omega)]
  have e : a - 5 + 5 = a := by omega
  rw [e, List.getD_eq_getElem?_getD, h]
  rfl
theorem am_ws_set {ad : Nat → Nat} {cid : Nat → ClassId} {μ μ' : am_Mem} {a : Nat} {s' : am_Shp} (h5 : 5 ≤ a) (hlt : a < μ.1.length) (hl : μ'.1.length = μ.1.length) (hs : μ'.1[a]? = some s') (ho : ∀ c, c ≠ a → μ'.1[c]? = μ.1[c]? ∧ μ'.2.1 c = μ.2.1 c ∧ μ'.2.2 c = μ.2.2 c) :
    (am_ws ad cid μ).set (a - 5) (ad a, am_cl ad cid μ'.2.1 μ'.2.2 a s') = am_ws ad cid μ' := by
  refine List.ext_getElem? (fun j => ?_)
  rw [List.getElem?_set, am_ws_len]
  by_cases hj : a - 5 = j
  · subst hj
    rw [if_pos rfl, if_pos (by omega), am_ws_get hs h5]
  · rw [if_neg hj, am_ws_at, am_ws_at, hl]
    obtain ⟨h1, h2, h3⟩ := ho (j + 5) (by omega)
    by_cases hb : j < μ.1.length - 5
    · rw [if_pos hb, if_pos hb, List.getD_eq_getElem?_getD, List.getD_eq_getElem?_getD, h1, am_cl_congr _ h2 h3]
    · rw [if_neg hb, if_neg hb]
theorem am_ws_push {ad : Nat → Nat} {cid : Nat → ClassId} {μ μ' : am_Mem} {s : am_Shp} (h5 : 5 ≤ μ.1.length) (hs : μ'.1 = μ.1 ++ [s]) (ho : ∀ c, c ≠ μ.1.length → μ'.2.1 c = μ.2.1 c ∧ μ'.2.2 c = μ.2.2 c) :
    am_ws ad cid μ' = am_ws ad cid μ ++ [(ad μ.1.length, am_cl ad cid μ'.2.1 μ'.2.2 μ.1.length s)] := by
  have hl : μ'.1.length = μ.1.length + 1 := by rw [hs]; simp
  refine List.ext_getElem? (fun j => ?_)
  by_cases hj : j < μ.1.length - 5
  · rw [List.getElem?_append_left (by rw [am_ws_len]; exact hj), am_ws_at, am_ws_at, if_pos hj, if_pos (by omega)]
    obtain ⟨h2, h3⟩ := ho (j + 5) (by omega)
    have e : μ'.1[j + 5]? = μ.1[j + 5]? := by rw [hs, List.getElem?_append_left (by omega)]
    rw [List.getD_eq_getElem?_getD, List.getD_eq_getElem?_getD, e, am_cl_congr _ h2 h3]
  · by_cases hz : j = μ.1.length - 5
    · subst hz
      have hg : μ'.1[μ.1.length]? = some s := by rw [hs]; simp
      have := am_ws_get (ad := ad) (cid := cid) hg h5
      rw [this, List.getElem?_append_right (by rw [am_ws_len]; omega), am_ws_len]
      simp
    · rw [am_ws_at, if_neg (by omega), List.getElem?_append_right (by rw [am_ws_len]; omega), am_ws_len]
      rw [List.getElem?_eq_none (by simp; omega)]
def am_ad (o : Nat → Nat) (base : Nat) : Nat → Nat := fun c => if c < 5 then o c else base + (c - 5)
theorem am_ad_new {o : Nat → Nat} {base a : Nat} (h : 5 ≤ a) : am_ad o base a = base + (a - 5) := by unfold am_ad; rw [if_neg (by omega)]
theorem am_ad_old {o : Nat → Nat} {base a : Nat} (h : a < 5) : am_ad o base a = o a := by unfold am_ad; rw [if_pos h]
theorem am_ws_D (o : Nat → Nat) (base : Nat) (cid : Nat → ClassId) (μ : am_Mem) : va_D (fun q => base ≤ q) (am_ws (am_ad o base) cid μ) := by
  refine ⟨fun i j p q hi hj h => ?_, fun k q hk => ?_⟩
  · rw [am_ws_at] at hi hj
    split at hi
    · split at hj
      · cases hi
        cases hj
        simp only [am_ad_new (show 5 ≤ i + 5 by omega), am_ad_new (show 5 ≤ j + 5 by omega)] at h
        omega
      · cases hj
    · cases hi
  · rw [am_ws_at] at hk
    split at hk
    · cases hk
      simp only [am_ad_new (show 5 ≤ k + 5 by omega)]
      omega
    · cases hk
def am_olds : List am_Shp := [.inl (12, 3072), .inl (10, 3), .inl (10, 3), .inl (10, 3), .inl (11, 136)]
def am_wf (Sh : List am_Shp) : Prop := ∃ T : List am_Shp, Sh = am_olds ++ T ∧ ∀ s ∈ T, ∀ t n, s = .inl (t, n) → t ≤ 3
theorem am_wf.len {Sh : List am_Shp} (h : am_wf Sh) : 5 ≤ Sh.length := by
  obtain ⟨T, rfl, -⟩ := h
  simp [am_olds]
theorem am_wf.arr {Sh : List am_Shp} (h : am_wf Sh) {a t n : Nat} (ha : Sh[a]? = some (.inl (t, n))) : (5 ≤ a ∧ t ≤ 3) ∨ (a = 0 ∧ t = 12) ∨ (1 ≤ a ∧ a ≤ 3 ∧ t = 10 ∧ n = 3) ∨ (a = 4 ∧ t = 11) := by
  obtain ⟨T, rfl, hT⟩ := h
  by_cases h5 : 5 ≤ a
  · rw [List.getElem?_append_right (by simpa [am_olds] using h5)] at ha
    exact Or.inl ⟨h5, hT _ (List.mem_of_getElem? ha) t n rfl⟩
  · rw [List.getElem?_append_left (by simp [am_olds]; omega)] at ha
    right
    rcases (show a = 0 ∨ a = 1 ∨ a = 2 ∨ a = 3 ∨ a = 4 by omega) with rfl | rfl | rfl | rfl | rfl <;> simp [am_olds] at ha <;> omega
theorem am_wf.obj {Sh : List am_Shp} (h : am_wf Sh) {a ci : Nat} {fl : List (Option Value)} (ha : Sh[a]? = some (.inr (ci, fl))) : 5 ≤ a := by
  obtain ⟨T, rfl, hT⟩ := h
  by_cases h5 : 5 ≤ a
  · exact h5
  · rw [List.getElem?_append_left (by simp [am_olds]; omega)] at ha
    rcases (show a = 0 ∨ a = 1 ∨ a = 2 ∨ a = 3 ∨ a = 4 by omega) with rfl | rfl | rfl | rfl | rfl <;> simp [am_olds] at ha
theorem am_wf.set {Sh : List am_Shp} (h : am_wf Sh) {a ci : Nat} (h5 : 5 ≤ a) (fl : List (Option Value)) : am_wf (Sh.set a (.inr (ci, fl))) := by
  obtain ⟨T, rfl, hT⟩ := h
  refine ⟨T.set (a - 5) (.inr (ci, fl)), ?_, fun s hs t n e => ?_⟩
  · rw [List.set_append, if_neg (by simp [am_olds]; omega)]
    simp [am_olds]
  · rcases List.mem_or_eq_of_mem_set hs with h | h
    · exact hT s h t n e
    · rw [h] at e
      cases e
theorem am_wf.push {Sh : List am_Shp} (h : am_wf Sh) {s : am_Shp} (hs : ∀ t n, s = .inl (t, n) → t ≤ 3) : am_wf (Sh ++ [s]) := by
  obtain ⟨T, rfl, hT⟩ := h
  refine ⟨T ++ [s], by simp, fun s' hs' t n e => ?_⟩
  rcases List.mem_append.mp hs' with h | h
  · exact hT s' h t n e
  · rw [List.mem_singleton.mp h] at e
    exact hs t n e
def am_ssz : am_Shp → Nat
  | .inl (_, n) => n
  | .inr (_, fl) => fl.length
def am_sz (Sh : List am_Shp) : Nat := (Sh.map am_ssz).sum
theorem am_sz_push (Sh : List am_Shp) (s : am_Shp) : am_sz (Sh ++ [s]) = am_sz Sh + am_ssz s := by simp [am_sz]
theorem am_sz_set {Sh : List am_Shp} {a : Nat} {s s' : am_Shp} (h : Sh[a]? = some s) (hs : am_ssz s' = am_ssz s) : am_sz (Sh.set a s') = am_sz Sh := by
  have : (Sh.set a s').map am_ssz = Sh.map am_ssz := by
    refine List.ext_getElem? (fun j => ?_)
    rw [List.getElem?_map, List.getElem?_map, List.getElem?_set]
    by_cases hj : a = j
    · subst hj
      rw [if_pos rfl, if_pos (List.getElem?_eq_some_iff.mp h).1, h]
      simp [hs]
    · rw [if_neg hj]
  unfold am_sz
  rw [this]
/-- locals -/
def am_LR (ad : Nat → Nat) (nL : Nat) (ls : Array Slot) (L : am_Loc) : Prop := L.length = nL ∧ ls.size = nL ∧ lv_wf ls ∧ ∀ (i : Nat) (v : Value), L[i]? = some (some v) → ls[i]? = some (.val (am_val ad v))
def am_prs (ad : Nat → Nat) (L : am_Loc) : List (Nat × Value) := (List.range L.length).filterMap fun i => match L[i]? with
  | some (some v) => some (i, am_val ad v)
  | _ => none
theorem am_prs_mem {ad : Nat → Nat} {L : am_Loc} {q : Nat × Value} : q ∈ am_prs ad L ↔ ∃ v, L[q.1]? = some (some v) ∧ q.2 = am_val ad v := by
  unfold am_prs
  rw [List.mem_filterMap]
  constructor
  · rintro ⟨i, -, h⟩
    split at h
    · rename_i v hv
      cases h
      exact ⟨v, hv, rfl⟩
    · cases h
  · rintro ⟨v, hv, e⟩
    refine ⟨q.1, List.mem_range.mpr (List.getElem?_eq_some_iff.mp hv).1, ?_⟩
    rw [hv]
    simp only [← e]
theorem am_LR.has {ad : Nat → Nat} {nL : Nat} {ls : Array Slot} {L : am_Loc} (h : am_LR ad nL ls L) : lv_has ls nL (am_prs ad L) := by
  refine ⟨h.2.1, h.2.2.1, fun q hq => ?_⟩
  obtain ⟨v, hv, e⟩ := am_prs_mem.mp hq
  rw [e]
  exact h.2.2.2 _ _ hv
theorem am_LR.of1 {ad : Nat → Nat} {nL : Nat} {ls ls' : Array Slot} {L : am_Loc} {i : Nat} {v : Value} (h : am_LR ad nL ls L) (h' : lv_has ls' nL ((i, am_val ad v) :: (am_prs ad L).filter (fun q => !(q.1 == i) && !(q.1 + 1 == i && q.2.category == 2)))) : am_LR ad nL ls' (am_st L i v) := by
  refine ⟨by unfold am_st; rw [List.length_set]; split <;> simp [h.1], h'.1, h'.2.1, fun j w hw => ?_⟩
  unfold am_st at hw
  rw [List.getElem?_set] at hw
  by_cases hij : i = j
  · subst hij
    rw [if_pos rfl] at hw
    by_cases hb : i < (if am_pv L i = true then L.set (i - 1) none else L).length
    · rw [if_pos hb] at hw
      cases hw
      exact h'.2.2 _ List.mem_cons_self
    · rw [if_neg hb] at hw
      cases hw
  · rw [if_neg hij] at hw
    have hL : L[j]? = some (some w) ∧ ¬ (j + 1 = i ∧ w.category = 2) := by
      cases hp : am_pv L i
      · rw [hp] at hw
        simp only [Bool.false_eq_true, if_false] at hw
        refine ⟨hw, fun ⟨q1, q2⟩ => ?_⟩
        subst q1
        simp only [am_pv, hw] at hp
        rw [q2] at hp
        cases hp
      · rw [hp] at hw
        simp only [if_true] at hw
        rw [List.getElem?_set] at hw
        by_cases hq : i - 1 = j
        · rw [if_pos hq] at hw
          split at hw <;> cases hw
        · rw [if_neg hq] at hw
          exact ⟨hw, fun ⟨q1, _⟩ => hq (by omega)⟩
    refine h'.2.2 (j, am_val ad w) (List.mem_cons_of_mem _ (List.mem_filter.mpr ⟨am_prs_mem.mpr ⟨w, hL.1, rfl⟩, ?_⟩))
    have h2 := hL.2
    have n1 : ¬ j = i := fun e => hij e.symm
    simp only [am_val_cat]
    simp only [Bool.and_eq_true, Bool.not_eq_true', beq_eq_false_iff_ne, ne_eq, Bool.and_eq_false_imp, beq_iff_eq]
    exact ⟨n1, fun e => by simpa using fun q => h2 ⟨e, q⟩⟩
theorem am_LR.of2 {ad : Nat → Nat} {nL : Nat} {ls ls' : Array Slot} {L : am_Loc} {i : Nat} {v : Value} (h : am_LR ad nL ls L) (h' : lv_has ls' nL ((i, am_val ad v) :: (am_prs ad L).filter (fun q => !(q.1 == i) && (!(q.1 == i + 1) && !(q.1 + 1 == i && q.2.category == 2))))) : am_LR ad nL ls' ((am_st L i v).set (i + 1) none) := by
  refine ⟨by unfold am_st; rw [List.length_set, List.length_set]; split <;> simp [h.1], h'.1, h'.2.1, fun j w hw => ?_⟩
  rw [List.getElem?_set] at hw
  by_cases hi1 : i + 1 = j
  · rw [if_pos hi1] at hw
    split at hw <;> cases hw
  rw [if_neg hi1] at hw
  unfold am_st at hw
  rw [List.getElem?_set] at hw
  by_cases hij : i = j
  · subst hij
    rw [if_pos rfl] at hw
    by_cases hb : i < (if am_pv L i = true then L.set (i - 1) none else L).length
    · rw [if_pos hb] at hw
      cases hw
      exact h'.2.2 _ List.mem_cons_self
    · rw [if_neg hb] at hw
      cases hw
  · rw [if_neg hij] at hw
    have hL : L[j]? = some (some w) ∧ ¬ (j + 1 = i ∧ w.category = 2) := by
      cases hp : am_pv L i
      · rw [hp] at hw
        simp only [Bool.false_eq_true, if_false] at hw
        refine ⟨hw, fun ⟨q1, q2⟩ => ?_⟩
        subst q1
        simp only [am_pv, hw] at hp
        rw [q2] at hp
        cases hp
      · rw [hp] at hw
        simp only [if_true] at hw
        rw [List.getElem?_set] at hw
        by_cases hq : i - 1 = j
        · rw [if_pos hq] at hw
          split at hw <;> cases hw
        · rw [if_neg hq] at hw
          exact ⟨hw, fun ⟨q1, _⟩ => hq (by omega)⟩
    refine h'.2.2 (j, am_val ad w) (List.mem_cons_of_mem _ (List.mem_filter.mpr ⟨am_prs_mem.mpr ⟨w, hL.1, rfl⟩, ?_⟩))
    have h2 := hL.2
    have n1 : ¬ j = i := fun e => hij e.symm
    have n2 : ¬ j = i + 1 := fun e => hi1 e.symm
    simp only [am_val_cat]
    simp only [Bool.and_eq_true, Bool.not_eq_true', beq_eq_false_iff_ne, ne_eq, Bool.and_eq_false_imp, beq_iff_eq]
    exact ⟨n1, n2, fun e => by simpa using fun q => h2 ⟨e, q⟩⟩
theorem am_args_at (ad : Nat → Nat) : ∀ (a : List Value) (k i : Nat) (v : Value), (am_args a)[i]? = some (some v) → (k + i, am_val ad v) ∈ lv_args k (a.map (am_val ad)) := by
  intro a
  induction a with
  | nil => intro k i v h; simp [am_args] at h
  | cons w t ih =>
    intro k i v h
    simp only [am_args] at h
    simp only [List.map_cons, lv_args, am_val_cat]
    split at h
    · rename_i hc
      have hc : w.category = 2 := Nat.eq_of_beq_eq_true hc
      rw [if_pos hc]
      rcases i with _ | _ | i
      · cases h
        exact List.mem_cons_self
      · simp at h
      · simp only [List.getElem?_cons_succ] at h
        have h2 := ih (k + 2) i v h
        have e : k + 2 + i = k + (i + 1 + 1) := by omega
        rw [e] at h2
        exact List.mem_cons_of_mem _ h2
    · rename_i hc
      have hc : ¬ w.category = 2 := Nat.ne_of_beq_eq_false hc
      rw [if_neg hc]
      rcases i with _ | i
      · cases h
        exact List.mem_cons_self
      · simp only [List.getElem?_cons_succ] at h
        have h2 := ih (k + 1) i v h
        have e : k + 1 + i = k + (i + 1) := by omega
        rw [e] at h2
        exact List.mem_cons_of_mem _ h2
theorem am_args_len (ad : Nat → Nat) : ∀ (a : List Value), (am_args a).length = (lg_sl (a.map (am_val ad))).length := by
  intro a
  induction a with
  | nil => rfl
  | cons w t ih =>
    simp only [am_args, List.map_cons, lg_sl, List.flatMap_cons, am_val_cat, List.length_append] at ih ⊢
    split
    · rename_i hc
      have hc : w.category = 2 := Nat.eq_of_beq_eq_true hc
      rw [if_pos hc]
      simp only [List.length_cons, List.length_nil, ih]
      omega
    · rename_i hc
      have hc : ¬ w.category = 2 := Nat.ne_of_beq_eq_false hc
      rw [if_neg hc]
      simp only [List.length_cons, List.length_nil, ih]
      omega
theorem am_LR.entry (ad : Nat → Nat) {nL : Nat} (a : List Value) (h : (am_args a).length ≤ nL) : am_LR ad nL ((lg_sl (a.map (am_val ad)) ++ List.replicate (nL - (lg_sl (a.map (am_val ad))).length) Slot.unset).toArray) (am_entry nL a) := by
  have hh := lv_entry (a.map (am_val ad)) (n := nL) (by rw [← am_args_len ad]; exact h)
  refine ⟨by simp [am_entry]; omega, hh.1, hh.2.1, fun i v hv => ?_⟩
  refine hh.2.2 (i, am_val ad v) ?_
  unfold am_entry at hv
  by_cases hi : i < (am_args a).length
  · rw [List.getElem?_append_left hi] at hv
    have h2 := am_args_at ad a 0 i v hv
    simpa using h2
  · rw [List.getElem?_append_right (by omega), List.getElem?_replicate] at hv
    split at hv <;> cases hv

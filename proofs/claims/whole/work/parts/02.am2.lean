/-! what the abstract machine's steps share -/
def am_leL (L L' : am_Loc) : Prop := L.length = L'.length ∧ ∀ (i : Nat) (v : Value), L[i]? = some (some v) → L'[i]? = some (some v)
theorem am_leL.rf (L : am_Loc) : am_leL L L := ⟨rfl, fun _ _ h => h⟩
theorem am_leL.tr {L L' L'' : am_Loc} (h : am_leL L L') (h' : am_leL L' L'') : am_leL L L'' := ⟨h.1.trans h'.1, fun i v q => h'.2 i v (h.2 i v q)⟩
theorem am_leL.setN {L L' : am_Loc} (h : am_leL L L') (i : Nat) : am_leL (L.set i none) (L'.set i none) := by
  refine ⟨by simp [h.1], fun j v q => ?_⟩
  rw [List.getElem?_set] at q ⊢
  by_cases hij : i = j
  · rw [if_pos hij] at q
    split at q <;> cases q
  · rw [if_neg hij] at q ⊢
    exact h.2 j v q
theorem am_leL.setN' {L L' : am_Loc} (h : am_leL L L') (i : Nat) (hn : ∀ v, L[i]? ≠ some (some v)) : am_leL L (L'.set i none) := by
  refine ⟨by simp [h.1], fun j v q => ?_⟩
  rw [List.getElem?_set]
  by_cases hij : i = j
  · subst hij
    exact absurd q (hn v)
  · rw [if_neg hij]
    exact h.2 j v q
theorem am_leL.setN2 {L L' : am_Loc} (h : am_leL L L') (i : Nat) : am_leL (L.set i none) L' := by
  refine ⟨by simp [h.1], fun j v q => ?_⟩
  rw [List.getElem?_set] at q
  by_cases hij : i = j
  · rw [if_pos hij] at q
    split at q <;> cases q
  · rw [if_neg hij] at q
    exact h.2 j v q
theorem am_leL.setV {L L' : am_Loc} (h : am_leL L L') (i : Nat) (w : Value) : am_leL (L.set i (some w)) (L'.set i (some w)) := by
  refine ⟨by simp [h.1], fun j v q => ?_⟩
  rw [List.getElem?_set] at q ⊢
  by_cases hij : i = j
  · rw [if_pos hij] at q ⊢
    rw [← h.1]
    exact q
  · rw [if_neg hij] at q ⊢
    exact h.2 j v q
theorem am_leL.st {L L' : am_Loc} (h : am_leL L L') (i : Nat) (w : Value) : am_leL (am_st L i w) (am_st L' i w) := by
  unfold am_st
  refine am_leL.setV ?_ i w
  cases hp : am_pv L i <;> cases hq : am_pv L' i
  · simpa using h
  · simp only [Bool.false_eq_true, if_false, if_true]
    refine h.setN' _ (fun v hv => ?_)
    cases i with
    | zero => simp [am_pv] at hq
    | succ j =>
      have hv : L[j]? = some (some v) := hv
      have h2 := h.2 j v hv
      simp only [am_pv] at hp hq
      rw [hv] at hp
      rw [h2] at hq
      rw [hq] at hp
      cases hp
  · simp only [Bool.false_eq_true, if_false, if_true]
    exact h.setN2 _
  · simp only [if_true]
    exact h.setN _
/-- related locals, equal ones where they come of equal ones -/
def am_lk (L L' L1 L1' : am_Loc) : Prop := am_leL L1 L1' ∧ (L = L' → L1 = L1')
theorem am_lk.st {L L' L1 L1' : am_Loc} (h : am_lk L L' L1 L1') (i : Nat) (w : Value) : am_lk L L' (am_st L1 i w) (am_st L1' i w) := ⟨h.1.st i w, fun e => by rw [h.2 e]⟩
theorem am_lk.setN {L L' L1 L1' : am_Loc} (h : am_lk L L' L1 L1') (i : Nat) : am_lk L L' (L1.set i none) (L1'.set i none) := ⟨h.1.setN i, fun e => by rw [h.2 e]⟩
section AMR
variable {α β : Type} (Rel : α → β → Prop)
theorem am_popi_rel {S : List Value} {k : Int32 → List Value → α} {k' : Int32 → List Value → β} {st : α} {st' : β} (hs : ∀ b, Rel st b) (hk : ∀ x r, Rel (k x r) (k' x r)) : Rel (am_popi S k st) (am_popi S k' st') := by
  unfold am_popi
  split
  · exact hk _ _
  · exact hs _
theorem am_popii_rel {S : List Value} {k : Int32 → Int32 → List Value → α} {k' : Int32 → Int32 → List Value → β} {st : α} {st' : β} (hs : ∀ b, Rel st b) (hk : ∀ x y r, Rel (k x y r) (k' x y r)) : Rel (am_popii S k st) (am_popii S k' st') := by
  unfold am_popii
  split
  · exact hk _ _ _
  · exact hs _
theorem am_popll_rel {S : List Value} {k : Int64 → Int64 → List Value → α} {k' : Int64 → Int64 → List Value → β} {st : α} {st' : β} (hs : ∀ b, Rel st b) (hk : ∀ x y r, Rel (k x y r) (k' x y r)) : Rel (am_popll S k st) (am_popll S k' st') := by
  unfold am_popll
  split
  · exact hk _ _ _
  · exact hs _
theorem am_ld_rel {L L' : am_Loc} (hL : am_leL L L') {i : Nat} {k : Value → α} {k' : Value → β} {st : α} {st' : β} (hs : ∀ b, Rel st b) (hk : ∀ x, Rel (k x) (k' x)) : Rel (am_ld L i k st) (am_ld L' i k' st') := by
  unfold am_ld
  split
  · rename_i v h
    rw [hL.2 _ _ h]
    exact hk _
  · exact hs _
theorem am_sw_rel {x : Int32} {ts : List Nat} {k : Nat → α} {k' : Nat → β} {st : α} {st' : β} (hs : Rel st st') (hk : ∀ x, Rel (k x) (k' x)) : ∀ lo : Int, Rel (am_sw x lo ts k st) (am_sw x lo ts k' st') := by
  induction ts with
  | nil => intro lo; exact hs
  | cons t ts ih =>
    intro lo
    unfold am_sw
    split
    · exact hk _
    · exact ih _
theorem am_arr_rel {Sh : List am_Shp} {a : Nat} {k : Nat → Nat → α} {k' : Nat → Nat → β} {st : α} {st' : β} (hs : ∀ b, Rel st b) (hk : ∀ t n, Rel (k t n) (k' t n)) : Rel (am_arr Sh a k st) (am_arr Sh a k' st') := by
  unfold am_arr
  split
  · exact hk _ _
  · exact hs _
theorem am_obj_rel {Sh : List am_Shp} {a ci : Nat} {k : List (Option Value) → α} {k' : List (Option Value) → β} {st : α} {st' : β} (hs : ∀ b, Rel st b) (hk : ∀ t, Rel (k t) (k' t)) : Rel (am_obj Sh a ci k st) (am_obj Sh a ci k' st') := by
  unfold am_obj
  split
  · split
    · exact hk _
    · exact hs _
  · exact hs _
theorem am_at_rel {i : Int32} {n : Nat} {k : Nat → α} {k' : Nat → β} {st : α} {st' : β} (hs : ∀ b, Rel st b) (hk : ∀ t, Rel (k t) (k' t)) : Rel (am_atC i n k st) (am_atC i n k' st') := by
  unfold am_atC
  split
  · exact hs _
  · exact hk _
theorem am_ald_rel {Sh : List am_Shp} {I : am_I} {ty : Nat → Bool} {S : List Value} {k : Nat → Nat → List Value → α} {k' : Nat → Nat → List Value → β} {st : α} {st' : β} (hs : ∀ b, Rel st b) (hk : ∀ a j r, Rel (k a j r) (k' a j r)) : Rel (am_ald am_atC Sh I ty S k st) (am_ald am_atC Sh I ty S k' st') := by
  unfold am_ald
  split
  · refine am_arr_rel Rel hs (fun t n => ?_)
    split
    · split
      · exact am_at_rel Rel hs (fun j => hk _ _ _)
      · exact am_at_rel Rel hs (fun j => hk _ _ _)
    · exact hs _
  · exact hs _
theorem am_ast_rel {Sh : List am_Shp} {S : List Value} {k : Nat → Nat → Nat → Int32 → List Value → α} {k' : Nat → Nat → Nat → Int32 → List Value → β} {st : α} {st' : β} (hs : ∀ b, Rel st b) (hk : ∀ t a j x r, Rel (k t a j x r) (k' t a j x r)) : Rel (am_ast am_atC Sh S k st) (am_ast am_atC Sh S k' st') := by
  unfold am_ast
  split
  · exact am_arr_rel Rel hs (fun t n => am_at_rel Rel hs (fun j => hk _ _ _ _ _))
  · exact hs _
theorem am_astl_rel {Sh : List am_Shp} {S : List Value} {k : Nat → Nat → Nat → Int64 → List Value → α} {k' : Nat → Nat → Nat → Int64 → List Value → β} {st : α} {st' : β} (hs : ∀ b, Rel st b) (hk : ∀ t a j x r, Rel (k t a j x r) (k' t a j x r)) : Rel (am_astl am_atC Sh S k st) (am_astl am_atC Sh S k' st') := by
  unfold am_astl
  split
  · exact am_arr_rel Rel hs (fun t n => am_at_rel Rel hs (fun j => hk _ _ _ _ _))
  · exact hs _
theorem am_len_rel {Sh : List am_Shp} {I : am_I} {S : List Value} {k : Int32 → List Value → α} {k' : Int32 → List Value → β} {st : α} {st' : β} (hs : ∀ b, Rel st b) (hk : ∀ n r, Rel (k n r) (k' n r)) : Rel (am_len Sh I S k st) (am_len Sh I S k' st') := by
  unfold am_len
  split
  · refine am_arr_rel Rel hs (fun t n => ?_)
    split
    · exact hk _ _
    · split
      · exact hk _ _
      · exact hs _
  · exact hs _
theorem am_b01_rel {x : Int32} {k : α} {k' : β} {st : α} {st' : β} (hs : ∀ b, Rel st b) (hk : Rel k k') : Rel (am_b01C x k st) (am_b01C x k' st') := by
  unfold am_b01C
  split
  · exact hk
  · split
    · exact hk
    · exact hs _
theorem am_getf_rel {μ : am_Mem} {ci j : Nat} {S : List Value} {k : Value → List Value → α} {k' : Value → List Value → β} {st : α} {st' : β} (hs : ∀ b, Rel st b) (hk : ∀ v r, Rel (k v r) (k' v r)) : Rel (am_getf μ ci j S k st) (am_getf μ ci j S k' st') := by
  unfold am_getf
  split
  · refine am_obj_rel Rel hs (fun fl => ?_)
    split
    · exact hk _ _
    · exact hk _ _
    · exact hs _
  · exact hs _
theorem am_putf_rel {μ : am_Mem} {ci j z : Nat} {S : List Value} {k : am_Mem → List Value → α} {k' : am_Mem → List Value → β} {st : α} {st' : β} (hs : ∀ b, Rel st b) (hk : ∀ (μ' : am_Mem) r, (¬ z = 2 → μ'.1 = μ.1) → Rel (k μ' r) (k' μ' r)) : Rel (am_putf am_b01C μ ci j z S k st) (am_putf am_b01C μ ci j z S k' st') := by
  unfold am_putf
  split
  · split
    · refine am_obj_rel Rel hs (fun fl => ?_)
      split
      · split
        · exact hk _ _ (fun _ => rfl)
        · exact am_b01_rel Rel hs (hk _ _ (fun _ => rfl))
        · exact hs _
      · exact hs _
    · exact hs _
  · split
    · refine am_obj_rel Rel hs (fun fl => ?_)
      split
      · split
        · exact hk _ _ (fun h => absurd rfl h)
        · exact hs _
      · exact hs _
    · exact hs _
  · exact hs _
theorem am_cpc_rel {s d n : Int32} {n0 n1 : Nat} {k : α} {k' : β} {st : α} {st' : β} (hs : ∀ b, Rel st b) (hk : Rel k k') : Rel (am_cpcC s d n n0 n1 k st) (am_cpcC s d n n0 n1 k' st') := by
  unfold am_cpcC
  split
  · exact hs _
  · exact hk
theorem am_copy_rel {μ : am_Mem} {S : List Value} {k : am_Mem → List Value → α} {k' : am_Mem → List Value → β} {st : α} {st' : β} (hs : ∀ b, Rel st b) (hk : ∀ (μ' : am_Mem) r, μ'.1 = μ.1 → Rel (k μ' r) (k' μ' r)) : Rel (am_copy am_cpcC μ S k st) (am_copy am_cpcC μ S k' st') := by
  unfold am_copy
  split
  · refine am_arr_rel Rel hs (fun t n => am_arr_rel Rel hs (fun t n => ?_))
    split
    · exact am_cpc_rel Rel hs (hk _ _ rfl)
    · exact hs _
  · exact hs _
theorem am_blt_rel {b : Nat} {μ : am_Mem} {S : List Value} {k : List Value → am_Mem → α} {k' : List Value → am_Mem → β} {st : α} {st' : β} (hs : ∀ b, Rel st b) (hk : ∀ r (μ' : am_Mem), μ'.1 = μ.1 → Rel (k r μ') (k' r μ')) : Rel (am_blt am_atC am_cpcC am_mxC am_mnC am_abC b μ S k st) (am_blt am_atC am_cpcC am_mxC am_mnC am_abC b μ S k' st') := by
  unfold am_blt
  split
  · split
    · split
      · exact hk _ _ rfl
      · exact hs _
    · exact hs _
  · refine am_popii_rel Rel hs (fun x y r => ?_)
    split
    · exact hk _ _ rfl
    · exact hs _
  · refine am_popii_rel Rel hs (fun x y r => ?_)
    split
    · exact hk _ _ rfl
    · exact hs _
  · refine am_popi_rel Rel hs (fun x r => ?_)
    split
    · exact hk _ _ rfl
    · exact hs _
  · exact am_copy_rel Rel hs (fun μ' r h => hk _ _ h)
  · split
    · split
      · exact am_at_rel Rel hs (fun j => hk _ _ rfl)
      · exact hs _
    · exact hs _
  · exact hs _
end AMR
/-- an instruction that makes no cell and writes no reference -/
def am_noal (ins : Instr) (aux : List Nat) : Bool := match ins with
  | .new _ => false
  | .newarray _ => false
  | .putfield _ => match aux with
    | [_, _, 2] => false
    | _ => true
  | _ => true
set_option maxHeartbeats 4000000 in
theorem am_step_rel {α β : Type} (Rel : α → β → Prop) {ret : Option FieldType} {pc : Nat} {ins : Instr} {aux : List Nat} {L L' : am_Loc} {S : List Value} {μ : am_Mem}
    {next : Nat → am_Loc → List Value → am_Mem → α} {call : Nat → List Value → List Value → α} {fin : Option Value → α} {stuck : α}
    {next' : Nat → am_Loc → List Value → am_Mem → β} {call' : Nat → List Value → List Value → β} {fin' : Option Value → β} {stuck' : β}
    (hL : am_leL L L') (hs : ∀ b, Rel stuck b) (hn : ∀ pc' L1 L1' S' μ', am_lk L L' L1 L1' → (am_noal ins aux = true → μ'.1 = μ.1) → Rel (next pc' L1 S' μ') (next' pc' L1' S' μ'))
    (hc : ∀ y a r, Rel (call y a r) (call' y a r)) (hf : ∀ v, Rel (fin v) (fin' v)) :
    Rel (am_step ret pc ins aux L S μ next call fin stuck) (am_step ret pc ins aux L' S μ next' call' fin' stuck') := by
  have hK : am_lk L L' L L' := ⟨hL, id⟩
  cases ins <;> simp only [am_step, am_stepG]
  all_goals (first
    | exact hs _
    | exact hn _ _ _ _ _ hK (fun _ => rfl)
    | (refine am_ld_rel Rel hL hs (fun v => ?_); cases v <;> (first | exact hs _ | exact hn _ _ _ _ _ hK (fun _ => rfl) | exact hn _ _ _ _ _ (hK.st _ _) (fun _ => rfl)))
    | exact am_popi_rel Rel hs (fun x r => hn _ _ _ _ _ hK (fun _ => rfl))
    | exact am_popi_rel Rel hs (fun x r => hn _ _ _ _ _ (hK.st _ _) (fun _ => rfl))
    | exact am_popii_rel Rel hs (fun x y r => hn _ _ _ _ _ hK (fun _ => rfl))
    | exact am_popll_rel Rel hs (fun x y r => hn _ _ _ _ _ hK (fun _ => rfl))
    | (refine am_popii_rel Rel hs (fun x y r => ?_); split <;> (first | exact hs _ | exact hn _ _ _ _ _ hK (fun _ => rfl)))
    | exact am_ald_rel Rel hs (fun a j r => hn _ _ _ _ _ hK (fun _ => rfl))
    | exact am_len_rel Rel hs (fun n r => hn _ _ _ _ _ hK (fun _ => rfl))
    | (refine am_ast_rel Rel hs (fun t a j x r => ?_); repeat' split
       all_goals (first | exact hs _ | exact hn _ _ _ _ _ hK (fun _ => rfl) | exact am_b01_rel Rel hs (hn _ _ _ _ _ hK (fun _ => rfl))))
    | (refine am_astl_rel Rel hs (fun t a j x r => ?_); repeat' split
       all_goals (first | exact hs _ | exact hn _ _ _ _ _ hK (fun _ => rfl)))
    | skip)
  all_goals (split <;> (first | exact hs _ | exact hn _ _ _ _ _ hK (fun _ => rfl) | exact hn _ _ _ _ _ (hK.st _ _) (fun _ => rfl) | exact hn _ _ _ _ _ ((hK.st _ _).setN _) (fun _ => rfl) | skip))
  all_goals (first
        | exact am_getf_rel Rel hs (fun v r => hn _ _ _ _ _ hK (fun _ => rfl))
        | exact am_popi_rel Rel hs (fun x r => am_sw_rel Rel (hn _ _ _ _ _ hK (fun _ => rfl)) (fun t => hn _ _ _ _ _ hK (fun _ => rfl)) _)
        | (refine am_putf_rel Rel hs (fun μ' r h => hn _ _ _ _ _ hK (fun q => h (fun z => ?_))); subst z; cases q; done)
        | exact am_blt_rel Rel hs (fun r μ' h => hn _ _ _ _ _ hK (fun _ => h))
        | exact hn _ _ _ _ _ hK (fun h => by cases h)
        | (refine am_popi_rel Rel hs (fun x r => ?_); repeat' split
           all_goals (first | exact hs _ | exact hn _ _ _ _ _ hK (fun _ => rfl) | exact hn _ _ _ _ _ hK (fun h => by cases h)); done)
        | (refine am_popii_rel Rel hs (fun x y r => ?_); repeat' split
           all_goals exact hn _ _ _ _ _ hK (fun _ => rfl); done)
        | skip)
  all_goals (split <;> (first | exact hs _ | exact hf _ | exact hc _ _ _ | exact hn _ _ _ _ _ hK (fun _ => rfl) | exact am_b01_rel Rel hs (hf _) | exact am_obj_rel Rel hs (fun fl => by split <;> (first | exact hs _ | exact hc _ _ _)) | (split <;> (first | exact hs _ | exact hf _ | exact am_b01_rel Rel hs (hf _)))))

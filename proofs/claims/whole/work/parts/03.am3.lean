/-! runs over a memory whose shape stays, and what they come to -/
abbrev am_Out : Type := Option (Option Value × am_I × am_J)
def am_le {α : Type} (x y : Option α) : Prop := ∀ r, x = some r → y = some r
theorem am_le.rf {α : Type} (x : Option α) : am_le x x := fun _ h => h
theorem am_le.tr {α : Type} {x y z : Option α} (h : am_le x y) (h' : am_le y z) : am_le x z := fun r q => h' r (h r q)
theorem am_le.no {α : Type} (y : Option α) : am_le none y := fun _ h => by cases h
def am_run2 (MT : List am_Info) (Sh : List am_Shp) : Nat → Nat → am_Info → Nat → am_Loc → List Value → am_I → am_J → am_Out
  | 0, _, _, _, _, _, _, _ => none
  | n + 1, d, mi, pc, L, S, I, J => match am_find mi.2.1 pc with
    | none => none
    | some (_, ins, aux) => match am_noal ins aux with
      | false => none
      | true => am_step mi.2.2.2.1 pc ins aux L S (Sh, I, J) (fun pc' L' S' μ' => am_run2 MT Sh n d mi pc' L' S' μ'.2.1 μ'.2.2)
        (fun y a r => match MT[y]? with
          | none => none
          | some mj => match am_lev2 d mi mj a with
            | none => none
            | some d' => match am_run2 MT Sh n d' mj 0 (am_entry mj.2.2.1 a) [] I J with
              | none => none
              | some (v, I', J') => am_run2 MT Sh n d mi (pc + 3) L (v.toList ++ r) I' J')
        (fun v => some (v, I, J)) none
theorem am_run2_mono (MT : List am_Info) (Sh : List am_Shp) : ∀ (n m d : Nat) (mi : am_Info) (pc : Nat) (L L' : am_Loc) (S : List Value) (I : am_I) (J : am_J), n ≤ m → am_leL L L' → am_le (am_run2 MT Sh n d mi pc L S I J) (am_run2 MT Sh m d mi pc L' S I J) := by
  intro n
  induction n with
  | zero => intro m d mi pc L L' S I J _ _ r h; cases h
  | succ n ih =>
    intro m d mi pc L L' S I J hm hL
    obtain ⟨m, rfl⟩ : ∃ k, m = k + 1 := ⟨m - 1, by omega⟩
    unfold am_run2
    split
    · exact am_le.no _
    · rename_i ins aux hf
      split
      · exact am_le.no _
      · refine am_step_rel am_le hL (fun b => am_le.no b) (fun pc' L1 L1' S' μ' h1 _ => ih m d mi pc' L1 L1' S' _ _ (by omega) h1.1) (fun y a r => ?_) (fun v => am_le.rf _)
        split
        · exact am_le.no _
        · split
          · exact am_le.no _
          · rename_i mj _ _ d' _
            have h2 := ih m d' mj 0 (am_entry mj.2.2.1 a) (am_entry mj.2.2.1 a) [] I J (by omega) (am_leL.rf _)
            split
            · exact am_le.no _
            · rename_i v I' J' hv
              rw [h2 _ hv]
              exact ih m d mi (pc + 3) L L' _ _ _ (by omega) hL
theorem am_run2_run (MT : List am_Info) (Sh : List am_Shp) : ∀ (n d : Nat) (mi : am_Info) (pc : Nat) (L : am_Loc) (S : List Value) (I : am_I) (J : am_J) (v : Option Value) (I' : am_I) (J' : am_J), am_run2 MT Sh n d mi pc L S I J = some (v, I', J') → am_run MT n d mi pc L S (Sh, I, J) = some (v, (Sh, I', J')) := by
  intro n
  induction n with
  | zero => intro d mi pc L S I J v I' J' h; cases h
  | succ n ih =>
    intro d mi pc L S I J v I' J' h
    unfold am_run2 at h
    unfold am_run
    have key : ∀ (x : am_Out) (y : Option (Option Value × am_Mem)), (∀ v I' J', x = some (v, I', J') → y = some (v, (Sh, I', J'))) → x = some (v, I', J') → y = some (v, (Sh, I', J')) := fun x y q e => q _ _ _ e
    split at h
    · cases h
    · rename_i ins aux hf
      rw [hf]
      split at h
      · cases h
      · rename_i hno
        refine am_step_rel (fun (x : am_Out) (y : Option (Option Value × am_Mem)) => ∀ v I' J', x = some (v, I', J') → y = some (v, (Sh, I', J'))) (am_leL.rf L) (fun b v I' J' q => by cases q) (fun pc' L1 L1' S' μ' hl hs v I' J' q => ?_) (fun y a r v I' J' q => ?_) (fun v v' I' J' q => ?_) v I' J' h
        · obtain ⟨Sh', I1, J1⟩ := μ'
          have hs : Sh' = Sh := hs hno
          subst hs
          exact ih _ _ _ _ _ _ _ _ _ _ (am_run2_mono MT Sh' n n d mi pc' L1 L1' S' I1 J1 (Nat.le_refl _) hl.1 _ q)
        · split at q
          · cases q
          · rename_i mj hmj
            rw [hmj]
            split at q
            · cases q
            · rename_i d' hd'
              simp only [hd']
              split at q
              · cases q
              · rename_i v1 I1 J1 h1
                have h2 := ih _ _ _ _ _ _ _ _ _ _ h1
                simp only [h2]
                exact ih _ _ _ _ _ _ _ _ _ _ q
        · cases q
          rfl
noncomputable def am_R (MT : List am_Info) (Sh : List am_Shp) (d : Nat) (mi : am_Info) (pc : Nat) (L : am_Loc) (S : List Value) (I : am_I) (J : am_J) : am_Out :=
  @dite am_Out (∃ r, ∃ n, am_run2 MT Sh n d mi pc L S I J = some r) (Classical.propDecidable _) (fun h => some (Classical.choose h)) (fun _ => none)
section AMX
variable {MT : List am_Info} {Sh : List am_Shp} {d : Nat} {mi : am_Info} {pc : Nat} {L L' : am_Loc} {S : List Value} {I : am_I} {J : am_J}
theorem am_R_of {n : Nat} {r : Option Value × am_I × am_J} (h : am_run2 MT Sh n d mi pc L S I J = some r) : am_R MT Sh d mi pc L S I J = some r := by
  have hx : ∃ r, ∃ n, am_run2 MT Sh n d mi pc L S I J = some r := ⟨r, n, h⟩
  unfold am_R
  rw [dif_pos hx]
  obtain ⟨m, hm⟩ := Classical.choose_spec hx
  have h1 := am_run2_mono MT Sh n (n + m) d mi pc L L S I J (by omega) (am_leL.rf _) _ h
  have h2 := am_run2_mono MT Sh m (n + m) d mi pc L L S I J (by omega) (am_leL.rf _) _ hm
  rw [h1] at h2
  exact h2.symm
theorem am_R_to {r : Option Value × am_I × am_J} (h : am_R MT Sh d mi pc L S I J = some r) : ∃ n, am_run2 MT Sh n d mi pc L S I J = some r := by
  unfold am_R at h
  by_cases hx : ∃ r, ∃ n, am_run2 MT Sh n d mi pc L S I J = some r
  · rw [dif_pos hx] at h
    obtain ⟨m, hm⟩ := Classical.choose_spec hx
    exact ⟨m, by rw [hm]; exact h⟩
  · rw [dif_neg hx] at h
    cases h
theorem am_R_mono (h : am_leL L L') : am_le (am_R MT Sh d mi pc L S I J) (am_R MT Sh d mi pc L' S I J) := by
  intro r q
  obtain ⟨n, hn⟩ := am_R_to q
  exact am_R_of (am_run2_mono MT Sh n n d mi pc L L' S I J (Nat.le_refl _) h _ hn)
/-- a step, told -/
abbrev am_Rei : Type := (Nat × am_Loc × List Value × am_Mem) ⊕ ((Nat × List Value × List Value) ⊕ (Option Value ⊕ Unit))
def am_ev {α : Type} (next : Nat → am_Loc → List Value → am_Mem → Option α) (call : Nat → List Value → List Value → Option α) (fin : Option Value → Option α) : am_Rei → Option α
  | .inl (pc, L, S, μ) => next pc L S μ
  | .inr (.inl (y, a, r)) => call y a r
  | .inr (.inr (.inl v)) => fin v
  | .inr (.inr (.inr _)) => none
def am_rei (ret : Option FieldType) (pc : Nat) (ins : Instr) (aux : List Nat) (L : am_Loc) (S : List Value) (μ : am_Mem) : am_Rei :=
  am_step ret pc ins aux L S μ (fun pc L S μ => .inl (pc, L, S, μ)) (fun y a r => .inr (.inl (y, a, r))) (fun v => .inr (.inr (.inl v))) (.inr (.inr (.inr ())))
/-- one step ahead -/
noncomputable def am_R1 (MT : List am_Info) (Sh : List am_Shp) (d : Nat) (mi : am_Info) (pc : Nat) (L : am_Loc) (S : List Value) (I : am_I) (J : am_J) : am_Out := match am_find mi.2.1 pc with
    | none => none
    | some (_, ins, aux) => match am_noal ins aux with
      | false => none
      | true => am_step mi.2.2.2.1 pc ins aux L S (Sh, I, J) (fun pc' L' S' μ' => am_R MT Sh d mi pc' L' S' μ'.2.1 μ'.2.2)
        (fun y a r => match MT[y]? with
          | none => none
          | some mj => match am_lev2 d mi mj a with
            | none => none
            | some d' => match am_R MT Sh d' mj 0 (am_entry mj.2.2.1 a) [] I J with
              | none => none
              | some (v, I', J') => am_R MT Sh d mi (pc + 3) L (v.toList ++ r) I' J')
        (fun v => some (v, I, J)) none
theorem am_ev_of {α : Type} {ret : Option FieldType} {ins : Instr} {aux : List Nat} {μ : am_Mem} {next : Nat → am_Loc → List Value → am_Mem → Option α} {call : Nat → List Value → List Value → Option α} {fin : Option Value → Option α} {r : α}
    (h : am_step ret pc ins aux L S μ next call fin none = some r) : am_ev next call fin (am_rei ret pc ins aux L S μ) = some r := by
  unfold am_rei
  refine am_step_rel (fun (x : Option α) (ρ : am_Rei) => ∀ r, x = some r → am_ev next call fin ρ = some r) (am_leL.rf L) (fun b r q => by cases q) (fun pc' L1 L1' S' μ' hl hs r q => ?_) (fun y a t r q => q) (fun v r q => q) r h
  rw [← hl.2 rfl]
  exact q
theorem am_ev_to {α : Type} {ret : Option FieldType} {ins : Instr} {aux : List Nat} {μ : am_Mem} {next : Nat → am_Loc → List Value → am_Mem → Option α} {call : Nat → List Value → List Value → Option α} {fin : Option Value → Option α} {r : α}
    (h : am_ev next call fin (am_rei ret pc ins aux L S μ) = some r) : am_step ret pc ins aux L S μ next call fin none = some r := by
  have key := am_step_rel (stuck := (.inr (.inr (.inr ())) : am_Rei)) (stuck' := (none : Option α)) (fun (ρ : am_Rei) (x : Option α) => (∀ u, ρ ≠ .inr (.inr (.inr u))) → am_ev next call fin ρ = x) (ret := ret) (pc := pc) (ins := ins) (aux := aux) (am_leL.rf L) (S := S) (μ := μ) (next := fun pc L S μ => .inl (pc, L, S, μ)) (call := fun y a r => .inr (.inl (y, a, r))) (fin := fun v => .inr (.inr (.inl v))) (next' := next) (call' := call) (fin' := fin) (fun b q => absurd rfl (q ())) (fun pc' L1 L1' S' μ' hl hs q => by rw [← hl.2 rfl]; rfl) (fun y a t q => rfl) (fun v q => rfl)
  rw [← key (fun u e => ?_)]
  · exact h
  · unfold am_rei at h
    rw [e] at h
    cases h
theorem am_R_step : am_le (am_R1 MT Sh d mi pc L S I J) (am_R MT Sh d mi pc L S I J) := by
  intro r h
  unfold am_R1 at h
  suffices hs : ∃ n, am_run2 MT Sh (n + 1) d mi pc L S I J = some r by
    obtain ⟨n, hn⟩ := hs
    exact am_R_of hn
  split at h
  · cases h
  · rename_i ins aux hf
    split at h
    · cases h
    · rename_i hno
      have h1 := am_ev_of h
      have up : ∀ {n m d mi pc L S I J} {r : Option Value × am_I × am_J}, n ≤ m → am_run2 MT Sh n d mi pc L S I J = some r → am_run2 MT Sh m d mi pc L S I J = some r := fun hm q => am_run2_mono MT Sh _ _ _ _ _ _ _ _ _ _ hm (am_leL.rf _) _ q
      suffices hs : ∃ n, am_ev (fun pc' L' S' (μ' : am_Mem) => am_run2 MT Sh n d mi pc' L' S' μ'.2.1 μ'.2.2)
        (fun y a r => match MT[y]? with
          | none => none
          | some mj => match am_lev2 d mi mj a with
            | none => none
            | some d' => match am_run2 MT Sh n d' mj 0 (am_entry mj.2.2.1 a) [] I J with
              | none => none
              | some (v, I', J') => am_run2 MT Sh n d mi (pc + 3) L (v.toList ++ r) I' J')
        (fun v => some (v, I, J)) (am_rei mi.2.2.2.1 pc ins aux L S (Sh, I, J)) = some r by
        obtain ⟨n, hn⟩ := hs
        refine ⟨n, ?_⟩
        unfold am_run2
        rw [hf]
        simp only [hno]
        exact am_ev_to hn
      cases hρ : am_rei mi.2.2.2.1 pc ins aux L S (Sh, I, J) with
      | inl q =>
        rw [hρ] at h1
        obtain ⟨pc', L', S', μ'⟩ := q
        obtain ⟨n, hn⟩ := am_R_to h1
        exact ⟨n, hn⟩
      | inr q =>
        rw [hρ] at h1
        cases q with
        | inl q =>
          obtain ⟨y, a, t⟩ := q
          simp only [am_ev] at h1 ⊢
          split at h1
          · cases h1
          · rename_i mj hmj
            split at h1
            · cases h1
            · rename_i d' hd'
              split at h1
              · cases h1
              · rename_i v I' J' hv
                obtain ⟨n1, hn1⟩ := am_R_to hv
                obtain ⟨n2, hn2⟩ := am_R_to h1
                refine ⟨n1 + n2, ?_⟩
                simp only [hmj, hd', up (Nat.le_add_right n1 n2) hn1]
                exact up (Nat.le_add_left n2 n1) hn2
        | inr q =>
          cases q with
          | inl v => exact ⟨0, h1⟩
          | inr u => cases h1
/-- what a call answers, by its kind -/
def am_bi (o : am_Out) (k : Int32 → am_I → am_J → am_Out) : am_Out := match o with
  | some (some (.int x), I, J) => k x I J
  | _ => none
def am_bl (o : am_Out) (k : Int64 → am_I → am_J → am_Out) : am_Out := match o with
  | some (some (.long x), I, J) => k x I J
  | _ => none
def am_bv (o : am_Out) (k : am_I → am_J → am_Out) : am_Out := match o with
  | some (none, I, J) => k I J
  | _ => none
/-- the primitives, hidden: nothing looks into them by computing -/
theorem am_hid {α : Type 1} (a : α) : ∃ b : α, b = a := ⟨a, rfl⟩
noncomputable def am_atH : (α : Type) → Int32 → Nat → (Nat → α) → α → α := Classical.choose (am_hid (fun (α : Type) => @am_atC α))
noncomputable def am_cpcH : (α : Type) → Int32 → Int32 → Int32 → Nat → Nat → α → α → α := Classical.choose (am_hid (fun (α : Type) => @am_cpcC α))
noncomputable def am_b01H : (α : Type) → Int32 → α → α → α := Classical.choose (am_hid (fun (α : Type) => @am_b01C α))
theorem am_hid0 {α : Type} (a : α) : ∃ b : α, b = a := ⟨a, rfl⟩
noncomputable def am_mx : Int32 → Int32 → Int32 := Classical.choose (am_hid0 am_mxC)
noncomputable def am_mn : Int32 → Int32 → Int32 := Classical.choose (am_hid0 am_mnC)
noncomputable def am_ab : Int32 → Int32 := Classical.choose (am_hid0 am_abC)
noncomputable def am_at (i : Int32) (n : Nat) (k : Nat → am_Out) (s : am_Out) : am_Out := am_atH am_Out i n k s
noncomputable def am_cpc (s d n : Int32) (n0 n1 : Nat) (k st : am_Out) : am_Out := am_cpcH am_Out s d n n0 n1 k st
noncomputable def am_b01 (x : Int32) (k st : am_Out) : am_Out := am_b01H am_Out x k st
theorem am_atH_eq : am_at = @am_atC am_Out := congrFun (Classical.choose_spec (am_hid (fun (α : Type) => @am_atC α))) am_Out
theorem am_cpcH_eq : am_cpc = @am_cpcC am_Out := congrFun (Classical.choose_spec (am_hid (fun (α : Type) => @am_cpcC α))) am_Out
theorem am_b01H_eq : am_b01 = @am_b01C am_Out := congrFun (Classical.choose_spec (am_hid (fun (α : Type) => @am_b01C α))) am_Out
theorem am_mx_eq : am_mx = am_mxC := Classical.choose_spec (am_hid0 am_mxC)
theorem am_mn_eq : am_mn = am_mnC := Classical.choose_spec (am_hid0 am_mnC)
theorem am_ab_eq : am_ab = am_abC := Classical.choose_spec (am_hid0 am_abC)
def am_mask : List Bool → am_Loc → am_Loc
  | b :: bs, x :: xs => (if b then x else none) :: am_mask bs xs
  | [], xs => xs
  | _, [] => []
theorem am_mask_le : ∀ (bs : List Bool) (L : am_Loc), am_leL (am_mask bs L) L := by
  intro bs
  induction bs with
  | nil => intro L; cases L <;> exact am_leL.rf _
  | cons b bs ih =>
    intro L
    cases L with
    | nil => exact am_leL.rf _
    | cons x xs =>
      have h := ih xs
      refine ⟨by simp [am_mask, h.1], fun i v q => ?_⟩
      cases i with
      | zero =>
        simp only [am_mask, List.getElem?_cons_zero] at q ⊢
        cases b
        · simp at q
        · simpa using q
      | succ i =>
        simp only [am_mask, List.getElem?_cons_succ] at q ⊢
        exact h.2 i v q
def am_stop (st : List (Nat × List Bool)) (pc : Nat) : Option (List Bool) := match st with
  | [] => none
  | e :: t => match Nat.beq e.1 pc with
    | true => some e.2
    | false => am_stop t pc
/-- a stretch of code up to the stops -/
noncomputable def am_ex (MT : List am_Info) (Sh : List am_Shp) (st : List (Nat × List Bool)) (d : Nat) (mi : am_Info) : Nat → Nat → am_Loc → List Value → am_I → am_J → am_Out
  | 0, pc, L, S, I, J => am_R MT Sh d mi pc L S I J
  | n + 1, pc, L, S, I, J => match am_find mi.2.1 pc with
    | none => none
    | some (_, ins, aux) => match am_noal ins aux with
      | false => none
      | true => am_stepG am_at am_cpc am_b01 am_mx am_mn am_ab mi.2.2.2.1 pc ins aux L S (Sh, I, J) (fun pc' L' S' μ' => match am_stop st pc' with
          | some b => am_R MT Sh d mi pc' (am_mask b L') S' μ'.2.1 μ'.2.2
          | none => am_ex MT Sh st d mi n pc' L' S' μ'.2.1 μ'.2.2)
        (fun y a r => match MT[y]? with
          | none => none
          | some mj => match am_lev2 d mi mj a with
            | none => none
            | some d' => match mj.2.2.2.1 with
              | none => am_bv (am_R MT Sh d' mj 0 (am_entry mj.2.2.1 a) [] I J) (fun I' J' => match am_stop st (pc + 3) with
                | some b => am_R MT Sh d mi (pc + 3) (am_mask b L) r I' J'
                | none => am_ex MT Sh st d mi n (pc + 3) L r I' J')
              | some .long => am_bl (am_R MT Sh d' mj 0 (am_entry mj.2.2.1 a) [] I J) (fun x I' J' => am_ex MT Sh st d mi n (pc + 3) L (.long x :: r) I' J')
              | some _ => am_bi (am_R MT Sh d' mj 0 (am_entry mj.2.2.1 a) [] I J) (fun x I' J' => am_ex MT Sh st d mi n (pc + 3) L (.int x :: r) I' J'))
        (fun v => some (v, I, J)) none
theorem am_ex_le (st : List (Nat × List Bool)) : ∀ (n pc : Nat) (L : am_Loc) (S : List Value) (I : am_I) (J : am_J), am_le (am_ex MT Sh st d mi n pc L S I J) (am_R MT Sh d mi pc L S I J) := by
  intro n
  induction n with
  | zero => intro pc L S I J; exact am_le.rf _
  | succ n ih =>
    intro pc L S I J
    refine am_le.tr ?_ am_R_step
    unfold am_ex am_R1
    split
    · exact am_le.no _
    · rename_i ins aux hf
      split
      · exact am_le.no _
      · rw [am_atH_eq, am_cpcH_eq, am_b01H_eq, am_mx_eq, am_mn_eq, am_ab_eq]
        refine am_step_rel am_le (am_leL.rf L) (fun b => am_le.no b) (fun pc' L1 L1' S' μ' h1 _ => ?_) (fun y a r => ?_) (fun v => am_le.rf _)
        · rw [← h1.2 rfl]
          split
          · exact am_R_mono (am_mask_le _ _)
          · exact ih _ _ _ _ _
        · split
          · exact am_le.no _
          · split
            · exact am_le.no _
            · rename_i mj _ _ d' _
              split
              · unfold am_bv
                intro q hq
                split at hq
                · rename_i I' J' hv
                  rw [hv]
                  revert q
                  split
                  · exact am_R_mono (am_mask_le _ _)
                  · exact ih _ _ _ _ _
                · cases hq
              · unfold am_bl
                intro q hq
                split at hq
                · rename_i x I' J' hv
                  rw [hv]
                  exact ih _ _ _ _ _ _ hq
                · cases hq
              · unfold am_bi
                intro q hq
                split at hq
                · rename_i x I' J' hv
                  rw [hv]
                  exact ih _ _ _ _ _ _ hq
                · cases hq
end AMX

/-! no run writes the old cells -/
theorem am_ty_le {t : ArrayType} {y : Nat} (h : am_ty t = some y) : y ≤ 3 := by
  cases t <;> simp [am_ty] at h <;> omega
theorem am_shp_l {y m t n : Nat} (h : (Sum.inl (y, m) : am_Shp) = .inl (t, n)) : t = y := by
  have := Sum.inl.inj h
  exact (congrArg Prod.fst this).symm
theorem am_step_Q {α : Type} (Q : α → Prop) {ret : Option FieldType} {pc : Nat} {ins : Instr} {aux : List Nat} {L : am_Loc} {S : List Value} {μ : am_Mem}
    {next : Nat → am_Loc → List Value → am_Mem → α} {call : Nat → List Value → List Value → α} {fin : Option Value → α} {stuck : α}
    (hwf : am_wf μ.1) (hs : Q stuck) (hn : ∀ pc' L1 S' (μ' : am_Mem), am_wf μ'.1 → (∀ c k, c < 5 → μ'.2.1 c k = μ.2.1 c k) → Q (next pc' L1 S' μ'))
    (hc : ∀ y a r, Q (call y a r)) (hf : ∀ v, Q (fin v)) : Q (am_step ret pc ins aux L S μ next call fin stuck) := by
  have hn0 : ∀ pc' L1 S', Q (next pc' L1 S' μ) := fun pc' L1 S' => hn pc' L1 S' μ hwf (fun _ _ _ => rfl)
  have hnu : ∀ pc' L1 S' a j x J', 5 ≤ a → Q (next pc' L1 S' (μ.1, am_upd μ.2.1 a j x, J')) := fun pc' L1 S' a j x J' h => hn pc' L1 S' _ hwf (fun c k hc => am_uc (by omega))
  have hnJ : ∀ pc' L1 S' J', Q (next pc' L1 S' (μ.1, μ.2.1, J')) := fun pc' L1 S' J' => hn pc' L1 S' _ hwf (fun _ _ _ => rfl)
  have Qat : ∀ (i : Int32) (n : Nat) (k : Nat → α), (∀ j, Q (k j)) → Q (am_atC i n k stuck) := fun i n k h => by
    unfold am_atC
    split
    · exact hs
    · exact h _
  have Qb01 : ∀ (x : Int32) (k : α), Q k → Q (am_b01C x k stuck) := fun x k h => by
    unfold am_b01C
    split
    · exact h
    · split
      · exact h
      · exact hs
  have Qarr : ∀ (a : Nat) (k : Nat → Nat → α), (∀ t n, μ.1[a]? = some (.inl (t, n)) → Q (k t n)) → Q (am_arr μ.1 a k stuck) := fun a k h => by
    unfold am_arr
    split
    · rename_i t n e
      exact h t n e
    · exact hs
  have Qobj : ∀ (a ci : Nat) (k : List (Option Value) → α), (∀ fl, μ.1[a]? = some (.inr (ci, fl)) → Q (k fl)) → Q (am_obj μ.1 a ci k stuck) := fun a ci k h => by
    unfold am_obj
    split
    · rename_i c fl e
      split
      · rename_i e2
        subst e2
        exact h fl e
      · exact hs
    · exact hs
  have Qpopi : ∀ (S : List Value) (k : Int32 → List Value → α), (∀ x r, Q (k x r)) → Q (am_popi S k stuck) := fun S k h => by
    unfold am_popi
    split
    · exact h _ _
    · exact hs
  have Qpopii : ∀ (S : List Value) (k : Int32 → Int32 → List Value → α), (∀ x y r, Q (k x y r)) → Q (am_popii S k stuck) := fun S k h => by
    unfold am_popii
    split
    · exact h _ _ _
    · exact hs
  have Qpopll : ∀ (S : List Value) (k : Int64 → Int64 → List Value → α), (∀ x y r, Q (k x y r)) → Q (am_popll S k stuck) := fun S k h => by
    unfold am_popll
    split
    · exact h _ _ _
    · exact hs
  have Qld : ∀ (i : Nat) (k : Value → α), (∀ v, Q (k v)) → Q (am_ld L i k stuck) := fun i k h => by
    unfold am_ld
    split
    · exact h _
    · exact hs
  have Qald : ∀ (ty : Nat → Bool) (S : List Value) (k : Nat → Nat → List Value → α), (∀ a j r, Q (k a j r)) → Q (am_ald am_atC μ.1 μ.2.1 ty S k stuck) := fun ty S k h => by
    unfold am_ald
    split
    · refine Qarr _ _ (fun t n _ => ?_)
      split
      · split
        · exact Qat _ _ _ (fun j => h _ _ _)
        · exact Qat _ _ _ (fun j => h _ _ _)
      · exact hs
    · exact hs
  have Qast : ∀ (S : List Value) (k : Nat → Nat → Nat → Int32 → List Value → α), (∀ t n a j x r, μ.1[a]? = some (.inl (t, n)) → Q (k t a j x r)) → Q (am_ast am_atC μ.1 S k stuck) := fun S k h => by
    unfold am_ast
    split
    · exact Qarr _ _ (fun t n e => Qat _ _ _ (fun j => h t n _ j _ _ e))
    · exact hs
  have Qastl : ∀ (S : List Value) (k : Nat → Nat → Nat → Int64 → List Value → α), (∀ t a j x r, Q (k t a j x r)) → Q (am_astl am_atC μ.1 S k stuck) := fun S k h => by
    unfold am_astl
    split
    · exact Qarr _ _ (fun t n e => Qat _ _ _ (fun j => h t _ j _ _))
    · exact hs
  have Qlen : ∀ (S : List Value) (k : Int32 → List Value → α), (∀ x r, Q (k x r)) → Q (am_len μ.1 μ.2.1 S k stuck) := fun S k h => by
    unfold am_len
    split
    · refine Qarr _ _ (fun t n _ => ?_)
      split
      · exact h _ _
      · split
        · exact h _ _
        · exact hs
    · exact hs
  have Qgetf : ∀ (ci j : Nat) (S : List Value) (k : Value → List Value → α), (∀ v r, Q (k v r)) → Q (am_getf μ ci j S k stuck) := fun ci j S k h => by
    unfold am_getf
    split
    · refine Qobj _ _ _ (fun fl _ => ?_)
      split
      · exact h _ _
      · exact h _ _
      · exact hs
    · exact hs
  have Qputf : ∀ (ci j z : Nat) (S : List Value) (k : am_Mem → List Value → α), (∀ (μ' : am_Mem) r, am_wf μ'.1 → (∀ c k, c < 5 → μ'.2.1 c k = μ.2.1 c k) → Q (k μ' r)) → Q (am_putf am_b01C μ ci j z S k stuck) := fun ci j z S k h => by
    unfold am_putf
    split
    · split
      · rename_i h5
        refine Qobj _ _ _ (fun fl _ => ?_)
        split
        · split
          · exact h _ _ hwf (fun c k hc => am_uc (fun q => absurd h5 (Nat.not_le.mpr (by rw [← q]; exact hc))))
          · exact Qb01 _ _ (h _ _ hwf (fun c k hc => am_uc (fun q => absurd h5 (Nat.not_le.mpr (by rw [← q]; exact hc)))))
          · exact hs
        · exact hs
      · exact hs
    · split
      · rename_i h5
        refine Qobj _ _ _ (fun fl _ => ?_)
        split
        · split
          · exact h _ _ (hwf.set h5 _) (fun _ _ _ => rfl)
          · exact hs
        · exact hs
      · exact hs
    · exact hs
  have Qblt : ∀ (b : Nat) (S : List Value) (k : List Value → am_Mem → α), (∀ r (μ' : am_Mem), am_wf μ'.1 → (∀ c k, c < 5 → μ'.2.1 c k = μ.2.1 c k) → Q (k r μ')) → Q (am_blt am_atC am_cpcC am_mxC am_mnC am_abC b μ S k stuck) := fun b S k h => by
    have h0 : ∀ r, Q (k r μ) := fun r => h r μ hwf (fun _ _ _ => rfl)
    unfold am_blt
    split
    · split
      · split
        · exact h0 _
        · exact hs
      · exact hs
    · refine Qpopii _ _ (fun x y r => ?_)
      split
      · exact h0 _
      · exact hs
    · refine Qpopii _ _ (fun x y r => ?_)
      split
      · exact h0 _
      · exact hs
    · refine Qpopi _ _ (fun x r => ?_)
      split
      · exact h0 _
      · exact hs
    · unfold am_copy
      split
      · refine Qarr _ _ (fun t n _ => Qarr _ _ (fun t n _ => ?_))
        split
        · rename_i e
          unfold am_cpcC
          split
          · exact hs
          · exact h _ _ hwf (fun c k hc => am_cc (fun q => absurd e.2.2.2.1 (Nat.not_le.mpr (by rw [← q]; exact hc))))
        · exact hs
      · exact hs
    · split
      · split
        · exact Qat _ _ _ (fun j => h0 _)
        · exact hs
      · exact hs
    · exact hs
  have Qsw : ∀ (x : Int32) (k : Nat → α) (d : α), Q d → (∀ t, Q (k t)) → ∀ (ts : List Nat) (lo : Int), Q (am_sw x lo ts k d) := fun x k d hd hk ts => by
    induction ts with
    | nil => intro lo; exact hd
    | cons t ts ih =>
      intro lo
      unfold am_sw
      split
      · exact hk _
      · exact ih _
  have hnz : ∀ pc' L1 S' (s : am_Shp), (∀ t n, s = .inl (t, n) → t ≤ 3) → Q (next pc' L1 S' (μ.1 ++ [s], am_zero μ.2.1 μ.1.length, am_zeroJ μ.2.2 μ.1.length)) := fun pc' L1 S' s h => hn _ _ _ _ (hwf.push h) (fun c k hc => by
    have := hwf.len
    unfold am_zero
    exact if_neg (by omega))
  cases ins <;> simp only [am_step, am_stepG]
  all_goals (first
    | exact hs
    | exact hn0 _ _ _
    | (refine Qld _ _ (fun v => ?_); cases v <;> (first | exact hs | exact hn0 _ _ _))
    | exact Qpopi _ _ (fun x r => hn0 _ _ _)
    | exact Qpopii _ _ (fun x y r => hn0 _ _ _)
    | exact Qpopll _ _ (fun x y r => hn0 _ _ _)
    | (refine Qpopii _ _ (fun x y r => ?_); split <;> (first | exact hs | exact hn0 _ _ _))
    | exact Qald _ _ _ (fun a j r => hn0 _ _ _)
    | exact Qlen _ _ (fun n r => hn0 _ _ _)
    | (refine Qast _ _ (fun t n a j x r e => ?_); repeat' split
       all_goals (first | exact hs | (refine hnu _ _ _ _ _ _ _ ?_; have := hwf.arr e; omega) | (refine Qb01 _ _ (hnu _ _ _ _ _ _ _ ?_); have := hwf.arr e; omega)))
    | (refine Qastl _ _ (fun t a j x r => ?_); repeat' split
       all_goals (first | exact hs | exact hnJ _ _ _ _))
    | skip)
  all_goals (split <;> (first | exact hs | exact hn0 _ _ _ | skip))
  all_goals (first
        | exact Qgetf _ _ _ _ (fun v r => hn0 _ _ _)
        | exact Qpopi _ _ (fun x r => Qsw _ _ _ (hn0 _ _ _) (fun t => hn0 _ _ _) _ _)
        | exact Qputf _ _ _ _ _ (fun μ' r h1 h2 => hn _ _ _ _ h1 h2)
        | exact Qblt _ _ _ (fun r μ' h1 h2 => hn _ _ _ _ h1 h2)
        | (refine Qpopi _ _ (fun x r => ?_); repeat' split
           all_goals (first | exact hs | exact hn0 _ _ _); done)
        | (refine Qpopii _ _ (fun x y r => ?_); repeat' split
           all_goals exact hn0 _ _ _; done)
        | skip)
  all_goals (first
    | (refine hnz _ _ _ _ ?_; intro t n e; cases e; done)
    | (refine Qpopi _ _ (fun x r => ?_)
       split
       · exact hs
       · refine hnz _ _ _ _ (fun t n e => ?_)
         rw [am_shp_l e]
         exact am_ty_le ‹am_ty _ = some _›)
    | (split
       · first
         | exact hn0 _ _ _
         | exact hf _
         | exact hc _ _ _
         | exact Qobj _ _ _ (fun fl _ => by
             split
             · exact hc _ _ _
             · exact hs)
       · first
         | exact hs
         | exact Qb01 _ _ (hf _)
       all_goals exact hs)
    | (split
       · first
         | exact hn0 _ _ _
         | exact hf _
         | exact hc _ _ _
         | exact Qobj _ _ _ (fun fl _ => by
             split
             · exact hc _ _ _
             · exact hs)
       · exact hs))
theorem am_run_keep (MT : List am_Info) : ∀ (n d : Nat) (mi : am_Info) (pc : Nat) (L : am_Loc) (S : List Value) (μ : am_Mem), am_wf μ.1 → ∀ v μ', am_run MT n d mi pc L S μ = some (v, μ') → am_wf μ'.1 ∧ ∀ c k, c < 5 → μ'.2.1 c k = μ.2.1 c k := by
  intro n
  induction n with
  | zero => intro d mi pc L S μ _ v μ' h; cases h
  | succ n ih =>
    intro d mi pc L S μ hwf v μ' h
    unfold am_run at h
    split at h
    · cases h
    · rename_i ins aux hfd
      revert v μ'
      refine am_step_Q (fun (o : Option (Option Value × am_Mem)) => ∀ v μ', o = some (v, μ') → am_wf μ'.1 ∧ ∀ c k, c < 5 → μ'.2.1 c k = μ.2.1 c k) hwf (fun v μ' h => by cases h) (fun pc' L1 S' μ1 h1 h2 v μ' h => ?_) (fun y a r v μ' h => ?_) (fun w v μ' h => ?_)
      · obtain ⟨g1, g2⟩ := ih d mi pc' L1 S' μ1 h1 v μ' h
        exact ⟨g1, fun c k hc => (g2 c k hc).trans (h2 c k hc)⟩
      · split at h
        · cases h
        · split at h
          · cases h
          · split at h
            · cases h
            · rename_i v1 μ1 h1
              obtain ⟨g1, g2⟩ := ih _ _ _ _ _ μ hwf v1 μ1 h1
              obtain ⟨g3, g4⟩ := ih _ _ _ _ _ μ1 g1 v μ' h
              exact ⟨g3, fun c k hc => (g4 c k hc).trans (g2 c k hc)⟩
      · cases h
        exact ⟨hwf, fun _ _ _ => rfl⟩

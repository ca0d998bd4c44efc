/-! `thinks ... ;`: the class's loop -/
def x_n7 : List (Nat × Nat) := [(32, 3), (32, 4), (32, 5), (32, 6), (32, 7), (32, 8), (22, 6)]
def x_th1 (l : List Int32) : List Int32 := if l.length = 0 then [1] else l
section YR
variable (d : Nat) (J : am_J)
theorem s_one (I : am_I) : f_next_thinkOneMinute_0 d I J = some (none, am_upd (am_upd I 22 6 1) 25 0 1, J) := b_next_thinkOneMinute_0 d I J _ (by rw [show (0 : Int32) = nI 0 from rfl, am_at_n (by omega) (by omega)])
/-- the loop's end -/
theorem s_th_end {I : am_I} {m : Nat} (hm : m ≤ 4) {I1 : am_I} {y : Int32} (hp : f_reader_pass_0 d 59 I J = some (some (.int y), I1, J)) (hc : 4 < m ∨ I 32 5 ≠ 0 ∨ I 32 4 ≠ 3) : ∃ I', f_reader_readThinks_12 d (nI m) (nI m) I J = some (none, I', J) ∧ I' 22 6 = nI (if m = 0 then 1 else m) ∧ (m = 0 → I' 25 0 = 1) ∧ (∀ j, m ≠ 0 → I' 25 j = I1 25 j) ∧ ∀ c k, (c ≠ 22 ∨ k ≠ 6) → c ≠ 25 → I' c k = I1 c k := by
  have b := b_reader_readThinks_12 d (nI m) (nI m) I J
  have fin : ∀ r, (if nI m = 0 then am_bv (f_next_thinkOneMinute_0 d (am_upd I1 22 6 (nI m)) J) (fun I4 J5 => some (none, I4, J5)) else some (none, am_upd I1 22 6 (nI m), J) : am_Out) = some r → f_reader_readThinks_12 d (nI m) (nI m) I J = some r := fun r hr => by
    refine b _ ?_
    rw [if_neg (show ¬ (4 : Int32) < nI m from nI_nlt (a := 4) hm (by omega)), hp, am_bi_i]
    by_cases q : I 32 5 = 0
    · rw [if_pos q, if_neg (hc.elim (fun z => absurd z (by omega)) (fun z => z.resolve_left (fun w => w q)))]
      exact hr
    · rw [if_neg q]
      exact hr
  by_cases hm0 : m = 0
  · subst hm0
    rw [if_pos (show nI 0 = 0 from rfl), s_one, am_bv_v] at fin
    refine ⟨_, fin _ rfl, ?_, fun _ => am_ue, fun j q => absurd rfl q, fun c k h1 h2 => ?_⟩
    · rw [am_uc (by decide), am_ue]; rfl
    · rw [am_uc h2]
      rcases h1 with h1 | h1
      · rw [am_uc h1, am_uc h1]
      · rw [am_uk h1, am_uk h1]
  · rw [if_neg (nI_ne0 (by omega) (by omega))] at fin
    refine ⟨_, fin _ rfl, ?_, fun q => absurd q hm0, fun j _ => am_uc (by decide), fun c k h1 h2 => h1.elim am_uc am_uk⟩
    rw [am_ue, if_neg hm0]
end YR

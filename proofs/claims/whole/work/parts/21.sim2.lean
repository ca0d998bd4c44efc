/-! the relation between the two machines -/
def am_A (base : Nat) : Nat → Prop := fun q => base ≤ q
def am_tys (cid : Nat → ClassId) : List (ClassId × FieldType) := [(cid 0, .int), (cid 1, .byte), (cid 2, .boolean), (cid 3, .long)]
def am_txt : List Int32 := [98, 111, 97, 114, 100, 32, 32, 32, 119, 111, 114, 116, 104, 32, 32, 32, 97, 110, 115, 119, 101, 114, 32, 32, 100, 114, 97, 119, 32, 32, 32, 32, 116, 104, 105, 110, 107, 115, 32, 32, 115, 116, 101, 112, 32, 32, 32, 32, 99, 108, 111, 99, 107, 32, 32, 32, 102, 108, 97, 103, 32, 32, 32, 32, 105, 102, 32, 32, 32, 32, 32, 32, 116, 104, 101, 110, 32, 32, 32, 32, 101, 108, 115, 101, 32, 32, 32, 32, 116, 104, 105, 110, 107, 32, 32, 32, 109, 111, 118, 101, 32, 32, 32, 32, 116, 105, 109, 101, 32, 32, 32, 32, 105, 100, 108, 101, 32, 32, 32, 32, 108, 101, 102, 116, 32, 32, 32, 32, 115, 117, 109, 32, 32, 32, 32, 32]
def am_str (o : Nat → Nat) (base vb : Nat) (OI : am_I) (U : State) (H : Heap) : Prop := vk_R "OneClock$Tape" 68 "board   worth   answer  draw    thinks  step    clock   flag    if      then    else    think   move    time    idle    left    sum     " (o 4) U ∧ vk_S 1 [136] [am_txt] (fun _ => o 4) (fun _ => vb) (am_A base) U H ∧ va_Z "java/lang/String" "COMPACT_STRINGS" "Z" (.int 1) (am_A base) U H ∧ va_Zq "jdk/internal/util/Preconditions" "SIOOBE_FORMATTER" "Ljava/util/function/BiFunction;" (am_A base) U H ∧ ∀ j, j < 136 → OI 4 j = am_txt.getD j 0
def am_old (o : Nat → Nat) (base vb : Nat) (OI : am_I) (U : State) (H : Heap) : Prop :=
  (∃ L, L < 2 ^ 31 ∧ OI 0 4096 = Int32.ofNat L ∧ va_X (o 0) L (OI 0) U H) ∧ (∀ c, 1 ≤ c → c ≤ 3 → va_T .int (o c) 3 (fun j => .int (OI c j)) (am_A base) U H ∧ va_Z "OneClock$Plan" (am_stn c) "[I" (.ref (o c)) (am_A base) U H) ∧ (∀ c, c < 5 → o c < base) ∧ am_str o base vb OI U H ∧ ∀ q ∈ am_CTN, va_Nw (.methodLinkNest (am_own q.1) q.2.1 (am_yn q.2.2.1) q.2.2.2) U
theorem am_old.blind {o : Nat → Nat} {base vb : Nat} {OI : am_I} {U : State} {H : Heap} (h : am_old o base vb OI U H) (g : JFrame) (mk : MethodId) (a : Array Value) : am_old o base vb OI (U.calling g mk a) H := by
  obtain ⟨⟨L, h1, h2, h3⟩, h4, h5, ⟨s1, s2, s3, s4, s5⟩, h6⟩ := h
  have al : U.vm.Alike (U.calling g mk a).vm := Vm.Alike.refl U.vm
  exact ⟨⟨L, h1, h2, h3.moved al⟩, fun c c1 c3 => ⟨va_T.moved al (h4 c c1 c3).1, va_Z.moved al (h4 c c1 c3).2⟩, h5, ⟨vk_R.same rfl s1, vk_S.moved al s2, va_Z.moved al s3, va_Zq.moved al s4, s5⟩, fun q hq => va_Nw.same rfl rfl (h6 q hq)⟩
theorem am_old.next {o : Nat → Nat} {base vb : Nat} {OI : am_I} {s U : State} {H : Heap} {locs : List Loc} (h : am_old o base vb OI s s.heap) (hW : s.WarmedH U.vm) (hS : va_S (am_A base) s.heap H locs) (hb : base ≤ s.heap.size) : am_old o base vb OI U H := by
  obtain ⟨⟨L, h1, h2, h3⟩, h4, h5, ⟨s1, s2, s3, s4, s5⟩, h6⟩ := h
  have al := hW.alike
  have kp : ∀ c, c < 5 → H[o c]? = s.heap[o c]? := fun c hc => hS.2.1 _ (Nat.lt_of_lt_of_le (h5 c hc) hb) (fun q => absurd (h5 c hc) (Nat.not_lt.mpr q))
  refine ⟨⟨L, h1, h2, (h3.kept (kp 0 (by omega))).moved al⟩, fun c c1 c3 => ⟨va_T.moved al ((h4 c c1 c3).1.kept hS.2.1), va_Z.moved al ((h4 c c1 c3).2.kept hS.2.1)⟩, h5, ⟨vk_R.warm hW s1, vk_S.moved al (s2.kept hS.2.1), va_Z.moved al (s3.kept hS.2.1), va_Zq.moved al (s4.kept hS.2.1), s5⟩, fun q hq => va_Nw.warmM hW (h6 q hq)⟩
def am_rel (D : va_G) (cid : Nat → ClassId) (o : Nat → Nat) (base : Nat) (OI : am_I) (μ : am_Mem) (H : Heap) : Prop := am_wf μ.1 ∧ va_P D vwCl (am_ws (am_ad o base) cid μ) H ∧ ∀ c k, c < 5 → μ.2.1 c k = OI c k
theorem am_low {D : va_G} {cid : Nat → ClassId} {o : Nat → Nat} {base : Nat} {OI : am_I} {μ : am_Mem} {H : Heap} (h : am_rel D cid o base OI μ H) (hb : base ≤ H.size) : base + (μ.1.length - 5) ≤ H.size := by
  have h5 := h.1.len
  by_cases hz : μ.1.length = 5
  · rw [hz]
    exact hb
  · have h1 := am_ws_at (am_ad o base) cid μ (μ.1.length - 6)
    rw [if_pos (by omega)] at h1
    have h2 := (h.2.1 _ _ h1).lt
    simp only [am_ad_new (show 5 ≤ μ.1.length - 6 + 5 by omega)] at h2
    omega
theorem am_cl_at {c : Nat} (h : c < 11) : vwCl[c]? = some ((am_cls c).1, (am_cls c).2.1, (am_cls c).2.2) := by
  have h2 : ∃ q, vwCl[c]? = some q := ⟨vwCl[c], List.getElem?_eq_getElem h⟩
  obtain ⟨q, hq⟩ := h2
  unfold am_cls
  rw [List.getD_eq_getElem?_getD, hq]
  rfl
theorem am_ty_at {cid : Nat → ClassId} {t : Nat} (h : t ≤ 3) : ∃ ty, (am_tys cid)[t]? = some (cid t, ty) ∧ (t = 0 → ty = .int) ∧ (t = 1 → ty = .byte) ∧ (t = 2 → ty = .boolean) ∧ (t = 3 → ty = .long) := by
  rcases (show t = 0 ∨ t = 1 ∨ t = 2 ∨ t = 3 by omega) with rfl | rfl | rfl | rfl
  · exact ⟨.int, rfl, fun _ => rfl, fun h => by omega, fun h => by omega, fun h => by omega⟩
  · exact ⟨.byte, rfl, fun h => by omega, fun _ => rfl, fun h => by omega, fun h => by omega⟩
  · exact ⟨.boolean, rfl, fun h => by omega, fun h => by omega, fun _ => rfl, fun h => by omega⟩
  · exact ⟨.long, rfl, fun h => by omega, fun h => by omega, fun h => by omega, fun _ => rfl⟩
theorem am_find_mem {code : List am_Ent} {pc : Nat} {e : am_Ent} (h : am_find code pc = some e) : e ∈ code ∧ e.1 = pc := by
  induction code with
  | nil => cases h
  | cons x t ih =>
    unfold am_find at h
    split at h
    · rename_i hb
      cases h
      exact ⟨List.mem_cons_self, Nat.eq_of_beq_eq_true hb⟩
    · exact ⟨List.mem_cons_of_mem _ (ih h).1, (ih h).2⟩
/-! what a step that goes on has found -/
section SOME
variable {β : Type} {r : β}
theorem am_popi_some {S : List Value} {k : Int32 → List Value → Option β} (h : am_popi S k none = some r) : ∃ x t, S = .int x :: t ∧ k x t = some r := by
  unfold am_popi at h
  split at h
  · exact ⟨_, _, rfl, h⟩
  · cases h
theorem am_popii_some {S : List Value} {k : Int32 → Int32 → List Value → Option β} (h : am_popii S k none = some r) : ∃ x y t, S = .int y :: .int x :: t ∧ k x y t = some r := by
  unfold am_popii at h
  split at h
  · exact ⟨_, _, _, rfl, h⟩
  · cases h
theorem am_popll_some {S : List Value} {k : Int64 → Int64 → List Value → Option β} (h : am_popll S k none = some r) : ∃ x y t, S = .long y :: .long x :: t ∧ k x y t = some r := by
  unfold am_popll at h
  split at h
  · exact ⟨_, _, _, rfl, h⟩
  · cases h
theorem am_ld_some {L : am_Loc} {i : Nat} {k : Value → Option β} (h : am_ld L i k none = some r) : ∃ v, L[i]? = some (some v) ∧ k v = some r := by
  unfold am_ld at h
  split at h
  · rename_i v hv
    exact ⟨v, hv, h⟩
  · cases h
theorem am_arr_some {Sh : List am_Shp} {a : Nat} {k : Nat → Nat → Option β} (h : am_arr Sh a k none = some r) : ∃ t n, Sh[a]? = some (.inl (t, n)) ∧ k t n = some r := by
  unfold am_arr at h
  split at h
  · rename_i t n hv
    exact ⟨t, n, hv, h⟩
  · cases h
theorem am_obj_some {Sh : List am_Shp} {a ci : Nat} {k : List (Option Value) → Option β} (h : am_obj Sh a ci k none = some r) : ∃ fl, Sh[a]? = some (.inr (ci, fl)) ∧ k fl = some r := by
  unfold am_obj at h
  split at h
  · rename_i c fl hv
    split at h
    · rename_i e
      subst e
      exact ⟨fl, hv, h⟩
    · cases h
  · cases h
theorem am_at_some {i : Int32} {n : Nat} {k : Nat → Option β} (h : am_atC i n k none = some r) : vp_in i n ∧ k i.toNatClampNeg = some r := by
  unfold am_atC at h
  split at h
  · cases h
  · rename_i hv
    exact ⟨hv, h⟩
theorem am_ald_some {Sh : List am_Shp} {I : am_I} {ty : Nat → Bool} {S : List Value} {k : Nat → Nat → List Value → Option β} (h : am_ald am_atC Sh I ty S k none = some r) : ∃ i a t ty' n, S = .int i :: .ref a :: t ∧ Sh[a]? = some (.inl (ty', n)) ∧ ty ty' = true ∧ k a i.toNatClampNeg t = some r ∧ ((ty' = 12 ∧ vp_in i (I a 4096).toNatClampNeg) ∨ (ty' ≠ 12 ∧ vp_in i n)) := by
  unfold am_ald at h
  split at h
  · obtain ⟨ty', n, h1, h⟩ := am_arr_some h
    split at h
    · rename_i ht
      split at h
      · rename_i hb
        obtain ⟨h2, h⟩ := am_at_some h
        exact ⟨_, _, _, ty', n, rfl, h1, ht, h, Or.inl ⟨Nat.eq_of_beq_eq_true hb, h2⟩⟩
      · rename_i hb
        obtain ⟨h2, h⟩ := am_at_some h
        exact ⟨_, _, _, ty', n, rfl, h1, ht, h, Or.inr ⟨Nat.ne_of_beq_eq_false hb, h2⟩⟩
    · cases h
  · cases h
theorem am_ast_some {Sh : List am_Shp} {S : List Value} {k : Nat → Nat → Nat → Int32 → List Value → Option β} (h : am_ast am_atC Sh S k none = some r) : ∃ x i a t ty n, S = .int x :: .int i :: .ref a :: t ∧ Sh[a]? = some (.inl (ty, n)) ∧ vp_in i n ∧ k ty a i.toNatClampNeg x t = some r := by
  unfold am_ast at h
  split at h
  · obtain ⟨ty', n, h1, h⟩ := am_arr_some h
    obtain ⟨h2, h⟩ := am_at_some h
    exact ⟨_, _, _, _, ty', n, rfl, h1, h2, h⟩
  · cases h
theorem am_astl_some {Sh : List am_Shp} {S : List Value} {k : Nat → Nat → Nat → Int64 → List Value → Option β} (h : am_astl am_atC Sh S k none = some r) : ∃ x i a t ty n, S = .long x :: .int i :: .ref a :: t ∧ Sh[a]? = some (.inl (ty, n)) ∧ vp_in i n ∧ k ty a i.toNatClampNeg x t = some r := by
  unfold am_astl at h
  split at h
  · obtain ⟨ty', n, h1, h⟩ := am_arr_some h
    obtain ⟨h2, h⟩ := am_at_some h
    exact ⟨_, _, _, _, ty', n, rfl, h1, h2, h⟩
  · cases h
theorem am_getf_some {μ : am_Mem} {ci j : Nat} {S : List Value} {k : Value → List Value → Option β} (h : am_getf μ ci j S k none = some r) : ∃ a t fl, S = .ref a :: t ∧ μ.1[a]? = some (.inr (ci, fl)) ∧ ((fl[j]? = some none ∧ k (.int (μ.2.1 a j)) t = some r) ∨ ∃ v, fl[j]? = some (some v) ∧ k v t = some r) := by
  unfold am_getf at h
  split at h
  · obtain ⟨fl, h1, h⟩ := am_obj_some h
    split at h
    · rename_i hf
      exact ⟨_, _, fl, rfl, h1, Or.inl ⟨hf, h⟩⟩
    · rename_i v hf
      exact ⟨_, _, fl, rfl, h1, Or.inr ⟨v, hf, h⟩⟩
    · cases h
  · cases h
theorem am_b01_some {x : Int32} {k : Option β} (h : am_b01C x k none = some r) : (x = 0 ∨ x = 1) ∧ k = some r := by
  unfold am_b01C at h
  split at h
  · rename_i hx
    exact ⟨Or.inl hx, h⟩
  · split at h
    · rename_i hx
      exact ⟨Or.inr hx, h⟩
    · cases h
theorem am_putf_some {μ : am_Mem} {ci j z : Nat} {S : List Value} {k : am_Mem → List Value → Option β} (h : am_putf am_b01C μ ci j z S k none = some r) : ∃ w a t fl, S = w :: .ref a :: t ∧ 5 ≤ a ∧ μ.1[a]? = some (.inr (ci, fl)) ∧
    ((∃ x, w = .int x ∧ fl[j]? = some none ∧ k (μ.1, am_upd μ.2.1 a j x, μ.2.2) t = some r ∧ (z = 0 ∨ (z = 1 ∧ (x = 0 ∨ x = 1)))) ∨ (∃ q v, w = .ref q ∧ fl[j]? = some (some v) ∧ z = 2 ∧ k (μ.1.set a (.inr (ci, fl.set j (some (.ref q)))), μ.2) t = some r)) := by
  unfold am_putf at h
  split at h
  · split at h
    · rename_i h5
      obtain ⟨fl, h1, h⟩ := am_obj_some h
      split at h
      · rename_i hf
        split at h
        · exact ⟨_, _, _, fl, rfl, h5, h1, Or.inl ⟨_, rfl, hf, h, Or.inl rfl⟩⟩
        · obtain ⟨hx, h⟩ := am_b01_some h
          exact ⟨_, _, _, fl, rfl, h5, h1, Or.inl ⟨_, rfl, hf, h, Or.inr ⟨rfl, hx⟩⟩⟩
        · cases h
      · cases h
    · cases h
  · split at h
    · rename_i h5
      obtain ⟨fl, h1, h⟩ := am_obj_some h
      split at h
      · rename_i v hf
        split at h
        · exact ⟨_, _, _, fl, rfl, h5, h1, Or.inr ⟨_, v, rfl, hf, rfl, h⟩⟩
        · cases h
      · cases h
    · cases h
  · cases h
theorem am_copy_some {μ : am_Mem} {S : List Value} {k : am_Mem → List Value → Option β} (h : am_copy am_cpcC μ S k none = some r) : ∃ n d b s a t n0 n1, S = .int n :: .int d :: .ref b :: .int s :: .ref a :: t ∧ μ.1[a]? = some (.inl (0, n0)) ∧ μ.1[b]? = some (.inl (0, n1)) ∧ 5 ≤ a ∧ 5 ≤ b ∧ am_cat t ≤ 8 ∧
    (¬ s < 0 ∧ ¬ d < 0 ∧ ¬ n < 0 ∧ s.toNatClampNeg + n.toNatClampNeg ≤ n0 ∧ d.toNatClampNeg + n.toNatClampNeg ≤ n1) ∧ k (μ.1, am_cpy μ.2.1 a s.toNatClampNeg b d.toNatClampNeg n.toNatClampNeg, μ.2.2) t = some r := by
  unfold am_copy at h
  split at h
  · obtain ⟨t0, n0, h1, h'⟩ := am_arr_some h
    obtain ⟨t1, n1, h2, h''⟩ := am_arr_some h'
    clear h h'
    split at h''
    · rename_i hc
      obtain ⟨e0, e1, ha, hb, hcat⟩ := hc
      subst e0
      subst e1
      unfold am_cpcC at h''
      split at h''
      · cases h''
      · rename_i hn
        simp only [not_or, Nat.not_lt] at hn
        exact ⟨_, _, _, _, _, _, n0, n1, rfl, h1, h2, ha, hb, hcat, hn, h''⟩
    · cases h''
  · cases h
theorem am_sw_some {x : Int32} {k : Nat → Option β} {d : Option β} : ∀ {ts : List Nat} {lo : Int}, am_sw x lo ts k d = some r → (∃ (i : Nat) (t : Nat), ts[i]? = some t ∧ x = am_lit (lo + i) ∧ k t = some r) ∨ ((∀ i : Nat, i < ts.length → x ≠ am_lit (lo + i)) ∧ d = some r) := by
  intro ts
  induction ts with
  | nil => intro lo h; exact Or.inr ⟨fun i hi => absurd hi (Nat.not_lt_zero _), h⟩
  | cons t ts ih =>
    intro lo h
    unfold am_sw at h
    split at h
    · rename_i hx
      exact Or.inl ⟨0, t, rfl, by simpa using hx, h⟩
    · rename_i hx
      rcases ih h with ⟨i, t', h1, h2, h3⟩ | ⟨h1, h2⟩
      · refine Or.inl ⟨i + 1, t', h1, ?_, h3⟩
        rw [h2]
        congr 1
        push_cast
        omega
      · refine Or.inr ⟨fun i hi => ?_, h2⟩
        cases i with
        | zero => simpa using hx
        | succ i =>
          have h3 := h1 i (by simpa using hi)
          have e : lo + ((i + 1 : Nat) : Int) = lo + 1 + (i : Int) := by push_cast; omega
          rw [e]
          exact h3
end SOME
/-- a step makes the memory no smaller -/
theorem am_rei_grow {ret : Option FieldType} {pc : Nat} {ins : Instr} {aux : List Nat} {L : am_Loc} {S : List Value} {μ : am_Mem} {pc' : Nat} {L' : am_Loc} {S' : List Value} {μ' : am_Mem} (h : am_rei ret pc ins aux L S μ = .inl (pc', L', S', μ')) : μ.1.length ≤ μ'.1.length ∧ am_sz μ.1 ≤ am_sz μ'.1 := by
  by_cases hno : am_noal ins aux = true
  · have key := am_step_rel (α := am_Rei) (β := am_Rei) (stuck := (.inr (.inr (.inr ())) : am_Rei)) (stuck' := (.inr (.inr (.inr ())) : am_Rei)) (fun (ρ : am_Rei) (_ : am_Rei) => ∀ pc' L' S' μ', ρ = .inl (pc', L', S', μ') → μ'.1 = μ.1) (ret := ret) (pc := pc) (ins := ins) (aux := aux) (am_leL.rf L) (S := S) (μ := μ) (next := fun pc L S μ => .inl (pc, L, S, μ)) (call := fun y a r => .inr (.inl (y, a, r))) (fin := fun v => .inr (.inr (.inl v))) (next' := fun pc L S μ => .inl (pc, L, S, μ)) (call' := fun y a r => .inr (.inl (y, a, r))) (fin' := fun v => .inr (.inr (.inl v)))
      (fun b pc' L' S' μ' q => by cases q) (fun pc1 L1 L1' S1 μ1 hl hs pc' L' S' μ' q => by cases q; exact hs hno) (fun y a t pc' L' S' μ' q => by cases q) (fun v pc' L' S' μ' q => by cases q)
    rw [key _ _ _ _ h]
    exact ⟨Nat.le_refl _, Nat.le_refl _⟩
  · unfold am_rei at h
    cases ins <;> first | exact absurd rfl hno | skip
    case new ix =>
      simp only [am_step, am_stepG] at h
      split at h
      · cases h
        exact ⟨by simp, by rw [am_sz_push]; omega⟩
      · cases h
    case newarray t =>
      simp only [am_step, am_stepG] at h
      split at h
      · unfold am_popi at h
        split at h
        · dsimp only at h
          split at h
          · cases h
          · cases h
            exact ⟨by simp, by rw [am_sz_push]; omega⟩
        · cases h
      · cases h
    case putfield ix =>
      simp only [am_step, am_stepG] at h
      split at h
      · rename_i ci j z
        rcases z with _ | _ | _ | z
        · exact absurd rfl hno
        · exact absurd rfl hno
        · unfold am_putf at h
          split at h
          · split at h
            · unfold am_obj at h
              split at h
              · split at h
                · dsimp only at h
                  split at h <;> cases h
                · cases h
              · cases h
            · cases h
          · split at h
            · unfold am_obj at h
              split at h
              · rename_i c fl hs
                split at h
                · dsimp only at h
                  split at h
                  · cases h
                    refine ⟨by simp, ?_⟩
                    rw [am_sz_set hs (by simp [am_ssz])]
                    exact Nat.le_refl _
                  · cases h
                · cases h
              · cases h
            · cases h
          · cases h
        · exact absurd rfl hno
      · cases h
/-- a run makes the memory no smaller -/
theorem am_run_grow : ∀ (n d : Nat) (mi : am_Info) (pc : Nat) (L : am_Loc) (S : List Value) (μ : am_Mem) (v : Option Value) (μf : am_Mem), am_run am_MT n d mi pc L S μ = some (v, μf) → μ.1.length ≤ μf.1.length ∧ am_sz μ.1 ≤ am_sz μf.1 := by
  intro n
  induction n with
  | zero => intro d mi pc L S μ v μf h; cases h
  | succ n ih =>
    intro d mi pc L S μ v μf h
    unfold am_run at h
    split at h
    · cases h
    · rename_i ins aux hf
      have h1 := am_ev_of h
      cases hρ : am_rei mi.2.2.2.1 pc ins aux L S μ with
      | inl q =>
        obtain ⟨pc', L', S', μ'⟩ := q
        rw [hρ] at h1
        have h2 := am_rei_grow hρ
        have h3 := ih _ _ _ _ _ _ _ _ h1
        omega
      | inr q =>
        rw [hρ] at h1
        cases q with
        | inl q =>
          obtain ⟨y, a, t⟩ := q
          simp only [am_ev] at h1
          split at h1
          · cases h1
          · split at h1
            · cases h1
            · split at h1
              · cases h1
              · rename_i v1 μ1 hv
                have h2 := ih _ _ _ _ _ _ _ _ hv
                have h3 := ih _ _ _ _ _ _ _ _ h1
                omega
        | inr q =>
          cases q with
          | inl v => cases h1; exact ⟨Nat.le_refl _, Nat.le_refl _⟩
          | inr u => cases h1

/-! the law from its entry to its end -/
theorem am_run_mono1 (MT : List am_Info) : ∀ (n m d : Nat) (mi : am_Info) (pc : Nat) (L : am_Loc) (S : List Value) (μ : am_Mem), n ≤ m → am_le (am_run MT n d mi pc L S μ) (am_run MT m d mi pc L S μ) := by
  intro n
  induction n with
  | zero => intro m d mi pc L S μ _ r h; cases h
  | succ n ih =>
    intro m d mi pc L S μ hm
    obtain ⟨m, rfl⟩ : ∃ k, m = k + 1 := ⟨m - 1, by omega⟩
    unfold am_run
    split
    · exact am_le.no _
    · rename_i ins aux hf
      refine am_step_rel am_le (am_leL.rf L) (fun b => am_le.no b) (fun pc' L1 L1' S' μ' h1 _ => ?_) (fun y a r => ?_) (fun v => am_le.rf _)
      · rw [← h1.2 rfl]
        exact ih m d mi pc' L1 S' μ' (by omega)
      · split
        · exact am_le.no _
        · split
          · exact am_le.no _
          · rename_i mj _ _ d' _
            have h2 := ih m d' mj 0 (am_entry mj.2.2.1 a) [] μ (by omega)
            split
            · exact am_le.no _
            · rename_i v μ' hv
              rw [h2 _ hv]
              exact ih m d mi (pc + 3) L _ μ' (by omega)
theorem l_longs_s {J : am_J} : ∀ (l : List Int64) (w : Nat), l_longs J w l = true → ∀ i, i < l.length → J 75 (w + i) = l.getD i 0 := by
  intro l
  induction l with
  | nil => intro w _ i hi; exact absurd hi (by simp)
  | cons y l ih =>
    intro w h i hi
    obtain ⟨h1, h2⟩ := (Bool.and_eq_true _ _).mp h
    cases i with
    | zero => exact of_decide_eq_true h1
    | succ i =>
      have := ih (w + 1) h2 i (by simpa using hi)
      rw [show w + (i + 1) = w + 1 + i by omega]
      exact this
def l_J0 : Nat → Int64 := fun w => l_words.getD w 0
/-- the memory at the law's loop -/
theorem l_init (I0 : am_I) {μ : am_Mem} (hk : ∀ c k, c < 5 → μ.2.1 c k = I0 c k) (h : l_ok2 μ = true) : μ.1 = am_SH ∧ i_I I0 l_J0 0 μ.2.1 μ.2.2 := by
  obtain ⟨h1, h2⟩ := (Bool.and_eq_true _ _).mp h
  obtain ⟨h2, h3⟩ := (Bool.and_eq_true _ _).mp h2
  have at_ : ∀ q ∈ l_ints, μ.2.1 q.1 q.2.1 = q.2.2 := fun q hq => of_decide_eq_true (List.all_eq_true.mp h2 q hq)
  have I_ : ∀ c k v, (c, k, v) ∈ l_ints → μ.2.1 c k = v := fun c k v hq => at_ (c, k, v) hq
  obtain ⟨I, hI⟩ : ∃ I, I = μ.2.1 := ⟨_, rfl⟩
  rw [← hI] at I_ hk ⊢
  refine ⟨l_sl_s _ _ h1, ?_⟩
  have ok : g_OK (x_pl x_S0) := x_pl_OK x_S0_V rfl
  have n0 : pn (x_pl x_S0) = 0 := rfl
  have c1 : ptc (x_pl x_S0) = 1 := rfl
  have gC : g_C (x_pl x_S0) I := ⟨ok, I_ 12 5 0 (by decide), I_ 12 7 1 (by decide), I_ 12 8 120 (by decide), I_ 12 9 0 (by decide), fun b hb => by rw [n0] at hb; exact absurd hb (by omega), fun b hb => by rw [n0] at hb; exact absurd hb (by omega), I_ 12 6 1 (by decide), fun i hi => by
    rw [c1] at hi
    rw [show i = 0 by omega]
    exact I_ 15 0 1 (by decide), fun I' _ d J a b _ hb => by rw [n0] at hb; exact absurd hb (by omega)⟩
  have mC : m_C (x_pl x_S0) 0 I := ⟨ok, by omega, I_ 68 18 0 (by decide), I_ 77 0 0 (by decide), I_ 82 0 1 (by decide), I_ 83 0 120 (by decide), I_ 84 0 0 (by decide), fun b hb => by rw [n0] at hb; exact absurd hb (by omega), fun b hb => by rw [n0] at hb; exact absurd hb (by omega), I_ 80 0 1 (by decide), fun i hi => by
    rw [c1] at hi
    rw [show i = 0 by omega]
    exact I_ 81 0 1 (by decide), fun I' _ d J a b x y z _ hb => by rw [n0] at hb; exact absurd hb (by omega)⟩
  have six : ∀ (c : Nat) (P : Nat → Int32 → Prop), P 0 (I c 0) → P 1 (I c 1) → P 2 (I c 2) → P 3 (I c 3) → P 4 (I c 4) → P 5 (I c 5) → ∀ b, b < 6 → P b (I c b) := fun c P p0 p1 p2 p3 p4 p5 b hb => by
    rcases (show b = 0 ∨ b = 1 ∨ b = 2 ∨ b = 3 ∨ b = 4 ∨ b = 5 by omega) with rfl | rfl | rfl | rfl | rfl | rfl <;> assumption
  have z35 : ∀ b, b < 6 → I 35 b = 0 := six 35 (fun _ x => x = 0) (I_ 35 0 0 (by decide)) (I_ 35 1 0 (by decide)) (I_ 35 2 0 (by decide)) (I_ 35 3 0 (by decide)) (I_ 35 4 0 (by decide)) (I_ 35 5 0 (by decide))
  have z36 : ∀ b, b < 6 → I 36 b = 0 := six 36 (fun _ x => x = 0) (I_ 36 0 0 (by decide)) (I_ 36 1 0 (by decide)) (I_ 36 2 0 (by decide)) (I_ 36 3 0 (by decide)) (I_ 36 4 0 (by decide)) (I_ 36 5 0 (by decide))
  have z37 : ∀ b, b < 6 → I 37 b = 0 := six 37 (fun _ x => x = 0) (I_ 37 0 0 (by decide)) (I_ 37 1 0 (by decide)) (I_ 37 2 0 (by decide)) (I_ 37 3 0 (by decide)) (I_ 37 4 0 (by decide)) (I_ 37 5 0 (by decide))
  have z38 : ∀ b, b < 6 → I 38 b = nI b := six 38 (fun b x => x = nI b) (I_ 38 0 0 (by decide)) (I_ 38 1 1 (by decide)) (I_ 38 2 2 (by decide)) (I_ 38 3 3 (by decide)) (I_ 38 4 4 (by decide)) (I_ 38 5 5 (by decide))
  have z39 : ∀ b, b < 6 → I 39 b = 0 := six 39 (fun _ x => x = 0) (I_ 39 0 0 (by decide)) (I_ 39 1 0 (by decide)) (I_ 39 2 0 (by decide)) (I_ 39 3 0 (by decide)) (I_ 39 4 0 (by decide)) (I_ 39 5 0 (by decide))
  have t97 : ∀ k, k < 34 → (97, k, if 24 ≤ k ∧ k < 30 then nI (k - 24) else 0) ∈ l_ints := by decide
  have v97 : ∀ k, k < 34 → I 97 k = if 24 ≤ k ∧ k < 30 then nI (k - 24) else 0 := fun k hk => I_ 97 k _ (t97 k hk)
  have r7 := I_ 34 7 0 (by decide)
  have r8 := I_ 34 8 0 (by decide)
  have r9 := I_ 34 9 0 (by decide)
  have r10 := I_ 34 10 0 (by decide)
  have gat : g_at (g_row I 34) := ⟨0, by omega, r8⟩
  have gd : g_Gd (x_pl x_S0) I 0 (g_row I 34) := by
    refine ⟨gat, ?_, Or.inl r10, fun b hb => by rw [n0] at hb; exact absurd hb (by omega), fun b hb => by rw [n0] at hb; exact absurd hb (by omega), ⟨?_, ?_⟩, fun b hb => (g_row_s hb).symm, fun b hb => ?_, fun k hk => ?_⟩
    · rw [show g_row I 34 30 = 0 from r7]
      decide
    · rw [show g_row I 34 32 = 0 from r9]; decide
    · rw [show g_row I 34 32 = 0 from r9]; decide
    · rw [g_row_m hb, g_row_l hb]
    · unfold g_row
      rw [if_neg (by omega), if_neg (by omega), if_neg (by omega), if_neg (by omega), if_neg (by omega), if_neg (by omega), if_neg (by omega), if_neg (by omega), if_neg (by omega)]
  have gR : g_R (x_pl x_S0) (g_row I 34) (I 97) := by
    intro k h1 h2
    rw [v97 k h1]
    by_cases a1 : k < 6
    · rw [g_row_l a1, z35 k a1, if_neg (by omega)]
    by_cases a2 : k < 12
    · rw [show k = 6 + (k - 6) by omega, g_row_r (by omega), z36 _ (by omega), if_neg (by omega)]
    by_cases a3 : k < 18
    · exact absurd ⟨by rw [n0]; omega, a3⟩ h2
    by_cases a4 : k < 24
    · rw [show k = 18 + (k - 18) by omega, g_row_e (by omega), z37 _ (by omega), if_neg (by omega)]
    by_cases a5 : k < 30
    · rw [if_pos ⟨by omega, a5⟩]
      have := g_row_s (I := I) (q := 34) (b := k - 24) (by omega)
      rw [show 24 + (k - 24) = k by omega] at this
      rw [this, z38 _ (by omega)]
    · rw [if_neg (by omega)]
      rcases (show k = 30 ∨ k = 31 ∨ k = 32 ∨ k = 33 by omega) with rfl | rfl | rfl | rfl
      · exact r7
      · exact r8
      · exact r9
      · exact r10
  have s3 : ∀ (c : Nat), I c 0 = 0 → I c 1 = 0 → I c 2 = 0 → ∀ s, s < 3 → I c s = 0 := fun c p0 p1 p2 s hs => by
    rcases (show s = 0 ∨ s = 1 ∨ s = 2 by omega) with rfl | rfl | rfl <;> assumption
  have z67 := s3 67 (I_ 67 0 0 (by decide)) (I_ 67 1 0 (by decide)) (I_ 67 2 0 (by decide))
  have z110 := s3 110 (I_ 110 0 0 (by decide)) (I_ 110 1 0 (by decide)) (I_ 110 2 0 (by decide))
  refine ⟨x_pl x_S0, 0, g_row I 34, 0, 0, 0, 0, ⟨gC, mC, rfl, ⟨gat, Or.inl r10, I_ 34 6 (-1) (by decide), z39⟩, gd, gR⟩, ⟨I_ 63 2 0 (by decide), I_ 68 50 0 (by decide), by omega, I_ 63 1 0 (by decide), by omega, fun i hi => absurd hi (by omega)⟩, fun s hs => ⟨(z67 s hs).trans (z110 s hs).symm, Or.inl (z67 s hs)⟩, ⟨I_ 53 5 0 (by decide), I_ 68 62 0 (by decide), by omega, fun _ => 0, fun _ => 0, fun j hj => absurd hj (by omega)⟩, ⟨I_ 6 1 0 (by decide), I_ 68 2 0 (by decide), by omega, fun j hj => absurd hj (by omega)⟩, (I_ 32 6 (-1) (by decide)).trans (I_ 68 17 (-1) (by decide)).symm, ⟨Or.inl (I_ 40 8 (-1) (by decide)), Or.inl (I_ 40 13 (-1) (by decide))⟩, fun c k hc => hk c k (by omega), fun k hk' => ?_⟩
  have := l_longs_s l_words 0 h3 k hk'
  rw [Nat.zero_add] at this
  exact this
theorem l_wf : am_wf am_olds := ⟨[], by simp, fun s hs => absurd hs (by simp)⟩
theorem l_goal {L : Nat} (hL : L ≤ 3072) {I0 : am_I} (h0 : I0 0 4096 = nI L) (hst : x_stc I0) (hW : x_W (I0 4) l_J0) : ∃ (n : Nat) (μf : am_Mem), am_run am_MT n 12 am_m227 0 (am_entry 4 [.ref 0]) [] (am_olds, I0, fun _ _ => 0) = some (some (.int 1), μf) ∧ μf.1 = am_SH := by
  have ok := l_ok_all I0
  unfold l_ok at ok
  cases e1 : l_r1 I0 with
  | none => rw [e1] at ok; cases ok
  | some r1 =>
    obtain ⟨v1, μ1⟩ := r1
    rw [e1] at ok
    cases v1 with
    | some v => cases ok
    | none =>
      obtain ⟨ok1, ok⟩ := (Bool.and_eq_true _ _).mp ok
      have sh1 : μ1.1 = am_SH.take 68 := l_sl_s _ _ ok1
      have len1 : μ1.1.length = 68 := by rw [sh1]; decide
      cases e2 : l_r2 μ1 with
      | none => rw [e2] at ok; cases ok
      | some r2 =>
        obtain ⟨v2, μ2⟩ := r2
        rw [e2] at ok
        cases v2 with
        | some v => cases ok
        | none =>
          have wa : am_wf (l_ma I0).1 := l_wf.push (fun t n e => by cases e)
          obtain ⟨wf1, k1⟩ := am_run_keep am_MT _ _ _ _ _ _ _ wa _ _ e1
          have wb : am_wf (l_mb μ1).1 := wf1.push (fun t n e => by cases e)
          obtain ⟨wf2, k2⟩ := am_run_keep am_MT _ _ _ _ _ _ _ wb _ _ e2
          have hk : ∀ c k, c < 5 → μ2.2.1 c k = I0 c k := fun c k hc => by
            rw [k2 c k hc, show (l_mb μ1).2.1 c k = μ1.2.1 c k from if_neg (by rw [len1]; omega), k1 c k hc]
            exact if_neg (by omega)
          obtain ⟨sh2, iI⟩ := l_init I0 hk ok
          obtain ⟨If, Jf, hf⟩ := l_loop hst hW hL h0 512 0 0 μ2.2.1 μ2.2.2 (by omega) (by omega) iI (by omega) (by omega)
          obtain ⟨n, hn⟩ := am_R_to hf
          have run := am_run2_run _ _ _ _ _ _ _ _ _ _ _ _ _ hn
          obtain ⟨N, eN⟩ : ∃ N, N = n + 2000 := ⟨_, rfl⟩
          have run' : am_run am_MT N 12 am_m227 18 [some (.ref 0), some (.ref 5), some (.ref 68), some (.int (nI 0))] [] μ2 = some (some (.int 1), (am_SH, If, Jf)) := by
            have := am_run_mono1 am_MT n N 12 am_m227 18 _ _ _ (by omega) _ run
            rw [← sh2] at this
            rw [← sh2]
            exact this
          have E1 : ∀ m, 2000 ≤ m → am_run am_MT m 12 am_m96 0 (am_entry 1 [.ref 5]) [] (l_ma I0) = some (none, μ1) := fun m hm => am_run_mono1 am_MT 2000 m 12 am_m96 0 _ _ _ hm _ e1
          have E2 : ∀ m, 2000 ≤ m → am_run am_MT m 12 am_m135 0 (am_entry 2 [.ref 68]) [] (l_mb μ1) = some (none, μ2) := fun m hm => am_run_mono1 am_MT 2000 m 12 am_m135 0 _ _ _ hm _ e2
          refine ⟨N + 10, (am_SH, If, Jf), ?_, rfl⟩
          have s0 : am_run am_MT (N + 10) 12 am_m227 0 (am_entry 4 [.ref 0]) [] (am_olds, I0, fun _ _ => 0) = am_run am_MT (N + 9) 12 am_m227 3 [some (.ref 0), none, none, none] [.ref 5] (l_ma I0) := rfl
          have s3 : am_run am_MT (N + 9) 12 am_m227 3 [some (.ref 0), none, none, none] [.ref 5] (l_ma I0) = am_run am_MT (N + 8) 12 am_m227 4 [some (.ref 0), none, none, none] [.ref 5, .ref 5] (l_ma I0) := rfl
          have s4 : am_run am_MT (N + 8) 12 am_m227 4 [some (.ref 0), none, none, none] [.ref 5, .ref 5] (l_ma I0) = (match am_run am_MT (N + 7) 12 am_m96 0 (am_entry 1 [.ref 5]) [] (l_ma I0) with
            | none => none
            | some (v, μ') => am_run am_MT (N + 7) 12 am_m227 7 [some (.ref 0), none, none, none] (v.toList ++ [.ref 5]) μ') := rfl
          have s7 : am_run am_MT (N + 7) 12 am_m227 7 [some (.ref 0), none, none, none] [.ref 5] μ1 = am_run am_MT (N + 6) 12 am_m227 8 [some (.ref 0), some (.ref 5), none, none] [] μ1 := rfl
          have s8 : am_run am_MT (N + 6) 12 am_m227 8 [some (.ref 0), some (.ref 5), none, none] [] μ1 = am_run am_MT (N + 5) 12 am_m227 11 [some (.ref 0), some (.ref 5), none, none] [.ref μ1.1.length] (l_mb μ1) := rfl
          have s11 : am_run am_MT (N + 5) 12 am_m227 11 [some (.ref 0), some (.ref 5), none, none] [.ref 68] (l_mb μ1) = am_run am_MT (N + 4) 12 am_m227 12 [some (.ref 0), some (.ref 5), none, none] [.ref 68, .ref 68] (l_mb μ1) := rfl
          have s12 : am_run am_MT (N + 4) 12 am_m227 12 [some (.ref 0), some (.ref 5), none, none] [.ref 68, .ref 68] (l_mb μ1) = am_obj (l_mb μ1).1 68 10 (fun _ => match am_run am_MT (N + 3) 12 am_m135 0 (am_entry 2 [.ref 68]) [] (l_mb μ1) with
            | none => none
            | some (v, μ') => am_run am_MT (N + 3) 12 am_m227 15 [some (.ref 0), some (.ref 5), none, none] (v.toList ++ [.ref 68]) μ') none := rfl
          have s15 : am_run am_MT (N + 3) 12 am_m227 15 [some (.ref 0), some (.ref 5), none, none] [.ref 68] μ2 = am_run am_MT (N + 2) 12 am_m227 16 [some (.ref 0), some (.ref 5), some (.ref 68), none] [] μ2 := rfl
          have s16 : am_run am_MT (N + 2) 12 am_m227 16 [some (.ref 0), some (.ref 5), some (.ref 68), none] [] μ2 = am_run am_MT (N + 1) 12 am_m227 17 [some (.ref 0), some (.ref 5), some (.ref 68), none] [.int (nI 0)] μ2 := rfl
          have s17 : am_run am_MT (N + 1) 12 am_m227 17 [some (.ref 0), some (.ref 5), some (.ref 68), none] [.int (nI 0)] μ2 = am_run am_MT N 12 am_m227 18 [some (.ref 0), some (.ref 5), some (.ref 68), some (.int (nI 0))] [] μ2 := rfl
          have ob : (l_mb μ1).1[68]? = some (.inr (10, l_b10)) := by
            show (μ1.1 ++ [.inr (10, l_b10)])[68]? = _
            rw [List.getElem?_append_right (by omega), len1]
            rfl
          rw [s0, s3, s4, E1 _ (by omega)]
          show am_run am_MT (N + 7) 12 am_m227 7 [some (.ref 0), none, none, none] [.ref 5] μ1 = _
          rw [s7, s8, len1, s11, s12]
          unfold am_obj
          rw [ob]
          show (if (10 : Nat) = 10 then (match am_run am_MT (N + 3) 12 am_m135 0 (am_entry 2 [.ref 68]) [] (l_mb μ1) with
            | none => none
            | some (v, μ') => am_run am_MT (N + 3) 12 am_m227 15 [some (.ref 0), some (.ref 5), none, none] (v.toList ++ [.ref 68]) μ') else none) = _
          rw [if_pos rfl, E2 _ (by omega)]
          show am_run am_MT (N + 3) 12 am_m227 15 [some (.ref 0), some (.ref 5), none, none] [.ref 68] μ2 = _
          rw [s15, s16, s17, run']

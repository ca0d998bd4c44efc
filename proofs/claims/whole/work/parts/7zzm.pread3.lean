/-! read, both -/
def i_pair2 (I0 : am_I) (J0 : Nat → Int64) (fo fm : am_I → am_J → am_Out) : Prop := ∀ (B : Int) (I : am_I) (J : am_J), 0 ≤ B → B ≤ 900000 → i_I I0 J0 B I J → ∃ y I1 I2 J2, fo I J = some (some (.int y), I1, J) ∧ fm I1 J = some (some (.int y), I2, J2) ∧ (∀ k, I1 0 k = I 0 k) ∧ i_I I0 J0 (B + 999) I2 J2
theorem i_pair.to {fo fm : am_I → am_J → am_Out} (h : i_pair fo fm) (I0 : am_I) (J0 : Nat → Int64) : i_pair2 I0 J0 fo fm := fun B I J h1 h2 h3 => h I0 J0 B I J h1 h2 h3
theorem g_out_at {p : g_Plan} (hn : pn p ≤ 6) {k : Nat} (h1 : 6 ≤ k) (h2 : k < 24 ∨ 30 ≤ k) : g_out p k = 0 := by
  unfold g_out
  rw [if_neg (by omega), if_neg (by omega)]
theorem p_read (e : Nat) {I0 : am_I} {J0 : Nat → Int64} (hst0 : x_stc I0) (hW0 : x_W (I0 4) J0) : i_pair2 I0 J0 (f_oc_read_0 (e + 7)) (f_m_read_0 (e + 7)) := by
  intro B I J hB hB2 ⟨p, v, r, u, nx, w, n, hA⟩
  have hA0 := hA
  obtain ⟨⟨gC, mC, hrow, hNP, hGd, hR⟩, hU, hS, hW, ⟨t1, t2, t3, t4⟩, hF, hG, hK1, hK2⟩ := hA
  have hv := mC.2.1
  have h18 := mC.2.2.1
  have stI : x_stc I := by
    obtain ⟨⟨s1, s2, s3⟩, ⟨s4, s5, s6⟩, s7, s8, s9⟩ := hst0
    exact ⟨⟨(hK1 1 0 (by omega)).trans s1, (hK1 1 1 (by omega)).trans s2, (hK1 1 2 (by omega)).trans s3⟩, ⟨(hK1 2 0 (by omega)).trans s4, (hK1 2 1 (by omega)).trans s5, (hK1 2 2 (by omega)).trans s6⟩, (hK1 3 0 (by omega)).trans s7, (hK1 3 1 (by omega)).trans s8, (hK1 3 2 (by omega)).trans s9⟩
  have e4 : I 4 = I0 4 := funext fun k => hK1 4 k (by omega)
  have hWJ : x_W (I 4) (J 75) := by rw [e4]; exact hW0.k hK2
  obtain ⟨N, y, Ia, I1, a1, xN, xc, x8, x10, x11, fin, fr1⟩ := c_readText e n t3 I J t1
  have b := b_oc_read_0 (e + 7) I J
  rw [a1, am_bi_i] at b
  obtain ⟨Ib, ib⟩ : ∃ Ib, Ib = am_upd I1 6 1 (0 : Int32) := ⟨_, rfl⟩
  rw [← ib] at b
  have kb : ∀ c k, (c ≠ 6 ∨ k ≠ 1) → Ib c k = I1 c k := fun c k h => by rw [ib]; exact h.elim am_uc am_uk
  have frb : ∀ c k, c ∉ ([8, 9, 10, 11, 22, 23, 24, 25, 26, 27, 28, 31, 32, 33] : List Nat) → (c ≠ 6 ∨ k ≠ 1) → Ib c k = I c k := fun c k h1 h2 => (kb c k h2).trans (fr1 c k h1)
  have hBy : ∀ j, j < n → I 69 j = I 7 j ∧ (I 7 j).toInt8.toInt32 = I 7 j := fun j hj => by
    obtain ⟨q1, q2⟩ := t4 j hj
    exact ⟨q1.symm, by rw [q1]; exact q2⟩
  -- the reference on any memory of the class that leaves its own alone
  have ref : ∀ (Ic : am_I), (∀ c k, 68 ≤ c → Ic c k = I c k) → ∃ I' J', (∀ r, f_m_read_134 (e + 7) I' J' = some r → f_m_read_0 (e + 7) Ic J = some r) ∧ r_fin (Ia 10) (1 - v) I' J' (x_text (Ia 8) (Ia 9) (x_smb (I 7) n N) 401 x_S0 0) ∧ I' 68 2 = 0 ∧ I' 68 19 = nI (1 - v) ∧ (∀ c k, c ≠ 74 → c ≠ 76 → J' c k = J c k) ∧ ∀ c k, r_rs (1 - v) c k → I' c k = Ic c k := fun Ic hIc =>
    r_readText (e + 7) t3 hv (W := I 4) (B := I 7) (Ic := Ia) ((hIc 68 2 (Nat.le_refl _)).trans t2) ((hIc 68 18 (Nat.le_refl _)).trans h18) (fun j hj => ⟨(hIc 69 j (by omega)).trans (hBy j hj).1, (hBy j hj).2⟩) hWJ xN xc x8 x10 x11
  have toFF : ∀ (Ic I' I'' : am_I), (∀ c k, c ∉ ([8, 9, 10, 11, 22, 23, 24, 25, 26, 27, 28, 31, 32, 33] : List Nat) → (c ≠ 6 ∨ k ≠ 1) → Ic c k = I c k) → (∀ c k, r_rs (1 - v) c k → I' c k = Ic c k) → (∀ c k, (c ≠ 68 ∨ k ≠ 17) → I'' c k = I' c k) → ∀ c k, q_ff (1 - v) c k → I'' c k = I c k := fun Ic I' I'' h1 h2 h3 c k ⟨g1, g2, g3, g4⟩ => by
    have n1 : c ∉ ([8, 9, 10, 11, 22, 23, 24, 25, 26, 27, 28, 31, 32, 33] : List Nat) := fun q => g1 ((show ∀ c ∈ ([8, 9, 10, 11, 22, 23, 24, 25, 26, 27, 28, 31, 32, 33] : List Nat), c ∈ q_L by decide) c q)
    have n2 : c ∉ ([70, 71, 72, 73] : List Nat) := fun q => g1 ((show ∀ c ∈ ([70, 71, 72, 73] : List Nat), c ∈ q_L by decide) c q)
    rw [h3 c k (g3.imp id (fun q w => q (by rw [w]; exact List.mem_cons_self))), h2 c k ⟨n2, g3.imp id (fun q w => q (List.mem_cons_of_mem _ w)), g4⟩, h1 c k n1 g2]
  have hib : ∀ c k, 68 ≤ c → Ib c k = I c k := fun c k hc => frb c k (by simp; omega) (Or.inl (by omega))
  -- a fault, told alike
  have faulted : ∀ (y : Int32) (x : Int32) (I' : am_I) (J' : am_J), (∀ c k, r_rs (1 - v) c k → I' c k = Ib c k) → I' 68 2 = 0 → (∀ c k, c ≠ 74 → c ≠ 76 → J' c k = J c k) → I1 32 6 = x → i_I I0 J0 (B + 999) (am_upd I' 68 17 x) J' := fun y x I' J' g1 g2 g3 g4 => by
    have k3 : ∀ c k, (c ≠ 68 ∨ k ≠ 17) → am_upd I' 68 17 x c k = I' c k := fun c k h => h.elim am_uc am_uk
    have lo : ∀ c k, c < 68 → r_rs (1 - v) c k := fun c k hc => ⟨by simp; omega, Or.inl (by omega), q_rf (Or.inl hc)⟩
    refine ⟨p, v, r, u, nx, w, 0, (q_faulted hA0 (toFF Ib I' _ frb g1 k3) (fun k => g3 75 k (by decide) (by decide)) ?_ ?_ ?_).up (by omega)⟩
    · rw [k3 6 1 (Or.inl (by decide)), g1 6 1 (lo 6 1 (by decide)), ib, am_ue]
    · rw [k3 68 2 (Or.inr (by decide))]; exact g2
    · rw [am_ue, k3 32 6 (Or.inl (by decide)), g1 32 6 (lo 32 6 (by decide)), kb 32 6 (Or.inl (by decide)), g4]
  have b0 : ∀ k, Ib 0 k = I 0 k := fun k => frb 0 k (by decide) (Or.inl (by decide))
  obtain ⟨I', J', r1, r2, r3, r4, r5, r6⟩ := ref Ib hib
  have bm := b_m_read_134 (e + 7) I' J'
  cases hT : x_text (Ia 8) (Ia 9) (x_smb (I 7) n N) 401 x_S0 0 with
  | mk st S =>
    rw [hT] at fin
    cases st with
    | inl f =>
      obtain ⟨f, a⟩ := f
      rw [hT] at r2
      obtain ⟨y1, y2, y3⟩ := fin
      obtain ⟨z1, z2, z3⟩ := r2
      have fn : f ≠ 0 ∧ ¬ f ≤ 0 := by rcases y2 with h | h <;> rw [h] <;> decide
      rw [y1, if_neg fn.1] at b
      rw [z2, z3, if_neg fn.2, am_uk (show 13 ≠ 17 by decide), z2, if_neg fn.2] at bm
      exact ⟨f, Ib, am_upd I' 68 17 (Ia 10 a), J', b _ rfl, r1 _ (bm _ rfl), b0, faulted f _ I' J' r6 r3 r5 y3⟩
    | inr t =>
      have r2' := r2
      rw [hT] at r2
      obtain ⟨y1, y2, z, y3, y4, y5⟩ := fin
      obtain ⟨z1, z2, z3, z0, nb, z4, z5, z6, z7, z8⟩ := r2
      have hP := x_text_P (K := Ia 8) (V := Ia 9) (Sm := x_smb (I 7) n N) 401 x_S0 0 (Or.inl rfl)
      rw [hT] at hP
      by_cases s0 : S.2.2.2.2.1 = 0
      · -- the text is in place
        have hV := x_text_V (Sm := x_smb (I 7) n N) (x_V_nn xN.2.1 xc x8) 401 x_S0 0 t (fun j hj => absurd hj (by omega)) (fun q hq => absurd hq (by simp [x_S0])) x_S0_V (by rw [hT])
        rw [hT] at hV
        have hV' : x_VS S := hV
        have stb : x_stc Ib := by
          obtain ⟨⟨s1, s2, s3⟩, ⟨s4, s5, s6⟩, s7, s8, s9⟩ := stI
          exact ⟨⟨(frb 1 0 (by decide) (Or.inl (by decide))).trans s1, (frb 1 1 (by decide) (Or.inl (by decide))).trans s2, (frb 1 2 (by decide) (Or.inl (by decide))).trans s3⟩, ⟨(frb 2 0 (by decide) (Or.inl (by decide))).trans s4, (frb 2 1 (by decide) (Or.inl (by decide))).trans s5, (frb 2 2 (by decide) (Or.inl (by decide))).trans s6⟩, (frb 3 0 (by decide) (Or.inl (by decide))).trans s7, (frb 3 1 (by decide) (Or.inl (by decide))).trans s8, (frb 3 2 (by decide) (Or.inl (by decide))).trans s9⟩
        have Cb : c_C S z Ib := by
          obtain ⟨C1, ⟨C2, C3, C4⟩, C5, C6⟩ := y5
          exact ⟨C1.k (fun c k hc => kb c k (Or.inl (by omega))), ⟨(kb 22 7 (Or.inl (by decide))).trans C2, (kb 22 8 (Or.inl (by decide))).trans C3, (kb 22 9 (Or.inl (by decide))).trans C4⟩, C5.k (fun c k hc => kb c k (Or.inl (by omega))), C6.k (fun k => kb 31 k (Or.inl (by decide))) (fun c k hc _ => kb c k (Or.inl (by omega))) (Nat.le_refl _)⟩
        obtain ⟨Id, d1, d2, d3, d4, d5, d6, d7, d8, d9, d10, d11, d12⟩ := c_anew (e + 7) J hV' s0 stb y3 ((kb 26 4 (Or.inl (by decide))).trans y4) Cb
        rw [y1, s0, if_pos rfl] at b
        have run1 : f_oc_read_0 (e + 7) I J = some (some (.int 0), Id, J) := b _ d1
        have hid : ∀ c k, 68 ≤ c → Id c k = I c k := fun c k hc => (d12 c k (by simp; omega)).trans (hib c k hc)
        obtain ⟨I2, J2, m1, m2, m3, m4, m5, m6⟩ := ref Id hid
        rw [hT] at m2
        obtain ⟨w1, w2, w3, zz, nbb, w4, w5, w6, w7, w8⟩ := m2
        obtain ⟨I3, n1, n2, n3, n4, n5, n6, n7, n8⟩ := r_anew (e + 7) J2 (show 1 - v < 2 by omega) hV' s0 w5 w7 w8 w1 (by rw [w2]; exact s0) m4
        have lo : ∀ c k, c < 68 → I3 c k = Id c k := fun c k hc => by
          rw [n8 c k (by simp; omega) (Or.inl (by omega)), m6 c k ⟨by simp; omega, Or.inl (by omega), q_rf (Or.inl hc)⟩]
        have hn6 := d2.1.1
        have gC3 : g_C (x_pl S) I3 := d2.keep (fun c k hc => lo c k ((show ∀ c ∈ ([1, 2, 3, 12, 13, 14, 15, 16, 17, 18, 21] : List Nat), c < 68 by decide) c hc))
        have row3 : g_row I3 34 = g_row Id 34 := g_rk_now (fun c k hc => lo c k ((show ∀ c ∈ ([13, 34, 35, 36, 37, 38] : List Nat), c < 68 by decide) c hc))
        have R3 : ∀ k, ¬ (12 + pn (x_pl S) ≤ k ∧ k < 18) → k < 34 → g_row I3 34 k = g_out (x_pl S) k := fun k q1 q2 => by rw [row3]; exact d3 k q1 q2
        have at31 : g_row I3 34 31 = 0 := (R3 31 (by omega) (by omega)).trans (g_out_at hn6 (by omega) (by omega))
        have at30 : g_row I3 34 30 = 0 := (R3 30 (by omega) (by omega)).trans (g_out_at hn6 (by omega) (by omega))
        have at32 : g_row I3 34 32 = 0 := (R3 32 (by omega) (by omega)).trans (g_out_at hn6 (by omega) (by omega))
        have at33 : g_row I3 34 33 = 0 := (R3 33 (by omega) (by omega)).trans (g_out_at hn6 (by omega) (by omega))
        have gat : g_at (g_row I3 34) := ⟨0, by omega, at31⟩
        have mvb : ∀ b, b < pn (x_pl S) → g_row I3 34 b = pmv (x_pl S) b := fun b hb => by
          rw [R3 b (by omega) (by omega)]
          unfold g_out
          rw [if_pos hb]
        have gd : g_Gd (x_pl S) I3 (B + 999) (g_row I3 34) := by
          refine ⟨gat, ?_, Or.inl at33, g_capO _ _ d2.1 (fun b hb => Or.inl (mvb b hb)), fun b hb => ⟨?_, ?_⟩, ⟨?_, ?_⟩, fun b hb => (g_row_s hb).symm, fun b hb => ?_, fun k hk => ?_⟩
          · rw [at30]
            have := d2.1.2.2.1.1
            exact Int32.le_iff_toInt_le.mpr (show (0 : Int32).toInt ≤ (pck (x_pl S)).toInt by rw [show (0 : Int32).toInt = 0 from rfl]; omega)
          · rw [mvb b hb]
            exact (d2.1.2.2.2.2.2.2.2.2.1 b hb).1
          · rw [R3 (18 + b) (by omega) (by omega), g_out_at hn6 (by omega) (by omega)]
            decide
          · rw [at32, show (0 : Int32).toInt = 0 from rfl]; omega
          · rw [at32, show (0 : Int32).toInt = 0 from rfl]; omega
          · rw [g_row_m hb, g_row_l hb]
          · unfold g_row
            rw [if_neg (by omega), if_neg (by omega), if_neg (by omega), if_neg (by omega), if_neg (by omega), if_neg (by omega), if_neg (by omega), if_neg (by omega), if_neg (by omega)]
        refine ⟨0, Id, I3, J2, run1, m1 _ n1, fun k => ?_, x_pl S, 1 - v, g_row I3 34, 0, 0, 0, 0, ⟨gC3, n2, rfl, ⟨gat, Or.inl ?_, ?_, fun b hb => ?_⟩, gd, fun k q1 q2 => ?_⟩, ⟨?_, n5, by omega, ?_, by omega, fun i hi => absurd hi (by omega)⟩, fun s hs => ⟨?_, Or.inl ?_⟩, ⟨?_, n6, by omega, fun _ => 0, fun _ => 0, fun j hj => absurd hj (by omega)⟩, ⟨?_, ?_, by omega, fun j hj => absurd hj (by omega)⟩, ?_, ⟨Or.inl ?_, Or.inl ?_⟩, fun c k hc => ?_, fun k hk => (m5 75 k (by decide) (by decide)).trans (hK2 k hk)⟩
        · rw [d12 0 k (by decide)]; exact b0 k
        · rw [lo 34 10 (by decide)]
          have := at33
          rw [row3] at this
          exact this
        · rw [lo 34 6 (by decide)]; exact d4
        · rw [lo 39 b (by decide)]; exact d5 b hb
        · rw [R3 k q2 q1]; exact n3 k q1 q2
        · rw [lo 63 2 (by decide)]; exact d9
        · rw [lo 63 1 (by decide)]; exact d8
        · rw [lo 67 s (by decide), d10 s hs, n7 s hs]
        · rw [lo 67 s (by decide)]; exact d10 s hs
        · rw [lo 53 5 (by decide)]; exact d11
        · rw [lo 6 1 (by decide), d12 6 1 (by decide), ib, am_ue]; rfl
        · rw [n8 68 2 (by decide) (Or.inr (by decide)), m3]; rfl
        · rw [lo 32 6 (by decide), d12 32 6 (by decide), kb 32 6 (Or.inl (by decide)), y2, if_pos s0, n4]
        · rw [lo 40 8 (by decide)]; exact d6
        · rw [lo 40 13 (by decide)]; exact d7
        · rw [lo c k (by omega), d12 c k (by simp; omega), frb c k (by simp; omega) (Or.inl (by omega))]
          exact hK1 c k hc
      · -- a slip
        have pos : ¬ S.2.2.2.2.1 ≤ 0 := Int32.not_le.mpr (hP.resolve_left s0)
        rw [y1, if_neg s0] at b
        rw [z1, if_pos (show (0 : Int32) ≤ 0 by decide), z2, if_neg pos, z3 s0, am_uk (show 13 ≠ 17 by decide), z1, if_pos (show (0 : Int32) ≤ 0 by decide), am_uk (show 15 ≠ 17 by decide), z2, if_neg pos] at bm
        rw [if_neg s0] at y2
        exact ⟨_, Ib, _, J', b _ rfl, r1 _ (bm _ rfl), b0, faulted 0 _ I' J' r6 r3 r5 y2⟩

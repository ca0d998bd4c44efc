/-! how many bits -/
def g_pc (m : Nat) : Nat := m % 2 + m / 2 % 2 + m / 4 % 2 + m / 8 % 2 + m / 16 % 2 + m / 32 % 2
theorem s_bitCount (d m : Nat) (I : am_I) (J : am_J) (hm : m < 64) : f_i_bitCount_0 d (nI m) I J = some (some (.int (nI (g_pc m))), I, J) := by
  refine b_i_bitCount_0 d (nI m) I J _ ?_
  refine congrArg (fun v : Int32 => (some (some (.int v), I, J) : am_Out)) ?_
  revert hm
  revert m
  decide +kernel
theorem s_guide_areOpen (d : Nat) (m : Int32) (p : g_Plan) (I : am_I) (J : am_J) (hC : g_C p I) : f_guide_areOpen_0 d m I J = some (some (.int (am_tf (g_aop (g_row I 34) m (pn p) 0 = true))), I, J) :=
  b_guide_areOpen_0 d m I J _ (s_guide_areOpen2 d m p I J hC (pn p) 0 (by omega))
theorem s_guide_letGoAll (d : Nat) (m : Int32) (p : g_Plan) (I : am_I) (J : am_J) (hC : g_C p I) : ∃ I', f_guide_letGoAll_0 d m I J = some (none, I', J) ∧ g_row I' 47 = g_lga p m (pn p) 0 (g_row I 47) ∧ ∀ c k, (c ≠ 47 ∨ k < 7 ∨ 10 < k) → c ≠ 50 → I' c k = I c k := by
  obtain ⟨I', a, r, k⟩ := s_guide_letGoAll2 d m p J (pn p) 0 I (by omega) hC
  exact ⟨I', b_guide_letGoAll_0 d m I J _ a, r, k⟩

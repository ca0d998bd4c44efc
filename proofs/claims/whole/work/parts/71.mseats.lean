/-! the reference's best seats -/
theorem g_seat_at (p : g_Plan) (c : Nat) (hd : g_dg c 0 < 6) : g_at (g_seat p c) := ⟨g_dg c 0, hd, by unfold g_seat; rw [g_set_e]⟩
theorem g_0ck {p : g_Plan} (h : g_OK p) : (0 : Int32) ≤ pck p := Int32.le_iff_toInt_le.mpr (by have := h.2.2.1; rw [show (0 : Int32).toInt = 0 from rfl]; omega)
theorem s_m_seatsBy36 (d rule i v : Nat) (p : g_Plan) (J : am_J) (hr : rule < 4) (hi : i < ptc p) (h1 : 1 ≤ pn p) : ∀ f c bc w (first : Bool) (I : am_I), 0 < f → m_C p v I → g_all (pn p) f c = true → (∀ i, i < pn p → I 106 i = nI (g_dg c i)) → (first = false → ∀ i, i < pn p → I 107 i = nI (g_dg bc i)) → ∃ I', f_m_seatsBy_36 d (nI rule) (nI i) (if first = true then 1 else 0) 1 w I J = some (some (.int (g_sf p rule (pth p i) f c first (w, bc)).1), I', J) ∧ (∀ k, k < pn p → I' 107 k = nI (g_dg (g_sf p rule (pth p i) f c first (w, bc)).2 k)) ∧ ∀ a k, m_G2 a k → I' a k = I a k := by
  intro f
  induction f with
  | zero => intro c bc w first I h0; omega
  | succ f ih =>
    intro c bc w first I _ hC hall hI hbc
    have hn := hC.1.1
    obtain ⟨hd, hnext⟩ := g_all_s hall
    have hd6 : ∀ k, k < 6 → g_dg c k < 6 := fun k hk => (hd k hk).1
    have base := b_m_seatsBy_36 d (nI rule) (nI i) (if first = true then 1 else 0) 1 w I J
    obtain ⟨I1, a1, r1, l1, h49, C1, k1⟩ := s_m_begins0 d v p I J 63 hC
    have hI1 : ∀ i, i < pn p → I1 106 i = nI (g_dg c i) := fun i hi => by rw [k1 106 i ⟨by decide, Or.inl (by decide)⟩, hI i hi]
    obtain ⟨I2, r2, k2, go2⟩ := s_m_seatsBy50 d rule i v c p J (if first = true then 1 else 0) w hd6 (pn p) 0 I1 (by omega) C1 hI1
    rw [if_neg (show ¬ (1 : Int32) = 0 by decide), a1, am_bv_v] at base
    have base2 := b_m_seatsBy_50 d (nI rule) (nI i) (if first = true then 1 else 0) w (nI (pn p)) I2 J
    have C2 : m_C p v I2 := C1.keep (k2 68 18 (by decide)) (fun a k ha => k2 a k ((show ∀ c ∈ m_Cc, c ≠ 98 by decide) a ha))
    rw [C2.2.2.1, am_at_n C2.2.1 (by omega), C2.2.2.2.1, if_pos (nI_le (Nat.le_refl _) (by omega)), aq_06, aq_31, k2 106 0 (by decide), hI1 0 (by omega)] at base2
    obtain ⟨I3, e3⟩ : ∃ I3, I3 = am_upd I2 98 31 (nI (g_dg c 0)) := ⟨_, rfl⟩
    rw [← e3] at base2
    have k3 : ∀ a k, a ≠ 98 → I3 a k = I2 a k := fun a k ha => by rw [e3, am_uc ha]
    have C3 : m_C p v I3 := C2.keep (k3 68 18 (by decide)) (fun a k ha => k3 a k ((show ∀ c ∈ m_Cc, c ≠ 98 by decide) a ha))
    have R1 : g_R p (g_out p) (I1 98) := fun k q1 _ => by rw [r1 k q1, g_outS63 p hn]
    have r3e : I3 98 = g_set (g_stl c (pn p) 0 (I1 98)) 31 (nI (g_dg c 0)) := by rw [e3, m_r, r2]
    have R3 : g_R p (g_seat p c) (I3 98) := by
      rw [r3e]
      exact (g_stl_R c _ _ _ _ R1).set _ _
    have s30 : g_seat p c 30 = 0 := by
      unfold g_seat
      rw [g_set_n _ _ (by decide), g_stl_hi _ _ _ _ (Or.inr (by decide)) (fun b hb => hd6 b (by omega))]
      unfold g_out
      rw [if_neg (by omega), if_neg (by omega)]
    obtain ⟨I4, a4, -, k4⟩ := s_m_plain d rule i v p I3 J (fun _ => 0) (-1) (g_seat p c) hr hi C3 (R3.E hn) (g_seat_at p c (hd6 0 (by decide))) (by rw [s30]; exact g_0ck hC.1) (g_capO p _ hC.1 (fun b hb => Or.inl (by
      rw [r3e, g_set_n _ _ (by omega), g_stl_hi _ _ _ _ (Or.inl (by omega)) (fun b hb => hd6 b (by omega)), r1 b (by omega), g_outS63 p hn]
      unfold g_out
      rw [if_pos hb]))) (fun b hb => by rw [k3 99 b (by decide), k2 99 b (by decide)]; exact l1 b (by omega)) (by rw [k3 68 49 (by decide), k2 68 49 (by decide)]; exact h49)
    have v4 : g_follow p (fun _ => 0) (-1) rule (pth p i) (g_seat p c) 32 = g_V p rule (pth p i) c := rfl
    rw [v4] at a4
    rw [a4, am_bi_i] at base2
    have kk4 : ∀ a k, m_G a k → I4 a k = I a k := fun a k ha => by rw [k4 a k ha.F, k3 a k ha.c.1, k2 a k ha.c.1, k1 a k ha]
    have C4 : m_C p v I4 := hC.G kk4
    have h106 : ∀ i, i < pn p → I4 106 i = nI (g_dg c i) := fun i hi => by rw [kk4 106 i ⟨by decide, Or.inl (by decide)⟩, hI i hi]
    -- behind the keeping
    have next : ∀ (I5 : am_I) (s : Int32 × Nat), s = g_sf1 p rule (pth p i) c first (w, bc) → (∀ k, k < pn p → I5 107 k = nI (g_dg s.2 k)) → (∀ a k, a ≠ 107 → I5 a k = I4 a k) → ∃ I', am_bi (f_m_nextOrder_0 d I5 J) (fun y4 I2 J3 => f_m_seatsBy_36 d (nI rule) (nI i) 0 y4 s.1 I2 J3) = some (some (.int (g_sf p rule (pth p i) (f + 1) c first (w, bc)).1), I', J) ∧ (∀ k, k < pn p → I' 107 k = nI (g_dg (g_sf p rule (pth p i) (f + 1) c first (w, bc)).2 k)) ∧ ∀ a k, m_G2 a k → I' a k = I a k := by
      intro I5 s hs h107 k5
      have C5 : m_C p v I5 := C4.keep (k5 68 18 (by decide)) (fun a k ha => k5 a k ((show ∀ c ∈ m_Cc, c ≠ 107 by decide) a ha))
      obtain ⟨I6, a6, r6, k6⟩ := s_m_nextOrder d v p I5 J (g_dg c) C5 h1 (fun k hk => by have := hd6 k hk; omega) (fun k hk => by rw [k5 106 k (by decide), h106 k hk])
      rw [a6, am_bi_i]
      have kk6 : ∀ a k, m_G2 a k → I6 a k = I a k := fun a k ha => by rw [k6 a k ha.2.1, k5 a k ha.2.2, kk4 a k ha.1]
      cases hnx : g_nx (pn p) (g_dg c) with
      | none =>
        have e1 : g_nxv (pn p) (g_dg c) = 0 := by unfold g_nxv; rw [hnx]
        have e2 : g_sf p rule (pth p i) (f + 1) c first (w, bc) = s := by
          unfold g_sf g_nc
          rw [hnx, hs]
          rfl
        refine ⟨I6, ?_, fun k hk => ?_, kk6⟩
        · rw [e1, e2]
          refine b_m_seatsBy_36 d (nI rule) (nI i) 0 0 s.1 I6 J _ ?_
          rw [if_pos rfl]
        · rw [e2, k6 107 k (by decide), h107 k hk]
      | some o' =>
        have e1 : g_nxv (pn p) (g_dg c) = 1 := by unfold g_nxv; rw [hnx]
        have e0 : g_nc (pn p) c = some (g_en o') := by unfold g_nc; rw [hnx]; rfl
        have e2 : g_sf p rule (pth p i) (f + 1) c first (w, bc) = g_sf p rule (pth p i) f (g_en o') false s := by
          rw [hs]
          conv => lhs; unfold g_sf
          rw [e0]
        have hall' := hnext _ e0
        have hf0 : 0 < f := by
          cases f with
          | zero => unfold g_all at hall'; cases hall'
          | succ f => omega
        have ho' : ∀ k, k < 6 → o' k < 8 := g_nx_lt hn (fun k hk => by have := hd6 k hk; omega) hnx
        have C6 : m_C p v I6 := hC.G2 kk6
        obtain ⟨I', b1, b2, b3⟩ := ih (g_en o') s.2 s.1 false I6 hf0 C6 hall' (fun k hk => by rw [r6 o' hnx k hk, g_dg_en o' ho' k (by omega)]) (fun _ k hk => by rw [k6 107 k (by decide), h107 k hk])
        rw [e1, e2]
        exact ⟨I', b1, b2, fun a k ha => (b3 a k ha).trans (kk6 a k ha)⟩
    obtain ⟨I5, r5, k5, go5⟩ := s_m_seatsBy126 d rule i v p J (g_V p rule (pth p i) c) (pn p) 0 I4 (by omega) C4
    have take : g_sf1 p rule (pth p i) c first (w, bc) = (g_V p rule (pth p i) c, c) → ∃ I', f_m_seatsBy_126 d (nI rule) (nI i) (g_V p rule (pth p i) c) 0 I4 J = some (some (.int (g_sf p rule (pth p i) (f + 1) c first (w, bc)).1), I', J) ∧ (∀ k, k < pn p → I' 107 k = nI (g_dg (g_sf p rule (pth p i) (f + 1) c first (w, bc)).2 k)) ∧ ∀ a k, m_G2 a k → I' a k = I a k := by
      intro hs
      obtain ⟨I', q1, q2⟩ := next I5 (g_V p rule (pth p i) c, c) hs.symm (fun k hk => by rw [r5 k (by omega) hk, h106 k hk]) (fun a k ha => k5 a k (Or.inl ha))
      exact ⟨I', go5 _ q1, q2⟩
    cases first with
    | true =>
      obtain ⟨I', q1, q2⟩ := take (by unfold g_sf1; rw [if_pos rfl])
      refine ⟨I', base _ (go2 _ (base2 _ ?_)), q2⟩
      rw [if_neg (show ¬ (if true = true then (1 : Int32) else 0) = 0 by decide)]
      exact q1
    | false =>
      rw [if_pos (show (if false = true then (1 : Int32) else 0) = 0 by decide)] at base2
      by_cases hle : g_V p rule (pth p i) c ≤ w
      · rw [if_pos hle] at base2
        obtain ⟨I', q1, q2⟩ := next I4 (w, bc) (by unfold g_sf1; rw [if_neg (by decide), if_pos hle]) (fun k hk => by rw [kk4 107 k ⟨by decide, Or.inl (by decide)⟩]; exact hbc rfl k hk) (fun _ _ _ => rfl)
        exact ⟨I', base _ (go2 _ (base2 _ q1)), q2⟩
      · rw [if_neg hle] at base2
        obtain ⟨I', q1, q2⟩ := take (by unfold g_sf1; rw [if_neg (by decide), if_neg hle])
        exact ⟨I', base _ (go2 _ (base2 _ q1)), q2⟩
theorem s_m_seatsBy (d rule i v : Nat) (p : g_Plan) (I : am_I) (J : am_J) (hr : rule < 4) (hi : i < ptc p) (h1 : 1 ≤ pn p) (hC : m_C p v I) : ∃ I', f_m_seatsBy_0 d (nI rule) (nI i) I J = some (some (.int (g_sf p rule (pth p i) 720 g_id true (0, 0)).1), I', J) ∧ (∀ k, k < pn p → I' 107 k = nI (g_dg (g_sf p rule (pth p i) 720 g_id true (0, 0)).2 k)) ∧ ∀ a k, m_G2 a k → I' a k = I a k := by
  have hn := hC.1.1
  obtain ⟨I1, c1, c2, c3⟩ := s_m_seatsBy2 d rule i v p J (pn p) 0 I (by omega) hC (fun j hj => by omega)
  have C1 : m_C p v I1 := hC.keep (c2 68 18 (by decide)) (fun a k ha => c2 a k ((show ∀ c ∈ m_Cc, c ≠ 106 by decide) a ha))
  have hid : ∀ k, k < 6 → g_dg g_id k = k := g_dg_en (fun k => k) (fun k hk => by omega)
  obtain ⟨I', b1, b2, b3⟩ := s_m_seatsBy36 d rule i v p J hr hi h1 720 g_id 0 0 true I1 (by omega) C1 (g_all_ok (pn p) (by omega)) (fun k hk => by rw [hid k (by omega), c1 k hk]) (fun q => by cases q)
  exact ⟨I', b_m_seatsBy_0 d _ _ I J _ (c3 _ b1), b2, fun a k ha => (b3 a k ha).trans (c2 a k ha.2.1)⟩

/-! every run of the abstract machine is a run of the machine -/
def am_fr (r d : Nat) : Nat := 10 + r + 42 * d
def am_lo (r d : Nat) : Nat := 300 + 60 * (r + 42 * d)
def am_rk (k : Nat) : Nat := (am_mi k).2.2.2.2
def am_nl (k : Nat) : Nat := (am_mi k).2.2.1
def am_rt (k : Nat) : Option FieldType := (am_mi k).2.2.2.1
def am_ws1 (k : Nat) : List Cond := Cond.code (am_yn k) (am_by k) (am_nl k) (am_rt k) :: am_W
def am_ctx (p : Program) (R : Room) (s : State) (m : MethodId) (args : Array Value) (meth : Method) (c : Code) (D : va_G) (cid : Nat → ClassId) (o : Nat → Nat) (base vb : Nat) (OI : am_I) (k d tc ts : Nat) : Prop :=
  (p.tables.exec = Jvm.exec ∧ c.code = am_by k ∧ c.maxLocals = am_nl k ∧ s.vm.findClass (am_own (am_mi k).1) = some m.cls ∧ ∀ w ∈ am_W, w.before args s = true) ∧ va_K D vwCl (am_tys cid) s ∧ am_old o base vb OI s s.heap ∧ base ≤ s.heap.size ∧ (am_fr (am_rk k) d ≤ R.frames ∧ am_lo (am_rk k) d ≤ R.locals ∧ tc ≤ R.cells ∧ ts ≤ R.slots) ∧ ((am_yn k).name = "<init>" → meth.name = "<init>")
def am_retw (k : Nat) (v : Option Value) (pc : Nat) : Prop :=
  (∃ x, v = some (.int x) ∧ decode (am_by k) pc = .ok (.ireturn, 1) ∧ (am_rt k = some .int ∨ (am_rt k = some .boolean ∧ (x = 0 ∨ x = 1)))) ∨ (∃ x, v = some (.long x) ∧ decode (am_by k) pc = .ok (.lreturn, 1) ∧ am_rt k = some .long) ∨ (v = none ∧ decode (am_by k) pc = .ok (.return_, 1) ∧ am_rt k = none)
def am_SimW (l : Launch) (D : va_G) (cid : Nat → ClassId) (o : Nat → Nat) (base vb : Nat) (OI : am_I) (n : Nat) : Prop :=
  ∀ (p : Program) (e : Env) (R : Room) (s : State) (m : MethodId) (args : Array Value) (below : List Frame) (meth : Method) (c : Code) (k d pc : Nat) (L : am_Loc) (S : List Value) (μ : am_Mem) (v : Option Value) (μf : am_Mem) (H : Heap) (locs : List Loc) (cells slots : Nat) (Q : State → Prop) (ls : Array Slot) (tc ts : Nat),
    k < 228 → am_ctx p R s m args meth c D cid o base vb OI k d tc ts → am_run am_MT n d (am_mi k) pc L S μ = some (v, μf) → am_rel D cid o base OI μ H → va_S (am_A base) s.heap H locs → am_LR (am_ad o base) (am_nl k) ls L →
    cells + (μf.1.length - μ.1.length) = tc → slots + (am_sz μf.1 - am_sz μ.1) = ts → s.heap.size + cells = base + (μ.1.length - 5) →
    (∀ (pc : Nat) (H1 : Heap) (locs1 : List Loc) (ls1 : Array Slot), am_retw k v pc → am_rel D cid o base OI μf H1 → va_S (am_A base) s.heap H1 locs1 → W p l e R s m args below meth c H1 locs1 tc ts Q (F0 m pc ls1 (v.toList.map (am_val (am_ad o base))))) →
    W p l e R s m args below meth c H locs cells slots Q (F0 m pc ls (S.map (am_val (am_ad o base))))
theorem am_sizeW {p : Program} {l : Launch} {e : Env} {R : Room} {s : State} {m : MethodId} {args : Array Value} {below : List Frame} {meth : Method} {c : Code} {H : Heap} {locs : List Loc} {cells slots : Nat} {Q : State → Prop} {g : JFrame}
    (k : H.size ≤ s.heap.size + cells → W p l e R s m args below meth c H locs cells slots Q g) : W p l e R s m args below meth c H locs cells slots Q g := fun T hT X => k (by rw [← hT]; exact X.heapSize) T hT X
def am_Pc (D : va_G) (cid : Nat → ClassId) (o : Nat → Nat) (base vb : Nat) (OI : am_I) (av : List Value) (μ : am_Mem) : Array Value → State → Prop := fun a U => a = (av.map (am_val (am_ad o base))).toArray ∧ base ≤ U.heap.size ∧ U.heap.size = base + (μ.1.length - 5) ∧ am_rel D cid o base OI μ U.heap ∧ va_K D vwCl (am_tys cid) U ∧ am_old o base vb OI U U.heap
def am_Qc (D : va_G) (cid : Nat → ClassId) (o : Nat → Nat) (base : Nat) (OI : am_I) (v : Option Value) (μf : am_Mem) : Array Value → State → Outcome → State → Prop := fun _ st oc t => oc = .returned (v.map (am_val (am_ad o base))) ∧ am_rel D cid o base OI μf t.heap ∧ st.heap.size ≤ t.heap.size ∧ ∀ q, q < st.heap.size → ¬ am_A base q → t.heap[q]? = st.heap[q]?
def am_rm (k d mc ms : Nat) : Room := { frames := am_fr (am_rk k) d, cells := mc, slots := ms, locals := am_lo (am_rk k) d }
set_option maxHeartbeats 4000000 in
theorem am_met {l : Launch} {D : va_G} {cid : Nat → ClassId} {o : Nat → Nat} {base vb : Nat} {OI : am_I} {n : Nat} (ih : am_SimW l D cid o base vb OI n) {k d : Nat} {av : List Value} {μ μf : am_Mem} {v : Option Value} (hk : k < 228) (hl : k ≠ 227)
    (hr : am_run am_MT n d (am_mi k) 0 (am_entry (am_nl k) av) [] μ = some (v, μf)) (ha : (am_args av).length ≤ am_nl k) :
    Met l (am_yn k) (am_ws1 k) (am_rm k d (μf.1.length - μ.1.length) (am_sz μf.1 - am_sz μ.1)) (am_Pc D cid o base vb OI av μ) (am_Qc D cid o base OI v μf) (μf.1.length - μ.1.length) (am_sz μf.1 - am_sz μ.1) (am_A base) := by
  obtain ⟨y1, y2, y3, y4, y5, y6, y7⟩ := am_yok_ok hk hl
  refine Met.ofW (cc := am_by k) (maxL := am_nl k) (ret := am_rt k) y5 rfl ?_
  intro p e s m args below meth c s₁ B hml hv
  obtain ⟨rfl, hb0, hsz, hrel, hK, hO⟩ := hv
  have hx := B.exec
  have hb := B.bytes
  have hr0 := B.returns
  have hts := atoms_spec (ws := am_ws1 k) B.pre
  have hown : s.vm.findClass (am_yn k).cls = some m.cls := findClass_of_methodNamed B.named
  have hlocks := B.notSynchronized
  have hnm : meth.name = (am_yn k).name := (name_of_methodNamed B.named B.method).1
  rw [lg_entry_eq]
  have hLR := am_LR.entry (am_ad o base) (nL := am_nl k) av ha
  refine ih p e _ s m _ below meth c k d 0 (am_entry (am_nl k) av) [] μ v μf s.heap [] 0 0 _ _ (μf.1.length - μ.1.length) (am_sz μf.1 - am_sz μ.1) hk ⟨⟨hx, hb, hml, by rw [← y7]; exact hown, fun w hw => hts w (List.mem_cons_of_mem _ hw)⟩, hK, hO, hb0, ⟨Nat.le_refl _, Nat.le_refl _, Nat.le_refl _, Nat.le_refl _⟩, fun h => hnm.trans h⟩ hr hrel va_S.rf hLR (Nat.zero_add _) (Nat.zero_add _) (by rw [hsz]; omega) ?_
  intro pc H1 locs1 ls1 hret hrel1 hS1
  have hfree : ∀ q ∈ locs1, am_A base q.base := hS1.2.2
  have hpost : ∀ t : State, t.heap = H1 → s.WarmedH t.vm → am_Qc D cid o base OI v μf (av.map (am_val (am_ad o base))).toArray s (.returned (v.map (am_val (am_ad o base)))) t := fun t ht _ => ⟨rfl, by rw [ht]; exact hrel1, by rw [ht]; exact hS1.1, fun q h1 h2 => by rw [ht]; exact hS1.2.1 q h1 h2⟩
  rcases hret with ⟨x, rfl, hdg, hrt | ⟨hrt, hx01⟩⟩ | ⟨x, rfl, hdg, hrt⟩ | ⟨rfl, hdg, hrt⟩
  · exact W.iret hx hb (hr0.trans hrt) hpost hfree hdg hlocks
  · refine W.zret hx hb (hr0.trans hrt) ?_ hpost hfree hdg hlocks
    rcases hx01 with rfl | rfl <;> rfl
  · exact W.lret hx hb (hr0.trans hrt) hpost hfree hdg hlocks
  · exact W.vret hx hb (hr0.trans hrt) hpost hfree hdg hlocks

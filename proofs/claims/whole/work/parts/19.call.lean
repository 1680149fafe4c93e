/-! CALLS -/
theorem gGood : GoodIn gw gw := fun w h => ⟨h, good_of_word (List.mem_filter.mp h).2⟩
theorem gGoodC {y : Nat} (h : y < gY) : GoodIn gw (gCw y :: gw) := fun w hw => by
  rcases List.mem_cons.mp hw with rfl | hw
  · exact gGood _ (gCw_ok y h)
  · exact gGood w hw
set_option maxRecDepth 100000 in
set_option maxHeartbeats 4000000 in
theorem gNc : ∀ y, y < gY → (gN y).cls = gR (gCn y) ∧ (gN y).cls ≠ "java/lang/invoke/MethodHandle" ∧ (gN y).cls ≠ "java/lang/invoke/VarHandle" ∧ gCn y < 13 := by decide +kernel
theorem gIn9 {s : State} {args : Array Value} (hts : ∀ w ∈ gw, w.before args s = true) {y : Nat} (h : y < gY) : (Cond.initialized (gN y).cls).before args s = true := by
  obtain ⟨h1, -, -, h2⟩ := gNc y h
  rw [h1]
  have h3 : ∀ k, k < 13 → k ∈ gIn := by decide
  exact hts _ (gIn_ok _ (h3 _ h2))
theorem gW_nest {D : ag_D} {base : Nat → Prop} {U : State} (h : gW D base U) {a b c : Nat} (hm : (a, b, c) ∈ gMN) : va_Nw (.methodLinkNest (gR a) b (gN c) "NameSpaces") U := by
  have h1 := h.2.1 _ hm
  unfold gMNw at h1
  exact h1
section CALL
variable {p : Program} {l : Launch} {e : Env} {R : Room} {s : State} {m : MethodId} {args : Array Value} {below : List Frame} {meth : Method} {c : Code} {D : ag_D} {base : Nat → Prop} {y : Nat} {h0 : ag_H} {res : ag_O × ag_H} {pc nx x1 x2 x3 : Nat} {L : ag_L} {S S' : List ag_V} {h : ag_H} {K : ag_K4}
theorem g_keep {st₀ t T' : State} {H : Heap} {locs Lc : List Loc} (e0 : st₀.heap = H) (e1 : T'.heap = t.heap) (hS : va_S base s.heap H locs) (hL : ∀ q ∈ Lc, base q.base) (hF : va_F base st₀ t) : va_S base s.heap T'.heap (locs ++ Lc) := by
  obtain ⟨f1, f2⟩ := hF
  rw [e0] at f1 f2
  refine ⟨by rw [e1]; exact Nat.le_trans hS.1 f1, fun q h1 h2 => ?_, fun q hq => ?_⟩
  · rw [e1, f2 q (Nat.lt_of_lt_of_le h1 hS.1) h2]
    exact hS.2.1 q h1 h2
  · rcases List.mem_append.mp hq with h | h
    · exact hS.2.2 q h
    · exact hL q h
theorem g_run (X : gX y D base p l R s m args meth c) {r1 : ag_O × ag_H} {a9 : Array Value} (hC : res.2.1 ≤ R.cells + h0.1) (hSl : res.2.2.1 ≤ R.slots + h0.2.1) (hm : h.1 ≤ r1.2.1 ∧ h.2.1 ≤ r1.2.2.1)
    (hrun : ∀ (H : Heap) (ls : Array Slot) (locs : List Loc) (cells slots : Nat), gPt D base y s h0 h L H ls locs cells slots → cells + (r1.2.1 - h.1) ≤ R.cells → slots + (r1.2.2.1 - h.2.1) ≤ R.slots →
      vx_Run p l e R s m args below meth c H locs cells slots (r1.2.1 - h.1) (r1.2.2.1 - h.2.1) (F0 m pc ls (S.map ag_v)) (S'.map ag_v) (gQc D base r1 a9) (gXC D base r1) base)
    (hret : ∀ v, r1.1 = .inl v → gP p l e R s m args below meth c D base y h0 res (pc + 3) L (v.toList ++ S') r1.2) (hthr : ∀ x, r1.1 = .inr x → res = (.inr x, r1.2)) : gP p l e R s m args below meth c D base y h0 res pc L S h := by
  have hle : r1.2.1 ≤ res.2.1 ∧ r1.2.2.1 ≤ res.2.2.1 := by
    cases h1 : r1.1 with
    | inl v => exact (hret v h1).2
    | inr x => rw [hthr x h1]; exact ⟨Nat.le_refl _, Nat.le_refl _⟩
  refine ⟨fun H ls locs cells slots hp => ?_, by omega, by omega⟩
  have hp0 := hp
  obtain ⟨p1, p2, p3, p4, p5⟩ := hp
  intro T hT Xs
  rcases hrun H ls locs cells slots hp0 (by omega) (by omega) T hT Xs with ⟨v, st₀, t, T', Lc, e0, X', hL, e1, e2, ⟨v', g1, g2, gR9, gF9⟩, go⟩ | ⟨q, st₀, t, T', Lc, E, ce, e0, X', hL, e1, e2, ⟨x, g1, g2, gR9, gF9⟩, hce, hcv, hcl, st⟩
  · cases g2
    obtain ⟨t2, a1, b1⟩ := (hret v' g1).1 T'.heap ls (locs ++ Lc) _ _ ⟨by rw [e1]; exact gR9, p2, g_keep e0 e1 p3 hL gF9, by omega, by omega⟩ T' rfl X'
    refine ⟨t2, go t2 ?_, b1⟩
    have e9 : (v'.map ag_v).toList ++ S'.map ag_v = (v'.toList ++ S').map ag_v := by cases v' <;> simp
    show Steps p.tables e below (T'.setTop { method := m, pc := pc + 3, locals := ls, stack := (v'.map ag_v).toList ++ S'.map ag_v, locked := none }) t2
    rw [e9]
    exact a1
  · have hrs := hthr x g1
    subst hrs
    obtain ⟨hx, hb, hml, hown, hts, hW, hlk, hxt, -⟩ := X
    have hS9 := g_keep (s := s) e0 e1 p3 hL gF9
    have out := vx_out (p := p) (l := l) (e := e) (R := R) (s := s) (m := m) (args := args) (below := below) (meth := meth) (c := c) (H := T'.heap) (locs := locs ++ Lc) (cells := cells + (r1.2.1 - h.1)) (slots := slots + (r1.2.2.1 - h.2.1)) (ls := ls) (rest := S'.map ag_v) (Qc := gQc D base (.inr x, r1.2)) (XC := gXC D base (.inr x, r1.2)) (free := fun q => base q) (pc := pc) (E := E) (ce := ce) (q := q) (mc := r1.2.1 - h0.1) (ms := r1.2.2.1 - h0.2.1)
      (fun z hz => (hxt z hz).elim) hlk (by rw [e1]; exact hce) hcv hcl (fun t9 ht9 _ => ⟨x, rfl, g2, by rw [ht9, e1]; exact gR9, hS9.F ht9⟩) hS9.2.2 (by omega) (by omega)
    obtain ⟨t2, a1, b1⟩ := out T' rfl X'
    exact ⟨t2, st.trans a1, b1⟩
/-- what a call knows of its callee -/
theorem g_pre (X : gX y D base p l R s m args meth c) {H : Heap} {ls : Array Slot} {locs : List Loc} {cells slots : Nat} (hp : gPt D base y s h0 h L H ls locs cells slots) {A : List ag_V} {As : List Value} (hA : A.map ag_v = As) : ∀ U : State, U.heap = H → s.WarmedH U.vm → gPc D base A h As.toArray U := by
  obtain ⟨hx, hb, hml, hown, hts, hW, hlk, hxt, hnm, hrt, htr, hF, hLo, hbs⟩ := X
  intro U hU hWm
  exact ⟨by rw [hA], by rw [hU]; exact hp.1, hW.warm hp.2.2.1 hU hWm, by rw [hU]; exact hbs.le hp.2.2.1.1⟩
theorem g_virt (X : gX y D base p l R s m args meth c) {r1 : ag_O × ag_H} {A : List ag_V} {a idx ci : Nat} {fs : List ag_V} (hC : res.2.1 ≤ R.cells + h0.1) (hSl : res.2.2.1 ≤ R.slots + h0.2.1) (hm : h.1 ≤ r1.2.1 ∧ h.2.1 ≤ r1.2.2.1) (hMt : gMet l D base x1 (.inr (some a) :: A) h r1)
    (hy : x1 < gY) (hci : gCn x1 = ci) (hc12 : ci < 12) (hn : (parseMethodDescriptor (gN x1).desc).map (fun d => d.parameters.length) = some A.length) (hml9 : (gCn y, idx, x1) ∈ gML) (him : x1 ∈ gIm) (hvm : x1 ∈ gVm) (hFr : gF x1 + 1 ≤ gF y) (hLr : 8 + ((gT x1).1 + 11) + gLo x1 ≤ gLo y)
    (ha : h.2.2 a = some (ci, fs)) (hS : S = A.reverse ++ .inr (some a) :: S') (h8 : S'.length ≤ 8) (hd : decode (gB y) pc = .ok (.invokevirtual idx, 3))
    (hret : ∀ v, r1.1 = .inl v → gP p l e R s m args below meth c D base y h0 res (pc + 3) L (v.toList ++ S') r1.2) (hthr : ∀ x, r1.1 = .inr x → res = (.inr x, r1.2)) : gP p l e R s m args below meth c D base y h0 res pc L S h := by
  have X0 := X
  obtain ⟨hx, hb, hml, hown, hts, hW, hlk, hxt, hnm, hrt, htr, hF, hLo, hbs⟩ := X
  obtain ⟨n1, n2, n3, n4⟩ := gNc x1 hy
  refine g_run (a9 := (Value.ref a :: A.map ag_v).toArray) X0 hC hSl hm (fun H ls locs cells slots hp hc hs => ?_) hret hthr
  have hrecv : ∃ cellB : Cell, H[a]? = some cellB ∧ cellB.vm.isStatics = false ∧ s.vm.findClass (gR ci) = some cellB.cls := by
    obtain ⟨f1, -⟩ := gFds ci hc12
    have := va_recv (ws := [(a, .inr (ci, fs.map ag_v))]) hW.1 (ag_sgl (hp.1.obj ha (by omega)).2) f1 (q0 := 0) rfl
    exact this
  have hsel : (Cond.selects (gR ci) (gN x1) (gN x1)).before args s = true := by
    have := hts _ (gVm_ok _ hvm)
    unfold gVw at this
    rw [hci] at this
    exact this
  refine vx_runV (C := gR ci) (As := A.map ag_v) (n := A.length) (bytes := gB x1) (maxL := (gT x1).1) (ret := gRt x1) (nL := (gT y).1) ⟨hx, hb, hml, hown, hts⟩ hMt
    ⟨callB_of A.length hts (gGoodC hy) rfl rfl rfl (gIn9 hts hy) (hts _ (gML_ok _ hml9)) ⟨n2, n3, hn⟩ ⟨by rw [hF]; exact hFr, by rw [hLo]; exact hLr⟩, hts _ (gIm_ok _ him), hsel⟩
    ⟨gPc.blind, hrecv, g_pre X0 hp rfl⟩ rfl (by rw [List.length_map]) hp.2.1.1 ?_ ?_ hd ⟨hc, hs⟩
  · rw [hS]; simp [ag_v]
  · show 2 * 0 + ((S'.map ag_v).map fun v => v.category).sum ≤ 8
    have e9 : ∀ zs : List ag_V, ((zs.map ag_v).map fun v => v.category).sum = zs.length := by
      intro zs
      induction zs with
      | nil => rfl
      | cons z zs ih => simp only [List.map_cons, List.sum_cons, ih, ag_cat, List.length_cons]; omega
    rw [e9]; omega
theorem g_stat (X : gX y D base p l R s m args meth c) {r1 : ag_O × ag_H} {A : List ag_V} {idx : Nat} (hC : res.2.1 ≤ R.cells + h0.1) (hSl : res.2.2.1 ≤ R.slots + h0.2.1) (hm : h.1 ≤ r1.2.1 ∧ h.2.1 ≤ r1.2.2.1) (hMt : gMet l D base x1 A h r1)
    (hy : x1 < gY) (hn : (parseMethodDescriptor (gN x1).desc).map (fun d => d.parameters.length) = some A.length) (hml9 : (gCn y, idx, x1) ∈ gML) (hsm : x1 ∈ gSm) (hFr : gF x1 + 1 ≤ gF y) (hLr : 8 + ((gT x1).1 + 11) + gLo x1 ≤ gLo y)
    (hS : S = A.reverse ++ S') (h8 : S'.length ≤ 8) (hd : decode (gB y) pc = .ok (.invokestatic idx, 3))
    (hret : ∀ v, r1.1 = .inl v → gP p l e R s m args below meth c D base y h0 res (pc + 3) L (v.toList ++ S') r1.2) (hthr : ∀ x, r1.1 = .inr x → res = (.inr x, r1.2)) : gP p l e R s m args below meth c D base y h0 res pc L S h := by
  have X0 := X
  obtain ⟨hx, hb, hml, hown, hts, hW, hlk, hxt, hnm, hrt, htr, hF, hLo, hbs⟩ := X
  obtain ⟨n1, n2, n3, n4⟩ := gNc x1 hy
  refine g_run (a9 := (A.map ag_v).toArray) X0 hC hSl hm (fun H ls locs cells slots hp hc hs => ?_) hret hthr
  refine vx_runS (As := A.map ag_v) (n := A.length) (bytes := gB x1) (maxL := (gT x1).1) (ret := gRt x1) (nL := (gT y).1) ⟨hx, hb, hml, hown, hts⟩ hMt
    ⟨callB_of A.length hts (gGoodC hy) rfl rfl rfl (gIn9 hts hy) (hts _ (gML_ok _ hml9)) ⟨n2, n3, hn⟩ ⟨by rw [hF]; exact hFr, by rw [hLo]; exact hLr⟩, hts _ (gSm_ok _ hsm)⟩
    ⟨gPc.blind, g_pre X0 hp rfl⟩ rfl (by rw [List.length_map]) hp.2.1.1 ?_ ?_ hd ⟨hc, hs⟩
  · rw [hS]; simp
  · show 2 * 0 + ((S'.map ag_v).map fun v => v.category).sum ≤ 8
    have e9 : ∀ zs : List ag_V, ((zs.map ag_v).map fun v => v.category).sum = zs.length := by
      intro zs
      induction zs with
      | nil => rfl
      | cons z zs ih => simp only [List.map_cons, List.sum_cons, ih, ag_cat, List.length_cons]; omega
    rw [e9]; omega
/-- a constructor's contract: it returns -/
theorem g_met {r1 : ag_O × ag_H} {A : List ag_V} (hMt : gMet l D base x1 A h r1) {v : Option ag_V} (hv : r1.1 = .inl v) : Met l (gN x1) (gCw x1 :: gw) (gRm x1 h r1) (gPc D base A h) (gQc D base r1) (r1.2.1 - h.1) (r1.2.2.1 - h.2.1) base := by
  refine MetFree.mono hMt (fun _ _ q => q) (fun _ _ _ _ _ q => q) fun a s o s' _ hq => ?_
  rcases hq with hq | ⟨q, -, E, ce, Lc, ⟨x, hx, -⟩, -⟩
  · exact hq
  · rw [hv] at hx; cases hx
theorem g_ctor (X : gX y D base p l R s m args meth c) {h1 : ag_H} {A : List ag_V} {a idx : Nat} (hC : res.2.1 ≤ R.cells + h0.1) (hSl : res.2.2.1 ≤ R.slots + h0.2.1) (hm : h.1 ≤ h1.1 ∧ h.2.1 ≤ h1.2.1) (hMt : gMet l D base x1 (.inr (some a) :: A) h (.inl none, h1))
    (hy : x1 < gY) (hni : (gN x1).name = "<init>") (hn : (parseMethodDescriptor (gN x1).desc).map (fun d => d.parameters.length) = some A.length) (hml9 : (gCn y, idx, x1) ∈ gML ∨ (gCn y, idx, x1) ∈ gMN) (him : x1 ∈ gIm) (hrt9 : gRt x1 = none) (hFr : gF x1 + 1 ≤ gF y) (hLr : 8 + ((gT x1).1 + 11) + gLo x1 ≤ gLo y)
    (hS : S = A.reverse ++ .inr (some a) :: S') (h8 : S'.length ≤ 8) (hd : decode (gB y) pc = .ok (.invokespecial idx, 3))
    (hret : gP p l e R s m args below meth c D base y h0 res (pc + 3) L S' h1) : gP p l e R s m args below meth c D base y h0 res pc L S h := by
  have X0 := X
  obtain ⟨hx, hb, hml, hown, hts, hW, hlk, hxt, hnm, hrt, htr, hF, hLo, hbs⟩ := X
  obtain ⟨n1, n2, n3, n4⟩ := gNc x1 hy
  have hMm := g_met hMt rfl
  have hcw : gCw x1 = Cond.code (gN x1) (gB x1) (gT x1).1 none := by unfold gCw; rw [hrt9]
  rw [hcw] at hMm
  have hgd : GoodIn gw (Cond.code (gN x1) (gB x1) (gT x1).1 none :: gw) := by rw [← hcw]; exact gGoodC hy
  have e9 : ∀ zs : List ag_V, ((zs.map ag_v).map fun v => v.category).sum = zs.length := by
    intro zs
    induction zs with
    | nil => rfl
    | cons z zs ih => simp only [List.map_cons, List.sum_cons, ih, ag_cat, List.length_cons]; omega
  have two : ∀ (H : Heap) (ls : Array Slot) (locs : List Loc) (cells slots : Nat), gPt D base y s h0 h L H ls locs cells slots → cells + (h1.1 - h.1) ≤ R.cells → slots + (h1.2.1 - h.2.1) ≤ R.slots →
      va_Run p l e R s m args below meth c H locs cells slots (h1.1 - h.1) (h1.2.1 - h.2.1) (F0 m pc ls (S.map ag_v)) (S'.map ag_v) (gQc D base (.inl none, h1) (Value.ref a :: A.map ag_v).toArray) base := by
    intro H ls locs cells slots hp hc hs
    have hpr : PreS s H (gPc D base (.inr (some a) :: A) h) (.ref a :: A.map ag_v) := ⟨gPc.blind, g_pre X0 hp rfl⟩
    have hst : (F0 m pc ls (S.map ag_v)).stack = (A.map ag_v).reverse ++ .ref a :: S'.map ag_v := by
      show S.map ag_v = _
      rw [hS]; simp [ag_v]
    have hw8 : 2 * (F0 m pc ls (S.map ag_v)).monitorRoom + ((S'.map ag_v).map fun v => v.category).sum ≤ 8 := by
      show 2 * 0 + ((S'.map ag_v).map fun v => v.category).sum ≤ 8
      rw [e9]; omega
    rcases hml9 with hl9 | hl9
    · exact va_runI (As := A.map ag_v) (n := A.length) (bytes := gB x1) (maxL := (gT x1).1) (nL := (gT y).1) ⟨hx, hb, hml, hown, hts⟩ hMm
        ⟨callB_of A.length hts hgd rfl rfl rfl (gIn9 hts hy) (hts _ (gML_ok _ hl9)) ⟨n2, n3, hn⟩ ⟨by rw [hF]; exact hFr, by rw [hLo]; exact hLr⟩, hni, hts _ (gIm_ok _ him)⟩
        hpr rfl (by rw [List.length_map]) hp.2.1.1 hst hw8 hd ⟨hc, hs⟩
    · have hnw := gW_nest hW hl9
      exact va_runIN (own := gR (gCn y)) (y := gN x1) (index := idx) (host := "NameSpaces") (As := A.map ag_v) (n := A.length) (bytes := gB x1) (maxL := (gT x1).1) (nL := (gT y).1) ⟨hx, hb, hml, hown, hts⟩ hMm
        ⟨va_cnB (y := gN x1) (bytes := gB x1) (maxL := (gT x1).1) (ret := none) (rm := gRm x1 h (.inl none, h1)) A.length hts hgd rfl rfl rfl hnw (gIn9 hts hy) ⟨n2, n3, hn⟩ ⟨by rw [hF]; exact hFr, by rw [hLo]; exact hLr⟩, hni, hts _ (gIm_ok _ him)⟩
        hpr rfl (by rw [List.length_map]) hp.2.1.1 hst hw8 hd ⟨hc, hs⟩
  refine g_run (r1 := (.inl none, h1)) (a9 := (Value.ref a :: A.map ag_v).toArray) X0 hC hSl hm (fun H ls locs cells slots hp hc hs => ?_) (fun v hv => by cases hv; exact hret) (fun x hx9 => by cases hx9)
  intro T hT Xs
  exact Or.inl (two H ls locs cells slots hp hc hs T hT Xs)
end CALL

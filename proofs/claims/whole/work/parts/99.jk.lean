/-! THE LAW'S CLASS: calls out of it -/
def lR : String := "NameSpacesLaw"
def gLL : List (Nat × Nat) := [(7, 63), (75, 64), (15, 65), (25, 66), (29, 67), (32, 68), (36, 69), (39, 70), (43, 71), (46, 72), (49, 73), (52, 74), (55, 75), (58, 76), (119, 77), (123, 78), (127, 79), (70, 135), (71, 113), (78, 136), (82, 151), (86, 153), (89, 154), (93, 155), (96, 157), (100, 158), (103, 159), (106, 164), (109, 165), (112, 167), (115, 170), (118, 171), (122, 172), (126, 173), (130, 174), (61, 62), (64, 112)]
def gLw (q : Nat × Nat) : Cond := .methodLink lR q.1 (gN q.2)
def gKL : List (Nat × Nat) := [(19, 0), (13, 1), (21, 2), (23, 3)]
def gKw (q : Nat × Nat) : Cond := .classLink lR q.1 (gE q.2)
set_option maxRecDepth 100000 in
set_option maxHeartbeats 4000000 in
theorem gLL_in : ∀ q ∈ gLL, gLw q ∈ lw_tbl ∧ goodWord (gLw q) = true := by decide +kernel
set_option maxRecDepth 100000 in
set_option maxHeartbeats 4000000 in
theorem gKL_in : ∀ q ∈ gKL, gKw q ∈ lw_tbl ∧ goodWord (gKw q) = true := by decide +kernel
theorem gLL_ok : ∀ q ∈ gLL, gLw q ∈ gw := fun q hq => List.mem_filter.mpr (gLL_in q hq)
theorem gKL_ok : ∀ q ∈ gKL, gKw q ∈ gw := fun q hq => List.mem_filter.mpr (gKL_in q hq)
theorem gW.narrow {D : ag_D} {A B : Nat → Prop} {U : State} (h : gW D A U) (hBA : ∀ q, B q → A q) : gW D B U := ⟨h.1, h.2.1, h.2.2.1, h.2.2.2.1, h.2.2.2.2.1.narrow hBA, h.2.2.2.2.2.1.narrow hBA, h.2.2.2.2.2.2⟩
/-- what the law knows of a method that it calls -/
def lOK (y n : Nat) : Bool := Nat.blt y 175 && Nat.blt (gCn y) 12 && Nat.ble (n + 1) (gT y).1 && decide ((parseMethodDescriptor (gN y).desc).map (fun d => d.parameters.length) = some n)
def lNs : List (Nat × Nat) := [(63, 1), (64, 0), (65, 2), (66, 2), (67, 2), (68, 3), (69, 2), (70, 1), (71, 1), (72, 2), (73, 3), (74, 1), (75, 2), (76, 1), (77, 2), (78, 2), (79, 2), (135, 1), (113, 0), (136, 0), (151, 2), (153, 2), (154, 2), (155, 3), (157, 2), (158, 1), (159, 1), (164, 2), (165, 3), (167, 1), (170, 2), (171, 1), (172, 2), (173, 2), (174, 2)]
set_option maxRecDepth 100000 in
set_option maxHeartbeats 4000000 in
theorem lNs_ok : ∀ q ∈ lNs, lOK q.1 q.2 = true := by decide +kernel
set_option maxRecDepth 100000 in
set_option maxHeartbeats 4000000 in
theorem lNs_iw : ∀ q ∈ lNs, gIw q.1 ∈ lw_tbl ∧ goodWord (gIw q.1) = true := by decide +kernel
set_option maxRecDepth 100000 in
set_option maxHeartbeats 4000000 in
theorem lNs_vw : ∀ q ∈ lNs, gVw q.1 ∈ lw_tbl ∧ goodWord (gVw q.1) = true := by decide +kernel
section LC
variable {p : Program} {l : Launch} {e : Env} {R : Room} {s : State} {m : MethodId} {args : Array Value} {below : List Frame} {meth : Method} {c : Code} {cc : ByteArray} {nL : Nat} {H : Heap} {locs : List Loc} {cells slots : Nat} {Q : State → Prop} {D : ag_D} {A B : Nat → Prop} {h : ag_H} {pc : Nat} {ls : Array Slot} {rest : List Value}
theorem lc_virt (htr : l.stackTraces = false) (hx : p.tables.exec = Jvm.exec) (hb : c.code = cc) (hml : c.maxLocals = nL) (hown : s.vm.findClass lR = some m.cls) (hts : ∀ w ∈ gw, w.before args s = true) (hW : gW D A s) (hBA : ∀ q, B q → A q) (hbs : bo B H.size) (hS : va_S A s.heap H locs) (hls : ls.size = nL)
    {d y idx : Nat} {As : List ag_V} {a ci : Nat} {fs : List ag_V} {r : ag_O × ag_H} (hrun : ag_run gT d y (.inr (some a) :: As) h = some r) (hR : ag_rep D B h H) (ha : h.2.2 a = some (ci, fs)) (hci : gCn y = ci) (hok : (y, As.length) ∈ lNs) (hll : (idx, y) ∈ gLL)
    (hFr : gF y + 1 ≤ R.frames) (hLr : 8 + ((gT y).1 + 11) + gLo y ≤ R.locals) (hc : cells + (r.2.1 - h.1) ≤ R.cells) (hs : slots + (r.2.2.1 - h.2.1) ≤ R.slots) (h8 : (rest.map fun v => v.category).sum ≤ 8) (hd : decode cc pc = .ok (.invokevirtual idx, 3)) {st : List Value} (hst : st = (As.map ag_v).reverse ++ .ref a :: rest)
    (kx : ∀ x, r.1 = .inr x → ∀ (H1 : Heap) (lc : List Loc) (q9 : Addr) (ce : Cell), ag_rep D B r.2 H1 → (∀ q, q < H.size → ¬ B q → H1[q]? = H[q]?) → va_S A s.heap H1 lc → H1[q9]? = some ce → ce.vm = .none → s.vm.findClass (gE x) = some ce.cls → vx_W p l e R s m args below meth c H1 lc (cells + (r.2.1 - h.1)) (slots + (r.2.2.1 - h.2.1)) Q (F0 m pc ls rest) q9)
    (kk : ∀ v, r.1 = .inl v → ∀ (H1 : Heap) (lc : List Loc), ag_rep D B r.2 H1 → (∀ q, q < H.size → ¬ B q → H1[q]? = H[q]?) → va_S A s.heap H1 lc → W p l e R s m args below meth c H1 lc (cells + (r.2.1 - h.1)) (slots + (r.2.2.1 - h.2.1)) Q (F0 m (pc + 3) ls ((v.map ag_v).toList ++ rest))) :
    W p l e R s m args below meth c H locs cells slots Q (F0 m pc ls st) := by
  subst hst
  have o5 : gIw y ∈ gw := List.mem_filter.mpr (lNs_iw _ hok)
  have o6 : gVw y ∈ gw := List.mem_filter.mpr (lNs_vw _ hok)
  have hok := lNs_ok _ hok
  unfold lOK at hok
  rw [Bool.and_eq_true, Bool.and_eq_true, Bool.and_eq_true] at hok
  obtain ⟨⟨⟨o1, o2⟩, o3⟩, o4⟩ := hok
  have hy : y < 175 := g_lt o1
  have hgy : y < gY := Nat.lt_trans hy (by decide)
  have hc12 : ci < 12 := by rw [← hci]; exact g_lt o2
  have hMt := (g_call htr D B d y (.inr (some a) :: As) h r hrun hy (by have := g_le o3; simpa using this)).1
  obtain ⟨n1, n2, n3, n4⟩ := gNc y hgy
  have hrecv : ∃ cellB : Cell, H[a]? = some cellB ∧ cellB.vm.isStatics = false ∧ s.vm.findClass (gR ci) = some cellB.cls := by
    obtain ⟨f1, -⟩ := gFds ci hc12
    exact va_recv (ws := [(a, .inr (ci, fs.map ag_v))]) hW.1 (ag_sgl (hR.obj ha (by omega)).2) f1 (q0 := 0) rfl
  have hsel : (Cond.selects (gR ci) (gN y) (gN y)).before args s = true := by
    have := hts _ o6
    unfold gVw at this
    rw [hci] at this
    exact this
  have run := vx_runV (p := p) (l := l) (e := e) (R := R) (s := s) (m := m) (args := args) (below := below) (meth := meth) (c := c) (H := H) (locs := locs) (cells := cells) (slots := slots) (C := gR ci) (As := As.map ag_v) (n := As.length) (bytes := gB y) (maxL := (gT y).1) (ret := gRt y) (nL := nL) (own := lR) (index := idx) (g := F0 m pc ls ((As.map ag_v).reverse ++ .ref a :: rest)) (rest := rest) (b := a) ⟨hx, hb, hml, hown, hts⟩ hMt
    ⟨callB_of As.length hts (gGoodC hgy) rfl rfl rfl (gIn9 hts hgy) (hts _ (gLL_ok _ hll)) ⟨n2, n3, of_decide_eq_true o4⟩ ⟨hFr, hLr⟩, hts _ o5, hsel⟩
    ⟨gPc.blind, hrecv, fun U hU hWm => ⟨rfl, by rw [hU]; exact hR, (hW.warm hS hU hWm).narrow hBA, by rw [hU]; exact hbs⟩⟩ rfl (by rw [List.length_map]) hls rfl (by show 2 * 0 + _ ≤ 8; omega) hd ⟨hc, hs⟩
  intro T hT Xs
  rcases run T hT Xs with ⟨v, st₀, t, T', Lc, e0, X', hL, e1, e2, ⟨v', g1, g2, gR9, gF9⟩, go⟩ | ⟨q, st₀, t, T', Lc, E, ce, e0, X', hL, e1, e2, ⟨x, g1, g2, gR9, gF9⟩, hce, hcv, hcl, st9⟩
  · cases g2
    obtain ⟨-, k2, k3⟩ := vx_keep e0 e1 hS (fun q _ hq => hBA q hq) (fun q hq => hBA q hq) hL gF9
    obtain ⟨t2, a1, b1⟩ := kk v' g1 T'.heap (locs ++ Lc) (by rw [e1]; exact gR9) k2 k3 T' rfl X'
    exact ⟨t2, go t2 a1, b1⟩
  · subst g2
    obtain ⟨-, k2, k3⟩ := vx_keep e0 e1 hS (fun q _ hq => hBA q hq) (fun q hq => hBA q hq) hL gF9
    obtain ⟨t2, a1, b1⟩ := kx x g1 T'.heap (locs ++ Lc) q ce (by rw [e1]; exact gR9) k2 k3 (by rw [e1]; exact hce) hcv hcl T' rfl X'
    exact ⟨t2, st9.trans a1, b1⟩
/-- caught by its row -/
theorem lc_catch (hown : s.vm.findClass lR = some m.cls) (hts : ∀ w ∈ gw, w.before args s = true) (hW : gW D A s) (hnc : ∀ a b, a < 4 → b < 4 → a ≠ b → va_Nc (gE a) (gE b) s) {hh : List (Nat × Nat × Nat × Nat)} (htab : c.exceptionTable.toList = tableOf hh) {x : Nat} (hx4 : x < 4) {q : Addr} {ce : Cell} (hcell : H[q]? = some ce) (hv : ce.vm = .none) (hcl : s.vm.findClass (gE x) = some ce.cls)
    (pre : List (Nat × Nat × Nat × Nat)) (suf : List (Nat × Nat × Nat × Nat)) {a1 a2 a3 a4 : Nat} (hsp : tableOf hh = pre.map (fun z => (⟨z.1, z.2.1, z.2.2.1, z.2.2.2⟩ : ExceptionTableEntry)) ++ (⟨a1, a2, a3, a4⟩ : ExceptionTableEntry) :: suf.map (fun z => (⟨z.1, z.2.1, z.2.2.1, z.2.2.2⟩ : ExceptionTableEntry)))
    (hp : ∀ z ∈ pre, z.1 ≤ pc ∧ pc < z.2.1 ∧ z.2.2.2 ≠ 0 ∧ ∃ x', x' < 4 ∧ x ≠ x' ∧ (z.2.2.2, x') ∈ gKL) (h1 : a1 ≤ pc) (h2 : pc < a2) (h4 : a4 ≠ 0) (hk : (a4, x) ∈ gKL)
    (kk : W p l e R s m args below meth c H locs cells slots Q (F0 m a3 ls [.ref q])) : vx_W p l e R s m args below meth c H locs cells slots Q (F0 m pc ls rest) q := by
  have hcast : (Cond.castable (gE x) (gE x)).before args s = true := by
    have hm : Cond.castable (gE x) (gE x) ∈ gXw := by
      have : ∀ x, x < 4 → Cond.castable (gE x) (gE x) ∈ gXw := by decide +kernel
      exact this x hx4
    exact va_Nw.use rfl (hW.2.2.2.2.2.2 _ hm)
  refine vy_catch (own := lR) (name := gE x) (E := gE x) (ce := ce) hown _ _ _ (htab.trans hsp) (fun z hz => ?_) (by simp [covers, h1, h2]) h4 (hts _ (gKL_ok _ hk)) hcast hcell hv hcl kk
  obtain ⟨w, hw, rfl⟩ := List.mem_map.mp hz
  obtain ⟨w1, w2, w3, x', w4, w5, w6⟩ := hp w hw
  exact ⟨by simp [covers, w1, w2], w3, gE x', hts _ (gKL_ok _ w6), hnc x x' hx4 w4 w5⟩
end LC
/-- what a wrapper needs, and what it gives -/
def lP (D : ag_D) (A B : Nat → Prop) (cJ : ClassId) (o : Nat) (As : List Value) (h : ag_H) (v0 : Int64) : Array Value → State → Prop := fun a U => a = As.toArray ∧ ag_rep D B h U.heap ∧ gW D A U ∧ bo B U.heap.size ∧ U.heap[o]? = some (arrV cJ 1 fun _ => .long v0) ∧ ArrOfT U cJ .long ∧ ∀ a b, a < 4 → b < 4 → a ≠ b → va_Nc (gE a) (gE b) U
def lQ (D : ag_D) (A B : Nat → Prop) (cJ : ClassId) (o : Nat) (r : ag_O × ag_H) (cl : List Nat) : Array Value → State → Outcome → State → Prop := fun _ s oc t => ∃ (k : Nat) (v1 : Int64), oc = .returned (some (.int (nI k))) ∧ ag_rep D B r.2 t.heap ∧ t.heap[o]? = some (arrV cJ 1 fun _ => .long v1) ∧ va_F A s t ∧ ((∃ x : Int32, r.1 = .inl (some (.inl x)) ∧ k = 0 ∧ v1 = x.toInt64) ∨ ∃ e, r.1 = .inr e ∧ k = cl.getD e 0)
theorem va_Nc.moved9 {C T : String} {u U : State} (hvm : u.vm.Alike U.vm) (h : va_Nc C T u) : va_Nc C T U := by
  obtain ⟨a, b, h1, h2, h3⟩ := h
  exact ⟨a, b, by rw [hvm.findClass]; exact h1, by rw [hvm.findClass]; exact h2, by rw [hvm.assignable]; exact h3⟩
theorem lP.blind {D : ag_D} {A B : Nat → Prop} {cJ : ClassId} {o : Nat} {As : List Value} {h : ag_H} {v0 : Int64} : FrameBlind (lP D A B cJ o As h v0) := by
  intro a U g mk hq
  obtain ⟨q1, q2, q3, q4, q5, q6, q7⟩ := hq
  exact ⟨q1, q2, gW.warm (s := U) (H := U.heap) (locs := []) q3 va_S.rf rfl (State.WarmedH.refl U), q4, q5, arrOfT_moved (u := U) (Vm.Alike.refl U.vm) q6, fun a b ha hb hab => (q7 a b ha hb hab).moved9 (Vm.Alike.refl U.vm)⟩
/-- a contract that may not throw -/
theorem lMet {l : Launch} {y : MethodName} {ws : List Cond} {rm : Room} {Pc : Array Value → State → Prop} {Qc : Array Value → State → Outcome → State → Prop} {mc ms : Nat} {free : Addr → Prop} (h : vx_Met l y ws rm Pc Qc (fun _ _ _ => False) mc ms free) : Met l y ws rm Pc Qc mc ms free := by
  refine MetFree.mono h (fun _ _ q => q) (fun _ _ _ _ _ q => q) fun a s o s' _ hq => ?_
  rcases hq with hq | ⟨q, -, E, ce, Lc, hF, -⟩
  · exact hq
  · exact hF.elim

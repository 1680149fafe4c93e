/-! THE LAW: from its entry to its loop -/
def lNi : List (Nat × Nat) := [(62, 10), (112, 11)]
set_option maxRecDepth 100000 in
set_option maxHeartbeats 4000000 in
theorem lNi_ok : ∀ q ∈ lNi, (gIw q.1 ∈ lw_tbl ∧ goodWord (gIw q.1) = true) ∧ (gN q.1).name = "<init>" ∧ (parseMethodDescriptor (gN q.1).desc).map (fun d => d.parameters.length) = some 0 ∧ gRt q.1 = none ∧ 1 ≤ (gT q.1).1 := by decide +kernel
set_option maxRecDepth 100000 in
set_option maxHeartbeats 4000000 in
theorem lCl_in : ∀ w ∈ ([.classLink lR 8 (gR 10), .classLink lR 62 (gR 11), .arrayClass .long] : List Cond), w ∈ lw_tbl := by decide +kernel
theorem sbH.sh {o : Nat} {h h' : ag_H} (hs : sbH h h') : sbH (sH o 0 h) (sH o 0 h') := by
  obtain ⟨h1, h2, h3⟩ := hs
  refine ⟨by show h.1 + o = h'.1 + o; rw [h1], by show h.2.1 + 0 = h'.2.1 + 0; rw [h2], fun a q hq => ?_⟩
  have hq : (if a < o then none else (h.2.2 (a - o)).map (sq o)) = some q := hq
  show (if a < o then none else (h'.2.2 (a - o)).map (sq o)) = some q
  by_cases ha : a < o
  · rw [if_pos ha] at hq; cases hq
  · rw [if_neg ha] at hq ⊢
    cases hc : h.2.2 (a - o) with
    | none => rw [hc] at hq; cases hq
    | some q9 => rw [hc] at hq; rw [h3 _ _ hc]; exact hq
section LS
variable {p : Program} {l : Launch} {e : Env} {R : Room} {s : State} {m : MethodId} {args : Array Value} {below : List Frame} {meth : Method} {c : Code} {cc : ByteArray} {nL : Nat} {H : Heap} {locs : List Loc} {cells slots : Nat} {Q : State → Prop} {D : ag_D} {A : Nat → Prop} {h h1 : ag_H} {pc : Nat} {ls : Array Slot} {rest : List Value}
/-- a constructor without arguments -/
theorem lc_ctor (htr : l.stackTraces = false) (hx : p.tables.exec = Jvm.exec) (hb : c.code = cc) (hml : c.maxLocals = nL) (hown : s.vm.findClass lR = some m.cls) (hts : ∀ w ∈ gw, w.before args s = true) (hW : gW D A s) (hbs : bo A H.size) (hS : va_S A s.heap H locs) (hls : ls.size = nL)
    {d y idx a ci : Nat} (hrun : ag_run gT d y [.inr (some a)] h = some (.inl none, h1)) (hR : ag_rep D A h H) (hy : y < 175) (hok : (y, ci) ∈ lNi) (hll : (idx, y) ∈ gLL) (hFr : gF y + 1 ≤ R.frames) (hLr : 8 + ((gT y).1 + 11) + gLo y ≤ R.locals) (hc : cells + (h1.1 - h.1) ≤ R.cells) (hs : slots + (h1.2.1 - h.2.1) ≤ R.slots) (h8 : (rest.map fun v => v.category).sum ≤ 8) (hd : decode cc pc = .ok (.invokespecial idx, 3))
    (kk : ∀ (H1 : Heap) (lc : List Loc), ag_rep D A h1 H1 → va_S A s.heap H1 lc → W p l e R s m args below meth c H1 lc (cells + (h1.1 - h.1)) (slots + (h1.2.1 - h.2.1)) Q (F0 m (pc + 3) ls rest)) :
    W p l e R s m args below meth c H locs cells slots Q (F0 m pc ls (.ref a :: rest)) := by
  obtain ⟨o1, o2, o3, o4, o5⟩ := lNi_ok _ hok
  have hiw : gIw y ∈ gw := List.mem_filter.mpr o1
  have hgy : y < gY := Nat.lt_trans hy (by decide)
  have hMt := (g_call htr D A d y [.inr (some a)] h (.inl none, h1) hrun hy o5).1
  obtain ⟨n1, n2, n3, n4⟩ := gNc y hgy
  have hMm := g_met hMt rfl
  have hcw : gCw y = Cond.code (gN y) (gB y) (gT y).1 none := by unfold gCw; rw [show gRt y = none from o4]
  rw [hcw] at hMm
  have hgd : GoodIn gw (Cond.code (gN y) (gB y) (gT y).1 none :: gw) := by rw [← hcw]; exact gGoodC hgy
  have run := va_runI (p := p) (l := l) (e := e) (R := R) (s := s) (m := m) (args := args) (below := below) (meth := meth) (c := c) (H := H) (locs := locs) (cells := cells) (slots := slots) (own := lR) (index := idx) (As := []) (n := 0) (bytes := gB y) (maxL := (gT y).1) (nL := nL) (b := a) (rest := rest) (g := F0 m pc ls (.ref a :: rest)) ⟨hx, hb, hml, hown, hts⟩ hMm
    ⟨callB_of 0 hts hgd rfl rfl rfl (gIn9 hts hgy) (hts _ (gLL_ok _ hll)) ⟨n2, n3, o3⟩ ⟨hFr, hLr⟩, o2, hts _ hiw⟩
    ⟨gPc.blind, fun U hU hWm => ⟨rfl, by rw [hU]; exact hR, hW.warm hS hU hWm, by rw [hU]; exact hbs⟩⟩ rfl rfl hls rfl (by show 2 * 0 + _ ≤ 8; omega) hd ⟨hc, hs⟩
  intro T hT Xs
  obtain ⟨v, st₀, t, T', Lc, e0, X', hL, e1, e2, ⟨v', g1, g2, gR9, gF9⟩, go⟩ := run T hT Xs
  cases g1
  cases g2
  obtain ⟨-, -, k3⟩ := vx_keep e0 e1 hS (fun q _ hq => hq) (fun q hq => hq) hL gF9
  obtain ⟨t2, a1, b1⟩ := kk T'.heap (locs ++ Lc) (by rw [e1]; exact gR9) k3 T' rfl X'
  exact ⟨t2, go t2 a1, b1⟩
/-- a new object -/
theorem lc_new (hx : p.tables.exec = Jvm.exec) (hb : c.code = cc) (hown : s.vm.findClass lR = some m.cls) (hts : ∀ w ∈ gw, w.before args s = true) (hW : gW D A s) (hbs : bo A H.size) (hS : va_S A s.heap H locs) {idx ci : Nat} (hci : ci < 12) (hcl : (Cond.classLink lR idx (gR ci)).before args s = true) (hR : ag_rep D A h H) (hc : cells + 1 ≤ R.cells) (hs : slots + gNf ci ≤ R.slots) (hd : decode cc pc = .ok (.new idx, 3))
    (kk : ∀ H1 : Heap, ag_rep D A (ag_new h (ag_fs ci).length (ci, ag_fs ci)) H1 → H1.size = H.size + 1 → va_S A s.heap H1 locs → W p l e R s m args below meth c H1 locs (cells + 1) (slots + gNf ci) Q (F0 m (pc + 3) ls (.ref h.1 :: rest))) : W p l e R s m args below meth c H locs cells slots Q (F0 m pc ls rest) := by
  obtain ⟨f1, f2, f3, f4, f5⟩ := gFds ci hci
  have hIs : ci ∈ gIs := by
    have : ∀ k, k < 12 → k ∈ gIs := by decide
    exact this ci hci
  have hIn : ci ∈ gIn := by
    have : ∀ k, k < 12 → k ∈ gIn := by decide
    exact this ci hci
  refine ag_w_new (Ts := gw) (own := lR) (idx := idx) hx hb hts f2 (gTy ci) f3 f5 hown hcl (hts _ (gIs_ok ci hIs)) (hts _ (gIn_ok ci hIn)) hW.1 hR hbs (by omega) f1 hc hs hd (fun H1 r1 z1 o1 => kk H1 r1 z1 ⟨by rw [z1]; exact Nat.le_succ_of_le hS.1, fun q h1 h2 => (o1 q (Nat.lt_of_lt_of_le h1 hS.1)).trans (hS.2.1 q h1 h2), hS.2.2⟩)
end LS

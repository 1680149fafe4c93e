/-! THE INSTRUCTIONS of the heap, switches, ends -/
set_option maxRecDepth 100000 in
set_option maxHeartbeats 4000000 in
theorem gFd0 : ∀ w ∈ u_ws (gR 0) (gTT 0) (gNf 0), w ∈ gw := gmem (fun w => w) (u_ws (gR 0) (gTT 0) (gNf 0)) [258, 260, 262, 264] (by decide +kernel) (by decide +kernel)
set_option maxRecDepth 100000 in
set_option maxHeartbeats 4000000 in
theorem gFd1 : ∀ w ∈ u_ws (gR 1) (gTT 1) (gNf 1), w ∈ gw := gmem (fun w => w) (u_ws (gR 1) (gTT 1) (gNf 1)) [114, 116, 118] (by decide +kernel) (by decide +kernel)
set_option maxRecDepth 100000 in
set_option maxHeartbeats 4000000 in
theorem gFd2 : ∀ w ∈ u_ws (gR 2) (gTT 2) (gNf 2), w ∈ gw := gmem (fun w => w) (u_ws (gR 2) (gTT 2) (gNf 2)) [301, 303, 305] (by decide +kernel) (by decide +kernel)
set_option maxRecDepth 100000 in
set_option maxHeartbeats 4000000 in
theorem gFd3 : ∀ w ∈ u_ws (gR 3) (gTT 3) (gNf 3), w ∈ gw := gmem (fun w => w) (u_ws (gR 3) (gTT 3) (gNf 3)) [333, 335, 337, 339, 341, 343] (by decide +kernel) (by decide +kernel)
set_option maxRecDepth 100000 in
set_option maxHeartbeats 4000000 in
theorem gFd4 : ∀ w ∈ u_ws (gR 4) (gTT 4) (gNf 4), w ∈ gw := gmem (fun w => w) (u_ws (gR 4) (gTT 4) (gNf 4)) [238, 240, 242] (by decide +kernel) (by decide +kernel)
set_option maxRecDepth 100000 in
set_option maxHeartbeats 4000000 in
theorem gFd5 : ∀ w ∈ u_ws (gR 5) (gTT 5) (gNf 5), w ∈ gw := gmem (fun w => w) (u_ws (gR 5) (gTT 5) (gNf 5)) [289, 291, 293] (by decide +kernel) (by decide +kernel)
set_option maxRecDepth 100000 in
set_option maxHeartbeats 4000000 in
theorem gFd6 : ∀ w ∈ u_ws (gR 6) (gTT 6) (gNf 6), w ∈ gw := gmem (fun w => w) (u_ws (gR 6) (gTT 6) (gNf 6)) [350, 352] (by decide +kernel) (by decide +kernel)
set_option maxRecDepth 100000 in
set_option maxHeartbeats 4000000 in
theorem gFd7 : ∀ w ∈ u_ws (gR 7) (gTT 7) (gNf 7), w ∈ gw := gmem (fun w => w) (u_ws (gR 7) (gTT 7) (gNf 7)) [194, 196, 198, 200, 202, 204] (by decide +kernel) (by decide +kernel)
set_option maxRecDepth 100000 in
set_option maxHeartbeats 4000000 in
theorem gFd8 : ∀ w ∈ u_ws (gR 8) (gTT 8) (gNf 8), w ∈ gw := gmem (fun w => w) (u_ws (gR 8) (gTT 8) (gNf 8)) [221, 223] (by decide +kernel) (by decide +kernel)
set_option maxRecDepth 100000 in
set_option maxHeartbeats 4000000 in
theorem gFd9 : ∀ w ∈ u_ws (gR 9) (gTT 9) (gNf 9), w ∈ gw := gmem (fun w => w) (u_ws (gR 9) (gTT 9) (gNf 9)) [143, 145, 147, 149, 151, 153, 155, 157] (by decide +kernel) (by decide +kernel)
set_option maxRecDepth 100000 in
set_option maxHeartbeats 4000000 in
theorem gFd10 : ∀ w ∈ u_ws (gR 10) (gTT 10) (gNf 10), w ∈ gw := gmem (fun w => w) (u_ws (gR 10) (gTT 10) (gNf 10)) [368, 370, 372, 374, 376, 378, 380, 382, 384, 386, 388, 390, 392] (by decide +kernel) (by decide +kernel)
set_option maxRecDepth 100000 in
set_option maxHeartbeats 4000000 in
theorem gFd11 : ∀ w ∈ u_ws (gR 11) (gTT 11) (gNf 11), w ∈ gw := gmem (fun w => w) (u_ws (gR 11) (gTT 11) (gNf 11)) [1038, 1040, 1042, 1044, 1046, 1048, 1050, 1052, 1054, 1056, 1058, 1060, 1062, 1064, 1066, 1068, 1070, 1072, 1074, 1076, 1078, 1080, 1082, 1084, 1086, 1088, 1090, 1092, 1094, 1096, 1098, 1100, 1102, 1104, 1106, 1108, 1110, 1112, 1114, 1116, 1118, 1120] (by decide +kernel) (by decide +kernel)
/-- the words of a class's fields among the good ones -/
theorem gFds (ci : Nat) (h : ci < 12) : vwCl[ci]? = some (gR ci, gTT ci, gNf ci) ∧ (∀ w ∈ u_ws (gR ci) (gTT ci) (gNf ci), w ∈ gw) ∧ (∀ k, k < gNf ci → parseFieldDescriptor (gTT ci k).2.2.1 = some (gTy ci k)) ∧ (∀ a, a < gNf ci → ∀ b, b < gNf ci → a ≠ b → (gTT ci a).2.1 ≠ (gTT ci b).2.1) ∧ (∀ k, k < gNf ci → defaultValue (gTy ci k) = ag_v (ag_df (gTy ci k))) := by
  match ci, h with
  | 0, _ => exact ⟨rfl, gFd0, tyX0_ok, nmX0, by decide⟩
  | 1, _ => exact ⟨rfl, gFd1, tyX1_ok, nmX1, by decide⟩
  | 2, _ => exact ⟨rfl, gFd2, tyX2_ok, nmX2, by decide⟩
  | 3, _ => exact ⟨rfl, gFd3, tyX3_ok, nmX3, by decide⟩
  | 4, _ => exact ⟨rfl, gFd4, tyX4_ok, nmX4, by decide⟩
  | 5, _ => exact ⟨rfl, gFd5, tyX5_ok, nmX5, by decide⟩
  | 6, _ => exact ⟨rfl, gFd6, tyX6_ok, nmX6, by decide⟩
  | 7, _ => exact ⟨rfl, gFd7, tyX7_ok, nmX7, by decide⟩
  | 8, _ => exact ⟨rfl, gFd8, tyX8_ok, nmX8, by decide⟩
  | 9, _ => exact ⟨rfl, gFd9, tyX9_ok, nmX9, by decide⟩
  | 10, _ => exact ⟨rfl, gFd10, tyX10_ok, nmX10, by decide⟩
  | 11, _ => exact ⟨rfl, gFd11, tyX11_ok, nmX11, by decide⟩
section HEAP
variable {p : Program} {l : Launch} {e : Env} {R : Room} {s : State} {m : MethodId} {args : Array Value} {below : List Frame} {meth : Method} {c : Code} {D : ag_D} {base : Nat → Prop} {y : Nat} {h0 : ag_H} {res : ag_O × ag_H} {pc nx x1 x2 x3 : Nat} {L : ag_L} {S : List ag_V} {h : ag_H} {K : ag_K4}
theorem g_anull (hx : p.tables.exec = Jvm.exec) (hb : c.code = gB y) (hK : gK p l e R s m args below meth c D base y h0 res K)
    (hd : decode (gB y) pc = .ok (.aconst_null, 1)) (hr : K (pc + 1) L (.inr none :: S) h = some res) : gP p l e R s m args below meth c D base y h0 res pc L S h := by
  refine g_go1 (fun H ls locs cells slots hp k => ?_) (hK _ _ _ _ hr)
  intro T hT X
  obtain ⟨t, a, b⟩ := k T hT X
  refine ⟨t, ?_, b⟩
  jvm_step X.here [X.here.top, hx, hb, hd]
  exact a
theorem g_get (X : gX y D base p l R s m args meth c) (hK : gK p l e R s m args below meth c D base y h0 res K) {idx : Nat} {a : Nat} {fs : List ag_V} {v : ag_V} (hfl : (gCn y, idx, x1, x2) ∈ gFL) (h1 : x1 < 12) (h2 : x2 < gNf x1)
    (ha : h.2.2 a = some (x1, fs)) (hv : fs[x2]? = some v) (hd : decode (gB y) pc = .ok (.getfield idx, 3)) (hr : K (pc + 3) L (v :: S) h = some res) : gP p l e R s m args below meth c D base y h0 res pc L (.inr (some a) :: S) h := by
  obtain ⟨hx, hb, hml, hown, hts, hW, -⟩ := X
  obtain ⟨f1, f2, f3, f4, f5⟩ := gFds x1 h1
  exact g_go1 (fun H ls locs cells slots hp k => ag_w_get hx hb hts f2 hown hW.1 hp.1 ha (by omega) f1 h2 (hts _ (gFL_ok _ hfl)) hv hd k) (hK _ _ _ _ hr)
/-- a step that writes one cell of the heap -/
theorem g_wr {h' : ag_H} {S' : List ag_V} {a : Nat} {q q0 : ag_C} (hh : h' = ag_set h a q) (hq0 : h.2.2 a = some q0) (hW : ∀ (H : Heap) (ls : Array Slot) (locs : List Loc) (cells slots : Nat), gPt D base y s h0 h L H ls locs cells slots →
      (∀ (H1 : Heap) (i : Nat), ag_rep D base h' H1 → H1.size = H.size → (∀ b : Nat, b ≠ a → H1[b]? = H[b]?) → W p l e R s m args below meth c H1 (locs ++ [⟨a, i⟩]) cells slots (vx_MQ below (gQc D base res) (gXC D base res) args s (res.2.1 - h0.1) (res.2.2.1 - h0.2.1) base) (F0 m nx ls (S'.map ag_v))) →
      W p l e R s m args below meth c H locs cells slots (vx_MQ below (gQc D base res) (gXC D base res) args s (res.2.1 - h0.1) (res.2.2.1 - h0.2.1) base) (F0 m pc ls (S.map ag_v)))
    (hk : gP p l e R s m args below meth c D base y h0 res nx L S' h') : gP p l e R s m args below meth c D base y h0 res pc L S h := by
  subst hh
  refine ⟨fun H ls locs cells slots hp => hW _ _ _ _ _ hp fun H1 i r1 z1 o1 => hk.1 _ _ _ _ _ ⟨r1, hp.2.1, ?_, hp.2.2.2.1, hp.2.2.2.2⟩, hk.2⟩
  exact hp.2.2.1.put z1 o1 (hp.1.2 a _ hq0).1
theorem g_put (X : gX y D base p l R s m args meth c) (hK : gK p l e R s m args below meth c D base y h0 res K) {idx : Nat} {a : Nat} {fs : List ag_V} {v : ag_V} (hfl : (gCn y, idx, x1, x2) ∈ gFL) (h1 : x1 < 12) (h2 : x2 < gNf x1)
    (hfin : (gTT x1 x2).2.2.2 = false ∨ ((gTT x1 x2).2.2.2 = true ∧ (gN y).name = "<init>" ∧ (gTT x1 x2).1 = gR (gCn y))) (hn : narrow (gTy x1 x2) (ag_v v) = ag_v v ∧ fits (gTy x1 x2) (ag_v v) = true)
    (ha : h.2.2 a = some (x1, fs)) (hd : decode (gB y) pc = .ok (.putfield idx, 3)) (hr : K (pc + 3) L S (ag_set h a (x1, fs.set x2 v)) = some res) : gP p l e R s m args below meth c D base y h0 res pc L (v :: .inr (some a) :: S) h := by
  obtain ⟨hx, hb, hml, hown, hts, hW, hlk, hxt, hnm, -⟩ := X
  obtain ⟨f1, f2, f3, f4, f5⟩ := gFds x1 h1
  exact g_wr rfl ha (fun H ls locs cells slots hp k => ag_w_put hx hb hts f2 (gTy x1) f3 f4 hown hW.1 hp.1 ha (by omega) f1 h2 (hts _ (gFL_ok _ hfl)) (by rw [hnm]; exact hfin) hn.1 hn.2 hd k) (hK _ _ _ _ hr)
theorem g_ald (X : gX y D base p l R s m args meth c) (hK : gK p l e R s m args below meth c D base y h0 res K) {a : Nat} {xs : List ag_V} {j : Int32} {v : ag_V} (h9 : ¬ j < 0) (hv : xs[j.toNatClampNeg]? = some v) (hr : K (pc + 1) L (v :: S) h = some res) :
    (h.2.2 a = some (100, xs) → decode (gB y) pc = .ok (.iaload, 1) → gP p l e R s m args below meth c D base y h0 res pc L (.inl j :: .inr (some a) :: S) h) ∧
    (h.2.2 a = some (101, xs) → decode (gB y) pc = .ok (.caload, 1) → gP p l e R s m args below meth c D base y h0 res pc L (.inl j :: .inr (some a) :: S) h) ∧
    (h.2.2 a = some (102, xs) → decode (gB y) pc = .ok (.baload, 1) → gP p l e R s m args below meth c D base y h0 res pc L (.inl j :: .inr (some a) :: S) h) ∧
    (103 ≤ x1 → h.2.2 a = some (x1, xs) → decode (gB y) pc = .ok (.aaload, 1) → gP p l e R s m args below meth c D base y h0 res pc L (.inl j :: .inr (some a) :: S) h) := by
  obtain ⟨hx, hb, hml, hown, hts, hW, -⟩ := X
  refine ⟨fun ha hd => ?_, fun ha hd => ?_, fun ha hd => ?_, fun hx1 ha hd => ?_⟩
  · exact g_go1 (fun H ls locs cells slots hp k => ag_w_iald hx hb hW.1 hp.1 ha h9 hv hd k) (hK _ _ _ _ hr)
  · exact g_go1 (fun H ls locs cells slots hp k => ag_w_cald hx hb hW.1 hp.1 ha h9 hv hd k) (hK _ _ _ _ hr)
  · exact g_go1 (fun H ls locs cells slots hp k => ag_w_zald hx hb hW.1 hp.1 ha h9 hv hd k) (hK _ _ _ _ hr)
  · obtain ⟨t, rfl⟩ : ∃ t, x1 = 100 + t := ⟨x1 - 100, by omega⟩
    exact g_go1 (fun H ls locs cells slots hp k => ag_w_aald hx hb hW.1 hp.1 ha (by omega) h9 hv hd k) (hK _ _ _ _ hr)
theorem g_alen (X : gX y D base p l R s m args meth c) (hK : gK p l e R s m args below meth c D base y h0 res K) {a : Nat} {xs : List ag_V} (hx1 : 100 ≤ x1) (ha : h.2.2 a = some (x1, xs)) (hd : decode (gB y) pc = .ok (.arraylength, 1)) (hr : K (pc + 1) L (.inl (nI xs.length) :: S) h = some res) : gP p l e R s m args below meth c D base y h0 res pc L (.inr (some a) :: S) h := by
  obtain ⟨hx, hb, hml, hown, hts, hW, -⟩ := X
  obtain ⟨t, rfl⟩ : ∃ t, x1 = 100 + t := ⟨x1 - 100, by omega⟩
  exact g_go1 (fun H ls locs cells slots hp k => ag_w_alen hx hb hW.1 hp.1 ha hd k) (hK _ _ _ _ hr)
theorem g_ast (X : gX y D base p l R s m args meth c) (hK : gK p l e R s m args below meth c D base y h0 res K) {a : Nat} {xs : List ag_V} {j x : Int32} (h9 : ¬ j < 0) (hj : j.toNatClampNeg < xs.length) :
    (h.2.2 a = some (100, xs) → decode (gB y) pc = .ok (.iastore, 1) → K (pc + 1) L S (ag_set h a (100, xs.set j.toNatClampNeg (.inl x))) = some res → gP p l e R s m args below meth c D base y h0 res pc L (.inl x :: .inl j :: .inr (some a) :: S) h) ∧
    (h.2.2 a = some (101, xs) → decode (gB y) pc = .ok (.castore, 1) → (0 ≤ x ∧ x < 65536) → K (pc + 1) L S (ag_set h a (101, xs.set j.toNatClampNeg (.inl x))) = some res → gP p l e R s m args below meth c D base y h0 res pc L (.inl x :: .inl j :: .inr (some a) :: S) h) ∧
    (h.2.2 a = some (102, xs) → decode (gB y) pc = .ok (.bastore, 1) → (x = 0 ∨ x = 1) → K (pc + 1) L S (ag_set h a (102, xs.set j.toNatClampNeg (.inl x))) = some res → gP p l e R s m args below meth c D base y h0 res pc L (.inl x :: .inl j :: .inr (some a) :: S) h) := by
  obtain ⟨hx, hb, hml, hown, hts, hW, -⟩ := X
  refine ⟨fun ha hd hr => ?_, fun ha hd hxc hr => ?_, fun ha hd hxc hr => ?_⟩
  · exact g_wr rfl ha (fun H ls locs cells slots hp k => ag_w_iast hx hb hW.1 hp.1 ha h9 hj hd k) (hK _ _ _ _ hr)
  · exact g_wr rfl ha (fun H ls locs cells slots hp k => ag_w_cast hx hb hW.1 hp.1 ha h9 hj hxc hd k) (hK _ _ _ _ hr)
  · exact g_wr rfl ha (fun H ls locs cells slots hp k => ag_w_zast hx hb hW.1 hp.1 ha h9 hj hxc hd k) (hK _ _ _ _ hr)
theorem g_aast (X : gX y D base p l R s m args meth c) (hK : gK p l e R s m args below meth c D base y h0 res K) {a : Nat} {xs : List ag_V} {j : Int32} {o : Option Nat} (h9 : ¬ j < 0) (hj : j.toNatClampNeg < xs.length) (hx1 : 103 ≤ x1) (hx2 : x2 < 12) (hct : ag_ct (x1 - 100) = .object (gR x2)) (ho : ∀ b, o = some b → ∃ fs, h.2.2 b = some (x2, fs))
    (ha : h.2.2 a = some (x1, xs)) (hd : decode (gB y) pc = .ok (.aastore, 1)) (hr : K (pc + 1) L S (ag_set h a (x1, xs.set j.toNatClampNeg (.inr o))) = some res) : gP p l e R s m args below meth c D base y h0 res pc L (.inr o :: .inl j :: .inr (some a) :: S) h := by
  obtain ⟨hx, hb, hml, hown, hts, hW, -⟩ := X
  obtain ⟨f1, -⟩ := gFds x2 hx2
  obtain ⟨t, rfl⟩ : ∃ t, x1 = 100 + t := ⟨x1 - 100, by omega⟩
  rw [show 100 + t - 100 = t by omega] at hct
  exact g_wr rfl ha (fun H ls locs cells slots hp k => ag_w_aast hx hb hW.1 hp.1 ha f1 (by omega) hct ho h9 hj hd k) (hK _ _ _ _ hr)
/-- a step that makes one cell of n slots -/
theorem g_mk {S' : List ag_V} {q : ag_C} {n : Nat} (hC : res.2.1 ≤ R.cells + h0.1) (hSl : res.2.2.1 ≤ R.slots + h0.2.1) (hW : ∀ (H : Heap) (ls : Array Slot) (locs : List Loc) (cells slots : Nat), gPt D base y s h0 h L H ls locs cells slots → bo base H.size → cells + 1 ≤ R.cells → slots + n ≤ R.slots →
      (∀ H1 : Heap, ag_rep D base (ag_new h n q) H1 → H1.size = H.size + 1 → (∀ b : Nat, b < H.size → H1[b]? = H[b]?) → W p l e R s m args below meth c H1 locs (cells + 1) (slots + n) (vx_MQ below (gQc D base res) (gXC D base res) args s (res.2.1 - h0.1) (res.2.2.1 - h0.2.1) base) (F0 m nx ls (S'.map ag_v))) →
      W p l e R s m args below meth c H locs cells slots (vx_MQ below (gQc D base res) (gXC D base res) args s (res.2.1 - h0.1) (res.2.2.1 - h0.2.1) base) (F0 m pc ls (S.map ag_v)))
    (hbs : bo base s.heap.size) (hk : gP p l e R s m args below meth c D base y h0 res nx L S' (ag_new h n q)) : gP p l e R s m args below meth c D base y h0 res pc L S h := by
  have g1 : h.1 + 1 ≤ res.2.1 := hk.2.1
  have g2 : h.2.1 + n ≤ res.2.2.1 := hk.2.2
  refine ⟨fun H ls locs cells slots hp => ?_, by omega, by omega⟩
  obtain ⟨p1, p2, p3, p4, p5⟩ := hp
  refine hW H ls locs cells slots ⟨p1, p2, p3, p4, p5⟩ (hbs.le p3.1) (by omega) (by omega) fun H1 r1 z1 o1 => hk.1 _ _ _ _ _ ⟨r1, p2, ?_, ?_, ?_⟩
  · exact ⟨Nat.le_trans p3.1 (by omega), fun q h1 h2 => (o1 q (Nat.lt_of_lt_of_le h1 p3.1)).trans (p3.2.1 q h1 h2), p3.2.2⟩
  · show cells + 1 + h0.1 = h.1 + 1; omega
  · show slots + n + h0.2.1 = h.2.1 + n; omega
end HEAP

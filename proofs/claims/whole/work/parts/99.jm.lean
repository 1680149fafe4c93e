/-! THE LAW: pieces of its loop's body -/
/-- what holds all along -/
def LX (p : Program) (l : Launch) (s : State) (m : MethodId) (meth : Method) (c : Code) (b L : Nat) (xs : Nat → Int32) (D : ag_D) (cJ : ClassId) : Prop :=
  l.stackTraces = false ∧ p.tables.exec = Jvm.exec ∧ c.code = code ∧ meth.sig.returnType = ret ∧ c.maxLocals = 7 ∧ s.vm.findClass lR = some m.cls ∧ (∀ w ∈ gw, w.before #[Value.ref b] s = true) ∧ va_X b L xs s s.heap ∧ b < s.heap.size ∧ meth.locks = false ∧ gW D (fun q => s.heap.size ≤ q) s ∧ ArrOfT s cJ .long ∧ (∀ a b, a < 4 → b < 4 → a ≠ b → va_Nc (gE a) (gE b) s) ∧ L ≤ 2048
def lA (o : Nat) : Nat → Prop := fun q => o ≤ q
def lB (o : Nat) : Nat → Prop := fun q => o ≤ q ∧ q ≠ 262 + o
/-- the heap of the loop -/
def LH (D : ag_D) (cJ : ClassId) (s : State) (h : ag_H) (H : Heap) (v : Int64) (locs : List Loc) : Prop := ag_rep D (lB s.heap.size) (sH s.heap.size 0 h) H ∧ 263 ≤ h.1 ∧ H[262 + s.heap.size]? = some (arrV cJ 1 fun _ => .long v) ∧ va_S (lA s.heap.size) s.heap H locs
theorem bl_lB {o n : Nat} (h : 263 + o ≤ n) : bo (lB o) n := fun q hq => ⟨by omega, by omega⟩
theorem sh_run {o d y a : Nat} {As : List Int32} {h h1 : ag_H} {oc : ag_O} (hr : ag_run gT d y (.inr (some a) :: As.map .inl) h = some (oc, h1)) : ag_run gT d y (.inr (some (a + o)) :: As.map .inl) (sH o 0 h) = some (sO o oc, sH o 0 h1) := by
  have := s_run (o := o) (k := 0) gT d y (.inr (some a) :: As.map .inl) h
  rw [hr] at this
  have e : (Sum.inr (some a) :: As.map Sum.inl : List ag_V).map (sv o) = .inr (some (a + o)) :: As.map .inl := by
    rw [List.map_cons, List.map_map]
    rfl
  rw [e] at this
  exact this
theorem i2c_ok (x : Int32) : ∃ n, n < 65536 ∧ (x.toUInt32 % 65536).toInt32 = nI n := by
  refine ⟨(x.toUInt32 % 65536).toNat, ?_, ?_⟩
  · rw [UInt32.toNat_mod]
    exact Nat.mod_lt _ (by decide)
  · generalize x.toUInt32 % 65536 = r
    show r.toInt32 = Int32.ofNat r.toNat
    apply Int32.toBitVec_inj.mp
    show r.toBitVec = BitVec.ofNat 32 r.toNat
    apply BitVec.eq_of_toNat_eq
    rw [BitVec.toNat_ofNat]
    exact (Nat.mod_eq_of_lt r.toBitVec.isLt).symm
section LK
variable {p : Program} {l : Launch} {e : Env} {s : State} {m : MethodId} {below : List Frame} {meth : Method} {c : Code} {b L : Nat} {xs : Nat → Int32} {D : ag_D} {cJ : ClassId} {H : Heap} {locs : List Loc} {cells slots : Nat} {Q : State → Prop} {h h1 h2 : ag_H} {pc i k d : Nat} {ls : Array Slot} {rest : List Value} {v0 : Int64}
/-- an int of the script -/
theorem lk_ld (X : LX p l s m meth c b L xs D cJ) (hS : va_S (lA s.heap.size) s.heap H locs) {j : Int} (d1 : decode code pc = .ok (.aload_n 0, 1)) (d2 : decode code (pc + 1) = .ok (.iload 4, 2)) (d3 : decode code (pc + 1 + 2) = .ok (.iconst j, 1)) (d4 : decode code (pc + 1 + 2 + 1) = .ok (.iadd, 1)) (d5 : decode code (pc + 1 + 2 + 1 + 1) = .ok (.iaload, 1)) (hj : Int32.ofInt j = nI k) (hk : i + k < L) (h0 : ls[0]? = some (.val (.ref b))) (h4 : ls[4]? = some (.val (.int (nI i))))
    (kk : W p l e room_1 s m #[Value.ref b] below meth c H locs cells slots Q (F0 m (pc + 1 + 2 + 1 + 1 + 1) ls (.int (xs (i + k)) :: rest))) : W p l e room_1 s m #[Value.ref b] below meth c H locs cells slots Q (F0 m pc ls rest) := by
  obtain ⟨htr, hx, hb, hr, hml, hown, hts, hX, hbl, hlk, hW, hJ, hnc, hL⟩ := X
  refine lv_aload_n hx hb d1 rfl h0 ?_
  refine lv_iload hx hb d2 h4 ?_
  refine lv_iconst (v := nI k) hx hb d3 hj ?_
  refine lv_iadd hx hb d4 ?_
  rw [nI_add]
  have hbA : ¬ lA s.heap.size b := Nat.not_le.mpr hbl
  refine va_sld hx hb hX hbl hbA hS (vp_in_nI hk (by omega)) d5 ?_
  rw [nI_clamp (by omega)]
  exact kk
/-- a boolean out of an int -/
theorem lk_bl (X : LX p l s m meth c b L xs D cJ) {x : Int32} (d1 : decode code pc = .ok (.ifCond .eq 7, 3)) (d2 : decode code (pc + 3) = .ok (.iconst 1, 1)) (d3 : decode code (pc + 3 + 1) = .ok (.goto 4, 3)) (d4 : decode code (pc + 7) = .ok (.iconst 0, 1))
    (kk : W p l e room_1 s m #[Value.ref b] below meth c H locs cells slots Q (F0 m (pc + 8) ls (.int (bI (decide (x ≠ 0))) :: rest))) : W p l e room_1 s m #[Value.ref b] below meth c H locs cells slots Q (F0 m pc ls (.int x :: rest)) := by
  obtain ⟨htr, hx, hb, hr, hml, hown, hts, hX, hbl, hlk, hW, hJ, hnc, hL⟩ := X
  refine lv_if_eq (tgt := pc + 7) hx hb d1 (by omega) (fun e1 => ?_) (fun e1 => ?_)
  · refine lv_iconst (v := nI 0) hx hb d4 (by decide) ?_
    rw [decide_eq_false (fun h9 => h9 e1)] at kk
    exact kk
  · refine lv_iconst (v := nI 1) hx hb d2 (by decide) ?_
    refine lv_goto (tgt := pc + 8) hx hb d3 (by omega) ?_
    rw [decide_eq_true e1] at kk
    exact kk
/-- a call that returns an int -/
theorem lk_run (X : LX p l s m meth c b L xs D cJ) (hH : LH D cJ s h1 H v0 locs) {y idx a ci : Nat} {fs : List ag_V} {As : List Int32} {r : Int32} (hrun : ag_run gT d y (.inr (some a) :: As.map .inl) h1 = some (.inl (some (.inl r)), h2)) (ha : h1.2.2 a = some (ci, fs)) (hci : gCn y = ci) (hok : (y, As.length) ∈ lNs) (hll : (idx, y) ∈ gLL) (hFr : gF y + 1 ≤ 12) (hLr : 8 + ((gT y).1 + 11) + gLo y ≤ 450) (hz : h2.1 ≤ 601024) (hs : h2.2.1 ≤ 7293034) (h8 : (rest.map fun v => v.category).sum ≤ 8) (hls : ls.size = 7) (hd : decode code pc = .ok (.invokevirtual idx, 3)) {st : List Value} (hst : st = (As.map Value.int).reverse ++ .ref (a + s.heap.size) :: rest)
    (kk : ∀ (H1 : Heap) (lc : List Loc), LH D cJ s h2 H1 v0 lc → W p l e room_1 s m #[Value.ref b] below meth c H1 lc h2.1 h2.2.1 Q (F0 m (pc + 3) ls (.int r :: rest))) : W p l e room_1 s m #[Value.ref b] below meth c H locs h1.1 h1.2.1 Q (F0 m pc ls st) := by
  obtain ⟨htr, hx, hb, hr, hml, hown, hts, hX, hbl, hlk, hW, hJ, hnc, hL⟩ := X
  obtain ⟨hR, h263, hout, hS⟩ := hH
  have hmo := m_run gT _ _ _ _ _ hrun
  have hmo1 : h1.1 ≤ h2.1 := hmo.1
  have hmo2 : h1.2.1 ≤ h2.2.1 := hmo.2
  have hrun2 := sh_run (o := s.heap.size) hrun
  have hsz : H.size = h1.1 + s.heap.size := hR.1
  refine lc_virt (A := lA s.heap.size) (B := lB s.heap.size) (nL := 7) (As := As.map .inl) (a := a + s.heap.size) (fs := fs.map (sv s.heap.size)) (ci := ci) (rest := rest) htr hx hb hml hown hts hW (fun q hq => hq.1) (bl_lB (by omega)) hS hls hrun2 hR (by rw [sH_at, ha]; rfl) hci (by rw [List.length_map]; exact hok) hll hFr hLr ?_ ?_ h8 hd ?_ (fun x hx9 => by cases hx9) (fun v hv H1 lc hR1 hk1 hS1 => ?_)
  · show h1.1 + (h2.1 + s.heap.size - (h1.1 + s.heap.size)) ≤ 601024
    omega
  · show h1.2.1 + (h2.2.1 - h1.2.1) ≤ 7293034
    omega
  · rw [hst, List.map_map]
    rfl
  · cases hv
    refine W.widen (k := h2.1) (n := h2.2.1) ?_ ?_ (kk H1 lc ⟨hR1, by omega, ?_, hS1⟩)
    · show h1.1 + (h2.1 + s.heap.size - (h1.1 + s.heap.size)) ≤ h2.1
      omega
    · show h1.2.1 + (h2.2.1 - h1.2.1) ≤ h2.2.1
      omega
    · rw [hk1 (262 + s.heap.size) (by omega) (fun h9 => h9.2 rfl)]
      exact hout
/-- a wrapper is called -/
theorem lk_wrap (X : LX p l s m meth c b L xs D cJ) (hH : LH D cJ s h H v0 locs) {y : MethodName} {bytes : ByteArray} {maxL n idx : Nat} {hh : List (Nat × Nat × Nat × Nat)} {ws : List Cond} {rm : Room} {oc : ag_O} {cl : List Nat} {As : List Value}
    (hM : Met l y ws rm (lP D (lA s.heap.size) (lB s.heap.size) cJ (262 + s.heap.size) As (sH s.heap.size 0 h) v0) (lQ D (lA s.heap.size) (lB s.heap.size) cJ (262 + s.heap.size) (sO s.heap.size oc, sH s.heap.size 0 h1) cl) ((sH s.heap.size 0 h1).1 - (sH s.heap.size 0 h).1) ((sH s.heap.size 0 h1).2.1 - (sH s.heap.size 0 h).2.1) (lA s.heap.size))
    (cw : vx_CSW room_1 s #[Value.ref b] lR idx y bytes maxL (some .int) hh ws rm ((sH s.heap.size 0 h1).1 - (sH s.heap.size 0 h).1) ((sH s.heap.size 0 h1).2.1 - (sH s.heap.size 0 h).2.1) n) (hn : As.length = n) (hm1 : h.1 ≤ h1.1) (hm2 : h.2.1 ≤ h1.2.1) (hz : h1.1 ≤ 601024) (hs : h1.2.1 ≤ 7293034) (hls : ls.size = 7) (hd : decode code pc = .ok (.invokestatic idx, 3)) {st : List Value} (hst : st = As.reverse)
    (kk : ∀ (k : Nat) (v1 : Int64) (H1 : Heap) (lc : List Loc), LH D cJ s h1 H1 v1 lc → ((∃ x : Int32, oc = .inl (some (.inl x)) ∧ k = 0 ∧ v1 = x.toInt64) ∨ ∃ e, oc = .inr e ∧ k = cl.getD e 0) → W p l e room_1 s m #[Value.ref b] below meth c H1 lc h1.1 h1.2.1 Q (F0 m (pc + 3) ls [.int (nI k)])) : W p l e room_1 s m #[Value.ref b] below meth c H locs h.1 h.2.1 Q (F0 m pc ls st) := by
  subst hst
  obtain ⟨htr, hx, hb, hr, hml, hown, hts, hX, hbl, hlk, hW, hJ, hnc, hL⟩ := X
  obtain ⟨hR, h263, hout, hS⟩ := hH
  have hsz : H.size = h.1 + s.heap.size := hR.1
  have run := vx_runSW (p := p) (l := l) (e := e) (R := room_1) (s := s) (m := m) (args := #[Value.ref b]) (below := below) (meth := meth) (c := c) (H := H) (locs := locs) (cells := h.1) (slots := h.2.1) (cc := code) (nL := 7) (Ts := gw) (own := lR) (index := idx) (As := As) (rest := []) (g := F0 m pc ls As.reverse) ⟨hx, hb, hml, hown, hts⟩ hM cw
    ⟨lP.blind, fun U hU hWm => ⟨rfl, by rw [hU]; exact hR, hW.warm hS hU hWm, by rw [hU]; exact bl_lB (by omega), by rw [hU]; exact hout, arrOfT_moved hWm.alike hJ, fun a b ha hb9 hab => (hnc a b ha hb9 hab).moved9 hWm.alike⟩⟩ rfl hn hls (by simp [F0]) (by show 2 * 0 + _ ≤ 8; simp) hd ⟨(by show h.1 + (h1.1 + s.heap.size - (h.1 + s.heap.size)) ≤ 601024; omega), (by show h.2.1 + (h1.2.1 - h.2.1) ≤ 7293034; omega)⟩
  intro T hT Xs
  obtain ⟨v, st₀, t, T', Lc, e0, X', hL9, e1, e2, ⟨k, v1, g1, g2, g3, g4, g5⟩, go⟩ := run T hT Xs
  cases g1
  obtain ⟨-, -, k3⟩ := vx_keep e0 e1 hS (fun q _ hq => hq) (fun q hq => hq) hL9 g4
  have hk := kk k v1 T'.heap (locs ++ Lc) ⟨by rw [e1]; exact g2, by omega, by rw [e1]; exact g3, k3⟩ (by
    rcases g5 with ⟨x, q1, q2, q3⟩ | ⟨e9, q1, q2⟩
    · left
      rcases oc with (_ | x' | r') | e'
      · cases q1
      · cases q1; exact ⟨_, rfl, q2, q3⟩
      · cases q1
      · cases q1
    · right
      rcases oc with o' | e'
      · cases q1
      · cases q1; exact ⟨_, rfl, q2⟩)
  obtain ⟨t2, a1, b1⟩ := (W.widen (k := h1.1) (n := h1.2.1) (by show h.1 + (h1.1 + s.heap.size - (h.1 + s.heap.size)) ≤ h1.1; omega) (by show h.2.1 + (h1.2.1 - h.2.1) ≤ h1.2.1; omega) hk) T' rfl X'
  exact ⟨t2, go t2 a1, b1⟩
/-- the end of a case: the answers are compared -/
theorem lk_tail (X : LX p l s m meth c b L xs D cJ) (hH : LH D cJ s h2 H v0 locs) {t0 t : Nat} {bv : Int32} {off : Int} {fs : List ag_V} (h11 : h2.2.2 230 = some (11, fs)) (hrun : ag_run gT d 113 [.inr (some 230)] h2 = some (.inl (some (.inl (nI t))), h2)) (hsp : (k = 0 ∧ t = 0 ∧ v0 = bv.toInt64) ∨ (k = t ∧ 0 < t ∧ t < 5)) (hz : h2.1 ≤ 601024) (hs : h2.2.1 ≤ 7293034)
    (d0 : decode code t0 = .ok (.istore 6, 2)) (d1 : decode code (t0 + 2) = .ok (.aload_n 2, 1)) (d2 : decode code (t0 + 2 + 1) = .ok (.invokevirtual 71, 3)) (d3 : decode code (t0 + 2 + 1 + 3) = .ok (.iload 5, 2)) (d4 : decode code (t0 + 2 + 1 + 3 + 2) = .ok (.if_icmp .eq 5, 3)) (d5 : decode code (t0 + 13) = .ok (.iload 5, 2)) (d6 : decode code (t0 + 13 + 2) = .ok (.ifCond .ne 15, 3)) (d7 : decode code (t0 + 13 + 2 + 3) = .ok (.aload_n 3, 1)) (d8 : decode code (t0 + 13 + 2 + 3 + 1) = .ok (.iconst 0, 1)) (d9 : decode code (t0 + 13 + 2 + 3 + 1 + 1) = .ok (.laload, 1)) (d10 : decode code (t0 + 13 + 2 + 3 + 1 + 1 + 1) = .ok (.iload 6, 2)) (d11 : decode code (t0 + 13 + 2 + 3 + 1 + 1 + 1 + 2) = .ok (.i2l, 1)) (d12 : decode code (t0 + 13 + 2 + 3 + 1 + 1 + 1 + 2 + 1) = .ok (.lcmp, 1)) (d13 : decode code (t0 + 13 + 2 + 3 + 1 + 1 + 1 + 2 + 1 + 1) = .ok (.ifCond .eq 5, 3)) (d14 : decode code (t0 + 30) = .ok (.goto off, 3)) (ht : ((t0 + 30 : Nat) : Int) + off = ((1126 : Nat) : Int))
    (hl : lv_has ls 7 [(5, .int (nI k)), (4, .int (nI i)), (0, .ref b), (1, .ref (0 + s.heap.size)), (2, .ref (230 + s.heap.size)), (3, .ref (262 + s.heap.size))])
    (kk : ∀ (H1 : Heap) (lc : List Loc) (ls : Array Slot), LH D cJ s h2 H1 v0 lc → lv_has ls 7 [(4, .int (nI i)), (0, .ref b), (1, .ref (0 + s.heap.size)), (2, .ref (230 + s.heap.size)), (3, .ref (262 + s.heap.size))] → W p l e room_1 s m #[Value.ref b] below meth c H1 lc h2.1 h2.2.1 Q (F0 m 1126 ls [])) : W p l e room_1 s m #[Value.ref b] below meth c H locs h2.1 h2.2.1 Q (F0 m t0 ls [.int bv]) := by
  have X0 := X
  obtain ⟨htr, hx, hb, hr, hml, hown, hts, hX, hbl, hlk, hW, hJ, hnc, hL⟩ := X
  refine lv_istore (lv' := [(6, .int bv), (5, .int (nI k)), (4, .int (nI i)), (0, .ref b), (1, .ref (0 + s.heap.size)), (2, .ref (230 + s.heap.size)), (3, .ref (262 + s.heap.size))]) hx hb d0 hl (by decide) rfl (fun ls hl => ?_)
  refine lv_aload_n hx hb d1 rfl (lv_at hl 5 rfl) ?_
  refine lk_run (As := []) (a := 230) (h1 := h2) (h2 := h2) (r := nI t) (rest := []) X0 hH hrun h11 (by decide) (by decide) (by decide) (by decide) (by decide) hz hs (by decide) hl.1 d2 rfl (fun H1 lc hH1 => ?_)
  refine lv_iload hx hb d3 (lv_at hl 1 rfl) ?_
  refine lv_icmp_eq (tgt := t0 + 13) hx hb d4 (by omega) (fun e1 => ?_) (fun e1 => ?_)
  · refine lv_iload hx hb d5 (lv_at hl 1 rfl) ?_
    have hfin : W p l e room_1 s m #[Value.ref b] below meth c H1 lc h2.1 h2.2.1 Q (F0 m (t0 + 30) ls []) := lv_goto (tgt := 1126) hx hb d14 ht (kk H1 lc ls hH1 (lv_sub hl [2, 3, 4, 5, 6] rfl))
    refine lv_if_ne (tgt := t0 + 30) hx hb d6 (by omega) (fun e2 => hfin) (fun e2 => ?_)
    refine lv_aload_n hx hb d7 rfl (lv_at hl 6 rfl) ?_
    refine lv_iconst (v := 0) hx hb d8 (by decide) ?_
    refine W.lald (v := .long v0) hx hb hH1.2.2.1 (hJ 1 _) (fun q => by cases q) (by rw [arrV_size]; decide) (by rw [show (0 : Int32).toNatClampNeg = 0 from rfl, arrV_read _ _ (by decide)]) rfl rfl d9 ?_
    refine (show W p l e room_1 s m #[Value.ref b] below meth c H1 lc h2.1 h2.2.1 Q (F0 m (t0 + 13 + 2 + 3 + 1 + 1 + 1) ls [.long v0]) from ?_)
    refine lv_iload hx hb d10 (lv_at hl 0 rfl) ?_
    refine lv_i2l (v := bv.toInt64) hx hb d11 rfl ?_
    refine W.lcmp hx hb d12 ?_
    refine lv_if_eq (tgt := t0 + 30) hx hb d13 (by omega) (fun e3 => hfin) (fun e3 => ?_)
    exfalso
    rcases hsp with ⟨-, -, q3⟩ | ⟨q1, q2, q3⟩
    · exact e3 ((lg_cmp_eq _ _).mpr q3)
    · have e2 : nI k = nI 0 := e2
      rw [nI_eq (by omega) (by omega)] at e2
      omega
  · exfalso
    apply e1
    rcases hsp with ⟨q1, q2, -⟩ | ⟨q1, -, -⟩
    · rw [q1, q2]
    · rw [q1]
end LK

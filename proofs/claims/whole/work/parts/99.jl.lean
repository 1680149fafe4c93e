/-! THE LAW'S WRAPPERS: the class's call, its throws caught -/
theorem ag_rep.other {D : ag_D} {B : Nat → Prop} {h : ag_H} {H H1 : Heap} {o : Nat} (hR : ag_rep D B h H) (ho : ¬ B o) (z1 : H1.size = H.size) (o1 : ∀ q : Nat, q ≠ o → H1[q]? = H[q]?) : ag_rep D B h H1 := ⟨z1.trans hR.1, fun a q hq => ⟨(hR.2 a q hq).1, (hR.2 a q hq).2.kept (o1 a (fun e => ho (e ▸ (hR.2 a q hq).1)))⟩⟩
theorem arrV1 (cJ : ClassId) (f : Nat → Value) (x : Value) : (arrV cJ 1 f).setSlot 0 x = arrV cJ 1 (fun _ => x) := by
  rw [arrV_store]
  unfold arrV
  congr 2
  funext j
  have : j.val = 0 := by have := j.isLt; omega
  simp [updV, this]
section LT
variable {p : Program} {l : Launch} {e : Env} {R : Room} {s : State} {m : MethodId} {args : Array Value} {below : List Frame} {meth : Method} {c : Code} {cc : ByteArray} {nL : Nat} {H H1 : Heap} {lc : List Loc} {cells slots : Nat} {D : ag_D} {A B : Nat → Prop} {ls : Array Slot} {cJ : ClassId} {o : Nat} {r : ag_O × ag_H} {cl : List Nat} {v0 : Int64} {mc ms : Nat}
theorem lt_ok (hx : p.tables.exec = Jvm.exec) (hb : c.code = cc) (hr : meth.sig.returnType = some .int) (hlk : meth.locks = false) {k tgt : Nat} {off : Int} (d1 : decode cc k = .ok (.i2l, 1)) (d2 : decode cc (k + 1) = .ok (.lastore, 1)) (d3 : decode cc (k + 1 + 1) = .ok (.goto off, 3)) (ht : ((k + 1 + 1 : Nat) : Int) + off = (tgt : Int)) (d4 : decode cc tgt = .ok (.iconst 0, 1)) (d5 : decode cc (tgt + 1) = .ok (.ireturn, 1))
    (hoA : A o) (hoB : ¬ B o) (hout : H1[o]? = some (arrV cJ 1 fun _ => .long v0)) (hJ : ArrOfT s cJ .long) (hR1 : ag_rep D B r.2 H1) (hS1 : va_S A s.heap H1 lc) {z : Int32} (hz : r.1 = .inl (some (.inl z))) (hc : cells ≤ mc) (hs : slots ≤ ms) {XC : String → State → State → Prop} :
    W p l e R s m args below meth c H1 lc cells slots (vx_MQ below (lQ D A B cJ o r cl) XC args s mc ms A) (F0 m k ls [.int z, .int 0, .ref o]) := by
  refine lv_i2l (v := z.toInt64) hx hb d1 rfl ?_
  refine W.last hx hb hout (hJ 1 _) (fun q => by cases q) (by rw [arrV_size]; decide) rfl rfl d2 fun H2 e1 z1 o1 => ?_
  have e1 : H2[o]? = some (arrV cJ 1 fun _ => .long z.toInt64) := by rw [e1]; exact congrArg some (arrV1 cJ _ _)
  have hS2 : va_S A s.heap H2 (lc ++ [⟨o, (0 : Int32).toNatClampNeg⟩]) := hS1.put z1 o1 hoA
  refine lv_goto (tgt := tgt) hx hb d3 ht ?_
  refine lv_iconst (v := nI 0) hx hb d4 (by decide) ?_
  refine W.widen (k := mc) (n := ms) hc hs (vx_ret (W.iret hx hb hr (fun t ht9 hWm => ⟨0, z.toInt64, rfl, by rw [ht9]; exact hR1.other hoB z1 o1, by rw [ht9]; exact e1, hS2.F ht9, Or.inl ⟨z, hz, rfl, rfl⟩⟩) hS2.2.2 d5 hlk))
theorem lt_ex (hx : p.tables.exec = Jvm.exec) (hb : c.code = cc) (hr : meth.sig.returnType = some .int) (hlk : meth.locks = false) {k n : Nat} {i : Int} (hi : Int32.ofInt i = nI n) (d4 : decode cc k = .ok (.iconst i, 1)) (d5 : decode cc (k + 1) = .ok (.ireturn, 1))
    (hout : H1[o]? = some (arrV cJ 1 fun _ => .long v0)) (hR1 : ag_rep D B r.2 H1) (hS1 : va_S A s.heap H1 lc) {x : Nat} (hz : r.1 = .inr x) (hn : n = cl.getD x 0) (hc : cells ≤ mc) (hs : slots ≤ ms) {XC : String → State → State → Prop} :
    W p l e R s m args below meth c H1 lc cells slots (vx_MQ below (lQ D A B cJ o r cl) XC args s mc ms A) (F0 m k ls []) := by
  refine lv_iconst (v := nI n) hx hb d4 hi ?_
  exact W.widen (k := mc) (n := ms) hc hs (vx_ret (W.iret hx hb hr (fun t ht9 hWm => ⟨n, v0, rfl, by rw [ht9]; exact hR1, by rw [ht9]; exact hout, hS1.F ht9, Or.inr ⟨x, hz, hn⟩⟩) hS1.2.2 d5 hlk))
end LT
theorem dW_type_0 : decode method_3_code 0 = .ok (.aload_n 2, 1) := by decide +kernel
theorem dW_type_1 : decode method_3_code 1 = .ok (.iconst 0, 1) := by decide +kernel
theorem dW_type_2 : decode method_3_code 2 = .ok (.aload_n 0, 1) := by decide +kernel
theorem dW_type_3 : decode method_3_code 3 = .ok (.iload_n 1, 1) := by decide +kernel
theorem dW_type_4 : decode method_3_code 4 = .ok (.invokevirtual 7, 3) := by decide +kernel
theorem dW_type_7 : decode method_3_code 7 = .ok (.i2l, 1) := by decide +kernel
theorem dW_type_8 : decode method_3_code 8 = .ok (.lastore, 1) := by decide +kernel
theorem dW_type_9 : decode method_3_code 9 = .ok (.goto 6, 3) := by decide +kernel
theorem dW_type_12 : decode method_3_code 12 = .ok (.astore_n 3, 1) := by decide +kernel
theorem dW_type_13 : decode method_3_code 13 = .ok (.iconst 1, 1) := by decide +kernel
theorem dW_type_14 : decode method_3_code 14 = .ok (.ireturn, 1) := by decide +kernel
theorem dW_type_15 : decode method_3_code 15 = .ok (.iconst 0, 1) := by decide +kernel
theorem dW_type_16 : decode method_3_code 16 = .ok (.ireturn, 1) := by decide +kernel
def yW_type : MethodName := ⟨lR, "type", "(LNameSpaces;C[J)I"⟩
def wW_type : List Cond := .codeWith yW_type method_3_code 4 (some .int) [(0, 9, 12, 13)] :: gw
def rW_type (h : ag_H) (r : ag_O × ag_H) : Room := { frames := gF 63 + 1, cells := r.2.1 - h.1, slots := r.2.2.1 - h.2.1, locals := 8 + ((gT 63).1 + 11) + gLo 63 }
set_option maxRecDepth 100000 in
theorem w_type {l : Launch} (htr : l.stackTraces = false) {D : ag_D} {A B : Nat → Prop} (hBA : ∀ q, B q → A q) {cJ : ClassId} {o : Nat} (hoA : A o) (hoB : ¬ B o) {d x : Nat} {fs : List ag_V} {v : Int32} {h : ag_H} {r : ag_O × ag_H} {v0 : Int64} (hrun : ag_run gT d 63 (.inr (some x) :: [.inl v]) h = some r) (ha : h.2.2 x = some (10, fs)) (ho : (∃ z, r.1 = .inl (some (.inl z))) ∨ ∃ e, r.1 = .inr e ∧ e < 4 ∧ 0 < [0, 1, 0, 0].getD e 0) : Met l yW_type wW_type (rW_type h r) (lP D A B cJ o [.ref x, .int v, .ref o] h v0) (lQ D A B cJ o r [0, 1, 0, 0]) (r.2.1 - h.1) (r.2.2.1 - h.2.1) A := by
  refine lMet (vx_ofWH (cc := method_3_code) (maxL := 4) (ret := some .int) (hh := [(0, 9, 12, 13)]) (by decide) rfl ?_)
  intro p e s m args below meth c s₁ BB hml hv
  obtain ⟨rfl, hR, hW, hbs, hout, hJ, hnc⟩ := hv
  have hx := BB.exec
  have hb := BB.bytes
  have hr := BB.returns
  have hts0 := atoms_spec (ws := wW_type) BB.pre
  have hts : ∀ w ∈ gw, w.before _ s = true := fun w hw => hts0 w (List.mem_cons_of_mem _ hw)
  have htab := vx_table (x := yW_type) BB (hts0 _ List.mem_cons_self)
  have hown : s.vm.findClass lR = some m.cls := findClass_of_methodNamed BB.named
  have hlk := BB.notSynchronized
  have hl := lv_entry ([.ref x, .int v, .ref o]) (n := 4) (Nat.le_of_ble_eq_true rfl)
  rw [lg_entry_eq]
  generalize (lg_sl ([.ref x, .int v, .ref o]) ++ List.replicate (4 - (lg_sl ([.ref x, .int v, .ref o])).length) Slot.unset).toArray = ls at hl ⊢
  have hl : lv_has ls 4 [(0, .ref x), (1, .int v), (2, .ref o)] := hl
  have hS : va_S A s.heap s.heap [] := va_S.rf
  have ohl : o < s.heap.size := (Array.getElem?_eq_some_iff.mp hout).1
  refine lv_aload_n hx hb dW_type_0 rfl (lv_at hl 2 rfl) ?_
  refine lv_iconst (v := 0) hx hb dW_type_1 (by decide) ?_
  refine lv_aload_n hx hb dW_type_2 rfl (lv_at hl 0 rfl) ?_
  refine lv_iload_n hx hb dW_type_3 rfl (lv_at hl 1 rfl) ?_
  refine lc_virt (As := [.inl v]) (rest := [.int 0, .ref o]) (nL := 4) htr hx hb hml hown hts hW hBA hbs hS hl.1 hrun hR ha rfl (show (63, 1) ∈ lNs by decide) (by decide) (Nat.le_refl _) (Nat.le_refl _) (by rw [Nat.zero_add]; exact Nat.le_refl _) (by rw [Nat.zero_add]; exact Nat.le_refl _) (Nat.le_of_ble_eq_true rfl) dW_type_4 rfl ?_ ?_
  · intro y hy H1 lc q9 ce hR1 hk1 hS1 hce hcv hcl
    have hout1 : H1[o]? = some (arrV cJ 1 fun _ => .long v0) := (hk1 o ohl hoB).trans hout
    obtain ⟨hy4, hy0⟩ : y < 4 ∧ 0 < [0, 1, 0, 0].getD y 0 := by
      rcases ho with ⟨z, hz⟩ | ⟨e9, he, h4, h0⟩
      · rw [hz] at hy; cases hy
      · rw [he] at hy; cases hy; exact ⟨h4, h0⟩
    have : y = 0 ∨ y = 1 ∨ y = 2 ∨ y = 3 := by omega
    rcases this with rfl | rfl | rfl | rfl
    · exact absurd hy0 (by decide)
    · refine lc_catch hown hts hW hnc htab (x := 1) (by decide) hce hcv hcl [] [] (a1 := 0) (a2 := 9) (a3 := 12) (a4 := 13) rfl (by
        intro z hz
        cases hz) (by decide) (by decide) (by decide) (by decide) ?_
      refine lv_astore_n (lv' := (3, .ref q9) :: [(0, .ref x), (1, .int v), (2, .ref o)]) hx hb dW_type_12 rfl hl (by decide) rfl (fun ls9 hl9 => ?_)
      exact lt_ex (n := 1) hx hb hr hlk (by decide) dW_type_13 dW_type_14 hout1 hR1 hS1 hy rfl (by omega) (by omega)
    · exact absurd hy0 (by decide)
    · exact absurd hy0 (by decide)
  · intro v9 hv9 H1 lc hR1 hk1 hS1
    have hout1 : H1[o]? = some (arrV cJ 1 fun _ => .long v0) := (hk1 o ohl hoB).trans hout
    rcases ho with ⟨z, hz⟩ | ⟨e9, he, -⟩
    · have e9 : v9 = some (.inl z) := by rw [hz] at hv9; cases hv9; rfl
      subst e9
      exact lt_ok (tgt := 15) hx hb hr hlk dW_type_7 dW_type_8 dW_type_9 (by decide) dW_type_15 dW_type_16 hoA hoB hout1 hJ hR1 hS1 hz (by omega) (by omega)
    · rw [he] at hv9; cases hv9
theorem dW_open_0 : decode method_4_code 0 = .ok (.aload_n 3, 1) := by decide +kernel
theorem dW_open_1 : decode method_4_code 1 = .ok (.iconst 0, 1) := by decide +kernel
theorem dW_open_2 : decode method_4_code 2 = .ok (.aload_n 0, 1) := by decide +kernel
theorem dW_open_3 : decode method_4_code 3 = .ok (.iload_n 1, 1) := by decide +kernel
theorem dW_open_4 : decode method_4_code 4 = .ok (.iload_n 2, 1) := by decide +kernel
theorem dW_open_5 : decode method_4_code 5 = .ok (.invokevirtual 15, 3) := by decide +kernel
theorem dW_open_8 : decode method_4_code 8 = .ok (.i2l, 1) := by decide +kernel
theorem dW_open_9 : decode method_4_code 9 = .ok (.lastore, 1) := by decide +kernel
theorem dW_open_10 : decode method_4_code 10 = .ok (.goto 19, 3) := by decide +kernel
theorem dW_open_13 : decode method_4_code 13 = .ok (.astore 4, 2) := by decide +kernel
theorem dW_open_15 : decode method_4_code 15 = .ok (.iconst 1, 1) := by decide +kernel
theorem dW_open_16 : decode method_4_code 16 = .ok (.ireturn, 1) := by decide +kernel
theorem dW_open_17 : decode method_4_code 17 = .ok (.astore 4, 2) := by decide +kernel
theorem dW_open_19 : decode method_4_code 19 = .ok (.iconst 2, 1) := by decide +kernel
theorem dW_open_20 : decode method_4_code 20 = .ok (.ireturn, 1) := by decide +kernel
theorem dW_open_21 : decode method_4_code 21 = .ok (.astore 4, 2) := by decide +kernel
theorem dW_open_23 : decode method_4_code 23 = .ok (.iconst 3, 1) := by decide +kernel
theorem dW_open_24 : decode method_4_code 24 = .ok (.ireturn, 1) := by decide +kernel
theorem dW_open_25 : decode method_4_code 25 = .ok (.astore 4, 2) := by decide +kernel
theorem dW_open_27 : decode method_4_code 27 = .ok (.iconst 4, 1) := by decide +kernel
theorem dW_open_28 : decode method_4_code 28 = .ok (.ireturn, 1) := by decide +kernel
theorem dW_open_29 : decode method_4_code 29 = .ok (.iconst 0, 1) := by decide +kernel
theorem dW_open_30 : decode method_4_code 30 = .ok (.ireturn, 1) := by decide +kernel
def yW_open : MethodName := ⟨lR, "open", "(LNameSpaces;II[J)I"⟩
def wW_open : List Cond := .codeWith yW_open method_4_code 5 (some .int) [(0, 10, 13, 19), (0, 10, 17, 13), (0, 10, 21, 21), (0, 10, 25, 23)] :: gw
def rW_open (h : ag_H) (r : ag_O × ag_H) : Room := { frames := gF 65 + 1, cells := r.2.1 - h.1, slots := r.2.2.1 - h.2.1, locals := 8 + ((gT 65).1 + 11) + gLo 65 }
set_option maxRecDepth 100000 in
theorem w_open {l : Launch} (htr : l.stackTraces = false) {D : ag_D} {A B : Nat → Prop} (hBA : ∀ q, B q → A q) {cJ : ClassId} {o : Nat} (hoA : A o) (hoB : ¬ B o) {d x : Nat} {fs : List ag_V} {v w : Int32} {h : ag_H} {r : ag_O × ag_H} {v0 : Int64} (hrun : ag_run gT d 65 (.inr (some x) :: [.inl v, .inl w]) h = some r) (ha : h.2.2 x = some (10, fs)) (ho : (∃ z, r.1 = .inl (some (.inl z))) ∨ ∃ e, r.1 = .inr e ∧ e < 4 ∧ 0 < [1, 2, 3, 4].getD e 0) : Met l yW_open wW_open (rW_open h r) (lP D A B cJ o [.ref x, .int v, .int w, .ref o] h v0) (lQ D A B cJ o r [1, 2, 3, 4]) (r.2.1 - h.1) (r.2.2.1 - h.2.1) A := by
  refine lMet (vx_ofWH (cc := method_4_code) (maxL := 5) (ret := some .int) (hh := [(0, 10, 13, 19), (0, 10, 17, 13), (0, 10, 21, 21), (0, 10, 25, 23)]) (by decide) rfl ?_)
  intro p e s m args below meth c s₁ BB hml hv
  obtain ⟨rfl, hR, hW, hbs, hout, hJ, hnc⟩ := hv
  have hx := BB.exec
  have hb := BB.bytes
  have hr := BB.returns
  have hts0 := atoms_spec (ws := wW_open) BB.pre
  have hts : ∀ w ∈ gw, w.before _ s = true := fun w hw => hts0 w (List.mem_cons_of_mem _ hw)
  have htab := vx_table (x := yW_open) BB (hts0 _ List.mem_cons_self)
  have hown : s.vm.findClass lR = some m.cls := findClass_of_methodNamed BB.named
  have hlk := BB.notSynchronized
  have hl := lv_entry ([.ref x, .int v, .int w, .ref o]) (n := 5) (Nat.le_of_ble_eq_true rfl)
  rw [lg_entry_eq]
  generalize (lg_sl ([.ref x, .int v, .int w, .ref o]) ++ List.replicate (5 - (lg_sl ([.ref x, .int v, .int w, .ref o])).length) Slot.unset).toArray = ls at hl ⊢
  have hl : lv_has ls 5 [(0, .ref x), (1, .int v), (2, .int w), (3, .ref o)] := hl
  have hS : va_S A s.heap s.heap [] := va_S.rf
  have ohl : o < s.heap.size := (Array.getElem?_eq_some_iff.mp hout).1
  refine lv_aload_n hx hb dW_open_0 rfl (lv_at hl 3 rfl) ?_
  refine lv_iconst (v := 0) hx hb dW_open_1 (by decide) ?_
  refine lv_aload_n hx hb dW_open_2 rfl (lv_at hl 0 rfl) ?_
  refine lv_iload_n hx hb dW_open_3 rfl (lv_at hl 1 rfl) ?_
  refine lv_iload_n hx hb dW_open_4 rfl (lv_at hl 2 rfl) ?_
  refine lc_virt (As := [.inl v, .inl w]) (rest := [.int 0, .ref o]) (nL := 5) htr hx hb hml hown hts hW hBA hbs hS hl.1 hrun hR ha rfl (show (65, 2) ∈ lNs by decide) (by decide) (Nat.le_refl _) (Nat.le_refl _) (by rw [Nat.zero_add]; exact Nat.le_refl _) (by rw [Nat.zero_add]; exact Nat.le_refl _) (Nat.le_of_ble_eq_true rfl) dW_open_5 rfl ?_ ?_
  · intro y hy H1 lc q9 ce hR1 hk1 hS1 hce hcv hcl
    have hout1 : H1[o]? = some (arrV cJ 1 fun _ => .long v0) := (hk1 o ohl hoB).trans hout
    obtain ⟨hy4, hy0⟩ : y < 4 ∧ 0 < [1, 2, 3, 4].getD y 0 := by
      rcases ho with ⟨z, hz⟩ | ⟨e9, he, h4, h0⟩
      · rw [hz] at hy; cases hy
      · rw [he] at hy; cases hy; exact ⟨h4, h0⟩
    have : y = 0 ∨ y = 1 ∨ y = 2 ∨ y = 3 := by omega
    rcases this with rfl | rfl | rfl | rfl
    · refine lc_catch hown hts hW hnc htab (x := 0) (by decide) hce hcv hcl [] [(0, 10, 17, 13), (0, 10, 21, 21), (0, 10, 25, 23)] (a1 := 0) (a2 := 10) (a3 := 13) (a4 := 19) rfl (by
        intro z hz
        cases hz) (by decide) (by decide) (by decide) (by decide) ?_
      refine lv_astore (lv' := (4, .ref q9) :: [(0, .ref x), (1, .int v), (2, .int w), (3, .ref o)]) hx hb dW_open_13 hl (by decide) rfl (fun ls9 hl9 => ?_)
      exact lt_ex (n := 1) hx hb hr hlk (by decide) dW_open_15 dW_open_16 hout1 hR1 hS1 hy rfl (by omega) (by omega)
    · refine lc_catch hown hts hW hnc htab (x := 1) (by decide) hce hcv hcl [(0, 10, 13, 19)] [(0, 10, 21, 21), (0, 10, 25, 23)] (a1 := 0) (a2 := 10) (a3 := 17) (a4 := 13) rfl (by
        intro z hz
        simp only [List.mem_cons, List.not_mem_nil, or_false] at hz
        rcases hz with rfl
        · exact ⟨by decide, by decide, by decide, 0, by decide, by decide, by decide⟩
        ) (by decide) (by decide) (by decide) (by decide) ?_
      refine lv_astore (lv' := (4, .ref q9) :: [(0, .ref x), (1, .int v), (2, .int w), (3, .ref o)]) hx hb dW_open_17 hl (by decide) rfl (fun ls9 hl9 => ?_)
      exact lt_ex (n := 2) hx hb hr hlk (by decide) dW_open_19 dW_open_20 hout1 hR1 hS1 hy rfl (by omega) (by omega)
    · refine lc_catch hown hts hW hnc htab (x := 2) (by decide) hce hcv hcl [(0, 10, 13, 19), (0, 10, 17, 13)] [(0, 10, 25, 23)] (a1 := 0) (a2 := 10) (a3 := 21) (a4 := 21) rfl (by
        intro z hz
        simp only [List.mem_cons, List.not_mem_nil, or_false] at hz
        rcases hz with rfl | rfl
        · exact ⟨by decide, by decide, by decide, 0, by decide, by decide, by decide⟩
        · exact ⟨by decide, by decide, by decide, 1, by decide, by decide, by decide⟩
        ) (by decide) (by decide) (by decide) (by decide) ?_
      refine lv_astore (lv' := (4, .ref q9) :: [(0, .ref x), (1, .int v), (2, .int w), (3, .ref o)]) hx hb dW_open_21 hl (by decide) rfl (fun ls9 hl9 => ?_)
      exact lt_ex (n := 3) hx hb hr hlk (by decide) dW_open_23 dW_open_24 hout1 hR1 hS1 hy rfl (by omega) (by omega)
    · refine lc_catch hown hts hW hnc htab (x := 3) (by decide) hce hcv hcl [(0, 10, 13, 19), (0, 10, 17, 13), (0, 10, 21, 21)] [] (a1 := 0) (a2 := 10) (a3 := 25) (a4 := 23) rfl (by
        intro z hz
        simp only [List.mem_cons, List.not_mem_nil, or_false] at hz
        rcases hz with rfl | rfl | rfl
        · exact ⟨by decide, by decide, by decide, 0, by decide, by decide, by decide⟩
        · exact ⟨by decide, by decide, by decide, 1, by decide, by decide, by decide⟩
        · exact ⟨by decide, by decide, by decide, 2, by decide, by decide, by decide⟩
        ) (by decide) (by decide) (by decide) (by decide) ?_
      refine lv_astore (lv' := (4, .ref q9) :: [(0, .ref x), (1, .int v), (2, .int w), (3, .ref o)]) hx hb dW_open_25 hl (by decide) rfl (fun ls9 hl9 => ?_)
      exact lt_ex (n := 4) hx hb hr hlk (by decide) dW_open_27 dW_open_28 hout1 hR1 hS1 hy rfl (by omega) (by omega)
  · intro v9 hv9 H1 lc hR1 hk1 hS1
    have hout1 : H1[o]? = some (arrV cJ 1 fun _ => .long v0) := (hk1 o ohl hoB).trans hout
    rcases ho with ⟨z, hz⟩ | ⟨e9, he, -⟩
    · have e9 : v9 = some (.inl z) := by rw [hz] at hv9; cases hv9; rfl
      subst e9
      exact lt_ok (tgt := 29) hx hb hr hlk dW_open_8 dW_open_9 dW_open_10 (by decide) dW_open_29 dW_open_30 hoA hoB hout1 hJ hR1 hS1 hz (by omega) (by omega)
    · rw [he] at hv9; cases hv9
theorem dW_create_0 : decode method_5_code 0 = .ok (.aload_n 3, 1) := by decide +kernel
theorem dW_create_1 : decode method_5_code 1 = .ok (.iconst 0, 1) := by decide +kernel
theorem dW_create_2 : decode method_5_code 2 = .ok (.aload_n 0, 1) := by decide +kernel
theorem dW_create_3 : decode method_5_code 3 = .ok (.iload_n 1, 1) := by decide +kernel
theorem dW_create_4 : decode method_5_code 4 = .ok (.iload_n 2, 1) := by decide +kernel
theorem dW_create_5 : decode method_5_code 5 = .ok (.invokevirtual 25, 3) := by decide +kernel
theorem dW_create_8 : decode method_5_code 8 = .ok (.i2l, 1) := by decide +kernel
theorem dW_create_9 : decode method_5_code 9 = .ok (.lastore, 1) := by decide +kernel
theorem dW_create_10 : decode method_5_code 10 = .ok (.goto 19, 3) := by decide +kernel
theorem dW_create_13 : decode method_5_code 13 = .ok (.astore 4, 2) := by decide +kernel
theorem dW_create_15 : decode method_5_code 15 = .ok (.iconst 1, 1) := by decide +kernel
theorem dW_create_16 : decode method_5_code 16 = .ok (.ireturn, 1) := by decide +kernel
theorem dW_create_17 : decode method_5_code 17 = .ok (.astore 4, 2) := by decide +kernel
theorem dW_create_19 : decode method_5_code 19 = .ok (.iconst 2, 1) := by decide +kernel
theorem dW_create_20 : decode method_5_code 20 = .ok (.ireturn, 1) := by decide +kernel
theorem dW_create_21 : decode method_5_code 21 = .ok (.astore 4, 2) := by decide +kernel
theorem dW_create_23 : decode method_5_code 23 = .ok (.iconst 3, 1) := by decide +kernel
theorem dW_create_24 : decode method_5_code 24 = .ok (.ireturn, 1) := by decide +kernel
theorem dW_create_25 : decode method_5_code 25 = .ok (.astore 4, 2) := by decide +kernel
theorem dW_create_27 : decode method_5_code 27 = .ok (.iconst 4, 1) := by decide +kernel
theorem dW_create_28 : decode method_5_code 28 = .ok (.ireturn, 1) := by decide +kernel
theorem dW_create_29 : decode method_5_code 29 = .ok (.iconst 0, 1) := by decide +kernel
theorem dW_create_30 : decode method_5_code 30 = .ok (.ireturn, 1) := by decide +kernel
def yW_create : MethodName := ⟨lR, "create", "(LNameSpaces;IZ[J)I"⟩
def wW_create : List Cond := .codeWith yW_create method_5_code 5 (some .int) [(0, 10, 13, 19), (0, 10, 17, 13), (0, 10, 21, 21), (0, 10, 25, 23)] :: gw
def rW_create (h : ag_H) (r : ag_O × ag_H) : Room := { frames := gF 66 + 1, cells := r.2.1 - h.1, slots := r.2.2.1 - h.2.1, locals := 8 + ((gT 66).1 + 11) + gLo 66 }
set_option maxRecDepth 100000 in
theorem w_create {l : Launch} (htr : l.stackTraces = false) {D : ag_D} {A B : Nat → Prop} (hBA : ∀ q, B q → A q) {cJ : ClassId} {o : Nat} (hoA : A o) (hoB : ¬ B o) {d x : Nat} {fs : List ag_V} {v w : Int32} {h : ag_H} {r : ag_O × ag_H} {v0 : Int64} (hrun : ag_run gT d 66 (.inr (some x) :: [.inl v, .inl w]) h = some r) (ha : h.2.2 x = some (10, fs)) (ho : (∃ z, r.1 = .inl (some (.inl z))) ∨ ∃ e, r.1 = .inr e ∧ e < 4 ∧ 0 < [1, 2, 3, 4].getD e 0) : Met l yW_create wW_create (rW_create h r) (lP D A B cJ o [.ref x, .int v, .int w, .ref o] h v0) (lQ D A B cJ o r [1, 2, 3, 4]) (r.2.1 - h.1) (r.2.2.1 - h.2.1) A := by
  refine lMet (vx_ofWH (cc := method_5_code) (maxL := 5) (ret := some .int) (hh := [(0, 10, 13, 19), (0, 10, 17, 13), (0, 10, 21, 21), (0, 10, 25, 23)]) (by decide) rfl ?_)
  intro p e s m args below meth c s₁ BB hml hv
  obtain ⟨rfl, hR, hW, hbs, hout, hJ, hnc⟩ := hv
  have hx := BB.exec
  have hb := BB.bytes
  have hr := BB.returns
  have hts0 := atoms_spec (ws := wW_create) BB.pre
  have hts : ∀ w ∈ gw, w.before _ s = true := fun w hw => hts0 w (List.mem_cons_of_mem _ hw)
  have htab := vx_table (x := yW_create) BB (hts0 _ List.mem_cons_self)
  have hown : s.vm.findClass lR = some m.cls := findClass_of_methodNamed BB.named
  have hlk := BB.notSynchronized
  have hl := lv_entry ([.ref x, .int v, .int w, .ref o]) (n := 5) (Nat.le_of_ble_eq_true rfl)
  rw [lg_entry_eq]
  generalize (lg_sl ([.ref x, .int v, .int w, .ref o]) ++ List.replicate (5 - (lg_sl ([.ref x, .int v, .int w, .ref o])).length) Slot.unset).toArray = ls at hl ⊢
  have hl : lv_has ls 5 [(0, .ref x), (1, .int v), (2, .int w), (3, .ref o)] := hl
  have hS : va_S A s.heap s.heap [] := va_S.rf
  have ohl : o < s.heap.size := (Array.getElem?_eq_some_iff.mp hout).1
  refine lv_aload_n hx hb dW_create_0 rfl (lv_at hl 3 rfl) ?_
  refine lv_iconst (v := 0) hx hb dW_create_1 (by decide) ?_
  refine lv_aload_n hx hb dW_create_2 rfl (lv_at hl 0 rfl) ?_
  refine lv_iload_n hx hb dW_create_3 rfl (lv_at hl 1 rfl) ?_
  refine lv_iload_n hx hb dW_create_4 rfl (lv_at hl 2 rfl) ?_
  refine lc_virt (As := [.inl v, .inl w]) (rest := [.int 0, .ref o]) (nL := 5) htr hx hb hml hown hts hW hBA hbs hS hl.1 hrun hR ha rfl (show (66, 2) ∈ lNs by decide) (by decide) (Nat.le_refl _) (Nat.le_refl _) (by rw [Nat.zero_add]; exact Nat.le_refl _) (by rw [Nat.zero_add]; exact Nat.le_refl _) (Nat.le_of_ble_eq_true rfl) dW_create_5 rfl ?_ ?_
  · intro y hy H1 lc q9 ce hR1 hk1 hS1 hce hcv hcl
    have hout1 : H1[o]? = some (arrV cJ 1 fun _ => .long v0) := (hk1 o ohl hoB).trans hout
    obtain ⟨hy4, hy0⟩ : y < 4 ∧ 0 < [1, 2, 3, 4].getD y 0 := by
      rcases ho with ⟨z, hz⟩ | ⟨e9, he, h4, h0⟩
      · rw [hz] at hy; cases hy
      · rw [he] at hy; cases hy; exact ⟨h4, h0⟩
    have : y = 0 ∨ y = 1 ∨ y = 2 ∨ y = 3 := by omega
    rcases this with rfl | rfl | rfl | rfl
    · refine lc_catch hown hts hW hnc htab (x := 0) (by decide) hce hcv hcl [] [(0, 10, 17, 13), (0, 10, 21, 21), (0, 10, 25, 23)] (a1 := 0) (a2 := 10) (a3 := 13) (a4 := 19) rfl (by
        intro z hz
        cases hz) (by decide) (by decide) (by decide) (by decide) ?_
      refine lv_astore (lv' := (4, .ref q9) :: [(0, .ref x), (1, .int v), (2, .int w), (3, .ref o)]) hx hb dW_create_13 hl (by decide) rfl (fun ls9 hl9 => ?_)
      exact lt_ex (n := 1) hx hb hr hlk (by decide) dW_create_15 dW_create_16 hout1 hR1 hS1 hy rfl (by omega) (by omega)
    · refine lc_catch hown hts hW hnc htab (x := 1) (by decide) hce hcv hcl [(0, 10, 13, 19)] [(0, 10, 21, 21), (0, 10, 25, 23)] (a1 := 0) (a2 := 10) (a3 := 17) (a4 := 13) rfl (by
        intro z hz
        simp only [List.mem_cons, List.not_mem_nil, or_false] at hz
        rcases hz with rfl
        · exact ⟨by decide, by decide, by decide, 0, by decide, by decide, by decide⟩
        ) (by decide) (by decide) (by decide) (by decide) ?_
      refine lv_astore (lv' := (4, .ref q9) :: [(0, .ref x), (1, .int v), (2, .int w), (3, .ref o)]) hx hb dW_create_17 hl (by decide) rfl (fun ls9 hl9 => ?_)
      exact lt_ex (n := 2) hx hb hr hlk (by decide) dW_create_19 dW_create_20 hout1 hR1 hS1 hy rfl (by omega) (by omega)
    · refine lc_catch hown hts hW hnc htab (x := 2) (by decide) hce hcv hcl [(0, 10, 13, 19), (0, 10, 17, 13)] [(0, 10, 25, 23)] (a1 := 0) (a2 := 10) (a3 := 21) (a4 := 21) rfl (by
        intro z hz
        simp only [List.mem_cons, List.not_mem_nil, or_false] at hz
        rcases hz with rfl | rfl
        · exact ⟨by decide, by decide, by decide, 0, by decide, by decide, by decide⟩
        · exact ⟨by decide, by decide, by decide, 1, by decide, by decide, by decide⟩
        ) (by decide) (by decide) (by decide) (by decide) ?_
      refine lv_astore (lv' := (4, .ref q9) :: [(0, .ref x), (1, .int v), (2, .int w), (3, .ref o)]) hx hb dW_create_21 hl (by decide) rfl (fun ls9 hl9 => ?_)
      exact lt_ex (n := 3) hx hb hr hlk (by decide) dW_create_23 dW_create_24 hout1 hR1 hS1 hy rfl (by omega) (by omega)
    · refine lc_catch hown hts hW hnc htab (x := 3) (by decide) hce hcv hcl [(0, 10, 13, 19), (0, 10, 17, 13), (0, 10, 21, 21)] [] (a1 := 0) (a2 := 10) (a3 := 25) (a4 := 23) rfl (by
        intro z hz
        simp only [List.mem_cons, List.not_mem_nil, or_false] at hz
        rcases hz with rfl | rfl | rfl
        · exact ⟨by decide, by decide, by decide, 0, by decide, by decide, by decide⟩
        · exact ⟨by decide, by decide, by decide, 1, by decide, by decide, by decide⟩
        · exact ⟨by decide, by decide, by decide, 2, by decide, by decide, by decide⟩
        ) (by decide) (by decide) (by decide) (by decide) ?_
      refine lv_astore (lv' := (4, .ref q9) :: [(0, .ref x), (1, .int v), (2, .int w), (3, .ref o)]) hx hb dW_create_25 hl (by decide) rfl (fun ls9 hl9 => ?_)
      exact lt_ex (n := 4) hx hb hr hlk (by decide) dW_create_27 dW_create_28 hout1 hR1 hS1 hy rfl (by omega) (by omega)
  · intro v9 hv9 H1 lc hR1 hk1 hS1
    have hout1 : H1[o]? = some (arrV cJ 1 fun _ => .long v0) := (hk1 o ohl hoB).trans hout
    rcases ho with ⟨z, hz⟩ | ⟨e9, he, -⟩
    · have e9 : v9 = some (.inl z) := by rw [hz] at hv9; cases hv9; rfl
      subst e9
      exact lt_ok (tgt := 29) hx hb hr hlk dW_create_8 dW_create_9 dW_create_10 (by decide) dW_create_29 dW_create_30 hoA hoB hout1 hJ hR1 hS1 hz (by omega) (by omega)
    · rw [he] at hv9; cases hv9
theorem dW_read_0 : decode method_6_code 0 = .ok (.aload_n 3, 1) := by decide +kernel
theorem dW_read_1 : decode method_6_code 1 = .ok (.iconst 0, 1) := by decide +kernel
theorem dW_read_2 : decode method_6_code 2 = .ok (.aload_n 0, 1) := by decide +kernel
theorem dW_read_3 : decode method_6_code 3 = .ok (.iload_n 1, 1) := by decide +kernel
theorem dW_read_4 : decode method_6_code 4 = .ok (.iload_n 2, 1) := by decide +kernel
theorem dW_read_5 : decode method_6_code 5 = .ok (.invokevirtual 29, 3) := by decide +kernel
theorem dW_read_8 : decode method_6_code 8 = .ok (.i2l, 1) := by decide +kernel
theorem dW_read_9 : decode method_6_code 9 = .ok (.lastore, 1) := by decide +kernel
theorem dW_read_10 : decode method_6_code 10 = .ok (.goto 15, 3) := by decide +kernel
theorem dW_read_13 : decode method_6_code 13 = .ok (.astore 4, 2) := by decide +kernel
theorem dW_read_15 : decode method_6_code 15 = .ok (.iconst 1, 1) := by decide +kernel
theorem dW_read_16 : decode method_6_code 16 = .ok (.ireturn, 1) := by decide +kernel
theorem dW_read_17 : decode method_6_code 17 = .ok (.astore 4, 2) := by decide +kernel
theorem dW_read_19 : decode method_6_code 19 = .ok (.iconst 2, 1) := by decide +kernel
theorem dW_read_20 : decode method_6_code 20 = .ok (.ireturn, 1) := by decide +kernel
theorem dW_read_21 : decode method_6_code 21 = .ok (.astore 4, 2) := by decide +kernel
theorem dW_read_23 : decode method_6_code 23 = .ok (.iconst 3, 1) := by decide +kernel
theorem dW_read_24 : decode method_6_code 24 = .ok (.ireturn, 1) := by decide +kernel
theorem dW_read_25 : decode method_6_code 25 = .ok (.iconst 0, 1) := by decide +kernel
theorem dW_read_26 : decode method_6_code 26 = .ok (.ireturn, 1) := by decide +kernel
def yW_read : MethodName := ⟨lR, "read", "(LNameSpaces;II[J)I"⟩
def wW_read : List Cond := .codeWith yW_read method_6_code 5 (some .int) [(0, 10, 13, 19), (0, 10, 17, 23), (0, 10, 21, 21)] :: gw
def rW_read (h : ag_H) (r : ag_O × ag_H) : Room := { frames := gF 67 + 1, cells := r.2.1 - h.1, slots := r.2.2.1 - h.2.1, locals := 8 + ((gT 67).1 + 11) + gLo 67 }
set_option maxRecDepth 100000 in
theorem w_read {l : Launch} (htr : l.stackTraces = false) {D : ag_D} {A B : Nat → Prop} (hBA : ∀ q, B q → A q) {cJ : ClassId} {o : Nat} (hoA : A o) (hoB : ¬ B o) {d x : Nat} {fs : List ag_V} {v w : Int32} {h : ag_H} {r : ag_O × ag_H} {v0 : Int64} (hrun : ag_run gT d 67 (.inr (some x) :: [.inl v, .inl w]) h = some r) (ha : h.2.2 x = some (10, fs)) (ho : (∃ z, r.1 = .inl (some (.inl z))) ∨ ∃ e, r.1 = .inr e ∧ e < 4 ∧ 0 < [1, 0, 3, 2].getD e 0) : Met l yW_read wW_read (rW_read h r) (lP D A B cJ o [.ref x, .int v, .int w, .ref o] h v0) (lQ D A B cJ o r [1, 0, 3, 2]) (r.2.1 - h.1) (r.2.2.1 - h.2.1) A := by
  refine lMet (vx_ofWH (cc := method_6_code) (maxL := 5) (ret := some .int) (hh := [(0, 10, 13, 19), (0, 10, 17, 23), (0, 10, 21, 21)]) (by decide) rfl ?_)
  intro p e s m args below meth c s₁ BB hml hv
  obtain ⟨rfl, hR, hW, hbs, hout, hJ, hnc⟩ := hv
  have hx := BB.exec
  have hb := BB.bytes
  have hr := BB.returns
  have hts0 := atoms_spec (ws := wW_read) BB.pre
  have hts : ∀ w ∈ gw, w.before _ s = true := fun w hw => hts0 w (List.mem_cons_of_mem _ hw)
  have htab := vx_table (x := yW_read) BB (hts0 _ List.mem_cons_self)
  have hown : s.vm.findClass lR = some m.cls := findClass_of_methodNamed BB.named
  have hlk := BB.notSynchronized
  have hl := lv_entry ([.ref x, .int v, .int w, .ref o]) (n := 5) (Nat.le_of_ble_eq_true rfl)
  rw [lg_entry_eq]
  generalize (lg_sl ([.ref x, .int v, .int w, .ref o]) ++ List.replicate (5 - (lg_sl ([.ref x, .int v, .int w, .ref o])).length) Slot.unset).toArray = ls at hl ⊢
  have hl : lv_has ls 5 [(0, .ref x), (1, .int v), (2, .int w), (3, .ref o)] := hl
  have hS : va_S A s.heap s.heap [] := va_S.rf
  have ohl : o < s.heap.size := (Array.getElem?_eq_some_iff.mp hout).1
  refine lv_aload_n hx hb dW_read_0 rfl (lv_at hl 3 rfl) ?_
  refine lv_iconst (v := 0) hx hb dW_read_1 (by decide) ?_
  refine lv_aload_n hx hb dW_read_2 rfl (lv_at hl 0 rfl) ?_
  refine lv_iload_n hx hb dW_read_3 rfl (lv_at hl 1 rfl) ?_
  refine lv_iload_n hx hb dW_read_4 rfl (lv_at hl 2 rfl) ?_
  refine lc_virt (As := [.inl v, .inl w]) (rest := [.int 0, .ref o]) (nL := 5) htr hx hb hml hown hts hW hBA hbs hS hl.1 hrun hR ha rfl (show (67, 2) ∈ lNs by decide) (by decide) (Nat.le_refl _) (Nat.le_refl _) (by rw [Nat.zero_add]; exact Nat.le_refl _) (by rw [Nat.zero_add]; exact Nat.le_refl _) (Nat.le_of_ble_eq_true rfl) dW_read_5 rfl ?_ ?_
  · intro y hy H1 lc q9 ce hR1 hk1 hS1 hce hcv hcl
    have hout1 : H1[o]? = some (arrV cJ 1 fun _ => .long v0) := (hk1 o ohl hoB).trans hout
    obtain ⟨hy4, hy0⟩ : y < 4 ∧ 0 < [1, 0, 3, 2].getD y 0 := by
      rcases ho with ⟨z, hz⟩ | ⟨e9, he, h4, h0⟩
      · rw [hz] at hy; cases hy
      · rw [he] at hy; cases hy; exact ⟨h4, h0⟩
    have : y = 0 ∨ y = 1 ∨ y = 2 ∨ y = 3 := by omega
    rcases this with rfl | rfl | rfl | rfl
    · refine lc_catch hown hts hW hnc htab (x := 0) (by decide) hce hcv hcl [] [(0, 10, 17, 23), (0, 10, 21, 21)] (a1 := 0) (a2 := 10) (a3 := 13) (a4 := 19) rfl (by
        intro z hz
        cases hz) (by decide) (by decide) (by decide) (by decide) ?_
      refine lv_astore (lv' := (4, .ref q9) :: [(0, .ref x), (1, .int v), (2, .int w), (3, .ref o)]) hx hb dW_read_13 hl (by decide) rfl (fun ls9 hl9 => ?_)
      exact lt_ex (n := 1) hx hb hr hlk (by decide) dW_read_15 dW_read_16 hout1 hR1 hS1 hy rfl (by omega) (by omega)
    · exact absurd hy0 (by decide)
    · refine lc_catch hown hts hW hnc htab (x := 2) (by decide) hce hcv hcl [(0, 10, 13, 19), (0, 10, 17, 23)] [] (a1 := 0) (a2 := 10) (a3 := 21) (a4 := 21) rfl (by
        intro z hz
        simp only [List.mem_cons, List.not_mem_nil, or_false] at hz
        rcases hz with rfl | rfl
        · exact ⟨by decide, by decide, by decide, 0, by decide, by decide, by decide⟩
        · exact ⟨by decide, by decide, by decide, 3, by decide, by decide, by decide⟩
        ) (by decide) (by decide) (by decide) (by decide) ?_
      refine lv_astore (lv' := (4, .ref q9) :: [(0, .ref x), (1, .int v), (2, .int w), (3, .ref o)]) hx hb dW_read_21 hl (by decide) rfl (fun ls9 hl9 => ?_)
      exact lt_ex (n := 3) hx hb hr hlk (by decide) dW_read_23 dW_read_24 hout1 hR1 hS1 hy rfl (by omega) (by omega)
    · refine lc_catch hown hts hW hnc htab (x := 3) (by decide) hce hcv hcl [(0, 10, 13, 19)] [(0, 10, 21, 21)] (a1 := 0) (a2 := 10) (a3 := 17) (a4 := 23) rfl (by
        intro z hz
        simp only [List.mem_cons, List.not_mem_nil, or_false] at hz
        rcases hz with rfl
        · exact ⟨by decide, by decide, by decide, 0, by decide, by decide, by decide⟩
        ) (by decide) (by decide) (by decide) (by decide) ?_
      refine lv_astore (lv' := (4, .ref q9) :: [(0, .ref x), (1, .int v), (2, .int w), (3, .ref o)]) hx hb dW_read_17 hl (by decide) rfl (fun ls9 hl9 => ?_)
      exact lt_ex (n := 2) hx hb hr hlk (by decide) dW_read_19 dW_read_20 hout1 hR1 hS1 hy rfl (by omega) (by omega)
  · intro v9 hv9 H1 lc hR1 hk1 hS1
    have hout1 : H1[o]? = some (arrV cJ 1 fun _ => .long v0) := (hk1 o ohl hoB).trans hout
    rcases ho with ⟨z, hz⟩ | ⟨e9, he, -⟩
    · have e9 : v9 = some (.inl z) := by rw [hz] at hv9; cases hv9; rfl
      subst e9
      exact lt_ok (tgt := 25) hx hb hr hlk dW_read_8 dW_read_9 dW_read_10 (by decide) dW_read_25 dW_read_26 hoA hoB hout1 hJ hR1 hS1 hz (by omega) (by omega)
    · rw [he] at hv9; cases hv9
theorem dW_write_0 : decode method_7_code 0 = .ok (.aload 4, 2) := by decide +kernel
theorem dW_write_2 : decode method_7_code 2 = .ok (.iconst 0, 1) := by decide +kernel
theorem dW_write_3 : decode method_7_code 3 = .ok (.aload_n 0, 1) := by decide +kernel
theorem dW_write_4 : decode method_7_code 4 = .ok (.iload_n 1, 1) := by decide +kernel
theorem dW_write_5 : decode method_7_code 5 = .ok (.iload_n 2, 1) := by decide +kernel
theorem dW_write_6 : decode method_7_code 6 = .ok (.iload_n 3, 1) := by decide +kernel
theorem dW_write_7 : decode method_7_code 7 = .ok (.invokevirtual 32, 3) := by decide +kernel
theorem dW_write_10 : decode method_7_code 10 = .ok (.i2l, 1) := by decide +kernel
theorem dW_write_11 : decode method_7_code 11 = .ok (.lastore, 1) := by decide +kernel
theorem dW_write_12 : decode method_7_code 12 = .ok (.goto 19, 3) := by decide +kernel
theorem dW_write_15 : decode method_7_code 15 = .ok (.astore 5, 2) := by decide +kernel
theorem dW_write_17 : decode method_7_code 17 = .ok (.iconst 1, 1) := by decide +kernel
theorem dW_write_18 : decode method_7_code 18 = .ok (.ireturn, 1) := by decide +kernel
theorem dW_write_19 : decode method_7_code 19 = .ok (.astore 5, 2) := by decide +kernel
theorem dW_write_21 : decode method_7_code 21 = .ok (.iconst 2, 1) := by decide +kernel
theorem dW_write_22 : decode method_7_code 22 = .ok (.ireturn, 1) := by decide +kernel
theorem dW_write_23 : decode method_7_code 23 = .ok (.astore 5, 2) := by decide +kernel
theorem dW_write_25 : decode method_7_code 25 = .ok (.iconst 3, 1) := by decide +kernel
theorem dW_write_26 : decode method_7_code 26 = .ok (.ireturn, 1) := by decide +kernel
theorem dW_write_27 : decode method_7_code 27 = .ok (.astore 5, 2) := by decide +kernel
theorem dW_write_29 : decode method_7_code 29 = .ok (.iconst 4, 1) := by decide +kernel
theorem dW_write_30 : decode method_7_code 30 = .ok (.ireturn, 1) := by decide +kernel
theorem dW_write_31 : decode method_7_code 31 = .ok (.iconst 0, 1) := by decide +kernel
theorem dW_write_32 : decode method_7_code 32 = .ok (.ireturn, 1) := by decide +kernel
def yW_write : MethodName := ⟨lR, "write", "(LNameSpaces;III[J)I"⟩
def wW_write : List Cond := .codeWith yW_write method_7_code 6 (some .int) [(0, 12, 15, 19), (0, 12, 19, 13), (0, 12, 23, 21), (0, 12, 27, 23)] :: gw
def rW_write (h : ag_H) (r : ag_O × ag_H) : Room := { frames := gF 68 + 1, cells := r.2.1 - h.1, slots := r.2.2.1 - h.2.1, locals := 8 + ((gT 68).1 + 11) + gLo 68 }
set_option maxRecDepth 100000 in
theorem w_write {l : Launch} (htr : l.stackTraces = false) {D : ag_D} {A B : Nat → Prop} (hBA : ∀ q, B q → A q) {cJ : ClassId} {o : Nat} (hoA : A o) (hoB : ¬ B o) {d x : Nat} {fs : List ag_V} {v w u : Int32} {h : ag_H} {r : ag_O × ag_H} {v0 : Int64} (hrun : ag_run gT d 68 (.inr (some x) :: [.inl v, .inl w, .inl u]) h = some r) (ha : h.2.2 x = some (10, fs)) (ho : (∃ z, r.1 = .inl (some (.inl z))) ∨ ∃ e, r.1 = .inr e ∧ e < 4 ∧ 0 < [1, 2, 3, 4].getD e 0) : Met l yW_write wW_write (rW_write h r) (lP D A B cJ o [.ref x, .int v, .int w, .int u, .ref o] h v0) (lQ D A B cJ o r [1, 2, 3, 4]) (r.2.1 - h.1) (r.2.2.1 - h.2.1) A := by
  refine lMet (vx_ofWH (cc := method_7_code) (maxL := 6) (ret := some .int) (hh := [(0, 12, 15, 19), (0, 12, 19, 13), (0, 12, 23, 21), (0, 12, 27, 23)]) (by decide) rfl ?_)
  intro p e s m args below meth c s₁ BB hml hv
  obtain ⟨rfl, hR, hW, hbs, hout, hJ, hnc⟩ := hv
  have hx := BB.exec
  have hb := BB.bytes
  have hr := BB.returns
  have hts0 := atoms_spec (ws := wW_write) BB.pre
  have hts : ∀ w ∈ gw, w.before _ s = true := fun w hw => hts0 w (List.mem_cons_of_mem _ hw)
  have htab := vx_table (x := yW_write) BB (hts0 _ List.mem_cons_self)
  have hown : s.vm.findClass lR = some m.cls := findClass_of_methodNamed BB.named
  have hlk := BB.notSynchronized
  have hl := lv_entry ([.ref x, .int v, .int w, .int u, .ref o]) (n := 6) (Nat.le_of_ble_eq_true rfl)
  rw [lg_entry_eq]
  generalize (lg_sl ([.ref x, .int v, .int w, .int u, .ref o]) ++ List.replicate (6 - (lg_sl ([.ref x, .int v, .int w, .int u, .ref o])).length) Slot.unset).toArray = ls at hl ⊢
  have hl : lv_has ls 6 [(0, .ref x), (1, .int v), (2, .int w), (3, .int u), (4, .ref o)] := hl
  have hS : va_S A s.heap s.heap [] := va_S.rf
  have ohl : o < s.heap.size := (Array.getElem?_eq_some_iff.mp hout).1
  refine lv_aload hx hb dW_write_0 (lv_at hl 4 rfl) ?_
  refine lv_iconst (v := 0) hx hb dW_write_2 (by decide) ?_
  refine lv_aload_n hx hb dW_write_3 rfl (lv_at hl 0 rfl) ?_
  refine lv_iload_n hx hb dW_write_4 rfl (lv_at hl 1 rfl) ?_
  refine lv_iload_n hx hb dW_write_5 rfl (lv_at hl 2 rfl) ?_
  refine lv_iload_n hx hb dW_write_6 rfl (lv_at hl 3 rfl) ?_
  refine lc_virt (As := [.inl v, .inl w, .inl u]) (rest := [.int 0, .ref o]) (nL := 6) htr hx hb hml hown hts hW hBA hbs hS hl.1 hrun hR ha rfl (show (68, 3) ∈ lNs by decide) (by decide) (Nat.le_refl _) (Nat.le_refl _) (by rw [Nat.zero_add]; exact Nat.le_refl _) (by rw [Nat.zero_add]; exact Nat.le_refl _) (Nat.le_of_ble_eq_true rfl) dW_write_7 rfl ?_ ?_
  · intro y hy H1 lc q9 ce hR1 hk1 hS1 hce hcv hcl
    have hout1 : H1[o]? = some (arrV cJ 1 fun _ => .long v0) := (hk1 o ohl hoB).trans hout
    obtain ⟨hy4, hy0⟩ : y < 4 ∧ 0 < [1, 2, 3, 4].getD y 0 := by
      rcases ho with ⟨z, hz⟩ | ⟨e9, he, h4, h0⟩
      · rw [hz] at hy; cases hy
      · rw [he] at hy; cases hy; exact ⟨h4, h0⟩
    have : y = 0 ∨ y = 1 ∨ y = 2 ∨ y = 3 := by omega
    rcases this with rfl | rfl | rfl | rfl
    · refine lc_catch hown hts hW hnc htab (x := 0) (by decide) hce hcv hcl [] [(0, 12, 19, 13), (0, 12, 23, 21), (0, 12, 27, 23)] (a1 := 0) (a2 := 12) (a3 := 15) (a4 := 19) rfl (by
        intro z hz
        cases hz) (by decide) (by decide) (by decide) (by decide) ?_
      refine lv_astore (lv' := (5, .ref q9) :: [(0, .ref x), (1, .int v), (2, .int w), (3, .int u), (4, .ref o)]) hx hb dW_write_15 hl (by decide) rfl (fun ls9 hl9 => ?_)
      exact lt_ex (n := 1) hx hb hr hlk (by decide) dW_write_17 dW_write_18 hout1 hR1 hS1 hy rfl (by omega) (by omega)
    · refine lc_catch hown hts hW hnc htab (x := 1) (by decide) hce hcv hcl [(0, 12, 15, 19)] [(0, 12, 23, 21), (0, 12, 27, 23)] (a1 := 0) (a2 := 12) (a3 := 19) (a4 := 13) rfl (by
        intro z hz
        simp only [List.mem_cons, List.not_mem_nil, or_false] at hz
        rcases hz with rfl
        · exact ⟨by decide, by decide, by decide, 0, by decide, by decide, by decide⟩
        ) (by decide) (by decide) (by decide) (by decide) ?_
      refine lv_astore (lv' := (5, .ref q9) :: [(0, .ref x), (1, .int v), (2, .int w), (3, .int u), (4, .ref o)]) hx hb dW_write_19 hl (by decide) rfl (fun ls9 hl9 => ?_)
      exact lt_ex (n := 2) hx hb hr hlk (by decide) dW_write_21 dW_write_22 hout1 hR1 hS1 hy rfl (by omega) (by omega)
    · refine lc_catch hown hts hW hnc htab (x := 2) (by decide) hce hcv hcl [(0, 12, 15, 19), (0, 12, 19, 13)] [(0, 12, 27, 23)] (a1 := 0) (a2 := 12) (a3 := 23) (a4 := 21) rfl (by
        intro z hz
        simp only [List.mem_cons, List.not_mem_nil, or_false] at hz
        rcases hz with rfl | rfl
        · exact ⟨by decide, by decide, by decide, 0, by decide, by decide, by decide⟩
        · exact ⟨by decide, by decide, by decide, 1, by decide, by decide, by decide⟩
        ) (by decide) (by decide) (by decide) (by decide) ?_
      refine lv_astore (lv' := (5, .ref q9) :: [(0, .ref x), (1, .int v), (2, .int w), (3, .int u), (4, .ref o)]) hx hb dW_write_23 hl (by decide) rfl (fun ls9 hl9 => ?_)
      exact lt_ex (n := 3) hx hb hr hlk (by decide) dW_write_25 dW_write_26 hout1 hR1 hS1 hy rfl (by omega) (by omega)
    · refine lc_catch hown hts hW hnc htab (x := 3) (by decide) hce hcv hcl [(0, 12, 15, 19), (0, 12, 19, 13), (0, 12, 23, 21)] [] (a1 := 0) (a2 := 12) (a3 := 27) (a4 := 23) rfl (by
        intro z hz
        simp only [List.mem_cons, List.not_mem_nil, or_false] at hz
        rcases hz with rfl | rfl | rfl
        · exact ⟨by decide, by decide, by decide, 0, by decide, by decide, by decide⟩
        · exact ⟨by decide, by decide, by decide, 1, by decide, by decide, by decide⟩
        · exact ⟨by decide, by decide, by decide, 2, by decide, by decide, by decide⟩
        ) (by decide) (by decide) (by decide) (by decide) ?_
      refine lv_astore (lv' := (5, .ref q9) :: [(0, .ref x), (1, .int v), (2, .int w), (3, .int u), (4, .ref o)]) hx hb dW_write_27 hl (by decide) rfl (fun ls9 hl9 => ?_)
      exact lt_ex (n := 4) hx hb hr hlk (by decide) dW_write_29 dW_write_30 hout1 hR1 hS1 hy rfl (by omega) (by omega)
  · intro v9 hv9 H1 lc hR1 hk1 hS1
    have hout1 : H1[o]? = some (arrV cJ 1 fun _ => .long v0) := (hk1 o ohl hoB).trans hout
    rcases ho with ⟨z, hz⟩ | ⟨e9, he, -⟩
    · have e9 : v9 = some (.inl z) := by rw [hz] at hv9; cases hv9; rfl
      subst e9
      exact lt_ok (tgt := 31) hx hb hr hlk dW_write_10 dW_write_11 dW_write_12 (by decide) dW_write_31 dW_write_32 hoA hoB hout1 hJ hR1 hS1 hz (by omega) (by omega)
    · rw [he] at hv9; cases hv9
theorem dW_close_0 : decode method_8_code 0 = .ok (.aload_n 3, 1) := by decide +kernel
theorem dW_close_1 : decode method_8_code 1 = .ok (.iconst 0, 1) := by decide +kernel
theorem dW_close_2 : decode method_8_code 2 = .ok (.aload_n 0, 1) := by decide +kernel
theorem dW_close_3 : decode method_8_code 3 = .ok (.iload_n 1, 1) := by decide +kernel
theorem dW_close_4 : decode method_8_code 4 = .ok (.iload_n 2, 1) := by decide +kernel
theorem dW_close_5 : decode method_8_code 5 = .ok (.invokevirtual 36, 3) := by decide +kernel
theorem dW_close_8 : decode method_8_code 8 = .ok (.i2l, 1) := by decide +kernel
theorem dW_close_9 : decode method_8_code 9 = .ok (.lastore, 1) := by decide +kernel
theorem dW_close_10 : decode method_8_code 10 = .ok (.goto 7, 3) := by decide +kernel
theorem dW_close_13 : decode method_8_code 13 = .ok (.astore 4, 2) := by decide +kernel
theorem dW_close_15 : decode method_8_code 15 = .ok (.iconst 1, 1) := by decide +kernel
theorem dW_close_16 : decode method_8_code 16 = .ok (.ireturn, 1) := by decide +kernel
theorem dW_close_17 : decode method_8_code 17 = .ok (.iconst 0, 1) := by decide +kernel
theorem dW_close_18 : decode method_8_code 18 = .ok (.ireturn, 1) := by decide +kernel
def yW_close : MethodName := ⟨lR, "close", "(LNameSpaces;II[J)I"⟩
def wW_close : List Cond := .codeWith yW_close method_8_code 5 (some .int) [(0, 10, 13, 19)] :: gw
def rW_close (h : ag_H) (r : ag_O × ag_H) : Room := { frames := gF 69 + 1, cells := r.2.1 - h.1, slots := r.2.2.1 - h.2.1, locals := 8 + ((gT 69).1 + 11) + gLo 69 }
set_option maxRecDepth 100000 in
theorem w_close {l : Launch} (htr : l.stackTraces = false) {D : ag_D} {A B : Nat → Prop} (hBA : ∀ q, B q → A q) {cJ : ClassId} {o : Nat} (hoA : A o) (hoB : ¬ B o) {d x : Nat} {fs : List ag_V} {v w : Int32} {h : ag_H} {r : ag_O × ag_H} {v0 : Int64} (hrun : ag_run gT d 69 (.inr (some x) :: [.inl v, .inl w]) h = some r) (ha : h.2.2 x = some (10, fs)) (ho : (∃ z, r.1 = .inl (some (.inl z))) ∨ ∃ e, r.1 = .inr e ∧ e < 4 ∧ 0 < [1, 0, 0, 0].getD e 0) : Met l yW_close wW_close (rW_close h r) (lP D A B cJ o [.ref x, .int v, .int w, .ref o] h v0) (lQ D A B cJ o r [1, 0, 0, 0]) (r.2.1 - h.1) (r.2.2.1 - h.2.1) A := by
  refine lMet (vx_ofWH (cc := method_8_code) (maxL := 5) (ret := some .int) (hh := [(0, 10, 13, 19)]) (by decide) rfl ?_)
  intro p e s m args below meth c s₁ BB hml hv
  obtain ⟨rfl, hR, hW, hbs, hout, hJ, hnc⟩ := hv
  have hx := BB.exec
  have hb := BB.bytes
  have hr := BB.returns
  have hts0 := atoms_spec (ws := wW_close) BB.pre
  have hts : ∀ w ∈ gw, w.before _ s = true := fun w hw => hts0 w (List.mem_cons_of_mem _ hw)
  have htab := vx_table (x := yW_close) BB (hts0 _ List.mem_cons_self)
  have hown : s.vm.findClass lR = some m.cls := findClass_of_methodNamed BB.named
  have hlk := BB.notSynchronized
  have hl := lv_entry ([.ref x, .int v, .int w, .ref o]) (n := 5) (Nat.le_of_ble_eq_true rfl)
  rw [lg_entry_eq]
  generalize (lg_sl ([.ref x, .int v, .int w, .ref o]) ++ List.replicate (5 - (lg_sl ([.ref x, .int v, .int w, .ref o])).length) Slot.unset).toArray = ls at hl ⊢
  have hl : lv_has ls 5 [(0, .ref x), (1, .int v), (2, .int w), (3, .ref o)] := hl
  have hS : va_S A s.heap s.heap [] := va_S.rf
  have ohl : o < s.heap.size := (Array.getElem?_eq_some_iff.mp hout).1
  refine lv_aload_n hx hb dW_close_0 rfl (lv_at hl 3 rfl) ?_
  refine lv_iconst (v := 0) hx hb dW_close_1 (by decide) ?_
  refine lv_aload_n hx hb dW_close_2 rfl (lv_at hl 0 rfl) ?_
  refine lv_iload_n hx hb dW_close_3 rfl (lv_at hl 1 rfl) ?_
  refine lv_iload_n hx hb dW_close_4 rfl (lv_at hl 2 rfl) ?_
  refine lc_virt (As := [.inl v, .inl w]) (rest := [.int 0, .ref o]) (nL := 5) htr hx hb hml hown hts hW hBA hbs hS hl.1 hrun hR ha rfl (show (69, 2) ∈ lNs by decide) (by decide) (Nat.le_refl _) (Nat.le_refl _) (by rw [Nat.zero_add]; exact Nat.le_refl _) (by rw [Nat.zero_add]; exact Nat.le_refl _) (Nat.le_of_ble_eq_true rfl) dW_close_5 rfl ?_ ?_
  · intro y hy H1 lc q9 ce hR1 hk1 hS1 hce hcv hcl
    have hout1 : H1[o]? = some (arrV cJ 1 fun _ => .long v0) := (hk1 o ohl hoB).trans hout
    obtain ⟨hy4, hy0⟩ : y < 4 ∧ 0 < [1, 0, 0, 0].getD y 0 := by
      rcases ho with ⟨z, hz⟩ | ⟨e9, he, h4, h0⟩
      · rw [hz] at hy; cases hy
      · rw [he] at hy; cases hy; exact ⟨h4, h0⟩
    have : y = 0 ∨ y = 1 ∨ y = 2 ∨ y = 3 := by omega
    rcases this with rfl | rfl | rfl | rfl
    · refine lc_catch hown hts hW hnc htab (x := 0) (by decide) hce hcv hcl [] [] (a1 := 0) (a2 := 10) (a3 := 13) (a4 := 19) rfl (by
        intro z hz
        cases hz) (by decide) (by decide) (by decide) (by decide) ?_
      refine lv_astore (lv' := (4, .ref q9) :: [(0, .ref x), (1, .int v), (2, .int w), (3, .ref o)]) hx hb dW_close_13 hl (by decide) rfl (fun ls9 hl9 => ?_)
      exact lt_ex (n := 1) hx hb hr hlk (by decide) dW_close_15 dW_close_16 hout1 hR1 hS1 hy rfl (by omega) (by omega)
    · exact absurd hy0 (by decide)
    · exact absurd hy0 (by decide)
    · exact absurd hy0 (by decide)
  · intro v9 hv9 H1 lc hR1 hk1 hS1
    have hout1 : H1[o]? = some (arrV cJ 1 fun _ => .long v0) := (hk1 o ohl hoB).trans hout
    rcases ho with ⟨z, hz⟩ | ⟨e9, he, -⟩
    · have e9 : v9 = some (.inl z) := by rw [hz] at hv9; cases hv9; rfl
      subst e9
      exact lt_ok (tgt := 17) hx hb hr hlk dW_close_8 dW_close_9 dW_close_10 (by decide) dW_close_17 dW_close_18 hoA hoB hout1 hJ hR1 hS1 hz (by omega) (by omega)
    · rw [he] at hv9; cases hv9
theorem dW_remove_0 : decode method_9_code 0 = .ok (.aload_n 2, 1) := by decide +kernel
theorem dW_remove_1 : decode method_9_code 1 = .ok (.iconst 0, 1) := by decide +kernel
theorem dW_remove_2 : decode method_9_code 2 = .ok (.aload_n 0, 1) := by decide +kernel
theorem dW_remove_3 : decode method_9_code 3 = .ok (.iload_n 1, 1) := by decide +kernel
theorem dW_remove_4 : decode method_9_code 4 = .ok (.invokevirtual 39, 3) := by decide +kernel
theorem dW_remove_7 : decode method_9_code 7 = .ok (.i2l, 1) := by decide +kernel
theorem dW_remove_8 : decode method_9_code 8 = .ok (.lastore, 1) := by decide +kernel
theorem dW_remove_9 : decode method_9_code 9 = .ok (.goto 12, 3) := by decide +kernel
theorem dW_remove_12 : decode method_9_code 12 = .ok (.astore_n 3, 1) := by decide +kernel
theorem dW_remove_13 : decode method_9_code 13 = .ok (.iconst 1, 1) := by decide +kernel
theorem dW_remove_14 : decode method_9_code 14 = .ok (.ireturn, 1) := by decide +kernel
theorem dW_remove_15 : decode method_9_code 15 = .ok (.astore_n 3, 1) := by decide +kernel
theorem dW_remove_16 : decode method_9_code 16 = .ok (.iconst 2, 1) := by decide +kernel
theorem dW_remove_17 : decode method_9_code 17 = .ok (.ireturn, 1) := by decide +kernel
theorem dW_remove_18 : decode method_9_code 18 = .ok (.astore_n 3, 1) := by decide +kernel
theorem dW_remove_19 : decode method_9_code 19 = .ok (.iconst 3, 1) := by decide +kernel
theorem dW_remove_20 : decode method_9_code 20 = .ok (.ireturn, 1) := by decide +kernel
theorem dW_remove_21 : decode method_9_code 21 = .ok (.iconst 0, 1) := by decide +kernel
theorem dW_remove_22 : decode method_9_code 22 = .ok (.ireturn, 1) := by decide +kernel
def yW_remove : MethodName := ⟨lR, "remove", "(LNameSpaces;I[J)I"⟩
def wW_remove : List Cond := .codeWith yW_remove method_9_code 4 (some .int) [(0, 9, 12, 19), (0, 9, 15, 21), (0, 9, 18, 23)] :: gw
def rW_remove (h : ag_H) (r : ag_O × ag_H) : Room := { frames := gF 70 + 1, cells := r.2.1 - h.1, slots := r.2.2.1 - h.2.1, locals := 8 + ((gT 70).1 + 11) + gLo 70 }
set_option maxRecDepth 100000 in
theorem w_remove {l : Launch} (htr : l.stackTraces = false) {D : ag_D} {A B : Nat → Prop} (hBA : ∀ q, B q → A q) {cJ : ClassId} {o : Nat} (hoA : A o) (hoB : ¬ B o) {d x : Nat} {fs : List ag_V} {v : Int32} {h : ag_H} {r : ag_O × ag_H} {v0 : Int64} (hrun : ag_run gT d 70 (.inr (some x) :: [.inl v]) h = some r) (ha : h.2.2 x = some (10, fs)) (ho : (∃ z, r.1 = .inl (some (.inl z))) ∨ ∃ e, r.1 = .inr e ∧ e < 4 ∧ 0 < [1, 0, 2, 3].getD e 0) : Met l yW_remove wW_remove (rW_remove h r) (lP D A B cJ o [.ref x, .int v, .ref o] h v0) (lQ D A B cJ o r [1, 0, 2, 3]) (r.2.1 - h.1) (r.2.2.1 - h.2.1) A := by
  refine lMet (vx_ofWH (cc := method_9_code) (maxL := 4) (ret := some .int) (hh := [(0, 9, 12, 19), (0, 9, 15, 21), (0, 9, 18, 23)]) (by decide) rfl ?_)
  intro p e s m args below meth c s₁ BB hml hv
  obtain ⟨rfl, hR, hW, hbs, hout, hJ, hnc⟩ := hv
  have hx := BB.exec
  have hb := BB.bytes
  have hr := BB.returns
  have hts0 := atoms_spec (ws := wW_remove) BB.pre
  have hts : ∀ w ∈ gw, w.before _ s = true := fun w hw => hts0 w (List.mem_cons_of_mem _ hw)
  have htab := vx_table (x := yW_remove) BB (hts0 _ List.mem_cons_self)
  have hown : s.vm.findClass lR = some m.cls := findClass_of_methodNamed BB.named
  have hlk := BB.notSynchronized
  have hl := lv_entry ([.ref x, .int v, .ref o]) (n := 4) (Nat.le_of_ble_eq_true rfl)
  rw [lg_entry_eq]
  generalize (lg_sl ([.ref x, .int v, .ref o]) ++ List.replicate (4 - (lg_sl ([.ref x, .int v, .ref o])).length) Slot.unset).toArray = ls at hl ⊢
  have hl : lv_has ls 4 [(0, .ref x), (1, .int v), (2, .ref o)] := hl
  have hS : va_S A s.heap s.heap [] := va_S.rf
  have ohl : o < s.heap.size := (Array.getElem?_eq_some_iff.mp hout).1
  refine lv_aload_n hx hb dW_remove_0 rfl (lv_at hl 2 rfl) ?_
  refine lv_iconst (v := 0) hx hb dW_remove_1 (by decide) ?_
  refine lv_aload_n hx hb dW_remove_2 rfl (lv_at hl 0 rfl) ?_
  refine lv_iload_n hx hb dW_remove_3 rfl (lv_at hl 1 rfl) ?_
  refine lc_virt (As := [.inl v]) (rest := [.int 0, .ref o]) (nL := 4) htr hx hb hml hown hts hW hBA hbs hS hl.1 hrun hR ha rfl (show (70, 1) ∈ lNs by decide) (by decide) (Nat.le_refl _) (Nat.le_refl _) (by rw [Nat.zero_add]; exact Nat.le_refl _) (by rw [Nat.zero_add]; exact Nat.le_refl _) (Nat.le_of_ble_eq_true rfl) dW_remove_4 rfl ?_ ?_
  · intro y hy H1 lc q9 ce hR1 hk1 hS1 hce hcv hcl
    have hout1 : H1[o]? = some (arrV cJ 1 fun _ => .long v0) := (hk1 o ohl hoB).trans hout
    obtain ⟨hy4, hy0⟩ : y < 4 ∧ 0 < [1, 0, 2, 3].getD y 0 := by
      rcases ho with ⟨z, hz⟩ | ⟨e9, he, h4, h0⟩
      · rw [hz] at hy; cases hy
      · rw [he] at hy; cases hy; exact ⟨h4, h0⟩
    have : y = 0 ∨ y = 1 ∨ y = 2 ∨ y = 3 := by omega
    rcases this with rfl | rfl | rfl | rfl
    · refine lc_catch hown hts hW hnc htab (x := 0) (by decide) hce hcv hcl [] [(0, 9, 15, 21), (0, 9, 18, 23)] (a1 := 0) (a2 := 9) (a3 := 12) (a4 := 19) rfl (by
        intro z hz
        cases hz) (by decide) (by decide) (by decide) (by decide) ?_
      refine lv_astore_n (lv' := (3, .ref q9) :: [(0, .ref x), (1, .int v), (2, .ref o)]) hx hb dW_remove_12 rfl hl (by decide) rfl (fun ls9 hl9 => ?_)
      exact lt_ex (n := 1) hx hb hr hlk (by decide) dW_remove_13 dW_remove_14 hout1 hR1 hS1 hy rfl (by omega) (by omega)
    · exact absurd hy0 (by decide)
    · refine lc_catch hown hts hW hnc htab (x := 2) (by decide) hce hcv hcl [(0, 9, 12, 19)] [(0, 9, 18, 23)] (a1 := 0) (a2 := 9) (a3 := 15) (a4 := 21) rfl (by
        intro z hz
        simp only [List.mem_cons, List.not_mem_nil, or_false] at hz
        rcases hz with rfl
        · exact ⟨by decide, by decide, by decide, 0, by decide, by decide, by decide⟩
        ) (by decide) (by decide) (by decide) (by decide) ?_
      refine lv_astore_n (lv' := (3, .ref q9) :: [(0, .ref x), (1, .int v), (2, .ref o)]) hx hb dW_remove_15 rfl hl (by decide) rfl (fun ls9 hl9 => ?_)
      exact lt_ex (n := 2) hx hb hr hlk (by decide) dW_remove_16 dW_remove_17 hout1 hR1 hS1 hy rfl (by omega) (by omega)
    · refine lc_catch hown hts hW hnc htab (x := 3) (by decide) hce hcv hcl [(0, 9, 12, 19), (0, 9, 15, 21)] [] (a1 := 0) (a2 := 9) (a3 := 18) (a4 := 23) rfl (by
        intro z hz
        simp only [List.mem_cons, List.not_mem_nil, or_false] at hz
        rcases hz with rfl | rfl
        · exact ⟨by decide, by decide, by decide, 0, by decide, by decide, by decide⟩
        · exact ⟨by decide, by decide, by decide, 2, by decide, by decide, by decide⟩
        ) (by decide) (by decide) (by decide) (by decide) ?_
      refine lv_astore_n (lv' := (3, .ref q9) :: [(0, .ref x), (1, .int v), (2, .ref o)]) hx hb dW_remove_18 rfl hl (by decide) rfl (fun ls9 hl9 => ?_)
      exact lt_ex (n := 3) hx hb hr hlk (by decide) dW_remove_19 dW_remove_20 hout1 hR1 hS1 hy rfl (by omega) (by omega)
  · intro v9 hv9 H1 lc hR1 hk1 hS1
    have hout1 : H1[o]? = some (arrV cJ 1 fun _ => .long v0) := (hk1 o ohl hoB).trans hout
    rcases ho with ⟨z, hz⟩ | ⟨e9, he, -⟩
    · have e9 : v9 = some (.inl z) := by rw [hz] at hv9; cases hv9; rfl
      subst e9
      exact lt_ok (tgt := 21) hx hb hr hlk dW_remove_7 dW_remove_8 dW_remove_9 (by decide) dW_remove_21 dW_remove_22 hoA hoB hout1 hJ hR1 hS1 hz (by omega) (by omega)
    · rw [he] at hv9; cases hv9
theorem dW_stat_0 : decode method_10_code 0 = .ok (.aload_n 2, 1) := by decide +kernel
theorem dW_stat_1 : decode method_10_code 1 = .ok (.iconst 0, 1) := by decide +kernel
theorem dW_stat_2 : decode method_10_code 2 = .ok (.aload_n 0, 1) := by decide +kernel
theorem dW_stat_3 : decode method_10_code 3 = .ok (.iload_n 1, 1) := by decide +kernel
theorem dW_stat_4 : decode method_10_code 4 = .ok (.invokevirtual 43, 3) := by decide +kernel
theorem dW_stat_7 : decode method_10_code 7 = .ok (.i2l, 1) := by decide +kernel
theorem dW_stat_8 : decode method_10_code 8 = .ok (.lastore, 1) := by decide +kernel
theorem dW_stat_9 : decode method_10_code 9 = .ok (.goto 12, 3) := by decide +kernel
theorem dW_stat_12 : decode method_10_code 12 = .ok (.astore_n 3, 1) := by decide +kernel
theorem dW_stat_13 : decode method_10_code 13 = .ok (.iconst 1, 1) := by decide +kernel
theorem dW_stat_14 : decode method_10_code 14 = .ok (.ireturn, 1) := by decide +kernel
theorem dW_stat_15 : decode method_10_code 15 = .ok (.astore_n 3, 1) := by decide +kernel
theorem dW_stat_16 : decode method_10_code 16 = .ok (.iconst 2, 1) := by decide +kernel
theorem dW_stat_17 : decode method_10_code 17 = .ok (.ireturn, 1) := by decide +kernel
theorem dW_stat_18 : decode method_10_code 18 = .ok (.astore_n 3, 1) := by decide +kernel
theorem dW_stat_19 : decode method_10_code 19 = .ok (.iconst 3, 1) := by decide +kernel
theorem dW_stat_20 : decode method_10_code 20 = .ok (.ireturn, 1) := by decide +kernel
theorem dW_stat_21 : decode method_10_code 21 = .ok (.iconst 0, 1) := by decide +kernel
theorem dW_stat_22 : decode method_10_code 22 = .ok (.ireturn, 1) := by decide +kernel
def yW_stat : MethodName := ⟨lR, "stat", "(LNameSpaces;I[J)I"⟩
def wW_stat : List Cond := .codeWith yW_stat method_10_code 4 (some .int) [(0, 9, 12, 19), (0, 9, 15, 21), (0, 9, 18, 23)] :: gw
def rW_stat (h : ag_H) (r : ag_O × ag_H) : Room := { frames := gF 71 + 1, cells := r.2.1 - h.1, slots := r.2.2.1 - h.2.1, locals := 8 + ((gT 71).1 + 11) + gLo 71 }
set_option maxRecDepth 100000 in
theorem w_stat {l : Launch} (htr : l.stackTraces = false) {D : ag_D} {A B : Nat → Prop} (hBA : ∀ q, B q → A q) {cJ : ClassId} {o : Nat} (hoA : A o) (hoB : ¬ B o) {d x : Nat} {fs : List ag_V} {v : Int32} {h : ag_H} {r : ag_O × ag_H} {v0 : Int64} (hrun : ag_run gT d 71 (.inr (some x) :: [.inl v]) h = some r) (ha : h.2.2 x = some (10, fs)) (ho : (∃ z, r.1 = .inl (some (.inl z))) ∨ ∃ e, r.1 = .inr e ∧ e < 4 ∧ 0 < [1, 0, 2, 3].getD e 0) : Met l yW_stat wW_stat (rW_stat h r) (lP D A B cJ o [.ref x, .int v, .ref o] h v0) (lQ D A B cJ o r [1, 0, 2, 3]) (r.2.1 - h.1) (r.2.2.1 - h.2.1) A := by
  refine lMet (vx_ofWH (cc := method_10_code) (maxL := 4) (ret := some .int) (hh := [(0, 9, 12, 19), (0, 9, 15, 21), (0, 9, 18, 23)]) (by decide) rfl ?_)
  intro p e s m args below meth c s₁ BB hml hv
  obtain ⟨rfl, hR, hW, hbs, hout, hJ, hnc⟩ := hv
  have hx := BB.exec
  have hb := BB.bytes
  have hr := BB.returns
  have hts0 := atoms_spec (ws := wW_stat) BB.pre
  have hts : ∀ w ∈ gw, w.before _ s = true := fun w hw => hts0 w (List.mem_cons_of_mem _ hw)
  have htab := vx_table (x := yW_stat) BB (hts0 _ List.mem_cons_self)
  have hown : s.vm.findClass lR = some m.cls := findClass_of_methodNamed BB.named
  have hlk := BB.notSynchronized
  have hl := lv_entry ([.ref x, .int v, .ref o]) (n := 4) (Nat.le_of_ble_eq_true rfl)
  rw [lg_entry_eq]
  generalize (lg_sl ([.ref x, .int v, .ref o]) ++ List.replicate (4 - (lg_sl ([.ref x, .int v, .ref o])).length) Slot.unset).toArray = ls at hl ⊢
  have hl : lv_has ls 4 [(0, .ref x), (1, .int v), (2, .ref o)] := hl
  have hS : va_S A s.heap s.heap [] := va_S.rf
  have ohl : o < s.heap.size := (Array.getElem?_eq_some_iff.mp hout).1
  refine lv_aload_n hx hb dW_stat_0 rfl (lv_at hl 2 rfl) ?_
  refine lv_iconst (v := 0) hx hb dW_stat_1 (by decide) ?_
  refine lv_aload_n hx hb dW_stat_2 rfl (lv_at hl 0 rfl) ?_
  refine lv_iload_n hx hb dW_stat_3 rfl (lv_at hl 1 rfl) ?_
  refine lc_virt (As := [.inl v]) (rest := [.int 0, .ref o]) (nL := 4) htr hx hb hml hown hts hW hBA hbs hS hl.1 hrun hR ha rfl (show (71, 1) ∈ lNs by decide) (by decide) (Nat.le_refl _) (Nat.le_refl _) (by rw [Nat.zero_add]; exact Nat.le_refl _) (by rw [Nat.zero_add]; exact Nat.le_refl _) (Nat.le_of_ble_eq_true rfl) dW_stat_4 rfl ?_ ?_
  · intro y hy H1 lc q9 ce hR1 hk1 hS1 hce hcv hcl
    have hout1 : H1[o]? = some (arrV cJ 1 fun _ => .long v0) := (hk1 o ohl hoB).trans hout
    obtain ⟨hy4, hy0⟩ : y < 4 ∧ 0 < [1, 0, 2, 3].getD y 0 := by
      rcases ho with ⟨z, hz⟩ | ⟨e9, he, h4, h0⟩
      · rw [hz] at hy; cases hy
      · rw [he] at hy; cases hy; exact ⟨h4, h0⟩
    have : y = 0 ∨ y = 1 ∨ y = 2 ∨ y = 3 := by omega
    rcases this with rfl | rfl | rfl | rfl
    · refine lc_catch hown hts hW hnc htab (x := 0) (by decide) hce hcv hcl [] [(0, 9, 15, 21), (0, 9, 18, 23)] (a1 := 0) (a2 := 9) (a3 := 12) (a4 := 19) rfl (by
        intro z hz
        cases hz) (by decide) (by decide) (by decide) (by decide) ?_
      refine lv_astore_n (lv' := (3, .ref q9) :: [(0, .ref x), (1, .int v), (2, .ref o)]) hx hb dW_stat_12 rfl hl (by decide) rfl (fun ls9 hl9 => ?_)
      exact lt_ex (n := 1) hx hb hr hlk (by decide) dW_stat_13 dW_stat_14 hout1 hR1 hS1 hy rfl (by omega) (by omega)
    · exact absurd hy0 (by decide)
    · refine lc_catch hown hts hW hnc htab (x := 2) (by decide) hce hcv hcl [(0, 9, 12, 19)] [(0, 9, 18, 23)] (a1 := 0) (a2 := 9) (a3 := 15) (a4 := 21) rfl (by
        intro z hz
        simp only [List.mem_cons, List.not_mem_nil, or_false] at hz
        rcases hz with rfl
        · exact ⟨by decide, by decide, by decide, 0, by decide, by decide, by decide⟩
        ) (by decide) (by decide) (by decide) (by decide) ?_
      refine lv_astore_n (lv' := (3, .ref q9) :: [(0, .ref x), (1, .int v), (2, .ref o)]) hx hb dW_stat_15 rfl hl (by decide) rfl (fun ls9 hl9 => ?_)
      exact lt_ex (n := 2) hx hb hr hlk (by decide) dW_stat_16 dW_stat_17 hout1 hR1 hS1 hy rfl (by omega) (by omega)
    · refine lc_catch hown hts hW hnc htab (x := 3) (by decide) hce hcv hcl [(0, 9, 12, 19), (0, 9, 15, 21)] [] (a1 := 0) (a2 := 9) (a3 := 18) (a4 := 23) rfl (by
        intro z hz
        simp only [List.mem_cons, List.not_mem_nil, or_false] at hz
        rcases hz with rfl | rfl
        · exact ⟨by decide, by decide, by decide, 0, by decide, by decide, by decide⟩
        · exact ⟨by decide, by decide, by decide, 2, by decide, by decide, by decide⟩
        ) (by decide) (by decide) (by decide) (by decide) ?_
      refine lv_astore_n (lv' := (3, .ref q9) :: [(0, .ref x), (1, .int v), (2, .ref o)]) hx hb dW_stat_18 rfl hl (by decide) rfl (fun ls9 hl9 => ?_)
      exact lt_ex (n := 3) hx hb hr hlk (by decide) dW_stat_19 dW_stat_20 hout1 hR1 hS1 hy rfl (by omega) (by omega)
  · intro v9 hv9 H1 lc hR1 hk1 hS1
    have hout1 : H1[o]? = some (arrV cJ 1 fun _ => .long v0) := (hk1 o ohl hoB).trans hout
    rcases ho with ⟨z, hz⟩ | ⟨e9, he, -⟩
    · have e9 : v9 = some (.inl z) := by rw [hz] at hv9; cases hv9; rfl
      subst e9
      exact lt_ok (tgt := 21) hx hb hr hlk dW_stat_7 dW_stat_8 dW_stat_9 (by decide) dW_stat_21 dW_stat_22 hoA hoB hout1 hJ hR1 hS1 hz (by omega) (by omega)
    · rw [he] at hv9; cases hv9
theorem dW_bind_0 : decode method_11_code 0 = .ok (.aload_n 3, 1) := by decide +kernel
theorem dW_bind_1 : decode method_11_code 1 = .ok (.iconst 0, 1) := by decide +kernel
theorem dW_bind_2 : decode method_11_code 2 = .ok (.aload_n 0, 1) := by decide +kernel
theorem dW_bind_3 : decode method_11_code 3 = .ok (.iload_n 1, 1) := by decide +kernel
theorem dW_bind_4 : decode method_11_code 4 = .ok (.iload_n 2, 1) := by decide +kernel
theorem dW_bind_5 : decode method_11_code 5 = .ok (.invokevirtual 46, 3) := by decide +kernel
theorem dW_bind_8 : decode method_11_code 8 = .ok (.i2l, 1) := by decide +kernel
theorem dW_bind_9 : decode method_11_code 9 = .ok (.lastore, 1) := by decide +kernel
theorem dW_bind_10 : decode method_11_code 10 = .ok (.goto 19, 3) := by decide +kernel
theorem dW_bind_13 : decode method_11_code 13 = .ok (.astore 4, 2) := by decide +kernel
theorem dW_bind_15 : decode method_11_code 15 = .ok (.iconst 1, 1) := by decide +kernel
theorem dW_bind_16 : decode method_11_code 16 = .ok (.ireturn, 1) := by decide +kernel
theorem dW_bind_17 : decode method_11_code 17 = .ok (.astore 4, 2) := by decide +kernel
theorem dW_bind_19 : decode method_11_code 19 = .ok (.iconst 2, 1) := by decide +kernel
theorem dW_bind_20 : decode method_11_code 20 = .ok (.ireturn, 1) := by decide +kernel
theorem dW_bind_21 : decode method_11_code 21 = .ok (.astore 4, 2) := by decide +kernel
theorem dW_bind_23 : decode method_11_code 23 = .ok (.iconst 3, 1) := by decide +kernel
theorem dW_bind_24 : decode method_11_code 24 = .ok (.ireturn, 1) := by decide +kernel
theorem dW_bind_25 : decode method_11_code 25 = .ok (.astore 4, 2) := by decide +kernel
theorem dW_bind_27 : decode method_11_code 27 = .ok (.iconst 4, 1) := by decide +kernel
theorem dW_bind_28 : decode method_11_code 28 = .ok (.ireturn, 1) := by decide +kernel
theorem dW_bind_29 : decode method_11_code 29 = .ok (.iconst 0, 1) := by decide +kernel
theorem dW_bind_30 : decode method_11_code 30 = .ok (.ireturn, 1) := by decide +kernel
def yW_bind : MethodName := ⟨lR, "bind", "(LNameSpaces;II[J)I"⟩
def wW_bind : List Cond := .codeWith yW_bind method_11_code 5 (some .int) [(0, 10, 13, 19), (0, 10, 17, 13), (0, 10, 21, 21), (0, 10, 25, 23)] :: gw
def rW_bind (h : ag_H) (r : ag_O × ag_H) : Room := { frames := gF 72 + 1, cells := r.2.1 - h.1, slots := r.2.2.1 - h.2.1, locals := 8 + ((gT 72).1 + 11) + gLo 72 }
set_option maxRecDepth 100000 in
theorem w_bind {l : Launch} (htr : l.stackTraces = false) {D : ag_D} {A B : Nat → Prop} (hBA : ∀ q, B q → A q) {cJ : ClassId} {o : Nat} (hoA : A o) (hoB : ¬ B o) {d x : Nat} {fs : List ag_V} {v w : Int32} {h : ag_H} {r : ag_O × ag_H} {v0 : Int64} (hrun : ag_run gT d 72 (.inr (some x) :: [.inl v, .inl w]) h = some r) (ha : h.2.2 x = some (10, fs)) (ho : (∃ z, r.1 = .inl (some (.inl z))) ∨ ∃ e, r.1 = .inr e ∧ e < 4 ∧ 0 < [1, 2, 3, 4].getD e 0) : Met l yW_bind wW_bind (rW_bind h r) (lP D A B cJ o [.ref x, .int v, .int w, .ref o] h v0) (lQ D A B cJ o r [1, 2, 3, 4]) (r.2.1 - h.1) (r.2.2.1 - h.2.1) A := by
  refine lMet (vx_ofWH (cc := method_11_code) (maxL := 5) (ret := some .int) (hh := [(0, 10, 13, 19), (0, 10, 17, 13), (0, 10, 21, 21), (0, 10, 25, 23)]) (by decide) rfl ?_)
  intro p e s m args below meth c s₁ BB hml hv
  obtain ⟨rfl, hR, hW, hbs, hout, hJ, hnc⟩ := hv
  have hx := BB.exec
  have hb := BB.bytes
  have hr := BB.returns
  have hts0 := atoms_spec (ws := wW_bind) BB.pre
  have hts : ∀ w ∈ gw, w.before _ s = true := fun w hw => hts0 w (List.mem_cons_of_mem _ hw)
  have htab := vx_table (x := yW_bind) BB (hts0 _ List.mem_cons_self)
  have hown : s.vm.findClass lR = some m.cls := findClass_of_methodNamed BB.named
  have hlk := BB.notSynchronized
  have hl := lv_entry ([.ref x, .int v, .int w, .ref o]) (n := 5) (Nat.le_of_ble_eq_true rfl)
  rw [lg_entry_eq]
  generalize (lg_sl ([.ref x, .int v, .int w, .ref o]) ++ List.replicate (5 - (lg_sl ([.ref x, .int v, .int w, .ref o])).length) Slot.unset).toArray = ls at hl ⊢
  have hl : lv_has ls 5 [(0, .ref x), (1, .int v), (2, .int w), (3, .ref o)] := hl
  have hS : va_S A s.heap s.heap [] := va_S.rf
  have ohl : o < s.heap.size := (Array.getElem?_eq_some_iff.mp hout).1
  refine lv_aload_n hx hb dW_bind_0 rfl (lv_at hl 3 rfl) ?_
  refine lv_iconst (v := 0) hx hb dW_bind_1 (by decide) ?_
  refine lv_aload_n hx hb dW_bind_2 rfl (lv_at hl 0 rfl) ?_
  refine lv_iload_n hx hb dW_bind_3 rfl (lv_at hl 1 rfl) ?_
  refine lv_iload_n hx hb dW_bind_4 rfl (lv_at hl 2 rfl) ?_
  refine lc_virt (As := [.inl v, .inl w]) (rest := [.int 0, .ref o]) (nL := 5) htr hx hb hml hown hts hW hBA hbs hS hl.1 hrun hR ha rfl (show (72, 2) ∈ lNs by decide) (by decide) (Nat.le_refl _) (Nat.le_refl _) (by rw [Nat.zero_add]; exact Nat.le_refl _) (by rw [Nat.zero_add]; exact Nat.le_refl _) (Nat.le_of_ble_eq_true rfl) dW_bind_5 rfl ?_ ?_
  · intro y hy H1 lc q9 ce hR1 hk1 hS1 hce hcv hcl
    have hout1 : H1[o]? = some (arrV cJ 1 fun _ => .long v0) := (hk1 o ohl hoB).trans hout
    obtain ⟨hy4, hy0⟩ : y < 4 ∧ 0 < [1, 2, 3, 4].getD y 0 := by
      rcases ho with ⟨z, hz⟩ | ⟨e9, he, h4, h0⟩
      · rw [hz] at hy; cases hy
      · rw [he] at hy; cases hy; exact ⟨h4, h0⟩
    have : y = 0 ∨ y = 1 ∨ y = 2 ∨ y = 3 := by omega
    rcases this with rfl | rfl | rfl | rfl
    · refine lc_catch hown hts hW hnc htab (x := 0) (by decide) hce hcv hcl [] [(0, 10, 17, 13), (0, 10, 21, 21), (0, 10, 25, 23)] (a1 := 0) (a2 := 10) (a3 := 13) (a4 := 19) rfl (by
        intro z hz
        cases hz) (by decide) (by decide) (by decide) (by decide) ?_
      refine lv_astore (lv' := (4, .ref q9) :: [(0, .ref x), (1, .int v), (2, .int w), (3, .ref o)]) hx hb dW_bind_13 hl (by decide) rfl (fun ls9 hl9 => ?_)
      exact lt_ex (n := 1) hx hb hr hlk (by decide) dW_bind_15 dW_bind_16 hout1 hR1 hS1 hy rfl (by omega) (by omega)
    · refine lc_catch hown hts hW hnc htab (x := 1) (by decide) hce hcv hcl [(0, 10, 13, 19)] [(0, 10, 21, 21), (0, 10, 25, 23)] (a1 := 0) (a2 := 10) (a3 := 17) (a4 := 13) rfl (by
        intro z hz
        simp only [List.mem_cons, List.not_mem_nil, or_false] at hz
        rcases hz with rfl
        · exact ⟨by decide, by decide, by decide, 0, by decide, by decide, by decide⟩
        ) (by decide) (by decide) (by decide) (by decide) ?_
      refine lv_astore (lv' := (4, .ref q9) :: [(0, .ref x), (1, .int v), (2, .int w), (3, .ref o)]) hx hb dW_bind_17 hl (by decide) rfl (fun ls9 hl9 => ?_)
      exact lt_ex (n := 2) hx hb hr hlk (by decide) dW_bind_19 dW_bind_20 hout1 hR1 hS1 hy rfl (by omega) (by omega)
    · refine lc_catch hown hts hW hnc htab (x := 2) (by decide) hce hcv hcl [(0, 10, 13, 19), (0, 10, 17, 13)] [(0, 10, 25, 23)] (a1 := 0) (a2 := 10) (a3 := 21) (a4 := 21) rfl (by
        intro z hz
        simp only [List.mem_cons, List.not_mem_nil, or_false] at hz
        rcases hz with rfl | rfl
        · exact ⟨by decide, by decide, by decide, 0, by decide, by decide, by decide⟩
        · exact ⟨by decide, by decide, by decide, 1, by decide, by decide, by decide⟩
        ) (by decide) (by decide) (by decide) (by decide) ?_
      refine lv_astore (lv' := (4, .ref q9) :: [(0, .ref x), (1, .int v), (2, .int w), (3, .ref o)]) hx hb dW_bind_21 hl (by decide) rfl (fun ls9 hl9 => ?_)
      exact lt_ex (n := 3) hx hb hr hlk (by decide) dW_bind_23 dW_bind_24 hout1 hR1 hS1 hy rfl (by omega) (by omega)
    · refine lc_catch hown hts hW hnc htab (x := 3) (by decide) hce hcv hcl [(0, 10, 13, 19), (0, 10, 17, 13), (0, 10, 21, 21)] [] (a1 := 0) (a2 := 10) (a3 := 25) (a4 := 23) rfl (by
        intro z hz
        simp only [List.mem_cons, List.not_mem_nil, or_false] at hz
        rcases hz with rfl | rfl | rfl
        · exact ⟨by decide, by decide, by decide, 0, by decide, by decide, by decide⟩
        · exact ⟨by decide, by decide, by decide, 1, by decide, by decide, by decide⟩
        · exact ⟨by decide, by decide, by decide, 2, by decide, by decide, by decide⟩
        ) (by decide) (by decide) (by decide) (by decide) ?_
      refine lv_astore (lv' := (4, .ref q9) :: [(0, .ref x), (1, .int v), (2, .int w), (3, .ref o)]) hx hb dW_bind_25 hl (by decide) rfl (fun ls9 hl9 => ?_)
      exact lt_ex (n := 4) hx hb hr hlk (by decide) dW_bind_27 dW_bind_28 hout1 hR1 hS1 hy rfl (by omega) (by omega)
  · intro v9 hv9 H1 lc hR1 hk1 hS1
    have hout1 : H1[o]? = some (arrV cJ 1 fun _ => .long v0) := (hk1 o ohl hoB).trans hout
    rcases ho with ⟨z, hz⟩ | ⟨e9, he, -⟩
    · have e9 : v9 = some (.inl z) := by rw [hz] at hv9; cases hv9; rfl
      subst e9
      exact lt_ok (tgt := 29) hx hb hr hlk dW_bind_8 dW_bind_9 dW_bind_10 (by decide) dW_bind_29 dW_bind_30 hoA hoB hout1 hJ hR1 hS1 hz (by omega) (by omega)
    · rw [he] at hv9; cases hv9
theorem dW_mount_0 : decode method_12_code 0 = .ok (.aload 4, 2) := by decide +kernel
theorem dW_mount_2 : decode method_12_code 2 = .ok (.iconst 0, 1) := by decide +kernel
theorem dW_mount_3 : decode method_12_code 3 = .ok (.aload_n 0, 1) := by decide +kernel
theorem dW_mount_4 : decode method_12_code 4 = .ok (.iload_n 1, 1) := by decide +kernel
theorem dW_mount_5 : decode method_12_code 5 = .ok (.iload_n 2, 1) := by decide +kernel
theorem dW_mount_6 : decode method_12_code 6 = .ok (.iload_n 3, 1) := by decide +kernel
theorem dW_mount_7 : decode method_12_code 7 = .ok (.invokevirtual 49, 3) := by decide +kernel
theorem dW_mount_10 : decode method_12_code 10 = .ok (.i2l, 1) := by decide +kernel
theorem dW_mount_11 : decode method_12_code 11 = .ok (.lastore, 1) := by decide +kernel
theorem dW_mount_12 : decode method_12_code 12 = .ok (.goto 19, 3) := by decide +kernel
theorem dW_mount_15 : decode method_12_code 15 = .ok (.astore 5, 2) := by decide +kernel
theorem dW_mount_17 : decode method_12_code 17 = .ok (.iconst 1, 1) := by decide +kernel
theorem dW_mount_18 : decode method_12_code 18 = .ok (.ireturn, 1) := by decide +kernel
theorem dW_mount_19 : decode method_12_code 19 = .ok (.astore 5, 2) := by decide +kernel
theorem dW_mount_21 : decode method_12_code 21 = .ok (.iconst 2, 1) := by decide +kernel
theorem dW_mount_22 : decode method_12_code 22 = .ok (.ireturn, 1) := by decide +kernel
theorem dW_mount_23 : decode method_12_code 23 = .ok (.astore 5, 2) := by decide +kernel
theorem dW_mount_25 : decode method_12_code 25 = .ok (.iconst 3, 1) := by decide +kernel
theorem dW_mount_26 : decode method_12_code 26 = .ok (.ireturn, 1) := by decide +kernel
theorem dW_mount_27 : decode method_12_code 27 = .ok (.astore 5, 2) := by decide +kernel
theorem dW_mount_29 : decode method_12_code 29 = .ok (.iconst 4, 1) := by decide +kernel
theorem dW_mount_30 : decode method_12_code 30 = .ok (.ireturn, 1) := by decide +kernel
theorem dW_mount_31 : decode method_12_code 31 = .ok (.iconst 0, 1) := by decide +kernel
theorem dW_mount_32 : decode method_12_code 32 = .ok (.ireturn, 1) := by decide +kernel
def yW_mount : MethodName := ⟨lR, "mount", "(LNameSpaces;III[J)I"⟩
def wW_mount : List Cond := .codeWith yW_mount method_12_code 6 (some .int) [(0, 12, 15, 19), (0, 12, 19, 13), (0, 12, 23, 21), (0, 12, 27, 23)] :: gw
def rW_mount (h : ag_H) (r : ag_O × ag_H) : Room := { frames := gF 73 + 1, cells := r.2.1 - h.1, slots := r.2.2.1 - h.2.1, locals := 8 + ((gT 73).1 + 11) + gLo 73 }
set_option maxRecDepth 100000 in
theorem w_mount {l : Launch} (htr : l.stackTraces = false) {D : ag_D} {A B : Nat → Prop} (hBA : ∀ q, B q → A q) {cJ : ClassId} {o : Nat} (hoA : A o) (hoB : ¬ B o) {d x : Nat} {fs : List ag_V} {v w u : Int32} {h : ag_H} {r : ag_O × ag_H} {v0 : Int64} (hrun : ag_run gT d 73 (.inr (some x) :: [.inl v, .inl w, .inl u]) h = some r) (ha : h.2.2 x = some (10, fs)) (ho : (∃ z, r.1 = .inl (some (.inl z))) ∨ ∃ e, r.1 = .inr e ∧ e < 4 ∧ 0 < [1, 2, 3, 4].getD e 0) : Met l yW_mount wW_mount (rW_mount h r) (lP D A B cJ o [.ref x, .int v, .int w, .int u, .ref o] h v0) (lQ D A B cJ o r [1, 2, 3, 4]) (r.2.1 - h.1) (r.2.2.1 - h.2.1) A := by
  refine lMet (vx_ofWH (cc := method_12_code) (maxL := 6) (ret := some .int) (hh := [(0, 12, 15, 19), (0, 12, 19, 13), (0, 12, 23, 21), (0, 12, 27, 23)]) (by decide) rfl ?_)
  intro p e s m args below meth c s₁ BB hml hv
  obtain ⟨rfl, hR, hW, hbs, hout, hJ, hnc⟩ := hv
  have hx := BB.exec
  have hb := BB.bytes
  have hr := BB.returns
  have hts0 := atoms_spec (ws := wW_mount) BB.pre
  have hts : ∀ w ∈ gw, w.before _ s = true := fun w hw => hts0 w (List.mem_cons_of_mem _ hw)
  have htab := vx_table (x := yW_mount) BB (hts0 _ List.mem_cons_self)
  have hown : s.vm.findClass lR = some m.cls := findClass_of_methodNamed BB.named
  have hlk := BB.notSynchronized
  have hl := lv_entry ([.ref x, .int v, .int w, .int u, .ref o]) (n := 6) (Nat.le_of_ble_eq_true rfl)
  rw [lg_entry_eq]
  generalize (lg_sl ([.ref x, .int v, .int w, .int u, .ref o]) ++ List.replicate (6 - (lg_sl ([.ref x, .int v, .int w, .int u, .ref o])).length) Slot.unset).toArray = ls at hl ⊢
  have hl : lv_has ls 6 [(0, .ref x), (1, .int v), (2, .int w), (3, .int u), (4, .ref o)] := hl
  have hS : va_S A s.heap s.heap [] := va_S.rf
  have ohl : o < s.heap.size := (Array.getElem?_eq_some_iff.mp hout).1
  refine lv_aload hx hb dW_mount_0 (lv_at hl 4 rfl) ?_
  refine lv_iconst (v := 0) hx hb dW_mount_2 (by decide) ?_
  refine lv_aload_n hx hb dW_mount_3 rfl (lv_at hl 0 rfl) ?_
  refine lv_iload_n hx hb dW_mount_4 rfl (lv_at hl 1 rfl) ?_
  refine lv_iload_n hx hb dW_mount_5 rfl (lv_at hl 2 rfl) ?_
  refine lv_iload_n hx hb dW_mount_6 rfl (lv_at hl 3 rfl) ?_
  refine lc_virt (As := [.inl v, .inl w, .inl u]) (rest := [.int 0, .ref o]) (nL := 6) htr hx hb hml hown hts hW hBA hbs hS hl.1 hrun hR ha rfl (show (73, 3) ∈ lNs by decide) (by decide) (Nat.le_refl _) (Nat.le_refl _) (by rw [Nat.zero_add]; exact Nat.le_refl _) (by rw [Nat.zero_add]; exact Nat.le_refl _) (Nat.le_of_ble_eq_true rfl) dW_mount_7 rfl ?_ ?_
  · intro y hy H1 lc q9 ce hR1 hk1 hS1 hce hcv hcl
    have hout1 : H1[o]? = some (arrV cJ 1 fun _ => .long v0) := (hk1 o ohl hoB).trans hout
    obtain ⟨hy4, hy0⟩ : y < 4 ∧ 0 < [1, 2, 3, 4].getD y 0 := by
      rcases ho with ⟨z, hz⟩ | ⟨e9, he, h4, h0⟩
      · rw [hz] at hy; cases hy
      · rw [he] at hy; cases hy; exact ⟨h4, h0⟩
    have : y = 0 ∨ y = 1 ∨ y = 2 ∨ y = 3 := by omega
    rcases this with rfl | rfl | rfl | rfl
    · refine lc_catch hown hts hW hnc htab (x := 0) (by decide) hce hcv hcl [] [(0, 12, 19, 13), (0, 12, 23, 21), (0, 12, 27, 23)] (a1 := 0) (a2 := 12) (a3 := 15) (a4 := 19) rfl (by
        intro z hz
        cases hz) (by decide) (by decide) (by decide) (by decide) ?_
      refine lv_astore (lv' := (5, .ref q9) :: [(0, .ref x), (1, .int v), (2, .int w), (3, .int u), (4, .ref o)]) hx hb dW_mount_15 hl (by decide) rfl (fun ls9 hl9 => ?_)
      exact lt_ex (n := 1) hx hb hr hlk (by decide) dW_mount_17 dW_mount_18 hout1 hR1 hS1 hy rfl (by omega) (by omega)
    · refine lc_catch hown hts hW hnc htab (x := 1) (by decide) hce hcv hcl [(0, 12, 15, 19)] [(0, 12, 23, 21), (0, 12, 27, 23)] (a1 := 0) (a2 := 12) (a3 := 19) (a4 := 13) rfl (by
        intro z hz
        simp only [List.mem_cons, List.not_mem_nil, or_false] at hz
        rcases hz with rfl
        · exact ⟨by decide, by decide, by decide, 0, by decide, by decide, by decide⟩
        ) (by decide) (by decide) (by decide) (by decide) ?_
      refine lv_astore (lv' := (5, .ref q9) :: [(0, .ref x), (1, .int v), (2, .int w), (3, .int u), (4, .ref o)]) hx hb dW_mount_19 hl (by decide) rfl (fun ls9 hl9 => ?_)
      exact lt_ex (n := 2) hx hb hr hlk (by decide) dW_mount_21 dW_mount_22 hout1 hR1 hS1 hy rfl (by omega) (by omega)
    · refine lc_catch hown hts hW hnc htab (x := 2) (by decide) hce hcv hcl [(0, 12, 15, 19), (0, 12, 19, 13)] [(0, 12, 27, 23)] (a1 := 0) (a2 := 12) (a3 := 23) (a4 := 21) rfl (by
        intro z hz
        simp only [List.mem_cons, List.not_mem_nil, or_false] at hz
        rcases hz with rfl | rfl
        · exact ⟨by decide, by decide, by decide, 0, by decide, by decide, by decide⟩
        · exact ⟨by decide, by decide, by decide, 1, by decide, by decide, by decide⟩
        ) (by decide) (by decide) (by decide) (by decide) ?_
      refine lv_astore (lv' := (5, .ref q9) :: [(0, .ref x), (1, .int v), (2, .int w), (3, .int u), (4, .ref o)]) hx hb dW_mount_23 hl (by decide) rfl (fun ls9 hl9 => ?_)
      exact lt_ex (n := 3) hx hb hr hlk (by decide) dW_mount_25 dW_mount_26 hout1 hR1 hS1 hy rfl (by omega) (by omega)
    · refine lc_catch hown hts hW hnc htab (x := 3) (by decide) hce hcv hcl [(0, 12, 15, 19), (0, 12, 19, 13), (0, 12, 23, 21)] [] (a1 := 0) (a2 := 12) (a3 := 27) (a4 := 23) rfl (by
        intro z hz
        simp only [List.mem_cons, List.not_mem_nil, or_false] at hz
        rcases hz with rfl | rfl | rfl
        · exact ⟨by decide, by decide, by decide, 0, by decide, by decide, by decide⟩
        · exact ⟨by decide, by decide, by decide, 1, by decide, by decide, by decide⟩
        · exact ⟨by decide, by decide, by decide, 2, by decide, by decide, by decide⟩
        ) (by decide) (by decide) (by decide) (by decide) ?_
      refine lv_astore (lv' := (5, .ref q9) :: [(0, .ref x), (1, .int v), (2, .int w), (3, .int u), (4, .ref o)]) hx hb dW_mount_27 hl (by decide) rfl (fun ls9 hl9 => ?_)
      exact lt_ex (n := 4) hx hb hr hlk (by decide) dW_mount_29 dW_mount_30 hout1 hR1 hS1 hy rfl (by omega) (by omega)
  · intro v9 hv9 H1 lc hR1 hk1 hS1
    have hout1 : H1[o]? = some (arrV cJ 1 fun _ => .long v0) := (hk1 o ohl hoB).trans hout
    rcases ho with ⟨z, hz⟩ | ⟨e9, he, -⟩
    · have e9 : v9 = some (.inl z) := by rw [hz] at hv9; cases hv9; rfl
      subst e9
      exact lt_ok (tgt := 31) hx hb hr hlk dW_mount_10 dW_mount_11 dW_mount_12 (by decide) dW_mount_31 dW_mount_32 hoA hoB hout1 hJ hR1 hS1 hz (by omega) (by omega)
    · rw [he] at hv9; cases hv9
theorem dW_unmount_0 : decode method_13_code 0 = .ok (.aload_n 2, 1) := by decide +kernel
theorem dW_unmount_1 : decode method_13_code 1 = .ok (.iconst 0, 1) := by decide +kernel
theorem dW_unmount_2 : decode method_13_code 2 = .ok (.aload_n 0, 1) := by decide +kernel
theorem dW_unmount_3 : decode method_13_code 3 = .ok (.iload_n 1, 1) := by decide +kernel
theorem dW_unmount_4 : decode method_13_code 4 = .ok (.invokevirtual 52, 3) := by decide +kernel
theorem dW_unmount_7 : decode method_13_code 7 = .ok (.i2l, 1) := by decide +kernel
theorem dW_unmount_8 : decode method_13_code 8 = .ok (.lastore, 1) := by decide +kernel
theorem dW_unmount_9 : decode method_13_code 9 = .ok (.goto 12, 3) := by decide +kernel
theorem dW_unmount_12 : decode method_13_code 12 = .ok (.astore_n 3, 1) := by decide +kernel
theorem dW_unmount_13 : decode method_13_code 13 = .ok (.iconst 1, 1) := by decide +kernel
theorem dW_unmount_14 : decode method_13_code 14 = .ok (.ireturn, 1) := by decide +kernel
theorem dW_unmount_15 : decode method_13_code 15 = .ok (.astore_n 3, 1) := by decide +kernel
theorem dW_unmount_16 : decode method_13_code 16 = .ok (.iconst 2, 1) := by decide +kernel
theorem dW_unmount_17 : decode method_13_code 17 = .ok (.ireturn, 1) := by decide +kernel
theorem dW_unmount_18 : decode method_13_code 18 = .ok (.astore_n 3, 1) := by decide +kernel
theorem dW_unmount_19 : decode method_13_code 19 = .ok (.iconst 3, 1) := by decide +kernel
theorem dW_unmount_20 : decode method_13_code 20 = .ok (.ireturn, 1) := by decide +kernel
theorem dW_unmount_21 : decode method_13_code 21 = .ok (.iconst 0, 1) := by decide +kernel
theorem dW_unmount_22 : decode method_13_code 22 = .ok (.ireturn, 1) := by decide +kernel
def yW_unmount : MethodName := ⟨lR, "unmount", "(LNameSpaces;I[J)I"⟩
def wW_unmount : List Cond := .codeWith yW_unmount method_13_code 4 (some .int) [(0, 9, 12, 19), (0, 9, 15, 21), (0, 9, 18, 23)] :: gw
def rW_unmount (h : ag_H) (r : ag_O × ag_H) : Room := { frames := gF 74 + 1, cells := r.2.1 - h.1, slots := r.2.2.1 - h.2.1, locals := 8 + ((gT 74).1 + 11) + gLo 74 }
set_option maxRecDepth 100000 in
theorem w_unmount {l : Launch} (htr : l.stackTraces = false) {D : ag_D} {A B : Nat → Prop} (hBA : ∀ q, B q → A q) {cJ : ClassId} {o : Nat} (hoA : A o) (hoB : ¬ B o) {d x : Nat} {fs : List ag_V} {v : Int32} {h : ag_H} {r : ag_O × ag_H} {v0 : Int64} (hrun : ag_run gT d 74 (.inr (some x) :: [.inl v]) h = some r) (ha : h.2.2 x = some (10, fs)) (ho : (∃ z, r.1 = .inl (some (.inl z))) ∨ ∃ e, r.1 = .inr e ∧ e < 4 ∧ 0 < [1, 0, 2, 3].getD e 0) : Met l yW_unmount wW_unmount (rW_unmount h r) (lP D A B cJ o [.ref x, .int v, .ref o] h v0) (lQ D A B cJ o r [1, 0, 2, 3]) (r.2.1 - h.1) (r.2.2.1 - h.2.1) A := by
  refine lMet (vx_ofWH (cc := method_13_code) (maxL := 4) (ret := some .int) (hh := [(0, 9, 12, 19), (0, 9, 15, 21), (0, 9, 18, 23)]) (by decide) rfl ?_)
  intro p e s m args below meth c s₁ BB hml hv
  obtain ⟨rfl, hR, hW, hbs, hout, hJ, hnc⟩ := hv
  have hx := BB.exec
  have hb := BB.bytes
  have hr := BB.returns
  have hts0 := atoms_spec (ws := wW_unmount) BB.pre
  have hts : ∀ w ∈ gw, w.before _ s = true := fun w hw => hts0 w (List.mem_cons_of_mem _ hw)
  have htab := vx_table (x := yW_unmount) BB (hts0 _ List.mem_cons_self)
  have hown : s.vm.findClass lR = some m.cls := findClass_of_methodNamed BB.named
  have hlk := BB.notSynchronized
  have hl := lv_entry ([.ref x, .int v, .ref o]) (n := 4) (Nat.le_of_ble_eq_true rfl)
  rw [lg_entry_eq]
  generalize (lg_sl ([.ref x, .int v, .ref o]) ++ List.replicate (4 - (lg_sl ([.ref x, .int v, .ref o])).length) Slot.unset).toArray = ls at hl ⊢
  have hl : lv_has ls 4 [(0, .ref x), (1, .int v), (2, .ref o)] := hl
  have hS : va_S A s.heap s.heap [] := va_S.rf
  have ohl : o < s.heap.size := (Array.getElem?_eq_some_iff.mp hout).1
  refine lv_aload_n hx hb dW_unmount_0 rfl (lv_at hl 2 rfl) ?_
  refine lv_iconst (v := 0) hx hb dW_unmount_1 (by decide) ?_
  refine lv_aload_n hx hb dW_unmount_2 rfl (lv_at hl 0 rfl) ?_
  refine lv_iload_n hx hb dW_unmount_3 rfl (lv_at hl 1 rfl) ?_
  refine lc_virt (As := [.inl v]) (rest := [.int 0, .ref o]) (nL := 4) htr hx hb hml hown hts hW hBA hbs hS hl.1 hrun hR ha rfl (show (74, 1) ∈ lNs by decide) (by decide) (Nat.le_refl _) (Nat.le_refl _) (by rw [Nat.zero_add]; exact Nat.le_refl _) (by rw [Nat.zero_add]; exact Nat.le_refl _) (Nat.le_of_ble_eq_true rfl) dW_unmount_4 rfl ?_ ?_
  · intro y hy H1 lc q9 ce hR1 hk1 hS1 hce hcv hcl
    have hout1 : H1[o]? = some (arrV cJ 1 fun _ => .long v0) := (hk1 o ohl hoB).trans hout
    obtain ⟨hy4, hy0⟩ : y < 4 ∧ 0 < [1, 0, 2, 3].getD y 0 := by
      rcases ho with ⟨z, hz⟩ | ⟨e9, he, h4, h0⟩
      · rw [hz] at hy; cases hy
      · rw [he] at hy; cases hy; exact ⟨h4, h0⟩
    have : y = 0 ∨ y = 1 ∨ y = 2 ∨ y = 3 := by omega
    rcases this with rfl | rfl | rfl | rfl
    · refine lc_catch hown hts hW hnc htab (x := 0) (by decide) hce hcv hcl [] [(0, 9, 15, 21), (0, 9, 18, 23)] (a1 := 0) (a2 := 9) (a3 := 12) (a4 := 19) rfl (by
        intro z hz
        cases hz) (by decide) (by decide) (by decide) (by decide) ?_
      refine lv_astore_n (lv' := (3, .ref q9) :: [(0, .ref x), (1, .int v), (2, .ref o)]) hx hb dW_unmount_12 rfl hl (by decide) rfl (fun ls9 hl9 => ?_)
      exact lt_ex (n := 1) hx hb hr hlk (by decide) dW_unmount_13 dW_unmount_14 hout1 hR1 hS1 hy rfl (by omega) (by omega)
    · exact absurd hy0 (by decide)
    · refine lc_catch hown hts hW hnc htab (x := 2) (by decide) hce hcv hcl [(0, 9, 12, 19)] [(0, 9, 18, 23)] (a1 := 0) (a2 := 9) (a3 := 15) (a4 := 21) rfl (by
        intro z hz
        simp only [List.mem_cons, List.not_mem_nil, or_false] at hz
        rcases hz with rfl
        · exact ⟨by decide, by decide, by decide, 0, by decide, by decide, by decide⟩
        ) (by decide) (by decide) (by decide) (by decide) ?_
      refine lv_astore_n (lv' := (3, .ref q9) :: [(0, .ref x), (1, .int v), (2, .ref o)]) hx hb dW_unmount_15 rfl hl (by decide) rfl (fun ls9 hl9 => ?_)
      exact lt_ex (n := 2) hx hb hr hlk (by decide) dW_unmount_16 dW_unmount_17 hout1 hR1 hS1 hy rfl (by omega) (by omega)
    · refine lc_catch hown hts hW hnc htab (x := 3) (by decide) hce hcv hcl [(0, 9, 12, 19), (0, 9, 15, 21)] [] (a1 := 0) (a2 := 9) (a3 := 18) (a4 := 23) rfl (by
        intro z hz
        simp only [List.mem_cons, List.not_mem_nil, or_false] at hz
        rcases hz with rfl | rfl
        · exact ⟨by decide, by decide, by decide, 0, by decide, by decide, by decide⟩
        · exact ⟨by decide, by decide, by decide, 2, by decide, by decide, by decide⟩
        ) (by decide) (by decide) (by decide) (by decide) ?_
      refine lv_astore_n (lv' := (3, .ref q9) :: [(0, .ref x), (1, .int v), (2, .ref o)]) hx hb dW_unmount_18 rfl hl (by decide) rfl (fun ls9 hl9 => ?_)
      exact lt_ex (n := 3) hx hb hr hlk (by decide) dW_unmount_19 dW_unmount_20 hout1 hR1 hS1 hy rfl (by omega) (by omega)
  · intro v9 hv9 H1 lc hR1 hk1 hS1
    have hout1 : H1[o]? = some (arrV cJ 1 fun _ => .long v0) := (hk1 o ohl hoB).trans hout
    rcases ho with ⟨z, hz⟩ | ⟨e9, he, -⟩
    · have e9 : v9 = some (.inl z) := by rw [hz] at hv9; cases hv9; rfl
      subst e9
      exact lt_ok (tgt := 21) hx hb hr hlk dW_unmount_7 dW_unmount_8 dW_unmount_9 (by decide) dW_unmount_21 dW_unmount_22 hoA hoB hout1 hJ hR1 hS1 hz (by omega) (by omega)
    · rw [he] at hv9; cases hv9
theorem dW_fork_0 : decode method_14_code 0 = .ok (.aload_n 3, 1) := by decide +kernel
theorem dW_fork_1 : decode method_14_code 1 = .ok (.iconst 0, 1) := by decide +kernel
theorem dW_fork_2 : decode method_14_code 2 = .ok (.aload_n 0, 1) := by decide +kernel
theorem dW_fork_3 : decode method_14_code 3 = .ok (.iload_n 1, 1) := by decide +kernel
theorem dW_fork_4 : decode method_14_code 4 = .ok (.iload_n 2, 1) := by decide +kernel
theorem dW_fork_5 : decode method_14_code 5 = .ok (.invokevirtual 55, 3) := by decide +kernel
theorem dW_fork_8 : decode method_14_code 8 = .ok (.i2l, 1) := by decide +kernel
theorem dW_fork_9 : decode method_14_code 9 = .ok (.lastore, 1) := by decide +kernel
theorem dW_fork_10 : decode method_14_code 10 = .ok (.goto 11, 3) := by decide +kernel
theorem dW_fork_13 : decode method_14_code 13 = .ok (.astore 4, 2) := by decide +kernel
theorem dW_fork_15 : decode method_14_code 15 = .ok (.iconst 1, 1) := by decide +kernel
theorem dW_fork_16 : decode method_14_code 16 = .ok (.ireturn, 1) := by decide +kernel
theorem dW_fork_17 : decode method_14_code 17 = .ok (.astore 4, 2) := by decide +kernel
theorem dW_fork_19 : decode method_14_code 19 = .ok (.iconst 2, 1) := by decide +kernel
theorem dW_fork_20 : decode method_14_code 20 = .ok (.ireturn, 1) := by decide +kernel
theorem dW_fork_21 : decode method_14_code 21 = .ok (.iconst 0, 1) := by decide +kernel
theorem dW_fork_22 : decode method_14_code 22 = .ok (.ireturn, 1) := by decide +kernel
def yW_fork : MethodName := ⟨lR, "fork", "(LNameSpaces;IZ[J)I"⟩
def wW_fork : List Cond := .codeWith yW_fork method_14_code 5 (some .int) [(0, 10, 13, 19), (0, 10, 17, 13)] :: gw
def rW_fork (h : ag_H) (r : ag_O × ag_H) : Room := { frames := gF 75 + 1, cells := r.2.1 - h.1, slots := r.2.2.1 - h.2.1, locals := 8 + ((gT 75).1 + 11) + gLo 75 }
set_option maxRecDepth 100000 in
theorem w_fork {l : Launch} (htr : l.stackTraces = false) {D : ag_D} {A B : Nat → Prop} (hBA : ∀ q, B q → A q) {cJ : ClassId} {o : Nat} (hoA : A o) (hoB : ¬ B o) {d x : Nat} {fs : List ag_V} {v w : Int32} {h : ag_H} {r : ag_O × ag_H} {v0 : Int64} (hrun : ag_run gT d 75 (.inr (some x) :: [.inl v, .inl w]) h = some r) (ha : h.2.2 x = some (10, fs)) (ho : (∃ z, r.1 = .inl (some (.inl z))) ∨ ∃ e, r.1 = .inr e ∧ e < 4 ∧ 0 < [1, 2, 0, 0].getD e 0) : Met l yW_fork wW_fork (rW_fork h r) (lP D A B cJ o [.ref x, .int v, .int w, .ref o] h v0) (lQ D A B cJ o r [1, 2, 0, 0]) (r.2.1 - h.1) (r.2.2.1 - h.2.1) A := by
  refine lMet (vx_ofWH (cc := method_14_code) (maxL := 5) (ret := some .int) (hh := [(0, 10, 13, 19), (0, 10, 17, 13)]) (by decide) rfl ?_)
  intro p e s m args below meth c s₁ BB hml hv
  obtain ⟨rfl, hR, hW, hbs, hout, hJ, hnc⟩ := hv
  have hx := BB.exec
  have hb := BB.bytes
  have hr := BB.returns
  have hts0 := atoms_spec (ws := wW_fork) BB.pre
  have hts : ∀ w ∈ gw, w.before _ s = true := fun w hw => hts0 w (List.mem_cons_of_mem _ hw)
  have htab := vx_table (x := yW_fork) BB (hts0 _ List.mem_cons_self)
  have hown : s.vm.findClass lR = some m.cls := findClass_of_methodNamed BB.named
  have hlk := BB.notSynchronized
  have hl := lv_entry ([.ref x, .int v, .int w, .ref o]) (n := 5) (Nat.le_of_ble_eq_true rfl)
  rw [lg_entry_eq]
  generalize (lg_sl ([.ref x, .int v, .int w, .ref o]) ++ List.replicate (5 - (lg_sl ([.ref x, .int v, .int w, .ref o])).length) Slot.unset).toArray = ls at hl ⊢
  have hl : lv_has ls 5 [(0, .ref x), (1, .int v), (2, .int w), (3, .ref o)] := hl
  have hS : va_S A s.heap s.heap [] := va_S.rf
  have ohl : o < s.heap.size := (Array.getElem?_eq_some_iff.mp hout).1
  refine lv_aload_n hx hb dW_fork_0 rfl (lv_at hl 3 rfl) ?_
  refine lv_iconst (v := 0) hx hb dW_fork_1 (by decide) ?_
  refine lv_aload_n hx hb dW_fork_2 rfl (lv_at hl 0 rfl) ?_
  refine lv_iload_n hx hb dW_fork_3 rfl (lv_at hl 1 rfl) ?_
  refine lv_iload_n hx hb dW_fork_4 rfl (lv_at hl 2 rfl) ?_
  refine lc_virt (As := [.inl v, .inl w]) (rest := [.int 0, .ref o]) (nL := 5) htr hx hb hml hown hts hW hBA hbs hS hl.1 hrun hR ha rfl (show (75, 2) ∈ lNs by decide) (by decide) (Nat.le_refl _) (Nat.le_refl _) (by rw [Nat.zero_add]; exact Nat.le_refl _) (by rw [Nat.zero_add]; exact Nat.le_refl _) (Nat.le_of_ble_eq_true rfl) dW_fork_5 rfl ?_ ?_
  · intro y hy H1 lc q9 ce hR1 hk1 hS1 hce hcv hcl
    have hout1 : H1[o]? = some (arrV cJ 1 fun _ => .long v0) := (hk1 o ohl hoB).trans hout
    obtain ⟨hy4, hy0⟩ : y < 4 ∧ 0 < [1, 2, 0, 0].getD y 0 := by
      rcases ho with ⟨z, hz⟩ | ⟨e9, he, h4, h0⟩
      · rw [hz] at hy; cases hy
      · rw [he] at hy; cases hy; exact ⟨h4, h0⟩
    have : y = 0 ∨ y = 1 ∨ y = 2 ∨ y = 3 := by omega
    rcases this with rfl | rfl | rfl | rfl
    · refine lc_catch hown hts hW hnc htab (x := 0) (by decide) hce hcv hcl [] [(0, 10, 17, 13)] (a1 := 0) (a2 := 10) (a3 := 13) (a4 := 19) rfl (by
        intro z hz
        cases hz) (by decide) (by decide) (by decide) (by decide) ?_
      refine lv_astore (lv' := (4, .ref q9) :: [(0, .ref x), (1, .int v), (2, .int w), (3, .ref o)]) hx hb dW_fork_13 hl (by decide) rfl (fun ls9 hl9 => ?_)
      exact lt_ex (n := 1) hx hb hr hlk (by decide) dW_fork_15 dW_fork_16 hout1 hR1 hS1 hy rfl (by omega) (by omega)
    · refine lc_catch hown hts hW hnc htab (x := 1) (by decide) hce hcv hcl [(0, 10, 13, 19)] [] (a1 := 0) (a2 := 10) (a3 := 17) (a4 := 13) rfl (by
        intro z hz
        simp only [List.mem_cons, List.not_mem_nil, or_false] at hz
        rcases hz with rfl
        · exact ⟨by decide, by decide, by decide, 0, by decide, by decide, by decide⟩
        ) (by decide) (by decide) (by decide) (by decide) ?_
      refine lv_astore (lv' := (4, .ref q9) :: [(0, .ref x), (1, .int v), (2, .int w), (3, .ref o)]) hx hb dW_fork_17 hl (by decide) rfl (fun ls9 hl9 => ?_)
      exact lt_ex (n := 2) hx hb hr hlk (by decide) dW_fork_19 dW_fork_20 hout1 hR1 hS1 hy rfl (by omega) (by omega)
    · exact absurd hy0 (by decide)
    · exact absurd hy0 (by decide)
  · intro v9 hv9 H1 lc hR1 hk1 hS1
    have hout1 : H1[o]? = some (arrV cJ 1 fun _ => .long v0) := (hk1 o ohl hoB).trans hout
    rcases ho with ⟨z, hz⟩ | ⟨e9, he, -⟩
    · have e9 : v9 = some (.inl z) := by rw [hz] at hv9; cases hv9; rfl
      subst e9
      exact lt_ok (tgt := 21) hx hb hr hlk dW_fork_8 dW_fork_9 dW_fork_10 (by decide) dW_fork_21 dW_fork_22 hoA hoB hout1 hJ hR1 hS1 hz (by omega) (by omega)
    · rw [he] at hv9; cases hv9
theorem dW_exit_0 : decode method_15_code 0 = .ok (.aload_n 2, 1) := by decide +kernel
theorem dW_exit_1 : decode method_15_code 1 = .ok (.iconst 0, 1) := by decide +kernel
theorem dW_exit_2 : decode method_15_code 2 = .ok (.aload_n 0, 1) := by decide +kernel
theorem dW_exit_3 : decode method_15_code 3 = .ok (.iload_n 1, 1) := by decide +kernel
theorem dW_exit_4 : decode method_15_code 4 = .ok (.invokevirtual 58, 3) := by decide +kernel
theorem dW_exit_7 : decode method_15_code 7 = .ok (.i2l, 1) := by decide +kernel
theorem dW_exit_8 : decode method_15_code 8 = .ok (.lastore, 1) := by decide +kernel
theorem dW_exit_9 : decode method_15_code 9 = .ok (.goto 6, 3) := by decide +kernel
theorem dW_exit_12 : decode method_15_code 12 = .ok (.astore_n 3, 1) := by decide +kernel
theorem dW_exit_13 : decode method_15_code 13 = .ok (.iconst 1, 1) := by decide +kernel
theorem dW_exit_14 : decode method_15_code 14 = .ok (.ireturn, 1) := by decide +kernel
theorem dW_exit_15 : decode method_15_code 15 = .ok (.iconst 0, 1) := by decide +kernel
theorem dW_exit_16 : decode method_15_code 16 = .ok (.ireturn, 1) := by decide +kernel
def yW_exit : MethodName := ⟨lR, "exit", "(LNameSpaces;I[J)I"⟩
def wW_exit : List Cond := .codeWith yW_exit method_15_code 4 (some .int) [(0, 9, 12, 19)] :: gw
def rW_exit (h : ag_H) (r : ag_O × ag_H) : Room := { frames := gF 76 + 1, cells := r.2.1 - h.1, slots := r.2.2.1 - h.2.1, locals := 8 + ((gT 76).1 + 11) + gLo 76 }
set_option maxRecDepth 100000 in
theorem w_exit {l : Launch} (htr : l.stackTraces = false) {D : ag_D} {A B : Nat → Prop} (hBA : ∀ q, B q → A q) {cJ : ClassId} {o : Nat} (hoA : A o) (hoB : ¬ B o) {d x : Nat} {fs : List ag_V} {v : Int32} {h : ag_H} {r : ag_O × ag_H} {v0 : Int64} (hrun : ag_run gT d 76 (.inr (some x) :: [.inl v]) h = some r) (ha : h.2.2 x = some (10, fs)) (ho : (∃ z, r.1 = .inl (some (.inl z))) ∨ ∃ e, r.1 = .inr e ∧ e < 4 ∧ 0 < [1, 0, 0, 0].getD e 0) : Met l yW_exit wW_exit (rW_exit h r) (lP D A B cJ o [.ref x, .int v, .ref o] h v0) (lQ D A B cJ o r [1, 0, 0, 0]) (r.2.1 - h.1) (r.2.2.1 - h.2.1) A := by
  refine lMet (vx_ofWH (cc := method_15_code) (maxL := 4) (ret := some .int) (hh := [(0, 9, 12, 19)]) (by decide) rfl ?_)
  intro p e s m args below meth c s₁ BB hml hv
  obtain ⟨rfl, hR, hW, hbs, hout, hJ, hnc⟩ := hv
  have hx := BB.exec
  have hb := BB.bytes
  have hr := BB.returns
  have hts0 := atoms_spec (ws := wW_exit) BB.pre
  have hts : ∀ w ∈ gw, w.before _ s = true := fun w hw => hts0 w (List.mem_cons_of_mem _ hw)
  have htab := vx_table (x := yW_exit) BB (hts0 _ List.mem_cons_self)
  have hown : s.vm.findClass lR = some m.cls := findClass_of_methodNamed BB.named
  have hlk := BB.notSynchronized
  have hl := lv_entry ([.ref x, .int v, .ref o]) (n := 4) (Nat.le_of_ble_eq_true rfl)
  rw [lg_entry_eq]
  generalize (lg_sl ([.ref x, .int v, .ref o]) ++ List.replicate (4 - (lg_sl ([.ref x, .int v, .ref o])).length) Slot.unset).toArray = ls at hl ⊢
  have hl : lv_has ls 4 [(0, .ref x), (1, .int v), (2, .ref o)] := hl
  have hS : va_S A s.heap s.heap [] := va_S.rf
  have ohl : o < s.heap.size := (Array.getElem?_eq_some_iff.mp hout).1
  refine lv_aload_n hx hb dW_exit_0 rfl (lv_at hl 2 rfl) ?_
  refine lv_iconst (v := 0) hx hb dW_exit_1 (by decide) ?_
  refine lv_aload_n hx hb dW_exit_2 rfl (lv_at hl 0 rfl) ?_
  refine lv_iload_n hx hb dW_exit_3 rfl (lv_at hl 1 rfl) ?_
  refine lc_virt (As := [.inl v]) (rest := [.int 0, .ref o]) (nL := 4) htr hx hb hml hown hts hW hBA hbs hS hl.1 hrun hR ha rfl (show (76, 1) ∈ lNs by decide) (by decide) (Nat.le_refl _) (Nat.le_refl _) (by rw [Nat.zero_add]; exact Nat.le_refl _) (by rw [Nat.zero_add]; exact Nat.le_refl _) (Nat.le_of_ble_eq_true rfl) dW_exit_4 rfl ?_ ?_
  · intro y hy H1 lc q9 ce hR1 hk1 hS1 hce hcv hcl
    have hout1 : H1[o]? = some (arrV cJ 1 fun _ => .long v0) := (hk1 o ohl hoB).trans hout
    obtain ⟨hy4, hy0⟩ : y < 4 ∧ 0 < [1, 0, 0, 0].getD y 0 := by
      rcases ho with ⟨z, hz⟩ | ⟨e9, he, h4, h0⟩
      · rw [hz] at hy; cases hy
      · rw [he] at hy; cases hy; exact ⟨h4, h0⟩
    have : y = 0 ∨ y = 1 ∨ y = 2 ∨ y = 3 := by omega
    rcases this with rfl | rfl | rfl | rfl
    · refine lc_catch hown hts hW hnc htab (x := 0) (by decide) hce hcv hcl [] [] (a1 := 0) (a2 := 9) (a3 := 12) (a4 := 19) rfl (by
        intro z hz
        cases hz) (by decide) (by decide) (by decide) (by decide) ?_
      refine lv_astore_n (lv' := (3, .ref q9) :: [(0, .ref x), (1, .int v), (2, .ref o)]) hx hb dW_exit_12 rfl hl (by decide) rfl (fun ls9 hl9 => ?_)
      exact lt_ex (n := 1) hx hb hr hlk (by decide) dW_exit_13 dW_exit_14 hout1 hR1 hS1 hy rfl (by omega) (by omega)
    · exact absurd hy0 (by decide)
    · exact absurd hy0 (by decide)
    · exact absurd hy0 (by decide)
  · intro v9 hv9 H1 lc hR1 hk1 hS1
    have hout1 : H1[o]? = some (arrV cJ 1 fun _ => .long v0) := (hk1 o ohl hoB).trans hout
    rcases ho with ⟨z, hz⟩ | ⟨e9, he, -⟩
    · have e9 : v9 = some (.inl z) := by rw [hz] at hv9; cases hv9; rfl
      subst e9
      exact lt_ok (tgt := 15) hx hb hr hlk dW_exit_7 dW_exit_8 dW_exit_9 (by decide) dW_exit_15 dW_exit_16 hoA hoB hout1 hJ hR1 hS1 hz (by omega) (by omega)
    · rw [he] at hv9; cases hv9

/-! THE CLAIM OUT OF ONE WALK OF THE LAW'S BODY. Your part is whole_start (and what it stands on); all else here is the same for every law, but numbers. -/
def R_law : String := "NameSpacesLaw"
def lw_P (b : Addr) (xs : List Int32) (args : Array Value) (s : State) : Prop := args = #[.ref b] ∧ s.IntsAt b xs ∧ xs.length ≤ 2048 ∧ (Jvm.Cond.and given_1 narrow_1).before args s = true
def lw_Q (_ : Array Value) (s : State) (o : Outcome) (t : State) : Prop := o = .returned (some (.int 1)) ∧ Framed s o t [] 601024 7293034
def lw_Z (below : List Frame) (a : Array Value) (s : State) : State → Prop := fun t => ∃ o, t.status = .running ∧ Ended t below o ∧ lw_Q a s o t
/-- the law's own end, with 1 on the stack, nothing written that was there before, its room as the claim has it -/
theorem lw_ret {p : Program} {l : Launch} {e : Env} {s : State} {m : MethodId} {below : List Frame} {meth : Method} {c : Code} {b : Nat} (hx : p.tables.exec = Jvm.exec) (hb : c.code = code) (hr : meth.sig.returnType = ret) (hlocks : meth.locks = false) {pc : Nat} {H : Heap} {ls : Array Slot} (hdg : decode code pc = .ok (.ireturn, 1)) : W p l e room_1 s m #[Value.ref b] below meth c H [] 601024 7293034 (lw_Z below #[Value.ref b] s) (F0 m pc ls [.int 1]) := by
  intro T hT X
  obtain ⟨fs, hret, hrun, hended, hW, hframe⟩ := X.leave (v := some (.int 1)) (hlocks := hlocks) (fun h => by rw [hr] at h; cases h)
  have hmeth' : T.vm.method? m = some meth := X.method'
  refine ⟨T.setFrames fs, ?_, .returned (some (.int 1)), hrun, hended, rfl, ⟨_, rfl⟩, hW, hframe⟩
  jvm_step X.here [X.here.top, hx, hb, hdg, hmeth', hr, ret, narrow_b1]
  (try refine ⟨rfl, ?_⟩); (try refine ⟨rfl, ?_⟩)
  first | (intro acts; rw [hret _ acts rfl rfl rfl]) | rw [hret _ _ rfl rfl rfl]
  exact Steps.refl _
/-- what holds at the law's entry: the machine, the code, the tables' words (any of lw_tbl by 'hts w (by decide +kernel)'), the script of L ints xs at the cell b, what the Statement gives of the start (any of its parts by flat_of_before) -/
def lw_At (p : Program) (s : State) (m : MethodId) (meth : Method) (c : Code) (b L : Nat) (xs : Nat → Int32) : Prop :=
  p.tables.exec = Jvm.exec ∧ c.code = code ∧ meth.sig.returnType = ret ∧ c.maxLocals = 7 ∧ s.vm.findClass R_law = some m.cls ∧ (∀ w ∈ lw_tbl, w.before #[Value.ref b] s = true) ∧ va_X b L xs s s.heap ∧ b < s.heap.size ∧ meth.locks = false ∧ (Jvm.Cond.and given_1 narrow_1).before #[Value.ref b] s = true
/-! THE LAW: its loop -/
theorem lw_sub4 : ∀ L, L < 2049 → (nI L - nI 4).toInt = (L : Int) - 4 := by decide +kernel
theorem lw_int : ∀ i, i < 2060 → (nI i).toInt = (i : Int) := by decide +kernel
theorem lw_sw (x : Int32) : (∃ k, k < 17 ∧ x = nI k) ∨ x.toInt < 0 ∨ 16 < x.toInt := by
  by_cases h1 : x.toInt < 0
  · exact Or.inr (Or.inl h1)
  · by_cases h2 : 16 < x.toInt
    · exact Or.inr (Or.inr h2)
    · refine Or.inl ⟨x.toInt.toNat, by omega, ?_⟩
      have h3 : (nI x.toInt.toNat).toInt = x.toInt := by
        rw [lw_int _ (by omega)]
        omega
      exact (Int32.toInt_inj.mp h3).symm
theorem Cm.up {n : Nat} {h : ag_H} (hC : Cm n h) : Cm (n + 1) h := by
  obtain ⟨z, sl, pm, S, Q, P, O, H, X, W, M, C, hb, R, I, hz, hs⟩ := hC
  exact ⟨z, sl, pm, S, Q, P, O, H, X, W, M, C, hb, R, I.up, by omega, by omega⟩
theorem Cm.z {n : Nat} {h : ag_H} (hC : Cm n h) : 263 ≤ h.1 := by
  obtain ⟨z, sl, pm, S, Q, P, O, H, X, W, M, ⟨kd, ln, I, R, ad, rfl, hB⟩, -⟩ := hC
  exact hB.2.1
section LOOP
variable {p : Program} {l : Launch} {e : Env} {s : State} {m : MethodId} {below : List Frame} {meth : Method} {c : Code} {b L : Nat} {xs : Nat → Int32} {D : ag_D} {cJ : ClassId}
set_option maxHeartbeats 4000000 in
theorem law_loop (X : LX p l s m meth c b L xs D cJ) : ∀ (f n : Nat) (h : ag_H) (v : Int64) (H : Heap) (locs : List Loc) (ls : Array Slot), L ≤ 4 * n + 4 * f + 3 → n ≤ 512 → Cm n h → LH D cJ s h H v locs → lv_has ls 7 [(4, .int (nI (4 * n))), (0, .ref b), (1, .ref (0 + s.heap.size)), (2, .ref (230 + s.heap.size)), (3, .ref (262 + s.heap.size))] → W p l e room_1 s m #[Value.ref b] below meth c H locs h.1 h.2.1 (lw_Z below #[Value.ref b] s) (F0 m 23 ls []) := by
  have X0 := X
  obtain ⟨htr, hx, hb, hr, hml, hown, hts, hX, hbl, hlk, hW, hJ, hnc, hL⟩ := X
  have hbA : ¬ lA s.heap.size b := Nat.not_le.mpr hbl
  intro f
  induction f with
  | zero =>
    intro n h v H locs ls hf hn hC hH hl
    have bd := hC.bd hn
    refine lv_iload hx hb dl_23 (lv_at hl 0 rfl) ?_
    refine lv_aload_n hx hb dl_25 rfl (lv_at hl 1 rfl) ?_
    refine va_slen hx hb hX hbl hbA hH.2.2.2 dl_26 ?_
    refine lv_iconst (v := nI 4) hx hb dl_27 (by decide) ?_
    refine lv_isub hx hb dl_28 ?_
    refine lv_icmp_gt (tgt := 1132) hx hb dl_29 (by decide) (fun e1 => ?_) (fun e1 => ?_)
    · refine lv_iconst (v := 1) hx hb dl_1132 (by decide) ?_
      refine va_forget hH.2.2.2.2.2 ?_
      exact W.widen (k := 601024) (n := 7293034) bd.1 bd.2 (lw_ret hx hb hr hlk dl_1133)
    · exfalso
      apply e1
      show nI L - nI 4 < nI (4 * n)
      rw [Int32.lt_iff_toInt_lt, lw_sub4 L (by omega), lw_int _ (by omega)]
      omega
  | succ f ih =>
    intro n h v H locs ls hf hn hC hH hl
    have bd := hC.bd hn
    refine lv_iload hx hb dl_23 (lv_at hl 0 rfl) ?_
    refine lv_aload_n hx hb dl_25 rfl (lv_at hl 1 rfl) ?_
    refine va_slen hx hb hX hbl hbA hH.2.2.2 dl_26 ?_
    refine lv_iconst (v := nI 4) hx hb dl_27 (by decide) ?_
    refine lv_isub hx hb dl_28 ?_
    refine lv_icmp_gt (tgt := 1132) hx hb dl_29 (by decide) (fun e1 => ?_) (fun e1 => ?_)
    · refine lv_iconst (v := 1) hx hb dl_1132 (by decide) ?_
      refine va_forget hH.2.2.2.2.2 ?_
      exact W.widen (k := 601024) (n := 7293034) bd.1 bd.2 (lw_ret hx hb hr hlk dl_1133)
    · have e1 : ¬ nI L - nI 4 < nI (4 * n) := e1
      rw [Int32.lt_iff_toInt_lt, lw_sub4 L (by omega), lw_int _ (by omega)] at e1
      have hL4 : 4 * n + 3 < L := by omega
      have hn5 : n < 512 := by omega
      have kk : ∀ (h9 : ag_H) (v9 : Int64) (H1 : Heap) (lc : List Loc) (ls : Array Slot), Cm (n + 1) h9 → LH D cJ s h9 H1 v9 lc → lv_has ls 7 [(4, .int (nI (4 * n))), (0, .ref b), (1, .ref (0 + s.heap.size)), (2, .ref (230 + s.heap.size)), (3, .ref (262 + s.heap.size))] → W p l e room_1 s m #[Value.ref b] below meth c H1 lc h9.1 h9.2.1 (lw_Z below #[Value.ref b] s) (F0 m 1126 ls []) := fun h9 v9 H1 lc ls C9 H9 hl9 => by
        refine lv_iinc (v := nI (4 * (n + 1))) (lv' := [(4, .int (nI (4 * (n + 1)))), (0, .ref b), (1, .ref (0 + s.heap.size)), (2, .ref (230 + s.heap.size)), (3, .ref (262 + s.heap.size))]) hx hb dl_1126 hl9 (k := 0) rfl (show nI (4 * n) + nI 4 = nI (4 * (n + 1)) from nI_add _ _) (by decide) rfl (fun ls hl => ?_)
        refine lv_goto (tgt := 23) hx hb dl_1129 (by decide) ?_
        exact ih (n + 1) h9 v9 H1 lc ls (by omega) (by omega) C9 H9 hl
      refine lv_aload_n hx hb dl_32 rfl (lv_at hl 1 rfl) ?_
      refine lv_iload hx hb dl_33 (lv_at hl 0 rfl) ?_
      refine va_sld hx hb hX hbl hbA hH.2.2.2 (vp_in_nI (by omega) (by omega)) dl_35 ?_
      refine lv_bipush (v := nI 31) hx hb dl_36 (by decide) ?_
      refine lv_iand hx hb dl_38 ?_
      generalize xs (nI (4 * n)).toNatClampNeg &&& nI 31 = x
      rcases lw_sw x with ⟨k, hk, rfl⟩ | hsw
      · have hk17 : k = 0 ∨ k = 1 ∨ k = 2 ∨ k = 3 ∨ k = 4 ∨ k = 5 ∨ k = 6 ∨ k = 7 ∨ k = 8 ∨ k = 9 ∨ k = 10 ∨ k = 11 ∨ k = 12 ∨ k = 13 ∨ k = 14 ∨ k = 15 ∨ k = 16 := by omega
        rcases hk17 with rfl | rfl | rfl | rfl | rfl | rfl | rfl | rfl | rfl | rfl | rfl | rfl | rfl | rfl | rfl | rfl | rfl
        · exact lv_tableIn (off := 81) (tgt := 120) hx hb dl_39 (by decide) (by decide) (by decide) (by decide) (case_type X0 hH hC hn5 hL4 hl kk)
        · exact lv_tableIn (off := 139) (tgt := 178) hx hb dl_39 (by decide) (by decide) (by decide) (by decide) (case_keep X0 hH hC hn5 hL4 hl kk)
        · exact lv_tableIn (off := 152) (tgt := 191) hx hb dl_39 (by decide) (by decide) (by decide) (by decide) (case_open X0 hH hC hn5 hL4 hl kk)
        · exact lv_tableIn (off := 220) (tgt := 259) hx hb dl_39 (by decide) (by decide) (by decide) (by decide) (case_create X0 hH hC hn5 hL4 hl kk)
        · exact lv_tableIn (off := 304) (tgt := 343) hx hb dl_39 (by decide) (by decide) (by decide) (by decide) (case_read X0 hH hC hn5 hL4 hl kk)
        · exact lv_tableIn (off := 372) (tgt := 411) hx hb dl_39 (by decide) (by decide) (by decide) (by decide) (case_write X0 hH hC hn5 hL4 hl kk)
        · exact lv_tableIn (off := 452) (tgt := 491) hx hb dl_39 (by decide) (by decide) (by decide) (by decide) (case_close X0 hH hC hn5 hL4 hl kk)
        · exact lv_tableIn (off := 520) (tgt := 559) hx hb dl_39 (by decide) (by decide) (by decide) (by decide) (case_remove X0 hH hC hn5 hL4 hl kk)
        · exact lv_tableIn (off := 576) (tgt := 615) hx hb dl_39 (by decide) (by decide) (by decide) (by decide) (case_stat X0 hH hC hn5 hL4 hl kk)
        · exact lv_tableIn (off := 632) (tgt := 671) hx hb dl_39 (by decide) (by decide) (by decide) (by decide) (case_bind X0 hH hC hn5 hL4 hl kk)
        · exact lv_tableIn (off := 700) (tgt := 739) hx hb dl_39 (by decide) (by decide) (by decide) (by decide) (case_mount X0 hH hC hn5 hL4 hl kk)
        · exact lv_tableIn (off := 780) (tgt := 819) hx hb dl_39 (by decide) (by decide) (by decide) (by decide) (case_unmount X0 hH hC hn5 hL4 hl kk)
        · exact lv_tableIn (off := 836) (tgt := 875) hx hb dl_39 (by decide) (by decide) (by decide) (by decide) (case_fork X0 hH hC hn5 hL4 hl kk)
        · exact lv_tableIn (off := 920) (tgt := 959) hx hb dl_39 (by decide) (by decide) (by decide) (by decide) (case_exit X0 hH hC hn5 hL4 hl kk)
        · exact lv_tableIn (off := 976) (tgt := 1015) hx hb dl_39 (by decide) (by decide) (by decide) (by decide) (case_wire X0 hH hC hn5 hL4 hl kk)
        · exact lv_tableIn (off := 1013) (tgt := 1052) hx hb dl_39 (by decide) (by decide) (by decide) (by decide) (case_server X0 hH hC hn5 hL4 hl kk)
        · exact lv_tableIn (off := 1050) (tgt := 1089) hx hb dl_39 (by decide) (by decide) (by decide) (by decide) (case_process X0 hH hC hn5 hL4 hl kk)
      · exact lv_tableOut (tgt := 1126) hx hb dl_39 hsw (by decide) (kk h v H locs ls hC.up hH hl)
end LOOP

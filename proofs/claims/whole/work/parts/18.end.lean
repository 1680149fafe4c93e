/-! MAKING cells, switches, ends -/
set_option maxRecDepth 100000 in
set_option maxHeartbeats 4000000 in
theorem gAi : Cond.arrayClass .int ∈ gw := List.mem_filter.mpr ⟨List.mem_append_right _ (List.mem_append_left _ (List.mem_of_getElem? (i := 54) rfl)), rfl⟩
set_option maxRecDepth 100000 in
set_option maxHeartbeats 4000000 in
theorem gAc : Cond.arrayClass .char ∈ gw := List.mem_filter.mpr ⟨List.mem_append_right _ (List.mem_append_left _ (List.mem_of_getElem? (i := 159) rfl)), rfl⟩
set_option maxRecDepth 100000 in
set_option maxHeartbeats 4000000 in
theorem gAz : Cond.arrayClass .boolean ∈ gw := List.mem_filter.mpr ⟨List.mem_append_right _ (List.mem_append_left _ (List.mem_of_getElem? (i := 200) rfl)), rfl⟩
set_option maxRecDepth 100000 in
set_option maxHeartbeats 4000000 in
theorem gOin : Cond.instanceMethod Lib.objectInit ∈ gw := List.mem_filter.mpr ⟨List.mem_append_right _ (List.mem_append_left _ (List.mem_of_getElem? (i := 28) rfl)), rfl⟩
set_option maxRecDepth 100000 in
set_option maxHeartbeats 4000000 in
theorem gOcd : Cond.code Lib.objectInit ⟨#[0xb1]⟩ 1 none ∈ gw := List.mem_filter.mpr ⟨List.mem_append_right _ (List.mem_append_left _ (List.mem_of_getElem? (i := 29) rfl)), rfl⟩
section ENDS
variable {p : Program} {l : Launch} {e : Env} {R : Room} {s : State} {m : MethodId} {args : Array Value} {below : List Frame} {meth : Method} {c : Code} {D : ag_D} {base : Nat → Prop} {y : Nat} {h0 : ag_H} {res : ag_O × ag_H} {pc nx x1 x2 x3 : Nat} {L : ag_L} {S : List ag_V} {h : ag_H} {K : ag_K4}
theorem gArr_ok {at9 : ArrayType} (h3 : gArr at9 < 3) : newarray.typeOf at9 = ag_ct (gArr at9) ∧ Cond.arrayClass (newarray.typeOf at9) ∈ gw := by
  cases at9 with
  | int => exact ⟨rfl, gAi⟩
  | char => exact ⟨rfl, gAc⟩
  | boolean => exact ⟨rfl, gAz⟩
  | _ => exact absurd h3 (by decide)
theorem g_newa (X : gX y D base p l R s m args meth c) (hC : res.2.1 ≤ R.cells + h0.1) (hSl : res.2.2.1 ≤ R.slots + h0.2.1) (hK : gK p l e R s m args below meth c D base y h0 res K) {at9 : ArrayType} {n : Int32} (h3 : gArr at9 < 3) (hn : ¬ n < 0) (hN : n.toNatClampNeg < 100000)
    (hd : decode (gB y) pc = .ok (.newarray at9, 2)) (hr : K (pc + 2) L (.inr (some h.1) :: S) (ag_new h n.toNatClampNeg (100 + gArr at9, List.replicate n.toNatClampNeg (.inl 0))) = some res) : gP p l e R s m args below meth c D base y h0 res pc L (.inl n :: S) h := by
  obtain ⟨hx, hb, hml, hown, hts, hW, hlk, hxt, hnm, hrt, htr, hF, hLo, hbs⟩ := X
  obtain ⟨g1, g2⟩ := gArr_ok h3
  exact g_mk hC hSl (fun H ls locs cells slots hp hb9 hc hs k => ag_w_newa hx hb hW.1 hp.1 hb9 (hts _ g2) h3 g1 hn hN hc hs hd k) hbs (hK _ _ _ _ hr)
theorem g_anew (X : gX y D base p l R s m args meth c) (hC : res.2.1 ≤ R.cells + h0.1) (hSl : res.2.2.1 ≤ R.slots + h0.2.1) (hK : gK p l e R s m args below meth c D base y h0 res K) {idx ci : Nat} {n : Int32} (h1 : 100 ≤ x1) (h9 : x1 < 109) (hcl : (gCn y, idx, ci) ∈ gCL) (hao : ci ∈ gAO) (hct : ag_ct (x1 - 100) = .object (gR ci)) (hn : ¬ n < 0) (hN : n.toNatClampNeg < 100000)
    (hd : decode (gB y) pc = .ok (.anewarray idx, 3)) (hr : K (pc + 3) L (.inr (some h.1) :: S) (ag_new h n.toNatClampNeg (x1, List.replicate n.toNatClampNeg (.inr none))) = some res) : gP p l e R s m args below meth c D base y h0 res pc L (.inl n :: S) h := by
  obtain ⟨hx, hb, hml, hown, hts, hW, hlk, hxt, hnm, hrt, htr, hF, hLo, hbs⟩ := X
  obtain ⟨t, rfl⟩ : ∃ t, x1 = 100 + t := ⟨x1 - 100, by omega⟩
  rw [show 100 + t - 100 = t by omega] at hct
  exact g_mk hC hSl (fun H ls locs cells slots hp hb9 hc hs k => ag_w_newq hx hb hown hW.1 hp.1 hb9 (hts _ (gCL_ok _ hcl)) (va_AO.use (hW.2.2.1 _ hao)) (by omega) hct hn hN hc hs hd k) hbs (hK _ _ _ _ hr)
theorem g_new (X : gX y D base p l R s m args meth c) (hC : res.2.1 ≤ R.cells + h0.1) (hSl : res.2.2.1 ≤ R.slots + h0.2.1) (hK : gK p l e R s m args below meth c D base y h0 res K) {idx : Nat} (h1 : x1 < 12) (hcl : (gCn y, idx, x1) ∈ gCL)
    (hd : decode (gB y) pc = .ok (.new idx, 3)) (hr : K (pc + 3) L (.inr (some h.1) :: S) (ag_new h (ag_fs x1).length (x1, ag_fs x1)) = some res) : gP p l e R s m args below meth c D base y h0 res pc L S h := by
  obtain ⟨hx, hb, hml, hown, hts, hW, hlk, hxt, hnm, hrt, htr, hF, hLo, hbs⟩ := X
  obtain ⟨f1, f2, f3, f4, f5⟩ := gFds x1 h1
  have hlen : (ag_fs x1).length = gNf x1 := by rw [ag_fs_eq f1]; simp
  have hin : x1 ∈ gIs ∧ x1 ∈ gIn := by
    have h2 : ∀ k, k < 12 → k ∈ gIs ∧ k ∈ gIn := by decide
    exact h2 x1 h1
  have hr' := hK _ _ _ _ hr
  refine g_mk (n := (ag_fs x1).length) (q := (x1, ag_fs x1)) hC hSl (fun H ls locs cells slots hp hb9 hc hs k => ?_) hbs hr'
  refine ag_w_new hx hb hts f2 (gTy x1) f3 f5 hown (hts _ (gCL_ok _ hcl)) (hts _ (gIs_ok _ hin.1)) (hts _ (gIn_ok _ hin.2)) hW.1 hp.1 hb9 (by omega) f1 hc (by rw [← hlen]; exact hs) hd fun H1 r1 z1 o1 => ?_
  rw [← hlen]
  exact k H1 r1 z1 o1
theorem g_objInit (X : gX y D base p l R s m args meth c) (hK : gK p l e R s m args below meth c D base y h0 res K) {idx a : Nat} (ho : (gCn y, idx) ∈ gOI) (hf : 1 ≤ gF y) (hlo : 12 ≤ gLo y)
    (hd : decode (gB y) pc = .ok (.invokespecial idx, 3)) (hr : K (pc + 3) L [] h = some res) : gP p l e R s m args below meth c D base y h0 res pc L [.inr (some a)] h := by
  obtain ⟨hx, hb, hml, hown, hts, hW, hlk, hxt, hnm, hrt, htr, hF, hLo, hbs⟩ := X
  refine g_go1 (S' := []) (fun H ls locs cells slots hp k => ?_) (hK _ _ _ _ hr)
  exact W.objInit hx hb hown (hts _ (gOI_ok _ ho)) (hts _ gOin) (hts _ gOcd) rfl (by rw [hml]; exact hp.2.1.1) rfl hd (by rw [hF]; exact hf) (by rw [hLo]; exact hlo) k
theorem g_switch (X : gX y D base p l R s m args meth c) (hK : gK p l e R s m args below meth c D base y h0 res K) {d lo hi : Int} {offs : Array Int} {len : Nat} {x : Int32} (hd0 : (pc : Int) + d ≥ 0) (hof : ∀ o ∈ offs.toList, (pc : Int) + o ≥ 0) (hsz : lo + offs.size = hi + 1)
    (hd : decode (gB y) pc = .ok (.tableswitch d lo hi offs, len)) (hr : ag_sw x lo (offs.toList.map fun o => K ((pc : Int) + o).toNat L S h) (K ((pc : Int) + d).toNat L S h) = some res) : gP p l e R s m args below meth c D base y h0 res pc L (.inl x :: S) h := by
  obtain ⟨hx, hb, -⟩ := X
  unfold ag_sw at hr
  have out : K ((pc : Int) + d).toNat L S h = some res → (x.toInt < lo ∨ hi < x.toInt) → gP p l e R s m args below meth c D base y h0 res pc L (.inl x :: S) h := fun hk hh =>
    g_go1 (fun H ls locs cells slots hp k => lv_tableOut hx hb hd hh (by omega) k) (hK _ _ _ _ hk)
  split at hr
  · exact out hr (Or.inl (by assumption))
  · rename_i hlo
    split at hr
    · rename_i r hr9
      rw [List.getElem?_map] at hr9
      cases ho : offs.toList[(x.toInt - lo).toNat]? with
      | none => rw [ho] at hr9; cases hr9
      | some o =>
        rw [ho] at hr9
        have hk : K ((pc : Int) + o).toNat L S h = some res := by cases hr9; exact hr
        have hpos := hof o (List.mem_of_getElem? ho)
        have hlt : (x.toInt - lo).toNat < offs.toList.length := (List.getElem?_eq_some_iff.mp ho).1
        rw [Array.length_toList] at hlt
        exact g_go1 (fun H ls locs cells slots hp k => lv_tableIn hx hb hd hlo (by omega) (by rw [← Array.getElem?_toList]; exact ho) (by omega) k) (hK _ _ _ _ hk)
    · rename_i hr9
      rw [List.getElem?_map] at hr9
      cases ho : offs.toList[(x.toInt - lo).toNat]? with
      | some o => rw [ho] at hr9; cases hr9
      | none =>
        have hge := List.getElem?_eq_none_iff.mp ho
        rw [Array.length_toList] at hge
        exact out hr (Or.inr (by omega))
/-- a method's end -/
theorem g_end {v : Option ag_V} (hres : res = (.inl v, h)) (hW : ∀ (H : Heap) (ls : Array Slot) (locs : List Loc) (cells slots : Nat), gPt D base y s h0 h L H ls locs cells slots → (∀ t : State, t.heap = H → s.WarmedH t.vm → gQc D base res args s (.returned (v.map ag_v)) t) → (∀ q ∈ locs, base q.base) →
      W p l e R s m args below meth c H locs cells slots (MQ below (gQc D base res) args s cells slots base) (F0 m pc ls (S.map ag_v))) : gP p l e R s m args below meth c D base y h0 res pc L S h := by
  subst hres
  refine ⟨fun H ls locs cells slots hp => ?_, Nat.le_refl _, Nat.le_refl _⟩
  have e1 : ((Sum.inl v, h) : ag_O × ag_H).2.1 - h0.1 = cells := by show h.1 - h0.1 = cells; have := hp.2.2.2.1; omega
  have e2 : ((Sum.inl v, h) : ag_O × ag_H).2.2.1 - h0.2.1 = slots := by show h.2.1 - h0.2.1 = slots; have := hp.2.2.2.2; omega
  rw [e1, e2]
  exact vx_ret (hW H ls locs cells slots hp (fun t ht _ => ⟨v, rfl, rfl, by rw [ht]; exact hp.1, hp.2.2.1.F ht⟩) hp.2.2.1.2.2)
theorem g_iret (X : gX y D base p l R s m args meth c) {x : Int32} (hres : res = (.inl (some (.inl x)), h)) (hd : decode (gB y) pc = .ok (.ireturn, 1)) (hrt9 : ∃ ty, gRt y = some ty ∧ narrow ty (.int x) = .int x) : gP p l e R s m args below meth c D base y h0 res pc L [.inl x] h := by
  obtain ⟨hx, hb, hml, hown, hts, hW, hlk, hxt, hnm, hrt, -⟩ := X
  obtain ⟨ty, g1, g2⟩ := hrt9
  exact g_end hres fun H ls locs cells slots hp hq hf => W.zret (ty := ty) hx hb (hrt.trans g1) g2 hq hf hd hlk
theorem g_aret (X : gX y D base p l R s m args meth c) {o : Option Nat} (hres : res = (.inl (some (.inr o)), h)) (hd : decode (gB y) pc = .ok (.areturn, 1)) (hrt9 : ∃ ty, gRt y = some ty ∧ ((∃ n, ty = .object n) ∨ ∃ t, ty = .array t)) : gP p l e R s m args below meth c D base y h0 res pc L [.inr o] h := by
  obtain ⟨hx, hb, hml, hown, hts, hW, hlk, hxt, hnm, hrt, -⟩ := X
  obtain ⟨ty, g1, g2⟩ := hrt9
  exact g_end hres fun H ls locs cells slots hp hq hf => W.aret (rt := ty) hx hb (hrt.trans g1) g2 (by cases o; exact Or.inl rfl; exact Or.inr ⟨_, rfl⟩) hq hf hd hlk
theorem g_vret (X : gX y D base p l R s m args meth c) (hres : res = (.inl none, h)) (hd : decode (gB y) pc = .ok (.return_, 1)) (hrt9 : gRt y = none) : gP p l e R s m args below meth c D base y h0 res pc L [] h := by
  obtain ⟨hx, hb, hml, hown, hts, hW, hlk, hxt, hnm, hrt, -⟩ := X
  exact g_end hres fun H ls locs cells slots hp hq hf => W.vret hx hb (hrt.trans hrt9) hq hf hd hlk
end ENDS

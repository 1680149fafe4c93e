/-! THE ROW OF THROWS of a checked table -/
def gIx : Nat → Nat := fun x => match x with
  | 2 => 13
  | _ => 7
def gBx : Nat → ByteArray := fun x => match x with
  | 0 => prog_15_method_2_code
  | 1 => prog_16_method_2_code
  | 2 => prog_23_method_4_code
  | _ => prog_22_method_2_code
def gIc : Nat → Nat := fun x => match x with
  | 0 => 95
  | 1 => 73
  | 2 => 191
  | _ => 139
def gIk : Nat → Nat := fun x => match x with
  | 0 => 91
  | 1 => 69
  | 2 => 187
  | _ => 135
set_option maxRecDepth 100000 in
set_option maxHeartbeats 4000000 in
theorem gTh0 : (gThW RX10 (gIc 0) (gE 0) (gIx 0) (gBx 0)).filter vx_no = ([80, 475, 484, 489, 492, 494, 476, 477, 95, 96, 478, 483, 490, 510, 465, 511, 467, 512, 469, 479, 481, 471, 506, 507, 509, 471, 551, 552, 553, 500, 457, 500, 501, 502, 503, 459, 503, 504, 505, 506, 461, 550, 541, 542, 543, 486, 544, 545, 546, 547, 474, 473, 548] : List Nat).filterMap (fun i => lw_tbl[i]?) := by decide +kernel
set_option maxRecDepth 100000 in
set_option maxHeartbeats 4000000 in
theorem gTi0 : ((gThW RX10 (gIc 0) (gE 0) (gIx 0) (gBx 0)).filter vx_no).all (fun w => goodWord w || gXw.contains w) = true := by decide +kernel
theorem gTk0 : Cond.classLink RX10 (gIk 0) (gE 0) ∈ gw := List.mem_filter.mpr ⟨List.mem_append_right _ (List.mem_append_right _ (List.mem_append_left _ (List.mem_of_getElem? (i := 233) rfl))), rfl⟩
theorem gTn0 : Cond.initialized (gE 0) ∈ gw := List.mem_filter.mpr ⟨List.mem_append_right _ (List.mem_append_left _ (List.mem_of_getElem? (i := 18) rfl)), rfl⟩
set_option maxRecDepth 100000 in
set_option maxHeartbeats 4000000 in
theorem gTh1 : (gThW RX10 (gIc 1) (gE 1) (gIx 1) (gBx 1)).filter vx_no = ([80, 475, 484, 489, 492, 494, 476, 477, 95, 96, 478, 483, 490, 510, 465, 511, 467, 512, 469, 479, 481, 471, 506, 507, 509, 471, 497, 498, 499, 500, 457, 500, 501, 502, 503, 459, 503, 504, 505, 506, 461, 496, 454, 455, 462, 463, 464, 466, 468, 470, 474, 473, 472] : List Nat).filterMap (fun i => lw_tbl[i]?) := by decide +kernel
set_option maxRecDepth 100000 in
set_option maxHeartbeats 4000000 in
theorem gTi1 : ((gThW RX10 (gIc 1) (gE 1) (gIx 1) (gBx 1)).filter vx_no).all (fun w => goodWord w || gXw.contains w) = true := by decide +kernel
theorem gTk1 : Cond.classLink RX10 (gIk 1) (gE 1) ∈ gw := List.mem_filter.mpr ⟨List.mem_append_right _ (List.mem_append_right _ (List.mem_append_left _ (List.mem_of_getElem? (i := 146) rfl))), rfl⟩
theorem gTn1 : Cond.initialized (gE 1) ∈ gw := List.mem_filter.mpr ⟨List.mem_append_right _ (List.mem_append_left _ (List.mem_of_getElem? (i := 16) rfl)), rfl⟩
set_option maxRecDepth 100000 in
set_option maxHeartbeats 4000000 in
theorem gTh2 : (gThW RX10 (gIc 2) (gE 2) (gIx 2) (gBx 2)).filter vx_no = ([80, 475, 484, 489, 492, 494, 476, 477, 95, 96, 478, 483, 490, 510, 465, 511, 467, 512, 469, 479, 481, 471, 506, 507, 509, 471, 694, 695, 696, 500, 457, 500, 501, 502, 503, 459, 503, 504, 505, 506, 461, 693, 684, 685, 686, 488, 687, 688, 689, 690, 474, 473, 691] : List Nat).filterMap (fun i => lw_tbl[i]?) := by decide +kernel
set_option maxRecDepth 100000 in
set_option maxHeartbeats 4000000 in
theorem gTi2 : ((gThW RX10 (gIc 2) (gE 2) (gIx 2) (gBx 2)).filter vx_no).all (fun w => goodWord w || gXw.contains w) = true := by decide +kernel
theorem gTk2 : Cond.classLink RX10 (gIk 2) (gE 2) ∈ gw := List.mem_filter.mpr ⟨List.mem_append_right _ (List.mem_append_right _ (List.mem_append_right _ (List.mem_append_left _ (List.mem_of_getElem? (i := 136) rfl)))), rfl⟩
theorem gTn2 : Cond.initialized (gE 2) ∈ gw := List.mem_filter.mpr ⟨List.mem_append_right _ (List.mem_append_left _ (List.mem_of_getElem? (i := 21) rfl)), rfl⟩
set_option maxRecDepth 100000 in
set_option maxHeartbeats 4000000 in
theorem gTh3 : (gThW RX10 (gIc 3) (gE 3) (gIx 3) (gBx 3)).filter vx_no = ([80, 475, 484, 489, 492, 494, 476, 477, 95, 96, 478, 483, 490, 510, 465, 511, 467, 512, 469, 479, 481, 471, 506, 507, 509, 471, 678, 679, 680, 500, 457, 500, 501, 502, 503, 459, 503, 504, 505, 506, 461, 677, 668, 669, 670, 487, 671, 672, 673, 674, 474, 473, 675] : List Nat).filterMap (fun i => lw_tbl[i]?) := by decide +kernel
set_option maxRecDepth 100000 in
set_option maxHeartbeats 4000000 in
theorem gTi3 : ((gThW RX10 (gIc 3) (gE 3) (gIx 3) (gBx 3)).filter vx_no).all (fun w => goodWord w || gXw.contains w) = true := by decide +kernel
theorem gTk3 : Cond.classLink RX10 (gIk 3) (gE 3) ∈ gw := List.mem_filter.mpr ⟨List.mem_append_right _ (List.mem_append_right _ (List.mem_append_right _ (List.mem_append_left _ (List.mem_of_getElem? (i := 120) rfl)))), rfl⟩
theorem gTn3 : Cond.initialized (gE 3) ∈ gw := List.mem_filter.mpr ⟨List.mem_append_right _ (List.mem_append_left _ (List.mem_of_getElem? (i := 20) rfl)), rfl⟩
set_option maxRecDepth 100000 in
theorem gTd (x : Nat) (hx : x < 4) : Bundle.fit (gE x) = true ∧ decode (gBx x) 0 = .ok (.aload_n 0, 1) ∧ decode (gBx x) 1 = .ok (.aload_n 1, 1) ∧ decode (gBx x) 2 = .ok (.invokespecial (gIx x), 3) ∧ decode (gBx x) 5 = .ok (.return_, 1) := by
  have h : ∀ x, x < 4 → Bundle.fit (gE x) = true ∧ decode (gBx x) 0 = .ok (.aload_n 0, 1) ∧ decode (gBx x) 1 = .ok (.aload_n 1, 1) ∧ decode (gBx x) 2 = .ok (.invokespecial (gIx x), 3) ∧ decode (gBx x) 5 = .ok (.return_, 1) := by decide +kernel
  exact h x hx
theorem gTe (x : Nat) (hx : x < 4) : (∀ w ∈ (gThW RX10 (gIc x) (gE x) (gIx x) (gBx x)).filter vx_no, (w ∈ gw ∨ w ∈ gXw) ∧ vx_ot w = true) ∧ Cond.classLink RX10 (gIk x) (gE x) ∈ gw ∧ Cond.initialized (gE x) ∈ gw := by
  have fin : ∀ (Lw : List Cond) (is : List Nat), Lw = is.filterMap (fun i => lw_tbl[i]?) → Lw.all (fun w => goodWord w || gXw.contains w) = true → ∀ w ∈ Lw, (w ∈ gw ∨ w ∈ gXw) ∧ vx_ot w = true := by
    intro Lw is e1 e2 w hw
    have h2 := List.all_eq_true.mp e2 w hw
    rw [Bool.or_eq_true] at h2
    rcases h2 with h2 | h2
    · rw [e1] at hw
      obtain ⟨i, -, hi⟩ := List.mem_filterMap.mp hw
      exact ⟨Or.inl (List.mem_filter.mpr ⟨List.mem_of_getElem? hi, h2⟩), by unfold vx_ot; rw [h2, Bool.or_true]⟩
    · have h3 : w ∈ gXw := List.contains_iff_mem.mp h2
      refine ⟨Or.inr h3, ?_⟩
      simp only [gXw, List.mem_cons, List.not_mem_nil, or_false] at h3
      rcases h3 with rfl | rfl | rfl | rfl | rfl | rfl | rfl <;> rfl
  match x, hx with
  | 0, _ => exact ⟨fin _ _ gTh0 gTi0, gTk0, gTn0⟩
  | 1, _ => exact ⟨fin _ _ gTh1 gTi1, gTk1, gTn1⟩
  | 2, _ => exact ⟨fin _ _ gTh2 gTi2, gTk2, gTn2⟩
  | 3, _ => exact ⟨fin _ _ gTh3 gTi3, gTk3, gTn3⟩
theorem gEL_all : ∀ q ∈ gEL, q.1 = 10 ∧ q.2.2.2.2 < 4 ∧ q.2.1 = gIk q.2.2.2.2 ∧ q.2.2.2.1 = gIc q.2.2.2.2 ∧ gSt.any (fun z => Nat.beq z.1 10 && Nat.beq z.2.1 q.2.2.1) = true := by decide +kernel
section THK
variable {p : Program} {l : Launch} {e : Env} {R : Room} {s : State} {m : MethodId} {args : Array Value} {below : List Frame} {meth : Method} {c : Code} {D : ag_D} {base : Nat → Prop} {y : Nat} {h0 : ag_H} {res : ag_O × ag_H}
theorem g_thr (X : gX y D base p l R s m args meth c) (hC : res.2.1 ≤ R.cells + h0.1) (hSl : res.2.2.1 ≤ R.slots + h0.2.1) : gThr p l e R s m args below meth c D base y h0 res := by
  intro pc idx nx x1 x2 L h hchk hres
  obtain ⟨hx, hb, hml, hown, hts, hW, hlk, hxt, hnm, hrt, htr, hF, hLo, hbs⟩ := X
  have hA0 : ((decide (decode (gB y) pc = .ok (.new idx, 3)) && Nat.beq nx (pc + 3)) && (gEL.any (fun q => (((((Nat.beq q.1 (gCn y) && Nat.beq q.2.1 idx) && Nat.beq q.2.2.2.2 x1) && Nat.ble 6 (gF y)) && Nat.ble 82 (gLo y)) && decide (decode (gB y) (pc + 3) = .ok (.dup, 1))) &&
          (((decide (decode (gB y) (pc + 4) = .ok (.ldc q.2.2.1, 2)) && decide (decode (gB y) (pc + 6) = .ok (.invokespecial q.2.2.2.1, 3))) && decide (decode (gB y) (pc + 9) = .ok (.athrow, 1))) ||
           ((decide (decode (gB y) (pc + 4) = .ok (.ldc_w q.2.2.1, 3)) && decide (decode (gB y) (pc + 7) = .ok (.invokespecial q.2.2.2.1, 3))) && decide (decode (gB y) (pc + 10) = .ok (.athrow, 1))))))) = true := hchk
  obtain ⟨hd, -, hA⟩ := g_c0 hA0
  obtain ⟨q, hq, hq2⟩ := List.any_eq_true.mp hA
  obtain ⟨w1, w2, w3, w4, w5⟩ := gEL_all q hq
  obtain ⟨q1, q2, q3, q4, q5⟩ := q
  dsimp only at w1 w2 w3 w4 w5 hq2
  simp only [Bool.and_eq_true, Bool.or_eq_true] at hq2
  obtain ⟨⟨⟨⟨⟨⟨v1, v2⟩, v3⟩, v4⟩, v5⟩, v6⟩, v7⟩ := hq2
  have v1 := Nat.eq_of_beq_eq_true v1
  have v2 := Nat.eq_of_beq_eq_true v2
  have v3 := Nat.eq_of_beq_eq_true v3
  subst v3
  subst w4
  rw [w1] at v1
  have v2 : gIk q5 = idx := w3.symm.trans v2
  rw [← v2] at hd
  rw [← v1] at hown
  have hown : s.vm.findClass RX10 = some m.cls := hown
  obtain ⟨t1, t2, t3⟩ := gTe q5 w2
  obtain ⟨u1, u2, u3, u4, u5⟩ := gTd q5 w2
  obtain ⟨z, hz1, hz2⟩ := List.any_eq_true.mp w5
  rw [Bool.and_eq_true] at hz2
  obtain ⟨z1, z2, z3⟩ := z
  have e1 : z1 = 10 := Nat.eq_of_beq_eq_true hz2.1
  have e2 : z2 = q3 := Nat.eq_of_beq_eq_true hz2.2
  subst e1; subst e2
  obtain ⟨sa, hsa⟩ := hW.2.2.2.1 _ hz1
  have hat : ∀ w ∈ (gThW RX10 (gIc q5) (gE q5) (gIx q5) (gBx q5)).filter vx_no, w.before args s = true := fun w hw => by
    rcases (t1 w hw).1 with h9 | h9
    · exact hts w h9
    · have h8 := hW.2.2.2.2.2.2 w h9
      refine va_Nw.use ?_ h8
      simp only [gXw, List.mem_cons, List.not_mem_nil, or_false] at h9
      rcases h9 with rfl | rfl | rfl | rfl | rfl | rfl | rfl <;> rfl
  have hgd : ∀ w ∈ Cond.classLink RX10 (gIk q5) (gE q5) :: Cond.initialized (gE q5) :: (gThW RX10 (gIc q5) (gE q5) (gIx q5) (gBx q5)).filter vx_no, vx_ot w = true := fun w hw => by
    rcases List.mem_cons.mp hw with rfl | hw
    · rfl
    · rcases List.mem_cons.mp hw with rfl | hw
      · rfl
      · exact (t1 w hw).2
  subst hres
  have g1 : ((.inr q5, ag_thr h) : ag_O × ag_H).2.1 = h.1 + 1 := rfl
  have g2 : ((.inr q5, ag_thr h) : ag_O × ag_H).2.2.1 = h.2.1 + 6 := rfl
  rw [g1] at hC
  rw [g2] at hSl
  refine ⟨fun H ls locs cells slots hp => ?_, by rw [g1]; omega, by rw [g2]; omega⟩
  obtain ⟨p1, p2, p3, p4, p5⟩ := hp
  have hXC : ∀ t : State, s.vm.Alike t.vm → t.heap.size = H.size + 1 → (∀ q : Nat, q < H.size → t.heap[q]? = H[q]?) → gXC D base (.inr q5, ag_thr h) (gE q5) s t := fun t _ z1 o1 =>
    ⟨q5, rfl, rfl, p1.thr z1 o1, by rw [z1]; exact Nat.le_trans p3.1 (by omega), fun q h1 h2 => (o1 q (Nat.lt_of_lt_of_le h1 p3.1)).trans (p3.2.1 q h1 h2)⟩
  have hcc : cells + 1 ≤ ((.inr q5, ag_thr h) : ag_O × ag_H).2.1 - h0.1 := by rw [g1]; omega
  have hss : slots + 6 ≤ ((.inr q5, ag_thr h) : ag_O × ag_H).2.2.1 - h0.2.1 := by rw [g2]; omega
  rcases v7 with v7 | v7
  · exact g_throwS (A := fun q => base q) hx hb htr hown u1 u2 u3 u4 u5 (hts _ t2) (hts _ t3) hsa hat hgd hW.2.2.2.2.1 hW.2.2.2.2.2.1 p3 (by rw [hml]; exact p2.1) hd (of_decide_eq_true v6) (of_decide_eq_true v7.1.1) (of_decide_eq_true v7.1.2) (of_decide_eq_true v7.2) hxt (by rw [hF]; exact g_le v4) (by rw [hLo]; exact g_le v5) (by omega) (by omega) hlk hXC p3.2.2 hcc hss
  · exact g_throwSW (A := fun q => base q) hx hb htr hown u1 u2 u3 u4 u5 (hts _ t2) (hts _ t3) hsa hat hgd hW.2.2.2.2.1 hW.2.2.2.2.2.1 p3 (by rw [hml]; exact p2.1) hd (of_decide_eq_true v6) (of_decide_eq_true v7.1.1) (of_decide_eq_true v7.1.2) (of_decide_eq_true v7.2) hxt (by rw [hF]; exact g_le v4) (by rw [hLo]; exact g_le v5) (by omega) (by omega) hlk hXC p3.2.2 hcc hss
end THK

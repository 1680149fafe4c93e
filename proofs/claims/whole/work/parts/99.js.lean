/-! THE LAW, from its entry -/
set_option maxRecDepth 100000 in
theorem fs_ok : (∀ v ∈ ag_fs 10, v = .inl 0 ∨ v = .inr none) ∧ (∀ v ∈ ag_fs 11, v = .inl 0 ∨ v = .inr none) ∧ (ag_fs 10).length = 13 ∧ (ag_fs 11).length = 42 := by decide +kernel
theorem fs_sq {o ci : Nat} (h : ∀ v ∈ ag_fs ci, v = .inl 0 ∨ v = .inr none) : sq o (ci, ag_fs ci) = (ci, ag_fs ci) := by
  unfold sq
  congr 1
  refine (List.map_congr_left fun v hv => ?_).trans (List.map_id _)
  rcases h v hv with rfl | rfl <;> rfl
theorem hp_non {o a z sl : Nat} {q : ag_C} (hq : (sH o 0 (hp z sl kd0 ln0 I0 R0)).2.2 a = some q) : a ≠ 262 + o := fun e => by
  subst e
  have hq : (if 262 + o < o then none else ((if kd0 (262 + o - o) = 999 then none else some _) : Option ag_C).map (sq o)) = some q := hq
  rw [if_neg (by omega), Nat.add_sub_cancel, if_pos (kd0_999 262 (Nat.le_refl _))] at hq
  cases hq
theorem sH_c {o : Nat} {h h' : ag_H} (e : h.2.2 = h'.2.2) : (sH o 0 h).2.2 = (sH o 0 h').2.2 := by
  show (fun a => if a < o then none else (h.2.2 (a - o)).map (sq o)) = fun a => if a < o then none else (h'.2.2 (a - o)).map (sq o)
  rw [e]
theorem hp_c (z sl z' sl' : Nat) (kd ln : Nat → Nat) (I : Nat → Nat → Int32) (R : Nat → Nat → Option Nat) : (hp z sl kd ln I R).2.2 = (hp z' sl' kd ln I R).2.2 := rfl
theorem hp_1 (z sl : Nat) (kd ln : Nat → Nat) (I : Nat → Nat → Int32) (R : Nat → Nat → Option Nat) : (hp z sl kd ln I R).1 = z ∧ (hp z sl kd ln I R).2.1 = sl := ⟨rfl, rfl⟩
theorem sH_1 (o : Nat) (h : ag_H) : (sH o 0 h).1 = h.1 + o := rfl
theorem ws_rep {D : ag_D} {o : Nat} {H4 H5 : Heap} (r4 : ag_rep D (lA o) (sH o 0 (hp 262 10620 kd0 ln0 I0 R0)) H4) (z5 : H5.size = H4.size + 1) (o5 : ∀ q, q < H4.size → H5[q]? = H4[q]?) : H4.size = 262 + o ∧ ag_rep D (lB o) (sH o 0 (hp 263 10621 kd0 ln0 I0 R0)) H5 := by
  have e1 : H4.size = 262 + o := by rw [r4.1, sH_1, (hp_1 _ _ _ _ _ _).1]
  refine ⟨e1, by rw [sH_1, (hp_1 _ _ _ _ _ _).1, z5, e1]; omega, fun a q hq => ?_⟩
  have h9 := hp_non hq
  rw [sH_c (hp_c 263 10621 262 10620 kd0 ln0 I0 R0)] at hq
  obtain ⟨k1, k2⟩ := r4.2 a q hq
  exact ⟨⟨k1, h9⟩, k2.kept (o5 a k2.lt)⟩
section WS3
variable {p : Program} {l : Launch} {e : Env} {s : State} {m : MethodId} {below : List Frame} {meth : Method} {c : Code} {b L : Nat} {xs : Nat → Int32} {D : ag_D}
theorem ws_3 (hts0 : ∀ w ∈ lw_tbl, w.before #[Value.ref b] s = true) (X : ∀ cJ, ArrOfT s cJ .long → LX p l s m meth c b L xs D cJ) (hx : p.tables.exec = Jvm.exec) (hb : c.code = code) {H4 : Heap} {lc4 : List Loc} (r4 : ag_rep D (lA s.heap.size) (sH s.heap.size 0 (hp 262 10620 kd0 ln0 I0 R0)) H4) (s4 : va_S (lA s.heap.size) s.heap H4 lc4) {ls : Array Slot} (hl : lv_has ls 7 [(2, .ref (230 + s.heap.size)), (1, .ref (0 + s.heap.size)), (0, .ref b)]) :
    W p l e room_1 s m #[Value.ref b] below meth c H4 lc4 262 10620 (lw_Z below #[Value.ref b] s) (F0 m 16 ls []) := by
  have hz4 : H4.size = 262 + s.heap.size := by rw [r4.1, sH_1, (hp_1 _ _ _ _ _ _).1]
  refine lv_iconst (v := 1) hx hb dl_16 (by decide) ?_
  refine va_newaK (atype := .long) (n := 1) (N := 1) (h := 262 + s.heap.size) (rest := []) hx hb (show (Cond.arrayClass .long).before #[Value.ref b] s = true from hts0 _ (lCl_in _ (by simp))) rfl dl_17 rfl (by decide) rfl (by decide) (Nat.le_of_ble_eq_true rfl) (Nat.le_of_ble_eq_true rfl) hz4 (fun H5 cJ e5 z5 o5 hJ hf5 => ?_)
  have e5 : H5[262 + s.heap.size]? = some (arrV cJ 1 fun _ => .long 0) := e5
  have hJ : ArrOfT s cJ .long := hJ
  have s5 : va_S (lA s.heap.size) s.heap H5 lc4 := ⟨by have := s4.1; omega, fun q h1 h2 => (o5 q (by have := s4.1; omega)).trans (s4.2.1 q h1 h2), s4.2.2⟩
  have r5 := (ws_rep r4 (by omega) (fun q hq => o5 q (by omega))).2
  have hC := Cm_0
  have h263 : 263 ≤ (hp 263 10621 kd0 ln0 I0 R0).1 := Nat.le_of_eq (hp_1 _ _ _ _ _ _).1.symm
  have q1 : (hp 263 10621 kd0 ln0 I0 R0).1 = 263 := (hp_1 _ _ _ _ _ _).1
  have q2 : (hp 263 10621 kd0 ln0 I0 R0).2.1 = 10621 := (hp_1 _ _ _ _ _ _).2
  generalize hp 263 10621 kd0 ln0 I0 R0 = h0 at hC r5 h263 q1 q2
  refine (show W p l e room_1 s m #[Value.ref b] below meth c H5 lc4 263 10621 (lw_Z below #[Value.ref b] s) (F0 m 19 ls [.ref (262 + s.heap.size)]) from ?_)
  refine lv_astore_n (lv' := [(3, .ref (262 + s.heap.size)), (2, .ref (230 + s.heap.size)), (1, .ref (0 + s.heap.size)), (0, .ref b)]) hx hb dl_19 rfl hl (by decide) rfl (fun ls hl => ?_)
  refine lv_iconst (v := nI 0) hx hb dl_20 (by decide) ?_
  refine lv_istore (lv' := [(4, .int (nI 0)), (3, .ref (262 + s.heap.size)), (2, .ref (230 + s.heap.size)), (1, .ref (0 + s.heap.size)), (0, .ref b)]) hx hb dl_21 hl (by decide) rfl (fun ls hl => ?_)
  have fin := law_loop (e := e) (below := below) (X cJ hJ) L 0 h0 0 H5 lc4 ls (by omega) (by omega) hC ⟨r5, h263, e5, s5⟩ (lv_sub hl [0, 4, 3, 2, 1] rfl)
  rw [q1, q2] at fin
  exact fin
end WS3
set_option maxHeartbeats 4000000 in
set_option maxRecDepth 100000 in
theorem whole_start {p : Program} {e : Env} {s : State} {m : MethodId} {below : List Frame} {meth : Method} {c : Code} (l : Launch) (htr : l.stackTraces = false) {b L : Nat} {xs : Nat → Int32} (hL : L ≤ 2048) (C0 : lw_At p s m meth c b L xs) : W p l e room_1 s m #[Value.ref b] below meth c s.heap [] 0 0 (lw_Z below #[Value.ref b] s) (entryFrame m ([Value.ref b] : List Value).toArray 7) := by
  obtain ⟨hx, hb, hr, hml, hown, hts0, hX, hbl, hlk, hgv⟩ := id C0
  have hown : s.vm.findClass lR = some m.cls := hown
  have hts := lw_gw hts0
  obtain ⟨D, hW⟩ := gW_start hts0 hgv
  have hW : gW D (lA s.heap.size) s := hW
  have hsf := flat_of_before _ hgv
  have hnc : ∀ a b, a < 4 → b < 4 → a ≠ b → va_Nc (gE a) (gE b) s := fun a b ha hb9 hab => by
    have h1 : a = 0 ∨ a = 1 ∨ a = 2 ∨ a = 3 := by omega
    have h2 : b = 0 ∨ b = 1 ∨ b = 2 ∨ b = 3 := by omega
    rcases h1 with rfl | rfl | rfl | rfl <;> rcases h2 with rfl | rfl | rfl | rfl <;> first | exact absurd rfl hab | exact va_Nc.of (hsf _ (by decide +kernel))
  have ohA : ∀ n, s.heap.size ≤ n → bo (lA s.heap.size) n := fun n hn q hq => Nat.le_trans hn hq
  have hR0 : ag_rep D (lA s.heap.size) (sH s.heap.size 0 (0, 0, fun _ => none)) s.heap := ⟨(Nat.zero_add _).symm, fun a q hq => by
    have hq : (if a < s.heap.size then none else (none : Option ag_C).map (sq s.heap.size)) = some q := hq
    split at hq <;> cases hq⟩
  have hl := lv_entry ([.ref b]) (n := 7) (Nat.le_of_ble_eq_true rfl)
  rw [lg_entry_eq]
  generalize (lg_sl ([.ref b]) ++ List.replicate (7 - (lg_sl ([.ref b])).length) Slot.unset).toArray = ls at hl ⊢
  have hl : lv_has ls 7 [(0, .ref b)] := hl
  -- the class
  refine lc_new (ci := 10) (A := lA s.heap.size) (h := sH s.heap.size 0 (0, 0, fun _ => none)) hx hb hown hts hW (ohA _ (Nat.le_refl _)) va_S.rf (by decide) (hts0 _ (lCl_in _ (by simp))) hR0 (Nat.le_of_ble_eq_true rfl) (Nat.le_of_ble_eq_true rfl) dl_0 (fun H1 r1 z1 s1 => ?_)
  rw [fs_ok.2.2.1, ← fs_sq (o := s.heap.size) fs_ok.1, sH_new] at r1
  refine lv_dup hx hb dl_3 rfl ?_
  obtain ⟨h', i1, i2⟩ := ini_class
  have i3 := sh_run (o := s.heap.size) (As := []) i1
  have q1 : h'.1 = 230 := i2.1.symm
  have q2 : h'.2.1 = 1226 := i2.2.1.symm
  refine lc_ctor (y := 62) (ci := 10) (A := lA s.heap.size) (h := sH s.heap.size 0 (ag_new (0, 0, fun _ => none) 13 (10, ag_fs 10))) (h1 := sH s.heap.size 0 h') (rest := [.ref (0 + s.heap.size)]) htr hx hb hml hown hts hW (ohA _ (by omega)) s1 hl.1 i3 r1 (by decide) (by decide) (by decide) (by decide) (by decide) (by show 0 + 1 + (h'.1 + s.heap.size - (0 + 1 + s.heap.size)) ≤ 601024; omega) (by show 0 + 13 + (h'.2.1 - (0 + 13)) ≤ 7293034; omega) (Nat.le_of_ble_eq_true rfl) dl_4 (fun H2 lc2 r2 s2 => ?_)
  have r2 := i2.sh.rep r2
  refine W.widen (k := 230) (n := 1226) (by show 0 + 1 + (h'.1 + s.heap.size - (0 + 1 + s.heap.size)) ≤ 230; omega) (by show 0 + 13 + (h'.2.1 - (0 + 13)) ≤ 1226; omega) ?_
  refine lv_astore_n (lv' := [(1, .ref (0 + s.heap.size)), (0, .ref b)]) hx hb dl_7 rfl hl (by decide) rfl (fun ls hl => ?_)
  -- the reference
  refine lc_new (ci := 11) (A := lA s.heap.size) (h := sH s.heap.size 0 (hp 230 1226 kdc ln0 I0 R0)) hx hb hown hts hW (ohA _ s2.1) s2 (by decide) (hts0 _ (lCl_in _ (by simp))) r2 (Nat.le_of_ble_eq_true rfl) (Nat.le_of_ble_eq_true rfl) dl_8 (fun H3 r3 z3 s3 => ?_)
  rw [fs_ok.2.2.2, ← fs_sq (o := s.heap.size) fs_ok.2.1, sH_new] at r3
  refine lv_dup hx hb dl_11 rfl ?_
  obtain ⟨h9, j1, j2⟩ := ini_model
  have j3 := sh_run (o := s.heap.size) (As := []) j1
  have q3 : h9.1 = 262 := j2.1.symm
  have q4 : h9.2.1 = 10620 := j2.2.1.symm
  refine lc_ctor (y := 112) (ci := 11) (A := lA s.heap.size) (h := sH s.heap.size 0 (ag_new (hp 230 1226 kdc ln0 I0 R0) 42 (11, ag_fs 11))) (h1 := sH s.heap.size 0 h9) (rest := [.ref (230 + s.heap.size)]) htr hx hb hml hown hts hW (ohA _ s3.1) s3 hl.1 j3 r3 (by decide) (by decide) (by decide) (by decide) (by decide) (by show 230 + 1 + (h9.1 + s.heap.size - (230 + 1 + s.heap.size)) ≤ 601024; omega) (by show 1226 + 42 + (h9.2.1 - (1226 + 42)) ≤ 7293034; omega) (Nat.le_of_ble_eq_true rfl) dl_12 (fun H4 lc4 r4 s4 => ?_)
  have r4 := j2.sh.rep r4
  refine W.widen (k := 262) (n := 10620) (by show 230 + 1 + (h9.1 + s.heap.size - (230 + 1 + s.heap.size)) ≤ 262; omega) (by show 1226 + 42 + (h9.2.1 - (1226 + 42)) ≤ 10620; omega) ?_
  refine lv_astore_n (lv' := [(2, .ref (230 + s.heap.size)), (1, .ref (0 + s.heap.size)), (0, .ref b)]) hx hb dl_15 rfl hl (by decide) rfl (fun ls hl => ?_)
  exact ws_3 hts0 (fun cJ hJ => ⟨htr, hx, hb, hr, hml, hown, hts, hX, hbl, hlk, hW, hJ, hnc, hL⟩) hx hb r4 s4 hl

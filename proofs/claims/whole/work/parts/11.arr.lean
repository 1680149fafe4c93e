theorem ag_arr_at {D : ag_D} {t j : Nat} {xs : List ag_V} {v : ag_V} (hv : xs[j]? = some v) : (ag_arr D t xs).slots[j]? = some (ag_v v) := by
  show (xs.map ag_v).toArray[j]? = _
  rw [List.getElem?_toArray, List.getElem?_map, hv]
  rfl
theorem ag_arr_sz {D : ag_D} {t : Nat} {xs : List ag_V} : (ag_arr D t xs).slots.size = xs.length := by
  show (xs.map ag_v).toArray.size = _
  simp
theorem ag_arr_set {D : ag_D} {t j : Nat} {xs : List ag_V} {v : ag_V} : (ag_arr D t xs).setSlot j (ag_v v) = ag_arr D t (xs.set j v) := by
  unfold ag_arr Cell.setSlot
  simp [List.map_set]
theorem ag_in_of {D : ag_D} {t : Nat} {xs : List ag_V} {j : Int32} (h0 : ¬ j < 0) (hj : j.toNatClampNeg < xs.length) : ¬ (j < 0 ∨ (ag_arr D t xs).slots.size ≤ j.toNatClampNeg) := by
  rw [ag_arr_sz]
  rintro (h | h)
  · exact h0 h
  · omega
theorem ag_char {x : Int32} (h : 0 ≤ x ∧ x < 65536) : narrow .char (.int x) = .int x ∧ fits .char (.int x) = true := by
  obtain ⟨j, hj, rfl⟩ := nI_of (x := x) (by
    intro h9
    have a := Int32.le_iff_toInt_le.mp h.1
    have b := Int32.lt_iff_toInt_lt.mp h9
    omega)
  have h2 : nI j < nI 65536 := h.2
  exact pk_charN ((nI_ltI hj (by decide)).mp h2)
theorem ag_bool {x : Int32} (h : x = 0 ∨ x = 1) : narrow .boolean (.int x) = .int x ∧ fits .boolean (.int x) = true := by
  rcases h with rfl | rfl <;> exact ⟨by decide, by decide⟩
section AGX
variable {p : Program} {l : Launch} {e : Env} {R : Room} {s : State} {m : MethodId} {args : Array Value} {below : List Frame} {meth : Method} {c : Code} {H : Heap} {locs : List Loc} {cells slots : Nat} {Q : State → Prop} {cc : ByteArray} {pc : Nat} {ls : Array Slot} {rest : List Value} {D : ag_D} {base : Nat → Prop} {h : ag_H} {own C : String} {T : u_T} {N : Nat} {Ts : List Cond} {a t : Nat} {xs : List ag_V} {j : Int32} {v : ag_V}
theorem ag_w_iald (hx : p.tables.exec = Jvm.exec) (hb : c.code = cc) (hK : ag_K D s) (hR : ag_rep D base h H) (ha : h.2.2 a = some (100, xs)) (h0 : ¬ j < 0) (hv : xs[j.toNatClampNeg]? = some v) (hdg : decode cc pc = .ok (.iaload, 1))
    (kk : W p l e R s m args below meth c H locs cells slots Q (F0 m (pc + 1) ls (ag_v v :: rest))) : W p l e R s m args below meth c H locs cells slots Q (F0 m pc ls (.int j :: .ref a :: rest)) :=
  W.iald hx hb (hR.arr (t := 0) ha).2 (hK.isArr (t := 0) (by decide) xs) (fun q => by cases q) (ag_in_of h0 (List.getElem?_eq_some_iff.mp hv).1) (ag_arr_at hv) rfl rfl hdg kk
theorem ag_w_cald (hx : p.tables.exec = Jvm.exec) (hb : c.code = cc) (hK : ag_K D s) (hR : ag_rep D base h H) (ha : h.2.2 a = some (101, xs)) (h0 : ¬ j < 0) (hv : xs[j.toNatClampNeg]? = some v) (hdg : decode cc pc = .ok (.caload, 1))
    (kk : W p l e R s m args below meth c H locs cells slots Q (F0 m (pc + 1) ls (ag_v v :: rest))) : W p l e R s m args below meth c H locs cells slots Q (F0 m pc ls (.int j :: .ref a :: rest)) :=
  W.cald hx hb (hR.arr (t := 1) ha).2 (hK.isArr (t := 1) (by decide) xs) (fun q => by cases q) (ag_in_of h0 (List.getElem?_eq_some_iff.mp hv).1) (ag_arr_at hv) rfl rfl hdg kk
theorem ag_w_zald (hx : p.tables.exec = Jvm.exec) (hb : c.code = cc) (hK : ag_K D s) (hR : ag_rep D base h H) (ha : h.2.2 a = some (102, xs)) (h0 : ¬ j < 0) (hv : xs[j.toNatClampNeg]? = some v) (hdg : decode cc pc = .ok (.baload, 1))
    (kk : W p l e R s m args below meth c H locs cells slots Q (F0 m (pc + 1) ls (ag_v v :: rest))) : W p l e R s m args below meth c H locs cells slots Q (F0 m pc ls (.int j :: .ref a :: rest)) :=
  W.zald hx hb (hR.arr (t := 2) ha).2 (hK.isArr (t := 2) (by decide) xs) (fun q => by cases q) (ag_in_of h0 (List.getElem?_eq_some_iff.mp hv).1) (ag_arr_at hv) rfl rfl hdg kk
theorem ag_ct_ref {t : Nat} (h3 : 3 ≤ t) : ∃ C : String, ag_ct t = .object C := by
  match t, h3 with
  | 3, _ => exact ⟨_, rfl⟩
  | 4, _ => exact ⟨_, rfl⟩
  | 5, _ => exact ⟨_, rfl⟩
  | 6, _ => exact ⟨_, rfl⟩
  | 7, _ => exact ⟨_, rfl⟩
  | (n + 8), _ => exact ⟨_, rfl⟩
theorem ag_w_aald (hx : p.tables.exec = Jvm.exec) (hb : c.code = cc) (hK : ag_K D s) (hR : ag_rep D base h H) (ha : h.2.2 a = some (100 + t, xs)) (h3 : 3 ≤ t) (h0 : ¬ j < 0) (hv : xs[j.toNatClampNeg]? = some v) (hdg : decode cc pc = .ok (.aaload, 1))
    (kk : W p l e R s m args below meth c H locs cells slots Q (F0 m (pc + 1) ls (ag_v v :: rest))) : W p l e R s m args below meth c H locs cells slots Q (F0 m pc ls (.int j :: .ref a :: rest)) := by
  obtain ⟨ht, hc⟩ := hR.arr ha
  obtain ⟨C, hC⟩ := ag_ct_ref h3
  exact W.aald (ty := .object C) hx hb hc (hC ▸ hK.isArr ht xs) rfl (fun q => by cases q) (ag_in_of h0 (List.getElem?_eq_some_iff.mp hv).1) (ag_arr_at hv) rfl rfl hdg kk
theorem ag_w_alen (hx : p.tables.exec = Jvm.exec) (hb : c.code = cc) (hK : ag_K D s) (hR : ag_rep D base h H) (ha : h.2.2 a = some (100 + t, xs)) (hdg : decode cc pc = .ok (.arraylength, 1))
    (kk : W p l e R s m args below meth c H locs cells slots Q (F0 m (pc + 1) ls (.int (nI xs.length) :: rest))) : W p l e R s m args below meth c H locs cells slots Q (F0 m pc ls (.ref a :: rest)) := by
  obtain ⟨ht, hc⟩ := hR.arr ha
  exact W.alen (n := nI xs.length) hx hb hc (hK.isArr ht xs) (by rw [ag_arr_sz]; rfl) rfl rfl hdg kk
theorem ag_arr_cell {H1 : Heap} (h9 : t < 9) (hc : H1[a]? = some (ag_arr D t xs)) : ag_cell D (100 + t, xs) a H1 := by
  refine Or.inr ⟨by show 100 ≤ 100 + t; omega, by show 100 + t < 109; omega, ?_⟩
  show H1[a]? = some (ag_arr D (100 + t - 100) xs)
  rw [show 100 + t - 100 = t by omega]
  exact hc
theorem ag_w_iast {x : Int32} (hx : p.tables.exec = Jvm.exec) (hb : c.code = cc) (hK : ag_K D s) (hR : ag_rep D base h H) (ha : h.2.2 a = some (100, xs)) (h0 : ¬ j < 0) (hj : j.toNatClampNeg < xs.length) (hdg : decode cc pc = .ok (.iastore, 1))
    (kk : ∀ (H1 : Heap) (i : Nat), ag_rep D base (ag_set h a (100, xs.set j.toNatClampNeg (.inl x))) H1 → H1.size = H.size → (∀ b : Nat, b ≠ a → H1[b]? = H[b]?) → W p l e R s m args below meth c H1 (locs ++ [⟨a, i⟩]) cells slots Q (F0 m (pc + 1) ls rest)) : W p l e R s m args below meth c H locs cells slots Q (F0 m pc ls (.int x :: .int j :: .ref a :: rest)) := by
  refine W.iast hx hb (hR.arr (t := 0) ha).2 (hK.isArr (t := 0) (by decide) xs) (fun q => by cases q) (ag_in_of h0 hj) rfl rfl hdg fun H1 e1 e2 e3 => kk H1 _ (hR.put ha e2 e3 (ag_arr_cell (t := 0) (by decide) ?_)) e2 e3
  rw [e1]; exact congrArg some (ag_arr_set (v := .inl x))
theorem ag_w_cast {x : Int32} (hx : p.tables.exec = Jvm.exec) (hb : c.code = cc) (hK : ag_K D s) (hR : ag_rep D base h H) (ha : h.2.2 a = some (101, xs)) (h0 : ¬ j < 0) (hj : j.toNatClampNeg < xs.length) (hxc : 0 ≤ x ∧ x < 65536) (hdg : decode cc pc = .ok (.castore, 1))
    (kk : ∀ (H1 : Heap) (i : Nat), ag_rep D base (ag_set h a (101, xs.set j.toNatClampNeg (.inl x))) H1 → H1.size = H.size → (∀ b : Nat, b ≠ a → H1[b]? = H[b]?) → W p l e R s m args below meth c H1 (locs ++ [⟨a, i⟩]) cells slots Q (F0 m (pc + 1) ls rest)) : W p l e R s m args below meth c H locs cells slots Q (F0 m pc ls (.int x :: .int j :: .ref a :: rest)) := by
  refine W.cast hx hb (hR.arr (t := 1) ha).2 (hK.isArr (t := 1) (by decide) xs) (fun q => by cases q) (ag_in_of h0 hj) rfl rfl hdg fun H1 e1 e2 e3 => kk H1 _ (hR.put ha e2 e3 (ag_arr_cell (t := 1) (by decide) ?_)) e2 e3
  rw [e1, (ag_char hxc).1]; exact congrArg some (ag_arr_set (v := .inl x))
theorem ag_w_zast {x : Int32} (hx : p.tables.exec = Jvm.exec) (hb : c.code = cc) (hK : ag_K D s) (hR : ag_rep D base h H) (ha : h.2.2 a = some (102, xs)) (h0 : ¬ j < 0) (hj : j.toNatClampNeg < xs.length) (hxc : x = 0 ∨ x = 1) (hdg : decode cc pc = .ok (.bastore, 1))
    (kk : ∀ (H1 : Heap) (i : Nat), ag_rep D base (ag_set h a (102, xs.set j.toNatClampNeg (.inl x))) H1 → H1.size = H.size → (∀ b : Nat, b ≠ a → H1[b]? = H[b]?) → W p l e R s m args below meth c H1 (locs ++ [⟨a, i⟩]) cells slots Q (F0 m (pc + 1) ls rest)) : W p l e R s m args below meth c H locs cells slots Q (F0 m pc ls (.int x :: .int j :: .ref a :: rest)) := by
  refine W.zast hx hb (hR.arr (t := 2) ha).2 (hK.isArr (t := 2) (by decide) xs) (fun q => by cases q) (ag_in_of h0 hj) rfl rfl hdg fun H1 e1 e2 e3 => kk H1 _ (hR.put ha e2 e3 (ag_arr_cell (t := 2) (by decide) ?_)) e2 e3
  rw [e1, (ag_bool hxc).1]; exact congrArg some (ag_arr_set (v := .inl x))
/-- a reference into an array of objects of class ci -/
theorem ag_w_aast {o : Option Nat} {ci : Nat} (hx : p.tables.exec = Jvm.exec) (hb : c.code = cc) (hK : ag_K D s) (hR : ag_rep D base h H) (ha : h.2.2 a = some (100 + t, xs)) (hr : vwCl[ci]? = some (C, T, N)) (hci : ci < 100) (hC : ag_ct t = .object C) (ho : ∀ b, o = some b → ∃ fs, h.2.2 b = some (ci, fs)) (h0 : ¬ j < 0) (hj : j.toNatClampNeg < xs.length) (hdg : decode cc pc = .ok (.aastore, 1))
    (kk : ∀ (H1 : Heap) (i : Nat), ag_rep D base (ag_set h a (100 + t, xs.set j.toNatClampNeg (.inr o))) H1 → H1.size = H.size → (∀ b : Nat, b ≠ a → H1[b]? = H[b]?) → W p l e R s m args below meth c H1 (locs ++ [⟨a, i⟩]) cells slots Q (F0 m (pc + 1) ls rest)) : W p l e R s m args below meth c H locs cells slots Q (F0 m pc ls (ag_v (.inr o) :: .int j :: .ref a :: rest)) := by
  obtain ⟨ht, hc⟩ := hR.arr ha
  have hia := hK.isArr ht xs
  rw [hC] at hia
  cases o with
  | none =>
    refine va_WaastN (C := C) hx hb hc hia (fun q => by cases q) (ag_in_of h0 hj) rfl rfl hdg fun H1 e1 e2 e3 => kk H1 _ (hR.put ha e2 e3 (ag_arr_cell ht ?_)) e2 e3
    rw [e1]; exact congrArg some (ag_arr_set (v := .inr none))
  | some b =>
    obtain ⟨fs, hb2⟩ := ho b rfl
    obtain ⟨-, r, h1, cellV, g1, g2, g3, -⟩ := hR.obj hb2 hci
    have hcls := (hK.1 ci _ hr).2
    obtain ⟨kC, hkC, -⟩ := hcls.2
    have hRA := (hK.arr ht).2
    rw [hC] at hRA
    obtain ⟨kA, comp, k1, k2, k3, -⟩ := hRA
    have hcomp : comp = D.1 ci := Option.some.inj (k3.symm.trans hcls.1)
    subst hcomp
    have g2 : cellV.cls = D.1 ci := g2
    have hkC : s.vm.classes[D.1 ci]? = some kC := hkC
    refine W.aast hx hb hc (fun q h9 => by cases h9) (fun h9 => by cases h9) k1 k2 rfl hkC ⟨h0, by rw [ag_arr_sz]; exact hj⟩ g1 (fun q h9 => by rw [g3] at h9; cases h9) (by rw [g2]; exact hkC) (by rw [g2]; exact va_assign hcls) rfl rfl hdg fun H1 e1 e2 e3 => kk H1 _ (hR.put ha e2 e3 (ag_arr_cell ht ?_)) e2 e3
    rw [e1]; exact congrArg some (ag_arr_set (v := .inr (some b)))
theorem ag_push {H : Heap} {cl : Cell} : (H.push cl).size = H.size + 1 ∧ (H.push cl)[H.size]? = some cl ∧ ∀ b : Nat, b < H.size → (H.push cl)[b]? = H[b]? :=
  ⟨Array.size_push _, Array.getElem?_push_size, fun b hb => by rw [Array.getElem?_push, if_neg (Nat.ne_of_lt hb)]⟩
theorem ag_w_newa {n : Int32} {at9 : ArrayType} (hx : p.tables.exec = Jvm.exec) (hb : c.code = cc) (hK : ag_K D s) (hR : ag_rep D base h H) (hbase : bo base H.size) (harr : (Cond.arrayClass (newarray.typeOf at9)).before args s = true) (ht : t < 3) (hct : newarray.typeOf at9 = ag_ct t) (hn : ¬ n < 0) (hN : n.toNatClampNeg < 100000) (hcells : cells + 1 ≤ R.cells) (hslots : slots + n.toNatClampNeg ≤ R.slots) (hdg : decode cc pc = .ok (.newarray at9, 2))
    (kk : ∀ H1 : Heap, ag_rep D base (ag_new h n.toNatClampNeg (100 + t, List.replicate n.toNatClampNeg (.inl 0))) H1 → H1.size = H.size + 1 → (∀ b : Nat, b < H.size → H1[b]? = H[b]?) → W p l e R s m args below meth c H1 locs (cells + 1) (slots + n.toNatClampNeg) Q (F0 m (pc + 2) ls (.ref h.1 :: rest))) : W p l e R s m args below meth c H locs cells slots Q (F0 m pc ls (.int n :: rest)) := by
  have ht9 : t < 9 := by omega
  have hd : defaultValue (ag_ct t) = .int 0 ∧ va_RA s (D.2.2 t) (ag_ct t) = (s.vm.findClass ("[" ++ (ag_ct t).toString) = some (D.2.2 t)) := by
    match t, ht with
    | 0, _ => exact ⟨rfl, rfl⟩
    | 1, _ => exact ⟨rfl, rfl⟩
    | 2, _ => exact ⟨rfl, rfl⟩
  have hRA := (hK.arr ht9).2
  rw [hd.2] at hRA
  have hby : n.toNatClampNeg * componentBytes (newarray.typeOf at9) ≤ 536870912 := by
    rw [hct]
    match t, ht with
    | 0, _ => show n.toNatClampNeg * 4 ≤ 536870912; omega
    | 1, _ => show n.toNatClampNeg * 2 ≤ 536870912; omega
    | 2, _ => show n.toNatClampNeg * 1 ≤ 536870912; omega
  refine W.newa hx hb harr rfl hdg rfl hn hby hcells hslots fun cA kA comp f1 f2 f3 => ?_
  rw [hct] at f1 ⊢
  have hcA : cA = D.2.2 t := Option.some.inj (f1.symm.trans hRA)
  subst hcA
  obtain ⟨z1, e1, o1⟩ := ag_push (H := H) (cl := ({ cls := D.2.2 t, slots := Array.replicate n.toNatClampNeg (defaultValue (ag_ct t)), vm := .none } : Cell))
  rw [← hR.1] at kk
  refine kk _ (hR.push hbase z1 o1 (ag_arr_cell ht9 ?_)) z1 o1
  rw [e1, hd.1]
  congr 1
  unfold ag_arr
  simp [ag_v]
theorem ag_w_newq {n : Int32} {idx : Nat} (hx : p.tables.exec = Jvm.exec) (hb : c.code = cc) (hown : s.vm.findClass own = some m.cls) (hK : ag_K D s) (hR : ag_rep D base h H) (hbase : bo base H.size) (hcl : (Cond.classLink own idx C).before args s = true) (hov : (Cond.arrayOver (.object C)).before args s = true) (ht : t < 9) (hct : ag_ct t = .object C) (hn : ¬ n < 0) (hN : n.toNatClampNeg < 100000) (hcells : cells + 1 ≤ R.cells) (hslots : slots + n.toNatClampNeg ≤ R.slots) (hdg : decode cc pc = .ok (.anewarray idx, 3))
    (kk : ∀ H1 : Heap, ag_rep D base (ag_new h n.toNatClampNeg (100 + t, List.replicate n.toNatClampNeg (.inr none))) H1 → H1.size = H.size + 1 → (∀ b : Nat, b < H.size → H1[b]? = H[b]?) → W p l e R s m args below meth c H1 locs (cells + 1) (slots + n.toNatClampNeg) Q (F0 m (pc + 3) ls (.ref h.1 :: rest))) : W p l e R s m args below meth c H locs cells slots Q (F0 m pc ls (.int n :: rest)) := by
  have hRA := (hK.arr ht).2
  rw [hct] at hRA
  obtain ⟨kA, comp, k1, k2, k3, k4⟩ := hRA
  refine W.anew hx hb hown hcl hov rfl hdg rfl hn (by omega) hcells hslots fun cA kA9 comp9 f1 f2 f3 f4 => ?_
  have hcA : cA = D.2.2 t := Option.some.inj (f1.symm.trans k4)
  subst hcA
  obtain ⟨z1, e1, o1⟩ := ag_push (H := H) (cl := ({ cls := D.2.2 t, slots := Array.replicate n.toNatClampNeg .null, vm := .none } : Cell))
  rw [← hR.1] at kk
  refine kk _ (hR.push hbase z1 o1 (ag_arr_cell ht ?_)) z1 o1
  rw [e1]
  congr 1
  unfold ag_arr
  simp [ag_v]
theorem ag_fs_eq {ci : Nat} (hr : vwCl[ci]? = some (C, T, N)) : ag_fs ci = (List.range N).map fun k => match parseFieldDescriptor (T k).2.2.1 with
    | some t => ag_df t
    | none => .inl 0 := by
  unfold ag_fs
  rw [hr]
  rfl
theorem ag_w_new {ci idx : Nat} (hx : p.tables.exec = Jvm.exec) (hb : c.code = cc) (hts : ∀ w ∈ Ts, w.before args s = true) (hin : ∀ w ∈ u_ws C T N, w ∈ Ts) (ty0 : Nat → FieldType) (hty : ∀ k, k < N → parseFieldDescriptor (T k).2.2.1 = some (ty0 k)) (hdf : ∀ k, k < N → defaultValue (ty0 k) = ag_v (ag_df (ty0 k))) (hown : s.vm.findClass own = some m.cls) (hcl : (Cond.classLink own idx C).before args s = true) (hinst : (Cond.instantiable C N).before args s = true) (hini : (Cond.initialized C).before args s = true)
    (hK : ag_K D s) (hR : ag_rep D base h H) (hbase : bo base H.size) (hci : ci < 100) (hr : vwCl[ci]? = some (C, T, N)) (hcells : cells + 1 ≤ R.cells) (hslots : slots + N ≤ R.slots) (hdg : decode cc pc = .ok (.new idx, 3))
    (kk : ∀ H1 : Heap, ag_rep D base (ag_new h (ag_fs ci).length (ci, ag_fs ci)) H1 → H1.size = H.size + 1 → (∀ b : Nat, b < H.size → H1[b]? = H[b]?) → W p l e R s m args below meth c H1 locs (cells + 1) (slots + N) Q (F0 m (pc + 3) ls (.ref h.1 :: rest))) : W p l e R s m args below meth c H locs cells slots Q (F0 m pc ls rest) := by
  have hKn := hK.1 ci _ hr
  rw [← hR.1] at kk
  refine W.newcK hx hb hown hcl hinst hini rfl hdg hcells hslots hKn.2.1 rfl fun H1 kC hkC e1 z1 o1 => ?_
  refine kk H1 (hR.push hbase z1 o1 (Or.inl ⟨hci, ⟨_, hr, ?_⟩, _, hr, ?_⟩)) z1 o1
  · show (ag_fs ci).length = N
    rw [ag_fs_eq hr]
    simp
  · refine (u_born ty0 hts hin hKn hkC e1 hty).to fun k hk => ?_
    show defaultValue (ty0 k) = vp_V ((ag_fs ci).map ag_v) k
    rw [ag_fs_eq hr, hdf k hk]
    simp [vp_V, hk, hty k hk]
end AGX

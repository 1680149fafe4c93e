/-! THE ABSTRACT HEAP IN THE MACHINE'S, and the instructions that touch it -/
abbrev ag_D : Type := (Nat → ClassId) × (Nat → Nat → Nat) × (Nat → ClassId)
def ag_G (D : ag_D) : va_G := (D.1, D.2.1)
def ag_ct : Nat → FieldType := fun t => match t with
  | 0 => .int
  | 1 => .char
  | 2 => .boolean
  | 3 => .object RX7
  | 4 => .object RX2
  | 5 => .object RX6
  | 6 => .object RX9
  | 7 => .object RX5
  | _ => .object RX3
def ag_tys (D : ag_D) : List (ClassId × FieldType) := (List.range 9).map fun t => (D.2.2 t, ag_ct t)
def ag_K (D : ag_D) (U : State) : Prop := va_K (ag_G D) vwCl (ag_tys D) U
def ag_arr (D : ag_D) (t : Nat) (xs : List ag_V) : Cell := { cls := D.2.2 t, slots := (xs.map ag_v).toArray, vm := .none }
def ag_cell (D : ag_D) (q : ag_C) (a : Nat) (H : Heap) : Prop :=
  (q.1 < 100 ∧ (∃ r, vwCl[q.1]? = some r ∧ q.2.length = r.2.2) ∧ va_at (ag_G D) vwCl (a, .inr (q.1, q.2.map ag_v)) H) ∨
  (100 ≤ q.1 ∧ q.1 < 109 ∧ H[a]? = some (ag_arr D (q.1 - 100) q.2))
def bo (B : Nat → Prop) (n : Nat) : Prop := ∀ q, n ≤ q → B q
theorem bo.le {B : Nat → Prop} {n k : Nat} (h : bo B n) (hn : n ≤ k) : bo B k := fun q hq => h q (Nat.le_trans hn hq)
def ag_rep (D : ag_D) (base : Nat → Prop) (h : ag_H) (H : Heap) : Prop := H.size = h.1 ∧ ∀ (a : Nat) (q : ag_C), h.2.2 a = some q → base a ∧ ag_cell D q a H
theorem ag_cell.kept {D : ag_D} {q : ag_C} {a : Nat} {H H1 : Heap} (h : ag_cell D q a H) (e : H1[a]? = H[a]?) : ag_cell D q a H1 := by
  rcases h with ⟨h1, h2, h3⟩ | ⟨h1, h2, h3⟩
  · exact Or.inl ⟨h1, h2, h3.kept e⟩
  · exact Or.inr ⟨h1, h2, e.trans h3⟩
theorem ag_cell.lt {D : ag_D} {q : ag_C} {a : Nat} {H : Heap} (h : ag_cell D q a H) : a < H.size := by
  rcases h with ⟨h1, h2, h3⟩ | ⟨h1, h2, h3⟩
  · exact h3.lt
  · exact (Array.getElem?_eq_some_iff.mp h3).1
theorem ag_rep.put {D : ag_D} {base : Nat → Prop} {h : ag_H} {H H1 : Heap} {a : Nat} {q0 q : ag_C} (hR : ag_rep D base h H) (ha : h.2.2 a = some q0) (hz : H1.size = H.size) (ho : ∀ b : Nat, b ≠ a → H1[b]? = H[b]?) (hc : ag_cell D q a H1) : ag_rep D base (ag_set h a q) H1 := by
  refine ⟨hz.trans hR.1, fun b x hb => ?_⟩
  have hb : (if b = a then some q else h.2.2 b) = some x := hb
  by_cases e : b = a
  · subst e
    rw [if_pos rfl] at hb
    cases hb
    exact ⟨(hR.2 _ _ ha).1, hc⟩
  · rw [if_neg e] at hb
    exact ⟨(hR.2 _ _ hb).1, (hR.2 _ _ hb).2.kept (ho b e)⟩
theorem ag_rep.push {D : ag_D} {base : Nat → Prop} {h : ag_H} {H H1 : Heap} {n : Nat} {q : ag_C} (hR : ag_rep D base h H) (hbase : bo base H.size) (hz : H1.size = H.size + 1) (ho : ∀ b : Nat, b < H.size → H1[b]? = H[b]?) (hc : ag_cell D q H.size H1) : ag_rep D base (ag_new h n q) H1 := by
  refine ⟨by show H1.size = h.1 + 1; rw [hz, hR.1], fun b x hb => ?_⟩
  have hb : (if b = h.1 then some q else h.2.2 b) = some x := hb
  by_cases e : b = h.1
  · rw [if_pos e] at hb
    cases hb
    rw [e, ← hR.1]
    exact ⟨hbase _ (Nat.le_refl _), hc⟩
  · rw [if_neg e] at hb
    have hc2 := (hR.2 _ _ hb).2
    exact ⟨(hR.2 _ _ hb).1, hc2.kept (ho b hc2.lt)⟩
theorem ag_rep.thr {D : ag_D} {base : Nat → Prop} {h : ag_H} {H H1 : Heap} (hR : ag_rep D base h H) (hz : H1.size = H.size + 1) (ho : ∀ b : Nat, b < H.size → H1[b]? = H[b]?) : ag_rep D base (ag_thr h) H1 :=
  ⟨by show H1.size = h.1 + 1; rw [hz, hR.1], fun b x hb => ⟨(hR.2 _ _ hb).1, (hR.2 _ _ hb).2.kept (ho b (hR.2 _ _ hb).2.lt)⟩⟩
/-- the cell of an object, an array -/
theorem ag_rep.obj {D : ag_D} {base : Nat → Prop} {h : ag_H} {H : Heap} {a ci : Nat} {fs : List ag_V} (hR : ag_rep D base h H) (ha : h.2.2 a = some (ci, fs)) (hci : ci < 100) : (∃ r, vwCl[ci]? = some r ∧ fs.length = r.2.2) ∧ va_at (ag_G D) vwCl (a, .inr (ci, fs.map ag_v)) H := by
  rcases (hR.2 _ _ ha).2 with ⟨h1, h2, h3⟩ | ⟨h1, h2, h3⟩
  · exact ⟨h2, h3⟩
  · exact absurd hci (Nat.not_lt.mpr h1)
theorem ag_rep.arr {D : ag_D} {base : Nat → Prop} {h : ag_H} {H : Heap} {a t : Nat} {xs : List ag_V} (hR : ag_rep D base h H) (ha : h.2.2 a = some (100 + t, xs)) : t < 9 ∧ H[a]? = some (ag_arr D t xs) := by
  rcases (hR.2 _ _ ha).2 with ⟨h1, h2, h3⟩ | ⟨h1, h2, h3⟩
  · exact absurd (show 100 + t < 100 from h1) (by omega)
  · have h2 : 100 + t < 109 := h2
    have h3 : H[a]? = some (ag_arr D (100 + t - 100) xs) := h3
    rw [show 100 + t - 100 = t by omega] at h3
    exact ⟨by omega, h3⟩
theorem ag_K.arr {D : ag_D} {U : State} (hK : ag_K D U) {t : Nat} (ht : t < 9) : ArrOfT U (D.2.2 t) (ag_ct t) ∧ va_RA U (D.2.2 t) (ag_ct t) := by
  have h1 : (ag_tys D)[t]? = some (D.2.2 t, ag_ct t) := by
    unfold ag_tys
    rw [List.getElem?_map, List.getElem?_range ht]
    rfl
  exact hK.2 t _ h1
theorem ag_K.isArr {D : ag_D} {U : State} (hK : ag_K D U) {t : Nat} (ht : t < 9) (xs : List ag_V) : U.isArrayOf (ag_arr D t xs) (ag_ct t) := by
  obtain ⟨-, k, h1, h2⟩ := (hK.arr ht).1 0 (fun _ => .null)
  exact ⟨fun _ h9 => (by cases h9), k, h1, h2⟩
theorem ag_sgl {D : ag_D} {a : Nat} {e : va_E} {H : Heap} (h : va_at (ag_G D) vwCl (a, e) H) : va_P (ag_G D) vwCl [(a, e)] H := by
  intro k q hq
  have hz : k < 1 := (List.getElem?_eq_some_iff.mp hq).1
  rw [show k = 0 by omega] at hq
  cases hq
  exact h
section AGW
variable {p : Program} {l : Launch} {e : Env} {R : Room} {s : State} {m : MethodId} {args : Array Value} {below : List Frame} {meth : Method} {c : Code} {H : Heap} {locs : List Loc} {cells slots : Nat} {Q : State → Prop} {cc : ByteArray} {pc : Nat} {ls : Array Slot} {rest : List Value} {D : ag_D} {base : Nat → Prop} {h : ag_H} {own C : String} {T : u_T} {N : Nat} {Ts : List Cond}
theorem ag_w_get (hx : p.tables.exec = Jvm.exec) (hb : c.code = cc) (hts : ∀ w ∈ Ts, w.before args s = true) (hin : ∀ w ∈ u_ws C T N, w ∈ Ts) (hown : s.vm.findClass own = some m.cls) (hK : ag_K D s) (hR : ag_rep D base h H)
    {a ci k idx : Nat} {fs : List ag_V} {v : ag_V} (ha : h.2.2 a = some (ci, fs)) (hci : ci < 100) (hr : vwCl[ci]? = some (C, T, N)) (hk : k < N) (hlink : (Cond.fieldLink own idx (T k).1 (T k).2.1 (T k).2.2.1).before args s = true) (hv : fs[k]? = some v) (hdg : decode cc pc = .ok (.getfield idx, 3))
    (kk : W p l e R s m args below meth c H locs cells slots Q (F0 m (pc + 3) ls (ag_v v :: rest))) : W p l e R s m args below meth c H locs cells slots Q (F0 m pc ls (.ref a :: rest)) :=
  va_get (D := ag_G D) (cl := vwCl) (tys := ag_tys D) (ws := [(a, .inr (ci, fs.map ag_v))]) hx hb hts hin hown hK (ag_sgl (hR.obj ha hci).2) 0 rfl hr k hk hlink (fun _ h9 => h9) (by rw [List.getElem?_map, hv]; rfl) hdg kk
theorem ag_w_put (hx : p.tables.exec = Jvm.exec) (hb : c.code = cc) (hts : ∀ w ∈ Ts, w.before args s = true) (hin : ∀ w ∈ u_ws C T N, w ∈ Ts) (ty0 : Nat → FieldType) (hty : ∀ k, k < N → parseFieldDescriptor (T k).2.2.1 = some (ty0 k)) (hnm : ∀ a, a < N → ∀ b, b < N → a ≠ b → (T a).2.1 ≠ (T b).2.1) (hown : s.vm.findClass own = some m.cls) (hK : ag_K D s) (hR : ag_rep D base h H)
    {a ci k idx : Nat} {fs : List ag_V} {v : ag_V} (ha : h.2.2 a = some (ci, fs)) (hci : ci < 100) (hr : vwCl[ci]? = some (C, T, N)) (hk : k < N) (hlink : (Cond.fieldLink own idx (T k).1 (T k).2.1 (T k).2.2.1).before args s = true)
    (hfin : (T k).2.2.2 = false ∨ ((T k).2.2.2 = true ∧ meth.name = "<init>" ∧ (T k).1 = own)) (hn : narrow (ty0 k) (ag_v v) = ag_v v) (hfit : fits (ty0 k) (ag_v v) = true) (hdg : decode cc pc = .ok (.putfield idx, 3))
    (kk : ∀ (H1 : Heap) (i : Nat), ag_rep D base (ag_set h a (ci, fs.set k v)) H1 → H1.size = H.size → (∀ b : Nat, b ≠ a → H1[b]? = H[b]?) → W p l e R s m args below meth c H1 (locs ++ [⟨a, i⟩]) cells slots Q (F0 m (pc + 3) ls rest)) : W p l e R s m args below meth c H locs cells slots Q (F0 m pc ls (ag_v v :: .ref a :: rest)) := by
  have hap := va_apart (D := ag_G D) (cl := vwCl) (tys := ag_tys D) (own := own) hts hin ty0 hty hnm hK hr
  obtain ⟨⟨r', hr', hlen⟩, r, h1, cell, q1, q2, q3, q4⟩ := hR.obj ha hci
  cases hr.symm.trans hr'
  cases hr.symm.trans h1
  have hlen : fs.length = N := hlen
  obtain ⟨hS, hfc, kC, hkC, hkind⟩ := hK.1 ci _ hr
  obtain ⟨cf, kf, fi, f, hi, hsl⟩ := hS k hk
  have hlay := hts _ (hin _ (u_in_lay hk))
  have hst := (u_facts hfc hkC (u_lays hts hin hk) hi).1
  have q4k : cell.slots[D.2.1 ci k]? = some (vp_V (fs.map ag_v) k) := q4 k hk
  have fin : ∀ H' : Heap, H'[a]? = some (cell.setSlot f.slot (ag_v v)) → H'.size = H.size → (∀ b : Nat, b ≠ a → H'[b]? = H[b]?) → ag_rep D base (ag_set h a (ci, fs.set k v)) H' := by
    intro H' e1 e2 e3
    rw [hsl] at e1
    refine hR.put ha e2 e3 (Or.inl ⟨hci, ⟨_, hr, by show (fs.set k v).length = N; rw [List.length_set, hlen]⟩, _, hr, ?_⟩)
    have := t_OB.to (V := updV (vp_V (fs.map ag_v)) k (ag_v v)) (V' := vp_V ((fs.map ag_v).set k (ag_v v))) ⟨_, e1, q2, q3, t_set q4 hap hk (ag_v v)⟩ (fun j _ => vp_updV_set (by rw [List.length_map, hlen]; exact hk) (ag_v v) j)
    rw [← List.map_set] at this
    exact this
  rcases hfin with hf | ⟨hf, hin2, hdecl⟩
  · unfold u_lay at hlay
    rw [if_neg (by rw [hf]; decide)] at hlay
    have h6 := u_store hfc hkC hkind hlay hi (hty k hk) hn hfit
    exact W.putK hx hb (f := f) ⟨hown, hlink, ⟨_, _, _, hi⟩, hst⟩ (by rw [q2]; exact h6) q1 q3 (by rw [hsl]; exact k2_hasslot q4k) rfl rfl hdg fun H' e1 e2 e3 => kk H' _ (fin H' e1 e2 e3) e2 e3
  · unfold u_lay at hlay
    rw [if_pos hf] at hlay
    have hcf : m.cls = cf := by
      obtain ⟨_, _, c', _, _, _, -, -, hf', -, -, -, hown2, -⟩ := Cond.laysFinal_spec hlay
      have e1 : c' = cf := by have := hi.symm.trans hf'; simp at this; exact this.1.symm
      rw [hdecl] at hown2
      rw [← e1]; exact Option.some.inj (hown.symm.trans hown2)
    have h6 := u_fits hfc hkC hkind (Or.inr hlay) hi (hty k hk) hn hfit
    exact W.putFinK hx hb hown hlink hi hst hcf hin2 (by rw [q2]; exact h6) q1 q3 (by rw [hsl]; exact k2_hasslot q4k) rfl rfl hdg fun H' e1 e2 e3 => kk H' _ (fin H' e1 e2 e3) e2 e3
end AGW

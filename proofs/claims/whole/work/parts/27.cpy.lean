/-! SYSTEM.ARRAYCOPY between two arrays of chars -/
def gACw : Nat × Nat → Cond := fun q => .methodLink (gR q.1) q.2 arraycopyName
set_option maxRecDepth 100000 in
set_option maxHeartbeats 4000000 in
theorem gAC_ok : ∀ q ∈ gAC, gACw q ∈ gw := gmem gACw gAC [403] (by decide +kernel) (by decide +kernel)
set_option maxRecDepth 100000 in
set_option maxHeartbeats 4000000 in
theorem gAC_ws : ∀ w ∈ ([.native arraycopyName, .static arraycopyName, .initialized "java/lang/System"] : List Cond), w ∈ gw := gmem (fun w => w) [.native arraycopyName, .static arraycopyName, .initialized "java/lang/System"] [405, 404, 84] (by decide +kernel) (by decide +kernel)
theorem ag_arrV_ext {c : ClassId} {n : Nat} {f g : Nat → Value} (h : ∀ j, j < n → f j = g j) : arrV c n f = arrV c n g := by
  have e : (fun j : Fin n => f j.val) = fun j : Fin n => g j.val := funext fun j => h _ j.isLt
  unfold arrV
  rw [e]
theorem ag_arr_V {D : ag_D} {t : Nat} (xs : List ag_V) : ag_arr D t xs = arrV (D.2.2 t) xs.length (fun j => ag_v (xs.getD j (.inl 0))) := by
  unfold ag_arr arrV
  congr 1
  apply Array.ext_getElem?
  intro i
  rw [List.getElem?_toArray, List.getElem?_map, Array.getElem?_ofFn]
  by_cases h : i < xs.length
  · rw [dif_pos h, List.getElem?_eq_getElem h]
    simp [List.getD, List.getElem?_eq_getElem h]
  · rw [dif_neg h, List.getElem?_eq_none (by omega)]
    rfl
section CPY
variable {p : Program} {l : Launch} {e : Env} {R : Room} {s : State} {m : MethodId} {args : Array Value} {below : List Frame} {meth : Method} {c : Code} {H : Heap} {locs : List Loc} {cells slots : Nat} {Q : State → Prop} {cc : ByteArray} {pc : Nat} {ls : Array Slot} {rest : List Value} {D : ag_D} {base : Nat → Prop} {h : ag_H} {own : String} {a b : Nat} {xs ys : List ag_V}
theorem ag_w_copy (hx : p.tables.exec = Jvm.exec) (hb : c.code = cc) (hml : c.maxLocals = ls.size) {index : Nat} (hown : s.vm.findClass own = some m.cls) (hlink : (Cond.methodLink own index arraycopyName).before args s = true) (hnat : (Cond.native arraycopyName).before args s = true) (hstat : (Cond.static arraycopyName).before args s = true) (hini : (Cond.initialized "java/lang/System").before args s = true)
    (hK : ag_K D s) (hR : ag_rep D base h H) (ha : h.2.2 a = some (101, xs)) (hbb : h.2.2 b = some (101, ys)) {sp dp n : Int32} (h1 : ¬ sp < 0) (h2 : ¬ dp < 0) (h3 : ¬ n < 0) (h4 : sp.toNatClampNeg + n.toNatClampNeg ≤ xs.length) (h5 : dp.toNatClampNeg + n.toNatClampNeg ≤ ys.length)
    (hfit : ∀ i, i < n.toNatClampNeg → ag_ch (xs.getD (sp.toNatClampNeg + i) (.inl 0)) = true) (hframes : 1 ≤ R.frames) (hlocals : (rest.map fun v => v.category).sum + (nativeFrameWords "java/lang/System" "arraycopy" 5 + 11) ≤ R.locals) (hdg : decode cc pc = .ok (.invokestatic index, 3))
    (kk : ∀ (H1 : Heap) (lc : List Loc), (∀ q ∈ lc, q.base = b) → ag_rep D base (ag_set h b (101, (List.range ys.length).map fun j => va_cpy (fun k => xs.getD k (.inl 0)) (fun k => ys.getD k (.inl 0)) sp.toNatClampNeg dp.toNatClampNeg n.toNatClampNeg j)) H1 → H1.size = H.size → (∀ q : Nat, q ≠ b → H1[q]? = H[q]?) → W p l e R s m args below meth c H1 (locs ++ lc) cells slots Q (F0 m (pc + 3) ls rest)) :
    W p l e R s m args below meth c H locs cells slots Q (F0 m pc ls (.int n :: .int dp :: .ref b :: .int sp :: .ref a :: rest)) := by
  have nn : ∀ z : Int32, ¬ z < 0 → z.toInt = (z.toNatClampNeg : Int) := by
    intro z hz
    have hz0 : (0 : Int) ≤ z.toInt := by
      have := Int32.not_lt.mp hz
      simpa using Int32.le_iff_toInt_le.mp this
    show z.toInt = ((z.toInt.toNat : Nat) : Int)
    omega
  intro T hT X
  have hc0 := (hR.arr (t := 1) ha).2
  have hc1 := (hR.arr (t := 1) hbb).2
  obtain ⟨-, k0, hk0, cm0, hkk0⟩ := (hK.arr (t := 1) (by decide)).1 xs.length (fun j => ag_v (xs.getD j (.inl 0)))
  obtain ⟨vm', X', step⟩ := X.arraycopy hx hown hlink hnat hstat hini (src := a) (dst := b) (cs := ag_arr D 1 xs) (cd := ag_arr D 1 ys) (srcPos := sp) (destPos := dp) (n := n) (by rw [hT]; exact hc0) (by rw [hT]; exact hc1)
    (fun _ h => by cases h) (fun _ h => by cases h) (fun h => by cases h) (fun h => by cases h) hk0 hk0 hkk0 hkk0 (by decide) h1 h2 h3
    (by rw [nn sp h1, nn n h3, ag_arr_sz]; omega)
    (by rw [nn dp h2, nn n h3, ag_arr_sz]; omega)
    (fun vm₁ _ i hi => by
      have e0 : (ag_arr D 1 xs).slots.getD (sp.toNatClampNeg + i) .null = ag_v (xs.getD (sp.toNatClampNeg + i) (.inl 0)) := by
        rw [ag_arr_V, Array.getD_eq_getD_getElem?, arrV_read _ _ (by omega)]
        rfl
      have hf := hfit i hi
      rw [e0]
      generalize xs.getD (sp.toNatClampNeg + i) (.inl 0) = v at hf
      rcases v with x | o
      · have hf : 0 ≤ x ∧ x < 65536 := of_decide_eq_true hf
        exact ⟨(ag_char hf).2, trivial⟩
      · cases hf)
    (g := F0 m pc ls (.int n :: .int dp :: .ref b :: .int sp :: .ref a :: rest)) rfl (by rw [hml]) (rest := rest) rfl (by rw [hb]; exact hdg) hframes (by show 2 * 0 + _ + _ ≤ _; omega)
  have e1 : copied (ag_arr D 1 xs) (ag_arr D 1 ys) sp dp n = ag_arr D 1 ((List.range ys.length).map fun j => va_cpy (fun k => xs.getD k (.inl 0)) (fun k => ys.getD k (.inl 0)) sp.toNatClampNeg dp.toNatClampNeg n.toNatClampNeg j) := by
    have e2 := va_copied ag_v (D.2.2 1) (D.2.2 1) (n0 := xs.length) (n1 := ys.length) (sp := sp.toNatClampNeg) (dp := dp.toNatClampNeg) (n := n.toNatClampNeg) (fun k => xs.getD k (.inl 0)) (fun k => ys.getD k (.inl 0)) h4
    rw [← ag_arr_V, ← ag_arr_V] at e2
    refine e2.trans ?_
    rw [ag_arr_V ((List.range ys.length).map _), List.length_map, List.length_range]
    refine ag_arrV_ext fun j hj => ?_
    rw [List.getD_eq_getElem?_getD, List.getElem?_map, List.getElem?_range hj]
    rfl
  rw [e1] at X' step
  have hl : b < H.size := (Array.getElem?_eq_some_iff.mp hc1).1
  generalize hZ : ag_arr D 1 ((List.range ys.length).map fun j => va_cpy (fun k => xs.getD k (.inl 0)) (fun k => ys.getD k (.inl 0)) sp.toNatClampNeg dp.toNatClampNeg n.toNatClampNeg j) = Z at X' step
  have hheap : ((T.setVm vm').setCell b Z).heap = H.setIfInBounds b Z := by rw [← hT]; rfl
  have oq : ∀ q : Nat, q ≠ b → (H.setIfInBounds b Z)[q]? = H[q]? := fun q hq => by simp [Array.getElem?_setIfInBounds, Ne.symm hq]
  obtain ⟨t, a1, b1⟩ := kk _ _ (fun q hq => by
    obtain ⟨z, -, hz⟩ := List.mem_map.mp hq
    rw [← hz]) (hR.put hbb (by simp) oq (ag_arr_cell (t := 1) (by decide) (by rw [hZ]; simp [Array.getElem?_setIfInBounds, hl]))) (by simp) oq _ hheap X'
  exact ⟨t, step t a1, b1⟩
end CPY
set_option maxRecDepth 100000 in
set_option maxHeartbeats 4000000 in
theorem g_cp (l : Launch) : gCp l := by
  intro p e R s m args below meth c D base y h0 res hy X pc idx nx x1 x2 L S h call K hchk hK hr
  obtain ⟨hd, hnx, hA⟩ := g_c0 (P := decode (gB y) pc = .ok (.invokestatic idx, 3)) (a := nx) (b := pc + 3) (A := decide ((gCn y, idx) ∈ gAC) && Nat.ble 1 (gF y) && Nat.ble 18 (gLo y)) hchk
  subst hnx
  rw [Bool.and_eq_true, Bool.and_eq_true] at hA
  have hac := of_decide_eq_true hA.1.1
  have hf1 := g_le hA.1.2
  have hl1 := g_le hA.2
  have hr : (match (generalizing := false) S with
        | [.inl n, .inl dp, .inr d, .inl sp, .inr s] => ag_cp h s sp d dp n fun h => K (pc + 3) L [] h
        | _ => none) = some res := hr
  split at hr
  · rename_i n dp d sp s9
    unfold ag_cp at hr
    obtain ⟨a, xs, rfl, ha, hr⟩ := g_at hr
    obtain ⟨b, ys, rfl, hb, hr⟩ := g_at hr
    split at hr
    · cases hr
    · rename_i hneg
      split at hr
      · rename_i hlen
        obtain ⟨hx, hbb, hml, hown, hts, hW, hlk, hxt, hnm, hret, htr, hfr, hlo, hbs⟩ := X
        have hk := hK _ _ _ _ hr
        refine ⟨fun H ls locs cells slots hp => ?_, hk.2⟩
        refine ag_w_copy hx hbb (by rw [hml]; exact hp.2.1.1.symm) hown (hts _ (gAC_ok _ hac)) (hts _ (gAC_ws _ (by simp))) (hts _ (gAC_ws _ (by simp))) (hts _ (gAC_ws _ (by simp))) hW.1 hp.1 ha hb (fun h9 => hneg (Or.inl h9)) (fun h9 => hneg (Or.inr (Or.inl h9))) (fun h9 => hneg (Or.inr (Or.inr h9))) hlen.1 hlen.2.1
          (fun i hi => List.all_eq_true.mp hlen.2.2 i (List.mem_range.mpr hi)) (by rw [hfr]; exact hf1) (by rw [hlo]; exact hl1) hd (fun H1 lc hlc r1 z1 o1 => hk.1 _ _ _ _ _ ⟨r1, hp.2.1, ?_, hp.2.2.2.1, hp.2.2.2.2⟩)
        have hS := hp.2.2.1
        have hbase := (hp.1.2 b _ hb).1
        exact ⟨by rw [z1]; exact hS.1, fun q g1 g2 => by
          rw [o1 q (fun e9 => g2 (by rw [e9]; exact hbase))]
          exact hS.2.1 q g1 g2, fun q hq => by
          rcases List.mem_append.mp hq with h9 | h9
          · exact hS.2.2 q h9
          · rw [hlc q h9]; exact hbase⟩
      · cases hr
  · cases hr
theorem g_mathR (d : Nat) : gMath (ag_run gT d) := by
  intro A h r hA
  cases d with
  | zero => exact ⟨fun h9 => (by cases h9), fun h9 => (by cases h9)⟩
  | succ d =>
    match A, hA with
    | [v, w], _ =>
      rcases v with x | o
      · rcases w with y | o
        · refine ⟨fun hr => ⟨x, y, rfl, ?_⟩, fun hr => ⟨x, y, rfl, ?_⟩⟩
          · rw [r175] at hr
            unfold f175 f175_10 at hr
            split at hr
            · rename_i h9; cases hr; rw [if_pos h9]
            · rename_i h9; cases hr; rw [if_neg h9]
          · rw [r176] at hr
            unfold f176 f176_10 at hr
            split at hr
            · rename_i h9; cases hr; rw [if_pos h9]
            · rename_i h9; cases hr; rw [if_neg h9]
        · refine ⟨fun hr => ?_, fun hr => ?_⟩
          · have hr : ag_out 1 (ag_run gT d) t175 4000 0 [some (.inl x), some (.inr o)] [] h = some r := hr
            rw [ag_out_top] at hr
            generalize ag_out 1 (ag_run gT d) t175 3999 = B at hr
            cases hr
          · have hr : ag_out 1 (ag_run gT d) t176 4000 0 [some (.inl x), some (.inr o)] [] h = some r := hr
            rw [ag_out_top] at hr
            generalize ag_out 1 (ag_run gT d) t176 3999 = B at hr
            cases hr
      · refine ⟨fun hr => ?_, fun hr => ?_⟩
        · have hr : ag_out 1 (ag_run gT d) t175 4000 0 [some (.inr o), some w] [] h = some r := hr
          rw [ag_out_top] at hr
          generalize ag_out 1 (ag_run gT d) t175 3999 = B at hr
          cases hr
        · have hr : ag_out 1 (ag_run gT d) t176 4000 0 [some (.inr o), some w] [] h = some r := hr
          rw [ag_out_top] at hr
          generalize ag_out 1 (ag_run gT d) t176 3999 = B at hr
          cases hr
/-- every run of the abstract machine is the machine's -/
theorem g_call {l : Launch} (htr : l.stackTraces = false) (D : ag_D) (base : Nat → Prop) : ∀ d : Nat, gCall l D base (ag_run gT d) := by
  intro d
  induction d with
  | zero => intro y A h r hr; cases hr
  | succ d ih => intro y A h r hr hy hA; exact ⟨g_body htr (g_cp l) hy (gPn y hy) (gk_all y hy) hA ih (g_mathR d) hr, m_run gT _ _ _ _ _ hr⟩

/-! THE LAW'S START: what the tables say of it -/
section START
variable {s : State} {b : Nat}
theorem lw_gw (hts : ∀ w ∈ lw_tbl, w.before #[Value.ref b] s = true) : ∀ w ∈ gw, w.before #[Value.ref b] s = true := fun w h => hts w (List.mem_filter.mp h).1
theorem ArrOfT_of {cA : ClassId} {kA : Class} {comp : ClassId} {ty : FieldType} (h2 : s.vm.classes[cA]? = some kA) (h3 : kA.kind = .array comp ty) : ArrOfT s cA ty := fun n z => ⟨fun k h => (by cases h), kA, h2, comp, h3⟩
set_option maxRecDepth 100000 in
set_option maxHeartbeats 4000000 in
theorem gXw_ok : ∀ w ∈ gXw, w ∈ lw_tbl := by decide +kernel
set_option maxRecDepth 100000 in
set_option maxHeartbeats 4000000 in
theorem gJ_ok : ∀ w ∈ ([.arrayClass .long, .laysStatic Bundle.tN "UNASSIGNED_STACK" Bundle.steD, .laysStatic Bundle.tN "SUPPRESSED_SENTINEL" Bundle.listD, .initialized Bundle.tN] : List Cond), w ∈ lw_tbl := by decide +kernel
theorem st_arr (hts : ∀ w ∈ lw_tbl, w.before #[Value.ref b] s = true) : ∀ t, t < 9 → ∃ cA, ArrOfT s cA (ag_ct t) ∧ va_RA s cA (ag_ct t) := by
  have prim : ∀ at9 : ArrayType, gArr at9 < 3 → ∃ cA, ArrOfT s cA (newarray.typeOf at9) ∧ s.vm.findClass ("[" ++ (newarray.typeOf at9).toString) = some cA := fun at9 h3 => by
    obtain ⟨-, g2⟩ := gArr_ok h3
    obtain ⟨c, k, comp, h1, h2, h4⟩ := Cond.arrayClass_spec (lw_gw hts _ g2)
    exact ⟨c, ArrOfT_of h2 h4, h1⟩
  have obj : ∀ q ∈ gAO, ∃ cA, ArrOfT s cA (.object (gR q)) ∧ va_RA s cA (.object (gR q)) := fun q hq => by
    obtain ⟨comp, c, k, h1, h2, h3, h4, h5⟩ := Cond.arrayOver_spec (hts _ (gAO_ok q hq))
    exact ⟨c, ArrOfT_of h3 h4, k, comp, h3, h4, h1, h5⟩
  intro t ht
  match t, ht with
  | 0, _ => exact prim .int (by decide)
  | 1, _ => exact prim .char (by decide)
  | 2, _ => exact prim .boolean (by decide)
  | 3, _ => exact obj 7 (by decide)
  | 4, _ => exact obj 2 (by decide)
  | 5, _ => exact obj 6 (by decide)
  | 6, _ => exact obj 9 (by decide)
  | 7, _ => exact obj 5 (by decide)
  | 8, _ => exact obj 3 (by decide)
theorem gW_start (hts : ∀ w ∈ lw_tbl, w.before #[Value.ref b] s = true) (hgv : (Jvm.Cond.and given_1 narrow_1).before #[Value.ref b] s = true) : ∃ D : ag_D, gW D (fun q => s.heap.size ≤ q) s := by
  have hgw := lw_gw hts
  have hA : ∀ a : Nat, a < s.heap.size → ¬ (fun q => s.heap.size ≤ q) a := fun a h1 h2 => Nat.lt_irrefl _ (Nat.lt_of_lt_of_le h1 h2)
  have hcl : ∀ ci, ∃ (q : ClassId × (Nat → Nat)), ci < 12 → u_Kn s (gR ci) (gTT ci) (gNf ci) q.1 q.2 := fun ci => by
    by_cases h : ci < 12
    · obtain ⟨-, f2, -⟩ := gFds ci h
      have hm : ci ∈ gIs := by
        have : ∀ k, k < 12 → k ∈ gIs := by decide
        exact this ci h
      obtain ⟨cC, iS, hk⟩ := u_known hgw f2 (hgw _ (gIs_ok ci hm))
      exact ⟨(cC, iS), fun _ => hk⟩
    · exact ⟨(0, fun _ => 0), fun h9 => absurd h9 h⟩
  have har : ∀ t, ∃ cA : ClassId, t < 9 → ArrOfT s cA (ag_ct t) ∧ va_RA s cA (ag_ct t) := fun t => by
    by_cases h : t < 9
    · obtain ⟨cA, h1⟩ := st_arr hts t h
      exact ⟨cA, fun _ => h1⟩
    · exact ⟨0, fun h9 => absurd h9 h⟩
  obtain ⟨f, hf⟩ := Classical.axiomOfChoice hcl
  obtain ⟨g, hg⟩ := Classical.axiomOfChoice har
  have hsf := flat_of_before _ hgv
  refine ⟨(fun ci => (f ci).1, fun ci => (f ci).2, g), ⟨fun ci q hq => ?_, fun k q hq => ?_⟩, fun q hq => va_Nw.of rfl (hts _ (gMN_ok q hq)), fun q hq => hts _ (gAO_ok q hq), fun q hq => ?_, ?_, ?_, fun w hw => ?_⟩
  · have hlt : ci < 12 := by
      have := (List.getElem?_eq_some_iff.mp hq).1
      exact this
    obtain ⟨f1, -⟩ := gFds ci hlt
    rw [f1] at hq
    cases hq
    exact hf ci hlt
  · have hlt : k < 9 := by
      have := (List.getElem?_eq_some_iff.mp hq).1
      simpa [ag_tys] using this
    have e : q = (g k, ag_ct k) := by
      have h1 : (ag_tys (fun ci => (f ci).1, fun ci => (f ci).2, g))[k]? = some (g k, ag_ct k) := by
        unfold ag_tys
        rw [List.getElem?_map, List.getElem?_range hlt]
        rfl
      exact Option.some.inj (hq.symm.trans h1)
    rw [e]
    exact hg k hlt
  · have h1 := hts _ (gStL_ok q hq)
    have h2 : ∃ cur, s.vm.findClass (gR q.1) = some cur := by
      have hm : q.1 = 10 := by
        have : ∀ q ∈ gStL, q.1 = 10 := by decide
        exact this q hq
      rw [hm]
      exact ⟨_, (hf 10 (by decide)).2.1⟩
    obtain ⟨cur, hcur⟩ := h2
    obtain ⟨k, cf, i, a, -, -, -, -, -, hev⟩ := Cond.stringRef_spec hcur h1
    exact ⟨a, h1, hev⟩
  · exact vx_Zqof (hts _ (gJ_ok _ (by simp))) (hts _ (gJ_ok _ (by simp))) (hsf _ (by decide +kernel)) hA
  · exact vx_Zqof (hts _ (gJ_ok _ (by simp))) (hts _ (gJ_ok _ (by simp))) (hsf _ (by decide +kernel)) hA
  · have h1 := hts _ (gXw_ok w hw)
    have h2 : w.onTables = true := by
      have : ∀ w ∈ gXw, w.onTables = true := by decide +kernel
      exact this w hw
    exact va_Nw.of h2 h1
end START

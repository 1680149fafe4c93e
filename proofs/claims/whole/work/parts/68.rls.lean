/-! THE REFERENCE: lists of files -/
def qI (s : Nat) (o : Option Nat) : Int32 := match o with
  | none => -1
  | some i => nI (300 * s + i)
theorem find_filter {α : Type} (p q : α → Bool) : ∀ l : List α, (l.filter p).find? q = l.find? fun x => p x && q x := by
  intro l
  induction l with
  | nil => rfl
  | cons a l ih =>
    rw [List.filter_cons, List.find?_cons]
    cases hp9 : p a
    · rw [if_neg (by simp), ih]; simp
    · rw [if_pos rfl, List.find?_cons, ih]
      simp
section RLS
variable {A : zA} {M M' : Nat → Nat → Int32} {h : ag_H} {d s x i : Nat} {V : Nat → zV}
theorem pJ_eq {f : zF} {g : Nat} (hf : ∀ p, f.2.2.2.1 = some p → p < 300) (hs : s < 2) (hg : g < 300) : pJ s f = nI (300 * s + g) ↔ f.2.2.2.1 = some g := by
  unfold pJ
  cases hp9 : f.2.2.2.1 with
  | none =>
    refine ⟨fun h => ?_, fun h => by cases h⟩
    exact absurd h.symm (nI_m1 (by omega))
  | some p =>
    have := hf p hp9
    show nI (300 * s + p) = _ ↔ _
    rw [nI_eq (by omega) (by omega)]
    exact ⟨fun h => by rw [show p = g by omega], fun h => by cases h; rfl⟩
theorem lI_eq {f : zF} {c g : Nat} (hp9 : f.2.2.2.1 = some g) (hl : f.2.2.1 < 8) (hc : c < 8) : lI f = nI c ↔ f.2.2.1 = c := by
  unfold lI
  rw [hp9]
  show nI f.2.2.1 = nI c ↔ _
  rw [nI_eq (by omega) (by omega)]
theorem t124_7 (hT : TA A M h) (hV : RV V M) (hs : s < 2) (hw : VW (V s)) {g c : Nat} (hg : g < 300) (hc : c < 8) : ∀ (m k n : Nat), k + m = (V s).1 → g124 (ag_run gT d) (n + m + 1) (some 230) (nI s) (nI (300 * s + g)) (nI c) (nI (300 * s + k)) h = some (.inl (some (.inl (qI s ((List.range' k m).find? fun i => ((V s).2.1 i).1 && (decide (((V s).2.1 i).2.2.2.1 = some g) && Nat.beq ((V s).2.1 i).2.2.1 c))))), h) := by
  have h250 := hw.2.1
  have hnx := (hV s hs).1
  intro m
  induction m with
  | zero =>
    intro k n hk
    show f124_7 _ _ _ _ _ _ _ _ = _
    unfold f124_7
    rw [hT.rR (k := 6) (b := 234) rfl rfl, hT.rx (a := 234) (c := 100) (i := s) rfl hs, hnx, lit16_300, nI_mul, nI_add, if_pos (nI_le (by omega) (by omega)), lit_m]
    rfl
  | succ m ih =>
    intro k n hk
    obtain ⟨f1, f2, f3, f4, -⟩ := (hV s hs).2.2.1 k (by omega)
    have wf := hw.2.2.2.2.2.1 k (by omega)
    rw [show n + (m + 1) + 1 = (n + m + 1) + 1 by omega, List.range'_succ, List.find?_cons]
    show f124_7 _ _ _ _ _ _ _ _ = _
    unfold f124_7 f124_59
    have ihk := ih (k + 1) n (by omega)
    rw [hT.rR (k := 6) (b := 234) rfl rfl, hT.rx (a := 234) (c := 100) (i := s) rfl hs, hnx, lit16_300, nI_mul, nI_add, if_neg (nI_ge (by omega) (by omega)), hT.rR (k := 7) (b := 235) rfl rfl, hT.rx (a := 235) (c := 102) (i := 300 * s + k) rfl (show 300 * s + k < 600 by omega), f1, lit_0, lit_1, nI_add, show 300 * s + k + 1 = 300 * s + (k + 1) by omega]
    cases h1 : ((V s).2.1 k).1
    · rw [if_pos (show bI false = nI 0 from rfl)]
      exact ihk
    · rw [if_neg (show ¬ bI true = nI 0 by decide), hT.rR (k := 10) (b := 238) rfl rfl, hT.rx (a := 238) (c := 100) (i := 300 * s + k) rfl (show 300 * s + k < 600 by omega), f4]
      by_cases e1 : ((V s).2.1 k).2.2.2.1 = some g
      · rw [if_pos ((pJ_eq wf.2.1 hs hg).mpr e1), hT.rR (k := 9) (b := 237) rfl rfl, hT.rx (a := 237) (c := 100) (i := 300 * s + k) rfl (show 300 * s + k < 600 by omega), f3]
        by_cases e2 : ((V s).2.1 k).2.2.1 = c
        · rw [if_pos ((lI_eq e1 wf.1 hc).mpr e2)]
          have : (true && (decide (((V s).2.1 k).2.2.2.1 = some g) && Nat.beq ((V s).2.1 k).2.2.1 c)) = true := by
            rw [decide_eq_true e1, e2]; simp
          rw [this]; rfl
        · rw [if_neg (fun h9 => e2 ((lI_eq e1 wf.1 hc).mp h9))]
          have : (true && (decide (((V s).2.1 k).2.2.2.1 = some g) && Nat.beq ((V s).2.1 k).2.2.1 c)) = false := by
            rw [decide_eq_true e1, Bool.true_and, Bool.true_and]
            cases hb : Nat.beq ((V s).2.1 k).2.2.1 c
            · rfl
            · exact absurd (Nat.eq_of_beq_eq_true hb) e2
          rw [this]; exact ihk
      · rw [if_neg (fun h9 => e1 ((pJ_eq wf.2.1 hs hg).mp h9))]
        have : (true && (decide (((V s).2.1 k).2.2.2.1 = some g) && Nat.beq ((V s).2.1 k).2.2.1 c)) = false := by
          rw [decide_eq_false e1]; rfl
        rw [this]; exact ihk
theorem TA.t124 (hT : TA A M h) (hV : RV V M) (hs : s < 2) (hw : VW (V s)) {g c : Nat} (hg : g < 300) (hc : c < 8) : ag_run gT (d + 1) 124 [.inr (some 230), .inl (nI s), .inl (nI (300 * s + g)), .inl (nI c)] h = some (.inl (some (.inl (qI s (vin (V s) g c)))), h) := by
  have h250 := hw.2.1
  have := t124_7 (d := d) hT hV hs hw hg hc (V s).1 0 (3999 - (V s).1) (by omega)
  rw [r124]
  unfold f124
  rw [lit16_300, nI_mul]
  rw [show 3999 - (V s).1 + (V s).1 + 1 = 4000 by omega, Nat.add_zero, ← List.range_eq_range'] at this
  refine Eq.trans this ?_
  unfold vin vlv
  rw [find_filter]
theorem t127_8 (hT : TA A M h) (hV : RV V M) (hs : s < 2) (hw : VW (V s)) : ∀ (m k n u : Nat), k + m = (V s).1 → g127 (ag_run gT d) (n + m + 1) (some 230) (nI s) (nI u) (nI (300 * s + k)) h = some (.inl (some (.inl (nI (u + ((List.range' k m).filter fun i => ((V s).2.1 i).1).length)))), h) := by
  have h250 := hw.2.1
  have hnx := (hV s hs).1
  intro m
  induction m with
  | zero =>
    intro k n u hk
    show f127_8 _ _ _ _ _ _ _ = _
    unfold f127_8
    rw [hT.rR (k := 6) (b := 234) rfl rfl, hT.rx (a := 234) (c := 100) (i := s) rfl hs, hnx, lit16_300, nI_mul, nI_add, if_pos (nI_le (by omega) (by omega))]
    rfl
  | succ m ih =>
    intro k n u hk
    obtain ⟨f1, -⟩ := (hV s hs).2.2.1 k (by omega)
    rw [show n + (m + 1) + 1 = (n + m + 1) + 1 by omega, List.range'_succ, List.filter_cons]
    show f127_8 _ _ _ _ _ _ _ = _
    unfold f127_8 f127_40
    rw [hT.rR (k := 6) (b := 234) rfl rfl, hT.rx (a := 234) (c := 100) (i := s) rfl hs, hnx, lit16_300, nI_mul, nI_add, if_neg (nI_ge (by omega) (by omega)), hT.rR (k := 7) (b := 235) rfl rfl, hT.rx (a := 235) (c := 102) (i := 300 * s + k) rfl (show 300 * s + k < 600 by omega), f1, lit_0, lit_1, nI_add, nI_add, show 300 * s + k + 1 = 300 * s + (k + 1) by omega]
    cases h1 : ((V s).2.1 k).1
    · rw [if_pos (show bI false = nI 0 from rfl)]
      exact ih (k + 1) n u (by omega)
    · rw [if_neg (show ¬ bI true = nI 0 by decide)]
      have := ih (k + 1) n (u + 1) (by omega)
      rw [show u + 1 + ((List.range' (k + 1) m).filter fun i => ((V s).2.1 i).1).length = u + (((List.range' (k + 1) m).filter fun i => ((V s).2.1 i).1).length + 1) by omega] at this
      exact this
theorem TA.t127 (hT : TA A M h) (hV : RV V M) (hs : s < 2) (hw : VW (V s)) : ag_run gT (d + 1) 127 [.inr (some 230), .inl (nI s)] h = some (.inl (some (.inl (nI (vlv (V s)).length))), h) := by
  have h250 := hw.2.1
  have := t127_8 (d := d) hT hV hs hw (V s).1 0 (3999 - (V s).1) 0 (by omega)
  rw [r127]
  unfold f127
  rw [lit16_300, nI_mul, lit_0]
  rw [show 3999 - (V s).1 + (V s).1 + 1 = 4000 by omega, Nat.add_zero, Nat.zero_add, ← List.range_eq_range'] at this
  exact this
theorem t129_10 (hT : TA A M h) (hV : RV V M) (hs : s < 2) (hw : VW (V s)) {g : Nat} (hg : g < 300) : ∀ (m k n q : Nat), k + m = (V s).1 → q < 2 ^ 30 → g129 (ag_run gT d) (n + m + 1) (some 230) (nI s) (nI (300 * s + g)) (nI q) (nI (300 * s + k)) h = some (.inl (some (.inl (match (((List.range' k m).filter fun i => ((V s).2.1 i).1).filter fun i => decide (((V s).2.1 i).2.2.2.1 = some g))[q]? with
      | some x => nI (97 + ((V s).2.1 x).2.2.1)
      | none => -1))), h) := by
  have h250 := hw.2.1
  have hnx := (hV s hs).1
  intro m
  induction m with
  | zero =>
    intro k n q hk hq
    show f129_10 _ _ _ _ _ _ _ _ = _
    unfold f129_10
    rw [hT.rR (k := 6) (b := 234) rfl rfl, hT.rx (a := 234) (c := 100) (i := s) rfl hs, hnx, lit16_300, nI_mul, nI_add, if_pos (nI_le (by omega) (by omega)), lit_m]
    rfl
  | succ m ih =>
    intro k n q hk hq
    obtain ⟨f1, f2, f3, f4, -⟩ := (hV s hs).2.2.1 k (by omega)
    have wf := hw.2.2.2.2.2.1 k (by omega)
    rw [show n + (m + 1) + 1 = (n + m + 1) + 1 by omega, List.range'_succ, List.filter_cons]
    show f129_10 _ _ _ _ _ _ _ _ = _
    unfold f129_10 f129_67
    rw [hT.rR (k := 6) (b := 234) rfl rfl, hT.rx (a := 234) (c := 100) (i := s) rfl hs, hnx, lit16_300, nI_mul, nI_add, if_neg (nI_ge (by omega) (by omega)), hT.rR (k := 7) (b := 235) rfl rfl, hT.rx (a := 235) (c := 102) (i := 300 * s + k) rfl (show 300 * s + k < 600 by omega), f1, lit_0, lit_1, nI_add, show 300 * s + k + 1 = 300 * s + (k + 1) by omega]
    cases h1 : ((V s).2.1 k).1
    · rw [if_pos (show bI false = nI 0 from rfl)]
      exact ih (k + 1) n q (by omega) hq
    · rw [if_neg (show ¬ bI true = nI 0 by decide), if_pos rfl, List.filter_cons, hT.rR (k := 10) (b := 238) rfl rfl, hT.rx (a := 238) (c := 100) (i := 300 * s + k) rfl (show 300 * s + k < 600 by omega), f4]
      by_cases e1 : ((V s).2.1 k).2.2.2.1 = some g
      · rw [if_pos ((pJ_eq wf.2.1 hs hg).mpr e1), if_pos (decide_eq_true e1)]
        cases q with
        | zero =>
          rw [if_pos rfl, hT.rR (k := 9) (b := 237) rfl rfl, hT.rx (a := 237) (c := 100) (i := 300 * s + k) rfl (show 300 * s + k < 600 by omega), f3, lit8_97]
          have : lI ((V s).2.1 k) = nI ((V s).2.1 k).2.2.1 := by unfold lI; rw [e1]
          rw [this, nI_add]
          rfl
        | succ q =>
          rw [if_neg (by rw [nI_eq (by omega) (by omega)]; omega), lit_m, nI_dec, List.getElem?_cons_succ]
          exact ih (k + 1) n q (by omega) (by omega)
      · rw [if_neg (fun h9 => e1 ((pJ_eq wf.2.1 hs hg).mp h9)), if_neg (by simpa using e1)]
        exact ih (k + 1) n q (by omega) hq
theorem TA.t129 (hT : TA A M h) (hV : RV V M) (hs : s < 2) (hw : VW (V s)) {g q : Nat} (hg : g < 300) (hq : q < 2 ^ 30) : ag_run gT (d + 1) 129 [.inr (some 230), .inl (nI s), .inl (nI (300 * s + g)), .inl (nI q)] h = some (.inl (some (.inl (pI ((vls (V s) g q).map fun l => 97 + l)))), h) := by
  have h250 := hw.2.1
  have := t129_10 (d := d) hT hV hs hw hg (V s).1 0 (3999 - (V s).1) q (by omega) hq
  rw [r129]
  unfold f129
  rw [lit16_300, nI_mul]
  rw [show 3999 - (V s).1 + (V s).1 + 1 = 4000 by omega, Nat.add_zero, ← List.range_eq_range'] at this
  refine Eq.trans this ?_
  unfold vls vlv
  cases ((((List.range (V s).1).filter fun i => ((V s).2.1 i).1).filter fun i => decide (((V s).2.1 i).2.2.2.1 = some g))[q]?) <;> rfl
end RLS

/-! THE REFERENCE'S METHODS: wire, server, process -/
section RINF
variable {A : zA} {M M' M1 : Nat → Nat → Int32} {h : ag_H} {d s x i p f j o w k : Nat} {S S' : zS} {P : Nat → List zP} {Q : Nat → Option Nat} {O : Nat → Nat → zU} {F L G : List (Nat × Nat)} {W : zW} {X : List Nat × List Nat}
theorem t172_29 (hT : TA A M h) {b : Bool} {t : Int32} {pl : List Int32} (hG : GM M (bif b then 245 else 244) (bif b then 19 else 17) t pl) (hl : pl.length ≤ 13) (x : Int32) : f172_29 (ag_run gT (d + 1)) (some 230) (bI b) x (nI (7 + pl.length)) h = some (.inl (some (.inl (wbl (msg t pl) x))), h) := by
  have hm : (msg t pl).length = 7 + pl.length := by unfold msg; simp; omega
  have h3 := hG.2.2
  unfold f172_29 f172_59 f172_82 wbl wb
  rw [out3, b_I, lit_0, lit_1, lit_m, hm]
  rw [show bI (decide (bI b < nI 0 ∨ ¬ bI b ≤ nI 1)) = nI 0 by cases b <;> decide, if_pos rfl]
  by_cases e1 : x = -1
  · rw [if_pos e1, if_pos e1]
  · rw [if_neg e1, if_neg e1]
    by_cases e2 : x < nI 0
    · rw [if_pos e2, if_pos (show x < 0 from e2)]
    · rw [if_neg e2, if_neg (show ¬ x < 0 from e2)]
      obtain ⟨n, hn1, rfl⟩ := nI_of (show ¬ x < 0 from e2)
      rcases Nat.lt_or_ge n (7 + pl.length) with e3 | e3
      · rw [if_pos (by rw [nI_ltI hn1 (by omega)]; exact e3), if_neg (nI_ge e3 (by omega)), nI_clamp hn1, ← h3 n e3]
        cases b
        · rw [if_pos (show bI false = nI 0 from rfl), hT.rR (k := 16) (b := 244) rfl rfl, hT.rx (a := 244) (c := 100) (i := n) rfl (show n < 40 by omega)]; rfl
        · rw [if_neg (show ¬ bI true = nI 0 by decide), hT.rR (k := 18) (b := 245) rfl rfl, hT.rx (a := 245) (c := 100) (i := n) rfl (show n < 24 by omega)]; rfl
      · rw [if_neg (by rw [nI_ltI hn1 (by omega)]; omega), if_pos (nI_le e3 hn1)]
theorem TA.t172 (hT : TA A M h) (hR : RR S P Q O X M) (hB : OB O) (h1 : S.2.2.2.1.length ≤ 13) (h2 : S.2.2.2.2.2.length ≤ 13) (v x : Int32) : ∃ h' M', ag_run gT (d + 7) 172 [.inr (some 230), .inl v, .inl x] h = some (.inl (some (.inl (wrV S v x))), h') ∧ TA A M' h' ∧ RR S P Q O X M' ∧ M' 230 41 = nI 0 := by
  have T1 := hT.thr1 0
  have R1 := hR.z hB (FZ.up (M := M) (k := 41) (v := nI 0) (by decide))
  refine ⟨_, _, ?_, T1, R1, up2_eq _ _ _ _⟩
  rw [r172]
  unfold f172 wrV
  rw [lit_0, lit_1, hT.wI (k := 41) rfl]
  by_cases e1 : v = nI 0
  · subst e1
    rw [if_pos rfl, if_pos rfl, T1.rI (k := 17) rfl, R1.2.1.1.1]
    exact t172_29 (d := d + 5) (b := false) T1 R1.2.1.1 h1 x
  · rw [if_neg e1, if_neg e1]
    by_cases e2 : v = nI 1
    · subst e2
      rw [if_pos rfl, if_pos rfl, T1.rI (k := 19) rfl, R1.2.1.2.1]
      exact t172_29 (d := d + 5) (b := true) T1 R1.2.1.2 h2 x
    · rw [if_neg e2, if_neg e2]
      have hn : noS v := fun s hs => by
        have : s = 0 ∨ s = 1 := by omega
        rcases this with rfl | rfl <;> assumption
      unfold f172_29
      rw [out3, b_I, lit_0, lit_1, lit_m, noS_out hn, if_neg (show ¬ bI true = nI 0 by decide)]
/-- handles in use -/
theorem t173_c (hT : TA A M h) (hV : RV S.1 M) (hs : s < 2) (hw : VW (S.1 s)) {w' : Int32} : ∀ (m k n u : Nat), k + m = 200 → ∃ N, N + m = n + m ∧ g173 (ag_run gT d) (n + m + 1) (some 230) (nI s) w' (nI u) (nI k) h = g173 (ag_run gT d) (N + 1) (some 230) (nI s) w' (nI (u + ((List.range' k m).filter fun x => ((S.1 s).2.2.1 x).isSome).length)) (nI 200) h := by
  intro m
  induction m with
  | zero =>
    intro k n u hk
    obtain rfl : k = 200 := by omega
    exact ⟨n, rfl, rfl⟩
  | succ m ih =>
    intro k n u hk
    have hst := (hV s hs).2.2.2.2 k (by omega)
    have step : g173 (ag_run gT d) (n + (m + 1) + 1) (some 230) (nI s) w' (nI u) (nI k) h = g173 (ag_run gT d) (n + m + 1) (some 230) (nI s) w' (nI (u + if ((S.1 s).2.2.1 k).isSome then 1 else 0)) (nI (k + 1)) h := by
      rw [show n + (m + 1) + 1 = (n + m + 1) + 1 by omega]
      show f173_21 _ _ _ _ _ _ _ _ = _
      unfold f173_21 f173_52
      rw [lit16_200, lit_0, lit_1, if_neg (nI_ge (by omega) (by omega)), hT.rR (k := 14) (b := 242) rfl rfl, nI_mul, nI_add, hT.rx (a := 242) (c := 100) (i := 200 * s + k) rfl (show 200 * s + k < 400 by omega), hst, nI_add, nI_add]
      cases hb : (S.1 s).2.2.1 k with
      | none => rfl
      | some g =>
        have hg := hw.2.2.2.1 k g hb
        have hg2 := hw.2.1
        rw [if_neg (show ¬ nI (sN (some g)) = nI 0 from (show ¬ nI (g + 1) = nI 0 by rw [nI_eq (by omega) (by omega)]; omega))]
        rfl
    obtain ⟨N, e1, e2⟩ := ih (k + 1) n (u + if ((S.1 s).2.2.1 k).isSome then 1 else 0) (by omega)
    refine ⟨N, by omega, ?_⟩
    rw [step, e2, List.range'_succ, List.filter_cons]
    cases hb : ((S.1 s).2.2.1 k).isSome
    · rfl
    · rw [if_pos rfl, if_pos rfl, List.length_cons, Nat.add_assoc, Nat.add_comm 1]
theorem vus200 {V : zV} (hw : VW V) : ((List.range' 0 200).filter fun x => (V.2.2.1 x).isSome).length = vus V := by
  have e : List.range' 0 200 = List.range 128 ++ List.range' 128 72 := by
    rw [List.range_eq_range']
    exact (List.range'_append (s := 0) (m := 128) (n := 72) (step := 1)).symm
  have z : (List.range' 128 72).filter (fun x => (V.2.2.1 x).isSome) = [] := by
    rw [List.filter_eq_nil_iff]
    intro a ha
    have := (List.mem_range'_1.mp ha).1
    rw [hw.2.2.2.2.1 a this]
    simp
  rw [e, List.filter_append, z, List.append_nil]
  rfl
theorem t173_g (hT : TA A M h) (hV : RV S.1 M) (hs : s < 2) (hw : VW (S.1 s)) {w' : Int32} {n N : Nat} (hn : N + 200 = n) : f173_21 (ag_run gT (d + 1)) (g173 (ag_run gT (d + 1)) n) (some 230) (nI s) w' (nI 0) (nI 0) h = some (.inl (some (.inl (svV S (nI s) w'))), h) := by
  subst hn
  have h01 : nI s = nI 0 ∨ nI s = nI 1 := by
    have : s = 0 ∨ s = 1 := by omega
    rcases this with rfl | rfl
    · exact Or.inl rfl
    · exact Or.inr rfl
  obtain ⟨N', e1, e2⟩ := t173_c (d := d + 1) (w' := w') hT hV hs hw 200 0 N 0 rfl
  rw [Nat.zero_add, vus200 hw] at e2
  have e2 : f173_21 (ag_run gT (d + 1)) (g173 (ag_run gT (d + 1)) (N + 200)) (some 230) (nI s) w' (nI 0) (nI 0) h = f173_21 (ag_run gT (d + 1)) (g173 (ag_run gT (d + 1)) N') (some 230) (nI s) w' (nI (vus (S.1 s))) (nI 200) h := e2
  rw [e2]
  unfold f173_21 f173_109 svV
  rw [lit16_200, if_pos (nI_le (by omega) (by omega)), if_pos h01, nI_clamp (by omega), lit_0, lit_1, lit_2, lit_3, lit_m, hT.rR (k := 15) (b := 243) rfl rfl, hT.rx (a := 243) (c := 100) (i := s) rfl (show s < 2 from hs), (hV s hs).2.1, hT.ra, hT.t127 (d := d) hV hs hw, b_I, hT.rR (k := 6) (b := 234) rfl rfl, hT.rx (a := 234) (c := 100) (i := s) rfl (show s < 2 from hs), (hV s hs).1]
  by_cases h0 : w' = nI 0
  · rw [if_pos h0, if_pos h0]
  · rw [if_neg h0, if_neg h0]
    by_cases h1 : w' = nI 1
    · rw [if_pos h1, if_pos h1]
    · rw [if_neg h1, if_neg h1]
      by_cases h2 : w' = nI 2
      · rw [if_pos h2, if_pos h2]
      · rw [if_neg h2, if_neg h2]
        by_cases h3 : w' = nI 3
        · rw [if_pos h3, if_pos h3]
        · rw [if_neg h3, if_neg h3]
theorem TA.t173 (hT : TA A M h) (hR : RR S P Q O X M) (hB : OB O) (hw : ∀ s, s < 2 → VW (S.1 s)) (v x : Int32) : ∃ h' M', ag_run gT (d + 7) 173 [.inr (some 230), .inl v, .inl x] h = some (.inl (some (.inl (svV S v x))), h') ∧ TA A M' h' ∧ RR S P Q O X M' ∧ M' 230 41 = nI 0 := by
  have T1 := hT.thr1 0
  have R1 := hR.z hB (FZ.up (M := M) (k := 41) (v := nI 0) (by decide))
  refine ⟨_, _, ?_, T1, R1, up2_eq _ _ _ _⟩
  rw [r173]
  unfold f173
  rw [lit_0, lit_1, lit_m, hT.wI (k := 41) rfl, out3, b_I]
  rcases S_or v with ⟨s, hs⟩ | hn
  · rw [isS_out hs, if_pos (show bI false = nI 0 from rfl)]
    obtain ⟨hs, rfl⟩ := hs
    exact t173_g (d := d + 5) (n := 3999) (N := 3799) T1 R1.1 hs (hw s hs) (by decide)
  · rw [noS_out hn, if_neg (show ¬ bI true = nI 0 by decide)]
    unfold svV
    rw [if_neg (fun h => h.elim (hn 0 (by decide)) (hn 1 (by decide)))]
/-- what a process has -/
theorem pmem_drop {ps : List zP} (hk : k < ps.length) : pmem (ps.drop k) = (ps.getD k dP).2.length + pmem (ps.drop (k + 1)) := by
  rw [List.drop_eq_getElem_cons hk]
  have : ps.getD k dP = ps[k] := by simp [List.getD_eq_getElem?_getD, hk]
  rw [this]
  unfold pmem
  rw [List.map_cons, List.sum_cons]
theorem t174_41 (hT : TA A M h) (hR : RR S P Q O X M) (hB : OB O) (hPB : PB P) (hp4 : p < 4) (hq : Q p = some j) {n : Nat} (hn : n < 4) {y : zY} (hy1 : y.1 = P) (hy2 : y.2.1 = O) : ∀ (m k N u : Nat), k + m = (P j).length → u + pmem ((P j).drop k) = pmem (P j) → u < 1000 - 3 * m → g174 (ag_run gT (d + 1)) (N + m + 1) (some 230) (nI p) (nI n) (nI u) (nI k) h = some (.inl (some (.inl (prV Q y p n))), h) := by
  obtain ⟨q1, q2⟩ := (hR.2.2.2.1 p hp4).2 j hq
  obtain ⟨b1, b2⟩ := hPB j q2
  obtain ⟨p1, p2⟩ := hR.2.2.1 j q2
  have e146 := hT.t146 (d := d) hR.2.2.2.2.1 hB hp4
  intro m
  induction m with
  | zero =>
    intro k N u hk hu hu2
    show f174_41 (ag_run gT (d + 1)) (g174 (ag_run gT (d + 1)) N) (some 230) (nI p) (nI n) (nI u) (nI k) h = _
    unfold f174_41 f174_123
    rw [hT.rR (k := 22) (b := 246) rfl rfl, hT.rR (k := 30) (b := 254) rfl rfl, hT.rx (a := 254) (c := 100) (i := p) rfl (show p < 4 from hp4), q1, hT.rx (a := 246) (c := 100) (i := j) rfl (show j < 4 from q2), p1, if_pos (nI_le (by omega) (by omega)), hT.ra, e146, b_I, hT.rR (k := 22) (b := 246) rfl rfl, hT.rR (k := 30) (b := 254) rfl rfl, hT.rx (a := 254) (c := 100) (i := p) rfl (show p < 4 from hp4), q1, hT.rx (a := 246) (c := 100) (i := j) rfl (show j < 4 from q2), p1, lit_0, lit_1, lit_2]
    rw [List.drop_eq_nil_of_le (by omega)] at hu
    have hu : u = pmem (P j) := hu
    unfold prV
    rw [hq, hy1, hy2, hu]
    have : n = 0 ∨ n = 1 ∨ n = 2 ∨ n = 3 := by omega
    rcases this with rfl | rfl | rfl | rfl <;> rfl
  | succ m ih =>
    intro k N u hk hu hu2
    have hkl : k < (P j).length := by omega
    have h3 := (b2 _ (getD_memP hkl)).2.2.1
    rw [pmem_drop hkl] at hu
    rw [show N + (m + 1) + 1 = (N + m + 1) + 1 by omega]
    show f174_41 (ag_run gT (d + 1)) (g174 (ag_run gT (d + 1)) (N + m + 1)) (some 230) (nI p) (nI n) (nI u) (nI k) h = _
    unfold f174_41
    rw [hT.rR (k := 22) (b := 246) rfl rfl, hT.rR (k := 30) (b := 254) rfl rfl, hT.rx (a := 254) (c := 100) (i := p) rfl (show p < 4 from hp4), q1, hT.rx (a := 246) (c := 100) (i := j) rfl (show j < 4 from q2), p1, if_neg (nI_ge (by omega) (by omega)), hT.rR (k := 25) (b := 249) rfl rfl, hT.rR (k := 30) (b := 254) rfl rfl, hT.rx (a := 254) (c := 100) (i := p) rfl (show p < 4 from hp4), q1, lit_4, lit_1, nI_mul, nI_add, nI_add, hT.rx (a := 249) (c := 100) (i := 4 * j + k) rfl (show 4 * j + k < 16 by omega), (p2 k hkl).2.2.1, nI_add]
    exact ih (k + 1) N (u + ((P j).getD k dP).2.length) (by omega) (by omega) (by omega)
theorem is4_out (hp4 : p < 4) : decide (nI p < nI 0 ∨ ¬ nI p ≤ nI 3) = false := by
  refine decide_eq_false ?_
  rintro (h | h)
  · exact nI_nlt (by omega) (by omega) h
  · exact h (nI_le (by omega) (by omega))
theorem no4_out {v : Int32} (hn : ∀ p, p < 4 → v ≠ nI p) : decide (v < nI 0 ∨ ¬ v ≤ nI 3) = true := by
  refine decide_eq_true ?_
  by_cases h1 : v < nI 0
  · exact Or.inl h1
  · refine Or.inr fun h2 => ?_
    obtain ⟨n, hn1, rfl⟩ := nI_of (show ¬ v < 0 from h1)
    exact hn n (by have := (nI_leI hn1 (by omega)).mp h2; omega) rfl
theorem or4 (v : Int32) : (∃ p, p < 4 ∧ v = nI p) ∨ ∀ p, p < 4 → v ≠ nI p := by
  by_cases h : ∃ p, p < 4 ∧ v = nI p
  · exact Or.inl h
  · exact Or.inr fun p hp9 e => h ⟨p, hp9, e⟩
theorem TA.t174n (hT : TA A M h) (hR : RR S P Q O X M) (hB : OB O) {v x : Int32} (hn : (∀ p, p < 4 → v ≠ nI p) ∨ ∀ n, n < 4 → x ≠ nI n) : ∃ h' M', ag_run gT (d + 7) 174 [.inr (some 230), .inl v, .inl x] h = some (.inl (some (.inl (-1))), h') ∧ TA A M' h' ∧ RR S P Q O X M' ∧ M' 230 41 = nI 0 := by
  have T1 := hT.thr1 0
  have R1 := hR.z hB (FZ.up (M := M) (k := 41) (v := nI 0) (by decide))
  refine ⟨_, _, ?_, T1, R1, up2_eq _ _ _ _⟩
  rw [r174]
  unfold f174 f174_23
  rw [lit_0, lit_3, lit_m, hT.wI (k := 41) rfl, out3, b_I]
  rcases or4 v with ⟨p, hp4, rfl⟩ | h1
  · rw [is4_out hp4, if_pos (show bI false = nI 0 from rfl), out3, b_I, no4_out (hn.resolve_left fun h => h p hp4 rfl), if_neg (show ¬ bI true = nI 0 by decide)]
  · rw [no4_out h1, if_neg (show ¬ bI true = nI 0 by decide)]
theorem t174_g (hT : TA A M h) (hR : RR S P Q O X M) (hB : OB O) (hPB : PB P) (hp4 : p < 4) (hq : Q p = some j) {n : Nat} (hn : n < 4) {y : zY} (hy1 : y.1 = P) (hy2 : y.2.1 = O) {N : Nat} (hN : 4 ≤ N) : f174_41 (ag_run gT (d + 1)) (g174 (ag_run gT (d + 1)) N) (some 230) (nI p) (nI n) (nI 0) (nI 0) h = some (.inl (some (.inl (prV Q y p n))), h) := by
  have b1 := (hPB j ((hR.2.2.2.1 p hp4).2 j hq).2).1
  obtain ⟨K, rfl⟩ : ∃ K, N = K + (P j).length := ⟨N - (P j).length, by omega⟩
  exact t174_41 (d := d) hT hR hB hPB hp4 hq hn hy1 hy2 (P j).length 0 K 0 (by omega) (by rw [List.drop_zero]; omega) (by omega)
theorem TA.t174 (hT : TA A M h) (hR : RR S P Q O X M) (hB : OB O) (hPB : PB P) (hp4 : p < 4) {n : Nat} (hn : n < 4) {y : zY} (hy1 : y.1 = P) (hy2 : y.2.1 = O) : ∃ h' M', ag_run gT (d + 7) 174 [.inr (some 230), .inl (nI p), .inl (nI n)] h = some (.inl (some (.inl (prV Q y p n))), h') ∧ TA A M' h' ∧ RR S P Q O X M' ∧ M' 230 41 = nI 0 := by
  have T1 := hT.thr1 0
  have R1 := hR.z hB (FZ.up (M := M) (k := 41) (v := nI 0) (by decide))
  refine ⟨_, _, ?_, T1, R1, up2_eq _ _ _ _⟩
  rw [r174]
  unfold f174
  rw [lit_0, lit_3, hT.wI (k := 41) rfl, out3, b_I, is4_out hp4, if_pos (show bI false = nI 0 from rfl), out3, b_I, is4_out hn, if_pos (show bI false = nI 0 from rfl), T1.rR (k := 29) (b := 253) rfl rfl, T1.rx (a := 253) (c := 102) (i := p) rfl (show p < 4 from hp4), (R1.2.2.2.1 p hp4).1]
  cases hq : Q p with
  | none =>
    rw [if_pos (show bI (none : Option Nat).isSome = nI 0 from rfl)]
    unfold prV
    rw [hq]
  | some j =>
    rw [if_neg (show ¬ bI (some j).isSome = nI 0 from (show ¬ bI true = nI 0 by decide))]
    exact t174_g (d := d + 5) (N := 3999) T1 R1 hB hPB hp4 hq hn hy1 hy2 (by decide)
end RINF

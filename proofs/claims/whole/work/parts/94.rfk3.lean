section RFK3
variable {A : zA} {M M' M1 : Nat → Nat → Int32} {h : ag_H} {d s x i p f j o w k q : Nat} {S S' : zS} {P : Nat → List zP} {Q : Nat → Option Nat} {O : Nat → Nat → zU} {F L G : List (Nat × Nat)} {W : zW} {X : List Nat × List Nat}
theorem npr_sum (Q : Nat → Option Nat) : npr Q = (if (Q 0).isSome then 1 else 0) + (if (Q 1).isSome then 1 else 0) + (if (Q 2).isSome then 1 else 0) + (if (Q 3).isSome then 1 else 0) := by
  show (List.filter _ [0, 1, 2, 3]).length = _
  simp only [List.filter_cons, List.filter_nil]
  cases (Q 0).isSome <;> cases (Q 1).isSome <;> cases (Q 2).isSome <;> cases (Q 3).isSome <;> rfl
theorem npr_none (hl : lab Q = none) : npr Q = 4 := by
  have : ∀ p, p < 4 → (Q p).isSome = true := fun p hp9 => by
    have := List.find?_eq_none.mp hl p (List.mem_range.mpr hp9)
    cases hq : Q p with
    | none => rw [hq] at this; exact absurd rfl this
    | some j => rfl
  rw [npr_sum, this 0 (by decide), this 1 (by decide), this 2 (by decide), this 3 (by decide)]
  rfl
theorem npr_some (hq : q < 4) (hn : Q q = none) : npr Q < 4 := by
  rw [npr_sum]
  have : q = 0 ∨ q = 1 ∨ q = 2 ∨ q = 3 := by omega
  rcases this with rfl | rfl | rfl | rfl <;> rw [hn] <;> (repeat' split) <;> simp_all
theorem lab_min (hl : lab Q = some q) : ∀ p, p < q → ∃ j, Q p = some j := fun p hp9 => by
  have := (List.find?_range_eq_some.mp hl).2.2 p hp9
  cases h : Q p with
  | none => rw [h] at this; cases this
  | some j => exact ⟨j, rfl⟩
theorem lus_min (hl : lus Q = some i) : ∀ j, j < i → usr Q j ≠ 0 := fun j hj h => by
  have := (List.find?_range_eq_some.mp hl).2.2 j hj
  rw [h] at this
  cases this
theorem t170_a (hT : TA A M h) (hQ : RQ Q M) (hq : q < 4) (hn : Q q = none) (hm : ∀ p, p < q → ∃ j, Q p = some j) {l1 l2 : Int32} : ∀ (m k N : Nat), k + m = q → (g170 (ag_run gT d) (N + m + 1)).1 (some 230) l1 l2 (nI k) h = (g170 (ag_run gT d) (N + 1)).2.1 (some 230) l1 l2 (nI q) (nI 0) h := by
  intro m
  induction m with
  | zero =>
    intro k N hk
    obtain rfl : k = q := by omega
    show f170_40 (ag_run gT d) (g170 (ag_run gT d) N).1 (g170 (ag_run gT d) N).2.1 (g170 (ag_run gT d) N).2.2.1 (g170 (ag_run gT d) N).2.2.2 (some 230) l1 l2 (nI k) h = f170_58 (ag_run gT d) (g170 (ag_run gT d) N).1 (g170 (ag_run gT d) N).2.1 (g170 (ag_run gT d) N).2.2.1 (g170 (ag_run gT d) N).2.2.2 (some 230) l1 l2 (nI k) (nI 0) h
    unfold f170_40
    rw [hT.rR (k := 29) (b := 253) rfl rfl, hT.rx (a := 253) (c := 102) (i := k) rfl (show k < 4 from hq), (hQ k hq).1, hn, lit_0, if_pos (show bI (none : Option Nat).isSome = nI 0 from rfl)]
  | succ m ih =>
    intro k N hk
    obtain ⟨j, hj⟩ := hm k (by omega)
    rw [show N + (m + 1) + 1 = (N + m + 1) + 1 by omega]
    show f170_40 (ag_run gT d) (g170 (ag_run gT d) (N + m + 1)).1 (g170 (ag_run gT d) (N + m + 1)).2.1 (g170 (ag_run gT d) (N + m + 1)).2.2.1 (g170 (ag_run gT d) (N + m + 1)).2.2.2 (some 230) l1 l2 (nI k) h = _
    unfold f170_40
    rw [hT.rR (k := 29) (b := 253) rfl rfl, hT.rx (a := 253) (c := 102) (i := k) rfl (show k < 4 by omega), (hQ k (by omega)).1, hj, lit_0, lit_1, if_neg (show ¬ bI (some j).isSome = nI 0 from (show ¬ bI true = nI 0 by decide)), nI_add]
    exact ih (k + 1) N (by omega)
theorem t170_b (hT : TA A M h) (hQ : RQ Q M) (hi : i < 4) (hm : ∀ j, j < i → usr Q j ≠ 0) {l1 l2 l3 : Int32} : ∀ (m k N : Nat), k + m = i → (g170 (ag_run gT (d + 1)) (N + m + 1)).2.1 (some 230) l1 l2 l3 (nI k) h = (g170 (ag_run gT (d + 1)) (N + 1)).2.1 (some 230) l1 l2 l3 (nI i) h := by
  intro m
  induction m with
  | zero =>
    intro k N hk
    obtain rfl : k = i := by omega
    rfl
  | succ m ih =>
    intro k N hk
    have h1 := hm k (by omega)
    have h2 := usr_le Q k
    rw [show N + (m + 1) + 1 = (N + m + 1) + 1 by omega]
    show f170_58 (ag_run gT (d + 1)) (g170 (ag_run gT (d + 1)) (N + m + 1)).1 (g170 (ag_run gT (d + 1)) (N + m + 1)).2.1 (g170 (ag_run gT (d + 1)) (N + m + 1)).2.2.1 (g170 (ag_run gT (d + 1)) (N + m + 1)).2.2.2 (some 230) l1 l2 l3 (nI k) h = _
    unfold f170_58
    rw [hT.ra, hT.t168 (d := d) hQ (show k < 4 by omega), b_I, lit_0, lit_1, if_neg (by rw [nI_leI (by omega) (by omega)]; omega), nI_add]
    exact ih (k + 1) N (by omega)
theorem RQ.new (hQ : RQ Q M) (hj : j < 4) (q : Nat) : RQ (up1 Q q (some j)) (up2 (up2 M 253 q (nI 1)) 254 q (nI j)) := fun p' hp' => by
  by_cases e : p' = q
  · subst e
    rw [up1_eq]
    exact ⟨by rw [up2_na (by decide)]; exact up2_eq _ _ _ _, fun j' hj' => by cases hj'; exact ⟨up2_eq _ _ _ _, hj⟩⟩
  · rw [up1_ne e, up2_ni e, up2_ni e, up2_ni e, up2_ni e]
    exact hQ p' hp'
theorem t170_s (hT : TA A M h) (hR : RR S P Q O X M) (hB : OB O) (hp4 : p < 4) (hpj : Q p = some j) (hq : q < 4) (hn : Q q = none) (hi : i < 4) (hu : usr Q i = 0) {N : Nat} : ∃ h' M', (g170 (ag_run gT (d + 1)) (N + 1)).2.1 (some 230) (nI p) (nI 1) (nI q) (nI i) h = some (.inl (some (.inl (nI q))), h') ∧ TA A M' h' ∧ RR S P (up1 Q q (some j)) O X M' ∧ M' 230 41 = M 230 41 := by
  obtain ⟨q1, q2⟩ := (hR.2.2.2.1 p hp4).2 j hpj
  have T1 := hT.sx (a := 253) (c := 102) (i := q) rfl (nI 1)
  have T2 := T1.sx (a := 254) (c := 100) (i := q) rfl (nI j)
  have R2 : RR S P (up1 Q q (some j)) O X (up2 (up2 M 253 q (nI 1)) 254 q (nI j)) := hR.pq hB (fun b y h1 h2 => by rw [up2_na h2, up2_na h1]) (hR.2.2.2.1.new q2 q)
  refine ⟨_, _, ?_, T2, R2, by rw [up2_na (by decide), up2_na (by decide)]⟩
  show f170_58 (ag_run gT (d + 1)) (g170 (ag_run gT (d + 1)) N).1 (g170 (ag_run gT (d + 1)) N).2.1 (g170 (ag_run gT (d + 1)) N).2.2.1 (g170 (ag_run gT (d + 1)) N).2.2.2 (some 230) (nI p) (nI 1) (nI q) (nI i) h = _
  unfold f170_58 f170_100
  rw [hT.ra, hT.t168 (d := d) hR.2.2.2.1 hi, b_I, hu, lit_0, lit_1, if_pos (nI_le (by omega) (by omega)), hT.rR (k := 29) (b := 253) rfl rfl, b_B (x := nI 1) (Or.inr rfl), hT.wx (a := 253) (c := 102) (i := q) rfl (show q < 4 from hq), T1.rR (k := 30) (b := 254) rfl rfl, if_neg (show ¬ nI 1 = nI 0 by decide), T1.rR (k := 30) (b := 254) rfl rfl, T1.rx (a := 254) (c := 100) (i := p) rfl (show p < 4 from hp4), up2_na (by decide), q1, T1.wx (a := 254) (c := 100) (i := q) rfl (show q < 4 from hq), if_neg (show ¬ nI 1 = nI 0 by decide)]
theorem t170_c (hT : TA A M h) (hR : RR S P Q O X M) (hB : OB O) (hPB : PB P) (hp4 : p < 4) (hpj : Q p = some j) (hq : q < 4) (hn : Q q = none) (hi : i < 4) (hu : usr Q i = 0) (hij : j ≠ i) (hO : OW S F) (hF : F.length + 12 ≤ 128) (hP : PM P j F) {N : Nat} (hN : 30 ≤ N) : ∃ h' M', (g170 (ag_run gT (d + 3)) (N + 1)).2.1 (some 230) (nI p) (nI 0) (nI q) (nI i) h = some (.inl (some (.inl (nI q))), h') ∧ TA A M' h' ∧ RR (kCs (P j) S).1 (up1 P i (kCs (P j) S).2) (up1 Q q (some i)) O X M' ∧ M' 230 41 = M 230 41 := by
  obtain ⟨q1, q2⟩ := (hR.2.2.2.1 p hp4).2 j hpj
  obtain ⟨b1, b2⟩ := hPB j q2
  obtain ⟨p1, p2⟩ := hR.2.2.1 j q2
  have hpq : p ≠ q := fun e => by rw [e, hn] at hpj; cases hpj
  have T1 := hT.sx (a := 253) (c := 102) (i := q) rfl (nI 1)
  have T2 := T1.sx (a := 254) (c := 100) (i := q) rfl (nI i)
  have T3 := T2.sx (a := 246) (c := 100) (i := i) rfl (nI (P j).length)
  have R2 : RR S P (up1 Q q (some i)) O X (up2 (up2 M 253 q (nI 1)) 254 q (nI i)) := hR.pq hB (fun b y h1 h2 => by rw [up2_na h2, up2_na h1]) (hR.2.2.2.1.new hi q)
  have q12 : up2 (up2 M 253 q (nI 1)) 254 q (nI i) 254 p = nI j := by rw [up2_ni hpq, up2_na (by decide)]; exact q1
  have p12 : up2 (up2 M 253 q (nI 1)) 254 q (nI i) 246 j = nI (P j).length := by rw [up2_na (by decide), up2_na (by decide)]; exact p1
  have c41 : up2 (up2 M 253 q (nI 1)) 254 q (nI i) 230 41 = M 230 41 := by rw [up2_na (by decide), up2_na (by decide)]
  have st : (g170 (ag_run gT (d + 3)) (N + 1)).2.1 (some 230) (nI p) (nI 0) (nI q) (nI i) h = (g170 (ag_run gT (d + 3)) (N + 1)).2.2.1 (some 230) (nI q) (nI i) (nI j) (nI 0) (hse (hse (hse h 253 q (nI 1)) 254 q (nI i)) 246 i (nI (P j).length)) := by
    show f170_58 (ag_run gT (d + 3)) (g170 (ag_run gT (d + 3)) N).1 (g170 (ag_run gT (d + 3)) N).2.1 (g170 (ag_run gT (d + 3)) N).2.2.1 (g170 (ag_run gT (d + 3)) N).2.2.2 (some 230) (nI p) (nI 0) (nI q) (nI i) h = f170_132 (ag_run gT (d + 3)) (g170 (ag_run gT (d + 3)) N).1 (g170 (ag_run gT (d + 3)) N).2.1 (g170 (ag_run gT (d + 3)) N).2.2.1 (g170 (ag_run gT (d + 3)) N).2.2.2 (some 230) (nI q) (nI i) (nI j) (nI 0) _
    unfold f170_58 f170_100
    rw [hT.ra, hT.t168 (d := d + 2) hR.2.2.2.1 hi, b_I, hu, lit_0, lit_1, if_pos (nI_le (by omega) (by omega)), hT.rR (k := 29) (b := 253) rfl rfl, b_B (x := nI 1) (Or.inr rfl), hT.wx (a := 253) (c := 102) (i := q) rfl (show q < 4 from hq), T1.rR (k := 30) (b := 254) rfl rfl, if_pos rfl, T1.wx (a := 254) (c := 100) (i := q) rfl (show q < 4 from hq), if_pos rfl, T2.rR (k := 30) (b := 254) rfl rfl, T2.rx (a := 254) (c := 100) (i := p) rfl (show p < 4 from hp4), q12, T2.rR (k := 22) (b := 246) rfl rfl, T2.rR (k := 22) (b := 246) rfl rfl, T2.rx (a := 246) (c := 100) (i := j) rfl (show j < 4 from q2), p12, T2.wx (a := 246) (c := 100) (i := i) rfl (show i < 4 from hi)]
  rw [st]
  generalize up2 (up2 M 253 q (nI 1)) 254 q (nI i) = M2 at *
  generalize hse (hse (hse h 253 q (nI 1)) 254 q (nI i)) 246 i (nI (P j).length) = h3 at *
  have V3 : RV S.1 (up2 M2 246 i (nI (P j).length)) := R2.1.rows fun b y z1 z2 => up2_na (by omega)
  have G3 : RG S (up2 M2 246 i (nI (P j).length)) := R2.2.1.congr (up2_na (by decide)) (up2_na (by decide)) (fun y => up2_na (by decide)) (fun y => up2_na (by decide))
  obtain ⟨h4, M4, e4, T4, V4, G4, L4, n4, F4⟩ := t170_132 (A := A) (d := d) (q := q) hi q2 hij b1 (fun q hq => (b2 q hq).2.2.1) (P j) 0 (N + 1) S _ _ [] F rfl (by omega) rfl (by simp) hO (by omega) (fun q hq m hm => hP q hq m hm) (by omega) T3 V3 G3 (by rw [up2_ni hij]; exact p12) (fun k' _ hk' => ((R2.2.2.1 j q2).2 k' hk').congr fun b y h1 h2 => up2_na (by omega)) (fun k' hk' => absurd hk' (Nat.not_lt_zero _))
  rw [List.nil_append] at L4 n4
  refine ⟨h4, M4, e4, T4, ?_, by rw [F4 _ _ (by omega) (by omega) (by omega) (by omega), up2_na (by decide), c41]⟩
  refine R2.dp hB (fun b y z1 z2 => by rw [F4 b y (by omega) (by omega) (by omega) (by omega), up2_na (by omega)]) V4 G4 fun j' hj' => ?_
  by_cases e : j' = i
  · subst e
    rw [up1_eq]
    exact ⟨by rw [F4 _ _ (by omega) (by omega) (by omega) (by omega), up2_eq, n4], fun k' hk' => L4 k' (by omega)⟩
  · rw [up1_ne e]
    have b3 := (hPB j' hj').1
    exact ⟨by rw [F4 _ _ (by omega) (by omega) (by omega) (by omega), up2_ni e]; exact (R2.2.2.1 j' hj').1, fun k' hk' => F4.pl e (by omega) ((hPB j' hj').2 _ (getD_memP hk')).2.2.1 (((R2.2.2.1 j' hj').2 k' hk').congr fun b y h1 h2 => up2_na (by omega))⟩
end RFK3

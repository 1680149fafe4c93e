section RFK4
variable {A : zA} {M M' M1 : Nat → Nat → Int32} {h : ag_H} {d s x i p f j o w k q : Nat} {S S' : zS} {P : Nat → List zP} {Q : Nat → Option Nat} {O : Nat → Nat → zU} {F L G : List (Nat × Nat)} {W : zW} {X : List Nat × List Nat}
theorem TA.t170n (hT : TA A M h) (hR : RR S P Q O X M) (hB : OB O) {v sh : Int32} (hn : noP Q v) : ∃ h' M', ag_run gT (d + 7) 170 [.inr (some 230), .inl v, .inl sh] h = some (.inl (some (.inl (nI 0))), h') ∧ TA A M' h' ∧ RR S P Q O X M' ∧ M' 230 41 = nI 1 := by
  have T1 := hT.thr1 1
  refine ⟨_, _, ?_, T1, hR.z hB (FZ.up (by decide)), up2_eq _ _ _ _⟩
  rw [r170]
  unfold f170 f170_26
  rw [hT.ra, hT.t144n (d := d + 5) hR.2.2.2.1 hn, b_I, lit_0, lit_1, if_pos rfl, hT.wI (k := 41) rfl, T1.rI (k := 41) rfl, up2_eq, if_neg (by decide)]
theorem TA.t170f (hT : TA A M h) (hR : RR S P Q O X M) (hB : OB O) {v sh : Int32} (hp9 : isP Q v p j) (hl : lab Q = none) : ∃ h' M', ag_run gT (d + 7) 170 [.inr (some 230), .inl v, .inl sh] h = some (.inl (some (.inl (nI 0))), h') ∧ TA A M' h' ∧ RR S P Q O X M' ∧ M' 230 41 = nI 2 := by
  have T1 := hT.thr1 2
  refine ⟨_, _, ?_, T1, hR.z hB (FZ.up (by decide)), up2_eq _ _ _ _⟩
  rw [r170]
  unfold f170 f170_26
  rw [hT.ra, hT.t144 (d := d + 5) hR.2.2.2.1 hp9, b_I, lit_0, lit_2, lit_4, if_neg (by decide), hT.ra, hT.t169 (d := d + 5) hR.2.2.2.1, b_I, npr_none hl, if_pos rfl, hT.wI (k := 41) rfl, T1.rI (k := 41) rfl, up2_eq, if_neg (by decide)]
theorem t170_i (hT : TA A M h) (hR : RR S P Q O X M) (hB : OB O) {v sh : Int32} (hp9 : isP Q v p j) (hl : lab Q = some q) : ag_run gT (d + 7) 170 [.inr (some 230), .inl v, .inl sh] h = f170_40 (ag_run gT (d + 6)) (g170 (ag_run gT (d + 6)) 3999).1 (g170 (ag_run gT (d + 6)) 3999).2.1 (g170 (ag_run gT (d + 6)) 3999).2.2.1 (g170 (ag_run gT (d + 6)) 3999).2.2.2 (some 230) v sh (nI 0) (hse h 230 41 (nI 0)) := by
  have T1 := hT.thr1 0
  obtain ⟨q4, qn⟩ := lab_lt hl
  have h4 := npr_some q4 qn
  rw [r170]
  unfold f170 f170_26
  rw [hT.ra, hT.t144 (d := d + 5) hR.2.2.2.1 hp9, b_I, lit_0, lit_2, lit_4, if_neg (by decide), hT.ra, hT.t169 (d := d + 5) hR.2.2.2.1, b_I, if_neg (by rw [nI_eq (by omega) (by omega)]; omega), hT.wI (k := 41) rfl, T1.rI (k := 41) rfl, up2_eq, if_pos rfl]
/-- the searches -/
theorem t170_g (hT : TA A M h) (hQ : RQ Q M) (hl : lab Q = some q) (hi : lus Q = some i) {l1 l2 : Int32} {n N : Nat} (hn : N + q + i = n) : f170_40 (ag_run gT (d + 1)) (g170 (ag_run gT (d + 1)) n).1 (g170 (ag_run gT (d + 1)) n).2.1 (g170 (ag_run gT (d + 1)) n).2.2.1 (g170 (ag_run gT (d + 1)) n).2.2.2 (some 230) l1 l2 (nI 0) h = (g170 (ag_run gT (d + 1)) (N + 1)).2.1 (some 230) l1 l2 (nI q) (nI i) h := by
  obtain ⟨q4, qn⟩ := lab_lt hl
  obtain ⟨i4, iu⟩ := lus_lt hi
  have e1 := t170_a (d := d + 1) (l1 := l1) (l2 := l2) hT hQ q4 qn (lab_min hl) q 0 (N + i) (by omega)
  have e2 := t170_b (d := d) (l1 := l1) (l2 := l2) (l3 := nI q) hT hQ i4 (lus_min hi) i 0 N (by omega)
  rw [show N + i + q + 1 = n + 1 by omega] at e1
  exact e1.trans e2
theorem TA.t170s (hT : TA A M h) (hR : RR S P Q O X M) (hB : OB O) {v : Int32} (hp9 : isP Q v p j) (hl : lab Q = some q) (hi : lus Q = some i) : ∃ h' M', ag_run gT (d + 7) 170 [.inr (some 230), .inl v, .inl (bI true)] h = some (.inl (some (.inl (nI q))), h') ∧ TA A M' h' ∧ RR S P (up1 Q q (some j)) O X M' ∧ M' 230 41 = nI 0 := by
  have T1 := hT.thr1 0
  have R1 := hR.z hB (FZ.up (M := M) (k := 41) (v := nI 0) (by decide))
  have e1 := t170_i (d := d) (sh := bI true) hT hR hB hp9 hl
  obtain ⟨q4, qn⟩ := lab_lt hl
  obtain ⟨i4, iu⟩ := lus_lt hi
  obtain ⟨hp4, rfl, hpj⟩ := hp9
  obtain ⟨N, hN⟩ : ∃ N, N + q + i = 3999 := ⟨3999 - q - i, by omega⟩
  have e2 := t170_g (d := d + 5) (l1 := nI p) (l2 := bI true) T1 R1.2.2.2.1 hl hi hN
  obtain ⟨h3, M3, e3, T3, R3, c3⟩ := t170_s (d := d + 5) (N := N) T1 R1 hB hp4 hpj q4 qn i4 iu
  refine ⟨h3, M3, ?_, T3, R3, by rw [c3, up2_eq]⟩
  rw [e1, e2]
  exact e3
theorem TA.t170c (hT : TA A M h) (hR : RR S P Q O X M) (hB : OB O) (hPB : PB P) {v : Int32} (hp9 : isP Q v p j) (hl : lab Q = some q) (hi : lus Q = some i) (hO : OW S F) (hF : F.length + 12 ≤ 128) (hP : PM P j F) : ∃ h' M', ag_run gT (d + 7) 170 [.inr (some 230), .inl v, .inl (bI false)] h = some (.inl (some (.inl (nI q))), h') ∧ TA A M' h' ∧ RR (kCs (P j) S).1 (up1 P i (kCs (P j) S).2) (up1 Q q (some i)) O X M' ∧ M' 230 41 = nI 0 := by
  have T1 := hT.thr1 0
  have R1 := hR.z hB (FZ.up (M := M) (k := 41) (v := nI 0) (by decide))
  have e1 := t170_i (d := d) (sh := bI false) hT hR hB hp9 hl
  obtain ⟨q4, qn⟩ := lab_lt hl
  obtain ⟨i4, iu⟩ := lus_lt hi
  obtain ⟨hp4, rfl, hpj⟩ := hp9
  have hij : j ≠ i := fun e => by
    subst e
    have := usr_sub hp4 hpj j
    rw [if_pos rfl] at this
    omega
  obtain ⟨N, hN⟩ : ∃ N, N + q + i = 3999 := ⟨3999 - q - i, by omega⟩
  have e2 := t170_g (d := d + 5) (l1 := nI p) (l2 := bI false) T1 R1.2.2.2.1 hl hi hN
  obtain ⟨h3, M3, e3, T3, R3, c3⟩ := t170_c (d := d + 3) (N := N) T1 R1 hB hPB hp4 hpj q4 qn i4 iu hij hO hF hP (by omega)
  refine ⟨h3, M3, ?_, T3, R3, by rw [c3, up2_eq]⟩
  rw [e1, e2]
  exact e3
end RFK4

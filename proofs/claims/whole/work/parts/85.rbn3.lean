/-! THE REFERENCE'S METHODS: bind, mount -/
theorem thW_jcd (e : Nat) : jcd (.inl (thW e)) = wcd (Sum.inl e : Nat ⊕ zW) := by
  unfold thW
  by_cases h : e = 100
  · rw [if_pos h]; show _ = if e = 100 then 2 else 1; rw [if_pos h]; rfl
  · rw [if_neg h]; show _ = if e = 100 then 2 else 1; rw [if_neg h]; rfl
def PN (P : Nat → List zP) (j : Nat) : Prop := ∀ q ∈ P j, ∀ m ∈ q.2, ¬ (m.1 = 0 ∧ m.2.1 = 0)
section RBN3
variable {A : zA} {M M' : Nat → Nat → Int32} {h : ag_H} {d s x i p f j o w k : Nat} {S S' : zS} {P : Nat → List zP} {Q : Nat → Option Nat} {O : Nat → Nat → zU} {F L G : List (Nat × Nat)} {W : zW} {X : List Nat × List Nat}
theorem t163_38n {m : zM} (hT : TA A M h) (hR : RR S P Q O X M) (hB : OB O) {c : Nat} (hc : c < 5) (hc0 : c ≠ 0) (hm : m.1 < 2) (hm2 : m.2.1 < 128) {l1 l4 : Int32} : ∃ h' M', f163_38 (ag_run gT (d + 3)) (some 230) l1 (nI m.1) (nI m.2.1) l4 (nI c) h = some (.inl (some (.inl (nI c))), h') ∧ TA A M' h' ∧ RR (kGo S m.1 m.2.1) P Q O X M' := by
  obtain ⟨h1, M1, e1, T1, V1, G1, F1⟩ := hT.t132 (d := d) hR.1 hR.2.1 hm hm2
  refine ⟨h1, M1, ?_, T1, hR.w hB F1.w V1 G1⟩
  unfold f163_38
  rw [lit_0, if_neg (by rw [nI_eq (by omega) (by omega)]; exact hc0), hT.ra, e1, b_V]
theorem TA.t163 {m : zM} (hT : TA A M h) (hR : RR S P Q O X M) (hB : OB O) (hPB : PB P) (hp4 : p < 4) (hq : Q p = some j) {ns : List Nat} (hN : NM ns M) (hn : PN P j) (h0 : (0, 0) ∈ F) (hl : F.length + 1 < 128) (hP : PM P j F) (hO : OW S F) (hW : WK S bgn) (h7 : k < 7) (h3 : k % 4 ≠ 3) (hm : m.1 < 2) (hmF : (m.1, m.2.1) ∈ F) (hm3 : m.2.2 = decide (k / 4 = 1)) :
    ∃ h' M', ag_run gT (d + 6) 163 [.inr (some 230), .inl (nI p), .inl (nI m.1), .inl (nI m.2.1), .inl (nI k)] h = some (.inl (some (.inl (nI (jcd (kJn P j S ns k m).2.2)))), h') ∧ TA A M' h' ∧ RR (kJn P j S ns k m).1 (kJn P j S ns k m).2.1 Q O X M' ∧ ∀ n, (kJn P j S ns k m).2.2 = .inr n → M' 230 21 = nI n := by
  have hm2 := hO.lt hm hmF
  have hn12 := hN.2.1
  obtain ⟨h3', M3, e3, T3, V3, G3, W3, F3⟩ := hT.t141 (d := d + 1) (u := ns.length) (Nat.le_refl _) hPB hp4 hq h0 (by omega) hP hO hW hR.1 hR.2.1 hR.2.2.1 hR.2.2.2.1 hN
  rw [List.take_length] at e3 V3 G3 W3
  obtain ⟨o1, o2⟩ := OW.wk h0 (by omega) hP ns S bgn hO hW
  have R3 : RR (kWk P j ns S bgn).1 P Q O X M3 := hR.w hB F3 V3 G3
  have hv : ∀ q ∈ P j, ∀ m ∈ q.2, m.1 < 2 ∧ m.2.1 < 128 ∧ ¬ (m.1 = 0 ∧ m.2.1 = 0) := fun q hq m hm => ⟨(hP q hq m hm).1, hO.lt (hP q hq m hm).1 (hP q hq m hm).2, hn q hq m hm⟩
  rw [r163]
  unfold f163
  rw [hT.rI (k := 4) rfl, hN.1, hT.ra, e3, b_I, lit_0, lit_2]
  unfold kJn
  rcases hx : kWk P j ns S bgn with ⟨S1, r⟩
  rw [hx] at W3 o1 o2 R3
  cases r with
  | inl e =>
    obtain ⟨w1, w2, w3, w4⟩ := wcd_ne e
    obtain ⟨h4, M4, e4, T4, R4⟩ := t163_38n (d := d + 2) (m := m) (l1 := nI p) (l4 := nI k) T3 R3 hB w2 (fun h => w1 (by rw [h])) hm hm2
    dsimp only
    rw [if_neg w1, thW_jcd]
    exact ⟨h4, M4, e4, T4, R4, fun n hn => (by cases hn)⟩
  | inr W =>
    obtain ⟨O1, K1, -⟩ := o2 W rfl
    obtain ⟨g8, g9⟩ := W3 W rfl
    have hx8 := O1.lt K1.1 (fl_mem h0)
    have hVW := O1.1 W.1 K1.1
    have hi1 := hVW.2.2.2.1 _ _ K1.2.1
    have hi3 : W.2.2.1 < 300 := by have := hVW.2.1; omega
    have e5 := T3.t142 (d := d + 3) R3.1 g8 g9 K1.1 (by omega) K1.2.1 hi1 hi3
    rw [← K1.2.2.1] at e5
    dsimp only
    rw [if_pos (show nI (wcd (Sum.inr W : Nat ⊕ zW)) = nI 0 from rfl), T3.ra, e5, b_I]
    cases hd : W.2.2.2
    · obtain ⟨h4, M4, e4, T4, V4, G4, F4⟩ := T3.t132 (d := d + 2) R3.1 R3.2.1 K1.1 hx8
      obtain ⟨h5, M5, e5, T5, R5⟩ := t163_38n (d := d + 2) (m := m) (c := 2) (l1 := nI p) (l4 := nI k) T4 (R3.w hB F4.w V4 G4) hB (by decide) (by decide) hm hm2
      have hj2 : kJ2 P j S1 W k m = (kGo (kGo S1 W.1 W.2.1) m.1 m.2.1, P, .inl 3) := by
        unfold kJ2
        cases pidx (P j) W.1 W.2.2.1 with
        | none => dsimp only; rw [if_pos (Or.inr hd), if_neg (by rw [hd]; decide)]
        | some k' => dsimp only; rw [if_pos (Or.inr hd), if_neg (by rw [hd]; decide)]
      rw [hj2, if_pos (show bI false = nI 0 from rfl), T3.rI (k := 38) rfl, g8, T3.rI (k := 39) rfl, g9, T3.ra, e4, b_V]
      exact ⟨h5, M5, e5, T5, R5, fun n hn => (by cases hn)⟩
    · rw [if_neg (show ¬ bI true = nI 0 by decide)]
      exact t163_38 (d := d) T3 R3 hB hPB hp4 hq hv h0 hl O1 K1 hd g8 g9 h7 h3 hm hm2 hm3
/-- how bind ends -/
theorem t164_e (hT : TA A M h) (hR : RR S P Q O X M) (hB : OB O) {c : Nat} (hc : c < 5) : ∃ h' M', f164_139 (ag_run gT (d + 6)) (some 230) (nI c) h = some (.inl (some (.inl (if c = 0 then M 230 21 else nI 0))), h') ∧ TA A M' h' ∧ RR S P Q O ([], []) M' ∧ M' 230 41 = nI (cdI c 3 4 2) := by
  obtain ⟨h1, M1, e1, T1, R1, F1⟩ := hT.fg (d := d + 5) hR hB
  obtain ⟨h2, e2, T2⟩ := T1.t149 (d := d + 5) hc 3 4 2
  refine ⟨h2, _, ?_, T2, R1.z hB (FZ.up (by decide)), up2_eq _ _ _ _⟩
  unfold f164_139 f164_163
  rw [hT.ra, e1, b_V, T1.ra, lit_3, lit_4, lit_2, e2, b_I, lit_0, T2.rI (k := 21) rfl, up2_ni (by decide), F1 _ _ (by decide)]
  have : c = 0 ∨ c = 1 ∨ c = 2 ∨ c = 3 ∨ c = 4 := by omega
  rcases this with rfl | rfl | rfl | rfl | rfl <;> rfl
theorem t165_e (hT : TA A M h) (hR : RR S P Q O X M) (hB : OB O) {c : Nat} (hc : c < 5) : ∃ h' M', f165_83 (ag_run gT (d + 6)) (some 230) (nI c) h = some (.inl (some (.inl (if c = 0 then M 230 21 else nI 0))), h') ∧ TA A M' h' ∧ RR S P Q O X M' ∧ M' 230 41 = nI (cdI c 3 4 2) := by
  obtain ⟨h2, e2, T2⟩ := hT.t149 (d := d + 5) hc 3 4 2
  refine ⟨h2, _, ?_, T2, hR.z hB (FZ.up (by decide)), up2_eq _ _ _ _⟩
  unfold f165_83 f165_103
  rw [hT.ra, lit_3, lit_4, lit_2, e2, b_I, lit_0, T2.rI (k := 21) rfl, up2_ni (by decide)]
  have : c = 0 ∨ c = 1 ∨ c = 2 ∨ c = 3 ∨ c = 4 := by omega
  rcases this with rfl | rfl | rfl | rfl | rfl <;> rfl
/-- what codes of failure become -/
theorem jcd_cd {r : Nat ⊕ Nat} (hr : ∀ e, r = .inl e → e = 1 ∨ e = 2 ∨ e = 3) : jcd r < 5 ∧ (∀ e, r = .inl e → jcd r ≠ 0 ∧ cdI (jcd r) 3 4 2 = e + 1) ∧ ∀ n, r = .inr n → jcd r = 0 := by
  cases r with
  | inl e =>
    rcases hr e rfl with rfl | rfl | rfl
    · exact ⟨by decide, fun e he => (by cases he; decide), fun n hn => (by cases hn)⟩
    · exact ⟨by decide, fun e he => (by cases he; decide), fun n hn => (by cases hn)⟩
    · exact ⟨by decide, fun e he => (by cases he; decide), fun n hn => (by cases hn)⟩
  | inr n => exact ⟨by show 0 < 5; decide, fun e he => (by cases he), fun n hn => rfl⟩
theorem thW_r (e : Nat) : thW e = 1 ∨ thW e = 2 ∨ thW e = 3 := by unfold thW; split <;> simp
theorem kJ2_r {m : zM} : ∀ e, (kJ2 P j S W k m).2.2 = .inl e → e = 1 ∨ e = 2 ∨ e = 3 := by
  intro e he
  unfold kJ2 at he
  cases hp : pidx (P j) W.1 W.2.2.1 with
  | none =>
    rw [hp] at he
    dsimp only at he
    split at he
    · injection he with he; subst he; split <;> simp
    · split at he <;> cases he
  | some k' =>
    rw [hp] at he
    dsimp only at he
    split at he
    · injection he with he; subst he; split <;> simp
    · split at he <;> cases he
theorem kJn_r {ns : List Nat} {m : zM} : ∀ e, (kJn P j S ns k m).2.2 = .inl e → e = 1 ∨ e = 2 ∨ e = 3 := by
  intro e he
  unfold kJn at he
  rcases hx : kWk P j ns S bgn with ⟨S1, r⟩
  rw [hx] at he
  cases r with
  | inl e' => injection he with he; subst he; exact thW_r e'
  | inr W => exact kJ2_r e he
theorem TA.t164n (hT : TA A M h) (hR : RR S P Q O X M) (hB : OB O) {v w : Int32} (hn : noP Q v) : ∃ h' M', ag_run gT (d + 7) 164 [.inr (some 230), .inl v, .inl w] h = some (.inl (some (.inl (nI 0))), h') ∧ TA A M' h' ∧ RR S P Q O X M' ∧ M' 230 41 = nI 1 := by
  refine ⟨_, _, ?_, hT.thr1 1, hR.z hB (FZ.up (by decide)), up2_eq _ _ _ _⟩
  rw [r164]
  unfold f164
  rw [hT.ra, hT.t144n (d := d + 5) hR.2.2.2.1 hn, b_I, lit_0, lit_1, if_pos rfl, hT.wI (k := 41) rfl]
theorem f164_bad (hT : TA A M h) (hR : RR S P Q O X M) (hB : OB O) {v w : Int32} : ∃ h' M', f164_42 (ag_run gT (d + 6)) (some 230) v w h = some (.inl (some (.inl (nI 0))), h') ∧ TA A M' h' ∧ RR S P Q O ([], []) M' ∧ M' 230 41 = nI 1 := by
  unfold f164_42 f164_43 f164_61 f164_90
  rw [lit_0, lit_4, if_pos rfl, if_neg (show ¬ nI 4 = nI 0 by decide), if_neg (show ¬ nI 4 = nI 0 by decide)]
  exact t164_e (d := d) hT hR hB (c := 4) (by decide)
theorem TA.t164a (hT : TA A M h) (hR : RR S P Q O X M) (hB : OB O) {v w : Int32} (hp9 : isP Q v p j) (ha : pth X.1 = none ∨ pth X.2 = none ∨ noH w) : ∃ h' M', ag_run gT (d + 7) 164 [.inr (some 230), .inl v, .inl w] h = some (.inl (some (.inl (nI 0))), h') ∧ TA A M' h' ∧ RR S P Q O ([], []) M' ∧ M' 230 41 = nI 1 := by
  obtain ⟨h1, M1, e1, T1, N1, F1⟩ := hT.t138 (d := d + 4) hR.2.2.2.2.2 false
  have R1 := hR.z hB F1.z
  obtain ⟨h2, M2, e2, T2, N2, F2⟩ := T1.t138 (d := d + 4) R1.2.2.2.2.2 true
  have R2 := R1.z hB F2.z
  have e1 : ag_run gT (d + 6) 138 [.inr (some 230), .inl (nI 0)] h = some (.inl (some (.inl (bI (pth X.1).isSome))), h1) := e1
  have e2 : ag_run gT (d + 6) 138 [.inr (some 230), .inl (nI 1)] h1 = some (.inl (some (.inl (bI (pth X.2).isSome))), h2) := e2
  rw [r164]
  unfold f164
  rw [hT.ra, hT.t144 (d := d + 5) hR.2.2.2.1 hp9, b_I, lit_0, lit_1, if_neg (show ¬ nI 1 = nI 0 by decide), hT.ra, e1, b_I]
  by_cases h1' : pth X.1 = none
  · rw [h1', if_pos (show bI (none : Option (List Nat)).isSome = nI 0 from rfl)]
    exact f164_bad (d := d) T1 R1 hB
  · obtain ⟨ns, hns⟩ := Option.ne_none_iff_exists'.mp h1'
    rw [hns, if_neg (show ¬ bI (some ns).isSome = nI 0 from (show ¬ bI true = nI 0 by decide)), T1.ra, e2, b_I]
    by_cases h2' : pth X.2 = none
    · rw [h2', if_pos (show bI (none : Option (List Nat)).isSome = nI 0 from rfl)]
      exact f164_bad (d := d) T2 R2 hB
    · obtain ⟨nk, hnk⟩ := Option.ne_none_iff_exists'.mp h2'
      rw [hnk, if_neg (show ¬ bI (some nk).isSome = nI 0 from (show ¬ bI true = nI 0 by decide)), h160n (d := d + 5) ((ha.resolve_left h1').resolve_left h2'), b_I, if_pos rfl]
      exact f164_bad (d := d) T2 R2 hB
theorem TA.t164 (hT : TA A M h) (hR : RR S P Q O X M) (hB : OB O) (hPB : PB P) {v w : Int32} (hp9 : isP Q v p j) {ns nk : List Nat} (hns : pth X.1 = some ns) (hnk : pth X.2 = some nk) (hh : isH w k) (hn : PN P j) (h0 : (0, 0) ∈ F) (hl : F.length + 4 < 128) (hP : PM P j F) (hO : OW S F) (hW : WK S bgn) :
    (∀ e, (kBd P j S ns nk k).2.2 = .inl e → ∃ h' M', ag_run gT (d + 7) 164 [.inr (some 230), .inl v, .inl w] h = some (.inl (some (.inl (nI 0))), h') ∧ TA A M' h' ∧ RR (kBd P j S ns nk k).1 (kBd P j S ns nk k).2.1 Q O ([], []) M' ∧ M' 230 41 = nI (e + 1)) ∧
    ∀ n, (kBd P j S ns nk k).2.2 = .inr n → ∃ h' M', ag_run gT (d + 7) 164 [.inr (some 230), .inl v, .inl w] h = some (.inl (some (.inl (nI n))), h') ∧ TA A M' h' ∧ RR (kBd P j S ns nk k).1 (kBd P j S ns nk k).2.1 Q O ([], []) M' ∧ M' 230 41 = nI 0 := by
  obtain ⟨h1, M1, e1, T1, N1, F1⟩ := hT.t138 (d := d + 4) hR.2.2.2.2.2 false
  have R1 := hR.z hB F1.z
  obtain ⟨h2, M2, e2, T2, N2, F2⟩ := T1.t138 (d := d + 4) R1.2.2.2.2.2 true
  have R2 := R1.z hB F2.z
  have N2 := N2 nk hnk
  have hn12 := N2.2.1
  have e1 : ag_run gT (d + 6) 138 [.inr (some 230), .inl (nI 0)] h = some (.inl (some (.inl (bI (pth X.1).isSome))), h1) := e1
  have e2 : ag_run gT (d + 6) 138 [.inr (some 230), .inl (nI 1)] h1 = some (.inl (some (.inl (bI (pth X.2).isSome))), h2) := e2
  have e160 := h160 (d := d + 5) (h := h2) hh
  have e144 := hT.t144 (d := d + 5) hR.2.2.2.1 hp9
  obtain ⟨hk7, hk3, rfl⟩ := hh
  obtain ⟨hp4, rfl, hq⟩ := hp9
  obtain ⟨h3, M3, e3, T3, V3, G3, W3, F3⟩ := T2.t141 (d := d + 2) (u := nk.length) (Nat.le_refl _) hPB hp4 hq h0 (by omega) hP hO hW R2.1 R2.2.1 R2.2.2.1 R2.2.2.2.1 N2
  rw [List.take_length] at e3 V3 G3 W3
  obtain ⟨o1, o2⟩ := OW.wk h0 (by omega) hP nk S bgn hO hW
  have kp := kp_wk h0 (by omega) hP nk S bgn hO hW
  have sf := SF.wk (P := P) (j := j) nk S bgn
  have R3 : RR (kWk P j nk S bgn).1 P Q O X M3 := R2.w hB F3 V3 G3
  have st : ag_run gT (d + 7) 164 [.inr (some 230), .inl (nI p), .inl (nI k)] h = f164_61 (ag_run gT (d + 6)) (some 230) (nI p) (nI k) (nI (wcd (kWk P j nk S bgn).2)) h3 := by
    rw [r164]
    unfold f164 f164_43
    rw [hT.ra, e144, b_I, lit_0, lit_1, if_neg (show ¬ nI 1 = nI 0 by decide), hT.ra, e1, b_I, hns, if_neg (show ¬ bI (some ns).isSome = nI 0 from (show ¬ bI true = nI 0 by decide)), T1.ra, e2, b_I, hnk, if_neg (show ¬ bI (some nk).isSome = nI 0 from (show ¬ bI true = nI 0 by decide)), e160, b_I, if_neg (show ¬ nI 1 = nI 0 by decide), if_neg (show ¬ nI 1 = nI 0 by decide), T2.rI (k := 4) rfl, N2.1, T2.ra, e3, b_I]
  rw [st]
  unfold kBd
  rcases hx : kWk P j nk S bgn with ⟨S1, r⟩
  rw [hx] at W3 o1 o2 R3 kp sf
  cases r with
  | inl e =>
    obtain ⟨w1, w2, w3, w4⟩ := wcd_ne e
    refine ⟨fun e' he' => ?_, fun n he' => by cases he'⟩
    injection he' with he'
    obtain ⟨h4, M4, e4, T4, R4, q4⟩ := t164_e (d := d) T3 R3 hB w2
    refine ⟨h4, M4, ?_, T4, R4, ?_⟩
    · unfold f164_61 f164_90
      rw [lit_0, if_neg w1, if_neg w1, e4, if_neg (fun h => w1 (by rw [h]))]
    · rw [q4, w4, ← he']; unfold thW; split <;> rfl
  | inr W =>
    obtain ⟨O1, K1, -⟩ := o2 W rfl
    obtain ⟨g8, g9⟩ := W3 W rfl
    have hx8 := O1.lt K1.1 (fl_mem h0)
    have hVW := O1.1 W.1 K1.1
    have hi1 := hVW.2.2.2.1 _ _ K1.2.1
    have hi3 : W.2.2.1 < 300 := by have := hVW.2.1; omega
    have e5 := T3.t142 (d := d + 4) R3.1 g8 g9 K1.1 (by omega) K1.2.1 hi1 hi3
    rw [← K1.2.2.1] at e5
    dsimp only
    unfold f164_61
    rw [if_pos (show nI (wcd (Sum.inr W : Nat ⊕ zW)) = ag_lit 0 from lit_0.symm), T3.ra, e5, b_I, lit_0, lit_2]
    cases hd : W.2.2.2
    · obtain ⟨h4, M4, e4, T4, V4, G4, F4⟩ := T3.t132 (d := d + 3) R3.1 R3.2.1 K1.1 hx8
      obtain ⟨h5, M5, e5, T5, R5, q5⟩ := t164_e (d := d) (c := 2) T4 (R3.w hB F4.w V4 G4) hB (by decide)
      rw [if_pos (show bI false = nI 0 from rfl), T3.rI (k := 38) rfl, g8, T3.rI (k := 39) rfl, g9, T3.ra, e4, b_V, if_pos rfl]
      unfold f164_90
      rw [lit_0, if_neg (show ¬ nI 2 = nI 0 by decide)]
      refine ⟨fun e' he' => ?_, fun n he' => by cases he'⟩
      injection he' with he'
      exact ⟨h5, M5, e5, T5, R5, by rw [q5, ← he']; rfl⟩
    · rw [if_neg (show ¬ bI true = nI 0 by decide), if_neg (show ¬ true = false by decide)]
      obtain ⟨h4, M4, e4, T4, V4, G4, c8, c9, F4⟩ := T3.t143 (d := d + 2) O1 h0 (by omega) K1.1 R3.1 R3.2.1 g8 g9
      have R4 := R3.w hB F4 V4 G4
      obtain ⟨h5, M5, e5, T5, N5, F5⟩ := T4.t138 (d := d + 4) R4.2.2.2.2.2 false
      have R5 := R4.z hB F5.z
      have e5 : ag_run gT (d + 6) 138 [.inr (some 230), .inl (nI 0)] h4 = some (.inl (some (.inl (bI (pth X.1).isSome))), h5) := e5
      have O3 := O1.own h0 (by omega) K1.1
      have W4 : WK (kOwn S1 W).1 bgn := hW.keep (sf.trans (SF.own S1 W)) (kp.trans (kp_own O1 (by omega) K1.1)) h0
      obtain ⟨h6, M6, e6, T6, R6, q6⟩ := T5.t163 (d := d) (m := (W.1, (kOwn S1 W).2, decide (k / 4 = 1))) R5 hB hPB hp4 hq (N5 ns hns) hn (F := (W.1, (kOwn S1 W).2) :: F) (by simp [h0]) (by simp; omega) (fun p hp9 m hm => ⟨(hP p hp9 m hm).1, by simp [(hP p hp9 m hm).2]⟩) O3 W4 hk7 hk3 K1.1 (by simp) rfl
      obtain ⟨c1, c2, c3⟩ := jcd_cd (kJn_r (P := P) (j := j) (S := (kOwn S1 W).1) (k := k) (ns := ns) (m := (W.1, (kOwn S1 W).2, decide (k / 4 = 1))))
      obtain ⟨h7, M7, e7, T7, R7, q7⟩ := t164_e (d := d) T6 R6 hB c1
      have e6 : ag_run gT (d + 6) 163 [.inr (some 230), .inl (nI p), .inl (nI W.1), .inl (nI (kOwn S1 W).2), .inl (nI k)] h5 = _ := e6
      have st2 : f164_90 (ag_run gT (d + 6)) (some 230) (nI p) (nI k) (nI (wcd (Sum.inr W : Nat ⊕ zW))) h3 = f164_139 (ag_run gT (d + 6)) (some 230) (nI (jcd (kJn P j (kOwn S1 W).1 ns k (W.1, (kOwn S1 W).2, decide (k / 4 = 1))).2.2)) h6 := by
        unfold f164_90 f164_137
        rw [if_pos (show nI (wcd (Sum.inr W : Nat ⊕ zW)) = ag_lit 0 from lit_0.symm), lit_0, T3.ra, e4, b_V, T4.rI (k := 38) rfl, c8, T4.rI (k := 39) rfl, c9, T4.ra, e5, b_I, hns, if_neg (show ¬ bI (some ns).isSome = nI 0 from (show ¬ bI true = nI 0 by decide)), T5.ra, e6, b_I]
      rw [st2, e7]
      refine ⟨fun e he => ⟨h7, M7, ?_, T7, R7, ?_⟩, fun n he => ⟨h7, M7, ?_, T7, R7, ?_⟩⟩
      · rw [if_neg (c2 e he).1]
      · rw [q7, (c2 e he).2]
      · rw [if_pos (c3 n he), q6 n he]
      · rw [q7, c3 n he]; rfl
end RBN3

/-! THE REFERENCE'S METHODS: mount -/
section RMNT
variable {A : zA} {M M' : Nat → Nat → Int32} {h : ag_H} {d s x i p f j o w k : Nat} {S S' : zS} {P : Nat → List zP} {Q : Nat → Option Nat} {O : Nat → Nat → zU} {F L G : List (Nat × Nat)} {W : zW} {X : List Nat × List Nat}
theorem isS_out {v : Int32} (hs : isS v s) : decide (v < nI 0 ∨ ¬ v ≤ nI 1) = false := by
  obtain ⟨h3, rfl⟩ := hs
  refine decide_eq_false ?_
  rintro (h | h)
  · exact nI_nlt (by omega) (by omega) h
  · exact h (nI_le (by omega) (by omega))
theorem noS_out {v : Int32} (hs : noS v) : decide (v < nI 0 ∨ ¬ v ≤ nI 1) = true := by
  refine decide_eq_true ?_
  by_cases h1 : v < nI 0
  · exact Or.inl h1
  · refine Or.inr fun h2 => ?_
    obtain ⟨n, hn1, rfl⟩ := nI_of (show ¬ v < 0 from h1)
    exact hs n (by have := (nI_leI hn1 (by omega)).mp h2; omega) rfl
theorem TA.t165n (hT : TA A M h) (hR : RR S P Q O X M) (hB : OB O) {v u w : Int32} (hn : noP Q v) : ∃ h' M', ag_run gT (d + 7) 165 [.inr (some 230), .inl v, .inl u, .inl w] h = some (.inl (some (.inl (nI 0))), h') ∧ TA A M' h' ∧ RR S P Q O X M' ∧ M' 230 41 = nI 1 := by
  refine ⟨_, _, ?_, hT.thr1 1, hR.z hB (FZ.up (by decide)), up2_eq _ _ _ _⟩
  rw [r165]
  unfold f165
  rw [hT.ra, hT.t144n (d := d + 5) hR.2.2.2.1 hn, b_I, lit_0, lit_1, if_pos rfl, hT.wI (k := 41) rfl]
theorem TA.t165a (hT : TA A M h) (hR : RR S P Q O X M) (hB : OB O) {v u w : Int32} (hp9 : isP Q v p j) (ha : pth X.1 = none ∨ noS u ∨ noH w) : ∃ h' M', ag_run gT (d + 7) 165 [.inr (some 230), .inl v, .inl u, .inl w] h = some (.inl (some (.inl (nI 0))), h') ∧ TA A M' h' ∧ RR S P Q O ([], []) M' ∧ M' 230 41 = nI 1 := by
  obtain ⟨h1, M1, h2, M2, e1, T1, e2, T2, R2, N2⟩ := hT.pp (d := d + 4) hR hB
  have bad : ∃ h' M', f165_43 (ag_run gT (d + 6)) (some 230) v u w h1 = some (.inl (some (.inl (nI 0))), h') ∧ TA A M' h' ∧ RR S P Q O ([], []) M' ∧ M' 230 41 = nI 1 := by
    unfold f165_43 f165_44
    rw [lit_0, lit_4, T1.ra, e2, b_V, if_pos rfl]
    exact t165_e (d := d) T2 R2 hB (c := 4) (by decide)
  rw [r165]
  unfold f165
  rw [hT.ra, hT.t144 (d := d + 5) hR.2.2.2.1 hp9, b_I, lit_0, lit_1, if_neg (show ¬ nI 1 = nI 0 by decide), hT.ra, e1, b_I]
  by_cases h1' : pth X.1 = none
  · rw [h1', if_pos (show bI (none : Option (List Nat)).isSome = nI 0 from rfl)]
    exact bad
  · obtain ⟨ns, hns⟩ := Option.ne_none_iff_exists'.mp h1'
    rw [hns, if_neg (show ¬ bI (some ns).isSome = nI 0 from (show ¬ bI true = nI 0 by decide))]
    rcases H_or w with ⟨k, hk⟩ | hk
    · rw [h160 (d := d + 5) hk, b_I, if_neg (show ¬ nI 1 = nI 0 by decide), out3, b_I]
      have hu : noS u := by
        rcases ha with h | h | h
        · exact absurd h h1'
        · exact h
        · exact absurd hk.2.2 (h k hk.1 hk.2.1)
      rw [noS_out hu, if_neg (show ¬ bI true = nI 0 by decide)]
      exact bad
    · rw [h160n (d := d + 5) hk, b_I, if_pos rfl]
      exact bad
theorem TA.t165 (hT : TA A M h) (hR : RR S P Q O X M) (hB : OB O) (hPB : PB P) {v u w : Int32} (hp9 : isP Q v p j) {ns : List Nat} (hns : pth X.1 = some ns) (hu : isS u s) (hh : isH w k) (hn : PN P j) (h0 : (0, 0) ∈ F) (hl : F.length + 4 < 128) (hP : PM P j F) (hO : OW S F) (hW : WK S bgn) :
    (∀ e, (kMt P j S ns s k).2.2 = .inl e → ∃ h' M', ag_run gT (d + 7) 165 [.inr (some 230), .inl v, .inl u, .inl w] h = some (.inl (some (.inl (nI 0))), h') ∧ TA A M' h' ∧ RR (kMt P j S ns s k).1 (kMt P j S ns s k).2.1 Q O ([], []) M' ∧ M' 230 41 = nI (e + 1)) ∧
    ∀ n, (kMt P j S ns s k).2.2 = .inr n → ∃ h' M', ag_run gT (d + 7) 165 [.inr (some 230), .inl v, .inl u, .inl w] h = some (.inl (some (.inl (nI n))), h') ∧ TA A M' h' ∧ RR (kMt P j S ns s k).1 (kMt P j S ns s k).2.1 Q O ([], []) M' ∧ M' 230 41 = nI 0 := by
  obtain ⟨h1, M1, h2, M2, e1, T1, e2, T2, R2, N2⟩ := hT.pp (d := d + 4) hR hB
  have N2 := N2 ns hns
  have e160 := h160 (d := d + 5) (h := h1) hh
  have e114 := isS_out hu
  have e144 := hT.t144 (d := d + 5) hR.2.2.2.1 hp9
  obtain ⟨hk7, hk3, rfl⟩ := hh
  obtain ⟨hp4, rfl, hq⟩ := hp9
  obtain ⟨hs, rfl⟩ := hu
  obtain ⟨f1, f2, -, -⟩ := hO.free hs (by omega)
  have e3 := T2.t122 (d := d + 5) R2.1 hs (hO.1 s hs) f1
  obtain ⟨h4, M4, e4, T4, V4, G4, F4⟩ := T2.t123 (d := d + 3) R2.1 hs f2 (hO.1 s hs)
  have R4 : RR (kAtt S s (fre S s)) P Q O ([], []) M4 := R2.w hB F4.w V4 G4
  have W4 : WK (kAtt S s (fre S s)) bgn := hW.keep (SF.att S s _) (kp_att hO hs (by omega)) h0
  obtain ⟨h6, M6, e6, T6, R6, q6⟩ := T4.t163 (d := d) (m := (s, fre S s, decide (k / 4 = 1))) R4 hB hPB hp4 hq (N2.fw F4.w) hn (F := (s, fre S s) :: F) (by simp [h0]) (by simp; omega) (fun p hp9 m hm => ⟨(hP p hp9 m hm).1, by simp [(hP p hp9 m hm).2]⟩) (hO.att hs (by omega)) W4 hk7 hk3 hs (by simp) rfl
  obtain ⟨c1, c2, c3⟩ := jcd_cd (kJn_r (P := P) (j := j) (S := kAtt S s (fre S s)) (k := k) (ns := ns) (m := (s, fre S s, decide (k / 4 = 1))))
  obtain ⟨h7, M7, e7, T7, R7, q7⟩ := t165_e (d := d) T6 R6 hB c1
  have e6 : ag_run gT (d + 6) 163 [.inr (some 230), .inl (nI p), .inl (nI s), .inl (nI (fre S s)), .inl (nI k)] h4 = _ := e6
  have st : ag_run gT (d + 7) 165 [.inr (some 230), .inl (nI p), .inl (nI s), .inl (nI k)] h = f165_83 (ag_run gT (d + 6)) (some 230) (nI (jcd (kJn P j (kAtt S s (fre S s)) ns k (s, fre S s, decide (k / 4 = 1))).2.2)) h6 := by
    rw [r165]
    unfold f165 f165_44
    rw [hT.ra, e144, b_I, lit_0, lit_1, if_neg (show ¬ nI 1 = nI 0 by decide), hT.ra, e1, b_I, hns, if_neg (show ¬ bI (some ns).isSome = nI 0 from (show ¬ bI true = nI 0 by decide)), e160, b_I, if_neg (show ¬ nI 1 = nI 0 by decide), out3, b_I, e114, if_pos (show bI false = nI 0 from rfl), T1.ra, e2, b_V, if_neg (show ¬ nI 1 = nI 0 by decide), T2.ra, e3, b_I, T2.ra, e4, b_V, T4.ra, e6, b_I]
  rw [st, e7]
  refine ⟨fun e he => ⟨h7, M7, ?_, T7, R7, ?_⟩, fun n he => ⟨h7, M7, ?_, T7, R7, ?_⟩⟩
  · rw [if_neg (c2 e he).1]
  · rw [q7, (c2 e he).2]
  · rw [if_pos (c3 n he), q6 n he]
  · rw [q7, c3 n he]; rfl
end RMNT

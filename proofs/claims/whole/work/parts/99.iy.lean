section IVO
variable {S S' : zS} {P : Nat → List zP} {Q : Nat → Option Nat} {O O' : Nat → Nat → zU} {F L L' G : List (Nat × Nat)} {p f j s h k : Nat} {x : Nat × Nat} {W : zW} {ns nk : List Nat}
theorem kCpy_2 : ∀ (ms : List zM) (S : zS), (∀ m ∈ ms, m.1 < 2) → ∀ m ∈ (kCpy ms S).2, m.1 < 2 := by
  intro ms
  induction ms with
  | nil => intro S _ m hm; cases hm
  | cons a ms ih =>
    intro S hv m hm
    rcases List.mem_cons.mp hm with h | h
    · rw [h]; exact hv a (by simp)
    · exact ih _ (fun m' h' => hv m' (by simp [h'])) m h
theorem kTk_2 (hw : W.1 < 2) (hv : ∀ q ∈ P j, q.2.length ≤ 3 ∧ ∀ m ∈ q.2, m.1 < 2) : (∀ m ∈ (kTk P j S W).2, m.1 < 2) ∧ (kTk P j S W).2.length ≤ 3 := by
  unfold kTk
  cases hpi : pidx (P j) W.1 W.2.2.1 with
  | none =>
    dsimp only
    exact ⟨fun m hm => by rw [List.mem_singleton.mp hm]; exact hw, by simp⟩
  | some k =>
    dsimp only
    have := hv _ (getD_memP (pidx_lt hpi))
    exact ⟨kCpy_2 _ _ this.2, by rw [kCpy_len]; exact this.1⟩
theorem kOpL_sub {m : Nat} : ∀ (ms : List zM) (S : zS) (e : Nat), (∀ y ∈ (kOpL m ms S e).2.1, y ∈ ms) ∧ (kOpL m ms S e).2.1.length ≤ ms.length := by
  intro ms
  induction ms with
  | nil => intro S e; exact ⟨fun y hy => hy, Nat.le_refl _⟩
  | cons a ms ih =>
    intro S e
    unfold kOpL
    split
    · exact ⟨fun y hy => List.mem_cons_of_mem _ ((ih _ _).1 y hy), Nat.le_succ_of_le (ih _ _).2⟩
    · refine ⟨fun y hy => ?_, Nat.succ_le_succ (ih _ _).2⟩
      rcases List.mem_cons.mp hy with h | h
      · rw [h]; exact List.mem_cons_self
      · exact List.mem_cons_of_mem _ ((ih _ _).1 y h)
/-- open -/
theorem OW.opw {m : Nat} (hO : OW S (owL P O)) (hl : (owL P O).length + 4 < 128) (hW : WK S bgn) (hj : j < 4) (h2 : PM2 P) (hB : PB P) : ∀ w, (kWk P j ns S bgn).2 = .inr w → ∀ T ms R ms' e, kTk P j (kWk P j ns S bgn).1 w = (T, ms) → kOpL m ms T 0 = (R, ms', e) →
    OW R (ms'.map hp2 ++ owL P O) ∧ KP (owL P O) S R ∧ SF S R ∧ (∀ y ∈ ms', y.1 < 2) ∧ ms'.length ≤ 3 ∧ ms.length ≤ 3 := by
  intro w he T ms R ms' e hT hR
  have h0 : (0, 0) ∈ owL P O := own_00
  have hP := own_PM (O := O) hj (h2 j hj)
  have h3 : ∀ q ∈ P j, q.2.length ≤ 3 := fun q hq => ((hB j hj).2 q hq).2.2.1
  obtain ⟨-, o2⟩ := OW.wk h0 (by omega) hP ns S bgn hO hW
  have kp := kp_wk h0 (by omega) hP ns S bgn hO hW
  have sf := SF.wk (P := P) (j := j) ns S bgn
  obtain ⟨g1, g2, -⟩ := o2 w he
  have t1 := g1.tk h0 hl g2.1 hP h3
  have t2 := kp_tk g1 hl g2.1 hP h3
  have t3 := SF.tk (P := P) (j := j) (kWk P j ns S bgn).1 w
  obtain ⟨t4, t5⟩ := kTk_2 (S := (kWk P j ns S bgn).1) g2.1 (fun q hq => ⟨h3 q hq, h2 j hj q hq⟩)
  rw [hT] at t1 t2 t3 t4 t5
  have r1 := OW.opl (m := m) ms T 0 _ t1 h0 t4
  have r2 := kp_opl (m := m) ms T 0 _ t1 h0 t4
  have r3 := SF.opl (m := m) ms T 0
  obtain ⟨r4, r5⟩ := kOpL_sub (m := m) ms T 0
  rw [hR] at r1 r2 r3 r4 r5
  have t5 : ms.length ≤ 3 := t5
  exact ⟨r1, (kp.trans t2).trans r2, (sf.trans t3).trans r3, fun y hy => t4 y (r4 y hy), Nat.le_trans r5 t5, t5⟩
end IVO

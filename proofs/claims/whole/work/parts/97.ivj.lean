/-! THE INVARIANT: binding -/
def bas (O : Nat → Nat → zU) : List (Nat × Nat) := (0, 0) :: (1, 0) :: hmO O
def PM2 (P : Nat → List zP) : Prop := ∀ j, j < 4 → ∀ q ∈ P j, ∀ m ∈ q.2, m.1 < 2
section IVJ
variable {S S' : zS} {P : Nat → List zP} {Q : Nat → Option Nat} {O : Nat → Nat → zU} {F L L' G : List (Nat × Nat)} {p f j s h k : Nat} {x : Nat × Nat} {W : zW}
theorem bas_own : ∀ x ∈ bas O, x ∈ owL P O := fun x hx => by
  unfold bas at hx
  unfold owL
  simp only [List.mem_cons, List.mem_append] at hx ⊢
  rcases hx with h | h | h
  · exact Or.inl h
  · exact Or.inr (Or.inl h)
  · exact Or.inr (Or.inr (Or.inr h))
theorem OW.gof (hO : OW S (fl W ++ F)) (hw : W.1 < 2) : OW (kGo S W.1 W.2.1) F := by
  unfold kGo
  unfold fl at hO
  by_cases e : W.1 = 0 ∧ W.2.1 = 0
  · rw [if_pos e] at hO ⊢; exact hO
  · rw [if_neg e] at hO ⊢
    have := hO.cl (s := W.1) (h := W.2.1) hw (by simp)
    rw [show [(W.1, W.2.1)] ++ F = (W.1, W.2.1) :: F from rfl, List.erase_cons_head] at this
    exact this
theorem mps_app (ps : List zP) (q : zP) : (mps (ps ++ [q])).count x = (mps ps).count x + (q.2.map hp2).count x := by
  unfold mps
  rw [List.flatMap_append, List.count_append, List.flatMap_singleton]
theorem mps_set (a : Nat × Nat) (l : List zM) : ∀ (ps : List zP) (k : Nat), k < ps.length → (mps (ps.set k (a, l))).count x + ((ps.getD k dP).2.map hp2).count x = (mps ps).count x + (l.map hp2).count x := by
  intro ps
  induction ps with
  | nil => intro k hk; exact absurd hk (Nat.not_lt_zero _)
  | cons q ps ih =>
    intro k hk
    cases k with
    | zero =>
      show (mps ((a, l) :: ps)).count x + (q.2.map hp2).count x = (mps (q :: ps)).count x + _
      unfold mps
      rw [List.flatMap_cons, List.flatMap_cons, List.count_append, List.count_append]
      dsimp only
      omega
    | succ k =>
      have := ih k (by simpa using hk)
      show (mps (q :: ps.set k (a, l))).count x + ((ps.getD k dP).2.map hp2).count x = (mps (q :: ps)).count x + _
      unfold mps at this ⊢
      rw [List.flatMap_cons, List.flatMap_cons, List.count_append, List.count_append]
      omega
theorem mps_erase : ∀ (ps : List zP) (k : Nat), k < ps.length → (mps (ps.eraseIdx k)).count x + ((ps.getD k dP).2.map hp2).count x = (mps ps).count x := by
  intro ps
  induction ps with
  | nil => intro k hk; exact absurd hk (Nat.not_lt_zero _)
  | cons q ps ih =>
    intro k hk
    cases k with
    | zero =>
      show (mps ps).count x + (q.2.map hp2).count x = (mps (q :: ps)).count x
      unfold mps
      rw [List.flatMap_cons, List.count_append]
      omega
    | succ k =>
      have := ih k (by simpa using hk)
      show (mps (q :: ps.eraseIdx k)).count x + ((ps.getD k dP).2.map hp2).count x = (mps (q :: ps)).count x
      unfold mps at this ⊢
      rw [List.flatMap_cons, List.flatMap_cons, List.count_append, List.count_append]
      omega
theorem jnL_cnt (m : zM) (l : List zM) : ((jnL k m l).map hp2).count x = (l.map hp2).count x + [hp2 m].count x := by
  unfold jnL
  split
  · rw [List.map_cons, show hp2 m :: l.map hp2 = [hp2 m] ++ l.map hp2 from rfl, List.count_append]; omega
  · rw [List.map_append, List.count_append]; rfl
/-- what binding keeps -/
theorem OW.j2 {m : zM} (hO : OW S (fl W ++ (m.1, m.2.1) :: owL P O)) (hl : (owL P O).length + 2 < 128) (hW : WK S W) (hj : j < 4) (hm : m.1 < 2) (h2 : PM2 P) :
    OW (kJ2 P j S W k m).1 (owL (kJ2 P j S W k m).2.1 O) ∧ KP (bas O) S (kJ2 P j S W k m).1 ∧ SF S (kJ2 P j S W k m).1 := by
  have h0 : (0, 0) ∈ owL P O := own_00
  have h00 : (0, 0) ∈ (m.1, m.2.1) :: owL P O := List.mem_cons_of_mem _ h0
  have hw1 := hW.1
  have g1 := hO.gof hw1
  have k1 : KP ((m.1, m.2.1) :: owL P O) S (kGo S W.1 W.2.1) := kp_go (fl_nin hO hw1)
  have sub : ∀ x ∈ bas O, x ∈ (m.1, m.2.1) :: owL P O := fun x hx => List.mem_cons_of_mem _ (bas_own x hx)
  -- nothing is bound
  have full : OW (kGo (kGo S W.1 W.2.1) m.1 m.2.1) (owL P O) ∧ KP (bas O) S (kGo (kGo S W.1 W.2.1) m.1 m.2.1) ∧ SF S (kGo (kGo S W.1 W.2.1) m.1 m.2.1) := by
    obtain ⟨g2, g3⟩ := g1.goh h0 hm
    exact ⟨g2, (k1.sub sub).trans ((kp_go (Or.inr (g1.nin hm))).sub bas_own), (SF.go S _ _).trans (SF.go _ _ _)⟩
  -- the member goes in, the place's handle goes
  have put : ∀ ps', (∀ x, (owL (up1 P j ps') O).count x = ((m.1, m.2.1) :: owL P O).count x) → OW (kGo S W.1 W.2.1) (owL (up1 P j ps') O) ∧ KP (bas O) S (kGo S W.1 W.2.1) ∧ SF S (kGo S W.1 W.2.1) := fun ps' he => ⟨g1.cnt he, k1.sub sub, SF.go S _ _⟩
  have cm : ∀ x, ((m.1, m.2.1) :: owL P O).count x = [hp2 m].count x + (owL P O).count x := fun x => by
    rw [show (m.1, m.2.1) :: owL P O = [hp2 m] ++ owL P O from rfl, List.count_append]
  unfold kJ2
  cases hpi : pidx (P j) W.1 W.2.2.1 with
  | none =>
    dsimp only
    by_cases c1 : 4 ≤ (P j).length ∨ W.2.2.2 = false
    · rw [if_pos c1]; exact full
    · rw [if_neg c1]
      by_cases c2 : k % 4 = 0
      · rw [if_pos c2]
        refine put _ fun x => ?_
        have e1 := own_P (O := O) (P := P) (x := x) hj (P j ++ [((W.1, W.2.2.1), jnL k m [])])
        have e2 := mps_app (x := x) (P j) ((W.1, W.2.2.1), jnL k m [])
        have e3 := jnL_cnt (k := k) (x := x) m []
        rw [List.map_nil, List.count_nil] at e3
        rw [cm]
        dsimp only at e2
        omega
      · rw [if_neg c2]
        have O3 := hO.own h00 (by simp; omega) hw1
        refine ⟨O3.cnt fun x => ?_, (kp_own hO (by simp; omega) hw1).sub sub, SF.own S W⟩
        have e1 := own_P (O := O) (P := P) (x := x) hj (P j ++ [((W.1, W.2.2.1), jnL k m [(W.1, (kOwn S W).2, true)])])
        have e2 := mps_app (x := x) (P j) ((W.1, W.2.2.1), jnL k m [(W.1, (kOwn S W).2, true)])
        have e3 := jnL_cnt (k := k) (x := x) m [(W.1, (kOwn S W).2, true)]
        have e4 : ((W.1, (kOwn S W).2) :: (m.1, m.2.1) :: owL P O).count x = (([(W.1, (kOwn S W).2, true)] : List zM).map hp2).count x + ((m.1, m.2.1) :: owL P O).count x := by
          rw [show (W.1, (kOwn S W).2) :: (m.1, m.2.1) :: owL P O = (([(W.1, (kOwn S W).2, true)] : List zM).map hp2) ++ ((m.1, m.2.1) :: owL P O) from rfl, List.count_append]
        have e5 := cm x
        dsimp only at e2 ⊢
        omega
  | some k' =>
    dsimp only
    have hk' := pidx_lt hpi
    by_cases c1 : (k % 4 ≠ 0 ∧ 3 ≤ ((P j).getD k' dP).2.length) ∨ W.2.2.2 = false
    · rw [if_pos c1]; exact full
    · rw [if_neg c1]
      by_cases c2 : k % 4 = 0
      · rw [if_pos c2]
        have e1 : ∀ x, (((P j).getD k' dP).2.map hp2 ++ (fl W ++ owL (up1 P j ((P j).set k' (((P j).getD k' dP).1, jnL k m []))) O)).count x = (fl W ++ (m.1, m.2.1) :: owL P O).count x := fun x => by
          have e1 := own_P (O := O) (P := P) (x := x) hj ((P j).set k' (((P j).getD k' dP).1, jnL k m []))
          have e2 := mps_set (x := x) ((P j).getD k' dP).1 (jnL k m []) (P j) k' hk'
          have e3 := jnL_cnt (k := k) (x := x) m []
          rw [List.map_nil, List.count_nil] at e3
          rw [List.count_append, List.count_append, List.count_append, cm]
          omega
        have hv : ∀ y ∈ ((P j).getD k' dP).2, y.1 < 2 := h2 j hj _ (getD_memP hk')
        have O4 := OW.cla _ _ (hO.cnt e1) hv
        have K4 := kp_cla _ _ (hO.cnt e1) hv
        refine ⟨O4.gof hw1, (K4.sub fun x hx => List.mem_append_right _ (bas_own x hx)).trans ((kp_go (fl_nin O4 hw1)).sub bas_own), (SF.cla _ S).trans (SF.go _ _ _)⟩
      · rw [if_neg c2]
        refine put _ fun x => ?_
        have e1 := own_P (O := O) (P := P) (x := x) hj ((P j).set k' (((P j).getD k' dP).1, jnL k m ((P j).getD k' dP).2))
        have e2 := mps_set (x := x) ((P j).getD k' dP).1 (jnL k m ((P j).getD k' dP).2) (P j) k' hk'
        have e3 := jnL_cnt (k := k) (x := x) m ((P j).getD k' dP).2
        rw [cm]
        omega
end IVJ

section IVB
variable {S S' : zS} {P : Nat → List zP} {Q : Nat → Option Nat} {O : Nat → Nat → zU} {F L L' G : List (Nat × Nat)} {p f j s h k : Nat} {x : Nat × Nat} {W : zW} {ns nk : List Nat}
theorem OW.jn {m : zM} (hO : OW S ((m.1, m.2.1) :: owL P O)) (hl : (owL P O).length + 4 < 128) (hW : WK S bgn) (hj : j < 4) (hm : m.1 < 2) (h2 : PM2 P) :
    OW (kJn P j S ns k m).1 (owL (kJn P j S ns k m).2.1 O) ∧ KP (bas O) S (kJn P j S ns k m).1 ∧ SF S (kJn P j S ns k m).1 := by
  have h0 : (0, 0) ∈ owL P O := own_00
  have h00 : (0, 0) ∈ (m.1, m.2.1) :: owL P O := List.mem_cons_of_mem _ h0
  have hP : PM P j ((m.1, m.2.1) :: owL P O) := fun q hq y hy => ⟨h2 j hj q hq y hy, List.mem_cons_of_mem _ (own_PM hj (h2 j hj) q hq y hy).2⟩
  have sub : ∀ x ∈ bas O, x ∈ (m.1, m.2.1) :: owL P O := fun x hx => List.mem_cons_of_mem _ (bas_own x hx)
  obtain ⟨o1, o2⟩ := OW.wk h00 (by simp; omega) hP ns S bgn hO hW
  have kp := kp_wk h00 (by simp; omega) hP ns S bgn hO hW
  have sf := SF.wk (P := P) (j := j) ns S bgn
  unfold kJn
  rcases hx : kWk P j ns S bgn with ⟨T, r⟩
  rw [hx] at o1 o2 kp sf
  cases r with
  | inl e =>
    have g1 := (o1 e rfl).1
    exact ⟨(g1.goh h0 hm).1, (kp.sub sub).trans ((kp_go (Or.inr (g1.nin hm))).sub bas_own), sf.trans (SF.go _ _ _)⟩
  | inr W =>
    obtain ⟨g1, g2, -⟩ := o2 W rfl
    obtain ⟨a, b, c⟩ := OW.j2 (k := k) g1 (by omega) g2 hj hm h2
    exact ⟨a, (kp.sub sub).trans b, sf.trans c⟩
theorem OW.bd (hO : OW S (owL P O)) (hl : (owL P O).length + 4 < 128) (hW : WK S bgn) (hj : j < 4) (h2 : PM2 P) :
    OW (kBd P j S ns nk k).1 (owL (kBd P j S ns nk k).2.1 O) ∧ KP (bas O) S (kBd P j S ns nk k).1 ∧ SF S (kBd P j S ns nk k).1 := by
  have h0 : (0, 0) ∈ owL P O := own_00
  have hP := own_PM (O := O) hj (h2 j hj)
  obtain ⟨o1, o2⟩ := OW.wk h0 (by omega) hP nk S bgn hO hW
  have kp := kp_wk h0 (by omega) hP nk S bgn hO hW
  have sf := SF.wk (P := P) (j := j) nk S bgn
  unfold kBd
  rcases hx : kWk P j nk S bgn with ⟨T, r⟩
  rw [hx] at o1 o2 kp sf
  cases r with
  | inl e => exact ⟨(o1 e rfl).1, kp.sub bas_own, sf⟩
  | inr W =>
    obtain ⟨g1, g2, -⟩ := o2 W rfl
    dsimp only
    by_cases hd : W.2.2.2 = false
    · rw [if_pos hd]
      exact ⟨g1.gof g2.1, (kp.trans (kp_go (fl_nin g1 g2.1))).sub bas_own, sf.trans (SF.go _ _ _)⟩
    · rw [if_neg hd]
      have kp3 := kp.trans (kp_own g1 (by omega) g2.1)
      have sf3 := sf.trans (SF.own T W)
      have O3 := g1.own h0 (by omega) g2.1
      obtain ⟨a, b, c⟩ := OW.jn (ns := ns) (k := k) (m := (W.1, (kOwn T W).2, decide (k / 4 = 1))) O3 hl (hW.keep sf3 kp3 h0) hj g2.1 h2
      exact ⟨a, (kp3.sub bas_own).trans b, sf3.trans c⟩
theorem OW.mt (hO : OW S (owL P O)) (hl : (owL P O).length + 4 < 128) (hW : WK S bgn) (hj : j < 4) (hs : s < 2) (h2 : PM2 P) :
    OW (kMt P j S ns s k).1 (owL (kMt P j S ns s k).2.1 O) ∧ KP (bas O) S (kMt P j S ns s k).1 ∧ SF S (kMt P j S ns s k).1 := by
  have h0 : (0, 0) ∈ owL P O := own_00
  have kp := kp_att hO hs (by omega)
  have sf := SF.att S s (fre S s)
  obtain ⟨a, b, c⟩ := OW.jn (ns := ns) (k := k) (m := (s, fre S s, decide (k / 4 = 1))) (hO.att hs (by omega)) hl (hW.keep sf kp h0) hj hs h2
  exact ⟨a, (kp.sub bas_own).trans b, sf.trans c⟩
theorem OW.um (hO : OW S (owL P O)) (hl : (owL P O).length + 4 < 128) (hW : WK S bgn) (hj : j < 4) (h2 : PM2 P) :
    OW (kUm P j S ns).1 (owL (kUm P j S ns).2.1 O) ∧ KP (bas O) S (kUm P j S ns).1 ∧ SF S (kUm P j S ns).1 := by
  have h0 : (0, 0) ∈ owL P O := own_00
  have hP := own_PM (O := O) hj (h2 j hj)
  obtain ⟨o1, o2⟩ := OW.wk h0 (by omega) hP ns S bgn hO hW
  have kp := kp_wk h0 (by omega) hP ns S bgn hO hW
  have sf := SF.wk (P := P) (j := j) ns S bgn
  unfold kUm
  rcases hx : kWk P j ns S bgn with ⟨T, r⟩
  rw [hx] at o1 o2 kp sf
  cases r with
  | inl e => exact ⟨(o1 e rfl).1, kp.sub bas_own, sf⟩
  | inr W =>
    obtain ⟨g1, g2, -⟩ := o2 W rfl
    dsimp only
    cases hpi : pidx (P j) W.1 W.2.2.1 with
    | none => exact ⟨g1.gof g2.1, (kp.trans (kp_go (fl_nin g1 g2.1))).sub bas_own, sf.trans (SF.go _ _ _)⟩
    | some k' =>
      dsimp only
      have hk' := pidx_lt hpi
      have e1 : ∀ x, (((P j).getD k' dP).2.map hp2 ++ (fl W ++ owL (up1 P j ((P j).eraseIdx k')) O)).count x = (fl W ++ owL P O).count x := fun x => by
        have e1 := own_P (O := O) (P := P) (x := x) hj ((P j).eraseIdx k')
        have e2 := mps_erase (x := x) (P j) k' hk'
        rw [List.count_append, List.count_append, List.count_append]
        omega
      have hv : ∀ y ∈ ((P j).getD k' dP).2, y.1 < 2 := h2 j hj _ (getD_memP hk')
      have O4 := OW.cla _ _ (g1.cnt e1) hv
      have K4 := kp_cla _ _ (g1.cnt e1) hv
      exact ⟨O4.gof g2.1, (kp.sub bas_own).trans ((K4.sub fun x hx => List.mem_append_right _ (bas_own x hx)).trans ((kp_go (fl_nin O4 g2.1)).sub bas_own)), sf.trans ((SF.cla _ T).trans (SF.go _ _ _))⟩
/-- fork -/
theorem OW.fk {i : Nat} (hO : OW S (owL P O)) (hl : (owL P O).length + 12 ≤ 128) (hj : j < 4) (hi : i < 4) (h2 : PM2 P) (hB : PB P) (hn : P i = []) :
    OW (kCs (P j) S).1 (owL (up1 P i (kCs (P j) S).2) O) ∧ KP (bas O) S (kCs (P j) S).1 ∧ SF S (kCs (P j) S).1 := by
  have b1 := hB j hj
  obtain ⟨a, b, c⟩ := OW.cs (P j) S (owL P O) hO (by have := b1.1; omega) (fun q hq => ⟨(b1.2 q hq).2.2.1, own_PM hj (h2 j hj) q hq⟩)
  refine ⟨a.cnt fun x => ?_, b.sub bas_own, c⟩
  have e1 := own_P (O := O) (P := P) (x := x) hi (kCs (P j) S).2
  rw [hn, show mps [] = [] from rfl, List.count_nil] at e1
  rw [List.count_append]
  omega
/-- close -/
theorem OW.clo (hO : OW S (owL P O)) (hp9 : p < 4) (hf : f < 5) (hu : (O p f).1 = true) (hv : ∀ m ∈ (O p f).2.1, m.1 < 2) (u : zO) :
    OW (kClA S (O p f).2.1) (owL P (up2 O p f (false, u))) ∧ KP (owL P (up2 O p f (false, u))) S (kClA S (O p f).2.1) ∧ SF S (kClA S (O p f).2.1) := by
  have e : ∀ x, ((O p f).2.1.map hp2 ++ owL P (up2 O p f (false, u))).count x = (owL P O).count x := fun x => by
    have e1 := own_O (P := P) (O := O) (x := x) hp9 hf (false, u)
    have e2 : rowh (O p f) = (O p f).2.1.map hp2 := by unfold rowh; rw [hu]; rfl
    have e3 : rowh (false, u) = [] := rfl
    rw [e2, e3, List.count_nil] at e1
    rw [List.count_append]
    omega
  exact ⟨OW.cla _ _ (hO.cnt e) hv, kp_cla _ _ (hO.cnt e) hv, SF.cla _ S⟩
/-- open -/
theorem OW.opd {ms : List zM} {u : zU} (hO : OW S (ms.map hp2 ++ owL P O)) (hp9 : p < 4) (hf : f < 5) (hu : (O p f).1 = false) (hu2 : u.1 = true) (hu3 : u.2.1 = ms) : OW S (owL P (up2 O p f u)) := hO.cnt fun x => by
  have e1 := own_O (P := P) (O := O) (x := x) hp9 hf u
  have e2 : rowh (O p f) = [] := by unfold rowh; rw [hu]; rfl
  have e3 : rowh u = ms.map hp2 := by unfold rowh; rw [hu2, hu3]; rfl
  rw [e2, e3, List.count_nil] at e1
  rw [List.count_append]
  omega
/-- a row not in use does not count -/
theorem owL_un {u : zU} (hp9 : p < 4) (hf : f < 5) (hu : (O p f).1 = false) (hu2 : u.1 = false) : (owL P (up2 O p f u)).count x = (owL P O).count x := by
  have e1 := own_O (P := P) (O := O) (x := x) hp9 hf u
  have e2 : rowh (O p f) = [] := by unfold rowh; rw [hu]; rfl
  have e3 : rowh u = [] := by unfold rowh; rw [hu2]; rfl
  rw [e2, e3, List.count_nil] at e1
  omega
end IVB

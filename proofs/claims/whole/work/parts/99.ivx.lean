section IVX
variable {S S' : zS} {P : Nat → List zP} {Q : Nat → Option Nat} {O O' : Nat → Nat → zU} {F L L' G : List (Nat × Nat)} {p f j s h k : Nat} {x : Nat × Nat} {W : zW} {ns nk : List Nat}
theorem hmO_mono (hh : ∀ p f, (O' p f).1 = true → O' p f = O p f) : ∀ x ∈ hmO O', x ∈ hmO O := fun x hx => by
  unfold hmO at hx ⊢
  simp only [List.mem_flatMap, List.mem_range] at hx ⊢
  obtain ⟨p, hp9, f, hf, hx⟩ := hx
  refine ⟨p, hp9, f, hf, ?_⟩
  cases hu : (O' p f).1
  · unfold rowh at hx; rw [hu] at hx; cases hx
  · rw [hh p f hu] at hx; exact hx
theorem bas_mono (hh : ∀ p f, (O' p f).1 = true → O' p f = O p f) : ∀ x ∈ bas O', x ∈ bas O := fun x hx => by
  unfold bas at hx ⊢
  simp only [List.mem_cons] at hx ⊢
  rcases hx with h | h | h
  · exact Or.inl h
  · exact Or.inr (Or.inl h)
  · exact Or.inr (Or.inr (hmO_mono hh x h))
theorem clO_in {n n' : Nat} (hn : n' ≤ n) : ∀ p' f', (clO O p n p' f').1 = true → clO O p n p' f' = clO O p n' p' f' := fun p' f' hu => by
  unfold clO at hu ⊢
  by_cases e : p' = p ∧ f' < n
  · rw [if_pos e] at hu; cases hu
  · rw [if_neg e, if_neg (fun h => e ⟨h.1, by omega⟩)]
/-- the open files of a process are closed -/
theorem OW.cf (hp9 : p < 4) (hv : ∀ f, f < 5 → (O p f).1 = true → ∀ m ∈ (O p f).2.1, m.1 < 2) : ∀ (m f : Nat) (S : zS), f + m = 5 → OW S (owL P (clO O p f)) →
    OW (kCf O p (List.range' f m) S) (owL P (clO O p 5)) ∧ KP (bas (clO O p 5)) S (kCf O p (List.range' f m) S) ∧ SF S (kCf O p (List.range' f m) S) := by
  intro m
  induction m with
  | zero =>
    intro f S hf hO
    obtain rfl : f = 5 := by omega
    exact ⟨hO, KP.refl S, SF.refl S⟩
  | succ m ih =>
    intro f S hf hO
    have f5 : f < 5 := by omega
    have hcf : clO O p f p f = O p f := if_neg (by omega)
    rw [List.range'_succ]
    show OW (kCf O p (List.range' (f + 1) m) (bif (O p f).1 then kClA S (O p f).2.1 else S)) _ ∧ _
    cases hu : (O p f).1
    · obtain ⟨a, b, c⟩ := ih (f + 1) S (by omega) (by rw [← clO_n O p f hu]; exact hO)
      refine ⟨a, ?_, ?_⟩
      · show KP _ S (kCf O p (List.range' (f + 1) m) (bif (O p f).1 then kClA S (O p f).2.1 else S))
        rw [hu]; exact b
      · show SF S (kCf O p (List.range' (f + 1) m) (bif (O p f).1 then kClA S (O p f).2.1 else S))
        rw [hu]; exact c
    · obtain ⟨a1, b1, c1⟩ := OW.clo hO hp9 f5 (by rw [hcf]; exact hu) (by rw [hcf]; exact hv f f5 hu) (clO O p f p f).2
      rw [clO_s, hcf] at a1 b1
      rw [hcf] at c1
      obtain ⟨a, b, c⟩ := ih (f + 1) _ (by omega) a1
      refine ⟨a, ?_, ?_⟩
      · show KP _ S (kCf O p (List.range' (f + 1) m) (bif (O p f).1 then kClA S (O p f).2.1 else S))
        rw [hu]
        exact (b1.sub fun x hx => bas_own x (bas_mono (clO_in (show f + 1 ≤ 5 by omega)) x hx)).trans b
      · show SF S (kCf O p (List.range' (f + 1) m) (bif (O p f).1 then kClA S (O p f).2.1 else S))
        rw [hu]
        exact c1.trans c
theorem OW.es : ∀ (ps : List zP) (S : zS), OW S (mps ps ++ G) → (∀ q ∈ ps, ∀ m ∈ q.2, m.1 < 2) → OW (kEs S ps) G ∧ KP G S (kEs S ps) ∧ SF S (kEs S ps) := by
  intro ps
  induction ps with
  | nil => intro S hO _; exact ⟨hO, KP.refl S, SF.refl S⟩
  | cons q ps ih =>
    intro S hO hv
    have hO : OW S (q.2.map hp2 ++ (mps ps ++ G)) := by
      rw [← List.append_assoc]; exact hO
    have hq := hv q (by simp)
    have O1 := OW.cla _ _ hO hq
    have K1 := kp_cla _ _ hO hq
    obtain ⟨a, b, c⟩ := ih (kClA S q.2) O1 (fun r hr => hv r (by simp [hr]))
    exact ⟨a, (K1.sub fun x hx => List.mem_append_right _ hx).trans b, (SF.cla _ S).trans c⟩
/-- exit -/
theorem OW.ex (hO : OW S (owL P O)) (hp9 : p < 4) (hj : j < 4) (h2 : PM2 P) (hv : ∀ f, f < 5 → (O p f).1 = true → ∀ m ∈ (O p f).2.1, m.1 < 2) :
    OW (kEx P Q p j (kCf O p (List.range 5) S)) (owL (pEx P Q p j) (clO O p 5)) ∧ KP (bas (clO O p 5)) S (kEx P Q p j (kCf O p (List.range 5) S)) ∧ SF S (kEx P Q p j (kCf O p (List.range 5) S)) := by
  have h0 : clO O p 0 = O := by
    funext a b
    exact if_neg (by omega)
  obtain ⟨a, b, c⟩ := OW.cf (P := P) hp9 hv 5 0 S (by decide) (by rw [h0]; exact hO)
  rw [List.range_eq_range']
  unfold kEx pEx
  by_cases e : usr (up1 Q p none) j = 0
  · rw [if_pos e, if_pos e]
    have he : ∀ x, (mps (P j) ++ owL (up1 P j []) (clO O p 5)).count x = (owL P (clO O p 5)).count x := fun x => by
      have e1 := own_P (O := clO O p 5) (P := P) (x := x) hj []
      rw [show mps [] = [] from rfl, List.count_nil] at e1
      rw [List.count_append]
      omega
    obtain ⟨a2, b2, c2⟩ := OW.es (P j) _ (a.cnt he) (h2 j hj)
    exact ⟨a2, b.trans (b2.sub bas_own), c.trans c2⟩
  · rw [if_neg e, if_neg e]
    exact ⟨a, b, c⟩
/-- stat -/
theorem OW.stt (hO : OW S (owL P O)) (hl : (owL P O).length + 4 < 128) (hW : WK S bgn) (hj : j < 4) (h2 : PM2 P) :
    (∀ e, (kWk P j ns S bgn).2 = .inl e → OW (kWk P j ns S bgn).1 (owL P O) ∧ KP (owL P O) S (kWk P j ns S bgn).1 ∧ SF S (kWk P j ns S bgn).1) ∧
    ∀ w, (kWk P j ns S bgn).2 = .inr w → OW (kGo (kSt (kWk P j ns S bgn).1 w.1 w.2.1) w.1 w.2.1) (owL P O) ∧ KP (owL P O) S (kGo (kSt (kWk P j ns S bgn).1 w.1 w.2.1) w.1 w.2.1) ∧ SF S (kGo (kSt (kWk P j ns S bgn).1 w.1 w.2.1) w.1 w.2.1) := by
  have h0 : (0, 0) ∈ owL P O := own_00
  have hP := own_PM (O := O) hj (h2 j hj)
  obtain ⟨o1, o2⟩ := OW.wk h0 (by omega) hP ns S bgn hO hW
  have kp := kp_wk h0 (by omega) hP ns S bgn hO hW
  have sf := SF.wk (P := P) (j := j) ns S bgn
  refine ⟨fun e he => ⟨(o1 e he).1, kp, sf⟩, fun w he => ?_⟩
  obtain ⟨g1, g2, -⟩ := o2 w he
  have g3 := g1.sta (h := w.2.1) g2.1
  have k3 : KP (owL P O) (kWk P j ns S bgn).1 (kSt (kWk P j ns S bgn).1 w.1 w.2.1) := KP.eq rfl
  exact ⟨g3.gof g2.1, (kp.trans k3).trans (kp_go (fl_nin g3 g2.1)), (sf.trans (SF.sta _ _ _)).trans (SF.go _ _ _)⟩
end IVX

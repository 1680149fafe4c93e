/-! THE INVARIANT: open files, name spaces in use -/
/-- files only grow, and what is gone stays gone -/
def FG (S S' : zS) : Prop := ∀ t, t < 2 → (S.1 t).1 ≤ (S'.1 t).1 ∧ ∀ i, i < (S.1 t).1 → (((S'.1 t).2.1 i).1 = true → ((S.1 t).2.1 i).1 = true) ∧ ((S'.1 t).2.1 i).2.1 = ((S.1 t).2.1 i).2.1 ∧ ((S.1 t).2.1 i).2.2.2.2.1.length ≤ ((S'.1 t).2.1 i).2.2.2.2.1.length
/-- an open row is well -/
def RI (S : zS) (u : zU) : Prop := u.2.2.2.2.1 < u.2.1.length ∧ u.2.1.length ≤ 3 ∧ u.2.2.2.1 < 3 ∧ u.2.2.2.2.2 ≤ 20 ∧ u.2.2.1 ≤ 3 ∧ (∀ m ∈ u.2.1, m.1 < 2) ∧ (u.2.2.2.1 ≠ 0 → u.2.2.2.2.2 ≤ 8 ∧ (∀ m ∈ u.2.1, ∀ i, (S.1 m.1).2.2.1 m.2.1 = some i → ((S.1 m.1).2.1 i).1 = true → ((S.1 m.1).2.1 i).2.1 = false) ∧ ∀ i, (S.1 (u.2.1.getD u.2.2.2.2.1 dM).1).2.2.1 (u.2.1.getD u.2.2.2.2.1 dM).2.1 = some i → ((S.1 (u.2.1.getD u.2.2.2.2.1 dM).1).2.1 i).1 = true → u.2.2.2.2.2 ≤ ((S.1 (u.2.1.getD u.2.2.2.2.1 dM).1).2.1 i).2.2.2.2.1.length)
section IVZ
variable {S S' S'' : zS} {P : Nat → List zP} {Q : Nat → Option Nat} {O O' : Nat → Nat → zU} {F L L' G : List (Nat × Nat)} {p f j s h k : Nat} {x : Nat × Nat} {W : zW} {ns nk : List Nat} {M : Nat → Nat → Int32} {X : List Nat × List Nat}
theorem SF.fg (hF : SF S S') : FG S S' := fun t _ => ⟨Nat.le_of_eq (hF t).1.symm, fun i _ => by rw [(hF t).2]; exact ⟨id, rfl, Nat.le_refl _⟩⟩
theorem FG.trans (h1 : FG S S') (h2 : FG S' S'') : FG S S'' := fun t ht => by
  obtain ⟨a1, a2⟩ := h1 t ht
  obtain ⟨b1, b2⟩ := h2 t ht
  refine ⟨Nat.le_trans a1 b1, fun i hi => ?_⟩
  obtain ⟨c1, c2, c3⟩ := a2 i hi
  obtain ⟨d1, d2, d3⟩ := b2 i (by omega)
  exact ⟨fun h => c1 (d1 h), d2.trans c2, Nat.le_trans c3 d3⟩
theorem getD_memM {l : List zM} {k : Nat} (h : k < l.length) : l.getD k dM ∈ l := by
  rw [List.getD_eq_getElem?_getD, List.getElem?_eq_getElem h]
  exact List.getElem_mem h
theorem RI.keep {u : zU} (hI : RI S u) (hO : ∀ t, t < 2 → VW (S.1 t)) (hk : ∀ m ∈ u.2.1, (S'.1 m.1).2.2.1 m.2.1 = (S.1 m.1).2.2.1 m.2.1) (hF : FG S S') : RI S' u := by
  obtain ⟨a, b, c, d, e, f, g⟩ := hI
  refine ⟨a, b, c, d, e, f, fun hm => ?_⟩
  obtain ⟨g1, g2, g3⟩ := g hm
  have hat := getD_memM a
  refine ⟨g1, fun m hmm i hi ha => ?_, fun i hi ha => ?_⟩
  · rw [hk m hmm] at hi
    have hlt := (hO m.1 (f m hmm)).2.2.2.1 _ _ hi
    obtain ⟨x1, x2, x3⟩ := (hF m.1 (f m hmm)).2 i hlt
    rw [x2]
    exact g2 m hmm i hi (x1 ha)
  · rw [hk _ hat] at hi
    have hlt := (hO _ (f _ hat)).2.2.2.1 _ _ hi
    obtain ⟨x1, x2, x3⟩ := (hF _ (f _ hat)).2 i hlt
    exact Nat.le_trans (g3 i hi (x1 ha)) x3
/-- the reference speaks of rows in use only -/
theorem RR.cong (hR : RR S P Q O X M) (he : ∀ p f, p < 4 → f < 5 → (O' p f).1 = (O p f).1 ∧ ((O p f).1 = true → O' p f = O p f)) : RR S P Q O' X M := by
  obtain ⟨a, b, c, e, g, i⟩ := hR
  refine ⟨a, b, c, e, fun p f hp9 hf => ?_, i⟩
  obtain ⟨e1, e2⟩ := he p f hp9 hf
  cases hu : (O p f).1
  · exact ⟨fun _ => (g p f hp9 hf).1 hu, fun h => by rw [e1, hu] at h; cases h⟩
  · rw [e2 hu]; exact g p f hp9 hf
/-- where a process may begin, a name space is free -/
theorem lus_ex (hq : ∀ p, p < 4 → ∀ j, Q p = some j → j < 4) {q : Nat} (hl : lab Q = some q) : ∃ i, lus Q = some i := by
  obtain ⟨q4, qn⟩ := lab_lt hl
  cases hi : lus Q with
  | some i => exact ⟨i, rfl⟩
  | none =>
    exfalso
    have hu : ∀ j, j < 4 → usr Q j ≠ 0 := fun j hj h => by
      have := List.find?_eq_none.mp hi j (List.mem_range.mpr hj)
      rw [h] at this
      exact this rfl
    have hv : ∀ j, j < 4 → (Q 0).getD 9 = j ∨ (Q 1).getD 9 = j ∨ (Q 2).getD 9 = j ∨ (Q 3).getD 9 = j := fun j hj => by
      have := hu j hj
      rw [usr_sum] at this
      by_cases h0 : Q 0 = some j
      · exact Or.inl (by rw [h0]; rfl)
      · by_cases h1 : Q 1 = some j
        · exact Or.inr (Or.inl (by rw [h1]; rfl))
        · by_cases h2 : Q 2 = some j
          · exact Or.inr (Or.inr (Or.inl (by rw [h2]; rfl)))
          · by_cases h3 : Q 3 = some j
            · exact Or.inr (Or.inr (Or.inr (by rw [h3]; rfl)))
            · rw [if_neg h0, if_neg h1, if_neg h2, if_neg h3] at this
              exact absurd rfl this
    have v0 := hv 0 (by decide)
    have v1 := hv 1 (by decide)
    have v2 := hv 2 (by decide)
    have v3 := hv 3 (by decide)
    have : q = 0 ∨ q = 1 ∨ q = 2 ∨ q = 3 := by omega
    rcases this with rfl | rfl | rfl | rfl <;> rw [qn] at v0 v1 v2 v3 <;> simp only [Option.getD_none] at v0 v1 v2 v3 <;> omega
end IVZ

/-! THE INVARIANT: files that are made, written, removed -/
section IVF
variable {S S' S'' : zS} {P : Nat → List zP} {Q : Nat → Option Nat} {O O' : Nat → Nat → zU} {F L L' G : List (Nat × Nat)} {p f j s h k q n : Nat} {x : Nat × Nat} {W : zW} {ns nk : List Nat}
theorem kS_fg {V : zV} {tq tr : Nat} {a b : List Int32} (h1 : (S.1 s).1 ≤ V.1) (h2 : ∀ i, i < (S.1 s).1 → ((V.2.1 i).1 = true → ((S.1 s).2.1 i).1 = true) ∧ (V.2.1 i).2.1 = ((S.1 s).2.1 i).2.1 ∧ ((S.1 s).2.1 i).2.2.2.2.1.length ≤ (V.2.1 i).2.2.2.2.1.length) : FG S (kS S s V tq a tr b) := fun t ht => by
  show (S.1 t).1 ≤ (up1 S.1 s V t).1 ∧ ∀ i, i < (S.1 t).1 → (((up1 S.1 s V t).2.1 i).1 = true → _) ∧ ((up1 S.1 s V t).2.1 i).2.1 = _ ∧ _ ≤ ((up1 S.1 s V t).2.1 i).2.2.2.2.1.length
  by_cases e : t = s
  · subst e; rw [up1_eq]; exact ⟨h1, h2⟩
  · rw [up1_ne e]; exact ⟨Nat.le_refl _, fun i _ => ⟨id, rfl, Nat.le_refl _⟩⟩
theorem dV_H (V : zV) (h : Nat) (r : Nat ⊕ Nat) : (inc (dV V h r)).2.2.1 = up1 V.2.2.1 h none := by cases r <;> rfl
theorem OW.rm (hO : OW S ((s, h) :: G)) (hs : s < 2) : OW (kRM S s h) G ∧ KP G S (kRM S s h) ∧ FG S (kRM S s h) := by
  have hlt := hO.lt hs (List.mem_cons_self)
  have hw := hO.1 s hs
  have hV : VW (inc (dV (S.1 s) h (oRM (S.1 s) h))) := by
    have h1 := hw.setH (h := h) (o := none) hlt (fun i hi => by cases hi)
    cases hr : oRM (S.1 s) h with
    | inl e => exact h1
    | inr i =>
      refine VW.gone h1 fun e => ?_
      subst e
      unfold oRM at hr
      cases hg : (S.1 s).2.2.1 h with
      | none => rw [hg] at hr; cases hr
      | some g =>
        rw [hg] at hr
        dsimp only at hr
        cases ha : ((S.1 s).2.1 g).1
        · rw [ha] at hr; cases hr
        · rw [ha] at hr
          dsimp only [cond_true] at hr
          cases hb : (Nat.beq g 0 || (vls (S.1 s) g 0).isSome)
          · rw [hb] at hr
            dsimp only [cond_false] at hr
            injection hr with hr
            subst hr
            cases hb
          · rw [hb] at hr; cases hr
  have h1 := hO.del (S' := kRM S s h) (s := s) (h := h) (kS_V hO hV) (kS_st (dV_H _ _ _))
  rw [List.erase_cons_head] at h1
  refine ⟨h1, KP.up (dV_H _ _ _) (hO.nin hs), kS_fg ?_ fun i hi => ?_⟩
  · cases oRM (S.1 s) h <;> exact Nat.le_refl _
  · cases hr : oRM (S.1 s) h with
    | inl e => exact ⟨id, rfl, Nat.le_refl _⟩
    | inr g =>
      show ((up1 (S.1 s).2.1 g (false, ((S.1 s).2.1 g).2) i).1 = true → _) ∧ (up1 (S.1 s).2.1 g (false, ((S.1 s).2.1 g).2) i).2.1 = _ ∧ _ ≤ (up1 (S.1 s).2.1 g (false, ((S.1 s).2.1 g).2) i).2.2.2.2.1.length
      by_cases e : i = g
      · subst e; rw [up1_eq]; exact ⟨fun h => (by cases h), rfl, Nat.le_refl _⟩
      · rw [up1_ne e]; exact ⟨id, rfl, Nat.le_refl _⟩
theorem pu8_le (bs : List Int32) (q : Nat) (b : Int32) : bs.length ≤ (pu8 bs q b).length := by
  unfold pu8
  split
  · rw [List.length_set]; exact Nat.le_refl _
  · rw [List.length_append]; omega
theorem uV_H (V : zV) (q : Nat) (b : Int32) (r : Nat ⊕ Nat) : (inc (uV V q b r)).2.2.1 = V.2.2.1 := by cases r <;> rfl
theorem OW.wr (hO : OW S L) (hs : s < 2) (hn : n < 256) (hpl : ∀ i, (S.1 s).2.2.1 h = some i → ((S.1 s).2.1 i).1 = true → ((S.1 s).2.1 i).2.1 = false ∧ q ≤ ((S.1 s).2.1 i).2.2.2.2.1.length) : OW (kWR S s h q n) L ∧ KP L S (kWR S s h q n) ∧ FG S (kWR S s h q n) := by
  have hw := hO.1 s hs
  have hV : VW (inc (uV (S.1 s) q (nI n) (oWR (S.1 s) h q))) := by
    cases hr : oWR (S.1 s) h q with
    | inl e => exact hw
    | inr i =>
      unfold oWR at hr
      cases hg : (S.1 s).2.2.1 h with
      | none => rw [hg] at hr; cases hr
      | some g =>
        rw [hg] at hr
        dsimp only at hr
        cases ha : ((S.1 s).2.1 g).1
        · rw [ha] at hr; cases hr
        · rw [ha] at hr
          dsimp only [cond_true] at hr
          cases hb : Nat.blt q 8
          · rw [hb] at hr; cases hr
          · rw [hb] at hr
            dsimp only [cond_true] at hr
            injection hr with hr
            subst hr
            obtain ⟨p1, p2⟩ := hpl g hg ha
            exact hw.put (hw.2.2.2.1 _ _ hg) p1 p2 (g_lt hb) hn
  refine ⟨hO.keep (kS_V hO hV) (kS_is (uV_H _ _ _ _)), KP.eq (uV_H _ _ _ _), kS_fg ?_ fun i hi => ?_⟩
  · cases oWR (S.1 s) h q <;> exact Nat.le_refl _
  · cases hr : oWR (S.1 s) h q with
    | inl e => exact ⟨id, rfl, Nat.le_refl _⟩
    | inr g =>
      show ((up1 (S.1 s).2.1 g _ i).1 = true → _) ∧ (up1 (S.1 s).2.1 g _ i).2.1 = _ ∧ _ ≤ (up1 (S.1 s).2.1 g _ i).2.2.2.2.1.length
      by_cases e : i = g
      · subst e; rw [up1_eq]; exact ⟨id, rfl, pu8_le _ _ _⟩
      · rw [up1_ne e]; exact ⟨id, rfl, Nat.le_refl _⟩
end IVF

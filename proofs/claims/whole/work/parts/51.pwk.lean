/-! THE MEANING of a walk -/
def kWF (c : Nat) : List zM → zS → Nat → zS × (Nat ⊕ zW)
  | [], S, e => (S, .inl e)
  | m :: ms, S, _ => match oWN (S.1 m.1) m.2.1 c with
    | .inl e => kWF c ms (kWN S m.1 m.2.1 c) e
    | .inr g => (kWN S m.1 m.2.1 c, .inr (m.1, fre S m.1, g, ((S.1 m.1).2.1 g).2.1))
def stM (P : Nat → List zP) (j : Nat) (W : zW) : List zM := match pidx (P j) W.1 W.2.2.1 with
  | none => [(W.1, W.2.1, true)]
  | some k => ((P j).getD k dP).2
def kWk (P : Nat → List zP) (j : Nat) : List Nat → zS → zW → zS × (Nat ⊕ zW)
  | [], S, W => (S, .inr W)
  | c :: cs, S, W => match kWF c (stM P j W) S 110 with
    | (S', .inl e) => (kGo S' W.1 W.2.1, .inl e)
    | (S', .inr W') => kWk P j cs (kGo S' W.1 W.2.1) W'
/-- what a walk stands on, and what it holds besides the beginning -/
def WK (S : zS) (W : zW) : Prop := W.1 < 2 ∧ (S.1 W.1).2.2.1 W.2.1 = some W.2.2.1 ∧ W.2.2.2 = ((S.1 W.1).2.1 W.2.2.1).2.1 ∧ ((S.1 W.1).2.1 W.2.2.1).1 = true
def fl (W : zW) : List (Nat × Nat) := if W.1 = 0 ∧ W.2.1 = 0 then [] else [(W.1, W.2.1)]
/-- the same files -/
def SF (S S' : zS) : Prop := ∀ t, (S'.1 t).1 = (S.1 t).1 ∧ (S'.1 t).2.1 = (S.1 t).2.1
theorem SF.refl (S : zS) : SF S S := fun _ => ⟨rfl, rfl⟩
theorem SF.trans {S S' S'' : zS} (h1 : SF S S') (h2 : SF S' S'') : SF S S'' := fun t => ⟨(h2 t).1.trans (h1 t).1, (h2 t).2.trans (h1 t).2⟩
def PM (P : Nat → List zP) (j : Nat) (F : List (Nat × Nat)) : Prop := ∀ p ∈ P j, ∀ m ∈ p.2, m.1 < 2 ∧ (m.1, m.2.1) ∈ F
section PWK
variable {S S' : zS} {F L : List (Nat × Nat)} {s h : Nat} {P : Nat → List zP} {j : Nat} {W : zW}
theorem SF.kS {V : zV} {tq tr : Nat} {q r : List Int32} (h1 : V.1 = (S.1 s).1) (h2 : V.2.1 = (S.1 s).2.1) : SF S (kS S s V tq q tr r) := fun t => by
  show (up1 S.1 s V t).1 = _ ∧ (up1 S.1 s V t).2.1 = _
  by_cases e : t = s
  · subst e; rw [up1_eq]; exact ⟨h1, h2⟩
  · rw [up1_ne e]; exact ⟨rfl, rfl⟩
theorem SF.cl (S : zS) (s h : Nat) : SF S (kCl S s h) := SF.kS rfl rfl
theorem SF.go (S : zS) (s h : Nat) : SF S (kGo S s h) := by
  unfold kGo
  split
  · exact SF.refl S
  · exact SF.cl S s h
theorem SF.same (S : zS) (s h : Nat) : SF S (kSame S s h) := SF.kS rfl rfl
theorem SF.wn (S : zS) (s h c : Nat) : SF S (kWN S s h c) := by
  unfold kWN
  cases oWN (S.1 s) h c
  · exact SF.kS rfl rfl
  · exact SF.kS rfl rfl
theorem SF.wf (c : Nat) : ∀ (ms : List zM) (S : zS) (e : Nat), SF S (kWF c ms S e).1 := by
  intro ms
  induction ms with
  | nil => intro S e; exact SF.refl S
  | cons m ms ih =>
    intro S e
    unfold kWF
    cases ho : oWN (S.1 m.1) m.2.1 c with
    | inl e' => exact (SF.wn S m.1 m.2.1 c).trans (ih _ e')
    | inr g => exact SF.wn S m.1 m.2.1 c
theorem SF.wk : ∀ (cs : List Nat) (S : zS) (W : zW), SF S (kWk P j cs S W).1 := by
  intro cs
  induction cs with
  | nil => intro S W; exact SF.refl S
  | cons c cs ih =>
    intro S W
    unfold kWk
    have h1 := SF.wf c (stM P j W) S 110
    rcases hx : kWF c (stM P j W) S 110 with ⟨S', x⟩
    rw [hx] at h1
    cases x with
    | inl e => exact h1.trans (SF.go S' _ _)
    | inr W' => exact (h1.trans (SF.go S' _ _)).trans (ih _ W')
theorem oWN_e {V : zV} {c e : Nat} (h9 : oWN V h c = .inl e) : e = 110 ∨ e = 100 := by
  unfold oWN at h9
  cases hs : V.2.2.1 h with
  | none => rw [hs] at h9; cases h9; exact Or.inl rfl
  | some i =>
    rw [hs] at h9
    dsimp only at h9
    cases h1 : (V.2.1 i).1
    · rw [h1] at h9; cases h9; exact Or.inl rfl
    · rw [h1] at h9
      cases h2 : (V.2.1 i).2.1
      · rw [h2] at h9; cases h9; exact Or.inr rfl
      · rw [h2] at h9
        dsimp only [cond_true] at h9
        cases hv : vin V i c with
        | none => rw [hv] at h9; cases h9; exact Or.inl rfl
        | some g' => rw [hv] at h9; cases h9
theorem kWN_st {c : Nat} (hg : ∃ g, oWN (S.1 s) h c = .inr g) : ((kWN S s h c).1 s).2.2.1 (fre S s) = (match oWN (S.1 s) h c with | .inl _ => none | .inr g => some g) := by
  obtain ⟨g, hg⟩ := hg
  unfold kWN
  rw [hg]
  show (up1 S.1 s _ s).2.2.1 (fre S s) = some g
  rw [up1_eq]
  exact up1_eq _ _ _
/-- one name -/
theorem OW.wf {c : Nat} : ∀ (ms : List zM) (S : zS) (e : Nat), OW S L → L.length < 128 → (∀ m ∈ ms, m.1 < 2) → (e = 110 ∨ e = 100) →
    (∀ e', (kWF c ms S e).2 = .inl e' → OW (kWF c ms S e).1 L ∧ (e' = 110 ∨ e' = 100)) ∧
    ∀ W', (kWF c ms S e).2 = .inr W' → OW (kWF c ms S e).1 ((W'.1, W'.2.1) :: L) ∧ (W'.1, W'.2.1) ∉ L ∧ WK (kWF c ms S e).1 W' := by
  intro ms
  induction ms with
  | nil =>
    intro S e hO hl hv he
    exact ⟨fun e' h => by cases h; exact ⟨hO, he⟩, fun W' h => by cases h⟩
  | cons m ms ih =>
    intro S e hO hl hv he
    have hm := hv m (by simp)
    unfold kWF
    cases ho : oWN (S.1 m.1) m.2.1 c with
    | inl e' => exact ih _ e' (hO.wn_no hm ho) hl (fun m' h => hv m' (by simp [h])) (oWN_e ho)
    | inr g =>
      refine ⟨fun e' h => (by cases h), fun W' h => ?_⟩
      cases h
      obtain ⟨f1, f2, f3, f4⟩ := hO.free hm hl
      have hst := kWN_st (c := c) ⟨g, ho⟩
      rw [ho] at hst
      obtain ⟨g1, g2, -⟩ := oWN_lt ho
      have sf := SF.wn S m.1 m.2.1 c m.1
      refine ⟨hO.wn_ok hm hl ho, f4, hm, hst, ?_, ?_⟩
      · show ((S.1 m.1).2.1 g).2.1 = (((kWN S m.1 m.2.1 c).1 m.1).2.1 g).2.1
        rw [sf.2]
      · show (((kWN S m.1 m.2.1 c).1 m.1).2.1 g).1 = true
        rw [sf.2]; exact g2
theorem fl_go (hO : OW S (L ++ (fl W ++ F))) (hw : W.1 < 2) : OW (kGo S W.1 W.2.1) (L ++ F) := by
  unfold kGo
  unfold fl at hO
  by_cases e : W.1 = 0 ∧ W.2.1 = 0
  · rw [if_pos e]; rw [if_pos e] at hO; exact hO
  · rw [if_neg e]; rw [if_neg e] at hO
    refine (hO.cl hw (by simp)).cnt fun x => ?_
    rw [List.count_erase]
    simp only [List.count_append, List.count_cons, List.count_nil]
    by_cases h1 : ((W.1, W.2.1) == x) = true
    · rw [if_pos h1]; omega
    · rw [if_neg h1]; omega
theorem go_st {t x : Nat} (hne : ¬ (t = W.1 ∧ x = W.2.1)) : ((kGo S W.1 W.2.1).1 t).2.2.1 x = (S.1 t).2.2.1 x := by
  unfold kGo
  split
  · rfl
  · unfold kCl
    rw [kS_st (h := W.2.1) (o := none) rfl, if_neg hne]
theorem stM_ok (hP : PM P j F) (hw : W.1 < 2) (hm : (W.1, W.2.1) ∈ fl W ++ F) : ∀ m ∈ stM P j W, m.1 < 2 ∧ (m.1, m.2.1) ∈ fl W ++ F := by
  intro m h
  unfold stM at h
  cases hp9 : pidx (P j) W.1 W.2.2.1 with
  | none =>
    rw [hp9] at h
    have h : m ∈ [(W.1, W.2.1, true)] := h
    rw [List.mem_singleton] at h
    subst h
    exact ⟨hw, hm⟩
  | some k =>
    rw [hp9] at h
    have := hP _ (getD_memP (pidx_lt hp9)) m h
    exact ⟨this.1, List.mem_append_right _ this.2⟩
theorem fl_mem (h0 : (0, 0) ∈ F) : (W.1, W.2.1) ∈ fl W ++ F := by
  unfold fl
  by_cases e : W.1 = 0 ∧ W.2.1 = 0
  · rw [if_pos e, e.1, e.2]; exact h0
  · rw [if_neg e]; simp
/-- one step: what holds then -/
theorem wk_step (hO : OW S (fl W ++ F)) (h0 : (0, 0) ∈ F) (hl : F.length + 1 < 128) (hW : WK S W) (hP : PM P j F) (c : Nat) :
    (∀ e, (kWF c (stM P j W) S 110).2 = .inl e → OW (kGo (kWF c (stM P j W) S 110).1 W.1 W.2.1) F ∧ (e = 110 ∨ e = 100)) ∧
    ∀ W', (kWF c (stM P j W) S 110).2 = .inr W' → OW (kGo (kWF c (stM P j W) S 110).1 W.1 W.2.1) (fl W' ++ F) ∧ WK (kGo (kWF c (stM P j W) S 110).1 W.1 W.2.1) W' ∧ ¬ (W'.1 = 0 ∧ W'.2.1 = 0) := by
  have hm := fl_mem (W := W) h0
  have hl2 : (fl W ++ F).length < 128 := by
    unfold fl
    split <;> simp <;> omega
  obtain ⟨w1, w2⟩ := OW.wf (c := c) (stM P j W) S 110 hO hl2 (fun m h => (stM_ok hP hW.1 hm m h).1) (Or.inl rfl)
  refine ⟨fun e he => ?_, fun W' he => ?_⟩
  · obtain ⟨q1, q2⟩ := w1 e he
    exact ⟨fl_go (L := []) q1 hW.1, q2⟩
  · obtain ⟨q1, q2, q3⟩ := w2 W' he
    have hne : ¬ (W'.1 = 0 ∧ W'.2.1 = 0) := fun h => q2 (List.mem_append_right _ (by rw [h.1, h.2]; exact h0))
    have hfl : fl W' = [(W'.1, W'.2.1)] := if_neg hne
    refine ⟨?_, ?_, hne⟩
    · rw [hfl]
      exact fl_go (L := [(W'.1, W'.2.1)]) q1 hW.1
    · have hne2 : ¬ (W'.1 = W.1 ∧ W'.2.1 = W.2.1) := fun h => q2 (by rw [h.1, h.2]; exact hm)
      have sf := SF.go (kWF c (stM P j W) S 110).1 W.1 W.2.1 W'.1
      exact ⟨q3.1, by rw [go_st hne2]; exact q3.2.1, by rw [sf.2]; exact q3.2.2.1, by rw [sf.2]; exact q3.2.2.2⟩
theorem kWk_cons {c : Nat} {cs : List Nat} : kWk P j (c :: cs) S W = match kWF c (stM P j W) S 110 with
    | (S', .inl e) => (kGo S' W.1 W.2.1, .inl e)
    | (S', .inr W') => kWk P j cs (kGo S' W.1 W.2.1) W' := rfl
theorem OW.wk (h0 : (0, 0) ∈ F) (hl : F.length + 1 < 128) (hP : PM P j F) : ∀ (cs : List Nat) (S : zS) (W : zW), OW S (fl W ++ F) → WK S W →
    (∀ e, (kWk P j cs S W).2 = .inl e → OW (kWk P j cs S W).1 F ∧ (e = 110 ∨ e = 100)) ∧
    ∀ W', (kWk P j cs S W).2 = .inr W' → OW (kWk P j cs S W).1 (fl W' ++ F) ∧ WK (kWk P j cs S W).1 W' ∧ (cs ≠ [] → ¬ (W'.1 = 0 ∧ W'.2.1 = 0)) := by
  intro cs
  induction cs with
  | nil =>
    intro S W hO hW
    exact ⟨fun e h => (by cases h), fun W' h => (by cases h; exact ⟨hO, hW, fun h => absurd rfl h⟩)⟩
  | cons c cs ih =>
    intro S W hO hW
    obtain ⟨s1, s2⟩ := wk_step hO h0 hl hW hP c
    rw [kWk_cons]
    rcases hx : kWF c (stM P j W) S 110 with ⟨S', x⟩
    rw [hx] at s1 s2
    cases x with
    | inl e => exact ⟨fun e' h => by cases h; exact s1 e rfl, fun W' h => by cases h⟩
    | inr W1 =>
      obtain ⟨q1, q2, q3⟩ := s2 W1 rfl
      obtain ⟨i1, i2⟩ := ih _ W1 q1 q2
      refine ⟨i1, fun W' h => ?_⟩
      obtain ⟨j1, j2, j3⟩ := i2 W' h
      refine ⟨j1, j2, fun _ => ?_⟩
      cases cs with
      | nil => cases h; exact q3
      | cons c' cs' => exact j3 (by simp)
end PWK

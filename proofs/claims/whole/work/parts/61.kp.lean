/-! HANDLES THAT ARE OWNED keep what they stand for -/
def KP (F : List (Nat × Nat)) (S S' : zS) : Prop := ∀ s h, s < 2 → (s, h) ∈ F → (S'.1 s).2.2.1 h = (S.1 s).2.2.1 h
section KPS
variable {S S' S'' : zS} {F G L : List (Nat × Nat)} {s h : Nat} {P : Nat → List zP} {j : Nat} {W : zW}
theorem KP.refl (S : zS) : KP F S S := fun _ _ _ _ => rfl
theorem KP.trans (h1 : KP F S S') (h2 : KP F S' S'') : KP F S S'' := fun t x ht hx => (h2 t x ht hx).trans (h1 t x ht hx)
theorem KP.sub (h1 : KP F S S') (hs : ∀ x ∈ G, x ∈ F) : KP G S S' := fun t x ht hx => h1 t x ht (hs _ hx)
theorem KP.eq {V : zV} {tq tr : Nat} {q r : List Int32} (hV : V.2.2.1 = (S.1 s).2.2.1) : KP F S (kS S s V tq q tr r) := fun t x ht hx => by
  show (up1 S.1 s V t).2.2.1 x = _
  by_cases e : t = s
  · subst e; rw [up1_eq, hV]
  · rw [up1_ne e]
theorem KP.up {V : zV} {tq tr : Nat} {q r : List Int32} {o : Option Nat} (hV : V.2.2.1 = up1 (S.1 s).2.2.1 h o) (hn : (s, h) ∉ F) : KP F S (kS S s V tq q tr r) := fun t x ht hx => by
  rw [kS_st hV, if_neg]
  rintro ⟨rfl, rfl⟩
  exact hn hx
theorem OW.nin (hO : OW S ((s, h) :: F)) (hs : s < 2) : (s, h) ∉ F := fun hm => by
  have := hO.2 s h hs
  rw [List.count_cons_self] at this
  have h1 := List.count_pos_iff.mpr hm
  split at this <;> omega
theorem kp_wn (hO : OW S L) (hs : s < 2) (hl : L.length < 128) (c : Nat) : KP L S (kWN S s h c) := by
  unfold kWN
  cases oWN (S.1 s) h c with
  | inl e => exact KP.eq rfl
  | inr g => exact KP.up rfl (hO.free hs hl).2.2.2
theorem kp_same (hO : OW S L) (hs : s < 2) (hl : L.length < 128) : KP L S (kSame S s h) := KP.up rfl (hO.free hs hl).2.2.2
theorem kp_att (hO : OW S L) (hs : s < 2) (hl : L.length < 128) : KP L S (kAtt S s (fre S s)) := KP.up rfl (hO.free hs hl).2.2.2
theorem kp_cl (hn : (s, h) ∉ F) : KP F S (kCl S s h) := KP.up rfl hn
theorem kp_go (hn : (s = 0 ∧ h = 0) ∨ (s, h) ∉ F) : KP F S (kGo S s h) := by
  unfold kGo
  by_cases e : s = 0 ∧ h = 0
  · rw [if_pos e]; exact KP.refl S
  · rw [if_neg e]; exact kp_cl (hn.resolve_left e)
theorem kp_wf {c : Nat} : ∀ (ms : List zM) (S : zS) (e : Nat), OW S L → L.length < 128 → (∀ m ∈ ms, m.1 < 2) → KP L S (kWF c ms S e).1 := by
  intro ms
  induction ms with
  | nil => intro S e _ _ _; exact KP.refl S
  | cons m ms ih =>
    intro S e hO hl hv
    have hm := hv m (by simp)
    unfold kWF
    cases ho : oWN (S.1 m.1) m.2.1 c with
    | inl e' => exact (kp_wn hO hm hl c).trans (ih _ e' (hO.wn_no hm ho) hl (fun m' h => hv m' (by simp [h])))
    | inr g => exact kp_wn hO hm hl c
theorem fl_nin (hO : OW S (fl W ++ F)) (hw : W.1 < 2) : (W.1 = 0 ∧ W.2.1 = 0) ∨ (W.1, W.2.1) ∉ F := by
  by_cases e : W.1 = 0 ∧ W.2.1 = 0
  · exact Or.inl e
  · unfold fl at hO
    rw [if_neg e] at hO
    exact Or.inr (hO.nin hw)
theorem kp_wk (h0 : (0, 0) ∈ F) (hl : F.length + 1 < 128) (hP : PM P j F) : ∀ (cs : List Nat) (S : zS) (W : zW), OW S (fl W ++ F) → WK S W → KP F S (kWk P j cs S W).1 := by
  intro cs
  induction cs with
  | nil => intro S W _ _; exact KP.refl S
  | cons c cs ih =>
    intro S W hO hW
    obtain ⟨s1, s2⟩ := wk_step hO h0 hl hW hP c
    have hm := fl_mem (W := W) h0
    have hl2 := fl_len W F
    have k1 := kp_wf (c := c) (stM P j W) S 110 hO (by omega) (fun m h => (stM_ok hP hW.1 hm m h).1)
    have k2 : KP F (kWF c (stM P j W) S 110).1 (kGo (kWF c (stM P j W) S 110).1 W.1 W.2.1) := kp_go (fl_nin hO hW.1)
    have k3 := (k1.sub (G := F) (fun x hx => List.mem_append_right _ hx)).trans k2
    rw [kWk_cons]
    rcases hx : kWF c (stM P j W) S 110 with ⟨S', x⟩
    rw [hx] at s1 s2 k3
    cases x with
    | inl e => exact k3
    | inr W1 =>
      obtain ⟨q1, q2, q3⟩ := s2 W1 rfl
      exact k3.trans (ih _ W1 q1 q2)
theorem kp_own (hO : OW S (fl W ++ F)) (hl : F.length + 1 < 128) (hw : W.1 < 2) : KP F S (kOwn S W).1 := by
  have hl2 := fl_len W F
  unfold kOwn
  split
  · exact (kp_same hO hw (by omega)).sub fun x hx => List.mem_append_right _ hx
  · exact KP.refl S
theorem kp_cpy : ∀ (ms : List zM) (S : zS) (F : List (Nat × Nat)), OW S F → F.length + ms.length ≤ 128 → (∀ m ∈ ms, m.1 < 2 ∧ (m.1, m.2.1) ∈ F) → KP F S (kCpy ms S).1 := by
  intro ms
  induction ms with
  | nil => intro S F _ _ _; exact KP.refl S
  | cons m ms ih =>
    intro S F hO hl hv
    obtain ⟨v1, v2⟩ := hv m (by simp)
    have hl : F.length + (ms.length + 1) ≤ 128 := hl
    have := ih (kSame S m.1 m.2.1) ((m.1, fre S m.1) :: F) (hO.same v1 v2 (by omega)) (by simp; omega) (fun m' h => ⟨(hv m' (by simp [h])).1, by simp [(hv m' (by simp [h])).2]⟩)
    exact (kp_same hO v1 (by omega)).trans (this.sub fun x hx => by simp [hx])
theorem kp_tk (hO : OW S (fl W ++ F)) (hl : F.length + 4 < 128) (hw : W.1 < 2) (hP : PM P j F) (h3 : ∀ q ∈ P j, q.2.length ≤ 3) : KP F S (kTk P j S W).1 := by
  unfold kTk
  cases hp9 : pidx (P j) W.1 W.2.2.1 with
  | none => exact kp_own hO (by omega) hw
  | some k =>
    have hm := getD_memP (pidx_lt hp9)
    have := fl_len W F
    have h3' := h3 _ hm
    have k1 := kp_cpy _ S _ hO (by omega) (fun m h => ⟨(hP _ hm m h).1, List.mem_append_right _ (hP _ hm m h).2⟩)
    exact (k1.sub (G := F) fun x hx => List.mem_append_right _ hx).trans (kp_go (fl_nin hO hw))
theorem kp_opl {m : Nat} : ∀ (ms : List zM) (S : zS) (e : Nat) (G : List (Nat × Nat)), OW S (ms.map hp2 ++ G) → (0, 0) ∈ G → (∀ x ∈ ms, x.1 < 2) → KP G S (kOpL m ms S e).1 := by
  intro ms
  induction ms with
  | nil => intro S e G _ _ _; exact KP.refl S
  | cons y ms ih =>
    intro S e G hO h0 hv
    have v1 := hv y (by simp)
    have hv' : ∀ x ∈ ms, x.1 < 2 := fun x h => hv x (by simp [h])
    have h1 : OW (kOP S y.1 y.2.1 m) ((y.1, y.2.1) :: (ms.map hp2 ++ G)) := OW.opn (S := S) hO v1 m
    have k1 : KP G S (kOP S y.1 y.2.1 m) := KP.eq rfl
    unfold kOpL
    cases ho : oOP (S.1 y.1) y.2.1 m with
    | inl e' =>
      have hn := h1.nin v1
      have k2 : KP G (kOP S y.1 y.2.1 m) (kGo (kOP S y.1 y.2.1 m) y.1 y.2.1) := kp_go (Or.inr fun h9 => hn (List.mem_append_right _ h9))
      exact (k1.trans k2).trans (ih _ e' G (h1.goh (by simp [h0]) v1).1 h0 hv')
    | inr i =>
      have h2 := ih (kOP S y.1 y.2.1 m) e ((y.1, y.2.1) :: G) (h1.cnt fun q => by simp only [List.count_append, List.count_cons]; omega) (by simp [h0]) hv'
      exact k1.trans (h2.sub fun x hx => by simp [hx])
theorem kp_cla : ∀ (ms : List zM) (S : zS), OW S (ms.map hp2 ++ G) → (∀ x ∈ ms, x.1 < 2) → KP G S (kClA S ms) := by
  intro ms
  induction ms with
  | nil => intro S _ _; exact KP.refl S
  | cons y ms ih =>
    intro S hO hv
    have v1 := hv y (by simp)
    have hO' : OW S ((y.1, y.2.1) :: (ms.map hp2 ++ G)) := hO
    have h1 : OW (kCl S y.1 y.2.1) (ms.map hp2 ++ G) := by
      have := hO'.cl (h := y.2.1) v1 (by simp)
      rw [List.erase_cons_head] at this
      exact this
    exact (kp_cl (fun h9 => hO'.nin v1 (List.mem_append_right _ h9))).trans (ih _ h1 (fun x h => hv x (by simp [h])))
theorem SF.own (S : zS) (W : zW) : SF S (kOwn S W).1 := by
  unfold kOwn
  split
  · exact SF.same S _ _
  · exact SF.refl S
theorem SF.cpy : ∀ (ms : List zM) (S : zS), SF S (kCpy ms S).1 := by
  intro ms
  induction ms with
  | nil => intro S; exact SF.refl S
  | cons m ms ih => intro S; exact (SF.same S m.1 m.2.1).trans (ih _)
theorem SF.tk (S : zS) (W : zW) : SF S (kTk P j S W).1 := by
  unfold kTk
  cases pidx (P j) W.1 W.2.2.1 with
  | none => exact SF.own S W
  | some k => exact (SF.cpy _ S).trans (SF.go _ _ _)
theorem SF.op (S : zS) (s h m : Nat) : SF S (kOP S s h m) := SF.kS rfl rfl
theorem SF.rd (S : zS) (s h q : Nat) : SF S (kRD S s h q) := SF.kS rfl rfl
theorem SF.sta (S : zS) (s h : Nat) : SF S (kSt S s h) := SF.kS rfl rfl
theorem SF.att (S : zS) (s h : Nat) : SF S (kAtt S s h) := SF.kS rfl rfl
theorem SF.opl {m : Nat} : ∀ (ms : List zM) (S : zS) (e : Nat), SF S (kOpL m ms S e).1 := by
  intro ms
  induction ms with
  | nil => intro S e; exact SF.refl S
  | cons y ms ih =>
    intro S e
    unfold kOpL
    cases ho : oOP (S.1 y.1) y.2.1 m with
    | inl e' => exact ((SF.op S y.1 y.2.1 m).trans (SF.go _ _ _)).trans (ih _ e')
    | inr i => exact (SF.op S y.1 y.2.1 m).trans (ih _ e)
theorem SF.cla : ∀ (ms : List zM) (S : zS), SF S (kClA S ms) := by
  intro ms
  induction ms with
  | nil => intro S; exact SF.refl S
  | cons y ms ih => intro S; exact (SF.cl S y.1 y.2.1).trans (ih _)
theorem WK.keep (hW : WK S W) (sf : SF S S') (kp : KP F S S') (hm : (W.1, W.2.1) ∈ F) : WK S' W :=
  ⟨hW.1, by rw [kp _ _ hW.1 hm]; exact hW.2.1, by rw [(sf W.1).2]; exact hW.2.2.1, by rw [(sf W.1).2]; exact hW.2.2.2⟩
end KPS

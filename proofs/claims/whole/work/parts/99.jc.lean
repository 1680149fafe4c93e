/-! THE INVARIANT: create, read, write -/
def nxs (S : zS) : Nat := (S.1 0).1 + (S.1 1).1
section IVH
variable {S S' S'' : zS} {P : Nat → List zP} {Q : Nat → Option Nat} {O O' : Nat → Nat → zU} {F L L' G : List (Nat × Nat)} {p f j s h k q n c : Nat} {x : Nat × Nat} {W : zW} {ns nk : List Nat} {dir : Bool}
theorem SF.nx (hF : SF S S') : nxs S' = nxs S := by unfold nxs; rw [(hF 0).1, (hF 1).1]
theorem oMK_ok {V : zV} {h c i : Nat} (he : oMK V h c = .inr i) : V.2.2.1 h = some i ∧ (V.2.1 i).1 = true ∧ (V.2.1 i).2.1 = true ∧ (vlv V).length < 20 := by
  unfold oMK at he
  cases hs : V.2.2.1 h with
  | none => rw [hs] at he; cases he
  | some x =>
    rw [hs] at he
    dsimp only at he
    cases h1 : (V.2.1 x).1
    · rw [h1] at he; cases he
    · rw [h1] at he
      cases h2 : (V.2.1 x).2.1
      · rw [h2] at he; cases he
      · rw [h2] at he
        cases h3 : vin V x c with
        | some g => rw [h3] at he; cases he
        | none =>
          rw [h3] at he
          cases h4 : Nat.ble 20 (vlv V).length
          · rw [h4] at he
            cases he
            refine ⟨rfl, h1, h2, ?_⟩
            refine Nat.lt_of_not_le fun h9 => ?_
            rw [Nat.ble_eq_true_of_le h9] at h4
            cases h4
          · rw [h4] at he; cases he
theorem kMK_pl {i : Nat} (hr : oMK (S.1 s) h c = .inr i) : ((kMK S s h c dir).1 s).2.2.1 h = some (S.1 s).1 ∧ ((kMK S s h c dir).1 s).2.1 (S.1 s).1 = (true, dir, c, some i, [], nI 0) := by
  unfold kMK
  rw [hr]
  show (up1 S.1 s _ s).2.2.1 h = _ ∧ (up1 S.1 s _ s).2.1 _ = _
  rw [up1_eq]
  exact ⟨up1_eq _ _ _, up1_eq _ _ _⟩
theorem kMK_nx (hs : s < 2) : nxs (kMK S s h c dir) ≤ nxs S + 1 := by
  have h1 : ((kMK S s h c dir).1 s).1 ≤ (S.1 s).1 + 1 := by
    show (up1 S.1 s _ s).1 ≤ _
    rw [up1_eq]
    cases oMK (S.1 s) h c with
    | inl e => exact Nat.le_succ _
    | inr i => exact Nat.le_refl _
  have h2 : ∀ t, t ≠ s → ((kMK S s h c dir).1 t).1 = (S.1 t).1 := fun t ht => by
    show (up1 S.1 s _ t).1 = _
    rw [up1_ne ht]
  unfold nxs
  have : s = 0 ∨ s = 1 := by omega
  rcases this with rfl | rfl
  · have := h2 1 (by decide); omega
  · have := h2 0 (by decide); omega
theorem OW.mk (hO : OW S ((s, h) :: F)) (hs : s < 2) (hc : c < 8) (hnx : (S.1 s).1 < 250) : OW (kMK S s h c dir) ((s, h) :: F) ∧ KP F S (kMK S s h c dir) ∧ FG S (kMK S s h c dir) := by
  have hlt := hO.lt hs (List.mem_cons_self)
  have hw := hO.1 s hs
  cases hr : oMK (S.1 s) h c with
  | inl e =>
    have e1 : kMK S s h c dir = kS S s (inc (S.1 s)) 114 (le (nI h) 4 ++ le (nI 1) 2 ++ le (nI (97 + c)) 1 ++ le (bI dir) 1) (rT 115 (oMK (S.1 s) h c)) (rM (S.1 s) c dir (oMK (S.1 s) h c)) := by
      unfold kMK
      rw [hr]
      rfl
    rw [e1]
    exact ⟨hO.keep (kS_V hO hw) (kS_is rfl), KP.eq rfl, SF.fg (SF.kS rfl rfl)⟩
  | inr i =>
    obtain ⟨o1, o2, o3, o4⟩ := oMK_ok hr
    have hi := hw.2.2.2.1 _ _ o1
    have e1 : kMK S s h c dir = kS S s (inc (newF (S.1 s) h i c dir)) 114 (le (nI h) 4 ++ le (nI 1) 2 ++ le (nI (97 + c)) 1 ++ le (bI dir) 1) (rT 115 (oMK (S.1 s) h c)) (rM (S.1 s) c dir (oMK (S.1 s) h c)) := by
      unfold kMK
      rw [hr]
      rfl
    rw [e1]
    have hV : VW (inc (newF (S.1 s) h i c dir)) := hw.new hlt hc hi o3 o4 hnx
    have hH : (inc (newF (S.1 s) h i c dir)).2.2.1 = up1 (S.1 s).2.2.1 h (some (S.1 s).1) := rfl
    refine ⟨hO.keep (kS_V hO hV) fun t y => ?_, KP.up hH (hO.nin hs), kS_fg (Nat.le_succ _) fun g hg => ?_⟩
    · rw [kS_st hH]
      by_cases e : t = s ∧ y = h
      · rw [if_pos e, e.1, e.2, o1]; rfl
      · rw [if_neg e]
    · show ((up1 (S.1 s).2.1 (S.1 s).1 _ g).1 = true → _) ∧ (up1 (S.1 s).2.1 (S.1 s).1 _ g).2.1 = _ ∧ _ ≤ (up1 (S.1 s).2.1 (S.1 s).1 _ g).2.2.2.2.1.length
      rw [up1_ne (by omega)]
      exact ⟨id, rfl, Nat.le_refl _⟩
/-- create, where the walk stands -/
theorem OW.mkf (hO : OW S (fl W ++ owL P O)) (hl : (owL P O).length + 4 < 128) (hW : WK S W) (hj : j < 4) (h2 : PM2 P) (hc : c < 8) (hnx : ∀ t, t < 2 → (S.1 t).1 < 250) :
    (∀ e, (kMf P j S W c dir).2 = .inl e → OW (kMf P j S W c dir).1 (owL P O)) ∧
    (∀ t y, (kMf P j S W c dir).2 = .inr (t, y) → OW (kMf P j S W c dir).1 ((t, y) :: owL P O) ∧ t < 2 ∧ (dir = false → ∀ i, ((kMf P j S W c dir).1.1 t).2.2.1 y = some i → (((kMf P j S W c dir).1.1 t).2.1 i).2.1 = false)) ∧
    KP (owL P O) S (kMf P j S W c dir).1 ∧ FG S (kMf P j S W c dir).1 ∧ nxs (kMf P j S W c dir).1 ≤ nxs S + 1 := by
  have h0 : (0, 0) ∈ owL P O := own_00
  have hP := own_PM (O := O) hj (h2 j hj)
  have hl2 := fl_len W (owL P O)
  unfold kMf
  cases hf : fmk (stM P j W) with
  | none =>
    dsimp only
    exact ⟨fun e _ => hO.gof hW.1, fun t y he => (by cases he), kp_go (fl_nin hO hW.1), (SF.go _ _ _).fg, by rw [(SF.go S W.1 W.2.1).nx]; exact Nat.le_succ _⟩
  | some k =>
    dsimp only
    have hm := stM_ok hP hW.1 (fl_mem h0) _ (getD_memM (fmk_lt hf))
    generalize (stM P j W).getD k dM = m at hm
    obtain ⟨m1, m2⟩ := hm
    have O1 := hO.same m1 m2 (by omega)
    have O2 : OW (kGo (kSame S m.1 m.2.1) W.1 W.2.1) ((m.1, fre S m.1) :: owL P O) := fl_go (L := [(m.1, fre S m.1)]) O1 hW.1
    have k1 : KP (owL P O) S (kGo (kSame S m.1 m.2.1) W.1 W.2.1) := ((kp_same hO m1 (by omega)).sub fun x hx => List.mem_append_right _ hx).trans (kp_go (fl_nin hO hW.1))
    have s1 : SF S (kGo (kSame S m.1 m.2.1) W.1 W.2.1) := (SF.same S _ _).trans (SF.go _ _ _)
    unfold kMg
    generalize kGo (kSame S m.1 m.2.1) W.1 W.2.1 = T at O2 k1 s1
    have hnT : (T.1 m.1).1 < 250 := by rw [(s1 m.1).1]; exact hnx _ m1
    obtain ⟨a1, a2, a3⟩ := OW.mk (dir := dir) O2 m1 hc hnT
    have a4 := kMK_nx (S := T) (s := m.1) (h := fre S m.1) (c := c) (dir := dir) m1
    rw [s1.nx] at a4
    cases hr : oMK (T.1 m.1) (fre S m.1) c with
    | inl e =>
      dsimp only
      have g1 := (a1.goh h0 m1).1
      exact ⟨fun e' _ => g1, fun t y he => (by cases he), (k1.trans a2).trans (kp_go (Or.inr (a1.nin m1))), (s1.fg.trans a3).trans (SF.go _ _ _).fg, by rw [(SF.go _ _ _).nx]; exact a4⟩
    | inr i =>
      dsimp only
      refine ⟨fun e he => (by cases he), fun t y he => ?_, (k1.trans a2).trans (KP.eq rfl), (s1.fg.trans a3).trans (SF.op _ _ _ _).fg, by rw [(SF.op _ _ _ _).nx]; exact a4⟩
      injection he with he
      injection he with e1 e2
      subst e1 e2
      refine ⟨a1.opn m1 _, m1, fun hd i' hi' => ?_⟩
      obtain ⟨p1, p2⟩ := kMK_pl (dir := dir) hr
      rw [(SF.op (kMK T m.1 (fre S m.1) c dir) m.1 (fre S m.1) (dM2 dir) m.1).2]
      have e3 : ((kOP (kMK T m.1 (fre S m.1) c dir) m.1 (fre S m.1) (dM2 dir)).1 m.1).2.2.1 (fre S m.1) = ((kMK T m.1 (fre S m.1) c dir).1 m.1).2.2.1 (fre S m.1) := (show KP [(m.1, fre S m.1)] (kMK T m.1 (fre S m.1) c dir) (kOP (kMK T m.1 (fre S m.1) c dir) m.1 (fre S m.1) (dM2 dir)) from KP.eq rfl) m.1 _ m1 (by simp)
      rw [e3, p1] at hi'
      injection hi' with hi'
      subst hi'
      rw [p2]
      exact hd
theorem OW.rl : ∀ (ms : List zM) (S : zS) (a q : Nat), OW S L → (∀ m ∈ ms, m.1 < 2) → OW (kRL ms S a q).1 L ∧ KP L S (kRL ms S a q).1 ∧ SF S (kRL ms S a q).1 := by
  intro ms
  induction ms with
  | nil => intro S a q hO _; exact ⟨hO, KP.refl S, SF.refl S⟩
  | cons m ms ih =>
    intro S a q hO hv
    have hm := hv m (by simp)
    have o1 : OW (kRD S m.1 m.2.1 q) L := hO.rd hm q
    have k1 : KP L S (kRD S m.1 m.2.1 q) := KP.eq rfl
    have s1 := SF.rd S m.1 m.2.1 q
    have nx : OW (if ms = [] then (kRD S m.1 m.2.1 q, a, q, oRD (S.1 m.1) m.2.1 q) else kRL ms (kRD S m.1 m.2.1 q) (a + 1) 0).1 L ∧ KP L S (if ms = [] then (kRD S m.1 m.2.1 q, a, q, oRD (S.1 m.1) m.2.1 q) else kRL ms (kRD S m.1 m.2.1 q) (a + 1) 0).1 ∧ SF S (if ms = [] then (kRD S m.1 m.2.1 q, a, q, oRD (S.1 m.1) m.2.1 q) else kRL ms (kRD S m.1 m.2.1 q) (a + 1) 0).1 := by
      by_cases e : ms = []
      · rw [if_pos e]; exact ⟨o1, k1, s1⟩
      · rw [if_neg e]
        obtain ⟨a1, a2, a3⟩ := ih _ (a + 1) 0 o1 (fun x hx => hv x (by simp [hx]))
        exact ⟨a1, k1.trans a2, s1.trans a3⟩
    rw [kRL_cons]
    cases hr : oRD (S.1 m.1) m.2.1 q with
    | inl e => rw [hr] at nx; exact nx
    | inr o =>
      cases o with
      | none => rw [hr] at nx; exact nx
      | some b => exact ⟨o1, k1, s1⟩
theorem vby_q {V : zV} {i q : Nat} {b : Int32} (hw : VW V) (hi : i < V.1) (hb : vby V i q = some b) : q + 1 ≤ 20 ∧ ((V.2.1 i).2.1 = false → q + 1 ≤ 8 ∧ q + 1 ≤ (V.2.1 i).2.2.2.2.1.length) := by
  unfold vby at hb
  cases hd : (V.2.1 i).2.1
  · rw [hd] at hb
    dsimp only [cond_false] at hb
    by_cases e : q < (V.2.1 i).2.2.2.2.1.length
    · have := (hw.2.2.2.2.2.1 i hi).2.2.1
      rw [hd] at this
      dsimp only [cond_false] at this
      exact ⟨by omega, fun _ => by omega⟩
    · rw [if_neg e] at hb; cases hb
  · rw [hd] at hb
    dsimp only [cond_true] at hb
    refine ⟨?_, fun h => (by cases h)⟩
    cases hv : vls V i q with
    | none => rw [hv] at hb; cases hb
    | some l =>
      unfold vls at hv
      have h1 : q < ((vlv V).filter fun i' => decide ((V.2.1 i').2.2.2.1 = some i)).length := by
        refine Nat.lt_of_not_le fun h9 => ?_
        rw [List.getElem?_eq_none h9] at hv
        cases hv
      have h2 := List.length_filter_le (fun i' => decide ((V.2.1 i').2.2.2.1 = some i)) (vlv V)
      have h3 := hw.2.2.1
      omega
theorem oRD_s {V : zV} {h q : Nat} {b : Int32} (hr : oRD V h q = .inr (some b)) : ∃ i, V.2.2.1 h = some i ∧ (V.2.1 i).1 = true ∧ vby V i q = some b := by
  unfold oRD at hr
  cases hs : V.2.2.1 h with
  | none => rw [hs] at hr; cases hr
  | some i =>
    rw [hs] at hr
    dsimp only at hr
    cases ha : (V.2.1 i).1
    · rw [ha] at hr; cases hr
    · rw [ha] at hr
      injection hr with hr
      exact ⟨i, rfl, ha, hr⟩
theorem RI.rl {l : List zM} {b : Bool} {ev mo : Nat} : ∀ (ms : List zM) (S : zS) (a q : Nat), ms = l.drop a → (∀ t, t < 2 → VW (S.1 t)) → RI S (b, l, ev, mo, a, q) → RI (kRL ms S a q).1 (b, l, ev, mo, (kRL ms S a q).2.1, (kRL ms S a q).2.2.1) := by
  intro ms
  induction ms with
  | nil => intro S a q _ _ hI; exact hI
  | cons m ms ih =>
    intro S a q hd hw hI
    have ha : a < l.length := hI.1
    have hdr := drop_gM ha
    rw [← hd] at hdr
    injection hdr with hm hms
    have hl := getD_memM ha
    have m1 : m.1 < 2 := by rw [hm]; exact hI.2.2.2.2.2.1 _ hl
    have hV : ∀ t, t < 2 → VW ((kRD S m.1 m.2.1 q).1 t) := fun t ht => by
      show VW (up1 S.1 m.1 _ t)
      by_cases e : t = m.1
      · subst e; rw [up1_eq]; exact hw _ m1
      · rw [up1_ne e]; exact hw t ht
    have hK : ∀ t y, t < 2 → ((kRD S m.1 m.2.1 q).1 t).2.2.1 y = (S.1 t).2.2.1 y := fun t y ht => (show KP [(t, y)] S (kRD S m.1 m.2.1 q) from KP.eq rfl) t y ht (by simp)
    have sf := SF.rd S m.1 m.2.1 q
    have hI2 : RI (kRD S m.1 m.2.1 q) (b, l, ev, mo, a, q) := hI.keep hw (fun y hy => hK y.1 y.2.1 (hI.2.2.2.2.2.1 y hy)) sf.fg
    have nx : RI (if ms = [] then (kRD S m.1 m.2.1 q, a, q, oRD (S.1 m.1) m.2.1 q) else kRL ms (kRD S m.1 m.2.1 q) (a + 1) 0).1 (b, l, ev, mo, (if ms = [] then (kRD S m.1 m.2.1 q, a, q, oRD (S.1 m.1) m.2.1 q) else kRL ms (kRD S m.1 m.2.1 q) (a + 1) 0).2.1, (if ms = [] then (kRD S m.1 m.2.1 q, a, q, oRD (S.1 m.1) m.2.1 q) else kRL ms (kRD S m.1 m.2.1 q) (a + 1) 0).2.2.1) := by
      by_cases e : ms = []
      · rw [if_pos e]; exact hI2
      · rw [if_neg e]
        refine ih _ (a + 1) 0 hms hV ?_
        have hal : a + 1 < l.length := by
          refine Nat.lt_of_not_le fun h9 => e ?_
          rw [hms, List.drop_eq_nil_of_le h9]
        obtain ⟨b1, b2, b3, b4, b5, b6, b7⟩ := hI2
        exact ⟨hal, b2, b3, Nat.zero_le _, b5, b6, fun h9 => ⟨Nat.zero_le _, (b7 h9).2.1, fun _ _ _ => Nat.zero_le _⟩⟩
    rw [kRL_cons]
    cases hr : oRD (S.1 m.1) m.2.1 q with
    | inl e => rw [hr] at nx; exact nx
    | inr o =>
      cases o with
      | none => rw [hr] at nx; exact nx
      | some y =>
        obtain ⟨i, i1, i2, i3⟩ := oRD_s hr
        obtain ⟨q1, q2⟩ := vby_q (hw _ m1) ((hw _ m1).2.2.2.1 _ _ i1) i3
        obtain ⟨b1, b2, b3, b4, b5, b6, b7⟩ := hI2
        show RI (kRD S m.1 m.2.1 q) (b, l, ev, mo, a, q + 1)
        refine ⟨b1, b2, b3, q1, b5, b6, fun h9 => ?_⟩
        obtain ⟨c1, c2, c3⟩ := b7 h9
        have hpl := c2 m (by rw [hm]; exact hl) i (by rw [hK _ _ m1]; exact i1) (by rw [(sf m.1).2]; exact i2)
        rw [(sf m.1).2] at hpl
        obtain ⟨q3, q4⟩ := q2 hpl
        refine ⟨q3, c2, fun i' hi' _ => ?_⟩
        have hi' : ((kRD S m.1 m.2.1 q).1 (l.getD a dM).1).2.2.1 (l.getD a dM).2.1 = some i' := hi'
        show q + 1 ≤ (((kRD S m.1 m.2.1 q).1 (l.getD a dM).1).2.1 i').2.2.2.2.1.length
        rw [← hm] at hi' ⊢
        rw [hK _ _ m1, i1] at hi'
        injection hi' with hi'
        subst hi'
        rw [(sf m.1).2]
        exact q4
theorem oWR_s {V : zV} {h q g : Nat} (hr : oWR V h q = .inr g) : V.2.2.1 h = some g ∧ (V.2.1 g).1 = true ∧ q < 8 := by
  unfold oWR at hr
  cases hg : V.2.2.1 h with
  | none => rw [hg] at hr; cases hr
  | some i =>
    rw [hg] at hr
    dsimp only at hr
    cases ha : (V.2.1 i).1
    · rw [ha] at hr; cases hr
    · rw [ha] at hr
      dsimp only [cond_true] at hr
      cases hb : Nat.blt q 8
      · rw [hb] at hr; cases hr
      · rw [hb] at hr
        dsimp only [cond_true] at hr
        injection hr with hr
        subst hr
        exact ⟨rfl, ha, g_lt hb⟩
theorem pu8_gt {bs : List Int32} {q : Nat} (hq : q ≤ bs.length) (b : Int32) : q + 1 ≤ (pu8 bs q b).length := by
  unfold pu8
  split
  · rw [List.length_set]; omega
  · rw [List.length_append, List.length_singleton]; omega
theorem kWR_nx : nxs (kWR S s h q n) = nxs S := by
  have h2 : ∀ t, ((kWR S s h q n).1 t).1 = (S.1 t).1 := fun t => by
    show (up1 S.1 s _ t).1 = _
    by_cases e : t = s
    · subst e
      rw [up1_eq]
      cases oWR (S.1 t) h q <;> rfl
    · rw [up1_ne e]
  unfold nxs
  rw [h2, h2]
theorem kRM_nx : nxs (kRM S s h) = nxs S := by
  have h2 : ∀ t, ((kRM S s h).1 t).1 = (S.1 t).1 := fun t => by
    show (up1 S.1 s _ t).1 = _
    by_cases e : t = s
    · subst e
      rw [up1_eq]
      cases oRM (S.1 t) h <;> rfl
    · rw [up1_ne e]
  unfold nxs
  rw [h2, h2]
/-- the row that was written -/
theorem RI.wr {b : Bool} {l : List zM} {ev mo a : Nat} {m : zM} (hI : RI S (b, l, ev, mo, a, q)) (hm : l.getD a dM = m) (hmo : mo ≠ 0) (hw : ∀ t, t < 2 → VW (S.1 t)) (hfg : FG S (kWR S m.1 m.2.1 q n)) : RI (kWR S m.1 m.2.1 q n) (b, l, ev, mo, a, q + 1 - wrT (oWR (S.1 m.1) m.2.1 q)) := by
  have m1 : m.1 < 2 := by rw [← hm]; exact hI.2.2.2.2.2.1 _ (getD_memM hI.1)
  have hK : ∀ t y, t < 2 → ((kWR S m.1 m.2.1 q n).1 t).2.2.1 y = (S.1 t).2.2.1 y := fun t y ht => (show KP [(t, y)] S (kWR S m.1 m.2.1 q n) from KP.eq (uV_H _ _ _ _)) t y ht (by simp)
  have hI2 : RI (kWR S m.1 m.2.1 q n) (b, l, ev, mo, a, q) := hI.keep hw (fun y hy => hK y.1 y.2.1 (hI.2.2.2.2.2.1 y hy)) hfg
  cases hr : oWR (S.1 m.1) m.2.1 q with
  | inl e => exact hI2
  | inr g =>
    obtain ⟨g1, g2, g3⟩ := oWR_s hr
    obtain ⟨b1, b2, b3, b4, b5, b6, b7⟩ := hI2
    show RI (kWR S m.1 m.2.1 q n) (b, l, ev, mo, a, q + 1)
    refine ⟨b1, b2, b3, (by show q + 1 ≤ 20; omega), b5, b6, fun h9 => ⟨(by show q + 1 ≤ 8; omega), (b7 h9).2.1, fun i hi _ => ?_⟩⟩
    have hi : ((kWR S m.1 m.2.1 q n).1 (l.getD a dM).1).2.2.1 (l.getD a dM).2.1 = some i := hi
    show q + 1 ≤ (((kWR S m.1 m.2.1 q n).1 (l.getD a dM).1).2.1 i).2.2.2.2.1.length
    rw [hm] at hi ⊢
    rw [hK _ _ m1, g1] at hi
    injection hi with hi
    subst hi
    have hq : q ≤ ((S.1 m.1).2.1 g).2.2.2.2.1.length := by
      have := (hI.2.2.2.2.2.2 hmo).2.2 g
      have this : (S.1 (l.getD a dM).1).2.2.1 (l.getD a dM).2.1 = some g → ((S.1 (l.getD a dM).1).2.1 g).1 = true → q ≤ ((S.1 (l.getD a dM).1).2.1 g).2.2.2.2.1.length := this
      rw [hm] at this
      exact this g1 g2
    have e1 : ((kWR S m.1 m.2.1 q n).1 m.1).2.1 g = ((putF (S.1 m.1) g q (nI n)).2.1 g) := by
      unfold kWR
      rw [hr]
      show (up1 S.1 m.1 _ m.1).2.1 g = _
      rw [up1_eq]
      rfl
    rw [e1]
    show q + 1 ≤ (up1 (S.1 m.1).2.1 g _ g).2.2.2.2.1.length
    rw [up1_eq]
    exact pu8_gt hq _
end IVH

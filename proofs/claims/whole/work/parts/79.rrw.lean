/-! THE REFERENCE'S METHODS: read, write -/
def rdC (ev : Nat) (x : Nat ⊕ Option Int32) : Nat := match x with
  | .inr _ => 0
  | .inl _ => if ev = 1 then 3 else 0
def rdV (ev : Nat) (x : Nat ⊕ Option Int32) : Int32 := if rdC ev x = 0 then goI x else nI 0
def pl1 (x : Nat ⊕ Option Int32) (q : Nat) : Nat := match x with
  | .inr (some _) => q + 1
  | _ => q
section RRW
variable {A : zA} {M M' : Nat → Nat → Int32} {h : ag_H} {d s x i p f j o : Nat} {S S' : zS} {P : Nat → List zP} {Q : Nat → Option Nat} {O : Nat → Nat → zU} {F L G : List (Nat × Nat)} {W : zW} {X : List Nat × List Nat}
/-- the end of a read -/
theorem t154_174 (hT : TA A M h) (ho : o < 20) {q ev : Nat} (hq : q < 1000) {x : Nat ⊕ Option Int32} (hx : ∀ b, x = .inr (some b) → ∃ n, n < 256 ∧ b = nI n) (hx2 : ∀ e, x = .inl e → e = 110) (h61 : M 261 o = nI q) (h56 : M 256 o = bI (decide (ev = 1))) (h20 : M 230 20 = eI x) (h21 : M 230 21 = goI x) {b : Option Nat → Int32 → ag_H → ag_R} : ∃ h' M', f154_174 (ag_run gT d) b (some 230) (nI o) h = some (.inl (some (.inl (rdV ev x))), h') ∧ TA A M' h' ∧ M' 261 o = nI (pl1 x q) ∧ M' 230 41 = nI (rdC ev x) ∧ ∀ b y, ¬ (b = 261 ∧ y = o) → ¬ (b = 230 ∧ y = 41) → M' b y = M b y := by
  -- what follows the place
  have fin : ∀ (w : Nat) (h1 : ag_H), h1 = hse h 261 o (nI w) → ∃ h' M', (ag_gI h1 (some 230) 11 21 fun x2 => if nI 0 ≤ x2 then f154_232 (ag_run gT d) b (some 230) (some 230) h1 else ag_gI h1 (some 230) 11 20 fun x3 => if x3 = nI 0 then f154_232 (ag_run gT d) b (some 230) (some 230) h1 else ag_gR h1 (some 230) 11 32 fun x4 => ag_xI h1 x4 102 (nI o) fun x5 => if x5 = nI 0 then f154_232 (ag_run gT d) b (some 230) (some 230) h1 else f154_233 (ag_run gT d) b (some 230) (some 230) (nI 3) h1) = some (.inl (some (.inl (rdV ev x))), h') ∧ TA A M' h' ∧ M' 261 o = nI w ∧ M' 230 41 = nI (rdC ev x) ∧ ∀ b y, ¬ (b = 261 ∧ y = o) → ¬ (b = 230 ∧ y = 41) → M' b y = M b y := by
    rintro w h1 rfl
    have T1 := hT.sx (a := 261) (c := 100) (i := o) rfl (nI w)
    have g21 : up2 M 261 o (nI w) 230 21 = goI x := by rw [up2_na (by decide)]; exact h21
    have g20 : up2 M 261 o (nI w) 230 20 = eI x := by rw [up2_na (by decide)]; exact h20
    have g56 : up2 M 261 o (nI w) 256 o = bI (decide (ev = 1)) := by rw [up2_na (by decide)]; exact h56
    have z0 : rdC ev x = 0 → ∃ h' M', f154_232 (ag_run gT d) b (some 230) (some 230) (hse h 261 o (nI w)) = some (.inl (some (.inl (rdV ev x))), h') ∧ TA A M' h' ∧ M' 261 o = nI w ∧ M' 230 41 = nI (rdC ev x) ∧ ∀ b y, ¬ (b = 261 ∧ y = o) → ¬ (b = 230 ∧ y = 41) → M' b y = M b y := by
      intro hc
      have T2 := T1.sI (k := 41) rfl (nI 0)
      refine ⟨_, _, ?_, T2, by rw [up2_na (by decide), up2_eq], by rw [up2_eq, hc], fun b y z1 z2 => by rw [up2_ne z2, up2_ne z1]⟩
      unfold f154_232 f154_233 f154_251 rdV
      rw [lit_0, T1.wI (k := 41) rfl, T2.rI (k := 41) rfl, up2_eq, if_pos rfl, T2.rI (k := 21) rfl, up2_ni (by decide), g21, if_pos hc]
    rw [T1.rI (k := 21) rfl, g21]
    match x, hx, hx2, g20, g21, z0 with
    | .inr (some bb), hx, _, g20, g21, z0 =>
      obtain ⟨n, hn, rfl⟩ := hx bb rfl
      rw [if_pos (show nI 0 ≤ goI (Sum.inr (some (nI n))) from nI_le (by omega) (by omega))]
      exact z0 rfl
    | .inr none, _, _, g20, g21, z0 =>
      rw [if_neg (show ¬ nI 0 ≤ goI (Sum.inr none) by decide), T1.rI (k := 20) rfl, g20, if_pos (show eI (Sum.inr none : Nat ⊕ Option Int32) = nI 0 from rfl)]
      exact z0 rfl
    | .inl e, _, hx2, g20, g21, z0 =>
      have := hx2 e rfl
      subst this
      rw [if_neg (show ¬ nI 0 ≤ goI (Sum.inl 110) by decide), T1.rI (k := 20) rfl, g20, if_neg (show ¬ eI (Sum.inl 110 : Nat ⊕ Option Int32) = nI 0 by decide), T1.rR (k := 32) (b := 256) rfl rfl, T1.rx (a := 256) (c := 102) (i := o) rfl (show o < 20 from ho), g56]
      by_cases h1 : ev = 1
      · rw [decide_eq_true h1, if_neg (show ¬ bI true = nI 0 by decide)]
        have hc : rdC ev (.inl 110) = 3 := if_pos h1
        have T2 := T1.sI (k := 41) rfl (nI 3)
        refine ⟨_, _, ?_, T2, by rw [up2_na (by decide), up2_eq], by rw [up2_eq, hc], fun b y z1 z2 => by rw [up2_ne z2, up2_ne z1]⟩
        unfold f154_233 f154_251 rdV
        rw [T1.wI (k := 41) rfl, T2.rI (k := 41) rfl, up2_eq, lit_0, if_neg (show ¬ nI 3 = nI 0 by decide), hc, if_neg (by decide)]
      · rw [decide_eq_false h1, if_pos (show bI false = nI 0 from rfl)]
        exact z0 (if_neg h1)
  unfold f154_174 f154_203
  rw [hT.rR (k := 37) (b := 261) rfl rfl, hT.rI (k := 21) rfl, h21, lit_0, lit_1, lit_3, hT.rR (k := 37) (b := 261) rfl rfl, hT.rx (a := 261) (c := 100) (i := o) rfl (show o < 20 from ho), h61]
  match x, hx, fin with
  | .inr (some bb), hx, fin =>
    obtain ⟨n, hn, rfl⟩ := hx bb rfl
    rw [if_neg (show ¬ goI (Sum.inr (some (nI n))) < nI 0 from nI_nlt (by omega) (by omega)), hT.rR (k := 37) (b := 261) rfl rfl, hT.rx (a := 261) (c := 100) (i := o) rfl (show o < 20 from ho), h61, nI_add, hT.wx (a := 261) (c := 100) (i := o) rfl (show o < 20 from ho)]
    exact fin (q + 1) _ rfl
  | .inr none, _, fin =>
    rw [if_pos (show goI (Sum.inr none) < nI 0 by decide), hT.wx (a := 261) (c := 100) (i := o) rfl (show o < 20 from ho)]
    exact fin q _ rfl
  | .inl e, _, fin =>
    rw [if_pos (show goI (Sum.inl e) < nI 0 from (show (-1 : Int32) < nI 0 by decide)), hT.wx (a := 261) (c := 100) (i := o) rfl (show o < 20 from ho)]
    exact fin q _ rfl
def kR1 (x : Nat ⊕ Option Int32) (rest : List zM) (S : zS) (a q : Nat) : zS × Nat × Nat × (Nat ⊕ Option Int32) := match x with
  | .inr (some b) => (S, a, q + 1, .inr (some b))
  | x => if rest = [] then (S, a, q, x) else kRL rest S (a + 1) 0
theorem kRL_1 (m : zM) (rest : List zM) (S : zS) (a q : Nat) : kRL (m :: rest) S a q = kR1 (oRD (S.1 m.1) m.2.1 q) rest (kRD S m.1 m.2.1 q) a q := by
  rw [kRL_cons]
  unfold kR1
  rcases oRD (S.1 m.1) m.2.1 q with e | (_ | b) <;> rfl
/-- what a read leaves alone -/
def FD (o : Nat) (M M' : Nat → Nat → Int32) : Prop := ∀ b y, (b < 234 ∨ 245 < b) → ¬ (b = 230 ∧ (y = 17 ∨ y = 19 ∨ y = 20 ∨ y = 21 ∨ y = 40 ∨ y = 41)) → ¬ ((b = 260 ∨ b = 261) ∧ y = o) → M' b y = M b y
theorem t154_95 (ho : o < 20) {ms : List zM} (hl3 : ms.length ≤ 3) {ev : Nat} (hv : ∀ m ∈ ms, m.1 < 2 ∧ (m.1, m.2.1) ∈ F) : ∀ (rest : List zM) (a q n : Nat) (x : Nat ⊕ Option Int32) (S : zS) (M : Nat → Nat → Int32) (h : ag_H), ms.drop (a + 1) = rest → a < ms.length → q ≤ 20 → (∀ b, x = .inr (some b) → ∃ n, n < 256 ∧ b = nI n) → (∀ e, x = .inl e → e = 110) → OW S F → TA A M h → RV S.1 M → RG S M → OL M o ms → M 256 o = bI (decide (ev = 1)) → M 260 o = nI a → M 261 o = nI q → M 230 20 = eI x → M 230 21 = goI x →
    ∃ h' M', g154 (ag_run gT (d + 3)) (n + rest.length + 1) (some 230) (nI o) h = some (.inl (some (.inl (rdV ev (kR1 x rest S a q).2.2.2))), h') ∧ TA A M' h' ∧ RV (kR1 x rest S a q).1.1 M' ∧ RG (kR1 x rest S a q).1 M' ∧ M' 260 o = nI (kR1 x rest S a q).2.1 ∧ M' 261 o = nI (kR1 x rest S a q).2.2.1 ∧ M' 230 41 = nI (rdC ev (kR1 x rest S a q).2.2.2) ∧ FD o M M' := by
  intro rest
  induction rest with
  | nil =>
    intro a q n x S M h hd ha hq hx hx2 hO hT hV hG hOL h56 h60 h61 h20 h21
    have hend := List.drop_eq_nil_iff.mp hd
    obtain ⟨h1, M1, e1, T1, q1, q2, F1⟩ := t154_174 (d := d + 3) (b := g154 (ag_run gT (d + 3)) (n + 0)) (ev := ev) hT ho (q := q) (by omega) hx hx2 h61 h56 h20 h21
    have V1 : RV S.1 M1 := hV.rows fun b y z1 z2 => F1 b y (by omega) (by omega)
    have G1 : RG S M1 := hG.congr (F1 _ _ (by omega) (by omega)) (F1 _ _ (by omega) (by omega)) (fun y => F1 _ _ (by omega) (by omega)) (fun y => F1 _ _ (by omega) (by omega))
    have g60 : M1 260 o = nI a := by rw [F1 _ _ (by omega) (by omega)]; exact h60
    have FD1 : FD o M M1 := fun b y z1 z2 z3 => F1 b y (by omega) (by omega)
    have st : g154 (ag_run gT (d + 3)) (n + ([] : List zM).length + 1) (some 230) (nI o) h = f154_174 (ag_run gT (d + 3)) (g154 (ag_run gT (d + 3)) (n + 0)) (some 230) (nI o) h := by
      show f154_95 _ _ _ _ _ = _
      unfold f154_95
      rw [hT.rI (k := 21) rfl, h21, lit_0, lit_1, hT.rR (k := 36) (b := 260) rfl rfl, hT.rx (a := 260) (c := 100) (i := o) rfl (show o < 20 from ho), h60, hT.rR (k := 31) (b := 255) rfl rfl, hT.rx (a := 255) (c := 100) (i := o) rfl (show o < 20 from ho), hOL.1, nI_add, if_pos (nI_le (by omega) (by omega))]
      split <;> rfl
    rw [st]
    match x, e1, q1, q2 with
    | .inr (some b), e1, q1, q2 => exact ⟨h1, M1, e1, T1, V1, G1, g60, q1, q2, FD1⟩
    | .inr none, e1, q1, q2 => exact ⟨h1, M1, e1, T1, V1, G1, g60, q1, q2, FD1⟩
    | .inl e, e1, q1, q2 => exact ⟨h1, M1, e1, T1, V1, G1, g60, q1, q2, FD1⟩
  | cons m rest ih =>
    intro a q n x S M h hd ha hq hx hx2 hO hT hV hG hOL h56 h60 h61 h20 h21
    have hil : a + 1 < ms.length := by
      rcases Nat.lt_or_ge (a + 1) ms.length with h1 | h1
      · exact h1
      · rw [List.drop_eq_nil_of_le h1] at hd; cases hd
    have hdr := drop_gM hil
    rw [hd] at hdr
    injection hdr with hm hrest
    obtain ⟨v1, v2⟩ := hv m (by rw [hm]; exact gM_mem hil)
    have v3 := hO.lt v1 v2
    obtain ⟨g, hg, hg1⟩ := hO.st v1 v2
    -- nothing was got: the next handle
    have miss : (∀ b, x ≠ .inr (some b)) → ∃ h' M', g154 (ag_run gT (d + 3)) (n + (m :: rest).length + 1) (some 230) (nI o) h = some (.inl (some (.inl (rdV ev (kRL (m :: rest) S (a + 1) 0).2.2.2))), h') ∧ TA A M' h' ∧ RV (kRL (m :: rest) S (a + 1) 0).1.1 M' ∧ RG (kRL (m :: rest) S (a + 1) 0).1 M' ∧ M' 260 o = nI (kRL (m :: rest) S (a + 1) 0).2.1 ∧ M' 261 o = nI (kRL (m :: rest) S (a + 1) 0).2.2.1 ∧ M' 230 41 = nI (rdC ev (kRL (m :: rest) S (a + 1) 0).2.2.2) ∧ FD o M M' := by
      intro hno
      have hneg : ¬ nI 0 ≤ goI x := by
        match x, hno with
        | .inr (some b), hno => exact absurd rfl (hno b)
        | .inr none, _ => decide
        | .inl e, _ => exact (show ¬ nI 0 ≤ (-1 : Int32) by decide)
      have T1 := hT.sx (a := 260) (c := 100) (i := o) rfl (nI (a + 1))
      have T2 := T1.sx (a := 261) (c := 100) (i := o) rfl (nI 0)
      generalize hM : up2 (up2 M 260 o (nI (a + 1))) 261 o (nI 0) = M2 at T2
      have m2 : ∀ b y, ¬ (b = 260 ∧ y = o) → ¬ (b = 261 ∧ y = o) → M2 b y = M b y := fun b y z1 z2 => by rw [← hM, up2_ne z2, up2_ne z1]
      have g60 : M2 260 o = nI (a + 1) := by rw [← hM, up2_na (by decide), up2_eq]
      have g61 : M2 261 o = nI 0 := by rw [← hM, up2_eq]
      have V2 : RV S.1 M2 := hV.rows fun b y z1 z2 => m2 b y (by omega) (by omega)
      obtain ⟨a1, a2⟩ := hOL.2 (a + 1) hil
      rw [← hm] at a1 a2
      have a1' : M2 257 (3 * o + (a + 1)) = nI m.1 := by rw [m2 _ _ (by omega) (by omega)]; exact a1
      have a2' : M2 258 (3 * o + (a + 1)) = nI m.2.1 := by rw [m2 _ _ (by omega) (by omega)]; exact a2
      obtain ⟨h3, M3, e3, T3, V3, G3, q3, g3, F3⟩ := T2.t130 (d := d) V2 v1 (hO.1 m.1 v1) v3 hg (q := 0) (by decide)
      have c3 : ∀ b y, b = 255 ∨ b = 256 ∨ b = 257 ∨ b = 258 → M3 b y = M b y := fun b y z => by rw [F3 b y (by omega) (by omega), m2 b y (by omega) (by omega)]
      have L3 : OL M3 o ms := ⟨by rw [c3 _ _ (Or.inl rfl)]; exact hOL.1, fun i hi => ⟨by rw [c3 _ _ (by decide)]; exact (hOL.2 i hi).1, by rw [c3 _ _ (by decide)]; exact (hOL.2 i hi).2⟩⟩
      obtain ⟨h4, M4, i1, i2, i3, i4, i5, i6, i7, i8⟩ := ih (a + 1) 0 n (oRD (S.1 m.1) m.2.1 0) (kRD S m.1 m.2.1 0) M3 h3 hrest.symm hil (by omega) (fun b hb => oRD_b (hO.1 m.1 v1) hb) (fun e he => oRD_e he) (hO.rd v1 0) T3 V3 G3 L3 (by rw [c3 _ _ (by decide)]; exact h56) (by rw [F3 _ _ (by decide) (by omega)]; exact g60) (by rw [F3 _ _ (by decide) (by omega)]; exact g61) q3 g3
      rw [kRL_1]
      refine ⟨h4, M4, ?_, i2, i3, i4, i5, i6, i7, fun b y z1 z2 z3 => by rw [i8 b y z1 z2 z3, F3 b y (by omega) (by omega), m2 b y (by omega) (by omega)]⟩
      rw [show n + (m :: rest).length + 1 = (n + rest.length + 1) + 1 by simp; omega]
      show f154_95 _ _ _ _ _ = _
      unfold f154_95
      rw [hT.rI (k := 21) rfl, h21, lit_0, lit_1, lit_3, if_neg hneg, hT.rR (k := 36) (b := 260) rfl rfl, hT.rx (a := 260) (c := 100) (i := o) rfl (show o < 20 from ho), h60, hT.rR (k := 31) (b := 255) rfl rfl, hT.rx (a := 255) (c := 100) (i := o) rfl (show o < 20 from ho), hOL.1, nI_add, if_neg (nI_ge (by omega) (by omega)), hT.rR (k := 36) (b := 260) rfl rfl, hT.rx (a := 260) (c := 100) (i := o) rfl (show o < 20 from ho), h60, nI_add, hT.wx (a := 260) (c := 100) (i := o) rfl (show o < 20 from ho), T1.rR (k := 37) (b := 261) rfl rfl, T1.wx (a := 261) (c := 100) (i := o) rfl (show o < 20 from ho), T2.rR (k := 33) (b := 257) rfl rfl, T2.rR (k := 36) (b := 260) rfl rfl, T2.rx (a := 260) (c := 100) (i := o) rfl (show o < 20 from ho), g60, nI_mul, nI_add, T2.rx (a := 257) (c := 100) (i := 3 * o + (a + 1)) rfl (show 3 * o + (a + 1) < 60 by omega), a1', T2.rR (k := 34) (b := 258) rfl rfl, T2.rR (k := 36) (b := 260) rfl rfl, T2.rx (a := 260) (c := 100) (i := o) rfl (show o < 20 from ho), g60, nI_add, T2.rx (a := 258) (c := 100) (i := 3 * o + (a + 1)) rfl (show 3 * o + (a + 1) < 60 by omega), a2', T2.ra, e3, b_V]
      exact i1
    rcases x with e | (_ | b)
    · exact miss (fun b h => by cases h)
    · exact miss (fun b h => by cases h)
    · obtain ⟨nb, hnb, rfl⟩ := hx b rfl
      obtain ⟨h1, M1, e1, T1, q1, q2, F1⟩ := t154_174 (d := d + 3) (b := g154 (ag_run gT (d + 3)) (n + (m :: rest).length)) (ev := ev) hT ho (q := q) (by omega) hx hx2 h61 h56 h20 h21
      refine ⟨h1, M1, ?_, T1, hV.rows fun b y z1 z2 => F1 b y (by omega) (by omega), hG.congr (F1 _ _ (by omega) (by omega)) (F1 _ _ (by omega) (by omega)) (fun y => F1 _ _ (by omega) (by omega)) (fun y => F1 _ _ (by omega) (by omega)), by rw [F1 _ _ (by omega) (by omega)]; exact h60, q1, q2, fun b y z1 z2 z3 => F1 b y (by omega) (by omega)⟩
      show f154_95 _ _ _ _ _ = _
      unfold f154_95
      rw [hT.rI (k := 21) rfl, h21, lit_0, if_pos (show nI 0 ≤ goI (Sum.inr (some (nI nb))) from nI_le (by omega) (by omega))]
      exact e1
end RRW

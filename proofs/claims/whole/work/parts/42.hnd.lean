/-! HANDLES of the class: up to three handles of servers, in order -/
theorem nI_dec (n : Nat) : nI (n + 1) + -1 = nI n := by
  rw [← nI_pred n, Int32.sub_eq_add_neg]
abbrev zM : Type := Nat × Nat × Bool
def dM : zM := (0, 0, false)
/-- member i stands in the rows -/
def mrow (I : Nat → Nat → Int32) (a i : Nat) (m : zM) : Prop := I (a + 1) i = nI m.1 ∧ I (a + 2) i = nI m.2.1 ∧ I (a + 3) i = bI m.2.2
def CH (I : Nat → Nat → Int32) (a : Nat) (ms : List zM) : Prop := I a 3 = nI ms.length ∧ ms.length ≤ 3 ∧ ∀ i, i < ms.length → mrow I a i (ms.getD i dM)
def Fh (a : Nat) (I I' : Nat → Nat → Int32) : Prop := ∀ b j, (b < a ∨ a + 3 < b) → I' b j = I b j
theorem CH.congr {I I' : Nat → Nat → Int32} {a : Nat} {ms : List zM} (h : CH I a ms) (e : ∀ b j, a ≤ b → b ≤ a + 3 → I' b j = I b j) : CH I' a ms := by
  refine ⟨by rw [e _ _ (by omega) (by omega)]; exact h.1, h.2.1, fun i hi => ?_⟩
  obtain ⟨h1, h2, h3⟩ := h.2.2 i hi
  exact ⟨by rw [e _ _ (by omega) (by omega)]; exact h1, by rw [e _ _ (by omega) (by omega)]; exact h2, by rw [e _ _ (by omega) (by omega)]; exact h3⟩
theorem bI_01 (b : Bool) : bI b = 0 ∨ bI b = 1 := by cases b <;> decide
section HND
variable {z sl d : Nat} {kd ln : Nat → Nat} {I : Nat → Nat → Int32} {R : Nat → Nat → Option Nat} {a : Nat} {ms : List zM}
theorem s3 (W : WS kd ln R) (hk : kd a = 0) (h : CH I a ms) {i : Nat} (hi : i < ms.length) : ag_run gT (d + 1) 3 [.inr (some a), .inl (nI i)] (hp z sl kd ln I R) = some (.inl (some (.inl (nI (ms.getD i dM).1))), hp z sl kd ln I R) := by
  obtain ⟨k1, k2, k3, l1, l2, l3, r0, r1, r2⟩ := W_0 W hk
  obtain ⟨h1, h2, h3⟩ := h
  rw [r3]
  unfold f3 f3_21 f3_22
  rw [lit_0, if_neg (nI_nlt (Nat.zero_le _) (by omega)), x_gI W hk rfl, h1, if_neg (nI_ge hi (by omega)), x_gR W hk rfl, r0, x_xI k1 rfl (by omega) (by omega), (h3 i hi).1]
theorem s4 (W : WS kd ln R) (hk : kd a = 0) (h : CH I a ms) {i : Nat} (hi : i < ms.length) : ag_run gT (d + 1) 4 [.inr (some a), .inl (nI i)] (hp z sl kd ln I R) = some (.inl (some (.inl (nI (ms.getD i dM).2.1))), hp z sl kd ln I R) := by
  obtain ⟨k1, k2, k3, l1, l2, l3, r0, r1, r2⟩ := W_0 W hk
  obtain ⟨h1, h2, h3⟩ := h
  rw [r4]
  unfold f4 f4_21 f4_22
  rw [lit_0, if_neg (nI_nlt (Nat.zero_le _) (by omega)), x_gI W hk rfl, h1, if_neg (nI_ge hi (by omega)), x_gR W hk rfl, r1, x_xI k2 rfl (by omega) (by omega), (h3 i hi).2.1]
theorem s5 (W : WS kd ln R) (hk : kd a = 0) (h : CH I a ms) {i : Nat} (hi : i < ms.length) : ag_run gT (d + 1) 5 [.inr (some a), .inl (nI i)] (hp z sl kd ln I R) = some (.inl (some (.inl (bI (ms.getD i dM).2.2))), hp z sl kd ln I R) := by
  obtain ⟨k1, k2, k3, l1, l2, l3, r0, r1, r2⟩ := W_0 W hk
  obtain ⟨h1, h2, h3⟩ := h
  rw [r5]
  unfold f5 f5_25 f5_26
  rw [lit_0, lit_1, if_neg (nI_nlt (Nat.zero_le _) (by omega)), x_gI W hk rfl, h1, if_neg (nI_ge hi (by omega)), x_gR W hk rfl, r2, x_xI k3 rfl (by omega) (by omega), (h3 i hi).2.2]
  cases (ms.getD i dM).2.2
  · rw [if_pos (show bI false = nI 0 from rfl), b_B (x := nI 0) (Or.inl rfl)]; rfl
  · rw [if_neg (show ¬ bI true = nI 0 by decide), b_B (x := nI 1) (Or.inr rfl)]; rfl
theorem s6_2 (W : WS kd ln R) (hk : kd a = 0) (h : CH I a ms) : ∀ (m k n : Nat), k + m = ms.length → g6 (ag_run gT d) (n + m + 1) (some a) (nI k) (hp z sl kd ln I R) = some (.inl (some (.inl (pI ((List.range' k m).find? fun i => (ms.getD i dM).2.2)))), hp z sl kd ln I R) := by
  obtain ⟨k1, k2, k3, l1, l2, l3, r0, r1, r2⟩ := W_0 W hk
  obtain ⟨h1, h2, h3⟩ := h
  intro m
  induction m with
  | zero =>
    intro k n hkm
    show f6_2 _ _ _ _ _ = _
    unfold f6_2
    rw [x_gI W hk rfl, h1, if_pos (nI_le (by omega) (by omega)), lit_m]
    rfl
  | succ m ih =>
    intro k n hkm
    rw [show n + (m + 1) + 1 = (n + m + 1) + 1 by omega]
    show f6_2 _ _ _ _ _ = _
    unfold f6_2
    rw [x_gI W hk rfl, h1, if_neg (nI_ge (by omega) (by omega)), x_gR W hk rfl, r2, x_xI k3 rfl (by omega) (by omega), (h3 k (by omega)).2.2, lit_0, lit_1, nI_add, List.range'_succ, List.find?_cons]
    cases (ms.getD k dM).2.2
    · rw [if_pos (show bI false = nI 0 from rfl)]; exact ih (k + 1) n (by omega)
    · rw [if_neg (show ¬ bI true = nI 0 by decide)]; rfl
theorem s6 (W : WS kd ln R) (hk : kd a = 0) (h : CH I a ms) : ag_run gT (d + 1) 6 [.inr (some a)] (hp z sl kd ln I R) = some (.inl (some (.inl (pI ((List.range ms.length).find? fun i => (ms.getD i dM).2.2)))), hp z sl kd ln I R) := by
  rw [r6]
  unfold f6
  rw [lit_0, List.range_eq_range']
  have h3 := h.2.1
  have := s6_2 (z := z) (sl := sl) (d := d) W hk h ms.length 0 (3999 - ms.length) (by omega)
  rw [show 3999 - ms.length + ms.length + 1 = 4000 by omega] at this
  exact this
/-- insert before the first or behind the last -/
theorem s1_27 (W : WS kd ln R) (hk : kd a = 0) (p : Nat) (mm : zM) (hl : ms.length < 3) (hp9 : p ≤ ms.length) : ∀ (m n : Nat) (I : Nat → Nat → Int32), p + m ≤ ms.length → I a 3 = nI ms.length → (∀ i, i < p + m → mrow I a i (ms.getD i dM)) → (∀ i, p + m < i → i ≤ ms.length → mrow I a i (ms.getD (i - 1) dM)) →
    ∃ I', g1 (ag_run gT d) (n + m + 1) (some a) (nI p) (nI mm.1) (nI mm.2.1) (bI mm.2.2) (nI (p + m)) (hp z sl kd ln I R) = some (.inl none, hp z sl kd ln I' R) ∧ I' a 3 = nI (ms.length + 1) ∧ (∀ i, i < p → mrow I' a i (ms.getD i dM)) ∧ mrow I' a p mm ∧ (∀ i, p < i → i ≤ ms.length → mrow I' a i (ms.getD (i - 1) dM)) ∧ Fh a I I' := by
  obtain ⟨k1, k2, k3, l1, l2, l3, r0, r1, r2⟩ := W_0 W hk
  intro m
  induction m with
  | zero =>
    intro n I hpm h1 h2 h3
    refine ⟨up2 (up2 (up2 (up2 I (a + 1) p (nI mm.1)) (a + 2) p (nI mm.2.1)) (a + 3) p (bI mm.2.2)) a 3 (nI (ms.length + 1)), ?_, by rw [up2_eq], fun i hi => ?_, ?_, fun i hi hi2 => ?_, fun b j hb => ?_⟩
    · show f1_27 _ _ _ _ _ _ _ _ _ = _
      unfold f1_27
      rw [Nat.add_zero, if_pos (nI_le (a := p) (b := p) (Nat.le_refl _) (by omega)), x_gR W hk rfl, r0, x_yI k1 rfl (by omega) (by omega), x_gR W hk rfl, r1, x_yI k2 rfl (by omega) (by omega), x_gR W hk rfl, r2, b_B (bI_01 _), x_yI k3 rfl (by omega) (by omega), x_gI W hk rfl, up2_na (by omega), up2_na (by omega), up2_na (by omega), h1, lit_1, nI_add, x_pI W hk rfl]
    · obtain ⟨q1, q2, q3⟩ := h2 i (by omega)
      refine ⟨?_, ?_, ?_⟩ <;> simp (disch := omega) only [up2_ne] <;> assumption
    · refine ⟨?_, ?_, ?_⟩ <;> simp (disch := omega) only [up2_ne, up2_eq]
    · obtain ⟨q1, q2, q3⟩ := h3 i (by omega) hi2
      refine ⟨?_, ?_, ?_⟩ <;> simp (disch := omega) only [up2_ne] <;> assumption
    · simp (disch := omega) only [up2_ne]
  | succ m ih =>
    intro n I hpm h1 h2 h3
    obtain ⟨q1, q2, q3⟩ := h2 (p + m) (by omega)
    obtain ⟨x1, hx1⟩ : ∃ x, x = ms.getD (p + m) dM := ⟨_, rfl⟩
    rw [← hx1] at q1 q2 q3
    obtain ⟨I', e1, e2, e3, e4, e5, e6⟩ := ih n (up2 (up2 (up2 I (a + 1) (p + (m + 1)) (nI x1.1)) (a + 2) (p + (m + 1)) (nI x1.2.1)) (a + 3) (p + (m + 1)) (bI x1.2.2)) (by omega) (by simp (disch := omega) only [up2_ne]; exact h1) (fun i hi => by
        obtain ⟨y1, y2, y3⟩ := h2 i (by omega)
        refine ⟨?_, ?_, ?_⟩ <;> simp (disch := omega) only [up2_ne] <;> assumption) (fun i hi hi2 => by
        by_cases ei : i = p + (m + 1)
        · subst ei
          rw [show p + (m + 1) - 1 = p + m by omega, ← hx1]
          refine ⟨?_, ?_, ?_⟩ <;> simp (disch := omega) only [up2_ne, up2_eq]
        · obtain ⟨y1, y2, y3⟩ := h3 i (by omega) hi2
          refine ⟨?_, ?_, ?_⟩ <;> simp (disch := omega) only [up2_ne] <;> assumption)
    refine ⟨I', ?_, e2, e3, e4, e5, fun b j hb => by rw [e6 b j hb]; simp (disch := omega) only [up2_ne]⟩
    rw [show n + (m + 1) + 1 = (n + m + 1) + 1 by omega]
    show f1_27 _ _ _ _ _ _ _ _ _ = _
    unfold f1_27
    have e9 : nI (p + (m + 1)) - nI 1 = nI (p + m) := by rw [nI_sub (by omega)]; congr 1
    have e8 : nI (p + (m + 1)) + -1 = nI (p + m) := nI_dec (p + m)
    rw [if_neg (nI_ge (by omega) (by omega)), lit_1, lit_m, e9, e8, x_gR W hk rfl, r0, x_gR W hk rfl, r0, x_xI k1 rfl (by omega) (by omega), q1, x_yI k1 rfl (by omega) (by omega), x_gR W hk rfl, r1, x_gR W hk rfl, r1, x_xI k2 rfl (by omega) (by omega), up2_na (by omega), q2, x_yI k2 rfl (by omega) (by omega), x_gR W hk rfl, r2, x_gR W hk rfl, r2, x_xI k3 rfl (by omega) (by omega), up2_na (by omega), up2_na (by omega), q3, b_B (bI_01 _), x_yI k3 rfl (by omega) (by omega)]
    exact e1
theorem s1_p (W : WS kd ln R) (hk : kd a = 0) (h : CH I a ms) (hl : ms.length < 3) (mm : zM) {p : Nat} (hp9 : p ≤ ms.length) : ∃ I', ag_run gT (d + 1) 1 [.inr (some a), .inl (nI p), .inl (nI mm.1), .inl (nI mm.2.1), .inl (bI mm.2.2)] (hp z sl kd ln I R) = some (.inl none, hp z sl kd ln I' R) ∧ I' a 3 = nI (ms.length + 1) ∧ (∀ i, i < p → mrow I' a i (ms.getD i dM)) ∧ mrow I' a p mm ∧ (∀ i, p < i → i ≤ ms.length → mrow I' a i (ms.getD (i - 1) dM)) ∧ Fh a I I' := by
  obtain ⟨h1, h2, h3⟩ := h
  obtain ⟨I', e1, e2⟩ := s1_27 (z := z) (sl := sl) (d := d) (R := R) W hk p mm hl hp9 (ms.length - p) (3999 - (ms.length - p)) I (by omega) h1 (fun i hi => h3 i (by omega)) (fun i hi hi2 => by omega)
  refine ⟨I', ?_, e2⟩
  rw [r1]
  unfold f1 f1_20
  rw [lit_0, lit_3, if_neg (nI_nlt (Nat.zero_le _) (by omega)), x_gI W hk rfl, h1, if_neg (nI_nlt hp9 (by omega)), x_gI W hk rfl, h1, if_pos (nI_lt hl (by decide)), x_gI W hk rfl, h1]
  rw [show 3999 - (ms.length - p) + (ms.length - p) + 1 = 4000 by omega, show p + (ms.length - p) = ms.length by omega] at e1
  exact e1
theorem s1_f (W : WS kd ln R) (hk : kd a = 0) (h : CH I a ms) (hl : ms.length < 3) (mm : zM) : ∃ I', ag_run gT (d + 1) 1 [.inr (some a), .inl (nI 0), .inl (nI mm.1), .inl (nI mm.2.1), .inl (bI mm.2.2)] (hp z sl kd ln I R) = some (.inl none, hp z sl kd ln I' R) ∧ CH I' a (mm :: ms) ∧ Fh a I I' := by
  obtain ⟨I', e1, e2, e3, e4, e5, e6⟩ := s1_p (z := z) (sl := sl) (d := d) (R := R) W hk h hl mm (Nat.zero_le _)
  refine ⟨I', e1, ⟨e2, by simp; omega, fun i hi => ?_⟩, e6⟩
  cases i with
  | zero => exact e4
  | succ i => exact e5 (i + 1) (by omega) (by simp at hi; omega)
theorem s1_e (W : WS kd ln R) (hk : kd a = 0) (h : CH I a ms) (hl : ms.length < 3) (mm : zM) : ∃ I', ag_run gT (d + 1) 1 [.inr (some a), .inl (nI ms.length), .inl (nI mm.1), .inl (nI mm.2.1), .inl (bI mm.2.2)] (hp z sl kd ln I R) = some (.inl none, hp z sl kd ln I' R) ∧ CH I' a (ms ++ [mm]) ∧ Fh a I I' := by
  obtain ⟨I', e1, e2, e3, e4, e5, e6⟩ := s1_p (z := z) (sl := sl) (d := d) (R := R) W hk h hl mm (Nat.le_refl _)
  refine ⟨I', e1, ⟨by rw [e2]; simp, by simp; omega, fun i hi => ?_⟩, e6⟩
  simp at hi
  by_cases ei : i = ms.length
  · subst ei
    rw [show (ms ++ [mm]).getD ms.length dM = mm by simp [List.getD_eq_getElem?_getD]]
    exact e4
  · rw [show (ms ++ [mm]).getD i dM = ms.getD i dM by rw [List.getD_eq_getElem?_getD, List.getD_eq_getElem?_getD, List.getElem?_append_left (by omega)]]
    exact e3 i (by omega)
theorem s2_15 (W : WS kd ln R) (hk : kd a = 0) (hl : ms.length ≤ 3) (p : Nat) : ∀ (m k n : Nat) (I : Nat → Nat → Int32), k + m + 1 = ms.length → p ≤ k → I a 3 = nI ms.length → (∀ i, i < k → mrow I a i (ms.getD (if i < p then i else i + 1) dM)) → (∀ i, k ≤ i → i < ms.length → mrow I a i (ms.getD i dM)) →
    ∃ I', g2 (ag_run gT d) (n + m + 1) (some a) (nI k) (hp z sl kd ln I R) = some (.inl none, hp z sl kd ln I' R) ∧ I' a 3 = nI (ms.length - 1) ∧ (∀ i, i < ms.length - 1 → mrow I' a i (ms.getD (if i < p then i else i + 1) dM)) ∧ Fh a I I' := by
  obtain ⟨k1, k2, k3, l1, l2, l3, r0, r1, r2⟩ := W_0 W hk
  intro m
  induction m with
  | zero =>
    intro k n I hkm hpk h1 h2 h3
    refine ⟨up2 I a 3 (nI (ms.length - 1)), ?_, by rw [up2_eq], fun i hi => ?_, fun b j hb => up2_na (by omega)⟩
    · show f2_15 _ _ _ _ _ = _
      unfold f2_15
      rw [lit_1, nI_add, x_gI W hk rfl, h1, if_pos (nI_le (by omega) (by omega)), x_gI W hk rfl, h1, nI_sub (by omega), x_pI W hk rfl]
    · obtain ⟨q1, q2, q3⟩ := h2 i (by omega)
      exact ⟨by rw [up2_na (by omega)]; exact q1, by rw [up2_na (by omega)]; exact q2, by rw [up2_na (by omega)]; exact q3⟩
  | succ m ih =>
    intro k n I hkm hpk h1 h2 h3
    obtain ⟨q1, q2, q3⟩ := h3 (k + 1) (by omega) (by omega)
    obtain ⟨x1, hx1⟩ : ∃ x, x = ms.getD (k + 1) dM := ⟨_, rfl⟩
    rw [← hx1] at q1 q2 q3
    obtain ⟨I', e1, e2, e3, e4⟩ := ih (k + 1) n (up2 (up2 (up2 I (a + 1) k (nI x1.1)) (a + 2) k (nI x1.2.1)) (a + 3) k (bI x1.2.2)) (by omega) (by omega) (by simp (disch := omega) only [up2_ne]; exact h1) (fun i hi => by
        by_cases ei : i = k
        · subst ei
          rw [if_neg (by omega), ← hx1]
          refine ⟨?_, ?_, ?_⟩ <;> simp (disch := omega) only [up2_ne, up2_eq]
        · obtain ⟨y1, y2, y3⟩ := h2 i (by omega)
          refine ⟨?_, ?_, ?_⟩ <;> simp (disch := omega) only [up2_ne] <;> assumption) (fun i hi hi2 => by
        obtain ⟨y1, y2, y3⟩ := h3 i (by omega) hi2
        refine ⟨?_, ?_, ?_⟩ <;> simp (disch := omega) only [up2_ne] <;> assumption)
    refine ⟨I', ?_, e2, e3, fun b j hb => by rw [e4 b j hb]; simp (disch := omega) only [up2_ne]⟩
    rw [show n + (m + 1) + 1 = (n + m + 1) + 1 by omega]
    show f2_15 _ _ _ _ _ = _
    unfold f2_15
    rw [lit_1, nI_add, x_gI W hk rfl, h1, if_neg (nI_ge (by omega) (by omega)), x_gR W hk rfl, r0, x_gR W hk rfl, r0, x_xI k1 rfl (by omega) (by omega), q1, x_yI k1 rfl (by omega) (by omega), x_gR W hk rfl, r1, x_gR W hk rfl, r1, x_xI k2 rfl (by omega) (by omega), up2_na (by omega), q2, x_yI k2 rfl (by omega) (by omega), x_gR W hk rfl, r2, x_gR W hk rfl, r2, x_xI k3 rfl (by omega) (by omega), up2_na (by omega), up2_na (by omega), q3, b_B (bI_01 _), x_yI k3 rfl (by omega) (by omega)]
    exact e1
theorem s2 (W : WS kd ln R) (hk : kd a = 0) (h : CH I a ms) {p : Nat} (hp9 : p < ms.length) : ∃ I', ag_run gT (d + 1) 2 [.inr (some a), .inl (nI p)] (hp z sl kd ln I R) = some (.inl none, hp z sl kd ln I' R) ∧ CH I' a (ms.eraseIdx p) ∧ Fh a I I' := by
  obtain ⟨h1, h2, h3⟩ := h
  obtain ⟨I', e1, e2, e3, e4⟩ := s2_15 (z := z) (sl := sl) (d := d) (R := R) W hk h2 p (ms.length - 1 - p) p (3999 - (ms.length - 1 - p)) I (by omega) (by omega) h1 (fun i hi => by rw [if_pos hi]; exact h3 i (by omega)) (fun i _ hi => h3 i hi)
  have el : (ms.eraseIdx p).length = ms.length - 1 := List.length_eraseIdx_of_lt hp9
  refine ⟨I', ?_, ⟨by rw [el]; exact e2, by omega, fun i hi => ?_⟩, e4⟩
  · rw [r2]
    unfold f2 f2_12
    rw [lit_0, if_neg (nI_nlt (Nat.zero_le _) (by omega)), x_gI W hk rfl, h1, if_pos (nI_lt hp9 (by omega))]
    rw [show 3999 - (ms.length - 1 - p) + (ms.length - 1 - p) + 1 = 4000 by omega] at e1
    exact e1
  · rw [el] at hi
    have := e3 i hi
    rw [show (ms.eraseIdx p).getD i dM = ms.getD (if i < p then i else i + 1) dM by
      rw [List.getD_eq_getElem?_getD, List.getD_eq_getElem?_getD, List.getElem?_eraseIdx]
      split <;> rfl]
    exact this
end HND

/-! WHAT STAYS: kinds, lengths, and the references that no run changes; the rules of reading and writing over it -/
/-- the references that no method but a constructor writes -/
def sr (c i : Nat) : Bool := match c with
  | 6 => Nat.beq i 0
  | 106 => false
  | 107 => false
  | c => rf c i
def WS (kd ln : Nat → Nat) (R : Nat → Nat → Option Nat) : Prop :=
  (∀ a, a < 262 → kd a = kd0 a ∧ ln a = ln0 a) ∧ (∀ a i, a < 262 → sr (kd0 a) i = true → R a i = R0 a i) ∧
  (∀ a, 262 ≤ a → (kd a = 9 ∨ kd a = 100 ∨ kd a = 999) ∧ (kd a = 9 → ln a = 8 ∧ kd (a + 1) = 100 ∧ R a 4 = some (a + 1)))
def wt0 (a : Nat) : Bool := match kd0 a with
  | 0 => Nat.blt (a + 3) 262 && Nat.beq (kd0 (a + 1)) 100 && Nat.beq (kd0 (a + 2)) 100 && Nat.beq (kd0 (a + 3)) 102 && Nat.beq (ln0 (a + 1)) 3 && Nat.beq (ln0 (a + 2)) 3 && Nat.beq (ln0 (a + 3)) 3 && decide (R0 a 0 = some (a + 1)) && decide (R0 a 1 = some (a + 2)) && decide (R0 a 2 = some (a + 3))
  | 1 => Nat.blt (a + 1) 262 && Nat.beq (kd0 (a + 1)) 100 && Nat.beq (ln0 (a + 1)) 20 && decide (R0 a 0 = some (a + 1))
  | 2 => Nat.blt (a + 1) 262 && Nat.beq (kd0 (a + 1)) 107 && Nat.beq (ln0 (a + 1)) 4 && decide (R0 a 0 = some (a + 1))
  | 3 => Nat.blt (a + 1) 262 && Nat.beq (kd0 (a + 1)) 0 && decide (R0 a 0 = some (a + 1))
  | 4 => Nat.blt (a + 1) 262 && Nat.beq (kd0 (a + 1)) 101 && Nat.beq (ln0 (a + 1)) 12 && decide (R0 a 0 = some (a + 1))
  | 5 => Nat.blt (a + 1) 262 && Nat.beq (kd0 (a + 1)) 0 && decide (R0 a 0 = some (a + 1))
  | 6 => Nat.blt (a + 26) 262 && Nat.beq (kd0 (a + 1)) 108 && Nat.beq (ln0 (a + 1)) 5 && decide (R0 a 0 = some (a + 1)) && (List.range 5).all fun f => decide (R0 (a + 1) f = some (a + 2 + 5 * f)) && Nat.beq (kd0 (a + 2 + 5 * f)) 3
  | 7 => Nat.blt (a + 6) 262 && Nat.beq (kd0 (a + 1)) 1 && Nat.beq (kd0 (a + 3)) 1 && Nat.beq (kd0 (a + 5)) 106 && Nat.beq (ln0 (a + 5)) 20 && Nat.beq (kd0 (a + 6)) 106 && Nat.beq (ln0 (a + 6)) 128 && decide (R0 a 0 = some (a + 1)) && decide (R0 a 1 = some (a + 3)) && decide (R0 a 2 = some (a + 5)) && decide (R0 a 3 = some (a + 6))
  | 8 => Nat.blt (a + 1) 262 && Nat.beq (kd0 (a + 1)) 101 && Nat.beq (ln0 (a + 1)) 24 && decide (R0 a 0 = some (a + 1))
  | 9 => Nat.blt (a + 1) 262 && Nat.beq (kd0 (a + 1)) 100 && decide (R0 a 4 = some (a + 1))
  | _ => true
def wt (a : Nat) : Bool := wt0 a && (!Nat.blt (kd0 a) 12 || Nat.beq (ln0 a) (nf (kd0 a)))
set_option maxRecDepth 100000 in
set_option maxHeartbeats 4000000 in
theorem wt_ok : ∀ a, a < 262 → wt a = true := by decide +kernel
section WSR
variable {z sl : Nat} {kd ln : Nat → Nat} {I : Nat → Nat → Int32} {R : Nat → Nat → Option Nat} {a c k : Nat}
theorem W_lt (W : WS kd ln R) (h : kd a = c) (h1 : c ≠ 9) (h2 : c ≠ 100) (h3 : c ≠ 999) : a < 262 ∧ kd0 a = c := by
  by_cases e : a < 262
  · exact ⟨e, by rw [← (W.1 a e).1]; exact h⟩
  · have := (W.2.2 a (by omega)).1
    omega
theorem W_ln (W : WS kd ln R) (h : kd a = c) (hc : c < 12) : ln a = nf c := by
  by_cases e : a < 262
  · have h1 := wt_ok a e
    unfold wt at h1
    rw [Bool.and_eq_true] at h1
    have h2 := h1.2
    rw [← (W.1 a e).1, h, Bool.or_eq_true] at h2
    rw [(W.1 a e).2]
    rcases h2 with h2 | h2
    · rw [show Nat.blt c 12 = true from Nat.ble_eq_true_of_le hc] at h2; cases h2
    · exact Nat.eq_of_beq_eq_true h2
  · have h1 := W.2.2 a (by omega)
    rcases h1.1 with h9 | h9 | h9
    · have := (h1.2 h9).1
      rw [h] at h9; subst h9; exact this
    · omega
    · omega
theorem W_t (W : WS kd ln R) (h : kd a = c) (h1 : c ≠ 9) (h2 : c ≠ 100) (h3 : c ≠ 999) : a < 262 ∧ kd0 a = c ∧ wt0 a = true := by
  obtain ⟨e1, e2⟩ := W_lt W h h1 h2 h3
  have h1 := wt_ok a e1
  unfold wt at h1
  rw [Bool.and_eq_true] at h1
  exact ⟨e1, e2, h1.1⟩
theorem W_0 (W : WS kd ln R) (h : kd a = 0) : kd (a + 1) = 100 ∧ kd (a + 2) = 100 ∧ kd (a + 3) = 102 ∧ ln (a + 1) = 3 ∧ ln (a + 2) = 3 ∧ ln (a + 3) = 3 ∧ R a 0 = some (a + 1) ∧ R a 1 = some (a + 2) ∧ R a 2 = some (a + 3) := by
  obtain ⟨e1, e2, e3⟩ := W_t W h (by decide) (by decide) (by decide)
  unfold wt0 at e3
  rw [e2] at e3
  simp only [Bool.and_eq_true, decide_eq_true_eq] at e3
  obtain ⟨⟨⟨⟨⟨⟨⟨⟨⟨q0, q1⟩, q2⟩, q3⟩, q4⟩, q5⟩, q6⟩, q7⟩, q8⟩, q9⟩ := e3
  have q0 := g_lt q0
  refine ⟨?_, ?_, ?_, ?_, ?_, ?_, ?_, ?_, ?_⟩
  · rw [(W.1 _ (by omega)).1]; exact Nat.eq_of_beq_eq_true q1
  · rw [(W.1 _ (by omega)).1]; exact Nat.eq_of_beq_eq_true q2
  · rw [(W.1 _ (by omega)).1]; exact Nat.eq_of_beq_eq_true q3
  · rw [(W.1 _ (by omega)).2]; exact Nat.eq_of_beq_eq_true q4
  · rw [(W.1 _ (by omega)).2]; exact Nat.eq_of_beq_eq_true q5
  · rw [(W.1 _ (by omega)).2]; exact Nat.eq_of_beq_eq_true q6
  · rw [W.2.1 a 0 e1 (by rw [e2]; decide)]; exact q7
  · rw [W.2.1 a 1 e1 (by rw [e2]; decide)]; exact q8
  · rw [W.2.1 a 2 e1 (by rw [e2]; decide)]; exact q9
theorem W_1 (W : WS kd ln R) (h : kd a = 1) : kd (a + 1) = 100 ∧ ln (a + 1) = 20 ∧ R a 0 = some (a + 1) := by
  obtain ⟨e1, e2, e3⟩ := W_t W h (by decide) (by decide) (by decide)
  unfold wt0 at e3
  rw [e2] at e3
  simp only [Bool.and_eq_true, decide_eq_true_eq] at e3
  obtain ⟨⟨⟨q0, q1⟩, q2⟩, q3⟩ := e3
  have q0 := g_lt q0
  refine ⟨?_, ?_, ?_⟩
  · rw [(W.1 _ (by omega)).1]; exact Nat.eq_of_beq_eq_true q1
  · rw [(W.1 _ (by omega)).2]; exact Nat.eq_of_beq_eq_true q2
  · rw [W.2.1 a 0 e1 (by rw [e2]; decide)]; exact q3
theorem W_2 (W : WS kd ln R) (h : kd a = 2) : kd (a + 1) = 107 ∧ ln (a + 1) = 4 ∧ R a 0 = some (a + 1) := by
  obtain ⟨e1, e2, e3⟩ := W_t W h (by decide) (by decide) (by decide)
  unfold wt0 at e3
  rw [e2] at e3
  simp only [Bool.and_eq_true, decide_eq_true_eq] at e3
  obtain ⟨⟨⟨q0, q1⟩, q2⟩, q3⟩ := e3
  have q0 := g_lt q0
  refine ⟨?_, ?_, ?_⟩
  · rw [(W.1 _ (by omega)).1]; exact Nat.eq_of_beq_eq_true q1
  · rw [(W.1 _ (by omega)).2]; exact Nat.eq_of_beq_eq_true q2
  · rw [W.2.1 a 0 e1 (by rw [e2]; decide)]; exact q3
theorem W_4 (W : WS kd ln R) (h : kd a = 4) : kd (a + 1) = 101 ∧ ln (a + 1) = 12 ∧ R a 0 = some (a + 1) := by
  obtain ⟨e1, e2, e3⟩ := W_t W h (by decide) (by decide) (by decide)
  unfold wt0 at e3
  rw [e2] at e3
  simp only [Bool.and_eq_true, decide_eq_true_eq] at e3
  obtain ⟨⟨⟨q0, q1⟩, q2⟩, q3⟩ := e3
  have q0 := g_lt q0
  refine ⟨?_, ?_, ?_⟩
  · rw [(W.1 _ (by omega)).1]; exact Nat.eq_of_beq_eq_true q1
  · rw [(W.1 _ (by omega)).2]; exact Nat.eq_of_beq_eq_true q2
  · rw [W.2.1 a 0 e1 (by rw [e2]; decide)]; exact q3
theorem W_8 (W : WS kd ln R) (h : kd a = 8) : kd (a + 1) = 101 ∧ ln (a + 1) = 24 ∧ R a 0 = some (a + 1) := by
  obtain ⟨e1, e2, e3⟩ := W_t W h (by decide) (by decide) (by decide)
  unfold wt0 at e3
  rw [e2] at e3
  simp only [Bool.and_eq_true, decide_eq_true_eq] at e3
  obtain ⟨⟨⟨q0, q1⟩, q2⟩, q3⟩ := e3
  have q0 := g_lt q0
  refine ⟨?_, ?_, ?_⟩
  · rw [(W.1 _ (by omega)).1]; exact Nat.eq_of_beq_eq_true q1
  · rw [(W.1 _ (by omega)).2]; exact Nat.eq_of_beq_eq_true q2
  · rw [W.2.1 a 0 e1 (by rw [e2]; decide)]; exact q3
theorem W_3 (W : WS kd ln R) (h : kd a = 3) : kd (a + 1) = 0 ∧ R a 0 = some (a + 1) := by
  obtain ⟨e1, e2, e3⟩ := W_t W h (by decide) (by decide) (by decide)
  unfold wt0 at e3
  rw [e2] at e3
  simp only [Bool.and_eq_true, decide_eq_true_eq] at e3
  obtain ⟨⟨q0, q1⟩, q2⟩ := e3
  have q0 := g_lt q0
  refine ⟨?_, ?_⟩
  · rw [(W.1 _ (by omega)).1]; exact Nat.eq_of_beq_eq_true q1
  · rw [W.2.1 a 0 e1 (by rw [e2]; decide)]; exact q2
theorem W_5 (W : WS kd ln R) (h : kd a = 5) : kd (a + 1) = 0 ∧ R a 0 = some (a + 1) := by
  obtain ⟨e1, e2, e3⟩ := W_t W h (by decide) (by decide) (by decide)
  unfold wt0 at e3
  rw [e2] at e3
  simp only [Bool.and_eq_true, decide_eq_true_eq] at e3
  obtain ⟨⟨q0, q1⟩, q2⟩ := e3
  have q0 := g_lt q0
  refine ⟨?_, ?_⟩
  · rw [(W.1 _ (by omega)).1]; exact Nat.eq_of_beq_eq_true q1
  · rw [W.2.1 a 0 e1 (by rw [e2]; decide)]; exact q2
theorem W_6 (W : WS kd ln R) (h : kd a = 6) : kd (a + 1) = 108 ∧ ln (a + 1) = 5 ∧ R a 0 = some (a + 1) ∧ ∀ f, f < 5 → R (a + 1) f = some (a + 2 + 5 * f) ∧ kd (a + 2 + 5 * f) = 3 := by
  obtain ⟨e1, e2, e3⟩ := W_t W h (by decide) (by decide) (by decide)
  unfold wt0 at e3
  rw [e2] at e3
  simp only [Bool.and_eq_true, decide_eq_true_eq] at e3
  obtain ⟨⟨⟨⟨q0, q1⟩, q2⟩, q3⟩, q4⟩ := e3
  have q0 := g_lt q0
  have q1 := Nat.eq_of_beq_eq_true q1
  refine ⟨?_, ?_, ?_, fun f hf => ?_⟩
  · rw [(W.1 _ (by omega)).1]; exact q1
  · rw [(W.1 _ (by omega)).2]; exact Nat.eq_of_beq_eq_true q2
  · rw [W.2.1 a 0 e1 (by rw [e2]; decide)]; exact q3
  · have q5 := List.all_eq_true.mp q4 f (List.mem_range.mpr hf)
    rw [Bool.and_eq_true] at q5
    refine ⟨?_, ?_⟩
    · rw [W.2.1 (a + 1) f (by omega) (by rw [q1]; rfl)]; exact of_decide_eq_true q5.1
    · rw [(W.1 _ (by omega)).1]; exact Nat.eq_of_beq_eq_true q5.2
theorem W_7 (W : WS kd ln R) (h : kd a = 7) : kd (a + 1) = 1 ∧ kd (a + 3) = 1 ∧ kd (a + 5) = 106 ∧ ln (a + 5) = 20 ∧ kd (a + 6) = 106 ∧ ln (a + 6) = 128 ∧ R a 0 = some (a + 1) ∧ R a 1 = some (a + 3) ∧ R a 2 = some (a + 5) ∧ R a 3 = some (a + 6) := by
  obtain ⟨e1, e2, e3⟩ := W_t W h (by decide) (by decide) (by decide)
  unfold wt0 at e3
  rw [e2] at e3
  simp only [Bool.and_eq_true, decide_eq_true_eq] at e3
  obtain ⟨⟨⟨⟨⟨⟨⟨⟨⟨⟨q0, q1⟩, q2⟩, q3⟩, q4⟩, q5⟩, q6⟩, q7⟩, q8⟩, q9⟩, q10⟩ := e3
  have q0 := g_lt q0
  refine ⟨?_, ?_, ?_, ?_, ?_, ?_, ?_, ?_, ?_, ?_⟩
  · rw [(W.1 _ (by omega)).1]; exact Nat.eq_of_beq_eq_true q1
  · rw [(W.1 _ (by omega)).1]; exact Nat.eq_of_beq_eq_true q2
  · rw [(W.1 _ (by omega)).1]; exact Nat.eq_of_beq_eq_true q3
  · rw [(W.1 _ (by omega)).2]; exact Nat.eq_of_beq_eq_true q4
  · rw [(W.1 _ (by omega)).1]; exact Nat.eq_of_beq_eq_true q5
  · rw [(W.1 _ (by omega)).2]; exact Nat.eq_of_beq_eq_true q6
  · rw [W.2.1 a 0 e1 (by rw [e2]; decide)]; exact q7
  · rw [W.2.1 a 1 e1 (by rw [e2]; decide)]; exact q8
  · rw [W.2.1 a 2 e1 (by rw [e2]; decide)]; exact q9
  · rw [W.2.1 a 3 e1 (by rw [e2]; decide)]; exact q10
theorem W_9 (W : WS kd ln R) (h : kd a = 9) : kd (a + 1) = 100 ∧ R a 4 = some (a + 1) := by
  by_cases e1 : a < 262
  · have e2 : kd0 a = 9 := by rw [← (W.1 a e1).1]; exact h
    have h1 := wt_ok a e1
    unfold wt at h1
    rw [Bool.and_eq_true] at h1
    have e3 := h1.1
    unfold wt0 at e3
    rw [e2] at e3
    simp only [Bool.and_eq_true, decide_eq_true_eq] at e3
    obtain ⟨⟨q0, q1⟩, q2⟩ := e3
    have q0 := g_lt q0
    refine ⟨?_, ?_⟩
    · rw [(W.1 _ (by omega)).1]; exact Nat.eq_of_beq_eq_true q1
    · rw [W.2.1 a 4 e1 (by rw [e2]; decide)]; exact q2
  · exact (W.2.2 a (by omega)).2 h |>.2
/-- an update of a reference that may change -/
theorem WS.up (W : WS kd ln R) {i : Nat} {v : Option Nat} (h : sr (kd a) i = false) (h9 : kd a ≠ 9) : WS kd ln (up2 R a i v) := by
  refine ⟨W.1, fun b j hb hj => ?_, fun b hb => ⟨(W.2.2 b hb).1, fun h9 => ?_⟩⟩
  · rw [up2_ne, W.2.1 b j hb hj]
    rintro ⟨rfl, rfl⟩
    rw [(W.1 b hb).1, hj] at h
    cases h
  · obtain ⟨q1, q2, q3⟩ := (W.2.2 b hb).2 h9
    refine ⟨q1, q2, ?_⟩
    rw [up2_ne, q3]
    rintro ⟨rfl, -⟩
    contradiction
/-- a new file: an object and an array behind what is there -/
theorem WS.file (W : WS kd ln R) (hz : 262 ≤ z) (h1 : ∀ b, z ≤ b → kd b = 999) (n : Nat) (r0 r1 : Nat → Option Nat) (hr : r0 4 = some (z + 1)) : WS (up1 (up1 kd z 9) (z + 1) 100) (up1 (up1 ln z 8) (z + 1) n) (up1 (up1 R z r0) (z + 1) r1) := by
  refine ⟨fun b hb => ?_, fun b i hb hi => ?_, fun b hb => ?_⟩
  · rw [up1_ne (by omega), up1_ne (by omega), up1_ne (by omega), up1_ne (by omega)]; exact W.1 b hb
  · rw [up1_ne (by omega), up1_ne (by omega)]; exact W.2.1 b i hb hi
  · by_cases e1 : b = z + 1
    · subst e1
      rw [up1_eq, up1_eq, up1_eq]
      exact ⟨Or.inr (Or.inl rfl), fun h => by omega⟩
    · rw [up1_ne e1, up1_ne e1, up1_ne e1]
      by_cases e2 : b = z
      · subst e2
        rw [up1_eq, up1_eq, up1_eq, up1_eq]
        exact ⟨Or.inl rfl, fun _ => ⟨rfl, rfl, hr⟩⟩
      · rw [up1_ne e2, up1_ne e2, up1_ne e2]
        refine ⟨(W.2.2 b hb).1, fun h9 => ?_⟩
        obtain ⟨q1, q2, q3⟩ := (W.2.2 b hb).2 h9
        refine ⟨q1, ?_, q3⟩
        have : b + 1 ≠ z := by
          intro e
          have := h1 (b + 1) (by omega)
          omega
        rw [up1_ne (by omega), up1_ne this]
        exact q2
def fdI (c k : Nat) : Bool := Nat.blt c 12 && Nat.blt k (nf c) && !rf c k
def fdR (c k : Nat) : Bool := Nat.blt c 12 && Nat.blt k (nf c) && rf c k
theorem fdI_ok (h : fdI c k = true) : c < 12 ∧ k < nf c ∧ rf c k = false := by
  unfold fdI at h
  rw [Bool.and_eq_true, Bool.and_eq_true] at h
  exact ⟨g_lt h.1.1, g_lt h.1.2, by simpa using h.2⟩
theorem fdR_ok (h : fdR c k = true) : c < 12 ∧ k < nf c ∧ rf c k = true := by
  unfold fdR at h
  rw [Bool.and_eq_true, Bool.and_eq_true] at h
  exact ⟨g_lt h.1.1, g_lt h.1.2, by simpa using h.2⟩
theorem x_gI {K : Int32 → ag_R} (W : WS kd ln R) (hk : kd a = c) (hc : fdI c k = true) : ag_gI (hp z sl kd ln I R) (some a) c k K = K (I a k) := by
  obtain ⟨h1, h2, h3⟩ := fdI_ok hc
  exact x_gI0 hk (by omega) (by rw [W_ln W hk h1]; exact h2) h3
theorem x_gR {K : Option Nat → ag_R} (W : WS kd ln R) (hk : kd a = c) (hc : fdR c k = true) : ag_gR (hp z sl kd ln I R) (some a) c k K = K (R a k) := by
  obtain ⟨h1, h2, h3⟩ := fdR_ok hc
  exact x_gR0 hk (by omega) (by rw [W_ln W hk h1]; exact h2) h3
theorem x_pI {K : ag_H → ag_R} {v : Int32} (W : WS kd ln R) (hk : kd a = c) (hc : fdI c k = true) : ag_pF (hp z sl kd ln I R) (some a) c k (.inl v) K = K (hp z sl kd ln (up2 I a k v) R) := by
  obtain ⟨h1, h2, h3⟩ := fdI_ok hc
  exact x_pI0 hk (by omega) (by rw [W_ln W hk h1]; exact h2) h3
theorem x_pR {K : ag_H → ag_R} {v : Option Nat} (W : WS kd ln R) (hk : kd a = c) (hc : fdR c k = true) : ag_pF (hp z sl kd ln I R) (some a) c k (.inr v) K = K (hp z sl kd ln I (up2 R a k v)) := by
  obtain ⟨h1, h2, h3⟩ := fdR_ok hc
  exact x_pR0 hk (by omega) (by rw [W_ln W hk h1]; exact h2) h3
theorem x_atW {K : Nat → List ag_V → ag_R} (hk : kd a = c) (hc : Nat.blt c 999 = true) : ag_at (hp z sl kd ln I R) (some a) c K = K a ((List.range (ln a)).map (hv c (I a) (R a))) := x_at hk (g_lt hc)
/-- arrays of ints, chars, booleans; of objects -/
theorem x_xI {K : Int32 → ag_R} {j : Nat} (hk : kd a = c) (hc : (Nat.beq c 100 || Nat.beq c 101 || Nat.beq c 102) = true) (hl : j < ln a) (hj : j < 2 ^ 31) : ag_xI (hp z sl kd ln I R) (some a) c (nI j) K = K (I a j) := by
  have : c = 100 ∨ c = 101 ∨ c = 102 := by
    rw [Bool.or_eq_true, Bool.or_eq_true] at hc
    rcases hc with (h | h) | h <;> have := Nat.eq_of_beq_eq_true h <;> omega
  refine x_xI0 hk (by omega) hl hj ?_
  rcases this with rfl | rfl | rfl <;> rfl
theorem x_yI {K : ag_H → ag_R} {j : Nat} {v : Int32} (hk : kd a = c) (hc : (Nat.beq c 100 || Nat.beq c 101 || Nat.beq c 102) = true) (hl : j < ln a) (hj : j < 2 ^ 31) : ag_xP (hp z sl kd ln I R) (some a) c (nI j) (.inl v) K = K (hp z sl kd ln (up2 I a j v) R) := by
  have : c = 100 ∨ c = 101 ∨ c = 102 := by
    rw [Bool.or_eq_true, Bool.or_eq_true] at hc
    rcases hc with (h | h) | h <;> have := Nat.eq_of_beq_eq_true h <;> omega
  refine x_yI0 hk (by omega) hl hj ?_
  rcases this with rfl | rfl | rfl <;> rfl
theorem rf_obj (h : (Nat.ble 103 c && Nat.ble c 108) = true) (j : Nat) : c < 999 ∧ rf c j = true := by
  rw [Bool.and_eq_true] at h
  have h1 := g_le h.1
  have h2 := g_le h.2
  have : c = 103 ∨ c = 104 ∨ c = 105 ∨ c = 106 ∨ c = 107 ∨ c = 108 := by omega
  rcases this with rfl | rfl | rfl | rfl | rfl | rfl <;> exact ⟨by omega, rfl⟩
theorem x_xR {K : Option Nat → ag_R} {j : Nat} (hk : kd a = c) (hc : (Nat.ble 103 c && Nat.ble c 108) = true) (hl : j < ln a) (hj : j < 2 ^ 31) : ag_xR (hp z sl kd ln I R) (some a) c (nI j) K = K (R a j) := x_xR0 hk (rf_obj hc j).1 hl hj (rf_obj hc j).2
theorem x_yR {K : ag_H → ag_R} {j : Nat} {v : Option Nat} (hk : kd a = c) (hc : (Nat.ble 103 c && Nat.ble c 108) = true) (hl : j < ln a) (hj : j < 2 ^ 31) : ag_xP (hp z sl kd ln I R) (some a) c (nI j) (.inr v) K = K (hp z sl kd ln I (up2 R a j v)) := x_yR0 hk (rf_obj hc j).1 hl hj (rf_obj hc j).2
end WSR
theorem b_I {x : Int32} {h : ag_H} {K : Int32 → ag_H → ag_R} : ag_bI (some (.inl (some (.inl x)), h)) K = K x h := rfl
theorem b_Ie {x : Nat} {h : ag_H} {K : Int32 → ag_H → ag_R} : ag_bI (some (.inr x, h)) K = some (.inr x, h) := rfl
theorem b_R {x : Option Nat} {h : ag_H} {K : Option Nat → ag_H → ag_R} : ag_bR (some (.inl (some (.inr x)), h)) K = K x h := rfl
theorem b_Re {x : Nat} {h : ag_H} {K : Option Nat → ag_H → ag_R} : ag_bR (some (.inr x, h)) K = some (.inr x, h) := rfl
theorem b_V {h : ag_H} {K : ag_H → ag_R} : ag_bV (some (.inl none, h)) K = K h := rfl
theorem b_Ve {x : Nat} {h : ag_H} {K : ag_H → ag_R} : ag_bV (some (.inr x, h)) K = some (.inr x, h) := rfl
theorem b_W {h : ag_H} {K : ag_H → ag_R} : ag_bW (some (.inl none, h)) K = K h := rfl
theorem b_n {a : Nat} {K : ag_R} : ag_nn (some a) K = K := rfl
theorem b_on {h : ag_H} {c : Nat} {K : ag_R} : ag_oK h none c K = K := rfl
theorem b_os {h : ag_H} {a c : Nat} {K : ag_R} : ag_oK h (some a) c K = ag_at h (some a) c fun _ _ => K := rfl
theorem b_C {x : Int32} {K : ag_R} (h : 0 ≤ x ∧ x < 65536) : ag_isC x K = K := if_pos h
theorem b_Cn {n : Nat} {K : ag_R} (h : n < 65536) : ag_isC (nI n) K = K := if_pos ⟨nI_pos' (by omega), nI_lt h (by decide)⟩
theorem b_B {x : Int32} {K : ag_R} (h : x = 0 ∨ x = 1) : ag_isB x K = K := if_pos h
theorem b_d {x : Int32} {K : ag_R} (h : x ≠ 0) : ag_dv x K = K := if_neg h
theorem lit_0 : ag_lit 0 = nI 0 := rfl
theorem lit_1 : ag_lit 1 = nI 1 := rfl
theorem lit_2 : ag_lit 2 = nI 2 := rfl
theorem lit_3 : ag_lit 3 = nI 3 := rfl
theorem lit_4 : ag_lit 4 = nI 4 := rfl
theorem lit_5 : ag_lit 5 = nI 5 := rfl
theorem lit8_6 : ag_lit8 6 = nI 6 := by decide
theorem lit8_7 : ag_lit8 7 = nI 7 := by decide
theorem lit8_8 : ag_lit8 8 = nI 8 := by decide
theorem lit8_9 : ag_lit8 9 = nI 9 := by decide
theorem lit8_12 : ag_lit8 12 = nI 12 := by decide
theorem lit8_16 : ag_lit8 16 = nI 16 := by decide
theorem lit8_20 : ag_lit8 20 = nI 20 := by decide
theorem lit8_24 : ag_lit8 24 = nI 24 := by decide
theorem lit8_40 : ag_lit8 40 = nI 40 := by decide
theorem lit8_46 : ag_lit8 46 = nI 46 := by decide
theorem lit8_47 : ag_lit8 47 = nI 47 := by decide
theorem lit8_48 : ag_lit8 48 = nI 48 := by decide
theorem lit8_60 : ag_lit8 60 = nI 60 := by decide
theorem lit8_97 : ag_lit8 97 = nI 97 := by decide
theorem lit8_100 : ag_lit8 100 = nI 100 := by decide
theorem lit8_102 : ag_lit8 102 = nI 102 := by decide
theorem lit8_104 : ag_lit8 104 = nI 104 := by decide
theorem lit8_107 : ag_lit8 107 = nI 107 := by decide
theorem lit8_110 : ag_lit8 110 = nI 110 := by decide
theorem lit8_112 : ag_lit8 112 = nI 112 := by decide
theorem lit8_114 : ag_lit8 114 = nI 114 := by decide
theorem lit8_116 : ag_lit8 116 = nI 116 := by decide
theorem lit8_118 : ag_lit8 118 = nI 118 := by decide
theorem lit8_120 : ag_lit8 120 = nI 120 := by decide
theorem lit8_122 : ag_lit8 122 = nI 122 := by decide
theorem lit8_124 : ag_lit8 124 = nI 124 := by decide
theorem lit16_128 : ag_lit16 128 = nI 128 := by decide
theorem lit16_200 : ag_lit16 200 = nI 200 := by decide
theorem lit16_255 : ag_lit16 255 = nI 255 := by decide
theorem lit16_300 : ag_lit16 300 = nI 300 := by decide
theorem lit16_400 : ag_lit16 400 = nI 400 := by decide
theorem lit16_600 : ag_lit16 600 = nI 600 := by decide
theorem lit16_4800 : ag_lit16 4800 = nI 4800 := by decide
theorem lit_m : ag_lit (-1) = -1 := by decide
theorem nI_mul (a b : Nat) : nI a * nI b = nI (a * b) := (Int32.ofNat_mul a b).symm
theorem nI_sub {a b : Nat} (h : b ≤ a) : nI a - nI b = nI (a - b) := by
  have e : nI (a - b) + nI b = nI a := by rw [nI_add, Nat.sub_add_cancel h]
  rw [← e, Int32.add_sub_cancel]

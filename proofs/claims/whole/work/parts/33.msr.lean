/-! MESSAGES of the class are read -/
def wb (L : List Int32) (x : Int32) : Int32 := if x < 0 then -1 else if nI L.length ≤ x then -1 else L.getD x.toNatClampNeg 0
def wbl (L : List Int32) (x : Int32) : Int32 := if x = -1 then nI L.length else wb L x
def un4 (v : Int32) : Int32 := (((((((nI 0 <<< (nI 8 &&& 31)) ||| (by8 v 24 &&& nI 255)) <<< (nI 8 &&& 31)) ||| (by8 v 16 &&& nI 255)) <<< (nI 8 &&& 31)) ||| (by8 v 8 &&& nI 255)) <<< (nI 8 &&& 31)) ||| (by8 v 0 &&& nI 255)
set_option maxRecDepth 100000 in
set_option maxHeartbeats 4000000 in
theorem un4_ok : ∀ k, k < 300 → un4 (nI k) = nI k := by decide +kernel
section MSR
variable {z sl d : Nat} {kd ln : Nat → Nat} {I : Nat → Nat → Int32} {R : Nat → Nat → Option Nat} {a : Nat} {c t : Int32} {pl : List Int32}
theorem s10 (W : WS kd ln R) (hk : kd a = 1) (h : MM I a t pl c) (x : Int32) : ag_run gT (d + 1) 10 [.inr (some a), .inl x] (hp z sl kd ln I R) = some (.inl (some (.inl (wb (msg t pl) x))), hp z sl kd ln I R) := by
  obtain ⟨k1, l1, r1⟩ := W_1 W hk
  obtain ⟨h1, h2, h3, h4⟩ := h
  rw [r10]
  unfold f10 f10_27 f10_28 wb
  rw [msg_len]
  by_cases h0 : x < 0
  · rw [if_pos h0]
    rw [if_pos (show x < ag_lit 0 from h0), lit_m]
  · rw [if_neg h0, if_neg (show ¬ x < ag_lit 0 from h0)]
    obtain ⟨j, hj, rfl⟩ := nI_of h0
    simp (disch := first | assumption | decide | omega) only [x_gI W, h1]
    by_cases h9 : 7 + pl.length ≤ j
    · rw [if_pos (nI_le h9 hj), if_pos (nI_le h9 hj), lit_m]
    · rw [if_neg (nI_ge (by omega) (by omega)), if_neg (nI_ge (by omega) (by omega)), lit8_20, if_neg (nI_ge (by omega) (by omega))]
      simp (disch := first | assumption | decide | omega) only [x_gR W, r1, x_xI]
      rw [nI_clamp hj, h3 j (by omega)]
theorem s11 (W : WS kd ln R) (hk : kd a = 1) (h : MM I a t pl c) (x : Int32) : ag_run gT (d + 2) 11 [.inr (some a), .inl x] (hp z sl kd ln I R) = some (.inl (some (.inl (wbl (msg t pl) x))), hp z sl kd ln I R) := by
  rw [r11]
  unfold f11 f11_17 wbl
  rw [lit_m]
  by_cases h0 : x = -1
  · rw [if_pos h0, if_pos h0, x_gI W hk rfl, h.1, msg_len]
  · rw [if_neg h0, if_neg h0, x_atW hk rfl, s10 W hk h, b_I]
theorem s10_in (W : WS kd ln R) (hk : kd a = 1) (h : MM I a t pl c) {j : Nat} (hj : j < pl.length) : ag_run gT (d + 1) 10 [.inr (some a), .inl (nI (7 + j))] (hp z sl kd ln I R) = some (.inl (some (.inl (pl.getD j 0))), hp z sl kd ln I R) := by
  have h4 := h.2.2.2
  rw [s10 W hk h]
  unfold wb
  rw [if_neg (nI_pos (by omega)), msg_len, if_neg (nI_ge (by omega) (by omega)), nI_clamp (by omega), msg_at]
/-- a number of four bytes -/
theorem s12 (W : WS kd ln R) (hk : kd a = 1) (h : MM I a t pl c) {j : Nat} (hj : j + 4 ≤ pl.length) (v : Int32) (hv : ∀ i, i < 4 → pl.getD (j + i) 0 = by8 v (8 * i)) : ag_run gT (d + 2) 12 [.inr (some a), .inl (nI (7 + j))] (hp z sl kd ln I R) = some (.inl (some (.inl (un4 v))), hp z sl kd ln I R) := by
  have hg : ∀ n, g12 (ag_run gT (d + 1)) (n + 1) = f12_4 (ag_run gT (d + 1)) (g12 (ag_run gT (d + 1)) n) := fun _ => rfl
  have e3 : nI 3 + -1 = nI 2 := by decide
  have e2 : nI 2 + -1 = nI 1 := by decide
  have e1 : nI 1 + -1 = nI 0 := by decide
  have e0 : nI 0 + -1 = (-1 : Int32) := by decide
  have q3 : ¬ nI 3 < nI 0 := by decide
  have q2 : ¬ nI 2 < nI 0 := by decide
  have q1 : ¬ nI 1 < nI 0 := by decide
  have q0 : ¬ nI 0 < nI 0 := by decide
  have qm : (-1 : Int32) < nI 0 := by decide
  have p3 : nI (7 + j) + nI 3 = nI (7 + (j + 3)) := by rw [nI_add]; rfl
  have p2 : nI (7 + j) + nI 2 = nI (7 + (j + 2)) := by rw [nI_add]; rfl
  have p1 : nI (7 + j) + nI 1 = nI (7 + (j + 1)) := by rw [nI_add]; rfl
  have p0 : nI (7 + j) + nI 0 = nI (7 + (j + 0)) := by rw [nI_add]; rfl
  rw [r12]
  unfold f12
  rw [hg 3998, hg 3997, hg 3996, hg 3995]
  unfold f12_4
  simp only [lit_0, lit_3, lit_m, lit8_8, lit16_255, if_neg q3, x_atW hk rfl, p3, s10_in W hk h (j := j + 3) (by omega), b_I, e3, if_neg q2, p2, s10_in W hk h (j := j + 2) (by omega), e2, if_neg q1, p1, s10_in W hk h (j := j + 1) (by omega), e1, if_neg q0, p0, s10_in W hk h (j := j + 0) (by omega), e0, if_pos qm, hv 3 (by omega), hv 2 (by omega), hv 1 (by omega), hv 0 (by omega)]
  rfl
end MSR

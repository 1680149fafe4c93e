/-! OPEN FILES AND PROCESSES in the class as a whole -/
section OPN
variable {z sl d : Nat} {M : Nat → Nat → Int32} {pm : Nat → Nat → Nat} {S : zS} {Q : Nat → Option Nat} {Y : zY} {X : zX} {W : zW} {h : ag_H} {s x : Nat} {F : List (Nat × Nat)} {p f : Nat}
theorem CA.u0 (hC : CA z sl M pm S Q Y X W h) (hp9 : p < 4) (hf : f < 5) {K : Option Nat → ag_R} : ag_gR h (some (58 + 49 * p + 5 * f)) 3 0 K = K (some (lad pm (2, p, f))) := by
  obtain ⟨kd, ln, I, R, ad, rfl, hB⟩ := hC
  have hk := hB.kk (by omega) (kd0_u p hp9 f hf)
  rw [x_gR hB.1 hk rfl, (W_3 hB.1 hk).2]
  show K (some (58 + 49 * p + 5 * f + 1)) = K (some (59 + 49 * p + 5 * f))
  rw [show 58 + 49 * p + 5 * f + 1 = 59 + 49 * p + 5 * f by omega]
theorem CA.u1 (hC : CA z sl M pm S Q Y X W h) (hp9 : p < 4) (hf : f < 5) {K : Int32 → ag_R} : ag_gI h (some (58 + 49 * p + 5 * f)) 3 1 K = K (bI (Y.2.1 p f).1) := by
  obtain ⟨kd, ln, I, R, ad, rfl, hB⟩ := hC
  rw [x_gI hB.1 (hB.kk (by omega) (kd0_u p hp9 f hf)) rfl, (hB.2.2.2.2.2.2.1 p f hp9 hf).1]
theorem CA.u2 (hC : CA z sl M pm S Q Y X W h) (hp9 : p < 4) (hf : f < 5) {K : Int32 → ag_R} : ag_gI h (some (58 + 49 * p + 5 * f)) 3 2 K = K (nI (Y.2.1 p f).2.2.1) := by
  obtain ⟨kd, ln, I, R, ad, rfl, hB⟩ := hC
  rw [x_gI hB.1 (hB.kk (by omega) (kd0_u p hp9 f hf)) rfl, (hB.2.2.2.2.2.2.1 p f hp9 hf).2.2.1]
theorem CA.u3 (hC : CA z sl M pm S Q Y X W h) (hp9 : p < 4) (hf : f < 5) {K : Int32 → ag_R} : ag_gI h (some (58 + 49 * p + 5 * f)) 3 3 K = K (nI (Y.2.1 p f).2.2.2.1) := by
  obtain ⟨kd, ln, I, R, ad, rfl, hB⟩ := hC
  rw [x_gI hB.1 (hB.kk (by omega) (kd0_u p hp9 f hf)) rfl, (hB.2.2.2.2.2.2.1 p f hp9 hf).2.2.2.1]
theorem CA.u4 (hC : CA z sl M pm S Q Y X W h) (hp9 : p < 4) (hf : f < 5) {K : Int32 → ag_R} : ag_gI h (some (58 + 49 * p + 5 * f)) 3 4 K = K (nI (Y.2.1 p f).2.2.2.2.1) := by
  obtain ⟨kd, ln, I, R, ad, rfl, hB⟩ := hC
  rw [x_gI hB.1 (hB.kk (by omega) (kd0_u p hp9 f hf)) rfl, (hB.2.2.2.2.2.2.1 p f hp9 hf).2.2.2.2.1]
theorem CA.u5 (hC : CA z sl M pm S Q Y X W h) (hp9 : p < 4) (hf : f < 5) {K : Int32 → ag_R} : ag_gI h (some (58 + 49 * p + 5 * f)) 3 5 K = K (nI (Y.2.1 p f).2.2.2.2.2) := by
  obtain ⟨kd, ln, I, R, ad, rfl, hB⟩ := hC
  rw [x_gI hB.1 (hB.kk (by omega) (kd0_u p hp9 f hf)) rfl, (hB.2.2.2.2.2.2.1 p f hp9 hf).2.2.2.2.2]
def sU (Y : zY) (p f : Nat) (u : zU) : zY := (Y.1, up2 Y.2.1 p f u, Y.2.2)
theorem CA.v1 (hC : CA z sl M pm S Q Y X W h) (hp9 : p < 4) (hf : f < 5) (b : Bool) : ∃ h', (∀ K, ag_pF h (some (58 + 49 * p + 5 * f)) 3 1 (.inl (bI b)) K = K h') ∧ CA z sl M pm S Q (sU Y p f (b, (Y.2.1 p f).2)) X W h' := by
  obtain ⟨kd, ln, I, R, ad, rfl, hB⟩ := hC
  obtain ⟨u1, u2, u3, u4, u5, u6⟩ := hB.2.2.2.2.2.2.1 p f hp9 hf
  exact ⟨_, fun K => x_pI hB.1 (hB.kk (by omega) (kd0_u p hp9 f hf)) rfl, kd, ln, _, R, ad, rfl, hB.urow hp9 hf rfl (fun b i hb => up2_na hb) (up2_eq _ _ _ _) (by rw [up2_ni (by decide)]; exact u3) (by rw [up2_ni (by decide)]; exact u4) (by rw [up2_ni (by decide)]; exact u5) (by rw [up2_ni (by decide)]; exact u6)⟩
theorem CA.v2 (hC : CA z sl M pm S Q Y X W h) (hp9 : p < 4) (hf : f < 5) (v : Nat) : ∃ h', (∀ K, ag_pF h (some (58 + 49 * p + 5 * f)) 3 2 (.inl (nI v)) K = K h') ∧ CA z sl M pm S Q (sU Y p f ((Y.2.1 p f).1, (Y.2.1 p f).2.1, v, (Y.2.1 p f).2.2.2)) X W h' := by
  obtain ⟨kd, ln, I, R, ad, rfl, hB⟩ := hC
  obtain ⟨u1, u2, u3, u4, u5, u6⟩ := hB.2.2.2.2.2.2.1 p f hp9 hf
  exact ⟨_, fun K => x_pI hB.1 (hB.kk (by omega) (kd0_u p hp9 f hf)) rfl, kd, ln, _, R, ad, rfl, hB.urow hp9 hf rfl (fun b i hb => up2_na hb) (by rw [up2_ni (by decide)]; exact u1) (up2_eq _ _ _ _) (by rw [up2_ni (by decide)]; exact u4) (by rw [up2_ni (by decide)]; exact u5) (by rw [up2_ni (by decide)]; exact u6)⟩
theorem CA.v5 (hC : CA z sl M pm S Q Y X W h) (hp9 : p < 4) (hf : f < 5) (v : Nat) : ∃ h', (∀ K, ag_pF h (some (58 + 49 * p + 5 * f)) 3 5 (.inl (nI v)) K = K h') ∧ CA z sl M pm S Q (sU Y p f ((Y.2.1 p f).1, (Y.2.1 p f).2.1, (Y.2.1 p f).2.2.1, (Y.2.1 p f).2.2.2.1, (Y.2.1 p f).2.2.2.2.1, v)) X W h' := by
  obtain ⟨kd, ln, I, R, ad, rfl, hB⟩ := hC
  obtain ⟨u1, u2, u3, u4, u5, u6⟩ := hB.2.2.2.2.2.2.1 p f hp9 hf
  exact ⟨_, fun K => x_pI hB.1 (hB.kk (by omega) (kd0_u p hp9 f hf)) rfl, kd, ln, _, R, ad, rfl, hB.urow hp9 hf rfl (fun b i hb => up2_na hb) (by rw [up2_ni (by decide)]; exact u1) (by rw [up2_ni (by decide)]; exact u3) (by rw [up2_ni (by decide)]; exact u4) (by rw [up2_ni (by decide)]; exact u5) (up2_eq _ _ _ _)⟩
theorem CA.u20 (hC : CA z sl M pm S Q Y X W h) (hp9 : p < 4) (hf : f < 5) (m : Nat) : ∃ h', ag_run gT (d + 1) 20 [.inr (some (58 + 49 * p + 5 * f)), .inl (nI m)] h = some (.inl none, h') ∧ CA z sl M pm S Q (sU Y p f (true, (Y.2.1 p f).2.1, (Y.2.1 p f).2.2.1, m, 0, 0)) X W h' := by
  obtain ⟨kd, ln, I, R, ad, rfl, hB⟩ := hC
  obtain ⟨u1, u2, u3, u4, u5, u6⟩ := hB.2.2.2.2.2.2.1 p f hp9 hf
  have hk := hB.kk (by omega) (kd0_u p hp9 f hf)
  refine ⟨_, ?_, kd, ln, up2 (up2 (up2 (up2 I (58 + 49 * p + 5 * f) 1 (nI 1)) (58 + 49 * p + 5 * f) 3 (nI m)) (58 + 49 * p + 5 * f) 4 (nI 0)) (58 + 49 * p + 5 * f) 5 (nI 0), R, ad, rfl, hB.urow hp9 hf rfl (fun b i hb => by rw [up2_na hb, up2_na hb, up2_na hb, up2_na hb]) ?_ ?_ ?_ ?_ ?_⟩
  · rw [r20]
    unfold f20
    rw [lit_1, lit_0, b_B (x := nI 1) (Or.inr rfl), x_pI hB.1 hk rfl, x_pI hB.1 hk rfl, x_pI hB.1 hk rfl, x_pI hB.1 hk rfl]
  · rw [up2_ni (by decide), up2_ni (by decide), up2_ni (by decide), up2_eq]; rfl
  · rw [up2_ni (by decide), up2_ni (by decide), up2_ni (by decide), up2_ni (by decide)]; exact u3
  · rw [up2_ni (by decide), up2_ni (by decide), up2_eq]
  · rw [up2_ni (by decide), up2_eq]
  · rw [up2_eq]
theorem CA.u21 (hC : CA z sl M pm S Q Y X W h) (hp9 : p < 4) (hf : f < 5) (ha : (Y.2.1 p f).2.2.2.2.1 < (Y.2.1 p f).2.1.length) : ag_run gT (d + 2) 21 [.inr (some (58 + 49 * p + 5 * f))] h = some (.inl (some (.inl (nI ((Y.2.1 p f).2.1.getD (Y.2.1 p f).2.2.2.2.1 dM).1))), h) := by
  have hL : LV Y (2, p, f) := Or.inr (Or.inr ⟨p, f, rfl, hp9, hf⟩)
  rw [r21]
  unfold f21
  rw [hC.u0 hp9 hf, hC.u4 hp9 hf, hC.ah hL, hC.h3 hL ha, b_I]
  rfl
theorem CA.u22 (hC : CA z sl M pm S Q Y X W h) (hp9 : p < 4) (hf : f < 5) (ha : (Y.2.1 p f).2.2.2.2.1 < (Y.2.1 p f).2.1.length) : ag_run gT (d + 2) 22 [.inr (some (58 + 49 * p + 5 * f))] h = some (.inl (some (.inl (nI ((Y.2.1 p f).2.1.getD (Y.2.1 p f).2.2.2.2.1 dM).2.1))), h) := by
  have hL : LV Y (2, p, f) := Or.inr (Or.inr ⟨p, f, rfl, hp9, hf⟩)
  rw [r22]
  unfold f22
  rw [hC.u0 hp9 hf, hC.u4 hp9 hf, hC.ah hL, hC.h4 hL ha, b_I]
  rfl
theorem CA.u23n (hC : CA z sl M pm S Q Y X W h) (hp9 : p < 4) (hf : f < 5) (ha : ¬ (Y.2.1 p f).2.2.2.2.1 + 1 < (Y.2.1 p f).2.1.length) (hb : (Y.2.1 p f).2.2.2.2.1 < 100) : ag_run gT (d + 1) 23 [.inr (some (58 + 49 * p + 5 * f))] h = some (.inl (some (.inl (nI 0))), h) := by
  have hL : LV Y (2, p, f) := Or.inr (Or.inr ⟨p, f, rfl, hp9, hf⟩)
  have hl := hC.len hL
  have hl2 : (Y.2.1 p f).2.1.length ≤ 3 := hl
  rw [r23]
  unfold f23
  rw [hC.u4 hp9 hf, hC.u0 hp9 hf, hC.hn hL, lit_0, lit_1, nI_add]
  show (if nI ((Y.2.1 p f).2.2.2.2.1 + 1) < nI (Y.2.1 p f).2.1.length then _ else _) = _
  rw [if_neg (nI_nlt (by omega) (by omega)), b_B (x := nI 0) (Or.inl rfl)]
theorem CA.u23y (hC : CA z sl M pm S Q Y X W h) (hp9 : p < 4) (hf : f < 5) (ha : (Y.2.1 p f).2.2.2.2.1 + 1 < (Y.2.1 p f).2.1.length) : ∃ h', ag_run gT (d + 1) 23 [.inr (some (58 + 49 * p + 5 * f))] h = some (.inl (some (.inl (nI 1))), h') ∧ CA z sl M pm S Q (sU Y p f ((Y.2.1 p f).1, (Y.2.1 p f).2.1, (Y.2.1 p f).2.2.1, (Y.2.1 p f).2.2.2.1, (Y.2.1 p f).2.2.2.2.1 + 1, 0)) X W h' := by
  have hL : LV Y (2, p, f) := Or.inr (Or.inr ⟨p, f, rfl, hp9, hf⟩)
  have hl := hC.len hL
  have hl2 : (Y.2.1 p f).2.1.length ≤ 3 := hl
  rw [r23]
  unfold f23
  rw [hC.u4 hp9 hf, hC.u0 hp9 hf, hC.hn hL, lit_0, lit_1, nI_add]
  show ∃ h', (if nI ((Y.2.1 p f).2.2.2.2.1 + 1) < nI (Y.2.1 p f).2.1.length then _ else _) = _ ∧ _
  rw [if_pos (nI_lt ha (by omega)), hC.u4 hp9 hf, nI_add]
  obtain ⟨kd, ln, I, R, ad, rfl, hB⟩ := hC
  obtain ⟨u1, u2, u3, u4, u5, u6⟩ := hB.2.2.2.2.2.2.1 p f hp9 hf
  have hk := hB.kk (by omega) (kd0_u p hp9 f hf)
  refine ⟨_, ?_, kd, ln, up2 (up2 I (58 + 49 * p + 5 * f) 4 (nI ((Y.2.1 p f).2.2.2.2.1 + 1))) (58 + 49 * p + 5 * f) 5 (nI 0), R, ad, rfl, hB.urow hp9 hf rfl (fun b i hb => by rw [up2_na hb, up2_na hb]) ?_ ?_ ?_ ?_ ?_⟩
  · rw [x_pI hB.1 hk rfl, x_pI hB.1 hk rfl, b_B (x := nI 1) (Or.inr rfl)]
  · rw [up2_ni (by decide), up2_ni (by decide)]; exact u1
  · rw [up2_ni (by decide), up2_ni (by decide)]; exact u3
  · rw [up2_ni (by decide), up2_ni (by decide)]; exact u4
  · rw [up2_ni (by decide), up2_eq]
  · rw [up2_eq]
/-- processes -/
theorem R0_p : ∀ p, p < 4 → R0 (56 + 49 * p) 0 = some (57 + 49 * p) ∧ R0 20 p = some (34 + 49 * p) ∧ R0 21 p = some (56 + 49 * p) ∧ kd0 (57 + 49 * p) = 108 ∧ ln0 (57 + 49 * p) = 5 := by decide
theorem R0_f : ∀ p, p < 4 → ∀ f, f < 5 → R0 (57 + 49 * p) f = some (58 + 49 * p + 5 * f) := by decide
theorem CA.f0 (hC : CA z sl M pm S Q Y X W h) (hp9 : p < 4) {K : Option Nat → ag_R} : ag_gR h (some (56 + 49 * p)) 6 0 K = K (some (57 + 49 * p)) := hC.gR (by omega) (kd0_n p hp9).2 rfl rfl (R0_p p hp9).1
theorem CA.ff (hC : CA z sl M pm S Q Y X W h) (hp9 : p < 4) (hf : f < 5) {K : Option Nat → ag_R} : ag_xR h (some (57 + 49 * p)) 108 (nI f) K = K (some (58 + 49 * p + 5 * f)) := hC.xR (by omega) (R0_p p hp9).2.2.2.1 rfl rfl (by rw [(R0_p p hp9).2.2.2.2]; exact hf) (by omega) (R0_f p hp9 f hf)
theorem CA.f1 (hC : CA z sl M pm S Q Y X W h) (hp9 : p < 4) {K : Option Nat → ag_R} : ag_gR h (some (56 + 49 * p)) 6 1 K = K ((Q p).map fun j => 34 + 49 * j) := by
  obtain ⟨kd, ln, I, R, ad, rfl, hB⟩ := hC
  rw [x_gR hB.1 (hB.kk (by omega) (kd0_n p hp9).2) rfl, (hB.2.2.2.2.2.1 p hp9).1]
theorem CA.qp (hC : CA z sl M pm S Q Y X W h) (hp9 : p < 4) {K : Option Nat → ag_R} : ag_xR h (some 21) 105 (nI p) K = K (some (56 + 49 * p)) := hC.xR (by decide) rfl rfl rfl (show p < 4 from hp9) (by omega) (R0_p p hp9).2.2.1
theorem CA.qn (hC : CA z sl M pm S Q Y X W h) (hp9 : p < 4) {K : Option Nat → ag_R} : ag_xR h (some 20) 104 (nI p) K = K (some (34 + 49 * p)) := hC.xR (by decide) rfl rfl rfl (show p < 4 from hp9) (by omega) (R0_p p hp9).2.1
theorem CA.q4 (hC : CA z sl M pm S Q Y X W h) (hp9 : p < 4) {j : Nat} (hq : Q p = some j) : j < 4 := by
  obtain ⟨kd, ln, I, R, ad, rfl, hB⟩ := hC
  exact (hB.2.2.2.2.2.1 p hp9).2.1 j hq
def lfr (O : Nat → Nat → zU) (p : Nat) : Option Nat := (List.range 5).find? fun f => !(O p f).1
def nop (O : Nat → Nat → zU) (p : Nat) : Nat := ((List.range 5).filter fun f => (O p f).1).length
theorem c32_2 (hC : CA z sl M pm S Q Y X W h) (hp9 : p < 4) : ∀ (m k n : Nat), k + m = 5 → g32 (ag_run gT d) (n + m + 1) (some (56 + 49 * p)) (nI k) h = some (.inl (some (.inl (pI ((List.range' k m).find? fun f => !(Y.2.1 p f).1)))), h) := by
  intro m
  induction m with
  | zero =>
    intro k n hk
    show f32_2 _ _ _ _ _ = _
    unfold f32_2
    rw [lit_5, if_pos (nI_le (by omega) (by omega)), lit_m]
    rfl
  | succ m ih =>
    intro k n hk
    rw [show n + (m + 1) + 1 = (n + m + 1) + 1 by omega]
    show f32_2 _ _ _ _ _ = _
    unfold f32_2
    rw [lit_5, if_neg (nI_ge (by omega) (by omega)), hC.f0 hp9, hC.ff hp9 (by omega), hC.u1 hp9 (by omega), lit_0, lit_1, nI_add, List.range'_succ, List.find?_cons]
    cases hb : (Y.2.1 p k).1
    · rfl
    · exact ih (k + 1) n (by omega)
theorem CA.c32 (hC : CA z sl M pm S Q Y X W h) (hp9 : p < 4) : ag_run gT (d + 1) 32 [.inr (some (56 + 49 * p))] h = some (.inl (some (.inl (pI (lfr Y.2.1 p)))), h) := by
  rw [r32]
  unfold f32 lfr
  rw [lit_0, List.range_eq_range']
  exact c32_2 hC hp9 5 0 3994 (by omega)
theorem c33_4 (hC : CA z sl M pm S Q Y X W h) (hp9 : p < 4) : ∀ (m k n u : Nat), k + m = 5 → g33 (ag_run gT d) (n + m + 1) (some (56 + 49 * p)) (nI u) (nI k) h = some (.inl (some (.inl (nI (u + ((List.range' k m).filter fun f => (Y.2.1 p f).1).length)))), h) := by
  intro m
  induction m with
  | zero =>
    intro k n u hk
    show f33_4 _ _ _ _ _ _ = _
    unfold f33_4
    rw [lit_5, if_pos (nI_le (by omega) (by omega))]
    rfl
  | succ m ih =>
    intro k n u hk
    rw [show n + (m + 1) + 1 = (n + m + 1) + 1 by omega]
    show f33_4 _ _ _ _ _ _ = _
    unfold f33_4 f33_24
    rw [lit_5, if_neg (nI_ge (by omega) (by omega)), hC.f0 hp9, hC.ff hp9 (by omega), hC.u1 hp9 (by omega), lit_0, lit_1, nI_add, nI_add, List.range'_succ, List.filter_cons]
    cases hb : (Y.2.1 p k).1
    · exact ih (k + 1) n u (by omega)
    · have := ih (k + 1) n (u + 1) (by omega)
      rw [show u + 1 + ((List.range' (k + 1) m).filter fun f => (Y.2.1 p f).1).length = u + (((List.range' (k + 1) m).filter fun f => (Y.2.1 p f).1).length + 1) by omega] at this
      exact this
theorem CA.c33 (hC : CA z sl M pm S Q Y X W h) (hp9 : p < 4) : ag_run gT (d + 1) 33 [.inr (some (56 + 49 * p))] h = some (.inl (some (.inl (nI (nop Y.2.1 p)))), h) := by
  rw [r33]
  unfold f33 nop
  rw [lit_0, List.range_eq_range']
  have := c33_4 (d := d) hC hp9 5 0 3994 0 (by omega)
  rw [Nat.zero_add] at this
  exact this
/-- the process of a number, or a throw -/
def isP (Q : Nat → Option Nat) (v : Int32) (p j : Nat) : Prop := p < 4 ∧ v = nI p ∧ Q p = some j
def noP (Q : Nat → Option Nat) (v : Int32) : Prop := ∀ p, p < 4 → v = nI p → Q p = none
theorem P_or (Q : Nat → Option Nat) (v : Int32) : (∃ p j, isP Q v p j) ∨ noP Q v := by
  by_cases h : ∃ p, p < 4 ∧ v = nI p
  · obtain ⟨p, hp9, hv⟩ := h
    cases hq : Q p with
    | none =>
      refine Or.inr fun p' hp' hv' => ?_
      have : p' = p := (nI_eq (by omega) (by omega)).mp (hv'.symm.trans hv)
      rw [this]; exact hq
    | some j => exact Or.inl ⟨p, j, hp9, hv, hq⟩
  · exact Or.inr fun p hp9 hv => absurd ⟨p, hp9, hv⟩ h
theorem CA.c84 (hC : CA z sl M pm S Q Y X W h) {v : Int32} {j : Nat} (hp9 : isP Q v p j) : ag_run gT (d + 1) 84 [.inr (some 0), .inl v] h = some (.inl (some (.inr (some (56 + 49 * p)))), h) := by
  obtain ⟨h1, rfl, h2⟩ := hp9
  rw [r84]
  unfold f84
  rw [lit_0, lit_4, if_neg (nI_nlt (by omega) (by omega)), if_neg (nI_ge (by omega) (by omega)), hC.p2, hC.qp h1, hC.f1 h1, h2, Option.map_some, if_neg (by simp), hC.p2, hC.qp h1]
theorem CA.c84n (hC : CA z sl M pm S Q Y X W h) {v : Int32} (hn : noP Q v) : ag_run gT (d + 1) 84 [.inr (some 0), .inl v] h = some (.inr 0, ag_thr h) := by
  rw [r84]
  unfold f84 f84_21
  rw [lit_0, lit_4]
  by_cases h1 : v < nI 0
  · rw [if_pos h1]
  · rw [if_neg h1]
    by_cases h2 : nI 4 ≤ v
    · rw [if_pos h2]
    · rw [if_neg h2]
      obtain ⟨n, hn1, rfl⟩ := nI_of (show ¬ v < 0 from h1)
      have h3 : n < 4 := by
        rcases Nat.lt_or_ge n 4 with h3 | h3
        · exact h3
        · exact absurd (nI_le h3 hn1) h2
      rw [hC.p2, hC.qp h3, hC.f1 h3, hn n h3 rfl, Option.map_none, if_pos rfl]
def isF (O : Nat → Nat → zU) (p : Nat) (v : Int32) (f : Nat) : Prop := f < 5 ∧ v = nI f ∧ (O p f).1 = true
def noF (O : Nat → Nat → zU) (p : Nat) (v : Int32) : Prop := ∀ f, f < 5 → v = nI f → (O p f).1 = false
theorem F_or (O : Nat → Nat → zU) (p : Nat) (v : Int32) : (∃ f, isF O p v f) ∨ noF O p v := by
  by_cases h : ∃ f, f < 5 ∧ v = nI f
  · obtain ⟨f, hf, hv⟩ := h
    cases hq : (O p f).1 with
    | false =>
      refine Or.inr fun p' hp' hv' => ?_
      have : p' = f := (nI_eq (by omega) (by omega)).mp (hv'.symm.trans hv)
      rw [this]; exact hq
    | true => exact Or.inl ⟨f, hf, hv, hq⟩
  · exact Or.inr fun f hf hv => absurd ⟨f, hf, hv⟩ h
theorem CA.c85 (hC : CA z sl M pm S Q Y X W h) {v w : Int32} {j : Nat} (hp9 : isP Q v p j) (hf : isF Y.2.1 p w f) : ag_run gT (d + 2) 85 [.inr (some 0), .inl v, .inl w] h = some (.inl (some (.inr (some (58 + 49 * p + 5 * f)))), h) := by
  have e := hC.c84 (d := d) hp9
  obtain ⟨h1, -, -⟩ := hp9
  obtain ⟨g1, rfl, g2⟩ := hf
  rw [r85]
  unfold f85
  rw [hC.a0, e, b_R, lit_0, lit_5, if_neg (nI_nlt (by omega) (by omega)), if_neg (nI_ge (by omega) (by omega)), hC.f0 h1, hC.ff h1 g1, hC.u1 h1 g1, g2, if_neg (show ¬ bI true = nI 0 by decide), hC.f0 h1, hC.ff h1 g1]
theorem CA.c85n (hC : CA z sl M pm S Q Y X W h) {v w : Int32} {j : Nat} (hp9 : isP Q v p j) (hn : noF Y.2.1 p w) : ag_run gT (d + 2) 85 [.inr (some 0), .inl v, .inl w] h = some (.inr 0, ag_thr h) := by
  have e := hC.c84 (d := d) hp9
  obtain ⟨h1, -, -⟩ := hp9
  rw [r85]
  unfold f85 f85_27
  rw [hC.a0, e, b_R, lit_0, lit_5]
  by_cases h2 : w < nI 0
  · rw [if_pos h2]
  · rw [if_neg h2]
    by_cases h3 : nI 5 ≤ w
    · rw [if_pos h3]
    · rw [if_neg h3]
      obtain ⟨n, hn1, rfl⟩ := nI_of (show ¬ w < 0 from h2)
      have h4 : n < 5 := by
        rcases Nat.lt_or_ge n 5 with h4 | h4
        · exact h4
        · exact absurd (nI_le h4 hn1) h3
      rw [hC.f0 h1, hC.ff h1 h4, hC.u1 h1 h4, hn n h4 rfl, if_pos (show bI false = nI 0 from rfl)]
theorem CA.c85m (hC : CA z sl M pm S Q Y X W h) {v w : Int32} (hn : noP Q v) : ag_run gT (d + 2) 85 [.inr (some 0), .inl v, .inl w] h = some (.inr 0, ag_thr h) := by
  rw [r85]
  unfold f85
  rw [hC.a0, hC.c84n hn, b_Re]
theorem CA.c86 (hC : CA z sl M pm S Q Y X W h) (hp9 : p < 4) (hf : f < 5) : ag_run gT (d + 1) 86 [.inr (some (56 + 49 * p)), .inl (nI f)] h = some (.inl (some (.inr (some (58 + 49 * p + 5 * f)))), h) := by
  rw [r86]
  unfold f86
  rw [lit_0, lit_5, if_neg (nI_nlt (by omega) (by omega)), if_pos (nI_lt (by omega) (by omega)), hC.f0 hp9, hC.ff hp9 hf]
theorem c86n {o : Option Nat} : ag_run gT (d + 1) 86 [.inr o, .inl (-1)] h = some (.inr 1, ag_thr h) := by
  rw [r86]
  unfold f86 f86_9
  rw [lit_0, if_pos (by decide)]
/-- both texts are read as paths, and go -/
theorem CA.c87 (hC : CA z sl M pm S Q Y X W h) {v : Int32} {j : Nat} (hp9 : isP Q v p j) : ∃ h', ag_run gT (d + 3) 87 [.inr (some 0), .inl v] h = some (.inl (some (.inr (some (56 + 49 * p)))), h') ∧ CA z sl M pm S Q Y ([], [], pth X.1, pth X.2.1) W h' := by
  have e84 := hC.c84 (d := d + 1) hp9
  have hC0 := hC
  obtain ⟨kd, ln, I, R, ad, rfl, hB⟩ := hC
  have k22 : kd 22 = 8 := hB.kk (by decide) rfl
  have k24 : kd 24 = 8 := hB.kk (by decide) rfl
  have k26 : kd 26 = 4 := hB.kk (by decide) rfl
  have k28 : kd 28 = 4 := hB.kk (by decide) rfl
  obtain ⟨t1, t2, t3, t4⟩ := hB.2.2.2.2.2.2.2.1
  obtain ⟨I1, e1, q1, g1⟩ := s25 (z := z) (sl := sl) (d := d) hB.1 k26 k22 t1
  have B1 : CB z kd ln I1 R ad M pm S Q Y (X.1, X.2.1, pth X.1, X.2.2.2) W := hB.txt (fun b i hb => g1 b i (by omega) (by omega)) ⟨t1.congr fun x i _ _ => g1 x i (by omega) (by omega), t2.congr fun x i _ _ => g1 x i (by omega) (by omega), q1, t4.congr fun x i _ _ => g1 x i (by omega) (by omega)⟩
  have C1 : CA z sl M pm S Q Y (X.1, X.2.1, pth X.1, X.2.2.2) W (hp z sl kd ln I1 R) := ⟨kd, ln, I1, R, ad, rfl, B1⟩
  obtain ⟨t1, t2, t3, t4⟩ := B1.2.2.2.2.2.2.2.1
  obtain ⟨I2, e2, q2, g2⟩ := s25 (z := z) (sl := sl) (d := d) hB.1 k28 k24 t2
  have B2 : CB z kd ln I2 R ad M pm S Q Y (X.1, X.2.1, pth X.1, pth X.2.1) W := B1.txt (fun b i hb => g2 b i (by omega) (by omega)) ⟨t1.congr fun x i _ _ => g2 x i (by omega) (by omega), t2.congr fun x i _ _ => g2 x i (by omega) (by omega), t3.congr fun x i _ _ => g2 x i (by omega) (by omega), q2⟩
  have C2 : CA z sl M pm S Q Y (X.1, X.2.1, pth X.1, pth X.2.1) W (hp z sl kd ln I2 R) := ⟨kd, ln, I2, R, ad, rfl, B2⟩
  obtain ⟨t1, t2, t3, t4⟩ := B2.2.2.2.2.2.2.2.1
  have B3 : CB z kd ln (up2 I2 22 1 (nI 0)) R ad M pm S Q Y ([], X.2.1, pth X.1, pth X.2.1) W := B2.txt (fun b i hb => up2_na (by omega)) ⟨⟨up2_eq _ _ _ _, by simp, fun i hi => by simp at hi, fun i hi => by rw [up2_na (by decide)]; exact t1.2.2.2.1 i hi, fun x hx => by simp at hx⟩, t2.congr fun x i _ _ => up2_na (by omega), t3.congr fun x i _ _ => up2_na (by omega), t4.congr fun x i _ _ => up2_na (by omega)⟩
  have C3 : CA z sl M pm S Q Y ([], X.2.1, pth X.1, pth X.2.1) W (hp z sl kd ln (up2 I2 22 1 (nI 0)) R) := ⟨kd, ln, _, R, ad, rfl, B3⟩
  obtain ⟨t1, t2, t3, t4⟩ := B3.2.2.2.2.2.2.2.1
  have B4 : CB z kd ln (up2 (up2 I2 22 1 (nI 0)) 24 1 (nI 0)) R ad M pm S Q Y ([], [], pth X.1, pth X.2.1) W := B3.txt (fun b i hb => up2_na (by omega)) ⟨t1.congr fun x i _ _ => up2_na (by omega), ⟨up2_eq _ _ _ _, by simp, fun i hi => by simp at hi, fun i hi => by rw [up2_na (by decide)]; exact t2.2.2.2.1 i hi, fun x hx => by simp at hx⟩, t3.congr fun x i _ _ => up2_na (by omega), t4.congr fun x i _ _ => up2_na (by omega)⟩
  refine ⟨_, ?_, kd, ln, _, R, ad, rfl, B4⟩
  rw [r87]
  unfold f87
  rw [hC0.a0, e84, b_R, hC0.p5, hC0.p3, hC0.a4, e1, b_V, C1.p6, C1.p4, C1.a5, e2, b_V, C2.p3, lit_0, x_pI hB.1 k22 rfl, C3.p4, x_pI hB.1 k24 rfl]
theorem CA.c87n (hC : CA z sl M pm S Q Y X W h) {v : Int32} (hn : noP Q v) : ag_run gT (d + 3) 87 [.inr (some 0), .inl v] h = some (.inr 0, ag_thr h) := by
  rw [r87]
  unfold f87
  rw [hC.a0, hC.c84n hn, b_Re]
end OPN

/-! THE CLASS'S METHODS: read, write, close, remove, stat, to their ends -/
section RWS
variable {z sl d : Nat} {M : Nat → Nat → Int32} {pm : Nat → Nat → Nat} {S : zS} {Q : Nat → Option Nat} {Y : zY} {X : zX} {W : zW} {h : ag_H} {s x : Nat} {F G : List (Nat × Nat)} {p f j : Nat}
theorem sU_self (Y : zY) (p f : Nat) : sU Y p f (Y.2.1 p f) = Y := by
  show (Y.1, up2 Y.2.1 p f (Y.2.1 p f), Y.2.2) = Y
  have : up2 Y.2.1 p f (Y.2.1 p f) = Y.2.1 := by
    funext b i
    by_cases e : b = p ∧ i = f
    · obtain ⟨rfl, rfl⟩ := e; rw [up2_eq]
    · rw [up2_ne e]
  rw [this]
theorem CA.c67n (hC : CA z sl M pm S Q Y X W h) {v w : Int32} (hn : noP Q v ∨ ∃ p j, isP Q v p j ∧ noF Y.2.1 p w) : ag_run gT (d + 7) 67 [.inr (some 0), .inl v, .inl w] h = some (.inr 0, ag_thr h) := by
  rw [r67]
  unfold f67
  rw [hC.a0]
  rcases hn with hn | ⟨p, j, h1, h2⟩
  · rw [hC.c85m (d := d + 4) hn, b_Re]
  · rw [hC.c85n (d := d + 4) h1 h2, b_Re]
theorem CA.c67m (hC : CA z sl M pm S Q Y X W h) {v w : Int32} (hp9 : isP Q v p j) (hf : isF Y.2.1 p w f) (hm : (Y.2.1 p f).2.2.2.1 = 1) : ag_run gT (d + 7) 67 [.inr (some 0), .inl v, .inl w] h = some (.inr 3, ag_thr h) := by
  rw [r67]
  unfold f67
  rw [hC.a0, hC.c85 (d := d + 4) hp9 hf, b_R, hC.u3 hp9.1 hf.1, hm, lit_1, if_pos rfl]
theorem CA.c67 (hC : CA z sl M pm S Q Y X W h) {v w : Int32} (hp9 : isP Q v p j) (hf : isF Y.2.1 p w f) (hm : (Y.2.1 p f).2.2.2.1 ≠ 1) (hm3 : (Y.2.1 p f).2.2.2.1 < 3) (hv : ∀ m ∈ (Y.2.1 p f).2.1, m.1 < 2 ∧ (m.1, m.2.1) ∈ F) (hev : (Y.2.1 p f).2.2.1 < 1000) (ha : (Y.2.1 p f).2.2.2.2.1 < (Y.2.1 p f).2.1.length) (hq : (Y.2.1 p f).2.2.2.2.2 ≤ 20) (hO : OW S F) {T : zS} {a' q' : Nat} {r : Nat ⊕ Option Int32} (hk : kRL ((Y.2.1 p f).2.1.drop (Y.2.1 p f).2.2.2.2.1) S (Y.2.1 p f).2.2.2.2.1 (Y.2.1 p f).2.2.2.2.2 = (T, a', q', r)) :
    ∃ h', ag_run gT (d + 7) 67 [.inr (some 0), .inl v, .inl w] h = some (rdA (Y.2.1 p f).2.2.1 r, h') ∧ CA (z + rdT (Y.2.1 p f).2.2.1 r) (sl + 6 * rdT (Y.2.1 p f).2.2.1 r) M pm T Q (sU Y p f ((Y.2.1 p f).1, (Y.2.1 p f).2.1, (Y.2.1 p f).2.2.1, (Y.2.1 p f).2.2.2.1, a', q')) X W h' := by
  have hL : LV Y (2, p, f) := Or.inr (Or.inr ⟨p, f, rfl, hp9.1, hf.1⟩)
  have hl3 : (Y.2.1 p f).2.1.length ≤ 3 := hC.len hL
  have hC' : CA z sl M pm S Q (sU Y p f ((Y.2.1 p f).1, (Y.2.1 p f).2.1, (Y.2.1 p f).2.2.1, (Y.2.1 p f).2.2.2.1, (Y.2.1 p f).2.2.2.2.1, (Y.2.1 p f).2.2.2.2.2)) X W h := by
    have := sU_self Y p f
    show CA z sl M pm S Q (sU Y p f (Y.2.1 p f)) X W h
    rw [this]; exact hC
  have hlen : ((Y.2.1 p f).2.1.drop (Y.2.1 p f).2.2.2.2.1).length ≤ 3 := by rw [List.length_drop]; omega
  obtain ⟨h', e, C⟩ := c67_34 (d := d + 2) hp9.1 hf.1 hv hl3 hev ((Y.2.1 p f).2.1.drop (Y.2.1 p f).2.2.2.2.1) (Y.2.1 p f).2.2.2.2.1 (Y.2.1 p f).2.2.2.2.2 0 (3999 - ((Y.2.1 p f).2.1.drop (Y.2.1 p f).2.2.2.2.1).length) S h (nI 0) rfl (by rw [drop_gM ha]; simp) (by omega) (by omega) hq hO hC'
  rw [hk] at e C
  refine ⟨h', ?_, C⟩
  rw [r67]
  unfold f67
  rw [hC.a0, hC.c85 (d := d + 4) hp9 hf, b_R, hC.u3 hp9.1 hf.1, lit_1, if_neg (by rw [nI_eq (by omega) (by omega)]; exact hm), lit_0]
  rw [show 3999 - ((Y.2.1 p f).2.1.drop (Y.2.1 p f).2.2.2.2.1).length + ((Y.2.1 p f).2.1.drop (Y.2.1 p f).2.2.2.2.1).length + 1 = 4000 by omega] at e
  exact e
/-- bytes -/
def isB (v : Int32) (b : Nat) : Prop := b < 256 ∧ v = nI b
def noB (v : Int32) : Prop := ∀ b, b < 256 → v ≠ nI b
theorem B_or (v : Int32) : (∃ b, isB v b) ∨ noB v := by
  by_cases h : ∃ m, m < 256 ∧ v = nI m
  · exact Or.inl h
  · exact Or.inr fun m hm hv => h ⟨m, hm, hv⟩
theorem CA.c68n (hC : CA z sl M pm S Q Y X W h) {v w b : Int32} (hn : noP Q v ∨ ∃ p j, isP Q v p j ∧ noF Y.2.1 p w) : ag_run gT (d + 7) 68 [.inr (some 0), .inl v, .inl w, .inl b] h = some (.inr 0, ag_thr h) := by
  rw [r68]
  unfold f68
  rw [hC.a0]
  rcases hn with hn | ⟨p, j, h1, h2⟩
  · rw [hC.c85m (d := d + 4) hn, b_Re]
  · rw [hC.c85n (d := d + 4) h1 h2, b_Re]
theorem CA.c68b (hC : CA z sl M pm S Q Y X W h) {v w b : Int32} (hp9 : isP Q v p j) (hf : isF Y.2.1 p w f) (hb : noB b) : ag_run gT (d + 7) 68 [.inr (some 0), .inl v, .inl w, .inl b] h = some (.inr 0, ag_thr h) := by
  rw [r68]
  unfold f68 f68_19
  rw [hC.a0, hC.c85 (d := d + 4) hp9 hf, b_R, lit_0]
  by_cases h1 : b < nI 0
  · rw [if_pos h1]
  · rw [if_neg h1, lit16_255]
    by_cases h2 : b ≤ nI 255
    · exfalso
      obtain ⟨n, hn1, rfl⟩ := nI_of (show ¬ b < 0 from h1)
      exact hb n (by have := (nI_leI hn1 (by omega)).mp h2; omega) rfl
    · rw [if_neg h2]
theorem CA.c68m (hC : CA z sl M pm S Q Y X W h) {v w b : Int32} {n : Nat} (hp9 : isP Q v p j) (hf : isF Y.2.1 p w f) (hb : isB b n) (hm : (Y.2.1 p f).2.2.2.1 = 0) : ag_run gT (d + 7) 68 [.inr (some 0), .inl v, .inl w, .inl b] h = some (.inr 3, ag_thr h) := by
  obtain ⟨hn, rfl⟩ := hb
  rw [r68]
  unfold f68
  rw [hC.a0, hC.c85 (d := d + 4) hp9 hf, b_R, lit_0, if_neg (nI_nlt (by omega) (by omega)), lit16_255, if_pos (nI_le (by omega) (by omega)), hC.u3 hp9.1 hf.1, hm, if_pos rfl]
def wrA (V : zV) (q n : Nat) (x : Nat ⊕ Nat) : ag_O := match x with
  | .inl e => if e = 102 then .inr 1 else .inr 2
  | .inr i => .inl (some (.inl (nI (pu8 (V.2.1 i).2.2.2.2.1 q (nI n)).length)))
def wrT (x : Nat ⊕ Nat) : Nat := match x with
  | .inl _ => 1
  | .inr _ => 0
theorem oWR_e {V : zV} {q e : Nat} (h9 : oWR V x q = .inl e) : e = 110 ∨ e = 102 := by
  unfold oWR at h9
  cases hs : V.2.2.1 x with
  | none => rw [hs] at h9; cases h9; exact Or.inl rfl
  | some i =>
    rw [hs] at h9
    dsimp only at h9
    cases h1 : (V.2.1 i).1
    · rw [h1] at h9; cases h9; exact Or.inl rfl
    · rw [h1] at h9
      dsimp only [cond_true] at h9
      cases h2 : Nat.blt q 8
      · rw [h2] at h9; cases h9; exact Or.inr rfl
      · rw [h2] at h9; cases h9
theorem oWR_i {V : zV} {q i : Nat} (h9 : oWR V x q = .inr i) : V.2.2.1 x = some i ∧ (V.2.1 i).1 = true ∧ q < 8 := by
  unfold oWR at h9
  cases hs : V.2.2.1 x with
  | none => rw [hs] at h9; cases h9
  | some i' =>
    rw [hs] at h9
    dsimp only at h9
    cases h1 : (V.2.1 i').1
    · rw [h1] at h9; cases h9
    · rw [h1] at h9
      dsimp only [cond_true] at h9
      cases h2 : Nat.blt q 8
      · rw [h2] at h9; cases h9
      · rw [h2] at h9
        cases h9
        exact ⟨rfl, h1, g_lt h2⟩
theorem le4_0 (v : Int32) : ∀ i, i < 4 → (le v 4).getD (0 + i) 0 = by8 v (8 * i) := by
  intro k hk
  have : k = 0 ∨ k = 1 ∨ k = 2 ∨ k = 3 := by omega
  rcases this with rfl | rfl | rfl | rfl <;> rfl
theorem CA.c68 (hC : CA z sl M pm S Q Y X W h) {v w b : Int32} {n : Nat} (hp9 : isP Q v p j) (hf : isF Y.2.1 p w f) (hb : isB b n) (hm : (Y.2.1 p f).2.2.2.1 ≠ 0) (hm3 : (Y.2.1 p f).2.2.2.1 < 3) {m : zM} (hmm : (Y.2.1 p f).2.1.getD (Y.2.1 p f).2.2.2.2.1 dM = m) (ha : (Y.2.1 p f).2.2.2.2.1 < (Y.2.1 p f).2.1.length) (hv : m.1 < 2 ∧ m.2.1 < 128) {q : Nat} (hqq : (Y.2.1 p f).2.2.2.2.2 = q) (hq : q ≤ 8) (hpl : ∀ i, (S.1 m.1).2.2.1 m.2.1 = some i → ((S.1 m.1).2.1 i).1 = true → ((S.1 m.1).2.1 i).2.1 = false ∧ q ≤ ((S.1 m.1).2.1 i).2.2.2.2.1.length) :
    ∃ h', ag_run gT (d + 7) 68 [.inr (some 0), .inl v, .inl w, .inl b] h = some (wrA (S.1 m.1) q n (oWR (S.1 m.1) m.2.1 q), h') ∧ CA (z + wrT (oWR (S.1 m.1) m.2.1 q)) (sl + 6 * wrT (oWR (S.1 m.1) m.2.1 q)) M pm (kWR S m.1 m.2.1 q n) Q (sU Y p f ((Y.2.1 p f).1, (Y.2.1 p f).2.1, (Y.2.1 p f).2.2.1, (Y.2.1 p f).2.2.2.1, (Y.2.1 p f).2.2.2.2.1, q + 1 - wrT (oWR (S.1 m.1) m.2.1 q))) X W h' := by
  obtain ⟨hn, rfl⟩ := hb
  obtain ⟨v1, v3⟩ := hv
  have hp4 := hp9.1
  have hf5 := hf.1
  have e1 := hC.u21 (d := d + 4) hp4 hf5 ha
  obtain ⟨h2, t2, q2, t2', r2, e2, C2⟩ := hC.to (d := d + 5) v1
  have e3 := C2.u22 (d := d + 4) hp4 hf5 ha
  rw [hmm] at e1 e3
  obtain ⟨h4, e4, C4⟩ := C2.c43 (d := d + 3) (s := m.1) rfl v3 hq hn hpl
  have e4 : ag_run gT (d + 6) 43 [.inr (some (2 + 9 * m.1)), .inl (nI m.2.1), .inl (nI q), .inl (nI n)] h2 = some (.inl (some (.inl (eI (oWR (S.1 m.1) m.2.1 q)))), h4) := e4
  have C4 : CA z sl M pm (kWR S m.1 m.2.1 q n) Q Y X W h4 := C4
  rw [r68]
  unfold f68
  rw [hC.a0, hC.c85 (d := d + 4) hp9 hf, b_R, lit_0, if_neg (nI_nlt (by omega) (by omega)), lit16_255, if_pos (nI_le (by omega) (by omega)), hC.u3 hp4 hf5, if_neg (by rw [nI_eq (by omega) (by omega)]; exact hm), hC.au hp4 hf5, e1, b_I, hC.a0, e2, b_R, C2.au hp4 hf5, e3, b_I, C2.u5 hp4 hf5, hqq, C2.as v1, e4, b_I, lit8_102]
  cases ho : oWR (S.1 m.1) m.2.1 q with
  | inl e =>
    have he := oWR_e ho
    have hself : CA z sl M pm (kWR S m.1 m.2.1 q n) Q (sU Y p f ((Y.2.1 p f).1, (Y.2.1 p f).2.1, (Y.2.1 p f).2.2.1, (Y.2.1 p f).2.2.2.1, (Y.2.1 p f).2.2.2.2.1, q + 1 - 1)) X W h4 := by
      rw [Nat.add_sub_cancel, ← hqq]
      show CA z sl M pm (kWR S m.1 m.2.1 _ n) Q (sU Y p f (Y.2.1 p f)) X W h4
      rw [sU_self, hqq]; exact C4
    refine ⟨_, ?_, hself.thr⟩
    rcases he with rfl | rfl
    · rw [if_neg (show ¬ eI (Sum.inl 110 : Nat ⊕ Nat) = nI 102 by decide), if_neg (show ¬ eI (Sum.inl 110 : Nat ⊕ Nat) = nI 0 by decide)]
      rfl
    · rw [if_pos (show eI (Sum.inl 102 : Nat ⊕ Nat) = nI 102 from rfl)]
      rfl
  | inr i =>
    obtain ⟨g1, g2, g3⟩ := oWR_i ho
    obtain ⟨g4, g5⟩ := hpl i g1 g2
    have hr9 : (kWR S m.1 m.2.1 q n).2.2.2.2.2 = le (nI (pu8 ((S.1 m.1).2.1 i).2.2.2.2.1 q (nI n)).length) 4 := by
      unfold kWR
      rw [ho]; rfl
    obtain ⟨h5, e5, C5⟩ := C4.v5 hp4 hf5 (q + 1)
    have e6 := C5.m12 (d := d + 4) (j := 0) (by rw [hr9]; show 4 ≤ 4; decide) (nI (pu8 ((S.1 m.1).2.1 i).2.2.2.2.1 q (nI n)).length) (by rw [hr9]; exact le4_0 _)
    have hlen : (pu8 ((S.1 m.1).2.1 i).2.2.2.2.1 q (nI n)).length < 300 := by
      have hw := hC.vw v1
      have h9 := (hw.2.2.2.2.2.1 i (hw.2.2.2.1 _ _ g1)).2.2.1
      rw [g4] at h9
      have h9 : ((S.1 m.1).2.1 i).2.2.2.2.1.length ≤ 8 := h9
      rw [pu8_len g5]
      split <;> omega
    rw [un4_ok _ hlen] at e6
    have e6 : ag_run gT (d + 6) 12 [.inr (some (5 + 9 * m.1)), .inl (nI 7)] h5 = some (.inl (some (.inl (nI (pu8 ((S.1 m.1).2.1 i).2.2.2.2.1 q (nI n)).length))), h5) := e6
    refine ⟨h5, ?_, C5⟩
    rw [if_neg (show ¬ eI (Sum.inr i : Nat ⊕ Nat) = nI 102 by show ¬ nI 0 = nI 102; decide), if_pos (show eI (Sum.inr i : Nat ⊕ Nat) = nI 0 from rfl), C4.u5 hp4 hf5, hqq, lit_1, nI_add, e5, C5.q1 v1, C5.am v1, lit8_7, e6, b_I]
    rfl
theorem CA.c69n (hC : CA z sl M pm S Q Y X W h) {v w : Int32} (hn : noP Q v ∨ ∃ p j, isP Q v p j ∧ noF Y.2.1 p w) : ag_run gT (d + 7) 69 [.inr (some 0), .inl v, .inl w] h = some (.inr 0, ag_thr h) := by
  rw [r69]
  unfold f69
  rw [hC.a0]
  rcases hn with hn | ⟨p, j, h1, h2⟩
  · rw [hC.c84n (d := d + 5) hn, b_Re]
  · rw [hC.c84 (d := d + 5) h1, b_R, hC.a0, hC.c85n (d := d + 4) h1 h2, b_Re]
theorem CA.c69 (hC : CA z sl M pm S Q Y X W h) {v w : Int32} (hp9 : isP Q v p j) (hf : isF Y.2.1 p w f) (hv : ∀ m ∈ (Y.2.1 p f).2.1, m.1 < 2 ∧ m.2.1 < 128) : ∃ h', ag_run gT (d + 7) 69 [.inr (some 0), .inl v, .inl w] h = some (.inl (some (.inl (nI (nop (up2 Y.2.1 p f (false, (Y.2.1 p f).2)) p)))), h') ∧ CA z sl M pm (kClA S (Y.2.1 p f).2.1) Q (sU Y p f (false, (Y.2.1 p f).2)) X W h' := by
  obtain ⟨h1, e1, C1⟩ := hC.clf (d := d + 1) hp9.1 hf.1 hv
  refine ⟨h1, ?_, C1⟩
  rw [r69]
  unfold f69
  rw [hC.a0, hC.c84 (d := d + 5) hp9, b_R, hC.a0, hC.c85 (d := d + 4) hp9 hf, b_R, hC.a0, e1, b_V, C1.ap hp9.1, C1.c33 (d := d + 5) hp9.1, b_I]
  rfl
/-- remove -/
theorem CA.c70n (hC : CA z sl M pm S Q Y X W h) {v : Int32} (hn : noP Q v) : ag_run gT (d + 7) 70 [.inr (some 0), .inl v] h = some (.inr 0, ag_thr h) := by
  rw [r70]
  unfold f70
  rw [hC.a0, hC.c87n (d := d + 3) hn, b_Re]
theorem CA.c70a (hC : CA z sl M pm S Q Y X W h) {v : Int32} (hp9 : isP Q v p j) (ha : pth X.1 = none) : ∃ h', ag_run gT (d + 7) 70 [.inr (some 0), .inl v] h = some (.inr 0, h') ∧ CA (z + 1) (sl + 6) M pm S Q Y ([], [], pth X.1, pth X.2.1) W h' := by
  obtain ⟨h1, e1, C1⟩ := hC.c87 (d := d + 3) hp9
  refine ⟨_, ?_, C1.thr⟩
  rw [r70]
  unfold f70
  rw [hC.a0, e1, b_R, C1.p5, C1.pp (Or.inl rfl), lit_0]
  show (if bI (pth X.1).isSome = nI 0 then _ else _) = _
  rw [ha, if_pos (show bI (none : Option (List Nat)).isSome = nI 0 from rfl)]
theorem CA.c70c (hC : CA z sl M pm S Q Y X W h) {v : Int32} (hp9 : isP Q v p j) (hns : pth X.1 = some []) : ∃ h', ag_run gT (d + 7) 70 [.inr (some 0), .inl v] h = some (.inr 3, h') ∧ CA (z + 1) (sl + 6) M pm S Q Y ([], [], pth X.1, pth X.2.1) W h' := by
  obtain ⟨h1, e1, C1⟩ := hC.c87 (d := d + 3) hp9
  obtain ⟨-, -, hn1, -⟩ := C1.nm (d := d) (b := 26) (Or.inl rfl) hns
  refine ⟨_, ?_, C1.thr⟩
  rw [r70]
  unfold f70
  rw [hC.a0, e1, b_R, C1.p5, C1.pp (Or.inl rfl), lit_0]
  show (if bI (pth X.1).isSome = nI 0 then _ else _) = _
  rw [hns, if_neg (show ¬ bI (some ([] : List Nat)).isSome = nI 0 from (show ¬ bI true = nI 0 by decide)), C1.p5, hn1, if_pos (show nI ([] : List Nat).length = nI 0 from rfl)]
def rmA (g : Nat) (x : Nat ⊕ Nat) : ag_O := match x with
  | .inl _ => .inr 3
  | .inr _ => .inl (some (.inl (nI g)))
theorem oRM_e {V : zV} {e : Nat} (h9 : oRM V x = .inl e) : e = 110 ∨ e = 112 := by
  unfold oRM at h9
  cases hs : V.2.2.1 x with
  | none => rw [hs] at h9; cases h9; exact Or.inl rfl
  | some i =>
    rw [hs] at h9
    dsimp only at h9
    cases h1 : (V.2.1 i).1
    · rw [h1] at h9; cases h9; exact Or.inl rfl
    · rw [h1] at h9
      dsimp only [cond_true] at h9
      cases h2 : (Nat.beq i 0 || (vls V i 0).isSome)
      · rw [h2] at h9; cases h9
      · rw [h2] at h9; cases h9; exact Or.inr rfl
theorem CA.c70 (hC : CA z sl M pm S Q Y X W h) {v : Int32} (hp9 : isP Q v p j) {ns : List Nat} (hns : pth X.1 = some ns) (hnp : 0 < ns.length) (h0 : (0, 0) ∈ F) (hl : F.length + 4 < 128) (hP : PM Y.1 j F) (hO : OW S F) (hW : WK S (0, 0, 0, true)) :
    (∀ e, (kWk Y.1 j ns S (0, 0, 0, true)).2 = .inl e → ∃ h' H' W', ag_run gT (d + 7) 70 [.inr (some 0), .inl v] h = some (.inr (thW e), h') ∧ CA (z + 1) (sl + 6) M pm (kWk Y.1 j ns S (0, 0, 0, true)).1 Q (Y.1, Y.2.1, H') ([], [], pth X.1, pth X.2.1) W' h') ∧
    ∀ w', (kWk Y.1 j ns S (0, 0, 0, true)).2 = .inr w' → ∀ T, (kWk Y.1 j ns S (0, 0, 0, true)).1 = T → ∃ h' H', ag_run gT (d + 7) 70 [.inr (some 0), .inl v] h = some (rmA w'.2.2.1 (oRM (T.1 w'.1) w'.2.1), h') ∧ CA (z + wrT (oRM (T.1 w'.1) w'.2.1)) (sl + 6 * wrT (oRM (T.1 w'.1) w'.2.1)) M pm (kRM T w'.1 w'.2.1) Q (Y.1, Y.2.1, H') ([], [], pth X.1, pth X.2.1) w' h' := by
  obtain ⟨h1, e1, C1⟩ := hC.c87 (d := d + 3) hp9
  obtain ⟨hp4, hv, hq⟩ := hp9
  have hj := hC.q4 hp4 hq
  obtain ⟨h12, -, hn1, -⟩ := C1.nm (d := d) (b := 26) (Or.inl rfl) hns
  obtain ⟨w1, w2⟩ := C1.wo (d := d) (b := 26) hj (Or.inl rfl) hns (u := ns.length) (Nat.le_refl _) h0 (by omega) hP hO hW
  rw [List.take_length] at w1 w2
  obtain ⟨o1, o2⟩ := OW.wk h0 (by omega) hP ns S (0, 0, 0, true) hO hW
  have start : ag_run gT (d + 7) 70 [.inr (some 0), .inl v] h = ag_bV (ag_run gT (d + 6) 91 [.inr (some 0), .inr (some (34 + 49 * j)), .inr (some 26), .inl (nI ns.length)] h1) fun h13 =>
      ag_gI h13 (some 0) 10 9 fun x14 =>
      ag_at h13 (some 0) 10 fun a15 _ => ag_bR (ag_run gT (d + 6) 83 [.inr (some a15), .inl x14] h13) fun x17 h16 =>
      ag_gI h16 (some 0) 10 10 fun x18 =>
      ag_at h16 x17 7 fun a19 _ => ag_bI (ag_run gT (d + 6) 45 [.inr (some a19), .inl x18] h16) fun x21 h20 =>
      if x21 = nI 0 then
        ag_gI h20 (some 0) 10 11 fun x22 =>
        some (.inl (some (.inl x22)), h20)
      else
        some (.inr 3, ag_thr h20) := by
    rw [r70]
    unfold f70
    rw [hC.a0, e1, b_R, C1.p5, C1.pp (Or.inl rfl), lit_0]
    show (if bI (pth X.1).isSome = nI 0 then _ else _) = _
    rw [hns, if_neg (show ¬ bI (some ns).isSome = nI 0 from (show ¬ bI true = nI 0 by decide)), C1.p5, hn1, if_neg (by rw [nI_eq (by omega) (by omega)]; omega), C1.f1 hp4, hq, C1.p5, C1.p5, hn1, C1.a0]
    rfl
  rw [start]
  refine ⟨fun e he => ?_, fun w' he T hT => ?_⟩
  · obtain ⟨h2, H2, W2, e2, C2⟩ := w1 e he
    exact ⟨h2, H2, W2, by rw [e2, b_Ve], C2⟩
  · obtain ⟨h2, H2, e2, C2⟩ := w2 w' he
    obtain ⟨O2, K2, -⟩ := o2 w' he
    rw [hT] at C2 O2 K2
    obtain ⟨h3, t3, q3, t3', r3, e3, C3⟩ := C2.to (d := d + 5) K2.1
    obtain ⟨h4, e4, C4⟩ := C3.c45 (d := d + 3) (s := w'.1) rfl (O2.lt K2.1 (fl_mem h0))
    have e4 : ag_run gT (d + 6) 45 [.inr (some (2 + 9 * w'.1)), .inl (nI w'.2.1)] h3 = some (.inl (some (.inl (eI (oRM (T.1 w'.1) w'.2.1)))), h4) := e4
    have C4 : CA z sl M pm (kRM T w'.1 w'.2.1) Q (Y.1, Y.2.1, H2) ([], [], pth X.1, pth X.2.1) w' h4 := C4
    rw [e2, b_V, C2.g9, C2.a0, e3, b_R, C3.g10, C3.as K2.1, e4, b_I]
    cases ho : oRM (T.1 w'.1) w'.2.1 with
    | inl e =>
      have he := oRM_e ho
      rw [if_neg (show ¬ eI (Sum.inl e : Nat ⊕ Nat) = nI 0 by show ¬ nI e = nI 0; rw [nI_eq (by omega) (by omega)]; omega)]
      exact ⟨_, H2, rfl, C4.thr⟩
    | inr i =>
      rw [if_pos (show eI (Sum.inr i : Nat ⊕ Nat) = nI 0 from rfl), C4.g11]
      exact ⟨h4, H2, rfl, C4⟩
/-- stat -/
theorem CA.c71n (hC : CA z sl M pm S Q Y X W h) {v : Int32} (hn : noP Q v) : ag_run gT (d + 7) 71 [.inr (some 0), .inl v] h = some (.inr 0, ag_thr h) := by
  rw [r71]
  unfold f71
  rw [hC.a0, hC.c87n (d := d + 3) hn, b_Re]
theorem CA.c71a (hC : CA z sl M pm S Q Y X W h) {v : Int32} (hp9 : isP Q v p j) (ha : pth X.1 = none) : ∃ h', ag_run gT (d + 7) 71 [.inr (some 0), .inl v] h = some (.inr 0, h') ∧ CA (z + 1) (sl + 6) M pm S Q Y ([], [], pth X.1, pth X.2.1) W h' := by
  obtain ⟨h1, e1, C1⟩ := hC.c87 (d := d + 3) hp9
  refine ⟨_, ?_, C1.thr⟩
  rw [r71]
  unfold f71
  rw [hC.a0, e1, b_R, C1.p5, C1.pp (Or.inl rfl), lit_0]
  show (if bI (pth X.1).isSome = nI 0 then _ else _) = _
  rw [ha, if_pos (show bI (none : Option (List Nat)).isSome = nI 0 from rfl)]
theorem oST_ok (hW : WK S W) : oST (S.1 W.1) W.2.1 = .inr W.2.2.1 := by
  unfold oST
  rw [hW.2.1]
  dsimp only
  rw [hW.2.2.2]
  rfl
def stV (W : zW) : Int32 := nI 100 * nI W.1 + nI 2 * nI W.2.2.1 + bI W.2.2.2
theorem CA.c71 (hC : CA z sl M pm S Q Y X W h) {v : Int32} (hp9 : isP Q v p j) {ns : List Nat} (hns : pth X.1 = some ns) (h0 : (0, 0) ∈ F) (hl : F.length + 4 < 128) (hP : PM Y.1 j F) (hO : OW S F) (hW : WK S (0, 0, 0, true)) :
    (∀ e, (kWk Y.1 j ns S (0, 0, 0, true)).2 = .inl e → ∃ h' H' W', ag_run gT (d + 7) 71 [.inr (some 0), .inl v] h = some (.inr (thW e), h') ∧ CA (z + 1) (sl + 6) M pm (kWk Y.1 j ns S (0, 0, 0, true)).1 Q (Y.1, Y.2.1, H') ([], [], pth X.1, pth X.2.1) W' h') ∧
    ∀ w', (kWk Y.1 j ns S (0, 0, 0, true)).2 = .inr w' → ∀ T, (kWk Y.1 j ns S (0, 0, 0, true)).1 = T → ∃ h' H', ag_run gT (d + 7) 71 [.inr (some 0), .inl v] h = some (.inl (some (.inl (stV w'))), h') ∧ CA z sl M pm (kGo (kSt T w'.1 w'.2.1) w'.1 w'.2.1) Q (Y.1, Y.2.1, H') ([], [], pth X.1, pth X.2.1) w' h' := by
  obtain ⟨h1, e1, C1⟩ := hC.c87 (d := d + 3) hp9
  obtain ⟨hp4, hv, hq⟩ := hp9
  have hj := hC.q4 hp4 hq
  obtain ⟨h12, -, hn1, -⟩ := C1.nm (d := d) (b := 26) (Or.inl rfl) hns
  obtain ⟨w1, w2⟩ := C1.wo (d := d) (b := 26) hj (Or.inl rfl) hns (u := ns.length) (Nat.le_refl _) h0 (by omega) hP hO hW
  rw [List.take_length] at w1 w2
  obtain ⟨o1, o2⟩ := OW.wk h0 (by omega) hP ns S (0, 0, 0, true) hO hW
  have start : ag_run gT (d + 7) 71 [.inr (some 0), .inl v] h = ag_bV (ag_run gT (d + 6) 91 [.inr (some 0), .inr (some (34 + 49 * j)), .inr (some 26), .inl (nI ns.length)] h1) fun h11 =>
    ag_gI h11 (some 0) 10 9 fun x12 =>
    ag_at h11 (some 0) 10 fun a13 _ => ag_bR (ag_run gT (d + 6) 83 [.inr (some a13), .inl x12] h11) fun x15 h14 =>
    ag_gI h14 (some 0) 10 10 fun x16 =>
    ag_at h14 x15 7 fun a17 _ => ag_bI (ag_run gT (d + 6) 46 [.inr (some a17), .inl x16] h14) fun x19 h18 =>
    ag_gR h18 x15 7 1 fun x20 =>
    ag_at h18 x20 1 fun a21 _ => ag_bI (ag_run gT (d + 6) 10 [.inr (some a21), .inl (nI 7)] h18) fun x23 h22 =>
    ag_gR h22 x15 7 1 fun x24 =>
    ag_at h22 x24 1 fun a25 _ => ag_bI (ag_run gT (d + 6) 12 [.inr (some a25), .inl (nI 12)] h22) fun x27 h26 =>
    ag_gI h26 (some 0) 10 9 fun x28 =>
    ag_gI h26 (some 0) 10 10 fun x29 =>
    ag_at h26 (some 0) 10 fun a30 _ => ag_bV (ag_run gT (d + 6) 95 [.inr (some a30), .inl x28, .inl x29] h26) fun h31 =>
    ag_gI h31 (some 0) 10 9 fun x32 =>
    some (.inl (some (.inl (((nI 100 * x32) + (nI 2 * x27)) + x23))), h31) := by
    rw [r71]
    unfold f71
    rw [hC.a0, e1, b_R, C1.p5, C1.pp (Or.inl rfl), lit_0, lit_2, lit8_7, lit8_12, lit8_100]
    show (if bI (pth X.1).isSome = nI 0 then _ else _) = _
    rw [hns, if_neg (show ¬ bI (some ns).isSome = nI 0 from (show ¬ bI true = nI 0 by decide)), C1.f1 hp4, hq, C1.p5, C1.p5, hn1, C1.a0]
    rfl
  rw [start]
  refine ⟨fun e he => ?_, fun w' he T hT => ?_⟩
  · obtain ⟨h2, H2, W2, e2, C2⟩ := w1 e he
    exact ⟨h2, H2, W2, by rw [e2, b_Ve], C2⟩
  · obtain ⟨h2, H2, e2, C2⟩ := w2 w' he
    obtain ⟨O2, K2, -⟩ := o2 w' he
    rw [hT] at C2 O2 K2
    have hx := O2.lt K2.1 (fl_mem h0)
    obtain ⟨h3, t3, q3, t3', r3, e3, C3⟩ := C2.to (d := d + 5) K2.1
    obtain ⟨h4, e4, C4⟩ := C3.c46 (d := d + 3) (s := w'.1) rfl hx
    have C4 : CA z sl M pm (kSt T w'.1 w'.2.1) Q (Y.1, Y.2.1, H2) ([], [], pth X.1, pth X.2.1) w' h4 := C4
    have hr9 : (kSt T w'.1 w'.2.1).2.2.2.2.2 = tel w'.2.2.1 ((T.1 w'.1).2.1 w'.2.2.1) := by
      unfold kSt
      rw [oST_ok K2]; rfl
    have hg3 : w'.2.2.1 < 300 := by
      have h1 := (O2.1 w'.1 K2.1).2.2.2.1 _ _ K2.2.1
      have h2 := (O2.1 w'.1 K2.1).2.1
      omega
    have e5 := C4.m10 (d := d + 5) (j := 0) (by rw [hr9, tel_n]; decide)
    rw [hr9, tel_0] at e5
    have e6 := C4.m12 (d := d + 4) (j := 5) (by rw [hr9, tel_n]; decide) (nI w'.2.2.1) (by rw [hr9]; exact tel_5 _ _)
    rw [un4_ok _ hg3] at e6
    have e5 : ag_run gT (d + 6) 10 [.inr (some (5 + 9 * w'.1)), .inl (nI 7)] h4 = some (.inl (some (.inl (bI ((T.1 w'.1).2.1 w'.2.2.1).2.1))), h4) := e5
    have e6 : ag_run gT (d + 6) 12 [.inr (some (5 + 9 * w'.1)), .inl (nI 12)] h4 = some (.inl (some (.inl (nI w'.2.2.1))), h4) := e6
    obtain ⟨h7, e7, C7⟩ := C4.go (d := d + 2) K2.1 hx
    refine ⟨h7, H2, ?_, C7⟩
    rw [e2, b_V, C2.g9, C2.a0, e3, b_R, C3.g10, C3.as K2.1, e4, b_I, C4.q1 K2.1, C4.am K2.1, e5, b_I, C4.q1 K2.1, C4.am K2.1, e6, b_I, C4.g9, C4.g10, C4.a0, e7, b_V, C7.g9, ← K2.2.2.1]
    rfl
end RWS

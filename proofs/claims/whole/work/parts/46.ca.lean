/-! THE CLASS AS A WHOLE: what its objects hold. S the servers, the latest of them and the latest messages; Q the processes' name spaces; Y the places, the open files, the handle where a walk stands; X the texts and paths; W where a walk stands; M the rows of the reference -/
abbrev zS : Type := (Nat → zV) × Nat × Int32 × List Int32 × Int32 × List Int32
abbrev zU : Type := Bool × zO
abbrev zY : Type := (Nat → List zP) × (Nat → Nat → zU) × List zM
abbrev zX : Type := List Nat × List Nat × Option (List Nat) × Option (List Nat)
abbrev zW : Type := Nat × Nat × Nat × Bool
def CU (I : Nat → Nat → Int32) (b : Nat) (u : zU) : Prop := I b 1 = bI u.1 ∧ CH I (b + 1) u.2.1 ∧ I b 2 = nI u.2.2.1 ∧ I b 3 = nI u.2.2.2.1 ∧ I b 4 = nI u.2.2.2.2.1 ∧ I b 5 = nI u.2.2.2.2.2
def usr (Q : Nat → Option Nat) (j : Nat) : Nat := ((List.range 4).filter fun p => decide (Q p = some j)).length
def AD (z : Nat) (ad : Nat → Nat → Nat) (V : Nat → zV) : Prop := (∀ s i, s < 2 → i < (V s).1 → (ad s i = 9 + 9 * s ∨ 263 ≤ ad s i) ∧ ad s i + 1 < z) ∧ ∀ s t i j, s < 2 → t < 2 → i < (V s).1 → j < (V t).1 → ¬ (s = t ∧ i = j) → ad s i ≠ ad t j ∧ ad s i ≠ ad t j + 1
def K2 (z : Nat) (kd ln : Nat → Nat) (I : Nat → Nat → Int32) (R : Nat → Nat → Option Nat) (ad : Nat → Nat → Nat) (S : zS) : Prop :=
  (∀ s, s < 2 → SB kd ln I R (2 + 9 * s) (ad s) (S.1 s)) ∧ AD z ad S.1 ∧ S.2.1 < 2 ∧ I 0 8 = nI S.2.1 ∧ (∃ c, MM I (3 + 9 * S.2.1) S.2.2.1 S.2.2.2.1 c) ∧ ∃ c, MM I (5 + 9 * S.2.1) S.2.2.2.2.1 S.2.2.2.2.2 c
def K5 (kd : Nat → Nat) (I : Nat → Nat → Int32) (R : Nat → Nat → Option Nat) (pm : Nat → Nat → Nat) (P : Nat → List zP) : Prop := ∀ j, j < 4 → CN kd I R (34 + 49 * j) (pm j) (P j)
def K6 (I : Nat → Nat → Int32) (R : Nat → Nat → Option Nat) (Q : Nat → Option Nat) : Prop := ∀ p, p < 4 → R (56 + 49 * p) 1 = (Q p).map (fun j => 34 + 49 * j) ∧ (∀ j, Q p = some j → j < 4) ∧ I (34 + 49 * p) 2 = nI (usr Q p)
def K7 (I : Nat → Nat → Int32) (O : Nat → Nat → zU) : Prop := ∀ p f, p < 4 → f < 5 → CU I (58 + 49 * p + 5 * f) (O p f)
def K8 (I : Nat → Nat → Int32) (X : zX) : Prop := CT I 22 X.1 ∧ CT I 24 X.2.1 ∧ CPt I 26 X.2.2.1 ∧ CPt I 28 X.2.2.2
def K9 (I : Nat → Nat → Int32) (W : zW) : Prop := I 0 9 = nI W.1 ∧ I 0 10 = nI W.2.1 ∧ I 0 11 = nI W.2.2.1 ∧ I 0 12 = bI W.2.2.2
def CB (z : Nat) (kd ln : Nat → Nat) (I : Nat → Nat → Int32) (R : Nat → Nat → Option Nat) (ad : Nat → Nat → Nat) (M : Nat → Nat → Int32) (pm : Nat → Nat → Nat) (S : zS) (Q : Nat → Option Nat) (Y : zY) (X : zX) (W : zW) : Prop :=
  WS kd ln R ∧ 263 ≤ z ∧ (∀ b, z ≤ b → kd b = 999) ∧ K2 z kd ln I R ad S ∧ K5 kd I R pm Y.1 ∧ K6 I R Q ∧ K7 I Y.2.1 ∧ K8 I X ∧ K9 I W ∧ CH I 30 Y.2.2 ∧ ∀ b j, 230 ≤ b → b < 262 → I b j = M b j
def CA (z sl : Nat) (M : Nat → Nat → Int32) (pm : Nat → Nat → Nat) (S : zS) (Q : Nat → Option Nat) (Y : zY) (X : zX) (W : zW) (h : ag_H) : Prop :=
  ∃ kd ln I R ad, h = hp z sl kd ln I R ∧ CB z kd ln I R ad M pm S Q Y X W
def lad (pm : Nat → Nat → Nat) (L : Nat × Nat × Nat) : Nat := match L with
  | (0, _, _) => 30
  | (1, j, k) => 37 + 49 * j + 5 * pm j k
  | (_, p, f) => 59 + 49 * p + 5 * f
def lms (Y : zY) (L : Nat × Nat × Nat) : List zM := match L with
  | (0, _, _) => Y.2.2
  | (1, j, k) => ((Y.1 j).getD k dP).2
  | (_, p, f) => (Y.2.1 p f).2.1
def lset (Y : zY) (L : Nat × Nat × Nat) (ms : List zM) : zY := match L with
  | (0, _, _) => (Y.1, Y.2.1, ms)
  | (1, j, k) => (up1 Y.1 j ((Y.1 j).set k (((Y.1 j).getD k dP).1, ms)), Y.2.1, Y.2.2)
  | (_, p, f) => (Y.1, up2 Y.2.1 p f ((Y.2.1 p f).1, ms, (Y.2.1 p f).2.2), Y.2.2)
def LV (Y : zY) (L : Nat × Nat × Nat) : Prop := (∃ j k, L = (0, j, k)) ∨ (∃ j k, L = (1, j, k) ∧ j < 4 ∧ k < (Y.1 j).length) ∨ ∃ p f, L = (2, p, f) ∧ p < 4 ∧ f < 5
section CA1
variable {z sl d : Nat} {kd ln : Nat → Nat} {I I' : Nat → Nat → Int32} {R R' : Nat → Nat → Option Nat} {ad : Nat → Nat → Nat} {M : Nat → Nat → Int32} {pm : Nat → Nat → Nat} {S : zS} {Q : Nat → Option Nat} {Y : zY} {X : zX} {W : zW} {h : ag_H}
theorem kd0_s : ∀ s, s < 2 → kd0 (2 + 9 * s) = 7 ∧ kd0 (3 + 9 * s) = 1 ∧ kd0 (5 + 9 * s) = 1 := by decide
theorem kd0_n : ∀ j, j < 4 → kd0 (34 + 49 * j) = 2 ∧ kd0 (56 + 49 * j) = 6 := by decide
theorem kd0_u : ∀ p, p < 4 → ∀ f, f < 5 → kd0 (58 + 49 * p + 5 * f) = 3 := by decide
theorem SB.congr {a : Nat} {ad : Nat → Nat} {V : zV} (hS : SB kd ln I R a ad V) (hI : ∀ b j, a ≤ b → b ≤ a + 6 → I' b j = I b j) (hT : ∀ i j, i < V.1 → I' (ad i) j = I (ad i) j ∧ I' (ad i + 1) j = I (ad i + 1) j) (hR : ∀ j, R' (a + 5) j = R (a + 5) j ∧ R' (a + 6) j = R (a + 6) j) : SB kd ln I' R' a ad V := by
  obtain ⟨⟨v1, v2, v3, v4, v5, v6, v7⟩, ⟨t, q, m1, m2, m3, m4⟩, t', r, c, n1, n2, n3, n4⟩ := hS
  refine ⟨⟨v1, v2, by rw [hI _ _ (by omega) (by omega)]; exact v3, by rw [hI _ _ (by omega) (by omega)]; exact v4, fun i hi => by rw [(hR i).1]; exact v5 i hi, fun i hi => by rw [(hR i).2]; exact v6 i hi, fun i hi => ?_⟩, ⟨t, q, by rw [hI _ _ (by omega) (by omega)]; exact m1, by rw [hI _ _ (by omega) (by omega)]; exact m2, fun i hi => by rw [hI _ _ (by omega) (by omega)]; exact m3 i hi, m4⟩, t', r, c, by rw [hI _ _ (by omega) (by omega)]; exact n1, by rw [hI _ _ (by omega) (by omega)]; exact n2, fun i hi => by rw [hI _ _ (by omega) (by omega)]; exact n3 i hi, n4⟩
  obtain ⟨f0, f1, f2, f3, f4, f5, f6, f7, f8, f9⟩ := v7 i hi
  have e : ∀ j, I' (ad i) j = I (ad i) j := fun j => (hT i j hi).1
  exact ⟨f0, by rw [e]; exact f1, by rw [e]; exact f2, fun h => by rw [e]; exact f3 h, by rw [e]; exact f4, by rw [e]; exact f5, by rw [e]; exact f6, by rw [e]; exact f7, f8, fun p hp => by rw [(hT i p hi).2]; exact f9 p hp⟩
theorem K2.congr (h2 : K2 z kd ln I R ad S) (hI : ∀ b j, (2 ≤ b ∧ b < 20) ∨ 263 ≤ b → I' b j = I b j) (h8 : I' 0 8 = I 0 8) (hR : ∀ b j, b < 20 → R' b j = R b j) : K2 z kd ln I' R' ad S := by
  obtain ⟨a1, a2, a3, a4, ⟨c1, m1, m2, m3, m4⟩, c2, n1, n2, n3, n4⟩ := h2
  refine ⟨fun s hs => (a1 s hs).congr (fun b j _ _ => hI b j (by omega)) (fun i j hi => ?_) (fun j => ⟨hR _ _ (by omega), hR _ _ (by omega)⟩), a2, a3, by rw [h8]; exact a4, ⟨c1, by rw [hI _ _ (by omega)]; exact m1, by rw [hI _ _ (by omega)]; exact m2, fun i hi => by rw [hI _ _ (by omega)]; exact m3 i hi, m4⟩, c2, by rw [hI _ _ (by omega)]; exact n1, by rw [hI _ _ (by omega)]; exact n2, fun i hi => by rw [hI _ _ (by omega)]; exact n3 i hi, n4⟩
  have := (a2.1 s i hs hi).1
  exact ⟨hI _ _ (by omega), hI _ _ (by omega)⟩
theorem K5.congr {P : Nat → List zP} (h5 : K5 kd I R pm P) (hI : ∀ j b i, j < 4 → 34 + 49 * j ≤ b → b ≤ 55 + 49 * j → I' b i = I b i) (hR : ∀ j i, j < 4 → R' (35 + 49 * j) i = R (35 + 49 * j) i) : K5 kd I' R' pm P :=
  fun j hj => (h5 j hj).congr (fun x i _ _ => hI j x i hj (by omega) (by omega)) (fun i => by rw [show 34 + 49 * j + 1 = 35 + 49 * j by omega]; exact hR j i hj)
theorem K6.congr (h6 : K6 I R Q) (hI : ∀ p, p < 4 → I' (34 + 49 * p) 2 = I (34 + 49 * p) 2) (hR : ∀ p, p < 4 → R' (56 + 49 * p) 1 = R (56 + 49 * p) 1) : K6 I' R' Q :=
  fun p hp => ⟨by rw [hR p hp]; exact (h6 p hp).1, (h6 p hp).2.1, by rw [hI p hp]; exact (h6 p hp).2.2⟩
theorem CU.congr {b : Nat} {u : zU} (hu : CU I b u) (hI : ∀ x i, b ≤ x → x ≤ b + 4 → I' x i = I x i) : CU I' b u :=
  ⟨by rw [hI _ _ (by omega) (by omega)]; exact hu.1, hu.2.1.congr fun x i _ _ => hI x i (by omega) (by omega), by rw [hI _ _ (by omega) (by omega)]; exact hu.2.2.1, by rw [hI _ _ (by omega) (by omega)]; exact hu.2.2.2.1, by rw [hI _ _ (by omega) (by omega)]; exact hu.2.2.2.2.1, by rw [hI _ _ (by omega) (by omega)]; exact hu.2.2.2.2.2⟩
theorem K7.congr {O : Nat → Nat → zU} (h7 : K7 I O) (hI : ∀ p b i, p < 4 → 58 + 49 * p ≤ b → b ≤ 82 + 49 * p → I' b i = I b i) : K7 I' O :=
  fun p f hp hf => (h7 p f hp hf).congr fun x i _ _ => hI p x i hp (by omega) (by omega)
theorem K8.congr (h8 : K8 I X) (hI : ∀ b i, 22 ≤ b → b ≤ 29 → I' b i = I b i) : K8 I' X :=
  ⟨h8.1.congr fun x i _ _ => hI x i (by omega) (by omega), h8.2.1.congr fun x i _ _ => hI x i (by omega) (by omega), h8.2.2.1.congr fun x i _ _ => hI x i (by omega) (by omega), h8.2.2.2.congr fun x i _ _ => hI x i (by omega) (by omega)⟩
theorem K9.congr (h9 : K9 I W) (hI : ∀ i, I' 0 i = I 0 i) : K9 I' W :=
  ⟨by rw [hI]; exact h9.1, by rw [hI]; exact h9.2.1, by rw [hI]; exact h9.2.2.1, by rw [hI]; exact h9.2.2.2⟩
/-- a server's message -/
theorem CB.so (hC : CB z kd ln I R ad M pm S Q Y X W) {s : Nat} (hs : S.2.1 = s) {V' : zV} {tq tr : Nat} {q r : List Int32} (hO : SO kd ln I I' R R' (2 + 9 * s) (ad s) (S.1 s) V' tq q tr r) (hV : V'.1 = (S.1 s).1) : CB z kd ln I' R' ad M pm (up1 S.1 s V', s, nI tq, q, nI tr, r) Q Y X W := by
  obtain ⟨w, hz, hz9, ⟨a1, a2, a3, a4, -, -⟩, h5, h6, h7, h8, h9, h10, h11⟩ := hC
  obtain ⟨w', cv, mq, ⟨rc, mr⟩, fI, fR⟩ := hO
  have hs2 : s < 2 := by omega
  have fI2 : ∀ b j, (b < 2 + 9 * s ∨ 8 + 9 * s < b) → b ≠ 9 + 9 * s → b ≠ 10 + 9 * s → b < 263 → I' b j = I b j := fun b j hb h1 h2 h3 => fI b j (by omega) fun i hi => by
    have := (a2.1 s i hs2 hi).1
    omega
  have fR2 : ∀ b j, b ≠ 7 + 9 * s → b ≠ 8 + 9 * s → R' b j = R b j := fun b j h1 h2 => fR b j (by omega) (by omega)
  refine ⟨w', hz, hz9, ⟨fun t ht => ?_, ⟨fun t i ht hi => ?_, fun t u i j ht hu hi hj hne => ?_⟩, hs2, ?_, ⟨V'.2.2.2, ?_⟩, rc, ?_⟩, h5.congr (fun j b i hj _ _ => fI2 b i (by omega) (by omega) (by omega) (by omega)) (fun j i hj => fR2 _ _ (by omega) (by omega)), h6.congr (fun p hp => fI2 _ _ (by omega) (by omega) (by omega) (by omega)) (fun p hp => fR2 _ _ (by omega) (by omega)), h7.congr (fun p b i hp _ _ => fI2 b i (by omega) (by omega) (by omega) (by omega)), h8.congr (fun b i _ _ => fI2 b i (by omega) (by omega) (by omega) (by omega)), h9.congr (fun i => fI2 0 i (by omega) (by omega) (by omega) (by omega)), h10.congr (fun b i _ _ => fI2 b i (by omega) (by omega) (by omega) (by omega)), fun b j h1 h2 => by rw [fI2 b j (by omega) (by omega) (by omega) (by omega)]; exact h11 b j h1 h2⟩
  · show SB kd ln I' R' (2 + 9 * t) (ad t) (up1 S.1 s V' t)
    by_cases e : t = s
    · subst e
      rw [up1_eq]
      exact ⟨cv, ⟨_, _, mq⟩, _, _, _, mr⟩
    · rw [up1_ne e]
      refine (a1 t ht).congr (fun b j _ _ => fI2 b j (by omega) (by omega) (by omega) (by omega)) (fun i j hi => ?_) (fun j => ⟨fR2 _ _ (by omega) (by omega), fR2 _ _ (by omega) (by omega)⟩)
      have h1 := (a2.1 t i ht hi).1
      have h2 : ∀ k, k < (S.1 s).1 → ad t i ≠ ad s k ∧ ad t i ≠ ad s k + 1 ∧ ad s k ≠ ad t i + 1 := fun k hk => ⟨(a2.2 t s i k ht hs2 hi hk (by omega)).1, (a2.2 t s i k ht hs2 hi hk (by omega)).2, (a2.2 s t k i hs2 ht hk hi (by omega)).2⟩
      exact ⟨fI _ _ (by omega) fun k hk => ⟨(h2 k hk).1, (h2 k hk).2.1⟩, fI _ _ (by omega) fun k hk => ⟨fun h => (h2 k hk).2.2 h.symm, fun h => (h2 k hk).1 (by omega)⟩⟩
  · have : (up1 S.1 s V' t).1 = (S.1 t).1 := by
      by_cases e : t = s
      · subst e; rw [up1_eq]; exact hV
      · rw [up1_ne e]
    exact a2.1 t i ht (by rw [← this]; exact hi)
  · have hh : ∀ t, (up1 S.1 s V' t).1 = (S.1 t).1 := fun t => by
      by_cases e : t = s
      · subst e; rw [up1_eq]; exact hV
      · rw [up1_ne e]
    exact a2.2 t u i j ht hu (by rw [← hh]; exact hi) (by rw [← hh]; exact hj) hne
  · show I' 0 8 = nI s
    rw [fI2 0 8 (by omega) (by omega) (by omega) (by omega), a4, hs]
  · rw [show 3 + 9 * s = 2 + 9 * s + 1 by omega]; exact mq
  · rw [show 5 + 9 * s = 2 + 9 * s + 3 by omega]; exact mr
end CA1

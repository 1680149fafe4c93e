/-! THE MEANING: a server. A file: is it there, a directory, its letter, the directory in which it is, its bytes, its version. A server: the next serial, files by serial, what the handles stand for, how many messages it got -/
abbrev zF : Type := Bool × Bool × Nat × Option Nat × List Int32 × Int32
abbrev zV : Type := Nat × (Nat → zF) × (Nat → Option Nat) × Int32
def bI (b : Bool) : Int32 := bif b then nI 1 else nI 0
def pI (p : Option Nat) : Int32 := match p with
  | none => -1
  | some g => nI g
def vlv (V : zV) : List Nat := (List.range V.1).filter fun i => (V.2.1 i).1
def vin (V : zV) (g c : Nat) : Option Nat := (vlv V).find? fun i => decide ((V.2.1 i).2.2.2.1 = some g) && Nat.beq (V.2.1 i).2.2.1 c
def vls (V : zV) (g k : Nat) : Option Nat := (((vlv V).filter fun i => decide ((V.2.1 i).2.2.2.1 = some g))[k]?).map fun i => (V.2.1 i).2.2.1
def vfr (V : zV) : Option Nat := (List.range 128).find? fun h => (V.2.2.1 h).isNone
def vus (V : zV) : Nat := ((List.range 128).filter fun h => (V.2.2.1 h).isSome).length
def FW (f : zF) : Prop := f.2.2.1 < 8 ∧ (∀ p, f.2.2.2.1 = some p → p < 300) ∧ f.2.2.2.2.1.length ≤ (bif f.2.1 then 0 else 8) ∧ ∀ b ∈ f.2.2.2.2.1, ∃ n, n < 256 ∧ b = nI n
def VW (V : zV) : Prop := 1 ≤ V.1 ∧ V.1 ≤ 250 ∧ (vlv V).length ≤ 20 ∧ (∀ h i, V.2.2.1 h = some i → i < V.1) ∧ (∀ h, 128 ≤ h → V.2.2.1 h = none) ∧ (∀ i, i < V.1 → FW (V.2.1 i)) ∧ (V.2.1 0).2.1 = true ∧ (V.2.1 0).2.2.2.1 = none ∧ (V.2.1 0).1 = true ∧ ∀ i, i < V.1 → ∀ p, (V.2.1 i).2.2.2.1 = some p → p < V.1 ∧ (V.2.1 p).2.1 = true
/-- a file and a server as the class keeps them -/
def CF (kd ln : Nat → Nat) (I : Nat → Nat → Int32) (b i : Nat) (f : zF) : Prop :=
  kd b = 9 ∧ I b 0 = nI i ∧ I b 1 = pI f.2.2.2.1 ∧ (f.2.2.2.1 ≠ none → I b 2 = nI (97 + f.2.2.1)) ∧ I b 3 = bI f.2.1 ∧ I b 5 = nI f.2.2.2.2.1.length ∧ I b 6 = f.2.2.2.2.2 ∧ I b 7 = bI (!f.1) ∧ ln (b + 1) = (bif f.2.1 then 0 else 8) ∧
  ∀ p, p < f.2.2.2.2.1.length → I (b + 1) p = f.2.2.2.2.1.getD p 0
def CV (kd ln : Nat → Nat) (I : Nat → Nat → Int32) (R : Nat → Nat → Option Nat) (a : Nat) (ad : Nat → Nat) (V : zV) : Prop :=
  kd a = 7 ∧ VW V ∧ I a 4 = nI (vlv V).length ∧ I a 5 = nI V.1 ∧ (∀ i, i < (vlv V).length → R (a + 5) i = some (ad ((vlv V).getD i 0))) ∧ (∀ h, h < 128 → R (a + 6) h = (V.2.2.1 h).map ad) ∧ ∀ i, i < V.1 → CF kd ln I (ad i) i (V.2.1 i)
theorem vlv_mem {V : zV} {x : Nat} (h : x ∈ vlv V) : x < V.1 ∧ (V.2.1 x).1 = true := by
  unfold vlv at h
  rw [List.mem_filter, List.mem_range] at h
  exact h
theorem pI_eq {p : Option Nat} {g : Nat} (hp : ∀ x, p = some x → x < 300) (hg : g < 300) : pI p = nI g ↔ p = some g := by
  cases p with
  | none =>
    refine ⟨fun h => ?_, fun h => by cases h⟩
    have h : (-1 : Int32) = nI g := h
    have := nI_pos (n := g) (by omega)
    rw [← h] at this
    exact absurd (by decide) this
  | some x =>
    have := hp x rfl
    show nI x = nI g ↔ _
    rw [nI_eq (by omega) (by omega)]
    exact ⟨fun h => by rw [h], fun h => Option.some.inj h⟩
theorem bI_0 (b : Bool) : bI b = nI 0 ↔ b = false := by
  cases b <;> decide
theorem getD_mem {L : List Nat} {k : Nat} (h : k < L.length) : L.getD k 0 ∈ L := by
  rw [List.getD_eq_getElem?_getD, List.getElem?_eq_getElem h]
  exact List.getElem_mem h
theorem drop_getD {L : List Nat} {k : Nat} (h : k < L.length) : L.drop k = L.getD k 0 :: L.drop (k + 1) := by
  rw [List.drop_eq_getElem_cons h, List.getD_eq_getElem?_getD, List.getElem?_eq_getElem h]
  rfl
section SRV
variable {z sl d : Nat} {kd ln : Nat → Nat} {I : Nat → Nat → Int32} {R : Nat → Nat → Option Nat} {a : Nat} {ad : Nat → Nat} {V : zV}
theorem s35_2 (W : WS kd ln R) (hk : kd a = 7) {H : Nat → Option Nat} (hH : ∀ h, h < 128 → R (a + 6) h = (H h).map ad) : ∀ (m k n : Nat), k + m = 128 →
    g35 (ag_run gT d) (n + m + 1) (some a) (nI k) (hp z sl kd ln I R) = some (.inl (some (.inl (pI ((List.range' k m).find? fun h => (H h).isNone)))), hp z sl kd ln I R) := by
  obtain ⟨k1, k3, k5, l5, k6, l6, r1, r2, r3, r4⟩ := W_7 W hk
  intro m
  induction m with
  | zero =>
    intro k n h
    have : k = 128 := by omega
    subst this
    show f35_2 _ _ _ _ _ = _
    unfold f35_2
    rw [lit16_128, if_pos (nI_le (Nat.le_refl _) (by omega)), lit_m]
    rfl
  | succ m ih =>
    intro k n h
    rw [show n + (m + 1) + 1 = (n + m + 1) + 1 by omega]
    show f35_2 _ _ _ _ _ = _
    unfold f35_2
    rw [lit16_128, if_neg (nI_ge (by omega) (by omega))]
    simp (disch := first | assumption | decide | omega) only [x_gR W, r4, x_xR, hH k (by omega), lit_1, nI_add]
    rw [List.range'_succ, List.find?_cons]
    cases hh : H k with
    | none => rfl
    | some x => exact ih (k + 1) n (by omega)
theorem s35 (W : WS kd ln R) (hV : CV kd ln I R a ad V) : ag_run gT (d + 1) 35 [.inr (some a)] (hp z sl kd ln I R) = some (.inl (some (.inl (pI (vfr V)))), hp z sl kd ln I R) := by
  rw [r35]
  unfold f35
  rw [lit_0]
  have := s35_2 (z := z) (sl := sl) (d := d) (I := I) W hV.1 hV.2.2.2.2.2.1 128 0 3871 (by omega)
  rw [← List.range_eq_range'] at this
  exact this
theorem s36_4 (W : WS kd ln R) (hk : kd a = 7) {H : Nat → Option Nat} (hH : ∀ h, h < 128 → R (a + 6) h = (H h).map ad) : ∀ (m k n u : Nat), k + m = 128 →
    g36 (ag_run gT d) (n + m + 1) (some a) (nI u) (nI k) (hp z sl kd ln I R) = some (.inl (some (.inl (nI (u + ((List.range' k m).filter fun h => (H h).isSome).length)))), hp z sl kd ln I R) := by
  obtain ⟨k1, k3, k5, l5, k6, l6, r1, r2, r3, r4⟩ := W_7 W hk
  intro m
  induction m with
  | zero =>
    intro k n u h
    have : k = 128 := by omega
    subst this
    show f36_4 _ _ _ _ _ _ = _
    unfold f36_4
    rw [lit16_128, if_pos (nI_le (Nat.le_refl _) (by omega))]
    rfl
  | succ m ih =>
    intro k n u h
    rw [show n + (m + 1) + 1 = (n + m + 1) + 1 by omega]
    show f36_4 _ _ _ _ _ _ = _
    unfold f36_4 f36_23
    rw [lit16_128, if_neg (nI_ge (by omega) (by omega))]
    simp (disch := first | assumption | decide | omega) only [x_gR W, r4, x_xR, hH k (by omega), lit_1, nI_add]
    rw [List.range'_succ, List.filter_cons]
    cases hh : H k with
    | none => exact ih (k + 1) n u (by omega)
    | some x =>
      have := ih (k + 1) n (u + 1) (by omega)
      rw [show u + 1 + ((List.range' (k + 1) m).filter fun h => (H h).isSome).length = u + (((List.range' (k + 1) m).filter fun h => (H h).isSome).length + 1) by omega] at this
      exact this
theorem s36 (W : WS kd ln R) (hV : CV kd ln I R a ad V) : ag_run gT (d + 1) 36 [.inr (some a)] (hp z sl kd ln I R) = some (.inl (some (.inl (nI (vus V)))), hp z sl kd ln I R) := by
  rw [r36]
  unfold f36
  rw [lit_0]
  have := s36_4 (z := z) (sl := sl) (d := d) (I := I) W hV.1 hV.2.2.2.2.2.1 128 0 3871 0 (by omega)
  rw [← List.range_eq_range', Nat.zero_add] at this
  exact this
theorem s51 (W : WS kd ln R) (hV : CV kd ln I R a ad V) {h : Nat} (hh : h < 128) : ag_run gT (d + 1) 51 [.inr (some a), .inl (nI h)] (hp z sl kd ln I R) = some (.inl (some (.inr ((V.2.2.1 h).map ad))), hp z sl kd ln I R) := by
  obtain ⟨k1, k3, k5, l5, k6, l6, r1, r2, r3, r4⟩ := W_7 W hV.1
  have hk := hV.1
  rw [r51]
  unfold f51 f51_20 f51_21
  rw [lit_0, lit16_128, if_neg (nI_nlt (Nat.zero_le _) (by omega)), if_neg (nI_ge (by omega) (by omega))]
  simp (disch := first | assumption | decide | omega) only [x_gR W, r4, x_xR, hV.2.2.2.2.2.1 h hh]
theorem s52 (W : WS kd ln R) (hk : kd a = 7) {h : Nat} (hh : h < 128) {o : Option Nat} (ho : ∀ b, o = some b → kd b = 9) : ag_run gT (d + 1) 52 [.inr (some a), .inl (nI h), .inr o] (hp z sl kd ln I R) = some (.inl none, hp z sl kd ln I (up2 R (a + 6) h o)) := by
  obtain ⟨k1, k3, k5, l5, k6, l6, r1, r2, r3, r4⟩ := W_7 W hk
  rw [r52]
  unfold f52 f52_18
  rw [lit_0, lit16_128, if_neg (nI_nlt (Nat.zero_le _) (by omega)), if_neg (nI_ge (by omega) (by omega))]
  simp (disch := first | assumption | decide | omega) only [x_gR W, r4]
  cases o with
  | none =>
    rw [b_on]
    simp (disch := first | assumption | decide | omega) only [x_yR]
  | some b =>
    rw [b_os, x_atW (ho b rfl) rfl]
    simp (disch := first | assumption | decide | omega) only [x_yR]
/-- the file of a letter in a directory -/
theorem s53_2 (W : WS kd ln R) (hk : kd a = 7) {L : List Nat} (hL : ∀ i, i < L.length → R (a + 5) i = some (ad (L.getD i 0))) (hLn : I a 4 = nI L.length) (hl : L.length ≤ 20) {F : Nat → zF} (hF : ∀ x ∈ L, CF kd ln I (ad x) x (F x) ∧ FW (F x)) {b g c : Nat} (hb : kd b = 9) (hg : I b 0 = nI g) (hg3 : g < 300) (hc : c < 8) : ∀ (m k n : Nat), k + m = L.length →
    g53 (ag_run gT d) (n + m + 1) (some a) (some b) (nI (97 + c)) (nI k) (hp z sl kd ln I R) = some (.inl (some (.inr (((L.drop k).find? fun i => decide ((F i).2.2.2.1 = some g) && Nat.beq (F i).2.2.1 c).map ad))), hp z sl kd ln I R) := by
  obtain ⟨k1, k3, k5, l5, k6, l6, r1, r2, r3, r4⟩ := W_7 W hk
  intro m
  induction m with
  | zero =>
    intro k n h
    show f53_2 _ _ _ _ _ _ _ = _
    unfold f53_2
    rw [x_gI W hk rfl, hLn, if_pos (nI_le (by omega) (by omega)), List.drop_eq_nil_of_le (by omega)]
    rfl
  | succ m ih =>
    intro k n h
    have hkl : k < L.length := by omega
    obtain ⟨⟨f0, f1, f2, f3, -⟩, w1, w2, -⟩ := hF _ (getD_mem hkl)
    rw [show n + (m + 1) + 1 = (n + m + 1) + 1 by omega]
    show f53_2 _ _ _ _ _ _ _ = _
    unfold f53_2 f53_46
    rw [x_gI W hk rfl, hLn, if_neg (nI_ge (by omega) (by omega))]
    rw [drop_getD hkl, List.find?_cons]
    have hr5 := hL k hkl
    generalize L.getD k 0 = x at *
    simp (disch := first | assumption | decide | omega) only [x_gR W, r3, x_xR, hr5, x_gI W, f2, hg, lit_1, nI_add]
    by_cases e1 : (F x).2.2.2.1 = some g
    · rw [if_pos ((pI_eq w2 hg3).mpr e1), f3 (by rw [e1]; exact Option.some_ne_none _)]
      by_cases e2 : (F x).2.2.1 = c
      · rw [if_pos (by rw [e2])]
        have : (decide ((F x).2.2.2.1 = some g) && Nat.beq (F x).2.2.1 c) = true := by
          rw [decide_eq_true e1, e2]; simp
        rw [this]; rfl
      · rw [if_neg (by rw [nI_eq (by omega) (by omega)]; omega)]
        have : (decide ((F x).2.2.2.1 = some g) && Nat.beq (F x).2.2.1 c) = false := by
          rw [decide_eq_true e1, Bool.true_and]
          cases hb : Nat.beq (F x).2.2.1 c
          · rfl
          · exact absurd (Nat.eq_of_beq_eq_true hb) e2
        rw [this]; exact ih (k + 1) n (by omega)
    · rw [if_neg (fun h9 => e1 ((pI_eq w2 hg3).mp h9))]
      have : (decide ((F x).2.2.2.1 = some g) && Nat.beq (F x).2.2.1 c) = false := by
        rw [decide_eq_false e1]; rfl
      rw [this]; exact ih (k + 1) n (by omega)
theorem s53 (W : WS kd ln R) (hV : CV kd ln I R a ad V) {g c : Nat} (hg : g < V.1) (hc : c < 8) : ag_run gT (d + 1) 53 [.inr (some a), .inr (some (ad g)), .inl (nI (97 + c))] (hp z sl kd ln I R) = some (.inl (some (.inr ((vin V g c).map ad))), hp z sl kd ln I R) := by
  obtain ⟨v1, v2, v3, v4, v5, v6, v7⟩ := hV
  rw [r53]
  unfold f53
  rw [lit_0]
  have h250 := v2.2.1
  have h20 := v2.2.2.1
  have := s53_2 (z := z) (sl := sl) (d := d)  W v1 v5 v3 h20 (F := V.2.1) (fun x hx => ⟨v7 x (vlv_mem hx).1, v2.2.2.2.2.2.1 x (vlv_mem hx).1⟩) (v7 g hg).1 (v7 g hg).2.1 (by omega) hc (vlv V).length 0 (3999 - (vlv V).length) (by omega)
  rw [show 3999 - (vlv V).length + (vlv V).length + 1 = 4000 by omega] at this
  exact this
end SRV

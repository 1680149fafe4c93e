/-! SERVERS of the class: asking and replying; lists of files -/
def tel (i : Nat) (f : zF) : List Int32 := le (bI f.2.1) 1 ++ le f.2.2.2.2.2 4 ++ le (nI i) 4
def err (e : Nat) : List Int32 := le (nI 1) 2 ++ le (nI e) 1
section ASK
variable {z sl d : Nat} {kd ln : Nat → Nat} {I I' : Nat → Nat → Int32} {R : Nat → Nat → Option Nat} {a : Nat} {ad : Nat → Nat} {V : zV} {c t : Int32} {pl : List Int32}
theorem CV.fm (W : WS kd ln R) (hV : CV kd ln I R a ad V) {m : Nat} (hm : m = a + 1 ∨ m = a + 3) (f : Fm m I I') : CV kd ln I' R a ad V := by
  obtain ⟨k1, k3, -⟩ := W_7 W hV.1
  have q1 := (W_1 W k1).1
  have q3 := (W_1 W k3).1
  obtain ⟨v1, v2, v3, v4, v5, v6, v7⟩ := hV
  refine ⟨v1, v2, by rw [f _ _ (by omega) (by omega)]; exact v3, by rw [f _ _ (by omega) (by omega)]; exact v4, v5, v6, fun i hi => ?_⟩
  obtain ⟨f0, f1, f2, f3, f4, f5, f6, f7, f8, f9⟩ := v7 i hi
  have n1 : ad i ≠ m := by rintro h; rw [h] at f0; rcases hm with rfl | rfl <;> omega
  have n2 : ad i ≠ m + 1 := by
    rintro h; rw [h] at f0
    rcases hm with rfl | rfl
    · rw [show a + 1 + 1 = (a + 1) + 1 from rfl] at f0; omega
    · rw [show a + 3 + 1 = (a + 3) + 1 from rfl] at f0; omega
  have n3 : ad i + 1 ≠ m := by
    rintro h
    rcases hm with rfl | rfl
    · have : ad i = a := by omega
      rw [this] at f0; omega
    · have : ad i = a + 1 + 1 := by omega
      rw [this] at f0; omega
  have n4 : ad i + 1 ≠ m + 1 := by omega
  have e : ∀ j, I' (ad i) j = I (ad i) j := fun j => f _ _ n1 n2
  refine ⟨f0, by rw [e]; exact f1, by rw [e]; exact f2, fun h => by rw [e]; exact f3 h, by rw [e]; exact f4, by rw [e]; exact f5, by rw [e]; exact f6, by rw [e]; exact f7, f8, fun p hp => by rw [f _ _ n3 n4]; exact f9 p hp⟩
theorem s47 (W : WS kd ln R) (hk : kd a = 7) {t0 : Int32} (h : MM I (a + 1) t0 pl c) (t v : Int32) : ∃ I', ag_run gT (d + 2) 47 [.inr (some a), .inl t, .inl v] (hp z sl kd ln I R) = some (.inl none, hp z sl kd ln I' R) ∧ MM I' (a + 1) t (le v 4) (c + nI 1) ∧ Fm (a + 1) I I' := by
  obtain ⟨k1, k3, k5, l5, k6, l6, r1, r2, r3, r4⟩ := W_7 W hk
  obtain ⟨I1, e1, m1, f1⟩ := s8 (z := z) (sl := sl) (d := d) W k1 h t
  obtain ⟨I2, e2, m2, f2⟩ := s9 (z := z) (sl := sl) (d := d) W k1 m1 v 4 (by omega) (by simp)
  refine ⟨I2, ?_, m2, f1.trans f2⟩
  rw [r47]
  unfold f47
  simp (disch := first | assumption | decide | omega) only [x_gR W, r1, x_atW, e1, e2, b_V, lit_4]
theorem s48 (W : WS kd ln R) (hk : kd a = 7) {t0 : Int32} (h : MM I (a + 3) t0 pl c) (t : Int32) : ∃ I', ag_run gT (d + 2) 48 [.inr (some a), .inl t] (hp z sl kd ln I R) = some (.inl (some (.inl (nI 0))), hp z sl kd ln I' R) ∧ MM I' (a + 3) (t + nI 1) [] (c + nI 1) ∧ Fm (a + 3) I I' := by
  obtain ⟨k1, k3, k5, l5, k6, l6, r1, r2, r3, r4⟩ := W_7 W hk
  obtain ⟨I1, e1, m1, f1⟩ := s8 (z := z) (sl := sl) (d := d) W k3 h (t + nI 1)
  refine ⟨I1, ?_, m1, f1⟩
  rw [r48]
  unfold f48
  simp (disch := first | assumption | decide | omega) only [x_gR W, r2, x_atW, e1, b_V, lit_1, lit_0, b_Cn]
theorem s49 (W : WS kd ln R) (hV : CV kd ln I R a ad V) {t0 : Int32} (h : MM I (a + 3) t0 pl c) (t : Int32) {i : Nat} (hi : i < V.1) : ∃ I', ag_run gT (d + 2) 49 [.inr (some a), .inl t, .inr (some (ad i))] (hp z sl kd ln I R) = some (.inl (some (.inl (nI 0))), hp z sl kd ln I' R) ∧ MM I' (a + 3) (t + nI 1) (tel i (V.2.1 i)) (c + nI 1) ∧ Fm (a + 3) I I' := by
  have hk := hV.1
  obtain ⟨k1, k3, k5, l5, k6, l6, r1, r2, r3, r4⟩ := W_7 W hk
  obtain ⟨I1, e1, m1, f1⟩ := s8 (z := z) (sl := sl) (d := d) W k3 h (t + nI 1)
  have V1 := hV.fm W (Or.inr rfl) f1
  obtain ⟨I2, e2, m2, f2⟩ := s9 (z := z) (sl := sl) (d := d) W k3 m1 (bI (V.2.1 i).2.1) 1 (by omega) (by simp)
  have V2 := V1.fm W (Or.inr rfl) f2
  obtain ⟨I3, e3, m3, f3⟩ := s9 (z := z) (sl := sl) (d := d) W k3 m2 (V.2.1 i).2.2.2.2.2 4 (by omega) (by simp [le])
  have V3 := V2.fm W (Or.inr rfl) f3
  obtain ⟨I4, e4, m4, f4⟩ := s9 (z := z) (sl := sl) (d := d) W k3 m3 (nI i) 4 (by omega) (by simp [le])
  obtain ⟨q0, q1, q2, q3, q4, q5, q6, -⟩ := V1.2.2.2.2.2.2 i hi
  obtain ⟨-, -, -, -, -, -, p6, -⟩ := V2.2.2.2.2.2.2 i hi
  obtain ⟨-, w1, -⟩ := V3.2.2.2.2.2.2 i hi
  refine ⟨I4, ?_, m4, ((f1.trans f2).trans f3).trans f4⟩
  rw [r49]
  unfold f49 f49_26
  simp (disch := first | assumption | decide | omega) only [x_gR W, r2, x_atW, e1, b_V, lit_1, lit_0, lit_4, x_gI W, q4, p6, w1, b_Cn]
  cases hd : (V.2.1 i).2.1
  · have e2' : ag_run gT (d + 1) 9 [.inr (some (a + 3)), .inl (nI 0), .inl (nI 1)] (hp z sl kd ln I1 R) = some (.inl none, hp z sl kd ln I2 R) := by rw [hd] at e2; exact e2
    rw [if_pos (show bI false = nI 0 from rfl)]
    simp (disch := first | assumption | decide | omega) only [e2', e3, e4, b_V, x_gR W, r2, x_atW, x_gI W, p6, w1]
  · have e2' : ag_run gT (d + 1) 9 [.inr (some (a + 3)), .inl (nI 1), .inl (nI 1)] (hp z sl kd ln I1 R) = some (.inl none, hp z sl kd ln I2 R) := by rw [hd] at e2; exact e2
    rw [if_neg (show ¬ bI true = nI 0 by decide)]
    simp (disch := first | assumption | decide | omega) only [e2', e3, e4, b_V, x_gR W, r2, x_atW, x_gI W, p6, w1]
theorem s50 (W : WS kd ln R) (hk : kd a = 7) {t0 : Int32} (h : MM I (a + 3) t0 pl c) {e : Nat} (he : e < 65536) : ∃ I', ag_run gT (d + 2) 50 [.inr (some a), .inl (nI e)] (hp z sl kd ln I R) = some (.inl (some (.inl (nI e))), hp z sl kd ln I' R) ∧ MM I' (a + 3) (nI 107) (err e) (c + nI 1) ∧ Fm (a + 3) I I' := by
  obtain ⟨k1, k3, k5, l5, k6, l6, r1, r2, r3, r4⟩ := W_7 W hk
  obtain ⟨I1, e1, m1, f1⟩ := s8 (z := z) (sl := sl) (d := d) W k3 h (nI 107)
  obtain ⟨I2, e2, m2, f2⟩ := s9 (z := z) (sl := sl) (d := d) W k3 m1 (nI 1) 2 (by omega) (by simp)
  obtain ⟨I3, e3, m3, f3⟩ := s9 (z := z) (sl := sl) (d := d) W k3 m2 (nI e) 1 (by omega) (by simp [le])
  refine ⟨I3, ?_, m3, (f1.trans f2).trans f3⟩
  rw [r50]
  unfold f50
  simp (disch := first | assumption | decide | omega) only [x_gR W, r2, x_atW, e1, e2, e3, b_V, lit_1, lit_2, lit8_107, b_Cn]
/-- the letter at a place of a directory -/
theorem s54_5 (W : WS kd ln R) (hk : kd a = 7) {L : List Nat} (hL : ∀ i, i < L.length → R (a + 5) i = some (ad (L.getD i 0))) (hLn : I a 4 = nI L.length) (hl : L.length ≤ 20) {F : Nat → zF} (hF : ∀ x ∈ L, CF kd ln I (ad x) x (F x) ∧ FW (F x)) {b g q : Nat} (hb : kd b = 9) (hg : I b 0 = nI g) (hg3 : g < 300) (hq : q < 2 ^ 30) : ∀ (m k n u : Nat), k + m = L.length → u ≤ k → u ≤ q →
    g54 (ag_run gT d) (n + m + 1) (some a) (some b) (nI q) (nI u) (nI k) (hp z sl kd ln I R) = some (.inl (some (.inl (match ((L.drop k).filter fun i => decide ((F i).2.2.2.1 = some g))[q - u]? with
      | some x => nI (97 + (F x).2.2.1)
      | none => -1))), hp z sl kd ln I R) := by
  obtain ⟨k1, k3, k5, l5, k6, l6, r1, r2, r3, r4⟩ := W_7 W hk
  intro m
  induction m with
  | zero =>
    intro k n u h hu hq2
    show f54_5 _ _ _ _ _ _ _ _ = _
    unfold f54_5
    rw [x_gI W hk rfl, hLn, if_pos (nI_le (by omega) (by omega)), List.drop_eq_nil_of_le (by omega), lit_m]
    rfl
  | succ m ih =>
    intro k n u h hu hq2
    have hkl : k < L.length := by omega
    obtain ⟨⟨f0, f1, f2, f3, -⟩, w1, w2, -⟩ := hF _ (getD_mem hkl)
    rw [show n + (m + 1) + 1 = (n + m + 1) + 1 by omega]
    show f54_5 _ _ _ _ _ _ _ _ = _
    unfold f54_5 f54_50
    rw [x_gI W hk rfl, hLn, if_neg (nI_ge (by omega) (by omega))]
    rw [drop_getD hkl, List.filter_cons]
    have hr5 := hL k hkl
    generalize L.getD k 0 = x at *
    simp (disch := first | assumption | decide | omega) only [x_gR W, r3, x_xR, hr5, x_gI W, f2, hg, lit_1, nI_add]
    by_cases e1 : (F x).2.2.2.1 = some g
    · rw [if_pos ((pI_eq w2 hg3).mpr e1), f3 (by rw [e1]; exact Option.some_ne_none _), if_pos (decide_eq_true e1)]
      by_cases e2 : u = q
      · rw [if_pos (by rw [e2]), e2, Nat.sub_self]
        rfl
      · rw [if_neg (by rw [nI_eq (by omega) (by omega)]; omega), ih (k + 1) n (u + 1) (by omega) (by omega) (by omega)]
        rw [show q - u = (q - (u + 1)) + 1 by omega, List.getElem?_cons_succ]
    · rw [if_neg (fun h9 => e1 ((pI_eq w2 hg3).mp h9)), if_neg (by simpa using e1)]
      exact ih (k + 1) n u (by omega) (by omega) hq2
theorem s54 (W : WS kd ln R) (hV : CV kd ln I R a ad V) {g q : Nat} (hg : g < V.1) (hq : q < 2 ^ 30) : ag_run gT (d + 1) 54 [.inr (some a), .inr (some (ad g)), .inl (nI q)] (hp z sl kd ln I R) = some (.inl (some (.inl (pI ((vls V g q).map fun l => 97 + l)))), hp z sl kd ln I R) := by
  obtain ⟨v1, v2, v3, v4, v5, v6, v7⟩ := hV
  rw [r54]
  unfold f54
  rw [lit_0]
  have h250 := v2.2.1
  have h20 := v2.2.2.1
  have := s54_5 (z := z) (sl := sl) (d := d) W v1 v5 v3 h20 (F := V.2.1) (fun x hx => ⟨v7 x (vlv_mem hx).1, v2.2.2.2.2.2.1 x (vlv_mem hx).1⟩) (v7 g hg).1 (v7 g hg).2.1 (by omega) hq (vlv V).length 0 (3999 - (vlv V).length) 0 (by omega) (by omega) (by omega)
  rw [show 3999 - (vlv V).length + (vlv V).length + 1 = 4000 by omega] at this
  refine this.trans ?_
  unfold vls
  rw [List.drop_zero, Nat.sub_zero]
  cases ((vlv V).filter fun i => decide ((V.2.1 i).2.2.2.1 = some g))[q]? <;> rfl
theorem s61 (W : WS kd ln R) {b i : Nat} {f : zF} (hF : CF kd ln I b i f) (hw : FW f) (hd : f.2.1 = false) {q : Nat} (hq : q < 2 ^ 30) : ag_run gT (d + 1) 61 [.inr (some b), .inl (nI q)] (hp z sl kd ln I R) = some (.inl (some (.inl (if q < f.2.2.2.2.1.length then f.2.2.2.2.1.getD q 0 else -1))), hp z sl kd ln I R) := by
  obtain ⟨f0, f1, f2, f3, f4, f5, f6, f7, f8, f9⟩ := hF
  obtain ⟨w1, w2, w3, w4⟩ := hw
  obtain ⟨k1, r1⟩ := W_9 W f0
  rw [hd] at f8 w3
  have f8 : ln (b + 1) = 8 := f8
  have w3 : f.2.2.2.2.1.length ≤ 8 := w3
  rw [r61]
  unfold f61 f61_30 f61_31
  rw [lit_0, if_neg (nI_nlt (Nat.zero_le _) (by omega))]
  simp (disch := first | assumption | decide | omega) only [x_gI W, f5]
  by_cases h : q < f.2.2.2.2.1.length
  · rw [if_neg (nI_ge h (by omega)), if_pos h]
    simp (disch := first | assumption | decide | omega) only [x_gR W, r1]
    rw [x_xN0 k1 (by decide) (by omega), f8, if_neg (nI_ge (by omega) (by omega))]
    simp (disch := first | assumption | decide | omega) only [x_xI, f9 q h]
  · rw [if_pos (nI_le (by omega) (by omega)), if_neg h, lit_m]
end ASK

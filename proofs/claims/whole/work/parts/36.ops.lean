/-! SERVERS of the class: the messages that make no file, change no file -/
def setH (V : zV) (h : Nat) (o : Option Nat) : zV := (V.1, V.2.1, up1 V.2.2.1 h o, V.2.2.2)
def inc (V : zV) : zV := (V.1, V.2.1, V.2.2.1, V.2.2.2 + nI 1)
def SB (kd ln : Nat → Nat) (I : Nat → Nat → Int32) (R : Nat → Nat → Option Nat) (a : Nat) (ad : Nat → Nat) (V : zV) : Prop :=
  CV kd ln I R a ad V ∧ (∃ t q, MM I (a + 1) t q V.2.2.2) ∧ ∃ t r c, MM I (a + 3) t r c
def SO (kd ln : Nat → Nat) (I I' : Nat → Nat → Int32) (R R' : Nat → Nat → Option Nat) (a : Nat) (ad : Nat → Nat) (V V' : zV) (tq : Nat) (q : List Int32) (tr : Nat) (r : List Int32) : Prop :=
  WS kd ln R' ∧ CV kd ln I' R' a ad V' ∧ MM I' (a + 1) (nI tq) q V'.2.2.2 ∧ (∃ rc, MM I' (a + 3) (nI tr) r rc) ∧ (∀ b j, (b < a ∨ a + 6 < b) → (∀ i, i < V.1 → b ≠ ad i ∧ b ≠ ad i + 1) → I' b j = I b j) ∧ ∀ b j, b ≠ a + 5 → b ≠ a + 6 → R' b j = R b j
/-- what WALK with a name, OPEN, STAT, READ answer: an error's letter, or a file (a byte) -/
def oWN (V : zV) (h c : Nat) : Nat ⊕ Nat := match V.2.2.1 h with
  | none => .inl 110
  | some i => bif (V.2.1 i).1 then (bif (V.2.1 i).2.1 then (match vin V i c with
      | none => .inl 110
      | some g => .inr g) else .inl 100) else .inl 110
def oOP (V : zV) (h m : Nat) : Nat ⊕ Nat := match V.2.2.1 h with
  | none => .inl 110
  | some i => bif (V.2.1 i).1 then (bif (V.2.1 i).2.1 && !Nat.beq m 0 then .inl 112 else .inr i) else .inl 110
def oST (V : zV) (h : Nat) : Nat ⊕ Nat := match V.2.2.1 h with
  | none => .inl 110
  | some i => bif (V.2.1 i).1 then .inr i else .inl 110
/-- what is read at a place of a file -/
def vby (V : zV) (i q : Nat) : Option Int32 := bif (V.2.1 i).2.1 then (vls V i q).map fun l => nI (97 + l) else if q < (V.2.1 i).2.2.2.2.1.length then some ((V.2.1 i).2.2.2.2.1.getD q 0) else none
def oRD (V : zV) (h q : Nat) : Nat ⊕ Option Int32 := match V.2.2.1 h with
  | none => .inl 110
  | some i => bif (V.2.1 i).1 then .inr (vby V i q) else .inl 110
def eI {α : Type} (x : Nat ⊕ α) : Int32 := match x with
  | .inl e => nI e
  | .inr _ => nI 0
def rT {α : Type} (t : Nat) (x : Nat ⊕ α) : Nat := match x with
  | .inl _ => 107
  | .inr _ => t
def rF (V : zV) (x : Nat ⊕ Nat) : List Int32 := match x with
  | .inl e => err e
  | .inr g => tel g (V.2.1 g)
def rB (x : Nat ⊕ Option Int32) : List Int32 := match x with
  | .inl e => err e
  | .inr none => le (nI 0) 2
  | .inr (some b) => le (nI 1) 2 ++ le b 1
def wV (V : zV) (n : Nat) (x : Nat ⊕ Nat) : zV := match x with
  | .inl _ => V
  | .inr g => setH V n (some g)
section OPS
variable {z sl d : Nat} {kd ln : Nat → Nat} {I I1 I2 : Nat → Nat → Int32} {R R' : Nat → Nat → Option Nat} {a : Nat} {ad : Nat → Nat} {V V1 : zV}
theorem VW.setH (hw : VW V) {h : Nat} {o : Option Nat} (hh : h < 128) (ho : ∀ i, o = some i → i < V.1) : VW (setH V h o) := by
  obtain ⟨w1, w2, w3, w4, w5, w6⟩ := hw
  refine ⟨w1, w2, w3, fun h' i hi => ?_, fun h' h9 => ?_, w6⟩
  · have hi : (if h' = h then o else V.2.2.1 h') = some i := hi
    split at hi
    · exact ho i hi
    · exact w4 h' i hi
  · show (if h' = h then o else V.2.2.1 h') = none
    rw [if_neg (by omega)]
    exact w5 h' h9
theorem CV.stand (hV : CV kd ln I R a ad V) {h : Nat} {o : Option Nat} (hh : h < 128) (ho : ∀ i, o = some i → i < V.1) : CV kd ln I (up2 R (a + 6) h (o.map ad)) a ad (setH V h o) := by
  obtain ⟨v1, v2, v3, v4, v5, v6, v7⟩ := hV
  refine ⟨v1, v2.setH hh ho, v3, v4, fun i hi => ?_, fun h' hh' => ?_, v7⟩
  · rw [up2_na (by omega)]; exact v5 i hi
  · show _ = (if h' = h then o else V.2.2.1 h').map ad
    by_cases e : h' = h
    · subst e; rw [up2_eq, if_pos rfl]
    · rw [up2_ni e, if_neg e]; exact v6 h' hh'
theorem SO_of (W' : WS kd ln R') (hV1 : CV kd ln I1 R' a ad V1) {tq tr : Nat} {q r : List Int32} {rc : Int32} (hn : V1.2.2.2 = V.2.2.2) (m1 : MM I1 (a + 1) (nI tq) q (V.2.2.2 + nI 1)) (f1 : Fm (a + 1) I I1) (m2 : MM I2 (a + 3) (nI tr) r rc) (f2 : Fm (a + 3) I1 I2) (hR : ∀ b j, b ≠ a + 6 → R' b j = R b j) : SO kd ln I I2 R R' a ad V (inc V1) tq q tr r := by
  refine ⟨W', hV1.fm W' (Or.inr rfl) f2, ?_, ⟨rc, m2⟩, fun b j hb _ => ?_, fun b j _ h2 => hR b j h2⟩
  · show MM I2 (a + 1) (nI tq) q (V1.2.2.2 + nI 1)
    rw [hn]
    exact m1.fr f2 (by omega) (by omega) (by omega)
  · rw [f2 b j (by omega) (by omega), f1 b j (by omega) (by omega)]
theorem s44 (W : WS kd ln R) (hS : SB kd ln I R a ad V) {h : Nat} (hh : h < 128) : ∃ I' R', ag_run gT (d + 3) 44 [.inr (some a), .inl (nI h)] (hp z sl kd ln I R) = some (.inl none, hp z sl kd ln I' R') ∧ SO kd ln I I' R R' a ad V (inc (setH V h none)) 120 (le (nI h) 4) 121 [] := by
  obtain ⟨hV, ⟨tq, q, hq⟩, tr, r, rc, hr⟩ := hS
  have hk := hV.1
  obtain ⟨k1, k3, k5, l5, k6, l6, r1, r2, r3, r4⟩ := W_7 W hk
  obtain ⟨I1, e1, m1, f1⟩ := s47 (z := z) (sl := sl) (d := d) W hk hq (nI 120) (nI h)
  have V1 := hV.fm W (Or.inl rfl) f1
  have e2 := s52 (z := z) (sl := sl) (d := d + 1) (I := I1) W hk hh (o := none) (fun b h9 => by cases h9)
  have W2 : WS kd ln (up2 R (a + 6) h none) := W.up (by rw [k6]; rfl) (by omega)
  obtain ⟨I2, e3, m3, f3⟩ := s48 (z := z) (sl := sl) (d := d) (R := up2 R (a + 6) h none) W2 hk (hr.fr f1 (by omega) (by omega) (by omega)) (nI 120)
  refine ⟨I2, up2 R (a + 6) h none, ?_, SO_of W2 (V1.stand hh (o := none) (fun i h9 => by cases h9)) rfl m1 f1 (rc := rc + nI 1) m3 f3 (fun b j hb => up2_na hb)⟩
  rw [r44]
  unfold f44
  simp (disch := first | assumption | decide | omega) only [x_atW, lit8_120, e1, e2, e3, b_V, b_I]
theorem s38 (W : WS kd ln R) (hS : SB kd ln I R a ad V) {h n : Nat} (hh : h < 128) (hn : vfr V = some n) : ∃ I' R', ag_run gT (d + 3) 38 [.inr (some a), .inl (nI h)] (hp z sl kd ln I R) = some (.inl (some (.inl (nI n))), hp z sl kd ln I' R') ∧ SO kd ln I I' R R' a ad V (inc (setH V n (V.2.2.1 h))) 110 (le (nI h) 4 ++ le (nI n) 4 ++ le (nI 0) 2) 111 [] := by
  obtain ⟨hV, ⟨tq, q, hq⟩, tr, r, rc, hr⟩ := hS
  have hk := hV.1
  have hn8 : n < 128 := by
    unfold vfr at hn
    exact List.mem_range.mp (List.mem_of_find?_eq_some hn)
  obtain ⟨k1, k3, k5, l5, k6, l6, r1, r2, r3, r4⟩ := W_7 W hk
  have e0 := s35 (z := z) (sl := sl) (d := d + 1) W hV
  rw [hn] at e0
  have e0 : ag_run gT (d + 2) 35 [.inr (some a)] (hp z sl kd ln I R) = some (.inl (some (.inl (nI n))), hp z sl kd ln I R) := e0
  obtain ⟨I1, e1, m1, f1⟩ := s47 (z := z) (sl := sl) (d := d) W hk hq (nI 110) (nI h)
  obtain ⟨I2, e2, m2, f2⟩ := s9 (z := z) (sl := sl) (d := d + 1) W k1 m1 (nI n) 4 (by omega) (by simp [le])
  obtain ⟨I3, e3, m3, f3⟩ := s9 (z := z) (sl := sl) (d := d + 1) W k1 m2 (nI 0) 2 (by omega) (by simp [le])
  have f13 := (f1.trans f2).trans f3
  have V3 := hV.fm W (Or.inl rfl) f13
  have e4 := s51 (z := z) (sl := sl) (d := d + 1) W V3 hh
  have hst := hV.2.1.2.2.2.1 h
  have e5 := s52 (z := z) (sl := sl) (d := d + 1) (I := I3) W hk hn8 (o := (V.2.2.1 h).map ad) (fun b h9 => by
    cases hs : V.2.2.1 h with
    | none => rw [hs] at h9; cases h9
    | some i => rw [hs] at h9; cases h9; exact (hV.2.2.2.2.2.2 i (hst i hs)).1)
  have W2 : WS kd ln (up2 R (a + 6) n ((V.2.2.1 h).map ad)) := W.up (by rw [k6]; rfl) (by omega)
  obtain ⟨I4, e6, m6, f6⟩ := s48 (z := z) (sl := sl) (d := d) W2 hk (hr.fr f13 (by omega) (by omega) (by omega)) (nI 110)
  refine ⟨I4, _, ?_, SO_of W2 (V3.stand hn8 hst) rfl m3 f13 (rc := rc + nI 1) m6 f6 (fun b j hb => up2_na hb)⟩
  rw [r38]
  unfold f38
  simp (disch := first | assumption | decide | omega) only [x_atW, x_gR W, r1, lit8_110, lit_4, lit_0, lit_2, e0, e1, e2, e3, e4, e5, e6, b_V, b_I, b_R]
theorem vlv_0 (hw : VW V) : 0 < (vlv V).length ∧ (vlv V).getD 0 0 = 0 := by
  obtain ⟨n, hn⟩ : ∃ n, V.1 = n + 1 := ⟨V.1 - 1, by have := hw.1; omega⟩
  have h0 := hw.2.2.2.2.2.2.2.2.1
  unfold vlv
  rw [hn, List.range_succ_eq_map, List.filter_cons, if_pos h0]
  exact ⟨Nat.succ_pos _, rfl⟩
theorem s37 (W : WS kd ln R) (hS : SB kd ln I R a ad V) {h : Nat} (hh : h < 128) : ∃ I' R', ag_run gT (d + 3) 37 [.inr (some a), .inl (nI h)] (hp z sl kd ln I R) = some (.inl none, hp z sl kd ln I' R') ∧ SO kd ln I I' R R' a ad V (inc (setH V h (some 0))) 104 (le (nI h) 4) 105 (tel 0 (V.2.1 0)) := by
  obtain ⟨hV, ⟨tq, q, hq⟩, tr, r, rc, hr⟩ := hS
  have hk := hV.1
  have hw1 := hV.2.1.1
  obtain ⟨k1, k3, k5, l5, k6, l6, r1, r2, r3, r4⟩ := W_7 W hk
  obtain ⟨hl0, hl1⟩ := vlv_0 hV.2.1
  have h50 := hV.2.2.2.2.1 0 hl0
  rw [hl1] at h50
  obtain ⟨I1, e1, m1, f1⟩ := s47 (z := z) (sl := sl) (d := d) W hk hq (nI 104) (nI h)
  have V1 := hV.fm W (Or.inl rfl) f1
  have e2 := s52 (z := z) (sl := sl) (d := d + 1) (I := I1) W hk hh (o := some (ad 0)) (fun b h9 => by cases h9; exact (hV.2.2.2.2.2.2 0 (by omega)).1)
  have W2 : WS kd ln (up2 R (a + 6) h (some (ad 0))) := W.up (by rw [k6]; rfl) (by omega)
  have V2 := V1.stand hh (o := some 0) (fun i h9 => by cases h9; omega)
  obtain ⟨I2, e3, m3, f3⟩ := s49 (z := z) (sl := sl) (d := d) W2 V2 (hr.fr f1 (by omega) (by omega) (by omega)) (nI 104) (i := 0) (show 0 < V.1 by omega)
  have r3' : up2 R (a + 6) h (some (ad 0)) a 2 = some (a + 5) := by rw [up2_na (by omega)]; exact r3
  have h50' : up2 R (a + 6) h (some (ad 0)) (a + 5) 0 = some (ad 0) := by rw [up2_na (by omega)]; exact h50
  refine ⟨I2, _, ?_, SO_of W2 V2 rfl m1 f1 (rc := rc + nI 1) m3 f3 (fun b j hb => up2_na hb)⟩
  rw [r37]
  unfold f37
  simp (disch := first | assumption | decide | omega) only [x_atW, x_gR W, x_gR W2, x_xR, r3, r3', h50, h50', lit8_104, lit_0, e1, e2, e3, b_V, b_I]
theorem s46 (W : WS kd ln R) (hS : SB kd ln I R a ad V) {h : Nat} (hh : h < 128) : ∃ I' R', ag_run gT (d + 3) 46 [.inr (some a), .inl (nI h)] (hp z sl kd ln I R) = some (.inl (some (.inl (eI (oST V h)))), hp z sl kd ln I' R') ∧ SO kd ln I I' R R' a ad V (inc V) 124 (le (nI h) 4) (rT 125 (oST V h)) (rF V (oST V h)) := by
  obtain ⟨hV, ⟨tq, q, hq⟩, tr, r, rc, hr⟩ := hS
  have hk := hV.1
  obtain ⟨I1, e1, m1, f1⟩ := s47 (z := z) (sl := sl) (d := d) W hk hq (nI 124) (nI h)
  have V1 := hV.fm W (Or.inl rfl) f1
  have hr1 := hr.fr f1 (by omega) (by omega) (by omega)
  have e2 := s51 (z := z) (sl := sl) (d := d + 1) W V1 hh
  obtain ⟨Ie, ee, me, fe⟩ := s50 (z := z) (sl := sl) (d := d) W hk hr1 (e := 110) (by omega)
  have fin : ∀ {t : Nat} {l : List Int32} {I2 : Nat → Nat → Int32}, MM I2 (a + 3) (nI t) l (rc + nI 1) → Fm (a + 3) I1 I2 → SO kd ln I I2 R R a ad V (inc V) 124 (le (nI h) 4) t l := fun m f => SO_of W V1 rfl m1 f1 m f (fun _ _ _ => rfl)
  rw [r46]
  unfold f46 f46_24
  simp (disch := first | assumption | decide | omega) only [x_atW, lit8_124, lit8_110, lit_0, e1, e2, b_V, b_R]
  unfold oST
  cases hs : V.2.2.1 h with
  | none =>
    refine ⟨Ie, R, ?_, fin me fe⟩
    simp (disch := first | assumption | decide | omega) only [Option.map_none, if_true, ee, b_I, b_Cn]
    rfl
  | some i =>
    have hi := hV.2.1.2.2.2.1 h i hs
    obtain ⟨q0, q1, q2, q3, q4, q5, q6, q7, -⟩ := V1.2.2.2.2.2.2 i hi
    simp (disch := first | assumption | decide | omega) only [Option.map_some, reduceCtorEq, if_false, x_gI W, q7]
    cases ht : (V.2.1 i).1
    · refine ⟨Ie, R, ?_, fin me fe⟩
      rw [if_neg (by decide)]
      simp (disch := first | assumption | decide | omega) only [ee, b_I, b_Cn]
      rfl
    · obtain ⟨I2, e3, m3, f3⟩ := s49 (z := z) (sl := sl) (d := d) W V1 hr1 (nI 124) hi
      refine ⟨I2, R, ?_, fin m3 f3⟩
      rw [if_pos (by decide)]
      simp (disch := first | assumption | decide | omega) only [e3, b_I, b_Cn]
      rfl
end OPS

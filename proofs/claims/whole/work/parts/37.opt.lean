/-! SERVERS of the class: WALK with a name, OPEN, READ -/
section OPT
variable {z sl d : Nat} {kd ln : Nat → Nat} {I I1 I2 : Nat → Nat → Int32} {R R' : Nat → Nat → Option Nat} {a : Nat} {ad : Nat → Nat} {V V1 : zV}
theorem vin_lt {g c x : Nat} (h : vin V g c = some x) : x < V.1 := (vlv_mem (List.mem_of_find?_eq_some h)).1
theorem s39 (W : WS kd ln R) (hS : SB kd ln I R a ad V) {h n c : Nat} (hh : h < 128) (hn8 : n < 128) (hc : c < 8) : ∃ I' R', ag_run gT (d + 3) 39 [.inr (some a), .inl (nI h), .inl (nI n), .inl (nI (97 + c))] (hp z sl kd ln I R) = some (.inl (some (.inl (eI (oWN V h c)))), hp z sl kd ln I' R') ∧
    SO kd ln I I' R R' a ad V (inc (wV V n (oWN V h c))) 110 (le (nI h) 4 ++ le (nI n) 4 ++ le (nI 1) 2 ++ le (nI 1) 2 ++ le (nI (97 + c)) 1) (rT 111 (oWN V h c)) (rF V (oWN V h c)) := by
  obtain ⟨hV, ⟨tq, q, hq⟩, tr, r, rc, hr⟩ := hS
  have hk := hV.1
  obtain ⟨k1, k3, k5, l5, k6, l6, r1, r2, r3, r4⟩ := W_7 W hk
  obtain ⟨I1, e1, m1, f1⟩ := s47 (z := z) (sl := sl) (d := d) W hk hq (nI 110) (nI h)
  obtain ⟨I2, e2, m2, f2⟩ := s9 (z := z) (sl := sl) (d := d + 1) W k1 m1 (nI n) 4 (by omega) (by simp [le])
  obtain ⟨I3, e3, m3, f3⟩ := s9 (z := z) (sl := sl) (d := d + 1) W k1 m2 (nI 1) 2 (by omega) (by simp [le])
  obtain ⟨I4, e4, m4, f4⟩ := s9 (z := z) (sl := sl) (d := d + 1) W k1 m3 (nI 1) 2 (by omega) (by simp [le])
  obtain ⟨I5, e5, m5, f5⟩ := s9 (z := z) (sl := sl) (d := d + 1) W k1 m4 (nI (97 + c)) 1 (by omega) (by simp [le])
  have f15 := (((f1.trans f2).trans f3).trans f4).trans f5
  have V5 := hV.fm W (Or.inl rfl) f15
  have hr5 := hr.fr f15 (by omega) (by omega) (by omega)
  have e6 := s51 (z := z) (sl := sl) (d := d + 1) W V5 hh
  obtain ⟨Ie, ee, me, fe⟩ := s50 (z := z) (sl := sl) (d := d) W hk hr5 (e := 110) (by omega)
  obtain ⟨Id, ed, md, fd⟩ := s50 (z := z) (sl := sl) (d := d) W hk hr5 (e := 100) (by omega)
  have fin : ∀ {t : Nat} {l : List Int32} {I2 : Nat → Nat → Int32}, MM I2 (a + 3) (nI t) l (rc + nI 1) → Fm (a + 3) I5 I2 → SO kd ln I I2 R R a ad V (inc V) 110 (le (nI h) 4 ++ le (nI n) 4 ++ le (nI 1) 2 ++ le (nI 1) 2 ++ le (nI (97 + c)) 1) t l := fun m f => SO_of W V5 rfl m5 f15 m f (fun _ _ _ => rfl)
  rw [r39]
  unfold f39 f39_63
  rw [lit8_110, lit8_100, lit_0, lit_1, lit_2, lit_4, x_atW hk rfl, e1, b_V, x_gR W hk rfl, r1, x_atW k1 rfl, e2, b_V, x_gR W hk rfl, r1, x_atW k1 rfl, e3, b_V, x_gR W hk rfl, r1, x_atW k1 rfl, e4, b_V, x_gR W hk rfl, r1, x_atW k1 rfl, e5, b_V, x_atW hk rfl, e6, b_R]
  unfold oWN
  cases hs : V.2.2.1 h with
  | none =>
    refine ⟨Ie, R, ?_, fin me fe⟩
    simp (disch := first | assumption | decide | omega) only [Option.map_none, if_true, ee, b_I, b_Cn, x_atW]
    rfl
  | some i =>
    have hi := hV.2.1.2.2.2.1 h i hs
    obtain ⟨q0, q1, q2, q3, q4, q5, q6, q7, -⟩ := V5.2.2.2.2.2.2 i hi
    simp (disch := first | assumption | decide | omega) only [Option.map_some, reduceCtorEq, if_false, x_gI W, q7, q4]
    cases ht : (V.2.1 i).1
    · refine ⟨Ie, R, ?_, fin me fe⟩
      rw [if_neg (by decide)]
      simp (disch := first | assumption | decide | omega) only [ee, b_I, b_Cn, x_atW]
      rfl
    · rw [if_pos (by decide)]
      cases hd : (V.2.1 i).2.1
      · refine ⟨Id, R, ?_, fin md fd⟩
        rw [if_pos (by decide)]
        simp (disch := first | assumption | decide | omega) only [ed, b_I, b_Cn, x_atW]
        rfl
      · rw [if_neg (by decide)]
        have e7 := s53 (z := z) (sl := sl) (d := d + 1) W V5 hi hc
        simp (disch := first | assumption | decide | omega) only [e7, b_R, x_atW]
        cases hv : vin V i c with
        | none =>
          refine ⟨Ie, R, ?_, fin me fe⟩
          simp (disch := first | assumption | decide | omega) only [Option.map_none, if_true, ee, b_I, b_Cn, x_atW]
          rfl
        | some g =>
          have hg := vin_lt hv
          have e8 := s52 (z := z) (sl := sl) (d := d + 1) (I := I5) W hk hn8 (o := some (ad g)) (fun b h9 => by cases h9; exact (hV.2.2.2.2.2.2 g hg).1)
          have W2 : WS kd ln (up2 R (a + 6) n (some (ad g))) := W.up (by rw [k6]; rfl) (by omega)
          have V6 := V5.stand hn8 (o := some g) (fun i h9 => by cases h9; exact hg)
          obtain ⟨I7, e9, m9, f9⟩ := s49 (z := z) (sl := sl) (d := d) W2 V6 hr5 (nI 110) (i := g) hg
          refine ⟨I7, up2 R (a + 6) n (some (ad g)), ?_, SO_of W2 V6 rfl m5 f15 m9 f9 (fun b j hb => up2_na hb)⟩
          simp (disch := first | assumption | decide | omega) only [Option.map_some, reduceCtorEq, if_false, x_atW, e8, e9, b_V, b_I, b_Cn]
          rfl
theorem s40 (W : WS kd ln R) (hS : SB kd ln I R a ad V) {h m : Nat} (hh : h < 128) (hm : m < 3) : ∃ I' R', ag_run gT (d + 3) 40 [.inr (some a), .inl (nI h), .inl (nI m)] (hp z sl kd ln I R) = some (.inl (some (.inl (eI (oOP V h m)))), hp z sl kd ln I' R') ∧ SO kd ln I I' R R' a ad V (inc V) 112 (le (nI h) 4 ++ le (nI m) 1) (rT 113 (oOP V h m)) (rF V (oOP V h m)) := by
  obtain ⟨hV, ⟨tq, q, hq⟩, tr, r, rc, hr⟩ := hS
  have hk := hV.1
  obtain ⟨k1, k3, k5, l5, k6, l6, r1, r2, r3, r4⟩ := W_7 W hk
  obtain ⟨I1, e1, m1, f1⟩ := s47 (z := z) (sl := sl) (d := d) W hk hq (nI 112) (nI h)
  obtain ⟨I2, e2, m2, f2⟩ := s9 (z := z) (sl := sl) (d := d + 1) W k1 m1 (nI m) 1 (by omega) (by simp [le])
  have f12 := f1.trans f2
  have V2 := hV.fm W (Or.inl rfl) f12
  have hr2 := hr.fr f12 (by omega) (by omega) (by omega)
  have e3 := s51 (z := z) (sl := sl) (d := d + 1) W V2 hh
  obtain ⟨Ie, ee, me, fe⟩ := s50 (z := z) (sl := sl) (d := d) W hk hr2 (e := 110) (by omega)
  obtain ⟨Ip, ep, mp, fp⟩ := s50 (z := z) (sl := sl) (d := d) W hk hr2 (e := 112) (by omega)
  have fin : ∀ {t : Nat} {l : List Int32} {I3 : Nat → Nat → Int32}, MM I3 (a + 3) (nI t) l (rc + nI 1) → Fm (a + 3) I2 I3 → SO kd ln I I3 R R a ad V (inc V) 112 (le (nI h) 4 ++ le (nI m) 1) t l := fun m f => SO_of W V2 rfl m2 f12 m f (fun _ _ _ => rfl)
  rw [r40]
  unfold f40 f40_33 f40_58
  rw [lit8_110, lit8_112, lit_0, lit_1, x_atW hk rfl, e1, b_V, x_gR W hk rfl, r1, x_atW k1 rfl, e2, b_V, x_atW hk rfl, e3, b_R]
  unfold oOP
  cases hs : V.2.2.1 h with
  | none =>
    refine ⟨Ie, R, ?_, fin me fe⟩
    simp (disch := first | assumption | decide | omega) only [Option.map_none, if_true, ee, b_I, b_Cn, x_atW]
    rfl
  | some i =>
    have hi := hV.2.1.2.2.2.1 h i hs
    obtain ⟨q0, q1, q2, q3, q4, q5, q6, q7, -⟩ := V2.2.2.2.2.2.2 i hi
    obtain ⟨I3, e4, m4, f4⟩ := s49 (z := z) (sl := sl) (d := d) W V2 hr2 (nI 112) hi
    simp (disch := first | assumption | decide | omega) only [Option.map_some, reduceCtorEq, if_false, x_gI W, q7, q4]
    cases ht : (V.2.1 i).1
    · refine ⟨Ie, R, ?_, fin me fe⟩
      rw [if_neg (by decide)]
      simp (disch := first | assumption | decide | omega) only [ee, b_I, b_Cn, x_atW]
      rfl
    · rw [if_pos (by decide)]
      cases hd : (V.2.1 i).2.1
      · refine ⟨I3, R, ?_, fin m4 f4⟩
        rw [if_pos (by decide)]
        simp (disch := first | assumption | decide | omega) only [e4, b_I, b_Cn, x_atW]
        rfl
      · rw [if_neg (by decide)]
        have hm3 : m = 0 ∨ m = 1 ∨ m = 2 := by omega
        rcases hm3 with rfl | rfl | rfl
        · refine ⟨I3, R, ?_, fin m4 f4⟩
          simp (disch := first | assumption | decide | omega) only [if_true, e4, b_I, b_Cn, x_atW]
          rfl
        · refine ⟨Ip, R, ?_, fin mp fp⟩
          rw [if_neg (by decide)]
          simp (disch := first | assumption | decide | omega) only [ep, b_I, b_Cn, x_atW]
          rfl
        · refine ⟨Ip, R, ?_, fin mp fp⟩
          rw [if_neg (by decide)]
          simp (disch := first | assumption | decide | omega) only [ep, b_I, b_Cn, x_atW]
          rfl
theorem byte_ne {f : zF} (hw : FW f) {q : Nat} (hq : q < f.2.2.2.2.1.length) : f.2.2.2.2.1.getD q 0 ≠ -1 := by
  have h1 : f.2.2.2.2.1.getD q 0 ∈ f.2.2.2.2.1 := by
    rw [List.getD_eq_getElem?_getD, List.getElem?_eq_getElem hq]
    exact List.getElem_mem hq
  obtain ⟨n, hn, e⟩ := hw.2.2.2 _ h1
  rw [e]
  intro h9
  have := nI_pos (n := n) (by omega)
  rw [h9] at this
  exact this (by decide)
theorem nI_m1 {n : Nat} (h : n < 2 ^ 31) : nI n ≠ -1 := by
  intro h9
  have := nI_pos (n := n) h
  rw [h9] at this
  exact this (by decide)
def gI (x : Option Int32) : Int32 := match x with
  | none => -1
  | some b => b
theorem vby_ne (hw : VW V) {i q : Nat} (hi : i < V.1) {b : Int32} (h : vby V i q = some b) : b ≠ -1 := by
  unfold vby at h
  cases hd : (V.2.1 i).2.1
  · rw [hd] at h
    have h : (if q < (V.2.1 i).2.2.2.2.1.length then some ((V.2.1 i).2.2.2.2.1.getD q 0) else none) = some b := h
    split at h
    · rename_i hq
      cases h
      exact byte_ne (hw.2.2.2.2.2.1 i hi) hq
    · cases h
  · rw [hd] at h
    have h : (vls V i q).map (fun l => nI (97 + l)) = some b := h
    unfold vls at h
    cases hx : ((vlv V).filter fun i9 => decide ((V.2.1 i9).2.2.2.1 = some i))[q]? with
    | none => rw [hx] at h; cases h
    | some x =>
      rw [hx] at h
      cases h
      have hm := (List.mem_filter.mp (List.mem_of_getElem? hx)).1
      have := (hw.2.2.2.2.2.1 x (vlv_mem hm).1).1
      show nI (97 + (V.2.1 x).2.2.1) ≠ -1
      exact nI_m1 (by omega)
theorem s42 (W : WS kd ln R) (hS : SB kd ln I R a ad V) {h q : Nat} (hh : h < 128) (hq : q < 2 ^ 30) : ∃ I' R', ag_run gT (d + 3) 42 [.inr (some a), .inl (nI h), .inl (nI q)] (hp z sl kd ln I R) = some (.inl (some (.inl (eI (oRD V h q)))), hp z sl kd ln I' R') ∧ SO kd ln I I' R R' a ad V (inc V) 116 (le (nI h) 4 ++ le (nI q) 4) (rT 117 (oRD V h q)) (rB (oRD V h q)) := by
  obtain ⟨hV, ⟨tq, q9, hq9⟩, tr, r, rc, hr⟩ := hS
  have hk := hV.1
  obtain ⟨k1, k3, k5, l5, k6, l6, r1, r2, r3, r4⟩ := W_7 W hk
  obtain ⟨I1, e1, m1, f1⟩ := s47 (z := z) (sl := sl) (d := d) W hk hq9 (nI 116) (nI h)
  obtain ⟨I2, e2, m2, f2⟩ := s9 (z := z) (sl := sl) (d := d + 1) W k1 m1 (nI q) 4 (by omega) (by simp [le])
  have f12 := f1.trans f2
  have V2 := hV.fm W (Or.inl rfl) f12
  have hr2 := hr.fr f12 (by omega) (by omega) (by omega)
  have e3 := s51 (z := z) (sl := sl) (d := d + 1) W V2 hh
  obtain ⟨Ie, ee, me, fe⟩ := s50 (z := z) (sl := sl) (d := d) W hk hr2 (e := 110) (by omega)
  have fin : ∀ {t : Nat} {l : List Int32} {I3 : Nat → Nat → Int32}, MM I3 (a + 3) (nI t) l (rc + nI 1) → Fm (a + 3) I2 I3 → SO kd ln I I3 R R a ad V (inc V) 116 (le (nI h) 4 ++ le (nI q) 4) t l := fun m f => SO_of W V2 rfl m2 f12 m f (fun _ _ _ => rfl)
  rw [r42]
  unfold f42 f42_33 f42_61 f42_85 f42_105
  rw [lit8_110, lit8_116, lit_0, lit_1, lit_2, lit_4, lit_m, x_atW hk rfl, e1, b_V, x_gR W hk rfl, r1, x_atW k1 rfl, e2, b_V, x_atW hk rfl, e3, b_R]
  unfold oRD
  cases hs : V.2.2.1 h with
  | none =>
    refine ⟨Ie, R, ?_, fin me fe⟩
    simp (disch := first | assumption | decide | omega) only [Option.map_none, if_true, ee, b_I, b_Cn, x_atW]
    rfl
  | some i =>
    have hi := hV.2.1.2.2.2.1 h i hs
    obtain ⟨q0, q1, q2, q3, q4, q5, q6, q7, -⟩ := V2.2.2.2.2.2.2 i hi
    simp (disch := first | assumption | decide | omega) only [Option.map_some, reduceCtorEq, if_false, x_gI W, q7, q4]
    cases ht : (V.2.1 i).1
    · refine ⟨Ie, R, ?_, fin me fe⟩
      rw [if_neg (by decide)]
      simp (disch := first | assumption | decide | omega) only [ee, b_I, b_Cn, x_atW]
      rfl
    · rw [if_pos (by decide)]
      -- what both roads do with what was got
      obtain ⟨I3, e4, m4, f4⟩ := s48 (z := z) (sl := sl) (d := d) W hk hr2 (nI 116)
      have body : ∀ x : Option Int32, x = vby V i q → ∃ I' R', (ag_bI (ag_run gT (d + 2) 48 [.inr (some a), .inl (nI 116)] (hp z sl kd ln I2 R)) fun x3 h2 =>
          ag_gR h2 (some a) 7 1 fun x4 => if gI x = -1 then ag_at h2 x4 1 fun a1 _ => ag_bV (ag_run gT (d + 2) 9 [.inr (some a1), .inl (nI 0), .inl (nI 2)] h2) fun h2 => if gI x = -1 then ag_isC (nI 0) (some (.inl (some (.inl (nI 0))), h2)) else ag_gR h2 (some a) 7 1 fun x3 => ag_at h2 x3 1 fun a4 _ => ag_bV (ag_run gT (d + 2) 9 [.inr (some a4), .inl (gI x), .inl (nI 1)] h2) fun h5 => ag_isC (nI 0) (some (.inl (some (.inl (nI 0))), h5))
            else ag_at h2 x4 1 fun a1 _ => ag_bV (ag_run gT (d + 2) 9 [.inr (some a1), .inl (nI 1), .inl (nI 2)] h2) fun h2 => if gI x = -1 then ag_isC (nI 0) (some (.inl (some (.inl (nI 0))), h2)) else ag_gR h2 (some a) 7 1 fun x3 => ag_at h2 x3 1 fun a4 _ => ag_bV (ag_run gT (d + 2) 9 [.inr (some a4), .inl (gI x), .inl (nI 1)] h2) fun h5 => ag_isC (nI 0) (some (.inl (some (.inl (nI 0))), h5))) = some (.inl (some (.inl (nI 0))), hp z sl kd ln I' R') ∧ SO kd ln I I' R R' a ad V (inc V) 116 (le (nI h) 4 ++ le (nI q) 4) 117 (rB (.inr x)) := by
        intro x hx
        rw [e4, b_I]
        cases x with
        | none =>
          obtain ⟨I4, e5, m5, f5⟩ := s9 (z := z) (sl := sl) (d := d + 1) W k3 m4 (nI 0) 2 (by omega) (by simp)
          refine ⟨I4, R, ?_, fin m5 (f4.trans f5)⟩
          simp (disch := first | assumption | decide | omega) only [x_gR W, r2, show gI none = -1 from rfl, if_true, x_atW, e5, b_V, b_Cn]
        | some b =>
          have hb : b ≠ -1 := vby_ne hV.2.1 hi hx.symm
          obtain ⟨I4, e5, m5, f5⟩ := s9 (z := z) (sl := sl) (d := d + 1) W k3 m4 (nI 1) 2 (by omega) (by simp)
          obtain ⟨I5, e6, m6, f6⟩ := s9 (z := z) (sl := sl) (d := d + 1) W k3 m5 b 1 (by omega) (by simp [le])
          refine ⟨I5, R, ?_, fin m6 ((f4.trans f5).trans f6)⟩
          simp (disch := first | assumption | decide | omega) only [x_gR W, r2, show gI (some b) = b from rfl, if_neg hb, x_atW, e5, e6, b_V, b_Cn]
      cases hd : (V.2.1 i).2.1
      · rw [if_pos (by decide)]
        have e5 := s61 (z := z) (sl := sl) (d := d + 1) W (V2.2.2.2.2.2.2 i hi) (hV.2.1.2.2.2.2.2.1 i hi) hd hq
        have e6 : (if q < (V.2.1 i).2.2.2.2.1.length then (V.2.1 i).2.2.2.2.1.getD q 0 else -1) = gI (vby V i q) := by
          unfold vby
          rw [hd]
          show _ = gI (if q < (V.2.1 i).2.2.2.2.1.length then some ((V.2.1 i).2.2.2.2.1.getD q 0) else none)
          split <;> rfl
        rw [e6] at e5
        simp (disch := first | assumption | decide | omega) only [e5, b_I, x_atW]
        exact body _ rfl
      · rw [if_neg (by decide)]
        have e5 := s54 (z := z) (sl := sl) (d := d + 1) W V2 hi hq
        have e6 : pI ((vls V i q).map fun l => 97 + l) = gI (vby V i q) := by
          unfold vby
          rw [hd]
          show _ = gI ((vls V i q).map fun l => nI (97 + l))
          cases vls V i q <;> rfl
        rw [e6] at e5
        simp (disch := first | assumption | decide | omega) only [e5, b_I, x_atW]
        exact body _ rfl
end OPT

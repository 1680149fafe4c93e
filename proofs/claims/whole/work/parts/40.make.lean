/-! SERVERS of the class: CREATE -/
def newF (V : zV) (h i c : Nat) (dir : Bool) : zV := (V.1 + 1, up1 V.2.1 V.1 (true, dir, c, some i, [], nI 0), up1 V.2.2.1 h (some V.1), V.2.2.2)
def oMK (V : zV) (h c : Nat) : Nat ⊕ Nat := match V.2.2.1 h with
  | none => .inl 110
  | some i => bif (V.2.1 i).1 then (bif (V.2.1 i).2.1 then (bif (vin V i c).isSome then .inl 120 else (bif Nat.ble 20 (vlv V).length then .inl 102 else .inr i)) else .inl 100) else .inl 110
/-- what makeFile does behind its message -/
def f41_k (call : Nat → List ag_V → ag_H → ag_R) (a h c : Nat) (dir : Bool) (h2 : ag_H) : ag_R :=
      ag_at h2 (some a) 7 fun a3 _ => ag_bR (call 51 [.inr (some a3), .inl (nI h)] h2) fun x5 h4 =>
      if x5 = none then f41_62 call (some a) h4 else
      ag_gI h4 x5 9 7 fun x6 => if x6 = nI 0 then ag_gI h4 x5 9 3 fun x7 => if x7 = nI 0 then
        ag_at h4 (some a) 7 fun a35 _ => ag_bI (call 50 [.inr (some a35), .inl (nI 100)] h4) fun x37 h36 => ag_isC x37 (some (.inl (some (.inl x37)), h36))
      else ag_at h4 (some a) 7 fun a8 _ => ag_bR (call 53 [.inr (some a8), .inr x5, .inl (nI (97 + c))] h4) fun x10 h9 =>
        if x10 = none then ag_gI h9 (some a) 7 4 fun x11 => if x11 < nI 20 then
            ag_nw h9 9 fun o12 h13 =>
            ag_gI h13 (some a) 7 5 fun x14 =>
            ag_gI h13 x5 9 0 fun x15 =>
            ag_nn o12 <| ag_bW (call 60 [.inr o12, .inl x14, .inl x15, .inl (nI (97 + c)), .inl (bI dir)] h13) fun h16 =>
            ag_gR h16 (some a) 7 2 fun x17 =>
            ag_gI h16 (some a) 7 4 fun x18 =>
            ag_oK h16 o12 9 <| ag_xP h16 x17 106 x18 (.inr o12) fun h19 =>
            ag_gI h19 (some a) 7 4 fun x20 =>
            ag_pF h19 (some a) 7 4 (.inl (x20 + nI 1)) fun h21 =>
            ag_gI h21 (some a) 7 5 fun x22 =>
            ag_pF h21 (some a) 7 5 (.inl (x22 + nI 1)) fun h23 =>
            ag_at h23 (some a) 7 fun a24 _ => ag_bV (call 52 [.inr (some a24), .inl (nI h), .inr o12] h23) fun h25 =>
            ag_at h25 (some a) 7 fun a26 _ => ag_bI (call 49 [.inr (some a26), .inl (nI 114), .inr o12] h25) fun x28 h27 =>
            ag_isC x28 (some (.inl (some (.inl x28)), h27))
          else ag_at h9 (some a) 7 fun a29 _ => ag_bI (call 50 [.inr (some a29), .inl (nI 102)] h9) fun x31 h30 => ag_isC x31 (some (.inl (some (.inl x31)), h30))
        else ag_at h9 (some a) 7 fun a32 _ => ag_bI (call 50 [.inr (some a32), .inl (nI 120)] h9) fun x34 h33 => ag_isC x34 (some (.inl (some (.inl x34)), h33))
      else f41_62 call (some a) h4
section MAKE
variable {z sl d : Nat} {kd ln : Nat → Nat} {I I1 I2 : Nat → Nat → Int32} {R R' : Nat → Nat → Option Nat} {a : Nat} {ad : Nat → Nat} {V V1 : zV}
theorem rep_hv {n : Nat} {r : Nat → Option Nat} : List.replicate n (.inl 0 : ag_V) = (List.range n).map (hv 100 (fun _ => 0) r) := by
  apply List.ext_getElem?
  intro j
  rw [List.getElem?_replicate, List.getElem?_map]
  by_cases h : j < n
  · rw [if_pos h, List.getElem?_range h]; rfl
  · rw [if_neg h, List.getElem?_eq_none (by simp; omega)]; rfl
theorem x_nw9 {K : Option Nat → ag_H → ag_R} : ag_nw (hp z sl kd ln I R) 9 K = K (some z) (hp (z + 1) (sl + 8) (up1 kd z 9) (up1 ln z 8) (up1 I z (fun _ => 0)) (up1 R z (fun _ => none))) := by
  unfold ag_nw
  have e : ag_new (hp z sl kd ln I R) (ag_fs 9).length (9, ag_fs 9) = hp (z + 1) (sl + 8) (up1 kd z 9) (up1 ln z 8) (up1 I z (fun _ => 0)) (up1 R z (fun _ => none)) := hp_new (by decide) (by decide +kernel) 8
  rw [e]
  rfl
/-- the constructor of a file -/
theorem s60 {b : Nat} (hk : kd b = 9) (hl : ln b = 8) (hb : b ≠ z) (s p : Int32) {ch : Nat} (hch : ch < 65536) (dir : Bool) : ag_run gT (d + 1) 60 [.inr (some b), .inl s, .inl p, .inl (nI ch), .inl (bI dir)] (hp z sl kd ln I R) =
    some (.inl none, hp (z + 1) (sl + (bif dir then 0 else 8)) (up1 kd z 100) (up1 ln z (bif dir then 0 else 8)) (up1 (up2 (up2 (up2 (up2 I b 0 s) b 1 p) b 2 (nI ch)) b 3 (bI dir)) z (fun _ => 0)) (up2 (up1 R z (fun _ => none)) b 4 (some z))) := by
  have na : ∀ (n : Nat) (hn : n < 100000) (I : Nat → Nat → Int32), f60_37 (ag_run gT d) (some b) (nI n) (hp z sl kd ln I R) = some (.inl none, hp (z + 1) (sl + n) (up1 kd z 100) (up1 ln z n) (up1 I z (fun _ => 0)) (up2 (up1 R z (fun _ => none)) b 4 (some z))) := by
    intro n hn I
    unfold f60_37 ag_na
    rw [if_neg (nI_pos (by omega)), nI_clamp (by omega), if_pos hn]
    have e : ag_new (hp z sl kd ln I R) n (100, List.replicate n (.inl 0)) = hp (z + 1) (sl + n) (up1 kd z 100) (up1 ln z n) (up1 I z (fun _ => 0)) (up1 R z (fun _ => none)) := hp_new (by decide) rep_hv n
    rw [e]
    show ag_pF _ (some b) 9 4 (.inr (some z)) _ = _
    rw [x_pR0 (by rw [up1_ne hb]; exact hk) (by decide) (by rw [up1_ne hb, hl]; decide) rfl]
  rw [r60]
  unfold f60
  rw [b_n, x_pI0 hk (by decide) (by rw [hl]; decide) rfl, x_pI0 hk (by decide) (by rw [hl]; decide) rfl, b_Cn hch, x_pI0 hk (by decide) (by rw [hl]; decide) rfl, b_B (by cases dir <;> decide), x_pI0 hk (by decide) (by rw [hl]; decide) rfl, lit_0, lit8_8]
  cases dir
  · rw [if_pos (show bI false = nI 0 from rfl), na 8 (by omega)]; rfl
  · rw [if_neg (by decide), na 0 (by omega)]; rfl
theorem f41_join (W : WS kd ln R) (hk : kd a = 7) {h c : Nat} {dir : Bool} {I3 I4 : Nat → Nat → Int32} (e1 : ag_run gT (d + 2) 47 [.inr (some a), .inl (nI 114), .inl (nI h)] (hp z sl kd ln I R) = some (.inl none, hp z sl kd ln I1 R)) (e2 : ag_run gT (d + 2) 9 [.inr (some (a + 1)), .inl (nI 1), .inl (nI 2)] (hp z sl kd ln I1 R) = some (.inl none, hp z sl kd ln I2 R))
    (e3 : ag_run gT (d + 2) 9 [.inr (some (a + 1)), .inl (nI (97 + c)), .inl (nI 1)] (hp z sl kd ln I2 R) = some (.inl none, hp z sl kd ln I3 R)) (e4 : ag_run gT (d + 2) 9 [.inr (some (a + 1)), .inl (bI dir), .inl (nI 1)] (hp z sl kd ln I3 R) = some (.inl none, hp z sl kd ln I4 R)) :
    f41 (ag_run gT (d + 2)) (some a) (nI h) (nI (97 + c)) (bI dir) (hp z sl kd ln I R) = f41_k (ag_run gT (d + 2)) a h c dir (hp z sl kd ln I4 R) := by
  obtain ⟨k1, k3, k5, l5, k6, l6, r1, r2, r3, r4⟩ := W_7 W hk
  have e0 : ∀ x, x = bI dir → (f41_38 (ag_run gT (d + 2)) (some a) (nI h) (nI (97 + c)) (bI dir) (some (a + 1)) x (hp z sl kd ln I3 R)) = f41_k (ag_run gT (d + 2)) a h c dir (hp z sl kd ln I4 R) := by
    rintro x rfl
    unfold f41_38
    rw [x_atW k1 rfl, lit_1, e4, b_V, lit8_114, lit8_100, lit8_102, lit8_120, lit8_20, lit_0]
    rfl
  unfold f41
  rw [lit8_114, lit_0, lit_1, lit_2, x_atW hk rfl, e1, b_V, x_gR W hk rfl, r1, x_atW k1 rfl, e2, b_V, x_gR W hk rfl, r1, x_atW k1 rfl, e3, b_V, x_gR W hk rfl, r1]
  cases dir
  · rw [if_pos (show bI false = nI 0 from rfl)]; exact e0 _ rfl
  · rw [if_neg (by decide)]; exact e0 _ rfl
/-- errors of CREATE -/
theorem s41_e (W : WS kd ln R) (hS : SB kd ln I R a ad V) {h c : Nat} (dir : Bool) (hh : h < 128) (hc : c < 8) {e : Nat} (he : oMK V h c = .inl e) : ∃ I' R', ag_run gT (d + 3) 41 [.inr (some a), .inl (nI h), .inl (nI (97 + c)), .inl (bI dir)] (hp z sl kd ln I R) = some (.inl (some (.inl (nI e))), hp z sl kd ln I' R') ∧
    SO kd ln I I' R R' a ad V (inc V) 114 (le (nI h) 4 ++ le (nI 1) 2 ++ le (nI (97 + c)) 1 ++ le (bI dir) 1) 107 (err e) := by
  obtain ⟨hV, ⟨tq, q, hq⟩, tr, r, rc, hr⟩ := hS
  have hk := hV.1
  obtain ⟨k1, k3, k5, l5, k6, l6, r1, r2, r3, r4⟩ := W_7 W hk
  obtain ⟨I1, e1, m1, f1⟩ := s47 (z := z) (sl := sl) (d := d) W hk hq (nI 114) (nI h)
  obtain ⟨I2, e2, m2, f2⟩ := s9 (z := z) (sl := sl) (d := d + 1) W k1 m1 (nI 1) 2 (by omega) (by simp [le])
  obtain ⟨I3, e3, m3, f3⟩ := s9 (z := z) (sl := sl) (d := d + 1) W k1 m2 (nI (97 + c)) 1 (by omega) (by simp [le])
  obtain ⟨I4, e4, m4, f4⟩ := s9 (z := z) (sl := sl) (d := d + 1) W k1 m3 (bI dir) 1 (by omega) (by simp [le])
  have f14 := ((f1.trans f2).trans f3).trans f4
  have V4 := hV.fm W (Or.inl rfl) f14
  have hr4 := hr.fr f14 (by omega) (by omega) (by omega)
  have e5 := s51 (z := z) (sl := sl) (d := d + 1) W V4 hh
  have fin : ∀ {t : Nat} {l : List Int32} {I9 : Nat → Nat → Int32}, MM I9 (a + 3) (nI t) l (rc + nI 1) → Fm (a + 3) I4 I9 → SO kd ln I I9 R R a ad V (inc V) 114 (le (nI h) 4 ++ le (nI 1) 2 ++ le (nI (97 + c)) 1 ++ le (bI dir) 1) t l := fun m f => SO_of W V4 rfl m4 f14 m f (fun _ _ _ => rfl)
  rw [r41, f41_join W hk e1 e2 e3 e4]
  unfold f41_k f41_62
  rw [lit8_110, x_atW hk rfl, e5, b_R]
  unfold oMK at he
  cases hs : V.2.2.1 h with
  | none =>
    rw [hs] at he
    cases he
    obtain ⟨Ie, ee, me, fe⟩ := s50 (z := z) (sl := sl) (d := d) W hk hr4 (e := 110) (by omega)
    refine ⟨Ie, R, ?_, fin me fe⟩
    simp (disch := first | assumption | decide | omega) only [Option.map_none, if_true, ee, b_I, b_Cn, x_atW]
  | some i =>
    rw [hs] at he
    dsimp only at he
    have hi := hV.2.1.2.2.2.1 h i hs
    obtain ⟨q0, q1, q2, q3, q4, q5, q6, q7, -⟩ := V4.2.2.2.2.2.2 i hi
    rw [Option.map_some, if_neg (by simp), x_gI W q0 rfl, q7]
    cases ht : (V.2.1 i).1
    · rw [ht] at he
      cases he
      obtain ⟨Ie, ee, me, fe⟩ := s50 (z := z) (sl := sl) (d := d) W hk hr4 (e := 110) (by omega)
      refine ⟨Ie, R, ?_, fin me fe⟩
      rw [if_neg (by decide)]
      simp (disch := first | assumption | decide | omega) only [ee, b_I, b_Cn, x_atW]
    · rw [ht] at he
      rw [if_pos (show bI (!true) = nI 0 from rfl), x_gI W q0 rfl, q4]
      cases hd : (V.2.1 i).2.1
      · rw [hd] at he
        cases he
        obtain ⟨Ie, ee, me, fe⟩ := s50 (z := z) (sl := sl) (d := d) W hk hr4 (e := 100) (by omega)
        refine ⟨Ie, R, ?_, fin me fe⟩
        rw [if_pos (show bI false = nI 0 from rfl)]
        simp (disch := first | assumption | decide | omega) only [ee, b_I, b_Cn, x_atW]
      · rw [hd] at he
        have e7 := s53 (z := z) (sl := sl) (d := d + 1) W V4 hi hc
        rw [if_neg (by decide), x_atW hk rfl, e7, b_R]
        cases hv : vin V i c with
        | some g =>
          rw [hv] at he
          cases he
          obtain ⟨Ie, ee, me, fe⟩ := s50 (z := z) (sl := sl) (d := d) W hk hr4 (e := 120) (by omega)
          refine ⟨Ie, R, ?_, fin me fe⟩
          rw [Option.map_some, if_neg (by simp)]
          simp (disch := first | assumption | decide | omega) only [ee, b_I, b_Cn, x_atW]
        | none =>
          rw [hv] at he
          have hl20 := hV.2.1.2.2.1
          rw [Option.map_none, if_pos rfl, x_gI W hk rfl, V4.2.2.1]
          cases hb : Nat.ble 20 (vlv V).length
          · rw [hb] at he; cases he
          · rw [hb] at he
            cases he
            have := g_le hb
            obtain ⟨Ie, ee, me, fe⟩ := s50 (z := z) (sl := sl) (d := d) W hk hr4 (e := 102) (by omega)
            refine ⟨Ie, R, ?_, fin me fe⟩
            rw [if_neg (nI_nlt (by omega) (by omega))]
            simp (disch := first | assumption | decide | omega) only [ee, b_I, b_Cn, x_atW]
end MAKE

/-! SERVERS of the class: CREATE when all is well -/
def SM (z : Nat) (kd kd' ln ln' : Nat → Nat) (I I' : Nat → Nat → Int32) (R R' : Nat → Nat → Option Nat) (a : Nat) (ad : Nat → Nat) (V V' : zV) (q r : List Int32) : Prop :=
  WS kd' ln' R' ∧ CV kd' ln' I' R' a (up1 ad V.1 z) V' ∧ MM I' (a + 1) (nI 114) q V'.2.2.2 ∧ (∃ rc, MM I' (a + 3) (nI 115) r rc) ∧ (∀ b j, (b < a ∨ a + 6 < b) → b < z → I' b j = I b j) ∧ (∀ b j, b ≠ a + 5 → b ≠ a + 6 → b < z → R' b j = R b j) ∧ (∀ b, b < z → kd' b = kd b ∧ ln' b = ln b) ∧ ∀ b, z + 2 ≤ b → kd' b = 999
section MKOK
variable {z sl d : Nat} {kd ln : Nat → Nat} {I I1 I2 : Nat → Nat → Int32} {R R' : Nat → Nat → Option Nat} {a : Nat} {ad : Nat → Nat} {V V1 : zV}
theorem vlv_new (V : zV) (h i c : Nat) (dir : Bool) : vlv (newF V h i c dir) = vlv V ++ [V.1] := by
  unfold vlv newF
  dsimp only
  rw [List.range_succ, List.filter_append]
  congr 1
  · apply List.filter_congr
    intro x hx
    have := List.mem_range.mp hx
    rw [up1_ne (by omega)]
  · rw [List.filter_cons, up1_eq]; rfl
theorem VW.new (hw : VW V) {h i c : Nat} {dir : Bool} (hh : h < 128) (hc : c < 8) (hi : i < V.1) (hd : (V.2.1 i).2.1 = true) (hl : (vlv V).length < 20) (hnx : V.1 < 250) : VW (newF V h i c dir) := by
  obtain ⟨w1, w2, w3, w4, w5, w6, w7, w8, w9, w10⟩ := hw
  have e : ∀ x, x ≠ V.1 → (newF V h i c dir).2.1 x = V.2.1 x := fun x hx => up1_ne hx
  have e0 : (newF V h i c dir).2.1 V.1 = (true, dir, c, some i, [], nI 0) := up1_eq _ _ _
  have h0 : (0 : Nat) ≠ V.1 := by omega
  refine ⟨by show 1 ≤ V.1 + 1; omega, by show V.1 + 1 ≤ 250; omega, by rw [vlv_new, List.length_append, List.length_singleton]; omega, fun h' x hx => ?_, fun h' h9 => ?_, fun x hx => ?_, by rw [e 0 h0]; exact w7, by rw [e 0 h0]; exact w8, by rw [e 0 h0]; exact w9, fun x hx p hp => ?_⟩
  · show x < V.1 + 1
    have hx : (if h' = h then some V.1 else V.2.2.1 h') = some x := hx
    split at hx
    · cases hx; omega
    · have := w4 h' x hx; omega
  · show (if h' = h then some V.1 else V.2.2.1 h') = none
    rw [if_neg (by omega)]; exact w5 h' h9
  · have hx : x < V.1 + 1 := hx
    by_cases ex : x = V.1
    · subst ex
      rw [e0]
      exact ⟨hc, fun p hp => by cases hp; omega, Nat.zero_le _, fun b hb => by cases hb⟩
    · rw [e x ex]; exact w6 x (by omega)
  · show p < V.1 + 1 ∧ _
    have hx : x < V.1 + 1 := hx
    by_cases ex : x = V.1
    · subst ex
      rw [e0] at hp
      cases hp
      rw [e i (by omega)]
      exact ⟨by omega, hd⟩
    · rw [e x ex] at hp
      have := w10 x (by omega) p hp
      rw [e p (by omega)]
      exact ⟨by omega, this.2⟩
theorem s41_ok (W : WS kd ln R) (hS : SB kd ln I R a ad V) (hz : 262 ≤ z) (hz9 : ∀ b, z ≤ b → kd b = 999) {h c : Nat} (dir : Bool) (hh : h < 128) (hc : c < 8) {i : Nat} (he : oMK V h c = .inr i) (hnx : V.1 < 250) :
    ∃ kd' ln' I' R', ag_run gT (d + 3) 41 [.inr (some a), .inl (nI h), .inl (nI (97 + c)), .inl (bI dir)] (hp z sl kd ln I R) = some (.inl (some (.inl (nI 0))), hp (z + 2) (sl + 8 + (bif dir then 0 else 8)) kd' ln' I' R') ∧
    SM z kd kd' ln ln' I I' R R' a ad V (inc (newF V h i c dir)) (le (nI h) 4 ++ le (nI 1) 2 ++ le (nI (97 + c)) 1 ++ le (bI dir) 1) (tel V.1 (true, dir, c, some i, [], nI 0)) := by
  obtain ⟨hV, ⟨tq, q, hq⟩, tr, r, rc, hr⟩ := hS
  have hk := hV.1
  obtain ⟨k1, k3, k5, l5, k6, l6, r1, r2, r3, r4⟩ := W_7 W hk
  have ha : a + 6 < 262 := (W_lt W k6 (by decide) (by decide) (by decide)).1
  obtain ⟨I1, e1, m1, f1⟩ := s47 (z := z) (sl := sl) (d := d) W hk hq (nI 114) (nI h)
  obtain ⟨I2, e2, m2, f2⟩ := s9 (z := z) (sl := sl) (d := d + 1) W k1 m1 (nI 1) 2 (by omega) (by simp [le])
  obtain ⟨I3, e3, m3, f3⟩ := s9 (z := z) (sl := sl) (d := d + 1) W k1 m2 (nI (97 + c)) 1 (by omega) (by simp [le])
  obtain ⟨I4, e4, m4, f4⟩ := s9 (z := z) (sl := sl) (d := d + 1) W k1 m3 (bI dir) 1 (by omega) (by simp [le])
  have f14 := ((f1.trans f2).trans f3).trans f4
  have V4 := hV.fm W (Or.inl rfl) f14
  have hr4 := hr.fr f14 (by omega) (by omega) (by omega)
  have e5 := s51 (z := z) (sl := sl) (d := d + 1) W V4 hh
  -- what the good road tells
  have hgood : V.2.2.1 h = some i ∧ (V.2.1 i).1 = true ∧ (V.2.1 i).2.1 = true ∧ vin V i c = none ∧ (vlv V).length < 20 := by
    unfold oMK at he
    cases hs : V.2.2.1 h with
    | none => rw [hs] at he; cases he
    | some x =>
      rw [hs] at he
      dsimp only at he
      cases h1 : (V.2.1 x).1
      · rw [h1] at he; cases he
      · rw [h1] at he
        cases h2 : (V.2.1 x).2.1
        · rw [h2] at he; cases he
        · rw [h2] at he
          cases h3 : vin V x c with
          | some g => rw [h3] at he; cases he
          | none =>
            rw [h3] at he
            cases h4 : Nat.ble 20 (vlv V).length
            · rw [h4] at he
              cases he
              refine ⟨rfl, h1, h2, h3, ?_⟩
              refine Nat.lt_of_not_le fun h9 => ?_
              rw [Nat.ble_eq_true_of_le h9] at h4
              cases h4
            · rw [h4] at he; cases he
  obtain ⟨hs, ht, hd, hvin, hl20⟩ := hgood
  have hi := hV.2.1.2.2.2.1 h i hs
  obtain ⟨q0, q1, q2, q3, q4, q5, q6, q7, -⟩ := V4.2.2.2.2.2.2 i hi
  have e7 := s53 (z := z) (sl := sl) (d := d + 1) W V4 hi hc
  rw [hvin] at e7
  have hlna : ln a = 6 := W_ln W hk (by decide)
  have hai : ad i ≠ z := by intro e9; rw [e9, hz9 z (Nat.le_refl _)] at q0; omega
  have e8 := s60 (z := z + 1) (sl := sl + 8) (d := d + 1) (kd := up1 kd z 9) (ln := up1 ln z 8) (I := up1 I4 z (fun _ => 0)) (R := up1 R z (fun _ => none)) (b := z) (up1_eq _ _ _) (up1_eq _ _ _) (by omega) (nI V.1) (nI i) (ch := 97 + c) (by omega) dir
  -- the heap with the new file
  obtain ⟨kd2, hkd2⟩ : ∃ x, x = up1 (up1 kd z 9) (z + 1) 100 := ⟨_, rfl⟩
  obtain ⟨ln2, hln2⟩ : ∃ x, x = up1 (up1 ln z 8) (z + 1) (bif dir then 0 else 8) := ⟨_, rfl⟩
  obtain ⟨I6, hI6⟩ : ∃ x, x = up1 (up2 (up2 (up2 (up2 (up1 I4 z (fun _ => 0)) z 0 (nI V.1)) z 1 (nI i)) z 2 (nI (97 + c))) z 3 (bI dir)) (z + 1) (fun _ => 0) := ⟨_, rfl⟩
  obtain ⟨R2, hR2⟩ : ∃ x, x = up2 (up1 (up1 R z (fun _ => none)) (z + 1) (fun _ => none)) z 4 (some (z + 1)) := ⟨_, rfl⟩
  rw [← hkd2, ← hln2, ← hI6, ← hR2] at e8
  have W2 : WS kd2 ln2 R2 := by
    have := W.file hz hz9 (bif dir then 0 else 8) (fun j => if j = 4 then some (z + 1) else none) (fun _ => none) rfl
    rw [hkd2, hln2]
    have e9 : R2 = up1 (up1 R z (fun j => if j = 4 then some (z + 1) else none)) (z + 1) (fun _ => none) := by
      rw [hR2]
      funext b j
      unfold up2 up1
      by_cases h1 : b = z
      · subst h1
        rw [if_neg (show ¬ b = b + 1 by omega), if_neg (show ¬ b = b + 1 by omega), if_pos rfl, if_pos rfl]
        by_cases h2 : j = 4
        · rw [if_pos ⟨rfl, h2⟩, if_pos h2]
        · rw [if_neg (fun h => h2 h.2), if_neg h2]
      · rw [if_neg (fun h => h1 h.1), if_neg h1, if_neg h1]
    rw [e9]; exact this
  have kdo : ∀ b, b < z → kd2 b = kd b := fun b hb => by rw [hkd2, up1_ne (by omega), up1_ne (by omega)]
  have lno : ∀ b, b < z → ln2 b = ln b := fun b hb => by rw [hln2, up1_ne (by omega), up1_ne (by omega)]
  have kdz : kd2 z = 9 := by rw [hkd2, up1_ne (by omega), up1_eq]
  have lnz1 : ln2 (z + 1) = (bif dir then 0 else 8) := by rw [hln2, up1_eq]
  have Io : ∀ b j, b < z → I6 b j = I4 b j := fun b j hb => by rw [hI6, up1_ne (by omega), up2_na (by omega), up2_na (by omega), up2_na (by omega), up2_na (by omega), up1_ne (by omega)]
  have Ro : ∀ b j, b < z → R2 b j = R b j := fun b j hb => by rw [hR2, up2_na (by omega), up1_ne (by omega), up1_ne (by omega)]
  have hk2 : kd2 a = 7 := by rw [kdo a (by omega)]; exact hk
  obtain ⟨y1, y3, y5, ly5, y6, ly6, ry1, ry2, ry3, ry4⟩ := W_7 W2 hk2
  have W3 : WS kd2 ln2 (up2 R2 (a + 5) (vlv V).length (some z)) := W2.up (by rw [y5]; rfl) (by omega)
  have e9 := s52 (z := z + 2) (sl := sl + 8 + (bif dir then 0 else 8)) (d := d + 1) (I := up2 (up2 I6 a 4 (nI ((vlv V).length + 1))) a 5 (nI (V.1 + 1))) W3 hk2 hh (o := some z) (fun b h9 => by cases h9; exact kdz)
  have W4 : WS kd2 ln2 (up2 (up2 R2 (a + 5) (vlv V).length (some z)) (a + 6) h (some z)) := W3.up (by rw [y6]; rfl) (by omega)
  have adlt : ∀ x, x < V.1 → ad x + 1 < z := fun x hx => by
    have g0 := (V4.2.2.2.2.2.2 x hx).1
    have g1 := (W_9 W g0).1
    refine Nat.lt_of_not_le fun h9 => ?_
    rw [hz9 _ h9] at g1; omega
  have V5 : CV kd2 ln2 (up2 (up2 I6 a 4 (nI ((vlv V).length + 1))) a 5 (nI (V.1 + 1))) (up2 (up2 R2 (a + 5) (vlv V).length (some z)) (a + 6) h (some z)) a (up1 ad V.1 z) (newF V h i c dir) := by
    obtain ⟨v1, v2, v3, v4, v5, v6, v7⟩ := V4
    refine ⟨hk2, v2.new hh hc hi hd hl20 hnx, ?_, ?_, fun x hx => ?_, fun h' hh' => ?_, fun x hx => ?_⟩
    · rw [up2_ni (by omega), up2_eq, vlv_new, List.length_append, List.length_singleton]
    · rw [up2_eq]; rfl
    · rw [vlv_new] at hx ⊢
      rw [List.length_append, List.length_singleton] at hx
      rw [up2_na (by omega)]
      by_cases ex : x = (vlv V).length
      · subst ex
        rw [up2_eq, List.getD_eq_getElem?_getD, List.getElem?_append_right (Nat.le_refl _), Nat.sub_self]
        exact congrArg some (up1_eq ad V.1 z).symm
      · have hx2 : x < (vlv V).length := by omega
        rw [up2_ni ex, Ro _ _ (by omega), v5 x hx2, List.getD_eq_getElem?_getD, List.getD_eq_getElem?_getD, List.getElem?_append_left hx2]
        have hm := (vlv_mem (getD_mem hx2)).1
        rw [List.getD_eq_getElem?_getD] at hm
        rw [up1_ne (by omega)]
    · show _ = (if h' = h then some V.1 else V.2.2.1 h').map (up1 ad V.1 z)
      by_cases eh : h' = h
      · subst eh
        rw [up2_eq, if_pos rfl]
        exact congrArg some (up1_eq ad V.1 z).symm
      · rw [up2_ni eh, up2_na (by omega), Ro _ _ (by omega), v6 h' hh', if_neg eh]
        cases hx : V.2.2.1 h' with
        | none => rfl
        | some x =>
          have := v2.2.2.2.1 h' x hx
          show some (ad x) = some (up1 ad V.1 z x)
          rw [up1_ne (by omega)]
    · have hx : x < V.1 + 1 := hx
      by_cases ex : x = V.1
      · subst ex
        have ef : (newF V h i c dir).2.1 V.1 = (true, dir, c, some i, [], nI 0) := up1_eq _ _ _
        rw [ef, up1_eq]
        have row : ∀ j, up2 (up2 I6 a 4 (nI ((vlv V).length + 1))) a 5 (nI (V.1 + 1)) z j = up2 (up2 (up2 (up2 (up1 I4 z (fun _ => 0)) z 0 (nI V.1)) z 1 (nI i)) z 2 (nI (97 + c))) z 3 (bI dir) z j := fun j => by rw [up2_na (by omega), up2_na (by omega), hI6, up1_ne (by omega)]
        refine ⟨kdz, ?_, ?_, fun _ => ?_, ?_, ?_, ?_, ?_, lnz1, fun p hp => absurd hp (Nat.not_lt_zero _)⟩
        · rw [row, up2_ni (by omega), up2_ni (by omega), up2_ni (by omega), up2_eq]
        · rw [row, up2_ni (by omega), up2_ni (by omega), up2_eq]; rfl
        · rw [row, up2_ni (by omega), up2_eq]
        · rw [row, up2_eq]
        · rw [row, up2_ni (by omega), up2_ni (by omega), up2_ni (by omega), up2_ni (by omega), up1_eq]; rfl
        · rw [row, up2_ni (by omega), up2_ni (by omega), up2_ni (by omega), up2_ni (by omega), up1_eq]; rfl
        · rw [row, up2_ni (by omega), up2_ni (by omega), up2_ni (by omega), up2_ni (by omega), up1_eq]; rfl
      · have hx2 : x < V.1 := by omega
        have ef : (newF V h i c dir).2.1 x = V.2.1 x := up1_ne ex
        obtain ⟨g0, g1, g2, g3, g4, g5, g6, g7, g8, g9⟩ := v7 x hx2
        have hb := adlt x hx2
        have na : ad x ≠ a := by intro e9; rw [e9] at g0; omega
        have na1 : ad x + 1 ≠ a := by intro e9; have := (W_9 W g0).1; rw [e9] at this; omega
        rw [ef, up1_ne ex]
        have row : ∀ j, up2 (up2 I6 a 4 (nI ((vlv V).length + 1))) a 5 (nI (V.1 + 1)) (ad x) j = I4 (ad x) j := fun j => by rw [up2_na na, up2_na na, Io _ _ (by omega)]
        have row1 : ∀ j, up2 (up2 I6 a 4 (nI ((vlv V).length + 1))) a 5 (nI (V.1 + 1)) (ad x + 1) j = I4 (ad x + 1) j := fun j => by rw [up2_na na1, up2_na na1, Io _ _ (by omega)]
        exact ⟨by rw [kdo _ (by omega)]; exact g0, by rw [row]; exact g1, by rw [row]; exact g2, fun h9 => by rw [row]; exact g3 h9, by rw [row]; exact g4, by rw [row]; exact g5, by rw [row]; exact g6, by rw [row]; exact g7, by rw [lno _ (by omega)]; exact g8, fun p hp => by rw [row1]; exact g9 p hp⟩
  have Ir : ∀ b j, b ≠ a → b < z → up2 (up2 I6 a 4 (nI ((vlv V).length + 1))) a 5 (nI (V.1 + 1)) b j = I4 b j := fun b j hb hbz => by rw [up2_na hb, up2_na hb, Io _ _ hbz]
  have mm : ∀ {m : Nat} {t c9 : Int32} {pl : List Int32}, a < m → m + 1 < z → MM I4 m t pl c9 → MM (up2 (up2 I6 a 4 (nI ((vlv V).length + 1))) a 5 (nI (V.1 + 1))) m t pl c9 := fun h1 h2 hm => ⟨by rw [Ir _ _ (by omega) (by omega)]; exact hm.1, by rw [Ir _ _ (by omega) (by omega)]; exact hm.2.1, fun j hj => by rw [Ir _ _ (by omega) (by omega)]; exact hm.2.2.1 j hj, hm.2.2.2⟩
  obtain ⟨I9, e10, m10, f10⟩ := s49 (z := z + 2) (sl := sl + 8 + (bif dir then 0 else 8)) (d := d) W4 V5 (mm (by omega) (by omega) hr4) (nI 114) (i := V.1) (show V.1 < V.1 + 1 by omega)
  rw [up1_eq] at e10
  refine ⟨kd2, ln2, I9, _, ?_, W4, V5.fm W4 (Or.inr rfl) f10, (mm (by omega) (by omega) m4).fr f10 (by omega) (by omega) (by omega), ⟨_, by
    have ef : (newF V h i c dir).2.1 V.1 = (true, dir, c, some i, [], nI 0) := up1_eq _ _ _
    rw [ef] at m10
    exact m10⟩, fun b j hb hbz => ?_, fun b j hb1 hb2 hbz => ?_, fun b hb => ⟨kdo b hb, lno b hb⟩, fun b hb => ?_⟩
  · rw [r41, f41_join W hk e1 e2 e3 e4]
    unfold f41_k
    rw [x_atW hk rfl, e5, b_R, hs, Option.map_some, if_neg (by simp), x_gI W q0 rfl, q7, ht, if_pos (show bI (!true) = nI 0 from rfl), x_gI W q0 rfl, q4, hd, if_neg (show ¬ bI true = nI 0 by decide), x_atW hk rfl, e7, b_R, Option.map_none, if_pos rfl, x_gI W hk rfl, V4.2.2.1, if_pos (nI_lt hl20 (by decide)), x_nw9]
    rw [x_gI0 (by rw [up1_ne (by omega)]; exact hk) (by decide) (by rw [up1_ne (by omega), hlna]; decide) rfl, up1_ne (by omega), V4.2.2.2.1, x_gI0 (by rw [up1_ne hai]; exact q0) (by decide) (by rw [up1_ne hai, W_ln W q0 (by decide)]; decide) rfl, up1_ne hai, q1, b_n, e8, b_W]
    rw [x_gR W2 hk2 rfl, ry3, x_gI W2 hk2 rfl, Io _ _ (by omega), V4.2.2.1, b_os, x_atW kdz rfl, x_yR y5 rfl (by omega) (by omega), x_gI W3 hk2 rfl, Io _ _ (by omega), V4.2.2.1, nI_add, x_pI W3 hk2 rfl, x_gI W3 hk2 rfl, up2_ni (by omega), Io _ _ (by omega), V4.2.2.2.1, nI_add, x_pI W3 hk2 rfl, x_atW hk2 rfl, e9, b_V, x_atW hk2 rfl, e10, b_I, b_Cn (by omega)]
  · rw [f10 b j (by omega) (by omega), Ir b j (by omega) hbz, f14 b j (by omega) (by omega)]
  · rw [up2_na hb2, up2_na hb1, Ro _ _ hbz]
  · rw [hkd2, up1_ne (by omega), up1_ne (by omega)]; exact hz9 b (by omega)
end MKOK

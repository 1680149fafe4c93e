/-! THE REFERENCE'S METHODS: bound, bind, mount -/
def jcd (r : Nat ⊕ Nat) : Nat := match r with
  | .inl e => if e = 1 then 3 else if e = 3 then 2 else 1
  | .inr _ => 0
section RBN2
variable {A : zA} {M M' : Nat → Nat → Int32} {h : ag_H} {d s x i p f j o w k : Nat} {S S' : zS} {P : Nat → List zP} {Q : Nat → Option Nat} {O : Nat → Nat → zU} {F L G : List (Nat × Nat)} {W : zW} {X : List Nat × List Nat}
theorem t163_38 {m : zM} (hT : TA A M h) (hR : RR S P Q O X M) (hB : OB O) (hPB : PB P) (hp4 : p < 4) (hq : Q p = some j) (hv : ∀ q ∈ P j, ∀ m ∈ q.2, m.1 < 2 ∧ m.2.1 < 128 ∧ ¬ (m.1 = 0 ∧ m.2.1 = 0)) (h0 : (0, 0) ∈ F) (hl : F.length + 1 < 128) (hO : OW S (fl W ++ F)) (hW : WK S W) (hd : W.2.2.2 = true) (h8 : M 230 38 = nI W.1) (h9 : M 230 39 = nI W.2.1) (h7 : k < 7) (h3 : k % 4 ≠ 3) (hm : m.1 < 2) (hm2 : m.2.1 < 128) (hm3 : m.2.2 = decide (k / 4 = 1)) :
    ∃ h' M', f163_38 (ag_run gT (d + 5)) (some 230) (nI p) (nI m.1) (nI m.2.1) (nI k) (nI 0) h = some (.inl (some (.inl (nI (jcd (kJ2 P j S W k m).2.2)))), h') ∧ TA A M' h' ∧ RR (kJ2 P j S W k m).1 (kJ2 P j S W k m).2.1 Q O X M' ∧ ∀ n, (kJ2 P j S W k m).2.2 = .inr n → M' 230 21 = nI n := by
  obtain ⟨hV, hG, hP, hQ, -, -⟩ := id hR
  obtain ⟨q1, q2⟩ := (hQ p hp4).2 j hq
  obtain ⟨b1, b2⟩ := hPB j q2
  obtain ⟨p1, p2⟩ := hP j q2
  have hw1 := hW.1
  have hx := hO.lt hw1 (fl_mem h0)
  have hi3 : W.2.2.1 < 300 := by
    have h1 := (hO.1 W.1 hW.1).2.2.2.1 _ _ hW.2.1
    have h2 := (hO.1 W.1 hW.1).2.1
    omega
  have e140 := hT.t140 (d := d + 4) hV hP hPB hQ hp4 hq hw1 (show W.2.1 < 200 by omega) hW.2.1 hi3
  have hst := (hV W.1 hw1).2.2.2.2 W.2.1 (by omega)
  rw [hW.2.1] at hst
  have hst : M 242 (200 * W.1 + W.2.1) = nI (W.2.2.1 + 1) := hst
  unfold f163_38
  rw [lit_0, lit_1, lit_4, if_pos rfl, hT.rR (k := 30) (b := 254) rfl rfl, hT.rx (a := 254) (c := 100) (i := p) rfl (show p < 4 from hp4), q1, hT.rI (k := 38) rfl, h8, hT.rI (k := 39) rfl, h9, hT.ra, e140, b_I, nI_mul]
  unfold kJ2
  cases hpi : pidx (P j) W.1 W.2.2.1 with
  | none =>
    dsimp only
    rw [show wP j none = -1 from rfl, if_neg (show ¬ nI 0 ≤ (-1 : Int32) by decide)]
    unfold f163_87
    rw [lit_0, lit_4, if_neg (show ¬ nI 1 = nI 0 by decide), hT.rR (k := 22) (b := 246) rfl rfl, hT.rR (k := 30) (b := 254) rfl rfl, hT.rx (a := 254) (c := 100) (i := p) rfl (show p < 4 from hp4), q1, hT.rx (a := 246) (c := 100) (i := j) rfl (show j < 4 from q2), p1]
    by_cases hf : 4 ≤ (P j).length
    · obtain ⟨h1, M1, e1, T1, R1⟩ := t163_132 (d := d + 2) hT hR hB h8 h9 hw1 hx hm hm2
      rw [if_pos (by rw [show (P j).length = 4 by omega]), if_pos (Or.inl hf), if_pos hd]
      exact ⟨h1, M1, e1, T1, R1, fun n hn => (by cases hn)⟩
    · rw [if_neg (by rw [nI_eq (by omega) (by omega)]; omega), if_neg (by rw [hd]; rintro (h | h); exact hf h; cases h)]
      -- the new place
      have T1 := hT.sx (a := 247) (c := 100) (i := 4 * j + (P j).length) rfl (nI W.1)
      have T2 := T1.sx (a := 248) (c := 100) (i := 4 * j + (P j).length) rfl (nI W.2.2.1)
      have T3 := T2.sx (a := 249) (c := 100) (i := 4 * j + (P j).length) rfl (nI 0)
      have T4 := T3.sx (a := 246) (c := 100) (i := j) rfl (nI ((P j).length + 1))
      have hw16 : 4 * j + (P j).length < 16 := by omega
      have st : f163_109 (ag_run gT (d + 5)) (some 230) (nI p) (nI m.1) (nI m.2.1) (nI k) (nI (4 * j)) (-1) (nI 1) h = f163_234 (ag_run gT (d + 5)) (some 230) (nI m.1) (nI m.2.1) (nI k) (nI (4 * j + (P j).length)) (nI 1) (hse (hse (hse (hse h 247 (4 * j + (P j).length) (nI W.1)) 248 (4 * j + (P j).length) (nI W.2.2.1)) 249 (4 * j + (P j).length) (nI 0)) 246 j (nI ((P j).length + 1))) := by
        unfold f163_109 f163_152
        rw [lit_0, lit_1, lit16_200, if_neg (show ¬ nI 1 = nI 0 by decide), if_neg (show ¬ nI 1 = nI 0 by decide), hT.rR (k := 22) (b := 246) rfl rfl, hT.rR (k := 30) (b := 254) rfl rfl, hT.rx (a := 254) (c := 100) (i := p) rfl (show p < 4 from hp4), q1, hT.rx (a := 246) (c := 100) (i := j) rfl (show j < 4 from q2), p1, nI_add, hT.rR (k := 23) (b := 247) rfl rfl, hT.rI (k := 38) rfl, h8, hT.wx (a := 247) (c := 100) (i := 4 * j + (P j).length) rfl (show 4 * j + (P j).length < 16 from hw16),
          T1.rR (k := 24) (b := 248) rfl rfl, T1.rR (k := 14) (b := 242) rfl rfl, T1.rI (k := 38) rfl, up2_na (by decide), h8, T1.rI (k := 39) rfl, up2_na (by decide), h9, nI_mul, nI_add, T1.rx (a := 242) (c := 100) (i := 200 * W.1 + W.2.1) rfl (show 200 * W.1 + W.2.1 < 400 by omega), up2_na (by decide), hst, nI_sub (by omega), Nat.add_sub_cancel, T1.wx (a := 248) (c := 100) (i := 4 * j + (P j).length) rfl (show 4 * j + (P j).length < 16 from hw16),
          T2.rR (k := 25) (b := 249) rfl rfl, T2.wx (a := 249) (c := 100) (i := 4 * j + (P j).length) rfl (show 4 * j + (P j).length < 16 from hw16), T3.rR (k := 22) (b := 246) rfl rfl, T3.rR (k := 30) (b := 254) rfl rfl, T3.rx (a := 254) (c := 100) (i := p) rfl (show p < 4 from hp4), up2_na (by decide), up2_na (by decide), up2_na (by decide), q1, T3.rx (a := 246) (c := 100) (i := j) rfl (show j < 4 from q2), up2_na (by decide), up2_na (by decide), up2_na (by decide), p1, nI_add, T3.wx (a := 246) (c := 100) (i := j) rfl (show j < 4 from q2)]
      rw [st]
      have F4 : FY j (4 * j + (P j).length) M (up2 (up2 (up2 (up2 M 247 (4 * j + (P j).length) (nI W.1)) 248 (4 * j + (P j).length) (nI W.2.2.1)) 249 (4 * j + (P j).length) (nI 0)) 246 j (nI ((P j).length + 1))) := fun b y z1 z2 z3 z4 z5 => by rw [up2_ne (by omega), up2_ne (by omega), up2_ne (by omega), up2_ne (by omega)]
      have c6 : (up2 (up2 (up2 (up2 M 247 (4 * j + (P j).length) (nI W.1)) 248 (4 * j + (P j).length) (nI W.2.2.1)) 249 (4 * j + (P j).length) (nI 0)) 246 j (nI ((P j).length + 1))) 246 j = nI ((P j).length + 1) := up2_eq _ _ _ _
      have c7 : (up2 (up2 (up2 (up2 M 247 (4 * j + (P j).length) (nI W.1)) 248 (4 * j + (P j).length) (nI W.2.2.1)) 249 (4 * j + (P j).length) (nI 0)) 246 j (nI ((P j).length + 1))) 247 (4 * j + (P j).length) = nI W.1 := by rw [up2_na (by decide), up2_na (by decide), up2_na (by decide)]; exact up2_eq _ _ _ _
      have c8 : (up2 (up2 (up2 (up2 M 247 (4 * j + (P j).length) (nI W.1)) 248 (4 * j + (P j).length) (nI W.2.2.1)) 249 (4 * j + (P j).length) (nI 0)) 246 j (nI ((P j).length + 1))) 248 (4 * j + (P j).length) = nI W.2.2.1 := by rw [up2_na (by decide), up2_na (by decide)]; exact up2_eq _ _ _ _
      have c9 : PL (up2 (up2 (up2 (up2 M 247 (4 * j + (P j).length) (nI W.1)) 248 (4 * j + (P j).length) (nI W.2.2.1)) 249 (4 * j + (P j).length) (nI 0)) 246 j (nI ((P j).length + 1))) (4 * j + (P j).length) [] := ⟨by rw [up2_na (by decide)]; exact up2_eq _ _ _ _, fun i hi => absurd hi (Nat.not_lt_zero _)⟩
      have V4 : RV S.1 (up2 (up2 (up2 (up2 M 247 (4 * j + (P j).length) (nI W.1)) 248 (4 * j + (P j).length) (nI W.2.2.1)) 249 (4 * j + (P j).length) (nI 0)) 246 j (nI ((P j).length + 1))) := hV.rows fun b y z1 z2 => by rw [up2_na (by omega), up2_na (by omega), up2_na (by omega), up2_na (by omega)]
      have G4 : RG S (up2 (up2 (up2 (up2 M 247 (4 * j + (P j).length) (nI W.1)) 248 (4 * j + (P j).length) (nI W.2.2.1)) 249 (4 * j + (P j).length) (nI 0)) 246 j (nI ((P j).length + 1))) := hG.congr (by rw [up2_na (by omega), up2_na (by omega), up2_na (by omega), up2_na (by omega)]) (by rw [up2_na (by omega), up2_na (by omega), up2_na (by omega), up2_na (by omega)]) (fun y => by rw [up2_na (by omega), up2_na (by omega), up2_na (by omega), up2_na (by omega)]) (fun y => by rw [up2_na (by omega), up2_na (by omega), up2_na (by omega), up2_na (by omega)])
      have c38 : (up2 (up2 (up2 (up2 M 247 (4 * j + (P j).length) (nI W.1)) 248 (4 * j + (P j).length) (nI W.2.2.1)) 249 (4 * j + (P j).length) (nI 0)) 246 j (nI ((P j).length + 1))) 230 38 = nI W.1 := by rw [up2_na (by decide), up2_na (by decide), up2_na (by decide), up2_na (by decide)]; exact h8
      have c39 : (up2 (up2 (up2 (up2 M 247 (4 * j + (P j).length) (nI W.1)) 248 (4 * j + (P j).length) (nI W.2.2.1)) 249 (4 * j + (P j).length) (nI 0)) 246 j (nI ((P j).length + 1))) 230 39 = nI W.2.1 := by rw [up2_na (by decide), up2_na (by decide), up2_na (by decide), up2_na (by decide)]; exact h9
      generalize up2 (up2 (up2 (up2 M 247 (4 * j + (P j).length) (nI W.1)) 248 (4 * j + (P j).length) (nI W.2.2.1)) 249 (4 * j + (P j).length) (nI 0)) 246 j (nI ((P j).length + 1)) = M4 at *
      generalize hse (hse (hse (hse h 247 (4 * j + (P j).length) (nI W.1)) 248 (4 * j + (P j).length) (nI W.2.2.1)) 249 (4 * j + (P j).length) (nI 0)) 246 j (nI ((P j).length + 1)) = h4' at *
      -- the end, for any member list
      have fin : ∀ (M5 : Nat → Nat → Int32) (S5 : zS) (ms : List zM), FT (4 * j + (P j).length) M4 M5 → RV S5.1 M5 → RG S5 M5 → PL M5 (4 * j + (P j).length) ms → RR S5 (up1 P j (P j ++ [((W.1, W.2.2.1), ms)])) Q O X M5 := by
        intro M5 S5 ms F5 V5 G5 L5
        have F : FY j (4 * j + (P j).length) M M5 := F4.trans F5.y
        exact hR.y hB F V5 G5 (hP.app hPB q2 (by omega) F (by rw [F5 _ _ (by omega) (by omega) (by omega) (by omega)]; exact c6) ⟨by rw [F5 _ _ (by omega) (by omega) (by omega) (by omega)]; exact c7, by rw [F5 _ _ (by omega) (by omega) (by omega) (by omega)]; exact c8, L5.1, L5.2⟩)
      by_cases hk : k % 4 = 0
      · rw [if_pos hk]
        obtain ⟨h5, M5, e5, T5, V5, G5, q5, F5⟩ := T4.t162 (d := d + 1) (ms := []) hw16 (by decide) (by simp) V4 G4 c9
        have L5 : PL M5 (4 * j + (P j).length) [] := ⟨q5, fun i hi => absurd hi (Nat.not_lt_zero _)⟩
        have F5' : FT (4 * j + (P j).length) M4 M5 := fun b y z1 z2 z3 z4 => F5 b y z1 (by omega) z3
        obtain ⟨h6, M6, e6, T6, L6, V6, G6, q6, F6⟩ := t163_282 (d := d + 2) (m := m) T5 hw16 (by decide) L5 V5 G5 h7 h3 (fun _ => rfl) hm3 (by rw [F5 _ _ (by omega) (by omega) (by omega)]; exact c38) (by rw [F5 _ _ (by omega) (by omega) (by omega)]; exact c39) hw1 hx
        refine ⟨h6, M6, ?_, T6, fin M6 _ _ (F5'.trans F6) V6 G6 L6, fun n hn => by injection hn with hn; rw [← hn]; exact q6⟩
        unfold f163_234 f163_247
        rw [lit_4, lit_0, b_d (by decide), (hw4 k h7).1, if_pos (by rw [hk]), T4.ra, e5, b_V, if_neg (show ¬ nI 1 = nI 0 by decide), b_d (by decide), if_pos (by rw [hk])]
        exact e6
      · rw [if_neg hk]
        obtain ⟨h5, M5, e5, T5, V5, G5, g8, g9, F5⟩ := T4.t143 (d := d + 1) hO h0 hl hw1 V4 G4 c38 c39
        obtain ⟨h6, M6, e6, T6, L6, F6⟩ := T5.t161a (d := d + 4) (m := (W.1, (kOwn S W).2, true)) hw16 (by decide) (c9.fx F5)
        obtain ⟨V6, G6⟩ := F6.vg V5 G5
        obtain ⟨h7', M7, e7, T7, L7, V7, G7, q7, F7⟩ := t163_294 (d := d + 4) (m := m) T6 hw16 (ms := [(W.1, (kOwn S W).2, true)]) (show 1 ≤ 2 by decide) L6 V6 G6 h7 h3 (fun h => absurd h hk) hm3
        refine ⟨h7', M7, ?_, T7, fin M7 _ _ ((F5.t.trans F6.t).trans F7) V7 G7 L7, fun n hn => by injection hn with hn; rw [← hn]; exact q7⟩
        unfold f163_234 f163_247
        rw [lit_4, lit_0, lit_1, b_d (by decide), (hw4 k h7).1, if_neg (by rw [nI_eq (by omega) (by omega)]; exact hk), if_neg (show ¬ nI 1 = nI 0 by decide), b_d (by decide), if_neg (by rw [nI_eq (by omega) (by omega)]; exact hk), T4.ra, e5, b_V, T5.rI (k := 38) rfl, g8, T5.rI (k := 39) rfl, g9, T5.ra]
        have e6 : ag_run gT (d + 5) 161 [.inr (some 230), .inl (nI (4 * j + (P j).length)), .inl (nI 0), .inl (nI W.1), .inl (nI (kOwn S W).2), .inl (nI 1)] h5 = some (.inl none, h6) := e6
        rw [e6, b_V]
        exact e7
  | some k' =>
    dsimp only
    have hk' := pidx_lt hpi
    have hw16 : 4 * j + k' < 16 := by omega
    obtain ⟨l1, l2, l3, l4⟩ := p2 k' hk'
    obtain ⟨-, -, b3, -⟩ := b2 _ (getD_memP hk')
    have v1 := hv _ (getD_memP hk')
    have hL : PL M (4 * j + k') ((P j).getD k' dP).2 := ⟨l3, l4⟩
    rw [show wP j (some k') = nI (4 * j + k') from rfl, if_pos (nI_le (by omega) (by omega))]
    unfold f163_87 f163_109
    rw [lit_0, lit_3, lit_4, if_pos rfl, if_pos rfl, hT.rR (k := 25) (b := 249) rfl rfl, hT.rx (a := 249) (c := 100) (i := 4 * j + k') rfl (show 4 * j + k' < 16 from hw16), l3, b_d (by decide), (hw4 k h7).1]
    have fin : ∀ (M5 : Nat → Nat → Int32) (S5 : zS) (ms : List zM), FT (4 * j + k') M M5 → RV S5.1 M5 → RG S5 M5 → PL M5 (4 * j + k') ms → RR S5 (up1 P j ((P j).set k' (((P j).getD k' dP).1, ms))) Q O X M5 := by
      intro M5 S5 ms F5 V5 G5 L5
      exact hR.y (j := j) hB F5.y V5 G5 (hP.set hPB q2 hk' F5 ⟨by rw [F5 _ _ (by omega) (by omega) (by omega) (by omega)]; exact l1, by rw [F5 _ _ (by omega) (by omega) (by omega) (by omega)]; exact l2, L5.1, L5.2⟩)
    by_cases hk : k % 4 = 0
    · rw [if_neg (show ¬ ((k % 4 ≠ 0 ∧ 3 ≤ ((P j).getD k' dP).2.length) ∨ W.2.2.2 = false) by rw [hd]; rintro (⟨h, -⟩ | h); exact h hk; cases h), if_pos (show k % 4 = 0 from hk)]
      obtain ⟨h5, M5, e5, T5, V5, G5, q5, F5⟩ := hT.t162 (d := d + 1) hw16 b3 v1 hV hG hL
      have L5 : PL M5 (4 * j + k') [] := ⟨q5, fun i hi => absurd hi (Nat.not_lt_zero _)⟩
      have F5' : FT (4 * j + k') M M5 := fun b y z1 z2 z3 z4 => F5 b y z1 (by omega) z3
      obtain ⟨h6, M6, e6, T6, L6, V6, G6, q6, F6⟩ := t163_282 (d := d + 2) (m := m) T5 hw16 (by decide) L5 V5 G5 h7 h3 (fun _ => rfl) hm3 (by rw [F5 _ _ (by omega) (by omega) (by omega)]; exact h8) (by rw [F5 _ _ (by omega) (by omega) (by omega)]; exact h9) hw1 hx
      refine ⟨h6, M6, ?_, T6, fin M6 _ _ (F5'.trans F6) V6 G6 L6, fun n hn => by injection hn with hn; rw [← hn]; exact q6⟩
      have e8 : f163_152 (ag_run gT (d + 5)) (some 230) (nI p) (nI m.1) (nI m.2.1) (nI k) (nI (4 * j)) (nI (4 * j + k')) (nI 0) h = some (.inl (some (.inl (nI 0))), h6) := by
        unfold f163_152 f163_234 f163_247
        rw [lit_0, lit_4, if_pos rfl, b_d (by decide), (hw4 k h7).1, if_pos (by rw [hk]), hT.ra, e5, b_V, if_pos rfl]
        exact e6
      rw [if_pos (show nI (k % 4) = nI 0 by rw [hk]), ite_self]
      exact e8
    · rw [if_neg (show ¬ nI (k % 4) = nI 0 by rw [nI_eq (by omega) (by omega)]; exact hk)]
      by_cases hf : 3 ≤ ((P j).getD k' dP).2.length
      · obtain ⟨h1, M1, e1, T1, R1⟩ := t163_132 (d := d + 2) hT hR hB h8 h9 hw1 hx hm hm2
        rw [if_pos (by rw [show ((P j).getD k' dP).2.length = 3 by omega]), if_pos (Or.inl ⟨hk, hf⟩), if_pos hd]
        exact ⟨h1, M1, e1, T1, R1, fun n hn => (by cases hn)⟩
      · rw [if_neg (by rw [nI_eq (by omega) (by omega)]; omega), if_neg (show ¬ ((k % 4 ≠ 0 ∧ 3 ≤ ((P j).getD k' dP).2.length) ∨ W.2.2.2 = false) by rw [hd]; rintro (⟨-, h⟩ | h); exact hf h; cases h), if_neg hk]
        obtain ⟨h6, M6, e6, T6, L6, V6, G6, q6, F6⟩ := t163_282 (d := d + 2) (m := m) hT hw16 (by omega) hL hV hG h7 h3 (fun h => absurd h hk) hm3 h8 h9 hw1 hx
        refine ⟨h6, M6, ?_, T6, fin M6 _ _ F6 V6 G6 L6, fun n hn => by injection hn with hn; rw [← hn]; exact q6⟩
        unfold f163_152 f163_234 f163_247
        rw [lit_0, lit_4, if_pos rfl, b_d (by decide), (hw4 k h7).1, if_neg (show ¬ nI (k % 4) = nI 0 by rw [nI_eq (by omega) (by omega)]; exact hk), if_pos rfl]
        exact e6
end RBN2

/-! SERVERS of the class: REMOVE, WRITE -/
def goneF (V : zV) (i : Nat) : zV := (V.1, up1 V.2.1 i (false, (V.2.1 i).2), V.2.2)
def oRM (V : zV) (h : Nat) : Nat ⊕ Nat := match V.2.2.1 h with
  | none => .inl 110
  | some i => bif (V.2.1 i).1 then (bif Nat.beq i 0 || (vls V i 0).isSome then .inl 112 else .inr i) else .inl 110
def dV (V : zV) (h : Nat) (x : Nat ⊕ Nat) : zV := match x with
  | .inl _ => setH V h none
  | .inr i => goneF (setH V h none) i
def rE {α : Type} (x : Nat ⊕ α) : List Int32 := match x with
  | .inl e => err e
  | .inr _ => []
def pu8 (bs : List Int32) (q : Nat) (b : Int32) : List Int32 := if q < bs.length then bs.set q b else bs ++ [b]
def putF (V : zV) (i q : Nat) (b : Int32) : zV := (V.1, up1 V.2.1 i ((V.2.1 i).1, (V.2.1 i).2.1, (V.2.1 i).2.2.1, (V.2.1 i).2.2.2.1, pu8 (V.2.1 i).2.2.2.2.1 q b, (V.2.1 i).2.2.2.2.2 + nI 1), V.2.2)
def oWR (V : zV) (h q : Nat) : Nat ⊕ Nat := match V.2.2.1 h with
  | none => .inl 110
  | some i => bif (V.2.1 i).1 then (bif Nat.blt q 8 then .inr i else .inl 102) else .inl 110
def uV (V : zV) (q : Nat) (b : Int32) (x : Nat ⊕ Nat) : zV := match x with
  | .inl _ => V
  | .inr i => putF V i q b
def rW (V : zV) (q : Nat) (b : Int32) (x : Nat ⊕ Nat) : List Int32 := match x with
  | .inl e => err e
  | .inr i => le (nI (pu8 (V.2.1 i).2.2.2.2.1 q b).length) 4
section DROP
variable {z sl d : Nat} {kd ln : Nat → Nat} {I I1 I2 : Nat → Nat → Int32} {R R' : Nat → Nat → Option Nat} {a : Nat} {ad : Nat → Nat} {V V1 : zV}
theorem s55_4 (hk : kd a = 7) {L : List Nat} (hLn : I a 4 = nI L.length) (hl : L.length ≤ 20) (hF : ∀ x ∈ L, kd (ad x) = 9 ∧ I (ad x) 0 = nI x ∧ x < 300) {g : Nat} (hg : g < 300) : ∀ (m k n : Nat) (P : List Nat) (R : Nat → Nat → Option Nat), WS kd ln R → k + m = L.length → P.length ≤ k → (∀ i, i < P.length → R (a + 5) i = some (ad (P.getD i 0))) → (∀ i, k ≤ i → i < L.length → R (a + 5) i = some (ad (L.getD i 0))) →
    ∃ R', g55 (ag_run gT d) (n + m + 1) (some a) (nI g) (nI P.length) (nI k) (hp z sl kd ln I R) = some (.inl none, hp z sl kd ln (up2 I a 4 (nI (P ++ (L.drop k).filter fun x => !Nat.beq x g).length)) R') ∧ WS kd ln R' ∧ (∀ i, i < (P ++ (L.drop k).filter fun x => !Nat.beq x g).length → R' (a + 5) i = some (ad ((P ++ (L.drop k).filter fun x => !Nat.beq x g).getD i 0))) ∧ ∀ b j, b ≠ a + 5 → R' b j = R b j := by
  intro m
  induction m with
  | zero =>
    intro k n P R W h hP h1 h2
    refine ⟨R, ?_, W, ?_, fun _ _ _ => rfl⟩
    · show f55_4 _ _ _ _ _ _ _ = _
      unfold f55_4
      rw [x_gI W hk rfl, hLn, if_pos (nI_le (by omega) (by omega)), List.drop_eq_nil_of_le (by omega), x_pI W hk rfl, List.filter_nil, List.append_nil]
    · rw [List.drop_eq_nil_of_le (by omega), List.filter_nil, List.append_nil]
      exact h1
  | succ m ih =>
    intro k n P R W h hP h1 h2
    obtain ⟨k1, k3, k5, l5, k6, l6, r1, r2, r3, r4⟩ := W_7 W hk
    have hkl : k < L.length := by omega
    obtain ⟨f0, f1, f2⟩ := hF _ (getD_mem hkl)
    rw [show n + (m + 1) + 1 = (n + m + 1) + 1 by omega, drop_getD hkl, List.filter_cons]
    have hr5 := h2 k (Nat.le_refl _) hkl
    by_cases e : L.getD k 0 = g
    · have hb : (!Nat.beq (L.getD k 0) g) = false := by rw [e]; simp
      rw [if_neg (by rw [hb]; decide)]
      obtain ⟨R', e1, e2, e3, e4⟩ := ih (k + 1) n P R W (by omega) (by omega) h1 (fun i hi hi2 => h2 i (by omega) hi2)
      refine ⟨R', ?_, e2, e3, e4⟩
      show f55_4 _ _ _ _ _ _ _ = _
      unfold f55_4 f55_40
      rw [x_gI W hk rfl, hLn, if_neg (nI_ge (by omega) (by omega)), x_gR W hk rfl, r3, x_xR k5 rfl (by omega) (by omega), hr5, x_gI W f0 rfl, f1, if_pos (by rw [e]), lit_1, nI_add]
      exact e1
    · have hb : (!Nat.beq (L.getD k 0) g) = true := by
        cases hb : Nat.beq (L.getD k 0) g
        · rfl
        · exact absurd (Nat.eq_of_beq_eq_true hb) e
      rw [if_pos hb]
      have W2 : WS kd ln (up2 R (a + 5) P.length (some (ad (L.getD k 0)))) := W.up (by rw [k5]; rfl) (by omega)
      obtain ⟨R', e1, e2, e3, e4⟩ := ih (k + 1) n (P ++ [L.getD k 0]) _ W2 (by omega) (by simp; omega) (fun i hi => by
        simp at hi
        by_cases ei : i = P.length
        · subst ei
          rw [up2_eq]
          simp
        · rw [up2_ni ei, h1 i (by omega), List.getD_eq_getElem?_getD, List.getD_eq_getElem?_getD, List.getElem?_append_left (by omega)]) (fun i hi hi2 => by rw [up2_ni (by omega)]; exact h2 i (by omega) hi2)
      rw [List.append_assoc, List.singleton_append] at e1 e3
      rw [List.length_append, List.length_singleton] at e1
      refine ⟨R', ?_, e2, e3, fun b j hb => by rw [e4 b j hb, up2_na hb]⟩
      show f55_4 _ _ _ _ _ _ _ = _
      unfold f55_4 f55_40
      rw [x_gI W hk rfl, hLn, if_neg (nI_ge (by omega) (by omega)), x_gR W hk rfl, r3, x_xR k5 rfl (by omega) (by omega), hr5, x_gI W f0 rfl, f1, if_neg (by rw [nI_eq (by omega) (by omega)]; exact e), x_gR W hk rfl, r3, x_gR W hk rfl, r3, x_xR k5 rfl (by omega) (by omega), hr5, b_os, x_atW f0 rfl, x_yR k5 rfl (by omega) (by omega), lit_1, nI_add, nI_add]
      exact e1
theorem vlv_gone (V : zV) (i : Nat) : vlv (goneF V i) = (vlv V).filter fun x => !Nat.beq x i := by
  unfold vlv goneF
  rw [List.filter_filter]
  apply List.filter_congr
  intro x _
  show (up1 V.2.1 i (false, (V.2.1 i).2) x).1 = _
  by_cases e : x = i
  · subst e; rw [up1_eq]; simp
  · rw [up1_ne e]
    cases hb : Nat.beq x i
    · simp
    · exact absurd (Nat.eq_of_beq_eq_true hb) e
theorem VW.gone (hw : VW V) {i : Nat} (hi : i ≠ 0) : VW (goneF V i) := by
  obtain ⟨w1, w2, w3, w4, w5, w6, w7, w8, w9, w10⟩ := hw
  have e : ∀ x, ((goneF V i).2.1 x).2 = (V.2.1 x).2 := by
    intro x
    show (up1 V.2.1 i (false, (V.2.1 i).2) x).2 = _
    by_cases e : x = i
    · subst e; rw [up1_eq]
    · rw [up1_ne e]
  refine ⟨w1, w2, ?_, w4, w5, fun x hx => ?_, by rw [e]; exact w7, by rw [e]; exact w8, ?_, fun x hx p hp => ?_⟩
  · rw [vlv_gone]; exact Nat.le_trans (List.length_filter_le _ _) w3
  · unfold FW; rw [e]; exact w6 x hx
  · show (up1 V.2.1 i (false, (V.2.1 i).2) 0).1 = true
    rw [up1_ne (Ne.symm hi)]; exact w9
  · rw [e] at hp ⊢; exact w10 x hx p hp
theorem s45 (W : WS kd ln R) (hS : SB kd ln I R a ad V) (hinj : ∀ i j, i < V.1 → j < V.1 → i ≠ j → ad i ≠ ad j ∧ ad i ≠ ad j + 1) {h : Nat} (hh : h < 128) : ∃ I' R', ag_run gT (d + 3) 45 [.inr (some a), .inl (nI h)] (hp z sl kd ln I R) = some (.inl (some (.inl (eI (oRM V h)))), hp z sl kd ln I' R') ∧ SO kd ln I I' R R' a ad V (inc (dV V h (oRM V h))) 122 (le (nI h) 4) (rT 123 (oRM V h)) (rE (oRM V h)) := by
  obtain ⟨hV, ⟨tq, q, hq⟩, tr, r, rc, hr⟩ := hS
  have hk := hV.1
  obtain ⟨k1, k3, k5, l5, k6, l6, r1, r2, r3, r4⟩ := W_7 W hk
  obtain ⟨I1, e1, m1, f1⟩ := s47 (z := z) (sl := sl) (d := d) W hk hq (nI 122) (nI h)
  have V1 := hV.fm W (Or.inl rfl) f1
  have hr1 := hr.fr f1 (by omega) (by omega) (by omega)
  have e2 := s51 (z := z) (sl := sl) (d := d + 1) W V1 hh
  have e3 := s52 (z := z) (sl := sl) (d := d + 1) (I := I1) W hk hh (o := none) (fun b h9 => by cases h9)
  have W2 : WS kd ln (up2 R (a + 6) h none) := W.up (by rw [k6]; rfl) (by omega)
  have V2 : CV kd ln I1 (up2 R (a + 6) h none) a ad (setH V h none) := V1.stand hh (o := none) (fun i h9 => by cases h9)
  have fin : ∀ {t : Nat} {l : List Int32} {I2 : Nat → Nat → Int32}, MM I2 (a + 3) (nI t) l (rc + nI 1) → Fm (a + 3) I1 I2 → SO kd ln I I2 R (up2 R (a + 6) h none) a ad V (inc (setH V h none)) 122 (le (nI h) 4) t l := fun m f => SO_of W2 V2 rfl m1 f1 m f (fun b j hb => up2_na hb)
  obtain ⟨Ie, ee, me, fe⟩ := s50 (z := z) (sl := sl) (d := d) W2 hk hr1 (e := 110) (by omega)
  obtain ⟨Ip, ep, mp, fp⟩ := s50 (z := z) (sl := sl) (d := d) W2 hk hr1 (e := 112) (by omega)
  rw [r45]
  unfold f45 f45_30 f45_54
  rw [lit8_122, lit8_110, lit8_112, lit_0, lit_1, lit_m, x_atW hk rfl, e1, b_V, x_atW hk rfl, e2, b_R, x_atW hk rfl, e3, b_V]
  cases hs : V.2.2.1 h with
  | none =>
    have hx : oRM V h = .inl 110 := by unfold oRM; rw [hs]
    rw [hx]
    refine ⟨Ie, _, ?_, fin me fe⟩
    simp (disch := first | assumption | decide | omega) only [Option.map_none, if_true, ee, b_I, b_Cn, x_atW]
    rfl
  | some i =>
    have hi := hV.2.1.2.2.2.1 h i hs
    obtain ⟨q0, q1, q2, q3, q4, q5, q6, q7, q8, q9⟩ := V2.2.2.2.2.2.2 i hi
    have hnx := hV.2.1.2.1
    rw [Option.map_some, if_neg (by simp), x_gI W2 q0 rfl, q7]
    cases ht : (V.2.1 i).1
    · have hx : oRM V h = .inl 110 := by unfold oRM; rw [hs]; dsimp only; rw [ht]; rfl
      rw [hx]
      refine ⟨Ie, _, ?_, fin me fe⟩
      rw [if_neg (by show ¬ bI (!(V.2.1 i).1) = nI 0; rw [ht]; decide)]
      simp (disch := first | assumption | decide | omega) only [ee, b_I, b_Cn, x_atW]
      rfl
    · rw [if_pos (by show bI (!(V.2.1 i).1) = nI 0; rw [ht]; rfl), x_gI W2 q0 rfl, q1]
      by_cases e0 : i = 0
      · subst e0
        have hx : oRM V h = .inl 112 := by unfold oRM; rw [hs]; dsimp only; rw [ht]; rfl
        rw [hx]
        refine ⟨Ip, _, ?_, fin mp fp⟩
        rw [if_pos rfl]
        simp (disch := first | assumption | decide | omega) only [ep, b_I, b_Cn, x_atW]
        rfl
      · have e4 := s54 (z := z) (sl := sl) (d := d + 1) W2 V2 (g := i) (q := 0) hi (by omega)
        have hb0 : Nat.beq i 0 = false := by
          cases hb : Nat.beq i 0
          · rfl
          · exact absurd (Nat.eq_of_beq_eq_true hb) e0
        rw [if_neg (by rw [nI_eq (by omega) (by omega)]; exact e0), x_atW hk rfl, e4, b_I]
        have hvl : vls (setH V h none) i 0 = vls V i 0 := rfl
        rw [hvl]
        cases hc : vls V i 0 with
        | some l =>
          have hx : oRM V h = .inl 112 := by unfold oRM; rw [hs]; dsimp only; rw [ht, hb0, hc]; rfl
          rw [hx]
          refine ⟨Ip, _, ?_, fin mp fp⟩
          have hl : nI (97 + l) ≠ -1 := by
            refine nI_m1 ?_
            unfold vls at hc
            cases hx : ((vlv V).filter fun i9 => decide ((V.2.1 i9).2.2.2.1 = some i))[0]? with
            | none => rw [hx] at hc; cases hc
            | some x =>
              rw [hx] at hc
              cases hc
              have hm := (List.mem_filter.mp (List.mem_of_getElem? hx)).1
              have := (hV.2.1.2.2.2.2.2.1 x (vlv_mem hm).1).1
              show 97 + (V.2.1 x).2.2.1 < 2 ^ 31
              omega
          rw [if_neg (show ¬ pI (Option.map (fun l => 97 + l) (some l)) = -1 from hl)]
          simp (disch := first | assumption | decide | omega) only [ep, b_I, b_Cn, x_atW]
          rfl
        | none =>
          have hx : oRM V h = .inr i := by unfold oRM; rw [hs]; dsimp only; rw [ht, hb0, hc]; rfl
          rw [hx]
          rw [if_pos (show pI (Option.map (fun l => 97 + l) none) = -1 from rfl), b_B (x := nI 1) (Or.inr rfl), x_pI W2 q0 rfl, x_gI W2 q0 rfl, up2_ni (by omega), q1, x_atW hk rfl]
          have na : ∀ x, x < V.1 → ad x ≠ a := by
            intro x hx e9
            have := (hV.2.2.2.2.2.2 x hx).1
            rw [e9] at this; omega
          obtain ⟨R3, e5, W3, e6, e7⟩ := s55_4 (z := z) (sl := sl) (d := d + 1) (I := up2 I1 (ad i) 7 (nI 1)) hk (L := vlv V) (by rw [up2_na (Ne.symm (na i hi))]; exact V2.2.2.1) hV.2.1.2.2.1 (ad := ad) (fun x hx => ⟨(V2.2.2.2.2.2.2 x (vlv_mem hx).1).1, by rw [up2_ni (by omega)]; exact (V2.2.2.2.2.2.2 x (vlv_mem hx).1).2.1, by have := (vlv_mem hx).1; omega⟩) (g := i) (by omega) (vlv V).length 0 (3999 - (vlv V).length) [] _ W2 (by omega) (by simp) (fun i h9 => by simp at h9) (fun i _ h9 => V2.2.2.2.2.1 i h9)
          have hl20 := hV.2.1.2.2.1
          rw [show 3999 - (vlv V).length + (vlv V).length + 1 = 4000 by omega, List.drop_zero, List.nil_append] at e5
          rw [List.drop_zero, List.nil_append] at e6
          have e8 : ag_run gT (d + 2) 55 [.inr (some a), .inl (nI i)] (hp z sl kd ln (up2 I1 (ad i) 7 (nI 1)) (up2 R (a + 6) h none)) = some (.inl none, hp z sl kd ln (up2 (up2 I1 (ad i) 7 (nI 1)) a 4 (nI ((vlv V).filter fun x => !Nat.beq x i).length)) R3) := by
            rw [r55]
            unfold f55
            rw [lit_0]
            exact e5
          -- the file's row, the server's row
          have V3 : CV kd ln (up2 (up2 I1 (ad i) 7 (nI 1)) a 4 (nI ((vlv V).filter fun x => !Nat.beq x i).length)) R3 a ad (goneF (setH V h none) i) := by
            obtain ⟨v1, v2, v3, v4, v5, v6, v7⟩ := V2
            have hvl : vlv (goneF (setH V h none) i) = (vlv V).filter fun x => !Nat.beq x i := vlv_gone (setH V h none) i
            refine ⟨v1, v2.gone e0, ?_, ?_, ?_, fun h' hh' => ?_, fun x hx => ?_⟩
            · rw [up2_eq, hvl]
            · rw [up2_ni (by omega), up2_na (Ne.symm (na i hi))]; exact v4
            · rw [hvl]; exact e6
            · rw [e7 _ _ (by omega)]; exact v6 h' hh'
            · obtain ⟨g0, g1, g2, g3, g4, g5, g6, g7, g8, g9⟩ := v7 x hx
              have hna := na x hx
              have hrow : ∀ j, j ≠ 7 → up2 (up2 I1 (ad i) 7 (nI 1)) a 4 (nI ((vlv V).filter fun x => !Nat.beq x i).length) (ad x) j = I1 (ad x) j := fun j hj => by rw [up2_na hna, up2_ni hj]
              have hrow2 : ∀ j, up2 (up2 I1 (ad i) 7 (nI 1)) a 4 (nI ((vlv V).filter fun x => !Nat.beq x i).length) (ad x + 1) j = I1 (ad x + 1) j := fun j => by
                have n1 : ad x + 1 ≠ a := by
                  intro e9
                  have := (W_9 W2 g0).1
                  rw [e9] at this; omega
                have n2 : ad x + 1 ≠ ad i := by
                  by_cases ex : x = i
                  · subst ex; omega
                  · exact Ne.symm (hinj i x hi hx (Ne.symm ex)).2
                rw [up2_na n1, up2_na n2]
              have e2 : ((goneF (setH V h none) i).2.1 x).2 = (V.2.1 x).2 := by
                show (up1 V.2.1 i (false, (V.2.1 i).2) x).2 = _
                by_cases ex : x = i
                · subst ex; rw [up1_eq]
                · rw [up1_ne ex]
              refine ⟨g0, by rw [hrow 0 (by omega)]; exact g1, by rw [hrow 1 (by omega), e2]; exact g2, fun h9 => by rw [e2] at h9 ⊢; rw [hrow 2 (by omega)]; exact g3 h9, by rw [hrow 3 (by omega), e2]; exact g4, by rw [hrow 5 (by omega), e2]; exact g5, by rw [hrow 6 (by omega), e2]; exact g6, ?_, by rw [e2]; exact g8, fun p hp => by rw [e2] at hp ⊢; rw [hrow2]; exact g9 p hp⟩
              show _ = bI (!(up1 V.2.1 i (false, (V.2.1 i).2) x).1)
              rw [up2_na hna]
              by_cases ex : x = i
              · subst ex; rw [up2_eq, up1_eq]; rfl
              · rw [up2_na (hinj x i hx hi ex).1, up1_ne ex]; exact g7
          have m3 : MM (up2 (up2 I1 (ad i) 7 (nI 1)) a 4 (nI ((vlv V).filter fun x => !Nat.beq x i).length)) (a + 1) (nI 122) (le (nI h) 4) (V.2.2.2 + nI 1) := by
            obtain ⟨x1, x2, x3, x4⟩ := m1
            have n1 : a + 1 ≠ ad i := by intro e9; rw [← e9] at q0; omega
            have n2 : a + 1 + 1 ≠ ad i := by intro e9; rw [← e9] at q0; have := (W_1 W2 k1).1; omega
            exact ⟨by rw [up2_na (by omega), up2_na n1]; exact x1, by rw [up2_na (by omega), up2_na n1]; exact x2, fun j hj => by rw [up2_na (by omega), up2_na n2]; exact x3 j hj, x4⟩
          have hr3 : MM (up2 (up2 I1 (ad i) 7 (nI 1)) a 4 (nI ((vlv V).filter fun x => !Nat.beq x i).length)) (a + 3) tr r rc := by
            obtain ⟨x1, x2, x3, x4⟩ := hr1
            have n1 : a + 3 ≠ ad i := by intro e9; rw [← e9] at q0; omega
            have n2 : a + 3 + 1 ≠ ad i := by intro e9; rw [← e9] at q0; have := (W_1 W2 k3).1; omega
            exact ⟨by rw [up2_na (by omega), up2_na n1]; exact x1, by rw [up2_na (by omega), up2_na n1]; exact x2, fun j hj => by rw [up2_na (by omega), up2_na n2]; exact x3 j hj, x4⟩
          obtain ⟨I4, e9, m4, f4⟩ := s48 (z := z) (sl := sl) (d := d) W3 hk hr3 (nI 122)
          refine ⟨I4, R3, ?_, W3, V3.fm W3 (Or.inr rfl) f4, ?_, ⟨_, m4⟩, fun b j hb1 hb2 => ?_, fun b j hb1 hb2 => ?_⟩
          · rw [e8, b_V, x_atW hk rfl, e9, b_I, b_Cn (by omega)]
            rfl
          · exact m3.fr f4 (by omega) (by omega) (by omega)
          · rw [f4 b j (by omega) (by omega), up2_na (by omega), up2_na (hb2 i hi).1, f1 b j (by omega) (by omega)]
          · rw [e7 b j hb1, up2_na hb2]
end DROP

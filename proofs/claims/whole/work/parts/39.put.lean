/-! SERVERS of the class: WRITE -/
section PUT
variable {z sl d : Nat} {kd ln : Nat → Nat} {I I1 I2 : Nat → Nat → Int32} {R R' : Nat → Nat → Option Nat} {a : Nat} {ad : Nat → Nat} {V V1 : zV}
theorem pu8_len {bs : List Int32} {q : Nat} {b : Int32} (h : q ≤ bs.length) : (pu8 bs q b).length = if bs.length < q + 1 then q + 1 else bs.length := by
  unfold pu8
  split
  · rw [List.length_set, if_neg (by omega)]
  · rw [List.length_append, List.length_singleton, if_pos (by omega)]; omega
theorem pu8_get {bs : List Int32} {q : Nat} {b : Int32} (h : q ≤ bs.length) {p : Nat} (hp : p < (pu8 bs q b).length) : (pu8 bs q b).getD p 0 = if p = q then b else bs.getD p 0 := by
  rw [pu8_len h] at hp
  unfold pu8
  split
  · rename_i h1
    rw [List.getD_eq_getElem?_getD, List.getElem?_set]
    by_cases e : q = p
    · subst e; rw [if_pos rfl, if_pos h1, if_pos rfl]; rfl
    · rw [if_neg e, if_neg (Ne.symm e), List.getD_eq_getElem?_getD]
  · rename_i h1
    have hq : q = bs.length := by omega
    rw [List.getD_eq_getElem?_getD]
    by_cases e : p = q
    · subst e; rw [if_pos rfl, hq]; simp
    · rw [if_neg e]
      split at hp
      · rw [List.getElem?_append_left (by omega), List.getD_eq_getElem?_getD]
      · rw [List.getElem?_append_left (by omega), List.getD_eq_getElem?_getD]
theorem put_1 (V : zV) (i q : Nat) (b : Int32) (x : Nat) : ((putF V i q b).2.1 x).1 = (V.2.1 x).1 ∧ ((putF V i q b).2.1 x).2.1 = (V.2.1 x).2.1 ∧ ((putF V i q b).2.1 x).2.2.1 = (V.2.1 x).2.2.1 ∧ ((putF V i q b).2.1 x).2.2.2.1 = (V.2.1 x).2.2.2.1 := by
  unfold putF
  dsimp only
  by_cases e : x = i
  · subst e; rw [up1_eq]; exact ⟨rfl, rfl, rfl, rfl⟩
  · rw [up1_ne e]; exact ⟨rfl, rfl, rfl, rfl⟩
theorem vlv_put (V : zV) (i q : Nat) (b : Int32) : vlv (putF V i q b) = vlv V := by
  unfold vlv
  apply List.filter_congr
  intro x _
  exact (put_1 V i q b x).1
theorem VW.put (hw : VW V) {i q v : Nat} (hi : i < V.1) (hd : (V.2.1 i).2.1 = false) (hq : q ≤ (V.2.1 i).2.2.2.2.1.length) (hq8 : q < 8) (hv : v < 256) : VW (putF V i q (nI v)) := by
  obtain ⟨w1, w2, w3, w4, w5, w6, w7, w8, w9, w10⟩ := hw
  have e := put_1 V i q (nI v)
  refine ⟨w1, w2, by rw [vlv_put]; exact w3, w4, w5, fun x hx => ?_, by rw [(e 0).2.1]; exact w7, by rw [(e 0).2.2.2]; exact w8, by rw [(e 0).1]; exact w9, fun x hx p hp => ?_⟩
  · obtain ⟨y1, y2, y3, y4⟩ := w6 x hx
    refine ⟨by rw [(e x).2.2.1]; exact y1, by rw [(e x).2.2.2]; exact y2, ?_, ?_⟩
    · rw [(e x).2.1]
      by_cases ex : x = i
      · subst ex
        show (up1 V.2.1 x _ x).2.2.2.2.1.length ≤ _
        rw [up1_eq]
        show (pu8 _ _ _).length ≤ _
        rw [pu8_len hq, hd]
        rw [hd] at y3
        have y3 : (V.2.1 x).2.2.2.2.1.length ≤ 8 := y3
        show _ ≤ 8
        split <;> omega
      · show (up1 V.2.1 i _ x).2.2.2.2.1.length ≤ _
        rw [up1_ne ex]; exact y3
    · intro b hb
      by_cases ex : x = i
      · subst ex
        have hb : b ∈ (up1 V.2.1 x ((V.2.1 x).1, (V.2.1 x).2.1, (V.2.1 x).2.2.1, (V.2.1 x).2.2.2.1, pu8 (V.2.1 x).2.2.2.2.1 q (nI v), (V.2.1 x).2.2.2.2.2 + nI 1) x).2.2.2.2.1 := hb
        rw [up1_eq] at hb
        have hb : b ∈ pu8 (V.2.1 x).2.2.2.2.1 q (nI v) := hb
        unfold pu8 at hb
        split at hb
        · rcases List.mem_or_eq_of_mem_set hb with h | h
          · exact y4 b h
          · exact ⟨v, hv, h⟩
        · rcases List.mem_append.mp hb with h | h
          · exact y4 b h
          · exact ⟨v, hv, List.mem_singleton.mp h⟩
      · have hb : b ∈ (up1 V.2.1 i ((V.2.1 i).1, (V.2.1 i).2.1, (V.2.1 i).2.2.1, (V.2.1 i).2.2.2.1, pu8 (V.2.1 i).2.2.2.2.1 q (nI v), (V.2.1 i).2.2.2.2.2 + nI 1) x).2.2.2.2.1 := hb
        rw [up1_ne ex] at hb
        exact y4 b hb
  · rw [(e x).2.2.2] at hp
    rw [(e p).2.1]
    exact w10 x hx p hp
/-- what a change of rows of files leaves of the messages -/
theorem MM.rows {m b : Nat} {t c : Int32} {pl : List Int32} (h : MM I m t pl c) (h1 : m ≠ b) (h2 : m ≠ b + 1) (h3 : m + 1 ≠ b) (hI : ∀ x j, x ≠ b → x ≠ b + 1 → I1 x j = I x j) : MM I1 m t pl c :=
  ⟨by rw [hI _ _ h1 h2]; exact h.1, by rw [hI _ _ h1 h2]; exact h.2.1, fun i hi => by rw [hI _ _ h3 (by omega)]; exact h.2.2.1 i hi, h.2.2.2⟩
theorem s43 (W : WS kd ln R) (hS : SB kd ln I R a ad V) (hinj : ∀ i j, i < V.1 → j < V.1 → i ≠ j → ad i ≠ ad j ∧ ad i ≠ ad j + 1) {h q v : Nat} (hh : h < 128) (hq8 : q ≤ 8) (hv : v < 256) (hf : ∀ i, V.2.2.1 h = some i → (V.2.1 i).1 = true → (V.2.1 i).2.1 = false ∧ q ≤ (V.2.1 i).2.2.2.2.1.length) :
    ∃ I' R', ag_run gT (d + 3) 43 [.inr (some a), .inl (nI h), .inl (nI q), .inl (nI v)] (hp z sl kd ln I R) = some (.inl (some (.inl (eI (oWR V h q)))), hp z sl kd ln I' R') ∧ SO kd ln I I' R R' a ad V (inc (uV V q (nI v) (oWR V h q))) 118 (le (nI h) 4 ++ le (nI q) 4 ++ le (nI v) 1) (rT 119 (oWR V h q)) (rW V q (nI v) (oWR V h q)) := by
  obtain ⟨hV, ⟨tq, q9, hq9⟩, tr, r, rc, hr⟩ := hS
  have hk := hV.1
  obtain ⟨k1, k3, k5, l5, k6, l6, r1, r2, r3, r4⟩ := W_7 W hk
  obtain ⟨I1, e1, m1, f1⟩ := s47 (z := z) (sl := sl) (d := d) W hk hq9 (nI 118) (nI h)
  obtain ⟨I2, e2, m2, f2⟩ := s9 (z := z) (sl := sl) (d := d + 1) W k1 m1 (nI q) 4 (by omega) (by simp [le])
  obtain ⟨I3, e3, m3, f3⟩ := s9 (z := z) (sl := sl) (d := d + 1) W k1 m2 (nI v) 1 (by omega) (by simp [le])
  have f13 := (f1.trans f2).trans f3
  have V3 := hV.fm W (Or.inl rfl) f13
  have hr3 := hr.fr f13 (by omega) (by omega) (by omega)
  have e4 := s51 (z := z) (sl := sl) (d := d + 1) W V3 hh
  have fin : ∀ {t : Nat} {l : List Int32} {I4 : Nat → Nat → Int32}, MM I4 (a + 3) (nI t) l (rc + nI 1) → Fm (a + 3) I3 I4 → SO kd ln I I4 R R a ad V (inc V) 118 (le (nI h) 4 ++ le (nI q) 4 ++ le (nI v) 1) t l := fun m f => SO_of W V3 rfl m3 f13 m f (fun _ _ _ => rfl)
  obtain ⟨Ie, ee, me, fe⟩ := s50 (z := z) (sl := sl) (d := d) W hk hr3 (e := 110) (by omega)
  obtain ⟨Ip, ep, mp, fp⟩ := s50 (z := z) (sl := sl) (d := d) W hk hr3 (e := 102) (by omega)
  rw [r43]
  unfold f43 f43_45 f43_66
  rw [lit8_118, lit8_110, lit8_102, lit_0, lit_1, lit_4, x_atW hk rfl, e1, b_V, x_gR W hk rfl, r1, x_atW k1 rfl, e2, b_V, x_gR W hk rfl, r1, x_atW k1 rfl, e3, b_V, x_atW hk rfl, e4, b_R]
  cases hs : V.2.2.1 h with
  | none =>
    have hx : oWR V h q = .inl 110 := by unfold oWR; rw [hs]
    rw [hx]
    refine ⟨Ie, R, ?_, fin me fe⟩
    simp (disch := first | assumption | decide | omega) only [Option.map_none, if_true, ee, b_I, b_Cn, x_atW]
    rfl
  | some i =>
    have hi := hV.2.1.2.2.2.1 h i hs
    obtain ⟨q0, q1, q2, q3, q4, q5, q6, q7, q8, q9⟩ := V3.2.2.2.2.2.2 i hi
    obtain ⟨kb, rb⟩ := W_9 W q0
    rw [Option.map_some, if_neg (by simp), x_gI W q0 rfl, q7]
    cases ht : (V.2.1 i).1
    · have hx : oWR V h q = .inl 110 := by unfold oWR; rw [hs]; dsimp only; rw [ht]; rfl
      rw [hx]
      refine ⟨Ie, R, ?_, fin me fe⟩
      rw [if_neg (by decide)]
      simp (disch := first | assumption | decide | omega) only [ee, b_I, b_Cn, x_atW]
      rfl
    · obtain ⟨hd, hql⟩ := hf i hs ht
      rw [hd] at q8
      have q8 : ln (ad i + 1) = 8 := q8
      rw [if_pos (show bI (!true) = nI 0 from rfl), if_neg (nI_nlt (Nat.zero_le _) (by omega)), x_gR W q0 rfl, rb, x_xN0 kb (by decide) (by omega), q8]
      by_cases h8 : q < 8
      · have hb8 : Nat.blt q 8 = true := Nat.ble_eq_true_of_le h8
        have hx : oWR V h q = .inr i := by unfold oWR; rw [hs]; dsimp only; rw [ht, hb8]; rfl
        rw [hx, if_pos (nI_lt h8 (by omega)), x_gR W q0 rfl, rb, x_yI kb rfl (by omega) (by omega), x_gI W q0 rfl, up2_na (by omega), q5]
        have hlen8 : (V.2.1 i).2.2.2.2.1.length ≤ 8 := by
          have := (hV.2.1.2.2.2.2.2.1 i hi).2.2.1
          rw [hd] at this
          exact this
        have e5 : ag_run gT (d + 2) 175 [.inl (nI (V.2.1 i).2.2.2.2.1.length), .inl (nI (q + 1))] (hp z sl kd ln (up2 I3 (ad i + 1) q (nI v)) R) = some (.inl (some (.inl (nI (pu8 (V.2.1 i).2.2.2.2.1 q (nI v)).length))), hp z sl kd ln (up2 I3 (ad i + 1) q (nI v)) R) := by
          rw [r175]
          unfold f175 f175_10
          rw [pu8_len hql]
          by_cases h9 : (V.2.1 i).2.2.2.2.1.length < q + 1
          · rw [if_pos (nI_lt h9 (by omega)), if_pos h9]
          · rw [if_neg (nI_nlt (by omega) (by omega)), if_neg h9]
        rw [nI_add, e5, b_I, x_pI W q0 rfl, x_gI W q0 rfl, up2_ni (by omega), up2_na (by omega), q6, x_pI W q0 rfl, x_atW hk rfl]
        -- the new rows
        have hN : ∀ N : Nat → Nat → Int32, N = up2 (up2 (up2 I3 (ad i + 1) q (nI v)) (ad i) 5 (nI (pu8 (V.2.1 i).2.2.2.2.1 q (nI v)).length)) (ad i) 6 ((V.2.1 i).2.2.2.2.2 + nI 1) → (∀ x j, x ≠ ad i → x ≠ ad i + 1 → N x j = I3 x j) ∧ CV kd ln N R a ad (putF V i q (nI v)) := by
          rintro N rfl
          have hI : ∀ x j, x ≠ ad i → x ≠ ad i + 1 → up2 (up2 (up2 I3 (ad i + 1) q (nI v)) (ad i) 5 (nI (pu8 (V.2.1 i).2.2.2.2.1 q (nI v)).length)) (ad i) 6 ((V.2.1 i).2.2.2.2.2 + nI 1) x j = I3 x j := fun x j h1 h2 => by rw [up2_na h1, up2_na h1, up2_na h2]
          refine ⟨hI, ?_⟩
          obtain ⟨v1, v2, v3, v4, v5, v6, v7⟩ := V3
          have na : a ≠ ad i := by intro e9; rw [← e9] at q0; omega
          have na1 : a ≠ ad i + 1 := by intro e9; rw [← e9] at kb; omega
          refine ⟨v1, v2.put hi hd hql h8 hv, by rw [hI _ _ na na1, vlv_put]; exact v3, by rw [hI _ _ na na1]; exact v4, by rw [vlv_put]; exact v5, v6, fun x hx => ?_⟩
          have ex4 := put_1 V i q (nI v) x
          obtain ⟨g0, g1, g2, g3, g4, g5, g6, g7, g8, g9⟩ := v7 x hx
          by_cases ex : x = i
          · subst ex
            have efx : (putF V x q (nI v)).2.1 x = ((V.2.1 x).1, (V.2.1 x).2.1, (V.2.1 x).2.2.1, (V.2.1 x).2.2.2.1, pu8 (V.2.1 x).2.2.2.2.1 q (nI v), (V.2.1 x).2.2.2.2.2 + nI 1) := up1_eq _ _ _
            rw [efx]
            refine ⟨g0, ?_, ?_, ?_, ?_, ?_, ?_, ?_, g8, ?_⟩
            · rw [up2_ni (by omega), up2_ni (by omega), up2_na (by omega)]; exact g1
            · rw [up2_ni (by omega), up2_ni (by omega), up2_na (by omega)]; exact g2
            · rw [up2_ni (by omega), up2_ni (by omega), up2_na (by omega)]; exact g3
            · rw [up2_ni (by omega), up2_ni (by omega), up2_na (by omega)]; exact g4
            · rw [up2_ni (by omega), up2_eq]
            · rw [up2_eq]
            · rw [up2_ni (by omega), up2_ni (by omega), up2_na (by omega)]; exact g7
            · intro p hp
              have hp : p < (pu8 (V.2.1 x).2.2.2.2.1 q (nI v)).length := hp
              show _ = (pu8 (V.2.1 x).2.2.2.2.1 q (nI v)).getD p 0
              rw [pu8_get hql hp, up2_na (by omega), up2_na (by omega)]
              by_cases ep : p = q
              · subst ep; rw [up2_eq, if_pos rfl]
              · rw [up2_ni ep, if_neg ep]
                rw [pu8_len hql] at hp
                exact g9 p (by split at hp <;> omega)
          · have efx : (putF V i q (nI v)).2.1 x = V.2.1 x := up1_ne ex
            have n1 := hinj x i hx hi ex
            have n2 := hinj i x hi hx (Ne.symm ex)
            rw [efx]
            have e1 : ∀ j, up2 (up2 (up2 I3 (ad i + 1) q (nI v)) (ad i) 5 (nI (pu8 (V.2.1 i).2.2.2.2.1 q (nI v)).length)) (ad i) 6 ((V.2.1 i).2.2.2.2.2 + nI 1) (ad x) j = I3 (ad x) j := fun j => hI _ _ n1.1 n1.2
            have e2 : ∀ j, up2 (up2 (up2 I3 (ad i + 1) q (nI v)) (ad i) 5 (nI (pu8 (V.2.1 i).2.2.2.2.1 q (nI v)).length)) (ad i) 6 ((V.2.1 i).2.2.2.2.2 + nI 1) (ad x + 1) j = I3 (ad x + 1) j := fun j => hI _ _ (Ne.symm n2.2) (by have := n1.1; omega)
            exact ⟨g0, by rw [e1]; exact g1, by rw [e1]; exact g2, fun h9 => by rw [e1]; exact g3 h9, by rw [e1]; exact g4, by rw [e1]; exact g5, by rw [e1]; exact g6, by rw [e1]; exact g7, g8, fun p hp => by rw [e2]; exact g9 p hp⟩
        obtain ⟨N, hNe⟩ : ∃ N, N = up2 (up2 (up2 I3 (ad i + 1) q (nI v)) (ad i) 5 (nI (pu8 (V.2.1 i).2.2.2.2.1 q (nI v)).length)) (ad i) 6 ((V.2.1 i).2.2.2.2.2 + nI 1) := ⟨_, rfl⟩
        obtain ⟨hI, V4⟩ := hN N hNe
        rw [← hNe]
        have y0 : a + 1 ≠ ad i := by intro e9; rw [← e9] at q0; omega
        have y1 : a + 1 ≠ ad i + 1 := by intro e9; have : a = ad i := by omega
                                         rw [← this] at q0; omega
        have y2 : a + 1 + 1 ≠ ad i := by intro e9; rw [← e9] at q0; have := (W_1 W k1).1; omega
        have y3 : a + 3 ≠ ad i := by intro e9; rw [← e9] at q0; omega
        have y4 : a + 3 ≠ ad i + 1 := by intro e9; have : ad i = a + 1 + 1 := by omega
                                         rw [this] at q0; have := (W_1 W k1).1; omega
        have y5 : a + 3 + 1 ≠ ad i := by intro e9; rw [← e9] at q0; have := (W_1 W k3).1; omega
        have m4 := m3.rows y0 y1 y2 hI
        have hr4 := hr3.rows y3 y4 y5 hI
        obtain ⟨I5, e6, m5, f5⟩ := s48 (z := z) (sl := sl) (d := d) W hk hr4 (nI 118)
        have V5 := V4.fm W (Or.inr rfl) f5
        obtain ⟨I6, e7, m6, f6⟩ := s9 (z := z) (sl := sl) (d := d + 1) W k3 m5 (nI (pu8 (V.2.1 i).2.2.2.2.1 q (nI v)).length) 4 (by omega) (by simp)
        have f56 := f5.trans f6
        have q5' : I5 (ad i) 5 = nI (pu8 (V.2.1 i).2.2.2.2.1 q (nI v)).length := by
          have := (V5.2.2.2.2.2.2 i hi).2.2.2.2.2.1
          rw [this]
          show nI (up1 V.2.1 i _ i).2.2.2.2.1.length = _
          rw [up1_eq]
        refine ⟨I6, R, ?_, W, V5.fm W (Or.inr rfl) f6, m4.fr f56 (by omega) (by omega) (by omega), ⟨_, m6⟩, fun b j hb1 hb2 => ?_, fun b j _ _ => rfl⟩
        · rw [e6, b_I, x_gR W hk rfl, r2, x_gI W q0 rfl, q5', x_atW k3 rfl, e7, b_V, b_Cn (by omega)]
          rfl
        · rw [f56 b j (by omega) (by omega), hI _ _ (hb2 i hi).1 (hb2 i hi).2, f13 b j (by omega) (by omega)]
      · have hb8 : Nat.blt q 8 = false := by
          cases hb : Nat.blt q 8
          · rfl
          · exact absurd (g_lt hb) h8
        have hx : oWR V h q = .inl 102 := by unfold oWR; rw [hs]; dsimp only; rw [ht, hb8]; rfl
        rw [hx]
        refine ⟨Ip, R, ?_, fin mp fp⟩
        rw [if_neg (nI_nlt (by omega) (by omega))]
        simp (disch := first | assumption | decide | omega) only [ep, b_I, b_Cn, x_atW]
        rfl
end PUT

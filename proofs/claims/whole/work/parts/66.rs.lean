/-! THE REFERENCE: its servers, asking and replying -/
def sN (o : Option Nat) : Nat := match o with
  | none => 0
  | some i => i + 1
def lI (f : zF) : Int32 := match f.2.2.2.1 with
  | none => -1
  | some _ => nI f.2.2.1
def pJ (s : Nat) (f : zF) : Int32 := match f.2.2.2.1 with
  | none => -1
  | some p => nI (300 * s + p)
def RFl (M : Nat → Nat → Int32) (s i : Nat) (f : zF) : Prop := M 235 (300 * s + i) = bI f.1 ∧ M 236 (300 * s + i) = bI f.2.1 ∧ M 237 (300 * s + i) = lI f ∧ M 238 (300 * s + i) = pJ s f ∧ M 239 (300 * s + i) = nI f.2.2.2.2.1.length ∧ M 240 (300 * s + i) = f.2.2.2.2.2 ∧ ∀ q, q < f.2.2.2.2.1.length → M 241 (8 * (300 * s + i) + q) = f.2.2.2.2.1.getD q 0
def RV1 (M : Nat → Nat → Int32) (s : Nat) (V : zV) : Prop := M 234 s = nI V.1 ∧ M 243 s = V.2.2.2 ∧ (∀ i, i < V.1 → RFl M s i (V.2.1 i)) ∧ (∀ i, V.1 ≤ i → i < 300 → M 239 (300 * s + i) = nI 0 ∧ M 240 (300 * s + i) = nI 0) ∧ ∀ x, x < 200 → M 242 (200 * s + x) = nI (sN (V.2.2.1 x))
def RV (V : Nat → zV) (M : Nat → Nat → Int32) : Prop := ∀ s, s < 2 → RV1 M s (V s)
def GM (M : Nat → Nat → Int32) (r k : Nat) (t : Int32) (q : List Int32) : Prop := M 230 k = nI (7 + q.length) ∧ q.length < 100 ∧ ∀ i, i < 7 + q.length → M r i = (msg t q).getD i 0
def RG (S : zS) (M : Nat → Nat → Int32) : Prop := GM M 244 17 S.2.2.1 S.2.2.2.1 ∧ GM M 245 19 S.2.2.2.2.1 S.2.2.2.2.2
/-- what asking and replying leave alone -/
def FQ (M M' : Nat → Nat → Int32) : Prop := ∀ b j, b ≠ 243 → b ≠ 244 → b ≠ 245 → ¬ (b = 230 ∧ (j = 17 ∨ j = 19 ∨ j = 20)) → M' b j = M b j
theorem FQ.trans {M M' M'' : Nat → Nat → Int32} (h1 : FQ M M') (h2 : FQ M' M'') : FQ M M'' := fun b j q1 q2 q3 q4 => (h2 b j q1 q2 q3 q4).trans (h1 b j q1 q2 q3 q4)
theorem FA.q {M M' : Nat → Nat → Int32} (h : FA M M') : FQ M M' := fun b j _ q2 _ q4 => h b j q2 (by omega)
theorem FB.q {M M' : Nat → Nat → Int32} (h : FB M M') : FQ M M' := fun b j _ _ q3 q4 => h b j q3 (by omega)
set_option maxRecDepth 100000 in
theorem by8_h : ∀ n, n < 256 → by8 (nI n) 0 = nI n ∧ by8 (nI n) 8 = nI 0 ∧ by8 (nI n) 16 = nI 0 ∧ by8 (nI n) 24 = nI 0 := by decide +kernel
set_option maxRecDepth 100000 in
theorem md300 : ∀ s, s < 2 → ∀ i, i < 300 → nI (300 * s + i) - nI (300 * s + i) / nI 300 * nI 300 = nI i := by decide +kernel
section RSV
variable {A : zA} {M M' : Nat → Nat → Int32} {h : ag_H} {d s : Nat} {V : Nat → zV}
theorem RV1.cong2 {W : zV} (hV : RV1 M s W) {c : Int32} (h3 : M' 243 s = c) (hR : ∀ b j, 234 ≤ b → b ≤ 242 → M' b j = M b j) : RV1 M' s (W.1, W.2.1, W.2.2.1, c) := by
  obtain ⟨v1, v2, v3, v4, v5⟩ := hV
  refine ⟨by rw [hR _ _ (by decide) (by decide)]; exact v1, h3, fun i hi => ?_, fun i h1 h2 => ?_, fun x hx => by rw [hR _ _ (by decide) (by decide)]; exact v5 x hx⟩
  · obtain ⟨f1, f2, f3, f4, f5, f6, f7⟩ := v3 i hi
    exact ⟨by rw [hR _ _ (by decide) (by decide)]; exact f1, by rw [hR _ _ (by decide) (by decide)]; exact f2, by rw [hR _ _ (by decide) (by decide)]; exact f3, by rw [hR _ _ (by decide) (by decide)]; exact f4, by rw [hR _ _ (by decide) (by decide)]; exact f5, by rw [hR _ _ (by decide) (by decide)]; exact f6, fun q hq => by rw [hR _ _ (by decide) (by decide)]; exact f7 q hq⟩
  · exact ⟨by rw [hR _ _ (by decide) (by decide)]; exact (v4 i h1 h2).1, by rw [hR _ _ (by decide) (by decide)]; exact (v4 i h1 h2).2⟩
theorem RV1.congr {W : zV} (hV : RV1 M s W) (h3 : M' 243 s = M 243 s) (hR : ∀ b j, 234 ≤ b → b ≤ 242 → M' b j = M b j) : RV1 M' s W := hV.cong2 (h3.trans hV.2.1) hR
theorem RV.fa (hV : RV V M) (hF : FA M M') : RV V M' := fun s hs => (hV s hs).congr (hF _ _ (by decide) (by omega)) (fun b j h1 h2 => hF b j (by omega) (by omega))
theorem RV.fb (hV : RV V M) (hF : FB M M') : RV V M' := fun s hs => (hV s hs).congr (hF _ _ (by decide) (by omega)) (fun b j h1 h2 => hF b j (by omega) (by omega))
theorem RV.f230 (hV : RV V M) {k : Nat} {v : Int32} : RV V (up2 M 230 k v) := fun s hs => (hV s hs).congr (up2_na (by decide)) (fun b j h1 h2 => up2_na (by omega))
theorem TA.t117 (hT : TA A M h) (hV : RV V M) (hs : s < 2) (t x : Nat) : ∃ h' M', ag_run gT (d + 2) 117 [.inr (some 230), .inl (nI s), .inl (nI t), .inl (nI x)] h = some (.inl none, h') ∧ TA A M' h' ∧ AS M' (le (nI t) 1 ++ le (nI 1) 2 ++ le (nI x) 4) ∧ RS M' (le (nI (t + 1)) 1 ++ le (nI 1) 2) ∧ M' 230 20 = nI 0 ∧ RV (up1 V s (inc (V s))) M' ∧ FQ M M' := by
  have T1 := hT.sI (k := 17) rfl (nI 4)
  have A1 : AS (up2 M 230 17 (nI 4)) [] := ⟨up2_eq _ _ _ _, by decide, fun i hi => by simp at hi⟩
  obtain ⟨h2, M2, e2, T2, A2, F2⟩ := T1.t115 (d := d) A1 (nI t) (n := 1) (by decide) (by decide)
  obtain ⟨h3, M3, e3, T3, A3, F3⟩ := T2.t115 (d := d) A2 (nI 1) (n := 2) (by decide) (by simp [le])
  obtain ⟨h4, M4, e4, T4, A4, F4⟩ := T3.t115 (d := d) A3 (nI x) (n := 4) (by decide) (by simp [le])
  have V4 := ((hV.f230 (k := 17) (v := nI 4)).fa F2).fa F3 |>.fa F4
  have hc := (V4 s hs).2.1
  have T5 := T4.sx (a := 243) (c := 100) (i := s) rfl ((V s).2.2.2 + nI 1)
  have T6 := T5.sI (k := 20) rfl (nI 0)
  have T7 := T6.sI (k := 19) rfl (nI 4)
  have R7 : RS (up2 (up2 (up2 M4 243 s ((V s).2.2.2 + nI 1)) 230 20 (nI 0)) 230 19 (nI 4)) [] := ⟨up2_eq _ _ _ _, by decide, fun i hi => by simp at hi⟩
  obtain ⟨h8, M8, e8, T8, R8, F8⟩ := T7.t116 (d := d) R7 (nI (t + 1)) (n := 1) (by decide) (by decide)
  obtain ⟨h9, M9, e9, T9, R9, F9⟩ := T8.t116 (d := d) R8 (nI 1) (n := 2) (by decide) (by simp [le])
  have fr : ∀ b j, ¬ (b = 243 ∧ j = s) → ¬ (b = 230 ∧ j = 20) → ¬ (b = 230 ∧ j = 19) → b ≠ 245 → M9 b j = M4 b j := fun b j q1 q2 q3 q4 => by
    rw [F9 b j q4 q3, F8 b j q4 q3, up2_ne q3, up2_ne q2, up2_ne q1]
  refine ⟨h9, M9, ?_, T9, ?_, ?_, ?_, fun u hu => ?_, fun b j q1 q2 q3 q4 => ?_⟩
  · rw [r117]
    unfold f117
    rw [lit_4, lit_1, lit_2, lit_0, hT.wI (k := 17) rfl, T1.ra, e2, b_V, T2.ra, e3, b_V, T3.ra, e4, b_V, T4.rR (k := 15) (b := 243) rfl rfl, T4.rx (a := 243) (c := 100) (i := s) rfl hs, hc, T4.wx (a := 243) (c := 100) (i := s) rfl hs, T5.wI (k := 20) rfl, T6.wI (k := 19) rfl, T7.ra, nI_add, e8, b_V, T8.ra, e9, b_V]
  · have : [] ++ le (nI t) 1 ++ le (nI 1) 2 ++ le (nI x) 4 = le (nI t) 1 ++ le (nI 1) 2 ++ le (nI x) 4 := rfl
    rw [this] at A4
    exact A4.congr (fr _ _ (by omega) (by decide) (by decide) (by decide)) (fun j => fr _ _ (by omega) (by omega) (by omega) (by decide))
  · exact R9
  · rw [F9 _ _ (by decide) (by decide), F8 _ _ (by decide) (by decide), up2_ni (by decide), up2_eq]
  · by_cases e : u = s
    · subst e
      rw [up1_eq]
      exact (V4 u hu).cong2 (by rw [F9 _ _ (by decide) (by omega), F8 _ _ (by decide) (by omega), up2_na (by decide), up2_na (by decide), up2_eq]) (fun b j h1 h2 => fr b j (by omega) (by omega) (by omega) (by omega))
    · rw [up1_ne e]
      exact (V4 u hu).congr (fr _ _ (by omega) (by omega) (by omega) (by omega)) (fun b j h1 h2 => fr b j (by omega) (by omega) (by omega) (by omega))
  · rw [fr b j (by omega) (by omega) (by omega) q3, F4 b j q2 (by omega), F3 b j q2 (by omega), F2 b j q2 (by omega), up2_ne (by omega)]
theorem TA.t118 (hT : TA A M h) (c : Nat) : ∃ h' M', ag_run gT (d + 2) 118 [.inr (some 230), .inl (nI c)] h = some (.inl none, h') ∧ TA A M' h' ∧ RS M' (le (nI 107) 1 ++ le (nI 1) 2 ++ err c) ∧ M' 230 20 = nI c ∧ ∀ b j, b ≠ 245 → ¬ (b = 230 ∧ (j = 19 ∨ j = 20)) → M' b j = M b j := by
  have T1 := hT.sI (k := 20) rfl (nI c)
  have T2 := T1.sI (k := 19) rfl (nI 4)
  have R2 : RS (up2 (up2 M 230 20 (nI c)) 230 19 (nI 4)) [] := ⟨up2_eq _ _ _ _, by decide, fun i hi => by simp at hi⟩
  obtain ⟨h3, M3, e3, T3, R3, F3⟩ := T2.t116 (d := d) R2 (nI 107) (n := 1) (by decide) (by decide)
  obtain ⟨h4, M4, e4, T4, R4, F4⟩ := T3.t116 (d := d) R3 (nI 1) (n := 2) (by decide) (by simp [le])
  obtain ⟨h5, M5, e5, T5, R5, F5⟩ := T4.t116 (d := d) R4 (nI 1) (n := 2) (by decide) (by simp [le])
  obtain ⟨h6, M6, e6, T6, R6, F6⟩ := T5.t116 (d := d) R5 (nI c) (n := 1) (by decide) (by simp [le])
  have fr : ∀ b j, ¬ (b = 230 ∧ j = 19) → b ≠ 245 → M6 b j = up2 (up2 M 230 20 (nI c)) 230 19 (nI 4) b j := fun b j q3 q4 => by rw [F6 b j q4 q3, F5 b j q4 q3, F4 b j q4 q3, F3 b j q4 q3]
  refine ⟨h6, M6, ?_, T6, ?_, ?_, fun b j q1 q2 => ?_⟩
  · rw [r118]
    unfold f118
    rw [lit_4, lit_1, lit_2, lit8_107, hT.wI (k := 20) rfl, T1.wI (k := 19) rfl, T2.ra, e3, b_V, T3.ra, e4, b_V, T4.ra, e5, b_V, T5.ra, e6, b_V]
  · have : [] ++ le (nI 107) 1 ++ le (nI 1) 2 ++ le (nI 1) 2 ++ le (nI c) 1 = le (nI 107) 1 ++ le (nI 1) 2 ++ err c := rfl
    rw [this] at R6
    exact R6
  · rw [fr _ _ (by decide) (by decide), up2_ni (by decide), up2_eq]
  · rw [fr b j (by omega) q1, up2_ne (by omega), up2_ne (by omega)]
theorem TA.t119 (hT : TA A M h) (hV : RV V M) (hs : s < 2) {i : Nat} (hi : i < (V s).1) (h3 : i < 300) {pl : List Int32} (hR : RS M pl) (hl : pl.length ≤ 9) : ∃ h' M', ag_run gT (d + 2) 119 [.inr (some 230), .inl (nI (300 * s + i))] h = some (.inl none, h') ∧ TA A M' h' ∧ RS M' (pl ++ tel i ((V s).2.1 i)) ∧ FB M M' := by
  obtain ⟨f1, f2, f3, f4, f5, f6, f7⟩ := (hV s hs).2.2.1 i hi
  have hlen : 300 * s + i < 600 := by omega
  obtain ⟨h1, M1, e1, T1, R1, F1⟩ := hT.t116 (d := d) hR (bI ((V s).2.1 i).2.1) (n := 1) (by decide) (by omega)
  obtain ⟨h2, M2, e2, T2, R2, F2⟩ := T1.t116 (d := d) R1 ((V s).2.1 i).2.2.2.2.2 (n := 4) (by decide) (by simp [le]; omega)
  obtain ⟨h3', M3, e3, T3, R3, F3⟩ := T2.t116 (d := d) R2 (nI i) (n := 4) (by decide) (by simp [le]; omega)
  have f6' : M1 240 (300 * s + i) = ((V s).2.1 i).2.2.2.2.2 := by rw [F1 _ _ (by decide) (by omega)]; exact f6
  refine ⟨h3', M3, ?_, T3, ?_, fun b j q1 q2 => by rw [F3 b j q1 q2, F2 b j q1 q2, F1 b j q1 q2]⟩
  · rw [r119]
    unfold f119 f119_15
    rw [hT.rR (k := 8) (b := 236) rfl rfl, hT.rx (a := 236) (c := 102) (i := 300 * s + i) rfl hlen, f2, lit_0, lit_1, lit_4]
    have fin : (ag_at h1 (some 230) 11 fun a5 _ => ag_bV (ag_run gT (d + 1) 116 [.inr (some a5), .inl ((V s).2.1 i).2.2.2.2.2, .inl (nI 4)] h1) fun h6 =>
        ag_dv (ag_lit16 300) <|
        ag_at h6 (some 230) 11 fun a7 _ => ag_bV (ag_run gT (d + 1) 116 [.inr (some a7), .inl (nI (300 * s + i) - nI (300 * s + i) / (ag_lit16 300) * (ag_lit16 300)), .inl (nI 4)] h6) fun h8 =>
        some (.inl none, h8)) = some (.inl none, h3') := by
      rw [T1.ra, e2, b_V, lit16_300, b_d (by decide), T2.ra, md300 s hs i h3, e3, b_V]
    cases hd : ((V s).2.1 i).2.1
    · rw [hd] at e1
      have e1 : ag_run gT (d + 1) 116 [.inr (some 230), .inl (nI 0), .inl (nI 1)] h = some (.inl none, h1) := e1
      rw [if_pos (show bI false = nI 0 from rfl), hT.ra, e1, b_V, T1.rR (k := 12) (b := 240) rfl rfl, T1.rx (a := 240) (c := 100) (i := 300 * s + i) rfl hlen, f6']
      exact fin
    · rw [hd] at e1
      have e1 : ag_run gT (d + 1) 116 [.inr (some 230), .inl (nI 1), .inl (nI 1)] h = some (.inl none, h1) := e1
      rw [if_neg (show ¬ bI true = nI 0 by decide), hT.ra, e1, b_V, T1.rR (k := 12) (b := 240) rfl rfl, T1.rx (a := 240) (c := 100) (i := 300 * s + i) rfl hlen, f6']
      exact fin
  · unfold tel
    rw [List.append_assoc, List.append_assoc] at R3
    rw [List.append_assoc]
    exact R3
theorem t120_2 {x y : Nat} : ∀ (m k n : Nat) (M : Nat → Nat → Int32) (h : ag_H), k + m = 4 → TA A M h → M 230 17 = nI x → M 230 19 = nI y →
    ∃ h' M', g120 (ag_run gT d) (n + m + 1) (some 230) (nI k) h = some (.inl none, h') ∧ TA A M' h' ∧ (∀ i, M' 244 i = if k ≤ i ∧ i < 4 then by8 (nI x) (8 * i) else M 244 i) ∧ (∀ i, M' 245 i = if k ≤ i ∧ i < 4 then by8 (nI y) (8 * i) else M 245 i) ∧ ∀ b j, b ≠ 244 → b ≠ 245 → M' b j = M b j := by
  intro m
  induction m with
  | zero =>
    intro k n M h hk hT hx hy
    refine ⟨h, M, ?_, hT, fun i => by rw [if_neg (by omega)], fun i => by rw [if_neg (by omega)], fun _ _ _ _ => rfl⟩
    show f120_2 _ _ _ _ _ = _
    unfold f120_2
    rw [lit_4, if_pos (nI_le (by omega) (by omega))]
  | succ m ih =>
    intro k n M h hk hT hx hy
    have T1 := hT.sx (a := 244) (c := 100) (i := k) rfl (by8 (nI x) (8 * k))
    have y1 : up2 M 244 k (by8 (nI x) (8 * k)) 230 19 = nI y := by rw [up2_na (by decide)]; exact hy
    have T2 := T1.sx (a := 245) (c := 100) (i := k) rfl (by8 (nI y) (8 * k))
    obtain ⟨h3, M3, e3, T3, a3, b3, F3⟩ := ih (k + 1) n _ _ (by omega) T2 (by rw [up2_na (by decide), up2_na (by decide)]; exact hx) (by rw [up2_na (by decide), up2_na (by decide)]; exact hy)
    refine ⟨h3, M3, ?_, T3, fun i => ?_, fun i => ?_, fun b j q1 q2 => by rw [F3 b j q1 q2, up2_na q2, up2_na q1]⟩
    · rw [show n + (m + 1) + 1 = (n + m + 1) + 1 by omega]
      show f120_2 _ _ _ _ _ = _
      unfold f120_2
      have hb : ∀ v : Int32, (v.toUInt32 >>> ((nI 8 * nI k).toUInt32 &&& Int32.toUInt32 31)).toInt32 &&& nI 255 = by8 v (8 * k) := fun v => by rw [nI_mul]; rfl
      rw [lit_4, if_neg (nI_ge (by omega) (by omega)), hT.rR (k := 16) (b := 244) rfl rfl, hT.rI (k := 17) rfl, hx, lit8_8, lit16_255, hb, hT.wx (a := 244) (c := 100) (i := k) rfl (show k < 40 by omega), T1.rR (k := 18) (b := 245) rfl rfl, T1.rI (k := 19) rfl, y1, hb, T1.wx (a := 245) (c := 100) (i := k) rfl (show k < 24 by omega), lit_1, nI_add]
      exact e3
    · rw [a3 i]
      by_cases e : i = k
      · subst e
        rw [if_neg (by omega), if_pos (by omega), up2_na (by decide), up2_eq]
      · rw [up2_na (by decide), up2_ni e]
        by_cases e2 : k + 1 ≤ i ∧ i < 4
        · rw [if_pos e2, if_pos (by omega)]
        · rw [if_neg e2, if_neg (by omega)]
    · rw [b3 i]
      by_cases e : i = k
      · subst e
        rw [if_neg (by omega), if_pos (by omega), up2_eq]
      · rw [up2_ni e, up2_na (by decide)]
        by_cases e2 : k + 1 ≤ i ∧ i < 4
        · rw [if_pos e2, if_pos (by omega)]
        · rw [if_neg e2, if_neg (by omega)]
theorem gm_of {r k N t : Nat} {q : List Int32} (ht : t < 256) (hq : q.length < 100) (hB : BS M r k N (le (nI t) 1 ++ le (nI 1) 2 ++ q)) (h1 : M' 230 k = M 230 k) (h2 : ∀ i, M' r i = if 0 ≤ i ∧ i < 4 then by8 (nI (7 + q.length)) (8 * i) else M r i) : GM M' r k (nI t) q := by
  have hl : (le (nI t) 1 ++ le (nI 1) 2 ++ q).length = 3 + q.length := by simp [le]; omega
  have hL : le (nI t) 1 ++ le (nI 1) 2 ++ q = nI t :: nI 1 :: nI 0 :: q := by
    show by8 (nI t) 0 :: by8 (nI 1) 0 :: by8 (nI 1) 8 :: q = _
    rw [(by8_h t ht).1, (by8_h 1 (by decide)).1, (by8_h 1 (by decide)).2.1]
  have hh := by8_h (7 + q.length) (by omega)
  refine ⟨by rw [h1, hB.1, hl]; congr 1; omega, hq, fun i hi => ?_⟩
  rw [h2]
  by_cases e : i < 4
  · rw [if_pos ⟨by omega, e⟩]
    have : i = 0 ∨ i = 1 ∨ i = 2 ∨ i = 3 := by omega
    rcases this with rfl | rfl | rfl | rfl
    · exact hh.1
    · exact hh.2.1
    · exact hh.2.2.1
    · exact hh.2.2.2
  · rw [if_neg (by omega)]
    obtain ⟨k', rfl⟩ : ∃ k', i = 4 + k' := ⟨i - 4, by omega⟩
    rw [hB.2.2 k' (by rw [hl]; omega), hL, Nat.add_comm 4 k']
    rfl
theorem TA.t120 (hT : TA A M h) {t u : Nat} {q r : List Int32} (ht : t < 256) (hu : u < 256) (hA : AS M (le (nI t) 1 ++ le (nI 1) 2 ++ q)) (hR : RS M (le (nI u) 1 ++ le (nI 1) 2 ++ r)) : ∃ h' M', ag_run gT (d + 1) 120 [.inr (some 230)] h = some (.inl none, h') ∧ TA A M' h' ∧ GM M' 244 17 (nI t) q ∧ GM M' 245 19 (nI u) r ∧ ∀ b j, b ≠ 244 → b ≠ 245 → M' b j = M b j := by
  have l1 : (le (nI t) 1 ++ le (nI 1) 2 ++ q).length = 3 + q.length := by simp [le]; omega
  have l2 : (le (nI u) 1 ++ le (nI 1) 2 ++ r).length = 3 + r.length := by simp [le]; omega
  have x1 : M 230 17 = nI (7 + q.length) := by rw [hA.1, l1]; congr 1; omega
  have y1 : M 230 19 = nI (7 + r.length) := by rw [hR.1, l2]; congr 1; omega
  have b1 := hA.2.1
  have b2 := hR.2.1
  rw [l1] at b1
  rw [l2] at b2
  obtain ⟨h', M', e, T, a, b, F⟩ := t120_2 (d := d) 4 0 3995 M h (by omega) hT x1 y1
  refine ⟨h', M', ?_, T, gm_of ht (by omega) hA (F _ _ (by decide) (by decide)) a, gm_of hu (by omega) hR (F _ _ (by decide) (by decide)) b, F⟩
  rw [r120]
  unfold f120
  rw [lit_0]
  exact e
/-- the file of a handle, the least free handle -/
theorem TA.t121 (hT : TA A M h) (hV : RV V M) (hs : s < 2) {x i : Nat} (hx : x < 200) (hi : (V s).2.2.1 x = some i) : ag_run gT (d + 1) 121 [.inr (some 230), .inl (nI s), .inl (nI x)] h = some (.inl (some (.inl (nI (300 * s + i)))), h) := by
  have h1 := (hV s hs).2.2.2.2 x hx
  rw [hi] at h1
  rw [r121]
  unfold f121
  rw [hT.rR (k := 14) (b := 242) rfl rfl, lit16_200, lit16_300, lit_1, nI_mul, nI_mul, nI_add, hT.rx (a := 242) (c := 100) (i := 200 * s + x) rfl (show 200 * s + x < 400 by omega), h1, nI_add, nI_sub (show 1 ≤ 300 * s + sN (some i) by show 1 ≤ 300 * s + (i + 1); omega)]
  show some (Sum.inl (some (Sum.inl (nI (300 * s + (i + 1) - 1)))), h) = _
  rw [show 300 * s + (i + 1) - 1 = 300 * s + i by omega]
theorem t122_2 (hT : TA A M h) (hV : RV V M) (hs : s < 2) (hw : ∀ x i, (V s).2.2.1 x = some i → i < 300) : ∀ (m k n f : Nat), k + m = 128 → (List.range' k m).find? (fun x => ((V s).2.2.1 x).isNone) = some f → g122 (ag_run gT d) (n + m + 1) (some 230) (nI s) (nI k) h = some (.inl (some (.inl (nI f))), h) := by
  intro m
  induction m with
  | zero => intro k n f hk hf; cases hf
  | succ m ih =>
    intro k n f hk hf
    rw [List.range'_succ, List.find?_cons] at hf
    have h1 := (hV s hs).2.2.2.2 k (by omega)
    rw [show n + (m + 1) + 1 = (n + m + 1) + 1 by omega]
    show f122_2 _ _ _ _ _ _ = _
    unfold f122_2
    rw [hT.rR (k := 14) (b := 242) rfl rfl, lit16_200, nI_mul, nI_add, hT.rx (a := 242) (c := 100) (i := 200 * s + k) rfl (show 200 * s + k < 400 by omega), h1, lit_0, lit_1, nI_add]
    cases hb : (V s).2.2.1 k with
    | none =>
      rw [hb] at hf
      cases hf
      rw [if_pos (show nI (sN none) = nI 0 from rfl)]
    | some i =>
      rw [hb] at hf
      have := hw k i hb
      rw [if_neg (show ¬ nI (sN (some i)) = nI 0 by show ¬ nI (i + 1) = nI 0; rw [nI_eq (by omega) (by omega)]; omega)]
      exact ih (k + 1) n f (by omega) hf
theorem TA.t122 (hT : TA A M h) (hV : RV V M) (hs : s < 2) (hw : VW (V s)) {f : Nat} (hf : vfr (V s) = some f) : ag_run gT (d + 1) 122 [.inr (some 230), .inl (nI s)] h = some (.inl (some (.inl (nI f))), h) := by
  rw [r122]
  unfold f122
  rw [lit_0]
  unfold vfr at hf
  rw [List.range_eq_range'] at hf
  exact t122_2 (d := d) hT hV hs (fun x i hx => by have := hw.2.2.2.1 x i hx; have := hw.2.1; omega) 128 0 3871 f (by omega) hf
end RSV

/-! THE REFERENCE: members of a place -/
def FY (j w : Nat) (M M' : Nat → Nat → Int32) : Prop := ∀ b y, (b < 234 ∨ 245 < b) → ¬ (b = 230 ∧ (y = 17 ∨ y = 19 ∨ y = 20 ∨ y = 21 ∨ y = 40 ∨ y = 38 ∨ y = 39)) → ¬ (b = 246 ∧ y = j) → ¬ ((b = 247 ∨ b = 248 ∨ b = 249) ∧ y = w) → ¬ (250 ≤ b ∧ b ≤ 252 ∧ 3 * w ≤ y ∧ y < 3 * w + 3) → M' b y = M b y
def FM (w : Nat) (M M' : Nat → Nat → Int32) : Prop := ∀ b y, ¬ (b = 249 ∧ y = w) → ¬ (250 ≤ b ∧ b ≤ 252 ∧ 3 * w ≤ y ∧ y < 3 * w + 3) → M' b y = M b y
theorem FY.trans {j w : Nat} {M M' M'' : Nat → Nat → Int32} (h1 : FY j w M M') (h2 : FY j w M' M'') : FY j w M M'' := fun b y q1 q2 q3 q4 q5 => (h2 b y q1 q2 q3 q4 q5).trans (h1 b y q1 q2 q3 q4 q5)
theorem FX.y {j w : Nat} {M M' : Nat → Nat → Int32} (h : FX M M') : FY j w M M' := fun b y q1 q2 _ _ _ => h b y q1 q2
theorem FM.y {j w : Nat} {M M' : Nat → Nat → Int32} (h : FM w M M') : FY j w M M' := fun b y _ _ _ q4 q5 => h b y (by omega) q5
section RMEM
variable {A : zA} {M M' : Nat → Nat → Int32} {h : ag_H} {d s x i p f j o w k : Nat} {S S' : zS} {P : Nat → List zP} {Q : Nat → Option Nat} {O : Nat → Nat → zU} {F L G : List (Nat × Nat)} {W : zW} {X : List Nat × List Nat}
def PL (M : Nat → Nat → Int32) (w : Nat) (ms : List zM) : Prop := M 249 w = nI ms.length ∧ ∀ i, i < ms.length → RMm M (3 * w + i) (ms.getD i dM)
theorem PL.fx {ms : List zM} (hL : PL M w ms) (hF : FX M M') : PL M' w ms := ⟨by rw [hF _ _ (by decide) (by omega)]; exact hL.1, fun i hi => ⟨by rw [hF _ _ (by decide) (by omega)]; exact (hL.2 i hi).1, by rw [hF _ _ (by decide) (by omega)]; exact (hL.2 i hi).2.1, by rw [hF _ _ (by decide) (by omega)]; exact (hL.2 i hi).2.2⟩⟩
/-- members make room -/
theorem t161_i {s' x' r' : Int32} (hw : w < 16) : ∀ (i N : Nat) (M : Nat → Nat → Int32) (h : ag_H), i ≤ 2 → TA A M h → (∀ y, y < i → M 252 (3 * w + y) = 0 ∨ M 252 (3 * w + y) = 1) →
    ∃ h' M', g161 (ag_run gT d) (N + i + 1) (some 230) (nI w) (nI 0) s' x' r' (nI i) h = g161 (ag_run gT d) (N + 1) (some 230) (nI w) (nI 0) s' x' r' (nI 0) h' ∧ TA A M' h' ∧ (∀ b y, ¬ (250 ≤ b ∧ b ≤ 252 ∧ 3 * w + 1 ≤ y ∧ y ≤ 3 * w + i) → M' b y = M b y) ∧ ∀ b y, 250 ≤ b → b ≤ 252 → y < i → M' b (3 * w + y + 1) = M b (3 * w + y) := by
  intro i
  induction i with
  | zero => exact fun N M h _ hT _ => ⟨h, M, rfl, hT, fun _ _ _ => rfl, fun b y _ _ hy => absurd hy (Nat.not_lt_zero _)⟩
  | succ i ih =>
    intro N M h hi hT hr
    have T1 := hT.sx (a := 250) (c := 100) (i := 3 * w + (i + 1)) rfl (M 250 (3 * w + i))
    have T2 := T1.sx (a := 251) (c := 100) (i := 3 * w + (i + 1)) rfl (M 251 (3 * w + i))
    have T3 := T2.sx (a := 252) (c := 102) (i := 3 * w + (i + 1)) rfl (M 252 (3 * w + i)) (fun _ => hT.2 _)
    have hr1 := hr i (by omega)
    obtain ⟨h', M', e, T', q1, q2⟩ := ih N _ _ (by omega) T3 (fun y hy => by rw [up2_ni (by omega), up2_ni (by omega), up2_ni (by omega)]; exact hr y (by omega))
    refine ⟨h', M', ?_, T', fun b y hb => ?_, fun b y h1 h2 hy => ?_⟩
    · rw [show N + (i + 1) + 1 = (N + i + 1) + 1 by omega]
      show f161_8 _ _ _ _ _ _ _ _ _ _ = _
      unfold f161_8
      rw [if_neg (nI_ge (by omega) (by omega)), hT.rR (k := 26) (b := 250) rfl rfl, hT.rR (k := 26) (b := 250) rfl rfl, lit_3, lit_1, nI_mul, nI_add, nI_sub (by omega), show 3 * w + (i + 1) - 1 = 3 * w + i by omega, hT.rx (a := 250) (c := 100) (i := 3 * w + i) rfl (show 3 * w + i < 48 by omega), hT.wx (a := 250) (c := 100) (i := 3 * w + (i + 1)) rfl (show 3 * w + (i + 1) < 48 by omega),
        T1.rR (k := 27) (b := 251) rfl rfl, T1.rR (k := 27) (b := 251) rfl rfl, T1.rx (a := 251) (c := 100) (i := 3 * w + i) rfl (show 3 * w + i < 48 by omega), up2_na (by decide), T1.wx (a := 251) (c := 100) (i := 3 * w + (i + 1)) rfl (show 3 * w + (i + 1) < 48 by omega),
        T2.rR (k := 28) (b := 252) rfl rfl, T2.rR (k := 28) (b := 252) rfl rfl, T2.rx (a := 252) (c := 102) (i := 3 * w + i) rfl (show 3 * w + i < 48 by omega), up2_na (by decide), up2_na (by decide), b_B hr1, T2.wx (a := 252) (c := 102) (i := 3 * w + (i + 1)) rfl (show 3 * w + (i + 1) < 48 by omega), lit_m, nI_dec]
      exact e
    · rw [q1 b y (by omega), up2_ne (by omega), up2_ne (by omega), up2_ne (by omega)]
    · rcases Nat.lt_or_ge y i with h9 | h9
      · rw [q2 b y h1 h2 h9, up2_ni (by omega), up2_ni (by omega), up2_ni (by omega)]
      · obtain rfl : y = i := by omega
        rw [q1 b _ (by omega)]
        have : b = 250 ∨ b = 251 ∨ b = 252 := by omega
        rcases this with rfl | rfl | rfl
        · rw [up2_na (by decide), up2_na (by decide)]; exact up2_eq _ _ _ _
        · rw [up2_na (by decide)]; exact up2_eq _ _ _ _
        · exact up2_eq _ _ _ _
/-- the member is written -/
theorem t161_0 {m : zM} (hw : w < 16) {i n N : Nat} (hi : i ≤ 2) (hn : n ≤ i) (hT : TA A M h) : ∃ h' M', g161 (ag_run gT d) (N + 1) (some 230) (nI w) (nI i) (nI m.1) (nI m.2.1) (bI m.2.2) (nI n) h = some (.inl none, h') ∧ TA A M' h' ∧ RMm M' (3 * w + i) m ∧ M' 249 w = M 249 w + nI 1 ∧ ∀ b y, ¬ (b = 249 ∧ y = w) → ¬ (250 ≤ b ∧ b ≤ 252 ∧ y = 3 * w + i) → M' b y = M b y := by
  have T1 := hT.sx (a := 250) (c := 100) (i := 3 * w + i) rfl (nI m.1)
  have T2 := T1.sx (a := 251) (c := 100) (i := 3 * w + i) rfl (nI m.2.1)
  have T3 := T2.sx (a := 252) (c := 102) (i := 3 * w + i) rfl (bI m.2.2) (fun _ => bI_01 _)
  have T4 := T3.sx (a := 249) (c := 100) (i := w) rfl (M 249 w + nI 1)
  refine ⟨_, _, ?_, T4, ⟨?_, ?_, ?_⟩, up2_eq _ _ _ _, fun b y h1 h2 => ?_⟩
  · show f161_8 _ _ _ _ _ _ _ _ _ _ = _
    unfold f161_8
    rw [if_pos (nI_le (by omega) (by omega)), hT.rR (k := 26) (b := 250) rfl rfl, lit_3, lit_1, nI_mul, nI_add, hT.wx (a := 250) (c := 100) (i := 3 * w + i) rfl (show 3 * w + i < 48 by omega), T1.rR (k := 27) (b := 251) rfl rfl, T1.wx (a := 251) (c := 100) (i := 3 * w + i) rfl (show 3 * w + i < 48 by omega), T2.rR (k := 28) (b := 252) rfl rfl, b_B (bI_01 _), T2.wx (a := 252) (c := 102) (i := 3 * w + i) rfl (show 3 * w + i < 48 by omega), T3.rR (k := 25) (b := 249) rfl rfl, T3.rx (a := 249) (c := 100) (i := w) rfl (show w < 16 from hw), up2_na (by decide), up2_na (by decide), up2_na (by decide), T3.wx (a := 249) (c := 100) (i := w) rfl (show w < 16 from hw)]
  · rw [up2_na (by decide), up2_na (by decide), up2_na (by decide)]; exact up2_eq _ _ _ _
  · rw [up2_na (by decide), up2_na (by decide)]; exact up2_eq _ _ _ _
  · rw [up2_na (by decide)]; exact up2_eq _ _ _ _
  · rw [up2_ne h1, up2_ne (by omega), up2_ne (by omega), up2_ne (by omega)]
theorem TA.t161a {m : zM} (hT : TA A M h) (hw : w < 16) {ms : List zM} (hl : ms.length ≤ 2) (hL : PL M w ms) : ∃ h' M', ag_run gT (d + 1) 161 [.inr (some 230), .inl (nI w), .inl (nI 0), .inl (nI m.1), .inl (nI m.2.1), .inl (bI m.2.2)] h = some (.inl none, h') ∧ TA A M' h' ∧ PL M' w (m :: ms) ∧ FM w M M' := by
  obtain ⟨h1, M1, e1, T1, q1, q2⟩ := t161_i (d := d) (s' := nI m.1) (x' := nI m.2.1) (r' := bI m.2.2) hw ms.length (3999 - ms.length) M h hl hT (fun y hy => by rw [(hL.2 y hy).2.2]; exact bI_01 _)
  obtain ⟨h2, M2, e2, T2, r1, r2, r3⟩ := t161_0 (d := d) (m := m) (i := 0) (n := 0) (N := 3999 - ms.length) hw (by omega) (by omega) T1
  refine ⟨h2, M2, ?_, T2, ⟨?_, fun i hi => ?_⟩, fun b y z1 z2 => ?_⟩
  · rw [r161]
    unfold f161
    rw [hT.rR (k := 25) (b := 249) rfl rfl, hT.rx (a := 249) (c := 100) (i := w) rfl (show w < 16 from hw), hL.1]
    rw [show 3999 - ms.length + ms.length + 1 = 4000 by omega] at e1
    exact e1.trans e2
  · rw [r2, q1 _ _ (by omega), hL.1, nI_add]; rfl
  · cases i with
    | zero => exact r1
    | succ i =>
      have hi : i < ms.length := by simp at hi; omega
      obtain ⟨l1, l2, l3⟩ := hL.2 i hi
      refine ⟨?_, ?_, ?_⟩
      · rw [r3 _ _ (by omega) (by omega), show 3 * w + (i + 1) = 3 * w + i + 1 by omega, q2 _ _ (by decide) (by decide) hi]; exact l1
      · rw [r3 _ _ (by omega) (by omega), show 3 * w + (i + 1) = 3 * w + i + 1 by omega, q2 _ _ (by decide) (by decide) hi]; exact l2
      · rw [r3 _ _ (by omega) (by omega), show 3 * w + (i + 1) = 3 * w + i + 1 by omega, q2 _ _ (by decide) (by decide) hi]; exact l3
  · rw [r3 _ _ z1 (by omega), q1 _ _ (by omega)]
theorem TA.t161b {m : zM} (hT : TA A M h) (hw : w < 16) {ms : List zM} (hl : ms.length ≤ 2) (hL : PL M w ms) : ∃ h' M', ag_run gT (d + 1) 161 [.inr (some 230), .inl (nI w), .inl (nI ms.length), .inl (nI m.1), .inl (nI m.2.1), .inl (bI m.2.2)] h = some (.inl none, h') ∧ TA A M' h' ∧ PL M' w (ms ++ [m]) ∧ FM w M M' := by
  obtain ⟨h2, M2, e2, T2, r1, r2, r3⟩ := t161_0 (d := d) (m := m) (i := ms.length) (n := ms.length) (N := 3999) hw (by omega) (by omega) hT
  refine ⟨h2, M2, ?_, T2, ⟨?_, fun i hi => ?_⟩, fun b y z1 z2 => ?_⟩
  · rw [r161]
    unfold f161
    rw [hT.rR (k := 25) (b := 249) rfl rfl, hT.rx (a := 249) (c := 100) (i := w) rfl (show w < 16 from hw), hL.1]
    exact e2
  · rw [r2, hL.1, nI_add, List.length_append]; rfl
  · have hi : i < ms.length + 1 := by simpa using hi
    rcases Nat.lt_or_ge i ms.length with h9 | h9
    · obtain ⟨l1, l2, l3⟩ := hL.2 i h9
      rw [show (ms ++ [m]).getD i dM = ms.getD i dM by simp [List.getD_eq_getElem?_getD, List.getElem?_append_left h9]]
      exact ⟨by rw [r3 _ _ (by omega) (by omega)]; exact l1, by rw [r3 _ _ (by omega) (by omega)]; exact l2, by rw [r3 _ _ (by omega) (by omega)]; exact l3⟩
    · obtain rfl : i = ms.length := by omega
      rw [show (ms ++ [m]).getD ms.length dM = m by simp [List.getD_eq_getElem?_getD]]
      exact r1
  · exact r3 _ _ z1 (by omega)
/-- members are let go -/
theorem t162_2 (hw : w < 16) {ms : List zM} (hl3 : ms.length ≤ 3) : ∀ (rest : List zM) (i n : Nat) (S : zS) (M : Nat → Nat → Int32) (h : ag_H), ms.drop i = rest → i ≤ ms.length → (∀ m ∈ rest, m.1 < 2 ∧ m.2.1 < 128 ∧ ¬ (m.1 = 0 ∧ m.2.1 = 0)) → TA A M h → RV S.1 M → RG S M → PL M w ms →
    ∃ h' M', g162 (ag_run gT (d + 3)) (n + rest.length + 1) (some 230) (nI w) (nI i) h = some (.inl none, h') ∧ TA A M' h' ∧ RV (kClA S rest).1 M' ∧ RG (kClA S rest) M' ∧ M' 249 w = nI 0 ∧ ∀ b y, (b < 234 ∨ 245 < b) → ¬ (b = 230 ∧ (y = 17 ∨ y = 19 ∨ y = 20 ∨ y = 21 ∨ y = 40)) → ¬ (b = 249 ∧ y = w) → M' b y = M b y := by
  intro rest
  induction rest with
  | nil =>
    intro i n S M h hd hi hv hT hV hG hL
    have := List.drop_eq_nil_iff.mp hd
    have T1 := hT.sx (a := 249) (c := 100) (i := w) rfl (nI 0)
    refine ⟨_, _, ?_, T1, hV.rows fun b y z1 z2 => up2_na (by omega), hG.congr (up2_na (by decide)) (up2_na (by decide)) (fun y => up2_na (by decide)) (fun y => up2_na (by decide)), up2_eq _ _ _ _, fun b y z1 z2 z3 => up2_ne z3⟩
    show f162_2 _ _ _ _ _ _ = _
    unfold f162_2
    rw [hT.rR (k := 25) (b := 249) rfl rfl, hT.rx (a := 249) (c := 100) (i := w) rfl (show w < 16 from hw), hL.1, if_pos (nI_le (by omega) (by omega)), hT.rR (k := 25) (b := 249) rfl rfl, lit_0, hT.wx (a := 249) (c := 100) (i := w) rfl (show w < 16 from hw)]
  | cons m rest ih =>
    intro i n S M h hd hi hv hT hV hG hL
    have hil : i < ms.length := by
      rcases Nat.lt_or_ge i ms.length with h1 | h1
      · exact h1
      · rw [List.drop_eq_nil_of_le h1] at hd; cases hd
    have hdr := drop_gM hil
    rw [hd] at hdr
    injection hdr with hm hrest
    obtain ⟨v1, v3, v0⟩ := hv m (by simp)
    obtain ⟨a1, a2, -⟩ := hL.2 i hil
    rw [← hm] at a1 a2
    have k1 : kGo S m.1 m.2.1 = kCl S m.1 m.2.1 := if_neg v0
    obtain ⟨h1, M1, e1, T1, V1, G1, F1⟩ := hT.t132 (d := d) hV hG v1 v3
    rw [k1] at V1 G1
    obtain ⟨h2, M2, e2, T2, V2, G2, q2, F2⟩ := ih (i + 1) n (kCl S m.1 m.2.1) M1 h1 hrest.symm (by omega) (fun m' h' => hv m' (by simp [h'])) T1 V1 G1 (hL.fx F1.w)
    refine ⟨h2, M2, ?_, T2, V2, G2, q2, fun b y z1 z2 z3 => by rw [F2 b y z1 z2 z3, F1 b y z1 (by omega)]⟩
    rw [show n + (m :: rest).length + 1 = (n + rest.length + 1) + 1 by simp; omega]
    show f162_2 _ _ _ _ _ _ = _
    unfold f162_2
    rw [hT.rR (k := 25) (b := 249) rfl rfl, hT.rx (a := 249) (c := 100) (i := w) rfl (show w < 16 from hw), hL.1, if_neg (nI_ge hil (by omega)), hT.rR (k := 26) (b := 250) rfl rfl, lit_3, lit_1, nI_mul, nI_add, hT.rx (a := 250) (c := 100) (i := 3 * w + i) rfl (show 3 * w + i < 48 by omega), a1, hT.rR (k := 27) (b := 251) rfl rfl, hT.rx (a := 251) (c := 100) (i := 3 * w + i) rfl (show 3 * w + i < 48 by omega), a2, hT.ra, e1, b_V, nI_add]
    exact e2
theorem TA.t162 (hT : TA A M h) (hw : w < 16) {ms : List zM} (hl3 : ms.length ≤ 3) (hv : ∀ m ∈ ms, m.1 < 2 ∧ m.2.1 < 128 ∧ ¬ (m.1 = 0 ∧ m.2.1 = 0)) (hV : RV S.1 M) (hG : RG S M) (hL : PL M w ms) : ∃ h' M', ag_run gT (d + 4) 162 [.inr (some 230), .inl (nI w)] h = some (.inl none, h') ∧ TA A M' h' ∧ RV (kClA S ms).1 M' ∧ RG (kClA S ms) M' ∧ M' 249 w = nI 0 ∧ ∀ b y, (b < 234 ∨ 245 < b) → ¬ (b = 230 ∧ (y = 17 ∨ y = 19 ∨ y = 20 ∨ y = 21 ∨ y = 40)) → ¬ (b = 249 ∧ y = w) → M' b y = M b y := by
  obtain ⟨h1, M1, e1, r1⟩ := t162_2 (d := d) hw hl3 ms 0 (3999 - ms.length) S M h rfl (by omega) hv hT hV hG hL
  refine ⟨h1, M1, ?_, r1⟩
  rw [r162]
  unfold f162
  rw [lit_0]
  rw [show 3999 - ms.length + ms.length + 1 = 4000 by omega] at e1
  exact e1
/-- ways of binding -/
theorem h160 {v : Int32} {hw : Nat} (hv : isH v hw) : ag_run gT (d + 1) 160 [.inl v] h = some (.inl (some (.inl (nI 1))), h) := by
  obtain ⟨h1, h2, rfl⟩ := hv
  rw [r160]
  unfold f160 f160_22
  rw [lit_0, lit_1, lit_3, lit_4, lit8_7, if_neg (nI_nlt (by omega) (by omega)), if_neg (nI_ge (by omega) (by omega)), b_d (by decide), (hw4 hw h1).1, if_neg (by rw [nI_eq (by omega) (by omega)]; exact h2), b_B (x := nI 1) (Or.inr rfl)]
theorem h160n {v : Int32} (hv : noH v) : ag_run gT (d + 1) 160 [.inl v] h = some (.inl (some (.inl (nI 0))), h) := by
  rw [r160]
  unfold f160 f160_21 f160_22
  rw [lit_0, lit_1, lit_3, lit_4, lit8_7, b_B (x := nI 0) (Or.inl rfl)]
  by_cases h1 : v < nI 0
  · rw [if_pos h1]
  · rw [if_neg h1]
    by_cases h2 : nI 7 ≤ v
    · rw [if_pos h2]
    · rw [if_neg h2]
      obtain ⟨n, hn1, rfl⟩ := nI_of (show ¬ v < 0 from h1)
      have h3 : n < 7 := by
        rcases Nat.lt_or_ge n 7 with h3 | h3
        · exact h3
        · exact absurd (nI_le h3 hn1) h2
      rw [b_d (by decide), (hw4 n h3).1]
      by_cases h4 : n % 4 = 3
      · rw [if_pos (by rw [h4])]
      · exact absurd rfl (hv n h3 h4)
end RMEM

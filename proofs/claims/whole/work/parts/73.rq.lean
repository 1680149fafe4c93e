/-! THE REFERENCE: places, processes, open files -/
def RMm (M : Nat → Nat → Int32) (y : Nat) (m : zM) : Prop := M 250 y = nI m.1 ∧ M 251 y = nI m.2.1 ∧ M 252 y = bI m.2.2
def RPl (M : Nat → Nat → Int32) (w : Nat) (q : zP) : Prop := M 247 w = nI q.1.1 ∧ M 248 w = nI q.1.2 ∧ M 249 w = nI q.2.length ∧ ∀ i, i < q.2.length → RMm M (3 * w + i) (q.2.getD i dM)
def PB (P : Nat → List zP) : Prop := ∀ j, j < 4 → (P j).length ≤ 4 ∧ ∀ q ∈ P j, q.1.1 < 2 ∧ q.1.2 < 300 ∧ q.2.length ≤ 3 ∧ q.2 ≠ []
def RP (P : Nat → List zP) (M : Nat → Nat → Int32) : Prop := ∀ j, j < 4 → M 246 j = nI (P j).length ∧ ∀ k, k < (P j).length → RPl M (4 * j + k) ((P j).getD k dP)
def RQ (Q : Nat → Option Nat) (M : Nat → Nat → Int32) : Prop := ∀ p, p < 4 → M 253 p = bI (Q p).isSome ∧ ∀ j, Q p = some j → M 254 p = nI j ∧ j < 4
def OL (M : Nat → Nat → Int32) (o : Nat) (ms : List zM) : Prop := M 255 o = nI ms.length ∧ ∀ i, i < ms.length → M 257 (3 * o + i) = nI (ms.getD i dM).1 ∧ M 258 (3 * o + i) = nI (ms.getD i dM).2.1
def RU (M : Nat → Nat → Int32) (o : Nat) (u : zU) : Prop := (u.1 = false → M 255 o = nI 0) ∧ (u.1 = true → OL M o u.2.1 ∧ M 256 o = bI (decide (u.2.2.1 = 1)) ∧ M 259 o = nI u.2.2.2.1 ∧ M 260 o = nI u.2.2.2.2.1 ∧ M 261 o = nI u.2.2.2.2.2)
def OB (O : Nat → Nat → zU) : Prop := ∀ p f, p < 4 → f < 5 → (O p f).1 = true → (O p f).2.1.length ≤ 3 ∧ (O p f).2.1 ≠ []
def RO (O : Nat → Nat → zU) (M : Nat → Nat → Int32) : Prop := ∀ p f, p < 4 → f < 5 → RU M (5 * p + f) (O p f)
def wP (j : Nat) (o : Option Nat) : Int32 := match o with
  | none => -1
  | some k => nI (4 * j + k)
/-- what walks leave alone -/
def FX (M M' : Nat → Nat → Int32) : Prop := ∀ b j, (b < 234 ∨ 245 < b) → ¬ (b = 230 ∧ (j = 17 ∨ j = 19 ∨ j = 20 ∨ j = 21 ∨ j = 40 ∨ j = 38 ∨ j = 39)) → M' b j = M b j
theorem FX.trans {M M' M'' : Nat → Nat → Int32} (h1 : FX M M') (h2 : FX M' M'') : FX M M'' := fun b j q1 q2 => (h2 b j q1 q2).trans (h1 b j q1 q2)
theorem FX.refl (M : Nat → Nat → Int32) : FX M M := fun _ _ _ _ => rfl
theorem FR.w {M M' : Nat → Nat → Int32} (h : FR M M') : FX M M' := fun b j q1 q2 => h b j q1 (by omega)
section RQS
variable {A : zA} {M M' : Nat → Nat → Int32} {h : ag_H} {d s x i p f j : Nat} {V : Nat → zV} {S : zS} {P : Nat → List zP} {Q : Nat → Option Nat} {O : Nat → Nat → zU}
theorem RPl.congr {w : Nat} {q : zP} (hP : RPl M w q) (hR : ∀ b y, 247 ≤ b → b ≤ 252 → M' b y = M b y) : RPl M' w q :=
  ⟨by rw [hR _ _ (by decide) (by decide)]; exact hP.1, by rw [hR _ _ (by decide) (by decide)]; exact hP.2.1, by rw [hR _ _ (by decide) (by decide)]; exact hP.2.2.1, fun i hi => ⟨by rw [hR _ _ (by decide) (by decide)]; exact (hP.2.2.2 i hi).1, by rw [hR _ _ (by decide) (by decide)]; exact (hP.2.2.2 i hi).2.1, by rw [hR _ _ (by decide) (by decide)]; exact (hP.2.2.2 i hi).2.2⟩⟩
theorem RP.congr (hP : RP P M) (hR : ∀ b y, 246 ≤ b → b ≤ 252 → M' b y = M b y) : RP P M' := fun j hj =>
  ⟨by rw [hR _ _ (by decide) (by decide)]; exact (hP j hj).1, fun k hk => ((hP j hj).2 k hk).congr fun b y h1 h2 => hR b y (by omega) h2⟩
theorem RQ.congr (hQ : RQ Q M) (h1 : ∀ y, M' 253 y = M 253 y) (h2 : ∀ y, M' 254 y = M 254 y) : RQ Q M' := fun p hp9 =>
  ⟨by rw [h1]; exact (hQ p hp9).1, fun j hj => ⟨by rw [h2]; exact ((hQ p hp9).2 j hj).1, ((hQ p hp9).2 j hj).2⟩⟩
theorem OL.congr {o : Nat} {ms : List zM} (hO : OL M o ms) (h1 : M' 255 o = M 255 o) (h2 : ∀ y, 3 * o ≤ y → y < 3 * o + 3 → M' 257 y = M 257 y ∧ M' 258 y = M 258 y) (hl : ms.length ≤ 3) : OL M' o ms :=
  ⟨by rw [h1]; exact hO.1, fun i hi => ⟨by rw [(h2 _ (by omega) (by omega)).1]; exact (hO.2 i hi).1, by rw [(h2 _ (by omega) (by omega)).2]; exact (hO.2 i hi).2⟩⟩
theorem RU.congr {o : Nat} {u : zU} (hU : RU M o u) (hl : u.1 = true → u.2.1.length ≤ 3) (h1 : ∀ b, 255 ≤ b → b ≤ 261 → b ≠ 257 → b ≠ 258 → M' b o = M b o) (h2 : ∀ y, 3 * o ≤ y → y < 3 * o + 3 → M' 257 y = M 257 y ∧ M' 258 y = M 258 y) : RU M' o u := by
  refine ⟨fun h => by rw [h1 _ (by decide) (by decide) (by decide) (by decide)]; exact hU.1 h, fun h => ?_⟩
  obtain ⟨a, b, c, d, e⟩ := hU.2 h
  exact ⟨a.congr (h1 _ (by decide) (by decide) (by decide) (by decide)) h2 (hl h), by rw [h1 _ (by decide) (by decide) (by decide) (by decide)]; exact b, by rw [h1 _ (by decide) (by decide) (by decide) (by decide)]; exact c, by rw [h1 _ (by decide) (by decide) (by decide) (by decide)]; exact d, by rw [h1 _ (by decide) (by decide) (by decide) (by decide)]; exact e⟩
theorem RO.congr (hO : RO O M) (hB : OB O) (hR : ∀ b y, 255 ≤ b → b ≤ 261 → M' b y = M b y) : RO O M' := fun p f hp9 hf =>
  (hO p f hp9 hf).congr (fun h => (hB p f hp9 hf h).1) (fun b h1 h2 _ _ => hR b _ h1 h2) (fun y _ _ => ⟨hR _ _ (by decide) (by decide), hR _ _ (by decide) (by decide)⟩)
theorem RP.fw (hP : RP P M) (hF : FX M M') : RP P M' := hP.congr fun b y h1 h2 => hF b y (by omega) (by omega)
theorem RQ.fw (hQ : RQ Q M) (hF : FX M M') : RQ Q M' := hQ.congr (fun y => hF _ _ (by decide) (by omega)) (fun y => hF _ _ (by decide) (by omega))
theorem RO.fw (hO : RO O M) (hB : OB O) (hF : FX M M') : RO O M' := hO.congr hB fun b y h1 h2 => hF b y (by omega) (by omega)
theorem NM.fw {ns : List Nat} (hN : NM ns M) (hF : FX M M') : NM ns M' := hN.congr (hF _ _ (by decide) (by decide)) (fun y => hF _ _ (by decide) (by omega))
theorem RX.fw {X : List Nat × List Nat} (hX : RX X M) (hF : FX M M') : RX X M' := hX.congr (hF _ _ (by decide) (by decide)) (hF _ _ (by decide) (by decide)) (fun j => hF _ _ (by decide) (by omega)) (fun j => hF _ _ (by decide) (by omega))
theorem t140_14 (hT : TA A M h) (hV : RV V M) (hP : RP P M) (hB : PB P) (hQ : RQ Q M) (hp9 : p < 4) (hq : Q p = some j) (hs : s < 2) (hx : x < 200) {g : Nat} (hg : (V s).2.2.1 x = some g) (hg3 : g < 300) : ∀ (m k n : Nat), k + m = (P j).length → g140 (ag_run gT d) (n + m + 1) (some 230) (nI p) (nI s) (nI x) (nI (4 * j)) (nI (4 * j + k)) h = some (.inl (some (.inl (wP j ((List.range' k m).find? fun k => decide (((P j).getD k dP).1 = (s, g)))))), h) := by
  obtain ⟨q1, q2⟩ := (hQ p hp9).2 j hq
  obtain ⟨b1, b2⟩ := hB j q2
  obtain ⟨p1, p2⟩ := hP j q2
  have hst := (hV s hs).2.2.2.2 x hx
  rw [hg] at hst
  have hst : M 242 (200 * s + x) = nI (g + 1) := hst
  intro m
  induction m with
  | zero =>
    intro k n hk
    show f140_14 _ _ _ _ _ _ _ _ _ = _
    unfold f140_14
    rw [hT.rR (k := 22) (b := 246) rfl rfl, hT.rR (k := 30) (b := 254) rfl rfl, hT.rx (a := 254) (c := 100) (i := p) rfl (show p < 4 from hp9), q1, hT.rx (a := 246) (c := 100) (i := j) rfl (show j < 4 from q2), p1, nI_add, if_pos (nI_le (by omega) (by omega)), lit_m]
    rfl
  | succ m ih =>
    intro k n hk
    have hkl : k < (P j).length := by omega
    obtain ⟨l1, l2, -⟩ := p2 k hkl
    obtain ⟨c1, c2, -⟩ := b2 _ (getD_memP hkl)
    have ihk := ih (k + 1) n (by omega)
    rw [show n + (m + 1) + 1 = (n + m + 1) + 1 by omega, List.range'_succ, List.find?_cons]
    show f140_14 _ _ _ _ _ _ _ _ _ = _
    unfold f140_14 f140_71
    rw [hT.rR (k := 22) (b := 246) rfl rfl, hT.rR (k := 30) (b := 254) rfl rfl, hT.rx (a := 254) (c := 100) (i := p) rfl (show p < 4 from hp9), q1, hT.rx (a := 246) (c := 100) (i := j) rfl (show j < 4 from q2), p1, nI_add, if_neg (nI_ge (by omega) (by omega)), hT.rR (k := 23) (b := 247) rfl rfl, hT.rx (a := 247) (c := 100) (i := 4 * j + k) rfl (show 4 * j + k < 16 by omega), l1, hT.rR (k := 24) (b := 248) rfl rfl, hT.rx (a := 248) (c := 100) (i := 4 * j + k) rfl (show 4 * j + k < 16 by omega), l2, hT.rR (k := 14) (b := 242) rfl rfl, lit16_200, nI_mul, nI_add, hT.rx (a := 242) (c := 100) (i := 200 * s + x) rfl (show 200 * s + x < 400 by omega), hst, lit_1, nI_sub (by omega), Nat.add_sub_cancel, nI_add, show 4 * j + k + 1 = 4 * j + (k + 1) by omega]
    generalize (P j).getD k dP = q at *
    by_cases e : q.1 = (s, g)
    · rw [if_pos (by rw [e]), if_pos (by rw [e]), decide_eq_true e]
      rfl
    · rw [decide_eq_false e]
      by_cases e1 : q.1.1 = s
      · have e2 : q.1.2 ≠ g := fun h9 => e (by rw [← e1, ← h9])
        rw [if_pos (by rw [e1]), if_neg (by rw [nI_eq (by omega) (by omega)]; exact e2)]
        exact ihk
      · rw [if_neg (by rw [nI_eq (by omega) (by omega)]; exact e1)]
        exact ihk
theorem TA.t140 (hT : TA A M h) (hV : RV V M) (hP : RP P M) (hB : PB P) (hQ : RQ Q M) (hp9 : p < 4) (hq : Q p = some j) (hs : s < 2) (hx : x < 200) {g : Nat} (hg : (V s).2.2.1 x = some g) (hg3 : g < 300) : ag_run gT (d + 1) 140 [.inr (some 230), .inl (nI p), .inl (nI s), .inl (nI x)] h = some (.inl (some (.inl (wP j (pidx (P j) s g)))), h) := by
  obtain ⟨q1, q2⟩ := (hQ p hp9).2 j hq
  have b1 := (hB j q2).1
  have := t140_14 (d := d) hT hV hP hB hQ hp9 hq hs hx hg hg3 (P j).length 0 (3999 - (P j).length) (by omega)
  rw [r140]
  unfold f140 pidx
  rw [hT.rR (k := 30) (b := 254) rfl rfl, hT.rx (a := 254) (c := 100) (i := p) rfl (show p < 4 from hp9), q1, lit_4, nI_mul, List.range_eq_range']
  rw [show 3999 - (P j).length + (P j).length + 1 = 4000 by omega, Nat.add_zero] at this
  exact this
theorem TA.t142 (hT : TA A M h) (hV : RV V M) (h8 : M 230 38 = nI s) (h9 : M 230 39 = nI x) (hs : s < 2) (hx : x < 200) {g : Nat} (hg : (V s).2.2.1 x = some g) (hg1 : g < (V s).1) (hg3 : g < 300) : ag_run gT (d + 2) 142 [.inr (some 230)] h = some (.inl (some (.inl (bI ((V s).2.1 g).2.1))), h) := by
  obtain ⟨f1, f2, -⟩ := (hV s hs).2.2.1 g hg1
  rw [r142]
  unfold f142
  rw [hT.rR (k := 8) (b := 236) rfl rfl, hT.rI (k := 38) rfl, h8, hT.rI (k := 39) rfl, h9, hT.ra, hT.t121 (d := d) hV hs hx hg, b_I, hT.rx (a := 236) (c := 102) (i := 300 * s + g) rfl (show 300 * s + g < 600 by omega), f2, b_B (bI_01 _)]
/-- processes and open files of a number -/
theorem TA.t144 (hT : TA A M h) (hQ : RQ Q M) {v : Int32} (hp9 : isP Q v p j) : ag_run gT (d + 1) 144 [.inr (some 230), .inl v] h = some (.inl (some (.inl (nI 1))), h) := by
  obtain ⟨h1, rfl, h2⟩ := hp9
  have := (hQ p h1).1
  rw [h2] at this
  rw [r144]
  unfold f144 f144_23
  rw [lit_0, lit_1, lit_4, if_neg (nI_nlt (by omega) (by omega)), if_neg (nI_ge (by omega) (by omega)), hT.rR (k := 29) (b := 253) rfl rfl, hT.rx (a := 253) (c := 102) (i := p) rfl (show p < 4 from h1), this, if_neg (show ¬ bI (some j).isSome = nI 0 from (show ¬ bI true = nI 0 by decide)), b_B (x := nI 1) (Or.inr rfl)]
theorem TA.t144n (hT : TA A M h) (hQ : RQ Q M) {v : Int32} (hn : noP Q v) : ag_run gT (d + 1) 144 [.inr (some 230), .inl v] h = some (.inl (some (.inl (nI 0))), h) := by
  rw [r144]
  unfold f144 f144_22 f144_23
  rw [lit_0, lit_1, lit_4, b_B (x := nI 0) (Or.inl rfl)]
  by_cases h1 : v < nI 0
  · rw [if_pos h1]
  · rw [if_neg h1]
    by_cases h2 : nI 4 ≤ v
    · rw [if_pos h2]
    · rw [if_neg h2]
      obtain ⟨n, hn1, rfl⟩ := nI_of (show ¬ v < 0 from h1)
      have h3 : n < 4 := by
        rcases Nat.lt_or_ge n 4 with h3 | h3
        · exact h3
        · exact absurd (nI_le h3 hn1) h2
      have := (hQ n h3).1
      rw [hn n h3 rfl] at this
      rw [hT.rR (k := 29) (b := 253) rfl rfl, hT.rx (a := 253) (c := 102) (i := n) rfl (show n < 4 from h3), this, if_pos (show bI (none : Option Nat).isSome = nI 0 from rfl)]
theorem TA.t145 (hT : TA A M h) (hQ : RQ Q M) (hO : RO O M) (hB : OB O) {v w : Int32} (hp9 : isP Q v p j) (hf : isF O p w f) : ag_run gT (d + 2) 145 [.inr (some 230), .inl v, .inl w] h = some (.inl (some (.inl (nI 1))), h) := by
  have e := hT.t144 (d := d) hQ hp9
  obtain ⟨h1, rfl, h2⟩ := hp9
  obtain ⟨g1, rfl, g2⟩ := hf
  have h5 := ((hO p f h1 g1).2 g2).1.1
  obtain ⟨b1, b2⟩ := hB p f h1 g1 g2
  have b3 : 0 < (O p f).2.1.length := List.length_pos_iff.mpr b2
  rw [r145]
  unfold f145 f145_35
  rw [hT.ra, e, b_I, lit_0, lit_1, lit_5, if_neg (show ¬ nI 1 = nI 0 by decide), if_neg (nI_nlt (by omega) (by omega)), if_neg (nI_ge (by omega) (by omega)), hT.rR (k := 31) (b := 255) rfl rfl, nI_mul, nI_add, hT.rx (a := 255) (c := 100) (i := 5 * p + f) rfl (show 5 * p + f < 20 by omega), h5, if_neg (by rw [nI_leI (by omega) (by omega)]; omega), b_B (x := nI 1) (Or.inr rfl)]
theorem TA.t145n (hT : TA A M h) (hQ : RQ Q M) (hO : RO O M) {v w : Int32} (hn : noP Q v ∨ ∃ p j, isP Q v p j ∧ noF O p w) : ag_run gT (d + 2) 145 [.inr (some 230), .inl v, .inl w] h = some (.inl (some (.inl (nI 0))), h) := by
  rw [r145]
  unfold f145 f145_34 f145_35
  rw [hT.ra, lit_0, lit_1, lit_5]
  rcases hn with hn | ⟨p, j, hp9, hn⟩
  · rw [hT.t144n (d := d) hQ hn, b_I, if_pos rfl, b_B (x := nI 0) (Or.inl rfl)]
  · rw [hT.t144 (d := d) hQ hp9, b_I, if_neg (show ¬ nI 1 = nI 0 by decide)]
    obtain ⟨h1, rfl, -⟩ := hp9
    by_cases h2 : w < nI 0
    · rw [if_pos h2, b_B (x := nI 0) (Or.inl rfl)]
    · rw [if_neg h2]
      by_cases h3 : nI 5 ≤ w
      · rw [if_pos h3, b_B (x := nI 0) (Or.inl rfl)]
      · rw [if_neg h3]
        obtain ⟨n, hn1, rfl⟩ := nI_of (show ¬ w < 0 from h2)
        have h4 : n < 5 := by
          rcases Nat.lt_or_ge n 5 with h4 | h4
          · exact h4
          · exact absurd (nI_le h4 hn1) h3
        rw [hT.rR (k := 31) (b := 255) rfl rfl, nI_mul, nI_add, hT.rx (a := 255) (c := 100) (i := 5 * p + n) rfl (show 5 * p + n < 20 by omega), (hO p n h1 h4).1 (hn n h4 rfl), if_pos (by decide), b_B (x := nI 0) (Or.inl rfl)]
/-- how many handles a row has, 0 where it is free -/
def nhd (u : zU) : Nat := bif u.1 then u.2.1.length else 0
theorem RU.n {o : Nat} {u : zU} (hU : RU M o u) : M 255 o = nI (nhd u) := by
  unfold nhd
  cases h : u.1
  · exact hU.1 h
  · exact (hU.2 h).1.1
theorem OB.n (hB : OB O) (hp9 : p < 4) (hf : f < 5) : nhd (O p f) ≤ 3 ∧ (nhd (O p f) = 0 ↔ (O p f).1 = false) := by
  unfold nhd
  cases h : (O p f).1
  · exact ⟨Nat.zero_le _, ⟨fun _ => rfl, fun _ => rfl⟩⟩
  · obtain ⟨b1, b2⟩ := hB p f hp9 hf h
    have b3 : 0 < (O p f).2.1.length := List.length_pos_iff.mpr b2
    exact ⟨b1, ⟨fun h9 => (by have h9 : (O p f).2.1.length = 0 := h9; omega), fun h9 => (by cases h9)⟩⟩
theorem t146_4 (hT : TA A M h) (hO : RO O M) (hB : OB O) (hp9 : p < 4) : ∀ (m k n u : Nat), k + m = 5 → g146 (ag_run gT d) (n + m + 1) (some 230) (nI p) (nI u) (nI k) h = some (.inl (some (.inl (nI (u + ((List.range' k m).filter fun f => (O p f).1).length)))), h) := by
  intro m
  induction m with
  | zero =>
    intro k n u hk
    show f146_4 _ _ _ _ _ _ _ = _
    unfold f146_4
    rw [lit_5, if_pos (nI_le (by omega) (by omega))]
    rfl
  | succ m ih =>
    intro k n u hk
    have hk5 : k < 5 := by omega
    obtain ⟨n1, n2⟩ := hB.n hp9 hk5
    rw [show n + (m + 1) + 1 = (n + m + 1) + 1 by omega, List.range'_succ, List.filter_cons]
    show f146_4 _ _ _ _ _ _ _ = _
    unfold f146_4 f146_29
    rw [lit_5, if_neg (nI_ge (by omega) (by omega)), hT.rR (k := 31) (b := 255) rfl rfl, nI_mul, nI_add, hT.rx (a := 255) (c := 100) (i := 5 * p + k) rfl (show 5 * p + k < 20 by omega), (hO p k hp9 hk5).n, lit_0, lit_1, nI_add, nI_add]
    cases hb : (O p k).1
    · rw [if_pos (by rw [n2.mpr hb]; decide)]
      exact ih (k + 1) n u (by omega)
    · rw [if_neg (fun h9 => (by have h9 := (nI_leI (by omega) (by omega)).mp h9; have := n2.mp (by omega); rw [hb] at this; cases this))]
      have := ih (k + 1) n (u + 1) (by omega)
      rw [show u + 1 + ((List.range' (k + 1) m).filter fun f => (O p f).1).length = u + (((List.range' (k + 1) m).filter fun f => (O p f).1).length + 1) by omega] at this
      exact this
theorem TA.t146 (hT : TA A M h) (hO : RO O M) (hB : OB O) (hp9 : p < 4) : ag_run gT (d + 1) 146 [.inr (some 230), .inl (nI p)] h = some (.inl (some (.inl (nI (nop O p)))), h) := by
  rw [r146]
  unfold f146 nop
  rw [lit_0, List.range_eq_range']
  have := t146_4 (d := d) hT hO hB hp9 5 0 3994 0 (by omega)
  rw [Nat.zero_add] at this
  exact this
def lf5 (o : Option Nat) : Nat := match o with
  | none => 5
  | some f => f
theorem t147_2 (hT : TA A M h) (hO : RO O M) (hB : OB O) (hp9 : p < 4) : ∀ (m k n : Nat), k + m = 5 → g147 (ag_run gT d) (n + m + 1) (some 230) (nI p) (nI k) h = some (.inl (some (.inl (nI (lf5 ((List.range' k m).find? fun f => !(O p f).1))))), h) := by
  intro m
  induction m with
  | zero =>
    intro k n hk
    have : k = 5 := by omega
    subst this
    show f147_2 _ _ _ _ _ _ = _
    unfold f147_2 f147_26
    rw [lit_5, if_pos (nI_le (by omega) (by omega))]
    rfl
  | succ m ih =>
    intro k n hk
    have hk5 : k < 5 := by omega
    obtain ⟨n1, n2⟩ := hB.n hp9 hk5
    rw [show n + (m + 1) + 1 = (n + m + 1) + 1 by omega, List.range'_succ, List.find?_cons]
    show f147_2 _ _ _ _ _ _ = _
    unfold f147_2 f147_26
    rw [lit_5, if_neg (nI_ge (by omega) (by omega)), hT.rR (k := 31) (b := 255) rfl rfl, nI_mul, nI_add, hT.rx (a := 255) (c := 100) (i := 5 * p + k) rfl (show 5 * p + k < 20 by omega), (hO p k hp9 hk5).n, lit_0, lit_1, nI_add]
    cases hb : (O p k).1
    · rw [if_pos (by rw [n2.mpr hb]; decide)]
      rfl
    · rw [if_neg (fun h9 => (by have h9 := (nI_leI (by omega) (by omega)).mp h9; have := n2.mp (by omega); rw [hb] at this; cases this))]
      exact ih (k + 1) n (by omega)
theorem TA.t147 (hT : TA A M h) (hO : RO O M) (hB : OB O) (hp9 : p < 4) : ag_run gT (d + 1) 147 [.inr (some 230), .inl (nI p)] h = some (.inl (some (.inl (nI (lf5 (lfr O p))))), h) := by
  rw [r147]
  unfold f147 lfr
  rw [lit_0, List.range_eq_range']
  exact t147_2 hT hO hB hp9 5 0 3994 (by omega)
/-- a handle is added to a row -/
theorem TA.t148 (hT : TA A M h) {o : Nat} (ho : o < 20) {ms : List zM} (hO : OL M o ms) (hl : ms.length < 3) (m : zM) : ∃ h' M', ag_run gT (d + 1) 148 [.inr (some 230), .inl (nI o), .inl (nI m.1), .inl (nI m.2.1)] h = some (.inl none, h') ∧ TA A M' h' ∧ OL M' o (ms ++ [m]) ∧ ∀ b y, ¬ (b = 255 ∧ y = o) → ¬ (b = 257 ∧ y = 3 * o + ms.length) → ¬ (b = 258 ∧ y = 3 * o + ms.length) → M' b y = M b y := by
  have T1 := hT.sx (a := 257) (c := 100) (i := 3 * o + ms.length) rfl (nI m.1)
  have g1 : up2 M 257 (3 * o + ms.length) (nI m.1) 255 o = nI ms.length := by rw [up2_na (by decide)]; exact hO.1
  have T2 := T1.sx (a := 258) (c := 100) (i := 3 * o + ms.length) rfl (nI m.2.1)
  have g2 : up2 (up2 M 257 (3 * o + ms.length) (nI m.1)) 258 (3 * o + ms.length) (nI m.2.1) 255 o = nI ms.length := by rw [up2_na (by decide)]; exact g1
  have T3 := T2.sx (a := 255) (c := 100) (i := o) rfl (nI (ms.length + 1))
  refine ⟨_, _, ?_, T3, ⟨by rw [up2_eq]; simp, fun i hi => ?_⟩, fun b y z1 z2 z3 => by rw [up2_ne z1, up2_ne z3, up2_ne z2]⟩
  · rw [r148]
    unfold f148
    rw [hT.rR (k := 33) (b := 257) rfl rfl, hT.rR (k := 31) (b := 255) rfl rfl, hT.rx (a := 255) (c := 100) (i := o) rfl (show o < 20 from ho), hO.1, lit_3, lit_1, nI_mul, nI_add, hT.wx (a := 257) (c := 100) (i := 3 * o + ms.length) rfl (show 3 * o + ms.length < 60 by omega), T1.rR (k := 34) (b := 258) rfl rfl, T1.rR (k := 31) (b := 255) rfl rfl, T1.rx (a := 255) (c := 100) (i := o) rfl (show o < 20 from ho), g1, nI_add, T1.wx (a := 258) (c := 100) (i := 3 * o + ms.length) rfl (show 3 * o + ms.length < 60 by omega), T2.rR (k := 31) (b := 255) rfl rfl, T2.rx (a := 255) (c := 100) (i := o) rfl (show o < 20 from ho), g2, nI_add, T2.wx (a := 255) (c := 100) (i := o) rfl (show o < 20 from ho)]
  · have hi : i < ms.length + 1 := by simpa using hi
    by_cases e : i = ms.length
    · subst e
      have hg : (ms ++ [m]).getD ms.length dM = m := by
        rw [List.getD_eq_getElem?_getD, List.getElem?_append_right (Nat.le_refl _), Nat.sub_self]; rfl
      rw [hg]
      exact ⟨by rw [up2_na (by decide), up2_na (by decide), up2_eq], by rw [up2_na (by decide), up2_eq]⟩
    · have hg : (ms ++ [m]).getD i dM = ms.getD i dM := by
        rw [List.getD_eq_getElem?_getD, List.getElem?_append_left (by omega), ← List.getD_eq_getElem?_getD]
      rw [hg]
      exact ⟨by rw [up2_na (by decide), up2_na (by decide), up2_ni (by omega)]; exact (hO.2 i (by omega)).1, by rw [up2_na (by decide), up2_ni (by omega), up2_na (by decide)]; exact (hO.2 i (by omega)).2⟩
/-- codes -/
def cdI (k n c s : Nat) : Nat := if k = 0 then 0 else if k = 1 then n else if k = 2 then c else if k = 3 then s else 1
theorem TA.t149 (hT : TA A M h) {k : Nat} (hk : k < 5) (n c s : Nat) : ∃ h', ag_run gT (d + 1) 149 [.inr (some 230), .inl (nI k), .inl (nI n), .inl (nI c), .inl (nI s)] h = some (.inl (some (.inl (nI (cdI k n c s)))), h') ∧ TA A (up2 M 230 41 (nI (cdI k n c s))) h' := by
  have T1 := hT.sI (k := 41) rfl (nI (cdI k n c s))
  refine ⟨_, ?_, T1⟩
  rw [r149]
  unfold f149 f149_38
  rw [lit_0, lit_1, lit_2, lit_3]
  have : k = 0 ∨ k = 1 ∨ k = 2 ∨ k = 3 ∨ k = 4 := by omega
  rcases this with rfl | rfl | rfl | rfl | rfl
  · rw [if_pos rfl]
    have e : cdI 0 n c s = 0 := rfl
    rw [e] at T1 ⊢
    rw [hT.wI (k := 41) rfl, T1.rI (k := 41) rfl, up2_eq]
  · rw [if_neg (by decide), if_pos rfl]
    have e : cdI 1 n c s = n := rfl
    rw [e] at T1 ⊢
    rw [hT.wI (k := 41) rfl, T1.rI (k := 41) rfl, up2_eq]
  · rw [if_neg (by decide), if_neg (by decide), if_pos rfl]
    have e : cdI 2 n c s = c := rfl
    rw [e] at T1 ⊢
    rw [hT.wI (k := 41) rfl, T1.rI (k := 41) rfl, up2_eq]
  · rw [if_neg (by decide), if_neg (by decide), if_neg (by decide), if_pos rfl]
    have e : cdI 3 n c s = s := rfl
    rw [e] at T1 ⊢
    rw [hT.wI (k := 41) rfl, T1.rI (k := 41) rfl, up2_eq]
  · rw [if_neg (by decide), if_neg (by decide), if_neg (by decide), if_neg (by decide)]
    have e : cdI 4 n c s = 1 := rfl
    rw [e] at T1 ⊢
    rw [hT.wI (k := 41) rfl, T1.rI (k := 41) rfl, up2_eq]
end RQS

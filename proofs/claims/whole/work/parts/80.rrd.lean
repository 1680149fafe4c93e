/-! THE REFERENCE'S METHODS: read, write, close -/
section RRD
variable {A : zA} {M M' : Nat → Nat → Int32} {h : ag_H} {d s x i p f j o : Nat} {S S' : zS} {P : Nat → List zP} {Q : Nat → Option Nat} {O : Nat → Nat → zU} {F L G : List (Nat × Nat)} {W : zW} {X : List Nat × List Nat}
theorem TA.t154n (hT : TA A M h) (hR : RR S P Q O X M) (hB : OB O) {v w : Int32} (hn : noP Q v ∨ ∃ p j, isP Q v p j ∧ noF O p w) : ∃ h' M', ag_run gT (d + 7) 154 [.inr (some 230), .inl v, .inl w] h = some (.inl (some (.inl (nI 0))), h') ∧ TA A M' h' ∧ RR S P Q O X M' ∧ M' 230 41 = nI 1 := by
  have T1 := hT.thr1 1
  refine ⟨_, _, ?_, T1, hR.z hB (FZ.up (by decide)), up2_eq _ _ _ _⟩
  rw [r154]
  unfold f154 f154_18 f154_43
  rw [hT.ra, hT.t145n (d := d + 4) hR.2.2.2.1 hR.2.2.2.2.1 hn, b_I, lit_0, lit_1, lit_m, if_pos rfl, if_neg (show ¬ nI 0 ≤ (-1 : Int32) by decide), hT.wI (k := 41) rfl, T1.rI (k := 41) rfl, up2_eq, if_neg (by decide)]
theorem TA.t154m (hT : TA A M h) (hR : RR S P Q O X M) (hB : OB O) {v w : Int32} (hp9 : isP Q v p j) (hf : isF O p w f) (hm : (O p f).2.2.2.1 = 1) : ∃ h' M', ag_run gT (d + 7) 154 [.inr (some 230), .inl v, .inl w] h = some (.inl (some (.inl (nI 0))), h') ∧ TA A M' h' ∧ RR S P Q O X M' ∧ M' 230 41 = nI 2 := by
  have T1 := hT.thr1 2
  have e := hT.t145 (d := d + 4) hR.2.2.2.1 hR.2.2.2.2.1 hB hp9 hf
  obtain ⟨hp4, rfl, hq⟩ := hp9
  obtain ⟨f5, rfl, hu⟩ := hf
  obtain ⟨u1, u2, u3, u4, u5⟩ := (hR.2.2.2.2.1 p f hp4 f5).2 hu
  refine ⟨_, _, ?_, T1, hR.z hB (FZ.up (by decide)), up2_eq _ _ _ _⟩
  rw [r154]
  unfold f154 f154_18 f154_43
  rw [hT.ra, e, b_I, lit_0, lit_1, lit_2, lit_5, if_neg (by decide), nI_mul, nI_add, if_pos (nI_le (by omega) (by omega)), hT.rR (k := 35) (b := 259) rfl rfl, hT.rx (a := 259) (c := 100) (i := 5 * p + f) rfl (show 5 * p + f < 20 by omega), u3, hm, if_pos rfl, hT.wI (k := 41) rfl, T1.rI (k := 41) rfl, up2_eq, if_neg (by decide)]
theorem RO.rowd (hO : RO O M) (hB : OB O) (hp9 : p < 4) (hf : f < 5) (hF : FD (5 * p + f) M M') {u : zU} (hU : RU M' (5 * p + f) u) : RO (up2 O p f u) M' := fun p' f' hp' hf' => by
  by_cases e : p' = p ∧ f' = f
  · obtain ⟨rfl, rfl⟩ := e; rw [up2_eq]; exact hU
  · rw [up2_ne e]
    have ne : 5 * p' + f' ≠ 5 * p + f := by omega
    exact (hO p' f' hp' hf').congr (fun h => (hB p' f' hp' hf' h).1) (fun b h1 h2 h3 h4 => hF _ _ (by omega) (by omega) (by omega)) (fun y h1 h2 => ⟨hF _ _ (by omega) (by omega) (by omega), hF _ _ (by omega) (by omega) (by omega)⟩)
theorem RR.dd (hR : RR S P Q O X M) (hF : FD o M M') (hV : RV S'.1 M') (hG : RG S' M') {O' : Nat → Nat → zU} (hO : RO O' M') : RR S' P Q O' X M' := by
  obtain ⟨a, b, c, e, f, g⟩ := hR
  exact ⟨hV, hG, c.congr fun b y h1 h2 => hF b y (by omega) (by omega) (by omega), e.congr (fun y => hF _ _ (by decide) (by omega) (by omega)) (fun y => hF _ _ (by decide) (by omega) (by omega)), hO, g.congr (hF _ _ (by decide) (by decide) (by omega)) (hF _ _ (by decide) (by decide) (by omega)) (fun y => hF _ _ (by decide) (by omega) (by omega)) (fun y => hF _ _ (by decide) (by omega) (by omega))⟩
theorem TA.t154 (hT : TA A M h) (hR : RR S P Q O X M) (hB : OB O) {v w : Int32} (hp9 : isP Q v p j) (hf : isF O p w f) (hm : (O p f).2.2.2.1 ≠ 1) (hm3 : (O p f).2.2.2.1 < 3) (hv : ∀ m ∈ (O p f).2.1, m.1 < 2 ∧ (m.1, m.2.1) ∈ F) (ha : (O p f).2.2.2.2.1 < (O p f).2.1.length) (hq : (O p f).2.2.2.2.2 ≤ 20) (hO : OW S F) {T : zS} {a' q' : Nat} {r : Nat ⊕ Option Int32} (hk : kRL ((O p f).2.1.drop (O p f).2.2.2.2.1) S (O p f).2.2.2.2.1 (O p f).2.2.2.2.2 = (T, a', q', r)) :
    ∃ h' M', ag_run gT (d + 7) 154 [.inr (some 230), .inl v, .inl w] h = some (.inl (some (.inl (rdV (O p f).2.2.1 r))), h') ∧ TA A M' h' ∧ RR T P Q (up2 O p f ((O p f).1, (O p f).2.1, (O p f).2.2.1, (O p f).2.2.2.1, a', q')) X M' ∧ M' 230 41 = nI (rdC (O p f).2.2.1 r) := by
  have e := hT.t145 (d := d + 4) hR.2.2.2.1 hR.2.2.2.2.1 hB hp9 hf
  obtain ⟨hp4, rfl, hqp⟩ := hp9
  obtain ⟨f5, rfl, hu⟩ := hf
  obtain ⟨u1, u2, u3, u4, u5⟩ := (hR.2.2.2.2.1 p f hp4 f5).2 hu
  obtain ⟨b1, b2⟩ := hB p f hp4 f5 hu
  have ho : 5 * p + f < 20 := by omega
  generalize hoo : 5 * p + f = o at *
  have T1 := hT.thr1 0
  have R1 := hR.z hB (FZ.up (M := M) (k := 41) (v := nI 0) (by decide))
  have mm : ∀ b y, b ≠ 230 → up2 M 230 41 (nI 0) b y = M b y := fun b y z => up2_na z
  rw [drop_gM ha, kRL_1] at hk
  obtain ⟨v1, v2⟩ := hv _ (gM_mem ha)
  obtain ⟨a1, a2⟩ := u1.2 _ ha
  generalize hmm : (O p f).2.1.getD (O p f).2.2.2.2.1 dM = m at *
  have v3 := hO.lt v1 v2
  obtain ⟨g, hg, hg1⟩ := hO.st v1 v2
  obtain ⟨h3, M3, e3, T3, V3, G3, q3, g3, F3⟩ := T1.t130 (d := d + 3) R1.1 v1 (hO.1 m.1 v1) v3 hg (q := (O p f).2.2.2.2.2) (by omega)
  have c3 : ∀ b y, 245 < b → M3 b y = M b y := fun b y z => by rw [F3 b y (by omega) (by omega), mm b y (by omega)]
  have L3 : OL M3 o (O p f).2.1 := ⟨by rw [c3 _ _ (by decide)]; exact u1.1, fun i hi => ⟨by rw [c3 _ _ (by decide)]; exact (u1.2 i hi).1, by rw [c3 _ _ (by decide)]; exact (u1.2 i hi).2⟩⟩
  have hlen : ((O p f).2.1.drop ((O p f).2.2.2.2.1 + 1)).length ≤ 3 := by rw [List.length_drop]; omega
  obtain ⟨h4, M4, i1, i2, i3, i4, i5, i6, i7, i8⟩ := t154_95 (d := d + 3) (ev := (O p f).2.2.1) ho b1 hv ((O p f).2.1.drop ((O p f).2.2.2.2.1 + 1)) (O p f).2.2.2.2.1 (O p f).2.2.2.2.2 (3999 - ((O p f).2.1.drop ((O p f).2.2.2.2.1 + 1)).length) (oRD (S.1 m.1) m.2.1 (O p f).2.2.2.2.2) (kRD S m.1 m.2.1 (O p f).2.2.2.2.2) M3 h3 rfl ha hq (fun b hb => oRD_b (hO.1 m.1 v1) hb) (fun e he => oRD_e he) (hO.rd v1 _) T3 V3 G3 L3 (by rw [c3 _ _ (by decide)]; exact u2) (by rw [c3 _ _ (by decide)]; exact u4) (by rw [c3 _ _ (by decide)]; exact u5) q3 g3
  rw [hk] at i1 i3 i4 i5 i6 i7
  have FF : FD o M M4 := fun b y z1 z2 z3 => by rw [i8 b y z1 z2 z3, F3 b y z1 (by omega), up2_ne (by omega)]
  refine ⟨h4, M4, ?_, i2, hR.dd FF i3 i4 (RO.rowd hR.2.2.2.2.1 hB hp4 f5 (by rw [hoo]; exact FF) ⟨fun h => (by rw [hu] at h; cases h), fun _ => ?_⟩), i7⟩
  · rw [show 3999 - ((O p f).2.1.drop ((O p f).2.2.2.2.1 + 1)).length + ((O p f).2.1.drop ((O p f).2.2.2.2.1 + 1)).length + 1 = 4000 by omega] at i1
    rw [r154]
    unfold f154 f154_18 f154_43
    rw [hT.ra, e, b_I, lit_0, lit_1, lit_3, lit_5, if_neg (show ¬ nI 1 = nI 0 by decide), nI_mul, nI_add, hoo, if_pos (nI_le (by omega) (by omega)), hT.rR (k := 35) (b := 259) rfl rfl, hT.rx (a := 259) (c := 100) (i := o) rfl (show o < 20 from ho), u3, if_neg (by rw [nI_eq (by omega) (by omega)]; exact hm), hT.wI (k := 41) rfl, T1.rI (k := 41) rfl, up2_eq, if_pos rfl, T1.rR (k := 33) (b := 257) rfl rfl, T1.rR (k := 36) (b := 260) rfl rfl, T1.rx (a := 260) (c := 100) (i := o) rfl (show o < 20 from ho), mm _ _ (by decide), u4, nI_mul, nI_add, T1.rx (a := 257) (c := 100) (i := 3 * o + (O p f).2.2.2.2.1) rfl (show 3 * o + (O p f).2.2.2.2.1 < 60 by omega), mm _ _ (by decide), a1, T1.rR (k := 34) (b := 258) rfl rfl, T1.rR (k := 36) (b := 260) rfl rfl, T1.rx (a := 260) (c := 100) (i := o) rfl (show o < 20 from ho), mm _ _ (by decide), u4, nI_add, T1.rx (a := 258) (c := 100) (i := 3 * o + (O p f).2.2.2.2.1) rfl (show 3 * o + (O p f).2.2.2.2.1 < 60 by omega), mm _ _ (by decide), a2, T1.rR (k := 37) (b := 261) rfl rfl, T1.rx (a := 261) (c := 100) (i := o) rfl (show o < 20 from ho), mm _ _ (by decide), u5, T1.ra, e3, b_V]
    exact i1
  · rw [hoo]
    exact ⟨⟨by rw [FF _ _ (by decide) (by omega) (by omega)]; exact u1.1, fun i hi => ⟨by rw [FF _ _ (by decide) (by omega) (by omega)]; exact (u1.2 i hi).1, by rw [FF _ _ (by decide) (by omega) (by omega)]; exact (u1.2 i hi).2⟩⟩, by rw [FF _ _ (by decide) (by omega) (by omega)]; exact u2, by rw [FF _ _ (by decide) (by omega) (by omega)]; exact u3, i5, i6⟩
/-- write -/
theorem isB_out {b : Int32} {n : Nat} (hb : isB b n) : decide (b < nI 0 ∨ ¬ b ≤ nI 255) = false := by
  obtain ⟨h3, rfl⟩ := hb
  refine decide_eq_false ?_
  rintro (h | h)
  · exact nI_nlt (by omega) (by omega) h
  · exact h (nI_le (by omega) (by omega))
theorem noB_out {w : Int32} (hm : noB w) : decide (w < nI 0 ∨ ¬ w ≤ nI 255) = true := by
  refine decide_eq_true ?_
  by_cases h1 : w < nI 0
  · exact Or.inl h1
  · refine Or.inr fun h2 => ?_
    obtain ⟨n, hn1, rfl⟩ := nI_of (show ¬ w < 0 from h1)
    exact hm n (by have := (nI_leI hn1 (by omega)).mp h2; omega) rfl
theorem TA.t155n (hT : TA A M h) (hR : RR S P Q O X M) (hB : OB O) {v w b : Int32} (hn : noP Q v ∨ (∃ p j, isP Q v p j ∧ noF O p w) ∨ ∃ p j f, isP Q v p j ∧ isF O p w f ∧ noB b) : ∃ h' M', ag_run gT (d + 7) 155 [.inr (some 230), .inl v, .inl w, .inl b] h = some (.inl (some (.inl (nI 0))), h') ∧ TA A M' h' ∧ RR S P Q O X M' ∧ M' 230 41 = nI 1 := by
  have T1 := hT.thr1 1
  refine ⟨_, _, ?_, T1, hR.z hB (FZ.up (by decide)), up2_eq _ _ _ _⟩
  have hn' : (noP Q v ∨ ∃ p j, isP Q v p j ∧ noF O p w) ∨ ∃ p j f, isP Q v p j ∧ isF O p w f ∧ noB b := by
    rcases hn with h | h | h
    · exact Or.inl (Or.inl h)
    · exact Or.inl (Or.inr h)
    · exact Or.inr h
  rw [r155]
  unfold f155 f155_28 f155_29 f155_56
  rcases hn' with hn | ⟨p, j, f, h1, h2, h3⟩
  · rw [hT.ra, hT.t145n (d := d + 4) hR.2.2.2.1 hR.2.2.2.2.1 hn, b_I, lit_0, lit_1, lit_m, if_pos rfl, if_neg (show ¬ nI 0 ≤ (-1 : Int32) by decide), hT.wI (k := 41) rfl, T1.rI (k := 41) rfl, up2_eq, if_neg (by decide)]
  · rw [hT.ra, hT.t145 (d := d + 4) hR.2.2.2.1 hR.2.2.2.2.1 hB h1 h2, b_I, lit_0, lit_1, lit_m, if_neg (show ¬ nI 1 = nI 0 by decide), lit16_255, out3, b_I, noB_out h3, if_neg (show ¬ bI true = nI 0 by decide), if_neg (show ¬ nI 0 ≤ (-1 : Int32) by decide), hT.wI (k := 41) rfl, T1.rI (k := 41) rfl, up2_eq, if_neg (by decide)]
theorem TA.t155m (hT : TA A M h) (hR : RR S P Q O X M) (hB : OB O) {v w b : Int32} {n : Nat} (hp9 : isP Q v p j) (hf : isF O p w f) (hb : isB b n) (hm : (O p f).2.2.2.1 = 0) : ∃ h' M', ag_run gT (d + 7) 155 [.inr (some 230), .inl v, .inl w, .inl b] h = some (.inl (some (.inl (nI 0))), h') ∧ TA A M' h' ∧ RR S P Q O X M' ∧ M' 230 41 = nI 4 := by
  have T1 := hT.thr1 4
  have e := hT.t145 (d := d + 4) hR.2.2.2.1 hR.2.2.2.2.1 hB hp9 hf
  obtain ⟨hp4, rfl, hq⟩ := hp9
  obtain ⟨f5, rfl, hu⟩ := hf
  obtain ⟨u1, u2, u3, u4, u5⟩ := (hR.2.2.2.2.1 p f hp4 f5).2 hu
  refine ⟨_, _, ?_, T1, hR.z hB (FZ.up (by decide)), up2_eq _ _ _ _⟩
  rw [r155]
  unfold f155 f155_29 f155_56
  rw [hT.ra, e, b_I, lit_0, lit_4, lit_5, if_neg (by decide), lit16_255, out3, b_I, isB_out hb, if_pos (show bI false = nI 0 from rfl), nI_mul, nI_add, if_pos (nI_le (by omega) (by omega)), hT.rR (k := 35) (b := 259) rfl rfl, hT.rx (a := 259) (c := 100) (i := 5 * p + f) rfl (show 5 * p + f < 20 by omega), u3, hm, if_pos rfl, hT.wI (k := 41) rfl, T1.rI (k := 41) rfl, up2_eq, if_neg (by decide)]
def wrC (x : Nat ⊕ Nat) : Nat := match x with
  | .inl e => if e = 102 then 2 else 3
  | .inr _ => 0
def wrV9 (V : zV) (q n : Nat) (x : Nat ⊕ Nat) : Int32 := match x with
  | .inl _ => nI 0
  | .inr i => nI (pu8 (V.2.1 i).2.2.2.2.1 q (nI n)).length
theorem TA.t155 (hT : TA A M h) (hR : RR S P Q O X M) (hB : OB O) {v w b : Int32} {n : Nat} (hp9 : isP Q v p j) (hf : isF O p w f) (hb : isB b n) (hm : (O p f).2.2.2.1 ≠ 0) (hm3 : (O p f).2.2.2.1 < 3) (hv : ∀ m ∈ (O p f).2.1, m.1 < 2 ∧ (m.1, m.2.1) ∈ F) {m : zM} (hmm : (O p f).2.1.getD (O p f).2.2.2.2.1 dM = m) (ha : (O p f).2.2.2.2.1 < (O p f).2.1.length) {q : Nat} (hqq : (O p f).2.2.2.2.2 = q) (hq : q ≤ 8) (hO : OW S F) (hpl : ∀ i, (S.1 m.1).2.2.1 m.2.1 = some i → ((S.1 m.1).2.1 i).1 = true → ((S.1 m.1).2.1 i).2.1 = false ∧ q ≤ ((S.1 m.1).2.1 i).2.2.2.2.1.length) :
    ∃ h' M', ag_run gT (d + 7) 155 [.inr (some 230), .inl v, .inl w, .inl b] h = some (.inl (some (.inl (wrV9 (S.1 m.1) q n (oWR (S.1 m.1) m.2.1 q)))), h') ∧ TA A M' h' ∧ RR (kWR S m.1 m.2.1 q n) P Q (up2 O p f ((O p f).1, (O p f).2.1, (O p f).2.2.1, (O p f).2.2.2.1, (O p f).2.2.2.2.1, q + 1 - wrT (oWR (S.1 m.1) m.2.1 q))) X M' ∧ M' 230 41 = nI (wrC (oWR (S.1 m.1) m.2.1 q)) := by
  have e := hT.t145 (d := d + 4) hR.2.2.2.1 hR.2.2.2.2.1 hB hp9 hf
  obtain ⟨hp4, rfl, hqp⟩ := hp9
  obtain ⟨f5, rfl, hu⟩ := hf
  have hbo := isB_out hb
  obtain ⟨hn, rfl⟩ := hb
  obtain ⟨u1, u2, u3, u4, u5⟩ := (hR.2.2.2.2.1 p f hp4 f5).2 hu
  obtain ⟨b1, b2⟩ := hB p f hp4 f5 hu
  have ho : 5 * p + f < 20 := by omega
  generalize hoo : 5 * p + f = o at *
  have T1 := hT.thr1 0
  have R1 := hR.z hB (FZ.up (M := M) (k := 41) (v := nI 0) (by decide))
  have mm : ∀ b y, b ≠ 230 → up2 M 230 41 (nI 0) b y = M b y := fun b y z => up2_na z
  obtain ⟨v1, v2⟩ := hv _ (gM_mem ha)
  obtain ⟨a1, a2⟩ := u1.2 _ ha
  rw [hmm] at v1 v2 a1 a2
  rw [hqq] at u5
  have v3 := hO.lt v1 v2
  obtain ⟨g, hg, hg1⟩ := hO.st v1 v2
  obtain ⟨h3, M3, e3, T3, V3, G3, q3, g3, F3⟩ := T1.t131 (d := d + 3) R1.1 v1 hO.1 v3 hg hq hn (hpl g hg)
  have c3 : ∀ b y, 245 < b → M3 b y = M b y := fun b y z => by rw [F3 b y (by omega) (by omega), mm b y (by omega)]
  have st : ag_run gT (d + 7) 155 [.inr (some 230), .inl (nI p), .inl (nI f), .inl (nI n)] h = if eI (oWR (S.1 m.1) m.2.1 q) = nI 0 then f155_140 (ag_run gT (d + 6)) (some 230) (nI o) (some 230) (nI 0) h3 else if eI (oWR (S.1 m.1) m.2.1 q) = nI 102 then f155_140 (ag_run gT (d + 6)) (some 230) (nI o) (some 230) (nI 2) h3 else f155_140 (ag_run gT (d + 6)) (some 230) (nI o) (some 230) (nI 3) h3 := by
    rw [r155]
    unfold f155 f155_29 f155_56
    rw [hT.ra, e, b_I, lit_0, lit_1, lit_2, lit_3, lit_4, lit_5, lit8_102, if_neg (show ¬ nI 1 = nI 0 by decide), lit16_255, out3, b_I, hbo, if_pos (show bI false = nI 0 from rfl), nI_mul, nI_add, hoo, if_pos (nI_le (by omega) (by omega)), hT.rR (k := 35) (b := 259) rfl rfl, hT.rx (a := 259) (c := 100) (i := o) rfl (show o < 20 from ho), u3, if_neg (by rw [nI_eq (by omega) (by omega)]; exact hm), hT.wI (k := 41) rfl, T1.rI (k := 41) rfl, up2_eq, if_pos rfl, T1.rR (k := 33) (b := 257) rfl rfl, T1.rR (k := 36) (b := 260) rfl rfl, T1.rx (a := 260) (c := 100) (i := o) rfl (show o < 20 from ho), mm _ _ (by decide), u4, nI_mul, nI_add, T1.rx (a := 257) (c := 100) (i := 3 * o + (O p f).2.2.2.2.1) rfl (show 3 * o + (O p f).2.2.2.2.1 < 60 by omega), mm _ _ (by decide), a1, T1.rR (k := 34) (b := 258) rfl rfl, T1.rR (k := 36) (b := 260) rfl rfl, T1.rx (a := 260) (c := 100) (i := o) rfl (show o < 20 from ho), mm _ _ (by decide), u4, nI_add, T1.rx (a := 258) (c := 100) (i := 3 * o + (O p f).2.2.2.2.1) rfl (show 3 * o + (O p f).2.2.2.2.1 < 60 by omega), mm _ _ (by decide), a2, T1.rR (k := 37) (b := 261) rfl rfl, T1.rx (a := 261) (c := 100) (i := o) rfl (show o < 20 from ho), mm _ _ (by decide), u5, T1.ra, e3, b_V, T3.rI (k := 20) rfl, q3, T3.rI (k := 20) rfl, q3]
  rw [st]
  -- the end, for a code and a place
  have fin : ∀ (c w : Nat), c < 4 → w = (if c = 0 then q + 1 else q) → w = q + 1 - wrT (oWR (S.1 m.1) m.2.1 q) → c = wrC (oWR (S.1 m.1) m.2.1 q) → (if c = 0 then M3 230 21 else nI 0) = wrV9 (S.1 m.1) q n (oWR (S.1 m.1) m.2.1 q) → ∃ h' M', f155_140 (ag_run gT (d + 6)) (some 230) (nI o) (some 230) (nI c) h3 = some (.inl (some (.inl (wrV9 (S.1 m.1) q n (oWR (S.1 m.1) m.2.1 q)))), h') ∧ TA A M' h' ∧ RR (kWR S m.1 m.2.1 q n) P Q (up2 O p f ((O p f).1, (O p f).2.1, (O p f).2.2.1, (O p f).2.2.2.1, (O p f).2.2.2.2.1, q + 1 - wrT (oWR (S.1 m.1) m.2.1 q))) X M' ∧ M' 230 41 = nI (wrC (oWR (S.1 m.1) m.2.1 q)) := by
    intro c w hc4 hw1 hw2 hc hval
    have T4 := T3.thr1 c
    have u5' : up2 M3 230 41 (nI c) 261 o = nI q := by rw [up2_na (by decide), c3 _ _ (by decide)]; exact u5
    have T5 := T4.sx (a := 261) (c := 100) (i := o) rfl (nI w)
    have FF : FD o M (up2 (up2 M3 230 41 (nI c)) 261 o (nI w)) := fun b y z1 z2 z3 => by rw [up2_ne (by omega), up2_ne (by omega), F3 b y z1 (by omega), up2_ne (by omega)]
    have V5 : RV (kWR S m.1 m.2.1 q n).1 (up2 (up2 M3 230 41 (nI c)) 261 o (nI w)) := V3.rows fun b y z1 z2 => by rw [up2_na (by omega), up2_na (by omega)]
    have G5 : RG (kWR S m.1 m.2.1 q n) (up2 (up2 M3 230 41 (nI c)) 261 o (nI w)) := G3.congr (by rw [up2_na (by decide), up2_ni (by decide)]) (by rw [up2_na (by decide), up2_ni (by decide)]) (fun y => by rw [up2_na (by decide), up2_na (by decide)]) (fun y => by rw [up2_na (by decide), up2_na (by decide)])
    refine ⟨_, _, ?_, T5, hR.dd FF V5 G5 (RO.rowd hR.2.2.2.2.1 hB hp4 f5 (by rw [hoo]; exact FF) ⟨fun h => (by rw [hu] at h; cases h), fun _ => ?_⟩), by rw [up2_na (by decide), up2_eq, hc]⟩
    · unfold f155_140 f155_175 f155_191
      rw [T3.wI (k := 41) rfl, T4.rR (k := 37) (b := 261) rfl rfl, T4.rI (k := 41) rfl, up2_eq, lit_0, lit_1]
      by_cases h9 : c = 0
      · rw [if_pos h9] at hw1 hval
        rw [if_pos (by rw [h9]), T4.rR (k := 37) (b := 261) rfl rfl, T4.rx (a := 261) (c := 100) (i := o) rfl (show o < 20 from ho), u5', nI_add, show nI (q + 1) = nI w by rw [hw1], T4.wx (a := 261) (c := 100) (i := o) rfl (show o < 20 from ho), T5.rI (k := 41) rfl, up2_na (by decide), up2_eq, if_pos (by rw [h9]), T5.rI (k := 21) rfl, up2_na (by decide), up2_ni (by decide), hval]
      · rw [if_neg h9] at hw1 hval
        rw [if_neg (by rw [nI_eq (by omega) (by omega)]; exact h9), T4.rR (k := 37) (b := 261) rfl rfl, T4.rx (a := 261) (c := 100) (i := o) rfl (show o < 20 from ho), u5', show nI q = nI w by rw [hw1], T4.wx (a := 261) (c := 100) (i := o) rfl (show o < 20 from ho), T5.rI (k := 41) rfl, up2_na (by decide), up2_eq, if_neg (by rw [nI_eq (by omega) (by omega)]; exact h9), hval]
    · rw [hoo]
      exact ⟨⟨by rw [FF _ _ (by decide) (by omega) (by omega)]; exact u1.1, fun i hi => ⟨by rw [FF _ _ (by decide) (by omega) (by omega)]; exact (u1.2 i hi).1, by rw [FF _ _ (by decide) (by omega) (by omega)]; exact (u1.2 i hi).2⟩⟩, by rw [FF _ _ (by decide) (by omega) (by omega)]; exact u2, by rw [FF _ _ (by decide) (by omega) (by omega)]; exact u3, by rw [up2_na (by decide), up2_na (by decide), c3 _ _ (by decide)]; exact u4, by rw [up2_eq, hw2]⟩
  cases hop : oWR (S.1 m.1) m.2.1 q with
  | inl e9 =>
    have he := oWR_e hop
    rw [hop] at fin
    rcases he with rfl | rfl
    · rw [if_neg (show ¬ eI (Sum.inl 110 : Nat ⊕ Nat) = nI 0 by decide), if_neg (show ¬ eI (Sum.inl 110 : Nat ⊕ Nat) = nI 102 by decide)]
      exact fin 3 q (by decide) rfl rfl rfl rfl
    · rw [if_neg (show ¬ eI (Sum.inl 102 : Nat ⊕ Nat) = nI 0 by decide), if_pos (show eI (Sum.inl 102 : Nat ⊕ Nat) = nI 102 from rfl)]
      exact fin 2 q (by decide) rfl rfl rfl rfl
  | inr i9 =>
    rw [if_pos (show eI (Sum.inr i9 : Nat ⊕ Nat) = nI 0 from rfl)]
    have g9 := g3 i9 hop
    rw [hop] at fin
    exact fin 0 (q + 1) (by decide) rfl rfl rfl g9
end RRD

/-! MESSAGES in the class as a whole -/
section COP
variable {z sl d : Nat} {M : Nat → Nat → Int32} {pm : Nat → Nat → Nat} {S : zS} {Q : Nat → Option Nat} {Y : zY} {X : zX} {W : zW} {h : ag_H} {s x : Nat}
theorem CA.to (hC : CA z sl M pm S Q Y X W h) (hs : s < 2) : ∃ h' t q t' r, ag_run gT (d + 1) 83 [.inr (some 0), .inl (nI s)] h = some (.inl (some (.inr (some (2 + 9 * s)))), h') ∧ CA z sl M pm (S.1, s, t, q, t', r) Q Y X W h' := by
  obtain ⟨kd, ln, I, R, ad, rfl, hB⟩ := hC
  obtain ⟨t, q, t', r, hL⟩ := hB.late hs
  have hC' : CA z sl M pm (S.1, s, t, q, t', r) Q Y X W (hp z sl kd ln (up2 I 0 8 (nI s)) R) := ⟨kd, ln, _, R, ad, rfl, hL⟩
  refine ⟨_, t, q, t', r, ?_, hC'⟩
  have k0 : kd 0 = 10 := hB.kk (by decide) rfl
  rw [r83]
  unfold f83 f83_11
  have hs2 : s = 0 ∨ s = 1 := by omega
  rcases hs2 with rfl | rfl
  · rw [lit_1, lit_0, if_neg (show ¬ nI 0 = nI 1 by decide), x_pI hB.1 k0 rfl, hC'.p0, hC'.g8, hC'.qs (s := 0) (by decide)]
  · rw [lit_1, if_pos rfl, x_pI hB.1 k0 rfl, hC'.p0, hC'.g8, hC'.qs (s := 1) (by decide)]
theorem CA.c35 (hC : CA z sl M pm S Q Y X W h) (hs : s < 2) (hf : vfr (S.1 s) = some (fre S s)) : ag_run gT (d + 1) 35 [.inr (some (2 + 9 * s))] h = some (.inl (some (.inl (nI (fre S s)))), h) := by
  obtain ⟨kd, ln, I, R, ad, rfl, hB⟩ := hC
  have := s35 (z := z) (sl := sl) (d := d) hB.1 (hB.2.2.2.1.1 s hs).1
  rw [hf] at this
  exact this
theorem CA.c36 (hC : CA z sl M pm S Q Y X W h) (hs : s < 2) : ag_run gT (d + 1) 36 [.inr (some (2 + 9 * s))] h = some (.inl (some (.inl (nI (vus (S.1 s))))), h) := by
  obtain ⟨kd, ln, I, R, ad, rfl, hB⟩ := hC
  exact s36 hB.1 (hB.2.2.2.1.1 s hs).1
theorem CA.c44 (hC : CA z sl M pm S Q Y X W h) (hs : S.2.1 = s) (hh : x < 128) : ∃ h', ag_run gT (d + 3) 44 [.inr (some (2 + 9 * s)), .inl (nI x)] h = some (.inl none, h') ∧ CA z sl M pm (kCl S s x) Q Y X W h' := by
  obtain ⟨kd, ln, I, R, ad, rfl, hB⟩ := hC
  have hl := hB.2.2.2.1.2.2.1
  obtain ⟨I', R', e, so⟩ := s44 (z := z) (sl := sl) (d := d) hB.1 (hB.2.2.2.1.1 s (by omega)) hh
  exact ⟨_, e, kd, ln, I', R', ad, rfl, hB.so hs so rfl⟩
theorem CA.c38 (hC : CA z sl M pm S Q Y X W h) (hs : S.2.1 = s) (hh : x < 128) (hf : vfr (S.1 s) = some (fre S s)) : ∃ h', ag_run gT (d + 3) 38 [.inr (some (2 + 9 * s)), .inl (nI x)] h = some (.inl (some (.inl (nI (fre S s)))), h') ∧ CA z sl M pm (kSame S s x) Q Y X W h' := by
  obtain ⟨kd, ln, I, R, ad, rfl, hB⟩ := hC
  have hl := hB.2.2.2.1.2.2.1
  obtain ⟨I', R', e, so⟩ := s38 (z := z) (sl := sl) (d := d) hB.1 (hB.2.2.2.1.1 s (by omega)) hh hf
  exact ⟨_, e, kd, ln, I', R', ad, rfl, hB.so hs so rfl⟩
theorem CA.c37 (hC : CA z sl M pm S Q Y X W h) (hs : S.2.1 = s) (hh : x < 128) : ∃ h', ag_run gT (d + 3) 37 [.inr (some (2 + 9 * s)), .inl (nI x)] h = some (.inl none, h') ∧ CA z sl M pm (kAtt S s x) Q Y X W h' := by
  obtain ⟨kd, ln, I, R, ad, rfl, hB⟩ := hC
  have hl := hB.2.2.2.1.2.2.1
  obtain ⟨I', R', e, so⟩ := s37 (z := z) (sl := sl) (d := d) hB.1 (hB.2.2.2.1.1 s (by omega)) hh
  exact ⟨_, e, kd, ln, I', R', ad, rfl, hB.so hs so rfl⟩
theorem CA.c46 (hC : CA z sl M pm S Q Y X W h) (hs : S.2.1 = s) (hh : x < 128) : ∃ h', ag_run gT (d + 3) 46 [.inr (some (2 + 9 * s)), .inl (nI x)] h = some (.inl (some (.inl (eI (oST (S.1 s) x)))), h') ∧ CA z sl M pm (kSt S s x) Q Y X W h' := by
  obtain ⟨kd, ln, I, R, ad, rfl, hB⟩ := hC
  have hl := hB.2.2.2.1.2.2.1
  obtain ⟨I', R', e, so⟩ := s46 (z := z) (sl := sl) (d := d) hB.1 (hB.2.2.2.1.1 s (by omega)) hh
  exact ⟨_, e, kd, ln, I', R', ad, rfl, hB.so hs so rfl⟩
theorem CA.c39 (hC : CA z sl M pm S Q Y X W h) (hs : S.2.1 = s) (hh : x < 128) (hf : fre S s < 128) {c : Nat} (hc : c < 8) : ∃ h', ag_run gT (d + 3) 39 [.inr (some (2 + 9 * s)), .inl (nI x), .inl (nI (fre S s)), .inl (nI (97 + c))] h = some (.inl (some (.inl (eI (oWN (S.1 s) x c)))), h') ∧ CA z sl M pm (kWN S s x c) Q Y X W h' := by
  obtain ⟨kd, ln, I, R, ad, rfl, hB⟩ := hC
  have hl := hB.2.2.2.1.2.2.1
  obtain ⟨I', R', e, so⟩ := s39 (z := z) (sl := sl) (d := d) hB.1 (hB.2.2.2.1.1 s (by omega)) hh hf hc
  refine ⟨_, e, kd, ln, I', R', ad, rfl, hB.so hs so ?_⟩
  cases oWN (S.1 s) x c <;> rfl
theorem CA.c40 (hC : CA z sl M pm S Q Y X W h) (hs : S.2.1 = s) (hh : x < 128) {m : Nat} (hm : m < 3) : ∃ h', ag_run gT (d + 3) 40 [.inr (some (2 + 9 * s)), .inl (nI x), .inl (nI m)] h = some (.inl (some (.inl (eI (oOP (S.1 s) x m)))), h') ∧ CA z sl M pm (kOP S s x m) Q Y X W h' := by
  obtain ⟨kd, ln, I, R, ad, rfl, hB⟩ := hC
  have hl := hB.2.2.2.1.2.2.1
  obtain ⟨I', R', e, so⟩ := s40 (z := z) (sl := sl) (d := d) hB.1 (hB.2.2.2.1.1 s (by omega)) hh hm
  exact ⟨_, e, kd, ln, I', R', ad, rfl, hB.so hs so rfl⟩
theorem CA.c42 (hC : CA z sl M pm S Q Y X W h) (hs : S.2.1 = s) (hh : x < 128) {q : Nat} (hq : q < 2 ^ 30) : ∃ h', ag_run gT (d + 3) 42 [.inr (some (2 + 9 * s)), .inl (nI x), .inl (nI q)] h = some (.inl (some (.inl (eI (oRD (S.1 s) x q)))), h') ∧ CA z sl M pm (kRD S s x q) Q Y X W h' := by
  obtain ⟨kd, ln, I, R, ad, rfl, hB⟩ := hC
  have hl := hB.2.2.2.1.2.2.1
  obtain ⟨I', R', e, so⟩ := s42 (z := z) (sl := sl) (d := d) hB.1 (hB.2.2.2.1.1 s (by omega)) hh hq
  exact ⟨_, e, kd, ln, I', R', ad, rfl, hB.so hs so rfl⟩
theorem CA.c45 (hC : CA z sl M pm S Q Y X W h) (hs : S.2.1 = s) (hh : x < 128) : ∃ h', ag_run gT (d + 3) 45 [.inr (some (2 + 9 * s)), .inl (nI x)] h = some (.inl (some (.inl (eI (oRM (S.1 s) x)))), h') ∧ CA z sl M pm (kRM S s x) Q Y X W h' := by
  obtain ⟨kd, ln, I, R, ad, rfl, hB⟩ := hC
  have hl := hB.2.2.2.1.2.2.1
  have hA := hB.2.2.2.1.2.1.2
  obtain ⟨I', R', e, so⟩ := s45 (z := z) (sl := sl) (d := d) hB.1 (hB.2.2.2.1.1 s (by omega)) (fun i j hi hj hne => hA s s i j (by omega) (by omega) hi hj (fun h9 => hne h9.2)) hh
  refine ⟨_, e, kd, ln, I', R', ad, rfl, hB.so hs so ?_⟩
  cases oRM (S.1 s) x <;> rfl
theorem CA.c43 (hC : CA z sl M pm S Q Y X W h) (hs : S.2.1 = s) (hh : x < 128) {q v : Nat} (hq : q ≤ 8) (hv : v < 256) (hf : ∀ i, (S.1 s).2.2.1 x = some i → ((S.1 s).2.1 i).1 = true → ((S.1 s).2.1 i).2.1 = false ∧ q ≤ ((S.1 s).2.1 i).2.2.2.2.1.length) : ∃ h', ag_run gT (d + 3) 43 [.inr (some (2 + 9 * s)), .inl (nI x), .inl (nI q), .inl (nI v)] h = some (.inl (some (.inl (eI (oWR (S.1 s) x q)))), h') ∧ CA z sl M pm (kWR S s x q v) Q Y X W h' := by
  obtain ⟨kd, ln, I, R, ad, rfl, hB⟩ := hC
  have hl := hB.2.2.2.1.2.2.1
  have hA := hB.2.2.2.1.2.1.2
  obtain ⟨I', R', e, so⟩ := s43 (z := z) (sl := sl) (d := d) hB.1 (hB.2.2.2.1.1 s (by omega)) (fun i j hi hj hne => hA s s i j (by omega) (by omega) hi hj (fun h9 => hne h9.2)) hh hq hv hf
  refine ⟨_, e, kd, ln, I', R', ad, rfl, hB.so hs so ?_⟩
  cases oWR (S.1 s) x q <;> rfl
theorem SB.cong3 {kd kd' ln ln' : Nat → Nat} {I : Nat → Nat → Int32} {R : Nat → Nat → Option Nat} {a : Nat} {ad : Nat → Nat} {V : zV} (hS : SB kd ln I R a ad V) (ha : kd' a = kd a) (hT : ∀ i, i < V.1 → kd' (ad i) = kd (ad i) ∧ ln' (ad i + 1) = ln (ad i + 1)) : SB kd' ln' I R a ad V := by
  obtain ⟨⟨v1, v2, v3, v4, v5, v6, v7⟩, hm⟩ := hS
  refine ⟨⟨by rw [ha]; exact v1, v2, v3, v4, v5, v6, fun i hi => ?_⟩, hm⟩
  obtain ⟨f0, f1, f2, f3, f4, f5, f6, f7, f8, f9⟩ := v7 i hi
  exact ⟨by rw [(hT i hi).1]; exact f0, f1, f2, f3, f4, f5, f6, f7, by rw [(hT i hi).2]; exact f8, f9⟩
theorem CB.mk {kd kd' ln ln' : Nat → Nat} {I I' : Nat → Nat → Int32} {R R' : Nat → Nat → Option Nat} {ad : Nat → Nat → Nat} (hC : CB z kd ln I R ad M pm S Q Y X W) (hs : S.2.1 = s) {V' : zV} {q r : List Int32} (hO : SM z kd kd' ln ln' I I' R R' (2 + 9 * s) (ad s) (S.1 s) V' q r) (hV : V'.1 = (S.1 s).1 + 1) : CB (z + 2) kd' ln' I' R' (up1 ad s (up1 (ad s) (S.1 s).1 z)) M pm (kS S s V' 114 q 115 r) Q Y X W := by
  obtain ⟨w, hz, hz9, ⟨a1, a2, a3, a4, -, -⟩, h5, h6, h7, h8, h9, h10, h11⟩ := hC
  obtain ⟨w', cv, mq, ⟨rc, mr⟩, fI, fR, fk, f9⟩ := hO
  have hs2 : s < 2 := by omega
  have hnx := (a1 s hs2).1.2.1.1
  have fI2 : ∀ b j, (b < 2 + 9 * s ∨ 8 + 9 * s < b) → b < 263 → I' b j = I b j := fun b j hb h3 => fI b j (by omega) (by omega)
  have fR2 : ∀ b j, b ≠ 7 + 9 * s → b ≠ 8 + 9 * s → b < 263 → R' b j = R b j := fun b j h1 h2 h3 => fR b j (by omega) (by omega) (by omega)
  have adO : ∀ t i, t < 2 → i < (S.1 t).1 → up1 ad s (up1 (ad s) (S.1 s).1 z) t i = ad t i := fun t i ht hi => by
    by_cases e : t = s
    · subst e; rw [up1_eq, up1_ne (by omega)]
    · rw [up1_ne e]
  have adN : up1 ad s (up1 (ad s) (S.1 s).1 z) s (S.1 s).1 = z := by rw [up1_eq, up1_eq]
  have dom : ∀ t i, t < 2 → i < (up1 S.1 s V' t).1 → i < (S.1 t).1 ∨ (t = s ∧ i = (S.1 s).1) := fun t i ht hi => by
    by_cases e : t = s
    · subst e; rw [up1_eq, hV] at hi; omega
    · rw [up1_ne e] at hi; exact Or.inl hi
  refine ⟨w', by omega, f9, ⟨fun t ht => ?_, ⟨fun t i ht hi => ?_, fun t u i j ht hu hi hj hne => ?_⟩, hs2, ?_, ⟨V'.2.2.2, ?_⟩, rc, ?_⟩, fun j hj => ?_, h6.congr (fun p hp => fI2 _ _ (by omega) (by omega)) (fun p hp => fR2 _ _ (by omega) (by omega) (by omega)), h7.congr (fun p b i hp _ _ => fI2 b i (by omega) (by omega)), h8.congr (fun b i _ _ => fI2 b i (by omega) (by omega)), h9.congr (fun i => fI2 0 i (by omega) (by omega)), h10.congr (fun b i _ _ => fI2 b i (by omega) (by omega)), fun b j h1 h2 => by rw [fI2 b j (by omega) (by omega)]; exact h11 b j h1 h2⟩
  · show SB kd' ln' I' R' (2 + 9 * t) (up1 ad s (up1 (ad s) (S.1 s).1 z) t) (up1 S.1 s V' t)
    by_cases e : t = s
    · subst e
      rw [up1_eq, up1_eq]
      exact ⟨cv, ⟨_, _, mq⟩, _, _, _, mr⟩
    · rw [up1_ne e, up1_ne e]
      refine SB.cong3 (R := R') (kd := kd) (ln := ln) ((a1 t ht).congr (fun b j _ _ => fI2 b j (by omega) (by omega)) (fun i j hi => ?_) (fun j => ⟨fR2 _ _ (by omega) (by omega) (by omega), fR2 _ _ (by omega) (by omega) (by omega)⟩)) (fk _ (by omega)).1 (fun i hi => ?_)
      · have h1 := a2.1 t i ht hi
        exact ⟨fI _ _ (by omega) (by omega), fI _ _ (by omega) (by omega)⟩
      · have h1 := a2.1 t i ht hi
        exact ⟨(fk _ (by omega)).1, (fk _ (by omega)).2⟩
  · rcases dom t i ht hi with h | ⟨rfl, rfl⟩
    · rw [adO t i ht h]
      have := a2.1 t i ht h
      exact ⟨this.1, by omega⟩
    · rw [adN]; exact ⟨Or.inr hz, by omega⟩
  · rcases dom t i ht hi with h | ⟨rfl, rfl⟩
    · rw [adO t i ht h]
      have h1 := a2.1 t i ht h
      rcases dom u j hu hj with h' | ⟨rfl, rfl⟩
      · rw [adO u j hu h']; exact a2.2 t u i j ht hu h h' hne
      · rw [adN]; omega
    · rw [adN]
      rcases dom u j hu hj with h' | ⟨rfl, rfl⟩
      · rw [adO u j hu h']
        have h1 := a2.1 u j hu h'
        omega
      · exact absurd ⟨rfl, rfl⟩ hne
  · show I' 0 8 = nI s
    rw [fI2 0 8 (by omega) (by omega), a4, hs]
  · show MM I' (3 + 9 * s) (nI 114) q _
    rw [show 3 + 9 * s = 2 + 9 * s + 1 by omega]; exact mq
  · show MM I' (5 + 9 * s) (nI 115) r _
    rw [show 5 + 9 * s = 2 + 9 * s + 3 by omega]; exact mr
  · have := (h5 j hj).congr (I' := I') (R' := R') (fun x i _ _ => fI2 x i (by omega) (by omega)) (fun i => fR2 _ _ (by omega) (by omega) (by omega))
    obtain ⟨n1, n2, n3, n4, n5, n6, n7, n8⟩ := this
    exact ⟨by rw [(fk _ (by omega)).1]; exact n1, n2, n3, n4, n5, fun k hk => by rw [(fk _ (by omega)).1]; exact n6 k hk, n7, n8⟩
theorem CA.c41 (hC : CA z sl M pm S Q Y X W h) (hs : S.2.1 = s) (hh : x < 128) {c : Nat} (hc : c < 8) (dir : Bool) (hnx : (S.1 s).1 < 250) : ∃ h' z' sl', ag_run gT (d + 3) 41 [.inr (some (2 + 9 * s)), .inl (nI x), .inl (nI (97 + c)), .inl (bI dir)] h = some (.inl (some (.inl (eI (oMK (S.1 s) x c)))), h') ∧ z ≤ z' ∧ z' ≤ z + 2 ∧ sl ≤ sl' ∧ sl' ≤ sl + 16 ∧ CA z' sl' M pm (kMK S s x c dir) Q Y X W h' := by
  obtain ⟨kd, ln, I, R, ad, rfl, hB⟩ := hC
  have hl := hB.2.2.2.1.2.2.1
  unfold kMK
  cases ho : oMK (S.1 s) x c with
  | inl e =>
    obtain ⟨I', R', e1, so⟩ := s41_e (z := z) (sl := sl) (d := d) hB.1 (hB.2.2.2.1.1 s (by omega)) dir hh hc ho
    exact ⟨_, z, sl, e1, by omega, by omega, by omega, by omega, kd, ln, I', R', ad, rfl, hB.so hs so rfl⟩
  | inr i =>
    obtain ⟨kd', ln', I', R', e1, so⟩ := s41_ok (z := z) (sl := sl) (d := d) hB.1 (hB.2.2.2.1.1 s (by omega)) (by have := hB.2.1; omega) hB.2.2.1 dir hh hc ho hnx
    refine ⟨_, z + 2, sl + 8 + (bif dir then 0 else 8), e1, by omega, by omega, by omega, by cases dir <;> simp, kd', ln', I', R', _, rfl, hB.mk hs so rfl⟩
/-- letting go, all of a list -/
theorem nI_00 {a b : Nat} (ha : a < 2 ^ 31) (hb : b < 2 ^ 31) : (nI a = nI 0 ↔ a = 0) ∧ (nI b = nI 0 ↔ b = 0) := ⟨by rw [nI_eq ha (by omega)], by rw [nI_eq hb (by omega)]⟩
theorem c82 (hs : s < 2) (hx : x < 128) : ag_run gT (d + 1) 82 [.inl (nI s), .inl (nI x)] h = some (.inl (some (.inl (bI (decide (s = 0 ∧ x = 0))))), h) := by
  rw [r82]
  unfold f82 f82_12 f82_13
  rw [lit_0, lit_1, b_B (x := nI 1) (Or.inr rfl), b_B (x := nI 0) (Or.inl rfl)]
  by_cases h1 : s = 0
  · by_cases h2 : x = 0
    · subst h1; subst h2; rfl
    · rw [if_pos (by rw [h1]), if_neg (by rw [nI_eq (by omega) (by omega)]; exact h2), decide_eq_false (fun h => h2 h.2)]
      rfl
  · rw [if_neg (by rw [nI_eq (by omega) (by omega)]; exact h1), decide_eq_false (fun h => h1 h.1)]
    rfl
theorem CA.go (hC : CA z sl M pm S Q Y X W h) (hs : s < 2) (hx : x < 128) : ∃ h', ag_run gT (d + 4) 95 [.inr (some 0), .inl (nI s), .inl (nI x)] h = some (.inl none, h') ∧ CA z sl M pm (kGo S s x) Q Y X W h' := by
  rw [r95]
  unfold f95 f95_17 kGo
  rw [c82 hs hx, b_I, lit_0]
  by_cases e : s = 0 ∧ x = 0
  · rw [decide_eq_true e, if_neg (show ¬ bI true = nI 0 by decide), if_pos e]
    exact ⟨h, rfl, hC⟩
  · rw [decide_eq_false e, if_pos (show bI false = nI 0 from rfl), if_neg e]
    obtain ⟨h1, t, q, t', r, e1, C1⟩ := hC.to (d := d + 2) hs
    obtain ⟨h2, e2, C2⟩ := C1.c44 (d := d) (s := s) rfl hx
    refine ⟨h2, ?_, C2⟩
    rw [hC.a0, e1, b_R, C1.as hs, e2, b_V]
def kClA (S : zS) (ms : List zM) : zS := ms.foldl (fun S m => kCl S m.1 m.2.1) S
theorem drop_gM {L : List zM} {k : Nat} (h : k < L.length) : L.drop k = L.getD k dM :: L.drop (k + 1) := by
  rw [List.drop_eq_getElem_cons h, List.getD_eq_getElem?_getD, List.getElem?_eq_getElem h]
  rfl
theorem gM_mem {L : List zM} {k : Nat} (h : k < L.length) : L.getD k dM ∈ L := by
  rw [List.getD_eq_getElem?_getD, List.getElem?_eq_getElem h]
  exact List.getElem_mem h
theorem c96_2 {L : Nat × Nat × Nat} (hL : LV Y L) (hv : ∀ m ∈ lms Y L, m.1 < 2 ∧ m.2.1 < 128) : ∀ (m k n : Nat) (S : zS) (h : ag_H), k + m = (lms Y L).length → CA z sl M pm S Q Y X W h → ∃ h', g96 (ag_run gT (d + 3)) (n + m + 1) (some 0) (some (lad pm L)) (nI k) h = some (.inl none, h') ∧ CA z sl M pm (kClA S ((lms Y L).drop k)) Q Y X W h' := by
  intro m
  induction m with
  | zero =>
    intro k n S h hk hC
    have hl := hC.len hL
    refine ⟨h, ?_, ?_⟩
    · show f96_2 _ _ _ _ _ _ = _
      unfold f96_2
      rw [hC.hn hL, if_pos (nI_le (by omega) (by omega))]
    · rw [List.drop_eq_nil_of_le (by omega)]; exact hC
  | succ m ih =>
    intro k n S h hk hC
    have hl := hC.len hL
    have hkl : k < (lms Y L).length := by omega
    obtain ⟨v1, v2⟩ := hv _ (gM_mem hkl)
    obtain ⟨h1, t, q, t', r, e1, C1⟩ := hC.to (d := d + 2) v1
    obtain ⟨h2, e2, C2⟩ := C1.c44 (d := d) rfl v2
    obtain ⟨h3, e3, C3⟩ := ih (k + 1) n _ h2 (by omega) C2
    refine ⟨h3, ?_, ?_⟩
    · rw [show n + (m + 1) + 1 = (n + m + 1) + 1 by omega]
      show f96_2 _ _ _ _ _ _ = _
      unfold f96_2
      rw [hC.hn hL, if_neg (nI_ge (by omega) (by omega)), hC.ah hL, hC.h3 hL hkl, b_I, hC.a0, e1, b_R, C1.ah hL, C1.h4 hL hkl, b_I, C1.as v1, e2, b_V, lit_1, nI_add]
      exact e3
    · rw [drop_gM hkl]
      exact C3
theorem CA.cla (hC : CA z sl M pm S Q Y X W h) {L : Nat × Nat × Nat} (hL : LV Y L) (hv : ∀ m ∈ lms Y L, m.1 < 2 ∧ m.2.1 < 128) : ∃ h', ag_run gT (d + 4) 96 [.inr (some 0), .inr (some (lad pm L))] h = some (.inl none, h') ∧ CA z sl M pm (kClA S (lms Y L)) Q Y X W h' := by
  have hl := hC.len hL
  obtain ⟨h', e, C⟩ := c96_2 (d := d) hL hv (lms Y L).length 0 (3999 - (lms Y L).length) S h (by omega) hC
  refine ⟨h', ?_, C⟩
  rw [r96]
  unfold f96
  rw [lit_0]
  rw [show 3999 - (lms Y L).length + (lms Y L).length + 1 = 4000 by omega] at e
  exact e
end COP

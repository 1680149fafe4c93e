/-! THE CLASS'S METHODS: exit, wire, server, process -/
def clO (O : Nat → Nat → zU) (p n : Nat) : Nat → Nat → zU := fun p' f => if p' = p ∧ f < n then (false, (O p' f).2) else O p' f
def kCf (O : Nat → Nat → zU) (p : Nat) : List Nat → zS → zS
  | [], S => S
  | f :: fs, S => kCf O p fs (bif (O p f).1 then kClA S (O p f).2.1 else S)
def kEx (P : Nat → List zP) (Q : Nat → Option Nat) (p j : Nat) (S : zS) : zS := if usr (up1 Q p none) j = 0 then kEs S (P j) else S
def pEx (P : Nat → List zP) (Q : Nat → Option Nat) (p j : Nat) : Nat → List zP := if usr (up1 Q p none) j = 0 then up1 P j [] else P
section EXIT
variable {z sl d : Nat} {M : Nat → Nat → Int32} {pm : Nat → Nat → Nat} {S : zS} {Q : Nat → Option Nat} {Y : zY} {X : zX} {W : zW} {h : ag_H} {s x : Nat} {F G : List (Nat × Nat)} {p f j : Nat}
theorem c76_e (hC : CA z sl M pm S Q Y X W h) (hp9 : p < 4) (hq : Q p = some j) (hv : ∀ q ∈ Y.1 j, ∀ m ∈ q.2, m.1 < 2 ∧ m.2.1 < 128) {b : Option Nat → Option Nat → Int32 → ag_H → ag_R} : ∃ h', f76_23 (ag_run gT (d + 6)) b (some 0) (some (56 + 49 * p)) (nI 5) h = some (.inl (some (.inl (nI (npr (up1 Q p none))))), h') ∧ CA z sl M pm (kEx Y.1 Q p j S) (up1 Q p none) (pEx Y.1 Q p j, Y.2.1, Y.2.2) X W h' := by
  have hj := hC.q4 hp9 hq
  obtain ⟨h1, e1, C1⟩ := hC.c31 (d := d + 5) hp9 hq
  have hu := usr_le (up1 Q p none) j
  unfold f76_23 f76_77 kEx pEx
  rw [lit_5, if_pos (nI_le (by omega) (by omega)), hC.f1 hp9, hq, Option.map_some, hC.ap hp9, e1, b_V, C1.nu hj, lit_0]
  by_cases e : usr (up1 Q p none) j = 0
  · rw [if_pos (by rw [e]), if_pos e, if_pos e, C1.a0]
    obtain ⟨h2, e2, C2⟩ := C1.c111 (d := d + 1) hj hv
    refine ⟨h2, ?_, C2⟩
    rw [e2, b_V, C2.a0, C2.c108 (d := d + 5), b_I]
  · rw [if_neg (by rw [nI_eq (by omega) (by omega)]; exact e), if_neg e, if_neg e]
    refine ⟨h1, ?_, C1⟩
    rw [C1.a0, C1.c108 (d := d + 5), b_I]
theorem clO_s (O : Nat → Nat → zU) (p k : Nat) : up2 (clO O p k) p k (false, (clO O p k p k).2) = clO O p (k + 1) := by
  funext p' f
  unfold clO
  by_cases e : p' = p ∧ f = k
  · obtain ⟨rfl, rfl⟩ := e
    rw [up2_eq, if_neg (show ¬ (p' = p' ∧ f < f) by omega), if_pos (show p' = p' ∧ f < f + 1 by omega)]
  · rw [up2_ne e]
    by_cases e2 : p' = p ∧ f < k
    · rw [if_pos e2, if_pos ⟨e2.1, by omega⟩]
    · rw [if_neg e2, if_neg (fun h => e2 ⟨h.1, by have := h.2; have : f ≠ k := fun h9 => e ⟨h.1, h9⟩; omega⟩)]
theorem clO_n (O : Nat → Nat → zU) (p k : Nat) (hu : (O p k).1 = false) : clO O p k = clO O p (k + 1) := by
  rw [← clO_s]
  have h1 : (clO O p k p k) = O p k := if_neg (show ¬ (p = p ∧ k < k) by omega)
  rw [h1]
  have : (false, (O p k).2) = clO O p k p k := by rw [h1, ← hu]
  rw [this]
  funext p' f
  by_cases e : p' = p ∧ f = k
  · obtain ⟨rfl, rfl⟩ := e; rw [up2_eq]
  · rw [up2_ne e]
theorem c76_23 {P : Nat → List zP} {O : Nat → Nat → zU} {H : List zM} (hp9 : p < 4) (hq : Q p = some j) (hv : ∀ q ∈ P j, ∀ m ∈ q.2, m.1 < 2 ∧ m.2.1 < 128) (hvO : ∀ f, f < 5 → (O p f).1 = true → ∀ m ∈ (O p f).2.1, m.1 < 2 ∧ m.2.1 < 128) : ∀ (m k n : Nat) (S : zS) (h : ag_H), k + m = 5 → CA z sl M pm S Q (P, clO O p k, H) X W h →
    ∃ h', g76 (ag_run gT (d + 6)) (n + m + 1) (some 0) (some (56 + 49 * p)) (nI k) h = some (.inl (some (.inl (nI (npr (up1 Q p none))))), h') ∧ CA z sl M pm (kEx P Q p j (kCf O p (List.range' k m) S)) (up1 Q p none) (pEx P Q p j, clO O p 5, H) X W h' := by
  intro m
  induction m with
  | zero =>
    intro k n S h hk hC
    have : k = 5 := by omega
    subst this
    exact c76_e (d := d) (b := g76 (ag_run gT (d + 6)) (n + 0)) hC hp9 hq hv
  | succ m ih =>
    intro k n S h hk hC
    have hk5 : k < 5 := by omega
    have h1 : (clO O p k p k) = O p k := if_neg (show ¬ (p = p ∧ k < k) by omega)
    rw [show n + (m + 1) + 1 = (n + m + 1) + 1 by omega, List.range'_succ]
    show ∃ h', f76_23 _ _ _ _ _ _ = _ ∧ _
    unfold f76_23 f76_50
    rw [lit_5, if_neg (nI_ge (by omega) (by omega)), hC.f0 hp9, hC.ff hp9 hk5, hC.u1 hp9 hk5, lit_0, lit_1, nI_add]
    show ∃ h', (if bI (clO O p k p k).1 = nI 0 then _ else _) = _ ∧ CA z sl M pm (kEx P Q p j (kCf O p (List.range' (k + 1) m) (bif (O p k).1 then kClA S (O p k).2.1 else S))) _ _ _ _ _
    rw [h1]
    cases hb : (O p k).1
    · rw [if_pos (show bI false = nI 0 from rfl)]
      exact ih (k + 1) n S h (by omega) (by rw [← clO_n O p k hb]; exact hC)
    · rw [if_neg (show ¬ bI true = nI 0 by decide), hC.f0 hp9, hC.ff hp9 hk5, hC.a0]
      obtain ⟨h2, e2, C2⟩ := hC.clf (d := d + 1) hp9 hk5 (by show ∀ m ∈ (clO O p k p k).2.1, _; rw [h1]; exact hvO k hk5 hb)
      have C2 : CA z sl M pm (kClA S (clO O p k p k).2.1) Q (P, up2 (clO O p k) p k (false, (clO O p k p k).2), H) X W h2 := C2
      rw [clO_s, h1] at C2
      obtain ⟨h3, e3, C3⟩ := ih (k + 1) n _ h2 (by omega) C2
      refine ⟨h3, ?_, C3⟩
      rw [e2, b_V]
      exact e3
theorem CA.c76n (hC : CA z sl M pm S Q Y X W h) {v : Int32} (hn : noP Q v) : ag_run gT (d + 7) 76 [.inr (some 0), .inl v] h = some (.inr 0, ag_thr h) := by
  rw [r76]
  unfold f76
  rw [hC.a0, hC.c84n (d := d + 5) hn, b_Re]
theorem CA.c760 (hC : CA z sl M pm S Q Y X W h) {v : Int32} (hp9 : isP Q v 0 j) : ag_run gT (d + 7) 76 [.inr (some 0), .inl v] h = some (.inr 0, ag_thr h) := by
  rw [r76]
  unfold f76
  rw [hC.a0, hC.c84 (d := d + 5) hp9, b_R, hp9.2.1, lit_0, if_pos rfl]
theorem CA.c76 (hC : CA z sl M pm S Q Y X W h) {v : Int32} (hp9 : isP Q v p j) (hp0 : p ≠ 0) (hv : ∀ q ∈ Y.1 j, ∀ m ∈ q.2, m.1 < 2 ∧ m.2.1 < 128) (hvO : ∀ f, f < 5 → (Y.2.1 p f).1 = true → ∀ m ∈ (Y.2.1 p f).2.1, m.1 < 2 ∧ m.2.1 < 128) : ∃ h', ag_run gT (d + 7) 76 [.inr (some 0), .inl v] h = some (.inl (some (.inl (nI (npr (up1 Q p none))))), h') ∧ CA z sl M pm (kEx Y.1 Q p j (kCf Y.2.1 p (List.range 5) S)) (up1 Q p none) (pEx Y.1 Q p j, clO Y.2.1 p 5, Y.2.2) X W h' := by
  have h0 : clO Y.2.1 p 0 = Y.2.1 := by
    funext p' f
    exact if_neg (by omega)
  obtain ⟨h1, e1, C1⟩ := c76_23 (d := d) (P := Y.1) (O := Y.2.1) (H := Y.2.2) hp9.1 hp9.2.2 hv hvO 5 0 3994 S h (by omega) (by rw [h0]; exact hC)
  rw [← List.range_eq_range'] at C1
  refine ⟨h1, ?_, C1⟩
  have hp4 := hp9.1
  rw [r76]
  unfold f76
  rw [hC.a0, hC.c84 (d := d + 5) hp9, b_R, hp9.2.1, lit_0, if_neg (by rw [nI_eq (by omega) (by omega)]; exact hp0)]
  exact e1
/-- what is shown -/
def wrV (S : zS) (v w : Int32) : Int32 := if v = nI 0 then wbl (msg S.2.2.1 S.2.2.2.1) w else if v = nI 1 then wbl (msg S.2.2.2.2.1 S.2.2.2.2.2) w else -1
theorem CA.m11a (hC : CA z sl M pm S Q Y X W h) (v : Int32) : ag_run gT (d + 2) 11 [.inr (some (3 + 9 * S.2.1)), .inl v] h = some (.inl (some (.inl (wbl (msg S.2.2.1 S.2.2.2.1) v))), h) := by
  obtain ⟨kd, ln, I, R, ad, rfl, hB⟩ := hC
  obtain ⟨c, hm⟩ := hB.2.2.2.1.2.2.2.2.1
  have := hB.2.2.2.1.2.2.1
  exact s11 hB.1 (hB.kk (by omega) (kd0_s _ this).2.1) hm v
theorem CA.m11b (hC : CA z sl M pm S Q Y X W h) (v : Int32) : ag_run gT (d + 2) 11 [.inr (some (5 + 9 * S.2.1)), .inl v] h = some (.inl (some (.inl (wbl (msg S.2.2.2.2.1 S.2.2.2.2.2) v))), h) := by
  obtain ⟨kd, ln, I, R, ad, rfl, hB⟩ := hC
  obtain ⟨c, hm⟩ := hB.2.2.2.1.2.2.2.2.2
  have := hB.2.2.2.1.2.2.1
  exact s11 hB.1 (hB.kk (by omega) (kd0_s _ this).2.2) hm v
theorem CA.aq (hC : CA z sl M pm S Q Y X W h) {s : Nat} (hs : s < 2) {K : Nat → ag_R} : ag_at h (some (3 + 9 * s)) 1 (fun x _ => K x) = K (3 + 9 * s) := hC.at (by omega) (kd0_s s hs).2.1 rfl
theorem CA.c77 (hC : CA z sl M pm S Q Y X W h) (v w : Int32) : ag_run gT (d + 7) 77 [.inr (some 0), .inl v, .inl w] h = some (.inl (some (.inl (wrV S v w))), h) := by
  have hl := hC.l2
  rw [r77]
  unfold f77 f77_40 wrV
  rw [hC.p0, hC.g8, hC.qs hl, lit_0, lit_1, lit_m]
  by_cases h1 : v = nI 0
  · rw [if_pos h1, if_pos h1, hC.q0 hl, hC.aq hl, hC.m11a (d := d + 4), b_I]
  · rw [if_neg h1, if_neg h1]
    by_cases h2 : v = nI 1
    · rw [if_pos h2, if_pos h2, hC.q1 hl, hC.am hl, hC.m11b (d := d + 4), b_I]
    · rw [if_neg h2, if_neg h2]
theorem sw_at {n : Nat} (hn : n < 2 ^ 31) {ts : List ag_R} {t dd : ag_R} (ht : ts[n]? = some t) : ag_sw (nI n) 0 ts dd = t := by
  unfold ag_sw
  rw [nI_toInt hn, if_neg (by omega), show ((n : Int) - 0).toNat = n by omega, ht]
theorem sw_no {v : Int32} {ts : List ag_R} {dd : ag_R} (hv : ∀ n, n < ts.length → v ≠ nI n) : ag_sw v 0 ts dd = dd := by
  unfold ag_sw
  by_cases h : v < 0
  · rw [if_pos (show v.toInt < 0 from Int32.lt_iff_toInt_lt.mp h)]
  · obtain ⟨n, hn, rfl⟩ := nI_of h
    rw [nI_toInt hn, if_neg (by omega), show ((n : Int) - 0).toNat = n by omega, List.getElem?_eq_none]
    rcases Nat.lt_or_ge n ts.length with h1 | h1
    · exact absurd rfl (hv n h1)
    · exact h1
def svV (S : zS) (v w : Int32) : Int32 := if v = nI 0 ∨ v = nI 1 then (if w = nI 0 then (S.1 v.toNatClampNeg).2.2.2 else if w = nI 1 then nI (vus (S.1 v.toNatClampNeg)) else if w = nI 2 then nI (vlv (S.1 v.toNatClampNeg)).length else if w = nI 3 then nI (S.1 v.toNatClampNeg).1 else -1) else -1
theorem CA.sv4 (hC : CA z sl M pm S Q Y X W h) (hs : s < 2) (K : Int32 → ag_R) : ag_gI h (some (2 + 9 * s)) 7 4 K = K (nI (vlv (S.1 s)).length) ∧ ag_gI h (some (2 + 9 * s)) 7 5 K = K (nI (S.1 s).1) ∧ ag_gI h (some (3 + 9 * s)) 1 2 K = K (S.1 s).2.2.2 := by
  obtain ⟨kd, ln, I, R, ad, rfl, hB⟩ := hC
  obtain ⟨v, ⟨t, q, hm⟩, -⟩ := hB.2.2.2.1.1 s hs
  refine ⟨by rw [x_gI hB.1 v.1 rfl, v.2.2.1], by rw [x_gI hB.1 v.1 rfl, v.2.2.2.1], ?_⟩
  have h2 := hm.2.1
  rw [show 2 + 9 * s + 1 = 3 + 9 * s by omega] at h2
  rw [x_gI hB.1 (hB.kk (by omega) (kd0_s s hs).2.1) rfl, h2]
theorem CA.c78 (hC : CA z sl M pm S Q Y X W h) (v w : Int32) : ag_run gT (d + 7) 78 [.inr (some 0), .inl v, .inl w] h = some (.inl (some (.inl (svV S v w))), h) := by
  rw [r78]
  unfold f78 svV
  rw [lit_0, lit_m]
  rcases S_or v with ⟨s, hs, rfl⟩ | hn
  · have h01 : nI s = nI 0 ∨ nI s = nI 1 := by
      have : s = 0 ∨ s = 1 := by omega
      rcases this with rfl | rfl
      · exact Or.inl rfl
      · exact Or.inr rfl
    rw [c80 hs, b_I, if_neg (show ¬ nI 1 = nI 0 by decide), hC.p0, hC.qs hs, if_pos h01, nI_clamp (by omega)]
    by_cases h0 : w = nI 0
    · subst h0
      rw [sw_at (n := 0) (by decide) rfl, if_pos rfl, hC.q0 hs, (hC.sv4 hs _).2.2]
    · rw [if_neg h0]
      by_cases h1 : w = nI 1
      · subst h1
        rw [sw_at (n := 1) (by decide) rfl, if_pos rfl, hC.as hs, hC.c36 (d := d + 5) hs, b_I]
      · rw [if_neg h1]
        by_cases h2 : w = nI 2
        · subst h2
          rw [sw_at (n := 2) (by decide) rfl, if_pos rfl, (hC.sv4 hs _).1]
        · rw [if_neg h2]
          by_cases h3 : w = nI 3
          · subst h3
            rw [sw_at (n := 3) (by decide) rfl, if_pos rfl, (hC.sv4 hs _).2.1]
          · rw [if_neg h3, sw_no]
            intro n hn
            have hn : n < 4 := hn
            have : n = 0 ∨ n = 1 ∨ n = 2 ∨ n = 3 := by omega
            rcases this with rfl | rfl | rfl | rfl <;> assumption
  · rw [c80n hn, b_I, if_pos rfl, if_neg (fun h => h.elim (hn 0 (by decide)) (hn 1 (by decide)))]
def prV (Q : Nat → Option Nat) (Y : zY) (p n : Nat) : Int32 := match Q p with
  | none => nI 0
  | some j => if n = 0 then nI 1 else if n = 1 then nI (nop Y.2.1 p) else if n = 2 then nI (Y.1 j).length else nI (pmem (Y.1 j))
theorem CA.c79n (hC : CA z sl M pm S Q Y X W h) {v w : Int32} (hn : (∀ p, p < 4 → v ≠ nI p) ∨ ∀ n, n < 4 → w ≠ nI n) : ag_run gT (d + 7) 79 [.inr (some 0), .inl v, .inl w] h = some (.inl (some (.inl (-1))), h) := by
  rw [r79]
  unfold f79 f79_18
  rw [lit_0, lit_4, lit_3, lit_m]
  by_cases h1 : v < nI 0
  · rw [if_pos h1]
  · rw [if_neg h1]
    by_cases h2 : nI 4 ≤ v
    · rw [if_pos h2]
    · rw [if_neg h2]
      by_cases h3 : w < nI 0
      · rw [if_pos h3]
      · rw [if_neg h3]
        by_cases h4 : w ≤ nI 3
        · exfalso
          obtain ⟨n, hn1, rfl⟩ := nI_of (show ¬ v < 0 from h1)
          obtain ⟨k, hk1, rfl⟩ := nI_of (show ¬ w < 0 from h3)
          rcases hn with hn | hn
          · refine hn n ?_ rfl
            rcases Nat.lt_or_ge n 4 with h5 | h5
            · exact h5
            · exact absurd (nI_le h5 hn1) h2
          · refine hn k ?_ rfl
            have := (nI_leI hk1 (by omega)).mp h4
            omega
        · rw [if_neg h4]
theorem CA.c79 (hC : CA z sl M pm S Q Y X W h) {p n : Nat} (hp9 : p < 4) (hn : n < 4) : ag_run gT (d + 7) 79 [.inr (some 0), .inl (nI p), .inl (nI n)] h = some (.inl (some (.inl (prV Q Y p n))), h) := by
  rw [r79]
  unfold f79 prV
  rw [lit_0, lit_1, lit_4, lit_3, if_neg (nI_nlt (by omega) (by omega)), if_neg (nI_ge (by omega) (by omega)), if_neg (nI_nlt (by omega) (by omega)), if_pos (nI_le (by omega) (by omega)), hC.p2, hC.qp hp9, hC.f1 hp9]
  cases hq : Q p with
  | none => rw [Option.map_none, if_pos rfl]
  | some j =>
    have hj := hC.q4 hp9 hq
    rw [Option.map_some, if_neg (by simp)]
    have : n = 0 ∨ n = 1 ∨ n = 2 ∨ n = 3 := by omega
    rcases this with rfl | rfl | rfl | rfl
    · rw [sw_at (n := 0) (by decide) rfl]; rfl
    · rw [sw_at (n := 1) (by decide) rfl, hC.ap hp9, hC.c33 (d := d + 5) hp9, b_I]; rfl
    · rw [sw_at (n := 2) (by decide) rfl, hC.nc hj]; rfl
    · rw [sw_no (by intro n hn; have hn : n < 3 := hn; rw [Ne, nI_eq (by omega) (by omega)]; omega), hC.an hj, hC.n18 (d := d + 5) hj, b_I]; rfl
end EXIT

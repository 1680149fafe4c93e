/-! THE CLASS'S METHODS: type, keep, open -/
section PUB
variable {z sl d : Nat} {M : Nat → Nat → Int32} {pm : Nat → Nat → Nat} {S : zS} {Q : Nat → Option Nat} {Y : zY} {X : zX} {W : zW} {h : ag_H} {s x : Nat} {F G : List (Nat × Nat)} {p f j : Nat}
theorem CA.tx (hC : CA z sl M pm S Q Y X W h) : CT (fun a i => if a = 22 then (if i = 1 then nI X.1.length else 0) else if a = 23 then nI (X.1.getD i 0) else 0) 22 X.1 := by
  obtain ⟨kd, ln, I, R, ad, rfl, hB⟩ := hC
  obtain ⟨t1, t2, t3, t4, t5⟩ := hB.2.2.2.2.2.2.2.1.1
  refine ⟨rfl, t2, fun i hi => rfl, fun i hi => ⟨X.1.getD i 0, ?_, rfl⟩, t5⟩
  rw [List.getD_eq_getElem?_getD]
  cases hx : X.1[i]? with
  | none => decide
  | some c => exact t5 c (List.mem_of_getElem? hx)
theorem CA.c63 (hC : CA z sl M pm S Q Y X W h) (hl : X.1.length < 24) {c : Nat} (hc : c < 65536) : ∃ h', ag_run gT (d + 2) 63 [.inr (some 0), .inl (nI c)] h = some (.inl (some (.inl (nI (X.1.length + 1)))), h') ∧ CA z sl M pm S Q Y (X.1 ++ [c], X.2) W h' := by
  have hC0 := hC
  obtain ⟨kd, ln, I, R, ad, rfl, hB⟩ := hC
  have k22 : kd 22 = 8 := hB.kk (by decide) rfl
  obtain ⟨t1, t2, t3, t4⟩ := hB.2.2.2.2.2.2.2.1
  obtain ⟨I1, e1, q1, g1⟩ := s57_ok (z := z) (sl := sl) (d := d) hB.1 k22 t1 hl hc
  have B1 : CB z kd ln I1 R ad M pm S Q Y (X.1 ++ [c], X.2) W := hB.txt (fun b i hb => g1 b i (by omega) (by omega)) ⟨q1, t2.congr fun x i _ _ => g1 x i (by omega) (by omega), t3.congr fun x i _ _ => g1 x i (by omega) (by omega), t4.congr fun x i _ _ => g1 x i (by omega) (by omega)⟩
  have C1 : CA z sl M pm S Q Y (X.1 ++ [c], X.2) W (hp z sl kd ln I1 R) := ⟨kd, ln, I1, R, ad, rfl, B1⟩
  refine ⟨_, ?_, C1⟩
  rw [r63]
  unfold f63
  rw [hC0.p3, hC0.at (a := 22) (c := 8) (by decide) rfl rfl, e1, b_I, lit_0, if_neg (show ¬ nI 1 = nI 0 by decide), C1.p3, x_gI hB.1 k22 rfl, q1.1]
  simp
theorem CA.c63n (hC : CA z sl M pm S Q Y X W h) (hl : ¬ X.1.length < 24) (c : Int32) : ag_run gT (d + 2) 63 [.inr (some 0), .inl c] h = some (.inr 1, ag_thr h) := by
  have hC0 := hC
  obtain ⟨kd, ln, I, R, ad, rfl, hB⟩ := hC
  have k22 : kd 22 = 8 := hB.kk (by decide) rfl
  obtain ⟨t1, -⟩ := hB.2.2.2.2.2.2.2.1
  rw [r63]
  unfold f63
  rw [hC0.p3, hC0.at (a := 22) (c := 8) (by decide) rfl rfl, s57_no hB.1 k22 t1 hl, b_I, lit_0, if_pos rfl]
theorem CA.c64 (hC : CA z sl M pm S Q Y X W h) : ∃ h', ag_run gT (d + 2) 64 [.inr (some 0)] h = some (.inl (some (.inl (nI X.1.length))), h') ∧ CA z sl M pm S Q Y ([], X.1, X.2.2) W h' := by
  have hC0 := hC
  obtain ⟨kd, ln, I, R, ad, rfl, hB⟩ := hC
  have k22 : kd 22 = 8 := hB.kk (by decide) rfl
  have k24 : kd 24 = 8 := hB.kk (by decide) rfl
  obtain ⟨t1, t2, t3, t4⟩ := hB.2.2.2.2.2.2.2.1
  obtain ⟨I1, e1, q1, g1⟩ := s59 (z := z) (sl := sl) (d := d) hB.1 k24 k22 (by decide) t1
  have B1 : CB z kd ln I1 R ad M pm S Q Y (X.1, X.1, X.2.2) W := hB.txt (fun b i hb => g1 b i (by omega) (by omega)) ⟨t1.congr fun x i _ _ => g1 x i (by omega) (by omega), q1, t3.congr fun x i _ _ => g1 x i (by omega) (by omega), t4.congr fun x i _ _ => g1 x i (by omega) (by omega)⟩
  have C1 : CA z sl M pm S Q Y (X.1, X.1, X.2.2) W (hp z sl kd ln I1 R) := ⟨kd, ln, I1, R, ad, rfl, B1⟩
  obtain ⟨t1, t2, t3, t4⟩ := B1.2.2.2.2.2.2.2.1
  have B3 : CB z kd ln (up2 I1 22 1 (nI 0)) R ad M pm S Q Y ([], X.1, X.2.2) W := B1.txt (fun b i hb => up2_na (by omega)) ⟨⟨up2_eq _ _ _ _, by simp, fun i hi => by simp at hi, fun i hi => by rw [up2_na (by decide)]; exact t1.2.2.2.1 i hi, fun x hx => by simp at hx⟩, t2.congr fun x i _ _ => up2_na (by omega), t3.congr fun x i _ _ => up2_na (by omega), t4.congr fun x i _ _ => up2_na (by omega)⟩
  have C3 : CA z sl M pm S Q Y ([], X.1, X.2.2) W (hp z sl kd ln (up2 I1 22 1 (nI 0)) R) := ⟨kd, ln, _, R, ad, rfl, B3⟩
  refine ⟨_, ?_, C3⟩
  rw [r64]
  unfold f64
  rw [hC0.p4, hC0.p3, hC0.at (a := 24) (c := 8) (by decide) rfl rfl, e1, b_V, C1.p3, lit_0, x_pI hB.1 k22 rfl, C3.p4, x_gI hB.1 k24 rfl, B3.2.2.2.2.2.2.2.1.2.1.1]
/-- modes -/
def isM (v : Int32) (m : Nat) : Prop := m < 3 ∧ v = nI m
def noM (v : Int32) : Prop := ∀ m, m < 3 → v ≠ nI m
theorem M_or (v : Int32) : (∃ m, isM v m) ∨ noM v := by
  by_cases h : ∃ m, m < 3 ∧ v = nI m
  · exact Or.inl h
  · exact Or.inr fun m hm hv => h ⟨m, hm, hv⟩
theorem CA.c65n (hC : CA z sl M pm S Q Y X W h) {v w : Int32} (hn : noP Q v) : ag_run gT (d + 7) 65 [.inr (some 0), .inl v, .inl w] h = some (.inr 0, ag_thr h) := by
  rw [r65]
  unfold f65
  rw [hC.a0, hC.c87n (d := d + 3) hn, b_Re]
theorem CA.c65a (hC : CA z sl M pm S Q Y X W h) {v w : Int32} (hp9 : isP Q v p j) (ha : pth X.1 = none ∨ noM w) : ∃ h', ag_run gT (d + 7) 65 [.inr (some 0), .inl v, .inl w] h = some (.inr 0, h') ∧ CA (z + 1) (sl + 6) M pm S Q Y ([], [], pth X.1, pth X.2.1) W h' := by
  obtain ⟨h1, e1, C1⟩ := hC.c87 (d := d + 3) hp9
  refine ⟨_, ?_, C1.thr⟩
  rw [r65]
  unfold f65 f65_25
  rw [hC.a0, e1, b_R, C1.p5, C1.pp (Or.inl rfl), lit_0]
  show (if bI (pth X.1).isSome = nI 0 then _ else _) = _
  by_cases h1 : pth X.1 = none
  · rw [h1, if_pos (show bI (none : Option (List Nat)).isSome = nI 0 from rfl)]
  · have h2 := ha.resolve_left h1
    obtain ⟨ns, hns⟩ := Option.ne_none_iff_exists'.mp h1
    rw [hns, if_neg (show ¬ bI (some ns).isSome = nI 0 from (show ¬ bI true = nI 0 by decide))]
    by_cases h3 : w < nI 0
    · rw [if_pos h3]
    · rw [if_neg h3, lit_2]
      by_cases h4 : w ≤ nI 2
      · exfalso
        obtain ⟨n, hn1, rfl⟩ := nI_of (show ¬ w < 0 from h3)
        exact h2 n (by have := (nI_leI hn1 (by omega)).mp h4; omega) rfl
      · rw [if_neg h4]
theorem CA.c65b (hC : CA z sl M pm S Q Y X W h) {v w : Int32} (hp9 : isP Q v p j) {ns : List Nat} (hns : pth X.1 = some ns) {m : Nat} (hm : isM w m) (hf : lfr Y.2.1 p = none) : ∃ h', ag_run gT (d + 7) 65 [.inr (some 0), .inl v, .inl w] h = some (.inr 1, h') ∧ CA (z + 1) (sl + 6) M pm S Q Y ([], [], pth X.1, pth X.2.1) W h' := by
  obtain ⟨h1, e1, C1⟩ := hC.c87 (d := d + 3) hp9
  obtain ⟨m3, rfl⟩ := hm
  refine ⟨_, ?_, C1.thr⟩
  rw [r65]
  unfold f65
  rw [hC.a0, e1, b_R, C1.p5, C1.pp (Or.inl rfl), lit_0]
  show (if bI (pth X.1).isSome = nI 0 then _ else _) = _
  rw [hns, if_neg (show ¬ bI (some ns).isSome = nI 0 from (show ¬ bI true = nI 0 by decide)), if_neg (nI_nlt (by omega) (by omega)), lit_2, if_pos (nI_le (by omega) (by omega)), C1.ap hp9.1, C1.c32 hp9.1, b_I, hf]
  show ag_bR (ag_run gT (d + 6) 86 [.inr (some (56 + 49 * p)), .inl (-1)] h1) _ = _
  rw [c86n, b_Re]
theorem lfr_lt {O : Nat → Nat → zU} (hf : lfr O p = some f) : f < 5 ∧ (O p f).1 = false := by
  unfold lfr at hf
  refine ⟨List.mem_range.mp (List.mem_of_find?_eq_some hf), ?_⟩
  have := List.find?_some hf
  simpa using this
def thO (e : Nat) : Nat := if e = 112 then 3 else 2
theorem CA.c65 (hC : CA z sl M pm S Q Y X W h) {v w : Int32} (hp9 : isP Q v p j) {ns : List Nat} (hns : pth X.1 = some ns) {m : Nat} (hm : isM w m) (hf : lfr Y.2.1 p = some f) (h0 : (0, 0) ∈ F) (hl : F.length + 4 < 128) (hP : PM Y.1 j F) (h3 : ∀ q ∈ Y.1 j, q.2.length ≤ 3 ∧ q.2 ≠ []) (hO : OW S F) (hW : WK S (0, 0, 0, true)) :
    (∀ e, (kWk Y.1 j ns S (0, 0, 0, true)).2 = .inl e → ∃ h' H' W', ag_run gT (d + 7) 65 [.inr (some 0), .inl v, .inl w] h = some (.inr (thW e), h') ∧ CA (z + 1) (sl + 6) M pm (kWk Y.1 j ns S (0, 0, 0, true)).1 Q (Y.1, Y.2.1, H') ([], [], pth X.1, pth X.2.1) W' h') ∧
    ∀ w', (kWk Y.1 j ns S (0, 0, 0, true)).2 = .inr w' → ∀ T ms R ms' e, kTk Y.1 j (kWk Y.1 j ns S (0, 0, 0, true)).1 w' = (T, ms) → kOpL m ms T 0 = (R, ms', e) →
      (ms' = [] → ∃ h' H' u, ag_run gT (d + 7) 65 [.inr (some 0), .inl v, .inl w] h = some (.inr (thO e), h') ∧ CA (z + 1) (sl + 6) M pm R Q (Y.1, up2 Y.2.1 p f (false, u), H') ([], [], pth X.1, pth X.2.1) w' h') ∧
      (ms' ≠ [] → ∃ h' H', ag_run gT (d + 7) 65 [.inr (some 0), .inl v, .inl w] h = some (.inl (some (.inl (nI f))), h') ∧ CA z sl M pm R Q (Y.1, up2 Y.2.1 p f (true, ms', ms.length, m, 0, 0), H') ([], [], pth X.1, pth X.2.1) w' h') := by
  obtain ⟨h1, e1, C1⟩ := hC.c87 (d := d + 3) hp9
  obtain ⟨m3, rfl⟩ := hm
  obtain ⟨hp4, hv, hq⟩ := hp9
  have hj := hC.q4 hp4 hq
  obtain ⟨f5, hfu⟩ := lfr_lt hf
  obtain ⟨-, -, hn1, -⟩ := C1.nm (d := d) (b := 26) (Or.inl rfl) hns
  obtain ⟨w1, w2⟩ := C1.wo (d := d) (b := 26) hj (Or.inl rfl) hns (u := ns.length) (Nat.le_refl _) h0 (by omega) hP hO hW
  rw [List.take_length] at w1 w2
  obtain ⟨o1, o2⟩ := OW.wk h0 (by omega) hP ns S (0, 0, 0, true) hO hW
  have start : ag_run gT (d + 7) 65 [.inr (some 0), .inl v, .inl (nI m)] h = ag_bV (ag_run gT (d + 6) 91 [.inr (some 0), .inr (some (34 + 49 * j)), .inr (some 26), .inl (nI ns.length)] h1) fun h16 =>
        ag_gR h16 (some (56 + 49 * p)) 6 1 fun x17 =>
        ag_at h16 (some 0) 10 fun a18 _ => ag_bV (ag_run gT (d + 6) 98 [.inr (some a18), .inr x17, .inr (some (58 + 49 * p + 5 * f))] h16) fun h19 =>
        ag_gR h19 (some (58 + 49 * p + 5 * f)) 3 0 fun x20 =>
        ag_at h19 (some 0) 10 fun a21 _ => ag_bI (ag_run gT (d + 6) 100 [.inr (some a21), .inr x20, .inl (nI m)] h19) fun x23 h22 =>
        ag_gR h22 (some (58 + 49 * p + 5 * f)) 3 0 fun x24 =>
        ag_gI h22 x24 0 3 fun x25 =>
        if x25 = nI 0 then
          ag_bV (ag_run gT (d + 6) 89 [.inl x23] h22) fun h26 =>
          f65_106 (ag_run gT (d + 6)) (nI m) (nI f) (some (58 + 49 * p + 5 * f)) h26
        else
          f65_106 (ag_run gT (d + 6)) (nI m) (nI f) (some (58 + 49 * p + 5 * f)) h22 := by
    rw [r65]
    unfold f65
    rw [hC.a0, e1, b_R, C1.p5, C1.pp (Or.inl rfl), lit_0]
    show (if bI (pth X.1).isSome = nI 0 then _ else _) = _
    rw [hns, if_neg (show ¬ bI (some ns).isSome = nI 0 from (show ¬ bI true = nI 0 by decide)), if_neg (nI_nlt (by omega) (by omega)), lit_2, if_pos (nI_le (by omega) (by omega)), C1.ap hp4, C1.c32 hp4, b_I, hf]
    show ag_bR (ag_run gT (d + 6) 86 [.inr (some (56 + 49 * p)), .inl (nI f)] h1) _ = _
    rw [C1.c86 hp4 f5, b_R, C1.f1 hp4, hq, C1.p5, C1.p5, hn1, C1.a0]
    rfl
  rw [start]
  refine ⟨fun e he => ?_, fun w' he T ms R ms' e hT hR => ?_⟩
  · obtain ⟨h2, H2, W2, e2, C2⟩ := w1 e he
    exact ⟨h2, H2, W2, by rw [e2, b_Ve], C2⟩
  · obtain ⟨h2, H2, e2, C2⟩ := w2 w' he
    obtain ⟨O2, K2, -⟩ := o2 w' he
    have hi3 : w'.2.2.1 < 300 := by
      have h1 := (O2.1 w'.1 K2.1).2.2.2.1 _ _ K2.2.1
      have h2 := (O2.1 w'.1 K2.1).2.1
      omega
    obtain ⟨h4, H4, e4, C4⟩ := C2.tk (d := d + 1) hp4 f5 hj O2 h0 hl K2.1 hi3 hP
    have OT := O2.tk h0 hl K2.1 hP (fun q hq => (h3 q hq).1)
    rw [hT] at C4 OT
    have hms : ∀ x ∈ ms, x.1 < 2 := by
      intro x hx
      have hx9 : x ∈ (kTk Y.1 j (kWk Y.1 j ns S (0, 0, 0, true)).1 w').2 := by rw [hT]; exact hx
      unfold kTk at hx9
      cases hpx : pidx (Y.1 j) w'.1 w'.2.2.1 with
      | none =>
        rw [hpx] at hx9
        have hx9 : x ∈ [(w'.1, (kOwn (kWk Y.1 j ns S (0, 0, 0, true)).1 w').2, false)] := hx9
        rw [List.mem_singleton] at hx9
        rw [hx9]; exact K2.1
      | some k =>
        rw [hpx] at hx9
        have hx9 : x ∈ (kCpy ((Y.1 j).getD k dP).2 (kWk Y.1 j ns S (0, 0, 0, true)).1).2 := hx9
        have key : ∀ (l : List zM) (S : zS), (∀ y ∈ l, y.1 < 2) → ∀ y ∈ (kCpy l S).2, y.1 < 2 := by
          intro l
          induction l with
          | nil => intro S _ y hy; exact absurd hy (by simp [kCpy])
          | cons a l ih =>
            intro S hl y hy
            have hy : y ∈ (a.1, fre S a.1, a.2.2) :: (kCpy l (kSame S a.1 a.2.1)).2 := hy
            rw [List.mem_cons] at hy
            rcases hy with rfl | hy
            · exact hl a (by simp)
            · exact ih _ (fun y h => hl y (by simp [h])) y hy
        exact key _ _ (fun y hy => (hP _ (getD_memP (pidx_lt hpx)) y hy).1) x hx9
    -- the row as a list of handles in a row
    have eL : sU (Y.1, Y.2.1, H4) p f ((Y.2.1 p f).1, ms, ms.length, (Y.2.1 p f).2.2.2) = lset (sU (Y.1, Y.2.1, H4) p f ((Y.2.1 p f).1, ms, ms.length, (Y.2.1 p f).2.2.2)) (2, p, f) ms := by
      show (Y.1, up2 Y.2.1 p f _, H4) = (Y.1, up2 (up2 Y.2.1 p f _) p f ((up2 Y.2.1 p f _ p f).1, ms, (up2 Y.2.1 p f _ p f).2.2), H4)
      rw [up2_eq, up2_up2]
    have C4' := C4
    change CA z sl M pm T Q (sU (Y.1, Y.2.1, H4) p f ((Y.2.1 p f).1, ms, ms.length, (Y.2.1 p f).2.2.2)) ([], [], pth X.1, pth X.2.1) w' h4 at C4'
    rw [eL] at C4'
    obtain ⟨h5, e5, C5⟩ := CA.oph (d := d + 1) hp4 f5 m3 C4' OT h0 hms
    rw [hR] at e5 C5
    obtain ⟨l1, l2, l3⟩ := LS2 (sU (Y.1, Y.2.1, H4) p f ((Y.2.1 p f).1, ms, ms.length, (Y.2.1 p f).2.2.2)) hp4 f5 ms'
    have hke := kOpL_e (m := m) ms T 0
    rw [hR] at hke
    obtain ⟨ke1, ke2, ke3, ke4⟩ := hke
    have hn3 : ms'.length ≤ 3 := by
      have := C5.len l1
      rw [l2] at this
      exact this
    have eU : lset (sU (Y.1, Y.2.1, H4) p f ((Y.2.1 p f).1, ms, ms.length, (Y.2.1 p f).2.2.2)) (2, p, f) ms' = (Y.1, up2 Y.2.1 p f ((Y.2.1 p f).1, ms', ms.length, (Y.2.1 p f).2.2.2), H4) := by
      show (Y.1, up2 (up2 Y.2.1 p f _) p f ((up2 Y.2.1 p f _ p f).1, ms', (up2 Y.2.1 p f _ p f).2.2), H4) = _
      rw [up2_eq, up2_up2]
    have pre : (ag_bV (ag_run gT (d + 6) 91 [.inr (some 0), .inr (some (34 + 49 * j)), .inr (some 26), .inl (nI ns.length)] h1) fun h16 =>
        ag_gR h16 (some (56 + 49 * p)) 6 1 fun x17 =>
        ag_at h16 (some 0) 10 fun a18 _ => ag_bV (ag_run gT (d + 6) 98 [.inr (some a18), .inr x17, .inr (some (58 + 49 * p + 5 * f))] h16) fun h19 =>
        ag_gR h19 (some (58 + 49 * p + 5 * f)) 3 0 fun x20 =>
        ag_at h19 (some 0) 10 fun a21 _ => ag_bI (ag_run gT (d + 6) 100 [.inr (some a21), .inr x20, .inl (nI m)] h19) fun x23 h22 =>
        ag_gR h22 (some (58 + 49 * p + 5 * f)) 3 0 fun x24 =>
        ag_gI h22 x24 0 3 fun x25 =>
        if x25 = nI 0 then
          ag_bV (ag_run gT (d + 6) 89 [.inl x23] h22) fun h26 =>
          f65_106 (ag_run gT (d + 6)) (nI m) (nI f) (some (58 + 49 * p + 5 * f)) h26
        else
          f65_106 (ag_run gT (d + 6)) (nI m) (nI f) (some (58 + 49 * p + 5 * f)) h22) = if nI ms'.length = nI 0 then
          ag_bV (ag_run gT (d + 6) 89 [.inl (nI e)] h5) fun h26 =>
          f65_106 (ag_run gT (d + 6)) (nI m) (nI f) (some (58 + 49 * p + 5 * f)) h26
        else
          f65_106 (ag_run gT (d + 6)) (nI m) (nI f) (some (58 + 49 * p + 5 * f)) h5 := by
      rw [e2, b_V, C2.f1 hp4, hq, C2.a0]
      show ag_bV (ag_run gT (d + 6) 98 [.inr (some 0), .inr (some (34 + 49 * j)), .inr (some (58 + 49 * p + 5 * f))] h2) _ = _
      rw [e4, b_V, C4.u0 hp4 f5, C4.a0, e5, b_I, C5.u0 hp4 f5, C5.hn l1, l2]
    rw [pre]
    refine ⟨fun h9 => ?_, fun h9 => ?_⟩
    · have hne : ms ≠ [] := by
        intro hm9
        have hT2 : (kTk Y.1 j (kWk Y.1 j ns S (0, 0, 0, true)).1 w').2 = [] := by rw [hT]; exact hm9
        unfold kTk at hT2
        cases hpx : pidx (Y.1 j) w'.1 w'.2.2.1 with
        | none => rw [hpx] at hT2; cases hT2
        | some k =>
          rw [hpx] at hT2
          have hT2 : (kCpy ((Y.1 j).getD k dP).2 (kWk Y.1 j ns S (0, 0, 0, true)).1).2 = [] := hT2
          have := kCpy_len ((Y.1 j).getD k dP).2 (kWk Y.1 j ns S (0, 0, 0, true)).1
          rw [hT2] at this
          exact (h3 _ (getD_memP (pidx_lt hpx))).2 (List.length_eq_zero_iff.mp this.symm)
      have he9 := ke2 h9 hne
      have C5' := C5
      rw [eU, hfu] at C5'
      refine ⟨_, H4, _, ?_, C5'.thr⟩
      rw [h9, if_pos (show nI ([] : List zM).length = nI 0 from rfl), r89]
      unfold f89 thO
      rw [lit8_112]
      rcases he9 with h | h
      · have h : e = 110 := h
        subst h
        rw [if_neg (by decide), if_neg (by decide), b_Ve]
      · have h : e = 112 := h
        subst h
        rw [if_pos (by decide), if_pos (by decide), b_Ve]
    · have hpos : 0 < ms'.length := List.length_pos_iff.mpr h9
      obtain ⟨h6, e6, C6⟩ := C5.u20 (d := d + 5) hp4 f5 m
      refine ⟨h6, H4, ?_, ?_⟩
      · rw [if_neg (by rw [nI_eq (by omega) (by omega)]; omega)]
        unfold f65_106
        rw [C5.au hp4 f5, e6, b_V]
      · rw [eU] at C6
        have e9 : sU (Y.1, up2 Y.2.1 p f ((Y.2.1 p f).1, ms', ms.length, (Y.2.1 p f).2.2.2), H4) p f (true, (up2 Y.2.1 p f ((Y.2.1 p f).1, ms', ms.length, (Y.2.1 p f).2.2.2) p f).2.1, (up2 Y.2.1 p f ((Y.2.1 p f).1, ms', ms.length, (Y.2.1 p f).2.2.2) p f).2.2.1, m, 0, 0) = (Y.1, up2 Y.2.1 p f (true, ms', ms.length, m, 0, 0), H4) := by
          show (Y.1, up2 (up2 Y.2.1 p f _) p f _, H4) = _
          rw [up2_eq, up2_up2]
        rw [← e9]
        exact C6
end PUB

/-! THE CLASS'S METHODS: create -/
def fmk (ms : List zM) : Option Nat := (List.range ms.length).find? fun i => (ms.getD i dM).2.2
def thM (e : Nat) : Nat := if e = 102 then 1 else if e = 110 then 2 else 3
def dM2 (dir : Bool) : Nat := bif dir then 0 else 2
def kMg (S : zS) (W : zW) (m : zM) (c : Nat) (dir : Bool) : zS × (Nat ⊕ (Nat × Nat)) := match oMK ((kGo (kSame S m.1 m.2.1) W.1 W.2.1).1 m.1) (fre S m.1) c with
  | .inl e => (kGo (kMK (kGo (kSame S m.1 m.2.1) W.1 W.2.1) m.1 (fre S m.1) c dir) m.1 (fre S m.1), .inl (thM e))
  | .inr _ => (kOP (kMK (kGo (kSame S m.1 m.2.1) W.1 W.2.1) m.1 (fre S m.1) c dir) m.1 (fre S m.1) (dM2 dir), .inr (m.1, fre S m.1))
def kMf (P : Nat → List zP) (j : Nat) (S : zS) (W : zW) (c : Nat) (dir : Bool) : zS × (Nat ⊕ (Nat × Nat)) := match fmk (stM P j W) with
  | none => (kGo S W.1 W.2.1, .inl 3)
  | some k => kMg S W ((stM P j W).getD k dM) c dir
section CRE
variable {z sl d : Nat} {M : Nat → Nat → Int32} {pm : Nat → Nat → Nat} {S : zS} {Q : Nat → Option Nat} {Y : zY} {X : zX} {W : zW} {h : ag_H} {s x : Nat} {F G : List (Nat × Nat)} {p f j : Nat}
theorem fmk_lt {ms : List zM} {k : Nat} (hk : fmk ms = some k) : k < ms.length := List.mem_range.mp (List.mem_of_find?_eq_some hk)
theorem oMK_e {V : zV} {c e : Nat} (h9 : oMK V x c = .inl e) : e = 110 ∨ e = 120 ∨ e = 102 ∨ e = 100 := by
  unfold oMK at h9
  cases hs : V.2.2.1 x with
  | none => rw [hs] at h9; cases h9; exact Or.inl rfl
  | some i =>
    rw [hs] at h9
    dsimp only at h9
    cases h1 : (V.2.1 i).1
    · rw [h1] at h9; cases h9; exact Or.inl rfl
    · rw [h1] at h9
      dsimp only [cond_true] at h9
      cases h2 : (V.2.1 i).2.1
      · rw [h2] at h9; cases h9; exact Or.inr (Or.inr (Or.inr rfl))
      · rw [h2] at h9
        dsimp only [cond_true] at h9
        cases h3 : (vin V i c).isSome
        · rw [h3] at h9
          dsimp only [cond_false] at h9
          cases h4 : Nat.ble 20 (vlv V).length
          · rw [h4] at h9; cases h9
          · rw [h4] at h9; cases h9; exact Or.inr (Or.inr (Or.inl rfl))
        · rw [h3] at h9; cases h9; exact Or.inr (Or.inl rfl)
theorem CA.mf (hC : CA z sl M pm S Q Y X W h) (hp9 : p < 4) (hf : f < 5) (hj : j < 4) (hO : OW S (fl W ++ F)) (h0 : (0, 0) ∈ F) (hl : F.length + 4 < 128) (hW : WK S W) (hP : PM Y.1 j F) {ns : List Nat} (hns : X.2.2.1 = some ns) (hnp : 0 < ns.length) (hnx : ∀ t, t < 2 → (S.1 t).1 < 250) (dir : Bool) :
    (∀ e, (kMf Y.1 j S W (ns.getD (ns.length - 1) 0) dir).2 = .inl e → ∃ h' H z' sl', ag_run gT (d + 5) 101 [.inr (some 0), .inr (some (34 + 49 * j)), .inr (some (58 + 49 * p + 5 * f)), .inl (bI dir)] h = some (.inr e, h') ∧ z ≤ z' ∧ z' ≤ z + 3 ∧ sl ≤ sl' ∧ sl' ≤ sl + 22 ∧ CA z' sl' M pm (kMf Y.1 j S W (ns.getD (ns.length - 1) 0) dir).1 Q (Y.1, Y.2.1, H) X W h') ∧
    ∀ t n, (kMf Y.1 j S W (ns.getD (ns.length - 1) 0) dir).2 = .inr (t, n) → ∃ h' H z' sl', ag_run gT (d + 5) 101 [.inr (some 0), .inr (some (34 + 49 * j)), .inr (some (58 + 49 * p + 5 * f)), .inl (bI dir)] h = some (.inl none, h') ∧ z ≤ z' ∧ z' ≤ z + 2 ∧ sl ≤ sl' ∧ sl' ≤ sl + 16 ∧ CA z' sl' M pm (kMf Y.1 j S W (ns.getD (ns.length - 1) 0) dir).1 Q (sU (Y.1, Y.2.1, H) p f ((Y.2.1 p f).1, [(t, n, false)], 1, (Y.2.1 p f).2.2.2)) X W h' := by
  have hm := fl_mem (W := W) h0
  have hw := hW.1
  have hx := hO.lt hw hm
  have hfl := fl_len W F
  have hi3 : W.2.2.1 < 300 := by
    have h1 := (hO.1 W.1 hW.1).2.2.2.1 _ _ hW.2.1
    have h2 := (hO.1 W.1 hW.1).2.1
    omega
  obtain ⟨h1, H, e1, C1, L1, m1⟩ := hC.std (d := d + 2) hj hw hi3
  have e2 := C1.h6 (d := d + 3) L1
  rw [m1] at e2
  have hst := stM_ok hP hw hm
  cases hk : fmk (stM Y.1 j W) with
  | none =>
    have hkm : kMf Y.1 j S W (ns.getD (ns.length - 1) 0) dir = (kGo S W.1 W.2.1, .inl 3) := by unfold kMf; rw [hk]
    rw [hkm]
    have hk' : ((List.range (stM Y.1 j W).length).find? fun i => ((stM Y.1 j W).getD i dM).2.2) = none := hk
    obtain ⟨h3, e3, C3⟩ := C1.go (d := d) hw hx
    refine ⟨fun e he => ?_, fun t n he => by cases he⟩
    have he : (Sum.inl 3 : Nat ⊕ (Nat × Nat)) = Sum.inl e := he
    cases he
    exact ⟨_, H, z + 1, sl + 6, by rw [r101]; unfold f101; rw [hC.a0, e1, b_R, C1.ah L1, e2, b_I, lit_0, hk', if_neg (show ¬ nI 0 ≤ pI none by decide), C1.g9, C1.g10, C1.a0, e3, b_V], by omega, by omega, by omega, by omega, C3.thr⟩
  | some k =>
    have hk' : ((List.range (stM Y.1 j W).length).find? fun i => ((stM Y.1 j W).getD i dM).2.2) = some k := hk
    have hkl := fmk_lt hk
    have hkl2 : k < (lms (Y.1, Y.2.1, H) (stL Y.1 j W)).length := by rw [m1]; exact hkl
    have hl3 := C1.len L1
    rw [m1] at hl3
    obtain ⟨v1, v2⟩ := hst _ (gM_mem hkl)
    have v3 := hO.lt v1 v2
    have e3 := C1.h3 (d := d + 3) L1 hkl2
    obtain ⟨h4, t, q, t', r, e4, C4⟩ := C1.to (d := d + 3) v1
    have e5 := C4.h4 (d := d + 3) L1 hkl2
    rw [m1] at e3 e5
    have hkm : kMf Y.1 j S W (ns.getD (ns.length - 1) 0) dir = kMg S W ((stM Y.1 j W).getD k dM) (ns.getD (ns.length - 1) 0) dir := by unfold kMf; rw [hk]
    rw [hkm]
    generalize hmm : (stM Y.1 j W).getD k dM = mm at *
    unfold kMg
    obtain ⟨f1, f2, f3, f4⟩ := hO.free v1 (by omega)
    obtain ⟨h6, e6, C6⟩ := C4.c38 (d := d + 1) (s := mm.1) rfl v3 f1
    have e6 : ag_run gT (d + 4) 38 [.inr (some (2 + 9 * mm.1)), .inl (nI mm.2.1)] h4 = some (.inl (some (.inl (nI (fre S mm.1)))), h6) := e6
    have C6 : CA z sl M pm (kSame S mm.1 mm.2.1) Q (Y.1, Y.2.1, H) X W h6 := C6
    have O6 := hO.same v1 v2 (by omega)
    obtain ⟨h7, e7, C7⟩ := C6.go (d := d) hw hx
    have O7 : OW (kGo (kSame S mm.1 mm.2.1) W.1 W.2.1) ((mm.1, fre S mm.1) :: F) := fl_go (L := [(mm.1, fre S mm.1)]) O6 hw
    obtain ⟨h8, t8, q8, t8', r8, e8, C8⟩ := C7.to (d := d + 3) v1
    obtain ⟨h12, hnm, hnc, hna⟩ := C8.nm (d := d + 3) (b := 26) (Or.inl rfl) (show pa X 26 = some ns from hns)
    obtain ⟨hc8, e9⟩ := hnm (ns.length - 1) (by omega)
    have hnx7 : ((kGo (kSame S mm.1 mm.2.1) W.1 W.2.1).1 mm.1).1 < 250 := by
      have := ((SF.same S mm.1 mm.2.1).trans (SF.go _ W.1 W.2.1)) mm.1
      rw [this.1]
      exact hnx _ v1
    obtain ⟨h10, z', sl', e10, z1, z2, z3, z4, C10⟩ := C8.c41 (d := d + 1) (s := mm.1) rfl f2 hc8 dir hnx7
    have e10 : ag_run gT (d + 4) 41 [.inr (some (2 + 9 * mm.1)), .inl (nI (fre S mm.1)), .inl (nI (97 + ns.getD (ns.length - 1) 0)), .inl (bI dir)] h8 = some (.inl (some (.inl (eI (oMK ((kGo (kSame S mm.1 mm.2.1) W.1 W.2.1).1 mm.1) (fre S mm.1) (ns.getD (ns.length - 1) 0))))), h10) := e10
    have C10 : CA z' sl' M pm (kMK (kGo (kSame S mm.1 mm.2.1) W.1 W.2.1) mm.1 (fre S mm.1) (ns.getD (ns.length - 1) 0) dir) Q (Y.1, Y.2.1, H) X W h10 := C10
    have st : ag_run gT (d + 5) 101 [.inr (some 0), .inr (some (34 + 49 * j)), .inr (some (58 + 49 * p + 5 * f)), .inl (bI dir)] h = if eI (oMK ((kGo (kSame S mm.1 mm.2.1) W.1 W.2.1).1 mm.1) (fre S mm.1) (ns.getD (ns.length - 1) 0)) = nI 0 then f101_129 (ag_run gT (d + 4)) (some 0) (some (58 + 49 * p + 5 * f)) (bI dir) (nI mm.1) (nI (fre S mm.1)) h10 else
        ag_at h10 (some 0) 10 fun a35 _ => ag_bV (ag_run gT (d + 4) 95 [.inr (some a35), .inl (nI mm.1), .inl (nI (fre S mm.1))] h10) fun h36 =>
        ag_bV (ag_run gT (d + 4) 90 [.inl (eI (oMK ((kGo (kSame S mm.1 mm.2.1) W.1 W.2.1).1 mm.1) (fre S mm.1) (ns.getD (ns.length - 1) 0)))] h36) fun h37 =>
        f101_129 (ag_run gT (d + 4)) (some 0) (some (58 + 49 * p + 5 * f)) (bI dir) (nI mm.1) (nI (fre S mm.1)) h37 := by
      rw [r101]
      unfold f101
      rw [hC.a0, e1, b_R, C1.ah L1, e2, b_I, lit_0, hk', if_pos (show nI 0 ≤ pI (some k) from nI_le (by omega) (by omega))]
      show (ag_at h1 (some (lad pm (stL Y.1 j W))) 0 fun a7 _ => ag_bI (ag_run gT (d + 4) 3 [.inr (some a7), .inl (nI k)] h1) _) = _
      rw [C1.ah L1, e3, b_I, C1.a0, e4, b_R, C4.ah L1]
      show ag_bI (ag_run gT (d + 4) 4 [.inr (some (lad pm (stL Y.1 j W))), .inl (nI k)] h4) _ = _
      rw [e5, b_I, C4.as v1, e6, b_I, C6.g9, C6.g10, C6.a0, e7, b_V, C7.a0, e8, b_R, C8.p5, C8.p5, hnc, hna, lit_1, nI_sub (by omega), e9, b_I, C8.as v1, e10, b_I]
    rw [st]
    cases ho : oMK ((kGo (kSame S mm.1 mm.2.1) W.1 W.2.1).1 mm.1) (fre S mm.1) (ns.getD (ns.length - 1) 0) with
    | inl e =>
      refine ⟨fun e' he => ?_, fun t n he => by cases he⟩
      have he : (Sum.inl (thM e) : Nat ⊕ (Nat × Nat)) = Sum.inl e' := he
      cases he
      have hee := oMK_e ho
      obtain ⟨h11, e11, C11⟩ := C10.go (d := d) v1 f2
      refine ⟨_, H, z' + 1, sl' + 6, ?_, by omega, by omega, by omega, by omega, C11.thr⟩
      rw [if_neg (show ¬ eI (Sum.inl e : Nat ⊕ Nat) = nI 0 by show ¬ nI e = nI 0; rw [nI_eq (by omega) (by omega)]; omega), C10.a0, e11, b_V]
      show ag_bV (ag_run gT (d + 4) 90 [.inl (nI e)] h11) _ = _
      rw [r90]
      unfold f90 thM
      rw [lit8_102, lit8_110]
      rcases hee with rfl | rfl | rfl | rfl
      · rw [if_neg (by decide), if_pos (by decide), b_Ve, if_neg (by decide), if_pos (by decide)]
      · rw [if_neg (by decide), if_neg (by decide), b_Ve, if_neg (by decide), if_neg (by decide)]
      · rw [if_pos (by decide), b_Ve, if_pos (by decide)]
      · rw [if_neg (by decide), if_neg (by decide), b_Ve, if_neg (by decide), if_neg (by decide)]
    | inr i =>
      refine ⟨fun e' he => (by cases he), fun t n he => ?_⟩
      have he : (Sum.inr (mm.1, fre S mm.1) : Nat ⊕ (Nat × Nat)) = Sum.inr (t, n) := he
      cases he
      rw [if_pos (show eI (Sum.inr i : Nat ⊕ Nat) = nI 0 from rfl)]
      unfold f101_129 f101_146
      rw [C10.a0, lit_0, lit_1, lit_2]
      obtain ⟨h11, t9, q9, t9', r9, e11, C11⟩ := C10.to (d := d + 3) v1
      obtain ⟨h13, e13, C13⟩ := C11.c40 (d := d + 1) (s := mm.1) rfl f2 (m := dM2 dir) (by cases dir <;> decide)
      have hL : LV (Y.1, Y.2.1, H) (2, p, f) := Or.inr (Or.inr ⟨p, f, rfl, hp9, hf⟩)
      obtain ⟨h14, e14, C14⟩ := C13.hz hL
      obtain ⟨l1, l2, l3⟩ := LS2 (Y.1, Y.2.1, H) hp9 hf []
      obtain ⟨h15, e15, C15⟩ := C14.h1f (d := d + 3) l1 (by rw [l2]; decide) (mm.1, fre S mm.1, false)
      rw [l2, l3] at C15
      obtain ⟨h16, e16, C16⟩ := C15.v2 hp9 hf 1
      rw [sU_lset] at C16
      refine ⟨h16, H, z', sl', ?_, z1, z2, z3, z4, C16⟩
      have e15' : ag_run gT (d + 4) 1 [.inr (some (lad pm (2, p, f))), .inl (nI 0), .inl (nI mm.1), .inl (nI (fre S mm.1)), .inl (nI 0)] h14 = some (.inl none, h15) := e15
      rw [e11, b_R]
      cases dir
      · have e13' : ag_run gT (d + 4) 40 [.inr (some (2 + 9 * mm.1)), .inl (nI (fre S mm.1)), .inl (nI 2)] h11 = some (_, h13) := e13
        rw [if_pos (show bI false = nI 0 from rfl), C11.as v1, e13', b_I, C13.u0 hp9 hf, e14, C14.u0 hp9 hf, C14.ah l1, e15', b_V]
        exact e16 _
      · have e13' : ag_run gT (d + 4) 40 [.inr (some (2 + 9 * mm.1)), .inl (nI (fre S mm.1)), .inl (nI 0)] h11 = some (_, h13) := e13
        rw [if_neg (show ¬ bI true = nI 0 by decide), C11.as v1, e13', b_I, C13.u0 hp9 hf, e14, C14.u0 hp9 hf, C14.ah l1, e15', b_V]
        exact e16 _
theorem CA.c66n (hC : CA z sl M pm S Q Y X W h) {v w : Int32} (hn : noP Q v) : ag_run gT (d + 7) 66 [.inr (some 0), .inl v, .inl w] h = some (.inr 0, ag_thr h) := by
  rw [r66]
  unfold f66
  rw [hC.a0, hC.c87n (d := d + 3) hn, b_Re]
theorem CA.c66a (hC : CA z sl M pm S Q Y X W h) {v w : Int32} (hp9 : isP Q v p j) (ha : pth X.1 = none) : ∃ h', ag_run gT (d + 7) 66 [.inr (some 0), .inl v, .inl w] h = some (.inr 0, h') ∧ CA (z + 1) (sl + 6) M pm S Q Y ([], [], pth X.1, pth X.2.1) W h' := by
  obtain ⟨h1, e1, C1⟩ := hC.c87 (d := d + 3) hp9
  refine ⟨_, ?_, C1.thr⟩
  rw [r66]
  unfold f66
  rw [hC.a0, e1, b_R, C1.p5, C1.pp (Or.inl rfl), lit_0]
  show (if bI (pth X.1).isSome = nI 0 then _ else _) = _
  rw [ha, if_pos (show bI (none : Option (List Nat)).isSome = nI 0 from rfl)]
theorem CA.c66b (hC : CA z sl M pm S Q Y X W h) {v w : Int32} (hp9 : isP Q v p j) {ns : List Nat} (hns : pth X.1 = some ns) (hf : lfr Y.2.1 p = none) : ∃ h', ag_run gT (d + 7) 66 [.inr (some 0), .inl v, .inl w] h = some (.inr 1, h') ∧ CA (z + 1) (sl + 6) M pm S Q Y ([], [], pth X.1, pth X.2.1) W h' := by
  obtain ⟨h1, e1, C1⟩ := hC.c87 (d := d + 3) hp9
  refine ⟨_, ?_, C1.thr⟩
  rw [r66]
  unfold f66
  rw [hC.a0, e1, b_R, C1.p5, C1.pp (Or.inl rfl), lit_0]
  show (if bI (pth X.1).isSome = nI 0 then _ else _) = _
  rw [hns, if_neg (show ¬ bI (some ns).isSome = nI 0 from (show ¬ bI true = nI 0 by decide)), C1.ap hp9.1, C1.c32 hp9.1, b_I, hf]
  show ag_bR (ag_run gT (d + 6) 86 [.inr (some (56 + 49 * p)), .inl (-1)] h1) _ = _
  rw [c86n, b_Re]
theorem CA.c66c (hC : CA z sl M pm S Q Y X W h) {v w : Int32} (hp9 : isP Q v p j) (hns : pth X.1 = some []) (hf : lfr Y.2.1 p = some f) : ∃ h', ag_run gT (d + 7) 66 [.inr (some 0), .inl v, .inl w] h = some (.inr 3, h') ∧ CA (z + 1) (sl + 6) M pm S Q Y ([], [], pth X.1, pth X.2.1) W h' := by
  obtain ⟨h1, e1, C1⟩ := hC.c87 (d := d + 3) hp9
  obtain ⟨-, -, hn1, -⟩ := C1.nm (d := d) (b := 26) (Or.inl rfl) hns
  refine ⟨_, ?_, C1.thr⟩
  rw [r66]
  unfold f66
  rw [hC.a0, e1, b_R, C1.p5, C1.pp (Or.inl rfl), lit_0]
  show (if bI (pth X.1).isSome = nI 0 then _ else _) = _
  rw [hns, if_neg (show ¬ bI (some ([] : List Nat)).isSome = nI 0 from (show ¬ bI true = nI 0 by decide)), C1.ap hp9.1, C1.c32 hp9.1, b_I, hf]
  show ag_bR (ag_run gT (d + 6) 86 [.inr (some (56 + 49 * p)), .inl (nI f)] h1) _ = _
  rw [C1.c86 hp9.1 (lfr_lt hf).1, b_R, C1.p5, hn1, if_pos (show nI ([] : List Nat).length = nI 0 from rfl)]
theorem CA.c66 (hC : CA z sl M pm S Q Y X W h) {v : Int32} (hp9 : isP Q v p j) {ns : List Nat} (hns : pth X.1 = some ns) (hnp : 0 < ns.length) (dir : Bool) (hf : lfr Y.2.1 p = some f) (h0 : (0, 0) ∈ F) (hl : F.length + 4 < 128) (hP : PM Y.1 j F) (hO : OW S F) (hW : WK S (0, 0, 0, true)) (hnx : ∀ t, t < 2 → (S.1 t).1 < 250) :
    (∀ e, (kWk Y.1 j (ns.take (ns.length - 1)) S (0, 0, 0, true)).2 = .inl e → ∃ h' H' W', ag_run gT (d + 7) 66 [.inr (some 0), .inl v, .inl (bI dir)] h = some (.inr (thW e), h') ∧ CA (z + 1) (sl + 6) M pm (kWk Y.1 j (ns.take (ns.length - 1)) S (0, 0, 0, true)).1 Q (Y.1, Y.2.1, H') ([], [], pth X.1, pth X.2.1) W' h') ∧
    ∀ w', (kWk Y.1 j (ns.take (ns.length - 1)) S (0, 0, 0, true)).2 = .inr w' → ∀ T, (kWk Y.1 j (ns.take (ns.length - 1)) S (0, 0, 0, true)).1 = T →
      (∀ e, (kMf Y.1 j T w' (ns.getD (ns.length - 1) 0) dir).2 = .inl e → ∃ h' H' z' sl', ag_run gT (d + 7) 66 [.inr (some 0), .inl v, .inl (bI dir)] h = some (.inr e, h') ∧ z ≤ z' ∧ z' ≤ z + 3 ∧ sl ≤ sl' ∧ sl' ≤ sl + 22 ∧ CA z' sl' M pm (kMf Y.1 j T w' (ns.getD (ns.length - 1) 0) dir).1 Q (Y.1, Y.2.1, H') ([], [], pth X.1, pth X.2.1) w' h') ∧
      (∀ t n, (kMf Y.1 j T w' (ns.getD (ns.length - 1) 0) dir).2 = .inr (t, n) → ∃ h' H' z' sl', ag_run gT (d + 7) 66 [.inr (some 0), .inl v, .inl (bI dir)] h = some (.inl (some (.inl (nI f))), h') ∧ z ≤ z' ∧ z' ≤ z + 2 ∧ sl ≤ sl' ∧ sl' ≤ sl + 16 ∧ CA z' sl' M pm (kMf Y.1 j T w' (ns.getD (ns.length - 1) 0) dir).1 Q (Y.1, up2 Y.2.1 p f (true, [(t, n, false)], 1, dM2 dir, 0, 0), H') ([], [], pth X.1, pth X.2.1) w' h') := by
  obtain ⟨h1, e1, C1⟩ := hC.c87 (d := d + 3) hp9
  obtain ⟨hp4, hv, hq⟩ := hp9
  have hj := hC.q4 hp4 hq
  obtain ⟨f5, hfu⟩ := lfr_lt hf
  obtain ⟨h12, -, hn1, -⟩ := C1.nm (d := d) (b := 26) (Or.inl rfl) hns
  obtain ⟨w1, w2⟩ := C1.wo (d := d) (b := 26) hj (Or.inl rfl) hns (u := ns.length - 1) (by omega) h0 (by omega) hP hO hW
  obtain ⟨o1, o2⟩ := OW.wk h0 (by omega) hP (ns.take (ns.length - 1)) S (0, 0, 0, true) hO hW
  have start : ag_run gT (d + 7) 66 [.inr (some 0), .inl v, .inl (bI dir)] h = ag_bV (ag_run gT (d + 6) 91 [.inr (some 0), .inr (some (34 + 49 * j)), .inr (some 26), .inl (nI (ns.length - 1))] h1) fun h18 =>
      ag_gR h18 (some (56 + 49 * p)) 6 1 fun x19 =>
      ag_at h18 (some 0) 10 fun a20 _ => ag_bV (ag_run gT (d + 6) 101 [.inr (some a20), .inr x19, .inr (some (58 + 49 * p + 5 * f)), .inl (bI dir)] h18) fun h21 =>
      if bI dir = nI 0 then
        f66_103 (ag_run gT (d + 6)) (nI f) (some (58 + 49 * p + 5 * f)) (nI 2) h21
      else
        f66_103 (ag_run gT (d + 6)) (nI f) (some (58 + 49 * p + 5 * f)) (nI 0) h21 := by
    rw [r66]
    unfold f66
    rw [hC.a0, e1, b_R, C1.p5, C1.pp (Or.inl rfl), lit_0, lit_1, lit_2]
    show (if bI (pth X.1).isSome = nI 0 then _ else _) = _
    rw [hns, if_neg (show ¬ bI (some ns).isSome = nI 0 from (show ¬ bI true = nI 0 by decide)), C1.ap hp4, C1.c32 hp4, b_I, hf]
    show ag_bR (ag_run gT (d + 6) 86 [.inr (some (56 + 49 * p)), .inl (nI f)] h1) _ = _
    rw [C1.c86 hp4 f5, b_R, C1.p5, hn1, if_neg (by rw [nI_eq (by omega) (by omega)]; omega), C1.f1 hp4, hq, C1.p5, C1.p5, hn1, C1.a0, nI_sub (by omega)]
    rfl
  rw [start]
  refine ⟨fun e he => ?_, fun w' he T hT => ?_⟩
  · obtain ⟨h2, H2, W2, e2, C2⟩ := w1 e he
    exact ⟨h2, H2, W2, by rw [e2, b_Ve], C2⟩
  · obtain ⟨h2, H2, e2, C2⟩ := w2 w' he
    obtain ⟨O2, K2, -⟩ := o2 w' he
    have sf := SF.wk (P := Y.1) (j := j) (ns.take (ns.length - 1)) S (0, 0, 0, true)
    rw [hT] at C2 O2 K2 sf
    obtain ⟨g1, g2⟩ := C2.mf (d := d + 1) hp4 f5 hj O2 h0 hl K2 hP hns hnp (fun t ht => by rw [(sf t).1]; exact hnx t ht) dir
    refine ⟨fun e he => ?_, fun t n he => ?_⟩
    · obtain ⟨h4, H4, z4, sl4, e4, b1, b2, b3, b4, C4⟩ := g1 e he
      refine ⟨h4, H4, z4, sl4, ?_, b1, b2, b3, b4, C4⟩
      rw [e2, b_V, C2.f1 hp4, hq, C2.a0]
      show ag_bV (ag_run gT (d + 6) 101 [.inr (some 0), .inr (some (34 + 49 * j)), .inr (some (58 + 49 * p + 5 * f)), .inl (bI dir)] h2) _ = _
      rw [e4, b_Ve]
    · obtain ⟨h4, H4, z4, sl4, e4, b1, b2, b3, b4, C4⟩ := g2 t n he
      obtain ⟨h6, e6, C6⟩ := C4.u20 (d := d + 5) hp4 f5 (dM2 dir)
      have e9 : ∀ (H : List zM) (u : zU) (m : Nat), sU (sU (Y.1, Y.2.1, H) p f u) p f (true, ((sU (Y.1, Y.2.1, H) p f u).2.1 p f).2.1, ((sU (Y.1, Y.2.1, H) p f u).2.1 p f).2.2.1, m, 0, 0) = (Y.1, up2 Y.2.1 p f (true, u.2.1, u.2.2.1, m, 0, 0), H) := by
        intro H u m
        show (Y.1, up2 (up2 Y.2.1 p f u) p f (true, (up2 Y.2.1 p f u p f).2.1, (up2 Y.2.1 p f u p f).2.2.1, m, 0, 0), H) = _
        rw [up2_eq, up2_up2]
      refine ⟨h6, H4, z4, sl4, ?_, b1, b2, b3, b4, ?_⟩
      · rw [e2, b_V, C2.f1 hp4, hq, C2.a0]
        show ag_bV (ag_run gT (d + 6) 101 [.inr (some 0), .inr (some (34 + 49 * j)), .inr (some (58 + 49 * p + 5 * f)), .inl (bI dir)] h2) _ = _
        rw [e4, b_V]
        unfold f66_103
        cases dir
        · have e6' : ag_run gT (d + 6) 20 [.inr (some (58 + 49 * p + 5 * f)), .inl (nI 2)] h4 = some (.inl none, h6) := e6
          rw [if_pos (show bI false = nI 0 from rfl), C4.au hp4 f5, e6', b_V]
        · have e6' : ag_run gT (d + 6) 20 [.inr (some (58 + 49 * p + 5 * f)), .inl (nI 0)] h4 = some (.inl none, h6) := e6
          rw [if_neg (show ¬ bI true = nI 0 by decide), C4.au hp4 f5, e6', b_V]
      · have := e9 H4 ((Y.2.1 p f).1, [(t, n, false)], 1, (Y.2.1 p f).2.2.2) (dM2 dir)
        rw [e9] at C6
        exact C6
end CRE

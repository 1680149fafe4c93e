/-! THE REFERENCE'S METHODS: create -/
def mkc (e : Nat) : Nat := if e = 102 then 3 else if e = 110 then 1 else 2
section RCRE
variable {A : zA} {M M' : Nat → Nat → Int32} {h : ag_H} {d s x i p f j o : Nat} {S S' : zS} {P : Nat → List zP} {Q : Nat → Option Nat} {O : Nat → Nat → zU} {F L G : List (Nat × Nat)} {W : zW} {X : List Nat × List Nat}
theorem FX.up {M : Nat → Nat → Int32} {k : Nat} {v : Int32} (hk : k = 17 ∨ k = 19 ∨ k = 20 ∨ k = 21 ∨ k = 40 ∨ k = 38 ∨ k = 39) : FX M (up2 M 230 k v) := fun b j z1 z2 => up2_ne (by omega)
/-- the code of an error of createOne -/
theorem t152_169 (hT : TA A M h) (ho : o < 20) (hO : OW S (fl W ++ F)) (h0 : (0, 0) ∈ F) (hl : F.length + 4 < 128) (hW : W.1 < 2) (hV : RV S.1 M) (hG : RG S M) {ns : List Nat} (hN : NM ns M) (hnp : 0 < ns.length) (h8 : M 230 38 = nI W.1) (h9 : M 230 39 = nI W.2.1) (hOL : OL M o []) {m : zM} (v1 : m.1 < 2) (v2 : (m.1, m.2.1) ∈ fl W ++ F) (hnx : ∀ t, t < 2 → (S.1 t).1 < 250) (dir : Bool) {b : Option Nat → Int32 → Int32 → Int32 → Int32 → Int32 → Int32 → ag_H → ag_R} :
    (∀ e, (kMg S W m (ns.getD (ns.length - 1) 0) dir).2 = .inl e → ∃ h' M' k, f152_169 (ag_run gT (d + 4)) b (some 230) (nI o) (bI dir) (nI m.1) (some 230) (nI m.1) (nI m.2.1) h = some (.inl (some (.inl (nI k))), h') ∧ k < 5 ∧ cdI k 3 4 2 = e + 1 ∧ TA A M' h' ∧ RV (kMg S W m (ns.getD (ns.length - 1) 0) dir).1.1 M' ∧ RG (kMg S W m (ns.getD (ns.length - 1) 0) dir).1 M' ∧ FX M M') ∧
    ∀ t n, (kMg S W m (ns.getD (ns.length - 1) 0) dir).2 = .inr (t, n) → ∃ h' M', f152_169 (ag_run gT (d + 4)) b (some 230) (nI o) (bI dir) (nI m.1) (some 230) (nI m.1) (nI m.2.1) h = some (.inl (some (.inl (nI 0))), h') ∧ TA A M' h' ∧ RV (kMg S W m (ns.getD (ns.length - 1) 0) dir).1.1 M' ∧ RG (kMg S W m (ns.getD (ns.length - 1) 0) dir).1 M' ∧ OL M' o [(t, n, false)] ∧ M' 256 o = nI 1 ∧ M' 259 o = nI (dM2 dir) ∧ M' 260 o = nI 0 ∧ M' 261 o = nI 0 ∧ FO o M M' := by
  have hm := fl_mem (W := W) h0
  have hx := hO.lt hW hm
  have hfl := fl_len W F
  have v3 := hO.lt v1 v2
  obtain ⟨g, hg, hg1⟩ := hO.st v1 v2
  obtain ⟨f1, f2, f3, f4⟩ := hO.free v1 (by omega)
  obtain ⟨h1, M1, e1, T1, V1, G1, q1, n1, F1⟩ := hT.t125s (d := d + 1) hV v1 (hO.1 m.1 v1) v3 hg f1
  have O1 := hO.same v1 v2 (by omega)
  obtain ⟨h2, M2, e2, T2, V2, G2, F2⟩ := T1.t132 (d := d + 1) V1 G1 hW hx
  have O2 : OW (kGo (kSame S m.1 m.2.1) W.1 W.2.1) ((m.1, fre S m.1) :: F) := fl_go (L := [(m.1, fre S m.1)]) O1 hW
  have h81 : M1 230 38 = nI W.1 := by rw [F1 _ _ (by decide) (by decide)]; exact h8
  have h91 : M1 230 39 = nI W.2.1 := by rw [F1 _ _ (by decide) (by decide)]; exact h9
  have FF := F1.w.trans F2.w
  have N2 := hN.fw FF
  obtain ⟨hc8, hcM⟩ := N2.2.2 (ns.length - 1) (by omega)
  have hn12 := hN.2.1
  obtain ⟨g2, hg2, hg21⟩ := O2.st v1 (h := fre S m.1) (by simp)
  have hnx2 : ((kGo (kSame S m.1 m.2.1) W.1 W.2.1).1 m.1).1 < 250 := by
    have := ((SF.same S m.1 m.2.1).trans (SF.go _ W.1 W.2.1)) m.1
    rw [this.1]
    exact hnx _ v1
  obtain ⟨h3, M3, e3, T3, V3, G3, q3, F3⟩ := T2.t128 (d := d + 1) V2 v1 O2.1 f2 hg2 hc8 dir hnx2
  have FF3 := FF.trans F3.w
  have st : f152_169 (ag_run gT (d + 4)) b (some 230) (nI o) (bI dir) (nI m.1) (some 230) (nI m.1) (nI m.2.1) h = if eI (oMK ((kGo (kSame S m.1 m.2.1) W.1 W.2.1).1 m.1) (fre S m.1) (ns.getD (ns.length - 1) 0)) = nI 0 then (if bI dir = nI 0 then f152_270 (ag_run gT (d + 4)) b (some 230) (nI o) (bI dir) (nI m.1) (nI (fre S m.1)) (some 230) (nI m.1) (nI (fre S m.1)) (nI 2) h3 else f152_270 (ag_run gT (d + 4)) b (some 230) (nI o) (bI dir) (nI m.1) (nI (fre S m.1)) (some 230) (nI m.1) (nI (fre S m.1)) (nI 0) h3) else
      ag_gI h3 (some 230) 11 20 fun x14 =>
      ag_at h3 (some 230) 11 fun a15 _ => ag_bV (ag_run gT (d + 4) 132 [.inr (some a15), .inl (nI m.1), .inl (nI (fre S m.1))] h3) fun h16 =>
      if x14 = nI 102 then some (.inl (some (.inl (nI 3))), h16) else if x14 = nI 110 then some (.inl (some (.inl (nI 1))), h16) else some (.inl (some (.inl (nI 2))), h16) := by
    unfold f152_169 f152_255
    rw [hT.ra, lit_m, e1, b_V, T1.rI (k := 40) rfl, n1, T1.rI (k := 38) rfl, h81, T1.rI (k := 39) rfl, h91, T1.ra, e2, b_V, T2.rR (k := 5) (b := 233) rfl rfl, T2.rI (k := 4) rfl, N2.1, lit_1, nI_sub (by omega), T2.rx (a := 233) (c := 100) (i := ns.length - 1) rfl (show ns.length - 1 < 12 by omega), hcM, T2.ra, e3, b_V, T3.rI (k := 20) rfl, q3, lit_0, lit_2, lit_3, lit8_102, lit8_110]
  rw [st]
  unfold kMg
  cases hop : oMK ((kGo (kSame S m.1 m.2.1) W.1 W.2.1).1 m.1) (fre S m.1) (ns.getD (ns.length - 1) 0) with
  | inl e =>
    have he := oMK_e hop
    rw [hop] at q3
    obtain ⟨h4, M4, e4, T4, V4, G4, F4⟩ := T3.t132 (d := d + 1) V3 G3 v1 f2
    refine ⟨fun e' he' => ?_, fun t n h9 => by cases h9⟩
    injection he' with he'
    subst he'
    refine ⟨h4, M4, mkc e, ?_, ?_, ?_, T4, V4, G4, FF3.trans F4.w⟩
    · rw [if_neg (show ¬ eI (Sum.inl e : Nat ⊕ Nat) = nI 0 by show ¬ nI e = nI 0; rw [nI_eq (by omega) (by omega)]; omega), T3.rI (k := 20) rfl, q3, T3.ra, e4, b_V]
      rcases he with rfl | rfl | rfl | rfl <;> rfl
    · rcases he with rfl | rfl | rfl | rfl <;> decide
    · rcases he with rfl | rfl | rfl | rfl <;> decide
  | inr i9 =>
    refine ⟨fun e' he' => (by cases he'), fun t n h9 => ?_⟩
    injection h9 with h9
    cases h9
    rw [if_pos (show eI (Sum.inr i9 : Nat ⊕ Nat) = nI 0 from rfl)]
    have hK : (kMK (kGo (kSame S m.1 m.2.1) W.1 W.2.1) m.1 (fre S m.1) (ns.getD (ns.length - 1) 0) dir).1 m.1 = inc (newF ((kGo (kSame S m.1 m.2.1) W.1 W.2.1).1 m.1) (fre S m.1) i9 (ns.getD (ns.length - 1) 0) dir) := by
      unfold kMK
      rw [hop]
      exact up1_eq _ _ _
    have hst3 : ((kMK (kGo (kSame S m.1 m.2.1) W.1 W.2.1) m.1 (fre S m.1) (ns.getD (ns.length - 1) 0) dir).1 m.1).2.2.1 (fre S m.1) = some ((kGo (kSame S m.1 m.2.1) W.1 W.2.1).1 m.1).1 := by
      rw [hK]; exact up1_eq _ _ _
    have hi9 : i9 < ((kGo (kSame S m.1 m.2.1) W.1 W.2.1).1 m.1).1 ∧ (((kGo (kSame S m.1 m.2.1) W.1 W.2.1).1 m.1).2.1 i9).2.1 = true ∧ (vlv ((kGo (kSame S m.1 m.2.1) W.1 W.2.1).1 m.1)).length < 20 := by
      unfold oMK at hop
      rw [hg2] at hop
      dsimp only at hop
      cases h1 : (((kGo (kSame S m.1 m.2.1) W.1 W.2.1).1 m.1).2.1 g2).1
      · rw [h1] at hop; cases hop
      · rw [h1] at hop
        cases h2 : (((kGo (kSame S m.1 m.2.1) W.1 W.2.1).1 m.1).2.1 g2).2.1
        · rw [h2] at hop; cases hop
        · rw [h2] at hop
          dsimp only [cond_true] at hop
          cases h3' : (vin ((kGo (kSame S m.1 m.2.1) W.1 W.2.1).1 m.1) g2 (ns.getD (ns.length - 1) 0)).isSome
          · rw [h3'] at hop
            dsimp only [cond_false] at hop
            cases h4 : Nat.ble 20 (vlv ((kGo (kSame S m.1 m.2.1) W.1 W.2.1).1 m.1)).length
            · rw [h4] at hop
              cases hop
              refine ⟨hg21, h2, ?_⟩
              rcases Nat.lt_or_ge (vlv ((kGo (kSame S m.1 m.2.1) W.1 W.2.1).1 m.1)).length 20 with h | h
              · exact h
              · rw [show Nat.ble 20 _ = true from Nat.ble_eq_true_of_le h] at h4; cases h4
            · rw [h4] at hop; cases hop
          · rw [h3'] at hop; cases hop
    have hVW3 : VW ((kMK (kGo (kSame S m.1 m.2.1) W.1 W.2.1) m.1 (fre S m.1) (ns.getD (ns.length - 1) 0) dir).1 m.1) := by
      rw [hK]
      exact VW.new (O2.1 m.1 v1) f2 hc8 hi9.1 hi9.2.1 hi9.2.2 hnx2
    obtain ⟨h4, M4, e4, T4, V4, G4, q4, F4⟩ := T3.t126 (d := d + 1) V3 v1 hVW3 f2 hst3 (m := dM2 dir) (by cases dir <;> decide)
    have FF4 := FF3.trans F4.w
    have T5 := T4.sx (a := 256) (c := 102) (i := o) rfl (nI 1)
    have L5 : OL (up2 M4 256 o (nI 1)) o [] := ⟨by rw [up2_na (by decide)]; exact (hOL.fx FF4).1, fun i hi => by simp at hi⟩
    obtain ⟨h6, M6, e6, T6, O6, F6⟩ := T5.t148 (d := d + 3) ho L5 (by decide) (m.1, fre S m.1, false)
    have T7 := T6.sx (a := 259) (c := 100) (i := o) rfl (nI (dM2 dir))
    have T8 := T7.sx (a := 260) (c := 100) (i := o) rfl (nI 0)
    have T9 := T8.sx (a := 261) (c := 100) (i := o) rfl (nI 0)
    generalize hM : up2 (up2 (up2 M6 259 o (nI (dM2 dir))) 260 o (nI 0)) 261 o (nI 0) = M9 at T9
    have m9 : ∀ b y, b ≠ 259 → b ≠ 260 → b ≠ 261 → M9 b y = M6 b y := fun b y z1 z2 z3 => by rw [← hM, up2_na z3, up2_na z2, up2_na z1]
    have m94 : ∀ b y, b < 246 → M9 b y = M4 b y := fun b y z => by rw [m9 b y (by omega) (by omega) (by omega), F6 b y (by omega) (by omega) (by omega), up2_na (by omega)]
    have fin : ∀ (md : Int32), md = nI (dM2 dir) → f152_270 (ag_run gT (d + 4)) b (some 230) (nI o) (bI dir) (nI m.1) (nI (fre S m.1)) (some 230) (nI m.1) (nI (fre S m.1)) md h3 = some (.inl (some (.inl (nI 0))), hse (hse (hse h6 259 o (nI (dM2 dir))) 260 o (nI 0)) 261 o (nI 0)) := by
      rintro md rfl
      unfold f152_270 f152_303
      have tl : ∀ (x7 : Int32), x7 = nI (dM2 dir) → (ag_xP h6 (some 259) 100 (nI o) (.inl x7) fun h1 => ag_gR h1 (some 230) 11 36 fun x2 => ag_xP h1 x2 100 (nI o) (.inl (nI 0)) fun h3 => ag_gR h3 (some 230) 11 37 fun x4 => ag_xP h3 x4 100 (nI o) (.inl (nI 0)) fun h5 => some (.inl (some (.inl (nI 0))), h5)) = some (.inl (some (.inl (nI 0))), hse (hse (hse h6 259 o (nI (dM2 dir))) 260 o (nI 0)) 261 o (nI 0)) := by
        rintro x7 rfl
        rw [T6.wx (a := 259) (c := 100) (i := o) rfl (show o < 20 from ho), T7.rR (k := 36) (b := 260) rfl rfl, T7.wx (a := 260) (c := 100) (i := o) rfl (show o < 20 from ho), T8.rR (k := 37) (b := 261) rfl rfl, T8.wx (a := 261) (c := 100) (i := o) rfl (show o < 20 from ho)]
      rw [T3.ra, e4, b_V, T4.rR (k := 32) (b := 256) rfl rfl, lit_1, b_B (x := nI 1) (Or.inr rfl), T4.wx (a := 256) (c := 102) (i := o) rfl (show o < 20 from ho), T5.ra, e6, b_V, T6.rR (k := 35) (b := 259) rfl rfl, lit_0, lit_2]
      cases dir
      · rw [if_pos (show bI false = nI 0 from rfl)]; exact tl _ rfl
      · rw [if_neg (show ¬ bI true = nI 0 by decide)]; exact tl _ rfl
    refine ⟨_, M9, ?_, T9, V4.rows fun b y h1 h2 => m94 b y (by omega), G4.congr (m94 _ _ (by decide)) (m94 _ _ (by decide)) (fun y => m94 _ _ (by decide)) (fun y => m94 _ _ (by decide)), ?_, ?_, ?_, ?_, ?_, ?_⟩
    · cases dir
      · rw [if_pos (show bI false = nI 0 from rfl)]; exact fin _ rfl
      · rw [if_neg (show ¬ bI true = nI 0 by decide)]; exact fin _ rfl
    · have O6 : OL M6 o [(m.1, fre S m.1, false)] := O6
      exact ⟨by rw [m9 _ _ (by decide) (by decide) (by decide)]; exact O6.1, fun i hi => ⟨by rw [m9 _ _ (by decide) (by decide) (by decide)]; exact (O6.2 i hi).1, by rw [m9 _ _ (by decide) (by decide) (by decide)]; exact (O6.2 i hi).2⟩⟩
    · rw [m9 _ _ (by decide) (by decide) (by decide), F6 _ _ (by omega) (by omega) (by omega), up2_eq]
    · rw [← hM, up2_na (by decide), up2_na (by decide), up2_eq]
    · rw [← hM, up2_na (by decide), up2_eq]
    · rw [← hM, up2_eq]
    · refine FF4.o.trans fun b y z1 z2 z3 z4 => ?_
      rw [← hM, up2_ne (by omega), up2_ne (by omega), up2_ne (by omega), F6 b y (by omega) (by simp only [List.length_nil]; omega) (by simp only [List.length_nil]; omega), up2_ne (by omega)]
end RCRE

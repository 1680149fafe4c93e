/-! THE REFERENCE: WALK and READ -/
section RWK
variable {A : zA} {M M' : Nat → Nat → Int32} {h : ag_H} {d s x i : Nat} {V : Nat → zV} {S : zS}
theorem TA.t125s (hT : TA A M h) (hV : RV S.1 M) (hs : s < 2) (hw : VW (S.1 s)) (hx : x < 128) (hi : (S.1 s).2.2.1 x = some i) (hf : vfr (S.1 s) = some (fre S s)) : ∃ h' M', ag_run gT (d + 3) 125 [.inr (some 230), .inl (nI s), .inl (nI x), .inl (-1)] h = some (.inl none, h') ∧ TA A M' h' ∧ RV (kSame S s x).1 M' ∧ RG (kSame S s x) M' ∧ M' 230 20 = nI 0 ∧ M' 230 40 = nI (fre S s) ∧ FR M M' := by
  have hf8 := (vfr_ok hf).1
  have e0 := hT.t122 (d := d + 1) hV hs hw hf
  have T0 := hT.sI (k := 40) rfl (nI (fre S s))
  have V0 := hV.f230 (k := 40) (v := nI (fre S s))
  have e00 := T0.t121 (d := d + 1) V0 hs (x := x) (by omega) hi
  obtain ⟨h1, M1, e1, T1, A1, R1, q1, V1, F1⟩ := T0.t117 (d := d) V0 hs 110 x
  have n1 : M1 230 40 = nI (fre S s) := by rw [F1 _ _ (by decide) (by decide) (by decide) (by decide), up2_eq]
  obtain ⟨h2, M2, e2, T2, A2, F2⟩ := T1.t115 (d := d + 1) A1 (nI (fre S s)) (n := 4) (by decide) (by simp [le])
  obtain ⟨h3, M3, e3, T3, A3, F3⟩ := T2.t115 (d := d + 1) A2 (nI 0) (n := 2) (by decide) (by simp [le])
  have V3 := (V1.fa F2).fa F3
  have R3 := R1.keep (M' := M3) (by rw [F3 _ _ (by decide) (by decide), F2 _ _ (by decide) (by decide)]) (fun j => by rw [F3 _ _ (by decide) (by omega), F2 _ _ (by decide) (by omega)])
  have n3 : M3 230 40 = nI (fre S s) := by rw [F3 _ _ (by decide) (by decide), F2 _ _ (by decide) (by decide)]; exact n1
  have q3 : M3 230 20 = nI 0 := by rw [F3 _ _ (by decide) (by decide), F2 _ _ (by decide) (by decide)]; exact q1
  have hst : M3 242 (200 * s + x) = nI (i + 1) := by
    have := (V3 s hs).2.2.2.2 x (by omega)
    rw [(inc_f S.1 s s 0).2.2, hi] at this
    exact this
  have T4 := T3.sx (a := 242) (c := 100) (i := 200 * s + fre S s) rfl (nI (i + 1))
  have V4 := V3.stand hs (x := fre S s) (by omega) (some i)
  have e9 : (up1 (up1 S.1 s (inc (S.1 s))) s (setH (up1 S.1 s (inc (S.1 s)) s) (fre S s) (some i))) = (kSame S s x).1 := by
    unfold kSame
    rw [hi, up1_eq, up1_up1]; rfl
  rw [e9] at V4
  rw [List.append_assoc, List.append_assoc] at A3
  rw [← List.append_assoc (le (nI x) 4)] at A3
  obtain ⟨h5, M5, e5, T5, V5, g1, g2, F5⟩ := T4.fin (d := d + 1) (t := 110) (u := 111) (q := le (nI x) 4 ++ le (nI (fre S s)) 4 ++ le (nI 0) 2) (r := []) (by decide) (by decide) (A3.keep (up2_na (by decide)) (fun j => up2_na (by decide))) (by rw [List.append_nil]; exact R3.keep (up2_na (by decide)) (fun j => up2_na (by decide))) V4
  refine ⟨h5, M5, ?_, T5, V5, ⟨g1, g2⟩, by rw [F5 _ _ (by decide) (by decide), up2_na (by decide)]; exact q3, by rw [F5 _ _ (by decide) (by decide), up2_na (by decide)]; exact n3, ?_⟩
  · rw [r125]
    unfold f125 f125_44 f125_67 f125_192
    rw [hT.ra, e0, b_I, hT.wI (k := 40) rfl, T0.ra, e00, b_I, T0.ra, lit8_110, e1, b_V, T1.rI (k := 40) rfl, n1, T1.ra, lit_4, e2, b_V, lit_0, if_neg (show ¬ nI 0 ≤ -1 by decide), T2.ra, lit_2, e3, b_V, if_pos (show (-1 : Int32) < nI 0 by decide), if_neg (show ¬ nI 0 ≤ -1 by decide), T3.rR (k := 14) (b := 242) rfl rfl, T3.rI (k := 40) rfl, n3, T3.rR (k := 14) (b := 242) rfl rfl, lit16_200, nI_mul, nI_add, T3.rx (a := 242) (c := 100) (i := 200 * s + x) rfl (show 200 * s + x < 400 by omega), hst, nI_add, T3.wx (a := 242) (c := 100) (i := 200 * s + fre S s) rfl (show 200 * s + fre S s < 400 by omega)]
    exact e5
  · intro b j z1 z2
    rw [F5 b j (by omega) (by omega), up2_na (by omega), F3 b j (by omega) (by omega), F2 b j (by omega) (by omega), F1 b j (by omega) (by omega) (by omega) (by omega), up2_ne (by omega)]
theorem TA.t125n (hT : TA A M h) (hV : RV S.1 M) (hs : s < 2) (hw : VW (S.1 s)) (hx : x < 128) (hi : (S.1 s).2.2.1 x = some i) (hf : vfr (S.1 s) = some (fre S s)) {c : Nat} (hc : c < 8) : ∃ h' M', ag_run gT (d + 3) 125 [.inr (some 230), .inl (nI s), .inl (nI x), .inl (nI c)] h = some (.inl none, h') ∧ TA A M' h' ∧ RV (kWN S s x c).1 M' ∧ RG (kWN S s x c) M' ∧ M' 230 20 = eI (oWN (S.1 s) x c) ∧ M' 230 40 = nI (fre S s) ∧ FR M M' := by
  have hf8 := (vfr_ok hf).1
  have hi1 := hw.2.2.2.1 x i hi
  have h250 := hw.2.1
  have hi3 : i < 300 := by omega
  have e0 := hT.t122 (d := d + 1) hV hs hw hf
  have T0 := hT.sI (k := 40) rfl (nI (fre S s))
  have V0 := hV.f230 (k := 40) (v := nI (fre S s))
  have e00 := T0.t121 (d := d + 1) V0 hs (x := x) (by omega) hi
  obtain ⟨h1, M1, e1, T1, A1, R1, q1, V1, F1⟩ := T0.t117 (d := d) V0 hs 110 x
  have n1 : M1 230 40 = nI (fre S s) := by rw [F1 _ _ (by decide) (by decide) (by decide) (by decide), up2_eq]
  obtain ⟨h2, M2, e2, T2, A2, F2⟩ := T1.t115 (d := d + 1) A1 (nI (fre S s)) (n := 4) (by decide) (by simp [le])
  obtain ⟨h3, M3, e3, T3, A3, F3⟩ := T2.t115 (d := d + 1) A2 (nI 1) (n := 2) (by decide) (by simp [le])
  obtain ⟨h4, M4, e4, T4, A4, F4⟩ := T3.t115 (d := d + 1) A3 (nI 1) (n := 2) (by decide) (by simp [le])
  obtain ⟨h5, M5, e5, T5, A5, F5⟩ := T4.t115 (d := d + 1) A4 (nI (97 + c)) (n := 1) (by decide) (by simp [le])
  have V5 := (((V1.fa F2).fa F3).fa F4).fa F5
  have fr5 : ∀ b j, b ≠ 244 → ¬ (b = 230 ∧ j = 17) → M5 b j = M1 b j := fun b j z1 z2 => by rw [F5 b j z1 z2, F4 b j z1 z2, F3 b j z1 z2, F2 b j z1 z2]
  have R5 := R1.keep (M' := M5) (fr5 _ _ (by decide) (by decide)) (fun j => fr5 _ _ (by decide) (by omega))
  have n5 : M5 230 40 = nI (fre S s) := by rw [fr5 _ _ (by decide) (by decide)]; exact n1
  have q5 : M5 230 20 = nI 0 := by rw [fr5 _ _ (by decide) (by decide)]; exact q1
  have FR5 : FR M M5 := fun b j z1 z2 => by rw [fr5 b j (by omega) (by omega), F1 b j (by omega) (by omega) (by omega) (by omega), up2_ne (by omega)]
  have A5' : AS M5 (le (nI 110) 1 ++ le (nI 1) 2 ++ (le (nI x) 4 ++ le (nI (fre S s)) 4 ++ le (nI 1) 2 ++ le (nI 1) 2 ++ le (nI (97 + c)) 1)) := by
    simp only [List.append_assoc] at A5 ⊢
    exact A5
  obtain ⟨j1, j2, j3⟩ := inc_f S.1 s s i
  obtain ⟨f1, f2, -⟩ := (V5 s hs).2.2.1 i (by rw [j2]; exact hi1)
  rw [j1] at f1 f2
  have wi : VW (up1 S.1 s (inc (S.1 s)) s) := by rw [up1_eq]; exact hw
  have e6 := T5.t124 (d := d + 1) V5 hs wi hi3 hc
  have vi : vin (up1 S.1 s (inc (S.1 s)) s) i c = vin (S.1 s) i c := by rw [up1_eq]; rfl
  rw [vi] at e6
  have st : ag_run gT (d + 3) 125 [.inr (some 230), .inl (nI s), .inl (nI x), .inl (nI c)] h = f125_67 (ag_run gT (d + 2)) (some 230) (nI s) (nI x) (nI c) (nI (300 * s + i)) h5 := by
    rw [r125]
    unfold f125 f125_44
    rw [hT.ra, e0, b_I, hT.wI (k := 40) rfl, T0.ra, e00, b_I, T0.ra, lit8_110, e1, b_V, T1.rI (k := 40) rfl, n1, T1.ra, lit_4, e2, b_V, lit_0, lit_1, if_pos (nI_le (by omega) (by omega)), T2.ra, lit_2, e3, b_V, if_neg (nI_nlt (by omega) (by omega)), T3.ra, e4, b_V, T4.ra, lit8_97, nI_add, e5, b_V]
  rw [st]
  unfold f125_67 f125_192
  rw [lit_0, lit_1, if_pos (nI_le (by omega) (by omega)), T5.rR (k := 7) (b := 235) rfl rfl, T5.rx (a := 235) (c := 102) (i := 300 * s + i) rfl (show 300 * s + i < 600 by omega), f1, lit8_110, lit8_100, T5.rR (k := 8) (b := 236) rfl rfl, T5.rx (a := 236) (c := 102) (i := 300 * s + i) rfl (show 300 * s + i < 600 by omega), f2]
  have bad : ∀ e, oWN (S.1 s) x c = .inl e → ∃ h' M', (ag_at h5 (some 230) 11 fun a _ => ag_bV (ag_run gT (d + 2) 118 [.inr (some a), .inl (nI e)] h5) fun h18 => ag_at h18 (some 230) 11 fun a1 _ => ag_bV (ag_run gT (d + 2) 120 [.inr (some a1)] h18) fun h2 => some (.inl none, h2)) = some (.inl none, h') ∧ TA A M' h' ∧ RV (kWN S s x c).1 M' ∧ RG (kWN S s x c) M' ∧ M' 230 20 = eI (oWN (S.1 s) x c) ∧ M' 230 40 = nI (fre S s) ∧ FR M M' := by
    intro e he
    obtain ⟨h6, M6, e6, T6, V6, g1, g2, q6, F6⟩ := T5.bad (d := d) (t := 110) (by decide) A5' V5 e
    refine ⟨h6, M6, e6, T6, ?_, ?_, by rw [q6, he]; rfl, by rw [F6 _ _ (by decide) (by decide) (by decide)]; exact n5, FR5.trans fun b j z1 z2 => F6 b j (by omega) (by omega) (by omega)⟩
    · unfold kWN; rw [he]; exact V6
    · unfold RG kWN kS; rw [he]; exact ⟨g1, g2⟩
  have ho : oWN (S.1 s) x c = bif ((S.1 s).2.1 i).1 then (bif ((S.1 s).2.1 i).2.1 then (match vin (S.1 s) i c with
      | none => .inl 110
      | some g => .inr g) else .inl 100) else .inl 110 := by
    unfold oWN; rw [hi]; rfl
  cases h1 : ((S.1 s).2.1 i).1
  · rw [if_pos (show bI false = nI 0 from rfl)]
    exact bad 110 (by rw [ho, h1]; rfl)
  · rw [if_neg (show ¬ bI true = nI 0 by decide)]
    cases h2 : ((S.1 s).2.1 i).2.1
    · rw [if_pos (show bI false = nI 0 from rfl)]
      exact bad 100 (by rw [ho, h1, h2]; rfl)
    · rw [if_neg (show ¬ bI true = nI 0 by decide), T5.ra, e6, b_I]
      cases hv : vin (S.1 s) i c with
      | none =>
        rw [if_neg (show ¬ nI 0 ≤ qI s none from (show ¬ nI 0 ≤ (-1 : Int32) by decide))]
        exact bad 110 (by rw [ho, h1, h2, hv]; rfl)
      | some g =>
        have hc9 : oWN (S.1 s) x c = .inr g := by rw [ho, h1, h2, hv]; rfl
        have hg := (oWN_lt hc9).1
        rw [if_pos (show nI 0 ≤ qI s (some g) from nI_le (by omega) (by omega)), T5.rR (k := 14) (b := 242) rfl rfl, T5.rI (k := 40) rfl, n5, lit16_300, lit16_200, b_d (by decide)]
        show ∃ h' M', ag_xP h5 (some 242) 100 (nI 200 * nI s + nI (fre S s)) (.inl ((nI (300 * s + g) - nI (300 * s + g) / nI 300 * nI 300) + nI 1)) _ = _ ∧ _
        rw [md300 s hs g (by omega), nI_add, nI_mul, nI_add, T5.wx (a := 242) (c := 100) (i := 200 * s + fre S s) rfl (show 200 * s + fre S s < 400 by omega)]
        have T6 := T5.sx (a := 242) (c := 100) (i := 200 * s + fre S s) rfl (nI (g + 1))
        have V6 := V5.stand hs (x := fre S s) (by omega) (some g)
        have e9 : (up1 (up1 S.1 s (inc (S.1 s))) s (setH (up1 S.1 s (inc (S.1 s)) s) (fre S s) (some g))) = (kWN S s x c).1 := by
          unfold kWN
          rw [hc9, up1_eq, up1_up1]; rfl
        rw [e9] at V6
        have hnx : ((kWN S s x c).1 s).1 = (S.1 s).1 ∧ ((kWN S s x c).1 s).2.1 = (S.1 s).2.1 := SF.wn S s x c s
        obtain ⟨h7, M7, e7, T7, V7, g1, g2, F7⟩ := T6.good (d := d) (t := 110) (u := 111) (by decide) (by decide) (A5'.keep (up2_na (by decide)) (fun j => up2_na (by decide))) (R5.keep (up2_na (by decide)) (fun j => up2_na (by decide))) V6 hs (by rw [hnx.1]; exact hg) (by omega)
        rw [hnx.2] at g2
        refine ⟨h7, M7, e7, T7, V7, ?_, by rw [F7 _ _ (by decide) (by decide) (by decide), up2_na (by decide), q5, hc9]; rfl, by rw [F7 _ _ (by decide) (by decide) (by decide), up2_na (by decide)]; exact n5, ?_⟩
        · unfold RG kWN kS; rw [hc9]; exact ⟨g1, g2⟩
        · exact (FR5.trans (FR.up (by decide) (by decide))).trans fun b j z1 z2 => F7 b j (by omega) (by omega) (by omega)
/-- what was got -/
def goI (x : Nat ⊕ Option Int32) : Int32 := match x with
  | .inr (some b) => b
  | _ => -1
theorem TA.t130 (hT : TA A M h) (hV : RV S.1 M) (hs : s < 2) (hw : VW (S.1 s)) (hx : x < 128) (hi : (S.1 s).2.2.1 x = some i) {q : Nat} (hq : q < 2 ^ 30) : ∃ h' M', ag_run gT (d + 3) 130 [.inr (some 230), .inl (nI s), .inl (nI x), .inl (nI q)] h = some (.inl none, h') ∧ TA A M' h' ∧ RV (kRD S s x q).1 M' ∧ RG (kRD S s x q) M' ∧ M' 230 20 = eI (oRD (S.1 s) x q) ∧ M' 230 21 = goI (oRD (S.1 s) x q) ∧ FR M M' := by
  have hi1 := hw.2.2.2.1 x i hi
  have h250 := hw.2.1
  have hi3 : i < 300 := by omega
  have e0 := hT.t121 (d := d + 1) hV hs (x := x) (by omega) hi
  obtain ⟨h1, M1, e1, T1, A1, R1, q1, V1, F1⟩ := hT.t117 (d := d) hV hs 116 x
  obtain ⟨h2, M2, e2, T2, A2, F2⟩ := T1.t115 (d := d + 1) A1 (nI q) (n := 4) (by decide) (by simp [le])
  have T3 := T2.sI (k := 21) rfl (-1)
  have V3 := (V1.fa F2).f230 (k := 21) (v := -1)
  have A3 : AS (up2 M2 230 21 (-1)) (le (nI 116) 1 ++ le (nI 1) 2 ++ (le (nI x) 4 ++ le (nI q) 4)) := by
    rw [List.append_assoc] at A2
    exact A2.keep (up2_ni (by decide)) (fun j => up2_na (by decide))
  have R3 : RS (up2 M2 230 21 (-1)) (le (nI 117) 1 ++ le (nI 1) 2) := R1.keep (by rw [up2_ni (by decide), F2 _ _ (by decide) (by decide)]) (fun j => by rw [up2_na (by decide), F2 _ _ (by decide) (by omega)])
  have q3 : up2 M2 230 21 (-1) 230 20 = nI 0 := by rw [up2_ni (by decide), F2 _ _ (by decide) (by decide)]; exact q1
  have g3 : up2 M2 230 21 (-1) 230 21 = -1 := up2_eq _ _ _ _
  have FR3 : FR M (up2 M2 230 21 (-1)) := fun b j z1 z2 => by rw [up2_ne (by omega), F2 b j (by omega) (by omega), F1 b j (by omega) (by omega) (by omega) (by omega)]
  obtain ⟨j1, j2, j3⟩ := inc_f S.1 s s i
  obtain ⟨f1, f2, f3, f4, f5, f6, f7⟩ := (V3 s hs).2.2.1 i (by rw [j2]; exact hi1)
  rw [j1] at f1 f2 f3 f4 f5 f6 f7
  have wi : VW (up1 S.1 s (inc (S.1 s)) s) := by rw [up1_eq]; exact hw
  have hlen8 := (hw.2.2.2.2.2.1 i hi1).2.2.1
  have ho : oRD (S.1 s) x q = bif ((S.1 s).2.1 i).1 then .inr (vby (S.1 s) i q) else .inl 110 := by
    unfold oRD; rw [hi]
  rw [r130]
  unfold f130 f130_131
  rw [hT.ra, e0, b_I, hT.ra, lit8_116, e1, b_V, T1.ra, lit_4, e2, b_V, lit_m, T2.wI (k := 21) rfl, T3.rR (k := 7) (b := 235) rfl rfl, T3.rx (a := 235) (c := 102) (i := 300 * s + i) rfl (show 300 * s + i < 600 by omega), f1, lit_0, lit8_110]
  cases h1 : ((S.1 s).2.1 i).1
  · rw [if_pos (show bI false = nI 0 from rfl)]
    have hc : oRD (S.1 s) x q = .inl 110 := by rw [ho, h1]; rfl
    obtain ⟨h4, M4, e4, T4, V4, g1, g2, q4, F4⟩ := T3.bad (d := d) (t := 116) (by decide) A3 V3 110
    refine ⟨h4, M4, e4, T4, V4, ?_, by rw [q4, hc]; rfl, by rw [F4 _ _ (by decide) (by decide) (by decide), g3, hc]; rfl, FR3.trans fun b j z1 z2 => F4 b j (by omega) (by omega) (by omega)⟩
    unfold RG kRD kS; rw [hc]; exact ⟨g1, g2⟩
  · rw [if_neg (show ¬ bI true = nI 0 by decide)]
    have hc : oRD (S.1 s) x q = .inr (vby (S.1 s) i q) := by rw [ho, h1]; rfl
    -- both roads end so
    have body : ∀ w : Option Int32, vby (S.1 s) i q = w → ∃ h' M', f130_95 (ag_run gT (d + 2)) (some 230) (some 230) (gI w) (hse h2 230 21 (-1)) = some (.inl none, h') ∧ TA A M' h' ∧ RV (kRD S s x q).1 M' ∧ RG (kRD S s x q) M' ∧ M' 230 20 = eI (oRD (S.1 s) x q) ∧ M' 230 21 = goI (oRD (S.1 s) x q) ∧ FR M M' := by
      intro w hv9
      have T4 := T3.sI (k := 21) rfl (gI w)
      have V4 := V3.f230 (k := 21) (v := gI w)
      have A4 := A3.keep (M' := up2 (up2 M2 230 21 (-1)) 230 21 (gI w)) (up2_ni (by decide)) (fun j => up2_na (by decide))
      have R4 := R3.keep (M' := up2 (up2 M2 230 21 (-1)) 230 21 (gI w)) (up2_ni (by decide)) (fun j => up2_na (by decide))
      have q4 : up2 (up2 M2 230 21 (-1)) 230 21 (gI w) 230 20 = nI 0 := by rw [up2_ni (by decide)]; exact q3
      have g4 : up2 (up2 M2 230 21 (-1)) 230 21 (gI w) 230 21 = gI w := up2_eq _ _ _ _
      have FR4 : FR M (up2 (up2 M2 230 21 (-1)) 230 21 (gI w)) := FR3.trans fun b j z1 z2 => up2_ne (by omega)
      unfold f130_95 f130_111 f130_131
      rw [T3.wI (k := 21) rfl, T4.rI (k := 21) rfl, g4, lit_0, lit_1, lit_2]
      cases w with
      | none =>
        obtain ⟨h5, M5, e5, T5, R5, F5⟩ := T4.t116 (d := d + 1) R4 (nI 0) (n := 2) (by decide) (by simp [le])
        have g5 : M5 230 21 = -1 := by rw [F5 _ _ (by decide) (by decide)]; exact g4
        obtain ⟨h6, M6, e6, T6, V6, k1, k2, F6⟩ := T5.fin (d := d + 1) (t := 116) (u := 117) (by decide) (by decide) (A4.keep (F5 _ _ (by decide) (by decide)) (fun j => F5 _ _ (by decide) (by omega))) R5 (V4.fb F5)
        refine ⟨h6, M6, ?_, T6, V6, ?_, by rw [F6 _ _ (by decide) (by decide), F5 _ _ (by decide) (by decide), q4, hc, hv9]; rfl, by rw [F6 _ _ (by decide) (by decide), g5, hc, hv9]; rfl, FR4.trans (F5.r.trans fun b j z1 z2 => F6 b j (by omega) (by omega))⟩
        · rw [if_neg (show ¬ nI 0 ≤ gI none by decide), T4.ra, e5, b_V, T5.rI (k := 21) rfl, g5, if_pos (show (-1 : Int32) < nI 0 by decide)]
          exact e6
        · unfold RG kRD kS; rw [hc, hv9]; exact ⟨k1, k2⟩
      | some b =>
        obtain ⟨nb, hnb, rfl⟩ := vby_b hw hi1 hv9
        obtain ⟨h5, M5, e5, T5, R5, F5⟩ := T4.t116 (d := d + 1) R4 (nI 1) (n := 2) (by decide) (by simp [le])
        have g5 : M5 230 21 = nI nb := by rw [F5 _ _ (by decide) (by decide)]; exact g4
        obtain ⟨h7, M7, e7, T7, R7, F7⟩ := T5.t116 (d := d + 1) R5 (nI nb) (n := 1) (by decide) (by simp [le])
        have R7' : RS M7 (le (nI 117) 1 ++ le (nI 1) 2 ++ (le (nI 1) 2 ++ le (nI nb) 1)) := by
          simp only [List.append_assoc] at R7 ⊢
          exact R7
        obtain ⟨h6, M6, e6, T6, V6, k1, k2, F6⟩ := T7.fin (d := d + 1) (t := 116) (u := 117) (by decide) (by decide) (A4.keep (by rw [F7 _ _ (by decide) (by decide), F5 _ _ (by decide) (by decide)]) (fun j => by rw [F7 _ _ (by decide) (by omega), F5 _ _ (by decide) (by omega)])) R7' ((V4.fb F5).fb F7)
        refine ⟨h6, M6, ?_, T6, V6, ?_, by rw [F6 _ _ (by decide) (by decide), F7 _ _ (by decide) (by decide), F5 _ _ (by decide) (by decide), q4, hc, hv9]; rfl, by rw [F6 _ _ (by decide) (by decide), F7 _ _ (by decide) (by decide), g5, hc, hv9]; rfl, FR4.trans ((F5.r.trans F7.r).trans fun b j z1 z2 => F6 b j (by omega) (by omega))⟩
        · rw [if_pos (show nI 0 ≤ gI (some (nI nb)) from nI_le (by omega) (by omega)), T4.ra, e5, b_V, T5.rI (k := 21) rfl, g5, if_neg (nI_nlt (by omega) (by omega)), T5.rI (k := 21) rfl, g5, T5.ra, e7, b_V]
          exact e6
        · unfold RG kRD kS; rw [hc, hv9]; exact ⟨k1, k2⟩
    rw [T3.rR (k := 8) (b := 236) rfl rfl, T3.rx (a := 236) (c := 102) (i := 300 * s + i) rfl (show 300 * s + i < 600 by omega), f2]
    cases h2' : ((S.1 s).2.1 i).2.1
    · rw [if_pos (show bI false = nI 0 from rfl), T3.rR (k := 11) (b := 239) rfl rfl, T3.rx (a := 239) (c := 100) (i := 300 * s + i) rfl (show 300 * s + i < 600 by omega), f5]
      rw [h2'] at hlen8
      have hlen8 : ((S.1 s).2.1 i).2.2.2.2.1.length ≤ 8 := hlen8
      have hvb : vby (S.1 s) i q = if q < ((S.1 s).2.1 i).2.2.2.2.1.length then some (((S.1 s).2.1 i).2.2.2.2.1.getD q 0) else none := by
        unfold vby; rw [h2']; rfl
      by_cases hlt : q < ((S.1 s).2.1 i).2.2.2.2.1.length
      · rw [if_neg (nI_ge hlt (by omega)), T3.rR (k := 13) (b := 241) rfl rfl, lit8_8, nI_mul, nI_add, T3.rx (a := 241) (c := 100) (i := 8 * (300 * s + i) + q) rfl (show 8 * (300 * s + i) + q < 4800 by omega), f7 q hlt]
        exact body (some (((S.1 s).2.1 i).2.2.2.2.1.getD q 0)) (by rw [hvb, if_pos hlt])
      · rw [if_pos (nI_le (by omega) (by omega))]
        exact body none (by rw [hvb, if_neg hlt])
    · rw [if_neg (show ¬ bI true = nI 0 by decide), T3.ra]
      have e6 := T3.t129 (d := d + 1) V3 hs wi hi3 hq
      have vi : vls (up1 S.1 s (inc (S.1 s)) s) i q = vls (S.1 s) i q := by rw [up1_eq]; rfl
      rw [vi] at e6
      have e9 : pI ((vls (S.1 s) i q).map fun l => 97 + l) = gI (vby (S.1 s) i q) := by
        unfold vby
        rw [h2']
        show _ = gI ((vls (S.1 s) i q).map fun l => nI (97 + l))
        cases vls (S.1 s) i q <;> rfl
      rw [e9] at e6
      rw [e6, b_I]
      exact body _ rfl
end RWK

/-! THE REFERENCE: REMOVE, CREATE -/
section RCR
variable {A : zA} {M M' : Nat → Nat → Int32} {h : ag_H} {d s x i : Nat} {V : Nat → zV} {S : zS}
theorem vls_plain {V : zV} (hw : VW V) (hd : (V.2.1 i).2.1 = false) (q : Nat) : vls V i q = none := by
  unfold vls
  have : (vlv V).filter (fun j => decide ((V.2.1 j).2.2.2.1 = some i)) = [] := by
    rw [List.filter_eq_nil_iff]
    intro j hj h9
    have h9 := of_decide_eq_true h9
    have := (hw.2.2.2.2.2.2.2.2.2 j (vlv_mem hj).1 i h9).2
    rw [hd] at this
    cases this
  rw [this]; rfl
theorem TA.t133 (hT : TA A M h) (hV : RV S.1 M) (hs : s < 2) (hw : ∀ t, t < 2 → VW (S.1 t)) (hx : x < 128) (hi : (S.1 s).2.2.1 x = some i) : ∃ h' M', ag_run gT (d + 3) 133 [.inr (some 230), .inl (nI s), .inl (nI x)] h = some (.inl none, h') ∧ TA A M' h' ∧ RV (kRM S s x).1 M' ∧ RG (kRM S s x) M' ∧ M' 230 20 = eI (oRM (S.1 s) x) ∧ FR M M' := by
  have hi1 := (hw s hs).2.2.2.1 x i hi
  have h250 := (hw s hs).2.1
  have hi3 : i < 300 := by omega
  have e0 := hT.t121 (d := d + 1) hV hs (x := x) (by omega) hi
  obtain ⟨h1, M1, e1, T1, A1, R1, q1, V1, F1⟩ := hT.t117 (d := d) hV hs 122 x
  obtain ⟨j1, j2, j3⟩ := inc_f S.1 s s i
  have hFl := (V1 s hs).2.2.1 i (by rw [j2]; exact hi1)
  rw [j1] at hFl
  obtain ⟨f1, f2, f3, f4, f5, f6, f7⟩ := hFl
  have ho : oRM (S.1 s) x = bif ((S.1 s).2.1 i).1 then (bif Nat.beq i 0 || (vls (S.1 s) i 0).isSome then .inl 112 else .inr i) else .inl 110 := by
    unfold oRM; rw [hi]
  -- the handle goes
  have fin77 : ∀ (M2 : Nat → Nat → Int32) (h2 : ag_H) (V2 : Nat → zV) (u : Nat) (r : List Int32), u < 256 → TA A M2 h2 → RV V2 M2 → AS M2 (le (nI 122) 1 ++ le (nI 1) 2 ++ le (nI x) 4) → RS M2 (le (nI u) 1 ++ le (nI 1) 2 ++ r) → ∃ h' M', f133_77 (ag_run gT (d + 2)) (some 230) (nI s) (nI x) h2 = some (.inl none, h') ∧ TA A M' h' ∧ RV (up1 V2 s (setH (V2 s) x none)) M' ∧ GM M' 244 17 (nI 122) (le (nI x) 4) ∧ GM M' 245 19 (nI u) r ∧ ∀ b j, b ≠ 242 → b ≠ 244 → b ≠ 245 → M' b j = M2 b j := by
    intro M2 h2 V2 u r hu T2 V2' A2 R2
    have T3 := T2.sx (a := 242) (c := 100) (i := 200 * s + x) rfl (nI 0)
    have V3 := V2'.stand hs (x := x) (by omega) none
    obtain ⟨h4, M4, e4, T4, V4, g1, g2, F4⟩ := T3.fin (d := d + 1) (t := 122) (u := u) (by decide) hu (A2.keep (up2_na (by decide)) (fun j => up2_na (by decide))) (R2.keep (up2_na (by decide)) (fun j => up2_na (by decide))) V3
    refine ⟨h4, M4, ?_, T4, V4, g1, g2, fun b j z1 z2 z3 => by rw [F4 b j z2 z3, up2_na z1]⟩
    unfold f133_77
    rw [T2.rR (k := 14) (b := 242) rfl rfl, lit16_200, nI_mul, nI_add, lit_0, T2.wx (a := 242) (c := 100) (i := 200 * s + x) rfl (show 200 * s + x < 400 by omega)]
    exact e4
  have bad : ∀ e, oRM (S.1 s) x = .inl e → ∃ h' M', (ag_at h1 (some 230) 11 fun a _ => ag_bV (ag_run gT (d + 2) 118 [.inr (some a), .inl (nI e)] h1) fun h2 => f133_77 (ag_run gT (d + 2)) (some 230) (nI s) (nI x) h2) = some (.inl none, h') ∧ TA A M' h' ∧ RV (kRM S s x).1 M' ∧ RG (kRM S s x) M' ∧ M' 230 20 = eI (oRM (S.1 s) x) ∧ FR M M' := by
    intro e he
    obtain ⟨h2, M2, e2, T2, R2, q2, F2⟩ := T1.t118 (d := d) e
    have V2 := V1.rows (M' := M2) (fun b j z1 z2 => F2 b j (by omega) (by omega))
    obtain ⟨h3, M3, e3, T3, V3, g1, g2, F3⟩ := fin77 M2 h2 _ 107 (err e) (by decide) T2 V2 (A1.keep (F2 _ _ (by decide) (by decide)) (fun j => F2 _ _ (by decide) (by omega))) R2
    refine ⟨h3, M3, by rw [T1.ra, e2, b_V]; exact e3, T3, ?_, ?_, by rw [F3 _ _ (by decide) (by decide) (by decide), q2, he]; rfl, F1.r.trans fun b j z1 z2 => by rw [F3 b j (by omega) (by omega) (by omega), F2 b j (by omega) (by omega)]⟩
    · have e9 : (up1 (up1 S.1 s (inc (S.1 s))) s (setH (up1 S.1 s (inc (S.1 s)) s) x none)) = (kRM S s x).1 := by
        unfold kRM
        rw [he, up1_eq, up1_up1]; rfl
      rw [← e9]; exact V3
    · unfold RG kRM kS; rw [he]; exact ⟨g1, g2⟩
  have gd : oRM (S.1 s) x = .inr i → ∃ h' M', f133_70 (ag_run gT (d + 2)) (some 230) (nI s) (nI x) (nI (300 * s + i)) h1 = some (.inl none, h') ∧ TA A M' h' ∧ RV (kRM S s x).1 M' ∧ RG (kRM S s x) M' ∧ M' 230 20 = eI (oRM (S.1 s) x) ∧ FR M M' := by
    intro hc
    have T2 := T1.sx (a := 235) (c := 102) (i := 300 * s + i) rfl (nI 0)
    have hRF : RFl (up2 M1 235 (300 * s + i) (nI 0)) s i (false, ((S.1 s).2.1 i).2) :=
      ⟨up2_eq _ _ _ _, by rw [up2_na (by decide)]; exact f2, by rw [up2_na (by decide)]; exact f3, by rw [up2_na (by decide)]; exact f4, by rw [up2_na (by decide)]; exact f5, by rw [up2_na (by decide)]; exact f6, fun q hq => by rw [up2_na (by decide)]; exact f7 q hq⟩
    have V2 := V1.file (VW_inc hw s) hs (i := i) (by rw [j2]; exact hi1) hRF (fun b j z1 z2 z3 z4 => up2_ne (by omega))
    obtain ⟨h3, M3, e3, T3, V3, g1, g2, F3⟩ := fin77 _ _ _ 123 [] (by decide) T2 V2 (A1.keep (up2_na (by decide)) (fun j => up2_na (by decide))) (by rw [List.append_nil]; exact R1.keep (up2_na (by decide)) (fun j => up2_na (by decide)))
    refine ⟨h3, M3, ?_, T3, ?_, ?_, by rw [F3 _ _ (by decide) (by decide) (by decide), up2_na (by decide), q1, hc]; rfl, F1.r.trans fun b j z1 z2 => by rw [F3 b j (by omega) (by omega) (by omega), up2_na (by omega)]⟩
    · unfold f133_70
      rw [T1.rR (k := 7) (b := 235) rfl rfl, lit_0, b_B (x := nI 0) (Or.inl rfl), T1.wx (a := 235) (c := 102) (i := 300 * s + i) rfl (show 300 * s + i < 600 by omega)]
      exact e3
    · have e9 : (up1 (up1 (up1 S.1 s (inc (S.1 s))) s ((up1 S.1 s (inc (S.1 s)) s).1, up1 (up1 S.1 s (inc (S.1 s)) s).2.1 i (false, ((S.1 s).2.1 i).2), (up1 S.1 s (inc (S.1 s)) s).2.2)) s (setH (up1 (up1 S.1 s (inc (S.1 s))) s ((up1 S.1 s (inc (S.1 s)) s).1, up1 (up1 S.1 s (inc (S.1 s)) s).2.1 i (false, ((S.1 s).2.1 i).2), (up1 S.1 s (inc (S.1 s)) s).2.2) s) x none)) = (kRM S s x).1 := by
        unfold kRM
        rw [hc]
        simp only [up1_eq, up1_up1]
        rfl
      rw [← e9]; exact V3
    · unfold RG kRM kS; rw [hc]; exact ⟨g1, g2⟩
  rw [r133]
  unfold f133 f133_61
  rw [hT.ra, e0, b_I, hT.ra, lit8_122, e1, b_V, T1.rR (k := 7) (b := 235) rfl rfl, T1.rx (a := 235) (c := 102) (i := 300 * s + i) rfl (show 300 * s + i < 600 by omega), f1, lit_0, lit8_110, lit8_112, lit16_300, nI_mul]
  cases h1' : ((S.1 s).2.1 i).1
  · rw [if_pos (show bI false = nI 0 from rfl)]
    exact bad 110 (by rw [ho, h1']; rfl)
  · rw [if_neg (show ¬ bI true = nI 0 by decide)]
    by_cases hi0 : i = 0
    · subst hi0
      rw [if_pos (by rw [Nat.add_zero])]
      exact bad 112 (by rw [ho, h1']; rfl)
    · have hb0 : Nat.beq i 0 = false := by
        cases hb : Nat.beq i 0
        · rfl
        · exact absurd (Nat.eq_of_beq_eq_true hb) hi0
      rw [if_neg (by rw [nI_eq (by omega) (by omega)]; omega), T1.rR (k := 8) (b := 236) rfl rfl, T1.rx (a := 236) (c := 102) (i := 300 * s + i) rfl (show 300 * s + i < 600 by omega), f2]
      cases h2' : ((S.1 s).2.1 i).2.1
      · rw [if_pos (show bI false = nI 0 from rfl)]
        exact gd (by rw [ho, h1', hb0, vls_plain (hw s hs) h2']; rfl)
      · rw [if_neg (show ¬ bI true = nI 0 by decide), T1.ra]
        have e6 := T1.t129 (d := d + 1) V1 hs (VW_inc hw s s hs) hi3 (q := 0) (by decide)
        have vi : vls (up1 S.1 s (inc (S.1 s)) s) i 0 = vls (S.1 s) i 0 := by rw [up1_eq]; rfl
        rw [vi] at e6
        rw [e6, b_I]
        cases hv : vls (S.1 s) i 0 with
        | none =>
          rw [if_pos (show pI ((none : Option Nat).map fun l => 97 + l) < nI 0 by decide)]
          exact gd (by rw [ho, h1', hb0, hv]; rfl)
        | some l =>
          have hl8 : 97 + l < 2 ^ 31 := by
            unfold vls at hv
            cases hx9 : ((vlv (S.1 s)).filter fun i9 => decide (((S.1 s).2.1 i9).2.2.2.1 = some i))[0]? with
            | none => rw [hx9] at hv; cases hv
            | some y =>
              rw [hx9] at hv
              cases hv
              have hm := (List.mem_filter.mp (List.mem_of_getElem? hx9)).1
              have := ((hw s hs).2.2.2.2.2.1 y (vlv_mem hm).1).1
              show 97 + ((S.1 s).2.1 y).2.2.1 < 2 ^ 31
              omega
          rw [if_neg (show ¬ pI ((some l).map fun l => 97 + l) < nI 0 from nI_nlt (by omega) hl8)]
          exact bad 112 (by rw [ho, h1', hb0, hv]; rfl)
/-- a new file -/
theorem RV.new (hV : RV V M) (hw : ∀ t, t < 2 → VW (V t)) (hs : s < 2) (hx : x < 200) (hi : i < (V s).1) {c : Nat} {dir : Bool} (h9 : (V s).1 < 250) (m234 : M' 234 s = nI ((V s).1 + 1)) (m235 : M' 235 (300 * s + (V s).1) = nI 1) (m236 : M' 236 (300 * s + (V s).1) = bI dir) (m237 : M' 237 (300 * s + (V s).1) = nI c) (m238 : M' 238 (300 * s + (V s).1) = nI (300 * s + i)) (m242 : M' 242 (200 * s + x) = nI ((V s).1 + 1)) (hR : ∀ b j, 234 ≤ b → b ≤ 243 → ¬ (b = 234 ∧ j = s) → ¬ (235 ≤ b ∧ b ≤ 238 ∧ j = 300 * s + (V s).1) → ¬ (b = 242 ∧ j = 200 * s + x) → M' b j = M b j) : RV (up1 V s (newF (V s) x i c dir)) M' := by
  intro u hu
  obtain ⟨v1, v2, v3, v4, v5⟩ := hV u hu
  have h250u := (hw u hu).2.1
  have tri := Nat.lt_trichotomy u s
  by_cases e : u = s
  · subst e
    rw [up1_eq]
    refine ⟨m234, by rw [hR _ _ (by decide) (by decide) (by omega) (by omega) (by omega)]; exact v2, fun j hj => ?_, fun j h1 h2 => ?_, fun y hy => ?_⟩
    · have hj : j < (V u).1 + 1 := hj
      show RFl M' u j (up1 (V u).2.1 (V u).1 (true, dir, c, some i, [], nI 0) j)
      by_cases e2 : j = (V u).1
      · subst e2
        rw [up1_eq]
        refine ⟨m235, m236, m237, m238, ?_, ?_, fun q hq => by simp at hq⟩
        · rw [hR _ _ (by decide) (by decide) (by omega) (by omega) (by omega)]; exact (v4 _ (Nat.le_refl _) (by omega)).1
        · rw [hR _ _ (by decide) (by decide) (by omega) (by omega) (by omega)]; exact (v4 _ (Nat.le_refl _) (by omega)).2
      · rw [up1_ne e2]
        exact (v3 j (by omega)).congr (fun b h1 h2 => hR _ _ (by omega) (by omega) (by omega) (by omega) (by omega)) (len8 (hw u hu) (by omega)) (fun q hq => hR _ _ (by decide) (by decide) (by omega) (by omega) (by omega))
    · have h1 : (V u).1 + 1 ≤ j := h1
      exact ⟨by rw [hR _ _ (by decide) (by decide) (by omega) (by omega) (by omega)]; exact (v4 j (by omega) h2).1, by rw [hR _ _ (by decide) (by decide) (by omega) (by omega) (by omega)]; exact (v4 j (by omega) h2).2⟩
    · show _ = nI (sN (up1 (V u).2.2.1 x (some (V u).1) y))
      by_cases e2 : y = x
      · subst e2; rw [up1_eq]; exact m242
      · rw [up1_ne e2, hR _ _ (by decide) (by decide) (by omega) (by omega) (by omega)]; exact v5 y hy
  · rw [up1_ne e]
    have hh9 := h9
    refine ⟨by rw [hR _ _ (by decide) (by decide) (by omega) (by omega) (by omega)]; exact v1, by rw [hR _ _ (by decide) (by decide) (by omega) (by omega) (by omega)]; exact v2, fun j hj => ?_, fun j h1 h2 => ?_, fun y hy => by rw [hR _ _ (by decide) (by decide) (by omega) (by omega) (by omega)]; exact v5 y hy⟩
    · exact (v3 j hj).congr (fun b h1 h2 => hR _ _ (by omega) (by omega) (by omega) (by omega) (by omega)) (len8 (hw u hu) hj) (fun q hq => hR _ _ (by decide) (by decide) (by omega) (by omega) (by omega))
    · exact ⟨by rw [hR _ _ (by decide) (by decide) (by omega) (by omega) (by omega)]; exact (v4 j h1 h2).1, by rw [hR _ _ (by decide) (by decide) (by omega) (by omega) (by omega)]; exact (v4 j h1 h2).2⟩
theorem TA.t128 (hT : TA A M h) (hV : RV S.1 M) (hs : s < 2) (hw : ∀ t, t < 2 → VW (S.1 t)) (hx : x < 128) (hi : (S.1 s).2.2.1 x = some i) {c : Nat} (hc : c < 8) (dir : Bool) (hnx : (S.1 s).1 < 250) : ∃ h' M', ag_run gT (d + 3) 128 [.inr (some 230), .inl (nI s), .inl (nI x), .inl (nI c), .inl (bI dir)] h = some (.inl none, h') ∧ TA A M' h' ∧ RV (kMK S s x c dir).1 M' ∧ RG (kMK S s x c dir) M' ∧ M' 230 20 = eI (oMK (S.1 s) x c) ∧ FR M M' := by
  have hi1 := (hw s hs).2.2.2.1 x i hi
  have h250 := (hw s hs).2.1
  have h20 := (hw s hs).2.2.1
  have hi3 : i < 300 := by omega
  have e0 := hT.t121 (d := d + 1) hV hs (x := x) (by omega) hi
  obtain ⟨h1, M1, e1, T1, A1, R1, q1, V1, F1⟩ := hT.t117 (d := d) hV hs 114 x
  obtain ⟨h2, M2, e2, T2, A2, F2⟩ := T1.t115 (d := d + 1) A1 (nI 1) (n := 2) (by decide) (by simp [le])
  obtain ⟨h3, M3, e3, T3, A3, F3⟩ := T2.t115 (d := d + 1) A2 (nI (97 + c)) (n := 1) (by decide) (by simp [le])
  obtain ⟨h4, M4, e4, T4, A4, F4⟩ := T3.t115 (d := d + 1) A3 (bI dir) (n := 1) (by decide) (by simp [le])
  have V4 := ((V1.fa F2).fa F3).fa F4
  have A4 : AS M4 (le (nI 114) 1 ++ le (nI 1) 2 ++ (le (nI x) 4 ++ le (nI 1) 2 ++ le (nI (97 + c)) 1 ++ le (bI dir) 1)) := by
    simp only [List.append_assoc] at A4 ⊢
    exact A4
  have fr4 : ∀ b j, b ≠ 244 → ¬ (b = 230 ∧ j = 17) → M4 b j = M1 b j := fun b j z1 z2 => by rw [F4 b j z1 z2, F3 b j z1 z2, F2 b j z1 z2]
  have R4 : RS M4 (le (nI 115) 1 ++ le (nI 1) 2) := R1.keep (fr4 _ _ (by decide) (by decide)) (fun j => fr4 _ _ (by decide) (by omega))
  have q4 : M4 230 20 = nI 0 := by rw [fr4 _ _ (by decide) (by decide)]; exact q1
  have FR4 : FR M M4 := fun b j z1 z2 => by rw [fr4 b j (by omega) (by omega), F1 b j (by omega) (by omega) (by omega) (by omega)]
  obtain ⟨j1, j2, j3⟩ := inc_f S.1 s s i
  have hFl := (V4 s hs).2.2.1 i (by rw [j2]; exact hi1)
  rw [j1] at hFl
  obtain ⟨f1, f2, -⟩ := hFl
  have m234 := (V4 s hs).1
  rw [j2] at m234
  have wi := VW_inc hw s s hs
  have e6 := T4.t124 (d := d + 1) V4 hs wi hi3 hc
  have vi : vin (up1 S.1 s (inc (S.1 s)) s) i c = vin (S.1 s) i c := by rw [up1_eq]; rfl
  rw [vi] at e6
  have e7 := T4.t127 (d := d + 1) V4 hs wi
  have vl : vlv (up1 S.1 s (inc (S.1 s)) s) = vlv (S.1 s) := by rw [up1_eq]; rfl
  rw [vl] at e7
  have st : ag_run gT (d + 3) 128 [.inr (some 230), .inl (nI s), .inl (nI x), .inl (nI c), .inl (bI dir)] h = (ag_gR h4 (some 230) 11 7 fun x3 =>
      ag_xI h4 x3 102 (nI (300 * s + i)) fun x4 =>
      if x4 = nI 0 then
        ag_at h4 (some 230) 11 fun a36 _ => ag_bV (ag_run gT (d + 2) 118 [.inr (some a36), .inl (nI 110)] h4) fun h37 =>
        f128_207 (ag_run gT (d + 2)) (some 230) h37
      else
        ag_gR h4 (some 230) 11 8 fun x5 =>
        ag_xI h4 x5 102 (nI (300 * s + i)) fun x6 =>
        if x6 = nI 0 then
          ag_at h4 (some 230) 11 fun a34 _ => ag_bV (ag_run gT (d + 2) 118 [.inr (some a34), .inl (nI 100)] h4) fun h35 =>
          f128_207 (ag_run gT (d + 2)) (some 230) h35
        else
          ag_at h4 (some 230) 11 fun a7 _ => ag_bI (ag_run gT (d + 2) 124 [.inr (some a7), .inl (nI s), .inl (nI (300 * s + i)), .inl (nI c)] h4) fun x9 h8 =>
          if x9 < nI 0 then
            ag_at h8 (some 230) 11 fun a10 _ => ag_bI (ag_run gT (d + 2) 127 [.inr (some a10), .inl (nI s)] h8) fun x12 h11 =>
            if x12 = nI 20 then
              ag_at h11 (some 230) 11 fun a30 _ => ag_bV (ag_run gT (d + 2) 118 [.inr (some a30), .inl (nI 102)] h11) fun h31 =>
              f128_207 (ag_run gT (d + 2)) (some 230) h31
            else
              ag_gR h11 (some 230) 11 6 fun x13 =>
              ag_xI h11 x13 100 (nI s) fun x14 =>
              ag_gR h11 (some 230) 11 6 fun x15 =>
              ag_xI h11 x15 100 (nI s) fun x16 =>
              ag_xP h11 x15 100 (nI s) (.inl (x16 + nI 1)) fun h17 =>
              ag_gR h17 (some 230) 11 7 fun x18 =>
              ag_isB (nI 1) <| ag_xP h17 x18 102 ((nI 300 * nI s) + x14) (.inl (nI 1)) fun h19 =>
              ag_gR h19 (some 230) 11 8 fun x20 =>
              ag_isB (bI dir) <| ag_xP h19 x20 102 ((nI 300 * nI s) + x14) (.inl (bI dir)) fun h21 =>
              ag_gR h21 (some 230) 11 9 fun x22 =>
              ag_xP h21 x22 100 ((nI 300 * nI s) + x14) (.inl (nI c)) fun h23 =>
              ag_gR h23 (some 230) 11 10 fun x24 =>
              ag_xP h23 x24 100 ((nI 300 * nI s) + x14) (.inl (nI (300 * s + i))) fun h25 =>
              ag_gR h25 (some 230) 11 14 fun x26 =>
              ag_dv (nI 300) <|
              ag_xP h25 x26 100 ((nI 200 * nI s) + nI x) (.inl ((((nI 300 * nI s) + x14) - ((nI 300 * nI s) + x14) / nI 300 * nI 300) + nI 1)) fun h27 =>
              ag_at h27 (some 230) 11 fun a28 _ => ag_bV (ag_run gT (d + 2) 119 [.inr (some a28), .inl ((nI 300 * nI s) + x14)] h27) fun h29 =>
              f128_207 (ag_run gT (d + 2)) (some 230) h29
          else
            ag_at h8 (some 230) 11 fun a32 _ => ag_bV (ag_run gT (d + 2) 118 [.inr (some a32), .inl (nI 120)] h8) fun h33 =>
            f128_207 (ag_run gT (d + 2)) (some 230) h33) := by
    rw [r128]
    unfold f128 f128_42
    rw [hT.ra, e0, b_I, hT.ra, lit8_114, e1, b_V, T1.ra, lit_1, lit_2, e2, b_V, T2.ra, lit8_97, nI_add, e3, b_V, lit_0, lit8_110, lit8_100, lit8_20, lit8_102, lit8_120, lit16_300, lit16_200]
    cases dir
    · have e4 : ag_run gT (d + 2) 115 [.inr (some 230), .inl (nI 0), .inl (nI 1)] h3 = some (.inl none, h4) := e4
      rw [if_pos (show bI false = nI 0 from rfl), T3.ra, e4, b_V]
    · have e4 : ag_run gT (d + 2) 115 [.inr (some 230), .inl (nI 1), .inl (nI 1)] h3 = some (.inl none, h4) := e4
      rw [if_neg (show ¬ bI true = nI 0 by decide), T3.ra, e4, b_V]
  rw [st]
  unfold f128_207
  have ho : oMK (S.1 s) x c = bif ((S.1 s).2.1 i).1 then (bif ((S.1 s).2.1 i).2.1 then (bif (vin (S.1 s) i c).isSome then .inl 120 else (bif Nat.ble 20 (vlv (S.1 s)).length then .inl 102 else .inr i)) else .inl 100) else .inl 110 := by
    unfold oMK; rw [hi]
  have bad : ∀ e, oMK (S.1 s) x c = .inl e → ∃ h' M', (ag_at h4 (some 230) 11 fun a _ => ag_bV (ag_run gT (d + 2) 118 [.inr (some a), .inl (nI e)] h4) fun h18 => ag_at h18 (some 230) 11 fun a1 _ => ag_bV (ag_run gT (d + 2) 120 [.inr (some a1)] h18) fun h2 => some (.inl none, h2)) = some (.inl none, h') ∧ TA A M' h' ∧ RV (kMK S s x c dir).1 M' ∧ RG (kMK S s x c dir) M' ∧ M' 230 20 = eI (oMK (S.1 s) x c) ∧ FR M M' := by
    intro e he
    obtain ⟨h6, M6, e6, T6, V6, g1, g2, q6, F6⟩ := T4.bad (d := d) (t := 114) (by decide) A4 V4 e
    refine ⟨h6, M6, e6, T6, ?_, ?_, by rw [q6, he]; rfl, FR4.trans fun b j z1 z2 => F6 b j (by omega) (by omega) (by omega)⟩
    · unfold kMK; rw [he]; exact V6
    · unfold RG kMK kS; rw [he]; exact ⟨g1, g2⟩
  rw [T4.rR (k := 7) (b := 235) rfl rfl, T4.rx (a := 235) (c := 102) (i := 300 * s + i) rfl (show 300 * s + i < 600 by omega), f1]
  cases h1' : ((S.1 s).2.1 i).1
  · rw [if_pos (show bI false = nI 0 from rfl)]
    exact bad 110 (by rw [ho, h1']; rfl)
  · rw [if_neg (show ¬ bI true = nI 0 by decide), T4.rR (k := 8) (b := 236) rfl rfl, T4.rx (a := 236) (c := 102) (i := 300 * s + i) rfl (show 300 * s + i < 600 by omega), f2]
    cases h2' : ((S.1 s).2.1 i).2.1
    · rw [if_pos (show bI false = nI 0 from rfl)]
      exact bad 100 (by rw [ho, h1', h2']; rfl)
    · rw [if_neg (show ¬ bI true = nI 0 by decide), T4.ra, e6, b_I]
      cases hv : vin (S.1 s) i c with
      | some g =>
        have hg := vin_lt hv
        rw [if_neg (show ¬ qI s (some g) < nI 0 from nI_nlt (by omega) (by omega))]
        exact bad 120 (by rw [ho, h1', h2', hv]; rfl)
      | none =>
        rw [if_pos (show qI s none < nI 0 from (show (-1 : Int32) < nI 0 by decide)), T4.ra, e7, b_I]
        by_cases hl : 20 ≤ (vlv (S.1 s)).length
        · have : (vlv (S.1 s)).length = 20 := by omega
          rw [if_pos (by rw [this])]
          exact bad 102 (by rw [ho, h1', h2', hv, show Nat.ble 20 (vlv (S.1 s)).length = true from Nat.ble_eq_true_of_le hl]; rfl)
        · have hc9 : oMK (S.1 s) x c = .inr i := by
            have hb : Nat.ble 20 (vlv (S.1 s)).length = false := by
              cases hb : Nat.ble 20 (vlv (S.1 s)).length
              · rfl
              · exact absurd (g_le hb) hl
            rw [ho, h1', h2', hv, hb]; rfl
          have T5 := T4.sx (a := 234) (c := 100) (i := s) rfl (nI ((S.1 s).1 + 1))
          have T6 := T5.sx (a := 235) (c := 102) (i := 300 * s + (S.1 s).1) rfl (nI 1)
          have T7 := T6.sx (a := 236) (c := 102) (i := 300 * s + (S.1 s).1) rfl (bI dir)
          have T8 := T7.sx (a := 237) (c := 100) (i := 300 * s + (S.1 s).1) rfl (nI c)
          have T9 := T8.sx (a := 238) (c := 100) (i := 300 * s + (S.1 s).1) rfl (nI (300 * s + i))
          have T10 := T9.sx (a := 242) (c := 100) (i := 200 * s + x) rfl (nI ((S.1 s).1 + 1))
          generalize hM : up2 (up2 (up2 (up2 (up2 (up2 M4 234 s (nI ((S.1 s).1 + 1))) 235 (300 * s + (S.1 s).1) (nI 1)) 236 (300 * s + (S.1 s).1) (bI dir)) 237 (300 * s + (S.1 s).1) (nI c)) 238 (300 * s + (S.1 s).1) (nI (300 * s + i))) 242 (200 * s + x) (nI ((S.1 s).1 + 1)) = M10 at T10
          have m10 : ∀ b j, ¬ (b = 234 ∧ j = s) → ¬ (235 ≤ b ∧ b ≤ 238 ∧ j = 300 * s + (S.1 s).1) → ¬ (b = 242 ∧ j = 200 * s + x) → M10 b j = M4 b j := fun b j z1 z2 z3 => by
            rw [← hM, up2_ne z3, up2_ne (by omega), up2_ne (by omega), up2_ne (by omega), up2_ne (by omega), up2_ne z1]
          have V10 := V4.new (M' := M10) (VW_inc hw s) hs (x := x) (by omega) (i := i) (by rw [j2]; exact hi1) (c := c) (dir := dir) (by rw [j2]; exact hnx) (by rw [j2, ← hM, up2_na (by decide), up2_na (by decide), up2_na (by decide), up2_na (by decide), up2_na (by decide), up2_eq]) (by rw [j2, ← hM, up2_na (by decide), up2_na (by decide), up2_na (by decide), up2_na (by decide), up2_eq]) (by rw [j2, ← hM, up2_na (by decide), up2_na (by decide), up2_na (by decide), up2_eq]) (by rw [j2, ← hM, up2_na (by decide), up2_na (by decide), up2_eq]) (by rw [j2, ← hM, up2_na (by decide), up2_eq]) (by rw [j2, ← hM, up2_eq]) (by rw [j2]; exact fun b j z1 z2 z3 z4 z5 => m10 b j z3 z4 z5)
          have e9 : (up1 (up1 S.1 s (inc (S.1 s))) s (newF (up1 S.1 s (inc (S.1 s)) s) x i c dir)) = (kMK S s x c dir).1 := by
            unfold kMK
            rw [hc9, up1_eq, up1_up1]; rfl
          rw [e9] at V10
          have hK : (kMK S s x c dir).1 s = inc (newF (S.1 s) x i c dir) := by
            unfold kMK
            rw [hc9]
            exact up1_eq _ _ _
          have hnx2 : ((kMK S s x c dir).1 s).1 = (S.1 s).1 + 1 := by rw [hK]; rfl
          have hfil : ((kMK S s x c dir).1 s).2.1 (S.1 s).1 = (true, dir, c, some i, [], nI 0) := by rw [hK]; exact up1_eq _ _ _
          obtain ⟨h11, M11, e11, T11, V11, g1, g2, F11⟩ := T10.good (d := d) (t := 114) (u := 115) (i := (S.1 s).1) (by decide) (by decide) (A4.keep (m10 _ _ (by omega) (by omega) (by omega)) (fun j => m10 _ _ (by omega) (by omega) (by omega))) (R4.keep (m10 _ _ (by omega) (by omega) (by omega)) (fun j => m10 _ _ (by omega) (by omega) (by omega))) V10 hs (by rw [hnx2]; omega) (by omega)
          rw [hfil] at g2
          refine ⟨h11, M11, ?_, T11, V11, ?_, ?_, ?_⟩
          · rw [if_neg (by rw [nI_eq (by omega) (by omega)]; omega), T4.rR (k := 6) (b := 234) rfl rfl, T4.rx (a := 234) (c := 100) (i := s) rfl hs, m234, T4.rR (k := 6) (b := 234) rfl rfl, T4.rx (a := 234) (c := 100) (i := s) rfl hs, m234, nI_add, T4.wx (a := 234) (c := 100) (i := s) rfl hs, T5.rR (k := 7) (b := 235) rfl rfl, b_B (x := nI 1) (Or.inr rfl), nI_mul, nI_add, T5.wx (a := 235) (c := 102) (i := 300 * s + (S.1 s).1) rfl (show 300 * s + (S.1 s).1 < 600 by omega), T6.rR (k := 8) (b := 236) rfl rfl, b_B (bI_01 dir), T6.wx (a := 236) (c := 102) (i := 300 * s + (S.1 s).1) rfl (show 300 * s + (S.1 s).1 < 600 by omega), T7.rR (k := 9) (b := 237) rfl rfl, T7.wx (a := 237) (c := 100) (i := 300 * s + (S.1 s).1) rfl (show 300 * s + (S.1 s).1 < 600 by omega), T8.rR (k := 10) (b := 238) rfl rfl, T8.wx (a := 238) (c := 100) (i := 300 * s + (S.1 s).1) rfl (show 300 * s + (S.1 s).1 < 600 by omega), T9.rR (k := 14) (b := 242) rfl rfl, b_d (by decide), md300 s hs _ (by omega), nI_add, nI_mul, nI_add, T9.wx (a := 242) (c := 100) (i := 200 * s + x) rfl (show 200 * s + x < 400 by omega)]
            exact e11
          · unfold RG kMK kS; rw [hc9]; exact ⟨g1, g2⟩
          · rw [F11 _ _ (by decide) (by decide) (by decide), m10 _ _ (by omega) (by omega) (by omega), q4, hc9]; rfl
          · exact FR4.trans fun b j z1 z2 => by rw [F11 b j (by omega) (by omega) (by omega), m10 b j (by omega) (by omega) (by omega)]
end RCR

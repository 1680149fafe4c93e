/-! THE REFERENCE: WRITE, REMOVE, CREATE -/
section RMK
variable {A : zA} {M M' : Nat → Nat → Int32} {h : ag_H} {d s x i : Nat} {V : Nat → zV} {S : zS}
theorem RFl.congr {f : zF} (hF : RFl M s i f) (hR : ∀ b, 235 ≤ b → b ≤ 240 → M' b (300 * s + i) = M b (300 * s + i)) (hl : f.2.2.2.2.1.length ≤ 8) (h1 : ∀ q, q < 8 → M' 241 (8 * (300 * s + i) + q) = M 241 (8 * (300 * s + i) + q)) : RFl M' s i f := by
  obtain ⟨f1, f2, f3, f4, f5, f6, f7⟩ := hF
  exact ⟨by rw [hR _ (by decide) (by decide)]; exact f1, by rw [hR _ (by decide) (by decide)]; exact f2, by rw [hR _ (by decide) (by decide)]; exact f3, by rw [hR _ (by decide) (by decide)]; exact f4, by rw [hR _ (by decide) (by decide)]; exact f5, by rw [hR _ (by decide) (by decide)]; exact f6, fun q hq => by rw [h1 q (by omega)]; exact f7 q hq⟩
theorem len8 {V : zV} (hw : VW V) (hi : i < V.1) : (V.2.1 i).2.2.2.2.1.length ≤ 8 := by
  have := (hw.2.2.2.2.2.1 i hi).2.2.1
  cases h : (V.2.1 i).2.1
  · rw [h] at this; exact this
  · rw [h] at this; have h9 : (V.2.1 i).2.2.2.2.1.length ≤ 0 := this; omega
theorem RV.file (hV : RV V M) (hw : ∀ t, t < 2 → VW (V t)) (hs : s < 2) (hi : i < (V s).1) {f : zF} (hF : RFl M' s i f) (hR : ∀ b j, 234 ≤ b → b ≤ 243 → ¬ (235 ≤ b ∧ b ≤ 240 ∧ j = 300 * s + i) → ¬ (b = 241 ∧ 8 * (300 * s + i) ≤ j ∧ j < 8 * (300 * s + i) + 8) → M' b j = M b j) : RV (up1 V s ((V s).1, up1 (V s).2.1 i f, (V s).2.2)) M' := by
  have h250 := (hw s hs).2.1
  intro u hu
  obtain ⟨v1, v2, v3, v4, v5⟩ := hV u hu
  have h250u := (hw u hu).2.1
  have tri := Nat.lt_trichotomy u s
  by_cases e : u = s
  · subst e
    rw [up1_eq]
    refine ⟨by rw [hR _ _ (by decide) (by decide) (by omega) (by omega)]; exact v1, by rw [hR _ _ (by decide) (by decide) (by omega) (by omega)]; exact v2, fun j hj => ?_, fun j h1 h2 => ?_, fun y hy => by rw [hR _ _ (by decide) (by decide) (by omega) (by omega)]; exact v5 y hy⟩
    · show RFl M' u j (up1 (V u).2.1 i f j)
      by_cases e2 : j = i
      · subst e2; rw [up1_eq]; exact hF
      · rw [up1_ne e2]
        exact (v3 j hj).congr (fun b h1 h2 => hR _ _ (by omega) (by omega) (by omega) (by omega)) (len8 (hw u hu) hj) (fun q hq => hR _ _ (by decide) (by decide) (by omega) (by omega))
    · have h1 : (V u).1 ≤ j := h1
      exact ⟨by rw [hR _ _ (by decide) (by decide) (by omega) (by omega)]; exact (v4 j h1 h2).1, by rw [hR _ _ (by decide) (by decide) (by omega) (by omega)]; exact (v4 j h1 h2).2⟩
  · rw [up1_ne e]
    refine ⟨by rw [hR _ _ (by decide) (by decide) (by omega) (by omega)]; exact v1, by rw [hR _ _ (by decide) (by decide) (by omega) (by omega)]; exact v2, fun j hj => ?_, fun j h1 h2 => ?_, fun y hy => by rw [hR _ _ (by decide) (by decide) (by omega) (by omega)]; exact v5 y hy⟩
    · exact (v3 j hj).congr (fun b h1 h2 => hR _ _ (by omega) (by omega) (by omega) (by omega)) (len8 (hw u hu) hj) (fun q hq => hR _ _ (by decide) (by decide) (by omega) (by omega))
    · exact ⟨by rw [hR _ _ (by decide) (by decide) (by omega) (by omega)]; exact (v4 j h1 h2).1, by rw [hR _ _ (by decide) (by decide) (by omega) (by omega)]; exact (v4 j h1 h2).2⟩
theorem VW_inc (hw : ∀ t, t < 2 → VW (V t)) (s : Nat) : ∀ t, t < 2 → VW (up1 V s (inc (V s)) t) := fun t ht => by
  by_cases e : t = s
  · subst e; rw [up1_eq]; exact hw t ht
  · rw [up1_ne e]; exact hw t ht
/-- writeOne -/
theorem TA.t131 (hT : TA A M h) (hV : RV S.1 M) (hs : s < 2) (hw : ∀ t, t < 2 → VW (S.1 t)) (hx : x < 128) (hi : (S.1 s).2.2.1 x = some i) {q v : Nat} (hq : q ≤ 8) (hv : v < 256) (hpl : ((S.1 s).2.1 i).1 = true → ((S.1 s).2.1 i).2.1 = false ∧ q ≤ ((S.1 s).2.1 i).2.2.2.2.1.length) : ∃ h' M', ag_run gT (d + 3) 131 [.inr (some 230), .inl (nI s), .inl (nI x), .inl (nI q), .inl (nI v)] h = some (.inl none, h') ∧ TA A M' h' ∧ RV (kWR S s x q v).1 M' ∧ RG (kWR S s x q v) M' ∧ M' 230 20 = eI (oWR (S.1 s) x q) ∧ (∀ i, oWR (S.1 s) x q = .inr i → M' 230 21 = nI (pu8 ((S.1 s).2.1 i).2.2.2.2.1 q (nI v)).length) ∧ FR M M' := by
  have hi1 := (hw s hs).2.2.2.1 x i hi
  have h250 := (hw s hs).2.1
  have hi3 : i < 300 := by omega
  have e0 := hT.t121 (d := d + 1) hV hs (x := x) (by omega) hi
  obtain ⟨h1, M1, e1, T1, A1, R1, q1, V1, F1⟩ := hT.t117 (d := d) hV hs 118 x
  obtain ⟨h2, M2, e2, T2, A2, F2⟩ := T1.t115 (d := d + 1) A1 (nI q) (n := 4) (by decide) (by simp [le])
  obtain ⟨h3, M3, e3, T3, A3, F3⟩ := T2.t115 (d := d + 1) A2 (nI v) (n := 1) (by decide) (by simp [le])
  have V3 := (V1.fa F2).fa F3
  have A3 : AS M3 (le (nI 118) 1 ++ le (nI 1) 2 ++ (le (nI x) 4 ++ le (nI q) 4 ++ le (nI v) 1)) := by
    simp only [List.append_assoc] at A3 ⊢
    exact A3
  have fr3 : ∀ b j, b ≠ 244 → ¬ (b = 230 ∧ j = 17) → M3 b j = M1 b j := fun b j z1 z2 => by rw [F3 b j z1 z2, F2 b j z1 z2]
  have R3 : RS M3 (le (nI 119) 1 ++ le (nI 1) 2) := R1.keep (fr3 _ _ (by decide) (by decide)) (fun j => fr3 _ _ (by decide) (by omega))
  have q3 : M3 230 20 = nI 0 := by rw [fr3 _ _ (by decide) (by decide)]; exact q1
  have FR3 : FR M M3 := fun b j z1 z2 => by rw [fr3 b j (by omega) (by omega), F1 b j (by omega) (by omega) (by omega) (by omega)]
  obtain ⟨j1, j2, j3⟩ := inc_f S.1 s s i
  have hFl := (V3 s hs).2.2.1 i (by rw [j2]; exact hi1)
  rw [j1] at hFl
  obtain ⟨f1, f2, f3, f4, f5, f6, f7⟩ := hFl
  have ho : oWR (S.1 s) x q = bif ((S.1 s).2.1 i).1 then (bif Nat.blt q 8 then .inr i else .inl 102) else .inl 110 := by
    unfold oWR; rw [hi]
  have bad : ∀ e, oWR (S.1 s) x q = .inl e → ∃ h' M', (ag_at h3 (some 230) 11 fun a _ => ag_bV (ag_run gT (d + 2) 118 [.inr (some a), .inl (nI e)] h3) fun h18 => ag_at h18 (some 230) 11 fun a1 _ => ag_bV (ag_run gT (d + 2) 120 [.inr (some a1)] h18) fun h2 => some (.inl none, h2)) = some (.inl none, h') ∧ TA A M' h' ∧ RV (kWR S s x q v).1 M' ∧ RG (kWR S s x q v) M' ∧ M' 230 20 = eI (oWR (S.1 s) x q) ∧ (∀ i, oWR (S.1 s) x q = .inr i → M' 230 21 = nI (pu8 ((S.1 s).2.1 i).2.2.2.2.1 q (nI v)).length) ∧ FR M M' := by
    intro e he
    obtain ⟨h6, M6, e6, T6, V6, g1, g2, q6, F6⟩ := T3.bad (d := d) (t := 118) (by decide) A3 V3 e
    refine ⟨h6, M6, e6, T6, ?_, ?_, by rw [q6, he]; rfl, fun i h9 => (by rw [he] at h9; cases h9), FR3.trans fun b j z1 z2 => F6 b j (by omega) (by omega) (by omega)⟩
    · unfold kWR; rw [he]; exact V6
    · unfold RG kWR kS; rw [he]; exact ⟨g1, g2⟩
  rw [r131]
  unfold f131 f131_139
  rw [hT.ra, e0, b_I, hT.ra, lit8_118, e1, b_V, T1.ra, lit_4, e2, b_V, T2.ra, lit_1, e3, b_V, T3.rR (k := 7) (b := 235) rfl rfl, T3.rx (a := 235) (c := 102) (i := 300 * s + i) rfl (show 300 * s + i < 600 by omega), f1, lit_0, lit8_110, lit8_8, lit8_102]
  cases h1 : ((S.1 s).2.1 i).1
  · rw [if_pos (show bI false = nI 0 from rfl)]
    exact bad 110 (by rw [ho, h1]; rfl)
  · rw [if_neg (show ¬ bI true = nI 0 by decide)]
    by_cases hq8 : q = 8
    · subst hq8
      rw [if_pos rfl]
      exact bad 102 (by rw [ho, h1]; rfl)
    · have hq8 : q < 8 := by omega
      have hc : oWR (S.1 s) x q = .inr i := by
        rw [ho, h1]
        show (bif Nat.blt q 8 then _ else _) = _
        rw [show Nat.blt q 8 = true from Nat.ble_eq_true_of_le hq8]; rfl
      obtain ⟨p1, p2⟩ := hpl h1
      have l8 := len8 (hw s hs) hi1
      rw [if_neg (by rw [nI_eq (by omega) (by omega)]; omega), T3.rR (k := 13) (b := 241) rfl rfl, nI_mul, nI_add, T3.wx (a := 241) (c := 100) (i := 8 * (300 * s + i) + q) rfl (show 8 * (300 * s + i) + q < 4800 by omega)]
      have T4 := T3.sx (a := 241) (c := 100) (i := 8 * (300 * s + i) + q) rfl (nI v)
      have f5' : up2 M3 241 (8 * (300 * s + i) + q) (nI v) 239 (300 * s + i) = nI ((S.1 s).2.1 i).2.2.2.2.1.length := by rw [up2_na (by decide)]; exact f5
      have hpl2 := pu8_len (b := nI v) p2
      -- the new length
      have body : ∃ h' M', f131_107 (ag_run gT (d + 2)) (some 230) (nI (300 * s + i)) (some 239) (nI (300 * s + i)) (nI (pu8 ((S.1 s).2.1 i).2.2.2.2.1 q (nI v)).length) (hse h3 241 (8 * (300 * s + i) + q) (nI v)) = some (.inl none, h') ∧ TA A M' h' ∧ RV (kWR S s x q v).1 M' ∧ RG (kWR S s x q v) M' ∧ M' 230 20 = eI (oWR (S.1 s) x q) ∧ (∀ i, oWR (S.1 s) x q = .inr i → M' 230 21 = nI (pu8 ((S.1 s).2.1 i).2.2.2.2.1 q (nI v)).length) ∧ FR M M' := by
        have T5 := T4.sx (a := 239) (c := 100) (i := 300 * s + i) rfl (nI (pu8 ((S.1 s).2.1 i).2.2.2.2.1 q (nI v)).length)
        have T6 := T5.sx (a := 240) (c := 100) (i := 300 * s + i) rfl (((S.1 s).2.1 i).2.2.2.2.2 + nI 1)
        have T7 := T6.sI (k := 21) rfl (nI (pu8 ((S.1 s).2.1 i).2.2.2.2.1 q (nI v)).length)
        generalize hL : nI (pu8 ((S.1 s).2.1 i).2.2.2.2.1 q (nI v)).length = L at *
        have hver : up2 (up2 M3 241 (8 * (300 * s + i) + q) (nI v)) 239 (300 * s + i) L 240 (300 * s + i) = ((S.1 s).2.1 i).2.2.2.2.2 := by rw [up2_na (by decide), up2_na (by decide)]; exact f6
        have hsz : up2 (up2 (up2 M3 241 (8 * (300 * s + i) + q) (nI v)) 239 (300 * s + i) L) 240 (300 * s + i) (((S.1 s).2.1 i).2.2.2.2.2 + nI 1) 239 (300 * s + i) = L := by rw [up2_na (by decide), up2_eq]
        generalize hM7 : up2 (up2 (up2 (up2 M3 241 (8 * (300 * s + i) + q) (nI v)) 239 (300 * s + i) L) 240 (300 * s + i) (((S.1 s).2.1 i).2.2.2.2.2 + nI 1)) 230 21 L = M7 at T7
        have m7 : ∀ b j, ¬ (b = 241 ∧ j = 8 * (300 * s + i) + q) → ¬ (b = 239 ∧ j = 300 * s + i) → ¬ (b = 240 ∧ j = 300 * s + i) → ¬ (b = 230 ∧ j = 21) → M7 b j = M3 b j := fun b j z1 z2 z3 z4 => by rw [← hM7, up2_ne z4, up2_ne z3, up2_ne z2, up2_ne z1]
        have A7 := A3.keep (M' := M7) (m7 _ _ (by omega) (by omega) (by omega) (by omega)) (fun j => m7 _ _ (by omega) (by omega) (by omega) (by omega))
        have R7 := R3.keep (M' := M7) (m7 _ _ (by omega) (by omega) (by omega) (by omega)) (fun j => m7 _ _ (by omega) (by omega) (by omega) (by omega))
        have hRF : RFl M7 s i (((S.1 s).2.1 i).1, ((S.1 s).2.1 i).2.1, ((S.1 s).2.1 i).2.2.1, ((S.1 s).2.1 i).2.2.2.1, pu8 ((S.1 s).2.1 i).2.2.2.2.1 q (nI v), ((S.1 s).2.1 i).2.2.2.2.2 + nI 1) := by
          refine ⟨by rw [m7 _ _ (by omega) (by omega) (by omega) (by omega)]; exact f1, by rw [m7 _ _ (by omega) (by omega) (by omega) (by omega)]; exact f2, by rw [m7 _ _ (by omega) (by omega) (by omega) (by omega)]; exact f3, by rw [m7 _ _ (by omega) (by omega) (by omega) (by omega)]; exact f4, ?_, ?_, fun p hp9 => ?_⟩
          · rw [← hM7, up2_na (by decide), up2_na (by decide), up2_eq]; exact hL.symm
          · rw [← hM7, up2_na (by decide), up2_eq]
          · have hp9 : p < (pu8 ((S.1 s).2.1 i).2.2.2.2.1 q (nI v)).length := hp9
            show _ = (pu8 ((S.1 s).2.1 i).2.2.2.2.1 q (nI v)).getD p 0
            rw [pu8_get p2 hp9]
            by_cases e : p = q
            · subst e
              rw [if_pos rfl, ← hM7, up2_na (by decide), up2_na (by decide), up2_na (by decide), up2_eq]
            · rw [if_neg e, m7 _ _ (by omega) (by omega) (by omega) (by omega)]
              refine f7 p ?_
              rw [hpl2] at hp9
              split at hp9 <;> omega
        have V7 := V3.file (M' := M7) (VW_inc hw s) hs (i := i) (by rw [j2]; exact hi1) hRF (fun b j z1 z2 z3 z4 => m7 b j (by omega) (by omega) (by omega) (by omega))
        have e9 : (up1 (up1 S.1 s (inc (S.1 s))) s ((up1 S.1 s (inc (S.1 s)) s).1, up1 (up1 S.1 s (inc (S.1 s)) s).2.1 i (((S.1 s).2.1 i).1, ((S.1 s).2.1 i).2.1, ((S.1 s).2.1 i).2.2.1, ((S.1 s).2.1 i).2.2.2.1, pu8 ((S.1 s).2.1 i).2.2.2.2.1 q (nI v), ((S.1 s).2.1 i).2.2.2.2.2 + nI 1), (up1 S.1 s (inc (S.1 s)) s).2.2)) = (kWR S s x q v).1 := by
          unfold kWR
          rw [hc, up1_eq, up1_up1]; rfl
        rw [e9] at V7
        have g7 : M7 230 21 = L := by rw [← hM7, up2_eq]
        obtain ⟨h8, M8, e8, T8, R8, F8⟩ := T7.t116 (d := d + 1) R7 L (n := 4) (by decide) (by simp [le])
        obtain ⟨h9, M9, e9', T9, V9, k1, k2, F9⟩ := T8.fin (d := d + 1) (t := 118) (u := 119) (by decide) (by decide) (A7.keep (F8 _ _ (by decide) (by decide)) (fun j => F8 _ _ (by decide) (by omega))) R8 (V7.fb F8)
        refine ⟨h9, M9, ?_, T9, V9, ?_, ?_, fun i' hi' => ?_, ?_⟩
        · unfold f131_107 f131_139
          rw [T4.wx (a := 239) (c := 100) (i := 300 * s + i) rfl (show 300 * s + i < 600 by omega), T5.rR (k := 12) (b := 240) rfl rfl, T5.rx (a := 240) (c := 100) (i := 300 * s + i) rfl (show 300 * s + i < 600 by omega), hver, lit_1, T5.wx (a := 240) (c := 100) (i := 300 * s + i) rfl (show 300 * s + i < 600 by omega), T6.rR (k := 11) (b := 239) rfl rfl, T6.rx (a := 239) (c := 100) (i := 300 * s + i) rfl (show 300 * s + i < 600 by omega), hsz, T6.wI (k := 21) rfl, T7.rI (k := 21) rfl, g7, T7.ra, lit_4, e8, b_V]
          exact e9'
        · unfold RG kWR kS; rw [hc]
          show GM M9 244 17 _ _ ∧ GM M9 245 19 _ (le (nI (pu8 ((S.1 s).2.1 i).2.2.2.2.1 q (nI v)).length) 4)
          rw [hL]; exact ⟨k1, k2⟩
        · rw [F9 _ _ (by decide) (by decide), F8 _ _ (by decide) (by decide), m7 _ _ (by omega) (by omega) (by omega) (by omega), q3, hc]; rfl
        · rw [hc] at hi'
          cases hi'
          rw [F9 _ _ (by decide) (by decide), F8 _ _ (by decide) (by decide), g7, hL]
        · exact FR3.trans fun b j z1 z2 => by rw [F9 b j (by omega) (by omega), F8 b j (by omega) (by omega), m7 b j (by omega) (by omega) (by omega) (by omega)]
      rw [T4.rR (k := 11) (b := 239) rfl rfl, T4.rR (k := 11) (b := 239) rfl rfl, T4.rx (a := 239) (c := 100) (i := 300 * s + i) rfl (show 300 * s + i < 600 by omega), f5', nI_add]
      by_cases hqq : q = ((S.1 s).2.1 i).2.2.2.2.1.length
      · rw [if_pos (by rw [← hqq])]
        have : (pu8 ((S.1 s).2.1 i).2.2.2.2.1 q (nI v)).length = q + 1 := by rw [hpl2, if_pos (by omega)]
        rw [this] at body
        exact body
      · rw [if_neg (by rw [nI_eq (by omega) (by omega)]; exact hqq), T4.rR (k := 11) (b := 239) rfl rfl, T4.rx (a := 239) (c := 100) (i := 300 * s + i) rfl (show 300 * s + i < 600 by omega), f5']
        have : (pu8 ((S.1 s).2.1 i).2.2.2.2.1 q (nI v)).length = ((S.1 s).2.1 i).2.2.2.2.1.length := by rw [hpl2, if_neg (by omega)]
        rw [this] at body
        exact body
end RMK

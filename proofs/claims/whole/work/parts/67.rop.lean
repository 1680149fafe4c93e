/-! THE REFERENCE: messages without lists of files -/
def FR (M M' : Nat → Nat → Int32) : Prop := ∀ b j, (b < 234 ∨ 245 < b) → ¬ (b = 230 ∧ (j = 17 ∨ j = 19 ∨ j = 20 ∨ j = 21 ∨ j = 40)) → M' b j = M b j
theorem FR.trans {M M' M'' : Nat → Nat → Int32} (h1 : FR M M') (h2 : FR M' M'') : FR M M'' := fun b j q1 q2 => (h2 b j q1 q2).trans (h1 b j q1 q2)
theorem FR.refl (M : Nat → Nat → Int32) : FR M M := fun _ _ _ _ => rfl
theorem FQ.r {M M' : Nat → Nat → Int32} (h : FQ M M') : FR M M' := fun b j q1 q2 => h b j (by omega) (by omega) (by omega) (by omega)
theorem FR.up {M : Nat → Nat → Int32} {a i : Nat} {v : Int32} (h1 : 234 ≤ a) (h2 : a ≤ 245) : FR M (up2 M a i v) := fun b j q1 _ => up2_na (by omega)
theorem FA.r {M M' : Nat → Nat → Int32} (h : FA M M') : FR M M' := h.q.r
theorem FB.r {M M' : Nat → Nat → Int32} (h : FB M M') : FR M M' := h.q.r
section ROP
variable {A : zA} {M M' : Nat → Nat → Int32} {h : ag_H} {d s x i : Nat} {V : Nat → zV} {S : zS}
theorem RV.rows (hV : RV V M) (hR : ∀ b j, 234 ≤ b → b ≤ 243 → M' b j = M b j) : RV V M' := fun s hs => (hV s hs).congr (hR _ _ (by decide) (by decide)) (fun b j h1 h2 => hR b j h1 (by omega))
/-- the end of a message -/
theorem TA.fin (hT : TA A M h) {t u : Nat} {q r : List Int32} (ht : t < 256) (hu : u < 256) (hA : AS M (le (nI t) 1 ++ le (nI 1) 2 ++ q)) (hR : RS M (le (nI u) 1 ++ le (nI 1) 2 ++ r)) (hV : RV V M) : ∃ h' M', (ag_at h (some 230) 11 fun a1 _ => ag_bV (ag_run gT (d + 1) 120 [.inr (some a1)] h) fun h2 => some (.inl none, h2)) = some (.inl none, h') ∧ TA A M' h' ∧ RV V M' ∧ GM M' 244 17 (nI t) q ∧ GM M' 245 19 (nI u) r ∧ ∀ b j, b ≠ 244 → b ≠ 245 → M' b j = M b j := by
  obtain ⟨h', M', e, T, g1, g2, F⟩ := hT.t120 (d := d) ht hu hA hR
  exact ⟨h', M', by rw [hT.ra, e, b_V], T, hV.rows (fun b j h1 h2 => F b j (by omega) (by omega)), g1, g2, F⟩
theorem TA.bad (hT : TA A M h) {t : Nat} {q : List Int32} (ht : t < 256) (hA : AS M (le (nI t) 1 ++ le (nI 1) 2 ++ q)) (hV : RV V M) (c : Nat) : ∃ h' M', (ag_at h (some 230) 11 fun a _ => ag_bV (ag_run gT (d + 2) 118 [.inr (some a), .inl (nI c)] h) fun h18 => ag_at h18 (some 230) 11 fun a1 _ => ag_bV (ag_run gT (d + 2) 120 [.inr (some a1)] h18) fun h2 => some (.inl none, h2)) = some (.inl none, h') ∧ TA A M' h' ∧ RV V M' ∧ GM M' 244 17 (nI t) q ∧ GM M' 245 19 (nI 107) (err c) ∧ M' 230 20 = nI c ∧ ∀ b j, b ≠ 244 → b ≠ 245 → ¬ (b = 230 ∧ (j = 19 ∨ j = 20)) → M' b j = M b j := by
  obtain ⟨h1, M1, e1, T1, R1, q1, F1⟩ := hT.t118 (d := d) c
  have A1 : AS M1 (le (nI t) 1 ++ le (nI 1) 2 ++ q) := hA.congr (F1 _ _ (by decide) (by decide)) (fun j => F1 _ _ (by decide) (by omega))
  have V1 := hV.rows (M' := M1) (fun b j h1 h2 => F1 b j (by omega) (by omega))
  obtain ⟨h2, M2, e2, T2, V2, g1, g2, F2⟩ := T1.fin (d := d + 1) ht (by decide) A1 R1 V1
  exact ⟨h2, M2, by rw [hT.ra, e1, b_V]; exact e2, T2, V2, g1, g2, by rw [F2 _ _ (by decide) (by decide)]; exact q1, fun b j q1 q2 q3 => by rw [F2 b j q1 q2, F1 b j q2 q3]⟩
theorem TA.good (hT : TA A M h) {t u : Nat} {q : List Int32} (ht : t < 256) (hu : u < 256) (hA : AS M (le (nI t) 1 ++ le (nI 1) 2 ++ q)) (hR : RS M (le (nI u) 1 ++ le (nI 1) 2)) (hV : RV V M) (hs : s < 2) (hi : i < (V s).1) (h3 : i < 300) : ∃ h' M', (ag_at h (some 230) 11 fun a _ => ag_bV (ag_run gT (d + 2) 119 [.inr (some a), .inl (nI (300 * s + i))] h) fun h18 => ag_at h18 (some 230) 11 fun a1 _ => ag_bV (ag_run gT (d + 2) 120 [.inr (some a1)] h18) fun h2 => some (.inl none, h2)) = some (.inl none, h') ∧ TA A M' h' ∧ RV V M' ∧ GM M' 244 17 (nI t) q ∧ GM M' 245 19 (nI u) (tel i ((V s).2.1 i)) ∧ ∀ b j, b ≠ 244 → b ≠ 245 → ¬ (b = 230 ∧ j = 19) → M' b j = M b j := by
  obtain ⟨h1, M1, e1, T1, R1, F1⟩ := hT.t119 (d := d) hV hs hi h3 hR (by simp [le])
  have A1 : AS M1 (le (nI t) 1 ++ le (nI 1) 2 ++ q) := hA.congr (F1 _ _ (by decide) (by decide)) (fun j => F1 _ _ (by decide) (by omega))
  obtain ⟨h2, M2, e2, T2, V2, g1, g2, F2⟩ := T1.fin (d := d + 1) ht hu A1 R1 (hV.fb F1)
  exact ⟨h2, M2, by rw [hT.ra, e1, b_V]; exact e2, T2, V2, g1, g2, fun b j q1 q2 q3 => by rw [F2 b j q1 q2, F1 b j q2 q3]⟩
/-- what a handle stands for is changed -/
theorem RV.stand (hV : RV V M) (hs : s < 2) (hx : x < 200) (o : Option Nat) : RV (up1 V s (setH (V s) x o)) (up2 M 242 (200 * s + x) (nI (sN o))) := by
  intro u hu
  have hne : ∀ b j, b ≠ 242 → up2 M 242 (200 * s + x) (nI (sN o)) b j = M b j := fun b j hb => up2_na hb
  obtain ⟨v1, v2, v3, v4, v5⟩ := hV u hu
  by_cases e : u = s
  · subst e
    rw [up1_eq]
    refine ⟨by rw [hne _ _ (by decide)]; exact v1, by rw [hne _ _ (by decide)]; exact v2, fun i hi => ?_, fun i h1 h2 => ⟨by rw [hne _ _ (by decide)]; exact (v4 i h1 h2).1, by rw [hne _ _ (by decide)]; exact (v4 i h1 h2).2⟩, fun y hy => ?_⟩
    · obtain ⟨f1, f2, f3, f4, f5, f6, f7⟩ := v3 i hi
      exact ⟨by rw [hne _ _ (by decide)]; exact f1, by rw [hne _ _ (by decide)]; exact f2, by rw [hne _ _ (by decide)]; exact f3, by rw [hne _ _ (by decide)]; exact f4, by rw [hne _ _ (by decide)]; exact f5, by rw [hne _ _ (by decide)]; exact f6, fun q hq => by rw [hne _ _ (by decide)]; exact f7 q hq⟩
    · show _ = nI (sN (up1 (V u).2.2.1 x o y))
      by_cases e2 : y = x
      · subst e2; rw [up2_eq, up1_eq]
      · rw [up2_ni (by omega), up1_ne e2]; exact v5 y hy
  · rw [up1_ne e]
    refine ⟨by rw [hne _ _ (by decide)]; exact v1, by rw [hne _ _ (by decide)]; exact v2, fun i hi => ?_, fun i h1 h2 => ⟨by rw [hne _ _ (by decide)]; exact (v4 i h1 h2).1, by rw [hne _ _ (by decide)]; exact (v4 i h1 h2).2⟩, fun y hy => ?_⟩
    · obtain ⟨f1, f2, f3, f4, f5, f6, f7⟩ := v3 i hi
      exact ⟨by rw [hne _ _ (by decide)]; exact f1, by rw [hne _ _ (by decide)]; exact f2, by rw [hne _ _ (by decide)]; exact f3, by rw [hne _ _ (by decide)]; exact f4, by rw [hne _ _ (by decide)]; exact f5, by rw [hne _ _ (by decide)]; exact f6, fun q hq => by rw [hne _ _ (by decide)]; exact f7 q hq⟩
    · rw [up2_ni (by have := Nat.lt_trichotomy u s; omega)]; exact v5 y hy
/-- clunk -/
theorem AS.keep {pl : List Int32} (hA : AS M pl) (h1 : M' 230 17 = M 230 17) (h2 : ∀ j, M' 244 j = M 244 j) : AS M' pl := BS.congr hA h1 h2
theorem RS.keep {pl : List Int32} (hA : RS M pl) (h1 : M' 230 19 = M 230 19) (h2 : ∀ j, M' 245 j = M 245 j) : RS M' pl := BS.congr hA h1 h2
theorem TA.t132 (hT : TA A M h) (hV : RV S.1 M) (hG : RG S M) (hs : s < 2) (hx : x < 128) : ∃ h' M', ag_run gT (d + 3) 132 [.inr (some 230), .inl (nI s), .inl (nI x)] h = some (.inl none, h') ∧ TA A M' h' ∧ RV (kGo S s x).1 M' ∧ RG (kGo S s x) M' ∧ FR M M' := by
  rw [r132]
  unfold f132 kGo
  rw [lit_0]
  have main : ∃ h' M', f132_9 (ag_run gT (d + 2)) (some 230) (nI s) (nI x) h = some (.inl none, h') ∧ TA A M' h' ∧ RV (kCl S s x).1 M' ∧ RG (kCl S s x) M' ∧ FR M M' := by
    obtain ⟨h1, M1, e1, T1, A1, R1, q1, V1, F1⟩ := hT.t117 (d := d) hV hs 120 x
    have T2 := T1.sx (a := 242) (c := 100) (i := 200 * s + x) rfl (nI 0)
    have V2 := V1.stand hs (x := x) (by omega) none
    have e9 : (up1 (up1 S.1 s (inc (S.1 s))) s (setH (up1 S.1 s (inc (S.1 s)) s) x none)) = (kCl S s x).1 := by rw [up1_eq, up1_up1]; rfl
    rw [e9] at V2
    obtain ⟨h3, M3, e3, T3, V3, g1, g2, F3⟩ := T2.fin (d := d + 1) (t := 120) (u := 121) (q := le (nI x) 4) (r := []) (by decide) (by decide) (A1.keep (up2_na (by decide)) (fun j => up2_na (by decide))) (by rw [List.append_nil]; exact R1.keep (up2_na (by decide)) (fun j => up2_na (by decide))) V2
    refine ⟨h3, M3, ?_, T3, V3, ⟨g1, g2⟩, ?_⟩
    · unfold f132_9
      rw [hT.ra, lit8_120, e1, b_V, T1.rR (k := 14) (b := 242) rfl rfl, lit16_200, nI_mul, nI_add, lit_0, T1.wx (a := 242) (c := 100) (i := 200 * s + x) rfl (show 200 * s + x < 400 by omega)]
      exact e3
    · exact (F1.r.trans (FR.up (by decide) (by decide))).trans fun b j q1 q2 => F3 b j (by omega) (by omega)
  by_cases h1 : s = 0
  · by_cases h2 : x = 0
    · rw [if_pos (by rw [h1]), if_pos (by rw [h2]), if_pos ⟨h1, h2⟩]
      exact ⟨h, M, rfl, hT, hV, hG, FR.refl M⟩
    · rw [if_pos (by rw [h1]), if_neg (by rw [nI_eq (by omega) (by omega)]; exact h2), if_neg (fun h => h2 h.2)]
      exact main
  · rw [if_neg (by rw [nI_eq (by omega) (by omega)]; exact h1), if_neg (fun h => h1 h.1)]
    exact main
theorem TA.t123 (hT : TA A M h) (hV : RV S.1 M) (hs : s < 2) (hx : x < 128) (hw : VW (S.1 s)) : ∃ h' M', ag_run gT (d + 3) 123 [.inr (some 230), .inl (nI s), .inl (nI x)] h = some (.inl none, h') ∧ TA A M' h' ∧ RV (kAtt S s x).1 M' ∧ RG (kAtt S s x) M' ∧ FR M M' := by
  obtain ⟨h1, M1, e1, T1, A1, R1, q1, V1, F1⟩ := hT.t117 (d := d) hV hs 104 x
  have T2 := T1.sx (a := 242) (c := 100) (i := 200 * s + x) rfl (nI 1)
  have V2 := V1.stand hs (x := x) (by omega) (some 0)
  have e9 : (up1 (up1 S.1 s (inc (S.1 s))) s (setH (up1 S.1 s (inc (S.1 s)) s) x (some 0))) = (kAtt S s x).1 := by rw [up1_eq, up1_up1]; rfl
  rw [e9] at V2
  have hnx : ((kAtt S s x).1 s) = inc (setH (S.1 s) x (some 0)) := up1_eq _ _ _
  have h0 : 0 < ((kAtt S s x).1 s).1 := by rw [hnx]; exact hw.1
  obtain ⟨h3, M3, e3, T3, V3, g1, g2, F3⟩ := T2.good (d := d) (t := 104) (u := 105) (q := le (nI x) 4) (by decide) (by decide) (A1.keep (up2_na (by decide)) (fun j => up2_na (by decide))) (R1.keep (up2_na (by decide)) (fun j => up2_na (by decide))) V2 hs h0 (by decide)
  rw [hnx] at g2
  refine ⟨h3, M3, ?_, T3, V3, ⟨g1, g2⟩, ?_⟩
  · rw [r123]
    unfold f123
    rw [hT.ra, lit8_104, e1, b_V, T1.rR (k := 14) (b := 242) rfl rfl, lit16_200, lit16_300, nI_mul, nI_mul, nI_add, lit_1, T1.wx (a := 242) (c := 100) (i := 200 * s + x) rfl (show 200 * s + x < 400 by omega)]
    exact e3
  · exact (F1.r.trans (FR.up (by decide) (by decide))).trans fun b j q1 q2 => F3 b j (by omega) (by omega) (by omega)
theorem inc_f (V : Nat → zV) (s t i : Nat) : ((up1 V s (inc (V s)) t).2.1 i) = (V t).2.1 i ∧ (up1 V s (inc (V s)) t).1 = (V t).1 ∧ (up1 V s (inc (V s)) t).2.2.1 = (V t).2.2.1 := by
  by_cases e : t = s
  · subst e; rw [up1_eq]; exact ⟨rfl, rfl, rfl⟩
  · rw [up1_ne e]; exact ⟨rfl, rfl, rfl⟩
/-- openOne, statOne -/
theorem TA.t126 (hT : TA A M h) (hV : RV S.1 M) (hs : s < 2) (hw : VW (S.1 s)) (hx : x < 128) (hi : (S.1 s).2.2.1 x = some i) {m : Nat} (hm : m < 3) : ∃ h' M', ag_run gT (d + 3) 126 [.inr (some 230), .inl (nI s), .inl (nI x), .inl (nI m)] h = some (.inl none, h') ∧ TA A M' h' ∧ RV (kOP S s x m).1 M' ∧ RG (kOP S s x m) M' ∧ M' 230 20 = eI (oOP (S.1 s) x m) ∧ FR M M' := by
  have hi1 := hw.2.2.2.1 x i hi
  have hi3 : i < 300 := by have := hw.2.1; omega
  have e0 := hT.t121 (d := d + 1) hV hs (x := x) (by omega) hi
  obtain ⟨h1, M1, e1, T1, A1, R1, q1, V1, F1⟩ := hT.t117 (d := d) hV hs 112 x
  obtain ⟨h2, M2, e2, T2, A2, F2⟩ := T1.t115 (d := d + 1) A1 (nI m) (n := 1) (by decide) (by simp [le])
  have R2 := R1.keep (F2 _ _ (by decide) (by decide)) (fun j => F2 _ _ (by decide) (by omega))
  have V2 := V1.fa F2
  rw [List.append_assoc] at A2
  obtain ⟨j1, j2, j3⟩ := inc_f S.1 s s i
  obtain ⟨f1, f2, -⟩ := (V2 s hs).2.2.1 i (by rw [j2]; exact hi1)
  rw [j1] at f1 f2
  have st : ag_run gT (d + 3) 126 [.inr (some 230), .inl (nI s), .inl (nI x), .inl (nI m)] h = if bI ((S.1 s).2.1 i).1 = nI 0 then (ag_at h2 (some 230) 11 fun a14 _ => ag_bV (ag_run gT (d + 2) 118 [.inr (some a14), .inl (nI 110)] h2) fun h15 => f126_70 (ag_run gT (d + 2)) (some 230) h15) else (if bI ((S.1 s).2.1 i).2.1 = nI 0 then f126_64 (ag_run gT (d + 2)) (some 230) (nI (300 * s + i)) h2 else if nI m = nI 0 then f126_64 (ag_run gT (d + 2)) (some 230) (nI (300 * s + i)) h2 else (ag_at h2 (some 230) 11 fun a12 _ => ag_bV (ag_run gT (d + 2) 118 [.inr (some a12), .inl (nI 112)] h2) fun h13 => f126_70 (ag_run gT (d + 2)) (some 230) h13)) := by
    rw [r126]
    unfold f126
    rw [hT.ra, e0, b_I, hT.ra, lit8_112, e1, b_V, T1.ra, lit_1, e2, b_V, T2.rR (k := 7) (b := 235) rfl rfl, T2.rx (a := 235) (c := 102) (i := 300 * s + i) rfl (show 300 * s + i < 600 by omega), f1, lit_0, lit8_110, T2.rR (k := 8) (b := 236) rfl rfl, T2.rx (a := 236) (c := 102) (i := 300 * s + i) rfl (show 300 * s + i < 600 by omega), f2]
  rw [st]
  have fr2 : FR M M2 := F1.r.trans F2.r
  have er2 : M2 230 20 = nI 0 := by rw [F2 _ _ (by decide) (by decide)]; exact q1
  have bad : ∀ c, oOP (S.1 s) x m = .inl c → ∃ h' M', (ag_at h2 (some 230) 11 fun a14 _ => ag_bV (ag_run gT (d + 2) 118 [.inr (some a14), .inl (nI c)] h2) fun h15 => f126_70 (ag_run gT (d + 2)) (some 230) h15) = some (.inl none, h') ∧ TA A M' h' ∧ RV (kOP S s x m).1 M' ∧ RG (kOP S s x m) M' ∧ M' 230 20 = eI (oOP (S.1 s) x m) ∧ FR M M' := by
    intro c hc
    obtain ⟨h3, M3, e3, T3, V3, g1, g2, q3, F3⟩ := T2.bad (d := d) (t := 112) (q := le (nI x) 4 ++ le (nI m) 1) (by decide) A2 V2 c
    refine ⟨h3, M3, e3, T3, V3, ?_, by rw [q3, hc]; rfl, fr2.trans fun b j q1 q2 => F3 b j (by omega) (by omega) (by omega)⟩
    unfold RG kOP kS
    rw [hc]
    exact ⟨g1, g2⟩
  have gd : oOP (S.1 s) x m = .inr i → ∃ h' M', f126_64 (ag_run gT (d + 2)) (some 230) (nI (300 * s + i)) h2 = some (.inl none, h') ∧ TA A M' h' ∧ RV (kOP S s x m).1 M' ∧ RG (kOP S s x m) M' ∧ M' 230 20 = eI (oOP (S.1 s) x m) ∧ FR M M' := by
    intro hc
    obtain ⟨h3, M3, e3, T3, V3, g1, g2, F3⟩ := T2.good (d := d) (t := 112) (u := 113) (q := le (nI x) 4 ++ le (nI m) 1) (by decide) (by decide) A2 R2 V2 hs (by rw [j2]; exact hi1) hi3
    rw [j1] at g2
    refine ⟨h3, M3, e3, T3, V3, ?_, by rw [F3 _ _ (by decide) (by decide) (by decide), er2, hc]; rfl, fr2.trans fun b j q1 q2 => F3 b j (by omega) (by omega) (by omega)⟩
    unfold RG kOP kS
    rw [hc]
    exact ⟨g1, g2⟩
  have ho : oOP (S.1 s) x m = bif ((S.1 s).2.1 i).1 then (bif ((S.1 s).2.1 i).2.1 && !Nat.beq m 0 then .inl 112 else .inr i) else .inl 110 := by
    unfold oOP; rw [hi]
  cases h1 : ((S.1 s).2.1 i).1
  · rw [if_pos (show bI false = nI 0 from rfl)]
    exact bad 110 (by rw [ho, h1]; rfl)
  · rw [if_neg (show ¬ bI true = nI 0 by decide)]
    cases h2 : ((S.1 s).2.1 i).2.1
    · rw [if_pos (show bI false = nI 0 from rfl)]
      exact gd (by rw [ho, h1, h2]; rfl)
    · rw [if_neg (show ¬ bI true = nI 0 by decide)]
      have : m = 0 ∨ m = 1 ∨ m = 2 := by omega
      rcases this with rfl | rfl | rfl
      · rw [if_pos rfl]
        exact gd (by rw [ho, h1, h2]; rfl)
      · rw [if_neg (by decide)]
        exact bad 112 (by rw [ho, h1, h2]; rfl)
      · rw [if_neg (by decide)]
        exact bad 112 (by rw [ho, h1, h2]; rfl)
theorem TA.t134 (hT : TA A M h) (hV : RV S.1 M) (hs : s < 2) (hw : VW (S.1 s)) (hx : x < 128) (hi : (S.1 s).2.2.1 x = some i) : ∃ h' M', ag_run gT (d + 3) 134 [.inr (some 230), .inl (nI s), .inl (nI x)] h = some (.inl none, h') ∧ TA A M' h' ∧ RV (kSt S s x).1 M' ∧ RG (kSt S s x) M' ∧ M' 230 20 = eI (oST (S.1 s) x) ∧ FR M M' := by
  have hi1 := hw.2.2.2.1 x i hi
  have hi3 : i < 300 := by have := hw.2.1; omega
  have e0 := hT.t121 (d := d + 1) hV hs (x := x) (by omega) hi
  obtain ⟨h2, M2, e1, T2, A2, R2, q1, V2, F1⟩ := hT.t117 (d := d) hV hs 124 x
  obtain ⟨j1, j2, j3⟩ := inc_f S.1 s s i
  obtain ⟨f1, f2, -⟩ := (V2 s hs).2.2.1 i (by rw [j2]; exact hi1)
  rw [j1] at f1 f2
  have ho : oST (S.1 s) x = bif ((S.1 s).2.1 i).1 then .inr i else .inl 110 := by
    unfold oST; rw [hi]
  rw [r134]
  unfold f134 f134_38
  rw [hT.ra, e0, b_I, hT.ra, lit8_124, e1, b_V, T2.rR (k := 7) (b := 235) rfl rfl, T2.rx (a := 235) (c := 102) (i := 300 * s + i) rfl (show 300 * s + i < 600 by omega), f1, lit_0, lit8_110]
  cases h1 : ((S.1 s).2.1 i).1
  · rw [if_pos (show bI false = nI 0 from rfl)]
    have hc : oST (S.1 s) x = .inl 110 := by rw [ho, h1]; rfl
    obtain ⟨h3, M3, e3, T3, V3, g1, g2, q3, F3⟩ := T2.bad (d := d) (t := 124) (q := le (nI x) 4) (by decide) A2 V2 110
    refine ⟨h3, M3, e3, T3, V3, ?_, by rw [q3, hc]; rfl, F1.r.trans fun b j q1 q2 => F3 b j (by omega) (by omega) (by omega)⟩
    unfold RG kSt kS
    rw [hc]
    exact ⟨g1, g2⟩
  · rw [if_neg (show ¬ bI true = nI 0 by decide)]
    have hc : oST (S.1 s) x = .inr i := by rw [ho, h1]; rfl
    obtain ⟨h3, M3, e3, T3, V3, g1, g2, F3⟩ := T2.good (d := d) (t := 124) (u := 125) (q := le (nI x) 4) (by decide) (by decide) A2 R2 V2 hs (by rw [j2]; exact hi1) hi3
    rw [j1] at g2
    refine ⟨h3, M3, e3, T3, V3, ?_, by rw [F3 _ _ (by decide) (by decide) (by decide), q1, hc]; rfl, F1.r.trans fun b j q1 q2 => F3 b j (by omega) (by omega) (by omega)⟩
    unfold RG kSt kS
    rw [hc]
    exact ⟨g1, g2⟩
end ROP

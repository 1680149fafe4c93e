/-! THE REFERENCE'S METHODS: create, to its end -/
section RCR2
variable {A : zA} {M M' : Nat → Nat → Int32} {h : ag_H} {d s x i p f j o : Nat} {S S' : zS} {P : Nat → List zP} {Q : Nat → Option Nat} {O : Nat → Nat → zU} {F L G : List (Nat × Nat)} {W : zW} {X : List Nat × List Nat}
/-- the first member in which files may be made -/
theorem t152_51 {y : Nat} (hy : y < 16) {q : zP} (hl3 : q.2.length ≤ 3) (hT : TA A M h) (hP : RPl M y q) {l2 l3 l6 l7 : Int32} : ∀ (m k n : Nat), k + m = q.2.length → ∃ N, n ≤ N ∧ g152 (ag_run gT d) (n + m + 1) (some 230) l2 l3 (nI y) l6 l7 (nI k) h = f152_89 (ag_run gT d) (g152 (ag_run gT d) N) (some 230) l2 l3 (nI y) l6 l7 (nI (match (List.range' k m).find? (fun i => (q.2.getD i dM).2.2) with
      | none => q.2.length
      | some i => i)) h := by
  intro m
  induction m with
  | zero =>
    intro k n hk
    refine ⟨n, Nat.le_refl _, ?_⟩
    show f152_51 _ _ _ _ _ _ _ _ _ _ = _
    unfold f152_51
    rw [lit_0, if_neg (nI_nlt (by omega) (by omega)), hT.rR (k := 25) (b := 249) rfl rfl, hT.rx (a := 249) (c := 100) (i := y) rfl (show y < 16 from hy), hP.2.2.1, if_pos (nI_le (by omega) (by omega)), show k = q.2.length by omega]
    rfl
  | succ m ih =>
    intro k n hk
    obtain ⟨-, -, a3⟩ := hP.2.2.2 k (by omega)
    rw [show n + (m + 1) + 1 = (n + m + 1) + 1 by omega, List.range'_succ, List.find?_cons]
    show ∃ N, n ≤ N ∧ f152_51 _ _ _ _ _ _ _ _ _ _ = _
    unfold f152_51
    rw [lit_0, lit_1, lit_3, if_neg (nI_nlt (by omega) (by omega)), hT.rR (k := 25) (b := 249) rfl rfl, hT.rx (a := 249) (c := 100) (i := y) rfl (show y < 16 from hy), hP.2.2.1, if_neg (nI_ge (by omega) (by omega)), hT.rR (k := 28) (b := 252) rfl rfl, nI_mul, nI_add, hT.rx (a := 252) (c := 102) (i := 3 * y + k) rfl (show 3 * y + k < 48 by omega), a3, nI_add]
    cases hb : (q.2.getD k dM).2.2
    · rw [if_pos (show bI false = nI 0 from rfl)]
      exact ih (k + 1) n (by omega)
    · rw [if_neg (show ¬ bI true = nI 0 by decide)]
      exact ⟨n + m + 1, by omega, rfl⟩
theorem t152_b {N : Nat} (hN9 : 10 ≤ N) (hT : TA A M h) {ns : List Nat} (hB : PB P) (hp9 : p < 4) (hq : Q p = some j) (ho : o < 20) (h0 : (0, 0) ∈ F) (hl : F.length + 4 < 128) (hP : PM P j F) (hO : OW S F) (hW : WK S bgn) (hV : RV S.1 M) (hG : RG S M) (hRP : RP P M) (hRQ : RQ Q M) (hN : NM ns M) (hnp : 0 < ns.length) (hOL : OL M o []) (hnx : ∀ t, t < 2 → (S.1 t).1 < 250) (dir : Bool) :
    (∀ e, (kWk P j (ns.take (ns.length - 1)) S bgn).2 = .inl e → ∃ h' M' k, f152 (ag_run gT (d + 4)) (g152 (ag_run gT (d + 4)) N) (some 230) (nI p) (nI o) (bI dir) h = some (.inl (some (.inl (nI k))), h') ∧ k < 5 ∧ cdI k 3 4 2 = thW e + 1 ∧ TA A M' h' ∧ RV (kWk P j (ns.take (ns.length - 1)) S bgn).1.1 M' ∧ RG (kWk P j (ns.take (ns.length - 1)) S bgn).1 M' ∧ FX M M') ∧
    ∀ w', (kWk P j (ns.take (ns.length - 1)) S bgn).2 = .inr w' → ∀ T, (kWk P j (ns.take (ns.length - 1)) S bgn).1 = T →
      (∀ e, (kMf P j T w' (ns.getD (ns.length - 1) 0) dir).2 = .inl e → ∃ h' M' k, f152 (ag_run gT (d + 4)) (g152 (ag_run gT (d + 4)) N) (some 230) (nI p) (nI o) (bI dir) h = some (.inl (some (.inl (nI k))), h') ∧ k < 5 ∧ cdI k 3 4 2 = e + 1 ∧ TA A M' h' ∧ RV (kMf P j T w' (ns.getD (ns.length - 1) 0) dir).1.1 M' ∧ RG (kMf P j T w' (ns.getD (ns.length - 1) 0) dir).1 M' ∧ FX M M') ∧
      ∀ t n, (kMf P j T w' (ns.getD (ns.length - 1) 0) dir).2 = .inr (t, n) → ∃ h' M', f152 (ag_run gT (d + 4)) (g152 (ag_run gT (d + 4)) N) (some 230) (nI p) (nI o) (bI dir) h = some (.inl (some (.inl (nI 0))), h') ∧ TA A M' h' ∧ RV (kMf P j T w' (ns.getD (ns.length - 1) 0) dir).1.1 M' ∧ RG (kMf P j T w' (ns.getD (ns.length - 1) 0) dir).1 M' ∧ OL M' o [(t, n, false)] ∧ M' 256 o = nI 1 ∧ M' 259 o = nI (dM2 dir) ∧ M' 260 o = nI 0 ∧ M' 261 o = nI 0 ∧ FO o M M' := by
  have hn12 := hN.2.1
  obtain ⟨h1, M1, e1, T1, V1, G1, W1, F1⟩ := hT.t141 (d := d) (u := ns.length - 1) (by omega) hB hp9 hq h0 (by omega) hP hO hW hV hG hRP hRQ hN
  obtain ⟨o1, o2⟩ := OW.wk h0 (by omega) hP (ns.take (ns.length - 1)) S bgn hO hW
  have P1 := hRP.fw F1
  have Q1 := hRQ.fw F1
  have L1 := hOL.fx F1
  have N1 := hN.fw F1
  have sf := SF.wk (P := P) (j := j) (ns.take (ns.length - 1)) S bgn
  rcases hx : kWk P j (ns.take (ns.length - 1)) S bgn with ⟨S1, r⟩
  rw [hx] at e1 V1 G1 W1 o1 o2 sf
  cases r with
  | inl e =>
    have he := (o1 e rfl).2
    refine ⟨fun e' he' => ?_, fun w' h9 => by cases h9⟩
    cases he'
    refine ⟨h1, M1, if e = 100 then 2 else 1, ?_, by split <;> decide, ?_, T1, V1, G1, F1⟩
    · have hc : nI (wcd (Sum.inl e : Nat ⊕ zW)) = nI (if e = 100 then 2 else 1) := rfl
      rw [hc] at e1
      unfold f152
      rw [hT.rI (k := 4) rfl, hN.1, lit_1, nI_sub (by omega), hT.ra, e1, b_I, lit_0, if_neg (by rw [nI_eq (by split <;> omega) (by omega)]; split <;> omega)]
    · rcases he with rfl | rfl <;> decide
  | inr w' =>
    refine ⟨fun e' he' => (by cases he'), fun w9 h9 T hT9 => ?_⟩
    cases h9
    have hT9 : S1 = T := hT9
    subst hT9
    obtain ⟨O1, K1, -⟩ := o2 w' rfl
    obtain ⟨g8, g9⟩ := W1 w' rfl
    have hx8 := O1.lt K1.1 (fl_mem h0)
    have hi3 : w'.2.2.1 < 300 := by
      have h1 := (O1.1 w'.1 K1.1).2.2.2.1 _ _ K1.2.1
      have h2 := (O1.1 w'.1 K1.1).2.1
      omega
    have hj4 := ((hRQ p hp9).2 j hq).2
    obtain ⟨bl, bq⟩ := hB j hj4
    have e2 := T1.t140 (d := d + 3) V1 P1 hB Q1 hp9 hq K1.1 (by omega) K1.2.1 hi3
    have hnx1 : ∀ t, t < 2 → (S1.1 t).1 < 250 := fun t ht => by rw [(sf t).1]; exact hnx t ht
    have hst := stM_ok hP K1.1 (fl_mem h0)
    have st : f152 (ag_run gT (d + 4)) (g152 (ag_run gT (d + 4)) N) (some 230) (nI p) (nI o) (bI dir) h = g152 (ag_run gT (d + 4)) (N + 1) (some 230) (nI o) (bI dir) (wP j (pidx (P j) w'.1 w'.2.2.1)) (nI w'.1) (nI w'.2.1) (nI 0) h1 := by
      have hc : nI (wcd (Sum.inr w' : Nat ⊕ zW)) = nI 0 := rfl
      rw [hc] at e1
      unfold f152
      rw [hT.rI (k := 4) rfl, hN.1, lit_1, nI_sub (by omega), hT.ra, e1, b_I, lit_0, if_pos rfl, T1.rI (k := 38) rfl, g8, T1.rI (k := 39) rfl, g9, T1.ra, e2, b_I, T1.rI (k := 38) rfl, g8, T1.rI (k := 39) rfl, g9]
      rfl
    rw [st]
    -- what follows when the maker is known
    have go : ∀ (m : zM) (b : Option Nat → Int32 → Int32 → Int32 → Int32 → Int32 → Int32 → ag_H → ag_R), m.1 < 2 ∧ (m.1, m.2.1) ∈ fl w' ++ F → kMf P j S1 w' (ns.getD (ns.length - 1) 0) dir = kMg S1 w' m (ns.getD (ns.length - 1) 0) dir → g152 (ag_run gT (d + 4)) (N + 1) (some 230) (nI o) (bI dir) (wP j (pidx (P j) w'.1 w'.2.2.1)) (nI w'.1) (nI w'.2.1) (nI 0) h1 = f152_169 (ag_run gT (d + 4)) b (some 230) (nI o) (bI dir) (nI m.1) (some 230) (nI m.1) (nI m.2.1) h1 →
        (∀ e, (kMf P j S1 w' (ns.getD (ns.length - 1) 0) dir).2 = .inl e → ∃ h' M' k, g152 (ag_run gT (d + 4)) (N + 1) (some 230) (nI o) (bI dir) (wP j (pidx (P j) w'.1 w'.2.2.1)) (nI w'.1) (nI w'.2.1) (nI 0) h1 = some (.inl (some (.inl (nI k))), h') ∧ k < 5 ∧ cdI k 3 4 2 = e + 1 ∧ TA A M' h' ∧ RV (kMf P j S1 w' (ns.getD (ns.length - 1) 0) dir).1.1 M' ∧ RG (kMf P j S1 w' (ns.getD (ns.length - 1) 0) dir).1 M' ∧ FX M M') ∧
        ∀ t n, (kMf P j S1 w' (ns.getD (ns.length - 1) 0) dir).2 = .inr (t, n) → ∃ h' M', g152 (ag_run gT (d + 4)) (N + 1) (some 230) (nI o) (bI dir) (wP j (pidx (P j) w'.1 w'.2.2.1)) (nI w'.1) (nI w'.2.1) (nI 0) h1 = some (.inl (some (.inl (nI 0))), h') ∧ TA A M' h' ∧ RV (kMf P j S1 w' (ns.getD (ns.length - 1) 0) dir).1.1 M' ∧ RG (kMf P j S1 w' (ns.getD (ns.length - 1) 0) dir).1 M' ∧ OL M' o [(t, n, false)] ∧ M' 256 o = nI 1 ∧ M' 259 o = nI (dM2 dir) ∧ M' 260 o = nI 0 ∧ M' 261 o = nI 0 ∧ FO o M M' := by
      intro m b hm9 hk9 hg9
      rw [hk9, hg9]
      obtain ⟨c1, c2⟩ := t152_169 (d := d) (b := b) T1 ho O1 h0 hl K1.1 V1 G1 N1 hnp g8 g9 L1 hm9.1 hm9.2 hnx1 dir
      refine ⟨fun e he => ?_, fun t n he => ?_⟩
      · obtain ⟨h', M', k, q1, q2, q3, q4, q5, q6, q7⟩ := c1 e he
        exact ⟨h', M', k, q1, q2, q3, q4, q5, q6, F1.trans q7⟩
      · obtain ⟨h', M', q1, q4, q5, q6, q7, q8, q9, q10, q11, q12⟩ := c2 t n he
        exact ⟨h', M', q1, q4, q5, q6, q7, q8, q9, q10, q11, F1.o.trans q12⟩
    cases hpx : pidx (P j) w'.1 w'.2.2.1 with
    | none =>
      have hs1 : stM P j w' = [(w'.1, w'.2.1, true)] := by unfold stM; rw [hpx]
      rw [hpx] at go
      refine go (w'.1, w'.2.1, true) (g152 (ag_run gT (d + 4)) N) ⟨K1.1, fl_mem h0⟩ ?_ ?_
      · unfold kMf
        rw [hs1]
        rfl
      · show f152_51 _ _ _ _ _ _ _ _ _ _ = _
        unfold f152_51 f152_89 f152_120 f152_142
        rw [lit_0, if_pos (show wP j none < nI 0 from (show (-1 : Int32) < nI 0 by decide)), if_pos (show wP j none < nI 0 from (show (-1 : Int32) < nI 0 by decide)), if_neg (show ¬ nI 0 ≤ wP j none from (show ¬ nI 0 ≤ (-1 : Int32) by decide)), if_neg (show ¬ nI 0 ≤ wP j none from (show ¬ nI 0 ≤ (-1 : Int32) by decide))]
    | some k =>
      have hkl := pidx_lt hpx
      obtain ⟨c1, c2, c3, c4⟩ := bq _ (getD_memP hkl)
      have hRl := (P1 j hj4).2 k hkl
      have hs1 : stM P j w' = ((P j).getD k dP).2 := by unfold stM; rw [hpx]
      rw [hs1] at hst
      obtain ⟨N2, hN2, e3⟩ := t152_51 (d := d + 4) (y := 4 * j + k) (l2 := nI o) (l3 := bI dir) (l6 := nI w'.1) (l7 := nI w'.2.1) (by omega) c3 T1 hRl ((P j).getD k dP).2.length 0 (N - ((P j).getD k dP).2.length) (by omega)
      rw [show N - ((P j).getD k dP).2.length + ((P j).getD k dP).2.length + 1 = N + 1 by omega, ← List.range_eq_range'] at e3
      have e3 : g152 (ag_run gT (d + 4)) (N + 1) (some 230) (nI o) (bI dir) (wP j (some k)) (nI w'.1) (nI w'.2.1) (nI 0) h1 = f152_89 (ag_run gT (d + 4)) (g152 (ag_run gT (d + 4)) N2) (some 230) (nI o) (bI dir) (nI (4 * j + k)) (nI w'.1) (nI w'.2.1) (nI (match fmk ((P j).getD k dP).2 with
        | none => ((P j).getD k dP).2.length
        | some i => i)) h1 := e3
      cases hfm : fmk ((P j).getD k dP).2 with
      | none =>
        rw [hfm] at e3
        have hkm : kMf P j S1 w' (ns.getD (ns.length - 1) 0) dir = (kGo S1 w'.1 w'.2.1, .inl 3) := by unfold kMf; rw [hs1, hfm]
        obtain ⟨h4, M4, e4, T4, V4, G4, F4⟩ := T1.t132 (d := d + 1) V1 G1 K1.1 hx8
        rw [hkm]
        refine ⟨fun e' he' => ?_, fun t n h9 => by cases h9⟩
        injection he' with he'
        subst he'
        refine ⟨h4, M4, 2, ?_, by decide, by decide, T4, V4, G4, F1.trans F4.w⟩
        rw [e3]
        unfold f152_89
        rw [lit_0, lit_2, if_neg (nI_nlt (by omega) (by omega)), T1.rR (k := 25) (b := 249) rfl rfl, T1.rx (a := 249) (c := 100) (i := 4 * j + k) rfl (show 4 * j + k < 16 by omega), hRl.2.2.1, if_pos rfl, T1.rI (k := 38) rfl, g8, T1.rI (k := 39) rfl, g9, T1.ra, e4, b_V]
      | some i =>
        rw [hfm] at e3
        have hil := fmk_lt hfm
        obtain ⟨a1, a2, -⟩ := hRl.2.2.2 i hil
        have hkm : kMf P j S1 w' (ns.getD (ns.length - 1) 0) dir = kMg S1 w' (((P j).getD k dP).2.getD i dM) (ns.getD (ns.length - 1) 0) dir := by unfold kMf; rw [hs1, hfm]
        rw [hpx] at go
        refine go (((P j).getD k dP).2.getD i dM) (g152 (ag_run gT (d + 4)) N2) (hst _ (gM_mem hil)) hkm ?_
        rw [e3]
        have e9 : (nI (match some i with
          | none => ((P j).getD k dP).2.length
          | some i => i)) = nI i := rfl
        rw [e9]
        unfold f152_89 f152_120 f152_142
        rw [lit_0, lit_3, if_neg (nI_nlt (by omega) (by omega)), T1.rR (k := 25) (b := 249) rfl rfl, T1.rx (a := 249) (c := 100) (i := 4 * j + k) rfl (show 4 * j + k < 16 by omega), hRl.2.2.1, if_neg (by rw [nI_eq (by omega) (by omega)]; omega), if_pos (nI_le (by omega) (by omega)), T1.rR (k := 26) (b := 250) rfl rfl, nI_mul, nI_add, T1.rx (a := 250) (c := 100) (i := 3 * (4 * j + k) + i) rfl (show 3 * (4 * j + k) + i < 48 by omega), a1, if_pos (nI_le (by omega) (by omega)), T1.rR (k := 27) (b := 251) rfl rfl, T1.rx (a := 251) (c := 100) (i := 3 * (4 * j + k) + i) rfl (show 3 * (4 * j + k) + i < 48 by omega), a2]
/-- create -/
theorem t153_e (hT : TA A M h) (hR : RR S P Q O X M) (hB : OB O) {k : Nat} (hk : k < 5) (v : Int32) : ∃ h' M', f153_73 (ag_run gT (d + 6)) (some 230) v (nI k) h = some (.inl (some (.inl (if cdI k 3 4 2 = 0 then v else nI 0))), h') ∧ TA A M' h' ∧ RR S P Q O X M' ∧ M' 230 41 = nI (cdI k 3 4 2) := by
  obtain ⟨h1, e1, T1⟩ := hT.t149 (d := d + 5) hk 3 4 2
  refine ⟨h1, _, ?_, T1, hR.z hB (FZ.up (by decide)), up2_eq _ _ _ _⟩
  unfold f153_73 f153_93
  rw [hT.ra, lit_3, lit_4, lit_2, e1, b_I, lit_0]
  have : k = 0 ∨ k = 1 ∨ k = 2 ∨ k = 3 ∨ k = 4 := by omega
  rcases this with rfl | rfl | rfl | rfl | rfl <;> rfl
theorem TA.t153n (hT : TA A M h) (hR : RR S P Q O X M) (hB : OB O) {v w : Int32} (hn : noP Q v) : ∃ h' M', ag_run gT (d + 7) 153 [.inr (some 230), .inl v, .inl w] h = some (.inl (some (.inl (nI 0))), h') ∧ TA A M' h' ∧ RR S P Q O X M' ∧ M' 230 41 = nI 1 := by
  refine ⟨_, _, ?_, hT.thr1 1, hR.z hB (FZ.up (by decide)), up2_eq _ _ _ _⟩
  rw [r153]
  unfold f153
  rw [hT.ra, hT.t144n (d := d + 5) hR.2.2.2.1 hn, b_I, lit_0, lit_1, if_pos rfl, hT.wI (k := 41) rfl]
theorem t153_s (hT : TA A M h) (hR : RR S P Q O X M) (hB : OB O) {v w : Int32} (hp9 : isP Q v p j) : ∃ h2 M2, TA A M2 h2 ∧ RR S P Q O ([], []) M2 ∧ (∀ ns, pth X.1 = some ns → NM ns M2) ∧ (pth X.1 = none → ag_run gT (d + 7) 153 [.inr (some 230), .inl v, .inl w] h = f153_73 (ag_run gT (d + 6)) (some 230) (nI (lf5 (lfr O p))) (nI 4) h2) ∧ ∀ ns, pth X.1 = some ns → ag_run gT (d + 7) 153 [.inr (some 230), .inl v, .inl w] h = (if nI (lf5 (lfr O p)) = nI 5 then f153_73 (ag_run gT (d + 6)) (some 230) (nI (lf5 (lfr O p))) (nI 3) h2 else if nI ns.length = nI 0 then f153_73 (ag_run gT (d + 6)) (some 230) (nI (lf5 (lfr O p))) (nI 2) h2 else ag_at h2 (some 230) 11 fun a6 _ => ag_bI (ag_run gT (d + 6) 152 [.inr (some a6), .inl v, .inl (nI 5 * v + nI (lf5 (lfr O p))), .inl w] h2) fun x8 h7 => f153_73 (ag_run gT (d + 6)) (some 230) (nI (lf5 (lfr O p))) x8 h7) := by
  obtain ⟨h1, M1, h2, M2, e1, T1, e2, T2, R2, N2⟩ := hT.pp (d := d + 4) hR hB
  have e3 := T2.t147 (d := d + 5) R2.2.2.2.2.1 hB hp9.1
  have e147 : ag_run gT (d + 6) 147 [.inr (some 230), .inl v] h2 = some (.inl (some (.inl (nI (lf5 (lfr O p))))), h2) := by rw [hp9.2.1]; exact e3
  rw [r153]
  unfold f153
  rw [hT.ra, hT.t144 (d := d + 5) hR.2.2.2.1 hp9, b_I, lit_0, lit_1, lit_2, lit_3, lit_4, lit_5, if_neg (show ¬ nI 1 = nI 0 by decide), hT.ra, e1, b_I, T1.ra, e2, b_V, T2.ra, e147, b_I]
  refine ⟨h2, M2, T2, R2, N2, fun hno => ?_, fun ns hns => ?_⟩
  · rw [hno, if_pos (show bI (none : Option (List Nat)).isSome = nI 0 from rfl)]
  · rw [hns, if_neg (show ¬ bI (some ns).isSome = nI 0 from (show ¬ bI true = nI 0 by decide)), T2.rI (k := 4) rfl, (N2 ns hns).1]
theorem TA.t153a (hT : TA A M h) (hR : RR S P Q O X M) (hB : OB O) {v w : Int32} (hp9 : isP Q v p j) (ha : pth X.1 = none) : ∃ h' M', ag_run gT (d + 7) 153 [.inr (some 230), .inl v, .inl w] h = some (.inl (some (.inl (nI 0))), h') ∧ TA A M' h' ∧ RR S P Q O ([], []) M' ∧ M' 230 41 = nI 1 := by
  obtain ⟨h2, M2, T2, R2, N2, st, -⟩ := t153_s (d := d) (w := w) hT hR hB hp9
  rw [st ha]
  exact t153_e (d := d) T2 R2 hB (k := 4) (by decide) _
theorem TA.t153b (hT : TA A M h) (hR : RR S P Q O X M) (hB : OB O) {v w : Int32} (hp9 : isP Q v p j) {ns : List Nat} (hns : pth X.1 = some ns) (hf : lfr O p = none) : ∃ h' M', ag_run gT (d + 7) 153 [.inr (some 230), .inl v, .inl w] h = some (.inl (some (.inl (nI 0))), h') ∧ TA A M' h' ∧ RR S P Q O ([], []) M' ∧ M' 230 41 = nI 2 := by
  obtain ⟨h2, M2, T2, R2, N2, -, st⟩ := t153_s (d := d) (w := w) hT hR hB hp9
  rw [st ns hns, hf, if_pos (show nI (lf5 none) = nI 5 from rfl)]
  exact t153_e (d := d) T2 R2 hB (k := 3) (by decide) _
theorem TA.t153c (hT : TA A M h) (hR : RR S P Q O X M) (hB : OB O) {v w : Int32} (hp9 : isP Q v p j) (hns : pth X.1 = some []) (hf : lfr O p = some f) : ∃ h' M', ag_run gT (d + 7) 153 [.inr (some 230), .inl v, .inl w] h = some (.inl (some (.inl (nI 0))), h') ∧ TA A M' h' ∧ RR S P Q O ([], []) M' ∧ M' 230 41 = nI 4 := by
  obtain ⟨h2, M2, T2, R2, N2, -, st⟩ := t153_s (d := d) (w := w) hT hR hB hp9
  have f5 := (lfr_lt hf).1
  rw [st [] hns, hf, if_neg (show ¬ nI (lf5 (some f)) = nI 5 by show ¬ nI f = nI 5; rw [nI_eq (by omega) (by omega)]; omega), if_pos (show nI ([] : List Nat).length = nI 0 from rfl)]
  exact t153_e (d := d) T2 R2 hB (k := 2) (by decide) _
theorem TA.t153 (hT : TA A M h) (hR : RR S P Q O X M) (hB : OB O) (hPB : PB P) {v : Int32} (hp9 : isP Q v p j) {ns : List Nat} (hns : pth X.1 = some ns) (hnp : 0 < ns.length) (dir : Bool) (hf : lfr O p = some f) (h0 : (0, 0) ∈ F) (hl : F.length + 4 < 128) (hP : PM P j F) (hO : OW S F) (hW : WK S bgn) (hnx : ∀ t, t < 2 → (S.1 t).1 < 250) :
    (∀ e, (kWk P j (ns.take (ns.length - 1)) S bgn).2 = .inl e → ∃ h' M', ag_run gT (d + 7) 153 [.inr (some 230), .inl v, .inl (bI dir)] h = some (.inl (some (.inl (nI 0))), h') ∧ TA A M' h' ∧ RR (kWk P j (ns.take (ns.length - 1)) S bgn).1 P Q O ([], []) M' ∧ M' 230 41 = nI (thW e + 1)) ∧
    ∀ w', (kWk P j (ns.take (ns.length - 1)) S bgn).2 = .inr w' → ∀ T, (kWk P j (ns.take (ns.length - 1)) S bgn).1 = T →
      (∀ e, (kMf P j T w' (ns.getD (ns.length - 1) 0) dir).2 = .inl e → ∃ h' M', ag_run gT (d + 7) 153 [.inr (some 230), .inl v, .inl (bI dir)] h = some (.inl (some (.inl (nI 0))), h') ∧ TA A M' h' ∧ RR (kMf P j T w' (ns.getD (ns.length - 1) 0) dir).1 P Q O ([], []) M' ∧ M' 230 41 = nI (e + 1)) ∧
      ∀ t n, (kMf P j T w' (ns.getD (ns.length - 1) 0) dir).2 = .inr (t, n) → ∃ h' M', ag_run gT (d + 7) 153 [.inr (some 230), .inl v, .inl (bI dir)] h = some (.inl (some (.inl (nI f))), h') ∧ TA A M' h' ∧ RR (kMf P j T w' (ns.getD (ns.length - 1) 0) dir).1 P Q (up2 O p f (true, [(t, n, false)], 1, dM2 dir, 0, 0)) ([], []) M' ∧ M' 230 41 = nI 0 := by
  obtain ⟨h2, M2, T2, R2, N2, -, st⟩ := t153_s (d := d) (w := bI dir) hT hR hB hp9
  obtain ⟨f5, hfu⟩ := lfr_lt hf
  obtain ⟨hp4, rfl, hq⟩ := hp9
  have hn12 := (N2 ns hns).2.1
  have st' : ag_run gT (d + 7) 153 [.inr (some 230), .inl (nI p), .inl (bI dir)] h = ag_bI (f152 (ag_run gT (d + 5)) (g152 (ag_run gT (d + 5)) 3999) (some 230) (nI p) (nI (5 * p + f)) (bI dir) h2) fun x8 h7 => f153_73 (ag_run gT (d + 6)) (some 230) (nI f) x8 h7 := by
    rw [st ns hns, hf, if_neg (show ¬ nI (lf5 (some f)) = nI 5 by show ¬ nI f = nI 5; rw [nI_eq (by omega) (by omega)]; omega), if_neg (by rw [nI_eq (by omega) (by omega)]; omega), T2.ra, nI_mul, nI_add, r152]
    rfl
  rw [st']
  obtain ⟨c1, c2⟩ := t152_b (d := d + 1) (N := 3999) (o := 5 * p + f) (by decide) T2 hPB hp4 hq (by omega) h0 hl hP hO hW R2.1 R2.2.1 R2.2.2.1 R2.2.2.2.1 (N2 ns hns) hnp (OL0 R2.2.2.2.2.1 hp4 f5 hfu) hnx dir
  refine ⟨fun e he => ?_, fun w' he T hT9 => ⟨fun e he => ?_, fun t n he => ?_⟩⟩
  · obtain ⟨h3, M3, k, e3, k5, kc, T3, V3, G3, F3⟩ := c1 e he
    obtain ⟨h4, M4, e4, T4, R4, q4⟩ := t153_e (d := d) T3 (R2.w hB F3 V3 G3) hB k5 (nI f)
    rw [kc] at q4
    rw [kc, if_neg (by omega)] at e4
    exact ⟨h4, M4, by rw [e3, b_I]; exact e4, T4, R4, q4⟩
  · obtain ⟨h3, M3, k, e3, k5, kc, T3, V3, G3, F3⟩ := (c2 w' (by assumption) T hT9).1 e he
    obtain ⟨h4, M4, e4, T4, R4, q4⟩ := t153_e (d := d) T3 (R2.w hB F3 V3 G3) hB k5 (nI f)
    rw [kc] at q4
    rw [kc, if_neg (by omega)] at e4
    exact ⟨h4, M4, by rw [e3, b_I]; exact e4, T4, R4, q4⟩
  · obtain ⟨h3, M3, e3, T3, V3, G3, O3, k6, k7, k8, k9, F3⟩ := (c2 w' (by assumption) T hT9).2 t n he
    have R3 := R2.ow hB F3 V3 G3 (R2.2.2.2.2.1.row hB hp4 f5 F3 (u := (true, [(t, n, false)], 1, dM2 dir, 0, 0)) ⟨fun h => (by cases h), fun _ => ⟨O3, k6, k7, k8, k9⟩⟩)
    have hB' : OB (up2 O p f (true, [(t, n, false)], 1, dM2 dir, 0, 0)) := fun p' f' hp' hf' hu => by
      by_cases e : p' = p ∧ f' = f
      · rw [e.1, e.2, up2_eq]; exact ⟨by show 1 ≤ 3; decide, by simp⟩
      · rw [up2_ne e] at hu ⊢; exact hB p' f' hp' hf' hu
    obtain ⟨h4, M4, e4, T4, R4, q4⟩ := t153_e (d := d) T3 R3 hB' (k := 0) (by decide) (nI f)
    exact ⟨h4, M4, by rw [e3, b_I]; exact e4, T4, R4, q4⟩
end RCR2

section RUM2
variable {A : zA} {M M' M1 : Nat → Nat → Int32} {h : ag_H} {d s x i p f j o w k : Nat} {S S' : zS} {P : Nat → List zP} {Q : Nat → Option Nat} {O : Nat → Nat → zU} {F L G : List (Nat × Nat)} {W : zW} {X : List Nat × List Nat}
theorem erase_len {L : List zP} (hk : k < L.length) : (L.eraseIdx k).length = L.length - 1 := List.length_eraseIdx_of_lt hk
theorem erase_getD {L : List zP} {i : Nat} : (L.eraseIdx k).getD i dP = if i < k then L.getD i dP else L.getD (i + 1) dP := by
  simp only [List.getD_eq_getElem?_getD, List.getElem?_eraseIdx]
  split <;> rfl
theorem RP.erase (hP : RP P M) (hB : PB P) (hj : j < 4) {n : Nat} (hn : (P j).length = n + 1) (hk : k ≤ n) (hF : FY j (4 * j + k) M M1) (h6 : M' 246 j = nI n) (s1 : ∀ b y, 247 ≤ b → b ≤ 249 → 4 * j + k ≤ y → y < 4 * j + n → M' b y = M1 b (y + 1)) (s2 : ∀ b y, 250 ≤ b → b ≤ 252 → 3 * (4 * j + k) ≤ y → y < 3 * (4 * j + n) → M' b y = M1 b (y + 3)) (s3 : ∀ b y, ¬ (b = 246 ∧ y = j) → ¬ (247 ≤ b ∧ b ≤ 249 ∧ 4 * j + k ≤ y ∧ y < 4 * j + n) → ¬ (250 ≤ b ∧ b ≤ 252 ∧ 3 * (4 * j + k) ≤ y ∧ y < 3 * (4 * j + n)) → M' b y = M1 b y) : RP (up1 P j ((P j).eraseIdx k)) M' := fun j' hj' => by
  have b1 := (hB j hj).1
  by_cases e : j' = j
  · subst e
    rw [up1_eq, erase_len (by omega), hn]
    refine ⟨h6, fun i hi => ?_⟩
    have hi : i < n := hi
    rw [erase_getD]
    by_cases hik : i < k
    · rw [if_pos hik]
      have := hP.oth hB hF hj' (k' := i) (by omega) (by omega)
      exact this.c2 ((hB j' hj').2 _ (getD_memP (by omega))).2.2.1 (fun b h1 h2 => s3 b _ (by omega) (by omega) (by omega)) (fun b y h1 h2 h3 h4 => s3 b _ (by omega) (by omega) (by omega))
    · rw [if_neg hik]
      obtain ⟨l1, l2, l3, l4⟩ := hP.oth hB hF hj' (k' := i + 1) (by omega) (by omega)
      have h3 := ((hB j' hj').2 _ (getD_memP (L := P j') (k := i + 1) (by omega))).2.2.1
      refine ⟨?_, ?_, ?_, fun t ht => ⟨?_, ?_, ?_⟩⟩
      · rw [s1 _ _ (by decide) (by decide) (by omega) (by omega)]; exact l1
      · rw [s1 _ _ (by decide) (by decide) (by omega) (by omega)]; exact l2
      · rw [s1 _ _ (by decide) (by decide) (by omega) (by omega)]; exact l3
      · rw [s2 _ _ (by decide) (by decide) (by omega) (by omega), show 3 * (4 * j' + i) + t + 3 = 3 * (4 * j' + (i + 1)) + t by omega]; exact (l4 t ht).1
      · rw [s2 _ _ (by decide) (by decide) (by omega) (by omega), show 3 * (4 * j' + i) + t + 3 = 3 * (4 * j' + (i + 1)) + t by omega]; exact (l4 t ht).2.1
      · rw [s2 _ _ (by decide) (by decide) (by omega) (by omega), show 3 * (4 * j' + i) + t + 3 = 3 * (4 * j' + (i + 1)) + t by omega]; exact (l4 t ht).2.2
  · rw [up1_ne e]
    have b2 := (hB j' hj').1
    refine ⟨by rw [s3 _ _ (by omega) (by omega) (by omega), hF _ _ (by omega) (by omega) (by omega) (by omega) (by omega)]; exact (hP j' hj').1, fun i hi => ?_⟩
    have := hP.oth hB hF hj' hi (by omega)
    exact this.c2 ((hB j' hj').2 _ (getD_memP (by omega))).2.2.1 (fun b h1 h2 => s3 b _ (by omega) (by omega) (by omega)) (fun b y h1 h2 h3 h4 => s3 b _ (by omega) (by omega) (by omega))
theorem RR.dp (hR : RR S P Q O X M) (hB : OB O) (hF : ∀ b y, (b < 234 ∨ 252 < b) → ¬ (b = 230 ∧ (y = 17 ∨ y = 19 ∨ y = 20 ∨ y = 21 ∨ y = 40 ∨ y = 38 ∨ y = 39)) → M' b y = M b y) (hV : RV S'.1 M') (hG : RG S' M') {P' : Nat → List zP} (hP : RP P' M') : RR S' P' Q O X M' := by
  obtain ⟨a, b, c, e, f, g⟩ := hR
  exact ⟨hV, hG, hP, e.congr (fun y => hF _ _ (by decide) (by omega)) (fun y => hF _ _ (by decide) (by omega)), f.congr hB fun b y h1 h2 => hF b y (by omega) (by omega), g.congr (hF _ _ (by decide) (by decide)) (hF _ _ (by decide) (by decide)) (fun y => hF _ _ (by decide) (by omega)) (fun y => hF _ _ (by decide) (by omega))⟩
theorem TA.t167n (hT : TA A M h) (hR : RR S P Q O X M) (hB : OB O) {v : Int32} (hn : noP Q v) : ∃ h' M', ag_run gT (d + 7) 167 [.inr (some 230), .inl v] h = some (.inl (some (.inl (nI 0))), h') ∧ TA A M' h' ∧ RR S P Q O X M' ∧ M' 230 41 = nI 1 := by
  refine ⟨_, _, ?_, hT.thr1 1, hR.z hB (FZ.up (by decide)), up2_eq _ _ _ _⟩
  rw [r167]
  unfold f167
  rw [hT.ra, hT.t144n (d := d + 5) hR.2.2.2.1 hn, b_I, lit_0, lit_1, if_pos rfl, hT.wI (k := 41) rfl]
theorem t167_e (hT : TA A M h) (hR : RR S P Q O X M) (hB : OB O) (hp4 : p < 4) (hq : Q p = some j) {c : Nat} (hc : c < 5) (hc3 : c ≠ 3) : ∃ h' M', f167_103 (ag_run gT (d + 6)) (some 230) (nI p) (nI c) h = some (.inl (some (.inl (if c = 0 then nI (P j).length else nI 0))), h') ∧ TA A M' h' ∧ RR S P Q O X M' ∧ M' 230 41 = nI (cdI c 2 3 0) := by
  obtain ⟨h2, e2, T2⟩ := hT.t149 (d := d + 5) hc 2 3 0
  have R2 := hR.z hB (FZ.up (M := M) (k := 41) (v := nI (cdI c 2 3 0)) (by decide))
  obtain ⟨q1, q2⟩ := (R2.2.2.2.1 p hp4).2 j hq
  have p1 := (R2.2.2.1 j q2).1
  refine ⟨h2, _, ?_, T2, R2, up2_eq _ _ _ _⟩
  unfold f167_103 f167_129
  rw [hT.ra, lit_3, lit_0, lit_2, e2, b_I, T2.rR (k := 22) (b := 246) rfl rfl, T2.rR (k := 30) (b := 254) rfl rfl, T2.rx (a := 254) (c := 100) (i := p) rfl (show p < 4 from hp4), q1, T2.rx (a := 246) (c := 100) (i := j) rfl (show j < 4 from q2), p1]
  have : c = 0 ∨ c = 1 ∨ c = 2 ∨ c = 4 := by omega
  rcases this with rfl | rfl | rfl | rfl <;> rfl
theorem TA.t167a (hT : TA A M h) (hR : RR S P Q O X M) (hB : OB O) {v : Int32} (hp9 : isP Q v p j) (ha : pth X.1 = none) : ∃ h' M', ag_run gT (d + 7) 167 [.inr (some 230), .inl v] h = some (.inl (some (.inl (nI 0))), h') ∧ TA A M' h' ∧ RR S P Q O ([], []) M' ∧ M' 230 41 = nI 1 := by
  obtain ⟨h1, M1, h2, M2, e1, T1, e2, T2, R2, N2⟩ := hT.pp (d := d + 4) hR hB
  have e144 := hT.t144 (d := d + 5) hR.2.2.2.1 hp9
  obtain ⟨hp4, rfl, hq⟩ := hp9
  rw [r167]
  unfold f167 f167_42
  rw [hT.ra, e144, b_I, lit_0, lit_4, if_neg (show ¬ nI 1 = nI 0 by decide), hT.ra, e1, b_I, T1.ra, e2, b_V, ha, if_pos (show bI (none : Option (List Nat)).isSome = nI 0 from rfl), if_neg (show ¬ nI 4 = nI 0 by decide)]
  exact t167_e (d := d) T2 R2 hB hp4 hq (c := 4) (by decide) (by decide)
theorem TA.t167 (hT : TA A M h) (hR : RR S P Q O X M) (hB : OB O) (hPB : PB P) {v : Int32} (hp9 : isP Q v p j) {ns : List Nat} (hns : pth X.1 = some ns) (hn : PN P j) (h0 : (0, 0) ∈ F) (hl : F.length + 4 < 128) (hP : PM P j F) (hO : OW S F) (hW : WK S bgn) :
    (∀ e, (kUm P j S ns).2.2 = .inl e → ∃ h' M', ag_run gT (d + 7) 167 [.inr (some 230), .inl v] h = some (.inl (some (.inl (nI 0))), h') ∧ TA A M' h' ∧ RR (kUm P j S ns).1 (kUm P j S ns).2.1 Q O ([], []) M' ∧ M' 230 41 = nI e) ∧
    ∀ n, (kUm P j S ns).2.2 = .inr n → ∃ h' M', ag_run gT (d + 7) 167 [.inr (some 230), .inl v] h = some (.inl (some (.inl (nI n))), h') ∧ TA A M' h' ∧ RR (kUm P j S ns).1 (kUm P j S ns).2.1 Q O ([], []) M' ∧ M' 230 41 = nI 0 := by
  obtain ⟨h1, M1, h2, M2, e1, T1, e2, T2, R2, N2⟩ := hT.pp (d := d + 4) hR hB
  have N2 := N2 ns hns
  have e144 := hT.t144 (d := d + 5) hR.2.2.2.1 hp9
  obtain ⟨hp4, rfl, hq⟩ := hp9
  have hn12 := N2.2.1
  obtain ⟨h3, M3, e3, T3, V3, G3, W3, F3⟩ := T2.t141 (d := d + 2) (u := ns.length) (Nat.le_refl _) hPB hp4 hq h0 (by omega) hP hO hW R2.1 R2.2.1 R2.2.2.1 R2.2.2.2.1 N2
  rw [List.take_length] at e3 V3 G3 W3
  obtain ⟨o1, o2⟩ := OW.wk h0 (by omega) hP ns S bgn hO hW
  have R3 : RR (kWk P j ns S bgn).1 P Q O ([], []) M3 := R2.w hB F3 V3 G3
  have st : ag_run gT (d + 7) 167 [.inr (some 230), .inl (nI p)] h = f167_42 (ag_run gT (d + 6)) (some 230) (nI p) (nI (wcd (kWk P j ns S bgn).2)) h3 := by
    rw [r167]
    unfold f167
    rw [hT.ra, e144, b_I, lit_0, if_neg (show ¬ nI 1 = nI 0 by decide), hT.ra, e1, b_I, T1.ra, e2, b_V, hns, if_neg (show ¬ bI (some ns).isSome = nI 0 from (show ¬ bI true = nI 0 by decide)), T2.rI (k := 4) rfl, N2.1, T2.ra, e3, b_I]
  rw [st]
  unfold kUm
  have hv : ∀ q ∈ P j, ∀ m ∈ q.2, m.1 < 2 ∧ m.2.1 < 128 ∧ ¬ (m.1 = 0 ∧ m.2.1 = 0) := fun q hq m hm => ⟨(hP q hq m hm).1, hO.lt (hP q hq m hm).1 (hP q hq m hm).2, hn q hq m hm⟩
  rcases hx : kWk P j ns S bgn with ⟨S1, r⟩
  rw [hx] at W3 o1 o2 R3
  cases r with
  | inl e =>
    obtain ⟨w1, w2, w3, w4⟩ := wcd_ne e
    refine ⟨fun e' he' => ?_, fun n he' => by cases he'⟩
    injection he' with he'
    obtain ⟨h4, M4, e4, T4, R4, q4⟩ := t167_e (d := d) T3 R3 hB hp4 hq w2 (by show ¬ (if e = 100 then 2 else 1) = 3; split <;> decide)
    refine ⟨h4, M4, ?_, T4, R4, ?_⟩
    · unfold f167_42
      rw [lit_0, if_neg w1, e4, if_neg (fun h => w1 (by rw [h]))]
    · rw [q4, w3, ← he']; rfl
  | inr W =>
    obtain ⟨O1, K1, -⟩ := o2 W rfl
    obtain ⟨g8, g9⟩ := W3 W rfl
    have hx8 := O1.lt K1.1 (fl_mem h0)
    have hVW := O1.1 W.1 K1.1
    have hi1 := hVW.2.2.2.1 _ _ K1.2.1
    have hi3 : W.2.2.1 < 300 := by have := hVW.2.1; omega
    have e140 := T3.t140 (d := d + 5) R3.1 R3.2.2.1 hPB R3.2.2.2.1 hp4 hq K1.1 (show W.2.1 < 200 by omega) K1.2.1 hi3
    obtain ⟨q1, q2⟩ := (R3.2.2.2.1 p hp4).2 j hq
    obtain ⟨b1, b2⟩ := hPB j q2
    obtain ⟨p1, p2⟩ := R3.2.2.1 j q2
    dsimp only
    unfold f167_42
    rw [if_pos (show nI (wcd (Sum.inr W : Nat ⊕ zW)) = ag_lit 0 from lit_0.symm), T3.rI (k := 38) rfl, g8, T3.rI (k := 39) rfl, g9, T3.ra, e140, b_I, lit_0]
    cases hpi : pidx (P j) W.1 W.2.2.1 with
    | none =>
      dsimp only
      obtain ⟨h4, M4, e4, T4, V4, G4, F4⟩ := T3.t132 (d := d + 3) R3.1 R3.2.1 K1.1 hx8
      obtain ⟨h5, M5, e5, T5, R5, q5⟩ := t167_e (d := d) (c := 2) T4 (R3.w hB F4.w V4 G4) hB hp4 hq (by decide) (by decide)
      refine ⟨fun e' he' => ?_, fun n he' => by cases he'⟩
      injection he' with he'
      refine ⟨h5, M5, ?_, T5, R5, by rw [q5, ← he']; rfl⟩
      rw [show wP j none = -1 from rfl, if_pos (show (-1 : Int32) < nI 0 by decide)]
      unfold f167_80 f167_90
      rw [lit_0, lit_2, if_neg (show ¬ nI 0 ≤ (-1 : Int32) by decide), T3.rI (k := 38) rfl, g8, T3.rI (k := 39) rfl, g9, T3.ra, e4, b_V]
      exact e5
    | some k =>
      dsimp only
      have hk := pidx_lt hpi
      obtain ⟨n, hn1⟩ : ∃ n, (P j).length = n + 1 := ⟨(P j).length - 1, by omega⟩
      obtain ⟨l1, l2, l3, l4⟩ := p2 k hk
      obtain ⟨-, -, b3, -⟩ := b2 _ (getD_memP hk)
      obtain ⟨h4, M4, e4, T4, V4, G4, c4, F4⟩ := T3.t162 (d := d + 2) (w := 4 * j + k) (by omega) b3 (hv _ (getD_memP hk)) R3.1 R3.2.1 ⟨l3, l4⟩
      have q4 : M4 254 p = nI j := by rw [F4 _ _ (by omega) (by omega) (by omega)]; exact q1
      have p4 : M4 246 j = nI (n + 1) := by rw [F4 _ _ (by omega) (by omega) (by omega), ← hn1]; exact p1
      obtain ⟨h5, M5, e5, T5, c5, s1, s2, s3⟩ := T4.t166 (d := d + 5) hp4 q2 q4 (by omega) p4 (show k ≤ n by omega)
      have F4y : FY j (4 * j + k) M3 M4 := fun b y z1 z2 z3 z4 z5 => F4 b y z1 (by omega) (by omega)
      have P5 := R3.2.2.1.erase hPB q2 hn1 (show k ≤ n by omega) F4y c5 s1 s2 s3
      have R5 : RR (kClA S1 ((P j).getD k dP).2) (up1 P j ((P j).eraseIdx k)) Q O ([], []) M5 := R3.dp hB (fun b y z1 z2 => by rw [s3 b y (by omega) (by omega) (by omega), F4 b y (by omega) (by omega) (by omega)]) (V4.rows fun b y z1 z2 => s3 b y (by omega) (by omega) (by omega)) (G4.congr (s3 _ _ (by omega) (by omega) (by omega)) (s3 _ _ (by omega) (by omega) (by omega)) (fun y => s3 _ _ (by omega) (by omega) (by omega)) (fun y => s3 _ _ (by omega) (by omega) (by omega))) P5
      have g85 : M5 230 38 = nI W.1 := by rw [s3 _ _ (by omega) (by omega) (by omega), F4 _ _ (by omega) (by omega) (by omega)]; exact g8
      have g95 : M5 230 39 = nI W.2.1 := by rw [s3 _ _ (by omega) (by omega) (by omega), F4 _ _ (by omega) (by omega) (by omega)]; exact g9
      obtain ⟨h6, M6, e6, T6, V6, G6, F6⟩ := T5.t132 (d := d + 3) R5.1 R5.2.1 K1.1 hx8
      obtain ⟨h7, M7, e7, T7, R7, q7⟩ := t167_e (d := d) (c := 0) T6 (R5.w hB F6.w V6 G6) hB hp4 hq (by decide) (by decide)
      refine ⟨fun e' he' => (by cases he'), fun n' he' => ?_⟩
      injection he' with he'
      refine ⟨h7, M7, ?_, T7, R7, q7⟩
      rw [show wP j (some k) = nI (4 * j + k) from rfl, if_neg (nI_nlt (by omega) (by omega)), T3.ra, e4, b_V, T4.ra, e5, b_V]
      unfold f167_80 f167_90
      rw [lit_0, if_pos (nI_le (by omega) (by omega)), T5.rI (k := 38) rfl, g85, T5.rI (k := 39) rfl, g95, T5.ra, e6, b_V, e7, if_pos rfl, up1_eq, ← he']
end RUM2

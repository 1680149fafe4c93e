/-! THE REFERENCE'S METHODS: close, remove, stat -/
section RCL
variable {A : zA} {M M' : Nat → Nat → Int32} {h : ag_H} {d s x i p f j o : Nat} {S S' : zS} {P : Nat → List zP} {Q : Nat → Option Nat} {O : Nat → Nat → zU} {F L G : List (Nat × Nat)} {W : zW} {X : List Nat × List Nat}
theorem kGo_cl (hO : OW S ((s, x) :: G)) (h0 : (0, 0) ∈ G) (hs : s < 2) : kGo S s x = kCl S s x ∧ OW (kCl S s x) G := by
  obtain ⟨h1, h2⟩ := hO.goh h0 hs
  have : kGo S s x = kCl S s x := if_neg h2
  exact ⟨this, by rw [← this]; exact h1⟩
theorem t156_2 (ho : o < 20) {ms : List zM} (hl3 : ms.length ≤ 3) : ∀ (rest : List zM) (i n : Nat) (S : zS) (M : Nat → Nat → Int32) (h : ag_H), ms.drop i = rest → i ≤ ms.length → OW S (rest.map hp2 ++ G) → (0, 0) ∈ G → (∀ m ∈ rest, m.1 < 2) → TA A M h → RV S.1 M → RG S M → OL M o ms →
    ∃ h' M', g156 (ag_run gT (d + 3)) (n + rest.length + 1) (some 230) (nI o) (nI i) h = some (.inl none, h') ∧ TA A M' h' ∧ RV (kClA S rest).1 M' ∧ RG (kClA S rest) M' ∧ M' 255 o = nI 0 ∧ FO o M M' := by
  intro rest
  induction rest with
  | nil =>
    intro i n S M h hd hi hO h0 hv hT hV hG hOL
    have := List.drop_eq_nil_iff.mp hd
    have T1 := hT.sx (a := 255) (c := 100) (i := o) rfl (nI 0)
    refine ⟨_, _, ?_, T1, hV.rows fun b y z1 z2 => up2_na (by omega), hG.congr (up2_na (by decide)) (up2_na (by decide)) (fun y => up2_na (by decide)) (fun y => up2_na (by decide)), up2_eq _ _ _ _, fun b y z1 z2 z3 z4 => up2_ne (by omega)⟩
    show f156_2 _ _ _ _ _ _ = _
    unfold f156_2
    rw [hT.rR (k := 31) (b := 255) rfl rfl, hT.rx (a := 255) (c := 100) (i := o) rfl (show o < 20 from ho), hOL.1, if_pos (nI_le (by omega) (by omega)), hT.rR (k := 31) (b := 255) rfl rfl, lit_0, hT.wx (a := 255) (c := 100) (i := o) rfl (show o < 20 from ho)]
  | cons m rest ih =>
    intro i n S M h hd hi hO h0 hv hT hV hG hOL
    have hil : i < ms.length := by
      rcases Nat.lt_or_ge i ms.length with h1 | h1
      · exact h1
      · rw [List.drop_eq_nil_of_le h1] at hd; cases hd
    have hdr := drop_gM hil
    rw [hd] at hdr
    injection hdr with hm hrest
    have v1 := hv m (by simp)
    have v3 := hO.lt (h := m.2.1) v1 (by simp [hp2])
    obtain ⟨a1, a2⟩ := hOL.2 i hil
    rw [← hm] at a1 a2
    obtain ⟨k1, k2⟩ := kGo_cl (s := m.1) (x := m.2.1) (G := rest.map hp2 ++ G) hO (by simp [h0]) v1
    obtain ⟨h1, M1, e1, T1, V1, G1, F1⟩ := hT.t132 (d := d) hV hG v1 v3
    rw [k1] at V1 G1
    obtain ⟨h2, M2, e2, T2, V2, G2, q2, F2⟩ := ih (i + 1) n (kCl S m.1 m.2.1) M1 h1 hrest.symm (by omega) k2 h0 (fun m' h' => hv m' (by simp [h'])) T1 V1 G1 (hOL.fx F1.w)
    refine ⟨h2, M2, ?_, T2, V2, G2, q2, F1.w.o.trans F2⟩
    rw [show n + (m :: rest).length + 1 = (n + rest.length + 1) + 1 by simp; omega]
    show f156_2 _ _ _ _ _ _ = _
    unfold f156_2
    rw [hT.rR (k := 31) (b := 255) rfl rfl, hT.rx (a := 255) (c := 100) (i := o) rfl (show o < 20 from ho), hOL.1, if_neg (nI_ge hil (by omega)), hT.rR (k := 33) (b := 257) rfl rfl, lit_3, lit_1, nI_mul, nI_add, hT.rx (a := 257) (c := 100) (i := 3 * o + i) rfl (show 3 * o + i < 60 by omega), a1, hT.rR (k := 34) (b := 258) rfl rfl, hT.rx (a := 258) (c := 100) (i := 3 * o + i) rfl (show 3 * o + i < 60 by omega), a2, hT.ra, e1, b_V, nI_add]
    exact e2
theorem TA.t156 (hT : TA A M h) (ho : o < 20) {ms : List zM} (hl3 : ms.length ≤ 3) (hO : OW S (ms.map hp2 ++ G)) (h0 : (0, 0) ∈ G) (hv : ∀ m ∈ ms, m.1 < 2) (hV : RV S.1 M) (hG : RG S M) (hOL : OL M o ms) : ∃ h' M', ag_run gT (d + 4) 156 [.inr (some 230), .inl (nI o)] h = some (.inl none, h') ∧ TA A M' h' ∧ RV (kClA S ms).1 M' ∧ RG (kClA S ms) M' ∧ M' 255 o = nI 0 ∧ FO o M M' := by
  obtain ⟨h1, M1, e1, r1⟩ := t156_2 (d := d) ho hl3 ms 0 (3999 - ms.length) S M h rfl (by omega) hO h0 hv hT hV hG hOL
  refine ⟨h1, M1, ?_, r1⟩
  rw [r156]
  unfold f156
  rw [lit_0]
  rw [show 3999 - ms.length + ms.length + 1 = 4000 by omega] at e1
  exact e1
theorem TA.t157n (hT : TA A M h) (hR : RR S P Q O X M) (hB : OB O) {v w : Int32} (hn : noP Q v ∨ ∃ p j, isP Q v p j ∧ noF O p w) : ∃ h' M', ag_run gT (d + 7) 157 [.inr (some 230), .inl v, .inl w] h = some (.inl (some (.inl (nI 0))), h') ∧ TA A M' h' ∧ RR S P Q O X M' ∧ M' 230 41 = nI 1 := by
  have T1 := hT.thr1 1
  refine ⟨_, _, ?_, T1, hR.z hB (FZ.up (by decide)), up2_eq _ _ _ _⟩
  rw [r157]
  unfold f157 f157_15
  rw [hT.ra, hT.t145n (d := d + 4) hR.2.2.2.1 hR.2.2.2.2.1 hn, b_I, lit_0, lit_1, if_pos rfl, hT.wI (k := 41) rfl, T1.rI (k := 41) rfl, up2_eq, if_neg (by decide)]
theorem OB.cl (hB : OB O) (p f : Nat) (u : zO) : OB (up2 O p f (false, u)) := fun p' f' hp' hf' hu => by
  by_cases e : p' = p ∧ f' = f
  · rw [e.1, e.2, up2_eq] at hu; cases hu
  · rw [up2_ne e] at hu ⊢; exact hB p' f' hp' hf' hu
theorem TA.t157 (hT : TA A M h) (hR : RR S P Q O X M) (hB : OB O) {v w : Int32} (hp9 : isP Q v p j) (hf : isF O p w f) (hO : OW S ((O p f).2.1.map hp2 ++ G)) (h0 : (0, 0) ∈ G) (hv : ∀ m ∈ (O p f).2.1, m.1 < 2) : ∃ h' M', ag_run gT (d + 7) 157 [.inr (some 230), .inl v, .inl w] h = some (.inl (some (.inl (nI (nop (up2 O p f (false, (O p f).2)) p)))), h') ∧ TA A M' h' ∧ RR (kClA S (O p f).2.1) P Q (up2 O p f (false, (O p f).2)) X M' ∧ M' 230 41 = nI 0 := by
  have e := hT.t145 (d := d + 4) hR.2.2.2.1 hR.2.2.2.2.1 hB hp9 hf
  obtain ⟨hp4, rfl, hq⟩ := hp9
  obtain ⟨f5, rfl, hu⟩ := hf
  obtain ⟨u1, -⟩ := (hR.2.2.2.2.1 p f hp4 f5).2 hu
  obtain ⟨b1, b2⟩ := hB p f hp4 f5 hu
  have T1 := hT.thr1 0
  have R1 := hR.z hB (FZ.up (M := M) (k := 41) (v := nI 0) (by decide))
  have L1 : OL (up2 M 230 41 (nI 0)) (5 * p + f) (O p f).2.1 := ⟨by rw [up2_na (by decide)]; exact u1.1, fun i hi => ⟨by rw [up2_na (by decide)]; exact (u1.2 i hi).1, by rw [up2_na (by decide)]; exact (u1.2 i hi).2⟩⟩
  obtain ⟨h2, M2, e2, T2, V2, G2, q2, F2⟩ := T1.t156 (d := d + 2) (o := 5 * p + f) (by omega) b1 hO h0 hv R1.1 R1.2.1 L1
  have hB2 := hB.cl p f (O p f).2
  have R2 : RR (kClA S (O p f).2.1) P Q (up2 O p f (false, (O p f).2)) X M2 := R1.ow hB F2 V2 G2 (R1.2.2.2.2.1.row hB hp4 f5 F2 ⟨fun _ => q2, fun h => by cases h⟩)
  have e3 := T2.t146 (d := d + 5) R2.2.2.2.2.1 hB2 hp4
  refine ⟨h2, M2, ?_, T2, R2, by rw [F2 _ _ (by decide) (by decide) (by omega) (by omega), up2_eq]⟩
  rw [r157]
  unfold f157 f157_15
  rw [hT.ra, e, b_I, lit_0, if_neg (by decide), hT.wI (k := 41) rfl, T1.rI (k := 41) rfl, up2_eq, if_pos rfl, T1.ra, lit_5, nI_mul, nI_add, e2, b_V, T2.ra, e3, b_I]
/-- remove -/
theorem TA.t158n (hT : TA A M h) (hR : RR S P Q O X M) (hB : OB O) {v : Int32} (hn : noP Q v) : ∃ h' M', ag_run gT (d + 7) 158 [.inr (some 230), .inl v] h = some (.inl (some (.inl (nI 0))), h') ∧ TA A M' h' ∧ RR S P Q O X M' ∧ M' 230 41 = nI 1 := by
  refine ⟨_, _, ?_, hT.thr1 1, hR.z hB (FZ.up (by decide)), up2_eq _ _ _ _⟩
  rw [r158]
  unfold f158
  rw [hT.ra, hT.t144n (d := d + 5) hR.2.2.2.1 hn, b_I, lit_0, lit_1, if_pos rfl, hT.wI (k := 41) rfl]
theorem t158_e (hT : TA A M h) (hR : RR S P Q O X M) (hB : OB O) {k : Nat} (hk : k < 5) (v : Int32) : ∃ h' M', f158_121 (ag_run gT (d + 6)) (some 230) (nI k) v h = some (.inl (some (.inl (if cdI k 2 3 0 = 0 then v else nI 0))), h') ∧ TA A M' h' ∧ RR S P Q O X M' ∧ M' 230 41 = nI (cdI k 2 3 0) := by
  obtain ⟨h1, e1, T1⟩ := hT.t149 (d := d + 5) hk 2 3 0
  refine ⟨h1, _, ?_, T1, hR.z hB (FZ.up (by decide)), up2_eq _ _ _ _⟩
  unfold f158_121 f158_138
  rw [hT.ra, lit_3, lit_0, lit_2, e1, b_I]
  have : k = 0 ∨ k = 1 ∨ k = 2 ∨ k = 3 ∨ k = 4 := by omega
  rcases this with rfl | rfl | rfl | rfl | rfl <;> rfl
theorem t158_s (hT : TA A M h) (hR : RR S P Q O X M) (hB : OB O) {v : Int32} (hp9 : isP Q v p j) : ∃ h2 M2, TA A M2 h2 ∧ RR S P Q O ([], []) M2 ∧ (∀ ns, pth X.1 = some ns → NM ns M2) ∧ (pth X.1 = none → ag_run gT (d + 7) 158 [.inr (some 230), .inl v] h = f158_53 (ag_run gT (d + 6)) (some 230) (nI 4) h2) ∧ ∀ ns, pth X.1 = some ns → ag_run gT (d + 7) 158 [.inr (some 230), .inl v] h = (if nI ns.length = nI 0 then f158_53 (ag_run gT (d + 6)) (some 230) (nI 2) h2 else ag_bI (ag_run gT (d + 6) 141 [.inr (some 230), .inl v, .inl (nI ns.length)] h2) fun x13 h12 => f158_53 (ag_run gT (d + 6)) (some 230) x13 h12) := by
  obtain ⟨h1, M1, h2, M2, e1, T1, e2, T2, R2, N2⟩ := hT.pp (d := d + 4) hR hB
  rw [r158]
  unfold f158
  rw [hT.ra, hT.t144 (d := d + 5) hR.2.2.2.1 hp9, b_I, lit_0, lit_2, lit_4, if_neg (by decide), hT.ra, e1, b_I, T1.ra, e2, b_V]
  refine ⟨h2, M2, T2, R2, N2, fun hno => ?_, fun ns hns => ?_⟩
  · rw [hno, if_pos (show bI (none : Option (List Nat)).isSome = nI 0 from rfl)]
  · rw [hns, if_neg (show ¬ bI (some ns).isSome = nI 0 from (show ¬ bI true = nI 0 by decide)), T2.rI (k := 4) rfl, (N2 ns hns).1, T2.rI (k := 4) rfl, (N2 ns hns).1, T2.ra]
theorem TA.t158a (hT : TA A M h) (hR : RR S P Q O X M) (hB : OB O) {v : Int32} (hp9 : isP Q v p j) (ha : pth X.1 = none) : ∃ h' M', ag_run gT (d + 7) 158 [.inr (some 230), .inl v] h = some (.inl (some (.inl (nI 0))), h') ∧ TA A M' h' ∧ RR S P Q O ([], []) M' ∧ M' 230 41 = nI 1 := by
  obtain ⟨h2, M2, T2, R2, N2, st, -⟩ := t158_s (d := d) hT hR hB hp9
  rw [st ha]
  unfold f158_53
  rw [lit_0, if_neg (show ¬ nI 4 = nI 0 by decide)]
  exact t158_e (d := d) T2 R2 hB (k := 4) (by decide) _
theorem TA.t158c (hT : TA A M h) (hR : RR S P Q O X M) (hB : OB O) {v : Int32} (hp9 : isP Q v p j) (hns : pth X.1 = some []) : ∃ h' M', ag_run gT (d + 7) 158 [.inr (some 230), .inl v] h = some (.inl (some (.inl (nI 0))), h') ∧ TA A M' h' ∧ RR S P Q O ([], []) M' ∧ M' 230 41 = nI 3 := by
  obtain ⟨h2, M2, T2, R2, N2, -, st⟩ := t158_s (d := d) hT hR hB hp9
  rw [st [] hns, if_pos (show nI ([] : List Nat).length = nI 0 from rfl)]
  unfold f158_53
  rw [lit_0, if_neg (show ¬ nI 2 = nI 0 by decide)]
  exact t158_e (d := d) T2 R2 hB (k := 2) (by decide) _
theorem wcd_ne (e : Nat) : ¬ nI (wcd (Sum.inl e : Nat ⊕ zW)) = nI 0 ∧ wcd (Sum.inl e : Nat ⊕ zW) < 5 ∧ cdI (wcd (Sum.inl e : Nat ⊕ zW)) 2 3 0 = (if e = 100 then 3 else 2) ∧ cdI (wcd (Sum.inl e : Nat ⊕ zW)) 3 4 2 = (if e = 100 then 4 else 3) := by
  by_cases h : e = 100
  · subst h; decide
  · have : wcd (Sum.inl e : Nat ⊕ zW) = 1 := if_neg h
    rw [this, if_neg h, if_neg h]; decide
def rmV (g : Nat) (x : Nat ⊕ Nat) : Int32 := match x with
  | .inl _ => nI 0
  | .inr _ => nI g
theorem TA.t158 (hT : TA A M h) (hR : RR S P Q O X M) (hB : OB O) (hPB : PB P) {v : Int32} (hp9 : isP Q v p j) {ns : List Nat} (hns : pth X.1 = some ns) (hnp : 0 < ns.length) (h0 : (0, 0) ∈ F) (hl : F.length + 4 < 128) (hP : PM P j F) (hO : OW S F) (hW : WK S bgn) :
    (∀ e, (kWk P j ns S bgn).2 = .inl e → ∃ h' M', ag_run gT (d + 7) 158 [.inr (some 230), .inl v] h = some (.inl (some (.inl (nI 0))), h') ∧ TA A M' h' ∧ RR (kWk P j ns S bgn).1 P Q O ([], []) M' ∧ M' 230 41 = nI (if e = 100 then 3 else 2)) ∧
    ∀ w', (kWk P j ns S bgn).2 = .inr w' → ∀ T, (kWk P j ns S bgn).1 = T → ∃ h' M', ag_run gT (d + 7) 158 [.inr (some 230), .inl v] h = some (.inl (some (.inl (rmV w'.2.2.1 (oRM (T.1 w'.1) w'.2.1)))), h') ∧ TA A M' h' ∧ RR (kRM T w'.1 w'.2.1) P Q O ([], []) M' ∧ M' 230 41 = nI (3 * wrT (oRM (T.1 w'.1) w'.2.1)) := by
  obtain ⟨h2, M2, T2, R2, N2, -, st⟩ := t158_s (d := d) hT hR hB hp9
  obtain ⟨hp4, rfl, hq⟩ := hp9
  have hn12 := (N2 ns hns).2.1
  obtain ⟨h3, M3, e3, T3, V3, G3, W3, F3⟩ := T2.t141 (d := d + 2) (u := ns.length) (Nat.le_refl _) hPB hp4 hq h0 (by omega) hP hO hW R2.1 R2.2.1 R2.2.2.1 R2.2.2.2.1 (N2 ns hns)
  rw [List.take_length] at e3 V3 G3 W3
  obtain ⟨o1, o2⟩ := OW.wk h0 (by omega) hP ns S bgn hO hW
  have R3 : RR (kWk P j ns S bgn).1 P Q O ([], []) M3 := R2.w hB F3 V3 G3
  rw [st ns hns, if_neg (by rw [nI_eq (by omega) (by omega)]; omega), e3, b_I]
  rcases hx : kWk P j ns S bgn with ⟨S1, r⟩
  rw [hx] at W3 o1 o2 R3
  cases r with
  | inl e =>
    obtain ⟨w1, w2, w3, w4⟩ := wcd_ne e
    refine ⟨fun e' he' => ?_, fun w' h9 => by cases h9⟩
    cases he'
    obtain ⟨h4, M4, e4, T4, R4, q4⟩ := t158_e (d := d) T3 R3 hB w2 (nI 0)
    rw [w3] at q4
    refine ⟨h4, M4, ?_, T4, R4, q4⟩
    unfold f158_53
    rw [lit_0, if_neg w1]
    refine e4.trans ?_
    split <;> rfl
  | inr w' =>
    refine ⟨fun e' he' => (by cases he'), fun w9 h9 T hT9 => ?_⟩
    cases h9
    have hT9 : S1 = T := hT9
    subst hT9
    obtain ⟨O1, K1, -⟩ := o2 w' rfl
    obtain ⟨g8, g9⟩ := W3 w' rfl
    have hx8 := O1.lt K1.1 (fl_mem h0)
    obtain ⟨h4, M4, e4, T4, V4, G4, q4, F4⟩ := T3.t133 (d := d + 3) R3.1 K1.1 O1.1 hx8 K1.2.1
    have R4 : RR (kRM S1 w'.1 w'.2.1) P Q O ([], []) M4 := R3.w hB F4.w V4 G4
    have hst := (R3.1 w'.1 K1.1).2.2.2.2 w'.2.1 (by omega)
    rw [K1.2.1] at hst
    have hst : M3 242 (200 * w'.1 + w'.2.1) = nI (w'.2.2.1 + 1) := hst
    have h12 := K1.1
    show ∃ h' M', f158_53 (ag_run gT (d + 6)) (some 230) (nI 0) h3 = _ ∧ _
    unfold f158_53 f158_120
    rw [lit_0, lit_1, lit_2, lit8_112, lit16_200, if_pos rfl, T3.rR (k := 14) (b := 242) rfl rfl, T3.rI (k := 38) rfl, g8, T3.rI (k := 39) rfl, g9, nI_mul, nI_add, T3.rx (a := 242) (c := 100) (i := 200 * w'.1 + w'.2.1) rfl (show 200 * w'.1 + w'.2.1 < 400 by omega), hst, T3.rI (k := 38) rfl, g8, T3.rI (k := 39) rfl, g9, T3.ra, e4, b_V, T4.rI (k := 20) rfl, q4, nI_sub (by omega), Nat.add_sub_cancel, T4.rI (k := 20) rfl, q4]
    cases hop : oRM (S1.1 w'.1) w'.2.1 with
    | inl e =>
      -- the file that was walked to is there
      have he : e = 112 := by
        unfold oRM at hop
        rw [K1.2.1] at hop
        dsimp only at hop
        rw [K1.2.2.2] at hop
        dsimp only [cond_true] at hop
        cases h2' : (Nat.beq w'.2.2.1 0 || (vls (S1.1 w'.1) w'.2.2.1 0).isSome)
        · rw [h2'] at hop; cases hop
        · rw [h2'] at hop; cases hop; rfl
      subst he
      rw [if_neg (show ¬ eI (Sum.inl 112 : Nat ⊕ Nat) = nI 0 by decide), if_pos (show eI (Sum.inl 112 : Nat ⊕ Nat) = nI 112 from rfl)]
      exact t158_e (d := d) T4 R4 hB (k := 2) (by decide) _
    | inr i =>
      rw [if_pos (show eI (Sum.inr i : Nat ⊕ Nat) = nI 0 from rfl)]
      exact t158_e (d := d) T4 R4 hB (k := 0) (by decide) _
/-- stat -/
theorem TA.t159n (hT : TA A M h) (hR : RR S P Q O X M) (hB : OB O) {v : Int32} (hn : noP Q v) : ∃ h' M', ag_run gT (d + 7) 159 [.inr (some 230), .inl v] h = some (.inl (some (.inl (nI 0))), h') ∧ TA A M' h' ∧ RR S P Q O X M' ∧ M' 230 41 = nI 1 := by
  refine ⟨_, _, ?_, hT.thr1 1, hR.z hB (FZ.up (by decide)), up2_eq _ _ _ _⟩
  rw [r159]
  unfold f159
  rw [hT.ra, hT.t144n (d := d + 5) hR.2.2.2.1 hn, b_I, lit_0, lit_1, if_pos rfl, hT.wI (k := 41) rfl]
theorem t159_e (hT : TA A M h) (hR : RR S P Q O X M) (hB : OB O) {k : Nat} (hk : k < 5) (v : Int32) : ∃ h' M', f159_132 (ag_run gT (d + 6)) (some 230) (nI k) v h = some (.inl (some (.inl (if cdI k 2 3 0 = 0 then v else nI 0))), h') ∧ TA A M' h' ∧ RR S P Q O X M' ∧ M' 230 41 = nI (cdI k 2 3 0) := by
  obtain ⟨h1, e1, T1⟩ := hT.t149 (d := d + 5) hk 2 3 0
  refine ⟨h1, _, ?_, T1, hR.z hB (FZ.up (by decide)), up2_eq _ _ _ _⟩
  unfold f159_132 f159_149
  rw [hT.ra, lit_3, lit_0, lit_2, e1, b_I]
  have : k = 0 ∨ k = 1 ∨ k = 2 ∨ k = 3 ∨ k = 4 := by omega
  rcases this with rfl | rfl | rfl | rfl | rfl <;> rfl
theorem t159_s (hT : TA A M h) (hR : RR S P Q O X M) (hB : OB O) {v : Int32} (hp9 : isP Q v p j) : ∃ h2 M2, TA A M2 h2 ∧ RR S P Q O ([], []) M2 ∧ (∀ ns, pth X.1 = some ns → NM ns M2) ∧ (pth X.1 = none → ag_run gT (d + 7) 159 [.inr (some 230), .inl v] h = f159_42 (ag_run gT (d + 6)) (some 230) (nI 4) h2) ∧ ∀ ns, pth X.1 = some ns → ag_run gT (d + 7) 159 [.inr (some 230), .inl v] h = (ag_bI (ag_run gT (d + 6) 141 [.inr (some 230), .inl v, .inl (nI ns.length)] h2) fun x13 h12 => f159_42 (ag_run gT (d + 6)) (some 230) x13 h12) := by
  obtain ⟨h1, M1, h2, M2, e1, T1, e2, T2, R2, N2⟩ := hT.pp (d := d + 4) hR hB
  rw [r159]
  unfold f159
  rw [hT.ra, hT.t144 (d := d + 5) hR.2.2.2.1 hp9, b_I, lit_0, lit_4, if_neg (by decide), hT.ra, e1, b_I, T1.ra, e2, b_V]
  refine ⟨h2, M2, T2, R2, N2, fun hno => ?_, fun ns hns => ?_⟩
  · rw [hno, if_pos (show bI (none : Option (List Nat)).isSome = nI 0 from rfl)]
  · rw [hns, if_neg (show ¬ bI (some ns).isSome = nI 0 from (show ¬ bI true = nI 0 by decide)), T2.rI (k := 4) rfl, (N2 ns hns).1, T2.ra]
theorem TA.t159a (hT : TA A M h) (hR : RR S P Q O X M) (hB : OB O) {v : Int32} (hp9 : isP Q v p j) (ha : pth X.1 = none) : ∃ h' M', ag_run gT (d + 7) 159 [.inr (some 230), .inl v] h = some (.inl (some (.inl (nI 0))), h') ∧ TA A M' h' ∧ RR S P Q O ([], []) M' ∧ M' 230 41 = nI 1 := by
  obtain ⟨h2, M2, T2, R2, N2, st, -⟩ := t159_s (d := d) hT hR hB hp9
  rw [st ha]
  unfold f159_42
  rw [lit_0, if_neg (show ¬ nI 4 = nI 0 by decide)]
  exact t159_e (d := d) T2 R2 hB (k := 4) (by decide) _
theorem TA.t159 (hT : TA A M h) (hR : RR S P Q O X M) (hB : OB O) (hPB : PB P) {v : Int32} (hp9 : isP Q v p j) {ns : List Nat} (hns : pth X.1 = some ns) (h0 : (0, 0) ∈ F) (hl : F.length + 4 < 128) (hP : PM P j F) (hO : OW S F) (hW : WK S bgn) :
    (∀ e, (kWk P j ns S bgn).2 = .inl e → ∃ h' M', ag_run gT (d + 7) 159 [.inr (some 230), .inl v] h = some (.inl (some (.inl (nI 0))), h') ∧ TA A M' h' ∧ RR (kWk P j ns S bgn).1 P Q O ([], []) M' ∧ M' 230 41 = nI (if e = 100 then 3 else 2)) ∧
    ∀ w', (kWk P j ns S bgn).2 = .inr w' → ∀ T, (kWk P j ns S bgn).1 = T → ∃ h' M', ag_run gT (d + 7) 159 [.inr (some 230), .inl v] h = some (.inl (some (.inl (stV w'))), h') ∧ TA A M' h' ∧ RR (kGo (kSt T w'.1 w'.2.1) w'.1 w'.2.1) P Q O ([], []) M' ∧ M' 230 41 = nI 0 := by
  obtain ⟨h2, M2, T2, R2, N2, -, st⟩ := t159_s (d := d) hT hR hB hp9
  obtain ⟨hp4, rfl, hq⟩ := hp9
  have hn12 := (N2 ns hns).2.1
  obtain ⟨h3, M3, e3, T3, V3, G3, W3, F3⟩ := T2.t141 (d := d + 2) (u := ns.length) (Nat.le_refl _) hPB hp4 hq h0 (by omega) hP hO hW R2.1 R2.2.1 R2.2.2.1 R2.2.2.2.1 (N2 ns hns)
  rw [List.take_length] at e3 V3 G3 W3
  obtain ⟨o1, o2⟩ := OW.wk h0 (by omega) hP ns S bgn hO hW
  have R3 : RR (kWk P j ns S bgn).1 P Q O ([], []) M3 := R2.w hB F3 V3 G3
  rw [st ns hns, e3, b_I]
  rcases hx : kWk P j ns S bgn with ⟨S1, r⟩
  rw [hx] at W3 o1 o2 R3
  cases r with
  | inl e =>
    obtain ⟨w1, w2, w3, w4⟩ := wcd_ne e
    refine ⟨fun e' he' => ?_, fun w' h9 => by cases h9⟩
    cases he'
    obtain ⟨h4, M4, e4, T4, R4, q4⟩ := t159_e (d := d) T3 R3 hB w2 (nI 0)
    rw [w3] at q4
    refine ⟨h4, M4, ?_, T4, R4, q4⟩
    unfold f159_42
    rw [lit_0, if_neg w1]
    refine e4.trans ?_
    split <;> rfl
  | inr w' =>
    refine ⟨fun e' he' => (by cases he'), fun w9 h9 T hT9 => ?_⟩
    cases h9
    have hT9 : S1 = T := hT9
    subst hT9
    obtain ⟨O1, K1, -⟩ := o2 w' rfl
    obtain ⟨g8, g9⟩ := W3 w' rfl
    have hx8 := O1.lt K1.1 (fl_mem h0)
    have hVW := O1.1 w'.1 K1.1
    have hi1 := hVW.2.2.2.1 _ _ K1.2.1
    have hi3 : w'.2.2.1 < 300 := by have := hVW.2.1; omega
    have h12 := K1.1
    obtain ⟨h4, M4, e4, T4, V4, G4, q4, F4⟩ := T3.t134 (d := d + 3) R3.1 K1.1 hVW hx8 K1.2.1
    rw [oST_ok K1] at q4
    have q4 : M4 230 20 = nI 0 := q4
    have g84 : M4 230 38 = nI w'.1 := by rw [F4 _ _ (by decide) (by decide)]; exact g8
    have g94 : M4 230 39 = nI w'.2.1 := by rw [F4 _ _ (by decide) (by decide)]; exact g9
    have sfs := SF.sta S1 w'.1 w'.2.1 w'.1
    have hst4 : ((kSt S1 w'.1 w'.2.1).1 w'.1).2.2.1 w'.2.1 = some w'.2.2.1 := by
      show (up1 S1.1 w'.1 (inc (S1.1 w'.1)) w'.1).2.2.1 w'.2.1 = _
      rw [up1_eq]; exact K1.2.1
    have hst := (V4 w'.1 K1.1).2.2.2.2 w'.2.1 (by omega)
    rw [hst4] at hst
    have hst : M4 242 (200 * w'.1 + w'.2.1) = nI (w'.2.2.1 + 1) := hst
    have e5 := T4.t142 (d := d + 4) V4 g84 g94 K1.1 (by omega) hst4 (by rw [sfs.1]; exact hi1) hi3
    rw [sfs.2, ← K1.2.2.1] at e5
    obtain ⟨h6, M6, e6, T6, V6, G6, F6⟩ := T4.t132 (d := d + 3) V4 G4 K1.1 hx8
    have R6 : RR (kGo (kSt S1 w'.1 w'.2.1) w'.1 w'.2.1) P Q O ([], []) M6 := R3.w hB (F4.w.trans F6.w) V6 G6
    obtain ⟨h7, M7, e7, T7, R7, q7⟩ := t159_e (d := d) T6 R6 hB (k := 0) (by decide) (stV w')
    refine ⟨h7, M7, ?_, T7, R7, q7⟩
    show f159_42 (ag_run gT (d + 6)) (some 230) (nI 0) h3 = _
    unfold f159_42 f159_104 f159_119
    rw [lit_0, lit_1, lit_2, lit8_100, lit16_200, if_pos rfl, T3.rI (k := 38) rfl, g8, T3.rI (k := 39) rfl, g9, T3.ra, e4, b_V, T4.rI (k := 38) rfl, g84, T4.rR (k := 14) (b := 242) rfl rfl, T4.rI (k := 38) rfl, g84, T4.rI (k := 39) rfl, g94, nI_mul, nI_add, T4.rx (a := 242) (c := 100) (i := 200 * w'.1 + w'.2.1) rfl (show 200 * w'.1 + w'.2.1 < 400 by omega), hst, T4.ra, e5, b_I, nI_sub (by omega), Nat.add_sub_cancel]
    have e8 : f159_132 (ag_run gT (d + 6)) (some 230) (nI 0) (nI 100 * nI w'.1 + nI 2 * nI w'.2.2.1 + bI w'.2.2.2) h6 = some (.inl (some (.inl (stV w'))), h7) := e7
    cases hd : w'.2.2.2
    · rw [hd] at e8
      rw [if_pos (show bI false = nI 0 from rfl), T4.rI (k := 20) rfl, q4, if_pos rfl, T4.rI (k := 38) rfl, g84, T4.rI (k := 39) rfl, g94, T4.ra, e6, b_V]
      exact e8
    · rw [hd] at e8
      rw [if_neg (show ¬ bI true = nI 0 by decide), T4.rI (k := 20) rfl, q4, if_pos rfl, T4.rI (k := 38) rfl, g84, T4.rI (k := 39) rfl, g94, T4.ra, e6, b_V]
      exact e8
end RCL

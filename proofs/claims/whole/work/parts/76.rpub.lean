/-! THE REFERENCE'S METHODS: open -/
def RR (S : zS) (P : Nat → List zP) (Q : Nat → Option Nat) (O : Nat → Nat → zU) (X : List Nat × List Nat) (M : Nat → Nat → Int32) : Prop := RV S.1 M ∧ RG S M ∧ RP P M ∧ RQ Q M ∧ RO O M ∧ RX X M
def FZ (M M' : Nat → Nat → Int32) : Prop := ∀ b j, b ≠ 233 → ¬ (b = 230 ∧ (j = 4 ∨ j = 41 ∨ j = 38 ∨ j = 39 ∨ j = 20 ∨ j = 21 ∨ j = 40)) → M' b j = M b j
theorem FP.z {M M' : Nat → Nat → Int32} (h : FP M M') : FZ M M' := fun b j z1 z2 => h b j z1 (by omega)
theorem FZ.up {M : Nat → Nat → Int32} {k : Nat} {v : Int32} (hk : k = 4 ∨ k = 41 ∨ k = 38 ∨ k = 39 ∨ k = 20 ∨ k = 21 ∨ k = 40) : FZ M (up2 M 230 k v) := fun b j z1 z2 => up2_ne (by omega)
section RPUB
variable {A : zA} {M M' : Nat → Nat → Int32} {h : ag_H} {d s x i p f j o : Nat} {S S' : zS} {P : Nat → List zP} {Q : Nat → Option Nat} {O : Nat → Nat → zU} {F L G : List (Nat × Nat)} {W : zW} {X : List Nat × List Nat}
theorem RR.z (hR : RR S P Q O X M) (hB : OB O) (hF : FZ M M') : RR S P Q O X M' := by
  obtain ⟨a, b, c, e, f, g⟩ := hR
  exact ⟨a.rows fun b y h1 h2 => hF b y (by omega) (by omega), b.congr (hF _ _ (by decide) (by decide)) (hF _ _ (by decide) (by decide)) (fun y => hF _ _ (by decide) (by omega)) (fun y => hF _ _ (by decide) (by omega)), c.congr fun b y h1 h2 => hF b y (by omega) (by omega), e.congr (fun y => hF _ _ (by decide) (by omega)) (fun y => hF _ _ (by decide) (by omega)), f.congr hB fun b y h1 h2 => hF b y (by omega) (by omega), g.congr (hF _ _ (by decide) (by decide)) (hF _ _ (by decide) (by decide)) (fun y => hF _ _ (by decide) (by omega)) (fun y => hF _ _ (by decide) (by omega))⟩
theorem RR.w (hR : RR S P Q O X M) (hB : OB O) (hF : FX M M') (hV : RV S'.1 M') (hG : RG S' M') : RR S' P Q O X M' := by
  obtain ⟨a, b, c, e, f, g⟩ := hR
  exact ⟨hV, hG, c.fw hF, e.fw hF, f.fw hB hF, g.fw hF⟩
theorem RO.row (hO : RO O M) (hB : OB O) (hp9 : p < 4) (hf : f < 5) (hF : FO (5 * p + f) M M') {u : zU} (hU : RU M' (5 * p + f) u) : RO (up2 O p f u) M' := fun p' f' hp' hf' => by
  by_cases e : p' = p ∧ f' = f
  · obtain ⟨rfl, rfl⟩ := e; rw [up2_eq]; exact hU
  · rw [up2_ne e]
    have ne : 5 * p' + f' ≠ 5 * p + f := by omega
    exact (hO p' f' hp' hf').congr (fun h => (hB p' f' hp' hf' h).1) (fun b h1 h2 h3 h4 => hF _ _ (by omega) (by omega) (by omega) (by omega)) (fun y h1 h2 => ⟨hF _ _ (by omega) (by omega) (by omega) (by omega), hF _ _ (by omega) (by omega) (by omega) (by omega)⟩)
theorem RO.rown (hO : RO O M) (hB : OB O) (hp9 : p < 4) (hf : f < 5) (hF : FO (5 * p + f) M M') (hu : (O p f).1 = false) (h5 : M' 255 (5 * p + f) = nI 0) : RO O M' := by
  have := hO.row hB hp9 hf hF (u := O p f) ⟨fun _ => h5, fun h => by rw [hu] at h; cases h⟩
  have e : up2 O p f (O p f) = O := by
    funext b i
    by_cases e : b = p ∧ i = f
    · obtain ⟨rfl, rfl⟩ := e; rw [up2_eq]
    · rw [up2_ne e]
  rw [e] at this
  exact this
theorem RR.ow (hR : RR S P Q O X M) (hB : OB O) (hF : FO o M M') (hV : RV S'.1 M') (hG : RG S' M') {O' : Nat → Nat → zU} (hO : RO O' M') : RR S' P Q O' X M' := by
  obtain ⟨a, b, c, e, f, g⟩ := hR
  exact ⟨hV, hG, c.congr fun b y h1 h2 => hF b y (by omega) (by omega) (by omega) (by omega), e.congr (fun y => hF _ _ (by decide) (by omega) (by omega) (by omega)) (fun y => hF _ _ (by decide) (by omega) (by omega) (by omega)), hO, g.congr (hF _ _ (by decide) (by decide) (by omega) (by omega)) (hF _ _ (by decide) (by decide) (by omega) (by omega)) (fun y => hF _ _ (by decide) (by omega) (by omega) (by omega)) (fun y => hF _ _ (by decide) (by omega) (by omega) (by omega))⟩
/-- texts are forgotten -/
theorem TA.fg (hT : TA A M h) (hR : RR S P Q O X M) (hB : OB O) : ∃ h' M', ag_run gT (d + 1) 139 [.inr (some 230)] h = some (.inl none, h') ∧ TA A M' h' ∧ RR S P Q O ([], []) M' ∧ ∀ b j, ¬ (b = 230 ∧ (j = 0 ∨ j = 2)) → M' b j = M b j := by
  obtain ⟨a, b, c, e, f, g⟩ := hR
  obtain ⟨h1, M1, e1, T1, X1, F1⟩ := hT.t139 (d := d) g
  exact ⟨h1, M1, e1, T1, ⟨a.rows fun b y h1 h2 => F1 b y (by omega), b.congr (F1 _ _ (by decide)) (F1 _ _ (by decide)) (fun y => F1 _ _ (by omega)) (fun y => F1 _ _ (by omega)), c.congr fun b y h1 h2 => F1 b y (by omega), e.congr (fun y => F1 _ _ (by omega)) (fun y => F1 _ _ (by omega)), f.congr hB fun b y h1 h2 => F1 b y (by omega), X1⟩, F1⟩
/-- the path is read, and the texts go -/
theorem TA.pp (hT : TA A M h) (hR : RR S P Q O X M) (hB : OB O) : ∃ h1 M1 h2 M2, ag_run gT (d + 2) 138 [.inr (some 230), .inl (nI 0)] h = some (.inl (some (.inl (bI (pth X.1).isSome))), h1) ∧ TA A M1 h1 ∧ ag_run gT (d + 2) 139 [.inr (some 230)] h1 = some (.inl none, h2) ∧ TA A M2 h2 ∧ RR S P Q O ([], []) M2 ∧ ∀ ns, pth X.1 = some ns → NM ns M2 := by
  obtain ⟨h1, M1, e1, T1, N1, F1⟩ := hT.t138 (d := d) hR.2.2.2.2.2 false
  obtain ⟨h2, M2, e2, T2, R2, F2⟩ := T1.fg (d := d + 1) (hR.z hB F1.z) hB
  exact ⟨h1, M1, h2, M2, e1, T1, e2, T2, R2, fun ns hns => (N1 ns hns).congr (F2 _ _ (by decide)) (fun y => F2 _ _ (by omega))⟩
theorem TA.thr1 (hT : TA A M h) (v : Nat) : TA A (up2 M 230 41 (nI v)) (hse h 230 41 (nI v)) := hT.sI (k := 41) rfl (nI v)
theorem TA.t151n (hT : TA A M h) (hR : RR S P Q O X M) (hB : OB O) {v w : Int32} (hn : noP Q v) : ∃ h' M', ag_run gT (d + 7) 151 [.inr (some 230), .inl v, .inl w] h = some (.inl (some (.inl (nI 0))), h') ∧ TA A M' h' ∧ RR S P Q O X M' ∧ M' 230 41 = nI 1 := by
  refine ⟨_, _, ?_, hT.thr1 1, hR.z hB (FZ.up (by decide)), up2_eq _ _ _ _⟩
  rw [r151]
  unfold f151
  rw [hT.ra, hT.t144n (d := d + 5) hR.2.2.2.1 hn, b_I, lit_0, lit_1, if_pos rfl, hT.wI (k := 41) rfl]
/-- the end of open and create -/
theorem t151_e (hT : TA A M h) (hR : RR S P Q O X M) (hB : OB O) {k : Nat} (hk : k < 5) (v : Int32) : ∃ h' M', f151_79 (ag_run gT (d + 6)) (some 230) v (nI k) h = some (.inl (some (.inl (if cdI k 3 4 2 = 0 then v else nI 0))), h') ∧ TA A M' h' ∧ RR S P Q O X M' ∧ M' 230 41 = nI (cdI k 3 4 2) := by
  obtain ⟨h1, e1, T1⟩ := hT.t149 (d := d + 5) hk 3 4 2
  refine ⟨h1, _, ?_, T1, hR.z hB (FZ.up (by decide)), up2_eq _ _ _ _⟩
  unfold f151_79 f151_99
  rw [hT.ra, lit_3, lit_4, lit_2, e1, b_I, lit_0]
  have : k = 0 ∨ k = 1 ∨ k = 2 ∨ k = 3 ∨ k = 4 := by omega
  rcases this with rfl | rfl | rfl | rfl | rfl <;> rfl
theorem isM_out {w : Int32} {m : Nat} (hm : isM w m) : decide (w < nI 0 ∨ ¬ w ≤ nI 2) = false := by
  obtain ⟨h3, rfl⟩ := hm
  refine decide_eq_false ?_
  rintro (h | h)
  · exact nI_nlt (by omega) (by omega) h
  · exact h (nI_le (by omega) (by omega))
theorem noM_out {w : Int32} (hm : noM w) : decide (w < nI 0 ∨ ¬ w ≤ nI 2) = true := by
  refine decide_eq_true ?_
  by_cases h1 : w < nI 0
  · exact Or.inl h1
  · refine Or.inr fun h2 => ?_
    obtain ⟨n, hn1, rfl⟩ := nI_of (show ¬ w < 0 from h1)
    exact hm n (by have := (nI_leI hn1 (by omega)).mp h2; omega) rfl
/-- up to the tests -/
theorem t151_s (hT : TA A M h) (hR : RR S P Q O X M) (hB : OB O) {v w : Int32} (hp9 : isP Q v p j) : ∃ h2 M2, TA A M2 h2 ∧ RR S P Q O ([], []) M2 ∧ (∀ ns, pth X.1 = some ns → NM ns M2) ∧ (pth X.1 = none ∨ noM w → ag_run gT (d + 7) 151 [.inr (some 230), .inl v, .inl w] h = f151_79 (ag_run gT (d + 6)) (some 230) (nI (lf5 (lfr O p))) (nI 4) h2) ∧ ∀ ns m, pth X.1 = some ns → isM w m → ag_run gT (d + 7) 151 [.inr (some 230), .inl v, .inl w] h = (if nI (lf5 (lfr O p)) = nI 5 then f151_79 (ag_run gT (d + 6)) (some 230) (nI (lf5 (lfr O p))) (nI 3) h2 else ag_at h2 (some 230) 11 fun a6 _ => ag_bI (ag_run gT (d + 6) 150 [.inr (some a6), .inl v, .inl (nI 5 * v + nI (lf5 (lfr O p))), .inl w] h2) fun x8 h7 => f151_79 (ag_run gT (d + 6)) (some 230) (nI (lf5 (lfr O p))) x8 h7) := by
  obtain ⟨h1, M1, h2, M2, e1, T1, e2, T2, R2, N2⟩ := hT.pp (d := d + 4) hR hB
  have e3 := T2.t147 (d := d + 5) R2.2.2.2.2.1 hB hp9.1
  have e147 : ag_run gT (d + 6) 147 [.inr (some 230), .inl v] h2 = some (.inl (some (.inl (nI (lf5 (lfr O p))))), h2) := by rw [hp9.2.1]; exact e3
  rw [r151]
  unfold f151 f151_36 f151_37
  rw [hT.ra, hT.t144 (d := d + 5) hR.2.2.2.1 hp9, b_I, lit_0, lit_1, lit_2, lit_3, lit_4, lit_5, if_neg (show ¬ nI 1 = nI 0 by decide), hT.ra, e1, b_I]
  refine ⟨h2, M2, T2, R2, N2, fun hno => ?_, fun ns m hns hm => ?_⟩
  · by_cases h1' : pth X.1 = none
    · rw [h1', if_pos (show bI (none : Option (List Nat)).isSome = nI 0 from rfl), T1.ra, e2, b_V, T2.ra, e147, b_I, if_pos rfl]
    · obtain ⟨ns, hns⟩ := Option.ne_none_iff_exists'.mp h1'
      rw [hns, if_neg (show ¬ bI (some ns).isSome = nI 0 from (show ¬ bI true = nI 0 by decide)), out3, b_I, noM_out (hno.resolve_left h1'), if_neg (show ¬ bI true = nI 0 by decide), T1.ra, e2, b_V, T2.ra, e147, b_I, if_pos rfl]
  · rw [hns, if_neg (show ¬ bI (some ns).isSome = nI 0 from (show ¬ bI true = nI 0 by decide)), out3, b_I, isM_out hm, if_pos (show bI false = nI 0 from rfl), T1.ra, e2, b_V, T2.ra, e147, b_I, if_neg (show ¬ nI 1 = nI 0 by decide)]
theorem TA.t151a (hT : TA A M h) (hR : RR S P Q O X M) (hB : OB O) {v w : Int32} (hp9 : isP Q v p j) (ha : pth X.1 = none ∨ noM w) : ∃ h' M', ag_run gT (d + 7) 151 [.inr (some 230), .inl v, .inl w] h = some (.inl (some (.inl (nI 0))), h') ∧ TA A M' h' ∧ RR S P Q O ([], []) M' ∧ M' 230 41 = nI 1 := by
  obtain ⟨h2, M2, T2, R2, N2, st, -⟩ := t151_s (d := d) (w := w) hT hR hB hp9
  rw [st ha]
  exact t151_e (d := d) T2 R2 hB (k := 4) (by decide) _
theorem TA.t151b (hT : TA A M h) (hR : RR S P Q O X M) (hB : OB O) {v w : Int32} (hp9 : isP Q v p j) {ns : List Nat} (hns : pth X.1 = some ns) {m : Nat} (hm : isM w m) (hf : lfr O p = none) : ∃ h' M', ag_run gT (d + 7) 151 [.inr (some 230), .inl v, .inl w] h = some (.inl (some (.inl (nI 0))), h') ∧ TA A M' h' ∧ RR S P Q O ([], []) M' ∧ M' 230 41 = nI 2 := by
  obtain ⟨h2, M2, T2, R2, N2, -, st⟩ := t151_s (d := d) (w := w) hT hR hB hp9
  rw [st ns m hns hm, hf, if_pos (show nI (lf5 none) = nI 5 from rfl)]
  exact t151_e (d := d) T2 R2 hB (k := 3) (by decide) _
theorem OL0 (hO : RO O M) (hp9 : p < 4) (hf : f < 5) (hu : (O p f).1 = false) : OL M (5 * p + f) [] := ⟨(hO p f hp9 hf).1 hu, fun i hi => by simp at hi⟩
theorem TA.t151 (hT : TA A M h) (hR : RR S P Q O X M) (hB : OB O) (hPB : PB P) {v w : Int32} (hp9 : isP Q v p j) {ns : List Nat} (hns : pth X.1 = some ns) {m : Nat} (hm : isM w m) (hf : lfr O p = some f) (h0 : (0, 0) ∈ F) (hl : F.length + 4 < 128) (hP : PM P j F) (hO : OW S F) (hW : WK S bgn) :
    (∀ e, (kWk P j ns S bgn).2 = .inl e → ∃ h' M', ag_run gT (d + 7) 151 [.inr (some 230), .inl v, .inl w] h = some (.inl (some (.inl (nI 0))), h') ∧ TA A M' h' ∧ RR (kWk P j ns S bgn).1 P Q O ([], []) M' ∧ M' 230 41 = nI (if e = 100 then 4 else 3)) ∧
    ∀ w', (kWk P j ns S bgn).2 = .inr w' → ∀ T ms R ms' e, kTk P j (kWk P j ns S bgn).1 w' = (T, ms) → kOpL m ms T 0 = (R, ms', e) →
      (ms' = [] → ∃ h' M', ag_run gT (d + 7) 151 [.inr (some 230), .inl v, .inl w] h = some (.inl (some (.inl (nI 0))), h') ∧ TA A M' h' ∧ RR R P Q O ([], []) M' ∧ M' 230 41 = nI (if e = 112 then 4 else 3)) ∧
      (ms' ≠ [] → ms'.length ≤ 3 → ∃ h' M', ag_run gT (d + 7) 151 [.inr (some 230), .inl v, .inl w] h = some (.inl (some (.inl (nI f))), h') ∧ TA A M' h' ∧ RR R P Q (up2 O p f (true, ms', ms.length, m, 0, 0)) ([], []) M' ∧ M' 230 41 = nI 0) := by
  obtain ⟨h2, M2, T2, R2, N2, -, st⟩ := t151_s (d := d) (w := w) hT hR hB hp9
  obtain ⟨f5, hfu⟩ := lfr_lt hf
  obtain ⟨hp4, rfl, hq⟩ := hp9
  rw [st ns m hns hm, hf]
  obtain ⟨hm3, rfl⟩ := hm
  show (∀ e, _ = _ → ∃ h' M', (if nI f = nI 5 then _ else _) = _ ∧ _) ∧ (∀ w', _ = _ → ∀ T ms R ms' e, _ = _ → _ = _ → (_ → ∃ h' M', (if nI f = nI 5 then _ else _) = _ ∧ _) ∧ (_ → _ → ∃ h' M', (if nI f = nI 5 then _ else _) = _ ∧ _))
  rw [if_neg (show ¬ nI f = nI 5 by rw [nI_eq (by omega) (by omega)]; omega), T2.ra, nI_mul]
  show (∀ e, _ = _ → ∃ h' M', ag_bI (ag_run gT (d + 6) 150 [.inr (some 230), .inl (nI p), .inl (nI (5 * p) + nI f), .inl (nI m)] h2) _ = _ ∧ _) ∧ (∀ w', _ = _ → ∀ T ms R ms' e, _ = _ → _ = _ → (_ → ∃ h' M', ag_bI (ag_run gT (d + 6) 150 [.inr (some 230), .inl (nI p), .inl (nI (5 * p) + nI f), .inl (nI m)] h2) _ = _ ∧ _) ∧ (_ → _ → ∃ h' M', ag_bI (ag_run gT (d + 6) 150 [.inr (some 230), .inl (nI p), .inl (nI (5 * p) + nI f), .inl (nI m)] h2) _ = _ ∧ _))
  rw [nI_add]
  obtain ⟨c1, c2⟩ := T2.t150 (d := d + 1) (o := 5 * p + f) hPB hp4 hq (by omega) hm3 h0 hl hP hO hW R2.1 R2.2.1 R2.2.2.1 R2.2.2.2.1 (N2 ns hns) (OL0 R2.2.2.2.2.1 hp4 f5 hfu)
  refine ⟨fun e he => ?_, fun w' he T ms R ms' e hT9 hR9 => ?_⟩
  · obtain ⟨h3, M3, e3, T3, V3, G3, F3⟩ := c1 e he
    have R3 := R2.w hB F3 V3 G3
    by_cases h9 : e = 100
    · rw [if_pos h9] at e3 ⊢
      obtain ⟨h4, M4, e4, T4, R4, q4⟩ := t151_e (d := d) T3 R3 hB (k := 2) (by decide) (nI f)
      exact ⟨h4, M4, by rw [e3, b_I]; exact e4, T4, R4, q4⟩
    · rw [if_neg h9] at e3 ⊢
      obtain ⟨h4, M4, e4, T4, R4, q4⟩ := t151_e (d := d) T3 R3 hB (k := 1) (by decide) (nI f)
      exact ⟨h4, M4, by rw [e3, b_I]; exact e4, T4, R4, q4⟩
  · obtain ⟨h3, M3, e3, T3, V3, G3, O3, k6, k7, k8, k9, F3⟩ := c2 w' he T ms R ms' e hT9 hR9
    refine ⟨fun hnil => ?_, fun hne h3l => ?_⟩
    · rw [if_pos hnil] at e3
      rw [hnil] at O3
      have R3 := R2.ow hB F3 V3 G3 (R2.2.2.2.2.1.rown hB hp4 f5 F3 hfu O3.1)
      by_cases h9 : e = 112
      · rw [if_pos h9] at e3 ⊢
        obtain ⟨h4, M4, e4, T4, R4, q4⟩ := t151_e (d := d) T3 R3 hB (k := 2) (by decide) (nI f)
        exact ⟨h4, M4, by rw [e3, b_I]; exact e4, T4, R4, q4⟩
      · rw [if_neg h9] at e3 ⊢
        obtain ⟨h4, M4, e4, T4, R4, q4⟩ := t151_e (d := d) T3 R3 hB (k := 1) (by decide) (nI f)
        exact ⟨h4, M4, by rw [e3, b_I]; exact e4, T4, R4, q4⟩
    · rw [if_neg hne] at e3
      have R3 := R2.ow hB F3 V3 G3 (R2.2.2.2.2.1.row hB hp4 f5 F3 (u := (true, ms', ms.length, m, 0, 0)) ⟨fun h => (by cases h), fun _ => ⟨O3, k6, k7, k8, k9⟩⟩)
      have hB' : OB (up2 O p f (true, ms', ms.length, m, 0, 0)) := fun p' f' hp' hf' hu => by
        by_cases e : p' = p ∧ f' = f
        · rw [e.1, e.2, up2_eq]; exact ⟨h3l, hne⟩
        · rw [up2_ne e] at hu ⊢; exact hB p' f' hp' hf' hu
      obtain ⟨h4, M4, e4, T4, R4, q4⟩ := t151_e (d := d) T3 R3 hB' (k := 0) (by decide) (nI f)
      exact ⟨h4, M4, by rw [e3, b_I]; exact e4, T4, R4, q4⟩
end RPUB

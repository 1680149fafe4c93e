/-! THE REFERENCE'S METHODS: exit -/
section REX2
variable {A : zA} {M M' M1 : Nat → Nat → Int32} {h : ag_H} {d s x i p f j o w k : Nat} {S S' : zS} {P : Nat → List zP} {Q : Nat → Option Nat} {O : Nat → Nat → zU} {F L G : List (Nat × Nat)} {W : zW} {X : List Nat × List Nat}
theorem RR.pq (hR : RR S P Q O X M) (hB : OB O) {Q' : Nat → Option Nat} (hF : ∀ b y, b ≠ 253 → b ≠ 254 → M' b y = M b y) (hQ : RQ Q' M') : RR S P Q' O X M' := by
  obtain ⟨a, b, c, e, f, g⟩ := hR
  exact ⟨a.rows fun b y h1 h2 => hF b y (by omega) (by omega), b.congr (hF _ _ (by decide) (by decide)) (hF _ _ (by decide) (by decide)) (fun y => hF _ _ (by decide) (by decide)) (fun y => hF _ _ (by decide) (by decide)), c.congr fun b y h1 h2 => hF b y (by omega) (by omega), hQ, f.congr hB fun b y h1 h2 => hF b y (by omega) (by omega), g.congr (hF _ _ (by decide) (by decide)) (hF _ _ (by decide) (by decide)) (fun y => hF _ _ (by decide) (by decide)) (fun y => hF _ _ (by decide) (by decide))⟩
theorem RQ.out (hQ : RQ Q M) (p : Nat) : RQ (up1 Q p none) (up2 M 253 p (nI 0)) := fun p' hp' => by
  by_cases e : p' = p
  · subst e
    rw [up1_eq]
    exact ⟨up2_eq _ _ _ _, fun j hj => by cases hj⟩
  · rw [up1_ne e, up2_ni e, up2_na (by decide)]
    exact hQ p' hp'
theorem t171_115 (hT : TA A M h) (hR : RR S P Q O X M) (hB : OB O) (hp4 : p < 4) (b32 b68 : Option Nat → Int32 → Int32 → ag_H → ag_R) : ∃ h' M', f171_115 (ag_run gT (d + 1)) b32 b68 (some 230) (nI p) h = some (.inl (some (.inl (nI (npr (up1 Q p none))))), h') ∧ TA A M' h' ∧ RR S P (up1 Q p none) O X M' ∧ M' 230 41 = M 230 41 := by
  have T1 := hT.sx (a := 253) (c := 102) (i := p) rfl (nI 0)
  have R1 := hR.pq hB (M' := up2 M 253 p (nI 0)) (fun b y h1 h2 => up2_na h1) (hR.2.2.2.1.out p)
  refine ⟨_, _, ?_, T1, R1, up2_na (by decide)⟩
  unfold f171_115
  rw [hT.rR (k := 29) (b := 253) rfl rfl, lit_0, b_B (x := nI 0) (Or.inl rfl), hT.wx (a := 253) (c := 102) (i := p) rfl (show p < 4 from hp4), T1.ra, T1.t169 (d := d) R1.2.2.2.1, b_I]
theorem OB.clo (hB : OB O) (p n : Nat) : OB (clO O p n) := fun p' f hp' hf' hu => by
  unfold clO at hu ⊢
  by_cases e : p' = p ∧ f < n
  · rw [if_pos e] at hu; cases hu
  · rw [if_neg e] at hu ⊢; exact hB p' f hp' hf' hu
theorem RP.nil (hP : RP P M) (hB : PB P) (hj : j < 4) (h6 : M' 246 j = nI 0) (hF : ∀ b y, (246 ≤ b ∧ b ≤ 252) → ¬ (b = 246 ∧ y = j) → ¬ (b = 249 ∧ 4 * j ≤ y ∧ y < 4 * j + 4) → M' b y = M b y) : RP (up1 P j []) M' := fun j' hj' => by
  by_cases e : j' = j
  · subst e
    rw [up1_eq]
    exact ⟨h6, fun k hk => absurd hk (Nat.not_lt_zero _)⟩
  · rw [up1_ne e]
    have b1 := (hB j' hj').1
    exact ⟨by rw [hF _ _ (by omega) (by omega) (by omega)]; exact (hP j' hj').1, fun k hk => ((hP j' hj').2 k hk).c2 ((hB j' hj').2 _ (getD_memP hk)).2.2.1 (fun b h1 h2 => hF _ _ (by omega) (by omega) (by omega)) (fun b y h1 h2 h3 h4 => hF _ _ (by omega) (by omega) (by omega))⟩
theorem t171_5 (hT : TA A M h) (hR : RR S P Q O X M) (hB : OB O) (hPB : PB P) (hp4 : p < 4) (hq : Q p = some j) (hv : ∀ q ∈ P j, ∀ m ∈ q.2, m.1 < 2 ∧ m.2.1 < 128 ∧ ¬ (m.1 = 0 ∧ m.2.1 = 0)) {N : Nat} (hN : 5 ≤ N) : ∃ h' M', (g171 (ag_run gT (d + 4)) (N + 1)).1 (some 230) (nI p) (nI 5) h = some (.inl (some (.inl (nI (npr (up1 Q p none))))), h') ∧ TA A M' h' ∧ RR (kEx P Q p j S) (pEx P Q p j) (up1 Q p none) O X M' ∧ M' 230 41 = M 230 41 := by
  obtain ⟨q1, q2⟩ := (hR.2.2.2.1 p hp4).2 j hq
  obtain ⟨b1, b2⟩ := hPB j q2
  obtain ⟨p1, p2⟩ := hR.2.2.1 j q2
  have hu := usr_sub hp4 hq j
  rw [if_pos rfl] at hu
  have hu4 := usr_le Q j
  have st : (g171 (ag_run gT (d + 4)) (N + 1)).1 (some 230) (nI p) (nI 5) h = if nI (usr Q j) = nI 1 then f171_68 (ag_run gT (d + 4)) (g171 (ag_run gT (d + 4)) N).1 (g171 (ag_run gT (d + 4)) N).2 (some 230) (nI p) (nI 0) h else f171_115 (ag_run gT (d + 4)) (g171 (ag_run gT (d + 4)) N).1 (g171 (ag_run gT (d + 4)) N).2 (some 230) (nI p) h := by
    show f171_32 (ag_run gT (d + 4)) (g171 (ag_run gT (d + 4)) N).1 (g171 (ag_run gT (d + 4)) N).2 (some 230) (nI p) (nI 5) h = _
    unfold f171_32
    rw [lit_5, if_pos (nI_le (by omega) (by omega)), hT.rR (k := 30) (b := 254) rfl rfl, hT.rx (a := 254) (c := 100) (i := p) rfl (show p < 4 from hp4), q1, hT.ra, hT.t168 (d := d + 3) hR.2.2.2.1 q2, b_I, lit_1, lit_0]
  rw [st]
  unfold kEx pEx
  by_cases e : usr (up1 Q p none) j = 0
  · rw [if_pos (by rw [hu, e]), if_pos e, if_pos e]
    obtain ⟨h1, M1, e1, T1, V1, G1, c1, F1⟩ := t171_68 (d := d) hp4 q2 b1 (fun q hq => (b2 q hq).2.2.1) hv (P j) 0 (N - (P j).length) S M h rfl (by omega) hT hR.1 hR.2.1 q1 p1 (fun i _ hi => ⟨(p2 i hi).2.2.1, (p2 i hi).2.2.2⟩)
    rw [show N - (P j).length + (P j).length + 1 = N + 1 by omega] at e1
    have R1 : RR (kEs S (P j)) (up1 P j []) Q O X M1 := hR.dp hB (fun b y z1 z2 => F1 b y (by omega) (by omega) (by omega) (by omega)) V1 G1 (hR.2.2.1.nil hPB q2 c1 fun b y z1 z2 z3 => F1 b y (by omega) (by omega) z2 z3)
    obtain ⟨h2, M2, e2, T2, R2, q2'⟩ := t171_115 (d := d + 3) T1 R1 hB hp4 (fun _ _ _ _ => none) (fun _ _ _ _ => none)
    refine ⟨h2, M2, (e1 _ _).trans e2, T2, R2, by rw [q2', F1 _ _ (by omega) (by omega) (by omega) (by omega)]⟩
  · rw [if_neg (by rw [nI_eq (by omega) (by omega)]; omega), if_neg e, if_neg e]
    exact t171_115 (d := d + 3) hT hR hB hp4 _ _
theorem t171_32 (hB : OB O) (hPB : PB P) (hp4 : p < 4) (hq : Q p = some j) (hv : ∀ q ∈ P j, ∀ m ∈ q.2, m.1 < 2 ∧ m.2.1 < 128 ∧ ¬ (m.1 = 0 ∧ m.2.1 = 0)) (hvO : ∀ f, f < 5 → (O p f).1 = true → ∀ m ∈ (O p f).2.1, m.1 < 2 ∧ m.2.1 < 128 ∧ ¬ (m.1 = 0 ∧ m.2.1 = 0)) {N : Nat} (hN : 5 ≤ N) : ∀ (m f : Nat) (S : zS) (M : Nat → Nat → Int32) (h : ag_H), f + m = 5 → TA A M h → RR S P Q (clO O p f) X M →
    ∃ h' M', (g171 (ag_run gT (d + 4)) (N + m + 1)).1 (some 230) (nI p) (nI f) h = some (.inl (some (.inl (nI (npr (up1 Q p none))))), h') ∧ TA A M' h' ∧ RR (kEx P Q p j (kCf O p (List.range' f m) S)) (pEx P Q p j) (up1 Q p none) (clO O p 5) X M' ∧ M' 230 41 = M 230 41 := by
  intro m
  induction m with
  | zero =>
    intro f S M h hf hT hR
    obtain rfl : f = 5 := by omega
    exact t171_5 (d := d) hT hR (hB.clo p 5) hPB hp4 hq hv hN
  | succ m ih =>
    intro f S M h hf hT hR
    have f5 : f < 5 := by omega
    have hBc := hB.clo p f
    have hcf : clO O p f p f = O p f := if_neg (by omega)
    -- the row is closed
    have key : ∃ h1 M1, ag_run gT (d + 4) 156 [.inr (some 230), .inl (nI (5 * p + f))] h = some (.inl none, h1) ∧ TA A M1 h1 ∧ RR (bif (O p f).1 then kClA S (O p f).2.1 else S) P Q (clO O p (f + 1)) X M1 ∧ M1 230 41 = M 230 41 := by
      have hRU := hR.2.2.2.2.1 p f hp4 f5
      cases hu : (O p f).1
      · obtain ⟨h1, M1, e1, T1, V1, G1, c1, F1⟩ := hT.t156h (d := d) (o := 5 * p + f) (ms := []) (by omega) (by decide) (by simp) hR.1 hR.2.1 (OL0 hR.2.2.2.2.1 hp4 f5 (by rw [hcf]; exact hu))
        refine ⟨h1, M1, e1, T1, ?_, F1 _ _ (by decide) (by decide) (by omega) (by omega)⟩
        rw [← clO_n O p f hu]
        exact hR.ow hBc F1 V1 G1 (hR.2.2.2.2.1.rown hBc hp4 f5 F1 (by rw [hcf]; exact hu) c1)
      · have hb := hB p f hp4 f5 hu
        have u1 := (hRU.2 (by rw [hcf]; exact hu)).1
        rw [hcf] at u1
        obtain ⟨h1, M1, e1, T1, V1, G1, c1, F1⟩ := hT.t156h (d := d) (o := 5 * p + f) (by omega) hb.1 (hvO f f5 hu) hR.1 hR.2.1 u1
        refine ⟨h1, M1, e1, T1, ?_, F1 _ _ (by decide) (by decide) (by omega) (by omega)⟩
        rw [← clO_s O p f]
        exact hR.ow hBc F1 V1 G1 (hR.2.2.2.2.1.row hBc hp4 f5 F1 ⟨fun _ => c1, fun h => by cases h⟩)
    obtain ⟨h1, M1, e1, T1, R1, c1⟩ := key
    obtain ⟨h2, M2, e2, T2, R2, c2⟩ := ih (f + 1) _ M1 h1 (by omega) T1 R1
    refine ⟨h2, M2, ?_, T2, ?_, by rw [c2, c1]⟩
    · rw [show N + (m + 1) + 1 = (N + m + 1) + 1 by omega]
      show f171_32 (ag_run gT (d + 4)) (g171 (ag_run gT (d + 4)) (N + m + 1)).1 (g171 (ag_run gT (d + 4)) (N + m + 1)).2 (some 230) (nI p) (nI f) h = _
      unfold f171_32
      rw [lit_5, lit_1, if_neg (nI_ge (by omega) (by omega)), nI_mul, nI_add, nI_add, hT.ra, e1, b_V]
      exact e2
    · rw [List.range'_succ]
      exact R2
theorem t171_g (hB : OB O) (hPB : PB P) (hp4 : p < 4) (hq : Q p = some j) (hv : ∀ q ∈ P j, ∀ m ∈ q.2, m.1 < 2 ∧ m.2.1 < 128 ∧ ¬ (m.1 = 0 ∧ m.2.1 = 0)) (hvO : ∀ f, f < 5 → (O p f).1 = true → ∀ m ∈ (O p f).2.1, m.1 < 2 ∧ m.2.1 < 128 ∧ ¬ (m.1 = 0 ∧ m.2.1 = 0)) {N n : Nat} (hN : 5 ≤ N) (hn : N + 5 = n) (hT : TA A M h) (hR : RR S P Q O X M) :
    ∃ h' M', f171_32 (ag_run gT (d + 4)) (g171 (ag_run gT (d + 4)) n).1 (g171 (ag_run gT (d + 4)) n).2 (some 230) (nI p) (nI 0) h = some (.inl (some (.inl (nI (npr (up1 Q p none))))), h') ∧ TA A M' h' ∧ RR (kEx P Q p j (kCf O p (List.range 5) S)) (pEx P Q p j) (up1 Q p none) (clO O p 5) X M' ∧ M' 230 41 = M 230 41 := by
  subst hn
  have h0 : clO O p 0 = O := by
    funext a b
    exact if_neg (by omega)
  rw [List.range_eq_range']
  exact t171_32 (A := A) (d := d) (X := X) (N := N) hB hPB hp4 hq hv hvO hN 5 0 S M h (by decide) hT (by rw [h0]; exact hR)
theorem TA.t171n (hT : TA A M h) (hR : RR S P Q O X M) (hB : OB O) {v : Int32} (hn : noP Q v ∨ ∃ j, isP Q v 0 j) : ∃ h' M', ag_run gT (d + 7) 171 [.inr (some 230), .inl v] h = some (.inl (some (.inl (nI 0))), h') ∧ TA A M' h' ∧ RR S P Q O X M' ∧ M' 230 41 = nI 1 := by
  have T1 := hT.thr1 1
  refine ⟨_, _, ?_, T1, hR.z hB (FZ.up (by decide)), up2_eq _ _ _ _⟩
  rw [r171]
  unfold f171 f171_13 f171_18
  rw [hT.ra, lit_0, lit_1]
  rcases hn with hn | ⟨j, hp9⟩
  · rw [hT.t144n (d := d + 5) hR.2.2.2.1 hn, b_I, if_pos rfl, hT.wI (k := 41) rfl, T1.rI (k := 41) rfl, up2_eq, if_neg (by decide)]
  · rw [hT.t144 (d := d + 5) hR.2.2.2.1 hp9, b_I, if_neg (by decide), if_pos hp9.2.1, hT.wI (k := 41) rfl, T1.rI (k := 41) rfl, up2_eq, if_neg (by decide)]
theorem TA.t171 (hT : TA A M h) (hR : RR S P Q O X M) (hB : OB O) (hPB : PB P) {v : Int32} (hp9 : isP Q v p j) (hp0 : p ≠ 0) (hv : ∀ q ∈ P j, ∀ m ∈ q.2, m.1 < 2 ∧ m.2.1 < 128 ∧ ¬ (m.1 = 0 ∧ m.2.1 = 0)) (hvO : ∀ f, f < 5 → (O p f).1 = true → ∀ m ∈ (O p f).2.1, m.1 < 2 ∧ m.2.1 < 128 ∧ ¬ (m.1 = 0 ∧ m.2.1 = 0)) : ∃ h' M', ag_run gT (d + 7) 171 [.inr (some 230), .inl v] h = some (.inl (some (.inl (nI (npr (up1 Q p none))))), h') ∧ TA A M' h' ∧ RR (kEx P Q p j (kCf O p (List.range 5) S)) (pEx P Q p j) (up1 Q p none) (clO O p 5) X M' ∧ M' 230 41 = nI 0 := by
  have e144 := hT.t144 (d := d + 5) hR.2.2.2.1 hp9
  obtain ⟨hp4, rfl, hq⟩ := hp9
  have T1 := hT.thr1 0
  have R1 := hR.z hB (FZ.up (M := M) (k := 41) (v := nI 0) (by decide))
  obtain ⟨h2, M2, e2, T2, R2, c2⟩ := t171_g (d := d + 2) (N := 3994) (n := 3999) hB hPB hp4 hq hv hvO (by decide) (by decide) T1 R1
  refine ⟨h2, M2, ?_, T2, R2, by rw [c2, up2_eq]⟩
  rw [r171]
  unfold f171 f171_18
  rw [hT.ra, e144, b_I, lit_0, if_neg (by decide), if_neg (by rw [nI_eq (by omega) (by omega)]; exact hp0), hT.wI (k := 41) rfl, T1.rI (k := 41) rfl, up2_eq, if_pos rfl]
  exact e2
end REX2

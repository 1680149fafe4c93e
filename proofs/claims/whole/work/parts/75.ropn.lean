/-! THE REFERENCE: open -/
/-- what opening a row leaves alone -/
def FO (o : Nat) (M M' : Nat → Nat → Int32) : Prop := ∀ b y, (b < 234 ∨ 245 < b) → ¬ (b = 230 ∧ (y = 17 ∨ y = 19 ∨ y = 20 ∨ y = 21 ∨ y = 40 ∨ y = 38 ∨ y = 39)) → ¬ (255 ≤ b ∧ b ≤ 261 ∧ b ≠ 257 ∧ b ≠ 258 ∧ y = o) → ¬ ((b = 257 ∨ b = 258) ∧ 3 * o ≤ y ∧ y < 3 * o + 3) → M' b y = M b y
theorem FO.trans {o : Nat} {M M' M'' : Nat → Nat → Int32} (h1 : FO o M M') (h2 : FO o M' M'') : FO o M M'' := fun b j q1 q2 q3 q4 => (h2 b j q1 q2 q3 q4).trans (h1 b j q1 q2 q3 q4)
theorem FO.refl (o : Nat) (M : Nat → Nat → Int32) : FO o M M := fun _ _ _ _ _ _ => rfl
theorem FX.o {o : Nat} {M M' : Nat → Nat → Int32} (h : FX M M') : FO o M M' := fun b y q1 q2 _ _ => h b y q1 q2
section ROPN
variable {A : zA} {M M' : Nat → Nat → Int32} {h : ag_H} {d s x i p f j o : Nat} {V : Nat → zV} {S : zS} {P : Nat → List zP} {Q : Nat → Option Nat} {O : Nat → Nat → zU} {F L G : List (Nat × Nat)} {W : zW}
theorem RG.congr (hG : RG S M) (h1 : M' 230 17 = M 230 17) (h2 : M' 230 19 = M 230 19) (h3 : ∀ y, M' 244 y = M 244 y) (h4 : ∀ y, M' 245 y = M 245 y) : RG S M' :=
  ⟨⟨by rw [h1]; exact hG.1.1, hG.1.2.1, fun i hi => by rw [h3]; exact hG.1.2.2 i hi⟩, ⟨by rw [h2]; exact hG.2.1, hG.2.2.1, fun i hi => by rw [h4]; exact hG.2.2.2 i hi⟩⟩
theorem OL.fx {ms : List zM} (hO : OL M o ms) (hF : FX M M') : OL M' o ms :=
  ⟨by rw [hF _ _ (by decide) (by omega)]; exact hO.1, fun i hi => ⟨by rw [hF _ _ (by decide) (by omega)]; exact (hO.2 i hi).1, by rw [hF _ _ (by decide) (by omega)]; exact (hO.2 i hi).2⟩⟩
theorem RPl.fx {w : Nat} {q : zP} (hP : RPl M w q) (hF : FX M M') : RPl M' w q := hP.congr fun b y h1 h2 => hF b y (by omega) (by omega)
/-- copying handles into a row -/
theorem t150_71 (ho : o < 20) {y : Nat} (hy : y < 16) {q : zP} (hl3 : q.2.length ≤ 3) {mm l6 l7 : Int32} : ∀ (rest : List zM) (i n : Nat) (acc : List zM) (S : zS) (L : List (Nat × Nat)) (M : Nat → Nat → Int32) (h : ag_H), q.2.drop i = rest → i ≤ q.2.length → acc.length + rest.length ≤ 3 → OW S L → L.length + rest.length ≤ 128 → (∀ m ∈ q.2, m.1 < 2 ∧ (m.1, m.2.1) ∈ L) → TA A M h → RV S.1 M → RG S M → RPl M y q → OL M o acc →
    ∃ h' M' N, n ≤ N ∧ (g150 (ag_run gT (d + 3)) (n + rest.length + 1)).1 (some 230) (nI o) mm (nI y) l6 l7 (nI i) h = f150_144 (ag_run gT (d + 3)) (g150 (ag_run gT (d + 3)) N).1 (g150 (ag_run gT (d + 3)) N).2 (some 230) (nI o) mm (nI y) l6 l7 h' ∧ TA A M' h' ∧ RV (kCpy rest S).1.1 M' ∧ RG (kCpy rest S).1 M' ∧ OL M' o (acc ++ (kCpy rest S).2) ∧ FO o M M' := by
  intro rest
  induction rest with
  | nil =>
    intro i n acc S L M h hd hi ha hO hl hv hT hV hG hP hOL
    have := List.drop_eq_nil_iff.mp hd
    refine ⟨h, M, n, Nat.le_refl _, ?_, hT, hV, hG, by show OL M o (acc ++ []); rw [List.append_nil]; exact hOL, FO.refl o M⟩
    show f150_71 _ _ _ _ _ _ _ _ _ _ _ = _
    unfold f150_71
    rw [lit_0, if_neg (nI_nlt (by omega) (by omega)), hT.rR (k := 25) (b := 249) rfl rfl, hT.rx (a := 249) (c := 100) (i := y) rfl (show y < 16 from hy), hP.2.2.1, if_pos (nI_le (by omega) (by omega))]
    rfl
  | cons m rest ih =>
    intro i n acc S L M h hd hi ha hO hl hv hT hV hG hP hOL
    have hil : i < q.2.length := by
      rcases Nat.lt_or_ge i q.2.length with h1 | h1
      · exact h1
      · rw [List.drop_eq_nil_of_le h1] at hd; cases hd
    have hdr := drop_gM hil
    rw [hd] at hdr
    injection hdr with hm hrest
    have ha : acc.length + (rest.length + 1) ≤ 3 := ha
    have hl : L.length + (rest.length + 1) ≤ 128 := hl
    obtain ⟨v1, v2⟩ := hv m (by rw [hm]; exact gM_mem hil)
    have v3 := hO.lt v1 v2
    obtain ⟨g, hg, hg1⟩ := hO.st v1 v2
    obtain ⟨f1, -, -, -⟩ := hO.free v1 (by omega)
    obtain ⟨a1, a2, -⟩ := hP.2.2.2 i hil
    rw [← hm] at a1 a2
    obtain ⟨h1, M1, e1, T1, V1, G1, q1, n1, F1⟩ := hT.t125s (d := d) hV v1 (hO.1 m.1 v1) v3 hg f1
    have P1 := hP.fx F1.w
    obtain ⟨b1, -⟩ := P1.2.2.2 i hil
    rw [← hm] at b1
    obtain ⟨h2, M2, e2, T2, O2, F2⟩ := T1.t148 (d := d + 2) ho (hOL.fx F1.w) (by omega) (m.1, fre S m.1, m.2.2)
    have F2' : FO o M1 M2 := fun b z z1 z2 z3 z4 => F2 b z (by omega) (by omega) (by omega)
    have P2 : RPl M2 y q := P1.congr fun b z h1 h2 => F2 b z (by omega) (by omega) (by omega)
    have V2 : RV (kSame S m.1 m.2.1).1 M2 := V1.rows fun b z h1 h2 => F2 b z (by omega) (by omega) (by omega)
    have G2 : RG (kSame S m.1 m.2.1) M2 := G1.congr (F2 _ _ (by omega) (by omega) (by omega)) (F2 _ _ (by omega) (by omega) (by omega)) (fun z => F2 _ _ (by omega) (by omega) (by omega)) (fun z => F2 _ _ (by omega) (by omega) (by omega))
    obtain ⟨h3, M3, N3, i1, i2, i3, i4, i5, i6, i7⟩ := ih (i + 1) n (acc ++ [(m.1, fre S m.1, m.2.2)]) (kSame S m.1 m.2.1) ((m.1, fre S m.1) :: L) M2 h2 hrest.symm (by omega) (by simp; omega) (hO.same v1 v2 (by omega)) (by simp; omega) (fun m' h' => ⟨(hv m' h').1, by simp [(hv m' h').2]⟩) T2 V2 G2 P2 O2
    refine ⟨h3, M3, N3, i1, ?_, i3, i4, i5, ?_, (F1.w.o.trans F2').trans i7⟩
    · rw [show n + (m :: rest).length + 1 = (n + rest.length + 1) + 1 by simp; omega]
      show f150_71 _ _ _ _ _ _ _ _ _ _ _ = _
      unfold f150_71
      rw [lit_0, lit_1, lit_3, lit_m, if_neg (nI_nlt (by omega) (by omega)), hT.rR (k := 25) (b := 249) rfl rfl, hT.rx (a := 249) (c := 100) (i := y) rfl (show y < 16 from hy), hP.2.2.1, if_neg (nI_ge hil (by omega)), hT.rR (k := 26) (b := 250) rfl rfl, nI_mul, nI_add, hT.rx (a := 250) (c := 100) (i := 3 * y + i) rfl (show 3 * y + i < 48 by omega), a1, hT.rR (k := 27) (b := 251) rfl rfl, hT.rx (a := 251) (c := 100) (i := 3 * y + i) rfl (show 3 * y + i < 48 by omega), a2, hT.ra, e1, b_V, T1.rR (k := 26) (b := 250) rfl rfl, T1.rx (a := 250) (c := 100) (i := 3 * y + i) rfl (show 3 * y + i < 48 by omega), b1, T1.rI (k := 40) rfl, n1, T1.ra, e2, b_V, nI_add]
      exact i2
    · rw [List.append_assoc] at i6
      exact i6
/-- opening the handles of a row -/
theorem t150_195 (ho : o < 20) {m : Nat} (hm3 : m < 3) {ms : List zM} (hl3 : ms.length ≤ 3) : ∀ (rest : List zM) (i n : Nat) (acc : List zM) (S : zS) (G : List (Nat × Nat)) (e : Nat) (M : Nat → Nat → Int32) (h : ag_H), ms.drop i = rest → i ≤ ms.length → acc.length ≤ i → e < 1000 → OW S (rest.map hp2 ++ G) → (0, 0) ∈ G → (∀ x ∈ rest, x.1 < 2) → TA A M h → RV S.1 M → RG S M → OL M o acc → (∀ q, i ≤ q → q < ms.length → M 257 (3 * o + q) = nI (ms.getD q dM).1 ∧ M 258 (3 * o + q) = nI (ms.getD q dM).2.1) →
    ∃ h' M', (g150 (ag_run gT (d + 3)) (n + rest.length + 1)).2 (some 230) (nI o) (nI m) (nI ms.length) (nI e) (nI i) h = some (.inl (some (.inl (nI (if acc ++ (kOpL m rest S e).2.1 = [] then (if (kOpL m rest S e).2.2 = 112 then 2 else 1) else 0)))), h') ∧ TA A M' h' ∧ RV (kOpL m rest S e).1.1 M' ∧ RG (kOpL m rest S e).1 M' ∧ OL M' o (acc ++ (kOpL m rest S e).2.1) ∧ M' 256 o = M 256 o ∧ M' 259 o = nI m ∧ M' 260 o = nI 0 ∧ M' 261 o = nI 0 ∧ FO o M M' := by
  intro rest
  induction rest with
  | nil =>
    intro i n acc S G e M h hd hi hai he hO h0 hv hT hV hG hOL hms
    have hil := List.drop_eq_nil_iff.mp hd
    have T1 := hT.sx (a := 259) (c := 100) (i := o) rfl (nI m)
    have T2 := T1.sx (a := 260) (c := 100) (i := o) rfl (nI 0)
    have T3 := T2.sx (a := 261) (c := 100) (i := o) rfl (nI 0)
    generalize hM : up2 (up2 (up2 M 259 o (nI m)) 260 o (nI 0)) 261 o (nI 0) = M3 at T3
    have m3 : ∀ b y, b ≠ 259 → b ≠ 260 → b ≠ 261 → M3 b y = M b y := fun b y z1 z2 z3 => by rw [← hM, up2_na z3, up2_na z2, up2_na z1]
    refine ⟨_, M3, ?_, T3, hV.rows fun b y h1 h2 => m3 b y (by omega) (by omega) (by omega), hG.congr (m3 _ _ (by decide) (by decide) (by decide)) (m3 _ _ (by decide) (by decide) (by decide)) (fun y => m3 _ _ (by decide) (by decide) (by decide)) (fun y => m3 _ _ (by decide) (by decide) (by decide)), ?_, m3 _ _ (by decide) (by decide) (by decide), by rw [← hM, up2_na (by decide), up2_na (by decide), up2_eq], by rw [← hM, up2_na (by decide), up2_eq], by rw [← hM, up2_eq], fun b y z1 z2 z3 z4 => ?_⟩
    · show f150_195 _ _ _ _ _ _ _ _ _ _ = some (.inl (some (.inl (nI (if acc ++ [] = [] then (if e = 112 then 2 else 1) else 0)))), _)
      rw [List.append_nil]
      unfold f150_195 f150_322
      rw [if_pos (nI_le (by omega) (by omega)), hT.rR (k := 35) (b := 259) rfl rfl, hT.wx (a := 259) (c := 100) (i := o) rfl (show o < 20 from ho), T1.rR (k := 36) (b := 260) rfl rfl, lit_0, T1.wx (a := 260) (c := 100) (i := o) rfl (show o < 20 from ho), T2.rR (k := 37) (b := 261) rfl rfl, T2.wx (a := 261) (c := 100) (i := o) rfl (show o < 20 from ho), T3.rR (k := 31) (b := 255) rfl rfl, T3.rx (a := 255) (c := 100) (i := o) rfl (show o < 20 from ho), m3 _ _ (by decide) (by decide) (by decide), hOL.1, lit_1, lit_2, lit8_112]
      by_cases ha : acc = []
      · subst ha
        rw [if_pos (show nI ([] : List zM).length ≤ nI 0 by decide), if_pos rfl]
        by_cases h9 : e = 112
        · rw [if_pos (by rw [h9]), if_pos h9]
        · rw [if_neg (by rw [nI_eq (by omega) (by omega)]; exact h9), if_neg h9]
      · have : 0 < acc.length := List.length_pos_iff.mpr ha
        rw [if_neg (by rw [nI_leI (by omega) (by omega)]; omega), if_neg ha]
    · show OL M3 o (acc ++ [])
      rw [List.append_nil]
      exact ⟨by rw [m3 _ _ (by decide) (by decide) (by decide)]; exact hOL.1, fun q hq => ⟨by rw [m3 _ _ (by decide) (by decide) (by decide)]; exact (hOL.2 q hq).1, by rw [m3 _ _ (by decide) (by decide) (by decide)]; exact (hOL.2 q hq).2⟩⟩
    · rw [← hM, up2_ne (by omega), up2_ne (by omega), up2_ne (by omega)]
  | cons y rest ih =>
    intro i n acc S G e M h hd hi hai he hO h0 hv hT hV hG hOL hms
    have hil : i < ms.length := by
      rcases Nat.lt_or_ge i ms.length with h1 | h1
      · exact h1
      · rw [List.drop_eq_nil_of_le h1] at hd; cases hd
    have hdr := drop_gM hil
    rw [hd] at hdr
    injection hdr with hm hrest
    have v1 := hv y (by simp)
    have hv' : ∀ x ∈ rest, x.1 < 2 := fun x h => hv x (by simp [h])
    have vm : (y.1, y.2.1) ∈ (y :: rest).map hp2 ++ G := by simp [hp2]
    have v3 := hO.lt v1 vm
    obtain ⟨g, hg, hg1⟩ := hO.st v1 vm
    obtain ⟨a1, a2⟩ := hms i (Nat.le_refl _) hil
    rw [← hm] at a1 a2
    obtain ⟨h1, M1, e1, T1, V1, G1, q1, F1⟩ := hT.t126 (d := d) hV v1 (hO.1 y.1 v1) v3 hg hm3
    have hO2 : OW (kOP S y.1 y.2.1 m) ((y.1, y.2.1) :: (rest.map hp2 ++ G)) := OW.opn (S := S) hO v1 m
    have O1 := hOL.fx F1.w
    have ms1 : ∀ q, i ≤ q → q < ms.length → M1 257 (3 * o + q) = nI (ms.getD q dM).1 ∧ M1 258 (3 * o + q) = nI (ms.getD q dM).2.1 := fun q h1 h2 => ⟨by rw [F1 _ _ (by decide) (by omega)]; exact (hms q h1 h2).1, by rw [F1 _ _ (by decide) (by omega)]; exact (hms q h1 h2).2⟩
    have k1 : M1 256 o = M 256 o := F1 _ _ (by decide) (by omega)
    rw [show n + (y :: rest).length + 1 = (n + rest.length + 1) + 1 by simp; omega]
    show ∃ h' M', f150_195 _ _ _ _ _ _ _ _ _ _ = _ ∧ _
    unfold f150_195 f150_270
    rw [if_neg (nI_ge hil (by omega)), hT.rR (k := 33) (b := 257) rfl rfl, lit_3, nI_mul, nI_add, hT.rx (a := 257) (c := 100) (i := 3 * o + i) rfl (show 3 * o + i < 60 by omega), a1, hT.rR (k := 34) (b := 258) rfl rfl, hT.rx (a := 258) (c := 100) (i := 3 * o + i) rfl (show 3 * o + i < 60 by omega), a2, hT.ra, e1, b_V, T1.rI (k := 20) rfl, q1, lit_0, lit_1, nI_add]
    unfold kOpL
    cases hop : oOP (S.1 y.1) y.2.1 m with
    | inl e' =>
      have he' := oOP_e hop
      rw [hop] at q1
      obtain ⟨h2, M2, e2, T2, V2, G2, F2⟩ := T1.t132 (d := d) V1 G1 v1 v3
      obtain ⟨h3, M3, i2, i3, i4, i5, i6, i7, i8, i9, i10, i11⟩ := ih (i + 1) n acc (kGo (kOP S y.1 y.2.1 m) y.1 y.2.1) G e' M2 h2 hrest.symm (by omega) (by omega) (by omega) (hO2.goh (by simp [h0]) v1).1 h0 hv' T2 V2 G2 (O1.fx F2.w) (fun q h1 h2 => ⟨by rw [F2 _ _ (by decide) (by omega)]; exact (ms1 q (by omega) h2).1, by rw [F2 _ _ (by decide) (by omega)]; exact (ms1 q (by omega) h2).2⟩)
      refine ⟨h3, M3, ?_, i3, i4, i5, i6, by rw [i7, F2 _ _ (by decide) (by omega)]; exact k1, i8, i9, i10, (F1.w.o.trans F2.w.o).trans i11⟩
      rw [if_neg (show ¬ eI (Sum.inl e' : Nat ⊕ Nat) = nI 0 by show ¬ nI e' = nI 0; rw [nI_eq (by omega) (by omega)]; omega), T1.rI (k := 20) rfl, q1, T1.ra, e2, b_V]
      exact i2
    | inr i' =>
      obtain ⟨h2, M2, e2, T2, O2, F2⟩ := T1.t148 (d := d + 2) ho O1 (by omega) y
      have V2 : RV (kOP S y.1 y.2.1 m).1 M2 := V1.rows fun b z h1 h2 => F2 b z (by omega) (by omega) (by omega)
      have G2 : RG (kOP S y.1 y.2.1 m) M2 := G1.congr (F2 _ _ (by omega) (by omega) (by omega)) (F2 _ _ (by omega) (by omega) (by omega)) (fun z => F2 _ _ (by omega) (by omega) (by omega)) (fun z => F2 _ _ (by omega) (by omega) (by omega))
      obtain ⟨h3, M3, i2, i3, i4, i5, i6, i7, i8, i9, i10, i11⟩ := ih (i + 1) n (acc ++ [y]) (kOP S y.1 y.2.1 m) ((y.1, y.2.1) :: G) e M2 h2 hrest.symm (by omega) (by simp; omega) he (hO2.cnt fun q => by simp only [List.count_append, List.count_cons]; omega) (by simp [h0]) hv' T2 V2 G2 O2 (fun q h1 h2 => ⟨by rw [F2 _ _ (by omega) (by omega) (by omega)]; exact (ms1 q (by omega) h2).1, by rw [F2 _ _ (by omega) (by omega) (by omega)]; exact (ms1 q (by omega) h2).2⟩)
      rw [List.append_assoc] at i2 i6
      refine ⟨h3, M3, ?_, i3, i4, i5, i6, by rw [i7, F2 _ _ (by omega) (by omega) (by omega)]; exact k1, i8, i9, i10, (F1.w.o.trans fun b z z1 z2 z3 z4 => F2 b z (by omega) (by omega) (by omega)).trans i11⟩
      rw [if_pos (show eI (Sum.inr i' : Nat ⊕ Nat) = nI 0 from rfl), T1.ra, e2, b_V]
      exact i2
theorem t150_157 (ho : o < 20) {m : Nat} (hm3 : m < 3) {ms : List zM} (hl3 : ms.length ≤ 3) {N : Nat} (hN : 4 ≤ N) {G : List (Nat × Nat)} (hO : OW S (ms.map hp2 ++ G)) (h0 : (0, 0) ∈ G) (hv : ∀ x ∈ ms, x.1 < 2) (hT : TA A M h) (hV : RV S.1 M) (hG : RG S M) (hOL : OL M o ms) :
    ∃ h' M', f150_157 (ag_run gT (d + 3)) (g150 (ag_run gT (d + 3)) N).1 (g150 (ag_run gT (d + 3)) N).2 (some 230) (nI o) (nI m) h = some (.inl (some (.inl (nI (if (kOpL m ms S 0).2.1 = [] then (if (kOpL m ms S 0).2.2 = 112 then 2 else 1) else 0)))), h') ∧ TA A M' h' ∧ RV (kOpL m ms S 0).1.1 M' ∧ RG (kOpL m ms S 0).1 M' ∧ OL M' o (kOpL m ms S 0).2.1 ∧ M' 256 o = bI (decide (ms.length = 1)) ∧ M' 259 o = nI m ∧ M' 260 o = nI 0 ∧ M' 261 o = nI 0 ∧ FO o M M' := by
  have T1 := hT.sx (a := 256) (c := 102) (i := o) rfl (bI (decide (ms.length = 1)))
  have T2 := T1.sx (a := 255) (c := 100) (i := o) rfl (nI 0)
  generalize hM : up2 (up2 M 256 o (bI (decide (ms.length = 1)))) 255 o (nI 0) = M2 at T2
  have m2 : ∀ b y, ¬ (b = 255 ∧ y = o) → ¬ (b = 256 ∧ y = o) → M2 b y = M b y := fun b y z1 z2 => by rw [← hM, up2_ne z1, up2_ne z2]
  obtain ⟨h3, M3, i2, i3, i4, i5, i6, i7, i8, i9, i10, i11⟩ := t150_195 (d := d) ho hm3 hl3 ms 0 (N - ms.length) [] S G 0 M2 _ rfl (by omega) (by decide) (by decide) hO h0 hv T2 (hV.rows fun b y h1 h2 => m2 b y (by omega) (by omega)) (hG.congr (m2 _ _ (by omega) (by omega)) (m2 _ _ (by omega) (by omega)) (fun y => m2 _ _ (by omega) (by omega)) (fun y => m2 _ _ (by omega) (by omega))) ⟨by rw [← hM, up2_eq]; rfl, fun i hi => by simp at hi⟩ (fun q _ hq => ⟨by rw [m2 _ _ (by omega) (by omega)]; exact (hOL.2 q hq).1, by rw [m2 _ _ (by omega) (by omega)]; exact (hOL.2 q hq).2⟩)
  refine ⟨h3, M3, ?_, i3, i4, i5, i6, by rw [i7, ← hM, up2_na (by decide), up2_eq], i8, i9, i10, FO.trans (fun b y z1 z2 z3 z4 => m2 b y (by omega) (by omega)) i11⟩
  rw [show N - ms.length + ms.length + 1 = N + 1 by omega] at i2
  have i2' : f150_195 (ag_run gT (d + 3)) (g150 (ag_run gT (d + 3)) N).1 (g150 (ag_run gT (d + 3)) N).2 (some 230) (nI o) (nI m) (nI ms.length) (nI 0) (nI 0) (hse (hse h 256 o (bI (decide (ms.length = 1)))) 255 o (nI 0)) = _ := i2
  unfold f150_157 f150_181
  rw [hT.rR (k := 31) (b := 255) rfl rfl, hT.rx (a := 255) (c := 100) (i := o) rfl (show o < 20 from ho), hOL.1, hT.rR (k := 32) (b := 256) rfl rfl, lit_0, lit_1]
  by_cases h1 : ms.length = 1
  · rw [decide_eq_true h1] at T1 i2'
    rw [if_pos (by rw [h1]), b_B (x := nI 1) (Or.inr rfl)]
    show ag_xP h (some 256) 102 (nI o) (.inl (bI true)) _ = _
    rw [hT.wx (a := 256) (c := 102) (i := o) rfl (show o < 20 from ho), T1.rR (k := 31) (b := 255) rfl rfl, T1.wx (a := 255) (c := 100) (i := o) rfl (show o < 20 from ho)]
    exact i2'
  · rw [decide_eq_false h1] at T1 i2'
    rw [if_neg (by rw [nI_eq (by omega) (by omega)]; exact h1), b_B (x := nI 0) (Or.inl rfl)]
    show ag_xP h (some 256) 102 (nI o) (.inl (bI false)) _ = _
    rw [hT.wx (a := 256) (c := 102) (i := o) rfl (show o < 20 from ho), T1.rR (k := 31) (b := 255) rfl rfl, T1.wx (a := 255) (c := 100) (i := o) rfl (show o < 20 from ho)]
    exact i2'
theorem t150_b {N : Nat} (hN9 : 10 ≤ N) (hT : TA A M h) {ns : List Nat} (hB : PB P) (hp9 : p < 4) (hq : Q p = some j) (ho : o < 20) {m : Nat} (hm3 : m < 3) (h0 : (0, 0) ∈ F) (hl : F.length + 4 < 128) (hP : PM P j F) (hO : OW S F) (hW : WK S bgn) (hV : RV S.1 M) (hG : RG S M) (hRP : RP P M) (hRQ : RQ Q M) (hN : NM ns M) (hOL : OL M o []) :
    (∀ e, (kWk P j ns S bgn).2 = .inl e → ∃ h' M', f150 (ag_run gT (d + 4)) (g150 (ag_run gT (d + 4)) N).1 (g150 (ag_run gT (d + 4)) N).2 (some 230) (nI p) (nI o) (nI m) h = some (.inl (some (.inl (nI (if e = 100 then 2 else 1)))), h') ∧ TA A M' h' ∧ RV (kWk P j ns S bgn).1.1 M' ∧ RG (kWk P j ns S bgn).1 M' ∧ FX M M') ∧
    ∀ w', (kWk P j ns S bgn).2 = .inr w' → ∀ T ms R ms' e, kTk P j (kWk P j ns S bgn).1 w' = (T, ms) → kOpL m ms T 0 = (R, ms', e) → ∃ h' M', f150 (ag_run gT (d + 4)) (g150 (ag_run gT (d + 4)) N).1 (g150 (ag_run gT (d + 4)) N).2 (some 230) (nI p) (nI o) (nI m) h = some (.inl (some (.inl (nI (if ms' = [] then (if e = 112 then 2 else 1) else 0)))), h') ∧ TA A M' h' ∧ RV R.1 M' ∧ RG R M' ∧ OL M' o ms' ∧ M' 256 o = bI (decide (ms.length = 1)) ∧ M' 259 o = nI m ∧ M' 260 o = nI 0 ∧ M' 261 o = nI 0 ∧ FO o M M' := by
  obtain ⟨h1, M1, e1, T1, V1, G1, W1, F1⟩ := hT.t141 (d := d) (u := ns.length) (Nat.le_refl _) hB hp9 hq h0 (by omega) hP hO hW hV hG hRP hRQ hN
  rw [List.take_length] at e1 V1 G1 W1
  obtain ⟨o1, o2⟩ := OW.wk h0 (by omega) hP ns S bgn hO hW
  have P1 := hRP.fw F1
  have Q1 := hRQ.fw F1
  have L1 := hOL.fx F1
  rcases hx : kWk P j ns S bgn with ⟨S1, r⟩
  rw [hx] at e1 V1 G1 W1 o1 o2
  cases r with
  | inl e =>
    refine ⟨fun e' he' => ?_, fun w' h9 => by cases h9⟩
    cases he'
    refine ⟨h1, M1, ?_, T1, V1, G1, F1⟩
    have hc : nI (wcd (Sum.inl e : Nat ⊕ zW)) = nI (if e = 100 then 2 else 1) := rfl
    rw [hc] at e1
    unfold f150
    rw [hT.rI (k := 4) rfl, hN.1, hT.ra, e1, b_I, lit_0, if_neg (by rw [nI_eq (by split <;> omega) (by omega)]; split <;> omega)]
  | inr w' =>
    refine ⟨fun e' he' => (by cases he'), fun w9 h9 T ms R ms' e hT9 hR9 => ?_⟩
    cases h9
    obtain ⟨O1, K1, -⟩ := o2 w' rfl
    obtain ⟨g8, g9⟩ := W1 w' rfl
    have hx8 := O1.lt K1.1 (fl_mem h0)
    have hi3 : w'.2.2.1 < 300 := by
      have h1 := (O1.1 w'.1 K1.1).2.2.2.1 _ _ K1.2.1
      have h2 := (O1.1 w'.1 K1.1).2.1
      omega
    have hj4 := ((hRQ p hp9).2 j hq).2
    obtain ⟨bl, bq⟩ := hB j hj4
    have e2 := T1.t140 (d := d + 3) V1 P1 hB Q1 hp9 hq K1.1 (by omega) K1.2.1 hi3
    have OT := O1.tk h0 hl K1.1 hP (fun q hq => (bq q hq).2.2.1)
    rw [hT9] at OT
    have st : f150 (ag_run gT (d + 4)) (g150 (ag_run gT (d + 4)) N).1 (g150 (ag_run gT (d + 4)) N).2 (some 230) (nI p) (nI o) (nI m) h = if nI 0 ≤ wP j (pidx (P j) w'.1 w'.2.2.1) then f150_68 (ag_run gT (d + 4)) (g150 (ag_run gT (d + 4)) N).1 (g150 (ag_run gT (d + 4)) N).2 (some 230) (nI o) (nI m) (wP j (pidx (P j) w'.1 w'.2.2.1)) (nI w'.2.1) (nI w'.1) h1 else
        ag_at h1 (some 230) 11 fun a12 _ => ag_bV (ag_run gT (d + 4) 143 [.inr (some a12)] h1) fun h13 =>
        ag_gI h13 (some 230) 11 38 fun x14 =>
        ag_gI h13 (some 230) 11 39 fun x15 =>
        ag_at h13 (some 230) 11 fun a16 _ => ag_bV (ag_run gT (d + 4) 148 [.inr (some a16), .inl (nI o), .inl x14, .inl x15] h13) fun h17 =>
        f150_68 (ag_run gT (d + 4)) (g150 (ag_run gT (d + 4)) N).1 (g150 (ag_run gT (d + 4)) N).2 (some 230) (nI o) (nI m) (wP j (pidx (P j) w'.1 w'.2.2.1)) (nI w'.2.1) (nI w'.1) h17 := by
      unfold f150
      have hc : nI (wcd (Sum.inr w' : Nat ⊕ zW)) = nI 0 := rfl
      rw [hc] at e1
      rw [hT.rI (k := 4) rfl, hN.1, hT.ra, e1, b_I, lit_0, if_pos rfl, T1.rI (k := 38) rfl, g8, T1.rI (k := 39) rfl, g9, T1.ra, e2, b_I, T1.rI (k := 39) rfl, g9, T1.rI (k := 38) rfl, g8]
    rw [st]
    unfold kTk at hT9
    cases hpx : pidx (P j) w'.1 w'.2.2.1 with
    | none =>
      rw [hpx] at hT9
      have hT9 : ((kOwn S1 w').1, [(w'.1, (kOwn S1 w').2, false)]) = (T, ms) := hT9
      cases hT9
      obtain ⟨h3, M3, e3, T3, V3, G3, k8, k9, F3⟩ := T1.t143 (d := d) O1 h0 (by omega) K1.1 V1 G1 g8 g9
      obtain ⟨h4, M4, e4, T4, O4, F4⟩ := T3.t148 (d := d + 3) ho (L1.fx F3) (by decide) (w'.1, (kOwn S1 w').2, false)
      have O4 : OL M4 o [(w'.1, (kOwn S1 w').2, false)] := O4
      have V4 : RV (kOwn S1 w').1.1 M4 := V3.rows fun b z h1 h2 => F4 b z (by omega) (by omega) (by omega)
      have G4 : RG (kOwn S1 w').1 M4 := G3.congr (F4 _ _ (by omega) (by omega) (by omega)) (F4 _ _ (by omega) (by omega) (by omega)) (fun z => F4 _ _ (by omega) (by omega) (by omega)) (fun z => F4 _ _ (by omega) (by omega) (by omega))
      obtain ⟨h5, M5, e5, T5, V5, G5, O5, k6, k7, k8', k9', F5⟩ := t150_157 (d := d + 1) ho hm3 (ms := [(w'.1, (kOwn S1 w').2, false)]) (by show 1 ≤ 3; decide) (N := N) (by omega) OT h0 (fun x hx => by rw [List.mem_singleton] at hx; rw [hx]; exact K1.1) T4 V4 G4 O4
      rw [hR9] at e5 V5 G5 O5
      refine ⟨h5, M5, ?_, T5, V5, G5, O5, k6, k7, k8', k9', ((F1.trans F3).o.trans fun b z z1 z2 z3 z4 => F4 b z (by omega) (by simp only [List.length_nil]; omega) (by simp only [List.length_nil]; omega)).trans F5⟩
      unfold f150_68 f150_71 f150_144
      rw [if_neg (show ¬ nI 0 ≤ wP j none from (show ¬ nI 0 ≤ (-1 : Int32) by decide)), T1.ra, e3, b_V, T3.rI (k := 38) rfl, k8, T3.rI (k := 39) rfl, k9, T3.ra, e4, b_V, lit_0, if_pos (show wP j none < nI 0 from (show (-1 : Int32) < nI 0 by decide)), if_pos (show wP j none < nI 0 from (show (-1 : Int32) < nI 0 by decide))]
      exact e5
    | some k =>
      rw [hpx] at hT9
      have hkl := pidx_lt hpx
      have hT9 : (kGo (kCpy ((P j).getD k dP).2 S1).1 w'.1 w'.2.1, (kCpy ((P j).getD k dP).2 S1).2) = (T, ms) := hT9
      cases hT9
      obtain ⟨c1, c2, c3, c4⟩ := bq _ (getD_memP hkl)
      have hfl := fl_len w' F
      obtain ⟨h3, M3, N3, i1, i2, T3, V3, G3, O3, F3⟩ := t150_71 (d := d + 1) (y := 4 * j + k) (mm := nI m) (l6 := nI w'.2.1) (l7 := nI w'.1) ho (by omega) c3 ((P j).getD k dP).2 0 (N - ((P j).getD k dP).2.length) [] S1 (fl w' ++ F) M1 h1 rfl (by omega) (by show 0 + ((P j).getD k dP).2.length ≤ 3; omega) O1 (by omega) (fun m' hm' => ⟨(hP _ (getD_memP hkl) m' hm').1, List.mem_append_right _ (hP _ (getD_memP hkl) m' hm').2⟩) T1 V1 G1 ((P1 j hj4).2 k hkl) L1
      obtain ⟨h4, M4, e4, T4, V4, G4, F4⟩ := T3.t132 (d := d + 1) V3 G3 K1.1 hx8
      have hkc : ∀ (l : List zM) (S : zS), (∀ y ∈ l, y.1 < 2) → ∀ y ∈ (kCpy l S).2, y.1 < 2 := by
        intro l
        induction l with
        | nil => intro S _ y hy; exact absurd hy (by simp [kCpy])
        | cons a l ih =>
          intro S hl y hy
          have hy : y ∈ (a.1, fre S a.1, a.2.2) :: (kCpy l (kSame S a.1 a.2.1)).2 := hy
          rw [List.mem_cons] at hy
          rcases hy with rfl | hy
          · exact hl a (by simp)
          · exact ih _ (fun y h => hl y (by simp [h])) y hy
      obtain ⟨h5, M5, e5, T5, V5, G5, O5, k6, k7, k8', k9', F5⟩ := t150_157 (d := d + 1) ho hm3 (ms := (kCpy ((P j).getD k dP).2 S1).2) (by rw [kCpy_len]; exact c3) (N := N3) (by omega) OT h0 (hkc _ _ (fun y hy => (hP _ (getD_memP hkl) y hy).1)) T4 V4 G4 (O3.fx F4.w)
      rw [hR9] at e5 V5 G5 O5
      refine ⟨h5, M5, ?_, T5, V5, G5, O5, k6, k7, k8', k9', ((F1.o.trans F3).trans F4.w.o).trans F5⟩
      rw [show N - ((P j).getD k dP).2.length + ((P j).getD k dP).2.length + 1 = N + 1 by omega] at i2
      rw [if_pos (show nI 0 ≤ wP j (some k) from nI_le (by omega) (by omega))]
      refine Eq.trans i2 ?_
      unfold f150_144
      rw [lit_0, if_neg (nI_nlt (by omega) (by omega)), T3.ra, e4, b_V]
      exact e5
theorem TA.t150 (hT : TA A M h) {ns : List Nat} (hB : PB P) (hp9 : p < 4) (hq : Q p = some j) (ho : o < 20) {m : Nat} (hm3 : m < 3) (h0 : (0, 0) ∈ F) (hl : F.length + 4 < 128) (hP : PM P j F) (hO : OW S F) (hW : WK S bgn) (hV : RV S.1 M) (hG : RG S M) (hRP : RP P M) (hRQ : RQ Q M) (hN : NM ns M) (hOL : OL M o []) :
    (∀ e, (kWk P j ns S bgn).2 = .inl e → ∃ h' M', ag_run gT (d + 5) 150 [.inr (some 230), .inl (nI p), .inl (nI o), .inl (nI m)] h = some (.inl (some (.inl (nI (if e = 100 then 2 else 1)))), h') ∧ TA A M' h' ∧ RV (kWk P j ns S bgn).1.1 M' ∧ RG (kWk P j ns S bgn).1 M' ∧ FX M M') ∧
    ∀ w', (kWk P j ns S bgn).2 = .inr w' → ∀ T ms R ms' e, kTk P j (kWk P j ns S bgn).1 w' = (T, ms) → kOpL m ms T 0 = (R, ms', e) → ∃ h' M', ag_run gT (d + 5) 150 [.inr (some 230), .inl (nI p), .inl (nI o), .inl (nI m)] h = some (.inl (some (.inl (nI (if ms' = [] then (if e = 112 then 2 else 1) else 0)))), h') ∧ TA A M' h' ∧ RV R.1 M' ∧ RG R M' ∧ OL M' o ms' ∧ M' 256 o = bI (decide (ms.length = 1)) ∧ M' 259 o = nI m ∧ M' 260 o = nI 0 ∧ M' 261 o = nI 0 ∧ FO o M M' := by
  rw [r150]
  exact t150_b (d := d) (N := 3999) (by decide) hT hB hp9 hq ho hm3 h0 hl hP hO hW hV hG hRP hRQ hN hOL
end ROPN

/-! WALKS of the class -/
section CWK
variable {z sl d : Nat} {M : Nat → Nat → Int32} {pm : Nat → Nat → Nat} {S : zS} {Q : Nat → Option Nat} {Y : zY} {X : zX} {W : zW} {h : ag_H} {s x : Nat} {F : List (Nat × Nat)}
def stL (P : Nat → List zP) (j : Nat) (W : zW) : Nat × Nat × Nat := match pidx (P j) W.1 W.2.2.1 with
  | none => (0, 0, 0)
  | some k => (1, j, k)
theorem CA.std (hC : CA z sl M pm S Q Y X W h) {j : Nat} (hj : j < 4) (hw : W.1 < 2) (hi : W.2.2.1 < 300) : ∃ h' H, ag_run gT (d + 2) 93 [.inr (some 0), .inr (some (34 + 49 * j))] h = some (.inl (some (.inr (some (lad pm (stL Y.1 j W))))), h') ∧ CA z sl M pm S Q (Y.1, Y.2.1, H) X W h' ∧ LV (Y.1, Y.2.1, H) (stL Y.1 j W) ∧ lms (Y.1, Y.2.1, H) (stL Y.1 j W) = stM Y.1 j W := by
  rw [r93]
  unfold f93 stL stM
  rw [hC.g9, hC.g11, hC.an hj, hC.n14 hj hw hi, b_I, hC.an hj, hC.n15 hj (fun k h => pidx_lt h), b_R]
  cases hp9 : pidx (Y.1 j) W.1 W.2.2.1 with
  | none =>
    rw [Option.map_none, if_pos rfl, hC.p7, lit_0, lit_1]
    obtain ⟨h1, e1, C1⟩ := hC.hz (L := (0, 0, 0)) (Or.inl ⟨0, 0, rfl⟩)
    have e1 := fun K => e1 K
    obtain ⟨h2, e2, C2⟩ := C1.h1f (d := d) (L := (0, 0, 0)) (Or.inl ⟨0, 0, rfl⟩) (show (0 : Nat) < 3 by decide) (W.1, W.2.1, true)
    refine ⟨h2, [(W.1, W.2.1, true)], ?_, C2, Or.inl ⟨0, 0, rfl⟩, rfl⟩
    have e1' : ∀ K, ag_pF h (some 30) 0 3 (.inl (nI 0)) K = K h1 := e1
    have e2' : ag_run gT (d + 1) 1 [.inr (some 30), .inl (nI 0), .inl (nI W.1), .inl (nI W.2.1), .inl (nI 1)] h1 = some (.inl none, h2) := e2
    rw [e1', C1.p7, C1.g9, C1.g10, C1.at (a := 30) (c := 0) (by decide) rfl rfl, e2', b_V, C2.p7]
    rfl
  | some k =>
    rw [Option.map_some, if_neg (by simp), hC.np hj (pidx_lt hp9)]
    exact ⟨h, Y.2.2, rfl, hC, Or.inr (Or.inl ⟨j, k, rfl, hj, pidx_lt hp9⟩), rfl⟩
theorem by8_b (b : Bool) : by8 (bI b) 0 = bI b := by cases b <;> decide
theorem tel_0 (i : Nat) (f : zF) : (tel i f).getD 0 0 = bI f.2.1 := by
  show by8 (bI f.2.1) 0 = _
  exact by8_b _
theorem tel_n (i : Nat) (f : zF) : (tel i f).length = 9 := rfl
theorem tel_5 (i : Nat) (f : zF) : ∀ k, k < 4 → (tel i f).getD (5 + k) 0 = by8 (nI i) (8 * k) := by
  intro k hk
  have : k = 0 ∨ k = 1 ∨ k = 2 ∨ k = 3 := by omega
  rcases this with rfl | rfl | rfl | rfl <;> rfl
def wfW (W : zW) (x : Nat ⊕ zW) : zW := match x with
  | .inl _ => W
  | .inr W' => W'
theorem c94_6 {L : Nat × Nat × Nat} (hL : LV Y L) {c : Nat} (hc : c < 8) (hl : F.length < 128) (hv : ∀ m ∈ lms Y L, m.1 < 2 ∧ (m.1, m.2.1) ∈ F) : ∀ (m k n : Nat) (S : zS) (h : ag_H) (e : Nat), k + m = (lms Y L).length → OW S F → (e = 110 ∨ e = 100) → CA z sl M pm S Q Y X W h →
    ∃ h', g94 (ag_run gT (d + 3)) (n + m + 1) (some 0) (some (lad pm L)) (nI (97 + c)) (nI e) (nI k) h = some (.inl (some (.inl (eI (kWF c ((lms Y L).drop k) S e).2))), h') ∧ CA z sl M pm (kWF c ((lms Y L).drop k) S e).1 Q Y X (wfW W (kWF c ((lms Y L).drop k) S e).2) h' := by
  intro m
  induction m with
  | zero =>
    intro k n S h e hk hO he hC
    have hn := hC.len hL
    rw [List.drop_eq_nil_of_le (by omega)]
    refine ⟨h, ?_, hC⟩
    show f94_6 _ _ _ _ _ _ _ _ = _
    unfold f94_6
    rw [hC.hn hL, if_pos (nI_le (by omega) (by omega)), b_Cn (by omega)]
    rfl
  | succ m ih =>
    intro k n S h e hk hO he hC
    have hn := hC.len hL
    have hkl : k < (lms Y L).length := by omega
    obtain ⟨v1, v2⟩ := hv _ (gM_mem hkl)
    have v3 := hO.lt v1 v2
    rw [show n + (m + 1) + 1 = (n + m + 1) + 1 by omega, drop_gM hkl]
    generalize hmm : (lms Y L).getD k dM = mm at *
    obtain ⟨f1, f2, f3, f4⟩ := hO.free v1 hl
    obtain ⟨h1, t, q, t', r, e1, C1⟩ := hC.to (d := d + 2) v1
    have e2 := C1.c35 (d := d + 2) v1 f1
    have e3 := C1.h4 (d := d + 2) hL hkl
    rw [hmm] at e3
    obtain ⟨h4, e4, C4⟩ := C1.c39 (d := d) (s := mm.1) rfl v3 f2 hc
    have e0 := hC.h3 (d := d + 2) hL hkl
    rw [hmm] at e0
    have start : ∀ K, (fun (x : ag_R) => x) K = K := fun _ => rfl
    unfold kWF
    show ∃ h', f94_6 _ _ _ _ _ _ _ _ = _ ∧ _
    unfold f94_6 f94_103
    rw [hC.hn hL, if_neg (nI_ge (by omega) (by omega)), hC.ah hL, e0, b_I, hC.a0, e1, b_R, C1.as v1]
    have e2' : ag_run gT (d + 3) 35 [.inr (some (2 + 9 * mm.1))] h1 = some (.inl (some (.inl (nI (fre S mm.1)))), h1) := e2
    have e4' : ag_run gT (d + 3) 39 [.inr (some (2 + 9 * mm.1)), .inl (nI mm.2.1), .inl (nI (fre S mm.1)), .inl (nI (97 + c))] h1 = some (.inl (some (.inl (eI (oWN (S.1 mm.1) mm.2.1 c)))), h4) := e4
    have C4' : CA z sl M pm (kWN S mm.1 mm.2.1 c) Q Y X W h4 := C4
    rw [e2', b_I, C1.ah hL, e3, b_I, C1.as v1, e4', b_I]
    cases ho : oWN (S.1 mm.1) mm.2.1 c with
    | inl e' =>
      have he' := oWN_e ho
      have : ¬ eI (Sum.inl e' : Nat ⊕ Nat) = ag_lit 0 := by
        show ¬ nI e' = nI 0
        rw [nI_eq (by omega) (by omega)]; omega
      rw [if_neg this, lit_1, nI_add]
      exact ih (k + 1) n _ h4 e' (by omega) (hO.wn_no v1 ho) he' C4'
    | inr g =>
      have hg := (oWN_lt ho).1
      have h250 := (hO.1 mm.1 v1).2.1
      have hr : (kWN S mm.1 mm.2.1 c).2.2.2.2.2 = tel g ((S.1 mm.1).2.1 g) := by
        unfold kWN
        rw [ho]; rfl
      rw [if_pos (show eI (Sum.inr g : Nat ⊕ Nat) = ag_lit 0 from rfl)]
      obtain ⟨h5, e5, C5⟩ := C4'.w9 mm.1
      obtain ⟨h6, e6, C6⟩ := C5.w10 (fre S mm.1)
      have e7 := C6.m12 (d := d + 1) (j := 5) (by rw [hr, tel_n]; decide) (nI g) (by rw [hr]; exact tel_5 _ _)
      rw [un4_ok g (by omega)] at e7
      obtain ⟨h8, e8, C8⟩ := C6.w11 g
      have e9 := C8.m10 (d := d + 2) (j := 0) (by rw [hr, tel_n]; decide)
      rw [hr, tel_0] at e9
      obtain ⟨h10, e10, C10⟩ := C8.w12 ((S.1 mm.1).2.1 g).2.1
      refine ⟨h10, ?_, C10⟩
      rw [e5, e6, C6.q1 v1, C6.am v1, lit8_12, lit8_7, lit_1, lit_0]
      have e7' : ag_run gT (d + 3) 12 [.inr (some (5 + 9 * mm.1)), .inl (nI 12)] h6 = some (.inl (some (.inl (nI g))), h6) := e7
      have e9' : ag_run gT (d + 3) 10 [.inr (some (5 + 9 * mm.1)), .inl (nI 7)] h8 = some (.inl (some (.inl (bI ((S.1 mm.1).2.1 g).2.1))), h8) := e9
      rw [e7', b_I, e8, C8.q1 v1, C8.am v1, e9', b_I]
      cases hd : ((S.1 mm.1).2.1 g).2.1
      · rw [hd] at e10
        have e10' : ∀ K, ag_pF h8 (some 0) 10 12 (.inl (nI 0)) K = K h10 := e10
        rw [if_neg (show ¬ bI false = nI 1 by decide), b_B (x := nI 0) (Or.inl rfl), e10', b_Cn (by decide)]
        rfl
      · rw [hd] at e10
        have e10' : ∀ K, ag_pF h8 (some 0) 10 12 (.inl (nI 1)) K = K h10 := e10
        rw [if_pos (show bI true = nI 1 from rfl), b_B (x := nI 1) (Or.inr rfl), e10', b_Cn (by decide)]
        rfl
theorem CA.wf (hC : CA z sl M pm S Q Y X W h) {L : Nat × Nat × Nat} (hL : LV Y L) {c : Nat} (hc : c < 8) (hl : F.length < 128) (hv : ∀ m ∈ lms Y L, m.1 < 2 ∧ (m.1, m.2.1) ∈ F) (hO : OW S F) : ∃ h', ag_run gT (d + 4) 94 [.inr (some 0), .inr (some (lad pm L)), .inl (nI (97 + c))] h = some (.inl (some (.inl (eI (kWF c (lms Y L) S 110).2))), h') ∧ CA z sl M pm (kWF c (lms Y L) S 110).1 Q Y X (wfW W (kWF c (lms Y L) S 110).2) h' := by
  have hn := hC.len hL
  obtain ⟨h', e, C⟩ := c94_6 (d := d) hL hc hl hv (lms Y L).length 0 (3999 - (lms Y L).length) S h 110 (by omega) hO (Or.inl rfl) hC
  refine ⟨h', ?_, C⟩
  rw [r94]
  unfold f94
  rw [lit_0, lit8_110]
  rw [show 3999 - (lms Y L).length + (lms Y L).length + 1 = 4000 by omega] at e
  exact e
/-- the names of a path: 26 the text's, 28 the kept one's -/
def pa (X : zX) (b : Nat) : Option (List Nat) := if b = 26 then X.2.2.1 else X.2.2.2
theorem CA.nm (hC : CA z sl M pm S Q Y X W h) {b : Nat} (hb : b = 26 ∨ b = 28) {ns : List Nat} (hn : pa X b = some ns) : ns.length ≤ 12 ∧ (∀ i, i < ns.length → ns.getD i 0 < 8 ∧ ag_run gT (d + 1) 27 [.inr (some b), .inl (nI i)] h = some (.inl (some (.inl (nI (97 + ns.getD i 0)))), h)) ∧ (∀ K, ag_gI h (some b) 4 1 K = K (nI ns.length)) ∧ ∀ K : Nat → ag_R, ag_at h (some b) 4 (fun x _ => K x) = K b := by
  have ha : kd0 b = 4 ∧ b < 262 := by rcases hb with rfl | rfl <;> decide
  have hat : ∀ K : Nat → ag_R, ag_at h (some b) 4 (fun x _ => K x) = K b := fun K => hC.at ha.2 ha.1 rfl
  obtain ⟨kd, ln, I, R, ad, rfl, hB⟩ := hC
  have hp9 : CPt I b (some ns) := by
    rw [← hn]
    have h8 := hB.2.2.2.2.2.2.2.1
    rcases hb with rfl | rfl
    · exact h8.2.2.1
    · exact h8.2.2.2
  have hk := hB.kk ha.2 ha.1
  obtain ⟨q1, q2, q3⟩ := hp9.2 ns rfl
  exact ⟨q2, fun i hi => ⟨(q3 i hi).1, s27 hB.1 hk hp9 hi⟩, fun K => by rw [x_gI hB.1 hk rfl, q1], hat⟩
theorem CA.pp (hC : CA z sl M pm S Q Y X W h) {b : Nat} (hb : b = 26 ∨ b = 28) {K : Int32 → ag_R} : ag_gI h (some b) 4 2 K = K (bI (pa X b).isSome) := by
  have ha : kd0 b = 4 ∧ b < 262 := by rcases hb with rfl | rfl <;> decide
  obtain ⟨kd, ln, I, R, ad, rfl, hB⟩ := hC
  have h8 := hB.2.2.2.2.2.2.2.1
  rw [x_gI hB.1 (hB.kk ha.2 ha.1) rfl]
  rcases hb with rfl | rfl
  · rw [h8.2.2.1.1]; rfl
  · rw [h8.2.2.2.1]; rfl
theorem gN_drop {ns : List Nat} {i : Nat} (h : i < ns.length) : ns.drop i = ns.getD i 0 :: ns.drop (i + 1) := drop_getD h
theorem c92_26 {P : Nat → List zP} {O : Nat → Nat → zU} {j : Nat} (hj : j < 4) {b : Nat} (hb : b = 26 ∨ b = 28) {ns : List Nat} (hn : pa X b = some ns) {u : Nat} (hu : u ≤ ns.length) (h0 : (0, 0) ∈ F) (hl : F.length + 1 < 128) (hP : PM P j F) : ∀ (m i n : Nat) (S : zS) (W : zW) (H : List zM) (h : ag_H), i + m = u → OW S (fl W ++ F) → WK S W → CA z sl M pm S Q (P, O, H) X W h →
    ∃ h' H' W', g92 (ag_run gT (d + 4)) (n + m + 1) (some 0) (some (34 + 49 * j)) (some b) (nI u) (nI 0) (nI i) h = some (.inl (some (.inl (eI (kWk P j ((ns.take u).drop i) S W).2))), h') ∧ CA z sl M pm (kWk P j ((ns.take u).drop i) S W).1 Q (P, O, H') X W' h' ∧ ∀ w, (kWk P j ((ns.take u).drop i) S W).2 = .inr w → W' = w := by
  intro m
  induction m with
  | zero =>
    intro i n S W H h hi hO hW hC
    have h12 := (hC.nm (d := d) hb hn).1
    rw [List.drop_eq_nil_of_le (by rw [List.length_take]; omega)]
    refine ⟨h, H, W, ?_, hC, fun w hw => by cases hw; rfl⟩
    show f92_26 _ _ _ _ _ _ _ _ _ = _
    unfold f92_26 f92_80
    rw [if_pos (nI_le (by omega) (by omega)), b_Cn (by decide)]
    rfl
  | succ m ih =>
    intro i n S W H h hi hO hW hC
    obtain ⟨h12, hnm, -, -⟩ := hC.nm (d := d + 3) hb hn
    have hil : i < ns.length := by omega
    obtain ⟨hc, -⟩ := hnm i hil
    have hlt : i < (ns.take u).length := by rw [List.length_take]; omega
    have hg : (ns.take u).getD i 0 = ns.getD i 0 := by
      rw [List.getD_eq_getElem?_getD, List.getD_eq_getElem?_getD, List.getElem?_take, if_pos (by omega)]
    rw [show n + (m + 1) + 1 = (n + m + 1) + 1 by omega, drop_getD hlt, hg, kWk_cons]
    have hV := hO.1 W.1 hW.1
    have hi3 : W.2.2.1 < 300 := by
      have h1 := hV.2.2.2.1 _ _ hW.2.1
      have h2 := hV.2.1
      omega
    have hm := fl_mem (W := W) h0
    obtain ⟨h1, H1, e1, C1, L1, m1⟩ := hC.std (d := d + 2) hj hW.1 hi3
    have m1 : lms (P, O, H1) (stL P j W) = stM P j W := m1
    have C1 : CA z sl M pm S Q (P, O, H1) X W h1 := C1
    obtain ⟨-, hnm1, -, a1⟩ := C1.nm (d := d + 3) hb hn
    have e2 := (hnm1 i hil).2
    have hl2 : (fl W ++ F).length < 128 := by
      unfold fl
      split <;> simp <;> omega
    obtain ⟨h3, e3, C3⟩ := C1.wf (d := d) L1 hc hl2 (by rw [m1]; exact stM_ok hP hW.1 hm) hO
    rw [m1] at e3 C3
    have hlt128 : W.2.1 < 128 := hO.lt hW.1 hm
    obtain ⟨h4, e4, C4⟩ := C3.go (d := d) hW.1 hlt128
    obtain ⟨st1, st2⟩ := wk_step hO h0 hl hW hP (ns.getD i 0)
    show ∃ h' H' W', f92_26 _ _ _ _ _ _ _ _ _ = _ ∧ _
    unfold f92_26 f92_80
    rw [if_neg (nI_ge (by omega) (by omega)), lit_0, if_pos rfl, hC.g9, hC.g10, hC.a0]
    have e1' : ag_run gT (d + 4) 93 [.inr (some 0), .inr (some (34 + 49 * j))] h = some (.inl (some (.inr (some (lad pm (stL P j W))))), h1) := e1
    rw [e1', b_R, a1, e2, b_I, C1.a0, e3, b_I, C3.a0, e4, b_V, lit_1, nI_add]
    rcases hx : kWF (ns.getD i 0) (stM P j W) S 110 with ⟨S', x⟩
    rw [hx] at st1 st2 C4
    cases x with
    | inl e =>
      obtain ⟨q1, q2⟩ := st1 e rfl
      refine ⟨h4, H1, W, ?_, C4, fun w hw => by cases hw⟩
      have key : ∀ (m : Nat), g92 (ag_run gT (d + 4)) (m + 1) (some 0) (some (34 + 49 * j)) (some b) (nI u) (nI e) (nI (i + 1)) h4 = some (.inl (some (.inl (nI e))), h4) := by
        intro m
        show f92_26 _ _ _ _ _ _ _ _ _ = _
        unfold f92_26 f92_80
        rw [b_Cn (by omega), lit_0, if_neg (show ¬ nI e = nI 0 by rw [nI_eq (by omega) (by omega)]; omega)]
        split <;> rfl
      exact key (n + m)
    | inr W1 =>
      obtain ⟨q1, q2, q3⟩ := st2 W1 rfl
      obtain ⟨h5, H5, W5, e5, C5, w5⟩ := ih (i + 1) n _ W1 H1 h4 (by omega) q1 q2 C4
      exact ⟨h5, H5, W5, e5, C5, w5⟩
theorem CA.wk (hC : CA z sl M pm S Q Y X W h) {j : Nat} (hj : j < 4) {b : Nat} (hb : b = 26 ∨ b = 28) {ns : List Nat} (hn : pa X b = some ns) {u : Nat} (hu : u ≤ ns.length) (h0 : (0, 0) ∈ F) (hl : F.length + 1 < 128) (hP : PM Y.1 j F) (hO : OW S F) (hW : WK S (0, 0, 0, true)) :
    ∃ h' H' W', ag_run gT (d + 5) 92 [.inr (some 0), .inr (some (34 + 49 * j)), .inr (some b), .inl (nI u)] h = some (.inl (some (.inl (eI (kWk Y.1 j (ns.take u) S (0, 0, 0, true)).2))), h') ∧ CA z sl M pm (kWk Y.1 j (ns.take u) S (0, 0, 0, true)).1 Q (Y.1, Y.2.1, H') X W' h' ∧ ∀ w, (kWk Y.1 j (ns.take u) S (0, 0, 0, true)).2 = .inr w → W' = w := by
  obtain ⟨h1, e1, C1⟩ := hC.w9 0
  obtain ⟨h2, e2, C2⟩ := C1.w10 0
  obtain ⟨h3, e3, C3⟩ := C2.w11 0
  obtain ⟨h4, e4, C4⟩ := C3.w12 true
  have h12 := (hC.nm (d := d) hb hn).1
  obtain ⟨h5, H5, W5, e5, C5, w5⟩ := c92_26 (d := d) (P := Y.1) (O := Y.2.1) (b := b) hj hb hn hu h0 hl hP u 0 (3999 - u) S (0, 0, 0, true) Y.2.2 h4 (by omega) hO hW C4
  refine ⟨h5, H5, W5, ?_, C5, w5⟩
  rw [r92]
  unfold f92
  rw [lit_0, lit_1]
  have e4' : ∀ K, ag_pF h3 (some 0) 10 12 (.inl (nI 1)) K = K h4 := e4
  rw [e1, e2, e3, b_B (x := nI 1) (Or.inr rfl), e4']
  rw [show 3999 - u + u + 1 = 4000 by omega] at e5
  exact e5
/-- a walk that throws where it has to -/
def thW (e : Nat) : Nat := if e = 100 then 3 else 2
theorem CA.wo (hC : CA z sl M pm S Q Y X W h) {j : Nat} (hj : j < 4) {b : Nat} (hb : b = 26 ∨ b = 28) {ns : List Nat} (hn : pa X b = some ns) {u : Nat} (hu : u ≤ ns.length) (h0 : (0, 0) ∈ F) (hl : F.length + 1 < 128) (hP : PM Y.1 j F) (hO : OW S F) (hW : WK S (0, 0, 0, true)) :
    (∀ e, (kWk Y.1 j (ns.take u) S (0, 0, 0, true)).2 = .inl e → ∃ h' H' W', ag_run gT (d + 6) 91 [.inr (some 0), .inr (some (34 + 49 * j)), .inr (some b), .inl (nI u)] h = some (.inr (thW e), h') ∧ CA (z + 1) (sl + 6) M pm (kWk Y.1 j (ns.take u) S (0, 0, 0, true)).1 Q (Y.1, Y.2.1, H') X W' h') ∧
    ∀ w, (kWk Y.1 j (ns.take u) S (0, 0, 0, true)).2 = .inr w → ∃ h' H', ag_run gT (d + 6) 91 [.inr (some 0), .inr (some (34 + 49 * j)), .inr (some b), .inl (nI u)] h = some (.inl none, h') ∧ CA z sl M pm (kWk Y.1 j (ns.take u) S (0, 0, 0, true)).1 Q (Y.1, Y.2.1, H') X w h' := by
  obtain ⟨h1, H1, W1, e1, C1, w1⟩ := hC.wk (d := d) hj hb hn hu h0 hl hP hO hW
  obtain ⟨o1, o2⟩ := OW.wk h0 hl hP (ns.take u) S (0, 0, 0, true) hO hW
  rw [r91]
  unfold f91 f91_19
  rw [hC.a0, e1, b_I, lit_0]
  refine ⟨fun e he => ?_, fun w he => ?_⟩
  · have h9 := (o1 e he).2
    refine ⟨_, H1, W1, ?_, C1.thr⟩
    rw [he]
    show (if nI e = nI 0 then _ else _) = _
    rw [if_neg (by rw [nI_eq (by omega) (by omega)]; omega), r88]
    unfold f88 thW
    rw [lit8_100]
    rcases h9 with rfl | rfl
    · rw [if_neg (by decide), if_neg (by decide), b_Ve]
    · rw [if_pos (by decide), if_pos (by decide), b_Ve]
  · refine ⟨h1, H1, ?_, ?_⟩
    · rw [he]; rfl
    · rw [← w1 w he]; exact C1
end CWK

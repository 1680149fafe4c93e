/-! THE REFERENCE'S METHODS: users, processes, exit -/
section REX
variable {A : zA} {M M' M1 : Nat → Nat → Int32} {h : ag_H} {d s x i p f j o w k : Nat} {S S' : zS} {P : Nat → List zP} {Q : Nat → Option Nat} {O : Nat → Nat → zU} {F L G : List (Nat × Nat)} {W : zW} {X : List Nat × List Nat}
theorem t168_4 (hT : TA A M h) (hQ : RQ Q M) (hj : j < 4) : ∀ (m k n u : Nat), k + m = 4 → g168 (ag_run gT d) (n + m + 1) (some 230) (nI j) (nI u) (nI k) h = some (.inl (some (.inl (nI (u + ((List.range' k m).filter fun p => decide (Q p = some j)).length)))), h) := by
  intro m
  induction m with
  | zero =>
    intro k n u hk
    show f168_4 _ _ _ _ _ _ _ = _
    unfold f168_4
    rw [lit_4, if_pos (nI_le (by omega) (by omega))]
    rfl
  | succ m ih =>
    intro k n u hk
    rw [show n + (m + 1) + 1 = (n + m + 1) + 1 by omega]
    show f168_4 _ _ _ _ _ _ _ = _
    unfold f168_4 f168_34 f168_35
    obtain ⟨q1, q2⟩ := hQ k (by omega)
    rw [lit_4, lit_0, lit_1, if_neg (nI_ge (by omega) (by omega)), hT.rR (k := 29) (b := 253) rfl rfl, hT.rx (a := 253) (c := 102) (i := k) rfl (show k < 4 by omega), q1, hT.rR (k := 30) (b := 254) rfl rfl, hT.rx (a := 254) (c := 100) (i := k) rfl (show k < 4 by omega), nI_add, nI_add, List.range'_succ, List.filter_cons]
    cases hb : Q k with
    | none => exact ih (k + 1) n u (by omega)
    | some j' =>
      obtain ⟨q3, q4⟩ := q2 j' hb
      rw [if_neg (show ¬ bI (some j').isSome = nI 0 from (show ¬ bI true = nI 0 by decide)), q3]
      by_cases e : j' = j
      · subst e
        rw [if_pos rfl]
        have := ih (k + 1) n (u + 1) (by omega)
        rw [show u + 1 + ((List.range' (k + 1) m).filter fun p => decide (Q p = some j')).length = u + (((List.range' (k + 1) m).filter fun p => decide (Q p = some j')).length + 1) by omega] at this
        rw [this, if_pos (by simp)]
        rfl
      · rw [if_neg (by rw [nI_eq (by omega) (by omega)]; exact e), ih (k + 1) n u (by omega), if_neg (by simp [e])]
theorem TA.t168 (hT : TA A M h) (hQ : RQ Q M) (hj : j < 4) : ag_run gT (d + 1) 168 [.inr (some 230), .inl (nI j)] h = some (.inl (some (.inl (nI (usr Q j)))), h) := by
  have := t168_4 (d := d) hT hQ hj 4 0 3995 0 (by omega)
  rw [Nat.zero_add] at this
  rw [r168]
  unfold f168 usr
  rw [lit_0, List.range_eq_range']
  exact this
theorem t169_4 (hT : TA A M h) (hQ : RQ Q M) : ∀ (m k n u : Nat), k + m = 4 → g169 (ag_run gT d) (n + m + 1) (some 230) (nI u) (nI k) h = some (.inl (some (.inl (nI (u + ((List.range' k m).filter fun p => (Q p).isSome).length)))), h) := by
  intro m
  induction m with
  | zero =>
    intro k n u hk
    show f169_4 _ _ _ _ _ _ = _
    unfold f169_4
    rw [lit_4, if_pos (nI_le (by omega) (by omega))]
    rfl
  | succ m ih =>
    intro k n u hk
    rw [show n + (m + 1) + 1 = (n + m + 1) + 1 by omega]
    show f169_4 _ _ _ _ _ _ = _
    unfold f169_4 f169_25
    rw [lit_4, lit_0, lit_1, if_neg (nI_ge (by omega) (by omega)), hT.rR (k := 29) (b := 253) rfl rfl, hT.rx (a := 253) (c := 102) (i := k) rfl (show k < 4 by omega), (hQ k (by omega)).1, nI_add, nI_add, List.range'_succ, List.filter_cons]
    cases hb : Q k with
    | none => exact ih (k + 1) n u (by omega)
    | some j =>
      have := ih (k + 1) n (u + 1) (by omega)
      rw [show u + 1 + ((List.range' (k + 1) m).filter fun p => (Q p).isSome).length = u + (((List.range' (k + 1) m).filter fun p => (Q p).isSome).length + 1) by omega] at this
      exact this
theorem TA.t169 (hT : TA A M h) (hQ : RQ Q M) : ag_run gT (d + 1) 169 [.inr (some 230)] h = some (.inl (some (.inl (nI (npr Q)))), h) := by
  have := t169_4 (d := d) hT hQ 4 0 3995 0 (by omega)
  rw [Nat.zero_add] at this
  rw [r169]
  unfold f169 npr
  rw [lit_0, List.range_eq_range']
  exact this
/-- closing, where no handle is a root's -/
theorem t156_h (ho : o < 20) {ms : List zM} (hl3 : ms.length ≤ 3) : ∀ (rest : List zM) (i n : Nat) (S : zS) (M : Nat → Nat → Int32) (h : ag_H), ms.drop i = rest → i ≤ ms.length → (∀ m ∈ rest, m.1 < 2 ∧ m.2.1 < 128 ∧ ¬ (m.1 = 0 ∧ m.2.1 = 0)) → TA A M h → RV S.1 M → RG S M → OL M o ms →
    ∃ h' M', g156 (ag_run gT (d + 3)) (n + rest.length + 1) (some 230) (nI o) (nI i) h = some (.inl none, h') ∧ TA A M' h' ∧ RV (kClA S rest).1 M' ∧ RG (kClA S rest) M' ∧ M' 255 o = nI 0 ∧ FO o M M' := by
  intro rest
  induction rest with
  | nil =>
    intro i n S M h hd hi hv hT hV hG hOL
    have := List.drop_eq_nil_iff.mp hd
    have T1 := hT.sx (a := 255) (c := 100) (i := o) rfl (nI 0)
    refine ⟨_, _, ?_, T1, hV.rows fun b y z1 z2 => up2_na (by omega), hG.congr (up2_na (by decide)) (up2_na (by decide)) (fun y => up2_na (by decide)) (fun y => up2_na (by decide)), up2_eq _ _ _ _, fun b y z1 z2 z3 z4 => up2_ne (by omega)⟩
    show f156_2 _ _ _ _ _ _ = _
    unfold f156_2
    rw [hT.rR (k := 31) (b := 255) rfl rfl, hT.rx (a := 255) (c := 100) (i := o) rfl (show o < 20 from ho), hOL.1, if_pos (nI_le (by omega) (by omega)), hT.rR (k := 31) (b := 255) rfl rfl, lit_0, hT.wx (a := 255) (c := 100) (i := o) rfl (show o < 20 from ho)]
  | cons m rest ih =>
    intro i n S M h hd hi hv hT hV hG hOL
    have hil : i < ms.length := by
      rcases Nat.lt_or_ge i ms.length with h1 | h1
      · exact h1
      · rw [List.drop_eq_nil_of_le h1] at hd; cases hd
    have hdr := drop_gM hil
    rw [hd] at hdr
    injection hdr with hm hrest
    obtain ⟨v1, v3, v0⟩ := hv m (by simp)
    obtain ⟨a1, a2⟩ := hOL.2 i hil
    rw [← hm] at a1 a2
    have k1 : kGo S m.1 m.2.1 = kCl S m.1 m.2.1 := if_neg v0
    obtain ⟨h1, M1, e1, T1, V1, G1, F1⟩ := hT.t132 (d := d) hV hG v1 v3
    rw [k1] at V1 G1
    obtain ⟨h2, M2, e2, T2, V2, G2, q2, F2⟩ := ih (i + 1) n (kCl S m.1 m.2.1) M1 h1 hrest.symm (by omega) (fun m' h' => hv m' (by simp [h'])) T1 V1 G1 (hOL.fx F1.w)
    refine ⟨h2, M2, ?_, T2, V2, G2, q2, F1.w.o.trans F2⟩
    rw [show n + (m :: rest).length + 1 = (n + rest.length + 1) + 1 by simp; omega]
    show f156_2 _ _ _ _ _ _ = _
    unfold f156_2
    rw [hT.rR (k := 31) (b := 255) rfl rfl, hT.rx (a := 255) (c := 100) (i := o) rfl (show o < 20 from ho), hOL.1, if_neg (nI_ge hil (by omega)), hT.rR (k := 33) (b := 257) rfl rfl, lit_3, lit_1, nI_mul, nI_add, hT.rx (a := 257) (c := 100) (i := 3 * o + i) rfl (show 3 * o + i < 60 by omega), a1, hT.rR (k := 34) (b := 258) rfl rfl, hT.rx (a := 258) (c := 100) (i := 3 * o + i) rfl (show 3 * o + i < 60 by omega), a2, hT.ra, e1, b_V, nI_add]
    exact e2
theorem TA.t156h (hT : TA A M h) (ho : o < 20) {ms : List zM} (hl3 : ms.length ≤ 3) (hv : ∀ m ∈ ms, m.1 < 2 ∧ m.2.1 < 128 ∧ ¬ (m.1 = 0 ∧ m.2.1 = 0)) (hV : RV S.1 M) (hG : RG S M) (hOL : OL M o ms) : ∃ h' M', ag_run gT (d + 4) 156 [.inr (some 230), .inl (nI o)] h = some (.inl none, h') ∧ TA A M' h' ∧ RV (kClA S ms).1 M' ∧ RG (kClA S ms) M' ∧ M' 255 o = nI 0 ∧ FO o M M' := by
  obtain ⟨h1, M1, e1, r1⟩ := t156_h (d := d) ho hl3 ms 0 (3999 - ms.length) S M h rfl (by omega) hv hT hV hG hOL
  refine ⟨h1, M1, ?_, r1⟩
  rw [r156]
  unfold f156
  rw [lit_0]
  rw [show 3999 - ms.length + ms.length + 1 = 4000 by omega] at e1
  exact e1
/-- a name space is emptied -/
theorem t171_68 (hp4 : p < 4) (hj : j < 4) {ps : List zP} (hl4 : ps.length ≤ 4) (hb : ∀ q ∈ ps, q.2.length ≤ 3) (hv : ∀ q ∈ ps, ∀ m ∈ q.2, m.1 < 2 ∧ m.2.1 < 128 ∧ ¬ (m.1 = 0 ∧ m.2.1 = 0)) : ∀ (rest : List zP) (k N : Nat) (S : zS) (M : Nat → Nat → Int32) (h : ag_H), ps.drop k = rest → k ≤ ps.length → TA A M h → RV S.1 M → RG S M → M 254 p = nI j → M 246 j = nI ps.length → (∀ i, k ≤ i → i < ps.length → PL M (4 * j + i) (ps.getD i dP).2) →
    ∃ h' M', (∀ b32 b68, (g171 (ag_run gT (d + 4)) (N + rest.length + 1)).2 (some 230) (nI p) (nI k) h = f171_115 (ag_run gT (d + 4)) b32 b68 (some 230) (nI p) h') ∧ TA A M' h' ∧ RV (kEs S rest).1 M' ∧ RG (kEs S rest) M' ∧ M' 246 j = nI 0 ∧ ∀ b y, (b < 234 ∨ 245 < b) → ¬ (b = 230 ∧ (y = 17 ∨ y = 19 ∨ y = 20 ∨ y = 21 ∨ y = 40)) → ¬ (b = 246 ∧ y = j) → ¬ (b = 249 ∧ 4 * j ≤ y ∧ y < 4 * j + 4) → M' b y = M b y := by
  intro rest
  induction rest with
  | nil =>
    intro k N S M h hd hk hT hV hG q1 p1 hL
    have := List.drop_eq_nil_iff.mp hd
    have T1 := hT.sx (a := 246) (c := 100) (i := j) rfl (nI 0)
    refine ⟨_, _, fun b32 b68 => ?_, T1, hV.rows fun b y z1 z2 => up2_na (by omega), hG.congr (up2_na (by decide)) (up2_na (by decide)) (fun y => up2_na (by decide)) (fun y => up2_na (by decide)), up2_eq _ _ _ _, fun b y z1 z2 z3 z4 => up2_ne z3⟩
    show f171_68 (ag_run gT (d + 4)) (g171 (ag_run gT (d + 4)) N).1 (g171 (ag_run gT (d + 4)) N).2 (some 230) (nI p) (nI k) h = _
    unfold f171_68
    rw [hT.rR (k := 22) (b := 246) rfl rfl, hT.rR (k := 30) (b := 254) rfl rfl, hT.rx (a := 254) (c := 100) (i := p) rfl (show p < 4 from hp4), q1, hT.rx (a := 246) (c := 100) (i := j) rfl (show j < 4 from hj), p1, if_pos (nI_le (by omega) (by omega)), hT.rR (k := 22) (b := 246) rfl rfl, hT.rR (k := 30) (b := 254) rfl rfl, hT.rx (a := 254) (c := 100) (i := p) rfl (show p < 4 from hp4), q1, lit_0, hT.wx (a := 246) (c := 100) (i := j) rfl (show j < 4 from hj)]
    rfl
  | cons q rest ih =>
    intro k N S M h hd hk hT hV hG q1 p1 hL
    have hil : k < ps.length := by
      rcases Nat.lt_or_ge k ps.length with h1 | h1
      · exact h1
      · rw [List.drop_eq_nil_of_le h1] at hd; cases hd
    have hdr : ps.drop k = ps.getD k dP :: ps.drop (k + 1) := by
      rw [List.drop_eq_getElem_cons hil]; simp [List.getD_eq_getElem?_getD, hil]
    rw [hd] at hdr
    injection hdr with hm hrest
    have hmem : q ∈ ps := by rw [hm]; exact getD_memP hil
    have hL0 := hL k (Nat.le_refl _) hil
    rw [← hm] at hL0
    obtain ⟨h1, M1, e1, T1, V1, G1, c1, F1⟩ := hT.t162 (d := d) (w := 4 * j + k) (by omega) (hb q hmem) (hv q hmem) hV hG hL0
    obtain ⟨h2, M2, e2, T2, V2, G2, c2, F2⟩ := ih (k + 1) N (kClA S q.2) M1 h1 hrest.symm (by omega) T1 V1 G1 (by rw [F1 _ _ (by omega) (by omega) (by omega)]; exact q1) (by rw [F1 _ _ (by omega) (by omega) (by omega)]; exact p1) (fun i h3 h4 => ⟨by rw [F1 _ _ (by omega) (by omega) (by omega)]; exact (hL i (by omega) h4).1, fun t ht => ⟨by rw [F1 _ _ (by omega) (by omega) (by omega)]; exact ((hL i (by omega) h4).2 t ht).1, by rw [F1 _ _ (by omega) (by omega) (by omega)]; exact ((hL i (by omega) h4).2 t ht).2.1, by rw [F1 _ _ (by omega) (by omega) (by omega)]; exact ((hL i (by omega) h4).2 t ht).2.2⟩⟩)
    refine ⟨h2, M2, fun b32 b68 => ?_, T2, V2, G2, c2, fun b y z1 z2 z3 z4 => by rw [F2 b y z1 z2 z3 z4, F1 b y z1 z2 (by omega)]⟩
    rw [show N + (q :: rest).length + 1 = (N + rest.length + 1) + 1 by simp; omega]
    show f171_68 (ag_run gT (d + 4)) (g171 (ag_run gT (d + 4)) (N + rest.length + 1)).1 (g171 (ag_run gT (d + 4)) (N + rest.length + 1)).2 (some 230) (nI p) (nI k) h = _
    unfold f171_68
    rw [hT.rR (k := 22) (b := 246) rfl rfl, hT.rR (k := 30) (b := 254) rfl rfl, hT.rx (a := 254) (c := 100) (i := p) rfl (show p < 4 from hp4), q1, hT.rx (a := 246) (c := 100) (i := j) rfl (show j < 4 from hj), p1, if_neg (nI_ge hil (by omega)), hT.rR (k := 30) (b := 254) rfl rfl, hT.rx (a := 254) (c := 100) (i := p) rfl (show p < 4 from hp4), q1, lit_4, lit_1, nI_mul, nI_add, nI_add, hT.ra, e1, b_V]
    exact e2 b32 b68
end REX

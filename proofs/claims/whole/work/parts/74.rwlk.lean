/-! THE REFERENCE: walks -/
def AC (M : Nat → Nat → Int32) (l4 : Int32) (ms : List zM) : Prop := (∃ y, l4 = nI y ∧ y < 16 ∧ ms.length ≤ 3 ∧ ∀ i, i < ms.length → M 250 (3 * y + i) = nI (ms.getD i dM).1 ∧ M 251 (3 * y + i) = nI (ms.getD i dM).2.1) ∨ (l4 = -1 ∧ ms.length = 1 ∧ M 230 38 = nI (ms.getD 0 dM).1 ∧ M 230 39 = nI (ms.getD 0 dM).2.1)
def isR {α β : Type} (x : α ⊕ β) : Bool := match x with
  | .inl _ => false
  | .inr _ => true
def wcd {α : Type} (x : Nat ⊕ α) : Nat := match x with
  | .inl e => if e = 100 then 2 else 1
  | .inr _ => 0
section RWLK
variable {A : zA} {M M' : Nat → Nat → Int32} {h : ag_H} {d s x i p f j : Nat} {S : zS} {P : Nat → List zP} {Q : Nat → Option Nat} {O : Nat → Nat → zU} {F L : List (Nat × Nat)} {W : zW}
theorem AC.fr {l4 : Int32} {ms : List zM} (hA : AC M l4 ms) (hF : FR M M') : AC M' l4 ms := by
  rcases hA with ⟨y, h1, h2, h3, h4⟩ | ⟨h1, h2, h3, h4⟩
  · exact Or.inl ⟨y, h1, h2, h3, fun i hi => ⟨by rw [hF _ _ (by decide) (by omega)]; exact (h4 i hi).1, by rw [hF _ _ (by decide) (by omega)]; exact (h4 i hi).2⟩⟩
  · exact Or.inr ⟨h1, h2, by rw [hF _ _ (by decide) (by decide)]; exact h3, by rw [hF _ _ (by decide) (by decide)]; exact h4⟩
theorem t141_62 {ns : List Nat} {k u : Nat} (hk : k < ns.length) {l4 : Int32} {ms : List zM} (hl3 : ms.length ≤ 3) (hl : L.length < 128) (hv : ∀ m ∈ ms, m.1 < 2 ∧ (m.1, m.2.1) ∈ L) : ∀ (rest : List zM) (i n : Nat) (S : zS) (M : Nat → Nat → Int32) (h : ag_H) (e : Nat) (l6 : Int32), ms.drop i = rest → i ≤ ms.length → OW S L → TA A M h → RV S.1 M → RG S M → AC M l4 ms → NM ns M → (M 230 20 = nI e ∨ rest ≠ []) →
    ∃ h' M' N l6', n ≤ N ∧ (g141 (ag_run gT (d + 3)) (n + rest.length + 1)).2 (some 230) (nI p) (nI u) (nI k) l4 (nI ms.length) l6 (nI 0) (nI i) h = f141_156 (ag_run gT (d + 3)) (g141 (ag_run gT (d + 3)) N).1 (g141 (ag_run gT (d + 3)) N).2 (some 230) (nI p) (nI u) (nI k) l6' (bI (isR (kWF (ns.getD k 0) rest S e).2)) h' ∧ TA A M' h' ∧ RV (kWF (ns.getD k 0) rest S e).1.1 M' ∧ RG (kWF (ns.getD k 0) rest S e).1 M' ∧ (∀ e', (kWF (ns.getD k 0) rest S e).2 = .inl e' → M' 230 20 = nI e') ∧ (∀ W', (kWF (ns.getD k 0) rest S e).2 = .inr W' → l6' = nI W'.1 ∧ M' 230 40 = nI W'.2.1) ∧ FR M M' := by
  intro rest
  induction rest with
  | nil =>
    intro i n S M h e l6 hd hi hO hT hV hG hA hN he
    have := List.drop_eq_nil_iff.mp hd
    refine ⟨h, M, n, l6, Nat.le_refl _, ?_, hT, hV, hG, fun e' h9 => (by cases h9; exact he.resolve_right (fun h => h rfl)), fun W' h9 => (by cases h9), FR.refl M⟩
    show f141_62 _ _ _ _ _ _ _ _ _ _ _ _ _ = _
    unfold f141_62
    rw [if_pos (nI_le (by omega) (by omega))]
    rfl
  | cons m rest ih =>
    intro i n S M h e l6 hd hi hO hT hV hG hA hN he
    have hil : i < ms.length := by
      rcases Nat.lt_or_ge i ms.length with h1 | h1
      · exact h1
      · rw [List.drop_eq_nil_of_le h1] at hd; cases hd
    have hdr := drop_gM hil
    rw [hd] at hdr
    injection hdr with hm hrest
    obtain ⟨v1, v2⟩ := hv m (by rw [hm]; exact gM_mem hil)
    have v3 := hO.lt v1 v2
    obtain ⟨g, hg, hg1⟩ := hO.st v1 v2
    obtain ⟨f1, -, -, -⟩ := hO.free v1 hl
    obtain ⟨hc8, hcM⟩ := hN.2.2 k hk
    have hn12 := hN.2.1
    obtain ⟨h1, M1, e1, T1, V1, G1, q1, n1, F1⟩ := hT.t125n (d := d) hV v1 (hO.1 m.1 v1) v3 hg f1 hc8
    -- the message goes out, to the right handle
    have st : (g141 (ag_run gT (d + 3)) (n + (m :: rest).length + 1)).2 (some 230) (nI p) (nI u) (nI k) l4 (nI ms.length) l6 (nI 0) (nI i) h = (g141 (ag_run gT (d + 3)) (n + rest.length + 1)).2 (some 230) (nI p) (nI u) (nI k) l4 (nI ms.length) (nI m.1) (bI (isR (oWN (S.1 m.1) m.2.1 (ns.getD k 0)))) (nI (i + 1)) h1 := by
      rw [show n + (m :: rest).length + 1 = (n + rest.length + 1) + 1 by simp; omega]
      show f141_62 _ _ _ _ _ _ _ _ _ _ _ _ _ = _
      unfold f141_62 f141_98 f141_127 f141_148
      rw [if_neg (nI_ge hil (by omega)), lit_0, lit_1, lit_3, nI_add, if_pos rfl]
      have tail : (ag_gR h (some 230) 11 5 fun x1 => ag_xI h x1 100 (nI k) fun x2 => ag_at h (some 230) 11 fun a3 _ => ag_bV (ag_run gT (d + 3) 125 [.inr (some a3), .inl (nI m.1), .inl (nI m.2.1), .inl x2] h) fun h4 => ag_gI h4 (some 230) 11 20 fun x5 => if x5 = nI 0 then (g141 (ag_run gT (d + 3)) (n + rest.length + 1)).2 (some 230) (nI p) (nI u) (nI k) l4 (nI ms.length) (nI m.1) (nI 1) (nI (i + 1)) h4 else (g141 (ag_run gT (d + 3)) (n + rest.length + 1)).2 (some 230) (nI p) (nI u) (nI k) l4 (nI ms.length) (nI m.1) (nI 0) (nI (i + 1)) h4) = (g141 (ag_run gT (d + 3)) (n + rest.length + 1)).2 (some 230) (nI p) (nI u) (nI k) l4 (nI ms.length) (nI m.1) (bI (isR (oWN (S.1 m.1) m.2.1 (ns.getD k 0)))) (nI (i + 1)) h1 := by
        rw [hT.rR (k := 5) (b := 233) rfl rfl, hT.rx (a := 233) (c := 100) (i := k) rfl (show k < 12 by omega), hcM, hT.ra, e1, b_V, T1.rI (k := 20) rfl, q1]
        cases ho : oWN (S.1 m.1) m.2.1 (ns.getD k 0) with
        | inl e9 =>
          have := oWN_e ho
          rw [if_neg (show ¬ eI (Sum.inl e9 : Nat ⊕ Nat) = nI 0 by show ¬ nI e9 = nI 0; rw [nI_eq (by omega) (by omega)]; omega)]
          rfl
        | inr g9 =>
          rw [if_pos (show eI (Sum.inr g9 : Nat ⊕ Nat) = nI 0 from rfl)]
          rfl
      rcases hA with ⟨y, rfl, y16, y3, hy⟩ | ⟨rfl, hy1, hy2, hy3⟩
      · obtain ⟨a1, a2⟩ := hy i hil
        rw [← hm] at a1 a2
        rw [if_pos (nI_le (by omega) (by omega)), hT.rR (k := 26) (b := 250) rfl rfl, nI_mul, nI_add, hT.rx (a := 250) (c := 100) (i := 3 * y + i) rfl (show 3 * y + i < 48 by omega), a1, if_pos (nI_le (by omega) (by omega)), hT.rR (k := 27) (b := 251) rfl rfl, hT.rx (a := 251) (c := 100) (i := 3 * y + i) rfl (show 3 * y + i < 48 by omega), a2]
        exact tail
      · have hi0 : i = 0 := by omega
        subst hi0
        rw [← hm] at hy2 hy3
        rw [if_neg (show ¬ nI 0 ≤ (-1 : Int32) by decide), hT.rI (k := 38) rfl, hy2, if_neg (show ¬ nI 0 ≤ (-1 : Int32) by decide), hT.rI (k := 39) rfl, hy3]
        exact tail
    rw [st]
    have A1 := hA.fr F1
    have N1 := hN.fw F1.w
    unfold kWF
    cases ho : oWN (S.1 m.1) m.2.1 (ns.getD k 0) with
    | inl e9 =>
      rw [ho] at q1
      obtain ⟨h2, M2, N2, l2, i1, i2, i3, i4, i5, i6, i7, i8⟩ := ih (i + 1) n (kWN S m.1 m.2.1 (ns.getD k 0)) M1 h1 e9 (nI m.1) hrest.symm (by omega) (hO.wn_no v1 ho) T1 V1 G1 A1 N1 (Or.inl q1)
      exact ⟨h2, M2, N2, l2, i1, i2, i3, i4, i5, i6, i7, F1.trans i8⟩
    | inr g9 =>
      refine ⟨h1, M1, n + rest.length, nI m.1, by omega, ?_, T1, V1, G1, fun e' h9 => (by cases h9), fun W' h9 => (by cases h9; exact ⟨rfl, n1⟩), F1⟩
      show f141_62 _ _ _ _ _ _ _ _ _ _ _ _ _ = _
      unfold f141_62
      rw [lit_0, if_neg (show ¬ bI (isR (Sum.inr g9 : Nat ⊕ Nat)) = nI 0 from (show ¬ bI true = nI 0 by decide))]
      split <;> rfl
theorem t141_12 {ns : List Nat} {u : Nat} (hu : u ≤ ns.length) (hB : PB P) (hp9 : p < 4) (hq : Q p = some j) (h0 : (0, 0) ∈ F) (hl : F.length + 1 < 128) (hP : PM P j F) : ∀ (m k N : Nat) (S : zS) (W : zW) (M : Nat → Nat → Int32) (h : ag_H), k + m = u → 5 * m + 1 ≤ N → OW S (fl W ++ F) → WK S W → TA A M h → RV S.1 M → RG S M → RP P M → RQ Q M → NM ns M → M 230 38 = nI W.1 → M 230 39 = nI W.2.1 →
    ∃ h' M', (g141 (ag_run gT (d + 3)) N).1 (some 230) (nI p) (nI u) (nI k) h = some (.inl (some (.inl (nI (wcd (kWk P j ((ns.take u).drop k) S W).2)))), h') ∧ TA A M' h' ∧ RV (kWk P j ((ns.take u).drop k) S W).1.1 M' ∧ RG (kWk P j ((ns.take u).drop k) S W).1 M' ∧ (∀ W', (kWk P j ((ns.take u).drop k) S W).2 = .inr W' → M' 230 38 = nI W'.1 ∧ M' 230 39 = nI W'.2.1) ∧ FX M M' := by
  intro m
  induction m with
  | zero =>
    intro k N S W M h hk hN9 hO hW hT hV hG hRP hRQ hN h8 h9
    have hn12 := hN.2.1
    obtain ⟨N1, rfl⟩ : ∃ N1, N = N1 + 1 := ⟨N - 1, by omega⟩
    rw [List.drop_eq_nil_of_le (by rw [List.length_take]; omega)]
    refine ⟨h, M, ?_, hT, hV, hG, fun W' h => (by cases h; exact ⟨h8, h9⟩), FX.refl M⟩
    show f141_12 _ _ _ _ _ _ _ _ = _
    unfold f141_12
    rw [if_pos (nI_le (by omega) (by omega)), lit_0]
    rfl
  | succ m ih =>
    intro k N S W M h hk hN9 hO hW hT hV hG hRP hRQ hN h8 h9
    have hn12 := hN.2.1
    obtain ⟨N1, rfl⟩ : ∃ N1, N = N1 + 1 := ⟨N - 1, by omega⟩
    have hkl : k < ns.length := by omega
    have hlt : k < (ns.take u).length := by rw [List.length_take]; omega
    have hg : (ns.take u).getD k 0 = ns.getD k 0 := by
      rw [List.getD_eq_getElem?_getD, List.getD_eq_getElem?_getD, List.getElem?_take, if_pos (by omega)]
    rw [drop_getD hlt, hg, kWk_cons]
    have hm := fl_mem (W := W) h0
    have hx := hO.lt hW.1 hm
    have hVW := hO.1 W.1 hW.1
    have hi1 := hVW.2.2.2.1 _ _ hW.2.1
    have hi3 : W.2.2.1 < 300 := by have := hVW.2.1; omega
    have hfl := fl_len W F
    have e1 := hT.t140 (d := d + 2) hV hRP hB hRQ hp9 hq hW.1 (by omega) hW.2.1 hi3
    have hj4 := ((hRQ p hp9).2 j hq).2
    obtain ⟨bl, bq⟩ := hB j hj4
    -- the list of handles
    have hst := stM_ok hP hW.1 hm
    have key : ∃ l4, AC M l4 (stM P j W) ∧ (stM P j W).length ≤ 3 ∧ stM P j W ≠ [] ∧ (g141 (ag_run gT (d + 3)) (N1 + 1)).1 (some 230) (nI p) (nI u) (nI k) h = (g141 (ag_run gT (d + 3)) (N1 + 1)).2 (some 230) (nI p) (nI u) (nI k) l4 (nI (stM P j W).length) (nI W.1) (nI 0) (nI 0) h := by
      have st : (g141 (ag_run gT (d + 3)) (N1 + 1)).1 (some 230) (nI p) (nI u) (nI k) h = if nI 0 ≤ wP j (pidx (P j) W.1 W.2.2.1) then (ag_gR h (some 230) 11 25 fun x6 => ag_xI h x6 100 (wP j (pidx (P j) W.1 W.2.2.1)) fun x7 => (g141 (ag_run gT (d + 3)) (N1 + 1)).2 (some 230) (nI p) (nI u) (nI k) (wP j (pidx (P j) W.1 W.2.2.1)) x7 (nI W.1) (nI 0) (nI 0) h) else (g141 (ag_run gT (d + 3)) (N1 + 1)).2 (some 230) (nI p) (nI u) (nI k) (wP j (pidx (P j) W.1 W.2.2.1)) (nI 1) (nI W.1) (nI 0) (nI 0) h := by
        show f141_12 _ _ _ _ _ _ _ _ = _
        unfold f141_12 f141_48
        rw [if_neg (nI_ge (by omega) (by omega)), hT.rI (k := 38) rfl, h8, hT.rI (k := 39) rfl, h9, hT.ra, e1, b_I, lit_0, lit_1]
        have hr38 : ∀ K : Int32 → ag_R, ag_gI h (some 230) 11 38 K = K (nI W.1) := fun K => by rw [hT.rI (k := 38) rfl, h8]
        simp only [hr38]
        rfl
      rw [st]
      unfold stM
      cases hpx : pidx (P j) W.1 W.2.2.1 with
      | none => exact ⟨-1, Or.inr ⟨rfl, rfl, h8, h9⟩, by show 1 ≤ 3; decide, by simp, by rw [if_neg (show ¬ nI 0 ≤ wP j none from (show ¬ nI 0 ≤ (-1 : Int32) by decide))]; rfl⟩
      | some k' =>
        have hkl' := pidx_lt hpx
        obtain ⟨c1, c2, c3, c4⟩ := bq _ (getD_memP hkl')
        obtain ⟨l1, l2, l3, l5⟩ := (hRP j hj4).2 k' hkl'
        refine ⟨nI (4 * j + k'), Or.inl ⟨4 * j + k', rfl, by omega, c3, fun i hi => ⟨(l5 i hi).1, (l5 i hi).2.1⟩⟩, c3, c4, ?_⟩
        rw [if_pos (show nI 0 ≤ wP j (some k') from nI_le (by omega) (by omega)), hT.rR (k := 25) (b := 249) rfl rfl]
        show ag_xI h (some 249) 100 (nI (4 * j + k')) _ = _
        rw [hT.rx (a := 249) (c := 100) (i := 4 * j + k') rfl (show 4 * j + k' < 16 by omega), l3]
        rfl
    obtain ⟨l4, hAC, hl3, hne, e2⟩ := key
    rw [e2, show N1 + 1 = (N1 - (stM P j W).length) + (stM P j W).length + 1 by omega]
    obtain ⟨h3, M3, N3, l6, i1, i2, T3, V3, G3, i6, i7, F3⟩ := t141_62 (d := d) (p := p) (u := u) (L := fl W ++ F) hkl hl3 (by omega) hst (stM P j W) 0 (N1 - (stM P j W).length) S M h 110 (nI W.1) rfl (by omega) hO hT hV hG hAC hN (Or.inr hne)
    rw [i2]
    obtain ⟨st1, st2⟩ := wk_step hO h0 hl hW hP (ns.getD k 0)
    have h83 : M3 230 38 = nI W.1 := by rw [F3 _ _ (by decide) (by decide)]; exact h8
    have h93 : M3 230 39 = nI W.2.1 := by rw [F3 _ _ (by decide) (by decide)]; exact h9
    obtain ⟨h4, M4, e4, T4, V4, G4, F4⟩ := T3.t132 (d := d) V3 G3 hW.1 hx
    unfold f141_156 f141_197
    rw [T3.rI (k := 20) rfl, T3.rI (k := 40) rfl, T3.rI (k := 38) rfl, h83, T3.rI (k := 39) rfl, h93, T3.ra, e4, b_V, lit_0, lit_1, lit_2, lit8_100]
    rcases hxx : kWF (ns.getD k 0) (stM P j W) S 110 with ⟨S', xx⟩
    rw [hxx] at st1 st2 i6 i7 V4 G4
    cases xx with
    | inl e =>
      have he := (st1 e rfl).2
      rw [i6 e rfl, if_pos (show bI (isR (Sum.inl e : Nat ⊕ zW)) = nI 0 from rfl)]
      refine ⟨h4, M4, ?_, T4, V4, G4, fun W' h9 => (by cases h9), F3.w.trans F4.w⟩
      rcases he with rfl | rfl
      · rw [if_neg (by decide)]; rfl
      · rw [if_pos rfl]; rfl
    | inr W1 =>
      obtain ⟨k1, k2⟩ := i7 W1 rfl
      obtain ⟨q1, q2, -⟩ := st2 W1 rfl
      rw [if_neg (show ¬ bI (isR (Sum.inr W1 : Nat ⊕ zW)) = nI 0 from (show ¬ bI true = nI 0 by decide)), k1, k2, T4.wI (k := 38) rfl]
      have T5 := T4.sI (k := 38) rfl (nI W1.1)
      rw [T5.wI (k := 39) rfl, nI_add]
      have T6 := T5.sI (k := 39) rfl (nI W1.2.1)
      have F6 : FX M4 (up2 (up2 M4 230 38 (nI W1.1)) 230 39 (nI W1.2.1)) := fun b y z1 z2 => by rw [up2_ne (by omega), up2_ne (by omega)]
      have FF := (F3.w.trans F4.w).trans F6
      obtain ⟨h7, M7, e7, T7, V7, G7, W7, F7⟩ := ih (k + 1) N3 (kGo S' W.1 W.2.1) W1 _ _ (by omega) (by omega) q1 q2 T6 ((V4.f230 (k := 38) (v := nI W1.1)).f230 (k := 39) (v := nI W1.2.1)) ⟨⟨by rw [up2_ni (by decide), up2_ni (by decide)]; exact G4.1.1, G4.1.2.1, fun i hi => by rw [up2_na (by decide), up2_na (by decide)]; exact G4.1.2.2 i hi⟩, ⟨by rw [up2_ni (by decide), up2_ni (by decide)]; exact G4.2.1, G4.2.2.1, fun i hi => by rw [up2_na (by decide), up2_na (by decide)]; exact G4.2.2.2 i hi⟩⟩ (hRP.fw FF) (hRQ.fw FF) (hN.fw FF) (by rw [up2_ni (by decide), up2_eq]) (up2_eq _ _ _ _)
      exact ⟨h7, M7, e7, T7, V7, G7, W7, FF.trans F7⟩
theorem TA.t141 (hT : TA A M h) {ns : List Nat} {u : Nat} (hu : u ≤ ns.length) (hB : PB P) (hp9 : p < 4) (hq : Q p = some j) (h0 : (0, 0) ∈ F) (hl : F.length + 1 < 128) (hP : PM P j F) (hO : OW S F) (hW : WK S bgn) (hV : RV S.1 M) (hG : RG S M) (hRP : RP P M) (hRQ : RQ Q M) (hN : NM ns M) :
    ∃ h' M', ag_run gT (d + 4) 141 [.inr (some 230), .inl (nI p), .inl (nI u)] h = some (.inl (some (.inl (nI (wcd (kWk P j (ns.take u) S bgn).2)))), h') ∧ TA A M' h' ∧ RV (kWk P j (ns.take u) S bgn).1.1 M' ∧ RG (kWk P j (ns.take u) S bgn).1 M' ∧ (∀ W', (kWk P j (ns.take u) S bgn).2 = .inr W' → M' 230 38 = nI W'.1 ∧ M' 230 39 = nI W'.2.1) ∧ FX M M' := by
  have hn12 := hN.2.1
  have T1 := hT.sI (k := 38) rfl (nI 0)
  have T2 := T1.sI (k := 39) rfl (nI 0)
  have F2 : FX M (up2 (up2 M 230 38 (nI 0)) 230 39 (nI 0)) := fun b y z1 z2 => by rw [up2_ne (by omega), up2_ne (by omega)]
  obtain ⟨h3, M3, e3, T3, V3, G3, W3, F3⟩ := t141_12 (d := d) (P := P) hu hB hp9 hq h0 hl hP u 0 4000 S bgn _ _ (by omega) (by omega) hO hW T2 ((hV.f230 (k := 38) (v := nI 0)).f230 (k := 39) (v := nI 0)) ⟨⟨by rw [up2_ni (by decide), up2_ni (by decide)]; exact hG.1.1, hG.1.2.1, fun i hi => by rw [up2_na (by decide), up2_na (by decide)]; exact hG.1.2.2 i hi⟩, ⟨by rw [up2_ni (by decide), up2_ni (by decide)]; exact hG.2.1, hG.2.2.1, fun i hi => by rw [up2_na (by decide), up2_na (by decide)]; exact hG.2.2.2 i hi⟩⟩ (hRP.fw F2) (hRQ.fw F2) (hN.fw F2) (by rw [up2_ni (by decide), up2_eq]; rfl) (by rw [up2_eq]; rfl)
  refine ⟨h3, M3, ?_, T3, V3, G3, W3, F2.trans F3⟩
  rw [r141]
  unfold f141
  rw [lit_0, hT.wI (k := 38) rfl, T1.wI (k := 39) rfl]
  exact e3
/-- what was walked to, to be kept -/
theorem TA.t143 (hT : TA A M h) (hO : OW S (fl W ++ F)) (h0 : (0, 0) ∈ F) (hl : F.length + 1 < 128) (hw : W.1 < 2) (hV : RV S.1 M) (hG : RG S M) (h8 : M 230 38 = nI W.1) (h9 : M 230 39 = nI W.2.1) : ∃ h' M', ag_run gT (d + 4) 143 [.inr (some 230)] h = some (.inl none, h') ∧ TA A M' h' ∧ RV (kOwn S W).1.1 M' ∧ RG (kOwn S W).1 M' ∧ M' 230 38 = nI W.1 ∧ M' 230 39 = nI (kOwn S W).2 ∧ FX M M' := by
  have hm := fl_mem (W := W) h0
  have hx := hO.lt hw hm
  have hfl := fl_len W F
  obtain ⟨g, hg, hg1⟩ := hO.st hw hm
  obtain ⟨f1, -, -, -⟩ := hO.free hw (by omega)
  rw [r143]
  unfold f143 f143_29 kOwn
  rw [hT.rI (k := 38) rfl, h8, lit_0, lit_m]
  by_cases e : W.1 = 0
  · rw [if_pos (by rw [e]), hT.rI (k := 39) rfl, h9]
    by_cases e2 : W.2.1 = 0
    · rw [if_pos (by rw [e2]), if_pos ⟨e, e2⟩]
      obtain ⟨h1, M1, e1, T1, V1, G1, q1, n1, F1⟩ := hT.t125s (d := d) hV hw (hO.1 W.1 hw) hx hg f1
      have T2 := T1.sI (k := 39) rfl (nI (fre S W.1))
      have e1 : ag_run gT (d + 3) 125 [.inr (some 230), .inl (nI 0), .inl (nI 0), .inl (-1)] h = some (.inl none, h1) := by
        rw [e, e2] at e1; exact e1
      refine ⟨_, _, ?_, T2, V1.f230, ⟨⟨by rw [up2_ni (by decide)]; exact G1.1.1, G1.1.2.1, fun i hi => by rw [up2_na (by decide)]; exact G1.1.2.2 i hi⟩, ⟨by rw [up2_ni (by decide)]; exact G1.2.1, G1.2.2.1, fun i hi => by rw [up2_na (by decide)]; exact G1.2.2.2 i hi⟩⟩, by rw [up2_ni (by decide), F1 _ _ (by decide) (by decide)]; exact h8, up2_eq _ _ _ _, F1.w.trans fun b y z1 z2 => up2_ne (by omega)⟩
      rw [hT.ra, e1, b_V, T1.rI (k := 40) rfl, n1, T1.wI (k := 39) rfl]
    · rw [if_neg (by rw [nI_eq (by omega) (by omega)]; exact e2), if_neg (fun h => e2 h.2)]
      exact ⟨h, M, rfl, hT, hV, hG, h8, h9, FX.refl M⟩
  · rw [if_neg (by rw [nI_eq (by omega) (by omega)]; exact e), if_neg (fun h => e h.1)]
    exact ⟨h, M, rfl, hT, hV, hG, h8, h9, FX.refl M⟩
end RWLK

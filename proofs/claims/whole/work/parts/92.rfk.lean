/-! THE REFERENCE'S METHODS: fork -/
section RFK
variable {A : zA} {M M' M1 : Nat → Nat → Int32} {h : ag_H} {d s x i p f j o w k q : Nat} {S S' : zS} {P : Nat → List zP} {Q : Nat → Option Nat} {O : Nat → Nat → zU} {F L G : List (Nat × Nat)} {W : zW} {X : List Nat × List Nat}
/-- the members of one place -/
theorem t170_201 {l3 l4 l5 l6 : Int32} {w' : Nat} (hw : w < 16) (hw' : w' < 16) (hne : w ≠ w') {ms : List zM} (hl3 : ms.length ≤ 3) : ∀ (rest : List zM) (t N : Nat) (S : zS) (M : Nat → Nat → Int32) (h : ag_H) (acc : List zM) (F : List (Nat × Nat)), ms.drop t = rest → t ≤ ms.length → acc.length = t → OW S F → F.length + rest.length ≤ 128 → (∀ m ∈ rest, m.1 < 2 ∧ (m.1, m.2.1) ∈ F) → TA A M h → RV S.1 M → RG S M → PL M w ms → PL M w' acc →
    ∃ h' M', (g170 (ag_run gT (d + 3)) (N + rest.length + 1)).2.2.2 (some 230) l3 l4 l5 l6 (nI w) (nI w') (nI t) h = (g170 (ag_run gT (d + 3)) N).2.2.1 (some 230) l3 l4 l5 (l6 + nI 1) h' ∧ TA A M' h' ∧ RV (kCpy rest S).1.1 M' ∧ RG (kCpy rest S).1 M' ∧ PL M' w' (acc ++ (kCpy rest S).2) ∧ FT w' M M' := by
  intro rest
  induction rest with
  | nil =>
    intro t N S M h acc F hd ht ha hO hF hv hT hV hG hL hL'
    have := List.drop_eq_nil_iff.mp hd
    refine ⟨h, M, ?_, hT, hV, hG, by rw [show (kCpy [] S).2 = [] from rfl, List.append_nil]; exact hL', fun _ _ _ _ _ _ => rfl⟩
    show f170_201 (ag_run gT (d + 3)) (g170 (ag_run gT (d + 3)) N).1 (g170 (ag_run gT (d + 3)) N).2.1 (g170 (ag_run gT (d + 3)) N).2.2.1 (g170 (ag_run gT (d + 3)) N).2.2.2 (some 230) l3 l4 l5 l6 (nI w) (nI w') (nI t) h = _
    unfold f170_201
    rw [hT.rR (k := 25) (b := 249) rfl rfl, hT.rx (a := 249) (c := 100) (i := w) rfl (show w < 16 from hw), hL.1, if_pos (nI_le (by omega) (by omega)), lit_1]
  | cons m rest ih =>
    intro t N S M h acc F hd ht ha hO hF hv hT hV hG hL hL'
    have hil : t < ms.length := by
      rcases Nat.lt_or_ge t ms.length with h1 | h1
      · exact h1
      · rw [List.drop_eq_nil_of_le h1] at hd; cases hd
    have hdr := drop_gM hil
    rw [hd] at hdr
    injection hdr with hm hrest
    obtain ⟨v1, v2⟩ := hv m (by simp)
    have hF1 : F.length + (rest.length + 1) ≤ 128 := hF
    obtain ⟨a1, a2, a3⟩ := hL.2 t hil
    rw [← hm] at a1 a2 a3
    have hx := hO.lt v1 v2
    obtain ⟨g, hg, -⟩ := hO.st v1 v2
    obtain ⟨f1, -, -, -⟩ := hO.free v1 (by omega)
    obtain ⟨h1, M1, e1, T1, V1, G1, c1, n1, F1⟩ := hT.t125s (d := d) hV v1 (hO.1 m.1 v1) hx hg f1
    have L1 := hL.fx F1.w
    obtain ⟨b1, b2, b3⟩ := L1.2 t hil
    rw [← hm] at b1 b2 b3
    obtain ⟨h2, M2, e2, T2, L2, F2⟩ := T1.t161b (d := d + 2) (m := (m.1, fre S m.1, m.2.2)) hw' (by omega) (hL'.fx F1.w)
    rw [ha] at e2
    have e2 : ag_run gT (d + 3) 161 [.inr (some 230), .inl (nI w'), .inl (nI t), .inl (nI m.1), .inl (nI (fre S m.1)), .inl (bI m.2.2)] h1 = some (.inl none, h2) := e2
    obtain ⟨V2, G2⟩ := F2.vg V1 G1
    have L2w : PL M2 w ms := ⟨by rw [F2 _ _ (by omega) (by omega)]; exact L1.1, fun y hy => ⟨by rw [F2 _ _ (by omega) (by omega)]; exact (L1.2 y hy).1, by rw [F2 _ _ (by omega) (by omega)]; exact (L1.2 y hy).2.1, by rw [F2 _ _ (by omega) (by omega)]; exact (L1.2 y hy).2.2⟩⟩
    obtain ⟨h3, M3, e3, T3, V3, G3, L3, F3⟩ := ih (t + 1) N (kSame S m.1 m.2.1) M2 h2 (acc ++ [(m.1, fre S m.1, m.2.2)]) ((m.1, fre S m.1) :: F) hrest.symm (by omega) (by rw [List.length_append, ha]; rfl) (hO.same v1 v2 (by omega)) (by simp; omega) (fun m' h' => ⟨(hv m' (by simp [h'])).1, by simp [(hv m' (by simp [h'])).2]⟩) T2 V2 G2 L2w L2
    refine ⟨h3, M3, ?_, T3, V3, G3, ?_, (F1.w.t.trans F2.t).trans F3⟩
    · rw [show N + (m :: rest).length + 1 = (N + rest.length + 1) + 1 by simp; omega]
      show f170_201 (ag_run gT (d + 3)) (g170 (ag_run gT (d + 3)) (N + rest.length + 1)).1 (g170 (ag_run gT (d + 3)) (N + rest.length + 1)).2.1 (g170 (ag_run gT (d + 3)) (N + rest.length + 1)).2.2.1 (g170 (ag_run gT (d + 3)) (N + rest.length + 1)).2.2.2 (some 230) l3 l4 l5 l6 (nI w) (nI w') (nI t) h = _
      unfold f170_201
      rw [hT.rR (k := 25) (b := 249) rfl rfl, hT.rx (a := 249) (c := 100) (i := w) rfl (show w < 16 from hw), hL.1, if_neg (nI_ge hil (by omega)), hT.rR (k := 26) (b := 250) rfl rfl, lit_3, lit_1, lit_m, nI_mul, nI_add, hT.rx (a := 250) (c := 100) (i := 3 * w + t) rfl (show 3 * w + t < 48 by omega), a1, hT.rR (k := 27) (b := 251) rfl rfl, hT.rx (a := 251) (c := 100) (i := 3 * w + t) rfl (show 3 * w + t < 48 by omega), a2, hT.ra, e1, b_V, T1.rR (k := 26) (b := 250) rfl rfl, T1.rx (a := 250) (c := 100) (i := 3 * w + t) rfl (show 3 * w + t < 48 by omega), b1, T1.rI (k := 40) rfl, n1, T1.rR (k := 28) (b := 252) rfl rfl, T1.rx (a := 252) (c := 102) (i := 3 * w + t) rfl (show 3 * w + t < 48 by omega), b3, T1.ra, e2, b_V, nI_add]
      exact e3
    · rw [List.append_assoc] at L3
      exact L3
end RFK

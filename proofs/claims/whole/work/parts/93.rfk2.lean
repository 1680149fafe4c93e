section RFK2
variable {A : zA} {M M' M1 : Nat → Nat → Int32} {h : ag_H} {d s x i p f j o w k q : Nat} {S S' : zS} {P : Nat → List zP} {Q : Nat → Option Nat} {O : Nat → Nat → zU} {F L G : List (Nat × Nat)} {W : zW} {X : List Nat × List Nat}
def FK (i : Nat) (M M' : Nat → Nat → Int32) : Prop := ∀ b y, (b < 234 ∨ 245 < b) → ¬ (b = 230 ∧ (y = 17 ∨ y = 19 ∨ y = 20 ∨ y = 21 ∨ y = 40 ∨ y = 38 ∨ y = 39)) → ¬ (247 ≤ b ∧ b ≤ 249 ∧ 4 * i ≤ y ∧ y < 4 * i + 4) → ¬ (250 ≤ b ∧ b ≤ 252 ∧ 12 * i ≤ y ∧ y < 12 * i + 12) → M' b y = M b y
theorem FK.trans {M'' : Nat → Nat → Int32} (h1 : FK i M M') (h2 : FK i M' M'') : FK i M M'' := fun b y q1 q2 q3 q4 => (h2 b y q1 q2 q3 q4).trans (h1 b y q1 q2 q3 q4)
theorem FK.pl (hF : FK i M M') {j' k' : Nat} (hj : j' ≠ i) (hk : k' < 4) {q' : zP} (hl : q'.2.length ≤ 3) (hP : RPl M (4 * j' + k') q') : RPl M' (4 * j' + k') q' := hP.c2 hl (fun b h1 h2 => hF _ _ (by omega) (by omega) (by omega) (by omega)) (fun b y h1 h2 h3 h4 => hF _ _ (by omega) (by omega) (by omega) (by omega))
/-- the places of a name space -/
theorem t170_132 {ps : List zP} (hi : i < 4) (hj : j < 4) (hij : j ≠ i) (hl4 : ps.length ≤ 4) (hb : ∀ q ∈ ps, q.2.length ≤ 3) : ∀ (rest : List zP) (k N : Nat) (S : zS) (M : Nat → Nat → Int32) (h : ag_H) (acc : List zP) (F : List (Nat × Nat)), ps.drop k = rest → k ≤ ps.length → acc.length = k → (∀ q ∈ acc, q.2.length ≤ 3) → OW S F → F.length + 3 * rest.length ≤ 128 → (∀ q ∈ rest, ∀ m ∈ q.2, m.1 < 2 ∧ (m.1, m.2.1) ∈ F) → 5 * rest.length + 1 ≤ N → TA A M h → RV S.1 M → RG S M → M 246 j = nI ps.length → (∀ k', k ≤ k' → k' < ps.length → RPl M (4 * j + k') (ps.getD k' dP)) → (∀ k', k' < k → RPl M (4 * i + k') (acc.getD k' dP)) →
    ∃ h' M', (g170 (ag_run gT (d + 3)) N).2.2.1 (some 230) (nI q) (nI i) (nI j) (nI k) h = some (.inl (some (.inl (nI q))), h') ∧ TA A M' h' ∧ RV (kCs rest S).1.1 M' ∧ RG (kCs rest S).1 M' ∧ (∀ k', k' < ps.length → RPl M' (4 * i + k') ((acc ++ (kCs rest S).2).getD k' dP)) ∧ (acc ++ (kCs rest S).2).length = ps.length ∧ FK i M M' := by
  intro rest
  induction rest with
  | nil =>
    intro k N S M h acc F hd hk ha hac hO hF hv hN hT hV hG p1 hL hL'
    have := List.drop_eq_nil_iff.mp hd
    obtain ⟨N, rfl⟩ : ∃ N', N = N' + 1 := ⟨N - 1, by omega⟩
    refine ⟨h, M, ?_, hT, hV, hG, fun k' hk' => ?_, ?_, fun _ _ _ _ _ _ => rfl⟩
    · show f170_132 (ag_run gT (d + 3)) (g170 (ag_run gT (d + 3)) N).1 (g170 (ag_run gT (d + 3)) N).2.1 (g170 (ag_run gT (d + 3)) N).2.2.1 (g170 (ag_run gT (d + 3)) N).2.2.2 (some 230) (nI q) (nI i) (nI j) (nI k) h = _
      unfold f170_132
      rw [hT.rR (k := 22) (b := 246) rfl rfl, hT.rx (a := 246) (c := 100) (i := j) rfl (show j < 4 from hj), p1, if_pos (nI_le (by omega) (by omega))]
    · rw [show (kCs [] S).2 = [] from rfl, List.append_nil]; exact hL' k' (by omega)
    · rw [show (kCs [] S).2 = [] from rfl, List.append_nil]; omega
  | cons r rest ih =>
    intro k N S M h acc F hd hk ha hac hO hF hv hN hT hV hG p1 hL hL'
    have hN : 5 * (rest.length + 1) + 1 ≤ N := hN
    have hF : F.length + 3 * (rest.length + 1) ≤ 128 := hF
    have hil : k < ps.length := by
      rcases Nat.lt_or_ge k ps.length with h1 | h1
      · exact h1
      · rw [List.drop_eq_nil_of_le h1] at hd; cases hd
    have hdr : ps.drop k = ps.getD k dP :: ps.drop (k + 1) := by
      rw [List.drop_eq_getElem_cons hil]; simp [List.getD_eq_getElem?_getD, hil]
    rw [hd] at hdr
    injection hdr with hm hrest
    have hmem : r ∈ ps := by rw [hm]; exact getD_memP hil
    have r3 := hb r hmem
    obtain ⟨l1, l2, l3, l4⟩ := hL k (Nat.le_refl _) hil
    rw [← hm] at l1 l2 l3 l4
    have T1 := hT.sx (a := 247) (c := 100) (i := 4 * i + k) rfl (nI r.1.1)
    have T2 := T1.sx (a := 248) (c := 100) (i := 4 * i + k) rfl (nI r.1.2)
    have T3 := T2.sx (a := 249) (c := 100) (i := 4 * i + k) rfl (nI 0)
    have F3 : ∀ b y, ¬ (247 ≤ b ∧ b ≤ 249 ∧ y = 4 * i + k) → up2 (up2 (up2 M 247 (4 * i + k) (nI r.1.1)) 248 (4 * i + k) (nI r.1.2)) 249 (4 * i + k) (nI 0) b y = M b y := fun b y z => by rw [up2_ne (by omega), up2_ne (by omega), up2_ne (by omega)]
    have c7 : up2 (up2 (up2 M 247 (4 * i + k) (nI r.1.1)) 248 (4 * i + k) (nI r.1.2)) 249 (4 * i + k) (nI 0) 247 (4 * i + k) = nI r.1.1 := by rw [up2_na (by decide), up2_na (by decide)]; exact up2_eq _ _ _ _
    have c8 : up2 (up2 (up2 M 247 (4 * i + k) (nI r.1.1)) 248 (4 * i + k) (nI r.1.2)) 249 (4 * i + k) (nI 0) 248 (4 * i + k) = nI r.1.2 := by rw [up2_na (by decide)]; exact up2_eq _ _ _ _
    have c9 : up2 (up2 (up2 M 247 (4 * i + k) (nI r.1.1)) 248 (4 * i + k) (nI r.1.2)) 249 (4 * i + k) (nI 0) 249 (4 * i + k) = nI 0 := up2_eq _ _ _ _
    obtain ⟨N, rfl⟩ : ∃ N', N = N' + r.2.length + 1 := ⟨N - (r.2.length + 1), by omega⟩
    have st : (g170 (ag_run gT (d + 3)) (N + r.2.length + 1)).2.2.1 (some 230) (nI q) (nI i) (nI j) (nI k) h = (g170 (ag_run gT (d + 3)) (N + r.2.length + 1)).2.2.2 (some 230) (nI q) (nI i) (nI j) (nI k) (nI (4 * j + k)) (nI (4 * i + k)) (nI 0) (hse (hse (hse h 247 (4 * i + k) (nI r.1.1)) 248 (4 * i + k) (nI r.1.2)) 249 (4 * i + k) (nI 0)) := by
      show f170_132 (ag_run gT (d + 3)) (g170 (ag_run gT (d + 3)) (N + r.2.length)).1 (g170 (ag_run gT (d + 3)) (N + r.2.length)).2.1 (g170 (ag_run gT (d + 3)) (N + r.2.length)).2.2.1 (g170 (ag_run gT (d + 3)) (N + r.2.length)).2.2.2 (some 230) (nI q) (nI i) (nI j) (nI k) h = f170_201 (ag_run gT (d + 3)) (g170 (ag_run gT (d + 3)) (N + r.2.length)).1 (g170 (ag_run gT (d + 3)) (N + r.2.length)).2.1 (g170 (ag_run gT (d + 3)) (N + r.2.length)).2.2.1 (g170 (ag_run gT (d + 3)) (N + r.2.length)).2.2.2 (some 230) (nI q) (nI i) (nI j) (nI k) (nI (4 * j + k)) (nI (4 * i + k)) (nI 0) _
      unfold f170_132
      rw [hT.rR (k := 22) (b := 246) rfl rfl, hT.rx (a := 246) (c := 100) (i := j) rfl (show j < 4 from hj), p1, if_neg (nI_ge hil (by omega)), lit_4, lit_0, nI_mul, nI_mul, nI_add, nI_add, hT.rR (k := 23) (b := 247) rfl rfl, hT.rR (k := 23) (b := 247) rfl rfl, hT.rx (a := 247) (c := 100) (i := 4 * j + k) rfl (show 4 * j + k < 16 by omega), l1, hT.wx (a := 247) (c := 100) (i := 4 * i + k) rfl (show 4 * i + k < 16 by omega), T1.rR (k := 24) (b := 248) rfl rfl, T1.rR (k := 24) (b := 248) rfl rfl, T1.rx (a := 248) (c := 100) (i := 4 * j + k) rfl (show 4 * j + k < 16 by omega), up2_na (by decide), l2, T1.wx (a := 248) (c := 100) (i := 4 * i + k) rfl (show 4 * i + k < 16 by omega), T2.rR (k := 25) (b := 249) rfl rfl, T2.wx (a := 249) (c := 100) (i := 4 * i + k) rfl (show 4 * i + k < 16 by omega)]
    generalize up2 (up2 (up2 M 247 (4 * i + k) (nI r.1.1)) 248 (4 * i + k) (nI r.1.2)) 249 (4 * i + k) (nI 0) = M3 at *
    generalize hse (hse (hse h 247 (4 * i + k) (nI r.1.1)) 248 (4 * i + k) (nI r.1.2)) 249 (4 * i + k) (nI 0) = h3 at *
    have V3 : RV S.1 M3 := hV.rows fun b y z1 z2 => F3 _ _ (by omega)
    have G3 : RG S M3 := hG.congr (F3 _ _ (by omega)) (F3 _ _ (by omega)) (fun y => F3 _ _ (by omega)) (fun y => F3 _ _ (by omega))
    have hvr := hv r (by simp)
    obtain ⟨h4, M4, e4, T4, V4, G4, L4, F4⟩ := t170_201 (d := d) (l3 := nI q) (l4 := nI i) (l5 := nI j) (l6 := nI k) (w := 4 * j + k) (w' := 4 * i + k) (by omega) (by omega) (by omega) r3 r.2 0 N S M3 h3 [] F rfl (by omega) rfl hO (by omega) hvr T3 V3 G3 ⟨by rw [F3 _ _ (by omega)]; exact l3, fun t ht => ⟨by rw [F3 _ _ (by omega)]; exact (l4 t ht).1, by rw [F3 _ _ (by omega)]; exact (l4 t ht).2.1, by rw [F3 _ _ (by omega)]; exact (l4 t ht).2.2⟩⟩ ⟨c9, fun t ht => absurd ht (Nat.not_lt_zero _)⟩
    have FK4 : FK i M M4 := fun b y z1 z2 z3 z4 => by rw [F4 b y z1 z2 (by omega) (by omega), F3 b y (by omega)]
    have hcl : (kCpy r.2 S).2.length = r.2.length := kCpy_len r.2 S
    have O4 := OW.cpy r.2 S F hO (by omega) hvr
    have new : RPl M4 (4 * i + k) (r.1, (kCpy r.2 S).2) := ⟨by rw [F4 _ _ (by omega) (by omega) (by omega) (by omega)]; exact c7, by rw [F4 _ _ (by omega) (by omega) (by omega) (by omega)]; exact c8, L4.1, L4.2⟩
    obtain ⟨h5, M5, e5, T5, V5, G5, L5, n5, F5⟩ := ih (k + 1) N (kCpy r.2 S).1 M4 h4 (acc ++ [(r.1, (kCpy r.2 S).2)]) ((kCpy r.2 S).2.map hp2 ++ F) hrest.symm (by omega) (by rw [List.length_append, ha]; rfl) (fun q hq => by
      rcases List.mem_append.mp hq with h9 | h9
      · exact hac q h9
      · rw [List.mem_singleton.mp h9]; show (kCpy r.2 S).2.length ≤ 3; omega) O4 (by rw [List.length_append, List.length_map, hcl]; omega) (fun q hq m hm => ⟨(hv q (by simp [hq]) m hm).1, List.mem_append_right _ (hv q (by simp [hq]) m hm).2⟩) (by omega) T4 V4 G4 (by rw [FK4 _ _ (by omega) (by omega) (by omega) (by omega)]; exact p1) (fun k' h1 h2 => FK4.pl hij (by omega) (hb _ (getD_memP h2)) (hL k' (by omega) h2)) (fun k' hk' => by
      rcases Nat.lt_or_ge k' k with h9 | h9
      · rw [show (acc ++ [(r.1, (kCpy r.2 S).2)]).getD k' dP = acc.getD k' dP by simp [List.getD_eq_getElem?_getD, List.getElem?_append_left (show k' < acc.length by omega)]]
        exact (hL' k' h9).c2 (hac _ (getD_memP (by omega))) (fun b h1 h2 => by rw [F4 _ _ (by omega) (by omega) (by omega) (by omega), F3 _ _ (by omega)]) (fun b y h1 h2 h3 h4 => by rw [F4 _ _ (by omega) (by omega) (by omega) (by omega), F3 _ _ (by omega)])
      · obtain rfl : k' = k := by omega
        rw [show (acc ++ [(r.1, (kCpy r.2 S).2)]).getD k' dP = (r.1, (kCpy r.2 S).2) by simp [List.getD_eq_getElem?_getD, ← ha]]
        exact new)
    refine ⟨h5, M5, ?_, T5, V5, G5, fun k' hk' => ?_, ?_, FK4.trans F5⟩
    · rw [nI_add] at e4
      exact st.trans (e4.trans e5)
    · have := L5 k' hk'
      rw [List.append_assoc] at this
      exact this
    · rw [List.append_assoc] at n5
      exact n5
end RFK2

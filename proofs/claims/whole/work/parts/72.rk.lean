/-! THE REFERENCE: texts, paths -/
def RX (X : List Nat × List Nat) (M : Nat → Nat → Int32) : Prop := M 230 0 = nI X.1.length ∧ X.1.length ≤ 24 ∧ (∀ x ∈ X.1, x < 65536) ∧ (∀ i, i < X.1.length → M 231 i = nI (X.1.getD i 0)) ∧ M 230 2 = nI X.2.length ∧ X.2.length ≤ 24 ∧ (∀ x ∈ X.2, x < 65536) ∧ ∀ i, i < X.2.length → M 232 i = nI (X.2.getD i 0)
def NM (ns : List Nat) (M : Nat → Nat → Int32) : Prop := M 230 4 = nI ns.length ∧ ns.length ≤ 12 ∧ ∀ i, i < ns.length → ns.getD i 0 < 8 ∧ M 233 i = nI (ns.getD i 0)
def tX (X : List Nat × List Nat) (b : Bool) : List Nat := bif b then X.2 else X.1
def chI (tx : List Nat) (k : Nat) : Int32 := if k < tx.length then nI (tx.getD k 0) else -1
def psU (r ns : List Nat) : Option (List Nat) := match r with
  | [] => none
  | b :: rest => if b = 46 then ps1 rest ns.dropLast else none
theorem ps1_c (a c : Nat) (r ns : List Nat) : ps1 (a :: c :: r) ns = if a = 47 then (if 97 ≤ c ∧ c ≤ 104 then ps1 r (ns ++ [c - 97]) else if c = 46 then psU r ns else none) else none := by
  rw [ps1.eq_def]
  rfl
section RK
variable {A : zA} {M M' : Nat → Nat → Int32} {h : ag_H} {d s x i : Nat} {X : List Nat × List Nat}
theorem RX.congr (hX : RX X M) (h0 : M' 230 0 = M 230 0) (h2 : M' 230 2 = M 230 2) (h1 : ∀ j, M' 231 j = M 231 j) (h3 : ∀ j, M' 232 j = M 232 j) : RX X M' := by
  obtain ⟨a, b, c, d, e, f, g, k⟩ := hX
  exact ⟨by rw [h0]; exact a, b, c, fun i hi => by rw [h1]; exact d i hi, by rw [h2]; exact e, f, g, fun i hi => by rw [h3]; exact k i hi⟩
theorem RX.fr (hX : RX X M) (hF : FR M M') : RX X M' := hX.congr (hF _ _ (by decide) (by decide)) (hF _ _ (by decide) (by decide)) (fun j => hF _ _ (by decide) (by omega)) (fun j => hF _ _ (by decide) (by omega))
theorem NM.congr {ns : List Nat} (hN : NM ns M) (h4 : M' 230 4 = M 230 4) (h3 : ∀ j, M' 233 j = M 233 j) : NM ns M' :=
  ⟨by rw [h4]; exact hN.1, hN.2.1, fun i hi => ⟨(hN.2.2 i hi).1, by rw [h3]; exact (hN.2.2 i hi).2⟩⟩
theorem out3 (v lo hi : Int32) : ag_run gT (d + 1) 114 [.inl v, .inl lo, .inl hi] h = some (.inl (some (.inl (bI (decide (v < lo ∨ ¬ v ≤ hi))))), h) := by
  rw [r114]
  unfold f114 f114_10 f114_15
  rw [lit_0, lit_1, b_B (x := nI 1) (Or.inr rfl), b_B (x := nI 0) (Or.inl rfl)]
  by_cases h1 : v < lo
  · rw [if_pos h1, decide_eq_true (Or.inl h1)]; rfl
  · rw [if_neg h1]
    by_cases h2 : v ≤ hi
    · rw [if_pos h2, decide_eq_false (fun h => h.elim h1 (fun h9 => h9 h2))]; rfl
    · rw [if_neg h2, decide_eq_true (Or.inr h2)]; rfl
theorem TA.t113 (hT : TA A M h) : ag_run gT (d + 1) 113 [.inr (some 230)] h = some (.inl (some (.inl (M 230 41))), h) := by
  rw [r113]
  unfold f113
  rw [hT.rI (k := 41) rfl]
/-- type -/
theorem TA.t135 (hT : TA A M h) (hX : RX X M) (hl : X.1.length < 24) {c : Nat} (hc : c < 65536) : ∃ h' M', ag_run gT (d + 1) 135 [.inr (some 230), .inl (nI c)] h = some (.inl (some (.inl (nI (X.1.length + 1)))), h') ∧ TA A M' h' ∧ RX (X.1 ++ [c], X.2) M' ∧ M' 230 41 = nI 0 ∧ ∀ b j, b ≠ 231 → ¬ (b = 230 ∧ (j = 0 ∨ j = 41)) → M' b j = M b j := by
  obtain ⟨x0, x1, x2, x3, x4, x5, x6, x7⟩ := hX
  have T1 := hT.sI (k := 41) rfl (nI 0)
  have g1 : up2 M 230 41 (nI 0) 230 0 = nI X.1.length := by rw [up2_ni (by decide)]; exact x0
  have T2 := T1.sx (a := 231) (c := 101) (i := X.1.length) rfl (nI c)
  have g2 : up2 (up2 M 230 41 (nI 0)) 231 X.1.length (nI c) 230 0 = nI X.1.length := by rw [up2_na (by decide)]; exact g1
  have T3 := T2.sI (k := 0) rfl (nI (X.1.length + 1))
  refine ⟨_, _, ?_, T3, ⟨by rw [up2_eq]; simp, by simp; omega, fun y hy => ?_, fun i hi => ?_, by rw [up2_ni (by decide), up2_na (by decide), up2_ni (by decide)]; exact x4, x5, x6, fun i hi => by rw [up2_na (by decide), up2_na (by decide), up2_na (by decide)]; exact x7 i hi⟩, by rw [up2_ni (by decide), up2_na (by decide), up2_eq], fun b j z1 z2 => by rw [up2_ne (by omega), up2_na z1, up2_ne (by omega)]⟩
  · rw [r135]
    unfold f135 f135_15
    rw [hT.rI (k := 0) rfl, x0, lit8_24, if_neg (by rw [nI_eq (by omega) (by omega)]; omega), lit_0, lit_1, hT.wI (k := 41) rfl, T1.rI (k := 41) rfl, up2_eq, if_pos rfl, T1.rR (k := 1) (b := 231) rfl rfl, T1.rI (k := 0) rfl, g1, b_Cn hc, T1.wx (a := 231) (c := 101) (i := X.1.length) rfl (show X.1.length < 24 from hl), T2.rI (k := 0) rfl, g2, nI_add, T2.wI (k := 0) rfl, T3.rI (k := 0) rfl, up2_eq]
  · rw [List.mem_append] at hy
    rcases hy with hy | hy
    · exact x2 y hy
    · rw [List.mem_singleton] at hy; rw [hy]; exact hc
  · have hi : i < X.1.length + 1 := by simpa using hi
    rw [up2_na (by decide)]
    by_cases e : i = X.1.length
    · subst e
      rw [up2_eq]
      show nI c = nI ((X.1 ++ [c]).getD X.1.length 0)
      rw [List.getD_eq_getElem?_getD, List.getElem?_append_right (Nat.le_refl _), Nat.sub_self]; rfl
    · rw [up2_ni e, up2_na (by decide)]
      show M 231 i = nI ((X.1 ++ [c]).getD i 0)
      rw [gD_l _ _ (by omega)]
      exact x3 i (by omega)
theorem TA.t135n (hT : TA A M h) (hX : RX X M) (hl : ¬ X.1.length < 24) (c : Int32) : ∃ h', ag_run gT (d + 1) 135 [.inr (some 230), .inl c] h = some (.inl (some (.inl (nI 0))), h') ∧ TA A (up2 M 230 41 (nI 1)) h' := by
  have h24 : X.1.length = 24 := by have := hX.2.1; omega
  have T1 := hT.sI (k := 41) rfl (nI 1)
  refine ⟨_, ?_, T1⟩
  rw [r135]
  unfold f135 f135_15
  rw [hT.rI (k := 0) rfl, hX.1, lit8_24, h24, if_pos rfl, lit_0, lit_1, hT.wI (k := 41) rfl, T1.rI (k := 41) rfl, up2_eq, if_neg (by decide)]
/-- keep -/
theorem t136_7 : ∀ (m k n : Nat) (M : Nat → Nat → Int32) (h : ag_H), k + m = X.1.length → X.1.length ≤ 24 → (∀ x ∈ X.1, x < 65536) → TA A M h → M 230 0 = nI X.1.length → (∀ i, i < X.1.length → M 231 i = nI (X.1.getD i 0)) → (∀ i, i < k → M 232 i = nI (X.1.getD i 0)) →
    ∃ h' M', g136 (ag_run gT d) (n + m + 1) (some 230) (nI k) h = some (.inl (some (.inl (nI X.1.length))), h') ∧ TA A M' h' ∧ RX ([], X.1) M' ∧ ∀ b j, b ≠ 232 → ¬ (b = 230 ∧ (j = 0 ∨ j = 2)) → M' b j = M b j := by
  intro m
  induction m with
  | zero =>
    intro k n M h hk h24 hch hT x0 x3 x7
    have T1 := hT.sI (k := 2) rfl (nI X.1.length)
    have T2 := T1.sI (k := 0) rfl (nI 0)
    refine ⟨_, _, ?_, T2, ⟨up2_eq _ _ _ _, Nat.zero_le _, fun x hx => by simp at hx, fun i hi => by simp at hi, by rw [up2_ni (by decide), up2_eq], h24, hch, fun i hi => by rw [up2_na (by decide), up2_na (by decide)]; exact x7 i (by have hi : i < X.1.length := hi; omega)⟩, fun b j z1 z2 => by rw [up2_ne (by omega), up2_ne (by omega)]⟩
    show f136_7 _ _ _ _ _ = _
    unfold f136_7
    rw [hT.rI (k := 0) rfl, x0, if_pos (nI_le (by omega) (by omega)), hT.rI (k := 0) rfl, x0, hT.wI (k := 2) rfl, lit_0, T1.wI (k := 0) rfl, T2.rI (k := 2) rfl, up2_ni (by decide), up2_eq]
  | succ m ih =>
    intro k n M h hk h24 hch hT x0 x3 x7
    have hkl : k < X.1.length := by omega
    have hc : X.1.getD k 0 < 65536 := hch _ (getD_mem hkl)
    have T1 := hT.sx (a := 232) (c := 101) (i := k) rfl (nI (X.1.getD k 0))
    obtain ⟨h2, M2, e2, T2, R2, F2⟩ := ih (k + 1) n _ _ (by omega) h24 hch T1 (by rw [up2_na (by decide)]; exact x0) (fun i hi => by rw [up2_na (by decide)]; exact x3 i hi) (fun i hi => by
      by_cases e : i = k
      · subst e; rw [up2_eq]
      · rw [up2_ni e]; exact x7 i (by omega))
    refine ⟨h2, M2, ?_, T2, R2, fun b j z1 z2 => by rw [F2 b j z1 z2, up2_na z1]⟩
    rw [show n + (m + 1) + 1 = (n + m + 1) + 1 by omega]
    show f136_7 _ _ _ _ _ = _
    unfold f136_7
    rw [hT.rI (k := 0) rfl, x0, if_neg (nI_ge (by omega) (by omega)), hT.rR (k := 3) (b := 232) rfl rfl, hT.rR (k := 1) (b := 231) rfl rfl, hT.rx (a := 231) (c := 101) (i := k) rfl (show k < 24 by omega), x3 k hkl, b_Cn hc, hT.wx (a := 232) (c := 101) (i := k) rfl (show k < 24 by omega), lit_1, nI_add]
    exact e2
theorem TA.t136 (hT : TA A M h) (hX : RX X M) : ∃ h' M', ag_run gT (d + 1) 136 [.inr (some 230)] h = some (.inl (some (.inl (nI X.1.length))), h') ∧ TA A M' h' ∧ RX ([], X.1) M' ∧ ∀ b j, b ≠ 232 → ¬ (b = 230 ∧ (j = 0 ∨ j = 2 ∨ j = 41)) → M' b j = M b j := by
  obtain ⟨x0, x1, x2, x3, -⟩ := hX
  have T1 := hT.sI (k := 41) rfl (nI 0)
  obtain ⟨h2, M2, e2, T2, R2, F2⟩ := t136_7 (d := d) (X := X) X.1.length 0 (3999 - X.1.length) _ _ (by omega) x1 x2 T1 (by rw [up2_ni (by decide)]; exact x0) (fun i hi => by rw [up2_na (by decide)]; exact x3 i hi) (fun i hi => by omega)
  refine ⟨h2, M2, ?_, T2, R2, fun b j z1 z2 => by rw [F2 b j z1 (by omega), up2_ne (by omega)]⟩
  rw [r136]
  unfold f136
  rw [lit_0, hT.wI (k := 41) rfl]
  rw [show 3999 - X.1.length + X.1.length + 1 = 4000 by omega] at e2
  exact e2
/-- characters of the text or of the kept one -/
theorem TA.t137 (hT : TA A M h) (hX : RX X M) (b : Bool) {k : Nat} (hk : k < 1000) : ag_run gT (d + 1) 137 [.inr (some 230), .inl (bI b), .inl (nI k)] h = some (.inl (some (.inl (chI (tX X b) k))), h) := by
  obtain ⟨x0, x1, x2, x3, x4, x5, x6, x7⟩ := hX
  rw [r137]
  unfold f137 f137_15 f137_44 chI
  rw [lit_0, lit_m]
  cases b
  · rw [if_pos (show bI false = nI 0 from rfl), hT.rI (k := 0) rfl, x0]
    show (if nI k < nI X.1.length then _ else _) = some (Sum.inl (some (Sum.inl (if k < X.1.length then nI (X.1.getD k 0) else -1))), h)
    by_cases hl : k < X.1.length
    · rw [if_pos (nI_lt hl (by omega)), if_pos (show bI false = nI 0 from rfl), hT.rR (k := 1) (b := 231) rfl rfl, hT.rx (a := 231) (c := 101) (i := k) rfl (show k < 24 by omega), x3 k hl, if_pos hl]
    · rw [if_neg (nI_nlt (by omega) (by omega)), if_neg hl]
  · rw [if_neg (show ¬ bI true = nI 0 by decide), hT.rI (k := 2) rfl, x4]
    show (if nI k < nI X.2.length then _ else _) = some (Sum.inl (some (Sum.inl (if k < X.2.length then nI (X.2.getD k 0) else -1))), h)
    by_cases hl : k < X.2.length
    · rw [if_pos (nI_lt hl (by omega)), if_neg (show ¬ bI true = nI 0 by decide), hT.rR (k := 3) (b := 232) rfl rfl, hT.rx (a := 232) (c := 101) (i := k) rfl (show k < 24 by omega), x7 k hl, if_pos hl]
    · rw [if_neg (nI_nlt (by omega) (by omega)), if_neg hl]
theorem TA.t139 (hT : TA A M h) (hX : RX X M) : ∃ h' M', ag_run gT (d + 1) 139 [.inr (some 230)] h = some (.inl none, h') ∧ TA A M' h' ∧ RX ([], []) M' ∧ ∀ b j, ¬ (b = 230 ∧ (j = 0 ∨ j = 2)) → M' b j = M b j := by
  have T1 := hT.sI (k := 0) rfl (nI 0)
  have T2 := T1.sI (k := 2) rfl (nI 0)
  refine ⟨_, _, ?_, T2, ⟨by rw [up2_ni (by decide), up2_eq]; rfl, by decide, fun x hx => by simp at hx, fun i hi => by simp at hi, by rw [up2_eq]; rfl, by decide, fun x hx => by simp at hx, fun i hi => by simp at hi⟩, fun b j z1 => by rw [up2_ne (by omega), up2_ne (by omega)]⟩
  rw [r139]
  unfold f139
  rw [lit_0, hT.wI (k := 0) rfl, T1.wI (k := 2) rfl]
/-- paths -/
theorem drop_c {tx : List Nat} {k a : Nat} {r : List Nat} (hd : tx.drop k = a :: r) : k < tx.length ∧ tx.getD k 0 = a ∧ tx.drop (k + 1) = r := by
  have hk : k < tx.length := by
    rcases Nat.lt_or_ge k tx.length with h | h
    · exact h
    · rw [List.drop_eq_nil_of_le h] at hd; cases hd
  have := drop_getD hk
  rw [hd] at this
  injection this with h1 h2
  exact ⟨hk, h1.symm, h2.symm⟩
theorem drop_n {tx : List Nat} {k : Nat} (hd : tx.drop k = []) : tx.length ≤ k := List.drop_eq_nil_iff.mp hd
def FP (M M' : Nat → Nat → Int32) : Prop := ∀ b j, b ≠ 233 → ¬ (b = 230 ∧ j = 4) → M' b j = M b j
theorem RX.fp (hX : RX X M) (hF : FP M M') : RX X M' := hX.congr (hF _ _ (by decide) (by decide)) (hF _ _ (by decide) (by decide)) (fun j => hF _ _ (by decide) (by omega)) (fun j => hF _ _ (by decide) (by omega))
theorem tX_ok (hX : RX X M) (b : Bool) : (tX X b).length ≤ 24 ∧ ∀ x ∈ tX X b, x < 65536 := by
  cases b
  · exact ⟨hX.2.1, hX.2.2.1⟩
  · exact ⟨hX.2.2.2.2.2.1, hX.2.2.2.2.2.2.1⟩
theorem t138_45 (b : Bool) {tx : List Nat} (htx : tX X b = tx) (hpos : 0 < tx.length) : ∀ (n k : Nat) (ns : List Nat) (M : Nat → Nat → Int32) (h : ag_H), tx.length < k + n → k ≤ tx.length → TA A M h → RX X M → NM ns M → 2 * ns.length ≤ k →
    ∃ h' M', g138 (ag_run gT (d + 1)) n (some 230) (bI b) (nI tx.length) (nI k) h = some (.inl (some (.inl (bI (ps1 (tx.drop k) ns).isSome))), h') ∧ TA A M' h' ∧ (∀ r, ps1 (tx.drop k) ns = some r → NM r M') ∧ FP M M' := by
  intro n
  induction n with
  | zero => intro k ns M h h1 h2; omega
  | succ n ih =>
    intro k ns M h hn hk hT hX hN h2n
    obtain ⟨hl24, hch⟩ := tX_ok hX b
    rw [htx] at hl24 hch
    have e0 := hT.t137 (d := d) hX b (k := k) (by omega)
    have e1 := hT.t137 (d := d) hX b (k := k + 1) (by omega)
    have e2 := hT.t137 (d := d) hX b (k := k + 2) (by omega)
    rw [htx] at e0 e1 e2
    show ∃ h' M', f138_45 _ _ _ _ _ _ _ = _ ∧ _
    unfold f138_45 f138_84 f138_85 f138_188 f138_115
    rw [lit_0, lit_1, lit_2, lit8_46, lit8_47, lit8_97, lit8_104, nI_add, nI_add]
    cases hd : tx.drop k with
    | nil =>
      have := drop_n hd
      refine ⟨h, M, ?_, hT, fun r hr => by cases hr; exact hN, fun _ _ _ _ => rfl⟩
      rw [if_pos (nI_le (by omega) (by omega)), if_neg (by rw [nI_leI (by omega) (by omega)]; omega), b_B (x := nI 1) (Or.inr rfl)]
      rfl
    | cons a r =>
      obtain ⟨hk1, ha, hr⟩ := drop_c hd
      have ba : a < 65536 := by rw [← ha]; exact hch _ (getD_mem hk1)
      have c0 : chI tx k = nI a := by unfold chI; rw [if_pos hk1, ha]
      rw [c0] at e0
      rw [if_neg (nI_ge hk1 (by omega)), hT.ra, e1, b_I]
      have no : ps1 (a :: r) ns = none → ∃ h' M', (some (.inl (some (.inl (nI 0))), h) : ag_R) = some (.inl (some (.inl (bI (ps1 (a :: r) ns).isSome))), h') ∧ TA A M' h' ∧ (∀ r', ps1 (a :: r) ns = some r' → NM r' M') ∧ FP M M' := fun hno => ⟨h, M, by rw [hno]; rfl, hT, fun r' hr' => (by rw [hno] at hr'; cases hr'), fun _ _ _ _ => rfl⟩
      cases hr2 : r with
      | nil =>
        rw [hr2] at hr
        have h2 := drop_n hr
        have c1 : chI tx (k + 1) = -1 := if_neg (by omega)
        rw [c1, if_neg (show ¬ (-1 : Int32) = nI 46 by decide), hT.ra, e0, b_I, if_pos rfl, out3, b_I, decide_eq_true (Or.inl (show (-1 : Int32) < nI 97 by decide)), if_neg (show ¬ bI true = nI 0 by decide), b_B (x := nI 0) (Or.inl rfl)]
        have := no (by rw [hr2]; rfl)
        rw [hr2] at this
        by_cases ha47 : nI a = nI 47
        · rw [if_pos ha47]; exact this
        · rw [if_neg ha47]; exact this
      | cons c r2 =>
        rw [hr2] at hr
        obtain ⟨hk2, hc, hr3⟩ := drop_c hr
        have bc : c < 65536 := by rw [← hc]; exact hch _ (getD_mem hk2)
        have c1 : chI tx (k + 1) = nI c := by unfold chI; rw [if_pos hk2, hc]
        rw [c1]
        have hps := ps1_c a c r2 ns
        rw [hr2] at no
        -- no name and not up: no path
        have nn : ps1 (a :: c :: r2) ns = none → ¬ (97 ≤ c ∧ c ≤ 104) → ∃ h' M', (ag_at h (some 230) 11 fun a1 _ => ag_bI (ag_run gT (d + 1) 137 [.inr (some a1), .inl (bI b), .inl (nI k)] h) fun x3 h2 =>
            if x3 = nI 47 then
              if nI 0 = nI 0 then
                ag_bI (ag_run gT (d + 1) 114 [.inl (nI c), .inl (nI 97), .inl (nI 104)] h2) fun x5 h4 =>
                if x5 = nI 0 then
                  f138_117 (ag_run gT (d + 1)) (g138 (ag_run gT (d + 1)) n) (some 230) (bI b) (nI tx.length) (nI k) (nI c) (nI 0) h4
                else
                  ag_isB (nI 0) (some (.inl (some (.inl (nI 0))), h4))
              else
                f138_117 (ag_run gT (d + 1)) (g138 (ag_run gT (d + 1)) n) (some 230) (bI b) (nI tx.length) (nI k) (nI c) (nI 0) h2
            else
              ag_isB (nI 0) (some (.inl (some (.inl (nI 0))), h2))) = some (.inl (some (.inl (bI (ps1 (a :: c :: r2) ns).isSome))), h') ∧ TA A M' h' ∧ (∀ r', ps1 (a :: c :: r2) ns = some r' → NM r' M') ∧ FP M M' := by
          intro hno hnn
          have hd9 : decide (nI c < nI 97 ∨ ¬ nI c ≤ nI 104) = true := by
            refine decide_eq_true ?_
            rw [nI_ltI (by omega) (by omega), nI_leI (by omega) (by omega)]
            omega
          rw [hT.ra, e0, b_I, if_pos (show nI 0 = nI 0 from rfl), out3, b_I, hd9, if_neg (show ¬ bI true = nI 0 by decide), b_B (x := nI 0) (Or.inl rfl)]
          have := no hno
          by_cases ha47 : nI a = nI 47
          · rw [if_pos ha47]; exact this
          · rw [if_neg ha47]; exact this
        by_cases hc46 : c = 46
        · subst hc46
          rw [if_pos rfl, hT.ra, e2, b_I]
          cases hr4 : r2 with
          | nil =>
            rw [hr4] at hr3
            have c2 : chI tx (k + 2) = -1 := if_neg (by have := drop_n hr3; omega)
            rw [c2, if_neg (show ¬ (-1 : Int32) = nI 46 by decide)]
            have h9 : ps1 (a :: 46 :: r2) ns = none := by
              rw [hps, hr4]
              show (if a = 47 then none else none) = none
              split <;> rfl
            have := nn h9 (by decide)
            rw [hr4] at this
            exact this
          | cons b3 r3 =>
            rw [hr4] at hr3
            obtain ⟨hk3, hb3, hr5⟩ := drop_c hr3
            have bb3 : b3 < 65536 := by rw [← hb3]; exact hch _ (getD_mem hk3)
            have c2 : chI tx (k + 2) = nI b3 := by
              unfold chI
              rw [show k + 2 = k + 1 + 1 by omega, if_pos hk3, hb3]
            rw [c2]
            by_cases hb46 : b3 = 46
            · subst hb46
              rw [if_pos rfl, hT.ra, e0, b_I]
              by_cases ha47 : a = 47
              · subst ha47
                have h9 : ps1 (47 :: 46 :: r2) ns = ps1 r3 ns.dropLast := by rw [hps, hr4]; rfl
                rw [hr4] at h9
                rw [h9, if_pos rfl, if_neg (show ¬ nI 1 = nI 0 by decide)]
                unfold f138_117 f138_140 f138_176
                rw [lit_0, lit_1, lit_3, nI_add, if_neg (show ¬ nI 1 = nI 0 by decide), hT.rI (k := 4) rfl, hN.1]
                have T1 := hT.sI (k := 4) rfl (nI (ns.length - 1))
                have N1 : NM ns.dropLast (up2 M 230 4 (nI (ns.length - 1))) := by
                  refine ⟨by rw [up2_eq, List.length_dropLast], by rw [List.length_dropLast]; have := hN.2.1; omega, fun i hi => ?_⟩
                  obtain ⟨q1, q2⟩ := dropLast_get ns hi
                  rw [q1, up2_na (by decide)]
                  exact hN.2.2 i q2
                have F1 : FP M (up2 M 230 4 (nI (ns.length - 1))) := fun b j z1 z2 => up2_ne z2
                have hk4 : tx.drop (k + 3) = r3 := by rw [show k + 3 = k + 1 + 1 + 1 by omega]; exact hr5
                obtain ⟨h5, M5, e5, T5, N5, F5⟩ := ih (k + 3) ns.dropLast _ _ (by omega) (by omega) T1 (hX.fp F1) N1 (by rw [List.length_dropLast]; omega)
                rw [hk4] at e5 N5
                refine ⟨h5, M5, ?_, T5, N5, fun b j z1 z2 => by rw [F5 b j z1 z2, F1 b j z1 z2]⟩
                have hn12 := hN.2.1
                by_cases hz : ns.length = 0
                · have e9 : nI 0 = nI (ns.length - 1) := by rw [hz]
                  rw [if_pos (by rw [hz]; decide), e9, hT.wI (k := 4) rfl]
                  exact e5
                · rw [if_neg (by rw [nI_leI (by omega) (by omega)]; omega), hT.rI (k := 4) rfl, hN.1, nI_sub (by omega), hT.wI (k := 4) rfl]
                  exact e5
              · have h9 : ps1 (a :: 46 :: r2) ns = none := by rw [hps, if_neg ha47]
                rw [if_neg (by rw [nI_eq (by omega) (by omega)]; exact ha47), b_B (x := nI 0) (Or.inl rfl)]
                have := no h9
                rw [hr4] at this
                exact this
            · rw [if_neg (by rw [nI_eq (by omega) (by omega)]; exact hb46)]
              have h9 : ps1 (a :: 46 :: r2) ns = none := by
                rw [hps, hr4]
                show (if a = 47 then (if b3 = 46 then ps1 r3 ns.dropLast else none) else none) = none
                rw [if_neg hb46]
                split <;> rfl
              have := nn h9 (by decide)
              rw [hr4] at this
              exact this
        · rw [if_neg (by rw [nI_eq (by omega) (by omega)]; exact hc46)]
          by_cases hah : 97 ≤ c ∧ c ≤ 104
          · rw [hT.ra, e0, b_I]
            by_cases ha47 : a = 47
            · subst ha47
              have h9 : ps1 (47 :: c :: r2) ns = ps1 r2 (ns ++ [c - 97]) := by rw [hps, if_pos rfl, if_pos hah]
              have hd9 : decide (nI c < nI 97 ∨ ¬ nI c ≤ nI 104) = false := by
                refine decide_eq_false ?_
                rw [nI_ltI (by omega) (by omega), nI_leI (by omega) (by omega)]
                omega
              rw [h9, if_pos rfl, if_pos rfl, out3, b_I, hd9, if_pos (show bI false = nI 0 from rfl)]
              unfold f138_117 f138_176
              have hn12 : ns.length < 12 := by omega
              have T1 := hT.sx (a := 233) (c := 100) (i := ns.length) rfl (nI (c - 97))
              have g1 : up2 M 233 ns.length (nI (c - 97)) 230 4 = nI ns.length := by rw [up2_na (by decide)]; exact hN.1
              have T2 := T1.sI (k := 4) rfl (nI (ns.length + 1))
              have F2 : FP M (up2 (up2 M 233 ns.length (nI (c - 97))) 230 4 (nI (ns.length + 1))) := fun b j z1 z2 => by rw [up2_ne z2, up2_na z1]
              have N2 : NM (ns ++ [c - 97]) (up2 (up2 M 233 ns.length (nI (c - 97))) 230 4 (nI (ns.length + 1))) := by
                refine ⟨by rw [up2_eq]; simp, by simp; omega, fun i hi => ?_⟩
                have hi : i < ns.length + 1 := by simpa using hi
                rw [up2_na (by decide)]
                by_cases e : i = ns.length
                · subst e
                  rw [List.getD_eq_getElem?_getD, List.getElem?_append_right (Nat.le_refl _), Nat.sub_self, up2_eq]
                  exact ⟨show c - 97 < 8 by omega, rfl⟩
                · rw [gD_l _ _ (by omega), up2_ni e]
                  exact hN.2.2 i (by omega)
              have hk4 : tx.drop (k + 2) = r2 := by rw [show k + 2 = k + 1 + 1 by omega]; exact hr3
              obtain ⟨h5, M5, e5, T5, N5, F5⟩ := ih (k + 2) (ns ++ [c - 97]) _ _ (by omega) (by omega) T2 (hX.fp F2) N2 (by simp; omega)
              rw [hk4] at e5 N5
              refine ⟨h5, M5, ?_, T5, N5, fun b j z1 z2 => by rw [F5 b j z1 z2, F2 b j z1 z2]⟩
              rw [lit_0, lit_1, lit_2, lit8_97, if_pos rfl, hT.rR (k := 5) (b := 233) rfl rfl, hT.rI (k := 4) rfl, hN.1, nI_sub (by omega), hT.wx (a := 233) (c := 100) (i := ns.length) rfl (show ns.length < 12 from hn12), T1.rI (k := 4) rfl, g1, nI_add, T1.wI (k := 4) rfl, nI_add]
              exact e5
            · have h9 : ps1 (a :: c :: r2) ns = none := by rw [hps, if_neg ha47]
              rw [if_neg (by rw [nI_eq (by omega) (by omega)]; exact ha47), b_B (x := nI 0) (Or.inl rfl)]
              exact no h9
          · have h9 : ps1 (a :: c :: r2) ns = none := by
              rw [hps, if_neg hah, if_neg hc46]
              split <;> rfl
            exact nn h9 hah
theorem TA.t138 (hT : TA A M h) (hX : RX X M) (b : Bool) : ∃ h' M', ag_run gT (d + 2) 138 [.inr (some 230), .inl (bI b)] h = some (.inl (some (.inl (bI (pth (tX X b)).isSome))), h') ∧ TA A M' h' ∧ (∀ r, pth (tX X b) = some r → NM r M') ∧ FP M M' := by
  obtain ⟨hl24, hch⟩ := tX_ok hX b
  obtain ⟨x0, -, -, -, x4, -⟩ := id hX
  have hlen : ∀ K : Int32 → ag_R, (if bI b = nI 0 then ag_gI h (some 230) 11 0 K else ag_gI h (some 230) 11 2 K) = K (nI (tX X b).length) := fun K => by
    cases b
    · rw [if_pos (show bI false = nI 0 from rfl), hT.rI (k := 0) rfl, x0]; rfl
    · rw [if_neg (show ¬ bI true = nI 0 by decide), hT.rI (k := 2) rfl, x4]; rfl
  have T1 := hT.sI (k := 4) rfl (nI 0)
  have F1 : FP M (up2 M 230 4 (nI 0)) := fun b j z1 z2 => up2_ne z2
  have N1 : NM [] (up2 M 230 4 (nI 0)) := ⟨up2_eq _ _ _ _, by decide, fun i hi => by simp at hi⟩
  have X1 := hX.fp F1
  generalize htx : tX X b = tx at *
  rw [r138]
  unfold f138
  rw [lit_0, hlen]
  unfold f138_15 f138_42 pth
  rw [lit_0, lit_1, lit8_47, hT.wI (k := 4) rfl]
  by_cases h0 : tx = []
  · subst h0
    rw [if_pos rfl, if_neg (show ¬ nI ([] : List Nat).length = nI 1 by decide)]
    refine ⟨_, _, ?_, T1, fun r hr => (by cases hr), F1⟩
    unfold f138_45 f138_188
    rw [lit_0, if_pos (show nI ([] : List Nat).length ≤ nI 0 by decide), if_pos (show nI ([] : List Nat).length ≤ nI 0 by decide), b_B (x := nI 0) (Or.inl rfl)]
    rfl
  · rw [if_neg h0]
    have hpos : 0 < tx.length := List.length_pos_iff.mpr h0
    have loop : tx ≠ [47] → ∃ h' M', f138_45 (ag_run gT (d + 1)) (g138 (ag_run gT (d + 1)) 3999) (some 230) (bI b) (nI tx.length) (nI 0) (hse h 230 4 (nI 0)) = some (.inl (some (.inl (bI (ps1 tx []).isSome))), h') ∧ TA A M' h' ∧ (∀ r, ps1 tx [] = some r → NM r M') ∧ FP M M' := by
      intro _
      obtain ⟨h5, M5, e5, T5, N5, F5⟩ := t138_45 (d := d) b htx hpos 4000 0 [] _ _ (by omega) (by omega) T1 X1 N1 (by simp)
      exact ⟨h5, M5, e5, T5, N5, fun b j z1 z2 => by rw [F5 b j z1 z2, F1 b j z1 z2]⟩
    by_cases h1 : tx.length = 1
    · obtain ⟨c, rfl⟩ : ∃ c, tx = [c] := List.length_eq_one_iff.mp h1
      have bc : c < 65536 := hch c (by simp)
      have e0 := T1.t137 (d := d) X1 b (k := 0) (by decide)
      rw [htx] at e0
      have c0 : chI [c] 0 = nI c := rfl
      rw [c0] at e0
      rw [if_pos (show nI [c].length = nI 1 from rfl), T1.ra, e0, b_I]
      by_cases h47 : c = 47
      · subst h47
        rw [if_pos rfl, if_pos rfl, b_B (x := nI 1) (Or.inr rfl)]
        exact ⟨_, _, rfl, T1, fun r hr => (by cases hr; exact N1), F1⟩
      · rw [if_neg (by rw [nI_eq (by omega) (by omega)]; exact h47), if_neg (fun h => h47 (by cases h; rfl)), b_B (x := nI 0) (Or.inl rfl)]
        have : ps1 [c] [] = none := rfl
        rw [this]
        exact ⟨_, _, rfl, T1, fun r hr => (by cases hr), F1⟩
    · have hne : tx ≠ [47] := fun h => h1 (by rw [h]; rfl)
      rw [if_neg (by rw [nI_eq (by omega) (by omega)]; exact h1), if_neg hne]
      exact loop hne
end RK

/-! THE REFERENCE'S METHODS: what is bound -/
def FT (w : Nat) (M M' : Nat → Nat → Int32) : Prop := ∀ b y, (b < 234 ∨ 245 < b) → ¬ (b = 230 ∧ (y = 17 ∨ y = 19 ∨ y = 20 ∨ y = 21 ∨ y = 40 ∨ y = 38 ∨ y = 39)) → ¬ (b = 249 ∧ y = w) → ¬ (250 ≤ b ∧ b ≤ 252 ∧ 3 * w ≤ y ∧ y < 3 * w + 3) → M' b y = M b y
theorem FT.trans {w : Nat} {M M' M'' : Nat → Nat → Int32} (h1 : FT w M M') (h2 : FT w M' M'') : FT w M M'' := fun b y q1 q2 q3 q4 => (h2 b y q1 q2 q3 q4).trans (h1 b y q1 q2 q3 q4)
theorem FX.t {w : Nat} {M M' : Nat → Nat → Int32} (h : FX M M') : FT w M M' := fun b y q1 q2 _ _ => h b y q1 q2
theorem FM.t {w : Nat} {M M' : Nat → Nat → Int32} (h : FM w M M') : FT w M M' := fun b y _ _ q4 q5 => h b y q4 q5
theorem FT.y {j w : Nat} {M M' : Nat → Nat → Int32} (h : FT w M M') : FY j w M M' := fun b y q1 q2 _ q4 q5 => h b y q1 q2 (by omega) q5
section RBND
variable {A : zA} {M M' : Nat → Nat → Int32} {h : ag_H} {d s x i p f j o w k : Nat} {S S' : zS} {P : Nat → List zP} {Q : Nat → Option Nat} {O : Nat → Nat → zU} {F L G : List (Nat × Nat)} {W : zW} {X : List Nat × List Nat}
theorem RPl.c2 {q : zP} (hP : RPl M w q) (hl : q.2.length ≤ 3) (h1 : ∀ b, 247 ≤ b → b ≤ 249 → M' b w = M b w) (h2 : ∀ b y, 250 ≤ b → b ≤ 252 → 3 * w ≤ y → y < 3 * w + 3 → M' b y = M b y) : RPl M' w q :=
  ⟨by rw [h1 _ (by decide) (by decide)]; exact hP.1, by rw [h1 _ (by decide) (by decide)]; exact hP.2.1, by rw [h1 _ (by decide) (by decide)]; exact hP.2.2.1, fun i hi => ⟨by rw [h2 _ _ (by decide) (by decide) (by omega) (by omega)]; exact (hP.2.2.2 i hi).1, by rw [h2 _ _ (by decide) (by decide) (by omega) (by omega)]; exact (hP.2.2.2 i hi).2.1, by rw [h2 _ _ (by decide) (by decide) (by omega) (by omega)]; exact (hP.2.2.2 i hi).2.2⟩⟩
theorem RP.oth (hP : RP P M) (hB : PB P) (hF : FY j w M M') {j' k' : Nat} (hj : j' < 4) (hk : k' < (P j').length) (hn : 4 * j' + k' ≠ w) : RPl M' (4 * j' + k') ((P j').getD k' dP) := by
  refine ((hP j' hj).2 k' hk).c2 ((hB j' hj).2 _ (getD_memP hk)).2.2.1 (fun b h1 h2 => hF b _ (by omega) (by omega) (by omega) (by omega) (by omega)) (fun b y h1 h2 h3 h4 => hF b _ (by omega) (by omega) (by omega) (by omega) (by omega))
theorem RP.app (hP : RP P M) (hB : PB P) (hj : j < 4) (hl : (P j).length < 4) (hF : FY j (4 * j + (P j).length) M M') {q : zP} (h6 : M' 246 j = nI ((P j).length + 1)) (hq : RPl M' (4 * j + (P j).length) q) : RP (up1 P j (P j ++ [q])) M' := fun j' hj' => by
  by_cases e : j' = j
  · subst e
    rw [up1_eq]
    refine ⟨by rw [h6, List.length_append]; rfl, fun k hk => ?_⟩
    have hk : k < (P j').length + 1 := by simpa using hk
    rcases Nat.lt_or_ge k (P j').length with h9 | h9
    · rw [show (P j' ++ [q]).getD k dP = (P j').getD k dP by simp [List.getD_eq_getElem?_getD, List.getElem?_append_left h9]]
      exact hP.oth hB hF hj' h9 (by omega)
    · obtain rfl : k = (P j').length := by omega
      rw [show (P j' ++ [q]).getD (P j').length dP = q by simp [List.getD_eq_getElem?_getD]]
      exact hq
  · rw [up1_ne e]
    refine ⟨by rw [hF _ _ (by omega) (by omega) (by omega) (by omega) (by omega)]; exact (hP j' hj').1, fun k hk => hP.oth hB hF hj' hk ?_⟩
    have := (hB j' hj').1
    omega
theorem RP.set (hP : RP P M) (hB : PB P) (hj : j < 4) (hk : k < (P j).length) (hF : FT (4 * j + k) M M') {q : zP} (hq : RPl M' (4 * j + k) q) : RP (up1 P j ((P j).set k q)) M' := fun j' hj' => by
  have b1 := (hB j hj).1
  by_cases e : j' = j
  · subst e
    rw [up1_eq]
    refine ⟨by rw [hF _ _ (by omega) (by omega) (by omega) (by omega), List.length_set]; exact (hP j' hj').1, fun k' hk' => ?_⟩
    rw [List.length_set] at hk'
    by_cases e : k' = k
    · subst e
      rw [show ((P j').set k' q).getD k' dP = q by simp [List.getD_eq_getElem?_getD, hk]]
      exact hq
    · rw [show ((P j').set k q).getD k' dP = (P j').getD k' dP by simp [List.getD_eq_getElem?_getD, List.getElem?_set_ne (Ne.symm e)]]
      exact hP.oth (j := j') hB hF.y hj' hk' (by omega)
  · rw [up1_ne e]
    have := (hB j' hj').1
    exact ⟨by rw [hF _ _ (by omega) (by omega) (by omega) (by omega)]; exact (hP j' hj').1, fun k' hk' => hP.oth (j := j) hB hF.y hj' hk' (by omega)⟩
theorem RR.y (hR : RR S P Q O X M) (hB : OB O) (hF : FY j w M M') (hV : RV S'.1 M') (hG : RG S' M') {P' : Nat → List zP} (hP : RP P' M') : RR S' P' Q O X M' := by
  obtain ⟨a, b, c, e, f, g⟩ := hR
  exact ⟨hV, hG, hP, e.congr (fun y => hF _ _ (by decide) (by omega) (by omega) (by omega) (by omega)) (fun y => hF _ _ (by decide) (by omega) (by omega) (by omega) (by omega)), f.congr hB fun b y h1 h2 => hF b y (by omega) (by omega) (by omega) (by omega) (by omega), g.congr (hF _ _ (by decide) (by decide) (by omega) (by omega) (by omega)) (hF _ _ (by decide) (by decide) (by omega) (by omega) (by omega)) (fun y => hF _ _ (by decide) (by omega) (by omega) (by omega) (by omega)) (fun y => hF _ _ (by decide) (by omega) (by omega) (by omega) (by omega))⟩
theorem FM.vg (hF : FM w M M') (hV : RV S.1 M) (hG : RG S M) : RV S.1 M' ∧ RG S M' := ⟨hV.rows fun b y z1 z2 => hF _ _ (by omega) (by omega), hG.congr (hF _ _ (by omega) (by omega)) (hF _ _ (by omega) (by omega)) (fun y => hF _ _ (by omega) (by omega)) (fun y => hF _ _ (by omega) (by omega))⟩
theorem t163_331 (hT : TA A M h) (hw : w < 16) {a s3 s4 s5 : Int32} {h1 : ag_H} {M1 : Nat → Nat → Int32} {ms : List zM} (e : ag_run gT (d + 1) 161 [.inr (some 230), .inl (nI w), .inl a, .inl s3, .inl s4, .inl s5] h = some (.inl none, h1)) (T1 : TA A M1 h1) (L1 : PL M1 w ms) : f163_331 (ag_run gT (d + 1)) (some 230) (nI w) (some 230) (nI w) a s3 s4 s5 h = some (.inl (some (.inl (nI 0))), hse h1 230 21 (nI ms.length)) := by
  unfold f163_331
  rw [hT.ra, e, b_V, T1.rR (k := 25) (b := 249) rfl rfl, T1.rx (a := 249) (c := 100) (i := w) rfl (show w < 16 from hw), L1.1, T1.wI (k := 21) rfl, lit_0]
theorem t163_294 {m : zM} (hT : TA A M h) (hw : w < 16) {ms : List zM} (hl : ms.length ≤ 2) (hL : PL M w ms) (hV : RV S.1 M) (hG : RG S M) (h7 : k < 7) (h3 : k % 4 ≠ 3) (h4 : k % 4 = 0 → ms = []) (hm : m.2.2 = decide (k / 4 = 1)) :
    ∃ h' M', f163_294 (ag_run gT (d + 1)) (some 230) (nI m.1) (nI m.2.1) (nI k) (nI w) h = some (.inl (some (.inl (nI 0))), h') ∧ TA A M' h' ∧ PL M' w (jnL k m ms) ∧ RV S.1 M' ∧ RG S M' ∧ M' 230 21 = nI (jnL k m ms).length ∧ FT w M M' := by
  have fin : ∀ (a : Int32) (h1 : ag_H) (M1 : Nat → Nat → Int32), ag_run gT (d + 1) 161 [.inr (some 230), .inl (nI w), .inl a, .inl (nI m.1), .inl (nI m.2.1), .inl (bI m.2.2)] h = some (.inl none, h1) → TA A M1 h1 → PL M1 w (jnL k m ms) → FM w M M1 →
      ∃ h' M', f163_316 (ag_run gT (d + 1)) (some 230) (nI m.1) (nI m.2.1) (nI k) (nI w) (some 230) (nI w) a h = some (.inl (some (.inl (nI 0))), h') ∧ TA A M' h' ∧ PL M' w (jnL k m ms) ∧ RV S.1 M' ∧ RG S M' ∧ M' 230 21 = nI (jnL k m ms).length ∧ FT w M M' := by
    intro a h1 M1 e T1 L1 F1
    obtain ⟨V1, G1⟩ := F1.vg hV hG
    refine ⟨_, _, ?_, T1.sI (k := 21) rfl (nI (jnL k m ms).length), ⟨by rw [up2_na (by decide)]; exact L1.1, fun i hi => ⟨by rw [up2_na (by decide)]; exact (L1.2 i hi).1, by rw [up2_na (by decide)]; exact (L1.2 i hi).2.1, by rw [up2_na (by decide)]; exact (L1.2 i hi).2.2⟩⟩, V1.f230, G1.congr (up2_ni (by decide)) (up2_ni (by decide)) (fun y => up2_na (by decide)) (fun y => up2_na (by decide)), up2_eq _ _ _ _, F1.t.trans fun b y z1 z2 z3 z4 => up2_ne (by omega)⟩
    unfold f163_316
    rw [lit_4, lit_1, lit_0, b_d (by decide), (hw4 k h7).2]
    rw [hm] at e
    by_cases h9 : k / 4 = 1
    · rw [decide_eq_true h9] at e
      rw [if_pos (by rw [h9])]
      exact t163_331 hT hw e T1 L1
    · rw [decide_eq_false h9] at e
      rw [if_neg (by rw [nI_eq (by omega) (by omega)]; exact h9)]
      exact t163_331 hT hw e T1 L1
  unfold f163_294
  rw [lit_4, lit_2, lit_0, b_d (by decide), (hw4 k h7).1]
  by_cases h9 : k % 4 = 2
  · obtain ⟨h1, M1, e1, T1, L1, F1⟩ := hT.t161b (d := d) (m := m) hw hl hL
    rw [if_pos (by rw [h9]), hT.rR (k := 25) (b := 249) rfl rfl, hT.rx (a := 249) (c := 100) (i := w) rfl (show w < 16 from hw), hL.1]
    exact fin _ _ _ e1 T1 (by unfold jnL; rw [if_neg (by omega)]; exact L1) F1
  · obtain ⟨h1, M1, e1, T1, L1, F1⟩ := hT.t161a (d := d) (m := m) hw hl hL
    rw [if_neg (by rw [nI_eq (by omega) (by omega)]; exact h9)]
    refine fin _ _ _ e1 T1 ?_ F1
    unfold jnL
    by_cases h8 : k % 4 = 1
    · rw [if_pos h8]; exact L1
    · rw [if_neg h8, h4 (by omega)]
      rw [h4 (by omega)] at L1
      exact L1
/-- the place's handle goes, and the member is written -/
theorem t163_282 {m : zM} (hT : TA A M h) (hw : w < 16) {ms : List zM} (hl : ms.length ≤ 2) (hL : PL M w ms) (hV : RV S.1 M) (hG : RG S M) (h7 : k < 7) (h3 : k % 4 ≠ 3) (h4 : k % 4 = 0 → ms = []) (hm : m.2.2 = decide (k / 4 = 1)) (h8 : M 230 38 = nI W.1) (h9 : M 230 39 = nI W.2.1) (hw2 : W.1 < 2) (hx : W.2.1 < 128) :
    ∃ h' M', f163_282 (ag_run gT (d + 3)) (some 230) (nI m.1) (nI m.2.1) (nI k) (nI w) h = some (.inl (some (.inl (nI 0))), h') ∧ TA A M' h' ∧ PL M' w (jnL k m ms) ∧ RV (kGo S W.1 W.2.1).1 M' ∧ RG (kGo S W.1 W.2.1) M' ∧ M' 230 21 = nI (jnL k m ms).length ∧ FT w M M' := by
  obtain ⟨h1, M1, e1, T1, V1, G1, F1⟩ := hT.t132 (d := d) hV hG hw2 hx
  obtain ⟨h2, M2, e2, T2, L2, V2, G2, q2, F2⟩ := t163_294 (d := d + 2) (m := m) T1 hw hl (hL.fx F1.w) V1 G1 h7 h3 h4 hm
  refine ⟨h2, M2, ?_, T2, L2, V2, G2, q2, F1.w.t.trans F2⟩
  unfold f163_282
  rw [hT.rI (k := 38) rfl, h8, hT.rI (k := 39) rfl, h9, hT.ra, e1, b_V]
  exact e2
theorem t163_132 {m : zM} (hT : TA A M h) (hR : RR S P Q O X M) (hB : OB O) (h8 : M 230 38 = nI W.1) (h9 : M 230 39 = nI W.2.1) (hw2 : W.1 < 2) (hx : W.2.1 < 128) (hm : m.1 < 2) (hm2 : m.2.1 < 128) : ∃ h' M', f163_132 (ag_run gT (d + 3)) (some 230) (nI m.1) (nI m.2.1) h = some (.inl (some (.inl (nI 3))), h') ∧ TA A M' h' ∧ RR (kGo (kGo S W.1 W.2.1) m.1 m.2.1) P Q O X M' := by
  obtain ⟨h1, M1, e1, T1, V1, G1, F1⟩ := hT.t132 (d := d) hR.1 hR.2.1 hw2 hx
  obtain ⟨h2, M2, e2, T2, V2, G2, F2⟩ := T1.t132 (d := d) V1 G1 hm hm2
  refine ⟨h2, M2, ?_, T2, hR.w hB (F1.w.trans F2.w) V2 G2⟩
  unfold f163_132
  rw [hT.rI (k := 38) rfl, h8, hT.rI (k := 39) rfl, h9, hT.ra, e1, b_V, T1.ra, e2, b_V, lit_3]
end RBND

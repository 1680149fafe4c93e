/-! THE CLASS'S METHODS: bind, mount, unmount -/
def jnL (hw : Nat) (m : zM) (l : List zM) : List zM := if hw % 4 = 1 then m :: l else l ++ [m]
def kJ2 (P : Nat → List zP) (j : Nat) (S : zS) (W : zW) (hw : Nat) (m : zM) : zS × (Nat → List zP) × (Nat ⊕ Nat) := match pidx (P j) W.1 W.2.2.1 with
  | none => if 4 ≤ (P j).length ∨ W.2.2.2 = false then (kGo (kGo S W.1 W.2.1) m.1 m.2.1, P, .inl (if W.2.2.2 then 1 else 3))
    else if hw % 4 = 0 then (kGo S W.1 W.2.1, up1 P j (P j ++ [((W.1, W.2.2.1), jnL hw m [])]), .inr (jnL hw m []).length)
    else ((kOwn S W).1, up1 P j (P j ++ [((W.1, W.2.2.1), jnL hw m [(W.1, (kOwn S W).2, true)])]), .inr (jnL hw m [(W.1, (kOwn S W).2, true)]).length)
  | some k => if (hw % 4 ≠ 0 ∧ 3 ≤ ((P j).getD k dP).2.length) ∨ W.2.2.2 = false then (kGo (kGo S W.1 W.2.1) m.1 m.2.1, P, .inl (if W.2.2.2 then 1 else 3))
    else if hw % 4 = 0 then (kGo (kClA S ((P j).getD k dP).2) W.1 W.2.1, up1 P j ((P j).set k (((P j).getD k dP).1, jnL hw m [])), .inr (jnL hw m []).length)
    else (kGo S W.1 W.2.1, up1 P j ((P j).set k (((P j).getD k dP).1, jnL hw m ((P j).getD k dP).2)), .inr (jnL hw m ((P j).getD k dP).2).length)
def isH (v : Int32) (hw : Nat) : Prop := hw < 7 ∧ hw % 4 ≠ 3 ∧ v = nI hw
def noH (v : Int32) : Prop := ∀ hw, hw < 7 → hw % 4 ≠ 3 → v ≠ nI hw
theorem H_or (v : Int32) : (∃ hw, isH v hw) ∨ noH v := by
  by_cases h : ∃ hw, hw < 7 ∧ hw % 4 ≠ 3 ∧ v = nI hw
  · exact Or.inl h
  · exact Or.inr fun m hm hm3 hv => h ⟨m, hm, hm3, hv⟩
theorem hw4 : ∀ hw, hw < 7 → nI hw - nI hw / nI 4 * nI 4 = nI (hw % 4) ∧ nI hw / nI 4 = nI (hw / 4) := by decide
section JOIN
variable {z sl d : Nat} {M : Nat → Nat → Int32} {pm : Nat → Nat → Nat} {S : zS} {Q : Nat → Option Nat} {Y : zY} {X : zX} {W : zW} {h : ag_H} {s x : Nat} {F G : List (Nat × Nat)} {p f j : Nat}
theorem c81 {v : Int32} {hw : Nat} (hv : isH v hw) : ag_run gT (d + 1) 81 [.inl v] h = some (.inl (some (.inl (nI 1))), h) := by
  obtain ⟨h1, h2, rfl⟩ := hv
  rw [r81]
  unfold f81 f81_22
  rw [lit_0, lit_1, lit_3, lit_4, lit8_6, if_neg (nI_nlt (by omega) (by omega)), if_neg (nI_nlt (by omega) (by omega)), b_d (by decide), (hw4 hw h1).1, if_neg (by rw [nI_eq (by omega) (by omega)]; exact h2), b_B (x := nI 1) (Or.inr rfl)]
theorem c81n {v : Int32} (hv : noH v) : ag_run gT (d + 1) 81 [.inl v] h = some (.inl (some (.inl (nI 0))), h) := by
  rw [r81]
  unfold f81 f81_21 f81_22
  rw [lit_0, lit_1, lit_3, lit_4, lit8_6, b_B (x := nI 0) (Or.inl rfl)]
  by_cases h1 : v < nI 0
  · rw [if_pos h1]
  · rw [if_neg h1]
    by_cases h2 : nI 6 < v
    · rw [if_pos h2]
    · rw [if_neg h2, b_d (by decide)]
      obtain ⟨n, hn1, rfl⟩ := nI_of (show ¬ v < 0 from h1)
      have h3 : n < 7 := by
        rcases Nat.lt_or_ge n 7 with h3 | h3
        · exact h3
        · exact absurd (nI_lt (by omega) hn1) h2
      have h4 : n % 4 = 3 := by
        rcases Nat.decEq (n % 4) 3 with h4 | h4
        · exact absurd rfl (hv n h3 h4)
        · exact h4
      rw [(hw4 n h3).1, h4, if_pos rfl]
theorem c80 (hs : s < 2) : ag_run gT (d + 1) 80 [.inl (nI s)] h = some (.inl (some (.inl (nI 1))), h) := by
  rw [r80]
  unfold f80 f80_9 f80_14
  rw [lit_0, lit_1, b_B (x := nI 1) (Or.inr rfl)]
  have : s = 0 ∨ s = 1 := by omega
  rcases this with rfl | rfl
  · rw [if_pos rfl]
  · rw [if_neg (by decide), if_pos rfl]
theorem c80n {v : Int32} (hv : ∀ s, s < 2 → v ≠ nI s) : ag_run gT (d + 1) 80 [.inl v] h = some (.inl (some (.inl (nI 0))), h) := by
  rw [r80]
  unfold f80 f80_9 f80_14
  rw [lit_0, lit_1, b_B (x := nI 0) (Or.inl rfl), if_neg (hv 0 (by decide)), if_neg (hv 1 (by decide))]
theorem lset_app (Y : zY) (j : Nat) (a : Nat × Nat) (l0 ms : List zM) : lset (up1 Y.1 j (Y.1 j ++ [(a, l0)]), Y.2.1, Y.2.2) (1, j, (Y.1 j).length) ms = (up1 Y.1 j (Y.1 j ++ [(a, ms)]), Y.2.1, Y.2.2) := by
  show (up1 (up1 Y.1 j (Y.1 j ++ [(a, l0)])) j ((up1 Y.1 j (Y.1 j ++ [(a, l0)]) j).set (Y.1 j).length (((up1 Y.1 j (Y.1 j ++ [(a, l0)]) j).getD (Y.1 j).length dP).1, ms)), Y.2.1, Y.2.2) = _
  rw [up1_eq, up1_up1, List.set_append_right _ _ (Nat.le_refl _), Nat.sub_self, List.getD_eq_getElem?_getD, List.getElem?_append_right (Nat.le_refl _), Nat.sub_self]
  rfl
theorem lms_app (Y : zY) (j : Nat) (a : Nat × Nat) (l0 : List zM) : lms (up1 Y.1 j (Y.1 j ++ [(a, l0)]), Y.2.1, Y.2.2) (1, j, (Y.1 j).length) = l0 := by
  show ((up1 Y.1 j (Y.1 j ++ [(a, l0)]) j).getD (Y.1 j).length dP).2 = l0
  rw [up1_eq, List.getD_eq_getElem?_getD, List.getElem?_append_right (Nat.le_refl _), Nat.sub_self]
  rfl
theorem LV_app (Y : zY) (hj : j < 4) (a : Nat × Nat) (l0 : List zM) : LV (up1 Y.1 j (Y.1 j ++ [(a, l0)]), Y.2.1, Y.2.2) (1, j, (Y.1 j).length) :=
  Or.inr (Or.inl ⟨j, _, rfl, hj, by show _ < (up1 Y.1 j (Y.1 j ++ [(a, l0)]) j).length; rw [up1_eq]; simp⟩)
/-- the member is put in -/
theorem CA.f171 (hC : CA z sl M pm S Q Y X W h) {k hw : Nat} (hL : LV Y (1, j, k)) (hl : (lms Y (1, j, k)).length < 3) (h7 : hw < 7) (h4 : hw % 4 = 0 → lms Y (1, j, k) = []) (t n : Nat) : ∃ h', f103_171 (ag_run gT (d + 5)) (nI t) (nI n) (nI hw) (some (lad pm (1, j, k))) h = some (.inl (some (.inl (nI (jnL hw (t, n, decide (hw / 4 = 1)) (lms Y (1, j, k))).length))), h') ∧ CA z sl M pm S Q (lset Y (1, j, k) (jnL hw (t, n, decide (hw / 4 = 1)) (lms Y (1, j, k)))) X W h' := by
  have hjk : j < 4 ∧ k < (Y.1 j).length := by
    rcases hL with ⟨_, _, h⟩ | ⟨_, _, h, h1, h2⟩ | ⟨_, _, h, _⟩
    · cases h
    · cases h; exact ⟨h1, h2⟩
    · cases h
  have fin : ∀ (pos : Int32), (∃ h', ag_run gT (d + 5) 1 [.inr (some (lad pm (1, j, k))), .inl pos, .inl (nI t), .inl (nI n), .inl (bI (decide (hw / 4 = 1)))] h = some (.inl none, h') ∧ CA z sl M pm S Q (lset Y (1, j, k) (jnL hw (t, n, decide (hw / 4 = 1)) (lms Y (1, j, k)))) X W h') → ∃ h', f103_192 (ag_run gT (d + 5)) (nI t) (nI n) (nI hw) (some (lad pm (1, j, k))) (some (lad pm (1, j, k))) pos h = some (.inl (some (.inl (nI (jnL hw (t, n, decide (hw / 4 = 1)) (lms Y (1, j, k))).length))), h') ∧ CA z sl M pm S Q (lset Y (1, j, k) (jnL hw (t, n, decide (hw / 4 = 1)) (lms Y (1, j, k)))) X W h' := by
    rintro pos ⟨h', e, C⟩
    obtain ⟨l1, l2, l3⟩ := LS1 Y hjk.1 hjk.2 (jnL hw (t, n, decide (hw / 4 = 1)) (lms Y (1, j, k)))
    refine ⟨h', ?_, C⟩
    unfold f103_192 f103_207
    rw [lit_0, lit_1, lit_4, b_d (by decide), (hw4 hw h7).2]
    by_cases h9 : hw / 4 = 1
    · rw [decide_eq_true h9] at e
      have e : ag_run gT (d + 5) 1 [.inr (some (lad pm (1, j, k))), .inl pos, .inl (nI t), .inl (nI n), .inl (nI 1)] h = some (.inl none, h') := e
      rw [if_pos (by rw [h9]), hC.ah hL, e, b_V, C.hn l1, l2]
    · rw [decide_eq_false h9] at e
      have e : ag_run gT (d + 5) 1 [.inr (some (lad pm (1, j, k))), .inl pos, .inl (nI t), .inl (nI n), .inl (nI 0)] h = some (.inl none, h') := e
      rw [if_neg (by rw [nI_eq (by omega) (by omega)]; exact h9), hC.ah hL, e, b_V, C.hn l1, l2]
  unfold f103_171
  rw [lit_0, lit_1, lit_4, b_d (by decide), (hw4 hw h7).1]
  by_cases h1 : hw % 4 = 1
  · rw [if_pos (by rw [h1])]
    have hj1 : jnL hw (t, n, decide (hw / 4 = 1)) (lms Y (1, j, k)) = (t, n, decide (hw / 4 = 1)) :: lms Y (1, j, k) := if_pos h1
    rw [hj1] at fin ⊢
    exact fin _ (hC.h1f (d := d + 4) hL hl (t, n, decide (hw / 4 = 1)))
  · rw [if_neg (by rw [nI_eq (by omega) (by omega)]; exact h1), hC.hn hL]
    have hj1 : jnL hw (t, n, decide (hw / 4 = 1)) (lms Y (1, j, k)) = lms Y (1, j, k) ++ [(t, n, decide (hw / 4 = 1))] := if_neg h1
    rw [hj1] at fin ⊢
    exact fin _ (hC.h1e (d := d + 4) hL hl (t, n, decide (hw / 4 = 1)))
theorem CA.c105a (hC : CA z sl M pm S Q Y X W h) (hj : j < 4) (hl : (Y.1 j).length < 4) (hw : W.1 < 2) (hi : W.2.2.1 < 300) (hx : W.2.1 < 128) : ∃ h', ag_run gT (d + 5) 105 [.inr (some 0), .inr (some (34 + 49 * j)), .inl (nI 1)] h = some (.inl (some (.inr (some (lad pm (1, j, (Y.1 j).length))))), h') ∧ CA z sl M pm (kGo S W.1 W.2.1) Q (up1 Y.1 j (Y.1 j ++ [((W.1, W.2.2.1), [])]), Y.2.1, Y.2.2) X W h' := by
  obtain ⟨h1, e1, C1⟩ := hC.n16 (d := d + 2) hj hl hw hi
  obtain ⟨h2, e2, C2⟩ := C1.go (d := d) hw hx
  refine ⟨h2, ?_, C2⟩
  rw [r105]
  unfold f105 f105_46
  rw [hC.g9, hC.g11, hC.an hj, e1, b_R, lit_0, if_neg (show ¬ nI 1 = nI 0 by decide), C1.g9, C1.g10, C1.a0, e2, b_V]
theorem CA.c105b (hC : CA z sl M pm S Q Y X W h) (hj : j < 4) (hl : (Y.1 j).length < 4) (hw : W.1 < 2) (hi : W.2.2.1 < 300) (hO : OW S (fl W ++ F)) (h0 : (0, 0) ∈ F) (hF : F.length + 1 < 128) : ∃ h', ag_run gT (d + 5) 105 [.inr (some 0), .inr (some (34 + 49 * j)), .inl (nI 0)] h = some (.inl (some (.inr (some (lad pm (1, j, (Y.1 j).length))))), h') ∧ CA z sl M pm (kOwn S W).1 Q (up1 Y.1 j (Y.1 j ++ [((W.1, W.2.2.1), [(W.1, (kOwn S W).2, true)])]), Y.2.1, Y.2.2) X W h' := by
  obtain ⟨h1, e1, C1⟩ := hC.n16 (d := d + 2) hj hl hw hi
  obtain ⟨h2, e2, C2⟩ := C1.own (d := d) hO h0 hF hw
  obtain ⟨h3, e3, C3⟩ := C2.h1f (d := d + 3) (LV_app Y hj (W.1, W.2.2.1) []) (by rw [lms_app]; decide) (W.1, (kOwn S W).2, true)
  rw [lms_app, lset_app] at C3
  have e3 : ag_run gT (d + 4) 1 [.inr (some (lad pm (1, j, (Y.1 j).length))), .inl (nI 0), .inl (nI W.1), .inl (nI (kOwn S W).2), .inl (nI 1)] h2 = some (.inl none, h3) := e3
  refine ⟨h3, ?_, C3⟩
  rw [r105]
  unfold f105 f105_46
  rw [hC.g9, hC.g11, hC.an hj, e1, b_R, lit_0, lit_1, if_pos rfl, C1.g9, C1.a0, e2, b_I, C2.ah (LV_app Y hj (W.1, W.2.2.1) []), e3, b_V]
theorem CA.ap5 (hC : CA z sl M pm S Q Y X W h) {k : Nat} (hj : j < 4) (hk : k < (Y.1 j).length) : LV Y (1, j, k) := Or.inr (Or.inl ⟨j, k, rfl, hj, hk⟩)
theorem CA.c106a (hC : CA z sl M pm S Q Y X W h) {k : Nat} (hj : j < 4) (hk : k < (Y.1 j).length) (hw : W.1 < 2) (hx : W.2.1 < 128) (hv : ∀ m ∈ ((Y.1 j).getD k dP).2, m.1 < 2 ∧ m.2.1 < 128) : ∃ h', ag_run gT (d + 5) 106 [.inr (some 0), .inr (some (36 + 49 * j + 5 * pm j k)), .inl (nI 1)] h = some (.inl (some (.inr (some (lad pm (1, j, k))))), h') ∧ CA z sl M pm (kGo (kClA S ((Y.1 j).getD k dP).2) W.1 W.2.1) Q (lset Y (1, j, k) []) X W h' := by
  have hL := hC.ap5 hj hk
  obtain ⟨h1, e1, C1⟩ := hC.cla (d := d) hL hv
  obtain ⟨h2, e2, C2⟩ := C1.hz hL
  obtain ⟨h3, e3, C3⟩ := C2.go (d := d) hw hx
  have hk2 : k < ((lset Y (1, j, k) []).1 j).length := by
    show k < (up1 Y.1 j _ j).length
    rw [up1_eq, List.length_set]; exact hk
  refine ⟨h3, ?_, C3⟩
  rw [r106]
  unfold f106 f106_20
  rw [lit_0, if_neg (show ¬ nI 1 = nI 0 by decide), hC.np hj hk, hC.a0, e1, b_V, C1.np hj hk, e2, C2.g9, C2.g10, C2.a0, e3, b_V, C3.np hj hk2]
theorem CA.c106b (hC : CA z sl M pm S Q Y X W h) {k : Nat} (hj : j < 4) (hk : k < (Y.1 j).length) (hw : W.1 < 2) (hx : W.2.1 < 128) : ∃ h', ag_run gT (d + 5) 106 [.inr (some 0), .inr (some (36 + 49 * j + 5 * pm j k)), .inl (nI 0)] h = some (.inl (some (.inr (some (lad pm (1, j, k))))), h') ∧ CA z sl M pm (kGo S W.1 W.2.1) Q Y X W h' := by
  obtain ⟨h3, e3, C3⟩ := hC.go (d := d) hw hx
  refine ⟨h3, ?_, C3⟩
  rw [r106]
  unfold f106 f106_20
  rw [lit_0, if_pos rfl, hC.g9, hC.g10, hC.a0, e3, b_V, C3.np hj hk]
/-- both are let go, and it throws -/
theorem CA.f123 (hC : CA z sl M pm S Q Y X W h) {m : zM} {l1 l6 : Option Nat} {l4 l7 : Int32} (hw : W.1 < 2) (hx : W.2.1 < 128) (hm : m.1 < 2) (hm2 : m.2.1 < 128) : ∃ h', f103_123 (ag_run gT (d + 5)) (some 0) l1 (nI m.1) (nI m.2.1) l4 l6 l7 h = some (.inr (if W.2.2.2 then 1 else 3), h') ∧ CA (z + 1) (sl + 6) M pm (kGo (kGo S W.1 W.2.1) m.1 m.2.1) Q Y X W h' := by
  obtain ⟨h1, e1, C1⟩ := hC.go (d := d + 1) hw hx
  obtain ⟨h2, e2, C2⟩ := C1.go (d := d + 1) hm hm2
  refine ⟨_, ?_, C2.thr⟩
  unfold f103_123
  rw [hC.g9, hC.g10, hC.a0, e1, b_V, C1.a0, e2, b_V, C2.g12, r104]
  unfold f104
  rw [lit_0]
  cases W.2.2.2
  · rw [if_pos (show bI false = nI 0 from rfl), b_Ve]; rfl
  · rw [if_neg (show ¬ bI true = nI 0 by decide), b_Ve]; rfl
theorem CA.f34 (hC : CA z sl M pm S Q Y X W h) (hj : j < 4) (hO : OW S (fl W ++ F)) (h0 : (0, 0) ∈ F) (hF : F.length + 1 < 128) (hW : WK S W) (hP : PM Y.1 j F) {m : zM} {hw : Nat} (h7 : hw < 7) (hm : m.1 < 2) (hm2 : m.2.1 < 128) (hm3 : m.2.2 = decide (hw / 4 = 1)) :
    (∀ e, (kJ2 Y.1 j S W hw m).2.2 = .inl e → ∃ h', f103_34 (ag_run gT (d + 5)) (some 0) (some (34 + 49 * j)) (nI m.1) (nI m.2.1) (nI hw) h = some (.inr e, h') ∧ CA (z + 1) (sl + 6) M pm (kJ2 Y.1 j S W hw m).1 Q ((kJ2 Y.1 j S W hw m).2.1, Y.2.1, Y.2.2) X W h') ∧
    ∀ n, (kJ2 Y.1 j S W hw m).2.2 = .inr n → ∃ h', f103_34 (ag_run gT (d + 5)) (some 0) (some (34 + 49 * j)) (nI m.1) (nI m.2.1) (nI hw) h = some (.inl (some (.inl (nI n))), h') ∧ CA z sl M pm (kJ2 Y.1 j S W hw m).1 Q ((kJ2 Y.1 j S W hw m).2.1, Y.2.1, Y.2.2) X W h' := by
  have hw1 := hW.1
  have hx := hO.lt hw1 (fl_mem h0)
  have hi3 : W.2.2.1 < 300 := by
    have h1 := (hO.1 W.1 hW.1).2.2.2.1 _ _ hW.2.1
    have h2 := (hO.1 W.1 hW.1).2.1
    omega
  obtain ⟨hn4, -⟩ := hC.nl hj
  have hme : m = (m.1, m.2.1, decide (hw / 4 = 1)) := by rw [← hm3]
  have st : f103_34 (ag_run gT (d + 5)) (some 0) (some (34 + 49 * j)) (nI m.1) (nI m.2.1) (nI hw) h = f103_64 (ag_run gT (d + 5)) (some 0) (some (34 + 49 * j)) (nI m.1) (nI m.2.1) (nI hw) ((pidx (Y.1 j) W.1 W.2.2.1).map fun k => 36 + 49 * j + 5 * pm j k) (bI (decide (hw % 4 = 0))) h := by
    unfold f103_34
    rw [hC.g9, hC.g11, hC.an hj, hC.n14 hj hw1 hi3, b_I, hC.an hj, hC.n15 hj (fun k h => pidx_lt h), b_R, lit_4, b_d (by decide), (hw4 hw h7).1, lit_0, lit_1]
    by_cases h9 : hw % 4 = 0
    · rw [if_pos (by rw [h9]), decide_eq_true h9]; rfl
    · rw [if_neg (by rw [nI_eq (by omega) (by omega)]; exact h9), decide_eq_false h9]; rfl
  rw [st]
  -- what follows the test of fullness
  have go : ∀ (l6 : Option Nat) (fu : Bool), f103_109 (ag_run gT (d + 5)) (some 0) (some (34 + 49 * j)) (nI m.1) (nI m.2.1) (nI hw) l6 (bI (decide (hw % 4 = 0))) (bI fu) h = if fu = true ∨ W.2.2.2 = false then f103_123 (ag_run gT (d + 5)) (some 0) (some (34 + 49 * j)) (nI m.1) (nI m.2.1) (nI hw) l6 (bI (decide (hw % 4 = 0))) h else f103_148 (ag_run gT (d + 5)) (some 0) (some (34 + 49 * j)) (nI m.1) (nI m.2.1) (nI hw) l6 (bI (decide (hw % 4 = 0))) h := by
    intro l6 fu
    unfold f103_109
    rw [hC.g12, lit_0]
    cases W.2.2.2
    · rw [if_pos (show bI false = nI 0 from rfl), if_pos (Or.inr rfl)]
    · rw [if_neg (show ¬ bI true = nI 0 by decide)]
      cases fu
      · rw [if_pos (show bI false = nI 0 from rfl), if_neg (by simp)]
      · rw [if_neg (show ¬ bI true = nI 0 by decide), if_pos (Or.inl rfl)]
  cases hpx : pidx (Y.1 j) W.1 W.2.2.1 with
  | none =>
    have hk : kJ2 Y.1 j S W hw m = if 4 ≤ (Y.1 j).length ∨ W.2.2.2 = false then (kGo (kGo S W.1 W.2.1) m.1 m.2.1, Y.1, .inl (if W.2.2.2 then 1 else 3))
      else if hw % 4 = 0 then (kGo S W.1 W.2.1, up1 Y.1 j (Y.1 j ++ [((W.1, W.2.2.1), jnL hw m [])]), .inr (jnL hw m []).length)
      else ((kOwn S W).1, up1 Y.1 j (Y.1 j ++ [((W.1, W.2.2.1), jnL hw m [(W.1, (kOwn S W).2, true)])]), .inr (jnL hw m [(W.1, (kOwn S W).2, true)]).length) := by
      unfold kJ2; rw [hpx]
    have hg : f103_64 (ag_run gT (d + 5)) (some 0) (some (34 + 49 * j)) (nI m.1) (nI m.2.1) (nI hw) ((none : Option Nat).map fun k => 36 + 49 * j + 5 * pm j k) (bI (decide (hw % 4 = 0))) h = if 4 ≤ (Y.1 j).length ∨ W.2.2.2 = false then f103_123 (ag_run gT (d + 5)) (some 0) (some (34 + 49 * j)) (nI m.1) (nI m.2.1) (nI hw) none (bI (decide (hw % 4 = 0))) h else f103_148 (ag_run gT (d + 5)) (some 0) (some (34 + 49 * j)) (nI m.1) (nI m.2.1) (nI hw) none (bI (decide (hw % 4 = 0))) h := by
      unfold f103_64
      rw [Option.map_none, if_pos rfl, hC.nc hj, lit_0, lit_1, lit_4]
      by_cases h9 : 4 ≤ (Y.1 j).length
      · rw [if_neg (nI_nlt h9 (by omega))]
        have := go none true
        refine this.trans ?_
        rw [if_pos (Or.inl rfl), if_pos (Or.inl h9)]
      · rw [if_pos (nI_lt (by omega) (by omega))]
        have := go none false
        refine this.trans ?_
        by_cases h8 : W.2.2.2 = false
        · rw [if_pos (Or.inr h8), if_pos (Or.inr h8)]
        · rw [if_neg (by simp [h8]), if_neg (by simp [h8]; omega)]
    rw [hg, hk]
    by_cases hfull : 4 ≤ (Y.1 j).length ∨ W.2.2.2 = false
    · rw [if_pos hfull, if_pos hfull]
      obtain ⟨h1, e1, C1⟩ := hC.f123 (d := d) (l1 := some (34 + 49 * j)) (l6 := none) (l4 := nI hw) (l7 := bI (decide (hw % 4 = 0))) hw1 hx hm hm2
      refine ⟨fun e he => ?_, fun n he => by cases he⟩
      injection he with he
      rw [← he]
      exact ⟨h1, e1, C1⟩
    · rw [if_neg hfull, if_neg hfull]
      unfold f103_148
      rw [if_pos rfl, hC.a0]
      by_cases h9 : hw % 4 = 0
      · rw [if_pos h9, decide_eq_true h9]
        obtain ⟨h1, e1, C1⟩ := hC.c105a (d := d) hj (by omega) hw1 hi3 hx
        have e1 : ag_run gT (d + 5) 105 [.inr (some 0), .inr (some (34 + 49 * j)), .inl (bI true)] h = _ := e1
        obtain ⟨h2, e2, C2⟩ := C1.f171 (d := d) (LV_app Y hj (W.1, W.2.2.1) []) (by rw [lms_app]; decide) h7 (fun _ => by rw [lms_app]) m.1 m.2.1
        rw [lms_app, ← hme] at e2 C2
        rw [lset_app] at C2
        refine ⟨fun e he => (by cases he), fun n he => ?_⟩
        injection he with he
        rw [← he, e1, b_R]
        exact ⟨h2, e2, C2⟩
      · rw [if_neg h9, decide_eq_false h9]
        obtain ⟨h1, e1, C1⟩ := hC.c105b (d := d) hj (by omega) hw1 hi3 hO h0 hF
        have e1 : ag_run gT (d + 5) 105 [.inr (some 0), .inr (some (34 + 49 * j)), .inl (bI false)] h = _ := e1
        obtain ⟨h2, e2, C2⟩ := C1.f171 (d := d) (LV_app Y hj (W.1, W.2.2.1) [(W.1, (kOwn S W).2, true)]) (by rw [lms_app]; show 1 < 3; decide) h7 (fun h8 => absurd h8 h9) m.1 m.2.1
        rw [lms_app, ← hme] at e2 C2
        rw [lset_app] at C2
        refine ⟨fun e he => (by cases he), fun n he => ?_⟩
        injection he with he
        rw [← he, e1, b_R]
        exact ⟨h2, e2, C2⟩
  | some k =>
    have hkl := pidx_lt hpx
    have hL := hC.ap5 hj hkl
    have hl3 : ((Y.1 j).getD k dP).2.length ≤ 3 := hC.len hL
    have hv : ∀ m ∈ ((Y.1 j).getD k dP).2, m.1 < 2 ∧ m.2.1 < 128 := fun m h => ⟨(hP _ (getD_memP hkl) m h).1, hO.lt (hP _ (getD_memP hkl) m h).1 (List.mem_append_right _ (hP _ (getD_memP hkl) m h).2)⟩
    have hk : kJ2 Y.1 j S W hw m = if (hw % 4 ≠ 0 ∧ 3 ≤ ((Y.1 j).getD k dP).2.length) ∨ W.2.2.2 = false then (kGo (kGo S W.1 W.2.1) m.1 m.2.1, Y.1, .inl (if W.2.2.2 then 1 else 3))
      else if hw % 4 = 0 then (kGo (kClA S ((Y.1 j).getD k dP).2) W.1 W.2.1, up1 Y.1 j ((Y.1 j).set k (((Y.1 j).getD k dP).1, jnL hw m [])), .inr (jnL hw m []).length)
      else (kGo S W.1 W.2.1, up1 Y.1 j ((Y.1 j).set k (((Y.1 j).getD k dP).1, jnL hw m ((Y.1 j).getD k dP).2)), .inr (jnL hw m ((Y.1 j).getD k dP).2).length) := by
      unfold kJ2; rw [hpx]
    have hg : f103_64 (ag_run gT (d + 5)) (some 0) (some (34 + 49 * j)) (nI m.1) (nI m.2.1) (nI hw) ((some k).map fun k => 36 + 49 * j + 5 * pm j k) (bI (decide (hw % 4 = 0))) h = if (hw % 4 ≠ 0 ∧ 3 ≤ ((Y.1 j).getD k dP).2.length) ∨ W.2.2.2 = false then f103_123 (ag_run gT (d + 5)) (some 0) (some (34 + 49 * j)) (nI m.1) (nI m.2.1) (nI hw) (some (36 + 49 * j + 5 * pm j k)) (bI (decide (hw % 4 = 0))) h else f103_148 (ag_run gT (d + 5)) (some 0) (some (34 + 49 * j)) (nI m.1) (nI m.2.1) (nI hw) (some (36 + 49 * j + 5 * pm j k)) (bI (decide (hw % 4 = 0))) h := by
      unfold f103_64 f103_108
      rw [Option.map_some, if_neg (by simp), lit_0, lit_1, lit_3]
      by_cases h9 : hw % 4 = 0
      · rw [decide_eq_true h9, if_neg (show ¬ bI true = nI 0 by decide)]
        have := go (some (36 + 49 * j + 5 * pm j k)) false
        rw [decide_eq_true h9] at this
        refine this.trans ?_
        by_cases h8 : W.2.2.2 = false
        · rw [if_pos (Or.inr h8), if_pos (Or.inr h8)]
        · rw [if_neg (by simp [h8]), if_neg (by simp [h8, h9])]
      · rw [decide_eq_false h9, if_pos (show bI false = nI 0 from rfl), hC.np hj hkl, hC.hn hL]
        show (if nI ((Y.1 j).getD k dP).2.length < nI 3 then _ else _) = _
        by_cases h10 : 3 ≤ ((Y.1 j).getD k dP).2.length
        · rw [if_neg (nI_nlt h10 (by omega))]
          have := go (some (36 + 49 * j + 5 * pm j k)) true
          rw [decide_eq_false h9] at this
          refine this.trans ?_
          rw [if_pos (Or.inl rfl), if_pos (Or.inl ⟨h9, h10⟩)]
        · rw [if_pos (nI_lt (by omega) (by omega))]
          have := go (some (36 + 49 * j + 5 * pm j k)) false
          rw [decide_eq_false h9] at this
          refine this.trans ?_
          by_cases h8 : W.2.2.2 = false
          · rw [if_pos (Or.inr h8), if_pos (Or.inr h8)]
          · rw [if_neg (by simp [h8]), if_neg (fun h7 => h7.elim (fun h6 => h10 h6.2) h8)]
    rw [hg, hk]
    by_cases hfull : (hw % 4 ≠ 0 ∧ 3 ≤ ((Y.1 j).getD k dP).2.length) ∨ W.2.2.2 = false
    · rw [if_pos hfull, if_pos hfull]
      obtain ⟨h1, e1, C1⟩ := hC.f123 (d := d) (l1 := some (34 + 49 * j)) (l6 := some (36 + 49 * j + 5 * pm j k)) (l4 := nI hw) (l7 := bI (decide (hw % 4 = 0))) hw1 hx hm hm2
      refine ⟨fun e he => ?_, fun n he => by cases he⟩
      injection he with he
      rw [← he]
      exact ⟨h1, e1, C1⟩
    · rw [if_neg hfull, if_neg hfull]
      unfold f103_148
      rw [if_neg (show ¬ (some (36 + 49 * j + 5 * pm j k) = none) by simp), hC.a0]
      by_cases h9 : hw % 4 = 0
      · rw [if_pos h9, decide_eq_true h9]
        obtain ⟨h1, e1, C1⟩ := hC.c106a (d := d) hj hkl hw1 hx hv
        have e1 : ag_run gT (d + 5) 106 [.inr (some 0), .inr (some (36 + 49 * j + 5 * pm j k)), .inl (bI true)] h = _ := e1
        obtain ⟨l1, l2, l3⟩ := LS1 Y hj hkl []
        obtain ⟨h2, e2, C2⟩ := C1.f171 (d := d) l1 (by rw [l2]; decide) h7 (fun _ => l2) m.1 m.2.1
        rw [l2, ← hme] at e2 C2
        rw [l3] at C2
        refine ⟨fun e he => (by cases he), fun n he => ?_⟩
        injection he with he
        rw [← he, e1, b_R]
        exact ⟨h2, e2, C2⟩
      · rw [if_neg h9, decide_eq_false h9]
        have hl2 : ((Y.1 j).getD k dP).2.length < 3 := by
          rcases Nat.lt_or_ge ((Y.1 j).getD k dP).2.length 3 with h8 | h8
          · exact h8
          · exact absurd (Or.inl ⟨h9, h8⟩) hfull
        obtain ⟨h1, e1, C1⟩ := hC.c106b (d := d) hj hkl hw1 hx
        have e1 : ag_run gT (d + 5) 106 [.inr (some 0), .inr (some (36 + 49 * j + 5 * pm j k)), .inl (bI false)] h = _ := e1
        obtain ⟨h2, e2, C2⟩ := C1.f171 (d := d) hL hl2 h7 (fun h8 => absurd h8 h9) m.1 m.2.1
        rw [← hme] at e2 C2
        refine ⟨fun e he => (by cases he), fun n he => ?_⟩
        injection he with he
        rw [← he, e1, b_R]
        exact ⟨h2, e2, C2⟩
end JOIN

/-! HANDLES that are kept: the meaning -/
def hp2 (m : zM) : Nat × Nat := (m.1, m.2.1)
def kOwn (S : zS) (W : zW) : zS × Nat := if W.1 = 0 ∧ W.2.1 = 0 then (kSame S W.1 W.2.1, fre S W.1) else (S, W.2.1)
def kCpy : List zM → zS → zS × List zM
  | [], S => (S, [])
  | m :: ms, S => ((kCpy ms (kSame S m.1 m.2.1)).1, (m.1, fre S m.1, m.2.2) :: (kCpy ms (kSame S m.1 m.2.1)).2)
def kTk (P : Nat → List zP) (j : Nat) (S : zS) (W : zW) : zS × List zM := match pidx (P j) W.1 W.2.2.1 with
  | none => ((kOwn S W).1, [(W.1, (kOwn S W).2, false)])
  | some k => (kGo (kCpy ((P j).getD k dP).2 S).1 W.1 W.2.1, (kCpy ((P j).getD k dP).2 S).2)
def kOpL (m : Nat) : List zM → zS → Nat → zS × List zM × Nat
  | [], S, e => (S, [], e)
  | x :: xs, S, e => match oOP (S.1 x.1) x.2.1 m with
    | .inl e' => kOpL m xs (kGo (kOP S x.1 x.2.1 m) x.1 x.2.1) e'
    | .inr _ => ((kOpL m xs (kOP S x.1 x.2.1 m) e).1, x :: (kOpL m xs (kOP S x.1 x.2.1 m) e).2.1, (kOpL m xs (kOP S x.1 x.2.1 m) e).2.2)
section TAKE
variable {z sl d : Nat} {M : Nat → Nat → Int32} {pm : Nat → Nat → Nat} {S : zS} {Q : Nat → Option Nat} {Y : zY} {X : zX} {W : zW} {h : ag_H} {s x : Nat} {F : List (Nat × Nat)}
theorem fl_len (W : zW) (F : List (Nat × Nat)) : (fl W ++ F).length ≤ F.length + 1 := by
  unfold fl
  split <;> simp
theorem OW.own (hO : OW S (fl W ++ F)) (h0 : (0, 0) ∈ F) (hl : F.length + 1 < 128) (hw : W.1 < 2) : OW (kOwn S W).1 ((W.1, (kOwn S W).2) :: F) := by
  unfold kOwn
  unfold fl at hO
  by_cases e : W.1 = 0 ∧ W.2.1 = 0
  · rw [if_pos e] at hO ⊢
    exact OW.same (L := F) hO hw (by rw [e.1, e.2]; exact h0) (by omega)
  · rw [if_neg e] at hO ⊢
    exact hO
theorem CA.own (hC : CA z sl M pm S Q Y X W h) (hO : OW S (fl W ++ F)) (h0 : (0, 0) ∈ F) (hl : F.length + 1 < 128) (hw : W.1 < 2) : ∃ h', ag_run gT (d + 4) 97 [.inr (some 0)] h = some (.inl (some (.inl (nI (kOwn S W).2))), h') ∧ CA z sl M pm (kOwn S W).1 Q Y X W h' := by
  have hm := fl_mem (W := W) h0
  have hx := hO.lt hw hm
  have hl2 := fl_len W F
  rw [r97]
  unfold f97 f97_36 kOwn
  rw [hC.g9, hC.g10, c82 hw hx, b_I, lit_0]
  by_cases e : W.1 = 0 ∧ W.2.1 = 0
  · rw [decide_eq_true e, if_neg (show ¬ bI true = nI 0 by decide), if_pos e, hC.g9, hC.a0]
    obtain ⟨h1, t, q, t', r, e1, C1⟩ := hC.to (d := d + 2) hw
    obtain ⟨h2, e2, C2⟩ := C1.c38 (d := d) (s := W.1) rfl hx (hO.free hw (by omega)).1
    refine ⟨h2, ?_, C2⟩
    rw [e1, b_R, C1.g10, C1.as hw, e2, b_I]
    rfl
  · rw [decide_eq_false e, if_pos (show bI false = nI 0 from rfl), if_neg e, hC.g10]
    exact ⟨h, rfl, hC⟩
theorem OW.cpy : ∀ (ms : List zM) (S : zS) (F : List (Nat × Nat)), OW S F → F.length + ms.length ≤ 128 → (∀ m ∈ ms, m.1 < 2 ∧ (m.1, m.2.1) ∈ F) → OW (kCpy ms S).1 ((kCpy ms S).2.map hp2 ++ F) := by
  intro ms
  induction ms with
  | nil => intro S F hO _ _; exact hO
  | cons m ms ih =>
    intro S F hO hl hv
    obtain ⟨v1, v2⟩ := hv m (by simp)
    have hl : F.length + (ms.length + 1) ≤ 128 := hl
    have := ih (kSame S m.1 m.2.1) ((m.1, fre S m.1) :: F) (hO.same v1 v2 (by omega)) (by simp; omega) (fun m' h => ⟨(hv m' (by simp [h])).1, by simp [(hv m' (by simp [h])).2]⟩)
    refine this.cnt fun x => ?_
    show (List.map hp2 ((m.1, fre S m.1, m.2.2) :: (kCpy ms (kSame S m.1 m.2.1)).2) ++ F).count x = _
    rw [List.map_cons, List.cons_append]
    show ((m.1, fre S m.1) :: _).count x = _
    simp only [List.count_append, List.count_cons]
    omega
theorem kCpy_len : ∀ (ms : List zM) (S : zS), (kCpy ms S).2.length = ms.length := by
  intro ms
  induction ms with
  | nil => intro S; rfl
  | cons m ms ih =>
    intro S
    show (kCpy ms (kSame S m.1 m.2.1)).2.length + 1 = _
    rw [ih]; rfl
/-- a list that is written does not touch the one that is read -/
def LD (Y : zY) (L L' : Nat × Nat × Nat) : Prop := ∀ ms, lms (lset Y L' ms) L = lms Y L ∧ LV (lset Y L' ms) L ∧ LV (lset Y L' ms) L' ∧ lms (lset Y L' ms) L' = ms ∧ ∀ ms', lset (lset Y L' ms) L' ms' = lset Y L' ms'
theorem up1_up1 {α : Type} (f : Nat → α) (a : Nat) (v w : α) : up1 (up1 f a v) a w = up1 f a w := by
  funext b
  by_cases e : b = a
  · subst e; rw [up1_eq, up1_eq]
  · rw [up1_ne e, up1_ne e, up1_ne e]
theorem up2_up2 {α : Type} (f : Nat → Nat → α) (a i : Nat) (v w : α) : up2 (up2 f a i v) a i w = up2 f a i w := by
  funext b j
  by_cases e : b = a ∧ j = i
  · obtain ⟨rfl, rfl⟩ := e; rw [up2_eq, up2_eq]
  · rw [up2_ne e, up2_ne e, up2_ne e]
theorem LS2 (Y : zY) {p f : Nat} (hp9 : p < 4) (hf : f < 5) (ms : List zM) : LV (lset Y (2, p, f) ms) (2, p, f) ∧ lms (lset Y (2, p, f) ms) (2, p, f) = ms ∧ ∀ ms', lset (lset Y (2, p, f) ms) (2, p, f) ms' = lset Y (2, p, f) ms' := by
  refine ⟨Or.inr (Or.inr ⟨p, f, rfl, hp9, hf⟩), ?_, fun ms' => ?_⟩
  · show (up2 Y.2.1 p f _ p f).2.1 = ms
    rw [up2_eq]
  · show (Y.1, up2 (up2 Y.2.1 p f _) p f ((up2 Y.2.1 p f _ p f).1, ms', (up2 Y.2.1 p f _ p f).2.2), Y.2.2) = (Y.1, up2 Y.2.1 p f _, Y.2.2)
    rw [up2_eq, up2_up2]
theorem LD_12 (Y : zY) {j k p f : Nat} (hj : j < 4) (hk : k < (Y.1 j).length) (hp9 : p < 4) (hf : f < 5) : LD Y (1, j, k) (2, p, f) := fun ms =>
  ⟨rfl, Or.inr (Or.inl ⟨j, k, rfl, hj, hk⟩), LS2 Y hp9 hf ms⟩
theorem LS1 (Y : zY) {j k : Nat} (hj : j < 4) (hk : k < (Y.1 j).length) (ms : List zM) : LV (lset Y (1, j, k) ms) (1, j, k) ∧ lms (lset Y (1, j, k) ms) (1, j, k) = ms ∧ ∀ ms', lset (lset Y (1, j, k) ms) (1, j, k) ms' = lset Y (1, j, k) ms' := by
  have hl : (up1 Y.1 j ((Y.1 j).set k (((Y.1 j).getD k dP).1, ms)) j).length = (Y.1 j).length := by rw [up1_eq, List.length_set]
  refine ⟨Or.inr (Or.inl ⟨j, k, rfl, hj, by show k < (up1 Y.1 j _ j).length; rw [hl]; exact hk⟩), ?_, fun ms' => ?_⟩
  · show ((up1 Y.1 j _ j).getD k dP).2 = ms
    rw [up1_eq, gDs _ _ hk, if_pos rfl]
  · show (up1 (up1 Y.1 j _) j ((up1 Y.1 j _ j).set k (((up1 Y.1 j _ j).getD k dP).1, ms')), Y.2.1, Y.2.2) = (up1 Y.1 j _, Y.2.1, Y.2.2)
    rw [up1_eq, gDs _ _ hk, if_pos rfl, up1_up1, List.set_set]
theorem LD_11 (Y : zY) {j k j' k' : Nat} (hj : j < 4) (hk : k < (Y.1 j).length) (hj' : j' < 4) (hk' : k' < (Y.1 j').length) (hne : j ≠ j') : LD Y (1, j, k) (1, j', k') := fun ms =>
  ⟨by show ((up1 Y.1 j' _ j).getD k dP).2 = _; rw [up1_ne hne]; rfl, Or.inr (Or.inl ⟨j, k, rfl, hj, by show k < (up1 Y.1 j' _ j).length; rw [up1_ne hne]; exact hk⟩), LS1 Y hj' hk' ms⟩
theorem c99_2 {L L' : Nat × Nat × Nat} (hD : LD Y L L') : ∀ (m k n : Nat) (S : zS) (F : List (Nat × Nat)) (acc : List zM) (h : ag_H), k + m = (lms Y L).length → acc.length + m ≤ 3 → OW S F → F.length + m ≤ 128 → (∀ m ∈ lms Y L, m.1 < 2 ∧ (m.1, m.2.1) ∈ F) → CA z sl M pm S Q (lset Y L' acc) X W h →
    ∃ h', g99 (ag_run gT (d + 3)) (n + m + 1) (some 0) (some (lad pm L)) (some (lad pm L')) (nI k) h = some (.inl none, h') ∧ CA z sl M pm (kCpy ((lms Y L).drop k) S).1 Q (lset Y L' (acc ++ (kCpy ((lms Y L).drop k) S).2)) X W h' := by
  intro m
  induction m with
  | zero =>
    intro k n S F acc h hk ha hO hl hv hC
    obtain ⟨d1, d2, d3, d4, d5⟩ := hD acc
    have hn := hC.len d2
    rw [d1] at hn
    refine ⟨h, ?_, ?_⟩
    · show f99_2 _ _ _ _ _ _ _ = _
      unfold f99_2
      rw [hC.hn d2, d1, if_pos (nI_le (by omega) (by omega))]
    · rw [List.drop_eq_nil_of_le (by omega)]
      show CA z sl M pm S Q (lset Y L' (acc ++ [])) X W h
      rw [List.append_nil]; exact hC
  | succ m ih =>
    intro k n S F acc h hk ha hO hl hv hC
    obtain ⟨d1, d2, d3, d4, d5⟩ := hD acc
    have hn := hC.len d2
    rw [d1] at hn
    have hkl : k < (lms Y L).length := by omega
    have hkl2 : k < (lms (lset Y L' acc) L).length := by rw [d1]; exact hkl
    obtain ⟨v1, v2⟩ := hv _ (gM_mem hkl)
    have v3 := hO.lt v1 v2
    have e3 := hC.h3 (d := d + 2) d2 hkl2
    obtain ⟨h1, t, q, t', r, e1, C1⟩ := hC.to (d := d + 2) v1
    have e4 := C1.h4 (d := d + 2) d2 hkl2
    obtain ⟨h2, e2, C2⟩ := C1.c38 (d := d) (s := ((lms Y L).getD k dM).1) rfl v3 (hO.free v1 (by omega)).1
    have e5 := C2.h5 (d := d + 2) d2 hkl2
    obtain ⟨h6, e6, C6⟩ := C2.h1e (d := d + 2) d3 (by rw [d4]; omega) (((lms Y L).getD k dM).1, fre S ((lms Y L).getD k dM).1, ((lms Y L).getD k dM).2.2)
    rw [d4, d5] at C6
    rw [d4] at e6
    rw [d1] at e3 e4 e5
    obtain ⟨h7, e7, C7⟩ := ih (k + 1) n (kSame S ((lms Y L).getD k dM).1 ((lms Y L).getD k dM).2.1) ((((lms Y L).getD k dM).1, fre S ((lms Y L).getD k dM).1) :: F) _ h6 (by omega) (by simp; omega) (hO.same v1 v2 (by omega)) (by simp; omega) (fun m' h => ⟨(hv m' h).1, by simp [(hv m' h).2]⟩) C6
    refine ⟨h7, ?_, ?_⟩
    · rw [show n + (m + 1) + 1 = (n + m + 1) + 1 by omega]
      show f99_2 _ _ _ _ _ _ _ = _
      unfold f99_2
      have e2' : ag_run gT (d + 3) 38 [.inr (some (2 + 9 * ((lms Y L).getD k dM).1)), .inl (nI ((lms Y L).getD k dM).2.1)] h1 = some (.inl (some (.inl (nI (fre S ((lms Y L).getD k dM).1)))), h2) := e2
      rw [hC.hn d2, d1, if_neg (nI_ge (by omega) (by omega)), hC.ah d2, e3, b_I, hC.hn d3, d4, hC.a0, e1, b_R, C1.ah d2, e4, b_I, C1.as v1, e2', b_I, C2.ah d2, e5, b_I, C2.ah d3, e6, b_V, lit_1, nI_add]
      exact e7
    · rw [drop_gM hkl]
      rw [List.append_assoc] at C7
      exact C7
theorem CA.cpy {L L' : Nat × Nat × Nat} (hD : LD Y L L') (hC : CA z sl M pm S Q (lset Y L' []) X W h) (h3 : (lms Y L).length ≤ 3) (hO : OW S F) (hl : F.length + (lms Y L).length ≤ 128) (hv : ∀ m ∈ lms Y L, m.1 < 2 ∧ (m.1, m.2.1) ∈ F) : ∃ h', ag_run gT (d + 4) 99 [.inr (some 0), .inr (some (lad pm L)), .inr (some (lad pm L'))] h = some (.inl none, h') ∧ CA z sl M pm (kCpy (lms Y L) S).1 Q (lset Y L' (kCpy (lms Y L) S).2) X W h' := by
  obtain ⟨h', e, C⟩ := c99_2 (d := d) hD (lms Y L).length 0 (3999 - (lms Y L).length) S F [] h (by omega) (by simp; omega) hO hl hv hC
  refine ⟨h', ?_, C⟩
  rw [r99]
  unfold f99
  rw [lit_0]
  rw [show 3999 - (lms Y L).length + (lms Y L).length + 1 = 4000 by omega] at e
  exact e
end TAKE

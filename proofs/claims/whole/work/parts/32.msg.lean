/-! MESSAGES of the class -/
def by8 (v : Int32) (n : Nat) : Int32 := ((v.toUInt32 >>> ((nI n).toUInt32 &&& Int32.toUInt32 31)).toInt32) &&& nI 255
def le (v : Int32) (k : Nat) : List Int32 := (List.range k).map fun i => by8 v (8 * i)
def msg (t : Int32) (pl : List Int32) : List Int32 := nI (7 + pl.length) :: nI 0 :: nI 0 :: nI 0 :: t :: nI 1 :: nI 0 :: pl
def MM (I : Nat → Nat → Int32) (m : Nat) (t : Int32) (pl : List Int32) (c : Int32) : Prop :=
  I m 1 = nI (7 + pl.length) ∧ I m 2 = c ∧ (∀ i, i < 7 + pl.length → I (m + 1) i = (msg t pl).getD i 0) ∧ pl.length ≤ 13
def Fm (m : Nat) (I I' : Nat → Nat → Int32) : Prop := ∀ b j, b ≠ m → b ≠ m + 1 → I' b j = I b j
theorem Fm.trans {m : Nat} {I I' I'' : Nat → Nat → Int32} (h1 : Fm m I I') (h2 : Fm m I' I'') : Fm m I I'' := fun b j x y => (h2 b j x y).trans (h1 b j x y)
theorem MM.fr {I I' : Nat → Nat → Int32} {m m' : Nat} {t : Int32} {pl : List Int32} {c : Int32} (h : MM I m t pl c) (f : Fm m' I I') (h1 : m ≠ m') (h2 : m ≠ m' + 1) (h3 : m + 1 ≠ m') : MM I' m t pl c :=
  ⟨(f _ _ h1 h2).trans h.1, (f _ _ h1 h2).trans h.2.1, fun i hi => (f _ _ h3 (by omega)).trans (h.2.2.1 i hi), h.2.2.2⟩
theorem msg_len (t : Int32) (pl : List Int32) : (msg t pl).length = 7 + pl.length := by
  unfold msg
  simp only [List.length_cons]
  omega
theorem msg_at (t : Int32) (pl : List Int32) (i : Nat) : (msg t pl).getD (7 + i) 0 = pl.getD i 0 := by
  rw [Nat.add_comm]; rfl
theorem seven {P : Nat → Prop} (h0 : P 0) (h1 : P 1) (h2 : P 2) (h3 : P 3) (h4 : P 4) (h5 : P 5) (h6 : P 6) : ∀ i, i < 7 → P i := by
  intro i hi
  match i, hi with
  | 0, _ => exact h0
  | 1, _ => exact h1
  | 2, _ => exact h2
  | 3, _ => exact h3
  | 4, _ => exact h4
  | 5, _ => exact h5
  | 6, _ => exact h6
section MSG
variable {z sl d : Nat} {kd ln : Nat → Nat} {I : Nat → Nat → Int32} {R : Nat → Nat → Option Nat} {a : Nat} {c t : Int32} {pl : List Int32}
theorem s8 (W : WS kd ln R) (hk : kd a = 1) {t0 : Int32} (h : MM I a t0 pl c) (t : Int32) : ∃ I', ag_run gT (d + 1) 8 [.inr (some a), .inl t] (hp z sl kd ln I R) = some (.inl none, hp z sl kd ln I' R) ∧ MM I' a t [] (c + nI 1) ∧ Fm a I I' := by
  obtain ⟨k1, l1, r1⟩ := W_1 W hk
  obtain ⟨h1, h2, h3, h4⟩ := h
  refine ⟨up2 (up2 (up2 (up2 (up2 I a 2 (c + nI 1)) a 1 (nI 7)) (a + 1) 0 (nI 7)) (a + 1) 4 t) (a + 1) 5 (nI 1), ?_, ⟨?_, ?_, ?_, ?_⟩, ?_⟩
  · rw [r8]
    unfold f8
    simp (disch := first | assumption | decide | omega) only [lit_0, lit_1, lit_4, lit_5, lit8_7, x_gI W, x_pI W, x_gR W, x_yI, r1, h2]
  · simp (disch := omega) only [up2_ne, up2_eq]; rfl
  · simp (disch := omega) only [up2_ne, up2_eq]
  · have e : ∀ i, i < 7 → I (a + 1) i = (msg t0 pl).getD i 0 := fun i hi => h3 i (by omega)
    refine seven ?_ ?_ ?_ ?_ ?_ ?_ ?_
    · simp (disch := omega) only [up2_ne, up2_eq]; rfl
    · simp (disch := omega) only [up2_ne, up2_eq]; exact e 1 (by omega)
    · simp (disch := omega) only [up2_ne, up2_eq]; exact e 2 (by omega)
    · simp (disch := omega) only [up2_ne, up2_eq]; exact e 3 (by omega)
    · simp (disch := omega) only [up2_ne, up2_eq]; rfl
    · simp (disch := omega) only [up2_ne, up2_eq]; rfl
    · simp (disch := omega) only [up2_ne, up2_eq]; exact e 6 (by omega)
  · simp
  · intro b j h1 h2
    simp (disch := omega) only [up2_ne]
/-- the loop of put -/
theorem s9_2 (W : WS kd ln R) (hk : kd a = 1) (v : Int32) : ∀ (m k n : Nat) (I : Nat → Nat → Int32) (pl : List Int32), pl.length + m ≤ 13 → I a 1 = nI (7 + pl.length) → I a 2 = c → (∀ i, 1 ≤ i → i < 7 + pl.length → I (a + 1) i = (msg t pl).getD i 0) → k + m ≤ 4 →
    ∃ I', g9 (ag_run gT d) (n + m + 1) (some a) v (nI (k + m)) (nI k) (hp z sl kd ln I R) = some (.inl none, hp z sl kd ln I' R) ∧ MM I' a t (pl ++ (List.range m).map fun i => by8 v (8 * (k + i))) c ∧ Fm a I I' := by
  obtain ⟨k1, l1, r1⟩ := W_1 W hk
  intro m
  induction m with
  | zero =>
    intro k n I pl hl e1 e2 e3 hk4
    refine ⟨up2 I (a + 1) 0 (nI (7 + pl.length)), ?_, ⟨?_, ?_, ?_, ?_⟩, ?_⟩
    · show f9_2 _ _ _ _ _ _ _ = _
      unfold f9_2 f9_51
      rw [Nat.add_zero, if_pos (nI_le (a := k) (b := k) (Nat.le_refl _) (by omega))]
      simp (disch := first | assumption | decide | omega) only [lit_0, x_gI W, x_gR W, x_yI, r1, e1]
    · simp (disch := omega) only [up2_ne, e1]; simp
    · simp (disch := omega) only [up2_ne, e2]
    · intro i hi
      simp only [List.range_zero, List.map_nil, List.append_nil] at hi ⊢
      by_cases h0 : i = 0
      · subst h0; rw [up2_eq]; rfl
      · rw [up2_ne (by omega)]; exact e3 i (by omega) hi
    · simp; omega
    · intro b j h1 h2
      rw [up2_na h2]
  | succ m ih =>
    intro k n I pl hl e1 e2 e3 hk4
    obtain ⟨I', g1, g2, g3⟩ := ih (k + 1) n (up2 (up2 I (a + 1) (7 + pl.length) (by8 v (8 * k))) a 1 (nI (7 + (pl.length + 1)))) (pl ++ [by8 v (8 * k)]) (by simp; omega) (by rw [up2_eq]; simp) (by simp (disch := omega) only [up2_ne, e2]) (by
      intro i h1 hi
      rw [up2_na (by omega)]
      by_cases h9 : i = 7 + pl.length
      · subst h9
        rw [up2_eq, msg_at]
        simp
      · rw [up2_ni h9, e3 i h1 (by simp at hi; omega)]
        by_cases h7 : i < 7
        · revert h1
          revert i
          intro i hi h9 h7 h1
          have : ∀ i, i < 7 → 1 ≤ i → (msg t pl).getD i 0 = (msg t (pl ++ [by8 v (8 * k)])).getD i 0 := seven (fun h => by omega) (fun _ => rfl) (fun _ => rfl) (fun _ => rfl) (fun _ => rfl) (fun _ => rfl) (fun _ => rfl)
          exact this i h7 h1
        · rw [show i = 7 + (i - 7) by omega, msg_at, msg_at]
          simp at hi
          rw [List.getD_eq_getElem?_getD, List.getD_eq_getElem?_getD, List.getElem?_append_left (by omega)]) (by omega)
    refine ⟨I', ?_, ?_, ?_⟩
    · rw [show n + (m + 1) + 1 = (n + m + 1) + 1 by omega]
      show f9_2 _ _ _ _ _ _ _ = _
      unfold f9_2 f9_51
      rw [if_neg (nI_ge (by omega) (by omega))]
      have hlt : ¬ (nI 20 ≤ nI (7 + pl.length)) := nI_ge (by omega) (by omega)
      simp (disch := first | assumption | decide | omega) only [lit_1, lit8_20, lit8_8, lit16_255, x_gI W, x_gR W, x_pI W, x_yI, r1, e1, hlt, if_false, nI_mul, nI_add, up2_ne]
      rw [show k + (m + 1) = k + 1 + m by omega]
      exact g1
    · have e : (pl ++ [by8 v (8 * k)]) ++ (List.range m).map (fun i => by8 v (8 * (k + 1 + i))) = pl ++ (List.range (m + 1)).map fun i => by8 v (8 * (k + i)) := by
        rw [List.append_assoc, List.range_succ_eq_map, List.map_cons, List.map_map]
        refine congrArg (pl ++ ·) ?_
        refine congrArg (by8 v (8 * k) :: ·) ?_
        apply List.map_congr_left
        intro i _
        show _ = by8 v (8 * (k + (i + 1)))
        rw [show k + 1 + i = k + (i + 1) by omega]
      rw [← e]; exact g2
    · intro b j h1 h2
      rw [g3 b j h1 h2, up2_na h1, up2_na h2]
theorem s9 (W : WS kd ln R) (hk : kd a = 1) (h : MM I a t pl c) (v : Int32) (m : Nat) (hm : m ≤ 4) (hl : pl.length + m ≤ 13) : ∃ I', ag_run gT (d + 1) 9 [.inr (some a), .inl v, .inl (nI m)] (hp z sl kd ln I R) = some (.inl none, hp z sl kd ln I' R) ∧ MM I' a t (pl ++ le v m) c ∧ Fm a I I' := by
  obtain ⟨h1, h2, h3, h4⟩ := h
  obtain ⟨I', g1, g2, g3⟩ := s9_2 (z := z) (sl := sl) (d := d) (t := t) W hk v m 0 (3999 - m) I pl hl h1 h2 (fun i _ hi => h3 i hi) (by omega)
  refine ⟨I', ?_, ?_, g3⟩
  · rw [r9]
    unfold f9
    rw [lit_0]
    rw [Nat.zero_add, show 3999 - m + m + 1 = 4000 by omega] at g1
    exact g1
  · unfold le
    simpa using g2
end MSG

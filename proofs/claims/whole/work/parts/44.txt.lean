/-! TEXTS, PATHS, OPEN FILES, PROCESSES of the class -/
abbrev zO : Type := List zM × Nat × Nat × Nat × Nat
def CT (I : Nat → Nat → Int32) (a : Nat) (tx : List Nat) : Prop := I a 1 = nI tx.length ∧ tx.length ≤ 24 ∧ (∀ i, i < tx.length → I (a + 1) i = nI (tx.getD i 0)) ∧ (∀ i, i < 24 → ∃ n, n < 65536 ∧ I (a + 1) i = nI n) ∧ ∀ x ∈ tx, x < 65536
/-- the names of a path's text, behind those read so far -/
def ps1 : List Nat → List Nat → Option (List Nat)
  | [], ns => some ns
  | [_], _ => none
  | a :: c :: rest, ns => if a = 47 then (if 97 ≤ c ∧ c ≤ 104 then ps1 rest (ns ++ [c - 97]) else if c = 46 then (match rest with
      | [] => none
      | b :: rest' => if b = 46 then ps1 rest' ns.dropLast else none) else none) else none
def pth (tx : List Nat) : Option (List Nat) := if tx = [] then none else if tx = [47] then some [] else ps1 tx []
def CPt (I : Nat → Nat → Int32) (a : Nat) (o : Option (List Nat)) : Prop := I a 2 = bI o.isSome ∧ ∀ ns, o = some ns → I a 1 = nI ns.length ∧ ns.length ≤ 12 ∧ ∀ i, i < ns.length → ns.getD i 0 < 8 ∧ I (a + 1) i = nI (97 + ns.getD i 0)
def CO (I : Nat → Nat → Int32) (b : Nat) (o : Option zO) : Prop := I b 1 = bI o.isSome ∧ ∀ x, o = some x → CH I (b + 1) x.1 ∧ I b 2 = nI x.2.1 ∧ I b 3 = nI x.2.2.1 ∧ I b 4 = nI x.2.2.2.1 ∧ I b 5 = nI x.2.2.2.2
section TXT
variable {z sl d : Nat} {kd ln : Nat → Nat} {I : Nat → Nat → Int32} {R : Nat → Nat → Option Nat} {a t : Nat} {tx : List Nat}
theorem CT.congr {I' : Nat → Nat → Int32} (h : CT I a tx) (e : ∀ x j, a ≤ x → x ≤ a + 1 → I' x j = I x j) : CT I' a tx :=
  ⟨by rw [e _ _ (by omega) (by omega)]; exact h.1, h.2.1, fun i hi => by rw [e _ _ (by omega) (by omega)]; exact h.2.2.1 i hi, fun i hi => by rw [e _ _ (by omega) (by omega)]; exact h.2.2.2.1 i hi, h.2.2.2.2⟩
theorem CPt.congr {I' : Nat → Nat → Int32} {o : Option (List Nat)} (h : CPt I a o) (e : ∀ x j, a ≤ x → x ≤ a + 1 → I' x j = I x j) : CPt I' a o :=
  ⟨by rw [e _ _ (by omega) (by omega)]; exact h.1, fun ns hn => ⟨by rw [e _ _ (by omega) (by omega)]; exact (h.2 ns hn).1, (h.2 ns hn).2.1, fun i hi => ⟨((h.2 ns hn).2.2 i hi).1, by rw [e _ _ (by omega) (by omega)]; exact ((h.2 ns hn).2.2 i hi).2⟩⟩⟩
theorem CO.congr {I' : Nat → Nat → Int32} {o : Option zO} (h : CO I a o) (e : ∀ x j, a ≤ x → x ≤ a + 4 → I' x j = I x j) : CO I' a o := by
  refine ⟨by rw [e _ _ (by omega) (by omega)]; exact h.1, fun x hx => ?_⟩
  obtain ⟨h1, h2, h3, h4, h5⟩ := h.2 x hx
  exact ⟨h1.congr fun y j q1 q2 => e y j (by omega) (by omega), by rw [e _ _ (by omega) (by omega)]; exact h2, by rw [e _ _ (by omega) (by omega)]; exact h3, by rw [e _ _ (by omega) (by omega)]; exact h4, by rw [e _ _ (by omega) (by omega)]; exact h5⟩
/-- type: there is room -/
theorem s57_ok (W : WS kd ln R) (hk : kd a = 8) (h : CT I a tx) (hl : tx.length < 24) {c : Nat} (hc : c < 65536) : ∃ I', ag_run gT (d + 1) 57 [.inr (some a), .inl (nI c)] (hp z sl kd ln I R) = some (.inl (some (.inl (nI 1))), hp z sl kd ln I' R) ∧ CT I' a (tx ++ [c]) ∧ ∀ b j, b ≠ a → b ≠ a + 1 → I' b j = I b j := by
  obtain ⟨k1, l1, r1⟩ := W_8 W hk
  obtain ⟨h1, h2, h3, h4, h5⟩ := h
  refine ⟨up2 (up2 I (a + 1) tx.length (nI c)) a 1 (nI (tx.length + 1)), ?_, ⟨?_, by simp; omega, fun i hi => ?_, fun i hi => ?_, fun x hx => ?_⟩, fun b j q1 q2 => by rw [up2_na q1, up2_na q2]⟩
  · rw [r57]
    unfold f57
    rw [x_gI W hk rfl, h1, lit8_24, if_pos (nI_lt hl (by decide)), x_gR W hk rfl, r1, x_gI W hk rfl, h1, b_Cn hc, x_yI k1 rfl (by omega) (by omega), x_gI W hk rfl, up2_na (by omega), h1, lit_1, nI_add, x_pI W hk rfl, b_B (x := nI 1) (Or.inr rfl)]
  · rw [up2_eq]; simp
  · simp at hi
    rw [up2_na (by omega)]
    by_cases ei : i = tx.length
    · subst ei; rw [up2_eq]; simp [List.getD_eq_getElem?_getD]
    · rw [up2_ni ei, h3 i (by omega), List.getD_eq_getElem?_getD, List.getD_eq_getElem?_getD, List.getElem?_append_left (by omega)]
  · rw [up2_na (by omega)]
    by_cases ei : i = tx.length
    · subst ei; rw [up2_eq]; exact ⟨c, hc, rfl⟩
    · rw [up2_ni ei]; exact h4 i hi
  · rcases List.mem_append.mp hx with h | h
    · exact h5 x h
    · rw [List.mem_singleton.mp h]; exact hc
theorem s57_no (W : WS kd ln R) (hk : kd a = 8) (h : CT I a tx) (hl : ¬ tx.length < 24) (c : Int32) : ag_run gT (d + 1) 57 [.inr (some a), .inl c] (hp z sl kd ln I R) = some (.inl (some (.inl (nI 0))), hp z sl kd ln I R) := by
  have h2 := h.2.1
  rw [r57]
  unfold f57
  rw [x_gI W hk rfl, h.1, lit8_24, if_neg (nI_nlt (by omega) (by omega)), lit_0, b_B (x := nI 0) (Or.inl rfl)]
/-- a character; behind the end 0 -/
theorem s58 (W : WS kd ln R) (hk : kd a = 8) (h : CT I a tx) (i : Nat) (hi : i < 2 ^ 30) : ag_run gT (d + 1) 58 [.inr (some a), .inl (nI i)] (hp z sl kd ln I R) = some (.inl (some (.inl (nI (tx.getD i 0)))), hp z sl kd ln I R) := by
  obtain ⟨k1, l1, r1⟩ := W_8 W hk
  obtain ⟨h1, h2, h3, h4, h5⟩ := h
  rw [r58]
  unfold f58 f58_27 f58_28
  rw [lit_0, lit8_24, if_neg (nI_nlt (Nat.zero_le _) (by omega)), x_gI W hk rfl, h1]
  by_cases hl : i < tx.length
  · rw [if_neg (nI_ge hl (by omega)), if_neg (nI_ge (by omega) (by omega)), x_gR W hk rfl, r1, x_xI k1 rfl (by omega) (by omega), h3 i hl, b_Cn]
    exact h5 _ (getD_mem hl)
  · rw [if_pos (nI_le (by omega) (by omega)), b_Cn (by omega), List.getD_eq_getElem?_getD, List.getElem?_eq_none (by omega)]
    rfl
/-- keep -/
theorem s59 (W : WS kd ln R) (hk : kd a = 8) (ht : kd t = 8) (hat : a ≠ t) (h : CT I t tx) : ∃ I', ag_run gT (d + 1) 59 [.inr (some a), .inr (some t)] (hp z sl kd ln I R) = some (.inl none, hp z sl kd ln I' R) ∧ CT I' a tx ∧ ∀ b j, b ≠ a → b ≠ a + 1 → I' b j = I b j := by
  obtain ⟨k1, l1, r1⟩ := W_8 W hk
  obtain ⟨y1, m1, q1⟩ := W_8 W ht
  obtain ⟨h1, h2, h3, h4, h5⟩ := h
  have hta : t ≠ a + 1 := by intro e; rw [e] at ht; omega
  have hNe : ∀ N : Nat → Nat → Int32, N = up1 I (a + 1) (fun j => if j < 24 then I (t + 1) j else I (a + 1) j) → ag_set (hp z sl kd ln I R) (a + 1) (101, (List.range ((List.range (ln (a + 1))).map (hv 101 (I (a + 1)) (R (a + 1)))).length).map fun j => va_cpy (fun k => ((List.range (ln (t + 1))).map (hv 101 (I (t + 1)) (R (t + 1)))).getD k (.inl 0)) (fun k => ((List.range (ln (a + 1))).map (hv 101 (I (a + 1)) (R (a + 1)))).getD k (.inl 0)) (nI 0).toNatClampNeg (nI 0).toNatClampNeg (nI 24).toNatClampNeg j) = hp z sl kd ln N R := by
    rintro N rfl
    unfold ag_set hp
    refine congrArg (fun q => ((z, sl, q) : ag_H)) ?_
    funext b
    show (if b = a + 1 then _ else _) = _
    by_cases e : b = a + 1
    · subst e
      rw [if_pos rfl, k1, if_neg (by decide), up1_eq, List.length_map, List.length_range, l1, m1, nI_clamp (by omega), nI_clamp (by omega)]
      refine congrArg (fun q => some ((101, q) : ag_C)) ?_
      apply List.map_congr_left
      intro j hj
      have hj := List.mem_range.mp hj
      unfold va_cpy
      rw [if_pos ⟨Nat.zero_le _, by omega⟩]
      show List.getD _ (0 + (j - 0)) _ = _
      rw [List.getD_eq_getElem?_getD, hp_get (by omega)]
      show hv 101 (I (t + 1)) (R (t + 1)) (0 + (j - 0)) = .inl (if j < 24 then I (t + 1) j else I (a + 1) j)
      rw [if_pos hj, Nat.zero_add, Nat.sub_zero]
      rfl
    · rw [if_neg e]
      dsimp only
      rw [up1_ne e]
  refine ⟨up2 (up1 I (a + 1) (fun j => if j < 24 then I (t + 1) j else I (a + 1) j)) a 1 (nI tx.length), ?_, ⟨by rw [up2_eq], h2, fun i hi => ?_, fun i hi => ?_, h5⟩, fun b j b1 b2 => by rw [up2_na b1, up1_ne b2]⟩
  · rw [r59]
    unfold f59
    rw [x_gR W ht rfl, q1, x_gR W hk rfl, r1, lit_0, lit8_24]
    unfold ag_cp
    rw [x_at y1 (by decide), x_at k1 (by decide), if_neg (by decide), if_pos, hNe _ rfl]
    · show ag_gI _ (some t) 8 1 _ = _
      rw [x_gI W ht rfl, up1_ne (by omega), h1, x_pI W hk rfl]
    refine ⟨?_, ?_, ?_⟩
    · rw [List.length_map, List.length_range, m1, nI_clamp (by omega), nI_clamp (by omega)]; omega
    · rw [List.length_map, List.length_range, l1, nI_clamp (by omega), nI_clamp (by omega)]; omega
    · rw [List.all_eq_true]
      intro i hi
      have hi := List.mem_range.mp hi
      rw [nI_clamp (by omega)] at hi
      rw [nI_clamp (by omega), Nat.zero_add, List.getD_eq_getElem?_getD, hp_get (by omega)]
      obtain ⟨n, hn, e⟩ := h4 i hi
      show ag_ch (.inl (I (t + 1) i)) = true
      rw [e]
      exact decide_eq_true ⟨nI_pos' (by omega), nI_lt hn (by decide)⟩
  · rw [up2_na (by omega), up1_eq, if_pos (by omega)]; exact h3 i hi
  · rw [up2_na (by omega), up1_eq, if_pos hi]; exact h4 i hi
theorem s27 (W : WS kd ln R) (hk : kd a = 4) {ns : List Nat} (h : CPt I a (some ns)) {i : Nat} (hi : i < ns.length) : ag_run gT (d + 1) 27 [.inr (some a), .inl (nI i)] (hp z sl kd ln I R) = some (.inl (some (.inl (nI (97 + ns.getD i 0)))), hp z sl kd ln I R) := by
  obtain ⟨k1, l1, r1⟩ := W_4 W hk
  obtain ⟨h1, h2, h3⟩ := h.2 ns rfl
  have h4 := h3 i hi
  rw [r27]
  unfold f27 f27_27 f27_28
  rw [lit_0, lit8_12, if_neg (nI_nlt (Nat.zero_le _) (by omega)), x_gI W hk rfl, h1, if_neg (nI_ge hi (by omega)), if_neg (nI_ge (by omega) (by omega)), x_gR W hk rfl, r1, x_xI k1 rfl (by omega) (by omega), h4.2, b_Cn (by omega)]
theorem s26 (W : WS kd ln R) (hk : kd a = 4) {n : Nat} (h1 : I a 1 = nI n) (hn : n < 12) {c : Nat} (hc : c < 65536) : ag_run gT (d + 1) 26 [.inr (some a), .inl (nI c)] (hp z sl kd ln I R) = some (.inl none, hp z sl kd ln (up2 (up2 I (a + 1) n (nI c)) a 1 (nI (n + 1))) R) := by
  obtain ⟨k1, l1, r1⟩ := W_4 W hk
  rw [r26]
  unfold f26 f26_29
  rw [x_gI W hk rfl, h1, lit8_12, if_neg (nI_ge hn (by omega)), x_gR W hk rfl, r1, x_gI W hk rfl, h1, b_Cn hc, x_yI k1 rfl (by omega) (by omega), x_gI W hk rfl, up2_na (by omega), h1, lit_1, nI_add, x_pI W hk rfl]
end TXT

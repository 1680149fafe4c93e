/-! THE CLASS'S METHODS: processes begin and end, name spaces are copied and emptied -/
def lab (Q : Nat → Option Nat) : Option Nat := (List.range 4).find? fun p => (Q p).isNone
def npr (Q : Nat → Option Nat) : Nat := ((List.range 4).filter fun p => (Q p).isSome).length
def lus (Q : Nat → Option Nat) : Option Nat := (List.range 4).find? fun j => Nat.beq (usr Q j) 0
def kCs : List zP → zS → zS × List zP
  | [], S => (S, [])
  | q :: qs, S => ((kCs qs (kCpy q.2 S).1).1, (q.1, (kCpy q.2 S).2) :: (kCs qs (kCpy q.2 S).1).2)
def kEs (S : zS) (ps : List zP) : zS := ps.foldl (fun S q => kClA S q.2) S
def mps (ps : List zP) : List (Nat × Nat) := ps.flatMap fun q => q.2.map hp2
section PRC
variable {z sl d : Nat} {kd ln : Nat → Nat} {I I' : Nat → Nat → Int32} {R R' : Nat → Nat → Option Nat} {ad : Nat → Nat → Nat} {M : Nat → Nat → Int32} {pm : Nat → Nat → Nat} {S : zS} {Q : Nat → Option Nat} {Y : zY} {X : zX} {W : zW} {h : ag_H} {s x : Nat} {F G : List (Nat × Nat)} {p f j : Nat}
theorem usr_sum (Q : Nat → Option Nat) (j : Nat) : usr Q j = (if Q 0 = some j then 1 else 0) + (if Q 1 = some j then 1 else 0) + (if Q 2 = some j then 1 else 0) + (if Q 3 = some j then 1 else 0) := by
  show (List.filter _ [0, 1, 2, 3]).length = _
  simp only [List.filter_cons, List.filter_nil]
  by_cases h0 : Q 0 = some j <;> by_cases h1 : Q 1 = some j <;> by_cases h2 : Q 2 = some j <;> by_cases h3 : Q 3 = some j <;> simp [h0, h1, h2, h3]
theorem usr_le (Q : Nat → Option Nat) (j : Nat) : usr Q j ≤ 4 := by
  unfold usr
  have := List.length_filter_le (fun p => decide (Q p = some j)) (List.range 4)
  simpa using this
theorem usr_add (hp9 : p < 4) (hq : Q p = none) (j j' : Nat) : usr (up1 Q p (some j)) j' = usr Q j' + (if j' = j then 1 else 0) := by
  rw [usr_sum, usr_sum]
  have : p = 0 ∨ p = 1 ∨ p = 2 ∨ p = 3 := by omega
  rcases this with rfl | rfl | rfl | rfl
  · rw [up1_eq, up1_ne (by decide), up1_ne (by decide), up1_ne (by decide), hq]
    by_cases e : j' = j
    · subst e; simp; omega
    · rw [if_neg e, if_neg (by intro h; cases h; exact e rfl)]; simp
  · rw [up1_eq, up1_ne (by decide), up1_ne (by decide), up1_ne (by decide), hq]
    by_cases e : j' = j
    · subst e; simp; omega
    · rw [if_neg e, if_neg (show ¬ some j = some j' by intro h; cases h; exact e rfl)]; simp
  · rw [up1_eq, up1_ne (by decide), up1_ne (by decide), up1_ne (by decide), hq]
    by_cases e : j' = j
    · subst e; simp; omega
    · rw [if_neg e, if_neg (show ¬ some j = some j' by intro h; cases h; exact e rfl)]; simp
  · rw [up1_eq, up1_ne (by decide), up1_ne (by decide), up1_ne (by decide), hq]
    by_cases e : j' = j
    · subst e; simp
    · rw [if_neg e, if_neg (show ¬ some j = some j' by intro h; cases h; exact e rfl)]; simp
theorem usr_sub (hp9 : p < 4) (hq : Q p = some j) (j' : Nat) : usr Q j' = usr (up1 Q p none) j' + (if j' = j then 1 else 0) := by
  have h1 := usr_add (Q := up1 Q p none) hp9 (up1_eq _ _ _) j j'
  rw [up1_up1] at h1
  have : up1 Q p (some j) = Q := by
    funext b
    by_cases e : b = p
    · subst e; rw [up1_eq, hq]
    · rw [up1_ne e]
  rw [this] at h1
  exact h1
theorem CB.prc (hC : CB z kd ln I R ad M pm S Q Y X W) {Q' : Nat → Option Nat} (hp9 : p < 4) (hj : j < 4) (hw : WS kd ln R') (hR : ∀ b i, ¬ (b = 56 + 49 * p ∧ i = 1) → R' b i = R b i) (hI : ∀ b i, ¬ (b = 34 + 49 * j ∧ i = 2) → I' b i = I b i) (h6 : K6 I' R' Q') : CB z kd ln I' R' ad M pm S Q' Y X W := by
  obtain ⟨w, hz, hz9, g2, g5, g6, g7, g8, g9, g10, g11⟩ := hC
  refine ⟨hw, hz, hz9, g2.congr (fun b i _ => hI b i (by omega)) (hI _ _ (by omega)) (fun b i _ => hR b i (by omega)), fun j' hj' => ?_, h6, g7.congr (fun p b i _ _ _ => hI b i (by have := Nat.lt_trichotomy p j; omega)), g8.congr (fun b i _ _ => hI b i (by omega)), g9.congr (fun i => hI 0 i (by omega)), g10.congr (fun b i _ _ => hI b i (by omega)), fun b i h1 h2 => by rw [hI b i (by omega)]; exact g11 b i h1 h2⟩
  obtain ⟨n1, n2, n3, n4, n5, n6, n7, n8⟩ := g5 j' hj'
  refine ⟨n1, by rw [hI _ _ (by omega)]; exact n2, n3, fun i hi => ⟨(n4 i hi).1, by rw [hR _ _ (by omega)]; exact (n4 i hi).2⟩, n5, n6, n7, fun i hi => (n8 i hi).congr fun x i' _ _ => hI x i' (by have := (n4 i (by omega)).1; have := Nat.lt_trichotomy j' j; omega)⟩
theorem CA.c30 (hC : CA z sl M pm S Q Y X W h) (hp9 : p < 4) (hj : j < 4) (hq : Q p = none) : ∃ h', ag_run gT (d + 1) 30 [.inr (some (56 + 49 * p)), .inr (some (34 + 49 * j))] h = some (.inl none, h') ∧ CA z sl M pm S (up1 Q p (some j)) Y X W h' := by
  obtain ⟨kd, ln, I, R, ad, rfl, hB⟩ := hC
  have k6 := hB.kk (by omega) (kd0_n p hp9).2
  have k2 := hB.kk (by omega) (kd0_n j hj).1
  have W1 : WS kd ln (up2 R (56 + 49 * p) 1 (some (34 + 49 * j))) := hB.1.up (by rw [k6]; rfl) (by omega)
  have g6 := hB.2.2.2.2.2.1
  refine ⟨_, ?_, kd, ln, up2 I (34 + 49 * j) 2 (nI (usr Q j + 1)), up2 R (56 + 49 * p) 1 (some (34 + 49 * j)), ad, rfl, hB.prc (p := p) (j := j) hp9 hj W1 (fun b i hb => up2_ne hb) (fun b i hb => up2_ne hb) fun p' hp' => ⟨?_, fun j' hj' => ?_, ?_⟩⟩
  · rw [r30]
    unfold f30
    rw [x_pR hB.1 k6 rfl, x_gI W1 k2 rfl, (g6 j hj).2.2, lit_1, nI_add, x_pI W1 k2 rfl]
  · by_cases e : p' = p
    · subst e; rw [up2_eq, up1_eq]; rfl
    · rw [up2_na (by omega), up1_ne e]; exact (g6 p' hp').1
  · by_cases e : p' = p
    · subst e; rw [up1_eq] at hj'; cases hj'; exact hj
    · rw [up1_ne e] at hj'; exact (g6 p' hp').2.1 j' hj'
  · rw [usr_add hp9 hq]
    by_cases e : p' = j
    · subst e; rw [up2_eq, if_pos rfl]
    · rw [up2_na (by omega), if_neg e, Nat.add_zero]; exact (g6 p' hp').2.2
theorem CA.c31 (hC : CA z sl M pm S Q Y X W h) (hp9 : p < 4) (hq : Q p = some j) : ∃ h', ag_run gT (d + 1) 31 [.inr (some (56 + 49 * p))] h = some (.inl none, h') ∧ CA z sl M pm S (up1 Q p none) Y X W h' := by
  have hj := hC.q4 hp9 hq
  obtain ⟨kd, ln, I, R, ad, rfl, hB⟩ := hC
  have k6 := hB.kk (by omega) (kd0_n p hp9).2
  have k2 := hB.kk (by omega) (kd0_n j hj).1
  have W1 : WS kd ln (up2 R (56 + 49 * p) 1 none) := hB.1.up (by rw [k6]; rfl) (by omega)
  have g6 := hB.2.2.2.2.2.1
  have hu := usr_sub hp9 hq j
  rw [if_pos rfl] at hu
  refine ⟨_, ?_, kd, ln, up2 I (34 + 49 * j) 2 (nI (usr (up1 Q p none) j)), up2 R (56 + 49 * p) 1 none, ad, rfl, hB.prc (p := p) (j := j) hp9 hj W1 (fun b i hb => up2_ne hb) (fun b i hb => up2_ne hb) fun p' hp' => ⟨?_, fun j' hj' => ?_, ?_⟩⟩
  · rw [r31]
    unfold f31 f31_20
    rw [x_gR hB.1 k6 rfl, (g6 p hp9).1, hq, Option.map_some, if_neg (by simp), x_gR hB.1 k6 rfl, (g6 p hp9).1, hq, Option.map_some, x_gI hB.1 k2 rfl, (g6 j hj).2.2, lit_1, hu, nI_sub (by omega), x_pI hB.1 k2 rfl, x_pR hB.1 k6 rfl, Nat.add_sub_cancel]
  · by_cases e : p' = p
    · subst e; rw [up2_eq, up1_eq]; rfl
    · rw [up2_na (by omega), up1_ne e]; exact (g6 p' hp').1
  · by_cases e : p' = p
    · subst e; rw [up1_eq] at hj'; cases hj'
    · rw [up1_ne e] at hj'; exact (g6 p' hp').2.1 j' hj'
  · by_cases e : p' = j
    · subst e; rw [up2_eq]
    · rw [up2_na (by omega), (g6 p' hp').2.2, usr_sub hp9 hq p', if_neg e, Nat.add_zero]
theorem CA.nu (hC : CA z sl M pm S Q Y X W h) (hj : j < 4) {K : Int32 → ag_R} : ag_gI h (some (34 + 49 * j)) 2 2 K = K (nI (usr Q j)) := by
  obtain ⟨kd, ln, I, R, ad, rfl, hB⟩ := hC
  rw [x_gI hB.1 (hB.kk (by omega) (kd0_n j hj).1) rfl, (hB.2.2.2.2.2.1 j hj).2.2]
theorem c107_2 (hC : CA z sl M pm S Q Y X W h) : ∀ (m k n : Nat), k + m = 4 → g107 (ag_run gT d) (n + m + 1) (some 0) (nI k) h = some (.inl (some (.inl (pI ((List.range' k m).find? fun p => (Q p).isNone)))), h) := by
  intro m
  induction m with
  | zero =>
    intro k n hk
    show f107_2 _ _ _ _ _ = _
    unfold f107_2
    rw [lit_4, if_pos (nI_le (by omega) (by omega)), lit_m]
    rfl
  | succ m ih =>
    intro k n hk
    rw [show n + (m + 1) + 1 = (n + m + 1) + 1 by omega]
    show f107_2 _ _ _ _ _ = _
    unfold f107_2
    rw [lit_4, if_neg (nI_ge (by omega) (by omega)), hC.p2, hC.qp (by omega), hC.f1 (by omega), lit_1, nI_add, List.range'_succ, List.find?_cons]
    cases hb : Q k with
    | none => rfl
    | some j => rw [Option.map_some, if_neg (by simp)]; exact ih (k + 1) n (by omega)
theorem CA.c107 (hC : CA z sl M pm S Q Y X W h) : ag_run gT (d + 1) 107 [.inr (some 0)] h = some (.inl (some (.inl (pI (lab Q)))), h) := by
  rw [r107]
  unfold f107 lab
  rw [lit_0, List.range_eq_range']
  exact c107_2 hC 4 0 3995 (by omega)
theorem c108_4 (hC : CA z sl M pm S Q Y X W h) : ∀ (m k n u : Nat), k + m = 4 → g108 (ag_run gT d) (n + m + 1) (some 0) (nI u) (nI k) h = some (.inl (some (.inl (nI (u + ((List.range' k m).filter fun p => (Q p).isSome).length)))), h) := by
  intro m
  induction m with
  | zero =>
    intro k n u hk
    show f108_4 _ _ _ _ _ _ = _
    unfold f108_4
    rw [lit_4, if_pos (nI_le (by omega) (by omega))]
    rfl
  | succ m ih =>
    intro k n u hk
    rw [show n + (m + 1) + 1 = (n + m + 1) + 1 by omega]
    show f108_4 _ _ _ _ _ _ = _
    unfold f108_4 f108_24
    rw [lit_4, if_neg (nI_ge (by omega) (by omega)), hC.p2, hC.qp (by omega), hC.f1 (by omega), lit_1, nI_add, nI_add, List.range'_succ, List.filter_cons]
    cases hb : Q k with
    | none => exact ih (k + 1) n u (by omega)
    | some j =>
      have := ih (k + 1) n (u + 1) (by omega)
      rw [show u + 1 + ((List.range' (k + 1) m).filter fun p => (Q p).isSome).length = u + (((List.range' (k + 1) m).filter fun p => (Q p).isSome).length + 1) by omega] at this
      exact this
theorem CA.c108 (hC : CA z sl M pm S Q Y X W h) : ag_run gT (d + 1) 108 [.inr (some 0)] h = some (.inl (some (.inl (nI (npr Q)))), h) := by
  rw [r108]
  unfold f108 npr
  rw [lit_0, List.range_eq_range']
  have := c108_4 (d := d) hC 4 0 3995 0 (by omega)
  rw [Nat.zero_add] at this
  exact this
theorem c109_2 (hC : CA z sl M pm S Q Y X W h) : ∀ (m k n : Nat), k + m = 4 → g109 (ag_run gT d) (n + m + 1) (some 0) (nI k) h = some (.inl (some (.inr (((List.range' k m).find? fun j => Nat.beq (usr Q j) 0).map fun j => 34 + 49 * j))), h) := by
  intro m
  induction m with
  | zero =>
    intro k n hk
    show f109_2 _ _ _ _ _ = _
    unfold f109_2
    rw [lit_4, if_pos (nI_le (by omega) (by omega))]
    rfl
  | succ m ih =>
    intro k n hk
    rw [show n + (m + 1) + 1 = (n + m + 1) + 1 by omega]
    show f109_2 _ _ _ _ _ = _
    unfold f109_2
    have hu := usr_le Q k
    rw [lit_4, if_neg (nI_ge (by omega) (by omega)), hC.p1, hC.qn (by omega), hC.nu (by omega), lit_0, lit_1, nI_add, List.range'_succ, List.find?_cons]
    by_cases e : usr Q k = 0
    · rw [e, if_pos rfl, hC.p1, hC.qn (by omega)]; rfl
    · rw [if_neg (by rw [nI_eq (by omega) (by omega)]; exact e)]
      have : Nat.beq (usr Q k) 0 = false := by
        cases hb : Nat.beq (usr Q k) 0
        · rfl
        · exact absurd (Nat.eq_of_beq_eq_true hb) e
      rw [this]
      exact ih (k + 1) n (by omega)
theorem CA.c109 (hC : CA z sl M pm S Q Y X W h) : ag_run gT (d + 1) 109 [.inr (some 0)] h = some (.inl (some (.inr ((lus Q).map fun j => 34 + 49 * j))), h) := by
  rw [r109]
  unfold f109 lus
  rw [lit_0, List.range_eq_range']
  exact c109_2 hC 4 0 3995 (by omega)
theorem CA.ns (hC : CA z sl M pm S Q Y X W h) {k : Nat} (hj : j < 4) (hk : k < (Y.1 j).length) (K : Int32 → ag_R) : ag_gI h (some (36 + 49 * j + 5 * pm j k)) 5 1 K = K (nI ((Y.1 j).getD k dP).1.1) ∧ ag_gI h (some (36 + 49 * j + 5 * pm j k)) 5 2 K = K (nI ((Y.1 j).getD k dP).1.2) := by
  obtain ⟨kd, ln, I, R, ad, rfl, hB⟩ := hC
  have h5 := hB.2.2.2.2.1 j hj
  have h3 := h5.2.2.1
  have h4 := h5.2.2.2.2.2.1 _ (h5.2.2.2.1 k (by omega)).1
  have h6 := h5.2.2.2.2.2.2.2 k hk
  rw [show 34 + 49 * j + 2 + 5 * pm j k = 36 + 49 * j + 5 * pm j k by omega] at h4 h6
  exact ⟨by rw [x_gI hB.1 h4 rfl, h6.1], by rw [x_gI hB.1 h4 rfl, h6.2.1]⟩
theorem OW.cs : ∀ (qs : List zP) (S : zS) (F : List (Nat × Nat)), OW S F → F.length + 3 * qs.length ≤ 128 → (∀ q ∈ qs, q.2.length ≤ 3 ∧ ∀ m ∈ q.2, m.1 < 2 ∧ (m.1, m.2.1) ∈ F) → OW (kCs qs S).1 (mps (kCs qs S).2 ++ F) ∧ KP F S (kCs qs S).1 ∧ SF S (kCs qs S).1 := by
  intro qs
  induction qs with
  | nil => intro S F hO _ _; exact ⟨hO, KP.refl S, SF.refl S⟩
  | cons q qs ih =>
    intro S F hO hl hv
    have hl : F.length + 3 * (qs.length + 1) ≤ 128 := hl
    obtain ⟨v1, v2⟩ := hv q (by simp)
    have o1 := OW.cpy q.2 S F hO (by omega) v2
    have k1 := kp_cpy q.2 S F hO (by omega) v2
    have hlen : ((kCpy q.2 S).2.map hp2 ++ F).length = q.2.length + F.length := by rw [List.length_append, List.length_map, kCpy_len]
    obtain ⟨i1, i2, i3⟩ := ih (kCpy q.2 S).1 ((kCpy q.2 S).2.map hp2 ++ F) o1 (by rw [hlen]; omega) (fun q' h => ⟨(hv q' (by simp [h])).1, fun m hm => ⟨((hv q' (by simp [h])).2 m hm).1, List.mem_append_right _ ((hv q' (by simp [h])).2 m hm).2⟩⟩)
    refine ⟨i1.cnt fun x => ?_, k1.trans (i2.sub fun x hx => List.mem_append_right _ hx), (SF.cpy q.2 S).trans i3⟩
    show (mps ((q.1, (kCpy q.2 S).2) :: (kCs qs (kCpy q.2 S).1).2) ++ F).count x = _
    unfold mps
    rw [List.flatMap_cons]
    simp only [List.count_append]
    omega
theorem c110_7 {P : Nat → List zP} {O : Nat → Nat → zU} {H : List zM} {i : Nat} (hi : i < 4) (hj : j < 4) (hij : i ≠ j) : ∀ (m k n : Nat) (S : zS) (F : List (Nat × Nat)) (acc : List zP) (h : ag_H), k + m = (P i).length → (P i).length ≤ 4 → acc.length = k → OW S F → F.length + 3 * m ≤ 128 → (∀ q ∈ P i, q.1.1 < 2 ∧ q.1.2 < 300 ∧ q.2.length ≤ 3 ∧ ∀ m ∈ q.2, m.1 < 2 ∧ (m.1, m.2.1) ∈ F) → CA z sl M pm S Q (up1 P j acc, O, H) X W h →
    ∃ h', g110 (ag_run gT (d + 4)) (n + m + 1) (some 0) (some (34 + 49 * i)) (some (34 + 49 * j)) (nI k) h = some (.inl none, h') ∧ CA z sl M pm (kCs ((P i).drop k) S).1 Q (up1 P j (acc ++ (kCs ((P i).drop k) S).2), O, H) X W h' := by
  intro m
  induction m with
  | zero =>
    intro k n S F acc h hk h4 ha hO hl hv hC
    have hn := hC.nc (K := fun _ => none) hi
    refine ⟨h, ?_, ?_⟩
    · show f110_7 _ _ _ _ _ _ _ = _
      unfold f110_7
      rw [hC.nc hi]
      show (if nI (up1 P j acc i).length ≤ nI k then _ else _) = _
      rw [up1_ne hij, if_pos (nI_le (by omega) (by omega))]
    · rw [List.drop_eq_nil_of_le (by omega)]
      show CA z sl M pm S Q (up1 P j (acc ++ []), O, H) X W h
      rw [List.append_nil]; exact hC
  | succ m ih =>
    intro k n S F acc h hk h4 ha hO hl hv hC
    have hkl : k < (P i).length := by omega
    have hPi : (up1 P j acc, O, H).1 i = P i := up1_ne hij
    have hPj : (up1 P j acc, O, H).1 j = acc := up1_eq _ _ _
    have hkl2 : k < ((up1 P j acc, O, H).1 i).length := by rw [hPi]; exact hkl
    have hq := hv _ (getD_memP hkl)
    have hdr : (P i).drop k = (P i).getD k dP :: (P i).drop (k + 1) := by
      rw [List.drop_eq_getElem_cons hkl, List.getD_eq_getElem?_getD, List.getElem?_eq_getElem hkl]
      rfl
    rw [hdr]
    obtain ⟨q1, q2, q3, q4⟩ := hq
    have e1 := hC.n15 (d := d + 3) hi (o := some k) (fun k' h9 => by cases h9; exact hkl2)
    obtain ⟨h2, e2, C2⟩ := hC.n16 (d := d + 2) (j := j) hj (by rw [hPj]; omega) q1 q2
    have lenj : (up1 P j acc j).length = k := by rw [up1_eq]; exact ha
    -- the new place
    have eY : (up1 (up1 P j acc) j (up1 P j acc j ++ [(((P i).getD k dP).1, [])]), O, H) = (up1 P j (acc ++ [(((P i).getD k dP).1, [])]), O, H) := by rw [up1_eq, up1_up1]
    have C2 : CA z sl M pm S Q (up1 P j (acc ++ [(((P i).getD k dP).1, [])]), O, H) X W h2 := by rw [← eY]; exact C2
    have hself : lset (up1 P j (acc ++ [(((P i).getD k dP).1, [])]), O, H) (1, j, k) [] = (up1 P j (acc ++ [(((P i).getD k dP).1, [])]), O, H) := by
      have := lset_app (up1 P j acc, O, H) j ((P i).getD k dP).1 [] []
      rw [hPj, ha] at this
      have e9 : up1 (up1 P j acc) j (acc ++ [(((P i).getD k dP).1, [])]) = up1 P j (acc ++ [(((P i).getD k dP).1, [])]) := up1_up1 _ _ _ _
      rw [e9] at this
      exact this
    have hki : k < ((up1 P j (acc ++ [(((P i).getD k dP).1, [])]), O, H).1 i).length := by
      show k < (up1 P j _ i).length
      rw [up1_ne hij]; exact hkl
    have hkj : k < ((up1 P j (acc ++ [(((P i).getD k dP).1, [])]), O, H).1 j).length := by
      show k < (up1 P j _ j).length
      rw [up1_eq]; simp; omega
    have hD := LD_11 (up1 P j (acc ++ [(((P i).getD k dP).1, [])]), O, H) hi hki hj hkj hij
    have hlm : lms (up1 P j (acc ++ [(((P i).getD k dP).1, [])]), O, H) (1, i, k) = ((P i).getD k dP).2 := by
      show ((up1 P j _ i).getD k dP).2 = _
      rw [up1_ne hij]
    obtain ⟨h3, e3, C3⟩ := CA.cpy (d := d) (h := h2) hD (by rw [hself]; exact C2) (by rw [hlm]; exact q3) hO (by rw [hlm]; omega) (by rw [hlm]; exact q4)
    rw [hlm] at C3
    have eS : lset (up1 P j (acc ++ [(((P i).getD k dP).1, [])]), O, H) (1, j, k) (kCpy ((P i).getD k dP).2 S).2 = (up1 P j (acc ++ [(((P i).getD k dP).1, (kCpy ((P i).getD k dP).2 S).2)]), O, H) := by
      have := lset_app (up1 P j acc, O, H) j ((P i).getD k dP).1 [] (kCpy ((P i).getD k dP).2 S).2
      rw [hPj, ha] at this
      have e9 : ∀ l, up1 (up1 P j acc) j l = up1 P j l := fun l => up1_up1 _ _ _ _
      rw [e9, e9] at this
      exact this
    rw [eS] at C3
    have O3 := OW.cpy _ S F hO (by omega) q4
    obtain ⟨h4', e4, C4⟩ := ih (k + 1) n (kCpy ((P i).getD k dP).2 S).1 ((kCpy ((P i).getD k dP).2 S).2.map hp2 ++ F) (acc ++ [(((P i).getD k dP).1, (kCpy ((P i).getD k dP).2 S).2)]) h3 (by omega) h4 (by simp [ha]) O3 (by rw [List.length_append, List.length_map, kCpy_len]; omega) (fun q' hq' => ⟨(hv q' hq').1, (hv q' hq').2.1, (hv q' hq').2.2.1, fun m hm => ⟨((hv q' hq').2.2.2 m hm).1, List.mem_append_right _ ((hv q' hq').2.2.2 m hm).2⟩⟩) C3
    refine ⟨h4', ?_, ?_⟩
    · rw [show n + (m + 1) + 1 = (n + m + 1) + 1 by omega]
      show f110_7 _ _ _ _ _ _ _ = _
      unfold f110_7 f110_50
      have hnp := hC.np hi hkl2 (K := fun x => none)
      rw [hC.nc hi]
      show (if nI (up1 P j acc i).length ≤ nI k then _ else _) = _
      rw [up1_ne hij, if_neg (nI_ge (by omega) (by omega)), hC.an hi]
      show ag_bR (ag_run gT (d + 4) 15 [.inr (some (34 + 49 * i)), .inl (pI (some k))] h) _ = _
      rw [e1, b_R, Option.map_some, if_neg (by simp), hC.np hi hkl2, (hC.ns hi hkl2 _).1, (hC.ns hi hkl2 _).2, hC.an hj]
      have e2' : ag_run gT (d + 4) 16 [.inr (some (34 + 49 * j)), .inl (nI ((up1 P j acc i).getD k dP).1.1), .inl (nI ((up1 P j acc i).getD k dP).1.2)] h = some (.inl (some (.inr (some (lad pm (1, j, k))))), h2) := by
        rw [up1_ne hij]
        have := e2
        rw [lenj] at this
        exact this
      show ag_bR (ag_run gT (d + 4) 16 [.inr (some (34 + 49 * j)), .inl (nI ((up1 P j acc i).getD k dP).1.1), .inl (nI ((up1 P j acc i).getD k dP).1.2)] h) _ = _
      rw [e2', b_R, C2.a0, e3, b_V, lit_1, nI_add]
      exact e4
    · rw [List.append_assoc] at C4
      exact C4
theorem CA.c110 (hC : CA z sl M pm S Q Y X W h) {i : Nat} (hi : i < 4) (hj : j < 4) (hij : i ≠ j) (hO : OW S F) (hl : F.length + 12 ≤ 128) (hP : PM Y.1 i F) (h3 : ∀ q ∈ Y.1 i, q.2.length ≤ 3) : ∃ h', ag_run gT (d + 5) 110 [.inr (some 0), .inr (some (34 + 49 * i)), .inr (some (34 + 49 * j))] h = some (.inl none, h') ∧ CA z sl M pm (kCs (Y.1 i) S).1 Q (up1 Y.1 j (kCs (Y.1 i) S).2, Y.2.1, Y.2.2) X W h' := by
  obtain ⟨n4, n7⟩ := hC.nl hi
  obtain ⟨h1, e1, C1⟩ := hC.nz hj
  obtain ⟨h2, e2, C2⟩ := c110_7 (d := d) (P := Y.1) hi hj hij (Y.1 i).length 0 (3999 - (Y.1 i).length) S F [] h1 (by omega) n4 rfl hO (by omega) (fun q hq => ⟨(n7 q hq).1, (n7 q hq).2, h3 q hq, hP q hq⟩) C1
  refine ⟨h2, ?_, C2⟩
  rw [r110]
  unfold f110
  rw [lit_0, e1]
  rw [show 3999 - (Y.1 i).length + (Y.1 i).length + 1 = 4000 by omega] at e2
  exact e2
theorem c111_2 (hj : j < 4) (hv : ∀ q ∈ Y.1 j, ∀ m ∈ q.2, m.1 < 2 ∧ m.2.1 < 128) : ∀ (m k n : Nat) (S : zS) (h : ag_H), k + m = (Y.1 j).length → CA z sl M pm S Q Y X W h →
    ∃ h', g111 (ag_run gT (d + 4)) (n + m + 1) (some 0) (some (34 + 49 * j)) (nI k) h = some (.inl none, h') ∧ CA z sl M pm (kEs S ((Y.1 j).drop k)) Q (up1 Y.1 j [], Y.2.1, Y.2.2) X W h' := by
  intro m
  induction m with
  | zero =>
    intro k n S h hk hC
    have n4 := (hC.nl hj).1
    obtain ⟨h1, e1, C1⟩ := hC.nz hj
    refine ⟨h1, ?_, ?_⟩
    · show f111_2 _ _ _ _ _ _ = _
      unfold f111_2
      rw [hC.nc hj, if_pos (nI_le (by omega) (by omega)), lit_0, e1]
    · rw [List.drop_eq_nil_of_le (by omega)]; exact C1
  | succ m ih =>
    intro k n S h hk hC
    have n4 := (hC.nl hj).1
    have hkl : k < (Y.1 j).length := by omega
    have hdr : (Y.1 j).drop k = (Y.1 j).getD k dP :: (Y.1 j).drop (k + 1) := by
      rw [List.drop_eq_getElem_cons hkl, List.getD_eq_getElem?_getD, List.getElem?_eq_getElem hkl]
      rfl
    have hL := hC.ap5 hj hkl
    have e1 := hC.n15 (d := d + 3) hj (o := some k) (fun k' h9 => by cases h9; exact hkl)
    obtain ⟨h2, e2, C2⟩ := hC.cla (d := d) hL (hv _ (getD_memP hkl))
    obtain ⟨h3, e3, C3⟩ := ih (k + 1) n _ h2 (by omega) C2
    refine ⟨h3, ?_, ?_⟩
    · rw [show n + (m + 1) + 1 = (n + m + 1) + 1 by omega]
      show f111_2 _ _ _ _ _ _ = _
      unfold f111_2 f111_28
      rw [hC.nc hj, if_neg (nI_ge (by omega) (by omega)), hC.an hj]
      show ag_bR (ag_run gT (d + 4) 15 [.inr (some (34 + 49 * j)), .inl (pI (some k))] h) _ = _
      rw [e1, b_R, Option.map_some, if_neg (by simp), hC.np hj hkl, hC.a0, e2, b_V, lit_1, nI_add]
      exact e3
    · rw [hdr]; exact C3
theorem CA.c111 (hC : CA z sl M pm S Q Y X W h) (hj : j < 4) (hv : ∀ q ∈ Y.1 j, ∀ m ∈ q.2, m.1 < 2 ∧ m.2.1 < 128) : ∃ h', ag_run gT (d + 5) 111 [.inr (some 0), .inr (some (34 + 49 * j))] h = some (.inl none, h') ∧ CA z sl M pm (kEs S (Y.1 j)) Q (up1 Y.1 j [], Y.2.1, Y.2.2) X W h' := by
  have n4 := (hC.nl hj).1
  obtain ⟨h2, e2, C2⟩ := c111_2 (d := d) hj hv (Y.1 j).length 0 (3999 - (Y.1 j).length) S h (by omega) hC
  refine ⟨h2, ?_, C2⟩
  rw [r111]
  unfold f111
  rw [lit_0]
  rw [show 3999 - (Y.1 j).length + (Y.1 j).length + 1 = 4000 by omega] at e2
  exact e2
/-- fork -/
theorem CA.c75n (hC : CA z sl M pm S Q Y X W h) {v : Int32} {sh : Int32} (hn : noP Q v) : ag_run gT (d + 7) 75 [.inr (some 0), .inl v, .inl sh] h = some (.inr 0, ag_thr h) := by
  rw [r75]
  unfold f75
  rw [hC.a0, hC.c84n (d := d + 5) hn, b_Re]
theorem CA.c75f (hC : CA z sl M pm S Q Y X W h) {v : Int32} (sh : Bool) (hp9 : isP Q v p j) (hl : lab Q = none) : ag_run gT (d + 7) 75 [.inr (some 0), .inl v, .inl (bI sh)] h = some (.inr 1, ag_thr h) := by
  rw [r75]
  unfold f75 f75_27 f75_39
  rw [hC.a0, hC.c84 (d := d + 5) hp9, b_R, hC.a0, hC.c107 (d := d + 5), b_I, hl, lit_0]
  cases sh
  · rw [if_pos (show bI false = nI 0 from rfl), hC.a0, hC.c109 (d := d + 5), b_R, if_pos (show pI none < nI 0 by decide)]
  · rw [if_neg (show ¬ bI true = nI 0 by decide), hC.f1 hp9.1, if_pos (show pI none < nI 0 by decide)]
theorem lab_lt {q : Nat} (hl : lab Q = some q) : q < 4 ∧ Q q = none := by
  unfold lab at hl
  refine ⟨List.mem_range.mp (List.mem_of_find?_eq_some hl), ?_⟩
  have := List.find?_some hl
  simpa using this
theorem lus_lt {q : Nat} (hl : lus Q = some q) : q < 4 ∧ usr Q q = 0 := by
  unfold lus at hl
  have h2 := List.find?_some (p := fun j => Nat.beq (usr Q j) 0) hl
  exact ⟨List.mem_range.mp (List.mem_of_find?_eq_some hl), Nat.eq_of_beq_eq_true h2⟩
theorem CA.c75s (hC : CA z sl M pm S Q Y X W h) {v : Int32} (hp9 : isP Q v p j) {q : Nat} (hl : lab Q = some q) : ∃ h', ag_run gT (d + 7) 75 [.inr (some 0), .inl v, .inl (bI true)] h = some (.inl (some (.inl (nI q))), h') ∧ CA z sl M pm S (up1 Q q (some j)) Y X W h' := by
  obtain ⟨q4, qn⟩ := lab_lt hl
  have hj := hC.q4 hp9.1 hp9.2.2
  obtain ⟨h1, e1, C1⟩ := hC.c30 (d := d + 5) q4 hj qn
  refine ⟨h1, ?_, C1⟩
  rw [r75]
  unfold f75 f75_27 f75_64
  rw [hC.a0, hC.c84 (d := d + 5) hp9, b_R, hC.a0, hC.c107 (d := d + 5), b_I, hl, lit_0, if_neg (show ¬ bI true = nI 0 by decide), hC.f1 hp9.1, hp9.2.2, Option.map_some]
  show (if nI q < nI 0 then _ else _) = _
  rw [if_neg (nI_nlt (by omega) (by omega)), if_neg (by simp), if_neg (show ¬ bI true = nI 0 by decide), hC.p2]
  show ag_xR h (some 21) 105 (nI q) _ = _
  rw [hC.qp q4, hC.ap q4, e1, b_V]
  rfl
theorem CA.c75c (hC : CA z sl M pm S Q Y X W h) {v : Int32} (hp9 : isP Q v p j) {q i : Nat} (hl : lab Q = some q) (hi : lus Q = some i) (hO : OW S F) (hF : F.length + 12 ≤ 128) (hP : PM Y.1 j F) (h3 : ∀ q ∈ Y.1 j, q.2.length ≤ 3) : ∃ h', ag_run gT (d + 7) 75 [.inr (some 0), .inl v, .inl (bI false)] h = some (.inl (some (.inl (nI q))), h') ∧ CA z sl M pm (kCs (Y.1 j) S).1 (up1 Q q (some i)) (up1 Y.1 i (kCs (Y.1 j) S).2, Y.2.1, Y.2.2) X W h' := by
  obtain ⟨q4, qn⟩ := lab_lt hl
  obtain ⟨i4, iu⟩ := lus_lt hi
  have hj := hC.q4 hp9.1 hp9.2.2
  have hne : j ≠ i := by
    rintro rfl
    have := usr_sub hp9.1 hp9.2.2 j
    rw [if_pos rfl] at this
    omega
  obtain ⟨h1, e1, C1⟩ := hC.c110 (d := d + 1) hj i4 hne hO hF hP h3
  obtain ⟨h2, e2, C2⟩ := C1.c30 (d := d + 5) q4 i4 qn
  refine ⟨h2, ?_, C2⟩
  rw [r75]
  unfold f75 f75_27 f75_64
  rw [hC.a0, hC.c84 (d := d + 5) hp9, b_R, hC.a0, hC.c107 (d := d + 5), b_I, hl, lit_0, if_pos (show bI false = nI 0 from rfl), hC.a0, hC.c109 (d := d + 5), b_R, hi, Option.map_some]
  show (if nI q < nI 0 then _ else _) = _
  rw [if_neg (nI_nlt (by omega) (by omega)), if_neg (by simp), if_pos (show bI false = nI 0 from rfl), hC.f1 hp9.1, hp9.2.2, Option.map_some, hC.a0, e1, b_V, C1.p2]
  show ag_xR h1 (some 21) 105 (nI q) _ = _
  rw [C1.qp q4, C1.ap q4, e2, b_V]
  rfl
end PRC

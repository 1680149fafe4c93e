/-! NAME SPACES of the class -/
abbrev zP : Type := (Nat × Nat) × List zM
def dP : zP := ((0, 0), [])
def CP (I : Nat → Nat → Int32) (b : Nat) (p : zP) : Prop := I b 1 = nI p.1.1 ∧ I b 2 = nI p.1.2 ∧ CH I (b + 1) p.2
def CN (kd : Nat → Nat) (I : Nat → Nat → Int32) (R : Nat → Nat → Option Nat) (n : Nat) (pm : Nat → Nat) (ps : List zP) : Prop :=
  kd n = 2 ∧ I n 1 = nI ps.length ∧ ps.length ≤ 4 ∧ (∀ i, i < 4 → pm i < 4 ∧ R (n + 1) i = some (n + 2 + 5 * pm i)) ∧ (∀ i j, i < 4 → j < 4 → pm i = pm j → i = j) ∧ (∀ k, k < 4 → kd (n + 2 + 5 * k) = 5) ∧ (∀ p ∈ ps, p.1.1 < 2 ∧ p.1.2 < 300) ∧ ∀ i, i < ps.length → CP I (n + 2 + 5 * pm i) (ps.getD i dP)
def pidx (ps : List zP) (s i : Nat) : Option Nat := (List.range ps.length).find? fun k => decide ((ps.getD k dP).1 = (s, i))
theorem CP.congr {I I' : Nat → Nat → Int32} {b : Nat} {p : zP} (h : CP I b p) (e : ∀ x j, b ≤ x → x ≤ b + 4 → I' x j = I x j) : CP I' b p :=
  ⟨by rw [e _ _ (by omega) (by omega)]; exact h.1, by rw [e _ _ (by omega) (by omega)]; exact h.2.1, h.2.2.congr fun x j h1 h2 => e x j (by omega) (by omega)⟩
theorem getD_memP {L : List zP} {k : Nat} (h : k < L.length) : L.getD k dP ∈ L := by
  rw [List.getD_eq_getElem?_getD, List.getElem?_eq_getElem h]
  exact List.getElem_mem h
section SPC
variable {z sl d : Nat} {kd ln : Nat → Nat} {I : Nat → Nat → Int32} {R : Nat → Nat → Option Nat} {n : Nat} {pm : Nat → Nat} {ps : List zP}
theorem CN.congr {I' : Nat → Nat → Int32} {R' : Nat → Nat → Option Nat} (h : CN kd I R n pm ps) (e : ∀ x j, n ≤ x → x ≤ n + 21 → I' x j = I x j) (e2 : ∀ j, R' (n + 1) j = R (n + 1) j) : CN kd I' R' n pm ps := by
  obtain ⟨h1, h2, h3, h4, h5, h6, h7, h8⟩ := h
  refine ⟨h1, by rw [e _ _ (by omega) (by omega)]; exact h2, h3, fun i hi => ⟨(h4 i hi).1, by rw [e2]; exact (h4 i hi).2⟩, h5, h6, h7, fun i hi => (h8 i hi).congr fun x j q1 q2 => ?_⟩
  have := (h4 i (by omega)).1
  exact e x j (by omega) (by omega)
theorem s14_2 (W : WS kd ln R) (h : CN kd I R n pm ps) {s i : Nat} (hs : s < 2) (hi : i < 300) : ∀ (m k f : Nat), k + m = ps.length → g14 (ag_run gT d) (f + m + 1) (some n) (nI s) (nI i) (nI k) (hp z sl kd ln I R) = some (.inl (some (.inl (pI ((List.range' k m).find? fun k => decide ((ps.getD k dP).1 = (s, i)))))), hp z sl kd ln I R) := by
  obtain ⟨h1, h2, h3, h4, h5, h6, h7, h8⟩ := h
  obtain ⟨k1, l1, r1⟩ := W_2 W h1
  intro m
  induction m with
  | zero =>
    intro k f hkm
    show f14_2 _ _ _ _ _ _ _ = _
    unfold f14_2
    rw [x_gI W h1 rfl, h2, if_pos (nI_le (by omega) (by omega)), lit_m]
    rfl
  | succ m ih =>
    intro k f hkm
    have hkl : k < ps.length := by omega
    obtain ⟨q1, q2⟩ := h4 k (by omega)
    have q3 := h6 _ q1
    obtain ⟨c1, c2, -⟩ := h8 k hkl
    have hp7 := h7 _ (getD_memP hkl)
    rw [show f + (m + 1) + 1 = (f + m + 1) + 1 by omega]
    show f14_2 _ _ _ _ _ _ _ = _
    unfold f14_2 f14_38
    rw [x_gI W h1 rfl, h2, if_neg (nI_ge (by omega) (by omega)), x_gR W h1 rfl, r1, x_xR k1 rfl (by omega) (by omega), q2, x_gI W q3 rfl, c1, lit_1, nI_add, List.range'_succ, List.find?_cons]
    obtain ⟨x, hx⟩ : ∃ x, x = ps.getD k dP := ⟨_, rfl⟩
    rw [← hx] at c2 hp7 ⊢
    by_cases e1 : x.1.1 = s
    · rw [if_pos (by rw [e1]), x_gR W h1 rfl, r1, x_xR k1 rfl (by omega) (by omega), q2, x_gI W q3 rfl, c2]
      by_cases e2 : x.1.2 = i
      · have : x.1 = (s, i) := by rw [← e1, ← e2]
        rw [if_pos (by rw [e2]), decide_eq_true this]; rfl
      · have : ¬ x.1 = (s, i) := fun h9 => e2 (by rw [h9])
        rw [if_neg (by rw [nI_eq (by omega) (by omega)]; exact e2), decide_eq_false this]
        exact ih (k + 1) f (by omega)
    · have : ¬ x.1 = (s, i) := fun h9 => e1 (by rw [h9])
      rw [if_neg (by rw [nI_eq (by omega) (by omega)]; exact e1), decide_eq_false this]
      exact ih (k + 1) f (by omega)
theorem s14 (W : WS kd ln R) (h : CN kd I R n pm ps) {s i : Nat} (hs : s < 2) (hi : i < 300) : ag_run gT (d + 1) 14 [.inr (some n), .inl (nI s), .inl (nI i)] (hp z sl kd ln I R) = some (.inl (some (.inl (pI (pidx ps s i)))), hp z sl kd ln I R) := by
  have h3 := h.2.2.1
  rw [r14]
  unfold f14 pidx
  rw [lit_0, List.range_eq_range']
  have := s14_2 (z := z) (sl := sl) (d := d) W h hs hi ps.length 0 (3999 - ps.length) (by omega)
  rw [show 3999 - ps.length + ps.length + 1 = 4000 by omega] at this
  exact this
theorem pidx_lt {s i k : Nat} (h : pidx ps s i = some k) : k < ps.length := List.mem_range.mp (List.mem_of_find?_eq_some h)
theorem s15 (W : WS kd ln R) (h : CN kd I R n pm ps) {o : Option Nat} (ho : ∀ k, o = some k → k < ps.length) : ag_run gT (d + 1) 15 [.inr (some n), .inl (pI o)] (hp z sl kd ln I R) = some (.inl (some (.inr (o.map fun k => n + 2 + 5 * pm k))), hp z sl kd ln I R) := by
  obtain ⟨h1, h2, h3, h4, h5, h6, h7, h8⟩ := h
  obtain ⟨k1, l1, r1⟩ := W_2 W h1
  rw [r15]
  unfold f15 f15_21 f15_22
  cases o with
  | none =>
    rw [lit_0, if_pos (show pI none < nI 0 by decide)]
    rfl
  | some k =>
    have hk := ho k rfl
    show (if nI k < ag_lit 0 then _ else _) = _
    rw [lit_0, if_neg (nI_nlt (Nat.zero_le _) (by omega)), x_gI W h1 rfl, h2]
    show (if nI ps.length ≤ nI k then _ else ag_gR _ _ _ _ fun x2 => ag_xR _ x2 107 (nI k) _) = _
    rw [if_neg (nI_ge hk (by omega)), x_gR W h1 rfl, r1, x_xR k1 rfl (by omega) (by omega), (h4 k (by omega)).2]
    rfl
/-- a new place -/
theorem s16 (W : WS kd ln R) (h : CN kd I R n pm ps) (hl : ps.length < 4) {s i : Nat} (hs : s < 2) (hi : i < 300) : ∃ I', ag_run gT (d + 2) 16 [.inr (some n), .inl (nI s), .inl (nI i)] (hp z sl kd ln I R) = some (.inl (some (.inr (some (n + 2 + 5 * pm ps.length + 1)))), hp z sl kd ln I' R) ∧ CN kd I' R n pm (ps ++ [((s, i), [])]) ∧ (∀ b j, (b < n ∨ n + 21 < b) → I' b j = I b j) ∧ I' n 2 = I n 2 := by
  obtain ⟨h1, h2, h3, h4, h5, h6, h7, h8⟩ := h
  obtain ⟨k1, l1, r1⟩ := W_2 W h1
  obtain ⟨q1, q2⟩ := h4 ps.length hl
  have q3 := h6 _ q1
  obtain ⟨y1, y2⟩ := W_5 W q3
  obtain ⟨b, hb⟩ : ∃ b, b = n + 2 + 5 * pm ps.length := ⟨_, rfl⟩
  rw [← hb] at q2 q3 y1 y2 ⊢
  have e1 : ag_run gT (d + 1) 176 [.inl (nI ps.length), .inl (nI 3)] (hp z sl kd ln I R) = some (.inl (some (.inl (nI ps.length))), hp z sl kd ln I R) := by
    rw [r176]
    unfold f176 f176_10
    by_cases h9 : 3 < ps.length
    · omega
    · rw [if_neg (nI_nlt (by omega) (by omega))]
  refine ⟨up2 (up2 (up2 (up2 I (b + 1) 3 (nI 0)) b 1 (nI s)) b 2 (nI i)) n 1 (nI (ps.length + 1)), ?_, ⟨h1, ?_, by simp; omega, h4, h5, h6, ?_, fun k hk => ?_⟩, fun x j hx => ?_, ?_⟩
  · rw [r16]
    unfold f16
    rw [x_gI W h1 rfl, h2, lit_3, e1, b_I, x_gR W h1 rfl, r1, x_xR k1 rfl (by omega) (by omega), q2, x_gR W q3 rfl, y2, lit_0, lit_1, x_pI W y1 rfl, x_pI W q3 rfl, x_pI W q3 rfl, nI_add, x_pI W h1 rfl, x_gR W q3 rfl, y2]
  · rw [up2_eq]; simp
  · intro p hp
    rcases List.mem_append.mp hp with hp | hp
    · exact h7 p hp
    · rw [List.mem_singleton.mp hp]; exact ⟨hs, hi⟩
  · simp at hk
    have hk4 : k < 4 := by omega
    obtain ⟨p1, -⟩ := h4 k hk4
    by_cases ek : k = ps.length
    · subst ek
      rw [show (ps ++ [((s, i), ([] : List zM))]).getD ps.length dP = ((s, i), []) by simp [List.getD_eq_getElem?_getD], ← hb]
      refine ⟨by simp (disch := omega) only [up2_ne, up2_eq], by simp (disch := omega) only [up2_ne, up2_eq], by simp (disch := omega) only [up2_ne, up2_eq]; rfl, by simp, fun i hi => by simp at hi⟩
    · rw [show (ps ++ [((s, i), ([] : List zM))]).getD k dP = ps.getD k dP by rw [List.getD_eq_getElem?_getD, List.getD_eq_getElem?_getD, List.getElem?_append_left (by omega)]]
      have hne : pm k ≠ pm ps.length := fun h9 => ek (h5 k ps.length hk4 hl h9)
      refine (h8 k (by omega)).congr fun x j x1 x2 => ?_
      rw [up2_na (by omega), up2_na (by omega), up2_na (by omega), up2_na (by omega)]
  · simp (disch := omega) only [up2_ne]
  · simp (disch := omega) only [up2_ne]
/-- the place's row goes behind the others -/
theorem s17_22 (h1 : kd n = 2) {L k0 : Nat} (hL : L ≤ 4) (hI : I n 1 = nI L) {R0 : Nat → Nat → Option Nat} (hR0 : ∀ j, j < 4 → ∃ b, R0 (n + 1) j = some b ∧ kd b = 5) (hk0 : k0 < L) : ∀ (m k f : Nat) (R : Nat → Nat → Option Nat), WS kd ln R → k + m + 1 = L → k0 ≤ k → (∀ j, j < k → R (n + 1) j = R0 (n + 1) (if j < k0 then j else j + 1)) → (∀ j, k ≤ j → R (n + 1) j = R0 (n + 1) j) →
    ∃ R', g17 (ag_run gT d) (f + m + 1) (some n) (R0 (n + 1) k0) (nI k) (hp z sl kd ln I R) = some (.inl none, hp z sl kd ln (up2 I n 1 (nI (L - 1))) R') ∧ WS kd ln R' ∧ (∀ j, j < L - 1 → R' (n + 1) j = R0 (n + 1) (if j < k0 then j else j + 1)) ∧ R' (n + 1) (L - 1) = R0 (n + 1) k0 ∧ (∀ j, L ≤ j → R' (n + 1) j = R0 (n + 1) j) ∧ ∀ b j, b ≠ n + 1 → R' b j = R b j := by
  obtain ⟨b0, hb0, hk5⟩ := hR0 k0 (by omega)
  intro m
  induction m with
  | zero =>
    intro k f R W hkm hk h2 h3
    obtain ⟨k1, l1, r1⟩ := W_2 W h1
    refine ⟨up2 R (n + 1) (L - 1) (some b0), ?_, W.up (by rw [k1]; rfl) (by omega), fun j hj => ?_, ?_, fun j hj => ?_, fun b j hb => up2_na hb⟩
    · show f17_22 _ _ _ _ _ _ = _
      unfold f17_22
      have W2 : WS kd ln (up2 R (n + 1) (L - 1) (some b0)) := W.up (by rw [k1]; rfl) (by omega)
      rw [hb0, lit_1, nI_add, x_gI W h1 rfl, hI, if_pos (nI_le (by omega) (by omega)), x_gR W h1 rfl, r1, x_gI W h1 rfl, hI, nI_sub (by omega), b_os, x_atW hk5 rfl, x_yR k1 rfl (by omega) (by omega), x_gI W2 h1 rfl, hI, nI_sub (by omega), x_pI W2 h1 rfl]
    · rw [up2_ni (by omega)]; exact h2 j (by omega)
    · rw [up2_eq, hb0]
    · rw [up2_ni (by omega)]; exact h3 j (by omega)
  | succ m ih =>
    intro k f R W hkm hk h2 h3
    obtain ⟨k1, l1, r1⟩ := W_2 W h1
    obtain ⟨b1, hb1, hk6⟩ := hR0 (k + 1) (by omega)
    have W2 : WS kd ln (up2 R (n + 1) k (some b1)) := W.up (by rw [k1]; rfl) (by omega)
    obtain ⟨R', e1, e2, e3, e4, e5, e6⟩ := ih (k + 1) f _ W2 (by omega) (by omega) (fun j hj => by
      by_cases ej : j = k
      · subst ej; rw [up2_eq, if_neg (by omega), hb1]
      · rw [up2_ni ej]; exact h2 j (by omega)) (fun j hj => by rw [up2_ni (by omega)]; exact h3 j (by omega))
    refine ⟨R', ?_, e2, e3, e4, e5, fun b j hb => by rw [e6 b j hb, up2_na hb]⟩
    rw [show f + (m + 1) + 1 = (f + m + 1) + 1 by omega]
    show f17_22 _ _ _ _ _ _ = _
    unfold f17_22
    rw [lit_1, nI_add, x_gI W h1 rfl, hI, if_neg (nI_ge (by omega) (by omega)), x_gR W h1 rfl, r1, x_gR W h1 rfl, r1, x_xR k1 rfl (by omega) (by omega), h3 (k + 1) (by omega), hb1, b_os, x_atW hk6 rfl, x_yR k1 rfl (by omega) (by omega)]
    exact e1
def qD (L k i : Nat) : Nat := if i < k then i else if i < L - 1 then i + 1 else if i = L - 1 then k else i
def pmD (pm : Nat → Nat) (L k : Nat) : Nat → Nat := fun i => pm (qD L k i)
theorem qD_inj {L k i j : Nat} (hk : k < L) (hL : L ≤ 4) (hi : i < 4) (hj : j < 4) (e : qD L k i = qD L k j) : i = j := by
  unfold qD at e
  repeat' split at e
  all_goals omega
theorem qD_lt {L k i : Nat} (hk : k < L) (hL : L ≤ 4) (hi : i < 4) : qD L k i < 4 := by
  unfold qD
  repeat' split
  all_goals omega
theorem s17 (W : WS kd ln R) (h : CN kd I R n pm ps) {k : Nat} (hk : k < ps.length) : ∃ R', ag_run gT (d + 1) 17 [.inr (some n), .inl (nI k)] (hp z sl kd ln I R) = some (.inl none, hp z sl kd ln (up2 I n 1 (nI (ps.length - 1))) R') ∧ WS kd ln R' ∧ CN kd (up2 I n 1 (nI (ps.length - 1))) R' n (pmD pm ps.length k) (ps.eraseIdx k) ∧ ∀ b j, b ≠ n + 1 → R' b j = R b j := by
  obtain ⟨h1, h2, h3, h4, h5, h6, h7, h8⟩ := h
  obtain ⟨k1, l1, r1⟩ := W_2 W h1
  have el : (ps.eraseIdx k).length = ps.length - 1 := List.length_eraseIdx_of_lt hk
  obtain ⟨R', e1, e2, e3, e4, e5, e6⟩ := s17_22 (z := z) (sl := sl) (d := d) (I := I) h1 h3 h2 (R0 := R) (fun j hj => ⟨_, (h4 j hj).2, h6 _ (h4 j hj).1⟩) hk (ps.length - 1 - k) k (3999 - (ps.length - 1 - k)) R W (by omega) (Nat.le_refl _) (fun j hj => by rw [if_pos hj]) (fun j _ => rfl)
  refine ⟨R', ?_, e2, ⟨h1, ?_, by omega, fun i hi => ?_, fun i j hi hj e => ?_, h6, fun p hp => h7 p (List.mem_of_mem_eraseIdx hp), fun i hi => ?_⟩, e6⟩
  · rw [r17]
    unfold f17 f17_12
    rw [lit_0, if_neg (nI_nlt (Nat.zero_le _) (by omega)), x_gI W h1 rfl, h2, if_pos (nI_lt hk (by omega)), x_gR W h1 rfl, r1, x_xR k1 rfl (by omega) (by omega)]
    rw [show 3999 - (ps.length - 1 - k) + (ps.length - 1 - k) + 1 = 4000 by omega] at e1
    exact e1
  · rw [up2_eq, el]
  · show pm (qD ps.length k i) < 4 ∧ R' (n + 1) i = some (n + 2 + 5 * pm (qD ps.length k i))
    refine ⟨(h4 _ (qD_lt hk h3 hi)).1, ?_⟩
    rw [← (h4 _ (qD_lt hk h3 hi)).2]
    unfold qD
    by_cases c1 : i < k
    · rw [if_pos c1, e3 i (by omega), if_pos c1]
    · rw [if_neg c1]
      by_cases c2 : i < ps.length - 1
      · rw [if_pos c2, e3 i c2, if_neg c1]
      · rw [if_neg c2]
        by_cases c3 : i = ps.length - 1
        · rw [if_pos c3, c3, e4]
        · rw [if_neg c3, e5 i (by omega)]
  · exact qD_inj hk h3 hi hj (h5 _ _ (qD_lt hk h3 hi) (qD_lt hk h3 hj) e)
  · rw [el] at hi
    have hg : (ps.eraseIdx k).getD i dP = ps.getD (if i < k then i else i + 1) dP := by
      rw [List.getD_eq_getElem?_getD, List.getD_eq_getElem?_getD, List.getElem?_eraseIdx]
      split <;> rfl
    have hpm : pmD pm ps.length k i = pm (if i < k then i else i + 1) := by
      show pm (qD ps.length k i) = _
      unfold qD
      by_cases c1 : i < k
      · rw [if_pos c1, if_pos c1]
      · rw [if_neg c1, if_neg c1, if_pos hi]
    rw [hg, hpm]
    have hlt : (if i < k then i else i + 1) < ps.length := by split <;> omega
    refine (h8 _ hlt).congr fun x j x1 x2 => ?_
    rw [up2_na (by omega)]
def pmem (ps : List zP) : Nat := (ps.map fun p => p.2.length).sum
theorem s18_4 (W : WS kd ln R) (h : CN kd I R n pm ps) : ∀ (m k f u : Nat), k + m = ps.length → g18 (ag_run gT d) (f + m + 1) (some n) (nI u) (nI k) (hp z sl kd ln I R) = some (.inl (some (.inl (nI (u + pmem (ps.drop k))))), hp z sl kd ln I R) := by
  obtain ⟨h1, h2, h3, h4, h5, h6, h7, h8⟩ := h
  obtain ⟨k1, l1, r1⟩ := W_2 W h1
  intro m
  induction m with
  | zero =>
    intro k f u hkm
    show f18_4 _ _ _ _ _ _ = _
    unfold f18_4
    rw [x_gI W h1 rfl, h2, if_pos (nI_le (by omega) (by omega)), List.drop_eq_nil_of_le (by omega)]
    rfl
  | succ m ih =>
    intro k f u hkm
    have hkl : k < ps.length := by omega
    obtain ⟨q1, q2⟩ := h4 k (by omega)
    have q3 := h6 _ q1
    obtain ⟨y1, y2⟩ := W_5 W q3
    obtain ⟨-, -, c3, -⟩ := h8 k hkl
    rw [show f + (m + 1) + 1 = (f + m + 1) + 1 by omega]
    show f18_4 _ _ _ _ _ _ = _
    unfold f18_4
    rw [x_gI W h1 rfl, h2, if_neg (nI_ge (by omega) (by omega)), x_gR W h1 rfl, r1, x_xR k1 rfl (by omega) (by omega), q2, x_gR W q3 rfl, y2, x_gI W y1 rfl, c3, lit_1, nI_add, nI_add]
    have hd : ps.drop k = ps.getD k dP :: ps.drop (k + 1) := by
      rw [List.drop_eq_getElem_cons hkl, List.getD_eq_getElem?_getD, List.getElem?_eq_getElem hkl]
      rfl
    have e9 := ih (k + 1) f (u + (ps.getD k dP).2.length) (by omega)
    rw [hd]
    unfold pmem at e9 ⊢
    rw [List.map_cons, List.sum_cons, ← Nat.add_assoc]
    exact e9
theorem s18 (W : WS kd ln R) (h : CN kd I R n pm ps) : ag_run gT (d + 1) 18 [.inr (some n)] (hp z sl kd ln I R) = some (.inl (some (.inl (nI (pmem ps)))), hp z sl kd ln I R) := by
  have h3 := h.2.2.1
  rw [r18]
  unfold f18
  rw [lit_0]
  have := s18_4 (z := z) (sl := sl) (d := d) W h ps.length 0 (3999 - ps.length) 0 (by omega)
  rw [show 3999 - ps.length + ps.length + 1 = 4000 by omega, List.drop_zero, Nat.zero_add] at this
  exact this
end SPC

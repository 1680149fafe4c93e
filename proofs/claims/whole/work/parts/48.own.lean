/-! THE MEANING of the kernel's messages, and who owns which handle -/
def kS (S : zS) (s : Nat) (V : zV) (tq : Nat) (q : List Int32) (tr : Nat) (r : List Int32) : zS := (up1 S.1 s V, s, nI tq, q, nI tr, r)
def fre (S : zS) (s : Nat) : Nat := (vfr (S.1 s)).getD 0
def kCl (S : zS) (s h : Nat) : zS := kS S s (inc (setH (S.1 s) h none)) 120 (le (nI h) 4) 121 []
def kGo (S : zS) (s h : Nat) : zS := if s = 0 ∧ h = 0 then S else kCl S s h
def kSame (S : zS) (s h : Nat) : zS := kS S s (inc (setH (S.1 s) (fre S s) ((S.1 s).2.2.1 h))) 110 (le (nI h) 4 ++ le (nI (fre S s)) 4 ++ le (nI 0) 2) 111 []
def kAtt (S : zS) (s h : Nat) : zS := kS S s (inc (setH (S.1 s) h (some 0))) 104 (le (nI h) 4) 105 (tel 0 ((S.1 s).2.1 0))
def kSt (S : zS) (s h : Nat) : zS := kS S s (inc (S.1 s)) 124 (le (nI h) 4) (rT 125 (oST (S.1 s) h)) (rF (S.1 s) (oST (S.1 s) h))
def kWN (S : zS) (s h c : Nat) : zS := kS S s (inc (wV (S.1 s) (fre S s) (oWN (S.1 s) h c))) 110 (le (nI h) 4 ++ le (nI (fre S s)) 4 ++ le (nI 1) 2 ++ le (nI 1) 2 ++ le (nI (97 + c)) 1) (rT 111 (oWN (S.1 s) h c)) (rF (S.1 s) (oWN (S.1 s) h c))
def kOP (S : zS) (s h m : Nat) : zS := kS S s (inc (S.1 s)) 112 (le (nI h) 4 ++ le (nI m) 1) (rT 113 (oOP (S.1 s) h m)) (rF (S.1 s) (oOP (S.1 s) h m))
def kRD (S : zS) (s h q : Nat) : zS := kS S s (inc (S.1 s)) 116 (le (nI h) 4 ++ le (nI q) 4) (rT 117 (oRD (S.1 s) h q)) (rB (oRD (S.1 s) h q))
def kRM (S : zS) (s h : Nat) : zS := kS S s (inc (dV (S.1 s) h (oRM (S.1 s) h))) 122 (le (nI h) 4) (rT 123 (oRM (S.1 s) h)) (rE (oRM (S.1 s) h))
def kWR (S : zS) (s h q v : Nat) : zS := kS S s (inc (uV (S.1 s) q (nI v) (oWR (S.1 s) h q))) 118 (le (nI h) 4 ++ le (nI q) 4 ++ le (nI v) 1) (rT 119 (oWR (S.1 s) h q)) (rW (S.1 s) q (nI v) (oWR (S.1 s) h q))
def mV (V : zV) (h c : Nat) (dir : Bool) (x : Nat ⊕ Nat) : zV := match x with
  | .inl _ => V
  | .inr i => newF V h i c dir
def rM (V : zV) (c : Nat) (dir : Bool) (x : Nat ⊕ Nat) : List Int32 := match x with
  | .inl e => err e
  | .inr i => tel V.1 (true, dir, c, some i, [], nI 0)
def kMK (S : zS) (s h c : Nat) (dir : Bool) : zS := kS S s (inc (mV (S.1 s) h c dir (oMK (S.1 s) h c))) 114 (le (nI h) 4 ++ le (nI 1) 2 ++ le (nI (97 + c)) 1 ++ le (bI dir) 1) (rT 115 (oMK (S.1 s) h c)) (rM (S.1 s) c dir (oMK (S.1 s) h c))
/-- the servers are well, and the handles in use are just those of the list -/
def OW (S : zS) (L : List (Nat × Nat)) : Prop := (∀ s, s < 2 → VW (S.1 s)) ∧ ∀ s h, s < 2 → L.count (s, h) = if ((S.1 s).2.2.1 h).isSome then 1 else 0
theorem pig (s : Nat) : ∀ (n : Nat) (L : List (Nat × Nat)), (∀ i, i < n → (s, i) ∈ L) → n ≤ L.length := by
  intro n
  induction n with
  | zero => intro L _; exact Nat.zero_le _
  | succ n ih =>
    intro L h
    have h1 := h n (by omega)
    have h2 := ih (L.erase (s, n)) (fun i hi => by
      rw [List.mem_erase_of_ne (by intro e; cases e; omega)]
      exact h i (by omega))
    rw [List.length_erase_of_mem h1] at h2
    have : 0 < L.length := List.length_pos_of_mem h1
    omega
section OWN
variable {S S' : zS} {L L' : List (Nat × Nat)} {s h : Nat}
theorem OW.cnt (hO : OW S L) (e : ∀ x, L'.count x = L.count x) : OW S L' := ⟨hO.1, fun t x ht => by rw [e]; exact hO.2 t x ht⟩
theorem OW.mem (hO : OW S L) (hs : s < 2) : (s, h) ∈ L ↔ ((S.1 s).2.2.1 h).isSome = true := by
  rw [← List.count_pos_iff, hO.2 s h hs]
  cases ((S.1 s).2.2.1 h).isSome <;> simp
theorem OW.lt (hO : OW S L) (hs : s < 2) (hm : (s, h) ∈ L) : h < 128 := by
  have h1 := (hO.mem hs).mp hm
  rcases Nat.lt_or_ge h 128 with h2 | h2
  · exact h2
  · rw [(hO.1 s hs).2.2.2.2.1 h h2] at h1; cases h1
theorem OW.st (hO : OW S L) (hs : s < 2) (hm : (s, h) ∈ L) : ∃ i, (S.1 s).2.2.1 h = some i ∧ i < (S.1 s).1 := by
  have h1 := (hO.mem hs).mp hm
  obtain ⟨i, hi⟩ := Option.isSome_iff_exists.mp h1
  exact ⟨i, hi, (hO.1 s hs).2.2.2.1 h i hi⟩
theorem vfr_ok {V : zV} {n : Nat} (hn : vfr V = some n) : n < 128 ∧ V.2.2.1 n = none := by
  unfold vfr at hn
  refine ⟨List.mem_range.mp (List.mem_of_find?_eq_some hn), ?_⟩
  have := List.find?_some hn
  simpa using this
theorem OW.free (hO : OW S L) (hs : s < 2) (hl : L.length < 128) : vfr (S.1 s) = some (fre S s) ∧ fre S s < 128 ∧ (S.1 s).2.2.1 (fre S s) = none ∧ (s, fre S s) ∉ L := by
  have key : ∃ n, vfr (S.1 s) = some n := by
    cases hv : vfr (S.1 s) with
    | some n => exact ⟨n, rfl⟩
    | none =>
      exfalso
      unfold vfr at hv
      rw [List.find?_eq_none] at hv
      have := pig s 128 L (fun i hi => (hO.mem hs).mpr (by
        have := hv i (List.mem_range.mpr hi)
        simpa [Option.isSome_iff_ne_none] using this))
      omega
  obtain ⟨n, hn⟩ := key
  have e : fre S s = n := by unfold fre; rw [hn]; rfl
  obtain ⟨h1, h2⟩ := vfr_ok hn
  refine ⟨by rw [e]; exact hn, by rw [e]; exact h1, by rw [e]; exact h2, fun hm => ?_⟩
  have := (hO.mem hs).mp hm
  rw [e, h2] at this
  cases this
theorem pbe (s h t x : Nat) : (((s, h) == (t, x)) = true) ↔ (t = s ∧ x = h) := by
  rw [beq_iff_eq, Prod.mk.injEq]
  exact ⟨fun h => ⟨h.1.symm, h.2.symm⟩, fun h => ⟨h.1.symm, h.2.symm⟩⟩
theorem OW.add (hO : OW S L) {o : Option Nat} (hV : ∀ t, t < 2 → VW (S'.1 t)) (hst : ∀ t x, (S'.1 t).2.2.1 x = if t = s ∧ x = h then o else (S.1 t).2.2.1 x) (ho : o.isSome = true) (hn : (S.1 s).2.2.1 h = none) : OW S' ((s, h) :: L) := by
  refine ⟨hV, fun t x ht => ?_⟩
  rw [hst, List.count_cons, hO.2 t x ht]
  by_cases e : t = s ∧ x = h
  · rw [if_pos e, if_pos ((pbe s h t x).mpr e), if_pos ho, e.1, e.2, hn]; rfl
  · rw [if_neg e, if_neg (fun h9 => e ((pbe s h t x).mp h9)), Nat.add_zero]
theorem OW.del (hO : OW S L) (hV : ∀ t, t < 2 → VW (S'.1 t)) (hst : ∀ t x, (S'.1 t).2.2.1 x = if t = s ∧ x = h then none else (S.1 t).2.2.1 x) : OW S' (L.erase (s, h)) := by
  refine ⟨hV, fun t x ht => ?_⟩
  rw [hst, List.count_erase, hO.2 t x ht]
  by_cases e : t = s ∧ x = h
  · rw [if_pos e, if_pos ((pbe s h t x).mpr e)]
    cases ((S.1 t).2.2.1 x).isSome <;> rfl
  · rw [if_neg e, if_neg (fun h9 => e ((pbe s h t x).mp h9)), Nat.sub_zero]
theorem OW.keep (hO : OW S L) (hV : ∀ t, t < 2 → VW (S'.1 t)) (hst : ∀ t x, ((S'.1 t).2.2.1 x).isSome = ((S.1 t).2.2.1 x).isSome) : OW S' L :=
  ⟨hV, fun t x ht => by rw [hst]; exact hO.2 t x ht⟩
theorem VW.inc {V : zV} (hw : VW V) : VW (inc V) := hw
theorem kS_V {V : zV} {tq tr : Nat} {q r : List Int32} (hO : OW S L) (hV : VW V) : ∀ t, t < 2 → VW ((kS S s V tq q tr r).1 t) := fun t ht => by
  show VW (up1 S.1 s V t)
  by_cases e : t = s
  · subst e; rw [up1_eq]; exact hV
  · rw [up1_ne e]; exact hO.1 t ht
theorem kS_st {V : zV} {tq tr : Nat} {q r : List Int32} {o : Option Nat} (hV : V.2.2.1 = up1 (S.1 s).2.2.1 h o) (t x : Nat) : ((kS S s V tq q tr r).1 t).2.2.1 x = if t = s ∧ x = h then o else (S.1 t).2.2.1 x := by
  show (up1 S.1 s V t).2.2.1 x = _
  by_cases e : t = s
  · subst e
    rw [up1_eq, hV]
    by_cases e2 : x = h
    · subst e2; rw [up1_eq, if_pos ⟨rfl, rfl⟩]
    · rw [up1_ne e2, if_neg (fun h => e2 h.2)]
  · rw [up1_ne e, if_neg (fun h => e h.1)]
theorem kS_is {V : zV} {tq tr : Nat} {q r : List Int32} (hV : V.2.2.1 = (S.1 s).2.2.1) (t x : Nat) : (((kS S s V tq q tr r).1 t).2.2.1 x).isSome = ((S.1 t).2.2.1 x).isSome := by
  show ((up1 S.1 s V t).2.2.1 x).isSome = _
  by_cases e : t = s
  · subst e
    rw [up1_eq, hV]
  · rw [up1_ne e]
theorem OW.cl (hO : OW S L) (hs : s < 2) (hm : (s, h) ∈ L) : OW (kCl S s h) (L.erase (s, h)) :=
  hO.del (kS_V hO ((hO.1 s hs).setH (hO.lt hs hm) (fun i h9 => by cases h9))) (kS_st rfl)
theorem OW.same (hO : OW S L) (hs : s < 2) (hm : (s, h) ∈ L) (hl : L.length < 128) : OW (kSame S s h) ((s, fre S s) :: L) := by
  obtain ⟨f1, f2, f3, f4⟩ := hO.free hs hl
  exact hO.add (kS_V hO ((hO.1 s hs).setH f2 (fun i h9 => (hO.1 s hs).2.2.2.1 h i h9))) (kS_st rfl) ((hO.mem hs).mp hm) f3
theorem OW.att (hO : OW S L) (hs : s < 2) (hl : L.length < 128) : OW (kAtt S s (fre S s)) ((s, fre S s) :: L) := by
  obtain ⟨f1, f2, f3, f4⟩ := hO.free hs hl
  exact hO.add (kS_V hO ((hO.1 s hs).setH f2 (fun i h9 => by cases h9; have := (hO.1 s hs).1; omega))) (kS_st rfl) rfl f3
theorem oWN_lt {V : zV} {c g : Nat} (h9 : oWN V h c = .inr g) : g < V.1 ∧ (V.2.1 g).1 = true ∧ ∃ i, V.2.2.1 h = some i ∧ vin V i c = some g := by
  unfold oWN at h9
  cases hs : V.2.2.1 h with
  | none => rw [hs] at h9; cases h9
  | some i =>
    rw [hs] at h9
    dsimp only at h9
    cases h1 : (V.2.1 i).1
    · rw [h1] at h9; cases h9
    · rw [h1] at h9
      cases h2 : (V.2.1 i).2.1
      · rw [h2] at h9; cases h9
      · rw [h2] at h9
        dsimp only [cond_true] at h9
        cases hv : vin V i c with
        | none => rw [hv] at h9; cases h9
        | some g' =>
          rw [hv] at h9
          cases h9
          have := vlv_mem (List.mem_of_find?_eq_some hv)
          exact ⟨this.1, this.2, i, rfl, hv⟩
theorem OW.wn_ok (hO : OW S L) (hs : s < 2) (hl : L.length < 128) {c g : Nat} (hg : oWN (S.1 s) h c = .inr g) : OW (kWN S s h c) ((s, fre S s) :: L) := by
  obtain ⟨f1, f2, f3, f4⟩ := hO.free hs hl
  have hlt := (oWN_lt hg).1
  unfold kWN
  rw [hg]
  exact hO.add (kS_V hO ((hO.1 s hs).setH f2 (fun i h9 => by cases h9; exact hlt))) (kS_st rfl) rfl f3
theorem OW.wn_no (hO : OW S L) (hs : s < 2) {c e : Nat} (hg : oWN (S.1 s) h c = .inl e) : OW (kWN S s h c) L := by
  unfold kWN
  rw [hg]
  exact hO.keep (kS_V hO (hO.1 s hs)) (kS_is rfl)
theorem OW.opn (hO : OW S L) (hs : s < 2) (m : Nat) : OW (kOP S s h m) L := hO.keep (kS_V hO (hO.1 s hs)) (kS_is rfl)
theorem OW.sta (hO : OW S L) (hs : s < 2) : OW (kSt S s h) L := hO.keep (kS_V hO (hO.1 s hs)) (kS_is rfl)
theorem OW.rd (hO : OW S L) (hs : s < 2) (q : Nat) : OW (kRD S s h q) L := hO.keep (kS_V hO (hO.1 s hs)) (kS_is rfl)
end OWN

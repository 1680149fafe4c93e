/-! LOCALS, and what a method's walk knows -/
def ag_al : Nat → ag_L → List (Nat × Value)
  | _, [] => []
  | i, none :: L => ag_al (i + 1) L
  | i, some v :: L => (i, ag_v v) :: ag_al (i + 1) L
theorem ag_al_mem : ∀ (L : ag_L) (i : Nat) (q : Nat × Value), q ∈ ag_al i L ↔ ∃ (k : Nat) (v : ag_V), L[k]? = some (some v) ∧ q = (i + k, ag_v v) := by
  intro L
  induction L with
  | nil => intro i q; simp [ag_al]
  | cons x L ih =>
    intro i q
    cases x with
    | none =>
      show q ∈ ag_al (i + 1) L ↔ _
      rw [ih]
      constructor
      · rintro ⟨k, v, h1, h2⟩
        exact ⟨k + 1, v, by simpa using h1, by rw [h2]; congr 1; omega⟩
      · rintro ⟨k, v, h1, h2⟩
        cases k with
        | zero => simp at h1
        | succ k => exact ⟨k, v, by simpa using h1, by rw [h2]; congr 1; omega⟩
    | some w =>
      show q ∈ (i, ag_v w) :: ag_al (i + 1) L ↔ _
      rw [List.mem_cons, ih]
      constructor
      · rintro (h | ⟨k, v, h1, h2⟩)
        · exact ⟨0, w, rfl, by rw [h]; rfl⟩
        · exact ⟨k + 1, v, by simpa using h1, by rw [h2]; congr 1; omega⟩
      · rintro ⟨k, v, h1, h2⟩
        cases k with
        | zero =>
          have h1 : some (some w) = some (some v) := h1
          cases h1
          exact Or.inl h2
        | succ k => exact Or.inr ⟨k, v, by simpa using h1, by rw [h2]; congr 1; omega⟩
theorem ag_cat (v : ag_V) : (ag_v v).category = 1 := by
  rcases v with x | _ | a <;> rfl
theorem ag_has_at {ls : Array Slot} {n i : Nat} {L : ag_L} {v : ag_V} (h : lv_has ls n (ag_al 0 L)) (hv : L[i]? = some (some v)) : ls[i]? = some (.val (ag_v v)) :=
  h.2.2 (i, ag_v v) ((ag_al_mem L 0 _).mpr ⟨i, v, hv, by rw [Nat.zero_add]⟩)
theorem ag_has_set {ls : Array Slot} {n i : Nat} {L : ag_L} {v : ag_V} (h : lv_has ls n ((i, ag_v v) :: (ag_al 0 L).filter (fun q => !(q.1 == i) && !(q.1 + 1 == i && q.2.category == 2)))) : lv_has ls n (ag_al 0 (L.set i (some v))) := by
  refine ⟨h.1, h.2.1, fun q hq => h.2.2 q ?_⟩
  obtain ⟨k, w, hk, rfl⟩ := (ag_al_mem _ 0 q).mp hq
  rw [List.getElem?_set] at hk
  rw [Nat.zero_add]
  by_cases e : i = k
  · subst e
    rw [if_pos rfl] at hk
    split at hk
    · cases hk
      exact List.mem_cons_self
    · cases hk
  · rw [if_neg e] at hk
    refine List.mem_cons_of_mem _ (List.mem_filter.mpr ⟨(ag_al_mem L 0 _).mpr ⟨k, w, hk, by rw [Nat.zero_add]⟩, ?_⟩)
    simp [ag_cat, Ne.symm e]
theorem ag_mask_at : ∀ (L : ag_L) (m k : Nat) (v : ag_V), (ag_mask m L)[k]? = some (some v) → L[k]? = some (some v) := by
  intro L
  induction L with
  | nil => intro m k v h; simp [ag_mask] at h
  | cons x L ih =>
    intro m k v h
    cases k with
    | zero =>
      have h : some (bif Nat.beq (m % 2) 1 then x else none) = some (some v) := h
      show some x = some (some v)
      cases hb : Nat.beq (m % 2) 1
      · rw [hb] at h; cases h
      · rw [hb] at h; exact h
    | succ k =>
      have h : (ag_mask (m / 2) L)[k]? = some (some v) := by simpa [ag_mask] using h
      simpa using ih _ _ _ h
theorem ag_has_mask {ls : Array Slot} {n m : Nat} {L : ag_L} (h : lv_has ls n (ag_al 0 L)) : lv_has ls n (ag_al 0 (ag_mask m L)) := by
  refine ⟨h.1, h.2.1, fun q hq => h.2.2 q ?_⟩
  obtain ⟨k, w, hk, rfl⟩ := (ag_al_mem _ 0 q).mp hq
  exact (ag_al_mem L 0 _).mpr ⟨k, w, ag_mask_at L m k w hk, rfl⟩
theorem ag_init_at (A : List ag_V) (n k : Nat) (v : ag_V) (h : (A.map some ++ List.replicate n none)[k]? = some (some v)) : A[k]? = some v := by
  by_cases hk : k < A.length
  · rw [List.getElem?_append_left (by simpa using hk), List.getElem?_map] at h
    cases h9 : A[k]? with
    | none => rw [h9] at h; cases h
    | some w => rw [h9] at h; cases h; rfl
  · rw [List.getElem?_append_right (by simpa using hk)] at h
    rw [List.getElem?_replicate] at h
    split at h <;> cases h
theorem ag_args_at (vs : List ag_V) : ∀ (i k : Nat) (v : ag_V), vs[k]? = some v → (i + k, ag_v v) ∈ lv_args i (vs.map ag_v) := by
  induction vs with
  | nil => intro i k v h; simp at h
  | cons w vs ih =>
    intro i k v h
    show (i + k, ag_v v) ∈ (i, ag_v w) :: lv_args (if (ag_v w).category = 2 then i + 2 else i + 1) (vs.map ag_v)
    rw [if_neg (by rw [ag_cat]; decide)]
    cases k with
    | zero =>
      have h : some w = some v := h
      cases h
      exact List.mem_cons_self
    | succ k =>
      refine List.mem_cons_of_mem _ ?_
      have := ih (i + 1) k v (by simpa using h)
      rwa [show i + (k + 1) = i + 1 + k by omega]
/-- what is known of the start of every method: classes and arrays, links between nest mates, arrays over classes, texts, two statics of the JDK's -/
def gSt : List (Nat × Nat × String) := gStL
/-- words of the constructors of exceptions that a warm table keeps, though not every table does -/
def gXw : List Cond := [.declares (Bundle.initS "java/lang/RuntimeException"), .declares (Bundle.initS "java/lang/Exception"), .declares (Bundle.initS "java/lang/Throwable"), .castable "java/lang/IllegalArgumentException" "java/lang/IllegalArgumentException", .castable "java/lang/IllegalStateException" "java/lang/IllegalStateException", .castable "java/util/NoSuchElementException" "java/util/NoSuchElementException", .castable "java/lang/UnsupportedOperationException" "java/lang/UnsupportedOperationException"]
theorem gXw_warm {s U : State} (hW : s.WarmedH U.vm) (h : ∀ w ∈ gXw, va_Nw w s) : ∀ w ∈ gXw, va_Nw w U := by
  intro w hw
  have h0 := h w hw
  simp only [gXw, List.mem_cons, List.not_mem_nil, or_false] at hw
  rcases hw with rfl | rfl | rfl | rfl | rfl | rfl | rfl
  · exact va_Nw.warmD hW h0
  · exact va_Nw.warmD hW h0
  · exact va_Nw.warmD hW h0
  · exact va_Nw.warmC hW h0
  · exact va_Nw.warmC hW h0
  · exact va_Nw.warmC hW h0
  · exact va_Nw.warmC hW h0
def gW (D : ag_D) (base : Nat → Prop) (U : State) : Prop := ag_K D U ∧ (∀ q ∈ gMN, va_Nw (gMNw q) U) ∧ (∀ q ∈ gAO, va_AO (gR q) U) ∧ (∀ q ∈ gSt, ∃ sa : Nat, vk_R (gR q.1) q.2.1 q.2.2 sa U) ∧
  vx_Zq Bundle.tN "UNASSIGNED_STACK" Bundle.steD base U U.heap ∧ vx_Zq Bundle.tN "SUPPRESSED_SENTINEL" Bundle.listD base U U.heap ∧ (∀ w ∈ gXw, va_Nw w U)
theorem gW.warm {D : ag_D} {base : Nat → Prop} {s U : State} {H : Heap} {locs : List Loc} (h : gW D base s) (hS : va_S base s.heap H locs) (hU : U.heap = H) (hW : s.WarmedH U.vm) : gW D base U := by
  obtain ⟨h1, h2, h3, h4, h5, h6, h7⟩ := h
  refine ⟨va_K.moved hW.alike h1, fun q hq => va_Nw.warmM hW (h2 q hq), fun q hq => va_AO.moved hW.alike (h3 q hq), fun q hq => ?_, ?_, ?_, gXw_warm hW h7⟩
  · obtain ⟨sa, hs⟩ := h4 q hq
    exact ⟨sa, vk_R.warm hW hs⟩
  · rw [hU]; exact vx_Zq.moved hW.alike (h5.kept hS.2.1)
  · rw [hU]; exact vx_Zq.moved hW.alike (h6.kept hS.2.1)
def gPc (D : ag_D) (base : Nat → Prop) (A : List ag_V) (h : ag_H) : Array Value → State → Prop := fun a U => a = (A.map ag_v).toArray ∧ ag_rep D base h U.heap ∧ gW D base U ∧ bo base U.heap.size
theorem gPc.blind {D : ag_D} {base : Nat → Prop} {A : List ag_V} {h : ag_H} : FrameBlind (gPc D base A h) := by
  intro a U g mk hq
  obtain ⟨q1, q2, q3, q4⟩ := hq
  exact ⟨q1, q2, gW.warm (s := U) (H := U.heap) (locs := []) q3 va_S.rf rfl (State.WarmedH.refl U), q4⟩
def gFin (D : ag_D) (base : Nat → Prop) (r : ag_O × ag_H) (s t : State) : Prop := ag_rep D base r.2 t.heap ∧ va_F base s t
def gQc (D : ag_D) (base : Nat → Prop) (r : ag_O × ag_H) : Array Value → State → Outcome → State → Prop := fun _ s o t => ∃ v : Option ag_V, r.1 = .inl v ∧ o = .returned (v.map ag_v) ∧ gFin D base r s t
def gXC (D : ag_D) (base : Nat → Prop) (r : ag_O × ag_H) : String → State → State → Prop := fun E s t => ∃ x : Nat, r.1 = .inr x ∧ E = gE x ∧ gFin D base r s t
def gRm (y : Nat) (h : ag_H) (r : ag_O × ag_H) : Room := { frames := gF y, cells := r.2.1 - h.1, slots := r.2.2.1 - h.2.1, locals := gLo y }
/-- THE CONTRACT of method y: from arguments A and the heap h it ends as r says -/
def gMet (l : Launch) (D : ag_D) (base : Nat → Prop) (y : Nat) (A : List ag_V) (h : ag_H) (r : ag_O × ag_H) : Prop :=
  vx_Met l (gN y) (gCw y :: gw) (gRm y h r) (gPc D base A h) (gQc D base r) (gXC D base r) (r.2.1 - h.1) (r.2.2.1 - h.2.1) base

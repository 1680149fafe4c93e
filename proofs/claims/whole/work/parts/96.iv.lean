/-! THE INVARIANT: who owns which handle -/
def rowh (u : zU) : List (Nat × Nat) := bif u.1 then u.2.1.map hp2 else []
def hmP (P : Nat → List zP) : List (Nat × Nat) := (List.range 4).flatMap fun j => mps (P j)
def hmO (O : Nat → Nat → zU) : List (Nat × Nat) := (List.range 4).flatMap fun p => (List.range 5).flatMap fun f => rowh (O p f)
def owL (P : Nat → List zP) (O : Nat → Nat → zU) : List (Nat × Nat) := (0, 0) :: (1, 0) :: (hmP P ++ hmO O)
theorem sum_upd (g : Nat → Nat) (k a : Nat) : ∀ n, k < n → ((List.range n).map (up1 g k a)).sum + g k = ((List.range n).map g).sum + a := by
  intro n
  induction n with
  | zero => intro h; exact absurd h (Nat.not_lt_zero _)
  | succ n ih =>
    intro hk
    rw [List.range_succ, List.map_append, List.map_append, List.sum_append, List.sum_append, List.map_singleton, List.map_singleton, List.sum_singleton, List.sum_singleton]
    by_cases e : n = k
    · subst e
      have : (List.range n).map (up1 g n a) = (List.range n).map g := List.map_congr_left fun i hi => up1_ne (by have := List.mem_range.mp hi; omega)
      rw [this, up1_eq]
      omega
    · rw [up1_ne e]
      have := ih (by omega)
      omega
section IV
variable {S S' : zS} {P : Nat → List zP} {Q : Nat → Option Nat} {O : Nat → Nat → zU} {F L L' G : List (Nat × Nat)} {p f j s h : Nat} {x : Nat × Nat}
theorem OW.eqv (hO : OW S L) (he : ∀ x, L'.count x = L.count x) : OW S L' := ⟨hO.1, fun s h hs => by rw [he]; exact hO.2 s h hs⟩
theorem hmP_cnt : (hmP P).count x = ((List.range 4).map fun j => (mps (P j)).count x).sum := by
  unfold hmP
  rw [List.count_flatMap]
  rfl
theorem hmO_cnt : (hmO O).count x = ((List.range 4).map fun p => ((List.range 5).map fun f => (rowh (O p f)).count x).sum).sum := by
  unfold hmO
  rw [List.count_flatMap]
  congr 1
  refine List.map_congr_left fun p _ => ?_
  show ((List.range 5).flatMap _).count x = _
  rw [List.count_flatMap]
  rfl
theorem own_cnt : (owL P O).count x = [(0, 0), (1, 0)].count x + ((hmP P).count x + (hmO O).count x) := by
  unfold owL
  rw [show (0, 0) :: (1, 0) :: (hmP P ++ hmO O) = [(0, 0), (1, 0)] ++ (hmP P ++ hmO O) from rfl, List.count_append, List.count_append]
theorem hmP_upd (hj : j < 4) (ps : List zP) : (hmP (up1 P j ps)).count x + (mps (P j)).count x = (hmP P).count x + (mps ps).count x := by
  rw [hmP_cnt, hmP_cnt]
  have := sum_upd (fun j => (mps (P j)).count x) j ((mps ps).count x) 4 hj
  rw [← this]
  congr 3
  funext i
  by_cases e : i = j
  · subst e; rw [up1_eq, up1_eq]
  · rw [up1_ne e, up1_ne e]
theorem hmO_upd (hp9 : p < 4) (hf : f < 5) (u : zU) : (hmO (up2 O p f u)).count x + (rowh (O p f)).count x = (hmO O).count x + (rowh u).count x := by
  rw [hmO_cnt, hmO_cnt]
  have h1 := sum_upd (fun f => (rowh (O p f)).count x) f ((rowh u).count x) 5 hf
  have h2 := sum_upd (fun p => ((List.range 5).map fun f => (rowh (O p f)).count x).sum) p (((List.range 5).map (up1 (fun f => (rowh (O p f)).count x) f ((rowh u).count x))).sum) 4 hp9
  have h3 : (fun p' => ((List.range 5).map fun f' => (rowh (up2 O p f u p' f')).count x).sum) = up1 (fun p => ((List.range 5).map fun f => (rowh (O p f)).count x).sum) p (((List.range 5).map (up1 (fun f => (rowh (O p f)).count x) f ((rowh u).count x))).sum) := by
    funext p'
    by_cases e : p' = p
    · subst e
      rw [up1_eq]
      congr 2
      funext f'
      by_cases e2 : f' = f
      · subst e2; rw [up2_eq, up1_eq]
      · rw [up2_ni e2, up1_ne e2]
    · rw [up1_ne e]
      congr 2
      funext f'
      rw [up2_na e]
  rw [h3]
  omega
theorem own_P (hj : j < 4) (ps : List zP) : (owL (up1 P j ps) O).count x + (mps (P j)).count x = (owL P O).count x + (mps ps).count x := by
  have := hmP_upd (P := P) (x := x) hj ps
  rw [own_cnt, own_cnt]
  omega
theorem own_O (hp9 : p < 4) (hf : f < 5) (u : zU) : (owL P (up2 O p f u)).count x + (rowh (O p f)).count x = (owL P O).count x + (rowh u).count x := by
  have := hmO_upd (O := O) (x := x) hp9 hf u
  rw [own_cnt, own_cnt]
  omega
theorem own_00 : (0, 0) ∈ owL P O := by unfold owL; simp
theorem own_mP (hj : j < 4) : ∀ x ∈ mps (P j), x ∈ owL P O := fun x hx => by
  unfold owL hmP
  simp only [List.mem_cons, List.mem_append, List.mem_flatMap, List.mem_range]
  exact Or.inr (Or.inr (Or.inl ⟨j, hj, hx⟩))
theorem own_mO (hp9 : p < 4) (hf : f < 5) : ∀ x ∈ rowh (O p f), x ∈ owL P O := fun x hx => by
  unfold owL hmO
  simp only [List.mem_cons, List.mem_append, List.mem_flatMap, List.mem_range]
  exact Or.inr (Or.inr (Or.inr ⟨p, hp9, f, hf, hx⟩))
/-- places' members are owned, and none is a root -/
theorem own_PM (hj : j < 4) (h2 : ∀ q ∈ P j, ∀ m ∈ q.2, m.1 < 2) : PM P j (owL P O) := fun q hq m hm => ⟨h2 q hq m hm, own_mP hj _ (List.mem_flatMap.mpr ⟨q, hq, List.mem_map.mpr ⟨m, hm, rfl⟩⟩)⟩
theorem own_nr (hO : OW S (owL P O)) : (0, 0) ∉ hmP P ∧ (0, 0) ∉ hmO O := by
  have h1 := hO.2 0 0 (by decide)
  rw [own_cnt] at h1
  have h2 : [((0 : Nat), (0 : Nat)), (1, 0)].count (0, 0) = 1 := by decide
  have h3 : (if ((S.1 0).2.2.1 0).isSome then 1 else 0) ≤ 1 := by split <;> omega
  rw [h2] at h1
  have h4 : (hmP P).count (0, 0) + (hmO O).count (0, 0) = 0 := by
    revert h1
    cases ((S.1 0).2.2.1 0).isSome <;> simp <;> omega
  exact ⟨List.count_eq_zero.mp (by omega), List.count_eq_zero.mp (by omega)⟩
theorem own_PN (hO : OW S (owL P O)) (hj : j < 4) : PN P j := fun q hq m hm e => by
  refine (own_nr hO).1 (List.mem_flatMap.mpr ⟨j, List.mem_range.mpr hj, List.mem_flatMap.mpr ⟨q, hq, List.mem_map.mpr ⟨m, hm, ?_⟩⟩⟩)
  show (m.1, m.2.1) = (0, 0)
  rw [e.1, e.2]
theorem own_ON (hO : OW S (owL P O)) (hp9 : p < 4) (hf : f < 5) (hu : (O p f).1 = true) : ∀ m ∈ (O p f).2.1, ¬ (m.1 = 0 ∧ m.2.1 = 0) := fun m hm e => by
  refine (own_nr hO).2 (List.mem_flatMap.mpr ⟨p, List.mem_range.mpr hp9, List.mem_flatMap.mpr ⟨f, List.mem_range.mpr hf, ?_⟩⟩)
  unfold rowh
  rw [hu]
  exact List.mem_map.mpr ⟨m, hm, by show (m.1, m.2.1) = (0, 0); rw [e.1, e.2]⟩
end IV

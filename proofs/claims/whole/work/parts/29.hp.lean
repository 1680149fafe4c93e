/-! THE HEAP AS FUNCTIONS: kinds, lengths, ints, references by address and index. Runs of the class and of the reference keep the kinds and lengths of what their constructors made -/
/-- which field or element of a cell of kind c is a reference -/
def rf (c i : Nat) : Bool := match c with
  | 0 => Nat.blt i 3
  | 1 => Nat.beq i 0
  | 2 => Nat.beq i 0
  | 3 => Nat.beq i 0
  | 4 => Nat.beq i 0
  | 5 => Nat.beq i 0
  | 6 => Nat.blt i 2
  | 7 => Nat.blt i 4
  | 8 => Nat.beq i 0
  | 9 => Nat.beq i 4
  | 10 => Nat.blt i 8
  | 11 => ([1, 3, 5, 6, 7, 8, 9, 10, 11, 12, 13, 14, 15, 16, 18, 22, 23, 24, 25, 26, 27, 28, 29, 30, 31, 32, 33, 34, 35, 36, 37] : List Nat).elem i
  | 103 => true
  | 104 => true
  | 105 => true
  | 106 => true
  | 107 => true
  | 108 => true
  | _ => false
def nf : Nat → Nat := fun c => match c with
  | 0 => 4
  | 1 => 3
  | 2 => 3
  | 3 => 6
  | 4 => 3
  | 5 => 3
  | 6 => 2
  | 7 => 6
  | 8 => 2
  | 9 => 8
  | 10 => 13
  | 11 => 42
  | _ => 0
def hv (c : Nat) (x : Nat → Int32) (r : Nat → Option Nat) (i : Nat) : ag_V := bif rf c i then .inr (r i) else .inl (x i)
def hp (z sl : Nat) (kd ln : Nat → Nat) (I : Nat → Nat → Int32) (R : Nat → Nat → Option Nat) : ag_H := (z, sl, fun a => if kd a = 999 then none else some (kd a, (List.range (ln a)).map (hv (kd a) (I a) (R a))))
def up2 {α : Type} (f : Nat → Nat → α) (a i : Nat) (v : α) : Nat → Nat → α := fun b j => if b = a ∧ j = i then v else f b j
def up1 {α : Type} (f : Nat → α) (a : Nat) (v : α) : Nat → α := fun b => if b = a then v else f b
theorem up2_eq {α : Type} (f : Nat → Nat → α) (a i : Nat) (v : α) : up2 f a i v a i = v := if_pos ⟨rfl, rfl⟩
theorem up2_ne {α : Type} {f : Nat → Nat → α} {a i b j : Nat} {v : α} (h : ¬ (b = a ∧ j = i)) : up2 f a i v b j = f b j := if_neg h
theorem up2_na {α : Type} {f : Nat → Nat → α} {a i b j : Nat} {v : α} (h : ¬ b = a) : up2 f a i v b j = f b j := if_neg fun q => h q.1
theorem up2_ni {α : Type} {f : Nat → Nat → α} {a i b j : Nat} {v : α} (h : ¬ j = i) : up2 f a i v b j = f b j := if_neg fun q => h q.2
theorem up1_eq {α : Type} (f : Nat → α) (a : Nat) (v : α) : up1 f a v a = v := if_pos rfl
theorem up1_ne {α : Type} {f : Nat → α} {a b : Nat} {v : α} (h : ¬ b = a) : up1 f a v b = f b := if_neg h
section HP
variable {z sl : Nat} {kd ln : Nat → Nat} {I : Nat → Nat → Int32} {R : Nat → Nat → Option Nat} {a c k : Nat}
theorem hp_at (hk : kd a = c) (hc : c < 999) : (hp z sl kd ln I R).2.2 a = some (c, (List.range (ln a)).map (hv c (I a) (R a))) := by
  show (if kd a = 999 then none else some (kd a, (List.range (ln a)).map (hv (kd a) (I a) (R a)))) = _
  rw [hk, if_neg (by omega)]
theorem hp_set_get {n k : Nat} {f : Nat → ag_V} {v : ag_V} : ((List.range n).map f).set k v = (List.range n).map fun i => if i = k then v else f i := by
  apply List.ext_getElem?
  intro j
  rw [List.getElem?_set, List.getElem?_map, List.getElem?_map, List.length_map, List.length_range]
  by_cases h : j < n
  · rw [List.getElem?_range h]
    by_cases e : k = j
    · subst e; simp [h]
    · rw [if_neg e]; simp [Ne.symm e]
  · rw [List.getElem?_eq_none (by simp; omega)]
    by_cases e : k = j
    · subst e; simp [h]
    · simp [e]
theorem hp_setI {v : Int32} (hk : kd a = c) (hc : c < 999) (hr : rf c k = false) : ag_set (hp z sl kd ln I R) a (c, ((List.range (ln a)).map (hv c (I a) (R a))).set k (.inl v)) = hp z sl kd ln (up2 I a k v) R := by
  unfold ag_set hp
  refine congrArg (fun q => ((z, sl, q) : ag_H)) ?_
  funext b
  show (if b = a then _ else _) = _
  by_cases e : b = a
  · subst e
    rw [if_pos rfl, hk, if_neg (by omega), hp_set_get]
    congr 3
    funext i
    unfold hv up2
    by_cases e2 : i = k
    · subst e2; rw [if_pos rfl, hr]; simp
    · rw [if_neg e2]; simp [e2]
  · rw [if_neg e]
    have e3 : up2 I a k v b = I b := by funext j; exact up2_na e
    rw [e3]
theorem hp_setR {v : Option Nat} (hk : kd a = c) (hc : c < 999) (hr : rf c k = true) : ag_set (hp z sl kd ln I R) a (c, ((List.range (ln a)).map (hv c (I a) (R a))).set k (.inr v)) = hp z sl kd ln I (up2 R a k v) := by
  unfold ag_set hp
  refine congrArg (fun q => ((z, sl, q) : ag_H)) ?_
  funext b
  show (if b = a then _ else _) = _
  by_cases e : b = a
  · subst e
    rw [if_pos rfl, hk, if_neg (by omega), hp_set_get]
    congr 3
    funext i
    unfold hv up2
    by_cases e2 : i = k
    · subst e2; rw [if_pos rfl, hr]; simp
    · rw [if_neg e2]; simp [e2]
  · rw [if_neg e]
    have e3 : up2 R a k v b = R b := by funext j; exact up2_na e
    rw [e3]
theorem x_at {K : Nat → List ag_V → ag_R} (hk : kd a = c) (hc : c < 999) : ag_at (hp z sl kd ln I R) (some a) c K = K a ((List.range (ln a)).map (hv c (I a) (R a))) := by
  unfold ag_at
  dsimp only
  rw [hp_at hk hc]
  exact if_pos rfl
theorem hp_get {n k : Nat} {f : Nat → ag_V} (h : k < n) : ((List.range n).map f)[k]? = some (f k) := by
  rw [List.getElem?_map, List.getElem?_range h]; rfl
theorem x_gI0 {K : Int32 → ag_R} (hk : kd a = c) (hc : c < 999) (hl : k < ln a) (hr : rf c k = false) : ag_gI (hp z sl kd ln I R) (some a) c k K = K (I a k) := by
  unfold ag_gI
  rw [x_at hk hc, hp_get hl]
  unfold hv
  rw [hr]; rfl
theorem x_gR0 {K : Option Nat → ag_R} (hk : kd a = c) (hc : c < 999) (hl : k < ln a) (hr : rf c k = true) : ag_gR (hp z sl kd ln I R) (some a) c k K = K (R a k) := by
  unfold ag_gR
  rw [x_at hk hc, hp_get hl]
  unfold hv
  rw [hr]; rfl
theorem x_pI0 {K : ag_H → ag_R} {v : Int32} (hk : kd a = c) (hc : c < 999) (hl : k < ln a) (hr : rf c k = false) : ag_pF (hp z sl kd ln I R) (some a) c k (.inl v) K = K (hp z sl kd ln (up2 I a k v) R) := by
  unfold ag_pF
  rw [x_at hk hc, List.length_map, List.length_range, if_pos hl, hp_setI hk hc hr]
theorem x_pR0 {K : ag_H → ag_R} {v : Option Nat} (hk : kd a = c) (hc : c < 999) (hl : k < ln a) (hr : rf c k = true) : ag_pF (hp z sl kd ln I R) (some a) c k (.inr v) K = K (hp z sl kd ln I (up2 R a k v)) := by
  unfold ag_pF
  rw [x_at hk hc, List.length_map, List.length_range, if_pos hl, hp_setR hk hc hr]
theorem x_xI0 {K : Int32 → ag_R} {j : Nat} (hk : kd a = c) (hc : c < 999) (hl : j < ln a) (hj : j < 2 ^ 31) (hr : rf c j = false) : ag_xI (hp z sl kd ln I R) (some a) c (nI j) K = K (I a j) := by
  unfold ag_xI
  rw [x_at hk hc, if_neg (nI_pos hj), nI_clamp hj, hp_get hl]
  unfold hv
  rw [hr]; rfl
theorem x_xR0 {K : Option Nat → ag_R} {j : Nat} (hk : kd a = c) (hc : c < 999) (hl : j < ln a) (hj : j < 2 ^ 31) (hr : rf c j = true) : ag_xR (hp z sl kd ln I R) (some a) c (nI j) K = K (R a j) := by
  unfold ag_xR
  rw [x_at hk hc, if_neg (nI_pos hj), nI_clamp hj, hp_get hl]
  unfold hv
  rw [hr]; rfl
theorem x_yI0 {K : ag_H → ag_R} {j : Nat} {v : Int32} (hk : kd a = c) (hc : c < 999) (hl : j < ln a) (hj : j < 2 ^ 31) (hr : rf c j = false) : ag_xP (hp z sl kd ln I R) (some a) c (nI j) (.inl v) K = K (hp z sl kd ln (up2 I a j v) R) := by
  unfold ag_xP
  rw [x_at hk hc, if_neg (nI_pos hj), nI_clamp hj, List.length_map, List.length_range, if_pos hl, hp_setI hk hc hr]
theorem x_yR0 {K : ag_H → ag_R} {j : Nat} {v : Option Nat} (hk : kd a = c) (hc : c < 999) (hl : j < ln a) (hj : j < 2 ^ 31) (hr : rf c j = true) : ag_xP (hp z sl kd ln I R) (some a) c (nI j) (.inr v) K = K (hp z sl kd ln I (up2 R a j v)) := by
  unfold ag_xP
  rw [x_at hk hc, if_neg (nI_pos hj), nI_clamp hj, List.length_map, List.length_range, if_pos hl, hp_setR hk hc hr]
theorem x_xN0 {K : Int32 → ag_R} (hk : kd a = c) (hc : c < 999) (hl : ln a < 100000) : ag_xN (hp z sl kd ln I R) (some a) c K = K (nI (ln a)) := by
  unfold ag_xN
  rw [x_at hk hc, List.length_map, List.length_range, if_pos hl]
/-- a new cell -/
theorem hp_new {n : Nat} {x : Nat → Int32} {r : Nat → Option Nat} {q : List ag_V} (hc : c < 999) (hq : q = (List.range n).map (hv c x r)) (m : Nat) : ag_new (hp z sl kd ln I R) m (c, q) = hp (z + 1) (sl + m) (up1 kd z c) (up1 ln z n) (up1 I z x) (up1 R z r) := by
  unfold ag_new hp
  refine congrArg (fun q => ((z + 1, sl + m, q) : ag_H)) ?_
  funext b
  show (if b = z then _ else _) = _
  by_cases e : b = z
  · subst e
    simp only [up1_eq]
    rw [if_pos trivial, if_neg (by omega), hq]
  · rw [if_neg e, up1_ne e, up1_ne e, up1_ne e, up1_ne e]
theorem x_thr : ag_thr (hp z sl kd ln I R) = hp (z + 1) (sl + 6) kd ln I R := rfl
end HP

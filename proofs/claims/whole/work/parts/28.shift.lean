/-! THE ABSTRACT MACHINE DOESN'T LOOK AT ADDRESSES: a run over a heap moved by o addresses and k slots is the run, moved -/
def sv (o : Nat) : ag_V → ag_V := Sum.map id (Option.map fun a => a + o)
def sq (o : Nat) (q : ag_C) : ag_C := (q.1, q.2.map (sv o))
def sH (o k : Nat) (h : ag_H) : ag_H := (h.1 + o, h.2.1 + k, fun a => if a < o then none else (h.2.2 (a - o)).map (sq o))
def sO (o : Nat) : ag_O → ag_O
  | .inl v => .inl (v.map (sv o))
  | .inr e => .inr e
def sR (o k : Nat) : ag_R → ag_R := Option.map fun r => (sO o r.1, sH o k r.2)
def sL (o : Nat) (L : ag_L) : ag_L := L.map (Option.map (sv o))
section SHIFT
variable {o k : Nat}
theorem sH_at (h : ag_H) (a : Nat) : (sH o k h).2.2 (a + o) = (h.2.2 a).map (sq o) := by
  show (if a + o < o then none else (h.2.2 (a + o - o)).map (sq o)) = _
  rw [if_neg (by omega), Nat.add_sub_cancel]
theorem sH_up (f : Nat → Option ag_C) (a : Nat) (q : ag_C) : ag_up (fun b => if b < o then none else (f (b - o)).map (sq o)) (a + o) (sq o q) = fun b => if b < o then none else (ag_up f a q (b - o)).map (sq o) := by
  funext b
  unfold ag_up
  by_cases h : b = a + o
  · rw [if_pos h, if_neg (by omega), if_pos (by omega)]; rfl
  · rw [if_neg h]
    dsimp only
    by_cases h2 : b < o
    · rw [if_pos h2, if_pos h2]
    · rw [if_neg h2, if_neg h2, if_neg (by omega)]
theorem sH_set (h : ag_H) (a : Nat) (q : ag_C) : ag_set (sH o k h) (a + o) (sq o q) = sH o k (ag_set h a q) := by
  show ((h.1 + o, h.2.1 + k, ag_up (fun b => if b < o then none else (h.2.2 (b - o)).map (sq o)) (a + o) (sq o q)) : ag_H) = _
  rw [sH_up]; rfl
theorem sH_new (h : ag_H) (n : Nat) (q : ag_C) : ag_new (sH o k h) n (sq o q) = sH o k (ag_new h n q) := by
  show ((h.1 + o + 1, h.2.1 + k + n, ag_up (fun b => if b < o then none else (h.2.2 (b - o)).map (sq o)) (h.1 + o) (sq o q)) : ag_H) = (h.1 + 1 + o, h.2.1 + n + k, _)
  rw [sH_up, Nat.add_right_comm, Nat.add_right_comm h.2.1]; rfl
theorem sH_thr (h : ag_H) : ag_thr (sH o k h) = sH o k (ag_thr h) := by
  show ((h.1 + o + 1, h.2.1 + k + 6, _) : ag_H) = (h.1 + 1 + o, h.2.1 + 6 + k, _)
  rw [Nat.add_right_comm, Nat.add_right_comm h.2.1]; rfl
theorem s_at {h : ag_H} {p : Option Nat} {c : Nat} {K' K : Nat → List ag_V → ag_R} (hK : ∀ a fs, K' (a + o) (fs.map (sv o)) = sR o k (K a fs)) : ag_at (sH o k h) (p.map fun a => a + o) c K' = sR o k (ag_at h p c K) := by
  cases p with
  | none => rfl
  | some a =>
    show (match (sH o k h).2.2 (a + o) with
      | none => none
      | some q => if q.1 = c then K' (a + o) q.2 else none) = sR o k (match h.2.2 a with
      | none => none
      | some q => if q.1 = c then K a q.2 else none)
    rw [sH_at]
    cases h.2.2 a with
    | none => rfl
    | some q =>
      show (if q.1 = c then K' (a + o) (q.2.map (sv o)) else none) = sR o k (if q.1 = c then K a q.2 else none)
      by_cases h9 : q.1 = c
      · rw [if_pos h9, if_pos h9]; exact hK _ _
      · rw [if_neg h9, if_neg h9]; rfl
theorem s_gI {h : ag_H} {p : Option Nat} {c j : Nat} {K' K : Int32 → ag_R} (hK : ∀ x, K' x = sR o k (K x)) : ag_gI (sH o k h) (p.map fun a => a + o) c j K' = sR o k (ag_gI h p c j K) := by
  refine s_at fun a fs => ?_
  rw [List.getElem?_map]
  cases fs[j]? with
  | none => rfl
  | some v => rcases v with x | x <;> first | exact hK _ | rfl
theorem s_gR {h : ag_H} {p : Option Nat} {c j : Nat} {K' K : Option Nat → ag_R} (hK : ∀ x : Option Nat, K' (x.map fun a => a + o) = sR o k (K x)) : ag_gR (sH o k h) (p.map fun a => a + o) c j K' = sR o k (ag_gR h p c j K) := by
  refine s_at fun a fs => ?_
  rw [List.getElem?_map]
  cases fs[j]? with
  | none => rfl
  | some v => rcases v with x | x <;> first | exact hK _ | rfl
theorem s_pF {h : ag_H} {p : Option Nat} {c j : Nat} {v : ag_V} {K' K : ag_H → ag_R} (hK : ∀ x, K' (sH o k x) = sR o k (K x)) : ag_pF (sH o k h) (p.map fun a => a + o) c j (sv o v) K' = sR o k (ag_pF h p c j v K) := by
  refine s_at fun a fs => ?_
  rw [List.length_map]
  by_cases h9 : j < fs.length
  · rw [if_pos h9, if_pos h9, ← List.map_set]
    exact (congrArg K' (sH_set h a (c, fs.set j v))).trans (hK _)
  · rw [if_neg h9, if_neg h9]; rfl
theorem s_xI {h : ag_H} {p : Option Nat} {t : Nat} {i : Int32} {K' K : Int32 → ag_R} (hK : ∀ x, K' x = sR o k (K x)) : ag_xI (sH o k h) (p.map fun a => a + o) t i K' = sR o k (ag_xI h p t i K) := by
  refine s_at fun a fs => ?_
  by_cases h9 : i < 0
  · rw [if_pos h9, if_pos h9]; rfl
  · rw [if_neg h9, if_neg h9, List.getElem?_map]
    cases fs[i.toNatClampNeg]? with
    | none => rfl
    | some v => rcases v with x | x <;> first | exact hK _ | rfl
theorem s_xR {h : ag_H} {p : Option Nat} {t : Nat} {i : Int32} {K' K : Option Nat → ag_R} (hK : ∀ x : Option Nat, K' (x.map fun a => a + o) = sR o k (K x)) : ag_xR (sH o k h) (p.map fun a => a + o) t i K' = sR o k (ag_xR h p t i K) := by
  refine s_at fun a fs => ?_
  by_cases h9 : i < 0
  · rw [if_pos h9, if_pos h9]; rfl
  · rw [if_neg h9, if_neg h9, List.getElem?_map]
    cases fs[i.toNatClampNeg]? with
    | none => rfl
    | some v => rcases v with x | x <;> first | exact hK _ | rfl
theorem s_xP {h : ag_H} {p : Option Nat} {t : Nat} {i : Int32} {v : ag_V} {K' K : ag_H → ag_R} (hK : ∀ x, K' (sH o k x) = sR o k (K x)) : ag_xP (sH o k h) (p.map fun a => a + o) t i (sv o v) K' = sR o k (ag_xP h p t i v K) := by
  refine s_at fun a fs => ?_
  by_cases h8 : i < 0
  · rw [if_pos h8, if_pos h8]; rfl
  rw [if_neg h8, if_neg h8, List.length_map]
  by_cases h9 : i.toNatClampNeg < fs.length
  · rw [if_pos h9, if_pos h9, ← List.map_set]
    exact (congrArg K' (sH_set h a (t, fs.set i.toNatClampNeg v))).trans (hK _)
  · rw [if_neg h9, if_neg h9]; rfl
theorem s_xN {h : ag_H} {p : Option Nat} {t : Nat} {K' K : Int32 → ag_R} (hK : ∀ x, K' x = sR o k (K x)) : ag_xN (sH o k h) (p.map fun a => a + o) t K' = sR o k (ag_xN h p t K) := by
  refine s_at fun a fs => ?_
  rw [List.length_map]
  by_cases h9 : fs.length < 100000
  · rw [if_pos h9, if_pos h9]; exact hK _
  · rw [if_neg h9, if_neg h9]; rfl
theorem s_oK {h : ag_H} {p : Option Nat} {c : Nat} {K' K : ag_R} (hK : K' = sR o k K) : ag_oK (sH o k h) (p.map fun a => a + o) c K' = sR o k (ag_oK h p c K) := by
  cases p with
  | none => exact hK
  | some a => exact s_at (p := some a) (K' := fun _ _ => K') (K := fun _ _ => K) fun _ _ => hK
theorem s_nn {p : Option Nat} {K' K : ag_R} (hK : K' = sR o k K) : ag_nn (p.map fun a => a + o) K' = sR o k (ag_nn p K) := by
  cases p with
  | none => rfl
  | some a => exact hK
theorem s_dv {y : Int32} {K' K : ag_R} (hK : K' = sR o k K) : ag_dv y K' = sR o k (ag_dv y K) := by
  unfold ag_dv
  split
  · rfl
  · exact hK
theorem s_isC {y : Int32} {K' K : ag_R} (hK : K' = sR o k K) : ag_isC y K' = sR o k (ag_isC y K) := by
  unfold ag_isC
  split
  · exact hK
  · rfl
theorem s_isB {y : Int32} {K' K : ag_R} (hK : K' = sR o k K) : ag_isB y K' = sR o k (ag_isB y K) := by
  unfold ag_isB
  split
  · exact hK
  · rfl
theorem s_na {h : ag_H} {n : Int32} {t : Nat} {v : ag_V} (hv : sv o v = v) {K' K : Option Nat → ag_H → ag_R} (hK : ∀ (p : Option Nat) x, K' (p.map fun a => a + o) (sH o k x) = sR o k (K p x)) : ag_na (sH o k h) n t v K' = sR o k (ag_na h n t v K) := by
  unfold ag_na
  by_cases h8 : n < 0
  · rw [if_pos h8, if_pos h8]; rfl
  rw [if_neg h8, if_neg h8]
  by_cases h9 : n.toNatClampNeg < 100000
  · rw [if_pos h9, if_pos h9]
    have e := sH_new (o := o) (k := k) h n.toNatClampNeg (t, List.replicate n.toNatClampNeg v)
    unfold sq at e
    rw [List.map_replicate, hv] at e
    rw [e]
    exact hK (some h.1) _
  · rw [if_neg h9, if_neg h9]; rfl
theorem s_fs (c : Nat) : (ag_fs c).map (sv o) = ag_fs c := by
  unfold ag_fs
  split
  · rw [List.map_map]
    apply List.map_congr_left
    intro j _
    have e : ∀ t : Option FieldType, sv o (match t with
      | some t => ag_df t
      | none => .inl 0) = match t with
      | some t => ag_df t
      | none => .inl 0 := by
      intro t
      cases t with
      | none => rfl
      | some t => cases t <;> rfl
    exact e _
  · rfl
theorem s_nw {h : ag_H} {c : Nat} {K' K : Option Nat → ag_H → ag_R} (hK : ∀ (p : Option Nat) x, K' (p.map fun a => a + o) (sH o k x) = sR o k (K p x)) : ag_nw (sH o k h) c K' = sR o k (ag_nw h c K) := by
  unfold ag_nw
  have e := sH_new (o := o) (k := k) h (ag_fs c).length (c, ag_fs c)
  unfold sq at e
  rw [s_fs] at e
  rw [e]
  exact hK (some h.1) _
theorem s_bI {r : ag_R} {K' K : Int32 → ag_H → ag_R} (hK : ∀ x h, K' x (sH o k h) = sR o k (K x h)) : ag_bI (sR o k r) K' = sR o k (ag_bI r K) := by
  rcases r with _ | ⟨(_ | (x | x)) | e, h⟩ <;> first | rfl | exact hK _ _
theorem s_bR {r : ag_R} {K' K : Option Nat → ag_H → ag_R} (hK : ∀ (x : Option Nat) h, K' (x.map fun a => a + o) (sH o k h) = sR o k (K x h)) : ag_bR (sR o k r) K' = sR o k (ag_bR r K) := by
  rcases r with _ | ⟨(_ | (x | x)) | e, h⟩ <;> first | rfl | exact hK _ _
theorem s_bV {r : ag_R} {K' K : ag_H → ag_R} (hK : ∀ h, K' (sH o k h) = sR o k (K h)) : ag_bV (sR o k r) K' = sR o k (ag_bV r K) := by
  rcases r with _ | ⟨(_ | (x | x)) | e, h⟩ <;> first | rfl | exact hK _
theorem s_bW {r : ag_R} {K' K : ag_H → ag_R} (hK : ∀ h, K' (sH o k h) = sR o k (K h)) : ag_bW (sR o k r) K' = sR o k (ag_bW r K) := by
  rcases r with _ | ⟨(_ | (x | x)) | e, h⟩ <;> first | rfl | exact hK _
theorem s_ldI {L : ag_L} {i : Nat} {K' K : Int32 → ag_R} (hK : ∀ x, K' x = sR o k (K x)) : ag_ldI (sL o L) i K' = sR o k (ag_ldI L i K) := by
  unfold ag_ldI sL
  rw [List.getElem?_map]
  rcases L[i]? with _ | _ | (x | x) <;> first | rfl | exact hK _
theorem s_ldR {L : ag_L} {i : Nat} {K' K : Option Nat → ag_R} (hK : ∀ x : Option Nat, K' (x.map fun a => a + o) = sR o k (K x)) : ag_ldR (sL o L) i K' = sR o k (ag_ldR L i K) := by
  unfold ag_ldR sL
  rw [List.getElem?_map]
  rcases L[i]? with _ | _ | (x | x) <;> first | rfl | exact hK _
theorem s_mask : ∀ (L : ag_L) (m : Nat), ag_mask m (sL o L) = sL o (ag_mask m L) := by
  intro L
  induction L with
  | nil => intro m; rfl
  | cons v L ih =>
    intro m
    show (bif Nat.beq (m % 2) 1 then v.map (sv o) else none) :: ag_mask (m / 2) (sL o L) = (bif Nat.beq (m % 2) 1 then v else none).map (sv o) :: sL o (ag_mask (m / 2) L)
    rw [ih]
    cases Nat.beq (m % 2) 1 <;> rfl
theorem s_br {c : ClassFile.Cond} {x y : Int32} {A A' B B' : ag_R} (hA : A' = sR o k A) (hB : B' = sR o k B) : ag_br c x y A' B' = sR o k (ag_br c x y A B) := by
  subst hA hB
  cases c <;> (unfold ag_br; dsimp only; split <;> rfl)
theorem s_sw {x : Int32} {lo : Int} {ts : List ag_R} {d : ag_R} : ag_sw x lo (ts.map (sR o k)) (sR o k d) = sR o k (ag_sw x lo ts d) := by
  unfold ag_sw
  split
  · rfl
  · rw [List.getElem?_map]
    cases ts[(x.toInt - lo).toNat]? <;> rfl
theorem s_has : ∀ (n : Nat) (S : List ag_V), ag_has n (S.map (sv o)) = ag_has n S := by
  intro n
  induction n with
  | zero => intro S; rfl
  | succ n ih =>
    intro S
    cases S with
    | nil => rfl
    | cons v S => exact ih S
theorem s_cl {x3 : Nat} {r : ag_R} {S : List ag_V} {K' K : List ag_V → ag_H → ag_R} (hK : ∀ S h, K' (S.map (sv o)) (sH o k h) = sR o k (K S h)) : ag_cl x3 (sR o k r) (S.map (sv o)) K' = sR o k (ag_cl x3 r S K) := by
  unfold ag_cl
  rw [← List.map_drop]
  cases S.drop 8 with
  | nil =>
    rcases x3 with _ | _ | n
    · exact s_bV fun h => hK _ _
    · exact s_bI fun x h => hK (.inl x :: S) h
    · exact s_bR fun x h => hK (.inr x :: S) h
  | cons v S9 => rfl
theorem s_rI {rt : Nat} {x : Int32} {h : ag_H} : ag_rI rt x (sH o k h) = sR o k (ag_rI rt x h) := by
  unfold ag_rI
  split
  · rfl
  · exact s_isC rfl
  · exact s_isB rfl
  · rfl
theorem s_getD (xs : List ag_V) (j : Nat) : (xs.map (sv o)).getD j (.inl 0) = sv o (xs.getD j (.inl 0)) := by
  rw [List.getD_eq_getElem?_getD, List.getD_eq_getElem?_getD, List.getElem?_map]
  cases xs[j]? <;> rfl
theorem s_ch (v : ag_V) : ag_ch (sv o v) = ag_ch v := by
  rcases v with x | x <;> rfl
theorem s_cp {h : ag_H} {s d : Option Nat} {sp dp n : Int32} {K' K : ag_H → ag_R} (hK : ∀ x, K' (sH o k x) = sR o k (K x)) : ag_cp (sH o k h) (s.map fun a => a + o) sp (d.map fun a => a + o) dp n K' = sR o k (ag_cp h s sp d dp n K) := by
  refine s_at fun a xs => s_at fun b ys => ?_
  by_cases h8 : sp < 0 ∨ dp < 0 ∨ n < 0
  · rw [if_pos h8, if_pos h8]; rfl
  rw [if_neg h8, if_neg h8, List.length_map, List.length_map]
  have e1 : (List.range n.toNatClampNeg).all (fun i => ag_ch ((xs.map (sv o)).getD (sp.toNatClampNeg + i) (.inl 0))) = (List.range n.toNatClampNeg).all (fun i => ag_ch (xs.getD (sp.toNatClampNeg + i) (.inl 0))) := by
    congr 1
    funext i
    rw [s_getD, s_ch]
  rw [e1]
  split
  · have e2 := sH_set (o := o) (k := k) h b (101, (List.range ys.length).map fun j => va_cpy (fun k => xs.getD k (.inl 0)) (fun k => ys.getD k (.inl 0)) sp.toNatClampNeg dp.toNatClampNeg n.toNatClampNeg j)
    have e3 : sq o (101, (List.range ys.length).map fun j => va_cpy (fun k => xs.getD k (.inl 0)) (fun k => ys.getD k (.inl 0)) sp.toNatClampNeg dp.toNatClampNeg n.toNatClampNeg j) = (101, (List.range ys.length).map fun j => va_cpy (fun k => (xs.map (sv o)).getD k (.inl 0)) (fun k => (ys.map (sv o)).getD k (.inl 0)) sp.toNatClampNeg dp.toNatClampNeg n.toNatClampNeg j) := by
      unfold sq
      rw [List.map_map]
      refine congrArg (Prod.mk 101) (List.map_congr_left fun j _ => ?_)
      show sv o (va_cpy _ _ _ _ _ j) = _
      unfold va_cpy
      split
      · exact (s_getD _ _).symm
      · exact (s_getD _ _).symm
    rw [e3] at e2
    rw [e2]
    exact hK _
  · rfl
end SHIFT
section SHIFTX
variable {o k : Nat}
theorem s_set (L : ag_L) (i : Nat) (v : ag_V) : (sL o L).set i (some (sv o v)) = sL o (L.set i (some v)) := by
  unfold sL
  rw [List.map_set]; rfl
set_option maxHeartbeats 4000000 in
theorem s_ex {rt : Nat} {call : Nat → List ag_V → ag_H → ag_R} (hcall : ∀ y A h, call y (A.map (sv o)) (sH o k h) = sR o k (call y A h)) {K' K : ag_K4} (hK : ∀ pc L S h, K' pc (sL o L) (S.map (sv o)) (sH o k h) = sR o k (K pc L S h)) (pc : Nat) (i : Instr) (nx x1 x2 x3 : Nat) (L : ag_L) (S : List ag_V) (h : ag_H) :
    ag_ex rt call pc i nx x1 x2 x3 (sL o L) (S.map (sv o)) (sH o k h) K' = sR o k (ag_ex rt call pc i nx x1 x2 x3 L S h K) := by
  cases i
  case aload_n n => exact s_ldR fun x => hK _ _ (.inr x :: S) _
  case aload n => exact s_ldR fun x => hK _ _ (.inr x :: S) _
  case iload_n n => exact s_ldI fun x => hK _ _ (.inl x :: S) _
  case iload n => exact s_ldI fun x => hK _ _ (.inl x :: S) _
  case astore_n n => rcases S with _ | ⟨x | x, S⟩ <;> first | rfl | (refine Eq.trans ?_ (hK _ _ _ _); rw [← s_set]; rfl)
  case astore n => rcases S with _ | ⟨x | x, S⟩ <;> first | rfl | (refine Eq.trans ?_ (hK _ _ _ _); rw [← s_set]; rfl)
  case istore_n n => rcases S with _ | ⟨x | x, S⟩ <;> first | rfl | (refine Eq.trans ?_ (hK _ _ _ _); rw [← s_set]; rfl)
  case istore n => rcases S with _ | ⟨x | x, S⟩ <;> first | rfl | (refine Eq.trans ?_ (hK _ _ _ _); rw [← s_set]; rfl)
  case iinc n d => exact s_ldI fun x => by refine Eq.trans ?_ (hK _ _ _ _); rw [← s_set]; rfl
  case iconst n => exact hK _ _ (.inl _ :: S) _
  case bipush n => exact hK _ _ (.inl _ :: S) _
  case sipush n => exact hK _ _ (.inl _ :: S) _
  case aconst_null => exact hK _ _ (.inr none :: S) _
  case dup => rcases S with _ | ⟨v, S⟩ <;> first | rfl | exact hK _ _ (v :: v :: S) _
  case dup2 => rcases S with _ | ⟨v, _ | ⟨w, S⟩⟩ <;> first | rfl | exact hK _ _ (v :: w :: v :: w :: S) _
  case pop => rcases S with _ | ⟨v, S⟩ <;> first | rfl | exact hK _ _ _ _
  case iadd => rcases S with _ | ⟨x | x, _ | ⟨y | y, S⟩⟩ <;> first | rfl | exact hK _ _ (.inl _ :: S) _
  case isub => rcases S with _ | ⟨x | x, _ | ⟨y | y, S⟩⟩ <;> first | rfl | exact hK _ _ (.inl _ :: S) _
  case imul => rcases S with _ | ⟨x | x, _ | ⟨y | y, S⟩⟩ <;> first | rfl | exact hK _ _ (.inl _ :: S) _
  case idiv => rcases S with _ | ⟨x | x, _ | ⟨y | y, S⟩⟩ <;> first | rfl | exact s_dv (hK _ _ (.inl _ :: S) _)
  case irem => rcases S with _ | ⟨x | x, _ | ⟨y | y, S⟩⟩ <;> first | rfl | exact s_dv (hK _ _ (.inl _ :: S) _)
  case iand => rcases S with _ | ⟨x | x, _ | ⟨y | y, S⟩⟩ <;> first | rfl | exact hK _ _ (.inl _ :: S) _
  case ior => rcases S with _ | ⟨x | x, _ | ⟨y | y, S⟩⟩ <;> first | rfl | exact hK _ _ (.inl _ :: S) _
  case ishl => rcases S with _ | ⟨x | x, _ | ⟨y | y, S⟩⟩ <;> first | rfl | exact hK _ _ (.inl _ :: S) _
  case iushr => rcases S with _ | ⟨x | x, _ | ⟨y | y, S⟩⟩ <;> first | rfl | exact hK _ _ (.inl _ :: S) _
  case i2c => rcases S with _ | ⟨x | x, S⟩ <;> first | rfl | exact hK _ _ (.inl _ :: S) _
  case goto d =>
    show K' x1 (bif Nat.beq x3 1 then ag_mask x2 (sL o L) else sL o L) (S.map (sv o)) (sH o k h) = sR o k (K x1 (bif Nat.beq x3 1 then ag_mask x2 L else L) S h)
    cases Nat.beq x3 1
    · exact hK _ _ _ _
    · rw [cond_true, cond_true, s_mask]; exact hK _ _ _ _
  case ifCond c d => rcases S with _ | ⟨x | x, S⟩ <;> first | rfl | exact s_br (hK _ _ _ _) (hK _ _ _ _)
  case if_icmp c d => rcases S with _ | ⟨x | x, _ | ⟨y | y, S⟩⟩ <;> first | rfl | exact s_br (hK _ _ _ _) (hK _ _ _ _)
  case ifnull d => rcases S with _ | ⟨x | (_ | x), S⟩ <;> first | rfl | exact hK _ _ _ _
  case ifnonnull d => rcases S with _ | ⟨x | (_ | x), S⟩ <;> first | rfl | exact hK _ _ _ _
  case getfield d =>
    rcases S with _ | ⟨x | x, S⟩
    · rfl
    · rfl
    · show (match (generalizing := false) x3 with
        | 0 => ag_gI (sH o k h) (x.map fun a => a + o) x1 x2 fun x => K' nx (sL o L) (.inl x :: S.map (sv o)) (sH o k h)
        | _ => ag_gR (sH o k h) (x.map fun a => a + o) x1 x2 fun x => K' nx (sL o L) (.inr x :: S.map (sv o)) (sH o k h)) = sR o k (match (generalizing := false) x3 with
        | 0 => ag_gI h x x1 x2 fun x => K nx L (.inl x :: S) h
        | _ => ag_gR h x x1 x2 fun x => K nx L (.inr x :: S) h)
      split
      · exact s_gI fun x => hK _ _ (.inl x :: S) _
      · exact s_gR fun x => hK _ _ (.inr x :: S) _
  case putfield d =>
    rcases S with _ | ⟨v | v, _ | ⟨x | x, S⟩⟩
    · rfl
    · rfl
    · rfl
    · show (match (generalizing := false) x3 with
        | 0 => ag_pF (sH o k h) (x.map fun a => a + o) x1 x2 (.inl v) fun h => K' nx (sL o L) (S.map (sv o)) h
        | 3 => ag_isC v (ag_pF (sH o k h) (x.map fun a => a + o) x1 x2 (.inl v) fun h => K' nx (sL o L) (S.map (sv o)) h)
        | 4 => ag_isB v (ag_pF (sH o k h) (x.map fun a => a + o) x1 x2 (.inl v) fun h => K' nx (sL o L) (S.map (sv o)) h)
        | _ => none) = sR o k (match (generalizing := false) x3 with
        | 0 => ag_pF h x x1 x2 (.inl v) fun h => K nx L S h
        | 3 => ag_isC v (ag_pF h x x1 x2 (.inl v) fun h => K nx L S h)
        | 4 => ag_isB v (ag_pF h x x1 x2 (.inl v) fun h => K nx L S h)
        | _ => none)
      split
      · exact s_pF (v := .inl v) fun h => hK _ _ _ _
      · exact s_isC (s_pF (v := .inl v) fun h => hK _ _ _ _)
      · exact s_isB (s_pF (v := .inl v) fun h => hK _ _ _ _)
      · rfl
    · rfl
    · rfl
    · show (match (generalizing := false) x3 with
        | 1 => ag_pF (sH o k h) (x.map fun a => a + o) x1 x2 (.inr (v.map fun a => a + o)) fun h => K' nx (sL o L) (S.map (sv o)) h
        | _ => none) = sR o k (match (generalizing := false) x3 with
        | 1 => ag_pF h x x1 x2 (.inr v) fun h => K nx L S h
        | _ => none)
      split
      · exact s_pF (v := .inr v) fun h => hK _ _ _ _
      · rfl
  case iaload => rcases S with _ | ⟨x | x, _ | ⟨y | y, S⟩⟩ <;> first | rfl | exact s_xI fun x => hK _ _ (.inl x :: S) _
  case caload => rcases S with _ | ⟨x | x, _ | ⟨y | y, S⟩⟩ <;> first | rfl | exact s_xI fun x => hK _ _ (.inl x :: S) _
  case baload => rcases S with _ | ⟨x | x, _ | ⟨y | y, S⟩⟩ <;> first | rfl | exact s_xI fun x => hK _ _ (.inl x :: S) _
  case aaload => rcases S with _ | ⟨x | x, _ | ⟨y | y, S⟩⟩ <;> first | rfl | exact s_xR fun x => hK _ _ (.inr x :: S) _
  case iastore => rcases S with _ | ⟨v | v, _ | ⟨x | x, _ | ⟨y | y, S⟩⟩⟩ <;> first | rfl | exact s_xP (v := .inl v) fun h => hK _ _ _ _
  case castore => rcases S with _ | ⟨v | v, _ | ⟨x | x, _ | ⟨y | y, S⟩⟩⟩ <;> first | rfl | exact s_isC (s_xP (v := .inl v) fun h => hK _ _ _ _)
  case bastore => rcases S with _ | ⟨v | v, _ | ⟨x | x, _ | ⟨y | y, S⟩⟩⟩ <;> first | rfl | exact s_isB (s_xP (v := .inl v) fun h => hK _ _ _ _)
  case aastore => rcases S with _ | ⟨v | v, _ | ⟨x | x, _ | ⟨y | y, S⟩⟩⟩ <;> first | rfl | exact s_oK (s_xP (v := .inr v) fun h => hK _ _ _ _)
  case arraylength => rcases S with _ | ⟨x | x, S⟩ <;> first | rfl | exact s_xN fun x => hK _ _ (.inl x :: S) _
  case newarray t => rcases S with _ | ⟨x | x, S⟩ <;> first | rfl | exact s_na (o := o) (k := k) (K' := fun p h => K' nx (sL o L) (.inr p :: S.map (sv o)) h) (K := fun p h => K nx L (.inr p :: S) h) rfl fun p h => hK _ _ (.inr p :: S) _
  case anewarray t => rcases S with _ | ⟨x | x, S⟩ <;> first | rfl | exact s_na (o := o) (k := k) (K' := fun p h => K' nx (sL o L) (.inr p :: S.map (sv o)) h) (K := fun p h => K nx L (.inr p :: S) h) rfl fun p h => hK _ _ (.inr p :: S) _
  case new d =>
    show (match (generalizing := false) x3 with
      | 9 => (match (generalizing := false) S.map (sv o) with
        | [] => some (.inr x1, ag_thr (sH o k h))
        | _ => none)
      | _ => ag_nw (sH o k h) x1 fun p h => K' nx (sL o L) (.inr p :: S.map (sv o)) h) = sR o k (match (generalizing := false) x3 with
      | 9 => (match (generalizing := false) S with
        | [] => some (.inr x1, ag_thr h)
        | _ => none)
      | _ => ag_nw h x1 fun p h => K nx L (.inr p :: S) h)
    split
    · cases S with
      | nil => rw [sH_thr]; rfl
      | cons v S => rfl
    · exact s_nw fun p h => hK _ _ (.inr p :: S) _
  case invokespecial d =>
    show (match (generalizing := false) x3 with
      | 9 => (match (generalizing := false) S.map (sv o) with
        | [.inr p] => ag_nn p (K' nx (sL o L) [] (sH o k h))
        | _ => none)
      | _ => (match (generalizing := false) (S.map (sv o)).drop x2 with
        | .inr p :: S' => ag_nn p (match (generalizing := false) S'.drop 8 with
          | [] => ag_bW (call x1 (.inr p :: ((S.map (sv o)).take x2).reverse) (sH o k h)) fun h => K' nx (sL o L) S' h
          | _ => none)
        | _ => none)) = sR o k (match (generalizing := false) x3 with
      | 9 => (match (generalizing := false) S with
        | [.inr p] => ag_nn p (K nx L [] h)
        | _ => none)
      | _ => (match (generalizing := false) S.drop x2 with
        | .inr p :: S' => ag_nn p (match (generalizing := false) S'.drop 8 with
          | [] => ag_bW (call x1 (.inr p :: (S.take x2).reverse) h) fun h => K nx L S' h
          | _ => none)
        | _ => none))
    split
    · rcases S with _ | ⟨x | x, _ | ⟨y, S⟩⟩ <;> first | rfl | exact s_nn (hK _ _ [] _)
    · rw [← List.map_drop, ← List.map_take, ← List.map_reverse]
      rcases S.drop x2 with _ | ⟨x | x, S'⟩
      · rfl
      · rfl
      · refine s_nn ?_
        rw [← List.map_drop]
        cases S'.drop 8 with
        | nil => exact (congrArg (fun z => ag_bW z _) (hcall x1 (.inr x :: (S.take x2).reverse) h)).trans (s_bW fun h => hK _ _ _ _)
        | cons v S9 => rfl
  case invokevirtual d =>
    show (match (generalizing := false) (S.map (sv o)).drop x2 with
      | .inr p :: S' => ag_at (sH o k h) p (x3 / 10) fun a _ => ag_cl (x3 % 10) (call x1 (.inr (some a) :: ((S.map (sv o)).take x2).reverse) (sH o k h)) S' fun S h => K' nx (sL o L) S h
      | _ => none) = sR o k (match (generalizing := false) S.drop x2 with
      | .inr p :: S' => ag_at h p (x3 / 10) fun a _ => ag_cl (x3 % 10) (call x1 (.inr (some a) :: (S.take x2).reverse) h) S' fun S h => K nx L S h
      | _ => none)
    rw [← List.map_drop, ← List.map_take, ← List.map_reverse]
    rcases S.drop x2 with _ | ⟨x | x, S'⟩
    · rfl
    · rfl
    · exact s_at fun a _ => (congrArg (fun z => ag_cl (x3 % 10) z _ _) (hcall x1 (.inr (some a) :: (S.take x2).reverse) h)).trans (s_cl fun S h => hK _ _ _ _)
  case tableswitch d lo hi offs =>
    rcases S with _ | ⟨x | x, S⟩
    · rfl
    · show ag_sw x lo (offs.toList.map fun q => K' ((pc : Int) + q).toNat (sL o L) (S.map (sv o)) (sH o k h)) (K' ((pc : Int) + d).toNat (sL o L) (S.map (sv o)) (sH o k h)) = sR o k (ag_sw x lo (offs.toList.map fun q => K ((pc : Int) + q).toNat L S h) (K ((pc : Int) + d).toNat L S h))
      rw [← s_sw, List.map_map, hK]
      congr 1
      apply List.map_congr_left
      intro q _
      exact hK _ _ _ _
    · rfl
  case invokestatic d =>
    show (match (generalizing := false) x3 with
      | 99 => (match (generalizing := false) S.map (sv o) with
        | [.inl n, .inl dp, .inr d, .inl sp, .inr s] => ag_cp (sH o k h) s sp d dp n fun h => K' nx (sL o L) [] h
        | _ => none)
      | _ => bif ag_has x2 (S.map (sv o)) then ag_cl (x3 % 10) (call x1 ((S.map (sv o)).take x2).reverse (sH o k h)) ((S.map (sv o)).drop x2) fun S h => K' nx (sL o L) S h else none) = sR o k (match (generalizing := false) x3 with
      | 99 => (match (generalizing := false) S with
        | [.inl n, .inl dp, .inr d, .inl sp, .inr s] => ag_cp h s sp d dp n fun h => K nx L [] h
        | _ => none)
      | _ => bif ag_has x2 S then ag_cl (x3 % 10) (call x1 (S.take x2).reverse h) (S.drop x2) fun S h => K nx L S h else none)
    split
    · rcases S with _ | ⟨a | a, _ | ⟨b | b, _ | ⟨c | c, _ | ⟨d | d, _ | ⟨e | e, _ | ⟨f, S⟩⟩⟩⟩⟩⟩ <;> first | rfl | exact s_cp fun h => hK _ _ [] _
    · rw [s_has, ← List.map_drop, ← List.map_take, ← List.map_reverse, hcall]
      cases ag_has x2 S
      · rfl
      · exact s_cl fun S h => hK _ _ _ _
  case ireturn => rcases S with _ | ⟨x | x, _ | ⟨y, S⟩⟩ <;> first | rfl | exact s_rI
  case areturn =>
    rcases S with _ | ⟨x | x, _ | ⟨y, S⟩⟩
    · rfl
    · rfl
    · rfl
    · show (bif Nat.beq rt 2 then some (.inl (some (.inr (x.map fun a => a + o))), sH o k h) else none) = sR o k (bif Nat.beq rt 2 then some (.inl (some (.inr x)), h) else none)
      cases Nat.beq rt 2 <;> rfl
    · rfl
  case return_ =>
    rcases S with _ | ⟨x, S⟩
    · show (bif Nat.beq rt 0 then some (.inl none, sH o k h) else none) = sR o k (bif Nat.beq rt 0 then some (.inl none, h) else none)
      cases Nat.beq rt 0 <;> rfl
    · rfl
  all_goals rfl
theorem s_in {rt : Nat} {call : Nat → List ag_V → ag_H → ag_R} (hcall : ∀ y A h, call y (A.map (sv o)) (sH o k h) = sR o k (call y A h)) {back : ag_K4} (hB : ∀ pc L S h, back pc (sL o L) (S.map (sv o)) (sH o k h) = sR o k (back pc L S h)) :
    ∀ (es : List ag_I) (pc : Nat) (L : ag_L) (S : List ag_V) (h : ag_H), ag_in rt call back es pc (sL o L) (S.map (sv o)) (sH o k h) = sR o k (ag_in rt call back es pc L S h) := by
  intro es
  induction es with
  | nil => intro pc L S h; rfl
  | cons e es ih =>
    intro pc L S h
    unfold ag_in
    cases Nat.beq e.1 pc
    · exact ih _ _ _ _
    · rw [cond_true, cond_true]
      refine s_ex hcall (fun pc' L' S' h' => ?_) _ _ _ _ _ _ _ _ _
      cases Nat.blt e.1 pc'
      · exact hB _ _ _ _
      · exact ih _ _ _ _
theorem s_out {rt : Nat} {call : Nat → List ag_V → ag_H → ag_R} (hcall : ∀ y A h, call y (A.map (sv o)) (sH o k h) = sR o k (call y A h)) (tab : List ag_I) :
    ∀ (n : Nat) (pc : Nat) (L : ag_L) (S : List ag_V) (h : ag_H), ag_out rt call tab n pc (sL o L) (S.map (sv o)) (sH o k h) = sR o k (ag_out rt call tab n pc L S h) := by
  intro n
  induction n with
  | zero => intro pc L S h; rfl
  | succ n ih => intro pc L S h; exact s_in hcall ih _ _ _ _ _
theorem s_run (T : ag_T) : ∀ (d y : Nat) (A : List ag_V) (h : ag_H), ag_run T d y (A.map (sv o)) (sH o k h) = sR o k (ag_run T d y A h) := by
  intro d
  induction d with
  | zero => intro y A h; rfl
  | succ d ih =>
    intro y A h
    have e := s_out (rt := (T y).2.1) (call := ag_run T d) ih (T y).2.2 4000 0 (A.map some ++ List.replicate ((T y).1 - A.length) none) [] h
    have e2 : sL o (A.map some ++ List.replicate ((T y).1 - A.length) none) = (A.map (sv o)).map some ++ List.replicate ((T y).1 - (A.map (sv o)).length) none := by
      unfold sL
      rw [List.map_append, List.map_replicate, List.length_map, List.map_map, List.map_map]
      rfl
    rw [e2] at e
    exact e
end SHIFTX

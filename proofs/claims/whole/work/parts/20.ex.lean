/-! THE STEP: every instruction of a checked table -/
theorem g_c0 {P : Prop} [Decidable P] {a b : Nat} {A : Bool} (h : ((decide P && Nat.beq a b) && A) = true) : P ∧ a = b ∧ A = true := by
  rw [Bool.and_eq_true, Bool.and_eq_true] at h
  exact ⟨of_decide_eq_true h.1.1, Nat.eq_of_beq_eq_true h.1.2, h.2⟩
theorem g_lt {a b : Nat} (h : Nat.blt a b = true) : a < b := by
  unfold Nat.blt at h
  exact Nat.le_of_ble_eq_true h
theorem g_le {a b : Nat} (h : Nat.ble a b = true) : a ≤ b := Nat.le_of_ble_eq_true h
theorem g_nrO (C : String) (v : Option Nat) : narrow (.object C) (ag_v (.inr v)) = ag_v (.inr v) ∧ fits (.object C) (ag_v (.inr v)) = true := by
  cases v <;> exact ⟨rfl, rfl⟩
theorem g_nrA (C : FieldType) (v : Option Nat) : narrow (.array C) (ag_v (.inr v)) = ag_v (.inr v) ∧ fits (.array C) (ag_v (.inr v)) = true := by
  cases v <;> exact ⟨rfl, rfl⟩
section EX
variable {p : Program} {l : Launch} {e : Env} {R : Room} {s : State} {m : MethodId} {args : Array Value} {below : List Frame} {meth : Method} {c : Code} {D : ag_D} {base : Nat → Prop} {y : Nat} {h0 : ag_H} {res : ag_O × ag_H} {pc nx x1 x2 x3 : Nat} {L : ag_L} {S S' : List ag_V} {h : ag_H} {K : ag_K4}
/-- what is known of the callees -/
def gCall (l : Launch) (D : ag_D) (base : Nat → Prop) (call : Nat → List ag_V → ag_H → ag_R) : Prop := ∀ (y : Nat) (A : List ag_V) (h : ag_H) (r : ag_O × ag_H), call y A h = some r → y < 175 → A.length ≤ (gT y).1 → gMet l D base y A h r ∧ h.1 ≤ r.2.1 ∧ h.2.1 ≤ r.2.2.1
/-- a throw: the row of exceptions, told apart -/
def gThr (p : Program) (l : Launch) (e : Env) (R : Room) (s : State) (m : MethodId) (args : Array Value) (below : List Frame) (meth : Method) (c : Code) (D : ag_D) (base : Nat → Prop) (y : Nat) (h0 : ag_H) (res : ag_O × ag_H) : Prop :=
  ∀ (pc idx nx x1 x2 : Nat) (L : ag_L) (h : ag_H), ag_chk y (pc, .new idx, nx, x1, x2, 9) = true → res = (.inr x1, ag_thr h) → gP p l e R s m args below meth c D base y h0 res pc L [] h
/-- System.arraycopy, told apart -/
def gCpy (p : Program) (l : Launch) (e : Env) (R : Room) (s : State) (m : MethodId) (args : Array Value) (below : List Frame) (meth : Method) (c : Code) (D : ag_D) (base : Nat → Prop) (y : Nat) (h0 : ag_H) (res : ag_O × ag_H) : Prop :=
  ∀ (pc idx nx x1 x2 : Nat) (L : ag_L) (S : List ag_V) (h : ag_H) (call : Nat → List ag_V → ag_H → ag_R) (K : ag_K4), ag_chk y (pc, .invokestatic idx, nx, x1, x2, 99) = true → gK p l e R s m args below meth c D base y h0 res K → ag_ex (gT y).2.1 call pc (.invokestatic idx) nx x1 x2 99 L S h K = some res → gP p l e R s m args below meth c D base y h0 res pc L S h
theorem g_has : ∀ (n : Nat) (S : List ag_V), ag_has n S = true → n ≤ S.length := by
  intro n
  induction n with
  | zero => intro S _; exact Nat.zero_le _
  | succ n ih =>
    intro S h
    cases S with
    | nil => cases h
    | cons v S => exact Nat.succ_le_succ (ih S h)
theorem g_drop8 {S : List ag_V} (h : S.drop 8 = []) : S.length ≤ 8 := by
  have := congrArg List.length h
  rw [List.length_drop] at this
  simp at this
  omega
theorem g_bI {r : ag_R} {K : Int32 → ag_H → ag_R} {z : ag_O × ag_H} (hr : ag_bI r K = some z) : ∃ r1, r = some r1 ∧ ((∃ x, r1.1 = .inl (some (.inl x)) ∧ K x r1.2 = some z) ∨ ∃ x, r1.1 = .inr x ∧ z = (.inr x, r1.2)) := by
  unfold ag_bI at hr
  split at hr
  · exact ⟨_, rfl, Or.inl ⟨_, rfl, hr⟩⟩
  · exact ⟨_, rfl, Or.inr ⟨_, rfl, by cases hr; rfl⟩⟩
  · cases hr
theorem g_bR {r : ag_R} {K : Option Nat → ag_H → ag_R} {z : ag_O × ag_H} (hr : ag_bR r K = some z) : ∃ r1, r = some r1 ∧ ((∃ x, r1.1 = .inl (some (.inr x)) ∧ K x r1.2 = some z) ∨ ∃ x, r1.1 = .inr x ∧ z = (.inr x, r1.2)) := by
  unfold ag_bR at hr
  split at hr
  · exact ⟨_, rfl, Or.inl ⟨_, rfl, hr⟩⟩
  · exact ⟨_, rfl, Or.inr ⟨_, rfl, by cases hr; rfl⟩⟩
  · cases hr
theorem g_bV {r : ag_R} {K : ag_H → ag_R} {z : ag_O × ag_H} (hr : ag_bV r K = some z) : ∃ r1, r = some r1 ∧ ((r1.1 = .inl none ∧ K r1.2 = some z) ∨ ∃ x, r1.1 = .inr x ∧ z = (.inr x, r1.2)) := by
  unfold ag_bV at hr
  split at hr
  · exact ⟨_, rfl, Or.inl ⟨rfl, hr⟩⟩
  · exact ⟨_, rfl, Or.inr ⟨_, rfl, by cases hr; rfl⟩⟩
  · cases hr
theorem g_bW {r : ag_R} {K : ag_H → ag_R} {z : ag_O × ag_H} (hr : ag_bW r K = some z) : ∃ h1, r = some (.inl none, h1) ∧ K h1 = some z := by
  unfold ag_bW at hr
  split at hr
  · exact ⟨_, rfl, hr⟩
  · cases hr
/-- a call's answer, whatever its kind -/
theorem g_cl {k : Nat} {r : ag_R} {K2 : List ag_V → ag_H → ag_R} (hr : ag_cl k r S' K2 = some res) : S'.length ≤ 8 ∧ ∃ r1, r = some r1 ∧ (∀ v, r1.1 = .inl v → K2 (v.toList ++ S') r1.2 = some res) ∧ (∀ x, r1.1 = .inr x → res = (.inr x, r1.2)) := by
  unfold ag_cl at hr
  split at hr
  · rename_i h8
    refine ⟨g_drop8 h8, ?_⟩
    split at hr
    · obtain ⟨r1, e1, ⟨g1, g2⟩ | ⟨x, g1, g2⟩⟩ := g_bV hr
      · exact ⟨r1, e1, (fun v hv => by rw [g1] at hv; cases hv; exact g2), (fun x hx => by rw [g1] at hx; cases hx)⟩
      · exact ⟨r1, e1, (fun v hv => by rw [g1] at hv; cases hv), (fun x' hx => by rw [g1] at hx; cases hx; exact g2)⟩
    · obtain ⟨r1, e1, ⟨x, g1, g2⟩ | ⟨x, g1, g2⟩⟩ := g_bI hr
      · exact ⟨r1, e1, (fun v hv => by rw [g1] at hv; cases hv; exact g2), (fun x hx => by rw [g1] at hx; cases hx)⟩
      · exact ⟨r1, e1, (fun v hv => by rw [g1] at hv; cases hv), (fun x' hx => by rw [g1] at hx; cases hx; exact g2)⟩
    · obtain ⟨r1, e1, ⟨x, g1, g2⟩ | ⟨x, g1, g2⟩⟩ := g_bR hr
      · exact ⟨r1, e1, (fun v hv => by rw [g1] at hv; cases hv; exact g2), (fun x hx => by rw [g1] at hx; cases hx)⟩
      · exact ⟨r1, e1, (fun v hv => by rw [g1] at hv; cases hv), (fun x' hx => by rw [g1] at hx; cases hx; exact g2)⟩
  · cases hr
/-- Math.max and Math.min, whose bytes the machine may answer for itself -/
def gMath (call : Nat → List ag_V → ag_H → ag_R) : Prop := ∀ (A : List ag_V) (h : ag_H) (r : ag_O × ag_H), A.length = 2 →
  (call 175 A h = some r → ∃ a b : Int32, A = [.inl a, .inl b] ∧ r = (.inl (some (.inl (if a < b then b else a))), h)) ∧
  (call 176 A h = some r → ∃ a b : Int32, A = [.inl a, .inl b] ∧ r = (.inl (some (.inl (if b < a then b else a))), h))
set_option maxRecDepth 100000 in
set_option maxHeartbeats 4000000 in
theorem gArgB : (List.range gY).all (fun y => match (parseMethodDescriptor (gN y).desc).map (fun d => d.parameters.length) with
  | some n => (!gIm.contains y || Nat.ble (n + 1) (gT y).1) && (!gSm.contains y || Nat.ble n (gT y).1)
  | none => true) = true := by decide +kernel
theorem gArg {y n : Nat} (hy : y < gY) (hn : (parseMethodDescriptor (gN y).desc).map (fun d => d.parameters.length) = some n) : (y ∈ gIm → n + 1 ≤ (gT y).1) ∧ (y ∈ gSm → n ≤ (gT y).1) := by
  have h1 := List.all_eq_true.mp gArgB y (List.mem_range.mpr hy)
  rw [hn] at h1
  simp only [Bool.and_eq_true, Bool.or_eq_true, Bool.not_eq_true'] at h1
  refine ⟨fun hm => ?_, fun hm => ?_⟩
  · rcases h1.1 with h2 | h2
    · rw [List.contains_iff_mem.mpr hm] at h2; cases h2
    · exact g_le h2
  · rcases h1.2 with h2 | h2
    · rw [List.contains_iff_mem.mpr hm] at h2; cases h2
    · exact g_le h2
theorem gIm_lt : ∀ y ∈ gIm, y < 175 := by decide +kernel
theorem g_math (X : gX y D base p l R s m args meth c) {idx : Nat} {a b : Int32} (hcR : h.1 ≤ R.cells + h0.1 ∧ h.2.1 ≤ R.slots + h0.2.1) (hml9 : (gCn y, idx, x1) ∈ gML) (hF1 : 1 ≤ gF y) (hL1 : 21 ≤ gLo y) (h8 : S'.length ≤ 8) (hd : decode (gB y) pc = .ok (.invokestatic idx, 3)) :
    (x1 = 175 → gP p l e R s m args below meth c D base y h0 res (pc + 3) L (.inl (if a < b then b else a) :: S') h → gP p l e R s m args below meth c D base y h0 res pc L (.inl b :: .inl a :: S') h) ∧
    (x1 = 176 → gP p l e R s m args below meth c D base y h0 res (pc + 3) L (.inl (if b < a then b else a) :: S') h → gP p l e R s m args below meth c D base y h0 res pc L (.inl b :: .inl a :: S') h) := by
  obtain ⟨hx, hb, hml, hown, hts, hW, hlk, hxt, hnm, hrt, htr, hF, hLo, hbs⟩ := X
  have e9 : ∀ zs : List ag_V, ((zs.map ag_v).map fun v => v.category).sum = zs.length := by
    intro zs
    induction zs with
    | nil => rfl
    | cons z zs ih => simp only [List.map_cons, List.sum_cons, ih, ag_cat, List.length_cons]; omega
  have hin : (Cond.initialized "java/lang/Math").before args s = true := hts _ (gIn_ok 12 (by decide))
  refine ⟨fun hx1 hk => ?_, fun hx1 hk => ?_⟩
  · subst hx1
    refine g_go1 (fun H ls locs cells slots hp k => ?_) hk
    have q4 := hp.2.2.2.1
    have q5 := hp.2.2.2.2
    exact va_mmax hx hb (by rw [hml]; exact hp.2.1.1.symm) hown (hts _ (gML_ok _ hml9)) (hts _ (gSm_ok 175 (by decide))) hin (hts _ (gCw_ok 175 (by decide))) (by rw [hF]; exact hF1) (by rw [e9, hLo]; omega) (by omega) (by omega) hd k
  · subst hx1
    refine g_go1 (fun H ls locs cells slots hp k => ?_) hk
    have q4 := hp.2.2.2.1
    have q5 := hp.2.2.2.2
    exact va_mmin hx hb (by rw [hml]; exact hp.2.1.1.symm) hown (hts _ (gML_ok _ hml9)) (hts _ (gSm_ok 176 (by decide))) hin (hts _ (gCw_ok 176 (by decide))) (by rw [hF]; exact hF1) (by rw [e9, hLo]; omega) (by omega) (by omega) hd k
set_option maxRecDepth 100000 in
set_option maxHeartbeats 4000000 in
theorem g_ex (X : gX y D base p l R s m args meth c) (hC : res.2.1 ≤ R.cells + h0.1) (hSl : res.2.2.1 ≤ R.slots + h0.2.1) {call : Nat → List ag_V → ag_H → ag_R} (hcall : gCall l D base call) (hmath : gMath call) (hth : gThr p l e R s m args below meth c D base y h0 res) (hcp : gCpy p l e R s m args below meth c D base y h0 res) (hK : gK p l e R s m args below meth c D base y h0 res K) {i : Instr} (hchk : ag_chk y (pc, i, nx, x1, x2, x3) = true)
    (hr : ag_ex (gT y).2.1 call pc i nx x1 x2 x3 L S h K = some res) : gP p l e R s m args below meth c D base y h0 res pc L S h := by
  have X0 := X
  obtain ⟨hx, hb, -⟩ := X
  cases i
  case aload_n n =>
    obtain ⟨hd, hnx, hA⟩ := g_c0 (P := decode (gB y) pc = .ok (.aload_n n, 1)) (a := nx) (b := pc + 1) (A := true) hchk
    subst hnx
    exact g_aload_n hx hb hK hd hr
  case aload n =>
    obtain ⟨hd, hnx, hA⟩ := g_c0 (P := decode (gB y) pc = .ok (.aload n, 2)) (a := nx) (b := pc + 2) (A := true) hchk
    subst hnx
    exact g_aload hx hb hK hd hr
  case iload_n n =>
    obtain ⟨hd, hnx, hA⟩ := g_c0 (P := decode (gB y) pc = .ok (.iload_n n, 1)) (a := nx) (b := pc + 1) (A := true) hchk
    subst hnx
    exact g_iload_n hx hb hK hd hr
  case iload n =>
    obtain ⟨hd, hnx, hA⟩ := g_c0 (P := decode (gB y) pc = .ok (.iload n, 2)) (a := nx) (b := pc + 2) (A := true) hchk
    subst hnx
    exact g_iload hx hb hK hd hr
  case astore_n n =>
    obtain ⟨hd, hnx, hA⟩ := g_c0 (P := decode (gB y) pc = .ok (.astore_n n, 1)) (a := nx) (b := pc + 1) (A := Nat.blt n.val (gT y).1) hchk
    subst hnx
    have hr : (match (generalizing := false) S with
      | .inr o :: S => K (pc + 1) (L.set n.val (some (.inr o))) S h
      | _ => none) = some res := hr
    split at hr
    · exact g_astore_n hx hb hK (g_lt hA) hd hr
    · cases hr
  case astore n =>
    obtain ⟨hd, hnx, hA⟩ := g_c0 (P := decode (gB y) pc = .ok (.astore n, 2)) (a := nx) (b := pc + 2) (A := Nat.blt n (gT y).1) hchk
    subst hnx
    have hr : (match (generalizing := false) S with
      | .inr o :: S => K (pc + 2) (L.set n (some (.inr o))) S h
      | _ => none) = some res := hr
    split at hr
    · exact g_astore hx hb hK (g_lt hA) hd hr
    · cases hr
  case istore_n n =>
    obtain ⟨hd, hnx, hA⟩ := g_c0 (P := decode (gB y) pc = .ok (.istore_n n, 1)) (a := nx) (b := pc + 1) (A := Nat.blt n.val (gT y).1) hchk
    subst hnx
    have hr : (match (generalizing := false) S with
      | .inl o :: S => K (pc + 1) (L.set n.val (some (.inl o))) S h
      | _ => none) = some res := hr
    split at hr
    · exact g_istore_n hx hb hK (g_lt hA) hd hr
    · cases hr
  case istore n =>
    obtain ⟨hd, hnx, hA⟩ := g_c0 (P := decode (gB y) pc = .ok (.istore n, 2)) (a := nx) (b := pc + 2) (A := Nat.blt n (gT y).1) hchk
    subst hnx
    have hr : (match (generalizing := false) S with
      | .inl o :: S => K (pc + 2) (L.set n (some (.inl o))) S h
      | _ => none) = some res := hr
    split at hr
    · exact g_istore hx hb hK (g_lt hA) hd hr
    · cases hr
  case iinc n d =>
    obtain ⟨hd, hnx, hA⟩ := g_c0 (P := decode (gB y) pc = .ok (.iinc n d, 3)) (a := nx) (b := pc + 3) (A := Nat.blt n (gT y).1) hchk
    subst hnx
    exact g_iinc hx hb hK (g_lt hA) hd hr
  case iconst n =>
    obtain ⟨hd, hnx, hA⟩ := g_c0 (P := decode (gB y) pc = .ok (.iconst n, 1)) (a := nx) (b := pc + 1) (A := true) hchk
    subst hnx
    exact (g_const hx hb hK).1 hd hr
  case bipush n =>
    obtain ⟨hd, hnx, hA⟩ := g_c0 (P := decode (gB y) pc = .ok (.bipush n, 2)) (a := nx) (b := pc + 2) (A := true) hchk
    subst hnx
    exact (g_const hx hb hK).2.1 hd hr
  case sipush n =>
    obtain ⟨hd, hnx, hA⟩ := g_c0 (P := decode (gB y) pc = .ok (.sipush n, 3)) (a := nx) (b := pc + 3) (A := true) hchk
    subst hnx
    exact (g_const hx hb hK).2.2 hd hr
  case aconst_null =>
    obtain ⟨hd, hnx, hA⟩ := g_c0 (P := decode (gB y) pc = .ok (.aconst_null, 1)) (a := nx) (b := pc + 1) (A := true) hchk
    subst hnx
    exact g_anull hx hb hK hd hr
  case dup =>
    obtain ⟨hd, hnx, hA⟩ := g_c0 (P := decode (gB y) pc = .ok (.dup, 1)) (a := nx) (b := pc + 1) (A := true) hchk
    subst hnx
    have hr : (match (generalizing := false) S with
      | v :: S => K (pc + 1) L (v :: v :: S) h
      | _ => none) = some res := hr
    split at hr
    · exact (g_misc (w := .inl 0) (x := 0) hx hb hK).1 hd hr
    · cases hr
  case dup2 =>
    obtain ⟨hd, hnx, hA⟩ := g_c0 (P := decode (gB y) pc = .ok (.dup2, 1)) (a := nx) (b := pc + 1) (A := true) hchk
    subst hnx
    have hr : (match (generalizing := false) S with
      | v :: w :: S => K (pc + 1) L (v :: w :: v :: w :: S) h
      | _ => none) = some res := hr
    split at hr
    · exact (g_misc (x := 0) hx hb hK).2.1 hd hr
    · cases hr
  case pop =>
    obtain ⟨hd, hnx, hA⟩ := g_c0 (P := decode (gB y) pc = .ok (.pop, 1)) (a := nx) (b := pc + 1) (A := true) hchk
    subst hnx
    have hr : (match (generalizing := false) S with
      | _ :: S => K (pc + 1) L S h
      | _ => none) = some res := hr
    split at hr
    · exact (g_misc (w := .inl 0) (x := 0) hx hb hK).2.2.1 hd hr
    · cases hr
  case i2c =>
    obtain ⟨hd, hnx, hA⟩ := g_c0 (P := decode (gB y) pc = .ok (.i2c, 1)) (a := nx) (b := pc + 1) (A := true) hchk
    subst hnx
    have hr : (match (generalizing := false) S with
      | .inl x :: S => K (pc + 1) L (.inl (x.toUInt32 % 65536).toInt32 :: S) h
      | _ => none) = some res := hr
    split at hr
    · exact (g_misc (v := .inl 0) (w := .inl 0) hx hb hK).2.2.2 hd hr
    · cases hr
  case iadd =>
    obtain ⟨hd, hnx, hA⟩ := g_c0 (P := decode (gB y) pc = .ok (.iadd, 1)) (a := nx) (b := pc + 1) (A := true) hchk
    subst hnx
    have hr : (match (generalizing := false) S with
      | .inl b :: .inl a :: S => K (pc + 1) L (.inl (a + b) :: S) h
      | _ => none) = some res := hr
    split at hr
    · exact (g_bin hx hb hK).1 hd hr
    · cases hr
  case isub =>
    obtain ⟨hd, hnx, hA⟩ := g_c0 (P := decode (gB y) pc = .ok (.isub, 1)) (a := nx) (b := pc + 1) (A := true) hchk
    subst hnx
    have hr : (match (generalizing := false) S with
      | .inl b :: .inl a :: S => K (pc + 1) L (.inl (a - b) :: S) h
      | _ => none) = some res := hr
    split at hr
    · exact (g_bin hx hb hK).2.1 hd hr
    · cases hr
  case imul =>
    obtain ⟨hd, hnx, hA⟩ := g_c0 (P := decode (gB y) pc = .ok (.imul, 1)) (a := nx) (b := pc + 1) (A := true) hchk
    subst hnx
    have hr : (match (generalizing := false) S with
      | .inl b :: .inl a :: S => K (pc + 1) L (.inl (a * b) :: S) h
      | _ => none) = some res := hr
    split at hr
    · exact (g_bin hx hb hK).2.2.1 hd hr
    · cases hr
  case iand =>
    obtain ⟨hd, hnx, hA⟩ := g_c0 (P := decode (gB y) pc = .ok (.iand, 1)) (a := nx) (b := pc + 1) (A := true) hchk
    subst hnx
    have hr : (match (generalizing := false) S with
      | .inl b :: .inl a :: S => K (pc + 1) L (.inl (a &&& b) :: S) h
      | _ => none) = some res := hr
    split at hr
    · exact (g_bin hx hb hK).2.2.2.1 hd hr
    · cases hr
  case ior =>
    obtain ⟨hd, hnx, hA⟩ := g_c0 (P := decode (gB y) pc = .ok (.ior, 1)) (a := nx) (b := pc + 1) (A := true) hchk
    subst hnx
    have hr : (match (generalizing := false) S with
      | .inl b :: .inl a :: S => K (pc + 1) L (.inl (a ||| b) :: S) h
      | _ => none) = some res := hr
    split at hr
    · exact (g_bin hx hb hK).2.2.2.2.1 hd hr
    · cases hr
  case ishl =>
    obtain ⟨hd, hnx, hA⟩ := g_c0 (P := decode (gB y) pc = .ok (.ishl, 1)) (a := nx) (b := pc + 1) (A := true) hchk
    subst hnx
    have hr : (match (generalizing := false) S with
      | .inl b :: .inl a :: S => K (pc + 1) L (.inl (a <<< (b &&& 31)) :: S) h
      | _ => none) = some res := hr
    split at hr
    · exact (g_bin hx hb hK).2.2.2.2.2.1 hd hr
    · cases hr
  case iushr =>
    obtain ⟨hd, hnx, hA⟩ := g_c0 (P := decode (gB y) pc = .ok (.iushr, 1)) (a := nx) (b := pc + 1) (A := true) hchk
    subst hnx
    have hr : (match (generalizing := false) S with
      | .inl b :: .inl a :: S => K (pc + 1) L (.inl ((a.toUInt32 >>> (b.toUInt32 &&& Int32.toUInt32 31)).toInt32) :: S) h
      | _ => none) = some res := hr
    split at hr
    · exact (g_bin hx hb hK).2.2.2.2.2.2.1 hd hr
    · cases hr
  case idiv =>
    obtain ⟨hd, hnx, hA⟩ := g_c0 (P := decode (gB y) pc = .ok (.idiv, 1)) (a := nx) (b := pc + 1) (A := true) hchk
    subst hnx
    have hr : (match (generalizing := false) S with
      | .inl b :: .inl a :: S => ag_dv b (K (pc + 1) L (.inl (a / b) :: S) h)
      | _ => none) = some res := hr
    split at hr
    · exact (g_bin hx hb hK).2.2.2.2.2.2.2.1 hd (g_dv hr).1 (g_dv hr).2
    · cases hr
  case irem =>
    obtain ⟨hd, hnx, hA⟩ := g_c0 (P := decode (gB y) pc = .ok (.irem, 1)) (a := nx) (b := pc + 1) (A := true) hchk
    subst hnx
    have hr : (match (generalizing := false) S with
      | .inl b :: .inl a :: S => ag_dv b (K (pc + 1) L (.inl (a - a / b * b) :: S) h)
      | _ => none) = some res := hr
    split at hr
    · exact (g_bin hx hb hK).2.2.2.2.2.2.2.2 hd (g_dv hr).1 (g_dv hr).2
    · cases hr
  case goto off =>
    obtain ⟨hd, hnx, hA⟩ := g_c0 (P := decode (gB y) pc = .ok (.goto off, 3)) (a := nx) (b := pc + 3) (A := decide ((pc : Int) + off = (x1 : Int))) hchk
    subst hnx
    exact g_goto (x2 := x2) (b := Nat.beq x3 1) hx hb hK (of_decide_eq_true hA) hd hr
  case ifCond cd off =>
    obtain ⟨hd, hnx, hA⟩ := g_c0 (P := decode (gB y) pc = .ok (.ifCond cd off, 3)) (a := nx) (b := pc + 3) (A := decide ((pc : Int) + off = (x1 : Int))) hchk
    subst hnx
    have hr : (match (generalizing := false) S with
      | .inl x :: S => ag_br cd x (ag_lit 0) (K x1 L S h) (K (pc + 3) L S h)
      | _ => none) = some res := hr
    split at hr
    · exact g_ifc hx hb hK (of_decide_eq_true hA) hd hr
    · cases hr
  case if_icmp cd off =>
    obtain ⟨hd, hnx, hA⟩ := g_c0 (P := decode (gB y) pc = .ok (.if_icmp cd off, 3)) (a := nx) (b := pc + 3) (A := decide ((pc : Int) + off = (x1 : Int))) hchk
    subst hnx
    have hr : (match (generalizing := false) S with
      | .inl b :: .inl a :: S => ag_br cd a b (K x1 L S h) (K (pc + 3) L S h)
      | _ => none) = some res := hr
    split at hr
    · exact g_icmp hx hb hK (of_decide_eq_true hA) hd hr
    · cases hr
  case ifnull off =>
    obtain ⟨hd, hnx, hA⟩ := g_c0 (P := decode (gB y) pc = .ok (.ifnull off, 3)) (a := nx) (b := pc + 3) (A := decide ((pc : Int) + off = (x1 : Int))) hchk
    subst hnx
    have hr : (match (generalizing := false) S with
      | .inr o :: S => if o = none then K x1 L S h else K (pc + 3) L S h
      | _ => none) = some res := hr
    split at hr
    · exact (g_null hx hb hK (of_decide_eq_true hA)).1 hd hr
    · cases hr
  case ifnonnull off =>
    obtain ⟨hd, hnx, hA⟩ := g_c0 (P := decode (gB y) pc = .ok (.ifnonnull off, 3)) (a := nx) (b := pc + 3) (A := decide ((pc : Int) + off = (x1 : Int))) hchk
    subst hnx
    have hr : (match (generalizing := false) S with
      | .inr o :: S => if o = none then K (pc + 3) L S h else K x1 L S h
      | _ => none) = some res := hr
    split at hr
    · exact (g_null hx hb hK (of_decide_eq_true hA)).2 hd hr
    · cases hr
  case getfield idx =>
    obtain ⟨hd, hnx, hA⟩ := g_c0 (P := decode (gB y) pc = .ok (.getfield idx, 3)) (a := nx) (b := pc + 3) (A := ((decide ((gCn y, idx, x1, x2) ∈ gFL) && Nat.blt x1 12) && Nat.blt x2 (gNf x1))) hchk
    subst hnx
    rw [Bool.and_eq_true, Bool.and_eq_true] at hA
    have c1 := of_decide_eq_true hA.1.1
    have c2 := g_lt hA.1.2
    have c3 := g_lt hA.2
    have hr : (match (generalizing := false) S with
      | .inr o :: S => (match (generalizing := false) x3 with
        | 0 => ag_gI h o x1 x2 fun x => K (pc + 3) L (.inl x :: S) h
        | _ => ag_gR h o x1 x2 fun x => K (pc + 3) L (.inr x :: S) h)
      | _ => none) = some res := hr
    split at hr
    · split at hr
      · obtain ⟨a, fs, x, rfl, g1, g2, g3⟩ := g_gI hr
        exact g_get X0 hK c1 c2 c3 g1 g2 hd g3
      · obtain ⟨a, fs, x, rfl, g1, g2, g3⟩ := g_gR hr
        exact g_get X0 hK c1 c2 c3 g1 g2 hd g3
    · cases hr
  case putfield idx =>
    obtain ⟨hd, hnx, hA⟩ := g_c0 (P := decode (gB y) pc = .ok (.putfield idx, 3)) (a := nx) (b := pc + 3) (A := ((((decide ((gCn y, idx, x1, x2) ∈ gFL) && Nat.blt x1 12) && Nat.blt x2 (gNf x1)) && (match (generalizing := false) gTy x1 x2 with
        | .int => Nat.beq x3 0
        | .char => Nat.beq x3 3
        | .boolean => Nat.beq x3 4
        | .object _ => Nat.beq x3 1
        | .array _ => Nat.beq x3 1
        | _ => false)) && (!(gTT x1 x2).2.2.2 || (decide ((gN y).name = "<init>") && decide ((gTT x1 x2).1 = gR (gCn y)))))) hchk
    subst hnx
    simp only [Bool.and_eq_true] at hA
    obtain ⟨⟨⟨⟨b1, b2⟩, b3⟩, b4⟩, b5⟩ := hA
    have c1 := of_decide_eq_true b1
    have c2 := g_lt b2
    have c3 := g_lt b3
    have c5 : (gTT x1 x2).2.2.2 = false ∨ ((gTT x1 x2).2.2.2 = true ∧ (gN y).name = "<init>" ∧ (gTT x1 x2).1 = gR (gCn y)) := by
      cases hf : (gTT x1 x2).2.2.2
      · exact Or.inl rfl
      · rw [hf] at b5
        simp at b5
        exact Or.inr ⟨rfl, b5⟩
    have hr : (match (generalizing := false) S with
      | .inl v :: .inr o :: S => (match (generalizing := false) x3 with
        | 0 => ag_pF h o x1 x2 (.inl v) fun h => K (pc + 3) L S h
        | 3 => ag_isC v (ag_pF h o x1 x2 (.inl v) fun h => K (pc + 3) L S h)
        | 4 => ag_isB v (ag_pF h o x1 x2 (.inl v) fun h => K (pc + 3) L S h)
        | _ => none)
      | .inr v :: .inr o :: S => (match (generalizing := false) x3 with
        | 1 => ag_pF h o x1 x2 (.inr v) fun h => K (pc + 3) L S h
        | _ => none)
      | _ => none) = some res := hr
    split at hr
    · rename_i v o S9
      split at hr
      · obtain ⟨a, fs, rfl, g1, g2, g3⟩ := g_pF hr
        refine g_put X0 hK c1 c2 c3 c5 ?_ g1 hd g3
        split at b4 <;> first | (rename_i ht9; rw [ht9]; exact ⟨rfl, rfl⟩) | cases b4
      · obtain ⟨gc, hr⟩ := g_isC hr
        obtain ⟨a, fs, rfl, g1, g2, g3⟩ := g_pF hr
        refine g_put X0 hK c1 c2 c3 c5 ?_ g1 hd g3
        split at b4 <;> first | (rename_i ht9; rw [ht9]; exact ag_char gc) | cases b4
      · obtain ⟨gc, hr⟩ := g_isB hr
        obtain ⟨a, fs, rfl, g1, g2, g3⟩ := g_pF hr
        refine g_put X0 hK c1 c2 c3 c5 ?_ g1 hd g3
        split at b4 <;> first | (rename_i ht9; rw [ht9]; exact ag_bool gc) | cases b4
      · cases hr
    · rename_i v o S9
      split at hr
      · obtain ⟨a, fs, rfl, g1, g2, g3⟩ := g_pF hr
        refine g_put X0 hK c1 c2 c3 c5 ?_ g1 hd g3
        split at b4 <;> first | (rename_i ht9; rw [ht9]; exact g_nrO _ _) | (rename_i ht9; rw [ht9]; exact g_nrA _ _) | cases b4
      · cases hr
    · cases hr
  case iaload =>
    obtain ⟨hd, hnx, hA⟩ := g_c0 (P := decode (gB y) pc = .ok (.iaload, 1)) (a := nx) (b := pc + 1) (A := true) hchk
    subst hnx
    have hr : (match (generalizing := false) S with
      | .inl i :: .inr o :: S => ag_xI h o 100 i fun x => K (pc + 1) L (.inl x :: S) h
      | _ => none) = some res := hr
    split at hr
    · obtain ⟨a, xs, x, rfl, g1, g2, g3, g4⟩ := g_xI hr
      exact (g_ald (x1 := 0) X0 hK g2 g3 g4).1 g1 hd
    · cases hr
  case caload =>
    obtain ⟨hd, hnx, hA⟩ := g_c0 (P := decode (gB y) pc = .ok (.caload, 1)) (a := nx) (b := pc + 1) (A := true) hchk
    subst hnx
    have hr : (match (generalizing := false) S with
      | .inl i :: .inr o :: S => ag_xI h o 101 i fun x => K (pc + 1) L (.inl x :: S) h
      | _ => none) = some res := hr
    split at hr
    · obtain ⟨a, xs, x, rfl, g1, g2, g3, g4⟩ := g_xI hr
      exact (g_ald (x1 := 0) X0 hK g2 g3 g4).2.1 g1 hd
    · cases hr
  case baload =>
    obtain ⟨hd, hnx, hA⟩ := g_c0 (P := decode (gB y) pc = .ok (.baload, 1)) (a := nx) (b := pc + 1) (A := true) hchk
    subst hnx
    have hr : (match (generalizing := false) S with
      | .inl i :: .inr o :: S => ag_xI h o 102 i fun x => K (pc + 1) L (.inl x :: S) h
      | _ => none) = some res := hr
    split at hr
    · obtain ⟨a, xs, x, rfl, g1, g2, g3, g4⟩ := g_xI hr
      exact (g_ald (x1 := 0) X0 hK g2 g3 g4).2.2.1 g1 hd
    · cases hr
  case aaload =>
    obtain ⟨hd, hnx, hA⟩ := g_c0 (P := decode (gB y) pc = .ok (.aaload, 1)) (a := nx) (b := pc + 1) (A := (Nat.ble 103 x1 && Nat.blt x1 109)) hchk
    subst hnx
    rw [Bool.and_eq_true] at hA
    have hr : (match (generalizing := false) S with
      | .inl i :: .inr o :: S => ag_xR h o x1 i fun x => K (pc + 1) L (.inr x :: S) h
      | _ => none) = some res := hr
    split at hr
    · obtain ⟨a, xs, x, rfl, g1, g2, g3, g4⟩ := g_xR hr
      exact (g_ald X0 hK g2 g3 g4).2.2.2 (g_le hA.1) g1 hd
    · cases hr
  case iastore =>
    obtain ⟨hd, hnx, hA⟩ := g_c0 (P := decode (gB y) pc = .ok (.iastore, 1)) (a := nx) (b := pc + 1) (A := true) hchk
    subst hnx
    have hr : (match (generalizing := false) S with
      | .inl v :: .inl i :: .inr o :: S => ag_xP h o 100 i (.inl v) fun h => K (pc + 1) L S h
      | _ => none) = some res := hr
    split at hr
    · obtain ⟨a, xs, rfl, g1, g2, g3, g4⟩ := g_xP hr
      exact (g_ast X0 hK g2 g3).1 g1 hd g4
    · cases hr
  case castore =>
    obtain ⟨hd, hnx, hA⟩ := g_c0 (P := decode (gB y) pc = .ok (.castore, 1)) (a := nx) (b := pc + 1) (A := true) hchk
    subst hnx
    have hr : (match (generalizing := false) S with
      | .inl v :: .inl i :: .inr o :: S => ag_isC v (ag_xP h o 101 i (.inl v) fun h => K (pc + 1) L S h)
      | _ => none) = some res := hr
    split at hr
    · obtain ⟨gc, hr⟩ := g_isC hr
      obtain ⟨a, xs, rfl, g1, g2, g3, g4⟩ := g_xP hr
      exact (g_ast X0 hK g2 g3).2.1 g1 hd gc g4
    · cases hr
  case bastore =>
    obtain ⟨hd, hnx, hA⟩ := g_c0 (P := decode (gB y) pc = .ok (.bastore, 1)) (a := nx) (b := pc + 1) (A := true) hchk
    subst hnx
    have hr : (match (generalizing := false) S with
      | .inl v :: .inl i :: .inr o :: S => ag_isB v (ag_xP h o 102 i (.inl v) fun h => K (pc + 1) L S h)
      | _ => none) = some res := hr
    split at hr
    · obtain ⟨gc, hr⟩ := g_isB hr
      obtain ⟨a, xs, rfl, g1, g2, g3, g4⟩ := g_xP hr
      exact (g_ast X0 hK g2 g3).2.2 g1 hd gc g4
    · cases hr
  case aastore =>
    obtain ⟨hd, hnx, hA⟩ := g_c0 (P := decode (gB y) pc = .ok (.aastore, 1)) (a := nx) (b := pc + 1) (A := (((Nat.ble 103 x1 && Nat.blt x1 109) && Nat.blt x2 12) && decide (ag_ct (x1 - 100) = .object (gR x2)))) hchk
    subst hnx
    simp only [Bool.and_eq_true] at hA
    have hr : (match (generalizing := false) S with
      | .inr v :: .inl i :: .inr o :: S => ag_oK h v x2 (ag_xP h o x1 i (.inr v) fun h => K (pc + 1) L S h)
      | _ => none) = some res := hr
    split at hr
    · obtain ⟨g0, hr⟩ := g_oK hr
      obtain ⟨a, xs, rfl, g1, g2, g3, g4⟩ := g_xP hr
      exact g_aast X0 hK g2 g3 (g_le hA.1.1.1) (g_lt hA.1.2) (of_decide_eq_true hA.2) g0 g1 hd g4
    · cases hr
  case arraylength =>
    obtain ⟨hd, hnx, hA⟩ := g_c0 (P := decode (gB y) pc = .ok (.arraylength, 1)) (a := nx) (b := pc + 1) (A := (Nat.ble 100 x1 && Nat.blt x1 109)) hchk
    subst hnx
    rw [Bool.and_eq_true] at hA
    have hr : (match (generalizing := false) S with
      | .inr o :: S => ag_xN h o x1 fun x => K (pc + 1) L (.inl x :: S) h
      | _ => none) = some res := hr
    split at hr
    · obtain ⟨a, xs, rfl, g1, g2, g3⟩ := g_xN hr
      exact g_alen X0 hK (g_le hA.1) g1 hd g3
    · cases hr
  case newarray at9 =>
    obtain ⟨hd, hnx, hA⟩ := g_c0 (P := decode (gB y) pc = .ok (.newarray at9, 2)) (a := nx) (b := pc + 2) (A := (Nat.beq x1 (100 + gArr at9) && Nat.blt (gArr at9) 3)) hchk
    subst hnx
    rw [Bool.and_eq_true] at hA
    have c1 := Nat.eq_of_beq_eq_true hA.1
    subst c1
    have hr : (match (generalizing := false) S with
      | .inl n :: S => ag_na h n (100 + gArr at9) (.inl 0) fun o h => K (pc + 2) L (.inr o :: S) h
      | _ => none) = some res := hr
    split at hr
    · obtain ⟨g1, g2, g3⟩ := g_na hr
      exact g_newa X0 hC hSl hK (g_lt hA.2) g1 g2 hd g3
    · cases hr
  case anewarray idx =>
    obtain ⟨hd, hnx, hA⟩ := g_c0 (P := decode (gB y) pc = .ok (.anewarray idx, 3)) (a := nx) (b := pc + 3) (A := ((Nat.ble 103 x1 && Nat.blt x1 109) && gCL.any (fun q => ((Nat.beq q.1 (gCn y) && Nat.beq q.2.1 idx) && decide (ag_ct (x1 - 100) = .object (gR q.2.2))) && decide (q.2.2 ∈ gAO)))) hchk
    subst hnx
    rw [Bool.and_eq_true, Bool.and_eq_true] at hA
    obtain ⟨q, hq1, hq2⟩ := List.any_eq_true.mp hA.2
    simp only [Bool.and_eq_true] at hq2
    obtain ⟨⟨⟨e1, e2⟩, e3⟩, e4⟩ := hq2
    have c1 := g_le hA.1.1
    obtain ⟨q1, q2, q3⟩ := q
    have e5 : q1 = gCn y := Nat.eq_of_beq_eq_true e1
    have e6 : q2 = idx := Nat.eq_of_beq_eq_true e2
    subst e6
    rw [e5] at hq1
    have hr : (match (generalizing := false) S with
      | .inl n :: S => ag_na h n x1 (.inr none) fun o h => K (pc + 3) L (.inr o :: S) h
      | _ => none) = some res := hr
    split at hr
    · obtain ⟨g1, g2, g3⟩ := g_na hr
      exact g_anew X0 hC hSl hK (by omega) (g_lt hA.1.2) hq1 (of_decide_eq_true e4) (of_decide_eq_true e3) g1 g2 hd g3
    · cases hr
  case new idx =>
    by_cases h9 : x3 = 9
    · subst h9
      have hr : (match (generalizing := false) S with
        | [] => some (.inr x1, ag_thr h)
        | _ => none) = some res := hr
      split at hr
      · exact hth pc idx nx x1 x2 L h hchk (by cases hr; rfl)
      · cases hr
    · have hA0 : ((decide (decode (gB y) pc = .ok (.new idx, 3)) && Nat.beq nx (pc + 3)) && (decide ((gCn y, idx, x1) ∈ gCL) && Nat.blt x1 12)) = true := by
        unfold ag_chk at hchk
        dsimp only at hchk
        split at hchk
        · exact absurd rfl h9
        · exact hchk
      obtain ⟨hd, hnx, hA⟩ := g_c0 hA0
      subst hnx
      rw [Bool.and_eq_true] at hA
      have hr : ag_nw h x1 (fun o h => K (pc + 3) L (.inr o :: S) h) = some res := by
        unfold ag_ex at hr
        dsimp only at hr
        split at hr
        · exact absurd rfl h9
        · exact hr
      exact g_new X0 hC hSl hK (g_lt hA.2) (of_decide_eq_true hA.1) hd hr
  case tableswitch d lo hi offs =>
    have hc : ((((match (generalizing := false) decode (gB y) pc with
      | .ok (j, _) => decide (j = .tableswitch d lo hi offs)
      | _ => false) && decide ((pc : Int) + d ≥ 0)) && offs.toList.all (fun o => decide ((pc : Int) + o ≥ 0))) && decide (lo + offs.size = hi + 1)) = true := hchk
    simp only [Bool.and_eq_true] at hc
    obtain ⟨⟨⟨c1, c2⟩, c3⟩, c4⟩ := hc
    have hr : (match (generalizing := false) S with
      | .inl x :: S => ag_sw x lo (offs.toList.map fun o => K ((pc : Int) + o).toNat L S h) (K ((pc : Int) + d).toNat L S h)
      | _ => none) = some res := hr
    split at c1
    · rename_i j len hj
      have c1 := of_decide_eq_true c1
      subst c1
      split at hr
      · exact g_switch X0 hK (of_decide_eq_true c2) (fun o ho => of_decide_eq_true (List.all_eq_true.mp c3 o ho)) (of_decide_eq_true c4) hj hr
      · cases hr
    · cases c1
  case ireturn =>
    obtain ⟨hd, hnx, hA⟩ := g_c0 (P := decode (gB y) pc = .ok (.ireturn, 1)) (a := nx) (b := pc + 1) (A := match (generalizing := false) (gT y).2.1 with
      | 1 => decide (gRt y = some .int)
      | 3 => decide (gRt y = some .char)
      | 4 => decide (gRt y = some .boolean)
      | _ => false) hchk
    have hr : (match (generalizing := false) S with
      | [.inl x] => ag_rI (gT y).2.1 x h
      | _ => none) = some res := hr
    split at hr
    · unfold ag_rI at hr
      split at hr
      · rename_i hk
        rw [hk] at hA
        exact g_iret X0 (by cases hr; rfl) hd ⟨_, of_decide_eq_true hA, rfl⟩
      · rename_i hk
        rw [hk] at hA
        obtain ⟨gc, hr⟩ := g_isC hr
        exact g_iret X0 (by cases hr; rfl) hd ⟨_, of_decide_eq_true hA, (ag_char gc).1⟩
      · rename_i hk
        rw [hk] at hA
        obtain ⟨gc, hr⟩ := g_isB hr
        exact g_iret X0 (by cases hr; rfl) hd ⟨_, of_decide_eq_true hA, (ag_bool gc).1⟩
      · cases hr
    · cases hr
  case areturn =>
    obtain ⟨hd, hnx, hA⟩ := g_c0 (P := decode (gB y) pc = .ok (.areturn, 1)) (a := nx) (b := pc + 1) (A := match (generalizing := false) gRt y with
      | some (.object _) => true
      | some (.array _) => true
      | _ => false) hchk
    have hr : (match (generalizing := false) S with
      | [.inr x] => bif Nat.beq (gT y).2.1 2 then some (.inl (some (.inr x)), h) else none
      | _ => none) = some res := hr
    split at hr
    · rename_i o hq9
      have hr : some ((.inl (some (.inr o)), h) : ag_O × ag_H) = some res := by
        cases hq : Nat.beq (gT y).2.1 2
        · rw [hq] at hr; cases hr
        · rw [hq] at hr; exact hr
      refine g_aret X0 (by cases hr; rfl) hd ?_
      split at hA
      · rename_i hk; exact ⟨_, hk, Or.inl ⟨_, rfl⟩⟩
      · rename_i hk; exact ⟨_, hk, Or.inr ⟨_, rfl⟩⟩
      · cases hA
    · cases hr
  case return_ =>
    obtain ⟨hd, hnx, hA⟩ := g_c0 (P := decode (gB y) pc = .ok (.return_, 1)) (a := nx) (b := pc + 1) (A := decide (gRt y = none)) hchk
    have hr : (match (generalizing := false) S with
      | [] => bif Nat.beq (gT y).2.1 0 then some (.inl none, h) else none
      | _ => none) = some res := hr
    split at hr
    · have hr : some ((.inl none, h) : ag_O × ag_H) = some res := by
        cases hq : Nat.beq (gT y).2.1 0
        · rw [hq] at hr; cases hr
        · rw [hq] at hr; exact hr
      exact g_vret X0 (by cases hr; rfl) hd (of_decide_eq_true hA)
    · cases hr
  case invokevirtual idx =>
    obtain ⟨hd, hnx, hA⟩ := g_c0 (P := decode (gB y) pc = .ok (.invokevirtual idx, 3)) (a := nx) (b := pc + 3) (A := (((((((Nat.blt x1 gY && Nat.beq (gCn x1) (x3 / 10)) && Nat.blt (x3 / 10) 12) && decide ((parseMethodDescriptor (gN x1).desc).map (fun d => d.parameters.length) = some x2)) && decide ((gCn y, idx, x1) ∈ gML)) && decide (x1 ∈ gIm)) && decide (x1 ∈ gVm)) && Nat.ble (gF x1 + 1) (gF y)) && Nat.ble (8 + ((gT x1).1 + 11) + gLo x1) (gLo y)) hchk
    subst hnx
    simp only [Bool.and_eq_true] at hA
    obtain ⟨⟨⟨⟨⟨⟨⟨⟨a1, a2⟩, a3⟩, a4⟩, a5⟩, a6⟩, a7⟩, a8⟩, a9⟩ := hA
    have hr : (match (generalizing := false) S.drop x2 with
      | .inr o :: S' => ag_at h o (x3 / 10) fun a _ => ag_cl (x3 % 10) (call x1 (.inr (some a) :: (S.take x2).reverse) h) S' fun S h => K (pc + 3) L S h
      | _ => none) = some res := hr
    split at hr
    · rename_i o S9 hdrop
      obtain ⟨a, fs, rfl, g1, g2⟩ := g_at hr
      obtain ⟨h8, r1, e1, hv, ht9⟩ := g_cl g2
      have hlen : ((S.take x2).reverse).length = x2 := by
        rw [List.length_reverse, List.length_take]
        have : x2 < S.length := by
          rcases Nat.lt_or_ge x2 S.length with q | q
          · exact q
          · rw [List.drop_eq_nil_of_le q] at hdrop; cases hdrop
        omega
      have hS : S = ((S.take x2).reverse).reverse ++ .inr (some a) :: S9 := by
        rw [List.reverse_reverse, ← hdrop, List.take_append_drop]
      obtain ⟨m1, m2⟩ := hcall _ _ _ _ e1 (gIm_lt _ (of_decide_eq_true a6)) (by rw [List.length_cons, hlen]; exact (gArg (g_lt a1) (of_decide_eq_true a4)).1 (of_decide_eq_true a6))
      exact g_virt X0 hC hSl m2 m1 (g_lt a1) (Nat.eq_of_beq_eq_true a2) (g_lt a3) (by rw [hlen]; exact of_decide_eq_true a4) (of_decide_eq_true a5) (of_decide_eq_true a6) (of_decide_eq_true a7) (g_le a8) (g_le a9) g1 hS h8 hd (fun v h9 => hK _ _ _ _ (hv v h9)) ht9
    · cases hr
  case invokestatic idx =>
    by_cases h9 : x3 = 99
    · subst h9
      exact hcp pc idx nx x1 x2 L S h call K hchk hK hr
    · have hA0 : ((decide (decode (gB y) pc = .ok (.invokestatic idx, 3)) && Nat.beq nx (pc + 3)) && ((((((Nat.blt x1 gY && decide ((parseMethodDescriptor (gN x1).desc).map (fun d => d.parameters.length) = some x2)) && decide ((gCn y, idx, x1) ∈ gML)) && decide (x1 ∈ gSm)) && Nat.blt (gCn x1) 13) && Nat.ble (gF x1 + 1) (gF y)) && Nat.ble (8 + ((gT x1).1 + 11) + gLo x1) (gLo y))) = true := by
        unfold ag_chk at hchk
        dsimp only at hchk
        split at hchk
        · exact absurd rfl h9
        · exact hchk
      obtain ⟨hd, hnx, hA⟩ := g_c0 hA0
      subst hnx
      simp only [Bool.and_eq_true] at hA
      obtain ⟨⟨⟨⟨⟨⟨a1, a4⟩, a5⟩, a6⟩, a7⟩, a8⟩, a9⟩ := hA
      have hr : (bif ag_has x2 S then ag_cl (x3 % 10) (call x1 (S.take x2).reverse h) (S.drop x2) (fun S h => K (pc + 3) L S h) else none) = some res := by
        unfold ag_ex at hr
        dsimp only at hr
        split at hr
        · exact absurd rfl h9
        · exact hr
      cases hhas : ag_has x2 S
      · rw [hhas] at hr; cases hr
      rw [hhas] at hr
      have hr : ag_cl (x3 % 10) (call x1 (S.take x2).reverse h) (S.drop x2) (fun S h => K (pc + 3) L S h) = some res := hr
      have hlt := g_has _ _ hhas
      obtain ⟨h8, r1, e1, hv, ht9⟩ := g_cl hr
      have hS : S = ((S.take x2).reverse).reverse ++ S.drop x2 := by
        rw [List.reverse_reverse, List.take_append_drop]
      have hlen : ((S.take x2).reverse).length = x2 := by
        rw [List.length_reverse, List.length_take]; omega
      by_cases h175 : x1 < 175
      case neg =>
        have hx177 : x1 < 177 := g_lt a1
        have hL1 := g_le a9
        have hF1 := g_le a8
        rcases (show x1 = 175 ∨ x1 = 176 by omega) with hx1 | hx1
        · subst hx1
          have h2 : x2 = 2 := by have := of_decide_eq_true a4; exact (Option.some.inj (this.symm.trans (by decide +kernel : _ = some 2)))
          obtain ⟨z1, z2, z3, z4⟩ := (hmath _ h r1 (by rw [hlen, h2])).1 e1
          have hk := hK _ _ _ _ (hv _ (by rw [z4]))
          rw [z3] at hS
          rw [z4] at hk
          rw [hS]
          exact (g_math X0 ⟨Nat.le_trans hk.2.1 hC, Nat.le_trans hk.2.2 hSl⟩ (of_decide_eq_true a5) (Nat.le_trans (by decide) hF1) (Nat.le_trans (by decide) hL1) h8 hd).1 rfl hk
        · subst hx1
          have h2 : x2 = 2 := by have := of_decide_eq_true a4; exact (Option.some.inj (this.symm.trans (by decide +kernel : _ = some 2)))
          obtain ⟨z1, z2, z3, z4⟩ := (hmath _ h r1 (by rw [hlen, h2])).2 e1
          have hk := hK _ _ _ _ (hv _ (by rw [z4]))
          rw [z3] at hS
          rw [z4] at hk
          rw [hS]
          exact (g_math X0 ⟨Nat.le_trans hk.2.1 hC, Nat.le_trans hk.2.2 hSl⟩ (of_decide_eq_true a5) (Nat.le_trans (by decide) hF1) (Nat.le_trans (by decide) hL1) h8 hd).2 rfl hk
      obtain ⟨m1, m2⟩ := hcall _ _ _ _ e1 h175 (by rw [hlen]; exact (gArg (g_lt a1) (of_decide_eq_true a4)).2 (of_decide_eq_true a6))
      exact g_stat X0 hC hSl m2 m1 (g_lt a1) (by rw [hlen]; exact of_decide_eq_true a4) (of_decide_eq_true a5) (of_decide_eq_true a6) (g_le a8) (g_le a9) hS h8 hd (fun v h9 => hK _ _ _ _ (hv v h9)) ht9
  case invokespecial idx =>
    by_cases h9 : x3 = 9
    · subst h9
      have hA0 : ((decide (decode (gB y) pc = .ok (.invokespecial idx, 3)) && Nat.beq nx (pc + 3)) && ((decide ((gCn y, idx) ∈ gOI) && Nat.ble 1 (gF y)) && Nat.ble 12 (gLo y))) = true := hchk
      obtain ⟨hd, hnx, hA⟩ := g_c0 hA0
      subst hnx
      simp only [Bool.and_eq_true] at hA
      have hr : (match (generalizing := false) S with
        | [.inr o] => ag_nn o (K (pc + 3) L [] h)
        | _ => none) = some res := hr
      split at hr
      · obtain ⟨⟨a, rfl⟩, hr⟩ := g_nn hr
        exact g_objInit X0 hK (of_decide_eq_true hA.1.1) (g_le hA.1.2) (g_le hA.2) hd hr
      · cases hr
    · have hA0 : ((decide (decode (gB y) pc = .ok (.invokespecial idx, 3)) && Nat.beq nx (pc + 3)) && ((((((((Nat.blt x1 gY && decide ((gN x1).name = "<init>")) && decide ((parseMethodDescriptor (gN x1).desc).map (fun d => d.parameters.length) = some x2)) && (decide ((gCn y, idx, x1) ∈ gML) || decide ((gCn y, idx, x1) ∈ gMN))) && decide (x1 ∈ gIm)) && decide (gCn x1 < 12)) && decide (gRt x1 = none)) && Nat.ble (gF x1 + 1) (gF y)) && Nat.ble (8 + ((gT x1).1 + 11) + gLo x1) (gLo y))) = true := by
        unfold ag_chk at hchk
        dsimp only at hchk
        split at hchk
        · exact absurd rfl h9
        · exact hchk
      obtain ⟨hd, hnx, hA⟩ := g_c0 hA0
      subst hnx
      simp only [Bool.and_eq_true] at hA
      obtain ⟨⟨⟨⟨⟨⟨⟨⟨a1, a2⟩, a3⟩, a4⟩, a5⟩, a6⟩, a7⟩, a8⟩, a9⟩ := hA
      have hr : (match (generalizing := false) S.drop x2 with
        | .inr o :: S' => ag_nn o (match (generalizing := false) S'.drop 8 with
          | [] => ag_bW (call x1 (.inr o :: (S.take x2).reverse) h) fun h => K (pc + 3) L S' h
          | _ => none)
        | _ => none) = some res := by
        unfold ag_ex at hr
        dsimp only at hr
        split at hr
        · exact absurd rfl h9
        · exact hr
      split at hr
      · rename_i o S9 hdrop
        obtain ⟨⟨a, rfl⟩, hr⟩ := g_nn hr
        split at hr
        · rename_i h8
          obtain ⟨h1, e1, g2⟩ := g_bW hr
          have hlen : ((S.take x2).reverse).length = x2 := by
            rw [List.length_reverse, List.length_take]
            have : x2 < S.length := by
              rcases Nat.lt_or_ge x2 S.length with q | q
              · exact q
              · rw [List.drop_eq_nil_of_le q] at hdrop; cases hdrop
            omega
          have hS : S = ((S.take x2).reverse).reverse ++ .inr (some a) :: S9 := by
            rw [List.reverse_reverse, ← hdrop, List.take_append_drop]
          rw [Bool.or_eq_true] at a4
          obtain ⟨m1, m2⟩ := hcall _ _ _ _ e1 (gIm_lt _ (of_decide_eq_true a5)) (by rw [List.length_cons, hlen]; exact (gArg (g_lt a1) (of_decide_eq_true a3)).1 (of_decide_eq_true a5))
          exact g_ctor X0 hC hSl m2 m1 (g_lt a1) (of_decide_eq_true a2) (by rw [hlen]; exact of_decide_eq_true a3) (a4.imp of_decide_eq_true of_decide_eq_true) (of_decide_eq_true a5) (of_decide_eq_true a7) (g_le a8) (g_le a9) hS (g_drop8 h8) hd (hK _ _ _ _ g2)
        · cases hr
      · cases hr
  all_goals (exact absurd hr (by intro h9; cases h9))
end EX

/-! ONE INSTRUCTION of the abstract machine is the machine's -/
def gX (y : Nat) (D : ag_D) (base : Nat → Prop) (p : Program) (l : Launch) (R : Room) (s : State) (m : MethodId) (args : Array Value) (meth : Method) (c : Code) : Prop :=
  p.tables.exec = Jvm.exec ∧ c.code = gB y ∧ c.maxLocals = (gT y).1 ∧ s.vm.findClass (gR (gCn y)) = some m.cls ∧ (∀ w ∈ gw, w.before args s = true) ∧ gW D base s ∧ meth.locks = false ∧ (∀ x ∈ c.exceptionTable.toList, False) ∧ meth.name = (gN y).name ∧ meth.sig.returnType = gRt y ∧ l.stackTraces = false ∧ R.frames = gF y ∧ R.locals = gLo y ∧ bo base s.heap.size
def gPt (D : ag_D) (base : Nat → Prop) (y : Nat) (s : State) (h0 h : ag_H) (L : ag_L) (H : Heap) (ls : Array Slot) (locs : List Loc) (cells slots : Nat) : Prop :=
  ag_rep D base h H ∧ lv_has ls (gT y).1 (ag_al 0 L) ∧ va_S base s.heap H locs ∧ cells + h0.1 = h.1 ∧ slots + h0.2.1 = h.2.1
def gP (p : Program) (l : Launch) (e : Env) (R : Room) (s : State) (m : MethodId) (args : Array Value) (below : List Frame) (meth : Method) (c : Code) (D : ag_D) (base : Nat → Prop) (y : Nat) (h0 : ag_H) (res : ag_O × ag_H) (pc : Nat) (L : ag_L) (S : List ag_V) (h : ag_H) : Prop :=
  (∀ (H : Heap) (ls : Array Slot) (locs : List Loc) (cells slots : Nat), gPt D base y s h0 h L H ls locs cells slots →
    W p l e R s m args below meth c H locs cells slots (vx_MQ below (gQc D base res) (gXC D base res) args s (res.2.1 - h0.1) (res.2.2.1 - h0.2.1) base) (F0 m pc ls (S.map ag_v))) ∧ h.1 ≤ res.2.1 ∧ h.2.1 ≤ res.2.2.1
section STEP
variable {p : Program} {l : Launch} {e : Env} {R : Room} {s : State} {m : MethodId} {args : Array Value} {below : List Frame} {meth : Method} {c : Code} {D : ag_D} {base : Nat → Prop} {y : Nat} {h0 : ag_H} {res : ag_O × ag_H} {pc nx : Nat} {L : ag_L} {S S' : List ag_V} {h : ag_H}
theorem g_go1 (hW : ∀ (H : Heap) (ls : Array Slot) (locs : List Loc) (cells slots : Nat), gPt D base y s h0 h L H ls locs cells slots → W p l e R s m args below meth c H locs cells slots (vx_MQ below (gQc D base res) (gXC D base res) args s (res.2.1 - h0.1) (res.2.2.1 - h0.2.1) base) (F0 m nx ls (S'.map ag_v)) → W p l e R s m args below meth c H locs cells slots (vx_MQ below (gQc D base res) (gXC D base res) args s (res.2.1 - h0.1) (res.2.2.1 - h0.2.1) base) (F0 m pc ls (S.map ag_v)))
    (hk : gP p l e R s m args below meth c D base y h0 res nx L S' h) : gP p l e R s m args below meth c D base y h0 res pc L S h :=
  ⟨fun H ls locs cells slots hp => hW _ _ _ _ _ hp (hk.1 _ _ _ _ _ hp), hk.2⟩
/-- a store into a local -/
theorem g_st {i : Nat} {v : ag_V} (hW : ∀ (H : Heap) (ls : Array Slot) (locs : List Loc) (cells slots : Nat), gPt D base y s h0 h L H ls locs cells slots → (∀ ls' : Array Slot, lv_has ls' (gT y).1 ((i, ag_v v) :: (ag_al 0 L).filter (fun q => !(q.1 == i) && !(q.1 + 1 == i && q.2.category == 2))) → W p l e R s m args below meth c H locs cells slots (vx_MQ below (gQc D base res) (gXC D base res) args s (res.2.1 - h0.1) (res.2.2.1 - h0.2.1) base) (F0 m nx ls' (S'.map ag_v))) → W p l e R s m args below meth c H locs cells slots (vx_MQ below (gQc D base res) (gXC D base res) args s (res.2.1 - h0.1) (res.2.2.1 - h0.2.1) base) (F0 m pc ls (S.map ag_v)))
    (hk : gP p l e R s m args below meth c D base y h0 res nx (L.set i (some v)) S' h) : gP p l e R s m args below meth c D base y h0 res pc L S h :=
  ⟨fun H ls locs cells slots hp => hW _ _ _ _ _ hp (fun ls' hl' => hk.1 _ _ _ _ _ ⟨hp.1, ag_has_set hl', hp.2.2.1, hp.2.2.2.1, hp.2.2.2.2⟩), hk.2⟩
theorem g_ldI {i : Nat} {K : Int32 → ag_R} {r : ag_O × ag_H} (hr : ag_ldI L i K = some r) : ∃ x, L[i]? = some (some (.inl x)) ∧ K x = some r := by
  unfold ag_ldI at hr
  split at hr
  · exact ⟨_, by assumption, hr⟩
  · cases hr
theorem g_ldR {i : Nat} {K : Option Nat → ag_R} {r : ag_O × ag_H} (hr : ag_ldR L i K = some r) : ∃ x, L[i]? = some (some (.inr x)) ∧ K x = some r := by
  unfold ag_ldR at hr
  split at hr
  · exact ⟨_, by assumption, hr⟩
  · cases hr
theorem g_at {o : Option Nat} {k : Nat} {K : Nat → List ag_V → ag_R} {r : ag_O × ag_H} (hr : ag_at h o k K = some r) : ∃ a fs, o = some a ∧ h.2.2 a = some (k, fs) ∧ K a fs = some r := by
  unfold ag_at at hr
  split at hr
  · cases hr
  · rename_i a
    split at hr
    · cases hr
    · rename_i q hq
      split at hr
      · rename_i hk
        exact ⟨a, q.2, rfl, by rw [hq, ← hk], hr⟩
      · cases hr
theorem g_gI {o : Option Nat} {ci k : Nat} {K : Int32 → ag_R} {r : ag_O × ag_H} (hr : ag_gI h o ci k K = some r) : ∃ a fs x, o = some a ∧ h.2.2 a = some (ci, fs) ∧ fs[k]? = some (.inl x) ∧ K x = some r := by
  obtain ⟨a, fs, h1, h2, h3⟩ := g_at hr
  split at h3
  · exact ⟨a, fs, _, h1, h2, by assumption, h3⟩
  · cases h3
theorem g_gR {o : Option Nat} {ci k : Nat} {K : Option Nat → ag_R} {r : ag_O × ag_H} (hr : ag_gR h o ci k K = some r) : ∃ a fs x, o = some a ∧ h.2.2 a = some (ci, fs) ∧ fs[k]? = some (.inr x) ∧ K x = some r := by
  obtain ⟨a, fs, h1, h2, h3⟩ := g_at hr
  split at h3
  · exact ⟨a, fs, _, h1, h2, by assumption, h3⟩
  · cases h3
theorem g_pF {o : Option Nat} {ci k : Nat} {v : ag_V} {K : ag_H → ag_R} {r : ag_O × ag_H} (hr : ag_pF h o ci k v K = some r) : ∃ a fs, o = some a ∧ h.2.2 a = some (ci, fs) ∧ k < fs.length ∧ K (ag_set h a (ci, fs.set k v)) = some r := by
  obtain ⟨a, fs, h1, h2, h3⟩ := g_at hr
  split at h3
  · exact ⟨a, fs, h1, h2, by assumption, h3⟩
  · cases h3
theorem g_xI {o : Option Nat} {t : Nat} {i : Int32} {K : Int32 → ag_R} {r : ag_O × ag_H} (hr : ag_xI h o t i K = some r) : ∃ a xs x, o = some a ∧ h.2.2 a = some (t, xs) ∧ ¬ i < 0 ∧ xs[i.toNatClampNeg]? = some (.inl x) ∧ K x = some r := by
  obtain ⟨a, fs, h1, h2, h3⟩ := g_at hr
  split at h3
  · cases h3
  · split at h3
    · exact ⟨a, fs, _, h1, h2, by assumption, by assumption, h3⟩
    · cases h3
theorem g_xR {o : Option Nat} {t : Nat} {i : Int32} {K : Option Nat → ag_R} {r : ag_O × ag_H} (hr : ag_xR h o t i K = some r) : ∃ a xs x, o = some a ∧ h.2.2 a = some (t, xs) ∧ ¬ i < 0 ∧ xs[i.toNatClampNeg]? = some (.inr x) ∧ K x = some r := by
  obtain ⟨a, fs, h1, h2, h3⟩ := g_at hr
  split at h3
  · cases h3
  · split at h3
    · exact ⟨a, fs, _, h1, h2, by assumption, by assumption, h3⟩
    · cases h3
theorem g_xP {o : Option Nat} {t : Nat} {i : Int32} {v : ag_V} {K : ag_H → ag_R} {r : ag_O × ag_H} (hr : ag_xP h o t i v K = some r) : ∃ a xs, o = some a ∧ h.2.2 a = some (t, xs) ∧ ¬ i < 0 ∧ i.toNatClampNeg < xs.length ∧ K (ag_set h a (t, xs.set i.toNatClampNeg v)) = some r := by
  obtain ⟨a, fs, h1, h2, h3⟩ := g_at hr
  split at h3
  · cases h3
  · split at h3
    · exact ⟨a, fs, h1, h2, by assumption, by assumption, h3⟩
    · cases h3
theorem g_xN {o : Option Nat} {t : Nat} {K : Int32 → ag_R} {r : ag_O × ag_H} (hr : ag_xN h o t K = some r) : ∃ a xs, o = some a ∧ h.2.2 a = some (t, xs) ∧ xs.length < 100000 ∧ K (nI xs.length) = some r := by
  obtain ⟨a, fs, h1, h2, h3⟩ := g_at hr
  split at h3
  · exact ⟨a, fs, h1, h2, by assumption, h3⟩
  · cases h3
theorem g_oK {o : Option Nat} {ci : Nat} {K : ag_R} {r : ag_O × ag_H} (hr : ag_oK h o ci K = some r) : (∀ b, o = some b → ∃ fs, h.2.2 b = some (ci, fs)) ∧ K = some r := by
  unfold ag_oK at hr
  split at hr
  · exact ⟨fun b hb => (by cases hb), hr⟩
  · obtain ⟨a, fs, h1, h2, h3⟩ := g_at hr
    exact ⟨fun b hb => (by cases h1; cases hb; exact ⟨fs, h2⟩), h3⟩
theorem g_isC {x : Int32} {K : ag_R} {r : ag_O × ag_H} (hr : ag_isC x K = some r) : (0 ≤ x ∧ x < 65536) ∧ K = some r := by
  unfold ag_isC at hr
  split at hr
  · exact ⟨by assumption, hr⟩
  · cases hr
theorem g_isB {x : Int32} {K : ag_R} {r : ag_O × ag_H} (hr : ag_isB x K = some r) : (x = 0 ∨ x = 1) ∧ K = some r := by
  unfold ag_isB at hr
  split at hr
  · exact ⟨by assumption, hr⟩
  · cases hr
theorem g_nn {o : Option Nat} {K : ag_R} {r : ag_O × ag_H} (hr : ag_nn o K = some r) : (∃ a, o = some a) ∧ K = some r := by
  unfold ag_nn at hr
  split at hr
  · cases hr
  · exact ⟨⟨_, rfl⟩, hr⟩
theorem g_dv {x : Int32} {K : ag_R} {r : ag_O × ag_H} (hr : ag_dv x K = some r) : ¬ x = 0 ∧ K = some r := by
  unfold ag_dv at hr
  split at hr
  · cases hr
  · exact ⟨by assumption, hr⟩
theorem g_na {n : Int32} {t : Nat} {v : ag_V} {K : Option Nat → ag_H → ag_R} {r : ag_O × ag_H} (hr : ag_na h n t v K = some r) : ¬ n < 0 ∧ n.toNatClampNeg < 100000 ∧ K (some h.1) (ag_new h n.toNatClampNeg (t, List.replicate n.toNatClampNeg v)) = some r := by
  unfold ag_na at hr
  split at hr
  · cases hr
  · split at hr
    · exact ⟨by assumption, by assumption, hr⟩
    · cases hr
end STEP

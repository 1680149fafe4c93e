/-! THE RUN OF A METHOD's TABLE IS THE MACHINE's -/
section RUN
variable {p : Program} {l : Launch} {e : Env} {R : Room} {s : State} {m : MethodId} {args : Array Value} {below : List Frame} {meth : Method} {c : Code} {D : ag_D} {base : Nat → Prop} {y : Nat} {h0 : ag_H} {res : ag_O × ag_H}
theorem g_in (X : gX y D base p l R s m args meth c) (hC : res.2.1 ≤ R.cells + h0.1) (hSl : res.2.2.1 ≤ R.slots + h0.2.1) {call : Nat → List ag_V → ag_H → ag_R} (hcall : gCall l D base call) (hmath : gMath call) (hcp : gCpy p l e R s m args below meth c D base y h0 res) {back : ag_K4} (hback : gK p l e R s m args below meth c D base y h0 res back) :
    ∀ es : List ag_I, es.all (ag_chk y) = true → gK p l e R s m args below meth c D base y h0 res (ag_in (gT y).2.1 call back es) := by
  intro es
  induction es with
  | nil => intro _ pc L S h hr; cases hr
  | cons e9 es ih =>
    intro hall pc L S h hr
    rw [List.all_cons, Bool.and_eq_true] at hall
    have hr2 : (bif Nat.beq e9.1 pc then ag_ex (gT y).2.1 call e9.1 e9.2.1 e9.2.2.1 e9.2.2.2.1 e9.2.2.2.2.1 e9.2.2.2.2.2 L S h (fun pc' L' S' h' => bif Nat.blt e9.1 pc' then ag_in (gT y).2.1 call back es pc' L' S' h' else back pc' L' S' h') else ag_in (gT y).2.1 call back es pc L S h) = some res := hr
    cases hq : Nat.beq e9.1 pc
    · rw [hq] at hr2; exact ih hall.2 _ _ _ _ hr2
    · rw [hq, cond_true] at hr2
      have e1 := Nat.eq_of_beq_eq_true hq
      subst e1
      refine g_ex X hC hSl hcall hmath (g_thr X hC hSl) hcp (fun pc' L' S' h' hk => ?_) hall.1 hr2
      cases hz : Nat.blt e9.1 pc'
      · rw [hz] at hk; exact hback _ _ _ _ hk
      · rw [hz] at hk; exact ih hall.2 _ _ _ _ hk
theorem g_out (X : gX y D base p l R s m args meth c) (hall : ag_all y = true) (hC : res.2.1 ≤ R.cells + h0.1) (hSl : res.2.2.1 ≤ R.slots + h0.2.1) {call : Nat → List ag_V → ag_H → ag_R} (hcall : gCall l D base call) (hmath : gMath call) (hcp : gCpy p l e R s m args below meth c D base y h0 res) :
    ∀ n : Nat, gK p l e R s m args below meth c D base y h0 res (ag_out (gT y).2.1 call (gT y).2.2 n) := by
  intro n
  induction n with
  | zero => intro pc L S h hr; cases hr
  | succ n ih => exact g_in X hC hSl hcall hmath hcp ih _ hall
end RUN
/-- arraycopy of every walk, told apart -/
def gCp (l : Launch) : Prop := ∀ (p : Program) (e : Env) (R : Room) (s : State) (m : MethodId) (args : Array Value) (below : List Frame) (meth : Method) (c : Code) (D : ag_D) (base : Nat → Prop) (y : Nat) (h0 : ag_H) (res : ag_O × ag_H), y < 175 → gX y D base p l R s m args meth c → gCpy p l e R s m args below meth c D base y h0 res
theorem g_body {l : Launch} {D : ag_D} {base : Nat → Prop} {y : Nat} {A : List ag_V} {h : ag_H} {r : ag_O × ag_H} {call : Nat → List ag_V → ag_H → ag_R} (htr : l.stackTraces = false) (hcp : gCp l) (hy : y < 175) (hpn : plainName (gN y).cls = true) (hall : ag_all y = true) (hA : A.length ≤ (gT y).1) (hcall : gCall l D base call) (hmath : gMath call)
    (hr : ag_out (gT y).2.1 call (gT y).2.2 4000 0 (A.map some ++ List.replicate ((gT y).1 - A.length) none) [] h = some r) : gMet l D base y A h r := by
  have hgy : y < gY := Nat.lt_trans hy (by decide)
  refine vx_ofW (cc := gB y) (maxL := (gT y).1) (ret := gRt y) hpn rfl ?_
  intro p e s m args below meth c s₁ B hml ht hv
  obtain ⟨hargs, hrep, hW, hbs⟩ := hv
  subst hargs
  have hts := atoms_spec (ws := gCw y :: gw) B.pre
  have hX : gX y D base p l (gRm y h r) s m (A.map ag_v).toArray meth c :=
    ⟨B.exec, B.bytes, hml, by rw [← (gNc y hgy).1]; exact findClass_of_methodNamed B.named, fun w hw => hts w (List.mem_cons_of_mem _ hw), hW, B.notSynchronized, ht, (name_of_methodNamed B.named B.method).1, B.returns, htr, rfl, rfl, hbs⟩
  have hC : r.2.1 ≤ (gRm y h r).cells + h.1 := by show r.2.1 ≤ r.2.1 - h.1 + h.1; omega
  have hSl : r.2.2.1 ≤ (gRm y h r).slots + h.2.1 := by show r.2.2.1 ≤ r.2.2.1 - h.2.1 + h.2.1; omega
  have hk := g_out (e := e) (below := below) (h0 := h) (res := r) hX hall hC hSl hcall hmath (hcp p e _ s m _ below meth c D base y h r hy hX) 4000 _ _ _ _ hr
  have hlen : (lg_sl (A.map ag_v)).length ≤ (gT y).1 := by
    have : ∀ zs : List ag_V, (lg_sl (zs.map ag_v)).length = zs.length := by
      intro zs
      induction zs with
      | nil => rfl
      | cons z zs ih => rcases z with x | _ | a <;> simp [lg_sl, ag_v, Value.category] at ih ⊢ <;> omega
    rw [this]; exact hA
  have hl := lv_entry (A.map ag_v) (n := (gT y).1) hlen
  show W p l e (gRm y h r) s m (A.map ag_v).toArray below meth c s.heap [] 0 0 _ (entryFrame m (A.map ag_v).toArray (gT y).1)
  rw [lg_entry_eq]
  generalize (lg_sl (A.map ag_v) ++ List.replicate ((gT y).1 - (lg_sl (A.map ag_v)).length) Slot.unset).toArray = ls at hl ⊢
  refine hk.1 s.heap ls [] 0 0 ⟨hrep, ⟨hl.1, hl.2.1, fun q hq => hl.2.2 q ?_⟩, va_S.rf, Nat.zero_add _, Nat.zero_add _⟩
  obtain ⟨k, v, hkv, rfl⟩ := (ag_al_mem _ 0 q).mp hq
  exact ag_args_at A 0 k v (ag_init_at A _ k v hkv)

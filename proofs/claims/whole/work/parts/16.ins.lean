/-! THE INSTRUCTIONS without a call, one theorem a family; 'gK K': behind the instruction all is well -/
section INS
variable {p : Program} {l : Launch} {e : Env} {R : Room} {s : State} {m : MethodId} {args : Array Value} {below : List Frame} {meth : Method} {c : Code} {D : ag_D} {base : Nat → Prop} {y : Nat} {h0 : ag_H} {res : ag_O × ag_H} {pc nx x1 x2 x3 : Nat} {L : ag_L} {S : List ag_V} {h : ag_H} {K : ag_K4}
def gK (p : Program) (l : Launch) (e : Env) (R : Room) (s : State) (m : MethodId) (args : Array Value) (below : List Frame) (meth : Method) (c : Code) (D : ag_D) (base : Nat → Prop) (y : Nat) (h0 : ag_H) (res : ag_O × ag_H) (K : ag_K4) : Prop :=
  ∀ (pc : Nat) (L : ag_L) (S : List ag_V) (h : ag_H), K pc L S h = some res → gP p l e R s m args below meth c D base y h0 res pc L S h
theorem g_aload (hx : p.tables.exec = Jvm.exec) (hb : c.code = gB y) (hK : gK p l e R s m args below meth c D base y h0 res K) {i : Nat}
    (hd : decode (gB y) pc = .ok (.aload i, 2)) (hr : ag_ldR L i (fun o => K (pc + 2) L (.inr o :: S) h) = some res) : gP p l e R s m args below meth c D base y h0 res pc L S h := by
  obtain ⟨o, hL, hk⟩ := g_ldR hr
  refine g_go1 (fun H ls locs cells slots hp k => ?_) (hK _ _ _ _ hk)
  cases o with
  | none => exact lv_aloadN hx hb hd (ag_has_at hp.2.1 hL) k
  | some a => exact lv_aload hx hb hd (ag_has_at hp.2.1 hL) k
theorem g_aload_n (hx : p.tables.exec = Jvm.exec) (hb : c.code = gB y) (hK : gK p l e R s m args below meth c D base y h0 res K) {i : Fin 4}
    (hd : decode (gB y) pc = .ok (.aload_n i, 1)) (hr : ag_ldR L i.val (fun o => K (pc + 1) L (.inr o :: S) h) = some res) : gP p l e R s m args below meth c D base y h0 res pc L S h := by
  obtain ⟨o, hL, hk⟩ := g_ldR hr
  refine g_go1 (fun H ls locs cells slots hp k => ?_) (hK _ _ _ _ hk)
  cases o with
  | none => exact lv_aload_nN hx hb hd rfl (ag_has_at hp.2.1 hL) k
  | some a => exact lv_aload_n hx hb hd rfl (ag_has_at hp.2.1 hL) k
theorem g_iload (hx : p.tables.exec = Jvm.exec) (hb : c.code = gB y) (hK : gK p l e R s m args below meth c D base y h0 res K) {i : Nat}
    (hd : decode (gB y) pc = .ok (.iload i, 2)) (hr : ag_ldI L i (fun o => K (pc + 2) L (.inl o :: S) h) = some res) : gP p l e R s m args below meth c D base y h0 res pc L S h := by
  obtain ⟨o, hL, hk⟩ := g_ldI hr
  exact g_go1 (fun H ls locs cells slots hp k => lv_iload hx hb hd (ag_has_at hp.2.1 hL) k) (hK _ _ _ _ hk)
theorem g_iload_n (hx : p.tables.exec = Jvm.exec) (hb : c.code = gB y) (hK : gK p l e R s m args below meth c D base y h0 res K) {i : Fin 4}
    (hd : decode (gB y) pc = .ok (.iload_n i, 1)) (hr : ag_ldI L i.val (fun o => K (pc + 1) L (.inl o :: S) h) = some res) : gP p l e R s m args below meth c D base y h0 res pc L S h := by
  obtain ⟨o, hL, hk⟩ := g_ldI hr
  exact g_go1 (fun H ls locs cells slots hp k => lv_iload_n hx hb hd rfl (ag_has_at hp.2.1 hL) k) (hK _ _ _ _ hk)
theorem g_astore (hx : p.tables.exec = Jvm.exec) (hb : c.code = gB y) (hK : gK p l e R s m args below meth c D base y h0 res K) {i : Nat} {o : Option Nat} (hn : i < (gT y).1)
    (hd : decode (gB y) pc = .ok (.astore i, 2)) (hr : K (pc + 2) (L.set i (some (.inr o))) S h = some res) : gP p l e R s m args below meth c D base y h0 res pc L (.inr o :: S) h := by
  refine g_st (v := .inr o) (fun H ls locs cells slots hp k => ?_) (hK _ _ _ _ hr)
  cases o with
  | none => exact lv_astoreN hx hb hd hp.2.1 hn rfl k
  | some a => exact lv_astore hx hb hd hp.2.1 hn rfl k
theorem g_astore_n (hx : p.tables.exec = Jvm.exec) (hb : c.code = gB y) (hK : gK p l e R s m args below meth c D base y h0 res K) {i : Fin 4} {o : Option Nat} (hn : i.val < (gT y).1)
    (hd : decode (gB y) pc = .ok (.astore_n i, 1)) (hr : K (pc + 1) (L.set i.val (some (.inr o))) S h = some res) : gP p l e R s m args below meth c D base y h0 res pc L (.inr o :: S) h := by
  refine g_st (v := .inr o) (fun H ls locs cells slots hp k => ?_) (hK _ _ _ _ hr)
  cases o with
  | none => exact lv_astore_nN hx hb hd rfl hp.2.1 hn rfl k
  | some a => exact lv_astore_n hx hb hd rfl hp.2.1 hn rfl k
theorem g_istore (hx : p.tables.exec = Jvm.exec) (hb : c.code = gB y) (hK : gK p l e R s m args below meth c D base y h0 res K) {i : Nat} {o : Int32} (hn : i < (gT y).1)
    (hd : decode (gB y) pc = .ok (.istore i, 2)) (hr : K (pc + 2) (L.set i (some (.inl o))) S h = some res) : gP p l e R s m args below meth c D base y h0 res pc L (.inl o :: S) h :=
  g_st (v := .inl o) (fun H ls locs cells slots hp k => lv_istore hx hb hd hp.2.1 hn rfl k) (hK _ _ _ _ hr)
theorem g_istore_n (hx : p.tables.exec = Jvm.exec) (hb : c.code = gB y) (hK : gK p l e R s m args below meth c D base y h0 res K) {i : Fin 4} {o : Int32} (hn : i.val < (gT y).1)
    (hd : decode (gB y) pc = .ok (.istore_n i, 1)) (hr : K (pc + 1) (L.set i.val (some (.inl o))) S h = some res) : gP p l e R s m args below meth c D base y h0 res pc L (.inl o :: S) h :=
  g_st (v := .inl o) (fun H ls locs cells slots hp k => lv_istore_n hx hb hd rfl hp.2.1 hn rfl k) (hK _ _ _ _ hr)
theorem g_iinc (hx : p.tables.exec = Jvm.exec) (hb : c.code = gB y) (hK : gK p l e R s m args below meth c D base y h0 res K) {i : Nat} {d : Int} (hn : i < (gT y).1)
    (hd : decode (gB y) pc = .ok (.iinc i d, 3)) (hr : ag_ldI L i (fun x => K (pc + 3) (L.set i (some (.inl (x + ag_lit d)))) S h) = some res) : gP p l e R s m args below meth c D base y h0 res pc L S h := by
  obtain ⟨x, hL, hk⟩ := g_ldI hr
  refine g_st (v := .inl (x + ag_lit d)) (fun H ls locs cells slots hp k => ?_) (hK _ _ _ _ hk)
  obtain ⟨k9, hk9⟩ := List.getElem?_of_mem ((ag_al_mem L 0 (i, .int x)).mpr ⟨i, .inl x, hL, by rw [Nat.zero_add]; rfl⟩)
  exact lv_iinc (v := x + ag_lit d) hx hb hd hp.2.1 hk9 rfl hn rfl k
theorem g_const (hx : p.tables.exec = Jvm.exec) (hb : c.code = gB y) (hK : gK p l e R s m args below meth c D base y h0 res K) {n : Int} :
    (decode (gB y) pc = .ok (.iconst n, 1) → K (pc + 1) L (.inl (ag_lit n) :: S) h = some res → gP p l e R s m args below meth c D base y h0 res pc L S h) ∧
    (decode (gB y) pc = .ok (.bipush n, 2) → K (pc + 2) L (.inl (ag_lit8 n) :: S) h = some res → gP p l e R s m args below meth c D base y h0 res pc L S h) ∧
    (decode (gB y) pc = .ok (.sipush n, 3) → K (pc + 3) L (.inl (ag_lit16 n) :: S) h = some res → gP p l e R s m args below meth c D base y h0 res pc L S h) :=
  ⟨fun hd hr => g_go1 (fun H ls locs cells slots hp k => lv_iconst hx hb hd rfl k) (hK _ _ _ _ hr),
   fun hd hr => g_go1 (fun H ls locs cells slots hp k => lv_bipush hx hb hd rfl k) (hK _ _ _ _ hr),
   fun hd hr => g_go1 (fun H ls locs cells slots hp k => lv_sipush hx hb hd rfl k) (hK _ _ _ _ hr)⟩
theorem g_bin (hx : p.tables.exec = Jvm.exec) (hb : c.code = gB y) (hK : gK p l e R s m args below meth c D base y h0 res K) {a b : Int32} :
    (decode (gB y) pc = .ok (.iadd, 1) → K (pc + 1) L (.inl (a + b) :: S) h = some res → gP p l e R s m args below meth c D base y h0 res pc L (.inl b :: .inl a :: S) h) ∧
    (decode (gB y) pc = .ok (.isub, 1) → K (pc + 1) L (.inl (a - b) :: S) h = some res → gP p l e R s m args below meth c D base y h0 res pc L (.inl b :: .inl a :: S) h) ∧
    (decode (gB y) pc = .ok (.imul, 1) → K (pc + 1) L (.inl (a * b) :: S) h = some res → gP p l e R s m args below meth c D base y h0 res pc L (.inl b :: .inl a :: S) h) ∧
    (decode (gB y) pc = .ok (.iand, 1) → K (pc + 1) L (.inl (a &&& b) :: S) h = some res → gP p l e R s m args below meth c D base y h0 res pc L (.inl b :: .inl a :: S) h) ∧
    (decode (gB y) pc = .ok (.ior, 1) → K (pc + 1) L (.inl (a ||| b) :: S) h = some res → gP p l e R s m args below meth c D base y h0 res pc L (.inl b :: .inl a :: S) h) ∧
    (decode (gB y) pc = .ok (.ishl, 1) → K (pc + 1) L (.inl (a <<< (b &&& 31)) :: S) h = some res → gP p l e R s m args below meth c D base y h0 res pc L (.inl b :: .inl a :: S) h) ∧
    (decode (gB y) pc = .ok (.iushr, 1) → K (pc + 1) L (.inl (a.toUInt32 >>> (b.toUInt32 &&& Int32.toUInt32 31)).toInt32 :: S) h = some res → gP p l e R s m args below meth c D base y h0 res pc L (.inl b :: .inl a :: S) h) ∧
    (decode (gB y) pc = .ok (.idiv, 1) → ¬ b = 0 → K (pc + 1) L (.inl (a / b) :: S) h = some res → gP p l e R s m args below meth c D base y h0 res pc L (.inl b :: .inl a :: S) h) ∧
    (decode (gB y) pc = .ok (.irem, 1) → ¬ b = 0 → K (pc + 1) L (.inl (a - a / b * b) :: S) h = some res → gP p l e R s m args below meth c D base y h0 res pc L (.inl b :: .inl a :: S) h) :=
  ⟨fun hd hr => g_go1 (fun H ls locs cells slots hp k => lv_iadd hx hb hd k) (hK _ _ _ _ hr),
   fun hd hr => g_go1 (fun H ls locs cells slots hp k => lv_isub hx hb hd k) (hK _ _ _ _ hr),
   fun hd hr => g_go1 (fun H ls locs cells slots hp k => lv_imul hx hb hd k) (hK _ _ _ _ hr),
   fun hd hr => g_go1 (fun H ls locs cells slots hp k => lv_iand hx hb hd k) (hK _ _ _ _ hr),
   fun hd hr => g_go1 (fun H ls locs cells slots hp k => lv_ior hx hb hd k) (hK _ _ _ _ hr),
   fun hd hr => g_go1 (fun H ls locs cells slots hp k => lv_ishl hx hb hd k) (hK _ _ _ _ hr),
   fun hd hr => g_go1 (fun H ls locs cells slots hp k => lv_iushr hx hb hd rfl k) (hK _ _ _ _ hr),
   fun hd h9 hr => g_go1 (fun H ls locs cells slots hp k => lv_idiv hx hb hd h9 k) (hK _ _ _ _ hr),
   fun hd h9 hr => g_go1 (fun H ls locs cells slots hp k => lv_irem hx hb hd h9 k) (hK _ _ _ _ hr)⟩
theorem g_misc (hx : p.tables.exec = Jvm.exec) (hb : c.code = gB y) (hK : gK p l e R s m args below meth c D base y h0 res K) {v w : ag_V} {x : Int32} :
    (decode (gB y) pc = .ok (.dup, 1) → K (pc + 1) L (v :: v :: S) h = some res → gP p l e R s m args below meth c D base y h0 res pc L (v :: S) h) ∧
    (decode (gB y) pc = .ok (.dup2, 1) → K (pc + 1) L (v :: w :: v :: w :: S) h = some res → gP p l e R s m args below meth c D base y h0 res pc L (v :: w :: S) h) ∧
    (decode (gB y) pc = .ok (.pop, 1) → K (pc + 1) L S h = some res → gP p l e R s m args below meth c D base y h0 res pc L (v :: S) h) ∧
    (decode (gB y) pc = .ok (.i2c, 1) → K (pc + 1) L (.inl (x.toUInt32 % 65536).toInt32 :: S) h = some res → gP p l e R s m args below meth c D base y h0 res pc L (.inl x :: S) h) :=
  ⟨fun hd hr => g_go1 (fun H ls locs cells slots hp k => lv_dup hx hb hd (ag_cat v) k) (hK _ _ _ _ hr),
   fun hd hr => g_go1 (fun H ls locs cells slots hp k => lv_dup2_11 hx hb hd (ag_cat v) (ag_cat w) k) (hK _ _ _ _ hr),
   fun hd hr => g_go1 (fun H ls locs cells slots hp k => lv_pop hx hb hd (ag_cat v) k) (hK _ _ _ _ hr),
   fun hd hr => g_go1 (fun H ls locs cells slots hp k => lv_i2c hx hb hd rfl k) (hK _ _ _ _ hr)⟩
theorem g_goto (hx : p.tables.exec = Jvm.exec) (hb : c.code = gB y) (hK : gK p l e R s m args below meth c D base y h0 res K) {off : Int} {b : Bool} (ht : (pc : Int) + off = (x1 : Int))
    (hd : decode (gB y) pc = .ok (.goto off, 3)) (hr : K x1 (bif b then ag_mask x2 L else L) S h = some res) : gP p l e R s m args below meth c D base y h0 res pc L S h := by
  have hk := hK _ _ _ _ hr
  refine ⟨fun H ls locs cells slots hp => lv_goto hx hb hd ht (hk.1 _ _ _ _ _ ⟨hp.1, ?_, hp.2.2⟩), hk.2⟩
  cases b
  · exact hp.2.1
  · exact ag_has_mask hp.2.1
theorem g_icmp (hx : p.tables.exec = Jvm.exec) (hb : c.code = gB y) (hK : gK p l e R s m args below meth c D base y h0 res K) {cd : ClassFile.Cond} {off : Int} {a b : Int32} (ht : (pc : Int) + off = (x1 : Int))
    (hd : decode (gB y) pc = .ok (.if_icmp cd off, 3)) (hr : ag_br cd a b (K x1 L S h) (K (pc + 3) L S h) = some res) : gP p l e R s m args below meth c D base y h0 res pc L (.inl b :: .inl a :: S) h := by
  have two : ∀ {q : Prop} [Decidable q], (if q then K x1 L S h else K (pc + 3) L S h) = some res → h.1 ≤ res.2.1 ∧ h.2.1 ≤ res.2.2.1 := by
    intro q dq hq
    split at hq
    · exact (hK _ _ _ _ hq).2
    · exact (hK _ _ _ _ hq).2
  cases cd with
  | eq =>
    have hr : (if a = b then K x1 L S h else K (pc + 3) L S h) = some res := hr
    exact ⟨fun H ls locs cells slots hp => lv_icmp_eq hx hb hd ht (fun q => (hK _ _ _ _ (by rw [if_pos q] at hr; exact hr)).1 _ _ _ _ _ hp) (fun q => (hK _ _ _ _ (by rw [if_neg q] at hr; exact hr)).1 _ _ _ _ _ hp), two hr⟩
  | ne =>
    have hr : (if a = b then K (pc + 3) L S h else K x1 L S h) = some res := hr
    refine ⟨fun H ls locs cells slots hp => lv_icmp_ne hx hb hd ht (fun q => (hK _ _ _ _ (by rw [if_neg q] at hr; exact hr)).1 _ _ _ _ _ hp) (fun q => (hK _ _ _ _ (by rw [if_pos q] at hr; exact hr)).1 _ _ _ _ _ hp), ?_⟩
    split at hr
    · exact (hK _ _ _ _ hr).2
    · exact (hK _ _ _ _ hr).2
  | lt =>
    have hr : (if a < b then K x1 L S h else K (pc + 3) L S h) = some res := hr
    exact ⟨fun H ls locs cells slots hp => lv_icmp_lt hx hb hd ht (fun q => (hK _ _ _ _ (by rw [if_pos q] at hr; exact hr)).1 _ _ _ _ _ hp) (fun q => (hK _ _ _ _ (by rw [if_neg q] at hr; exact hr)).1 _ _ _ _ _ hp), two hr⟩
  | ge =>
    have hr : (if b ≤ a then K x1 L S h else K (pc + 3) L S h) = some res := hr
    exact ⟨fun H ls locs cells slots hp => lv_icmp_ge hx hb hd ht (fun q => (hK _ _ _ _ (by rw [if_pos q] at hr; exact hr)).1 _ _ _ _ _ hp) (fun q => (hK _ _ _ _ (by rw [if_neg q] at hr; exact hr)).1 _ _ _ _ _ hp), two hr⟩
  | gt =>
    have hr : (if b < a then K x1 L S h else K (pc + 3) L S h) = some res := hr
    exact ⟨fun H ls locs cells slots hp => lv_icmp_gt hx hb hd ht (fun q => (hK _ _ _ _ (by rw [if_pos q] at hr; exact hr)).1 _ _ _ _ _ hp) (fun q => (hK _ _ _ _ (by rw [if_neg q] at hr; exact hr)).1 _ _ _ _ _ hp), two hr⟩
  | le =>
    have hr : (if a ≤ b then K x1 L S h else K (pc + 3) L S h) = some res := hr
    exact ⟨fun H ls locs cells slots hp => lv_icmp_le hx hb hd ht (fun q => (hK _ _ _ _ (by rw [if_pos q] at hr; exact hr)).1 _ _ _ _ _ hp) (fun q => (hK _ _ _ _ (by rw [if_neg q] at hr; exact hr)).1 _ _ _ _ _ hp), two hr⟩
theorem g_ifc (hx : p.tables.exec = Jvm.exec) (hb : c.code = gB y) (hK : gK p l e R s m args below meth c D base y h0 res K) {cd : ClassFile.Cond} {off : Int} {a : Int32} (ht : (pc : Int) + off = (x1 : Int))
    (hd : decode (gB y) pc = .ok (.ifCond cd off, 3)) (hr : ag_br cd a (ag_lit 0) (K x1 L S h) (K (pc + 3) L S h) = some res) : gP p l e R s m args below meth c D base y h0 res pc L (.inl a :: S) h := by
  have hz : ag_lit 0 = 0 := by decide
  rw [hz] at hr
  have two : ∀ {q : Prop} [Decidable q], (if q then K x1 L S h else K (pc + 3) L S h) = some res → h.1 ≤ res.2.1 ∧ h.2.1 ≤ res.2.2.1 := by
    intro q dq hq
    split at hq
    · exact (hK _ _ _ _ hq).2
    · exact (hK _ _ _ _ hq).2
  cases cd with
  | eq =>
    have hr : (if a = 0 then K x1 L S h else K (pc + 3) L S h) = some res := hr
    exact ⟨fun H ls locs cells slots hp => lv_if_eq hx hb hd ht (fun q => (hK _ _ _ _ (by rw [if_pos q] at hr; exact hr)).1 _ _ _ _ _ hp) (fun q => (hK _ _ _ _ (by rw [if_neg q] at hr; exact hr)).1 _ _ _ _ _ hp), two hr⟩
  | ne =>
    have hr : (if a = 0 then K (pc + 3) L S h else K x1 L S h) = some res := hr
    refine ⟨fun H ls locs cells slots hp => lv_if_ne hx hb hd ht (fun q => (hK _ _ _ _ (by rw [if_neg q] at hr; exact hr)).1 _ _ _ _ _ hp) (fun q => (hK _ _ _ _ (by rw [if_pos q] at hr; exact hr)).1 _ _ _ _ _ hp), ?_⟩
    split at hr
    · exact (hK _ _ _ _ hr).2
    · exact (hK _ _ _ _ hr).2
  | lt =>
    have hr : (if a < 0 then K x1 L S h else K (pc + 3) L S h) = some res := hr
    exact ⟨fun H ls locs cells slots hp => lv_if_lt hx hb hd ht (fun q => (hK _ _ _ _ (by rw [if_pos q] at hr; exact hr)).1 _ _ _ _ _ hp) (fun q => (hK _ _ _ _ (by rw [if_neg q] at hr; exact hr)).1 _ _ _ _ _ hp), two hr⟩
  | ge =>
    have hr : (if 0 ≤ a then K x1 L S h else K (pc + 3) L S h) = some res := hr
    exact ⟨fun H ls locs cells slots hp => lv_if_ge hx hb hd ht (fun q => (hK _ _ _ _ (by rw [if_pos q] at hr; exact hr)).1 _ _ _ _ _ hp) (fun q => (hK _ _ _ _ (by rw [if_neg q] at hr; exact hr)).1 _ _ _ _ _ hp), two hr⟩
  | gt =>
    have hr : (if 0 < a then K x1 L S h else K (pc + 3) L S h) = some res := hr
    exact ⟨fun H ls locs cells slots hp => lv_if_gt hx hb hd ht (fun q => (hK _ _ _ _ (by rw [if_pos q] at hr; exact hr)).1 _ _ _ _ _ hp) (fun q => (hK _ _ _ _ (by rw [if_neg q] at hr; exact hr)).1 _ _ _ _ _ hp), two hr⟩
  | le =>
    have hr : (if a ≤ 0 then K x1 L S h else K (pc + 3) L S h) = some res := hr
    exact ⟨fun H ls locs cells slots hp => lv_if_le hx hb hd ht (fun q => (hK _ _ _ _ (by rw [if_pos q] at hr; exact hr)).1 _ _ _ _ _ hp) (fun q => (hK _ _ _ _ (by rw [if_neg q] at hr; exact hr)).1 _ _ _ _ _ hp), two hr⟩
theorem g_null (hx : p.tables.exec = Jvm.exec) (hb : c.code = gB y) (hK : gK p l e R s m args below meth c D base y h0 res K) {off : Int} {o : Option Nat} (ht : (pc : Int) + off = (x1 : Int)) :
    (decode (gB y) pc = .ok (.ifnull off, 3) → (if o = none then K x1 L S h else K (pc + 3) L S h) = some res → gP p l e R s m args below meth c D base y h0 res pc L (.inr o :: S) h) ∧
    (decode (gB y) pc = .ok (.ifnonnull off, 3) → (if o = none then K (pc + 3) L S h else K x1 L S h) = some res → gP p l e R s m args below meth c D base y h0 res pc L (.inr o :: S) h) := by
  cases o with
  | none =>
    refine ⟨fun hd hr => ?_, fun hd hr => ?_⟩
    · have hk := hK _ _ _ _ hr
      exact ⟨fun H ls locs cells slots hp => lv_ifnullN hx hb hd ht (hk.1 _ _ _ _ _ hp), hk.2⟩
    · have hk := hK _ _ _ _ hr
      exact ⟨fun H ls locs cells slots hp => lv_ifnonnullN hx hb hd (hk.1 _ _ _ _ _ hp), hk.2⟩
  | some a =>
    refine ⟨fun hd hr => ?_, fun hd hr => ?_⟩
    · have hk := hK _ _ _ _ hr
      exact ⟨fun H ls locs cells slots hp => lv_ifnull hx hb hd (hk.1 _ _ _ _ _ hp), hk.2⟩
    · have hk := hK _ _ _ _ hr
      exact ⟨fun H ls locs cells slots hp => lv_ifnonnull hx hb hd ht (hk.1 _ _ _ _ _ hp), hk.2⟩
end INS

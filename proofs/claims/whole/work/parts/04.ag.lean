/-! THE ABSTRACT MACHINE: bytecode of methods without handlers, run over an abstract heap by a function. Values: an int, or a reference (none: null). A cell: its kind (below 100: the class of that number in vwCl; 100 + t: an array of the t-th type of ag_tys) and what it holds. A heap: its size, its slots, its cells by address. -/
abbrev vwCl : List vw_C := [(RX0, TX0, 4), (RX1, TX1, 3), (RX2, TX2, 3), (RX3, TX3, 6), (RX4, TX4, 3), (RX5, TX5, 3), (RX6, TX6, 2), (RX7, TX7, 6), (RX8, TX8, 2), (RX9, TX9, 8), (RX10, TX10, 13), (RX11, TX11, 42)]
abbrev ag_V : Type := Int32 ⊕ Option Nat
abbrev ag_C : Type := Nat × List ag_V
abbrev ag_H : Type := Nat × Nat × (Nat → Option ag_C)
abbrev ag_O : Type := Option ag_V ⊕ Nat
abbrev ag_R : Type := Option (ag_O × ag_H)
abbrev ag_L : Type := List (Option ag_V)
/-- an instruction of a method's table: its place, the instruction, the next place, three numbers (a link, a jump, a kind) -/
abbrev ag_I : Type := Nat × Instr × Nat × Nat × Nat × Nat
abbrev ag_K4 : Type := Nat → ag_L → List ag_V → ag_H → ag_R
def ag_v : ag_V → Value
  | .inl x => .int x
  | .inr none => .null
  | .inr (some a) => .ref a
def ag_up (f : Nat → Option ag_C) (a : Nat) (q : ag_C) : Nat → Option ag_C := fun b => if b = a then some q else f b
def ag_set (h : ag_H) (a : Nat) (q : ag_C) : ag_H := (h.1, h.2.1, ag_up h.2.2 a q)
def ag_new (h : ag_H) (n : Nat) (q : ag_C) : ag_H := (h.1 + 1, h.2.1 + n, ag_up h.2.2 h.1 q)
def ag_thr (h : ag_H) : ag_H := (h.1 + 1, h.2.1 + 6, h.2.2)
def ag_at (h : ag_H) (o : Option Nat) (k : Nat) (K : Nat → List ag_V → ag_R) : ag_R :=
  match o with
  | none => none
  | some a => match h.2.2 a with
    | none => none
    | some q => if q.1 = k then K a q.2 else none
def ag_gI (h : ag_H) (o : Option Nat) (ci k : Nat) (K : Int32 → ag_R) : ag_R := ag_at h o ci fun _ fs =>
  match fs[k]? with
  | some (.inl x) => K x
  | _ => none
def ag_gR (h : ag_H) (o : Option Nat) (ci k : Nat) (K : Option Nat → ag_R) : ag_R := ag_at h o ci fun _ fs =>
  match fs[k]? with
  | some (.inr x) => K x
  | _ => none
def ag_pF (h : ag_H) (o : Option Nat) (ci k : Nat) (v : ag_V) (K : ag_H → ag_R) : ag_R := ag_at h o ci fun a fs =>
  if k < fs.length then K (ag_set h a (ci, fs.set k v)) else none
def ag_xI (h : ag_H) (o : Option Nat) (t : Nat) (i : Int32) (K : Int32 → ag_R) : ag_R := ag_at h o t fun _ xs =>
  if i < 0 then none else match xs[i.toNatClampNeg]? with
  | some (.inl x) => K x
  | _ => none
def ag_xR (h : ag_H) (o : Option Nat) (t : Nat) (i : Int32) (K : Option Nat → ag_R) : ag_R := ag_at h o t fun _ xs =>
  if i < 0 then none else match xs[i.toNatClampNeg]? with
  | some (.inr x) => K x
  | _ => none
def ag_xP (h : ag_H) (o : Option Nat) (t : Nat) (i : Int32) (v : ag_V) (K : ag_H → ag_R) : ag_R := ag_at h o t fun a xs =>
  if i < 0 then none else if i.toNatClampNeg < xs.length then K (ag_set h a (t, xs.set i.toNatClampNeg v)) else none
def ag_xN (h : ag_H) (o : Option Nat) (t : Nat) (K : Int32 → ag_R) : ag_R := ag_at h o t fun _ xs => if xs.length < 100000 then K (nI xs.length) else none
/-- what is stored into an array of objects of class ci -/
def ag_oK (h : ag_H) (o : Option Nat) (ci : Nat) (K : ag_R) : ag_R :=
  match o with
  | none => K
  | some _ => ag_at h o ci fun _ _ => K
def ag_nn (o : Option Nat) (K : ag_R) : ag_R :=
  match o with
  | none => none
  | some _ => K
def ag_lit (n : Int) : Int32 := Int32.ofInt n
def ag_lit8 (n : Int) : Int32 := (Int8.ofInt n).toInt32
def ag_lit16 (n : Int) : Int32 := (Int16.ofInt n).toInt32
def ag_dv (y : Int32) (K : ag_R) : ag_R := if y = 0 then none else K
def ag_na (h : ag_H) (n : Int32) (t : Nat) (v : ag_V) (K : Option Nat → ag_H → ag_R) : ag_R :=
  if n < 0 then none else if n.toNatClampNeg < 100000 then K (some h.1) (ag_new h n.toNatClampNeg (t, List.replicate n.toNatClampNeg v)) else none
def ag_isC (x : Int32) (K : ag_R) : ag_R := if 0 ≤ x ∧ x < 65536 then K else none
def ag_isB (x : Int32) (K : ag_R) : ag_R := if x = 0 ∨ x = 1 then K else none
def ag_bI (r : ag_R) (K : Int32 → ag_H → ag_R) : ag_R :=
  match r with
  | some (.inl (some (.inl x)), h) => K x h
  | some (.inr e, h) => some (.inr e, h)
  | _ => none
def ag_bR (r : ag_R) (K : Option Nat → ag_H → ag_R) : ag_R :=
  match r with
  | some (.inl (some (.inr x)), h) => K x h
  | some (.inr e, h) => some (.inr e, h)
  | _ => none
def ag_bV (r : ag_R) (K : ag_H → ag_R) : ag_R :=
  match r with
  | some (.inl none, h) => K h
  | some (.inr e, h) => some (.inr e, h)
  | _ => none
/-- a constructor's call: it doesn't throw -/
def ag_bW (r : ag_R) (K : ag_H → ag_R) : ag_R :=
  match r with
  | some (.inl none, h) => K h
  | _ => none
def ag_has : Nat → List ag_V → Bool
  | 0, _ => true
  | _ + 1, [] => false
  | n + 1, _ :: S => ag_has n S
def ag_ldI (L : ag_L) (i : Nat) (K : Int32 → ag_R) : ag_R :=
  match L[i]? with
  | some (some (.inl x)) => K x
  | _ => none
def ag_ldR (L : ag_L) (i : Nat) (K : Option Nat → ag_R) : ag_R :=
  match L[i]? with
  | some (some (.inr x)) => K x
  | _ => none
def ag_mask : Nat → ag_L → ag_L
  | _, [] => []
  | m, v :: L => (bif Nat.beq (m % 2) 1 then v else none) :: ag_mask (m / 2) L
def ag_cc (c : ClassFile.Cond) (x y : Int32) : Bool := match c with
  | .eq => decide (x = y)
  | .ne => decide (¬ x = y)
  | .lt => decide (x < y)
  | .ge => decide (y ≤ x)
  | .gt => decide (y < x)
  | .le => decide (x ≤ y)
/-- default contents of an object of class ci: from the descriptors' types -/
def ag_df : FieldType → ag_V
  | .object _ => .inr none
  | .array _ => .inr none
  | _ => .inl 0
def ag_br (c : ClassFile.Cond) (x y : Int32) (A B : ag_R) : ag_R := match c with
  | .eq => if x = y then A else B
  | .ne => if x = y then B else A
  | .lt => if x < y then A else B
  | .ge => if y ≤ x then A else B
  | .gt => if y < x then A else B
  | .le => if x ≤ y then A else B
def ag_sw (x : Int32) (lo : Int) (ts : List ag_R) (d : ag_R) : ag_R :=
  if x.toInt < lo then d else match ts[(x.toInt - lo).toNat]? with
  | some r => r
  | none => d
/-- System.arraycopy between two arrays of chars -/
def ag_ch : ag_V → Bool
  | .inl x => decide (0 ≤ x ∧ x < 65536)
  | _ => false
def ag_cp (h : ag_H) (s : Option Nat) (sp : Int32) (d : Option Nat) (dp n : Int32) (K : ag_H → ag_R) : ag_R :=
  ag_at h s 101 fun _ xs => ag_at h d 101 fun b ys =>
    if sp < 0 ∨ dp < 0 ∨ n < 0 then none else
    if sp.toNatClampNeg + n.toNatClampNeg ≤ xs.length ∧ dp.toNatClampNeg + n.toNatClampNeg ≤ ys.length ∧ (List.range n.toNatClampNeg).all (fun i => ag_ch (xs.getD (sp.toNatClampNeg + i) (.inl 0))) = true then
      K (ag_set h b (101, (List.range ys.length).map fun j => va_cpy (fun k => xs.getD k (.inl 0)) (fun k => ys.getD k (.inl 0)) sp.toNatClampNeg dp.toNatClampNeg n.toNatClampNeg j))
    else none
/-- the default contents of a new object of a class -/
def ag_fs (ci : Nat) : List ag_V := match vwCl[ci]? with
  | some r => (List.range r.2.2).map fun k => match parseFieldDescriptor (r.2.1 k).2.2.1 with
    | some t => ag_df t
    | none => .inl 0
  | none => []
def ag_nw (h : ag_H) (ci : Nat) (K : Option Nat → ag_H → ag_R) : ag_R := K (some h.1) (ag_new h (ag_fs ci).length (ci, ag_fs ci))
/-- a call, by the kind of its answer (0: none, 1: an int, 2: a reference) -/
def ag_cl (x3 : Nat) (r : ag_R) (S : List ag_V) (K : List ag_V → ag_H → ag_R) : ag_R := match S.drop 8 with
  | [] => match x3 with
    | 0 => ag_bV r fun h => K S h
    | 1 => ag_bI r fun x h => K (.inl x :: S) h
    | _ => ag_bR r fun x h => K (.inr x :: S) h
  | _ => none
/-- the end of a method whose answer is of kind rt (0: none, 1: int, 2: a reference, 3: char, 4: boolean) -/
def ag_rI (rt : Nat) (x : Int32) (h : ag_H) : ag_R := match rt with
  | 1 => some (.inl (some (.inl x)), h)
  | 3 => ag_isC x (some (.inl (some (.inl x)), h))
  | 4 => ag_isB x (some (.inl (some (.inl x)), h))
  | _ => none
def ag_ex (rt : Nat) (call : Nat → List ag_V → ag_H → ag_R) (pc : Nat) (i : Instr) (nx x1 x2 x3 : Nat) (L : ag_L) (S : List ag_V) (h : ag_H) (K : ag_K4) : ag_R :=
  match i with
  | .aload_n n => ag_ldR L n.val fun o => K nx L (.inr o :: S) h
  | .aload n => ag_ldR L n fun o => K nx L (.inr o :: S) h
  | .iload_n n => ag_ldI L n.val fun o => K nx L (.inl o :: S) h
  | .iload n => ag_ldI L n fun o => K nx L (.inl o :: S) h
  | .astore_n n => match S with
    | .inr o :: S => K nx (L.set n.val (some (.inr o))) S h
    | _ => none
  | .astore n => match S with
    | .inr o :: S => K nx (L.set n (some (.inr o))) S h
    | _ => none
  | .istore_n n => match S with
    | .inl o :: S => K nx (L.set n.val (some (.inl o))) S h
    | _ => none
  | .istore n => match S with
    | .inl o :: S => K nx (L.set n (some (.inl o))) S h
    | _ => none
  | .iinc n d => ag_ldI L n fun x => K nx (L.set n (some (.inl (x + ag_lit d)))) S h
  | .iconst n => K nx L (.inl (ag_lit n) :: S) h
  | .bipush n => K nx L (.inl (ag_lit8 n) :: S) h
  | .sipush n => K nx L (.inl (ag_lit16 n) :: S) h
  | .aconst_null => K nx L (.inr none :: S) h
  | .dup => match S with
    | v :: S => K nx L (v :: v :: S) h
    | _ => none
  | .dup2 => match S with
    | v :: w :: S => K nx L (v :: w :: v :: w :: S) h
    | _ => none
  | .pop => match S with
    | _ :: S => K nx L S h
    | _ => none
  | .iadd => match S with
    | .inl y :: .inl x :: S => K nx L (.inl (x + y) :: S) h
    | _ => none
  | .isub => match S with
    | .inl y :: .inl x :: S => K nx L (.inl (x - y) :: S) h
    | _ => none
  | .imul => match S with
    | .inl y :: .inl x :: S => K nx L (.inl (x * y) :: S) h
    | _ => none
  | .idiv => match S with
    | .inl y :: .inl x :: S => ag_dv y (K nx L (.inl (x / y) :: S) h)
    | _ => none
  | .irem => match S with
    | .inl y :: .inl x :: S => ag_dv y (K nx L (.inl (x - x / y * y) :: S) h)
    | _ => none
  | .iand => match S with
    | .inl y :: .inl x :: S => K nx L (.inl (x &&& y) :: S) h
    | _ => none
  | .ior => match S with
    | .inl y :: .inl x :: S => K nx L (.inl (x ||| y) :: S) h
    | _ => none
  | .ishl => match S with
    | .inl y :: .inl x :: S => K nx L (.inl (x <<< (y &&& 31)) :: S) h
    | _ => none
  | .iushr => match S with
    | .inl y :: .inl x :: S => K nx L (.inl (x.toUInt32 >>> (y.toUInt32 &&& Int32.toUInt32 31)).toInt32 :: S) h
    | _ => none
  | .i2c => match S with
    | .inl x :: S => K nx L (.inl (x.toUInt32 % 65536).toInt32 :: S) h
    | _ => none
  | .goto _ => K x1 (bif Nat.beq x3 1 then ag_mask x2 L else L) S h
  | .ifCond c _ => match S with
    | .inl x :: S => ag_br c x (ag_lit 0) (K x1 L S h) (K nx L S h)
    | _ => none
  | .if_icmp c _ => match S with
    | .inl y :: .inl x :: S => ag_br c x y (K x1 L S h) (K nx L S h)
    | _ => none
  | .ifnull _ => match S with
    | .inr o :: S => if o = none then K x1 L S h else K nx L S h
    | _ => none
  | .ifnonnull _ => match S with
    | .inr o :: S => if o = none then K nx L S h else K x1 L S h
    | _ => none
  | .getfield _ => match S with
    | .inr o :: S => match x3 with
      | 0 => ag_gI h o x1 x2 fun x => K nx L (.inl x :: S) h
      | _ => ag_gR h o x1 x2 fun x => K nx L (.inr x :: S) h
    | _ => none
  | .putfield _ => match S with
    | .inl v :: .inr o :: S => match x3 with
      | 0 => ag_pF h o x1 x2 (.inl v) fun h => K nx L S h
      | 3 => ag_isC v (ag_pF h o x1 x2 (.inl v) fun h => K nx L S h)
      | 4 => ag_isB v (ag_pF h o x1 x2 (.inl v) fun h => K nx L S h)
      | _ => none
    | .inr v :: .inr o :: S => match x3 with
      | 1 => ag_pF h o x1 x2 (.inr v) fun h => K nx L S h
      | _ => none
    | _ => none
  | .iaload => match S with
    | .inl i :: .inr o :: S => ag_xI h o 100 i fun x => K nx L (.inl x :: S) h
    | _ => none
  | .caload => match S with
    | .inl i :: .inr o :: S => ag_xI h o 101 i fun x => K nx L (.inl x :: S) h
    | _ => none
  | .baload => match S with
    | .inl i :: .inr o :: S => ag_xI h o 102 i fun x => K nx L (.inl x :: S) h
    | _ => none
  | .aaload => match S with
    | .inl i :: .inr o :: S => ag_xR h o x1 i fun x => K nx L (.inr x :: S) h
    | _ => none
  | .iastore => match S with
    | .inl v :: .inl i :: .inr o :: S => ag_xP h o 100 i (.inl v) fun h => K nx L S h
    | _ => none
  | .castore => match S with
    | .inl v :: .inl i :: .inr o :: S => ag_isC v (ag_xP h o 101 i (.inl v) fun h => K nx L S h)
    | _ => none
  | .bastore => match S with
    | .inl v :: .inl i :: .inr o :: S => ag_isB v (ag_xP h o 102 i (.inl v) fun h => K nx L S h)
    | _ => none
  | .aastore => match S with
    | .inr v :: .inl i :: .inr o :: S => ag_oK h v x2 (ag_xP h o x1 i (.inr v) fun h => K nx L S h)
    | _ => none
  | .arraylength => match S with
    | .inr o :: S => ag_xN h o x1 fun x => K nx L (.inl x :: S) h
    | _ => none
  | .newarray _ => match S with
    | .inl n :: S => ag_na h n x1 (.inl 0) fun o h => K nx L (.inr o :: S) h
    | _ => none
  | .anewarray _ => match S with
    | .inl n :: S => ag_na h n x1 (.inr none) fun o h => K nx L (.inr o :: S) h
    | _ => none
  | .new _ => match x3 with
    | 9 => match S with
      | [] => some (.inr x1, ag_thr h)
      | _ => none
    | _ => ag_nw h x1 fun o h => K nx L (.inr o :: S) h
  | .invokespecial _ => match x3 with
    | 9 => match S with
      | [.inr o] => ag_nn o (K nx L [] h)
      | _ => none
    | _ => match S.drop x2 with
      | .inr o :: S' => ag_nn o (match S'.drop 8 with
        | [] => ag_bW (call x1 (.inr o :: (S.take x2).reverse) h) fun h => K nx L S' h
        | _ => none)
      | _ => none
  | .invokevirtual _ => match S.drop x2 with
    | .inr o :: S' => ag_at h o (x3 / 10) fun a _ => ag_cl (x3 % 10) (call x1 (.inr (some a) :: (S.take x2).reverse) h) S' fun S h => K nx L S h
    | _ => none
  | .tableswitch dflt lo _ offs => match S with
    | .inl x :: S => ag_sw x lo (offs.toList.map fun o => K ((pc : Int) + o).toNat L S h) (K ((pc : Int) + dflt).toNat L S h)
    | _ => none
  | .invokestatic _ => match x3 with
    | 99 => match S with
      | [.inl n, .inl dp, .inr d, .inl sp, .inr s] => ag_cp h s sp d dp n fun h => K nx L [] h
      | _ => none
    | _ => bif ag_has x2 S then ag_cl (x3 % 10) (call x1 (S.take x2).reverse h) (S.drop x2) fun S h => K nx L S h else none
  | .ireturn => match S with
    | [.inl x] => ag_rI rt x h
    | _ => none
  | .areturn => match S with
    | [.inr x] => bif Nat.beq rt 2 then some (.inl (some (.inr x)), h) else none
    | _ => none
  | .return_ => match S with
    | [] => bif Nat.beq rt 0 then some (.inl none, h) else none
    | _ => none
  | _ => none
def ag_in (rt : Nat) (call : Nat → List ag_V → ag_H → ag_R) (back : ag_K4) : List ag_I → ag_K4
  | [], _, _, _, _ => none
  | e :: es, pc, L, S, h => bif Nat.beq e.1 pc then ag_ex rt call e.1 e.2.1 e.2.2.1 e.2.2.2.1 e.2.2.2.2.1 e.2.2.2.2.2 L S h (fun pc' L' S' h' => bif Nat.blt e.1 pc' then ag_in rt call back es pc' L' S' h' else back pc' L' S' h') else ag_in rt call back es pc L S h
def ag_out (rt : Nat) (call : Nat → List ag_V → ag_H → ag_R) (tab : List ag_I) : Nat → ag_K4
  | 0 => fun _ _ _ _ => none
  | n + 1 => ag_in rt call (ag_out rt call tab n) tab
/-- a method y: how many locals, the kind of its answer, its table -/
abbrev ag_T : Type := Nat → Nat × Nat × List ag_I
def ag_run (T : ag_T) : Nat → Nat → List ag_V → ag_H → ag_R
  | 0, _, _, _ => none
  | d + 1, y, A, h => ag_out (T y).2.1 (ag_run T d) (T y).2.2 4000 0 (A.map some ++ List.replicate ((T y).1 - A.length) none) [] h
theorem ag_out_top (rt : Nat) (call : Nat → List ag_V → ag_H → ag_R) (tab : List ag_I) : ag_out rt call tab 4000 = ag_in rt call (ag_out rt call tab 3999) tab := rfl
